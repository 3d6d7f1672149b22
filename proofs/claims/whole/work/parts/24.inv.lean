/-! what the law's loop keeps -/
section INV
theorem IV_0 (C R : Nat) : IV C R (fun _ => 0) := ⟨fun _ _ => inC_0 C, fun _ _ _ => rfl⟩
theorem MV_0 (C R : Nat) : MV C R (fun _ => 0) := ⟨fun _ _ => ⟨0, Nat.zero_le _, rfl⟩, fun _ _ _ _ _ => rfl⟩
theorem IV_xor {C R c r : Nat} {fz : Nat → Int32} (hI : IV C R fz) (hC : C ≤ 12) (hc : c < C) (hr : r < R) : IV C R (upd fz r (fz r ^^^ ((1 : Int32) <<< (nI c &&& 31)))) := by
  refine ⟨fun k hk => ?_, fun k hk h12 => ?_⟩
  · by_cases e : k = r
    · subst e
      rw [pk_us]
      intro i hi
      rw [b_xor, hI.1 k hk i hi]
      by_cases h : i < 32
      · rw [bt_one (by omega) h]; simp; omega
      · rw [b_big (by omega)]; rfl
    · rw [pk_un e]; exact hI.1 k hk
  · rw [pk_un (by omega)]; exact hI.2 k hk h12
theorem row_of {R : Nat} {x : Int32} (hR : R ≤ 12) (h : ¬ sp_X1_hasRow R x = 0) : ∃ r, r < R ∧ x = nI r := by
  unfold sp_X1_hasRow at h
  by_cases h1 : x < 0
  · rw [if_pos h1] at h; exact absurd rfl h
  · rw [if_neg h1] at h
    by_cases h2 : nI R ≤ x
    · rw [if_pos h2] at h; exact absurd rfl h
    · obtain ⟨k, hk, rfl⟩ := nI_of h1
      exact ⟨k, Nat.lt_of_not_le (fun z => h2 (nI_le z hk)), rfl⟩
theorem cell_of {C R : Nat} {x y : Int32} (hC : C ≤ 12) (hR : R ≤ 12) (h : ¬ sp_X1_hasCell C R x y = 0) : ∃ c r, c < C ∧ r < R ∧ x = nI c ∧ y = nI r := by
  rw [hasCell_eq] at h
  by_cases h1 : sp_X1_hasRow C x = 0
  · rw [if_pos h1] at h; exact absurd rfl h
  · rw [if_neg h1] at h
    by_cases h2 : sp_X1_hasRow R y = 0
    · rw [if_pos h2] at h; exact absurd rfl h
    · obtain ⟨c, hc, e1⟩ := row_of hC h1
      obtain ⟨r, hr, e2⟩ := row_of hR h2
      exact ⟨c, r, hc, hr, e1, e2⟩
theorem has_row (n : Nat) (x : Int32) : sp_X2_has n x = sp_X1_hasRow n x := rfl
theorem IV_me {C R : Nat} {fz : Nat → Int32} (hI : IV C R fz) (hC : C ≤ 12) (hR : R ≤ 12) (x y : Int32) : IV C R (me_fz C R fz x y) := by
  unfold me_fz
  by_cases h : sp_X1_hasCell C R x y = 0
  · rw [if_pos h]; exact hI
  · rw [if_neg h]
    by_cases h2 : sp_X1_hasFrost fz x y = 0
    · rw [if_pos h2]; exact hI
    · rw [if_neg h2]
      obtain ⟨c, r, hc, hr, rfl, rfl⟩ := cell_of hC hR h
      rw [nI_clamp (by omega)]
      exact IV_xor hI hC hc hr
theorem MV_me {C R : Nat} {ml : Nat → Int32} (hM : MV C R ml) (hC : C ≤ 12) (hR : R ≤ 12) (x y : Int32) {g : Nat} (hg : g ≤ 9) : MV C R (me_ml C R ml x y (nI g)) := by
  unfold me_ml
  by_cases h : sp_X1_hasCell C R x y = 0
  · rw [if_pos h]; exact hM
  · rw [if_neg h]
    obtain ⟨c, r, hc, hr, rfl, rfl⟩ := cell_of hC hR h
    rw [nI_clamp (by omega), nI_clamp (by omega)]
    refine ⟨fun k hk => ?_, fun r1 c1 h1 h2 hn => ?_⟩
    · by_cases e : k = r * 12 + c
      · rw [e, pk_us]; exact ⟨g, hg, rfl⟩
      · rw [pk_un e]; exact hM.1 k hk
    · rw [pk_un (by intro e; apply hn; constructor <;> omega)]; exact hM.2 r1 c1 h1 h2 hn
theorem IV_pr5 {C R : Nat} {fz : Nat → Int32} (hI : IV C R fz) (hC : C ≤ 12) (hR : R ≤ 12) (c r : Nat) : IV C R (pr5 C R fz c r) :=
  IV_me (IV_me (IV_me (IV_me (IV_me hI hC hR _ _) hC hR _ _) hC hR _ _) hC hR _ _) hC hR _ _
theorem MV_pm5 {C R : Nat} {ml : Nat → Int32} (hM : MV C R ml) (hC : C ≤ 12) (hR : R ≤ 12) (c r : Nat) {g : Nat} (hg : g ≤ 9) : MV C R (pm5 C R ml c r g) :=
  MV_me (MV_me (MV_me (MV_me (MV_me hM hC hR _ _ hg) hC hR _ _ hg) hC hR _ _ hg) hC hR _ _ hg) hC hR _ _ hg
/-- what the state of the class and of the reference keeps -/
def LI (C R F n b : Nat) (fz ml : Nat → Int32) : Prop := (3 ≤ C ∧ C ≤ 12) ∧ (3 ≤ R ∧ R ≤ 12) ∧ F ≤ 2 ∧ (1 ≤ n ∧ n ≤ 6) ∧ b < n ∧ IV C R fz ∧ MV C R ml
theorem lg_cmp_self (x : Int64) : lg_cmp x x = 0 := by simp [lg_cmp]
/-- the launch's room -/
theorem lw_rc {a b : Nat} (h1 : a ≤ 601024) (h2 : b ≤ 7293034) : a ≤ room_1.cells ∧ b ≤ room_1.slots := ⟨h1, h2⟩
/-- what stands at the law's loop all the time -/
def lw_E (p : Program) (l : Launch) (s : State) (m : MethodId) (c : Code) (b L : Nat) (xs : Nat → Int32) (A : Nat → Prop) (D : va_G) (cI cZ cJ : ClassId) (sa : Nat → Nat) : Prop :=
  p.tables.exec = Jvm.exec ∧ c.code = cL_law ∧ c.maxLocals = 9 ∧ s.vm.findClass RL = some m.cls ∧ (∀ w ∈ wsL_law, w.before #[Value.ref b] s = true) ∧ va_X b L xs s s.heap ∧ b < s.heap.size ∧ (¬ A b) ∧ L ≤ 2048 ∧
  va_K D vwCl (fTY cI cZ cJ) s ∧ fN s ∧ fX sa s ∧ fZ A s s.heap ∧ (∀ q, s.heap.size ≤ q → A q) ∧ l.stackTraces = false
section
variable {p : Program} {l : Launch} {e : Env} {R : Room} {s : State} {m : MethodId} {args : Array Value} {below : List Frame} {meth : Method} {c : Code} {H : Heap} {locs : List Loc} {cells slots : Nat} {Q : State → Prop} {pc : Nat} {ls : Array Slot} {rest : List Value} {cc : ByteArray} {A : Nat → Prop}
theorem f_sld {b L k : Nat} {xs : Nat → Int32} {y : Int32} (hx : p.tables.exec = Jvm.exec) (hb : c.code = cc) (hX : va_X b L xs s s.heap) (hbl : b < s.heap.size) (hbA : ¬ A b) (hS : va_S A s.heap H locs) (hk : k < L) (hL : L ≤ 2048) (hy : xs k = y) (hdg : decode cc pc = .ok (.iaload, 1))
    (kk : W p l e R s m args below meth c H locs cells slots Q (F0 m (pc + 1) ls (.int y :: rest))) : W p l e R s m args below meth c H locs cells slots Q (F0 m pc ls (.int (nI k) :: .ref b :: rest)) :=
  va_sld hx hb hX hbl hbA hS (vp_in_nI hk (by omega)) hdg (by rw [nI_clamp (by omega), hy]; exact kk)
theorem f_lcmp {x : Int64} (hx : p.tables.exec = Jvm.exec) (hb : c.code = cc) (hdg : decode cc pc = .ok (.lcmp, 1))
    (kk : W p l e R s m args below meth c H locs cells slots Q (F0 m (pc + 1) ls (.int 0 :: rest))) : W p l e R s m args below meth c H locs cells slots Q (F0 m pc ls (.long x :: .long x :: rest)) :=
  W.lcmp hx hb hdg (by rw [lg_cmp_self]; exact kk)
end
end INV
