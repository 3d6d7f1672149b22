/-! pure facts of the class rows and melted cells -/
section PV
theorem sub1 {C : Nat} (h : 1 ≤ C) : nI C - 1 = nI (C - 1) := pk_sub (b := 1) h
theorem hasCell_eq (C R : Nat) (col row : Int32) : sp_X1_hasCell C R col row = if sp_X1_hasRow C col = 0 then 0 else if sp_X1_hasRow R row = 0 then 0 else 1 := by
  unfold sp_X1_hasCell
  by_cases h1 : col < 0
  · rw [if_pos h1, if_pos (by unfold sp_X1_hasRow; rw [if_pos h1])]
  · rw [if_neg h1]
    by_cases h2 : nI C ≤ col
    · rw [if_pos h2, if_pos (by unfold sp_X1_hasRow; rw [if_neg h1, if_pos h2])]
    · rw [if_neg h2, if_neg (show ¬ sp_X1_hasRow C col = 0 by unfold sp_X1_hasRow; rw [if_neg h1, if_neg h2]; decide)]
theorem F3 {F : Nat} (h : F ≤ 2) : F = 0 ∨ F = 1 ∨ F = 2 := by omega
def fOut (F : Nat) : Int32 := if nI F = 1 then -1 else 0
theorem framed_at {C R F : Nat} (fz : Nat → Int32) {r : Nat} (hr : r < R) (hR : R ≤ 12) : sp_X1_framed C R F fz (nI r) = sp_X1_withSides C F (fz r) := by
  unfold sp_X1_framed
  rw [if_neg (by rw [sp_hasRow_in hr hR]; decide), sp_bits_in (by omega)]
theorem hasRow_m1 (R : Nat) : sp_X1_hasRow R (-1) = 0 := by unfold sp_X1_hasRow; rw [if_pos (by decide)]
theorem hasRow_hi {R : Nat} (hR : R ≤ 12) : sp_X1_hasRow R (nI R) = 0 := by unfold sp_X1_hasRow; rw [if_neg (nI_pos (by omega)), if_pos (nI_le (Nat.le_refl _) (by omega))]
theorem framed_lo {C R F : Nat} (fz : Nat → Int32) (hR3 : 3 ≤ R) (hR : R ≤ 12) (hF : F ≤ 2) : sp_X1_framed C R F fz (-1) = if F = 2 then sp_X1_withSides C F (fz (R - 1)) else fOut F := by
  unfold sp_X1_framed
  rw [if_pos (hasRow_m1 R)]
  rcases F3 hF with rfl | rfl | rfl
  · rw [if_neg (by decide), if_neg (by decide)]; rfl
  · rw [if_neg (by decide), if_pos (by decide)]; rfl
  · rw [if_pos (by decide), if_neg (by decide), if_pos rfl, sub1 (by omega), sp_bits_in (by omega)]
theorem framed_hi {C R F : Nat} (fz : Nat → Int32) (hR3 : 3 ≤ R) (hR : R ≤ 12) (hF : F ≤ 2) : sp_X1_framed C R F fz (nI R) = if F = 2 then sp_X1_withSides C F (fz 0) else fOut F := by
  unfold sp_X1_framed
  rw [if_pos (hasRow_hi hR)]
  rcases F3 hF with rfl | rfl | rfl
  · rw [if_neg (by decide), if_neg (by decide)]; rfl
  · rw [if_neg (by decide), if_pos (by decide)]; rfl
  · rw [if_pos (by decide), if_pos (nI_pos' (by omega)), if_pos rfl, show sp_X1_bitsOf fz 0 = fz 0 from sp_bits_in (r := 0) (by omega)]
def IV (C R : Nat) (fz : Nat → Int32) : Prop := (∀ r, r < R → inC C (fz r)) ∧ ∀ r, R ≤ r → r < 12 → fz r = 0
theorem melt_in {ml : Nat → Int32} {r c : Nat} (hr : r < 12) (hc : c < 12) : sp_X1_meltOf ml (nI c) (nI r) = ml (r * 12 + c) := by
  have e : nI r * 12 + nI c = nI (r * 12 + c) := by rw [show (12 : Int32) = nI 12 from rfl, pk_mul, nI_add]
  unfold sp_X1_meltOf
  rw [e, if_neg (nI_pos (by omega)), if_neg (show ¬ (144 : Int32) ≤ nI (r * 12 + c) from nI_ge (b := 144) (by omega) (by omega)), nI_clamp (by omega)]
theorem bt_one {k i : Nat} (hk : k < 32) (hi : i < 32) : bt ((1 : Int32) <<< (nI k &&& 31)) i = decide (i = k) := by
  rw [b_shl k hk 1 hi]
  by_cases h : k ≤ i
  · rw [b_n1 _ (by omega)]
    by_cases e : i = k
    · simp [e]
    · have : ¬ i - k = 0 := by omega
      simp [e, this]
  · have : ¬ i = k := by omega
    simp [h, this]
theorem inC_ite {k : Nat} {A B : Int32} {p q : Prop} [Decidable p] [Decidable q] (hA : inC k A) (hB : inC k B) : inC k (if p then (if q then A else B) else B) := by
  split
  · split
    · exact hA
    · exact hB
  · exact hB
theorem gro_in (C R F : Nat) (fz ml : Nat → Int32) (row fr st : Int32) : ∀ k, k ≤ 12 → inC k (gro C R F fz ml row fr st k)
  | 0, _ => inC_0 0
  | k + 1, hk => by
    have ih := gro_in C R F fz ml row fr st k (by omega)
    have h : ∀ i, k + 1 ≤ i → bt (gro C R F fz ml row fr st k ||| ((1 : Int32) <<< (nI k &&& 31))) i = false := fun i hi => by
      rw [b_or, ih i (by omega)]
      by_cases h : i < 32
      · rw [bt_one (by omega) h]; simp; omega
      · rw [b_big (by omega)]; rfl
    unfold gro
    exact inC_ite (fun i hi => h i hi) (fun i hi => ih i (by omega))
theorem IV_step {C R F : Nat} {fz ml : Nat → Int32} {fr st : Int32} (hI : IV C R fz) (hC : C ≤ 12) : IV C R (stF C R F fz ml fr st) := by
  refine ⟨fun r hr => ?_, fun r hr h12 => ?_⟩
  · unfold stF; rw [sfill_lt hr]; exact gro_in C R F fz ml (nI r) fr st C hC
  · unfold stF; rw [sfill_ge hr]; exact hI.2 r hr h12
theorem IV_it {C R F : Nat} {fz ml : Nat → Int32} {fr st : Int32} (hI : IV C R fz) (hC : C ≤ 12) : ∀ k, IV C R (itF C R F fz ml fr st k)
  | 0 => hI
  | k + 1 => IV_step (IV_it hI hC k) hC
def MV (C R : Nat) (ml : Nat → Int32) : Prop := (∀ k, k < 144 → ∃ m : Nat, m ≤ 9 ∧ ml k = nI m) ∧ ∀ r c, r < 12 → c < 12 → ¬ (r < R ∧ c < C) → ml (r * 12 + c) = 0
theorem ml1_n {m : Nat} (h : m ≤ 9) : ml1 (nI m) = nI (m - 1) := by
  rcases (show m = 0 ∨ m = 1 ∨ m = 2 ∨ m = 3 ∨ m = 4 ∨ m = 5 ∨ m = 6 ∨ m = 7 ∨ m = 8 ∨ m = 9 by omega) with rfl | rfl | rfl | rfl | rfl | rfl | rfl | rfl | rfl | rfl <;> decide
theorem MV_step {C R : Nat} {ml : Nat → Int32} (h : MV C R ml) : MV C R (fun j => ml1 (ml j)) := by
  refine ⟨fun k hk => ?_, fun r c hr hc hn => ?_⟩
  · obtain ⟨m, hm, e⟩ := h.1 k hk
    exact ⟨m - 1, by omega, by show ml1 (ml k) = _; rw [e, ml1_n hm]⟩
  · show ml1 (ml (r * 12 + c)) = 0
    rw [h.2 r c hr hc hn]; decide
theorem MV_it {C R : Nat} {ml : Nat → Int32} (h : MV C R ml) : ∀ k, MV C R (itM ml k)
  | 0 => h
  | k + 1 => MV_step (MV_it h k)
theorem IV_0 (C R : Nat) : IV C R (fun _ => 0) := ⟨fun _ _ => inC_0 C, fun _ _ _ => rfl⟩
theorem MV_0 (C R : Nat) : MV C R (fun _ => 0) := ⟨fun _ _ => ⟨0, Nat.zero_le _, rfl⟩, fun _ _ _ _ _ => rfl⟩
theorem IV_xor {C R c r : Nat} {fz : Nat → Int32} (hI : IV C R fz) (hC : C ≤ 12) (hc : c < C) (hr : r < R) : IV C R (upd fz r (fz r ^^^ ((1 : Int32) <<< (nI c &&& 31)))) := by
  refine ⟨fun k hk => ?_, fun k hk h12 => ?_⟩
  · by_cases e : k = r
    · subst e
      rw [pk_us]
      intro i hi
      rw [b_xor, hI.1 k hk i hi]
      by_cases h : i < 32
      · rw [bt_one (by omega) h]; simp; omega
      · rw [b_big (by omega)]; rfl
    · rw [pk_un e]; exact hI.1 k hk
  · rw [pk_un (by omega)]; exact hI.2 k hk h12
theorem row_of {R : Nat} {x : Int32} (hR : R ≤ 12) (h : ¬ sp_X1_hasRow R x = 0) : ∃ r, r < R ∧ x = nI r := by
  unfold sp_X1_hasRow at h
  by_cases h1 : x < 0
  · rw [if_pos h1] at h; exact absurd rfl h
  · rw [if_neg h1] at h
    by_cases h2 : nI R ≤ x
    · rw [if_pos h2] at h; exact absurd rfl h
    · obtain ⟨k, hk, rfl⟩ := nI_of h1
      exact ⟨k, Nat.lt_of_not_le (fun z => h2 (nI_le z hk)), rfl⟩
theorem cell_of {C R : Nat} {x y : Int32} (hC : C ≤ 12) (hR : R ≤ 12) (h : ¬ sp_X1_hasCell C R x y = 0) : ∃ c r, c < C ∧ r < R ∧ x = nI c ∧ y = nI r := by
  rw [hasCell_eq] at h
  by_cases h1 : sp_X1_hasRow C x = 0
  · rw [if_pos h1] at h; exact absurd rfl h
  · rw [if_neg h1] at h
    by_cases h2 : sp_X1_hasRow R y = 0
    · rw [if_pos h2] at h; exact absurd rfl h
    · obtain ⟨c, hc, e1⟩ := row_of hC h1
      obtain ⟨r, hr, e2⟩ := row_of hR h2
      exact ⟨c, r, hc, hr, e1, e2⟩
theorem has_row (n : Nat) (x : Int32) : sp_X2_has n x = sp_X1_hasRow n x := rfl
theorem IV_me {C R : Nat} {fz : Nat → Int32} (hI : IV C R fz) (hC : C ≤ 12) (hR : R ≤ 12) (x y : Int32) : IV C R (me_fz C R fz x y) := by
  unfold me_fz
  by_cases h : sp_X1_hasCell C R x y = 0
  · rw [if_pos h]; exact hI
  · rw [if_neg h]
    by_cases h2 : sp_X1_hasFrost fz x y = 0
    · rw [if_pos h2]; exact hI
    · rw [if_neg h2]
      obtain ⟨c, r, hc, hr, rfl, rfl⟩ := cell_of hC hR h
      rw [nI_clamp (by omega)]
      exact IV_xor hI hC hc hr
theorem MV_me {C R : Nat} {ml : Nat → Int32} (hM : MV C R ml) (hC : C ≤ 12) (hR : R ≤ 12) (x y : Int32) {g : Nat} (hg : g ≤ 9) : MV C R (me_ml C R ml x y (nI g)) := by
  unfold me_ml
  by_cases h : sp_X1_hasCell C R x y = 0
  · rw [if_pos h]; exact hM
  · rw [if_neg h]
    obtain ⟨c, r, hc, hr, rfl, rfl⟩ := cell_of hC hR h
    rw [nI_clamp (by omega), nI_clamp (by omega)]
    refine ⟨fun k hk => ?_, fun r1 c1 h1 h2 hn => ?_⟩
    · by_cases e : k = r * 12 + c
      · rw [e, pk_us]; exact ⟨g, hg, rfl⟩
      · rw [pk_un e]; exact hM.1 k hk
    · rw [pk_un (by intro e; apply hn; constructor <;> omega)]; exact hM.2 r1 c1 h1 h2 hn
theorem IV_pr5 {C R : Nat} {fz : Nat → Int32} (hI : IV C R fz) (hC : C ≤ 12) (hR : R ≤ 12) (c r : Nat) : IV C R (pr5 C R fz c r) :=
  IV_me (IV_me (IV_me (IV_me (IV_me hI hC hR _ _) hC hR _ _) hC hR _ _) hC hR _ _) hC hR _ _
theorem MV_pm5 {C R : Nat} {ml : Nat → Int32} (hM : MV C R ml) (hC : C ≤ 12) (hR : R ≤ 12) (c r : Nat) {g : Nat} (hg : g ≤ 9) : MV C R (pm5 C R ml c r g) :=
  MV_me (MV_me (MV_me (MV_me (MV_me hM hC hR _ _ hg) hC hR _ _ hg) hC hR _ _ hg) hC hR _ _ hg) hC hR _ _ hg
def LI (C R F n b : Nat) (fz ml : Nat → Int32) : Prop := (3 ≤ C ∧ C ≤ 12) ∧ (3 ≤ R ∧ R ≤ 12) ∧ F ≤ 2 ∧ (1 ≤ n ∧ n ≤ 6) ∧ b < n ∧ IV C R fz ∧ MV C R ml
theorem lg_cmp_self (x : Int64) : lg_cmp x x = 0 := by simp [lg_cmp]
end PV
