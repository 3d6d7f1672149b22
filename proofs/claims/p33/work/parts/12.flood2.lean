section FLE
theorem b_taL (lf F : Nat → Int32) (k : Nat) {i : Nat} (hi : i < 32) : bt (taL lf F k) i = (bt (lf k) i && !bt (F k) i) := by
  unfold taL
  rw [b_and, b_xor, b_m1 i hi]
  cases bt (F k) i <;> rfl
theorem taL_t {lf F : Nat → Int32} (hL : inR lf) {k i : Nat} (hk : k < 12) (h : bt (taL lf F k) i = true) : bt (lf k) i = true ∧ bt (F k) i = false := by
  have h1 : bt (lf k) i = true := by unfold taL at h; rw [b_and, Bool.and_eq_true] at h; exact h.1
  rw [b_taL lf F k (by have := inC_lt (hL k hk) h1; omega), h1, Bool.true_and] at h
  exact ⟨h1, by cases hf : bt (F k) i <;> simp_all⟩
theorem inR_Sub {g lf : Nat → Int32} (hL : inR lf) (h : Sub g lf) : inR g := fun k hk i hi => Bool.eq_false_iff.mpr fun z => by
  have := inC_lt (hL k hk) (h k hk i z); omega
theorem Sub_tr {a b c : Nat → Int32} (h : Sub a b) (h2 : Sub b c) : Sub a c := fun k hk i z => h2 k hk i (h k hk i z)
theorem Sub_taL {lf F : Nat → Int32} : Sub (taL lf F) lf := fun k _ i h => by unfold taL at h; rw [b_and, Bool.and_eq_true] at h; exact h.1
/-- what is left stays closed in the pane when a whole flower is taken away -/
theorem Clo_taL {lf fz F : Nat → Int32} (hF : inR fz) (hlf : Sub lf fz) (hc : Clo lf fz) (hs : Sub F lf) (hcf : Clo F lf) : Clo (taL lf F) fz := by
  have hL := inR_Sub hF hlf
  have hFR := inR_Sub hL hs
  intro k hk i hi hr hz
  have mono : rch (taL lf F) k i = true → rch lf k i = true := by
    intro h
    unfold rch at h ⊢
    simp only [Bool.or_eq_true, Bool.and_eq_true, decide_eq_true_eq] at h ⊢
    rcases h with (((h | h) | h) | h) | h
    · exact Or.inl (Or.inl (Or.inl (Or.inl (Sub_taL k hk i h))))
    · exact Or.inl (Or.inl (Or.inl (Or.inr ⟨h.1, Sub_taL k hk _ h.2⟩)))
    · exact Or.inl (Or.inl (Or.inr (Sub_taL k hk _ h)))
    · refine Or.inl (Or.inr ?_)
      unfold upR at h ⊢; by_cases e : k = 0
      · rw [if_pos e] at h ⊢; exact h
      · rw [if_neg e] at h ⊢; exact Sub_taL _ (by omega) i h
    · refine Or.inr ?_
      unfold dnR at h ⊢; by_cases e : k + 1 < 12
      · rw [if_pos e] at h ⊢; exact Sub_taL _ e i h
      · rw [if_neg e] at h ⊢; exact h
  have hl := hc k hk i hi (mono hr) hz
  rw [b_taL lf F k (by omega), hl, Bool.true_and]
  cases hf : bt (F k) i with
  | false => rfl
  | true =>
    exfalso
    unfold rch at hr
    simp only [Bool.or_eq_true, Bool.and_eq_true, decide_eq_true_eq] at hr
    have done : ∀ q j, q < 12 → bt (taL lf F q) j = true → rch F q j = true → False := fun q j hq h1 h2 => by
      obtain ⟨a1, a2⟩ := taL_t hL hq h1
      rw [hcf q hq j (inC_lt (hL q hq) a1) h2 a1] at a2; cases a2
    rcases hr with (((h | h) | h) | h) | h
    · refine done k i hk h ?_
      unfold rch; rw [hf]; rfl
    · refine done k (i - 1) hk h.2 ?_
      unfold rch
      rw [show i - 1 + 1 = i by omega, hf]; simp
    · refine done k (i + 1) hk h ?_
      unfold rch
      rw [Nat.add_sub_cancel, hf]; simp
    · unfold upR at h
      by_cases e : k = 0
      · rw [if_pos e, b_0] at h; cases h
      · rw [if_neg e] at h
        refine done (k - 1) i (by omega) h ?_
        unfold rch
        have : bt (dnR F (k - 1)) i = true := by unfold dnR; rw [if_pos (by omega), show k - 1 + 1 = k by omega]; exact hf
        rw [this]; simp
    · unfold dnR at h
      by_cases e : k + 1 < 12
      · rw [if_pos e] at h
        refine done (k + 1) i e h ?_
        unfold rch
        have : bt (upR F (k + 1)) i = true := by unfold upR; rw [if_neg (by omega), Nat.add_sub_cancel]; exact hf
        rw [this]; simp
      · rw [if_neg e, b_0] at h; cases h
theorem Clo_self {fz : Nat → Int32} : Clo fz fz := fun _ _ _ _ _ h => h
theorem Sub_self {fz : Nat → Int32} : Sub fz fz := fun _ _ _ h => h
theorem bt_pk1 {c r q i : Nat} (hc : c < 12) (hi : i < 32) : bt (pk1 c r q) i = (decide (q = r) && decide (i = c)) := by
  unfold pk1
  by_cases e : q = r
  · subst e; rw [pk_us, bt_one (by omega) hi]; simp
  · rw [pk_un e, b_0]; simp [e]
theorem pk1_in {c r q i : Nat} (hc : c < 12) (h : bt (pk1 c r q) i = true) : q = r ∧ i = c := by
  have hi : i < 32 := Nat.lt_of_not_le fun z => by rw [b_big z] at h; cases h
  rw [bt_pk1 hc hi] at h
  simpa using h
theorem Sub_pk1 {lf : Nat → Int32} {c r : Nat} (hc : c < 12) (h : bt (lf r) c = true) : Sub (pk1 c r) lf := fun q _ i z => by
  obtain ⟨e1, e2⟩ := pk1_in hc z
  rw [e1, e2]; exact h
theorem sz_0 : ∀ n, sz (fun _ => 0) n = 0
  | 0 => rfl
  | n + 1 => by unfold sz; rw [sz_0 n]; show 0 + szr 0 12 = 0; decide +kernel
theorem sz_pk1 {c r : Nat} (hc : c < 12) (hr : r < 12) : 1 ≤ sz (pk1 c r) 12 := by
  have h := sz_upd (g := fun _ => 0) (k := r) (v := (1 : Int32) <<< (nI c &&& 31)) (n := 12) hr
  rw [sz_0] at h
  have h2 : szr ((fun _ => (0 : Int32)) r) 12 = 0 := by show szr 0 12 = 0; decide +kernel
  rw [h2] at h
  have h3 := szr_lt (x := 0) (y := (1 : Int32) <<< (nI c &&& 31)) (fun i z => by rw [b_0] at z; cases z) (i := c) (by rw [bt_one (by omega) (by omega)]; simp) (b_0 c) (n := 12) hc
  unfold pk1
  omega
theorem pkg_fuel {lf : Nat → Int32} (hL : inR lf) : ∀ (d : Nat) (g : Nat → Int32), Sub g lf → 145 ≤ sz g 12 + d → pkg lf (d + 1) g = pkg lf d g
  | 0, g, _, h => by have := sz_le g 12; omega
  | d + 1, g, hs, h => by
    by_cases h1 : wdc lf g 12 = 0
    · rw [pkg_end h1, pkg_end h1]
    · have hz := sz_wdn hL hs 12 (Nat.le_refl _)
      rw [if_neg h1] at hz
      rw [pkg_more h1, pkg_more h1, pkg_fuel hL d _ (Sub_wdn hs 12) (by omega)]
theorem IV_R {C R : Nat} {fz : Nat → Int32} (hI : IV C R fz) (hC : C ≤ 12) : inR fz := fun k hk i hi => by
  by_cases h : k < R
  · exact hI.1 k h i (by omega)
  · rw [hI.2 k (by omega) hk, b_0]
theorem bit_0 (x : Int32) {c : Nat} (hc : c < 32) : ((x >>> (nI c &&& 31)) &&& 1) = 0 ↔ bt x c = false := by
  rw [b_at x hc]
  cases bt x c <;> decide
end FLE
