/-! what is told ahead -/
section AHD
variable {C R F : Nat} {fz ml : Nat → Int32} {fr st : Int32}
theorem agn_spec : ∀ n k, agn C R F fz ml fr st n k = -1 ∨ ∃ j, k ≤ j ∧ j < k + n ∧ agn C R F fz ml fr st n k = nI j ∧ lk C R (itF C R F fz ml fr st j) (itM ml j) fz ml = true
  | 0, _ => Or.inl (by rw [agn])
  | n + 1, k => by
    cases h : lk C R (itF C R F fz ml fr st k) (itM ml k) fz ml with
    | true => exact Or.inr ⟨k, Nat.le_refl _, by omega, agn_yes h, h⟩
    | false =>
      rcases agn_spec n (k + 1) with e | ⟨j, h1, h2, h3, h4⟩
      · exact Or.inl ((agn_no h).trans e)
      · exact Or.inr ⟨j, by omega, by omega, (agn_no h).trans h3, h4⟩
theorem stl_spec : ∀ n k, stl C R F fz ml fr st n k = -1 ∨ ∃ j, k ≤ j ∧ j < k + n ∧ stl C R F fz ml fr st n k = nI j ∧ cme (itM ml j) 144 = 0 ∧ tkc (itF C R F fz ml fr st j) (stG C R F (itF C R F fz ml fr st j) (itM ml j) fr st) R = 0
  | 0, _ => Or.inl (by rw [stl])
  | n + 1, k => by
    by_cases h : cme (itM ml k) 144 = 0 ∧ tkc (itF C R F fz ml fr st k) (stG C R F (itF C R F fz ml fr st k) (itM ml k) fr st) R = 0
    · exact Or.inr ⟨k, Nat.le_refl _, by omega, stl_yes h.1 h.2, h.1, h.2⟩
    · rcases stl_spec n (k + 1) with e | ⟨j, h1, h2, h3, h4⟩
      · exact Or.inl ((stl_no h).trans e)
      · exact Or.inr ⟨j, by omega, by omega, (stl_no h).trans h3, h4⟩
theorem ml1_dn {a : Nat} (ha : a < 2 ^ 20) : ml1 (nI a) = nI (a - 1) := by
  unfold ml1
  rcases a with _ | a
  · rw [if_pos (by decide)]
  · rw [if_neg (fun z => by have := (nI_leI (a := a + 1) (b := 0) (by omega) (by omega)).mp z; omega), nI_pred]; rfl
theorem itM_n {m j : Nat} (hm : m ≤ 9) (h : ml j = nI m) : ∀ k, itM ml k j = nI (m - k)
  | 0 => h
  | k + 1 => by
    show ml1 (itM ml k j) = _
    rw [itM_n hm h k, ml1_dn (by omega), Nat.sub_sub]
theorem agn_melt (hM : MV C R ml) (hI : IV C R fz) (hC : C ≤ 12) (hR : R ≤ 12) {j : Nat} (hj : 1 ≤ j) (h : lk C R (itF C R F fz ml fr st j) (itM ml j) fz ml = true) : ∀ r, r < R → ∀ c, c < C → mltG ml r c = 0 := fun r hr c hc => by
  have h2 := ((lk_n (IV_it hI hC j) hI hC hR).mpr h r hr c hc).2
  obtain ⟨m, hm, e⟩ := hM.1 (r * 12 + c) (by omega)
  have h3 : itM ml j (r * 12 + c) = ml (r * 12 + c) := h2
  rw [itM_n hm e j, e] at h3
  have h4 := (nI_inj (by omega) (by omega)).mp h3
  show ml (r * 12 + c) = 0
  rw [e, show m = 0 by omega]; rfl
theorem pz_le (x : Int32) : pz x ≤ 1 := by unfold pz; split <;> omega
theorem sm2_le {f : Nat → Nat → Nat} (h : ∀ r c, f r c ≤ 1) (C R : Nat) : sm (fun r => sm (f r) C) R ≤ R * C := by
  have h1 := sm_le (f := fun r => sm (f r) C) (g := fun _ => C) (n := R) (fun r _ => by
    have := sm_le (f := f r) (g := fun _ => 1) (n := C) (fun c _ => h r c)
    rw [sm_const] at this; omega)
  rw [sm_const] at h1; exact h1
theorem melt_0 (h : ∀ r, r < R → ∀ c, c < C → mltG ml r c = 0) : sm (fun r => sm (fun c => pz (mltG ml r c)) C) R = 0 := sm_0 fun r hr => sm_0 fun c hc => by rw [h r hr c hc]; exact pz_0 (by decide)
theorem RC144 (hC : C ≤ 12) (hR : R ≤ 12) : R * C ≤ 144 := Nat.mul_le_mul hR hC
theorem nI_z {a : Nat} (ha : a < 2 ^ 31) (h : nI a = 0) : a = 0 := (nI_inj (b := 0) ha (by omega)).mp h
theorem tkc_all {gz nx : Nat → Int32} : ∀ {n : Nat}, tkc gz nx n = 0 → ∀ k, k < n → gz k = nx k
  | 0, _, k, h => absurd h (Nat.not_lt_zero _)
  | n + 1, h, k, hk => by
    rw [tkc] at h
    by_cases h1 : tkc gz nx n = 0
    · rw [if_pos h1] at h
      by_cases h2 : gz n = nx n
      · by_cases e : k = n
        · rw [e]; exact h2
        · exact tkc_all h1 k (by omega)
      · rw [if_neg h2] at h; exact absurd h (by decide)
    · rw [if_neg h1] at h; exact absurd h (by decide)
theorem cme_z (hM : MV C R ml) (hC : C ≤ 12) (hR : R ≤ 12) (h : cme ml 144 = 0) : ∀ r, r < R → ∀ c, c < C → mltG ml r c = 0 := fun r hr c hc => by
  rw [cme_m hM hC hR] at h
  have hb := sm2_le (f := fun r c => pz (mltG ml r c)) (fun _ _ => pz_le _) C R
  have := RC144 hC hR
  have h2 := sm_z (sm_z (nI_z (by omega) h) hr) hc
  obtain ⟨m, hm, e⟩ := hM.1 (r * 12 + c) (by omega)
  have h3 : mltG ml r c = nI m := e
  rw [h3] at h2 ⊢
  by_cases z : m = 0
  · rw [z]; rfl
  · rw [pz_1 (fun q => by have := (nI_leI (a := m) (b := 0) (by omega) (by omega)).mp q; omega)] at h2
    exact absurd h2 (by decide)
theorem stl_like (hM : MV C R ml) (hC : C ≤ 12) (hR : R ≤ 12) {j : Nat} (h1 : cme (itM ml j) 144 = 0) (h2 : tkc (itF C R F fz ml fr st j) (stG C R F (itF C R F fz ml fr st j) (itM ml j) fr st) R = 0) :
    lkP C R (iceG (itF C R F fz ml fr st j)) (mltG (itM ml j)) (iceG (itF C R F fz ml fr st (j + 1))) (mltG (itM ml (j + 1))) := fun r hr c hc => by
  constructor
  · have e : itF C R F fz ml fr st (j + 1) r = itF C R F fz ml fr st j r := by
      show sfill (stG C R F (itF C R F fz ml fr st j) (itM ml j) fr st) (itF C R F fz ml fr st j) R r = _
      rw [sfill_lt hr]
      exact (tkc_all h2 r hr).symm
    unfold iceG; rw [e]
  · have h3 := cme_z (MV_it hM j) hC hR h1 r hr c hc
    have h4 : mltG (itM ml (j + 1)) r c = ml1 (mltG (itM ml j) r c) := rfl
    rw [h4, h3]; decide
theorem stl_again (hM : MV C R ml) (hI : IV C R fz) (hC : C ≤ 12) (hR : R ≤ 12) (h1 : cme (itM ml 0) 144 = 0) (h2 : tkc (itF C R F fz ml fr st 0) (stG C R F (itF C R F fz ml fr st 0) (itM ml 0) fr st) R = 0) : agn C R F fz ml fr st 40 1 = nI 1 := by
  have h := stl_like (F := F) (fr := fr) (st := st) hM hC hR h1 h2
  have h3 : lkP C R (iceG (itF C R F fz ml fr st 1)) (mltG (itM ml 1)) (iceG fz) (mltG ml) := fun r hr c hc => ⟨(h r hr c hc).1.symm, (h r hr c hc).2.symm⟩
  exact agn_yes (n := 39) (k := 1) ((lk_n (IV_it hI hC 1) hI hC hR).mp h3)
/-- how many are frozen some generations on -/
def fzN (C R F : Nat) (fz ml : Nat → Int32) (fr st : Int32) (j : Nat) : Nat := fzS C R (iceG (itF C R F fz ml fr st j))
theorem fzN_le (hC : C ≤ 12) (hR : R ≤ 12) (j : Nat) : fzN C R F fz ml fr st j ≤ 144 := Nat.le_trans (sm2_le (fun _ _ => nz_le _) C R) (RC144 hC hR)
theorem cfr_N (hI : IV C R fz) (hC : C ≤ 12) (hR : R ≤ 12) (j : Nat) : cfr (itF C R F fz ml fr st j) R = nI (fzN C R F fz ml fr st j) := cfr_n (IV_it hI hC j) hC hR R (Nat.le_refl _)
theorem pkB_spec (hI : IV C R fz) (hC : C ≤ 12) (hR : R ≤ 12) : ∀ k, ∃ p, p ≤ k ∧ pkB C R F fz ml fr st k = (nI p, nI (fzN C R F fz ml fr st p)) ∧ ∀ j, j ≤ k → fzN C R F fz ml fr st j ≤ fzN C R F fz ml fr st p ∧ (j < p → fzN C R F fz ml fr st j < fzN C R F fz ml fr st p)
  | 0 => ⟨0, Nat.le_refl _, by rw [pkB]; exact congrArg (Prod.mk (0 : Int32)) (cfr_N hI hC hR 0), fun j hj => by rw [show j = 0 by omega]; exact ⟨Nat.le_refl _, fun h => absurd h (Nat.lt_irrefl _)⟩⟩
  | k + 1 => by
    obtain ⟨p, hp, e, h⟩ := pkB_spec hI hC hR k
    have b1 := fzN_le (F := F) (fz := fz) (ml := ml) (fr := fr) (st := st) hC hR (k + 1)
    have b2 := fzN_le (F := F) (fz := fz) (ml := ml) (fr := fr) (st := st) hC hR p
    rw [pkB, e, cfr_N hI hC hR (k + 1)]
    by_cases hle : fzN C R F fz ml fr st (k + 1) ≤ fzN C R F fz ml fr st p
    · refine ⟨p, by omega, if_pos ((nI_leI (by omega) (by omega)).mpr hle), fun j hj => ?_⟩
      by_cases z : j = k + 1
      · rw [z]; exact ⟨hle, fun q => absurd q (by omega)⟩
      · exact h j (by omega)
    · refine ⟨k + 1, Nat.le_refl _, if_neg (fun q => hle ((nI_leI (by omega) (by omega)).mp q)), fun j hj => ?_⟩
      by_cases z : j = k + 1
      · rw [z]; exact ⟨Nat.le_refl _, fun q => absurd q (Nat.lt_irrefl _)⟩
      · have := (h j (by omega)).1
        exact ⟨by omega, fun _ => by omega⟩
theorem bsB_spec {frA stA : Nat → Int32} (hI : IV C R fz) (hC : C ≤ 12) (hR : R ≤ 12) (g : Nat) : ∀ k, ∃ p, p ≤ k ∧ bsB C R F fz ml frA stA g k = (nI p, nI (fzN C R F fz ml (frA p) (stA p) g)) ∧ ∀ j, j ≤ k → fzN C R F fz ml (frA j) (stA j) g ≤ fzN C R F fz ml (frA p) (stA p) g ∧ (j < p → fzN C R F fz ml (frA j) (stA j) g < fzN C R F fz ml (frA p) (stA p) g)
  | 0 => ⟨0, Nat.le_refl _, by rw [bsB]; exact congrArg (Prod.mk (0 : Int32)) (cfr_N hI hC hR g), fun j hj => by rw [show j = 0 by omega]; exact ⟨Nat.le_refl _, fun h => absurd h (Nat.lt_irrefl _)⟩⟩
  | k + 1 => by
    obtain ⟨p, hp, e, h⟩ := bsB_spec (frA := frA) (stA := stA) hI hC hR g k
    have b1 := fzN_le (F := F) (fz := fz) (ml := ml) (fr := frA (k + 1)) (st := stA (k + 1)) hC hR g
    have b2 := fzN_le (F := F) (fz := fz) (ml := ml) (fr := frA p) (st := stA p) hC hR g
    rw [bsB, e, cfr_N hI hC hR g]
    by_cases hle : fzN C R F fz ml (frA (k + 1)) (stA (k + 1)) g ≤ fzN C R F fz ml (frA p) (stA p) g
    · refine ⟨p, by omega, if_pos ((nI_leI (by omega) (by omega)).mpr hle), fun j hj => ?_⟩
      by_cases z : j = k + 1
      · rw [z]; exact ⟨hle, fun q => absurd q (by omega)⟩
      · exact h j (by omega)
    · refine ⟨k + 1, Nat.le_refl _, if_neg (fun q => hle ((nI_leI (by omega) (by omega)).mp q)), fun j hj => ?_⟩
      by_cases z : j = k + 1
      · rw [z]; exact ⟨Nat.le_refl _, fun q => absurd q (Nat.lt_irrefl _)⟩
      · have := (h j (by omega)).1
        exact ⟨by omega, fun _ => by omega⟩
end AHD
