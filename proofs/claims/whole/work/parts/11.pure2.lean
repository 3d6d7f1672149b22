section PV
/-- a row with its sides, as the reference lays it -/
def mSide (C F : Nat) (x : Int32) : Int32 := if nI F = 1 then (((x <<< ((1 : Int32) &&& 31)) ||| 1) ||| ((1 : Int32) <<< ((nI (C + 1)) &&& 31))) else (if nI F = 2 then ((x <<< ((1 : Int32) &&& 31)) ||| (x >>> (((nI C) - 1) &&& 31))) ||| ((x &&& 1) <<< ((nI (C + 1)) &&& 31)) else x <<< ((1 : Int32) &&& 31))
def mOut (C F : Nat) : Int32 := if nI F = 1 then ((1 : Int32) <<< ((nI (C + 2)) &&& 31)) - 1 else 0
theorem F3 {F : Nat} (h : F ≤ 2) : F = 0 ∨ F = 1 ∨ F = 2 := by omega
theorem top1 {C : Nat} {x : Int32} (hx : inC C x) (h1 : 1 ≤ C) (hC : C ≤ 12) : (x >>> (((nI C) - 1) &&& 31)) &&& 1 = x >>> (((nI C) - 1) &&& 31) := by
  rw [sub1 h1]
  apply b_ext
  intro i hi
  rw [b_and, b_n1 i hi, b_sshr (C - 1) (by omega) x hi]
  by_cases e : i = 0
  · simp [e]
  · by_cases h : C - 1 + i < 32
    · rw [if_pos h, hx _ (by omega)]; simp
    · rw [if_neg h, hx 31 (by omega)]; simp
theorem shl_0 (C : Nat) : ((0 : Int32) <<< ((nI (C + 1)) &&& 31)) = 0 := by
  apply Int32.toBitVec_inj.mp; simp
theorem side_eq {C F : Nat} {x : Int32} (hx : inC C x) (h1 : 1 ≤ C) (hC : C ≤ 12) (hF : F ≤ 2) : mSide C F x = sp_X1_withSides C F x := by
  unfold mSide sp_X1_withSides
  rcases F3 hF with rfl | rfl | rfl
  · rw [if_neg (by decide), if_neg (by decide), if_neg (by decide), if_neg (by decide), shl_0, Int32.or_zero, Int32.zero_or]
  · rw [if_pos (by decide), if_pos (by decide), if_neg (by decide), Int32.or_comm (x <<< ((1 : Int32) &&& 31)) 1]
  · rw [if_neg (by decide), if_pos (by decide), if_neg (by decide), if_pos (by decide), top1 hx h1 hC, Int32.or_comm (x <<< ((1 : Int32) &&& 31)) (x >>> (((nI C) - 1) &&& 31))]
theorem ix_in {r R : Nat} (hr : r < R) (hR : R ≤ 12) : ((nI r + nI R) - (nI r + nI R) / nI R * nI R).toNatClampNeg = r := by
  rw [nI_add, pk_rem (by omega) (by omega) (by omega), nI_clamp (by have := Nat.mod_lt (r + R) (show 0 < R by omega); omega), Nat.add_mod_right, Nat.mod_eq_of_lt hr]
theorem ix_lo {R : Nat} (hR3 : 3 ≤ R) (hR : R ≤ 12) : (((-1 : Int32) + nI R) - ((-1 : Int32) + nI R) / nI R * nI R).toNatClampNeg = R - 1 := by
  have e : (-1 : Int32) + nI R = nI (R - 1) := by rw [← sub1 (by omega : 1 ≤ R), Int32.sub_eq_add_neg, Int32.add_comm]
  rw [e, pk_rem (by omega) (by omega) (by omega), nI_clamp (by have := Nat.mod_lt (R - 1) (show 0 < R by omega); omega), Nat.mod_eq_of_lt (by omega)]
theorem ix_hi {R : Nat} (hR3 : 3 ≤ R) (hR : R ≤ 12) : ((nI R + nI R) - (nI R + nI R) / nI R * nI R).toNatClampNeg = 0 := by
  rw [nI_add, pk_rem (by omega) (by omega) (by omega), show (R + R) % R = 0 by rw [Nat.add_mod_right, Nat.mod_self]]; rfl
theorem wide_at {C R F : Nat} (fz : Nat → Int32) {r : Nat} (hr : r < R) (hR : R ≤ 12) : sp_X4_wide C R F fz (nI r) = mSide C F (fz r) := by
  unfold sp_X4_wide
  rw [show (if nI r < 0 then (1 : Int32) else if nI r < nI R then (0 : Int32) else 1) = 0 from by rw [if_neg (nI_pos (by omega)), if_pos (nI_lt hr (by omega))], if_pos rfl, ix_in hr hR]
  rfl
theorem wide_lo {C R F : Nat} (fz : Nat → Int32) (hR3 : 3 ≤ R) (hR : R ≤ 12) (hF : F ≤ 2) : sp_X4_wide C R F fz (-1) = if F = 2 then mSide C F (fz (R - 1)) else mOut C F := by
  unfold sp_X4_wide
  rw [show (if (-1 : Int32) < 0 then (1 : Int32) else if (-1 : Int32) < nI R then (0 : Int32) else 1) = 1 from by rw [if_pos (by decide)], if_neg (show ¬ (1 : Int32) = 0 by decide), ix_lo hR3 hR]
  rcases F3 hF with rfl | rfl | rfl
  · rw [if_neg (by decide), if_neg (by decide)]; rfl
  · rw [if_neg (by decide), if_pos (by decide)]; rfl
  · rw [if_pos (by decide), if_pos rfl]; rfl
theorem wide_hi {C R F : Nat} (fz : Nat → Int32) (hR3 : 3 ≤ R) (hR : R ≤ 12) (hF : F ≤ 2) : sp_X4_wide C R F fz (nI R) = if F = 2 then mSide C F (fz 0) else mOut C F := by
  unfold sp_X4_wide
  rw [show (if nI R < 0 then (1 : Int32) else if nI R < nI R then (0 : Int32) else 1) = 1 from by rw [if_neg (nI_pos (by omega)), if_neg (nI_nlt (Nat.le_refl _) (by omega))], if_neg (show ¬ (1 : Int32) = 0 by decide), ix_hi hR3 hR]
  rcases F3 hF with rfl | rfl | rfl
  · rw [if_neg (by decide), if_neg (by decide)]; rfl
  · rw [if_neg (by decide), if_pos (by decide)]; rfl
  · rw [if_pos (by decide), if_pos rfl]; rfl
def fOut (F : Nat) : Int32 := if nI F = 1 then -1 else 0
theorem framed_at {C R F : Nat} (fz : Nat → Int32) {r : Nat} (hr : r < R) (hR : R ≤ 12) : sp_X1_framed C R F fz (nI r) = sp_X1_withSides C F (fz r) := by
  unfold sp_X1_framed
  rw [if_neg (by rw [sp_hasRow_in hr hR]; decide), sp_bits_in (by omega)]
theorem hasRow_m1 (R : Nat) : sp_X1_hasRow R (-1) = 0 := by unfold sp_X1_hasRow; rw [if_pos (by decide)]
theorem hasRow_hi {R : Nat} (hR : R ≤ 12) : sp_X1_hasRow R (nI R) = 0 := by unfold sp_X1_hasRow; rw [if_neg (nI_pos (by omega)), if_pos (nI_le (Nat.le_refl _) (by omega))]
theorem framed_lo {C R F : Nat} (fz : Nat → Int32) (hR3 : 3 ≤ R) (hR : R ≤ 12) (hF : F ≤ 2) : sp_X1_framed C R F fz (-1) = if F = 2 then sp_X1_withSides C F (fz (R - 1)) else fOut F := by
  unfold sp_X1_framed
  rw [if_pos (hasRow_m1 R)]
  rcases F3 hF with rfl | rfl | rfl
  · rw [if_neg (by decide), if_neg (by decide)]; rfl
  · rw [if_neg (by decide), if_pos (by decide)]; rfl
  · rw [if_pos (by decide), if_neg (by decide), if_pos rfl, sub1 (by omega), sp_bits_in (by omega)]
theorem framed_hi {C R F : Nat} (fz : Nat → Int32) (hR3 : 3 ≤ R) (hR : R ≤ 12) (hF : F ≤ 2) : sp_X1_framed C R F fz (nI R) = if F = 2 then sp_X1_withSides C F (fz 0) else fOut F := by
  unfold sp_X1_framed
  rw [if_pos (hasRow_hi hR)]
  rcases F3 hF with rfl | rfl | rfl
  · rw [if_neg (by decide), if_neg (by decide)]; rfl
  · rw [if_neg (by decide), if_pos (by decide)]; rfl
  · rw [if_pos (by decide), if_pos (nI_pos' (by omega)), if_pos rfl, show sp_X1_bitsOf fz 0 = fz 0 from sp_bits_in (r := 0) (by omega)]
/-- the rows of a pane -/
def IV (C R : Nat) (fz : Nat → Int32) : Prop := (∀ r, r < R → inC C (fz r)) ∧ ∀ r, R ≤ r → r < 12 → fz r = 0
theorem out_tab : ∀ C, C < 13 → ∀ i, i < C + 2 → bt (((1 : Int32) <<< ((nI (C + 2)) &&& 31)) - 1) i = true := by decide +kernel
theorem out_eq {C F i : Nat} (hC : C ≤ 12) (hF : F ≤ 2) (hi : i < C + 2) : bt (mOut C F) i = bt (fOut F) i := by
  unfold mOut fOut
  rcases F3 hF with rfl | rfl | rfl
  · rw [if_neg (by decide), if_neg (by decide)]
  · rw [if_pos (by decide), if_pos (by decide), out_tab C (by omega) i hi, b_m1 i (by omega)]
  · rw [if_neg (by decide), if_neg (by decide)]
theorem wf_at {C R F : Nat} {fz : Nat → Int32} (hI : IV C R fz) (h1 : 3 ≤ C) (hC : C ≤ 12) (hR : R ≤ 12) (hF : F ≤ 2) {r : Nat} (hr : r < R) : sp_X4_wide C R F fz (nI r) = sp_X1_framed C R F fz (nI r) := by
  rw [wide_at fz hr hR, framed_at fz hr hR, side_eq (hI.1 r hr) (by omega) hC hF]
theorem wf_lo {C R F : Nat} {fz : Nat → Int32} (hI : IV C R fz) (h1 : 3 ≤ C) (hC : C ≤ 12) (hR3 : 3 ≤ R) (hR : R ≤ 12) (hF : F ≤ 2) {r i : Nat} (hr : r < R) (hi : i < C + 2) : bt (sp_X4_wide C R F fz (nI r + ((-1) : Int32))) i = bt (sp_X1_framed C R F fz (nI r - 1)) i := by
  rcases r with _ | r
  · rw [show nI 0 + ((-1) : Int32) = -1 by decide, show nI 0 - 1 = (-1 : Int32) by decide, wide_lo fz hR3 hR hF, framed_lo fz hR3 hR hF]
    by_cases e : F = 2
    · rw [if_pos e, if_pos e, side_eq (hI.1 _ (by omega)) (by omega) hC hF]
    · rw [if_neg e, if_neg e, out_eq hC hF hi]
  · rw [pk_m1, nI_pred, wf_at hI h1 hC hR hF (by omega)]
theorem wf_hi {C R F : Nat} {fz : Nat → Int32} (hI : IV C R fz) (h1 : 3 ≤ C) (hC : C ≤ 12) (hR3 : 3 ≤ R) (hR : R ≤ 12) (hF : F ≤ 2) {r i : Nat} (hr : r < R) (hi : i < C + 2) : bt (sp_X4_wide C R F fz (nI (r + 1))) i = bt (sp_X1_framed C R F fz (nI r + 1)) i := by
  rw [nI_1]
  by_cases h : r + 1 < R
  · rw [wf_at hI h1 hC hR hF h]
  · rw [show r + 1 = R by omega, wide_hi fz hR3 hR hF, framed_hi fz hR3 hR hF]
    by_cases e : F = 2
    · rw [if_pos e, if_pos e, side_eq (hI.1 _ (by omega)) (by omega) hC hF]
    · rw [if_neg e, if_neg e, out_eq hC hF hi]
/-- the reference counts as the class does -/
theorem cnt_ok {C R F : Nat} {fz : Nat → Int32} (hI : IV C R fz) (h1 : 3 ≤ C) (hC : C ≤ 12) (hR3 : 3 ≤ R) (hR : R ≤ 12) (hF : F ≤ 2) {r c : Nat} (hr : r < R) (hc : c < C) :
    mCtd (mRow C R F fz r) c = sp_X1_countIn (sp_X1_framed C R F fz (nI r - 1)) (sp_X1_framed C R F fz (nI r)) (sp_X1_framed C R F fz (nI r + 1)) (nI c) := by
  unfold mRow
  have e0 : sp_X4_wide C R F fz (nI (r + 0)) = sp_X1_framed C R F fz (nI r) := wf_at hI h1 hC hR hF hr
  rw [mSum_n _ _ _ hC hc, countIn_n _ _ _ (by omega), countIn_n _ _ _ (by omega), e0,
    wf_lo hI h1 hC hR3 hR hF hr (i := c) (by omega), wf_lo hI h1 hC hR3 hR hF hr (i := c + 1) (by omega), wf_lo hI h1 hC hR3 hR hF hr (i := c + 2) (by omega),
    wf_hi hI h1 hC hR3 hR hF hr (i := c) (by omega), wf_hi hI h1 hC hR3 hR hF hr (i := c + 1) (by omega), wf_hi hI h1 hC hR3 hR hF hr (i := c + 2) (by omega)]
theorem around_ok {C R F : Nat} {fz : Nat → Int32} (hI : IV C R fz) (h1 : 3 ≤ C) (hC : C ≤ 12) (hR3 : 3 ≤ R) (hR : R ≤ 12) (hF : F ≤ 2) {r c : Nat} (hr : r < R) (hc : c < C) : mCtd (mRow C R F fz r) c = sp_X1_countAround C R F fz (nI c) (nI r) := cnt_ok hI h1 hC hR3 hR hF hr hc
theorem melt_in {ml : Nat → Int32} {r c : Nat} (hr : r < 12) (hc : c < 12) : sp_X1_meltOf ml (nI c) (nI r) = ml (r * 12 + c) := by
  have e : nI r * 12 + nI c = nI (r * 12 + c) := by rw [show (12 : Int32) = nI 12 from rfl, pk_mul, nI_add]
  unfold sp_X1_meltOf
  rw [e, if_neg (nI_pos (by omega)), if_neg (show ¬ (144 : Int32) ≤ nI (r * 12 + c) from nI_ge (b := 144) (by omega) (by omega)), nI_clamp (by omega)]
theorem bt_one {k i : Nat} (hk : k < 32) (hi : i < 32) : bt ((1 : Int32) <<< (nI k &&& 31)) i = decide (i = k) := by
  rw [b_shl k hk 1 hi]
  by_cases h : k ≤ i
  · rw [b_n1 _ (by omega)]
    by_cases e : i = k
    · simp [e]
    · have : ¬ i - k = 0 := by omega
      simp [e, this]
  · have : ¬ i = k := by omega
    simp [h, this]
theorem inC_ite {k : Nat} {A B : Int32} {p q : Prop} [Decidable p] [Decidable q] (hA : inC k A) (hB : inC k B) : inC k (if p then (if q then A else B) else B) := by
  split
  · split
    · exact hA
    · exact hB
  · exact hB
/-- what a row will be has its bits in its columns -/
theorem gro_in (C R F : Nat) (fz ml : Nat → Int32) (row fr st : Int32) : ∀ k, k ≤ 12 → inC k (gro C R F fz ml row fr st k)
  | 0, _ => inC_0 0
  | k + 1, hk => by
    have ih := gro_in C R F fz ml row fr st k (by omega)
    have h : ∀ i, k + 1 ≤ i → bt (gro C R F fz ml row fr st k ||| ((1 : Int32) <<< (nI k &&& 31))) i = false := fun i hi => by
      rw [b_or, ih i (by omega)]
      by_cases h : i < 32
      · rw [bt_one (by omega) h]; simp; omega
      · rw [b_big (by omega)]; rfl
    unfold gro
    exact inC_ite (fun i hi => h i hi) (fun i hi => ih i (by omega))
theorem IV_step {C R F : Nat} {fz ml : Nat → Int32} {fr st : Int32} (hI : IV C R fz) (hC : C ≤ 12) : IV C R (stF C R F fz ml fr st) := by
  refine ⟨fun r hr => ?_, fun r hr h12 => ?_⟩
  · unfold stF; rw [sfill_lt hr]; exact gro_in C R F fz ml (nI r) fr st C hC
  · unfold stF; rw [sfill_ge hr]; exact hI.2 r hr h12
theorem IV_it {C R F : Nat} {fz ml : Nat → Int32} {fr st : Int32} (hI : IV C R fz) (hC : C ≤ 12) : ∀ k, IV C R (itF C R F fz ml fr st k)
  | 0 => hI
  | k + 1 => IV_step (IV_it hI hC k) hC
/-- the melted cells of a pane -/
def MV (C R : Nat) (ml : Nat → Int32) : Prop := (∀ k, k < 144 → ∃ m : Nat, m ≤ 9 ∧ ml k = nI m) ∧ ∀ r c, r < 12 → c < 12 → ¬ (r < R ∧ c < C) → ml (r * 12 + c) = 0
theorem ml1_n {m : Nat} (h : m ≤ 9) : ml1 (nI m) = nI (m - 1) := by
  rcases (show m = 0 ∨ m = 1 ∨ m = 2 ∨ m = 3 ∨ m = 4 ∨ m = 5 ∨ m = 6 ∨ m = 7 ∨ m = 8 ∨ m = 9 by omega) with rfl | rfl | rfl | rfl | rfl | rfl | rfl | rfl | rfl | rfl <;> decide
theorem mmax_n {m : Nat} (h : m ≤ 9) : (if (0 : Int32) < nI m - 1 then nI m - 1 else 0) = ml1 (nI m) := by
  rcases (show m = 0 ∨ m = 1 ∨ m = 2 ∨ m = 3 ∨ m = 4 ∨ m = 5 ∨ m = 6 ∨ m = 7 ∨ m = 8 ∨ m = 9 by omega) with rfl | rfl | rfl | rfl | rfl | rfl | rfl | rfl | rfl | rfl <;> decide
theorem MV_max {C R : Nat} {ml : Nat → Int32} (h : MV C R ml) {k : Nat} (hk : k < 144) : (if (0 : Int32) < ml k - 1 then ml k - 1 else 0) = ml1 (ml k) := by
  obtain ⟨m, hm, e⟩ := h.1 k hk
  rw [e]; exact mmax_n hm
theorem MV_step {C R : Nat} {ml : Nat → Int32} (h : MV C R ml) : MV C R (fun j => ml1 (ml j)) := by
  refine ⟨fun k hk => ?_, fun r c hr hc hn => ?_⟩
  · obtain ⟨m, hm, e⟩ := h.1 k hk
    exact ⟨m - 1, by omega, by show ml1 (ml k) = _; rw [e, ml1_n hm]⟩
  · show ml1 (ml (r * 12 + c)) = 0
    rw [h.2 r c hr hc hn]; decide
theorem MV_it {C R : Nat} {ml : Nat → Int32} (h : MV C R ml) : ∀ k, MV C R (itM ml k)
  | 0 => h
  | k + 1 => MV_step (MV_it h k)
end PV
