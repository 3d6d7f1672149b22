/-! the law's own pane and the class's: the same cells -/
section LNK
def iceG (fz : Nat → Int32) : Nat → Nat → Int32 := fun r c => nI (b2n (bt (fz r) c))
def mltG (ml : Nat → Int32) : Nat → Nat → Int32 := fun r c => ml (r * 12 + c)
def rulG (fr st : Nat → Int32) : Nat → Nat → Int32 := fun k j => if j = 0 then fr k else st k
/-- the rules' numbers -/
def RV (n : Nat) (fr st : Nat → Int32) : Prop := ∀ k, k < n → (∃ x, x ≤ 511 ∧ fr k = nI x) ∧ (∃ x, x ≤ 511 ∧ st k = nI x)
theorem nz_b (b : Bool) : nz (nI (b2n b)) = b2n b := by cases b <;> rfl
theorem nz_ice (fz : Nat → Int32) (r c : Nat) : nz (iceG fz r c) = b2n (bt (fz r) c) := nz_b _
theorem ice_01 (fz : Nat → Int32) (r c : Nat) : iceG fz r c = 0 ∨ iceG fz r c = 1 := by unfold iceG; cases bt (fz r) c <;> decide
variable {C R F : Nat} {fz ml : Nat → Int32}
theorem cfr_n (hI : IV C R fz) (hC : C ≤ 12) (hR : R ≤ 12) : ∀ k, k ≤ R → cfr fz k = nI (sm (fun r => sm (fun c => nz (iceG fz r c)) C) k)
  | 0, _ => rfl
  | k + 1, hk => by
    rw [cfr, cfr_n hI hC hR k (by omega), sp_bits_in (by omega), bc_n (IV_R hI hC k (by omega)), szr_C (hI.1 k (by omega)) hC, nI_add, sm]
    exact congrArg nI (congrArg _ (sm_congr fun c _ => (nz_ice fz k c).symm))
theorem row_n (hI : IV C R fz) (hC : C ≤ 12) (hR : R ≤ 12) {r : Nat} (hr : r < R) : bc (sp_X1_bitsOf fz (nI r)) = nI (sm (fun c => nz (iceG fz r c)) C) := by
  rw [sp_bits_in (by omega), bc_n (IV_R hI hC r (by omega)), szr_C (hI.1 r hr) hC]
  exact congrArg nI (sm_congr fun c _ => (nz_ice fz r c).symm)
theorem cme_n (ml : Nat → Int32) : ∀ k, cme ml k = nI (sm (fun i => pz (ml i)) k)
  | 0 => rfl
  | k + 1 => by
    rw [cme, sm, cme_n ml k]
    by_cases h : ml k ≤ 0
    · rw [if_pos h, pz_0 h, Nat.add_zero]
    · rw [if_neg h, pz_1 h, nI_1]
theorem cme_m (hM : MV C R ml) (hC : C ≤ 12) (hR : R ≤ 12) : cme ml 144 = nI (sm (fun r => sm (fun c => pz (mltG ml r c)) C) R) := by
  rw [cme_n]
  have h := sm_flat (fun r c => pz (mltG ml r c)) (C := 12) (by decide) 12
  have h2 : sm (fun i => pz (mltG ml (i / 12) (i % 12))) (12 * 12) = sm (fun i => pz (ml i)) 144 := sm_congr fun i _ => by unfold mltG; rw [ix_eq]
  rw [← h2, ← h]
  have hz : ∀ r c, r < 12 → c < 12 → ¬ (r < R ∧ c < C) → pz (mltG ml r c) = 0 := fun r c h1 h2 h3 => by
    unfold mltG; rw [hM.2 r c h1 h2 h3]; rfl
  rw [sm_cut (a := R) (fun r h1 h2 => sm_0 fun c hc => hz r c h2 hc (by omega)) hR]
  exact congrArg nI (sm_congr fun r hr => sm_cut (fun c h1 h2 => hz r c (by omega) h2 (by omega)) hC)
/-! frames -/
theorem sh1 (x : Int32) {i : Nat} (hi : i < 32) : bt (x <<< ((1 : Int32) &&& 31)) i = (decide (1 ≤ i) && bt x (i - 1)) := b_shl 1 (by omega) x hi
theorem b_1b : ∀ (b : Bool) (i : Nat), i < 32 → bt (nI (b2n b)) i = (b && decide (i = 0)) := by decide +kernel
theorem sh_0 (C : Nat) : ((0 : Int32) <<< ((nI (C + 1)) &&& 31)) = 0 := by apply Int32.toBitVec_inj.mp; simp
def sideB (C F : Nat) (x : Int32) (j : Nat) : Bool := if 1 ≤ j ∧ j ≤ C then bt x (j - 1) else if F = 2 then (if j = 0 then bt x (C - 1) else bt x 0) else decide (F = 1)
theorem ws_bt {x : Int32} (hx : inC C x) (h1 : 1 ≤ C) (hC : C ≤ 12) (hF : F ≤ 2) {j : Nat} (hj : j ≤ C + 1) : bt (sp_X1_withSides C F x) j = sideB C F x j := by
  have hs := sh1 x (i := j) (by omega)
  have h0 := b_0 (j - 1)
  have hxC := hx C (Nat.le_refl _)
  unfold sp_X1_withSides sideB
  rcases F3 hF with rfl | rfl | rfl
  · rw [if_neg (by decide), if_neg (by decide), sh_0, Int32.or_zero, Int32.zero_or, hs]
    rcases (show j = 0 ∨ (1 ≤ j ∧ j ≤ C) ∨ j = C + 1 by omega) with e | e | e
    · subst e; simp
    · simp [e.1, e.2]
    · subst e; simp [hxC]
  · rw [if_pos (by decide), if_neg (by decide), b_or, b_or, b_n1 j (by omega), hs, bt_one (k := C + 1) (by omega) (by omega)]
    rcases (show j = 0 ∨ (1 ≤ j ∧ j ≤ C) ∨ j = C + 1 by omega) with e | e | e
    · subst e; simp
    · have e1 : ¬ j = 0 := by omega
      have e2 : ¬ j = C + 1 := by omega
      simp [e.1, e.2, e1, e2]
    · subst e; simp
  · rw [if_neg (by decide), if_pos (by decide), sub1 h1, b_at x (by omega), b_or, b_or, b_1b _ _ (by omega), hs, b_shl (C + 1) (by omega) _ (by omega), b_and]
    rcases (show j = 0 ∨ (1 ≤ j ∧ j ≤ C) ∨ j = C + 1 by omega) with e | e | e
    · subst e; simp
    · have e1 : ¬ j = 0 := by omega
      have e2 : ¬ C + 1 ≤ j := by omega
      simp [e.1, e.2, e1, e2]
    · subst e
      rw [Nat.sub_self, b_n1 0 (by omega)]
      simp [hxC]
theorem fr_bt (hI : IV C R fz) (h1 : 3 ≤ C) (hC : C ≤ 12) (hR3 : 3 ≤ R) (hR : R ≤ 12) (hF : F ≤ 2) {r i j : Nat} (hr : r < R) (hi : i ≤ 2) (hj : j ≤ C + 1) :
    bt (sp_X1_framed C R F fz (nI r + (nI i - 1))) j = if F = 2 then sideB C 2 (fz ((r + i + (R - 1)) % R)) j else if 1 ≤ r + i ∧ r + i ≤ R then sideB C F (fz (r + i - 1)) j else decide (F = 1) := by
  have out : bt (fOut F) j = decide (F = 1) := by
    unfold fOut
    rcases F3 hF with rfl | rfl | rfl
    · rw [if_neg (by decide), b_0]; rfl
    · rw [if_pos (by decide), b_m1 j (by omega)]; rfl
    · rw [if_neg (by decide), b_0]; rfl
  have ws : ∀ k, k < R → bt (sp_X1_withSides C F (fz k)) j = sideB C F (fz k) j := fun k hk => ws_bt (hI.1 k hk) (by omega) hC hF hj
  by_cases hin : 1 ≤ r + i ∧ r + i ≤ R
  · rw [m1_m r i hin.1, framed_at fz (show r + i - 1 < R by omega) hR, ws _ (by omega), if_pos hin, show r + i + (R - 1) = (r + i - 1) + R by omega, Nat.add_mod_right, Nat.mod_eq_of_lt (show r + i - 1 < R by omega)]
    by_cases e : F = 2
    · rw [if_pos e, e]
    · rw [if_neg e]
  · rw [if_neg hin]
    by_cases h0 : r + i = 0
    · rw [m1_neg r i h0, framed_lo fz hR3 hR hF]
      by_cases e : F = 2
      · rw [if_pos e, if_pos e, ws _ (by omega), h0, Nat.zero_add, Nat.mod_eq_of_lt (show R - 1 < R by omega), e]
      · rw [if_neg e, if_neg e, out]
    · rw [m1_m r i (by omega), show r + i - 1 = R by omega, framed_hi fz hR3 hR hF]
      by_cases e : F = 2
      · rw [if_pos e, if_pos e, ws _ (by omega), show r + i + (R - 1) = R + R by omega, Nat.add_mod_right, Nat.mod_self, e]
      · rw [if_neg e, if_neg e, out]
theorem nb_bt (hI : IV C R fz) (h1 : 3 ≤ C) (hC : C ≤ 12) (hR3 : 3 ≤ R) (hR : R ≤ 12) (hF : F ≤ 2) {r c i j : Nat} (hr : r < R) (hc : c < C) (hi : i ≤ 2) (hj : j ≤ 2) (hn : ¬ (i = 1 ∧ j = 1)) :
    b2n (bt (sp_X1_framed C R F fz (nI r + (nI i - 1))) (c + j)) = nbv C R F (iceG fz) c r i j := by
  rw [fr_bt hI h1 hC hR3 hR hF hr hi (show c + j ≤ C + 1 by omega)]
  by_cases e : F = 2
  · rw [if_pos e, nbv_2 hn e, nz_ice]
    unfold sideB
    by_cases h2 : 1 ≤ c + j ∧ c + j ≤ C
    · rw [if_pos h2, show c + j + (C - 1) = (c + j - 1) + C by omega, Nat.add_mod_right, Nat.mod_eq_of_lt (show c + j - 1 < C by omega)]
    · rw [if_neg h2, if_pos rfl]
      by_cases h3 : c + j = 0
      · rw [if_pos h3, h3, Nat.zero_add, Nat.mod_eq_of_lt (show C - 1 < C by omega)]
      · rw [if_neg h3, show c + j + (C - 1) = C + C by omega, Nat.add_mod_right, Nat.mod_self]
  · rw [if_neg e]
    have hb : b2n (decide (F = 1)) = F := by
      rcases (show F = 0 ∨ F = 1 by omega) with rfl | rfl <;> rfl
    by_cases h2 : 1 ≤ r + i ∧ r + i ≤ R
    · rw [if_pos h2]
      unfold sideB
      by_cases h3 : 1 ≤ c + j ∧ c + j ≤ C
      · rw [if_pos h3, nbv_i hn e ⟨h2, h3⟩, nz_ice]
      · rw [if_neg h3, if_neg e, nbv_o hn e (fun z => h3 z.2), hb]
    · rw [if_neg h2, nbv_o hn e (fun z => h2 z.1), hb]
/-- what is around a cell -/
theorem around_n (hI : IV C R fz) (h1 : 3 ≤ C) (hC : C ≤ 12) (hR3 : 3 ≤ R) (hR : R ≤ 12) (hF : F ≤ 2) {r c : Nat} (hr : r < R) (hc : c < C) : sp_X1_countAround C R F fz (nI c) (nI r) = nI (arN C R F (iceG fz) c r) := by
  have h := fun i j (hi : i ≤ 2) (hj : j ≤ 2) (hn : ¬ (i = 1 ∧ j = 1)) => nb_bt (F := F) hI h1 hC hR3 hR hF hr hc hi hj hn
  have e0 : nI r + (nI 0 - 1) = nI r - 1 := by rw [show nI 0 - 1 = (-1 : Int32) by decide, Int32.sub_eq_add_neg]
  have e1 : nI r + (nI 1 - 1) = nI r := by rw [show nI 1 - 1 = (0 : Int32) by decide, Int32.add_zero]
  have e2 : nI r + (nI 2 - 1) = nI r + 1 := by rw [show nI 2 - 1 = (1 : Int32) by decide]
  unfold sp_X1_countAround
  rw [countIn_n _ _ _ (by omega)]
  refine congrArg nI ?_
  have a00 := h 0 0 (by omega) (by omega) (by omega); have a01 := h 0 1 (by omega) (by omega) (by omega); have a02 := h 0 2 (by omega) (by omega) (by omega)
  have a10 := h 1 0 (by omega) (by omega) (by omega); have a12 := h 1 2 (by omega) (by omega) (by omega)
  have a20 := h 2 0 (by omega) (by omega) (by omega); have a21 := h 2 1 (by omega) (by omega) (by omega); have a22 := h 2 2 (by omega) (by omega) (by omega)
  rw [e0] at a00 a01 a02
  rw [e1] at a10 a12
  rw [e2] at a20 a21 a22
  rw [Nat.add_zero] at a00 a10 a20
  rw [a00, a01, a02, a10, a12, a20, a21, a22]
  have hc1 : nbv C R F (iceG fz) c r 1 1 = 0 := nbv_c rfl rfl
  unfold arN arA
  simp only [sm, hc1]
  omega
/-! what will be frozen -/
theorem wlE_tab : (List.range 512).all (fun m => (List.range 9).all (fun a => decide (wlE (nI m) (nI (2 ^ a)) = (nI m >>> (nI a &&& 31)) &&& 1))) = true := by decide +kernel
theorem wlE_n {m a : Nat} (hm : m ≤ 511) (ha : a ≤ 8) : wlE (nI m) (nI (2 ^ a)) = (nI m >>> (nI a &&& 31)) &&& 1 := by
  have := List.all_eq_true.mp wlE_tab m (List.mem_range.mpr (by omega))
  have := List.all_eq_true.mp this a (List.mem_range.mpr (by omega))
  exact of_decide_eq_true this
def groB (C R F : Nat) (fz ml : Nat → Int32) (row fr st : Int32) (c : Nat) : Bool := decide (sp_X1_meltOf ml (nI c) row = 0) && decide ((((if sp_X1_hasFrost fz (nI c) row = 0 then fr else st) >>> (sp_X1_countIn (sp_X1_framed C R F fz (row - 1)) (sp_X1_framed C R F fz row) (sp_X1_framed C R F fz (row + 1)) (nI c) &&& 31)) &&& 1) = 1)
theorem gro_bt (row fr st : Int32) : ∀ k, k ≤ 12 → ∀ c, c < 12 → bt (gro C R F fz ml row fr st k) c = (decide (c < k) && groB C R F fz ml row fr st c)
  | 0, _, c, _ => by rw [gro, b_0]; simp
  | k + 1, hk, c, hc => by
    have ih := gro_bt row fr st k (by omega) c hc
    have key : gro C R F fz ml row fr st (k + 1) = if groB C R F fz ml row fr st k = true then gro C R F fz ml row fr st k ||| ((1 : Int32) <<< (nI k &&& 31)) else gro C R F fz ml row fr st k := by
      rw [gro]
      unfold groB
      by_cases h1 : sp_X1_meltOf ml (nI k) row = 0
      · rw [if_pos h1, decide_eq_true h1, Bool.true_and]
        by_cases h2 : (((if sp_X1_hasFrost fz (nI k) row = 0 then fr else st) >>> (sp_X1_countIn (sp_X1_framed C R F fz (row - 1)) (sp_X1_framed C R F fz row) (sp_X1_framed C R F fz (row + 1)) (nI k) &&& 31)) &&& 1) = 1
        · rw [if_pos h2, decide_eq_true h2, if_pos rfl]
        · rw [if_neg h2, decide_eq_false h2, if_neg (by decide)]
      · rw [if_neg h1, decide_eq_false h1, Bool.false_and, if_neg (by decide)]
    rw [key]
    by_cases e : c = k
    · subst e
      have h0 : decide (c < c) = false := decide_eq_false (Nat.lt_irrefl _)
      have h3 : decide (c < c + 1) = true := decide_eq_true (Nat.lt_succ_self _)
      cases hg : groB C R F fz ml row fr st c with
      | true => rw [if_pos rfl, b_or, bt_one (by omega) (by omega), h3]; simp
      | false => rw [if_neg (by decide), ih, hg]; simp
    · have h3 : decide (c < k + 1) = decide (c < k) := by
        by_cases h : c < k
        · rw [decide_eq_true h, decide_eq_true (by omega)]
        · rw [decide_eq_false h, decide_eq_false (by omega)]
      rw [h3, ← ih]
      cases hg : groB C R F fz ml row fr st k with
      | true => rw [if_pos rfl, b_or, bt_one (by omega) (by omega), decide_eq_false e, Bool.or_false]
      | false => rw [if_neg (by decide)]
theorem hasF_b (fz : Nat → Int32) {r c : Nat} (hr : r < 12) (hc : c < 12) : sp_X1_hasFrost fz (nI c) (nI r) = nI (b2n (bt (fz r) c)) := by
  unfold sp_X1_hasFrost
  rw [sp_bits_in hr, b_at _ (by omega)]
  cases bt (fz r) c <;> decide
theorem will_n (hI : IV C R fz) (h1 : 3 ≤ C) (hC : C ≤ 12) (hR3 : 3 ≤ R) (hR : R ≤ 12) (hF : F ≤ 2) {n b : Nat} {fr st : Nat → Int32} (hV : RV n fr st) (hb : b < n) {r c : Nat} (hr : r < R) (hc : c < C) :
    wlI C R F b (iceG fz) (mltG ml) (rulG fr st) c r = nI (b2n (bt (gro C R F fz ml (nI r) (fr b) (st b) C) c)) := by
  rw [gro_bt _ _ _ C hC c (by omega), decide_eq_true hc, Bool.true_and]
  have ha : sp_X1_countIn (sp_X1_framed C R F fz (nI r - 1)) (sp_X1_framed C R F fz (nI r)) (sp_X1_framed C R F fz (nI r + 1)) (nI c) = nI (arN C R F (iceG fz) c r) := around_n hI h1 hC hR3 hR hF hr hc
  have h8 : arN C R F (iceG fz) c r ≤ 8 := arN_le hF
  unfold groB
  rw [ha, melt_in (by omega) (by omega), hasF_b fz (by omega) (by omega)]
  obtain ⟨⟨x, hx, ex⟩, ⟨y, hy, ey⟩⟩ := hV b hb
  have fin : ∀ m, m ≤ 511 → wlE (nI m) (nI (2 ^ arN C R F (iceG fz) c r)) = nI (b2n (decide (((nI m >>> (nI (arN C R F (iceG fz) c r) &&& 31)) &&& 1) = 1))) := fun m hm => by
    rw [wlE_n hm h8, b_at _ (by omega)]
    cases bt (nI m) (arN C R F (iceG fz) c r) <;> decide
  by_cases hm : ml (r * 12 + c) = 0
  · rw [decide_eq_true hm, Bool.true_and]
    cases hz : bt (fz r) c with
    | false =>
      rw [wlI_0 (show mltG ml r c = 0 from hm) (show iceG fz r c = 0 by unfold iceG; rw [hz]; rfl), if_pos (by decide), show rulG fr st b 0 = fr b from rfl, ex]
      exact fin x hx
    | true =>
      rw [wlI_1 (show mltG ml r c = 0 from hm) (show ¬ iceG fz r c = 0 by unfold iceG; rw [hz]; decide), if_neg (by decide), show rulG fr st b 1 = st b from rfl, ey]
      exact fin y hy
  · rw [decide_eq_false hm, Bool.false_and, wlI_m (show ¬ mltG ml r c = 0 from hm)]; rfl
theorem next_n (fz ml : Nat → Int32) (hC : C ≤ 12) {r c : Nat} (hc : c < C) (fr st : Int32) : sp_X1_isFrozenNext C R F fz ml (nI c) (nI r) fr st = nI (b2n (bt (gro C R F fz ml (nI r) fr st C) c)) := by
  unfold sp_X1_isFrozenNext
  rw [b_at _ (by omega)]
  cases bt (gro C R F fz ml (nI r) fr st C) c <;> decide
theorem grown_n (hI : IV C R fz) (h1 : 3 ≤ C) (hC : C ≤ 12) (hR3 : 3 ≤ R) (hR : R ≤ 12) (hF : F ≤ 2) {n b : Nat} {fr st : Nat → Int32} (hV : RV n fr st) (hb : b < n) {r c : Nat} (hr : r < R) (hc : c < C) :
    wlI C R F b (iceG fz) (mltG ml) (rulG fr st) c r = iceG (stF C R F fz ml (fr b) (st b)) r c := by
  rw [will_n hI h1 hC hR3 hR hF hV hb hr hc]
  unfold iceG stF
  rw [sfill_lt hr]
  rfl
/-! two panes alike -/
theorem lk_n {gz nl : Nat → Int32} (hI : IV C R fz) (hJ : IV C R gz) (hC : C ≤ 12) (hR : R ≤ 12) : lkP C R (iceG fz) (mltG ml) (iceG gz) (mltG nl) ↔ lk C R fz ml gz nl = true := by
  unfold lk
  rw [@decide_eq_true_iff _ (Classical.propDecidable _)]
  constructor
  · intro h r hr
    refine ⟨?_, fun c hc => ?_⟩
    · rw [sp_bits_in (by omega), sp_bits_in (by omega)]
      refine b_ext fun i _ => ?_
      by_cases hi : i < C
      · have := (h r hr i hi).1
        unfold iceG at this
        cases h1 : bt (fz r) i <;> cases h2 : bt (gz r) i <;> rw [h1, h2] at this <;> first | rfl | exact absurd this (by decide)
      · rw [hI.1 r hr i (by omega), hJ.1 r hr i (by omega)]
    · rw [melt_in (by omega) (by omega), melt_in (by omega) (by omega)]; exact (h r hr c hc).2
  · intro h r hr c hc
    obtain ⟨a1, a2⟩ := h r hr
    rw [sp_bits_in (by omega), sp_bits_in (by omega)] at a1
    have a3 := a2 c hc
    rw [melt_in (by omega) (by omega), melt_in (by omega) (by omega)] at a3
    exact ⟨by unfold iceG; rw [a1], a3⟩
/-! pressing, turning -/
theorem hasC_in {r c : Nat} (hC : C ≤ 12) (hR : R ≤ 12) (hr : r < R) (hc : c < C) : sp_X1_hasCell C R (nI c) (nI r) = 1 := sp_hasCell_in hc hr hC hR
theorem nI_inj {a b : Nat} (ha : a < 2 ^ 31) (hb : b < 2 ^ 31) : nI a = nI b ↔ a = b := nI_eq ha hb
theorem me_bt (hI : IV C R fz) (hC : C ≤ 12) (hR : R ≤ 12) (x y : Int32) {r c : Nat} (hr : r < R) (hc : c < C) : bt (me_fz C R fz x y r) c = (bt (fz r) c && !decide (x = nI c ∧ y = nI r)) := by
  unfold me_fz
  by_cases h : sp_X1_hasCell C R x y = 0
  · rw [if_pos h, decide_eq_false (fun z => by rw [z.1, z.2, hasC_in hC hR hr hc] at h; exact absurd h (by decide)), Bool.not_false, Bool.and_true]
  · obtain ⟨c1, r1, hc1, hr1, rfl, rfl⟩ := cell_of hC hR h
    have hiff : decide (nI c1 = nI c ∧ nI r1 = nI r) = (decide (c1 = c) && decide (r1 = r)) := by
      by_cases e : c1 = c ∧ r1 = r
      · obtain ⟨rfl, rfl⟩ := e; simp
      · rw [decide_eq_false (fun z => e ⟨(nI_inj (by omega) (by omega)).mp z.1, (nI_inj (by omega) (by omega)).mp z.2⟩)]
        by_cases e1 : c1 = c
        · rw [decide_eq_true e1, decide_eq_false (fun z => e ⟨e1, z⟩)]; rfl
        · rw [decide_eq_false e1]; rfl
    rw [if_neg h, hiff, hasF_b fz (by omega) (by omega)]
    cases hz : bt (fz r1) c1 with
    | false =>
      rw [if_pos (by decide)]
      by_cases e : c1 = c ∧ r1 = r
      · obtain ⟨rfl, rfl⟩ := e; rw [hz]; rfl
      · by_cases e1 : c1 = c
        · rw [decide_eq_true e1, decide_eq_false (fun z => e ⟨e1, z⟩)]; simp
        · rw [decide_eq_false e1]; simp
    | true =>
      rw [if_neg (by decide), nI_clamp (by omega)]
      by_cases e : r1 = r
      · subst e
        rw [pk_us, b_xor, bt_one (by omega) (by omega), decide_eq_true rfl]
        by_cases e1 : c1 = c
        · subst e1; rw [hz]; simp
        · rw [decide_eq_false e1, decide_eq_false (show ¬ c = c1 by omega)]; simp
      · rw [pk_un (show r ≠ r1 by omega), decide_eq_false e]; simp
theorem me_m (hC : C ≤ 12) (hR : R ≤ 12) (x y g : Int32) {r c : Nat} (hr : r < R) (hc : c < C) : me_ml C R ml x y g (r * 12 + c) = if x = nI c ∧ y = nI r then g else ml (r * 12 + c) := by
  unfold me_ml
  by_cases h : sp_X1_hasCell C R x y = 0
  · rw [if_pos h, if_neg (fun z => by rw [z.1, z.2, hasC_in hC hR hr hc] at h; exact absurd h (by decide))]
  · obtain ⟨c1, r1, hc1, hr1, rfl, rfl⟩ := cell_of hC hR h
    rw [if_neg h, nI_clamp (by omega), nI_clamp (by omega)]
    by_cases e : c1 = c ∧ r1 = r
    · obtain ⟨rfl, rfl⟩ := e; rw [pk_us, if_pos ⟨rfl, rfl⟩]
    · rw [pk_un (by intro z; apply e; constructor <;> omega), if_neg (fun z => e ⟨(nI_inj (by omega) (by omega)).mp z.1, (nI_inj (by omega) (by omega)).mp z.2⟩)]
end LNK
