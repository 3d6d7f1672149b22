/-! pressing: the five cells -/
section LNP
variable {C R : Nat} {fz ml : Nat → Int32}
theorem sub1_nI {a b : Nat} (ha : a < 2 ^ 20) (hb : b < 2 ^ 20) : nI a - 1 = nI b ↔ a = b + 1 := by
  rcases a with _ | a
  · refine ⟨fun h => ?_, fun h => by omega⟩
    have h2 : (nI 0 - 1).toInt = (nI b).toInt := by rw [h]
    rw [nI_toInt (by omega), show nI 0 - 1 = (-1 : Int32) by decide, show (-1 : Int32).toInt = -1 by decide] at h2
    omega
  · rw [nI_pred, nI_inj (by omega) (by omega)]; omega
def p1d (c0 r0 r c : Nat) : Prop := c0 = c ∧ r0 = r
def p2d (c0 r0 r c : Nat) : Prop := c0 = c + 1 ∧ r0 = r
def p3d (c0 r0 r c : Nat) : Prop := c0 + 1 = c ∧ r0 = r
def p4d (c0 r0 r c : Nat) : Prop := c0 = c ∧ r0 = r + 1
def p5d (c0 r0 r c : Nat) : Prop := c0 = c ∧ r0 + 1 = r
theorem near_iff (c0 r0 r c : Nat) : nd r r0 + nd c c0 ≤ 1 ↔ p1d c0 r0 r c ∨ p2d c0 r0 r c ∨ p3d c0 r0 r c ∨ p4d c0 r0 r c ∨ p5d c0 r0 r c := by
  unfold nd p1d p2d p3d p4d p5d; omega
theorem p1e {c0 r0 r c : Nat} (hc0 : c0 < 12) (hr0 : r0 < 12) (hc : c < 12) (hr : r < 12) : (nI c0 = nI c ∧ nI r0 = nI r) ↔ p1d c0 r0 r c := by rw [nI_inj (by omega) (by omega), nI_inj (by omega) (by omega)]; rfl
theorem p2e {c0 r0 r c : Nat} (hc0 : c0 < 12) (hr0 : r0 < 12) (hc : c < 12) (hr : r < 12) : (nI c0 - 1 = nI c ∧ nI r0 = nI r) ↔ p2d c0 r0 r c := by rw [sub1_nI (by omega) (by omega), nI_inj (by omega) (by omega)]; rfl
theorem p3e {c0 r0 r c : Nat} (hc0 : c0 < 12) (hr0 : r0 < 12) (hc : c < 12) (hr : r < 12) : (nI (c0 + 1) = nI c ∧ nI r0 = nI r) ↔ p3d c0 r0 r c := by rw [nI_inj (by omega) (by omega), nI_inj (by omega) (by omega)]; rfl
theorem p4e {c0 r0 r c : Nat} (hc0 : c0 < 12) (hr0 : r0 < 12) (hc : c < 12) (hr : r < 12) : (nI c0 = nI c ∧ nI r0 - 1 = nI r) ↔ p4d c0 r0 r c := by rw [sub1_nI (by omega) (by omega), nI_inj (by omega) (by omega)]; rfl
theorem p5e {c0 r0 r c : Nat} (hc0 : c0 < 12) (hr0 : r0 < 12) (hc : c < 12) (hr : r < 12) : (nI c0 = nI c ∧ nI (r0 + 1) = nI r) ↔ p5d c0 r0 r c := by rw [nI_inj (by omega) (by omega), nI_inj (by omega) (by omega)]; rfl
theorem dec_iff {p q : Prop} [Decidable p] [Decidable q] (h : p ↔ q) : decide p = decide q := by
  by_cases hp : p
  · rw [decide_eq_true hp, decide_eq_true (h.mp hp)]
  · rw [decide_eq_false hp, decide_eq_false (fun z => hp (h.mpr z))]
theorem not_d {p : Prop} [Decidable p] (h : p) : (!decide p) = false := by rw [decide_eq_true h]; rfl
theorem not_nd {p : Prop} [Decidable p] (h : ¬ p) : (!decide p) = true := by rw [decide_eq_false h]; rfl
theorem press_ice (hI : IV C R fz) (hC : C ≤ 12) (hR : R ≤ 12) {c0 r0 : Nat} (hc0 : c0 < C) (hr0 : r0 < R) {r c : Nat} (hr : r < R) (hc : c < C) : prI (iceG fz) 0 c0 r0 R 0 r c = iceG (pr5 C R fz c0 r0) r c := by
  have i1 := IV_me hI hC hR (nI c0) (nI r0)
  have i2 := IV_me i1 hC hR (nI c0 - 1) (nI r0)
  have i3 := IV_me i2 hC hR (nI (c0 + 1)) (nI r0)
  have i4 := IV_me i3 hC hR (nI c0) (nI r0 - 1)
  have hb : bt (pr5 C R fz c0 r0 r) c = (bt (fz r) c && !decide (nI c0 = nI c ∧ nI r0 = nI r) && !decide (nI c0 - 1 = nI c ∧ nI r0 = nI r) && !decide (nI (c0 + 1) = nI c ∧ nI r0 = nI r) && !decide (nI c0 = nI c ∧ nI r0 - 1 = nI r) && !decide (nI c0 = nI c ∧ nI (r0 + 1) = nI r)) := by
    show bt (me_fz C R (me_fz C R (me_fz C R (me_fz C R (me_fz C R fz _ _) _ _) _ _) _ _) _ _ r) c = _
    rw [me_bt i4 hC hR _ _ hr hc, me_bt i3 hC hR _ _ hr hc, me_bt i2 hC hR _ _ hr hc, me_bt i1 hC hR _ _ hr hc, me_bt hI hC hR _ _ hr hc]
  have e1 := p1e (c0 := c0) (r0 := r0) (r := r) (c := c) (by omega) (by omega) (by omega) (by omega)
  have e2 := p2e (c0 := c0) (r0 := r0) (r := r) (c := c) (by omega) (by omega) (by omega) (by omega)
  have e3 := p3e (c0 := c0) (r0 := r0) (r := r) (c := c) (by omega) (by omega) (by omega) (by omega)
  have e4 := p4e (c0 := c0) (r0 := r0) (r := r) (c := c) (by omega) (by omega) (by omega) (by omega)
  have e5 := p5e (c0 := c0) (r0 := r0) (r := r) (c := c) (by omega) (by omega) (by omega) (by omega)
  have hn := near_iff c0 r0 r c
  by_cases h : nd r r0 + nd c c0 ≤ 1
  · refine (if_pos ⟨Or.inl hr, h⟩).trans ?_
    unfold iceG
    rw [hb]
    rcases hn.mp h with z | z | z | z | z
    · rw [not_d (e1.mpr z)]; simp [b2n] <;> rfl
    · rw [not_d (e2.mpr z)]; simp [b2n] <;> rfl
    · rw [not_d (e3.mpr z)]; simp [b2n] <;> rfl
    · rw [not_d (e4.mpr z)]; simp [b2n] <;> rfl
    · rw [not_d (e5.mpr z)]; simp [b2n] <;> rfl
  · refine (if_neg (fun z => h z.2)).trans ?_
    have g : ∀ p, (p → nd r r0 + nd c c0 ≤ 1) → ¬ p := fun p hp hq => h (hp hq)
    unfold iceG
    rw [hb, not_nd (g _ (fun z => hn.mpr (Or.inl (e1.mp z)))), not_nd (g _ (fun z => hn.mpr (Or.inr (Or.inl (e2.mp z))))), not_nd (g _ (fun z => hn.mpr (Or.inr (Or.inr (Or.inl (e3.mp z)))))),
      not_nd (g _ (fun z => hn.mpr (Or.inr (Or.inr (Or.inr (Or.inl (e4.mp z))))))), not_nd (g _ (fun z => hn.mpr (Or.inr (Or.inr (Or.inr (Or.inr (e5.mp z)))))))]
    simp
theorem press_mlt (hC : C ≤ 12) (hR : R ≤ 12) {c0 r0 : Nat} (g : Nat) (hc0 : c0 < C) (hr0 : r0 < R) {r c : Nat} (hr : r < R) (hc : c < C) : prI (mltG ml) (nI g) c0 r0 R 0 r c = mltG (pm5 C R ml c0 r0 g) r c := by
  have hb : pm5 C R ml c0 r0 g (r * 12 + c) = if nI c0 = nI c ∧ nI (r0 + 1) = nI r then nI g else if nI c0 = nI c ∧ nI r0 - 1 = nI r then nI g else if nI (c0 + 1) = nI c ∧ nI r0 = nI r then nI g else if nI c0 - 1 = nI c ∧ nI r0 = nI r then nI g else if nI c0 = nI c ∧ nI r0 = nI r then nI g else ml (r * 12 + c) := by
    show me_ml C R (me_ml C R (me_ml C R (me_ml C R (me_ml C R ml _ _ _) _ _ _) _ _ _) _ _ _) _ _ _ (r * 12 + c) = _
    rw [me_m hC hR _ _ _ hr hc, me_m hC hR _ _ _ hr hc, me_m hC hR _ _ _ hr hc, me_m hC hR _ _ _ hr hc, me_m hC hR _ _ _ hr hc]
  have e1 := p1e (c0 := c0) (r0 := r0) (r := r) (c := c) (by omega) (by omega) (by omega) (by omega)
  have e2 := p2e (c0 := c0) (r0 := r0) (r := r) (c := c) (by omega) (by omega) (by omega) (by omega)
  have e3 := p3e (c0 := c0) (r0 := r0) (r := r) (c := c) (by omega) (by omega) (by omega) (by omega)
  have e4 := p4e (c0 := c0) (r0 := r0) (r := r) (c := c) (by omega) (by omega) (by omega) (by omega)
  have e5 := p5e (c0 := c0) (r0 := r0) (r := r) (c := c) (by omega) (by omega) (by omega) (by omega)
  have hn := near_iff c0 r0 r c
  show _ = pm5 C R ml c0 r0 g (r * 12 + c)
  rw [hb]
  by_cases h : nd r r0 + nd c c0 ≤ 1
  · refine (if_pos ⟨Or.inl hr, h⟩).trans ?_
    rcases hn.mp h with z | z | z | z | z
    · rw [if_pos (e1.mpr z)]; repeat (first | rfl | split)
    · rw [if_pos (e2.mpr z)]; repeat (first | rfl | split)
    · rw [if_pos (e3.mpr z)]; repeat (first | rfl | split)
    · rw [if_pos (e4.mpr z)]; repeat (first | rfl | split)
    · rw [if_pos (e5.mpr z)]
  · refine (if_neg (fun z => h z.2)).trans ?_
    have g : ∀ p, (p → nd r r0 + nd c c0 ≤ 1) → ¬ p := fun p hp hq => h (hp hq)
    rw [if_neg (g _ (fun z => hn.mpr (Or.inr (Or.inr (Or.inr (Or.inr (e5.mp z))))))), if_neg (g _ (fun z => hn.mpr (Or.inr (Or.inr (Or.inr (Or.inl (e4.mp z))))))), if_neg (g _ (fun z => hn.mpr (Or.inr (Or.inr (Or.inl (e3.mp z)))))), if_neg (g _ (fun z => hn.mpr (Or.inr (Or.inl (e2.mp z))))), if_neg (g _ (fun z => hn.mpr (Or.inl (e1.mp z))))]
    rfl
/-- one cell's share -/
def shr (f : Nat → Int32) (x y : Int32) (r c : Nat) : Nat := if x = nI c ∧ y = nI r then b2n (bt (f r) c) else 0
theorem me_r_n (hC : C ≤ 12) (hR : R ≤ 12) (f : Nat → Int32) (x y : Int32) : me_r C R f x y = nI (sm (fun r => sm (shr f x y r) C) R) := by
  unfold me_r
  by_cases h : sp_X1_hasCell C R x y = 0
  · rw [if_pos h]
    refine (congrArg nI (sm_0 fun r hr => sm_0 fun c hc => ?_)).symm
    exact if_neg (fun z => by rw [z.1, z.2, hasC_in hC hR hr hc] at h; exact absurd h (by decide))
  · obtain ⟨c1, r1, hc1, hr1, rfl, rfl⟩ := cell_of hC hR h
    rw [if_neg h, hasF_b f (by omega) (by omega)]
    have h1 : sm (shr f (nI c1) (nI r1) r1) C = b2n (bt (f r1) c1) := sm_one (p := c1) hc1 (if_pos ⟨rfl, rfl⟩) (fun c hc hn => if_neg (fun z => hn ((nI_inj (by omega) (by omega)).mp z.1).symm))
    have h2 : sm (fun r => sm (shr f (nI c1) (nI r1) r) C) R = b2n (bt (f r1) c1) := sm_one (p := r1) hr1 h1 (fun r hr hn => sm_0 (fun c _ => if_neg (fun z => hn ((nI_inj (by omega) (by omega)).mp z.2).symm)))
    rw [h2]
theorem sm_add2 (f g : Nat → Nat → Nat) (C : Nat) : ∀ R, sm (fun r => sm (f r) C) R + sm (fun r => sm (g r) C) R = sm (fun r => sm (fun c => f r c + g r c) C) R := fun R => by
  rw [← sm_add]
  exact sm_congr fun r _ => (sm_add (f r) (g r) C).symm
theorem press_cnt (hI : IV C R fz) (hC : C ≤ 12) (hR : R ≤ 12) {c0 r0 : Nat} (hc0 : c0 < C) (hr0 : r0 < R) : prR C R fz c0 r0 = nI (sm (fun q9 => sm (prS (iceG fz) c0 r0 q9) C) R) := by
  have i1 := IV_me hI hC hR (nI c0) (nI r0)
  have i2 := IV_me i1 hC hR (nI c0 - 1) (nI r0)
  have i3 := IV_me i2 hC hR (nI (c0 + 1)) (nI r0)
  unfold prR
  rw [me_r_n hC hR, me_r_n hC hR, me_r_n hC hR, me_r_n hC hR, me_r_n hC hR, nI_add, nI_add, nI_add, nI_add, sm_add2, sm_add2, sm_add2, sm_add2]
  refine congrArg nI (sm_congr fun r hr => sm_congr fun c hc => ?_)
  have e1 := p1e (c0 := c0) (r0 := r0) (r := r) (c := c) (by omega) (by omega) (by omega) (by omega)
  have e2 := p2e (c0 := c0) (r0 := r0) (r := r) (c := c) (by omega) (by omega) (by omega) (by omega)
  have e3 := p3e (c0 := c0) (r0 := r0) (r := r) (c := c) (by omega) (by omega) (by omega) (by omega)
  have e4 := p4e (c0 := c0) (r0 := r0) (r := r) (c := c) (by omega) (by omega) (by omega) (by omega)
  have e5 := p5e (c0 := c0) (r0 := r0) (r := r) (c := c) (by omega) (by omega) (by omega) (by omega)
  have hn := near_iff c0 r0 r c
  have b1 : bt (pr1 C R fz c0 r0 r) c = (bt (fz r) c && !decide (nI c0 = nI c ∧ nI r0 = nI r)) := me_bt hI hC hR _ _ hr hc
  have b2 : bt (pr2 C R fz c0 r0 r) c = (bt (pr1 C R fz c0 r0 r) c && !decide (nI c0 - 1 = nI c ∧ nI r0 = nI r)) := me_bt i1 hC hR _ _ hr hc
  have b3 : bt (pr3 C R fz c0 r0 r) c = (bt (pr2 C R fz c0 r0 r) c && !decide (nI (c0 + 1) = nI c ∧ nI r0 = nI r)) := me_bt i2 hC hR _ _ hr hc
  have b4 : bt (pr4 C R fz c0 r0 r) c = (bt (pr3 C R fz c0 r0 r) c && !decide (nI c0 = nI c ∧ nI r0 - 1 = nI r)) := me_bt i3 hC hR _ _ hr hc
  unfold shr prS
  rw [nz_ice, b4, b3, b2, b1]
  have x12 : p1d c0 r0 r c → ¬ p2d c0 r0 r c ∧ ¬ p3d c0 r0 r c ∧ ¬ p4d c0 r0 r c ∧ ¬ p5d c0 r0 r c := by unfold p1d p2d p3d p4d p5d; omega
  have x23 : p2d c0 r0 r c → ¬ p1d c0 r0 r c ∧ ¬ p3d c0 r0 r c ∧ ¬ p4d c0 r0 r c ∧ ¬ p5d c0 r0 r c := by unfold p1d p2d p3d p4d p5d; omega
  have x34 : p3d c0 r0 r c → ¬ p1d c0 r0 r c ∧ ¬ p2d c0 r0 r c ∧ ¬ p4d c0 r0 r c ∧ ¬ p5d c0 r0 r c := by unfold p1d p2d p3d p4d p5d; omega
  have x45 : p4d c0 r0 r c → ¬ p1d c0 r0 r c ∧ ¬ p2d c0 r0 r c ∧ ¬ p3d c0 r0 r c ∧ ¬ p5d c0 r0 r c := by unfold p1d p2d p3d p4d p5d; omega
  have x51 : p5d c0 r0 r c → ¬ p1d c0 r0 r c ∧ ¬ p2d c0 r0 r c ∧ ¬ p3d c0 r0 r c ∧ ¬ p4d c0 r0 r c := by unfold p1d p2d p3d p4d p5d; omega
  by_cases h : nd r r0 + nd c c0 ≤ 1
  · rw [if_pos h]
    rcases hn.mp h with z | z | z | z | z
    · obtain ⟨n2, n3, n4, n5⟩ := x12 z
      rw [if_pos (e1.mpr z), if_neg (mt e2.mp n2), if_neg (mt e3.mp n3), if_neg (mt e4.mp n4), if_neg (mt e5.mp n5)]; simp
    · obtain ⟨n1, n3, n4, n5⟩ := x23 z
      rw [if_neg (mt e1.mp n1), if_pos (e2.mpr z), if_neg (mt e3.mp n3), if_neg (mt e4.mp n4), if_neg (mt e5.mp n5), not_nd (mt e1.mp n1)]; simp
    · obtain ⟨n1, n2, n4, n5⟩ := x34 z
      rw [if_neg (mt e1.mp n1), if_neg (mt e2.mp n2), if_pos (e3.mpr z), if_neg (mt e4.mp n4), if_neg (mt e5.mp n5), not_nd (mt e1.mp n1), not_nd (mt e2.mp n2)]; simp
    · obtain ⟨n1, n2, n3, n5⟩ := x45 z
      rw [if_neg (mt e1.mp n1), if_neg (mt e2.mp n2), if_neg (mt e3.mp n3), if_pos (e4.mpr z), if_neg (mt e5.mp n5), not_nd (mt e1.mp n1), not_nd (mt e2.mp n2), not_nd (mt e3.mp n3)]; simp
    · obtain ⟨n1, n2, n3, n4⟩ := x51 z
      rw [if_neg (mt e1.mp n1), if_neg (mt e2.mp n2), if_neg (mt e3.mp n3), if_neg (mt e4.mp n4), if_pos (e5.mpr z), not_nd (mt e1.mp n1), not_nd (mt e2.mp n2), not_nd (mt e3.mp n3), not_nd (mt e4.mp n4)]; simp
  · have g : ∀ p, (p → nd r r0 + nd c c0 ≤ 1) → ¬ p := fun p hp hq => h (hp hq)
    rw [if_neg h, if_neg (g _ (fun z => hn.mpr (Or.inl (e1.mp z)))), if_neg (g _ (fun z => hn.mpr (Or.inr (Or.inl (e2.mp z))))), if_neg (g _ (fun z => hn.mpr (Or.inr (Or.inr (Or.inl (e3.mp z)))))), if_neg (g _ (fun z => hn.mpr (Or.inr (Or.inr (Or.inr (Or.inl (e4.mp z))))))), if_neg (g _ (fun z => hn.mpr (Or.inr (Or.inr (Or.inr (Or.inr (e5.mp z)))))))]
/-- a cell turned -/
theorem turn_ice (hC : C ≤ 12) {c0 r0 : Nat} (hc0 : c0 < C) (hr0 : r0 < 12) {r c : Nat} (hc : c < C) : up2 (iceG fz) r0 c0 (nI (b2n (!bt (fz r0) c0))) r c = iceG (upd fz r0 (fz r0 ^^^ ((1 : Int32) <<< (nI c0 &&& 31)))) r c := by
  unfold iceG
  by_cases e : r = r0
  · subst e
    rw [pk_us, b_xor, bt_one (by omega) (by omega)]
    by_cases e1 : c = c0
    · subst e1; rw [up2_at]; simp
    · rw [up2_ne (fun z => e1 z.2), decide_eq_false e1, Bool.xor_false]
  · rw [up2_ne (fun z => e z.1), pk_un e]
/-- what the law keeps of its own pane: its rows, in the pool -/
def SimS (cI cZ : ClassId) (L : List Nat) (f : Nat → va_E) (C R n : Nat) (ai mi ri : Nat → Nat) (fz ml fr st : Nat → Int32) : Prop :=
  Rw cZ L f R C ai (iceG fz) ∧ Rw cI L f R C mi (mltG ml) ∧ Rw cI L f n 2 ri (rulG fr st) ∧ Inj R ai ∧ Inj R mi ∧ Apt R R ai mi ∧ Apt R R mi ai ∧ Apt n R ri ai ∧ Apt n R ri mi
theorem dcmp_tab : (List.range 145).all (fun m => (List.range 10).all (fun r => decide (Op.cmpValue (FP.dcmp (FP.ddiv (FP.i2d (nI m)) (FP.i2d (nI (r + 3)))) (FP.ddiv (FP.i2d (nI m)) (FP.i2d (nI (r + 3))))) .l = 0))) = true := by decide +kernel
theorem dcmp_n {m R : Nat} (hm : m ≤ 144) (h3 : 3 ≤ R) (h12 : R ≤ 12) : Op.cmpValue (FP.dcmp (FP.ddiv (FP.i2d (nI m)) (FP.i2d (nI R))) (FP.ddiv (FP.i2d (nI m)) (FP.i2d (nI R)))) .l = 0 := by
  have := List.all_eq_true.mp dcmp_tab m (List.mem_range.mpr (by omega))
  have := List.all_eq_true.mp this (R - 3) (List.mem_range.mpr (by omega))
  rw [show R - 3 + 3 = R by omega] at this
  exact of_decide_eq_true this
end LNP
