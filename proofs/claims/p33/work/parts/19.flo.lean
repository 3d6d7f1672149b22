section C_specs_flo
/-! the labels of the law's own pane -/
def lbI (C : Nat) (g : Nat → Nat) : Nat → Nat → Int32 := fun r c => nI (g (r * C + c))
def lb0 (C : Nat) (fz : Nat → Int32) : Nat → Nat := fun i => if bt (fz (i / C)) (i % C) = true then i + 1 else 0
def flG (C : Nat) (ig : Nat → Nat → Int32) (r c : Nat) : Nat → Nat → Int32 := fun r' c' => if r' < r ∨ (r' = r ∧ c' < c) then (if ig r' c' = 0 then 0 else nI ((1 + r' * C) + c')) else 0
theorem flG_0 (C : Nat) (ig : Nat → Nat → Int32) (r' c' : Nat) : (0 : Int32) = flG C ig 0 0 r' c' := (if_neg (by omega)).symm
theorem flG_row {C C1 : Nat} {ig : Nat → Nat → Int32} {r r' c' : Nat} (h : c' < C1) : flG C ig r C1 r' c' = flG C ig (r + 1) 0 r' c' := by
  unfold flG
  by_cases h2 : r' < r ∨ (r' = r ∧ c' < C1)
  · rw [if_pos h2, if_pos (show r' < r + 1 ∨ _ by omega)]
  · rw [if_neg h2, if_neg (show ¬ (r' < r + 1 ∨ _) by omega)]
theorem flG_up {C : Nat} {ig : Nat → Nat → Int32} {r c : Nat} {v : Int32} (hv : v = if ig r c = 0 then 0 else nI ((1 + r * C) + c)) (r' c' : Nat) : up2 (flG C ig r c) r c v r' c' = flG C ig r (c + 1) r' c' := by
  by_cases e : r' = r ∧ c' = c
  · obtain ⟨rfl, rfl⟩ := e
    rw [up2_at, hv]; exact (if_pos (Or.inr ⟨rfl, by omega⟩)).symm
  · rw [up2_ne e]
    unfold flG
    by_cases h2 : r' < r ∨ (r' = r ∧ c' < c)
    · rw [if_pos h2, if_pos (show r' < r ∨ (r' = r ∧ c' < c + 1) by omega)]
    · rw [if_neg h2, if_neg (show ¬ (r' < r ∨ (r' = r ∧ c' < c + 1)) by omega)]
theorem flG_end {C R : Nat} {fz : Nat → Int32} {ig : Nat → Nat → Int32} (hig : ∀ r, r < R → ∀ c, c < C → ig r c = nI (b2n (bt (fz r) c))) {r c : Nat} (hr : r < R) (hc : c < C) : flG C ig R 0 r c = lbI C (lb0 C fz) r c := by
  obtain ⟨e1, e2, e3⟩ := ix_mk (R := R) hr hc
  refine (if_pos (Or.inl hr)).trans ?_
  rw [hig r hr c hc]
  unfold lbI lb0
  rw [e2, e3]
  cases bt (fz r) c with
  | false => rfl
  | true => rw [if_neg (by decide), if_pos rfl]; congr 1; omega
theorem lb0_Lb0 {C R : Nat} {fz : Nat → Int32} (hI : IV C R fz) (hC0 : 0 < C) (hC : C ≤ 12) (hR : R ≤ 12) : Lb0 C R fz (lb0 C fz) := fun i hi => by
  rw [fE_self hI hC0 hC hR hi]
  unfold lb0
  refine ⟨fun h => if_neg (by rw [h]; decide), fun h => ?_⟩
  rw [if_pos h]
  exact ⟨Nat.le_refl _, i, hi, by rw [fE_self hI hC0 hC hR hi]; exact h, rfl⟩
def vldD (C R d r c : Nat) : Prop := match d with
  | 0 => r + 1 < R
  | 1 => 1 ≤ r
  | 2 => c + 1 < C
  | _ => 1 ≤ c
def nbD (C d r c : Nat) : Nat := match d with
  | 0 => (r + 1) * C + c
  | 1 => (r - 1) * C + c
  | 2 => r * C + (c + 1)
  | _ => r * C + (c - 1)
def imp (C R : Nat) (g : Nat → Nat) (d r c : Nat) : Prop := g (r * C + c) ≠ 0 ∧ vldD C R d r c ∧ g (nbD C d r c) ≠ 0 ∧ g (nbD C d r c) < g (r * C + c)
def bef (r c d r' c' d' : Nat) : Prop := r' < r ∨ (r' = r ∧ (c' < c ∨ (c' = c ∧ d' < d)))
def SwI (C R : Nat) (fz : Nat → Int32) (g0 g : Nat → Nat) (fl r c d : Nat) : Prop := Lb0 C R fz g ∧ sm g (R * C) ≤ sm g0 (R * C) ∧ (fl = 0 ∨ fl = 1) ∧ (fl = 1 → sm g (R * C) < sm g0 (R * C)) ∧
  (fl = 0 → g = g0 ∧ ∀ r' c' d', r' < R → c' < C → d' < 4 → bef r c d r' c' d' → ¬ imp C R g0 d' r' c')
theorem nbD_in {C R d r c : Nat} (hr : r < R) (hc : c < C) (hd : d < 4) (h : vldD C R d r c) : nbD C d r c < R * C ∧
    ((((r * C + c) / C = nbD C d r c / C ∧ ((r * C + c) % C = nbD C d r c % C + 1 ∨ (r * C + c) % C + 1 = nbD C d r c % C)) ∨ ((r * C + c) % C = nbD C d r c % C ∧ ((r * C + c) / C = nbD C d r c / C + 1 ∨ (r * C + c) / C + 1 = nbD C d r c / C)))) := by
  obtain ⟨e1, e2, e3⟩ := ix_mk hr hc
  rcases (show d = 0 ∨ d = 1 ∨ d = 2 ∨ d = 3 by omega) with rfl | rfl | rfl | rfl
  · obtain ⟨f1, f2, f3⟩ := ix_mk (show r + 1 < R from h) hc
    refine ⟨f1, Or.inr ?_⟩; show _ = ((r + 1) * C + c) % C ∧ (_ = ((r + 1) * C + c) / C + 1 ∨ _ = ((r + 1) * C + c) / C); rw [e2, e3, f2, f3]; exact ⟨rfl, Or.inr rfl⟩
  · have h1 : 1 ≤ r := h
    obtain ⟨f1, f2, f3⟩ := ix_mk (show r - 1 < R by omega) hc
    refine ⟨f1, Or.inr ?_⟩; show _ = ((r - 1) * C + c) % C ∧ (_ = ((r - 1) * C + c) / C + 1 ∨ _ = ((r - 1) * C + c) / C); rw [e2, e3, f2, f3]; exact ⟨rfl, Or.inl (by omega)⟩
  · obtain ⟨f1, f2, f3⟩ := ix_mk hr (show c + 1 < C from h)
    refine ⟨f1, Or.inl ?_⟩; show _ = (r * C + (c + 1)) / C ∧ (_ = (r * C + (c + 1)) % C + 1 ∨ _ = (r * C + (c + 1)) % C); rw [e2, e3, f2, f3]; exact ⟨rfl, Or.inr rfl⟩
  · have h1 : 1 ≤ c := h
    obtain ⟨f1, f2, f3⟩ := ix_mk hr (show c - 1 < C by omega)
    refine ⟨f1, Or.inl ?_⟩; show _ = (r * C + (c - 1)) / C ∧ (_ = (r * C + (c - 1)) % C + 1 ∨ _ = (r * C + (c - 1)) % C); rw [e2, e3, f2, f3]; exact ⟨rfl, Or.inl (by omega)⟩
theorem sw_start {C R : Nat} {fz : Nat → Int32} {g : Nat → Nat} (h : Lb0 C R fz g) : SwI C R fz g g 0 0 0 0 := ⟨h, Nat.le_refl _, Or.inl rfl, fun z => absurd z (by decide), fun _ => ⟨rfl, fun r' c' d' _ _ _ hb => by unfold bef at hb; omega⟩⟩
theorem sw_no {C R : Nat} {fz : Nat → Int32} {g0 g : Nat → Nat} {fl r c d : Nat} (h : SwI C R fz g0 g fl r c d) (hn : ¬ imp C R g d r c) : SwI C R fz g0 g fl r c (d + 1) := by
  obtain ⟨h1, h2, h3, h4, h5⟩ := h
  refine ⟨h1, h2, h3, h4, fun z => ⟨(h5 z).1, fun r' c' d' a1 a2 a3 hb => ?_⟩⟩
  by_cases e : r' = r ∧ c' = c ∧ d' = d
  · obtain ⟨rfl, rfl, rfl⟩ := e
    rw [← (h5 z).1]; exact hn
  · exact (h5 z).2 r' c' d' a1 a2 a3 (by unfold bef at hb ⊢; omega)
theorem sw_cell {C R : Nat} {fz : Nat → Int32} {g0 g : Nat → Nat} {fl r c d : Nat} (hd : d = 4) (h : SwI C R fz g0 g fl r c d) : SwI C R fz g0 g fl r (c + 1) 0 := by
  obtain ⟨h1, h2, h3, h4, h5⟩ := h
  exact ⟨h1, h2, h3, h4, fun z => ⟨(h5 z).1, fun r' c' d' a1 a2 a3 hb => (h5 z).2 r' c' d' a1 a2 a3 (by unfold bef at hb ⊢; omega)⟩⟩
theorem sw_row {C R : Nat} {fz : Nat → Int32} {g0 g : Nat → Nat} {fl r c : Nat} (hc : c = C) (h : SwI C R fz g0 g fl r c 0) : SwI C R fz g0 g fl (r + 1) 0 0 := by
  obtain ⟨h1, h2, h3, h4, h5⟩ := h
  exact ⟨h1, h2, h3, h4, fun z => ⟨(h5 z).1, fun r' c' d' a1 a2 a3 hb => (h5 z).2 r' c' d' a1 a2 a3 (by unfold bef at hb ⊢; omega)⟩⟩
theorem sm_up {g : Nat → Nat} {i v : Nat} : ∀ {n : Nat}, i < n → sm (va_up g i v) n + g i = sm g n + v
  | 0, h => absurd h (Nat.not_lt_zero _)
  | n + 1, h => by
    rw [sm, sm]
    by_cases e : i = n
    · subst e
      have h2 : sm (va_up g i v) i = sm g i := sm_congr fun j hj => if_neg (by omega)
      rw [show va_up g i v i = v from if_pos rfl, h2]; omega
    · have := sm_up (g := g) (i := i) (v := v) (n := n) (by omega)
      rw [show va_up g i v n = g n from if_neg (fun z => e z.symm)]; omega
theorem sw_up {C R : Nat} {fz : Nat → Int32} (hI : IV C R fz) (hC0 : 0 < C) (hC : C ≤ 12) (hR : R ≤ 12) {g0 g : Nat → Nat} {fl r c d : Nat} (hr : r < R) (hc : c < C) (hd : d < 4) (h : SwI C R fz g0 g fl r c d) (hi : imp C R g d r c) :
    SwI C R fz g0 (va_up g (r * C + c) (g (nbD C d r c))) 1 r c (d + 1) := by
  obtain ⟨h1, h2, h3, h4, h5⟩ := h
  obtain ⟨i1, i2, i3, i4⟩ := hi
  obtain ⟨e1, e2, e3⟩ := ix_mk hr hc
  obtain ⟨n1, n2⟩ := nbD_in hr hc hd i2
  have hp := fE_par (fz := fz) hI hC0 hC hR
  have hs := sm_up (g := g) (v := g (nbD C d r c)) e1
  have hii : fE C fz (r * C + c) (r * C + c) = true := by
    cases hq : fE C fz (r * C + c) (r * C + c) with
    | true => rfl
    | false => exact absurd ((h1 _ e1).1 hq) i1
  have hjj : fE C fz (nbD C d r c) (nbD C d r c) = true := by
    cases hq : fE C fz (nbD C d r c) (nbD C d r c) with
    | true => rfl
    | false => exact absurd ((h1 _ n1).1 hq) i3
  refine ⟨fun k hk => ?_, by omega, Or.inr rfl, fun _ => by omega, fun z => absurd z (by decide)⟩
  by_cases e : k = r * C + c
  · subst e
    rw [show va_up g (r * C + c) (g (nbD C d r c)) (r * C + c) = g (nbD C d r c) from if_pos rfl]
    refine ⟨fun z => absurd (hii.symm.trans z) (by decide), fun _ => ?_⟩
    obtain ⟨l1, -⟩ := (h1 _ e1).2 hii
    obtain ⟨l2, j, hj, hj1, hj2⟩ := (h1 _ n1).2 hjj
    refine ⟨by omega, j, hj, par_tr hp e1 n1 hj (fE_adj hI hC0 hC hR e1 n1 (by rw [← fE_self hI hC0 hC hR e1]; exact hii) (by rw [← fE_self hI hC0 hC hR n1]; exact hjj) n2) hj1, hj2⟩
  · rw [show va_up g (r * C + c) (g (nbD C d r c)) k = g k from if_neg e]
    exact h1 k hk
theorem sw_end {C R : Nat} {fz : Nat → Int32} (hI : IV C R fz) (hC0 : 0 < C) (hC : C ≤ 12) (hR : R ≤ 12) {g0 g : Nat → Nat} {fl r : Nat} (hr : r = R) (h : SwI C R fz g0 g fl r 0 0) : Lb0 C R fz g ∧ (fl = 0 ∨ fl = 1) ∧ (fl = 0 → Lbl (R * C) (fE C fz) g) := by
  obtain ⟨h1, h2, h3, h4, h5⟩ := h
  refine ⟨h1, h3, fun z => lb_fin hI hC0 hC hR h1 fun i j hi hj hii hjj ha => ?_⟩
  obtain ⟨hg, hno⟩ := h5 z
  obtain ⟨r1, c1⟩ := ix_lt hC0 hj
  obtain ⟨r2, c2⟩ := ix_lt hC0 hi
  have gi : g i ≠ 0 := by
    obtain ⟨_, j', _, _, e⟩ := (h1 i hi).2 hii
    omega
  have gj : g j ≠ 0 := by
    obtain ⟨_, j', _, _, e⟩ := (h1 j hj).2 hjj
    omega
  refine Nat.le_of_not_lt fun hlt => ?_
  have key : ∀ d, d < 4 → vldD C R d (j / C) (j % C) → nbD C d (j / C) (j % C) = i → False := fun d hd hv hn => by
    refine hno (j / C) (j % C) d r1 c1 hd (by unfold bef; omega) ⟨?_, hv, ?_, ?_⟩
    · rw [ix_eq, ← hg]; exact gj
    · rw [hn, ← hg]; exact gi
    · rw [hn, ix_eq, ← hg]; exact hlt
  have ei := ix_eq (C := C) i
  rcases ha with ⟨e1, e2 | e2⟩ | ⟨e1, e2 | e2⟩
  · refine key 2 (by decide) (show j % C + 1 < C by omega) (show j / C * C + (j % C + 1) = i from ?_)
    rw [← e1, ← e2]; exact ei
  · refine key 3 (by decide) (show 1 ≤ j % C by omega) (show j / C * C + (j % C - 1) = i from ?_)
    rw [← e1, ← e2, Nat.add_sub_cancel]; exact ei
  · refine key 0 (by decide) (show j / C + 1 < R by omega) (show (j / C + 1) * C + j % C = i from ?_)
    rw [← e1, ← e2]; exact ei
  · refine key 1 (by decide) (show 1 ≤ j / C by rw [← e2]; exact Nat.succ_le_succ (Nat.zero_le _)) (show (j / C - 1) * C + j % C = i from ?_)
    rw [← e1, ← e2, Nat.add_sub_cancel]; exact ei
theorem lb_le {C R : Nat} {fz : Nat → Int32} {g : Nat → Nat} (h : Lb0 C R fz g) (hRC : R * C ≤ 144) {i : Nat} (hi : i < R * C) : g i ≤ 144 := by
  cases he : fE C fz i i with
  | false => rw [(h i hi).1 he]; omega
  | true => have := ((h i hi).2 he).1; omega
theorem lbI_up {C R : Nat} {g : Nat → Nat} {r c v : Nat} (hr : r < R) (hc : c < C) {r' c' : Nat} (hr' : r' < R) (hc' : c' < C) : up2 (lbI C g) r c (nI v) r' c' = lbI C (va_up g (r * C + c) v) r' c' := by
  obtain ⟨e1, e2, e3⟩ := ix_mk hr hc
  obtain ⟨f1, f2, f3⟩ := ix_mk hr' hc'
  unfold lbI
  by_cases e : r' = r ∧ c' = c
  · obtain ⟨rfl, rfl⟩ := e
    rw [up2_at]; exact congrArg nI (if_pos rfl).symm
  · rw [up2_ne e]
    exact congrArg nI (if_neg (fun z => e ⟨by rw [← f2, z, e2], by rw [← f3, z, e3]⟩)).symm
theorem cell_dn {C R r c : Nat} (hC : C ≤ 12) (hR : R ≤ 12) (hr : r < R) (hc : c < C) : sp_X4_isCell C R (nI c) (nI (r + 1)) = if r + 1 < R then 1 else 0 := by
  have h := isCell_m (C := C) (R := R) (r := r) (i := 2) (c := c) (j := 1) hC hR hr hc (by omega) (by omega)
  rw [m1_m r 2 (by omega), m1_m c 1 (by omega), show c + 1 - 1 = c by omega, show r + 2 - 1 = r + 1 by omega] at h
  rw [h]
  by_cases h1 : r + 1 < R
  · rw [if_pos h1, if_pos (by omega)]
  · rw [if_neg h1, if_neg (by omega)]
theorem cell_rt {C R r c : Nat} (hC : C ≤ 12) (hR : R ≤ 12) (hr : r < R) (hc : c < C) : sp_X4_isCell C R (nI (c + 1)) (nI r) = if c + 1 < C then 1 else 0 := by
  have h := isCell_m (C := C) (R := R) (r := r) (i := 1) (c := c) (j := 2) hC hR hr hc (by omega) (by omega)
  rw [m1_m r 1 (by omega), m1_m c 2 (by omega), show r + 1 - 1 = r by omega, show c + 2 - 1 = c + 1 by omega] at h
  rw [h]
  by_cases h1 : c + 1 < C
  · rw [if_pos h1, if_pos (by omega)]
  · rw [if_neg h1, if_neg (by omega)]
theorem cell_up {C R r c : Nat} (hC : C ≤ 12) (hR : R ≤ 12) (hr : r < R) (hc : c < C) : sp_X4_isCell C R (nI c) (nI r + (-1)) = if 1 ≤ r then 1 else 0 := by
  have h := isCell_m (C := C) (R := R) (r := r) (i := 0) (c := c) (j := 1) hC hR hr hc (by omega) (by omega)
  rw [m1_m c 1 (by omega), show c + 1 - 1 = c by omega, show nI 0 - 1 = (-1 : Int32) by decide] at h
  rw [h]
  by_cases h1 : 1 ≤ r
  · rw [if_pos h1, if_pos (by omega)]
  · rw [if_neg h1, if_neg (by omega)]
theorem cell_lf {C R r c : Nat} (hC : C ≤ 12) (hR : R ≤ 12) (hr : r < R) (hc : c < C) : sp_X4_isCell C R (nI c + (-1)) (nI r) = if 1 ≤ c then 1 else 0 := by
  have h := isCell_m (C := C) (R := R) (r := r) (i := 1) (c := c) (j := 0) hC hR hr hc (by omega) (by omega)
  rw [m1_m r 1 (by omega), show r + 1 - 1 = r by omega, show nI 0 - 1 = (-1 : Int32) by decide] at h
  rw [h]
  by_cases h1 : 1 ≤ c
  · rw [if_pos h1, if_pos (by omega)]
  · rw [if_neg h1, if_neg (by omega)]
theorem if10 {p : Prop} [Decidable p] (h : (if p then (1 : Int32) else 0) = 0) : ¬ p := fun z => by rw [if_pos z] at h; exact absurd h (by decide)
theorem if11 {p : Prop} [Decidable p] (h : ¬ (if p then (1 : Int32) else 0) = 0) : p := Classical.byContradiction fun z => h (if_neg z)
theorem m1_p (r : Nat) (h : 1 ≤ r) : nI r + (-1) = nI (r - 1) := by rw [← sub1 h, Int32.sub_eq_add_neg]
theorem k_X4_flowers : yX4_flowers.cls = RX4 ∧ yX4_flowers.cls ≠ "java/lang/invoke/MethodHandle" ∧ yX4_flowers.cls ≠ "java/lang/invoke/VarHandle" ∧ (parseMethodDescriptor yX4_flowers.desc).map (fun d => d.parameters.length) = some 0 := by decide +kernel
theorem wb_X4_flowers_4 : ∀ w ∈ wsX40, w ∈ wsX4_flowers := (fun _ h => List.mem_cons_of_mem _ (List.mem_append_right _ h))
theorem wi_X4_flowers_1 : (Cond.fieldLink RX4 9 "FrostPaneLaw$Sim" "ice" "[[Z") ∈ wsX4_flowers := List.mem_of_getElem? (i := 1) rfl
theorem wi_X4_flowers_2 : (Cond.classLink RX4 14 "[[I") ∈ wsX4_flowers := List.mem_of_getElem? (i := 2) rfl
theorem wi_X4_flowers_3 : (Cond.arrayClass .int) ∈ wsX4_flowers := List.mem_of_getElem? (i := 3) rfl
set_option maxHeartbeats 4000000 in
set_option maxRecDepth 100000 in
theorem c_X4_flowers (l : Launch) (D : va_G) (cI cZ cP cQ : ClassId) (sz : Nat) (so io mo ro C R F n b : Nat) (gn : Int32) (L0 : List Nat) (f0 : Nat → va_E) (ai mi ri : Nat → Nat) (ig mg rg : Nat → Nat → Int32) (fz : Nat → Int32) (hC1 : 3 ≤ C) (hC : C ≤ 12) (hR1 : 3 ≤ R) (hR : R ≤ 12) (hF : F ≤ 2) (hn : n ≤ 6) (hb0 : b < n) (hw_ai : Rw cZ L0 f0 R C ai ig) (hw_mi : Rw cI L0 f0 R C mi mg) (hw_ri : Rw cI L0 f0 n 2 ri rg) (hI : IV C R fz) (hig : ∀ q9, q9 < R → ∀ p9, p9 < C → ig q9 p9 = nI (b2n (bt (fz q9) p9))) : g_Mr l yX4_flowers wsX4_flowers ({ frames := 1, cells := 13, slots := 156, locals := 22 }) D (fTY cI cZ cP cQ) [.ref so] sz (([(so, .inr (4, [.ref io, .ref mo, .int (nI F), .int gn, .int (nI b), .ref ro])), (io, .inl (cQ, R, .inr (.inr (.inr (.inr (rq ai)))))), (mo, .inl (cP, R, .inr (.inr (.inr (.inr (rq mi)))))), (ro, .inl (cP, n, .inr (.inr (.inr (.inr (rq ri))))))] ++ va_pl L0 f0)) (fun (u9 : Nat × (Nat → Nat) × (Nat → Nat) × (List Nat) × (Nat → va_E)) => (∀ b9, b9 ∈ L0 → b9 ∈ (u9.2.2.2.1)) ∧ (∀ b9, b9 ∈ L0 → (u9.2.2.2.2) b9 = f0 b9) ∧ Rw cI (u9.2.2.2.1) (u9.2.2.2.2) R C (u9.2.1) (lbI C (u9.2.2.1)) ∧ Lbl (R * C) (fE C fz) (u9.2.2.1) ∧ Lb0 C R fz (u9.2.2.1)) (fun u9 => (u9.1)) (fun u9 => ([(so, .inr (4, [.ref io, .ref mo, .int (nI F), .int gn, .int (nI b), .ref ro])), (io, .inl (cQ, R, .inr (.inr (.inr (.inr (rq ai)))))), (mo, .inl (cP, R, .inr (.inr (.inr (.inr (rq mi)))))), (ro, .inl (cP, n, .inr (.inr (.inr (.inr (rq ri)))))), (u9.1, .inl (cP, R, .inr (.inr (.inr (.inr (rq (u9.2.1)))))))] ++ va_pl (u9.2.2.2.1) (u9.2.2.2.2))) 13 156 := by
  refine g_ent_r (by decide) rfl (Nat.le_of_ble_eq_true rfl) ?_
  intro pg ev s m below meth cd hx hb hr hts hown hlocks hml hnm hsz hP hK hN A hD hA hS ls hl
  have hown : s.vm.findClass RX4 = some m.cls := hown
  have hl : lv_has ls 8 [(0, .ref so)] := hl
  have hRC : R * C ≤ 144 := Nat.mul_le_mul hR hC
  obtain ⟨L, hLeq⟩ : ∃ z, z = L0 := ⟨_, rfl⟩
  obtain ⟨f, hfeq⟩ : ∃ z, z = f0 := ⟨_, rfl⟩
  have hP : va_P D vwCl ([(so, .inr (4, [.ref io, .ref mo, .int (nI F), .int gn, .int (nI b), .ref ro])), (io, .inl (cQ, R, .inr (.inr (.inr (.inr (rq ai)))))), (mo, .inl (cP, R, .inr (.inr (.inr (.inr (rq mi)))))), (ro, .inl (cP, n, .inr (.inr (.inr (.inr (rq ri))))))] ++ va_pl L f) s.heap := by rw [hLeq, hfeq]; exact hP
  have hD : va_D A ([(so, .inr (4, [.ref io, .ref mo, .int (nI F), .int gn, .int (nI b), .ref ro])), (io, .inl (cQ, R, .inr (.inr (.inr (.inr (rq ai)))))), (mo, .inl (cP, R, .inr (.inr (.inr (.inr (rq mi)))))), (ro, .inl (cP, n, .inr (.inr (.inr (.inr (rq ri))))))] ++ va_pl L f) := by rw [hLeq, hfeq]; exact hD
  have hw_ai : Rw cZ L f R C ai ig := by rw [hLeq, hfeq]; exact hw_ai
  have hw_mi : Rw cI L f R C mi mg := by rw [hLeq, hfeq]; exact hw_mi
  have hw_ri : Rw cI L f n 2 ri rg := by rw [hLeq, hfeq]; exact hw_ri
  have hC0 : 0 < C := by omega
  refine lv_aload_n hx hb dX4_flowers_0 rfl (lv_at hl 0 rfl) ?_
  refine va_get (D := D) (ci := 4) (v := .ref io) (C := RX4) (T := TX4) (N := 6) hx hb hts wb_X4_flowers_4 hown hK hP 0 rfl rfl 0 (by decide) (hts _ wi_X4_flowers_1) (fun _ h9 => h9) rfl dX4_flowers_1 ?_
  refine va_alen (v := nI R) hx hb hK hP 1 3 rfl rfl rfl dX4_flowers_4 ?_
  refine lv_aload_n hx hb dX4_flowers_5 rfl (lv_at hl 0 rfl) ?_
  refine va_get (D := D) (ci := 4) (v := .ref io) (C := RX4) (T := TX4) (N := 6) hx hb hts wb_X4_flowers_4 hown hK hP 0 rfl rfl 0 (by decide) (hts _ wi_X4_flowers_1) (fun _ h9 => h9) rfl dX4_flowers_6 ?_
  refine lv_iconst (v := 0) hx hb dX4_flowers_9 (by decide) ?_
  refine g_aald (k := 0) (v := ai 0) hx hb hK hP 1 3 rfl rfl rfl (by omega) (by first | decide | omega) rfl dX4_flowers_10 ?_
  refine g_zlen (r := 0) hx hb hK hP hw_ai (by omega) dX4_flowers_11 ?_
  refine g_mnaI (N' := R) (K' := C) hx hb hown (hts _ wi_X4_flowers_2) hN (hts _ wi_X4_flowers_3) hK hP hD hS hA rfl rfl (by first | decide | omega) (by first | decide | omega) (by show 0 + (1 + R) ≤ 13; omega) (by show 0 + (R + R * C) ≤ 156; omega) dX4_flowers_12 (fun na_1 fj L f H hi_fj hn_fj hLL hff hw_fj hP hD hS => ?_)
  have ap_ai_fj : Apt R R ai fj := fun r9 r8 h9 h8 e9 => hn_fj r8 h8 (e9 ▸ (hw_ai).mem h9)
  have ap_fj_ai : Apt R R fj ai := fun r8 r9 h8 h9 e9 => ap_ai_fj r9 r8 h9 h8 e9.symm
  have ap_mi_fj : Apt R R mi fj := fun r9 r8 h9 h8 e9 => hn_fj r8 h8 (e9 ▸ (hw_mi).mem h9)
  have ap_fj_mi : Apt R R fj mi := fun r8 r9 h8 h9 e9 => ap_mi_fj r9 r8 h9 h8 e9.symm
  have ap_ri_fj : Apt n R ri fj := fun r9 r8 h9 h8 e9 => hn_fj r8 h8 (e9 ▸ (hw_ri).mem h9)
  have ap_fj_ri : Apt R n fj ri := fun r8 r9 h8 h9 e9 => ap_ri_fj r9 r8 h9 h8 e9.symm
  have hw_ai := hw_ai.keep hLL (fun r9 h9 => hff _ ((hw_ai).mem h9))
  have hw_mi := hw_mi.keep hLL (fun r9 h9 => hff _ ((hw_mi).mem h9))
  have hw_ri := hw_ri.keep hLL (fun r9 h9 => hff _ ((hw_ri).mem h9))
  have hLa : ∀ b9, b9 ∈ L0 → b9 ∈ L := fun b1 h => hLL b1 (hLeq ▸ h)
  have hfr : ∀ b9, b9 ∈ L0 → f b9 = f0 b9 := fun b1 h1 => (hff b1 (hLeq ▸ h1)).trans (by rw [hfeq])
  have hna : ∀ q9, q9 < R → fj q9 ∉ L0 := fun r h z => hn_fj r h (hLeq ▸ z)
  have hw_fj := hw_fj.congr (g' := flG C ig 0 0) (fun r1 _ c1 _ => flG_0 C ig r1 c1)
  refine W.widen (k := 13) (n := 156) (by show 0 + 1 + R ≤ 13; omega) (by show 0 + R + R * C ≤ 156; omega) ?_
  have hP : va_P D vwCl ([(so, .inr (4, [.ref io, .ref mo, .int (nI F), .int gn, .int (nI b), .ref ro])), (io, .inl (cQ, R, .inr (.inr (.inr (.inr (rq ai)))))), (mo, .inl (cP, R, .inr (.inr (.inr (.inr (rq mi)))))), (ro, .inl (cP, n, .inr (.inr (.inr (.inr (rq ri)))))), (na_1, .inl (cP, R, .inr (.inr (.inr (.inr (rq fj))))))] ++ va_pl L f) _ := hP
  have hD : va_D A ([(so, .inr (4, [.ref io, .ref mo, .int (nI F), .int gn, .int (nI b), .ref ro])), (io, .inl (cQ, R, .inr (.inr (.inr (.inr (rq ai)))))), (mo, .inl (cP, R, .inr (.inr (.inr (.inr (rq mi)))))), (ro, .inl (cP, n, .inr (.inr (.inr (.inr (rq ri)))))), (na_1, .inl (cP, R, .inr (.inr (.inr (.inr (rq fj))))))] ++ va_pl L f) := hD
  refine lv_astore_n (lv' := [(1, .ref na_1), (0, .ref so)]) hx hb dX4_flowers_16 rfl hl (by decide) rfl (fun ls hl => ?_)
  refine lv_iconst (v := 0) hx hb dX4_flowers_17 (by decide) ?_
  refine lv_istore_n (lv' := [(2, .int 0), (1, .ref na_1), (0, .ref so)]) hx hb dX4_flowers_18 rfl hl (by decide) rfl (fun ls hl => ?_)
  refine f_loopW (σ := (Nat → va_E) × Nat) (D := D) (A := A) (H0 := s.heap) 8 19 (fun u9 => [(2, .int (nI (u9.2))), (1, .ref na_1), (0, .ref so)]) (fun u9 => ([(so, .inr (4, [.ref io, .ref mo, .int (nI F), .int gn, .int (nI b), .ref ro])), (io, .inl (cQ, R, .inr (.inr (.inr (.inr (rq ai)))))), (mo, .inl (cP, R, .inr (.inr (.inr (.inr (rq mi)))))), (ro, .inl (cP, n, .inr (.inr (.inr (.inr (rq ri)))))), (na_1, .inl (cP, R, .inr (.inr (.inr (.inr (rq fj))))))] ++ va_pl L (u9.1))) (fun u9 => (u9.2) ≤ R ∧ Rw cI L (u9.1) R C fj (flG C ig (u9.2) 0) ∧ Rw cZ L (u9.1) R C ai ig ∧ Rw cI L (u9.1) R C mi mg ∧ Rw cI L (u9.1) n 2 ri rg ∧ (∀ b9, b9 ∈ L0 → (u9.1) b9 = f0 b9)) (fun u9 => R - (u9.2))
      (fun u9 hi_3 ih_2 H locs hP hD hS ls hl => ?_) (f, 0) (⟨Nat.zero_le _, hw_fj, hw_ai, hw_mi, hw_ri, hfr⟩) hP hD hS (lv_sub hl [0, 1, 2] rfl)
  obtain ⟨f, r⟩ := u9
  have hi_3 : r ≤ R ∧ Rw cI L f R C fj (flG C ig r 0) ∧ Rw cZ L f R C ai ig ∧ Rw cI L f R C mi mg ∧ Rw cI L f n 2 ri rg ∧ (∀ b9, b9 ∈ L0 → f b9 = f0 b9) := hi_3
  obtain ⟨hrR, hw_fj, hw_ai, hw_mi, hw_ri, hfr⟩ := hi_3
  have hl : lv_has ls 8 [(2, .int (nI r)), (1, .ref na_1), (0, .ref so)] := hl
  have hP : va_P D vwCl ([(so, .inr (4, [.ref io, .ref mo, .int (nI F), .int gn, .int (nI b), .ref ro])), (io, .inl (cQ, R, .inr (.inr (.inr (.inr (rq ai)))))), (mo, .inl (cP, R, .inr (.inr (.inr (.inr (rq mi)))))), (ro, .inl (cP, n, .inr (.inr (.inr (.inr (rq ri)))))), (na_1, .inl (cP, R, .inr (.inr (.inr (.inr (rq fj))))))] ++ va_pl L f) _ := hP
  have hD : va_D A ([(so, .inr (4, [.ref io, .ref mo, .int (nI F), .int gn, .int (nI b), .ref ro])), (io, .inl (cQ, R, .inr (.inr (.inr (.inr (rq ai)))))), (mo, .inl (cP, R, .inr (.inr (.inr (.inr (rq mi)))))), (ro, .inl (cP, n, .inr (.inr (.inr (.inr (rq ri)))))), (na_1, .inl (cP, R, .inr (.inr (.inr (.inr (rq fj))))))] ++ va_pl L f) := hD
  refine lv_iload_n hx hb dX4_flowers_19 rfl (lv_at hl 0 rfl) ?_
  refine lv_aload_n hx hb dX4_flowers_20 rfl (lv_at hl 2 rfl) ?_
  refine va_get (D := D) (ci := 4) (v := .ref io) (C := RX4) (T := TX4) (N := 6) hx hb hts wb_X4_flowers_4 hown hK hP 0 rfl rfl 0 (by decide) (hts _ wi_X4_flowers_1) (fun _ h9 => h9) rfl dX4_flowers_21 ?_
  refine va_alen (v := nI R) hx hb hK hP 1 3 rfl rfl rfl dX4_flowers_24 ?_
  refine lv_icmp_ge (tgt := 86) hx hb dX4_flowers_25 (by decide) (fun c_4 => ?_) (fun c_4 => ?_)
  · have n_4 : R ≤ r := (nI_leI (a := R) (b := r) (by omega) (by omega)).mp c_4
    have hw_fj : Rw cI L f R C fj (lbI C (lb0 C fz)) := hw_fj.congr (fun r1 h1 c1 h2 => by rw [show r = R by omega]; exact flG_end hig h1 h2)
    refine lv_iconst (v := 1) hx hb dX4_flowers_86 (by decide) ?_
    refine lv_istore_n (lv' := [(2, .int 1), (1, .ref na_1), (0, .ref so)]) hx hb dX4_flowers_87 rfl hl (by decide) rfl (fun ls hl => ?_)
    refine f_loopW (σ := (Nat → va_E) × (Nat → Nat) × Nat) (D := D) (A := A) (H0 := s.heap) 8 88 (fun u9 => [(2, .int (nI (u9.2.2))), (1, .ref na_1), (0, .ref so)]) (fun u9 => ([(so, .inr (4, [.ref io, .ref mo, .int (nI F), .int gn, .int (nI b), .ref ro])), (io, .inl (cQ, R, .inr (.inr (.inr (.inr (rq ai)))))), (mo, .inl (cP, R, .inr (.inr (.inr (.inr (rq mi)))))), (ro, .inl (cP, n, .inr (.inr (.inr (.inr (rq ri)))))), (na_1, .inl (cP, R, .inr (.inr (.inr (.inr (rq fj))))))] ++ va_pl L (u9.1))) (fun u9 => (Lb0 C R fz (u9.2.1) ∧ ((u9.2.2) = 0 ∨ (u9.2.2) = 1) ∧ ((u9.2.2) = 0 → Lbl (R * C) (fE C fz) (u9.2.1))) ∧ Rw cI L (u9.1) R C fj (lbI C (u9.2.1)) ∧ Rw cZ L (u9.1) R C ai ig ∧ Rw cI L (u9.1) R C mi mg ∧ Rw cI L (u9.1) n 2 ri rg ∧ (∀ b9, b9 ∈ L0 → (u9.1) b9 = f0 b9)) (fun u9 => 2 * sm (u9.2.1) (R * C) + (u9.2.2))
        (fun u9 hi_6 ih_5 H locs hP hD hS ls hl => ?_) (f, lb0 C fz, 1) (⟨⟨lb0_Lb0 hI hC0 hC hR, Or.inr rfl, fun z => absurd (show (1 : Nat) = 0 from z) (by decide)⟩, hw_fj, hw_ai, hw_mi, hw_ri, hfr⟩) hP hD hS (lv_sub hl [0, 1, 2] rfl)
    obtain ⟨f, g0, fk⟩ := u9
    have hi_6 : (Lb0 C R fz g0 ∧ (fk = 0 ∨ fk = 1) ∧ (fk = 0 → Lbl (R * C) (fE C fz) g0)) ∧ Rw cI L f R C fj (lbI C g0) ∧ Rw cZ L f R C ai ig ∧ Rw cI L f R C mi mg ∧ Rw cI L f n 2 ri rg ∧ (∀ b9, b9 ∈ L0 → f b9 = f0 b9) := hi_6
    obtain ⟨hlb, hw_fj, hw_ai, hw_mi, hw_ri, hfr⟩ := hi_6
    have hl : lv_has ls 8 [(2, .int (nI fk)), (1, .ref na_1), (0, .ref so)] := hl
    have hP : va_P D vwCl ([(so, .inr (4, [.ref io, .ref mo, .int (nI F), .int gn, .int (nI b), .ref ro])), (io, .inl (cQ, R, .inr (.inr (.inr (.inr (rq ai)))))), (mo, .inl (cP, R, .inr (.inr (.inr (.inr (rq mi)))))), (ro, .inl (cP, n, .inr (.inr (.inr (.inr (rq ri)))))), (na_1, .inl (cP, R, .inr (.inr (.inr (.inr (rq fj))))))] ++ va_pl L f) _ := hP
    have hD : va_D A ([(so, .inr (4, [.ref io, .ref mo, .int (nI F), .int gn, .int (nI b), .ref ro])), (io, .inl (cQ, R, .inr (.inr (.inr (.inr (rq ai)))))), (mo, .inl (cP, R, .inr (.inr (.inr (.inr (rq mi)))))), (ro, .inl (cP, n, .inr (.inr (.inr (.inr (rq ri)))))), (na_1, .inl (cP, R, .inr (.inr (.inr (.inr (rq fj))))))] ++ va_pl L f) := hD
    refine lv_iload_n hx hb dX4_flowers_88 rfl (lv_at hl 0 rfl) ?_
    refine lv_if_eq (tgt := 264) hx hb dX4_flowers_89 (by decide) (fun c_7 => ?_) (fun c_7 => ?_)
    · have n_7 : fk = 0 := (nI_eq (a := fk) (b := 0) (by omega) (by omega)).mp c_7
      refine lv_aload_n hx hb dX4_flowers_264 rfl (lv_at hl 1 rfl) ?_
      refine W.widen (k := 13) (n := 156) (by first | omega | exact Nat.le_of_ble_eq_true rfl) (by first | omega | exact Nat.le_of_ble_eq_true rfl) ?_
      exact g_ret_r (na_1, fj, g0, L, f) hx hb hr (Or.inr ⟨_, rfl⟩) hlocks hP hD hS dX4_flowers_265 rfl (⟨hLa, hfr, hw_fj, hlb.2.2 (by omega), hlb.1⟩)
    · have n_7 : ¬ fk = 0 := fun h => c_7 ((nI_eq (a := fk) (b := 0) (by omega) (by omega)).mpr h)
      refine lv_iconst (v := 0) hx hb dX4_flowers_92 (by decide) ?_
      refine lv_istore_n (lv' := [(2, .int 0), (1, .ref na_1), (0, .ref so)]) hx hb dX4_flowers_93 rfl hl (by decide) rfl (fun ls hl => ?_)
      refine lv_iconst (v := 0) hx hb dX4_flowers_94 (by decide) ?_
      refine lv_istore_n (lv' := [(3, .int 0), (2, .int 0), (1, .ref na_1), (0, .ref so)]) hx hb dX4_flowers_95 rfl hl (by decide) rfl (fun ls hl => ?_)
      refine f_loopW (σ := (Nat → va_E) × (Nat → Nat) × Nat × Nat) (D := D) (A := A) (H0 := s.heap) 8 96 (fun u9 => [(3, .int (nI (u9.2.2.2))), (2, .int (nI (u9.2.2.1))), (1, .ref na_1), (0, .ref so)]) (fun u9 => ([(so, .inr (4, [.ref io, .ref mo, .int (nI F), .int gn, .int (nI b), .ref ro])), (io, .inl (cQ, R, .inr (.inr (.inr (.inr (rq ai)))))), (mo, .inl (cP, R, .inr (.inr (.inr (.inr (rq mi)))))), (ro, .inl (cP, n, .inr (.inr (.inr (.inr (rq ri)))))), (na_1, .inl (cP, R, .inr (.inr (.inr (.inr (rq fj))))))] ++ va_pl L (u9.1))) (fun u9 => (u9.2.2.2) ≤ R ∧ SwI C R fz g0 (u9.2.1) (u9.2.2.1) (u9.2.2.2) 0 0 ∧ Rw cI L (u9.1) R C fj (lbI C (u9.2.1)) ∧ Rw cZ L (u9.1) R C ai ig ∧ Rw cI L (u9.1) R C mi mg ∧ Rw cI L (u9.1) n 2 ri rg ∧ (∀ b9, b9 ∈ L0 → (u9.1) b9 = f0 b9)) (fun u9 => R - (u9.2.2.2))
          (fun u9 hi_9 ih_8 H locs hP hD hS ls hl => ?_) (f, g0, 0, 0) (⟨Nat.zero_le _, sw_start hlb.1, hw_fj, hw_ai, hw_mi, hw_ri, hfr⟩) hP hD hS (lv_sub hl [0, 1, 2, 3] rfl)
      obtain ⟨f, g, fl, r⟩ := u9
      have hi_9 : r ≤ R ∧ SwI C R fz g0 g fl r 0 0 ∧ Rw cI L f R C fj (lbI C g) ∧ Rw cZ L f R C ai ig ∧ Rw cI L f R C mi mg ∧ Rw cI L f n 2 ri rg ∧ (∀ b9, b9 ∈ L0 → f b9 = f0 b9) := hi_9
      obtain ⟨hrR, hsw, hw_fj, hw_ai, hw_mi, hw_ri, hfr⟩ := hi_9
      have hl : lv_has ls 8 [(3, .int (nI r)), (2, .int (nI fl)), (1, .ref na_1), (0, .ref so)] := hl
      have hP : va_P D vwCl ([(so, .inr (4, [.ref io, .ref mo, .int (nI F), .int gn, .int (nI b), .ref ro])), (io, .inl (cQ, R, .inr (.inr (.inr (.inr (rq ai)))))), (mo, .inl (cP, R, .inr (.inr (.inr (.inr (rq mi)))))), (ro, .inl (cP, n, .inr (.inr (.inr (.inr (rq ri)))))), (na_1, .inl (cP, R, .inr (.inr (.inr (.inr (rq fj))))))] ++ va_pl L f) _ := hP
      have hD : va_D A ([(so, .inr (4, [.ref io, .ref mo, .int (nI F), .int gn, .int (nI b), .ref ro])), (io, .inl (cQ, R, .inr (.inr (.inr (.inr (rq ai)))))), (mo, .inl (cP, R, .inr (.inr (.inr (.inr (rq mi)))))), (ro, .inl (cP, n, .inr (.inr (.inr (.inr (rq ri)))))), (na_1, .inl (cP, R, .inr (.inr (.inr (.inr (rq fj))))))] ++ va_pl L f) := hD
      refine lv_iload_n hx hb dX4_flowers_96 rfl (lv_at hl 0 rfl) ?_
      refine lv_aload_n hx hb dX4_flowers_97 rfl (lv_at hl 3 rfl) ?_
      refine va_get (D := D) (ci := 4) (v := .ref io) (C := RX4) (T := TX4) (N := 6) hx hb hts wb_X4_flowers_4 hown hK hP 0 rfl rfl 0 (by decide) (hts _ wi_X4_flowers_1) (fun _ h9 => h9) rfl dX4_flowers_98 ?_
      refine va_alen (v := nI R) hx hb hK hP 1 3 rfl rfl rfl dX4_flowers_101 ?_
      refine lv_icmp_ge (tgt := 261) hx hb dX4_flowers_102 (by decide) (fun c_10 => ?_) (fun c_10 => ?_)
      · have n_10 : R ≤ r := (nI_leI (a := R) (b := r) (by omega) (by omega)).mp c_10
        refine lv_goto (tgt := 88) hx hb dX4_flowers_261 (by decide) ?_
        exact ih_5 (f, g, fl) (⟨sw_end hI hC0 hC hR (show r = R by omega) hsw, hw_fj, hw_ai, hw_mi, hw_ri, hfr⟩) (by have := hsw.2.1; have := hsw.2.2.1; have := hsw.2.2.2.1; have := hlb.2.1; (show 2 * sm g (R * C) + fl < 2 * sm g0 (R * C) + fk); omega) H locs hP hD hS ls (lv_sub hl [1, 2, 3] rfl)
      · have n_10 : r < R := Nat.lt_of_not_le (fun h => c_10 ((nI_leI (a := R) (b := r) (by omega) (by omega)).mpr h))
        refine lv_iconst (v := 0) hx hb dX4_flowers_105 (by decide) ?_
        refine lv_istore (lv' := [(4, .int 0), (3, .int (nI r)), (2, .int (nI fl)), (1, .ref na_1), (0, .ref so)]) hx hb dX4_flowers_106 hl (by decide) rfl (fun ls hl => ?_)
        refine f_loopW (σ := (Nat → va_E) × (Nat → Nat) × Nat × Nat) (D := D) (A := A) (H0 := s.heap) 8 108 (fun u9 => [(4, .int (nI (u9.2.2.2))), (3, .int (nI r)), (2, .int (nI (u9.2.2.1))), (1, .ref na_1), (0, .ref so)]) (fun u9 => ([(so, .inr (4, [.ref io, .ref mo, .int (nI F), .int gn, .int (nI b), .ref ro])), (io, .inl (cQ, R, .inr (.inr (.inr (.inr (rq ai)))))), (mo, .inl (cP, R, .inr (.inr (.inr (.inr (rq mi)))))), (ro, .inl (cP, n, .inr (.inr (.inr (.inr (rq ri)))))), (na_1, .inl (cP, R, .inr (.inr (.inr (.inr (rq fj))))))] ++ va_pl L (u9.1))) (fun u9 => (u9.2.2.2) ≤ C ∧ SwI C R fz g0 (u9.2.1) (u9.2.2.1) r (u9.2.2.2) 0 ∧ Rw cI L (u9.1) R C fj (lbI C (u9.2.1)) ∧ Rw cZ L (u9.1) R C ai ig ∧ Rw cI L (u9.1) R C mi mg ∧ Rw cI L (u9.1) n 2 ri rg ∧ (∀ b9, b9 ∈ L0 → (u9.1) b9 = f0 b9)) (fun u9 => C - (u9.2.2.2))
            (fun u9 hi_12 ih_11 H locs hP hD hS ls hl => ?_) (f, g, fl, 0) (⟨Nat.zero_le _, hsw, hw_fj, hw_ai, hw_mi, hw_ri, hfr⟩) hP hD hS (lv_sub hl [0, 1, 2, 3, 4] rfl)
        obtain ⟨f, g, fl, c⟩ := u9
        have hi_12 : c ≤ C ∧ SwI C R fz g0 g fl r c 0 ∧ Rw cI L f R C fj (lbI C g) ∧ Rw cZ L f R C ai ig ∧ Rw cI L f R C mi mg ∧ Rw cI L f n 2 ri rg ∧ (∀ b9, b9 ∈ L0 → f b9 = f0 b9) := hi_12
        obtain ⟨hcC, hsw, hw_fj, hw_ai, hw_mi, hw_ri, hfr⟩ := hi_12
        have hl : lv_has ls 8 [(4, .int (nI c)), (3, .int (nI r)), (2, .int (nI fl)), (1, .ref na_1), (0, .ref so)] := hl
        have hP : va_P D vwCl ([(so, .inr (4, [.ref io, .ref mo, .int (nI F), .int gn, .int (nI b), .ref ro])), (io, .inl (cQ, R, .inr (.inr (.inr (.inr (rq ai)))))), (mo, .inl (cP, R, .inr (.inr (.inr (.inr (rq mi)))))), (ro, .inl (cP, n, .inr (.inr (.inr (.inr (rq ri)))))), (na_1, .inl (cP, R, .inr (.inr (.inr (.inr (rq fj))))))] ++ va_pl L f) _ := hP
        have hD : va_D A ([(so, .inr (4, [.ref io, .ref mo, .int (nI F), .int gn, .int (nI b), .ref ro])), (io, .inl (cQ, R, .inr (.inr (.inr (.inr (rq ai)))))), (mo, .inl (cP, R, .inr (.inr (.inr (.inr (rq mi)))))), (ro, .inl (cP, n, .inr (.inr (.inr (.inr (rq ri)))))), (na_1, .inl (cP, R, .inr (.inr (.inr (.inr (rq fj))))))] ++ va_pl L f) := hD
        refine lv_iload hx hb dX4_flowers_108 (lv_at hl 0 rfl) ?_
        refine lv_aload_n hx hb dX4_flowers_110 rfl (lv_at hl 4 rfl) ?_
        refine va_get (D := D) (ci := 4) (v := .ref io) (C := RX4) (T := TX4) (N := 6) hx hb hts wb_X4_flowers_4 hown hK hP 0 rfl rfl 0 (by decide) (hts _ wi_X4_flowers_1) (fun _ h9 => h9) rfl dX4_flowers_111 ?_
        refine lv_iconst (v := 0) hx hb dX4_flowers_114 (by decide) ?_
        refine g_aald (k := 0) (v := ai 0) hx hb hK hP 1 3 rfl rfl rfl (by omega) (by first | decide | omega) rfl dX4_flowers_115 ?_
        refine g_zlen (r := 0) hx hb hK hP hw_ai (by omega) dX4_flowers_116 ?_
        refine lv_icmp_ge (tgt := 255) hx hb dX4_flowers_117 (by decide) (fun c_13 => ?_) (fun c_13 => ?_)
        · have n_13 : C ≤ c := (nI_leI (a := C) (b := c) (by omega) (by omega)).mp c_13
          refine lv_iinc (v := nI (r + 1)) (lv' := [(3, .int (nI (r + 1))), (4, .int (nI c)), (2, .int (nI fl)), (1, .ref na_1), (0, .ref so)]) hx hb dX4_flowers_255 hl (k := 1) rfl (nI_1 _) (by decide) rfl (fun ls hl => ?_)
          refine lv_goto (tgt := 96) hx hb dX4_flowers_258 (by decide) ?_
          exact ih_8 (f, g, fl, (r + 1)) (⟨show r + 1 ≤ R by omega, sw_row (show c = C by omega) hsw, hw_fj, hw_ai, hw_mi, hw_ri, hfr⟩) (by first | omega | (simp only []; omega) | (show _ < _; simp only []; omega)) H locs hP hD hS ls (lv_sub hl [0, 2, 3, 4] rfl)
        · have n_13 : c < C := Nat.lt_of_not_le (fun h => c_13 ((nI_leI (a := C) (b := c) (by omega) (by omega)).mpr h))
          refine lv_iconst (v := 0) hx hb dX4_flowers_120 (by decide) ?_
          refine lv_istore (lv' := [(5, .int 0), (4, .int (nI c)), (3, .int (nI r)), (2, .int (nI fl)), (1, .ref na_1), (0, .ref so)]) hx hb dX4_flowers_121 hl (by decide) rfl (fun ls hl => ?_)
          refine f_loopW (σ := (Nat → va_E) × (Nat → Nat) × Nat × Nat) (D := D) (A := A) (H0 := s.heap) 8 123 (fun u9 => [(5, .int (nI (u9.2.2.2))), (4, .int (nI c)), (3, .int (nI r)), (2, .int (nI (u9.2.2.1))), (1, .ref na_1), (0, .ref so)]) (fun u9 => ([(so, .inr (4, [.ref io, .ref mo, .int (nI F), .int gn, .int (nI b), .ref ro])), (io, .inl (cQ, R, .inr (.inr (.inr (.inr (rq ai)))))), (mo, .inl (cP, R, .inr (.inr (.inr (.inr (rq mi)))))), (ro, .inl (cP, n, .inr (.inr (.inr (.inr (rq ri)))))), (na_1, .inl (cP, R, .inr (.inr (.inr (.inr (rq fj))))))] ++ va_pl L (u9.1))) (fun u9 => (u9.2.2.2) ≤ 4 ∧ SwI C R fz g0 (u9.2.1) (u9.2.2.1) r c (u9.2.2.2) ∧ Rw cI L (u9.1) R C fj (lbI C (u9.2.1)) ∧ Rw cZ L (u9.1) R C ai ig ∧ Rw cI L (u9.1) R C mi mg ∧ Rw cI L (u9.1) n 2 ri rg ∧ (∀ b9, b9 ∈ L0 → (u9.1) b9 = f0 b9)) (fun u9 => 4 - (u9.2.2.2))
              (fun u9 hi_15 ih_14 H locs hP hD hS ls hl => ?_) (f, g, fl, 0) (⟨Nat.zero_le _, hsw, hw_fj, hw_ai, hw_mi, hw_ri, hfr⟩) hP hD hS (lv_sub hl [0, 1, 2, 3, 4, 5] rfl)
          obtain ⟨f, g, fl, d⟩ := u9
          have hi_15 : d ≤ 4 ∧ SwI C R fz g0 g fl r c d ∧ Rw cI L f R C fj (lbI C g) ∧ Rw cZ L f R C ai ig ∧ Rw cI L f R C mi mg ∧ Rw cI L f n 2 ri rg ∧ (∀ b9, b9 ∈ L0 → f b9 = f0 b9) := hi_15
          obtain ⟨hd4, hsw, hw_fj, hw_ai, hw_mi, hw_ri, hfr⟩ := hi_15
          have hl : lv_has ls 8 [(5, .int (nI d)), (4, .int (nI c)), (3, .int (nI r)), (2, .int (nI fl)), (1, .ref na_1), (0, .ref so)] := hl
          have hP : va_P D vwCl ([(so, .inr (4, [.ref io, .ref mo, .int (nI F), .int gn, .int (nI b), .ref ro])), (io, .inl (cQ, R, .inr (.inr (.inr (.inr (rq ai)))))), (mo, .inl (cP, R, .inr (.inr (.inr (.inr (rq mi)))))), (ro, .inl (cP, n, .inr (.inr (.inr (.inr (rq ri)))))), (na_1, .inl (cP, R, .inr (.inr (.inr (.inr (rq fj))))))] ++ va_pl L f) _ := hP
          have hD : va_D A ([(so, .inr (4, [.ref io, .ref mo, .int (nI F), .int gn, .int (nI b), .ref ro])), (io, .inl (cQ, R, .inr (.inr (.inr (.inr (rq ai)))))), (mo, .inl (cP, R, .inr (.inr (.inr (.inr (rq mi)))))), (ro, .inl (cP, n, .inr (.inr (.inr (.inr (rq ri)))))), (na_1, .inl (cP, R, .inr (.inr (.inr (.inr (rq fj))))))] ++ va_pl L f) := hD
          have hrR0 : r ≤ R := hrR
          have n_r9 : r < R := by omega
          have n_c9 : c < C := by omega
          have hb1 : g (r * C + c) ≤ 144 := lb_le hsw.1 hRC (ix_mk n_r9 n_c9).1
          refine lv_iload hx hb dX4_flowers_123 (lv_at hl 0 rfl) ?_
          refine lv_iconst (v := 4) hx hb dX4_flowers_125 (by decide) ?_
          refine lv_icmp_ge (tgt := 249) hx hb dX4_flowers_126 (by decide) (fun c_16 => ?_) (fun c_16 => ?_)
          · have n_16 : 4 ≤ d := (nI_leI (a := 4) (b := d) (by omega) (by omega)).mp c_16
            refine lv_iinc (v := nI (c + 1)) (lv' := [(4, .int (nI (c + 1))), (5, .int (nI d)), (3, .int (nI r)), (2, .int (nI fl)), (1, .ref na_1), (0, .ref so)]) hx hb dX4_flowers_249 hl (k := 1) rfl (nI_1 _) (by decide) rfl (fun ls hl => ?_)
            refine lv_goto (tgt := 108) hx hb dX4_flowers_252 (by decide) ?_
            exact ih_11 (f, g, fl, (c + 1)) (⟨show c + 1 ≤ C by omega, sw_cell (show d = 4 by omega) hsw, hw_fj, hw_ai, hw_mi, hw_ri, hfr⟩) (by first | omega | (simp only []; omega) | (show _ < _; simp only []; omega)) H locs hP hD hS ls (lv_sub hl [0, 2, 3, 4, 5] rfl)
          · have n_16 : d < 4 := Nat.lt_of_not_le (fun h => c_16 ((nI_leI (a := 4) (b := d) (by omega) (by omega)).mpr h))
            rcases (show d = 0 ∨ d = 1 ∨ d = 2 ∨ d = 3 by omega) with rfl | rfl | rfl | rfl
            · have hl : lv_has ls 8 [(5, .int 0), (4, .int (nI c)), (3, .int (nI r)), (2, .int (nI fl)), (1, .ref na_1), (0, .ref so)] := hl
              refine lv_iload_n hx hb dX4_flowers_129 rfl (lv_at hl 2 rfl) ?_
              refine lv_iload hx hb dX4_flowers_130 (lv_at hl 0 rfl) ?_
              refine lv_if_ne (tgt := 139) hx hb dX4_flowers_132 (by decide) (fun c_17 => ?_) (fun c_17 => ?_)
              · exact absurd c_17 (by decide)
              · refine lv_iconst (v := 1) hx hb dX4_flowers_135 (by decide) ?_
                refine lv_goto (tgt := 150) hx hb dX4_flowers_136 (by decide) ?_
                refine lv_iadd hx hb dX4_flowers_150 ?_
                refine f_topi (y := nI (r + 1)) (nI_add r 1) ?_
                refine lv_istore (lv' := [(6, .int (nI (r + 1))), (5, .int 0), (4, .int (nI c)), (3, .int (nI r)), (2, .int (nI fl)), (1, .ref na_1), (0, .ref so)]) hx hb dX4_flowers_151 hl (by decide) rfl (fun ls hl => ?_)
                refine lv_iload hx hb dX4_flowers_153 (lv_at hl 2 rfl) ?_
                refine lv_iload hx hb dX4_flowers_155 (lv_at hl 1 rfl) ?_
                refine lv_iconst (v := 2) hx hb dX4_flowers_157 (by decide) ?_
                refine lv_icmp_ne (tgt := 165) hx hb dX4_flowers_158 (by decide) (fun c_18 => ?_) (fun c_18 => ?_)
                · refine lv_iload hx hb dX4_flowers_165 (lv_at hl 1 rfl) ?_
                  refine lv_iconst (v := 3) hx hb dX4_flowers_167 (by decide) ?_
                  refine lv_icmp_ne (tgt := 175) hx hb dX4_flowers_168 (by decide) (fun c_19 => ?_) (fun c_19 => ?_)
                  · refine lv_iconst (v := 0) hx hb dX4_flowers_175 (by decide) ?_
                    refine lv_iadd hx hb dX4_flowers_176 ?_
                    refine f_topi (y := nI (c + 0)) (nI_add c 0) ?_
                    refine lv_istore (lv' := [(7, .int (nI (c + 0))), (6, .int (nI (r + 1))), (5, .int 0), (4, .int (nI c)), (3, .int (nI r)), (2, .int (nI fl)), (1, .ref na_1), (0, .ref so)]) hx hb dX4_flowers_177 hl (by decide) rfl (fun ls hl => ?_)
                    have e9_20 : (nI (c + 0)) = (nI c) := rfl
                    have hl : lv_has ls 8 [(7, .int (nI c)), (6, .int (nI (r + 1))), (5, .int 0), (4, .int (nI c)), (3, .int (nI r)), (2, .int (nI fl)), (1, .ref na_1), (0, .ref so)] := by rw [← e9_20]; exact hl
                    refine lv_aload_n hx hb dX4_flowers_179 rfl (lv_at hl 6 rfl) ?_
                    refine lv_iload_n hx hb dX4_flowers_180 rfl (lv_at hl 4 rfl) ?_
                    refine g_aald (k := r) (v := fj r) hx hb hK hP 4 2 rfl rfl rfl (by omega) (by first | decide | omega) rfl dX4_flowers_181 ?_
                    refine lv_iload hx hb dX4_flowers_182 (lv_at hl 3 rfl) ?_
                    refine g_iald (r := r) (k := c) hx hb hK hP hw_fj (by omega) rfl (by omega) (by first | decide | omega) dX4_flowers_184 ?_
                    refine lv_if_eq (tgt := 243) hx hb dX4_flowers_185 (by decide) (fun c_21 => ?_) (fun c_21 => ?_)
                    · have hno : ¬ imp C R g 0 r c := fun z => z.1 ((nI_eq (b := 0) (by omega) (by omega)).mp c_21)
                      refine lv_iinc (v := 1) (lv' := [(5, .int 1), (7, .int (nI c)), (6, .int (nI (r + 1))), (4, .int (nI c)), (3, .int (nI r)), (2, .int (nI fl)), (1, .ref na_1), (0, .ref so)]) hx hb dX4_flowers_243 hl (k := 2) rfl (by decide) (by decide) rfl (fun ls hl => ?_)
                      refine lv_goto (tgt := 123) hx hb dX4_flowers_246 (by decide) ?_
                      exact ih_14 (f, g, fl, 1) (⟨show 0 + 1 ≤ 4 by decide, sw_no hsw hno, hw_fj, hw_ai, hw_mi, hw_ri, hfr⟩) (by simp only []; omega) H locs hP hD hS ls (lv_sub hl [0, 3, 4, 5, 6, 7] rfl)
                    · have h1 : g (r * C + c) ≠ 0 := fun z => c_21 (congrArg nI z)
                      refine lv_aload_n hx hb dX4_flowers_188 rfl (lv_at hl 7 rfl) ?_
                      refine lv_iload hx hb dX4_flowers_189 (lv_at hl 0 rfl) ?_
                      refine lv_iload hx hb dX4_flowers_191 (lv_at hl 1 rfl) ?_
                      refine g_roVi ⟨hx, hb, hml, hown, hts⟩ hP hD hS hA hK hN [0, 1, 2, 3]
                          (c_X4_isCell (l := l) (D := D) (cI := cI) (cZ := cZ) (cP := cP) (cQ := cQ) (sz := _) (so := so) (io := io) (mo := mo) (ro := ro) (C := C) (R := R) (F := F) (n := n) (b := b) (gn := gn) (L := L) (f := f) (ai := ai) (mi := mi) (ri := ri) (ig := ig) (mg := mg) (rg := rg) (col := nI c) (row := nI (r + 1)) (hC1 := (by first | assumption | omega)) (hC := (by first | assumption | omega)) (hR1 := (by first | assumption | omega)) (hR := (by first | assumption | omega)) (hF := (by first | assumption | omega)) (hn := (by first | assumption | omega)) (hb0 := (by first | assumption | omega)) (hw_ai := hw_ai) (hw_mi := hw_mi) (hw_ri := hw_ri)) (cwV 2 hts gX4_flowers_X4_isCell rfl rfl rfl k_X4_isCell ⟨Nat.le_of_ble_eq_true rfl, Nat.le_of_ble_eq_true rfl⟩) 0 rfl rfl rfl rfl rfl rfl hl.1 (Nat.le_of_ble_eq_true rfl) dX4_flowers_193 ⟨Nat.le_of_ble_eq_true rfl, Nat.le_of_ble_eq_true rfl⟩ (fun H locs hP hS => ?_)
                      refine lv_if_eq (tgt := 243) hx hb dX4_flowers_196 (by decide) (fun c_22 => ?_) (fun c_22 => ?_)
                      · rw [cell_dn hC hR n_r9 n_c9] at c_22
                        have hno : ¬ imp C R g 0 r c := fun z => if10 c_22 z.2.1
                        refine lv_iinc (v := 1) (lv' := [(5, .int 1), (7, .int (nI c)), (6, .int (nI (r + 1))), (4, .int (nI c)), (3, .int (nI r)), (2, .int (nI fl)), (1, .ref na_1), (0, .ref so)]) hx hb dX4_flowers_243 hl (k := 2) rfl (by decide) (by decide) rfl (fun ls hl => ?_)
                        refine lv_goto (tgt := 123) hx hb dX4_flowers_246 (by decide) ?_
                        exact ih_14 (f, g, fl, 1) (⟨show 0 + 1 ≤ 4 by decide, sw_no hsw hno, hw_fj, hw_ai, hw_mi, hw_ri, hfr⟩) (by simp only []; omega) H locs hP hD hS ls (lv_sub hl [0, 3, 4, 5, 6, 7] rfl)
                      · rw [cell_dn hC hR n_r9 n_c9] at c_22
                        have hv1 := if11 c_22
                        have hv : vldD C R 0 r c := hv1
                        obtain ⟨hn1, hn2⟩ := nbD_in n_r9 n_c9 (d := 0) (by decide) hv
                        have hb2 : g (nbD C 0 r c) ≤ 144 := lb_le hsw.1 hRC hn1
                        refine lv_aload_n hx hb dX4_flowers_199 rfl (lv_at hl 6 rfl) ?_
                        refine lv_iload hx hb dX4_flowers_200 (lv_at hl 1 rfl) ?_
                        refine g_aald (k := (r + 1)) (v := fj (r + 1)) hx hb hK hP 4 2 rfl rfl rfl (by omega) (by first | decide | omega) rfl dX4_flowers_202 ?_
                        refine lv_iload hx hb dX4_flowers_203 (lv_at hl 0 rfl) ?_
                        refine g_iald (r := (r + 1)) (k := c) hx hb hK hP hw_fj (by omega) rfl (by omega) (by first | decide | omega) dX4_flowers_205 ?_
                        refine lv_if_eq (tgt := 243) hx hb dX4_flowers_206 (by decide) (fun c_23 => ?_) (fun c_23 => ?_)
                        · have hno : ¬ imp C R g 0 r c := fun z => z.2.2.1 ((nI_eq (b := 0) (show g (nbD C 0 r c) < 2 ^ 31 by omega) (by omega)).mp c_23)
                          refine lv_iinc (v := 1) (lv' := [(5, .int 1), (7, .int (nI c)), (6, .int (nI (r + 1))), (4, .int (nI c)), (3, .int (nI r)), (2, .int (nI fl)), (1, .ref na_1), (0, .ref so)]) hx hb dX4_flowers_243 hl (k := 2) rfl (by decide) (by decide) rfl (fun ls hl => ?_)
                          refine lv_goto (tgt := 123) hx hb dX4_flowers_246 (by decide) ?_
                          exact ih_14 (f, g, fl, 1) (⟨show 0 + 1 ≤ 4 by decide, sw_no hsw hno, hw_fj, hw_ai, hw_mi, hw_ri, hfr⟩) (by simp only []; omega) H locs hP hD hS ls (lv_sub hl [0, 3, 4, 5, 6, 7] rfl)
                        · have h3 : g (nbD C 0 r c) ≠ 0 := fun z => c_23 (congrArg nI z)
                          refine lv_aload_n hx hb dX4_flowers_209 rfl (lv_at hl 6 rfl) ?_
                          refine lv_iload hx hb dX4_flowers_210 (lv_at hl 1 rfl) ?_
                          refine g_aald (k := (r + 1)) (v := fj (r + 1)) hx hb hK hP 4 2 rfl rfl rfl (by omega) (by first | decide | omega) rfl dX4_flowers_212 ?_
                          refine lv_iload hx hb dX4_flowers_213 (lv_at hl 0 rfl) ?_
                          refine g_iald (r := (r + 1)) (k := c) hx hb hK hP hw_fj (by omega) rfl (by omega) (by first | decide | omega) dX4_flowers_215 ?_
                          refine lv_aload_n hx hb dX4_flowers_216 rfl (lv_at hl 6 rfl) ?_
                          refine lv_iload_n hx hb dX4_flowers_217 rfl (lv_at hl 4 rfl) ?_
                          refine g_aald (k := r) (v := fj r) hx hb hK hP 4 2 rfl rfl rfl (by omega) (by first | decide | omega) rfl dX4_flowers_218 ?_
                          refine lv_iload hx hb dX4_flowers_219 (lv_at hl 3 rfl) ?_
                          refine g_iald (r := r) (k := c) hx hb hK hP hw_fj (by omega) rfl (by omega) (by first | decide | omega) dX4_flowers_221 ?_
                          refine lv_icmp_lt (tgt := 228) hx hb dX4_flowers_222 (by decide) (fun c_24 => ?_) (fun c_24 => ?_)
                          · have h4 : g (nbD C 0 r c) < g (r * C + c) := (nI_ltI (a := g (nbD C 0 r c)) (b := g (r * C + c)) (by omega) (by omega)).mp c_24
                            refine lv_aload_n hx hb dX4_flowers_228 rfl (lv_at hl 6 rfl) ?_
                            refine lv_iload_n hx hb dX4_flowers_229 rfl (lv_at hl 4 rfl) ?_
                            refine g_aald (k := r) (v := fj r) hx hb hK hP 4 2 rfl rfl rfl (by omega) (by first | decide | omega) rfl dX4_flowers_230 ?_
                            refine lv_iload hx hb dX4_flowers_231 (lv_at hl 3 rfl) ?_
                            refine lv_aload_n hx hb dX4_flowers_233 rfl (lv_at hl 6 rfl) ?_
                            refine lv_iload hx hb dX4_flowers_234 (lv_at hl 1 rfl) ?_
                            refine g_aald (k := (r + 1)) (v := fj (r + 1)) hx hb hK hP 4 2 rfl rfl rfl (by omega) (by first | decide | omega) rfl dX4_flowers_236 ?_
                            refine lv_iload hx hb dX4_flowers_237 (lv_at hl 0 rfl) ?_
                            refine g_iald (r := (r + 1)) (k := c) hx hb hK hP hw_fj (by omega) rfl (by omega) (by first | decide | omega) dX4_flowers_239 ?_
                            refine g_iast (r := r) (k := c) hx hb hK hP hD hS hw_fj hi_fj (by omega) rfl (by omega) (by first | decide | omega) dX4_flowers_240 (fun f H locs hof hw9 hP hD hS => ?_)
                            have hw_ai := hw_ai.other ap_ai_fj (by omega) hof
                            have hw_mi := hw_mi.other ap_mi_fj (by omega) hof
                            have hw_ri := hw_ri.other ap_ri_fj (by omega) hof
                            have hw_fj := hw9
                            have hfr : ∀ b9, b9 ∈ L0 → f b9 = f0 b9 := fun b1 h1 => (hof b1 (fun e9 => hna _ (show r < R by omega) (e9 ▸ h1))).trans (hfr b1 h1)
                            refine lv_iconst (v := 1) hx hb dX4_flowers_241 (by decide) ?_
                            refine lv_istore_n (lv' := [(2, .int 1), (7, .int (nI c)), (6, .int (nI (r + 1))), (5, .int 0), (4, .int (nI c)), (3, .int (nI r)), (1, .ref na_1), (0, .ref so)]) hx hb dX4_flowers_242 rfl hl (by decide) rfl (fun ls hl => ?_)
                            refine lv_iinc (v := 1) (lv' := [(5, .int 1), (2, .int 1), (7, .int (nI c)), (6, .int (nI (r + 1))), (4, .int (nI c)), (3, .int (nI r)), (1, .ref na_1), (0, .ref so)]) hx hb dX4_flowers_243 hl (k := 3) rfl (by decide) (by decide) rfl (fun ls hl => ?_)
                            refine lv_goto (tgt := 123) hx hb dX4_flowers_246 (by decide) ?_
                            exact ih_14 (f, va_up g (r * C + c) (g (nbD C 0 r c)), 1, 1) (⟨show 0 + 1 ≤ 4 by decide, sw_up hI hC0 hC hR n_r9 n_c9 (d := 0) (by decide) hsw ⟨h1, hv, h3, h4⟩, hw_fj.congr (fun r1 a1 c1 a2 => lbI_up n_r9 n_c9 a1 a2), hw_ai, hw_mi, hw_ri, hfr⟩) (by simp only []; omega) H locs hP hD hS ls (lv_sub hl [0, 4, 5, 1, 6, 7] rfl)
                          · have hno : ¬ imp C R g 0 r c := fun z => c_24 ((nI_ltI (a := g (nbD C 0 r c)) (b := g (r * C + c)) (by omega) (by omega)).mpr z.2.2.2)
                            refine lv_goto (tgt := 243) hx hb dX4_flowers_225 (by decide) ?_
                            refine lv_iinc (v := 1) (lv' := [(5, .int 1), (7, .int (nI c)), (6, .int (nI (r + 1))), (4, .int (nI c)), (3, .int (nI r)), (2, .int (nI fl)), (1, .ref na_1), (0, .ref so)]) hx hb dX4_flowers_243 hl (k := 2) rfl (by decide) (by decide) rfl (fun ls hl => ?_)
                            refine lv_goto (tgt := 123) hx hb dX4_flowers_246 (by decide) ?_
                            exact ih_14 (f, g, fl, 1) (⟨show 0 + 1 ≤ 4 by decide, sw_no hsw hno, hw_fj, hw_ai, hw_mi, hw_ri, hfr⟩) (by simp only []; omega) H locs hP hD hS ls (lv_sub hl [0, 3, 4, 5, 6, 7] rfl)
                  · exact absurd c_19 (by decide)
                · exact absurd c_18 (by decide)
            · have hl : lv_has ls 8 [(5, .int 1), (4, .int (nI c)), (3, .int (nI r)), (2, .int (nI fl)), (1, .ref na_1), (0, .ref so)] := hl
              refine lv_iload_n hx hb dX4_flowers_129 rfl (lv_at hl 2 rfl) ?_
              refine lv_iload hx hb dX4_flowers_130 (lv_at hl 0 rfl) ?_
              refine lv_if_ne (tgt := 139) hx hb dX4_flowers_132 (by decide) (fun c_25 => ?_) (fun c_25 => ?_)
              · refine lv_iload hx hb dX4_flowers_139 (lv_at hl 0 rfl) ?_
                refine lv_iconst (v := 1) hx hb dX4_flowers_141 (by decide) ?_
                refine lv_icmp_ne (tgt := 149) hx hb dX4_flowers_142 (by decide) (fun c_26 => ?_) (fun c_26 => ?_)
                · exact absurd c_26 (by decide)
                · refine lv_iconst (v := (-1)) hx hb dX4_flowers_145 (by decide) ?_
                  refine lv_goto (tgt := 150) hx hb dX4_flowers_146 (by decide) ?_
                  refine lv_iadd hx hb dX4_flowers_150 ?_
                  refine lv_istore (lv' := [(6, .int ((nI r) + (-1))), (5, .int 1), (4, .int (nI c)), (3, .int (nI r)), (2, .int (nI fl)), (1, .ref na_1), (0, .ref so)]) hx hb dX4_flowers_151 hl (by decide) rfl (fun ls hl => ?_)
                  refine lv_iload hx hb dX4_flowers_153 (lv_at hl 2 rfl) ?_
                  refine lv_iload hx hb dX4_flowers_155 (lv_at hl 1 rfl) ?_
                  refine lv_iconst (v := 2) hx hb dX4_flowers_157 (by decide) ?_
                  refine lv_icmp_ne (tgt := 165) hx hb dX4_flowers_158 (by decide) (fun c_27 => ?_) (fun c_27 => ?_)
                  · refine lv_iload hx hb dX4_flowers_165 (lv_at hl 1 rfl) ?_
                    refine lv_iconst (v := 3) hx hb dX4_flowers_167 (by decide) ?_
                    refine lv_icmp_ne (tgt := 175) hx hb dX4_flowers_168 (by decide) (fun c_28 => ?_) (fun c_28 => ?_)
                    · refine lv_iconst (v := 0) hx hb dX4_flowers_175 (by decide) ?_
                      refine lv_iadd hx hb dX4_flowers_176 ?_
                      refine f_topi (y := nI (c + 0)) (nI_add c 0) ?_
                      refine lv_istore (lv' := [(7, .int (nI (c + 0))), (6, .int ((nI r) + (-1))), (5, .int 1), (4, .int (nI c)), (3, .int (nI r)), (2, .int (nI fl)), (1, .ref na_1), (0, .ref so)]) hx hb dX4_flowers_177 hl (by decide) rfl (fun ls hl => ?_)
                      have e9_29 : (nI (c + 0)) = (nI c) := rfl
                      have hl : lv_has ls 8 [(7, .int (nI c)), (6, .int ((nI r) + (-1))), (5, .int 1), (4, .int (nI c)), (3, .int (nI r)), (2, .int (nI fl)), (1, .ref na_1), (0, .ref so)] := by rw [← e9_29]; exact hl
                      refine lv_aload_n hx hb dX4_flowers_179 rfl (lv_at hl 6 rfl) ?_
                      refine lv_iload_n hx hb dX4_flowers_180 rfl (lv_at hl 4 rfl) ?_
                      refine g_aald (k := r) (v := fj r) hx hb hK hP 4 2 rfl rfl rfl (by omega) (by first | decide | omega) rfl dX4_flowers_181 ?_
                      refine lv_iload hx hb dX4_flowers_182 (lv_at hl 3 rfl) ?_
                      refine g_iald (r := r) (k := c) hx hb hK hP hw_fj (by omega) rfl (by omega) (by first | decide | omega) dX4_flowers_184 ?_
                      refine lv_if_eq (tgt := 243) hx hb dX4_flowers_185 (by decide) (fun c_30 => ?_) (fun c_30 => ?_)
                      · have hno : ¬ imp C R g 1 r c := fun z => z.1 ((nI_eq (b := 0) (by omega) (by omega)).mp c_30)
                        refine lv_iinc (v := 2) (lv' := [(5, .int 2), (7, .int (nI c)), (6, .int ((nI r) + (-1))), (4, .int (nI c)), (3, .int (nI r)), (2, .int (nI fl)), (1, .ref na_1), (0, .ref so)]) hx hb dX4_flowers_243 hl (k := 2) rfl (by decide) (by decide) rfl (fun ls hl => ?_)
                        refine lv_goto (tgt := 123) hx hb dX4_flowers_246 (by decide) ?_
                        exact ih_14 (f, g, fl, 2) (⟨show 1 + 1 ≤ 4 by decide, sw_no hsw hno, hw_fj, hw_ai, hw_mi, hw_ri, hfr⟩) (by simp only []; omega) H locs hP hD hS ls (lv_sub hl [0, 3, 4, 5, 6, 7] rfl)
                      · have h1 : g (r * C + c) ≠ 0 := fun z => c_30 (congrArg nI z)
                        refine lv_aload_n hx hb dX4_flowers_188 rfl (lv_at hl 7 rfl) ?_
                        refine lv_iload hx hb dX4_flowers_189 (lv_at hl 0 rfl) ?_
                        refine lv_iload hx hb dX4_flowers_191 (lv_at hl 1 rfl) ?_
                        refine g_roVi ⟨hx, hb, hml, hown, hts⟩ hP hD hS hA hK hN [0, 1, 2, 3]
                            (c_X4_isCell (l := l) (D := D) (cI := cI) (cZ := cZ) (cP := cP) (cQ := cQ) (sz := _) (so := so) (io := io) (mo := mo) (ro := ro) (C := C) (R := R) (F := F) (n := n) (b := b) (gn := gn) (L := L) (f := f) (ai := ai) (mi := mi) (ri := ri) (ig := ig) (mg := mg) (rg := rg) (col := nI c) (row := (nI r) + (-1)) (hC1 := (by first | assumption | omega)) (hC := (by first | assumption | omega)) (hR1 := (by first | assumption | omega)) (hR := (by first | assumption | omega)) (hF := (by first | assumption | omega)) (hn := (by first | assumption | omega)) (hb0 := (by first | assumption | omega)) (hw_ai := hw_ai) (hw_mi := hw_mi) (hw_ri := hw_ri)) (cwV 2 hts gX4_flowers_X4_isCell rfl rfl rfl k_X4_isCell ⟨Nat.le_of_ble_eq_true rfl, Nat.le_of_ble_eq_true rfl⟩) 0 rfl rfl rfl rfl rfl rfl hl.1 (Nat.le_of_ble_eq_true rfl) dX4_flowers_193 ⟨Nat.le_of_ble_eq_true rfl, Nat.le_of_ble_eq_true rfl⟩ (fun H locs hP hS => ?_)
                        refine lv_if_eq (tgt := 243) hx hb dX4_flowers_196 (by decide) (fun c_31 => ?_) (fun c_31 => ?_)
                        · rw [cell_up hC hR n_r9 n_c9] at c_31
                          have hno : ¬ imp C R g 1 r c := fun z => if10 c_31 z.2.1
                          refine lv_iinc (v := 2) (lv' := [(5, .int 2), (7, .int (nI c)), (6, .int ((nI r) + (-1))), (4, .int (nI c)), (3, .int (nI r)), (2, .int (nI fl)), (1, .ref na_1), (0, .ref so)]) hx hb dX4_flowers_243 hl (k := 2) rfl (by decide) (by decide) rfl (fun ls hl => ?_)
                          refine lv_goto (tgt := 123) hx hb dX4_flowers_246 (by decide) ?_
                          exact ih_14 (f, g, fl, 2) (⟨show 1 + 1 ≤ 4 by decide, sw_no hsw hno, hw_fj, hw_ai, hw_mi, hw_ri, hfr⟩) (by simp only []; omega) H locs hP hD hS ls (lv_sub hl [0, 3, 4, 5, 6, 7] rfl)
                        · rw [cell_up hC hR n_r9 n_c9] at c_31
                          have hv1 := if11 c_31
                          have hv : vldD C R 1 r c := hv1
                          obtain ⟨hn1, hn2⟩ := nbD_in n_r9 n_c9 (d := 1) (by decide) hv
                          have hb2 : g (nbD C 1 r c) ≤ 144 := lb_le hsw.1 hRC hn1
                          have e9_32 : ((nI r) + (-1)) = (nI (r - 1)) := m1_p r hv1
                          have hl : lv_has ls 8 [(7, .int (nI c)), (6, .int (nI (r - 1))), (5, .int 1), (4, .int (nI c)), (3, .int (nI r)), (2, .int (nI fl)), (1, .ref na_1), (0, .ref so)] := by rw [← e9_32]; exact hl
                          refine lv_aload_n hx hb dX4_flowers_199 rfl (lv_at hl 6 rfl) ?_
                          refine lv_iload hx hb dX4_flowers_200 (lv_at hl 1 rfl) ?_
                          refine g_aald (k := (r - 1)) (v := fj (r - 1)) hx hb hK hP 4 2 rfl rfl rfl (by omega) (by first | decide | omega) rfl dX4_flowers_202 ?_
                          refine lv_iload hx hb dX4_flowers_203 (lv_at hl 0 rfl) ?_
                          refine g_iald (r := (r - 1)) (k := c) hx hb hK hP hw_fj (by omega) rfl (by omega) (by first | decide | omega) dX4_flowers_205 ?_
                          refine lv_if_eq (tgt := 243) hx hb dX4_flowers_206 (by decide) (fun c_33 => ?_) (fun c_33 => ?_)
                          · have hno : ¬ imp C R g 1 r c := fun z => z.2.2.1 ((nI_eq (b := 0) (show g (nbD C 1 r c) < 2 ^ 31 by omega) (by omega)).mp c_33)
                            refine lv_iinc (v := 2) (lv' := [(5, .int 2), (7, .int (nI c)), (6, .int (nI (r - 1))), (4, .int (nI c)), (3, .int (nI r)), (2, .int (nI fl)), (1, .ref na_1), (0, .ref so)]) hx hb dX4_flowers_243 hl (k := 2) rfl (by decide) (by decide) rfl (fun ls hl => ?_)
                            refine lv_goto (tgt := 123) hx hb dX4_flowers_246 (by decide) ?_
                            exact ih_14 (f, g, fl, 2) (⟨show 1 + 1 ≤ 4 by decide, sw_no hsw hno, hw_fj, hw_ai, hw_mi, hw_ri, hfr⟩) (by simp only []; omega) H locs hP hD hS ls (lv_sub hl [0, 3, 4, 5, 6, 7] rfl)
                          · have h3 : g (nbD C 1 r c) ≠ 0 := fun z => c_33 (congrArg nI z)
                            refine lv_aload_n hx hb dX4_flowers_209 rfl (lv_at hl 6 rfl) ?_
                            refine lv_iload hx hb dX4_flowers_210 (lv_at hl 1 rfl) ?_
                            refine g_aald (k := (r - 1)) (v := fj (r - 1)) hx hb hK hP 4 2 rfl rfl rfl (by omega) (by first | decide | omega) rfl dX4_flowers_212 ?_
                            refine lv_iload hx hb dX4_flowers_213 (lv_at hl 0 rfl) ?_
                            refine g_iald (r := (r - 1)) (k := c) hx hb hK hP hw_fj (by omega) rfl (by omega) (by first | decide | omega) dX4_flowers_215 ?_
                            refine lv_aload_n hx hb dX4_flowers_216 rfl (lv_at hl 6 rfl) ?_
                            refine lv_iload_n hx hb dX4_flowers_217 rfl (lv_at hl 4 rfl) ?_
                            refine g_aald (k := r) (v := fj r) hx hb hK hP 4 2 rfl rfl rfl (by omega) (by first | decide | omega) rfl dX4_flowers_218 ?_
                            refine lv_iload hx hb dX4_flowers_219 (lv_at hl 3 rfl) ?_
                            refine g_iald (r := r) (k := c) hx hb hK hP hw_fj (by omega) rfl (by omega) (by first | decide | omega) dX4_flowers_221 ?_
                            refine lv_icmp_lt (tgt := 228) hx hb dX4_flowers_222 (by decide) (fun c_34 => ?_) (fun c_34 => ?_)
                            · have h4 : g (nbD C 1 r c) < g (r * C + c) := (nI_ltI (a := g (nbD C 1 r c)) (b := g (r * C + c)) (by omega) (by omega)).mp c_34
                              refine lv_aload_n hx hb dX4_flowers_228 rfl (lv_at hl 6 rfl) ?_
                              refine lv_iload_n hx hb dX4_flowers_229 rfl (lv_at hl 4 rfl) ?_
                              refine g_aald (k := r) (v := fj r) hx hb hK hP 4 2 rfl rfl rfl (by omega) (by first | decide | omega) rfl dX4_flowers_230 ?_
                              refine lv_iload hx hb dX4_flowers_231 (lv_at hl 3 rfl) ?_
                              refine lv_aload_n hx hb dX4_flowers_233 rfl (lv_at hl 6 rfl) ?_
                              refine lv_iload hx hb dX4_flowers_234 (lv_at hl 1 rfl) ?_
                              refine g_aald (k := (r - 1)) (v := fj (r - 1)) hx hb hK hP 4 2 rfl rfl rfl (by omega) (by first | decide | omega) rfl dX4_flowers_236 ?_
                              refine lv_iload hx hb dX4_flowers_237 (lv_at hl 0 rfl) ?_
                              refine g_iald (r := (r - 1)) (k := c) hx hb hK hP hw_fj (by omega) rfl (by omega) (by first | decide | omega) dX4_flowers_239 ?_
                              refine g_iast (r := r) (k := c) hx hb hK hP hD hS hw_fj hi_fj (by omega) rfl (by omega) (by first | decide | omega) dX4_flowers_240 (fun f H locs hof hw9 hP hD hS => ?_)
                              have hw_ai := hw_ai.other ap_ai_fj (by omega) hof
                              have hw_mi := hw_mi.other ap_mi_fj (by omega) hof
                              have hw_ri := hw_ri.other ap_ri_fj (by omega) hof
                              have hw_fj := hw9
                              have hfr : ∀ b9, b9 ∈ L0 → f b9 = f0 b9 := fun b1 h1 => (hof b1 (fun e9 => hna _ (show r < R by omega) (e9 ▸ h1))).trans (hfr b1 h1)
                              refine lv_iconst (v := 1) hx hb dX4_flowers_241 (by decide) ?_
                              refine lv_istore_n (lv' := [(2, .int 1), (7, .int (nI c)), (6, .int (nI (r - 1))), (5, .int 1), (4, .int (nI c)), (3, .int (nI r)), (1, .ref na_1), (0, .ref so)]) hx hb dX4_flowers_242 rfl hl (by decide) rfl (fun ls hl => ?_)
                              refine lv_iinc (v := 2) (lv' := [(5, .int 2), (2, .int 1), (7, .int (nI c)), (6, .int (nI (r - 1))), (4, .int (nI c)), (3, .int (nI r)), (1, .ref na_1), (0, .ref so)]) hx hb dX4_flowers_243 hl (k := 3) rfl (by decide) (by decide) rfl (fun ls hl => ?_)
                              refine lv_goto (tgt := 123) hx hb dX4_flowers_246 (by decide) ?_
                              exact ih_14 (f, va_up g (r * C + c) (g (nbD C 1 r c)), 1, 2) (⟨show 1 + 1 ≤ 4 by decide, sw_up hI hC0 hC hR n_r9 n_c9 (d := 1) (by decide) hsw ⟨h1, hv, h3, h4⟩, hw_fj.congr (fun r1 a1 c1 a2 => lbI_up n_r9 n_c9 a1 a2), hw_ai, hw_mi, hw_ri, hfr⟩) (by simp only []; omega) H locs hP hD hS ls (lv_sub hl [0, 4, 5, 1, 6, 7] rfl)
                            · have hno : ¬ imp C R g 1 r c := fun z => c_34 ((nI_ltI (a := g (nbD C 1 r c)) (b := g (r * C + c)) (by omega) (by omega)).mpr z.2.2.2)
                              refine lv_goto (tgt := 243) hx hb dX4_flowers_225 (by decide) ?_
                              refine lv_iinc (v := 2) (lv' := [(5, .int 2), (7, .int (nI c)), (6, .int (nI (r - 1))), (4, .int (nI c)), (3, .int (nI r)), (2, .int (nI fl)), (1, .ref na_1), (0, .ref so)]) hx hb dX4_flowers_243 hl (k := 2) rfl (by decide) (by decide) rfl (fun ls hl => ?_)
                              refine lv_goto (tgt := 123) hx hb dX4_flowers_246 (by decide) ?_
                              exact ih_14 (f, g, fl, 2) (⟨show 1 + 1 ≤ 4 by decide, sw_no hsw hno, hw_fj, hw_ai, hw_mi, hw_ri, hfr⟩) (by simp only []; omega) H locs hP hD hS ls (lv_sub hl [0, 3, 4, 5, 6, 7] rfl)
                    · exact absurd c_28 (by decide)
                  · exact absurd c_27 (by decide)
              · exact absurd c_25 (by decide)
            · have hl : lv_has ls 8 [(5, .int 2), (4, .int (nI c)), (3, .int (nI r)), (2, .int (nI fl)), (1, .ref na_1), (0, .ref so)] := hl
              refine lv_iload_n hx hb dX4_flowers_129 rfl (lv_at hl 2 rfl) ?_
              refine lv_iload hx hb dX4_flowers_130 (lv_at hl 0 rfl) ?_
              refine lv_if_ne (tgt := 139) hx hb dX4_flowers_132 (by decide) (fun c_35 => ?_) (fun c_35 => ?_)
              · refine lv_iload hx hb dX4_flowers_139 (lv_at hl 0 rfl) ?_
                refine lv_iconst (v := 1) hx hb dX4_flowers_141 (by decide) ?_
                refine lv_icmp_ne (tgt := 149) hx hb dX4_flowers_142 (by decide) (fun c_36 => ?_) (fun c_36 => ?_)
                · refine lv_iconst (v := 0) hx hb dX4_flowers_149 (by decide) ?_
                  refine lv_iadd hx hb dX4_flowers_150 ?_
                  refine f_topi (y := nI (r + 0)) (nI_add r 0) ?_
                  refine lv_istore (lv' := [(6, .int (nI (r + 0))), (5, .int 2), (4, .int (nI c)), (3, .int (nI r)), (2, .int (nI fl)), (1, .ref na_1), (0, .ref so)]) hx hb dX4_flowers_151 hl (by decide) rfl (fun ls hl => ?_)
                  refine lv_iload hx hb dX4_flowers_153 (lv_at hl 2 rfl) ?_
                  refine lv_iload hx hb dX4_flowers_155 (lv_at hl 1 rfl) ?_
                  refine lv_iconst (v := 2) hx hb dX4_flowers_157 (by decide) ?_
                  refine lv_icmp_ne (tgt := 165) hx hb dX4_flowers_158 (by decide) (fun c_37 => ?_) (fun c_37 => ?_)
                  · exact absurd c_37 (by decide)
                  · refine lv_iconst (v := 1) hx hb dX4_flowers_161 (by decide) ?_
                    refine lv_goto (tgt := 176) hx hb dX4_flowers_162 (by decide) ?_
                    refine lv_iadd hx hb dX4_flowers_176 ?_
                    refine f_topi (y := nI (c + 1)) (nI_add c 1) ?_
                    refine lv_istore (lv' := [(7, .int (nI (c + 1))), (6, .int (nI (r + 0))), (5, .int 2), (4, .int (nI c)), (3, .int (nI r)), (2, .int (nI fl)), (1, .ref na_1), (0, .ref so)]) hx hb dX4_flowers_177 hl (by decide) rfl (fun ls hl => ?_)
                    have e9_38 : (nI (r + 0)) = (nI r) := rfl
                    have hl : lv_has ls 8 [(7, .int (nI (c + 1))), (6, .int (nI r)), (5, .int 2), (4, .int (nI c)), (3, .int (nI r)), (2, .int (nI fl)), (1, .ref na_1), (0, .ref so)] := by rw [← e9_38]; exact hl
                    refine lv_aload_n hx hb dX4_flowers_179 rfl (lv_at hl 6 rfl) ?_
                    refine lv_iload_n hx hb dX4_flowers_180 rfl (lv_at hl 4 rfl) ?_
                    refine g_aald (k := r) (v := fj r) hx hb hK hP 4 2 rfl rfl rfl (by omega) (by first | decide | omega) rfl dX4_flowers_181 ?_
                    refine lv_iload hx hb dX4_flowers_182 (lv_at hl 3 rfl) ?_
                    refine g_iald (r := r) (k := c) hx hb hK hP hw_fj (by omega) rfl (by omega) (by first | decide | omega) dX4_flowers_184 ?_
                    refine lv_if_eq (tgt := 243) hx hb dX4_flowers_185 (by decide) (fun c_39 => ?_) (fun c_39 => ?_)
                    · have hno : ¬ imp C R g 2 r c := fun z => z.1 ((nI_eq (b := 0) (by omega) (by omega)).mp c_39)
                      refine lv_iinc (v := 3) (lv' := [(5, .int 3), (7, .int (nI (c + 1))), (6, .int (nI r)), (4, .int (nI c)), (3, .int (nI r)), (2, .int (nI fl)), (1, .ref na_1), (0, .ref so)]) hx hb dX4_flowers_243 hl (k := 2) rfl (by decide) (by decide) rfl (fun ls hl => ?_)
                      refine lv_goto (tgt := 123) hx hb dX4_flowers_246 (by decide) ?_
                      exact ih_14 (f, g, fl, 3) (⟨show 2 + 1 ≤ 4 by decide, sw_no hsw hno, hw_fj, hw_ai, hw_mi, hw_ri, hfr⟩) (by simp only []; omega) H locs hP hD hS ls (lv_sub hl [0, 3, 4, 5, 6, 7] rfl)
                    · have h1 : g (r * C + c) ≠ 0 := fun z => c_39 (congrArg nI z)
                      refine lv_aload_n hx hb dX4_flowers_188 rfl (lv_at hl 7 rfl) ?_
                      refine lv_iload hx hb dX4_flowers_189 (lv_at hl 0 rfl) ?_
                      refine lv_iload hx hb dX4_flowers_191 (lv_at hl 1 rfl) ?_
                      refine g_roVi ⟨hx, hb, hml, hown, hts⟩ hP hD hS hA hK hN [0, 1, 2, 3]
                          (c_X4_isCell (l := l) (D := D) (cI := cI) (cZ := cZ) (cP := cP) (cQ := cQ) (sz := _) (so := so) (io := io) (mo := mo) (ro := ro) (C := C) (R := R) (F := F) (n := n) (b := b) (gn := gn) (L := L) (f := f) (ai := ai) (mi := mi) (ri := ri) (ig := ig) (mg := mg) (rg := rg) (col := nI (c + 1)) (row := nI r) (hC1 := (by first | assumption | omega)) (hC := (by first | assumption | omega)) (hR1 := (by first | assumption | omega)) (hR := (by first | assumption | omega)) (hF := (by first | assumption | omega)) (hn := (by first | assumption | omega)) (hb0 := (by first | assumption | omega)) (hw_ai := hw_ai) (hw_mi := hw_mi) (hw_ri := hw_ri)) (cwV 2 hts gX4_flowers_X4_isCell rfl rfl rfl k_X4_isCell ⟨Nat.le_of_ble_eq_true rfl, Nat.le_of_ble_eq_true rfl⟩) 0 rfl rfl rfl rfl rfl rfl hl.1 (Nat.le_of_ble_eq_true rfl) dX4_flowers_193 ⟨Nat.le_of_ble_eq_true rfl, Nat.le_of_ble_eq_true rfl⟩ (fun H locs hP hS => ?_)
                      refine lv_if_eq (tgt := 243) hx hb dX4_flowers_196 (by decide) (fun c_40 => ?_) (fun c_40 => ?_)
                      · rw [cell_rt hC hR n_r9 n_c9] at c_40
                        have hno : ¬ imp C R g 2 r c := fun z => if10 c_40 z.2.1
                        refine lv_iinc (v := 3) (lv' := [(5, .int 3), (7, .int (nI (c + 1))), (6, .int (nI r)), (4, .int (nI c)), (3, .int (nI r)), (2, .int (nI fl)), (1, .ref na_1), (0, .ref so)]) hx hb dX4_flowers_243 hl (k := 2) rfl (by decide) (by decide) rfl (fun ls hl => ?_)
                        refine lv_goto (tgt := 123) hx hb dX4_flowers_246 (by decide) ?_
                        exact ih_14 (f, g, fl, 3) (⟨show 2 + 1 ≤ 4 by decide, sw_no hsw hno, hw_fj, hw_ai, hw_mi, hw_ri, hfr⟩) (by simp only []; omega) H locs hP hD hS ls (lv_sub hl [0, 3, 4, 5, 6, 7] rfl)
                      · rw [cell_rt hC hR n_r9 n_c9] at c_40
                        have hv1 := if11 c_40
                        have hv : vldD C R 2 r c := hv1
                        obtain ⟨hn1, hn2⟩ := nbD_in n_r9 n_c9 (d := 2) (by decide) hv
                        have hb2 : g (nbD C 2 r c) ≤ 144 := lb_le hsw.1 hRC hn1
                        refine lv_aload_n hx hb dX4_flowers_199 rfl (lv_at hl 6 rfl) ?_
                        refine lv_iload hx hb dX4_flowers_200 (lv_at hl 1 rfl) ?_
                        refine g_aald (k := r) (v := fj r) hx hb hK hP 4 2 rfl rfl rfl (by omega) (by first | decide | omega) rfl dX4_flowers_202 ?_
                        refine lv_iload hx hb dX4_flowers_203 (lv_at hl 0 rfl) ?_
                        refine g_iald (r := r) (k := (c + 1)) hx hb hK hP hw_fj (by omega) rfl (by omega) (by first | decide | omega) dX4_flowers_205 ?_
                        refine lv_if_eq (tgt := 243) hx hb dX4_flowers_206 (by decide) (fun c_41 => ?_) (fun c_41 => ?_)
                        · have hno : ¬ imp C R g 2 r c := fun z => z.2.2.1 ((nI_eq (b := 0) (show g (nbD C 2 r c) < 2 ^ 31 by omega) (by omega)).mp c_41)
                          refine lv_iinc (v := 3) (lv' := [(5, .int 3), (7, .int (nI (c + 1))), (6, .int (nI r)), (4, .int (nI c)), (3, .int (nI r)), (2, .int (nI fl)), (1, .ref na_1), (0, .ref so)]) hx hb dX4_flowers_243 hl (k := 2) rfl (by decide) (by decide) rfl (fun ls hl => ?_)
                          refine lv_goto (tgt := 123) hx hb dX4_flowers_246 (by decide) ?_
                          exact ih_14 (f, g, fl, 3) (⟨show 2 + 1 ≤ 4 by decide, sw_no hsw hno, hw_fj, hw_ai, hw_mi, hw_ri, hfr⟩) (by simp only []; omega) H locs hP hD hS ls (lv_sub hl [0, 3, 4, 5, 6, 7] rfl)
                        · have h3 : g (nbD C 2 r c) ≠ 0 := fun z => c_41 (congrArg nI z)
                          refine lv_aload_n hx hb dX4_flowers_209 rfl (lv_at hl 6 rfl) ?_
                          refine lv_iload hx hb dX4_flowers_210 (lv_at hl 1 rfl) ?_
                          refine g_aald (k := r) (v := fj r) hx hb hK hP 4 2 rfl rfl rfl (by omega) (by first | decide | omega) rfl dX4_flowers_212 ?_
                          refine lv_iload hx hb dX4_flowers_213 (lv_at hl 0 rfl) ?_
                          refine g_iald (r := r) (k := (c + 1)) hx hb hK hP hw_fj (by omega) rfl (by omega) (by first | decide | omega) dX4_flowers_215 ?_
                          refine lv_aload_n hx hb dX4_flowers_216 rfl (lv_at hl 6 rfl) ?_
                          refine lv_iload_n hx hb dX4_flowers_217 rfl (lv_at hl 4 rfl) ?_
                          refine g_aald (k := r) (v := fj r) hx hb hK hP 4 2 rfl rfl rfl (by omega) (by first | decide | omega) rfl dX4_flowers_218 ?_
                          refine lv_iload hx hb dX4_flowers_219 (lv_at hl 3 rfl) ?_
                          refine g_iald (r := r) (k := c) hx hb hK hP hw_fj (by omega) rfl (by omega) (by first | decide | omega) dX4_flowers_221 ?_
                          refine lv_icmp_lt (tgt := 228) hx hb dX4_flowers_222 (by decide) (fun c_42 => ?_) (fun c_42 => ?_)
                          · have h4 : g (nbD C 2 r c) < g (r * C + c) := (nI_ltI (a := g (nbD C 2 r c)) (b := g (r * C + c)) (by omega) (by omega)).mp c_42
                            refine lv_aload_n hx hb dX4_flowers_228 rfl (lv_at hl 6 rfl) ?_
                            refine lv_iload_n hx hb dX4_flowers_229 rfl (lv_at hl 4 rfl) ?_
                            refine g_aald (k := r) (v := fj r) hx hb hK hP 4 2 rfl rfl rfl (by omega) (by first | decide | omega) rfl dX4_flowers_230 ?_
                            refine lv_iload hx hb dX4_flowers_231 (lv_at hl 3 rfl) ?_
                            refine lv_aload_n hx hb dX4_flowers_233 rfl (lv_at hl 6 rfl) ?_
                            refine lv_iload hx hb dX4_flowers_234 (lv_at hl 1 rfl) ?_
                            refine g_aald (k := r) (v := fj r) hx hb hK hP 4 2 rfl rfl rfl (by omega) (by first | decide | omega) rfl dX4_flowers_236 ?_
                            refine lv_iload hx hb dX4_flowers_237 (lv_at hl 0 rfl) ?_
                            refine g_iald (r := r) (k := (c + 1)) hx hb hK hP hw_fj (by omega) rfl (by omega) (by first | decide | omega) dX4_flowers_239 ?_
                            refine g_iast (r := r) (k := c) hx hb hK hP hD hS hw_fj hi_fj (by omega) rfl (by omega) (by first | decide | omega) dX4_flowers_240 (fun f H locs hof hw9 hP hD hS => ?_)
                            have hw_ai := hw_ai.other ap_ai_fj (by omega) hof
                            have hw_mi := hw_mi.other ap_mi_fj (by omega) hof
                            have hw_ri := hw_ri.other ap_ri_fj (by omega) hof
                            have hw_fj := hw9
                            have hfr : ∀ b9, b9 ∈ L0 → f b9 = f0 b9 := fun b1 h1 => (hof b1 (fun e9 => hna _ (show r < R by omega) (e9 ▸ h1))).trans (hfr b1 h1)
                            refine lv_iconst (v := 1) hx hb dX4_flowers_241 (by decide) ?_
                            refine lv_istore_n (lv' := [(2, .int 1), (7, .int (nI (c + 1))), (6, .int (nI r)), (5, .int 2), (4, .int (nI c)), (3, .int (nI r)), (1, .ref na_1), (0, .ref so)]) hx hb dX4_flowers_242 rfl hl (by decide) rfl (fun ls hl => ?_)
                            refine lv_iinc (v := 3) (lv' := [(5, .int 3), (2, .int 1), (7, .int (nI (c + 1))), (6, .int (nI r)), (4, .int (nI c)), (3, .int (nI r)), (1, .ref na_1), (0, .ref so)]) hx hb dX4_flowers_243 hl (k := 3) rfl (by decide) (by decide) rfl (fun ls hl => ?_)
                            refine lv_goto (tgt := 123) hx hb dX4_flowers_246 (by decide) ?_
                            exact ih_14 (f, va_up g (r * C + c) (g (nbD C 2 r c)), 1, 3) (⟨show 2 + 1 ≤ 4 by decide, sw_up hI hC0 hC hR n_r9 n_c9 (d := 2) (by decide) hsw ⟨h1, hv, h3, h4⟩, hw_fj.congr (fun r1 a1 c1 a2 => lbI_up n_r9 n_c9 a1 a2), hw_ai, hw_mi, hw_ri, hfr⟩) (by simp only []; omega) H locs hP hD hS ls (lv_sub hl [0, 4, 5, 1, 6, 7] rfl)
                          · have hno : ¬ imp C R g 2 r c := fun z => c_42 ((nI_ltI (a := g (nbD C 2 r c)) (b := g (r * C + c)) (by omega) (by omega)).mpr z.2.2.2)
                            refine lv_goto (tgt := 243) hx hb dX4_flowers_225 (by decide) ?_
                            refine lv_iinc (v := 3) (lv' := [(5, .int 3), (7, .int (nI (c + 1))), (6, .int (nI r)), (4, .int (nI c)), (3, .int (nI r)), (2, .int (nI fl)), (1, .ref na_1), (0, .ref so)]) hx hb dX4_flowers_243 hl (k := 2) rfl (by decide) (by decide) rfl (fun ls hl => ?_)
                            refine lv_goto (tgt := 123) hx hb dX4_flowers_246 (by decide) ?_
                            exact ih_14 (f, g, fl, 3) (⟨show 2 + 1 ≤ 4 by decide, sw_no hsw hno, hw_fj, hw_ai, hw_mi, hw_ri, hfr⟩) (by simp only []; omega) H locs hP hD hS ls (lv_sub hl [0, 3, 4, 5, 6, 7] rfl)
                · exact absurd c_36 (by decide)
              · exact absurd c_35 (by decide)
            · have hl : lv_has ls 8 [(5, .int 3), (4, .int (nI c)), (3, .int (nI r)), (2, .int (nI fl)), (1, .ref na_1), (0, .ref so)] := hl
              refine lv_iload_n hx hb dX4_flowers_129 rfl (lv_at hl 2 rfl) ?_
              refine lv_iload hx hb dX4_flowers_130 (lv_at hl 0 rfl) ?_
              refine lv_if_ne (tgt := 139) hx hb dX4_flowers_132 (by decide) (fun c_43 => ?_) (fun c_43 => ?_)
              · refine lv_iload hx hb dX4_flowers_139 (lv_at hl 0 rfl) ?_
                refine lv_iconst (v := 1) hx hb dX4_flowers_141 (by decide) ?_
                refine lv_icmp_ne (tgt := 149) hx hb dX4_flowers_142 (by decide) (fun c_44 => ?_) (fun c_44 => ?_)
                · refine lv_iconst (v := 0) hx hb dX4_flowers_149 (by decide) ?_
                  refine lv_iadd hx hb dX4_flowers_150 ?_
                  refine f_topi (y := nI (r + 0)) (nI_add r 0) ?_
                  refine lv_istore (lv' := [(6, .int (nI (r + 0))), (5, .int 3), (4, .int (nI c)), (3, .int (nI r)), (2, .int (nI fl)), (1, .ref na_1), (0, .ref so)]) hx hb dX4_flowers_151 hl (by decide) rfl (fun ls hl => ?_)
                  refine lv_iload hx hb dX4_flowers_153 (lv_at hl 2 rfl) ?_
                  refine lv_iload hx hb dX4_flowers_155 (lv_at hl 1 rfl) ?_
                  refine lv_iconst (v := 2) hx hb dX4_flowers_157 (by decide) ?_
                  refine lv_icmp_ne (tgt := 165) hx hb dX4_flowers_158 (by decide) (fun c_45 => ?_) (fun c_45 => ?_)
                  · refine lv_iload hx hb dX4_flowers_165 (lv_at hl 1 rfl) ?_
                    refine lv_iconst (v := 3) hx hb dX4_flowers_167 (by decide) ?_
                    refine lv_icmp_ne (tgt := 175) hx hb dX4_flowers_168 (by decide) (fun c_46 => ?_) (fun c_46 => ?_)
                    · exact absurd c_46 (by decide)
                    · refine lv_iconst (v := (-1)) hx hb dX4_flowers_171 (by decide) ?_
                      refine lv_goto (tgt := 176) hx hb dX4_flowers_172 (by decide) ?_
                      refine lv_iadd hx hb dX4_flowers_176 ?_
                      refine lv_istore (lv' := [(7, .int ((nI c) + (-1))), (6, .int (nI (r + 0))), (5, .int 3), (4, .int (nI c)), (3, .int (nI r)), (2, .int (nI fl)), (1, .ref na_1), (0, .ref so)]) hx hb dX4_flowers_177 hl (by decide) rfl (fun ls hl => ?_)
                      have e9_47 : (nI (r + 0)) = (nI r) := rfl
                      have hl : lv_has ls 8 [(7, .int ((nI c) + (-1))), (6, .int (nI r)), (5, .int 3), (4, .int (nI c)), (3, .int (nI r)), (2, .int (nI fl)), (1, .ref na_1), (0, .ref so)] := by rw [← e9_47]; exact hl
                      refine lv_aload_n hx hb dX4_flowers_179 rfl (lv_at hl 6 rfl) ?_
                      refine lv_iload_n hx hb dX4_flowers_180 rfl (lv_at hl 4 rfl) ?_
                      refine g_aald (k := r) (v := fj r) hx hb hK hP 4 2 rfl rfl rfl (by omega) (by first | decide | omega) rfl dX4_flowers_181 ?_
                      refine lv_iload hx hb dX4_flowers_182 (lv_at hl 3 rfl) ?_
                      refine g_iald (r := r) (k := c) hx hb hK hP hw_fj (by omega) rfl (by omega) (by first | decide | omega) dX4_flowers_184 ?_
                      refine lv_if_eq (tgt := 243) hx hb dX4_flowers_185 (by decide) (fun c_48 => ?_) (fun c_48 => ?_)
                      · have hno : ¬ imp C R g 3 r c := fun z => z.1 ((nI_eq (b := 0) (by omega) (by omega)).mp c_48)
                        refine lv_iinc (v := 4) (lv' := [(5, .int 4), (7, .int ((nI c) + (-1))), (6, .int (nI r)), (4, .int (nI c)), (3, .int (nI r)), (2, .int (nI fl)), (1, .ref na_1), (0, .ref so)]) hx hb dX4_flowers_243 hl (k := 2) rfl (by decide) (by decide) rfl (fun ls hl => ?_)
                        refine lv_goto (tgt := 123) hx hb dX4_flowers_246 (by decide) ?_
                        exact ih_14 (f, g, fl, 4) (⟨show 3 + 1 ≤ 4 by decide, sw_no hsw hno, hw_fj, hw_ai, hw_mi, hw_ri, hfr⟩) (by simp only []; omega) H locs hP hD hS ls (lv_sub hl [0, 3, 4, 5, 6, 7] rfl)
                      · have h1 : g (r * C + c) ≠ 0 := fun z => c_48 (congrArg nI z)
                        refine lv_aload_n hx hb dX4_flowers_188 rfl (lv_at hl 7 rfl) ?_
                        refine lv_iload hx hb dX4_flowers_189 (lv_at hl 0 rfl) ?_
                        refine lv_iload hx hb dX4_flowers_191 (lv_at hl 1 rfl) ?_
                        refine g_roVi ⟨hx, hb, hml, hown, hts⟩ hP hD hS hA hK hN [0, 1, 2, 3]
                            (c_X4_isCell (l := l) (D := D) (cI := cI) (cZ := cZ) (cP := cP) (cQ := cQ) (sz := _) (so := so) (io := io) (mo := mo) (ro := ro) (C := C) (R := R) (F := F) (n := n) (b := b) (gn := gn) (L := L) (f := f) (ai := ai) (mi := mi) (ri := ri) (ig := ig) (mg := mg) (rg := rg) (col := (nI c) + (-1)) (row := nI r) (hC1 := (by first | assumption | omega)) (hC := (by first | assumption | omega)) (hR1 := (by first | assumption | omega)) (hR := (by first | assumption | omega)) (hF := (by first | assumption | omega)) (hn := (by first | assumption | omega)) (hb0 := (by first | assumption | omega)) (hw_ai := hw_ai) (hw_mi := hw_mi) (hw_ri := hw_ri)) (cwV 2 hts gX4_flowers_X4_isCell rfl rfl rfl k_X4_isCell ⟨Nat.le_of_ble_eq_true rfl, Nat.le_of_ble_eq_true rfl⟩) 0 rfl rfl rfl rfl rfl rfl hl.1 (Nat.le_of_ble_eq_true rfl) dX4_flowers_193 ⟨Nat.le_of_ble_eq_true rfl, Nat.le_of_ble_eq_true rfl⟩ (fun H locs hP hS => ?_)
                        refine lv_if_eq (tgt := 243) hx hb dX4_flowers_196 (by decide) (fun c_49 => ?_) (fun c_49 => ?_)
                        · rw [cell_lf hC hR n_r9 n_c9] at c_49
                          have hno : ¬ imp C R g 3 r c := fun z => if10 c_49 z.2.1
                          refine lv_iinc (v := 4) (lv' := [(5, .int 4), (7, .int ((nI c) + (-1))), (6, .int (nI r)), (4, .int (nI c)), (3, .int (nI r)), (2, .int (nI fl)), (1, .ref na_1), (0, .ref so)]) hx hb dX4_flowers_243 hl (k := 2) rfl (by decide) (by decide) rfl (fun ls hl => ?_)
                          refine lv_goto (tgt := 123) hx hb dX4_flowers_246 (by decide) ?_
                          exact ih_14 (f, g, fl, 4) (⟨show 3 + 1 ≤ 4 by decide, sw_no hsw hno, hw_fj, hw_ai, hw_mi, hw_ri, hfr⟩) (by simp only []; omega) H locs hP hD hS ls (lv_sub hl [0, 3, 4, 5, 6, 7] rfl)
                        · rw [cell_lf hC hR n_r9 n_c9] at c_49
                          have hv1 := if11 c_49
                          have hv : vldD C R 3 r c := hv1
                          obtain ⟨hn1, hn2⟩ := nbD_in n_r9 n_c9 (d := 3) (by decide) hv
                          have hb2 : g (nbD C 3 r c) ≤ 144 := lb_le hsw.1 hRC hn1
                          have e9_50 : ((nI c) + (-1)) = (nI (c - 1)) := m1_p c hv1
                          have hl : lv_has ls 8 [(7, .int (nI (c - 1))), (6, .int (nI r)), (5, .int 3), (4, .int (nI c)), (3, .int (nI r)), (2, .int (nI fl)), (1, .ref na_1), (0, .ref so)] := by rw [← e9_50]; exact hl
                          refine lv_aload_n hx hb dX4_flowers_199 rfl (lv_at hl 6 rfl) ?_
                          refine lv_iload hx hb dX4_flowers_200 (lv_at hl 1 rfl) ?_
                          refine g_aald (k := r) (v := fj r) hx hb hK hP 4 2 rfl rfl rfl (by omega) (by first | decide | omega) rfl dX4_flowers_202 ?_
                          refine lv_iload hx hb dX4_flowers_203 (lv_at hl 0 rfl) ?_
                          refine g_iald (r := r) (k := (c - 1)) hx hb hK hP hw_fj (by omega) rfl (by omega) (by first | decide | omega) dX4_flowers_205 ?_
                          refine lv_if_eq (tgt := 243) hx hb dX4_flowers_206 (by decide) (fun c_51 => ?_) (fun c_51 => ?_)
                          · have hno : ¬ imp C R g 3 r c := fun z => z.2.2.1 ((nI_eq (b := 0) (show g (nbD C 3 r c) < 2 ^ 31 by omega) (by omega)).mp c_51)
                            refine lv_iinc (v := 4) (lv' := [(5, .int 4), (7, .int (nI (c - 1))), (6, .int (nI r)), (4, .int (nI c)), (3, .int (nI r)), (2, .int (nI fl)), (1, .ref na_1), (0, .ref so)]) hx hb dX4_flowers_243 hl (k := 2) rfl (by decide) (by decide) rfl (fun ls hl => ?_)
                            refine lv_goto (tgt := 123) hx hb dX4_flowers_246 (by decide) ?_
                            exact ih_14 (f, g, fl, 4) (⟨show 3 + 1 ≤ 4 by decide, sw_no hsw hno, hw_fj, hw_ai, hw_mi, hw_ri, hfr⟩) (by simp only []; omega) H locs hP hD hS ls (lv_sub hl [0, 3, 4, 5, 6, 7] rfl)
                          · have h3 : g (nbD C 3 r c) ≠ 0 := fun z => c_51 (congrArg nI z)
                            refine lv_aload_n hx hb dX4_flowers_209 rfl (lv_at hl 6 rfl) ?_
                            refine lv_iload hx hb dX4_flowers_210 (lv_at hl 1 rfl) ?_
                            refine g_aald (k := r) (v := fj r) hx hb hK hP 4 2 rfl rfl rfl (by omega) (by first | decide | omega) rfl dX4_flowers_212 ?_
                            refine lv_iload hx hb dX4_flowers_213 (lv_at hl 0 rfl) ?_
                            refine g_iald (r := r) (k := (c - 1)) hx hb hK hP hw_fj (by omega) rfl (by omega) (by first | decide | omega) dX4_flowers_215 ?_
                            refine lv_aload_n hx hb dX4_flowers_216 rfl (lv_at hl 6 rfl) ?_
                            refine lv_iload_n hx hb dX4_flowers_217 rfl (lv_at hl 4 rfl) ?_
                            refine g_aald (k := r) (v := fj r) hx hb hK hP 4 2 rfl rfl rfl (by omega) (by first | decide | omega) rfl dX4_flowers_218 ?_
                            refine lv_iload hx hb dX4_flowers_219 (lv_at hl 3 rfl) ?_
                            refine g_iald (r := r) (k := c) hx hb hK hP hw_fj (by omega) rfl (by omega) (by first | decide | omega) dX4_flowers_221 ?_
                            refine lv_icmp_lt (tgt := 228) hx hb dX4_flowers_222 (by decide) (fun c_52 => ?_) (fun c_52 => ?_)
                            · have h4 : g (nbD C 3 r c) < g (r * C + c) := (nI_ltI (a := g (nbD C 3 r c)) (b := g (r * C + c)) (by omega) (by omega)).mp c_52
                              refine lv_aload_n hx hb dX4_flowers_228 rfl (lv_at hl 6 rfl) ?_
                              refine lv_iload_n hx hb dX4_flowers_229 rfl (lv_at hl 4 rfl) ?_
                              refine g_aald (k := r) (v := fj r) hx hb hK hP 4 2 rfl rfl rfl (by omega) (by first | decide | omega) rfl dX4_flowers_230 ?_
                              refine lv_iload hx hb dX4_flowers_231 (lv_at hl 3 rfl) ?_
                              refine lv_aload_n hx hb dX4_flowers_233 rfl (lv_at hl 6 rfl) ?_
                              refine lv_iload hx hb dX4_flowers_234 (lv_at hl 1 rfl) ?_
                              refine g_aald (k := r) (v := fj r) hx hb hK hP 4 2 rfl rfl rfl (by omega) (by first | decide | omega) rfl dX4_flowers_236 ?_
                              refine lv_iload hx hb dX4_flowers_237 (lv_at hl 0 rfl) ?_
                              refine g_iald (r := r) (k := (c - 1)) hx hb hK hP hw_fj (by omega) rfl (by omega) (by first | decide | omega) dX4_flowers_239 ?_
                              refine g_iast (r := r) (k := c) hx hb hK hP hD hS hw_fj hi_fj (by omega) rfl (by omega) (by first | decide | omega) dX4_flowers_240 (fun f H locs hof hw9 hP hD hS => ?_)
                              have hw_ai := hw_ai.other ap_ai_fj (by omega) hof
                              have hw_mi := hw_mi.other ap_mi_fj (by omega) hof
                              have hw_ri := hw_ri.other ap_ri_fj (by omega) hof
                              have hw_fj := hw9
                              have hfr : ∀ b9, b9 ∈ L0 → f b9 = f0 b9 := fun b1 h1 => (hof b1 (fun e9 => hna _ (show r < R by omega) (e9 ▸ h1))).trans (hfr b1 h1)
                              refine lv_iconst (v := 1) hx hb dX4_flowers_241 (by decide) ?_
                              refine lv_istore_n (lv' := [(2, .int 1), (7, .int (nI (c - 1))), (6, .int (nI r)), (5, .int 3), (4, .int (nI c)), (3, .int (nI r)), (1, .ref na_1), (0, .ref so)]) hx hb dX4_flowers_242 rfl hl (by decide) rfl (fun ls hl => ?_)
                              refine lv_iinc (v := 4) (lv' := [(5, .int 4), (2, .int 1), (7, .int (nI (c - 1))), (6, .int (nI r)), (4, .int (nI c)), (3, .int (nI r)), (1, .ref na_1), (0, .ref so)]) hx hb dX4_flowers_243 hl (k := 3) rfl (by decide) (by decide) rfl (fun ls hl => ?_)
                              refine lv_goto (tgt := 123) hx hb dX4_flowers_246 (by decide) ?_
                              exact ih_14 (f, va_up g (r * C + c) (g (nbD C 3 r c)), 1, 4) (⟨show 3 + 1 ≤ 4 by decide, sw_up hI hC0 hC hR n_r9 n_c9 (d := 3) (by decide) hsw ⟨h1, hv, h3, h4⟩, hw_fj.congr (fun r1 a1 c1 a2 => lbI_up n_r9 n_c9 a1 a2), hw_ai, hw_mi, hw_ri, hfr⟩) (by simp only []; omega) H locs hP hD hS ls (lv_sub hl [0, 4, 5, 1, 6, 7] rfl)
                            · have hno : ¬ imp C R g 3 r c := fun z => c_52 ((nI_ltI (a := g (nbD C 3 r c)) (b := g (r * C + c)) (by omega) (by omega)).mpr z.2.2.2)
                              refine lv_goto (tgt := 243) hx hb dX4_flowers_225 (by decide) ?_
                              refine lv_iinc (v := 4) (lv' := [(5, .int 4), (7, .int (nI (c - 1))), (6, .int (nI r)), (4, .int (nI c)), (3, .int (nI r)), (2, .int (nI fl)), (1, .ref na_1), (0, .ref so)]) hx hb dX4_flowers_243 hl (k := 2) rfl (by decide) (by decide) rfl (fun ls hl => ?_)
                              refine lv_goto (tgt := 123) hx hb dX4_flowers_246 (by decide) ?_
                              exact ih_14 (f, g, fl, 4) (⟨show 3 + 1 ≤ 4 by decide, sw_no hsw hno, hw_fj, hw_ai, hw_mi, hw_ri, hfr⟩) (by simp only []; omega) H locs hP hD hS ls (lv_sub hl [0, 3, 4, 5, 6, 7] rfl)
                  · exact absurd c_45 (by decide)
                · exact absurd c_44 (by decide)
              · exact absurd c_43 (by decide)
  · have n_4 : r < R := Nat.lt_of_not_le (fun h => c_4 ((nI_leI (a := R) (b := r) (by omega) (by omega)).mpr h))
    refine lv_iconst (v := 0) hx hb dX4_flowers_28 (by decide) ?_
    refine lv_istore_n (lv' := [(3, .int 0), (2, .int (nI r)), (1, .ref na_1), (0, .ref so)]) hx hb dX4_flowers_29 rfl hl (by decide) rfl (fun ls hl => ?_)
    refine f_loopW (σ := (Nat → va_E) × Nat) (D := D) (A := A) (H0 := s.heap) 8 30 (fun u9 => [(3, .int (nI (u9.2))), (2, .int (nI r)), (1, .ref na_1), (0, .ref so)]) (fun u9 => ([(so, .inr (4, [.ref io, .ref mo, .int (nI F), .int gn, .int (nI b), .ref ro])), (io, .inl (cQ, R, .inr (.inr (.inr (.inr (rq ai)))))), (mo, .inl (cP, R, .inr (.inr (.inr (.inr (rq mi)))))), (ro, .inl (cP, n, .inr (.inr (.inr (.inr (rq ri)))))), (na_1, .inl (cP, R, .inr (.inr (.inr (.inr (rq fj))))))] ++ va_pl L (u9.1))) (fun u9 => (u9.2) ≤ C ∧ Rw cI L (u9.1) R C fj (flG C ig r (u9.2)) ∧ Rw cZ L (u9.1) R C ai ig ∧ Rw cI L (u9.1) R C mi mg ∧ Rw cI L (u9.1) n 2 ri rg ∧ (∀ b9, b9 ∈ L0 → (u9.1) b9 = f0 b9)) (fun u9 => C - (u9.2))
        (fun u9 hi_54 ih_53 H locs hP hD hS ls hl => ?_) (f, 0) (⟨Nat.zero_le _, hw_fj, hw_ai, hw_mi, hw_ri, hfr⟩) hP hD hS (lv_sub hl [0, 1, 2, 3] rfl)
    obtain ⟨f, c⟩ := u9
    have hi_54 : c ≤ C ∧ Rw cI L f R C fj (flG C ig r c) ∧ Rw cZ L f R C ai ig ∧ Rw cI L f R C mi mg ∧ Rw cI L f n 2 ri rg ∧ (∀ b9, b9 ∈ L0 → f b9 = f0 b9) := hi_54
    obtain ⟨hcC, hw_fj, hw_ai, hw_mi, hw_ri, hfr⟩ := hi_54
    have hl : lv_has ls 8 [(3, .int (nI c)), (2, .int (nI r)), (1, .ref na_1), (0, .ref so)] := hl
    have hP : va_P D vwCl ([(so, .inr (4, [.ref io, .ref mo, .int (nI F), .int gn, .int (nI b), .ref ro])), (io, .inl (cQ, R, .inr (.inr (.inr (.inr (rq ai)))))), (mo, .inl (cP, R, .inr (.inr (.inr (.inr (rq mi)))))), (ro, .inl (cP, n, .inr (.inr (.inr (.inr (rq ri)))))), (na_1, .inl (cP, R, .inr (.inr (.inr (.inr (rq fj))))))] ++ va_pl L f) _ := hP
    have hD : va_D A ([(so, .inr (4, [.ref io, .ref mo, .int (nI F), .int gn, .int (nI b), .ref ro])), (io, .inl (cQ, R, .inr (.inr (.inr (.inr (rq ai)))))), (mo, .inl (cP, R, .inr (.inr (.inr (.inr (rq mi)))))), (ro, .inl (cP, n, .inr (.inr (.inr (.inr (rq ri)))))), (na_1, .inl (cP, R, .inr (.inr (.inr (.inr (rq fj))))))] ++ va_pl L f) := hD
    refine lv_iload_n hx hb dX4_flowers_30 rfl (lv_at hl 0 rfl) ?_
    refine lv_aload_n hx hb dX4_flowers_31 rfl (lv_at hl 3 rfl) ?_
    refine va_get (D := D) (ci := 4) (v := .ref io) (C := RX4) (T := TX4) (N := 6) hx hb hts wb_X4_flowers_4 hown hK hP 0 rfl rfl 0 (by decide) (hts _ wi_X4_flowers_1) (fun _ h9 => h9) rfl dX4_flowers_32 ?_
    refine lv_iconst (v := 0) hx hb dX4_flowers_35 (by decide) ?_
    refine g_aald (k := 0) (v := ai 0) hx hb hK hP 1 3 rfl rfl rfl (by omega) (by first | decide | omega) rfl dX4_flowers_36 ?_
    refine g_zlen (r := 0) hx hb hK hP hw_ai (by omega) dX4_flowers_37 ?_
    refine lv_icmp_ge (tgt := 80) hx hb dX4_flowers_38 (by decide) (fun c_55 => ?_) (fun c_55 => ?_)
    · have n_55 : C ≤ c := (nI_leI (a := C) (b := c) (by omega) (by omega)).mp c_55
      refine lv_iinc (v := nI (r + 1)) (lv' := [(2, .int (nI (r + 1))), (3, .int (nI c)), (1, .ref na_1), (0, .ref so)]) hx hb dX4_flowers_80 hl (k := 1) rfl (nI_1 _) (by decide) rfl (fun ls hl => ?_)
      refine lv_goto (tgt := 19) hx hb dX4_flowers_83 (by decide) ?_
      exact ih_2 (f, (r + 1)) (⟨by omega, hw_fj.congr (fun r1 _ c1 h1 => by rw [show c = C by omega]; exact flG_row h1), hw_ai, hw_mi, hw_ri, hfr⟩) (by first | omega | (simp only []; omega) | (show _ < _; simp only []; omega)) H locs hP hD hS ls (lv_sub hl [0, 2, 3] rfl)
    · have n_55 : c < C := Nat.lt_of_not_le (fun h => c_55 ((nI_leI (a := C) (b := c) (by omega) (by omega)).mpr h))
      refine lv_aload_n hx hb dX4_flowers_41 rfl (lv_at hl 2 rfl) ?_
      refine lv_iload_n hx hb dX4_flowers_42 rfl (lv_at hl 1 rfl) ?_
      refine g_aald (k := r) (v := fj r) hx hb hK hP 4 2 rfl rfl rfl (by omega) (by first | decide | omega) rfl dX4_flowers_43 ?_
      refine lv_iload_n hx hb dX4_flowers_44 rfl (lv_at hl 0 rfl) ?_
      refine lv_aload_n hx hb dX4_flowers_45 rfl (lv_at hl 3 rfl) ?_
      refine va_get (D := D) (ci := 4) (v := .ref io) (C := RX4) (T := TX4) (N := 6) hx hb hts wb_X4_flowers_4 hown hK hP 0 rfl rfl 0 (by decide) (hts _ wi_X4_flowers_1) (fun _ h9 => h9) rfl dX4_flowers_46 ?_
      refine lv_iload_n hx hb dX4_flowers_49 rfl (lv_at hl 1 rfl) ?_
      refine g_aald (k := r) (v := ai r) hx hb hK hP 1 3 rfl rfl rfl (by omega) (by first | decide | omega) rfl dX4_flowers_50 ?_
      refine lv_iload_n hx hb dX4_flowers_51 rfl (lv_at hl 0 rfl) ?_
      refine g_zald (r := r) (k := c) hx hb hK hP hw_ai (by omega) rfl (by omega) (by first | decide | omega) dX4_flowers_52 ?_
      refine lv_if_eq (tgt := 72) hx hb dX4_flowers_53 (by decide) (fun c_56 => ?_) (fun c_56 => ?_)
      · refine lv_iconst (v := 0) hx hb dX4_flowers_72 (by decide) ?_
        refine g_iast (r := r) (k := c) hx hb hK hP hD hS hw_fj hi_fj (by omega) rfl (by omega) (by first | decide | omega) dX4_flowers_73 (fun f H locs hof hw9 hP hD hS => ?_)
        have hw_ai := hw_ai.other ap_ai_fj (by omega) hof
        have hw_mi := hw_mi.other ap_mi_fj (by omega) hof
        have hw_ri := hw_ri.other ap_ri_fj (by omega) hof
        have hw_fj := hw9
        have hfr : ∀ b9, b9 ∈ L0 → f b9 = f0 b9 := fun b1 h1 => (hof b1 (fun e9 => hna _ (show r < R by omega) (e9 ▸ h1))).trans (hfr b1 h1)
        refine lv_iinc (v := nI (c + 1)) (lv' := [(3, .int (nI (c + 1))), (2, .int (nI r)), (1, .ref na_1), (0, .ref so)]) hx hb dX4_flowers_74 hl (k := 0) rfl (nI_1 _) (by decide) rfl (fun ls hl => ?_)
        refine lv_goto (tgt := 30) hx hb dX4_flowers_77 (by decide) ?_
        exact ih_53 (f, (c + 1)) (⟨by omega, hw_fj.congr (fun r1 _ c1 _ => flG_up (by first | exact (if_pos c_56).symm | exact (if_neg c_56).symm) r1 c1), hw_ai, hw_mi, hw_ri, hfr⟩) (by first | omega | (simp only []; omega) | (show _ < _; simp only []; omega)) H locs hP hD hS ls (lv_sub hl [0, 1, 2, 3] rfl)
      · refine lv_iconst (v := 1) hx hb dX4_flowers_56 (by decide) ?_
        refine lv_iload_n hx hb dX4_flowers_57 rfl (lv_at hl 1 rfl) ?_
        refine lv_aload_n hx hb dX4_flowers_58 rfl (lv_at hl 3 rfl) ?_
        refine va_get (D := D) (ci := 4) (v := .ref io) (C := RX4) (T := TX4) (N := 6) hx hb hts wb_X4_flowers_4 hown hK hP 0 rfl rfl 0 (by decide) (hts _ wi_X4_flowers_1) (fun _ h9 => h9) rfl dX4_flowers_59 ?_
        refine lv_iconst (v := 0) hx hb dX4_flowers_62 (by decide) ?_
        refine g_aald (k := 0) (v := ai 0) hx hb hK hP 1 3 rfl rfl rfl (by omega) (by first | decide | omega) rfl dX4_flowers_63 ?_
        refine g_zlen (r := 0) hx hb hK hP hw_ai (by omega) dX4_flowers_64 ?_
        refine lv_imul hx hb dX4_flowers_65 ?_
        refine f_topi (y := nI (r * C)) (pk_mul r C) ?_
        refine lv_iadd hx hb dX4_flowers_66 ?_
        refine f_topi (y := nI (1 + (r * C))) (nI_add 1 (r * C)) ?_
        refine lv_iload_n hx hb dX4_flowers_67 rfl (lv_at hl 0 rfl) ?_
        refine lv_iadd hx hb dX4_flowers_68 ?_
        refine f_topi (y := nI ((1 + (r * C)) + c)) (nI_add (1 + (r * C)) c) ?_
        refine lv_goto (tgt := 73) hx hb dX4_flowers_69 (by decide) ?_
        refine g_iast (r := r) (k := c) hx hb hK hP hD hS hw_fj hi_fj (by omega) rfl (by omega) (by first | decide | omega) dX4_flowers_73 (fun f H locs hof hw9 hP hD hS => ?_)
        have hw_ai := hw_ai.other ap_ai_fj (by omega) hof
        have hw_mi := hw_mi.other ap_mi_fj (by omega) hof
        have hw_ri := hw_ri.other ap_ri_fj (by omega) hof
        have hw_fj := hw9
        have hfr : ∀ b9, b9 ∈ L0 → f b9 = f0 b9 := fun b1 h1 => (hof b1 (fun e9 => hna _ (show r < R by omega) (e9 ▸ h1))).trans (hfr b1 h1)
        refine lv_iinc (v := nI (c + 1)) (lv' := [(3, .int (nI (c + 1))), (2, .int (nI r)), (1, .ref na_1), (0, .ref so)]) hx hb dX4_flowers_74 hl (k := 0) rfl (nI_1 _) (by decide) rfl (fun ls hl => ?_)
        refine lv_goto (tgt := 30) hx hb dX4_flowers_77 (by decide) ?_
        exact ih_53 (f, (c + 1)) (⟨by omega, hw_fj.congr (fun r1 _ c1 _ => flG_up (by first | exact (if_pos c_56).symm | exact (if_neg c_56).symm) r1 c1), hw_ai, hw_mi, hw_ri, hfr⟩) (by first | omega | (simp only []; omega) | (show _ < _; simp only []; omega)) H locs hP hD hS ls (lv_sub hl [0, 1, 2, 3] rfl)

end C_specs_flo
