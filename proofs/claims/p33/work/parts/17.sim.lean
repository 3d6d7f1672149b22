section C_specs_sim
/-! the law's own pane: what is around a cell, by the eight places -/
def nz (x : Int32) : Nat := if x = 0 then 0 else 1
def pz (x : Int32) : Nat := if x ≤ 0 then 0 else 1
theorem nz_0 {x : Int32} (h : x = 0) : nz x = 0 := if_pos h
theorem nz_1 {x : Int32} (h : ¬ x = 0) : nz x = 1 := if_neg h
theorem pz_0 {x : Int32} (h : x ≤ 0) : pz x = 0 := if_pos h
theorem pz_1 {x : Int32} (h : ¬ x ≤ 0) : pz x = 1 := if_neg h
def nbv (C R F : Nat) (ig : Nat → Nat → Int32) (c r i j : Nat) : Nat :=
  if i = 1 ∧ j = 1 then 0 else
  if F = 2 then nz (ig ((r + i + (R - 1)) % R) ((c + j + (C - 1)) % C)) else
  if (1 ≤ r + i ∧ r + i ≤ R) ∧ (1 ≤ c + j ∧ c + j ≤ C) then nz (ig (r + i - 1) (c + j - 1)) else F
theorem nb_step {a v : Nat} {g : Nat → Nat} {j : Nat} (h : g j = v) : (a + sm g j) + v = a + sm g (j + 1) := by rw [sm, h, Nat.add_assoc]
theorem nb_step0 {a : Nat} {g : Nat → Nat} {j : Nat} (h : g j = 0) : a + sm g j = a + sm g (j + 1) := by rw [sm, h, Nat.add_zero]
def arA (C R F : Nat) (ig : Nat → Nat → Int32) (c r : Nat) : Nat → Nat := sm (fun i => sm (fun j => nbv C R F ig c r i j) 3)
def arN (C R F : Nat) (ig : Nat → Nat → Int32) (c r : Nat) : Nat := arA C R F ig c r 3
theorem nbv_c {C R F : Nat} {ig : Nat → Nat → Int32} {c r i j : Nat} (h1 : i = 1) (h2 : j = 1) : nbv C R F ig c r i j = 0 := if_pos ⟨h1, h2⟩
theorem nbv_2 {C R F : Nat} {ig : Nat → Nat → Int32} {c r i j : Nat} (h : ¬ (i = 1 ∧ j = 1)) (h2 : F = 2) : nbv C R F ig c r i j = nz (ig ((r + i + (R - 1)) % R) ((c + j + (C - 1)) % C)) := by unfold nbv; rw [if_neg h, if_pos h2]
theorem nbv_i {C R F : Nat} {ig : Nat → Nat → Int32} {c r i j : Nat} (h : ¬ (i = 1 ∧ j = 1)) (h2 : ¬ F = 2) (h3 : (1 ≤ r + i ∧ r + i ≤ R) ∧ (1 ≤ c + j ∧ c + j ≤ C)) : nbv C R F ig c r i j = nz (ig (r + i - 1) (c + j - 1)) := by unfold nbv; rw [if_neg h, if_neg h2, if_pos h3]
theorem nbv_o {C R F : Nat} {ig : Nat → Nat → Int32} {c r i j : Nat} (h : ¬ (i = 1 ∧ j = 1)) (h2 : ¬ F = 2) (h3 : ¬ ((1 ≤ r + i ∧ r + i ≤ R) ∧ (1 ≤ c + j ∧ c + j ≤ C))) : nbv C R F ig c r i j = F := by unfold nbv; rw [if_neg h, if_neg h2, if_neg h3]
theorem nz_le (x : Int32) : nz x ≤ 1 := by unfold nz; split <;> omega
theorem nbv_le {C R F : Nat} {ig : Nat → Nat → Int32} {c r i j : Nat} (hF : F ≤ 2) : nbv C R F ig c r i j ≤ 1 := by
  unfold nbv
  split
  · omega
  · split
    · exact nz_le _
    · split
      · exact nz_le _
      · omega
theorem arN_le {C R F : Nat} {ig : Nat → Nat → Int32} {c r : Nat} (hF : F ≤ 2) : arN C R F ig c r ≤ 8 := by
  have h := fun i j => nbv_le (C := C) (R := R) (ig := ig) (c := c) (r := r) (i := i) (j := j) hF
  have h1 : nbv C R F ig c r 1 1 = 0 := nbv_c rfl rfl
  unfold arN arA
  simp only [sm]
  have := h 0 0; have := h 0 1; have := h 0 2; have := h 1 0; have := h 1 2; have := h 2 0; have := h 2 1; have := h 2 2
  omega
theorem arA_le {C R F : Nat} {ig : Nat → Nat → Int32} {c r : Nat} (hF : F ≤ 2) {i : Nat} (hi : i ≤ 3) : arA C R F ig c r i ≤ 8 := by
  refine Nat.le_trans ?_ (arN_le (C := C) (R := R) (ig := ig) (c := c) (r := r) hF)
  unfold arN arA
  have : ∀ k, i ≤ k → sm (fun i => sm (fun j => nbv C R F ig c r i j) 3) i ≤ sm (fun i => sm (fun j => nbv C R F ig c r i j) 3) k := by
    intro k
    induction k with
    | zero => intro h; rw [show i = 0 by omega]; exact Nat.le_refl _
    | succ k ih =>
      intro h
      by_cases e : i = k + 1
      · rw [e]; exact Nat.le_refl _
      · have := ih (by omega); rw [sm]; omega
  exact this 3 hi
theorem arS_le {C R F : Nat} {ig : Nat → Nat → Int32} {c r i : Nat} (hF : F ≤ 2) {j : Nat} (hj : j ≤ 3) : sm (fun j => nbv C R F ig c r i j) j ≤ 3 := by
  have := sm_le (f := fun j => nbv C R F ig c r i j) (g := fun _ => 1) (n := j) (fun _ _ => nbv_le hF)
  rw [sm_const] at this; omega
/-! small ints about -1 -/
theorem m1_s (i : Nat) : (nI i - 1) + 1 = nI (i + 1) - 1 := by rw [nI_pred, Int32.sub_add_cancel]
theorem m1_t : ∀ i, i < 4 → ((2 : Int32) ≤ nI i - 1 ↔ i = 3) := by decide
theorem m1_z : ∀ i, i < 4 → (nI i - 1 = 0 ↔ i = 1) := by decide
theorem m1_a (x i R : Nat) (h : 1 ≤ R) : (nI x + (nI i - 1)) + nI R = nI (x + i + (R - 1)) := by
  rw [← nI_add, ← nI_add, ← sub1 h, Int32.sub_eq_add_neg, Int32.sub_eq_add_neg, Int32.add_assoc, Int32.add_assoc, Int32.add_assoc, Int32.add_comm (-1) (nI R)]
theorem m1_m (x i : Nat) (h : 1 ≤ x + i) : nI x + (nI i - 1) = nI (x + i - 1) := by
  rw [← sub1 h, ← nI_add, Int32.sub_eq_add_neg, Int32.sub_eq_add_neg, Int32.add_assoc]
theorem m1_neg (x i : Nat) (h : x + i = 0) : nI x + (nI i - 1) = -1 := by
  rw [show x = 0 by omega, show i = 0 by omega]; decide
theorem k_X4_isCell : yX4_isCell.cls = RX4 ∧ yX4_isCell.cls ≠ "java/lang/invoke/MethodHandle" ∧ yX4_isCell.cls ≠ "java/lang/invoke/VarHandle" ∧ (parseMethodDescriptor yX4_isCell.desc).map (fun d => d.parameters.length) = some 2 := by decide +kernel
/-- X4_isCell: read off its bytecode -/
def sp_X4_isCell (C : Nat) (R : Nat) (col : Int32) (row : Int32) : Int32 := if row < 0 then 0 else (if (nI R) ≤ row then 0 else (if col < 0 then 0 else (if (nI C) ≤ col then 0 else 1)))
theorem wb_X4_isCell_4 : ∀ w ∈ wsX40, w ∈ wsX4_isCell := (fun _ h => List.mem_cons_of_mem _ (List.mem_append_right _ h))
theorem wi_X4_isCell_1 : (Cond.fieldLink RX4 9 "FrostPaneLaw$Sim" "ice" "[[Z") ∈ wsX4_isCell := List.mem_of_getElem? (i := 1) rfl
set_option maxHeartbeats 4000000 in
set_option maxRecDepth 100000 in
theorem c_X4_isCell (l : Launch) (D : va_G) (cI cZ cP cQ : ClassId) (sz : Nat) (so io mo ro C R F n b : Nat) (gn : Int32) (L : List Nat) (f : Nat → va_E) (ai mi ri : Nat → Nat) (ig mg rg : Nat → Nat → Int32) (col row : Int32) (hC1 : 3 ≤ C) (hC : C ≤ 12) (hR1 : 3 ≤ R) (hR : R ≤ 12) (hF : F ≤ 2) (hn : n ≤ 6) (hb0 : b < n) (hw_ai : Rw cZ L f R C ai ig) (hw_mi : Rw cI L f R C mi mg) (hw_ri : Rw cI L f n 2 ri rg) : f_Mi l yX4_isCell wsX4_isCell ({ frames := 0, cells := 0, slots := 0, locals := 0 }) D (fTY cI cZ cP cQ) [.ref so, .int col, .int row] sz (([(so, .inr (4, [.ref io, .ref mo, .int (nI F), .int gn, .int (nI b), .ref ro])), (io, .inl (cQ, R, .inr (.inr (.inr (.inr (rq ai)))))), (mo, .inl (cP, R, .inr (.inr (.inr (.inr (rq mi)))))), (ro, .inl (cP, n, .inr (.inr (.inr (.inr (rq ri))))))] ++ va_pl L f)) (sp_X4_isCell C R col row) (([(so, .inr (4, [.ref io, .ref mo, .int (nI F), .int gn, .int (nI b), .ref ro])), (io, .inl (cQ, R, .inr (.inr (.inr (.inr (rq ai)))))), (mo, .inl (cP, R, .inr (.inr (.inr (.inr (rq mi)))))), (ro, .inl (cP, n, .inr (.inr (.inr (.inr (rq ri))))))] ++ va_pl L f)) := by
  refine f_ent_i (by decide) rfl (Nat.le_of_ble_eq_true rfl) ?_
  intro pg ev s m below meth cd hx hb hr hts hown hlocks hml hnm hsz hP hK hN A hD hA hS ls hl
  have hown : s.vm.findClass RX4 = some m.cls := hown
  have hl : lv_has ls 3 [(0, .ref so), (1, .int col), (2, .int row)] := hl
  refine lv_iload_n hx hb dX4_isCell_0 rfl (lv_at hl 2 rfl) ?_
  refine lv_if_lt (tgt := 32) hx hb dX4_isCell_1 (by decide) (fun c_1 => ?_) (fun c_1 => ?_)
  · refine lv_iconst (v := 0) hx hb dX4_isCell_32 (by decide) ?_
    exact f_ret_z hx hb hr hlocks hP hD hS dX4_isCell_33 (by rw [sp_X4_isCell, if_pos c_1]) (by unfold sp_X4_isCell; first | rfl | (repeat (first | rfl | split)))
  · refine lv_iload_n hx hb dX4_isCell_4 rfl (lv_at hl 2 rfl) ?_
    refine lv_aload_n hx hb dX4_isCell_5 rfl (lv_at hl 0 rfl) ?_
    refine va_get (D := D) (ci := 4) (v := .ref io) (C := RX4) (T := TX4) (N := 6) hx hb hts wb_X4_isCell_4 hown hK hP 0 rfl rfl 0 (by decide) (hts _ wi_X4_isCell_1) (fun _ h9 => h9) rfl dX4_isCell_6 ?_
    refine va_alen (v := nI R) hx hb hK hP 1 3 rfl rfl rfl dX4_isCell_9 ?_
    refine lv_icmp_ge (tgt := 32) hx hb dX4_isCell_10 (by decide) (fun c_2 => ?_) (fun c_2 => ?_)
    · refine lv_iconst (v := 0) hx hb dX4_isCell_32 (by decide) ?_
      exact f_ret_z hx hb hr hlocks hP hD hS dX4_isCell_33 (by rw [sp_X4_isCell, if_neg c_1, if_pos c_2]) (by unfold sp_X4_isCell; first | rfl | (repeat (first | rfl | split)))
    · refine lv_iload_n hx hb dX4_isCell_13 rfl (lv_at hl 1 rfl) ?_
      refine lv_if_lt (tgt := 32) hx hb dX4_isCell_14 (by decide) (fun c_3 => ?_) (fun c_3 => ?_)
      · refine lv_iconst (v := 0) hx hb dX4_isCell_32 (by decide) ?_
        exact f_ret_z hx hb hr hlocks hP hD hS dX4_isCell_33 (by rw [sp_X4_isCell, if_neg c_1, if_neg c_2, if_pos c_3]) (by unfold sp_X4_isCell; first | rfl | (repeat (first | rfl | split)))
      · refine lv_iload_n hx hb dX4_isCell_17 rfl (lv_at hl 1 rfl) ?_
        refine lv_aload_n hx hb dX4_isCell_18 rfl (lv_at hl 0 rfl) ?_
        refine va_get (D := D) (ci := 4) (v := .ref io) (C := RX4) (T := TX4) (N := 6) hx hb hts wb_X4_isCell_4 hown hK hP 0 rfl rfl 0 (by decide) (hts _ wi_X4_isCell_1) (fun _ h9 => h9) rfl dX4_isCell_19 ?_
        refine lv_iconst (v := 0) hx hb dX4_isCell_22 (by decide) ?_
        refine g_aald (k := 0) (v := ai 0) hx hb hK hP 1 3 rfl rfl rfl (by omega) (by first | decide | omega) rfl dX4_isCell_23 ?_
        refine g_zlen (r := 0) hx hb hK hP hw_ai (by omega) dX4_isCell_24 ?_
        refine lv_icmp_ge (tgt := 32) hx hb dX4_isCell_25 (by decide) (fun c_4 => ?_) (fun c_4 => ?_)
        · refine lv_iconst (v := 0) hx hb dX4_isCell_32 (by decide) ?_
          exact f_ret_z hx hb hr hlocks hP hD hS dX4_isCell_33 (by rw [sp_X4_isCell, if_neg c_1, if_neg c_2, if_neg c_3, if_pos c_4]) (by unfold sp_X4_isCell; first | rfl | (repeat (first | rfl | split)))
        · refine lv_iconst (v := 1) hx hb dX4_isCell_28 (by decide) ?_
          refine lv_goto (tgt := 33) hx hb dX4_isCell_29 (by decide) ?_
          exact f_ret_z hx hb hr hlocks hP hD hS dX4_isCell_33 (by rw [sp_X4_isCell, if_neg c_1, if_neg c_2, if_neg c_3, if_neg c_4]) (by unfold sp_X4_isCell; first | rfl | (repeat (first | rfl | split)))

theorem isCell_in {C R : Nat} {x y : Nat} (hC : C ≤ 12) (hR : R ≤ 12) (hx : x < C) (hy : y < R) : sp_X4_isCell C R (nI x) (nI y) = 1 := by
  unfold sp_X4_isCell
  rw [if_neg (nI_pos (by omega)), if_neg (nI_ge hy (by omega)), if_neg (nI_pos (by omega)), if_neg (nI_ge hx (by omega))]
theorem isCell_m {C R : Nat} (hC : C ≤ 12) (hR : R ≤ 12) {r i c j : Nat} (hr : r < R) (hc : c < C) (hi : i ≤ 2) (hj : j ≤ 2) : sp_X4_isCell C R (nI c + (nI j - 1)) (nI r + (nI i - 1)) = if (1 ≤ r + i ∧ r + i ≤ R) ∧ (1 ≤ c + j ∧ c + j ≤ C) then 1 else 0 := by
  by_cases h1 : 1 ≤ r + i
  · rw [m1_m r i h1]
    by_cases h2 : r + i ≤ R
    · by_cases h3 : 1 ≤ c + j
      · rw [m1_m c j h3]
        by_cases h4 : c + j ≤ C
        · rw [if_pos ⟨⟨h1, h2⟩, h3, h4⟩, isCell_in hC hR (by omega) (by omega)]
        · rw [if_neg (fun z => h4 z.2.2)]
          unfold sp_X4_isCell
          rw [if_neg (nI_pos (by omega)), if_neg (nI_ge (by omega) (by omega)), if_neg (nI_pos (by omega)), if_pos (nI_le (by omega) (by omega))]
      · rw [if_neg (fun z => h3 z.2.1), m1_neg c j (by omega)]
        unfold sp_X4_isCell
        rw [if_neg (nI_pos (by omega)), if_neg (nI_ge (by omega) (by omega)), if_pos (by decide)]
    · rw [if_neg (fun z => h2 z.1.2)]
      unfold sp_X4_isCell
      rw [if_neg (nI_pos (by omega)), if_pos (nI_le (by omega) (by omega))]
  · rw [if_neg (fun z => h1 z.1.1), m1_neg r i (by omega)]
    unfold sp_X4_isCell
    rw [if_pos (by decide)]
theorem k_X4_around : yX4_around.cls = RX4 ∧ yX4_around.cls ≠ "java/lang/invoke/MethodHandle" ∧ yX4_around.cls ≠ "java/lang/invoke/VarHandle" ∧ (parseMethodDescriptor yX4_around.desc).map (fun d => d.parameters.length) = some 2 := by decide +kernel
theorem wb_X4_around_4 : ∀ w ∈ wsX40, w ∈ wsX4_around := (fun _ h => List.mem_cons_of_mem _ (List.mem_append_right _ h))
theorem wi_X4_around_1 : (Cond.fieldLink RX4 36 "FrostPaneLaw$Sim" "frame" "I") ∈ wsX4_around := List.mem_of_getElem? (i := 1) rfl
theorem wi_X4_around_2 : (Cond.fieldLink RX4 9 "FrostPaneLaw$Sim" "ice" "[[Z") ∈ wsX4_around := List.mem_of_getElem? (i := 2) rfl
set_option maxHeartbeats 4000000 in
set_option maxRecDepth 100000 in
theorem c_X4_around (l : Launch) (D : va_G) (cI cZ cP cQ : ClassId) (sz : Nat) (so io mo ro C R F n b : Nat) (gn : Int32) (L : List Nat) (f : Nat → va_E) (ai mi ri : Nat → Nat) (ig mg rg : Nat → Nat → Int32) (c r : Nat) (hC1 : 3 ≤ C) (hC : C ≤ 12) (hR1 : 3 ≤ R) (hR : R ≤ 12) (hF : F ≤ 2) (hn : n ≤ 6) (hb0 : b < n) (hw_ai : Rw cZ L f R C ai ig) (hw_mi : Rw cI L f R C mi mg) (hw_ri : Rw cI L f n 2 ri rg) (hc : c < C) (hr0 : r < R) : f_Mi l yX4_around wsX4_around ({ frames := 1, cells := 0, slots := 0, locals := 22 }) D (fTY cI cZ cP cQ) [.ref so, .int (nI c), .int (nI r)] sz (([(so, .inr (4, [.ref io, .ref mo, .int (nI F), .int gn, .int (nI b), .ref ro])), (io, .inl (cQ, R, .inr (.inr (.inr (.inr (rq ai)))))), (mo, .inl (cP, R, .inr (.inr (.inr (.inr (rq mi)))))), (ro, .inl (cP, n, .inr (.inr (.inr (.inr (rq ri))))))] ++ va_pl L f)) (nI (arN C R F ig c r)) (([(so, .inr (4, [.ref io, .ref mo, .int (nI F), .int gn, .int (nI b), .ref ro])), (io, .inl (cQ, R, .inr (.inr (.inr (.inr (rq ai)))))), (mo, .inl (cP, R, .inr (.inr (.inr (.inr (rq mi)))))), (ro, .inl (cP, n, .inr (.inr (.inr (.inr (rq ri))))))] ++ va_pl L f)) := by
  refine f_ent_i (by decide) rfl (Nat.le_of_ble_eq_true rfl) ?_
  intro pg ev s m below meth cd hx hb hr hts hown hlocks hml hnm hsz hP hK hN A hD hA hS ls hl
  have hown : s.vm.findClass RX4 = some m.cls := hown
  have hl : lv_has ls 8 [(0, .ref so), (1, .int (nI c)), (2, .int (nI r))] := hl
  refine lv_iconst (v := 0) hx hb dX4_around_0 (by decide) ?_
  refine f_topi (y := nI (arA C R F ig c r 0)) (rfl) ?_
  refine lv_istore_n (lv' := [(3, .int (nI (arA C R F ig c r 0))), (0, .ref so), (1, .int (nI c)), (2, .int (nI r))]) hx hb dX4_around_1 rfl hl (by decide) rfl (fun ls hl => ?_)
  refine lv_iconst (v := (-1)) hx hb dX4_around_2 (by decide) ?_
  refine f_topi (y := nI 0 - 1) (by decide) ?_
  refine lv_istore (lv' := [(4, .int (nI 0 - 1)), (3, .int (nI (arA C R F ig c r 0))), (0, .ref so), (1, .int (nI c)), (2, .int (nI r))]) hx hb dX4_around_3 hl (by decide) rfl (fun ls hl => ?_)
  refine f_loopW (σ := Nat) (D := D) (A := A) (H0 := s.heap) 8 5 (fun u9 => [(4, .int (nI u9 - 1)), (3, .int (nI (arA C R F ig c r u9))), (0, .ref so), (1, .int (nI c)), (2, .int (nI r))]) (fun u9 => ([(so, .inr (4, [.ref io, .ref mo, .int (nI F), .int gn, .int (nI b), .ref ro])), (io, .inl (cQ, R, .inr (.inr (.inr (.inr (rq ai)))))), (mo, .inl (cP, R, .inr (.inr (.inr (.inr (rq mi)))))), (ro, .inl (cP, n, .inr (.inr (.inr (.inr (rq ri))))))] ++ va_pl L f)) (fun u9 => u9 ≤ 3) (fun u9 => 3 - u9)
      (fun u9 hi_2 ih_1 H locs hP hD hS ls hl => ?_) 0 (by omega) hP hD hS (lv_sub hl [0, 1, 2, 3, 4] rfl)
  obtain ⟨i, rfl⟩ : ∃ z, z = u9 := ⟨_, rfl⟩
  have hi_2 : i ≤ 3 := hi_2
  have hl : lv_has ls 8 [(4, .int (nI i - 1)), (3, .int (nI (arA C R F ig c r i))), (0, .ref so), (1, .int (nI c)), (2, .int (nI r))] := hl
  have hP : va_P D vwCl ([(so, .inr (4, [.ref io, .ref mo, .int (nI F), .int gn, .int (nI b), .ref ro])), (io, .inl (cQ, R, .inr (.inr (.inr (.inr (rq ai)))))), (mo, .inl (cP, R, .inr (.inr (.inr (.inr (rq mi)))))), (ro, .inl (cP, n, .inr (.inr (.inr (.inr (rq ri))))))] ++ va_pl L f) _ := hP
  have hD : va_D A ([(so, .inr (4, [.ref io, .ref mo, .int (nI F), .int gn, .int (nI b), .ref ro])), (io, .inl (cQ, R, .inr (.inr (.inr (.inr (rq ai)))))), (mo, .inl (cP, R, .inr (.inr (.inr (.inr (rq mi)))))), (ro, .inl (cP, n, .inr (.inr (.inr (.inr (rq ri))))))] ++ va_pl L f) := hD
  refine lv_iload hx hb dX4_around_5 (lv_at hl 0 rfl) ?_
  refine lv_iconst (v := 2) hx hb dX4_around_7 (by decide) ?_
  refine lv_icmp_ge (tgt := 140) hx hb dX4_around_8 (by decide) (fun c_3 => ?_) (fun c_3 => ?_)
  · have h3 : i = 3 := (m1_t i (by omega)).mp c_3
    have e9_4 : (nI (arA C R F ig c r i)) = (nI (arN C R F ig c r)) := by rw [h3]; rfl
    have hl : lv_has ls 8 [(4, .int (nI i - 1)), (3, .int (nI (arN C R F ig c r))), (0, .ref so), (1, .int (nI c)), (2, .int (nI r))] := by rw [← e9_4]; exact hl
    refine lv_iload_n hx hb dX4_around_140 rfl (lv_at hl 1 rfl) ?_
    exact f_ret_i hx hb hr hlocks hP hD hS dX4_around_141 (rfl)
  · have h3 : i < 3 := by have := mt (m1_t i (by omega)).mpr c_3; omega
    refine lv_iconst (v := (-1)) hx hb dX4_around_11 (by decide) ?_
    refine f_topi (y := nI 0 - 1) (by decide) ?_
    refine lv_istore (lv' := [(5, .int (nI 0 - 1)), (4, .int (nI i - 1)), (3, .int (nI (arA C R F ig c r i))), (0, .ref so), (1, .int (nI c)), (2, .int (nI r))]) hx hb dX4_around_12 hl (by decide) rfl (fun ls hl => ?_)
    refine f_loopW (σ := Nat) (D := D) (A := A) (H0 := s.heap) 8 14 (fun u9 => [(5, .int (nI u9 - 1)), (4, .int (nI i - 1)), (3, .int (nI (arA C R F ig c r i + sm (nbv C R F ig c r i) u9))), (0, .ref so), (1, .int (nI c)), (2, .int (nI r))]) (fun u9 => ([(so, .inr (4, [.ref io, .ref mo, .int (nI F), .int gn, .int (nI b), .ref ro])), (io, .inl (cQ, R, .inr (.inr (.inr (.inr (rq ai)))))), (mo, .inl (cP, R, .inr (.inr (.inr (.inr (rq mi)))))), (ro, .inl (cP, n, .inr (.inr (.inr (.inr (rq ri))))))] ++ va_pl L f)) (fun u9 => u9 ≤ 3) (fun u9 => 3 - u9)
        (fun u9 hi_6 ih_5 H locs hP hD hS ls hl => ?_) 0 (by omega) hP hD hS (lv_sub hl [0, 1, 2, 3, 4, 5] rfl)
    obtain ⟨j, rfl⟩ : ∃ z, z = u9 := ⟨_, rfl⟩
    have hi_6 : j ≤ 3 := hi_6
    have hl : lv_has ls 8 [(5, .int (nI j - 1)), (4, .int (nI i - 1)), (3, .int (nI (arA C R F ig c r i + sm (nbv C R F ig c r i) j))), (0, .ref so), (1, .int (nI c)), (2, .int (nI r))] := hl
    have hP : va_P D vwCl ([(so, .inr (4, [.ref io, .ref mo, .int (nI F), .int gn, .int (nI b), .ref ro])), (io, .inl (cQ, R, .inr (.inr (.inr (.inr (rq ai)))))), (mo, .inl (cP, R, .inr (.inr (.inr (.inr (rq mi)))))), (ro, .inl (cP, n, .inr (.inr (.inr (.inr (rq ri))))))] ++ va_pl L f) _ := hP
    have hD : va_D A ([(so, .inr (4, [.ref io, .ref mo, .int (nI F), .int gn, .int (nI b), .ref ro])), (io, .inl (cQ, R, .inr (.inr (.inr (.inr (rq ai)))))), (mo, .inl (cP, R, .inr (.inr (.inr (.inr (rq mi)))))), (ro, .inl (cP, n, .inr (.inr (.inr (.inr (rq ri))))))] ++ va_pl L f) := hD
    refine lv_iload hx hb dX4_around_14 (lv_at hl 0 rfl) ?_
    refine lv_iconst (v := 2) hx hb dX4_around_16 (by decide) ?_
    refine lv_icmp_ge (tgt := 134) hx hb dX4_around_17 (by decide) (fun c_7 => ?_) (fun c_7 => ?_)
    · have hj3 : j = 3 := (m1_t j (by omega)).mp c_7
      have e9_8 : (nI (arA C R F ig c r i + sm (nbv C R F ig c r i) j)) = (nI (arA C R F ig c r (i + 1))) := by rw [hj3]; rfl
      have hl : lv_has ls 8 [(5, .int (nI j - 1)), (4, .int (nI i - 1)), (3, .int (nI (arA C R F ig c r (i + 1)))), (0, .ref so), (1, .int (nI c)), (2, .int (nI r))] := by rw [← e9_8]; exact hl
      refine lv_iinc (v := (nI i - 1) + 1) (lv' := [(4, .int ((nI i - 1) + 1)), (5, .int (nI j - 1)), (3, .int (nI (arA C R F ig c r (i + 1)))), (0, .ref so), (1, .int (nI c)), (2, .int (nI r))]) hx hb dX4_around_134 hl (k := 1) rfl (rfl) (by decide) rfl (fun ls hl => ?_)
      have e9_9 : ((nI i - 1) + 1) = (nI (i + 1) - 1) := m1_s i
      have hl : lv_has ls 8 [(4, .int (nI (i + 1) - 1)), (5, .int (nI j - 1)), (3, .int (nI (arA C R F ig c r (i + 1)))), (0, .ref so), (1, .int (nI c)), (2, .int (nI r))] := by rw [← e9_9]; exact hl
      refine lv_goto (tgt := 5) hx hb dX4_around_137 (by decide) ?_
      exact ih_1 (i + 1) (by omega) (by first | omega | (simp only []; omega) | (show _ < _; simp only []; omega)) H locs hP hD hS ls (lv_sub hl [0, 2, 3, 4, 5] rfl)
    · have hj3 : j < 3 := by have := mt (m1_t j (by omega)).mpr c_7; omega
      refine lv_iload hx hb dX4_around_20 (lv_at hl 1 rfl) ?_
      refine lv_if_ne (tgt := 33) hx hb dX4_around_22 (by decide) (fun c_10 => ?_) (fun c_10 => ?_)
      · have hcen : ¬ (i = 1 ∧ j = 1) := fun z => c_10 ((m1_z i (by omega)).mpr z.1)
        refine lv_iload_n hx hb dX4_around_33 rfl (lv_at hl 5 rfl) ?_
        refine lv_iload hx hb dX4_around_34 (lv_at hl 1 rfl) ?_
        refine lv_iadd hx hb dX4_around_36 ?_
        refine lv_istore (lv' := [(6, .int ((nI r) + (nI i - 1))), (5, .int (nI j - 1)), (4, .int (nI i - 1)), (3, .int (nI (arA C R F ig c r i + sm (nbv C R F ig c r i) j))), (0, .ref so), (1, .int (nI c)), (2, .int (nI r))]) hx hb dX4_around_37 hl (by decide) rfl (fun ls hl => ?_)
        refine lv_iload_n hx hb dX4_around_39 rfl (lv_at hl 5 rfl) ?_
        refine lv_iload hx hb dX4_around_40 (lv_at hl 1 rfl) ?_
        refine lv_iadd hx hb dX4_around_42 ?_
        refine lv_istore (lv' := [(7, .int ((nI c) + (nI j - 1))), (6, .int ((nI r) + (nI i - 1))), (5, .int (nI j - 1)), (4, .int (nI i - 1)), (3, .int (nI (arA C R F ig c r i + sm (nbv C R F ig c r i) j))), (0, .ref so), (1, .int (nI c)), (2, .int (nI r))]) hx hb dX4_around_43 hl (by decide) rfl (fun ls hl => ?_)
        refine lv_aload_n hx hb dX4_around_45 rfl (lv_at hl 5 rfl) ?_
        refine va_get (D := D) (ci := 4) (v := .int (nI F)) (C := RX4) (T := TX4) (N := 6) hx hb hts wb_X4_around_4 hown hK hP 0 rfl rfl 2 (by decide) (hts _ wi_X4_around_1) (fun _ h9 => h9) rfl dX4_around_46 ?_
        refine lv_iconst (v := 2) hx hb dX4_around_49 (by decide) ?_
        refine lv_icmp_ne (tgt := 89) hx hb dX4_around_50 (by decide) (fun c_11 => ?_) (fun c_11 => ?_)
        · have n_11 : ¬ F = 2 := fun h => c_11 ((nI_eq (a := F) (b := 2) (by omega) (by omega)).mpr h)
          refine lv_iload_n hx hb dX4_around_89 rfl (lv_at hl 4 rfl) ?_
          refine lv_aload_n hx hb dX4_around_90 rfl (lv_at hl 5 rfl) ?_
          refine lv_iload hx hb dX4_around_91 (lv_at hl 0 rfl) ?_
          refine lv_iload hx hb dX4_around_93 (lv_at hl 1 rfl) ?_
          refine g_roVi ⟨hx, hb, hml, hown, hts⟩ hP hD hS hA hK hN [0, 1, 2, 3]
              (c_X4_isCell (l := l) (D := D) (cI := cI) (cZ := cZ) (cP := cP) (cQ := cQ) (sz := _) (so := so) (io := io) (mo := mo) (ro := ro) (C := C) (R := R) (F := F) (n := n) (b := b) (gn := gn) (L := L) (f := f) (ai := ai) (mi := mi) (ri := ri) (ig := ig) (mg := mg) (rg := rg) (col := (nI c) + (nI j - 1)) (row := (nI r) + (nI i - 1)) (hC1 := (by first | assumption | omega)) (hC := (by first | assumption | omega)) (hR1 := (by first | assumption | omega)) (hR := (by first | assumption | omega)) (hF := (by first | assumption | omega)) (hn := (by first | assumption | omega)) (hb0 := (by first | assumption | omega)) (hw_ai := hw_ai) (hw_mi := hw_mi) (hw_ri := hw_ri)) (cwV 2 hts gX4_around_X4_isCell rfl rfl rfl k_X4_isCell ⟨Nat.le_of_ble_eq_true rfl, Nat.le_of_ble_eq_true rfl⟩) 0 rfl rfl rfl rfl rfl rfl hl.1 (Nat.le_of_ble_eq_true rfl) dX4_around_95 ⟨Nat.le_of_ble_eq_true rfl, Nat.le_of_ble_eq_true rfl⟩ (fun H locs hP hS => ?_)
          refine lv_if_eq (tgt := 122) hx hb dX4_around_98 (by decide) (fun c_12 => ?_) (fun c_12 => ?_)
          · rw [isCell_m hC hR hr0 hc (by omega) (by omega)] at c_12
            have hin : ¬ ((1 ≤ r + i ∧ r + i ≤ R) ∧ (1 ≤ c + j ∧ c + j ≤ C)) := fun z => by rw [if_pos z] at c_12; exact absurd c_12 (by decide)
            refine lv_aload_n hx hb dX4_around_122 rfl (lv_at hl 5 rfl) ?_
            refine va_get (D := D) (ci := 4) (v := .int (nI F)) (C := RX4) (T := TX4) (N := 6) hx hb hts wb_X4_around_4 hown hK hP 0 rfl rfl 2 (by decide) (hts _ wi_X4_around_1) (fun _ h9 => h9) rfl dX4_around_123 ?_
            refine lv_iadd hx hb dX4_around_126 ?_
            refine f_topi (y := nI ((arA C R F ig c r i + sm (nbv C R F ig c r i) j) + F)) (nI_add (arA C R F ig c r i + sm (nbv C R F ig c r i) j) F) ?_
            refine lv_istore_n (lv' := [(3, .int (nI ((arA C R F ig c r i + sm (nbv C R F ig c r i) j) + F))), (7, .int ((nI c) + (nI j - 1))), (6, .int ((nI r) + (nI i - 1))), (5, .int (nI j - 1)), (4, .int (nI i - 1)), (0, .ref so), (1, .int (nI c)), (2, .int (nI r))]) hx hb dX4_around_127 rfl hl (by decide) rfl (fun ls hl => ?_)
            have e9_13 : (nI ((arA C R F ig c r i + sm (nbv C R F ig c r i) j) + F)) = (nI (arA C R F ig c r i + sm (nbv C R F ig c r i) (j + 1))) := congrArg nI (by first | exact nb_step0 (nbv_c (by assumption) (by assumption)) | exact nb_step ((nbv_2 hcen (by assumption)).trans (nz_0 (by assumption))) | exact nb_step ((nbv_2 hcen (by assumption)).trans (nz_1 (by assumption))) | exact nb_step ((nbv_i hcen (by assumption) hin).trans (nz_0 (by assumption))) | exact nb_step ((nbv_i hcen (by assumption) hin).trans (nz_1 (by assumption))) | exact nb_step (nbv_o hcen (by assumption) hin))
            have hl : lv_has ls 8 [(3, .int (nI (arA C R F ig c r i + sm (nbv C R F ig c r i) (j + 1)))), (7, .int ((nI c) + (nI j - 1))), (6, .int ((nI r) + (nI i - 1))), (5, .int (nI j - 1)), (4, .int (nI i - 1)), (0, .ref so), (1, .int (nI c)), (2, .int (nI r))] := by rw [← e9_13]; exact hl
            refine lv_iinc (v := (nI j - 1) + 1) (lv' := [(5, .int ((nI j - 1) + 1)), (3, .int (nI (arA C R F ig c r i + sm (nbv C R F ig c r i) (j + 1)))), (7, .int ((nI c) + (nI j - 1))), (6, .int ((nI r) + (nI i - 1))), (4, .int (nI i - 1)), (0, .ref so), (1, .int (nI c)), (2, .int (nI r))]) hx hb dX4_around_128 hl (k := 3) rfl (rfl) (by decide) rfl (fun ls hl => ?_)
            have e9_14 : ((nI j - 1) + 1) = (nI (j + 1) - 1) := m1_s j
            have hl : lv_has ls 8 [(5, .int (nI (j + 1) - 1)), (3, .int (nI (arA C R F ig c r i + sm (nbv C R F ig c r i) (j + 1)))), (7, .int ((nI c) + (nI j - 1))), (6, .int ((nI r) + (nI i - 1))), (4, .int (nI i - 1)), (0, .ref so), (1, .int (nI c)), (2, .int (nI r))] := by rw [← e9_14]; exact hl
            refine lv_goto (tgt := 14) hx hb dX4_around_131 (by decide) ?_
            exact ih_5 (j + 1) (by omega) (by first | omega | (simp only []; omega) | (show _ < _; simp only []; omega)) H locs hP hD hS ls (lv_sub hl [0, 4, 1, 5, 6, 7] rfl)
          · rw [isCell_m hC hR hr0 hc (by omega) (by omega)] at c_12
            have hin : (1 ≤ r + i ∧ r + i ≤ R) ∧ (1 ≤ c + j ∧ c + j ≤ C) := Classical.byContradiction fun z => c_12 (if_neg z)
            have e9_15 : ((nI r) + (nI i - 1)) = (nI (r + i - 1)) := m1_m r i hin.1.1
            have hl : lv_has ls 8 [(7, .int ((nI c) + (nI j - 1))), (6, .int (nI (r + i - 1))), (5, .int (nI j - 1)), (4, .int (nI i - 1)), (3, .int (nI (arA C R F ig c r i + sm (nbv C R F ig c r i) j))), (0, .ref so), (1, .int (nI c)), (2, .int (nI r))] := by rw [← e9_15]; exact hl
            have e9_16 : ((nI c) + (nI j - 1)) = (nI (c + j - 1)) := m1_m c j hin.2.1
            have hl : lv_has ls 8 [(7, .int (nI (c + j - 1))), (6, .int (nI (r + i - 1))), (5, .int (nI j - 1)), (4, .int (nI i - 1)), (3, .int (nI (arA C R F ig c r i + sm (nbv C R F ig c r i) j))), (0, .ref so), (1, .int (nI c)), (2, .int (nI r))] := by rw [← e9_16]; exact hl
            refine lv_aload_n hx hb dX4_around_101 rfl (lv_at hl 5 rfl) ?_
            refine va_get (D := D) (ci := 4) (v := .ref io) (C := RX4) (T := TX4) (N := 6) hx hb hts wb_X4_around_4 hown hK hP 0 rfl rfl 0 (by decide) (hts _ wi_X4_around_2) (fun _ h9 => h9) rfl dX4_around_102 ?_
            refine lv_iload hx hb dX4_around_105 (lv_at hl 1 rfl) ?_
            refine g_aald (k := (r + i - 1)) (v := ai (r + i - 1)) hx hb hK hP 1 3 rfl rfl rfl (by omega) (by first | decide | omega) rfl dX4_around_107 ?_
            refine lv_iload hx hb dX4_around_108 (lv_at hl 0 rfl) ?_
            refine g_zald (r := (r + i - 1)) (k := (c + j - 1)) hx hb hK hP hw_ai (by omega) rfl (by omega) (by first | decide | omega) dX4_around_110 ?_
            refine lv_if_eq (tgt := 118) hx hb dX4_around_111 (by decide) (fun c_17 => ?_) (fun c_17 => ?_)
            · refine lv_iconst (v := 0) hx hb dX4_around_118 (by decide) ?_
              refine lv_goto (tgt := 126) hx hb dX4_around_119 (by decide) ?_
              refine lv_iadd hx hb dX4_around_126 ?_
              refine f_topi (y := nI ((arA C R F ig c r i + sm (nbv C R F ig c r i) j) + 0)) (nI_add (arA C R F ig c r i + sm (nbv C R F ig c r i) j) 0) ?_
              refine lv_istore_n (lv' := [(3, .int (nI ((arA C R F ig c r i + sm (nbv C R F ig c r i) j) + 0))), (7, .int (nI (c + j - 1))), (6, .int (nI (r + i - 1))), (5, .int (nI j - 1)), (4, .int (nI i - 1)), (0, .ref so), (1, .int (nI c)), (2, .int (nI r))]) hx hb dX4_around_127 rfl hl (by decide) rfl (fun ls hl => ?_)
              have e9_18 : (nI ((arA C R F ig c r i + sm (nbv C R F ig c r i) j) + 0)) = (nI (arA C R F ig c r i + sm (nbv C R F ig c r i) (j + 1))) := congrArg nI (by first | exact nb_step0 (nbv_c (by assumption) (by assumption)) | exact nb_step ((nbv_2 hcen (by assumption)).trans (nz_0 (by assumption))) | exact nb_step ((nbv_2 hcen (by assumption)).trans (nz_1 (by assumption))) | exact nb_step ((nbv_i hcen (by assumption) hin).trans (nz_0 (by assumption))) | exact nb_step ((nbv_i hcen (by assumption) hin).trans (nz_1 (by assumption))) | exact nb_step (nbv_o hcen (by assumption) hin))
              have hl : lv_has ls 8 [(3, .int (nI (arA C R F ig c r i + sm (nbv C R F ig c r i) (j + 1)))), (7, .int (nI (c + j - 1))), (6, .int (nI (r + i - 1))), (5, .int (nI j - 1)), (4, .int (nI i - 1)), (0, .ref so), (1, .int (nI c)), (2, .int (nI r))] := by rw [← e9_18]; exact hl
              refine lv_iinc (v := (nI j - 1) + 1) (lv' := [(5, .int ((nI j - 1) + 1)), (3, .int (nI (arA C R F ig c r i + sm (nbv C R F ig c r i) (j + 1)))), (7, .int (nI (c + j - 1))), (6, .int (nI (r + i - 1))), (4, .int (nI i - 1)), (0, .ref so), (1, .int (nI c)), (2, .int (nI r))]) hx hb dX4_around_128 hl (k := 3) rfl (rfl) (by decide) rfl (fun ls hl => ?_)
              have e9_19 : ((nI j - 1) + 1) = (nI (j + 1) - 1) := m1_s j
              have hl : lv_has ls 8 [(5, .int (nI (j + 1) - 1)), (3, .int (nI (arA C R F ig c r i + sm (nbv C R F ig c r i) (j + 1)))), (7, .int (nI (c + j - 1))), (6, .int (nI (r + i - 1))), (4, .int (nI i - 1)), (0, .ref so), (1, .int (nI c)), (2, .int (nI r))] := by rw [← e9_19]; exact hl
              refine lv_goto (tgt := 14) hx hb dX4_around_131 (by decide) ?_
              exact ih_5 (j + 1) (by omega) (by first | omega | (simp only []; omega) | (show _ < _; simp only []; omega)) H locs hP hD hS ls (lv_sub hl [0, 4, 1, 5, 6, 7] rfl)
            · refine lv_iconst (v := 1) hx hb dX4_around_114 (by decide) ?_
              refine lv_goto (tgt := 126) hx hb dX4_around_115 (by decide) ?_
              refine lv_iadd hx hb dX4_around_126 ?_
              refine f_topi (y := nI ((arA C R F ig c r i + sm (nbv C R F ig c r i) j) + 1)) (nI_add (arA C R F ig c r i + sm (nbv C R F ig c r i) j) 1) ?_
              refine lv_istore_n (lv' := [(3, .int (nI ((arA C R F ig c r i + sm (nbv C R F ig c r i) j) + 1))), (7, .int (nI (c + j - 1))), (6, .int (nI (r + i - 1))), (5, .int (nI j - 1)), (4, .int (nI i - 1)), (0, .ref so), (1, .int (nI c)), (2, .int (nI r))]) hx hb dX4_around_127 rfl hl (by decide) rfl (fun ls hl => ?_)
              have e9_20 : (nI ((arA C R F ig c r i + sm (nbv C R F ig c r i) j) + 1)) = (nI (arA C R F ig c r i + sm (nbv C R F ig c r i) (j + 1))) := congrArg nI (by first | exact nb_step0 (nbv_c (by assumption) (by assumption)) | exact nb_step ((nbv_2 hcen (by assumption)).trans (nz_0 (by assumption))) | exact nb_step ((nbv_2 hcen (by assumption)).trans (nz_1 (by assumption))) | exact nb_step ((nbv_i hcen (by assumption) hin).trans (nz_0 (by assumption))) | exact nb_step ((nbv_i hcen (by assumption) hin).trans (nz_1 (by assumption))) | exact nb_step (nbv_o hcen (by assumption) hin))
              have hl : lv_has ls 8 [(3, .int (nI (arA C R F ig c r i + sm (nbv C R F ig c r i) (j + 1)))), (7, .int (nI (c + j - 1))), (6, .int (nI (r + i - 1))), (5, .int (nI j - 1)), (4, .int (nI i - 1)), (0, .ref so), (1, .int (nI c)), (2, .int (nI r))] := by rw [← e9_20]; exact hl
              refine lv_iinc (v := (nI j - 1) + 1) (lv' := [(5, .int ((nI j - 1) + 1)), (3, .int (nI (arA C R F ig c r i + sm (nbv C R F ig c r i) (j + 1)))), (7, .int (nI (c + j - 1))), (6, .int (nI (r + i - 1))), (4, .int (nI i - 1)), (0, .ref so), (1, .int (nI c)), (2, .int (nI r))]) hx hb dX4_around_128 hl (k := 3) rfl (rfl) (by decide) rfl (fun ls hl => ?_)
              have e9_21 : ((nI j - 1) + 1) = (nI (j + 1) - 1) := m1_s j
              have hl : lv_has ls 8 [(5, .int (nI (j + 1) - 1)), (3, .int (nI (arA C R F ig c r i + sm (nbv C R F ig c r i) (j + 1)))), (7, .int (nI (c + j - 1))), (6, .int (nI (r + i - 1))), (4, .int (nI i - 1)), (0, .ref so), (1, .int (nI c)), (2, .int (nI r))] := by rw [← e9_21]; exact hl
              refine lv_goto (tgt := 14) hx hb dX4_around_131 (by decide) ?_
              exact ih_5 (j + 1) (by omega) (by first | omega | (simp only []; omega) | (show _ < _; simp only []; omega)) H locs hP hD hS ls (lv_sub hl [0, 4, 1, 5, 6, 7] rfl)
        · have n_11 : F = 2 := (nI_eq (a := F) (b := 2) (by omega) (by omega)).mp c_11
          refine lv_iload hx hb dX4_around_53 (lv_at hl 1 rfl) ?_
          refine lv_aload_n hx hb dX4_around_55 rfl (lv_at hl 5 rfl) ?_
          refine va_get (D := D) (ci := 4) (v := .ref io) (C := RX4) (T := TX4) (N := 6) hx hb hts wb_X4_around_4 hown hK hP 0 rfl rfl 0 (by decide) (hts _ wi_X4_around_2) (fun _ h9 => h9) rfl dX4_around_56 ?_
          refine va_alen (v := nI R) hx hb hK hP 1 3 rfl rfl rfl dX4_around_59 ?_
          refine lv_iadd hx hb dX4_around_60 ?_
          refine f_topi (y := nI (r + i + (R - 1))) (m1_a r i R (by omega)) ?_
          refine lv_aload_n hx hb dX4_around_61 rfl (lv_at hl 5 rfl) ?_
          refine va_get (D := D) (ci := 4) (v := .ref io) (C := RX4) (T := TX4) (N := 6) hx hb hts wb_X4_around_4 hown hK hP 0 rfl rfl 0 (by decide) (hts _ wi_X4_around_2) (fun _ h9 => h9) rfl dX4_around_62 ?_
          refine va_alen (v := nI R) hx hb hK hP 1 3 rfl rfl rfl dX4_around_65 ?_
          refine lv_irem hx hb dX4_around_66 (by rw [show (0 : Int32) = nI 0 from rfl]; exact fun z => by have := (nI_eq (by omega) (by omega)).mp z; omega) ?_
          refine f_topi (y := nI ((r + i + (R - 1)) % R)) (pk_rem (by omega) (by omega) (by omega)) ?_
          refine lv_istore (lv' := [(6, .int (nI ((r + i + (R - 1)) % R))), (7, .int ((nI c) + (nI j - 1))), (5, .int (nI j - 1)), (4, .int (nI i - 1)), (3, .int (nI (arA C R F ig c r i + sm (nbv C R F ig c r i) j))), (0, .ref so), (1, .int (nI c)), (2, .int (nI r))]) hx hb dX4_around_67 hl (by decide) rfl (fun ls hl => ?_)
          refine lv_iload hx hb dX4_around_69 (lv_at hl 1 rfl) ?_
          refine lv_aload_n hx hb dX4_around_71 rfl (lv_at hl 5 rfl) ?_
          refine va_get (D := D) (ci := 4) (v := .ref io) (C := RX4) (T := TX4) (N := 6) hx hb hts wb_X4_around_4 hown hK hP 0 rfl rfl 0 (by decide) (hts _ wi_X4_around_2) (fun _ h9 => h9) rfl dX4_around_72 ?_
          refine lv_iconst (v := 0) hx hb dX4_around_75 (by decide) ?_
          refine g_aald (k := 0) (v := ai 0) hx hb hK hP 1 3 rfl rfl rfl (by omega) (by first | decide | omega) rfl dX4_around_76 ?_
          refine g_zlen (r := 0) hx hb hK hP hw_ai (by omega) dX4_around_77 ?_
          refine lv_iadd hx hb dX4_around_78 ?_
          refine f_topi (y := nI (c + j + (C - 1))) (m1_a c j C (by omega)) ?_
          refine lv_aload_n hx hb dX4_around_79 rfl (lv_at hl 5 rfl) ?_
          refine va_get (D := D) (ci := 4) (v := .ref io) (C := RX4) (T := TX4) (N := 6) hx hb hts wb_X4_around_4 hown hK hP 0 rfl rfl 0 (by decide) (hts _ wi_X4_around_2) (fun _ h9 => h9) rfl dX4_around_80 ?_
          refine lv_iconst (v := 0) hx hb dX4_around_83 (by decide) ?_
          refine g_aald (k := 0) (v := ai 0) hx hb hK hP 1 3 rfl rfl rfl (by omega) (by first | decide | omega) rfl dX4_around_84 ?_
          refine g_zlen (r := 0) hx hb hK hP hw_ai (by omega) dX4_around_85 ?_
          refine lv_irem hx hb dX4_around_86 (by rw [show (0 : Int32) = nI 0 from rfl]; exact fun z => by have := (nI_eq (by omega) (by omega)).mp z; omega) ?_
          refine f_topi (y := nI ((c + j + (C - 1)) % C)) (pk_rem (by omega) (by omega) (by omega)) ?_
          refine lv_istore (lv' := [(7, .int (nI ((c + j + (C - 1)) % C))), (6, .int (nI ((r + i + (R - 1)) % R))), (5, .int (nI j - 1)), (4, .int (nI i - 1)), (3, .int (nI (arA C R F ig c r i + sm (nbv C R F ig c r i) j))), (0, .ref so), (1, .int (nI c)), (2, .int (nI r))]) hx hb dX4_around_87 hl (by decide) rfl (fun ls hl => ?_)
          refine lv_iload_n hx hb dX4_around_89 rfl (lv_at hl 4 rfl) ?_
          refine lv_aload_n hx hb dX4_around_90 rfl (lv_at hl 5 rfl) ?_
          refine lv_iload hx hb dX4_around_91 (lv_at hl 0 rfl) ?_
          refine lv_iload hx hb dX4_around_93 (lv_at hl 1 rfl) ?_
          refine g_roVi ⟨hx, hb, hml, hown, hts⟩ hP hD hS hA hK hN [0, 1, 2, 3]
              (c_X4_isCell (l := l) (D := D) (cI := cI) (cZ := cZ) (cP := cP) (cQ := cQ) (sz := _) (so := so) (io := io) (mo := mo) (ro := ro) (C := C) (R := R) (F := F) (n := n) (b := b) (gn := gn) (L := L) (f := f) (ai := ai) (mi := mi) (ri := ri) (ig := ig) (mg := mg) (rg := rg) (col := nI ((c + j + (C - 1)) % C)) (row := nI ((r + i + (R - 1)) % R)) (hC1 := (by first | assumption | omega)) (hC := (by first | assumption | omega)) (hR1 := (by first | assumption | omega)) (hR := (by first | assumption | omega)) (hF := (by first | assumption | omega)) (hn := (by first | assumption | omega)) (hb0 := (by first | assumption | omega)) (hw_ai := hw_ai) (hw_mi := hw_mi) (hw_ri := hw_ri)) (cwV 2 hts gX4_around_X4_isCell rfl rfl rfl k_X4_isCell ⟨Nat.le_of_ble_eq_true rfl, Nat.le_of_ble_eq_true rfl⟩) 0 rfl rfl rfl rfl rfl rfl hl.1 (Nat.le_of_ble_eq_true rfl) dX4_around_95 ⟨Nat.le_of_ble_eq_true rfl, Nat.le_of_ble_eq_true rfl⟩ (fun H locs hP hS => ?_)
          refine lv_if_eq (tgt := 122) hx hb dX4_around_98 (by decide) (fun c_22 => ?_) (fun c_22 => ?_)
          · rw [isCell_in hC hR (Nat.mod_lt _ (by omega)) (Nat.mod_lt _ (by omega))] at c_22; exact absurd c_22 (by decide)
          · refine lv_aload_n hx hb dX4_around_101 rfl (lv_at hl 5 rfl) ?_
            refine va_get (D := D) (ci := 4) (v := .ref io) (C := RX4) (T := TX4) (N := 6) hx hb hts wb_X4_around_4 hown hK hP 0 rfl rfl 0 (by decide) (hts _ wi_X4_around_2) (fun _ h9 => h9) rfl dX4_around_102 ?_
            refine lv_iload hx hb dX4_around_105 (lv_at hl 1 rfl) ?_
            refine g_aald (k := ((r + i + (R - 1)) % R)) (v := ai ((r + i + (R - 1)) % R)) hx hb hK hP 1 3 rfl rfl rfl (Nat.mod_lt _ (by omega)) (by first | decide | omega) rfl dX4_around_107 ?_
            refine lv_iload hx hb dX4_around_108 (lv_at hl 0 rfl) ?_
            refine g_zald (r := ((r + i + (R - 1)) % R)) (k := ((c + j + (C - 1)) % C)) hx hb hK hP hw_ai (Nat.mod_lt _ (by omega)) rfl (Nat.mod_lt _ (by omega)) (by first | decide | omega) dX4_around_110 ?_
            refine lv_if_eq (tgt := 118) hx hb dX4_around_111 (by decide) (fun c_23 => ?_) (fun c_23 => ?_)
            · refine lv_iconst (v := 0) hx hb dX4_around_118 (by decide) ?_
              refine lv_goto (tgt := 126) hx hb dX4_around_119 (by decide) ?_
              refine lv_iadd hx hb dX4_around_126 ?_
              refine f_topi (y := nI ((arA C R F ig c r i + sm (nbv C R F ig c r i) j) + 0)) (nI_add (arA C R F ig c r i + sm (nbv C R F ig c r i) j) 0) ?_
              refine lv_istore_n (lv' := [(3, .int (nI ((arA C R F ig c r i + sm (nbv C R F ig c r i) j) + 0))), (7, .int (nI ((c + j + (C - 1)) % C))), (6, .int (nI ((r + i + (R - 1)) % R))), (5, .int (nI j - 1)), (4, .int (nI i - 1)), (0, .ref so), (1, .int (nI c)), (2, .int (nI r))]) hx hb dX4_around_127 rfl hl (by decide) rfl (fun ls hl => ?_)
              have e9_24 : (nI ((arA C R F ig c r i + sm (nbv C R F ig c r i) j) + 0)) = (nI (arA C R F ig c r i + sm (nbv C R F ig c r i) (j + 1))) := congrArg nI (by first | exact nb_step0 (nbv_c (by assumption) (by assumption)) | exact nb_step ((nbv_2 hcen (by assumption)).trans (nz_0 (by assumption))) | exact nb_step ((nbv_2 hcen (by assumption)).trans (nz_1 (by assumption))) | exact nb_step ((nbv_i hcen (by assumption) hin).trans (nz_0 (by assumption))) | exact nb_step ((nbv_i hcen (by assumption) hin).trans (nz_1 (by assumption))) | exact nb_step (nbv_o hcen (by assumption) hin))
              have hl : lv_has ls 8 [(3, .int (nI (arA C R F ig c r i + sm (nbv C R F ig c r i) (j + 1)))), (7, .int (nI ((c + j + (C - 1)) % C))), (6, .int (nI ((r + i + (R - 1)) % R))), (5, .int (nI j - 1)), (4, .int (nI i - 1)), (0, .ref so), (1, .int (nI c)), (2, .int (nI r))] := by rw [← e9_24]; exact hl
              refine lv_iinc (v := (nI j - 1) + 1) (lv' := [(5, .int ((nI j - 1) + 1)), (3, .int (nI (arA C R F ig c r i + sm (nbv C R F ig c r i) (j + 1)))), (7, .int (nI ((c + j + (C - 1)) % C))), (6, .int (nI ((r + i + (R - 1)) % R))), (4, .int (nI i - 1)), (0, .ref so), (1, .int (nI c)), (2, .int (nI r))]) hx hb dX4_around_128 hl (k := 3) rfl (rfl) (by decide) rfl (fun ls hl => ?_)
              have e9_25 : ((nI j - 1) + 1) = (nI (j + 1) - 1) := m1_s j
              have hl : lv_has ls 8 [(5, .int (nI (j + 1) - 1)), (3, .int (nI (arA C R F ig c r i + sm (nbv C R F ig c r i) (j + 1)))), (7, .int (nI ((c + j + (C - 1)) % C))), (6, .int (nI ((r + i + (R - 1)) % R))), (4, .int (nI i - 1)), (0, .ref so), (1, .int (nI c)), (2, .int (nI r))] := by rw [← e9_25]; exact hl
              refine lv_goto (tgt := 14) hx hb dX4_around_131 (by decide) ?_
              exact ih_5 (j + 1) (by omega) (by first | omega | (simp only []; omega) | (show _ < _; simp only []; omega)) H locs hP hD hS ls (lv_sub hl [0, 4, 1, 5, 6, 7] rfl)
            · refine lv_iconst (v := 1) hx hb dX4_around_114 (by decide) ?_
              refine lv_goto (tgt := 126) hx hb dX4_around_115 (by decide) ?_
              refine lv_iadd hx hb dX4_around_126 ?_
              refine f_topi (y := nI ((arA C R F ig c r i + sm (nbv C R F ig c r i) j) + 1)) (nI_add (arA C R F ig c r i + sm (nbv C R F ig c r i) j) 1) ?_
              refine lv_istore_n (lv' := [(3, .int (nI ((arA C R F ig c r i + sm (nbv C R F ig c r i) j) + 1))), (7, .int (nI ((c + j + (C - 1)) % C))), (6, .int (nI ((r + i + (R - 1)) % R))), (5, .int (nI j - 1)), (4, .int (nI i - 1)), (0, .ref so), (1, .int (nI c)), (2, .int (nI r))]) hx hb dX4_around_127 rfl hl (by decide) rfl (fun ls hl => ?_)
              have e9_26 : (nI ((arA C R F ig c r i + sm (nbv C R F ig c r i) j) + 1)) = (nI (arA C R F ig c r i + sm (nbv C R F ig c r i) (j + 1))) := congrArg nI (by first | exact nb_step0 (nbv_c (by assumption) (by assumption)) | exact nb_step ((nbv_2 hcen (by assumption)).trans (nz_0 (by assumption))) | exact nb_step ((nbv_2 hcen (by assumption)).trans (nz_1 (by assumption))) | exact nb_step ((nbv_i hcen (by assumption) hin).trans (nz_0 (by assumption))) | exact nb_step ((nbv_i hcen (by assumption) hin).trans (nz_1 (by assumption))) | exact nb_step (nbv_o hcen (by assumption) hin))
              have hl : lv_has ls 8 [(3, .int (nI (arA C R F ig c r i + sm (nbv C R F ig c r i) (j + 1)))), (7, .int (nI ((c + j + (C - 1)) % C))), (6, .int (nI ((r + i + (R - 1)) % R))), (5, .int (nI j - 1)), (4, .int (nI i - 1)), (0, .ref so), (1, .int (nI c)), (2, .int (nI r))] := by rw [← e9_26]; exact hl
              refine lv_iinc (v := (nI j - 1) + 1) (lv' := [(5, .int ((nI j - 1) + 1)), (3, .int (nI (arA C R F ig c r i + sm (nbv C R F ig c r i) (j + 1)))), (7, .int (nI ((c + j + (C - 1)) % C))), (6, .int (nI ((r + i + (R - 1)) % R))), (4, .int (nI i - 1)), (0, .ref so), (1, .int (nI c)), (2, .int (nI r))]) hx hb dX4_around_128 hl (k := 3) rfl (rfl) (by decide) rfl (fun ls hl => ?_)
              have e9_27 : ((nI j - 1) + 1) = (nI (j + 1) - 1) := m1_s j
              have hl : lv_has ls 8 [(5, .int (nI (j + 1) - 1)), (3, .int (nI (arA C R F ig c r i + sm (nbv C R F ig c r i) (j + 1)))), (7, .int (nI ((c + j + (C - 1)) % C))), (6, .int (nI ((r + i + (R - 1)) % R))), (4, .int (nI i - 1)), (0, .ref so), (1, .int (nI c)), (2, .int (nI r))] := by rw [← e9_27]; exact hl
              refine lv_goto (tgt := 14) hx hb dX4_around_131 (by decide) ?_
              exact ih_5 (j + 1) (by omega) (by first | omega | (simp only []; omega) | (show _ < _; simp only []; omega)) H locs hP hD hS ls (lv_sub hl [0, 4, 1, 5, 6, 7] rfl)
      · have hi1 : i = 1 := (m1_z i (by omega)).mp c_10
        refine lv_iload hx hb dX4_around_25 (lv_at hl 0 rfl) ?_
        refine lv_if_ne (tgt := 33) hx hb dX4_around_27 (by decide) (fun c_28 => ?_) (fun c_28 => ?_)
        · have hcen : ¬ (i = 1 ∧ j = 1) := fun z => c_28 ((m1_z j (by omega)).mpr z.2)
          refine lv_iload_n hx hb dX4_around_33 rfl (lv_at hl 5 rfl) ?_
          refine lv_iload hx hb dX4_around_34 (lv_at hl 1 rfl) ?_
          refine lv_iadd hx hb dX4_around_36 ?_
          refine lv_istore (lv' := [(6, .int ((nI r) + (nI i - 1))), (5, .int (nI j - 1)), (4, .int (nI i - 1)), (3, .int (nI (arA C R F ig c r i + sm (nbv C R F ig c r i) j))), (0, .ref so), (1, .int (nI c)), (2, .int (nI r))]) hx hb dX4_around_37 hl (by decide) rfl (fun ls hl => ?_)
          refine lv_iload_n hx hb dX4_around_39 rfl (lv_at hl 5 rfl) ?_
          refine lv_iload hx hb dX4_around_40 (lv_at hl 1 rfl) ?_
          refine lv_iadd hx hb dX4_around_42 ?_
          refine lv_istore (lv' := [(7, .int ((nI c) + (nI j - 1))), (6, .int ((nI r) + (nI i - 1))), (5, .int (nI j - 1)), (4, .int (nI i - 1)), (3, .int (nI (arA C R F ig c r i + sm (nbv C R F ig c r i) j))), (0, .ref so), (1, .int (nI c)), (2, .int (nI r))]) hx hb dX4_around_43 hl (by decide) rfl (fun ls hl => ?_)
          refine lv_aload_n hx hb dX4_around_45 rfl (lv_at hl 5 rfl) ?_
          refine va_get (D := D) (ci := 4) (v := .int (nI F)) (C := RX4) (T := TX4) (N := 6) hx hb hts wb_X4_around_4 hown hK hP 0 rfl rfl 2 (by decide) (hts _ wi_X4_around_1) (fun _ h9 => h9) rfl dX4_around_46 ?_
          refine lv_iconst (v := 2) hx hb dX4_around_49 (by decide) ?_
          refine lv_icmp_ne (tgt := 89) hx hb dX4_around_50 (by decide) (fun c_29 => ?_) (fun c_29 => ?_)
          · have n_29 : ¬ F = 2 := fun h => c_29 ((nI_eq (a := F) (b := 2) (by omega) (by omega)).mpr h)
            refine lv_iload_n hx hb dX4_around_89 rfl (lv_at hl 4 rfl) ?_
            refine lv_aload_n hx hb dX4_around_90 rfl (lv_at hl 5 rfl) ?_
            refine lv_iload hx hb dX4_around_91 (lv_at hl 0 rfl) ?_
            refine lv_iload hx hb dX4_around_93 (lv_at hl 1 rfl) ?_
            refine g_roVi ⟨hx, hb, hml, hown, hts⟩ hP hD hS hA hK hN [0, 1, 2, 3]
                (c_X4_isCell (l := l) (D := D) (cI := cI) (cZ := cZ) (cP := cP) (cQ := cQ) (sz := _) (so := so) (io := io) (mo := mo) (ro := ro) (C := C) (R := R) (F := F) (n := n) (b := b) (gn := gn) (L := L) (f := f) (ai := ai) (mi := mi) (ri := ri) (ig := ig) (mg := mg) (rg := rg) (col := (nI c) + (nI j - 1)) (row := (nI r) + (nI i - 1)) (hC1 := (by first | assumption | omega)) (hC := (by first | assumption | omega)) (hR1 := (by first | assumption | omega)) (hR := (by first | assumption | omega)) (hF := (by first | assumption | omega)) (hn := (by first | assumption | omega)) (hb0 := (by first | assumption | omega)) (hw_ai := hw_ai) (hw_mi := hw_mi) (hw_ri := hw_ri)) (cwV 2 hts gX4_around_X4_isCell rfl rfl rfl k_X4_isCell ⟨Nat.le_of_ble_eq_true rfl, Nat.le_of_ble_eq_true rfl⟩) 0 rfl rfl rfl rfl rfl rfl hl.1 (Nat.le_of_ble_eq_true rfl) dX4_around_95 ⟨Nat.le_of_ble_eq_true rfl, Nat.le_of_ble_eq_true rfl⟩ (fun H locs hP hS => ?_)
            refine lv_if_eq (tgt := 122) hx hb dX4_around_98 (by decide) (fun c_30 => ?_) (fun c_30 => ?_)
            · rw [isCell_m hC hR hr0 hc (by omega) (by omega)] at c_30
              have hin : ¬ ((1 ≤ r + i ∧ r + i ≤ R) ∧ (1 ≤ c + j ∧ c + j ≤ C)) := fun z => by rw [if_pos z] at c_30; exact absurd c_30 (by decide)
              refine lv_aload_n hx hb dX4_around_122 rfl (lv_at hl 5 rfl) ?_
              refine va_get (D := D) (ci := 4) (v := .int (nI F)) (C := RX4) (T := TX4) (N := 6) hx hb hts wb_X4_around_4 hown hK hP 0 rfl rfl 2 (by decide) (hts _ wi_X4_around_1) (fun _ h9 => h9) rfl dX4_around_123 ?_
              refine lv_iadd hx hb dX4_around_126 ?_
              refine f_topi (y := nI ((arA C R F ig c r i + sm (nbv C R F ig c r i) j) + F)) (nI_add (arA C R F ig c r i + sm (nbv C R F ig c r i) j) F) ?_
              refine lv_istore_n (lv' := [(3, .int (nI ((arA C R F ig c r i + sm (nbv C R F ig c r i) j) + F))), (7, .int ((nI c) + (nI j - 1))), (6, .int ((nI r) + (nI i - 1))), (5, .int (nI j - 1)), (4, .int (nI i - 1)), (0, .ref so), (1, .int (nI c)), (2, .int (nI r))]) hx hb dX4_around_127 rfl hl (by decide) rfl (fun ls hl => ?_)
              have e9_31 : (nI ((arA C R F ig c r i + sm (nbv C R F ig c r i) j) + F)) = (nI (arA C R F ig c r i + sm (nbv C R F ig c r i) (j + 1))) := congrArg nI (by first | exact nb_step0 (nbv_c (by assumption) (by assumption)) | exact nb_step ((nbv_2 hcen (by assumption)).trans (nz_0 (by assumption))) | exact nb_step ((nbv_2 hcen (by assumption)).trans (nz_1 (by assumption))) | exact nb_step ((nbv_i hcen (by assumption) hin).trans (nz_0 (by assumption))) | exact nb_step ((nbv_i hcen (by assumption) hin).trans (nz_1 (by assumption))) | exact nb_step (nbv_o hcen (by assumption) hin))
              have hl : lv_has ls 8 [(3, .int (nI (arA C R F ig c r i + sm (nbv C R F ig c r i) (j + 1)))), (7, .int ((nI c) + (nI j - 1))), (6, .int ((nI r) + (nI i - 1))), (5, .int (nI j - 1)), (4, .int (nI i - 1)), (0, .ref so), (1, .int (nI c)), (2, .int (nI r))] := by rw [← e9_31]; exact hl
              refine lv_iinc (v := (nI j - 1) + 1) (lv' := [(5, .int ((nI j - 1) + 1)), (3, .int (nI (arA C R F ig c r i + sm (nbv C R F ig c r i) (j + 1)))), (7, .int ((nI c) + (nI j - 1))), (6, .int ((nI r) + (nI i - 1))), (4, .int (nI i - 1)), (0, .ref so), (1, .int (nI c)), (2, .int (nI r))]) hx hb dX4_around_128 hl (k := 3) rfl (rfl) (by decide) rfl (fun ls hl => ?_)
              have e9_32 : ((nI j - 1) + 1) = (nI (j + 1) - 1) := m1_s j
              have hl : lv_has ls 8 [(5, .int (nI (j + 1) - 1)), (3, .int (nI (arA C R F ig c r i + sm (nbv C R F ig c r i) (j + 1)))), (7, .int ((nI c) + (nI j - 1))), (6, .int ((nI r) + (nI i - 1))), (4, .int (nI i - 1)), (0, .ref so), (1, .int (nI c)), (2, .int (nI r))] := by rw [← e9_32]; exact hl
              refine lv_goto (tgt := 14) hx hb dX4_around_131 (by decide) ?_
              exact ih_5 (j + 1) (by omega) (by first | omega | (simp only []; omega) | (show _ < _; simp only []; omega)) H locs hP hD hS ls (lv_sub hl [0, 4, 1, 5, 6, 7] rfl)
            · rw [isCell_m hC hR hr0 hc (by omega) (by omega)] at c_30
              have hin : (1 ≤ r + i ∧ r + i ≤ R) ∧ (1 ≤ c + j ∧ c + j ≤ C) := Classical.byContradiction fun z => c_30 (if_neg z)
              have e9_33 : ((nI r) + (nI i - 1)) = (nI (r + i - 1)) := m1_m r i hin.1.1
              have hl : lv_has ls 8 [(7, .int ((nI c) + (nI j - 1))), (6, .int (nI (r + i - 1))), (5, .int (nI j - 1)), (4, .int (nI i - 1)), (3, .int (nI (arA C R F ig c r i + sm (nbv C R F ig c r i) j))), (0, .ref so), (1, .int (nI c)), (2, .int (nI r))] := by rw [← e9_33]; exact hl
              have e9_34 : ((nI c) + (nI j - 1)) = (nI (c + j - 1)) := m1_m c j hin.2.1
              have hl : lv_has ls 8 [(7, .int (nI (c + j - 1))), (6, .int (nI (r + i - 1))), (5, .int (nI j - 1)), (4, .int (nI i - 1)), (3, .int (nI (arA C R F ig c r i + sm (nbv C R F ig c r i) j))), (0, .ref so), (1, .int (nI c)), (2, .int (nI r))] := by rw [← e9_34]; exact hl
              refine lv_aload_n hx hb dX4_around_101 rfl (lv_at hl 5 rfl) ?_
              refine va_get (D := D) (ci := 4) (v := .ref io) (C := RX4) (T := TX4) (N := 6) hx hb hts wb_X4_around_4 hown hK hP 0 rfl rfl 0 (by decide) (hts _ wi_X4_around_2) (fun _ h9 => h9) rfl dX4_around_102 ?_
              refine lv_iload hx hb dX4_around_105 (lv_at hl 1 rfl) ?_
              refine g_aald (k := (r + i - 1)) (v := ai (r + i - 1)) hx hb hK hP 1 3 rfl rfl rfl (by omega) (by first | decide | omega) rfl dX4_around_107 ?_
              refine lv_iload hx hb dX4_around_108 (lv_at hl 0 rfl) ?_
              refine g_zald (r := (r + i - 1)) (k := (c + j - 1)) hx hb hK hP hw_ai (by omega) rfl (by omega) (by first | decide | omega) dX4_around_110 ?_
              refine lv_if_eq (tgt := 118) hx hb dX4_around_111 (by decide) (fun c_35 => ?_) (fun c_35 => ?_)
              · refine lv_iconst (v := 0) hx hb dX4_around_118 (by decide) ?_
                refine lv_goto (tgt := 126) hx hb dX4_around_119 (by decide) ?_
                refine lv_iadd hx hb dX4_around_126 ?_
                refine f_topi (y := nI ((arA C R F ig c r i + sm (nbv C R F ig c r i) j) + 0)) (nI_add (arA C R F ig c r i + sm (nbv C R F ig c r i) j) 0) ?_
                refine lv_istore_n (lv' := [(3, .int (nI ((arA C R F ig c r i + sm (nbv C R F ig c r i) j) + 0))), (7, .int (nI (c + j - 1))), (6, .int (nI (r + i - 1))), (5, .int (nI j - 1)), (4, .int (nI i - 1)), (0, .ref so), (1, .int (nI c)), (2, .int (nI r))]) hx hb dX4_around_127 rfl hl (by decide) rfl (fun ls hl => ?_)
                have e9_36 : (nI ((arA C R F ig c r i + sm (nbv C R F ig c r i) j) + 0)) = (nI (arA C R F ig c r i + sm (nbv C R F ig c r i) (j + 1))) := congrArg nI (by first | exact nb_step0 (nbv_c (by assumption) (by assumption)) | exact nb_step ((nbv_2 hcen (by assumption)).trans (nz_0 (by assumption))) | exact nb_step ((nbv_2 hcen (by assumption)).trans (nz_1 (by assumption))) | exact nb_step ((nbv_i hcen (by assumption) hin).trans (nz_0 (by assumption))) | exact nb_step ((nbv_i hcen (by assumption) hin).trans (nz_1 (by assumption))) | exact nb_step (nbv_o hcen (by assumption) hin))
                have hl : lv_has ls 8 [(3, .int (nI (arA C R F ig c r i + sm (nbv C R F ig c r i) (j + 1)))), (7, .int (nI (c + j - 1))), (6, .int (nI (r + i - 1))), (5, .int (nI j - 1)), (4, .int (nI i - 1)), (0, .ref so), (1, .int (nI c)), (2, .int (nI r))] := by rw [← e9_36]; exact hl
                refine lv_iinc (v := (nI j - 1) + 1) (lv' := [(5, .int ((nI j - 1) + 1)), (3, .int (nI (arA C R F ig c r i + sm (nbv C R F ig c r i) (j + 1)))), (7, .int (nI (c + j - 1))), (6, .int (nI (r + i - 1))), (4, .int (nI i - 1)), (0, .ref so), (1, .int (nI c)), (2, .int (nI r))]) hx hb dX4_around_128 hl (k := 3) rfl (rfl) (by decide) rfl (fun ls hl => ?_)
                have e9_37 : ((nI j - 1) + 1) = (nI (j + 1) - 1) := m1_s j
                have hl : lv_has ls 8 [(5, .int (nI (j + 1) - 1)), (3, .int (nI (arA C R F ig c r i + sm (nbv C R F ig c r i) (j + 1)))), (7, .int (nI (c + j - 1))), (6, .int (nI (r + i - 1))), (4, .int (nI i - 1)), (0, .ref so), (1, .int (nI c)), (2, .int (nI r))] := by rw [← e9_37]; exact hl
                refine lv_goto (tgt := 14) hx hb dX4_around_131 (by decide) ?_
                exact ih_5 (j + 1) (by omega) (by first | omega | (simp only []; omega) | (show _ < _; simp only []; omega)) H locs hP hD hS ls (lv_sub hl [0, 4, 1, 5, 6, 7] rfl)
              · refine lv_iconst (v := 1) hx hb dX4_around_114 (by decide) ?_
                refine lv_goto (tgt := 126) hx hb dX4_around_115 (by decide) ?_
                refine lv_iadd hx hb dX4_around_126 ?_
                refine f_topi (y := nI ((arA C R F ig c r i + sm (nbv C R F ig c r i) j) + 1)) (nI_add (arA C R F ig c r i + sm (nbv C R F ig c r i) j) 1) ?_
                refine lv_istore_n (lv' := [(3, .int (nI ((arA C R F ig c r i + sm (nbv C R F ig c r i) j) + 1))), (7, .int (nI (c + j - 1))), (6, .int (nI (r + i - 1))), (5, .int (nI j - 1)), (4, .int (nI i - 1)), (0, .ref so), (1, .int (nI c)), (2, .int (nI r))]) hx hb dX4_around_127 rfl hl (by decide) rfl (fun ls hl => ?_)
                have e9_38 : (nI ((arA C R F ig c r i + sm (nbv C R F ig c r i) j) + 1)) = (nI (arA C R F ig c r i + sm (nbv C R F ig c r i) (j + 1))) := congrArg nI (by first | exact nb_step0 (nbv_c (by assumption) (by assumption)) | exact nb_step ((nbv_2 hcen (by assumption)).trans (nz_0 (by assumption))) | exact nb_step ((nbv_2 hcen (by assumption)).trans (nz_1 (by assumption))) | exact nb_step ((nbv_i hcen (by assumption) hin).trans (nz_0 (by assumption))) | exact nb_step ((nbv_i hcen (by assumption) hin).trans (nz_1 (by assumption))) | exact nb_step (nbv_o hcen (by assumption) hin))
                have hl : lv_has ls 8 [(3, .int (nI (arA C R F ig c r i + sm (nbv C R F ig c r i) (j + 1)))), (7, .int (nI (c + j - 1))), (6, .int (nI (r + i - 1))), (5, .int (nI j - 1)), (4, .int (nI i - 1)), (0, .ref so), (1, .int (nI c)), (2, .int (nI r))] := by rw [← e9_38]; exact hl
                refine lv_iinc (v := (nI j - 1) + 1) (lv' := [(5, .int ((nI j - 1) + 1)), (3, .int (nI (arA C R F ig c r i + sm (nbv C R F ig c r i) (j + 1)))), (7, .int (nI (c + j - 1))), (6, .int (nI (r + i - 1))), (4, .int (nI i - 1)), (0, .ref so), (1, .int (nI c)), (2, .int (nI r))]) hx hb dX4_around_128 hl (k := 3) rfl (rfl) (by decide) rfl (fun ls hl => ?_)
                have e9_39 : ((nI j - 1) + 1) = (nI (j + 1) - 1) := m1_s j
                have hl : lv_has ls 8 [(5, .int (nI (j + 1) - 1)), (3, .int (nI (arA C R F ig c r i + sm (nbv C R F ig c r i) (j + 1)))), (7, .int (nI (c + j - 1))), (6, .int (nI (r + i - 1))), (4, .int (nI i - 1)), (0, .ref so), (1, .int (nI c)), (2, .int (nI r))] := by rw [← e9_39]; exact hl
                refine lv_goto (tgt := 14) hx hb dX4_around_131 (by decide) ?_
                exact ih_5 (j + 1) (by omega) (by first | omega | (simp only []; omega) | (show _ < _; simp only []; omega)) H locs hP hD hS ls (lv_sub hl [0, 4, 1, 5, 6, 7] rfl)
          · have n_29 : F = 2 := (nI_eq (a := F) (b := 2) (by omega) (by omega)).mp c_29
            refine lv_iload hx hb dX4_around_53 (lv_at hl 1 rfl) ?_
            refine lv_aload_n hx hb dX4_around_55 rfl (lv_at hl 5 rfl) ?_
            refine va_get (D := D) (ci := 4) (v := .ref io) (C := RX4) (T := TX4) (N := 6) hx hb hts wb_X4_around_4 hown hK hP 0 rfl rfl 0 (by decide) (hts _ wi_X4_around_2) (fun _ h9 => h9) rfl dX4_around_56 ?_
            refine va_alen (v := nI R) hx hb hK hP 1 3 rfl rfl rfl dX4_around_59 ?_
            refine lv_iadd hx hb dX4_around_60 ?_
            refine f_topi (y := nI (r + i + (R - 1))) (m1_a r i R (by omega)) ?_
            refine lv_aload_n hx hb dX4_around_61 rfl (lv_at hl 5 rfl) ?_
            refine va_get (D := D) (ci := 4) (v := .ref io) (C := RX4) (T := TX4) (N := 6) hx hb hts wb_X4_around_4 hown hK hP 0 rfl rfl 0 (by decide) (hts _ wi_X4_around_2) (fun _ h9 => h9) rfl dX4_around_62 ?_
            refine va_alen (v := nI R) hx hb hK hP 1 3 rfl rfl rfl dX4_around_65 ?_
            refine lv_irem hx hb dX4_around_66 (by rw [show (0 : Int32) = nI 0 from rfl]; exact fun z => by have := (nI_eq (by omega) (by omega)).mp z; omega) ?_
            refine f_topi (y := nI ((r + i + (R - 1)) % R)) (pk_rem (by omega) (by omega) (by omega)) ?_
            refine lv_istore (lv' := [(6, .int (nI ((r + i + (R - 1)) % R))), (7, .int ((nI c) + (nI j - 1))), (5, .int (nI j - 1)), (4, .int (nI i - 1)), (3, .int (nI (arA C R F ig c r i + sm (nbv C R F ig c r i) j))), (0, .ref so), (1, .int (nI c)), (2, .int (nI r))]) hx hb dX4_around_67 hl (by decide) rfl (fun ls hl => ?_)
            refine lv_iload hx hb dX4_around_69 (lv_at hl 1 rfl) ?_
            refine lv_aload_n hx hb dX4_around_71 rfl (lv_at hl 5 rfl) ?_
            refine va_get (D := D) (ci := 4) (v := .ref io) (C := RX4) (T := TX4) (N := 6) hx hb hts wb_X4_around_4 hown hK hP 0 rfl rfl 0 (by decide) (hts _ wi_X4_around_2) (fun _ h9 => h9) rfl dX4_around_72 ?_
            refine lv_iconst (v := 0) hx hb dX4_around_75 (by decide) ?_
            refine g_aald (k := 0) (v := ai 0) hx hb hK hP 1 3 rfl rfl rfl (by omega) (by first | decide | omega) rfl dX4_around_76 ?_
            refine g_zlen (r := 0) hx hb hK hP hw_ai (by omega) dX4_around_77 ?_
            refine lv_iadd hx hb dX4_around_78 ?_
            refine f_topi (y := nI (c + j + (C - 1))) (m1_a c j C (by omega)) ?_
            refine lv_aload_n hx hb dX4_around_79 rfl (lv_at hl 5 rfl) ?_
            refine va_get (D := D) (ci := 4) (v := .ref io) (C := RX4) (T := TX4) (N := 6) hx hb hts wb_X4_around_4 hown hK hP 0 rfl rfl 0 (by decide) (hts _ wi_X4_around_2) (fun _ h9 => h9) rfl dX4_around_80 ?_
            refine lv_iconst (v := 0) hx hb dX4_around_83 (by decide) ?_
            refine g_aald (k := 0) (v := ai 0) hx hb hK hP 1 3 rfl rfl rfl (by omega) (by first | decide | omega) rfl dX4_around_84 ?_
            refine g_zlen (r := 0) hx hb hK hP hw_ai (by omega) dX4_around_85 ?_
            refine lv_irem hx hb dX4_around_86 (by rw [show (0 : Int32) = nI 0 from rfl]; exact fun z => by have := (nI_eq (by omega) (by omega)).mp z; omega) ?_
            refine f_topi (y := nI ((c + j + (C - 1)) % C)) (pk_rem (by omega) (by omega) (by omega)) ?_
            refine lv_istore (lv' := [(7, .int (nI ((c + j + (C - 1)) % C))), (6, .int (nI ((r + i + (R - 1)) % R))), (5, .int (nI j - 1)), (4, .int (nI i - 1)), (3, .int (nI (arA C R F ig c r i + sm (nbv C R F ig c r i) j))), (0, .ref so), (1, .int (nI c)), (2, .int (nI r))]) hx hb dX4_around_87 hl (by decide) rfl (fun ls hl => ?_)
            refine lv_iload_n hx hb dX4_around_89 rfl (lv_at hl 4 rfl) ?_
            refine lv_aload_n hx hb dX4_around_90 rfl (lv_at hl 5 rfl) ?_
            refine lv_iload hx hb dX4_around_91 (lv_at hl 0 rfl) ?_
            refine lv_iload hx hb dX4_around_93 (lv_at hl 1 rfl) ?_
            refine g_roVi ⟨hx, hb, hml, hown, hts⟩ hP hD hS hA hK hN [0, 1, 2, 3]
                (c_X4_isCell (l := l) (D := D) (cI := cI) (cZ := cZ) (cP := cP) (cQ := cQ) (sz := _) (so := so) (io := io) (mo := mo) (ro := ro) (C := C) (R := R) (F := F) (n := n) (b := b) (gn := gn) (L := L) (f := f) (ai := ai) (mi := mi) (ri := ri) (ig := ig) (mg := mg) (rg := rg) (col := nI ((c + j + (C - 1)) % C)) (row := nI ((r + i + (R - 1)) % R)) (hC1 := (by first | assumption | omega)) (hC := (by first | assumption | omega)) (hR1 := (by first | assumption | omega)) (hR := (by first | assumption | omega)) (hF := (by first | assumption | omega)) (hn := (by first | assumption | omega)) (hb0 := (by first | assumption | omega)) (hw_ai := hw_ai) (hw_mi := hw_mi) (hw_ri := hw_ri)) (cwV 2 hts gX4_around_X4_isCell rfl rfl rfl k_X4_isCell ⟨Nat.le_of_ble_eq_true rfl, Nat.le_of_ble_eq_true rfl⟩) 0 rfl rfl rfl rfl rfl rfl hl.1 (Nat.le_of_ble_eq_true rfl) dX4_around_95 ⟨Nat.le_of_ble_eq_true rfl, Nat.le_of_ble_eq_true rfl⟩ (fun H locs hP hS => ?_)
            refine lv_if_eq (tgt := 122) hx hb dX4_around_98 (by decide) (fun c_40 => ?_) (fun c_40 => ?_)
            · rw [isCell_in hC hR (Nat.mod_lt _ (by omega)) (Nat.mod_lt _ (by omega))] at c_40; exact absurd c_40 (by decide)
            · refine lv_aload_n hx hb dX4_around_101 rfl (lv_at hl 5 rfl) ?_
              refine va_get (D := D) (ci := 4) (v := .ref io) (C := RX4) (T := TX4) (N := 6) hx hb hts wb_X4_around_4 hown hK hP 0 rfl rfl 0 (by decide) (hts _ wi_X4_around_2) (fun _ h9 => h9) rfl dX4_around_102 ?_
              refine lv_iload hx hb dX4_around_105 (lv_at hl 1 rfl) ?_
              refine g_aald (k := ((r + i + (R - 1)) % R)) (v := ai ((r + i + (R - 1)) % R)) hx hb hK hP 1 3 rfl rfl rfl (Nat.mod_lt _ (by omega)) (by first | decide | omega) rfl dX4_around_107 ?_
              refine lv_iload hx hb dX4_around_108 (lv_at hl 0 rfl) ?_
              refine g_zald (r := ((r + i + (R - 1)) % R)) (k := ((c + j + (C - 1)) % C)) hx hb hK hP hw_ai (Nat.mod_lt _ (by omega)) rfl (Nat.mod_lt _ (by omega)) (by first | decide | omega) dX4_around_110 ?_
              refine lv_if_eq (tgt := 118) hx hb dX4_around_111 (by decide) (fun c_41 => ?_) (fun c_41 => ?_)
              · refine lv_iconst (v := 0) hx hb dX4_around_118 (by decide) ?_
                refine lv_goto (tgt := 126) hx hb dX4_around_119 (by decide) ?_
                refine lv_iadd hx hb dX4_around_126 ?_
                refine f_topi (y := nI ((arA C R F ig c r i + sm (nbv C R F ig c r i) j) + 0)) (nI_add (arA C R F ig c r i + sm (nbv C R F ig c r i) j) 0) ?_
                refine lv_istore_n (lv' := [(3, .int (nI ((arA C R F ig c r i + sm (nbv C R F ig c r i) j) + 0))), (7, .int (nI ((c + j + (C - 1)) % C))), (6, .int (nI ((r + i + (R - 1)) % R))), (5, .int (nI j - 1)), (4, .int (nI i - 1)), (0, .ref so), (1, .int (nI c)), (2, .int (nI r))]) hx hb dX4_around_127 rfl hl (by decide) rfl (fun ls hl => ?_)
                have e9_42 : (nI ((arA C R F ig c r i + sm (nbv C R F ig c r i) j) + 0)) = (nI (arA C R F ig c r i + sm (nbv C R F ig c r i) (j + 1))) := congrArg nI (by first | exact nb_step0 (nbv_c (by assumption) (by assumption)) | exact nb_step ((nbv_2 hcen (by assumption)).trans (nz_0 (by assumption))) | exact nb_step ((nbv_2 hcen (by assumption)).trans (nz_1 (by assumption))) | exact nb_step ((nbv_i hcen (by assumption) hin).trans (nz_0 (by assumption))) | exact nb_step ((nbv_i hcen (by assumption) hin).trans (nz_1 (by assumption))) | exact nb_step (nbv_o hcen (by assumption) hin))
                have hl : lv_has ls 8 [(3, .int (nI (arA C R F ig c r i + sm (nbv C R F ig c r i) (j + 1)))), (7, .int (nI ((c + j + (C - 1)) % C))), (6, .int (nI ((r + i + (R - 1)) % R))), (5, .int (nI j - 1)), (4, .int (nI i - 1)), (0, .ref so), (1, .int (nI c)), (2, .int (nI r))] := by rw [← e9_42]; exact hl
                refine lv_iinc (v := (nI j - 1) + 1) (lv' := [(5, .int ((nI j - 1) + 1)), (3, .int (nI (arA C R F ig c r i + sm (nbv C R F ig c r i) (j + 1)))), (7, .int (nI ((c + j + (C - 1)) % C))), (6, .int (nI ((r + i + (R - 1)) % R))), (4, .int (nI i - 1)), (0, .ref so), (1, .int (nI c)), (2, .int (nI r))]) hx hb dX4_around_128 hl (k := 3) rfl (rfl) (by decide) rfl (fun ls hl => ?_)
                have e9_43 : ((nI j - 1) + 1) = (nI (j + 1) - 1) := m1_s j
                have hl : lv_has ls 8 [(5, .int (nI (j + 1) - 1)), (3, .int (nI (arA C R F ig c r i + sm (nbv C R F ig c r i) (j + 1)))), (7, .int (nI ((c + j + (C - 1)) % C))), (6, .int (nI ((r + i + (R - 1)) % R))), (4, .int (nI i - 1)), (0, .ref so), (1, .int (nI c)), (2, .int (nI r))] := by rw [← e9_43]; exact hl
                refine lv_goto (tgt := 14) hx hb dX4_around_131 (by decide) ?_
                exact ih_5 (j + 1) (by omega) (by first | omega | (simp only []; omega) | (show _ < _; simp only []; omega)) H locs hP hD hS ls (lv_sub hl [0, 4, 1, 5, 6, 7] rfl)
              · refine lv_iconst (v := 1) hx hb dX4_around_114 (by decide) ?_
                refine lv_goto (tgt := 126) hx hb dX4_around_115 (by decide) ?_
                refine lv_iadd hx hb dX4_around_126 ?_
                refine f_topi (y := nI ((arA C R F ig c r i + sm (nbv C R F ig c r i) j) + 1)) (nI_add (arA C R F ig c r i + sm (nbv C R F ig c r i) j) 1) ?_
                refine lv_istore_n (lv' := [(3, .int (nI ((arA C R F ig c r i + sm (nbv C R F ig c r i) j) + 1))), (7, .int (nI ((c + j + (C - 1)) % C))), (6, .int (nI ((r + i + (R - 1)) % R))), (5, .int (nI j - 1)), (4, .int (nI i - 1)), (0, .ref so), (1, .int (nI c)), (2, .int (nI r))]) hx hb dX4_around_127 rfl hl (by decide) rfl (fun ls hl => ?_)
                have e9_44 : (nI ((arA C R F ig c r i + sm (nbv C R F ig c r i) j) + 1)) = (nI (arA C R F ig c r i + sm (nbv C R F ig c r i) (j + 1))) := congrArg nI (by first | exact nb_step0 (nbv_c (by assumption) (by assumption)) | exact nb_step ((nbv_2 hcen (by assumption)).trans (nz_0 (by assumption))) | exact nb_step ((nbv_2 hcen (by assumption)).trans (nz_1 (by assumption))) | exact nb_step ((nbv_i hcen (by assumption) hin).trans (nz_0 (by assumption))) | exact nb_step ((nbv_i hcen (by assumption) hin).trans (nz_1 (by assumption))) | exact nb_step (nbv_o hcen (by assumption) hin))
                have hl : lv_has ls 8 [(3, .int (nI (arA C R F ig c r i + sm (nbv C R F ig c r i) (j + 1)))), (7, .int (nI ((c + j + (C - 1)) % C))), (6, .int (nI ((r + i + (R - 1)) % R))), (5, .int (nI j - 1)), (4, .int (nI i - 1)), (0, .ref so), (1, .int (nI c)), (2, .int (nI r))] := by rw [← e9_44]; exact hl
                refine lv_iinc (v := (nI j - 1) + 1) (lv' := [(5, .int ((nI j - 1) + 1)), (3, .int (nI (arA C R F ig c r i + sm (nbv C R F ig c r i) (j + 1)))), (7, .int (nI ((c + j + (C - 1)) % C))), (6, .int (nI ((r + i + (R - 1)) % R))), (4, .int (nI i - 1)), (0, .ref so), (1, .int (nI c)), (2, .int (nI r))]) hx hb dX4_around_128 hl (k := 3) rfl (rfl) (by decide) rfl (fun ls hl => ?_)
                have e9_45 : ((nI j - 1) + 1) = (nI (j + 1) - 1) := m1_s j
                have hl : lv_has ls 8 [(5, .int (nI (j + 1) - 1)), (3, .int (nI (arA C R F ig c r i + sm (nbv C R F ig c r i) (j + 1)))), (7, .int (nI ((c + j + (C - 1)) % C))), (6, .int (nI ((r + i + (R - 1)) % R))), (4, .int (nI i - 1)), (0, .ref so), (1, .int (nI c)), (2, .int (nI r))] := by rw [← e9_45]; exact hl
                refine lv_goto (tgt := 14) hx hb dX4_around_131 (by decide) ?_
                exact ih_5 (j + 1) (by omega) (by first | omega | (simp only []; omega) | (show _ < _; simp only []; omega)) H locs hP hD hS ls (lv_sub hl [0, 4, 1, 5, 6, 7] rfl)
        · have hj1 : j = 1 := (m1_z j (by omega)).mp c_28
          refine lv_goto (tgt := 128) hx hb dX4_around_30 (by decide) ?_
          have e9_46 : (nI (arA C R F ig c r i + sm (nbv C R F ig c r i) j)) = (nI (arA C R F ig c r i + sm (nbv C R F ig c r i) (j + 1))) := congrArg nI (by first | exact nb_step0 (nbv_c (by assumption) (by assumption)) | exact nb_step ((nbv_2 hcen (by assumption)).trans (nz_0 (by assumption))) | exact nb_step ((nbv_2 hcen (by assumption)).trans (nz_1 (by assumption))) | exact nb_step ((nbv_i hcen (by assumption) hin).trans (nz_0 (by assumption))) | exact nb_step ((nbv_i hcen (by assumption) hin).trans (nz_1 (by assumption))) | exact nb_step (nbv_o hcen (by assumption) hin))
          have hl : lv_has ls 8 [(5, .int (nI j - 1)), (4, .int (nI i - 1)), (3, .int (nI (arA C R F ig c r i + sm (nbv C R F ig c r i) (j + 1)))), (0, .ref so), (1, .int (nI c)), (2, .int (nI r))] := by rw [← e9_46]; exact hl
          refine lv_iinc (v := (nI j - 1) + 1) (lv' := [(5, .int ((nI j - 1) + 1)), (4, .int (nI i - 1)), (3, .int (nI (arA C R F ig c r i + sm (nbv C R F ig c r i) (j + 1)))), (0, .ref so), (1, .int (nI c)), (2, .int (nI r))]) hx hb dX4_around_128 hl (k := 0) rfl (rfl) (by decide) rfl (fun ls hl => ?_)
          have e9_47 : ((nI j - 1) + 1) = (nI (j + 1) - 1) := m1_s j
          have hl : lv_has ls 8 [(5, .int (nI (j + 1) - 1)), (4, .int (nI i - 1)), (3, .int (nI (arA C R F ig c r i + sm (nbv C R F ig c r i) (j + 1)))), (0, .ref so), (1, .int (nI c)), (2, .int (nI r))] := by rw [← e9_47]; exact hl
          refine lv_goto (tgt := 14) hx hb dX4_around_131 (by decide) ?_
          exact ih_5 (j + 1) (by omega) (by first | omega | (simp only []; omega) | (show _ < _; simp only []; omega)) H locs hP hD hS ls (lv_sub hl [0, 1, 2, 3, 4, 5] rfl)

/-- whether a cell will be frozen -/
def wlE (x P : Int32) : Int32 := if ((x / P) - (x / P) / 2 * 2) = 1 then 1 else 0
def wlI (C R F b : Nat) (ig mg rg : Nat → Nat → Int32) (c r : Nat) : Int32 := if mg r c = 0 then (if ig r c = 0 then wlE (rg b 0) (nI (2 ^ arN C R F ig c r)) else wlE (rg b 1) (nI (2 ^ arN C R F ig c r))) else 0
theorem wlE_1 {x P : Int32} (h : ((x / P) - (x / P) / 2 * 2) = 1) : wlE x P = 1 := if_pos h
theorem wlE_0 {x P : Int32} (h : ¬ ((x / P) - (x / P) / 2 * 2) = 1) : wlE x P = 0 := if_neg h
theorem wlI_m {C R F b : Nat} {ig mg rg : Nat → Nat → Int32} {c r : Nat} (h : ¬ mg r c = 0) : wlI C R F b ig mg rg c r = 0 := if_neg h
theorem wlI_0 {C R F b : Nat} {ig mg rg : Nat → Nat → Int32} {c r : Nat} (h : mg r c = 0) (h2 : ig r c = 0) : wlI C R F b ig mg rg c r = wlE (rg b 0) (nI (2 ^ arN C R F ig c r)) := by unfold wlI; rw [if_pos h, if_pos h2]
theorem wlI_1 {C R F b : Nat} {ig mg rg : Nat → Nat → Int32} {c r : Nat} (h : mg r c = 0) (h2 : ¬ ig r c = 0) : wlI C R F b ig mg rg c r = wlE (rg b 1) (nI (2 ^ arN C R F ig c r)) := by unfold wlI; rw [if_pos h, if_neg h2]
theorem wlI_nar (C R F b : Nat) (ig mg rg : Nat → Nat → Int32) (c r : Nat) : narrow .boolean (.int (wlI C R F b ig mg rg c r)) = .int (wlI C R F b ig mg rg c r) := by
  unfold wlI wlE
  repeat (first | rfl | split)
theorem wlI_vnar (C R F b : Nat) (ig mg rg : Nat → Nat → Int32) (c r : Nat) : vp_nar .boolean (wlI C R F b ig mg rg c r) = wlI C R F b ig mg rg c r := by
  unfold wlI wlE
  repeat (first | rfl | split)
theorem p2_le {k : Nat} (h : k ≤ 8) : 2 ^ k ≤ 256 := Nat.pow_le_pow_right (by decide) h
theorem k_X4_will : yX4_will.cls = RX4 ∧ yX4_will.cls ≠ "java/lang/invoke/MethodHandle" ∧ yX4_will.cls ≠ "java/lang/invoke/VarHandle" ∧ (parseMethodDescriptor yX4_will.desc).map (fun d => d.parameters.length) = some 2 := by decide +kernel
theorem wb_X4_will_4 : ∀ w ∈ wsX40, w ∈ wsX4_will := (fun _ h => List.mem_cons_of_mem _ (List.mem_append_right _ h))
theorem wi_X4_will_1 : (Cond.fieldLink RX4 16 "FrostPaneLaw$Sim" "melt" "[[I") ∈ wsX4_will := List.mem_of_getElem? (i := 1) rfl
theorem wi_X4_will_2 : (Cond.fieldLink RX4 21 "FrostPaneLaw$Sim" "rules" "[[I") ∈ wsX4_will := List.mem_of_getElem? (i := 2) rfl
theorem wi_X4_will_3 : (Cond.fieldLink RX4 43 "FrostPaneLaw$Sim" "breath" "I") ∈ wsX4_will := List.mem_of_getElem? (i := 3) rfl
theorem wi_X4_will_4 : (Cond.fieldLink RX4 9 "FrostPaneLaw$Sim" "ice" "[[Z") ∈ wsX4_will := List.mem_of_getElem? (i := 4) rfl
set_option maxHeartbeats 4000000 in
set_option maxRecDepth 100000 in
theorem c_X4_will (l : Launch) (D : va_G) (cI cZ cP cQ : ClassId) (sz : Nat) (so io mo ro C R F n b : Nat) (gn : Int32) (L : List Nat) (f : Nat → va_E) (ai mi ri : Nat → Nat) (ig mg rg : Nat → Nat → Int32) (c r : Nat) (hC1 : 3 ≤ C) (hC : C ≤ 12) (hR1 : 3 ≤ R) (hR : R ≤ 12) (hF : F ≤ 2) (hn : n ≤ 6) (hb0 : b < n) (hw_ai : Rw cZ L f R C ai ig) (hw_mi : Rw cI L f R C mi mg) (hw_ri : Rw cI L f n 2 ri rg) (hc : c < C) (hr0 : r < R) : f_Mi l yX4_will wsX4_will ({ frames := 2, cells := 0, slots := 0, locals := 49 }) D (fTY cI cZ cP cQ) [.ref so, .int (nI c), .int (nI r)] sz (([(so, .inr (4, [.ref io, .ref mo, .int (nI F), .int gn, .int (nI b), .ref ro])), (io, .inl (cQ, R, .inr (.inr (.inr (.inr (rq ai)))))), (mo, .inl (cP, R, .inr (.inr (.inr (.inr (rq mi)))))), (ro, .inl (cP, n, .inr (.inr (.inr (.inr (rq ri))))))] ++ va_pl L f)) (wlI C R F b ig mg rg c r) (([(so, .inr (4, [.ref io, .ref mo, .int (nI F), .int gn, .int (nI b), .ref ro])), (io, .inl (cQ, R, .inr (.inr (.inr (.inr (rq ai)))))), (mo, .inl (cP, R, .inr (.inr (.inr (.inr (rq mi)))))), (ro, .inl (cP, n, .inr (.inr (.inr (.inr (rq ri))))))] ++ va_pl L f)) := by
  refine f_ent_i (by decide) rfl (Nat.le_of_ble_eq_true rfl) ?_
  intro pg ev s m below meth cd hx hb hr hts hown hlocks hml hnm hsz hP hK hN A hD hA hS ls hl
  have hown : s.vm.findClass RX4 = some m.cls := hown
  have hl : lv_has ls 5 [(0, .ref so), (1, .int (nI c)), (2, .int (nI r))] := hl
  have har : arN C R F ig c r ≤ 8 := arN_le hF
  refine lv_iconst (v := 1) hx hb dX4_will_0 (by decide) ?_
  refine f_topi (y := nI (2 ^ 0)) (by decide) ?_
  refine lv_istore_n (lv' := [(3, .int (nI (2 ^ 0))), (0, .ref so), (1, .int (nI c)), (2, .int (nI r))]) hx hb dX4_will_1 rfl hl (by decide) rfl (fun ls hl => ?_)
  refine lv_iconst (v := 0) hx hb dX4_will_2 (by decide) ?_
  refine lv_istore (lv' := [(4, .int 0), (3, .int (nI (2 ^ 0))), (0, .ref so), (1, .int (nI c)), (2, .int (nI r))]) hx hb dX4_will_3 hl (by decide) rfl (fun ls hl => ?_)
  refine f_loopW (σ := Nat) (D := D) (A := A) (H0 := s.heap) 5 5 (fun u9 => [(4, .int (nI u9)), (3, .int (nI (2 ^ u9))), (0, .ref so), (1, .int (nI c)), (2, .int (nI r))]) (fun u9 => ([(so, .inr (4, [.ref io, .ref mo, .int (nI F), .int gn, .int (nI b), .ref ro])), (io, .inl (cQ, R, .inr (.inr (.inr (.inr (rq ai)))))), (mo, .inl (cP, R, .inr (.inr (.inr (.inr (rq mi)))))), (ro, .inl (cP, n, .inr (.inr (.inr (.inr (rq ri))))))] ++ va_pl L f)) (fun u9 => u9 ≤ arN C R F ig c r) (fun u9 => arN C R F ig c r - u9)
      (fun u9 hi_2 ih_1 H locs hP hD hS ls hl => ?_) 0 (Nat.zero_le _) hP hD hS (lv_sub hl [0, 1, 2, 3, 4] rfl)
  obtain ⟨k, rfl⟩ : ∃ z, z = u9 := ⟨_, rfl⟩
  have hi_2 : k ≤ arN C R F ig c r := hi_2
  have hl : lv_has ls 5 [(4, .int (nI k)), (3, .int (nI (2 ^ k))), (0, .ref so), (1, .int (nI c)), (2, .int (nI r))] := hl
  have hP : va_P D vwCl ([(so, .inr (4, [.ref io, .ref mo, .int (nI F), .int gn, .int (nI b), .ref ro])), (io, .inl (cQ, R, .inr (.inr (.inr (.inr (rq ai)))))), (mo, .inl (cP, R, .inr (.inr (.inr (.inr (rq mi)))))), (ro, .inl (cP, n, .inr (.inr (.inr (.inr (rq ri))))))] ++ va_pl L f) _ := hP
  have hD : va_D A ([(so, .inr (4, [.ref io, .ref mo, .int (nI F), .int gn, .int (nI b), .ref ro])), (io, .inl (cQ, R, .inr (.inr (.inr (.inr (rq ai)))))), (mo, .inl (cP, R, .inr (.inr (.inr (.inr (rq mi)))))), (ro, .inl (cP, n, .inr (.inr (.inr (.inr (rq ri))))))] ++ va_pl L f) := hD
  refine lv_iload hx hb dX4_will_5 (lv_at hl 0 rfl) ?_
  refine lv_aload_n hx hb dX4_will_7 rfl (lv_at hl 2 rfl) ?_
  refine lv_iload_n hx hb dX4_will_8 rfl (lv_at hl 3 rfl) ?_
  refine lv_iload_n hx hb dX4_will_9 rfl (lv_at hl 4 rfl) ?_
  refine g_roVi ⟨hx, hb, hml, hown, hts⟩ hP hD hS hA hK hN [0, 1, 2, 3]
      (c_X4_around (l := l) (D := D) (cI := cI) (cZ := cZ) (cP := cP) (cQ := cQ) (sz := _) (so := so) (io := io) (mo := mo) (ro := ro) (C := C) (R := R) (F := F) (n := n) (b := b) (gn := gn) (L := L) (f := f) (ai := ai) (mi := mi) (ri := ri) (ig := ig) (mg := mg) (rg := rg) (c := c) (r := r) (hC1 := (by first | assumption | omega)) (hC := (by first | assumption | omega)) (hR1 := (by first | assumption | omega)) (hR := (by first | assumption | omega)) (hF := (by first | assumption | omega)) (hn := (by first | assumption | omega)) (hb0 := (by first | assumption | omega)) (hw_ai := hw_ai) (hw_mi := hw_mi) (hw_ri := hw_ri) (hc := (by first | assumption | omega)) (hr0 := (by first | assumption | omega))) (cwV 2 hts gX4_will_X4_around rfl rfl rfl k_X4_around ⟨Nat.le_of_ble_eq_true rfl, Nat.le_of_ble_eq_true rfl⟩) 0 rfl rfl rfl rfl rfl rfl hl.1 (Nat.le_of_ble_eq_true rfl) dX4_will_10 ⟨Nat.le_of_ble_eq_true rfl, Nat.le_of_ble_eq_true rfl⟩ (fun H locs hP hS => ?_)
  refine lv_icmp_ge (tgt := 26) hx hb dX4_will_13 (by decide) (fun c_3 => ?_) (fun c_3 => ?_)
  · have n_3 : (arN C R F ig c r) ≤ k := (nI_leI (a := (arN C R F ig c r)) (b := k) (by omega) (by omega)).mp c_3
    refine lv_aload_n hx hb dX4_will_26 rfl (lv_at hl 2 rfl) ?_
    refine va_get (D := D) (ci := 4) (v := .ref mo) (C := RX4) (T := TX4) (N := 6) hx hb hts wb_X4_will_4 hown hK hP 0 rfl rfl 1 (by decide) (hts _ wi_X4_will_1) (fun _ h9 => h9) rfl dX4_will_27 ?_
    refine lv_iload_n hx hb dX4_will_30 rfl (lv_at hl 4 rfl) ?_
    refine g_aald (k := r) (v := mi r) hx hb hK hP 2 2 rfl rfl rfl (by omega) (by first | decide | omega) rfl dX4_will_31 ?_
    refine lv_iload_n hx hb dX4_will_32 rfl (lv_at hl 3 rfl) ?_
    refine g_iald (r := r) (k := c) hx hb hK hP hw_mi (by omega) rfl (by omega) (by first | decide | omega) dX4_will_33 ?_
    refine lv_if_ne (tgt := 75) hx hb dX4_will_34 (by decide) (fun c_4 => ?_) (fun c_4 => ?_)
    · refine lv_iconst (v := 0) hx hb dX4_will_75 (by decide) ?_
      exact f_ret_z hx hb hr hlocks hP hD hS dX4_will_76 ((by have hk9 : k = arN C R F ig c r := (by omega); subst hk9; first | exact (wlI_m c_4).symm | exact ((wlI_0 c_none c_3).trans (wlE_1 c_4)).symm | exact ((wlI_0 c_none c_3).trans (wlE_0 c_4)).symm | exact ((wlI_1 c_none c_3).trans (wlE_1 c_4)).symm | exact ((wlI_1 c_none c_3).trans (wlE_0 c_4)).symm)) (wlI_nar _ _ _ _ _ _ _ _ _)
    · refine lv_aload_n hx hb dX4_will_37 rfl (lv_at hl 2 rfl) ?_
      refine va_get (D := D) (ci := 4) (v := .ref ro) (C := RX4) (T := TX4) (N := 6) hx hb hts wb_X4_will_4 hown hK hP 0 rfl rfl 5 (by decide) (hts _ wi_X4_will_2) (fun _ h9 => h9) rfl dX4_will_38 ?_
      refine lv_aload_n hx hb dX4_will_41 rfl (lv_at hl 2 rfl) ?_
      refine va_get (D := D) (ci := 4) (v := .int (nI b)) (C := RX4) (T := TX4) (N := 6) hx hb hts wb_X4_will_4 hown hK hP 0 rfl rfl 4 (by decide) (hts _ wi_X4_will_3) (fun _ h9 => h9) rfl dX4_will_42 ?_
      refine g_aald (k := b) (v := ri b) hx hb hK hP 3 2 rfl rfl rfl (by omega) (by first | decide | omega) rfl dX4_will_45 ?_
      refine lv_aload_n hx hb dX4_will_46 rfl (lv_at hl 2 rfl) ?_
      refine va_get (D := D) (ci := 4) (v := .ref io) (C := RX4) (T := TX4) (N := 6) hx hb hts wb_X4_will_4 hown hK hP 0 rfl rfl 0 (by decide) (hts _ wi_X4_will_4) (fun _ h9 => h9) rfl dX4_will_47 ?_
      refine lv_iload_n hx hb dX4_will_50 rfl (lv_at hl 4 rfl) ?_
      refine g_aald (k := r) (v := ai r) hx hb hK hP 1 3 rfl rfl rfl (by omega) (by first | decide | omega) rfl dX4_will_51 ?_
      refine lv_iload_n hx hb dX4_will_52 rfl (lv_at hl 3 rfl) ?_
      refine g_zald (r := r) (k := c) hx hb hK hP hw_ai (by omega) rfl (by omega) (by first | decide | omega) dX4_will_53 ?_
      refine lv_if_eq (tgt := 61) hx hb dX4_will_54 (by decide) (fun c_5 => ?_) (fun c_5 => ?_)
      · refine lv_iconst (v := 0) hx hb dX4_will_61 (by decide) ?_
        refine g_iald (r := b) (k := 0) hx hb hK hP hw_ri (by omega) rfl (by omega) (by first | decide | omega) dX4_will_62 ?_
        refine lv_iload_n hx hb dX4_will_63 rfl (lv_at hl 1 rfl) ?_
        refine lv_idiv hx hb dX4_will_64 (by rw [show (0 : Int32) = nI 0 from rfl]; exact fun z => by have := (nI_eq (a := 2 ^ k) (b := 0) (by have := p2_le (show k ≤ 8 by omega); omega) (by omega)).mp z; exact absurd this (by have := Nat.pow_pos (n := k) (show 0 < 2 by decide); omega)) ?_
        refine lv_iconst (v := 2) hx hb dX4_will_65 (by decide) ?_
        refine lv_irem hx hb dX4_will_66 (by decide) ?_
        refine lv_iconst (v := 1) hx hb dX4_will_67 (by decide) ?_
        refine lv_icmp_ne (tgt := 75) hx hb dX4_will_68 (by decide) (fun c_6 => ?_) (fun c_6 => ?_)
        · refine lv_iconst (v := 0) hx hb dX4_will_75 (by decide) ?_
          exact f_ret_z hx hb hr hlocks hP hD hS dX4_will_76 ((by have hk9 : k = arN C R F ig c r := (by omega); subst hk9; first | exact (wlI_m c_6).symm | exact ((wlI_0 c_4 c_5).trans (wlE_1 c_6)).symm | exact ((wlI_0 c_4 c_5).trans (wlE_0 c_6)).symm | exact ((wlI_1 c_4 c_5).trans (wlE_1 c_6)).symm | exact ((wlI_1 c_4 c_5).trans (wlE_0 c_6)).symm)) (wlI_nar _ _ _ _ _ _ _ _ _)
        · refine lv_iconst (v := 1) hx hb dX4_will_71 (by decide) ?_
          refine lv_goto (tgt := 76) hx hb dX4_will_72 (by decide) ?_
          exact f_ret_z hx hb hr hlocks hP hD hS dX4_will_76 ((by have hk9 : k = arN C R F ig c r := (by omega); subst hk9; first | exact (wlI_m c_6).symm | exact ((wlI_0 c_4 c_5).trans (wlE_1 c_6)).symm | exact ((wlI_0 c_4 c_5).trans (wlE_0 c_6)).symm | exact ((wlI_1 c_4 c_5).trans (wlE_1 c_6)).symm | exact ((wlI_1 c_4 c_5).trans (wlE_0 c_6)).symm)) (wlI_nar _ _ _ _ _ _ _ _ _)
      · refine lv_iconst (v := 1) hx hb dX4_will_57 (by decide) ?_
        refine lv_goto (tgt := 62) hx hb dX4_will_58 (by decide) ?_
        refine g_iald (r := b) (k := 1) hx hb hK hP hw_ri (by omega) rfl (by omega) (by first | decide | omega) dX4_will_62 ?_
        refine lv_iload_n hx hb dX4_will_63 rfl (lv_at hl 1 rfl) ?_
        refine lv_idiv hx hb dX4_will_64 (by rw [show (0 : Int32) = nI 0 from rfl]; exact fun z => by have := (nI_eq (a := 2 ^ k) (b := 0) (by have := p2_le (show k ≤ 8 by omega); omega) (by omega)).mp z; exact absurd this (by have := Nat.pow_pos (n := k) (show 0 < 2 by decide); omega)) ?_
        refine lv_iconst (v := 2) hx hb dX4_will_65 (by decide) ?_
        refine lv_irem hx hb dX4_will_66 (by decide) ?_
        refine lv_iconst (v := 1) hx hb dX4_will_67 (by decide) ?_
        refine lv_icmp_ne (tgt := 75) hx hb dX4_will_68 (by decide) (fun c_7 => ?_) (fun c_7 => ?_)
        · refine lv_iconst (v := 0) hx hb dX4_will_75 (by decide) ?_
          exact f_ret_z hx hb hr hlocks hP hD hS dX4_will_76 ((by have hk9 : k = arN C R F ig c r := (by omega); subst hk9; first | exact (wlI_m c_7).symm | exact ((wlI_0 c_4 c_5).trans (wlE_1 c_7)).symm | exact ((wlI_0 c_4 c_5).trans (wlE_0 c_7)).symm | exact ((wlI_1 c_4 c_5).trans (wlE_1 c_7)).symm | exact ((wlI_1 c_4 c_5).trans (wlE_0 c_7)).symm)) (wlI_nar _ _ _ _ _ _ _ _ _)
        · refine lv_iconst (v := 1) hx hb dX4_will_71 (by decide) ?_
          refine lv_goto (tgt := 76) hx hb dX4_will_72 (by decide) ?_
          exact f_ret_z hx hb hr hlocks hP hD hS dX4_will_76 ((by have hk9 : k = arN C R F ig c r := (by omega); subst hk9; first | exact (wlI_m c_7).symm | exact ((wlI_0 c_4 c_5).trans (wlE_1 c_7)).symm | exact ((wlI_0 c_4 c_5).trans (wlE_0 c_7)).symm | exact ((wlI_1 c_4 c_5).trans (wlE_1 c_7)).symm | exact ((wlI_1 c_4 c_5).trans (wlE_0 c_7)).symm)) (wlI_nar _ _ _ _ _ _ _ _ _)
  · have n_3 : k < (arN C R F ig c r) := Nat.lt_of_not_le (fun h => c_3 ((nI_leI (a := (arN C R F ig c r)) (b := k) (by omega) (by omega)).mpr h))
    refine lv_iload_n hx hb dX4_will_16 rfl (lv_at hl 1 rfl) ?_
    refine lv_iconst (v := 2) hx hb dX4_will_17 (by decide) ?_
    refine lv_imul hx hb dX4_will_18 ?_
    refine f_topi (y := nI ((2 ^ k) * 2)) (pk_mul (2 ^ k) 2) ?_
    refine lv_istore_n (lv' := [(3, .int (nI ((2 ^ k) * 2))), (4, .int (nI k)), (0, .ref so), (1, .int (nI c)), (2, .int (nI r))]) hx hb dX4_will_19 rfl hl (by decide) rfl (fun ls hl => ?_)
    have e9_8 : (nI ((2 ^ k) * 2)) = (nI (2 ^ (k + 1))) := rfl
    have hl : lv_has ls 5 [(3, .int (nI (2 ^ (k + 1)))), (4, .int (nI k)), (0, .ref so), (1, .int (nI c)), (2, .int (nI r))] := by rw [← e9_8]; exact hl
    refine lv_iinc (v := nI (k + 1)) (lv' := [(4, .int (nI (k + 1))), (3, .int (nI (2 ^ (k + 1)))), (0, .ref so), (1, .int (nI c)), (2, .int (nI r))]) hx hb dX4_will_20 hl (k := 1) rfl (nI_1 _) (by decide) rfl (fun ls hl => ?_)
    refine lv_goto (tgt := 5) hx hb dX4_will_23 (by decide) ?_
    exact ih_1 (k + 1) (by omega) (by first | omega | (simp only []; omega) | (show _ < _; simp only []; omega)) H locs hP hD hS ls (lv_sub hl [0, 1, 2, 3, 4] rfl)

theorem k_X4_frozen : yX4_frozen.cls = RX4 ∧ yX4_frozen.cls ≠ "java/lang/invoke/MethodHandle" ∧ yX4_frozen.cls ≠ "java/lang/invoke/VarHandle" ∧ (parseMethodDescriptor yX4_frozen.desc).map (fun d => d.parameters.length) = some 0 := by decide +kernel
theorem wb_X4_frozen_4 : ∀ w ∈ wsX40, w ∈ wsX4_frozen := (fun _ h => List.mem_cons_of_mem _ (List.mem_append_right _ h))
theorem wi_X4_frozen_1 : (Cond.fieldLink RX4 9 "FrostPaneLaw$Sim" "ice" "[[Z") ∈ wsX4_frozen := List.mem_of_getElem? (i := 1) rfl
set_option maxHeartbeats 4000000 in
set_option maxRecDepth 100000 in
theorem c_X4_frozen (l : Launch) (D : va_G) (cI cZ cP cQ : ClassId) (sz : Nat) (so io mo ro C R F n b : Nat) (gn : Int32) (L : List Nat) (f : Nat → va_E) (ai mi ri : Nat → Nat) (ig mg rg : Nat → Nat → Int32) (hC1 : 3 ≤ C) (hC : C ≤ 12) (hR1 : 3 ≤ R) (hR : R ≤ 12) (hF : F ≤ 2) (hn : n ≤ 6) (hb0 : b < n) (hw_ai : Rw cZ L f R C ai ig) (hw_mi : Rw cI L f R C mi mg) (hw_ri : Rw cI L f n 2 ri rg) : f_Mi l yX4_frozen wsX4_frozen ({ frames := 0, cells := 0, slots := 0, locals := 0 }) D (fTY cI cZ cP cQ) [.ref so] sz (([(so, .inr (4, [.ref io, .ref mo, .int (nI F), .int gn, .int (nI b), .ref ro])), (io, .inl (cQ, R, .inr (.inr (.inr (.inr (rq ai)))))), (mo, .inl (cP, R, .inr (.inr (.inr (.inr (rq mi)))))), (ro, .inl (cP, n, .inr (.inr (.inr (.inr (rq ri))))))] ++ va_pl L f)) (nI (sm (fun q9 => sm (fun p9 => nz (ig q9 p9)) C) R)) (([(so, .inr (4, [.ref io, .ref mo, .int (nI F), .int gn, .int (nI b), .ref ro])), (io, .inl (cQ, R, .inr (.inr (.inr (.inr (rq ai)))))), (mo, .inl (cP, R, .inr (.inr (.inr (.inr (rq mi)))))), (ro, .inl (cP, n, .inr (.inr (.inr (.inr (rq ri))))))] ++ va_pl L f)) := by
  refine f_ent_i (by decide) rfl (Nat.le_of_ble_eq_true rfl) ?_
  intro pg ev s m below meth cd hx hb hr hts hown hlocks hml hnm hsz hP hK hN A hD hA hS ls hl
  have hown : s.vm.findClass RX4 = some m.cls := hown
  have hl : lv_has ls 10 [(0, .ref so)] := hl
  refine lv_iconst (v := 0) hx hb dX4_frozen_0 (by decide) ?_
  refine f_topi (y := nI (sm (fun q9 => sm (fun p9 => nz (ig q9 p9)) C) 0)) (by rfl) ?_
  refine lv_istore_n (lv' := [(1, .int (nI (sm (fun q9 => sm (fun p9 => nz (ig q9 p9)) C) 0))), (0, .ref so)]) hx hb dX4_frozen_1 rfl hl (by decide) rfl (fun ls hl => ?_)
  refine lv_aload_n hx hb dX4_frozen_2 rfl (lv_at hl 1 rfl) ?_
  refine va_get (D := D) (ci := 4) (v := .ref io) (C := RX4) (T := TX4) (N := 6) hx hb hts wb_X4_frozen_4 hown hK hP 0 rfl rfl 0 (by decide) (hts _ wi_X4_frozen_1) (fun _ h9 => h9) rfl dX4_frozen_3 ?_
  refine lv_astore_n (lv' := [(2, .ref io), (1, .int (nI (sm (fun q9 => sm (fun p9 => nz (ig q9 p9)) C) 0))), (0, .ref so)]) hx hb dX4_frozen_6 rfl hl (by decide) rfl (fun ls hl => ?_)
  refine lv_aload_n hx hb dX4_frozen_7 rfl (lv_at hl 0 rfl) ?_
  refine va_alen (v := nI R) hx hb hK hP 1 3 rfl rfl rfl dX4_frozen_8 ?_
  refine lv_istore_n (lv' := [(3, .int (nI R)), (2, .ref io), (1, .int (nI (sm (fun q9 => sm (fun p9 => nz (ig q9 p9)) C) 0))), (0, .ref so)]) hx hb dX4_frozen_9 rfl hl (by decide) rfl (fun ls hl => ?_)
  refine lv_iconst (v := 0) hx hb dX4_frozen_10 (by decide) ?_
  refine lv_istore (lv' := [(4, .int 0), (3, .int (nI R)), (2, .ref io), (1, .int (nI (sm (fun q9 => sm (fun p9 => nz (ig q9 p9)) C) 0))), (0, .ref so)]) hx hb dX4_frozen_11 hl (by decide) rfl (fun ls hl => ?_)
  refine f_loopW (σ := Nat) (D := D) (A := A) (H0 := s.heap) 10 13 (fun u9 => [(4, .int (nI u9)), (3, .int (nI R)), (2, .ref io), (1, .int (nI (sm (fun q9 => sm (fun p9 => nz (ig q9 p9)) C) u9))), (0, .ref so)]) (fun u9 => ([(so, .inr (4, [.ref io, .ref mo, .int (nI F), .int gn, .int (nI b), .ref ro])), (io, .inl (cQ, R, .inr (.inr (.inr (.inr (rq ai)))))), (mo, .inl (cP, R, .inr (.inr (.inr (.inr (rq mi)))))), (ro, .inl (cP, n, .inr (.inr (.inr (.inr (rq ri))))))] ++ va_pl L f)) (fun u9 => u9 ≤ R) (fun u9 => R - u9)
      (fun u9 hi_2 ih_1 H locs hP hD hS ls hl => ?_) 0 (Nat.zero_le _) hP hD hS (lv_sub hl [0, 1, 2, 3, 4] rfl)
  obtain ⟨r, rfl⟩ : ∃ z, z = u9 := ⟨_, rfl⟩
  have hi_2 : r ≤ R := hi_2
  have hl : lv_has ls 10 [(4, .int (nI r)), (3, .int (nI R)), (2, .ref io), (1, .int (nI (sm (fun q9 => sm (fun p9 => nz (ig q9 p9)) C) r))), (0, .ref so)] := hl
  have hP : va_P D vwCl ([(so, .inr (4, [.ref io, .ref mo, .int (nI F), .int gn, .int (nI b), .ref ro])), (io, .inl (cQ, R, .inr (.inr (.inr (.inr (rq ai)))))), (mo, .inl (cP, R, .inr (.inr (.inr (.inr (rq mi)))))), (ro, .inl (cP, n, .inr (.inr (.inr (.inr (rq ri))))))] ++ va_pl L f) _ := hP
  have hD : va_D A ([(so, .inr (4, [.ref io, .ref mo, .int (nI F), .int gn, .int (nI b), .ref ro])), (io, .inl (cQ, R, .inr (.inr (.inr (.inr (rq ai)))))), (mo, .inl (cP, R, .inr (.inr (.inr (.inr (rq mi)))))), (ro, .inl (cP, n, .inr (.inr (.inr (.inr (rq ri))))))] ++ va_pl L f) := hD
  refine lv_iload hx hb dX4_frozen_13 (lv_at hl 0 rfl) ?_
  refine lv_iload_n hx hb dX4_frozen_15 rfl (lv_at hl 1 rfl) ?_
  refine lv_icmp_ge (tgt := 76) hx hb dX4_frozen_16 (by decide) (fun c_3 => ?_) (fun c_3 => ?_)
  · have n_3 : R ≤ r := (nI_leI (a := R) (b := r) (by omega) (by omega)).mp c_3
    refine lv_iload_n hx hb dX4_frozen_76 rfl (lv_at hl 3 rfl) ?_
    exact f_ret_i hx hb hr hlocks hP hD hS dX4_frozen_77 (by rw [show r = R by omega])
  · have n_3 : r < R := Nat.lt_of_not_le (fun h => c_3 ((nI_leI (a := R) (b := r) (by omega) (by omega)).mpr h))
    refine lv_aload_n hx hb dX4_frozen_19 rfl (lv_at hl 2 rfl) ?_
    refine lv_iload hx hb dX4_frozen_20 (lv_at hl 0 rfl) ?_
    refine g_aald (k := r) (v := ai r) hx hb hK hP 1 3 rfl rfl rfl (by omega) (by first | decide | omega) rfl dX4_frozen_22 ?_
    refine lv_astore (lv' := [(5, .ref (ai r)), (4, .int (nI r)), (3, .int (nI R)), (2, .ref io), (1, .int (nI (sm (fun q9 => sm (fun p9 => nz (ig q9 p9)) C) r))), (0, .ref so)]) hx hb dX4_frozen_23 hl (by decide) rfl (fun ls hl => ?_)
    refine lv_aload hx hb dX4_frozen_25 (lv_at hl 0 rfl) ?_
    refine lv_astore (lv' := [(6, .ref (ai r)), (5, .ref (ai r)), (4, .int (nI r)), (3, .int (nI R)), (2, .ref io), (1, .int (nI (sm (fun q9 => sm (fun p9 => nz (ig q9 p9)) C) r))), (0, .ref so)]) hx hb dX4_frozen_27 hl (by decide) rfl (fun ls hl => ?_)
    refine lv_aload hx hb dX4_frozen_29 (lv_at hl 0 rfl) ?_
    refine g_zlen (r := r) hx hb hK hP hw_ai (by omega) dX4_frozen_31 ?_
    refine lv_istore (lv' := [(7, .int (nI C)), (6, .ref (ai r)), (5, .ref (ai r)), (4, .int (nI r)), (3, .int (nI R)), (2, .ref io), (1, .int (nI (sm (fun q9 => sm (fun p9 => nz (ig q9 p9)) C) r))), (0, .ref so)]) hx hb dX4_frozen_32 hl (by decide) rfl (fun ls hl => ?_)
    refine lv_iconst (v := 0) hx hb dX4_frozen_34 (by decide) ?_
    refine lv_istore (lv' := [(8, .int 0), (7, .int (nI C)), (6, .ref (ai r)), (5, .ref (ai r)), (4, .int (nI r)), (3, .int (nI R)), (2, .ref io), (1, .int (nI (sm (fun q9 => sm (fun p9 => nz (ig q9 p9)) C) r))), (0, .ref so)]) hx hb dX4_frozen_35 hl (by decide) rfl (fun ls hl => ?_)
    refine f_loopW (σ := Nat) (D := D) (A := A) (H0 := s.heap) 10 37 (fun u9 => [(8, .int (nI u9)), (7, .int (nI C)), (6, .ref (ai r)), (5, .ref (ai r)), (4, .int (nI r)), (3, .int (nI R)), (2, .ref io), (1, .int (nI (sm (fun q9 => sm (fun p9 => nz (ig q9 p9)) C) r + sm (fun p9 => nz (ig r p9)) u9))), (0, .ref so)]) (fun u9 => ([(so, .inr (4, [.ref io, .ref mo, .int (nI F), .int gn, .int (nI b), .ref ro])), (io, .inl (cQ, R, .inr (.inr (.inr (.inr (rq ai)))))), (mo, .inl (cP, R, .inr (.inr (.inr (.inr (rq mi)))))), (ro, .inl (cP, n, .inr (.inr (.inr (.inr (rq ri))))))] ++ va_pl L f)) (fun u9 => u9 ≤ C) (fun u9 => C - u9)
        (fun u9 hi_5 ih_4 H locs hP hD hS ls hl => ?_) 0 (Nat.zero_le _) hP hD hS (lv_sub hl [0, 1, 2, 3, 4, 5, 6, 7, 8] rfl)
    obtain ⟨c, rfl⟩ : ∃ z, z = u9 := ⟨_, rfl⟩
    have hi_5 : c ≤ C := hi_5
    have hl : lv_has ls 10 [(8, .int (nI c)), (7, .int (nI C)), (6, .ref (ai r)), (5, .ref (ai r)), (4, .int (nI r)), (3, .int (nI R)), (2, .ref io), (1, .int (nI (sm (fun q9 => sm (fun p9 => nz (ig q9 p9)) C) r + sm (fun p9 => nz (ig r p9)) c))), (0, .ref so)] := hl
    have hP : va_P D vwCl ([(so, .inr (4, [.ref io, .ref mo, .int (nI F), .int gn, .int (nI b), .ref ro])), (io, .inl (cQ, R, .inr (.inr (.inr (.inr (rq ai)))))), (mo, .inl (cP, R, .inr (.inr (.inr (.inr (rq mi)))))), (ro, .inl (cP, n, .inr (.inr (.inr (.inr (rq ri))))))] ++ va_pl L f) _ := hP
    have hD : va_D A ([(so, .inr (4, [.ref io, .ref mo, .int (nI F), .int gn, .int (nI b), .ref ro])), (io, .inl (cQ, R, .inr (.inr (.inr (.inr (rq ai)))))), (mo, .inl (cP, R, .inr (.inr (.inr (.inr (rq mi)))))), (ro, .inl (cP, n, .inr (.inr (.inr (.inr (rq ri))))))] ++ va_pl L f) := hD
    refine lv_iload hx hb dX4_frozen_37 (lv_at hl 0 rfl) ?_
    refine lv_iload hx hb dX4_frozen_39 (lv_at hl 1 rfl) ?_
    refine lv_icmp_ge (tgt := 70) hx hb dX4_frozen_41 (by decide) (fun c_6 => ?_) (fun c_6 => ?_)
    · have n_6 : C ≤ c := (nI_leI (a := C) (b := c) (by omega) (by omega)).mp c_6
      have e9_7 : (nI (sm (fun q9 => sm (fun p9 => nz (ig q9 p9)) C) r + sm (fun p9 => nz (ig r p9)) c)) = (nI (sm (fun q9 => sm (fun p9 => nz (ig q9 p9)) C) (r + 1))) := by rw [show c = C by omega]; rfl
      have hl : lv_has ls 10 [(8, .int (nI c)), (7, .int (nI C)), (6, .ref (ai r)), (5, .ref (ai r)), (4, .int (nI r)), (3, .int (nI R)), (2, .ref io), (1, .int (nI (sm (fun q9 => sm (fun p9 => nz (ig q9 p9)) C) (r + 1)))), (0, .ref so)] := by rw [← e9_7]; exact hl
      refine lv_iinc (v := nI (r + 1)) (lv' := [(4, .int (nI (r + 1))), (8, .int (nI c)), (7, .int (nI C)), (6, .ref (ai r)), (5, .ref (ai r)), (3, .int (nI R)), (2, .ref io), (1, .int (nI (sm (fun q9 => sm (fun p9 => nz (ig q9 p9)) C) (r + 1)))), (0, .ref so)]) hx hb dX4_frozen_70 hl (k := 4) rfl (nI_1 _) (by decide) rfl (fun ls hl => ?_)
      refine lv_goto (tgt := 13) hx hb dX4_frozen_73 (by decide) ?_
      exact ih_1 (r + 1) (by omega) (by first | omega | (simp only []; omega) | (show _ < _; simp only []; omega)) H locs hP hD hS ls (lv_sub hl [0, 5, 6, 7, 8] rfl)
    · have n_6 : c < C := Nat.lt_of_not_le (fun h => c_6 ((nI_leI (a := C) (b := c) (by omega) (by omega)).mpr h))
      refine lv_aload hx hb dX4_frozen_44 (lv_at hl 2 rfl) ?_
      refine lv_iload hx hb dX4_frozen_46 (lv_at hl 0 rfl) ?_
      refine g_zald (r := r) (k := c) hx hb hK hP hw_ai (by omega) rfl (by omega) (by first | decide | omega) dX4_frozen_48 ?_
      refine lv_istore (lv' := [(9, .int (ig r c)), (8, .int (nI c)), (7, .int (nI C)), (6, .ref (ai r)), (5, .ref (ai r)), (4, .int (nI r)), (3, .int (nI R)), (2, .ref io), (1, .int (nI (sm (fun q9 => sm (fun p9 => nz (ig q9 p9)) C) r + sm (fun p9 => nz (ig r p9)) c))), (0, .ref so)]) hx hb dX4_frozen_49 hl (by decide) rfl (fun ls hl => ?_)
      refine lv_iload_n hx hb dX4_frozen_51 rfl (lv_at hl 8 rfl) ?_
      refine lv_iload hx hb dX4_frozen_52 (lv_at hl 0 rfl) ?_
      refine lv_if_eq (tgt := 61) hx hb dX4_frozen_54 (by decide) (fun c_8 => ?_) (fun c_8 => ?_)
      · refine lv_iconst (v := 0) hx hb dX4_frozen_61 (by decide) ?_
        refine lv_iadd hx hb dX4_frozen_62 ?_
        refine f_topi (y := nI ((sm (fun q9 => sm (fun p9 => nz (ig q9 p9)) C) r + sm (fun p9 => nz (ig r p9)) c) + 0)) (nI_add (sm (fun q9 => sm (fun p9 => nz (ig q9 p9)) C) r + sm (fun p9 => nz (ig r p9)) c) 0) ?_
        refine lv_istore_n (lv' := [(1, .int (nI ((sm (fun q9 => sm (fun p9 => nz (ig q9 p9)) C) r + sm (fun p9 => nz (ig r p9)) c) + 0))), (9, .int (ig r c)), (8, .int (nI c)), (7, .int (nI C)), (6, .ref (ai r)), (5, .ref (ai r)), (4, .int (nI r)), (3, .int (nI R)), (2, .ref io), (0, .ref so)]) hx hb dX4_frozen_63 rfl hl (by decide) rfl (fun ls hl => ?_)
        have e9_9 : (nI ((sm (fun q9 => sm (fun p9 => nz (ig q9 p9)) C) r + sm (fun p9 => nz (ig r p9)) c) + 0)) = (nI (sm (fun q9 => sm (fun p9 => nz (ig q9 p9)) C) r + sm (fun p9 => nz (ig r p9)) (c + 1))) := congrArg nI (by first | exact nb_step (nz_0 c_8) | exact nb_step (nz_1 c_8))
        have hl : lv_has ls 10 [(1, .int (nI (sm (fun q9 => sm (fun p9 => nz (ig q9 p9)) C) r + sm (fun p9 => nz (ig r p9)) (c + 1)))), (9, .int (ig r c)), (8, .int (nI c)), (7, .int (nI C)), (6, .ref (ai r)), (5, .ref (ai r)), (4, .int (nI r)), (3, .int (nI R)), (2, .ref io), (0, .ref so)] := by rw [← e9_9]; exact hl
        refine lv_iinc (v := nI (c + 1)) (lv' := [(8, .int (nI (c + 1))), (1, .int (nI (sm (fun q9 => sm (fun p9 => nz (ig q9 p9)) C) r + sm (fun p9 => nz (ig r p9)) (c + 1)))), (9, .int (ig r c)), (7, .int (nI C)), (6, .ref (ai r)), (5, .ref (ai r)), (4, .int (nI r)), (3, .int (nI R)), (2, .ref io), (0, .ref so)]) hx hb dX4_frozen_64 hl (k := 2) rfl (nI_1 _) (by decide) rfl (fun ls hl => ?_)
        refine lv_goto (tgt := 37) hx hb dX4_frozen_67 (by decide) ?_
        exact ih_4 (c + 1) (by omega) (by first | omega | (simp only []; omega) | (show _ < _; simp only []; omega)) H locs hP hD hS ls (lv_sub hl [0, 3, 4, 5, 6, 7, 8, 1, 9] rfl)
      · refine lv_iconst (v := 1) hx hb dX4_frozen_57 (by decide) ?_
        refine lv_goto (tgt := 62) hx hb dX4_frozen_58 (by decide) ?_
        refine lv_iadd hx hb dX4_frozen_62 ?_
        refine f_topi (y := nI ((sm (fun q9 => sm (fun p9 => nz (ig q9 p9)) C) r + sm (fun p9 => nz (ig r p9)) c) + 1)) (nI_add (sm (fun q9 => sm (fun p9 => nz (ig q9 p9)) C) r + sm (fun p9 => nz (ig r p9)) c) 1) ?_
        refine lv_istore_n (lv' := [(1, .int (nI ((sm (fun q9 => sm (fun p9 => nz (ig q9 p9)) C) r + sm (fun p9 => nz (ig r p9)) c) + 1))), (9, .int (ig r c)), (8, .int (nI c)), (7, .int (nI C)), (6, .ref (ai r)), (5, .ref (ai r)), (4, .int (nI r)), (3, .int (nI R)), (2, .ref io), (0, .ref so)]) hx hb dX4_frozen_63 rfl hl (by decide) rfl (fun ls hl => ?_)
        have e9_10 : (nI ((sm (fun q9 => sm (fun p9 => nz (ig q9 p9)) C) r + sm (fun p9 => nz (ig r p9)) c) + 1)) = (nI (sm (fun q9 => sm (fun p9 => nz (ig q9 p9)) C) r + sm (fun p9 => nz (ig r p9)) (c + 1))) := congrArg nI (by first | exact nb_step (nz_0 c_8) | exact nb_step (nz_1 c_8))
        have hl : lv_has ls 10 [(1, .int (nI (sm (fun q9 => sm (fun p9 => nz (ig q9 p9)) C) r + sm (fun p9 => nz (ig r p9)) (c + 1)))), (9, .int (ig r c)), (8, .int (nI c)), (7, .int (nI C)), (6, .ref (ai r)), (5, .ref (ai r)), (4, .int (nI r)), (3, .int (nI R)), (2, .ref io), (0, .ref so)] := by rw [← e9_10]; exact hl
        refine lv_iinc (v := nI (c + 1)) (lv' := [(8, .int (nI (c + 1))), (1, .int (nI (sm (fun q9 => sm (fun p9 => nz (ig q9 p9)) C) r + sm (fun p9 => nz (ig r p9)) (c + 1)))), (9, .int (ig r c)), (7, .int (nI C)), (6, .ref (ai r)), (5, .ref (ai r)), (4, .int (nI r)), (3, .int (nI R)), (2, .ref io), (0, .ref so)]) hx hb dX4_frozen_64 hl (k := 2) rfl (nI_1 _) (by decide) rfl (fun ls hl => ?_)
        refine lv_goto (tgt := 37) hx hb dX4_frozen_67 (by decide) ?_
        exact ih_4 (c + 1) (by omega) (by first | omega | (simp only []; omega) | (show _ < _; simp only []; omega)) H locs hP hD hS ls (lv_sub hl [0, 3, 4, 5, 6, 7, 8, 1, 9] rfl)

theorem k_X4_melted : yX4_melted.cls = RX4 ∧ yX4_melted.cls ≠ "java/lang/invoke/MethodHandle" ∧ yX4_melted.cls ≠ "java/lang/invoke/VarHandle" ∧ (parseMethodDescriptor yX4_melted.desc).map (fun d => d.parameters.length) = some 0 := by decide +kernel
theorem wb_X4_melted_4 : ∀ w ∈ wsX40, w ∈ wsX4_melted := (fun _ h => List.mem_cons_of_mem _ (List.mem_append_right _ h))
theorem wi_X4_melted_1 : (Cond.fieldLink RX4 16 "FrostPaneLaw$Sim" "melt" "[[I") ∈ wsX4_melted := List.mem_of_getElem? (i := 1) rfl
set_option maxHeartbeats 4000000 in
set_option maxRecDepth 100000 in
theorem c_X4_melted (l : Launch) (D : va_G) (cI cZ cP cQ : ClassId) (sz : Nat) (so io mo ro C R F n b : Nat) (gn : Int32) (L : List Nat) (f : Nat → va_E) (ai mi ri : Nat → Nat) (ig mg rg : Nat → Nat → Int32) (hC1 : 3 ≤ C) (hC : C ≤ 12) (hR1 : 3 ≤ R) (hR : R ≤ 12) (hF : F ≤ 2) (hn : n ≤ 6) (hb0 : b < n) (hw_ai : Rw cZ L f R C ai ig) (hw_mi : Rw cI L f R C mi mg) (hw_ri : Rw cI L f n 2 ri rg) : f_Mi l yX4_melted wsX4_melted ({ frames := 0, cells := 0, slots := 0, locals := 0 }) D (fTY cI cZ cP cQ) [.ref so] sz (([(so, .inr (4, [.ref io, .ref mo, .int (nI F), .int gn, .int (nI b), .ref ro])), (io, .inl (cQ, R, .inr (.inr (.inr (.inr (rq ai)))))), (mo, .inl (cP, R, .inr (.inr (.inr (.inr (rq mi)))))), (ro, .inl (cP, n, .inr (.inr (.inr (.inr (rq ri))))))] ++ va_pl L f)) (nI (sm (fun q9 => sm (fun p9 => pz (mg q9 p9)) C) R)) (([(so, .inr (4, [.ref io, .ref mo, .int (nI F), .int gn, .int (nI b), .ref ro])), (io, .inl (cQ, R, .inr (.inr (.inr (.inr (rq ai)))))), (mo, .inl (cP, R, .inr (.inr (.inr (.inr (rq mi)))))), (ro, .inl (cP, n, .inr (.inr (.inr (.inr (rq ri))))))] ++ va_pl L f)) := by
  refine f_ent_i (by decide) rfl (Nat.le_of_ble_eq_true rfl) ?_
  intro pg ev s m below meth cd hx hb hr hts hown hlocks hml hnm hsz hP hK hN A hD hA hS ls hl
  have hown : s.vm.findClass RX4 = some m.cls := hown
  have hl : lv_has ls 10 [(0, .ref so)] := hl
  refine lv_iconst (v := 0) hx hb dX4_melted_0 (by decide) ?_
  refine f_topi (y := nI (sm (fun q9 => sm (fun p9 => pz (mg q9 p9)) C) 0)) (by rfl) ?_
  refine lv_istore_n (lv' := [(1, .int (nI (sm (fun q9 => sm (fun p9 => pz (mg q9 p9)) C) 0))), (0, .ref so)]) hx hb dX4_melted_1 rfl hl (by decide) rfl (fun ls hl => ?_)
  refine lv_aload_n hx hb dX4_melted_2 rfl (lv_at hl 1 rfl) ?_
  refine va_get (D := D) (ci := 4) (v := .ref mo) (C := RX4) (T := TX4) (N := 6) hx hb hts wb_X4_melted_4 hown hK hP 0 rfl rfl 1 (by decide) (hts _ wi_X4_melted_1) (fun _ h9 => h9) rfl dX4_melted_3 ?_
  refine lv_astore_n (lv' := [(2, .ref mo), (1, .int (nI (sm (fun q9 => sm (fun p9 => pz (mg q9 p9)) C) 0))), (0, .ref so)]) hx hb dX4_melted_6 rfl hl (by decide) rfl (fun ls hl => ?_)
  refine lv_aload_n hx hb dX4_melted_7 rfl (lv_at hl 0 rfl) ?_
  refine va_alen (v := nI R) hx hb hK hP 2 2 rfl rfl rfl dX4_melted_8 ?_
  refine lv_istore_n (lv' := [(3, .int (nI R)), (2, .ref mo), (1, .int (nI (sm (fun q9 => sm (fun p9 => pz (mg q9 p9)) C) 0))), (0, .ref so)]) hx hb dX4_melted_9 rfl hl (by decide) rfl (fun ls hl => ?_)
  refine lv_iconst (v := 0) hx hb dX4_melted_10 (by decide) ?_
  refine lv_istore (lv' := [(4, .int 0), (3, .int (nI R)), (2, .ref mo), (1, .int (nI (sm (fun q9 => sm (fun p9 => pz (mg q9 p9)) C) 0))), (0, .ref so)]) hx hb dX4_melted_11 hl (by decide) rfl (fun ls hl => ?_)
  refine f_loopW (σ := Nat) (D := D) (A := A) (H0 := s.heap) 10 13 (fun u9 => [(4, .int (nI u9)), (3, .int (nI R)), (2, .ref mo), (1, .int (nI (sm (fun q9 => sm (fun p9 => pz (mg q9 p9)) C) u9))), (0, .ref so)]) (fun u9 => ([(so, .inr (4, [.ref io, .ref mo, .int (nI F), .int gn, .int (nI b), .ref ro])), (io, .inl (cQ, R, .inr (.inr (.inr (.inr (rq ai)))))), (mo, .inl (cP, R, .inr (.inr (.inr (.inr (rq mi)))))), (ro, .inl (cP, n, .inr (.inr (.inr (.inr (rq ri))))))] ++ va_pl L f)) (fun u9 => u9 ≤ R) (fun u9 => R - u9)
      (fun u9 hi_2 ih_1 H locs hP hD hS ls hl => ?_) 0 (Nat.zero_le _) hP hD hS (lv_sub hl [0, 1, 2, 3, 4] rfl)
  obtain ⟨r, rfl⟩ : ∃ z, z = u9 := ⟨_, rfl⟩
  have hi_2 : r ≤ R := hi_2
  have hl : lv_has ls 10 [(4, .int (nI r)), (3, .int (nI R)), (2, .ref mo), (1, .int (nI (sm (fun q9 => sm (fun p9 => pz (mg q9 p9)) C) r))), (0, .ref so)] := hl
  have hP : va_P D vwCl ([(so, .inr (4, [.ref io, .ref mo, .int (nI F), .int gn, .int (nI b), .ref ro])), (io, .inl (cQ, R, .inr (.inr (.inr (.inr (rq ai)))))), (mo, .inl (cP, R, .inr (.inr (.inr (.inr (rq mi)))))), (ro, .inl (cP, n, .inr (.inr (.inr (.inr (rq ri))))))] ++ va_pl L f) _ := hP
  have hD : va_D A ([(so, .inr (4, [.ref io, .ref mo, .int (nI F), .int gn, .int (nI b), .ref ro])), (io, .inl (cQ, R, .inr (.inr (.inr (.inr (rq ai)))))), (mo, .inl (cP, R, .inr (.inr (.inr (.inr (rq mi)))))), (ro, .inl (cP, n, .inr (.inr (.inr (.inr (rq ri))))))] ++ va_pl L f) := hD
  refine lv_iload hx hb dX4_melted_13 (lv_at hl 0 rfl) ?_
  refine lv_iload_n hx hb dX4_melted_15 rfl (lv_at hl 1 rfl) ?_
  refine lv_icmp_ge (tgt := 76) hx hb dX4_melted_16 (by decide) (fun c_3 => ?_) (fun c_3 => ?_)
  · have n_3 : R ≤ r := (nI_leI (a := R) (b := r) (by omega) (by omega)).mp c_3
    refine lv_iload_n hx hb dX4_melted_76 rfl (lv_at hl 3 rfl) ?_
    exact f_ret_i hx hb hr hlocks hP hD hS dX4_melted_77 (by rw [show r = R by omega])
  · have n_3 : r < R := Nat.lt_of_not_le (fun h => c_3 ((nI_leI (a := R) (b := r) (by omega) (by omega)).mpr h))
    refine lv_aload_n hx hb dX4_melted_19 rfl (lv_at hl 2 rfl) ?_
    refine lv_iload hx hb dX4_melted_20 (lv_at hl 0 rfl) ?_
    refine g_aald (k := r) (v := mi r) hx hb hK hP 2 2 rfl rfl rfl (by omega) (by first | decide | omega) rfl dX4_melted_22 ?_
    refine lv_astore (lv' := [(5, .ref (mi r)), (4, .int (nI r)), (3, .int (nI R)), (2, .ref mo), (1, .int (nI (sm (fun q9 => sm (fun p9 => pz (mg q9 p9)) C) r))), (0, .ref so)]) hx hb dX4_melted_23 hl (by decide) rfl (fun ls hl => ?_)
    refine lv_aload hx hb dX4_melted_25 (lv_at hl 0 rfl) ?_
    refine lv_astore (lv' := [(6, .ref (mi r)), (5, .ref (mi r)), (4, .int (nI r)), (3, .int (nI R)), (2, .ref mo), (1, .int (nI (sm (fun q9 => sm (fun p9 => pz (mg q9 p9)) C) r))), (0, .ref so)]) hx hb dX4_melted_27 hl (by decide) rfl (fun ls hl => ?_)
    refine lv_aload hx hb dX4_melted_29 (lv_at hl 0 rfl) ?_
    refine g_ilen (r := r) hx hb hK hP hw_mi (by omega) dX4_melted_31 ?_
    refine lv_istore (lv' := [(7, .int (nI C)), (6, .ref (mi r)), (5, .ref (mi r)), (4, .int (nI r)), (3, .int (nI R)), (2, .ref mo), (1, .int (nI (sm (fun q9 => sm (fun p9 => pz (mg q9 p9)) C) r))), (0, .ref so)]) hx hb dX4_melted_32 hl (by decide) rfl (fun ls hl => ?_)
    refine lv_iconst (v := 0) hx hb dX4_melted_34 (by decide) ?_
    refine lv_istore (lv' := [(8, .int 0), (7, .int (nI C)), (6, .ref (mi r)), (5, .ref (mi r)), (4, .int (nI r)), (3, .int (nI R)), (2, .ref mo), (1, .int (nI (sm (fun q9 => sm (fun p9 => pz (mg q9 p9)) C) r))), (0, .ref so)]) hx hb dX4_melted_35 hl (by decide) rfl (fun ls hl => ?_)
    refine f_loopW (σ := Nat) (D := D) (A := A) (H0 := s.heap) 10 37 (fun u9 => [(8, .int (nI u9)), (7, .int (nI C)), (6, .ref (mi r)), (5, .ref (mi r)), (4, .int (nI r)), (3, .int (nI R)), (2, .ref mo), (1, .int (nI (sm (fun q9 => sm (fun p9 => pz (mg q9 p9)) C) r + sm (fun p9 => pz (mg r p9)) u9))), (0, .ref so)]) (fun u9 => ([(so, .inr (4, [.ref io, .ref mo, .int (nI F), .int gn, .int (nI b), .ref ro])), (io, .inl (cQ, R, .inr (.inr (.inr (.inr (rq ai)))))), (mo, .inl (cP, R, .inr (.inr (.inr (.inr (rq mi)))))), (ro, .inl (cP, n, .inr (.inr (.inr (.inr (rq ri))))))] ++ va_pl L f)) (fun u9 => u9 ≤ C) (fun u9 => C - u9)
        (fun u9 hi_5 ih_4 H locs hP hD hS ls hl => ?_) 0 (Nat.zero_le _) hP hD hS (lv_sub hl [0, 1, 2, 3, 4, 5, 6, 7, 8] rfl)
    obtain ⟨c, rfl⟩ : ∃ z, z = u9 := ⟨_, rfl⟩
    have hi_5 : c ≤ C := hi_5
    have hl : lv_has ls 10 [(8, .int (nI c)), (7, .int (nI C)), (6, .ref (mi r)), (5, .ref (mi r)), (4, .int (nI r)), (3, .int (nI R)), (2, .ref mo), (1, .int (nI (sm (fun q9 => sm (fun p9 => pz (mg q9 p9)) C) r + sm (fun p9 => pz (mg r p9)) c))), (0, .ref so)] := hl
    have hP : va_P D vwCl ([(so, .inr (4, [.ref io, .ref mo, .int (nI F), .int gn, .int (nI b), .ref ro])), (io, .inl (cQ, R, .inr (.inr (.inr (.inr (rq ai)))))), (mo, .inl (cP, R, .inr (.inr (.inr (.inr (rq mi)))))), (ro, .inl (cP, n, .inr (.inr (.inr (.inr (rq ri))))))] ++ va_pl L f) _ := hP
    have hD : va_D A ([(so, .inr (4, [.ref io, .ref mo, .int (nI F), .int gn, .int (nI b), .ref ro])), (io, .inl (cQ, R, .inr (.inr (.inr (.inr (rq ai)))))), (mo, .inl (cP, R, .inr (.inr (.inr (.inr (rq mi)))))), (ro, .inl (cP, n, .inr (.inr (.inr (.inr (rq ri))))))] ++ va_pl L f) := hD
    refine lv_iload hx hb dX4_melted_37 (lv_at hl 0 rfl) ?_
    refine lv_iload hx hb dX4_melted_39 (lv_at hl 1 rfl) ?_
    refine lv_icmp_ge (tgt := 70) hx hb dX4_melted_41 (by decide) (fun c_6 => ?_) (fun c_6 => ?_)
    · have n_6 : C ≤ c := (nI_leI (a := C) (b := c) (by omega) (by omega)).mp c_6
      have e9_7 : (nI (sm (fun q9 => sm (fun p9 => pz (mg q9 p9)) C) r + sm (fun p9 => pz (mg r p9)) c)) = (nI (sm (fun q9 => sm (fun p9 => pz (mg q9 p9)) C) (r + 1))) := by rw [show c = C by omega]; rfl
      have hl : lv_has ls 10 [(8, .int (nI c)), (7, .int (nI C)), (6, .ref (mi r)), (5, .ref (mi r)), (4, .int (nI r)), (3, .int (nI R)), (2, .ref mo), (1, .int (nI (sm (fun q9 => sm (fun p9 => pz (mg q9 p9)) C) (r + 1)))), (0, .ref so)] := by rw [← e9_7]; exact hl
      refine lv_iinc (v := nI (r + 1)) (lv' := [(4, .int (nI (r + 1))), (8, .int (nI c)), (7, .int (nI C)), (6, .ref (mi r)), (5, .ref (mi r)), (3, .int (nI R)), (2, .ref mo), (1, .int (nI (sm (fun q9 => sm (fun p9 => pz (mg q9 p9)) C) (r + 1)))), (0, .ref so)]) hx hb dX4_melted_70 hl (k := 4) rfl (nI_1 _) (by decide) rfl (fun ls hl => ?_)
      refine lv_goto (tgt := 13) hx hb dX4_melted_73 (by decide) ?_
      exact ih_1 (r + 1) (by omega) (by first | omega | (simp only []; omega) | (show _ < _; simp only []; omega)) H locs hP hD hS ls (lv_sub hl [0, 5, 6, 7, 8] rfl)
    · have n_6 : c < C := Nat.lt_of_not_le (fun h => c_6 ((nI_leI (a := C) (b := c) (by omega) (by omega)).mpr h))
      refine lv_aload hx hb dX4_melted_44 (lv_at hl 2 rfl) ?_
      refine lv_iload hx hb dX4_melted_46 (lv_at hl 0 rfl) ?_
      refine g_iald (r := r) (k := c) hx hb hK hP hw_mi (by omega) rfl (by omega) (by first | decide | omega) dX4_melted_48 ?_
      refine lv_istore (lv' := [(9, .int (mg r c)), (8, .int (nI c)), (7, .int (nI C)), (6, .ref (mi r)), (5, .ref (mi r)), (4, .int (nI r)), (3, .int (nI R)), (2, .ref mo), (1, .int (nI (sm (fun q9 => sm (fun p9 => pz (mg q9 p9)) C) r + sm (fun p9 => pz (mg r p9)) c))), (0, .ref so)]) hx hb dX4_melted_49 hl (by decide) rfl (fun ls hl => ?_)
      refine lv_iload_n hx hb dX4_melted_51 rfl (lv_at hl 8 rfl) ?_
      refine lv_iload hx hb dX4_melted_52 (lv_at hl 0 rfl) ?_
      refine lv_if_le (tgt := 61) hx hb dX4_melted_54 (by decide) (fun c_8 => ?_) (fun c_8 => ?_)
      · refine lv_iconst (v := 0) hx hb dX4_melted_61 (by decide) ?_
        refine lv_iadd hx hb dX4_melted_62 ?_
        refine f_topi (y := nI ((sm (fun q9 => sm (fun p9 => pz (mg q9 p9)) C) r + sm (fun p9 => pz (mg r p9)) c) + 0)) (nI_add (sm (fun q9 => sm (fun p9 => pz (mg q9 p9)) C) r + sm (fun p9 => pz (mg r p9)) c) 0) ?_
        refine lv_istore_n (lv' := [(1, .int (nI ((sm (fun q9 => sm (fun p9 => pz (mg q9 p9)) C) r + sm (fun p9 => pz (mg r p9)) c) + 0))), (9, .int (mg r c)), (8, .int (nI c)), (7, .int (nI C)), (6, .ref (mi r)), (5, .ref (mi r)), (4, .int (nI r)), (3, .int (nI R)), (2, .ref mo), (0, .ref so)]) hx hb dX4_melted_63 rfl hl (by decide) rfl (fun ls hl => ?_)
        have e9_9 : (nI ((sm (fun q9 => sm (fun p9 => pz (mg q9 p9)) C) r + sm (fun p9 => pz (mg r p9)) c) + 0)) = (nI (sm (fun q9 => sm (fun p9 => pz (mg q9 p9)) C) r + sm (fun p9 => pz (mg r p9)) (c + 1))) := congrArg nI (by first | exact nb_step (pz_0 c_8) | exact nb_step (pz_1 c_8))
        have hl : lv_has ls 10 [(1, .int (nI (sm (fun q9 => sm (fun p9 => pz (mg q9 p9)) C) r + sm (fun p9 => pz (mg r p9)) (c + 1)))), (9, .int (mg r c)), (8, .int (nI c)), (7, .int (nI C)), (6, .ref (mi r)), (5, .ref (mi r)), (4, .int (nI r)), (3, .int (nI R)), (2, .ref mo), (0, .ref so)] := by rw [← e9_9]; exact hl
        refine lv_iinc (v := nI (c + 1)) (lv' := [(8, .int (nI (c + 1))), (1, .int (nI (sm (fun q9 => sm (fun p9 => pz (mg q9 p9)) C) r + sm (fun p9 => pz (mg r p9)) (c + 1)))), (9, .int (mg r c)), (7, .int (nI C)), (6, .ref (mi r)), (5, .ref (mi r)), (4, .int (nI r)), (3, .int (nI R)), (2, .ref mo), (0, .ref so)]) hx hb dX4_melted_64 hl (k := 2) rfl (nI_1 _) (by decide) rfl (fun ls hl => ?_)
        refine lv_goto (tgt := 37) hx hb dX4_melted_67 (by decide) ?_
        exact ih_4 (c + 1) (by omega) (by first | omega | (simp only []; omega) | (show _ < _; simp only []; omega)) H locs hP hD hS ls (lv_sub hl [0, 3, 4, 5, 6, 7, 8, 1, 9] rfl)
      · refine lv_iconst (v := 1) hx hb dX4_melted_57 (by decide) ?_
        refine lv_goto (tgt := 62) hx hb dX4_melted_58 (by decide) ?_
        refine lv_iadd hx hb dX4_melted_62 ?_
        refine f_topi (y := nI ((sm (fun q9 => sm (fun p9 => pz (mg q9 p9)) C) r + sm (fun p9 => pz (mg r p9)) c) + 1)) (nI_add (sm (fun q9 => sm (fun p9 => pz (mg q9 p9)) C) r + sm (fun p9 => pz (mg r p9)) c) 1) ?_
        refine lv_istore_n (lv' := [(1, .int (nI ((sm (fun q9 => sm (fun p9 => pz (mg q9 p9)) C) r + sm (fun p9 => pz (mg r p9)) c) + 1))), (9, .int (mg r c)), (8, .int (nI c)), (7, .int (nI C)), (6, .ref (mi r)), (5, .ref (mi r)), (4, .int (nI r)), (3, .int (nI R)), (2, .ref mo), (0, .ref so)]) hx hb dX4_melted_63 rfl hl (by decide) rfl (fun ls hl => ?_)
        have e9_10 : (nI ((sm (fun q9 => sm (fun p9 => pz (mg q9 p9)) C) r + sm (fun p9 => pz (mg r p9)) c) + 1)) = (nI (sm (fun q9 => sm (fun p9 => pz (mg q9 p9)) C) r + sm (fun p9 => pz (mg r p9)) (c + 1))) := congrArg nI (by first | exact nb_step (pz_0 c_8) | exact nb_step (pz_1 c_8))
        have hl : lv_has ls 10 [(1, .int (nI (sm (fun q9 => sm (fun p9 => pz (mg q9 p9)) C) r + sm (fun p9 => pz (mg r p9)) (c + 1)))), (9, .int (mg r c)), (8, .int (nI c)), (7, .int (nI C)), (6, .ref (mi r)), (5, .ref (mi r)), (4, .int (nI r)), (3, .int (nI R)), (2, .ref mo), (0, .ref so)] := by rw [← e9_10]; exact hl
        refine lv_iinc (v := nI (c + 1)) (lv' := [(8, .int (nI (c + 1))), (1, .int (nI (sm (fun q9 => sm (fun p9 => pz (mg q9 p9)) C) r + sm (fun p9 => pz (mg r p9)) (c + 1)))), (9, .int (mg r c)), (7, .int (nI C)), (6, .ref (mi r)), (5, .ref (mi r)), (4, .int (nI r)), (3, .int (nI R)), (2, .ref mo), (0, .ref so)]) hx hb dX4_melted_64 hl (k := 2) rfl (nI_1 _) (by decide) rfl (fun ls hl => ?_)
        refine lv_goto (tgt := 37) hx hb dX4_melted_67 (by decide) ?_
        exact ih_4 (c + 1) (by omega) (by first | omega | (simp only []; omega) | (show _ < _; simp only []; omega)) H locs hP hD hS ls (lv_sub hl [0, 3, 4, 5, 6, 7, 8, 1, 9] rfl)

/-- two panes alike, cell by cell -/
def lkP (C R : Nat) (ig mg ig2 mg2 : Nat → Nat → Int32) : Prop := ∀ r, r < R → ∀ c, c < C → ig r c = ig2 r c ∧ mg r c = mg2 r c
noncomputable def lkS (C R : Nat) (ig mg ig2 mg2 : Nat → Nat → Int32) : Bool := @decide (lkP C R ig mg ig2 mg2) (Classical.propDecidable _)
theorem lkS_t {C R : Nat} {ig mg ig2 mg2 : Nat → Nat → Int32} (h : lkP C R ig mg ig2 mg2) : (1 : Int32) = zb (lkS C R ig mg ig2 mg2) := by unfold lkS; rw [@decide_eq_true _ (Classical.propDecidable _) h]; rfl
theorem lkS_f {C R : Nat} {ig mg ig2 mg2 : Nat → Nat → Int32} (h : ¬ lkP C R ig mg ig2 mg2) : (0 : Int32) = zb (lkS C R ig mg ig2 mg2) := by unfold lkS; rw [@decide_eq_false _ (Classical.propDecidable _) h]; rfl
theorem lt_s2 {p : Nat → Prop} {k : Nat} (h : ∀ j, j < k → p j) (h2 : p k) : ∀ j, j < k + 1 → p j := fun j hj => by
  by_cases e : j = k
  · rw [e]; exact h2
  · exact h j (by omega)
theorem k_X4_isLike : yX4_isLike.cls = RX4 ∧ yX4_isLike.cls ≠ "java/lang/invoke/MethodHandle" ∧ yX4_isLike.cls ≠ "java/lang/invoke/VarHandle" ∧ (parseMethodDescriptor yX4_isLike.desc).map (fun d => d.parameters.length) = some 1 := by decide +kernel
theorem wb_X4_isLike_4 : ∀ w ∈ wsX40, w ∈ wsX4_isLike := (fun _ h => List.mem_cons_of_mem _ (List.mem_append_right _ h))
theorem wi_X4_isLike_1 : (Cond.fieldLink RX4 9 "FrostPaneLaw$Sim" "ice" "[[Z") ∈ wsX4_isLike := List.mem_of_getElem? (i := 1) rfl
theorem wi_X4_isLike_2 : (Cond.fieldLink RX4 16 "FrostPaneLaw$Sim" "melt" "[[I") ∈ wsX4_isLike := List.mem_of_getElem? (i := 2) rfl
set_option maxHeartbeats 4000000 in
set_option maxRecDepth 100000 in
theorem c_X4_isLike (l : Launch) (D : va_G) (cI cZ cP cQ : ClassId) (sz : Nat) (so io mo ro so2 io2 mo2 ro2 C R F F2 b b2 : Nat) (gn gn2 : Int32) (L : List Nat) (f : Nat → va_E) (ai mi aj mj : Nat → Nat) (ig mg ig2 mg2 : Nat → Nat → Int32) (hC1 : 3 ≤ C) (hC : C ≤ 12) (hR1 : 3 ≤ R) (hR : R ≤ 12) (hw_ai : Rw cZ L f R C ai ig) (hw_mi : Rw cI L f R C mi mg) (hw_aj : Rw cZ L f R C aj ig2) (hw_mj : Rw cI L f R C mj mg2) : f_Mi l yX4_isLike wsX4_isLike ({ frames := 0, cells := 0, slots := 0, locals := 0 }) D (fTY cI cZ cP cQ) [.ref so, .ref so2] sz (([(so, .inr (4, [.ref io, .ref mo, .int (nI F), .int gn, .int (nI b), .ref ro])), (io, .inl (cQ, R, .inr (.inr (.inr (.inr (rq ai)))))), (mo, .inl (cP, R, .inr (.inr (.inr (.inr (rq mi)))))), (so2, .inr (4, [.ref io2, .ref mo2, .int (nI F2), .int gn2, .int (nI b2), .ref ro2])), (io2, .inl (cQ, R, .inr (.inr (.inr (.inr (rq aj)))))), (mo2, .inl (cP, R, .inr (.inr (.inr (.inr (rq mj))))))] ++ va_pl L f)) (zb (lkS C R ig mg ig2 mg2)) (([(so, .inr (4, [.ref io, .ref mo, .int (nI F), .int gn, .int (nI b), .ref ro])), (io, .inl (cQ, R, .inr (.inr (.inr (.inr (rq ai)))))), (mo, .inl (cP, R, .inr (.inr (.inr (.inr (rq mi)))))), (so2, .inr (4, [.ref io2, .ref mo2, .int (nI F2), .int gn2, .int (nI b2), .ref ro2])), (io2, .inl (cQ, R, .inr (.inr (.inr (.inr (rq aj)))))), (mo2, .inl (cP, R, .inr (.inr (.inr (.inr (rq mj))))))] ++ va_pl L f)) := by
  refine f_ent_i (by decide) rfl (Nat.le_of_ble_eq_true rfl) ?_
  intro pg ev s m below meth cd hx hb hr hts hown hlocks hml hnm hsz hP hK hN A hD hA hS ls hl
  have hown : s.vm.findClass RX4 = some m.cls := hown
  have hl : lv_has ls 4 [(0, .ref so), (1, .ref so2)] := hl
  refine lv_iconst (v := 0) hx hb dX4_isLike_0 (by decide) ?_
  refine lv_istore_n (lv' := [(2, .int 0), (0, .ref so), (1, .ref so2)]) hx hb dX4_isLike_1 rfl hl (by decide) rfl (fun ls hl => ?_)
  refine f_loopW (σ := Nat) (D := D) (A := A) (H0 := s.heap) 4 2 (fun u9 => [(2, .int (nI u9)), (0, .ref so), (1, .ref so2)]) (fun u9 => ([(so, .inr (4, [.ref io, .ref mo, .int (nI F), .int gn, .int (nI b), .ref ro])), (io, .inl (cQ, R, .inr (.inr (.inr (.inr (rq ai)))))), (mo, .inl (cP, R, .inr (.inr (.inr (.inr (rq mi)))))), (so2, .inr (4, [.ref io2, .ref mo2, .int (nI F2), .int gn2, .int (nI b2), .ref ro2])), (io2, .inl (cQ, R, .inr (.inr (.inr (.inr (rq aj)))))), (mo2, .inl (cP, R, .inr (.inr (.inr (.inr (rq mj))))))] ++ va_pl L f)) (fun u9 => u9 ≤ R ∧ ∀ q9, q9 < u9 → ∀ p9, p9 < C → ig q9 p9 = ig2 q9 p9 ∧ mg q9 p9 = mg2 q9 p9) (fun u9 => R - u9)
      (fun u9 hi_2 ih_1 H locs hP hD hS ls hl => ?_) 0 (⟨Nat.zero_le _, fun _ h => absurd h (Nat.not_lt_zero _)⟩) hP hD hS (lv_sub hl [0, 1, 2] rfl)
  obtain ⟨r, rfl⟩ : ∃ z, z = u9 := ⟨_, rfl⟩
  have hi_2 : r ≤ R ∧ ∀ q9, q9 < r → ∀ p9, p9 < C → ig q9 p9 = ig2 q9 p9 ∧ mg q9 p9 = mg2 q9 p9 := hi_2
  obtain ⟨hrR, hall⟩ := hi_2
  have hl : lv_has ls 4 [(2, .int (nI r)), (0, .ref so), (1, .ref so2)] := hl
  have hP : va_P D vwCl ([(so, .inr (4, [.ref io, .ref mo, .int (nI F), .int gn, .int (nI b), .ref ro])), (io, .inl (cQ, R, .inr (.inr (.inr (.inr (rq ai)))))), (mo, .inl (cP, R, .inr (.inr (.inr (.inr (rq mi)))))), (so2, .inr (4, [.ref io2, .ref mo2, .int (nI F2), .int gn2, .int (nI b2), .ref ro2])), (io2, .inl (cQ, R, .inr (.inr (.inr (.inr (rq aj)))))), (mo2, .inl (cP, R, .inr (.inr (.inr (.inr (rq mj))))))] ++ va_pl L f) _ := hP
  have hD : va_D A ([(so, .inr (4, [.ref io, .ref mo, .int (nI F), .int gn, .int (nI b), .ref ro])), (io, .inl (cQ, R, .inr (.inr (.inr (.inr (rq ai)))))), (mo, .inl (cP, R, .inr (.inr (.inr (.inr (rq mi)))))), (so2, .inr (4, [.ref io2, .ref mo2, .int (nI F2), .int gn2, .int (nI b2), .ref ro2])), (io2, .inl (cQ, R, .inr (.inr (.inr (.inr (rq aj)))))), (mo2, .inl (cP, R, .inr (.inr (.inr (.inr (rq mj))))))] ++ va_pl L f) := hD
  refine lv_iload_n hx hb dX4_isLike_2 rfl (lv_at hl 0 rfl) ?_
  refine lv_aload_n hx hb dX4_isLike_3 rfl (lv_at hl 1 rfl) ?_
  refine va_get (D := D) (ci := 4) (v := .ref io) (C := RX4) (T := TX4) (N := 6) hx hb hts wb_X4_isLike_4 hown hK hP 0 rfl rfl 0 (by decide) (hts _ wi_X4_isLike_1) (fun _ h9 => h9) rfl dX4_isLike_4 ?_
  refine va_alen (v := nI R) hx hb hK hP 1 3 rfl rfl rfl dX4_isLike_7 ?_
  refine lv_icmp_ge (tgt := 76) hx hb dX4_isLike_8 (by decide) (fun c_3 => ?_) (fun c_3 => ?_)
  · have n_3 : R ≤ r := (nI_leI (a := R) (b := r) (by omega) (by omega)).mp c_3
    refine lv_iconst (v := 1) hx hb dX4_isLike_76 (by decide) ?_
    exact f_ret_z hx hb hr hlocks hP hD hS dX4_isLike_77 (lkS_t (fun r1 h1 => hall r1 (by omega))) (zb_nar _)
  · have n_3 : r < R := Nat.lt_of_not_le (fun h => c_3 ((nI_leI (a := R) (b := r) (by omega) (by omega)).mpr h))
    refine lv_iconst (v := 0) hx hb dX4_isLike_11 (by decide) ?_
    refine lv_istore_n (lv' := [(3, .int 0), (2, .int (nI r)), (0, .ref so), (1, .ref so2)]) hx hb dX4_isLike_12 rfl hl (by decide) rfl (fun ls hl => ?_)
    refine f_loopW (σ := Nat) (D := D) (A := A) (H0 := s.heap) 4 13 (fun u9 => [(3, .int (nI u9)), (2, .int (nI r)), (0, .ref so), (1, .ref so2)]) (fun u9 => ([(so, .inr (4, [.ref io, .ref mo, .int (nI F), .int gn, .int (nI b), .ref ro])), (io, .inl (cQ, R, .inr (.inr (.inr (.inr (rq ai)))))), (mo, .inl (cP, R, .inr (.inr (.inr (.inr (rq mi)))))), (so2, .inr (4, [.ref io2, .ref mo2, .int (nI F2), .int gn2, .int (nI b2), .ref ro2])), (io2, .inl (cQ, R, .inr (.inr (.inr (.inr (rq aj)))))), (mo2, .inl (cP, R, .inr (.inr (.inr (.inr (rq mj))))))] ++ va_pl L f)) (fun u9 => u9 ≤ C ∧ ∀ p9, p9 < u9 → ig r p9 = ig2 r p9 ∧ mg r p9 = mg2 r p9) (fun u9 => C - u9)
        (fun u9 hi_5 ih_4 H locs hP hD hS ls hl => ?_) 0 (⟨Nat.zero_le _, fun _ h => absurd h (Nat.not_lt_zero _)⟩) hP hD hS (lv_sub hl [0, 1, 2, 3] rfl)
    obtain ⟨c, rfl⟩ : ∃ z, z = u9 := ⟨_, rfl⟩
    have hi_5 : c ≤ C ∧ ∀ p9, p9 < c → ig r p9 = ig2 r p9 ∧ mg r p9 = mg2 r p9 := hi_5
    obtain ⟨hcC, hrow⟩ := hi_5
    have hl : lv_has ls 4 [(3, .int (nI c)), (2, .int (nI r)), (0, .ref so), (1, .ref so2)] := hl
    have hP : va_P D vwCl ([(so, .inr (4, [.ref io, .ref mo, .int (nI F), .int gn, .int (nI b), .ref ro])), (io, .inl (cQ, R, .inr (.inr (.inr (.inr (rq ai)))))), (mo, .inl (cP, R, .inr (.inr (.inr (.inr (rq mi)))))), (so2, .inr (4, [.ref io2, .ref mo2, .int (nI F2), .int gn2, .int (nI b2), .ref ro2])), (io2, .inl (cQ, R, .inr (.inr (.inr (.inr (rq aj)))))), (mo2, .inl (cP, R, .inr (.inr (.inr (.inr (rq mj))))))] ++ va_pl L f) _ := hP
    have hD : va_D A ([(so, .inr (4, [.ref io, .ref mo, .int (nI F), .int gn, .int (nI b), .ref ro])), (io, .inl (cQ, R, .inr (.inr (.inr (.inr (rq ai)))))), (mo, .inl (cP, R, .inr (.inr (.inr (.inr (rq mi)))))), (so2, .inr (4, [.ref io2, .ref mo2, .int (nI F2), .int gn2, .int (nI b2), .ref ro2])), (io2, .inl (cQ, R, .inr (.inr (.inr (.inr (rq aj)))))), (mo2, .inl (cP, R, .inr (.inr (.inr (.inr (rq mj))))))] ++ va_pl L f) := hD
    refine lv_iload_n hx hb dX4_isLike_13 rfl (lv_at hl 0 rfl) ?_
    refine lv_aload_n hx hb dX4_isLike_14 rfl (lv_at hl 2 rfl) ?_
    refine va_get (D := D) (ci := 4) (v := .ref io) (C := RX4) (T := TX4) (N := 6) hx hb hts wb_X4_isLike_4 hown hK hP 0 rfl rfl 0 (by decide) (hts _ wi_X4_isLike_1) (fun _ h9 => h9) rfl dX4_isLike_15 ?_
    refine lv_iconst (v := 0) hx hb dX4_isLike_18 (by decide) ?_
    refine g_aald (k := 0) (v := ai 0) hx hb hK hP 1 3 rfl rfl rfl (by omega) (by first | decide | omega) rfl dX4_isLike_19 ?_
    refine g_zlen (r := 0) hx hb hK hP hw_ai (by omega) dX4_isLike_20 ?_
    refine lv_icmp_ge (tgt := 70) hx hb dX4_isLike_21 (by decide) (fun c_6 => ?_) (fun c_6 => ?_)
    · have n_6 : C ≤ c := (nI_leI (a := C) (b := c) (by omega) (by omega)).mp c_6
      refine lv_iinc (v := nI (r + 1)) (lv' := [(2, .int (nI (r + 1))), (3, .int (nI c)), (0, .ref so), (1, .ref so2)]) hx hb dX4_isLike_70 hl (k := 1) rfl (nI_1 _) (by decide) rfl (fun ls hl => ?_)
      refine lv_goto (tgt := 2) hx hb dX4_isLike_73 (by decide) ?_
      exact ih_1 (r + 1) (⟨by omega, lt_s2 hall (fun c1 h1 => hrow c1 (by omega))⟩) (by first | omega | (simp only []; omega) | (show _ < _; simp only []; omega)) H locs hP hD hS ls (lv_sub hl [0, 2, 3] rfl)
    · have n_6 : c < C := Nat.lt_of_not_le (fun h => c_6 ((nI_leI (a := C) (b := c) (by omega) (by omega)).mpr h))
      refine lv_aload_n hx hb dX4_isLike_24 rfl (lv_at hl 2 rfl) ?_
      refine va_get (D := D) (ci := 4) (v := .ref io) (C := RX4) (T := TX4) (N := 6) hx hb hts wb_X4_isLike_4 hown hK hP 0 rfl rfl 0 (by decide) (hts _ wi_X4_isLike_1) (fun _ h9 => h9) rfl dX4_isLike_25 ?_
      refine lv_iload_n hx hb dX4_isLike_28 rfl (lv_at hl 1 rfl) ?_
      refine g_aald (k := r) (v := ai r) hx hb hK hP 1 3 rfl rfl rfl (by omega) (by first | decide | omega) rfl dX4_isLike_29 ?_
      refine lv_iload_n hx hb dX4_isLike_30 rfl (lv_at hl 0 rfl) ?_
      refine g_zald (r := r) (k := c) hx hb hK hP hw_ai (by omega) rfl (by omega) (by first | decide | omega) dX4_isLike_31 ?_
      refine lv_aload_n hx hb dX4_isLike_32 rfl (lv_at hl 3 rfl) ?_
      refine va_get (D := D) (ci := 4) (v := .ref io2) (C := RX4) (T := TX4) (N := 6) hx hb hts wb_X4_isLike_4 hown hK hP 3 rfl rfl 0 (by decide) (hts _ wi_X4_isLike_1) (fun _ h9 => h9) rfl dX4_isLike_33 ?_
      refine lv_iload_n hx hb dX4_isLike_36 rfl (lv_at hl 1 rfl) ?_
      refine g_aald (k := r) (v := aj r) hx hb hK hP 4 3 rfl rfl rfl (by omega) (by first | decide | omega) rfl dX4_isLike_37 ?_
      refine lv_iload_n hx hb dX4_isLike_38 rfl (lv_at hl 0 rfl) ?_
      refine g_zald (r := r) (k := c) hx hb hK hP hw_aj (by omega) rfl (by omega) (by first | decide | omega) dX4_isLike_39 ?_
      refine lv_icmp_ne (tgt := 62) hx hb dX4_isLike_40 (by decide) (fun c_7 => ?_) (fun c_7 => ?_)
      · refine lv_iconst (v := 0) hx hb dX4_isLike_62 (by decide) ?_
        exact f_ret_z hx hb hr hlocks hP hD hS dX4_isLike_63 (lkS_f (fun z => by first | exact c_7 (z r (by omega) c (by omega)).2 | exact c_7 (z r (by omega) c (by omega)).1)) (zb_nar _)
      · refine lv_aload_n hx hb dX4_isLike_43 rfl (lv_at hl 2 rfl) ?_
        refine va_get (D := D) (ci := 4) (v := .ref mo) (C := RX4) (T := TX4) (N := 6) hx hb hts wb_X4_isLike_4 hown hK hP 0 rfl rfl 1 (by decide) (hts _ wi_X4_isLike_2) (fun _ h9 => h9) rfl dX4_isLike_44 ?_
        refine lv_iload_n hx hb dX4_isLike_47 rfl (lv_at hl 1 rfl) ?_
        refine g_aald (k := r) (v := mi r) hx hb hK hP 2 2 rfl rfl rfl (by omega) (by first | decide | omega) rfl dX4_isLike_48 ?_
        refine lv_iload_n hx hb dX4_isLike_49 rfl (lv_at hl 0 rfl) ?_
        refine g_iald (r := r) (k := c) hx hb hK hP hw_mi (by omega) rfl (by omega) (by first | decide | omega) dX4_isLike_50 ?_
        refine lv_aload_n hx hb dX4_isLike_51 rfl (lv_at hl 3 rfl) ?_
        refine va_get (D := D) (ci := 4) (v := .ref mo2) (C := RX4) (T := TX4) (N := 6) hx hb hts wb_X4_isLike_4 hown hK hP 3 rfl rfl 1 (by decide) (hts _ wi_X4_isLike_2) (fun _ h9 => h9) rfl dX4_isLike_52 ?_
        refine lv_iload_n hx hb dX4_isLike_55 rfl (lv_at hl 1 rfl) ?_
        refine g_aald (k := r) (v := mj r) hx hb hK hP 5 2 rfl rfl rfl (by omega) (by first | decide | omega) rfl dX4_isLike_56 ?_
        refine lv_iload_n hx hb dX4_isLike_57 rfl (lv_at hl 0 rfl) ?_
        refine g_iald (r := r) (k := c) hx hb hK hP hw_mj (by omega) rfl (by omega) (by first | decide | omega) dX4_isLike_58 ?_
        refine lv_icmp_eq (tgt := 64) hx hb dX4_isLike_59 (by decide) (fun c_8 => ?_) (fun c_8 => ?_)
        · refine lv_iinc (v := nI (c + 1)) (lv' := [(3, .int (nI (c + 1))), (2, .int (nI r)), (0, .ref so), (1, .ref so2)]) hx hb dX4_isLike_64 hl (k := 0) rfl (nI_1 _) (by decide) rfl (fun ls hl => ?_)
          refine lv_goto (tgt := 13) hx hb dX4_isLike_67 (by decide) ?_
          exact ih_4 (c + 1) (⟨by omega, lt_s2 hrow ⟨c_7, c_8⟩⟩) (by first | omega | (simp only []; omega) | (show _ < _; simp only []; omega)) H locs hP hD hS ls (lv_sub hl [0, 1, 2, 3] rfl)
        · refine lv_iconst (v := 0) hx hb dX4_isLike_62 (by decide) ?_
          exact f_ret_z hx hb hr hlocks hP hD hS dX4_isLike_63 (lkS_f (fun z => by first | exact c_8 (z r (by omega) c (by omega)).2 | exact c_8 (z r (by omega) c (by omega)).1)) (zb_nar _)

end C_specs_sim
