section CP
theorem k_J6_bitCount_0f7a4 : yJ6_bitCount_0f7a4.cls = RJ6 ∧ yJ6_bitCount_0f7a4.cls ≠ "java/lang/invoke/MethodHandle" ∧ yJ6_bitCount_0f7a4.cls ≠ "java/lang/invoke/VarHandle" ∧ (parseMethodDescriptor yJ6_bitCount_0f7a4.desc).map (fun d => d.parameters.length) = some 1 := by decide +kernel
theorem wi_J6_bitCount_0f7a4_1 : (Cond.constant RJ6 265 (1431655765)) ∈ wsJ6_bitCount_0f7a4 := List.mem_of_getElem? (i := 1) rfl
theorem wi_J6_bitCount_0f7a4_2 : (Cond.constant RJ6 266 (858993459)) ∈ wsJ6_bitCount_0f7a4 := List.mem_of_getElem? (i := 2) rfl
theorem wi_J6_bitCount_0f7a4_3 : (Cond.constant RJ6 267 (252645135)) ∈ wsJ6_bitCount_0f7a4 := List.mem_of_getElem? (i := 3) rfl
set_option maxHeartbeats 4000000 in
set_option maxRecDepth 100000 in
theorem c_J6_bitCount_0f7a4 (l : Launch) (D : va_G) (cI cZ cP cQ : ClassId) (sz : Nat) (x : Int32)  : f_Mi l yJ6_bitCount_0f7a4 wsJ6_bitCount_0f7a4 ({ frames := 0, cells := 0, slots := 0, locals := 0 }) D (fTY cI cZ cP cQ) [.int x] sz [] (bc x) [] := by
  refine f_ent_i (by decide) rfl (Nat.le_of_ble_eq_true rfl) ?_
  intro pg ev s m below meth cd hx hb hr hts hown hlocks hml hnm hsz hP hK hN A hD hA hS ls hl
  have hown : s.vm.findClass RJ6 = some m.cls := hown
  have hl : lv_has ls 1 [(0, .int x)] := hl
  refine lv_iload_n hx hb dJ6_bitCount_0f7a4_0 rfl (lv_at hl 0 rfl) ?_
  refine lv_iload_n hx hb dJ6_bitCount_0f7a4_1 rfl (lv_at hl 0 rfl) ?_
  refine lv_iconst (v := 1) hx hb dJ6_bitCount_0f7a4_2 (by decide) ?_
  refine lv_iushr (v := (x.toUInt32 >>> ((1 : Int32).toUInt32 &&& Int32.toUInt32 31)).toInt32) hx hb dJ6_bitCount_0f7a4_3 rfl ?_
  refine lv_ldcw hx hb hown (hts _ wi_J6_bitCount_0f7a4_1) dJ6_bitCount_0f7a4_4 ?_
  refine lv_iand hx hb dJ6_bitCount_0f7a4_7 ?_
  refine lv_isub hx hb dJ6_bitCount_0f7a4_8 ?_
  refine f_topi (y := bcA x) (rfl) ?_
  refine lv_istore_n (lv' := [(0, .int (bcA x))]) hx hb dJ6_bitCount_0f7a4_9 rfl hl (by decide) rfl (fun ls hl => ?_)
  refine lv_iload_n hx hb dJ6_bitCount_0f7a4_10 rfl (lv_at hl 0 rfl) ?_
  refine lv_ldcw hx hb hown (hts _ wi_J6_bitCount_0f7a4_2) dJ6_bitCount_0f7a4_11 ?_
  refine lv_iand hx hb dJ6_bitCount_0f7a4_14 ?_
  refine lv_iload_n hx hb dJ6_bitCount_0f7a4_15 rfl (lv_at hl 0 rfl) ?_
  refine lv_iconst (v := 2) hx hb dJ6_bitCount_0f7a4_16 (by decide) ?_
  refine lv_iushr (v := ((bcA x).toUInt32 >>> ((2 : Int32).toUInt32 &&& Int32.toUInt32 31)).toInt32) hx hb dJ6_bitCount_0f7a4_17 rfl ?_
  refine lv_ldcw hx hb hown (hts _ wi_J6_bitCount_0f7a4_2) dJ6_bitCount_0f7a4_18 ?_
  refine lv_iand hx hb dJ6_bitCount_0f7a4_21 ?_
  refine lv_iadd hx hb dJ6_bitCount_0f7a4_22 ?_
  refine f_topi (y := bcB (bcA x)) (rfl) ?_
  refine lv_istore_n (lv' := [(0, .int (bcB (bcA x)))]) hx hb dJ6_bitCount_0f7a4_23 rfl hl (by decide) rfl (fun ls hl => ?_)
  refine lv_iload_n hx hb dJ6_bitCount_0f7a4_24 rfl (lv_at hl 0 rfl) ?_
  refine lv_iload_n hx hb dJ6_bitCount_0f7a4_25 rfl (lv_at hl 0 rfl) ?_
  refine lv_iconst (v := 4) hx hb dJ6_bitCount_0f7a4_26 (by decide) ?_
  refine lv_iushr (v := ((bcB (bcA x)).toUInt32 >>> ((4 : Int32).toUInt32 &&& Int32.toUInt32 31)).toInt32) hx hb dJ6_bitCount_0f7a4_27 rfl ?_
  refine lv_iadd hx hb dJ6_bitCount_0f7a4_28 ?_
  refine lv_ldcw hx hb hown (hts _ wi_J6_bitCount_0f7a4_3) dJ6_bitCount_0f7a4_29 ?_
  refine lv_iand hx hb dJ6_bitCount_0f7a4_32 ?_
  refine f_topi (y := bcC (bcB (bcA x))) (rfl) ?_
  refine lv_istore_n (lv' := [(0, .int (bcC (bcB (bcA x))))]) hx hb dJ6_bitCount_0f7a4_33 rfl hl (by decide) rfl (fun ls hl => ?_)
  refine lv_iload_n hx hb dJ6_bitCount_0f7a4_34 rfl (lv_at hl 0 rfl) ?_
  refine lv_iload_n hx hb dJ6_bitCount_0f7a4_35 rfl (lv_at hl 0 rfl) ?_
  refine lv_bipush (v := 8) hx hb dJ6_bitCount_0f7a4_36 (by decide) ?_
  refine lv_iushr (v := ((bcC (bcB (bcA x))).toUInt32 >>> ((8 : Int32).toUInt32 &&& Int32.toUInt32 31)).toInt32) hx hb dJ6_bitCount_0f7a4_38 rfl ?_
  refine lv_iadd hx hb dJ6_bitCount_0f7a4_39 ?_
  refine f_topi (y := bcD (bcC (bcB (bcA x)))) (rfl) ?_
  refine lv_istore_n (lv' := [(0, .int (bcD (bcC (bcB (bcA x)))))]) hx hb dJ6_bitCount_0f7a4_40 rfl hl (by decide) rfl (fun ls hl => ?_)
  refine lv_iload_n hx hb dJ6_bitCount_0f7a4_41 rfl (lv_at hl 0 rfl) ?_
  refine lv_iload_n hx hb dJ6_bitCount_0f7a4_42 rfl (lv_at hl 0 rfl) ?_
  refine lv_bipush (v := 16) hx hb dJ6_bitCount_0f7a4_43 (by decide) ?_
  refine lv_iushr (v := ((bcD (bcC (bcB (bcA x)))).toUInt32 >>> ((16 : Int32).toUInt32 &&& Int32.toUInt32 31)).toInt32) hx hb dJ6_bitCount_0f7a4_45 rfl ?_
  refine lv_iadd hx hb dJ6_bitCount_0f7a4_46 ?_
  refine f_topi (y := bcE (bcD (bcC (bcB (bcA x))))) (rfl) ?_
  refine lv_istore_n (lv' := [(0, .int (bcE (bcD (bcC (bcB (bcA x))))))]) hx hb dJ6_bitCount_0f7a4_47 rfl hl (by decide) rfl (fun ls hl => ?_)
  refine lv_iload_n hx hb dJ6_bitCount_0f7a4_48 rfl (lv_at hl 0 rfl) ?_
  refine lv_bipush (v := 63) hx hb dJ6_bitCount_0f7a4_49 (by decide) ?_
  refine lv_iand hx hb dJ6_bitCount_0f7a4_51 ?_
  exact f_ret_i hx hb hr hlocks hP hD hS dJ6_bitCount_0f7a4_52 (by rfl)

theorem k_J7_fill_53178 : yJ7_fill_53178.cls = RJ7 ∧ yJ7_fill_53178.cls ≠ "java/lang/invoke/MethodHandle" ∧ yJ7_fill_53178.cls ≠ "java/lang/invoke/VarHandle" ∧ (parseMethodDescriptor yJ7_fill_53178.desc).map (fun d => d.parameters.length) = some 2 := by decide +kernel
set_option maxHeartbeats 4000000 in
set_option maxRecDepth 100000 in
theorem c_J7_fill_53178 (l : Launch) (D : va_G) (cI cZ cP cQ : ClassId) (sz : Nat) (a n : Nat) (f : Nat → Int32) (v : Int32) (hn : n < 2 ^ 31) : f_Mv l yJ7_fill_53178 wsJ7_fill_53178 ({ frames := 0, cells := 0, slots := 0, locals := 0 }) D (fTY cI cZ cP cQ) [.ref a, .int v] sz [(a, .inl (cI, n, .inl f))] [(a, .inl (cI, n, .inl (fun _ => v)))] := by
  refine f_ent_v (by decide) rfl (Nat.le_of_ble_eq_true rfl) ?_
  intro pg ev s m below meth cd hx hb hr hts hown hlocks hml hnm hsz hP hK hN A hD hA hS ls hl
  have hown : s.vm.findClass RJ7 = some m.cls := hown
  have hl : lv_has ls 4 [(0, .ref a), (1, .int v)] := hl
  refine lv_iconst (v := 0) hx hb dJ7_fill_53178_0 (by decide) ?_
  refine lv_istore_n (lv' := [(2, .int 0), (0, .ref a), (1, .int v)]) hx hb dJ7_fill_53178_1 rfl hl (by decide) rfl (fun ls hl => ?_)
  refine lv_aload_n hx hb dJ7_fill_53178_2 rfl (lv_at hl 1 rfl) ?_
  refine va_alen (v := nI n) hx hb hK hP 0 0 rfl rfl rfl dJ7_fill_53178_3 ?_
  refine lv_istore_n (lv' := [(3, .int (nI n)), (2, .int 0), (0, .ref a), (1, .int v)]) hx hb dJ7_fill_53178_4 rfl hl (by decide) rfl (fun ls hl => ?_)
  refine f_loopW (σ := Nat × (Nat → Int32)) (D := D) (A := A) (H0 := s.heap) 4 5 (fun u9 => [(3, .int (nI n)), (2, .int (nI (u9.1))), (0, .ref a), (1, .int v)]) (fun u9 => [(a, .inl (cI, n, .inl (u9.2)))]) (fun u9 => (u9.1) ≤ n ∧ ∀ j, j < (u9.1) → (u9.2) j = v) (fun u9 => n - (u9.1))
      (fun u9 hi_2 ih_1 H locs hP hD hS ls hl => ?_) (0, f) (⟨Nat.zero_le _, fun j h => absurd h (Nat.not_lt_zero _)⟩) hP hD hS (lv_sub hl [0, 1, 2, 3] rfl)
  obtain ⟨k, g⟩ := u9
  have hi_2 : k ≤ n ∧ ∀ j, j < k → g j = v := hi_2
  obtain ⟨hk, hg⟩ := hi_2
  have hl : lv_has ls 4 [(3, .int (nI n)), (2, .int (nI k)), (0, .ref a), (1, .int v)] := hl
  have hP : va_P D vwCl [(a, .inl (cI, n, .inl g))] _ := hP
  have hD : va_D A [(a, .inl (cI, n, .inl g))] := hD
  refine lv_iload_n hx hb dJ7_fill_53178_5 rfl (lv_at hl 1 rfl) ?_
  refine lv_iload_n hx hb dJ7_fill_53178_6 rfl (lv_at hl 0 rfl) ?_
  refine lv_icmp_ge (tgt := 20) hx hb dJ7_fill_53178_7 (by decide) (fun c_3 => ?_) (fun c_3 => ?_)
  · have n_3 : n ≤ k := (nI_leI (a := n) (b := k) (by omega) (by omega)).mp c_3
    obtain ⟨hP, hD⟩ := f_rep (g := fun _ => v) hP hD 0 rfl (fun j hj => hg j (by omega))
    have hP : va_P D vwCl [(a, .inl (cI, n, .inl (fun _ => v)))] _ := hP
    have hD : va_D A [(a, .inl (cI, n, .inl (fun _ => v)))] := hD
    exact f_ret_v hx hb hr hlocks hP hD hS dJ7_fill_53178_20
  · have n_3 : k < n := Nat.lt_of_not_le (fun h => c_3 ((nI_leI (a := n) (b := k) (by omega) (by omega)).mpr h))
    refine lv_aload_n hx hb dJ7_fill_53178_10 rfl (lv_at hl 2 rfl) ?_
    refine lv_iload_n hx hb dJ7_fill_53178_11 rfl (lv_at hl 1 rfl) ?_
    refine lv_iload_n hx hb dJ7_fill_53178_12 rfl (lv_at hl 3 rfl) ?_
    refine f_iast (k := k) hx hb hK hP hD hS 0 0 rfl rfl rfl (by omega) (by first | decide | omega) dJ7_fill_53178_13 (fun H locs hP hD hS => ?_)
    have hP : va_P D vwCl [(a, .inl (cI, n, .inl (upd g k v)))] _ := hP
    have hD : va_D A [(a, .inl (cI, n, .inl (upd g k v)))] := hD
    refine lv_iinc (v := nI (k + 1)) (lv' := [(2, .int (nI (k + 1))), (3, .int (nI n)), (0, .ref a), (1, .int v)]) hx hb dJ7_fill_53178_14 hl (k := 1) rfl (nI_1 _) (by decide) rfl (fun ls hl => ?_)
    refine lv_goto (tgt := 5) hx hb dJ7_fill_53178_17 (by decide) ?_
    exact ih_1 ((k + 1), upd g k v) (⟨by omega, lt_s (p := fun j => upd g k v j = v) (fun j hj => (pk_un (by omega)).trans (hg j hj)) pk_us⟩) (by first | omega | (simp only []; omega) | (show _ < _; simp only []; omega)) H locs hP hD hS ls (lv_sub hl [1, 0, 2, 3] rfl)

theorem k_X1_hasRow : yX1_hasRow.cls = RX1 ∧ yX1_hasRow.cls ≠ "java/lang/invoke/MethodHandle" ∧ yX1_hasRow.cls ≠ "java/lang/invoke/VarHandle" ∧ (parseMethodDescriptor yX1_hasRow.desc).map (fun d => d.parameters.length) = some 1 := by decide +kernel
/-- X1_hasRow: read off its bytecode -/
def sp_X1_hasRow (R : Nat) (row : Int32) : Int32 := if row < 0 then 0 else (if (nI R) ≤ row then 0 else 1)
theorem wb_X1_hasRow_1 : ∀ w ∈ wsX10, w ∈ wsX1_hasRow := (fun _ h => List.mem_cons_of_mem _ (List.mem_append_right _ h))
theorem wi_X1_hasRow_1 : (Cond.fieldLink RX1 25 "FrostPane$Pane" "rows" "I") ∈ wsX1_hasRow := List.mem_of_getElem? (i := 1) rfl
set_option maxHeartbeats 4000000 in
set_option maxRecDepth 100000 in
theorem c_X1_hasRow (l : Launch) (D : va_G) (cI cZ cP cQ : ClassId) (sz : Nat) (pa fo no mo C R F : Nat) (fz nx ml : Nat → Int32) (row : Int32)  : f_Mi l yX1_hasRow wsX1_hasRow ({ frames := 0, cells := 0, slots := 0, locals := 0 }) D (fTY cI cZ cP cQ) [.ref pa, .int row] sz [(pa, .inr (1, [.ref fo, .ref no, .ref mo, .int (nI C), .int (nI R), .int (nI F)])), (fo, .inl (cI, 12, .inl fz)), (no, .inl (cI, 12, .inl nx)), (mo, .inl (cI, 144, .inl ml))] (sp_X1_hasRow R row) [(pa, .inr (1, [.ref fo, .ref no, .ref mo, .int (nI C), .int (nI R), .int (nI F)])), (fo, .inl (cI, 12, .inl fz)), (no, .inl (cI, 12, .inl nx)), (mo, .inl (cI, 144, .inl ml))] := by
  refine f_ent_i (by decide) rfl (Nat.le_of_ble_eq_true rfl) ?_
  intro pg ev s m below meth cd hx hb hr hts hown hlocks hml hnm hsz hP hK hN A hD hA hS ls hl
  have hown : s.vm.findClass RX1 = some m.cls := hown
  have hl : lv_has ls 2 [(0, .ref pa), (1, .int row)] := hl
  refine lv_iload_n hx hb dX1_hasRow_0 rfl (lv_at hl 1 rfl) ?_
  refine lv_if_lt (tgt := 16) hx hb dX1_hasRow_1 (by decide) (fun c_1 => ?_) (fun c_1 => ?_)
  · refine lv_iconst (v := 0) hx hb dX1_hasRow_16 (by decide) ?_
    exact f_ret_z hx hb hr hlocks hP hD hS dX1_hasRow_17 (by rw [sp_X1_hasRow, if_pos c_1]) (by unfold sp_X1_hasRow; first | rfl | (repeat (first | rfl | split)))
  · refine lv_iload_n hx hb dX1_hasRow_4 rfl (lv_at hl 1 rfl) ?_
    refine lv_aload_n hx hb dX1_hasRow_5 rfl (lv_at hl 0 rfl) ?_
    refine va_get (D := D) (ci := 1) (v := .int (nI R)) (C := RX1) (T := TX1) (N := 6) hx hb hts wb_X1_hasRow_1 hown hK hP 0 rfl rfl 4 (by decide) (hts _ wi_X1_hasRow_1) (fun _ h9 => h9) rfl dX1_hasRow_6 ?_
    refine lv_icmp_ge (tgt := 16) hx hb dX1_hasRow_9 (by decide) (fun c_2 => ?_) (fun c_2 => ?_)
    · refine lv_iconst (v := 0) hx hb dX1_hasRow_16 (by decide) ?_
      exact f_ret_z hx hb hr hlocks hP hD hS dX1_hasRow_17 (by rw [sp_X1_hasRow, if_neg c_1, if_pos c_2]) (by unfold sp_X1_hasRow; first | rfl | (repeat (first | rfl | split)))
    · refine lv_iconst (v := 1) hx hb dX1_hasRow_12 (by decide) ?_
      refine lv_goto (tgt := 17) hx hb dX1_hasRow_13 (by decide) ?_
      exact f_ret_z hx hb hr hlocks hP hD hS dX1_hasRow_17 (by rw [sp_X1_hasRow, if_neg c_1, if_neg c_2]) (by unfold sp_X1_hasRow; first | rfl | (repeat (first | rfl | split)))

theorem k_X1_hasCell : yX1_hasCell.cls = RX1 ∧ yX1_hasCell.cls ≠ "java/lang/invoke/MethodHandle" ∧ yX1_hasCell.cls ≠ "java/lang/invoke/VarHandle" ∧ (parseMethodDescriptor yX1_hasCell.desc).map (fun d => d.parameters.length) = some 2 := by decide +kernel
/-- X1_hasCell: read off its bytecode -/
def sp_X1_hasCell (C : Nat) (R : Nat) (col : Int32) (row : Int32) : Int32 := if col < 0 then 0 else (if (nI C) ≤ col then 0 else (if (sp_X1_hasRow R row) = 0 then 0 else 1))
theorem wb_X1_hasCell_1 : ∀ w ∈ wsX10, w ∈ wsX1_hasCell := (fun _ h => List.mem_cons_of_mem _ (List.mem_append_right _ h))
theorem wi_X1_hasCell_1 : (Cond.fieldLink RX1 21 "FrostPane$Pane" "columns" "I") ∈ wsX1_hasCell := List.mem_of_getElem? (i := 1) rfl
set_option maxHeartbeats 4000000 in
set_option maxRecDepth 100000 in
theorem c_X1_hasCell (l : Launch) (D : va_G) (cI cZ cP cQ : ClassId) (sz : Nat) (pa fo no mo C R F : Nat) (fz nx ml : Nat → Int32) (col row : Int32)  : f_Mi l yX1_hasCell wsX1_hasCell ({ frames := 1, cells := 0, slots := 0, locals := 21 }) D (fTY cI cZ cP cQ) [.ref pa, .int col, .int row] sz [(pa, .inr (1, [.ref fo, .ref no, .ref mo, .int (nI C), .int (nI R), .int (nI F)])), (fo, .inl (cI, 12, .inl fz)), (no, .inl (cI, 12, .inl nx)), (mo, .inl (cI, 144, .inl ml))] (sp_X1_hasCell C R col row) [(pa, .inr (1, [.ref fo, .ref no, .ref mo, .int (nI C), .int (nI R), .int (nI F)])), (fo, .inl (cI, 12, .inl fz)), (no, .inl (cI, 12, .inl nx)), (mo, .inl (cI, 144, .inl ml))] := by
  refine f_ent_i (by decide) rfl (Nat.le_of_ble_eq_true rfl) ?_
  intro pg ev s m below meth cd hx hb hr hts hown hlocks hml hnm hsz hP hK hN A hD hA hS ls hl
  have hown : s.vm.findClass RX1 = some m.cls := hown
  have hl : lv_has ls 3 [(0, .ref pa), (1, .int col), (2, .int row)] := hl
  refine lv_iload_n hx hb dX1_hasCell_0 rfl (lv_at hl 1 rfl) ?_
  refine lv_if_lt (tgt := 24) hx hb dX1_hasCell_1 (by decide) (fun c_1 => ?_) (fun c_1 => ?_)
  · refine lv_iconst (v := 0) hx hb dX1_hasCell_24 (by decide) ?_
    exact f_ret_z hx hb hr hlocks hP hD hS dX1_hasCell_25 (by rw [sp_X1_hasCell, if_pos c_1]) (by unfold sp_X1_hasCell; first | rfl | (repeat (first | rfl | split)))
  · refine lv_iload_n hx hb dX1_hasCell_4 rfl (lv_at hl 1 rfl) ?_
    refine lv_aload_n hx hb dX1_hasCell_5 rfl (lv_at hl 0 rfl) ?_
    refine va_get (D := D) (ci := 1) (v := .int (nI C)) (C := RX1) (T := TX1) (N := 6) hx hb hts wb_X1_hasCell_1 hown hK hP 0 rfl rfl 3 (by decide) (hts _ wi_X1_hasCell_1) (fun _ h9 => h9) rfl dX1_hasCell_6 ?_
    refine lv_icmp_ge (tgt := 24) hx hb dX1_hasCell_9 (by decide) (fun c_2 => ?_) (fun c_2 => ?_)
    · refine lv_iconst (v := 0) hx hb dX1_hasCell_24 (by decide) ?_
      exact f_ret_z hx hb hr hlocks hP hD hS dX1_hasCell_25 (by rw [sp_X1_hasCell, if_neg c_1, if_pos c_2]) (by unfold sp_X1_hasCell; first | rfl | (repeat (first | rfl | split)))
    · refine lv_aload_n hx hb dX1_hasCell_12 rfl (lv_at hl 0 rfl) ?_
      refine lv_iload_n hx hb dX1_hasCell_13 rfl (lv_at hl 2 rfl) ?_
      refine f_callVi ⟨hx, hb, hml, hown, hts⟩ hP hD hS hA hK hN [0, 1, 2, 3] (w2 := [(pa, .inr (1, [.ref fo, .ref no, .ref mo, .int (nI C), .int (nI R), .int (nI F)])), (fo, .inl (cI, 12, .inl fz)), (no, .inl (cI, 12, .inl nx)), (mo, .inl (cI, 144, .inl ml))])
          (c_X1_hasRow (l := l) (D := D) (cI := cI) (cZ := cZ) (cP := cP) (cQ := cQ) (sz := _) (pa := pa) (fo := fo) (no := no) (mo := mo) (C := C) (R := R) (F := F) (fz := fz) (nx := nx) (ml := ml) (row := row) ) (cwV 1 hts gX1_hasCell_X1_hasRow rfl rfl rfl k_X1_hasRow ⟨Nat.le_of_ble_eq_true rfl, Nat.le_of_ble_eq_true rfl⟩) 0 rfl rfl rfl rfl [pa, fo, no, mo] rfl rfl rfl rfl rfl hl.1 (Nat.le_of_ble_eq_true rfl) dX1_hasCell_14 ⟨Nat.le_of_ble_eq_true rfl, Nat.le_of_ble_eq_true rfl⟩ (fun H locs hP hD hS => ?_)
      refine lv_if_eq (tgt := 24) hx hb dX1_hasCell_17 (by decide) (fun c_3 => ?_) (fun c_3 => ?_)
      · refine lv_iconst (v := 0) hx hb dX1_hasCell_24 (by decide) ?_
        exact f_ret_z hx hb hr hlocks hP hD hS dX1_hasCell_25 (by rw [sp_X1_hasCell, if_neg c_1, if_neg c_2, if_pos c_3]) (by unfold sp_X1_hasCell; first | rfl | (repeat (first | rfl | split)))
      · refine lv_iconst (v := 1) hx hb dX1_hasCell_20 (by decide) ?_
        refine lv_goto (tgt := 25) hx hb dX1_hasCell_21 (by decide) ?_
        exact f_ret_z hx hb hr hlocks hP hD hS dX1_hasCell_25 (by rw [sp_X1_hasCell, if_neg c_1, if_neg c_2, if_neg c_3]) (by unfold sp_X1_hasCell; first | rfl | (repeat (first | rfl | split)))

theorem k_X1_bitsOf : yX1_bitsOf.cls = RX1 ∧ yX1_bitsOf.cls ≠ "java/lang/invoke/MethodHandle" ∧ yX1_bitsOf.cls ≠ "java/lang/invoke/VarHandle" ∧ (parseMethodDescriptor yX1_bitsOf.desc).map (fun d => d.parameters.length) = some 1 := by decide +kernel
/-- X1_bitsOf: read off its bytecode -/
def sp_X1_bitsOf (fz : Nat → Int32) (row : Int32) : Int32 := if row < 0 then 0 else (if (12 : Int32) ≤ row then 0 else fz row.toNatClampNeg)
theorem wb_X1_bitsOf_1 : ∀ w ∈ wsX10, w ∈ wsX1_bitsOf := (fun _ h => List.mem_cons_of_mem _ (List.mem_append_right _ h))
theorem wi_X1_bitsOf_1 : (Cond.fieldLink RX1 9 "FrostPane$Pane" "frost" "[I") ∈ wsX1_bitsOf := List.mem_of_getElem? (i := 1) rfl
set_option maxHeartbeats 4000000 in
set_option maxRecDepth 100000 in
theorem c_X1_bitsOf (l : Launch) (D : va_G) (cI cZ cP cQ : ClassId) (sz : Nat) (pa fo no mo C R F : Nat) (fz nx ml : Nat → Int32) (row : Int32)  : f_Mi l yX1_bitsOf wsX1_bitsOf ({ frames := 0, cells := 0, slots := 0, locals := 0 }) D (fTY cI cZ cP cQ) [.ref pa, .int row] sz [(pa, .inr (1, [.ref fo, .ref no, .ref mo, .int (nI C), .int (nI R), .int (nI F)])), (fo, .inl (cI, 12, .inl fz)), (no, .inl (cI, 12, .inl nx)), (mo, .inl (cI, 144, .inl ml))] (sp_X1_bitsOf fz row) [(pa, .inr (1, [.ref fo, .ref no, .ref mo, .int (nI C), .int (nI R), .int (nI F)])), (fo, .inl (cI, 12, .inl fz)), (no, .inl (cI, 12, .inl nx)), (mo, .inl (cI, 144, .inl ml))] := by
  refine f_ent_i (by decide) rfl (Nat.le_of_ble_eq_true rfl) ?_
  intro pg ev s m below meth cd hx hb hr hts hown hlocks hml hnm hsz hP hK hN A hD hA hS ls hl
  have hown : s.vm.findClass RX1 = some m.cls := hown
  have hl : lv_has ls 2 [(0, .ref pa), (1, .int row)] := hl
  refine lv_iload_n hx hb dX1_bitsOf_0 rfl (lv_at hl 1 rfl) ?_
  refine lv_if_lt (tgt := 22) hx hb dX1_bitsOf_1 (by decide) (fun c_1 => ?_) (fun c_1 => ?_)
  · refine lv_iconst (v := 0) hx hb dX1_bitsOf_22 (by decide) ?_
    exact f_ret_i hx hb hr hlocks hP hD hS dX1_bitsOf_23 (by rw [sp_X1_bitsOf, if_pos c_1])
  · refine lv_iload_n hx hb dX1_bitsOf_4 rfl (lv_at hl 1 rfl) ?_
    refine lv_aload_n hx hb dX1_bitsOf_5 rfl (lv_at hl 0 rfl) ?_
    refine va_get (D := D) (ci := 1) (v := .ref fo) (C := RX1) (T := TX1) (N := 6) hx hb hts wb_X1_bitsOf_1 hown hK hP 0 rfl rfl 0 (by decide) (hts _ wi_X1_bitsOf_1) (fun _ h9 => h9) rfl dX1_bitsOf_6 ?_
    refine va_alen (v := 12) hx hb hK hP 1 0 rfl rfl rfl dX1_bitsOf_9 ?_
    refine lv_icmp_ge (tgt := 22) hx hb dX1_bitsOf_10 (by decide) (fun c_2 => ?_) (fun c_2 => ?_)
    · refine lv_iconst (v := 0) hx hb dX1_bitsOf_22 (by decide) ?_
      exact f_ret_i hx hb hr hlocks hP hD hS dX1_bitsOf_23 (by rw [sp_X1_bitsOf, if_neg c_1, if_pos c_2])
    · refine lv_aload_n hx hb dX1_bitsOf_13 rfl (lv_at hl 0 rfl) ?_
      refine va_get (D := D) (ci := 1) (v := .ref fo) (C := RX1) (T := TX1) (N := 6) hx hb hts wb_X1_bitsOf_1 hown hK hP 0 rfl rfl 0 (by decide) (hts _ wi_X1_bitsOf_1) (fun _ h9 => h9) rfl dX1_bitsOf_14 ?_
      refine lv_iload_n hx hb dX1_bitsOf_17 rfl (lv_at hl 1 rfl) ?_
      refine va_iald hx hb hK hP 1 0 rfl rfl (f_in (by decide) c_1 c_2) dX1_bitsOf_18 ?_
      refine lv_goto (tgt := 23) hx hb dX1_bitsOf_19 (by decide) ?_
      exact f_ret_i hx hb hr hlocks hP hD hS dX1_bitsOf_23 (by rw [sp_X1_bitsOf, if_neg c_1, if_neg c_2])

theorem k_X1_hasFrost : yX1_hasFrost.cls = RX1 ∧ yX1_hasFrost.cls ≠ "java/lang/invoke/MethodHandle" ∧ yX1_hasFrost.cls ≠ "java/lang/invoke/VarHandle" ∧ (parseMethodDescriptor yX1_hasFrost.desc).map (fun d => d.parameters.length) = some 2 := by decide +kernel
/-- X1_hasFrost: read off its bytecode -/
def sp_X1_hasFrost (fz : Nat → Int32) (col : Int32) (row : Int32) : Int32 := if (((sp_X1_bitsOf fz row) >>> (col &&& 31)) &&& 1) = 1 then 1 else 0
set_option maxHeartbeats 4000000 in
set_option maxRecDepth 100000 in
theorem c_X1_hasFrost (l : Launch) (D : va_G) (cI cZ cP cQ : ClassId) (sz : Nat) (pa fo no mo C R F : Nat) (fz nx ml : Nat → Int32) (col row : Int32)  : f_Mi l yX1_hasFrost wsX1_hasFrost ({ frames := 1, cells := 0, slots := 0, locals := 21 }) D (fTY cI cZ cP cQ) [.ref pa, .int col, .int row] sz [(pa, .inr (1, [.ref fo, .ref no, .ref mo, .int (nI C), .int (nI R), .int (nI F)])), (fo, .inl (cI, 12, .inl fz)), (no, .inl (cI, 12, .inl nx)), (mo, .inl (cI, 144, .inl ml))] (sp_X1_hasFrost fz col row) [(pa, .inr (1, [.ref fo, .ref no, .ref mo, .int (nI C), .int (nI R), .int (nI F)])), (fo, .inl (cI, 12, .inl fz)), (no, .inl (cI, 12, .inl nx)), (mo, .inl (cI, 144, .inl ml))] := by
  refine f_ent_i (by decide) rfl (Nat.le_of_ble_eq_true rfl) ?_
  intro pg ev s m below meth cd hx hb hr hts hown hlocks hml hnm hsz hP hK hN A hD hA hS ls hl
  have hown : s.vm.findClass RX1 = some m.cls := hown
  have hl : lv_has ls 3 [(0, .ref pa), (1, .int col), (2, .int row)] := hl
  refine lv_aload_n hx hb dX1_hasFrost_0 rfl (lv_at hl 0 rfl) ?_
  refine lv_iload_n hx hb dX1_hasFrost_1 rfl (lv_at hl 2 rfl) ?_
  refine f_callVi ⟨hx, hb, hml, hown, hts⟩ hP hD hS hA hK hN [0, 1, 2, 3] (w2 := [(pa, .inr (1, [.ref fo, .ref no, .ref mo, .int (nI C), .int (nI R), .int (nI F)])), (fo, .inl (cI, 12, .inl fz)), (no, .inl (cI, 12, .inl nx)), (mo, .inl (cI, 144, .inl ml))])
      (c_X1_bitsOf (l := l) (D := D) (cI := cI) (cZ := cZ) (cP := cP) (cQ := cQ) (sz := _) (pa := pa) (fo := fo) (no := no) (mo := mo) (C := C) (R := R) (F := F) (fz := fz) (nx := nx) (ml := ml) (row := row) ) (cwV 1 hts gX1_hasFrost_X1_bitsOf rfl rfl rfl k_X1_bitsOf ⟨Nat.le_of_ble_eq_true rfl, Nat.le_of_ble_eq_true rfl⟩) 0 rfl rfl rfl rfl [pa, fo, no, mo] rfl rfl rfl rfl rfl hl.1 (Nat.le_of_ble_eq_true rfl) dX1_hasFrost_2 ⟨Nat.le_of_ble_eq_true rfl, Nat.le_of_ble_eq_true rfl⟩ (fun H locs hP hD hS => ?_)
  refine lv_iload_n hx hb dX1_hasFrost_5 rfl (lv_at hl 1 rfl) ?_
  refine lv_ishr hx hb dX1_hasFrost_6 ?_
  refine lv_iconst (v := 1) hx hb dX1_hasFrost_7 (by decide) ?_
  refine lv_iand hx hb dX1_hasFrost_8 ?_
  refine lv_iconst (v := 1) hx hb dX1_hasFrost_9 (by decide) ?_
  refine lv_icmp_ne (tgt := 17) hx hb dX1_hasFrost_10 (by decide) (fun c_1 => ?_) (fun c_1 => ?_)
  · refine lv_iconst (v := 0) hx hb dX1_hasFrost_17 (by decide) ?_
    exact f_ret_z hx hb hr hlocks hP hD hS dX1_hasFrost_18 (by rw [sp_X1_hasFrost, if_neg c_1]) (by unfold sp_X1_hasFrost; first | rfl | (repeat (first | rfl | split)))
  · refine lv_iconst (v := 1) hx hb dX1_hasFrost_13 (by decide) ?_
    refine lv_goto (tgt := 18) hx hb dX1_hasFrost_14 (by decide) ?_
    exact f_ret_z hx hb hr hlocks hP hD hS dX1_hasFrost_18 (by rw [sp_X1_hasFrost, if_pos c_1]) (by unfold sp_X1_hasFrost; first | rfl | (repeat (first | rfl | split)))

theorem k_X1_meltOf : yX1_meltOf.cls = RX1 ∧ yX1_meltOf.cls ≠ "java/lang/invoke/MethodHandle" ∧ yX1_meltOf.cls ≠ "java/lang/invoke/VarHandle" ∧ (parseMethodDescriptor yX1_meltOf.desc).map (fun d => d.parameters.length) = some 2 := by decide +kernel
/-- X1_meltOf: read off its bytecode -/
def sp_X1_meltOf (ml : Nat → Int32) (col : Int32) (row : Int32) : Int32 := if ((row * 12) + col) < 0 then 0 else (if (144 : Int32) ≤ ((row * 12) + col) then 0 else ml ((row * 12) + col).toNatClampNeg)
theorem wb_X1_meltOf_1 : ∀ w ∈ wsX10, w ∈ wsX1_meltOf := (fun _ h => List.mem_cons_of_mem _ (List.mem_append_right _ h))
theorem wi_X1_meltOf_1 : (Cond.fieldLink RX1 18 "FrostPane$Pane" "melts" "[I") ∈ wsX1_meltOf := List.mem_of_getElem? (i := 1) rfl
set_option maxHeartbeats 4000000 in
set_option maxRecDepth 100000 in
theorem c_X1_meltOf (l : Launch) (D : va_G) (cI cZ cP cQ : ClassId) (sz : Nat) (pa fo no mo C R F : Nat) (fz nx ml : Nat → Int32) (col row : Int32)  : f_Mi l yX1_meltOf wsX1_meltOf ({ frames := 0, cells := 0, slots := 0, locals := 0 }) D (fTY cI cZ cP cQ) [.ref pa, .int col, .int row] sz [(pa, .inr (1, [.ref fo, .ref no, .ref mo, .int (nI C), .int (nI R), .int (nI F)])), (fo, .inl (cI, 12, .inl fz)), (no, .inl (cI, 12, .inl nx)), (mo, .inl (cI, 144, .inl ml))] (sp_X1_meltOf ml col row) [(pa, .inr (1, [.ref fo, .ref no, .ref mo, .int (nI C), .int (nI R), .int (nI F)])), (fo, .inl (cI, 12, .inl fz)), (no, .inl (cI, 12, .inl nx)), (mo, .inl (cI, 144, .inl ml))] := by
  refine f_ent_i (by decide) rfl (Nat.le_of_ble_eq_true rfl) ?_
  intro pg ev s m below meth cd hx hb hr hts hown hlocks hml hnm hsz hP hK hN A hD hA hS ls hl
  have hown : s.vm.findClass RX1 = some m.cls := hown
  have hl : lv_has ls 4 [(0, .ref pa), (1, .int col), (2, .int row)] := hl
  refine lv_iload_n hx hb dX1_meltOf_0 rfl (lv_at hl 2 rfl) ?_
  refine lv_bipush (v := 12) hx hb dX1_meltOf_1 (by decide) ?_
  refine lv_imul hx hb dX1_meltOf_3 ?_
  refine lv_iload_n hx hb dX1_meltOf_4 rfl (lv_at hl 1 rfl) ?_
  refine lv_iadd hx hb dX1_meltOf_5 ?_
  refine lv_istore_n (lv' := [(3, .int ((row * 12) + col)), (0, .ref pa), (1, .int col), (2, .int row)]) hx hb dX1_meltOf_6 rfl hl (by decide) rfl (fun ls hl => ?_)
  refine lv_iload_n hx hb dX1_meltOf_7 rfl (lv_at hl 0 rfl) ?_
  refine lv_if_lt (tgt := 29) hx hb dX1_meltOf_8 (by decide) (fun c_1 => ?_) (fun c_1 => ?_)
  · refine lv_iconst (v := 0) hx hb dX1_meltOf_29 (by decide) ?_
    exact f_ret_i hx hb hr hlocks hP hD hS dX1_meltOf_30 (by rw [sp_X1_meltOf, if_pos c_1])
  · refine lv_iload_n hx hb dX1_meltOf_11 rfl (lv_at hl 0 rfl) ?_
    refine lv_aload_n hx hb dX1_meltOf_12 rfl (lv_at hl 1 rfl) ?_
    refine va_get (D := D) (ci := 1) (v := .ref mo) (C := RX1) (T := TX1) (N := 6) hx hb hts wb_X1_meltOf_1 hown hK hP 0 rfl rfl 2 (by decide) (hts _ wi_X1_meltOf_1) (fun _ h9 => h9) rfl dX1_meltOf_13 ?_
    refine va_alen (v := 144) hx hb hK hP 3 0 rfl rfl rfl dX1_meltOf_16 ?_
    refine lv_icmp_ge (tgt := 29) hx hb dX1_meltOf_17 (by decide) (fun c_2 => ?_) (fun c_2 => ?_)
    · refine lv_iconst (v := 0) hx hb dX1_meltOf_29 (by decide) ?_
      exact f_ret_i hx hb hr hlocks hP hD hS dX1_meltOf_30 (by rw [sp_X1_meltOf, if_neg c_1, if_pos c_2])
    · refine lv_aload_n hx hb dX1_meltOf_20 rfl (lv_at hl 1 rfl) ?_
      refine va_get (D := D) (ci := 1) (v := .ref mo) (C := RX1) (T := TX1) (N := 6) hx hb hts wb_X1_meltOf_1 hown hK hP 0 rfl rfl 2 (by decide) (hts _ wi_X1_meltOf_1) (fun _ h9 => h9) rfl dX1_meltOf_21 ?_
      refine lv_iload_n hx hb dX1_meltOf_24 rfl (lv_at hl 0 rfl) ?_
      refine va_iald hx hb hK hP 3 0 rfl rfl (f_in (by decide) c_1 c_2) dX1_meltOf_25 ?_
      refine lv_goto (tgt := 30) hx hb dX1_meltOf_26 (by decide) ?_
      exact f_ret_i hx hb hr hlocks hP hD hS dX1_meltOf_30 (by rw [sp_X1_meltOf, if_neg c_1, if_neg c_2])

theorem sp_hasCell_of {C R : Nat} {col row : Int32} (h : ¬ sp_X1_hasCell C R col row = 0) (hC : C ≤ 12) (hR : R ≤ 12) : ∃ c r : Nat, c < C ∧ r < R ∧ col = nI c ∧ row = nI r := by
  unfold sp_X1_hasCell at h
  split at h
  · exact absurd rfl h
  · rename_i h1
    split at h
    · exact absurd rfl h
    · rename_i h2
      split at h
      · exact absurd rfl h
      · rename_i h3
        unfold sp_X1_hasRow at h3
        split at h3
        · exact absurd rfl h3
        · rename_i h4
          split at h3
          · exact absurd rfl h3
          · rename_i h5
            obtain ⟨c, hc, rfl⟩ := nI_of h1
            obtain ⟨r, hr, rfl⟩ := nI_of h4
            have e1 : c < C := Nat.lt_of_not_le (fun h => h2 ((nI_leI (by omega) hc).mpr h))
            have e2 : r < R := Nat.lt_of_not_le (fun h => h5 ((nI_leI (by omega) hr).mpr h))
            exact ⟨c, r, e1, e2, rfl, rfl⟩
theorem sp_hasCell_in {C R c r : Nat} (hc : c < C) (hr : r < R) (hC : C ≤ 12) (hR : R ≤ 12) : sp_X1_hasCell C R (nI c) (nI r) = 1 := by
  unfold sp_X1_hasCell sp_X1_hasRow
  rw [if_neg (nI_pos (by omega)), if_neg (nI_ge hc (by omega)), if_neg (nI_pos (by omega)), if_neg (nI_ge hr (by omega)), if_neg (by decide)]
theorem sp_hasFrost_01 (fz : Nat → Int32) (col row : Int32) : sp_X1_hasFrost fz col row = 0 ∨ sp_X1_hasFrost fz col row = 1 := by
  unfold sp_X1_hasFrost; split <;> simp
/-- Pane.melt: the answer, the rows, the melted cells behind it -/
def me_r (C R : Nat) (fz : Nat → Int32) (col row : Int32) : Int32 := if sp_X1_hasCell C R col row = 0 then 0 else sp_X1_hasFrost fz col row
def me_fz (C R : Nat) (fz : Nat → Int32) (col row : Int32) : Nat → Int32 := if sp_X1_hasCell C R col row = 0 then fz else if sp_X1_hasFrost fz col row = 0 then fz else upd fz row.toNatClampNeg (fz row.toNatClampNeg ^^^ ((1 : Int32) <<< (col &&& 31)))
def me_ml (C R : Nat) (ml : Nat → Int32) (col row g : Int32) : Nat → Int32 := if sp_X1_hasCell C R col row = 0 then ml else upd ml (row.toNatClampNeg * 12 + col.toNatClampNeg) g
def cfr (fz : Nat → Int32) : Nat → Int32
  | 0 => 0
  | k + 1 => cfr fz k + bc (sp_X1_bitsOf fz (nI k))
def cme (ml : Nat → Int32) : Nat → Int32
  | 0 => 0
  | k + 1 => if ml k ≤ 0 then cme ml k else cme ml k + 1
theorem k_X1_flip : yX1_flip.cls = RX1 ∧ yX1_flip.cls ≠ "java/lang/invoke/MethodHandle" ∧ yX1_flip.cls ≠ "java/lang/invoke/VarHandle" ∧ (parseMethodDescriptor yX1_flip.desc).map (fun d => d.parameters.length) = some 2 := by decide +kernel
theorem wb_X1_flip_1 : ∀ w ∈ wsX10, w ∈ wsX1_flip := (fun _ h => List.mem_cons_of_mem _ (List.mem_append_right _ h))
theorem wi_X1_flip_1 : (Cond.fieldLink RX1 9 "FrostPane$Pane" "frost" "[I") ∈ wsX1_flip := List.mem_of_getElem? (i := 1) rfl
set_option maxHeartbeats 4000000 in
set_option maxRecDepth 100000 in
theorem c_X1_flip (l : Launch) (D : va_G) (cI cZ cP cQ : ClassId) (sz : Nat) (pa fo no mo C R F : Nat) (fz nx ml : Nat → Int32) (c r : Nat) (hC : C ≤ 12) (hR : R ≤ 12) (hc : c < C) (hr0 : r < R) : f_Mv l yX1_flip wsX1_flip ({ frames := 2, cells := 0, slots := 0, locals := 43 }) D (fTY cI cZ cP cQ) [.ref pa, .int (nI c), .int (nI r)] sz [(pa, .inr (1, [.ref fo, .ref no, .ref mo, .int (nI C), .int (nI R), .int (nI F)])), (fo, .inl (cI, 12, .inl fz)), (no, .inl (cI, 12, .inl nx)), (mo, .inl (cI, 144, .inl ml))] [(pa, .inr (1, [.ref fo, .ref no, .ref mo, .int (nI C), .int (nI R), .int (nI F)])), (fo, .inl (cI, 12, .inl (upd fz r (fz r ^^^ ((1 : Int32) <<< (nI c &&& 31)))))), (no, .inl (cI, 12, .inl nx)), (mo, .inl (cI, 144, .inl ml))] := by
  refine f_ent_v (by decide) rfl (Nat.le_of_ble_eq_true rfl) ?_
  intro pg ev s m below meth cd hx hb hr hts hown hlocks hml hnm hsz hP hK hN A hD hA hS ls hl
  have hown : s.vm.findClass RX1 = some m.cls := hown
  have hl : lv_has ls 3 [(0, .ref pa), (1, .int (nI c)), (2, .int (nI r))] := hl
  refine lv_aload_n hx hb dX1_flip_0 rfl (lv_at hl 0 rfl) ?_
  refine lv_iload_n hx hb dX1_flip_1 rfl (lv_at hl 1 rfl) ?_
  refine lv_iload_n hx hb dX1_flip_2 rfl (lv_at hl 2 rfl) ?_
  refine f_callVi ⟨hx, hb, hml, hown, hts⟩ hP hD hS hA hK hN [0, 1, 2, 3] (w2 := [(pa, .inr (1, [.ref fo, .ref no, .ref mo, .int (nI C), .int (nI R), .int (nI F)])), (fo, .inl (cI, 12, .inl fz)), (no, .inl (cI, 12, .inl nx)), (mo, .inl (cI, 144, .inl ml))])
      (c_X1_hasCell (l := l) (D := D) (cI := cI) (cZ := cZ) (cP := cP) (cQ := cQ) (sz := _) (pa := pa) (fo := fo) (no := no) (mo := mo) (C := C) (R := R) (F := F) (fz := fz) (nx := nx) (ml := ml) (col := nI c) (row := nI r) ) (cwV 2 hts gX1_flip_X1_hasCell rfl rfl rfl k_X1_hasCell ⟨Nat.le_of_ble_eq_true rfl, Nat.le_of_ble_eq_true rfl⟩) 0 rfl rfl rfl rfl [pa, fo, no, mo] rfl rfl rfl rfl rfl hl.1 (Nat.le_of_ble_eq_true rfl) dX1_flip_3 ⟨Nat.le_of_ble_eq_true rfl, Nat.le_of_ble_eq_true rfl⟩ (fun H locs hP hD hS => ?_)
  refine lv_if_eq (tgt := 30) hx hb dX1_flip_6 (by decide) (fun c_1 => ?_) (fun c_1 => ?_)
  · exact absurd ((sp_hasCell_in hc hr0 hC hR).symm.trans c_1) (by decide)
  · refine lv_iload_n hx hb dX1_flip_9 rfl (lv_at hl 2 rfl) ?_
    refine lv_aload_n hx hb dX1_flip_10 rfl (lv_at hl 0 rfl) ?_
    refine va_get (D := D) (ci := 1) (v := .ref fo) (C := RX1) (T := TX1) (N := 6) hx hb hts wb_X1_flip_1 hown hK hP 0 rfl rfl 0 (by decide) (hts _ wi_X1_flip_1) (fun _ h9 => h9) rfl dX1_flip_11 ?_
    refine va_alen (v := 12) hx hb hK hP 1 0 rfl rfl rfl dX1_flip_14 ?_
    refine lv_icmp_ge (tgt := 30) hx hb dX1_flip_15 (by decide) (fun c_2 => ?_) (fun c_2 => ?_)
    · have n_2 : 12 ≤ r := (nI_leI (a := 12) (b := r) (by omega) (by omega)).mp c_2
      exfalso; omega
    · have n_2 : r < 12 := Nat.lt_of_not_le (fun h => c_2 ((nI_leI (a := 12) (b := r) (by omega) (by omega)).mpr h))
      refine lv_aload_n hx hb dX1_flip_18 rfl (lv_at hl 0 rfl) ?_
      refine va_get (D := D) (ci := 1) (v := .ref fo) (C := RX1) (T := TX1) (N := 6) hx hb hts wb_X1_flip_1 hown hK hP 0 rfl rfl 0 (by decide) (hts _ wi_X1_flip_1) (fun _ h9 => h9) rfl dX1_flip_19 ?_
      refine lv_iload_n hx hb dX1_flip_22 rfl (lv_at hl 2 rfl) ?_
      refine lv_dup2_11 hx hb dX1_flip_23 rfl rfl ?_
      refine f_iald (k := r) hx hb hK hP 1 0 rfl rfl rfl (by omega) (by first | decide | omega) dX1_flip_24 ?_
      refine lv_iconst (v := 1) hx hb dX1_flip_25 (by decide) ?_
      refine lv_iload_n hx hb dX1_flip_26 rfl (lv_at hl 1 rfl) ?_
      refine lv_ishl hx hb dX1_flip_27 ?_
      refine lv_ixor hx hb dX1_flip_28 ?_
      refine f_iast (k := r) hx hb hK hP hD hS 1 0 rfl rfl rfl (by omega) (by first | decide | omega) dX1_flip_29 (fun H locs hP hD hS => ?_)
      have hP : va_P D vwCl [(pa, .inr (1, [.ref fo, .ref no, .ref mo, .int (nI C), .int (nI R), .int (nI F)])), (fo, .inl (cI, 12, .inl (upd fz r ((fz r) ^^^ ((1 : Int32) <<< ((nI c) &&& 31)))))), (no, .inl (cI, 12, .inl nx)), (mo, .inl (cI, 144, .inl ml))] _ := hP
      have hD : va_D A [(pa, .inr (1, [.ref fo, .ref no, .ref mo, .int (nI C), .int (nI R), .int (nI F)])), (fo, .inl (cI, 12, .inl (upd fz r ((fz r) ^^^ ((1 : Int32) <<< ((nI c) &&& 31)))))), (no, .inl (cI, 12, .inl nx)), (mo, .inl (cI, 144, .inl ml))] := hD
      obtain ⟨hP, hD⟩ := f_rep (g := upd fz r (fz r ^^^ ((1 : Int32) <<< (nI c &&& 31)))) hP hD 1 rfl (by intros; rfl)
      have hP : va_P D vwCl [(pa, .inr (1, [.ref fo, .ref no, .ref mo, .int (nI C), .int (nI R), .int (nI F)])), (fo, .inl (cI, 12, .inl (upd fz r (fz r ^^^ ((1 : Int32) <<< (nI c &&& 31)))))), (no, .inl (cI, 12, .inl nx)), (mo, .inl (cI, 144, .inl ml))] _ := hP
      have hD : va_D A [(pa, .inr (1, [.ref fo, .ref no, .ref mo, .int (nI C), .int (nI R), .int (nI F)])), (fo, .inl (cI, 12, .inl (upd fz r (fz r ^^^ ((1 : Int32) <<< (nI c &&& 31)))))), (no, .inl (cI, 12, .inl nx)), (mo, .inl (cI, 144, .inl ml))] := hD
      exact f_ret_v hx hb hr hlocks hP hD hS dX1_flip_30

theorem k_X1_melt : yX1_melt.cls = RX1 ∧ yX1_melt.cls ≠ "java/lang/invoke/MethodHandle" ∧ yX1_melt.cls ≠ "java/lang/invoke/VarHandle" ∧ (parseMethodDescriptor yX1_melt.desc).map (fun d => d.parameters.length) = some 3 := by decide +kernel
theorem wb_X1_melt_1 : ∀ w ∈ wsX10, w ∈ wsX1_melt := (fun _ h => List.mem_cons_of_mem _ (List.mem_append_right _ h))
theorem wi_X1_melt_1 : (Cond.fieldLink RX1 18 "FrostPane$Pane" "melts" "[I") ∈ wsX1_melt := List.mem_of_getElem? (i := 1) rfl
set_option maxHeartbeats 4000000 in
set_option maxRecDepth 100000 in
theorem c_X1_melt (l : Launch) (D : va_G) (cI cZ cP cQ : ClassId) (sz : Nat) (pa fo no mo C R F : Nat) (fz nx ml : Nat → Int32) (col row g : Int32) (hC : C ≤ 12) (hR : R ≤ 12) : f_Mi l yX1_melt wsX1_melt ({ frames := 3, cells := 0, slots := 0, locals := 65 }) D (fTY cI cZ cP cQ) [.ref pa, .int col, .int row, .int g] sz [(pa, .inr (1, [.ref fo, .ref no, .ref mo, .int (nI C), .int (nI R), .int (nI F)])), (fo, .inl (cI, 12, .inl fz)), (no, .inl (cI, 12, .inl nx)), (mo, .inl (cI, 144, .inl ml))] (me_r C R fz col row) [(pa, .inr (1, [.ref fo, .ref no, .ref mo, .int (nI C), .int (nI R), .int (nI F)])), (fo, .inl (cI, 12, .inl (me_fz C R fz col row))), (no, .inl (cI, 12, .inl nx)), (mo, .inl (cI, 144, .inl (me_ml C R ml col row g)))] := by
  refine f_ent_i (by decide) rfl (Nat.le_of_ble_eq_true rfl) ?_
  intro pg ev s m below meth cd hx hb hr hts hown hlocks hml hnm hsz hP hK hN A hD hA hS ls hl
  have hown : s.vm.findClass RX1 = some m.cls := hown
  have hl : lv_has ls 6 [(0, .ref pa), (1, .int col), (2, .int row), (3, .int g)] := hl
  refine lv_aload_n hx hb dX1_melt_0 rfl (lv_at hl 0 rfl) ?_
  refine lv_iload_n hx hb dX1_melt_1 rfl (lv_at hl 1 rfl) ?_
  refine lv_iload_n hx hb dX1_melt_2 rfl (lv_at hl 2 rfl) ?_
  refine f_callVi ⟨hx, hb, hml, hown, hts⟩ hP hD hS hA hK hN [0, 1, 2, 3] (w2 := [(pa, .inr (1, [.ref fo, .ref no, .ref mo, .int (nI C), .int (nI R), .int (nI F)])), (fo, .inl (cI, 12, .inl fz)), (no, .inl (cI, 12, .inl nx)), (mo, .inl (cI, 144, .inl ml))])
      (c_X1_hasCell (l := l) (D := D) (cI := cI) (cZ := cZ) (cP := cP) (cQ := cQ) (sz := _) (pa := pa) (fo := fo) (no := no) (mo := mo) (C := C) (R := R) (F := F) (fz := fz) (nx := nx) (ml := ml) (col := col) (row := row) ) (cwV 2 hts gX1_melt_X1_hasCell rfl rfl rfl k_X1_hasCell ⟨Nat.le_of_ble_eq_true rfl, Nat.le_of_ble_eq_true rfl⟩) 0 rfl rfl rfl rfl [pa, fo, no, mo] rfl rfl rfl rfl rfl hl.1 (Nat.le_of_ble_eq_true rfl) dX1_melt_3 ⟨Nat.le_of_ble_eq_true rfl, Nat.le_of_ble_eq_true rfl⟩ (fun H locs hP hD hS => ?_)
  refine lv_if_ne (tgt := 11) hx hb dX1_melt_6 (by decide) (fun c_1 => ?_) (fun c_1 => ?_)
  · obtain ⟨c, r, hc, hr0, rfl, rfl⟩ := sp_hasCell_of c_1 hC hR
    have hl : lv_has ls 6 [(0, .ref pa), (1, .int (nI c)), (2, .int (nI r)), (3, .int g)] := hl
    have hP : va_P D vwCl [(pa, .inr (1, [.ref fo, .ref no, .ref mo, .int (nI C), .int (nI R), .int (nI F)])), (fo, .inl (cI, 12, .inl fz)), (no, .inl (cI, 12, .inl nx)), (mo, .inl (cI, 144, .inl ml))] _ := hP
    have hD : va_D A [(pa, .inr (1, [.ref fo, .ref no, .ref mo, .int (nI C), .int (nI R), .int (nI F)])), (fo, .inl (cI, 12, .inl fz)), (no, .inl (cI, 12, .inl nx)), (mo, .inl (cI, 144, .inl ml))] := hD
    refine lv_aload_n hx hb dX1_melt_11 rfl (lv_at hl 0 rfl) ?_
    refine lv_iload_n hx hb dX1_melt_12 rfl (lv_at hl 1 rfl) ?_
    refine lv_iload_n hx hb dX1_melt_13 rfl (lv_at hl 2 rfl) ?_
    refine f_callVi ⟨hx, hb, hml, hown, hts⟩ hP hD hS hA hK hN [0, 1, 2, 3] (w2 := [(pa, .inr (1, [.ref fo, .ref no, .ref mo, .int (nI C), .int (nI R), .int (nI F)])), (fo, .inl (cI, 12, .inl fz)), (no, .inl (cI, 12, .inl nx)), (mo, .inl (cI, 144, .inl ml))])
        (c_X1_hasFrost (l := l) (D := D) (cI := cI) (cZ := cZ) (cP := cP) (cQ := cQ) (sz := _) (pa := pa) (fo := fo) (no := no) (mo := mo) (C := C) (R := R) (F := F) (fz := fz) (nx := nx) (ml := ml) (col := (nI c)) (row := (nI r)) ) (cwV 2 hts gX1_melt_X1_hasFrost rfl rfl rfl k_X1_hasFrost ⟨Nat.le_of_ble_eq_true rfl, Nat.le_of_ble_eq_true rfl⟩) 0 rfl rfl rfl rfl [pa, fo, no, mo] rfl rfl rfl rfl rfl hl.1 (Nat.le_of_ble_eq_true rfl) dX1_melt_14 ⟨Nat.le_of_ble_eq_true rfl, Nat.le_of_ble_eq_true rfl⟩ (fun H locs hP hD hS => ?_)
    refine lv_if_eq (tgt := 24) hx hb dX1_melt_17 (by decide) (fun c_2 => ?_) (fun c_2 => ?_)
    · refine lv_iconst (v := 0) hx hb dX1_melt_24 (by decide) ?_
      refine lv_istore (lv' := [(4, .int 0), (0, .ref pa), (1, .int (nI c)), (2, .int (nI r)), (3, .int g)]) hx hb dX1_melt_25 hl (by decide) rfl (fun ls hl => ?_)
      refine lv_iload hx hb dX1_melt_27 (lv_at hl 0 rfl) ?_
      refine lv_iconst (v := 1) hx hb dX1_melt_29 (by decide) ?_
      refine lv_icmp_ne (tgt := 39) hx hb dX1_melt_30 (by decide) (fun c_3 => ?_) (fun c_3 => ?_)
      · refine lv_iload_n hx hb dX1_melt_39 rfl (lv_at hl 3 rfl) ?_
        refine lv_bipush (v := 12) hx hb dX1_melt_40 (by decide) ?_
        refine lv_imul hx hb dX1_melt_42 ?_
        refine f_topi (y := nI (r * 12)) (pk_mul r 12) ?_
        refine lv_iload_n hx hb dX1_melt_43 rfl (lv_at hl 2 rfl) ?_
        refine lv_iadd hx hb dX1_melt_44 ?_
        refine f_topi (y := nI ((r * 12) + c)) (nI_add (r * 12) c) ?_
        refine lv_istore (lv' := [(5, .int (nI ((r * 12) + c))), (4, .int 0), (0, .ref pa), (1, .int (nI c)), (2, .int (nI r)), (3, .int g)]) hx hb dX1_melt_45 hl (by decide) rfl (fun ls hl => ?_)
        refine lv_iload hx hb dX1_melt_47 (lv_at hl 0 rfl) ?_
        refine lv_if_lt (tgt := 70) hx hb dX1_melt_49 (by decide) (fun c_4 => ?_) (fun c_4 => ?_)
        · have n_4 : ((r * 12) + c) < 0 := (nI_ltI (a := ((r * 12) + c)) (b := 0) (by omega) (by omega)).mp c_4
          exfalso; omega
        · have n_4 : 0 ≤ ((r * 12) + c) := Nat.le_of_not_lt (fun h => c_4 ((nI_ltI (a := ((r * 12) + c)) (b := 0) (by omega) (by omega)).mpr h))
          refine lv_iload hx hb dX1_melt_52 (lv_at hl 0 rfl) ?_
          refine lv_aload_n hx hb dX1_melt_54 rfl (lv_at hl 2 rfl) ?_
          refine va_get (D := D) (ci := 1) (v := .ref mo) (C := RX1) (T := TX1) (N := 6) hx hb hts wb_X1_melt_1 hown hK hP 0 rfl rfl 2 (by decide) (hts _ wi_X1_melt_1) (fun _ h9 => h9) rfl dX1_melt_55 ?_
          refine va_alen (v := 144) hx hb hK hP 3 0 rfl rfl rfl dX1_melt_58 ?_
          refine lv_icmp_ge (tgt := 70) hx hb dX1_melt_59 (by decide) (fun c_5 => ?_) (fun c_5 => ?_)
          · have n_5 : 144 ≤ ((r * 12) + c) := (nI_leI (a := 144) (b := ((r * 12) + c)) (by omega) (by omega)).mp c_5
            exfalso; omega
          · have n_5 : ((r * 12) + c) < 144 := Nat.lt_of_not_le (fun h => c_5 ((nI_leI (a := 144) (b := ((r * 12) + c)) (by omega) (by omega)).mpr h))
            refine lv_aload_n hx hb dX1_melt_62 rfl (lv_at hl 2 rfl) ?_
            refine va_get (D := D) (ci := 1) (v := .ref mo) (C := RX1) (T := TX1) (N := 6) hx hb hts wb_X1_melt_1 hown hK hP 0 rfl rfl 2 (by decide) (hts _ wi_X1_melt_1) (fun _ h9 => h9) rfl dX1_melt_63 ?_
            refine lv_iload hx hb dX1_melt_66 (lv_at hl 0 rfl) ?_
            refine lv_iload_n hx hb dX1_melt_68 rfl (lv_at hl 5 rfl) ?_
            refine f_iast (k := ((r * 12) + c)) hx hb hK hP hD hS 3 0 rfl rfl rfl (by omega) (by first | decide | omega) dX1_melt_69 (fun H locs hP hD hS => ?_)
            have hP : va_P D vwCl [(pa, .inr (1, [.ref fo, .ref no, .ref mo, .int (nI C), .int (nI R), .int (nI F)])), (fo, .inl (cI, 12, .inl fz)), (no, .inl (cI, 12, .inl nx)), (mo, .inl (cI, 144, .inl (upd ml ((r * 12) + c) g)))] _ := hP
            have hD : va_D A [(pa, .inr (1, [.ref fo, .ref no, .ref mo, .int (nI C), .int (nI R), .int (nI F)])), (fo, .inl (cI, 12, .inl fz)), (no, .inl (cI, 12, .inl nx)), (mo, .inl (cI, 144, .inl (upd ml ((r * 12) + c) g)))] := hD
            refine lv_iload hx hb dX1_melt_70 (lv_at hl 1 rfl) ?_
            obtain ⟨hP, hD⟩ := f_rep (g := me_fz C R fz (nI c) (nI r)) hP hD 1 rfl (fun j _ => by rw [me_fz, if_neg c_1, nI_clamp (by omega)]; first | rw [if_pos c_2] | rw [if_neg c_2])
            have hP : va_P D vwCl [(pa, .inr (1, [.ref fo, .ref no, .ref mo, .int (nI C), .int (nI R), .int (nI F)])), (fo, .inl (cI, 12, .inl (me_fz C R fz (nI c) (nI r)))), (no, .inl (cI, 12, .inl nx)), (mo, .inl (cI, 144, .inl (upd ml ((r * 12) + c) g)))] _ := hP
            have hD : va_D A [(pa, .inr (1, [.ref fo, .ref no, .ref mo, .int (nI C), .int (nI R), .int (nI F)])), (fo, .inl (cI, 12, .inl (me_fz C R fz (nI c) (nI r)))), (no, .inl (cI, 12, .inl nx)), (mo, .inl (cI, 144, .inl (upd ml ((r * 12) + c) g)))] := hD
            obtain ⟨hP, hD⟩ := f_rep (g := me_ml C R ml (nI c) (nI r) g) hP hD 3 rfl (fun j _ => by rw [me_ml, if_neg c_1, nI_clamp (by omega), nI_clamp (by omega)])
            have hP : va_P D vwCl [(pa, .inr (1, [.ref fo, .ref no, .ref mo, .int (nI C), .int (nI R), .int (nI F)])), (fo, .inl (cI, 12, .inl (me_fz C R fz (nI c) (nI r)))), (no, .inl (cI, 12, .inl nx)), (mo, .inl (cI, 144, .inl (me_ml C R ml (nI c) (nI r) g)))] _ := hP
            have hD : va_D A [(pa, .inr (1, [.ref fo, .ref no, .ref mo, .int (nI C), .int (nI R), .int (nI F)])), (fo, .inl (cI, 12, .inl (me_fz C R fz (nI c) (nI r)))), (no, .inl (cI, 12, .inl nx)), (mo, .inl (cI, 144, .inl (me_ml C R ml (nI c) (nI r) g)))] := hD
            exact f_ret_i hx hb hr hlocks hP hD hS dX1_melt_72 (by rw [me_r, if_neg c_1]; first | exact c_2.symm | exact ((sp_hasFrost_01 fz (nI c) (nI r)).resolve_left c_2).symm)
      · exact absurd c_3 (by decide)
    · refine lv_iconst (v := 1) hx hb dX1_melt_20 (by decide) ?_
      refine lv_goto (tgt := 25) hx hb dX1_melt_21 (by decide) ?_
      refine lv_istore (lv' := [(4, .int 1), (0, .ref pa), (1, .int (nI c)), (2, .int (nI r)), (3, .int g)]) hx hb dX1_melt_25 hl (by decide) rfl (fun ls hl => ?_)
      refine lv_iload hx hb dX1_melt_27 (lv_at hl 0 rfl) ?_
      refine lv_iconst (v := 1) hx hb dX1_melt_29 (by decide) ?_
      refine lv_icmp_ne (tgt := 39) hx hb dX1_melt_30 (by decide) (fun c_6 => ?_) (fun c_6 => ?_)
      · exact absurd c_6 (by decide)
      · refine lv_aload_n hx hb dX1_melt_33 rfl (lv_at hl 1 rfl) ?_
        refine lv_iload_n hx hb dX1_melt_34 rfl (lv_at hl 2 rfl) ?_
        refine lv_iload_n hx hb dX1_melt_35 rfl (lv_at hl 3 rfl) ?_
        refine f_callVv ⟨hx, hb, hml, hown, hts⟩ hP hD hS hA hK hN [0, 1, 2, 3] (w2 := [(pa, .inr (1, [.ref fo, .ref no, .ref mo, .int (nI C), .int (nI R), .int (nI F)])), (fo, .inl (cI, 12, .inl (upd fz r (fz r ^^^ ((1 : Int32) <<< (nI c &&& 31)))))), (no, .inl (cI, 12, .inl nx)), (mo, .inl (cI, 144, .inl ml))])
            (c_X1_flip (l := l) (D := D) (cI := cI) (cZ := cZ) (cP := cP) (cQ := cQ) (sz := _) (pa := pa) (fo := fo) (no := no) (mo := mo) (C := C) (R := R) (F := F) (fz := fz) (nx := nx) (ml := ml) (c := c) (r := r) (hC := (by first | assumption | omega)) (hR := (by first | assumption | omega)) (hc := (by first | assumption | omega)) (hr0 := (by first | assumption | omega))) (cwV 2 hts gX1_melt_X1_flip rfl rfl rfl k_X1_flip ⟨Nat.le_of_ble_eq_true rfl, Nat.le_of_ble_eq_true rfl⟩) 0 rfl rfl rfl rfl [pa, fo, no, mo] rfl rfl rfl rfl rfl hl.1 (Nat.le_of_ble_eq_true rfl) dX1_melt_36 ⟨Nat.le_of_ble_eq_true rfl, Nat.le_of_ble_eq_true rfl⟩ (fun H locs hP hD hS => ?_)
        refine lv_iload_n hx hb dX1_melt_39 rfl (lv_at hl 3 rfl) ?_
        refine lv_bipush (v := 12) hx hb dX1_melt_40 (by decide) ?_
        refine lv_imul hx hb dX1_melt_42 ?_
        refine f_topi (y := nI (r * 12)) (pk_mul r 12) ?_
        refine lv_iload_n hx hb dX1_melt_43 rfl (lv_at hl 2 rfl) ?_
        refine lv_iadd hx hb dX1_melt_44 ?_
        refine f_topi (y := nI ((r * 12) + c)) (nI_add (r * 12) c) ?_
        refine lv_istore (lv' := [(5, .int (nI ((r * 12) + c))), (4, .int 1), (0, .ref pa), (1, .int (nI c)), (2, .int (nI r)), (3, .int g)]) hx hb dX1_melt_45 hl (by decide) rfl (fun ls hl => ?_)
        refine lv_iload hx hb dX1_melt_47 (lv_at hl 0 rfl) ?_
        refine lv_if_lt (tgt := 70) hx hb dX1_melt_49 (by decide) (fun c_7 => ?_) (fun c_7 => ?_)
        · have n_7 : ((r * 12) + c) < 0 := (nI_ltI (a := ((r * 12) + c)) (b := 0) (by omega) (by omega)).mp c_7
          exfalso; omega
        · have n_7 : 0 ≤ ((r * 12) + c) := Nat.le_of_not_lt (fun h => c_7 ((nI_ltI (a := ((r * 12) + c)) (b := 0) (by omega) (by omega)).mpr h))
          refine lv_iload hx hb dX1_melt_52 (lv_at hl 0 rfl) ?_
          refine lv_aload_n hx hb dX1_melt_54 rfl (lv_at hl 2 rfl) ?_
          refine va_get (D := D) (ci := 1) (v := .ref mo) (C := RX1) (T := TX1) (N := 6) hx hb hts wb_X1_melt_1 hown hK hP 0 rfl rfl 2 (by decide) (hts _ wi_X1_melt_1) (fun _ h9 => h9) rfl dX1_melt_55 ?_
          refine va_alen (v := 144) hx hb hK hP 3 0 rfl rfl rfl dX1_melt_58 ?_
          refine lv_icmp_ge (tgt := 70) hx hb dX1_melt_59 (by decide) (fun c_8 => ?_) (fun c_8 => ?_)
          · have n_8 : 144 ≤ ((r * 12) + c) := (nI_leI (a := 144) (b := ((r * 12) + c)) (by omega) (by omega)).mp c_8
            exfalso; omega
          · have n_8 : ((r * 12) + c) < 144 := Nat.lt_of_not_le (fun h => c_8 ((nI_leI (a := 144) (b := ((r * 12) + c)) (by omega) (by omega)).mpr h))
            refine lv_aload_n hx hb dX1_melt_62 rfl (lv_at hl 2 rfl) ?_
            refine va_get (D := D) (ci := 1) (v := .ref mo) (C := RX1) (T := TX1) (N := 6) hx hb hts wb_X1_melt_1 hown hK hP 0 rfl rfl 2 (by decide) (hts _ wi_X1_melt_1) (fun _ h9 => h9) rfl dX1_melt_63 ?_
            refine lv_iload hx hb dX1_melt_66 (lv_at hl 0 rfl) ?_
            refine lv_iload_n hx hb dX1_melt_68 rfl (lv_at hl 5 rfl) ?_
            refine f_iast (k := ((r * 12) + c)) hx hb hK hP hD hS 3 0 rfl rfl rfl (by omega) (by first | decide | omega) dX1_melt_69 (fun H locs hP hD hS => ?_)
            have hP : va_P D vwCl [(pa, .inr (1, [.ref fo, .ref no, .ref mo, .int (nI C), .int (nI R), .int (nI F)])), (fo, .inl (cI, 12, .inl (upd fz r (fz r ^^^ ((1 : Int32) <<< (nI c &&& 31)))))), (no, .inl (cI, 12, .inl nx)), (mo, .inl (cI, 144, .inl (upd ml ((r * 12) + c) g)))] _ := hP
            have hD : va_D A [(pa, .inr (1, [.ref fo, .ref no, .ref mo, .int (nI C), .int (nI R), .int (nI F)])), (fo, .inl (cI, 12, .inl (upd fz r (fz r ^^^ ((1 : Int32) <<< (nI c &&& 31)))))), (no, .inl (cI, 12, .inl nx)), (mo, .inl (cI, 144, .inl (upd ml ((r * 12) + c) g)))] := hD
            refine lv_iload hx hb dX1_melt_70 (lv_at hl 1 rfl) ?_
            obtain ⟨hP, hD⟩ := f_rep (g := me_fz C R fz (nI c) (nI r)) hP hD 1 rfl (fun j _ => by rw [me_fz, if_neg c_1, nI_clamp (by omega)]; first | rw [if_pos c_2] | rw [if_neg c_2])
            have hP : va_P D vwCl [(pa, .inr (1, [.ref fo, .ref no, .ref mo, .int (nI C), .int (nI R), .int (nI F)])), (fo, .inl (cI, 12, .inl (me_fz C R fz (nI c) (nI r)))), (no, .inl (cI, 12, .inl nx)), (mo, .inl (cI, 144, .inl (upd ml ((r * 12) + c) g)))] _ := hP
            have hD : va_D A [(pa, .inr (1, [.ref fo, .ref no, .ref mo, .int (nI C), .int (nI R), .int (nI F)])), (fo, .inl (cI, 12, .inl (me_fz C R fz (nI c) (nI r)))), (no, .inl (cI, 12, .inl nx)), (mo, .inl (cI, 144, .inl (upd ml ((r * 12) + c) g)))] := hD
            obtain ⟨hP, hD⟩ := f_rep (g := me_ml C R ml (nI c) (nI r) g) hP hD 3 rfl (fun j _ => by rw [me_ml, if_neg c_1, nI_clamp (by omega), nI_clamp (by omega)])
            have hP : va_P D vwCl [(pa, .inr (1, [.ref fo, .ref no, .ref mo, .int (nI C), .int (nI R), .int (nI F)])), (fo, .inl (cI, 12, .inl (me_fz C R fz (nI c) (nI r)))), (no, .inl (cI, 12, .inl nx)), (mo, .inl (cI, 144, .inl (me_ml C R ml (nI c) (nI r) g)))] _ := hP
            have hD : va_D A [(pa, .inr (1, [.ref fo, .ref no, .ref mo, .int (nI C), .int (nI R), .int (nI F)])), (fo, .inl (cI, 12, .inl (me_fz C R fz (nI c) (nI r)))), (no, .inl (cI, 12, .inl nx)), (mo, .inl (cI, 144, .inl (me_ml C R ml (nI c) (nI r) g)))] := hD
            exact f_ret_i hx hb hr hlocks hP hD hS dX1_melt_72 (by rw [me_r, if_neg c_1]; first | exact c_2.symm | exact ((sp_hasFrost_01 fz (nI c) (nI r)).resolve_left c_2).symm)
  · refine lv_iconst (v := 0) hx hb dX1_melt_9 (by decide) ?_
    obtain ⟨hP, hD⟩ := f_rep (g := me_fz C R fz col row) hP hD 1 rfl (fun j _ => by rw [me_fz, if_pos c_1])
    have hP : va_P D vwCl [(pa, .inr (1, [.ref fo, .ref no, .ref mo, .int (nI C), .int (nI R), .int (nI F)])), (fo, .inl (cI, 12, .inl (me_fz C R fz col row))), (no, .inl (cI, 12, .inl nx)), (mo, .inl (cI, 144, .inl ml))] _ := hP
    have hD : va_D A [(pa, .inr (1, [.ref fo, .ref no, .ref mo, .int (nI C), .int (nI R), .int (nI F)])), (fo, .inl (cI, 12, .inl (me_fz C R fz col row))), (no, .inl (cI, 12, .inl nx)), (mo, .inl (cI, 144, .inl ml))] := hD
    obtain ⟨hP, hD⟩ := f_rep (g := me_ml C R ml col row g) hP hD 3 rfl (fun j _ => by rw [me_ml, if_pos c_1])
    have hP : va_P D vwCl [(pa, .inr (1, [.ref fo, .ref no, .ref mo, .int (nI C), .int (nI R), .int (nI F)])), (fo, .inl (cI, 12, .inl (me_fz C R fz col row))), (no, .inl (cI, 12, .inl nx)), (mo, .inl (cI, 144, .inl (me_ml C R ml col row g)))] _ := hP
    have hD : va_D A [(pa, .inr (1, [.ref fo, .ref no, .ref mo, .int (nI C), .int (nI R), .int (nI F)])), (fo, .inl (cI, 12, .inl (me_fz C R fz col row))), (no, .inl (cI, 12, .inl nx)), (mo, .inl (cI, 144, .inl (me_ml C R ml col row g)))] := hD
    exact f_ret_i hx hb hr hlocks hP hD hS dX1_melt_10 (by rw [me_r, if_pos c_1])

theorem k_X1_countFrost : yX1_countFrost.cls = RX1 ∧ yX1_countFrost.cls ≠ "java/lang/invoke/MethodHandle" ∧ yX1_countFrost.cls ≠ "java/lang/invoke/VarHandle" ∧ (parseMethodDescriptor yX1_countFrost.desc).map (fun d => d.parameters.length) = some 0 := by decide +kernel
theorem wb_X1_countFrost_1 : ∀ w ∈ wsX10, w ∈ wsX1_countFrost := (fun _ h => List.mem_cons_of_mem _ (List.mem_append_right _ h))
theorem wi_X1_countFrost_1 : (Cond.fieldLink RX1 25 "FrostPane$Pane" "rows" "I") ∈ wsX1_countFrost := List.mem_of_getElem? (i := 1) rfl
set_option maxHeartbeats 4000000 in
set_option maxRecDepth 100000 in
theorem c_X1_countFrost (l : Launch) (D : va_G) (cI cZ cP cQ : ClassId) (sz : Nat) (pa fo no mo C R F : Nat) (fz nx ml : Nat → Int32) (hR : R ≤ 12) : f_Mi l yX1_countFrost wsX1_countFrost ({ frames := 1, cells := 0, slots := 0, locals := 21 }) D (fTY cI cZ cP cQ) [.ref pa] sz [(pa, .inr (1, [.ref fo, .ref no, .ref mo, .int (nI C), .int (nI R), .int (nI F)])), (fo, .inl (cI, 12, .inl fz)), (no, .inl (cI, 12, .inl nx)), (mo, .inl (cI, 144, .inl ml))] (cfr fz R) [(pa, .inr (1, [.ref fo, .ref no, .ref mo, .int (nI C), .int (nI R), .int (nI F)])), (fo, .inl (cI, 12, .inl fz)), (no, .inl (cI, 12, .inl nx)), (mo, .inl (cI, 144, .inl ml))] := by
  refine f_ent_i (by decide) rfl (Nat.le_of_ble_eq_true rfl) ?_
  intro pg ev s m below meth cd hx hb hr hts hown hlocks hml hnm hsz hP hK hN A hD hA hS ls hl
  have hown : s.vm.findClass RX1 = some m.cls := hown
  have hl : lv_has ls 3 [(0, .ref pa)] := hl
  refine lv_iconst (v := 0) hx hb dX1_countFrost_0 (by decide) ?_
  refine lv_istore_n (lv' := [(1, .int 0), (0, .ref pa)]) hx hb dX1_countFrost_1 rfl hl (by decide) rfl (fun ls hl => ?_)
  refine lv_iconst (v := 0) hx hb dX1_countFrost_2 (by decide) ?_
  refine lv_istore_n (lv' := [(2, .int 0), (1, .int 0), (0, .ref pa)]) hx hb dX1_countFrost_3 rfl hl (by decide) rfl (fun ls hl => ?_)
  refine f_loopW (σ := Nat) (D := D) (A := A) (H0 := s.heap) 3 4 (fun u9 => [(2, .int (nI u9)), (1, .int (cfr fz u9)), (0, .ref pa)]) (fun u9 => [(pa, .inr (1, [.ref fo, .ref no, .ref mo, .int (nI C), .int (nI R), .int (nI F)])), (fo, .inl (cI, 12, .inl fz)), (no, .inl (cI, 12, .inl nx)), (mo, .inl (cI, 144, .inl ml))]) (fun u9 => u9 ≤ R) (fun u9 => R - u9)
      (fun u9 hi_2 ih_1 H locs hP hD hS ls hl => ?_) 0 (by omega) hP hD hS (lv_sub hl [0, 1, 2] rfl)
  obtain ⟨k, rfl⟩ : ∃ z, z = u9 := ⟨_, rfl⟩
  have hi_2 : k ≤ R := hi_2
  obtain hk := hi_2
  have hl : lv_has ls 3 [(2, .int (nI k)), (1, .int (cfr fz k)), (0, .ref pa)] := hl
  have hP : va_P D vwCl [(pa, .inr (1, [.ref fo, .ref no, .ref mo, .int (nI C), .int (nI R), .int (nI F)])), (fo, .inl (cI, 12, .inl fz)), (no, .inl (cI, 12, .inl nx)), (mo, .inl (cI, 144, .inl ml))] _ := hP
  have hD : va_D A [(pa, .inr (1, [.ref fo, .ref no, .ref mo, .int (nI C), .int (nI R), .int (nI F)])), (fo, .inl (cI, 12, .inl fz)), (no, .inl (cI, 12, .inl nx)), (mo, .inl (cI, 144, .inl ml))] := hD
  refine lv_iload_n hx hb dX1_countFrost_4 rfl (lv_at hl 0 rfl) ?_
  refine lv_aload_n hx hb dX1_countFrost_5 rfl (lv_at hl 2 rfl) ?_
  refine va_get (D := D) (ci := 1) (v := .int (nI R)) (C := RX1) (T := TX1) (N := 6) hx hb hts wb_X1_countFrost_1 hown hK hP 0 rfl rfl 4 (by decide) (hts _ wi_X1_countFrost_1) (fun _ h9 => h9) rfl dX1_countFrost_6 ?_
  refine lv_icmp_ge (tgt := 29) hx hb dX1_countFrost_9 (by decide) (fun c_3 => ?_) (fun c_3 => ?_)
  · have n_3 : R ≤ k := (nI_leI (a := R) (b := k) (by omega) (by omega)).mp c_3
    refine lv_iload_n hx hb dX1_countFrost_29 rfl (lv_at hl 1 rfl) ?_
    exact f_ret_i hx hb hr hlocks hP hD hS dX1_countFrost_30 (by rw [show k = R by omega])
  · have n_3 : k < R := Nat.lt_of_not_le (fun h => c_3 ((nI_leI (a := R) (b := k) (by omega) (by omega)).mpr h))
    refine lv_iload_n hx hb dX1_countFrost_12 rfl (lv_at hl 1 rfl) ?_
    refine lv_aload_n hx hb dX1_countFrost_13 rfl (lv_at hl 2 rfl) ?_
    refine lv_iload_n hx hb dX1_countFrost_14 rfl (lv_at hl 0 rfl) ?_
    refine f_callVi ⟨hx, hb, hml, hown, hts⟩ hP hD hS hA hK hN [0, 1, 2, 3] (w2 := [(pa, .inr (1, [.ref fo, .ref no, .ref mo, .int (nI C), .int (nI R), .int (nI F)])), (fo, .inl (cI, 12, .inl fz)), (no, .inl (cI, 12, .inl nx)), (mo, .inl (cI, 144, .inl ml))])
        (c_X1_bitsOf (l := l) (D := D) (cI := cI) (cZ := cZ) (cP := cP) (cQ := cQ) (sz := _) (pa := pa) (fo := fo) (no := no) (mo := mo) (C := C) (R := R) (F := F) (fz := fz) (nx := nx) (ml := ml) (row := nI k) ) (cwV 1 hts gX1_countFrost_X1_bitsOf rfl rfl rfl k_X1_bitsOf ⟨Nat.le_of_ble_eq_true rfl, Nat.le_of_ble_eq_true rfl⟩) 0 rfl rfl rfl rfl [pa, fo, no, mo] rfl rfl rfl rfl rfl hl.1 (Nat.le_of_ble_eq_true rfl) dX1_countFrost_15 ⟨Nat.le_of_ble_eq_true rfl, Nat.le_of_ble_eq_true rfl⟩ (fun H locs hP hD hS => ?_)
    refine f_callSi ⟨hx, hb, hml, hown, hts⟩ hP hD hS hA hK hN [] (w2 := [(pa, .inr (1, [.ref fo, .ref no, .ref mo, .int (nI C), .int (nI R), .int (nI F)])), (fo, .inl (cI, 12, .inl fz)), (no, .inl (cI, 12, .inl nx)), (mo, .inl (cI, 144, .inl ml))])
        (c_J6_bitCount_0f7a4 (l := l) (D := D) (cI := cI) (cZ := cZ) (cP := cP) (cQ := cQ) (sz := _) (x := sp_X1_bitsOf fz (nI k)) ) (va_cwS 1 hts gX1_countFrost_J6_bitCount_0f7a4 rfl rfl rfl k_J6_bitCount_0f7a4.2 ⟨Nat.le_of_ble_eq_true rfl, Nat.le_of_ble_eq_true rfl⟩) rfl rfl [] rfl rfl rfl rfl rfl hl.1 (Nat.le_of_ble_eq_true rfl) dX1_countFrost_18 ⟨Nat.le_of_ble_eq_true rfl, Nat.le_of_ble_eq_true rfl⟩ (fun H locs hP hD hS => ?_)
    refine lv_iadd hx hb dX1_countFrost_21 ?_
    refine lv_istore_n (lv' := [(1, .int ((cfr fz k) + (bc (sp_X1_bitsOf fz (nI k))))), (2, .int (nI k)), (0, .ref pa)]) hx hb dX1_countFrost_22 rfl hl (by decide) rfl (fun ls hl => ?_)
    refine lv_iinc (v := nI (k + 1)) (lv' := [(2, .int (nI (k + 1))), (1, .int ((cfr fz k) + (bc (sp_X1_bitsOf fz (nI k))))), (0, .ref pa)]) hx hb dX1_countFrost_23 hl (k := 1) rfl (nI_1 _) (by decide) rfl (fun ls hl => ?_)
    refine lv_goto (tgt := 4) hx hb dX1_countFrost_26 (by decide) ?_
    exact ih_1 (k + 1) (by omega) (by first | omega | (simp only []; omega) | (show _ < _; simp only []; omega)) H locs hP hD hS ls (lv_sub hl [0, 1, 2] rfl)

theorem k_X1_countMelted : yX1_countMelted.cls = RX1 ∧ yX1_countMelted.cls ≠ "java/lang/invoke/MethodHandle" ∧ yX1_countMelted.cls ≠ "java/lang/invoke/VarHandle" ∧ (parseMethodDescriptor yX1_countMelted.desc).map (fun d => d.parameters.length) = some 0 := by decide +kernel
theorem wb_X1_countMelted_1 : ∀ w ∈ wsX10, w ∈ wsX1_countMelted := (fun _ h => List.mem_cons_of_mem _ (List.mem_append_right _ h))
theorem wi_X1_countMelted_1 : (Cond.fieldLink RX1 18 "FrostPane$Pane" "melts" "[I") ∈ wsX1_countMelted := List.mem_of_getElem? (i := 1) rfl
set_option maxHeartbeats 4000000 in
set_option maxRecDepth 100000 in
theorem c_X1_countMelted (l : Launch) (D : va_G) (cI cZ cP cQ : ClassId) (sz : Nat) (pa fo no mo C R F : Nat) (fz nx ml : Nat → Int32)  : f_Mi l yX1_countMelted wsX1_countMelted ({ frames := 0, cells := 0, slots := 0, locals := 0 }) D (fTY cI cZ cP cQ) [.ref pa] sz [(pa, .inr (1, [.ref fo, .ref no, .ref mo, .int (nI C), .int (nI R), .int (nI F)])), (fo, .inl (cI, 12, .inl fz)), (no, .inl (cI, 12, .inl nx)), (mo, .inl (cI, 144, .inl ml))] (cme ml 144) [(pa, .inr (1, [.ref fo, .ref no, .ref mo, .int (nI C), .int (nI R), .int (nI F)])), (fo, .inl (cI, 12, .inl fz)), (no, .inl (cI, 12, .inl nx)), (mo, .inl (cI, 144, .inl ml))] := by
  refine f_ent_i (by decide) rfl (Nat.le_of_ble_eq_true rfl) ?_
  intro pg ev s m below meth cd hx hb hr hts hown hlocks hml hnm hsz hP hK hN A hD hA hS ls hl
  have hown : s.vm.findClass RX1 = some m.cls := hown
  have hl : lv_has ls 3 [(0, .ref pa)] := hl
  refine lv_iconst (v := 0) hx hb dX1_countMelted_0 (by decide) ?_
  refine lv_istore_n (lv' := [(1, .int 0), (0, .ref pa)]) hx hb dX1_countMelted_1 rfl hl (by decide) rfl (fun ls hl => ?_)
  refine lv_iconst (v := 0) hx hb dX1_countMelted_2 (by decide) ?_
  refine lv_istore_n (lv' := [(2, .int 0), (1, .int 0), (0, .ref pa)]) hx hb dX1_countMelted_3 rfl hl (by decide) rfl (fun ls hl => ?_)
  refine f_loopW (σ := Nat) (D := D) (A := A) (H0 := s.heap) 3 4 (fun u9 => [(2, .int (nI u9)), (1, .int (cme ml u9)), (0, .ref pa)]) (fun u9 => [(pa, .inr (1, [.ref fo, .ref no, .ref mo, .int (nI C), .int (nI R), .int (nI F)])), (fo, .inl (cI, 12, .inl fz)), (no, .inl (cI, 12, .inl nx)), (mo, .inl (cI, 144, .inl ml))]) (fun u9 => u9 ≤ 144) (fun u9 => 144 - u9)
      (fun u9 hi_2 ih_1 H locs hP hD hS ls hl => ?_) 0 (by omega) hP hD hS (lv_sub hl [0, 1, 2] rfl)
  obtain ⟨k, rfl⟩ : ∃ z, z = u9 := ⟨_, rfl⟩
  have hi_2 : k ≤ 144 := hi_2
  obtain hk := hi_2
  have hl : lv_has ls 3 [(2, .int (nI k)), (1, .int (cme ml k)), (0, .ref pa)] := hl
  have hP : va_P D vwCl [(pa, .inr (1, [.ref fo, .ref no, .ref mo, .int (nI C), .int (nI R), .int (nI F)])), (fo, .inl (cI, 12, .inl fz)), (no, .inl (cI, 12, .inl nx)), (mo, .inl (cI, 144, .inl ml))] _ := hP
  have hD : va_D A [(pa, .inr (1, [.ref fo, .ref no, .ref mo, .int (nI C), .int (nI R), .int (nI F)])), (fo, .inl (cI, 12, .inl fz)), (no, .inl (cI, 12, .inl nx)), (mo, .inl (cI, 144, .inl ml))] := hD
  refine lv_iload_n hx hb dX1_countMelted_4 rfl (lv_at hl 0 rfl) ?_
  refine lv_aload_n hx hb dX1_countMelted_5 rfl (lv_at hl 2 rfl) ?_
  refine va_get (D := D) (ci := 1) (v := .ref mo) (C := RX1) (T := TX1) (N := 6) hx hb hts wb_X1_countMelted_1 hown hK hP 0 rfl rfl 2 (by decide) (hts _ wi_X1_countMelted_1) (fun _ h9 => h9) rfl dX1_countMelted_6 ?_
  refine va_alen (v := 144) hx hb hK hP 3 0 rfl rfl rfl dX1_countMelted_9 ?_
  refine lv_icmp_ge (tgt := 31) hx hb dX1_countMelted_10 (by decide) (fun c_3 => ?_) (fun c_3 => ?_)
  · have n_3 : 144 ≤ k := (nI_leI (a := 144) (b := k) (by omega) (by omega)).mp c_3
    refine lv_iload_n hx hb dX1_countMelted_31 rfl (lv_at hl 1 rfl) ?_
    exact f_ret_i hx hb hr hlocks hP hD hS dX1_countMelted_32 (by rw [show k = 144 by omega])
  · have n_3 : k < 144 := Nat.lt_of_not_le (fun h => c_3 ((nI_leI (a := 144) (b := k) (by omega) (by omega)).mpr h))
    refine lv_aload_n hx hb dX1_countMelted_13 rfl (lv_at hl 2 rfl) ?_
    refine va_get (D := D) (ci := 1) (v := .ref mo) (C := RX1) (T := TX1) (N := 6) hx hb hts wb_X1_countMelted_1 hown hK hP 0 rfl rfl 2 (by decide) (hts _ wi_X1_countMelted_1) (fun _ h9 => h9) rfl dX1_countMelted_14 ?_
    refine lv_iload_n hx hb dX1_countMelted_17 rfl (lv_at hl 0 rfl) ?_
    refine f_iald (k := k) hx hb hK hP 3 0 rfl rfl rfl (by omega) (by first | decide | omega) dX1_countMelted_18 ?_
    refine f_joinW (nL := 3) 25 [(2, .int (nI k)), (1, .int (if (ml k) ≤ 0 then cme ml k else (cme ml k) + 1)), (0, .ref pa)] [] (fun ls hl => ?_) (fun j_4 => ?_)
    · refine lv_iinc (v := nI (k + 1)) (lv' := [(2, .int (nI (k + 1))), (1, .int (if (ml k) ≤ 0 then cme ml k else (cme ml k) + 1)), (0, .ref pa)]) hx hb dX1_countMelted_25 hl (k := 0) rfl (nI_1 _) (by decide) rfl (fun ls hl => ?_)
      refine lv_goto (tgt := 4) hx hb dX1_countMelted_28 (by decide) ?_
      exact ih_1 (k + 1) (by omega) (by first | omega | (simp only []; omega) | (show _ < _; simp only []; omega)) H locs hP hD hS ls (lv_sub hl [0, 1, 2] rfl)
    refine lv_if_le (tgt := 25) hx hb dX1_countMelted_19 (by decide) (fun c_5 => ?_) (fun c_5 => ?_)
    · have hl9 : lv_has ls 3 [(2, .int (nI k)), (1, .int (cme ml k)), (0, .ref pa)] := lv_sub hl [0, 1, 2] rfl
      have hl9 : lv_has ls 3 [(2, .int (nI k)), (1, .int (if (ml k) ≤ 0 then cme ml k else (cme ml k) + 1)), (0, .ref pa)] := by rw [if_pos c_5]; exact hl9
      exact j_4 ls hl9
    · refine lv_iinc (v := (cme ml k) + 1) (lv' := [(1, .int ((cme ml k) + 1)), (2, .int (nI k)), (0, .ref pa)]) hx hb dX1_countMelted_22 hl (k := 1) rfl (rfl) (by decide) rfl (fun ls hl => ?_)
      have hl9 : lv_has ls 3 [(2, .int (nI k)), (1, .int ((cme ml k) + 1)), (0, .ref pa)] := lv_sub hl [1, 0, 2] rfl
      have hl9 : lv_has ls 3 [(2, .int (nI k)), (1, .int (if (ml k) ≤ 0 then cme ml k else (cme ml k) + 1)), (0, .ref pa)] := by rw [if_neg c_5]; exact hl9
      exact j_4 ls hl9

theorem k_X1_countIn : yX1_countIn.cls = RX1 ∧ yX1_countIn.cls ≠ "java/lang/invoke/MethodHandle" ∧ yX1_countIn.cls ≠ "java/lang/invoke/VarHandle" ∧ (parseMethodDescriptor yX1_countIn.desc).map (fun d => d.parameters.length) = some 4 := by decide +kernel
/-- X1_countIn: read off its bytecode -/
def sp_X1_countIn (u : Int32) (v : Int32) (w : Int32) (col : Int32) : Int32 := ((bc ((u >>> (col &&& 31)) &&& 7)) + (bc ((v >>> (col &&& 31)) &&& 5))) + (bc ((w >>> (col &&& 31)) &&& 7))
set_option maxHeartbeats 4000000 in
set_option maxRecDepth 100000 in
theorem c_X1_countIn (l : Launch) (D : va_G) (cI cZ cP cQ : ClassId) (sz : Nat) (u v w col : Int32)  : f_Mi l yX1_countIn wsX1_countIn ({ frames := 1, cells := 0, slots := 0, locals := 20 }) D (fTY cI cZ cP cQ) [.int u, .int v, .int w, .int col] sz [] (sp_X1_countIn u v w col) [] := by
  refine f_ent_i (by decide) rfl (Nat.le_of_ble_eq_true rfl) ?_
  intro pg ev s m below meth cd hx hb hr hts hown hlocks hml hnm hsz hP hK hN A hD hA hS ls hl
  have hown : s.vm.findClass RX1 = some m.cls := hown
  have hl : lv_has ls 4 [(0, .int u), (1, .int v), (2, .int w), (3, .int col)] := hl
  refine lv_iload_n hx hb dX1_countIn_0 rfl (lv_at hl 0 rfl) ?_
  refine lv_iload_n hx hb dX1_countIn_1 rfl (lv_at hl 3 rfl) ?_
  refine lv_ishr hx hb dX1_countIn_2 ?_
  refine lv_bipush (v := 7) hx hb dX1_countIn_3 (by decide) ?_
  refine lv_iand hx hb dX1_countIn_5 ?_
  refine f_callSi ⟨hx, hb, hml, hown, hts⟩ hP hD hS hA hK hN [] (w2 := [])
      (c_J6_bitCount_0f7a4 (l := l) (D := D) (cI := cI) (cZ := cZ) (cP := cP) (cQ := cQ) (sz := _) (x := (u >>> (col &&& 31)) &&& 7) ) (va_cwS 1 hts gX1_countIn_J6_bitCount_0f7a4 rfl rfl rfl k_J6_bitCount_0f7a4.2 ⟨Nat.le_of_ble_eq_true rfl, Nat.le_of_ble_eq_true rfl⟩) rfl rfl [] rfl rfl rfl rfl rfl hl.1 (Nat.le_of_ble_eq_true rfl) dX1_countIn_6 ⟨Nat.le_of_ble_eq_true rfl, Nat.le_of_ble_eq_true rfl⟩ (fun H locs hP hD hS => ?_)
  refine lv_iload_n hx hb dX1_countIn_9 rfl (lv_at hl 1 rfl) ?_
  refine lv_iload_n hx hb dX1_countIn_10 rfl (lv_at hl 3 rfl) ?_
  refine lv_ishr hx hb dX1_countIn_11 ?_
  refine lv_iconst (v := 5) hx hb dX1_countIn_12 (by decide) ?_
  refine lv_iand hx hb dX1_countIn_13 ?_
  refine f_callSi ⟨hx, hb, hml, hown, hts⟩ hP hD hS hA hK hN [] (w2 := [])
      (c_J6_bitCount_0f7a4 (l := l) (D := D) (cI := cI) (cZ := cZ) (cP := cP) (cQ := cQ) (sz := _) (x := (v >>> (col &&& 31)) &&& 5) ) (va_cwS 1 hts gX1_countIn_J6_bitCount_0f7a4 rfl rfl rfl k_J6_bitCount_0f7a4.2 ⟨Nat.le_of_ble_eq_true rfl, Nat.le_of_ble_eq_true rfl⟩) rfl rfl [] rfl rfl rfl rfl rfl hl.1 (Nat.le_of_ble_eq_true rfl) dX1_countIn_14 ⟨Nat.le_of_ble_eq_true rfl, Nat.le_of_ble_eq_true rfl⟩ (fun H locs hP hD hS => ?_)
  refine lv_iadd hx hb dX1_countIn_17 ?_
  refine lv_iload_n hx hb dX1_countIn_18 rfl (lv_at hl 2 rfl) ?_
  refine lv_iload_n hx hb dX1_countIn_19 rfl (lv_at hl 3 rfl) ?_
  refine lv_ishr hx hb dX1_countIn_20 ?_
  refine lv_bipush (v := 7) hx hb dX1_countIn_21 (by decide) ?_
  refine lv_iand hx hb dX1_countIn_23 ?_
  refine f_callSi ⟨hx, hb, hml, hown, hts⟩ hP hD hS hA hK hN [] (w2 := [])
      (c_J6_bitCount_0f7a4 (l := l) (D := D) (cI := cI) (cZ := cZ) (cP := cP) (cQ := cQ) (sz := _) (x := (w >>> (col &&& 31)) &&& 7) ) (va_cwS 1 hts gX1_countIn_J6_bitCount_0f7a4 rfl rfl rfl k_J6_bitCount_0f7a4.2 ⟨Nat.le_of_ble_eq_true rfl, Nat.le_of_ble_eq_true rfl⟩) rfl rfl [] rfl rfl rfl rfl rfl hl.1 (Nat.le_of_ble_eq_true rfl) dX1_countIn_24 ⟨Nat.le_of_ble_eq_true rfl, Nat.le_of_ble_eq_true rfl⟩ (fun H locs hP hD hS => ?_)
  refine lv_iadd hx hb dX1_countIn_27 ?_
  exact f_ret_i hx hb hr hlocks hP hD hS dX1_countIn_28 (by rw [sp_X1_countIn, ])

theorem k_X1_withSides : yX1_withSides.cls = RX1 ∧ yX1_withSides.cls ≠ "java/lang/invoke/MethodHandle" ∧ yX1_withSides.cls ≠ "java/lang/invoke/VarHandle" ∧ (parseMethodDescriptor yX1_withSides.desc).map (fun d => d.parameters.length) = some 1 := by decide +kernel
/-- X1_withSides: read off its bytecode -/
def sp_X1_withSides (C : Nat) (F : Nat) (x : Int32) : Int32 := if (nI F) = 1 then if (nI F) = 2 then (((x >>> (((nI C) - 1) &&& 31)) &&& 1) ||| (x <<< ((1 : Int32) &&& 31))) ||| ((x &&& 1) <<< ((nI (C + 1)) &&& 31)) else ((1 : Int32) ||| (x <<< ((1 : Int32) &&& 31))) ||| ((1 : Int32) <<< ((nI (C + 1)) &&& 31)) else (if (nI F) = 2 then (((x >>> (((nI C) - 1) &&& 31)) &&& 1) ||| (x <<< ((1 : Int32) &&& 31))) ||| ((x &&& 1) <<< ((nI (C + 1)) &&& 31)) else ((0 : Int32) ||| (x <<< ((1 : Int32) &&& 31))) ||| ((0 : Int32) <<< ((nI (C + 1)) &&& 31)))
theorem wb_X1_withSides_1 : ∀ w ∈ wsX10, w ∈ wsX1_withSides := (fun _ h => List.mem_cons_of_mem _ (List.mem_append_right _ h))
theorem wi_X1_withSides_1 : (Cond.fieldLink RX1 34 "FrostPane$Pane" "frame" "I") ∈ wsX1_withSides := List.mem_of_getElem? (i := 1) rfl
theorem wi_X1_withSides_2 : (Cond.fieldLink RX1 21 "FrostPane$Pane" "columns" "I") ∈ wsX1_withSides := List.mem_of_getElem? (i := 2) rfl
set_option maxHeartbeats 4000000 in
set_option maxRecDepth 100000 in
theorem c_X1_withSides (l : Launch) (D : va_G) (cI cZ cP cQ : ClassId) (sz : Nat) (pa fo no mo C R F : Nat) (fz nx ml : Nat → Int32) (x : Int32)  : f_Mi l yX1_withSides wsX1_withSides ({ frames := 0, cells := 0, slots := 0, locals := 0 }) D (fTY cI cZ cP cQ) [.ref pa, .int x] sz [(pa, .inr (1, [.ref fo, .ref no, .ref mo, .int (nI C), .int (nI R), .int (nI F)])), (fo, .inl (cI, 12, .inl fz)), (no, .inl (cI, 12, .inl nx)), (mo, .inl (cI, 144, .inl ml))] (sp_X1_withSides C F x) [(pa, .inr (1, [.ref fo, .ref no, .ref mo, .int (nI C), .int (nI R), .int (nI F)])), (fo, .inl (cI, 12, .inl fz)), (no, .inl (cI, 12, .inl nx)), (mo, .inl (cI, 144, .inl ml))] := by
  refine f_ent_i (by decide) rfl (Nat.le_of_ble_eq_true rfl) ?_
  intro pg ev s m below meth cd hx hb hr hts hown hlocks hml hnm hsz hP hK hN A hD hA hS ls hl
  have hown : s.vm.findClass RX1 = some m.cls := hown
  have hl : lv_has ls 4 [(0, .ref pa), (1, .int x)] := hl
  refine lv_aload_n hx hb dX1_withSides_0 rfl (lv_at hl 0 rfl) ?_
  refine va_get (D := D) (ci := 1) (v := .int (nI F)) (C := RX1) (T := TX1) (N := 6) hx hb hts wb_X1_withSides_1 hown hK hP 0 rfl rfl 5 (by decide) (hts _ wi_X1_withSides_1) (fun _ h9 => h9) rfl dX1_withSides_1 ?_
  refine lv_iconst (v := 1) hx hb dX1_withSides_4 (by decide) ?_
  refine lv_icmp_ne (tgt := 12) hx hb dX1_withSides_5 (by decide) (fun c_1 => ?_) (fun c_1 => ?_)
  · refine lv_iconst (v := 0) hx hb dX1_withSides_12 (by decide) ?_
    refine lv_istore_n (lv' := [(2, .int 0), (0, .ref pa), (1, .int x)]) hx hb dX1_withSides_13 rfl hl (by decide) rfl (fun ls hl => ?_)
    refine lv_iload_n hx hb dX1_withSides_14 rfl (lv_at hl 0 rfl) ?_
    refine lv_istore_n (lv' := [(3, .int 0), (2, .int 0), (0, .ref pa), (1, .int x)]) hx hb dX1_withSides_15 rfl hl (by decide) rfl (fun ls hl => ?_)
    refine lv_aload_n hx hb dX1_withSides_16 rfl (lv_at hl 2 rfl) ?_
    refine va_get (D := D) (ci := 1) (v := .int (nI F)) (C := RX1) (T := TX1) (N := 6) hx hb hts wb_X1_withSides_1 hown hK hP 0 rfl rfl 5 (by decide) (hts _ wi_X1_withSides_1) (fun _ h9 => h9) rfl dX1_withSides_17 ?_
    refine lv_iconst (v := 2) hx hb dX1_withSides_20 (by decide) ?_
    refine lv_icmp_ne (tgt := 39) hx hb dX1_withSides_21 (by decide) (fun c_2 => ?_) (fun c_2 => ?_)
    · refine lv_iload_n hx hb dX1_withSides_39 rfl (lv_at hl 1 rfl) ?_
      refine lv_iload_n hx hb dX1_withSides_40 rfl (lv_at hl 3 rfl) ?_
      refine lv_iconst (v := 1) hx hb dX1_withSides_41 (by decide) ?_
      refine lv_ishl hx hb dX1_withSides_42 ?_
      refine lv_ior hx hb dX1_withSides_43 ?_
      refine lv_iload_n hx hb dX1_withSides_44 rfl (lv_at hl 0 rfl) ?_
      refine lv_aload_n hx hb dX1_withSides_45 rfl (lv_at hl 2 rfl) ?_
      refine va_get (D := D) (ci := 1) (v := .int (nI C)) (C := RX1) (T := TX1) (N := 6) hx hb hts wb_X1_withSides_1 hown hK hP 0 rfl rfl 3 (by decide) (hts _ wi_X1_withSides_2) (fun _ h9 => h9) rfl dX1_withSides_46 ?_
      refine lv_iconst (v := 1) hx hb dX1_withSides_49 (by decide) ?_
      refine lv_iadd hx hb dX1_withSides_50 ?_
      refine f_topi (y := nI (C + 1)) (nI_add C 1) ?_
      refine lv_ishl hx hb dX1_withSides_51 ?_
      refine lv_ior hx hb dX1_withSides_52 ?_
      exact f_ret_i hx hb hr hlocks hP hD hS dX1_withSides_53 (by rw [sp_X1_withSides, if_neg c_1, if_neg c_2])
    · refine lv_iload_n hx hb dX1_withSides_24 rfl (lv_at hl 3 rfl) ?_
      refine lv_aload_n hx hb dX1_withSides_25 rfl (lv_at hl 2 rfl) ?_
      refine va_get (D := D) (ci := 1) (v := .int (nI C)) (C := RX1) (T := TX1) (N := 6) hx hb hts wb_X1_withSides_1 hown hK hP 0 rfl rfl 3 (by decide) (hts _ wi_X1_withSides_2) (fun _ h9 => h9) rfl dX1_withSides_26 ?_
      refine lv_iconst (v := 1) hx hb dX1_withSides_29 (by decide) ?_
      refine lv_isub hx hb dX1_withSides_30 ?_
      refine lv_ishr hx hb dX1_withSides_31 ?_
      refine lv_iconst (v := 1) hx hb dX1_withSides_32 (by decide) ?_
      refine lv_iand hx hb dX1_withSides_33 ?_
      refine lv_istore_n (lv' := [(2, .int ((x >>> (((nI C) - 1) &&& 31)) &&& 1)), (3, .int 0), (0, .ref pa), (1, .int x)]) hx hb dX1_withSides_34 rfl hl (by decide) rfl (fun ls hl => ?_)
      refine lv_iload_n hx hb dX1_withSides_35 rfl (lv_at hl 3 rfl) ?_
      refine lv_iconst (v := 1) hx hb dX1_withSides_36 (by decide) ?_
      refine lv_iand hx hb dX1_withSides_37 ?_
      refine lv_istore_n (lv' := [(3, .int (x &&& 1)), (2, .int ((x >>> (((nI C) - 1) &&& 31)) &&& 1)), (0, .ref pa), (1, .int x)]) hx hb dX1_withSides_38 rfl hl (by decide) rfl (fun ls hl => ?_)
      refine lv_iload_n hx hb dX1_withSides_39 rfl (lv_at hl 1 rfl) ?_
      refine lv_iload_n hx hb dX1_withSides_40 rfl (lv_at hl 3 rfl) ?_
      refine lv_iconst (v := 1) hx hb dX1_withSides_41 (by decide) ?_
      refine lv_ishl hx hb dX1_withSides_42 ?_
      refine lv_ior hx hb dX1_withSides_43 ?_
      refine lv_iload_n hx hb dX1_withSides_44 rfl (lv_at hl 0 rfl) ?_
      refine lv_aload_n hx hb dX1_withSides_45 rfl (lv_at hl 2 rfl) ?_
      refine va_get (D := D) (ci := 1) (v := .int (nI C)) (C := RX1) (T := TX1) (N := 6) hx hb hts wb_X1_withSides_1 hown hK hP 0 rfl rfl 3 (by decide) (hts _ wi_X1_withSides_2) (fun _ h9 => h9) rfl dX1_withSides_46 ?_
      refine lv_iconst (v := 1) hx hb dX1_withSides_49 (by decide) ?_
      refine lv_iadd hx hb dX1_withSides_50 ?_
      refine f_topi (y := nI (C + 1)) (nI_add C 1) ?_
      refine lv_ishl hx hb dX1_withSides_51 ?_
      refine lv_ior hx hb dX1_withSides_52 ?_
      exact f_ret_i hx hb hr hlocks hP hD hS dX1_withSides_53 (by rw [sp_X1_withSides, if_neg c_1, if_pos c_2])
  · refine lv_iconst (v := 1) hx hb dX1_withSides_8 (by decide) ?_
    refine lv_goto (tgt := 13) hx hb dX1_withSides_9 (by decide) ?_
    refine lv_istore_n (lv' := [(2, .int 1), (0, .ref pa), (1, .int x)]) hx hb dX1_withSides_13 rfl hl (by decide) rfl (fun ls hl => ?_)
    refine lv_iload_n hx hb dX1_withSides_14 rfl (lv_at hl 0 rfl) ?_
    refine lv_istore_n (lv' := [(3, .int 1), (2, .int 1), (0, .ref pa), (1, .int x)]) hx hb dX1_withSides_15 rfl hl (by decide) rfl (fun ls hl => ?_)
    refine lv_aload_n hx hb dX1_withSides_16 rfl (lv_at hl 2 rfl) ?_
    refine va_get (D := D) (ci := 1) (v := .int (nI F)) (C := RX1) (T := TX1) (N := 6) hx hb hts wb_X1_withSides_1 hown hK hP 0 rfl rfl 5 (by decide) (hts _ wi_X1_withSides_1) (fun _ h9 => h9) rfl dX1_withSides_17 ?_
    refine lv_iconst (v := 2) hx hb dX1_withSides_20 (by decide) ?_
    refine lv_icmp_ne (tgt := 39) hx hb dX1_withSides_21 (by decide) (fun c_3 => ?_) (fun c_3 => ?_)
    · refine lv_iload_n hx hb dX1_withSides_39 rfl (lv_at hl 1 rfl) ?_
      refine lv_iload_n hx hb dX1_withSides_40 rfl (lv_at hl 3 rfl) ?_
      refine lv_iconst (v := 1) hx hb dX1_withSides_41 (by decide) ?_
      refine lv_ishl hx hb dX1_withSides_42 ?_
      refine lv_ior hx hb dX1_withSides_43 ?_
      refine lv_iload_n hx hb dX1_withSides_44 rfl (lv_at hl 0 rfl) ?_
      refine lv_aload_n hx hb dX1_withSides_45 rfl (lv_at hl 2 rfl) ?_
      refine va_get (D := D) (ci := 1) (v := .int (nI C)) (C := RX1) (T := TX1) (N := 6) hx hb hts wb_X1_withSides_1 hown hK hP 0 rfl rfl 3 (by decide) (hts _ wi_X1_withSides_2) (fun _ h9 => h9) rfl dX1_withSides_46 ?_
      refine lv_iconst (v := 1) hx hb dX1_withSides_49 (by decide) ?_
      refine lv_iadd hx hb dX1_withSides_50 ?_
      refine f_topi (y := nI (C + 1)) (nI_add C 1) ?_
      refine lv_ishl hx hb dX1_withSides_51 ?_
      refine lv_ior hx hb dX1_withSides_52 ?_
      exact f_ret_i hx hb hr hlocks hP hD hS dX1_withSides_53 (by rw [sp_X1_withSides, if_pos c_1, if_neg c_3])
    · refine lv_iload_n hx hb dX1_withSides_24 rfl (lv_at hl 3 rfl) ?_
      refine lv_aload_n hx hb dX1_withSides_25 rfl (lv_at hl 2 rfl) ?_
      refine va_get (D := D) (ci := 1) (v := .int (nI C)) (C := RX1) (T := TX1) (N := 6) hx hb hts wb_X1_withSides_1 hown hK hP 0 rfl rfl 3 (by decide) (hts _ wi_X1_withSides_2) (fun _ h9 => h9) rfl dX1_withSides_26 ?_
      refine lv_iconst (v := 1) hx hb dX1_withSides_29 (by decide) ?_
      refine lv_isub hx hb dX1_withSides_30 ?_
      refine lv_ishr hx hb dX1_withSides_31 ?_
      refine lv_iconst (v := 1) hx hb dX1_withSides_32 (by decide) ?_
      refine lv_iand hx hb dX1_withSides_33 ?_
      refine lv_istore_n (lv' := [(2, .int ((x >>> (((nI C) - 1) &&& 31)) &&& 1)), (3, .int 1), (0, .ref pa), (1, .int x)]) hx hb dX1_withSides_34 rfl hl (by decide) rfl (fun ls hl => ?_)
      refine lv_iload_n hx hb dX1_withSides_35 rfl (lv_at hl 3 rfl) ?_
      refine lv_iconst (v := 1) hx hb dX1_withSides_36 (by decide) ?_
      refine lv_iand hx hb dX1_withSides_37 ?_
      refine lv_istore_n (lv' := [(3, .int (x &&& 1)), (2, .int ((x >>> (((nI C) - 1) &&& 31)) &&& 1)), (0, .ref pa), (1, .int x)]) hx hb dX1_withSides_38 rfl hl (by decide) rfl (fun ls hl => ?_)
      refine lv_iload_n hx hb dX1_withSides_39 rfl (lv_at hl 1 rfl) ?_
      refine lv_iload_n hx hb dX1_withSides_40 rfl (lv_at hl 3 rfl) ?_
      refine lv_iconst (v := 1) hx hb dX1_withSides_41 (by decide) ?_
      refine lv_ishl hx hb dX1_withSides_42 ?_
      refine lv_ior hx hb dX1_withSides_43 ?_
      refine lv_iload_n hx hb dX1_withSides_44 rfl (lv_at hl 0 rfl) ?_
      refine lv_aload_n hx hb dX1_withSides_45 rfl (lv_at hl 2 rfl) ?_
      refine va_get (D := D) (ci := 1) (v := .int (nI C)) (C := RX1) (T := TX1) (N := 6) hx hb hts wb_X1_withSides_1 hown hK hP 0 rfl rfl 3 (by decide) (hts _ wi_X1_withSides_2) (fun _ h9 => h9) rfl dX1_withSides_46 ?_
      refine lv_iconst (v := 1) hx hb dX1_withSides_49 (by decide) ?_
      refine lv_iadd hx hb dX1_withSides_50 ?_
      refine f_topi (y := nI (C + 1)) (nI_add C 1) ?_
      refine lv_ishl hx hb dX1_withSides_51 ?_
      refine lv_ior hx hb dX1_withSides_52 ?_
      exact f_ret_i hx hb hr hlocks hP hD hS dX1_withSides_53 (by rw [sp_X1_withSides, if_pos c_1, if_pos c_3])

theorem k_X1_framed : yX1_framed.cls = RX1 ∧ yX1_framed.cls ≠ "java/lang/invoke/MethodHandle" ∧ yX1_framed.cls ≠ "java/lang/invoke/VarHandle" ∧ (parseMethodDescriptor yX1_framed.desc).map (fun d => d.parameters.length) = some 1 := by decide +kernel
/-- X1_framed: read off its bytecode -/
def sp_X1_framed (C : Nat) (R : Nat) (F : Nat) (fz : Nat → Int32) (row : Int32) : Int32 := if (sp_X1_hasRow R row) = 0 then if (nI F) = 2 then if (0 : Int32) ≤ row then sp_X1_withSides C F (sp_X1_bitsOf fz 0) else sp_X1_withSides C F (sp_X1_bitsOf fz ((nI R) - 1)) else (if (nI F) = 1 then (-1) else 0) else sp_X1_withSides C F (sp_X1_bitsOf fz row)
theorem wb_X1_framed_1 : ∀ w ∈ wsX10, w ∈ wsX1_framed := (fun _ h => List.mem_cons_of_mem _ (List.mem_append_right _ h))
theorem wi_X1_framed_1 : (Cond.fieldLink RX1 34 "FrostPane$Pane" "frame" "I") ∈ wsX1_framed := List.mem_of_getElem? (i := 1) rfl
theorem wi_X1_framed_2 : (Cond.fieldLink RX1 25 "FrostPane$Pane" "rows" "I") ∈ wsX1_framed := List.mem_of_getElem? (i := 2) rfl
set_option maxHeartbeats 4000000 in
set_option maxRecDepth 100000 in
theorem c_X1_framed (l : Launch) (D : va_G) (cI cZ cP cQ : ClassId) (sz : Nat) (pa fo no mo C R F : Nat) (fz nx ml : Nat → Int32) (row : Int32)  : f_Mi l yX1_framed wsX1_framed ({ frames := 1, cells := 0, slots := 0, locals := 23 }) D (fTY cI cZ cP cQ) [.ref pa, .int row] sz [(pa, .inr (1, [.ref fo, .ref no, .ref mo, .int (nI C), .int (nI R), .int (nI F)])), (fo, .inl (cI, 12, .inl fz)), (no, .inl (cI, 12, .inl nx)), (mo, .inl (cI, 144, .inl ml))] (sp_X1_framed C R F fz row) [(pa, .inr (1, [.ref fo, .ref no, .ref mo, .int (nI C), .int (nI R), .int (nI F)])), (fo, .inl (cI, 12, .inl fz)), (no, .inl (cI, 12, .inl nx)), (mo, .inl (cI, 144, .inl ml))] := by
  refine f_ent_i (by decide) rfl (Nat.le_of_ble_eq_true rfl) ?_
  intro pg ev s m below meth cd hx hb hr hts hown hlocks hml hnm hsz hP hK hN A hD hA hS ls hl
  have hown : s.vm.findClass RX1 = some m.cls := hown
  have hl : lv_has ls 2 [(0, .ref pa), (1, .int row)] := hl
  refine lv_aload_n hx hb dX1_framed_0 rfl (lv_at hl 0 rfl) ?_
  refine lv_iload_n hx hb dX1_framed_1 rfl (lv_at hl 1 rfl) ?_
  refine f_callVi ⟨hx, hb, hml, hown, hts⟩ hP hD hS hA hK hN [0, 1, 2, 3] (w2 := [(pa, .inr (1, [.ref fo, .ref no, .ref mo, .int (nI C), .int (nI R), .int (nI F)])), (fo, .inl (cI, 12, .inl fz)), (no, .inl (cI, 12, .inl nx)), (mo, .inl (cI, 144, .inl ml))])
      (c_X1_hasRow (l := l) (D := D) (cI := cI) (cZ := cZ) (cP := cP) (cQ := cQ) (sz := _) (pa := pa) (fo := fo) (no := no) (mo := mo) (C := C) (R := R) (F := F) (fz := fz) (nx := nx) (ml := ml) (row := row) ) (cwV 1 hts gX1_framed_X1_hasRow rfl rfl rfl k_X1_hasRow ⟨Nat.le_of_ble_eq_true rfl, Nat.le_of_ble_eq_true rfl⟩) 0 rfl rfl rfl rfl [pa, fo, no, mo] rfl rfl rfl rfl rfl hl.1 (Nat.le_of_ble_eq_true rfl) dX1_framed_2 ⟨Nat.le_of_ble_eq_true rfl, Nat.le_of_ble_eq_true rfl⟩ (fun H locs hP hD hS => ?_)
  refine lv_if_eq (tgt := 18) hx hb dX1_framed_5 (by decide) (fun c_1 => ?_) (fun c_1 => ?_)
  · refine lv_aload_n hx hb dX1_framed_18 rfl (lv_at hl 0 rfl) ?_
    refine va_get (D := D) (ci := 1) (v := .int (nI F)) (C := RX1) (T := TX1) (N := 6) hx hb hts wb_X1_framed_1 hown hK hP 0 rfl rfl 5 (by decide) (hts _ wi_X1_framed_1) (fun _ h9 => h9) rfl dX1_framed_19 ?_
    refine lv_iconst (v := 2) hx hb dX1_framed_22 (by decide) ?_
    refine lv_icmp_ne (tgt := 49) hx hb dX1_framed_23 (by decide) (fun c_2 => ?_) (fun c_2 => ?_)
    · refine lv_aload_n hx hb dX1_framed_49 rfl (lv_at hl 0 rfl) ?_
      refine va_get (D := D) (ci := 1) (v := .int (nI F)) (C := RX1) (T := TX1) (N := 6) hx hb hts wb_X1_framed_1 hown hK hP 0 rfl rfl 5 (by decide) (hts _ wi_X1_framed_1) (fun _ h9 => h9) rfl dX1_framed_50 ?_
      refine lv_iconst (v := 1) hx hb dX1_framed_53 (by decide) ?_
      refine lv_icmp_ne (tgt := 61) hx hb dX1_framed_54 (by decide) (fun c_3 => ?_) (fun c_3 => ?_)
      · refine lv_iconst (v := 0) hx hb dX1_framed_61 (by decide) ?_
        exact f_ret_i hx hb hr hlocks hP hD hS dX1_framed_62 (by rw [sp_X1_framed, if_pos c_1, if_neg c_2, if_neg c_3])
      · refine lv_iconst (v := (-1)) hx hb dX1_framed_57 (by decide) ?_
        refine lv_goto (tgt := 62) hx hb dX1_framed_58 (by decide) ?_
        exact f_ret_i hx hb hr hlocks hP hD hS dX1_framed_62 (by rw [sp_X1_framed, if_pos c_1, if_neg c_2, if_pos c_3])
    · refine lv_aload_n hx hb dX1_framed_26 rfl (lv_at hl 0 rfl) ?_
      refine lv_aload_n hx hb dX1_framed_27 rfl (lv_at hl 0 rfl) ?_
      refine lv_iload_n hx hb dX1_framed_28 rfl (lv_at hl 1 rfl) ?_
      refine lv_if_ge (tgt := 41) hx hb dX1_framed_29 (by decide) (fun c_4 => ?_) (fun c_4 => ?_)
      · refine lv_iconst (v := 0) hx hb dX1_framed_41 (by decide) ?_
        refine f_callVi ⟨hx, hb, hml, hown, hts⟩ hP hD hS hA hK hN [0, 1, 2, 3] (w2 := [(pa, .inr (1, [.ref fo, .ref no, .ref mo, .int (nI C), .int (nI R), .int (nI F)])), (fo, .inl (cI, 12, .inl fz)), (no, .inl (cI, 12, .inl nx)), (mo, .inl (cI, 144, .inl ml))])
            (c_X1_bitsOf (l := l) (D := D) (cI := cI) (cZ := cZ) (cP := cP) (cQ := cQ) (sz := _) (pa := pa) (fo := fo) (no := no) (mo := mo) (C := C) (R := R) (F := F) (fz := fz) (nx := nx) (ml := ml) (row := 0) ) (cwV 1 hts gX1_framed_X1_bitsOf rfl rfl rfl k_X1_bitsOf ⟨Nat.le_of_ble_eq_true rfl, Nat.le_of_ble_eq_true rfl⟩) 0 rfl rfl rfl rfl [pa, fo, no, mo] rfl rfl rfl rfl rfl hl.1 (Nat.le_of_ble_eq_true rfl) dX1_framed_42 ⟨Nat.le_of_ble_eq_true rfl, Nat.le_of_ble_eq_true rfl⟩ (fun H locs hP hD hS => ?_)
        refine f_callVi ⟨hx, hb, hml, hown, hts⟩ hP hD hS hA hK hN [0, 1, 2, 3] (w2 := [(pa, .inr (1, [.ref fo, .ref no, .ref mo, .int (nI C), .int (nI R), .int (nI F)])), (fo, .inl (cI, 12, .inl fz)), (no, .inl (cI, 12, .inl nx)), (mo, .inl (cI, 144, .inl ml))])
            (c_X1_withSides (l := l) (D := D) (cI := cI) (cZ := cZ) (cP := cP) (cQ := cQ) (sz := _) (pa := pa) (fo := fo) (no := no) (mo := mo) (C := C) (R := R) (F := F) (fz := fz) (nx := nx) (ml := ml) (x := sp_X1_bitsOf fz 0) ) (cwV 1 hts gX1_framed_X1_withSides rfl rfl rfl k_X1_withSides ⟨Nat.le_of_ble_eq_true rfl, Nat.le_of_ble_eq_true rfl⟩) 0 rfl rfl rfl rfl [pa, fo, no, mo] rfl rfl rfl rfl rfl hl.1 (Nat.le_of_ble_eq_true rfl) dX1_framed_45 ⟨Nat.le_of_ble_eq_true rfl, Nat.le_of_ble_eq_true rfl⟩ (fun H locs hP hD hS => ?_)
        exact f_ret_i hx hb hr hlocks hP hD hS dX1_framed_48 (by rw [sp_X1_framed, if_pos c_1, if_pos c_2, if_pos c_4])
      · refine lv_aload_n hx hb dX1_framed_32 rfl (lv_at hl 0 rfl) ?_
        refine va_get (D := D) (ci := 1) (v := .int (nI R)) (C := RX1) (T := TX1) (N := 6) hx hb hts wb_X1_framed_1 hown hK hP 0 rfl rfl 4 (by decide) (hts _ wi_X1_framed_2) (fun _ h9 => h9) rfl dX1_framed_33 ?_
        refine lv_iconst (v := 1) hx hb dX1_framed_36 (by decide) ?_
        refine lv_isub hx hb dX1_framed_37 ?_
        refine lv_goto (tgt := 42) hx hb dX1_framed_38 (by decide) ?_
        refine f_callVi ⟨hx, hb, hml, hown, hts⟩ hP hD hS hA hK hN [0, 1, 2, 3] (w2 := [(pa, .inr (1, [.ref fo, .ref no, .ref mo, .int (nI C), .int (nI R), .int (nI F)])), (fo, .inl (cI, 12, .inl fz)), (no, .inl (cI, 12, .inl nx)), (mo, .inl (cI, 144, .inl ml))])
            (c_X1_bitsOf (l := l) (D := D) (cI := cI) (cZ := cZ) (cP := cP) (cQ := cQ) (sz := _) (pa := pa) (fo := fo) (no := no) (mo := mo) (C := C) (R := R) (F := F) (fz := fz) (nx := nx) (ml := ml) (row := (nI R) - 1) ) (cwV 1 hts gX1_framed_X1_bitsOf rfl rfl rfl k_X1_bitsOf ⟨Nat.le_of_ble_eq_true rfl, Nat.le_of_ble_eq_true rfl⟩) 0 rfl rfl rfl rfl [pa, fo, no, mo] rfl rfl rfl rfl rfl hl.1 (Nat.le_of_ble_eq_true rfl) dX1_framed_42 ⟨Nat.le_of_ble_eq_true rfl, Nat.le_of_ble_eq_true rfl⟩ (fun H locs hP hD hS => ?_)
        refine f_callVi ⟨hx, hb, hml, hown, hts⟩ hP hD hS hA hK hN [0, 1, 2, 3] (w2 := [(pa, .inr (1, [.ref fo, .ref no, .ref mo, .int (nI C), .int (nI R), .int (nI F)])), (fo, .inl (cI, 12, .inl fz)), (no, .inl (cI, 12, .inl nx)), (mo, .inl (cI, 144, .inl ml))])
            (c_X1_withSides (l := l) (D := D) (cI := cI) (cZ := cZ) (cP := cP) (cQ := cQ) (sz := _) (pa := pa) (fo := fo) (no := no) (mo := mo) (C := C) (R := R) (F := F) (fz := fz) (nx := nx) (ml := ml) (x := sp_X1_bitsOf fz ((nI R) - 1)) ) (cwV 1 hts gX1_framed_X1_withSides rfl rfl rfl k_X1_withSides ⟨Nat.le_of_ble_eq_true rfl, Nat.le_of_ble_eq_true rfl⟩) 0 rfl rfl rfl rfl [pa, fo, no, mo] rfl rfl rfl rfl rfl hl.1 (Nat.le_of_ble_eq_true rfl) dX1_framed_45 ⟨Nat.le_of_ble_eq_true rfl, Nat.le_of_ble_eq_true rfl⟩ (fun H locs hP hD hS => ?_)
        exact f_ret_i hx hb hr hlocks hP hD hS dX1_framed_48 (by rw [sp_X1_framed, if_pos c_1, if_pos c_2, if_neg c_4])
  · refine lv_aload_n hx hb dX1_framed_8 rfl (lv_at hl 0 rfl) ?_
    refine lv_aload_n hx hb dX1_framed_9 rfl (lv_at hl 0 rfl) ?_
    refine lv_iload_n hx hb dX1_framed_10 rfl (lv_at hl 1 rfl) ?_
    refine f_callVi ⟨hx, hb, hml, hown, hts⟩ hP hD hS hA hK hN [0, 1, 2, 3] (w2 := [(pa, .inr (1, [.ref fo, .ref no, .ref mo, .int (nI C), .int (nI R), .int (nI F)])), (fo, .inl (cI, 12, .inl fz)), (no, .inl (cI, 12, .inl nx)), (mo, .inl (cI, 144, .inl ml))])
        (c_X1_bitsOf (l := l) (D := D) (cI := cI) (cZ := cZ) (cP := cP) (cQ := cQ) (sz := _) (pa := pa) (fo := fo) (no := no) (mo := mo) (C := C) (R := R) (F := F) (fz := fz) (nx := nx) (ml := ml) (row := row) ) (cwV 1 hts gX1_framed_X1_bitsOf rfl rfl rfl k_X1_bitsOf ⟨Nat.le_of_ble_eq_true rfl, Nat.le_of_ble_eq_true rfl⟩) 0 rfl rfl rfl rfl [pa, fo, no, mo] rfl rfl rfl rfl rfl hl.1 (Nat.le_of_ble_eq_true rfl) dX1_framed_11 ⟨Nat.le_of_ble_eq_true rfl, Nat.le_of_ble_eq_true rfl⟩ (fun H locs hP hD hS => ?_)
    refine f_callVi ⟨hx, hb, hml, hown, hts⟩ hP hD hS hA hK hN [0, 1, 2, 3] (w2 := [(pa, .inr (1, [.ref fo, .ref no, .ref mo, .int (nI C), .int (nI R), .int (nI F)])), (fo, .inl (cI, 12, .inl fz)), (no, .inl (cI, 12, .inl nx)), (mo, .inl (cI, 144, .inl ml))])
        (c_X1_withSides (l := l) (D := D) (cI := cI) (cZ := cZ) (cP := cP) (cQ := cQ) (sz := _) (pa := pa) (fo := fo) (no := no) (mo := mo) (C := C) (R := R) (F := F) (fz := fz) (nx := nx) (ml := ml) (x := sp_X1_bitsOf fz row) ) (cwV 1 hts gX1_framed_X1_withSides rfl rfl rfl k_X1_withSides ⟨Nat.le_of_ble_eq_true rfl, Nat.le_of_ble_eq_true rfl⟩) 0 rfl rfl rfl rfl [pa, fo, no, mo] rfl rfl rfl rfl rfl hl.1 (Nat.le_of_ble_eq_true rfl) dX1_framed_14 ⟨Nat.le_of_ble_eq_true rfl, Nat.le_of_ble_eq_true rfl⟩ (fun H locs hP hD hS => ?_)
    exact f_ret_i hx hb hr hlocks hP hD hS dX1_framed_17 (by rw [sp_X1_framed, if_neg c_1])

theorem k_X1_countAround : yX1_countAround.cls = RX1 ∧ yX1_countAround.cls ≠ "java/lang/invoke/MethodHandle" ∧ yX1_countAround.cls ≠ "java/lang/invoke/VarHandle" ∧ (parseMethodDescriptor yX1_countAround.desc).map (fun d => d.parameters.length) = some 2 := by decide +kernel
/-- X1_countAround: read off its bytecode -/
def sp_X1_countAround (C : Nat) (R : Nat) (F : Nat) (fz : Nat → Int32) (col : Int32) (row : Int32) : Int32 := sp_X1_countIn (sp_X1_framed C R F fz (row - 1)) (sp_X1_framed C R F fz row) (sp_X1_framed C R F fz (row + 1)) col
set_option maxHeartbeats 4000000 in
set_option maxRecDepth 100000 in
theorem c_X1_countAround (l : Launch) (D : va_G) (cI cZ cP cQ : ClassId) (sz : Nat) (pa fo no mo C R F : Nat) (fz nx ml : Nat → Int32) (col row : Int32)  : f_Mi l yX1_countAround wsX1_countAround ({ frames := 2, cells := 0, slots := 0, locals := 44 }) D (fTY cI cZ cP cQ) [.ref pa, .int col, .int row] sz [(pa, .inr (1, [.ref fo, .ref no, .ref mo, .int (nI C), .int (nI R), .int (nI F)])), (fo, .inl (cI, 12, .inl fz)), (no, .inl (cI, 12, .inl nx)), (mo, .inl (cI, 144, .inl ml))] (sp_X1_countAround C R F fz col row) [(pa, .inr (1, [.ref fo, .ref no, .ref mo, .int (nI C), .int (nI R), .int (nI F)])), (fo, .inl (cI, 12, .inl fz)), (no, .inl (cI, 12, .inl nx)), (mo, .inl (cI, 144, .inl ml))] := by
  refine f_ent_i (by decide) rfl (Nat.le_of_ble_eq_true rfl) ?_
  intro pg ev s m below meth cd hx hb hr hts hown hlocks hml hnm hsz hP hK hN A hD hA hS ls hl
  have hown : s.vm.findClass RX1 = some m.cls := hown
  have hl : lv_has ls 3 [(0, .ref pa), (1, .int col), (2, .int row)] := hl
  refine lv_aload_n hx hb dX1_countAround_0 rfl (lv_at hl 0 rfl) ?_
  refine lv_iload_n hx hb dX1_countAround_1 rfl (lv_at hl 2 rfl) ?_
  refine lv_iconst (v := 1) hx hb dX1_countAround_2 (by decide) ?_
  refine lv_isub hx hb dX1_countAround_3 ?_
  refine f_callVi ⟨hx, hb, hml, hown, hts⟩ hP hD hS hA hK hN [0, 1, 2, 3] (w2 := [(pa, .inr (1, [.ref fo, .ref no, .ref mo, .int (nI C), .int (nI R), .int (nI F)])), (fo, .inl (cI, 12, .inl fz)), (no, .inl (cI, 12, .inl nx)), (mo, .inl (cI, 144, .inl ml))])
      (c_X1_framed (l := l) (D := D) (cI := cI) (cZ := cZ) (cP := cP) (cQ := cQ) (sz := _) (pa := pa) (fo := fo) (no := no) (mo := mo) (C := C) (R := R) (F := F) (fz := fz) (nx := nx) (ml := ml) (row := row - 1) ) (cwV 1 hts gX1_countAround_X1_framed rfl rfl rfl k_X1_framed ⟨Nat.le_of_ble_eq_true rfl, Nat.le_of_ble_eq_true rfl⟩) 0 rfl rfl rfl rfl [pa, fo, no, mo] rfl rfl rfl rfl rfl hl.1 (Nat.le_of_ble_eq_true rfl) dX1_countAround_4 ⟨Nat.le_of_ble_eq_true rfl, Nat.le_of_ble_eq_true rfl⟩ (fun H locs hP hD hS => ?_)
  refine lv_aload_n hx hb dX1_countAround_7 rfl (lv_at hl 0 rfl) ?_
  refine lv_iload_n hx hb dX1_countAround_8 rfl (lv_at hl 2 rfl) ?_
  refine f_callVi ⟨hx, hb, hml, hown, hts⟩ hP hD hS hA hK hN [0, 1, 2, 3] (w2 := [(pa, .inr (1, [.ref fo, .ref no, .ref mo, .int (nI C), .int (nI R), .int (nI F)])), (fo, .inl (cI, 12, .inl fz)), (no, .inl (cI, 12, .inl nx)), (mo, .inl (cI, 144, .inl ml))])
      (c_X1_framed (l := l) (D := D) (cI := cI) (cZ := cZ) (cP := cP) (cQ := cQ) (sz := _) (pa := pa) (fo := fo) (no := no) (mo := mo) (C := C) (R := R) (F := F) (fz := fz) (nx := nx) (ml := ml) (row := row) ) (cwV 1 hts gX1_countAround_X1_framed rfl rfl rfl k_X1_framed ⟨Nat.le_of_ble_eq_true rfl, Nat.le_of_ble_eq_true rfl⟩) 0 rfl rfl rfl rfl [pa, fo, no, mo] rfl rfl rfl rfl rfl hl.1 (Nat.le_of_ble_eq_true rfl) dX1_countAround_9 ⟨Nat.le_of_ble_eq_true rfl, Nat.le_of_ble_eq_true rfl⟩ (fun H locs hP hD hS => ?_)
  refine lv_aload_n hx hb dX1_countAround_12 rfl (lv_at hl 0 rfl) ?_
  refine lv_iload_n hx hb dX1_countAround_13 rfl (lv_at hl 2 rfl) ?_
  refine lv_iconst (v := 1) hx hb dX1_countAround_14 (by decide) ?_
  refine lv_iadd hx hb dX1_countAround_15 ?_
  refine f_callVi ⟨hx, hb, hml, hown, hts⟩ hP hD hS hA hK hN [0, 1, 2, 3] (w2 := [(pa, .inr (1, [.ref fo, .ref no, .ref mo, .int (nI C), .int (nI R), .int (nI F)])), (fo, .inl (cI, 12, .inl fz)), (no, .inl (cI, 12, .inl nx)), (mo, .inl (cI, 144, .inl ml))])
      (c_X1_framed (l := l) (D := D) (cI := cI) (cZ := cZ) (cP := cP) (cQ := cQ) (sz := _) (pa := pa) (fo := fo) (no := no) (mo := mo) (C := C) (R := R) (F := F) (fz := fz) (nx := nx) (ml := ml) (row := row + 1) ) (cwV 1 hts gX1_countAround_X1_framed rfl rfl rfl k_X1_framed ⟨Nat.le_of_ble_eq_true rfl, Nat.le_of_ble_eq_true rfl⟩) 0 rfl rfl rfl rfl [pa, fo, no, mo] rfl rfl rfl rfl rfl hl.1 (Nat.le_of_ble_eq_true rfl) dX1_countAround_16 ⟨Nat.le_of_ble_eq_true rfl, Nat.le_of_ble_eq_true rfl⟩ (fun H locs hP hD hS => ?_)
  refine lv_iload_n hx hb dX1_countAround_19 rfl (lv_at hl 1 rfl) ?_
  refine f_callSi ⟨hx, hb, hml, hown, hts⟩ hP hD hS hA hK hN [] (w2 := [(pa, .inr (1, [.ref fo, .ref no, .ref mo, .int (nI C), .int (nI R), .int (nI F)])), (fo, .inl (cI, 12, .inl fz)), (no, .inl (cI, 12, .inl nx)), (mo, .inl (cI, 144, .inl ml))])
      (c_X1_countIn (l := l) (D := D) (cI := cI) (cZ := cZ) (cP := cP) (cQ := cQ) (sz := _) (u := sp_X1_framed C R F fz (row - 1)) (v := sp_X1_framed C R F fz row) (w := sp_X1_framed C R F fz (row + 1)) (col := col) ) (va_cwS 4 hts gX1_countAround_X1_countIn rfl rfl rfl k_X1_countIn.2 ⟨Nat.le_of_ble_eq_true rfl, Nat.le_of_ble_eq_true rfl⟩) rfl rfl [] rfl rfl rfl rfl rfl hl.1 (Nat.le_of_ble_eq_true rfl) dX1_countAround_20 ⟨Nat.le_of_ble_eq_true rfl, Nat.le_of_ble_eq_true rfl⟩ (fun H locs hP hD hS => ?_)
  exact f_ret_i hx hb hr hlocks hP hD hS dX1_countAround_23 (by rw [sp_X1_countAround, ])

/-- Pane.grownRow: what a row will be, its first k columns -/
def gro (C R F : Nat) (fz ml : Nat → Int32) (row fr st : Int32) : Nat → Int32
  | 0 => 0
  | k + 1 => if sp_X1_meltOf ml (nI k) row = 0 then (if (((if sp_X1_hasFrost fz (nI k) row = 0 then fr else st) >>> (sp_X1_countIn (sp_X1_framed C R F fz (row - 1)) (sp_X1_framed C R F fz row) (sp_X1_framed C R F fz (row + 1)) (nI k) &&& 31)) &&& 1) = 1 then gro C R F fz ml row fr st k ||| ((1 : Int32) <<< (nI k &&& 31)) else gro C R F fz ml row fr st k) else gro C R F fz ml row fr st k
theorem k_X1_grownRow : yX1_grownRow.cls = RX1 ∧ yX1_grownRow.cls ≠ "java/lang/invoke/MethodHandle" ∧ yX1_grownRow.cls ≠ "java/lang/invoke/VarHandle" ∧ (parseMethodDescriptor yX1_grownRow.desc).map (fun d => d.parameters.length) = some 3 := by decide +kernel
theorem wb_X1_grownRow_1 : ∀ w ∈ wsX10, w ∈ wsX1_grownRow := (fun _ h => List.mem_cons_of_mem _ (List.mem_append_right _ h))
theorem wi_X1_grownRow_1 : (Cond.fieldLink RX1 21 "FrostPane$Pane" "columns" "I") ∈ wsX1_grownRow := List.mem_of_getElem? (i := 1) rfl
set_option maxHeartbeats 4000000 in
set_option maxRecDepth 100000 in
theorem c_X1_grownRow (l : Launch) (D : va_G) (cI cZ cP cQ : ClassId) (sz : Nat) (pa fo no mo C R F : Nat) (fz nx ml : Nat → Int32) (row fr st : Int32) (hC : C ≤ 12) : f_Mi l yX1_grownRow wsX1_grownRow ({ frames := 2, cells := 0, slots := 0, locals := 44 }) D (fTY cI cZ cP cQ) [.ref pa, .int row, .int fr, .int st] sz [(pa, .inr (1, [.ref fo, .ref no, .ref mo, .int (nI C), .int (nI R), .int (nI F)])), (fo, .inl (cI, 12, .inl fz)), (no, .inl (cI, 12, .inl nx)), (mo, .inl (cI, 144, .inl ml))] (gro C R F fz ml row fr st C) [(pa, .inr (1, [.ref fo, .ref no, .ref mo, .int (nI C), .int (nI R), .int (nI F)])), (fo, .inl (cI, 12, .inl fz)), (no, .inl (cI, 12, .inl nx)), (mo, .inl (cI, 144, .inl ml))] := by
  refine f_ent_i (by decide) rfl (Nat.le_of_ble_eq_true rfl) ?_
  intro pg ev s m below meth cd hx hb hr hts hown hlocks hml hnm hsz hP hK hN A hD hA hS ls hl
  have hown : s.vm.findClass RX1 = some m.cls := hown
  have hl : lv_has ls 11 [(0, .ref pa), (1, .int row), (2, .int fr), (3, .int st)] := hl
  refine lv_aload_n hx hb dX1_grownRow_0 rfl (lv_at hl 0 rfl) ?_
  refine lv_iload_n hx hb dX1_grownRow_1 rfl (lv_at hl 1 rfl) ?_
  refine lv_iconst (v := 1) hx hb dX1_grownRow_2 (by decide) ?_
  refine lv_isub hx hb dX1_grownRow_3 ?_
  refine f_callVi ⟨hx, hb, hml, hown, hts⟩ hP hD hS hA hK hN [0, 1, 2, 3] (w2 := [(pa, .inr (1, [.ref fo, .ref no, .ref mo, .int (nI C), .int (nI R), .int (nI F)])), (fo, .inl (cI, 12, .inl fz)), (no, .inl (cI, 12, .inl nx)), (mo, .inl (cI, 144, .inl ml))])
      (c_X1_framed (l := l) (D := D) (cI := cI) (cZ := cZ) (cP := cP) (cQ := cQ) (sz := _) (pa := pa) (fo := fo) (no := no) (mo := mo) (C := C) (R := R) (F := F) (fz := fz) (nx := nx) (ml := ml) (row := row - 1) ) (cwV 1 hts gX1_grownRow_X1_framed rfl rfl rfl k_X1_framed ⟨Nat.le_of_ble_eq_true rfl, Nat.le_of_ble_eq_true rfl⟩) 0 rfl rfl rfl rfl [pa, fo, no, mo] rfl rfl rfl rfl rfl hl.1 (Nat.le_of_ble_eq_true rfl) dX1_grownRow_4 ⟨Nat.le_of_ble_eq_true rfl, Nat.le_of_ble_eq_true rfl⟩ (fun H locs hP hD hS => ?_)
  refine lv_istore (lv' := [(4, .int (sp_X1_framed C R F fz (row - 1))), (0, .ref pa), (1, .int row), (2, .int fr), (3, .int st)]) hx hb dX1_grownRow_7 hl (by decide) rfl (fun ls hl => ?_)
  refine lv_aload_n hx hb dX1_grownRow_9 rfl (lv_at hl 1 rfl) ?_
  refine lv_iload_n hx hb dX1_grownRow_10 rfl (lv_at hl 2 rfl) ?_
  refine f_callVi ⟨hx, hb, hml, hown, hts⟩ hP hD hS hA hK hN [0, 1, 2, 3] (w2 := [(pa, .inr (1, [.ref fo, .ref no, .ref mo, .int (nI C), .int (nI R), .int (nI F)])), (fo, .inl (cI, 12, .inl fz)), (no, .inl (cI, 12, .inl nx)), (mo, .inl (cI, 144, .inl ml))])
      (c_X1_framed (l := l) (D := D) (cI := cI) (cZ := cZ) (cP := cP) (cQ := cQ) (sz := _) (pa := pa) (fo := fo) (no := no) (mo := mo) (C := C) (R := R) (F := F) (fz := fz) (nx := nx) (ml := ml) (row := row) ) (cwV 1 hts gX1_grownRow_X1_framed rfl rfl rfl k_X1_framed ⟨Nat.le_of_ble_eq_true rfl, Nat.le_of_ble_eq_true rfl⟩) 0 rfl rfl rfl rfl [pa, fo, no, mo] rfl rfl rfl rfl rfl hl.1 (Nat.le_of_ble_eq_true rfl) dX1_grownRow_11 ⟨Nat.le_of_ble_eq_true rfl, Nat.le_of_ble_eq_true rfl⟩ (fun H locs hP hD hS => ?_)
  refine lv_istore (lv' := [(5, .int (sp_X1_framed C R F fz row)), (4, .int (sp_X1_framed C R F fz (row - 1))), (0, .ref pa), (1, .int row), (2, .int fr), (3, .int st)]) hx hb dX1_grownRow_14 hl (by decide) rfl (fun ls hl => ?_)
  refine lv_aload_n hx hb dX1_grownRow_16 rfl (lv_at hl 2 rfl) ?_
  refine lv_iload_n hx hb dX1_grownRow_17 rfl (lv_at hl 3 rfl) ?_
  refine lv_iconst (v := 1) hx hb dX1_grownRow_18 (by decide) ?_
  refine lv_iadd hx hb dX1_grownRow_19 ?_
  refine f_callVi ⟨hx, hb, hml, hown, hts⟩ hP hD hS hA hK hN [0, 1, 2, 3] (w2 := [(pa, .inr (1, [.ref fo, .ref no, .ref mo, .int (nI C), .int (nI R), .int (nI F)])), (fo, .inl (cI, 12, .inl fz)), (no, .inl (cI, 12, .inl nx)), (mo, .inl (cI, 144, .inl ml))])
      (c_X1_framed (l := l) (D := D) (cI := cI) (cZ := cZ) (cP := cP) (cQ := cQ) (sz := _) (pa := pa) (fo := fo) (no := no) (mo := mo) (C := C) (R := R) (F := F) (fz := fz) (nx := nx) (ml := ml) (row := row + 1) ) (cwV 1 hts gX1_grownRow_X1_framed rfl rfl rfl k_X1_framed ⟨Nat.le_of_ble_eq_true rfl, Nat.le_of_ble_eq_true rfl⟩) 0 rfl rfl rfl rfl [pa, fo, no, mo] rfl rfl rfl rfl rfl hl.1 (Nat.le_of_ble_eq_true rfl) dX1_grownRow_20 ⟨Nat.le_of_ble_eq_true rfl, Nat.le_of_ble_eq_true rfl⟩ (fun H locs hP hD hS => ?_)
  refine lv_istore (lv' := [(6, .int (sp_X1_framed C R F fz (row + 1))), (5, .int (sp_X1_framed C R F fz row)), (4, .int (sp_X1_framed C R F fz (row - 1))), (0, .ref pa), (1, .int row), (2, .int fr), (3, .int st)]) hx hb dX1_grownRow_23 hl (by decide) rfl (fun ls hl => ?_)
  refine lv_iconst (v := 0) hx hb dX1_grownRow_25 (by decide) ?_
  refine lv_istore (lv' := [(7, .int 0), (6, .int (sp_X1_framed C R F fz (row + 1))), (5, .int (sp_X1_framed C R F fz row)), (4, .int (sp_X1_framed C R F fz (row - 1))), (0, .ref pa), (1, .int row), (2, .int fr), (3, .int st)]) hx hb dX1_grownRow_26 hl (by decide) rfl (fun ls hl => ?_)
  refine lv_iconst (v := 0) hx hb dX1_grownRow_28 (by decide) ?_
  refine lv_istore (lv' := [(8, .int 0), (7, .int 0), (6, .int (sp_X1_framed C R F fz (row + 1))), (5, .int (sp_X1_framed C R F fz row)), (4, .int (sp_X1_framed C R F fz (row - 1))), (0, .ref pa), (1, .int row), (2, .int fr), (3, .int st)]) hx hb dX1_grownRow_29 hl (by decide) rfl (fun ls hl => ?_)
  refine f_loopW (σ := Nat) (D := D) (A := A) (H0 := s.heap) 11 31 (fun u9 => [(8, .int (nI u9)), (7, .int (gro C R F fz ml row fr st u9)), (6, .int (sp_X1_framed C R F fz (row + 1))), (5, .int (sp_X1_framed C R F fz row)), (4, .int (sp_X1_framed C R F fz (row - 1))), (0, .ref pa), (1, .int row), (2, .int fr), (3, .int st)]) (fun u9 => [(pa, .inr (1, [.ref fo, .ref no, .ref mo, .int (nI C), .int (nI R), .int (nI F)])), (fo, .inl (cI, 12, .inl fz)), (no, .inl (cI, 12, .inl nx)), (mo, .inl (cI, 144, .inl ml))]) (fun u9 => u9 ≤ C) (fun u9 => C - u9)
      (fun u9 hi_2 ih_1 H locs hP hD hS ls hl => ?_) 0 (by omega) hP hD hS (lv_sub hl [0, 1, 2, 3, 4, 5, 6, 7, 8] rfl)
  obtain ⟨k, rfl⟩ : ∃ z, z = u9 := ⟨_, rfl⟩
  have hi_2 : k ≤ C := hi_2
  obtain hk := hi_2
  have hl : lv_has ls 11 [(8, .int (nI k)), (7, .int (gro C R F fz ml row fr st k)), (6, .int (sp_X1_framed C R F fz (row + 1))), (5, .int (sp_X1_framed C R F fz row)), (4, .int (sp_X1_framed C R F fz (row - 1))), (0, .ref pa), (1, .int row), (2, .int fr), (3, .int st)] := hl
  have hP : va_P D vwCl [(pa, .inr (1, [.ref fo, .ref no, .ref mo, .int (nI C), .int (nI R), .int (nI F)])), (fo, .inl (cI, 12, .inl fz)), (no, .inl (cI, 12, .inl nx)), (mo, .inl (cI, 144, .inl ml))] _ := hP
  have hD : va_D A [(pa, .inr (1, [.ref fo, .ref no, .ref mo, .int (nI C), .int (nI R), .int (nI F)])), (fo, .inl (cI, 12, .inl fz)), (no, .inl (cI, 12, .inl nx)), (mo, .inl (cI, 144, .inl ml))] := hD
  refine lv_iload hx hb dX1_grownRow_31 (lv_at hl 0 rfl) ?_
  refine lv_aload_n hx hb dX1_grownRow_33 rfl (lv_at hl 5 rfl) ?_
  refine va_get (D := D) (ci := 1) (v := .int (nI C)) (C := RX1) (T := TX1) (N := 6) hx hb hts wb_X1_grownRow_1 hown hK hP 0 rfl rfl 3 (by decide) (hts _ wi_X1_grownRow_1) (fun _ h9 => h9) rfl dX1_grownRow_34 ?_
  refine lv_icmp_ge (tgt := 106) hx hb dX1_grownRow_37 (by decide) (fun c_3 => ?_) (fun c_3 => ?_)
  · have n_3 : C ≤ k := (nI_leI (a := C) (b := k) (by omega) (by omega)).mp c_3
    refine lv_iload hx hb dX1_grownRow_106 (lv_at hl 1 rfl) ?_
    exact f_ret_i hx hb hr hlocks hP hD hS dX1_grownRow_108 (by rw [show k = C by omega])
  · have n_3 : k < C := Nat.lt_of_not_le (fun h => c_3 ((nI_leI (a := C) (b := k) (by omega) (by omega)).mpr h))
    refine lv_aload_n hx hb dX1_grownRow_40 rfl (lv_at hl 5 rfl) ?_
    refine lv_iload hx hb dX1_grownRow_41 (lv_at hl 0 rfl) ?_
    refine lv_iload_n hx hb dX1_grownRow_43 rfl (lv_at hl 6 rfl) ?_
    refine f_callVi ⟨hx, hb, hml, hown, hts⟩ hP hD hS hA hK hN [0, 1, 2, 3] (w2 := [(pa, .inr (1, [.ref fo, .ref no, .ref mo, .int (nI C), .int (nI R), .int (nI F)])), (fo, .inl (cI, 12, .inl fz)), (no, .inl (cI, 12, .inl nx)), (mo, .inl (cI, 144, .inl ml))])
        (c_X1_hasFrost (l := l) (D := D) (cI := cI) (cZ := cZ) (cP := cP) (cQ := cQ) (sz := _) (pa := pa) (fo := fo) (no := no) (mo := mo) (C := C) (R := R) (F := F) (fz := fz) (nx := nx) (ml := ml) (col := nI k) (row := row) ) (cwV 2 hts gX1_grownRow_X1_hasFrost rfl rfl rfl k_X1_hasFrost ⟨Nat.le_of_ble_eq_true rfl, Nat.le_of_ble_eq_true rfl⟩) 0 rfl rfl rfl rfl [pa, fo, no, mo] rfl rfl rfl rfl rfl hl.1 (Nat.le_of_ble_eq_true rfl) dX1_grownRow_44 ⟨Nat.le_of_ble_eq_true rfl, Nat.le_of_ble_eq_true rfl⟩ (fun H locs hP hD hS => ?_)
    refine f_joinW (nL := 11) 55 [(8, .int (nI k)), (7, .int (gro C R F fz ml row fr st k)), (6, .int (sp_X1_framed C R F fz (row + 1))), (5, .int (sp_X1_framed C R F fz row)), (4, .int (sp_X1_framed C R F fz (row - 1))), (0, .ref pa), (1, .int row), (2, .int fr), (3, .int st)] [.int (if (sp_X1_hasFrost fz (nI k) row) = 0 then fr else st)] (fun ls hl => ?_) (fun j_4 => ?_)
    · refine lv_istore (lv' := [(9, .int (if (sp_X1_hasFrost fz (nI k) row) = 0 then fr else st)), (8, .int (nI k)), (7, .int (gro C R F fz ml row fr st k)), (6, .int (sp_X1_framed C R F fz (row + 1))), (5, .int (sp_X1_framed C R F fz row)), (4, .int (sp_X1_framed C R F fz (row - 1))), (0, .ref pa), (1, .int row), (2, .int fr), (3, .int st)]) hx hb dX1_grownRow_55 hl (by decide) rfl (fun ls hl => ?_)
      refine lv_iload hx hb dX1_grownRow_57 (lv_at hl 5 rfl) ?_
      refine lv_iload hx hb dX1_grownRow_59 (lv_at hl 4 rfl) ?_
      refine lv_iload hx hb dX1_grownRow_61 (lv_at hl 3 rfl) ?_
      refine lv_iload hx hb dX1_grownRow_63 (lv_at hl 1 rfl) ?_
      refine f_callSi ⟨hx, hb, hml, hown, hts⟩ hP hD hS hA hK hN [] (w2 := [(pa, .inr (1, [.ref fo, .ref no, .ref mo, .int (nI C), .int (nI R), .int (nI F)])), (fo, .inl (cI, 12, .inl fz)), (no, .inl (cI, 12, .inl nx)), (mo, .inl (cI, 144, .inl ml))])
          (c_X1_countIn (l := l) (D := D) (cI := cI) (cZ := cZ) (cP := cP) (cQ := cQ) (sz := _) (u := sp_X1_framed C R F fz (row - 1)) (v := sp_X1_framed C R F fz row) (w := sp_X1_framed C R F fz (row + 1)) (col := nI k) ) (va_cwS 4 hts gX1_grownRow_X1_countIn rfl rfl rfl k_X1_countIn.2 ⟨Nat.le_of_ble_eq_true rfl, Nat.le_of_ble_eq_true rfl⟩) rfl rfl [] rfl rfl rfl rfl rfl hl.1 (Nat.le_of_ble_eq_true rfl) dX1_grownRow_65 ⟨Nat.le_of_ble_eq_true rfl, Nat.le_of_ble_eq_true rfl⟩ (fun H locs hP hD hS => ?_)
      refine lv_istore (lv' := [(10, .int (sp_X1_countIn (sp_X1_framed C R F fz (row - 1)) (sp_X1_framed C R F fz row) (sp_X1_framed C R F fz (row + 1)) (nI k))), (9, .int (if (sp_X1_hasFrost fz (nI k) row) = 0 then fr else st)), (8, .int (nI k)), (7, .int (gro C R F fz ml row fr st k)), (6, .int (sp_X1_framed C R F fz (row + 1))), (5, .int (sp_X1_framed C R F fz row)), (4, .int (sp_X1_framed C R F fz (row - 1))), (0, .ref pa), (1, .int row), (2, .int fr), (3, .int st)]) hx hb dX1_grownRow_68 hl (by decide) rfl (fun ls hl => ?_)
      refine lv_aload_n hx hb dX1_grownRow_70 rfl (lv_at hl 7 rfl) ?_
      refine lv_iload hx hb dX1_grownRow_71 (lv_at hl 2 rfl) ?_
      refine lv_iload_n hx hb dX1_grownRow_73 rfl (lv_at hl 8 rfl) ?_
      refine f_callVi ⟨hx, hb, hml, hown, hts⟩ hP hD hS hA hK hN [0, 1, 2, 3] (w2 := [(pa, .inr (1, [.ref fo, .ref no, .ref mo, .int (nI C), .int (nI R), .int (nI F)])), (fo, .inl (cI, 12, .inl fz)), (no, .inl (cI, 12, .inl nx)), (mo, .inl (cI, 144, .inl ml))])
          (c_X1_meltOf (l := l) (D := D) (cI := cI) (cZ := cZ) (cP := cP) (cQ := cQ) (sz := _) (pa := pa) (fo := fo) (no := no) (mo := mo) (C := C) (R := R) (F := F) (fz := fz) (nx := nx) (ml := ml) (col := nI k) (row := row) ) (cwV 2 hts gX1_grownRow_X1_meltOf rfl rfl rfl k_X1_meltOf ⟨Nat.le_of_ble_eq_true rfl, Nat.le_of_ble_eq_true rfl⟩) 0 rfl rfl rfl rfl [pa, fo, no, mo] rfl rfl rfl rfl rfl hl.1 (Nat.le_of_ble_eq_true rfl) dX1_grownRow_74 ⟨Nat.le_of_ble_eq_true rfl, Nat.le_of_ble_eq_true rfl⟩ (fun H locs hP hD hS => ?_)
      refine f_joinW (nL := 11) 100 [(7, .int (if (sp_X1_meltOf ml (nI k) row) = 0 then if (((if (sp_X1_hasFrost fz (nI k) row) = 0 then fr else st) >>> ((sp_X1_countIn (sp_X1_framed C R F fz (row - 1)) (sp_X1_framed C R F fz row) (sp_X1_framed C R F fz (row + 1)) (nI k)) &&& 31)) &&& 1) = 1 then (gro C R F fz ml row fr st k) ||| ((1 : Int32) <<< ((nI k) &&& 31)) else gro C R F fz ml row fr st k else gro C R F fz ml row fr st k)), (10, .int (sp_X1_countIn (sp_X1_framed C R F fz (row - 1)) (sp_X1_framed C R F fz row) (sp_X1_framed C R F fz (row + 1)) (nI k))), (9, .int (if (sp_X1_hasFrost fz (nI k) row) = 0 then fr else st)), (8, .int (nI k)), (6, .int (sp_X1_framed C R F fz (row + 1))), (5, .int (sp_X1_framed C R F fz row)), (4, .int (sp_X1_framed C R F fz (row - 1))), (0, .ref pa), (1, .int row), (2, .int fr), (3, .int st)] [] (fun ls hl => ?_) (fun j_5 => ?_)
      · refine lv_iinc (v := nI (k + 1)) (lv' := [(8, .int (nI (k + 1))), (7, .int (if (sp_X1_meltOf ml (nI k) row) = 0 then if (((if (sp_X1_hasFrost fz (nI k) row) = 0 then fr else st) >>> ((sp_X1_countIn (sp_X1_framed C R F fz (row - 1)) (sp_X1_framed C R F fz row) (sp_X1_framed C R F fz (row + 1)) (nI k)) &&& 31)) &&& 1) = 1 then (gro C R F fz ml row fr st k) ||| ((1 : Int32) <<< ((nI k) &&& 31)) else gro C R F fz ml row fr st k else gro C R F fz ml row fr st k)), (10, .int (sp_X1_countIn (sp_X1_framed C R F fz (row - 1)) (sp_X1_framed C R F fz row) (sp_X1_framed C R F fz (row + 1)) (nI k))), (9, .int (if (sp_X1_hasFrost fz (nI k) row) = 0 then fr else st)), (6, .int (sp_X1_framed C R F fz (row + 1))), (5, .int (sp_X1_framed C R F fz row)), (4, .int (sp_X1_framed C R F fz (row - 1))), (0, .ref pa), (1, .int row), (2, .int fr), (3, .int st)]) hx hb dX1_grownRow_100 hl (k := 3) rfl (nI_1 _) (by decide) rfl (fun ls hl => ?_)
        refine lv_goto (tgt := 31) hx hb dX1_grownRow_103 (by decide) ?_
        exact ih_1 (k + 1) (by omega) (by first | omega | (simp only []; omega) | (show _ < _; simp only []; omega)) H locs hP hD hS ls (lv_sub hl [0, 1, 4, 5, 6, 7, 8, 9, 10] rfl)
      refine lv_if_ne (tgt := 100) hx hb dX1_grownRow_77 (by decide) (fun c_6 => ?_) (fun c_6 => ?_)
      · have hl9 : lv_has ls 11 [(7, .int (gro C R F fz ml row fr st k)), (10, .int (sp_X1_countIn (sp_X1_framed C R F fz (row - 1)) (sp_X1_framed C R F fz row) (sp_X1_framed C R F fz (row + 1)) (nI k))), (9, .int (if (sp_X1_hasFrost fz (nI k) row) = 0 then fr else st)), (8, .int (nI k)), (6, .int (sp_X1_framed C R F fz (row + 1))), (5, .int (sp_X1_framed C R F fz row)), (4, .int (sp_X1_framed C R F fz (row - 1))), (0, .ref pa), (1, .int row), (2, .int fr), (3, .int st)] := lv_sub hl [3, 0, 1, 2, 4, 5, 6, 7, 8, 9, 10] rfl
        have hl9 : lv_has ls 11 [(7, .int (if (sp_X1_meltOf ml (nI k) row) = 0 then if (((if (sp_X1_hasFrost fz (nI k) row) = 0 then fr else st) >>> ((sp_X1_countIn (sp_X1_framed C R F fz (row - 1)) (sp_X1_framed C R F fz row) (sp_X1_framed C R F fz (row + 1)) (nI k)) &&& 31)) &&& 1) = 1 then (gro C R F fz ml row fr st k) ||| ((1 : Int32) <<< ((nI k) &&& 31)) else gro C R F fz ml row fr st k else gro C R F fz ml row fr st k)), (10, .int (sp_X1_countIn (sp_X1_framed C R F fz (row - 1)) (sp_X1_framed C R F fz row) (sp_X1_framed C R F fz (row + 1)) (nI k))), (9, .int (if (sp_X1_hasFrost fz (nI k) row) = 0 then fr else st)), (8, .int (nI k)), (6, .int (sp_X1_framed C R F fz (row + 1))), (5, .int (sp_X1_framed C R F fz row)), (4, .int (sp_X1_framed C R F fz (row - 1))), (0, .ref pa), (1, .int row), (2, .int fr), (3, .int st)] := by rw [if_neg c_6]; exact hl9
        exact j_5 ls hl9
      · refine lv_iload hx hb dX1_grownRow_80 (lv_at hl 1 rfl) ?_
        refine lv_iload hx hb dX1_grownRow_82 (lv_at hl 0 rfl) ?_
        refine lv_ishr hx hb dX1_grownRow_84 ?_
        refine lv_iconst (v := 1) hx hb dX1_grownRow_85 (by decide) ?_
        refine lv_iand hx hb dX1_grownRow_86 ?_
        refine lv_iconst (v := 1) hx hb dX1_grownRow_87 (by decide) ?_
        refine lv_icmp_ne (tgt := 100) hx hb dX1_grownRow_88 (by decide) (fun c_7 => ?_) (fun c_7 => ?_)
        · have hl9 : lv_has ls 11 [(7, .int (gro C R F fz ml row fr st k)), (10, .int (sp_X1_countIn (sp_X1_framed C R F fz (row - 1)) (sp_X1_framed C R F fz row) (sp_X1_framed C R F fz (row + 1)) (nI k))), (9, .int (if (sp_X1_hasFrost fz (nI k) row) = 0 then fr else st)), (8, .int (nI k)), (6, .int (sp_X1_framed C R F fz (row + 1))), (5, .int (sp_X1_framed C R F fz row)), (4, .int (sp_X1_framed C R F fz (row - 1))), (0, .ref pa), (1, .int row), (2, .int fr), (3, .int st)] := lv_sub hl [3, 0, 1, 2, 4, 5, 6, 7, 8, 9, 10] rfl
          have hl9 : lv_has ls 11 [(7, .int (if (sp_X1_meltOf ml (nI k) row) = 0 then if (((if (sp_X1_hasFrost fz (nI k) row) = 0 then fr else st) >>> ((sp_X1_countIn (sp_X1_framed C R F fz (row - 1)) (sp_X1_framed C R F fz row) (sp_X1_framed C R F fz (row + 1)) (nI k)) &&& 31)) &&& 1) = 1 then (gro C R F fz ml row fr st k) ||| ((1 : Int32) <<< ((nI k) &&& 31)) else gro C R F fz ml row fr st k else gro C R F fz ml row fr st k)), (10, .int (sp_X1_countIn (sp_X1_framed C R F fz (row - 1)) (sp_X1_framed C R F fz row) (sp_X1_framed C R F fz (row + 1)) (nI k))), (9, .int (if (sp_X1_hasFrost fz (nI k) row) = 0 then fr else st)), (8, .int (nI k)), (6, .int (sp_X1_framed C R F fz (row + 1))), (5, .int (sp_X1_framed C R F fz row)), (4, .int (sp_X1_framed C R F fz (row - 1))), (0, .ref pa), (1, .int row), (2, .int fr), (3, .int st)] := by rw [if_pos c_6, if_neg c_7]; exact hl9
          exact j_5 ls hl9
        · refine lv_iload hx hb dX1_grownRow_91 (lv_at hl 3 rfl) ?_
          refine lv_iconst (v := 1) hx hb dX1_grownRow_93 (by decide) ?_
          refine lv_iload hx hb dX1_grownRow_94 (lv_at hl 2 rfl) ?_
          refine lv_ishl hx hb dX1_grownRow_96 ?_
          refine lv_ior hx hb dX1_grownRow_97 ?_
          refine lv_istore (lv' := [(7, .int ((gro C R F fz ml row fr st k) ||| ((1 : Int32) <<< ((nI k) &&& 31)))), (10, .int (sp_X1_countIn (sp_X1_framed C R F fz (row - 1)) (sp_X1_framed C R F fz row) (sp_X1_framed C R F fz (row + 1)) (nI k))), (9, .int (if (sp_X1_hasFrost fz (nI k) row) = 0 then fr else st)), (8, .int (nI k)), (6, .int (sp_X1_framed C R F fz (row + 1))), (5, .int (sp_X1_framed C R F fz row)), (4, .int (sp_X1_framed C R F fz (row - 1))), (0, .ref pa), (1, .int row), (2, .int fr), (3, .int st)]) hx hb dX1_grownRow_98 hl (by decide) rfl (fun ls hl => ?_)
          have hl9 : lv_has ls 11 [(7, .int ((gro C R F fz ml row fr st k) ||| ((1 : Int32) <<< ((nI k) &&& 31)))), (10, .int (sp_X1_countIn (sp_X1_framed C R F fz (row - 1)) (sp_X1_framed C R F fz row) (sp_X1_framed C R F fz (row + 1)) (nI k))), (9, .int (if (sp_X1_hasFrost fz (nI k) row) = 0 then fr else st)), (8, .int (nI k)), (6, .int (sp_X1_framed C R F fz (row + 1))), (5, .int (sp_X1_framed C R F fz row)), (4, .int (sp_X1_framed C R F fz (row - 1))), (0, .ref pa), (1, .int row), (2, .int fr), (3, .int st)] := lv_sub hl [0, 1, 2, 3, 4, 5, 6, 7, 8, 9, 10] rfl
          have hl9 : lv_has ls 11 [(7, .int (if (sp_X1_meltOf ml (nI k) row) = 0 then if (((if (sp_X1_hasFrost fz (nI k) row) = 0 then fr else st) >>> ((sp_X1_countIn (sp_X1_framed C R F fz (row - 1)) (sp_X1_framed C R F fz row) (sp_X1_framed C R F fz (row + 1)) (nI k)) &&& 31)) &&& 1) = 1 then (gro C R F fz ml row fr st k) ||| ((1 : Int32) <<< ((nI k) &&& 31)) else gro C R F fz ml row fr st k else gro C R F fz ml row fr st k)), (10, .int (sp_X1_countIn (sp_X1_framed C R F fz (row - 1)) (sp_X1_framed C R F fz row) (sp_X1_framed C R F fz (row + 1)) (nI k))), (9, .int (if (sp_X1_hasFrost fz (nI k) row) = 0 then fr else st)), (8, .int (nI k)), (6, .int (sp_X1_framed C R F fz (row + 1))), (5, .int (sp_X1_framed C R F fz row)), (4, .int (sp_X1_framed C R F fz (row - 1))), (0, .ref pa), (1, .int row), (2, .int fr), (3, .int st)] := by rw [if_pos c_6, if_pos c_7]; exact hl9
          exact j_5 ls hl9
    refine lv_if_eq (tgt := 54) hx hb dX1_grownRow_47 (by decide) (fun c_8 => ?_) (fun c_8 => ?_)
    · refine lv_iload_n hx hb dX1_grownRow_54 rfl (lv_at hl 7 rfl) ?_
      refine f_topi (y := if (sp_X1_hasFrost fz (nI k) row) = 0 then fr else st) (by rw [if_pos c_8]) ?_
      exact j_4 ls (lv_sub hl [0, 1, 2, 3, 4, 5, 6, 7, 8] rfl)
    · refine lv_iload_n hx hb dX1_grownRow_50 rfl (lv_at hl 8 rfl) ?_
      refine lv_goto (tgt := 55) hx hb dX1_grownRow_51 (by decide) ?_
      refine f_topi (y := if (sp_X1_hasFrost fz (nI k) row) = 0 then fr else st) (by rw [if_neg c_8]) ?_
      exact j_4 ls (lv_sub hl [0, 1, 2, 3, 4, 5, 6, 7, 8] rfl)

theorem k_X1_isFrozenNext : yX1_isFrozenNext.cls = RX1 ∧ yX1_isFrozenNext.cls ≠ "java/lang/invoke/MethodHandle" ∧ yX1_isFrozenNext.cls ≠ "java/lang/invoke/VarHandle" ∧ (parseMethodDescriptor yX1_isFrozenNext.desc).map (fun d => d.parameters.length) = some 4 := by decide +kernel
/-- X1_isFrozenNext: read off its bytecode -/
def sp_X1_isFrozenNext (C : Nat) (R : Nat) (F : Nat) (fz : Nat → Int32) (ml : Nat → Int32) (col : Int32) (row : Int32) (fr : Int32) (st : Int32) : Int32 := if (((gro C R F fz ml row fr st C) >>> (col &&& 31)) &&& 1) = 1 then 1 else 0
set_option maxHeartbeats 4000000 in
set_option maxRecDepth 100000 in
theorem c_X1_isFrozenNext (l : Launch) (D : va_G) (cI cZ cP cQ : ClassId) (sz : Nat) (pa fo no mo C R F : Nat) (fz nx ml : Nat → Int32) (col row fr st : Int32) (hC : C ≤ 12) : f_Mi l yX1_isFrozenNext wsX1_isFrozenNext ({ frames := 3, cells := 0, slots := 0, locals := 74 }) D (fTY cI cZ cP cQ) [.ref pa, .int col, .int row, .int fr, .int st] sz [(pa, .inr (1, [.ref fo, .ref no, .ref mo, .int (nI C), .int (nI R), .int (nI F)])), (fo, .inl (cI, 12, .inl fz)), (no, .inl (cI, 12, .inl nx)), (mo, .inl (cI, 144, .inl ml))] (sp_X1_isFrozenNext C R F fz ml col row fr st) [(pa, .inr (1, [.ref fo, .ref no, .ref mo, .int (nI C), .int (nI R), .int (nI F)])), (fo, .inl (cI, 12, .inl fz)), (no, .inl (cI, 12, .inl nx)), (mo, .inl (cI, 144, .inl ml))] := by
  refine f_ent_i (by decide) rfl (Nat.le_of_ble_eq_true rfl) ?_
  intro pg ev s m below meth cd hx hb hr hts hown hlocks hml hnm hsz hP hK hN A hD hA hS ls hl
  have hown : s.vm.findClass RX1 = some m.cls := hown
  have hl : lv_has ls 5 [(0, .ref pa), (1, .int col), (2, .int row), (3, .int fr), (4, .int st)] := hl
  refine lv_aload_n hx hb dX1_isFrozenNext_0 rfl (lv_at hl 0 rfl) ?_
  refine lv_iload_n hx hb dX1_isFrozenNext_1 rfl (lv_at hl 2 rfl) ?_
  refine lv_iload_n hx hb dX1_isFrozenNext_2 rfl (lv_at hl 3 rfl) ?_
  refine lv_iload hx hb dX1_isFrozenNext_3 (lv_at hl 4 rfl) ?_
  refine f_callVi ⟨hx, hb, hml, hown, hts⟩ hP hD hS hA hK hN [0, 1, 2, 3] (w2 := [(pa, .inr (1, [.ref fo, .ref no, .ref mo, .int (nI C), .int (nI R), .int (nI F)])), (fo, .inl (cI, 12, .inl fz)), (no, .inl (cI, 12, .inl nx)), (mo, .inl (cI, 144, .inl ml))])
      (c_X1_grownRow (l := l) (D := D) (cI := cI) (cZ := cZ) (cP := cP) (cQ := cQ) (sz := _) (pa := pa) (fo := fo) (no := no) (mo := mo) (C := C) (R := R) (F := F) (fz := fz) (nx := nx) (ml := ml) (row := row) (fr := fr) (st := st) (hC := (by first | assumption | omega))) (cwV 3 hts gX1_isFrozenNext_X1_grownRow rfl rfl rfl k_X1_grownRow ⟨Nat.le_of_ble_eq_true rfl, Nat.le_of_ble_eq_true rfl⟩) 0 rfl rfl rfl rfl [pa, fo, no, mo] rfl rfl rfl rfl rfl hl.1 (Nat.le_of_ble_eq_true rfl) dX1_isFrozenNext_5 ⟨Nat.le_of_ble_eq_true rfl, Nat.le_of_ble_eq_true rfl⟩ (fun H locs hP hD hS => ?_)
  refine lv_iload_n hx hb dX1_isFrozenNext_8 rfl (lv_at hl 1 rfl) ?_
  refine lv_ishr hx hb dX1_isFrozenNext_9 ?_
  refine lv_iconst (v := 1) hx hb dX1_isFrozenNext_10 (by decide) ?_
  refine lv_iand hx hb dX1_isFrozenNext_11 ?_
  refine lv_iconst (v := 1) hx hb dX1_isFrozenNext_12 (by decide) ?_
  refine lv_icmp_ne (tgt := 20) hx hb dX1_isFrozenNext_13 (by decide) (fun c_1 => ?_) (fun c_1 => ?_)
  · refine lv_iconst (v := 0) hx hb dX1_isFrozenNext_20 (by decide) ?_
    exact f_ret_z hx hb hr hlocks hP hD hS dX1_isFrozenNext_21 (by rw [sp_X1_isFrozenNext, if_neg c_1]) (by unfold sp_X1_isFrozenNext; first | rfl | (repeat (first | rfl | split)))
  · refine lv_iconst (v := 1) hx hb dX1_isFrozenNext_16 (by decide) ?_
    refine lv_goto (tgt := 21) hx hb dX1_isFrozenNext_17 (by decide) ?_
    exact f_ret_z hx hb hr hlocks hP hD hS dX1_isFrozenNext_21 (by rw [sp_X1_isFrozenNext, if_pos c_1]) (by unfold sp_X1_isFrozenNext; first | rfl | (repeat (first | rfl | split)))

def ml1 (x : Int32) : Int32 := if x ≤ 0 then x else x - 1
def tkc (fz nx : Nat → Int32) : Nat → Int32
  | 0 => 0
  | k + 1 => if tkc fz nx k = 0 then (if fz k = nx k then 0 else 1) else 1
theorem tkc_01 (fz nx : Nat → Int32) (k : Nat) : tkc fz nx k = 0 ∨ tkc fz nx k = 1 := by
  cases k with
  | zero => exact Or.inl rfl
  | succ k => unfold tkc; split; · split <;> simp
              · simp
theorem k_X1_meltLess : yX1_meltLess.cls = RX1 ∧ yX1_meltLess.cls ≠ "java/lang/invoke/MethodHandle" ∧ yX1_meltLess.cls ≠ "java/lang/invoke/VarHandle" ∧ (parseMethodDescriptor yX1_meltLess.desc).map (fun d => d.parameters.length) = some 0 := by decide +kernel
theorem wb_X1_meltLess_1 : ∀ w ∈ wsX10, w ∈ wsX1_meltLess := (fun _ h => List.mem_cons_of_mem _ (List.mem_append_right _ h))
theorem wi_X1_meltLess_1 : (Cond.fieldLink RX1 18 "FrostPane$Pane" "melts" "[I") ∈ wsX1_meltLess := List.mem_of_getElem? (i := 1) rfl
set_option maxHeartbeats 4000000 in
set_option maxRecDepth 100000 in
theorem c_X1_meltLess (l : Launch) (D : va_G) (cI cZ cP cQ : ClassId) (sz : Nat) (pa fo no mo C R F : Nat) (fz nx ml : Nat → Int32)  : f_Mv l yX1_meltLess wsX1_meltLess ({ frames := 0, cells := 0, slots := 0, locals := 0 }) D (fTY cI cZ cP cQ) [.ref pa] sz [(pa, .inr (1, [.ref fo, .ref no, .ref mo, .int (nI C), .int (nI R), .int (nI F)])), (fo, .inl (cI, 12, .inl fz)), (no, .inl (cI, 12, .inl nx)), (mo, .inl (cI, 144, .inl ml))] [(pa, .inr (1, [.ref fo, .ref no, .ref mo, .int (nI C), .int (nI R), .int (nI F)])), (fo, .inl (cI, 12, .inl fz)), (no, .inl (cI, 12, .inl nx)), (mo, .inl (cI, 144, .inl (fun j => ml1 (ml j))))] := by
  refine f_ent_v (by decide) rfl (Nat.le_of_ble_eq_true rfl) ?_
  intro pg ev s m below meth cd hx hb hr hts hown hlocks hml hnm hsz hP hK hN A hD hA hS ls hl
  have hown : s.vm.findClass RX1 = some m.cls := hown
  have hl : lv_has ls 2 [(0, .ref pa)] := hl
  obtain ⟨hP, hD⟩ := f_rep (g := sfill (fun j => ml1 (ml j)) ml 0) hP hD 3 rfl (fun j _ => sfill_0 _ _ j)
  have hP : va_P D vwCl [(pa, .inr (1, [.ref fo, .ref no, .ref mo, .int (nI C), .int (nI R), .int (nI F)])), (fo, .inl (cI, 12, .inl fz)), (no, .inl (cI, 12, .inl nx)), (mo, .inl (cI, 144, .inl (sfill (fun j => ml1 (ml j)) ml 0)))] _ := hP
  have hD : va_D A [(pa, .inr (1, [.ref fo, .ref no, .ref mo, .int (nI C), .int (nI R), .int (nI F)])), (fo, .inl (cI, 12, .inl fz)), (no, .inl (cI, 12, .inl nx)), (mo, .inl (cI, 144, .inl (sfill (fun j => ml1 (ml j)) ml 0)))] := hD
  refine lv_iconst (v := 0) hx hb dX1_meltLess_0 (by decide) ?_
  refine lv_istore_n (lv' := [(1, .int 0), (0, .ref pa)]) hx hb dX1_meltLess_1 rfl hl (by decide) rfl (fun ls hl => ?_)
  refine f_loopW (σ := Nat) (D := D) (A := A) (H0 := s.heap) 2 2 (fun u9 => [(1, .int (nI u9)), (0, .ref pa)]) (fun u9 => [(pa, .inr (1, [.ref fo, .ref no, .ref mo, .int (nI C), .int (nI R), .int (nI F)])), (fo, .inl (cI, 12, .inl fz)), (no, .inl (cI, 12, .inl nx)), (mo, .inl (cI, 144, .inl (sfill (fun j => ml1 (ml j)) ml u9)))]) (fun u9 => u9 ≤ 144) (fun u9 => 144 - u9)
      (fun u9 hi_2 ih_1 H locs hP hD hS ls hl => ?_) 0 (by omega) hP hD hS (lv_sub hl [0, 1] rfl)
  obtain ⟨k, rfl⟩ : ∃ z, z = u9 := ⟨_, rfl⟩
  have hi_2 : k ≤ 144 := hi_2
  obtain hk := hi_2
  have hl : lv_has ls 2 [(1, .int (nI k)), (0, .ref pa)] := hl
  have hP : va_P D vwCl [(pa, .inr (1, [.ref fo, .ref no, .ref mo, .int (nI C), .int (nI R), .int (nI F)])), (fo, .inl (cI, 12, .inl fz)), (no, .inl (cI, 12, .inl nx)), (mo, .inl (cI, 144, .inl (sfill (fun j => ml1 (ml j)) ml k)))] _ := hP
  have hD : va_D A [(pa, .inr (1, [.ref fo, .ref no, .ref mo, .int (nI C), .int (nI R), .int (nI F)])), (fo, .inl (cI, 12, .inl fz)), (no, .inl (cI, 12, .inl nx)), (mo, .inl (cI, 144, .inl (sfill (fun j => ml1 (ml j)) ml k)))] := hD
  refine lv_iload_n hx hb dX1_meltLess_2 rfl (lv_at hl 0 rfl) ?_
  refine lv_aload_n hx hb dX1_meltLess_3 rfl (lv_at hl 1 rfl) ?_
  refine va_get (D := D) (ci := 1) (v := .ref mo) (C := RX1) (T := TX1) (N := 6) hx hb hts wb_X1_meltLess_1 hown hK hP 0 rfl rfl 2 (by decide) (hts _ wi_X1_meltLess_1) (fun _ h9 => h9) rfl dX1_meltLess_4 ?_
  refine va_alen (v := 144) hx hb hK hP 3 0 rfl rfl rfl dX1_meltLess_7 ?_
  refine lv_icmp_ge (tgt := 36) hx hb dX1_meltLess_8 (by decide) (fun c_3 => ?_) (fun c_3 => ?_)
  · have n_3 : 144 ≤ k := (nI_leI (a := 144) (b := k) (by omega) (by omega)).mp c_3
    obtain ⟨hP, hD⟩ := f_rep (g := fun j => ml1 (ml j)) hP hD 3 rfl (fun j hj => by rw [show k = 144 by omega, sfill_lt hj])
    have hP : va_P D vwCl [(pa, .inr (1, [.ref fo, .ref no, .ref mo, .int (nI C), .int (nI R), .int (nI F)])), (fo, .inl (cI, 12, .inl fz)), (no, .inl (cI, 12, .inl nx)), (mo, .inl (cI, 144, .inl (fun j => ml1 (ml j))))] _ := hP
    have hD : va_D A [(pa, .inr (1, [.ref fo, .ref no, .ref mo, .int (nI C), .int (nI R), .int (nI F)])), (fo, .inl (cI, 12, .inl fz)), (no, .inl (cI, 12, .inl nx)), (mo, .inl (cI, 144, .inl (fun j => ml1 (ml j))))] := hD
    exact f_ret_v hx hb hr hlocks hP hD hS dX1_meltLess_36
  · have n_3 : k < 144 := Nat.lt_of_not_le (fun h => c_3 ((nI_leI (a := 144) (b := k) (by omega) (by omega)).mpr h))
    refine lv_aload_n hx hb dX1_meltLess_11 rfl (lv_at hl 1 rfl) ?_
    refine va_get (D := D) (ci := 1) (v := .ref mo) (C := RX1) (T := TX1) (N := 6) hx hb hts wb_X1_meltLess_1 hown hK hP 0 rfl rfl 2 (by decide) (hts _ wi_X1_meltLess_1) (fun _ h9 => h9) rfl dX1_meltLess_12 ?_
    refine lv_iload_n hx hb dX1_meltLess_15 rfl (lv_at hl 0 rfl) ?_
    refine f_iald (k := k) hx hb hK hP 3 0 rfl rfl rfl (by omega) (by first | decide | omega) dX1_meltLess_16 ?_
    refine f_topi (y := ml k) (sfill_at _ _ _) ?_
    refine lv_if_le (tgt := 30) hx hb dX1_meltLess_17 (by decide) (fun c_4 => ?_) (fun c_4 => ?_)
    · obtain ⟨hP, hD⟩ := f_rep (g := sfill (fun j => ml1 (ml j)) ml (k + 1)) hP hD 3 rfl (fun j _ => sfill_up0 (by show ml k = ml1 (ml k); rw [ml1, if_pos c_4]) j)
      have hP : va_P D vwCl [(pa, .inr (1, [.ref fo, .ref no, .ref mo, .int (nI C), .int (nI R), .int (nI F)])), (fo, .inl (cI, 12, .inl fz)), (no, .inl (cI, 12, .inl nx)), (mo, .inl (cI, 144, .inl (sfill (fun j => ml1 (ml j)) ml (k + 1))))] _ := hP
      have hD : va_D A [(pa, .inr (1, [.ref fo, .ref no, .ref mo, .int (nI C), .int (nI R), .int (nI F)])), (fo, .inl (cI, 12, .inl fz)), (no, .inl (cI, 12, .inl nx)), (mo, .inl (cI, 144, .inl (sfill (fun j => ml1 (ml j)) ml (k + 1))))] := hD
      refine lv_iinc (v := nI (k + 1)) (lv' := [(1, .int (nI (k + 1))), (0, .ref pa)]) hx hb dX1_meltLess_30 hl (k := 0) rfl (nI_1 _) (by decide) rfl (fun ls hl => ?_)
      refine lv_goto (tgt := 2) hx hb dX1_meltLess_33 (by decide) ?_
      exact ih_1 (k + 1) (by omega) (by first | omega | (simp only []; omega) | (show _ < _; simp only []; omega)) H locs hP hD hS ls (lv_sub hl [0, 1] rfl)
    · refine lv_aload_n hx hb dX1_meltLess_20 rfl (lv_at hl 1 rfl) ?_
      refine va_get (D := D) (ci := 1) (v := .ref mo) (C := RX1) (T := TX1) (N := 6) hx hb hts wb_X1_meltLess_1 hown hK hP 0 rfl rfl 2 (by decide) (hts _ wi_X1_meltLess_1) (fun _ h9 => h9) rfl dX1_meltLess_21 ?_
      refine lv_iload_n hx hb dX1_meltLess_24 rfl (lv_at hl 0 rfl) ?_
      refine lv_dup2_11 hx hb dX1_meltLess_25 rfl rfl ?_
      refine f_iald (k := k) hx hb hK hP 3 0 rfl rfl rfl (by omega) (by first | decide | omega) dX1_meltLess_26 ?_
      refine f_topi (y := ml k) (sfill_at _ _ _) ?_
      refine lv_iconst (v := 1) hx hb dX1_meltLess_27 (by decide) ?_
      refine lv_isub hx hb dX1_meltLess_28 ?_
      refine f_iast (k := k) hx hb hK hP hD hS 3 0 rfl rfl rfl (by omega) (by first | decide | omega) dX1_meltLess_29 (fun H locs hP hD hS => ?_)
      have hP : va_P D vwCl [(pa, .inr (1, [.ref fo, .ref no, .ref mo, .int (nI C), .int (nI R), .int (nI F)])), (fo, .inl (cI, 12, .inl fz)), (no, .inl (cI, 12, .inl nx)), (mo, .inl (cI, 144, .inl (upd (sfill (fun j => ml1 (ml j)) ml k) k ((ml k) - 1))))] _ := hP
      have hD : va_D A [(pa, .inr (1, [.ref fo, .ref no, .ref mo, .int (nI C), .int (nI R), .int (nI F)])), (fo, .inl (cI, 12, .inl fz)), (no, .inl (cI, 12, .inl nx)), (mo, .inl (cI, 144, .inl (upd (sfill (fun j => ml1 (ml j)) ml k) k ((ml k) - 1))))] := hD
      obtain ⟨hP, hD⟩ := f_rep (g := sfill (fun j => ml1 (ml j)) ml (k + 1)) hP hD 3 rfl (fun j _ => sfill_up (by show ml k - 1 = ml1 (ml k); rw [ml1, if_neg c_4]) j)
      have hP : va_P D vwCl [(pa, .inr (1, [.ref fo, .ref no, .ref mo, .int (nI C), .int (nI R), .int (nI F)])), (fo, .inl (cI, 12, .inl fz)), (no, .inl (cI, 12, .inl nx)), (mo, .inl (cI, 144, .inl (sfill (fun j => ml1 (ml j)) ml (k + 1))))] _ := hP
      have hD : va_D A [(pa, .inr (1, [.ref fo, .ref no, .ref mo, .int (nI C), .int (nI R), .int (nI F)])), (fo, .inl (cI, 12, .inl fz)), (no, .inl (cI, 12, .inl nx)), (mo, .inl (cI, 144, .inl (sfill (fun j => ml1 (ml j)) ml (k + 1))))] := hD
      refine lv_iinc (v := nI (k + 1)) (lv' := [(1, .int (nI (k + 1))), (0, .ref pa)]) hx hb dX1_meltLess_30 hl (k := 0) rfl (nI_1 _) (by decide) rfl (fun ls hl => ?_)
      refine lv_goto (tgt := 2) hx hb dX1_meltLess_33 (by decide) ?_
      exact ih_1 (k + 1) (by omega) (by first | omega | (simp only []; omega) | (show _ < _; simp only []; omega)) H locs hP hD hS ls (lv_sub hl [0, 1] rfl)

theorem k_X1_takeNext : yX1_takeNext.cls = RX1 ∧ yX1_takeNext.cls ≠ "java/lang/invoke/MethodHandle" ∧ yX1_takeNext.cls ≠ "java/lang/invoke/VarHandle" ∧ (parseMethodDescriptor yX1_takeNext.desc).map (fun d => d.parameters.length) = some 0 := by decide +kernel
theorem wb_X1_takeNext_1 : ∀ w ∈ wsX10, w ∈ wsX1_takeNext := (fun _ h => List.mem_cons_of_mem _ (List.mem_append_right _ h))
theorem wi_X1_takeNext_1 : (Cond.fieldLink RX1 25 "FrostPane$Pane" "rows" "I") ∈ wsX1_takeNext := List.mem_of_getElem? (i := 1) rfl
theorem wi_X1_takeNext_2 : (Cond.fieldLink RX1 15 "FrostPane$Pane" "frostNext" "[I") ∈ wsX1_takeNext := List.mem_of_getElem? (i := 2) rfl
theorem wi_X1_takeNext_3 : (Cond.fieldLink RX1 9 "FrostPane$Pane" "frost" "[I") ∈ wsX1_takeNext := List.mem_of_getElem? (i := 3) rfl
set_option maxHeartbeats 4000000 in
set_option maxRecDepth 100000 in
theorem c_X1_takeNext (l : Launch) (D : va_G) (cI cZ cP cQ : ClassId) (sz : Nat) (pa fo no mo C R F : Nat) (fz nx ml : Nat → Int32) (hR : R ≤ 12) : f_Mi l yX1_takeNext wsX1_takeNext ({ frames := 0, cells := 0, slots := 0, locals := 0 }) D (fTY cI cZ cP cQ) [.ref pa] sz [(pa, .inr (1, [.ref fo, .ref no, .ref mo, .int (nI C), .int (nI R), .int (nI F)])), (fo, .inl (cI, 12, .inl fz)), (no, .inl (cI, 12, .inl nx)), (mo, .inl (cI, 144, .inl ml))] (tkc fz nx R) [(pa, .inr (1, [.ref fo, .ref no, .ref mo, .int (nI C), .int (nI R), .int (nI F)])), (fo, .inl (cI, 12, .inl (sfill nx fz R))), (no, .inl (cI, 12, .inl nx)), (mo, .inl (cI, 144, .inl ml))] := by
  refine f_ent_i (by decide) rfl (Nat.le_of_ble_eq_true rfl) ?_
  intro pg ev s m below meth cd hx hb hr hts hown hlocks hml hnm hsz hP hK hN A hD hA hS ls hl
  have hown : s.vm.findClass RX1 = some m.cls := hown
  have hl : lv_has ls 3 [(0, .ref pa)] := hl
  refine lv_iconst (v := 0) hx hb dX1_takeNext_0 (by decide) ?_
  refine lv_istore_n (lv' := [(1, .int 0), (0, .ref pa)]) hx hb dX1_takeNext_1 rfl hl (by decide) rfl (fun ls hl => ?_)
  obtain ⟨hP, hD⟩ := f_rep (g := sfill nx fz 0) hP hD 1 rfl (fun j _ => sfill_0 _ _ j)
  have hP : va_P D vwCl [(pa, .inr (1, [.ref fo, .ref no, .ref mo, .int (nI C), .int (nI R), .int (nI F)])), (fo, .inl (cI, 12, .inl (sfill nx fz 0))), (no, .inl (cI, 12, .inl nx)), (mo, .inl (cI, 144, .inl ml))] _ := hP
  have hD : va_D A [(pa, .inr (1, [.ref fo, .ref no, .ref mo, .int (nI C), .int (nI R), .int (nI F)])), (fo, .inl (cI, 12, .inl (sfill nx fz 0))), (no, .inl (cI, 12, .inl nx)), (mo, .inl (cI, 144, .inl ml))] := hD
  refine lv_iconst (v := 0) hx hb dX1_takeNext_2 (by decide) ?_
  refine lv_istore_n (lv' := [(2, .int 0), (1, .int 0), (0, .ref pa)]) hx hb dX1_takeNext_3 rfl hl (by decide) rfl (fun ls hl => ?_)
  refine f_loopW (σ := Nat) (D := D) (A := A) (H0 := s.heap) 3 4 (fun u9 => [(2, .int (nI u9)), (1, .int (tkc fz nx u9)), (0, .ref pa)]) (fun u9 => [(pa, .inr (1, [.ref fo, .ref no, .ref mo, .int (nI C), .int (nI R), .int (nI F)])), (fo, .inl (cI, 12, .inl (sfill nx fz u9))), (no, .inl (cI, 12, .inl nx)), (mo, .inl (cI, 144, .inl ml))]) (fun u9 => u9 ≤ R) (fun u9 => R - u9)
      (fun u9 hi_2 ih_1 H locs hP hD hS ls hl => ?_) 0 (by omega) hP hD hS (lv_sub hl [0, 1, 2] rfl)
  obtain ⟨k, rfl⟩ : ∃ z, z = u9 := ⟨_, rfl⟩
  have hi_2 : k ≤ R := hi_2
  obtain hk := hi_2
  have hl : lv_has ls 3 [(2, .int (nI k)), (1, .int (tkc fz nx k)), (0, .ref pa)] := hl
  have hP : va_P D vwCl [(pa, .inr (1, [.ref fo, .ref no, .ref mo, .int (nI C), .int (nI R), .int (nI F)])), (fo, .inl (cI, 12, .inl (sfill nx fz k))), (no, .inl (cI, 12, .inl nx)), (mo, .inl (cI, 144, .inl ml))] _ := hP
  have hD : va_D A [(pa, .inr (1, [.ref fo, .ref no, .ref mo, .int (nI C), .int (nI R), .int (nI F)])), (fo, .inl (cI, 12, .inl (sfill nx fz k))), (no, .inl (cI, 12, .inl nx)), (mo, .inl (cI, 144, .inl ml))] := hD
  refine lv_iload_n hx hb dX1_takeNext_4 rfl (lv_at hl 0 rfl) ?_
  refine lv_aload_n hx hb dX1_takeNext_5 rfl (lv_at hl 2 rfl) ?_
  refine va_get (D := D) (ci := 1) (v := .int (nI R)) (C := RX1) (T := TX1) (N := 6) hx hb hts wb_X1_takeNext_1 hown hK hP 0 rfl rfl 4 (by decide) (hts _ wi_X1_takeNext_1) (fun _ h9 => h9) rfl dX1_takeNext_6 ?_
  refine lv_icmp_ge (tgt := 73) hx hb dX1_takeNext_9 (by decide) (fun c_3 => ?_) (fun c_3 => ?_)
  · have n_3 : R ≤ k := (nI_leI (a := R) (b := k) (by omega) (by omega)).mp c_3
    refine lv_iload_n hx hb dX1_takeNext_73 rfl (lv_at hl 1 rfl) ?_
    obtain ⟨hP, hD⟩ := f_rep (g := sfill nx fz R) hP hD 1 rfl (fun j _ => by rw [show k = R by omega])
    have hP : va_P D vwCl [(pa, .inr (1, [.ref fo, .ref no, .ref mo, .int (nI C), .int (nI R), .int (nI F)])), (fo, .inl (cI, 12, .inl (sfill nx fz R))), (no, .inl (cI, 12, .inl nx)), (mo, .inl (cI, 144, .inl ml))] _ := hP
    have hD : va_D A [(pa, .inr (1, [.ref fo, .ref no, .ref mo, .int (nI C), .int (nI R), .int (nI F)])), (fo, .inl (cI, 12, .inl (sfill nx fz R))), (no, .inl (cI, 12, .inl nx)), (mo, .inl (cI, 144, .inl ml))] := hD
    exact f_ret_z hx hb hr hlocks hP hD hS dX1_takeNext_74 (by rw [show k = R by omega]) (by rcases tkc_01 fz nx R with h | h <;> rw [h] <;> rfl)
  · have n_3 : k < R := Nat.lt_of_not_le (fun h => c_3 ((nI_leI (a := R) (b := k) (by omega) (by omega)).mpr h))
    refine lv_iload_n hx hb dX1_takeNext_12 rfl (lv_at hl 0 rfl) ?_
    refine lv_aload_n hx hb dX1_takeNext_13 rfl (lv_at hl 2 rfl) ?_
    refine va_get (D := D) (ci := 1) (v := .ref no) (C := RX1) (T := TX1) (N := 6) hx hb hts wb_X1_takeNext_1 hown hK hP 0 rfl rfl 1 (by decide) (hts _ wi_X1_takeNext_2) (fun _ h9 => h9) rfl dX1_takeNext_14 ?_
    refine va_alen (v := 12) hx hb hK hP 2 0 rfl rfl rfl dX1_takeNext_17 ?_
    refine lv_icmp_ge (tgt := 73) hx hb dX1_takeNext_18 (by decide) (fun c_4 => ?_) (fun c_4 => ?_)
    · have n_4 : 12 ≤ k := (nI_leI (a := 12) (b := k) (by omega) (by omega)).mp c_4
      exfalso; omega
    · have n_4 : k < 12 := Nat.lt_of_not_le (fun h => c_4 ((nI_leI (a := 12) (b := k) (by omega) (by omega)).mpr h))
      refine lv_iload_n hx hb dX1_takeNext_21 rfl (lv_at hl 0 rfl) ?_
      refine lv_aload_n hx hb dX1_takeNext_22 rfl (lv_at hl 2 rfl) ?_
      refine va_get (D := D) (ci := 1) (v := .ref fo) (C := RX1) (T := TX1) (N := 6) hx hb hts wb_X1_takeNext_1 hown hK hP 0 rfl rfl 0 (by decide) (hts _ wi_X1_takeNext_3) (fun _ h9 => h9) rfl dX1_takeNext_23 ?_
      refine va_alen (v := 12) hx hb hK hP 1 0 rfl rfl rfl dX1_takeNext_26 ?_
      refine lv_icmp_ge (tgt := 73) hx hb dX1_takeNext_27 (by decide) (fun c_5 => ?_) (fun c_5 => ?_)
      · have n_5 : 12 ≤ k := (nI_leI (a := 12) (b := k) (by omega) (by omega)).mp c_5
        exfalso; omega
      · have n_5 : k < 12 := Nat.lt_of_not_le (fun h => c_5 ((nI_leI (a := 12) (b := k) (by omega) (by omega)).mpr h))
        refine f_joinW (nL := 3) 54 [(2, .int (nI k)), (1, .int (tkc fz nx k)), (0, .ref pa)] [.int (if (tkc fz nx k) = 0 then if (fz k) = (nx k) then (0 : Int32) else 1 else 1)] (fun ls hl => ?_) (fun j_6 => ?_)
        · refine lv_istore_n (lv' := [(1, .int (if (tkc fz nx k) = 0 then if (fz k) = (nx k) then (0 : Int32) else 1 else 1)), (2, .int (nI k)), (0, .ref pa)]) hx hb dX1_takeNext_54 rfl hl (by decide) rfl (fun ls hl => ?_)
          refine lv_aload_n hx hb dX1_takeNext_55 rfl (lv_at hl 2 rfl) ?_
          refine va_get (D := D) (ci := 1) (v := .ref fo) (C := RX1) (T := TX1) (N := 6) hx hb hts wb_X1_takeNext_1 hown hK hP 0 rfl rfl 0 (by decide) (hts _ wi_X1_takeNext_3) (fun _ h9 => h9) rfl dX1_takeNext_56 ?_
          refine lv_iload_n hx hb dX1_takeNext_59 rfl (lv_at hl 1 rfl) ?_
          refine lv_aload_n hx hb dX1_takeNext_60 rfl (lv_at hl 2 rfl) ?_
          refine va_get (D := D) (ci := 1) (v := .ref no) (C := RX1) (T := TX1) (N := 6) hx hb hts wb_X1_takeNext_1 hown hK hP 0 rfl rfl 1 (by decide) (hts _ wi_X1_takeNext_2) (fun _ h9 => h9) rfl dX1_takeNext_61 ?_
          refine lv_iload_n hx hb dX1_takeNext_64 rfl (lv_at hl 1 rfl) ?_
          refine f_iald (k := k) hx hb hK hP 2 0 rfl rfl rfl (by omega) (by first | decide | omega) dX1_takeNext_65 ?_
          refine f_iast (k := k) hx hb hK hP hD hS 1 0 rfl rfl rfl (by omega) (by first | decide | omega) dX1_takeNext_66 (fun H locs hP hD hS => ?_)
          have hP : va_P D vwCl [(pa, .inr (1, [.ref fo, .ref no, .ref mo, .int (nI C), .int (nI R), .int (nI F)])), (fo, .inl (cI, 12, .inl (upd (sfill nx fz k) k (nx k)))), (no, .inl (cI, 12, .inl nx)), (mo, .inl (cI, 144, .inl ml))] _ := hP
          have hD : va_D A [(pa, .inr (1, [.ref fo, .ref no, .ref mo, .int (nI C), .int (nI R), .int (nI F)])), (fo, .inl (cI, 12, .inl (upd (sfill nx fz k) k (nx k)))), (no, .inl (cI, 12, .inl nx)), (mo, .inl (cI, 144, .inl ml))] := hD
          obtain ⟨hP, hD⟩ := f_rep (g := sfill nx fz (k + 1)) hP hD 1 rfl (fun j _ => sfill_up rfl j)
          have hP : va_P D vwCl [(pa, .inr (1, [.ref fo, .ref no, .ref mo, .int (nI C), .int (nI R), .int (nI F)])), (fo, .inl (cI, 12, .inl (sfill nx fz (k + 1)))), (no, .inl (cI, 12, .inl nx)), (mo, .inl (cI, 144, .inl ml))] _ := hP
          have hD : va_D A [(pa, .inr (1, [.ref fo, .ref no, .ref mo, .int (nI C), .int (nI R), .int (nI F)])), (fo, .inl (cI, 12, .inl (sfill nx fz (k + 1)))), (no, .inl (cI, 12, .inl nx)), (mo, .inl (cI, 144, .inl ml))] := hD
          refine lv_iinc (v := nI (k + 1)) (lv' := [(2, .int (nI (k + 1))), (1, .int (if (tkc fz nx k) = 0 then if (fz k) = (nx k) then (0 : Int32) else 1 else 1)), (0, .ref pa)]) hx hb dX1_takeNext_67 hl (k := 1) rfl (nI_1 _) (by decide) rfl (fun ls hl => ?_)
          refine lv_goto (tgt := 4) hx hb dX1_takeNext_70 (by decide) ?_
          exact ih_1 (k + 1) (by omega) (by first | omega | (simp only []; omega) | (show _ < _; simp only []; omega)) H locs hP hD hS ls (lv_sub hl [0, 1, 2] rfl)
        refine lv_iload_n hx hb dX1_takeNext_30 rfl (lv_at hl 1 rfl) ?_
        refine lv_if_ne (tgt := 49) hx hb dX1_takeNext_31 (by decide) (fun c_7 => ?_) (fun c_7 => ?_)
        · refine lv_iconst (v := 1) hx hb dX1_takeNext_49 (by decide) ?_
          refine lv_goto (tgt := 54) hx hb dX1_takeNext_50 (by decide) ?_
          refine f_topi (y := if (tkc fz nx k) = 0 then if (fz k) = (nx k) then (0 : Int32) else 1 else 1) (by rw [if_neg c_7]) ?_
          exact j_6 ls (lv_sub hl [0, 1, 2] rfl)
        · refine lv_aload_n hx hb dX1_takeNext_34 rfl (lv_at hl 2 rfl) ?_
          refine va_get (D := D) (ci := 1) (v := .ref fo) (C := RX1) (T := TX1) (N := 6) hx hb hts wb_X1_takeNext_1 hown hK hP 0 rfl rfl 0 (by decide) (hts _ wi_X1_takeNext_3) (fun _ h9 => h9) rfl dX1_takeNext_35 ?_
          refine lv_iload_n hx hb dX1_takeNext_38 rfl (lv_at hl 0 rfl) ?_
          refine f_iald (k := k) hx hb hK hP 1 0 rfl rfl rfl (by omega) (by first | decide | omega) dX1_takeNext_39 ?_
          refine f_topi (y := fz k) (sfill_at _ _ _) ?_
          refine lv_aload_n hx hb dX1_takeNext_40 rfl (lv_at hl 2 rfl) ?_
          refine va_get (D := D) (ci := 1) (v := .ref no) (C := RX1) (T := TX1) (N := 6) hx hb hts wb_X1_takeNext_1 hown hK hP 0 rfl rfl 1 (by decide) (hts _ wi_X1_takeNext_2) (fun _ h9 => h9) rfl dX1_takeNext_41 ?_
          refine lv_iload_n hx hb dX1_takeNext_44 rfl (lv_at hl 0 rfl) ?_
          refine f_iald (k := k) hx hb hK hP 2 0 rfl rfl rfl (by omega) (by first | decide | omega) dX1_takeNext_45 ?_
          refine lv_icmp_eq (tgt := 53) hx hb dX1_takeNext_46 (by decide) (fun c_8 => ?_) (fun c_8 => ?_)
          · refine lv_iconst (v := 0) hx hb dX1_takeNext_53 (by decide) ?_
            refine f_topi (y := if (tkc fz nx k) = 0 then if (fz k) = (nx k) then (0 : Int32) else 1 else 1) (by rw [if_pos c_7, if_pos c_8]) ?_
            exact j_6 ls (lv_sub hl [0, 1, 2] rfl)
          · refine lv_iconst (v := 1) hx hb dX1_takeNext_49 (by decide) ?_
            refine lv_goto (tgt := 54) hx hb dX1_takeNext_50 (by decide) ?_
            refine f_topi (y := if (tkc fz nx k) = 0 then if (fz k) = (nx k) then (0 : Int32) else 1 else 1) (by rw [if_pos c_7, if_neg c_8]) ?_
            exact j_6 ls (lv_sub hl [0, 1, 2] rfl)

/-- Pane.step: the rows behind it -/
def stG (C R F : Nat) (fz ml : Nat → Int32) (fr st : Int32) : Nat → Int32 := fun r => gro C R F fz ml (nI r) fr st C
def stN (C R F : Nat) (fz nx ml : Nat → Int32) (fr st : Int32) : Nat → Int32 := sfill (stG C R F fz ml fr st) nx R
def stF (C R F : Nat) (fz ml : Nat → Int32) (fr st : Int32) : Nat → Int32 := sfill (stG C R F fz ml fr st) fz R
theorem stF_of (C R F : Nat) (fz nx ml : Nat → Int32) (fr st : Int32) (j : Nat) : sfill (stN C R F fz nx ml fr st) fz R j = stF C R F fz ml fr st j := by
  unfold stF stN sfill; by_cases h : j < R <;> simp [h]
theorem tkc_congr {fz a b : Nat → Int32} : ∀ {n : Nat}, (∀ k, k < n → a k = b k) → tkc fz a n = tkc fz b n
  | 0, _ => rfl
  | n + 1, h => by rw [tkc, tkc, tkc_congr (n := n) (fun k hk => h k (by omega)), h n (by omega)]
theorem tkc_of (C R F : Nat) (fz nx ml : Nat → Int32) (fr st : Int32) : tkc fz (stN C R F fz nx ml fr st) R = tkc fz (stG C R F fz ml fr st) R := tkc_congr fun k hk => sfill_lt hk
/-- k generations: the rows, the melted cells, and what the second rows hold -/
def itM (ml : Nat → Int32) : Nat → (Nat → Int32)
  | 0 => ml
  | k + 1 => fun j => ml1 (itM ml k j)
def itF (C R F : Nat) (fz ml : Nat → Int32) (fr st : Int32) : Nat → (Nat → Int32)
  | 0 => fz
  | k + 1 => stF C R F (itF C R F fz ml fr st k) (itM ml k) fr st
def itN (C R F : Nat) (fz nx ml : Nat → Int32) (fr st : Int32) : Nat → (Nat → Int32)
  | 0 => nx
  | k + 1 => stN C R F (itF C R F fz ml fr st k) (itN C R F fz nx ml fr st k) (itM ml k) fr st
theorem k_X1_step : yX1_step.cls = RX1 ∧ yX1_step.cls ≠ "java/lang/invoke/MethodHandle" ∧ yX1_step.cls ≠ "java/lang/invoke/VarHandle" ∧ (parseMethodDescriptor yX1_step.desc).map (fun d => d.parameters.length) = some 2 := by decide +kernel
theorem wb_X1_step_1 : ∀ w ∈ wsX10, w ∈ wsX1_step := (fun _ h => List.mem_cons_of_mem _ (List.mem_append_right _ h))
theorem wi_X1_step_1 : (Cond.fieldLink RX1 25 "FrostPane$Pane" "rows" "I") ∈ wsX1_step := List.mem_of_getElem? (i := 1) rfl
theorem wi_X1_step_2 : (Cond.fieldLink RX1 15 "FrostPane$Pane" "frostNext" "[I") ∈ wsX1_step := List.mem_of_getElem? (i := 2) rfl
set_option maxHeartbeats 4000000 in
set_option maxRecDepth 100000 in
theorem c_X1_step (l : Launch) (D : va_G) (cI cZ cP cQ : ClassId) (sz : Nat) (pa fo no mo C R F : Nat) (fz nx ml : Nat → Int32) (fr st : Int32) (hC : C ≤ 12) (hR : R ≤ 12) : f_Mi l yX1_step wsX1_step ({ frames := 3, cells := 0, slots := 0, locals := 74 }) D (fTY cI cZ cP cQ) [.ref pa, .int fr, .int st] sz [(pa, .inr (1, [.ref fo, .ref no, .ref mo, .int (nI C), .int (nI R), .int (nI F)])), (fo, .inl (cI, 12, .inl fz)), (no, .inl (cI, 12, .inl nx)), (mo, .inl (cI, 144, .inl ml))] (tkc fz (stG C R F fz ml fr st) R) [(pa, .inr (1, [.ref fo, .ref no, .ref mo, .int (nI C), .int (nI R), .int (nI F)])), (fo, .inl (cI, 12, .inl (stF C R F fz ml fr st))), (no, .inl (cI, 12, .inl (stN C R F fz nx ml fr st))), (mo, .inl (cI, 144, .inl (fun j => ml1 (ml j))))] := by
  refine f_ent_i (by decide) rfl (Nat.le_of_ble_eq_true rfl) ?_
  intro pg ev s m below meth cd hx hb hr hts hown hlocks hml hnm hsz hP hK hN A hD hA hS ls hl
  have hown : s.vm.findClass RX1 = some m.cls := hown
  have hl : lv_has ls 4 [(0, .ref pa), (1, .int fr), (2, .int st)] := hl
  obtain ⟨hP, hD⟩ := f_rep (g := sfill (stG C R F fz ml fr st) nx 0) hP hD 2 rfl (fun j _ => sfill_0 _ _ j)
  have hP : va_P D vwCl [(pa, .inr (1, [.ref fo, .ref no, .ref mo, .int (nI C), .int (nI R), .int (nI F)])), (fo, .inl (cI, 12, .inl fz)), (no, .inl (cI, 12, .inl (sfill (stG C R F fz ml fr st) nx 0))), (mo, .inl (cI, 144, .inl ml))] _ := hP
  have hD : va_D A [(pa, .inr (1, [.ref fo, .ref no, .ref mo, .int (nI C), .int (nI R), .int (nI F)])), (fo, .inl (cI, 12, .inl fz)), (no, .inl (cI, 12, .inl (sfill (stG C R F fz ml fr st) nx 0))), (mo, .inl (cI, 144, .inl ml))] := hD
  refine lv_iconst (v := 0) hx hb dX1_step_0 (by decide) ?_
  refine lv_istore_n (lv' := [(3, .int 0), (0, .ref pa), (1, .int fr), (2, .int st)]) hx hb dX1_step_1 rfl hl (by decide) rfl (fun ls hl => ?_)
  refine f_loopW (σ := Nat) (D := D) (A := A) (H0 := s.heap) 4 2 (fun u9 => [(3, .int (nI u9)), (0, .ref pa), (1, .int fr), (2, .int st)]) (fun u9 => [(pa, .inr (1, [.ref fo, .ref no, .ref mo, .int (nI C), .int (nI R), .int (nI F)])), (fo, .inl (cI, 12, .inl fz)), (no, .inl (cI, 12, .inl (sfill (stG C R F fz ml fr st) nx u9))), (mo, .inl (cI, 144, .inl ml))]) (fun u9 => u9 ≤ R) (fun u9 => R - u9)
      (fun u9 hi_2 ih_1 H locs hP hD hS ls hl => ?_) 0 (by omega) hP hD hS (lv_sub hl [0, 1, 2, 3] rfl)
  obtain ⟨k, rfl⟩ : ∃ z, z = u9 := ⟨_, rfl⟩
  have hi_2 : k ≤ R := hi_2
  obtain hk := hi_2
  have hl : lv_has ls 4 [(3, .int (nI k)), (0, .ref pa), (1, .int fr), (2, .int st)] := hl
  have hP : va_P D vwCl [(pa, .inr (1, [.ref fo, .ref no, .ref mo, .int (nI C), .int (nI R), .int (nI F)])), (fo, .inl (cI, 12, .inl fz)), (no, .inl (cI, 12, .inl (sfill (stG C R F fz ml fr st) nx k))), (mo, .inl (cI, 144, .inl ml))] _ := hP
  have hD : va_D A [(pa, .inr (1, [.ref fo, .ref no, .ref mo, .int (nI C), .int (nI R), .int (nI F)])), (fo, .inl (cI, 12, .inl fz)), (no, .inl (cI, 12, .inl (sfill (stG C R F fz ml fr st) nx k))), (mo, .inl (cI, 144, .inl ml))] := hD
  refine lv_iload_n hx hb dX1_step_2 rfl (lv_at hl 0 rfl) ?_
  refine lv_aload_n hx hb dX1_step_3 rfl (lv_at hl 1 rfl) ?_
  refine va_get (D := D) (ci := 1) (v := .int (nI R)) (C := RX1) (T := TX1) (N := 6) hx hb hts wb_X1_step_1 hown hK hP 0 rfl rfl 4 (by decide) (hts _ wi_X1_step_1) (fun _ h9 => h9) rfl dX1_step_4 ?_
  refine lv_icmp_ge (tgt := 38) hx hb dX1_step_7 (by decide) (fun c_3 => ?_) (fun c_3 => ?_)
  · have n_3 : R ≤ k := (nI_leI (a := R) (b := k) (by omega) (by omega)).mp c_3
    obtain ⟨hP, hD⟩ := f_rep (g := stN C R F fz nx ml fr st) hP hD 2 rfl (fun j _ => by rw [show k = R by omega]; rfl)
    have hP : va_P D vwCl [(pa, .inr (1, [.ref fo, .ref no, .ref mo, .int (nI C), .int (nI R), .int (nI F)])), (fo, .inl (cI, 12, .inl fz)), (no, .inl (cI, 12, .inl (stN C R F fz nx ml fr st))), (mo, .inl (cI, 144, .inl ml))] _ := hP
    have hD : va_D A [(pa, .inr (1, [.ref fo, .ref no, .ref mo, .int (nI C), .int (nI R), .int (nI F)])), (fo, .inl (cI, 12, .inl fz)), (no, .inl (cI, 12, .inl (stN C R F fz nx ml fr st))), (mo, .inl (cI, 144, .inl ml))] := hD
    refine lv_aload_n hx hb dX1_step_38 rfl (lv_at hl 1 rfl) ?_
    refine f_callVv ⟨hx, hb, hml, hown, hts⟩ hP hD hS hA hK hN [0, 1, 2, 3] (w2 := [(pa, .inr (1, [.ref fo, .ref no, .ref mo, .int (nI C), .int (nI R), .int (nI F)])), (fo, .inl (cI, 12, .inl fz)), (no, .inl (cI, 12, .inl (stN C R F fz nx ml fr st))), (mo, .inl (cI, 144, .inl (fun j => ml1 (ml j))))])
        (c_X1_meltLess (l := l) (D := D) (cI := cI) (cZ := cZ) (cP := cP) (cQ := cQ) (sz := _) (pa := pa) (fo := fo) (no := no) (mo := mo) (C := C) (R := R) (F := F) (fz := fz) (nx := stN C R F fz nx ml fr st) (ml := ml) ) (cwV 0 hts gX1_step_X1_meltLess rfl rfl rfl k_X1_meltLess ⟨Nat.le_of_ble_eq_true rfl, Nat.le_of_ble_eq_true rfl⟩) 0 rfl rfl rfl rfl [pa, fo, no, mo] rfl rfl rfl rfl rfl hl.1 (Nat.le_of_ble_eq_true rfl) dX1_step_39 ⟨Nat.le_of_ble_eq_true rfl, Nat.le_of_ble_eq_true rfl⟩ (fun H locs hP hD hS => ?_)
    refine lv_aload_n hx hb dX1_step_42 rfl (lv_at hl 1 rfl) ?_
    refine f_callVi ⟨hx, hb, hml, hown, hts⟩ hP hD hS hA hK hN [0, 1, 2, 3] (w2 := [(pa, .inr (1, [.ref fo, .ref no, .ref mo, .int (nI C), .int (nI R), .int (nI F)])), (fo, .inl (cI, 12, .inl (sfill (stN C R F fz nx ml fr st) fz R))), (no, .inl (cI, 12, .inl (stN C R F fz nx ml fr st))), (mo, .inl (cI, 144, .inl (fun j => ml1 (ml j))))])
        (c_X1_takeNext (l := l) (D := D) (cI := cI) (cZ := cZ) (cP := cP) (cQ := cQ) (sz := _) (pa := pa) (fo := fo) (no := no) (mo := mo) (C := C) (R := R) (F := F) (fz := fz) (nx := stN C R F fz nx ml fr st) (ml := fun j => ml1 (ml j)) (hR := (by first | assumption | omega))) (cwV 0 hts gX1_step_X1_takeNext rfl rfl rfl k_X1_takeNext ⟨Nat.le_of_ble_eq_true rfl, Nat.le_of_ble_eq_true rfl⟩) 0 rfl rfl rfl rfl [pa, fo, no, mo] rfl rfl rfl rfl rfl hl.1 (Nat.le_of_ble_eq_true rfl) dX1_step_43 ⟨Nat.le_of_ble_eq_true rfl, Nat.le_of_ble_eq_true rfl⟩ (fun H locs hP hD hS => ?_)
    obtain ⟨hP, hD⟩ := f_rep (g := stF C R F fz ml fr st) hP hD 1 rfl (fun j _ => stF_of C R F fz nx ml fr st j)
    have hP : va_P D vwCl [(pa, .inr (1, [.ref fo, .ref no, .ref mo, .int (nI C), .int (nI R), .int (nI F)])), (fo, .inl (cI, 12, .inl (stF C R F fz ml fr st))), (no, .inl (cI, 12, .inl (stN C R F fz nx ml fr st))), (mo, .inl (cI, 144, .inl (fun j => ml1 (ml j))))] _ := hP
    have hD : va_D A [(pa, .inr (1, [.ref fo, .ref no, .ref mo, .int (nI C), .int (nI R), .int (nI F)])), (fo, .inl (cI, 12, .inl (stF C R F fz ml fr st))), (no, .inl (cI, 12, .inl (stN C R F fz nx ml fr st))), (mo, .inl (cI, 144, .inl (fun j => ml1 (ml j))))] := hD
    exact f_ret_z hx hb hr hlocks hP hD hS dX1_step_46 (tkc_of C R F fz nx ml fr st) (by rcases tkc_01 fz (stG C R F fz ml fr st) R with h | h <;> rw [h] <;> rfl)
  · have n_3 : k < R := Nat.lt_of_not_le (fun h => c_3 ((nI_leI (a := R) (b := k) (by omega) (by omega)).mpr h))
    refine lv_iload_n hx hb dX1_step_10 rfl (lv_at hl 0 rfl) ?_
    refine lv_aload_n hx hb dX1_step_11 rfl (lv_at hl 1 rfl) ?_
    refine va_get (D := D) (ci := 1) (v := .ref no) (C := RX1) (T := TX1) (N := 6) hx hb hts wb_X1_step_1 hown hK hP 0 rfl rfl 1 (by decide) (hts _ wi_X1_step_2) (fun _ h9 => h9) rfl dX1_step_12 ?_
    refine va_alen (v := 12) hx hb hK hP 2 0 rfl rfl rfl dX1_step_15 ?_
    refine lv_icmp_ge (tgt := 38) hx hb dX1_step_16 (by decide) (fun c_4 => ?_) (fun c_4 => ?_)
    · have n_4 : 12 ≤ k := (nI_leI (a := 12) (b := k) (by omega) (by omega)).mp c_4
      exfalso; omega
    · have n_4 : k < 12 := Nat.lt_of_not_le (fun h => c_4 ((nI_leI (a := 12) (b := k) (by omega) (by omega)).mpr h))
      refine lv_aload_n hx hb dX1_step_19 rfl (lv_at hl 1 rfl) ?_
      refine va_get (D := D) (ci := 1) (v := .ref no) (C := RX1) (T := TX1) (N := 6) hx hb hts wb_X1_step_1 hown hK hP 0 rfl rfl 1 (by decide) (hts _ wi_X1_step_2) (fun _ h9 => h9) rfl dX1_step_20 ?_
      refine lv_iload_n hx hb dX1_step_23 rfl (lv_at hl 0 rfl) ?_
      refine lv_aload_n hx hb dX1_step_24 rfl (lv_at hl 1 rfl) ?_
      refine lv_iload_n hx hb dX1_step_25 rfl (lv_at hl 0 rfl) ?_
      refine lv_iload_n hx hb dX1_step_26 rfl (lv_at hl 2 rfl) ?_
      refine lv_iload_n hx hb dX1_step_27 rfl (lv_at hl 3 rfl) ?_
      refine f_callVi ⟨hx, hb, hml, hown, hts⟩ hP hD hS hA hK hN [0, 1, 2, 3] (w2 := [(pa, .inr (1, [.ref fo, .ref no, .ref mo, .int (nI C), .int (nI R), .int (nI F)])), (fo, .inl (cI, 12, .inl fz)), (no, .inl (cI, 12, .inl (sfill (stG C R F fz ml fr st) nx k))), (mo, .inl (cI, 144, .inl ml))])
          (c_X1_grownRow (l := l) (D := D) (cI := cI) (cZ := cZ) (cP := cP) (cQ := cQ) (sz := _) (pa := pa) (fo := fo) (no := no) (mo := mo) (C := C) (R := R) (F := F) (fz := fz) (nx := sfill (stG C R F fz ml fr st) nx k) (ml := ml) (row := nI k) (fr := fr) (st := st) (hC := (by first | assumption | omega))) (cwV 3 hts gX1_step_X1_grownRow rfl rfl rfl k_X1_grownRow ⟨Nat.le_of_ble_eq_true rfl, Nat.le_of_ble_eq_true rfl⟩) 0 rfl rfl rfl rfl [pa, fo, no, mo] rfl rfl rfl rfl rfl hl.1 (Nat.le_of_ble_eq_true rfl) dX1_step_28 ⟨Nat.le_of_ble_eq_true rfl, Nat.le_of_ble_eq_true rfl⟩ (fun H locs hP hD hS => ?_)
      refine f_iast (k := k) hx hb hK hP hD hS 2 0 rfl rfl rfl (by omega) (by first | decide | omega) dX1_step_31 (fun H locs hP hD hS => ?_)
      have hP : va_P D vwCl [(pa, .inr (1, [.ref fo, .ref no, .ref mo, .int (nI C), .int (nI R), .int (nI F)])), (fo, .inl (cI, 12, .inl fz)), (no, .inl (cI, 12, .inl (upd (sfill (stG C R F fz ml fr st) nx k) k (gro C R F fz ml (nI k) fr st C)))), (mo, .inl (cI, 144, .inl ml))] _ := hP
      have hD : va_D A [(pa, .inr (1, [.ref fo, .ref no, .ref mo, .int (nI C), .int (nI R), .int (nI F)])), (fo, .inl (cI, 12, .inl fz)), (no, .inl (cI, 12, .inl (upd (sfill (stG C R F fz ml fr st) nx k) k (gro C R F fz ml (nI k) fr st C)))), (mo, .inl (cI, 144, .inl ml))] := hD
      obtain ⟨hP, hD⟩ := f_rep (g := sfill (stG C R F fz ml fr st) nx (k + 1)) hP hD 2 rfl (fun j _ => sfill_up rfl j)
      have hP : va_P D vwCl [(pa, .inr (1, [.ref fo, .ref no, .ref mo, .int (nI C), .int (nI R), .int (nI F)])), (fo, .inl (cI, 12, .inl fz)), (no, .inl (cI, 12, .inl (sfill (stG C R F fz ml fr st) nx (k + 1)))), (mo, .inl (cI, 144, .inl ml))] _ := hP
      have hD : va_D A [(pa, .inr (1, [.ref fo, .ref no, .ref mo, .int (nI C), .int (nI R), .int (nI F)])), (fo, .inl (cI, 12, .inl fz)), (no, .inl (cI, 12, .inl (sfill (stG C R F fz ml fr st) nx (k + 1)))), (mo, .inl (cI, 144, .inl ml))] := hD
      refine lv_iinc (v := nI (k + 1)) (lv' := [(3, .int (nI (k + 1))), (0, .ref pa), (1, .int fr), (2, .int st)]) hx hb dX1_step_32 hl (k := 0) rfl (nI_1 _) (by decide) rfl (fun ls hl => ?_)
      refine lv_goto (tgt := 2) hx hb dX1_step_35 (by decide) ?_
      exact ih_1 (k + 1) (by omega) (by first | omega | (simp only []; omega) | (show _ < _; simp only []; omega)) H locs hP hD hS ls (lv_sub hl [0, 1, 2, 3] rfl)

theorem k_X1_layClear : yX1_layClear.cls = RX1 ∧ yX1_layClear.cls ≠ "java/lang/invoke/MethodHandle" ∧ yX1_layClear.cls ≠ "java/lang/invoke/VarHandle" ∧ (parseMethodDescriptor yX1_layClear.desc).map (fun d => d.parameters.length) = some 2 := by decide +kernel
theorem wi_X1_layClear_1 : (Cond.fieldLink RX1 21 "FrostPane$Pane" "columns" "I") ∈ wsX1_layClear := List.mem_of_getElem? (i := 1) rfl
theorem wb_X1_layClear_1 : ∀ w ∈ wsX10, w ∈ wsX1_layClear := (fun _ h => List.mem_cons_of_mem _ (List.mem_append_right _ h))
theorem wi_X1_layClear_2 : (Cond.fieldLink RX1 25 "FrostPane$Pane" "rows" "I") ∈ wsX1_layClear := List.mem_of_getElem? (i := 2) rfl
theorem wi_X1_layClear_3 : (Cond.fieldLink RX1 9 "FrostPane$Pane" "frost" "[I") ∈ wsX1_layClear := List.mem_of_getElem? (i := 3) rfl
theorem wi_X1_layClear_4 : (Cond.fieldLink RX1 18 "FrostPane$Pane" "melts" "[I") ∈ wsX1_layClear := List.mem_of_getElem? (i := 4) rfl
set_option maxHeartbeats 4000000 in
set_option maxRecDepth 100000 in
theorem c_X1_layClear (l : Launch) (D : va_G) (cI cZ cP cQ : ClassId) (sz : Nat) (pa fo no mo C R F : Nat) (fz nx ml : Nat → Int32) (C2 R2 : Nat)  : f_Mv l yX1_layClear wsX1_layClear ({ frames := 1, cells := 0, slots := 0, locals := 23 }) D (fTY cI cZ cP cQ) [.ref pa, .int (nI C2), .int (nI R2)] sz [(pa, .inr (1, [.ref fo, .ref no, .ref mo, .int (nI C), .int (nI R), .int (nI F)])), (fo, .inl (cI, 12, .inl fz)), (no, .inl (cI, 12, .inl nx)), (mo, .inl (cI, 144, .inl ml))] [(pa, .inr (1, [.ref fo, .ref no, .ref mo, .int (nI C2), .int (nI R2), .int (nI F)])), (fo, .inl (cI, 12, .inl (fun _ => 0))), (no, .inl (cI, 12, .inl nx)), (mo, .inl (cI, 144, .inl (fun _ => 0)))] := by
  refine f_ent_v (by decide) rfl (Nat.le_of_ble_eq_true rfl) ?_
  intro pg ev s m below meth cd hx hb hr hts hown hlocks hml hnm hsz hP hK hN A hD hA hS ls hl
  have hown : s.vm.findClass RX1 = some m.cls := hown
  have hl : lv_has ls 3 [(0, .ref pa), (1, .int (nI C2)), (2, .int (nI R2))] := hl
  refine lv_aload_n hx hb dX1_layClear_0 rfl (lv_at hl 0 rfl) ?_
  refine lv_iload_n hx hb dX1_layClear_1 rfl (lv_at hl 1 rfl) ?_
  refine va_put (D := D) (ci := 1) (v := .int (nI C2)) (ty := tyX1 3) (C := RX1) (T := TX1) (N := 6) hx hb hts wb_X1_layClear_1 tyX1 tyX1_ok nmX1 hown hK hP hD hS 0 rfl rfl 3 (by decide) (hts _ wi_X1_layClear_1) (fun _ h9 => h9) rfl (tyX1_ok 3 (by decide)) rfl rfl (Nat.le_of_ble_eq_true rfl) dX1_layClear_2 (fun H locs hP hD hS => ?_)
  have hP : va_P D vwCl [(pa, .inr (1, [.ref fo, .ref no, .ref mo, .int (nI C2), .int (nI R), .int (nI F)])), (fo, .inl (cI, 12, .inl fz)), (no, .inl (cI, 12, .inl nx)), (mo, .inl (cI, 144, .inl ml))] _ := hP
  have hD : va_D A [(pa, .inr (1, [.ref fo, .ref no, .ref mo, .int (nI C2), .int (nI R), .int (nI F)])), (fo, .inl (cI, 12, .inl fz)), (no, .inl (cI, 12, .inl nx)), (mo, .inl (cI, 144, .inl ml))] := hD
  refine lv_aload_n hx hb dX1_layClear_5 rfl (lv_at hl 0 rfl) ?_
  refine lv_iload_n hx hb dX1_layClear_6 rfl (lv_at hl 2 rfl) ?_
  refine va_put (D := D) (ci := 1) (v := .int (nI R2)) (ty := tyX1 4) (C := RX1) (T := TX1) (N := 6) hx hb hts wb_X1_layClear_1 tyX1 tyX1_ok nmX1 hown hK hP hD hS 0 rfl rfl 4 (by decide) (hts _ wi_X1_layClear_2) (fun _ h9 => h9) rfl (tyX1_ok 4 (by decide)) rfl rfl (Nat.le_of_ble_eq_true rfl) dX1_layClear_7 (fun H locs hP hD hS => ?_)
  have hP : va_P D vwCl [(pa, .inr (1, [.ref fo, .ref no, .ref mo, .int (nI C2), .int (nI R2), .int (nI F)])), (fo, .inl (cI, 12, .inl fz)), (no, .inl (cI, 12, .inl nx)), (mo, .inl (cI, 144, .inl ml))] _ := hP
  have hD : va_D A [(pa, .inr (1, [.ref fo, .ref no, .ref mo, .int (nI C2), .int (nI R2), .int (nI F)])), (fo, .inl (cI, 12, .inl fz)), (no, .inl (cI, 12, .inl nx)), (mo, .inl (cI, 144, .inl ml))] := hD
  refine lv_aload_n hx hb dX1_layClear_10 rfl (lv_at hl 0 rfl) ?_
  refine va_get (D := D) (ci := 1) (v := .ref fo) (C := RX1) (T := TX1) (N := 6) hx hb hts wb_X1_layClear_1 hown hK hP 0 rfl rfl 0 (by decide) (hts _ wi_X1_layClear_3) (fun _ h9 => h9) rfl dX1_layClear_11 ?_
  refine lv_iconst (v := 0) hx hb dX1_layClear_14 (by decide) ?_
  refine f_callSv ⟨hx, hb, hml, hown, hts⟩ hP hD hS hA hK hN [1] (w2 := [(pa, .inr (1, [.ref fo, .ref no, .ref mo, .int (nI C2), .int (nI R2), .int (nI F)])), (fo, .inl (cI, 12, .inl (fun _ => 0))), (no, .inl (cI, 12, .inl nx)), (mo, .inl (cI, 144, .inl ml))])
      (c_J7_fill_53178 (l := l) (D := D) (cI := cI) (cZ := cZ) (cP := cP) (cQ := cQ) (sz := _) (a := fo) (n := 12) (f := fz) (v := 0) (hn := (by first | assumption | omega))) (va_cwS 2 hts gX1_layClear_J7_fill_53178 rfl rfl rfl k_J7_fill_53178.2 ⟨Nat.le_of_ble_eq_true rfl, Nat.le_of_ble_eq_true rfl⟩) rfl rfl [fo] rfl rfl rfl rfl rfl hl.1 (Nat.le_of_ble_eq_true rfl) dX1_layClear_15 ⟨Nat.le_of_ble_eq_true rfl, Nat.le_of_ble_eq_true rfl⟩ (fun H locs hP hD hS => ?_)
  refine lv_aload_n hx hb dX1_layClear_18 rfl (lv_at hl 0 rfl) ?_
  refine va_get (D := D) (ci := 1) (v := .ref mo) (C := RX1) (T := TX1) (N := 6) hx hb hts wb_X1_layClear_1 hown hK hP 0 rfl rfl 2 (by decide) (hts _ wi_X1_layClear_4) (fun _ h9 => h9) rfl dX1_layClear_19 ?_
  refine lv_iconst (v := 0) hx hb dX1_layClear_22 (by decide) ?_
  refine f_callSv ⟨hx, hb, hml, hown, hts⟩ hP hD hS hA hK hN [3] (w2 := [(pa, .inr (1, [.ref fo, .ref no, .ref mo, .int (nI C2), .int (nI R2), .int (nI F)])), (fo, .inl (cI, 12, .inl (fun _ => 0))), (no, .inl (cI, 12, .inl nx)), (mo, .inl (cI, 144, .inl (fun _ => 0)))])
      (c_J7_fill_53178 (l := l) (D := D) (cI := cI) (cZ := cZ) (cP := cP) (cQ := cQ) (sz := _) (a := mo) (n := 144) (f := ml) (v := 0) (hn := (by first | assumption | omega))) (va_cwS 2 hts gX1_layClear_J7_fill_53178 rfl rfl rfl k_J7_fill_53178.2 ⟨Nat.le_of_ble_eq_true rfl, Nat.le_of_ble_eq_true rfl⟩) rfl rfl [mo] rfl rfl rfl rfl rfl hl.1 (Nat.le_of_ble_eq_true rfl) dX1_layClear_23 ⟨Nat.le_of_ble_eq_true rfl, Nat.le_of_ble_eq_true rfl⟩ (fun H locs hP hD hS => ?_)
  exact f_ret_v hx hb hr hlocks hP hD hS dX1_layClear_26

theorem k_X1_becomeLike : yX1_becomeLike.cls = RX1 ∧ yX1_becomeLike.cls ≠ "java/lang/invoke/MethodHandle" ∧ yX1_becomeLike.cls ≠ "java/lang/invoke/VarHandle" ∧ (parseMethodDescriptor yX1_becomeLike.desc).map (fun d => d.parameters.length) = some 1 := by decide +kernel
theorem wb_X1_becomeLike_1 : ∀ w ∈ wsX10, w ∈ wsX1_becomeLike := (fun _ h => List.mem_cons_of_mem _ (List.mem_append_right _ h))
theorem wi_X1_becomeLike_1 : (Cond.fieldLink RX1 21 "FrostPane$Pane" "columns" "I") ∈ wsX1_becomeLike := List.mem_of_getElem? (i := 1) rfl
theorem wi_X1_becomeLike_2 : (Cond.fieldLink RX1 25 "FrostPane$Pane" "rows" "I") ∈ wsX1_becomeLike := List.mem_of_getElem? (i := 2) rfl
theorem wi_X1_becomeLike_3 : (Cond.fieldLink RX1 34 "FrostPane$Pane" "frame" "I") ∈ wsX1_becomeLike := List.mem_of_getElem? (i := 3) rfl
theorem wi_X1_becomeLike_4 : (Cond.fieldLink RX1 9 "FrostPane$Pane" "frost" "[I") ∈ wsX1_becomeLike := List.mem_of_getElem? (i := 4) rfl
theorem wi_X1_becomeLike_5 : (Cond.methodLink RX1 37 Lib.Math.min.name) ∈ wsX1_becomeLike := List.mem_of_getElem? (i := 5) rfl
theorem wi_X1_becomeLike_6 : (Cond.static Lib.Math.min.name) ∈ wsX1_becomeLike := List.mem_of_getElem? (i := 6) rfl
theorem wi_X1_becomeLike_7 : (Cond.initialized "java/lang/Math") ∈ wsX1_becomeLike := List.mem_of_getElem? (i := 7) rfl
theorem wi_X1_becomeLike_8 : (Cond.code Lib.Math.min.name Lib.Math.min.code 2 (some .int)) ∈ wsX1_becomeLike := List.mem_of_getElem? (i := 8) rfl
theorem wi_X1_becomeLike_9 : (Cond.methodLink RX1 43 arraycopyName) ∈ wsX1_becomeLike := List.mem_of_getElem? (i := 9) rfl
theorem wi_X1_becomeLike_10 : (Cond.native arraycopyName) ∈ wsX1_becomeLike := List.mem_of_getElem? (i := 10) rfl
theorem wi_X1_becomeLike_11 : (Cond.static arraycopyName) ∈ wsX1_becomeLike := List.mem_of_getElem? (i := 11) rfl
theorem wi_X1_becomeLike_12 : (Cond.initialized "java/lang/System") ∈ wsX1_becomeLike := List.mem_of_getElem? (i := 12) rfl
theorem wi_X1_becomeLike_13 : (Cond.fieldLink RX1 18 "FrostPane$Pane" "melts" "[I") ∈ wsX1_becomeLike := List.mem_of_getElem? (i := 13) rfl
set_option maxHeartbeats 4000000 in
set_option maxRecDepth 100000 in
theorem c_X1_becomeLike (l : Launch) (D : va_G) (cI cZ cP cQ : ClassId) (sz : Nat) (pa fo no mo C R F : Nat) (fz nx ml : Nat → Int32) (qa qo qn qm C2 R2 F2 : Nat) (gz gx nl : Nat → Int32)  : f_Mv l yX1_becomeLike wsX1_becomeLike ({ frames := 1, cells := 0, slots := 0, locals := 60 }) D (fTY cI cZ cP cQ) [.ref pa, .ref qa] sz [(pa, .inr (1, [.ref fo, .ref no, .ref mo, .int (nI C), .int (nI R), .int (nI F)])), (fo, .inl (cI, 12, .inl fz)), (no, .inl (cI, 12, .inl nx)), (mo, .inl (cI, 144, .inl ml)), (qa, .inr (1, [.ref qo, .ref qn, .ref qm, .int (nI C2), .int (nI R2), .int (nI F2)])), (qo, .inl (cI, 12, .inl gz)), (qn, .inl (cI, 12, .inl gx)), (qm, .inl (cI, 144, .inl nl))] [(pa, .inr (1, [.ref fo, .ref no, .ref mo, .int (nI C2), .int (nI R2), .int (nI F2)])), (fo, .inl (cI, 12, .inl gz)), (no, .inl (cI, 12, .inl nx)), (mo, .inl (cI, 144, .inl nl)), (qa, .inr (1, [.ref qo, .ref qn, .ref qm, .int (nI C2), .int (nI R2), .int (nI F2)])), (qo, .inl (cI, 12, .inl gz)), (qn, .inl (cI, 12, .inl gx)), (qm, .inl (cI, 144, .inl nl))] := by
  refine f_ent_v (by decide) rfl (Nat.le_of_ble_eq_true rfl) ?_
  intro pg ev s m below meth cd hx hb hr hts hown hlocks hml hnm hsz hP hK hN A hD hA hS ls hl
  have hown : s.vm.findClass RX1 = some m.cls := hown
  have hl : lv_has ls 2 [(0, .ref pa), (1, .ref qa)] := hl
  refine lv_aload_n hx hb dX1_becomeLike_0 rfl (lv_at hl 1 rfl) ?_
  refine lv_ifnonnull (tgt := 5) hx hb dX1_becomeLike_1 (by decide) ?_
  refine lv_aload_n hx hb dX1_becomeLike_5 rfl (lv_at hl 0 rfl) ?_
  refine lv_aload_n hx hb dX1_becomeLike_6 rfl (lv_at hl 1 rfl) ?_
  refine va_get (D := D) (ci := 1) (v := .int (nI C2)) (C := RX1) (T := TX1) (N := 6) hx hb hts wb_X1_becomeLike_1 hown hK hP 4 rfl rfl 3 (by decide) (hts _ wi_X1_becomeLike_1) (fun _ h9 => h9) rfl dX1_becomeLike_7 ?_
  refine va_put (D := D) (ci := 1) (v := .int (nI C2)) (ty := tyX1 3) (C := RX1) (T := TX1) (N := 6) hx hb hts wb_X1_becomeLike_1 tyX1 tyX1_ok nmX1 hown hK hP hD hS 0 rfl rfl 3 (by decide) (hts _ wi_X1_becomeLike_1) (fun _ h9 => h9) rfl (tyX1_ok 3 (by decide)) rfl rfl (Nat.le_of_ble_eq_true rfl) dX1_becomeLike_10 (fun H locs hP hD hS => ?_)
  have hP : va_P D vwCl [(pa, .inr (1, [.ref fo, .ref no, .ref mo, .int (nI C2), .int (nI R), .int (nI F)])), (fo, .inl (cI, 12, .inl fz)), (no, .inl (cI, 12, .inl nx)), (mo, .inl (cI, 144, .inl ml)), (qa, .inr (1, [.ref qo, .ref qn, .ref qm, .int (nI C2), .int (nI R2), .int (nI F2)])), (qo, .inl (cI, 12, .inl gz)), (qn, .inl (cI, 12, .inl gx)), (qm, .inl (cI, 144, .inl nl))] _ := hP
  have hD : va_D A [(pa, .inr (1, [.ref fo, .ref no, .ref mo, .int (nI C2), .int (nI R), .int (nI F)])), (fo, .inl (cI, 12, .inl fz)), (no, .inl (cI, 12, .inl nx)), (mo, .inl (cI, 144, .inl ml)), (qa, .inr (1, [.ref qo, .ref qn, .ref qm, .int (nI C2), .int (nI R2), .int (nI F2)])), (qo, .inl (cI, 12, .inl gz)), (qn, .inl (cI, 12, .inl gx)), (qm, .inl (cI, 144, .inl nl))] := hD
  refine lv_aload_n hx hb dX1_becomeLike_13 rfl (lv_at hl 0 rfl) ?_
  refine lv_aload_n hx hb dX1_becomeLike_14 rfl (lv_at hl 1 rfl) ?_
  refine va_get (D := D) (ci := 1) (v := .int (nI R2)) (C := RX1) (T := TX1) (N := 6) hx hb hts wb_X1_becomeLike_1 hown hK hP 4 rfl rfl 4 (by decide) (hts _ wi_X1_becomeLike_2) (fun _ h9 => h9) rfl dX1_becomeLike_15 ?_
  refine va_put (D := D) (ci := 1) (v := .int (nI R2)) (ty := tyX1 4) (C := RX1) (T := TX1) (N := 6) hx hb hts wb_X1_becomeLike_1 tyX1 tyX1_ok nmX1 hown hK hP hD hS 0 rfl rfl 4 (by decide) (hts _ wi_X1_becomeLike_2) (fun _ h9 => h9) rfl (tyX1_ok 4 (by decide)) rfl rfl (Nat.le_of_ble_eq_true rfl) dX1_becomeLike_18 (fun H locs hP hD hS => ?_)
  have hP : va_P D vwCl [(pa, .inr (1, [.ref fo, .ref no, .ref mo, .int (nI C2), .int (nI R2), .int (nI F)])), (fo, .inl (cI, 12, .inl fz)), (no, .inl (cI, 12, .inl nx)), (mo, .inl (cI, 144, .inl ml)), (qa, .inr (1, [.ref qo, .ref qn, .ref qm, .int (nI C2), .int (nI R2), .int (nI F2)])), (qo, .inl (cI, 12, .inl gz)), (qn, .inl (cI, 12, .inl gx)), (qm, .inl (cI, 144, .inl nl))] _ := hP
  have hD : va_D A [(pa, .inr (1, [.ref fo, .ref no, .ref mo, .int (nI C2), .int (nI R2), .int (nI F)])), (fo, .inl (cI, 12, .inl fz)), (no, .inl (cI, 12, .inl nx)), (mo, .inl (cI, 144, .inl ml)), (qa, .inr (1, [.ref qo, .ref qn, .ref qm, .int (nI C2), .int (nI R2), .int (nI F2)])), (qo, .inl (cI, 12, .inl gz)), (qn, .inl (cI, 12, .inl gx)), (qm, .inl (cI, 144, .inl nl))] := hD
  refine lv_aload_n hx hb dX1_becomeLike_21 rfl (lv_at hl 0 rfl) ?_
  refine lv_aload_n hx hb dX1_becomeLike_22 rfl (lv_at hl 1 rfl) ?_
  refine va_get (D := D) (ci := 1) (v := .int (nI F2)) (C := RX1) (T := TX1) (N := 6) hx hb hts wb_X1_becomeLike_1 hown hK hP 4 rfl rfl 5 (by decide) (hts _ wi_X1_becomeLike_3) (fun _ h9 => h9) rfl dX1_becomeLike_23 ?_
  refine va_put (D := D) (ci := 1) (v := .int (nI F2)) (ty := tyX1 5) (C := RX1) (T := TX1) (N := 6) hx hb hts wb_X1_becomeLike_1 tyX1 tyX1_ok nmX1 hown hK hP hD hS 0 rfl rfl 5 (by decide) (hts _ wi_X1_becomeLike_3) (fun _ h9 => h9) rfl (tyX1_ok 5 (by decide)) rfl rfl (Nat.le_of_ble_eq_true rfl) dX1_becomeLike_26 (fun H locs hP hD hS => ?_)
  have hP : va_P D vwCl [(pa, .inr (1, [.ref fo, .ref no, .ref mo, .int (nI C2), .int (nI R2), .int (nI F2)])), (fo, .inl (cI, 12, .inl fz)), (no, .inl (cI, 12, .inl nx)), (mo, .inl (cI, 144, .inl ml)), (qa, .inr (1, [.ref qo, .ref qn, .ref qm, .int (nI C2), .int (nI R2), .int (nI F2)])), (qo, .inl (cI, 12, .inl gz)), (qn, .inl (cI, 12, .inl gx)), (qm, .inl (cI, 144, .inl nl))] _ := hP
  have hD : va_D A [(pa, .inr (1, [.ref fo, .ref no, .ref mo, .int (nI C2), .int (nI R2), .int (nI F2)])), (fo, .inl (cI, 12, .inl fz)), (no, .inl (cI, 12, .inl nx)), (mo, .inl (cI, 144, .inl ml)), (qa, .inr (1, [.ref qo, .ref qn, .ref qm, .int (nI C2), .int (nI R2), .int (nI F2)])), (qo, .inl (cI, 12, .inl gz)), (qn, .inl (cI, 12, .inl gx)), (qm, .inl (cI, 144, .inl nl))] := hD
  refine lv_aload_n hx hb dX1_becomeLike_29 rfl (lv_at hl 1 rfl) ?_
  refine va_get (D := D) (ci := 1) (v := .ref qo) (C := RX1) (T := TX1) (N := 6) hx hb hts wb_X1_becomeLike_1 hown hK hP 4 rfl rfl 0 (by decide) (hts _ wi_X1_becomeLike_4) (fun _ h9 => h9) rfl dX1_becomeLike_30 ?_
  refine lv_iconst (v := 0) hx hb dX1_becomeLike_33 (by decide) ?_
  refine lv_aload_n hx hb dX1_becomeLike_34 rfl (lv_at hl 0 rfl) ?_
  refine va_get (D := D) (ci := 1) (v := .ref fo) (C := RX1) (T := TX1) (N := 6) hx hb hts wb_X1_becomeLike_1 hown hK hP 0 rfl rfl 0 (by decide) (hts _ wi_X1_becomeLike_4) (fun _ h9 => h9) rfl dX1_becomeLike_35 ?_
  refine lv_iconst (v := 0) hx hb dX1_becomeLike_38 (by decide) ?_
  refine lv_aload_n hx hb dX1_becomeLike_39 rfl (lv_at hl 1 rfl) ?_
  refine va_get (D := D) (ci := 1) (v := .ref qo) (C := RX1) (T := TX1) (N := 6) hx hb hts wb_X1_becomeLike_1 hown hK hP 4 rfl rfl 0 (by decide) (hts _ wi_X1_becomeLike_4) (fun _ h9 => h9) rfl dX1_becomeLike_40 ?_
  refine va_alen (v := 12) hx hb hK hP 5 0 rfl rfl rfl dX1_becomeLike_43 ?_
  refine lv_aload_n hx hb dX1_becomeLike_44 rfl (lv_at hl 0 rfl) ?_
  refine va_get (D := D) (ci := 1) (v := .ref fo) (C := RX1) (T := TX1) (N := 6) hx hb hts wb_X1_becomeLike_1 hown hK hP 0 rfl rfl 0 (by decide) (hts _ wi_X1_becomeLike_4) (fun _ h9 => h9) rfl dX1_becomeLike_45 ?_
  refine va_alen (v := 12) hx hb hK hP 1 0 rfl rfl rfl dX1_becomeLike_48 ?_
  refine va_mmin hx hb (hml.trans hl.1.symm) hown (hts _ wi_X1_becomeLike_5) (hts _ wi_X1_becomeLike_6) (hts _ wi_X1_becomeLike_7) (hts _ wi_X1_becomeLike_8) (Nat.le_of_ble_eq_true rfl) (Nat.le_of_ble_eq_true rfl) (Nat.le_of_ble_eq_true rfl) (Nat.le_of_ble_eq_true rfl) dX1_becomeLike_49 ?_
  refine f_topi (y := 12) (by decide) ?_
  refine f_copyi (ns := 0) (nd := 0) (nn := 12) hx hb (hml.trans hl.1.symm) hown (hts _ wi_X1_becomeLike_9) (hts _ wi_X1_becomeLike_10) (hts _ wi_X1_becomeLike_11) (hts _ wi_X1_becomeLike_12) hK hP hD hS 5 1 rfl rfl rfl rfl rfl (by omega) (by omega) (Nat.le_of_ble_eq_true rfl) (Nat.le_of_ble_eq_true rfl) dX1_becomeLike_52 (fun H locs hP hD hS => ?_)
  have hP : va_P D vwCl [(pa, .inr (1, [.ref fo, .ref no, .ref mo, .int (nI C2), .int (nI R2), .int (nI F2)])), (fo, .inl (cI, 12, .inl (va_cpy gz fz 0 0 12))), (no, .inl (cI, 12, .inl nx)), (mo, .inl (cI, 144, .inl ml)), (qa, .inr (1, [.ref qo, .ref qn, .ref qm, .int (nI C2), .int (nI R2), .int (nI F2)])), (qo, .inl (cI, 12, .inl gz)), (qn, .inl (cI, 12, .inl gx)), (qm, .inl (cI, 144, .inl nl))] _ := hP
  have hD : va_D A [(pa, .inr (1, [.ref fo, .ref no, .ref mo, .int (nI C2), .int (nI R2), .int (nI F2)])), (fo, .inl (cI, 12, .inl (va_cpy gz fz 0 0 12))), (no, .inl (cI, 12, .inl nx)), (mo, .inl (cI, 144, .inl ml)), (qa, .inr (1, [.ref qo, .ref qn, .ref qm, .int (nI C2), .int (nI R2), .int (nI F2)])), (qo, .inl (cI, 12, .inl gz)), (qn, .inl (cI, 12, .inl gx)), (qm, .inl (cI, 144, .inl nl))] := hD
  refine lv_aload_n hx hb dX1_becomeLike_55 rfl (lv_at hl 1 rfl) ?_
  refine va_get (D := D) (ci := 1) (v := .ref qm) (C := RX1) (T := TX1) (N := 6) hx hb hts wb_X1_becomeLike_1 hown hK hP 4 rfl rfl 2 (by decide) (hts _ wi_X1_becomeLike_13) (fun _ h9 => h9) rfl dX1_becomeLike_56 ?_
  refine lv_iconst (v := 0) hx hb dX1_becomeLike_59 (by decide) ?_
  refine lv_aload_n hx hb dX1_becomeLike_60 rfl (lv_at hl 0 rfl) ?_
  refine va_get (D := D) (ci := 1) (v := .ref mo) (C := RX1) (T := TX1) (N := 6) hx hb hts wb_X1_becomeLike_1 hown hK hP 0 rfl rfl 2 (by decide) (hts _ wi_X1_becomeLike_13) (fun _ h9 => h9) rfl dX1_becomeLike_61 ?_
  refine lv_iconst (v := 0) hx hb dX1_becomeLike_64 (by decide) ?_
  refine lv_aload_n hx hb dX1_becomeLike_65 rfl (lv_at hl 1 rfl) ?_
  refine va_get (D := D) (ci := 1) (v := .ref qm) (C := RX1) (T := TX1) (N := 6) hx hb hts wb_X1_becomeLike_1 hown hK hP 4 rfl rfl 2 (by decide) (hts _ wi_X1_becomeLike_13) (fun _ h9 => h9) rfl dX1_becomeLike_66 ?_
  refine va_alen (v := 144) hx hb hK hP 7 0 rfl rfl rfl dX1_becomeLike_69 ?_
  refine lv_aload_n hx hb dX1_becomeLike_70 rfl (lv_at hl 0 rfl) ?_
  refine va_get (D := D) (ci := 1) (v := .ref mo) (C := RX1) (T := TX1) (N := 6) hx hb hts wb_X1_becomeLike_1 hown hK hP 0 rfl rfl 2 (by decide) (hts _ wi_X1_becomeLike_13) (fun _ h9 => h9) rfl dX1_becomeLike_71 ?_
  refine va_alen (v := 144) hx hb hK hP 3 0 rfl rfl rfl dX1_becomeLike_74 ?_
  refine va_mmin hx hb (hml.trans hl.1.symm) hown (hts _ wi_X1_becomeLike_5) (hts _ wi_X1_becomeLike_6) (hts _ wi_X1_becomeLike_7) (hts _ wi_X1_becomeLike_8) (Nat.le_of_ble_eq_true rfl) (Nat.le_of_ble_eq_true rfl) (Nat.le_of_ble_eq_true rfl) (Nat.le_of_ble_eq_true rfl) dX1_becomeLike_75 ?_
  refine f_topi (y := 144) (by decide) ?_
  refine f_copyi (ns := 0) (nd := 0) (nn := 144) hx hb (hml.trans hl.1.symm) hown (hts _ wi_X1_becomeLike_9) (hts _ wi_X1_becomeLike_10) (hts _ wi_X1_becomeLike_11) (hts _ wi_X1_becomeLike_12) hK hP hD hS 7 3 rfl rfl rfl rfl rfl (by omega) (by omega) (Nat.le_of_ble_eq_true rfl) (Nat.le_of_ble_eq_true rfl) dX1_becomeLike_78 (fun H locs hP hD hS => ?_)
  have hP : va_P D vwCl [(pa, .inr (1, [.ref fo, .ref no, .ref mo, .int (nI C2), .int (nI R2), .int (nI F2)])), (fo, .inl (cI, 12, .inl (va_cpy gz fz 0 0 12))), (no, .inl (cI, 12, .inl nx)), (mo, .inl (cI, 144, .inl (va_cpy nl ml 0 0 144))), (qa, .inr (1, [.ref qo, .ref qn, .ref qm, .int (nI C2), .int (nI R2), .int (nI F2)])), (qo, .inl (cI, 12, .inl gz)), (qn, .inl (cI, 12, .inl gx)), (qm, .inl (cI, 144, .inl nl))] _ := hP
  have hD : va_D A [(pa, .inr (1, [.ref fo, .ref no, .ref mo, .int (nI C2), .int (nI R2), .int (nI F2)])), (fo, .inl (cI, 12, .inl (va_cpy gz fz 0 0 12))), (no, .inl (cI, 12, .inl nx)), (mo, .inl (cI, 144, .inl (va_cpy nl ml 0 0 144))), (qa, .inr (1, [.ref qo, .ref qn, .ref qm, .int (nI C2), .int (nI R2), .int (nI F2)])), (qo, .inl (cI, 12, .inl gz)), (qn, .inl (cI, 12, .inl gx)), (qm, .inl (cI, 144, .inl nl))] := hD
  obtain ⟨hP, hD⟩ := f_rep (g := gz) hP hD 1 rfl (fun j hj => sb_cpy0 hj)
  have hP : va_P D vwCl [(pa, .inr (1, [.ref fo, .ref no, .ref mo, .int (nI C2), .int (nI R2), .int (nI F2)])), (fo, .inl (cI, 12, .inl gz)), (no, .inl (cI, 12, .inl nx)), (mo, .inl (cI, 144, .inl (va_cpy nl ml 0 0 144))), (qa, .inr (1, [.ref qo, .ref qn, .ref qm, .int (nI C2), .int (nI R2), .int (nI F2)])), (qo, .inl (cI, 12, .inl gz)), (qn, .inl (cI, 12, .inl gx)), (qm, .inl (cI, 144, .inl nl))] _ := hP
  have hD : va_D A [(pa, .inr (1, [.ref fo, .ref no, .ref mo, .int (nI C2), .int (nI R2), .int (nI F2)])), (fo, .inl (cI, 12, .inl gz)), (no, .inl (cI, 12, .inl nx)), (mo, .inl (cI, 144, .inl (va_cpy nl ml 0 0 144))), (qa, .inr (1, [.ref qo, .ref qn, .ref qm, .int (nI C2), .int (nI R2), .int (nI F2)])), (qo, .inl (cI, 12, .inl gz)), (qn, .inl (cI, 12, .inl gx)), (qm, .inl (cI, 144, .inl nl))] := hD
  obtain ⟨hP, hD⟩ := f_rep (g := nl) hP hD 3 rfl (fun j hj => sb_cpy0 hj)
  have hP : va_P D vwCl [(pa, .inr (1, [.ref fo, .ref no, .ref mo, .int (nI C2), .int (nI R2), .int (nI F2)])), (fo, .inl (cI, 12, .inl gz)), (no, .inl (cI, 12, .inl nx)), (mo, .inl (cI, 144, .inl nl)), (qa, .inr (1, [.ref qo, .ref qn, .ref qm, .int (nI C2), .int (nI R2), .int (nI F2)])), (qo, .inl (cI, 12, .inl gz)), (qn, .inl (cI, 12, .inl gx)), (qm, .inl (cI, 144, .inl nl))] _ := hP
  have hD : va_D A [(pa, .inr (1, [.ref fo, .ref no, .ref mo, .int (nI C2), .int (nI R2), .int (nI F2)])), (fo, .inl (cI, 12, .inl gz)), (no, .inl (cI, 12, .inl nx)), (mo, .inl (cI, 144, .inl nl)), (qa, .inr (1, [.ref qo, .ref qn, .ref qm, .int (nI C2), .int (nI R2), .int (nI F2)])), (qo, .inl (cI, 12, .inl gz)), (qn, .inl (cI, 12, .inl gx)), (qm, .inl (cI, 144, .inl nl))] := hD
  exact f_ret_v hx hb hr hlocks hP hD hS dX1_becomeLike_81

/-- Pane.isLike -/
def lkR (C : Nat) (fz ml gz nl : Nat → Int32) (r : Nat) : Prop := sp_X1_bitsOf fz (nI r) = sp_X1_bitsOf gz (nI r) ∧ ∀ c, c < C → sp_X1_meltOf ml (nI c) (nI r) = sp_X1_meltOf nl (nI c) (nI r)
noncomputable def lk (C R : Nat) (fz ml gz nl : Nat → Int32) : Bool := @decide (∀ r, r < R → lkR C fz ml gz nl r) (Classical.propDecidable _)
theorem lk_t {C R : Nat} {fz ml gz nl : Nat → Int32} (h : ∀ r, r < R → lkR C fz ml gz nl r) : (1 : Int32) = zb (lk C R fz ml gz nl) := by
  unfold lk; rw [@decide_eq_true _ (Classical.propDecidable _) h]; rfl
theorem lk_f {C R : Nat} {fz ml gz nl : Nat → Int32} (h : ¬ ∀ r, r < R → lkR C fz ml gz nl r) : (0 : Int32) = zb (lk C R fz ml gz nl) := by
  unfold lk; rw [@decide_eq_false _ (Classical.propDecidable _) h]; rfl
theorem k_X1_isLike : yX1_isLike.cls = RX1 ∧ yX1_isLike.cls ≠ "java/lang/invoke/MethodHandle" ∧ yX1_isLike.cls ≠ "java/lang/invoke/VarHandle" ∧ (parseMethodDescriptor yX1_isLike.desc).map (fun d => d.parameters.length) = some 1 := by decide +kernel
theorem wb_X1_isLike_1 : ∀ w ∈ wsX10, w ∈ wsX1_isLike := (fun _ h => List.mem_cons_of_mem _ (List.mem_append_right _ h))
theorem wi_X1_isLike_1 : (Cond.fieldLink RX1 25 "FrostPane$Pane" "rows" "I") ∈ wsX1_isLike := List.mem_of_getElem? (i := 1) rfl
theorem wi_X1_isLike_2 : (Cond.fieldLink RX1 21 "FrostPane$Pane" "columns" "I") ∈ wsX1_isLike := List.mem_of_getElem? (i := 2) rfl
set_option maxHeartbeats 4000000 in
set_option maxRecDepth 100000 in
theorem c_X1_isLike (l : Launch) (D : va_G) (cI cZ cP cQ : ClassId) (sz : Nat) (pa fo no mo C R F : Nat) (fz nx ml : Nat → Int32) (qa qo qn qm C2 R2 F2 : Nat) (gz gx nl : Nat → Int32) (hC : C ≤ 12) (hR : R ≤ 12) : f_Mi l yX1_isLike wsX1_isLike ({ frames := 1, cells := 0, slots := 0, locals := 23 }) D (fTY cI cZ cP cQ) [.ref pa, .ref qa] sz [(pa, .inr (1, [.ref fo, .ref no, .ref mo, .int (nI C), .int (nI R), .int (nI F)])), (fo, .inl (cI, 12, .inl fz)), (no, .inl (cI, 12, .inl nx)), (mo, .inl (cI, 144, .inl ml)), (qa, .inr (1, [.ref qo, .ref qn, .ref qm, .int (nI C2), .int (nI R2), .int (nI F2)])), (qo, .inl (cI, 12, .inl gz)), (qn, .inl (cI, 12, .inl gx)), (qm, .inl (cI, 144, .inl nl))] (zb (lk C R fz ml gz nl)) [(pa, .inr (1, [.ref fo, .ref no, .ref mo, .int (nI C), .int (nI R), .int (nI F)])), (fo, .inl (cI, 12, .inl fz)), (no, .inl (cI, 12, .inl nx)), (mo, .inl (cI, 144, .inl ml)), (qa, .inr (1, [.ref qo, .ref qn, .ref qm, .int (nI C2), .int (nI R2), .int (nI F2)])), (qo, .inl (cI, 12, .inl gz)), (qn, .inl (cI, 12, .inl gx)), (qm, .inl (cI, 144, .inl nl))] := by
  refine f_ent_i (by decide) rfl (Nat.le_of_ble_eq_true rfl) ?_
  intro pg ev s m below meth cd hx hb hr hts hown hlocks hml hnm hsz hP hK hN A hD hA hS ls hl
  have hown : s.vm.findClass RX1 = some m.cls := hown
  have hl : lv_has ls 4 [(0, .ref pa), (1, .ref qa)] := hl
  refine lv_aload_n hx hb dX1_isLike_0 rfl (lv_at hl 1 rfl) ?_
  refine lv_ifnonnull (tgt := 6) hx hb dX1_isLike_1 (by decide) ?_
  refine lv_iconst (v := 0) hx hb dX1_isLike_6 (by decide) ?_
  refine lv_istore_n (lv' := [(2, .int 0), (0, .ref pa), (1, .ref qa)]) hx hb dX1_isLike_7 rfl hl (by decide) rfl (fun ls hl => ?_)
  refine f_loopW (σ := Nat) (D := D) (A := A) (H0 := s.heap) 4 8 (fun u9 => [(2, .int (nI u9)), (0, .ref pa), (1, .ref qa)]) (fun u9 => [(pa, .inr (1, [.ref fo, .ref no, .ref mo, .int (nI C), .int (nI R), .int (nI F)])), (fo, .inl (cI, 12, .inl fz)), (no, .inl (cI, 12, .inl nx)), (mo, .inl (cI, 144, .inl ml)), (qa, .inr (1, [.ref qo, .ref qn, .ref qm, .int (nI C2), .int (nI R2), .int (nI F2)])), (qo, .inl (cI, 12, .inl gz)), (qn, .inl (cI, 12, .inl gx)), (qm, .inl (cI, 144, .inl nl))]) (fun u9 => u9 ≤ R ∧ ∀ r, r < u9 → lkR C fz ml gz nl r) (fun u9 => R - u9)
      (fun u9 hi_2 ih_1 H locs hP hD hS ls hl => ?_) 0 (⟨Nat.zero_le _, fun r h => absurd h (Nat.not_lt_zero _)⟩) hP hD hS (lv_sub hl [0, 1, 2] rfl)
  obtain ⟨k, rfl⟩ : ∃ z, z = u9 := ⟨_, rfl⟩
  have hi_2 : k ≤ R ∧ ∀ r, r < k → lkR C fz ml gz nl r := hi_2
  obtain ⟨hk, hq⟩ := hi_2
  have hl : lv_has ls 4 [(2, .int (nI k)), (0, .ref pa), (1, .ref qa)] := hl
  have hP : va_P D vwCl [(pa, .inr (1, [.ref fo, .ref no, .ref mo, .int (nI C), .int (nI R), .int (nI F)])), (fo, .inl (cI, 12, .inl fz)), (no, .inl (cI, 12, .inl nx)), (mo, .inl (cI, 144, .inl ml)), (qa, .inr (1, [.ref qo, .ref qn, .ref qm, .int (nI C2), .int (nI R2), .int (nI F2)])), (qo, .inl (cI, 12, .inl gz)), (qn, .inl (cI, 12, .inl gx)), (qm, .inl (cI, 144, .inl nl))] _ := hP
  have hD : va_D A [(pa, .inr (1, [.ref fo, .ref no, .ref mo, .int (nI C), .int (nI R), .int (nI F)])), (fo, .inl (cI, 12, .inl fz)), (no, .inl (cI, 12, .inl nx)), (mo, .inl (cI, 144, .inl ml)), (qa, .inr (1, [.ref qo, .ref qn, .ref qm, .int (nI C2), .int (nI R2), .int (nI F2)])), (qo, .inl (cI, 12, .inl gz)), (qn, .inl (cI, 12, .inl gx)), (qm, .inl (cI, 144, .inl nl))] := hD
  refine lv_iload_n hx hb dX1_isLike_8 rfl (lv_at hl 0 rfl) ?_
  refine lv_aload_n hx hb dX1_isLike_9 rfl (lv_at hl 1 rfl) ?_
  refine va_get (D := D) (ci := 1) (v := .int (nI R)) (C := RX1) (T := TX1) (N := 6) hx hb hts wb_X1_isLike_1 hown hK hP 0 rfl rfl 4 (by decide) (hts _ wi_X1_isLike_1) (fun _ h9 => h9) rfl dX1_isLike_10 ?_
  refine lv_icmp_ge (tgt := 70) hx hb dX1_isLike_13 (by decide) (fun c_3 => ?_) (fun c_3 => ?_)
  · have n_3 : R ≤ k := (nI_leI (a := R) (b := k) (by omega) (by omega)).mp c_3
    refine lv_iconst (v := 1) hx hb dX1_isLike_70 (by decide) ?_
    exact f_ret_z hx hb hr hlocks hP hD hS dX1_isLike_71 (lk_t (fun r hr => hq r (by omega))) (zb_nar _)
  · have n_3 : k < R := Nat.lt_of_not_le (fun h => c_3 ((nI_leI (a := R) (b := k) (by omega) (by omega)).mpr h))
    refine lv_aload_n hx hb dX1_isLike_16 rfl (lv_at hl 1 rfl) ?_
    refine lv_iload_n hx hb dX1_isLike_17 rfl (lv_at hl 0 rfl) ?_
    refine f_callVi ⟨hx, hb, hml, hown, hts⟩ hP hD hS hA hK hN [0, 1, 2, 3] (w2 := [(pa, .inr (1, [.ref fo, .ref no, .ref mo, .int (nI C), .int (nI R), .int (nI F)])), (fo, .inl (cI, 12, .inl fz)), (no, .inl (cI, 12, .inl nx)), (mo, .inl (cI, 144, .inl ml)), (qa, .inr (1, [.ref qo, .ref qn, .ref qm, .int (nI C2), .int (nI R2), .int (nI F2)])), (qo, .inl (cI, 12, .inl gz)), (qn, .inl (cI, 12, .inl gx)), (qm, .inl (cI, 144, .inl nl))])
        (c_X1_bitsOf (l := l) (D := D) (cI := cI) (cZ := cZ) (cP := cP) (cQ := cQ) (sz := _) (pa := pa) (fo := fo) (no := no) (mo := mo) (C := C) (R := R) (F := F) (fz := fz) (nx := nx) (ml := ml) (row := nI k) ) (cwV 1 hts gX1_isLike_X1_bitsOf rfl rfl rfl k_X1_bitsOf ⟨Nat.le_of_ble_eq_true rfl, Nat.le_of_ble_eq_true rfl⟩) 0 rfl rfl rfl rfl [pa, fo, no, mo] rfl rfl rfl rfl rfl hl.1 (Nat.le_of_ble_eq_true rfl) dX1_isLike_18 ⟨Nat.le_of_ble_eq_true rfl, Nat.le_of_ble_eq_true rfl⟩ (fun H locs hP hD hS => ?_)
    refine lv_aload_n hx hb dX1_isLike_21 rfl (lv_at hl 2 rfl) ?_
    refine lv_iload_n hx hb dX1_isLike_22 rfl (lv_at hl 0 rfl) ?_
    refine f_callVi ⟨hx, hb, hml, hown, hts⟩ hP hD hS hA hK hN [4, 5, 6, 7] (w2 := [(pa, .inr (1, [.ref fo, .ref no, .ref mo, .int (nI C), .int (nI R), .int (nI F)])), (fo, .inl (cI, 12, .inl fz)), (no, .inl (cI, 12, .inl nx)), (mo, .inl (cI, 144, .inl ml)), (qa, .inr (1, [.ref qo, .ref qn, .ref qm, .int (nI C2), .int (nI R2), .int (nI F2)])), (qo, .inl (cI, 12, .inl gz)), (qn, .inl (cI, 12, .inl gx)), (qm, .inl (cI, 144, .inl nl))])
        (c_X1_bitsOf (l := l) (D := D) (cI := cI) (cZ := cZ) (cP := cP) (cQ := cQ) (sz := _) (pa := qa) (fo := qo) (no := qn) (mo := qm) (C := C2) (R := R2) (F := F2) (fz := gz) (nx := gx) (ml := nl) (row := nI k) ) (cwV 1 hts gX1_isLike_X1_bitsOf rfl rfl rfl k_X1_bitsOf ⟨Nat.le_of_ble_eq_true rfl, Nat.le_of_ble_eq_true rfl⟩) 4 rfl rfl rfl rfl [qa, qo, qn, qm] rfl rfl rfl rfl rfl hl.1 (Nat.le_of_ble_eq_true rfl) dX1_isLike_23 ⟨Nat.le_of_ble_eq_true rfl, Nat.le_of_ble_eq_true rfl⟩ (fun H locs hP hD hS => ?_)
    refine lv_icmp_eq (tgt := 31) hx hb dX1_isLike_26 (by decide) (fun c_4 => ?_) (fun c_4 => ?_)
    · have hbits := c_4
      refine lv_iconst (v := 0) hx hb dX1_isLike_31 (by decide) ?_
      refine lv_istore_n (lv' := [(3, .int 0), (2, .int (nI k)), (0, .ref pa), (1, .ref qa)]) hx hb dX1_isLike_32 rfl hl (by decide) rfl (fun ls hl => ?_)
      refine f_loopW (σ := Nat) (D := D) (A := A) (H0 := s.heap) 4 33 (fun u9 => [(3, .int (nI u9)), (2, .int (nI k)), (0, .ref pa), (1, .ref qa)]) (fun u9 => [(pa, .inr (1, [.ref fo, .ref no, .ref mo, .int (nI C), .int (nI R), .int (nI F)])), (fo, .inl (cI, 12, .inl fz)), (no, .inl (cI, 12, .inl nx)), (mo, .inl (cI, 144, .inl ml)), (qa, .inr (1, [.ref qo, .ref qn, .ref qm, .int (nI C2), .int (nI R2), .int (nI F2)])), (qo, .inl (cI, 12, .inl gz)), (qn, .inl (cI, 12, .inl gx)), (qm, .inl (cI, 144, .inl nl))]) (fun u9 => u9 ≤ C ∧ ∀ c, c < u9 → sp_X1_meltOf ml (nI c) (nI k) = sp_X1_meltOf nl (nI c) (nI k)) (fun u9 => C - u9)
          (fun u9 hi_6 ih_5 H locs hP hD hS ls hl => ?_) 0 (⟨Nat.zero_le _, fun r h => absurd h (Nat.not_lt_zero _)⟩) hP hD hS (lv_sub hl [0, 1, 2, 3] rfl)
      obtain ⟨q, rfl⟩ : ∃ z, z = u9 := ⟨_, rfl⟩
      have hi_6 : q ≤ C ∧ ∀ c, c < q → sp_X1_meltOf ml (nI c) (nI k) = sp_X1_meltOf nl (nI c) (nI k) := hi_6
      obtain ⟨hq0, hw⟩ := hi_6
      have hl : lv_has ls 4 [(3, .int (nI q)), (2, .int (nI k)), (0, .ref pa), (1, .ref qa)] := hl
      have hP : va_P D vwCl [(pa, .inr (1, [.ref fo, .ref no, .ref mo, .int (nI C), .int (nI R), .int (nI F)])), (fo, .inl (cI, 12, .inl fz)), (no, .inl (cI, 12, .inl nx)), (mo, .inl (cI, 144, .inl ml)), (qa, .inr (1, [.ref qo, .ref qn, .ref qm, .int (nI C2), .int (nI R2), .int (nI F2)])), (qo, .inl (cI, 12, .inl gz)), (qn, .inl (cI, 12, .inl gx)), (qm, .inl (cI, 144, .inl nl))] _ := hP
      have hD : va_D A [(pa, .inr (1, [.ref fo, .ref no, .ref mo, .int (nI C), .int (nI R), .int (nI F)])), (fo, .inl (cI, 12, .inl fz)), (no, .inl (cI, 12, .inl nx)), (mo, .inl (cI, 144, .inl ml)), (qa, .inr (1, [.ref qo, .ref qn, .ref qm, .int (nI C2), .int (nI R2), .int (nI F2)])), (qo, .inl (cI, 12, .inl gz)), (qn, .inl (cI, 12, .inl gx)), (qm, .inl (cI, 144, .inl nl))] := hD
      refine lv_iload_n hx hb dX1_isLike_33 rfl (lv_at hl 0 rfl) ?_
      refine lv_aload_n hx hb dX1_isLike_34 rfl (lv_at hl 2 rfl) ?_
      refine va_get (D := D) (ci := 1) (v := .int (nI C)) (C := RX1) (T := TX1) (N := 6) hx hb hts wb_X1_isLike_1 hown hK hP 0 rfl rfl 3 (by decide) (hts _ wi_X1_isLike_2) (fun _ h9 => h9) rfl dX1_isLike_35 ?_
      refine lv_icmp_ge (tgt := 64) hx hb dX1_isLike_38 (by decide) (fun c_7 => ?_) (fun c_7 => ?_)
      · have n_7 : C ≤ q := (nI_leI (a := C) (b := q) (by omega) (by omega)).mp c_7
        refine lv_iinc (v := nI (k + 1)) (lv' := [(2, .int (nI (k + 1))), (3, .int (nI q)), (0, .ref pa), (1, .ref qa)]) hx hb dX1_isLike_64 hl (k := 1) rfl (nI_1 _) (by decide) rfl (fun ls hl => ?_)
        refine lv_goto (tgt := 8) hx hb dX1_isLike_67 (by decide) ?_
        exact ih_1 (k + 1) (⟨by omega, lt_s (p := fun r => lkR C fz ml gz nl r) hq ⟨hbits, fun c hc => hw c (by omega)⟩⟩) (by first | omega | (simp only []; omega) | (show _ < _; simp only []; omega)) H locs hP hD hS ls (lv_sub hl [0, 2, 3] rfl)
      · have n_7 : q < C := Nat.lt_of_not_le (fun h => c_7 ((nI_leI (a := C) (b := q) (by omega) (by omega)).mpr h))
        refine lv_aload_n hx hb dX1_isLike_41 rfl (lv_at hl 2 rfl) ?_
        refine lv_iload_n hx hb dX1_isLike_42 rfl (lv_at hl 0 rfl) ?_
        refine lv_iload_n hx hb dX1_isLike_43 rfl (lv_at hl 1 rfl) ?_
        refine f_callVi ⟨hx, hb, hml, hown, hts⟩ hP hD hS hA hK hN [0, 1, 2, 3] (w2 := [(pa, .inr (1, [.ref fo, .ref no, .ref mo, .int (nI C), .int (nI R), .int (nI F)])), (fo, .inl (cI, 12, .inl fz)), (no, .inl (cI, 12, .inl nx)), (mo, .inl (cI, 144, .inl ml)), (qa, .inr (1, [.ref qo, .ref qn, .ref qm, .int (nI C2), .int (nI R2), .int (nI F2)])), (qo, .inl (cI, 12, .inl gz)), (qn, .inl (cI, 12, .inl gx)), (qm, .inl (cI, 144, .inl nl))])
            (c_X1_meltOf (l := l) (D := D) (cI := cI) (cZ := cZ) (cP := cP) (cQ := cQ) (sz := _) (pa := pa) (fo := fo) (no := no) (mo := mo) (C := C) (R := R) (F := F) (fz := fz) (nx := nx) (ml := ml) (col := nI q) (row := nI k) ) (cwV 2 hts gX1_isLike_X1_meltOf rfl rfl rfl k_X1_meltOf ⟨Nat.le_of_ble_eq_true rfl, Nat.le_of_ble_eq_true rfl⟩) 0 rfl rfl rfl rfl [pa, fo, no, mo] rfl rfl rfl rfl rfl hl.1 (Nat.le_of_ble_eq_true rfl) dX1_isLike_44 ⟨Nat.le_of_ble_eq_true rfl, Nat.le_of_ble_eq_true rfl⟩ (fun H locs hP hD hS => ?_)
        refine lv_aload_n hx hb dX1_isLike_47 rfl (lv_at hl 3 rfl) ?_
        refine lv_iload_n hx hb dX1_isLike_48 rfl (lv_at hl 0 rfl) ?_
        refine lv_iload_n hx hb dX1_isLike_49 rfl (lv_at hl 1 rfl) ?_
        refine f_callVi ⟨hx, hb, hml, hown, hts⟩ hP hD hS hA hK hN [4, 5, 6, 7] (w2 := [(pa, .inr (1, [.ref fo, .ref no, .ref mo, .int (nI C), .int (nI R), .int (nI F)])), (fo, .inl (cI, 12, .inl fz)), (no, .inl (cI, 12, .inl nx)), (mo, .inl (cI, 144, .inl ml)), (qa, .inr (1, [.ref qo, .ref qn, .ref qm, .int (nI C2), .int (nI R2), .int (nI F2)])), (qo, .inl (cI, 12, .inl gz)), (qn, .inl (cI, 12, .inl gx)), (qm, .inl (cI, 144, .inl nl))])
            (c_X1_meltOf (l := l) (D := D) (cI := cI) (cZ := cZ) (cP := cP) (cQ := cQ) (sz := _) (pa := qa) (fo := qo) (no := qn) (mo := qm) (C := C2) (R := R2) (F := F2) (fz := gz) (nx := gx) (ml := nl) (col := nI q) (row := nI k) ) (cwV 2 hts gX1_isLike_X1_meltOf rfl rfl rfl k_X1_meltOf ⟨Nat.le_of_ble_eq_true rfl, Nat.le_of_ble_eq_true rfl⟩) 4 rfl rfl rfl rfl [qa, qo, qn, qm] rfl rfl rfl rfl rfl hl.1 (Nat.le_of_ble_eq_true rfl) dX1_isLike_50 ⟨Nat.le_of_ble_eq_true rfl, Nat.le_of_ble_eq_true rfl⟩ (fun H locs hP hD hS => ?_)
        refine lv_icmp_eq (tgt := 58) hx hb dX1_isLike_53 (by decide) (fun c_8 => ?_) (fun c_8 => ?_)
        · have hmelt := c_8
          refine lv_iinc (v := nI (q + 1)) (lv' := [(3, .int (nI (q + 1))), (2, .int (nI k)), (0, .ref pa), (1, .ref qa)]) hx hb dX1_isLike_58 hl (k := 0) rfl (nI_1 _) (by decide) rfl (fun ls hl => ?_)
          refine lv_goto (tgt := 33) hx hb dX1_isLike_61 (by decide) ?_
          exact ih_5 (q + 1) (⟨by omega, lt_s (p := fun c => sp_X1_meltOf ml (nI c) (nI k) = sp_X1_meltOf nl (nI c) (nI k)) hw hmelt⟩) (by first | omega | (simp only []; omega) | (show _ < _; simp only []; omega)) H locs hP hD hS ls (lv_sub hl [0, 1, 2, 3] rfl)
        · refine lv_iconst (v := 0) hx hb dX1_isLike_56 (by decide) ?_
          exact f_ret_z hx hb hr hlocks hP hD hS dX1_isLike_57 (lk_f (fun h => c_8 ((h k (by omega)).2 q (by omega)))) (zb_nar _)
    · refine lv_iconst (v := 0) hx hb dX1_isLike_29 (by decide) ?_
      exact f_ret_z hx hb hr hlocks hP hD hS dX1_isLike_30 (lk_f (fun h => c_4 (h k (by omega)).1)) (zb_nar _)

end CP
