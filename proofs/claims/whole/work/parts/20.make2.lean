section C_specs_make
theorem k_X2_init : yX2_init.cls = RX2 ∧ yX2_init.cls ≠ "java/lang/invoke/MethodHandle" ∧ yX2_init.cls ≠ "java/lang/invoke/VarHandle" ∧ (parseMethodDescriptor yX2_init.desc).map (fun d => d.parameters.length) = some 0 := by decide +kernel
theorem wi_X2_init_1 : (Cond.methodLink RX2 3 objectInit) ∈ wsX2_init := List.mem_of_getElem? (i := 1) rfl
theorem wi_X2_init_2 : (Cond.instanceMethod objectInit) ∈ wsX2_init := List.mem_of_getElem? (i := 2) rfl
theorem wi_X2_init_3 : (Cond.code objectInit ⟨#[0xb1]⟩ 1 none) ∈ wsX2_init := List.mem_of_getElem? (i := 3) rfl
theorem wi_X2_init_4 : (Cond.arrayClass .int) ∈ wsX2_init := List.mem_of_getElem? (i := 4) rfl
theorem wi_X2_init_5 : (Cond.fieldLink RX2 9 "FrostPane$RuleBook" "freezes" "[I") ∈ wsX2_init := List.mem_of_getElem? (i := 5) rfl
theorem wb_X2_init_2 : ∀ w ∈ wsX20, w ∈ wsX2_init := (fun _ h => List.mem_cons_of_mem _ (List.mem_append_right _ h))
theorem wi_X2_init_6 : (Cond.fieldLink RX2 15 "FrostPane$RuleBook" "stays" "[I") ∈ wsX2_init := List.mem_of_getElem? (i := 6) rfl
set_option maxHeartbeats 4000000 in
set_option maxRecDepth 100000 in
theorem c_X2_init (l : Launch) (D : va_G) (cI cZ cJ : ClassId) (sz : Nat) (bk : Nat)  : f_Mc l yX2_init wsX2_init ({ frames := 1, cells := 2, slots := 12, locals := 12 }) D (fTY cI cZ cJ) [.ref bk] sz [(bk, .inr (2, [.null, .null, .int 0]))] (fun u9 : Nat × Nat => [(bk, .inr (2, [.ref (u9.1), .ref (u9.2), .int 0])), (u9.1, .inl (cI, 6, .inl (fun _ => 0))), (u9.2, .inl (cI, 6, .inl (fun _ => 0)))]) 2 12 := by
  refine f_ent_c (by decide) rfl (Nat.le_of_ble_eq_true rfl) ?_
  intro pg ev s m below meth cd hx hb hr hts hown hlocks hml hnm hsz hP hK hN A hD hA hS ls hl
  have hown : s.vm.findClass RX2 = some m.cls := hown
  have hl : lv_has ls 1 [(0, .ref bk)] := hl
  have hin : meth.name = "<init>" := hnm
  refine lv_aload_n hx hb dX2_init_0 rfl (lv_at hl 0 rfl) ?_
  refine W.objInit hx hb hown (hts _ wi_X2_init_1) (hts _ wi_X2_init_2) (hts _ wi_X2_init_3) rfl (by rw [hml]; exact hl.1) rfl dX2_init_1 (Nat.le_of_ble_eq_true rfl) (Nat.le_of_ble_eq_true rfl) ?_
  refine W.eq (g2 := F0 m 4 ls []) rfl ?_
  refine lv_aload_n hx hb dX2_init_4 rfl (lv_at hl 0 rfl) ?_
  refine lv_bipush (v := 6) hx hb dX2_init_5 (by decide) ?_
  refine f_newi (n := 6) (N' := 6) hx hb (hts _ wi_X2_init_4) hK hP hD hS hA (by decide) (by decide) (by decide) (Nat.le_of_ble_eq_true rfl) (Nat.le_of_ble_eq_true rfl) dX2_init_7 (fun na_1 H hP hD hS => ?_)
  have hP : va_P D vwCl [(bk, .inr (2, [.null, .null, .int 0])), (na_1, .inl (cI, 6, .inl (fun _ => 0)))] _ := hP
  have hD : va_D A [(bk, .inr (2, [.null, .null, .int 0])), (na_1, .inl (cI, 6, .inl (fun _ => 0)))] := hD
  refine va_putF (D := D) (ci := 2) (v := .ref na_1) (ty := tyX2 0) (C := RX2) (T := TX2) (N := 3) hx hb hts wb_X2_init_2 tyX2 tyX2_ok nmX2 hown hK hP hD hS 0 rfl rfl 0 (by decide) (hts _ wi_X2_init_5) (fun _ h9 => h9) rfl hin rfl (tyX2_ok 0 (by decide)) rfl rfl (Nat.le_of_ble_eq_true rfl) dX2_init_9 (fun H locs hP hD hS => ?_)
  have hP : va_P D vwCl [(bk, .inr (2, [.ref na_1, .null, .int 0])), (na_1, .inl (cI, 6, .inl (fun _ => 0)))] _ := hP
  have hD : va_D A [(bk, .inr (2, [.ref na_1, .null, .int 0])), (na_1, .inl (cI, 6, .inl (fun _ => 0)))] := hD
  refine lv_aload_n hx hb dX2_init_12 rfl (lv_at hl 0 rfl) ?_
  refine lv_bipush (v := 6) hx hb dX2_init_13 (by decide) ?_
  refine f_newi (n := 6) (N' := 6) hx hb (hts _ wi_X2_init_4) hK hP hD hS hA (by decide) (by decide) (by decide) (Nat.le_of_ble_eq_true rfl) (Nat.le_of_ble_eq_true rfl) dX2_init_15 (fun na_2 H hP hD hS => ?_)
  have hP : va_P D vwCl [(bk, .inr (2, [.ref na_1, .null, .int 0])), (na_1, .inl (cI, 6, .inl (fun _ => 0))), (na_2, .inl (cI, 6, .inl (fun _ => 0)))] _ := hP
  have hD : va_D A [(bk, .inr (2, [.ref na_1, .null, .int 0])), (na_1, .inl (cI, 6, .inl (fun _ => 0))), (na_2, .inl (cI, 6, .inl (fun _ => 0)))] := hD
  refine va_putF (D := D) (ci := 2) (v := .ref na_2) (ty := tyX2 1) (C := RX2) (T := TX2) (N := 3) hx hb hts wb_X2_init_2 tyX2 tyX2_ok nmX2 hown hK hP hD hS 0 rfl rfl 1 (by decide) (hts _ wi_X2_init_6) (fun _ h9 => h9) rfl hin rfl (tyX2_ok 1 (by decide)) rfl rfl (Nat.le_of_ble_eq_true rfl) dX2_init_17 (fun H locs hP hD hS => ?_)
  have hP : va_P D vwCl [(bk, .inr (2, [.ref na_1, .ref na_2, .int 0])), (na_1, .inl (cI, 6, .inl (fun _ => 0))), (na_2, .inl (cI, 6, .inl (fun _ => 0)))] _ := hP
  have hD : va_D A [(bk, .inr (2, [.ref na_1, .ref na_2, .int 0])), (na_1, .inl (cI, 6, .inl (fun _ => 0))), (na_2, .inl (cI, 6, .inl (fun _ => 0)))] := hD
  exact f_retJ_v (ws1 := fun u9 : Nat × Nat => [(bk, .inr (2, [.ref (u9.1), .ref (u9.2), .int 0])), (u9.1, .inl (cI, 6, .inl (fun _ => 0))), (u9.2, .inl (cI, 6, .inl (fun _ => 0)))]) (na_1, na_2) hx hb hr hlocks hP hD hS dX2_init_20

theorem k_X1_init : yX1_init.cls = RX1 ∧ yX1_init.cls ≠ "java/lang/invoke/MethodHandle" ∧ yX1_init.cls ≠ "java/lang/invoke/VarHandle" ∧ (parseMethodDescriptor yX1_init.desc).map (fun d => d.parameters.length) = some 0 := by decide +kernel
theorem wi_X1_init_1 : (Cond.methodLink RX1 3 objectInit) ∈ wsX1_init := List.mem_of_getElem? (i := 1) rfl
theorem wi_X1_init_2 : (Cond.instanceMethod objectInit) ∈ wsX1_init := List.mem_of_getElem? (i := 2) rfl
theorem wi_X1_init_3 : (Cond.code objectInit ⟨#[0xb1]⟩ 1 none) ∈ wsX1_init := List.mem_of_getElem? (i := 3) rfl
theorem wi_X1_init_4 : (Cond.arrayClass .int) ∈ wsX1_init := List.mem_of_getElem? (i := 4) rfl
theorem wi_X1_init_5 : (Cond.fieldLink RX1 9 "FrostPane$Pane" "frost" "[I") ∈ wsX1_init := List.mem_of_getElem? (i := 5) rfl
theorem wb_X1_init_1 : ∀ w ∈ wsX10, w ∈ wsX1_init := (fun _ h => List.mem_cons_of_mem _ (List.mem_append_right _ h))
theorem wi_X1_init_6 : (Cond.fieldLink RX1 15 "FrostPane$Pane" "frostNext" "[I") ∈ wsX1_init := List.mem_of_getElem? (i := 6) rfl
theorem wi_X1_init_7 : (Cond.fieldLink RX1 18 "FrostPane$Pane" "melts" "[I") ∈ wsX1_init := List.mem_of_getElem? (i := 7) rfl
set_option maxHeartbeats 4000000 in
set_option maxRecDepth 100000 in
theorem c_X1_init (l : Launch) (D : va_G) (cI cZ cJ : ClassId) (sz : Nat) (pa : Nat)  : f_Mc l yX1_init wsX1_init ({ frames := 1, cells := 3, slots := 168, locals := 12 }) D (fTY cI cZ cJ) [.ref pa] sz [(pa, .inr (1, [.null, .null, .null, .int 0, .int 0, .int 0]))] (fun u9 : Nat × Nat × Nat => [(pa, .inr (1, [.ref (u9.1), .ref (u9.2.1), .ref (u9.2.2), .int 0, .int 0, .int 0])), (u9.1, .inl (cI, 12, .inl (fun _ => 0))), (u9.2.1, .inl (cI, 12, .inl (fun _ => 0))), (u9.2.2, .inl (cI, 144, .inl (fun _ => 0)))]) 3 168 := by
  refine f_ent_c (by decide) rfl (Nat.le_of_ble_eq_true rfl) ?_
  intro pg ev s m below meth cd hx hb hr hts hown hlocks hml hnm hsz hP hK hN A hD hA hS ls hl
  have hown : s.vm.findClass RX1 = some m.cls := hown
  have hl : lv_has ls 1 [(0, .ref pa)] := hl
  have hin : meth.name = "<init>" := hnm
  refine lv_aload_n hx hb dX1_init_0 rfl (lv_at hl 0 rfl) ?_
  refine W.objInit hx hb hown (hts _ wi_X1_init_1) (hts _ wi_X1_init_2) (hts _ wi_X1_init_3) rfl (by rw [hml]; exact hl.1) rfl dX1_init_1 (Nat.le_of_ble_eq_true rfl) (Nat.le_of_ble_eq_true rfl) ?_
  refine W.eq (g2 := F0 m 4 ls []) rfl ?_
  refine lv_aload_n hx hb dX1_init_4 rfl (lv_at hl 0 rfl) ?_
  refine lv_bipush (v := 12) hx hb dX1_init_5 (by decide) ?_
  refine f_newi (n := 12) (N' := 12) hx hb (hts _ wi_X1_init_4) hK hP hD hS hA (by decide) (by decide) (by decide) (Nat.le_of_ble_eq_true rfl) (Nat.le_of_ble_eq_true rfl) dX1_init_7 (fun na_1 H hP hD hS => ?_)
  have hP : va_P D vwCl [(pa, .inr (1, [.null, .null, .null, .int 0, .int 0, .int 0])), (na_1, .inl (cI, 12, .inl (fun _ => 0)))] _ := hP
  have hD : va_D A [(pa, .inr (1, [.null, .null, .null, .int 0, .int 0, .int 0])), (na_1, .inl (cI, 12, .inl (fun _ => 0)))] := hD
  refine va_putF (D := D) (ci := 1) (v := .ref na_1) (ty := tyX1 0) (C := RX1) (T := TX1) (N := 6) hx hb hts wb_X1_init_1 tyX1 tyX1_ok nmX1 hown hK hP hD hS 0 rfl rfl 0 (by decide) (hts _ wi_X1_init_5) (fun _ h9 => h9) rfl hin rfl (tyX1_ok 0 (by decide)) rfl rfl (Nat.le_of_ble_eq_true rfl) dX1_init_9 (fun H locs hP hD hS => ?_)
  have hP : va_P D vwCl [(pa, .inr (1, [.ref na_1, .null, .null, .int 0, .int 0, .int 0])), (na_1, .inl (cI, 12, .inl (fun _ => 0)))] _ := hP
  have hD : va_D A [(pa, .inr (1, [.ref na_1, .null, .null, .int 0, .int 0, .int 0])), (na_1, .inl (cI, 12, .inl (fun _ => 0)))] := hD
  refine lv_aload_n hx hb dX1_init_12 rfl (lv_at hl 0 rfl) ?_
  refine lv_bipush (v := 12) hx hb dX1_init_13 (by decide) ?_
  refine f_newi (n := 12) (N' := 12) hx hb (hts _ wi_X1_init_4) hK hP hD hS hA (by decide) (by decide) (by decide) (Nat.le_of_ble_eq_true rfl) (Nat.le_of_ble_eq_true rfl) dX1_init_15 (fun na_2 H hP hD hS => ?_)
  have hP : va_P D vwCl [(pa, .inr (1, [.ref na_1, .null, .null, .int 0, .int 0, .int 0])), (na_1, .inl (cI, 12, .inl (fun _ => 0))), (na_2, .inl (cI, 12, .inl (fun _ => 0)))] _ := hP
  have hD : va_D A [(pa, .inr (1, [.ref na_1, .null, .null, .int 0, .int 0, .int 0])), (na_1, .inl (cI, 12, .inl (fun _ => 0))), (na_2, .inl (cI, 12, .inl (fun _ => 0)))] := hD
  refine va_putF (D := D) (ci := 1) (v := .ref na_2) (ty := tyX1 1) (C := RX1) (T := TX1) (N := 6) hx hb hts wb_X1_init_1 tyX1 tyX1_ok nmX1 hown hK hP hD hS 0 rfl rfl 1 (by decide) (hts _ wi_X1_init_6) (fun _ h9 => h9) rfl hin rfl (tyX1_ok 1 (by decide)) rfl rfl (Nat.le_of_ble_eq_true rfl) dX1_init_17 (fun H locs hP hD hS => ?_)
  have hP : va_P D vwCl [(pa, .inr (1, [.ref na_1, .ref na_2, .null, .int 0, .int 0, .int 0])), (na_1, .inl (cI, 12, .inl (fun _ => 0))), (na_2, .inl (cI, 12, .inl (fun _ => 0)))] _ := hP
  have hD : va_D A [(pa, .inr (1, [.ref na_1, .ref na_2, .null, .int 0, .int 0, .int 0])), (na_1, .inl (cI, 12, .inl (fun _ => 0))), (na_2, .inl (cI, 12, .inl (fun _ => 0)))] := hD
  refine lv_aload_n hx hb dX1_init_20 rfl (lv_at hl 0 rfl) ?_
  refine lv_sipush (v := 144) hx hb dX1_init_21 (by decide) ?_
  refine f_newi (n := 144) (N' := 144) hx hb (hts _ wi_X1_init_4) hK hP hD hS hA (by decide) (by decide) (by decide) (Nat.le_of_ble_eq_true rfl) (Nat.le_of_ble_eq_true rfl) dX1_init_24 (fun na_3 H hP hD hS => ?_)
  have hP : va_P D vwCl [(pa, .inr (1, [.ref na_1, .ref na_2, .null, .int 0, .int 0, .int 0])), (na_1, .inl (cI, 12, .inl (fun _ => 0))), (na_2, .inl (cI, 12, .inl (fun _ => 0))), (na_3, .inl (cI, 144, .inl (fun _ => 0)))] _ := hP
  have hD : va_D A [(pa, .inr (1, [.ref na_1, .ref na_2, .null, .int 0, .int 0, .int 0])), (na_1, .inl (cI, 12, .inl (fun _ => 0))), (na_2, .inl (cI, 12, .inl (fun _ => 0))), (na_3, .inl (cI, 144, .inl (fun _ => 0)))] := hD
  refine va_putF (D := D) (ci := 1) (v := .ref na_3) (ty := tyX1 2) (C := RX1) (T := TX1) (N := 6) hx hb hts wb_X1_init_1 tyX1 tyX1_ok nmX1 hown hK hP hD hS 0 rfl rfl 2 (by decide) (hts _ wi_X1_init_7) (fun _ h9 => h9) rfl hin rfl (tyX1_ok 2 (by decide)) rfl rfl (Nat.le_of_ble_eq_true rfl) dX1_init_26 (fun H locs hP hD hS => ?_)
  have hP : va_P D vwCl [(pa, .inr (1, [.ref na_1, .ref na_2, .ref na_3, .int 0, .int 0, .int 0])), (na_1, .inl (cI, 12, .inl (fun _ => 0))), (na_2, .inl (cI, 12, .inl (fun _ => 0))), (na_3, .inl (cI, 144, .inl (fun _ => 0)))] _ := hP
  have hD : va_D A [(pa, .inr (1, [.ref na_1, .ref na_2, .ref na_3, .int 0, .int 0, .int 0])), (na_1, .inl (cI, 12, .inl (fun _ => 0))), (na_2, .inl (cI, 12, .inl (fun _ => 0))), (na_3, .inl (cI, 144, .inl (fun _ => 0)))] := hD
  exact f_retJ_v (ws1 := fun u9 : Nat × Nat × Nat => [(pa, .inr (1, [.ref (u9.1), .ref (u9.2.1), .ref (u9.2.2), .int 0, .int 0, .int 0])), (u9.1, .inl (cI, 12, .inl (fun _ => 0))), (u9.2.1, .inl (cI, 12, .inl (fun _ => 0))), (u9.2.2, .inl (cI, 144, .inl (fun _ => 0)))]) (na_1, na_2, na_3) hx hb hr hlocks hP hD hS dX1_init_29

theorem k_X0_init : yX0_init.cls = RX0 ∧ yX0_init.cls ≠ "java/lang/invoke/MethodHandle" ∧ yX0_init.cls ≠ "java/lang/invoke/VarHandle" ∧ (parseMethodDescriptor yX0_init.desc).map (fun d => d.parameters.length) = some 0 := by decide +kernel
theorem wi_X0_init_1 : (Cond.methodLink RX0 3 objectInit) ∈ wsX0_init := List.mem_of_getElem? (i := 1) rfl
theorem wi_X0_init_2 : (Cond.instanceMethod objectInit) ∈ wsX0_init := List.mem_of_getElem? (i := 2) rfl
theorem wi_X0_init_3 : (Cond.code objectInit ⟨#[0xb1]⟩ 1 none) ∈ wsX0_init := List.mem_of_getElem? (i := 3) rfl
theorem wi_X0_init_4 : (Cond.arrayClass .int) ∈ wsX0_init := List.mem_of_getElem? (i := 4) rfl
theorem wi_X0_init_5 : (Cond.fieldLink RX0 9 "FrostPane$FlowerPicker" "left" "[I") ∈ wsX0_init := List.mem_of_getElem? (i := 5) rfl
theorem wb_X0_init_0 : ∀ w ∈ wsX00, w ∈ wsX0_init := (fun _ h => List.mem_cons_of_mem _ (List.mem_append_right _ h))
theorem wi_X0_init_6 : (Cond.fieldLink RX0 15 "FrostPane$FlowerPicker" "flower" "[I") ∈ wsX0_init := List.mem_of_getElem? (i := 6) rfl
set_option maxHeartbeats 4000000 in
set_option maxRecDepth 100000 in
theorem c_X0_init (l : Launch) (D : va_G) (cI cZ cJ : ClassId) (sz : Nat) (pk : Nat)  : f_Mc l yX0_init wsX0_init ({ frames := 1, cells := 2, slots := 24, locals := 12 }) D (fTY cI cZ cJ) [.ref pk] sz [(pk, .inr (0, [.null, .null]))] (fun u9 : Nat × Nat => [(pk, .inr (0, [.ref (u9.1), .ref (u9.2)])), (u9.1, .inl (cI, 12, .inl (fun _ => 0))), (u9.2, .inl (cI, 12, .inl (fun _ => 0)))]) 2 24 := by
  refine f_ent_c (by decide) rfl (Nat.le_of_ble_eq_true rfl) ?_
  intro pg ev s m below meth cd hx hb hr hts hown hlocks hml hnm hsz hP hK hN A hD hA hS ls hl
  have hown : s.vm.findClass RX0 = some m.cls := hown
  have hl : lv_has ls 1 [(0, .ref pk)] := hl
  have hin : meth.name = "<init>" := hnm
  refine lv_aload_n hx hb dX0_init_0 rfl (lv_at hl 0 rfl) ?_
  refine W.objInit hx hb hown (hts _ wi_X0_init_1) (hts _ wi_X0_init_2) (hts _ wi_X0_init_3) rfl (by rw [hml]; exact hl.1) rfl dX0_init_1 (Nat.le_of_ble_eq_true rfl) (Nat.le_of_ble_eq_true rfl) ?_
  refine W.eq (g2 := F0 m 4 ls []) rfl ?_
  refine lv_aload_n hx hb dX0_init_4 rfl (lv_at hl 0 rfl) ?_
  refine lv_bipush (v := 12) hx hb dX0_init_5 (by decide) ?_
  refine f_newi (n := 12) (N' := 12) hx hb (hts _ wi_X0_init_4) hK hP hD hS hA (by decide) (by decide) (by decide) (Nat.le_of_ble_eq_true rfl) (Nat.le_of_ble_eq_true rfl) dX0_init_7 (fun na_1 H hP hD hS => ?_)
  have hP : va_P D vwCl [(pk, .inr (0, [.null, .null])), (na_1, .inl (cI, 12, .inl (fun _ => 0)))] _ := hP
  have hD : va_D A [(pk, .inr (0, [.null, .null])), (na_1, .inl (cI, 12, .inl (fun _ => 0)))] := hD
  refine va_putF (D := D) (ci := 0) (v := .ref na_1) (ty := tyX0 0) (C := RX0) (T := TX0) (N := 2) hx hb hts wb_X0_init_0 tyX0 tyX0_ok nmX0 hown hK hP hD hS 0 rfl rfl 0 (by decide) (hts _ wi_X0_init_5) (fun _ h9 => h9) rfl hin rfl (tyX0_ok 0 (by decide)) rfl rfl (Nat.le_of_ble_eq_true rfl) dX0_init_9 (fun H locs hP hD hS => ?_)
  have hP : va_P D vwCl [(pk, .inr (0, [.ref na_1, .null])), (na_1, .inl (cI, 12, .inl (fun _ => 0)))] _ := hP
  have hD : va_D A [(pk, .inr (0, [.ref na_1, .null])), (na_1, .inl (cI, 12, .inl (fun _ => 0)))] := hD
  refine lv_aload_n hx hb dX0_init_12 rfl (lv_at hl 0 rfl) ?_
  refine lv_bipush (v := 12) hx hb dX0_init_13 (by decide) ?_
  refine f_newi (n := 12) (N' := 12) hx hb (hts _ wi_X0_init_4) hK hP hD hS hA (by decide) (by decide) (by decide) (Nat.le_of_ble_eq_true rfl) (Nat.le_of_ble_eq_true rfl) dX0_init_15 (fun na_2 H hP hD hS => ?_)
  have hP : va_P D vwCl [(pk, .inr (0, [.ref na_1, .null])), (na_1, .inl (cI, 12, .inl (fun _ => 0))), (na_2, .inl (cI, 12, .inl (fun _ => 0)))] _ := hP
  have hD : va_D A [(pk, .inr (0, [.ref na_1, .null])), (na_1, .inl (cI, 12, .inl (fun _ => 0))), (na_2, .inl (cI, 12, .inl (fun _ => 0)))] := hD
  refine va_putF (D := D) (ci := 0) (v := .ref na_2) (ty := tyX0 1) (C := RX0) (T := TX0) (N := 2) hx hb hts wb_X0_init_0 tyX0 tyX0_ok nmX0 hown hK hP hD hS 0 rfl rfl 1 (by decide) (hts _ wi_X0_init_6) (fun _ h9 => h9) rfl hin rfl (tyX0_ok 1 (by decide)) rfl rfl (Nat.le_of_ble_eq_true rfl) dX0_init_17 (fun H locs hP hD hS => ?_)
  have hP : va_P D vwCl [(pk, .inr (0, [.ref na_1, .ref na_2])), (na_1, .inl (cI, 12, .inl (fun _ => 0))), (na_2, .inl (cI, 12, .inl (fun _ => 0)))] _ := hP
  have hD : va_D A [(pk, .inr (0, [.ref na_1, .ref na_2])), (na_1, .inl (cI, 12, .inl (fun _ => 0))), (na_2, .inl (cI, 12, .inl (fun _ => 0)))] := hD
  exact f_retJ_v (ws1 := fun u9 : Nat × Nat => [(pk, .inr (0, [.ref (u9.1), .ref (u9.2)])), (u9.1, .inl (cI, 12, .inl (fun _ => 0))), (u9.2, .inl (cI, 12, .inl (fun _ => 0)))]) (na_1, na_2) hx hb hr hlocks hP hD hS dX0_init_20

theorem k_X4_init : yX4_init.cls = RX4 ∧ yX4_init.cls ≠ "java/lang/invoke/MethodHandle" ∧ yX4_init.cls ≠ "java/lang/invoke/VarHandle" ∧ (parseMethodDescriptor yX4_init.desc).map (fun d => d.parameters.length) = some 0 := by decide +kernel
theorem wi_X4_init_1 : (Cond.methodLink RX4 1 objectInit) ∈ wsX4_init := List.mem_of_getElem? (i := 1) rfl
theorem wi_X4_init_2 : (Cond.instanceMethod objectInit) ∈ wsX4_init := List.mem_of_getElem? (i := 2) rfl
theorem wi_X4_init_3 : (Cond.code objectInit ⟨#[0xb1]⟩ 1 none) ∈ wsX4_init := List.mem_of_getElem? (i := 3) rfl
theorem wi_X4_init_4 : (Cond.fieldLink RX4 7 "FrostPaneModel" "columns" "I") ∈ wsX4_init := List.mem_of_getElem? (i := 4) rfl
theorem wb_X4_init_4 : ∀ w ∈ wsX40, w ∈ wsX4_init := (fun _ h => List.mem_cons_of_mem _ (List.mem_append_right _ h))
theorem wi_X4_init_5 : (Cond.fieldLink RX4 13 "FrostPaneModel" "rows" "I") ∈ wsX4_init := List.mem_of_getElem? (i := 5) rfl
theorem wi_X4_init_6 : (Cond.fieldLink RX4 16 "FrostPaneModel" "frame" "I") ∈ wsX4_init := List.mem_of_getElem? (i := 6) rfl
theorem wi_X4_init_7 : (Cond.fieldLink RX4 19 "FrostPaneModel" "rules" "I") ∈ wsX4_init := List.mem_of_getElem? (i := 7) rfl
theorem wi_X4_init_8 : (Cond.arrayClass .int) ∈ wsX4_init := List.mem_of_getElem? (i := 8) rfl
theorem wi_X4_init_9 : (Cond.fieldLink RX4 22 "FrostPaneModel" "freezes" "[I") ∈ wsX4_init := List.mem_of_getElem? (i := 9) rfl
theorem wi_X4_init_10 : (Cond.fieldLink RX4 26 "FrostPaneModel" "stays" "[I") ∈ wsX4_init := List.mem_of_getElem? (i := 10) rfl
theorem wi_X4_init_11 : (Cond.fieldLink RX4 29 "FrostPaneModel" "ice" "[I") ∈ wsX4_init := List.mem_of_getElem? (i := 11) rfl
theorem wi_X4_init_12 : (Cond.fieldLink RX4 32 "FrostPaneModel" "melt" "[I") ∈ wsX4_init := List.mem_of_getElem? (i := 12) rfl
theorem wi_X4_init_13 : (Cond.fieldLink RX4 35 "FrostPaneModel" "kept" "[I") ∈ wsX4_init := List.mem_of_getElem? (i := 13) rfl
theorem wi_X4_init_14 : (Cond.fieldLink RX4 38 "FrostPaneModel" "keptMelt" "[I") ∈ wsX4_init := List.mem_of_getElem? (i := 14) rfl
theorem wi_X4_init_15 : (Cond.fieldLink RX4 41 "FrostPaneModel" "next" "[I") ∈ wsX4_init := List.mem_of_getElem? (i := 15) rfl
theorem wi_X4_init_16 : (Cond.fieldLink RX4 44 "FrostPaneModel" "sum" "[I") ∈ wsX4_init := List.mem_of_getElem? (i := 16) rfl
theorem wi_X4_init_17 : (Cond.arrayClass .boolean) ∈ wsX4_init := List.mem_of_getElem? (i := 17) rfl
theorem wi_X4_init_18 : (Cond.fieldLink RX4 47 "FrostPaneModel" "isSeen" "[Z") ∈ wsX4_init := List.mem_of_getElem? (i := 18) rfl
set_option maxHeartbeats 4000000 in
set_option maxRecDepth 100000 in
theorem c_X4_init (l : Launch) (D : va_G) (cI cZ cJ : ClassId) (sz : Nat) (mp : Nat)  : f_Mc l yX4_init wsX4_init ({ frames := 1, cells := 9, slots := 484, locals := 12 }) D (fTY cI cZ cJ) [.ref mp] sz [(mp, .inr (4, [.int 0, .int 0, .int 0, .int 0, .int 0, .int 0, .int 0, .null, .null, .null, .null, .null, .null, .null, .null, .null]))] (fun u9 : Nat × Nat × Nat × Nat × Nat × Nat × Nat × Nat × Nat => [(mp, .inr (4, [.int 0, .int 8, .int 8, .int 0, .int 0, .int 1, .int 0, .ref (u9.1), .ref (u9.2.1), .ref (u9.2.2.1), .ref (u9.2.2.2.1), .ref (u9.2.2.2.2.1), .ref (u9.2.2.2.2.2.1), .ref (u9.2.2.2.2.2.2.1), .ref (u9.2.2.2.2.2.2.2.1), .ref (u9.2.2.2.2.2.2.2.2)])), (u9.1, .inl (cI, 6, .inl (upd (fun _ => 0) 0 8))), (u9.2.1, .inl (cI, 6, .inl (upd (fun _ => 0) 0 12))), (u9.2.2.1, .inl (cI, 12, .inl (fun _ => 0))), (u9.2.2.2.1, .inl (cI, 144, .inl (fun _ => 0))), (u9.2.2.2.2.1, .inl (cI, 12, .inl (fun _ => 0))), (u9.2.2.2.2.2.1, .inl (cI, 144, .inl (fun _ => 0))), (u9.2.2.2.2.2.2.1, .inl (cI, 12, .inl (fun _ => 0))), (u9.2.2.2.2.2.2.2.1, .inl (cI, 4, .inl (fun _ => 0))), (u9.2.2.2.2.2.2.2.2, .inl (cZ, 144, .inl (fun _ => 0)))]) 9 484 := by
  refine f_ent_c (by decide) rfl (Nat.le_of_ble_eq_true rfl) ?_
  intro pg ev s m below meth cd hx hb hr hts hown hlocks hml hnm hsz hP hK hN A hD hA hS ls hl
  have hown : s.vm.findClass RX4 = some m.cls := hown
  have hl : lv_has ls 1 [(0, .ref mp)] := hl
  have hin : meth.name = "<init>" := hnm
  refine lv_aload_n hx hb dX4_init_0 rfl (lv_at hl 0 rfl) ?_
  refine W.objInit hx hb hown (hts _ wi_X4_init_1) (hts _ wi_X4_init_2) (hts _ wi_X4_init_3) rfl (by rw [hml]; exact hl.1) rfl dX4_init_1 (Nat.le_of_ble_eq_true rfl) (Nat.le_of_ble_eq_true rfl) ?_
  refine W.eq (g2 := F0 m 4 ls []) rfl ?_
  refine lv_aload_n hx hb dX4_init_4 rfl (lv_at hl 0 rfl) ?_
  refine lv_bipush (v := 8) hx hb dX4_init_5 (by decide) ?_
  refine va_put (D := D) (ci := 4) (v := .int 8) (ty := tyX4 1) (C := RX4) (T := TX4) (N := 16) hx hb hts wb_X4_init_4 tyX4 tyX4_ok nmX4 hown hK hP hD hS 0 rfl rfl 1 (by decide) (hts _ wi_X4_init_4) (fun _ h9 => h9) rfl (tyX4_ok 1 (by decide)) rfl rfl (Nat.le_of_ble_eq_true rfl) dX4_init_7 (fun H locs hP hD hS => ?_)
  have hP : va_P D vwCl [(mp, .inr (4, [.int 0, .int 8, .int 0, .int 0, .int 0, .int 0, .int 0, .null, .null, .null, .null, .null, .null, .null, .null, .null]))] _ := hP
  have hD : va_D A [(mp, .inr (4, [.int 0, .int 8, .int 0, .int 0, .int 0, .int 0, .int 0, .null, .null, .null, .null, .null, .null, .null, .null, .null]))] := hD
  refine lv_aload_n hx hb dX4_init_10 rfl (lv_at hl 0 rfl) ?_
  refine lv_bipush (v := 8) hx hb dX4_init_11 (by decide) ?_
  refine va_put (D := D) (ci := 4) (v := .int 8) (ty := tyX4 2) (C := RX4) (T := TX4) (N := 16) hx hb hts wb_X4_init_4 tyX4 tyX4_ok nmX4 hown hK hP hD hS 0 rfl rfl 2 (by decide) (hts _ wi_X4_init_5) (fun _ h9 => h9) rfl (tyX4_ok 2 (by decide)) rfl rfl (Nat.le_of_ble_eq_true rfl) dX4_init_13 (fun H locs hP hD hS => ?_)
  have hP : va_P D vwCl [(mp, .inr (4, [.int 0, .int 8, .int 8, .int 0, .int 0, .int 0, .int 0, .null, .null, .null, .null, .null, .null, .null, .null, .null]))] _ := hP
  have hD : va_D A [(mp, .inr (4, [.int 0, .int 8, .int 8, .int 0, .int 0, .int 0, .int 0, .null, .null, .null, .null, .null, .null, .null, .null, .null]))] := hD
  refine lv_aload_n hx hb dX4_init_16 rfl (lv_at hl 0 rfl) ?_
  refine lv_iconst (v := 0) hx hb dX4_init_17 (by decide) ?_
  refine va_put (D := D) (ci := 4) (v := .int 0) (ty := tyX4 3) (C := RX4) (T := TX4) (N := 16) hx hb hts wb_X4_init_4 tyX4 tyX4_ok nmX4 hown hK hP hD hS 0 rfl rfl 3 (by decide) (hts _ wi_X4_init_6) (fun _ h9 => h9) rfl (tyX4_ok 3 (by decide)) rfl rfl (Nat.le_of_ble_eq_true rfl) dX4_init_18 (fun H locs hP hD hS => ?_)
  have hP : va_P D vwCl [(mp, .inr (4, [.int 0, .int 8, .int 8, .int 0, .int 0, .int 0, .int 0, .null, .null, .null, .null, .null, .null, .null, .null, .null]))] _ := hP
  have hD : va_D A [(mp, .inr (4, [.int 0, .int 8, .int 8, .int 0, .int 0, .int 0, .int 0, .null, .null, .null, .null, .null, .null, .null, .null, .null]))] := hD
  refine lv_aload_n hx hb dX4_init_21 rfl (lv_at hl 0 rfl) ?_
  refine lv_iconst (v := 1) hx hb dX4_init_22 (by decide) ?_
  refine va_put (D := D) (ci := 4) (v := .int 1) (ty := tyX4 5) (C := RX4) (T := TX4) (N := 16) hx hb hts wb_X4_init_4 tyX4 tyX4_ok nmX4 hown hK hP hD hS 0 rfl rfl 5 (by decide) (hts _ wi_X4_init_7) (fun _ h9 => h9) rfl (tyX4_ok 5 (by decide)) rfl rfl (Nat.le_of_ble_eq_true rfl) dX4_init_23 (fun H locs hP hD hS => ?_)
  have hP : va_P D vwCl [(mp, .inr (4, [.int 0, .int 8, .int 8, .int 0, .int 0, .int 1, .int 0, .null, .null, .null, .null, .null, .null, .null, .null, .null]))] _ := hP
  have hD : va_D A [(mp, .inr (4, [.int 0, .int 8, .int 8, .int 0, .int 0, .int 1, .int 0, .null, .null, .null, .null, .null, .null, .null, .null, .null]))] := hD
  refine lv_aload_n hx hb dX4_init_26 rfl (lv_at hl 0 rfl) ?_
  refine lv_bipush (v := 6) hx hb dX4_init_27 (by decide) ?_
  refine f_newi (n := 6) (N' := 6) hx hb (hts _ wi_X4_init_8) hK hP hD hS hA (by decide) (by decide) (by decide) (Nat.le_of_ble_eq_true rfl) (Nat.le_of_ble_eq_true rfl) dX4_init_29 (fun na_1 H hP hD hS => ?_)
  have hP : va_P D vwCl [(mp, .inr (4, [.int 0, .int 8, .int 8, .int 0, .int 0, .int 1, .int 0, .null, .null, .null, .null, .null, .null, .null, .null, .null])), (na_1, .inl (cI, 6, .inl (fun _ => 0)))] _ := hP
  have hD : va_D A [(mp, .inr (4, [.int 0, .int 8, .int 8, .int 0, .int 0, .int 1, .int 0, .null, .null, .null, .null, .null, .null, .null, .null, .null])), (na_1, .inl (cI, 6, .inl (fun _ => 0)))] := hD
  refine va_putF (D := D) (ci := 4) (v := .ref na_1) (ty := tyX4 7) (C := RX4) (T := TX4) (N := 16) hx hb hts wb_X4_init_4 tyX4 tyX4_ok nmX4 hown hK hP hD hS 0 rfl rfl 7 (by decide) (hts _ wi_X4_init_9) (fun _ h9 => h9) rfl hin rfl (tyX4_ok 7 (by decide)) rfl rfl (Nat.le_of_ble_eq_true rfl) dX4_init_31 (fun H locs hP hD hS => ?_)
  have hP : va_P D vwCl [(mp, .inr (4, [.int 0, .int 8, .int 8, .int 0, .int 0, .int 1, .int 0, .ref na_1, .null, .null, .null, .null, .null, .null, .null, .null])), (na_1, .inl (cI, 6, .inl (fun _ => 0)))] _ := hP
  have hD : va_D A [(mp, .inr (4, [.int 0, .int 8, .int 8, .int 0, .int 0, .int 1, .int 0, .ref na_1, .null, .null, .null, .null, .null, .null, .null, .null])), (na_1, .inl (cI, 6, .inl (fun _ => 0)))] := hD
  refine lv_aload_n hx hb dX4_init_34 rfl (lv_at hl 0 rfl) ?_
  refine lv_bipush (v := 6) hx hb dX4_init_35 (by decide) ?_
  refine f_newi (n := 6) (N' := 6) hx hb (hts _ wi_X4_init_8) hK hP hD hS hA (by decide) (by decide) (by decide) (Nat.le_of_ble_eq_true rfl) (Nat.le_of_ble_eq_true rfl) dX4_init_37 (fun na_2 H hP hD hS => ?_)
  have hP : va_P D vwCl [(mp, .inr (4, [.int 0, .int 8, .int 8, .int 0, .int 0, .int 1, .int 0, .ref na_1, .null, .null, .null, .null, .null, .null, .null, .null])), (na_1, .inl (cI, 6, .inl (fun _ => 0))), (na_2, .inl (cI, 6, .inl (fun _ => 0)))] _ := hP
  have hD : va_D A [(mp, .inr (4, [.int 0, .int 8, .int 8, .int 0, .int 0, .int 1, .int 0, .ref na_1, .null, .null, .null, .null, .null, .null, .null, .null])), (na_1, .inl (cI, 6, .inl (fun _ => 0))), (na_2, .inl (cI, 6, .inl (fun _ => 0)))] := hD
  refine va_putF (D := D) (ci := 4) (v := .ref na_2) (ty := tyX4 8) (C := RX4) (T := TX4) (N := 16) hx hb hts wb_X4_init_4 tyX4 tyX4_ok nmX4 hown hK hP hD hS 0 rfl rfl 8 (by decide) (hts _ wi_X4_init_10) (fun _ h9 => h9) rfl hin rfl (tyX4_ok 8 (by decide)) rfl rfl (Nat.le_of_ble_eq_true rfl) dX4_init_39 (fun H locs hP hD hS => ?_)
  have hP : va_P D vwCl [(mp, .inr (4, [.int 0, .int 8, .int 8, .int 0, .int 0, .int 1, .int 0, .ref na_1, .ref na_2, .null, .null, .null, .null, .null, .null, .null])), (na_1, .inl (cI, 6, .inl (fun _ => 0))), (na_2, .inl (cI, 6, .inl (fun _ => 0)))] _ := hP
  have hD : va_D A [(mp, .inr (4, [.int 0, .int 8, .int 8, .int 0, .int 0, .int 1, .int 0, .ref na_1, .ref na_2, .null, .null, .null, .null, .null, .null, .null])), (na_1, .inl (cI, 6, .inl (fun _ => 0))), (na_2, .inl (cI, 6, .inl (fun _ => 0)))] := hD
  refine lv_aload_n hx hb dX4_init_42 rfl (lv_at hl 0 rfl) ?_
  refine lv_bipush (v := 12) hx hb dX4_init_43 (by decide) ?_
  refine f_newi (n := 12) (N' := 12) hx hb (hts _ wi_X4_init_8) hK hP hD hS hA (by decide) (by decide) (by decide) (Nat.le_of_ble_eq_true rfl) (Nat.le_of_ble_eq_true rfl) dX4_init_45 (fun na_3 H hP hD hS => ?_)
  have hP : va_P D vwCl [(mp, .inr (4, [.int 0, .int 8, .int 8, .int 0, .int 0, .int 1, .int 0, .ref na_1, .ref na_2, .null, .null, .null, .null, .null, .null, .null])), (na_1, .inl (cI, 6, .inl (fun _ => 0))), (na_2, .inl (cI, 6, .inl (fun _ => 0))), (na_3, .inl (cI, 12, .inl (fun _ => 0)))] _ := hP
  have hD : va_D A [(mp, .inr (4, [.int 0, .int 8, .int 8, .int 0, .int 0, .int 1, .int 0, .ref na_1, .ref na_2, .null, .null, .null, .null, .null, .null, .null])), (na_1, .inl (cI, 6, .inl (fun _ => 0))), (na_2, .inl (cI, 6, .inl (fun _ => 0))), (na_3, .inl (cI, 12, .inl (fun _ => 0)))] := hD
  refine va_putF (D := D) (ci := 4) (v := .ref na_3) (ty := tyX4 9) (C := RX4) (T := TX4) (N := 16) hx hb hts wb_X4_init_4 tyX4 tyX4_ok nmX4 hown hK hP hD hS 0 rfl rfl 9 (by decide) (hts _ wi_X4_init_11) (fun _ h9 => h9) rfl hin rfl (tyX4_ok 9 (by decide)) rfl rfl (Nat.le_of_ble_eq_true rfl) dX4_init_47 (fun H locs hP hD hS => ?_)
  have hP : va_P D vwCl [(mp, .inr (4, [.int 0, .int 8, .int 8, .int 0, .int 0, .int 1, .int 0, .ref na_1, .ref na_2, .ref na_3, .null, .null, .null, .null, .null, .null])), (na_1, .inl (cI, 6, .inl (fun _ => 0))), (na_2, .inl (cI, 6, .inl (fun _ => 0))), (na_3, .inl (cI, 12, .inl (fun _ => 0)))] _ := hP
  have hD : va_D A [(mp, .inr (4, [.int 0, .int 8, .int 8, .int 0, .int 0, .int 1, .int 0, .ref na_1, .ref na_2, .ref na_3, .null, .null, .null, .null, .null, .null])), (na_1, .inl (cI, 6, .inl (fun _ => 0))), (na_2, .inl (cI, 6, .inl (fun _ => 0))), (na_3, .inl (cI, 12, .inl (fun _ => 0)))] := hD
  refine lv_aload_n hx hb dX4_init_50 rfl (lv_at hl 0 rfl) ?_
  refine lv_sipush (v := 144) hx hb dX4_init_51 (by decide) ?_
  refine f_newi (n := 144) (N' := 144) hx hb (hts _ wi_X4_init_8) hK hP hD hS hA (by decide) (by decide) (by decide) (Nat.le_of_ble_eq_true rfl) (Nat.le_of_ble_eq_true rfl) dX4_init_54 (fun na_4 H hP hD hS => ?_)
  have hP : va_P D vwCl [(mp, .inr (4, [.int 0, .int 8, .int 8, .int 0, .int 0, .int 1, .int 0, .ref na_1, .ref na_2, .ref na_3, .null, .null, .null, .null, .null, .null])), (na_1, .inl (cI, 6, .inl (fun _ => 0))), (na_2, .inl (cI, 6, .inl (fun _ => 0))), (na_3, .inl (cI, 12, .inl (fun _ => 0))), (na_4, .inl (cI, 144, .inl (fun _ => 0)))] _ := hP
  have hD : va_D A [(mp, .inr (4, [.int 0, .int 8, .int 8, .int 0, .int 0, .int 1, .int 0, .ref na_1, .ref na_2, .ref na_3, .null, .null, .null, .null, .null, .null])), (na_1, .inl (cI, 6, .inl (fun _ => 0))), (na_2, .inl (cI, 6, .inl (fun _ => 0))), (na_3, .inl (cI, 12, .inl (fun _ => 0))), (na_4, .inl (cI, 144, .inl (fun _ => 0)))] := hD
  refine va_putF (D := D) (ci := 4) (v := .ref na_4) (ty := tyX4 10) (C := RX4) (T := TX4) (N := 16) hx hb hts wb_X4_init_4 tyX4 tyX4_ok nmX4 hown hK hP hD hS 0 rfl rfl 10 (by decide) (hts _ wi_X4_init_12) (fun _ h9 => h9) rfl hin rfl (tyX4_ok 10 (by decide)) rfl rfl (Nat.le_of_ble_eq_true rfl) dX4_init_56 (fun H locs hP hD hS => ?_)
  have hP : va_P D vwCl [(mp, .inr (4, [.int 0, .int 8, .int 8, .int 0, .int 0, .int 1, .int 0, .ref na_1, .ref na_2, .ref na_3, .ref na_4, .null, .null, .null, .null, .null])), (na_1, .inl (cI, 6, .inl (fun _ => 0))), (na_2, .inl (cI, 6, .inl (fun _ => 0))), (na_3, .inl (cI, 12, .inl (fun _ => 0))), (na_4, .inl (cI, 144, .inl (fun _ => 0)))] _ := hP
  have hD : va_D A [(mp, .inr (4, [.int 0, .int 8, .int 8, .int 0, .int 0, .int 1, .int 0, .ref na_1, .ref na_2, .ref na_3, .ref na_4, .null, .null, .null, .null, .null])), (na_1, .inl (cI, 6, .inl (fun _ => 0))), (na_2, .inl (cI, 6, .inl (fun _ => 0))), (na_3, .inl (cI, 12, .inl (fun _ => 0))), (na_4, .inl (cI, 144, .inl (fun _ => 0)))] := hD
  refine lv_aload_n hx hb dX4_init_59 rfl (lv_at hl 0 rfl) ?_
  refine lv_bipush (v := 12) hx hb dX4_init_60 (by decide) ?_
  refine f_newi (n := 12) (N' := 12) hx hb (hts _ wi_X4_init_8) hK hP hD hS hA (by decide) (by decide) (by decide) (Nat.le_of_ble_eq_true rfl) (Nat.le_of_ble_eq_true rfl) dX4_init_62 (fun na_5 H hP hD hS => ?_)
  have hP : va_P D vwCl [(mp, .inr (4, [.int 0, .int 8, .int 8, .int 0, .int 0, .int 1, .int 0, .ref na_1, .ref na_2, .ref na_3, .ref na_4, .null, .null, .null, .null, .null])), (na_1, .inl (cI, 6, .inl (fun _ => 0))), (na_2, .inl (cI, 6, .inl (fun _ => 0))), (na_3, .inl (cI, 12, .inl (fun _ => 0))), (na_4, .inl (cI, 144, .inl (fun _ => 0))), (na_5, .inl (cI, 12, .inl (fun _ => 0)))] _ := hP
  have hD : va_D A [(mp, .inr (4, [.int 0, .int 8, .int 8, .int 0, .int 0, .int 1, .int 0, .ref na_1, .ref na_2, .ref na_3, .ref na_4, .null, .null, .null, .null, .null])), (na_1, .inl (cI, 6, .inl (fun _ => 0))), (na_2, .inl (cI, 6, .inl (fun _ => 0))), (na_3, .inl (cI, 12, .inl (fun _ => 0))), (na_4, .inl (cI, 144, .inl (fun _ => 0))), (na_5, .inl (cI, 12, .inl (fun _ => 0)))] := hD
  refine va_putF (D := D) (ci := 4) (v := .ref na_5) (ty := tyX4 11) (C := RX4) (T := TX4) (N := 16) hx hb hts wb_X4_init_4 tyX4 tyX4_ok nmX4 hown hK hP hD hS 0 rfl rfl 11 (by decide) (hts _ wi_X4_init_13) (fun _ h9 => h9) rfl hin rfl (tyX4_ok 11 (by decide)) rfl rfl (Nat.le_of_ble_eq_true rfl) dX4_init_64 (fun H locs hP hD hS => ?_)
  have hP : va_P D vwCl [(mp, .inr (4, [.int 0, .int 8, .int 8, .int 0, .int 0, .int 1, .int 0, .ref na_1, .ref na_2, .ref na_3, .ref na_4, .ref na_5, .null, .null, .null, .null])), (na_1, .inl (cI, 6, .inl (fun _ => 0))), (na_2, .inl (cI, 6, .inl (fun _ => 0))), (na_3, .inl (cI, 12, .inl (fun _ => 0))), (na_4, .inl (cI, 144, .inl (fun _ => 0))), (na_5, .inl (cI, 12, .inl (fun _ => 0)))] _ := hP
  have hD : va_D A [(mp, .inr (4, [.int 0, .int 8, .int 8, .int 0, .int 0, .int 1, .int 0, .ref na_1, .ref na_2, .ref na_3, .ref na_4, .ref na_5, .null, .null, .null, .null])), (na_1, .inl (cI, 6, .inl (fun _ => 0))), (na_2, .inl (cI, 6, .inl (fun _ => 0))), (na_3, .inl (cI, 12, .inl (fun _ => 0))), (na_4, .inl (cI, 144, .inl (fun _ => 0))), (na_5, .inl (cI, 12, .inl (fun _ => 0)))] := hD
  refine lv_aload_n hx hb dX4_init_67 rfl (lv_at hl 0 rfl) ?_
  refine lv_sipush (v := 144) hx hb dX4_init_68 (by decide) ?_
  refine f_newi (n := 144) (N' := 144) hx hb (hts _ wi_X4_init_8) hK hP hD hS hA (by decide) (by decide) (by decide) (Nat.le_of_ble_eq_true rfl) (Nat.le_of_ble_eq_true rfl) dX4_init_71 (fun na_6 H hP hD hS => ?_)
  have hP : va_P D vwCl [(mp, .inr (4, [.int 0, .int 8, .int 8, .int 0, .int 0, .int 1, .int 0, .ref na_1, .ref na_2, .ref na_3, .ref na_4, .ref na_5, .null, .null, .null, .null])), (na_1, .inl (cI, 6, .inl (fun _ => 0))), (na_2, .inl (cI, 6, .inl (fun _ => 0))), (na_3, .inl (cI, 12, .inl (fun _ => 0))), (na_4, .inl (cI, 144, .inl (fun _ => 0))), (na_5, .inl (cI, 12, .inl (fun _ => 0))), (na_6, .inl (cI, 144, .inl (fun _ => 0)))] _ := hP
  have hD : va_D A [(mp, .inr (4, [.int 0, .int 8, .int 8, .int 0, .int 0, .int 1, .int 0, .ref na_1, .ref na_2, .ref na_3, .ref na_4, .ref na_5, .null, .null, .null, .null])), (na_1, .inl (cI, 6, .inl (fun _ => 0))), (na_2, .inl (cI, 6, .inl (fun _ => 0))), (na_3, .inl (cI, 12, .inl (fun _ => 0))), (na_4, .inl (cI, 144, .inl (fun _ => 0))), (na_5, .inl (cI, 12, .inl (fun _ => 0))), (na_6, .inl (cI, 144, .inl (fun _ => 0)))] := hD
  refine va_putF (D := D) (ci := 4) (v := .ref na_6) (ty := tyX4 12) (C := RX4) (T := TX4) (N := 16) hx hb hts wb_X4_init_4 tyX4 tyX4_ok nmX4 hown hK hP hD hS 0 rfl rfl 12 (by decide) (hts _ wi_X4_init_14) (fun _ h9 => h9) rfl hin rfl (tyX4_ok 12 (by decide)) rfl rfl (Nat.le_of_ble_eq_true rfl) dX4_init_73 (fun H locs hP hD hS => ?_)
  have hP : va_P D vwCl [(mp, .inr (4, [.int 0, .int 8, .int 8, .int 0, .int 0, .int 1, .int 0, .ref na_1, .ref na_2, .ref na_3, .ref na_4, .ref na_5, .ref na_6, .null, .null, .null])), (na_1, .inl (cI, 6, .inl (fun _ => 0))), (na_2, .inl (cI, 6, .inl (fun _ => 0))), (na_3, .inl (cI, 12, .inl (fun _ => 0))), (na_4, .inl (cI, 144, .inl (fun _ => 0))), (na_5, .inl (cI, 12, .inl (fun _ => 0))), (na_6, .inl (cI, 144, .inl (fun _ => 0)))] _ := hP
  have hD : va_D A [(mp, .inr (4, [.int 0, .int 8, .int 8, .int 0, .int 0, .int 1, .int 0, .ref na_1, .ref na_2, .ref na_3, .ref na_4, .ref na_5, .ref na_6, .null, .null, .null])), (na_1, .inl (cI, 6, .inl (fun _ => 0))), (na_2, .inl (cI, 6, .inl (fun _ => 0))), (na_3, .inl (cI, 12, .inl (fun _ => 0))), (na_4, .inl (cI, 144, .inl (fun _ => 0))), (na_5, .inl (cI, 12, .inl (fun _ => 0))), (na_6, .inl (cI, 144, .inl (fun _ => 0)))] := hD
  refine lv_aload_n hx hb dX4_init_76 rfl (lv_at hl 0 rfl) ?_
  refine lv_bipush (v := 12) hx hb dX4_init_77 (by decide) ?_
  refine f_newi (n := 12) (N' := 12) hx hb (hts _ wi_X4_init_8) hK hP hD hS hA (by decide) (by decide) (by decide) (Nat.le_of_ble_eq_true rfl) (Nat.le_of_ble_eq_true rfl) dX4_init_79 (fun na_7 H hP hD hS => ?_)
  have hP : va_P D vwCl [(mp, .inr (4, [.int 0, .int 8, .int 8, .int 0, .int 0, .int 1, .int 0, .ref na_1, .ref na_2, .ref na_3, .ref na_4, .ref na_5, .ref na_6, .null, .null, .null])), (na_1, .inl (cI, 6, .inl (fun _ => 0))), (na_2, .inl (cI, 6, .inl (fun _ => 0))), (na_3, .inl (cI, 12, .inl (fun _ => 0))), (na_4, .inl (cI, 144, .inl (fun _ => 0))), (na_5, .inl (cI, 12, .inl (fun _ => 0))), (na_6, .inl (cI, 144, .inl (fun _ => 0))), (na_7, .inl (cI, 12, .inl (fun _ => 0)))] _ := hP
  have hD : va_D A [(mp, .inr (4, [.int 0, .int 8, .int 8, .int 0, .int 0, .int 1, .int 0, .ref na_1, .ref na_2, .ref na_3, .ref na_4, .ref na_5, .ref na_6, .null, .null, .null])), (na_1, .inl (cI, 6, .inl (fun _ => 0))), (na_2, .inl (cI, 6, .inl (fun _ => 0))), (na_3, .inl (cI, 12, .inl (fun _ => 0))), (na_4, .inl (cI, 144, .inl (fun _ => 0))), (na_5, .inl (cI, 12, .inl (fun _ => 0))), (na_6, .inl (cI, 144, .inl (fun _ => 0))), (na_7, .inl (cI, 12, .inl (fun _ => 0)))] := hD
  refine va_putF (D := D) (ci := 4) (v := .ref na_7) (ty := tyX4 13) (C := RX4) (T := TX4) (N := 16) hx hb hts wb_X4_init_4 tyX4 tyX4_ok nmX4 hown hK hP hD hS 0 rfl rfl 13 (by decide) (hts _ wi_X4_init_15) (fun _ h9 => h9) rfl hin rfl (tyX4_ok 13 (by decide)) rfl rfl (Nat.le_of_ble_eq_true rfl) dX4_init_81 (fun H locs hP hD hS => ?_)
  have hP : va_P D vwCl [(mp, .inr (4, [.int 0, .int 8, .int 8, .int 0, .int 0, .int 1, .int 0, .ref na_1, .ref na_2, .ref na_3, .ref na_4, .ref na_5, .ref na_6, .ref na_7, .null, .null])), (na_1, .inl (cI, 6, .inl (fun _ => 0))), (na_2, .inl (cI, 6, .inl (fun _ => 0))), (na_3, .inl (cI, 12, .inl (fun _ => 0))), (na_4, .inl (cI, 144, .inl (fun _ => 0))), (na_5, .inl (cI, 12, .inl (fun _ => 0))), (na_6, .inl (cI, 144, .inl (fun _ => 0))), (na_7, .inl (cI, 12, .inl (fun _ => 0)))] _ := hP
  have hD : va_D A [(mp, .inr (4, [.int 0, .int 8, .int 8, .int 0, .int 0, .int 1, .int 0, .ref na_1, .ref na_2, .ref na_3, .ref na_4, .ref na_5, .ref na_6, .ref na_7, .null, .null])), (na_1, .inl (cI, 6, .inl (fun _ => 0))), (na_2, .inl (cI, 6, .inl (fun _ => 0))), (na_3, .inl (cI, 12, .inl (fun _ => 0))), (na_4, .inl (cI, 144, .inl (fun _ => 0))), (na_5, .inl (cI, 12, .inl (fun _ => 0))), (na_6, .inl (cI, 144, .inl (fun _ => 0))), (na_7, .inl (cI, 12, .inl (fun _ => 0)))] := hD
  refine lv_aload_n hx hb dX4_init_84 rfl (lv_at hl 0 rfl) ?_
  refine lv_iconst (v := 4) hx hb dX4_init_85 (by decide) ?_
  refine f_newi (n := 4) (N' := 4) hx hb (hts _ wi_X4_init_8) hK hP hD hS hA (by decide) (by decide) (by decide) (Nat.le_of_ble_eq_true rfl) (Nat.le_of_ble_eq_true rfl) dX4_init_86 (fun na_8 H hP hD hS => ?_)
  have hP : va_P D vwCl [(mp, .inr (4, [.int 0, .int 8, .int 8, .int 0, .int 0, .int 1, .int 0, .ref na_1, .ref na_2, .ref na_3, .ref na_4, .ref na_5, .ref na_6, .ref na_7, .null, .null])), (na_1, .inl (cI, 6, .inl (fun _ => 0))), (na_2, .inl (cI, 6, .inl (fun _ => 0))), (na_3, .inl (cI, 12, .inl (fun _ => 0))), (na_4, .inl (cI, 144, .inl (fun _ => 0))), (na_5, .inl (cI, 12, .inl (fun _ => 0))), (na_6, .inl (cI, 144, .inl (fun _ => 0))), (na_7, .inl (cI, 12, .inl (fun _ => 0))), (na_8, .inl (cI, 4, .inl (fun _ => 0)))] _ := hP
  have hD : va_D A [(mp, .inr (4, [.int 0, .int 8, .int 8, .int 0, .int 0, .int 1, .int 0, .ref na_1, .ref na_2, .ref na_3, .ref na_4, .ref na_5, .ref na_6, .ref na_7, .null, .null])), (na_1, .inl (cI, 6, .inl (fun _ => 0))), (na_2, .inl (cI, 6, .inl (fun _ => 0))), (na_3, .inl (cI, 12, .inl (fun _ => 0))), (na_4, .inl (cI, 144, .inl (fun _ => 0))), (na_5, .inl (cI, 12, .inl (fun _ => 0))), (na_6, .inl (cI, 144, .inl (fun _ => 0))), (na_7, .inl (cI, 12, .inl (fun _ => 0))), (na_8, .inl (cI, 4, .inl (fun _ => 0)))] := hD
  refine va_putF (D := D) (ci := 4) (v := .ref na_8) (ty := tyX4 14) (C := RX4) (T := TX4) (N := 16) hx hb hts wb_X4_init_4 tyX4 tyX4_ok nmX4 hown hK hP hD hS 0 rfl rfl 14 (by decide) (hts _ wi_X4_init_16) (fun _ h9 => h9) rfl hin rfl (tyX4_ok 14 (by decide)) rfl rfl (Nat.le_of_ble_eq_true rfl) dX4_init_88 (fun H locs hP hD hS => ?_)
  have hP : va_P D vwCl [(mp, .inr (4, [.int 0, .int 8, .int 8, .int 0, .int 0, .int 1, .int 0, .ref na_1, .ref na_2, .ref na_3, .ref na_4, .ref na_5, .ref na_6, .ref na_7, .ref na_8, .null])), (na_1, .inl (cI, 6, .inl (fun _ => 0))), (na_2, .inl (cI, 6, .inl (fun _ => 0))), (na_3, .inl (cI, 12, .inl (fun _ => 0))), (na_4, .inl (cI, 144, .inl (fun _ => 0))), (na_5, .inl (cI, 12, .inl (fun _ => 0))), (na_6, .inl (cI, 144, .inl (fun _ => 0))), (na_7, .inl (cI, 12, .inl (fun _ => 0))), (na_8, .inl (cI, 4, .inl (fun _ => 0)))] _ := hP
  have hD : va_D A [(mp, .inr (4, [.int 0, .int 8, .int 8, .int 0, .int 0, .int 1, .int 0, .ref na_1, .ref na_2, .ref na_3, .ref na_4, .ref na_5, .ref na_6, .ref na_7, .ref na_8, .null])), (na_1, .inl (cI, 6, .inl (fun _ => 0))), (na_2, .inl (cI, 6, .inl (fun _ => 0))), (na_3, .inl (cI, 12, .inl (fun _ => 0))), (na_4, .inl (cI, 144, .inl (fun _ => 0))), (na_5, .inl (cI, 12, .inl (fun _ => 0))), (na_6, .inl (cI, 144, .inl (fun _ => 0))), (na_7, .inl (cI, 12, .inl (fun _ => 0))), (na_8, .inl (cI, 4, .inl (fun _ => 0)))] := hD
  refine lv_aload_n hx hb dX4_init_91 rfl (lv_at hl 0 rfl) ?_
  refine lv_sipush (v := 144) hx hb dX4_init_92 (by decide) ?_
  refine f_newz (n := 144) (N' := 144) hx hb (hts _ wi_X4_init_17) hK hP hD hS hA (by decide) (by decide) (by decide) (Nat.le_of_ble_eq_true rfl) (Nat.le_of_ble_eq_true rfl) dX4_init_95 (fun na_9 H hP hD hS => ?_)
  have hP : va_P D vwCl [(mp, .inr (4, [.int 0, .int 8, .int 8, .int 0, .int 0, .int 1, .int 0, .ref na_1, .ref na_2, .ref na_3, .ref na_4, .ref na_5, .ref na_6, .ref na_7, .ref na_8, .null])), (na_1, .inl (cI, 6, .inl (fun _ => 0))), (na_2, .inl (cI, 6, .inl (fun _ => 0))), (na_3, .inl (cI, 12, .inl (fun _ => 0))), (na_4, .inl (cI, 144, .inl (fun _ => 0))), (na_5, .inl (cI, 12, .inl (fun _ => 0))), (na_6, .inl (cI, 144, .inl (fun _ => 0))), (na_7, .inl (cI, 12, .inl (fun _ => 0))), (na_8, .inl (cI, 4, .inl (fun _ => 0))), (na_9, .inl (cZ, 144, .inl (fun _ => 0)))] _ := hP
  have hD : va_D A [(mp, .inr (4, [.int 0, .int 8, .int 8, .int 0, .int 0, .int 1, .int 0, .ref na_1, .ref na_2, .ref na_3, .ref na_4, .ref na_5, .ref na_6, .ref na_7, .ref na_8, .null])), (na_1, .inl (cI, 6, .inl (fun _ => 0))), (na_2, .inl (cI, 6, .inl (fun _ => 0))), (na_3, .inl (cI, 12, .inl (fun _ => 0))), (na_4, .inl (cI, 144, .inl (fun _ => 0))), (na_5, .inl (cI, 12, .inl (fun _ => 0))), (na_6, .inl (cI, 144, .inl (fun _ => 0))), (na_7, .inl (cI, 12, .inl (fun _ => 0))), (na_8, .inl (cI, 4, .inl (fun _ => 0))), (na_9, .inl (cZ, 144, .inl (fun _ => 0)))] := hD
  refine va_putF (D := D) (ci := 4) (v := .ref na_9) (ty := tyX4 15) (C := RX4) (T := TX4) (N := 16) hx hb hts wb_X4_init_4 tyX4 tyX4_ok nmX4 hown hK hP hD hS 0 rfl rfl 15 (by decide) (hts _ wi_X4_init_18) (fun _ h9 => h9) rfl hin rfl (tyX4_ok 15 (by decide)) rfl rfl (Nat.le_of_ble_eq_true rfl) dX4_init_97 (fun H locs hP hD hS => ?_)
  have hP : va_P D vwCl [(mp, .inr (4, [.int 0, .int 8, .int 8, .int 0, .int 0, .int 1, .int 0, .ref na_1, .ref na_2, .ref na_3, .ref na_4, .ref na_5, .ref na_6, .ref na_7, .ref na_8, .ref na_9])), (na_1, .inl (cI, 6, .inl (fun _ => 0))), (na_2, .inl (cI, 6, .inl (fun _ => 0))), (na_3, .inl (cI, 12, .inl (fun _ => 0))), (na_4, .inl (cI, 144, .inl (fun _ => 0))), (na_5, .inl (cI, 12, .inl (fun _ => 0))), (na_6, .inl (cI, 144, .inl (fun _ => 0))), (na_7, .inl (cI, 12, .inl (fun _ => 0))), (na_8, .inl (cI, 4, .inl (fun _ => 0))), (na_9, .inl (cZ, 144, .inl (fun _ => 0)))] _ := hP
  have hD : va_D A [(mp, .inr (4, [.int 0, .int 8, .int 8, .int 0, .int 0, .int 1, .int 0, .ref na_1, .ref na_2, .ref na_3, .ref na_4, .ref na_5, .ref na_6, .ref na_7, .ref na_8, .ref na_9])), (na_1, .inl (cI, 6, .inl (fun _ => 0))), (na_2, .inl (cI, 6, .inl (fun _ => 0))), (na_3, .inl (cI, 12, .inl (fun _ => 0))), (na_4, .inl (cI, 144, .inl (fun _ => 0))), (na_5, .inl (cI, 12, .inl (fun _ => 0))), (na_6, .inl (cI, 144, .inl (fun _ => 0))), (na_7, .inl (cI, 12, .inl (fun _ => 0))), (na_8, .inl (cI, 4, .inl (fun _ => 0))), (na_9, .inl (cZ, 144, .inl (fun _ => 0)))] := hD
  refine lv_aload_n hx hb dX4_init_100 rfl (lv_at hl 0 rfl) ?_
  refine va_get (D := D) (ci := 4) (v := .ref na_1) (C := RX4) (T := TX4) (N := 16) hx hb hts wb_X4_init_4 hown hK hP 0 rfl rfl 7 (by decide) (hts _ wi_X4_init_9) (fun _ h9 => h9) rfl dX4_init_101 ?_
  refine lv_iconst (v := 0) hx hb dX4_init_104 (by decide) ?_
  refine lv_bipush (v := 8) hx hb dX4_init_105 (by decide) ?_
  refine f_iast (k := 0) hx hb hK hP hD hS 1 0 rfl rfl rfl (by omega) (by first | decide | omega) dX4_init_107 (fun H locs hP hD hS => ?_)
  have hP : va_P D vwCl [(mp, .inr (4, [.int 0, .int 8, .int 8, .int 0, .int 0, .int 1, .int 0, .ref na_1, .ref na_2, .ref na_3, .ref na_4, .ref na_5, .ref na_6, .ref na_7, .ref na_8, .ref na_9])), (na_1, .inl (cI, 6, .inl (upd (fun _ => 0) 0 8))), (na_2, .inl (cI, 6, .inl (fun _ => 0))), (na_3, .inl (cI, 12, .inl (fun _ => 0))), (na_4, .inl (cI, 144, .inl (fun _ => 0))), (na_5, .inl (cI, 12, .inl (fun _ => 0))), (na_6, .inl (cI, 144, .inl (fun _ => 0))), (na_7, .inl (cI, 12, .inl (fun _ => 0))), (na_8, .inl (cI, 4, .inl (fun _ => 0))), (na_9, .inl (cZ, 144, .inl (fun _ => 0)))] _ := hP
  have hD : va_D A [(mp, .inr (4, [.int 0, .int 8, .int 8, .int 0, .int 0, .int 1, .int 0, .ref na_1, .ref na_2, .ref na_3, .ref na_4, .ref na_5, .ref na_6, .ref na_7, .ref na_8, .ref na_9])), (na_1, .inl (cI, 6, .inl (upd (fun _ => 0) 0 8))), (na_2, .inl (cI, 6, .inl (fun _ => 0))), (na_3, .inl (cI, 12, .inl (fun _ => 0))), (na_4, .inl (cI, 144, .inl (fun _ => 0))), (na_5, .inl (cI, 12, .inl (fun _ => 0))), (na_6, .inl (cI, 144, .inl (fun _ => 0))), (na_7, .inl (cI, 12, .inl (fun _ => 0))), (na_8, .inl (cI, 4, .inl (fun _ => 0))), (na_9, .inl (cZ, 144, .inl (fun _ => 0)))] := hD
  refine lv_aload_n hx hb dX4_init_108 rfl (lv_at hl 0 rfl) ?_
  refine va_get (D := D) (ci := 4) (v := .ref na_2) (C := RX4) (T := TX4) (N := 16) hx hb hts wb_X4_init_4 hown hK hP 0 rfl rfl 8 (by decide) (hts _ wi_X4_init_10) (fun _ h9 => h9) rfl dX4_init_109 ?_
  refine lv_iconst (v := 0) hx hb dX4_init_112 (by decide) ?_
  refine lv_bipush (v := 12) hx hb dX4_init_113 (by decide) ?_
  refine f_iast (k := 0) hx hb hK hP hD hS 2 0 rfl rfl rfl (by omega) (by first | decide | omega) dX4_init_115 (fun H locs hP hD hS => ?_)
  have hP : va_P D vwCl [(mp, .inr (4, [.int 0, .int 8, .int 8, .int 0, .int 0, .int 1, .int 0, .ref na_1, .ref na_2, .ref na_3, .ref na_4, .ref na_5, .ref na_6, .ref na_7, .ref na_8, .ref na_9])), (na_1, .inl (cI, 6, .inl (upd (fun _ => 0) 0 8))), (na_2, .inl (cI, 6, .inl (upd (fun _ => 0) 0 12))), (na_3, .inl (cI, 12, .inl (fun _ => 0))), (na_4, .inl (cI, 144, .inl (fun _ => 0))), (na_5, .inl (cI, 12, .inl (fun _ => 0))), (na_6, .inl (cI, 144, .inl (fun _ => 0))), (na_7, .inl (cI, 12, .inl (fun _ => 0))), (na_8, .inl (cI, 4, .inl (fun _ => 0))), (na_9, .inl (cZ, 144, .inl (fun _ => 0)))] _ := hP
  have hD : va_D A [(mp, .inr (4, [.int 0, .int 8, .int 8, .int 0, .int 0, .int 1, .int 0, .ref na_1, .ref na_2, .ref na_3, .ref na_4, .ref na_5, .ref na_6, .ref na_7, .ref na_8, .ref na_9])), (na_1, .inl (cI, 6, .inl (upd (fun _ => 0) 0 8))), (na_2, .inl (cI, 6, .inl (upd (fun _ => 0) 0 12))), (na_3, .inl (cI, 12, .inl (fun _ => 0))), (na_4, .inl (cI, 144, .inl (fun _ => 0))), (na_5, .inl (cI, 12, .inl (fun _ => 0))), (na_6, .inl (cI, 144, .inl (fun _ => 0))), (na_7, .inl (cI, 12, .inl (fun _ => 0))), (na_8, .inl (cI, 4, .inl (fun _ => 0))), (na_9, .inl (cZ, 144, .inl (fun _ => 0)))] := hD
  exact f_retJ_v (ws1 := fun u9 : Nat × Nat × Nat × Nat × Nat × Nat × Nat × Nat × Nat => [(mp, .inr (4, [.int 0, .int 8, .int 8, .int 0, .int 0, .int 1, .int 0, .ref (u9.1), .ref (u9.2.1), .ref (u9.2.2.1), .ref (u9.2.2.2.1), .ref (u9.2.2.2.2.1), .ref (u9.2.2.2.2.2.1), .ref (u9.2.2.2.2.2.2.1), .ref (u9.2.2.2.2.2.2.2.1), .ref (u9.2.2.2.2.2.2.2.2)])), (u9.1, .inl (cI, 6, .inl (upd (fun _ => 0) 0 8))), (u9.2.1, .inl (cI, 6, .inl (upd (fun _ => 0) 0 12))), (u9.2.2.1, .inl (cI, 12, .inl (fun _ => 0))), (u9.2.2.2.1, .inl (cI, 144, .inl (fun _ => 0))), (u9.2.2.2.2.1, .inl (cI, 12, .inl (fun _ => 0))), (u9.2.2.2.2.2.1, .inl (cI, 144, .inl (fun _ => 0))), (u9.2.2.2.2.2.2.1, .inl (cI, 12, .inl (fun _ => 0))), (u9.2.2.2.2.2.2.2.1, .inl (cI, 4, .inl (fun _ => 0))), (u9.2.2.2.2.2.2.2.2, .inl (cZ, 144, .inl (fun _ => 0)))]) (na_1, na_2, na_3, na_4, na_5, na_6, na_7, na_8, na_9) hx hb hr hlocks hP hD hS dX4_init_116

end C_specs_make
