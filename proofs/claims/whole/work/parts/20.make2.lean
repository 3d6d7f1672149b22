section C_specs_make
theorem k_X2_init : yX2_init.cls = RX2 ∧ yX2_init.cls ≠ "java/lang/invoke/MethodHandle" ∧ yX2_init.cls ≠ "java/lang/invoke/VarHandle" ∧ (parseMethodDescriptor yX2_init.desc).map (fun d => d.parameters.length) = some 0 := by decide +kernel
theorem wi_X2_init_1 : (Cond.methodLink RX2 3 objectInit) ∈ wsX2_init := List.mem_of_getElem? (i := 1) rfl
theorem wi_X2_init_2 : (Cond.instanceMethod objectInit) ∈ wsX2_init := List.mem_of_getElem? (i := 2) rfl
theorem wi_X2_init_3 : (Cond.code objectInit ⟨#[0xb1]⟩ 1 none) ∈ wsX2_init := List.mem_of_getElem? (i := 3) rfl
theorem wi_X2_init_4 : (Cond.arrayClass .int) ∈ wsX2_init := List.mem_of_getElem? (i := 4) rfl
theorem wi_X2_init_5 : (Cond.fieldLink RX2 9 "FrostPane$RuleBook" "freezes" "[I") ∈ wsX2_init := List.mem_of_getElem? (i := 5) rfl
theorem wb_X2_init_2 : ∀ w ∈ wsX20, w ∈ wsX2_init := (fun _ h => List.mem_cons_of_mem _ (List.mem_append_right _ h))
theorem wi_X2_init_6 : (Cond.fieldLink RX2 15 "FrostPane$RuleBook" "stays" "[I") ∈ wsX2_init := List.mem_of_getElem? (i := 6) rfl
set_option maxHeartbeats 4000000 in
set_option maxRecDepth 100000 in
theorem c_X2_init (l : Launch) (D : va_G) (cI cZ cJ : ClassId) (sz : Nat) (bk : Nat)  : f_Mc l yX2_init wsX2_init ({ frames := 1, cells := 2, slots := 12, locals := 12 }) D (fTY cI cZ cJ) [.ref bk] sz [(bk, .inr (2, [.null, .null, .int 0]))] (fun u9 : Nat × Nat => [(bk, .inr (2, [.ref (u9.1), .ref (u9.2), .int 0])), (u9.1, .inl (cI, 6, .inl (fun _ => 0))), (u9.2, .inl (cI, 6, .inl (fun _ => 0)))]) 2 12 := by
  refine f_ent_c (by decide) rfl (Nat.le_of_ble_eq_true rfl) ?_
  intro pg ev s m below meth cd hx hb hr hts hown hlocks hml hnm hsz hP hK hN A hD hA hS ls hl
  have hown : s.vm.findClass RX2 = some m.cls := hown
  have hl : lv_has ls 1 [(0, .ref bk)] := hl
  have hin : meth.name = "<init>" := hnm
  refine lv_aload_n hx hb dX2_init_0 rfl (lv_at hl 0 rfl) ?_
  refine W.objInit hx hb hown (hts _ wi_X2_init_1) (hts _ wi_X2_init_2) (hts _ wi_X2_init_3) rfl (by rw [hml]; exact hl.1) rfl dX2_init_1 (Nat.le_of_ble_eq_true rfl) (Nat.le_of_ble_eq_true rfl) ?_
  refine W.eq (g2 := F0 m 4 ls []) rfl ?_
  refine lv_aload_n hx hb dX2_init_4 rfl (lv_at hl 0 rfl) ?_
  refine lv_bipush (v := 6) hx hb dX2_init_5 (by decide) ?_
  refine f_newi (n := 6) (N' := 6) hx hb (hts _ wi_X2_init_4) hK hP hD hS hA (by decide) (by decide) (by decide) (Nat.le_of_ble_eq_true rfl) (Nat.le_of_ble_eq_true rfl) dX2_init_7 (fun na_1 H hP hD hS => ?_)
  have hP : va_P D vwCl [(bk, .inr (2, [.null, .null, .int 0])), (na_1, .inl (cI, 6, .inl (fun _ => 0)))] _ := hP
  have hD : va_D A [(bk, .inr (2, [.null, .null, .int 0])), (na_1, .inl (cI, 6, .inl (fun _ => 0)))] := hD
  refine va_putF (D := D) (ci := 2) (v := .ref na_1) (ty := tyX2 0) (C := RX2) (T := TX2) (N := 3) hx hb hts wb_X2_init_2 tyX2 tyX2_ok nmX2 hown hK hP hD hS 0 rfl rfl 0 (by decide) (hts _ wi_X2_init_5) (fun _ h9 => h9) rfl hin rfl (tyX2_ok 0 (by decide)) rfl rfl (Nat.le_of_ble_eq_true rfl) dX2_init_9 (fun H locs hP hD hS => ?_)
  have hP : va_P D vwCl [(bk, .inr (2, [.ref na_1, .null, .int 0])), (na_1, .inl (cI, 6, .inl (fun _ => 0)))] _ := hP
  have hD : va_D A [(bk, .inr (2, [.ref na_1, .null, .int 0])), (na_1, .inl (cI, 6, .inl (fun _ => 0)))] := hD
  refine lv_aload_n hx hb dX2_init_12 rfl (lv_at hl 0 rfl) ?_
  refine lv_bipush (v := 6) hx hb dX2_init_13 (by decide) ?_
  refine f_newi (n := 6) (N' := 6) hx hb (hts _ wi_X2_init_4) hK hP hD hS hA (by decide) (by decide) (by decide) (Nat.le_of_ble_eq_true rfl) (Nat.le_of_ble_eq_true rfl) dX2_init_15 (fun na_2 H hP hD hS => ?_)
  have hP : va_P D vwCl [(bk, .inr (2, [.ref na_1, .null, .int 0])), (na_1, .inl (cI, 6, .inl (fun _ => 0))), (na_2, .inl (cI, 6, .inl (fun _ => 0)))] _ := hP
  have hD : va_D A [(bk, .inr (2, [.ref na_1, .null, .int 0])), (na_1, .inl (cI, 6, .inl (fun _ => 0))), (na_2, .inl (cI, 6, .inl (fun _ => 0)))] := hD
  refine va_putF (D := D) (ci := 2) (v := .ref na_2) (ty := tyX2 1) (C := RX2) (T := TX2) (N := 3) hx hb hts wb_X2_init_2 tyX2 tyX2_ok nmX2 hown hK hP hD hS 0 rfl rfl 1 (by decide) (hts _ wi_X2_init_6) (fun _ h9 => h9) rfl hin rfl (tyX2_ok 1 (by decide)) rfl rfl (Nat.le_of_ble_eq_true rfl) dX2_init_17 (fun H locs hP hD hS => ?_)
  have hP : va_P D vwCl [(bk, .inr (2, [.ref na_1, .ref na_2, .int 0])), (na_1, .inl (cI, 6, .inl (fun _ => 0))), (na_2, .inl (cI, 6, .inl (fun _ => 0)))] _ := hP
  have hD : va_D A [(bk, .inr (2, [.ref na_1, .ref na_2, .int 0])), (na_1, .inl (cI, 6, .inl (fun _ => 0))), (na_2, .inl (cI, 6, .inl (fun _ => 0)))] := hD
  exact f_retJ_v (na_1, na_2) hx hb hr hlocks hP hD hS dX2_init_20

end C_specs_make
