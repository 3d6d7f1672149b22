section C_specs_model
theorem k_X4_thrown : yX4_thrown.cls = RX4 ∧ yX4_thrown.cls ≠ "java/lang/invoke/MethodHandle" ∧ yX4_thrown.cls ≠ "java/lang/invoke/VarHandle" ∧ (parseMethodDescriptor yX4_thrown.desc).map (fun d => d.parameters.length) = some 0 := by decide +kernel
theorem wb_X4_thrown_4 : ∀ w ∈ wsX40, w ∈ wsX4_thrown := (fun _ h => List.mem_cons_of_mem _ (List.mem_append_right _ h))
theorem wi_X4_thrown_1 : (Cond.fieldLink RX4 51 "FrostPaneModel" "thrown" "I") ∈ wsX4_thrown := List.mem_of_getElem? (i := 1) rfl
set_option maxHeartbeats 4000000 in
set_option maxRecDepth 100000 in
theorem c_X4_thrown (l : Launch) (D : va_G) (cI cZ cJ : ClassId) (sz : Nat) (mp mf ms mi mm mk mq mn mu mv C R F n b : Nat) (tw gn : Int32) (fz ml frA stA kp km nx sm sn : Nat → Int32) (hC3 : 3 ≤ C) (hC : C ≤ 12) (hR3 : 3 ≤ R) (hR : R ≤ 12) (hF : F ≤ 2) (hn : n ≤ 6) (hb0 : b < n) : f_Mi l yX4_thrown wsX4_thrown ({ frames := 0, cells := 0, slots := 0, locals := 0 }) D (fTY cI cZ cJ) [.ref mp] sz [(mp, .inr (4, [.int tw, .int (nI C), .int (nI R), .int (nI F), .int gn, .int (nI n), .int (nI b), .ref mf, .ref ms, .ref mi, .ref mm, .ref mk, .ref mq, .ref mn, .ref mu, .ref mv])), (mf, .inl (cI, 6, .inl frA)), (ms, .inl (cI, 6, .inl stA)), (mi, .inl (cI, 12, .inl fz)), (mm, .inl (cI, 144, .inl ml)), (mk, .inl (cI, 12, .inl kp)), (mq, .inl (cI, 144, .inl km)), (mn, .inl (cI, 12, .inl nx)), (mu, .inl (cI, 4, .inl sm)), (mv, .inl (cZ, 144, .inl sn))] (tw) [(mp, .inr (4, [.int tw, .int (nI C), .int (nI R), .int (nI F), .int gn, .int (nI n), .int (nI b), .ref mf, .ref ms, .ref mi, .ref mm, .ref mk, .ref mq, .ref mn, .ref mu, .ref mv])), (mf, .inl (cI, 6, .inl frA)), (ms, .inl (cI, 6, .inl stA)), (mi, .inl (cI, 12, .inl fz)), (mm, .inl (cI, 144, .inl ml)), (mk, .inl (cI, 12, .inl kp)), (mq, .inl (cI, 144, .inl km)), (mn, .inl (cI, 12, .inl nx)), (mu, .inl (cI, 4, .inl sm)), (mv, .inl (cZ, 144, .inl sn))] := by
  refine f_ent_i (by decide) rfl (Nat.le_of_ble_eq_true rfl) ?_
  intro pg ev s m below meth cd hx hb hr hts hown hlocks hml hnm hsz hP hK hN A hD hA hS ls hl
  have hown : s.vm.findClass RX4 = some m.cls := hown
  have hl : lv_has ls 1 [(0, .ref mp)] := hl
  refine lv_aload_n hx hb dX4_thrown_0 rfl (lv_at hl 0 rfl) ?_
  refine va_get (D := D) (ci := 4) (v := .int tw) (C := RX4) (T := TX4) (N := 16) hx hb hts wb_X4_thrown_4 hown hK hP 0 rfl rfl 0 (by decide) (hts _ wi_X4_thrown_1) (fun _ h9 => h9) rfl dX4_thrown_1 ?_
  exact f_ret_i hx hb hr hlocks hP hD hS dX4_thrown_4 (by rfl)

theorem k_X4_no : yX4_no.cls = RX4 ∧ yX4_no.cls ≠ "java/lang/invoke/MethodHandle" ∧ yX4_no.cls ≠ "java/lang/invoke/VarHandle" ∧ (parseMethodDescriptor yX4_no.desc).map (fun d => d.parameters.length) = some 1 := by decide +kernel
theorem wi_X4_no_1 : (Cond.fieldLink RX4 51 "FrostPaneModel" "thrown" "I") ∈ wsX4_no := List.mem_of_getElem? (i := 1) rfl
theorem wb_X4_no_4 : ∀ w ∈ wsX40, w ∈ wsX4_no := (fun _ h => List.mem_cons_of_mem _ (List.mem_append_right _ h))
set_option maxHeartbeats 4000000 in
set_option maxRecDepth 100000 in
theorem c_X4_no (l : Launch) (D : va_G) (cI cZ cJ : ClassId) (sz : Nat) (mp mf ms mi mm mk mq mn mu mv C R F n b : Nat) (tw gn : Int32) (fz ml frA stA kp km nx sm sn : Nat → Int32) (x : Int32) (hC3 : 3 ≤ C) (hC : C ≤ 12) (hR3 : 3 ≤ R) (hR : R ≤ 12) (hF : F ≤ 2) (hn : n ≤ 6) (hb0 : b < n) : f_Mi l yX4_no wsX4_no ({ frames := 0, cells := 0, slots := 0, locals := 0 }) D (fTY cI cZ cJ) [.ref mp, .int x] sz [(mp, .inr (4, [.int tw, .int (nI C), .int (nI R), .int (nI F), .int gn, .int (nI n), .int (nI b), .ref mf, .ref ms, .ref mi, .ref mm, .ref mk, .ref mq, .ref mn, .ref mu, .ref mv])), (mf, .inl (cI, 6, .inl frA)), (ms, .inl (cI, 6, .inl stA)), (mi, .inl (cI, 12, .inl fz)), (mm, .inl (cI, 144, .inl ml)), (mk, .inl (cI, 12, .inl kp)), (mq, .inl (cI, 144, .inl km)), (mn, .inl (cI, 12, .inl nx)), (mu, .inl (cI, 4, .inl sm)), (mv, .inl (cZ, 144, .inl sn))] (0) [(mp, .inr (4, [.int x, .int (nI C), .int (nI R), .int (nI F), .int gn, .int (nI n), .int (nI b), .ref mf, .ref ms, .ref mi, .ref mm, .ref mk, .ref mq, .ref mn, .ref mu, .ref mv])), (mf, .inl (cI, 6, .inl frA)), (ms, .inl (cI, 6, .inl stA)), (mi, .inl (cI, 12, .inl fz)), (mm, .inl (cI, 144, .inl ml)), (mk, .inl (cI, 12, .inl kp)), (mq, .inl (cI, 144, .inl km)), (mn, .inl (cI, 12, .inl nx)), (mu, .inl (cI, 4, .inl sm)), (mv, .inl (cZ, 144, .inl sn))] := by
  refine f_ent_i (by decide) rfl (Nat.le_of_ble_eq_true rfl) ?_
  intro pg ev s m below meth cd hx hb hr hts hown hlocks hml hnm hsz hP hK hN A hD hA hS ls hl
  have hown : s.vm.findClass RX4 = some m.cls := hown
  have hl : lv_has ls 2 [(0, .ref mp), (1, .int x)] := hl
  refine lv_aload_n hx hb dX4_no_0 rfl (lv_at hl 0 rfl) ?_
  refine lv_iload_n hx hb dX4_no_1 rfl (lv_at hl 1 rfl) ?_
  refine va_put (D := D) (ci := 4) (v := .int x) (ty := tyX4 0) (C := RX4) (T := TX4) (N := 16) hx hb hts wb_X4_no_4 tyX4 tyX4_ok nmX4 hown hK hP hD hS 0 rfl rfl 0 (by decide) (hts _ wi_X4_no_1) (fun _ h9 => h9) rfl (tyX4_ok 0 (by decide)) rfl rfl (Nat.le_of_ble_eq_true rfl) dX4_no_2 (fun H locs hP hD hS => ?_)
  have hP : va_P D vwCl [(mp, .inr (4, [.int x, .int (nI C), .int (nI R), .int (nI F), .int gn, .int (nI n), .int (nI b), .ref mf, .ref ms, .ref mi, .ref mm, .ref mk, .ref mq, .ref mn, .ref mu, .ref mv])), (mf, .inl (cI, 6, .inl frA)), (ms, .inl (cI, 6, .inl stA)), (mi, .inl (cI, 12, .inl fz)), (mm, .inl (cI, 144, .inl ml)), (mk, .inl (cI, 12, .inl kp)), (mq, .inl (cI, 144, .inl km)), (mn, .inl (cI, 12, .inl nx)), (mu, .inl (cI, 4, .inl sm)), (mv, .inl (cZ, 144, .inl sn))] _ := hP
  have hD : va_D A [(mp, .inr (4, [.int x, .int (nI C), .int (nI R), .int (nI F), .int gn, .int (nI n), .int (nI b), .ref mf, .ref ms, .ref mi, .ref mm, .ref mk, .ref mq, .ref mn, .ref mu, .ref mv])), (mf, .inl (cI, 6, .inl frA)), (ms, .inl (cI, 6, .inl stA)), (mi, .inl (cI, 12, .inl fz)), (mm, .inl (cI, 144, .inl ml)), (mk, .inl (cI, 12, .inl kp)), (mq, .inl (cI, 144, .inl km)), (mn, .inl (cI, 12, .inl nx)), (mu, .inl (cI, 4, .inl sm)), (mv, .inl (cZ, 144, .inl sn))] := hD
  refine lv_iconst (v := 0) hx hb dX4_no_5 (by decide) ?_
  exact f_ret_i hx hb hr hlocks hP hD hS dX4_no_6 (by rfl)

theorem k_X4_isNot : yX4_isNot.cls = RX4 ∧ yX4_isNot.cls ≠ "java/lang/invoke/MethodHandle" ∧ yX4_isNot.cls ≠ "java/lang/invoke/VarHandle" ∧ (parseMethodDescriptor yX4_isNot.desc).map (fun d => d.parameters.length) = some 1 := by decide +kernel
theorem wi_X4_isNot_1 : (Cond.fieldLink RX4 51 "FrostPaneModel" "thrown" "I") ∈ wsX4_isNot := List.mem_of_getElem? (i := 1) rfl
theorem wb_X4_isNot_4 : ∀ w ∈ wsX40, w ∈ wsX4_isNot := (fun _ h => List.mem_cons_of_mem _ (List.mem_append_right _ h))
set_option maxHeartbeats 4000000 in
set_option maxRecDepth 100000 in
theorem c_X4_isNot (l : Launch) (D : va_G) (cI cZ cJ : ClassId) (sz : Nat) (mp mf ms mi mm mk mq mn mu mv C R F n b : Nat) (tw gn : Int32) (fz ml frA stA kp km nx sm sn : Nat → Int32) (x : Int32) (hC3 : 3 ≤ C) (hC : C ≤ 12) (hR3 : 3 ≤ R) (hR : R ≤ 12) (hF : F ≤ 2) (hn : n ≤ 6) (hb0 : b < n) : f_Mi l yX4_isNot wsX4_isNot ({ frames := 0, cells := 0, slots := 0, locals := 0 }) D (fTY cI cZ cJ) [.ref mp, .int x] sz [(mp, .inr (4, [.int tw, .int (nI C), .int (nI R), .int (nI F), .int gn, .int (nI n), .int (nI b), .ref mf, .ref ms, .ref mi, .ref mm, .ref mk, .ref mq, .ref mn, .ref mu, .ref mv])), (mf, .inl (cI, 6, .inl frA)), (ms, .inl (cI, 6, .inl stA)), (mi, .inl (cI, 12, .inl fz)), (mm, .inl (cI, 144, .inl ml)), (mk, .inl (cI, 12, .inl kp)), (mq, .inl (cI, 144, .inl km)), (mn, .inl (cI, 12, .inl nx)), (mu, .inl (cI, 4, .inl sm)), (mv, .inl (cZ, 144, .inl sn))] (0) [(mp, .inr (4, [.int x, .int (nI C), .int (nI R), .int (nI F), .int gn, .int (nI n), .int (nI b), .ref mf, .ref ms, .ref mi, .ref mm, .ref mk, .ref mq, .ref mn, .ref mu, .ref mv])), (mf, .inl (cI, 6, .inl frA)), (ms, .inl (cI, 6, .inl stA)), (mi, .inl (cI, 12, .inl fz)), (mm, .inl (cI, 144, .inl ml)), (mk, .inl (cI, 12, .inl kp)), (mq, .inl (cI, 144, .inl km)), (mn, .inl (cI, 12, .inl nx)), (mu, .inl (cI, 4, .inl sm)), (mv, .inl (cZ, 144, .inl sn))] := by
  refine f_ent_i (by decide) rfl (Nat.le_of_ble_eq_true rfl) ?_
  intro pg ev s m below meth cd hx hb hr hts hown hlocks hml hnm hsz hP hK hN A hD hA hS ls hl
  have hown : s.vm.findClass RX4 = some m.cls := hown
  have hl : lv_has ls 2 [(0, .ref mp), (1, .int x)] := hl
  refine lv_aload_n hx hb dX4_isNot_0 rfl (lv_at hl 0 rfl) ?_
  refine lv_iload_n hx hb dX4_isNot_1 rfl (lv_at hl 1 rfl) ?_
  refine va_put (D := D) (ci := 4) (v := .int x) (ty := tyX4 0) (C := RX4) (T := TX4) (N := 16) hx hb hts wb_X4_isNot_4 tyX4 tyX4_ok nmX4 hown hK hP hD hS 0 rfl rfl 0 (by decide) (hts _ wi_X4_isNot_1) (fun _ h9 => h9) rfl (tyX4_ok 0 (by decide)) rfl rfl (Nat.le_of_ble_eq_true rfl) dX4_isNot_2 (fun H locs hP hD hS => ?_)
  have hP : va_P D vwCl [(mp, .inr (4, [.int x, .int (nI C), .int (nI R), .int (nI F), .int gn, .int (nI n), .int (nI b), .ref mf, .ref ms, .ref mi, .ref mm, .ref mk, .ref mq, .ref mn, .ref mu, .ref mv])), (mf, .inl (cI, 6, .inl frA)), (ms, .inl (cI, 6, .inl stA)), (mi, .inl (cI, 12, .inl fz)), (mm, .inl (cI, 144, .inl ml)), (mk, .inl (cI, 12, .inl kp)), (mq, .inl (cI, 144, .inl km)), (mn, .inl (cI, 12, .inl nx)), (mu, .inl (cI, 4, .inl sm)), (mv, .inl (cZ, 144, .inl sn))] _ := hP
  have hD : va_D A [(mp, .inr (4, [.int x, .int (nI C), .int (nI R), .int (nI F), .int gn, .int (nI n), .int (nI b), .ref mf, .ref ms, .ref mi, .ref mm, .ref mk, .ref mq, .ref mn, .ref mu, .ref mv])), (mf, .inl (cI, 6, .inl frA)), (ms, .inl (cI, 6, .inl stA)), (mi, .inl (cI, 12, .inl fz)), (mm, .inl (cI, 144, .inl ml)), (mk, .inl (cI, 12, .inl kp)), (mq, .inl (cI, 144, .inl km)), (mn, .inl (cI, 12, .inl nx)), (mu, .inl (cI, 4, .inl sm)), (mv, .inl (cZ, 144, .inl sn))] := hD
  refine lv_iconst (v := 0) hx hb dX4_isNot_5 (by decide) ?_
  exact f_ret_z hx hb hr hlocks hP hD hS dX4_isNot_6 (by rfl) (rfl)

theorem k_X4_ok : yX4_ok.cls = RX4 ∧ yX4_ok.cls ≠ "java/lang/invoke/MethodHandle" ∧ yX4_ok.cls ≠ "java/lang/invoke/VarHandle" ∧ (parseMethodDescriptor yX4_ok.desc).map (fun d => d.parameters.length) = some 1 := by decide +kernel
theorem wi_X4_ok_1 : (Cond.fieldLink RX4 51 "FrostPaneModel" "thrown" "I") ∈ wsX4_ok := List.mem_of_getElem? (i := 1) rfl
theorem wb_X4_ok_4 : ∀ w ∈ wsX40, w ∈ wsX4_ok := (fun _ h => List.mem_cons_of_mem _ (List.mem_append_right _ h))
set_option maxHeartbeats 4000000 in
set_option maxRecDepth 100000 in
theorem c_X4_ok (l : Launch) (D : va_G) (cI cZ cJ : ClassId) (sz : Nat) (mp mf ms mi mm mk mq mn mu mv C R F n b : Nat) (tw gn : Int32) (fz ml frA stA kp km nx sm sn : Nat → Int32) (x : Int32) (hC3 : 3 ≤ C) (hC : C ≤ 12) (hR3 : 3 ≤ R) (hR : R ≤ 12) (hF : F ≤ 2) (hn : n ≤ 6) (hb0 : b < n) : f_Mi l yX4_ok wsX4_ok ({ frames := 0, cells := 0, slots := 0, locals := 0 }) D (fTY cI cZ cJ) [.ref mp, .int x] sz [(mp, .inr (4, [.int tw, .int (nI C), .int (nI R), .int (nI F), .int gn, .int (nI n), .int (nI b), .ref mf, .ref ms, .ref mi, .ref mm, .ref mk, .ref mq, .ref mn, .ref mu, .ref mv])), (mf, .inl (cI, 6, .inl frA)), (ms, .inl (cI, 6, .inl stA)), (mi, .inl (cI, 12, .inl fz)), (mm, .inl (cI, 144, .inl ml)), (mk, .inl (cI, 12, .inl kp)), (mq, .inl (cI, 144, .inl km)), (mn, .inl (cI, 12, .inl nx)), (mu, .inl (cI, 4, .inl sm)), (mv, .inl (cZ, 144, .inl sn))] (x) [(mp, .inr (4, [.int 0, .int (nI C), .int (nI R), .int (nI F), .int gn, .int (nI n), .int (nI b), .ref mf, .ref ms, .ref mi, .ref mm, .ref mk, .ref mq, .ref mn, .ref mu, .ref mv])), (mf, .inl (cI, 6, .inl frA)), (ms, .inl (cI, 6, .inl stA)), (mi, .inl (cI, 12, .inl fz)), (mm, .inl (cI, 144, .inl ml)), (mk, .inl (cI, 12, .inl kp)), (mq, .inl (cI, 144, .inl km)), (mn, .inl (cI, 12, .inl nx)), (mu, .inl (cI, 4, .inl sm)), (mv, .inl (cZ, 144, .inl sn))] := by
  refine f_ent_i (by decide) rfl (Nat.le_of_ble_eq_true rfl) ?_
  intro pg ev s m below meth cd hx hb hr hts hown hlocks hml hnm hsz hP hK hN A hD hA hS ls hl
  have hown : s.vm.findClass RX4 = some m.cls := hown
  have hl : lv_has ls 2 [(0, .ref mp), (1, .int x)] := hl
  refine lv_aload_n hx hb dX4_ok_0 rfl (lv_at hl 0 rfl) ?_
  refine lv_iconst (v := 0) hx hb dX4_ok_1 (by decide) ?_
  refine va_put (D := D) (ci := 4) (v := .int 0) (ty := tyX4 0) (C := RX4) (T := TX4) (N := 16) hx hb hts wb_X4_ok_4 tyX4 tyX4_ok nmX4 hown hK hP hD hS 0 rfl rfl 0 (by decide) (hts _ wi_X4_ok_1) (fun _ h9 => h9) rfl (tyX4_ok 0 (by decide)) rfl rfl (Nat.le_of_ble_eq_true rfl) dX4_ok_2 (fun H locs hP hD hS => ?_)
  have hP : va_P D vwCl [(mp, .inr (4, [.int 0, .int (nI C), .int (nI R), .int (nI F), .int gn, .int (nI n), .int (nI b), .ref mf, .ref ms, .ref mi, .ref mm, .ref mk, .ref mq, .ref mn, .ref mu, .ref mv])), (mf, .inl (cI, 6, .inl frA)), (ms, .inl (cI, 6, .inl stA)), (mi, .inl (cI, 12, .inl fz)), (mm, .inl (cI, 144, .inl ml)), (mk, .inl (cI, 12, .inl kp)), (mq, .inl (cI, 144, .inl km)), (mn, .inl (cI, 12, .inl nx)), (mu, .inl (cI, 4, .inl sm)), (mv, .inl (cZ, 144, .inl sn))] _ := hP
  have hD : va_D A [(mp, .inr (4, [.int 0, .int (nI C), .int (nI R), .int (nI F), .int gn, .int (nI n), .int (nI b), .ref mf, .ref ms, .ref mi, .ref mm, .ref mk, .ref mq, .ref mn, .ref mu, .ref mv])), (mf, .inl (cI, 6, .inl frA)), (ms, .inl (cI, 6, .inl stA)), (mi, .inl (cI, 12, .inl fz)), (mm, .inl (cI, 144, .inl ml)), (mk, .inl (cI, 12, .inl kp)), (mq, .inl (cI, 144, .inl km)), (mn, .inl (cI, 12, .inl nx)), (mu, .inl (cI, 4, .inl sm)), (mv, .inl (cZ, 144, .inl sn))] := hD
  refine lv_iload_n hx hb dX4_ok_5 rfl (lv_at hl 1 rfl) ?_
  exact f_ret_i hx hb hr hlocks hP hD hS dX4_ok_6 (by rfl)

theorem k_X4_isIn : yX4_isIn.cls = RX4 ∧ yX4_isIn.cls ≠ "java/lang/invoke/MethodHandle" ∧ yX4_isIn.cls ≠ "java/lang/invoke/VarHandle" ∧ (parseMethodDescriptor yX4_isIn.desc).map (fun d => d.parameters.length) = some 3 := by decide +kernel
/-- X4_isIn: read off its bytecode -/
def sp_X4_isIn (x : Int32) (lo : Int32) (hi : Int32) : Int32 := if x < lo then 0 else (if hi < x then 0 else 1)
set_option maxHeartbeats 4000000 in
set_option maxRecDepth 100000 in
theorem c_X4_isIn (l : Launch) (D : va_G) (cI cZ cJ : ClassId) (sz : Nat) (x lo hi : Int32)  : f_Mi l yX4_isIn wsX4_isIn ({ frames := 0, cells := 0, slots := 0, locals := 0 }) D (fTY cI cZ cJ) [.int x, .int lo, .int hi] sz [] (sp_X4_isIn x lo hi) [] := by
  refine f_ent_i (by decide) rfl (Nat.le_of_ble_eq_true rfl) ?_
  intro pg ev s m below meth cd hx hb hr hts hown hlocks hml hnm hsz hP hK hN A hD hA hS ls hl
  have hown : s.vm.findClass RX4 = some m.cls := hown
  have hl : lv_has ls 3 [(0, .int x), (1, .int lo), (2, .int hi)] := hl
  refine lv_iload_n hx hb dX4_isIn_0 rfl (lv_at hl 0 rfl) ?_
  refine lv_iload_n hx hb dX4_isIn_1 rfl (lv_at hl 1 rfl) ?_
  refine lv_icmp_lt (tgt := 14) hx hb dX4_isIn_2 (by decide) (fun c_1 => ?_) (fun c_1 => ?_)
  · refine lv_iconst (v := 0) hx hb dX4_isIn_14 (by decide) ?_
    exact f_ret_z hx hb hr hlocks hP hD hS dX4_isIn_15 (by rw [sp_X4_isIn, if_pos c_1]) (by unfold sp_X4_isIn; first | rfl | (repeat (first | rfl | split)))
  · refine lv_iload_n hx hb dX4_isIn_5 rfl (lv_at hl 0 rfl) ?_
    refine lv_iload_n hx hb dX4_isIn_6 rfl (lv_at hl 2 rfl) ?_
    refine lv_icmp_gt (tgt := 14) hx hb dX4_isIn_7 (by decide) (fun c_2 => ?_) (fun c_2 => ?_)
    · refine lv_iconst (v := 0) hx hb dX4_isIn_14 (by decide) ?_
      exact f_ret_z hx hb hr hlocks hP hD hS dX4_isIn_15 (by rw [sp_X4_isIn, if_neg c_1, if_pos c_2]) (by unfold sp_X4_isIn; first | rfl | (repeat (first | rfl | split)))
    · refine lv_iconst (v := 1) hx hb dX4_isIn_10 (by decide) ?_
      refine lv_goto (tgt := 15) hx hb dX4_isIn_11 (by decide) ?_
      exact f_ret_z hx hb hr hlocks hP hD hS dX4_isIn_15 (by rw [sp_X4_isIn, if_neg c_1, if_neg c_2]) (by unfold sp_X4_isIn; first | rfl | (repeat (first | rfl | split)))

theorem sp_isIn_yes {x lo hi : Nat} (h1 : lo ≤ x) (h2 : x ≤ hi) (h3 : hi < 2 ^ 31) : sp_X4_isIn (nI x) (nI lo) (nI hi) = 1 := by
  unfold sp_X4_isIn
  rw [if_neg (nI_nlt h1 (by omega)), if_neg (nI_nlt h2 h3)]
theorem sp_isIn_of {x : Int32} {lo hi : Nat} (h : ¬ sp_X4_isIn x (nI lo) (nI hi) = 0) (h3 : hi < 2 ^ 31) (h4 : lo ≤ hi) : ∃ k : Nat, lo ≤ k ∧ k ≤ hi ∧ x = nI k := by
  unfold sp_X4_isIn at h
  split at h
  · exact absurd rfl h
  · rename_i h1
    split at h
    · exact absurd rfl h
    · rename_i h2
      have hx : ¬ x < 0 := by
        intro hx
        apply h1
        rw [Int32.lt_iff_toInt_lt] at hx ⊢
        rw [nI_toInt (by omega)]
        have : (0 : Int32).toInt = 0 := rfl
        omega
      obtain ⟨k, hk, rfl⟩ := nI_of hx
      exact ⟨k, Nat.le_of_not_lt (fun h => h1 (nI_lt h (by omega))), Nat.le_of_not_lt (fun h => h2 (nI_lt h hk)), rfl⟩
theorem sub1 {C : Nat} (h : 1 ≤ C) : nI C - 1 = nI (C - 1) := pk_sub (b := 1) h
theorem isIn_row (C : Nat) (x : Int32) (h : 1 ≤ C) (hC : C ≤ 12) : sp_X4_isIn x 0 (nI C - 1) = sp_X1_hasRow C x := by
  rw [sub1 h]
  unfold sp_X4_isIn sp_X1_hasRow
  by_cases h1 : x < 0
  · rw [if_pos h1, if_pos h1]
  · rw [if_neg h1, if_neg h1]
    obtain ⟨k, hk, rfl⟩ := nI_of h1
    by_cases h2 : nI (C - 1) < nI k
    · have := (nI_ltI (by omega) hk).mp h2
      rw [if_pos h2, if_pos (nI_le (show C ≤ k by omega) hk)]
    · have := Nat.le_of_not_lt (fun z => h2 ((nI_ltI (by omega) hk).mpr z))
      rw [if_neg h2, if_neg (nI_ge (show k < C by omega) (by omega))]
theorem hasCell_eq (C R : Nat) (col row : Int32) : sp_X1_hasCell C R col row = if sp_X1_hasRow C col = 0 then 0 else if sp_X1_hasRow R row = 0 then 0 else 1 := by
  unfold sp_X1_hasCell
  by_cases h1 : col < 0
  · rw [if_pos h1, if_pos (by unfold sp_X1_hasRow; rw [if_pos h1])]
  · rw [if_neg h1]
    by_cases h2 : nI C ≤ col
    · rw [if_pos h2, if_pos (by unfold sp_X1_hasRow; rw [if_neg h1, if_pos h2])]
    · rw [if_neg h2, if_neg (show ¬ sp_X1_hasRow C col = 0 by unfold sp_X1_hasRow; rw [if_neg h1, if_neg h2]; decide)]
theorem sp_hasCell_nar (C R : Nat) (col row : Int32) : narrow .boolean (.int (sp_X1_hasCell C R col row)) = .int (sp_X1_hasCell C R col row) := by
  rw [hasCell_eq]; (repeat (first | rfl | split))
theorem isIn_no {x lo hi : Int32} (h : x < lo ∨ hi < x) : sp_X4_isIn x lo hi = 0 := by
  unfold sp_X4_isIn
  rcases h with h | h
  · rw [if_pos h]
  · by_cases h1 : x < lo
    · rw [if_pos h1]
    · rw [if_neg h1, if_pos h]
theorem k_X4_isCell : yX4_isCell.cls = RX4 ∧ yX4_isCell.cls ≠ "java/lang/invoke/MethodHandle" ∧ yX4_isCell.cls ≠ "java/lang/invoke/VarHandle" ∧ (parseMethodDescriptor yX4_isCell.desc).map (fun d => d.parameters.length) = some 2 := by decide +kernel
theorem wb_X4_isCell_4 : ∀ w ∈ wsX40, w ∈ wsX4_isCell := (fun _ h => List.mem_cons_of_mem _ (List.mem_append_right _ h))
theorem wi_X4_isCell_1 : (Cond.fieldLink RX4 7 "FrostPaneModel" "columns" "I") ∈ wsX4_isCell := List.mem_of_getElem? (i := 1) rfl
theorem wi_X4_isCell_2 : (Cond.fieldLink RX4 13 "FrostPaneModel" "rows" "I") ∈ wsX4_isCell := List.mem_of_getElem? (i := 2) rfl
set_option maxHeartbeats 4000000 in
set_option maxRecDepth 100000 in
theorem c_X4_isCell (l : Launch) (D : va_G) (cI cZ cJ : ClassId) (sz : Nat) (mp mf ms mi mm mk mq mn mu mv C R F n b : Nat) (tw gn : Int32) (fz ml frA stA kp km nx sm sn : Nat → Int32) (col row : Int32) (hC3 : 3 ≤ C) (hC : C ≤ 12) (hR3 : 3 ≤ R) (hR : R ≤ 12) (hF : F ≤ 2) (hn : n ≤ 6) (hb0 : b < n) : f_Mi l yX4_isCell wsX4_isCell ({ frames := 1, cells := 0, slots := 0, locals := 22 }) D (fTY cI cZ cJ) [.ref mp, .int col, .int row] sz [(mp, .inr (4, [.int tw, .int (nI C), .int (nI R), .int (nI F), .int gn, .int (nI n), .int (nI b), .ref mf, .ref ms, .ref mi, .ref mm, .ref mk, .ref mq, .ref mn, .ref mu, .ref mv])), (mf, .inl (cI, 6, .inl frA)), (ms, .inl (cI, 6, .inl stA)), (mi, .inl (cI, 12, .inl fz)), (mm, .inl (cI, 144, .inl ml)), (mk, .inl (cI, 12, .inl kp)), (mq, .inl (cI, 144, .inl km)), (mn, .inl (cI, 12, .inl nx)), (mu, .inl (cI, 4, .inl sm)), (mv, .inl (cZ, 144, .inl sn))] (sp_X1_hasCell C R col row) [(mp, .inr (4, [.int tw, .int (nI C), .int (nI R), .int (nI F), .int gn, .int (nI n), .int (nI b), .ref mf, .ref ms, .ref mi, .ref mm, .ref mk, .ref mq, .ref mn, .ref mu, .ref mv])), (mf, .inl (cI, 6, .inl frA)), (ms, .inl (cI, 6, .inl stA)), (mi, .inl (cI, 12, .inl fz)), (mm, .inl (cI, 144, .inl ml)), (mk, .inl (cI, 12, .inl kp)), (mq, .inl (cI, 144, .inl km)), (mn, .inl (cI, 12, .inl nx)), (mu, .inl (cI, 4, .inl sm)), (mv, .inl (cZ, 144, .inl sn))] := by
  refine f_ent_i (by decide) rfl (Nat.le_of_ble_eq_true rfl) ?_
  intro pg ev s m below meth cd hx hb hr hts hown hlocks hml hnm hsz hP hK hN A hD hA hS ls hl
  have hown : s.vm.findClass RX4 = some m.cls := hown
  have hl : lv_has ls 3 [(0, .ref mp), (1, .int col), (2, .int row)] := hl
  refine lv_iload_n hx hb dX4_isCell_0 rfl (lv_at hl 1 rfl) ?_
  refine lv_iconst (v := 0) hx hb dX4_isCell_1 (by decide) ?_
  refine lv_aload_n hx hb dX4_isCell_2 rfl (lv_at hl 0 rfl) ?_
  refine va_get (D := D) (ci := 4) (v := .int (nI C)) (C := RX4) (T := TX4) (N := 16) hx hb hts wb_X4_isCell_4 hown hK hP 0 rfl rfl 1 (by decide) (hts _ wi_X4_isCell_1) (fun _ h9 => h9) rfl dX4_isCell_3 ?_
  refine lv_iconst (v := 1) hx hb dX4_isCell_6 (by decide) ?_
  refine lv_isub hx hb dX4_isCell_7 ?_
  refine f_callSi ⟨hx, hb, hml, hown, hts⟩ hP hD hS hA hK hN [] (w2 := [(mp, .inr (4, [.int tw, .int (nI C), .int (nI R), .int (nI F), .int gn, .int (nI n), .int (nI b), .ref mf, .ref ms, .ref mi, .ref mm, .ref mk, .ref mq, .ref mn, .ref mu, .ref mv])), (mf, .inl (cI, 6, .inl frA)), (ms, .inl (cI, 6, .inl stA)), (mi, .inl (cI, 12, .inl fz)), (mm, .inl (cI, 144, .inl ml)), (mk, .inl (cI, 12, .inl kp)), (mq, .inl (cI, 144, .inl km)), (mn, .inl (cI, 12, .inl nx)), (mu, .inl (cI, 4, .inl sm)), (mv, .inl (cZ, 144, .inl sn))])
      (c_X4_isIn (l := l) (D := D) (cI := cI) (cZ := cZ) (cJ := cJ) (sz := _) (x := col) (lo := 0) (hi := (nI C) - 1) ) (va_cwS 3 hts gX4_isCell_X4_isIn rfl rfl rfl k_X4_isIn.2 ⟨Nat.le_of_ble_eq_true rfl, Nat.le_of_ble_eq_true rfl⟩) rfl rfl [] rfl rfl rfl rfl rfl hl.1 (Nat.le_of_ble_eq_true rfl) dX4_isCell_8 ⟨Nat.le_of_ble_eq_true rfl, Nat.le_of_ble_eq_true rfl⟩ (fun H locs hP hD hS => ?_)
  refine f_topi (y := sp_X1_hasRow C col) (isIn_row C col (by omega) hC) ?_
  refine lv_if_eq (tgt := 32) hx hb dX4_isCell_11 (by decide) (fun c_1 => ?_) (fun c_1 => ?_)
  · refine lv_iconst (v := 0) hx hb dX4_isCell_32 (by decide) ?_
    exact f_ret_z hx hb hr hlocks hP hD hS dX4_isCell_33 (by rw [hasCell_eq, if_pos c_1]) (sp_hasCell_nar _ _ _ _)
  · refine lv_iload_n hx hb dX4_isCell_14 rfl (lv_at hl 2 rfl) ?_
    refine lv_iconst (v := 0) hx hb dX4_isCell_15 (by decide) ?_
    refine lv_aload_n hx hb dX4_isCell_16 rfl (lv_at hl 0 rfl) ?_
    refine va_get (D := D) (ci := 4) (v := .int (nI R)) (C := RX4) (T := TX4) (N := 16) hx hb hts wb_X4_isCell_4 hown hK hP 0 rfl rfl 2 (by decide) (hts _ wi_X4_isCell_2) (fun _ h9 => h9) rfl dX4_isCell_17 ?_
    refine lv_iconst (v := 1) hx hb dX4_isCell_20 (by decide) ?_
    refine lv_isub hx hb dX4_isCell_21 ?_
    refine f_callSi ⟨hx, hb, hml, hown, hts⟩ hP hD hS hA hK hN [] (w2 := [(mp, .inr (4, [.int tw, .int (nI C), .int (nI R), .int (nI F), .int gn, .int (nI n), .int (nI b), .ref mf, .ref ms, .ref mi, .ref mm, .ref mk, .ref mq, .ref mn, .ref mu, .ref mv])), (mf, .inl (cI, 6, .inl frA)), (ms, .inl (cI, 6, .inl stA)), (mi, .inl (cI, 12, .inl fz)), (mm, .inl (cI, 144, .inl ml)), (mk, .inl (cI, 12, .inl kp)), (mq, .inl (cI, 144, .inl km)), (mn, .inl (cI, 12, .inl nx)), (mu, .inl (cI, 4, .inl sm)), (mv, .inl (cZ, 144, .inl sn))])
        (c_X4_isIn (l := l) (D := D) (cI := cI) (cZ := cZ) (cJ := cJ) (sz := _) (x := row) (lo := 0) (hi := (nI R) - 1) ) (va_cwS 3 hts gX4_isCell_X4_isIn rfl rfl rfl k_X4_isIn.2 ⟨Nat.le_of_ble_eq_true rfl, Nat.le_of_ble_eq_true rfl⟩) rfl rfl [] rfl rfl rfl rfl rfl hl.1 (Nat.le_of_ble_eq_true rfl) dX4_isCell_22 ⟨Nat.le_of_ble_eq_true rfl, Nat.le_of_ble_eq_true rfl⟩ (fun H locs hP hD hS => ?_)
    refine f_topi (y := sp_X1_hasRow R row) (isIn_row R row (by omega) hR) ?_
    refine lv_if_eq (tgt := 32) hx hb dX4_isCell_25 (by decide) (fun c_2 => ?_) (fun c_2 => ?_)
    · refine lv_iconst (v := 0) hx hb dX4_isCell_32 (by decide) ?_
      exact f_ret_z hx hb hr hlocks hP hD hS dX4_isCell_33 (by rw [hasCell_eq, if_neg c_1, if_pos c_2]) (sp_hasCell_nar _ _ _ _)
    · refine lv_iconst (v := 1) hx hb dX4_isCell_28 (by decide) ?_
      refine lv_goto (tgt := 33) hx hb dX4_isCell_29 (by decide) ?_
      exact f_ret_z hx hb hr hlocks hP hD hS dX4_isCell_33 (by rw [hasCell_eq, if_neg c_1, if_neg c_2]) (sp_hasCell_nar _ _ _ _)

theorem k_X4_is : yX4_is.cls = RX4 ∧ yX4_is.cls ≠ "java/lang/invoke/MethodHandle" ∧ yX4_is.cls ≠ "java/lang/invoke/VarHandle" ∧ (parseMethodDescriptor yX4_is.desc).map (fun d => d.parameters.length) = some 2 := by decide +kernel
theorem wb_X4_is_4 : ∀ w ∈ wsX40, w ∈ wsX4_is := (fun _ h => List.mem_cons_of_mem _ (List.mem_append_right _ h))
theorem wi_X4_is_1 : (Cond.fieldLink RX4 29 "FrostPaneModel" "ice" "[I") ∈ wsX4_is := List.mem_of_getElem? (i := 1) rfl
set_option maxHeartbeats 4000000 in
set_option maxRecDepth 100000 in
theorem c_X4_is (l : Launch) (D : va_G) (cI cZ cJ : ClassId) (sz : Nat) (mp mf ms mi mm mk mq mn mu mv C R F n b : Nat) (tw gn : Int32) (fz ml frA stA kp km nx sm sn : Nat → Int32) (col : Int32) (r : Nat) (hC3 : 3 ≤ C) (hC : C ≤ 12) (hR3 : 3 ≤ R) (hR : R ≤ 12) (hF : F ≤ 2) (hn : n ≤ 6) (hb0 : b < n) (hr0 : r < 12) : f_Mi l yX4_is wsX4_is ({ frames := 0, cells := 0, slots := 0, locals := 0 }) D (fTY cI cZ cJ) [.ref mp, .int col, .int (nI r)] sz [(mp, .inr (4, [.int tw, .int (nI C), .int (nI R), .int (nI F), .int gn, .int (nI n), .int (nI b), .ref mf, .ref ms, .ref mi, .ref mm, .ref mk, .ref mq, .ref mn, .ref mu, .ref mv])), (mf, .inl (cI, 6, .inl frA)), (ms, .inl (cI, 6, .inl stA)), (mi, .inl (cI, 12, .inl fz)), (mm, .inl (cI, 144, .inl ml)), (mk, .inl (cI, 12, .inl kp)), (mq, .inl (cI, 144, .inl km)), (mn, .inl (cI, 12, .inl nx)), (mu, .inl (cI, 4, .inl sm)), (mv, .inl (cZ, 144, .inl sn))] (sp_X1_hasFrost fz col (nI r)) [(mp, .inr (4, [.int tw, .int (nI C), .int (nI R), .int (nI F), .int gn, .int (nI n), .int (nI b), .ref mf, .ref ms, .ref mi, .ref mm, .ref mk, .ref mq, .ref mn, .ref mu, .ref mv])), (mf, .inl (cI, 6, .inl frA)), (ms, .inl (cI, 6, .inl stA)), (mi, .inl (cI, 12, .inl fz)), (mm, .inl (cI, 144, .inl ml)), (mk, .inl (cI, 12, .inl kp)), (mq, .inl (cI, 144, .inl km)), (mn, .inl (cI, 12, .inl nx)), (mu, .inl (cI, 4, .inl sm)), (mv, .inl (cZ, 144, .inl sn))] := by
  refine f_ent_i (by decide) rfl (Nat.le_of_ble_eq_true rfl) ?_
  intro pg ev s m below meth cd hx hb hr hts hown hlocks hml hnm hsz hP hK hN A hD hA hS ls hl
  have hown : s.vm.findClass RX4 = some m.cls := hown
  have hl : lv_has ls 3 [(0, .ref mp), (1, .int col), (2, .int (nI r))] := hl
  refine lv_aload_n hx hb dX4_is_0 rfl (lv_at hl 0 rfl) ?_
  refine va_get (D := D) (ci := 4) (v := .ref mi) (C := RX4) (T := TX4) (N := 16) hx hb hts wb_X4_is_4 hown hK hP 0 rfl rfl 9 (by decide) (hts _ wi_X4_is_1) (fun _ h9 => h9) rfl dX4_is_1 ?_
  refine lv_iload_n hx hb dX4_is_4 rfl (lv_at hl 2 rfl) ?_
  refine f_iald (k := r) hx hb hK hP 3 0 rfl rfl rfl (by omega) (by first | decide | omega) dX4_is_5 ?_
  refine f_topi (y := sp_X1_bitsOf fz (nI r)) ((sp_bits_in (by omega)).symm) ?_
  refine lv_iload_n hx hb dX4_is_6 rfl (lv_at hl 1 rfl) ?_
  refine lv_ishr hx hb dX4_is_7 ?_
  refine lv_iconst (v := 1) hx hb dX4_is_8 (by decide) ?_
  refine lv_iand hx hb dX4_is_9 ?_
  refine lv_iconst (v := 1) hx hb dX4_is_10 (by decide) ?_
  refine lv_icmp_ne (tgt := 18) hx hb dX4_is_11 (by decide) (fun c_1 => ?_) (fun c_1 => ?_)
  · refine lv_iconst (v := 0) hx hb dX4_is_18 (by decide) ?_
    exact f_ret_z hx hb hr hlocks hP hD hS dX4_is_19 (by rw [sp_X1_hasFrost, if_neg c_1]) (by rcases sp_hasFrost_01 fz col (nI r) with h | h <;> rw [h] <;> rfl)
  · refine lv_iconst (v := 1) hx hb dX4_is_14 (by decide) ?_
    refine lv_goto (tgt := 19) hx hb dX4_is_15 (by decide) ?_
    exact f_ret_z hx hb hr hlocks hP hD hS dX4_is_19 (by rw [sp_X1_hasFrost, if_pos c_1]) (by rcases sp_hasFrost_01 fz col (nI r) with h | h <;> rw [h] <;> rfl)

theorem k_X4_full : yX4_full.cls = RX4 ∧ yX4_full.cls ≠ "java/lang/invoke/MethodHandle" ∧ yX4_full.cls ≠ "java/lang/invoke/VarHandle" ∧ (parseMethodDescriptor yX4_full.desc).map (fun d => d.parameters.length) = some 0 := by decide +kernel
theorem wb_X4_full_4 : ∀ w ∈ wsX40, w ∈ wsX4_full := (fun _ h => List.mem_cons_of_mem _ (List.mem_append_right _ h))
theorem wi_X4_full_1 : (Cond.fieldLink RX4 7 "FrostPaneModel" "columns" "I") ∈ wsX4_full := List.mem_of_getElem? (i := 1) rfl
set_option maxHeartbeats 4000000 in
set_option maxRecDepth 100000 in
theorem c_X4_full (l : Launch) (D : va_G) (cI cZ cJ : ClassId) (sz : Nat) (mp mf ms mi mm mk mq mn mu mv C R F n b : Nat) (tw gn : Int32) (fz ml frA stA kp km nx sm sn : Nat → Int32) (hC3 : 3 ≤ C) (hC : C ≤ 12) (hR3 : 3 ≤ R) (hR : R ≤ 12) (hF : F ≤ 2) (hn : n ≤ 6) (hb0 : b < n) : f_Mi l yX4_full wsX4_full ({ frames := 0, cells := 0, slots := 0, locals := 0 }) D (fTY cI cZ cJ) [.ref mp] sz [(mp, .inr (4, [.int tw, .int (nI C), .int (nI R), .int (nI F), .int gn, .int (nI n), .int (nI b), .ref mf, .ref ms, .ref mi, .ref mm, .ref mk, .ref mq, .ref mn, .ref mu, .ref mv])), (mf, .inl (cI, 6, .inl frA)), (ms, .inl (cI, 6, .inl stA)), (mi, .inl (cI, 12, .inl fz)), (mm, .inl (cI, 144, .inl ml)), (mk, .inl (cI, 12, .inl kp)), (mq, .inl (cI, 144, .inl km)), (mn, .inl (cI, 12, .inl nx)), (mu, .inl (cI, 4, .inl sm)), (mv, .inl (cZ, 144, .inl sn))] (mFull C) [(mp, .inr (4, [.int tw, .int (nI C), .int (nI R), .int (nI F), .int gn, .int (nI n), .int (nI b), .ref mf, .ref ms, .ref mi, .ref mm, .ref mk, .ref mq, .ref mn, .ref mu, .ref mv])), (mf, .inl (cI, 6, .inl frA)), (ms, .inl (cI, 6, .inl stA)), (mi, .inl (cI, 12, .inl fz)), (mm, .inl (cI, 144, .inl ml)), (mk, .inl (cI, 12, .inl kp)), (mq, .inl (cI, 144, .inl km)), (mn, .inl (cI, 12, .inl nx)), (mu, .inl (cI, 4, .inl sm)), (mv, .inl (cZ, 144, .inl sn))] := by
  refine f_ent_i (by decide) rfl (Nat.le_of_ble_eq_true rfl) ?_
  intro pg ev s m below meth cd hx hb hr hts hown hlocks hml hnm hsz hP hK hN A hD hA hS ls hl
  have hown : s.vm.findClass RX4 = some m.cls := hown
  have hl : lv_has ls 1 [(0, .ref mp)] := hl
  refine lv_iconst (v := 1) hx hb dX4_full_0 (by decide) ?_
  refine lv_aload_n hx hb dX4_full_1 rfl (lv_at hl 0 rfl) ?_
  refine va_get (D := D) (ci := 4) (v := .int (nI C)) (C := RX4) (T := TX4) (N := 16) hx hb hts wb_X4_full_4 hown hK hP 0 rfl rfl 1 (by decide) (hts _ wi_X4_full_1) (fun _ h9 => h9) rfl dX4_full_2 ?_
  refine lv_ishl hx hb dX4_full_5 ?_
  refine lv_iconst (v := 1) hx hb dX4_full_6 (by decide) ?_
  refine lv_isub hx hb dX4_full_7 ?_
  exact f_ret_i hx hb hr hlocks hP hD hS dX4_full_8 (by rfl)

theorem wide_ix {R : Nat} {row : Int32} (h : row = -1 ∨ ∃ m : Nat, m ≤ R ∧ row = nI m) (hR3 : 3 ≤ R) (hR : R ≤ 12) : ∃ j : Nat, j < R ∧ (row + nI R) - (row + nI R) / nI R * nI R = nI j := by
  have key : ∀ z : Nat, z < 2 ^ 31 → nI z - nI z / nI R * nI R = nI (z % R) := fun z hz => pk_rem hz (by omega) (by omega)
  rcases h with rfl | ⟨m, hm, rfl⟩
  · have e : (-1 : Int32) + nI R = nI (R - 1) := by rw [← sub1 (by omega : 1 ≤ R), Int32.sub_eq_add_neg, Int32.add_comm]
    exact ⟨(R - 1) % R, Nat.mod_lt _ (by omega), by rw [e]; exact key _ (by omega)⟩
  · exact ⟨(m + R) % R, Nat.mod_lt _ (by omega), by rw [nI_add]; exact key _ (by omega)⟩
theorem wide_in {R : Nat} {row : Int32} (h : row = -1 ∨ ∃ m : Nat, m ≤ R ∧ row = nI m) (hR3 : 3 ≤ R) (hR : R ≤ 12) : vp_in ((row + nI R) - (row + nI R) / nI R * nI R) 12 := by
  obtain ⟨j, h1, h2⟩ := wide_ix h hR3 hR
  rw [h2]; exact vp_in_nI (by omega) (by decide)
theorem row_m1 {r R : Nat} (h : r < R) : nI r + (-1) = -1 ∨ ∃ m : Nat, m ≤ R ∧ nI r + (-1) = nI m := by
  rcases r with _ | r
  · exact Or.inl (by decide)
  · exact Or.inr ⟨r, by omega, pk_m1 r⟩
theorem k_X4_wide : yX4_wide.cls = RX4 ∧ yX4_wide.cls ≠ "java/lang/invoke/MethodHandle" ∧ yX4_wide.cls ≠ "java/lang/invoke/VarHandle" ∧ (parseMethodDescriptor yX4_wide.desc).map (fun d => d.parameters.length) = some 1 := by decide +kernel
/-- X4_wide: read off its bytecode -/
def sp_X4_wide (C : Nat) (R : Nat) (F : Nat) (fz : Nat → Int32) (row : Int32) : Int32 := if (if row < 0 then (1 : Int32) else if row < (nI R) then (0 : Int32) else 1) = 0 then if (nI F) = 1 then (((fz ((row + (nI R)) - (row + (nI R)) / (nI R) * (nI R)).toNatClampNeg) <<< ((1 : Int32) &&& 31)) ||| 1) ||| ((1 : Int32) <<< ((nI (C + 1)) &&& 31)) else (if (nI F) = 2 then (((fz ((row + (nI R)) - (row + (nI R)) / (nI R) * (nI R)).toNatClampNeg) <<< ((1 : Int32) &&& 31)) ||| ((fz ((row + (nI R)) - (row + (nI R)) / (nI R) * (nI R)).toNatClampNeg) >>> (((nI C) - 1) &&& 31))) ||| (((fz ((row + (nI R)) - (row + (nI R)) / (nI R) * (nI R)).toNatClampNeg) &&& 1) <<< ((nI (C + 1)) &&& 31)) else (fz ((row + (nI R)) - (row + (nI R)) / (nI R) * (nI R)).toNatClampNeg) <<< ((1 : Int32) &&& 31)) else (if (nI F) = 2 then if (nI F) = 1 then (((fz ((row + (nI R)) - (row + (nI R)) / (nI R) * (nI R)).toNatClampNeg) <<< ((1 : Int32) &&& 31)) ||| 1) ||| ((1 : Int32) <<< ((nI (C + 1)) &&& 31)) else (if (nI F) = 2 then (((fz ((row + (nI R)) - (row + (nI R)) / (nI R) * (nI R)).toNatClampNeg) <<< ((1 : Int32) &&& 31)) ||| ((fz ((row + (nI R)) - (row + (nI R)) / (nI R) * (nI R)).toNatClampNeg) >>> (((nI C) - 1) &&& 31))) ||| (((fz ((row + (nI R)) - (row + (nI R)) / (nI R) * (nI R)).toNatClampNeg) &&& 1) <<< ((nI (C + 1)) &&& 31)) else (fz ((row + (nI R)) - (row + (nI R)) / (nI R) * (nI R)).toNatClampNeg) <<< ((1 : Int32) &&& 31)) else (if (nI F) = 1 then ((1 : Int32) <<< ((nI (C + 2)) &&& 31)) - 1 else 0))
theorem wb_X4_wide_4 : ∀ w ∈ wsX40, w ∈ wsX4_wide := (fun _ h => List.mem_cons_of_mem _ (List.mem_append_right _ h))
theorem wi_X4_wide_1 : (Cond.fieldLink RX4 13 "FrostPaneModel" "rows" "I") ∈ wsX4_wide := List.mem_of_getElem? (i := 1) rfl
theorem wi_X4_wide_4 : (Cond.fieldLink RX4 29 "FrostPaneModel" "ice" "[I") ∈ wsX4_wide := List.mem_of_getElem? (i := 4) rfl
theorem wi_X4_wide_2 : (Cond.fieldLink RX4 16 "FrostPaneModel" "frame" "I") ∈ wsX4_wide := List.mem_of_getElem? (i := 2) rfl
theorem wi_X4_wide_3 : (Cond.fieldLink RX4 7 "FrostPaneModel" "columns" "I") ∈ wsX4_wide := List.mem_of_getElem? (i := 3) rfl
set_option maxHeartbeats 4000000 in
set_option maxRecDepth 100000 in
theorem c_X4_wide (l : Launch) (D : va_G) (cI cZ cJ : ClassId) (sz : Nat) (mp mf ms mi mm mk mq mn mu mv C R F n b : Nat) (tw gn : Int32) (fz ml frA stA kp km nx sm sn : Nat → Int32) (row : Int32) (hC3 : 3 ≤ C) (hC : C ≤ 12) (hR3 : 3 ≤ R) (hR : R ≤ 12) (hF : F ≤ 2) (hn : n ≤ 6) (hb0 : b < n) (hrow : row = -1 ∨ ∃ m : Nat, m ≤ R ∧ row = nI m) : f_Mi l yX4_wide wsX4_wide ({ frames := 0, cells := 0, slots := 0, locals := 0 }) D (fTY cI cZ cJ) [.ref mp, .int row] sz [(mp, .inr (4, [.int tw, .int (nI C), .int (nI R), .int (nI F), .int gn, .int (nI n), .int (nI b), .ref mf, .ref ms, .ref mi, .ref mm, .ref mk, .ref mq, .ref mn, .ref mu, .ref mv])), (mf, .inl (cI, 6, .inl frA)), (ms, .inl (cI, 6, .inl stA)), (mi, .inl (cI, 12, .inl fz)), (mm, .inl (cI, 144, .inl ml)), (mk, .inl (cI, 12, .inl kp)), (mq, .inl (cI, 144, .inl km)), (mn, .inl (cI, 12, .inl nx)), (mu, .inl (cI, 4, .inl sm)), (mv, .inl (cZ, 144, .inl sn))] (sp_X4_wide C R F fz row) [(mp, .inr (4, [.int tw, .int (nI C), .int (nI R), .int (nI F), .int gn, .int (nI n), .int (nI b), .ref mf, .ref ms, .ref mi, .ref mm, .ref mk, .ref mq, .ref mn, .ref mu, .ref mv])), (mf, .inl (cI, 6, .inl frA)), (ms, .inl (cI, 6, .inl stA)), (mi, .inl (cI, 12, .inl fz)), (mm, .inl (cI, 144, .inl ml)), (mk, .inl (cI, 12, .inl kp)), (mq, .inl (cI, 144, .inl km)), (mn, .inl (cI, 12, .inl nx)), (mu, .inl (cI, 4, .inl sm)), (mv, .inl (cZ, 144, .inl sn))] := by
  refine f_ent_i (by decide) rfl (Nat.le_of_ble_eq_true rfl) ?_
  intro pg ev s m below meth cd hx hb hr hts hown hlocks hml hnm hsz hP hK hN A hD hA hS ls hl
  have hown : s.vm.findClass RX4 = some m.cls := hown
  have hl : lv_has ls 5 [(0, .ref mp), (1, .int row)] := hl
  refine lv_iload_n hx hb dX4_wide_0 rfl (lv_at hl 1 rfl) ?_
  refine f_joinW (nL := 5) 17 [(0, .ref mp), (1, .int row)] [.int (if row < 0 then (1 : Int32) else if row < (nI R) then (0 : Int32) else 1)] (fun ls hl => ?_) (fun j_1 => ?_)
  · refine lv_istore_n (lv' := [(2, .int (if row < 0 then (1 : Int32) else if row < (nI R) then (0 : Int32) else 1)), (0, .ref mp), (1, .int row)]) hx hb dX4_wide_17 rfl hl (by decide) rfl (fun ls hl => ?_)
    refine lv_iload_n hx hb dX4_wide_18 rfl (lv_at hl 0 rfl) ?_
    refine lv_if_eq (tgt := 53) hx hb dX4_wide_19 (by decide) (fun c_2 => ?_) (fun c_2 => ?_)
    · refine lv_aload_n hx hb dX4_wide_53 rfl (lv_at hl 1 rfl) ?_
      refine va_get (D := D) (ci := 4) (v := .ref mi) (C := RX4) (T := TX4) (N := 16) hx hb hts wb_X4_wide_4 hown hK hP 0 rfl rfl 9 (by decide) (hts _ wi_X4_wide_4) (fun _ h9 => h9) rfl dX4_wide_54 ?_
      refine lv_iload_n hx hb dX4_wide_57 rfl (lv_at hl 2 rfl) ?_
      refine lv_aload_n hx hb dX4_wide_58 rfl (lv_at hl 1 rfl) ?_
      refine va_get (D := D) (ci := 4) (v := .int (nI R)) (C := RX4) (T := TX4) (N := 16) hx hb hts wb_X4_wide_4 hown hK hP 0 rfl rfl 2 (by decide) (hts _ wi_X4_wide_1) (fun _ h9 => h9) rfl dX4_wide_59 ?_
      refine lv_iadd hx hb dX4_wide_62 ?_
      refine lv_aload_n hx hb dX4_wide_63 rfl (lv_at hl 1 rfl) ?_
      refine va_get (D := D) (ci := 4) (v := .int (nI R)) (C := RX4) (T := TX4) (N := 16) hx hb hts wb_X4_wide_4 hown hK hP 0 rfl rfl 2 (by decide) (hts _ wi_X4_wide_1) (fun _ h9 => h9) rfl dX4_wide_64 ?_
      refine lv_irem hx hb dX4_wide_67 (nI_ne0 (by omega) (by omega)) ?_
      refine va_iald hx hb hK hP 3 0 rfl rfl (wide_in hrow hR3 hR) dX4_wide_68 ?_
      refine lv_istore_n (lv' := [(3, .int (fz ((row + (nI R)) - (row + (nI R)) / (nI R) * (nI R)).toNatClampNeg)), (2, .int (if row < 0 then (1 : Int32) else if row < (nI R) then (0 : Int32) else 1)), (0, .ref mp), (1, .int row)]) hx hb dX4_wide_69 rfl hl (by decide) rfl (fun ls hl => ?_)
      refine lv_iload_n hx hb dX4_wide_70 rfl (lv_at hl 0 rfl) ?_
      refine lv_iconst (v := 1) hx hb dX4_wide_71 (by decide) ?_
      refine lv_ishl hx hb dX4_wide_72 ?_
      refine lv_istore (lv' := [(4, .int ((fz ((row + (nI R)) - (row + (nI R)) / (nI R) * (nI R)).toNatClampNeg) <<< ((1 : Int32) &&& 31))), (3, .int (fz ((row + (nI R)) - (row + (nI R)) / (nI R) * (nI R)).toNatClampNeg)), (2, .int (if row < 0 then (1 : Int32) else if row < (nI R) then (0 : Int32) else 1)), (0, .ref mp), (1, .int row)]) hx hb dX4_wide_73 hl (by decide) rfl (fun ls hl => ?_)
      refine lv_aload_n hx hb dX4_wide_75 rfl (lv_at hl 3 rfl) ?_
      refine va_get (D := D) (ci := 4) (v := .int (nI F)) (C := RX4) (T := TX4) (N := 16) hx hb hts wb_X4_wide_4 hown hK hP 0 rfl rfl 3 (by decide) (hts _ wi_X4_wide_2) (fun _ h9 => h9) rfl dX4_wide_76 ?_
      refine lv_iconst (v := 1) hx hb dX4_wide_79 (by decide) ?_
      refine lv_icmp_ne (tgt := 97) hx hb dX4_wide_80 (by decide) (fun c_3 => ?_) (fun c_3 => ?_)
      · refine lv_aload_n hx hb dX4_wide_97 rfl (lv_at hl 3 rfl) ?_
        refine va_get (D := D) (ci := 4) (v := .int (nI F)) (C := RX4) (T := TX4) (N := 16) hx hb hts wb_X4_wide_4 hown hK hP 0 rfl rfl 3 (by decide) (hts _ wi_X4_wide_2) (fun _ h9 => h9) rfl dX4_wide_98 ?_
        refine lv_iconst (v := 2) hx hb dX4_wide_101 (by decide) ?_
        refine lv_icmp_ne (tgt := 128) hx hb dX4_wide_102 (by decide) (fun c_4 => ?_) (fun c_4 => ?_)
        · refine lv_iload hx hb dX4_wide_128 (lv_at hl 0 rfl) ?_
          exact f_ret_i hx hb hr hlocks hP hD hS dX4_wide_130 (by rw [sp_X4_wide, if_pos c_2, if_neg c_3, if_neg c_4])
        · refine lv_iload hx hb dX4_wide_105 (lv_at hl 0 rfl) ?_
          refine lv_iload_n hx hb dX4_wide_107 rfl (lv_at hl 1 rfl) ?_
          refine lv_aload_n hx hb dX4_wide_108 rfl (lv_at hl 3 rfl) ?_
          refine va_get (D := D) (ci := 4) (v := .int (nI C)) (C := RX4) (T := TX4) (N := 16) hx hb hts wb_X4_wide_4 hown hK hP 0 rfl rfl 1 (by decide) (hts _ wi_X4_wide_3) (fun _ h9 => h9) rfl dX4_wide_109 ?_
          refine lv_iconst (v := 1) hx hb dX4_wide_112 (by decide) ?_
          refine lv_isub hx hb dX4_wide_113 ?_
          refine lv_ishr hx hb dX4_wide_114 ?_
          refine lv_ior hx hb dX4_wide_115 ?_
          refine lv_iload_n hx hb dX4_wide_116 rfl (lv_at hl 1 rfl) ?_
          refine lv_iconst (v := 1) hx hb dX4_wide_117 (by decide) ?_
          refine lv_iand hx hb dX4_wide_118 ?_
          refine lv_aload_n hx hb dX4_wide_119 rfl (lv_at hl 3 rfl) ?_
          refine va_get (D := D) (ci := 4) (v := .int (nI C)) (C := RX4) (T := TX4) (N := 16) hx hb hts wb_X4_wide_4 hown hK hP 0 rfl rfl 1 (by decide) (hts _ wi_X4_wide_3) (fun _ h9 => h9) rfl dX4_wide_120 ?_
          refine lv_iconst (v := 1) hx hb dX4_wide_123 (by decide) ?_
          refine lv_iadd hx hb dX4_wide_124 ?_
          refine f_topi (y := nI (C + 1)) (nI_add C 1) ?_
          refine lv_ishl hx hb dX4_wide_125 ?_
          refine lv_ior hx hb dX4_wide_126 ?_
          exact f_ret_i hx hb hr hlocks hP hD hS dX4_wide_127 (by rw [sp_X4_wide, if_pos c_2, if_neg c_3, if_pos c_4])
      · refine lv_iload hx hb dX4_wide_83 (lv_at hl 0 rfl) ?_
        refine lv_iconst (v := 1) hx hb dX4_wide_85 (by decide) ?_
        refine lv_ior hx hb dX4_wide_86 ?_
        refine lv_iconst (v := 1) hx hb dX4_wide_87 (by decide) ?_
        refine lv_aload_n hx hb dX4_wide_88 rfl (lv_at hl 3 rfl) ?_
        refine va_get (D := D) (ci := 4) (v := .int (nI C)) (C := RX4) (T := TX4) (N := 16) hx hb hts wb_X4_wide_4 hown hK hP 0 rfl rfl 1 (by decide) (hts _ wi_X4_wide_3) (fun _ h9 => h9) rfl dX4_wide_89 ?_
        refine lv_iconst (v := 1) hx hb dX4_wide_92 (by decide) ?_
        refine lv_iadd hx hb dX4_wide_93 ?_
        refine f_topi (y := nI (C + 1)) (nI_add C 1) ?_
        refine lv_ishl hx hb dX4_wide_94 ?_
        refine lv_ior hx hb dX4_wide_95 ?_
        exact f_ret_i hx hb hr hlocks hP hD hS dX4_wide_96 (by rw [sp_X4_wide, if_pos c_2, if_pos c_3])
    · refine lv_aload_n hx hb dX4_wide_22 rfl (lv_at hl 1 rfl) ?_
      refine va_get (D := D) (ci := 4) (v := .int (nI F)) (C := RX4) (T := TX4) (N := 16) hx hb hts wb_X4_wide_4 hown hK hP 0 rfl rfl 3 (by decide) (hts _ wi_X4_wide_2) (fun _ h9 => h9) rfl dX4_wide_23 ?_
      refine lv_iconst (v := 2) hx hb dX4_wide_26 (by decide) ?_
      refine lv_icmp_eq (tgt := 53) hx hb dX4_wide_27 (by decide) (fun c_5 => ?_) (fun c_5 => ?_)
      · refine lv_aload_n hx hb dX4_wide_53 rfl (lv_at hl 1 rfl) ?_
        refine va_get (D := D) (ci := 4) (v := .ref mi) (C := RX4) (T := TX4) (N := 16) hx hb hts wb_X4_wide_4 hown hK hP 0 rfl rfl 9 (by decide) (hts _ wi_X4_wide_4) (fun _ h9 => h9) rfl dX4_wide_54 ?_
        refine lv_iload_n hx hb dX4_wide_57 rfl (lv_at hl 2 rfl) ?_
        refine lv_aload_n hx hb dX4_wide_58 rfl (lv_at hl 1 rfl) ?_
        refine va_get (D := D) (ci := 4) (v := .int (nI R)) (C := RX4) (T := TX4) (N := 16) hx hb hts wb_X4_wide_4 hown hK hP 0 rfl rfl 2 (by decide) (hts _ wi_X4_wide_1) (fun _ h9 => h9) rfl dX4_wide_59 ?_
        refine lv_iadd hx hb dX4_wide_62 ?_
        refine lv_aload_n hx hb dX4_wide_63 rfl (lv_at hl 1 rfl) ?_
        refine va_get (D := D) (ci := 4) (v := .int (nI R)) (C := RX4) (T := TX4) (N := 16) hx hb hts wb_X4_wide_4 hown hK hP 0 rfl rfl 2 (by decide) (hts _ wi_X4_wide_1) (fun _ h9 => h9) rfl dX4_wide_64 ?_
        refine lv_irem hx hb dX4_wide_67 (nI_ne0 (by omega) (by omega)) ?_
        refine va_iald hx hb hK hP 3 0 rfl rfl (wide_in hrow hR3 hR) dX4_wide_68 ?_
        refine lv_istore_n (lv' := [(3, .int (fz ((row + (nI R)) - (row + (nI R)) / (nI R) * (nI R)).toNatClampNeg)), (2, .int (if row < 0 then (1 : Int32) else if row < (nI R) then (0 : Int32) else 1)), (0, .ref mp), (1, .int row)]) hx hb dX4_wide_69 rfl hl (by decide) rfl (fun ls hl => ?_)
        refine lv_iload_n hx hb dX4_wide_70 rfl (lv_at hl 0 rfl) ?_
        refine lv_iconst (v := 1) hx hb dX4_wide_71 (by decide) ?_
        refine lv_ishl hx hb dX4_wide_72 ?_
        refine lv_istore (lv' := [(4, .int ((fz ((row + (nI R)) - (row + (nI R)) / (nI R) * (nI R)).toNatClampNeg) <<< ((1 : Int32) &&& 31))), (3, .int (fz ((row + (nI R)) - (row + (nI R)) / (nI R) * (nI R)).toNatClampNeg)), (2, .int (if row < 0 then (1 : Int32) else if row < (nI R) then (0 : Int32) else 1)), (0, .ref mp), (1, .int row)]) hx hb dX4_wide_73 hl (by decide) rfl (fun ls hl => ?_)
        refine lv_aload_n hx hb dX4_wide_75 rfl (lv_at hl 3 rfl) ?_
        refine va_get (D := D) (ci := 4) (v := .int (nI F)) (C := RX4) (T := TX4) (N := 16) hx hb hts wb_X4_wide_4 hown hK hP 0 rfl rfl 3 (by decide) (hts _ wi_X4_wide_2) (fun _ h9 => h9) rfl dX4_wide_76 ?_
        refine lv_iconst (v := 1) hx hb dX4_wide_79 (by decide) ?_
        refine lv_icmp_ne (tgt := 97) hx hb dX4_wide_80 (by decide) (fun c_6 => ?_) (fun c_6 => ?_)
        · refine lv_aload_n hx hb dX4_wide_97 rfl (lv_at hl 3 rfl) ?_
          refine va_get (D := D) (ci := 4) (v := .int (nI F)) (C := RX4) (T := TX4) (N := 16) hx hb hts wb_X4_wide_4 hown hK hP 0 rfl rfl 3 (by decide) (hts _ wi_X4_wide_2) (fun _ h9 => h9) rfl dX4_wide_98 ?_
          refine lv_iconst (v := 2) hx hb dX4_wide_101 (by decide) ?_
          refine lv_icmp_ne (tgt := 128) hx hb dX4_wide_102 (by decide) (fun c_7 => ?_) (fun c_7 => ?_)
          · refine lv_iload hx hb dX4_wide_128 (lv_at hl 0 rfl) ?_
            exact f_ret_i hx hb hr hlocks hP hD hS dX4_wide_130 (by rw [sp_X4_wide, if_neg c_2, if_pos c_5, if_neg c_6, if_neg c_7])
          · refine lv_iload hx hb dX4_wide_105 (lv_at hl 0 rfl) ?_
            refine lv_iload_n hx hb dX4_wide_107 rfl (lv_at hl 1 rfl) ?_
            refine lv_aload_n hx hb dX4_wide_108 rfl (lv_at hl 3 rfl) ?_
            refine va_get (D := D) (ci := 4) (v := .int (nI C)) (C := RX4) (T := TX4) (N := 16) hx hb hts wb_X4_wide_4 hown hK hP 0 rfl rfl 1 (by decide) (hts _ wi_X4_wide_3) (fun _ h9 => h9) rfl dX4_wide_109 ?_
            refine lv_iconst (v := 1) hx hb dX4_wide_112 (by decide) ?_
            refine lv_isub hx hb dX4_wide_113 ?_
            refine lv_ishr hx hb dX4_wide_114 ?_
            refine lv_ior hx hb dX4_wide_115 ?_
            refine lv_iload_n hx hb dX4_wide_116 rfl (lv_at hl 1 rfl) ?_
            refine lv_iconst (v := 1) hx hb dX4_wide_117 (by decide) ?_
            refine lv_iand hx hb dX4_wide_118 ?_
            refine lv_aload_n hx hb dX4_wide_119 rfl (lv_at hl 3 rfl) ?_
            refine va_get (D := D) (ci := 4) (v := .int (nI C)) (C := RX4) (T := TX4) (N := 16) hx hb hts wb_X4_wide_4 hown hK hP 0 rfl rfl 1 (by decide) (hts _ wi_X4_wide_3) (fun _ h9 => h9) rfl dX4_wide_120 ?_
            refine lv_iconst (v := 1) hx hb dX4_wide_123 (by decide) ?_
            refine lv_iadd hx hb dX4_wide_124 ?_
            refine f_topi (y := nI (C + 1)) (nI_add C 1) ?_
            refine lv_ishl hx hb dX4_wide_125 ?_
            refine lv_ior hx hb dX4_wide_126 ?_
            exact f_ret_i hx hb hr hlocks hP hD hS dX4_wide_127 (by rw [sp_X4_wide, if_neg c_2, if_pos c_5, if_neg c_6, if_pos c_7])
        · refine lv_iload hx hb dX4_wide_83 (lv_at hl 0 rfl) ?_
          refine lv_iconst (v := 1) hx hb dX4_wide_85 (by decide) ?_
          refine lv_ior hx hb dX4_wide_86 ?_
          refine lv_iconst (v := 1) hx hb dX4_wide_87 (by decide) ?_
          refine lv_aload_n hx hb dX4_wide_88 rfl (lv_at hl 3 rfl) ?_
          refine va_get (D := D) (ci := 4) (v := .int (nI C)) (C := RX4) (T := TX4) (N := 16) hx hb hts wb_X4_wide_4 hown hK hP 0 rfl rfl 1 (by decide) (hts _ wi_X4_wide_3) (fun _ h9 => h9) rfl dX4_wide_89 ?_
          refine lv_iconst (v := 1) hx hb dX4_wide_92 (by decide) ?_
          refine lv_iadd hx hb dX4_wide_93 ?_
          refine f_topi (y := nI (C + 1)) (nI_add C 1) ?_
          refine lv_ishl hx hb dX4_wide_94 ?_
          refine lv_ior hx hb dX4_wide_95 ?_
          exact f_ret_i hx hb hr hlocks hP hD hS dX4_wide_96 (by rw [sp_X4_wide, if_neg c_2, if_pos c_5, if_pos c_6])
      · refine lv_aload_n hx hb dX4_wide_30 rfl (lv_at hl 1 rfl) ?_
        refine va_get (D := D) (ci := 4) (v := .int (nI F)) (C := RX4) (T := TX4) (N := 16) hx hb hts wb_X4_wide_4 hown hK hP 0 rfl rfl 3 (by decide) (hts _ wi_X4_wide_2) (fun _ h9 => h9) rfl dX4_wide_31 ?_
        refine lv_iconst (v := 1) hx hb dX4_wide_34 (by decide) ?_
        refine lv_icmp_ne (tgt := 51) hx hb dX4_wide_35 (by decide) (fun c_8 => ?_) (fun c_8 => ?_)
        · refine lv_iconst (v := 0) hx hb dX4_wide_51 (by decide) ?_
          exact f_ret_i hx hb hr hlocks hP hD hS dX4_wide_52 (by rw [sp_X4_wide, if_neg c_2, if_neg c_5, if_neg c_8])
        · refine lv_iconst (v := 1) hx hb dX4_wide_38 (by decide) ?_
          refine lv_aload_n hx hb dX4_wide_39 rfl (lv_at hl 1 rfl) ?_
          refine va_get (D := D) (ci := 4) (v := .int (nI C)) (C := RX4) (T := TX4) (N := 16) hx hb hts wb_X4_wide_4 hown hK hP 0 rfl rfl 1 (by decide) (hts _ wi_X4_wide_3) (fun _ h9 => h9) rfl dX4_wide_40 ?_
          refine lv_iconst (v := 2) hx hb dX4_wide_43 (by decide) ?_
          refine lv_iadd hx hb dX4_wide_44 ?_
          refine f_topi (y := nI (C + 2)) (nI_add C 2) ?_
          refine lv_ishl hx hb dX4_wide_45 ?_
          refine lv_iconst (v := 1) hx hb dX4_wide_46 (by decide) ?_
          refine lv_isub hx hb dX4_wide_47 ?_
          refine lv_goto (tgt := 52) hx hb dX4_wide_48 (by decide) ?_
          exact f_ret_i hx hb hr hlocks hP hD hS dX4_wide_52 (by rw [sp_X4_wide, if_neg c_2, if_neg c_5, if_pos c_8])
  refine lv_if_lt (tgt := 12) hx hb dX4_wide_1 (by decide) (fun c_9 => ?_) (fun c_9 => ?_)
  · refine lv_iconst (v := 1) hx hb dX4_wide_12 (by decide) ?_
    refine lv_goto (tgt := 17) hx hb dX4_wide_13 (by decide) ?_
    refine f_topi (y := if row < 0 then (1 : Int32) else if row < (nI R) then (0 : Int32) else 1) (by rw [if_pos c_9]) ?_
    exact j_1 ls (lv_sub hl [0, 1] rfl)
  · refine lv_iload_n hx hb dX4_wide_4 rfl (lv_at hl 1 rfl) ?_
    refine lv_aload_n hx hb dX4_wide_5 rfl (lv_at hl 0 rfl) ?_
    refine va_get (D := D) (ci := 4) (v := .int (nI R)) (C := RX4) (T := TX4) (N := 16) hx hb hts wb_X4_wide_4 hown hK hP 0 rfl rfl 2 (by decide) (hts _ wi_X4_wide_1) (fun _ h9 => h9) rfl dX4_wide_6 ?_
    refine lv_icmp_lt (tgt := 16) hx hb dX4_wide_9 (by decide) (fun c_10 => ?_) (fun c_10 => ?_)
    · refine lv_iconst (v := 0) hx hb dX4_wide_16 (by decide) ?_
      refine f_topi (y := if row < 0 then (1 : Int32) else if row < (nI R) then (0 : Int32) else 1) (by rw [if_neg c_9, if_pos c_10]) ?_
      exact j_1 ls (lv_sub hl [0, 1] rfl)
    · refine lv_iconst (v := 1) hx hb dX4_wide_12 (by decide) ?_
      refine lv_goto (tgt := 17) hx hb dX4_wide_13 (by decide) ?_
      refine f_topi (y := if row < 0 then (1 : Int32) else if row < (nI R) then (0 : Int32) else 1) (by rw [if_neg c_9, if_neg c_10]) ?_
      exact j_1 ls (lv_sub hl [0, 1] rfl)

theorem k_X4_add : yX4_add.cls = RX4 ∧ yX4_add.cls ≠ "java/lang/invoke/MethodHandle" ∧ yX4_add.cls ≠ "java/lang/invoke/VarHandle" ∧ (parseMethodDescriptor yX4_add.desc).map (fun d => d.parameters.length) = some 1 := by decide +kernel
theorem wb_X4_add_4 : ∀ w ∈ wsX40, w ∈ wsX4_add := (fun _ h => List.mem_cons_of_mem _ (List.mem_append_right _ h))
theorem wi_X4_add_1 : (Cond.fieldLink RX4 44 "FrostPaneModel" "sum" "[I") ∈ wsX4_add := List.mem_of_getElem? (i := 1) rfl
set_option maxHeartbeats 4000000 in
set_option maxRecDepth 100000 in
theorem c_X4_add (l : Launch) (D : va_G) (cI cZ cJ : ClassId) (sz : Nat) (mp mf ms mi mm mk mq mn mu mv C R F n b : Nat) (tw gn : Int32) (fz ml frA stA kp km nx sm sn : Nat → Int32) (x : Int32) (hC3 : 3 ≤ C) (hC : C ≤ 12) (hR3 : 3 ≤ R) (hR : R ≤ 12) (hF : F ≤ 2) (hn : n ≤ 6) (hb0 : b < n) : f_Mv l yX4_add wsX4_add ({ frames := 0, cells := 0, slots := 0, locals := 0 }) D (fTY cI cZ cJ) [.ref mp, .int x] sz [(mp, .inr (4, [.int tw, .int (nI C), .int (nI R), .int (nI F), .int gn, .int (nI n), .int (nI b), .ref mf, .ref ms, .ref mi, .ref mm, .ref mk, .ref mq, .ref mn, .ref mu, .ref mv])), (mf, .inl (cI, 6, .inl frA)), (ms, .inl (cI, 6, .inl stA)), (mi, .inl (cI, 12, .inl fz)), (mm, .inl (cI, 144, .inl ml)), (mk, .inl (cI, 12, .inl kp)), (mq, .inl (cI, 144, .inl km)), (mn, .inl (cI, 12, .inl nx)), (mu, .inl (cI, 4, .inl sm)), (mv, .inl (cZ, 144, .inl sn))] [(mp, .inr (4, [.int tw, .int (nI C), .int (nI R), .int (nI F), .int gn, .int (nI n), .int (nI b), .ref mf, .ref ms, .ref mi, .ref mm, .ref mk, .ref mq, .ref mn, .ref mu, .ref mv])), (mf, .inl (cI, 6, .inl frA)), (ms, .inl (cI, 6, .inl stA)), (mi, .inl (cI, 12, .inl fz)), (mm, .inl (cI, 144, .inl ml)), (mk, .inl (cI, 12, .inl kp)), (mq, .inl (cI, 144, .inl km)), (mn, .inl (cI, 12, .inl nx)), (mu, .inl (cI, 4, .inl (mAdd sm x))), (mv, .inl (cZ, 144, .inl sn))] := by
  refine f_ent_v (by decide) rfl (Nat.le_of_ble_eq_true rfl) ?_
  intro pg ev s m below meth cd hx hb hr hts hown hlocks hml hnm hsz hP hK hN A hD hA hS ls hl
  have hown : s.vm.findClass RX4 = some m.cls := hown
  have hl : lv_has ls 5 [(0, .ref mp), (1, .int x)] := hl
  refine lv_iload_n hx hb dX4_add_0 rfl (lv_at hl 1 rfl) ?_
  refine lv_istore_n (lv' := [(2, .int x), (0, .ref mp), (1, .int x)]) hx hb dX4_add_1 rfl hl (by decide) rfl (fun ls hl => ?_)
  obtain ⟨hP, hD⟩ := f_rep (g := sfill (mAdd sm x) sm 0) hP hD 8 rfl (fun j _ => sfill_0 _ _ j)
  have hP : va_P D vwCl [(mp, .inr (4, [.int tw, .int (nI C), .int (nI R), .int (nI F), .int gn, .int (nI n), .int (nI b), .ref mf, .ref ms, .ref mi, .ref mm, .ref mk, .ref mq, .ref mn, .ref mu, .ref mv])), (mf, .inl (cI, 6, .inl frA)), (ms, .inl (cI, 6, .inl stA)), (mi, .inl (cI, 12, .inl fz)), (mm, .inl (cI, 144, .inl ml)), (mk, .inl (cI, 12, .inl kp)), (mq, .inl (cI, 144, .inl km)), (mn, .inl (cI, 12, .inl nx)), (mu, .inl (cI, 4, .inl (sfill (mAdd sm x) sm 0))), (mv, .inl (cZ, 144, .inl sn))] _ := hP
  have hD : va_D A [(mp, .inr (4, [.int tw, .int (nI C), .int (nI R), .int (nI F), .int gn, .int (nI n), .int (nI b), .ref mf, .ref ms, .ref mi, .ref mm, .ref mk, .ref mq, .ref mn, .ref mu, .ref mv])), (mf, .inl (cI, 6, .inl frA)), (ms, .inl (cI, 6, .inl stA)), (mi, .inl (cI, 12, .inl fz)), (mm, .inl (cI, 144, .inl ml)), (mk, .inl (cI, 12, .inl kp)), (mq, .inl (cI, 144, .inl km)), (mn, .inl (cI, 12, .inl nx)), (mu, .inl (cI, 4, .inl (sfill (mAdd sm x) sm 0))), (mv, .inl (cZ, 144, .inl sn))] := hD
  refine lv_iconst (v := 0) hx hb dX4_add_2 (by decide) ?_
  refine lv_istore_n (lv' := [(3, .int 0), (2, .int x), (0, .ref mp), (1, .int x)]) hx hb dX4_add_3 rfl hl (by decide) rfl (fun ls hl => ?_)
  refine f_loopW (σ := Nat) (D := D) (A := A) (H0 := s.heap) 5 4 (fun u9 => [(3, .int (nI u9)), (2, .int (adC sm x u9)), (0, .ref mp), (1, .int x)]) (fun u9 => [(mp, .inr (4, [.int tw, .int (nI C), .int (nI R), .int (nI F), .int gn, .int (nI n), .int (nI b), .ref mf, .ref ms, .ref mi, .ref mm, .ref mk, .ref mq, .ref mn, .ref mu, .ref mv])), (mf, .inl (cI, 6, .inl frA)), (ms, .inl (cI, 6, .inl stA)), (mi, .inl (cI, 12, .inl fz)), (mm, .inl (cI, 144, .inl ml)), (mk, .inl (cI, 12, .inl kp)), (mq, .inl (cI, 144, .inl km)), (mn, .inl (cI, 12, .inl nx)), (mu, .inl (cI, 4, .inl (sfill (mAdd sm x) sm u9))), (mv, .inl (cZ, 144, .inl sn))]) (fun u9 => u9 ≤ 4) (fun u9 => 4 - u9)
      (fun u9 hi_2 ih_1 H locs hP hD hS ls hl => ?_) 0 (by omega) hP hD hS (lv_sub hl [0, 1, 2, 3] rfl)
  obtain ⟨k, rfl⟩ : ∃ z, z = u9 := ⟨_, rfl⟩
  have hi_2 : k ≤ 4 := hi_2
  obtain hk := hi_2
  have hl : lv_has ls 5 [(3, .int (nI k)), (2, .int (adC sm x k)), (0, .ref mp), (1, .int x)] := hl
  have hP : va_P D vwCl [(mp, .inr (4, [.int tw, .int (nI C), .int (nI R), .int (nI F), .int gn, .int (nI n), .int (nI b), .ref mf, .ref ms, .ref mi, .ref mm, .ref mk, .ref mq, .ref mn, .ref mu, .ref mv])), (mf, .inl (cI, 6, .inl frA)), (ms, .inl (cI, 6, .inl stA)), (mi, .inl (cI, 12, .inl fz)), (mm, .inl (cI, 144, .inl ml)), (mk, .inl (cI, 12, .inl kp)), (mq, .inl (cI, 144, .inl km)), (mn, .inl (cI, 12, .inl nx)), (mu, .inl (cI, 4, .inl (sfill (mAdd sm x) sm k))), (mv, .inl (cZ, 144, .inl sn))] _ := hP
  have hD : va_D A [(mp, .inr (4, [.int tw, .int (nI C), .int (nI R), .int (nI F), .int gn, .int (nI n), .int (nI b), .ref mf, .ref ms, .ref mi, .ref mm, .ref mk, .ref mq, .ref mn, .ref mu, .ref mv])), (mf, .inl (cI, 6, .inl frA)), (ms, .inl (cI, 6, .inl stA)), (mi, .inl (cI, 12, .inl fz)), (mm, .inl (cI, 144, .inl ml)), (mk, .inl (cI, 12, .inl kp)), (mq, .inl (cI, 144, .inl km)), (mn, .inl (cI, 12, .inl nx)), (mu, .inl (cI, 4, .inl (sfill (mAdd sm x) sm k))), (mv, .inl (cZ, 144, .inl sn))] := hD
  refine lv_iload_n hx hb dX4_add_4 rfl (lv_at hl 0 rfl) ?_
  refine lv_iconst (v := 4) hx hb dX4_add_5 (by decide) ?_
  refine lv_icmp_ge (tgt := 38) hx hb dX4_add_6 (by decide) (fun c_3 => ?_) (fun c_3 => ?_)
  · have n_3 : 4 ≤ k := (nI_leI (a := 4) (b := k) (by omega) (by omega)).mp c_3
    obtain ⟨hP, hD⟩ := f_rep (g := mAdd sm x) hP hD 8 rfl (fun j hj => sfill_lt (by omega))
    have hP : va_P D vwCl [(mp, .inr (4, [.int tw, .int (nI C), .int (nI R), .int (nI F), .int gn, .int (nI n), .int (nI b), .ref mf, .ref ms, .ref mi, .ref mm, .ref mk, .ref mq, .ref mn, .ref mu, .ref mv])), (mf, .inl (cI, 6, .inl frA)), (ms, .inl (cI, 6, .inl stA)), (mi, .inl (cI, 12, .inl fz)), (mm, .inl (cI, 144, .inl ml)), (mk, .inl (cI, 12, .inl kp)), (mq, .inl (cI, 144, .inl km)), (mn, .inl (cI, 12, .inl nx)), (mu, .inl (cI, 4, .inl (mAdd sm x))), (mv, .inl (cZ, 144, .inl sn))] _ := hP
    have hD : va_D A [(mp, .inr (4, [.int tw, .int (nI C), .int (nI R), .int (nI F), .int gn, .int (nI n), .int (nI b), .ref mf, .ref ms, .ref mi, .ref mm, .ref mk, .ref mq, .ref mn, .ref mu, .ref mv])), (mf, .inl (cI, 6, .inl frA)), (ms, .inl (cI, 6, .inl stA)), (mi, .inl (cI, 12, .inl fz)), (mm, .inl (cI, 144, .inl ml)), (mk, .inl (cI, 12, .inl kp)), (mq, .inl (cI, 144, .inl km)), (mn, .inl (cI, 12, .inl nx)), (mu, .inl (cI, 4, .inl (mAdd sm x))), (mv, .inl (cZ, 144, .inl sn))] := hD
    exact f_ret_v hx hb hr hlocks hP hD hS dX4_add_38
  · have n_3 : k < 4 := Nat.lt_of_not_le (fun h => c_3 ((nI_leI (a := 4) (b := k) (by omega) (by omega)).mpr h))
    refine lv_aload_n hx hb dX4_add_9 rfl (lv_at hl 2 rfl) ?_
    refine va_get (D := D) (ci := 4) (v := .ref mu) (C := RX4) (T := TX4) (N := 16) hx hb hts wb_X4_add_4 hown hK hP 0 rfl rfl 14 (by decide) (hts _ wi_X4_add_1) (fun _ h9 => h9) rfl dX4_add_10 ?_
    refine lv_iload_n hx hb dX4_add_13 rfl (lv_at hl 0 rfl) ?_
    refine f_iald (k := k) hx hb hK hP 8 0 rfl rfl rfl (by omega) (by first | decide | omega) dX4_add_14 ?_
    refine f_topi (y := sm k) (sfill_at _ _ _) ?_
    refine lv_iload_n hx hb dX4_add_15 rfl (lv_at hl 1 rfl) ?_
    refine lv_iand hx hb dX4_add_16 ?_
    refine lv_istore (lv' := [(4, .int ((sm k) &&& (adC sm x k))), (3, .int (nI k)), (2, .int (adC sm x k)), (0, .ref mp), (1, .int x)]) hx hb dX4_add_17 hl (by decide) rfl (fun ls hl => ?_)
    refine lv_aload_n hx hb dX4_add_19 rfl (lv_at hl 3 rfl) ?_
    refine va_get (D := D) (ci := 4) (v := .ref mu) (C := RX4) (T := TX4) (N := 16) hx hb hts wb_X4_add_4 hown hK hP 0 rfl rfl 14 (by decide) (hts _ wi_X4_add_1) (fun _ h9 => h9) rfl dX4_add_20 ?_
    refine lv_iload_n hx hb dX4_add_23 rfl (lv_at hl 1 rfl) ?_
    refine lv_dup2_11 hx hb dX4_add_24 rfl rfl ?_
    refine f_iald (k := k) hx hb hK hP 8 0 rfl rfl rfl (by omega) (by first | decide | omega) dX4_add_25 ?_
    refine f_topi (y := sm k) (sfill_at _ _ _) ?_
    refine lv_iload_n hx hb dX4_add_26 rfl (lv_at hl 2 rfl) ?_
    refine lv_ixor hx hb dX4_add_27 ?_
    refine f_iast (k := k) hx hb hK hP hD hS 8 0 rfl rfl rfl (by omega) (by first | decide | omega) dX4_add_28 (fun H locs hP hD hS => ?_)
    have hP : va_P D vwCl [(mp, .inr (4, [.int tw, .int (nI C), .int (nI R), .int (nI F), .int gn, .int (nI n), .int (nI b), .ref mf, .ref ms, .ref mi, .ref mm, .ref mk, .ref mq, .ref mn, .ref mu, .ref mv])), (mf, .inl (cI, 6, .inl frA)), (ms, .inl (cI, 6, .inl stA)), (mi, .inl (cI, 12, .inl fz)), (mm, .inl (cI, 144, .inl ml)), (mk, .inl (cI, 12, .inl kp)), (mq, .inl (cI, 144, .inl km)), (mn, .inl (cI, 12, .inl nx)), (mu, .inl (cI, 4, .inl (upd (sfill (mAdd sm x) sm k) k ((sm k) ^^^ (adC sm x k))))), (mv, .inl (cZ, 144, .inl sn))] _ := hP
    have hD : va_D A [(mp, .inr (4, [.int tw, .int (nI C), .int (nI R), .int (nI F), .int gn, .int (nI n), .int (nI b), .ref mf, .ref ms, .ref mi, .ref mm, .ref mk, .ref mq, .ref mn, .ref mu, .ref mv])), (mf, .inl (cI, 6, .inl frA)), (ms, .inl (cI, 6, .inl stA)), (mi, .inl (cI, 12, .inl fz)), (mm, .inl (cI, 144, .inl ml)), (mk, .inl (cI, 12, .inl kp)), (mq, .inl (cI, 144, .inl km)), (mn, .inl (cI, 12, .inl nx)), (mu, .inl (cI, 4, .inl (upd (sfill (mAdd sm x) sm k) k ((sm k) ^^^ (adC sm x k))))), (mv, .inl (cZ, 144, .inl sn))] := hD
    obtain ⟨hP, hD⟩ := f_rep (g := sfill (mAdd sm x) sm (k + 1)) hP hD 8 rfl (fun j _ => sfill_up rfl j)
    have hP : va_P D vwCl [(mp, .inr (4, [.int tw, .int (nI C), .int (nI R), .int (nI F), .int gn, .int (nI n), .int (nI b), .ref mf, .ref ms, .ref mi, .ref mm, .ref mk, .ref mq, .ref mn, .ref mu, .ref mv])), (mf, .inl (cI, 6, .inl frA)), (ms, .inl (cI, 6, .inl stA)), (mi, .inl (cI, 12, .inl fz)), (mm, .inl (cI, 144, .inl ml)), (mk, .inl (cI, 12, .inl kp)), (mq, .inl (cI, 144, .inl km)), (mn, .inl (cI, 12, .inl nx)), (mu, .inl (cI, 4, .inl (sfill (mAdd sm x) sm (k + 1)))), (mv, .inl (cZ, 144, .inl sn))] _ := hP
    have hD : va_D A [(mp, .inr (4, [.int tw, .int (nI C), .int (nI R), .int (nI F), .int gn, .int (nI n), .int (nI b), .ref mf, .ref ms, .ref mi, .ref mm, .ref mk, .ref mq, .ref mn, .ref mu, .ref mv])), (mf, .inl (cI, 6, .inl frA)), (ms, .inl (cI, 6, .inl stA)), (mi, .inl (cI, 12, .inl fz)), (mm, .inl (cI, 144, .inl ml)), (mk, .inl (cI, 12, .inl kp)), (mq, .inl (cI, 144, .inl km)), (mn, .inl (cI, 12, .inl nx)), (mu, .inl (cI, 4, .inl (sfill (mAdd sm x) sm (k + 1)))), (mv, .inl (cZ, 144, .inl sn))] := hD
    refine lv_iload hx hb dX4_add_29 (lv_at hl 0 rfl) ?_
    refine lv_istore_n (lv' := [(2, .int ((sm k) &&& (adC sm x k))), (4, .int ((sm k) &&& (adC sm x k))), (3, .int (nI k)), (0, .ref mp), (1, .int x)]) hx hb dX4_add_31 rfl hl (by decide) rfl (fun ls hl => ?_)
    refine lv_iinc (v := nI (k + 1)) (lv' := [(3, .int (nI (k + 1))), (2, .int ((sm k) &&& (adC sm x k))), (4, .int ((sm k) &&& (adC sm x k))), (0, .ref mp), (1, .int x)]) hx hb dX4_add_32 hl (k := 2) rfl (nI_1 _) (by decide) rfl (fun ls hl => ?_)
    refine lv_goto (tgt := 4) hx hb dX4_add_35 (by decide) ?_
    exact ih_1 (k + 1) (by omega) (by first | omega | (simp only []; omega) | (show _ < _; simp only []; omega)) H locs hP hD hS ls (lv_sub hl [0, 1, 3, 4] rfl)

/-- the reference's sum over the cells around the row r -/
def mRow (C R F : Nat) (fz : Nat → Int32) (r : Nat) : Nat → Int32 := mSum (sp_X4_wide C R F fz (nI r + ((-1) : Int32))) (sp_X4_wide C R F fz (nI (r + 0))) (sp_X4_wide C R F fz (nI (r + 1))) (mFull C)
theorem zero4 (sm : Nat → Int32) (j : Nat) (hj : j < 4) : upd (upd (upd (upd sm 0 0) 1 0) 2 0) 3 0 j = 0 := by
  rcases (show j = 0 ∨ j = 1 ∨ j = 2 ∨ j = 3 by omega) with rfl | rfl | rfl | rfl <;> simp [upd]
theorem k_X4_count : yX4_count.cls = RX4 ∧ yX4_count.cls ≠ "java/lang/invoke/MethodHandle" ∧ yX4_count.cls ≠ "java/lang/invoke/VarHandle" ∧ (parseMethodDescriptor yX4_count.desc).map (fun d => d.parameters.length) = some 1 := by decide +kernel
theorem wb_X4_count_4 : ∀ w ∈ wsX40, w ∈ wsX4_count := (fun _ h => List.mem_cons_of_mem _ (List.mem_append_right _ h))
theorem wi_X4_count_1 : (Cond.fieldLink RX4 44 "FrostPaneModel" "sum" "[I") ∈ wsX4_count := List.mem_of_getElem? (i := 1) rfl
set_option maxHeartbeats 4000000 in
set_option maxRecDepth 100000 in
theorem c_X4_count (l : Launch) (D : va_G) (cI cZ cJ : ClassId) (sz : Nat) (mp mf ms mi mm mk mq mn mu mv C R F n b : Nat) (tw gn : Int32) (fz ml frA stA kp km nx sm sn : Nat → Int32) (r : Nat) (hC3 : 3 ≤ C) (hC : C ≤ 12) (hR3 : 3 ≤ R) (hR : R ≤ 12) (hF : F ≤ 2) (hn : n ≤ 6) (hb0 : b < n) (hr0 : r < R) : f_Mv l yX4_count wsX4_count ({ frames := 1, cells := 0, slots := 0, locals := 24 }) D (fTY cI cZ cJ) [.ref mp, .int (nI r)] sz [(mp, .inr (4, [.int tw, .int (nI C), .int (nI R), .int (nI F), .int gn, .int (nI n), .int (nI b), .ref mf, .ref ms, .ref mi, .ref mm, .ref mk, .ref mq, .ref mn, .ref mu, .ref mv])), (mf, .inl (cI, 6, .inl frA)), (ms, .inl (cI, 6, .inl stA)), (mi, .inl (cI, 12, .inl fz)), (mm, .inl (cI, 144, .inl ml)), (mk, .inl (cI, 12, .inl kp)), (mq, .inl (cI, 144, .inl km)), (mn, .inl (cI, 12, .inl nx)), (mu, .inl (cI, 4, .inl sm)), (mv, .inl (cZ, 144, .inl sn))] [(mp, .inr (4, [.int tw, .int (nI C), .int (nI R), .int (nI F), .int gn, .int (nI n), .int (nI b), .ref mf, .ref ms, .ref mi, .ref mm, .ref mk, .ref mq, .ref mn, .ref mu, .ref mv])), (mf, .inl (cI, 6, .inl frA)), (ms, .inl (cI, 6, .inl stA)), (mi, .inl (cI, 12, .inl fz)), (mm, .inl (cI, 144, .inl ml)), (mk, .inl (cI, 12, .inl kp)), (mq, .inl (cI, 144, .inl km)), (mn, .inl (cI, 12, .inl nx)), (mu, .inl (cI, 4, .inl (mRow C R F fz r))), (mv, .inl (cZ, 144, .inl sn))] := by
  refine f_ent_v (by decide) rfl (Nat.le_of_ble_eq_true rfl) ?_
  intro pg ev s m below meth cd hx hb hr hts hown hlocks hml hnm hsz hP hK hN A hD hA hS ls hl
  have hown : s.vm.findClass RX4 = some m.cls := hown
  have hl : lv_has ls 4 [(0, .ref mp), (1, .int (nI r))] := hl
  refine lv_iconst (v := 0) hx hb dX4_count_0 (by decide) ?_
  refine lv_istore_n (lv' := [(2, .int 0), (0, .ref mp), (1, .int (nI r))]) hx hb dX4_count_1 rfl hl (by decide) rfl (fun ls hl => ?_)
  refine lv_iload_n hx hb dX4_count_2 rfl (lv_at hl 0 rfl) ?_
  refine lv_iconst (v := 4) hx hb dX4_count_3 (by decide) ?_
  refine lv_icmp_ge (tgt := 20) hx hb dX4_count_4 (by decide) (fun c_1 => ?_) (fun c_1 => ?_)
  · exact absurd c_1 (by decide)
  · refine lv_aload_n hx hb dX4_count_7 rfl (lv_at hl 1 rfl) ?_
    refine va_get (D := D) (ci := 4) (v := .ref mu) (C := RX4) (T := TX4) (N := 16) hx hb hts wb_X4_count_4 hown hK hP 0 rfl rfl 14 (by decide) (hts _ wi_X4_count_1) (fun _ h9 => h9) rfl dX4_count_8 ?_
    refine lv_iload_n hx hb dX4_count_11 rfl (lv_at hl 0 rfl) ?_
    refine lv_iconst (v := 0) hx hb dX4_count_12 (by decide) ?_
    refine f_iast (k := 0) hx hb hK hP hD hS 8 0 rfl rfl rfl (by omega) (by first | decide | omega) dX4_count_13 (fun H locs hP hD hS => ?_)
    have hP : va_P D vwCl [(mp, .inr (4, [.int tw, .int (nI C), .int (nI R), .int (nI F), .int gn, .int (nI n), .int (nI b), .ref mf, .ref ms, .ref mi, .ref mm, .ref mk, .ref mq, .ref mn, .ref mu, .ref mv])), (mf, .inl (cI, 6, .inl frA)), (ms, .inl (cI, 6, .inl stA)), (mi, .inl (cI, 12, .inl fz)), (mm, .inl (cI, 144, .inl ml)), (mk, .inl (cI, 12, .inl kp)), (mq, .inl (cI, 144, .inl km)), (mn, .inl (cI, 12, .inl nx)), (mu, .inl (cI, 4, .inl (upd sm 0 0))), (mv, .inl (cZ, 144, .inl sn))] _ := hP
    have hD : va_D A [(mp, .inr (4, [.int tw, .int (nI C), .int (nI R), .int (nI F), .int gn, .int (nI n), .int (nI b), .ref mf, .ref ms, .ref mi, .ref mm, .ref mk, .ref mq, .ref mn, .ref mu, .ref mv])), (mf, .inl (cI, 6, .inl frA)), (ms, .inl (cI, 6, .inl stA)), (mi, .inl (cI, 12, .inl fz)), (mm, .inl (cI, 144, .inl ml)), (mk, .inl (cI, 12, .inl kp)), (mq, .inl (cI, 144, .inl km)), (mn, .inl (cI, 12, .inl nx)), (mu, .inl (cI, 4, .inl (upd sm 0 0))), (mv, .inl (cZ, 144, .inl sn))] := hD
    refine lv_iinc (v := 1) (lv' := [(2, .int 1), (0, .ref mp), (1, .int (nI r))]) hx hb dX4_count_14 hl (k := 0) rfl (by decide) (by decide) rfl (fun ls hl => ?_)
    refine lv_goto (tgt := 2) hx hb dX4_count_17 (by decide) ?_
    refine lv_iload_n hx hb dX4_count_2 rfl (lv_at hl 0 rfl) ?_
    refine lv_iconst (v := 4) hx hb dX4_count_3 (by decide) ?_
    refine lv_icmp_ge (tgt := 20) hx hb dX4_count_4 (by decide) (fun c_2 => ?_) (fun c_2 => ?_)
    · exact absurd c_2 (by decide)
    · refine lv_aload_n hx hb dX4_count_7 rfl (lv_at hl 1 rfl) ?_
      refine va_get (D := D) (ci := 4) (v := .ref mu) (C := RX4) (T := TX4) (N := 16) hx hb hts wb_X4_count_4 hown hK hP 0 rfl rfl 14 (by decide) (hts _ wi_X4_count_1) (fun _ h9 => h9) rfl dX4_count_8 ?_
      refine lv_iload_n hx hb dX4_count_11 rfl (lv_at hl 0 rfl) ?_
      refine lv_iconst (v := 0) hx hb dX4_count_12 (by decide) ?_
      refine f_iast (k := 1) hx hb hK hP hD hS 8 0 rfl rfl rfl (by omega) (by first | decide | omega) dX4_count_13 (fun H locs hP hD hS => ?_)
      have hP : va_P D vwCl [(mp, .inr (4, [.int tw, .int (nI C), .int (nI R), .int (nI F), .int gn, .int (nI n), .int (nI b), .ref mf, .ref ms, .ref mi, .ref mm, .ref mk, .ref mq, .ref mn, .ref mu, .ref mv])), (mf, .inl (cI, 6, .inl frA)), (ms, .inl (cI, 6, .inl stA)), (mi, .inl (cI, 12, .inl fz)), (mm, .inl (cI, 144, .inl ml)), (mk, .inl (cI, 12, .inl kp)), (mq, .inl (cI, 144, .inl km)), (mn, .inl (cI, 12, .inl nx)), (mu, .inl (cI, 4, .inl (upd (upd sm 0 0) 1 0))), (mv, .inl (cZ, 144, .inl sn))] _ := hP
      have hD : va_D A [(mp, .inr (4, [.int tw, .int (nI C), .int (nI R), .int (nI F), .int gn, .int (nI n), .int (nI b), .ref mf, .ref ms, .ref mi, .ref mm, .ref mk, .ref mq, .ref mn, .ref mu, .ref mv])), (mf, .inl (cI, 6, .inl frA)), (ms, .inl (cI, 6, .inl stA)), (mi, .inl (cI, 12, .inl fz)), (mm, .inl (cI, 144, .inl ml)), (mk, .inl (cI, 12, .inl kp)), (mq, .inl (cI, 144, .inl km)), (mn, .inl (cI, 12, .inl nx)), (mu, .inl (cI, 4, .inl (upd (upd sm 0 0) 1 0))), (mv, .inl (cZ, 144, .inl sn))] := hD
      refine lv_iinc (v := 2) (lv' := [(2, .int 2), (0, .ref mp), (1, .int (nI r))]) hx hb dX4_count_14 hl (k := 0) rfl (by decide) (by decide) rfl (fun ls hl => ?_)
      refine lv_goto (tgt := 2) hx hb dX4_count_17 (by decide) ?_
      refine lv_iload_n hx hb dX4_count_2 rfl (lv_at hl 0 rfl) ?_
      refine lv_iconst (v := 4) hx hb dX4_count_3 (by decide) ?_
      refine lv_icmp_ge (tgt := 20) hx hb dX4_count_4 (by decide) (fun c_3 => ?_) (fun c_3 => ?_)
      · exact absurd c_3 (by decide)
      · refine lv_aload_n hx hb dX4_count_7 rfl (lv_at hl 1 rfl) ?_
        refine va_get (D := D) (ci := 4) (v := .ref mu) (C := RX4) (T := TX4) (N := 16) hx hb hts wb_X4_count_4 hown hK hP 0 rfl rfl 14 (by decide) (hts _ wi_X4_count_1) (fun _ h9 => h9) rfl dX4_count_8 ?_
        refine lv_iload_n hx hb dX4_count_11 rfl (lv_at hl 0 rfl) ?_
        refine lv_iconst (v := 0) hx hb dX4_count_12 (by decide) ?_
        refine f_iast (k := 2) hx hb hK hP hD hS 8 0 rfl rfl rfl (by omega) (by first | decide | omega) dX4_count_13 (fun H locs hP hD hS => ?_)
        have hP : va_P D vwCl [(mp, .inr (4, [.int tw, .int (nI C), .int (nI R), .int (nI F), .int gn, .int (nI n), .int (nI b), .ref mf, .ref ms, .ref mi, .ref mm, .ref mk, .ref mq, .ref mn, .ref mu, .ref mv])), (mf, .inl (cI, 6, .inl frA)), (ms, .inl (cI, 6, .inl stA)), (mi, .inl (cI, 12, .inl fz)), (mm, .inl (cI, 144, .inl ml)), (mk, .inl (cI, 12, .inl kp)), (mq, .inl (cI, 144, .inl km)), (mn, .inl (cI, 12, .inl nx)), (mu, .inl (cI, 4, .inl (upd (upd (upd sm 0 0) 1 0) 2 0))), (mv, .inl (cZ, 144, .inl sn))] _ := hP
        have hD : va_D A [(mp, .inr (4, [.int tw, .int (nI C), .int (nI R), .int (nI F), .int gn, .int (nI n), .int (nI b), .ref mf, .ref ms, .ref mi, .ref mm, .ref mk, .ref mq, .ref mn, .ref mu, .ref mv])), (mf, .inl (cI, 6, .inl frA)), (ms, .inl (cI, 6, .inl stA)), (mi, .inl (cI, 12, .inl fz)), (mm, .inl (cI, 144, .inl ml)), (mk, .inl (cI, 12, .inl kp)), (mq, .inl (cI, 144, .inl km)), (mn, .inl (cI, 12, .inl nx)), (mu, .inl (cI, 4, .inl (upd (upd (upd sm 0 0) 1 0) 2 0))), (mv, .inl (cZ, 144, .inl sn))] := hD
        refine lv_iinc (v := 3) (lv' := [(2, .int 3), (0, .ref mp), (1, .int (nI r))]) hx hb dX4_count_14 hl (k := 0) rfl (by decide) (by decide) rfl (fun ls hl => ?_)
        refine lv_goto (tgt := 2) hx hb dX4_count_17 (by decide) ?_
        refine lv_iload_n hx hb dX4_count_2 rfl (lv_at hl 0 rfl) ?_
        refine lv_iconst (v := 4) hx hb dX4_count_3 (by decide) ?_
        refine lv_icmp_ge (tgt := 20) hx hb dX4_count_4 (by decide) (fun c_4 => ?_) (fun c_4 => ?_)
        · exact absurd c_4 (by decide)
        · refine lv_aload_n hx hb dX4_count_7 rfl (lv_at hl 1 rfl) ?_
          refine va_get (D := D) (ci := 4) (v := .ref mu) (C := RX4) (T := TX4) (N := 16) hx hb hts wb_X4_count_4 hown hK hP 0 rfl rfl 14 (by decide) (hts _ wi_X4_count_1) (fun _ h9 => h9) rfl dX4_count_8 ?_
          refine lv_iload_n hx hb dX4_count_11 rfl (lv_at hl 0 rfl) ?_
          refine lv_iconst (v := 0) hx hb dX4_count_12 (by decide) ?_
          refine f_iast (k := 3) hx hb hK hP hD hS 8 0 rfl rfl rfl (by omega) (by first | decide | omega) dX4_count_13 (fun H locs hP hD hS => ?_)
          have hP : va_P D vwCl [(mp, .inr (4, [.int tw, .int (nI C), .int (nI R), .int (nI F), .int gn, .int (nI n), .int (nI b), .ref mf, .ref ms, .ref mi, .ref mm, .ref mk, .ref mq, .ref mn, .ref mu, .ref mv])), (mf, .inl (cI, 6, .inl frA)), (ms, .inl (cI, 6, .inl stA)), (mi, .inl (cI, 12, .inl fz)), (mm, .inl (cI, 144, .inl ml)), (mk, .inl (cI, 12, .inl kp)), (mq, .inl (cI, 144, .inl km)), (mn, .inl (cI, 12, .inl nx)), (mu, .inl (cI, 4, .inl (upd (upd (upd (upd sm 0 0) 1 0) 2 0) 3 0))), (mv, .inl (cZ, 144, .inl sn))] _ := hP
          have hD : va_D A [(mp, .inr (4, [.int tw, .int (nI C), .int (nI R), .int (nI F), .int gn, .int (nI n), .int (nI b), .ref mf, .ref ms, .ref mi, .ref mm, .ref mk, .ref mq, .ref mn, .ref mu, .ref mv])), (mf, .inl (cI, 6, .inl frA)), (ms, .inl (cI, 6, .inl stA)), (mi, .inl (cI, 12, .inl fz)), (mm, .inl (cI, 144, .inl ml)), (mk, .inl (cI, 12, .inl kp)), (mq, .inl (cI, 144, .inl km)), (mn, .inl (cI, 12, .inl nx)), (mu, .inl (cI, 4, .inl (upd (upd (upd (upd sm 0 0) 1 0) 2 0) 3 0))), (mv, .inl (cZ, 144, .inl sn))] := hD
          refine lv_iinc (v := 4) (lv' := [(2, .int 4), (0, .ref mp), (1, .int (nI r))]) hx hb dX4_count_14 hl (k := 0) rfl (by decide) (by decide) rfl (fun ls hl => ?_)
          refine lv_goto (tgt := 2) hx hb dX4_count_17 (by decide) ?_
          refine lv_iload_n hx hb dX4_count_2 rfl (lv_at hl 0 rfl) ?_
          refine lv_iconst (v := 4) hx hb dX4_count_3 (by decide) ?_
          refine lv_icmp_ge (tgt := 20) hx hb dX4_count_4 (by decide) (fun c_5 => ?_) (fun c_5 => ?_)
          · obtain ⟨hP, hD⟩ := f_rep (g := fun _ => 0) hP hD 8 rfl (zero4 sm)
            have hP : va_P D vwCl [(mp, .inr (4, [.int tw, .int (nI C), .int (nI R), .int (nI F), .int gn, .int (nI n), .int (nI b), .ref mf, .ref ms, .ref mi, .ref mm, .ref mk, .ref mq, .ref mn, .ref mu, .ref mv])), (mf, .inl (cI, 6, .inl frA)), (ms, .inl (cI, 6, .inl stA)), (mi, .inl (cI, 12, .inl fz)), (mm, .inl (cI, 144, .inl ml)), (mk, .inl (cI, 12, .inl kp)), (mq, .inl (cI, 144, .inl km)), (mn, .inl (cI, 12, .inl nx)), (mu, .inl (cI, 4, .inl (fun _ => 0))), (mv, .inl (cZ, 144, .inl sn))] _ := hP
            have hD : va_D A [(mp, .inr (4, [.int tw, .int (nI C), .int (nI R), .int (nI F), .int gn, .int (nI n), .int (nI b), .ref mf, .ref ms, .ref mi, .ref mm, .ref mk, .ref mq, .ref mn, .ref mu, .ref mv])), (mf, .inl (cI, 6, .inl frA)), (ms, .inl (cI, 6, .inl stA)), (mi, .inl (cI, 12, .inl fz)), (mm, .inl (cI, 144, .inl ml)), (mk, .inl (cI, 12, .inl kp)), (mq, .inl (cI, 144, .inl km)), (mn, .inl (cI, 12, .inl nx)), (mu, .inl (cI, 4, .inl (fun _ => 0))), (mv, .inl (cZ, 144, .inl sn))] := hD
            refine lv_iconst (v := (-1)) hx hb dX4_count_20 (by decide) ?_
            refine lv_istore_n (lv' := [(2, .int (-1)), (0, .ref mp), (1, .int (nI r))]) hx hb dX4_count_21 rfl hl (by decide) rfl (fun ls hl => ?_)
            refine lv_iload_n hx hb dX4_count_22 rfl (lv_at hl 0 rfl) ?_
            refine lv_iconst (v := 2) hx hb dX4_count_23 (by decide) ?_
            refine lv_icmp_ge (tgt := 79) hx hb dX4_count_24 (by decide) (fun c_6 => ?_) (fun c_6 => ?_)
            · exact absurd c_6 (by decide)
            · refine lv_aload_n hx hb dX4_count_27 rfl (lv_at hl 1 rfl) ?_
              refine lv_iload_n hx hb dX4_count_28 rfl (lv_at hl 2 rfl) ?_
              refine lv_iload_n hx hb dX4_count_29 rfl (lv_at hl 0 rfl) ?_
              refine lv_iadd hx hb dX4_count_30 ?_
              refine f_callVi ⟨hx, hb, hml, hown, hts⟩ hP hD hS hA hK hN [0, 1, 2, 3, 4, 5, 6, 7, 8, 9] (w2 := [(mp, .inr (4, [.int tw, .int (nI C), .int (nI R), .int (nI F), .int gn, .int (nI n), .int (nI b), .ref mf, .ref ms, .ref mi, .ref mm, .ref mk, .ref mq, .ref mn, .ref mu, .ref mv])), (mf, .inl (cI, 6, .inl frA)), (ms, .inl (cI, 6, .inl stA)), (mi, .inl (cI, 12, .inl fz)), (mm, .inl (cI, 144, .inl ml)), (mk, .inl (cI, 12, .inl kp)), (mq, .inl (cI, 144, .inl km)), (mn, .inl (cI, 12, .inl nx)), (mu, .inl (cI, 4, .inl (fun _ => 0))), (mv, .inl (cZ, 144, .inl sn))])
                  (c_X4_wide (l := l) (D := D) (cI := cI) (cZ := cZ) (cJ := cJ) (sz := _) (mp := mp) (mf := mf) (ms := ms) (mi := mi) (mm := mm) (mk := mk) (mq := mq) (mn := mn) (mu := mu) (mv := mv) (C := C) (R := R) (F := F) (n := n) (b := b) (tw := tw) (gn := gn) (fz := fz) (ml := ml) (frA := frA) (stA := stA) (kp := kp) (km := km) (nx := nx) (sm := fun _ => 0) (sn := sn) (row := (nI r) + (-1)) (hC3 := (by first | assumption | omega)) (hC := (by first | assumption | omega)) (hR3 := (by first | assumption | omega)) (hR := (by first | assumption | omega)) (hF := (by first | assumption | omega)) (hn := (by first | assumption | omega)) (hb0 := (by first | assumption | omega)) (hrow := (by first | exact Or.inr ⟨_, by omega, rfl⟩ | exact row_m1 hr0))) (cwV 1 hts gX4_count_X4_wide rfl rfl rfl k_X4_wide ⟨Nat.le_of_ble_eq_true rfl, Nat.le_of_ble_eq_true rfl⟩) 0 rfl rfl rfl rfl [mp, mf, ms, mi, mm, mk, mq, mn, mu, mv] rfl rfl rfl rfl rfl hl.1 (Nat.le_of_ble_eq_true rfl) dX4_count_31 ⟨Nat.le_of_ble_eq_true rfl, Nat.le_of_ble_eq_true rfl⟩ (fun H locs hP hD hS => ?_)
              refine lv_istore_n (lv' := [(3, .int (sp_X4_wide C R F fz ((nI r) + (-1)))), (2, .int (-1)), (0, .ref mp), (1, .int (nI r))]) hx hb dX4_count_34 rfl hl (by decide) rfl (fun ls hl => ?_)
              refine lv_aload_n hx hb dX4_count_35 rfl (lv_at hl 2 rfl) ?_
              refine lv_iload_n hx hb dX4_count_36 rfl (lv_at hl 0 rfl) ?_
              refine lv_aload_n hx hb dX4_count_37 rfl (lv_at hl 2 rfl) ?_
              refine f_callVi ⟨hx, hb, hml, hown, hts⟩ hP hD hS hA hK hN [0, 1, 2, 3, 4, 5, 6, 7, 8, 9] (w2 := [(mp, .inr (4, [.int tw, .int (nI C), .int (nI R), .int (nI F), .int gn, .int (nI n), .int (nI b), .ref mf, .ref ms, .ref mi, .ref mm, .ref mk, .ref mq, .ref mn, .ref mu, .ref mv])), (mf, .inl (cI, 6, .inl frA)), (ms, .inl (cI, 6, .inl stA)), (mi, .inl (cI, 12, .inl fz)), (mm, .inl (cI, 144, .inl ml)), (mk, .inl (cI, 12, .inl kp)), (mq, .inl (cI, 144, .inl km)), (mn, .inl (cI, 12, .inl nx)), (mu, .inl (cI, 4, .inl (fun _ => 0))), (mv, .inl (cZ, 144, .inl sn))])
                  (c_X4_full (l := l) (D := D) (cI := cI) (cZ := cZ) (cJ := cJ) (sz := _) (mp := mp) (mf := mf) (ms := ms) (mi := mi) (mm := mm) (mk := mk) (mq := mq) (mn := mn) (mu := mu) (mv := mv) (C := C) (R := R) (F := F) (n := n) (b := b) (tw := tw) (gn := gn) (fz := fz) (ml := ml) (frA := frA) (stA := stA) (kp := kp) (km := km) (nx := nx) (sm := fun _ => 0) (sn := sn) (hC3 := (by first | assumption | omega)) (hC := (by first | assumption | omega)) (hR3 := (by first | assumption | omega)) (hR := (by first | assumption | omega)) (hF := (by first | assumption | omega)) (hn := (by first | assumption | omega)) (hb0 := (by first | assumption | omega))) (cwV 0 hts gX4_count_X4_full rfl rfl rfl k_X4_full ⟨Nat.le_of_ble_eq_true rfl, Nat.le_of_ble_eq_true rfl⟩) 0 rfl rfl rfl rfl [mp, mf, ms, mi, mm, mk, mq, mn, mu, mv] rfl rfl rfl rfl rfl hl.1 (Nat.le_of_ble_eq_true rfl) dX4_count_38 ⟨Nat.le_of_ble_eq_true rfl, Nat.le_of_ble_eq_true rfl⟩ (fun H locs hP hD hS => ?_)
              refine lv_iand hx hb dX4_count_41 ?_
              refine f_callVv ⟨hx, hb, hml, hown, hts⟩ hP hD hS hA hK hN [0, 1, 2, 3, 4, 5, 6, 7, 8, 9] (w2 := [(mp, .inr (4, [.int tw, .int (nI C), .int (nI R), .int (nI F), .int gn, .int (nI n), .int (nI b), .ref mf, .ref ms, .ref mi, .ref mm, .ref mk, .ref mq, .ref mn, .ref mu, .ref mv])), (mf, .inl (cI, 6, .inl frA)), (ms, .inl (cI, 6, .inl stA)), (mi, .inl (cI, 12, .inl fz)), (mm, .inl (cI, 144, .inl ml)), (mk, .inl (cI, 12, .inl kp)), (mq, .inl (cI, 144, .inl km)), (mn, .inl (cI, 12, .inl nx)), (mu, .inl (cI, 4, .inl (mAdd (fun _ => 0) ((sp_X4_wide C R F fz ((nI r) + (-1))) &&& (mFull C))))), (mv, .inl (cZ, 144, .inl sn))])
                  (c_X4_add (l := l) (D := D) (cI := cI) (cZ := cZ) (cJ := cJ) (sz := _) (mp := mp) (mf := mf) (ms := ms) (mi := mi) (mm := mm) (mk := mk) (mq := mq) (mn := mn) (mu := mu) (mv := mv) (C := C) (R := R) (F := F) (n := n) (b := b) (tw := tw) (gn := gn) (fz := fz) (ml := ml) (frA := frA) (stA := stA) (kp := kp) (km := km) (nx := nx) (sm := fun _ => 0) (sn := sn) (x := (sp_X4_wide C R F fz ((nI r) + (-1))) &&& (mFull C)) (hC3 := (by first | assumption | omega)) (hC := (by first | assumption | omega)) (hR3 := (by first | assumption | omega)) (hR := (by first | assumption | omega)) (hF := (by first | assumption | omega)) (hn := (by first | assumption | omega)) (hb0 := (by first | assumption | omega))) (cwV 1 hts gX4_count_X4_add rfl rfl rfl k_X4_add ⟨Nat.le_of_ble_eq_true rfl, Nat.le_of_ble_eq_true rfl⟩) 0 rfl rfl rfl rfl [mp, mf, ms, mi, mm, mk, mq, mn, mu, mv] rfl rfl rfl rfl rfl hl.1 (Nat.le_of_ble_eq_true rfl) dX4_count_42 ⟨Nat.le_of_ble_eq_true rfl, Nat.le_of_ble_eq_true rfl⟩ (fun H locs hP hD hS => ?_)
              refine lv_aload_n hx hb dX4_count_45 rfl (lv_at hl 2 rfl) ?_
              refine lv_iload_n hx hb dX4_count_46 rfl (lv_at hl 0 rfl) ?_
              refine lv_iconst (v := 2) hx hb dX4_count_47 (by decide) ?_
              refine lv_ishr hx hb dX4_count_48 ?_
              refine lv_aload_n hx hb dX4_count_49 rfl (lv_at hl 2 rfl) ?_
              refine f_callVi ⟨hx, hb, hml, hown, hts⟩ hP hD hS hA hK hN [0, 1, 2, 3, 4, 5, 6, 7, 8, 9] (w2 := [(mp, .inr (4, [.int tw, .int (nI C), .int (nI R), .int (nI F), .int gn, .int (nI n), .int (nI b), .ref mf, .ref ms, .ref mi, .ref mm, .ref mk, .ref mq, .ref mn, .ref mu, .ref mv])), (mf, .inl (cI, 6, .inl frA)), (ms, .inl (cI, 6, .inl stA)), (mi, .inl (cI, 12, .inl fz)), (mm, .inl (cI, 144, .inl ml)), (mk, .inl (cI, 12, .inl kp)), (mq, .inl (cI, 144, .inl km)), (mn, .inl (cI, 12, .inl nx)), (mu, .inl (cI, 4, .inl (mAdd (fun _ => 0) ((sp_X4_wide C R F fz ((nI r) + (-1))) &&& (mFull C))))), (mv, .inl (cZ, 144, .inl sn))])
                  (c_X4_full (l := l) (D := D) (cI := cI) (cZ := cZ) (cJ := cJ) (sz := _) (mp := mp) (mf := mf) (ms := ms) (mi := mi) (mm := mm) (mk := mk) (mq := mq) (mn := mn) (mu := mu) (mv := mv) (C := C) (R := R) (F := F) (n := n) (b := b) (tw := tw) (gn := gn) (fz := fz) (ml := ml) (frA := frA) (stA := stA) (kp := kp) (km := km) (nx := nx) (sm := mAdd (fun _ => 0) ((sp_X4_wide C R F fz ((nI r) + (-1))) &&& (mFull C))) (sn := sn) (hC3 := (by first | assumption | omega)) (hC := (by first | assumption | omega)) (hR3 := (by first | assumption | omega)) (hR := (by first | assumption | omega)) (hF := (by first | assumption | omega)) (hn := (by first | assumption | omega)) (hb0 := (by first | assumption | omega))) (cwV 0 hts gX4_count_X4_full rfl rfl rfl k_X4_full ⟨Nat.le_of_ble_eq_true rfl, Nat.le_of_ble_eq_true rfl⟩) 0 rfl rfl rfl rfl [mp, mf, ms, mi, mm, mk, mq, mn, mu, mv] rfl rfl rfl rfl rfl hl.1 (Nat.le_of_ble_eq_true rfl) dX4_count_50 ⟨Nat.le_of_ble_eq_true rfl, Nat.le_of_ble_eq_true rfl⟩ (fun H locs hP hD hS => ?_)
              refine lv_iand hx hb dX4_count_53 ?_
              refine f_callVv ⟨hx, hb, hml, hown, hts⟩ hP hD hS hA hK hN [0, 1, 2, 3, 4, 5, 6, 7, 8, 9] (w2 := [(mp, .inr (4, [.int tw, .int (nI C), .int (nI R), .int (nI F), .int gn, .int (nI n), .int (nI b), .ref mf, .ref ms, .ref mi, .ref mm, .ref mk, .ref mq, .ref mn, .ref mu, .ref mv])), (mf, .inl (cI, 6, .inl frA)), (ms, .inl (cI, 6, .inl stA)), (mi, .inl (cI, 12, .inl fz)), (mm, .inl (cI, 144, .inl ml)), (mk, .inl (cI, 12, .inl kp)), (mq, .inl (cI, 144, .inl km)), (mn, .inl (cI, 12, .inl nx)), (mu, .inl (cI, 4, .inl (mAdd (mAdd (fun _ => 0) ((sp_X4_wide C R F fz ((nI r) + (-1))) &&& (mFull C))) (((sp_X4_wide C R F fz ((nI r) + (-1))) >>> ((2 : Int32) &&& 31)) &&& (mFull C))))), (mv, .inl (cZ, 144, .inl sn))])
                  (c_X4_add (l := l) (D := D) (cI := cI) (cZ := cZ) (cJ := cJ) (sz := _) (mp := mp) (mf := mf) (ms := ms) (mi := mi) (mm := mm) (mk := mk) (mq := mq) (mn := mn) (mu := mu) (mv := mv) (C := C) (R := R) (F := F) (n := n) (b := b) (tw := tw) (gn := gn) (fz := fz) (ml := ml) (frA := frA) (stA := stA) (kp := kp) (km := km) (nx := nx) (sm := mAdd (fun _ => 0) ((sp_X4_wide C R F fz ((nI r) + (-1))) &&& (mFull C))) (sn := sn) (x := ((sp_X4_wide C R F fz ((nI r) + (-1))) >>> ((2 : Int32) &&& 31)) &&& (mFull C)) (hC3 := (by first | assumption | omega)) (hC := (by first | assumption | omega)) (hR3 := (by first | assumption | omega)) (hR := (by first | assumption | omega)) (hF := (by first | assumption | omega)) (hn := (by first | assumption | omega)) (hb0 := (by first | assumption | omega))) (cwV 1 hts gX4_count_X4_add rfl rfl rfl k_X4_add ⟨Nat.le_of_ble_eq_true rfl, Nat.le_of_ble_eq_true rfl⟩) 0 rfl rfl rfl rfl [mp, mf, ms, mi, mm, mk, mq, mn, mu, mv] rfl rfl rfl rfl rfl hl.1 (Nat.le_of_ble_eq_true rfl) dX4_count_54 ⟨Nat.le_of_ble_eq_true rfl, Nat.le_of_ble_eq_true rfl⟩ (fun H locs hP hD hS => ?_)
              refine lv_iload_n hx hb dX4_count_57 rfl (lv_at hl 1 rfl) ?_
              refine lv_if_eq (tgt := 73) hx hb dX4_count_58 (by decide) (fun c_7 => ?_) (fun c_7 => ?_)
              · exact absurd c_7 (by decide)
              · refine lv_aload_n hx hb dX4_count_61 rfl (lv_at hl 2 rfl) ?_
                refine lv_iload_n hx hb dX4_count_62 rfl (lv_at hl 0 rfl) ?_
                refine lv_iconst (v := 1) hx hb dX4_count_63 (by decide) ?_
                refine lv_ishr hx hb dX4_count_64 ?_
                refine lv_aload_n hx hb dX4_count_65 rfl (lv_at hl 2 rfl) ?_
                refine f_callVi ⟨hx, hb, hml, hown, hts⟩ hP hD hS hA hK hN [0, 1, 2, 3, 4, 5, 6, 7, 8, 9] (w2 := [(mp, .inr (4, [.int tw, .int (nI C), .int (nI R), .int (nI F), .int gn, .int (nI n), .int (nI b), .ref mf, .ref ms, .ref mi, .ref mm, .ref mk, .ref mq, .ref mn, .ref mu, .ref mv])), (mf, .inl (cI, 6, .inl frA)), (ms, .inl (cI, 6, .inl stA)), (mi, .inl (cI, 12, .inl fz)), (mm, .inl (cI, 144, .inl ml)), (mk, .inl (cI, 12, .inl kp)), (mq, .inl (cI, 144, .inl km)), (mn, .inl (cI, 12, .inl nx)), (mu, .inl (cI, 4, .inl (mAdd (mAdd (fun _ => 0) ((sp_X4_wide C R F fz ((nI r) + (-1))) &&& (mFull C))) (((sp_X4_wide C R F fz ((nI r) + (-1))) >>> ((2 : Int32) &&& 31)) &&& (mFull C))))), (mv, .inl (cZ, 144, .inl sn))])
                    (c_X4_full (l := l) (D := D) (cI := cI) (cZ := cZ) (cJ := cJ) (sz := _) (mp := mp) (mf := mf) (ms := ms) (mi := mi) (mm := mm) (mk := mk) (mq := mq) (mn := mn) (mu := mu) (mv := mv) (C := C) (R := R) (F := F) (n := n) (b := b) (tw := tw) (gn := gn) (fz := fz) (ml := ml) (frA := frA) (stA := stA) (kp := kp) (km := km) (nx := nx) (sm := mAdd (mAdd (fun _ => 0) ((sp_X4_wide C R F fz ((nI r) + (-1))) &&& (mFull C))) (((sp_X4_wide C R F fz ((nI r) + (-1))) >>> ((2 : Int32) &&& 31)) &&& (mFull C))) (sn := sn) (hC3 := (by first | assumption | omega)) (hC := (by first | assumption | omega)) (hR3 := (by first | assumption | omega)) (hR := (by first | assumption | omega)) (hF := (by first | assumption | omega)) (hn := (by first | assumption | omega)) (hb0 := (by first | assumption | omega))) (cwV 0 hts gX4_count_X4_full rfl rfl rfl k_X4_full ⟨Nat.le_of_ble_eq_true rfl, Nat.le_of_ble_eq_true rfl⟩) 0 rfl rfl rfl rfl [mp, mf, ms, mi, mm, mk, mq, mn, mu, mv] rfl rfl rfl rfl rfl hl.1 (Nat.le_of_ble_eq_true rfl) dX4_count_66 ⟨Nat.le_of_ble_eq_true rfl, Nat.le_of_ble_eq_true rfl⟩ (fun H locs hP hD hS => ?_)
                refine lv_iand hx hb dX4_count_69 ?_
                refine f_callVv ⟨hx, hb, hml, hown, hts⟩ hP hD hS hA hK hN [0, 1, 2, 3, 4, 5, 6, 7, 8, 9] (w2 := [(mp, .inr (4, [.int tw, .int (nI C), .int (nI R), .int (nI F), .int gn, .int (nI n), .int (nI b), .ref mf, .ref ms, .ref mi, .ref mm, .ref mk, .ref mq, .ref mn, .ref mu, .ref mv])), (mf, .inl (cI, 6, .inl frA)), (ms, .inl (cI, 6, .inl stA)), (mi, .inl (cI, 12, .inl fz)), (mm, .inl (cI, 144, .inl ml)), (mk, .inl (cI, 12, .inl kp)), (mq, .inl (cI, 144, .inl km)), (mn, .inl (cI, 12, .inl nx)), (mu, .inl (cI, 4, .inl (mAdd (mAdd (mAdd (fun _ => 0) ((sp_X4_wide C R F fz ((nI r) + (-1))) &&& (mFull C))) (((sp_X4_wide C R F fz ((nI r) + (-1))) >>> ((2 : Int32) &&& 31)) &&& (mFull C))) (((sp_X4_wide C R F fz ((nI r) + (-1))) >>> ((1 : Int32) &&& 31)) &&& (mFull C))))), (mv, .inl (cZ, 144, .inl sn))])
                    (c_X4_add (l := l) (D := D) (cI := cI) (cZ := cZ) (cJ := cJ) (sz := _) (mp := mp) (mf := mf) (ms := ms) (mi := mi) (mm := mm) (mk := mk) (mq := mq) (mn := mn) (mu := mu) (mv := mv) (C := C) (R := R) (F := F) (n := n) (b := b) (tw := tw) (gn := gn) (fz := fz) (ml := ml) (frA := frA) (stA := stA) (kp := kp) (km := km) (nx := nx) (sm := mAdd (mAdd (fun _ => 0) ((sp_X4_wide C R F fz ((nI r) + (-1))) &&& (mFull C))) (((sp_X4_wide C R F fz ((nI r) + (-1))) >>> ((2 : Int32) &&& 31)) &&& (mFull C))) (sn := sn) (x := ((sp_X4_wide C R F fz ((nI r) + (-1))) >>> ((1 : Int32) &&& 31)) &&& (mFull C)) (hC3 := (by first | assumption | omega)) (hC := (by first | assumption | omega)) (hR3 := (by first | assumption | omega)) (hR := (by first | assumption | omega)) (hF := (by first | assumption | omega)) (hn := (by first | assumption | omega)) (hb0 := (by first | assumption | omega))) (cwV 1 hts gX4_count_X4_add rfl rfl rfl k_X4_add ⟨Nat.le_of_ble_eq_true rfl, Nat.le_of_ble_eq_true rfl⟩) 0 rfl rfl rfl rfl [mp, mf, ms, mi, mm, mk, mq, mn, mu, mv] rfl rfl rfl rfl rfl hl.1 (Nat.le_of_ble_eq_true rfl) dX4_count_70 ⟨Nat.le_of_ble_eq_true rfl, Nat.le_of_ble_eq_true rfl⟩ (fun H locs hP hD hS => ?_)
                refine lv_iinc (v := 0) (lv' := [(2, .int 0), (3, .int (sp_X4_wide C R F fz ((nI r) + (-1)))), (0, .ref mp), (1, .int (nI r))]) hx hb dX4_count_73 hl (k := 1) rfl (by decide) (by decide) rfl (fun ls hl => ?_)
                refine lv_goto (tgt := 22) hx hb dX4_count_76 (by decide) ?_
                refine lv_iload_n hx hb dX4_count_22 rfl (lv_at hl 0 rfl) ?_
                refine lv_iconst (v := 2) hx hb dX4_count_23 (by decide) ?_
                refine lv_icmp_ge (tgt := 79) hx hb dX4_count_24 (by decide) (fun c_8 => ?_) (fun c_8 => ?_)
                · exact absurd c_8 (by decide)
                · refine lv_aload_n hx hb dX4_count_27 rfl (lv_at hl 2 rfl) ?_
                  refine lv_iload_n hx hb dX4_count_28 rfl (lv_at hl 3 rfl) ?_
                  refine lv_iload_n hx hb dX4_count_29 rfl (lv_at hl 0 rfl) ?_
                  refine lv_iadd hx hb dX4_count_30 ?_
                  refine f_topi (y := nI (r + 0)) (nI_add r 0) ?_
                  refine f_callVi ⟨hx, hb, hml, hown, hts⟩ hP hD hS hA hK hN [0, 1, 2, 3, 4, 5, 6, 7, 8, 9] (w2 := [(mp, .inr (4, [.int tw, .int (nI C), .int (nI R), .int (nI F), .int gn, .int (nI n), .int (nI b), .ref mf, .ref ms, .ref mi, .ref mm, .ref mk, .ref mq, .ref mn, .ref mu, .ref mv])), (mf, .inl (cI, 6, .inl frA)), (ms, .inl (cI, 6, .inl stA)), (mi, .inl (cI, 12, .inl fz)), (mm, .inl (cI, 144, .inl ml)), (mk, .inl (cI, 12, .inl kp)), (mq, .inl (cI, 144, .inl km)), (mn, .inl (cI, 12, .inl nx)), (mu, .inl (cI, 4, .inl (mAdd (mAdd (mAdd (fun _ => 0) ((sp_X4_wide C R F fz ((nI r) + (-1))) &&& (mFull C))) (((sp_X4_wide C R F fz ((nI r) + (-1))) >>> ((2 : Int32) &&& 31)) &&& (mFull C))) (((sp_X4_wide C R F fz ((nI r) + (-1))) >>> ((1 : Int32) &&& 31)) &&& (mFull C))))), (mv, .inl (cZ, 144, .inl sn))])
                      (c_X4_wide (l := l) (D := D) (cI := cI) (cZ := cZ) (cJ := cJ) (sz := _) (mp := mp) (mf := mf) (ms := ms) (mi := mi) (mm := mm) (mk := mk) (mq := mq) (mn := mn) (mu := mu) (mv := mv) (C := C) (R := R) (F := F) (n := n) (b := b) (tw := tw) (gn := gn) (fz := fz) (ml := ml) (frA := frA) (stA := stA) (kp := kp) (km := km) (nx := nx) (sm := mAdd (mAdd (mAdd (fun _ => 0) ((sp_X4_wide C R F fz ((nI r) + (-1))) &&& (mFull C))) (((sp_X4_wide C R F fz ((nI r) + (-1))) >>> ((2 : Int32) &&& 31)) &&& (mFull C))) (((sp_X4_wide C R F fz ((nI r) + (-1))) >>> ((1 : Int32) &&& 31)) &&& (mFull C))) (sn := sn) (row := nI (r + 0)) (hC3 := (by first | assumption | omega)) (hC := (by first | assumption | omega)) (hR3 := (by first | assumption | omega)) (hR := (by first | assumption | omega)) (hF := (by first | assumption | omega)) (hn := (by first | assumption | omega)) (hb0 := (by first | assumption | omega)) (hrow := (by first | exact Or.inr ⟨_, by omega, rfl⟩ | exact row_m1 hr0))) (cwV 1 hts gX4_count_X4_wide rfl rfl rfl k_X4_wide ⟨Nat.le_of_ble_eq_true rfl, Nat.le_of_ble_eq_true rfl⟩) 0 rfl rfl rfl rfl [mp, mf, ms, mi, mm, mk, mq, mn, mu, mv] rfl rfl rfl rfl rfl hl.1 (Nat.le_of_ble_eq_true rfl) dX4_count_31 ⟨Nat.le_of_ble_eq_true rfl, Nat.le_of_ble_eq_true rfl⟩ (fun H locs hP hD hS => ?_)
                  refine lv_istore_n (lv' := [(3, .int (sp_X4_wide C R F fz (nI (r + 0)))), (2, .int 0), (0, .ref mp), (1, .int (nI r))]) hx hb dX4_count_34 rfl hl (by decide) rfl (fun ls hl => ?_)
                  refine lv_aload_n hx hb dX4_count_35 rfl (lv_at hl 2 rfl) ?_
                  refine lv_iload_n hx hb dX4_count_36 rfl (lv_at hl 0 rfl) ?_
                  refine lv_aload_n hx hb dX4_count_37 rfl (lv_at hl 2 rfl) ?_
                  refine f_callVi ⟨hx, hb, hml, hown, hts⟩ hP hD hS hA hK hN [0, 1, 2, 3, 4, 5, 6, 7, 8, 9] (w2 := [(mp, .inr (4, [.int tw, .int (nI C), .int (nI R), .int (nI F), .int gn, .int (nI n), .int (nI b), .ref mf, .ref ms, .ref mi, .ref mm, .ref mk, .ref mq, .ref mn, .ref mu, .ref mv])), (mf, .inl (cI, 6, .inl frA)), (ms, .inl (cI, 6, .inl stA)), (mi, .inl (cI, 12, .inl fz)), (mm, .inl (cI, 144, .inl ml)), (mk, .inl (cI, 12, .inl kp)), (mq, .inl (cI, 144, .inl km)), (mn, .inl (cI, 12, .inl nx)), (mu, .inl (cI, 4, .inl (mAdd (mAdd (mAdd (fun _ => 0) ((sp_X4_wide C R F fz ((nI r) + (-1))) &&& (mFull C))) (((sp_X4_wide C R F fz ((nI r) + (-1))) >>> ((2 : Int32) &&& 31)) &&& (mFull C))) (((sp_X4_wide C R F fz ((nI r) + (-1))) >>> ((1 : Int32) &&& 31)) &&& (mFull C))))), (mv, .inl (cZ, 144, .inl sn))])
                      (c_X4_full (l := l) (D := D) (cI := cI) (cZ := cZ) (cJ := cJ) (sz := _) (mp := mp) (mf := mf) (ms := ms) (mi := mi) (mm := mm) (mk := mk) (mq := mq) (mn := mn) (mu := mu) (mv := mv) (C := C) (R := R) (F := F) (n := n) (b := b) (tw := tw) (gn := gn) (fz := fz) (ml := ml) (frA := frA) (stA := stA) (kp := kp) (km := km) (nx := nx) (sm := mAdd (mAdd (mAdd (fun _ => 0) ((sp_X4_wide C R F fz ((nI r) + (-1))) &&& (mFull C))) (((sp_X4_wide C R F fz ((nI r) + (-1))) >>> ((2 : Int32) &&& 31)) &&& (mFull C))) (((sp_X4_wide C R F fz ((nI r) + (-1))) >>> ((1 : Int32) &&& 31)) &&& (mFull C))) (sn := sn) (hC3 := (by first | assumption | omega)) (hC := (by first | assumption | omega)) (hR3 := (by first | assumption | omega)) (hR := (by first | assumption | omega)) (hF := (by first | assumption | omega)) (hn := (by first | assumption | omega)) (hb0 := (by first | assumption | omega))) (cwV 0 hts gX4_count_X4_full rfl rfl rfl k_X4_full ⟨Nat.le_of_ble_eq_true rfl, Nat.le_of_ble_eq_true rfl⟩) 0 rfl rfl rfl rfl [mp, mf, ms, mi, mm, mk, mq, mn, mu, mv] rfl rfl rfl rfl rfl hl.1 (Nat.le_of_ble_eq_true rfl) dX4_count_38 ⟨Nat.le_of_ble_eq_true rfl, Nat.le_of_ble_eq_true rfl⟩ (fun H locs hP hD hS => ?_)
                  refine lv_iand hx hb dX4_count_41 ?_
                  refine f_callVv ⟨hx, hb, hml, hown, hts⟩ hP hD hS hA hK hN [0, 1, 2, 3, 4, 5, 6, 7, 8, 9] (w2 := [(mp, .inr (4, [.int tw, .int (nI C), .int (nI R), .int (nI F), .int gn, .int (nI n), .int (nI b), .ref mf, .ref ms, .ref mi, .ref mm, .ref mk, .ref mq, .ref mn, .ref mu, .ref mv])), (mf, .inl (cI, 6, .inl frA)), (ms, .inl (cI, 6, .inl stA)), (mi, .inl (cI, 12, .inl fz)), (mm, .inl (cI, 144, .inl ml)), (mk, .inl (cI, 12, .inl kp)), (mq, .inl (cI, 144, .inl km)), (mn, .inl (cI, 12, .inl nx)), (mu, .inl (cI, 4, .inl (mAdd (mAdd (mAdd (mAdd (fun _ => 0) ((sp_X4_wide C R F fz ((nI r) + (-1))) &&& (mFull C))) (((sp_X4_wide C R F fz ((nI r) + (-1))) >>> ((2 : Int32) &&& 31)) &&& (mFull C))) (((sp_X4_wide C R F fz ((nI r) + (-1))) >>> ((1 : Int32) &&& 31)) &&& (mFull C))) ((sp_X4_wide C R F fz (nI (r + 0))) &&& (mFull C))))), (mv, .inl (cZ, 144, .inl sn))])
                      (c_X4_add (l := l) (D := D) (cI := cI) (cZ := cZ) (cJ := cJ) (sz := _) (mp := mp) (mf := mf) (ms := ms) (mi := mi) (mm := mm) (mk := mk) (mq := mq) (mn := mn) (mu := mu) (mv := mv) (C := C) (R := R) (F := F) (n := n) (b := b) (tw := tw) (gn := gn) (fz := fz) (ml := ml) (frA := frA) (stA := stA) (kp := kp) (km := km) (nx := nx) (sm := mAdd (mAdd (mAdd (fun _ => 0) ((sp_X4_wide C R F fz ((nI r) + (-1))) &&& (mFull C))) (((sp_X4_wide C R F fz ((nI r) + (-1))) >>> ((2 : Int32) &&& 31)) &&& (mFull C))) (((sp_X4_wide C R F fz ((nI r) + (-1))) >>> ((1 : Int32) &&& 31)) &&& (mFull C))) (sn := sn) (x := (sp_X4_wide C R F fz (nI (r + 0))) &&& (mFull C)) (hC3 := (by first | assumption | omega)) (hC := (by first | assumption | omega)) (hR3 := (by first | assumption | omega)) (hR := (by first | assumption | omega)) (hF := (by first | assumption | omega)) (hn := (by first | assumption | omega)) (hb0 := (by first | assumption | omega))) (cwV 1 hts gX4_count_X4_add rfl rfl rfl k_X4_add ⟨Nat.le_of_ble_eq_true rfl, Nat.le_of_ble_eq_true rfl⟩) 0 rfl rfl rfl rfl [mp, mf, ms, mi, mm, mk, mq, mn, mu, mv] rfl rfl rfl rfl rfl hl.1 (Nat.le_of_ble_eq_true rfl) dX4_count_42 ⟨Nat.le_of_ble_eq_true rfl, Nat.le_of_ble_eq_true rfl⟩ (fun H locs hP hD hS => ?_)
                  refine lv_aload_n hx hb dX4_count_45 rfl (lv_at hl 2 rfl) ?_
                  refine lv_iload_n hx hb dX4_count_46 rfl (lv_at hl 0 rfl) ?_
                  refine lv_iconst (v := 2) hx hb dX4_count_47 (by decide) ?_
                  refine lv_ishr hx hb dX4_count_48 ?_
                  refine lv_aload_n hx hb dX4_count_49 rfl (lv_at hl 2 rfl) ?_
                  refine f_callVi ⟨hx, hb, hml, hown, hts⟩ hP hD hS hA hK hN [0, 1, 2, 3, 4, 5, 6, 7, 8, 9] (w2 := [(mp, .inr (4, [.int tw, .int (nI C), .int (nI R), .int (nI F), .int gn, .int (nI n), .int (nI b), .ref mf, .ref ms, .ref mi, .ref mm, .ref mk, .ref mq, .ref mn, .ref mu, .ref mv])), (mf, .inl (cI, 6, .inl frA)), (ms, .inl (cI, 6, .inl stA)), (mi, .inl (cI, 12, .inl fz)), (mm, .inl (cI, 144, .inl ml)), (mk, .inl (cI, 12, .inl kp)), (mq, .inl (cI, 144, .inl km)), (mn, .inl (cI, 12, .inl nx)), (mu, .inl (cI, 4, .inl (mAdd (mAdd (mAdd (mAdd (fun _ => 0) ((sp_X4_wide C R F fz ((nI r) + (-1))) &&& (mFull C))) (((sp_X4_wide C R F fz ((nI r) + (-1))) >>> ((2 : Int32) &&& 31)) &&& (mFull C))) (((sp_X4_wide C R F fz ((nI r) + (-1))) >>> ((1 : Int32) &&& 31)) &&& (mFull C))) ((sp_X4_wide C R F fz (nI (r + 0))) &&& (mFull C))))), (mv, .inl (cZ, 144, .inl sn))])
                      (c_X4_full (l := l) (D := D) (cI := cI) (cZ := cZ) (cJ := cJ) (sz := _) (mp := mp) (mf := mf) (ms := ms) (mi := mi) (mm := mm) (mk := mk) (mq := mq) (mn := mn) (mu := mu) (mv := mv) (C := C) (R := R) (F := F) (n := n) (b := b) (tw := tw) (gn := gn) (fz := fz) (ml := ml) (frA := frA) (stA := stA) (kp := kp) (km := km) (nx := nx) (sm := mAdd (mAdd (mAdd (mAdd (fun _ => 0) ((sp_X4_wide C R F fz ((nI r) + (-1))) &&& (mFull C))) (((sp_X4_wide C R F fz ((nI r) + (-1))) >>> ((2 : Int32) &&& 31)) &&& (mFull C))) (((sp_X4_wide C R F fz ((nI r) + (-1))) >>> ((1 : Int32) &&& 31)) &&& (mFull C))) ((sp_X4_wide C R F fz (nI (r + 0))) &&& (mFull C))) (sn := sn) (hC3 := (by first | assumption | omega)) (hC := (by first | assumption | omega)) (hR3 := (by first | assumption | omega)) (hR := (by first | assumption | omega)) (hF := (by first | assumption | omega)) (hn := (by first | assumption | omega)) (hb0 := (by first | assumption | omega))) (cwV 0 hts gX4_count_X4_full rfl rfl rfl k_X4_full ⟨Nat.le_of_ble_eq_true rfl, Nat.le_of_ble_eq_true rfl⟩) 0 rfl rfl rfl rfl [mp, mf, ms, mi, mm, mk, mq, mn, mu, mv] rfl rfl rfl rfl rfl hl.1 (Nat.le_of_ble_eq_true rfl) dX4_count_50 ⟨Nat.le_of_ble_eq_true rfl, Nat.le_of_ble_eq_true rfl⟩ (fun H locs hP hD hS => ?_)
                  refine lv_iand hx hb dX4_count_53 ?_
                  refine f_callVv ⟨hx, hb, hml, hown, hts⟩ hP hD hS hA hK hN [0, 1, 2, 3, 4, 5, 6, 7, 8, 9] (w2 := [(mp, .inr (4, [.int tw, .int (nI C), .int (nI R), .int (nI F), .int gn, .int (nI n), .int (nI b), .ref mf, .ref ms, .ref mi, .ref mm, .ref mk, .ref mq, .ref mn, .ref mu, .ref mv])), (mf, .inl (cI, 6, .inl frA)), (ms, .inl (cI, 6, .inl stA)), (mi, .inl (cI, 12, .inl fz)), (mm, .inl (cI, 144, .inl ml)), (mk, .inl (cI, 12, .inl kp)), (mq, .inl (cI, 144, .inl km)), (mn, .inl (cI, 12, .inl nx)), (mu, .inl (cI, 4, .inl (mAdd (mAdd (mAdd (mAdd (mAdd (fun _ => 0) ((sp_X4_wide C R F fz ((nI r) + (-1))) &&& (mFull C))) (((sp_X4_wide C R F fz ((nI r) + (-1))) >>> ((2 : Int32) &&& 31)) &&& (mFull C))) (((sp_X4_wide C R F fz ((nI r) + (-1))) >>> ((1 : Int32) &&& 31)) &&& (mFull C))) ((sp_X4_wide C R F fz (nI (r + 0))) &&& (mFull C))) (((sp_X4_wide C R F fz (nI (r + 0))) >>> ((2 : Int32) &&& 31)) &&& (mFull C))))), (mv, .inl (cZ, 144, .inl sn))])
                      (c_X4_add (l := l) (D := D) (cI := cI) (cZ := cZ) (cJ := cJ) (sz := _) (mp := mp) (mf := mf) (ms := ms) (mi := mi) (mm := mm) (mk := mk) (mq := mq) (mn := mn) (mu := mu) (mv := mv) (C := C) (R := R) (F := F) (n := n) (b := b) (tw := tw) (gn := gn) (fz := fz) (ml := ml) (frA := frA) (stA := stA) (kp := kp) (km := km) (nx := nx) (sm := mAdd (mAdd (mAdd (mAdd (fun _ => 0) ((sp_X4_wide C R F fz ((nI r) + (-1))) &&& (mFull C))) (((sp_X4_wide C R F fz ((nI r) + (-1))) >>> ((2 : Int32) &&& 31)) &&& (mFull C))) (((sp_X4_wide C R F fz ((nI r) + (-1))) >>> ((1 : Int32) &&& 31)) &&& (mFull C))) ((sp_X4_wide C R F fz (nI (r + 0))) &&& (mFull C))) (sn := sn) (x := ((sp_X4_wide C R F fz (nI (r + 0))) >>> ((2 : Int32) &&& 31)) &&& (mFull C)) (hC3 := (by first | assumption | omega)) (hC := (by first | assumption | omega)) (hR3 := (by first | assumption | omega)) (hR := (by first | assumption | omega)) (hF := (by first | assumption | omega)) (hn := (by first | assumption | omega)) (hb0 := (by first | assumption | omega))) (cwV 1 hts gX4_count_X4_add rfl rfl rfl k_X4_add ⟨Nat.le_of_ble_eq_true rfl, Nat.le_of_ble_eq_true rfl⟩) 0 rfl rfl rfl rfl [mp, mf, ms, mi, mm, mk, mq, mn, mu, mv] rfl rfl rfl rfl rfl hl.1 (Nat.le_of_ble_eq_true rfl) dX4_count_54 ⟨Nat.le_of_ble_eq_true rfl, Nat.le_of_ble_eq_true rfl⟩ (fun H locs hP hD hS => ?_)
                  refine lv_iload_n hx hb dX4_count_57 rfl (lv_at hl 1 rfl) ?_
                  refine lv_if_eq (tgt := 73) hx hb dX4_count_58 (by decide) (fun c_9 => ?_) (fun c_9 => ?_)
                  · refine lv_iinc (v := 1) (lv' := [(2, .int 1), (3, .int (sp_X4_wide C R F fz (nI (r + 0)))), (0, .ref mp), (1, .int (nI r))]) hx hb dX4_count_73 hl (k := 1) rfl (by decide) (by decide) rfl (fun ls hl => ?_)
                    refine lv_goto (tgt := 22) hx hb dX4_count_76 (by decide) ?_
                    refine lv_iload_n hx hb dX4_count_22 rfl (lv_at hl 0 rfl) ?_
                    refine lv_iconst (v := 2) hx hb dX4_count_23 (by decide) ?_
                    refine lv_icmp_ge (tgt := 79) hx hb dX4_count_24 (by decide) (fun c_10 => ?_) (fun c_10 => ?_)
                    · exact absurd c_10 (by decide)
                    · refine lv_aload_n hx hb dX4_count_27 rfl (lv_at hl 2 rfl) ?_
                      refine lv_iload_n hx hb dX4_count_28 rfl (lv_at hl 3 rfl) ?_
                      refine lv_iload_n hx hb dX4_count_29 rfl (lv_at hl 0 rfl) ?_
                      refine lv_iadd hx hb dX4_count_30 ?_
                      refine f_topi (y := nI (r + 1)) (nI_add r 1) ?_
                      refine f_callVi ⟨hx, hb, hml, hown, hts⟩ hP hD hS hA hK hN [0, 1, 2, 3, 4, 5, 6, 7, 8, 9] (w2 := [(mp, .inr (4, [.int tw, .int (nI C), .int (nI R), .int (nI F), .int gn, .int (nI n), .int (nI b), .ref mf, .ref ms, .ref mi, .ref mm, .ref mk, .ref mq, .ref mn, .ref mu, .ref mv])), (mf, .inl (cI, 6, .inl frA)), (ms, .inl (cI, 6, .inl stA)), (mi, .inl (cI, 12, .inl fz)), (mm, .inl (cI, 144, .inl ml)), (mk, .inl (cI, 12, .inl kp)), (mq, .inl (cI, 144, .inl km)), (mn, .inl (cI, 12, .inl nx)), (mu, .inl (cI, 4, .inl (mAdd (mAdd (mAdd (mAdd (mAdd (fun _ => 0) ((sp_X4_wide C R F fz ((nI r) + (-1))) &&& (mFull C))) (((sp_X4_wide C R F fz ((nI r) + (-1))) >>> ((2 : Int32) &&& 31)) &&& (mFull C))) (((sp_X4_wide C R F fz ((nI r) + (-1))) >>> ((1 : Int32) &&& 31)) &&& (mFull C))) ((sp_X4_wide C R F fz (nI (r + 0))) &&& (mFull C))) (((sp_X4_wide C R F fz (nI (r + 0))) >>> ((2 : Int32) &&& 31)) &&& (mFull C))))), (mv, .inl (cZ, 144, .inl sn))])
                          (c_X4_wide (l := l) (D := D) (cI := cI) (cZ := cZ) (cJ := cJ) (sz := _) (mp := mp) (mf := mf) (ms := ms) (mi := mi) (mm := mm) (mk := mk) (mq := mq) (mn := mn) (mu := mu) (mv := mv) (C := C) (R := R) (F := F) (n := n) (b := b) (tw := tw) (gn := gn) (fz := fz) (ml := ml) (frA := frA) (stA := stA) (kp := kp) (km := km) (nx := nx) (sm := mAdd (mAdd (mAdd (mAdd (mAdd (fun _ => 0) ((sp_X4_wide C R F fz ((nI r) + (-1))) &&& (mFull C))) (((sp_X4_wide C R F fz ((nI r) + (-1))) >>> ((2 : Int32) &&& 31)) &&& (mFull C))) (((sp_X4_wide C R F fz ((nI r) + (-1))) >>> ((1 : Int32) &&& 31)) &&& (mFull C))) ((sp_X4_wide C R F fz (nI (r + 0))) &&& (mFull C))) (((sp_X4_wide C R F fz (nI (r + 0))) >>> ((2 : Int32) &&& 31)) &&& (mFull C))) (sn := sn) (row := nI (r + 1)) (hC3 := (by first | assumption | omega)) (hC := (by first | assumption | omega)) (hR3 := (by first | assumption | omega)) (hR := (by first | assumption | omega)) (hF := (by first | assumption | omega)) (hn := (by first | assumption | omega)) (hb0 := (by first | assumption | omega)) (hrow := (by first | exact Or.inr ⟨_, by omega, rfl⟩ | exact row_m1 hr0))) (cwV 1 hts gX4_count_X4_wide rfl rfl rfl k_X4_wide ⟨Nat.le_of_ble_eq_true rfl, Nat.le_of_ble_eq_true rfl⟩) 0 rfl rfl rfl rfl [mp, mf, ms, mi, mm, mk, mq, mn, mu, mv] rfl rfl rfl rfl rfl hl.1 (Nat.le_of_ble_eq_true rfl) dX4_count_31 ⟨Nat.le_of_ble_eq_true rfl, Nat.le_of_ble_eq_true rfl⟩ (fun H locs hP hD hS => ?_)
                      refine lv_istore_n (lv' := [(3, .int (sp_X4_wide C R F fz (nI (r + 1)))), (2, .int 1), (0, .ref mp), (1, .int (nI r))]) hx hb dX4_count_34 rfl hl (by decide) rfl (fun ls hl => ?_)
                      refine lv_aload_n hx hb dX4_count_35 rfl (lv_at hl 2 rfl) ?_
                      refine lv_iload_n hx hb dX4_count_36 rfl (lv_at hl 0 rfl) ?_
                      refine lv_aload_n hx hb dX4_count_37 rfl (lv_at hl 2 rfl) ?_
                      refine f_callVi ⟨hx, hb, hml, hown, hts⟩ hP hD hS hA hK hN [0, 1, 2, 3, 4, 5, 6, 7, 8, 9] (w2 := [(mp, .inr (4, [.int tw, .int (nI C), .int (nI R), .int (nI F), .int gn, .int (nI n), .int (nI b), .ref mf, .ref ms, .ref mi, .ref mm, .ref mk, .ref mq, .ref mn, .ref mu, .ref mv])), (mf, .inl (cI, 6, .inl frA)), (ms, .inl (cI, 6, .inl stA)), (mi, .inl (cI, 12, .inl fz)), (mm, .inl (cI, 144, .inl ml)), (mk, .inl (cI, 12, .inl kp)), (mq, .inl (cI, 144, .inl km)), (mn, .inl (cI, 12, .inl nx)), (mu, .inl (cI, 4, .inl (mAdd (mAdd (mAdd (mAdd (mAdd (fun _ => 0) ((sp_X4_wide C R F fz ((nI r) + (-1))) &&& (mFull C))) (((sp_X4_wide C R F fz ((nI r) + (-1))) >>> ((2 : Int32) &&& 31)) &&& (mFull C))) (((sp_X4_wide C R F fz ((nI r) + (-1))) >>> ((1 : Int32) &&& 31)) &&& (mFull C))) ((sp_X4_wide C R F fz (nI (r + 0))) &&& (mFull C))) (((sp_X4_wide C R F fz (nI (r + 0))) >>> ((2 : Int32) &&& 31)) &&& (mFull C))))), (mv, .inl (cZ, 144, .inl sn))])
                          (c_X4_full (l := l) (D := D) (cI := cI) (cZ := cZ) (cJ := cJ) (sz := _) (mp := mp) (mf := mf) (ms := ms) (mi := mi) (mm := mm) (mk := mk) (mq := mq) (mn := mn) (mu := mu) (mv := mv) (C := C) (R := R) (F := F) (n := n) (b := b) (tw := tw) (gn := gn) (fz := fz) (ml := ml) (frA := frA) (stA := stA) (kp := kp) (km := km) (nx := nx) (sm := mAdd (mAdd (mAdd (mAdd (mAdd (fun _ => 0) ((sp_X4_wide C R F fz ((nI r) + (-1))) &&& (mFull C))) (((sp_X4_wide C R F fz ((nI r) + (-1))) >>> ((2 : Int32) &&& 31)) &&& (mFull C))) (((sp_X4_wide C R F fz ((nI r) + (-1))) >>> ((1 : Int32) &&& 31)) &&& (mFull C))) ((sp_X4_wide C R F fz (nI (r + 0))) &&& (mFull C))) (((sp_X4_wide C R F fz (nI (r + 0))) >>> ((2 : Int32) &&& 31)) &&& (mFull C))) (sn := sn) (hC3 := (by first | assumption | omega)) (hC := (by first | assumption | omega)) (hR3 := (by first | assumption | omega)) (hR := (by first | assumption | omega)) (hF := (by first | assumption | omega)) (hn := (by first | assumption | omega)) (hb0 := (by first | assumption | omega))) (cwV 0 hts gX4_count_X4_full rfl rfl rfl k_X4_full ⟨Nat.le_of_ble_eq_true rfl, Nat.le_of_ble_eq_true rfl⟩) 0 rfl rfl rfl rfl [mp, mf, ms, mi, mm, mk, mq, mn, mu, mv] rfl rfl rfl rfl rfl hl.1 (Nat.le_of_ble_eq_true rfl) dX4_count_38 ⟨Nat.le_of_ble_eq_true rfl, Nat.le_of_ble_eq_true rfl⟩ (fun H locs hP hD hS => ?_)
                      refine lv_iand hx hb dX4_count_41 ?_
                      refine f_callVv ⟨hx, hb, hml, hown, hts⟩ hP hD hS hA hK hN [0, 1, 2, 3, 4, 5, 6, 7, 8, 9] (w2 := [(mp, .inr (4, [.int tw, .int (nI C), .int (nI R), .int (nI F), .int gn, .int (nI n), .int (nI b), .ref mf, .ref ms, .ref mi, .ref mm, .ref mk, .ref mq, .ref mn, .ref mu, .ref mv])), (mf, .inl (cI, 6, .inl frA)), (ms, .inl (cI, 6, .inl stA)), (mi, .inl (cI, 12, .inl fz)), (mm, .inl (cI, 144, .inl ml)), (mk, .inl (cI, 12, .inl kp)), (mq, .inl (cI, 144, .inl km)), (mn, .inl (cI, 12, .inl nx)), (mu, .inl (cI, 4, .inl (mAdd (mAdd (mAdd (mAdd (mAdd (mAdd (fun _ => 0) ((sp_X4_wide C R F fz ((nI r) + (-1))) &&& (mFull C))) (((sp_X4_wide C R F fz ((nI r) + (-1))) >>> ((2 : Int32) &&& 31)) &&& (mFull C))) (((sp_X4_wide C R F fz ((nI r) + (-1))) >>> ((1 : Int32) &&& 31)) &&& (mFull C))) ((sp_X4_wide C R F fz (nI (r + 0))) &&& (mFull C))) (((sp_X4_wide C R F fz (nI (r + 0))) >>> ((2 : Int32) &&& 31)) &&& (mFull C))) ((sp_X4_wide C R F fz (nI (r + 1))) &&& (mFull C))))), (mv, .inl (cZ, 144, .inl sn))])
                          (c_X4_add (l := l) (D := D) (cI := cI) (cZ := cZ) (cJ := cJ) (sz := _) (mp := mp) (mf := mf) (ms := ms) (mi := mi) (mm := mm) (mk := mk) (mq := mq) (mn := mn) (mu := mu) (mv := mv) (C := C) (R := R) (F := F) (n := n) (b := b) (tw := tw) (gn := gn) (fz := fz) (ml := ml) (frA := frA) (stA := stA) (kp := kp) (km := km) (nx := nx) (sm := mAdd (mAdd (mAdd (mAdd (mAdd (fun _ => 0) ((sp_X4_wide C R F fz ((nI r) + (-1))) &&& (mFull C))) (((sp_X4_wide C R F fz ((nI r) + (-1))) >>> ((2 : Int32) &&& 31)) &&& (mFull C))) (((sp_X4_wide C R F fz ((nI r) + (-1))) >>> ((1 : Int32) &&& 31)) &&& (mFull C))) ((sp_X4_wide C R F fz (nI (r + 0))) &&& (mFull C))) (((sp_X4_wide C R F fz (nI (r + 0))) >>> ((2 : Int32) &&& 31)) &&& (mFull C))) (sn := sn) (x := (sp_X4_wide C R F fz (nI (r + 1))) &&& (mFull C)) (hC3 := (by first | assumption | omega)) (hC := (by first | assumption | omega)) (hR3 := (by first | assumption | omega)) (hR := (by first | assumption | omega)) (hF := (by first | assumption | omega)) (hn := (by first | assumption | omega)) (hb0 := (by first | assumption | omega))) (cwV 1 hts gX4_count_X4_add rfl rfl rfl k_X4_add ⟨Nat.le_of_ble_eq_true rfl, Nat.le_of_ble_eq_true rfl⟩) 0 rfl rfl rfl rfl [mp, mf, ms, mi, mm, mk, mq, mn, mu, mv] rfl rfl rfl rfl rfl hl.1 (Nat.le_of_ble_eq_true rfl) dX4_count_42 ⟨Nat.le_of_ble_eq_true rfl, Nat.le_of_ble_eq_true rfl⟩ (fun H locs hP hD hS => ?_)
                      refine lv_aload_n hx hb dX4_count_45 rfl (lv_at hl 2 rfl) ?_
                      refine lv_iload_n hx hb dX4_count_46 rfl (lv_at hl 0 rfl) ?_
                      refine lv_iconst (v := 2) hx hb dX4_count_47 (by decide) ?_
                      refine lv_ishr hx hb dX4_count_48 ?_
                      refine lv_aload_n hx hb dX4_count_49 rfl (lv_at hl 2 rfl) ?_
                      refine f_callVi ⟨hx, hb, hml, hown, hts⟩ hP hD hS hA hK hN [0, 1, 2, 3, 4, 5, 6, 7, 8, 9] (w2 := [(mp, .inr (4, [.int tw, .int (nI C), .int (nI R), .int (nI F), .int gn, .int (nI n), .int (nI b), .ref mf, .ref ms, .ref mi, .ref mm, .ref mk, .ref mq, .ref mn, .ref mu, .ref mv])), (mf, .inl (cI, 6, .inl frA)), (ms, .inl (cI, 6, .inl stA)), (mi, .inl (cI, 12, .inl fz)), (mm, .inl (cI, 144, .inl ml)), (mk, .inl (cI, 12, .inl kp)), (mq, .inl (cI, 144, .inl km)), (mn, .inl (cI, 12, .inl nx)), (mu, .inl (cI, 4, .inl (mAdd (mAdd (mAdd (mAdd (mAdd (mAdd (fun _ => 0) ((sp_X4_wide C R F fz ((nI r) + (-1))) &&& (mFull C))) (((sp_X4_wide C R F fz ((nI r) + (-1))) >>> ((2 : Int32) &&& 31)) &&& (mFull C))) (((sp_X4_wide C R F fz ((nI r) + (-1))) >>> ((1 : Int32) &&& 31)) &&& (mFull C))) ((sp_X4_wide C R F fz (nI (r + 0))) &&& (mFull C))) (((sp_X4_wide C R F fz (nI (r + 0))) >>> ((2 : Int32) &&& 31)) &&& (mFull C))) ((sp_X4_wide C R F fz (nI (r + 1))) &&& (mFull C))))), (mv, .inl (cZ, 144, .inl sn))])
                          (c_X4_full (l := l) (D := D) (cI := cI) (cZ := cZ) (cJ := cJ) (sz := _) (mp := mp) (mf := mf) (ms := ms) (mi := mi) (mm := mm) (mk := mk) (mq := mq) (mn := mn) (mu := mu) (mv := mv) (C := C) (R := R) (F := F) (n := n) (b := b) (tw := tw) (gn := gn) (fz := fz) (ml := ml) (frA := frA) (stA := stA) (kp := kp) (km := km) (nx := nx) (sm := mAdd (mAdd (mAdd (mAdd (mAdd (mAdd (fun _ => 0) ((sp_X4_wide C R F fz ((nI r) + (-1))) &&& (mFull C))) (((sp_X4_wide C R F fz ((nI r) + (-1))) >>> ((2 : Int32) &&& 31)) &&& (mFull C))) (((sp_X4_wide C R F fz ((nI r) + (-1))) >>> ((1 : Int32) &&& 31)) &&& (mFull C))) ((sp_X4_wide C R F fz (nI (r + 0))) &&& (mFull C))) (((sp_X4_wide C R F fz (nI (r + 0))) >>> ((2 : Int32) &&& 31)) &&& (mFull C))) ((sp_X4_wide C R F fz (nI (r + 1))) &&& (mFull C))) (sn := sn) (hC3 := (by first | assumption | omega)) (hC := (by first | assumption | omega)) (hR3 := (by first | assumption | omega)) (hR := (by first | assumption | omega)) (hF := (by first | assumption | omega)) (hn := (by first | assumption | omega)) (hb0 := (by first | assumption | omega))) (cwV 0 hts gX4_count_X4_full rfl rfl rfl k_X4_full ⟨Nat.le_of_ble_eq_true rfl, Nat.le_of_ble_eq_true rfl⟩) 0 rfl rfl rfl rfl [mp, mf, ms, mi, mm, mk, mq, mn, mu, mv] rfl rfl rfl rfl rfl hl.1 (Nat.le_of_ble_eq_true rfl) dX4_count_50 ⟨Nat.le_of_ble_eq_true rfl, Nat.le_of_ble_eq_true rfl⟩ (fun H locs hP hD hS => ?_)
                      refine lv_iand hx hb dX4_count_53 ?_
                      refine f_callVv ⟨hx, hb, hml, hown, hts⟩ hP hD hS hA hK hN [0, 1, 2, 3, 4, 5, 6, 7, 8, 9] (w2 := [(mp, .inr (4, [.int tw, .int (nI C), .int (nI R), .int (nI F), .int gn, .int (nI n), .int (nI b), .ref mf, .ref ms, .ref mi, .ref mm, .ref mk, .ref mq, .ref mn, .ref mu, .ref mv])), (mf, .inl (cI, 6, .inl frA)), (ms, .inl (cI, 6, .inl stA)), (mi, .inl (cI, 12, .inl fz)), (mm, .inl (cI, 144, .inl ml)), (mk, .inl (cI, 12, .inl kp)), (mq, .inl (cI, 144, .inl km)), (mn, .inl (cI, 12, .inl nx)), (mu, .inl (cI, 4, .inl (mAdd (mAdd (mAdd (mAdd (mAdd (mAdd (mAdd (fun _ => 0) ((sp_X4_wide C R F fz ((nI r) + (-1))) &&& (mFull C))) (((sp_X4_wide C R F fz ((nI r) + (-1))) >>> ((2 : Int32) &&& 31)) &&& (mFull C))) (((sp_X4_wide C R F fz ((nI r) + (-1))) >>> ((1 : Int32) &&& 31)) &&& (mFull C))) ((sp_X4_wide C R F fz (nI (r + 0))) &&& (mFull C))) (((sp_X4_wide C R F fz (nI (r + 0))) >>> ((2 : Int32) &&& 31)) &&& (mFull C))) ((sp_X4_wide C R F fz (nI (r + 1))) &&& (mFull C))) (((sp_X4_wide C R F fz (nI (r + 1))) >>> ((2 : Int32) &&& 31)) &&& (mFull C))))), (mv, .inl (cZ, 144, .inl sn))])
                          (c_X4_add (l := l) (D := D) (cI := cI) (cZ := cZ) (cJ := cJ) (sz := _) (mp := mp) (mf := mf) (ms := ms) (mi := mi) (mm := mm) (mk := mk) (mq := mq) (mn := mn) (mu := mu) (mv := mv) (C := C) (R := R) (F := F) (n := n) (b := b) (tw := tw) (gn := gn) (fz := fz) (ml := ml) (frA := frA) (stA := stA) (kp := kp) (km := km) (nx := nx) (sm := mAdd (mAdd (mAdd (mAdd (mAdd (mAdd (fun _ => 0) ((sp_X4_wide C R F fz ((nI r) + (-1))) &&& (mFull C))) (((sp_X4_wide C R F fz ((nI r) + (-1))) >>> ((2 : Int32) &&& 31)) &&& (mFull C))) (((sp_X4_wide C R F fz ((nI r) + (-1))) >>> ((1 : Int32) &&& 31)) &&& (mFull C))) ((sp_X4_wide C R F fz (nI (r + 0))) &&& (mFull C))) (((sp_X4_wide C R F fz (nI (r + 0))) >>> ((2 : Int32) &&& 31)) &&& (mFull C))) ((sp_X4_wide C R F fz (nI (r + 1))) &&& (mFull C))) (sn := sn) (x := ((sp_X4_wide C R F fz (nI (r + 1))) >>> ((2 : Int32) &&& 31)) &&& (mFull C)) (hC3 := (by first | assumption | omega)) (hC := (by first | assumption | omega)) (hR3 := (by first | assumption | omega)) (hR := (by first | assumption | omega)) (hF := (by first | assumption | omega)) (hn := (by first | assumption | omega)) (hb0 := (by first | assumption | omega))) (cwV 1 hts gX4_count_X4_add rfl rfl rfl k_X4_add ⟨Nat.le_of_ble_eq_true rfl, Nat.le_of_ble_eq_true rfl⟩) 0 rfl rfl rfl rfl [mp, mf, ms, mi, mm, mk, mq, mn, mu, mv] rfl rfl rfl rfl rfl hl.1 (Nat.le_of_ble_eq_true rfl) dX4_count_54 ⟨Nat.le_of_ble_eq_true rfl, Nat.le_of_ble_eq_true rfl⟩ (fun H locs hP hD hS => ?_)
                      refine lv_iload_n hx hb dX4_count_57 rfl (lv_at hl 1 rfl) ?_
                      refine lv_if_eq (tgt := 73) hx hb dX4_count_58 (by decide) (fun c_11 => ?_) (fun c_11 => ?_)
                      · exact absurd c_11 (by decide)
                      · refine lv_aload_n hx hb dX4_count_61 rfl (lv_at hl 2 rfl) ?_
                        refine lv_iload_n hx hb dX4_count_62 rfl (lv_at hl 0 rfl) ?_
                        refine lv_iconst (v := 1) hx hb dX4_count_63 (by decide) ?_
                        refine lv_ishr hx hb dX4_count_64 ?_
                        refine lv_aload_n hx hb dX4_count_65 rfl (lv_at hl 2 rfl) ?_
                        refine f_callVi ⟨hx, hb, hml, hown, hts⟩ hP hD hS hA hK hN [0, 1, 2, 3, 4, 5, 6, 7, 8, 9] (w2 := [(mp, .inr (4, [.int tw, .int (nI C), .int (nI R), .int (nI F), .int gn, .int (nI n), .int (nI b), .ref mf, .ref ms, .ref mi, .ref mm, .ref mk, .ref mq, .ref mn, .ref mu, .ref mv])), (mf, .inl (cI, 6, .inl frA)), (ms, .inl (cI, 6, .inl stA)), (mi, .inl (cI, 12, .inl fz)), (mm, .inl (cI, 144, .inl ml)), (mk, .inl (cI, 12, .inl kp)), (mq, .inl (cI, 144, .inl km)), (mn, .inl (cI, 12, .inl nx)), (mu, .inl (cI, 4, .inl (mAdd (mAdd (mAdd (mAdd (mAdd (mAdd (mAdd (fun _ => 0) ((sp_X4_wide C R F fz ((nI r) + (-1))) &&& (mFull C))) (((sp_X4_wide C R F fz ((nI r) + (-1))) >>> ((2 : Int32) &&& 31)) &&& (mFull C))) (((sp_X4_wide C R F fz ((nI r) + (-1))) >>> ((1 : Int32) &&& 31)) &&& (mFull C))) ((sp_X4_wide C R F fz (nI (r + 0))) &&& (mFull C))) (((sp_X4_wide C R F fz (nI (r + 0))) >>> ((2 : Int32) &&& 31)) &&& (mFull C))) ((sp_X4_wide C R F fz (nI (r + 1))) &&& (mFull C))) (((sp_X4_wide C R F fz (nI (r + 1))) >>> ((2 : Int32) &&& 31)) &&& (mFull C))))), (mv, .inl (cZ, 144, .inl sn))])
                            (c_X4_full (l := l) (D := D) (cI := cI) (cZ := cZ) (cJ := cJ) (sz := _) (mp := mp) (mf := mf) (ms := ms) (mi := mi) (mm := mm) (mk := mk) (mq := mq) (mn := mn) (mu := mu) (mv := mv) (C := C) (R := R) (F := F) (n := n) (b := b) (tw := tw) (gn := gn) (fz := fz) (ml := ml) (frA := frA) (stA := stA) (kp := kp) (km := km) (nx := nx) (sm := mAdd (mAdd (mAdd (mAdd (mAdd (mAdd (mAdd (fun _ => 0) ((sp_X4_wide C R F fz ((nI r) + (-1))) &&& (mFull C))) (((sp_X4_wide C R F fz ((nI r) + (-1))) >>> ((2 : Int32) &&& 31)) &&& (mFull C))) (((sp_X4_wide C R F fz ((nI r) + (-1))) >>> ((1 : Int32) &&& 31)) &&& (mFull C))) ((sp_X4_wide C R F fz (nI (r + 0))) &&& (mFull C))) (((sp_X4_wide C R F fz (nI (r + 0))) >>> ((2 : Int32) &&& 31)) &&& (mFull C))) ((sp_X4_wide C R F fz (nI (r + 1))) &&& (mFull C))) (((sp_X4_wide C R F fz (nI (r + 1))) >>> ((2 : Int32) &&& 31)) &&& (mFull C))) (sn := sn) (hC3 := (by first | assumption | omega)) (hC := (by first | assumption | omega)) (hR3 := (by first | assumption | omega)) (hR := (by first | assumption | omega)) (hF := (by first | assumption | omega)) (hn := (by first | assumption | omega)) (hb0 := (by first | assumption | omega))) (cwV 0 hts gX4_count_X4_full rfl rfl rfl k_X4_full ⟨Nat.le_of_ble_eq_true rfl, Nat.le_of_ble_eq_true rfl⟩) 0 rfl rfl rfl rfl [mp, mf, ms, mi, mm, mk, mq, mn, mu, mv] rfl rfl rfl rfl rfl hl.1 (Nat.le_of_ble_eq_true rfl) dX4_count_66 ⟨Nat.le_of_ble_eq_true rfl, Nat.le_of_ble_eq_true rfl⟩ (fun H locs hP hD hS => ?_)
                        refine lv_iand hx hb dX4_count_69 ?_
                        refine f_callVv ⟨hx, hb, hml, hown, hts⟩ hP hD hS hA hK hN [0, 1, 2, 3, 4, 5, 6, 7, 8, 9] (w2 := [(mp, .inr (4, [.int tw, .int (nI C), .int (nI R), .int (nI F), .int gn, .int (nI n), .int (nI b), .ref mf, .ref ms, .ref mi, .ref mm, .ref mk, .ref mq, .ref mn, .ref mu, .ref mv])), (mf, .inl (cI, 6, .inl frA)), (ms, .inl (cI, 6, .inl stA)), (mi, .inl (cI, 12, .inl fz)), (mm, .inl (cI, 144, .inl ml)), (mk, .inl (cI, 12, .inl kp)), (mq, .inl (cI, 144, .inl km)), (mn, .inl (cI, 12, .inl nx)), (mu, .inl (cI, 4, .inl (mAdd (mAdd (mAdd (mAdd (mAdd (mAdd (mAdd (mAdd (fun _ => 0) ((sp_X4_wide C R F fz ((nI r) + (-1))) &&& (mFull C))) (((sp_X4_wide C R F fz ((nI r) + (-1))) >>> ((2 : Int32) &&& 31)) &&& (mFull C))) (((sp_X4_wide C R F fz ((nI r) + (-1))) >>> ((1 : Int32) &&& 31)) &&& (mFull C))) ((sp_X4_wide C R F fz (nI (r + 0))) &&& (mFull C))) (((sp_X4_wide C R F fz (nI (r + 0))) >>> ((2 : Int32) &&& 31)) &&& (mFull C))) ((sp_X4_wide C R F fz (nI (r + 1))) &&& (mFull C))) (((sp_X4_wide C R F fz (nI (r + 1))) >>> ((2 : Int32) &&& 31)) &&& (mFull C))) (((sp_X4_wide C R F fz (nI (r + 1))) >>> ((1 : Int32) &&& 31)) &&& (mFull C))))), (mv, .inl (cZ, 144, .inl sn))])
                            (c_X4_add (l := l) (D := D) (cI := cI) (cZ := cZ) (cJ := cJ) (sz := _) (mp := mp) (mf := mf) (ms := ms) (mi := mi) (mm := mm) (mk := mk) (mq := mq) (mn := mn) (mu := mu) (mv := mv) (C := C) (R := R) (F := F) (n := n) (b := b) (tw := tw) (gn := gn) (fz := fz) (ml := ml) (frA := frA) (stA := stA) (kp := kp) (km := km) (nx := nx) (sm := mAdd (mAdd (mAdd (mAdd (mAdd (mAdd (mAdd (fun _ => 0) ((sp_X4_wide C R F fz ((nI r) + (-1))) &&& (mFull C))) (((sp_X4_wide C R F fz ((nI r) + (-1))) >>> ((2 : Int32) &&& 31)) &&& (mFull C))) (((sp_X4_wide C R F fz ((nI r) + (-1))) >>> ((1 : Int32) &&& 31)) &&& (mFull C))) ((sp_X4_wide C R F fz (nI (r + 0))) &&& (mFull C))) (((sp_X4_wide C R F fz (nI (r + 0))) >>> ((2 : Int32) &&& 31)) &&& (mFull C))) ((sp_X4_wide C R F fz (nI (r + 1))) &&& (mFull C))) (((sp_X4_wide C R F fz (nI (r + 1))) >>> ((2 : Int32) &&& 31)) &&& (mFull C))) (sn := sn) (x := ((sp_X4_wide C R F fz (nI (r + 1))) >>> ((1 : Int32) &&& 31)) &&& (mFull C)) (hC3 := (by first | assumption | omega)) (hC := (by first | assumption | omega)) (hR3 := (by first | assumption | omega)) (hR := (by first | assumption | omega)) (hF := (by first | assumption | omega)) (hn := (by first | assumption | omega)) (hb0 := (by first | assumption | omega))) (cwV 1 hts gX4_count_X4_add rfl rfl rfl k_X4_add ⟨Nat.le_of_ble_eq_true rfl, Nat.le_of_ble_eq_true rfl⟩) 0 rfl rfl rfl rfl [mp, mf, ms, mi, mm, mk, mq, mn, mu, mv] rfl rfl rfl rfl rfl hl.1 (Nat.le_of_ble_eq_true rfl) dX4_count_70 ⟨Nat.le_of_ble_eq_true rfl, Nat.le_of_ble_eq_true rfl⟩ (fun H locs hP hD hS => ?_)
                        refine lv_iinc (v := 2) (lv' := [(2, .int 2), (3, .int (sp_X4_wide C R F fz (nI (r + 1)))), (0, .ref mp), (1, .int (nI r))]) hx hb dX4_count_73 hl (k := 1) rfl (by decide) (by decide) rfl (fun ls hl => ?_)
                        refine lv_goto (tgt := 22) hx hb dX4_count_76 (by decide) ?_
                        refine lv_iload_n hx hb dX4_count_22 rfl (lv_at hl 0 rfl) ?_
                        refine lv_iconst (v := 2) hx hb dX4_count_23 (by decide) ?_
                        refine lv_icmp_ge (tgt := 79) hx hb dX4_count_24 (by decide) (fun c_12 => ?_) (fun c_12 => ?_)
                        · obtain ⟨hP, hD⟩ := f_rep (g := mRow C R F fz r) hP hD 8 rfl (fun j _ => rfl)
                          have hP : va_P D vwCl [(mp, .inr (4, [.int tw, .int (nI C), .int (nI R), .int (nI F), .int gn, .int (nI n), .int (nI b), .ref mf, .ref ms, .ref mi, .ref mm, .ref mk, .ref mq, .ref mn, .ref mu, .ref mv])), (mf, .inl (cI, 6, .inl frA)), (ms, .inl (cI, 6, .inl stA)), (mi, .inl (cI, 12, .inl fz)), (mm, .inl (cI, 144, .inl ml)), (mk, .inl (cI, 12, .inl kp)), (mq, .inl (cI, 144, .inl km)), (mn, .inl (cI, 12, .inl nx)), (mu, .inl (cI, 4, .inl (mRow C R F fz r))), (mv, .inl (cZ, 144, .inl sn))] _ := hP
                          have hD : va_D A [(mp, .inr (4, [.int tw, .int (nI C), .int (nI R), .int (nI F), .int gn, .int (nI n), .int (nI b), .ref mf, .ref ms, .ref mi, .ref mm, .ref mk, .ref mq, .ref mn, .ref mu, .ref mv])), (mf, .inl (cI, 6, .inl frA)), (ms, .inl (cI, 6, .inl stA)), (mi, .inl (cI, 12, .inl fz)), (mm, .inl (cI, 144, .inl ml)), (mk, .inl (cI, 12, .inl kp)), (mq, .inl (cI, 144, .inl km)), (mn, .inl (cI, 12, .inl nx)), (mu, .inl (cI, 4, .inl (mRow C R F fz r))), (mv, .inl (cZ, 144, .inl sn))] := hD
                          exact f_ret_v hx hb hr hlocks hP hD hS dX4_count_79
                        · exact absurd c_12 (by decide)
                  · exact absurd c_9 (by decide)
          · exact absurd c_5 (by decide)

theorem k_X4_counted : yX4_counted.cls = RX4 ∧ yX4_counted.cls ≠ "java/lang/invoke/MethodHandle" ∧ yX4_counted.cls ≠ "java/lang/invoke/VarHandle" ∧ (parseMethodDescriptor yX4_counted.desc).map (fun d => d.parameters.length) = some 1 := by decide +kernel
theorem wb_X4_counted_4 : ∀ w ∈ wsX40, w ∈ wsX4_counted := (fun _ h => List.mem_cons_of_mem _ (List.mem_append_right _ h))
theorem wi_X4_counted_1 : (Cond.fieldLink RX4 44 "FrostPaneModel" "sum" "[I") ∈ wsX4_counted := List.mem_of_getElem? (i := 1) rfl
set_option maxHeartbeats 4000000 in
set_option maxRecDepth 100000 in
theorem c_X4_counted (l : Launch) (D : va_G) (cI cZ cJ : ClassId) (sz : Nat) (mp mf ms mi mm mk mq mn mu mv C R F n b : Nat) (tw gn : Int32) (fz ml frA stA kp km nx sm sn : Nat → Int32) (c : Nat) (hC3 : 3 ≤ C) (hC : C ≤ 12) (hR3 : 3 ≤ R) (hR : R ≤ 12) (hF : F ≤ 2) (hn : n ≤ 6) (hb0 : b < n) : f_Mi l yX4_counted wsX4_counted ({ frames := 0, cells := 0, slots := 0, locals := 0 }) D (fTY cI cZ cJ) [.ref mp, .int (nI c)] sz [(mp, .inr (4, [.int tw, .int (nI C), .int (nI R), .int (nI F), .int gn, .int (nI n), .int (nI b), .ref mf, .ref ms, .ref mi, .ref mm, .ref mk, .ref mq, .ref mn, .ref mu, .ref mv])), (mf, .inl (cI, 6, .inl frA)), (ms, .inl (cI, 6, .inl stA)), (mi, .inl (cI, 12, .inl fz)), (mm, .inl (cI, 144, .inl ml)), (mk, .inl (cI, 12, .inl kp)), (mq, .inl (cI, 144, .inl km)), (mn, .inl (cI, 12, .inl nx)), (mu, .inl (cI, 4, .inl sm)), (mv, .inl (cZ, 144, .inl sn))] (mCtd sm c) [(mp, .inr (4, [.int tw, .int (nI C), .int (nI R), .int (nI F), .int gn, .int (nI n), .int (nI b), .ref mf, .ref ms, .ref mi, .ref mm, .ref mk, .ref mq, .ref mn, .ref mu, .ref mv])), (mf, .inl (cI, 6, .inl frA)), (ms, .inl (cI, 6, .inl stA)), (mi, .inl (cI, 12, .inl fz)), (mm, .inl (cI, 144, .inl ml)), (mk, .inl (cI, 12, .inl kp)), (mq, .inl (cI, 144, .inl km)), (mn, .inl (cI, 12, .inl nx)), (mu, .inl (cI, 4, .inl sm)), (mv, .inl (cZ, 144, .inl sn))] := by
  refine f_ent_i (by decide) rfl (Nat.le_of_ble_eq_true rfl) ?_
  intro pg ev s m below meth cd hx hb hr hts hown hlocks hml hnm hsz hP hK hN A hD hA hS ls hl
  have hown : s.vm.findClass RX4 = some m.cls := hown
  have hl : lv_has ls 4 [(0, .ref mp), (1, .int (nI c))] := hl
  refine lv_iconst (v := 0) hx hb dX4_counted_0 (by decide) ?_
  refine lv_istore_n (lv' := [(2, .int 0), (0, .ref mp), (1, .int (nI c))]) hx hb dX4_counted_1 rfl hl (by decide) rfl (fun ls hl => ?_)
  refine lv_iconst (v := 0) hx hb dX4_counted_2 (by decide) ?_
  refine lv_istore_n (lv' := [(3, .int 0), (2, .int 0), (0, .ref mp), (1, .int (nI c))]) hx hb dX4_counted_3 rfl hl (by decide) rfl (fun ls hl => ?_)
  refine lv_iload_n hx hb dX4_counted_4 rfl (lv_at hl 0 rfl) ?_
  refine lv_iconst (v := 4) hx hb dX4_counted_5 (by decide) ?_
  refine lv_icmp_ge (tgt := 30) hx hb dX4_counted_6 (by decide) (fun c_1 => ?_) (fun c_1 => ?_)
  · exact absurd c_1 (by decide)
  · refine lv_iload_n hx hb dX4_counted_9 rfl (lv_at hl 1 rfl) ?_
    refine lv_aload_n hx hb dX4_counted_10 rfl (lv_at hl 2 rfl) ?_
    refine va_get (D := D) (ci := 4) (v := .ref mu) (C := RX4) (T := TX4) (N := 16) hx hb hts wb_X4_counted_4 hown hK hP 0 rfl rfl 14 (by decide) (hts _ wi_X4_counted_1) (fun _ h9 => h9) rfl dX4_counted_11 ?_
    refine lv_iload_n hx hb dX4_counted_14 rfl (lv_at hl 0 rfl) ?_
    refine f_iald (k := 0) hx hb hK hP 8 0 rfl rfl rfl (by omega) (by first | decide | omega) dX4_counted_15 ?_
    refine lv_iload_n hx hb dX4_counted_16 rfl (lv_at hl 3 rfl) ?_
    refine lv_ishr hx hb dX4_counted_17 ?_
    refine lv_iconst (v := 1) hx hb dX4_counted_18 (by decide) ?_
    refine lv_iand hx hb dX4_counted_19 ?_
    refine lv_iload_n hx hb dX4_counted_20 rfl (lv_at hl 0 rfl) ?_
    refine lv_ishl hx hb dX4_counted_21 ?_
    refine lv_ior hx hb dX4_counted_22 ?_
    refine lv_istore_n (lv' := [(2, .int ((0 : Int32) ||| ((((sm 0) >>> ((nI c) &&& 31)) &&& 1) <<< ((0 : Int32) &&& 31)))), (3, .int 0), (0, .ref mp), (1, .int (nI c))]) hx hb dX4_counted_23 rfl hl (by decide) rfl (fun ls hl => ?_)
    refine lv_iinc (v := 1) (lv' := [(3, .int 1), (2, .int ((0 : Int32) ||| ((((sm 0) >>> ((nI c) &&& 31)) &&& 1) <<< ((0 : Int32) &&& 31)))), (0, .ref mp), (1, .int (nI c))]) hx hb dX4_counted_24 hl (k := 1) rfl (by decide) (by decide) rfl (fun ls hl => ?_)
    refine lv_goto (tgt := 4) hx hb dX4_counted_27 (by decide) ?_
    refine lv_iload_n hx hb dX4_counted_4 rfl (lv_at hl 0 rfl) ?_
    refine lv_iconst (v := 4) hx hb dX4_counted_5 (by decide) ?_
    refine lv_icmp_ge (tgt := 30) hx hb dX4_counted_6 (by decide) (fun c_2 => ?_) (fun c_2 => ?_)
    · exact absurd c_2 (by decide)
    · refine lv_iload_n hx hb dX4_counted_9 rfl (lv_at hl 1 rfl) ?_
      refine lv_aload_n hx hb dX4_counted_10 rfl (lv_at hl 2 rfl) ?_
      refine va_get (D := D) (ci := 4) (v := .ref mu) (C := RX4) (T := TX4) (N := 16) hx hb hts wb_X4_counted_4 hown hK hP 0 rfl rfl 14 (by decide) (hts _ wi_X4_counted_1) (fun _ h9 => h9) rfl dX4_counted_11 ?_
      refine lv_iload_n hx hb dX4_counted_14 rfl (lv_at hl 0 rfl) ?_
      refine f_iald (k := 1) hx hb hK hP 8 0 rfl rfl rfl (by omega) (by first | decide | omega) dX4_counted_15 ?_
      refine lv_iload_n hx hb dX4_counted_16 rfl (lv_at hl 3 rfl) ?_
      refine lv_ishr hx hb dX4_counted_17 ?_
      refine lv_iconst (v := 1) hx hb dX4_counted_18 (by decide) ?_
      refine lv_iand hx hb dX4_counted_19 ?_
      refine lv_iload_n hx hb dX4_counted_20 rfl (lv_at hl 0 rfl) ?_
      refine lv_ishl hx hb dX4_counted_21 ?_
      refine lv_ior hx hb dX4_counted_22 ?_
      refine lv_istore_n (lv' := [(2, .int (((0 : Int32) ||| ((((sm 0) >>> ((nI c) &&& 31)) &&& 1) <<< ((0 : Int32) &&& 31))) ||| ((((sm 1) >>> ((nI c) &&& 31)) &&& 1) <<< ((1 : Int32) &&& 31)))), (3, .int 1), (0, .ref mp), (1, .int (nI c))]) hx hb dX4_counted_23 rfl hl (by decide) rfl (fun ls hl => ?_)
      refine lv_iinc (v := 2) (lv' := [(3, .int 2), (2, .int (((0 : Int32) ||| ((((sm 0) >>> ((nI c) &&& 31)) &&& 1) <<< ((0 : Int32) &&& 31))) ||| ((((sm 1) >>> ((nI c) &&& 31)) &&& 1) <<< ((1 : Int32) &&& 31)))), (0, .ref mp), (1, .int (nI c))]) hx hb dX4_counted_24 hl (k := 1) rfl (by decide) (by decide) rfl (fun ls hl => ?_)
      refine lv_goto (tgt := 4) hx hb dX4_counted_27 (by decide) ?_
      refine lv_iload_n hx hb dX4_counted_4 rfl (lv_at hl 0 rfl) ?_
      refine lv_iconst (v := 4) hx hb dX4_counted_5 (by decide) ?_
      refine lv_icmp_ge (tgt := 30) hx hb dX4_counted_6 (by decide) (fun c_3 => ?_) (fun c_3 => ?_)
      · exact absurd c_3 (by decide)
      · refine lv_iload_n hx hb dX4_counted_9 rfl (lv_at hl 1 rfl) ?_
        refine lv_aload_n hx hb dX4_counted_10 rfl (lv_at hl 2 rfl) ?_
        refine va_get (D := D) (ci := 4) (v := .ref mu) (C := RX4) (T := TX4) (N := 16) hx hb hts wb_X4_counted_4 hown hK hP 0 rfl rfl 14 (by decide) (hts _ wi_X4_counted_1) (fun _ h9 => h9) rfl dX4_counted_11 ?_
        refine lv_iload_n hx hb dX4_counted_14 rfl (lv_at hl 0 rfl) ?_
        refine f_iald (k := 2) hx hb hK hP 8 0 rfl rfl rfl (by omega) (by first | decide | omega) dX4_counted_15 ?_
        refine lv_iload_n hx hb dX4_counted_16 rfl (lv_at hl 3 rfl) ?_
        refine lv_ishr hx hb dX4_counted_17 ?_
        refine lv_iconst (v := 1) hx hb dX4_counted_18 (by decide) ?_
        refine lv_iand hx hb dX4_counted_19 ?_
        refine lv_iload_n hx hb dX4_counted_20 rfl (lv_at hl 0 rfl) ?_
        refine lv_ishl hx hb dX4_counted_21 ?_
        refine lv_ior hx hb dX4_counted_22 ?_
        refine lv_istore_n (lv' := [(2, .int ((((0 : Int32) ||| ((((sm 0) >>> ((nI c) &&& 31)) &&& 1) <<< ((0 : Int32) &&& 31))) ||| ((((sm 1) >>> ((nI c) &&& 31)) &&& 1) <<< ((1 : Int32) &&& 31))) ||| ((((sm 2) >>> ((nI c) &&& 31)) &&& 1) <<< ((2 : Int32) &&& 31)))), (3, .int 2), (0, .ref mp), (1, .int (nI c))]) hx hb dX4_counted_23 rfl hl (by decide) rfl (fun ls hl => ?_)
        refine lv_iinc (v := 3) (lv' := [(3, .int 3), (2, .int ((((0 : Int32) ||| ((((sm 0) >>> ((nI c) &&& 31)) &&& 1) <<< ((0 : Int32) &&& 31))) ||| ((((sm 1) >>> ((nI c) &&& 31)) &&& 1) <<< ((1 : Int32) &&& 31))) ||| ((((sm 2) >>> ((nI c) &&& 31)) &&& 1) <<< ((2 : Int32) &&& 31)))), (0, .ref mp), (1, .int (nI c))]) hx hb dX4_counted_24 hl (k := 1) rfl (by decide) (by decide) rfl (fun ls hl => ?_)
        refine lv_goto (tgt := 4) hx hb dX4_counted_27 (by decide) ?_
        refine lv_iload_n hx hb dX4_counted_4 rfl (lv_at hl 0 rfl) ?_
        refine lv_iconst (v := 4) hx hb dX4_counted_5 (by decide) ?_
        refine lv_icmp_ge (tgt := 30) hx hb dX4_counted_6 (by decide) (fun c_4 => ?_) (fun c_4 => ?_)
        · exact absurd c_4 (by decide)
        · refine lv_iload_n hx hb dX4_counted_9 rfl (lv_at hl 1 rfl) ?_
          refine lv_aload_n hx hb dX4_counted_10 rfl (lv_at hl 2 rfl) ?_
          refine va_get (D := D) (ci := 4) (v := .ref mu) (C := RX4) (T := TX4) (N := 16) hx hb hts wb_X4_counted_4 hown hK hP 0 rfl rfl 14 (by decide) (hts _ wi_X4_counted_1) (fun _ h9 => h9) rfl dX4_counted_11 ?_
          refine lv_iload_n hx hb dX4_counted_14 rfl (lv_at hl 0 rfl) ?_
          refine f_iald (k := 3) hx hb hK hP 8 0 rfl rfl rfl (by omega) (by first | decide | omega) dX4_counted_15 ?_
          refine lv_iload_n hx hb dX4_counted_16 rfl (lv_at hl 3 rfl) ?_
          refine lv_ishr hx hb dX4_counted_17 ?_
          refine lv_iconst (v := 1) hx hb dX4_counted_18 (by decide) ?_
          refine lv_iand hx hb dX4_counted_19 ?_
          refine lv_iload_n hx hb dX4_counted_20 rfl (lv_at hl 0 rfl) ?_
          refine lv_ishl hx hb dX4_counted_21 ?_
          refine lv_ior hx hb dX4_counted_22 ?_
          refine lv_istore_n (lv' := [(2, .int (((((0 : Int32) ||| ((((sm 0) >>> ((nI c) &&& 31)) &&& 1) <<< ((0 : Int32) &&& 31))) ||| ((((sm 1) >>> ((nI c) &&& 31)) &&& 1) <<< ((1 : Int32) &&& 31))) ||| ((((sm 2) >>> ((nI c) &&& 31)) &&& 1) <<< ((2 : Int32) &&& 31))) ||| ((((sm 3) >>> ((nI c) &&& 31)) &&& 1) <<< ((3 : Int32) &&& 31)))), (3, .int 3), (0, .ref mp), (1, .int (nI c))]) hx hb dX4_counted_23 rfl hl (by decide) rfl (fun ls hl => ?_)
          refine lv_iinc (v := 4) (lv' := [(3, .int 4), (2, .int (((((0 : Int32) ||| ((((sm 0) >>> ((nI c) &&& 31)) &&& 1) <<< ((0 : Int32) &&& 31))) ||| ((((sm 1) >>> ((nI c) &&& 31)) &&& 1) <<< ((1 : Int32) &&& 31))) ||| ((((sm 2) >>> ((nI c) &&& 31)) &&& 1) <<< ((2 : Int32) &&& 31))) ||| ((((sm 3) >>> ((nI c) &&& 31)) &&& 1) <<< ((3 : Int32) &&& 31)))), (0, .ref mp), (1, .int (nI c))]) hx hb dX4_counted_24 hl (k := 1) rfl (by decide) (by decide) rfl (fun ls hl => ?_)
          refine lv_goto (tgt := 4) hx hb dX4_counted_27 (by decide) ?_
          refine lv_iload_n hx hb dX4_counted_4 rfl (lv_at hl 0 rfl) ?_
          refine lv_iconst (v := 4) hx hb dX4_counted_5 (by decide) ?_
          refine lv_icmp_ge (tgt := 30) hx hb dX4_counted_6 (by decide) (fun c_5 => ?_) (fun c_5 => ?_)
          · refine lv_iload_n hx hb dX4_counted_30 rfl (lv_at hl 1 rfl) ?_
            exact f_ret_i hx hb hr hlocks hP hD hS dX4_counted_31 (by rfl)
          · exact absurd c_5 (by decide)

end C_specs_model
