section CQ
theorem k_X2_isFull : yX2_isFull.cls = RX2 ∧ yX2_isFull.cls ≠ "java/lang/invoke/MethodHandle" ∧ yX2_isFull.cls ≠ "java/lang/invoke/VarHandle" ∧ (parseMethodDescriptor yX2_isFull.desc).map (fun d => d.parameters.length) = some 0 := by decide +kernel
/-- X2_isFull: read off its bytecode -/
def sp_X2_isFull (n : Nat) : Int32 := if (nI n) < 6 then 0 else 1
theorem wb_X2_isFull_2 : ∀ w ∈ wsX20, w ∈ wsX2_isFull := (fun _ h => List.mem_cons_of_mem _ (List.mem_append_right _ h))
theorem wi_X2_isFull_1 : (Cond.fieldLink RX2 18 "FrostPane$RuleBook" "count" "I") ∈ wsX2_isFull := List.mem_of_getElem? (i := 1) rfl
set_option maxHeartbeats 4000000 in
set_option maxRecDepth 100000 in
theorem c_X2_isFull (l : Launch) (D : va_G) (cI cZ cP cQ : ClassId) (sz : Nat) (bk bf bs n : Nat) (frA stA : Nat → Int32)  : f_Mi l yX2_isFull wsX2_isFull ({ frames := 0, cells := 0, slots := 0, locals := 0 }) D (fTY cI cZ cP cQ) [.ref bk] sz [(bk, .inr (2, [.ref bf, .ref bs, .int (nI n)])), (bf, .inl (cI, 6, .inl frA)), (bs, .inl (cI, 6, .inl stA))] (sp_X2_isFull n) [(bk, .inr (2, [.ref bf, .ref bs, .int (nI n)])), (bf, .inl (cI, 6, .inl frA)), (bs, .inl (cI, 6, .inl stA))] := by
  refine f_ent_i (by decide) rfl (Nat.le_of_ble_eq_true rfl) ?_
  intro pg ev s m below meth cd hx hb hr hts hown hlocks hml hnm hsz hP hK hN A hD hA hS ls hl
  have hown : s.vm.findClass RX2 = some m.cls := hown
  have hl : lv_has ls 1 [(0, .ref bk)] := hl
  refine lv_aload_n hx hb dX2_isFull_0 rfl (lv_at hl 0 rfl) ?_
  refine va_get (D := D) (ci := 2) (v := .int (nI n)) (C := RX2) (T := TX2) (N := 3) hx hb hts wb_X2_isFull_2 hown hK hP 0 rfl rfl 2 (by decide) (hts _ wi_X2_isFull_1) (fun _ h9 => h9) rfl dX2_isFull_1 ?_
  refine lv_bipush (v := 6) hx hb dX2_isFull_4 (by decide) ?_
  refine lv_icmp_lt (tgt := 13) hx hb dX2_isFull_6 (by decide) (fun c_1 => ?_) (fun c_1 => ?_)
  · refine lv_iconst (v := 0) hx hb dX2_isFull_13 (by decide) ?_
    exact f_ret_z hx hb hr hlocks hP hD hS dX2_isFull_14 (by rw [sp_X2_isFull, if_pos c_1]) (by unfold sp_X2_isFull; first | rfl | (repeat (first | rfl | split)))
  · refine lv_iconst (v := 1) hx hb dX2_isFull_9 (by decide) ?_
    refine lv_goto (tgt := 14) hx hb dX2_isFull_10 (by decide) ?_
    exact f_ret_z hx hb hr hlocks hP hD hS dX2_isFull_14 (by rw [sp_X2_isFull, if_neg c_1]) (by unfold sp_X2_isFull; first | rfl | (repeat (first | rfl | split)))

theorem k_X2_has : yX2_has.cls = RX2 ∧ yX2_has.cls ≠ "java/lang/invoke/MethodHandle" ∧ yX2_has.cls ≠ "java/lang/invoke/VarHandle" ∧ (parseMethodDescriptor yX2_has.desc).map (fun d => d.parameters.length) = some 1 := by decide +kernel
/-- X2_has: read off its bytecode -/
def sp_X2_has (n : Nat) (row : Int32) : Int32 := if row < 0 then 0 else (if (nI n) ≤ row then 0 else 1)
theorem wb_X2_has_2 : ∀ w ∈ wsX20, w ∈ wsX2_has := (fun _ h => List.mem_cons_of_mem _ (List.mem_append_right _ h))
theorem wi_X2_has_1 : (Cond.fieldLink RX2 18 "FrostPane$RuleBook" "count" "I") ∈ wsX2_has := List.mem_of_getElem? (i := 1) rfl
set_option maxHeartbeats 4000000 in
set_option maxRecDepth 100000 in
theorem c_X2_has (l : Launch) (D : va_G) (cI cZ cP cQ : ClassId) (sz : Nat) (bk bf bs n : Nat) (frA stA : Nat → Int32) (row : Int32)  : f_Mi l yX2_has wsX2_has ({ frames := 0, cells := 0, slots := 0, locals := 0 }) D (fTY cI cZ cP cQ) [.ref bk, .int row] sz [(bk, .inr (2, [.ref bf, .ref bs, .int (nI n)])), (bf, .inl (cI, 6, .inl frA)), (bs, .inl (cI, 6, .inl stA))] (sp_X2_has n row) [(bk, .inr (2, [.ref bf, .ref bs, .int (nI n)])), (bf, .inl (cI, 6, .inl frA)), (bs, .inl (cI, 6, .inl stA))] := by
  refine f_ent_i (by decide) rfl (Nat.le_of_ble_eq_true rfl) ?_
  intro pg ev s m below meth cd hx hb hr hts hown hlocks hml hnm hsz hP hK hN A hD hA hS ls hl
  have hown : s.vm.findClass RX2 = some m.cls := hown
  have hl : lv_has ls 2 [(0, .ref bk), (1, .int row)] := hl
  refine lv_iload_n hx hb dX2_has_0 rfl (lv_at hl 1 rfl) ?_
  refine lv_if_lt (tgt := 16) hx hb dX2_has_1 (by decide) (fun c_1 => ?_) (fun c_1 => ?_)
  · refine lv_iconst (v := 0) hx hb dX2_has_16 (by decide) ?_
    exact f_ret_z hx hb hr hlocks hP hD hS dX2_has_17 (by rw [sp_X2_has, if_pos c_1]) (by unfold sp_X2_has; first | rfl | (repeat (first | rfl | split)))
  · refine lv_iload_n hx hb dX2_has_4 rfl (lv_at hl 1 rfl) ?_
    refine lv_aload_n hx hb dX2_has_5 rfl (lv_at hl 0 rfl) ?_
    refine va_get (D := D) (ci := 2) (v := .int (nI n)) (C := RX2) (T := TX2) (N := 3) hx hb hts wb_X2_has_2 hown hK hP 0 rfl rfl 2 (by decide) (hts _ wi_X2_has_1) (fun _ h9 => h9) rfl dX2_has_6 ?_
    refine lv_icmp_ge (tgt := 16) hx hb dX2_has_9 (by decide) (fun c_2 => ?_) (fun c_2 => ?_)
    · refine lv_iconst (v := 0) hx hb dX2_has_16 (by decide) ?_
      exact f_ret_z hx hb hr hlocks hP hD hS dX2_has_17 (by rw [sp_X2_has, if_neg c_1, if_pos c_2]) (by unfold sp_X2_has; first | rfl | (repeat (first | rfl | split)))
    · refine lv_iconst (v := 1) hx hb dX2_has_12 (by decide) ?_
      refine lv_goto (tgt := 17) hx hb dX2_has_13 (by decide) ?_
      exact f_ret_z hx hb hr hlocks hP hD hS dX2_has_17 (by rw [sp_X2_has, if_neg c_1, if_neg c_2]) (by unfold sp_X2_has; first | rfl | (repeat (first | rfl | split)))

theorem sp_has_in {n b : Nat} (hb : b < n) (hn : n ≤ 6) : sp_X2_has n (nI b) = 1 := by
  unfold sp_X2_has
  rw [if_neg (nI_pos (by omega)), if_neg (nI_ge hb (by omega))]
theorem sp_has_of {n : Nat} {x : Int32} (h : ¬ sp_X2_has n x = 0) (hn : n ≤ 6) : ∃ b : Nat, b < n ∧ x = nI b := by
  unfold sp_X2_has at h
  split at h
  · exact absurd rfl h
  · rename_i h1
    split at h
    · exact absurd rfl h
    · rename_i h2
      obtain ⟨b, hb, rfl⟩ := nI_of h1
      exact ⟨b, Nat.lt_of_not_le (fun h => h2 ((nI_leI (by omega) hb).mpr h)), rfl⟩
theorem sp_full_no {n : Nat} (hn : n < 6) : sp_X2_isFull n = 0 := by
  unfold sp_X2_isFull
  rw [if_pos (show nI n < 6 from (nI_ltI (a := n) (b := 6) (by omega) (by omega)).mpr hn)]
theorem sp_full_yes : sp_X2_isFull 6 = 1 := by decide +kernel
theorem k_X2_freezesBy : yX2_freezesBy.cls = RX2 ∧ yX2_freezesBy.cls ≠ "java/lang/invoke/MethodHandle" ∧ yX2_freezesBy.cls ≠ "java/lang/invoke/VarHandle" ∧ (parseMethodDescriptor yX2_freezesBy.desc).map (fun d => d.parameters.length) = some 1 := by decide +kernel
theorem wb_X2_freezesBy_2 : ∀ w ∈ wsX20, w ∈ wsX2_freezesBy := (fun _ h => List.mem_cons_of_mem _ (List.mem_append_right _ h))
theorem wi_X2_freezesBy_1 : (Cond.fieldLink RX2 9 "FrostPane$RuleBook" "freezes" "[I") ∈ wsX2_freezesBy := List.mem_of_getElem? (i := 1) rfl
set_option maxHeartbeats 4000000 in
set_option maxRecDepth 100000 in
theorem c_X2_freezesBy (l : Launch) (D : va_G) (cI cZ cP cQ : ClassId) (sz : Nat) (bk bf bs n : Nat) (frA stA : Nat → Int32) (b : Nat) (hn : n ≤ 6) (hb0 : b < n) : f_Mi l yX2_freezesBy wsX2_freezesBy ({ frames := 1, cells := 0, slots := 0, locals := 21 }) D (fTY cI cZ cP cQ) [.ref bk, .int (nI b)] sz [(bk, .inr (2, [.ref bf, .ref bs, .int (nI n)])), (bf, .inl (cI, 6, .inl frA)), (bs, .inl (cI, 6, .inl stA))] (frA b) [(bk, .inr (2, [.ref bf, .ref bs, .int (nI n)])), (bf, .inl (cI, 6, .inl frA)), (bs, .inl (cI, 6, .inl stA))] := by
  refine f_ent_i (by decide) rfl (Nat.le_of_ble_eq_true rfl) ?_
  intro pg ev s m below meth cd hx hb hr hts hown hlocks hml hnm hsz hP hK hN A hD hA hS ls hl
  have hown : s.vm.findClass RX2 = some m.cls := hown
  have hl : lv_has ls 2 [(0, .ref bk), (1, .int (nI b))] := hl
  refine lv_aload_n hx hb dX2_freezesBy_0 rfl (lv_at hl 0 rfl) ?_
  refine lv_iload_n hx hb dX2_freezesBy_1 rfl (lv_at hl 1 rfl) ?_
  refine f_callVi ⟨hx, hb, hml, hown, hts⟩ hP hD hS hA hK hN [0, 1, 2] (w2 := [(bk, .inr (2, [.ref bf, .ref bs, .int (nI n)])), (bf, .inl (cI, 6, .inl frA)), (bs, .inl (cI, 6, .inl stA))])
      (c_X2_has (l := l) (D := D) (cI := cI) (cZ := cZ) (cP := cP) (cQ := cQ) (sz := _) (bk := bk) (bf := bf) (bs := bs) (n := n) (frA := frA) (stA := stA) (row := nI b) ) (cwV 1 hts gX2_freezesBy_X2_has rfl rfl rfl k_X2_has ⟨Nat.le_of_ble_eq_true rfl, Nat.le_of_ble_eq_true rfl⟩) 0 rfl rfl rfl rfl [bk, bf, bs] rfl rfl rfl rfl rfl hl.1 (Nat.le_of_ble_eq_true rfl) dX2_freezesBy_2 ⟨Nat.le_of_ble_eq_true rfl, Nat.le_of_ble_eq_true rfl⟩ (fun H locs hP hD hS => ?_)
  refine lv_if_eq (tgt := 26) hx hb dX2_freezesBy_5 (by decide) (fun c_1 => ?_) (fun c_1 => ?_)
  · exact absurd ((sp_has_in hb0 hn).symm.trans c_1) (by decide)
  · refine lv_iload_n hx hb dX2_freezesBy_8 rfl (lv_at hl 1 rfl) ?_
    refine lv_aload_n hx hb dX2_freezesBy_9 rfl (lv_at hl 0 rfl) ?_
    refine va_get (D := D) (ci := 2) (v := .ref bf) (C := RX2) (T := TX2) (N := 3) hx hb hts wb_X2_freezesBy_2 hown hK hP 0 rfl rfl 0 (by decide) (hts _ wi_X2_freezesBy_1) (fun _ h9 => h9) rfl dX2_freezesBy_10 ?_
    refine va_alen (v := 6) hx hb hK hP 1 0 rfl rfl rfl dX2_freezesBy_13 ?_
    refine lv_icmp_ge (tgt := 26) hx hb dX2_freezesBy_14 (by decide) (fun c_2 => ?_) (fun c_2 => ?_)
    · have n_2 : 6 ≤ b := (nI_leI (a := 6) (b := b) (by omega) (by omega)).mp c_2
      exfalso; omega
    · have n_2 : b < 6 := Nat.lt_of_not_le (fun h => c_2 ((nI_leI (a := 6) (b := b) (by omega) (by omega)).mpr h))
      refine lv_aload_n hx hb dX2_freezesBy_17 rfl (lv_at hl 0 rfl) ?_
      refine va_get (D := D) (ci := 2) (v := .ref bf) (C := RX2) (T := TX2) (N := 3) hx hb hts wb_X2_freezesBy_2 hown hK hP 0 rfl rfl 0 (by decide) (hts _ wi_X2_freezesBy_1) (fun _ h9 => h9) rfl dX2_freezesBy_18 ?_
      refine lv_iload_n hx hb dX2_freezesBy_21 rfl (lv_at hl 1 rfl) ?_
      refine f_iald (k := b) hx hb hK hP 1 0 rfl rfl rfl (by omega) (by first | decide | omega) dX2_freezesBy_22 ?_
      refine lv_goto (tgt := 27) hx hb dX2_freezesBy_23 (by decide) ?_
      exact f_ret_i hx hb hr hlocks hP hD hS dX2_freezesBy_27 (by rfl)

theorem k_X2_staysBy : yX2_staysBy.cls = RX2 ∧ yX2_staysBy.cls ≠ "java/lang/invoke/MethodHandle" ∧ yX2_staysBy.cls ≠ "java/lang/invoke/VarHandle" ∧ (parseMethodDescriptor yX2_staysBy.desc).map (fun d => d.parameters.length) = some 1 := by decide +kernel
theorem wb_X2_staysBy_2 : ∀ w ∈ wsX20, w ∈ wsX2_staysBy := (fun _ h => List.mem_cons_of_mem _ (List.mem_append_right _ h))
theorem wi_X2_staysBy_1 : (Cond.fieldLink RX2 15 "FrostPane$RuleBook" "stays" "[I") ∈ wsX2_staysBy := List.mem_of_getElem? (i := 1) rfl
set_option maxHeartbeats 4000000 in
set_option maxRecDepth 100000 in
theorem c_X2_staysBy (l : Launch) (D : va_G) (cI cZ cP cQ : ClassId) (sz : Nat) (bk bf bs n : Nat) (frA stA : Nat → Int32) (b : Nat) (hn : n ≤ 6) (hb0 : b < n) : f_Mi l yX2_staysBy wsX2_staysBy ({ frames := 1, cells := 0, slots := 0, locals := 21 }) D (fTY cI cZ cP cQ) [.ref bk, .int (nI b)] sz [(bk, .inr (2, [.ref bf, .ref bs, .int (nI n)])), (bf, .inl (cI, 6, .inl frA)), (bs, .inl (cI, 6, .inl stA))] (stA b) [(bk, .inr (2, [.ref bf, .ref bs, .int (nI n)])), (bf, .inl (cI, 6, .inl frA)), (bs, .inl (cI, 6, .inl stA))] := by
  refine f_ent_i (by decide) rfl (Nat.le_of_ble_eq_true rfl) ?_
  intro pg ev s m below meth cd hx hb hr hts hown hlocks hml hnm hsz hP hK hN A hD hA hS ls hl
  have hown : s.vm.findClass RX2 = some m.cls := hown
  have hl : lv_has ls 2 [(0, .ref bk), (1, .int (nI b))] := hl
  refine lv_aload_n hx hb dX2_staysBy_0 rfl (lv_at hl 0 rfl) ?_
  refine lv_iload_n hx hb dX2_staysBy_1 rfl (lv_at hl 1 rfl) ?_
  refine f_callVi ⟨hx, hb, hml, hown, hts⟩ hP hD hS hA hK hN [0, 1, 2] (w2 := [(bk, .inr (2, [.ref bf, .ref bs, .int (nI n)])), (bf, .inl (cI, 6, .inl frA)), (bs, .inl (cI, 6, .inl stA))])
      (c_X2_has (l := l) (D := D) (cI := cI) (cZ := cZ) (cP := cP) (cQ := cQ) (sz := _) (bk := bk) (bf := bf) (bs := bs) (n := n) (frA := frA) (stA := stA) (row := nI b) ) (cwV 1 hts gX2_staysBy_X2_has rfl rfl rfl k_X2_has ⟨Nat.le_of_ble_eq_true rfl, Nat.le_of_ble_eq_true rfl⟩) 0 rfl rfl rfl rfl [bk, bf, bs] rfl rfl rfl rfl rfl hl.1 (Nat.le_of_ble_eq_true rfl) dX2_staysBy_2 ⟨Nat.le_of_ble_eq_true rfl, Nat.le_of_ble_eq_true rfl⟩ (fun H locs hP hD hS => ?_)
  refine lv_if_eq (tgt := 26) hx hb dX2_staysBy_5 (by decide) (fun c_1 => ?_) (fun c_1 => ?_)
  · exact absurd ((sp_has_in hb0 hn).symm.trans c_1) (by decide)
  · refine lv_iload_n hx hb dX2_staysBy_8 rfl (lv_at hl 1 rfl) ?_
    refine lv_aload_n hx hb dX2_staysBy_9 rfl (lv_at hl 0 rfl) ?_
    refine va_get (D := D) (ci := 2) (v := .ref bs) (C := RX2) (T := TX2) (N := 3) hx hb hts wb_X2_staysBy_2 hown hK hP 0 rfl rfl 1 (by decide) (hts _ wi_X2_staysBy_1) (fun _ h9 => h9) rfl dX2_staysBy_10 ?_
    refine va_alen (v := 6) hx hb hK hP 2 0 rfl rfl rfl dX2_staysBy_13 ?_
    refine lv_icmp_ge (tgt := 26) hx hb dX2_staysBy_14 (by decide) (fun c_2 => ?_) (fun c_2 => ?_)
    · have n_2 : 6 ≤ b := (nI_leI (a := 6) (b := b) (by omega) (by omega)).mp c_2
      exfalso; omega
    · have n_2 : b < 6 := Nat.lt_of_not_le (fun h => c_2 ((nI_leI (a := 6) (b := b) (by omega) (by omega)).mpr h))
      refine lv_aload_n hx hb dX2_staysBy_17 rfl (lv_at hl 0 rfl) ?_
      refine va_get (D := D) (ci := 2) (v := .ref bs) (C := RX2) (T := TX2) (N := 3) hx hb hts wb_X2_staysBy_2 hown hK hP 0 rfl rfl 1 (by decide) (hts _ wi_X2_staysBy_1) (fun _ h9 => h9) rfl dX2_staysBy_18 ?_
      refine lv_iload_n hx hb dX2_staysBy_21 rfl (lv_at hl 1 rfl) ?_
      refine f_iald (k := b) hx hb hK hP 2 0 rfl rfl rfl (by omega) (by first | decide | omega) dX2_staysBy_22 ?_
      refine lv_goto (tgt := 27) hx hb dX2_staysBy_23 (by decide) ?_
      exact f_ret_i hx hb hr hlocks hP hD hS dX2_staysBy_27 (by rfl)

theorem k_X2_append : yX2_append.cls = RX2 ∧ yX2_append.cls ≠ "java/lang/invoke/MethodHandle" ∧ yX2_append.cls ≠ "java/lang/invoke/VarHandle" ∧ (parseMethodDescriptor yX2_append.desc).map (fun d => d.parameters.length) = some 2 := by decide +kernel
theorem wb_X2_append_2 : ∀ w ∈ wsX20, w ∈ wsX2_append := (fun _ h => List.mem_cons_of_mem _ (List.mem_append_right _ h))
theorem wi_X2_append_1 : (Cond.fieldLink RX2 18 "FrostPane$RuleBook" "count" "I") ∈ wsX2_append := List.mem_of_getElem? (i := 1) rfl
theorem wi_X2_append_2 : (Cond.fieldLink RX2 9 "FrostPane$RuleBook" "freezes" "[I") ∈ wsX2_append := List.mem_of_getElem? (i := 2) rfl
theorem wi_X2_append_3 : (Cond.fieldLink RX2 15 "FrostPane$RuleBook" "stays" "[I") ∈ wsX2_append := List.mem_of_getElem? (i := 3) rfl
set_option maxHeartbeats 4000000 in
set_option maxRecDepth 100000 in
theorem c_X2_append (l : Launch) (D : va_G) (cI cZ cP cQ : ClassId) (sz : Nat) (bk bf bs n : Nat) (frA stA : Nat → Int32) (fr st : Int32) (hn : n < 6) : f_Mi l yX2_append wsX2_append ({ frames := 0, cells := 0, slots := 0, locals := 0 }) D (fTY cI cZ cP cQ) [.ref bk, .int fr, .int st] sz [(bk, .inr (2, [.ref bf, .ref bs, .int (nI n)])), (bf, .inl (cI, 6, .inl frA)), (bs, .inl (cI, 6, .inl stA))] (nI n) [(bk, .inr (2, [.ref bf, .ref bs, .int (nI (n + 1))])), (bf, .inl (cI, 6, .inl (upd frA n fr))), (bs, .inl (cI, 6, .inl (upd stA n st)))] := by
  refine f_ent_i (by decide) rfl (Nat.le_of_ble_eq_true rfl) ?_
  intro pg ev s m below meth cd hx hb hr hts hown hlocks hml hnm hsz hP hK hN A hD hA hS ls hl
  have hown : s.vm.findClass RX2 = some m.cls := hown
  have hl : lv_has ls 4 [(0, .ref bk), (1, .int fr), (2, .int st)] := hl
  refine lv_aload_n hx hb dX2_append_0 rfl (lv_at hl 0 rfl) ?_
  refine va_get (D := D) (ci := 2) (v := .int (nI n)) (C := RX2) (T := TX2) (N := 3) hx hb hts wb_X2_append_2 hown hK hP 0 rfl rfl 2 (by decide) (hts _ wi_X2_append_1) (fun _ h9 => h9) rfl dX2_append_1 ?_
  refine lv_istore_n (lv' := [(3, .int (nI n)), (0, .ref bk), (1, .int fr), (2, .int st)]) hx hb dX2_append_4 rfl hl (by decide) rfl (fun ls hl => ?_)
  refine lv_iload_n hx hb dX2_append_5 rfl (lv_at hl 0 rfl) ?_
  refine lv_if_lt (tgt := 51) hx hb dX2_append_6 (by decide) (fun c_1 => ?_) (fun c_1 => ?_)
  · have n_1 : n < 0 := (nI_ltI (a := n) (b := 0) (by omega) (by omega)).mp c_1
    exfalso; omega
  · have n_1 : 0 ≤ n := Nat.le_of_not_lt (fun h => c_1 ((nI_ltI (a := n) (b := 0) (by omega) (by omega)).mpr h))
    refine lv_iload_n hx hb dX2_append_9 rfl (lv_at hl 0 rfl) ?_
    refine lv_aload_n hx hb dX2_append_10 rfl (lv_at hl 1 rfl) ?_
    refine va_get (D := D) (ci := 2) (v := .ref bf) (C := RX2) (T := TX2) (N := 3) hx hb hts wb_X2_append_2 hown hK hP 0 rfl rfl 0 (by decide) (hts _ wi_X2_append_2) (fun _ h9 => h9) rfl dX2_append_11 ?_
    refine va_alen (v := 6) hx hb hK hP 1 0 rfl rfl rfl dX2_append_14 ?_
    refine lv_icmp_ge (tgt := 51) hx hb dX2_append_15 (by decide) (fun c_2 => ?_) (fun c_2 => ?_)
    · have n_2 : 6 ≤ n := (nI_leI (a := 6) (b := n) (by omega) (by omega)).mp c_2
      exfalso; omega
    · have n_2 : n < 6 := Nat.lt_of_not_le (fun h => c_2 ((nI_leI (a := 6) (b := n) (by omega) (by omega)).mpr h))
      refine lv_iload_n hx hb dX2_append_18 rfl (lv_at hl 0 rfl) ?_
      refine lv_aload_n hx hb dX2_append_19 rfl (lv_at hl 1 rfl) ?_
      refine va_get (D := D) (ci := 2) (v := .ref bs) (C := RX2) (T := TX2) (N := 3) hx hb hts wb_X2_append_2 hown hK hP 0 rfl rfl 1 (by decide) (hts _ wi_X2_append_3) (fun _ h9 => h9) rfl dX2_append_20 ?_
      refine va_alen (v := 6) hx hb hK hP 2 0 rfl rfl rfl dX2_append_23 ?_
      refine lv_icmp_ge (tgt := 51) hx hb dX2_append_24 (by decide) (fun c_3 => ?_) (fun c_3 => ?_)
      · have n_3 : 6 ≤ n := (nI_leI (a := 6) (b := n) (by omega) (by omega)).mp c_3
        exfalso; omega
      · have n_3 : n < 6 := Nat.lt_of_not_le (fun h => c_3 ((nI_leI (a := 6) (b := n) (by omega) (by omega)).mpr h))
        refine lv_aload_n hx hb dX2_append_27 rfl (lv_at hl 1 rfl) ?_
        refine va_get (D := D) (ci := 2) (v := .ref bf) (C := RX2) (T := TX2) (N := 3) hx hb hts wb_X2_append_2 hown hK hP 0 rfl rfl 0 (by decide) (hts _ wi_X2_append_2) (fun _ h9 => h9) rfl dX2_append_28 ?_
        refine lv_iload_n hx hb dX2_append_31 rfl (lv_at hl 0 rfl) ?_
        refine lv_iload_n hx hb dX2_append_32 rfl (lv_at hl 2 rfl) ?_
        refine f_iast (k := n) hx hb hK hP hD hS 1 0 rfl rfl rfl (by omega) (by first | decide | omega) dX2_append_33 (fun H locs hP hD hS => ?_)
        have hP : va_P D vwCl [(bk, .inr (2, [.ref bf, .ref bs, .int (nI n)])), (bf, .inl (cI, 6, .inl (upd frA n fr))), (bs, .inl (cI, 6, .inl stA))] _ := hP
        have hD : va_D A [(bk, .inr (2, [.ref bf, .ref bs, .int (nI n)])), (bf, .inl (cI, 6, .inl (upd frA n fr))), (bs, .inl (cI, 6, .inl stA))] := hD
        refine lv_aload_n hx hb dX2_append_34 rfl (lv_at hl 1 rfl) ?_
        refine va_get (D := D) (ci := 2) (v := .ref bs) (C := RX2) (T := TX2) (N := 3) hx hb hts wb_X2_append_2 hown hK hP 0 rfl rfl 1 (by decide) (hts _ wi_X2_append_3) (fun _ h9 => h9) rfl dX2_append_35 ?_
        refine lv_iload_n hx hb dX2_append_38 rfl (lv_at hl 0 rfl) ?_
        refine lv_iload_n hx hb dX2_append_39 rfl (lv_at hl 3 rfl) ?_
        refine f_iast (k := n) hx hb hK hP hD hS 2 0 rfl rfl rfl (by omega) (by first | decide | omega) dX2_append_40 (fun H locs hP hD hS => ?_)
        have hP : va_P D vwCl [(bk, .inr (2, [.ref bf, .ref bs, .int (nI n)])), (bf, .inl (cI, 6, .inl (upd frA n fr))), (bs, .inl (cI, 6, .inl (upd stA n st)))] _ := hP
        have hD : va_D A [(bk, .inr (2, [.ref bf, .ref bs, .int (nI n)])), (bf, .inl (cI, 6, .inl (upd frA n fr))), (bs, .inl (cI, 6, .inl (upd stA n st)))] := hD
        refine lv_aload_n hx hb dX2_append_41 rfl (lv_at hl 1 rfl) ?_
        refine lv_dup hx hb dX2_append_42 rfl ?_
        refine va_get (D := D) (ci := 2) (v := .int (nI n)) (C := RX2) (T := TX2) (N := 3) hx hb hts wb_X2_append_2 hown hK hP 0 rfl rfl 2 (by decide) (hts _ wi_X2_append_1) (fun _ h9 => h9) rfl dX2_append_43 ?_
        refine lv_iconst (v := 1) hx hb dX2_append_46 (by decide) ?_
        refine lv_iadd hx hb dX2_append_47 ?_
        refine f_topi (y := nI (n + 1)) (nI_add n 1) ?_
        refine va_put (D := D) (ci := 2) (v := .int (nI (n + 1))) (ty := tyX2 2) (C := RX2) (T := TX2) (N := 3) hx hb hts wb_X2_append_2 tyX2 tyX2_ok nmX2 hown hK hP hD hS 0 rfl rfl 2 (by decide) (hts _ wi_X2_append_1) (fun _ h9 => h9) rfl (tyX2_ok 2 (by decide)) rfl rfl (Nat.le_of_ble_eq_true rfl) dX2_append_48 (fun H locs hP hD hS => ?_)
        have hP : va_P D vwCl [(bk, .inr (2, [.ref bf, .ref bs, .int (nI (n + 1))])), (bf, .inl (cI, 6, .inl (upd frA n fr))), (bs, .inl (cI, 6, .inl (upd stA n st)))] _ := hP
        have hD : va_D A [(bk, .inr (2, [.ref bf, .ref bs, .int (nI (n + 1))])), (bf, .inl (cI, 6, .inl (upd frA n fr))), (bs, .inl (cI, 6, .inl (upd stA n st)))] := hD
        refine lv_iload_n hx hb dX2_append_51 rfl (lv_at hl 0 rfl) ?_
        exact f_ret_i hx hb hr hlocks hP hD hS dX2_append_52 (by rfl)

theorem sp_bits_in {f1 : Nat → Int32} {r : Nat} (h : r < 12) : sp_X1_bitsOf f1 (nI r) = f1 r := by
  unfold sp_X1_bitsOf
  rw [if_neg (nI_pos (by omega)), if_neg (show ¬ (12 : Int32) ≤ nI r from nI_ge (b := 12) h (by omega)), nI_clamp (by omega)]
theorem k_X0_spreadOut : yX0_spreadOut.cls = RX0 ∧ yX0_spreadOut.cls ≠ "java/lang/invoke/MethodHandle" ∧ yX0_spreadOut.cls ≠ "java/lang/invoke/VarHandle" ∧ (parseMethodDescriptor yX0_spreadOut.desc).map (fun d => d.parameters.length) = some 1 := by decide +kernel
theorem wb_X0_spreadOut_0 : ∀ w ∈ wsX00, w ∈ wsX0_spreadOut := (fun _ h => List.mem_cons_of_mem _ (List.mem_append_left _ (List.mem_append_right _ h)))
theorem wi_X0_spreadOut_1 : (Cond.fieldLink RX0 9 "FrostPane$FlowerPicker" "left" "[I") ∈ wsX0_spreadOut := List.mem_of_getElem? (i := 1) rfl
set_option maxHeartbeats 4000000 in
set_option maxRecDepth 100000 in
theorem c_X0_spreadOut (l : Launch) (D : va_G) (cI cZ cP cQ : ClassId) (sz : Nat) (pk lo go : Nat) (lf fl : Nat → Int32) (pa fo no mo C R F : Nat) (fz nx ml : Nat → Int32)  : f_Mv l yX0_spreadOut wsX0_spreadOut ({ frames := 1, cells := 0, slots := 0, locals := 21 }) D (fTY cI cZ cP cQ) [.ref pk, .ref pa] sz [(pk, .inr (0, [.ref lo, .ref go])), (lo, .inl (cI, 12, .inl lf)), (go, .inl (cI, 12, .inl fl)), (pa, .inr (1, [.ref fo, .ref no, .ref mo, .int (nI C), .int (nI R), .int (nI F)])), (fo, .inl (cI, 12, .inl fz)), (no, .inl (cI, 12, .inl nx)), (mo, .inl (cI, 144, .inl ml))] [(pk, .inr (0, [.ref lo, .ref go])), (lo, .inl (cI, 12, .inl fz)), (go, .inl (cI, 12, .inl fl)), (pa, .inr (1, [.ref fo, .ref no, .ref mo, .int (nI C), .int (nI R), .int (nI F)])), (fo, .inl (cI, 12, .inl fz)), (no, .inl (cI, 12, .inl nx)), (mo, .inl (cI, 144, .inl ml))] := by
  refine f_ent_v (by decide) rfl (Nat.le_of_ble_eq_true rfl) ?_
  intro pg ev s m below meth cd hx hb hr hts hown hlocks hml hnm hsz hP hK hN A hD hA hS ls hl
  have hown : s.vm.findClass RX0 = some m.cls := hown
  have hl : lv_has ls 3 [(0, .ref pk), (1, .ref pa)] := hl
  refine lv_aload_n hx hb dX0_spreadOut_0 rfl (lv_at hl 1 rfl) ?_
  refine lv_ifnonnull (tgt := 5) hx hb dX0_spreadOut_1 (by decide) ?_
  obtain ⟨hP, hD⟩ := f_rep (g := sfill fz lf 0) hP hD 1 rfl (fun j _ => sfill_0 _ _ j)
  have hP : va_P D vwCl [(pk, .inr (0, [.ref lo, .ref go])), (lo, .inl (cI, 12, .inl (sfill fz lf 0))), (go, .inl (cI, 12, .inl fl)), (pa, .inr (1, [.ref fo, .ref no, .ref mo, .int (nI C), .int (nI R), .int (nI F)])), (fo, .inl (cI, 12, .inl fz)), (no, .inl (cI, 12, .inl nx)), (mo, .inl (cI, 144, .inl ml))] _ := hP
  have hD : va_D A [(pk, .inr (0, [.ref lo, .ref go])), (lo, .inl (cI, 12, .inl (sfill fz lf 0))), (go, .inl (cI, 12, .inl fl)), (pa, .inr (1, [.ref fo, .ref no, .ref mo, .int (nI C), .int (nI R), .int (nI F)])), (fo, .inl (cI, 12, .inl fz)), (no, .inl (cI, 12, .inl nx)), (mo, .inl (cI, 144, .inl ml))] := hD
  refine lv_iconst (v := 0) hx hb dX0_spreadOut_5 (by decide) ?_
  refine lv_istore_n (lv' := [(2, .int 0), (0, .ref pk), (1, .ref pa)]) hx hb dX0_spreadOut_6 rfl hl (by decide) rfl (fun ls hl => ?_)
  refine f_loopW (σ := Nat) (D := D) (A := A) (H0 := s.heap) 3 7 (fun u9 => [(2, .int (nI u9)), (0, .ref pk), (1, .ref pa)]) (fun u9 => [(pk, .inr (0, [.ref lo, .ref go])), (lo, .inl (cI, 12, .inl (sfill fz lf u9))), (go, .inl (cI, 12, .inl fl)), (pa, .inr (1, [.ref fo, .ref no, .ref mo, .int (nI C), .int (nI R), .int (nI F)])), (fo, .inl (cI, 12, .inl fz)), (no, .inl (cI, 12, .inl nx)), (mo, .inl (cI, 144, .inl ml))]) (fun u9 => u9 ≤ 12) (fun u9 => 12 - u9)
      (fun u9 hi_2 ih_1 H locs hP hD hS ls hl => ?_) 0 (by omega) hP hD hS (lv_sub hl [0, 1, 2] rfl)
  obtain ⟨k, rfl⟩ : ∃ z, z = u9 := ⟨_, rfl⟩
  have hi_2 : k ≤ 12 := hi_2
  obtain hk := hi_2
  have hl : lv_has ls 3 [(2, .int (nI k)), (0, .ref pk), (1, .ref pa)] := hl
  have hP : va_P D vwCl [(pk, .inr (0, [.ref lo, .ref go])), (lo, .inl (cI, 12, .inl (sfill fz lf k))), (go, .inl (cI, 12, .inl fl)), (pa, .inr (1, [.ref fo, .ref no, .ref mo, .int (nI C), .int (nI R), .int (nI F)])), (fo, .inl (cI, 12, .inl fz)), (no, .inl (cI, 12, .inl nx)), (mo, .inl (cI, 144, .inl ml))] _ := hP
  have hD : va_D A [(pk, .inr (0, [.ref lo, .ref go])), (lo, .inl (cI, 12, .inl (sfill fz lf k))), (go, .inl (cI, 12, .inl fl)), (pa, .inr (1, [.ref fo, .ref no, .ref mo, .int (nI C), .int (nI R), .int (nI F)])), (fo, .inl (cI, 12, .inl fz)), (no, .inl (cI, 12, .inl nx)), (mo, .inl (cI, 144, .inl ml))] := hD
  refine lv_iload_n hx hb dX0_spreadOut_7 rfl (lv_at hl 0 rfl) ?_
  refine lv_aload_n hx hb dX0_spreadOut_8 rfl (lv_at hl 1 rfl) ?_
  refine va_get (D := D) (ci := 0) (v := .ref lo) (C := RX0) (T := TX0) (N := 2) hx hb hts wb_X0_spreadOut_0 hown hK hP 0 rfl rfl 0 (by decide) (hts _ wi_X0_spreadOut_1) (fun _ h9 => h9) rfl dX0_spreadOut_9 ?_
  refine va_alen (v := 12) hx hb hK hP 1 0 rfl rfl rfl dX0_spreadOut_12 ?_
  refine lv_icmp_ge (tgt := 33) hx hb dX0_spreadOut_13 (by decide) (fun c_3 => ?_) (fun c_3 => ?_)
  · have n_3 : 12 ≤ k := (nI_leI (a := 12) (b := k) (by omega) (by omega)).mp c_3
    obtain ⟨hP, hD⟩ := f_rep (g := fz) hP hD 1 rfl (fun j hj => sfill_lt (by omega))
    have hP : va_P D vwCl [(pk, .inr (0, [.ref lo, .ref go])), (lo, .inl (cI, 12, .inl fz)), (go, .inl (cI, 12, .inl fl)), (pa, .inr (1, [.ref fo, .ref no, .ref mo, .int (nI C), .int (nI R), .int (nI F)])), (fo, .inl (cI, 12, .inl fz)), (no, .inl (cI, 12, .inl nx)), (mo, .inl (cI, 144, .inl ml))] _ := hP
    have hD : va_D A [(pk, .inr (0, [.ref lo, .ref go])), (lo, .inl (cI, 12, .inl fz)), (go, .inl (cI, 12, .inl fl)), (pa, .inr (1, [.ref fo, .ref no, .ref mo, .int (nI C), .int (nI R), .int (nI F)])), (fo, .inl (cI, 12, .inl fz)), (no, .inl (cI, 12, .inl nx)), (mo, .inl (cI, 144, .inl ml))] := hD
    exact f_ret_v hx hb hr hlocks hP hD hS dX0_spreadOut_33
  · have n_3 : k < 12 := Nat.lt_of_not_le (fun h => c_3 ((nI_leI (a := 12) (b := k) (by omega) (by omega)).mpr h))
    refine lv_aload_n hx hb dX0_spreadOut_16 rfl (lv_at hl 1 rfl) ?_
    refine va_get (D := D) (ci := 0) (v := .ref lo) (C := RX0) (T := TX0) (N := 2) hx hb hts wb_X0_spreadOut_0 hown hK hP 0 rfl rfl 0 (by decide) (hts _ wi_X0_spreadOut_1) (fun _ h9 => h9) rfl dX0_spreadOut_17 ?_
    refine lv_iload_n hx hb dX0_spreadOut_20 rfl (lv_at hl 0 rfl) ?_
    refine lv_aload_n hx hb dX0_spreadOut_21 rfl (lv_at hl 2 rfl) ?_
    refine lv_iload_n hx hb dX0_spreadOut_22 rfl (lv_at hl 0 rfl) ?_
    refine f_callVi ⟨hx, hb, hml, hown, hts⟩ hP hD hS hA hK hN [3, 4, 5, 6] (w2 := [(pk, .inr (0, [.ref lo, .ref go])), (lo, .inl (cI, 12, .inl (sfill fz lf k))), (go, .inl (cI, 12, .inl fl)), (pa, .inr (1, [.ref fo, .ref no, .ref mo, .int (nI C), .int (nI R), .int (nI F)])), (fo, .inl (cI, 12, .inl fz)), (no, .inl (cI, 12, .inl nx)), (mo, .inl (cI, 144, .inl ml))])
        (c_X1_bitsOf (l := l) (D := D) (cI := cI) (cZ := cZ) (cP := cP) (cQ := cQ) (sz := _) (pa := pa) (fo := fo) (no := no) (mo := mo) (C := C) (R := R) (F := F) (fz := fz) (nx := nx) (ml := ml) (row := nI k) ) (cwV 1 hts gX0_spreadOut_X1_bitsOf rfl rfl rfl k_X1_bitsOf ⟨Nat.le_of_ble_eq_true rfl, Nat.le_of_ble_eq_true rfl⟩) 3 rfl rfl rfl rfl [pa, fo, no, mo] rfl rfl rfl rfl rfl hl.1 (Nat.le_of_ble_eq_true rfl) dX0_spreadOut_23 ⟨Nat.le_of_ble_eq_true rfl, Nat.le_of_ble_eq_true rfl⟩ (fun H locs hP hD hS => ?_)
    refine f_iast (k := k) hx hb hK hP hD hS 1 0 rfl rfl rfl (by omega) (by first | decide | omega) dX0_spreadOut_26 (fun H locs hP hD hS => ?_)
    have hP : va_P D vwCl [(pk, .inr (0, [.ref lo, .ref go])), (lo, .inl (cI, 12, .inl (upd (sfill fz lf k) k (sp_X1_bitsOf fz (nI k))))), (go, .inl (cI, 12, .inl fl)), (pa, .inr (1, [.ref fo, .ref no, .ref mo, .int (nI C), .int (nI R), .int (nI F)])), (fo, .inl (cI, 12, .inl fz)), (no, .inl (cI, 12, .inl nx)), (mo, .inl (cI, 144, .inl ml))] _ := hP
    have hD : va_D A [(pk, .inr (0, [.ref lo, .ref go])), (lo, .inl (cI, 12, .inl (upd (sfill fz lf k) k (sp_X1_bitsOf fz (nI k))))), (go, .inl (cI, 12, .inl fl)), (pa, .inr (1, [.ref fo, .ref no, .ref mo, .int (nI C), .int (nI R), .int (nI F)])), (fo, .inl (cI, 12, .inl fz)), (no, .inl (cI, 12, .inl nx)), (mo, .inl (cI, 144, .inl ml))] := hD
    obtain ⟨hP, hD⟩ := f_rep (g := sfill fz lf (k + 1)) hP hD 1 rfl (fun j _ => sfill_up (sp_bits_in (by omega)) j)
    have hP : va_P D vwCl [(pk, .inr (0, [.ref lo, .ref go])), (lo, .inl (cI, 12, .inl (sfill fz lf (k + 1)))), (go, .inl (cI, 12, .inl fl)), (pa, .inr (1, [.ref fo, .ref no, .ref mo, .int (nI C), .int (nI R), .int (nI F)])), (fo, .inl (cI, 12, .inl fz)), (no, .inl (cI, 12, .inl nx)), (mo, .inl (cI, 144, .inl ml))] _ := hP
    have hD : va_D A [(pk, .inr (0, [.ref lo, .ref go])), (lo, .inl (cI, 12, .inl (sfill fz lf (k + 1)))), (go, .inl (cI, 12, .inl fl)), (pa, .inr (1, [.ref fo, .ref no, .ref mo, .int (nI C), .int (nI R), .int (nI F)])), (fo, .inl (cI, 12, .inl fz)), (no, .inl (cI, 12, .inl nx)), (mo, .inl (cI, 144, .inl ml))] := hD
    refine lv_iinc (v := nI (k + 1)) (lv' := [(2, .int (nI (k + 1))), (0, .ref pk), (1, .ref pa)]) hx hb dX0_spreadOut_27 hl (k := 0) rfl (nI_1 _) (by decide) rfl (fun ls hl => ?_)
    refine lv_goto (tgt := 7) hx hb dX0_spreadOut_30 (by decide) ?_
    exact ih_1 (k + 1) (by omega) (by first | omega | (simp only []; omega) | (show _ < _; simp only []; omega)) H locs hP hD hS ls (lv_sub hl [0, 1, 2] rfl)

theorem k_X0_flowerIn : yX0_flowerIn.cls = RX0 ∧ yX0_flowerIn.cls ≠ "java/lang/invoke/MethodHandle" ∧ yX0_flowerIn.cls ≠ "java/lang/invoke/VarHandle" ∧ (parseMethodDescriptor yX0_flowerIn.desc).map (fun d => d.parameters.length) = some 1 := by decide +kernel
/-- X0_flowerIn: read off its bytecode -/
def sp_X0_flowerIn (fl : Nat → Int32) (row : Int32) : Int32 := if row < 0 then 0 else (if (12 : Int32) ≤ row then 0 else fl row.toNatClampNeg)
theorem wb_X0_flowerIn_0 : ∀ w ∈ wsX00, w ∈ wsX0_flowerIn := (fun _ h => List.mem_cons_of_mem _ (List.mem_append_right _ h))
theorem wi_X0_flowerIn_1 : (Cond.fieldLink RX0 15 "FrostPane$FlowerPicker" "flower" "[I") ∈ wsX0_flowerIn := List.mem_of_getElem? (i := 1) rfl
set_option maxHeartbeats 4000000 in
set_option maxRecDepth 100000 in
theorem c_X0_flowerIn (l : Launch) (D : va_G) (cI cZ cP cQ : ClassId) (sz : Nat) (pk lo go : Nat) (lf fl : Nat → Int32) (row : Int32)  : f_Mi l yX0_flowerIn wsX0_flowerIn ({ frames := 0, cells := 0, slots := 0, locals := 0 }) D (fTY cI cZ cP cQ) [.ref pk, .int row] sz [(pk, .inr (0, [.ref lo, .ref go])), (lo, .inl (cI, 12, .inl lf)), (go, .inl (cI, 12, .inl fl))] (sp_X0_flowerIn fl row) [(pk, .inr (0, [.ref lo, .ref go])), (lo, .inl (cI, 12, .inl lf)), (go, .inl (cI, 12, .inl fl))] := by
  refine f_ent_i (by decide) rfl (Nat.le_of_ble_eq_true rfl) ?_
  intro pg ev s m below meth cd hx hb hr hts hown hlocks hml hnm hsz hP hK hN A hD hA hS ls hl
  have hown : s.vm.findClass RX0 = some m.cls := hown
  have hl : lv_has ls 2 [(0, .ref pk), (1, .int row)] := hl
  refine lv_iload_n hx hb dX0_flowerIn_0 rfl (lv_at hl 1 rfl) ?_
  refine lv_if_lt (tgt := 22) hx hb dX0_flowerIn_1 (by decide) (fun c_1 => ?_) (fun c_1 => ?_)
  · refine lv_iconst (v := 0) hx hb dX0_flowerIn_22 (by decide) ?_
    exact f_ret_i hx hb hr hlocks hP hD hS dX0_flowerIn_23 (by rw [sp_X0_flowerIn, if_pos c_1])
  · refine lv_iload_n hx hb dX0_flowerIn_4 rfl (lv_at hl 1 rfl) ?_
    refine lv_aload_n hx hb dX0_flowerIn_5 rfl (lv_at hl 0 rfl) ?_
    refine va_get (D := D) (ci := 0) (v := .ref go) (C := RX0) (T := TX0) (N := 2) hx hb hts wb_X0_flowerIn_0 hown hK hP 0 rfl rfl 1 (by decide) (hts _ wi_X0_flowerIn_1) (fun _ h9 => h9) rfl dX0_flowerIn_6 ?_
    refine va_alen (v := 12) hx hb hK hP 2 0 rfl rfl rfl dX0_flowerIn_9 ?_
    refine lv_icmp_ge (tgt := 22) hx hb dX0_flowerIn_10 (by decide) (fun c_2 => ?_) (fun c_2 => ?_)
    · refine lv_iconst (v := 0) hx hb dX0_flowerIn_22 (by decide) ?_
      exact f_ret_i hx hb hr hlocks hP hD hS dX0_flowerIn_23 (by rw [sp_X0_flowerIn, if_neg c_1, if_pos c_2])
    · refine lv_aload_n hx hb dX0_flowerIn_13 rfl (lv_at hl 0 rfl) ?_
      refine va_get (D := D) (ci := 0) (v := .ref go) (C := RX0) (T := TX0) (N := 2) hx hb hts wb_X0_flowerIn_0 hown hK hP 0 rfl rfl 1 (by decide) (hts _ wi_X0_flowerIn_1) (fun _ h9 => h9) rfl dX0_flowerIn_14 ?_
      refine lv_iload_n hx hb dX0_flowerIn_17 rfl (lv_at hl 1 rfl) ?_
      refine va_iald hx hb hK hP 2 0 rfl rfl (f_in (by decide) c_1 c_2) dX0_flowerIn_18 ?_
      refine lv_goto (tgt := 23) hx hb dX0_flowerIn_19 (by decide) ?_
      exact f_ret_i hx hb hr hlocks hP hD hS dX0_flowerIn_23 (by rw [sp_X0_flowerIn, if_neg c_1, if_neg c_2])

/-- FlowerPicker.widen: the flower behind k rows, and whether it is wider -/
def wdv (lf fl : Nat → Int32) (k : Nat) : Int32 := ((((fl k ||| (fl k <<< ((1 : Int32) &&& 31))) ||| (fl k >>> ((1 : Int32) &&& 31))) ||| sp_X0_flowerIn fl (nI k - 1)) ||| sp_X0_flowerIn fl (nI (k + 1))) &&& lf k
def wdn (lf fl : Nat → Int32) : Nat → (Nat → Int32)
  | 0 => fl
  | k + 1 => upd (wdn lf fl k) k (wdv lf (wdn lf fl k) k)
def wdc (lf fl : Nat → Int32) : Nat → Int32
  | 0 => 0
  | k + 1 => if wdc lf fl k = 0 then (if wdv lf (wdn lf fl k) k = wdn lf fl k k then 0 else 1) else 1
theorem wdc_01 (lf fl : Nat → Int32) (k : Nat) : wdc lf fl k = 0 ∨ wdc lf fl k = 1 := by
  cases k with
  | zero => exact Or.inl rfl
  | succ k => unfold wdc; split
              · split <;> simp
              · simp
theorem k_X0_widen : yX0_widen.cls = RX0 ∧ yX0_widen.cls ≠ "java/lang/invoke/MethodHandle" ∧ yX0_widen.cls ≠ "java/lang/invoke/VarHandle" ∧ (parseMethodDescriptor yX0_widen.desc).map (fun d => d.parameters.length) = some 0 := by decide +kernel
theorem wb_X0_widen_0 : ∀ w ∈ wsX00, w ∈ wsX0_widen := (fun _ h => List.mem_cons_of_mem _ (List.mem_append_right _ h))
theorem wi_X0_widen_1 : (Cond.fieldLink RX0 15 "FrostPane$FlowerPicker" "flower" "[I") ∈ wsX0_widen := List.mem_of_getElem? (i := 1) rfl
theorem wi_X0_widen_2 : (Cond.fieldLink RX0 9 "FrostPane$FlowerPicker" "left" "[I") ∈ wsX0_widen := List.mem_of_getElem? (i := 2) rfl
set_option maxHeartbeats 4000000 in
set_option maxRecDepth 100000 in
theorem c_X0_widen (l : Launch) (D : va_G) (cI cZ cP cQ : ClassId) (sz : Nat) (pk lo go : Nat) (lf fl : Nat → Int32)  : f_Mi l yX0_widen wsX0_widen ({ frames := 1, cells := 0, slots := 0, locals := 21 }) D (fTY cI cZ cP cQ) [.ref pk] sz [(pk, .inr (0, [.ref lo, .ref go])), (lo, .inl (cI, 12, .inl lf)), (go, .inl (cI, 12, .inl fl))] (wdc lf fl 12) [(pk, .inr (0, [.ref lo, .ref go])), (lo, .inl (cI, 12, .inl lf)), (go, .inl (cI, 12, .inl (wdn lf fl 12)))] := by
  refine f_ent_i (by decide) rfl (Nat.le_of_ble_eq_true rfl) ?_
  intro pg ev s m below meth cd hx hb hr hts hown hlocks hml hnm hsz hP hK hN A hD hA hS ls hl
  have hown : s.vm.findClass RX0 = some m.cls := hown
  have hl : lv_has ls 5 [(0, .ref pk)] := hl
  refine lv_iconst (v := 0) hx hb dX0_widen_0 (by decide) ?_
  refine lv_istore_n (lv' := [(1, .int 0), (0, .ref pk)]) hx hb dX0_widen_1 rfl hl (by decide) rfl (fun ls hl => ?_)
  refine lv_iconst (v := 0) hx hb dX0_widen_2 (by decide) ?_
  refine lv_istore_n (lv' := [(2, .int 0), (1, .int 0), (0, .ref pk)]) hx hb dX0_widen_3 rfl hl (by decide) rfl (fun ls hl => ?_)
  refine f_loopW (σ := Nat) (D := D) (A := A) (H0 := s.heap) 5 4 (fun u9 => [(2, .int (nI u9)), (1, .int (wdc lf fl u9)), (0, .ref pk)]) (fun u9 => [(pk, .inr (0, [.ref lo, .ref go])), (lo, .inl (cI, 12, .inl lf)), (go, .inl (cI, 12, .inl (wdn lf fl u9)))]) (fun u9 => u9 ≤ 12) (fun u9 => 12 - u9)
      (fun u9 hi_2 ih_1 H locs hP hD hS ls hl => ?_) 0 (by omega) hP hD hS (lv_sub hl [0, 1, 2] rfl)
  obtain ⟨k, rfl⟩ : ∃ z, z = u9 := ⟨_, rfl⟩
  have hi_2 : k ≤ 12 := hi_2
  obtain hk := hi_2
  have hl : lv_has ls 5 [(2, .int (nI k)), (1, .int (wdc lf fl k)), (0, .ref pk)] := hl
  have hP : va_P D vwCl [(pk, .inr (0, [.ref lo, .ref go])), (lo, .inl (cI, 12, .inl lf)), (go, .inl (cI, 12, .inl (wdn lf fl k)))] _ := hP
  have hD : va_D A [(pk, .inr (0, [.ref lo, .ref go])), (lo, .inl (cI, 12, .inl lf)), (go, .inl (cI, 12, .inl (wdn lf fl k)))] := hD
  refine lv_iload_n hx hb dX0_widen_4 rfl (lv_at hl 0 rfl) ?_
  refine lv_aload_n hx hb dX0_widen_5 rfl (lv_at hl 2 rfl) ?_
  refine va_get (D := D) (ci := 0) (v := .ref go) (C := RX0) (T := TX0) (N := 2) hx hb hts wb_X0_widen_0 hown hK hP 0 rfl rfl 1 (by decide) (hts _ wi_X0_widen_1) (fun _ h9 => h9) rfl dX0_widen_6 ?_
  refine va_alen (v := 12) hx hb hK hP 2 0 rfl rfl rfl dX0_widen_9 ?_
  refine lv_icmp_ge (tgt := 97) hx hb dX0_widen_10 (by decide) (fun c_3 => ?_) (fun c_3 => ?_)
  · have n_3 : 12 ≤ k := (nI_leI (a := 12) (b := k) (by omega) (by omega)).mp c_3
    refine lv_iload_n hx hb dX0_widen_97 rfl (lv_at hl 1 rfl) ?_
    obtain ⟨hP, hD⟩ := f_rep (g := wdn lf fl 12) hP hD 2 rfl (fun j _ => by rw [show k = 12 by omega])
    have hP : va_P D vwCl [(pk, .inr (0, [.ref lo, .ref go])), (lo, .inl (cI, 12, .inl lf)), (go, .inl (cI, 12, .inl (wdn lf fl 12)))] _ := hP
    have hD : va_D A [(pk, .inr (0, [.ref lo, .ref go])), (lo, .inl (cI, 12, .inl lf)), (go, .inl (cI, 12, .inl (wdn lf fl 12)))] := hD
    exact f_ret_z hx hb hr hlocks hP hD hS dX0_widen_98 (by rw [show k = 12 by omega]) (by rcases wdc_01 lf fl 12 with h | h <;> rw [h] <;> rfl)
  · have n_3 : k < 12 := Nat.lt_of_not_le (fun h => c_3 ((nI_leI (a := 12) (b := k) (by omega) (by omega)).mpr h))
    refine lv_iload_n hx hb dX0_widen_13 rfl (lv_at hl 0 rfl) ?_
    refine lv_aload_n hx hb dX0_widen_14 rfl (lv_at hl 2 rfl) ?_
    refine va_get (D := D) (ci := 0) (v := .ref lo) (C := RX0) (T := TX0) (N := 2) hx hb hts wb_X0_widen_0 hown hK hP 0 rfl rfl 0 (by decide) (hts _ wi_X0_widen_2) (fun _ h9 => h9) rfl dX0_widen_15 ?_
    refine va_alen (v := 12) hx hb hK hP 1 0 rfl rfl rfl dX0_widen_18 ?_
    refine lv_icmp_ge (tgt := 97) hx hb dX0_widen_19 (by decide) (fun c_4 => ?_) (fun c_4 => ?_)
    · have n_4 : 12 ≤ k := (nI_leI (a := 12) (b := k) (by omega) (by omega)).mp c_4
      exfalso; omega
    · have n_4 : k < 12 := Nat.lt_of_not_le (fun h => c_4 ((nI_leI (a := 12) (b := k) (by omega) (by omega)).mpr h))
      refine lv_aload_n hx hb dX0_widen_22 rfl (lv_at hl 2 rfl) ?_
      refine va_get (D := D) (ci := 0) (v := .ref go) (C := RX0) (T := TX0) (N := 2) hx hb hts wb_X0_widen_0 hown hK hP 0 rfl rfl 1 (by decide) (hts _ wi_X0_widen_1) (fun _ h9 => h9) rfl dX0_widen_23 ?_
      refine lv_iload_n hx hb dX0_widen_26 rfl (lv_at hl 0 rfl) ?_
      refine f_iald (k := k) hx hb hK hP 2 0 rfl rfl rfl (by omega) (by first | decide | omega) dX0_widen_27 ?_
      refine lv_istore_n (lv' := [(3, .int ((wdn lf fl k) k)), (2, .int (nI k)), (1, .int (wdc lf fl k)), (0, .ref pk)]) hx hb dX0_widen_28 rfl hl (by decide) rfl (fun ls hl => ?_)
      refine lv_iload_n hx hb dX0_widen_29 rfl (lv_at hl 0 rfl) ?_
      refine lv_iload_n hx hb dX0_widen_30 rfl (lv_at hl 0 rfl) ?_
      refine lv_iconst (v := 1) hx hb dX0_widen_31 (by decide) ?_
      refine lv_ishl hx hb dX0_widen_32 ?_
      refine lv_ior hx hb dX0_widen_33 ?_
      refine lv_iload_n hx hb dX0_widen_34 rfl (lv_at hl 0 rfl) ?_
      refine lv_iconst (v := 1) hx hb dX0_widen_35 (by decide) ?_
      refine lv_ishr hx hb dX0_widen_36 ?_
      refine lv_ior hx hb dX0_widen_37 ?_
      refine lv_aload_n hx hb dX0_widen_38 rfl (lv_at hl 3 rfl) ?_
      refine lv_iload_n hx hb dX0_widen_39 rfl (lv_at hl 1 rfl) ?_
      refine lv_iconst (v := 1) hx hb dX0_widen_40 (by decide) ?_
      refine lv_isub hx hb dX0_widen_41 ?_
      refine f_callVi ⟨hx, hb, hml, hown, hts⟩ hP hD hS hA hK hN [0, 1, 2] (w2 := [(pk, .inr (0, [.ref lo, .ref go])), (lo, .inl (cI, 12, .inl lf)), (go, .inl (cI, 12, .inl (wdn lf fl k)))])
          (c_X0_flowerIn (l := l) (D := D) (cI := cI) (cZ := cZ) (cP := cP) (cQ := cQ) (sz := _) (pk := pk) (lo := lo) (go := go) (lf := lf) (fl := wdn lf fl k) (row := (nI k) - 1) ) (cwV 1 hts gX0_widen_X0_flowerIn rfl rfl rfl k_X0_flowerIn ⟨Nat.le_of_ble_eq_true rfl, Nat.le_of_ble_eq_true rfl⟩) 0 rfl rfl rfl rfl [pk, lo, go] rfl rfl rfl rfl rfl hl.1 (Nat.le_of_ble_eq_true rfl) dX0_widen_42 ⟨Nat.le_of_ble_eq_true rfl, Nat.le_of_ble_eq_true rfl⟩ (fun H locs hP hD hS => ?_)
      refine lv_ior hx hb dX0_widen_45 ?_
      refine lv_aload_n hx hb dX0_widen_46 rfl (lv_at hl 3 rfl) ?_
      refine lv_iload_n hx hb dX0_widen_47 rfl (lv_at hl 1 rfl) ?_
      refine lv_iconst (v := 1) hx hb dX0_widen_48 (by decide) ?_
      refine lv_iadd hx hb dX0_widen_49 ?_
      refine f_topi (y := nI (k + 1)) (nI_add k 1) ?_
      refine f_callVi ⟨hx, hb, hml, hown, hts⟩ hP hD hS hA hK hN [0, 1, 2] (w2 := [(pk, .inr (0, [.ref lo, .ref go])), (lo, .inl (cI, 12, .inl lf)), (go, .inl (cI, 12, .inl (wdn lf fl k)))])
          (c_X0_flowerIn (l := l) (D := D) (cI := cI) (cZ := cZ) (cP := cP) (cQ := cQ) (sz := _) (pk := pk) (lo := lo) (go := go) (lf := lf) (fl := wdn lf fl k) (row := nI (k + 1)) ) (cwV 1 hts gX0_widen_X0_flowerIn rfl rfl rfl k_X0_flowerIn ⟨Nat.le_of_ble_eq_true rfl, Nat.le_of_ble_eq_true rfl⟩) 0 rfl rfl rfl rfl [pk, lo, go] rfl rfl rfl rfl rfl hl.1 (Nat.le_of_ble_eq_true rfl) dX0_widen_50 ⟨Nat.le_of_ble_eq_true rfl, Nat.le_of_ble_eq_true rfl⟩ (fun H locs hP hD hS => ?_)
      refine lv_ior hx hb dX0_widen_53 ?_
      refine lv_istore (lv' := [(4, .int ((((((wdn lf fl k) k) ||| (((wdn lf fl k) k) <<< ((1 : Int32) &&& 31))) ||| (((wdn lf fl k) k) >>> ((1 : Int32) &&& 31))) ||| (sp_X0_flowerIn (wdn lf fl k) ((nI k) - 1))) ||| (sp_X0_flowerIn (wdn lf fl k) (nI (k + 1))))), (3, .int ((wdn lf fl k) k)), (2, .int (nI k)), (1, .int (wdc lf fl k)), (0, .ref pk)]) hx hb dX0_widen_54 hl (by decide) rfl (fun ls hl => ?_)
      refine lv_aload_n hx hb dX0_widen_56 rfl (lv_at hl 4 rfl) ?_
      refine va_get (D := D) (ci := 0) (v := .ref go) (C := RX0) (T := TX0) (N := 2) hx hb hts wb_X0_widen_0 hown hK hP 0 rfl rfl 1 (by decide) (hts _ wi_X0_widen_1) (fun _ h9 => h9) rfl dX0_widen_57 ?_
      refine lv_iload_n hx hb dX0_widen_60 rfl (lv_at hl 2 rfl) ?_
      refine lv_iload hx hb dX0_widen_61 (lv_at hl 0 rfl) ?_
      refine lv_aload_n hx hb dX0_widen_63 rfl (lv_at hl 4 rfl) ?_
      refine va_get (D := D) (ci := 0) (v := .ref lo) (C := RX0) (T := TX0) (N := 2) hx hb hts wb_X0_widen_0 hown hK hP 0 rfl rfl 0 (by decide) (hts _ wi_X0_widen_2) (fun _ h9 => h9) rfl dX0_widen_64 ?_
      refine lv_iload_n hx hb dX0_widen_67 rfl (lv_at hl 2 rfl) ?_
      refine f_iald (k := k) hx hb hK hP 1 0 rfl rfl rfl (by omega) (by first | decide | omega) dX0_widen_68 ?_
      refine lv_iand hx hb dX0_widen_69 ?_
      refine f_topi (y := wdv lf (wdn lf fl k) k) (rfl) ?_
      refine f_iast (k := k) hx hb hK hP hD hS 2 0 rfl rfl rfl (by omega) (by first | decide | omega) dX0_widen_70 (fun H locs hP hD hS => ?_)
      have hP : va_P D vwCl [(pk, .inr (0, [.ref lo, .ref go])), (lo, .inl (cI, 12, .inl lf)), (go, .inl (cI, 12, .inl (upd (wdn lf fl k) k (wdv lf (wdn lf fl k) k))))] _ := hP
      have hD : va_D A [(pk, .inr (0, [.ref lo, .ref go])), (lo, .inl (cI, 12, .inl lf)), (go, .inl (cI, 12, .inl (upd (wdn lf fl k) k (wdv lf (wdn lf fl k) k))))] := hD
      refine f_joinW (nL := 5) 90 [(4, .int ((((((wdn lf fl k) k) ||| (((wdn lf fl k) k) <<< ((1 : Int32) &&& 31))) ||| (((wdn lf fl k) k) >>> ((1 : Int32) &&& 31))) ||| (sp_X0_flowerIn (wdn lf fl k) ((nI k) - 1))) ||| (sp_X0_flowerIn (wdn lf fl k) (nI (k + 1))))), (3, .int ((wdn lf fl k) k)), (2, .int (nI k)), (1, .int (wdc lf fl k)), (0, .ref pk)] [.int (if (wdc lf fl k) = 0 then if (wdv lf (wdn lf fl k) k) = ((wdn lf fl k) k) then (0 : Int32) else 1 else 1)] (fun ls hl => ?_) (fun j_5 => ?_)
      · refine lv_istore_n (lv' := [(1, .int (if (wdc lf fl k) = 0 then if (wdv lf (wdn lf fl k) k) = ((wdn lf fl k) k) then (0 : Int32) else 1 else 1)), (4, .int ((((((wdn lf fl k) k) ||| (((wdn lf fl k) k) <<< ((1 : Int32) &&& 31))) ||| (((wdn lf fl k) k) >>> ((1 : Int32) &&& 31))) ||| (sp_X0_flowerIn (wdn lf fl k) ((nI k) - 1))) ||| (sp_X0_flowerIn (wdn lf fl k) (nI (k + 1))))), (3, .int ((wdn lf fl k) k)), (2, .int (nI k)), (0, .ref pk)]) hx hb dX0_widen_90 rfl hl (by decide) rfl (fun ls hl => ?_)
        refine lv_iinc (v := nI (k + 1)) (lv' := [(2, .int (nI (k + 1))), (1, .int (if (wdc lf fl k) = 0 then if (wdv lf (wdn lf fl k) k) = ((wdn lf fl k) k) then (0 : Int32) else 1 else 1)), (4, .int ((((((wdn lf fl k) k) ||| (((wdn lf fl k) k) <<< ((1 : Int32) &&& 31))) ||| (((wdn lf fl k) k) >>> ((1 : Int32) &&& 31))) ||| (sp_X0_flowerIn (wdn lf fl k) ((nI k) - 1))) ||| (sp_X0_flowerIn (wdn lf fl k) (nI (k + 1))))), (3, .int ((wdn lf fl k) k)), (0, .ref pk)]) hx hb dX0_widen_91 hl (k := 3) rfl (nI_1 _) (by decide) rfl (fun ls hl => ?_)
        refine lv_goto (tgt := 4) hx hb dX0_widen_94 (by decide) ?_
        exact ih_1 (k + 1) (by omega) (by first | omega | (simp only []; omega) | (show _ < _; simp only []; omega)) H locs hP hD hS ls (lv_sub hl [0, 1, 4] rfl)
      refine lv_iload_n hx hb dX0_widen_71 rfl (lv_at hl 3 rfl) ?_
      refine lv_if_ne (tgt := 85) hx hb dX0_widen_72 (by decide) (fun c_6 => ?_) (fun c_6 => ?_)
      · refine lv_iconst (v := 1) hx hb dX0_widen_85 (by decide) ?_
        refine lv_goto (tgt := 90) hx hb dX0_widen_86 (by decide) ?_
        refine f_topi (y := if (wdc lf fl k) = 0 then if (wdv lf (wdn lf fl k) k) = ((wdn lf fl k) k) then (0 : Int32) else 1 else 1) (by rw [if_neg c_6]) ?_
        exact j_5 ls (lv_sub hl [0, 1, 2, 3, 4] rfl)
      · refine lv_aload_n hx hb dX0_widen_75 rfl (lv_at hl 4 rfl) ?_
        refine va_get (D := D) (ci := 0) (v := .ref go) (C := RX0) (T := TX0) (N := 2) hx hb hts wb_X0_widen_0 hown hK hP 0 rfl rfl 1 (by decide) (hts _ wi_X0_widen_1) (fun _ h9 => h9) rfl dX0_widen_76 ?_
        refine lv_iload_n hx hb dX0_widen_79 rfl (lv_at hl 2 rfl) ?_
        refine f_iald (k := k) hx hb hK hP 2 0 rfl rfl rfl (by omega) (by first | decide | omega) dX0_widen_80 ?_
        refine f_topi (y := wdv lf (wdn lf fl k) k) (pk_us) ?_
        refine lv_iload_n hx hb dX0_widen_81 rfl (lv_at hl 1 rfl) ?_
        refine lv_icmp_eq (tgt := 89) hx hb dX0_widen_82 (by decide) (fun c_7 => ?_) (fun c_7 => ?_)
        · refine lv_iconst (v := 0) hx hb dX0_widen_89 (by decide) ?_
          refine f_topi (y := if (wdc lf fl k) = 0 then if (wdv lf (wdn lf fl k) k) = ((wdn lf fl k) k) then (0 : Int32) else 1 else 1) (by rw [if_pos c_6, if_pos c_7]) ?_
          exact j_5 ls (lv_sub hl [0, 1, 2, 3, 4] rfl)
        · refine lv_iconst (v := 1) hx hb dX0_widen_85 (by decide) ?_
          refine lv_goto (tgt := 90) hx hb dX0_widen_86 (by decide) ?_
          refine f_topi (y := if (wdc lf fl k) = 0 then if (wdv lf (wdn lf fl k) k) = ((wdn lf fl k) k) then (0 : Int32) else 1 else 1) (by rw [if_pos c_6, if_neg c_7]) ?_
          exact j_5 ls (lv_sub hl [0, 1, 2, 3, 4] rfl)

/-- FlowerPicker.takeAway -/
def tac (fl : Nat → Int32) : Nat → Int32
  | 0 => 0
  | k + 1 => tac fl k + bc (fl k)
def taL (lf fl : Nat → Int32) : Nat → Int32 := fun j => lf j &&& (fl j ^^^ (-1))
theorem k_X0_takeAway : yX0_takeAway.cls = RX0 ∧ yX0_takeAway.cls ≠ "java/lang/invoke/MethodHandle" ∧ yX0_takeAway.cls ≠ "java/lang/invoke/VarHandle" ∧ (parseMethodDescriptor yX0_takeAway.desc).map (fun d => d.parameters.length) = some 0 := by decide +kernel
theorem wb_X0_takeAway_0 : ∀ w ∈ wsX00, w ∈ wsX0_takeAway := (fun _ h => List.mem_cons_of_mem _ (List.mem_append_right _ h))
theorem wi_X0_takeAway_1 : (Cond.fieldLink RX0 15 "FrostPane$FlowerPicker" "flower" "[I") ∈ wsX0_takeAway := List.mem_of_getElem? (i := 1) rfl
theorem wi_X0_takeAway_2 : (Cond.fieldLink RX0 9 "FrostPane$FlowerPicker" "left" "[I") ∈ wsX0_takeAway := List.mem_of_getElem? (i := 2) rfl
set_option maxHeartbeats 4000000 in
set_option maxRecDepth 100000 in
theorem c_X0_takeAway (l : Launch) (D : va_G) (cI cZ cP cQ : ClassId) (sz : Nat) (pk lo go : Nat) (lf fl : Nat → Int32)  : f_Mi l yX0_takeAway wsX0_takeAway ({ frames := 1, cells := 0, slots := 0, locals := 20 }) D (fTY cI cZ cP cQ) [.ref pk] sz [(pk, .inr (0, [.ref lo, .ref go])), (lo, .inl (cI, 12, .inl lf)), (go, .inl (cI, 12, .inl fl))] (tac fl 12) [(pk, .inr (0, [.ref lo, .ref go])), (lo, .inl (cI, 12, .inl (taL lf fl))), (go, .inl (cI, 12, .inl fl))] := by
  refine f_ent_i (by decide) rfl (Nat.le_of_ble_eq_true rfl) ?_
  intro pg ev s m below meth cd hx hb hr hts hown hlocks hml hnm hsz hP hK hN A hD hA hS ls hl
  have hown : s.vm.findClass RX0 = some m.cls := hown
  have hl : lv_has ls 3 [(0, .ref pk)] := hl
  refine lv_iconst (v := 0) hx hb dX0_takeAway_0 (by decide) ?_
  refine lv_istore_n (lv' := [(1, .int 0), (0, .ref pk)]) hx hb dX0_takeAway_1 rfl hl (by decide) rfl (fun ls hl => ?_)
  obtain ⟨hP, hD⟩ := f_rep (g := sfill (taL lf fl) lf 0) hP hD 1 rfl (fun j _ => sfill_0 _ _ j)
  have hP : va_P D vwCl [(pk, .inr (0, [.ref lo, .ref go])), (lo, .inl (cI, 12, .inl (sfill (taL lf fl) lf 0))), (go, .inl (cI, 12, .inl fl))] _ := hP
  have hD : va_D A [(pk, .inr (0, [.ref lo, .ref go])), (lo, .inl (cI, 12, .inl (sfill (taL lf fl) lf 0))), (go, .inl (cI, 12, .inl fl))] := hD
  refine lv_iconst (v := 0) hx hb dX0_takeAway_2 (by decide) ?_
  refine lv_istore_n (lv' := [(2, .int 0), (1, .int 0), (0, .ref pk)]) hx hb dX0_takeAway_3 rfl hl (by decide) rfl (fun ls hl => ?_)
  refine f_loopW (σ := Nat) (D := D) (A := A) (H0 := s.heap) 3 4 (fun u9 => [(2, .int (nI u9)), (1, .int (tac fl u9)), (0, .ref pk)]) (fun u9 => [(pk, .inr (0, [.ref lo, .ref go])), (lo, .inl (cI, 12, .inl (sfill (taL lf fl) lf u9))), (go, .inl (cI, 12, .inl fl))]) (fun u9 => u9 ≤ 12) (fun u9 => 12 - u9)
      (fun u9 hi_2 ih_1 H locs hP hD hS ls hl => ?_) 0 (by omega) hP hD hS (lv_sub hl [0, 1, 2] rfl)
  obtain ⟨k, rfl⟩ : ∃ z, z = u9 := ⟨_, rfl⟩
  have hi_2 : k ≤ 12 := hi_2
  obtain hk := hi_2
  have hl : lv_has ls 3 [(2, .int (nI k)), (1, .int (tac fl k)), (0, .ref pk)] := hl
  have hP : va_P D vwCl [(pk, .inr (0, [.ref lo, .ref go])), (lo, .inl (cI, 12, .inl (sfill (taL lf fl) lf k))), (go, .inl (cI, 12, .inl fl))] _ := hP
  have hD : va_D A [(pk, .inr (0, [.ref lo, .ref go])), (lo, .inl (cI, 12, .inl (sfill (taL lf fl) lf k))), (go, .inl (cI, 12, .inl fl))] := hD
  refine lv_iload_n hx hb dX0_takeAway_4 rfl (lv_at hl 0 rfl) ?_
  refine lv_aload_n hx hb dX0_takeAway_5 rfl (lv_at hl 2 rfl) ?_
  refine va_get (D := D) (ci := 0) (v := .ref go) (C := RX0) (T := TX0) (N := 2) hx hb hts wb_X0_takeAway_0 hown hK hP 0 rfl rfl 1 (by decide) (hts _ wi_X0_takeAway_1) (fun _ h9 => h9) rfl dX0_takeAway_6 ?_
  refine va_alen (v := 12) hx hb hK hP 2 0 rfl rfl rfl dX0_takeAway_9 ?_
  refine lv_icmp_ge (tgt := 57) hx hb dX0_takeAway_10 (by decide) (fun c_3 => ?_) (fun c_3 => ?_)
  · have n_3 : 12 ≤ k := (nI_leI (a := 12) (b := k) (by omega) (by omega)).mp c_3
    refine lv_iload_n hx hb dX0_takeAway_57 rfl (lv_at hl 1 rfl) ?_
    obtain ⟨hP, hD⟩ := f_rep (g := taL lf fl) hP hD 1 rfl (fun j hj => sfill_lt (by omega))
    have hP : va_P D vwCl [(pk, .inr (0, [.ref lo, .ref go])), (lo, .inl (cI, 12, .inl (taL lf fl))), (go, .inl (cI, 12, .inl fl))] _ := hP
    have hD : va_D A [(pk, .inr (0, [.ref lo, .ref go])), (lo, .inl (cI, 12, .inl (taL lf fl))), (go, .inl (cI, 12, .inl fl))] := hD
    exact f_ret_i hx hb hr hlocks hP hD hS dX0_takeAway_58 (by rw [show k = 12 by omega])
  · have n_3 : k < 12 := Nat.lt_of_not_le (fun h => c_3 ((nI_leI (a := 12) (b := k) (by omega) (by omega)).mpr h))
    refine lv_iload_n hx hb dX0_takeAway_13 rfl (lv_at hl 0 rfl) ?_
    refine lv_aload_n hx hb dX0_takeAway_14 rfl (lv_at hl 2 rfl) ?_
    refine va_get (D := D) (ci := 0) (v := .ref lo) (C := RX0) (T := TX0) (N := 2) hx hb hts wb_X0_takeAway_0 hown hK hP 0 rfl rfl 0 (by decide) (hts _ wi_X0_takeAway_2) (fun _ h9 => h9) rfl dX0_takeAway_15 ?_
    refine va_alen (v := 12) hx hb hK hP 1 0 rfl rfl rfl dX0_takeAway_18 ?_
    refine lv_icmp_ge (tgt := 57) hx hb dX0_takeAway_19 (by decide) (fun c_4 => ?_) (fun c_4 => ?_)
    · have n_4 : 12 ≤ k := (nI_leI (a := 12) (b := k) (by omega) (by omega)).mp c_4
      exfalso; omega
    · have n_4 : k < 12 := Nat.lt_of_not_le (fun h => c_4 ((nI_leI (a := 12) (b := k) (by omega) (by omega)).mpr h))
      refine lv_iload_n hx hb dX0_takeAway_22 rfl (lv_at hl 1 rfl) ?_
      refine lv_aload_n hx hb dX0_takeAway_23 rfl (lv_at hl 2 rfl) ?_
      refine va_get (D := D) (ci := 0) (v := .ref go) (C := RX0) (T := TX0) (N := 2) hx hb hts wb_X0_takeAway_0 hown hK hP 0 rfl rfl 1 (by decide) (hts _ wi_X0_takeAway_1) (fun _ h9 => h9) rfl dX0_takeAway_24 ?_
      refine lv_iload_n hx hb dX0_takeAway_27 rfl (lv_at hl 0 rfl) ?_
      refine f_iald (k := k) hx hb hK hP 2 0 rfl rfl rfl (by omega) (by first | decide | omega) dX0_takeAway_28 ?_
      refine f_callSi ⟨hx, hb, hml, hown, hts⟩ hP hD hS hA hK hN [] (w2 := [(pk, .inr (0, [.ref lo, .ref go])), (lo, .inl (cI, 12, .inl (sfill (taL lf fl) lf k))), (go, .inl (cI, 12, .inl fl))])
          (c_J6_bitCount_0f7a4 (l := l) (D := D) (cI := cI) (cZ := cZ) (cP := cP) (cQ := cQ) (sz := _) (x := fl k) ) (va_cwS 1 hts gX0_takeAway_J6_bitCount_0f7a4 rfl rfl rfl k_J6_bitCount_0f7a4.2 ⟨Nat.le_of_ble_eq_true rfl, Nat.le_of_ble_eq_true rfl⟩) rfl rfl [] rfl rfl rfl rfl rfl hl.1 (Nat.le_of_ble_eq_true rfl) dX0_takeAway_29 ⟨Nat.le_of_ble_eq_true rfl, Nat.le_of_ble_eq_true rfl⟩ (fun H locs hP hD hS => ?_)
      refine lv_iadd hx hb dX0_takeAway_32 ?_
      refine lv_istore_n (lv' := [(1, .int ((tac fl k) + (bc (fl k)))), (2, .int (nI k)), (0, .ref pk)]) hx hb dX0_takeAway_33 rfl hl (by decide) rfl (fun ls hl => ?_)
      refine lv_aload_n hx hb dX0_takeAway_34 rfl (lv_at hl 2 rfl) ?_
      refine va_get (D := D) (ci := 0) (v := .ref lo) (C := RX0) (T := TX0) (N := 2) hx hb hts wb_X0_takeAway_0 hown hK hP 0 rfl rfl 0 (by decide) (hts _ wi_X0_takeAway_2) (fun _ h9 => h9) rfl dX0_takeAway_35 ?_
      refine lv_iload_n hx hb dX0_takeAway_38 rfl (lv_at hl 1 rfl) ?_
      refine lv_dup2_11 hx hb dX0_takeAway_39 rfl rfl ?_
      refine f_iald (k := k) hx hb hK hP 1 0 rfl rfl rfl (by omega) (by first | decide | omega) dX0_takeAway_40 ?_
      refine f_topi (y := lf k) (sfill_at _ _ _) ?_
      refine lv_aload_n hx hb dX0_takeAway_41 rfl (lv_at hl 2 rfl) ?_
      refine va_get (D := D) (ci := 0) (v := .ref go) (C := RX0) (T := TX0) (N := 2) hx hb hts wb_X0_takeAway_0 hown hK hP 0 rfl rfl 1 (by decide) (hts _ wi_X0_takeAway_1) (fun _ h9 => h9) rfl dX0_takeAway_42 ?_
      refine lv_iload_n hx hb dX0_takeAway_45 rfl (lv_at hl 1 rfl) ?_
      refine f_iald (k := k) hx hb hK hP 2 0 rfl rfl rfl (by omega) (by first | decide | omega) dX0_takeAway_46 ?_
      refine lv_iconst (v := (-1)) hx hb dX0_takeAway_47 (by decide) ?_
      refine lv_ixor hx hb dX0_takeAway_48 ?_
      refine lv_iand hx hb dX0_takeAway_49 ?_
      refine f_iast (k := k) hx hb hK hP hD hS 1 0 rfl rfl rfl (by omega) (by first | decide | omega) dX0_takeAway_50 (fun H locs hP hD hS => ?_)
      have hP : va_P D vwCl [(pk, .inr (0, [.ref lo, .ref go])), (lo, .inl (cI, 12, .inl (upd (sfill (taL lf fl) lf k) k ((lf k) &&& ((fl k) ^^^ (-1)))))), (go, .inl (cI, 12, .inl fl))] _ := hP
      have hD : va_D A [(pk, .inr (0, [.ref lo, .ref go])), (lo, .inl (cI, 12, .inl (upd (sfill (taL lf fl) lf k) k ((lf k) &&& ((fl k) ^^^ (-1)))))), (go, .inl (cI, 12, .inl fl))] := hD
      obtain ⟨hP, hD⟩ := f_rep (g := sfill (taL lf fl) lf (k + 1)) hP hD 1 rfl (fun j _ => sfill_up rfl j)
      have hP : va_P D vwCl [(pk, .inr (0, [.ref lo, .ref go])), (lo, .inl (cI, 12, .inl (sfill (taL lf fl) lf (k + 1)))), (go, .inl (cI, 12, .inl fl))] _ := hP
      have hD : va_D A [(pk, .inr (0, [.ref lo, .ref go])), (lo, .inl (cI, 12, .inl (sfill (taL lf fl) lf (k + 1)))), (go, .inl (cI, 12, .inl fl))] := hD
      refine lv_iinc (v := nI (k + 1)) (lv' := [(2, .int (nI (k + 1))), (1, .int ((tac fl k) + (bc (fl k)))), (0, .ref pk)]) hx hb dX0_takeAway_51 hl (k := 1) rfl (nI_1 _) (by decide) rfl (fun ls hl => ?_)
      refine lv_goto (tgt := 4) hx hb dX0_takeAway_54 (by decide) ?_
      exact ih_1 (k + 1) (by omega) (by first | omega | (simp only []; omega) | (show _ < _; simp only []; omega)) H locs hP hD hS ls (lv_sub hl [0, 1, 2] rfl)

/-- FlowerPicker.pick: the flower that a cell is spread to, in n passes at most -/
def pkg (lf : Nat → Int32) : Nat → (Nat → Int32) → (Nat → Int32)
  | 0, fl => fl
  | n + 1, fl => if wdc lf fl 12 = 0 then wdn lf fl 12 else pkg lf n (wdn lf fl 12)
/-- the flower's first cell -/
def pk1 (c r : Nat) : Nat → Int32 := upd (fun _ => 0) r ((1 : Int32) <<< (nI c &&& 31))
def pkF (lf : Nat → Int32) (c r : Nat) : Nat → Int32 := pkg lf 144 (pk1 c r)
def pkc (lf : Nat → Int32) (c r : Nat) : Prop := ((lf r >>> (nI c &&& 31)) &&& 1) = 0
theorem pkg_end {lf g : Nat → Int32} {n : Nat} (h : wdc lf g 12 = 0) : pkg lf (n + 1) g = wdn lf g 12 := by rw [pkg, if_pos h]
theorem pkg_more {lf g : Nat → Int32} {n : Nat} (h : ¬ wdc lf g 12 = 0) : pkg lf (n + 1) g = pkg lf n (wdn lf g 12) := by rw [pkg, if_neg h]
theorem k_X0_pick : yX0_pick.cls = RX0 ∧ yX0_pick.cls ≠ "java/lang/invoke/MethodHandle" ∧ yX0_pick.cls ≠ "java/lang/invoke/VarHandle" ∧ (parseMethodDescriptor yX0_pick.desc).map (fun d => d.parameters.length) = some 2 := by decide +kernel
theorem wb_X0_pick_0 : ∀ w ∈ wsX00, w ∈ wsX0_pick := (fun _ h => List.mem_cons_of_mem _ (List.mem_append_right _ h))
theorem wi_X0_pick_1 : (Cond.fieldLink RX0 9 "FrostPane$FlowerPicker" "left" "[I") ∈ wsX0_pick := List.mem_of_getElem? (i := 1) rfl
theorem wi_X0_pick_2 : (Cond.fieldLink RX0 15 "FrostPane$FlowerPicker" "flower" "[I") ∈ wsX0_pick := List.mem_of_getElem? (i := 2) rfl
set_option maxHeartbeats 4000000 in
set_option maxRecDepth 100000 in
theorem c_X0_pick (l : Launch) (D : va_G) (cI cZ cP cQ : ClassId) (sz : Nat) (pk lo go : Nat) (lf fl : Nat → Int32) (c r : Nat) (hr0 : r < 12) (hno : ((lf r >>> (nI c &&& 31)) &&& 1) = 0) : f_Mi l yX0_pick wsX0_pick ({ frames := 2, cells := 0, slots := 0, locals := 45 }) D (fTY cI cZ cP cQ) [.ref pk, .int (nI c), .int (nI r)] sz [(pk, .inr (0, [.ref lo, .ref go])), (lo, .inl (cI, 12, .inl lf)), (go, .inl (cI, 12, .inl fl))] (0) [(pk, .inr (0, [.ref lo, .ref go])), (lo, .inl (cI, 12, .inl lf)), (go, .inl (cI, 12, .inl fl))] := by
  refine f_ent_i (by decide) rfl (Nat.le_of_ble_eq_true rfl) ?_
  intro pg ev s m below meth cd hx hb hr hts hown hlocks hml hnm hsz hP hK hN A hD hA hS ls hl
  have hown : s.vm.findClass RX0 = some m.cls := hown
  have hl : lv_has ls 4 [(0, .ref pk), (1, .int (nI c)), (2, .int (nI r))] := hl
  refine lv_iload_n hx hb dX0_pick_0 rfl (lv_at hl 2 rfl) ?_
  refine lv_if_lt (tgt := 35) hx hb dX0_pick_1 (by decide) (fun c_1 => ?_) (fun c_1 => ?_)
  · have n_1 : r < 0 := (nI_ltI (a := r) (b := 0) (by omega) (by omega)).mp c_1
    exfalso; omega
  · have n_1 : 0 ≤ r := Nat.le_of_not_lt (fun h => c_1 ((nI_ltI (a := r) (b := 0) (by omega) (by omega)).mpr h))
    refine lv_iload_n hx hb dX0_pick_4 rfl (lv_at hl 2 rfl) ?_
    refine lv_aload_n hx hb dX0_pick_5 rfl (lv_at hl 0 rfl) ?_
    refine va_get (D := D) (ci := 0) (v := .ref lo) (C := RX0) (T := TX0) (N := 2) hx hb hts wb_X0_pick_0 hown hK hP 0 rfl rfl 0 (by decide) (hts _ wi_X0_pick_1) (fun _ h9 => h9) rfl dX0_pick_6 ?_
    refine va_alen (v := 12) hx hb hK hP 1 0 rfl rfl rfl dX0_pick_9 ?_
    refine lv_icmp_ge (tgt := 35) hx hb dX0_pick_10 (by decide) (fun c_2 => ?_) (fun c_2 => ?_)
    · have n_2 : 12 ≤ r := (nI_leI (a := 12) (b := r) (by omega) (by omega)).mp c_2
      exfalso; omega
    · have n_2 : r < 12 := Nat.lt_of_not_le (fun h => c_2 ((nI_leI (a := 12) (b := r) (by omega) (by omega)).mpr h))
      refine lv_iload_n hx hb dX0_pick_13 rfl (lv_at hl 2 rfl) ?_
      refine lv_aload_n hx hb dX0_pick_14 rfl (lv_at hl 0 rfl) ?_
      refine va_get (D := D) (ci := 0) (v := .ref go) (C := RX0) (T := TX0) (N := 2) hx hb hts wb_X0_pick_0 hown hK hP 0 rfl rfl 1 (by decide) (hts _ wi_X0_pick_2) (fun _ h9 => h9) rfl dX0_pick_15 ?_
      refine va_alen (v := 12) hx hb hK hP 2 0 rfl rfl rfl dX0_pick_18 ?_
      refine lv_icmp_ge (tgt := 35) hx hb dX0_pick_19 (by decide) (fun c_3 => ?_) (fun c_3 => ?_)
      · have n_3 : 12 ≤ r := (nI_leI (a := 12) (b := r) (by omega) (by omega)).mp c_3
        exfalso; omega
      · have n_3 : r < 12 := Nat.lt_of_not_le (fun h => c_3 ((nI_leI (a := 12) (b := r) (by omega) (by omega)).mpr h))
        refine lv_aload_n hx hb dX0_pick_22 rfl (lv_at hl 0 rfl) ?_
        refine va_get (D := D) (ci := 0) (v := .ref lo) (C := RX0) (T := TX0) (N := 2) hx hb hts wb_X0_pick_0 hown hK hP 0 rfl rfl 0 (by decide) (hts _ wi_X0_pick_1) (fun _ h9 => h9) rfl dX0_pick_23 ?_
        refine lv_iload_n hx hb dX0_pick_26 rfl (lv_at hl 2 rfl) ?_
        refine f_iald (k := r) hx hb hK hP 1 0 rfl rfl rfl (by omega) (by first | decide | omega) dX0_pick_27 ?_
        refine lv_iload_n hx hb dX0_pick_28 rfl (lv_at hl 1 rfl) ?_
        refine lv_ishr hx hb dX0_pick_29 ?_
        refine lv_iconst (v := 1) hx hb dX0_pick_30 (by decide) ?_
        refine lv_iand hx hb dX0_pick_31 ?_
        refine lv_if_ne (tgt := 37) hx hb dX0_pick_32 (by decide) (fun c_4 => ?_) (fun c_4 => ?_)
        · exact absurd hno c_4
        · refine lv_iconst (v := 0) hx hb dX0_pick_35 (by decide) ?_
          exact f_ret_i hx hb hr hlocks hP hD hS dX0_pick_36 (by rfl)

theorem wb_X0_pick_1_0 : ∀ w ∈ wsX00, w ∈ wsX0_pick := (fun _ h => List.mem_cons_of_mem _ (List.mem_append_right _ h))
theorem wi_X0_pick_1_1 : (Cond.fieldLink RX0 9 "FrostPane$FlowerPicker" "left" "[I") ∈ wsX0_pick := List.mem_of_getElem? (i := 1) rfl
theorem wi_X0_pick_1_2 : (Cond.fieldLink RX0 15 "FrostPane$FlowerPicker" "flower" "[I") ∈ wsX0_pick := List.mem_of_getElem? (i := 2) rfl
set_option maxHeartbeats 4000000 in
set_option maxRecDepth 100000 in
theorem c_X0_pick_1 (l : Launch) (D : va_G) (cI cZ cP cQ : ClassId) (sz : Nat) (pk lo go : Nat) (lf fl : Nat → Int32) (c r : Nat) (hr0 : r < 12) (hno : ¬ ((lf r >>> (nI c &&& 31)) &&& 1) = 0) : f_Mi l yX0_pick wsX0_pick ({ frames := 2, cells := 0, slots := 0, locals := 45 }) D (fTY cI cZ cP cQ) [.ref pk, .int (nI c), .int (nI r)] sz [(pk, .inr (0, [.ref lo, .ref go])), (lo, .inl (cI, 12, .inl lf)), (go, .inl (cI, 12, .inl fl))] (tac (pkF lf c r) 12) [(pk, .inr (0, [.ref lo, .ref go])), (lo, .inl (cI, 12, .inl (taL lf (pkF lf c r)))), (go, .inl (cI, 12, .inl (pkF lf c r)))] := by
  refine f_ent_i (by decide) rfl (Nat.le_of_ble_eq_true rfl) ?_
  intro pg ev s m below meth cd hx hb hr hts hown hlocks hml hnm hsz hP hK hN A hD hA hS ls hl
  have hown : s.vm.findClass RX0 = some m.cls := hown
  have hl : lv_has ls 4 [(0, .ref pk), (1, .int (nI c)), (2, .int (nI r))] := hl
  refine lv_iload_n hx hb dX0_pick_0 rfl (lv_at hl 2 rfl) ?_
  refine lv_if_lt (tgt := 35) hx hb dX0_pick_1 (by decide) (fun c_1 => ?_) (fun c_1 => ?_)
  · have n_1 : r < 0 := (nI_ltI (a := r) (b := 0) (by omega) (by omega)).mp c_1
    exfalso; omega
  · have n_1 : 0 ≤ r := Nat.le_of_not_lt (fun h => c_1 ((nI_ltI (a := r) (b := 0) (by omega) (by omega)).mpr h))
    refine lv_iload_n hx hb dX0_pick_4 rfl (lv_at hl 2 rfl) ?_
    refine lv_aload_n hx hb dX0_pick_5 rfl (lv_at hl 0 rfl) ?_
    refine va_get (D := D) (ci := 0) (v := .ref lo) (C := RX0) (T := TX0) (N := 2) hx hb hts wb_X0_pick_1_0 hown hK hP 0 rfl rfl 0 (by decide) (hts _ wi_X0_pick_1_1) (fun _ h9 => h9) rfl dX0_pick_6 ?_
    refine va_alen (v := 12) hx hb hK hP 1 0 rfl rfl rfl dX0_pick_9 ?_
    refine lv_icmp_ge (tgt := 35) hx hb dX0_pick_10 (by decide) (fun c_2 => ?_) (fun c_2 => ?_)
    · have n_2 : 12 ≤ r := (nI_leI (a := 12) (b := r) (by omega) (by omega)).mp c_2
      exfalso; omega
    · have n_2 : r < 12 := Nat.lt_of_not_le (fun h => c_2 ((nI_leI (a := 12) (b := r) (by omega) (by omega)).mpr h))
      refine lv_iload_n hx hb dX0_pick_13 rfl (lv_at hl 2 rfl) ?_
      refine lv_aload_n hx hb dX0_pick_14 rfl (lv_at hl 0 rfl) ?_
      refine va_get (D := D) (ci := 0) (v := .ref go) (C := RX0) (T := TX0) (N := 2) hx hb hts wb_X0_pick_1_0 hown hK hP 0 rfl rfl 1 (by decide) (hts _ wi_X0_pick_1_2) (fun _ h9 => h9) rfl dX0_pick_15 ?_
      refine va_alen (v := 12) hx hb hK hP 2 0 rfl rfl rfl dX0_pick_18 ?_
      refine lv_icmp_ge (tgt := 35) hx hb dX0_pick_19 (by decide) (fun c_3 => ?_) (fun c_3 => ?_)
      · have n_3 : 12 ≤ r := (nI_leI (a := 12) (b := r) (by omega) (by omega)).mp c_3
        exfalso; omega
      · have n_3 : r < 12 := Nat.lt_of_not_le (fun h => c_3 ((nI_leI (a := 12) (b := r) (by omega) (by omega)).mpr h))
        refine lv_aload_n hx hb dX0_pick_22 rfl (lv_at hl 0 rfl) ?_
        refine va_get (D := D) (ci := 0) (v := .ref lo) (C := RX0) (T := TX0) (N := 2) hx hb hts wb_X0_pick_1_0 hown hK hP 0 rfl rfl 0 (by decide) (hts _ wi_X0_pick_1_1) (fun _ h9 => h9) rfl dX0_pick_23 ?_
        refine lv_iload_n hx hb dX0_pick_26 rfl (lv_at hl 2 rfl) ?_
        refine f_iald (k := r) hx hb hK hP 1 0 rfl rfl rfl (by omega) (by first | decide | omega) dX0_pick_27 ?_
        refine lv_iload_n hx hb dX0_pick_28 rfl (lv_at hl 1 rfl) ?_
        refine lv_ishr hx hb dX0_pick_29 ?_
        refine lv_iconst (v := 1) hx hb dX0_pick_30 (by decide) ?_
        refine lv_iand hx hb dX0_pick_31 ?_
        refine lv_if_ne (tgt := 37) hx hb dX0_pick_32 (by decide) (fun c_4 => ?_) (fun c_4 => ?_)
        · refine lv_aload_n hx hb dX0_pick_37 rfl (lv_at hl 0 rfl) ?_
          refine va_get (D := D) (ci := 0) (v := .ref go) (C := RX0) (T := TX0) (N := 2) hx hb hts wb_X0_pick_1_0 hown hK hP 0 rfl rfl 1 (by decide) (hts _ wi_X0_pick_1_2) (fun _ h9 => h9) rfl dX0_pick_38 ?_
          refine lv_iconst (v := 0) hx hb dX0_pick_41 (by decide) ?_
          refine f_callSv ⟨hx, hb, hml, hown, hts⟩ hP hD hS hA hK hN [2] (w2 := [(pk, .inr (0, [.ref lo, .ref go])), (lo, .inl (cI, 12, .inl lf)), (go, .inl (cI, 12, .inl (fun _ => 0)))])
              (c_J7_fill_53178 (l := l) (D := D) (cI := cI) (cZ := cZ) (cP := cP) (cQ := cQ) (sz := _) (a := go) (n := 12) (f := fl) (v := 0) (hn := (by first | assumption | omega))) (va_cwS 2 hts gX0_pick_J7_fill_53178 rfl rfl rfl k_J7_fill_53178.2 ⟨Nat.le_of_ble_eq_true rfl, Nat.le_of_ble_eq_true rfl⟩) rfl rfl [go] rfl rfl rfl rfl rfl hl.1 (Nat.le_of_ble_eq_true rfl) dX0_pick_42 ⟨Nat.le_of_ble_eq_true rfl, Nat.le_of_ble_eq_true rfl⟩ (fun H locs hP hD hS => ?_)
          refine lv_aload_n hx hb dX0_pick_45 rfl (lv_at hl 0 rfl) ?_
          refine va_get (D := D) (ci := 0) (v := .ref go) (C := RX0) (T := TX0) (N := 2) hx hb hts wb_X0_pick_1_0 hown hK hP 0 rfl rfl 1 (by decide) (hts _ wi_X0_pick_1_2) (fun _ h9 => h9) rfl dX0_pick_46 ?_
          refine lv_iload_n hx hb dX0_pick_49 rfl (lv_at hl 2 rfl) ?_
          refine lv_iconst (v := 1) hx hb dX0_pick_50 (by decide) ?_
          refine lv_iload_n hx hb dX0_pick_51 rfl (lv_at hl 1 rfl) ?_
          refine lv_ishl hx hb dX0_pick_52 ?_
          refine f_iast (k := r) hx hb hK hP hD hS 2 0 rfl rfl rfl (by omega) (by first | decide | omega) dX0_pick_53 (fun H locs hP hD hS => ?_)
          have hP : va_P D vwCl [(pk, .inr (0, [.ref lo, .ref go])), (lo, .inl (cI, 12, .inl lf)), (go, .inl (cI, 12, .inl (upd (fun _ => 0) r ((1 : Int32) <<< ((nI c) &&& 31)))))] _ := hP
          have hD : va_D A [(pk, .inr (0, [.ref lo, .ref go])), (lo, .inl (cI, 12, .inl lf)), (go, .inl (cI, 12, .inl (upd (fun _ => 0) r ((1 : Int32) <<< ((nI c) &&& 31)))))] := hD
          obtain ⟨hP, hD⟩ := f_rep (g := pk1 c r) hP hD 2 rfl (fun j _ => rfl)
          have hP : va_P D vwCl [(pk, .inr (0, [.ref lo, .ref go])), (lo, .inl (cI, 12, .inl lf)), (go, .inl (cI, 12, .inl (pk1 c r)))] _ := hP
          have hD : va_D A [(pk, .inr (0, [.ref lo, .ref go])), (lo, .inl (cI, 12, .inl lf)), (go, .inl (cI, 12, .inl (pk1 c r)))] := hD
          refine lv_iconst (v := 0) hx hb dX0_pick_54 (by decide) ?_
          refine lv_istore_n (lv' := [(3, .int 0), (0, .ref pk), (1, .int (nI c)), (2, .int (nI r))]) hx hb dX0_pick_55 rfl hl (by decide) rfl (fun ls hl => ?_)
          refine f_loopW (σ := Nat × (Nat → Int32)) (D := D) (A := A) (H0 := s.heap) 4 56 (fun u9 => [(3, .int (nI (u9.1))), (0, .ref pk), (1, .int (nI c)), (2, .int (nI r))]) (fun u9 => [(pk, .inr (0, [.ref lo, .ref go])), (lo, .inl (cI, 12, .inl lf)), (go, .inl (cI, 12, .inl (u9.2)))]) (fun u9 => (u9.1) ≤ 144 ∧ pkg lf (144 - (u9.1)) (u9.2) = pkF lf c r) (fun u9 => 144 - (u9.1))
              (fun u9 hi_6 ih_5 H locs hP hD hS ls hl => ?_) (0, pk1 c r) (⟨Nat.zero_le _, rfl⟩) hP hD hS (lv_sub hl [0, 1, 2, 3] rfl)
          obtain ⟨k, g⟩ := u9
          have hi_6 : k ≤ 144 ∧ pkg lf (144 - k) g = pkF lf c r := hi_6
          obtain ⟨hk, hg⟩ := hi_6
          have hl : lv_has ls 4 [(3, .int (nI k)), (0, .ref pk), (1, .int (nI c)), (2, .int (nI r))] := hl
          have hP : va_P D vwCl [(pk, .inr (0, [.ref lo, .ref go])), (lo, .inl (cI, 12, .inl lf)), (go, .inl (cI, 12, .inl g))] _ := hP
          have hD : va_D A [(pk, .inr (0, [.ref lo, .ref go])), (lo, .inl (cI, 12, .inl lf)), (go, .inl (cI, 12, .inl g))] := hD
          refine lv_iload_n hx hb dX0_pick_56 rfl (lv_at hl 0 rfl) ?_
          refine lv_sipush (v := 144) hx hb dX0_pick_57 (by decide) ?_
          refine lv_icmp_ge (tgt := 79) hx hb dX0_pick_60 (by decide) (fun c_7 => ?_) (fun c_7 => ?_)
          · have n_7 : 144 ≤ k := (nI_leI (a := 144) (b := k) (by omega) (by omega)).mp c_7
            obtain ⟨hP, hD⟩ := f_rep (g := pkF lf c r) hP hD 2 rfl (fun j _ => by rw [← hg, show 144 - k = 0 by omega]; rfl)
            have hP : va_P D vwCl [(pk, .inr (0, [.ref lo, .ref go])), (lo, .inl (cI, 12, .inl lf)), (go, .inl (cI, 12, .inl (pkF lf c r)))] _ := hP
            have hD : va_D A [(pk, .inr (0, [.ref lo, .ref go])), (lo, .inl (cI, 12, .inl lf)), (go, .inl (cI, 12, .inl (pkF lf c r)))] := hD
            refine lv_aload_n hx hb dX0_pick_79 rfl (lv_at hl 1 rfl) ?_
            refine f_callVi ⟨hx, hb, hml, hown, hts⟩ hP hD hS hA hK hN [0, 1, 2] (w2 := [(pk, .inr (0, [.ref lo, .ref go])), (lo, .inl (cI, 12, .inl (taL lf (pkF lf c r)))), (go, .inl (cI, 12, .inl (pkF lf c r)))])
                (c_X0_takeAway (l := l) (D := D) (cI := cI) (cZ := cZ) (cP := cP) (cQ := cQ) (sz := _) (pk := pk) (lo := lo) (go := go) (lf := lf) (fl := pkF lf c r) ) (cwV 0 hts gX0_pick_X0_takeAway rfl rfl rfl k_X0_takeAway ⟨Nat.le_of_ble_eq_true rfl, Nat.le_of_ble_eq_true rfl⟩) 0 rfl rfl rfl rfl [pk, lo, go] rfl rfl rfl rfl rfl hl.1 (Nat.le_of_ble_eq_true rfl) dX0_pick_80 ⟨Nat.le_of_ble_eq_true rfl, Nat.le_of_ble_eq_true rfl⟩ (fun H locs hP hD hS => ?_)
            exact f_ret_i hx hb hr hlocks hP hD hS dX0_pick_83 (by rfl)
          · have n_7 : k < 144 := Nat.lt_of_not_le (fun h => c_7 ((nI_leI (a := 144) (b := k) (by omega) (by omega)).mpr h))
            refine lv_aload_n hx hb dX0_pick_63 rfl (lv_at hl 1 rfl) ?_
            refine f_callVi ⟨hx, hb, hml, hown, hts⟩ hP hD hS hA hK hN [0, 1, 2] (w2 := [(pk, .inr (0, [.ref lo, .ref go])), (lo, .inl (cI, 12, .inl lf)), (go, .inl (cI, 12, .inl (wdn lf g 12)))])
                (c_X0_widen (l := l) (D := D) (cI := cI) (cZ := cZ) (cP := cP) (cQ := cQ) (sz := _) (pk := pk) (lo := lo) (go := go) (lf := lf) (fl := g) ) (cwV 0 hts gX0_pick_X0_widen rfl rfl rfl k_X0_widen ⟨Nat.le_of_ble_eq_true rfl, Nat.le_of_ble_eq_true rfl⟩) 0 rfl rfl rfl rfl [pk, lo, go] rfl rfl rfl rfl rfl hl.1 (Nat.le_of_ble_eq_true rfl) dX0_pick_64 ⟨Nat.le_of_ble_eq_true rfl, Nat.le_of_ble_eq_true rfl⟩ (fun H locs hP hD hS => ?_)
            refine lv_if_ne (tgt := 73) hx hb dX0_pick_67 (by decide) (fun c_8 => ?_) (fun c_8 => ?_)
            · have hw := c_8
              refine lv_iinc (v := nI (k + 1)) (lv' := [(3, .int (nI (k + 1))), (0, .ref pk), (1, .int (nI c)), (2, .int (nI r))]) hx hb dX0_pick_73 hl (k := 0) rfl (nI_1 _) (by decide) rfl (fun ls hl => ?_)
              refine lv_goto (tgt := 56) hx hb dX0_pick_76 (by decide) ?_
              exact ih_5 ((k + 1), wdn lf g 12) (⟨by omega, by rw [← hg, show 144 - k = (144 - (k + 1)) + 1 by omega, pkg_more hw]⟩) (by first | omega | (simp only []; omega) | (show _ < _; simp only []; omega)) H locs hP hD hS ls (lv_sub hl [0, 1, 2, 3] rfl)
            · refine lv_goto (tgt := 79) hx hb dX0_pick_70 (by decide) ?_
              obtain ⟨hP, hD⟩ := f_rep (g := pkF lf c r) hP hD 2 rfl (fun j _ => by rw [← hg, show 144 - k = (144 - (k + 1)) + 1 by omega, pkg_end c_8])
              have hP : va_P D vwCl [(pk, .inr (0, [.ref lo, .ref go])), (lo, .inl (cI, 12, .inl lf)), (go, .inl (cI, 12, .inl (pkF lf c r)))] _ := hP
              have hD : va_D A [(pk, .inr (0, [.ref lo, .ref go])), (lo, .inl (cI, 12, .inl lf)), (go, .inl (cI, 12, .inl (pkF lf c r)))] := hD
              refine lv_aload_n hx hb dX0_pick_79 rfl (lv_at hl 1 rfl) ?_
              refine f_callVi ⟨hx, hb, hml, hown, hts⟩ hP hD hS hA hK hN [0, 1, 2] (w2 := [(pk, .inr (0, [.ref lo, .ref go])), (lo, .inl (cI, 12, .inl (taL lf (pkF lf c r)))), (go, .inl (cI, 12, .inl (pkF lf c r)))])
                  (c_X0_takeAway (l := l) (D := D) (cI := cI) (cZ := cZ) (cP := cP) (cQ := cQ) (sz := _) (pk := pk) (lo := lo) (go := go) (lf := lf) (fl := pkF lf c r) ) (cwV 0 hts gX0_pick_X0_takeAway rfl rfl rfl k_X0_takeAway ⟨Nat.le_of_ble_eq_true rfl, Nat.le_of_ble_eq_true rfl⟩) 0 rfl rfl rfl rfl [pk, lo, go] rfl rfl rfl rfl rfl hl.1 (Nat.le_of_ble_eq_true rfl) dX0_pick_80 ⟨Nat.le_of_ble_eq_true rfl, Nat.le_of_ble_eq_true rfl⟩ (fun H locs hP hD hS => ?_)
              exact f_ret_i hx hb hr hlocks hP hD hS dX0_pick_83 (by rfl)
        · exact absurd c_4 hno

end CQ
