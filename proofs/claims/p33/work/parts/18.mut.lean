section C_specs_mut
/-! what is pressed, cell by cell -/
def nd (a b : Nat) : Nat := (a - b) + (b - a)
theorem nd_abs {a b : Nat} (ha : a < 2 ^ 20) (hb : b < 2 ^ 20) : (if (0 : Int32) ≤ nI a - nI b then nI a - nI b else 0 - (nI a - nI b)) = nI (nd a b) := by
  unfold nd
  by_cases h : b ≤ a
  · rw [pk_sub h, if_pos (nI_pos' (by omega)), show b - a = 0 by omega, Nat.add_zero]
  · rw [if_neg (fun z => Int32.not_lt.mpr z (pk_sneg (by omega) (by omega))), show a - b = 0 by omega, Nat.zero_add, ← pk_sub (show a ≤ b by omega), Int32.zero_sub, Int32.neg_sub]
def prI (g : Nat → Nat → Int32) (v : Int32) (c0 r0 r c : Nat) : Nat → Nat → Int32 := fun r' c' => if (r' < r ∨ (r' = r ∧ c' < c)) ∧ nd r' r0 + nd c' c0 ≤ 1 then v else g r' c'
theorem prI_at (g : Nat → Nat → Int32) (v : Int32) (c0 r0 r c : Nat) : prI g v c0 r0 r c r c = g r c := if_neg (fun z => by omega)
theorem prI_0 (g : Nat → Nat → Int32) (v : Int32) (c0 r0 r' c' : Nat) : g r' c' = prI g v c0 r0 0 0 r' c' := (if_neg (fun z => by omega)).symm
theorem prI_up {g : Nat → Nat → Int32} {v : Int32} {c0 r0 r c : Nat} (h : nd r r0 + nd c c0 ≤ 1) (r' c' : Nat) : up2 (prI g v c0 r0 r c) r c v r' c' = prI g v c0 r0 r (c + 1) r' c' := by
  by_cases e : r' = r ∧ c' = c
  · obtain ⟨rfl, rfl⟩ := e
    rw [up2_at]; exact (if_pos ⟨Or.inr ⟨rfl, by omega⟩, h⟩).symm
  · rw [up2_ne e]
    unfold prI
    by_cases h2 : (r' < r ∨ (r' = r ∧ c' < c)) ∧ nd r' r0 + nd c' c0 ≤ 1
    · rw [if_pos h2, if_pos ⟨by omega, h2.2⟩]
    · rw [if_neg h2, if_neg (fun z => h2 ⟨by omega, z.2⟩)]
theorem prI_no {g : Nat → Nat → Int32} {v : Int32} {c0 r0 r c : Nat} (h : ¬ nd r r0 + nd c c0 ≤ 1) (r' c' : Nat) : prI g v c0 r0 r c r' c' = prI g v c0 r0 r (c + 1) r' c' := by
  unfold prI
  by_cases h2 : (r' < r ∨ (r' = r ∧ c' < c)) ∧ nd r' r0 + nd c' c0 ≤ 1
  · rw [if_pos h2, if_pos ⟨by omega, h2.2⟩]
  · rw [if_neg h2, if_neg (fun z => by
      by_cases e : r' = r ∧ c' = c
      · obtain ⟨rfl, rfl⟩ := e; exact h z.2
      · exact h2 ⟨by omega, z.2⟩)]
theorem prI_row {g : Nat → Nat → Int32} {v : Int32} {c0 r0 r C : Nat} {r' c' : Nat} (hc : c' < C) : prI g v c0 r0 r C r' c' = prI g v c0 r0 (r + 1) 0 r' c' := by
  unfold prI
  by_cases h2 : (r' < r ∨ (r' = r ∧ c' < C)) ∧ nd r' r0 + nd c' c0 ≤ 1
  · rw [if_pos h2, if_pos ⟨by omega, h2.2⟩]
  · rw [if_neg h2, if_neg (fun z => h2 ⟨by omega, z.2⟩)]
def prS (ig : Nat → Nat → Int32) (c0 r0 r c : Nat) : Nat := if nd r r0 + nd c c0 ≤ 1 then nz (ig r c) else 0
theorem prS_n {ig : Nat → Nat → Int32} {c0 r0 r c : Nat} (h : ¬ nd r r0 + nd c c0 ≤ 1) : prS ig c0 r0 r c = 0 := if_neg h
theorem prS_0 {ig : Nat → Nat → Int32} {v : Int32} {c0 r0 r c : Nat} (h : nd r r0 + nd c c0 ≤ 1) (h2 : prI ig v c0 r0 r c r c = 0) : prS ig c0 r0 r c = 0 := by rw [prI_at] at h2; exact (if_pos h).trans (nz_0 h2)
theorem prS_1 {ig : Nat → Nat → Int32} {v : Int32} {c0 r0 r c : Nat} (h : nd r r0 + nd c c0 ≤ 1) (h2 : ¬ prI ig v c0 r0 r c r c = 0) : prS ig c0 r0 r c = 1 := by rw [prI_at] at h2; exact (if_pos h).trans (nz_1 h2)
theorem k_X4_press : yX4_press.cls = RX4 ∧ yX4_press.cls ≠ "java/lang/invoke/MethodHandle" ∧ yX4_press.cls ≠ "java/lang/invoke/VarHandle" ∧ (parseMethodDescriptor yX4_press.desc).map (fun d => d.parameters.length) = some 3 := by decide +kernel
theorem wb_X4_press_4 : ∀ w ∈ wsX40, w ∈ wsX4_press := (fun _ h => List.mem_cons_of_mem _ (List.mem_append_right _ h))
theorem wi_X4_press_1 : (Cond.fieldLink RX4 9 "FrostPaneLaw$Sim" "ice" "[[Z") ∈ wsX4_press := List.mem_of_getElem? (i := 1) rfl
theorem wi_X4_press_2 : (Cond.methodLink RX4 57 Lib.Math.abs.name) ∈ wsX4_press := List.mem_of_getElem? (i := 2) rfl
theorem wi_X4_press_3 : (Cond.static Lib.Math.abs.name) ∈ wsX4_press := List.mem_of_getElem? (i := 3) rfl
theorem wi_X4_press_4 : (Cond.initialized "java/lang/Math") ∈ wsX4_press := List.mem_of_getElem? (i := 4) rfl
theorem wi_X4_press_5 : (Cond.code Lib.Math.abs.name Lib.Math.abs.code 1 (some .int)) ∈ wsX4_press := List.mem_of_getElem? (i := 5) rfl
theorem wi_X4_press_6 : (Cond.fieldLink RX4 16 "FrostPaneLaw$Sim" "melt" "[[I") ∈ wsX4_press := List.mem_of_getElem? (i := 6) rfl
set_option maxHeartbeats 4000000 in
set_option maxRecDepth 100000 in
theorem c_X4_press (l : Launch) (D : va_G) (cI cZ cP cQ : ClassId) (sz : Nat) (so io mo ro C R F n b : Nat) (gn : Int32) (L0 : List Nat) (f0 : Nat → va_E) (ai mi ri : Nat → Nat) (ig mg rg : Nat → Nat → Int32) (c0 r0 g : Nat) (hC1 : 3 ≤ C) (hC : C ≤ 12) (hR1 : 3 ≤ R) (hR : R ≤ 12) (hF : F ≤ 2) (hn : n ≤ 6) (hb0 : b < n) (hw_ai : Rw cZ L0 f0 R C ai ig) (hw_mi : Rw cI L0 f0 R C mi mg) (hw_ri : Rw cI L0 f0 n 2 ri rg) (hi_ai : Inj R ai) (hi_mi : Inj R mi) (ap_ai_mi : Apt R R ai mi) (ap_mi_ai : Apt R R mi ai) (ap_ri_ai : Apt n R ri ai) (ap_ri_mi : Apt n R ri mi) (hc : c0 < C) (hr0 : r0 < R) : g_Mi l yX4_press wsX4_press ({ frames := 1, cells := 0, slots := 0, locals := 21 }) D (fTY cI cZ cP cQ) [.ref so, .int (nI c0), .int (nI r0), .int (nI g)] sz (([(so, .inr (4, [.ref io, .ref mo, .int (nI F), .int gn, .int (nI b), .ref ro])), (io, .inl (cQ, R, .inr (.inr (.inr (.inr (rq ai)))))), (mo, .inl (cP, R, .inr (.inr (.inr (.inr (rq mi)))))), (ro, .inl (cP, n, .inr (.inr (.inr (.inr (rq ri))))))] ++ va_pl L0 f0)) (fun (u9 : (Nat → va_E)) x9 => x9 = nI (sm (fun q9 => sm (prS ig c0 r0 q9) C) R) ∧ Rw cZ L0 u9 R C ai (prI ig 0 c0 r0 R 0) ∧ Rw cI L0 u9 R C mi (prI mg (nI g) c0 r0 R 0) ∧ Rw cI L0 u9 n 2 ri rg ∧ (∀ b9, (∀ q9, q9 < R → b9 ≠ ai q9) → (∀ q9, q9 < R → b9 ≠ mi q9) → u9 b9 = f0 b9)) (fun u9 => ([(so, .inr (4, [.ref io, .ref mo, .int (nI F), .int gn, .int (nI b), .ref ro])), (io, .inl (cQ, R, .inr (.inr (.inr (.inr (rq ai)))))), (mo, .inl (cP, R, .inr (.inr (.inr (.inr (rq mi)))))), (ro, .inl (cP, n, .inr (.inr (.inr (.inr (rq ri))))))] ++ va_pl L0 u9)) 0 0 := by
  refine g_ent_i (by decide) rfl (Nat.le_of_ble_eq_true rfl) ?_
  intro pg ev s m below meth cd hx hb hr hts hown hlocks hml hnm hsz hP hK hN A hD hA hS ls hl
  have hown : s.vm.findClass RX4 = some m.cls := hown
  have hl : lv_has ls 7 [(0, .ref so), (1, .int (nI c0)), (2, .int (nI r0)), (3, .int (nI g))] := hl
  refine lv_iconst (v := 0) hx hb dX4_press_0 (by decide) ?_
  refine f_topi (y := nI (sm (fun q9 => sm (prS ig c0 r0 q9) C) 0)) (by rfl) ?_
  refine lv_istore (lv' := [(4, .int (nI (sm (fun q9 => sm (prS ig c0 r0 q9) C) 0))), (0, .ref so), (1, .int (nI c0)), (2, .int (nI r0)), (3, .int (nI g))]) hx hb dX4_press_1 hl (by decide) rfl (fun ls hl => ?_)
  refine lv_iconst (v := 0) hx hb dX4_press_3 (by decide) ?_
  refine lv_istore (lv' := [(5, .int 0), (4, .int (nI (sm (fun q9 => sm (prS ig c0 r0 q9) C) 0))), (0, .ref so), (1, .int (nI c0)), (2, .int (nI r0)), (3, .int (nI g))]) hx hb dX4_press_4 hl (by decide) rfl (fun ls hl => ?_)
  refine f_loopW (σ := (Nat → va_E) × Nat) (D := D) (A := A) (H0 := s.heap) 7 6 (fun u9 => [(5, .int (nI (u9.2))), (4, .int (nI (sm (fun q9 => sm (prS ig c0 r0 q9) C) (u9.2)))), (0, .ref so), (1, .int (nI c0)), (2, .int (nI r0)), (3, .int (nI g))]) (fun u9 => ([(so, .inr (4, [.ref io, .ref mo, .int (nI F), .int gn, .int (nI b), .ref ro])), (io, .inl (cQ, R, .inr (.inr (.inr (.inr (rq ai)))))), (mo, .inl (cP, R, .inr (.inr (.inr (.inr (rq mi)))))), (ro, .inl (cP, n, .inr (.inr (.inr (.inr (rq ri))))))] ++ va_pl L0 (u9.1))) (fun u9 => (u9.2) ≤ R ∧ Rw cZ L0 (u9.1) R C ai (prI ig 0 c0 r0 (u9.2) 0) ∧ Rw cI L0 (u9.1) R C mi (prI mg (nI g) c0 r0 (u9.2) 0) ∧ Rw cI L0 (u9.1) n 2 ri rg ∧ (∀ b9, (∀ q9, q9 < R → b9 ≠ ai q9) → (∀ q9, q9 < R → b9 ≠ mi q9) → (u9.1) b9 = f0 b9)) (fun u9 => R - (u9.2))
      (fun u9 hi_2 ih_1 H locs hP hD hS ls hl => ?_) (f0, 0) (⟨Nat.zero_le _, hw_ai.congr (fun r1 _ c1 _ => prI_0 _ _ _ _ _ _), hw_mi.congr (fun r1 _ c1 _ => prI_0 _ _ _ _ _ _), hw_ri, fun _ _ _ => rfl⟩) hP hD hS (lv_sub hl [0, 1, 2, 3, 4, 5] rfl)
  obtain ⟨f, r⟩ := u9
  have hi_2 : r ≤ R ∧ Rw cZ L0 f R C ai (prI ig 0 c0 r0 r 0) ∧ Rw cI L0 f R C mi (prI mg (nI g) c0 r0 r 0) ∧ Rw cI L0 f n 2 ri rg ∧ (∀ b9, (∀ q9, q9 < R → b9 ≠ ai q9) → (∀ q9, q9 < R → b9 ≠ mi q9) → f b9 = f0 b9) := hi_2
  obtain ⟨hrR, hw_ai, hw_mi, hw_ri, hfr⟩ := hi_2
  have hl : lv_has ls 7 [(5, .int (nI r)), (4, .int (nI (sm (fun q9 => sm (prS ig c0 r0 q9) C) r))), (0, .ref so), (1, .int (nI c0)), (2, .int (nI r0)), (3, .int (nI g))] := hl
  have hP : va_P D vwCl ([(so, .inr (4, [.ref io, .ref mo, .int (nI F), .int gn, .int (nI b), .ref ro])), (io, .inl (cQ, R, .inr (.inr (.inr (.inr (rq ai)))))), (mo, .inl (cP, R, .inr (.inr (.inr (.inr (rq mi)))))), (ro, .inl (cP, n, .inr (.inr (.inr (.inr (rq ri))))))] ++ va_pl L0 f) _ := hP
  have hD : va_D A ([(so, .inr (4, [.ref io, .ref mo, .int (nI F), .int gn, .int (nI b), .ref ro])), (io, .inl (cQ, R, .inr (.inr (.inr (.inr (rq ai)))))), (mo, .inl (cP, R, .inr (.inr (.inr (.inr (rq mi)))))), (ro, .inl (cP, n, .inr (.inr (.inr (.inr (rq ri))))))] ++ va_pl L0 f) := hD
  refine lv_iload hx hb dX4_press_6 (lv_at hl 0 rfl) ?_
  refine lv_aload_n hx hb dX4_press_8 rfl (lv_at hl 2 rfl) ?_
  refine va_get (D := D) (ci := 4) (v := .ref io) (C := RX4) (T := TX4) (N := 6) hx hb hts wb_X4_press_4 hown hK hP 0 rfl rfl 0 (by decide) (hts _ wi_X4_press_1) (fun _ h9 => h9) rfl dX4_press_9 ?_
  refine va_alen (v := nI R) hx hb hK hP 1 3 rfl rfl rfl dX4_press_12 ?_
  refine lv_icmp_ge (tgt := 110) hx hb dX4_press_13 (by decide) (fun c_3 => ?_) (fun c_3 => ?_)
  · have n_3 : R ≤ r := (nI_leI (a := R) (b := r) (by (try unfold nd); omega) (by (try unfold nd); omega)).mp c_3
    refine lv_iload hx hb dX4_press_110 (lv_at hl 1 rfl) ?_
    refine W.widen (k := 0) (n := 0) (by first | omega | exact Nat.le_of_ble_eq_true rfl) (by first | omega | exact Nat.le_of_ble_eq_true rfl) ?_
    exact g_ret_i f hx hb hr hlocks hP hD hS dX4_press_112 (⟨by rw [show r = R by omega], (show r = R by omega) ▸ hw_ai, (show r = R by omega) ▸ hw_mi, hw_ri, hfr⟩)
  · have n_3 : r < R := Nat.lt_of_not_le (fun h => c_3 ((nI_leI (a := R) (b := r) (by (try unfold nd); omega) (by (try unfold nd); omega)).mpr h))
    refine lv_iconst (v := 0) hx hb dX4_press_16 (by decide) ?_
    refine lv_istore (lv' := [(6, .int 0), (5, .int (nI r)), (4, .int (nI (sm (fun q9 => sm (prS ig c0 r0 q9) C) r))), (0, .ref so), (1, .int (nI c0)), (2, .int (nI r0)), (3, .int (nI g))]) hx hb dX4_press_17 hl (by decide) rfl (fun ls hl => ?_)
    refine f_loopW (σ := (Nat → va_E) × Nat) (D := D) (A := A) (H0 := s.heap) 7 19 (fun u9 => [(6, .int (nI (u9.2))), (5, .int (nI r)), (4, .int (nI (sm (fun q9 => sm (prS ig c0 r0 q9) C) r + sm (prS ig c0 r0 r) (u9.2)))), (0, .ref so), (1, .int (nI c0)), (2, .int (nI r0)), (3, .int (nI g))]) (fun u9 => ([(so, .inr (4, [.ref io, .ref mo, .int (nI F), .int gn, .int (nI b), .ref ro])), (io, .inl (cQ, R, .inr (.inr (.inr (.inr (rq ai)))))), (mo, .inl (cP, R, .inr (.inr (.inr (.inr (rq mi)))))), (ro, .inl (cP, n, .inr (.inr (.inr (.inr (rq ri))))))] ++ va_pl L0 (u9.1))) (fun u9 => (u9.2) ≤ C ∧ Rw cZ L0 (u9.1) R C ai (prI ig 0 c0 r0 r (u9.2)) ∧ Rw cI L0 (u9.1) R C mi (prI mg (nI g) c0 r0 r (u9.2)) ∧ Rw cI L0 (u9.1) n 2 ri rg ∧ (∀ b9, (∀ q9, q9 < R → b9 ≠ ai q9) → (∀ q9, q9 < R → b9 ≠ mi q9) → (u9.1) b9 = f0 b9)) (fun u9 => C - (u9.2))
        (fun u9 hi_5 ih_4 H locs hP hD hS ls hl => ?_) (f, 0) (⟨Nat.zero_le _, hw_ai, hw_mi, hw_ri, hfr⟩) hP hD hS (lv_sub hl [0, 1, 2, 3, 4, 5, 6] rfl)
    obtain ⟨f, c⟩ := u9
    have hi_5 : c ≤ C ∧ Rw cZ L0 f R C ai (prI ig 0 c0 r0 r c) ∧ Rw cI L0 f R C mi (prI mg (nI g) c0 r0 r c) ∧ Rw cI L0 f n 2 ri rg ∧ (∀ b9, (∀ q9, q9 < R → b9 ≠ ai q9) → (∀ q9, q9 < R → b9 ≠ mi q9) → f b9 = f0 b9) := hi_5
    obtain ⟨hcC, hw_ai, hw_mi, hw_ri, hfr⟩ := hi_5
    have hl : lv_has ls 7 [(6, .int (nI c)), (5, .int (nI r)), (4, .int (nI (sm (fun q9 => sm (prS ig c0 r0 q9) C) r + sm (prS ig c0 r0 r) c))), (0, .ref so), (1, .int (nI c0)), (2, .int (nI r0)), (3, .int (nI g))] := hl
    have hP : va_P D vwCl ([(so, .inr (4, [.ref io, .ref mo, .int (nI F), .int gn, .int (nI b), .ref ro])), (io, .inl (cQ, R, .inr (.inr (.inr (.inr (rq ai)))))), (mo, .inl (cP, R, .inr (.inr (.inr (.inr (rq mi)))))), (ro, .inl (cP, n, .inr (.inr (.inr (.inr (rq ri))))))] ++ va_pl L0 f) _ := hP
    have hD : va_D A ([(so, .inr (4, [.ref io, .ref mo, .int (nI F), .int gn, .int (nI b), .ref ro])), (io, .inl (cQ, R, .inr (.inr (.inr (.inr (rq ai)))))), (mo, .inl (cP, R, .inr (.inr (.inr (.inr (rq mi)))))), (ro, .inl (cP, n, .inr (.inr (.inr (.inr (rq ri))))))] ++ va_pl L0 f) := hD
    refine lv_iload hx hb dX4_press_19 (lv_at hl 0 rfl) ?_
    refine lv_aload_n hx hb dX4_press_21 rfl (lv_at hl 3 rfl) ?_
    refine va_get (D := D) (ci := 4) (v := .ref io) (C := RX4) (T := TX4) (N := 6) hx hb hts wb_X4_press_4 hown hK hP 0 rfl rfl 0 (by decide) (hts _ wi_X4_press_1) (fun _ h9 => h9) rfl dX4_press_22 ?_
    refine lv_iconst (v := 0) hx hb dX4_press_25 (by decide) ?_
    refine g_aald (k := 0) (v := ai 0) hx hb hK hP 1 3 rfl rfl rfl (by omega) (by first | decide | omega) rfl dX4_press_26 ?_
    refine g_zlen (r := 0) hx hb hK hP hw_ai (by omega) dX4_press_27 ?_
    refine lv_icmp_ge (tgt := 104) hx hb dX4_press_28 (by decide) (fun c_6 => ?_) (fun c_6 => ?_)
    · have n_6 : C ≤ c := (nI_leI (a := C) (b := c) (by (try unfold nd); omega) (by (try unfold nd); omega)).mp c_6
      have e9_7 : (nI (sm (fun q9 => sm (prS ig c0 r0 q9) C) r + sm (prS ig c0 r0 r) c)) = (nI (sm (fun q9 => sm (prS ig c0 r0 q9) C) (r + 1))) := by rw [show c = C by omega]; rfl
      have hl : lv_has ls 7 [(6, .int (nI c)), (5, .int (nI r)), (4, .int (nI (sm (fun q9 => sm (prS ig c0 r0 q9) C) (r + 1)))), (0, .ref so), (1, .int (nI c0)), (2, .int (nI r0)), (3, .int (nI g))] := by rw [← e9_7]; exact hl
      refine lv_iinc (v := nI (r + 1)) (lv' := [(5, .int (nI (r + 1))), (6, .int (nI c)), (4, .int (nI (sm (fun q9 => sm (prS ig c0 r0 q9) C) (r + 1)))), (0, .ref so), (1, .int (nI c0)), (2, .int (nI r0)), (3, .int (nI g))]) hx hb dX4_press_104 hl (k := 1) rfl (nI_1 _) (by decide) rfl (fun ls hl => ?_)
      refine lv_goto (tgt := 6) hx hb dX4_press_107 (by decide) ?_
      exact ih_1 (f, (r + 1)) (⟨by omega, hw_ai.congr (fun r1 _ c1 h1 => by rw [show c = C by omega]; exact prI_row h1), hw_mi.congr (fun r1 _ c1 h1 => by rw [show c = C by omega]; exact prI_row h1), hw_ri, hfr⟩) (by first | omega | (simp only []; omega) | (show _ < _; simp only []; omega)) H locs hP hD hS ls (lv_sub hl [0, 2, 3, 4, 5, 6] rfl)
    · have n_6 : c < C := Nat.lt_of_not_le (fun h => c_6 ((nI_leI (a := C) (b := c) (by (try unfold nd); omega) (by (try unfold nd); omega)).mpr h))
      refine lv_iload hx hb dX4_press_31 (lv_at hl 1 rfl) ?_
      refine lv_iload_n hx hb dX4_press_33 rfl (lv_at hl 5 rfl) ?_
      refine lv_isub hx hb dX4_press_34 ?_
      refine va_mabs hx hb (hml.trans hl.1.symm) hown (hts _ wi_X4_press_2) (hts _ wi_X4_press_3) (hts _ wi_X4_press_4) (hts _ wi_X4_press_5) (Nat.le_of_ble_eq_true rfl) (Nat.le_of_ble_eq_true rfl) (Nat.le_of_ble_eq_true rfl) (Nat.le_of_ble_eq_true rfl) dX4_press_35 ?_
      refine f_topi (y := nI (nd r r0)) (nd_abs (by omega) (by omega)) ?_
      refine lv_iload hx hb dX4_press_38 (lv_at hl 0 rfl) ?_
      refine lv_iload_n hx hb dX4_press_40 rfl (lv_at hl 4 rfl) ?_
      refine lv_isub hx hb dX4_press_41 ?_
      refine va_mabs hx hb (hml.trans hl.1.symm) hown (hts _ wi_X4_press_2) (hts _ wi_X4_press_3) (hts _ wi_X4_press_4) (hts _ wi_X4_press_5) (Nat.le_of_ble_eq_true rfl) (Nat.le_of_ble_eq_true rfl) (Nat.le_of_ble_eq_true rfl) (Nat.le_of_ble_eq_true rfl) dX4_press_42 ?_
      refine f_topi (y := nI (nd c c0)) (nd_abs (by omega) (by omega)) ?_
      refine lv_iadd hx hb dX4_press_45 ?_
      refine f_topi (y := nI ((nd r r0) + (nd c c0))) (nI_add (nd r r0) (nd c c0)) ?_
      refine lv_iconst (v := 1) hx hb dX4_press_46 (by decide) ?_
      refine lv_icmp_le (tgt := 53) hx hb dX4_press_47 (by decide) (fun c_8 => ?_) (fun c_8 => ?_)
      · have n_8 : ((nd r r0) + (nd c c0)) ≤ 1 := (nI_leI (a := ((nd r r0) + (nd c c0))) (b := 1) (by (try unfold nd); omega) (by (try unfold nd); omega)).mp c_8
        refine lv_iload hx hb dX4_press_53 (lv_at hl 2 rfl) ?_
        refine lv_aload_n hx hb dX4_press_55 rfl (lv_at hl 3 rfl) ?_
        refine va_get (D := D) (ci := 4) (v := .ref io) (C := RX4) (T := TX4) (N := 6) hx hb hts wb_X4_press_4 hown hK hP 0 rfl rfl 0 (by decide) (hts _ wi_X4_press_1) (fun _ h9 => h9) rfl dX4_press_56 ?_
        refine lv_iload hx hb dX4_press_59 (lv_at hl 1 rfl) ?_
        refine g_aald (k := r) (v := ai r) hx hb hK hP 1 3 rfl rfl rfl (by omega) (by first | decide | omega) rfl dX4_press_61 ?_
        refine lv_iload hx hb dX4_press_62 (lv_at hl 0 rfl) ?_
        refine g_zald (r := r) (k := c) hx hb hK hP hw_ai (by omega) rfl (by omega) (by first | decide | omega) dX4_press_64 ?_
        refine lv_if_eq (tgt := 72) hx hb dX4_press_65 (by decide) (fun c_9 => ?_) (fun c_9 => ?_)
        · refine lv_iconst (v := 0) hx hb dX4_press_72 (by decide) ?_
          refine lv_iadd hx hb dX4_press_73 ?_
          refine f_topi (y := nI ((sm (fun q9 => sm (prS ig c0 r0 q9) C) r + sm (prS ig c0 r0 r) c) + 0)) (nI_add (sm (fun q9 => sm (prS ig c0 r0 q9) C) r + sm (prS ig c0 r0 r) c) 0) ?_
          refine lv_istore (lv' := [(4, .int (nI ((sm (fun q9 => sm (prS ig c0 r0 q9) C) r + sm (prS ig c0 r0 r) c) + 0))), (6, .int (nI c)), (5, .int (nI r)), (0, .ref so), (1, .int (nI c0)), (2, .int (nI r0)), (3, .int (nI g))]) hx hb dX4_press_74 hl (by decide) rfl (fun ls hl => ?_)
          refine lv_aload_n hx hb dX4_press_76 rfl (lv_at hl 3 rfl) ?_
          refine va_get (D := D) (ci := 4) (v := .ref io) (C := RX4) (T := TX4) (N := 6) hx hb hts wb_X4_press_4 hown hK hP 0 rfl rfl 0 (by decide) (hts _ wi_X4_press_1) (fun _ h9 => h9) rfl dX4_press_77 ?_
          refine lv_iload hx hb dX4_press_80 (lv_at hl 2 rfl) ?_
          refine g_aald (k := r) (v := ai r) hx hb hK hP 1 3 rfl rfl rfl (by omega) (by first | decide | omega) rfl dX4_press_82 ?_
          refine lv_iload hx hb dX4_press_83 (lv_at hl 1 rfl) ?_
          refine lv_iconst (v := 0) hx hb dX4_press_85 (by decide) ?_
          refine g_zast (r := r) (k := c) hx hb hK hP hD hS hw_ai hi_ai (by omega) (rfl) rfl (by omega) (by first | decide | omega) dX4_press_86 (fun f H locs hof hw9 hP hD hS => ?_)
          have hw_mi := hw_mi.other ap_mi_ai (by omega) hof
          have hw_ri := hw_ri.other ap_ri_ai (by omega) hof
          have hw_ai := hw9
          have hfr : ∀ b9, (∀ q9, q9 < R → b9 ≠ ai q9) → (∀ q9, q9 < R → b9 ≠ mi q9) → f b9 = f0 b9 := fun b h1 h2 => (hof b (h1 _ (show r < R by omega))).trans (hfr b h1 h2)
          refine lv_aload_n hx hb dX4_press_87 rfl (lv_at hl 3 rfl) ?_
          refine va_get (D := D) (ci := 4) (v := .ref mo) (C := RX4) (T := TX4) (N := 6) hx hb hts wb_X4_press_4 hown hK hP 0 rfl rfl 1 (by decide) (hts _ wi_X4_press_6) (fun _ h9 => h9) rfl dX4_press_88 ?_
          refine lv_iload hx hb dX4_press_91 (lv_at hl 2 rfl) ?_
          refine g_aald (k := r) (v := mi r) hx hb hK hP 2 2 rfl rfl rfl (by omega) (by first | decide | omega) rfl dX4_press_93 ?_
          refine lv_iload hx hb dX4_press_94 (lv_at hl 1 rfl) ?_
          refine lv_iload_n hx hb dX4_press_96 rfl (lv_at hl 6 rfl) ?_
          refine g_iast (r := r) (k := c) hx hb hK hP hD hS hw_mi hi_mi (by omega) rfl (by omega) (by first | decide | omega) dX4_press_97 (fun f H locs hof hw9 hP hD hS => ?_)
          have hw_ai := hw_ai.other ap_ai_mi (by omega) hof
          have hw_ri := hw_ri.other ap_ri_mi (by omega) hof
          have hw_mi := hw9
          have hfr : ∀ b9, (∀ q9, q9 < R → b9 ≠ ai q9) → (∀ q9, q9 < R → b9 ≠ mi q9) → f b9 = f0 b9 := fun b h1 h2 => (hof b (h2 _ (show r < R by omega))).trans (hfr b h1 h2)
          have e9_10 : (nI ((sm (fun q9 => sm (prS ig c0 r0 q9) C) r + sm (prS ig c0 r0 r) c) + 0)) = (nI (sm (fun q9 => sm (prS ig c0 r0 q9) C) r + sm (prS ig c0 r0 r) (c + 1))) := congrArg nI (by first | exact nb_step0 (prS_n (by omega)) | exact nb_step (prS_0 (by assumption) (by assumption)) | exact nb_step (prS_1 (by assumption) (by assumption)))
          have hl : lv_has ls 7 [(4, .int (nI (sm (fun q9 => sm (prS ig c0 r0 q9) C) r + sm (prS ig c0 r0 r) (c + 1)))), (6, .int (nI c)), (5, .int (nI r)), (0, .ref so), (1, .int (nI c0)), (2, .int (nI r0)), (3, .int (nI g))] := by rw [← e9_10]; exact hl
          refine lv_iinc (v := nI (c + 1)) (lv' := [(6, .int (nI (c + 1))), (4, .int (nI (sm (fun q9 => sm (prS ig c0 r0 q9) C) r + sm (prS ig c0 r0 r) (c + 1)))), (5, .int (nI r)), (0, .ref so), (1, .int (nI c0)), (2, .int (nI r0)), (3, .int (nI g))]) hx hb dX4_press_98 hl (k := 1) rfl (nI_1 _) (by decide) rfl (fun ls hl => ?_)
          refine lv_goto (tgt := 19) hx hb dX4_press_101 (by decide) ?_
          exact ih_4 (f, (c + 1)) (⟨by omega, hw_ai.congr (fun r1 _ c1 _ => by first | exact prI_up (by assumption) _ _ | exact prI_no (by omega) _ _), hw_mi.congr (fun r1 _ c1 _ => by first | exact prI_up (by assumption) _ _ | exact prI_no (by omega) _ _), hw_ri, hfr⟩) (by first | omega | (simp only []; omega) | (show _ < _; simp only []; omega)) H locs hP hD hS ls (lv_sub hl [0, 2, 1, 3, 4, 5, 6] rfl)
        · refine lv_iconst (v := 1) hx hb dX4_press_68 (by decide) ?_
          refine lv_goto (tgt := 73) hx hb dX4_press_69 (by decide) ?_
          refine lv_iadd hx hb dX4_press_73 ?_
          refine f_topi (y := nI ((sm (fun q9 => sm (prS ig c0 r0 q9) C) r + sm (prS ig c0 r0 r) c) + 1)) (nI_add (sm (fun q9 => sm (prS ig c0 r0 q9) C) r + sm (prS ig c0 r0 r) c) 1) ?_
          refine lv_istore (lv' := [(4, .int (nI ((sm (fun q9 => sm (prS ig c0 r0 q9) C) r + sm (prS ig c0 r0 r) c) + 1))), (6, .int (nI c)), (5, .int (nI r)), (0, .ref so), (1, .int (nI c0)), (2, .int (nI r0)), (3, .int (nI g))]) hx hb dX4_press_74 hl (by decide) rfl (fun ls hl => ?_)
          refine lv_aload_n hx hb dX4_press_76 rfl (lv_at hl 3 rfl) ?_
          refine va_get (D := D) (ci := 4) (v := .ref io) (C := RX4) (T := TX4) (N := 6) hx hb hts wb_X4_press_4 hown hK hP 0 rfl rfl 0 (by decide) (hts _ wi_X4_press_1) (fun _ h9 => h9) rfl dX4_press_77 ?_
          refine lv_iload hx hb dX4_press_80 (lv_at hl 2 rfl) ?_
          refine g_aald (k := r) (v := ai r) hx hb hK hP 1 3 rfl rfl rfl (by omega) (by first | decide | omega) rfl dX4_press_82 ?_
          refine lv_iload hx hb dX4_press_83 (lv_at hl 1 rfl) ?_
          refine lv_iconst (v := 0) hx hb dX4_press_85 (by decide) ?_
          refine g_zast (r := r) (k := c) hx hb hK hP hD hS hw_ai hi_ai (by omega) (rfl) rfl (by omega) (by first | decide | omega) dX4_press_86 (fun f H locs hof hw9 hP hD hS => ?_)
          have hw_mi := hw_mi.other ap_mi_ai (by omega) hof
          have hw_ri := hw_ri.other ap_ri_ai (by omega) hof
          have hw_ai := hw9
          have hfr : ∀ b9, (∀ q9, q9 < R → b9 ≠ ai q9) → (∀ q9, q9 < R → b9 ≠ mi q9) → f b9 = f0 b9 := fun b h1 h2 => (hof b (h1 _ (show r < R by omega))).trans (hfr b h1 h2)
          refine lv_aload_n hx hb dX4_press_87 rfl (lv_at hl 3 rfl) ?_
          refine va_get (D := D) (ci := 4) (v := .ref mo) (C := RX4) (T := TX4) (N := 6) hx hb hts wb_X4_press_4 hown hK hP 0 rfl rfl 1 (by decide) (hts _ wi_X4_press_6) (fun _ h9 => h9) rfl dX4_press_88 ?_
          refine lv_iload hx hb dX4_press_91 (lv_at hl 2 rfl) ?_
          refine g_aald (k := r) (v := mi r) hx hb hK hP 2 2 rfl rfl rfl (by omega) (by first | decide | omega) rfl dX4_press_93 ?_
          refine lv_iload hx hb dX4_press_94 (lv_at hl 1 rfl) ?_
          refine lv_iload_n hx hb dX4_press_96 rfl (lv_at hl 6 rfl) ?_
          refine g_iast (r := r) (k := c) hx hb hK hP hD hS hw_mi hi_mi (by omega) rfl (by omega) (by first | decide | omega) dX4_press_97 (fun f H locs hof hw9 hP hD hS => ?_)
          have hw_ai := hw_ai.other ap_ai_mi (by omega) hof
          have hw_ri := hw_ri.other ap_ri_mi (by omega) hof
          have hw_mi := hw9
          have hfr : ∀ b9, (∀ q9, q9 < R → b9 ≠ ai q9) → (∀ q9, q9 < R → b9 ≠ mi q9) → f b9 = f0 b9 := fun b h1 h2 => (hof b (h2 _ (show r < R by omega))).trans (hfr b h1 h2)
          have e9_11 : (nI ((sm (fun q9 => sm (prS ig c0 r0 q9) C) r + sm (prS ig c0 r0 r) c) + 1)) = (nI (sm (fun q9 => sm (prS ig c0 r0 q9) C) r + sm (prS ig c0 r0 r) (c + 1))) := congrArg nI (by first | exact nb_step0 (prS_n (by omega)) | exact nb_step (prS_0 (by assumption) (by assumption)) | exact nb_step (prS_1 (by assumption) (by assumption)))
          have hl : lv_has ls 7 [(4, .int (nI (sm (fun q9 => sm (prS ig c0 r0 q9) C) r + sm (prS ig c0 r0 r) (c + 1)))), (6, .int (nI c)), (5, .int (nI r)), (0, .ref so), (1, .int (nI c0)), (2, .int (nI r0)), (3, .int (nI g))] := by rw [← e9_11]; exact hl
          refine lv_iinc (v := nI (c + 1)) (lv' := [(6, .int (nI (c + 1))), (4, .int (nI (sm (fun q9 => sm (prS ig c0 r0 q9) C) r + sm (prS ig c0 r0 r) (c + 1)))), (5, .int (nI r)), (0, .ref so), (1, .int (nI c0)), (2, .int (nI r0)), (3, .int (nI g))]) hx hb dX4_press_98 hl (k := 1) rfl (nI_1 _) (by decide) rfl (fun ls hl => ?_)
          refine lv_goto (tgt := 19) hx hb dX4_press_101 (by decide) ?_
          exact ih_4 (f, (c + 1)) (⟨by omega, hw_ai.congr (fun r1 _ c1 _ => by first | exact prI_up (by assumption) _ _ | exact prI_no (by omega) _ _), hw_mi.congr (fun r1 _ c1 _ => by first | exact prI_up (by assumption) _ _ | exact prI_no (by omega) _ _), hw_ri, hfr⟩) (by first | omega | (simp only []; omega) | (show _ < _; simp only []; omega)) H locs hP hD hS ls (lv_sub hl [0, 2, 1, 3, 4, 5, 6] rfl)
      · have n_8 : 1 < ((nd r r0) + (nd c c0)) := Nat.lt_of_not_le (fun h => c_8 ((nI_leI (a := ((nd r r0) + (nd c c0))) (b := 1) (by (try unfold nd); omega) (by (try unfold nd); omega)).mpr h))
        refine lv_goto (tgt := 98) hx hb dX4_press_50 (by decide) ?_
        have e9_12 : (nI (sm (fun q9 => sm (prS ig c0 r0 q9) C) r + sm (prS ig c0 r0 r) c)) = (nI (sm (fun q9 => sm (prS ig c0 r0 q9) C) r + sm (prS ig c0 r0 r) (c + 1))) := congrArg nI (by first | exact nb_step0 (prS_n (by omega)) | exact nb_step (prS_0 (by assumption) (by assumption)) | exact nb_step (prS_1 (by assumption) (by assumption)))
        have hl : lv_has ls 7 [(6, .int (nI c)), (5, .int (nI r)), (4, .int (nI (sm (fun q9 => sm (prS ig c0 r0 q9) C) r + sm (prS ig c0 r0 r) (c + 1)))), (0, .ref so), (1, .int (nI c0)), (2, .int (nI r0)), (3, .int (nI g))] := by rw [← e9_12]; exact hl
        refine lv_iinc (v := nI (c + 1)) (lv' := [(6, .int (nI (c + 1))), (5, .int (nI r)), (4, .int (nI (sm (fun q9 => sm (prS ig c0 r0 q9) C) r + sm (prS ig c0 r0 r) (c + 1)))), (0, .ref so), (1, .int (nI c0)), (2, .int (nI r0)), (3, .int (nI g))]) hx hb dX4_press_98 hl (k := 0) rfl (nI_1 _) (by decide) rfl (fun ls hl => ?_)
        refine lv_goto (tgt := 19) hx hb dX4_press_101 (by decide) ?_
        exact ih_4 (f, (c + 1)) (⟨by omega, hw_ai.congr (fun r1 _ c1 _ => by first | exact prI_up (by assumption) _ _ | exact prI_no (by omega) _ _), hw_mi.congr (fun r1 _ c1 _ => by first | exact prI_up (by assumption) _ _ | exact prI_no (by omega) _ _), hw_ri, hfr⟩) (by first | omega | (simp only []; omega) | (show _ < _; simp only []; omega)) H locs hP hD hS ls (lv_sub hl [0, 1, 2, 3, 4, 5, 6] rfl)

theorem k_X4_lay : yX4_lay.cls = RX4 ∧ yX4_lay.cls ≠ "java/lang/invoke/MethodHandle" ∧ yX4_lay.cls ≠ "java/lang/invoke/VarHandle" ∧ (parseMethodDescriptor yX4_lay.desc).map (fun d => d.parameters.length) = some 2 := by decide +kernel
theorem wi_X4_lay_1 : (Cond.classLink RX4 7 "[[Z") ∈ wsX4_lay := List.mem_of_getElem? (i := 1) rfl
theorem wi_X4_lay_2 : (Cond.arrayClass .boolean) ∈ wsX4_lay := List.mem_of_getElem? (i := 2) rfl
theorem wi_X4_lay_3 : (Cond.fieldLink RX4 9 "FrostPaneLaw$Sim" "ice" "[[Z") ∈ wsX4_lay := List.mem_of_getElem? (i := 3) rfl
theorem wb_X4_lay_4 : ∀ w ∈ wsX40, w ∈ wsX4_lay := (fun _ h => List.mem_cons_of_mem _ (List.mem_append_right _ h))
theorem wi_X4_lay_4 : (Cond.classLink RX4 14 "[[I") ∈ wsX4_lay := List.mem_of_getElem? (i := 4) rfl
theorem wi_X4_lay_5 : (Cond.arrayClass .int) ∈ wsX4_lay := List.mem_of_getElem? (i := 5) rfl
theorem wi_X4_lay_6 : (Cond.fieldLink RX4 16 "FrostPaneLaw$Sim" "melt" "[[I") ∈ wsX4_lay := List.mem_of_getElem? (i := 6) rfl
set_option maxHeartbeats 4000000 in
set_option maxRecDepth 100000 in
theorem c_X4_lay (l : Launch) (D : va_G) (cI cZ cP cQ : ClassId) (sz : Nat) (so io mo ro F b C2 R2 : Nat) (gn : Int32) (L0 : List Nat) (f0 : Nat → va_E) (hC1 : 3 ≤ C2) (hC : C2 ≤ 12) (hR1 : 3 ≤ R2) (hR : R2 ≤ 12) : g_Mv l yX4_lay wsX4_lay ({ frames := 0, cells := 26, slots := 312, locals := 0 }) D (fTY cI cZ cP cQ) [.ref so, .int (nI C2), .int (nI R2)] sz (([(so, .inr (4, [.ref io, .ref mo, .int (nI F), .int gn, .int (nI b), .ref ro]))] ++ va_pl L0 f0)) (fun (u9 : Nat × Nat × (Nat → Nat) × (Nat → Nat) × (List Nat) × (Nat → va_E)) => (∀ b, b ∈ L0 → b ∈ (u9.2.2.2.2.1)) ∧ (∀ b, b ∈ L0 → (u9.2.2.2.2.2) b = f0 b) ∧ Rw cZ (u9.2.2.2.2.1) (u9.2.2.2.2.2) R2 C2 (u9.2.2.1) (fun _ _ => 0) ∧ Rw cI (u9.2.2.2.2.1) (u9.2.2.2.2.2) R2 C2 (u9.2.2.2.1) (fun _ _ => 0) ∧ Inj R2 (u9.2.2.1) ∧ Inj R2 (u9.2.2.2.1) ∧ (∀ r, r < R2 → (u9.2.2.1) r ∉ L0) ∧ (∀ r, r < R2 → (u9.2.2.2.1) r ∉ L0) ∧ Apt R2 R2 (u9.2.2.1) (u9.2.2.2.1) ∧ Apt R2 R2 (u9.2.2.2.1) (u9.2.2.1)) (fun u9 => ([(so, .inr (4, [.ref (u9.1), .ref (u9.2.1), .int (nI F), .int gn, .int (nI b), .ref ro])), (u9.1, .inl (cQ, R2, .inr (.inr (.inr (.inr (rq (u9.2.2.1))))))), (u9.2.1, .inl (cP, R2, .inr (.inr (.inr (.inr (rq (u9.2.2.2.1)))))))] ++ va_pl (u9.2.2.2.2.1) (u9.2.2.2.2.2))) 26 312 := by
  refine g_ent_v (by decide) rfl (Nat.le_of_ble_eq_true rfl) ?_
  intro pg ev s m below meth cd hx hb hr hts hown hlocks hml hnm hsz hP hK hN A hD hA hS ls hl
  have hown : s.vm.findClass RX4 = some m.cls := hown
  have hl : lv_has ls 3 [(0, .ref so), (1, .int (nI C2)), (2, .int (nI R2))] := hl
  have hRC : R2 * C2 ≤ 144 := Nat.mul_le_mul hR hC
  obtain ⟨L, hLeq⟩ : ∃ z, z = L0 := ⟨_, rfl⟩
  obtain ⟨f, hfeq⟩ : ∃ z, z = f0 := ⟨_, rfl⟩
  have hP : va_P D vwCl ([(so, .inr (4, [.ref io, .ref mo, .int (nI F), .int gn, .int (nI b), .ref ro]))] ++ va_pl L f) s.heap := by rw [hLeq, hfeq]; exact hP
  have hD : va_D A ([(so, .inr (4, [.ref io, .ref mo, .int (nI F), .int gn, .int (nI b), .ref ro]))] ++ va_pl L f) := by rw [hLeq, hfeq]; exact hD
  refine lv_aload_n hx hb dX4_lay_0 rfl (lv_at hl 0 rfl) ?_
  refine lv_iload_n hx hb dX4_lay_1 rfl (lv_at hl 2 rfl) ?_
  refine lv_iload_n hx hb dX4_lay_2 rfl (lv_at hl 1 rfl) ?_
  refine g_mnaZ (N' := R2) (K' := C2) hx hb hown (hts _ wi_X4_lay_1) hN (hts _ wi_X4_lay_2) hK hP hD hS hA rfl rfl (by first | decide | omega) (by first | decide | omega) (by show 0 + (1 + R2) ≤ 26; omega) (by show 0 + (R2 + R2 * C2) ≤ 312; omega) dX4_lay_3 (fun na_1 aj L f H hi_aj hn_aj hLL hff hw_aj hP hD hS => ?_)
  have hLa : ∀ b, b ∈ L0 → b ∈ L := fun b h => hLL b (hLeq ▸ h)
  have hfa : ∀ b, b ∈ L0 → f b = f0 b := fun b h => (hff b (hLeq ▸ h)).trans (by rw [hfeq])
  have hna : ∀ r, r < R2 → aj r ∉ L0 := fun r h z => hn_aj r h (hLeq ▸ z)
  have hP : va_P D vwCl ([(so, .inr (4, [.ref io, .ref mo, .int (nI F), .int gn, .int (nI b), .ref ro])), (na_1, .inl (cQ, R2, .inr (.inr (.inr (.inr (rq aj))))))] ++ va_pl L f) _ := hP
  have hD : va_D A ([(so, .inr (4, [.ref io, .ref mo, .int (nI F), .int gn, .int (nI b), .ref ro])), (na_1, .inl (cQ, R2, .inr (.inr (.inr (.inr (rq aj))))))] ++ va_pl L f) := hD
  refine va_put (D := D) (ci := 4) (v := .ref na_1) (ty := tyX4 0) (C := RX4) (T := TX4) (N := 6) hx hb hts wb_X4_lay_4 tyX4 tyX4_ok nmX4 hown hK hP hD hS 0 rfl rfl 0 (by decide) (hts _ wi_X4_lay_3) (fun _ h9 => h9) rfl (tyX4_ok 0 (by decide)) rfl rfl (Nat.le_of_ble_eq_true rfl) dX4_lay_7 (fun H locs hP hD hS => ?_)
  have hP : va_P D vwCl ([(so, .inr (4, [.ref na_1, .ref mo, .int (nI F), .int gn, .int (nI b), .ref ro])), (na_1, .inl (cQ, R2, .inr (.inr (.inr (.inr (rq aj))))))] ++ va_pl L f) _ := hP
  have hD : va_D A ([(so, .inr (4, [.ref na_1, .ref mo, .int (nI F), .int gn, .int (nI b), .ref ro])), (na_1, .inl (cQ, R2, .inr (.inr (.inr (.inr (rq aj))))))] ++ va_pl L f) := hD
  refine lv_aload_n hx hb dX4_lay_10 rfl (lv_at hl 0 rfl) ?_
  refine lv_iload_n hx hb dX4_lay_11 rfl (lv_at hl 2 rfl) ?_
  refine lv_iload_n hx hb dX4_lay_12 rfl (lv_at hl 1 rfl) ?_
  refine g_mnaI (N' := R2) (K' := C2) hx hb hown (hts _ wi_X4_lay_4) hN (hts _ wi_X4_lay_5) hK hP hD hS hA rfl rfl (by first | decide | omega) (by first | decide | omega) (by show 0 + 1 + R2 + (1 + R2) ≤ 26; omega) (by show 0 + R2 + R2 * C2 + (R2 + R2 * C2) ≤ 312; omega) dX4_lay_13 (fun na_2 mj L f H hi_mj hn_mj hLL hff hw_mj hP hD hS => ?_)
  have ap_aj_mj : Apt R2 R2 aj mj := fun r9 r8 h9 h8 e9 => hn_mj r8 h8 (e9 ▸ (hw_aj).mem h9)
  have ap_mj_aj : Apt R2 R2 mj aj := fun r8 r9 h8 h9 e9 => ap_aj_mj r9 r8 h9 h8 e9.symm
  have hw_aj := hw_aj.keep hLL (fun r9 h9 => hff _ ((hw_aj).mem h9))
  have hP : va_P D vwCl ([(so, .inr (4, [.ref na_1, .ref mo, .int (nI F), .int gn, .int (nI b), .ref ro])), (na_1, .inl (cQ, R2, .inr (.inr (.inr (.inr (rq aj)))))), (na_2, .inl (cP, R2, .inr (.inr (.inr (.inr (rq mj))))))] ++ va_pl L f) _ := hP
  have hD : va_D A ([(so, .inr (4, [.ref na_1, .ref mo, .int (nI F), .int gn, .int (nI b), .ref ro])), (na_1, .inl (cQ, R2, .inr (.inr (.inr (.inr (rq aj)))))), (na_2, .inl (cP, R2, .inr (.inr (.inr (.inr (rq mj))))))] ++ va_pl L f) := hD
  refine va_put (D := D) (ci := 4) (v := .ref na_2) (ty := tyX4 1) (C := RX4) (T := TX4) (N := 6) hx hb hts wb_X4_lay_4 tyX4 tyX4_ok nmX4 hown hK hP hD hS 0 rfl rfl 1 (by decide) (hts _ wi_X4_lay_6) (fun _ h9 => h9) rfl (tyX4_ok 1 (by decide)) rfl rfl (Nat.le_of_ble_eq_true rfl) dX4_lay_17 (fun H locs hP hD hS => ?_)
  have hP : va_P D vwCl ([(so, .inr (4, [.ref na_1, .ref na_2, .int (nI F), .int gn, .int (nI b), .ref ro])), (na_1, .inl (cQ, R2, .inr (.inr (.inr (.inr (rq aj)))))), (na_2, .inl (cP, R2, .inr (.inr (.inr (.inr (rq mj))))))] ++ va_pl L f) _ := hP
  have hD : va_D A ([(so, .inr (4, [.ref na_1, .ref na_2, .int (nI F), .int gn, .int (nI b), .ref ro])), (na_1, .inl (cQ, R2, .inr (.inr (.inr (.inr (rq aj)))))), (na_2, .inl (cP, R2, .inr (.inr (.inr (.inr (rq mj))))))] ++ va_pl L f) := hD
  refine W.widen (k := 26) (n := 312) (by first | omega | exact Nat.le_of_ble_eq_true rfl) (by first | omega | exact Nat.le_of_ble_eq_true rfl) ?_
  exact g_ret_v (na_1, na_2, aj, mj, L, f) hx hb hr hlocks hP hD hS dX4_lay_20 (⟨fun b h => hLL b (hLa b h), fun b h => (hff b (hLa b h)).trans (hfa b h), hw_aj, hw_mj, hi_aj, hi_mj, hna, fun r h z => hn_mj r h (hLa _ z), ap_aj_mj, ap_mj_aj⟩)

/-! what is grown, cell by cell -/
def dn9 (r c r' c' : Nat) : Prop := r' < r ∨ (r' = r ∧ c' < c)
def gwI (C R F b : Nat) (ig mg rg : Nat → Nat → Int32) (r c : Nat) : Nat → Nat → Int32 := fun r' c' => if r' < r ∨ (r' = r ∧ c' < c) then wlI C R F b ig mg rg c' r' else 0
theorem gwI_up {C R F b : Nat} {ig mg rg : Nat → Nat → Int32} {r c : Nat} (r' c' : Nat) : up2 (gwI C R F b ig mg rg r c) r c (wlI C R F b ig mg rg c r) r' c' = gwI C R F b ig mg rg r (c + 1) r' c' := by
  by_cases e : r' = r ∧ c' = c
  · obtain ⟨rfl, rfl⟩ := e
    rw [up2_at]; exact (if_pos (Or.inr ⟨rfl, by omega⟩)).symm
  · rw [up2_ne e]
    unfold gwI
    by_cases h2 : r' < r ∨ (r' = r ∧ c' < c)
    · rw [if_pos h2, if_pos (by omega)]
    · rw [if_neg h2, if_neg (by omega)]
theorem gwI_row {C C1 R F b : Nat} {ig mg rg : Nat → Nat → Int32} {r : Nat} {r' c' : Nat} (h : c' < C1) : gwI C R F b ig mg rg r C1 r' c' = gwI C R F b ig mg rg (r + 1) 0 r' c' := by
  unfold gwI
  by_cases h2 : r' < r ∨ (r' = r ∧ c' < C1)
  · rw [if_pos h2, if_pos (by omega)]
  · rw [if_neg h2, if_neg (by omega)]
theorem gwI_end {C R F b : Nat} {ig mg rg : Nat → Nat → Int32} {r' c' : Nat} (h : r' < R) : gwI C R F b ig mg rg R 0 r' c' = wlI C R F b ig mg rg c' r' := if_pos (Or.inl h)
theorem gwI_0 {C R F b : Nat} {ig mg rg : Nat → Nat → Int32} (r' c' : Nat) : (0 : Int32) = gwI C R F b ig mg rg 0 0 r' c' := (if_neg (by omega)).symm
def dcI (g : Nat → Nat → Int32) (r c : Nat) : Nat → Nat → Int32 := fun r' c' => if r' < r ∨ (r' = r ∧ c' < c) then ml1 (g r' c') else g r' c'
theorem dcI_at (g : Nat → Nat → Int32) (r c : Nat) : dcI g r c r c = g r c := if_neg (by omega)
theorem dcI_0 (g : Nat → Nat → Int32) (r' c' : Nat) : g r' c' = dcI g 0 0 r' c' := (if_neg (by omega)).symm
theorem dcI_end {g : Nat → Nat → Int32} {R r' c' : Nat} (h : r' < R) : dcI g R 0 r' c' = ml1 (g r' c') := if_pos (Or.inl h)
theorem dcI_row {g : Nat → Nat → Int32} {r C r' c' : Nat} (h : c' < C) : dcI g r C r' c' = dcI g (r + 1) 0 r' c' := by
  unfold dcI
  by_cases h2 : r' < r ∨ (r' = r ∧ c' < C)
  · rw [if_pos h2, if_pos (by omega)]
  · rw [if_neg h2, if_neg (by omega)]
theorem dcI_up {g : Nat → Nat → Int32} {r c : Nat} (h : ¬ dcI g r c r c ≤ 0) (r' c' : Nat) : up2 (dcI g r c) r c (dcI g r c r c - 1) r' c' = dcI g r (c + 1) r' c' := by
  rw [dcI_at] at h ⊢
  by_cases e : r' = r ∧ c' = c
  · obtain ⟨rfl, rfl⟩ := e
    rw [up2_at]
    refine Eq.trans ?_ (if_pos (Or.inr ⟨rfl, by omega⟩)).symm
    exact (if_neg h).symm
  · rw [up2_ne e]
    unfold dcI
    by_cases h2 : r' < r ∨ (r' = r ∧ c' < c)
    · rw [if_pos h2, if_pos (by omega)]
    · rw [if_neg h2, if_neg (by omega)]
theorem dcI_no {g : Nat → Nat → Int32} {r c : Nat} (h : dcI g r c r c ≤ 0) (r' c' : Nat) : dcI g r c r' c' = dcI g r (c + 1) r' c' := by
  rw [dcI_at] at h
  by_cases e : r' = r ∧ c' = c
  · obtain ⟨rfl, rfl⟩ := e
    rw [dcI_at]
    refine Eq.trans ?_ (if_pos (Or.inr ⟨rfl, by omega⟩)).symm
    exact (if_pos h).symm
  · unfold dcI
    by_cases h2 : r' < r ∨ (r' = r ∧ c' < c)
    · rw [if_pos h2, if_pos (by omega)]
    · rw [if_neg h2, if_neg (by omega)]
theorem k_X4_grow : yX4_grow.cls = RX4 ∧ yX4_grow.cls ≠ "java/lang/invoke/MethodHandle" ∧ yX4_grow.cls ≠ "java/lang/invoke/VarHandle" ∧ (parseMethodDescriptor yX4_grow.desc).map (fun d => d.parameters.length) = some 0 := by decide +kernel
theorem wb_X4_grow_4 : ∀ w ∈ wsX40, w ∈ wsX4_grow := (fun _ h => List.mem_cons_of_mem _ (List.mem_append_right _ h))
theorem wi_X4_grow_1 : (Cond.fieldLink RX4 9 "FrostPaneLaw$Sim" "ice" "[[Z") ∈ wsX4_grow := List.mem_of_getElem? (i := 1) rfl
theorem wi_X4_grow_2 : (Cond.classLink RX4 7 "[[Z") ∈ wsX4_grow := List.mem_of_getElem? (i := 2) rfl
theorem wi_X4_grow_3 : (Cond.arrayClass .boolean) ∈ wsX4_grow := List.mem_of_getElem? (i := 3) rfl
theorem wi_X4_grow_5 : (Cond.fieldLink RX4 40 "FrostPaneLaw$Sim" "generation" "I") ∈ wsX4_grow := List.mem_of_getElem? (i := 5) rfl
theorem wi_X4_grow_4 : (Cond.fieldLink RX4 16 "FrostPaneLaw$Sim" "melt" "[[I") ∈ wsX4_grow := List.mem_of_getElem? (i := 4) rfl
set_option maxHeartbeats 4000000 in
set_option maxRecDepth 100000 in
theorem c_X4_grow (l : Launch) (D : va_G) (cI cZ cP cQ : ClassId) (sz : Nat) (so io mo ro C R F n b : Nat) (gn : Int32) (L0 : List Nat) (f0 : Nat → va_E) (ai mi ri : Nat → Nat) (ig mg rg : Nat → Nat → Int32) (hC1 : 3 ≤ C) (hC : C ≤ 12) (hR1 : 3 ≤ R) (hR : R ≤ 12) (hF : F ≤ 2) (hn : n ≤ 6) (hb0 : b < n) (hw_ai : Rw cZ L0 f0 R C ai ig) (hw_mi : Rw cI L0 f0 R C mi mg) (hw_ri : Rw cI L0 f0 n 2 ri rg) (hi_ai : Inj R ai) (hi_mi : Inj R mi) (ap_ai_mi : Apt R R ai mi) (ap_mi_ai : Apt R R mi ai) (ap_ri_ai : Apt n R ri ai) (ap_ri_mi : Apt n R ri mi) : g_Mv l yX4_grow wsX4_grow ({ frames := 3, cells := 13, slots := 156, locals := 73 }) D (fTY cI cZ cP cQ) [.ref so] sz (([(so, .inr (4, [.ref io, .ref mo, .int (nI F), .int gn, .int (nI b), .ref ro])), (io, .inl (cQ, R, .inr (.inr (.inr (.inr (rq ai)))))), (mo, .inl (cP, R, .inr (.inr (.inr (.inr (rq mi)))))), (ro, .inl (cP, n, .inr (.inr (.inr (.inr (rq ri))))))] ++ va_pl L0 f0)) (fun (u9 : Nat × (Nat → Nat) × (List Nat) × (Nat → va_E)) => (∀ b9, b9 ∈ L0 → b9 ∈ (u9.2.2.1)) ∧ Inj R (u9.2.1) ∧ (∀ q9, q9 < R → (u9.2.1) q9 ∉ L0) ∧ Rw cZ (u9.2.2.1) (u9.2.2.2) R C (u9.2.1) (fun q9 p9 => wlI C R F b ig mg rg p9 q9) ∧ Rw cI (u9.2.2.1) (u9.2.2.2) R C mi (fun q9 p9 => ml1 (mg q9 p9)) ∧ Rw cI (u9.2.2.1) (u9.2.2.2) n 2 ri rg ∧ (∀ b9, b9 ∈ L0 → (∀ q9, q9 < R → b9 ≠ mi q9) → (u9.2.2.2) b9 = f0 b9)) (fun u9 => ([(so, .inr (4, [.ref (u9.1), .ref mo, .int (nI F), .int (gn + 1), .int (nI b), .ref ro])), (u9.1, .inl (cQ, R, .inr (.inr (.inr (.inr (rq (u9.2.1))))))), (mo, .inl (cP, R, .inr (.inr (.inr (.inr (rq mi)))))), (ro, .inl (cP, n, .inr (.inr (.inr (.inr (rq ri))))))] ++ va_pl (u9.2.2.1) (u9.2.2.2))) 13 156 := by
  refine g_ent_v (by decide) rfl (Nat.le_of_ble_eq_true rfl) ?_
  intro pg ev s m below meth cd hx hb hr hts hown hlocks hml hnm hsz hP hK hN A hD hA hS ls hl
  have hown : s.vm.findClass RX4 = some m.cls := hown
  have hl : lv_has ls 4 [(0, .ref so)] := hl
  have hRC : R * C ≤ 144 := Nat.mul_le_mul hR hC
  obtain ⟨L, hLeq⟩ : ∃ z, z = L0 := ⟨_, rfl⟩
  obtain ⟨f, hfeq⟩ : ∃ z, z = f0 := ⟨_, rfl⟩
  have hP : va_P D vwCl ([(so, .inr (4, [.ref io, .ref mo, .int (nI F), .int gn, .int (nI b), .ref ro])), (io, .inl (cQ, R, .inr (.inr (.inr (.inr (rq ai)))))), (mo, .inl (cP, R, .inr (.inr (.inr (.inr (rq mi)))))), (ro, .inl (cP, n, .inr (.inr (.inr (.inr (rq ri))))))] ++ va_pl L f) s.heap := by rw [hLeq, hfeq]; exact hP
  have hD : va_D A ([(so, .inr (4, [.ref io, .ref mo, .int (nI F), .int gn, .int (nI b), .ref ro])), (io, .inl (cQ, R, .inr (.inr (.inr (.inr (rq ai)))))), (mo, .inl (cP, R, .inr (.inr (.inr (.inr (rq mi)))))), (ro, .inl (cP, n, .inr (.inr (.inr (.inr (rq ri))))))] ++ va_pl L f) := by rw [hLeq, hfeq]; exact hD
  have hw_ai : Rw cZ L f R C ai ig := by rw [hLeq, hfeq]; exact hw_ai
  have hw_mi : Rw cI L f R C mi mg := by rw [hLeq, hfeq]; exact hw_mi
  have hw_ri : Rw cI L f n 2 ri rg := by rw [hLeq, hfeq]; exact hw_ri
  refine lv_aload_n hx hb dX4_grow_0 rfl (lv_at hl 0 rfl) ?_
  refine va_get (D := D) (ci := 4) (v := .ref io) (C := RX4) (T := TX4) (N := 6) hx hb hts wb_X4_grow_4 hown hK hP 0 rfl rfl 0 (by decide) (hts _ wi_X4_grow_1) (fun _ h9 => h9) rfl dX4_grow_1 ?_
  refine va_alen (v := nI R) hx hb hK hP 1 3 rfl rfl rfl dX4_grow_4 ?_
  refine lv_aload_n hx hb dX4_grow_5 rfl (lv_at hl 0 rfl) ?_
  refine va_get (D := D) (ci := 4) (v := .ref io) (C := RX4) (T := TX4) (N := 6) hx hb hts wb_X4_grow_4 hown hK hP 0 rfl rfl 0 (by decide) (hts _ wi_X4_grow_1) (fun _ h9 => h9) rfl dX4_grow_6 ?_
  refine lv_iconst (v := 0) hx hb dX4_grow_9 (by decide) ?_
  refine g_aald (k := 0) (v := ai 0) hx hb hK hP 1 3 rfl rfl rfl (by omega) (by first | decide | omega) rfl dX4_grow_10 ?_
  refine g_zlen (r := 0) hx hb hK hP hw_ai (by omega) dX4_grow_11 ?_
  refine g_mnaZ (N' := R) (K' := C) hx hb hown (hts _ wi_X4_grow_2) hN (hts _ wi_X4_grow_3) hK hP hD hS hA rfl rfl (by first | decide | omega) (by first | decide | omega) (by show 0 + (1 + R) ≤ 13; omega) (by show 0 + (R + R * C) ≤ 156; omega) dX4_grow_12 (fun na_1 aj L f H hi_aj hn_aj hLL hff hw_aj hP hD hS => ?_)
  have ap_ai_aj : Apt R R ai aj := fun r9 r8 h9 h8 e9 => hn_aj r8 h8 (e9 ▸ (hw_ai).mem h9)
  have ap_aj_ai : Apt R R aj ai := fun r8 r9 h8 h9 e9 => ap_ai_aj r9 r8 h9 h8 e9.symm
  have ap_mi_aj : Apt R R mi aj := fun r9 r8 h9 h8 e9 => hn_aj r8 h8 (e9 ▸ (hw_mi).mem h9)
  have ap_aj_mi : Apt R R aj mi := fun r8 r9 h8 h9 e9 => ap_mi_aj r9 r8 h9 h8 e9.symm
  have ap_ri_aj : Apt n R ri aj := fun r9 r8 h9 h8 e9 => hn_aj r8 h8 (e9 ▸ (hw_ri).mem h9)
  have ap_aj_ri : Apt R n aj ri := fun r8 r9 h8 h9 e9 => ap_ri_aj r9 r8 h9 h8 e9.symm
  have hw_ai := hw_ai.keep hLL (fun r9 h9 => hff _ ((hw_ai).mem h9))
  have hw_mi := hw_mi.keep hLL (fun r9 h9 => hff _ ((hw_mi).mem h9))
  have hw_ri := hw_ri.keep hLL (fun r9 h9 => hff _ ((hw_ri).mem h9))
  have hLa : ∀ b9, b9 ∈ L0 → b9 ∈ L := fun b1 h => hLL b1 (hLeq ▸ h)
  have hfr : ∀ b9, b9 ∈ L0 → (∀ q9, q9 < R → b9 ≠ mi q9) → f b9 = f0 b9 := fun b1 h1 _ => (hff b1 (hLeq ▸ h1)).trans (by rw [hfeq])
  have hna : ∀ q9, q9 < R → aj q9 ∉ L0 := fun r h z => hn_aj r h (hLeq ▸ z)
  have hw_aj := hw_aj.congr (g' := gwI C R F b ig mg rg 0 0) (fun r1 _ c1 _ => gwI_0 r1 c1)
  refine W.widen (k := 13) (n := 156) (by show 0 + 1 + R ≤ 13; omega) (by show 0 + R + R * C ≤ 156; omega) ?_
  have hP : va_P D vwCl ([(so, .inr (4, [.ref io, .ref mo, .int (nI F), .int gn, .int (nI b), .ref ro])), (io, .inl (cQ, R, .inr (.inr (.inr (.inr (rq ai)))))), (mo, .inl (cP, R, .inr (.inr (.inr (.inr (rq mi)))))), (ro, .inl (cP, n, .inr (.inr (.inr (.inr (rq ri)))))), (na_1, .inl (cQ, R, .inr (.inr (.inr (.inr (rq aj))))))] ++ va_pl L f) _ := hP
  have hD : va_D A ([(so, .inr (4, [.ref io, .ref mo, .int (nI F), .int gn, .int (nI b), .ref ro])), (io, .inl (cQ, R, .inr (.inr (.inr (.inr (rq ai)))))), (mo, .inl (cP, R, .inr (.inr (.inr (.inr (rq mi)))))), (ro, .inl (cP, n, .inr (.inr (.inr (.inr (rq ri)))))), (na_1, .inl (cQ, R, .inr (.inr (.inr (.inr (rq aj))))))] ++ va_pl L f) := hD
  refine lv_astore_n (lv' := [(1, .ref na_1), (0, .ref so)]) hx hb dX4_grow_16 rfl hl (by decide) rfl (fun ls hl => ?_)
  refine lv_iconst (v := 0) hx hb dX4_grow_17 (by decide) ?_
  refine lv_istore_n (lv' := [(2, .int 0), (1, .ref na_1), (0, .ref so)]) hx hb dX4_grow_18 rfl hl (by decide) rfl (fun ls hl => ?_)
  refine f_loopW (σ := (Nat → va_E) × Nat) (D := D) (A := A) (H0 := s.heap) 4 19 (fun u9 => [(2, .int (nI (u9.2))), (1, .ref na_1), (0, .ref so)]) (fun u9 => ([(so, .inr (4, [.ref io, .ref mo, .int (nI F), .int gn, .int (nI b), .ref ro])), (io, .inl (cQ, R, .inr (.inr (.inr (.inr (rq ai)))))), (mo, .inl (cP, R, .inr (.inr (.inr (.inr (rq mi)))))), (ro, .inl (cP, n, .inr (.inr (.inr (.inr (rq ri)))))), (na_1, .inl (cQ, R, .inr (.inr (.inr (.inr (rq aj))))))] ++ va_pl L (u9.1))) (fun u9 => (u9.2) ≤ R ∧ Rw cZ L (u9.1) R C aj (gwI C R F b ig mg rg (u9.2) 0) ∧ Rw cZ L (u9.1) R C ai ig ∧ Rw cI L (u9.1) R C mi mg ∧ Rw cI L (u9.1) n 2 ri rg ∧ (∀ b9, b9 ∈ L0 → (∀ q9, q9 < R → b9 ≠ mi q9) → (u9.1) b9 = f0 b9)) (fun u9 => R - (u9.2))
      (fun u9 hi_3 ih_2 H locs hP hD hS ls hl => ?_) (f, 0) (⟨Nat.zero_le _, hw_aj, hw_ai, hw_mi, hw_ri, hfr⟩) hP hD hS (lv_sub hl [0, 1, 2] rfl)
  obtain ⟨f, r⟩ := u9
  have hi_3 : r ≤ R ∧ Rw cZ L f R C aj (gwI C R F b ig mg rg r 0) ∧ Rw cZ L f R C ai ig ∧ Rw cI L f R C mi mg ∧ Rw cI L f n 2 ri rg ∧ (∀ b9, b9 ∈ L0 → (∀ q9, q9 < R → b9 ≠ mi q9) → f b9 = f0 b9) := hi_3
  obtain ⟨hrR, hw_aj, hw_ai, hw_mi, hw_ri, hfr⟩ := hi_3
  have hl : lv_has ls 4 [(2, .int (nI r)), (1, .ref na_1), (0, .ref so)] := hl
  have hP : va_P D vwCl ([(so, .inr (4, [.ref io, .ref mo, .int (nI F), .int gn, .int (nI b), .ref ro])), (io, .inl (cQ, R, .inr (.inr (.inr (.inr (rq ai)))))), (mo, .inl (cP, R, .inr (.inr (.inr (.inr (rq mi)))))), (ro, .inl (cP, n, .inr (.inr (.inr (.inr (rq ri)))))), (na_1, .inl (cQ, R, .inr (.inr (.inr (.inr (rq aj))))))] ++ va_pl L f) _ := hP
  have hD : va_D A ([(so, .inr (4, [.ref io, .ref mo, .int (nI F), .int gn, .int (nI b), .ref ro])), (io, .inl (cQ, R, .inr (.inr (.inr (.inr (rq ai)))))), (mo, .inl (cP, R, .inr (.inr (.inr (.inr (rq mi)))))), (ro, .inl (cP, n, .inr (.inr (.inr (.inr (rq ri)))))), (na_1, .inl (cQ, R, .inr (.inr (.inr (.inr (rq aj))))))] ++ va_pl L f) := hD
  refine lv_iload_n hx hb dX4_grow_19 rfl (lv_at hl 0 rfl) ?_
  refine lv_aload_n hx hb dX4_grow_20 rfl (lv_at hl 2 rfl) ?_
  refine va_get (D := D) (ci := 4) (v := .ref io) (C := RX4) (T := TX4) (N := 6) hx hb hts wb_X4_grow_4 hown hK hP 0 rfl rfl 0 (by decide) (hts _ wi_X4_grow_1) (fun _ h9 => h9) rfl dX4_grow_21 ?_
  refine va_alen (v := nI R) hx hb hK hP 1 3 rfl rfl rfl dX4_grow_24 ?_
  refine lv_icmp_ge (tgt := 64) hx hb dX4_grow_25 (by decide) (fun c_4 => ?_) (fun c_4 => ?_)
  · have n_4 : R ≤ r := (nI_leI (a := R) (b := r) (by omega) (by omega)).mp c_4
    have hw_aj : Rw cZ L f R C aj (fun q9 p9 => wlI C R F b ig mg rg p9 q9) := hw_aj.congr (fun r1 h1 c1 _ => by rw [show r = R by omega]; exact gwI_end h1)
    have hw_mi : Rw cI L f R C mi (dcI mg 0 0) := hw_mi.congr (fun r1 _ c1 _ => dcI_0 mg r1 c1)
    refine lv_iconst (v := 0) hx hb dX4_grow_64 (by decide) ?_
    refine lv_istore_n (lv' := [(2, .int 0), (1, .ref na_1), (0, .ref so)]) hx hb dX4_grow_65 rfl hl (by decide) rfl (fun ls hl => ?_)
    refine f_loopW (σ := (Nat → va_E) × Nat) (D := D) (A := A) (H0 := s.heap) 4 66 (fun u9 => [(2, .int (nI (u9.2))), (1, .ref na_1), (0, .ref so)]) (fun u9 => ([(so, .inr (4, [.ref io, .ref mo, .int (nI F), .int gn, .int (nI b), .ref ro])), (io, .inl (cQ, R, .inr (.inr (.inr (.inr (rq ai)))))), (mo, .inl (cP, R, .inr (.inr (.inr (.inr (rq mi)))))), (ro, .inl (cP, n, .inr (.inr (.inr (.inr (rq ri)))))), (na_1, .inl (cQ, R, .inr (.inr (.inr (.inr (rq aj))))))] ++ va_pl L (u9.1))) (fun u9 => (u9.2) ≤ R ∧ Rw cI L (u9.1) R C mi (dcI mg (u9.2) 0) ∧ Rw cZ L (u9.1) R C aj (fun q9 p9 => wlI C R F b ig mg rg p9 q9) ∧ Rw cZ L (u9.1) R C ai ig ∧ Rw cI L (u9.1) n 2 ri rg ∧ (∀ b9, b9 ∈ L0 → (∀ q9, q9 < R → b9 ≠ mi q9) → (u9.1) b9 = f0 b9)) (fun u9 => R - (u9.2))
        (fun u9 hi_6 ih_5 H locs hP hD hS ls hl => ?_) (f, 0) (⟨Nat.zero_le _, hw_mi, hw_aj, hw_ai, hw_ri, hfr⟩) hP hD hS (lv_sub hl [0, 1, 2] rfl)
    obtain ⟨f, r⟩ := u9
    have hi_6 : r ≤ R ∧ Rw cI L f R C mi (dcI mg r 0) ∧ Rw cZ L f R C aj (fun q9 p9 => wlI C R F b ig mg rg p9 q9) ∧ Rw cZ L f R C ai ig ∧ Rw cI L f n 2 ri rg ∧ (∀ b9, b9 ∈ L0 → (∀ q9, q9 < R → b9 ≠ mi q9) → f b9 = f0 b9) := hi_6
    obtain ⟨hrR, hw_mi, hw_aj, hw_ai, hw_ri, hfr⟩ := hi_6
    have hl : lv_has ls 4 [(2, .int (nI r)), (1, .ref na_1), (0, .ref so)] := hl
    have hP : va_P D vwCl ([(so, .inr (4, [.ref io, .ref mo, .int (nI F), .int gn, .int (nI b), .ref ro])), (io, .inl (cQ, R, .inr (.inr (.inr (.inr (rq ai)))))), (mo, .inl (cP, R, .inr (.inr (.inr (.inr (rq mi)))))), (ro, .inl (cP, n, .inr (.inr (.inr (.inr (rq ri)))))), (na_1, .inl (cQ, R, .inr (.inr (.inr (.inr (rq aj))))))] ++ va_pl L f) _ := hP
    have hD : va_D A ([(so, .inr (4, [.ref io, .ref mo, .int (nI F), .int gn, .int (nI b), .ref ro])), (io, .inl (cQ, R, .inr (.inr (.inr (.inr (rq ai)))))), (mo, .inl (cP, R, .inr (.inr (.inr (.inr (rq mi)))))), (ro, .inl (cP, n, .inr (.inr (.inr (.inr (rq ri)))))), (na_1, .inl (cQ, R, .inr (.inr (.inr (.inr (rq aj))))))] ++ va_pl L f) := hD
    refine lv_iload_n hx hb dX4_grow_66 rfl (lv_at hl 0 rfl) ?_
    refine lv_aload_n hx hb dX4_grow_67 rfl (lv_at hl 2 rfl) ?_
    refine va_get (D := D) (ci := 4) (v := .ref io) (C := RX4) (T := TX4) (N := 6) hx hb hts wb_X4_grow_4 hown hK hP 0 rfl rfl 0 (by decide) (hts _ wi_X4_grow_1) (fun _ h9 => h9) rfl dX4_grow_68 ?_
    refine va_alen (v := nI R) hx hb hK hP 1 3 rfl rfl rfl dX4_grow_71 ?_
    refine lv_icmp_ge (tgt := 123) hx hb dX4_grow_72 (by decide) (fun c_7 => ?_) (fun c_7 => ?_)
    · have n_7 : R ≤ r := (nI_leI (a := R) (b := r) (by omega) (by omega)).mp c_7
      have hw_mi : Rw cI L f R C mi (fun q9 p9 => ml1 (mg q9 p9)) := hw_mi.congr (fun r1 h1 c1 _ => by rw [show r = R by omega]; exact dcI_end h1)
      refine lv_aload_n hx hb dX4_grow_123 rfl (lv_at hl 2 rfl) ?_
      refine lv_aload_n hx hb dX4_grow_124 rfl (lv_at hl 1 rfl) ?_
      refine va_put (D := D) (ci := 4) (v := .ref na_1) (ty := tyX4 0) (C := RX4) (T := TX4) (N := 6) hx hb hts wb_X4_grow_4 tyX4 tyX4_ok nmX4 hown hK hP hD hS 0 rfl rfl 0 (by decide) (hts _ wi_X4_grow_1) (fun _ h9 => h9) rfl (tyX4_ok 0 (by decide)) rfl rfl (Nat.le_of_ble_eq_true rfl) dX4_grow_125 (fun H locs hP hD hS => ?_)
      have hP : va_P D vwCl ([(so, .inr (4, [.ref na_1, .ref mo, .int (nI F), .int gn, .int (nI b), .ref ro])), (io, .inl (cQ, R, .inr (.inr (.inr (.inr (rq ai)))))), (mo, .inl (cP, R, .inr (.inr (.inr (.inr (rq mi)))))), (ro, .inl (cP, n, .inr (.inr (.inr (.inr (rq ri)))))), (na_1, .inl (cQ, R, .inr (.inr (.inr (.inr (rq aj))))))] ++ va_pl L f) _ := hP
      have hD : va_D A ([(so, .inr (4, [.ref na_1, .ref mo, .int (nI F), .int gn, .int (nI b), .ref ro])), (io, .inl (cQ, R, .inr (.inr (.inr (.inr (rq ai)))))), (mo, .inl (cP, R, .inr (.inr (.inr (.inr (rq mi)))))), (ro, .inl (cP, n, .inr (.inr (.inr (.inr (rq ri)))))), (na_1, .inl (cQ, R, .inr (.inr (.inr (.inr (rq aj))))))] ++ va_pl L f) := hD
      refine lv_aload_n hx hb dX4_grow_128 rfl (lv_at hl 2 rfl) ?_
      refine lv_dup hx hb dX4_grow_129 rfl ?_
      refine va_get (D := D) (ci := 4) (v := .int gn) (C := RX4) (T := TX4) (N := 6) hx hb hts wb_X4_grow_4 hown hK hP 0 rfl rfl 3 (by decide) (hts _ wi_X4_grow_5) (fun _ h9 => h9) rfl dX4_grow_130 ?_
      refine lv_iconst (v := 1) hx hb dX4_grow_133 (by decide) ?_
      refine lv_iadd hx hb dX4_grow_134 ?_
      refine va_put (D := D) (ci := 4) (v := .int (gn + 1)) (ty := tyX4 3) (C := RX4) (T := TX4) (N := 6) hx hb hts wb_X4_grow_4 tyX4 tyX4_ok nmX4 hown hK hP hD hS 0 rfl rfl 3 (by decide) (hts _ wi_X4_grow_5) (fun _ h9 => h9) rfl (tyX4_ok 3 (by decide)) rfl rfl (Nat.le_of_ble_eq_true rfl) dX4_grow_135 (fun H locs hP hD hS => ?_)
      have hP : va_P D vwCl ([(so, .inr (4, [.ref na_1, .ref mo, .int (nI F), .int (gn + 1), .int (nI b), .ref ro])), (io, .inl (cQ, R, .inr (.inr (.inr (.inr (rq ai)))))), (mo, .inl (cP, R, .inr (.inr (.inr (.inr (rq mi)))))), (ro, .inl (cP, n, .inr (.inr (.inr (.inr (rq ri)))))), (na_1, .inl (cQ, R, .inr (.inr (.inr (.inr (rq aj))))))] ++ va_pl L f) _ := hP
      have hD : va_D A ([(so, .inr (4, [.ref na_1, .ref mo, .int (nI F), .int (gn + 1), .int (nI b), .ref ro])), (io, .inl (cQ, R, .inr (.inr (.inr (.inr (rq ai)))))), (mo, .inl (cP, R, .inr (.inr (.inr (.inr (rq mi)))))), (ro, .inl (cP, n, .inr (.inr (.inr (.inr (rq ri)))))), (na_1, .inl (cQ, R, .inr (.inr (.inr (.inr (rq aj))))))] ++ va_pl L f) := hD
      obtain ⟨hP, hD⟩ := g_part (cx := [(so, .inr (4, [.ref na_1, .ref mo, .int (nI F), .int (gn + 1), .int (nI b), .ref ro])), (na_1, .inl (cQ, R, .inr (.inr (.inr (.inr (rq aj)))))), (mo, .inl (cP, R, .inr (.inr (.inr (.inr (rq mi)))))), (ro, .inl (cP, n, .inr (.inr (.inr (.inr (rq ri))))))]) [0, 4, 2, 3] hP hD rfl rfl
      have hP : va_P D vwCl ([(so, .inr (4, [.ref na_1, .ref mo, .int (nI F), .int (gn + 1), .int (nI b), .ref ro])), (na_1, .inl (cQ, R, .inr (.inr (.inr (.inr (rq aj)))))), (mo, .inl (cP, R, .inr (.inr (.inr (.inr (rq mi)))))), (ro, .inl (cP, n, .inr (.inr (.inr (.inr (rq ri))))))] ++ va_pl L f) _ := hP
      have hD : va_D A ([(so, .inr (4, [.ref na_1, .ref mo, .int (nI F), .int (gn + 1), .int (nI b), .ref ro])), (na_1, .inl (cQ, R, .inr (.inr (.inr (.inr (rq aj)))))), (mo, .inl (cP, R, .inr (.inr (.inr (.inr (rq mi)))))), (ro, .inl (cP, n, .inr (.inr (.inr (.inr (rq ri))))))] ++ va_pl L f) := hD
      refine W.widen (k := 13) (n := 156) (by first | omega | exact Nat.le_of_ble_eq_true rfl) (by first | omega | exact Nat.le_of_ble_eq_true rfl) ?_
      exact g_ret_v (na_1, aj, L, f) hx hb hr hlocks hP hD hS dX4_grow_138 (⟨hLa, hi_aj, hna, hw_aj, hw_mi, hw_ri, hfr⟩)
    · have n_7 : r < R := Nat.lt_of_not_le (fun h => c_7 ((nI_leI (a := R) (b := r) (by omega) (by omega)).mpr h))
      refine lv_iconst (v := 0) hx hb dX4_grow_75 (by decide) ?_
      refine lv_istore_n (lv' := [(3, .int 0), (2, .int (nI r)), (1, .ref na_1), (0, .ref so)]) hx hb dX4_grow_76 rfl hl (by decide) rfl (fun ls hl => ?_)
      refine f_loopW (σ := (Nat → va_E) × Nat) (D := D) (A := A) (H0 := s.heap) 4 77 (fun u9 => [(3, .int (nI (u9.2))), (2, .int (nI r)), (1, .ref na_1), (0, .ref so)]) (fun u9 => ([(so, .inr (4, [.ref io, .ref mo, .int (nI F), .int gn, .int (nI b), .ref ro])), (io, .inl (cQ, R, .inr (.inr (.inr (.inr (rq ai)))))), (mo, .inl (cP, R, .inr (.inr (.inr (.inr (rq mi)))))), (ro, .inl (cP, n, .inr (.inr (.inr (.inr (rq ri)))))), (na_1, .inl (cQ, R, .inr (.inr (.inr (.inr (rq aj))))))] ++ va_pl L (u9.1))) (fun u9 => (u9.2) ≤ C ∧ Rw cI L (u9.1) R C mi (dcI mg r (u9.2)) ∧ Rw cZ L (u9.1) R C aj (fun q9 p9 => wlI C R F b ig mg rg p9 q9) ∧ Rw cZ L (u9.1) R C ai ig ∧ Rw cI L (u9.1) n 2 ri rg ∧ (∀ b9, b9 ∈ L0 → (∀ q9, q9 < R → b9 ≠ mi q9) → (u9.1) b9 = f0 b9)) (fun u9 => C - (u9.2))
          (fun u9 hi_9 ih_8 H locs hP hD hS ls hl => ?_) (f, 0) (⟨Nat.zero_le _, hw_mi, hw_aj, hw_ai, hw_ri, hfr⟩) hP hD hS (lv_sub hl [0, 1, 2, 3] rfl)
      obtain ⟨f, c⟩ := u9
      have hi_9 : c ≤ C ∧ Rw cI L f R C mi (dcI mg r c) ∧ Rw cZ L f R C aj (fun q9 p9 => wlI C R F b ig mg rg p9 q9) ∧ Rw cZ L f R C ai ig ∧ Rw cI L f n 2 ri rg ∧ (∀ b9, b9 ∈ L0 → (∀ q9, q9 < R → b9 ≠ mi q9) → f b9 = f0 b9) := hi_9
      obtain ⟨hcC, hw_mi, hw_aj, hw_ai, hw_ri, hfr⟩ := hi_9
      have hl : lv_has ls 4 [(3, .int (nI c)), (2, .int (nI r)), (1, .ref na_1), (0, .ref so)] := hl
      have hP : va_P D vwCl ([(so, .inr (4, [.ref io, .ref mo, .int (nI F), .int gn, .int (nI b), .ref ro])), (io, .inl (cQ, R, .inr (.inr (.inr (.inr (rq ai)))))), (mo, .inl (cP, R, .inr (.inr (.inr (.inr (rq mi)))))), (ro, .inl (cP, n, .inr (.inr (.inr (.inr (rq ri)))))), (na_1, .inl (cQ, R, .inr (.inr (.inr (.inr (rq aj))))))] ++ va_pl L f) _ := hP
      have hD : va_D A ([(so, .inr (4, [.ref io, .ref mo, .int (nI F), .int gn, .int (nI b), .ref ro])), (io, .inl (cQ, R, .inr (.inr (.inr (.inr (rq ai)))))), (mo, .inl (cP, R, .inr (.inr (.inr (.inr (rq mi)))))), (ro, .inl (cP, n, .inr (.inr (.inr (.inr (rq ri)))))), (na_1, .inl (cQ, R, .inr (.inr (.inr (.inr (rq aj))))))] ++ va_pl L f) := hD
      refine lv_iload_n hx hb dX4_grow_77 rfl (lv_at hl 0 rfl) ?_
      refine lv_aload_n hx hb dX4_grow_78 rfl (lv_at hl 3 rfl) ?_
      refine va_get (D := D) (ci := 4) (v := .ref io) (C := RX4) (T := TX4) (N := 6) hx hb hts wb_X4_grow_4 hown hK hP 0 rfl rfl 0 (by decide) (hts _ wi_X4_grow_1) (fun _ h9 => h9) rfl dX4_grow_79 ?_
      refine lv_iconst (v := 0) hx hb dX4_grow_82 (by decide) ?_
      refine g_aald (k := 0) (v := ai 0) hx hb hK hP 1 3 rfl rfl rfl (by omega) (by first | decide | omega) rfl dX4_grow_83 ?_
      refine g_zlen (r := 0) hx hb hK hP hw_ai (by omega) dX4_grow_84 ?_
      refine lv_icmp_ge (tgt := 117) hx hb dX4_grow_85 (by decide) (fun c_10 => ?_) (fun c_10 => ?_)
      · have n_10 : C ≤ c := (nI_leI (a := C) (b := c) (by omega) (by omega)).mp c_10
        refine lv_iinc (v := nI (r + 1)) (lv' := [(2, .int (nI (r + 1))), (3, .int (nI c)), (1, .ref na_1), (0, .ref so)]) hx hb dX4_grow_117 hl (k := 1) rfl (nI_1 _) (by decide) rfl (fun ls hl => ?_)
        refine lv_goto (tgt := 66) hx hb dX4_grow_120 (by decide) ?_
        exact ih_5 (f, (r + 1)) (⟨by omega, hw_mi.congr (fun r1 _ c1 h1 => by rw [show c = C by omega]; exact dcI_row h1), hw_aj, hw_ai, hw_ri, hfr⟩) (by first | omega | (simp only []; omega) | (show _ < _; simp only []; omega)) H locs hP hD hS ls (lv_sub hl [0, 2, 3] rfl)
      · have n_10 : c < C := Nat.lt_of_not_le (fun h => c_10 ((nI_leI (a := C) (b := c) (by omega) (by omega)).mpr h))
        refine lv_aload_n hx hb dX4_grow_88 rfl (lv_at hl 3 rfl) ?_
        refine va_get (D := D) (ci := 4) (v := .ref mo) (C := RX4) (T := TX4) (N := 6) hx hb hts wb_X4_grow_4 hown hK hP 0 rfl rfl 1 (by decide) (hts _ wi_X4_grow_4) (fun _ h9 => h9) rfl dX4_grow_89 ?_
        refine lv_iload_n hx hb dX4_grow_92 rfl (lv_at hl 1 rfl) ?_
        refine g_aald (k := r) (v := mi r) hx hb hK hP 2 2 rfl rfl rfl (by omega) (by first | decide | omega) rfl dX4_grow_93 ?_
        refine lv_iload_n hx hb dX4_grow_94 rfl (lv_at hl 0 rfl) ?_
        refine g_iald (r := r) (k := c) hx hb hK hP hw_mi (by omega) rfl (by omega) (by first | decide | omega) dX4_grow_95 ?_
        refine lv_if_le (tgt := 111) hx hb dX4_grow_96 (by decide) (fun c_11 => ?_) (fun c_11 => ?_)
        · refine lv_iinc (v := nI (c + 1)) (lv' := [(3, .int (nI (c + 1))), (2, .int (nI r)), (1, .ref na_1), (0, .ref so)]) hx hb dX4_grow_111 hl (k := 0) rfl (nI_1 _) (by decide) rfl (fun ls hl => ?_)
          refine lv_goto (tgt := 77) hx hb dX4_grow_114 (by decide) ?_
          exact ih_8 (f, (c + 1)) (⟨by omega, hw_mi.congr (fun r1 _ c1 _ => by first | exact dcI_up c_11 r1 c1 | exact dcI_no c_11 r1 c1), hw_aj, hw_ai, hw_ri, hfr⟩) (by first | omega | (simp only []; omega) | (show _ < _; simp only []; omega)) H locs hP hD hS ls (lv_sub hl [0, 1, 2, 3] rfl)
        · refine lv_aload_n hx hb dX4_grow_99 rfl (lv_at hl 3 rfl) ?_
          refine va_get (D := D) (ci := 4) (v := .ref mo) (C := RX4) (T := TX4) (N := 6) hx hb hts wb_X4_grow_4 hown hK hP 0 rfl rfl 1 (by decide) (hts _ wi_X4_grow_4) (fun _ h9 => h9) rfl dX4_grow_100 ?_
          refine lv_iload_n hx hb dX4_grow_103 rfl (lv_at hl 1 rfl) ?_
          refine g_aald (k := r) (v := mi r) hx hb hK hP 2 2 rfl rfl rfl (by omega) (by first | decide | omega) rfl dX4_grow_104 ?_
          refine lv_iload_n hx hb dX4_grow_105 rfl (lv_at hl 0 rfl) ?_
          refine lv_dup2_11 hx hb dX4_grow_106 rfl rfl ?_
          refine g_iald (r := r) (k := c) hx hb hK hP hw_mi (by omega) rfl (by omega) (by first | decide | omega) dX4_grow_107 ?_
          refine lv_iconst (v := 1) hx hb dX4_grow_108 (by decide) ?_
          refine lv_isub hx hb dX4_grow_109 ?_
          refine g_iast (r := r) (k := c) hx hb hK hP hD hS hw_mi hi_mi (by omega) rfl (by omega) (by first | decide | omega) dX4_grow_110 (fun f H locs hof hw9 hP hD hS => ?_)
          have hw_ai := hw_ai.other ap_ai_mi (by omega) hof
          have hw_ri := hw_ri.other ap_ri_mi (by omega) hof
          have hw_aj := hw_aj.other ap_aj_mi (by omega) hof
          have hw_mi := hw9
          have hfr : ∀ b9, b9 ∈ L0 → (∀ q9, q9 < R → b9 ≠ mi q9) → f b9 = f0 b9 := fun b1 h1 h2 => (hof b1 (h2 _ (show r < R by omega))).trans (hfr b1 h1 h2)
          refine lv_iinc (v := nI (c + 1)) (lv' := [(3, .int (nI (c + 1))), (2, .int (nI r)), (1, .ref na_1), (0, .ref so)]) hx hb dX4_grow_111 hl (k := 0) rfl (nI_1 _) (by decide) rfl (fun ls hl => ?_)
          refine lv_goto (tgt := 77) hx hb dX4_grow_114 (by decide) ?_
          exact ih_8 (f, (c + 1)) (⟨by omega, hw_mi.congr (fun r1 _ c1 _ => by first | exact dcI_up c_11 r1 c1 | exact dcI_no c_11 r1 c1), hw_aj, hw_ai, hw_ri, hfr⟩) (by first | omega | (simp only []; omega) | (show _ < _; simp only []; omega)) H locs hP hD hS ls (lv_sub hl [0, 1, 2, 3] rfl)
  · have n_4 : r < R := Nat.lt_of_not_le (fun h => c_4 ((nI_leI (a := R) (b := r) (by omega) (by omega)).mpr h))
    refine lv_iconst (v := 0) hx hb dX4_grow_28 (by decide) ?_
    refine lv_istore_n (lv' := [(3, .int 0), (2, .int (nI r)), (1, .ref na_1), (0, .ref so)]) hx hb dX4_grow_29 rfl hl (by decide) rfl (fun ls hl => ?_)
    refine f_loopW (σ := (Nat → va_E) × Nat) (D := D) (A := A) (H0 := s.heap) 4 30 (fun u9 => [(3, .int (nI (u9.2))), (2, .int (nI r)), (1, .ref na_1), (0, .ref so)]) (fun u9 => ([(so, .inr (4, [.ref io, .ref mo, .int (nI F), .int gn, .int (nI b), .ref ro])), (io, .inl (cQ, R, .inr (.inr (.inr (.inr (rq ai)))))), (mo, .inl (cP, R, .inr (.inr (.inr (.inr (rq mi)))))), (ro, .inl (cP, n, .inr (.inr (.inr (.inr (rq ri)))))), (na_1, .inl (cQ, R, .inr (.inr (.inr (.inr (rq aj))))))] ++ va_pl L (u9.1))) (fun u9 => (u9.2) ≤ C ∧ Rw cZ L (u9.1) R C aj (gwI C R F b ig mg rg r (u9.2)) ∧ Rw cZ L (u9.1) R C ai ig ∧ Rw cI L (u9.1) R C mi mg ∧ Rw cI L (u9.1) n 2 ri rg ∧ (∀ b9, b9 ∈ L0 → (∀ q9, q9 < R → b9 ≠ mi q9) → (u9.1) b9 = f0 b9)) (fun u9 => C - (u9.2))
        (fun u9 hi_13 ih_12 H locs hP hD hS ls hl => ?_) (f, 0) (⟨Nat.zero_le _, hw_aj, hw_ai, hw_mi, hw_ri, hfr⟩) hP hD hS (lv_sub hl [0, 1, 2, 3] rfl)
    obtain ⟨f, c⟩ := u9
    have hi_13 : c ≤ C ∧ Rw cZ L f R C aj (gwI C R F b ig mg rg r c) ∧ Rw cZ L f R C ai ig ∧ Rw cI L f R C mi mg ∧ Rw cI L f n 2 ri rg ∧ (∀ b9, b9 ∈ L0 → (∀ q9, q9 < R → b9 ≠ mi q9) → f b9 = f0 b9) := hi_13
    obtain ⟨hcC, hw_aj, hw_ai, hw_mi, hw_ri, hfr⟩ := hi_13
    have hl : lv_has ls 4 [(3, .int (nI c)), (2, .int (nI r)), (1, .ref na_1), (0, .ref so)] := hl
    have hP : va_P D vwCl ([(so, .inr (4, [.ref io, .ref mo, .int (nI F), .int gn, .int (nI b), .ref ro])), (io, .inl (cQ, R, .inr (.inr (.inr (.inr (rq ai)))))), (mo, .inl (cP, R, .inr (.inr (.inr (.inr (rq mi)))))), (ro, .inl (cP, n, .inr (.inr (.inr (.inr (rq ri)))))), (na_1, .inl (cQ, R, .inr (.inr (.inr (.inr (rq aj))))))] ++ va_pl L f) _ := hP
    have hD : va_D A ([(so, .inr (4, [.ref io, .ref mo, .int (nI F), .int gn, .int (nI b), .ref ro])), (io, .inl (cQ, R, .inr (.inr (.inr (.inr (rq ai)))))), (mo, .inl (cP, R, .inr (.inr (.inr (.inr (rq mi)))))), (ro, .inl (cP, n, .inr (.inr (.inr (.inr (rq ri)))))), (na_1, .inl (cQ, R, .inr (.inr (.inr (.inr (rq aj))))))] ++ va_pl L f) := hD
    refine lv_iload_n hx hb dX4_grow_30 rfl (lv_at hl 0 rfl) ?_
    refine lv_aload_n hx hb dX4_grow_31 rfl (lv_at hl 3 rfl) ?_
    refine va_get (D := D) (ci := 4) (v := .ref io) (C := RX4) (T := TX4) (N := 6) hx hb hts wb_X4_grow_4 hown hK hP 0 rfl rfl 0 (by decide) (hts _ wi_X4_grow_1) (fun _ h9 => h9) rfl dX4_grow_32 ?_
    refine lv_iconst (v := 0) hx hb dX4_grow_35 (by decide) ?_
    refine g_aald (k := 0) (v := ai 0) hx hb hK hP 1 3 rfl rfl rfl (by omega) (by first | decide | omega) rfl dX4_grow_36 ?_
    refine g_zlen (r := 0) hx hb hK hP hw_ai (by omega) dX4_grow_37 ?_
    refine lv_icmp_ge (tgt := 58) hx hb dX4_grow_38 (by decide) (fun c_14 => ?_) (fun c_14 => ?_)
    · have n_14 : C ≤ c := (nI_leI (a := C) (b := c) (by omega) (by omega)).mp c_14
      refine lv_iinc (v := nI (r + 1)) (lv' := [(2, .int (nI (r + 1))), (3, .int (nI c)), (1, .ref na_1), (0, .ref so)]) hx hb dX4_grow_58 hl (k := 1) rfl (nI_1 _) (by decide) rfl (fun ls hl => ?_)
      refine lv_goto (tgt := 19) hx hb dX4_grow_61 (by decide) ?_
      exact ih_2 (f, (r + 1)) (⟨by omega, hw_aj.congr (fun r1 _ c1 h1 => by rw [show c = C by omega]; exact gwI_row h1), hw_ai, hw_mi, hw_ri, hfr⟩) (by first | omega | (simp only []; omega) | (show _ < _; simp only []; omega)) H locs hP hD hS ls (lv_sub hl [0, 2, 3] rfl)
    · have n_14 : c < C := Nat.lt_of_not_le (fun h => c_14 ((nI_leI (a := C) (b := c) (by omega) (by omega)).mpr h))
      refine lv_aload_n hx hb dX4_grow_41 rfl (lv_at hl 2 rfl) ?_
      refine lv_iload_n hx hb dX4_grow_42 rfl (lv_at hl 1 rfl) ?_
      refine g_aald (k := r) (v := aj r) hx hb hK hP 4 3 rfl rfl rfl (by omega) (by first | decide | omega) rfl dX4_grow_43 ?_
      refine lv_iload_n hx hb dX4_grow_44 rfl (lv_at hl 0 rfl) ?_
      refine lv_aload_n hx hb dX4_grow_45 rfl (lv_at hl 3 rfl) ?_
      refine lv_iload_n hx hb dX4_grow_46 rfl (lv_at hl 0 rfl) ?_
      refine lv_iload_n hx hb dX4_grow_47 rfl (lv_at hl 1 rfl) ?_
      refine g_roVi ⟨hx, hb, hml, hown, hts⟩ hP hD hS hA hK hN [0, 1, 2, 3]
          (c_X4_will (l := l) (D := D) (cI := cI) (cZ := cZ) (cP := cP) (cQ := cQ) (sz := _) (so := so) (io := io) (mo := mo) (ro := ro) (C := C) (R := R) (F := F) (n := n) (b := b) (gn := gn) (L := L) (f := f) (ai := ai) (mi := mi) (ri := ri) (ig := ig) (mg := mg) (rg := rg) (c := c) (r := r) (hC1 := (by first | assumption | omega)) (hC := (by first | assumption | omega)) (hR1 := (by first | assumption | omega)) (hR := (by first | assumption | omega)) (hF := (by first | assumption | omega)) (hn := (by first | assumption | omega)) (hb0 := (by first | assumption | omega)) (hw_ai := hw_ai) (hw_mi := hw_mi) (hw_ri := hw_ri) (hc := (by first | assumption | omega)) (hr0 := (by first | assumption | omega))) (cwV 2 hts gX4_grow_X4_will rfl rfl rfl k_X4_will ⟨Nat.le_of_ble_eq_true rfl, Nat.le_of_ble_eq_true rfl⟩) 0 rfl rfl rfl rfl rfl rfl hl.1 (Nat.le_of_ble_eq_true rfl) dX4_grow_48 ⟨Nat.le_of_ble_eq_true rfl, Nat.le_of_ble_eq_true rfl⟩ (fun H locs hP hS => ?_)
      refine g_zast (r := r) (k := c) hx hb hK hP hD hS hw_aj hi_aj (by omega) (wlI_vnar _ _ _ _ _ _ _ _ _) rfl (by omega) (by first | decide | omega) dX4_grow_51 (fun f H locs hof hw9 hP hD hS => ?_)
      have hw_ai := hw_ai.other ap_ai_aj (by omega) hof
      have hw_mi := hw_mi.other ap_mi_aj (by omega) hof
      have hw_ri := hw_ri.other ap_ri_aj (by omega) hof
      have hw_aj := hw9
      have hfr : ∀ b9, b9 ∈ L0 → (∀ q9, q9 < R → b9 ≠ mi q9) → f b9 = f0 b9 := fun b1 h1 h2 => (hof b1 (fun e9 => hna _ (show r < R by omega) (e9 ▸ h1))).trans (hfr b1 h1 h2)
      refine lv_iinc (v := nI (c + 1)) (lv' := [(3, .int (nI (c + 1))), (2, .int (nI r)), (1, .ref na_1), (0, .ref so)]) hx hb dX4_grow_52 hl (k := 0) rfl (nI_1 _) (by decide) rfl (fun ls hl => ?_)
      refine lv_goto (tgt := 30) hx hb dX4_grow_55 (by decide) ?_
      exact ih_12 (f, (c + 1)) (⟨by omega, hw_aj.congr (fun r1 _ c1 _ => gwI_up r1 c1), hw_ai, hw_mi, hw_ri, hfr⟩) (by first | omega | (simp only []; omega) | (show _ < _; simp only []; omega)) H locs hP hD hS ls (lv_sub hl [0, 1, 2, 3] rfl)

/-! arrays of rows, filled place by place -/
def wiF (ri : Nat → Nat) (k : Nat) : Nat → Option Nat := fun i => if i < k then some (ri i) else none
def wiR (ri : Nat → Nat) (n la : Nat) : Nat → Nat := fun i => if i < n then ri i else la
theorem wiF_up (ri : Nat → Nat) (k j : Nat) : va_up (wiF ri k) k (some (ri k)) j = wiF ri (k + 1) j := by
  unfold va_up wiF
  by_cases e : j = k
  · rw [if_pos e, if_pos (by omega), e]
  · rw [if_neg e]
    by_cases h : j < k
    · rw [if_pos h, if_pos (by omega)]
    · rw [if_neg h, if_neg (by omega)]
theorem wiF_end {ri : Nat → Nat} {n la k j : Nat} (hk : k = n) (hj : j < n + 1) : va_up (wiF ri k) n (some la) j = rq (wiR ri n la) j := by
  show (if j = n then some la else if j < k then some (ri j) else none) = some (if j < n then ri j else la)
  by_cases e : j = n
  · rw [if_pos e, if_neg (show ¬ j < n by omega)]
  · rw [if_neg e, if_pos (show j < k by omega), if_pos (show j < n by omega)]
def ccF (bi aj : Nat → Nat) (r : Nat) : Nat → Nat := fun i => if i < r then bi i else aj i
theorem ccF_up (bi aj : Nat → Nat) (r q j : Nat) : va_up (rq (ccF bi aj r)) r (some q) j = rq (ccF (va_up bi r q) aj (r + 1)) j := by
  show (if j = r then some q else some (if j < r then bi j else aj j)) = some (if j < r + 1 then (if j = r then q else bi j) else aj j)
  by_cases e : j = r
  · rw [if_pos e, if_pos (show j < r + 1 by omega), if_pos e]
  · rw [if_neg e]
    by_cases h : j < r
    · rw [if_pos h, if_pos (show j < r + 1 by omega), if_neg e]
    · rw [if_neg h, if_neg (show ¬ j < r + 1 by omega)]
theorem ccF_end {bi aj : Nat → Nat} {r R j : Nat} (h : r = R) (hj : j < R) : rq (ccF bi aj r) j = rq bi j := by
  show some (if j < r then bi j else aj j) = some (bi j)
  rw [if_pos (show j < r by omega)]
theorem ccF_0 (bi aj : Nat → Nat) (j : Nat) : rq aj j = rq (ccF bi aj 0) j := by
  show some (aj j) = some (if j < 0 then bi j else aj j)
  rw [if_neg (Nat.not_lt_zero j)]
/-- a row more -/
theorem Rw.more {cA : ClassId} {L L1 : List Nat} {f f1 : Nat → va_E} {m r q : Nat} {ad : Nat → Nat} {g : Nat → Nat → Int32} {h : Nat → Int32} (hw : Rw cA L f r m ad g) (hL : ∀ b, b ∈ L → b ∈ L1) (hf : ∀ b, b ∈ L → f1 b = f b) (hq : q ∈ L1) (hv : f1 q = .inl (cA, m, .inl h)) (hg : ∀ c, c < m → h c = g r c) : Rw cA L1 f1 (r + 1) m (va_up ad r q) g := fun r' hr' => by
  unfold va_up
  by_cases e : r' = r
  · subst e; rw [if_pos rfl]; exact ⟨hq, h, hv, hg⟩
  · rw [if_neg e]
    obtain ⟨a1, k, a2, a3⟩ := hw r' (by omega)
    exact ⟨hL _ a1, k, by rw [hf _ a1]; exact a2, a3⟩
theorem Inj.more {L : List Nat} {r q : Nat} {ad : Nat → Nat} (hi : Inj r ad) (hL : ∀ r', r' < r → ad r' ∈ L) (hq : q ∉ L) : Inj (r + 1) (va_up ad r q) := fun a b ha hb he => by
  unfold va_up at he
  by_cases e1 : a = r <;> by_cases e2 : b = r
  · omega
  · rw [if_pos e1, if_neg e2] at he; exact absurd (he ▸ hL b (by omega)) hq
  · rw [if_neg e1, if_pos e2] at he; exact absurd (he ▸ hL a (by omega)) hq
  · rw [if_neg e1, if_neg e2] at he; exact hi a b (by omega) (by omega) he
theorem frm_more {L0 : List Nat} {r q : Nat} {ad : Nat → Nat} (h : ∀ r', r' < r → ad r' ∉ L0) (hq : q ∉ L0) : ∀ r', r' < r + 1 → va_up ad r q r' ∉ L0 := fun r' hr' => by
  unfold va_up
  by_cases e : r' = r
  · rw [if_pos e]; exact hq
  · rw [if_neg e]; exact h r' (by omega)
theorem Apt.more1 {L : List Nat} {r k q : Nat} {ad bd : Nat → Nat} (h : Apt r k ad bd) (hL : ∀ r', r' < k → bd r' ∈ L) (hq : q ∉ L) : Apt (r + 1) k (va_up ad r q) bd := fun a b ha hb he => by
  unfold va_up at he
  by_cases e : a = r
  · rw [if_pos e] at he; exact hq (he ▸ hL b hb)
  · rw [if_neg e] at he; exact h a b (by omega) hb he
theorem Apt.symm {r k : Nat} {ad bd : Nat → Nat} (h : Apt r k ad bd) : Apt k r bd ad := fun a b ha hb he => h b a hb ha he.symm
theorem ruG0 (c : Nat) (hc : c < 2) : upd (upd (fun _ => 0) 0 8) 1 12 c = (if c = 0 then (8 : Int32) else 12) := by
  rcases (show c = 0 ∨ c = 1 by omega) with rfl | rfl <;> decide
theorem k_X4_with : yX4_with.cls = RX4 ∧ yX4_with.cls ≠ "java/lang/invoke/MethodHandle" ∧ yX4_with.cls ≠ "java/lang/invoke/VarHandle" ∧ (parseMethodDescriptor yX4_with.desc).map (fun d => d.parameters.length) = some 2 := by decide +kernel
theorem wi_X4_with_1 : (Cond.classLink RX4 19 "[I") ∈ wsX4_with := List.mem_of_getElem? (i := 1) rfl
set_option maxHeartbeats 4000000 in
set_option maxRecDepth 100000 in
theorem c_X4_with (l : Launch) (D : va_G) (cI cZ cP cQ : ClassId) (sz : Nat) (ro la n : Nat) (h : Nat → Int32) (L : List Nat) (f : Nat → va_E) (ri : Nat → Nat) (rg : Nat → Nat → Int32) (hn : n ≤ 6) (hw_ri : Rw cI L f n 2 ri rg) : g_Mr l yX4_with wsX4_with ({ frames := 0, cells := 1, slots := 7, locals := 0 }) D (fTY cI cZ cP cQ) [.ref ro, .ref la] sz (([(ro, .inl (cP, n, .inr (.inr (.inr (.inr (rq ri)))))), (la, .inl (cI, 2, .inl h))] ++ va_pl L f)) (fun (u9 : Nat) => True) (fun u9 => u9) (fun u9 => ([(ro, .inl (cP, n, .inr (.inr (.inr (.inr (rq ri)))))), (la, .inl (cI, 2, .inl h)), (u9, .inl (cP, n + 1, .inr (.inr (.inr (.inr (rq (wiR ri n la)))))))] ++ va_pl L f)) 1 7 := by
  refine g_ent_r (by decide) rfl (Nat.le_of_ble_eq_true rfl) ?_
  intro pg ev s m below meth cd hx hb hr hts hown hlocks hml hnm hsz hP hK hN A hD hA hS ls hl
  have hown : s.vm.findClass RX4 = some m.cls := hown
  have hl : lv_has ls 4 [(0, .ref ro), (1, .ref la)] := hl
  refine lv_aload_n hx hb dX4_with_0 rfl (lv_at hl 0 rfl) ?_
  refine va_alen (v := nI n) hx hb hK hP 0 2 rfl rfl rfl dX4_with_1 ?_
  refine lv_iconst (v := 1) hx hb dX4_with_2 (by decide) ?_
  refine lv_iadd hx hb dX4_with_3 ?_
  refine f_topi (y := nI (n + 1)) (nI_add n 1) ?_
  refine g_newP (N' := (n + 1)) hx hb hown (hts _ wi_X4_with_1) hN hK hP hD hS hA rfl (by first | decide | omega) (by show 0 + 1 ≤ 1; omega) (by show 0 + (n + 1) ≤ 7; omega) dX4_with_4 (fun na_1 H hP hD hS => ?_)
  have hP : va_P D vwCl ([(ro, .inl (cP, n, .inr (.inr (.inr (.inr (rq ri)))))), (la, .inl (cI, 2, .inl h)), (na_1, .inl (cP, (n + 1), .inr (.inr (.inr (.inr (fun _ => none))))))] ++ va_pl L f) _ := hP
  have hD : va_D A ([(ro, .inl (cP, n, .inr (.inr (.inr (.inr (rq ri)))))), (la, .inl (cI, 2, .inl h)), (na_1, .inl (cP, (n + 1), .inr (.inr (.inr (.inr (fun _ => none))))))] ++ va_pl L f) := hD
  refine lv_astore_n (lv' := [(2, .ref na_1), (0, .ref ro), (1, .ref la)]) hx hb dX4_with_7 rfl hl (by decide) rfl (fun ls hl => ?_)
  obtain ⟨hP, hD⟩ := f_repq (o' := wiF ri 0) hP hD 2 rfl (fun j _ => (if_neg (Nat.not_lt_zero j)).symm)
  have hP : va_P D vwCl ([(ro, .inl (cP, n, .inr (.inr (.inr (.inr (rq ri)))))), (la, .inl (cI, 2, .inl h)), (na_1, .inl (cP, (n + 1), .inr (.inr (.inr (.inr (wiF ri 0))))))] ++ va_pl L f) _ := hP
  have hD : va_D A ([(ro, .inl (cP, n, .inr (.inr (.inr (.inr (rq ri)))))), (la, .inl (cI, 2, .inl h)), (na_1, .inl (cP, (n + 1), .inr (.inr (.inr (.inr (wiF ri 0))))))] ++ va_pl L f) := hD
  refine lv_iconst (v := 0) hx hb dX4_with_8 (by decide) ?_
  refine lv_istore_n (lv' := [(3, .int 0), (2, .ref na_1), (0, .ref ro), (1, .ref la)]) hx hb dX4_with_9 rfl hl (by decide) rfl (fun ls hl => ?_)
  refine f_loopW (σ := Nat) (D := D) (A := A) (H0 := s.heap) 4 10 (fun u9 => [(3, .int (nI u9)), (2, .ref na_1), (0, .ref ro), (1, .ref la)]) (fun u9 => ([(ro, .inl (cP, n, .inr (.inr (.inr (.inr (rq ri)))))), (la, .inl (cI, 2, .inl h)), (na_1, .inl (cP, (n + 1), .inr (.inr (.inr (.inr (wiF ri u9))))))] ++ va_pl L f)) (fun u9 => u9 ≤ n) (fun u9 => n - u9)
      (fun u9 hi_3 ih_2 H locs hP hD hS ls hl => ?_) 0 (Nat.zero_le _) hP hD hS (lv_sub hl [0, 1, 2, 3] rfl)
  obtain ⟨k, rfl⟩ : ∃ z, z = u9 := ⟨_, rfl⟩
  have hi_3 : k ≤ n := hi_3
  have hl : lv_has ls 4 [(3, .int (nI k)), (2, .ref na_1), (0, .ref ro), (1, .ref la)] := hl
  have hP : va_P D vwCl ([(ro, .inl (cP, n, .inr (.inr (.inr (.inr (rq ri)))))), (la, .inl (cI, 2, .inl h)), (na_1, .inl (cP, (n + 1), .inr (.inr (.inr (.inr (wiF ri k))))))] ++ va_pl L f) _ := hP
  have hD : va_D A ([(ro, .inl (cP, n, .inr (.inr (.inr (.inr (rq ri)))))), (la, .inl (cI, 2, .inl h)), (na_1, .inl (cP, (n + 1), .inr (.inr (.inr (.inr (wiF ri k))))))] ++ va_pl L f) := hD
  refine lv_iload_n hx hb dX4_with_10 rfl (lv_at hl 0 rfl) ?_
  refine lv_aload_n hx hb dX4_with_11 rfl (lv_at hl 2 rfl) ?_
  refine va_alen (v := nI n) hx hb hK hP 0 2 rfl rfl rfl dX4_with_12 ?_
  refine lv_icmp_ge (tgt := 28) hx hb dX4_with_13 (by decide) (fun c_4 => ?_) (fun c_4 => ?_)
  · have n_4 : n ≤ k := (nI_leI (a := n) (b := k) (by omega) (by omega)).mp c_4
    refine lv_aload_n hx hb dX4_with_28 rfl (lv_at hl 1 rfl) ?_
    refine lv_aload_n hx hb dX4_with_29 rfl (lv_at hl 2 rfl) ?_
    refine va_alen (v := nI n) hx hb hK hP 0 2 rfl rfl rfl dX4_with_30 ?_
    refine lv_aload_n hx hb dX4_with_31 rfl (lv_at hl 3 rfl) ?_
    refine g_aast (t := .int) (k := n) hx hb hK hP hD hS 2 2 rfl rfl hN.2.2.2.2.2.2.2.2.1 (hK.2 0 _ rfl).2 (⟨1, _, rfl⟩) rfl (by omega) (by first | decide | omega) dX4_with_32 (fun H locs hP hD hS => ?_)
    have hP : va_P D vwCl ([(ro, .inl (cP, n, .inr (.inr (.inr (.inr (rq ri)))))), (la, .inl (cI, 2, .inl h)), (na_1, .inl (cP, (n + 1), .inr (.inr (.inr (.inr (va_up (wiF ri k) n (some la)))))))] ++ va_pl L f) _ := hP
    have hD : va_D A ([(ro, .inl (cP, n, .inr (.inr (.inr (.inr (rq ri)))))), (la, .inl (cI, 2, .inl h)), (na_1, .inl (cP, (n + 1), .inr (.inr (.inr (.inr (va_up (wiF ri k) n (some la)))))))] ++ va_pl L f) := hD
    obtain ⟨hP, hD⟩ := f_repq (o' := rq (wiR ri n la)) hP hD 2 rfl (fun j hj => wiF_end (by omega) hj)
    have hP : va_P D vwCl ([(ro, .inl (cP, n, .inr (.inr (.inr (.inr (rq ri)))))), (la, .inl (cI, 2, .inl h)), (na_1, .inl (cP, (n + 1), .inr (.inr (.inr (.inr (rq (wiR ri n la)))))))] ++ va_pl L f) _ := hP
    have hD : va_D A ([(ro, .inl (cP, n, .inr (.inr (.inr (.inr (rq ri)))))), (la, .inl (cI, 2, .inl h)), (na_1, .inl (cP, (n + 1), .inr (.inr (.inr (.inr (rq (wiR ri n la)))))))] ++ va_pl L f) := hD
    refine lv_aload_n hx hb dX4_with_33 rfl (lv_at hl 1 rfl) ?_
    refine W.widen (k := 1) (n := 7) (by first | omega | exact Nat.le_of_ble_eq_true rfl) (by first | omega | exact Nat.le_of_ble_eq_true rfl) ?_
    exact g_ret_r na_1 hx hb hr (Or.inr ⟨_, rfl⟩) hlocks hP hD hS dX4_with_34 rfl (trivial)
  · have n_4 : k < n := Nat.lt_of_not_le (fun h => c_4 ((nI_leI (a := n) (b := k) (by omega) (by omega)).mpr h))
    refine lv_aload_n hx hb dX4_with_16 rfl (lv_at hl 1 rfl) ?_
    refine lv_iload_n hx hb dX4_with_17 rfl (lv_at hl 0 rfl) ?_
    refine lv_aload_n hx hb dX4_with_18 rfl (lv_at hl 2 rfl) ?_
    refine lv_iload_n hx hb dX4_with_19 rfl (lv_at hl 0 rfl) ?_
    refine g_aald (k := k) (v := ri k) hx hb hK hP 0 2 rfl rfl rfl (by omega) (by first | decide | omega) rfl dX4_with_20 ?_
    refine g_aast (t := .int) (k := k) hx hb hK hP hD hS 2 2 rfl rfl hN.2.2.2.2.2.2.2.2.1 (hK.2 0 _ rfl).2 (g_rowin hw_ri (by omega)) rfl (by omega) (by first | decide | omega) dX4_with_21 (fun H locs hP hD hS => ?_)
    have hP : va_P D vwCl ([(ro, .inl (cP, n, .inr (.inr (.inr (.inr (rq ri)))))), (la, .inl (cI, 2, .inl h)), (na_1, .inl (cP, (n + 1), .inr (.inr (.inr (.inr (va_up (wiF ri k) k (some (ri k))))))))] ++ va_pl L f) _ := hP
    have hD : va_D A ([(ro, .inl (cP, n, .inr (.inr (.inr (.inr (rq ri)))))), (la, .inl (cI, 2, .inl h)), (na_1, .inl (cP, (n + 1), .inr (.inr (.inr (.inr (va_up (wiF ri k) k (some (ri k))))))))] ++ va_pl L f) := hD
    obtain ⟨hP, hD⟩ := f_repq (o' := wiF ri (k + 1)) hP hD 2 rfl (fun j _ => wiF_up ri k j)
    have hP : va_P D vwCl ([(ro, .inl (cP, n, .inr (.inr (.inr (.inr (rq ri)))))), (la, .inl (cI, 2, .inl h)), (na_1, .inl (cP, (n + 1), .inr (.inr (.inr (.inr (wiF ri (k + 1)))))))] ++ va_pl L f) _ := hP
    have hD : va_D A ([(ro, .inl (cP, n, .inr (.inr (.inr (.inr (rq ri)))))), (la, .inl (cI, 2, .inl h)), (na_1, .inl (cP, (n + 1), .inr (.inr (.inr (.inr (wiF ri (k + 1)))))))] ++ va_pl L f) := hD
    refine lv_iinc (v := nI (k + 1)) (lv' := [(3, .int (nI (k + 1))), (2, .ref na_1), (0, .ref ro), (1, .ref la)]) hx hb dX4_with_22 hl (k := 0) rfl (nI_1 _) (by decide) rfl (fun ls hl => ?_)
    refine lv_goto (tgt := 10) hx hb dX4_with_25 (by decide) ?_
    exact ih_2 (k + 1) (by omega) (by first | omega | (simp only []; omega) | (show _ < _; simp only []; omega)) H locs hP hD hS ls (lv_sub hl [0, 1, 2, 3] rfl)

theorem k_X4_init : yX4_init.cls = RX4 ∧ yX4_init.cls ≠ "java/lang/invoke/MethodHandle" ∧ yX4_init.cls ≠ "java/lang/invoke/VarHandle" ∧ (parseMethodDescriptor yX4_init.desc).map (fun d => d.parameters.length) = some 0 := by decide +kernel
theorem wi_X4_init_1 : (Cond.methodLink RX4 1 objectInit) ∈ wsX4_init := List.mem_of_getElem? (i := 1) rfl
theorem wi_X4_init_2 : (Cond.instanceMethod objectInit) ∈ wsX4_init := List.mem_of_getElem? (i := 2) rfl
theorem wi_X4_init_3 : (Cond.code objectInit ⟨#[0xb1]⟩ 1 none) ∈ wsX4_init := List.mem_of_getElem? (i := 3) rfl
theorem wi_X4_init_4 : (Cond.classLink RX4 7 "[[Z") ∈ wsX4_init := List.mem_of_getElem? (i := 4) rfl
theorem wi_X4_init_5 : (Cond.arrayClass .boolean) ∈ wsX4_init := List.mem_of_getElem? (i := 5) rfl
theorem wi_X4_init_6 : (Cond.fieldLink RX4 9 "FrostPaneLaw$Sim" "ice" "[[Z") ∈ wsX4_init := List.mem_of_getElem? (i := 6) rfl
theorem wb_X4_init_4 : ∀ w ∈ wsX40, w ∈ wsX4_init := (fun _ h => List.mem_cons_of_mem _ (List.mem_append_right _ h))
theorem wi_X4_init_7 : (Cond.classLink RX4 14 "[[I") ∈ wsX4_init := List.mem_of_getElem? (i := 7) rfl
theorem wi_X4_init_8 : (Cond.arrayClass .int) ∈ wsX4_init := List.mem_of_getElem? (i := 8) rfl
theorem wi_X4_init_9 : (Cond.fieldLink RX4 16 "FrostPaneLaw$Sim" "melt" "[[I") ∈ wsX4_init := List.mem_of_getElem? (i := 9) rfl
theorem wi_X4_init_10 : (Cond.classLink RX4 19 "[I") ∈ wsX4_init := List.mem_of_getElem? (i := 10) rfl
theorem wi_X4_init_11 : (Cond.fieldLink RX4 21 "FrostPaneLaw$Sim" "rules" "[[I") ∈ wsX4_init := List.mem_of_getElem? (i := 11) rfl
set_option maxHeartbeats 4000000 in
set_option maxRecDepth 100000 in
theorem c_X4_init (l : Launch) (D : va_G) (cI cZ cP cQ : ClassId) (sz : Nat) (so : Nat) (L0 : List Nat) (f0 : Nat → va_E)  : g_Mv l yX4_init wsX4_init ({ frames := 1, cells := 20, slots := 147, locals := 12 }) D (fTY cI cZ cP cQ) [.ref so] sz (([(so, .inr (4, [.null, .null, .int 0, .int 0, .int 0, .null]))] ++ va_pl L0 f0)) (fun (u9 : Nat × Nat × Nat × (Nat → Nat) × (Nat → Nat) × (Nat → Nat) × (List Nat) × (Nat → va_E)) => (∀ b9, b9 ∈ L0 → b9 ∈ (u9.2.2.2.2.2.2.1)) ∧ (∀ b9, b9 ∈ L0 → (u9.2.2.2.2.2.2.2) b9 = f0 b9) ∧ Rw cI (u9.2.2.2.2.2.2.1) (u9.2.2.2.2.2.2.2) 1 2 (u9.2.2.2.2.2.1) (fun _ p9 => if p9 = 0 then 8 else 12)) (fun u9 => ([(so, .inr (4, [.ref (u9.1), .ref (u9.2.1), .int 0, .int 0, .int 0, .ref (u9.2.2.1)])), (u9.1, .inl (cQ, 8, .inr (.inr (.inr (.inr (rq (u9.2.2.2.1))))))), (u9.2.1, .inl (cP, 8, .inr (.inr (.inr (.inr (rq (u9.2.2.2.2.1))))))), (u9.2.2.1, .inl (cP, 1, .inr (.inr (.inr (.inr (rq (u9.2.2.2.2.2.1)))))))] ++ va_pl (u9.2.2.2.2.2.2.1) (u9.2.2.2.2.2.2.2))) 20 147 := by
  refine g_ent_v (by decide) rfl (Nat.le_of_ble_eq_true rfl) ?_
  intro pg ev s m below meth cd hx hb hr hts hown hlocks hml hnm hsz hP hK hN A hD hA hS ls hl
  have hown : s.vm.findClass RX4 = some m.cls := hown
  have hl : lv_has ls 1 [(0, .ref so)] := hl
  have hin : meth.name = "<init>" := hnm
  obtain ⟨L, hLeq⟩ : ∃ z, z = L0 := ⟨_, rfl⟩
  obtain ⟨f, hfeq⟩ : ∃ z, z = f0 := ⟨_, rfl⟩
  have hP : va_P D vwCl ([(so, .inr (4, [.null, .null, .int 0, .int 0, .int 0, .null]))] ++ va_pl L f) s.heap := by rw [hLeq, hfeq]; exact hP
  have hD : va_D A ([(so, .inr (4, [.null, .null, .int 0, .int 0, .int 0, .null]))] ++ va_pl L f) := by rw [hLeq, hfeq]; exact hD
  refine lv_aload_n hx hb dX4_init_0 rfl (lv_at hl 0 rfl) ?_
  refine W.objInit hx hb hown (hts _ wi_X4_init_1) (hts _ wi_X4_init_2) (hts _ wi_X4_init_3) rfl (by rw [hml]; exact hl.1) rfl dX4_init_1 (Nat.le_of_ble_eq_true rfl) (Nat.le_of_ble_eq_true rfl) ?_
  refine W.eq (g2 := F0 m 4 ls []) rfl ?_
  refine lv_aload_n hx hb dX4_init_4 rfl (lv_at hl 0 rfl) ?_
  refine lv_bipush (v := 8) hx hb dX4_init_5 (by decide) ?_
  refine lv_bipush (v := 8) hx hb dX4_init_7 (by decide) ?_
  refine g_mnaZ (N' := 8) (K' := 8) hx hb hown (hts _ wi_X4_init_4) hN (hts _ wi_X4_init_5) hK hP hD hS hA rfl rfl (by first | decide | omega) (by first | decide | omega) (Nat.le_of_ble_eq_true rfl) (Nat.le_of_ble_eq_true rfl) dX4_init_9 (fun na_1 aj L f H hi_aj hn_aj hLL hff hw_aj hP hD hS => ?_)
  have hLa : ∀ b9, b9 ∈ L0 → b9 ∈ L := fun b1 h => hLL b1 (hLeq ▸ h)
  have hfa : ∀ b9, b9 ∈ L0 → f b9 = f0 b9 := fun b1 h => (hff b1 (hLeq ▸ h)).trans (by rw [hfeq])
  have hP : va_P D vwCl ([(so, .inr (4, [.null, .null, .int 0, .int 0, .int 0, .null])), (na_1, .inl (cQ, 8, .inr (.inr (.inr (.inr (rq aj))))))] ++ va_pl L f) _ := hP
  have hD : va_D A ([(so, .inr (4, [.null, .null, .int 0, .int 0, .int 0, .null])), (na_1, .inl (cQ, 8, .inr (.inr (.inr (.inr (rq aj))))))] ++ va_pl L f) := hD
  refine va_put (D := D) (ci := 4) (v := .ref na_1) (ty := tyX4 0) (C := RX4) (T := TX4) (N := 6) hx hb hts wb_X4_init_4 tyX4 tyX4_ok nmX4 hown hK hP hD hS 0 rfl rfl 0 (by decide) (hts _ wi_X4_init_6) (fun _ h9 => h9) rfl (tyX4_ok 0 (by decide)) rfl rfl (Nat.le_of_ble_eq_true rfl) dX4_init_13 (fun H locs hP hD hS => ?_)
  have hP : va_P D vwCl ([(so, .inr (4, [.ref na_1, .null, .int 0, .int 0, .int 0, .null])), (na_1, .inl (cQ, 8, .inr (.inr (.inr (.inr (rq aj))))))] ++ va_pl L f) _ := hP
  have hD : va_D A ([(so, .inr (4, [.ref na_1, .null, .int 0, .int 0, .int 0, .null])), (na_1, .inl (cQ, 8, .inr (.inr (.inr (.inr (rq aj))))))] ++ va_pl L f) := hD
  refine lv_aload_n hx hb dX4_init_16 rfl (lv_at hl 0 rfl) ?_
  refine lv_bipush (v := 8) hx hb dX4_init_17 (by decide) ?_
  refine lv_bipush (v := 8) hx hb dX4_init_19 (by decide) ?_
  refine g_mnaI (N' := 8) (K' := 8) hx hb hown (hts _ wi_X4_init_7) hN (hts _ wi_X4_init_8) hK hP hD hS hA rfl rfl (by first | decide | omega) (by first | decide | omega) (Nat.le_of_ble_eq_true rfl) (Nat.le_of_ble_eq_true rfl) dX4_init_21 (fun na_2 mj L f H hi_mj hn_mj hLL hff hw_mj hP hD hS => ?_)
  have ap_aj_mj : Apt 8 8 aj mj := fun r9 r8 h9 h8 e9 => hn_mj r8 h8 (e9 ▸ (hw_aj).mem h9)
  have ap_mj_aj : Apt 8 8 mj aj := fun r8 r9 h8 h9 e9 => ap_aj_mj r9 r8 h9 h8 e9.symm
  have hw_aj := hw_aj.keep hLL (fun r9 h9 => hff _ ((hw_aj).mem h9))
  have hfa : ∀ b9, b9 ∈ L0 → f b9 = f0 b9 := fun b1 h => (hff b1 (hLa b1 h)).trans (hfa b1 h)
  have hLa : ∀ b9, b9 ∈ L0 → b9 ∈ L := fun b1 h => hLL b1 (hLa b1 h)
  have hP : va_P D vwCl ([(so, .inr (4, [.ref na_1, .null, .int 0, .int 0, .int 0, .null])), (na_1, .inl (cQ, 8, .inr (.inr (.inr (.inr (rq aj)))))), (na_2, .inl (cP, 8, .inr (.inr (.inr (.inr (rq mj))))))] ++ va_pl L f) _ := hP
  have hD : va_D A ([(so, .inr (4, [.ref na_1, .null, .int 0, .int 0, .int 0, .null])), (na_1, .inl (cQ, 8, .inr (.inr (.inr (.inr (rq aj)))))), (na_2, .inl (cP, 8, .inr (.inr (.inr (.inr (rq mj))))))] ++ va_pl L f) := hD
  refine va_put (D := D) (ci := 4) (v := .ref na_2) (ty := tyX4 1) (C := RX4) (T := TX4) (N := 6) hx hb hts wb_X4_init_4 tyX4 tyX4_ok nmX4 hown hK hP hD hS 0 rfl rfl 1 (by decide) (hts _ wi_X4_init_9) (fun _ h9 => h9) rfl (tyX4_ok 1 (by decide)) rfl rfl (Nat.le_of_ble_eq_true rfl) dX4_init_25 (fun H locs hP hD hS => ?_)
  have hP : va_P D vwCl ([(so, .inr (4, [.ref na_1, .ref na_2, .int 0, .int 0, .int 0, .null])), (na_1, .inl (cQ, 8, .inr (.inr (.inr (.inr (rq aj)))))), (na_2, .inl (cP, 8, .inr (.inr (.inr (.inr (rq mj))))))] ++ va_pl L f) _ := hP
  have hD : va_D A ([(so, .inr (4, [.ref na_1, .ref na_2, .int 0, .int 0, .int 0, .null])), (na_1, .inl (cQ, 8, .inr (.inr (.inr (.inr (rq aj)))))), (na_2, .inl (cP, 8, .inr (.inr (.inr (.inr (rq mj))))))] ++ va_pl L f) := hD
  refine lv_aload_n hx hb dX4_init_28 rfl (lv_at hl 0 rfl) ?_
  refine lv_iconst (v := 1) hx hb dX4_init_29 (by decide) ?_
  refine g_newP (N' := 1) hx hb hown (hts _ wi_X4_init_10) hN hK hP hD hS hA rfl (by first | decide | omega) (Nat.le_of_ble_eq_true rfl) (Nat.le_of_ble_eq_true rfl) dX4_init_30 (fun na_3 H hP hD hS => ?_)
  have hP : va_P D vwCl ([(so, .inr (4, [.ref na_1, .ref na_2, .int 0, .int 0, .int 0, .null])), (na_1, .inl (cQ, 8, .inr (.inr (.inr (.inr (rq aj)))))), (na_2, .inl (cP, 8, .inr (.inr (.inr (.inr (rq mj)))))), (na_3, .inl (cP, 1, .inr (.inr (.inr (.inr (fun _ => none))))))] ++ va_pl L f) _ := hP
  have hD : va_D A ([(so, .inr (4, [.ref na_1, .ref na_2, .int 0, .int 0, .int 0, .null])), (na_1, .inl (cQ, 8, .inr (.inr (.inr (.inr (rq aj)))))), (na_2, .inl (cP, 8, .inr (.inr (.inr (.inr (rq mj)))))), (na_3, .inl (cP, 1, .inr (.inr (.inr (.inr (fun _ => none))))))] ++ va_pl L f) := hD
  refine lv_dup hx hb dX4_init_33 rfl ?_
  refine lv_iconst (v := 0) hx hb dX4_init_34 (by decide) ?_
  refine lv_iconst (v := 2) hx hb dX4_init_35 (by decide) ?_
  refine f_newi (n := 2) (N' := 2) hx hb (hts _ wi_X4_init_8) hK hP hD hS hA (by decide) (by decide) (by decide) (Nat.le_of_ble_eq_true rfl) (Nat.le_of_ble_eq_true rfl) dX4_init_36 (fun na_4 H hP hD hS => ?_)
  have hP := hP.swap
  have hD := hD.swap
  have hP : va_P D vwCl ([(so, .inr (4, [.ref na_1, .ref na_2, .int 0, .int 0, .int 0, .null])), (na_1, .inl (cQ, 8, .inr (.inr (.inr (.inr (rq aj)))))), (na_2, .inl (cP, 8, .inr (.inr (.inr (.inr (rq mj)))))), (na_3, .inl (cP, 1, .inr (.inr (.inr (.inr (fun _ => none)))))), (na_4, .inl (cI, 2, .inl (fun _ => 0)))] ++ va_pl L f) _ := hP
  have hD : va_D A ([(so, .inr (4, [.ref na_1, .ref na_2, .int 0, .int 0, .int 0, .null])), (na_1, .inl (cQ, 8, .inr (.inr (.inr (.inr (rq aj)))))), (na_2, .inl (cP, 8, .inr (.inr (.inr (.inr (rq mj)))))), (na_3, .inl (cP, 1, .inr (.inr (.inr (.inr (fun _ => none)))))), (na_4, .inl (cI, 2, .inl (fun _ => 0)))] ++ va_pl L f) := hD
  refine lv_dup hx hb dX4_init_38 rfl ?_
  refine lv_iconst (v := 0) hx hb dX4_init_39 (by decide) ?_
  refine lv_bipush (v := 8) hx hb dX4_init_40 (by decide) ?_
  refine f_iast (k := 0) hx hb hK hP hD hS 4 0 rfl rfl rfl (by omega) (by first | decide | omega) dX4_init_42 (fun H locs hP hD hS => ?_)
  have hP : va_P D vwCl ([(so, .inr (4, [.ref na_1, .ref na_2, .int 0, .int 0, .int 0, .null])), (na_1, .inl (cQ, 8, .inr (.inr (.inr (.inr (rq aj)))))), (na_2, .inl (cP, 8, .inr (.inr (.inr (.inr (rq mj)))))), (na_3, .inl (cP, 1, .inr (.inr (.inr (.inr (fun _ => none)))))), (na_4, .inl (cI, 2, .inl (upd (fun _ => 0) 0 8)))] ++ va_pl L f) _ := hP
  have hD : va_D A ([(so, .inr (4, [.ref na_1, .ref na_2, .int 0, .int 0, .int 0, .null])), (na_1, .inl (cQ, 8, .inr (.inr (.inr (.inr (rq aj)))))), (na_2, .inl (cP, 8, .inr (.inr (.inr (.inr (rq mj)))))), (na_3, .inl (cP, 1, .inr (.inr (.inr (.inr (fun _ => none)))))), (na_4, .inl (cI, 2, .inl (upd (fun _ => 0) 0 8)))] ++ va_pl L f) := hD
  refine lv_dup hx hb dX4_init_43 rfl ?_
  refine lv_iconst (v := 1) hx hb dX4_init_44 (by decide) ?_
  refine lv_bipush (v := 12) hx hb dX4_init_45 (by decide) ?_
  refine f_iast (k := 1) hx hb hK hP hD hS 4 0 rfl rfl rfl (by omega) (by first | decide | omega) dX4_init_47 (fun H locs hP hD hS => ?_)
  have hP : va_P D vwCl ([(so, .inr (4, [.ref na_1, .ref na_2, .int 0, .int 0, .int 0, .null])), (na_1, .inl (cQ, 8, .inr (.inr (.inr (.inr (rq aj)))))), (na_2, .inl (cP, 8, .inr (.inr (.inr (.inr (rq mj)))))), (na_3, .inl (cP, 1, .inr (.inr (.inr (.inr (fun _ => none)))))), (na_4, .inl (cI, 2, .inl (upd (upd (fun _ => 0) 0 8) 1 12)))] ++ va_pl L f) _ := hP
  have hD : va_D A ([(so, .inr (4, [.ref na_1, .ref na_2, .int 0, .int 0, .int 0, .null])), (na_1, .inl (cQ, 8, .inr (.inr (.inr (.inr (rq aj)))))), (na_2, .inl (cP, 8, .inr (.inr (.inr (.inr (rq mj)))))), (na_3, .inl (cP, 1, .inr (.inr (.inr (.inr (fun _ => none)))))), (na_4, .inl (cI, 2, .inl (upd (upd (fun _ => 0) 0 8) 1 12)))] ++ va_pl L f) := hD
  refine g_aast (t := .int) (k := 0) hx hb hK hP hD hS 3 2 rfl rfl hN.2.2.2.2.2.2.2.2.1 (hK.2 0 _ rfl).2 (⟨4, _, rfl⟩) rfl (by omega) (by first | decide | omega) dX4_init_48 (fun H locs hP hD hS => ?_)
  have hP : va_P D vwCl ([(so, .inr (4, [.ref na_1, .ref na_2, .int 0, .int 0, .int 0, .null])), (na_1, .inl (cQ, 8, .inr (.inr (.inr (.inr (rq aj)))))), (na_2, .inl (cP, 8, .inr (.inr (.inr (.inr (rq mj)))))), (na_3, .inl (cP, 1, .inr (.inr (.inr (.inr (va_up (fun _ => none) 0 (some na_4))))))), (na_4, .inl (cI, 2, .inl (upd (upd (fun _ => 0) 0 8) 1 12)))] ++ va_pl L f) _ := hP
  have hD : va_D A ([(so, .inr (4, [.ref na_1, .ref na_2, .int 0, .int 0, .int 0, .null])), (na_1, .inl (cQ, 8, .inr (.inr (.inr (.inr (rq aj)))))), (na_2, .inl (cP, 8, .inr (.inr (.inr (.inr (rq mj)))))), (na_3, .inl (cP, 1, .inr (.inr (.inr (.inr (va_up (fun _ => none) 0 (some na_4))))))), (na_4, .inl (cI, 2, .inl (upd (upd (fun _ => 0) 0 8) 1 12)))] ++ va_pl L f) := hD
  refine va_put (D := D) (ci := 4) (v := .ref na_3) (ty := tyX4 5) (C := RX4) (T := TX4) (N := 6) hx hb hts wb_X4_init_4 tyX4 tyX4_ok nmX4 hown hK hP hD hS 0 rfl rfl 5 (by decide) (hts _ wi_X4_init_11) (fun _ h9 => h9) rfl (tyX4_ok 5 (by decide)) rfl rfl (Nat.le_of_ble_eq_true rfl) dX4_init_49 (fun H locs hP hD hS => ?_)
  have hP : va_P D vwCl ([(so, .inr (4, [.ref na_1, .ref na_2, .int 0, .int 0, .int 0, .ref na_3])), (na_1, .inl (cQ, 8, .inr (.inr (.inr (.inr (rq aj)))))), (na_2, .inl (cP, 8, .inr (.inr (.inr (.inr (rq mj)))))), (na_3, .inl (cP, 1, .inr (.inr (.inr (.inr (va_up (fun _ => none) 0 (some na_4))))))), (na_4, .inl (cI, 2, .inl (upd (upd (fun _ => 0) 0 8) 1 12)))] ++ va_pl L f) _ := hP
  have hD : va_D A ([(so, .inr (4, [.ref na_1, .ref na_2, .int 0, .int 0, .int 0, .ref na_3])), (na_1, .inl (cQ, 8, .inr (.inr (.inr (.inr (rq aj)))))), (na_2, .inl (cP, 8, .inr (.inr (.inr (.inr (rq mj)))))), (na_3, .inl (cP, 1, .inr (.inr (.inr (.inr (va_up (fun _ => none) 0 (some na_4))))))), (na_4, .inl (cI, 2, .inl (upd (upd (fun _ => 0) 0 8) 1 12)))] ++ va_pl L f) := hD
  obtain ⟨L_5, f_6, hqn, hqL, hqm, hqf, hqv, hP, hD⟩ := g_pool (W := [(so, .inr (4, [.ref na_1, .ref na_2, .int 0, .int 0, .int 0, .ref na_3])), (na_1, .inl (cQ, 8, .inr (.inr (.inr (.inr (rq aj)))))), (na_2, .inl (cP, 8, .inr (.inr (.inr (.inr (rq mj)))))), (na_3, .inl (cP, 1, .inr (.inr (.inr (.inr (va_up (fun _ => none) 0 (some na_4)))))))]) (q := na_4) (L := L) (f := f) hP hD
  have hP : va_P D vwCl ([(so, .inr (4, [.ref na_1, .ref na_2, .int 0, .int 0, .int 0, .ref na_3])), (na_1, .inl (cQ, 8, .inr (.inr (.inr (.inr (rq aj)))))), (na_2, .inl (cP, 8, .inr (.inr (.inr (.inr (rq mj)))))), (na_3, .inl (cP, 1, .inr (.inr (.inr (.inr (va_up (fun _ => none) 0 (some na_4)))))))] ++ va_pl L_5 f_6) _ := hP
  have hD : va_D A ([(so, .inr (4, [.ref na_1, .ref na_2, .int 0, .int 0, .int 0, .ref na_3])), (na_1, .inl (cQ, 8, .inr (.inr (.inr (.inr (rq aj)))))), (na_2, .inl (cP, 8, .inr (.inr (.inr (.inr (rq mj)))))), (na_3, .inl (cP, 1, .inr (.inr (.inr (.inr (va_up (fun _ => none) 0 (some na_4)))))))] ++ va_pl L_5 f_6) := hD
  have hw_aj := hw_aj.keep hqL (fun r9 h9 => hqf _ ((hw_aj).mem h9))
  have hw_mj := hw_mj.keep hqL (fun r9 h9 => hqf _ ((hw_mj).mem h9))
  obtain ⟨hP, hD⟩ := f_repq (o' := rq (fun _ => na_4)) hP hD 3 rfl (fun j hj => by rw [show j = 0 by omega]; rfl)
  have hP : va_P D vwCl ([(so, .inr (4, [.ref na_1, .ref na_2, .int 0, .int 0, .int 0, .ref na_3])), (na_1, .inl (cQ, 8, .inr (.inr (.inr (.inr (rq aj)))))), (na_2, .inl (cP, 8, .inr (.inr (.inr (.inr (rq mj)))))), (na_3, .inl (cP, 1, .inr (.inr (.inr (.inr (rq (fun _ => na_4)))))))] ++ va_pl L_5 f_6) _ := hP
  have hD : va_D A ([(so, .inr (4, [.ref na_1, .ref na_2, .int 0, .int 0, .int 0, .ref na_3])), (na_1, .inl (cQ, 8, .inr (.inr (.inr (.inr (rq aj)))))), (na_2, .inl (cP, 8, .inr (.inr (.inr (.inr (rq mj)))))), (na_3, .inl (cP, 1, .inr (.inr (.inr (.inr (rq (fun _ => na_4)))))))] ++ va_pl L_5 f_6) := hD
  refine W.widen (k := 20) (n := 147) (by first | omega | exact Nat.le_of_ble_eq_true rfl) (by first | omega | exact Nat.le_of_ble_eq_true rfl) ?_
  exact g_ret_v (na_1, na_2, na_3, aj, mj, (fun _ => na_4), L_5, f_6) hx hb hr hlocks hP hD hS dX4_init_52 (⟨fun b1 h => hqL b1 (hLa b1 h), fun b1 h => (hqf b1 (hLa b1 h)).trans (hfa b1 h), fun r9 _ => ⟨hqm, _, hqv, ruG0⟩⟩)

theorem k_X4_copy : yX4_copy.cls = RX4 ∧ yX4_copy.cls ≠ "java/lang/invoke/MethodHandle" ∧ yX4_copy.cls ≠ "java/lang/invoke/VarHandle" ∧ (parseMethodDescriptor yX4_copy.desc).map (fun d => d.parameters.length) = some 0 := by decide +kernel
theorem wb_X4_copy_4 : ∀ w ∈ wsX40, w ∈ wsX4_copy := (fun _ h => List.mem_cons_of_mem _ (List.mem_append_right _ h))
theorem wi_X4_copy_1 : (Cond.classLink RX4 10 RX4) ∈ wsX4_copy := List.mem_of_getElem? (i := 1) rfl
theorem wi_X4_copy_2 : (Cond.instantiable RX4 6) ∈ wsX4_copy := List.mem_of_getElem? (i := 2) rfl
theorem wi_X4_copy_3 : (Cond.initialized RX4) ∈ wsX4_copy := List.mem_of_getElem? (i := 3) rfl
theorem wi_X4_copy_20 : (Cond.methodLink RX4 24 yX4_init) ∈ wsX4_copy := List.mem_of_getElem? (i := 20) rfl
theorem wi_X4_copy_21 : (Cond.instanceMethod yX4_init) ∈ wsX4_copy := List.mem_of_getElem? (i := 21) rfl
theorem wi_X4_copy_4 : (Cond.fieldLink RX4 9 "FrostPaneLaw$Sim" "ice" "[[Z") ∈ wsX4_copy := List.mem_of_getElem? (i := 4) rfl
theorem wi_X4_copy_16 : (Cond.fieldLink RX4 36 "FrostPaneLaw$Sim" "frame" "I") ∈ wsX4_copy := List.mem_of_getElem? (i := 16) rfl
theorem wi_X4_copy_17 : (Cond.fieldLink RX4 40 "FrostPaneLaw$Sim" "generation" "I") ∈ wsX4_copy := List.mem_of_getElem? (i := 17) rfl
theorem wi_X4_copy_18 : (Cond.fieldLink RX4 43 "FrostPaneLaw$Sim" "breath" "I") ∈ wsX4_copy := List.mem_of_getElem? (i := 18) rfl
theorem wi_X4_copy_19 : (Cond.fieldLink RX4 21 "FrostPaneLaw$Sim" "rules" "[[I") ∈ wsX4_copy := List.mem_of_getElem? (i := 19) rfl
theorem wi_X4_copy_5 : (Cond.methodLink RX4 29 ⟨"[Z", "clone", "()Ljava/lang/Object;"⟩) ∈ wsX4_copy := List.mem_of_getElem? (i := 5) rfl
theorem wi_X4_copy_6 : (Cond.sameMethod "[Z" "java/lang/Object" "clone" "()Ljava/lang/Object;") ∈ wsX4_copy := List.mem_of_getElem? (i := 6) rfl
theorem wi_X4_copy_7 : (Cond.native ⟨"java/lang/Object", "clone", "()Ljava/lang/Object;"⟩) ∈ wsX4_copy := List.mem_of_getElem? (i := 7) rfl
theorem wi_X4_copy_8 : (Cond.instanceMethod ⟨"java/lang/Object", "clone", "()Ljava/lang/Object;"⟩) ∈ wsX4_copy := List.mem_of_getElem? (i := 8) rfl
theorem wi_X4_copy_9 : (Cond.selects "[Z" ⟨"[Z", "clone", "()Ljava/lang/Object;"⟩ ⟨"java/lang/Object", "clone", "()Ljava/lang/Object;"⟩) ∈ wsX4_copy := List.mem_of_getElem? (i := 9) rfl
theorem wi_X4_copy_10 : (Cond.classLink RX4 30 "[Z") ∈ wsX4_copy := List.mem_of_getElem? (i := 10) rfl
theorem wi_X4_copy_11 : (Cond.fieldLink RX4 16 "FrostPaneLaw$Sim" "melt" "[[I") ∈ wsX4_copy := List.mem_of_getElem? (i := 11) rfl
theorem wi_X4_copy_12 : (Cond.methodLink RX4 35 ⟨"[I", "clone", "()Ljava/lang/Object;"⟩) ∈ wsX4_copy := List.mem_of_getElem? (i := 12) rfl
theorem wi_X4_copy_13 : (Cond.sameMethod "[I" "java/lang/Object" "clone" "()Ljava/lang/Object;") ∈ wsX4_copy := List.mem_of_getElem? (i := 13) rfl
theorem wi_X4_copy_14 : (Cond.selects "[I" ⟨"[I", "clone", "()Ljava/lang/Object;"⟩ ⟨"java/lang/Object", "clone", "()Ljava/lang/Object;"⟩) ∈ wsX4_copy := List.mem_of_getElem? (i := 14) rfl
theorem wi_X4_copy_15 : (Cond.classLink RX4 19 "[I") ∈ wsX4_copy := List.mem_of_getElem? (i := 15) rfl
set_option maxHeartbeats 4000000 in
set_option maxRecDepth 100000 in
theorem c_X4_copy (l : Launch) (D : va_G) (cI cZ cP cQ : ClassId) (sz : Nat) (so io mo ro C R F n b : Nat) (gn : Int32) (L0 : List Nat) (f0 : Nat → va_E) (ai mi ri : Nat → Nat) (ig mg rg : Nat → Nat → Int32) (hC1 : 3 ≤ C) (hC : C ≤ 12) (hR1 : 3 ≤ R) (hR : R ≤ 12) (hF : F ≤ 2) (hn : n ≤ 6) (hb0 : b < n) (hw_ai : Rw cZ L0 f0 R C ai ig) (hw_mi : Rw cI L0 f0 R C mi mg) (hw_ri : Rw cI L0 f0 n 2 ri rg) (hbl : ∀ q9, q9 < R → ∀ p9, p9 < C → ig q9 p9 = 0 ∨ ig q9 p9 = 1) : g_Mr l yX4_copy wsX4_copy ({ frames := 2, cells := 71, slots := 753, locals := 32 }) D (fTY cI cZ cP cQ) [.ref so] sz (([(so, .inr (4, [.ref io, .ref mo, .int (nI F), .int gn, .int (nI b), .ref ro])), (io, .inl (cQ, R, .inr (.inr (.inr (.inr (rq ai)))))), (mo, .inl (cP, R, .inr (.inr (.inr (.inr (rq mi)))))), (ro, .inl (cP, n, .inr (.inr (.inr (.inr (rq ri))))))] ++ va_pl L0 f0)) (fun (u9 : Nat × Nat × Nat × (Nat → Nat) × (Nat → Nat) × (List Nat) × (Nat → va_E)) => (∀ b9, b9 ∈ L0 → b9 ∈ (u9.2.2.2.2.2.1)) ∧ (∀ b9, b9 ∈ L0 → (u9.2.2.2.2.2.2) b9 = f0 b9) ∧ Rw cZ (u9.2.2.2.2.2.1) (u9.2.2.2.2.2.2) R C (u9.2.2.2.1) ig ∧ Rw cI (u9.2.2.2.2.2.1) (u9.2.2.2.2.2.2) R C (u9.2.2.2.2.1) mg ∧ Inj R (u9.2.2.2.1) ∧ Inj R (u9.2.2.2.2.1) ∧ (∀ q9, q9 < R → (u9.2.2.2.1) q9 ∉ L0) ∧ (∀ q9, q9 < R → (u9.2.2.2.2.1) q9 ∉ L0) ∧ Apt R R (u9.2.2.2.1) (u9.2.2.2.2.1)) (fun u9 => (u9.1)) (fun u9 => ([(so, .inr (4, [.ref io, .ref mo, .int (nI F), .int gn, .int (nI b), .ref ro])), (io, .inl (cQ, R, .inr (.inr (.inr (.inr (rq ai)))))), (mo, .inl (cP, R, .inr (.inr (.inr (.inr (rq mi)))))), (ro, .inl (cP, n, .inr (.inr (.inr (.inr (rq ri)))))), (u9.1, .inr (4, [.ref (u9.2.1), .ref (u9.2.2.1), .int (nI F), .int gn, .int (nI b), .ref ro])), (u9.2.1, .inl (cQ, R, .inr (.inr (.inr (.inr (rq (u9.2.2.2.1))))))), (u9.2.2.1, .inl (cP, R, .inr (.inr (.inr (.inr (rq (u9.2.2.2.2.1)))))))] ++ va_pl (u9.2.2.2.2.2.1) (u9.2.2.2.2.2.2))) 71 753 := by
  refine g_ent_r (by decide) rfl (Nat.le_of_ble_eq_true rfl) ?_
  intro pg ev s m below meth cd hx hb hr hts hown hlocks hml hnm hsz hP hK hN A hD hA hS ls hl
  have hown : s.vm.findClass RX4 = some m.cls := hown
  have hl : lv_has ls 3 [(0, .ref so)] := hl
  refine va_new (D := D) (ci := 4) (fs := [.null, .null, .int 0, .int 0, .int 0, .null]) (C := RX4) (T := TX4) (N := 6) hx hb hts wb_X4_copy_4 tyX4 tyX4_ok hown (hts _ wi_X4_copy_1) (hts _ wi_X4_copy_2) (hts _ wi_X4_copy_3) hK hP hD hS hA rfl (by decide) (Nat.le_of_ble_eq_true rfl) (Nat.le_of_ble_eq_true rfl) dX4_copy_0 (fun ob_1 H hP hD hS => ?_)
  have hP := hP.swap
  have hD := hD.swap
  have hP : va_P D vwCl ([(so, .inr (4, [.ref io, .ref mo, .int (nI F), .int gn, .int (nI b), .ref ro])), (io, .inl (cQ, R, .inr (.inr (.inr (.inr (rq ai)))))), (mo, .inl (cP, R, .inr (.inr (.inr (.inr (rq mi)))))), (ro, .inl (cP, n, .inr (.inr (.inr (.inr (rq ri)))))), (ob_1, .inr (4, [.null, .null, .int 0, .int 0, .int 0, .null]))] ++ va_pl L0 f0) _ := hP
  have hD : va_D A ([(so, .inr (4, [.ref io, .ref mo, .int (nI F), .int gn, .int (nI b), .ref ro])), (io, .inl (cQ, R, .inr (.inr (.inr (.inr (rq ai)))))), (mo, .inl (cP, R, .inr (.inr (.inr (.inr (rq mi)))))), (ro, .inl (cP, n, .inr (.inr (.inr (.inr (rq ri)))))), (ob_1, .inr (4, [.null, .null, .int 0, .int 0, .int 0, .null]))] ++ va_pl L0 f0) := hD
  refine lv_dup hx hb dX4_copy_3 rfl ?_
  refine g_callCv (wr := [(so, .inr (4, [.ref io, .ref mo, .int (nI F), .int gn, .int (nI b), .ref ro])), (io, .inl (cQ, R, .inr (.inr (.inr (.inr (rq ai)))))), (mo, .inl (cP, R, .inr (.inr (.inr (.inr (rq mi)))))), (ro, .inl (cP, n, .inr (.inr (.inr (.inr (rq ri))))))]) (rx := fun u9 : Nat × Nat × Nat × (Nat → Nat) × (Nat → Nat) × (Nat → Nat) × (List Nat) × (Nat → va_E) => [(ob_1, .inr (4, [.ref (u9.1), .ref (u9.2.1), .int 0, .int 0, .int 0, .ref (u9.2.2.1)])), (u9.1, .inl (cQ, 8, .inr (.inr (.inr (.inr (rq (u9.2.2.2.1))))))), (u9.2.1, .inl (cP, 8, .inr (.inr (.inr (.inr (rq (u9.2.2.2.2.1))))))), (u9.2.2.1, .inl (cP, 1, .inr (.inr (.inr (.inr (rq (u9.2.2.2.2.2.1)))))))]) (pl1 := fun u9 => va_pl (u9.2.2.2.2.2.2.1) (u9.2.2.2.2.2.2.2)) (X2 := fun u9 => [(so, .inr (4, [.ref io, .ref mo, .int (nI F), .int gn, .int (nI b), .ref ro])), (io, .inl (cQ, R, .inr (.inr (.inr (.inr (rq ai)))))), (mo, .inl (cP, R, .inr (.inr (.inr (.inr (rq mi)))))), (ro, .inl (cP, n, .inr (.inr (.inr (.inr (rq ri)))))), (ob_1, .inr (4, [.ref (u9.1), .ref (u9.2.1), .int 0, .int 0, .int 0, .ref (u9.2.2.1)])), (u9.1, .inl (cQ, 8, .inr (.inr (.inr (.inr (rq (u9.2.2.2.1))))))), (u9.2.1, .inl (cP, 8, .inr (.inr (.inr (.inr (rq (u9.2.2.2.2.1))))))), (u9.2.2.1, .inl (cP, 1, .inr (.inr (.inr (.inr (rq (u9.2.2.2.2.2.1)))))))]) ⟨hx, hb, hml, hown, hts⟩ hP hD hS hA hK hN [4] [0, 1, 2, 3] [0, 1, 2, 3, 4, 5, 6, 7]
      (c_X4_init (l := l) (D := D) (cI := cI) (cZ := cZ) (cP := cP) (cQ := cQ) (sz := _) (so := ob_1) (L0 := L0) (f0 := f0) ) (cwI 0 hts gX4_copy_X4_init rfl rfl rfl (hts _ wi_X4_copy_3) (hts _ wi_X4_copy_20) (hts _ wi_X4_copy_21) rfl (by decide +kernel) ⟨Nat.le_of_ble_eq_true rfl, Nat.le_of_ble_eq_true rfl⟩) rfl rfl rfl rfl (by decide) (fun _ => rfl) rfl rfl rfl hl.1 (Nat.le_of_ble_eq_true rfl) dX4_copy_4 ⟨Nat.le_of_ble_eq_true rfl, Nat.le_of_ble_eq_true rfl⟩ (fun u9 H locs hp9 hP hD hS => ?_)
  obtain ⟨ia_2, ma_3, ro_4, aj_5, mj_6, ri_7, L1_8, f1_9⟩ := u9
  have hP : va_P D vwCl ([(so, .inr (4, [.ref io, .ref mo, .int (nI F), .int gn, .int (nI b), .ref ro])), (io, .inl (cQ, R, .inr (.inr (.inr (.inr (rq ai)))))), (mo, .inl (cP, R, .inr (.inr (.inr (.inr (rq mi)))))), (ro, .inl (cP, n, .inr (.inr (.inr (.inr (rq ri)))))), (ob_1, .inr (4, [.ref ia_2, .ref ma_3, .int 0, .int 0, .int 0, .ref ro_4])), (ia_2, .inl (cQ, 8, .inr (.inr (.inr (.inr (rq aj_5)))))), (ma_3, .inl (cP, 8, .inr (.inr (.inr (.inr (rq mj_6)))))), (ro_4, .inl (cP, 1, .inr (.inr (.inr (.inr (rq ri_7))))))] ++ va_pl L1_8 f1_9) _ := hP
  have hD : va_D A ([(so, .inr (4, [.ref io, .ref mo, .int (nI F), .int gn, .int (nI b), .ref ro])), (io, .inl (cQ, R, .inr (.inr (.inr (.inr (rq ai)))))), (mo, .inl (cP, R, .inr (.inr (.inr (.inr (rq mi)))))), (ro, .inl (cP, n, .inr (.inr (.inr (.inr (rq ri)))))), (ob_1, .inr (4, [.ref ia_2, .ref ma_3, .int 0, .int 0, .int 0, .ref ro_4])), (ia_2, .inl (cQ, 8, .inr (.inr (.inr (.inr (rq aj_5)))))), (ma_3, .inl (cP, 8, .inr (.inr (.inr (.inr (rq mj_6)))))), (ro_4, .inl (cP, 1, .inr (.inr (.inr (.inr (rq ri_7))))))] ++ va_pl L1_8 f1_9) := hD
  obtain ⟨hP, hD⟩ := g_part (cx := [(so, .inr (4, [.ref io, .ref mo, .int (nI F), .int gn, .int (nI b), .ref ro])), (io, .inl (cQ, R, .inr (.inr (.inr (.inr (rq ai)))))), (mo, .inl (cP, R, .inr (.inr (.inr (.inr (rq mi)))))), (ro, .inl (cP, n, .inr (.inr (.inr (.inr (rq ri)))))), (ob_1, .inr (4, [.ref ia_2, .ref ma_3, .int 0, .int 0, .int 0, .ref ro_4]))]) [0, 1, 2, 3, 4] hP hD rfl rfl
  have hP : va_P D vwCl ([(so, .inr (4, [.ref io, .ref mo, .int (nI F), .int gn, .int (nI b), .ref ro])), (io, .inl (cQ, R, .inr (.inr (.inr (.inr (rq ai)))))), (mo, .inl (cP, R, .inr (.inr (.inr (.inr (rq mi)))))), (ro, .inl (cP, n, .inr (.inr (.inr (.inr (rq ri)))))), (ob_1, .inr (4, [.ref ia_2, .ref ma_3, .int 0, .int 0, .int 0, .ref ro_4]))] ++ va_pl L1_8 f1_9) _ := hP
  have hD : va_D A ([(so, .inr (4, [.ref io, .ref mo, .int (nI F), .int gn, .int (nI b), .ref ro])), (io, .inl (cQ, R, .inr (.inr (.inr (.inr (rq ai)))))), (mo, .inl (cP, R, .inr (.inr (.inr (.inr (rq mi)))))), (ro, .inl (cP, n, .inr (.inr (.inr (.inr (rq ri)))))), (ob_1, .inr (4, [.ref ia_2, .ref ma_3, .int 0, .int 0, .int 0, .ref ro_4]))] ++ va_pl L1_8 f1_9) := hD
  have hw_ai := hw_ai.keep hp9.1 (fun r9 h9 => hp9.2.1 _ (hw_ai.mem h9))
  have hw_mi := hw_mi.keep hp9.1 (fun r9 h9 => hp9.2.1 _ (hw_mi.mem h9))
  have hw_ri := hw_ri.keep hp9.1 (fun r9 h9 => hp9.2.1 _ (hw_ri.mem h9))
  have hLa := hp9.1
  have hfa := hp9.2.1
  refine lv_astore_n (lv' := [(1, .ref ob_1), (0, .ref so)]) hx hb dX4_copy_7 rfl hl (by decide) rfl (fun ls hl => ?_)
  refine lv_aload_n hx hb dX4_copy_8 rfl (lv_at hl 0 rfl) ?_
  refine lv_aload_n hx hb dX4_copy_9 rfl (lv_at hl 1 rfl) ?_
  refine va_get (D := D) (ci := 4) (v := .ref io) (C := RX4) (T := TX4) (N := 6) hx hb hts wb_X4_copy_4 hown hK hP 0 rfl rfl 0 (by decide) (hts _ wi_X4_copy_4) (fun _ h9 => h9) rfl dX4_copy_10 ?_
  refine lv_iconst (v := 0) hx hb dX4_copy_13 (by decide) ?_
  refine g_aald (k := 0) (v := ai 0) hx hb hK hP 1 3 rfl rfl rfl (by omega) (by first | decide | omega) rfl dX4_copy_14 ?_
  refine g_zlen (r := 0) hx hb hK hP hw_ai (by omega) dX4_copy_15 ?_
  refine lv_aload_n hx hb dX4_copy_16 rfl (lv_at hl 1 rfl) ?_
  refine va_get (D := D) (ci := 4) (v := .ref io) (C := RX4) (T := TX4) (N := 6) hx hb hts wb_X4_copy_4 hown hK hP 0 rfl rfl 0 (by decide) (hts _ wi_X4_copy_4) (fun _ h9 => h9) rfl dX4_copy_17 ?_
  refine va_alen (v := nI R) hx hb hK hP 1 3 rfl rfl rfl dX4_copy_20 ?_
  refine g_callVv (wr := [(so, .inr (4, [.ref io, .ref mo, .int (nI F), .int gn, .int (nI b), .ref ro])), (io, .inl (cQ, R, .inr (.inr (.inr (.inr (rq ai)))))), (mo, .inl (cP, R, .inr (.inr (.inr (.inr (rq mi)))))), (ro, .inl (cP, n, .inr (.inr (.inr (.inr (rq ri))))))]) (rx := fun u9 : Nat × Nat × (Nat → Nat) × (Nat → Nat) × (List Nat) × (Nat → va_E) => [(ob_1, .inr (4, [.ref (u9.1), .ref (u9.2.1), .int (nI 0), .int 0, .int (nI 0), .ref ro_4])), (u9.1, .inl (cQ, R, .inr (.inr (.inr (.inr (rq (u9.2.2.1))))))), (u9.2.1, .inl (cP, R, .inr (.inr (.inr (.inr (rq (u9.2.2.2.1)))))))]) (pl1 := fun u9 => va_pl (u9.2.2.2.2.1) (u9.2.2.2.2.2)) (X2 := fun u9 => [(so, .inr (4, [.ref io, .ref mo, .int (nI F), .int gn, .int (nI b), .ref ro])), (io, .inl (cQ, R, .inr (.inr (.inr (.inr (rq ai)))))), (mo, .inl (cP, R, .inr (.inr (.inr (.inr (rq mi)))))), (ro, .inl (cP, n, .inr (.inr (.inr (.inr (rq ri)))))), (ob_1, .inr (4, [.ref (u9.1), .ref (u9.2.1), .int (nI 0), .int 0, .int (nI 0), .ref ro_4])), (u9.1, .inl (cQ, R, .inr (.inr (.inr (.inr (rq (u9.2.2.1))))))), (u9.2.1, .inl (cP, R, .inr (.inr (.inr (.inr (rq (u9.2.2.2.1)))))))]) ⟨hx, hb, hml, hown, hts⟩ hP hD hS hA hK hN [4] [0, 1, 2, 3] [0, 1, 2, 3, 4, 5, 6]
      (c_X4_lay (l := l) (D := D) (cI := cI) (cZ := cZ) (cP := cP) (cQ := cQ) (sz := _) (so := ob_1) (io := ia_2) (mo := ma_3) (ro := ro_4) (F := 0) (b := 0) (C2 := C) (R2 := R) (gn := 0) (L0 := L1_8) (f0 := f1_9) (hC1 := (by first | assumption | omega)) (hC := (by first | assumption | omega)) (hR1 := (by first | assumption | omega)) (hR := (by first | assumption | omega))) (cwV 2 hts gX4_copy_X4_lay rfl rfl rfl k_X4_lay ⟨Nat.le_of_ble_eq_true rfl, Nat.le_of_ble_eq_true rfl⟩) 4 rfl rfl rfl rfl rfl rfl (by decide) (fun _ => rfl) rfl rfl rfl hl.1 (Nat.le_of_ble_eq_true rfl) dX4_copy_21 ⟨Nat.le_of_ble_eq_true rfl, Nat.le_of_ble_eq_true rfl⟩ (fun u9 H locs hp9 hP hD hS => ?_)
  obtain ⟨ia_10, ma_11, aj_12, mj_13, L1_14, f1_15⟩ := u9
  have hP : va_P D vwCl ([(so, .inr (4, [.ref io, .ref mo, .int (nI F), .int gn, .int (nI b), .ref ro])), (io, .inl (cQ, R, .inr (.inr (.inr (.inr (rq ai)))))), (mo, .inl (cP, R, .inr (.inr (.inr (.inr (rq mi)))))), (ro, .inl (cP, n, .inr (.inr (.inr (.inr (rq ri)))))), (ob_1, .inr (4, [.ref ia_10, .ref ma_11, .int (nI 0), .int 0, .int (nI 0), .ref ro_4])), (ia_10, .inl (cQ, R, .inr (.inr (.inr (.inr (rq aj_12)))))), (ma_11, .inl (cP, R, .inr (.inr (.inr (.inr (rq mj_13))))))] ++ va_pl L1_14 f1_15) _ := hP
  have hD : va_D A ([(so, .inr (4, [.ref io, .ref mo, .int (nI F), .int gn, .int (nI b), .ref ro])), (io, .inl (cQ, R, .inr (.inr (.inr (.inr (rq ai)))))), (mo, .inl (cP, R, .inr (.inr (.inr (.inr (rq mi)))))), (ro, .inl (cP, n, .inr (.inr (.inr (.inr (rq ri)))))), (ob_1, .inr (4, [.ref ia_10, .ref ma_11, .int (nI 0), .int 0, .int (nI 0), .ref ro_4])), (ia_10, .inl (cQ, R, .inr (.inr (.inr (.inr (rq aj_12)))))), (ma_11, .inl (cP, R, .inr (.inr (.inr (.inr (rq mj_13))))))] ++ va_pl L1_14 f1_15) := hD
  have hw_ai := hw_ai.keep hp9.1 (fun r9 h9 => hp9.2.1 _ (hw_ai.mem h9))
  have hw_mi := hw_mi.keep hp9.1 (fun r9 h9 => hp9.2.1 _ (hw_mi.mem h9))
  have hw_ri := hw_ri.keep hp9.1 (fun r9 h9 => hp9.2.1 _ (hw_ri.mem h9))
  have hfa : ∀ b9, b9 ∈ L0 → f1_15 b9 = f0 b9 := fun b1 h => (hp9.2.1 b1 (hLa b1 h)).trans (hfa b1 h)
  have hLa : ∀ b9, b9 ∈ L0 → b9 ∈ L1_14 := fun b1 h => hp9.1 b1 (hLa b1 h)
  obtain ⟨hP, hD⟩ := f_repq (o' := rq (ccF (fun _ => 0) aj_12 0)) hP hD 5 rfl (fun j _ => ccF_0 _ _ j)
  have hP : va_P D vwCl ([(so, .inr (4, [.ref io, .ref mo, .int (nI F), .int gn, .int (nI b), .ref ro])), (io, .inl (cQ, R, .inr (.inr (.inr (.inr (rq ai)))))), (mo, .inl (cP, R, .inr (.inr (.inr (.inr (rq mi)))))), (ro, .inl (cP, n, .inr (.inr (.inr (.inr (rq ri)))))), (ob_1, .inr (4, [.ref ia_10, .ref ma_11, .int (nI 0), .int 0, .int (nI 0), .ref ro_4])), (ia_10, .inl (cQ, R, .inr (.inr (.inr (.inr (rq (ccF (fun _ => 0) aj_12 0))))))), (ma_11, .inl (cP, R, .inr (.inr (.inr (.inr (rq mj_13))))))] ++ va_pl L1_14 f1_15) _ := hP
  have hD : va_D A ([(so, .inr (4, [.ref io, .ref mo, .int (nI F), .int gn, .int (nI b), .ref ro])), (io, .inl (cQ, R, .inr (.inr (.inr (.inr (rq ai)))))), (mo, .inl (cP, R, .inr (.inr (.inr (.inr (rq mi)))))), (ro, .inl (cP, n, .inr (.inr (.inr (.inr (rq ri)))))), (ob_1, .inr (4, [.ref ia_10, .ref ma_11, .int (nI 0), .int 0, .int (nI 0), .ref ro_4])), (ia_10, .inl (cQ, R, .inr (.inr (.inr (.inr (rq (ccF (fun _ => 0) aj_12 0))))))), (ma_11, .inl (cP, R, .inr (.inr (.inr (.inr (rq mj_13))))))] ++ va_pl L1_14 f1_15) := hD
  obtain ⟨hP, hD⟩ := f_repq (o' := rq (ccF (fun _ => 0) mj_13 0)) hP hD 6 rfl (fun j _ => ccF_0 _ _ j)
  have hP : va_P D vwCl ([(so, .inr (4, [.ref io, .ref mo, .int (nI F), .int gn, .int (nI b), .ref ro])), (io, .inl (cQ, R, .inr (.inr (.inr (.inr (rq ai)))))), (mo, .inl (cP, R, .inr (.inr (.inr (.inr (rq mi)))))), (ro, .inl (cP, n, .inr (.inr (.inr (.inr (rq ri)))))), (ob_1, .inr (4, [.ref ia_10, .ref ma_11, .int (nI 0), .int 0, .int (nI 0), .ref ro_4])), (ia_10, .inl (cQ, R, .inr (.inr (.inr (.inr (rq (ccF (fun _ => 0) aj_12 0))))))), (ma_11, .inl (cP, R, .inr (.inr (.inr (.inr (rq (ccF (fun _ => 0) mj_13 0)))))))] ++ va_pl L1_14 f1_15) _ := hP
  have hD : va_D A ([(so, .inr (4, [.ref io, .ref mo, .int (nI F), .int gn, .int (nI b), .ref ro])), (io, .inl (cQ, R, .inr (.inr (.inr (.inr (rq ai)))))), (mo, .inl (cP, R, .inr (.inr (.inr (.inr (rq mi)))))), (ro, .inl (cP, n, .inr (.inr (.inr (.inr (rq ri)))))), (ob_1, .inr (4, [.ref ia_10, .ref ma_11, .int (nI 0), .int 0, .int (nI 0), .ref ro_4])), (ia_10, .inl (cQ, R, .inr (.inr (.inr (.inr (rq (ccF (fun _ => 0) aj_12 0))))))), (ma_11, .inl (cP, R, .inr (.inr (.inr (.inr (rq (ccF (fun _ => 0) mj_13 0)))))))] ++ va_pl L1_14 f1_15) := hD
  refine lv_iconst (v := 0) hx hb dX4_copy_24 (by decide) ?_
  refine lv_istore_n (lv' := [(2, .int 0), (1, .ref ob_1), (0, .ref so)]) hx hb dX4_copy_25 rfl hl (by decide) rfl (fun ls hl => ?_)
  refine W.widen (k := 47 + 2 * 0) (n := 465 + 24 * 0) (by omega) (by omega) ?_
  refine g_loopW (σ := (List Nat) × (Nat → va_E) × (Nat → Nat) × (Nat → Nat) × Nat) (D := D) (A := A) (H0 := s.heap) 3 26 (fun u9 => [(2, .int (nI (u9.2.2.2.2))), (1, .ref ob_1), (0, .ref so)]) (fun u9 => ([(so, .inr (4, [.ref io, .ref mo, .int (nI F), .int gn, .int (nI b), .ref ro])), (io, .inl (cQ, R, .inr (.inr (.inr (.inr (rq ai)))))), (mo, .inl (cP, R, .inr (.inr (.inr (.inr (rq mi)))))), (ro, .inl (cP, n, .inr (.inr (.inr (.inr (rq ri)))))), (ob_1, .inr (4, [.ref ia_10, .ref ma_11, .int (nI 0), .int 0, .int (nI 0), .ref ro_4])), (ia_10, .inl (cQ, R, .inr (.inr (.inr (.inr (rq (ccF (u9.2.2.1) aj_12 (u9.2.2.2.2)))))))), (ma_11, .inl (cP, R, .inr (.inr (.inr (.inr (rq (ccF (u9.2.2.2.1) mj_13 (u9.2.2.2.2))))))))] ++ va_pl (u9.1) (u9.2.1))) (fun u9 => 47 + 2 * (u9.2.2.2.2)) (fun u9 => 465 + 24 * (u9.2.2.2.2)) (fun u9 => (u9.2.2.2.2) ≤ R ∧ Rw cZ (u9.1) (u9.2.1) R C ai ig ∧ Rw cI (u9.1) (u9.2.1) R C mi mg ∧ Rw cI (u9.1) (u9.2.1) n 2 ri rg ∧ (∀ b9, b9 ∈ L0 → b9 ∈ (u9.1)) ∧ (∀ b9, b9 ∈ L0 → (u9.2.1) b9 = f0 b9) ∧ Rw cZ (u9.1) (u9.2.1) (u9.2.2.2.2) C (u9.2.2.1) ig ∧ Rw cI (u9.1) (u9.2.1) (u9.2.2.2.2) C (u9.2.2.2.1) mg ∧ Inj (u9.2.2.2.2) (u9.2.2.1) ∧ Inj (u9.2.2.2.2) (u9.2.2.2.1) ∧ (∀ q9, q9 < (u9.2.2.2.2) → (u9.2.2.1) q9 ∉ L0) ∧ (∀ q9, q9 < (u9.2.2.2.2) → (u9.2.2.2.1) q9 ∉ L0) ∧ Apt (u9.2.2.2.2) (u9.2.2.2.2) (u9.2.2.1) (u9.2.2.2.1)) (fun u9 => R - (u9.2.2.2.2))
      (fun u9 hi_17 ih_16 H locs hP hD hS ls hl => ?_) (L1_14, f1_15, (fun _ => 0), (fun _ => 0), 0) (⟨Nat.zero_le _, hw_ai, hw_mi, hw_ri, hLa, hfa, fun r9 h9 => absurd h9 (Nat.not_lt_zero _), fun r9 h9 => absurd h9 (Nat.not_lt_zero _), fun r9 _ h9 => absurd h9 (Nat.not_lt_zero _), fun r9 _ h9 => absurd h9 (Nat.not_lt_zero _), fun r9 h9 => absurd h9 (Nat.not_lt_zero _), fun r9 h9 => absurd h9 (Nat.not_lt_zero _), fun r9 _ h9 => absurd h9 (Nat.not_lt_zero _)⟩) hP hD hS (lv_sub hl [0, 1, 2] rfl)
  obtain ⟨L, f, bi, bm, r⟩ := u9
  have hi_17 : r ≤ R ∧ Rw cZ L f R C ai ig ∧ Rw cI L f R C mi mg ∧ Rw cI L f n 2 ri rg ∧ (∀ b9, b9 ∈ L0 → b9 ∈ L) ∧ (∀ b9, b9 ∈ L0 → f b9 = f0 b9) ∧ Rw cZ L f r C bi ig ∧ Rw cI L f r C bm mg ∧ Inj r bi ∧ Inj r bm ∧ (∀ q9, q9 < r → bi q9 ∉ L0) ∧ (∀ q9, q9 < r → bm q9 ∉ L0) ∧ Apt r r bi bm := hi_17
  obtain ⟨hrR, hw_ai, hw_mi, hw_ri, hLa, hfa, hw_bi, hw_bm, hi_bi, hi_bm, hn_bi, hn_bm, hap⟩ := hi_17
  have hl : lv_has ls 3 [(2, .int (nI r)), (1, .ref ob_1), (0, .ref so)] := hl
  have hP : va_P D vwCl ([(so, .inr (4, [.ref io, .ref mo, .int (nI F), .int gn, .int (nI b), .ref ro])), (io, .inl (cQ, R, .inr (.inr (.inr (.inr (rq ai)))))), (mo, .inl (cP, R, .inr (.inr (.inr (.inr (rq mi)))))), (ro, .inl (cP, n, .inr (.inr (.inr (.inr (rq ri)))))), (ob_1, .inr (4, [.ref ia_10, .ref ma_11, .int (nI 0), .int 0, .int (nI 0), .ref ro_4])), (ia_10, .inl (cQ, R, .inr (.inr (.inr (.inr (rq (ccF bi aj_12 r))))))), (ma_11, .inl (cP, R, .inr (.inr (.inr (.inr (rq (ccF bm mj_13 r)))))))] ++ va_pl L f) _ := hP
  have hD : va_D A ([(so, .inr (4, [.ref io, .ref mo, .int (nI F), .int gn, .int (nI b), .ref ro])), (io, .inl (cQ, R, .inr (.inr (.inr (.inr (rq ai)))))), (mo, .inl (cP, R, .inr (.inr (.inr (.inr (rq mi)))))), (ro, .inl (cP, n, .inr (.inr (.inr (.inr (rq ri)))))), (ob_1, .inr (4, [.ref ia_10, .ref ma_11, .int (nI 0), .int 0, .int (nI 0), .ref ro_4])), (ia_10, .inl (cQ, R, .inr (.inr (.inr (.inr (rq (ccF bi aj_12 r))))))), (ma_11, .inl (cP, R, .inr (.inr (.inr (.inr (rq (ccF bm mj_13 r)))))))] ++ va_pl L f) := hD
  refine lv_iload_n hx hb dX4_copy_26 rfl (lv_at hl 0 rfl) ?_
  refine lv_aload_n hx hb dX4_copy_27 rfl (lv_at hl 2 rfl) ?_
  refine va_get (D := D) (ci := 4) (v := .ref io) (C := RX4) (T := TX4) (N := 6) hx hb hts wb_X4_copy_4 hown hK hP 0 rfl rfl 0 (by decide) (hts _ wi_X4_copy_4) (fun _ h9 => h9) rfl dX4_copy_28 ?_
  refine va_alen (v := nI R) hx hb hK hP 1 3 rfl rfl rfl dX4_copy_31 ?_
  refine lv_icmp_ge (tgt := 77) hx hb dX4_copy_32 (by decide) (fun c_18 => ?_) (fun c_18 => ?_)
  · have n_18 : R ≤ r := (nI_leI (a := R) (b := r) (by omega) (by omega)).mp c_18
    have hr9 : r = R := by omega
    obtain ⟨hP, hD⟩ := f_repq (o' := rq bi) hP hD 5 rfl (fun j hj => ccF_end (by omega) hj)
    have hP : va_P D vwCl ([(so, .inr (4, [.ref io, .ref mo, .int (nI F), .int gn, .int (nI b), .ref ro])), (io, .inl (cQ, R, .inr (.inr (.inr (.inr (rq ai)))))), (mo, .inl (cP, R, .inr (.inr (.inr (.inr (rq mi)))))), (ro, .inl (cP, n, .inr (.inr (.inr (.inr (rq ri)))))), (ob_1, .inr (4, [.ref ia_10, .ref ma_11, .int (nI 0), .int 0, .int (nI 0), .ref ro_4])), (ia_10, .inl (cQ, R, .inr (.inr (.inr (.inr (rq bi)))))), (ma_11, .inl (cP, R, .inr (.inr (.inr (.inr (rq (ccF bm mj_13 r)))))))] ++ va_pl L f) _ := hP
    have hD : va_D A ([(so, .inr (4, [.ref io, .ref mo, .int (nI F), .int gn, .int (nI b), .ref ro])), (io, .inl (cQ, R, .inr (.inr (.inr (.inr (rq ai)))))), (mo, .inl (cP, R, .inr (.inr (.inr (.inr (rq mi)))))), (ro, .inl (cP, n, .inr (.inr (.inr (.inr (rq ri)))))), (ob_1, .inr (4, [.ref ia_10, .ref ma_11, .int (nI 0), .int 0, .int (nI 0), .ref ro_4])), (ia_10, .inl (cQ, R, .inr (.inr (.inr (.inr (rq bi)))))), (ma_11, .inl (cP, R, .inr (.inr (.inr (.inr (rq (ccF bm mj_13 r)))))))] ++ va_pl L f) := hD
    obtain ⟨hP, hD⟩ := f_repq (o' := rq bm) hP hD 6 rfl (fun j hj => ccF_end (by omega) hj)
    have hP : va_P D vwCl ([(so, .inr (4, [.ref io, .ref mo, .int (nI F), .int gn, .int (nI b), .ref ro])), (io, .inl (cQ, R, .inr (.inr (.inr (.inr (rq ai)))))), (mo, .inl (cP, R, .inr (.inr (.inr (.inr (rq mi)))))), (ro, .inl (cP, n, .inr (.inr (.inr (.inr (rq ri)))))), (ob_1, .inr (4, [.ref ia_10, .ref ma_11, .int (nI 0), .int 0, .int (nI 0), .ref ro_4])), (ia_10, .inl (cQ, R, .inr (.inr (.inr (.inr (rq bi)))))), (ma_11, .inl (cP, R, .inr (.inr (.inr (.inr (rq bm))))))] ++ va_pl L f) _ := hP
    have hD : va_D A ([(so, .inr (4, [.ref io, .ref mo, .int (nI F), .int gn, .int (nI b), .ref ro])), (io, .inl (cQ, R, .inr (.inr (.inr (.inr (rq ai)))))), (mo, .inl (cP, R, .inr (.inr (.inr (.inr (rq mi)))))), (ro, .inl (cP, n, .inr (.inr (.inr (.inr (rq ri)))))), (ob_1, .inr (4, [.ref ia_10, .ref ma_11, .int (nI 0), .int 0, .int (nI 0), .ref ro_4])), (ia_10, .inl (cQ, R, .inr (.inr (.inr (.inr (rq bi)))))), (ma_11, .inl (cP, R, .inr (.inr (.inr (.inr (rq bm))))))] ++ va_pl L f) := hD
    refine lv_aload_n hx hb dX4_copy_77 rfl (lv_at hl 1 rfl) ?_
    refine lv_aload_n hx hb dX4_copy_78 rfl (lv_at hl 2 rfl) ?_
    refine va_get (D := D) (ci := 4) (v := .int (nI F)) (C := RX4) (T := TX4) (N := 6) hx hb hts wb_X4_copy_4 hown hK hP 0 rfl rfl 2 (by decide) (hts _ wi_X4_copy_16) (fun _ h9 => h9) rfl dX4_copy_79 ?_
    refine va_put (D := D) (ci := 4) (v := .int (nI F)) (ty := tyX4 2) (C := RX4) (T := TX4) (N := 6) hx hb hts wb_X4_copy_4 tyX4 tyX4_ok nmX4 hown hK hP hD hS 4 rfl rfl 2 (by decide) (hts _ wi_X4_copy_16) (fun _ h9 => h9) rfl (tyX4_ok 2 (by decide)) rfl rfl (Nat.le_of_ble_eq_true rfl) dX4_copy_82 (fun H locs hP hD hS => ?_)
    have hP : va_P D vwCl ([(so, .inr (4, [.ref io, .ref mo, .int (nI F), .int gn, .int (nI b), .ref ro])), (io, .inl (cQ, R, .inr (.inr (.inr (.inr (rq ai)))))), (mo, .inl (cP, R, .inr (.inr (.inr (.inr (rq mi)))))), (ro, .inl (cP, n, .inr (.inr (.inr (.inr (rq ri)))))), (ob_1, .inr (4, [.ref ia_10, .ref ma_11, .int (nI F), .int 0, .int (nI 0), .ref ro_4])), (ia_10, .inl (cQ, R, .inr (.inr (.inr (.inr (rq bi)))))), (ma_11, .inl (cP, R, .inr (.inr (.inr (.inr (rq bm))))))] ++ va_pl L f) _ := hP
    have hD : va_D A ([(so, .inr (4, [.ref io, .ref mo, .int (nI F), .int gn, .int (nI b), .ref ro])), (io, .inl (cQ, R, .inr (.inr (.inr (.inr (rq ai)))))), (mo, .inl (cP, R, .inr (.inr (.inr (.inr (rq mi)))))), (ro, .inl (cP, n, .inr (.inr (.inr (.inr (rq ri)))))), (ob_1, .inr (4, [.ref ia_10, .ref ma_11, .int (nI F), .int 0, .int (nI 0), .ref ro_4])), (ia_10, .inl (cQ, R, .inr (.inr (.inr (.inr (rq bi)))))), (ma_11, .inl (cP, R, .inr (.inr (.inr (.inr (rq bm))))))] ++ va_pl L f) := hD
    refine lv_aload_n hx hb dX4_copy_85 rfl (lv_at hl 1 rfl) ?_
    refine lv_aload_n hx hb dX4_copy_86 rfl (lv_at hl 2 rfl) ?_
    refine va_get (D := D) (ci := 4) (v := .int gn) (C := RX4) (T := TX4) (N := 6) hx hb hts wb_X4_copy_4 hown hK hP 0 rfl rfl 3 (by decide) (hts _ wi_X4_copy_17) (fun _ h9 => h9) rfl dX4_copy_87 ?_
    refine va_put (D := D) (ci := 4) (v := .int gn) (ty := tyX4 3) (C := RX4) (T := TX4) (N := 6) hx hb hts wb_X4_copy_4 tyX4 tyX4_ok nmX4 hown hK hP hD hS 4 rfl rfl 3 (by decide) (hts _ wi_X4_copy_17) (fun _ h9 => h9) rfl (tyX4_ok 3 (by decide)) rfl rfl (Nat.le_of_ble_eq_true rfl) dX4_copy_90 (fun H locs hP hD hS => ?_)
    have hP : va_P D vwCl ([(so, .inr (4, [.ref io, .ref mo, .int (nI F), .int gn, .int (nI b), .ref ro])), (io, .inl (cQ, R, .inr (.inr (.inr (.inr (rq ai)))))), (mo, .inl (cP, R, .inr (.inr (.inr (.inr (rq mi)))))), (ro, .inl (cP, n, .inr (.inr (.inr (.inr (rq ri)))))), (ob_1, .inr (4, [.ref ia_10, .ref ma_11, .int (nI F), .int gn, .int (nI 0), .ref ro_4])), (ia_10, .inl (cQ, R, .inr (.inr (.inr (.inr (rq bi)))))), (ma_11, .inl (cP, R, .inr (.inr (.inr (.inr (rq bm))))))] ++ va_pl L f) _ := hP
    have hD : va_D A ([(so, .inr (4, [.ref io, .ref mo, .int (nI F), .int gn, .int (nI b), .ref ro])), (io, .inl (cQ, R, .inr (.inr (.inr (.inr (rq ai)))))), (mo, .inl (cP, R, .inr (.inr (.inr (.inr (rq mi)))))), (ro, .inl (cP, n, .inr (.inr (.inr (.inr (rq ri)))))), (ob_1, .inr (4, [.ref ia_10, .ref ma_11, .int (nI F), .int gn, .int (nI 0), .ref ro_4])), (ia_10, .inl (cQ, R, .inr (.inr (.inr (.inr (rq bi)))))), (ma_11, .inl (cP, R, .inr (.inr (.inr (.inr (rq bm))))))] ++ va_pl L f) := hD
    refine lv_aload_n hx hb dX4_copy_93 rfl (lv_at hl 1 rfl) ?_
    refine lv_aload_n hx hb dX4_copy_94 rfl (lv_at hl 2 rfl) ?_
    refine va_get (D := D) (ci := 4) (v := .int (nI b)) (C := RX4) (T := TX4) (N := 6) hx hb hts wb_X4_copy_4 hown hK hP 0 rfl rfl 4 (by decide) (hts _ wi_X4_copy_18) (fun _ h9 => h9) rfl dX4_copy_95 ?_
    refine va_put (D := D) (ci := 4) (v := .int (nI b)) (ty := tyX4 4) (C := RX4) (T := TX4) (N := 6) hx hb hts wb_X4_copy_4 tyX4 tyX4_ok nmX4 hown hK hP hD hS 4 rfl rfl 4 (by decide) (hts _ wi_X4_copy_18) (fun _ h9 => h9) rfl (tyX4_ok 4 (by decide)) rfl rfl (Nat.le_of_ble_eq_true rfl) dX4_copy_98 (fun H locs hP hD hS => ?_)
    have hP : va_P D vwCl ([(so, .inr (4, [.ref io, .ref mo, .int (nI F), .int gn, .int (nI b), .ref ro])), (io, .inl (cQ, R, .inr (.inr (.inr (.inr (rq ai)))))), (mo, .inl (cP, R, .inr (.inr (.inr (.inr (rq mi)))))), (ro, .inl (cP, n, .inr (.inr (.inr (.inr (rq ri)))))), (ob_1, .inr (4, [.ref ia_10, .ref ma_11, .int (nI F), .int gn, .int (nI b), .ref ro_4])), (ia_10, .inl (cQ, R, .inr (.inr (.inr (.inr (rq bi)))))), (ma_11, .inl (cP, R, .inr (.inr (.inr (.inr (rq bm))))))] ++ va_pl L f) _ := hP
    have hD : va_D A ([(so, .inr (4, [.ref io, .ref mo, .int (nI F), .int gn, .int (nI b), .ref ro])), (io, .inl (cQ, R, .inr (.inr (.inr (.inr (rq ai)))))), (mo, .inl (cP, R, .inr (.inr (.inr (.inr (rq mi)))))), (ro, .inl (cP, n, .inr (.inr (.inr (.inr (rq ri)))))), (ob_1, .inr (4, [.ref ia_10, .ref ma_11, .int (nI F), .int gn, .int (nI b), .ref ro_4])), (ia_10, .inl (cQ, R, .inr (.inr (.inr (.inr (rq bi)))))), (ma_11, .inl (cP, R, .inr (.inr (.inr (.inr (rq bm))))))] ++ va_pl L f) := hD
    refine lv_aload_n hx hb dX4_copy_101 rfl (lv_at hl 1 rfl) ?_
    refine lv_aload_n hx hb dX4_copy_102 rfl (lv_at hl 2 rfl) ?_
    refine va_get (D := D) (ci := 4) (v := .ref ro) (C := RX4) (T := TX4) (N := 6) hx hb hts wb_X4_copy_4 hown hK hP 0 rfl rfl 5 (by decide) (hts _ wi_X4_copy_19) (fun _ h9 => h9) rfl dX4_copy_103 ?_
    refine va_put (D := D) (ci := 4) (v := .ref ro) (ty := tyX4 5) (C := RX4) (T := TX4) (N := 6) hx hb hts wb_X4_copy_4 tyX4 tyX4_ok nmX4 hown hK hP hD hS 4 rfl rfl 5 (by decide) (hts _ wi_X4_copy_19) (fun _ h9 => h9) rfl (tyX4_ok 5 (by decide)) rfl rfl (Nat.le_of_ble_eq_true rfl) dX4_copy_106 (fun H locs hP hD hS => ?_)
    have hP : va_P D vwCl ([(so, .inr (4, [.ref io, .ref mo, .int (nI F), .int gn, .int (nI b), .ref ro])), (io, .inl (cQ, R, .inr (.inr (.inr (.inr (rq ai)))))), (mo, .inl (cP, R, .inr (.inr (.inr (.inr (rq mi)))))), (ro, .inl (cP, n, .inr (.inr (.inr (.inr (rq ri)))))), (ob_1, .inr (4, [.ref ia_10, .ref ma_11, .int (nI F), .int gn, .int (nI b), .ref ro])), (ia_10, .inl (cQ, R, .inr (.inr (.inr (.inr (rq bi)))))), (ma_11, .inl (cP, R, .inr (.inr (.inr (.inr (rq bm))))))] ++ va_pl L f) _ := hP
    have hD : va_D A ([(so, .inr (4, [.ref io, .ref mo, .int (nI F), .int gn, .int (nI b), .ref ro])), (io, .inl (cQ, R, .inr (.inr (.inr (.inr (rq ai)))))), (mo, .inl (cP, R, .inr (.inr (.inr (.inr (rq mi)))))), (ro, .inl (cP, n, .inr (.inr (.inr (.inr (rq ri)))))), (ob_1, .inr (4, [.ref ia_10, .ref ma_11, .int (nI F), .int gn, .int (nI b), .ref ro])), (ia_10, .inl (cQ, R, .inr (.inr (.inr (.inr (rq bi)))))), (ma_11, .inl (cP, R, .inr (.inr (.inr (.inr (rq bm))))))] ++ va_pl L f) := hD
    refine lv_aload_n hx hb dX4_copy_109 rfl (lv_at hl 1 rfl) ?_
    refine W.widen (k := 71) (n := 753) (by first | omega | exact Nat.le_of_ble_eq_true rfl) (by first | omega | exact Nat.le_of_ble_eq_true rfl) ?_
    exact g_ret_r (ob_1, ia_10, ma_11, bi, bm, L, f) hx hb hr (Or.inl ⟨_, rfl⟩) hlocks hP hD hS dX4_copy_110 rfl (⟨hLa, hfa, hr9 ▸ hw_bi, hr9 ▸ hw_bm, hr9 ▸ hi_bi, hr9 ▸ hi_bm, hr9 ▸ hn_bi, hr9 ▸ hn_bm, hr9 ▸ hap⟩)
  · have n_18 : r < R := Nat.lt_of_not_le (fun h => c_18 ((nI_leI (a := R) (b := r) (by omega) (by omega)).mpr h))
    refine lv_aload_n hx hb dX4_copy_35 rfl (lv_at hl 1 rfl) ?_
    refine va_get (D := D) (ci := 4) (v := .ref ia_10) (C := RX4) (T := TX4) (N := 6) hx hb hts wb_X4_copy_4 hown hK hP 4 rfl rfl 0 (by decide) (hts _ wi_X4_copy_4) (fun _ h9 => h9) rfl dX4_copy_36 ?_
    refine lv_iload_n hx hb dX4_copy_39 rfl (lv_at hl 0 rfl) ?_
    refine lv_aload_n hx hb dX4_copy_40 rfl (lv_at hl 2 rfl) ?_
    refine va_get (D := D) (ci := 4) (v := .ref io) (C := RX4) (T := TX4) (N := 6) hx hb hts wb_X4_copy_4 hown hK hP 0 rfl rfl 0 (by decide) (hts _ wi_X4_copy_4) (fun _ h9 => h9) rfl dX4_copy_41 ?_
    refine lv_iload_n hx hb dX4_copy_44 rfl (lv_at hl 0 rfl) ?_
    refine g_aald (k := r) (v := ai r) hx hb hK hP 1 3 rfl rfl rfl (by omega) (by first | decide | omega) rfl dX4_copy_45 ?_
    refine g_cloneZ (r := r) hx hb (hml.trans hl.1.symm) hown (hts _ wi_X4_copy_5) (hts _ wi_X4_copy_6) (hts _ wi_X4_copy_7) (hts _ wi_X4_copy_8) (hts _ wi_X4_copy_9) hN.2.2.2.2.2.2.2.2.2.2.1 hK hP hD hS hA hw_ai (by omega) (fun c9 h9 => hbl r (by omega) c9 h9) (Nat.le_of_ble_eq_true rfl) (Nat.le_of_ble_eq_true rfl) (by show 47 + 2 * r + 1 ≤ 71; omega) (by show 465 + 24 * r + C ≤ 753; omega) dX4_copy_46 (fun cl_19 ch_20 H he_ch_20 hP hD hS => ?_)
    have hP : va_P D vwCl ([(so, .inr (4, [.ref io, .ref mo, .int (nI F), .int gn, .int (nI b), .ref ro])), (io, .inl (cQ, R, .inr (.inr (.inr (.inr (rq ai)))))), (mo, .inl (cP, R, .inr (.inr (.inr (.inr (rq mi)))))), (ro, .inl (cP, n, .inr (.inr (.inr (.inr (rq ri)))))), (ob_1, .inr (4, [.ref ia_10, .ref ma_11, .int (nI 0), .int 0, .int (nI 0), .ref ro_4])), (ia_10, .inl (cQ, R, .inr (.inr (.inr (.inr (rq (ccF bi aj_12 r))))))), (ma_11, .inl (cP, R, .inr (.inr (.inr (.inr (rq (ccF bm mj_13 r))))))), (cl_19, .inl (cZ, C, .inl ch_20))] ++ va_pl L f) _ := hP
    have hD : va_D A ([(so, .inr (4, [.ref io, .ref mo, .int (nI F), .int gn, .int (nI b), .ref ro])), (io, .inl (cQ, R, .inr (.inr (.inr (.inr (rq ai)))))), (mo, .inl (cP, R, .inr (.inr (.inr (.inr (rq mi)))))), (ro, .inl (cP, n, .inr (.inr (.inr (.inr (rq ri)))))), (ob_1, .inr (4, [.ref ia_10, .ref ma_11, .int (nI 0), .int 0, .int (nI 0), .ref ro_4])), (ia_10, .inl (cQ, R, .inr (.inr (.inr (.inr (rq (ccF bi aj_12 r))))))), (ma_11, .inl (cP, R, .inr (.inr (.inr (.inr (rq (ccF bm mj_13 r))))))), (cl_19, .inl (cZ, C, .inl ch_20))] ++ va_pl L f) := hD
    refine va_castA hx hb hown (hts _ wi_X4_copy_10) hP 7 rfl (hK.2 1 _ rfl).2 dX4_copy_49 ?_
    refine g_aast (t := .boolean) (k := r) hx hb hK hP hD hS 5 3 rfl rfl hN.2.2.2.2.2.2.2.2.2.1 (hK.2 1 _ rfl).2 (⟨7, _, rfl⟩) rfl (by omega) (by first | decide | omega) dX4_copy_52 (fun H locs hP hD hS => ?_)
    have hP : va_P D vwCl ([(so, .inr (4, [.ref io, .ref mo, .int (nI F), .int gn, .int (nI b), .ref ro])), (io, .inl (cQ, R, .inr (.inr (.inr (.inr (rq ai)))))), (mo, .inl (cP, R, .inr (.inr (.inr (.inr (rq mi)))))), (ro, .inl (cP, n, .inr (.inr (.inr (.inr (rq ri)))))), (ob_1, .inr (4, [.ref ia_10, .ref ma_11, .int (nI 0), .int 0, .int (nI 0), .ref ro_4])), (ia_10, .inl (cQ, R, .inr (.inr (.inr (.inr (va_up (rq (ccF bi aj_12 r)) r (some cl_19))))))), (ma_11, .inl (cP, R, .inr (.inr (.inr (.inr (rq (ccF bm mj_13 r))))))), (cl_19, .inl (cZ, C, .inl ch_20))] ++ va_pl L f) _ := hP
    have hD : va_D A ([(so, .inr (4, [.ref io, .ref mo, .int (nI F), .int gn, .int (nI b), .ref ro])), (io, .inl (cQ, R, .inr (.inr (.inr (.inr (rq ai)))))), (mo, .inl (cP, R, .inr (.inr (.inr (.inr (rq mi)))))), (ro, .inl (cP, n, .inr (.inr (.inr (.inr (rq ri)))))), (ob_1, .inr (4, [.ref ia_10, .ref ma_11, .int (nI 0), .int 0, .int (nI 0), .ref ro_4])), (ia_10, .inl (cQ, R, .inr (.inr (.inr (.inr (va_up (rq (ccF bi aj_12 r)) r (some cl_19))))))), (ma_11, .inl (cP, R, .inr (.inr (.inr (.inr (rq (ccF bm mj_13 r))))))), (cl_19, .inl (cZ, C, .inl ch_20))] ++ va_pl L f) := hD
    obtain ⟨L_21, f_22, hqn, hqL, hqm, hqf, hqv, hP, hD⟩ := g_pool (W := [(so, .inr (4, [.ref io, .ref mo, .int (nI F), .int gn, .int (nI b), .ref ro])), (io, .inl (cQ, R, .inr (.inr (.inr (.inr (rq ai)))))), (mo, .inl (cP, R, .inr (.inr (.inr (.inr (rq mi)))))), (ro, .inl (cP, n, .inr (.inr (.inr (.inr (rq ri)))))), (ob_1, .inr (4, [.ref ia_10, .ref ma_11, .int (nI 0), .int 0, .int (nI 0), .ref ro_4])), (ia_10, .inl (cQ, R, .inr (.inr (.inr (.inr (va_up (rq (ccF bi aj_12 r)) r (some cl_19))))))), (ma_11, .inl (cP, R, .inr (.inr (.inr (.inr (rq (ccF bm mj_13 r)))))))]) (q := cl_19) (L := L) (f := f) hP hD
    have hP : va_P D vwCl ([(so, .inr (4, [.ref io, .ref mo, .int (nI F), .int gn, .int (nI b), .ref ro])), (io, .inl (cQ, R, .inr (.inr (.inr (.inr (rq ai)))))), (mo, .inl (cP, R, .inr (.inr (.inr (.inr (rq mi)))))), (ro, .inl (cP, n, .inr (.inr (.inr (.inr (rq ri)))))), (ob_1, .inr (4, [.ref ia_10, .ref ma_11, .int (nI 0), .int 0, .int (nI 0), .ref ro_4])), (ia_10, .inl (cQ, R, .inr (.inr (.inr (.inr (va_up (rq (ccF bi aj_12 r)) r (some cl_19))))))), (ma_11, .inl (cP, R, .inr (.inr (.inr (.inr (rq (ccF bm mj_13 r)))))))] ++ va_pl L_21 f_22) _ := hP
    have hD : va_D A ([(so, .inr (4, [.ref io, .ref mo, .int (nI F), .int gn, .int (nI b), .ref ro])), (io, .inl (cQ, R, .inr (.inr (.inr (.inr (rq ai)))))), (mo, .inl (cP, R, .inr (.inr (.inr (.inr (rq mi)))))), (ro, .inl (cP, n, .inr (.inr (.inr (.inr (rq ri)))))), (ob_1, .inr (4, [.ref ia_10, .ref ma_11, .int (nI 0), .int 0, .int (nI 0), .ref ro_4])), (ia_10, .inl (cQ, R, .inr (.inr (.inr (.inr (va_up (rq (ccF bi aj_12 r)) r (some cl_19))))))), (ma_11, .inl (cP, R, .inr (.inr (.inr (.inr (rq (ccF bm mj_13 r)))))))] ++ va_pl L_21 f_22) := hD
    have hw_ai := hw_ai.keep hqL (fun r9 h9 => hqf _ ((hw_ai).mem h9))
    have hw_mi := hw_mi.keep hqL (fun r9 h9 => hqf _ ((hw_mi).mem h9))
    have hw_ri := hw_ri.keep hqL (fun r9 h9 => hqf _ ((hw_ri).mem h9))
    have hw0 := hw_bi
    have hw_bi := hw0.more hqL hqf hqm hqv he_ch_20
    have hi_bi := hi_bi.more (fun r9 h9 => hw0.mem h9) hqn
    have hap : Apt (r + 1) r (va_up bi r cl_19) bm := hap.more1 (fun r9 h9 => hw_bm.mem h9) hqn
    have hn_bi := frm_more hn_bi (fun z => hqn (hLa _ z))
    have hw_bm := hw_bm.keep hqL (fun r9 h9 => hqf _ (hw_bm.mem h9))
    have hfa : ∀ b9, b9 ∈ L0 → f_22 b9 = f0 b9 := fun b1 h => (hqf b1 (hLa b1 h)).trans (hfa b1 h)
    have hLa : ∀ b9, b9 ∈ L0 → b9 ∈ L_21 := fun b1 h => hqL b1 (hLa b1 h)
    obtain ⟨hP, hD⟩ := f_repq (o' := rq (ccF (va_up bi r cl_19) aj_12 (r + 1))) hP hD 5 rfl (fun j _ => ccF_up _ _ _ _ j)
    have hP : va_P D vwCl ([(so, .inr (4, [.ref io, .ref mo, .int (nI F), .int gn, .int (nI b), .ref ro])), (io, .inl (cQ, R, .inr (.inr (.inr (.inr (rq ai)))))), (mo, .inl (cP, R, .inr (.inr (.inr (.inr (rq mi)))))), (ro, .inl (cP, n, .inr (.inr (.inr (.inr (rq ri)))))), (ob_1, .inr (4, [.ref ia_10, .ref ma_11, .int (nI 0), .int 0, .int (nI 0), .ref ro_4])), (ia_10, .inl (cQ, R, .inr (.inr (.inr (.inr (rq (ccF (va_up bi r cl_19) aj_12 (r + 1)))))))), (ma_11, .inl (cP, R, .inr (.inr (.inr (.inr (rq (ccF bm mj_13 r)))))))] ++ va_pl L_21 f_22) _ := hP
    have hD : va_D A ([(so, .inr (4, [.ref io, .ref mo, .int (nI F), .int gn, .int (nI b), .ref ro])), (io, .inl (cQ, R, .inr (.inr (.inr (.inr (rq ai)))))), (mo, .inl (cP, R, .inr (.inr (.inr (.inr (rq mi)))))), (ro, .inl (cP, n, .inr (.inr (.inr (.inr (rq ri)))))), (ob_1, .inr (4, [.ref ia_10, .ref ma_11, .int (nI 0), .int 0, .int (nI 0), .ref ro_4])), (ia_10, .inl (cQ, R, .inr (.inr (.inr (.inr (rq (ccF (va_up bi r cl_19) aj_12 (r + 1)))))))), (ma_11, .inl (cP, R, .inr (.inr (.inr (.inr (rq (ccF bm mj_13 r)))))))] ++ va_pl L_21 f_22) := hD
    refine lv_aload_n hx hb dX4_copy_53 rfl (lv_at hl 1 rfl) ?_
    refine va_get (D := D) (ci := 4) (v := .ref ma_11) (C := RX4) (T := TX4) (N := 6) hx hb hts wb_X4_copy_4 hown hK hP 4 rfl rfl 1 (by decide) (hts _ wi_X4_copy_11) (fun _ h9 => h9) rfl dX4_copy_54 ?_
    refine lv_iload_n hx hb dX4_copy_57 rfl (lv_at hl 0 rfl) ?_
    refine lv_aload_n hx hb dX4_copy_58 rfl (lv_at hl 2 rfl) ?_
    refine va_get (D := D) (ci := 4) (v := .ref mo) (C := RX4) (T := TX4) (N := 6) hx hb hts wb_X4_copy_4 hown hK hP 0 rfl rfl 1 (by decide) (hts _ wi_X4_copy_11) (fun _ h9 => h9) rfl dX4_copy_59 ?_
    refine lv_iload_n hx hb dX4_copy_62 rfl (lv_at hl 0 rfl) ?_
    refine g_aald (k := r) (v := mi r) hx hb hK hP 2 2 rfl rfl rfl (by omega) (by first | decide | omega) rfl dX4_copy_63 ?_
    refine g_cloneI (r := r) hx hb (hml.trans hl.1.symm) hown (hts _ wi_X4_copy_12) (hts _ wi_X4_copy_13) (hts _ wi_X4_copy_7) (hts _ wi_X4_copy_8) (hts _ wi_X4_copy_14) hN.2.2.2.2.2.2.2.2.2.2.2 hK hP hD hS hA hw_mi (by omega) (Nat.le_of_ble_eq_true rfl) (Nat.le_of_ble_eq_true rfl) (by show 47 + 2 * r + 1 + 1 ≤ 71; omega) (by show 465 + 24 * r + C + C ≤ 753; omega) dX4_copy_64 (fun cl_23 ch_24 H he_ch_24 hP hD hS => ?_)
    have hP : va_P D vwCl ([(so, .inr (4, [.ref io, .ref mo, .int (nI F), .int gn, .int (nI b), .ref ro])), (io, .inl (cQ, R, .inr (.inr (.inr (.inr (rq ai)))))), (mo, .inl (cP, R, .inr (.inr (.inr (.inr (rq mi)))))), (ro, .inl (cP, n, .inr (.inr (.inr (.inr (rq ri)))))), (ob_1, .inr (4, [.ref ia_10, .ref ma_11, .int (nI 0), .int 0, .int (nI 0), .ref ro_4])), (ia_10, .inl (cQ, R, .inr (.inr (.inr (.inr (rq (ccF (va_up bi r cl_19) aj_12 (r + 1)))))))), (ma_11, .inl (cP, R, .inr (.inr (.inr (.inr (rq (ccF bm mj_13 r))))))), (cl_23, .inl (cI, C, .inl ch_24))] ++ va_pl L_21 f_22) _ := hP
    have hD : va_D A ([(so, .inr (4, [.ref io, .ref mo, .int (nI F), .int gn, .int (nI b), .ref ro])), (io, .inl (cQ, R, .inr (.inr (.inr (.inr (rq ai)))))), (mo, .inl (cP, R, .inr (.inr (.inr (.inr (rq mi)))))), (ro, .inl (cP, n, .inr (.inr (.inr (.inr (rq ri)))))), (ob_1, .inr (4, [.ref ia_10, .ref ma_11, .int (nI 0), .int 0, .int (nI 0), .ref ro_4])), (ia_10, .inl (cQ, R, .inr (.inr (.inr (.inr (rq (ccF (va_up bi r cl_19) aj_12 (r + 1)))))))), (ma_11, .inl (cP, R, .inr (.inr (.inr (.inr (rq (ccF bm mj_13 r))))))), (cl_23, .inl (cI, C, .inl ch_24))] ++ va_pl L_21 f_22) := hD
    refine va_castA hx hb hown (hts _ wi_X4_copy_15) hP 7 rfl (hK.2 0 _ rfl).2 dX4_copy_67 ?_
    refine g_aast (t := .int) (k := r) hx hb hK hP hD hS 6 2 rfl rfl hN.2.2.2.2.2.2.2.2.1 (hK.2 0 _ rfl).2 (⟨7, _, rfl⟩) rfl (by omega) (by first | decide | omega) dX4_copy_70 (fun H locs hP hD hS => ?_)
    have hP : va_P D vwCl ([(so, .inr (4, [.ref io, .ref mo, .int (nI F), .int gn, .int (nI b), .ref ro])), (io, .inl (cQ, R, .inr (.inr (.inr (.inr (rq ai)))))), (mo, .inl (cP, R, .inr (.inr (.inr (.inr (rq mi)))))), (ro, .inl (cP, n, .inr (.inr (.inr (.inr (rq ri)))))), (ob_1, .inr (4, [.ref ia_10, .ref ma_11, .int (nI 0), .int 0, .int (nI 0), .ref ro_4])), (ia_10, .inl (cQ, R, .inr (.inr (.inr (.inr (rq (ccF (va_up bi r cl_19) aj_12 (r + 1)))))))), (ma_11, .inl (cP, R, .inr (.inr (.inr (.inr (va_up (rq (ccF bm mj_13 r)) r (some cl_23))))))), (cl_23, .inl (cI, C, .inl ch_24))] ++ va_pl L_21 f_22) _ := hP
    have hD : va_D A ([(so, .inr (4, [.ref io, .ref mo, .int (nI F), .int gn, .int (nI b), .ref ro])), (io, .inl (cQ, R, .inr (.inr (.inr (.inr (rq ai)))))), (mo, .inl (cP, R, .inr (.inr (.inr (.inr (rq mi)))))), (ro, .inl (cP, n, .inr (.inr (.inr (.inr (rq ri)))))), (ob_1, .inr (4, [.ref ia_10, .ref ma_11, .int (nI 0), .int 0, .int (nI 0), .ref ro_4])), (ia_10, .inl (cQ, R, .inr (.inr (.inr (.inr (rq (ccF (va_up bi r cl_19) aj_12 (r + 1)))))))), (ma_11, .inl (cP, R, .inr (.inr (.inr (.inr (va_up (rq (ccF bm mj_13 r)) r (some cl_23))))))), (cl_23, .inl (cI, C, .inl ch_24))] ++ va_pl L_21 f_22) := hD
    obtain ⟨L_25, f_26, hqn, hqL, hqm, hqf, hqv, hP, hD⟩ := g_pool (W := [(so, .inr (4, [.ref io, .ref mo, .int (nI F), .int gn, .int (nI b), .ref ro])), (io, .inl (cQ, R, .inr (.inr (.inr (.inr (rq ai)))))), (mo, .inl (cP, R, .inr (.inr (.inr (.inr (rq mi)))))), (ro, .inl (cP, n, .inr (.inr (.inr (.inr (rq ri)))))), (ob_1, .inr (4, [.ref ia_10, .ref ma_11, .int (nI 0), .int 0, .int (nI 0), .ref ro_4])), (ia_10, .inl (cQ, R, .inr (.inr (.inr (.inr (rq (ccF (va_up bi r cl_19) aj_12 (r + 1)))))))), (ma_11, .inl (cP, R, .inr (.inr (.inr (.inr (va_up (rq (ccF bm mj_13 r)) r (some cl_23)))))))]) (q := cl_23) (L := L_21) (f := f_22) hP hD
    have hP : va_P D vwCl ([(so, .inr (4, [.ref io, .ref mo, .int (nI F), .int gn, .int (nI b), .ref ro])), (io, .inl (cQ, R, .inr (.inr (.inr (.inr (rq ai)))))), (mo, .inl (cP, R, .inr (.inr (.inr (.inr (rq mi)))))), (ro, .inl (cP, n, .inr (.inr (.inr (.inr (rq ri)))))), (ob_1, .inr (4, [.ref ia_10, .ref ma_11, .int (nI 0), .int 0, .int (nI 0), .ref ro_4])), (ia_10, .inl (cQ, R, .inr (.inr (.inr (.inr (rq (ccF (va_up bi r cl_19) aj_12 (r + 1)))))))), (ma_11, .inl (cP, R, .inr (.inr (.inr (.inr (va_up (rq (ccF bm mj_13 r)) r (some cl_23)))))))] ++ va_pl L_25 f_26) _ := hP
    have hD : va_D A ([(so, .inr (4, [.ref io, .ref mo, .int (nI F), .int gn, .int (nI b), .ref ro])), (io, .inl (cQ, R, .inr (.inr (.inr (.inr (rq ai)))))), (mo, .inl (cP, R, .inr (.inr (.inr (.inr (rq mi)))))), (ro, .inl (cP, n, .inr (.inr (.inr (.inr (rq ri)))))), (ob_1, .inr (4, [.ref ia_10, .ref ma_11, .int (nI 0), .int 0, .int (nI 0), .ref ro_4])), (ia_10, .inl (cQ, R, .inr (.inr (.inr (.inr (rq (ccF (va_up bi r cl_19) aj_12 (r + 1)))))))), (ma_11, .inl (cP, R, .inr (.inr (.inr (.inr (va_up (rq (ccF bm mj_13 r)) r (some cl_23)))))))] ++ va_pl L_25 f_26) := hD
    have hw_ai := hw_ai.keep hqL (fun r9 h9 => hqf _ ((hw_ai).mem h9))
    have hw_mi := hw_mi.keep hqL (fun r9 h9 => hqf _ ((hw_mi).mem h9))
    have hw_ri := hw_ri.keep hqL (fun r9 h9 => hqf _ ((hw_ri).mem h9))
    have hw0 := hw_bm
    have hw_bm := hw0.more hqL hqf hqm hqv he_ch_24
    have hi_bm := hi_bm.more (fun r9 h9 => hw0.mem h9) hqn
    have hap : Apt (r + 1) (r + 1) _ (va_up bm r cl_23) := (hap.symm.more1 (fun r9 h9 => hw_bi.mem h9) hqn).symm
    have hn_bm := frm_more hn_bm (fun z => hqn (hLa _ z))
    have hw_bi := hw_bi.keep hqL (fun r9 h9 => hqf _ (hw_bi.mem h9))
    have hfa : ∀ b9, b9 ∈ L0 → f_26 b9 = f0 b9 := fun b1 h => (hqf b1 (hLa b1 h)).trans (hfa b1 h)
    have hLa : ∀ b9, b9 ∈ L0 → b9 ∈ L_25 := fun b1 h => hqL b1 (hLa b1 h)
    obtain ⟨hP, hD⟩ := f_repq (o' := rq (ccF (va_up bm r cl_23) mj_13 (r + 1))) hP hD 6 rfl (fun j _ => ccF_up _ _ _ _ j)
    have hP : va_P D vwCl ([(so, .inr (4, [.ref io, .ref mo, .int (nI F), .int gn, .int (nI b), .ref ro])), (io, .inl (cQ, R, .inr (.inr (.inr (.inr (rq ai)))))), (mo, .inl (cP, R, .inr (.inr (.inr (.inr (rq mi)))))), (ro, .inl (cP, n, .inr (.inr (.inr (.inr (rq ri)))))), (ob_1, .inr (4, [.ref ia_10, .ref ma_11, .int (nI 0), .int 0, .int (nI 0), .ref ro_4])), (ia_10, .inl (cQ, R, .inr (.inr (.inr (.inr (rq (ccF (va_up bi r cl_19) aj_12 (r + 1)))))))), (ma_11, .inl (cP, R, .inr (.inr (.inr (.inr (rq (ccF (va_up bm r cl_23) mj_13 (r + 1))))))))] ++ va_pl L_25 f_26) _ := hP
    have hD : va_D A ([(so, .inr (4, [.ref io, .ref mo, .int (nI F), .int gn, .int (nI b), .ref ro])), (io, .inl (cQ, R, .inr (.inr (.inr (.inr (rq ai)))))), (mo, .inl (cP, R, .inr (.inr (.inr (.inr (rq mi)))))), (ro, .inl (cP, n, .inr (.inr (.inr (.inr (rq ri)))))), (ob_1, .inr (4, [.ref ia_10, .ref ma_11, .int (nI 0), .int 0, .int (nI 0), .ref ro_4])), (ia_10, .inl (cQ, R, .inr (.inr (.inr (.inr (rq (ccF (va_up bi r cl_19) aj_12 (r + 1)))))))), (ma_11, .inl (cP, R, .inr (.inr (.inr (.inr (rq (ccF (va_up bm r cl_23) mj_13 (r + 1))))))))] ++ va_pl L_25 f_26) := hD
    refine lv_iinc (v := nI (r + 1)) (lv' := [(2, .int (nI (r + 1))), (1, .ref ob_1), (0, .ref so)]) hx hb dX4_copy_71 hl (k := 0) rfl (nI_1 _) (by decide) rfl (fun ls hl => ?_)
    refine lv_goto (tgt := 26) hx hb dX4_copy_74 (by decide) ?_
    refine W.widen (k := 47 + 2 * (r + 1)) (n := 465 + 24 * (r + 1)) (by show 47 + 2 * r + 1 + 1 ≤ _; omega) (by show 465 + 24 * r + C + C ≤ _; omega) ?_
    exact ih_16 (L_25, f_26, va_up bi r cl_19, va_up bm r cl_23, (r + 1)) (⟨show r + 1 ≤ R by omega, hw_ai, hw_mi, hw_ri, hLa, hfa, hw_bi, hw_bm, hi_bi, hi_bm, hn_bi, hn_bm, hap⟩) (by first | omega | (simp only []; omega) | (show _ < _; simp only []; omega)) H locs hP hD hS ls (lv_sub hl [0, 1, 2] rfl)

end C_specs_mut
