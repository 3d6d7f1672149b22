section C_specs_model3
abbrev szg (g : Nat → Int32) : Nat := sz g 12
theorem spr_mu {fz g : Nat → Int32} {mo : Int32} {d : Nat} (hmo : ¬ mo = 0) (h : 145 ≤ szg g + d) : (if wdc fz g 12 = 0 then 0 else d - 1 + 1) < (if mo = 0 then 0 else d + 1) := by
  have h9 := sz_le g 12
  have h8 : 145 ≤ sz g 12 + d := h
  rw [if_neg hmo]; split <;> omega
theorem sfill_w12 {lf g nx : Nat → Int32} {R k : Nat} (hk : k = R) (hR : R ≤ 12) (j : Nat) : sfill (wdn lf g k) nx R j = sfill (wdn lf g 12) nx R j := by
  unfold sfill
  split
  · rename_i h
    rw [hk, wdn_lt _ _ h, wdn_lt _ _ (show j < 12 by omega)]
  · rfl
theorem spF_Sub {fz : Nat → Int32} (hF : inR fz) {c : Nat} (r : Nat) (hc : c < 12) : Sub (spF fz c r) fz := (pkg_ok hF 145 _ (sp0_Sub hc) (by omega)).1
theorem sfill_cg {F G g : Nat → Int32} {R : Nat} (h : ∀ j, j < 12 → F j = G j) {j : Nat} (hj : j < 12) : sfill F g R j = sfill G g R j := by
  unfold sfill; split
  · exact h j hj
  · rfl
theorem k_X4_spread : yX4_spread.cls = RX4 ∧ yX4_spread.cls ≠ "java/lang/invoke/MethodHandle" ∧ yX4_spread.cls ≠ "java/lang/invoke/VarHandle" ∧ (parseMethodDescriptor yX4_spread.desc).map (fun d => d.parameters.length) = some 2 := by decide +kernel
theorem wb_X4_spread_4 : ∀ w ∈ wsX40, w ∈ wsX4_spread := (fun _ h => List.mem_cons_of_mem _ (List.mem_append_right _ h))
theorem wi_X4_spread_1 : (Cond.fieldLink RX4 13 "FrostPaneModel" "rows" "I") ∈ wsX4_spread := List.mem_of_getElem? (i := 1) rfl
theorem wi_X4_spread_2 : (Cond.fieldLink RX4 41 "FrostPaneModel" "next" "[I") ∈ wsX4_spread := List.mem_of_getElem? (i := 2) rfl
theorem wi_X4_spread_3 : (Cond.fieldLink RX4 29 "FrostPaneModel" "ice" "[I") ∈ wsX4_spread := List.mem_of_getElem? (i := 3) rfl
set_option maxHeartbeats 4000000 in
set_option maxRecDepth 100000 in
theorem c_X4_spread (l : Launch) (D : va_G) (cI cZ cJ : ClassId) (sz : Nat) (mp mf ms mi mm mk mq mn mu mv C R F n b : Nat) (tw gn : Int32) (fz ml frA stA kp km nx sm sn : Nat → Int32) (c r : Nat) (hC3 : 3 ≤ C) (hC : C ≤ 12) (hR3 : 3 ≤ R) (hR : R ≤ 12) (hF : F ≤ 2) (hn : n ≤ 6) (hb0 : b < n) (hI : IV C R fz) (hc0 : c < C) (hr0 : r < R) : f_Mi l yX4_spread wsX4_spread ({ frames := 1, cells := 0, slots := 0, locals := 20 }) D (fTY cI cZ cJ) [.ref mp, .int (nI c), .int (nI r)] sz [(mp, .inr (4, [.int tw, .int (nI C), .int (nI R), .int (nI F), .int gn, .int (nI n), .int (nI b), .ref mf, .ref ms, .ref mi, .ref mm, .ref mk, .ref mq, .ref mn, .ref mu, .ref mv])), (mf, .inl (cI, 6, .inl frA)), (ms, .inl (cI, 6, .inl stA)), (mi, .inl (cI, 12, .inl fz)), (mm, .inl (cI, 144, .inl ml)), (mk, .inl (cI, 12, .inl kp)), (mq, .inl (cI, 144, .inl km)), (mn, .inl (cI, 12, .inl nx)), (mu, .inl (cI, 4, .inl sm)), (mv, .inl (cZ, 144, .inl sn))] (tac (spF fz c r) 12) [(mp, .inr (4, [.int tw, .int (nI C), .int (nI R), .int (nI F), .int gn, .int (nI n), .int (nI b), .ref mf, .ref ms, .ref mi, .ref mm, .ref mk, .ref mq, .ref mn, .ref mu, .ref mv])), (mf, .inl (cI, 6, .inl frA)), (ms, .inl (cI, 6, .inl stA)), (mi, .inl (cI, 12, .inl fz)), (mm, .inl (cI, 144, .inl ml)), (mk, .inl (cI, 12, .inl kp)), (mq, .inl (cI, 144, .inl km)), (mn, .inl (cI, 12, .inl (sfill (spF fz c r) nx R))), (mu, .inl (cI, 4, .inl sm)), (mv, .inl (cZ, 144, .inl sn))] := by
  refine f_ent_i (by decide) rfl (Nat.le_of_ble_eq_true rfl) ?_
  intro pg ev s m below meth cd hx hb hr hts hown hlocks hml hnm hsz hP hK hN A hD hA hS ls hl
  have hown : s.vm.findClass RX4 = some m.cls := hown
  have hl : lv_has ls 6 [(0, .ref mp), (1, .int (nI c)), (2, .int (nI r))] := hl
  obtain ⟨hP, hD⟩ := f_rep (g := sfill (sp0 fz c r) nx 0) hP hD 7 rfl (fun j _ => sfill_0 _ _ j)
  have hP : va_P D vwCl [(mp, .inr (4, [.int tw, .int (nI C), .int (nI R), .int (nI F), .int gn, .int (nI n), .int (nI b), .ref mf, .ref ms, .ref mi, .ref mm, .ref mk, .ref mq, .ref mn, .ref mu, .ref mv])), (mf, .inl (cI, 6, .inl frA)), (ms, .inl (cI, 6, .inl stA)), (mi, .inl (cI, 12, .inl fz)), (mm, .inl (cI, 144, .inl ml)), (mk, .inl (cI, 12, .inl kp)), (mq, .inl (cI, 144, .inl km)), (mn, .inl (cI, 12, .inl (sfill (sp0 fz c r) nx 0))), (mu, .inl (cI, 4, .inl sm)), (mv, .inl (cZ, 144, .inl sn))] _ := hP
  have hD : va_D A [(mp, .inr (4, [.int tw, .int (nI C), .int (nI R), .int (nI F), .int gn, .int (nI n), .int (nI b), .ref mf, .ref ms, .ref mi, .ref mm, .ref mk, .ref mq, .ref mn, .ref mu, .ref mv])), (mf, .inl (cI, 6, .inl frA)), (ms, .inl (cI, 6, .inl stA)), (mi, .inl (cI, 12, .inl fz)), (mm, .inl (cI, 144, .inl ml)), (mk, .inl (cI, 12, .inl kp)), (mq, .inl (cI, 144, .inl km)), (mn, .inl (cI, 12, .inl (sfill (sp0 fz c r) nx 0))), (mu, .inl (cI, 4, .inl sm)), (mv, .inl (cZ, 144, .inl sn))] := hD
  refine lv_iconst (v := 0) hx hb dX4_spread_0 (by decide) ?_
  refine lv_istore_n (lv' := [(3, .int 0), (0, .ref mp), (1, .int (nI c)), (2, .int (nI r))]) hx hb dX4_spread_1 rfl hl (by decide) rfl (fun ls hl => ?_)
  refine f_loopW (σ := Nat) (D := D) (A := A) (H0 := s.heap) 6 2 (fun u9 => [(3, .int (nI u9)), (0, .ref mp), (1, .int (nI c)), (2, .int (nI r))]) (fun u9 => [(mp, .inr (4, [.int tw, .int (nI C), .int (nI R), .int (nI F), .int gn, .int (nI n), .int (nI b), .ref mf, .ref ms, .ref mi, .ref mm, .ref mk, .ref mq, .ref mn, .ref mu, .ref mv])), (mf, .inl (cI, 6, .inl frA)), (ms, .inl (cI, 6, .inl stA)), (mi, .inl (cI, 12, .inl fz)), (mm, .inl (cI, 144, .inl ml)), (mk, .inl (cI, 12, .inl kp)), (mq, .inl (cI, 144, .inl km)), (mn, .inl (cI, 12, .inl (sfill (sp0 fz c r) nx u9))), (mu, .inl (cI, 4, .inl sm)), (mv, .inl (cZ, 144, .inl sn))]) (fun u9 => u9 ≤ R) (fun u9 => R - u9)
      (fun u9 hi_2 ih_1 H locs hP hD hS ls hl => ?_) 0 (by omega) hP hD hS (lv_sub hl [0, 1, 2, 3] rfl)
  obtain ⟨k, rfl⟩ : ∃ z, z = u9 := ⟨_, rfl⟩
  have hi_2 : k ≤ R := hi_2
  obtain hk := hi_2
  have hl : lv_has ls 6 [(3, .int (nI k)), (0, .ref mp), (1, .int (nI c)), (2, .int (nI r))] := hl
  have hP : va_P D vwCl [(mp, .inr (4, [.int tw, .int (nI C), .int (nI R), .int (nI F), .int gn, .int (nI n), .int (nI b), .ref mf, .ref ms, .ref mi, .ref mm, .ref mk, .ref mq, .ref mn, .ref mu, .ref mv])), (mf, .inl (cI, 6, .inl frA)), (ms, .inl (cI, 6, .inl stA)), (mi, .inl (cI, 12, .inl fz)), (mm, .inl (cI, 144, .inl ml)), (mk, .inl (cI, 12, .inl kp)), (mq, .inl (cI, 144, .inl km)), (mn, .inl (cI, 12, .inl (sfill (sp0 fz c r) nx k))), (mu, .inl (cI, 4, .inl sm)), (mv, .inl (cZ, 144, .inl sn))] _ := hP
  have hD : va_D A [(mp, .inr (4, [.int tw, .int (nI C), .int (nI R), .int (nI F), .int gn, .int (nI n), .int (nI b), .ref mf, .ref ms, .ref mi, .ref mm, .ref mk, .ref mq, .ref mn, .ref mu, .ref mv])), (mf, .inl (cI, 6, .inl frA)), (ms, .inl (cI, 6, .inl stA)), (mi, .inl (cI, 12, .inl fz)), (mm, .inl (cI, 144, .inl ml)), (mk, .inl (cI, 12, .inl kp)), (mq, .inl (cI, 144, .inl km)), (mn, .inl (cI, 12, .inl (sfill (sp0 fz c r) nx k))), (mu, .inl (cI, 4, .inl sm)), (mv, .inl (cZ, 144, .inl sn))] := hD
  refine lv_iload_n hx hb dX4_spread_2 rfl (lv_at hl 0 rfl) ?_
  refine lv_aload_n hx hb dX4_spread_3 rfl (lv_at hl 1 rfl) ?_
  refine va_get (D := D) (ci := 4) (v := .int (nI R)) (C := RX4) (T := TX4) (N := 16) hx hb hts wb_X4_spread_4 hown hK hP 0 rfl rfl 2 (by decide) (hts _ wi_X4_spread_1) (fun _ h9 => h9) rfl dX4_spread_4 ?_
  refine lv_icmp_ge (tgt := 41) hx hb dX4_spread_7 (by decide) (fun c_3 => ?_) (fun c_3 => ?_)
  · have n_3 : R ≤ k := (nI_leI (a := R) (b := k) (by omega) (by omega)).mp c_3
    obtain ⟨hP, hD⟩ := f_rep (g := sfill (sp0 fz c r) nx R) hP hD 7 rfl (fun j _ => by rw [show k = R by omega])
    have hP : va_P D vwCl [(mp, .inr (4, [.int tw, .int (nI C), .int (nI R), .int (nI F), .int gn, .int (nI n), .int (nI b), .ref mf, .ref ms, .ref mi, .ref mm, .ref mk, .ref mq, .ref mn, .ref mu, .ref mv])), (mf, .inl (cI, 6, .inl frA)), (ms, .inl (cI, 6, .inl stA)), (mi, .inl (cI, 12, .inl fz)), (mm, .inl (cI, 144, .inl ml)), (mk, .inl (cI, 12, .inl kp)), (mq, .inl (cI, 144, .inl km)), (mn, .inl (cI, 12, .inl (sfill (sp0 fz c r) nx R))), (mu, .inl (cI, 4, .inl sm)), (mv, .inl (cZ, 144, .inl sn))] _ := hP
    have hD : va_D A [(mp, .inr (4, [.int tw, .int (nI C), .int (nI R), .int (nI F), .int gn, .int (nI n), .int (nI b), .ref mf, .ref ms, .ref mi, .ref mm, .ref mk, .ref mq, .ref mn, .ref mu, .ref mv])), (mf, .inl (cI, 6, .inl frA)), (ms, .inl (cI, 6, .inl stA)), (mi, .inl (cI, 12, .inl fz)), (mm, .inl (cI, 144, .inl ml)), (mk, .inl (cI, 12, .inl kp)), (mq, .inl (cI, 144, .inl km)), (mn, .inl (cI, 12, .inl (sfill (sp0 fz c r) nx R))), (mu, .inl (cI, 4, .inl sm)), (mv, .inl (cZ, 144, .inl sn))] := hD
    refine lv_iconst (v := 1) hx hb dX4_spread_41 (by decide) ?_
    refine lv_istore_n (lv' := [(3, .int 1), (0, .ref mp), (1, .int (nI c)), (2, .int (nI r))]) hx hb dX4_spread_42 rfl hl (by decide) rfl (fun ls hl => ?_)
    refine f_loopW (σ := (Nat → Int32) × Int32 × Nat) (D := D) (A := A) (H0 := s.heap) 6 43 (fun u9 => [(3, .int (u9.2.1)), (0, .ref mp), (1, .int (nI c)), (2, .int (nI r))]) (fun u9 => [(mp, .inr (4, [.int tw, .int (nI C), .int (nI R), .int (nI F), .int gn, .int (nI n), .int (nI b), .ref mf, .ref ms, .ref mi, .ref mm, .ref mk, .ref mq, .ref mn, .ref mu, .ref mv])), (mf, .inl (cI, 6, .inl frA)), (ms, .inl (cI, 6, .inl stA)), (mi, .inl (cI, 12, .inl fz)), (mm, .inl (cI, 144, .inl ml)), (mk, .inl (cI, 12, .inl kp)), (mq, .inl (cI, 144, .inl km)), (mn, .inl (cI, 12, .inl (sfill (u9.1) nx R))), (mu, .inl (cI, 4, .inl sm)), (mv, .inl (cZ, 144, .inl sn))]) (fun u9 => Sub (u9.1) fz ∧ (((u9.2.1) = 0 ∧ ∀ j, j < 12 → (u9.1) j = spF fz c r j) ∨ ((u9.2.1) = 1 ∧ pkg fz (u9.2.2) (u9.1) = spF fz c r ∧ 145 ≤ szg (u9.1) + (u9.2.2)))) (fun u9 => if (u9.2.1) = 0 then 0 else (u9.2.2) + 1)
        (fun u9 hi_5 ih_4 H locs hP hD hS ls hl => ?_) ((sp0 fz c r), 1, 145) (⟨sp0_Sub (by omega), Or.inr ⟨rfl, rfl, Nat.le_add_left 145 _⟩⟩) hP hD hS (lv_sub hl [0, 1, 2, 3] rfl)
    obtain ⟨g, mo, d⟩ := u9
    have hi_5 : Sub g fz ∧ ((mo = 0 ∧ ∀ j, j < 12 → g j = spF fz c r j) ∨ (mo = 1 ∧ pkg fz d g = spF fz c r ∧ 145 ≤ szg g + d)) := hi_5
    obtain ⟨hs, hg⟩ := hi_5
    have hl : lv_has ls 6 [(3, .int mo), (0, .ref mp), (1, .int (nI c)), (2, .int (nI r))] := hl
    have hP : va_P D vwCl [(mp, .inr (4, [.int tw, .int (nI C), .int (nI R), .int (nI F), .int gn, .int (nI n), .int (nI b), .ref mf, .ref ms, .ref mi, .ref mm, .ref mk, .ref mq, .ref mn, .ref mu, .ref mv])), (mf, .inl (cI, 6, .inl frA)), (ms, .inl (cI, 6, .inl stA)), (mi, .inl (cI, 12, .inl fz)), (mm, .inl (cI, 144, .inl ml)), (mk, .inl (cI, 12, .inl kp)), (mq, .inl (cI, 144, .inl km)), (mn, .inl (cI, 12, .inl (sfill g nx R))), (mu, .inl (cI, 4, .inl sm)), (mv, .inl (cZ, 144, .inl sn))] _ := hP
    have hD : va_D A [(mp, .inr (4, [.int tw, .int (nI C), .int (nI R), .int (nI F), .int gn, .int (nI n), .int (nI b), .ref mf, .ref ms, .ref mi, .ref mm, .ref mk, .ref mq, .ref mn, .ref mu, .ref mv])), (mf, .inl (cI, 6, .inl frA)), (ms, .inl (cI, 6, .inl stA)), (mi, .inl (cI, 12, .inl fz)), (mm, .inl (cI, 144, .inl ml)), (mk, .inl (cI, 12, .inl kp)), (mq, .inl (cI, 144, .inl km)), (mn, .inl (cI, 12, .inl (sfill g nx R))), (mu, .inl (cI, 4, .inl sm)), (mv, .inl (cZ, 144, .inl sn))] := hD
    refine lv_iload_n hx hb dX4_spread_43 rfl (lv_at hl 0 rfl) ?_
    refine lv_if_eq (tgt := 184) hx hb dX4_spread_44 (by decide) (fun c_6 => ?_) (fun c_6 => ?_)
    · have hp := (hg.resolve_right (fun z => absurd (c_6.symm.trans z.1) (by decide))).2
      refine lv_iconst (v := 0) hx hb dX4_spread_184 (by decide) ?_
      refine lv_istore (lv' := [(4, .int 0), (3, .int mo), (0, .ref mp), (1, .int (nI c)), (2, .int (nI r))]) hx hb dX4_spread_185 hl (by decide) rfl (fun ls hl => ?_)
      refine lv_iconst (v := 0) hx hb dX4_spread_187 (by decide) ?_
      refine lv_istore (lv' := [(5, .int 0), (4, .int 0), (3, .int mo), (0, .ref mp), (1, .int (nI c)), (2, .int (nI r))]) hx hb dX4_spread_188 hl (by decide) rfl (fun ls hl => ?_)
      refine f_loopW (σ := Nat) (D := D) (A := A) (H0 := s.heap) 6 190 (fun u9 => [(5, .int (nI u9)), (4, .int (tac (spF fz c r) u9)), (3, .int mo), (0, .ref mp), (1, .int (nI c)), (2, .int (nI r))]) (fun u9 => [(mp, .inr (4, [.int tw, .int (nI C), .int (nI R), .int (nI F), .int gn, .int (nI n), .int (nI b), .ref mf, .ref ms, .ref mi, .ref mm, .ref mk, .ref mq, .ref mn, .ref mu, .ref mv])), (mf, .inl (cI, 6, .inl frA)), (ms, .inl (cI, 6, .inl stA)), (mi, .inl (cI, 12, .inl fz)), (mm, .inl (cI, 144, .inl ml)), (mk, .inl (cI, 12, .inl kp)), (mq, .inl (cI, 144, .inl km)), (mn, .inl (cI, 12, .inl (sfill g nx R))), (mu, .inl (cI, 4, .inl sm)), (mv, .inl (cZ, 144, .inl sn))]) (fun u9 => u9 ≤ R) (fun u9 => R - u9)
          (fun u9 hi_8 ih_7 H locs hP hD hS ls hl => ?_) 0 (by omega) hP hD hS (lv_sub hl [0, 1, 2, 3, 4, 5] rfl)
      obtain ⟨q, rfl⟩ : ∃ z, z = u9 := ⟨_, rfl⟩
      have hi_8 : q ≤ R := hi_8
      obtain hq := hi_8
      have hl : lv_has ls 6 [(5, .int (nI q)), (4, .int (tac (spF fz c r) q)), (3, .int mo), (0, .ref mp), (1, .int (nI c)), (2, .int (nI r))] := hl
      have hP : va_P D vwCl [(mp, .inr (4, [.int tw, .int (nI C), .int (nI R), .int (nI F), .int gn, .int (nI n), .int (nI b), .ref mf, .ref ms, .ref mi, .ref mm, .ref mk, .ref mq, .ref mn, .ref mu, .ref mv])), (mf, .inl (cI, 6, .inl frA)), (ms, .inl (cI, 6, .inl stA)), (mi, .inl (cI, 12, .inl fz)), (mm, .inl (cI, 144, .inl ml)), (mk, .inl (cI, 12, .inl kp)), (mq, .inl (cI, 144, .inl km)), (mn, .inl (cI, 12, .inl (sfill g nx R))), (mu, .inl (cI, 4, .inl sm)), (mv, .inl (cZ, 144, .inl sn))] _ := hP
      have hD : va_D A [(mp, .inr (4, [.int tw, .int (nI C), .int (nI R), .int (nI F), .int gn, .int (nI n), .int (nI b), .ref mf, .ref ms, .ref mi, .ref mm, .ref mk, .ref mq, .ref mn, .ref mu, .ref mv])), (mf, .inl (cI, 6, .inl frA)), (ms, .inl (cI, 6, .inl stA)), (mi, .inl (cI, 12, .inl fz)), (mm, .inl (cI, 144, .inl ml)), (mk, .inl (cI, 12, .inl kp)), (mq, .inl (cI, 144, .inl km)), (mn, .inl (cI, 12, .inl (sfill g nx R))), (mu, .inl (cI, 4, .inl sm)), (mv, .inl (cZ, 144, .inl sn))] := hD
      refine lv_iload hx hb dX4_spread_190 (lv_at hl 0 rfl) ?_
      refine lv_aload_n hx hb dX4_spread_192 rfl (lv_at hl 3 rfl) ?_
      refine va_get (D := D) (ci := 4) (v := .int (nI R)) (C := RX4) (T := TX4) (N := 16) hx hb hts wb_X4_spread_4 hown hK hP 0 rfl rfl 2 (by decide) (hts _ wi_X4_spread_1) (fun _ h9 => h9) rfl dX4_spread_193 ?_
      refine lv_icmp_ge (tgt := 220) hx hb dX4_spread_196 (by decide) (fun c_9 => ?_) (fun c_9 => ?_)
      · have n_9 : R ≤ q := (nI_leI (a := R) (b := q) (by omega) (by omega)).mp c_9
        refine lv_iload hx hb dX4_spread_220 (lv_at hl 1 rfl) ?_
        obtain ⟨hP, hD⟩ := f_rep (g := sfill (spF fz c r) nx R) hP hD 7 rfl (fun j hj => sfill_cg hp hj)
        have hP : va_P D vwCl [(mp, .inr (4, [.int tw, .int (nI C), .int (nI R), .int (nI F), .int gn, .int (nI n), .int (nI b), .ref mf, .ref ms, .ref mi, .ref mm, .ref mk, .ref mq, .ref mn, .ref mu, .ref mv])), (mf, .inl (cI, 6, .inl frA)), (ms, .inl (cI, 6, .inl stA)), (mi, .inl (cI, 12, .inl fz)), (mm, .inl (cI, 144, .inl ml)), (mk, .inl (cI, 12, .inl kp)), (mq, .inl (cI, 144, .inl km)), (mn, .inl (cI, 12, .inl (sfill (spF fz c r) nx R))), (mu, .inl (cI, 4, .inl sm)), (mv, .inl (cZ, 144, .inl sn))] _ := hP
        have hD : va_D A [(mp, .inr (4, [.int tw, .int (nI C), .int (nI R), .int (nI F), .int gn, .int (nI n), .int (nI b), .ref mf, .ref ms, .ref mi, .ref mm, .ref mk, .ref mq, .ref mn, .ref mu, .ref mv])), (mf, .inl (cI, 6, .inl frA)), (ms, .inl (cI, 6, .inl stA)), (mi, .inl (cI, 12, .inl fz)), (mm, .inl (cI, 144, .inl ml)), (mk, .inl (cI, 12, .inl kp)), (mq, .inl (cI, 144, .inl km)), (mn, .inl (cI, 12, .inl (sfill (spF fz c r) nx R))), (mu, .inl (cI, 4, .inl sm)), (mv, .inl (cZ, 144, .inl sn))] := hD
        exact f_ret_i hx hb hr hlocks hP hD hS dX4_spread_222 (by rw [show q = R by omega]; exact tac_12 hR (Hz_Sub hI.2 (spF_Sub (IV_R hI hC) r (by omega))))
      · have n_9 : q < R := Nat.lt_of_not_le (fun h => c_9 ((nI_leI (a := R) (b := q) (by omega) (by omega)).mpr h))
        refine lv_iload hx hb dX4_spread_199 (lv_at hl 1 rfl) ?_
        refine lv_aload_n hx hb dX4_spread_201 rfl (lv_at hl 3 rfl) ?_
        refine va_get (D := D) (ci := 4) (v := .ref mn) (C := RX4) (T := TX4) (N := 16) hx hb hts wb_X4_spread_4 hown hK hP 0 rfl rfl 13 (by decide) (hts _ wi_X4_spread_2) (fun _ h9 => h9) rfl dX4_spread_202 ?_
        refine lv_iload hx hb dX4_spread_205 (lv_at hl 0 rfl) ?_
        refine f_iald (k := q) hx hb hK hP 7 0 rfl rfl rfl (by omega) (by first | decide | omega) dX4_spread_207 ?_
        refine f_topi (y := spF fz c r q) ((sfill_lt (by omega)).trans (hp q (by omega))) ?_
        refine f_callSi ⟨hx, hb, hml, hown, hts⟩ hP hD hS hA hK hN [] (w2 := [(mp, .inr (4, [.int tw, .int (nI C), .int (nI R), .int (nI F), .int gn, .int (nI n), .int (nI b), .ref mf, .ref ms, .ref mi, .ref mm, .ref mk, .ref mq, .ref mn, .ref mu, .ref mv])), (mf, .inl (cI, 6, .inl frA)), (ms, .inl (cI, 6, .inl stA)), (mi, .inl (cI, 12, .inl fz)), (mm, .inl (cI, 144, .inl ml)), (mk, .inl (cI, 12, .inl kp)), (mq, .inl (cI, 144, .inl km)), (mn, .inl (cI, 12, .inl (sfill g nx R))), (mu, .inl (cI, 4, .inl sm)), (mv, .inl (cZ, 144, .inl sn))])
            (c_J6_bitCount_0f7a4 (l := l) (D := D) (cI := cI) (cZ := cZ) (cJ := cJ) (sz := _) (x := spF fz c r q) ) (va_cwS 1 hts gX4_spread_J6_bitCount_0f7a4 rfl rfl rfl k_J6_bitCount_0f7a4.2 ⟨Nat.le_of_ble_eq_true rfl, Nat.le_of_ble_eq_true rfl⟩) rfl rfl [] rfl rfl rfl rfl rfl hl.1 (Nat.le_of_ble_eq_true rfl) dX4_spread_208 ⟨Nat.le_of_ble_eq_true rfl, Nat.le_of_ble_eq_true rfl⟩ (fun H locs hP hD hS => ?_)
        refine lv_iadd hx hb dX4_spread_211 ?_
        refine lv_istore (lv' := [(4, .int ((tac (spF fz c r) q) + (bc (spF fz c r q)))), (5, .int (nI q)), (3, .int mo), (0, .ref mp), (1, .int (nI c)), (2, .int (nI r))]) hx hb dX4_spread_212 hl (by decide) rfl (fun ls hl => ?_)
        refine lv_iinc (v := nI (q + 1)) (lv' := [(5, .int (nI (q + 1))), (4, .int ((tac (spF fz c r) q) + (bc (spF fz c r q)))), (3, .int mo), (0, .ref mp), (1, .int (nI c)), (2, .int (nI r))]) hx hb dX4_spread_214 hl (k := 1) rfl (nI_1 _) (by decide) rfl (fun ls hl => ?_)
        refine lv_goto (tgt := 190) hx hb dX4_spread_217 (by decide) ?_
        exact ih_7 (q + 1) (by omega) (by first | omega | (simp only []; omega) | (show _ < _; simp only []; omega)) H locs hP hD hS ls (lv_sub hl [0, 1, 2, 3, 4, 5] rfl)
    · have hmo := c_6
      have hp := (hg.resolve_left (fun z => c_6 z.1)).2
      refine lv_iconst (v := 0) hx hb dX4_spread_47 (by decide) ?_
      refine lv_istore_n (lv' := [(3, .int 0), (0, .ref mp), (1, .int (nI c)), (2, .int (nI r))]) hx hb dX4_spread_48 rfl hl (by decide) rfl (fun ls hl => ?_)
      refine lv_iconst (v := 0) hx hb dX4_spread_49 (by decide) ?_
      refine lv_istore (lv' := [(4, .int 0), (3, .int 0), (0, .ref mp), (1, .int (nI c)), (2, .int (nI r))]) hx hb dX4_spread_50 hl (by decide) rfl (fun ls hl => ?_)
      refine f_loopW (σ := Nat) (D := D) (A := A) (H0 := s.heap) 6 52 (fun u9 => [(4, .int (nI u9)), (3, .int (wdc fz g u9)), (0, .ref mp), (1, .int (nI c)), (2, .int (nI r))]) (fun u9 => [(mp, .inr (4, [.int tw, .int (nI C), .int (nI R), .int (nI F), .int gn, .int (nI n), .int (nI b), .ref mf, .ref ms, .ref mi, .ref mm, .ref mk, .ref mq, .ref mn, .ref mu, .ref mv])), (mf, .inl (cI, 6, .inl frA)), (ms, .inl (cI, 6, .inl stA)), (mi, .inl (cI, 12, .inl fz)), (mm, .inl (cI, 144, .inl ml)), (mk, .inl (cI, 12, .inl kp)), (mq, .inl (cI, 144, .inl km)), (mn, .inl (cI, 12, .inl (sfill (wdn fz g u9) nx R))), (mu, .inl (cI, 4, .inl sm)), (mv, .inl (cZ, 144, .inl sn))]) (fun u9 => u9 ≤ R) (fun u9 => R - u9)
          (fun u9 hi_11 ih_10 H locs hP hD hS ls hl => ?_) 0 (by omega) hP hD hS (lv_sub hl [0, 1, 2, 3, 4] rfl)
      obtain ⟨k, rfl⟩ : ∃ z, z = u9 := ⟨_, rfl⟩
      have hi_11 : k ≤ R := hi_11
      obtain hk := hi_11
      have hl : lv_has ls 6 [(4, .int (nI k)), (3, .int (wdc fz g k)), (0, .ref mp), (1, .int (nI c)), (2, .int (nI r))] := hl
      have hP : va_P D vwCl [(mp, .inr (4, [.int tw, .int (nI C), .int (nI R), .int (nI F), .int gn, .int (nI n), .int (nI b), .ref mf, .ref ms, .ref mi, .ref mm, .ref mk, .ref mq, .ref mn, .ref mu, .ref mv])), (mf, .inl (cI, 6, .inl frA)), (ms, .inl (cI, 6, .inl stA)), (mi, .inl (cI, 12, .inl fz)), (mm, .inl (cI, 144, .inl ml)), (mk, .inl (cI, 12, .inl kp)), (mq, .inl (cI, 144, .inl km)), (mn, .inl (cI, 12, .inl (sfill (wdn fz g k) nx R))), (mu, .inl (cI, 4, .inl sm)), (mv, .inl (cZ, 144, .inl sn))] _ := hP
      have hD : va_D A [(mp, .inr (4, [.int tw, .int (nI C), .int (nI R), .int (nI F), .int gn, .int (nI n), .int (nI b), .ref mf, .ref ms, .ref mi, .ref mm, .ref mk, .ref mq, .ref mn, .ref mu, .ref mv])), (mf, .inl (cI, 6, .inl frA)), (ms, .inl (cI, 6, .inl stA)), (mi, .inl (cI, 12, .inl fz)), (mm, .inl (cI, 144, .inl ml)), (mk, .inl (cI, 12, .inl kp)), (mq, .inl (cI, 144, .inl km)), (mn, .inl (cI, 12, .inl (sfill (wdn fz g k) nx R))), (mu, .inl (cI, 4, .inl sm)), (mv, .inl (cZ, 144, .inl sn))] := hD
      refine lv_iload hx hb dX4_spread_52 (lv_at hl 0 rfl) ?_
      refine lv_aload_n hx hb dX4_spread_54 rfl (lv_at hl 2 rfl) ?_
      refine va_get (D := D) (ci := 4) (v := .int (nI R)) (C := RX4) (T := TX4) (N := 16) hx hb hts wb_X4_spread_4 hown hK hP 0 rfl rfl 2 (by decide) (hts _ wi_X4_spread_1) (fun _ h9 => h9) rfl dX4_spread_55 ?_
      refine lv_icmp_ge (tgt := 181) hx hb dX4_spread_58 (by decide) (fun c_12 => ?_) (fun c_12 => ?_)
      · have n_12 : R ≤ k := (nI_leI (a := R) (b := k) (by omega) (by omega)).mp c_12
        obtain ⟨hP, hD⟩ := f_rep (g := sfill (wdn fz g 12) nx R) hP hD 7 rfl (fun j _ => sfill_w12 (by omega) hR j)
        have hP : va_P D vwCl [(mp, .inr (4, [.int tw, .int (nI C), .int (nI R), .int (nI F), .int gn, .int (nI n), .int (nI b), .ref mf, .ref ms, .ref mi, .ref mm, .ref mk, .ref mq, .ref mn, .ref mu, .ref mv])), (mf, .inl (cI, 6, .inl frA)), (ms, .inl (cI, 6, .inl stA)), (mi, .inl (cI, 12, .inl fz)), (mm, .inl (cI, 144, .inl ml)), (mk, .inl (cI, 12, .inl kp)), (mq, .inl (cI, 144, .inl km)), (mn, .inl (cI, 12, .inl (sfill (wdn fz g 12) nx R))), (mu, .inl (cI, 4, .inl sm)), (mv, .inl (cZ, 144, .inl sn))] _ := hP
        have hD : va_D A [(mp, .inr (4, [.int tw, .int (nI C), .int (nI R), .int (nI F), .int gn, .int (nI n), .int (nI b), .ref mf, .ref ms, .ref mi, .ref mm, .ref mk, .ref mq, .ref mn, .ref mu, .ref mv])), (mf, .inl (cI, 6, .inl frA)), (ms, .inl (cI, 6, .inl stA)), (mi, .inl (cI, 12, .inl fz)), (mm, .inl (cI, 144, .inl ml)), (mk, .inl (cI, 12, .inl kp)), (mq, .inl (cI, 144, .inl km)), (mn, .inl (cI, 12, .inl (sfill (wdn fz g 12) nx R))), (mu, .inl (cI, 4, .inl sm)), (mv, .inl (cZ, 144, .inl sn))] := hD
        have e9_13 : (wdc fz g k) = (wdc fz g 12) := by rw [show k = R by omega]; exact wdc_12 hR hI.2 hs
        have hl : lv_has ls 6 [(4, .int (nI k)), (3, .int (wdc fz g 12)), (0, .ref mp), (1, .int (nI c)), (2, .int (nI r))] := by rw [← e9_13]; exact hl
        refine lv_goto (tgt := 43) hx hb dX4_spread_181 (by decide) ?_
        have hnx : (wdc fz g 12 = 0 ∧ ∀ j, j < 12 → wdn fz g 12 j = spF fz c r j) ∨ (wdc fz g 12 = 1 ∧ pkg fz (d - 1) (wdn fz g 12) = spF fz c r ∧ 145 ≤ szg (wdn fz g 12) + (d - 1)) := spr_next (IV_R hI hC) hs hp.1 hp.2
        have hsb := Sub_wdn hs 12
        have hmu := spr_mu (fz := fz) hmo hp.2
        generalize wdc fz g 12 = mw at hl hnx hmu
        generalize wdn fz g 12 = gw at hP hD hnx hsb
        exact ih_4 (gw, mw, (d - 1)) (⟨hsb, hnx⟩) (hmu) H locs hP hD hS ls (lv_sub hl [1, 2, 3, 4] rfl)
      · have n_12 : k < R := Nat.lt_of_not_le (fun h => c_12 ((nI_leI (a := R) (b := k) (by omega) (by omega)).mpr h))
        refine lv_aload_n hx hb dX4_spread_61 rfl (lv_at hl 2 rfl) ?_
        refine va_get (D := D) (ci := 4) (v := .ref mn) (C := RX4) (T := TX4) (N := 16) hx hb hts wb_X4_spread_4 hown hK hP 0 rfl rfl 13 (by decide) (hts _ wi_X4_spread_2) (fun _ h9 => h9) rfl dX4_spread_62 ?_
        refine lv_iload hx hb dX4_spread_65 (lv_at hl 0 rfl) ?_
        refine f_iald (k := k) hx hb hK hP 7 0 rfl rfl rfl (by omega) (by first | decide | omega) dX4_spread_67 ?_
        refine f_topi (y := wdn fz g k k) (sfill_lt (by omega)) ?_
        refine lv_aload_n hx hb dX4_spread_68 rfl (lv_at hl 2 rfl) ?_
        refine va_get (D := D) (ci := 4) (v := .ref mn) (C := RX4) (T := TX4) (N := 16) hx hb hts wb_X4_spread_4 hown hK hP 0 rfl rfl 13 (by decide) (hts _ wi_X4_spread_2) (fun _ h9 => h9) rfl dX4_spread_69 ?_
        refine lv_iload hx hb dX4_spread_72 (lv_at hl 0 rfl) ?_
        refine f_iald (k := k) hx hb hK hP 7 0 rfl rfl rfl (by omega) (by first | decide | omega) dX4_spread_74 ?_
        refine f_topi (y := wdn fz g k k) (sfill_lt (by omega)) ?_
        refine lv_iconst (v := 1) hx hb dX4_spread_75 (by decide) ?_
        refine lv_ishl hx hb dX4_spread_76 ?_
        refine lv_ior hx hb dX4_spread_77 ?_
        refine lv_aload_n hx hb dX4_spread_78 rfl (lv_at hl 2 rfl) ?_
        refine va_get (D := D) (ci := 4) (v := .ref mn) (C := RX4) (T := TX4) (N := 16) hx hb hts wb_X4_spread_4 hown hK hP 0 rfl rfl 13 (by decide) (hts _ wi_X4_spread_2) (fun _ h9 => h9) rfl dX4_spread_79 ?_
        refine lv_iload hx hb dX4_spread_82 (lv_at hl 0 rfl) ?_
        refine f_iald (k := k) hx hb hK hP 7 0 rfl rfl rfl (by omega) (by first | decide | omega) dX4_spread_84 ?_
        refine f_topi (y := wdn fz g k k) (sfill_lt (by omega)) ?_
        refine lv_iconst (v := 1) hx hb dX4_spread_85 (by decide) ?_
        refine lv_ishr hx hb dX4_spread_86 ?_
        refine lv_ior hx hb dX4_spread_87 ?_
        refine f_joinW (nL := 6) 106 [(4, .int (nI k)), (3, .int (wdc fz g k)), (0, .ref mp), (1, .int (nI c)), (2, .int (nI r))] [.int (if (nI k) ≤ 0 then (0 : Int32) else wdn fz g k (k - 1)), .int (((wdn fz g k k) ||| ((wdn fz g k k) <<< ((1 : Int32) &&& 31))) ||| ((wdn fz g k k) >>> ((1 : Int32) &&& 31)))] (fun ls hl => ?_) (fun j_14 => ?_)
        · refine lv_ior hx hb dX4_spread_106 ?_
          refine f_joinW (nL := 6) 131 [(4, .int (nI k)), (3, .int (wdc fz g k)), (0, .ref mp), (1, .int (nI c)), (2, .int (nI r))] [.int (if (nI R) ≤ (nI (k + 1)) then (0 : Int32) else wdn fz g k (k + 1)), .int ((((wdn fz g k k) ||| ((wdn fz g k k) <<< ((1 : Int32) &&& 31))) ||| ((wdn fz g k k) >>> ((1 : Int32) &&& 31))) ||| (if (nI k) ≤ 0 then (0 : Int32) else wdn fz g k (k - 1)))] (fun ls hl => ?_) (fun j_15 => ?_)
          · refine lv_ior hx hb dX4_spread_131 ?_
            refine lv_istore (lv' := [(5, .int (((((wdn fz g k k) ||| ((wdn fz g k k) <<< ((1 : Int32) &&& 31))) ||| ((wdn fz g k k) >>> ((1 : Int32) &&& 31))) ||| (if (nI k) ≤ 0 then (0 : Int32) else wdn fz g k (k - 1))) ||| (if (nI R) ≤ (nI (k + 1)) then (0 : Int32) else wdn fz g k (k + 1)))), (4, .int (nI k)), (3, .int (wdc fz g k)), (0, .ref mp), (1, .int (nI c)), (2, .int (nI r))]) hx hb dX4_spread_132 hl (by decide) rfl (fun ls hl => ?_)
            refine lv_iload hx hb dX4_spread_134 (lv_at hl 0 rfl) ?_
            refine lv_aload_n hx hb dX4_spread_136 rfl (lv_at hl 3 rfl) ?_
            refine va_get (D := D) (ci := 4) (v := .ref mi) (C := RX4) (T := TX4) (N := 16) hx hb hts wb_X4_spread_4 hown hK hP 0 rfl rfl 9 (by decide) (hts _ wi_X4_spread_3) (fun _ h9 => h9) rfl dX4_spread_137 ?_
            refine lv_iload hx hb dX4_spread_140 (lv_at hl 1 rfl) ?_
            refine f_iald (k := k) hx hb hK hP 3 0 rfl rfl rfl (by omega) (by first | decide | omega) dX4_spread_142 ?_
            refine lv_iand hx hb dX4_spread_143 ?_
            refine f_topi (y := wdv fz (wdn fz g k) k) (mwd hR (Hz_Sub hI.2 (Sub_wdn hs k)) (by omega)) ?_
            refine lv_istore (lv' := [(5, .int (wdv fz (wdn fz g k) k)), (4, .int (nI k)), (3, .int (wdc fz g k)), (0, .ref mp), (1, .int (nI c)), (2, .int (nI r))]) hx hb dX4_spread_144 hl (by decide) rfl (fun ls hl => ?_)
            refine f_joinW (nL := 6) 164 [(5, .int (wdv fz (wdn fz g k) k)), (4, .int (nI k)), (3, .int (wdc fz g k)), (0, .ref mp), (1, .int (nI c)), (2, .int (nI r))] [.int (if (wdv fz (wdn fz g k) k) = (wdn fz g k k) then (0 : Int32) else 1), .int (wdc fz g k)] (fun ls hl => ?_) (fun j_16 => ?_)
            · refine lv_ior hx hb dX4_spread_164 ?_
              refine f_topi (y := wdc fz g (k + 1)) (wdc_or fz g k) ?_
              refine lv_istore_n (lv' := [(3, .int (wdc fz g (k + 1))), (5, .int (wdv fz (wdn fz g k) k)), (4, .int (nI k)), (0, .ref mp), (1, .int (nI c)), (2, .int (nI r))]) hx hb dX4_spread_165 rfl hl (by decide) rfl (fun ls hl => ?_)
              refine lv_aload_n hx hb dX4_spread_166 rfl (lv_at hl 3 rfl) ?_
              refine va_get (D := D) (ci := 4) (v := .ref mn) (C := RX4) (T := TX4) (N := 16) hx hb hts wb_X4_spread_4 hown hK hP 0 rfl rfl 13 (by decide) (hts _ wi_X4_spread_2) (fun _ h9 => h9) rfl dX4_spread_167 ?_
              refine lv_iload hx hb dX4_spread_170 (lv_at hl 2 rfl) ?_
              refine lv_iload hx hb dX4_spread_172 (lv_at hl 1 rfl) ?_
              refine f_iast (k := k) hx hb hK hP hD hS 7 0 rfl rfl rfl (by omega) (by first | decide | omega) dX4_spread_174 (fun H locs hP hD hS => ?_)
              have hP : va_P D vwCl [(mp, .inr (4, [.int tw, .int (nI C), .int (nI R), .int (nI F), .int gn, .int (nI n), .int (nI b), .ref mf, .ref ms, .ref mi, .ref mm, .ref mk, .ref mq, .ref mn, .ref mu, .ref mv])), (mf, .inl (cI, 6, .inl frA)), (ms, .inl (cI, 6, .inl stA)), (mi, .inl (cI, 12, .inl fz)), (mm, .inl (cI, 144, .inl ml)), (mk, .inl (cI, 12, .inl kp)), (mq, .inl (cI, 144, .inl km)), (mn, .inl (cI, 12, .inl (upd (sfill (wdn fz g k) nx R) k (wdv fz (wdn fz g k) k)))), (mu, .inl (cI, 4, .inl sm)), (mv, .inl (cZ, 144, .inl sn))] _ := hP
              have hD : va_D A [(mp, .inr (4, [.int tw, .int (nI C), .int (nI R), .int (nI F), .int gn, .int (nI n), .int (nI b), .ref mf, .ref ms, .ref mi, .ref mm, .ref mk, .ref mq, .ref mn, .ref mu, .ref mv])), (mf, .inl (cI, 6, .inl frA)), (ms, .inl (cI, 6, .inl stA)), (mi, .inl (cI, 12, .inl fz)), (mm, .inl (cI, 144, .inl ml)), (mk, .inl (cI, 12, .inl kp)), (mq, .inl (cI, 144, .inl km)), (mn, .inl (cI, 12, .inl (upd (sfill (wdn fz g k) nx R) k (wdv fz (wdn fz g k) k)))), (mu, .inl (cI, 4, .inl sm)), (mv, .inl (cZ, 144, .inl sn))] := hD
              obtain ⟨hP, hD⟩ := f_rep (g := sfill (wdn fz g (k + 1)) nx R) hP hD 7 rfl (fun j _ => sfill_wdn (by omega) j)
              have hP : va_P D vwCl [(mp, .inr (4, [.int tw, .int (nI C), .int (nI R), .int (nI F), .int gn, .int (nI n), .int (nI b), .ref mf, .ref ms, .ref mi, .ref mm, .ref mk, .ref mq, .ref mn, .ref mu, .ref mv])), (mf, .inl (cI, 6, .inl frA)), (ms, .inl (cI, 6, .inl stA)), (mi, .inl (cI, 12, .inl fz)), (mm, .inl (cI, 144, .inl ml)), (mk, .inl (cI, 12, .inl kp)), (mq, .inl (cI, 144, .inl km)), (mn, .inl (cI, 12, .inl (sfill (wdn fz g (k + 1)) nx R))), (mu, .inl (cI, 4, .inl sm)), (mv, .inl (cZ, 144, .inl sn))] _ := hP
              have hD : va_D A [(mp, .inr (4, [.int tw, .int (nI C), .int (nI R), .int (nI F), .int gn, .int (nI n), .int (nI b), .ref mf, .ref ms, .ref mi, .ref mm, .ref mk, .ref mq, .ref mn, .ref mu, .ref mv])), (mf, .inl (cI, 6, .inl frA)), (ms, .inl (cI, 6, .inl stA)), (mi, .inl (cI, 12, .inl fz)), (mm, .inl (cI, 144, .inl ml)), (mk, .inl (cI, 12, .inl kp)), (mq, .inl (cI, 144, .inl km)), (mn, .inl (cI, 12, .inl (sfill (wdn fz g (k + 1)) nx R))), (mu, .inl (cI, 4, .inl sm)), (mv, .inl (cZ, 144, .inl sn))] := hD
              refine lv_iinc (v := nI (k + 1)) (lv' := [(4, .int (nI (k + 1))), (3, .int (wdc fz g (k + 1))), (5, .int (wdv fz (wdn fz g k) k)), (0, .ref mp), (1, .int (nI c)), (2, .int (nI r))]) hx hb dX4_spread_175 hl (k := 2) rfl (nI_1 _) (by decide) rfl (fun ls hl => ?_)
              refine lv_goto (tgt := 52) hx hb dX4_spread_178 (by decide) ?_
              exact ih_10 (k + 1) (by omega) (by first | omega | (simp only []; omega) | (show _ < _; simp only []; omega)) H locs hP hD hS ls (lv_sub hl [0, 1, 3, 4, 5] rfl)
            refine lv_iload_n hx hb dX4_spread_146 rfl (lv_at hl 2 rfl) ?_
            refine lv_iload hx hb dX4_spread_147 (lv_at hl 0 rfl) ?_
            refine lv_aload_n hx hb dX4_spread_149 rfl (lv_at hl 3 rfl) ?_
            refine va_get (D := D) (ci := 4) (v := .ref mn) (C := RX4) (T := TX4) (N := 16) hx hb hts wb_X4_spread_4 hown hK hP 0 rfl rfl 13 (by decide) (hts _ wi_X4_spread_2) (fun _ h9 => h9) rfl dX4_spread_150 ?_
            refine lv_iload hx hb dX4_spread_153 (lv_at hl 1 rfl) ?_
            refine f_iald (k := k) hx hb hK hP 7 0 rfl rfl rfl (by omega) (by first | decide | omega) dX4_spread_155 ?_
            refine f_topi (y := wdn fz g k k) (sfill_lt (by omega)) ?_
            refine lv_icmp_eq (tgt := 163) hx hb dX4_spread_156 (by decide) (fun c_17 => ?_) (fun c_17 => ?_)
            · refine lv_iconst (v := 0) hx hb dX4_spread_163 (by decide) ?_
              refine f_topi (y := if (wdv fz (wdn fz g k) k) = (wdn fz g k k) then (0 : Int32) else 1) (by rw [if_pos c_17]) ?_
              exact j_16 ls (lv_sub hl [0, 1, 2, 3, 4, 5] rfl)
            · refine lv_iconst (v := 1) hx hb dX4_spread_159 (by decide) ?_
              refine lv_goto (tgt := 164) hx hb dX4_spread_160 (by decide) ?_
              refine f_topi (y := if (wdv fz (wdn fz g k) k) = (wdn fz g k k) then (0 : Int32) else 1) (by rw [if_neg c_17]) ?_
              exact j_16 ls (lv_sub hl [0, 1, 2, 3, 4, 5] rfl)
          refine lv_iload hx hb dX4_spread_107 (lv_at hl 0 rfl) ?_
          refine lv_iconst (v := 1) hx hb dX4_spread_109 (by decide) ?_
          refine lv_iadd hx hb dX4_spread_110 ?_
          refine f_topi (y := nI (k + 1)) (nI_add k 1) ?_
          refine lv_aload_n hx hb dX4_spread_111 rfl (lv_at hl 2 rfl) ?_
          refine va_get (D := D) (ci := 4) (v := .int (nI R)) (C := RX4) (T := TX4) (N := 16) hx hb hts wb_X4_spread_4 hown hK hP 0 rfl rfl 2 (by decide) (hts _ wi_X4_spread_1) (fun _ h9 => h9) rfl dX4_spread_112 ?_
          refine lv_icmp_ge (tgt := 130) hx hb dX4_spread_115 (by decide) (fun c_18 => ?_) (fun c_18 => ?_)
          · refine lv_iconst (v := 0) hx hb dX4_spread_130 (by decide) ?_
            refine f_topi (y := if (nI R) ≤ (nI (k + 1)) then (0 : Int32) else wdn fz g k (k + 1)) (by rw [if_pos c_18]) ?_
            exact j_15 ls (lv_sub hl [0, 1, 2, 3, 4] rfl)
          · refine lv_aload_n hx hb dX4_spread_118 rfl (lv_at hl 2 rfl) ?_
            refine va_get (D := D) (ci := 4) (v := .ref mn) (C := RX4) (T := TX4) (N := 16) hx hb hts wb_X4_spread_4 hown hK hP 0 rfl rfl 13 (by decide) (hts _ wi_X4_spread_2) (fun _ h9 => h9) rfl dX4_spread_119 ?_
            refine lv_iload hx hb dX4_spread_122 (lv_at hl 0 rfl) ?_
            refine lv_iconst (v := 1) hx hb dX4_spread_124 (by decide) ?_
            refine lv_iadd hx hb dX4_spread_125 ?_
            refine f_topi (y := nI (k + 1)) (nI_add k 1) ?_
            refine f_iald (k := (k + 1)) hx hb hK hP 7 0 rfl rfl rfl (by have h9 := Nat.lt_of_not_le (fun h => c_18 ((nI_leI (a := R) (b := k + 1) (by omega) (by omega)).mpr h)); omega) (by first | decide | omega) dX4_spread_126 ?_
            refine f_topi (y := wdn fz g k (k + 1)) (sfill_lt (Nat.lt_of_not_le (fun h => c_18 ((nI_leI (a := R) (b := k + 1) (by omega) (by omega)).mpr h)))) ?_
            refine lv_goto (tgt := 131) hx hb dX4_spread_127 (by decide) ?_
            refine f_topi (y := if (nI R) ≤ (nI (k + 1)) then (0 : Int32) else wdn fz g k (k + 1)) (by rw [if_neg c_18]) ?_
            exact j_15 ls (lv_sub hl [0, 1, 2, 3, 4] rfl)
        refine lv_iload hx hb dX4_spread_88 (lv_at hl 0 rfl) ?_
        refine lv_if_le (tgt := 105) hx hb dX4_spread_90 (by decide) (fun c_19 => ?_) (fun c_19 => ?_)
        · refine lv_iconst (v := 0) hx hb dX4_spread_105 (by decide) ?_
          refine f_topi (y := if (nI k) ≤ 0 then (0 : Int32) else wdn fz g k (k - 1)) (by rw [if_pos c_19]) ?_
          exact j_14 ls (lv_sub hl [0, 1, 2, 3, 4] rfl)
        · refine lv_aload_n hx hb dX4_spread_93 rfl (lv_at hl 2 rfl) ?_
          refine va_get (D := D) (ci := 4) (v := .ref mn) (C := RX4) (T := TX4) (N := 16) hx hb hts wb_X4_spread_4 hown hK hP 0 rfl rfl 13 (by decide) (hts _ wi_X4_spread_2) (fun _ h9 => h9) rfl dX4_spread_94 ?_
          refine lv_iload hx hb dX4_spread_97 (lv_at hl 0 rfl) ?_
          refine lv_iconst (v := 1) hx hb dX4_spread_99 (by decide) ?_
          refine lv_isub hx hb dX4_spread_100 ?_
          refine f_topi (y := nI (k - 1)) (pk_sub (show 1 ≤ k from Nat.lt_of_not_le fun h => c_19 ((nI_leI (a := k) (b := 0) (by omega) (by omega)).mpr h))) ?_
          refine f_iald (k := (k - 1)) hx hb hK hP 7 0 rfl rfl rfl (by omega) (by first | decide | omega) dX4_spread_101 ?_
          refine f_topi (y := wdn fz g k (k - 1)) (sfill_lt (by omega)) ?_
          refine lv_goto (tgt := 106) hx hb dX4_spread_102 (by decide) ?_
          refine f_topi (y := if (nI k) ≤ 0 then (0 : Int32) else wdn fz g k (k - 1)) (by rw [if_neg c_19]) ?_
          exact j_14 ls (lv_sub hl [0, 1, 2, 3, 4] rfl)
  · have n_3 : k < R := Nat.lt_of_not_le (fun h => c_3 ((nI_leI (a := R) (b := k) (by omega) (by omega)).mpr h))
    refine lv_aload_n hx hb dX4_spread_10 rfl (lv_at hl 1 rfl) ?_
    refine va_get (D := D) (ci := 4) (v := .ref mn) (C := RX4) (T := TX4) (N := 16) hx hb hts wb_X4_spread_4 hown hK hP 0 rfl rfl 13 (by decide) (hts _ wi_X4_spread_2) (fun _ h9 => h9) rfl dX4_spread_11 ?_
    refine lv_iload_n hx hb dX4_spread_14 rfl (lv_at hl 0 rfl) ?_
    refine lv_iload_n hx hb dX4_spread_15 rfl (lv_at hl 0 rfl) ?_
    refine lv_iload_n hx hb dX4_spread_16 rfl (lv_at hl 3 rfl) ?_
    refine f_joinW (nL := 6) 34 [(3, .int (nI k)), (0, .ref mp), (1, .int (nI c)), (2, .int (nI r))] [.int (if (nI k) = (nI r) then ((1 : Int32) <<< ((nI c) &&& 31)) &&& (fz k) else 0), .int (nI k), .ref mn] (fun ls hl => ?_) (fun j_20 => ?_)
    · refine f_iast (k := k) hx hb hK hP hD hS 7 0 rfl rfl rfl (by omega) (by first | decide | omega) dX4_spread_34 (fun H locs hP hD hS => ?_)
      have hP : va_P D vwCl [(mp, .inr (4, [.int tw, .int (nI C), .int (nI R), .int (nI F), .int gn, .int (nI n), .int (nI b), .ref mf, .ref ms, .ref mi, .ref mm, .ref mk, .ref mq, .ref mn, .ref mu, .ref mv])), (mf, .inl (cI, 6, .inl frA)), (ms, .inl (cI, 6, .inl stA)), (mi, .inl (cI, 12, .inl fz)), (mm, .inl (cI, 144, .inl ml)), (mk, .inl (cI, 12, .inl kp)), (mq, .inl (cI, 144, .inl km)), (mn, .inl (cI, 12, .inl (upd (sfill (sp0 fz c r) nx k) k (if (nI k) = (nI r) then ((1 : Int32) <<< ((nI c) &&& 31)) &&& (fz k) else 0)))), (mu, .inl (cI, 4, .inl sm)), (mv, .inl (cZ, 144, .inl sn))] _ := hP
      have hD : va_D A [(mp, .inr (4, [.int tw, .int (nI C), .int (nI R), .int (nI F), .int gn, .int (nI n), .int (nI b), .ref mf, .ref ms, .ref mi, .ref mm, .ref mk, .ref mq, .ref mn, .ref mu, .ref mv])), (mf, .inl (cI, 6, .inl frA)), (ms, .inl (cI, 6, .inl stA)), (mi, .inl (cI, 12, .inl fz)), (mm, .inl (cI, 144, .inl ml)), (mk, .inl (cI, 12, .inl kp)), (mq, .inl (cI, 144, .inl km)), (mn, .inl (cI, 12, .inl (upd (sfill (sp0 fz c r) nx k) k (if (nI k) = (nI r) then ((1 : Int32) <<< ((nI c) &&& 31)) &&& (fz k) else 0)))), (mu, .inl (cI, 4, .inl sm)), (mv, .inl (cZ, 144, .inl sn))] := hD
      obtain ⟨hP, hD⟩ := f_rep (g := sfill (sp0 fz c r) nx (k + 1)) hP hD 7 rfl (fun j _ => sfill_up (sp0_eq fz c r k) j)
      have hP : va_P D vwCl [(mp, .inr (4, [.int tw, .int (nI C), .int (nI R), .int (nI F), .int gn, .int (nI n), .int (nI b), .ref mf, .ref ms, .ref mi, .ref mm, .ref mk, .ref mq, .ref mn, .ref mu, .ref mv])), (mf, .inl (cI, 6, .inl frA)), (ms, .inl (cI, 6, .inl stA)), (mi, .inl (cI, 12, .inl fz)), (mm, .inl (cI, 144, .inl ml)), (mk, .inl (cI, 12, .inl kp)), (mq, .inl (cI, 144, .inl km)), (mn, .inl (cI, 12, .inl (sfill (sp0 fz c r) nx (k + 1)))), (mu, .inl (cI, 4, .inl sm)), (mv, .inl (cZ, 144, .inl sn))] _ := hP
      have hD : va_D A [(mp, .inr (4, [.int tw, .int (nI C), .int (nI R), .int (nI F), .int gn, .int (nI n), .int (nI b), .ref mf, .ref ms, .ref mi, .ref mm, .ref mk, .ref mq, .ref mn, .ref mu, .ref mv])), (mf, .inl (cI, 6, .inl frA)), (ms, .inl (cI, 6, .inl stA)), (mi, .inl (cI, 12, .inl fz)), (mm, .inl (cI, 144, .inl ml)), (mk, .inl (cI, 12, .inl kp)), (mq, .inl (cI, 144, .inl km)), (mn, .inl (cI, 12, .inl (sfill (sp0 fz c r) nx (k + 1)))), (mu, .inl (cI, 4, .inl sm)), (mv, .inl (cZ, 144, .inl sn))] := hD
      refine lv_iinc (v := nI (k + 1)) (lv' := [(3, .int (nI (k + 1))), (0, .ref mp), (1, .int (nI c)), (2, .int (nI r))]) hx hb dX4_spread_35 hl (k := 0) rfl (nI_1 _) (by decide) rfl (fun ls hl => ?_)
      refine lv_goto (tgt := 2) hx hb dX4_spread_38 (by decide) ?_
      exact ih_1 (k + 1) (by omega) (by first | omega | (simp only []; omega) | (show _ < _; simp only []; omega)) H locs hP hD hS ls (lv_sub hl [0, 1, 2, 3] rfl)
    refine lv_icmp_ne (tgt := 33) hx hb dX4_spread_17 (by decide) (fun c_21 => ?_) (fun c_21 => ?_)
    · refine lv_iconst (v := 0) hx hb dX4_spread_33 (by decide) ?_
      refine f_topi (y := if (nI k) = (nI r) then ((1 : Int32) <<< ((nI c) &&& 31)) &&& (fz k) else 0) (by rw [if_neg c_21]) ?_
      exact j_20 ls (lv_sub hl [0, 1, 2, 3] rfl)
    · refine lv_iconst (v := 1) hx hb dX4_spread_20 (by decide) ?_
      refine lv_iload_n hx hb dX4_spread_21 rfl (lv_at hl 2 rfl) ?_
      refine lv_ishl hx hb dX4_spread_22 ?_
      refine lv_aload_n hx hb dX4_spread_23 rfl (lv_at hl 1 rfl) ?_
      refine va_get (D := D) (ci := 4) (v := .ref mi) (C := RX4) (T := TX4) (N := 16) hx hb hts wb_X4_spread_4 hown hK hP 0 rfl rfl 9 (by decide) (hts _ wi_X4_spread_3) (fun _ h9 => h9) rfl dX4_spread_24 ?_
      refine lv_iload_n hx hb dX4_spread_27 rfl (lv_at hl 0 rfl) ?_
      refine f_iald (k := k) hx hb hK hP 3 0 rfl rfl rfl (by omega) (by first | decide | omega) dX4_spread_28 ?_
      refine lv_iand hx hb dX4_spread_29 ?_
      refine lv_goto (tgt := 34) hx hb dX4_spread_30 (by decide) ?_
      refine f_topi (y := if (nI k) = (nI r) then ((1 : Int32) <<< ((nI c) &&& 31)) &&& (fz k) else 0) (by rw [if_pos c_21]) ?_
      exact j_20 ls (lv_sub hl [0, 1, 2, 3] rfl)

end C_specs_model3
