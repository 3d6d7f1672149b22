section C_specs_model3
abbrev szg (g : Nat → Int32) : Nat := sz g 12
theorem spr_mu {fz g : Nat → Int32} {mo : Int32} {d : Nat} (hmo : ¬ mo = 0) (h : 145 ≤ szg g + d) : (if wdc fz g 12 = 0 then 0 else d - 1 + 1) < (if mo = 0 then 0 else d + 1) := by
  have h9 := sz_le g 12
  have h8 : 145 ≤ sz g 12 + d := h
  rw [if_neg hmo]; split <;> omega
theorem sfill_w12 {lf g nx : Nat → Int32} {R k : Nat} (hk : k = R) (hR : R ≤ 12) (j : Nat) : sfill (wdn lf g k) nx R j = sfill (wdn lf g 12) nx R j := by
  unfold sfill
  split
  · rename_i h
    rw [hk, wdn_lt _ _ h, wdn_lt _ _ (show j < 12 by omega)]
  · rfl
theorem spF_Sub {fz : Nat → Int32} (hF : inR fz) {c : Nat} (r : Nat) (hc : c < 12) : Sub (spF fz c r) fz := (pkg_ok hF 145 _ (sp0_Sub hc) (by omega)).1
theorem sfill_cg {F G g : Nat → Int32} {R : Nat} (h : ∀ j, j < 12 → F j = G j) {j : Nat} (hj : j < 12) : sfill F g R j = sfill G g R j := by
  unfold sfill; split
  · exact h j hj
  · rfl
theorem k_X4_spread : yX4_spread.cls = RX4 ∧ yX4_spread.cls ≠ "java/lang/invoke/MethodHandle" ∧ yX4_spread.cls ≠ "java/lang/invoke/VarHandle" ∧ (parseMethodDescriptor yX4_spread.desc).map (fun d => d.parameters.length) = some 2 := by decide +kernel
theorem wb_X4_spread_4 : ∀ w ∈ wsX40, w ∈ wsX4_spread := (fun _ h => List.mem_cons_of_mem _ (List.mem_append_right _ h))
theorem wi_X4_spread_1 : (Cond.fieldLink RX4 13 "FrostPaneModel" "rows" "I") ∈ wsX4_spread := List.mem_of_getElem? (i := 1) rfl
theorem wi_X4_spread_2 : (Cond.fieldLink RX4 41 "FrostPaneModel" "next" "[I") ∈ wsX4_spread := List.mem_of_getElem? (i := 2) rfl
theorem wi_X4_spread_3 : (Cond.fieldLink RX4 29 "FrostPaneModel" "ice" "[I") ∈ wsX4_spread := List.mem_of_getElem? (i := 3) rfl
set_option maxHeartbeats 4000000 in
set_option maxRecDepth 100000 in
theorem c_X4_spread (l : Launch) (D : va_G) (cI cZ cJ : ClassId) (sz : Nat) (mp mf ms mi mm mk mq mn mu mv C R F n b : Nat) (tw gn : Int32) (fz ml frA stA kp km nx sm sn : Nat → Int32) (c r : Nat) (hC3 : 3 ≤ C) (hC : C ≤ 12) (hR3 : 3 ≤ R) (hR : R ≤ 12) (hF : F ≤ 2) (hn : n ≤ 6) (hb0 : b < n) (hI : IV C R fz) (hc0 : c < C) (hr0 : r < R) : f_Mi l yX4_spread wsX4_spread ({ frames := 1, cells := 0, slots := 0, locals := 20 }) D (fTY cI cZ cJ) [.ref mp, .int (nI c), .int (nI r)] sz [(mp, .inr (4, [.int tw, .int (nI C), .int (nI R), .int (nI F), .int gn, .int (nI n), .int (nI b), .ref mf, .ref ms, .ref mi, .ref mm, .ref mk, .ref mq, .ref mn, .ref mu, .ref mv])), (mf, .inl (cI, 6, .inl frA)), (ms, .inl (cI, 6, .inl stA)), (mi, .inl (cI, 12, .inl fz)), (mm, .inl (cI, 144, .inl ml)), (mk, .inl (cI, 12, .inl kp)), (mq, .inl (cI, 144, .inl km)), (mn, .inl (cI, 12, .inl nx)), (mu, .inl (cI, 4, .inl sm)), (mv, .inl (cZ, 144, .inl sn))] (tac (spF fz c r) 12) [(mp, .inr (4, [.int tw, .int (nI C), .int (nI R), .int (nI F), .int gn, .int (nI n), .int (nI b), .ref mf, .ref ms, .ref mi, .ref mm, .ref mk, .ref mq, .ref mn, .ref mu, .ref mv])), (mf, .inl (cI, 6, .inl frA)), (ms, .inl (cI, 6, .inl stA)), (mi, .inl (cI, 12, .inl fz)), (mm, .inl (cI, 144, .inl ml)), (mk, .inl (cI, 12, .inl kp)), (mq, .inl (cI, 144, .inl km)), (mn, .inl (cI, 12, .inl (sfill (spF fz c r) nx R))), (mu, .inl (cI, 4, .inl sm)), (mv, .inl (cZ, 144, .inl sn))] := by
  refine f_ent_i (by decide) rfl (Nat.le_of_ble_eq_true rfl) ?_
  intro pg ev s m below meth cd hx hb hr hts hown hlocks hml hnm hsz hP hK hN A hD hA hS ls hl
  have hown : s.vm.findClass RX4 = some m.cls := hown
  have hl : lv_has ls 6 [(0, .ref mp), (1, .int (nI c)), (2, .int (nI r))] := hl
  obtain ⟨hP, hD⟩ := f_rep (g := sfill (sp0 fz c r) nx 0) hP hD 7 rfl (fun j _ => sfill_0 _ _ j)
  have hP : va_P D vwCl [(mp, .inr (4, [.int tw, .int (nI C), .int (nI R), .int (nI F), .int gn, .int (nI n), .int (nI b), .ref mf, .ref ms, .ref mi, .ref mm, .ref mk, .ref mq, .ref mn, .ref mu, .ref mv])), (mf, .inl (cI, 6, .inl frA)), (ms, .inl (cI, 6, .inl stA)), (mi, .inl (cI, 12, .inl fz)), (mm, .inl (cI, 144, .inl ml)), (mk, .inl (cI, 12, .inl kp)), (mq, .inl (cI, 144, .inl km)), (mn, .inl (cI, 12, .inl (sfill (sp0 fz c r) nx 0))), (mu, .inl (cI, 4, .inl sm)), (mv, .inl (cZ, 144, .inl sn))] _ := hP
  have hD : va_D A [(mp, .inr (4, [.int tw, .int (nI C), .int (nI R), .int (nI F), .int gn, .int (nI n), .int (nI b), .ref mf, .ref ms, .ref mi, .ref mm, .ref mk, .ref mq, .ref mn, .ref mu, .ref mv])), (mf, .inl (cI, 6, .inl frA)), (ms, .inl (cI, 6, .inl stA)), (mi, .inl (cI, 12, .inl fz)), (mm, .inl (cI, 144, .inl ml)), (mk, .inl (cI, 12, .inl kp)), (mq, .inl (cI, 144, .inl km)), (mn, .inl (cI, 12, .inl (sfill (sp0 fz c r) nx 0))), (mu, .inl (cI, 4, .inl sm)), (mv, .inl (cZ, 144, .inl sn))] := hD
  refine lv_iconst (v := 0) hx hb dX4_spread_0 (by decide) ?_
  refine lv_istore_n (lv' := [(3, .int 0), (0, .ref mp), (1, .int (nI c)), (2, .int (nI r))]) hx hb dX4_spread_1 rfl hl (by decide) rfl (fun ls hl => ?_)
  refine f_loopW (σ := Nat) (D := D) (A := A) (H0 := s.heap) 6 2 (fun u9 => [(3, .int (nI u9)), (0, .ref mp), (1, .int (nI c)), (2, .int (nI r))]) (fun u9 => [(mp, .inr (4, [.int tw, .int (nI C), .int (nI R), .int (nI F), .int gn, .int (nI n), .int (nI b), .ref mf, .ref ms, .ref mi, .ref mm, .ref mk, .ref mq, .ref mn, .ref mu, .ref mv])), (mf, .inl (cI, 6, .inl frA)), (ms, .inl (cI, 6, .inl stA)), (mi, .inl (cI, 12, .inl fz)), (mm, .inl (cI, 144, .inl ml)), (mk, .inl (cI, 12, .inl kp)), (mq, .inl (cI, 144, .inl km)), (mn, .inl (cI, 12, .inl (sfill (sp0 fz c r) nx u9))), (mu, .inl (cI, 4, .inl sm)), (mv, .inl (cZ, 144, .inl sn))]) (fun u9 => u9 ≤ R) (fun u9 => R - u9)
      (fun u9 hi_2 ih_1 H locs hP hD hS ls hl => ?_) 0 (by omega) hP hD hS (lv_sub hl [0, 1, 2, 3] rfl)
  obtain ⟨k, rfl⟩ : ∃ z, z = u9 := ⟨_, rfl⟩
  have hi_2 : k ≤ R := hi_2
  obtain hk := hi_2
  have hl : lv_has ls 6 [(3, .int (nI k)), (0, .ref mp), (1, .int (nI c)), (2, .int (nI r))] := hl
  have hP : va_P D vwCl [(mp, .inr (4, [.int tw, .int (nI C), .int (nI R), .int (nI F), .int gn, .int (nI n), .int (nI b), .ref mf, .ref ms, .ref mi, .ref mm, .ref mk, .ref mq, .ref mn, .ref mu, .ref mv])), (mf, .inl (cI, 6, .inl frA)), (ms, .inl (cI, 6, .inl stA)), (mi, .inl (cI, 12, .inl fz)), (mm, .inl (cI, 144, .inl ml)), (mk, .inl (cI, 12, .inl kp)), (mq, .inl (cI, 144, .inl km)), (mn, .inl (cI, 12, .inl (sfill (sp0 fz c r) nx k))), (mu, .inl (cI, 4, .inl sm)), (mv, .inl (cZ, 144, .inl sn))] _ := hP
  have hD : va_D A [(mp, .inr (4, [.int tw, .int (nI C), .int (nI R), .int (nI F), .int gn, .int (nI n), .int (nI b), .ref mf, .ref ms, .ref mi, .ref mm, .ref mk, .ref mq, .ref mn, .ref mu, .ref mv])), (mf, .inl (cI, 6, .inl frA)), (ms, .inl (cI, 6, .inl stA)), (mi, .inl (cI, 12, .inl fz)), (mm, .inl (cI, 144, .inl ml)), (mk, .inl (cI, 12, .inl kp)), (mq, .inl (cI, 144, .inl km)), (mn, .inl (cI, 12, .inl (sfill (sp0 fz c r) nx k))), (mu, .inl (cI, 4, .inl sm)), (mv, .inl (cZ, 144, .inl sn))] := hD
  refine lv_iload_n hx hb dX4_spread_2 rfl (lv_at hl 0 rfl) ?_
  refine lv_aload_n hx hb dX4_spread_3 rfl (lv_at hl 1 rfl) ?_
  refine va_get (D := D) (ci := 4) (v := .int (nI R)) (C := RX4) (T := TX4) (N := 16) hx hb hts wb_X4_spread_4 hown hK hP 0 rfl rfl 2 (by decide) (hts _ wi_X4_spread_1) (fun _ h9 => h9) rfl dX4_spread_4 ?_
  refine lv_icmp_ge (tgt := 41) hx hb dX4_spread_7 (by decide) (fun c_3 => ?_) (fun c_3 => ?_)
  · have n_3 : R ≤ k := (nI_leI (a := R) (b := k) (by omega) (by omega)).mp c_3
    obtain ⟨hP, hD⟩ := f_rep (g := sfill (sp0 fz c r) nx R) hP hD 7 rfl (fun j _ => by rw [show k = R by omega])
    have hP : va_P D vwCl [(mp, .inr (4, [.int tw, .int (nI C), .int (nI R), .int (nI F), .int gn, .int (nI n), .int (nI b), .ref mf, .ref ms, .ref mi, .ref mm, .ref mk, .ref mq, .ref mn, .ref mu, .ref mv])), (mf, .inl (cI, 6, .inl frA)), (ms, .inl (cI, 6, .inl stA)), (mi, .inl (cI, 12, .inl fz)), (mm, .inl (cI, 144, .inl ml)), (mk, .inl (cI, 12, .inl kp)), (mq, .inl (cI, 144, .inl km)), (mn, .inl (cI, 12, .inl (sfill (sp0 fz c r) nx R))), (mu, .inl (cI, 4, .inl sm)), (mv, .inl (cZ, 144, .inl sn))] _ := hP
    have hD : va_D A [(mp, .inr (4, [.int tw, .int (nI C), .int (nI R), .int (nI F), .int gn, .int (nI n), .int (nI b), .ref mf, .ref ms, .ref mi, .ref mm, .ref mk, .ref mq, .ref mn, .ref mu, .ref mv])), (mf, .inl (cI, 6, .inl frA)), (ms, .inl (cI, 6, .inl stA)), (mi, .inl (cI, 12, .inl fz)), (mm, .inl (cI, 144, .inl ml)), (mk, .inl (cI, 12, .inl kp)), (mq, .inl (cI, 144, .inl km)), (mn, .inl (cI, 12, .inl (sfill (sp0 fz c r) nx R))), (mu, .inl (cI, 4, .inl sm)), (mv, .inl (cZ, 144, .inl sn))] := hD
    refine lv_iconst (v := 1) hx hb dX4_spread_41 (by decide) ?_
    refine lv_istore_n (lv' := [(3, .int 1), (0, .ref mp), (1, .int (nI c)), (2, .int (nI r))]) hx hb dX4_spread_42 rfl hl (by decide) rfl (fun ls hl => ?_)
    refine f_loopW (σ := (Nat → Int32) × Int32 × Nat) (D := D) (A := A) (H0 := s.heap) 6 43 (fun u9 => [(3, .int (u9.2.1)), (0, .ref mp), (1, .int (nI c)), (2, .int (nI r))]) (fun u9 => [(mp, .inr (4, [.int tw, .int (nI C), .int (nI R), .int (nI F), .int gn, .int (nI n), .int (nI b), .ref mf, .ref ms, .ref mi, .ref mm, .ref mk, .ref mq, .ref mn, .ref mu, .ref mv])), (mf, .inl (cI, 6, .inl frA)), (ms, .inl (cI, 6, .inl stA)), (mi, .inl (cI, 12, .inl fz)), (mm, .inl (cI, 144, .inl ml)), (mk, .inl (cI, 12, .inl kp)), (mq, .inl (cI, 144, .inl km)), (mn, .inl (cI, 12, .inl (sfill (u9.1) nx R))), (mu, .inl (cI, 4, .inl sm)), (mv, .inl (cZ, 144, .inl sn))]) (fun u9 => Sub (u9.1) fz ∧ (((u9.2.1) = 0 ∧ ∀ j, j < 12 → (u9.1) j = spF fz c r j) ∨ ((u9.2.1) = 1 ∧ pkg fz (u9.2.2) (u9.1) = spF fz c r ∧ 145 ≤ szg (u9.1) + (u9.2.2)))) (fun u9 => if (u9.2.1) = 0 then 0 else (u9.2.2) + 1)
        (fun u9 hi_5 ih_4 H locs hP hD hS ls hl => ?_) ((sp0 fz c r), 1, 145) (⟨sp0_Sub (by omega), Or.inr ⟨rfl, rfl, Nat.le_add_left 145 _⟩⟩) hP hD hS (lv_sub hl [0, 1, 2, 3] rfl)
    obtain ⟨g, mo, d⟩ := u9
    have hi_5 : Sub g fz ∧ ((mo = 0 ∧ ∀ j, j < 12 → g j = spF fz c r j) ∨ (mo = 1 ∧ pkg fz d g = spF fz c r ∧ 145 ≤ szg g + d)) := hi_5
    obtain ⟨hs, hg⟩ := hi_5
    have hl : lv_has ls 6 [(3, .int mo), (0, .ref mp), (1, .int (nI c)), (2, .int (nI r))] := hl
    have hP : va_P D vwCl [(mp, .inr (4, [.int tw, .int (nI C), .int (nI R), .int (nI F), .int gn, .int (nI n), .int (nI b), .ref mf, .ref ms, .ref mi, .ref mm, .ref mk, .ref mq, .ref mn, .ref mu, .ref mv])), (mf, .inl (cI, 6, .inl frA)), (ms, .inl (cI, 6, .inl stA)), (mi, .inl (cI, 12, .inl fz)), (mm, .inl (cI, 144, .inl ml)), (mk, .inl (cI, 12, .inl kp)), (mq, .inl (cI, 144, .inl km)), (mn, .inl (cI, 12, .inl (sfill g nx R))), (mu, .inl (cI, 4, .inl sm)), (mv, .inl (cZ, 144, .inl sn))] _ := hP
    have hD : va_D A [(mp, .inr (4, [.int tw, .int (nI C), .int (nI R), .int (nI F), .int gn, .int (nI n), .int (nI b), .ref mf, .ref ms, .ref mi, .ref mm, .ref mk, .ref mq, .ref mn, .ref mu, .ref mv])), (mf, .inl (cI, 6, .inl frA)), (ms, .inl (cI, 6, .inl stA)), (mi, .inl (cI, 12, .inl fz)), (mm, .inl (cI, 144, .inl ml)), (mk, .inl (cI, 12, .inl kp)), (mq, .inl (cI, 144, .inl km)), (mn, .inl (cI, 12, .inl (sfill g nx R))), (mu, .inl (cI, 4, .inl sm)), (mv, .inl (cZ, 144, .inl sn))] := hD
    refine lv_iload_n hx hb dX4_spread_43 rfl (lv_at hl 0 rfl) ?_
    refine lv_if_eq (tgt := 184) hx hb dX4_spread_44 (by decide) (fun c_6 => ?_) (fun c_6 => ?_)
    · have hp := (hg.resolve_right (fun z => absurd (c_6.symm.trans z.1) (by decide))).2
      refine lv_iconst (v := 0) hx hb dX4_spread_184 (by decide) ?_
      refine lv_istore (lv' := [(4, .int 0), (3, .int mo), (0, .ref mp), (1, .int (nI c)), (2, .int (nI r))]) hx hb dX4_spread_185 hl (by decide) rfl (fun ls hl => ?_)
      refine lv_iconst (v := 0) hx hb dX4_spread_187 (by decide) ?_
      refine lv_istore (lv' := [(5, .int 0), (4, .int 0), (3, .int mo), (0, .ref mp), (1, .int (nI c)), (2, .int (nI r))]) hx hb dX4_spread_188 hl (by decide) rfl (fun ls hl => ?_)
      refine f_loopW (σ := Nat) (D := D) (A := A) (H0 := s.heap) 6 190 (fun u9 => [(5, .int (nI u9)), (4, .int (tac (spF fz c r) u9)), (3, .int mo), (0, .ref mp), (1, .int (nI c)), (2, .int (nI r))]) (fun u9 => [(mp, .inr (4, [.int tw, .int (nI C), .int (nI R), .int (nI F), .int gn, .int (nI n), .int (nI b), .ref mf, .ref ms, .ref mi, .ref mm, .ref mk, .ref mq, .ref mn, .ref mu, .ref mv])), (mf, .inl (cI, 6, .inl frA)), (ms, .inl (cI, 6, .inl stA)), (mi, .inl (cI, 12, .inl fz)), (mm, .inl (cI, 144, .inl ml)), (mk, .inl (cI, 12, .inl kp)), (mq, .inl (cI, 144, .inl km)), (mn, .inl (cI, 12, .inl (sfill g nx R))), (mu, .inl (cI, 4, .inl sm)), (mv, .inl (cZ, 144, .inl sn))]) (fun u9 => u9 ≤ R) (fun u9 => R - u9)
          (fun u9 hi_8 ih_7 H locs hP hD hS ls hl => ?_) 0 (by omega) hP hD hS (lv_sub hl [0, 1, 2, 3, 4, 5] rfl)
      obtain ⟨q, rfl⟩ : ∃ z, z = u9 := ⟨_, rfl⟩
      have hi_8 : q ≤ R := hi_8
      obtain hq := hi_8
      have hl : lv_has ls 6 [(5, .int (nI q)), (4, .int (tac (spF fz c r) q)), (3, .int mo), (0, .ref mp), (1, .int (nI c)), (2, .int (nI r))] := hl
      have hP : va_P D vwCl [(mp, .inr (4, [.int tw, .int (nI C), .int (nI R), .int (nI F), .int gn, .int (nI n), .int (nI b), .ref mf, .ref ms, .ref mi, .ref mm, .ref mk, .ref mq, .ref mn, .ref mu, .ref mv])), (mf, .inl (cI, 6, .inl frA)), (ms, .inl (cI, 6, .inl stA)), (mi, .inl (cI, 12, .inl fz)), (mm, .inl (cI, 144, .inl ml)), (mk, .inl (cI, 12, .inl kp)), (mq, .inl (cI, 144, .inl km)), (mn, .inl (cI, 12, .inl (sfill g nx R))), (mu, .inl (cI, 4, .inl sm)), (mv, .inl (cZ, 144, .inl sn))] _ := hP
      have hD : va_D A [(mp, .inr (4, [.int tw, .int (nI C), .int (nI R), .int (nI F), .int gn, .int (nI n), .int (nI b), .ref mf, .ref ms, .ref mi, .ref mm, .ref mk, .ref mq, .ref mn, .ref mu, .ref mv])), (mf, .inl (cI, 6, .inl frA)), (ms, .inl (cI, 6, .inl stA)), (mi, .inl (cI, 12, .inl fz)), (mm, .inl (cI, 144, .inl ml)), (mk, .inl (cI, 12, .inl kp)), (mq, .inl (cI, 144, .inl km)), (mn, .inl (cI, 12, .inl (sfill g nx R))), (mu, .inl (cI, 4, .inl sm)), (mv, .inl (cZ, 144, .inl sn))] := hD
      refine lv_iload hx hb dX4_spread_190 (lv_at hl 0 rfl) ?_
      refine lv_aload_n hx hb dX4_spread_192 rfl (lv_at hl 3 rfl) ?_
      refine va_get (D := D) (ci := 4) (v := .int (nI R)) (C := RX4) (T := TX4) (N := 16) hx hb hts wb_X4_spread_4 hown hK hP 0 rfl rfl 2 (by decide) (hts _ wi_X4_spread_1) (fun _ h9 => h9) rfl dX4_spread_193 ?_
      refine lv_icmp_ge (tgt := 220) hx hb dX4_spread_196 (by decide) (fun c_9 => ?_) (fun c_9 => ?_)
      · have n_9 : R ≤ q := (nI_leI (a := R) (b := q) (by omega) (by omega)).mp c_9
        refine lv_iload hx hb dX4_spread_220 (lv_at hl 1 rfl) ?_
        obtain ⟨hP, hD⟩ := f_rep (g := sfill (spF fz c r) nx R) hP hD 7 rfl (fun j hj => sfill_cg hp hj)
        have hP : va_P D vwCl [(mp, .inr (4, [.int tw, .int (nI C), .int (nI R), .int (nI F), .int gn, .int (nI n), .int (nI b), .ref mf, .ref ms, .ref mi, .ref mm, .ref mk, .ref mq, .ref mn, .ref mu, .ref mv])), (mf, .inl (cI, 6, .inl frA)), (ms, .inl (cI, 6, .inl stA)), (mi, .inl (cI, 12, .inl fz)), (mm, .inl (cI, 144, .inl ml)), (mk, .inl (cI, 12, .inl kp)), (mq, .inl (cI, 144, .inl km)), (mn, .inl (cI, 12, .inl (sfill (spF fz c r) nx R))), (mu, .inl (cI, 4, .inl sm)), (mv, .inl (cZ, 144, .inl sn))] _ := hP
        have hD : va_D A [(mp, .inr (4, [.int tw, .int (nI C), .int (nI R), .int (nI F), .int gn, .int (nI n), .int (nI b), .ref mf, .ref ms, .ref mi, .ref mm, .ref mk, .ref mq, .ref mn, .ref mu, .ref mv])), (mf, .inl (cI, 6, .inl frA)), (ms, .inl (cI, 6, .inl stA)), (mi, .inl (cI, 12, .inl fz)), (mm, .inl (cI, 144, .inl ml)), (mk, .inl (cI, 12, .inl kp)), (mq, .inl (cI, 144, .inl km)), (mn, .inl (cI, 12, .inl (sfill (spF fz c r) nx R))), (mu, .inl (cI, 4, .inl sm)), (mv, .inl (cZ, 144, .inl sn))] := hD
        exact f_ret_i hx hb hr hlocks hP hD hS dX4_spread_222 (by rw [show q = R by omega]; exact tac_12 hR (Hz_Sub hI.2 (spF_Sub (IV_R hI hC) r (by omega))))
      · have n_9 : q < R := Nat.lt_of_not_le (fun h => c_9 ((nI_leI (a := R) (b := q) (by omega) (by omega)).mpr h))
        refine lv_iload hx hb dX4_spread_199 (lv_at hl 1 rfl) ?_
        refine lv_aload_n hx hb dX4_spread_201 rfl (lv_at hl 3 rfl) ?_
        refine va_get (D := D) (ci := 4) (v := .ref mn) (C := RX4) (T := TX4) (N := 16) hx hb hts wb_X4_spread_4 hown hK hP 0 rfl rfl 13 (by decide) (hts _ wi_X4_spread_2) (fun _ h9 => h9) rfl dX4_spread_202 ?_
        refine lv_iload hx hb dX4_spread_205 (lv_at hl 0 rfl) ?_
        refine f_iald (k := q) hx hb hK hP 7 0 rfl rfl rfl (by omega) (by first | decide | omega) dX4_spread_207 ?_
        refine f_topi (y := spF fz c r q) ((sfill_lt (by omega)).trans (hp q (by omega))) ?_
        refine f_callSi ⟨hx, hb, hml, hown, hts⟩ hP hD hS hA hK hN [] (w2 := [(mp, .inr (4, [.int tw, .int (nI C), .int (nI R), .int (nI F), .int gn, .int (nI n), .int (nI b), .ref mf, .ref ms, .ref mi, .ref mm, .ref mk, .ref mq, .ref mn, .ref mu, .ref mv])), (mf, .inl (cI, 6, .inl frA)), (ms, .inl (cI, 6, .inl stA)), (mi, .inl (cI, 12, .inl fz)), (mm, .inl (cI, 144, .inl ml)), (mk, .inl (cI, 12, .inl kp)), (mq, .inl (cI, 144, .inl km)), (mn, .inl (cI, 12, .inl (sfill g nx R))), (mu, .inl (cI, 4, .inl sm)), (mv, .inl (cZ, 144, .inl sn))])
            (c_J6_bitCount_0f7a4 (l := l) (D := D) (cI := cI) (cZ := cZ) (cJ := cJ) (sz := _) (x := spF fz c r q) ) (va_cwS 1 hts gX4_spread_J6_bitCount_0f7a4 rfl rfl rfl k_J6_bitCount_0f7a4.2 ⟨Nat.le_of_ble_eq_true rfl, Nat.le_of_ble_eq_true rfl⟩) rfl rfl [] rfl rfl rfl rfl rfl hl.1 (Nat.le_of_ble_eq_true rfl) dX4_spread_208 ⟨Nat.le_of_ble_eq_true rfl, Nat.le_of_ble_eq_true rfl⟩ (fun H locs hP hD hS => ?_)
        refine lv_iadd hx hb dX4_spread_211 ?_
        refine lv_istore (lv' := [(4, .int ((tac (spF fz c r) q) + (bc (spF fz c r q)))), (5, .int (nI q)), (3, .int mo), (0, .ref mp), (1, .int (nI c)), (2, .int (nI r))]) hx hb dX4_spread_212 hl (by decide) rfl (fun ls hl => ?_)
        refine lv_iinc (v := nI (q + 1)) (lv' := [(5, .int (nI (q + 1))), (4, .int ((tac (spF fz c r) q) + (bc (spF fz c r q)))), (3, .int mo), (0, .ref mp), (1, .int (nI c)), (2, .int (nI r))]) hx hb dX4_spread_214 hl (k := 1) rfl (nI_1 _) (by decide) rfl (fun ls hl => ?_)
        refine lv_goto (tgt := 190) hx hb dX4_spread_217 (by decide) ?_
        exact ih_7 (q + 1) (by omega) (by first | omega | (simp only []; omega) | (show _ < _; simp only []; omega)) H locs hP hD hS ls (lv_sub hl [0, 1, 2, 3, 4, 5] rfl)
    · have hmo := c_6
      have hp := (hg.resolve_left (fun z => c_6 z.1)).2
      refine lv_iconst (v := 0) hx hb dX4_spread_47 (by decide) ?_
      refine lv_istore_n (lv' := [(3, .int 0), (0, .ref mp), (1, .int (nI c)), (2, .int (nI r))]) hx hb dX4_spread_48 rfl hl (by decide) rfl (fun ls hl => ?_)
      refine lv_iconst (v := 0) hx hb dX4_spread_49 (by decide) ?_
      refine lv_istore (lv' := [(4, .int 0), (3, .int 0), (0, .ref mp), (1, .int (nI c)), (2, .int (nI r))]) hx hb dX4_spread_50 hl (by decide) rfl (fun ls hl => ?_)
      refine f_loopW (σ := Nat) (D := D) (A := A) (H0 := s.heap) 6 52 (fun u9 => [(4, .int (nI u9)), (3, .int (wdc fz g u9)), (0, .ref mp), (1, .int (nI c)), (2, .int (nI r))]) (fun u9 => [(mp, .inr (4, [.int tw, .int (nI C), .int (nI R), .int (nI F), .int gn, .int (nI n), .int (nI b), .ref mf, .ref ms, .ref mi, .ref mm, .ref mk, .ref mq, .ref mn, .ref mu, .ref mv])), (mf, .inl (cI, 6, .inl frA)), (ms, .inl (cI, 6, .inl stA)), (mi, .inl (cI, 12, .inl fz)), (mm, .inl (cI, 144, .inl ml)), (mk, .inl (cI, 12, .inl kp)), (mq, .inl (cI, 144, .inl km)), (mn, .inl (cI, 12, .inl (sfill (wdn fz g u9) nx R))), (mu, .inl (cI, 4, .inl sm)), (mv, .inl (cZ, 144, .inl sn))]) (fun u9 => u9 ≤ R) (fun u9 => R - u9)
          (fun u9 hi_11 ih_10 H locs hP hD hS ls hl => ?_) 0 (by omega) hP hD hS (lv_sub hl [0, 1, 2, 3, 4] rfl)
      obtain ⟨k, rfl⟩ : ∃ z, z = u9 := ⟨_, rfl⟩
      have hi_11 : k ≤ R := hi_11
      obtain hk := hi_11
      have hl : lv_has ls 6 [(4, .int (nI k)), (3, .int (wdc fz g k)), (0, .ref mp), (1, .int (nI c)), (2, .int (nI r))] := hl
      have hP : va_P D vwCl [(mp, .inr (4, [.int tw, .int (nI C), .int (nI R), .int (nI F), .int gn, .int (nI n), .int (nI b), .ref mf, .ref ms, .ref mi, .ref mm, .ref mk, .ref mq, .ref mn, .ref mu, .ref mv])), (mf, .inl (cI, 6, .inl frA)), (ms, .inl (cI, 6, .inl stA)), (mi, .inl (cI, 12, .inl fz)), (mm, .inl (cI, 144, .inl ml)), (mk, .inl (cI, 12, .inl kp)), (mq, .inl (cI, 144, .inl km)), (mn, .inl (cI, 12, .inl (sfill (wdn fz g k) nx R))), (mu, .inl (cI, 4, .inl sm)), (mv, .inl (cZ, 144, .inl sn))] _ := hP
      have hD : va_D A [(mp, .inr (4, [.int tw, .int (nI C), .int (nI R), .int (nI F), .int gn, .int (nI n), .int (nI b), .ref mf, .ref ms, .ref mi, .ref mm, .ref mk, .ref mq, .ref mn, .ref mu, .ref mv])), (mf, .inl (cI, 6, .inl frA)), (ms, .inl (cI, 6, .inl stA)), (mi, .inl (cI, 12, .inl fz)), (mm, .inl (cI, 144, .inl ml)), (mk, .inl (cI, 12, .inl kp)), (mq, .inl (cI, 144, .inl km)), (mn, .inl (cI, 12, .inl (sfill (wdn fz g k) nx R))), (mu, .inl (cI, 4, .inl sm)), (mv, .inl (cZ, 144, .inl sn))] := hD
      refine lv_iload hx hb dX4_spread_52 (lv_at hl 0 rfl) ?_
      refine lv_aload_n hx hb dX4_spread_54 rfl (lv_at hl 2 rfl) ?_
      refine va_get (D := D) (ci := 4) (v := .int (nI R)) (C := RX4) (T := TX4) (N := 16) hx hb hts wb_X4_spread_4 hown hK hP 0 rfl rfl 2 (by decide) (hts _ wi_X4_spread_1) (fun _ h9 => h9) rfl dX4_spread_55 ?_
      refine lv_icmp_ge (tgt := 181) hx hb dX4_spread_58 (by decide) (fun c_12 => ?_) (fun c_12 => ?_)
      · have n_12 : R ≤ k := (nI_leI (a := R) (b := k) (by omega) (by omega)).mp c_12
        obtain ⟨hP, hD⟩ := f_rep (g := sfill (wdn fz g 12) nx R) hP hD 7 rfl (fun j _ => sfill_w12 (by omega) hR j)
        have hP : va_P D vwCl [(mp, .inr (4, [.int tw, .int (nI C), .int (nI R), .int (nI F), .int gn, .int (nI n), .int (nI b), .ref mf, .ref ms, .ref mi, .ref mm, .ref mk, .ref mq, .ref mn, .ref mu, .ref mv])), (mf, .inl (cI, 6, .inl frA)), (ms, .inl (cI, 6, .inl stA)), (mi, .inl (cI, 12, .inl fz)), (mm, .inl (cI, 144, .inl ml)), (mk, .inl (cI, 12, .inl kp)), (mq, .inl (cI, 144, .inl km)), (mn, .inl (cI, 12, .inl (sfill (wdn fz g 12) nx R))), (mu, .inl (cI, 4, .inl sm)), (mv, .inl (cZ, 144, .inl sn))] _ := hP
        have hD : va_D A [(mp, .inr (4, [.int tw, .int (nI C), .int (nI R), .int (nI F), .int gn, .int (nI n), .int (nI b), .ref mf, .ref ms, .ref mi, .ref mm, .ref mk, .ref mq, .ref mn, .ref mu, .ref mv])), (mf, .inl (cI, 6, .inl frA)), (ms, .inl (cI, 6, .inl stA)), (mi, .inl (cI, 12, .inl fz)), (mm, .inl (cI, 144, .inl ml)), (mk, .inl (cI, 12, .inl kp)), (mq, .inl (cI, 144, .inl km)), (mn, .inl (cI, 12, .inl (sfill (wdn fz g 12) nx R))), (mu, .inl (cI, 4, .inl sm)), (mv, .inl (cZ, 144, .inl sn))] := hD
        have e9_13 : (wdc fz g k) = (wdc fz g 12) := by rw [show k = R by omega]; exact wdc_12 hR hI.2 hs
        have hl : lv_has ls 6 [(4, .int (nI k)), (3, .int (wdc fz g 12)), (0, .ref mp), (1, .int (nI c)), (2, .int (nI r))] := by rw [← e9_13]; exact hl
        refine lv_goto (tgt := 43) hx hb dX4_spread_181 (by decide) ?_
        have hnx : (wdc fz g 12 = 0 ∧ ∀ j, j < 12 → wdn fz g 12 j = spF fz c r j) ∨ (wdc fz g 12 = 1 ∧ pkg fz (d - 1) (wdn fz g 12) = spF fz c r ∧ 145 ≤ szg (wdn fz g 12) + (d - 1)) := spr_next (IV_R hI hC) hs hp.1 hp.2
        have hsb := Sub_wdn hs 12
        have hmu := spr_mu (fz := fz) hmo hp.2
        generalize wdc fz g 12 = mw at hl hnx hmu
        generalize wdn fz g 12 = gw at hP hD hnx hsb
        exact ih_4 (gw, mw, (d - 1)) (⟨hsb, hnx⟩) (hmu) H locs hP hD hS ls (lv_sub hl [1, 2, 3, 4] rfl)
      · have n_12 : k < R := Nat.lt_of_not_le (fun h => c_12 ((nI_leI (a := R) (b := k) (by omega) (by omega)).mpr h))
        refine lv_aload_n hx hb dX4_spread_61 rfl (lv_at hl 2 rfl) ?_
        refine va_get (D := D) (ci := 4) (v := .ref mn) (C := RX4) (T := TX4) (N := 16) hx hb hts wb_X4_spread_4 hown hK hP 0 rfl rfl 13 (by decide) (hts _ wi_X4_spread_2) (fun _ h9 => h9) rfl dX4_spread_62 ?_
        refine lv_iload hx hb dX4_spread_65 (lv_at hl 0 rfl) ?_
        refine f_iald (k := k) hx hb hK hP 7 0 rfl rfl rfl (by omega) (by first | decide | omega) dX4_spread_67 ?_
        refine f_topi (y := wdn fz g k k) (sfill_lt (by omega)) ?_
        refine lv_aload_n hx hb dX4_spread_68 rfl (lv_at hl 2 rfl) ?_
        refine va_get (D := D) (ci := 4) (v := .ref mn) (C := RX4) (T := TX4) (N := 16) hx hb hts wb_X4_spread_4 hown hK hP 0 rfl rfl 13 (by decide) (hts _ wi_X4_spread_2) (fun _ h9 => h9) rfl dX4_spread_69 ?_
        refine lv_iload hx hb dX4_spread_72 (lv_at hl 0 rfl) ?_
        refine f_iald (k := k) hx hb hK hP 7 0 rfl rfl rfl (by omega) (by first | decide | omega) dX4_spread_74 ?_
        refine f_topi (y := wdn fz g k k) (sfill_lt (by omega)) ?_
        refine lv_iconst (v := 1) hx hb dX4_spread_75 (by decide) ?_
        refine lv_ishl hx hb dX4_spread_76 ?_
        refine lv_ior hx hb dX4_spread_77 ?_
        refine lv_aload_n hx hb dX4_spread_78 rfl (lv_at hl 2 rfl) ?_
        refine va_get (D := D) (ci := 4) (v := .ref mn) (C := RX4) (T := TX4) (N := 16) hx hb hts wb_X4_spread_4 hown hK hP 0 rfl rfl 13 (by decide) (hts _ wi_X4_spread_2) (fun _ h9 => h9) rfl dX4_spread_79 ?_
        refine lv_iload hx hb dX4_spread_82 (lv_at hl 0 rfl) ?_
        refine f_iald (k := k) hx hb hK hP 7 0 rfl rfl rfl (by omega) (by first | decide | omega) dX4_spread_84 ?_
        refine f_topi (y := wdn fz g k k) (sfill_lt (by omega)) ?_
        refine lv_iconst (v := 1) hx hb dX4_spread_85 (by decide) ?_
        refine lv_ishr hx hb dX4_spread_86 ?_
        refine lv_ior hx hb dX4_spread_87 ?_
        refine f_joinW (nL := 6) 106 [(4, .int (nI k)), (3, .int (wdc fz g k)), (0, .ref mp), (1, .int (nI c)), (2, .int (nI r))] [.int (if (nI k) ≤ 0 then (0 : Int32) else wdn fz g k (k - 1)), .int (((wdn fz g k k) ||| ((wdn fz g k k) <<< ((1 : Int32) &&& 31))) ||| ((wdn fz g k k) >>> ((1 : Int32) &&& 31)))] (fun ls hl => ?_) (fun j_14 => ?_)
        · refine lv_ior hx hb dX4_spread_106 ?_
          refine f_joinW (nL := 6) 131 [(4, .int (nI k)), (3, .int (wdc fz g k)), (0, .ref mp), (1, .int (nI c)), (2, .int (nI r))] [.int (if (nI R) ≤ (nI (k + 1)) then (0 : Int32) else wdn fz g k (k + 1)), .int ((((wdn fz g k k) ||| ((wdn fz g k k) <<< ((1 : Int32) &&& 31))) ||| ((wdn fz g k k) >>> ((1 : Int32) &&& 31))) ||| (if (nI k) ≤ 0 then (0 : Int32) else wdn fz g k (k - 1)))] (fun ls hl => ?_) (fun j_15 => ?_)
          · refine lv_ior hx hb dX4_spread_131 ?_
            refine lv_istore (lv' := [(5, .int (((((wdn fz g k k) ||| ((wdn fz g k k) <<< ((1 : Int32) &&& 31))) ||| ((wdn fz g k k) >>> ((1 : Int32) &&& 31))) ||| (if (nI k) ≤ 0 then (0 : Int32) else wdn fz g k (k - 1))) ||| (if (nI R) ≤ (nI (k + 1)) then (0 : Int32) else wdn fz g k (k + 1)))), (4, .int (nI k)), (3, .int (wdc fz g k)), (0, .ref mp), (1, .int (nI c)), (2, .int (nI r))]) hx hb dX4_spread_132 hl (by decide) rfl (fun ls hl => ?_)
            refine lv_iload hx hb dX4_spread_134 (lv_at hl 0 rfl) ?_
            refine lv_aload_n hx hb dX4_spread_136 rfl (lv_at hl 3 rfl) ?_
            refine va_get (D := D) (ci := 4) (v := .ref mi) (C := RX4) (T := TX4) (N := 16) hx hb hts wb_X4_spread_4 hown hK hP 0 rfl rfl 9 (by decide) (hts _ wi_X4_spread_3) (fun _ h9 => h9) rfl dX4_spread_137 ?_
            refine lv_iload hx hb dX4_spread_140 (lv_at hl 1 rfl) ?_
            refine f_iald (k := k) hx hb hK hP 3 0 rfl rfl rfl (by omega) (by first | decide | omega) dX4_spread_142 ?_
            refine lv_iand hx hb dX4_spread_143 ?_
            refine f_topi (y := wdv fz (wdn fz g k) k) (mwd hR (Hz_Sub hI.2 (Sub_wdn hs k)) (by omega)) ?_
            refine lv_istore (lv' := [(5, .int (wdv fz (wdn fz g k) k)), (4, .int (nI k)), (3, .int (wdc fz g k)), (0, .ref mp), (1, .int (nI c)), (2, .int (nI r))]) hx hb dX4_spread_144 hl (by decide) rfl (fun ls hl => ?_)
            refine f_joinW (nL := 6) 164 [(5, .int (wdv fz (wdn fz g k) k)), (4, .int (nI k)), (3, .int (wdc fz g k)), (0, .ref mp), (1, .int (nI c)), (2, .int (nI r))] [.int (if (wdv fz (wdn fz g k) k) = (wdn fz g k k) then (0 : Int32) else 1), .int (wdc fz g k)] (fun ls hl => ?_) (fun j_16 => ?_)
            · refine lv_ior hx hb dX4_spread_164 ?_
              refine f_topi (y := wdc fz g (k + 1)) (wdc_or fz g k) ?_
              refine lv_istore_n (lv' := [(3, .int (wdc fz g (k + 1))), (5, .int (wdv fz (wdn fz g k) k)), (4, .int (nI k)), (0, .ref mp), (1, .int (nI c)), (2, .int (nI r))]) hx hb dX4_spread_165 rfl hl (by decide) rfl (fun ls hl => ?_)
              refine lv_aload_n hx hb dX4_spread_166 rfl (lv_at hl 3 rfl) ?_
              refine va_get (D := D) (ci := 4) (v := .ref mn) (C := RX4) (T := TX4) (N := 16) hx hb hts wb_X4_spread_4 hown hK hP 0 rfl rfl 13 (by decide) (hts _ wi_X4_spread_2) (fun _ h9 => h9) rfl dX4_spread_167 ?_
              refine lv_iload hx hb dX4_spread_170 (lv_at hl 2 rfl) ?_
              refine lv_iload hx hb dX4_spread_172 (lv_at hl 1 rfl) ?_
              refine f_iast (k := k) hx hb hK hP hD hS 7 0 rfl rfl rfl (by omega) (by first | decide | omega) dX4_spread_174 (fun H locs hP hD hS => ?_)
              have hP : va_P D vwCl [(mp, .inr (4, [.int tw, .int (nI C), .int (nI R), .int (nI F), .int gn, .int (nI n), .int (nI b), .ref mf, .ref ms, .ref mi, .ref mm, .ref mk, .ref mq, .ref mn, .ref mu, .ref mv])), (mf, .inl (cI, 6, .inl frA)), (ms, .inl (cI, 6, .inl stA)), (mi, .inl (cI, 12, .inl fz)), (mm, .inl (cI, 144, .inl ml)), (mk, .inl (cI, 12, .inl kp)), (mq, .inl (cI, 144, .inl km)), (mn, .inl (cI, 12, .inl (upd (sfill (wdn fz g k) nx R) k (wdv fz (wdn fz g k) k)))), (mu, .inl (cI, 4, .inl sm)), (mv, .inl (cZ, 144, .inl sn))] _ := hP
              have hD : va_D A [(mp, .inr (4, [.int tw, .int (nI C), .int (nI R), .int (nI F), .int gn, .int (nI n), .int (nI b), .ref mf, .ref ms, .ref mi, .ref mm, .ref mk, .ref mq, .ref mn, .ref mu, .ref mv])), (mf, .inl (cI, 6, .inl frA)), (ms, .inl (cI, 6, .inl stA)), (mi, .inl (cI, 12, .inl fz)), (mm, .inl (cI, 144, .inl ml)), (mk, .inl (cI, 12, .inl kp)), (mq, .inl (cI, 144, .inl km)), (mn, .inl (cI, 12, .inl (upd (sfill (wdn fz g k) nx R) k (wdv fz (wdn fz g k) k)))), (mu, .inl (cI, 4, .inl sm)), (mv, .inl (cZ, 144, .inl sn))] := hD
              obtain ⟨hP, hD⟩ := f_rep (g := sfill (wdn fz g (k + 1)) nx R) hP hD 7 rfl (fun j _ => sfill_wdn (by omega) j)
              have hP : va_P D vwCl [(mp, .inr (4, [.int tw, .int (nI C), .int (nI R), .int (nI F), .int gn, .int (nI n), .int (nI b), .ref mf, .ref ms, .ref mi, .ref mm, .ref mk, .ref mq, .ref mn, .ref mu, .ref mv])), (mf, .inl (cI, 6, .inl frA)), (ms, .inl (cI, 6, .inl stA)), (mi, .inl (cI, 12, .inl fz)), (mm, .inl (cI, 144, .inl ml)), (mk, .inl (cI, 12, .inl kp)), (mq, .inl (cI, 144, .inl km)), (mn, .inl (cI, 12, .inl (sfill (wdn fz g (k + 1)) nx R))), (mu, .inl (cI, 4, .inl sm)), (mv, .inl (cZ, 144, .inl sn))] _ := hP
              have hD : va_D A [(mp, .inr (4, [.int tw, .int (nI C), .int (nI R), .int (nI F), .int gn, .int (nI n), .int (nI b), .ref mf, .ref ms, .ref mi, .ref mm, .ref mk, .ref mq, .ref mn, .ref mu, .ref mv])), (mf, .inl (cI, 6, .inl frA)), (ms, .inl (cI, 6, .inl stA)), (mi, .inl (cI, 12, .inl fz)), (mm, .inl (cI, 144, .inl ml)), (mk, .inl (cI, 12, .inl kp)), (mq, .inl (cI, 144, .inl km)), (mn, .inl (cI, 12, .inl (sfill (wdn fz g (k + 1)) nx R))), (mu, .inl (cI, 4, .inl sm)), (mv, .inl (cZ, 144, .inl sn))] := hD
              refine lv_iinc (v := nI (k + 1)) (lv' := [(4, .int (nI (k + 1))), (3, .int (wdc fz g (k + 1))), (5, .int (wdv fz (wdn fz g k) k)), (0, .ref mp), (1, .int (nI c)), (2, .int (nI r))]) hx hb dX4_spread_175 hl (k := 2) rfl (nI_1 _) (by decide) rfl (fun ls hl => ?_)
              refine lv_goto (tgt := 52) hx hb dX4_spread_178 (by decide) ?_
              exact ih_10 (k + 1) (by omega) (by first | omega | (simp only []; omega) | (show _ < _; simp only []; omega)) H locs hP hD hS ls (lv_sub hl [0, 1, 3, 4, 5] rfl)
            refine lv_iload_n hx hb dX4_spread_146 rfl (lv_at hl 2 rfl) ?_
            refine lv_iload hx hb dX4_spread_147 (lv_at hl 0 rfl) ?_
            refine lv_aload_n hx hb dX4_spread_149 rfl (lv_at hl 3 rfl) ?_
            refine va_get (D := D) (ci := 4) (v := .ref mn) (C := RX4) (T := TX4) (N := 16) hx hb hts wb_X4_spread_4 hown hK hP 0 rfl rfl 13 (by decide) (hts _ wi_X4_spread_2) (fun _ h9 => h9) rfl dX4_spread_150 ?_
            refine lv_iload hx hb dX4_spread_153 (lv_at hl 1 rfl) ?_
            refine f_iald (k := k) hx hb hK hP 7 0 rfl rfl rfl (by omega) (by first | decide | omega) dX4_spread_155 ?_
            refine f_topi (y := wdn fz g k k) (sfill_lt (by omega)) ?_
            refine lv_icmp_eq (tgt := 163) hx hb dX4_spread_156 (by decide) (fun c_17 => ?_) (fun c_17 => ?_)
            · refine lv_iconst (v := 0) hx hb dX4_spread_163 (by decide) ?_
              refine f_topi (y := if (wdv fz (wdn fz g k) k) = (wdn fz g k k) then (0 : Int32) else 1) (by rw [if_pos c_17]) ?_
              exact j_16 ls (lv_sub hl [0, 1, 2, 3, 4, 5] rfl)
            · refine lv_iconst (v := 1) hx hb dX4_spread_159 (by decide) ?_
              refine lv_goto (tgt := 164) hx hb dX4_spread_160 (by decide) ?_
              refine f_topi (y := if (wdv fz (wdn fz g k) k) = (wdn fz g k k) then (0 : Int32) else 1) (by rw [if_neg c_17]) ?_
              exact j_16 ls (lv_sub hl [0, 1, 2, 3, 4, 5] rfl)
          refine lv_iload hx hb dX4_spread_107 (lv_at hl 0 rfl) ?_
          refine lv_iconst (v := 1) hx hb dX4_spread_109 (by decide) ?_
          refine lv_iadd hx hb dX4_spread_110 ?_
          refine f_topi (y := nI (k + 1)) (nI_add k 1) ?_
          refine lv_aload_n hx hb dX4_spread_111 rfl (lv_at hl 2 rfl) ?_
          refine va_get (D := D) (ci := 4) (v := .int (nI R)) (C := RX4) (T := TX4) (N := 16) hx hb hts wb_X4_spread_4 hown hK hP 0 rfl rfl 2 (by decide) (hts _ wi_X4_spread_1) (fun _ h9 => h9) rfl dX4_spread_112 ?_
          refine lv_icmp_ge (tgt := 130) hx hb dX4_spread_115 (by decide) (fun c_18 => ?_) (fun c_18 => ?_)
          · refine lv_iconst (v := 0) hx hb dX4_spread_130 (by decide) ?_
            refine f_topi (y := if (nI R) ≤ (nI (k + 1)) then (0 : Int32) else wdn fz g k (k + 1)) (by rw [if_pos c_18]) ?_
            exact j_15 ls (lv_sub hl [0, 1, 2, 3, 4] rfl)
          · refine lv_aload_n hx hb dX4_spread_118 rfl (lv_at hl 2 rfl) ?_
            refine va_get (D := D) (ci := 4) (v := .ref mn) (C := RX4) (T := TX4) (N := 16) hx hb hts wb_X4_spread_4 hown hK hP 0 rfl rfl 13 (by decide) (hts _ wi_X4_spread_2) (fun _ h9 => h9) rfl dX4_spread_119 ?_
            refine lv_iload hx hb dX4_spread_122 (lv_at hl 0 rfl) ?_
            refine lv_iconst (v := 1) hx hb dX4_spread_124 (by decide) ?_
            refine lv_iadd hx hb dX4_spread_125 ?_
            refine f_topi (y := nI (k + 1)) (nI_add k 1) ?_
            refine f_iald (k := (k + 1)) hx hb hK hP 7 0 rfl rfl rfl (by have h9 := Nat.lt_of_not_le (fun h => c_18 ((nI_leI (a := R) (b := k + 1) (by omega) (by omega)).mpr h)); omega) (by first | decide | omega) dX4_spread_126 ?_
            refine f_topi (y := wdn fz g k (k + 1)) (sfill_lt (Nat.lt_of_not_le (fun h => c_18 ((nI_leI (a := R) (b := k + 1) (by omega) (by omega)).mpr h)))) ?_
            refine lv_goto (tgt := 131) hx hb dX4_spread_127 (by decide) ?_
            refine f_topi (y := if (nI R) ≤ (nI (k + 1)) then (0 : Int32) else wdn fz g k (k + 1)) (by rw [if_neg c_18]) ?_
            exact j_15 ls (lv_sub hl [0, 1, 2, 3, 4] rfl)
        refine lv_iload hx hb dX4_spread_88 (lv_at hl 0 rfl) ?_
        refine lv_if_le (tgt := 105) hx hb dX4_spread_90 (by decide) (fun c_19 => ?_) (fun c_19 => ?_)
        · refine lv_iconst (v := 0) hx hb dX4_spread_105 (by decide) ?_
          refine f_topi (y := if (nI k) ≤ 0 then (0 : Int32) else wdn fz g k (k - 1)) (by rw [if_pos c_19]) ?_
          exact j_14 ls (lv_sub hl [0, 1, 2, 3, 4] rfl)
        · refine lv_aload_n hx hb dX4_spread_93 rfl (lv_at hl 2 rfl) ?_
          refine va_get (D := D) (ci := 4) (v := .ref mn) (C := RX4) (T := TX4) (N := 16) hx hb hts wb_X4_spread_4 hown hK hP 0 rfl rfl 13 (by decide) (hts _ wi_X4_spread_2) (fun _ h9 => h9) rfl dX4_spread_94 ?_
          refine lv_iload hx hb dX4_spread_97 (lv_at hl 0 rfl) ?_
          refine lv_iconst (v := 1) hx hb dX4_spread_99 (by decide) ?_
          refine lv_isub hx hb dX4_spread_100 ?_
          refine f_topi (y := nI (k - 1)) (pk_sub (show 1 ≤ k from Nat.lt_of_not_le fun h => c_19 ((nI_leI (a := k) (b := 0) (by omega) (by omega)).mpr h))) ?_
          refine f_iald (k := (k - 1)) hx hb hK hP 7 0 rfl rfl rfl (by omega) (by first | decide | omega) dX4_spread_101 ?_
          refine f_topi (y := wdn fz g k (k - 1)) (sfill_lt (by omega)) ?_
          refine lv_goto (tgt := 106) hx hb dX4_spread_102 (by decide) ?_
          refine f_topi (y := if (nI k) ≤ 0 then (0 : Int32) else wdn fz g k (k - 1)) (by rw [if_neg c_19]) ?_
          exact j_14 ls (lv_sub hl [0, 1, 2, 3, 4] rfl)
  · have n_3 : k < R := Nat.lt_of_not_le (fun h => c_3 ((nI_leI (a := R) (b := k) (by omega) (by omega)).mpr h))
    refine lv_aload_n hx hb dX4_spread_10 rfl (lv_at hl 1 rfl) ?_
    refine va_get (D := D) (ci := 4) (v := .ref mn) (C := RX4) (T := TX4) (N := 16) hx hb hts wb_X4_spread_4 hown hK hP 0 rfl rfl 13 (by decide) (hts _ wi_X4_spread_2) (fun _ h9 => h9) rfl dX4_spread_11 ?_
    refine lv_iload_n hx hb dX4_spread_14 rfl (lv_at hl 0 rfl) ?_
    refine lv_iload_n hx hb dX4_spread_15 rfl (lv_at hl 0 rfl) ?_
    refine lv_iload_n hx hb dX4_spread_16 rfl (lv_at hl 3 rfl) ?_
    refine f_joinW (nL := 6) 34 [(3, .int (nI k)), (0, .ref mp), (1, .int (nI c)), (2, .int (nI r))] [.int (if (nI k) = (nI r) then ((1 : Int32) <<< ((nI c) &&& 31)) &&& (fz k) else 0), .int (nI k), .ref mn] (fun ls hl => ?_) (fun j_20 => ?_)
    · refine f_iast (k := k) hx hb hK hP hD hS 7 0 rfl rfl rfl (by omega) (by first | decide | omega) dX4_spread_34 (fun H locs hP hD hS => ?_)
      have hP : va_P D vwCl [(mp, .inr (4, [.int tw, .int (nI C), .int (nI R), .int (nI F), .int gn, .int (nI n), .int (nI b), .ref mf, .ref ms, .ref mi, .ref mm, .ref mk, .ref mq, .ref mn, .ref mu, .ref mv])), (mf, .inl (cI, 6, .inl frA)), (ms, .inl (cI, 6, .inl stA)), (mi, .inl (cI, 12, .inl fz)), (mm, .inl (cI, 144, .inl ml)), (mk, .inl (cI, 12, .inl kp)), (mq, .inl (cI, 144, .inl km)), (mn, .inl (cI, 12, .inl (upd (sfill (sp0 fz c r) nx k) k (if (nI k) = (nI r) then ((1 : Int32) <<< ((nI c) &&& 31)) &&& (fz k) else 0)))), (mu, .inl (cI, 4, .inl sm)), (mv, .inl (cZ, 144, .inl sn))] _ := hP
      have hD : va_D A [(mp, .inr (4, [.int tw, .int (nI C), .int (nI R), .int (nI F), .int gn, .int (nI n), .int (nI b), .ref mf, .ref ms, .ref mi, .ref mm, .ref mk, .ref mq, .ref mn, .ref mu, .ref mv])), (mf, .inl (cI, 6, .inl frA)), (ms, .inl (cI, 6, .inl stA)), (mi, .inl (cI, 12, .inl fz)), (mm, .inl (cI, 144, .inl ml)), (mk, .inl (cI, 12, .inl kp)), (mq, .inl (cI, 144, .inl km)), (mn, .inl (cI, 12, .inl (upd (sfill (sp0 fz c r) nx k) k (if (nI k) = (nI r) then ((1 : Int32) <<< ((nI c) &&& 31)) &&& (fz k) else 0)))), (mu, .inl (cI, 4, .inl sm)), (mv, .inl (cZ, 144, .inl sn))] := hD
      obtain ⟨hP, hD⟩ := f_rep (g := sfill (sp0 fz c r) nx (k + 1)) hP hD 7 rfl (fun j _ => sfill_up (sp0_eq fz c r k) j)
      have hP : va_P D vwCl [(mp, .inr (4, [.int tw, .int (nI C), .int (nI R), .int (nI F), .int gn, .int (nI n), .int (nI b), .ref mf, .ref ms, .ref mi, .ref mm, .ref mk, .ref mq, .ref mn, .ref mu, .ref mv])), (mf, .inl (cI, 6, .inl frA)), (ms, .inl (cI, 6, .inl stA)), (mi, .inl (cI, 12, .inl fz)), (mm, .inl (cI, 144, .inl ml)), (mk, .inl (cI, 12, .inl kp)), (mq, .inl (cI, 144, .inl km)), (mn, .inl (cI, 12, .inl (sfill (sp0 fz c r) nx (k + 1)))), (mu, .inl (cI, 4, .inl sm)), (mv, .inl (cZ, 144, .inl sn))] _ := hP
      have hD : va_D A [(mp, .inr (4, [.int tw, .int (nI C), .int (nI R), .int (nI F), .int gn, .int (nI n), .int (nI b), .ref mf, .ref ms, .ref mi, .ref mm, .ref mk, .ref mq, .ref mn, .ref mu, .ref mv])), (mf, .inl (cI, 6, .inl frA)), (ms, .inl (cI, 6, .inl stA)), (mi, .inl (cI, 12, .inl fz)), (mm, .inl (cI, 144, .inl ml)), (mk, .inl (cI, 12, .inl kp)), (mq, .inl (cI, 144, .inl km)), (mn, .inl (cI, 12, .inl (sfill (sp0 fz c r) nx (k + 1)))), (mu, .inl (cI, 4, .inl sm)), (mv, .inl (cZ, 144, .inl sn))] := hD
      refine lv_iinc (v := nI (k + 1)) (lv' := [(3, .int (nI (k + 1))), (0, .ref mp), (1, .int (nI c)), (2, .int (nI r))]) hx hb dX4_spread_35 hl (k := 0) rfl (nI_1 _) (by decide) rfl (fun ls hl => ?_)
      refine lv_goto (tgt := 2) hx hb dX4_spread_38 (by decide) ?_
      exact ih_1 (k + 1) (by omega) (by first | omega | (simp only []; omega) | (show _ < _; simp only []; omega)) H locs hP hD hS ls (lv_sub hl [0, 1, 2, 3] rfl)
    refine lv_icmp_ne (tgt := 33) hx hb dX4_spread_17 (by decide) (fun c_21 => ?_) (fun c_21 => ?_)
    · refine lv_iconst (v := 0) hx hb dX4_spread_33 (by decide) ?_
      refine f_topi (y := if (nI k) = (nI r) then ((1 : Int32) <<< ((nI c) &&& 31)) &&& (fz k) else 0) (by rw [if_neg c_21]) ?_
      exact j_20 ls (lv_sub hl [0, 1, 2, 3] rfl)
    · refine lv_iconst (v := 1) hx hb dX4_spread_20 (by decide) ?_
      refine lv_iload_n hx hb dX4_spread_21 rfl (lv_at hl 2 rfl) ?_
      refine lv_ishl hx hb dX4_spread_22 ?_
      refine lv_aload_n hx hb dX4_spread_23 rfl (lv_at hl 1 rfl) ?_
      refine va_get (D := D) (ci := 4) (v := .ref mi) (C := RX4) (T := TX4) (N := 16) hx hb hts wb_X4_spread_4 hown hK hP 0 rfl rfl 9 (by decide) (hts _ wi_X4_spread_3) (fun _ h9 => h9) rfl dX4_spread_24 ?_
      refine lv_iload_n hx hb dX4_spread_27 rfl (lv_at hl 0 rfl) ?_
      refine f_iald (k := k) hx hb hK hP 3 0 rfl rfl rfl (by omega) (by first | decide | omega) dX4_spread_28 ?_
      refine lv_iand hx hb dX4_spread_29 ?_
      refine lv_goto (tgt := 34) hx hb dX4_spread_30 (by decide) ?_
      refine f_topi (y := if (nI k) = (nI r) then ((1 : Int32) <<< ((nI c) &&& 31)) &&& (fz k) else 0) (by rw [if_pos c_21]) ?_
      exact j_20 ls (lv_sub hl [0, 1, 2, 3] rfl)

theorem hf_bt (fz : Nat → Int32) {q a : Nat} (hq : q < 12) (ha : a < 12) : sp_X1_hasFrost fz (nI q) (nI a) = 0 ↔ bt (fz a) q = false := by
  unfold sp_X1_hasFrost
  rw [sp_bits_in ha, b_at _ (by omega)]
  cases bt (fz a) q <;> decide
theorem bc_tab : ∀ a, a < 64 → ∀ b, b < 64 → bc (nI (64 * a + b)) = 0 → a = 0 ∧ b = 0 := by decide +kernel
theorem inC_nI {x : Int32} (h : inC 12 x) : ∃ k : Nat, k < 4096 ∧ x = nI k := by
  refine ⟨x.toBitVec.toNat, Nat.lt_pow_two_of_testBit (n := 12) _ (fun i hi => h i hi), ?_⟩
  apply Int32.toBitVec_inj.mp
  show x.toBitVec = BitVec.ofNat 32 _
  rw [BitVec.ofNat_toNat, BitVec.setWidth_eq]
theorem bc_pos {x : Int32} (h : inC 12 x) (h0 : bc x = 0) : x = 0 := by
  obtain ⟨k, hk, rfl⟩ := inC_nI h
  have e : k = 64 * (k / 64) + k % 64 := by omega
  rw [e] at h0 ⊢
  obtain ⟨h1, h2⟩ := bc_tab _ (by omega) _ (by omega) h0
  rw [h1, h2]; rfl
theorem tac_n {F : Nat → Int32} (hF : inR F) : ∀ k, k ≤ 12 → ∃ m : Nat, m ≤ 63 * k ∧ tac F k = nI m ∧ (m = 0 → ∀ j, j < k → F j = 0)
  | 0, _ => ⟨0, by omega, rfl, fun _ j h => absurd h (Nat.not_lt_zero _)⟩
  | k + 1, hk => by
    obtain ⟨m, h1, h2, h3⟩ := tac_n hF k (by omega)
    obtain ⟨p, h4, h5⟩ := bc_le (F k)
    refine ⟨m + p, by omega, by rw [tac, h2, h5, nI_add], fun z => lt_s (p := fun j => F j = 0) (h3 (by omega)) (bc_pos (hF k (by omega)) (by rw [h5, show p = 0 by omega]; rfl))⟩
theorem tac_pos {F : Nat → Int32} (hF : inR F) {c r : Nat} (hr : r < 12) (h : bt (F r) c = true) : ¬ tac F 12 ≤ 0 := by
  obtain ⟨m, h1, h2, h3⟩ := tac_n hF 12 (Nat.le_refl _)
  intro z
  rw [h2] at z
  have := (nI_leI (a := m) (b := 0) (by omega) (by omega)).mp z
  rw [h3 (by omega) r hr, b_0] at h
  cases h
theorem pkr_nn {lf : Nat → Int32} (hL : inR lf) {c r : Nat} (hs : Sub (pkF lf c r) lf) : ¬ pkr lf c r < 0 := by
  unfold pkr
  split
  · decide
  · obtain ⟨m, h1, h2, _⟩ := tac_n (inR_Sub hL hs) 12 (Nat.le_refl _)
    rw [h2]
    exact fun z => absurd ((nI_ltI (a := m) (b := 0) (by omega) (by omega)).mp z) (Nat.not_lt_zero _)
/-! the reference's marks -/
def SV (C R : Nat) (fz lf s : Nat → Int32) : Prop := ∀ r c, r < R → c < C → bt (fz r) c = true → (s (12 * r + c) = 0 ↔ bt (lf r) c = true)
def FI (C R : Nat) (fz lf s : Nat → Int32) : Prop := Sub lf fz ∧ Clo lf fz ∧ SV C R fz lf s
theorem FI_0 {C R : Nat} {fz : Nat → Int32} : FI C R fz fz (fun _ => 0) := ⟨Sub_self, Clo_self, fun _ _ _ _ h => ⟨fun _ => h, fun _ => rfl⟩⟩
def MK (C : Nat) (F s : Nat → Int32) (a e : Nat) (t : Nat → Int32) : Prop := ∀ r c, c < C → t (12 * r + c) = if (r < a ∨ r = a ∧ c < e) ∧ bt (F r) c = true then 1 else s (12 * r + c)
theorem MK_0 {C : Nat} {F s : Nat → Int32} : MK C F s 0 0 s := fun r c _ => by rw [if_neg (by omega)]
theorem MK_row {C a v : Nat} {F s t : Nat → Int32} (hv : v = C) (h : MK C F s a v t) : MK C F s (a + 1) 0 t := fun r c hc => by
  rw [h r c hc]
  by_cases e : r < a ∨ r = a ∧ c < v
  · simp only [e, true_and, show (r < a + 1 ∨ r = a + 1 ∧ c < 0) = True from eq_true (by omega)]
  · rw [if_neg (fun z => e z.1), if_neg (fun z => e (by omega))]
theorem MK_no {C a v : Nat} {F s t : Nat → Int32} (hv : v < C) (hC : C ≤ 12) (h : MK C F s a v t) (h1 : ¬ ((F a >>> (nI v &&& 31)) &&& 1) = 1) : MK C F s a (v + 1) t := fun r c hc => by
  have hb : bt (F a) v = false := by
    rw [b_at _ (by omega)] at h1
    cases z : bt (F a) v with
    | false => rfl
    | true => rw [z] at h1; exact absurd (by decide) h1
  rw [h r c hc]
  by_cases e : r = a ∧ c = v
  · obtain ⟨rfl, rfl⟩ := e
    rw [if_neg (fun z => by rw [hb] at z; cases z.2), if_neg (fun z => by rw [hb] at z; cases z.2)]
  · by_cases e2 : r < a ∨ r = a ∧ c < v
    · simp only [e2, true_and, show (r < a ∨ r = a ∧ c < v + 1) = True from eq_true (by omega)]
    · rw [if_neg (fun z => e2 z.1), if_neg (fun z => e2 (by omega))]
theorem MK_yes {C a v : Nat} {F s t : Nat → Int32} (hv : v < C) (hC : C ≤ 12) (h : MK C F s a v t) (h1 : ((F a >>> (nI v &&& 31)) &&& 1) = 1) : MK C F s a (v + 1) (upd t (12 * a + v) (vp_nar .boolean 1)) := fun r c hc => by
  have hb : bt (F a) v = true := by
    rw [b_at _ (by omega)] at h1
    cases z : bt (F a) v with
    | true => rfl
    | false => rw [z] at h1; exact absurd h1 (by decide)
  by_cases e : r = a ∧ c = v
  · obtain ⟨rfl, rfl⟩ := e
    rw [pk_us, if_pos ⟨by omega, hb⟩]; rfl
  · rw [pk_un (by omega), h r c hc]
    by_cases e2 : r < a ∨ r = a ∧ c < v
    · simp only [e2, true_and, show (r < a ∨ r = a ∧ c < v + 1) = True from eq_true (by omega)]
    · rw [if_neg (fun z => e2 z.1), if_neg (fun z => e2 (by omega))]
theorem fl_miss {C R : Nat} {fz lf s : Nat → Int32} (hF : inR fz) (hC : C ≤ 12) (hR : R ≤ 12) (hI : FI C R fz lf s) {k q : Nat} (hk : k < R) (hq : q < C) (h : sp_X1_hasFrost fz (nI q) (nI k) = 0 ∨ ¬ s (12 * k + q) = 0) : pkr lf q k = 0 ∧ pkl lf q k = lf := by
  have hb : bt (lf k) q = false := by
    cases z : bt (lf k) q with
    | false => rfl
    | true =>
      have hz := hI.1 k (by omega) q z
      rcases h with h | h
      · rw [(hf_bt fz (by omega) (by omega)).mp h] at hz; cases hz
      · exact absurd ((hI.2.2 k q hk hq hz).mpr z) h
  unfold pkr pkl
  rw [if_pos ((bit_0 _ (by omega)).mpr hb), if_pos ((bit_0 _ (by omega)).mpr hb)]
  exact ⟨rfl, rfl⟩
theorem fl_hit {C R : Nat} {fz lf s : Nat → Int32} (hF : inR fz) (hC : C ≤ 12) (hR : R ≤ 12) (hI : FI C R fz lf s) {k q : Nat} (hk : k < R) (hq : q < C) (h : ¬ sp_X1_hasFrost fz (nI q) (nI k) = 0) (h2 : s (12 * k + q) = 0) :
    tac (spF fz q k) 12 = pkr lf q k ∧ (¬ pkr lf q k ≤ 0) ∧ ∀ t, MK C (spF fz q k) s R 0 t → FI C R fz (pkl lf q k) t := by
  have hz : bt (fz k) q = true := by
    cases z : bt (fz k) q with
    | true => rfl
    | false => exact absurd ((hf_bt fz (by omega) (by omega)).mpr z) h
  have hb := (hI.2.2 k q hk hq hz).mp h2
  have hL := inR_Sub hF hI.1
  have hp := Sub_pk1 (r := k) (show q < 12 by omega) hb
  have e : spF fz q k = pkF lf q k := by
    rw [spF_on hF (by omega) (by omega) hz]
    exact (pkg_same hF hI.1 hI.2.1 144 _ hp).symm
  have h0 := sz_pk1 (show q < 12 by omega) (show k < 12 by omega)
  obtain ⟨g1, g2, g3⟩ := pkg_ok hL 144 _ hp (by omega)
  have hn : ¬ ((lf k >>> (nI q &&& 31)) &&& 1) = 0 := fun z => by rw [(bit_0 _ (by omega)).mp z] at hb; cases hb
  have e1 : pkr lf q k = tac (pkF lf q k) 12 := by unfold pkr; rw [if_neg hn]
  have e2 : pkl lf q k = taL lf (pkF lf q k) := by unfold pkl; rw [if_neg hn]
  have hon : bt (pkF lf q k k) q = true := g3 k (by omega) q (by rw [bt_pk1 (by omega) (by omega)]; simp)
  refine ⟨by rw [e, e1], ?_, fun t ht => ?_⟩
  · rw [e1]; exact tac_pos (inR_Sub hL g1) (show k < 12 by omega) hon
  · rw [e2]
    rw [e] at ht
    refine ⟨Sub_tr Sub_taL hI.1, Clo_taL hF hI.1 hI.2.1 g1 g2, fun r c hr hc hfz => ?_⟩
    rw [ht r c hc, b_taL _ _ _ (by omega)]
    cases z : bt (pkF lf q k r) c with
    | true => rw [if_pos ⟨Or.inl hr, rfl⟩]; simp
    | false => rw [if_neg (fun w => by cases w.2)]; simpa using hI.2.2 r c hr hc hfz
theorem rwM_nn {fz : Nat → Int32} {r : Nat} {lf : Nat → Int32} {c0 : Int32} (h0 : ¬ c0 < 0) : ∀ q, ¬ rwM r lf c0 q < 0
  | 0 => h0
  | q + 1 => by
    rw [rwM]
    split
    · rename_i h
      have h2 := rwM_nn (fz := fz) (lf := lf) (r := r) h0 q
      rw [Int32.lt_iff_toInt_lt] at h h2 ⊢
      omega
    · exact rwM_nn (fz := fz) h0 q
theorem alM_nn {C : Nat} {lf : Nat → Int32} : ∀ k, ¬ alM C lf k < 0
  | 0 => by show ¬ (0 : Int32) < 0; decide
  | k + 1 => by rw [alM]; exact rwM_nn (fz := lf) (alM_nn k) C
theorem rwC_miss {r q : Nat} {lf : Nat → Int32} {c0 : Int32} (h : pkr (rwL r lf q) q r = 0) : rwC r lf c0 (q + 1) = rwC r lf c0 q := by
  rw [rwC, h, if_pos (by decide)]
theorem rwM_miss {r q : Nat} {lf : Nat → Int32} {c0 : Int32} (h0 : ¬ c0 < 0) (h : pkr (rwL r lf q) q r = 0) : rwM r lf c0 (q + 1) = rwM r lf c0 q := by
  rw [rwM, h, if_neg (rwM_nn (fz := lf) h0 q)]
theorem MK_R {C R e : Nat} {F s t : Nat → Int32} (he : e = R) (h : MK C F s e 0 t) : MK C F s R 0 t := he ▸ h
theorem k_X4_flowers : yX4_flowers.cls = RX4 ∧ yX4_flowers.cls ≠ "java/lang/invoke/MethodHandle" ∧ yX4_flowers.cls ≠ "java/lang/invoke/VarHandle" ∧ (parseMethodDescriptor yX4_flowers.desc).map (fun d => d.parameters.length) = some 1 := by decide +kernel
theorem wb_X4_flowers_4 : ∀ w ∈ wsX40, w ∈ wsX4_flowers := (fun _ h => List.mem_cons_of_mem _ (List.mem_append_right _ h))
theorem wi_X4_flowers_2 : (Cond.fieldLink RX4 13 "FrostPaneModel" "rows" "I") ∈ wsX4_flowers := List.mem_of_getElem? (i := 2) rfl
theorem wi_X4_flowers_3 : (Cond.fieldLink RX4 7 "FrostPaneModel" "columns" "I") ∈ wsX4_flowers := List.mem_of_getElem? (i := 3) rfl
theorem wi_X4_flowers_1 : (Cond.fieldLink RX4 47 "FrostPaneModel" "isSeen" "[Z") ∈ wsX4_flowers := List.mem_of_getElem? (i := 1) rfl
theorem wi_X4_flowers_4 : (Cond.methodLink RX4 92 Lib.Math.max.name) ∈ wsX4_flowers := List.mem_of_getElem? (i := 4) rfl
theorem wi_X4_flowers_5 : (Cond.static Lib.Math.max.name) ∈ wsX4_flowers := List.mem_of_getElem? (i := 5) rfl
theorem wi_X4_flowers_6 : (Cond.initialized "java/lang/Math") ∈ wsX4_flowers := List.mem_of_getElem? (i := 6) rfl
theorem wi_X4_flowers_7 : (Cond.code Lib.Math.max.name Lib.Math.max.code 2 (some .int)) ∈ wsX4_flowers := List.mem_of_getElem? (i := 7) rfl
theorem wi_X4_flowers_8 : (Cond.fieldLink RX4 41 "FrostPaneModel" "next" "[I") ∈ wsX4_flowers := List.mem_of_getElem? (i := 8) rfl
set_option maxHeartbeats 4000000 in
set_option maxRecDepth 100000 in
theorem c_X4_flowers (l : Launch) (D : va_G) (cI cZ cJ : ClassId) (sz : Nat) (mp mf ms mi mm mk mq mn mu mv C R F n b : Nat) (tw gn : Int32) (fz ml frA stA kp km nx sm sn : Nat → Int32) (hC3 : 3 ≤ C) (hC : C ≤ 12) (hR3 : 3 ≤ R) (hR : R ≤ 12) (hF : F ≤ 2) (hn : n ≤ 6) (hb0 : b < n) (hI : IV C R fz) : f_Ji l yX4_flowers wsX4_flowers ({ frames := 2, cells := 0, slots := 0, locals := 45 }) D (fTY cI cZ cJ) [.ref mp, .int 0] sz [(mp, .inr (4, [.int tw, .int (nI C), .int (nI R), .int (nI F), .int gn, .int (nI n), .int (nI b), .ref mf, .ref ms, .ref mi, .ref mm, .ref mk, .ref mq, .ref mn, .ref mu, .ref mv])), (mf, .inl (cI, 6, .inl frA)), (ms, .inl (cI, 6, .inl stA)), (mi, .inl (cI, 12, .inl fz)), (mm, .inl (cI, 144, .inl ml)), (mk, .inl (cI, 12, .inl kp)), (mq, .inl (cI, 144, .inl km)), (mn, .inl (cI, 12, .inl nx)), (mu, .inl (cI, 4, .inl sm)), (mv, .inl (cZ, 144, .inl sn))] (alC C fz R) (fun u9 : (Nat → Int32) × (Nat → Int32) => [(mp, .inr (4, [.int tw, .int (nI C), .int (nI R), .int (nI F), .int gn, .int (nI n), .int (nI b), .ref mf, .ref ms, .ref mi, .ref mm, .ref mk, .ref mq, .ref mn, .ref mu, .ref mv])), (mf, .inl (cI, 6, .inl frA)), (ms, .inl (cI, 6, .inl stA)), (mi, .inl (cI, 12, .inl fz)), (mm, .inl (cI, 144, .inl ml)), (mk, .inl (cI, 12, .inl kp)), (mq, .inl (cI, 144, .inl km)), (mn, .inl (cI, 12, .inl (u9.1))), (mu, .inl (cI, 4, .inl sm)), (mv, .inl (cZ, 144, .inl (u9.2)))]) := by
  refine f_entJ_i (by decide) rfl (Nat.le_of_ble_eq_true rfl) ?_
  intro pg ev s m below meth cd hx hb hr hts hown hlocks hml hnm hsz hP hK hN A hD hA hS ls hl
  have hown : s.vm.findClass RX4 = some m.cls := hown
  have hl : lv_has ls 8 [(0, .ref mp), (1, .int 0)] := hl
  obtain ⟨hP, hD⟩ := f_rep (g := sfill (fun _ => 0) sn 0) hP hD 9 rfl (fun j _ => sfill_0 _ _ j)
  have hP : va_P D vwCl [(mp, .inr (4, [.int tw, .int (nI C), .int (nI R), .int (nI F), .int gn, .int (nI n), .int (nI b), .ref mf, .ref ms, .ref mi, .ref mm, .ref mk, .ref mq, .ref mn, .ref mu, .ref mv])), (mf, .inl (cI, 6, .inl frA)), (ms, .inl (cI, 6, .inl stA)), (mi, .inl (cI, 12, .inl fz)), (mm, .inl (cI, 144, .inl ml)), (mk, .inl (cI, 12, .inl kp)), (mq, .inl (cI, 144, .inl km)), (mn, .inl (cI, 12, .inl nx)), (mu, .inl (cI, 4, .inl sm)), (mv, .inl (cZ, 144, .inl (sfill (fun _ => 0) sn 0)))] _ := hP
  have hD : va_D A [(mp, .inr (4, [.int tw, .int (nI C), .int (nI R), .int (nI F), .int gn, .int (nI n), .int (nI b), .ref mf, .ref ms, .ref mi, .ref mm, .ref mk, .ref mq, .ref mn, .ref mu, .ref mv])), (mf, .inl (cI, 6, .inl frA)), (ms, .inl (cI, 6, .inl stA)), (mi, .inl (cI, 12, .inl fz)), (mm, .inl (cI, 144, .inl ml)), (mk, .inl (cI, 12, .inl kp)), (mq, .inl (cI, 144, .inl km)), (mn, .inl (cI, 12, .inl nx)), (mu, .inl (cI, 4, .inl sm)), (mv, .inl (cZ, 144, .inl (sfill (fun _ => 0) sn 0)))] := hD
  refine lv_iconst (v := 0) hx hb dX4_flowers_0 (by decide) ?_
  refine lv_istore_n (lv' := [(2, .int 0), (0, .ref mp), (1, .int 0)]) hx hb dX4_flowers_1 rfl hl (by decide) rfl (fun ls hl => ?_)
  refine lv_iconst (v := 0) hx hb dX4_flowers_2 (by decide) ?_
  refine lv_istore_n (lv' := [(3, .int 0), (2, .int 0), (0, .ref mp), (1, .int 0)]) hx hb dX4_flowers_3 rfl hl (by decide) rfl (fun ls hl => ?_)
  refine lv_iconst (v := 0) hx hb dX4_flowers_4 (by decide) ?_
  refine lv_istore (lv' := [(4, .int 0), (3, .int 0), (2, .int 0), (0, .ref mp), (1, .int 0)]) hx hb dX4_flowers_5 hl (by decide) rfl (fun ls hl => ?_)
  refine f_loopW (σ := Nat) (D := D) (A := A) (H0 := s.heap) 8 7 (fun u9 => [(4, .int (nI u9)), (3, .int 0), (2, .int 0), (0, .ref mp), (1, .int 0)]) (fun u9 => [(mp, .inr (4, [.int tw, .int (nI C), .int (nI R), .int (nI F), .int gn, .int (nI n), .int (nI b), .ref mf, .ref ms, .ref mi, .ref mm, .ref mk, .ref mq, .ref mn, .ref mu, .ref mv])), (mf, .inl (cI, 6, .inl frA)), (ms, .inl (cI, 6, .inl stA)), (mi, .inl (cI, 12, .inl fz)), (mm, .inl (cI, 144, .inl ml)), (mk, .inl (cI, 12, .inl kp)), (mq, .inl (cI, 144, .inl km)), (mn, .inl (cI, 12, .inl nx)), (mu, .inl (cI, 4, .inl sm)), (mv, .inl (cZ, 144, .inl (sfill (fun _ => 0) sn u9)))]) (fun u9 => u9 ≤ 144) (fun u9 => 144 - u9)
      (fun u9 hi_2 ih_1 H locs hP hD hS ls hl => ?_) 0 (by omega) hP hD hS (lv_sub hl [0, 1, 2, 3, 4] rfl)
  obtain ⟨k, rfl⟩ : ∃ z, z = u9 := ⟨_, rfl⟩
  have hi_2 : k ≤ 144 := hi_2
  obtain hk := hi_2
  have hl : lv_has ls 8 [(4, .int (nI k)), (3, .int 0), (2, .int 0), (0, .ref mp), (1, .int 0)] := hl
  have hP : va_P D vwCl [(mp, .inr (4, [.int tw, .int (nI C), .int (nI R), .int (nI F), .int gn, .int (nI n), .int (nI b), .ref mf, .ref ms, .ref mi, .ref mm, .ref mk, .ref mq, .ref mn, .ref mu, .ref mv])), (mf, .inl (cI, 6, .inl frA)), (ms, .inl (cI, 6, .inl stA)), (mi, .inl (cI, 12, .inl fz)), (mm, .inl (cI, 144, .inl ml)), (mk, .inl (cI, 12, .inl kp)), (mq, .inl (cI, 144, .inl km)), (mn, .inl (cI, 12, .inl nx)), (mu, .inl (cI, 4, .inl sm)), (mv, .inl (cZ, 144, .inl (sfill (fun _ => 0) sn k)))] _ := hP
  have hD : va_D A [(mp, .inr (4, [.int tw, .int (nI C), .int (nI R), .int (nI F), .int gn, .int (nI n), .int (nI b), .ref mf, .ref ms, .ref mi, .ref mm, .ref mk, .ref mq, .ref mn, .ref mu, .ref mv])), (mf, .inl (cI, 6, .inl frA)), (ms, .inl (cI, 6, .inl stA)), (mi, .inl (cI, 12, .inl fz)), (mm, .inl (cI, 144, .inl ml)), (mk, .inl (cI, 12, .inl kp)), (mq, .inl (cI, 144, .inl km)), (mn, .inl (cI, 12, .inl nx)), (mu, .inl (cI, 4, .inl sm)), (mv, .inl (cZ, 144, .inl (sfill (fun _ => 0) sn k)))] := hD
  refine lv_iload hx hb dX4_flowers_7 (lv_at hl 0 rfl) ?_
  refine lv_sipush (v := 144) hx hb dX4_flowers_9 (by decide) ?_
  refine lv_icmp_ge (tgt := 29) hx hb dX4_flowers_12 (by decide) (fun c_3 => ?_) (fun c_3 => ?_)
  · have n_3 : 144 ≤ k := (nI_leI (a := 144) (b := k) (by omega) (by omega)).mp c_3
    obtain ⟨hP, hD⟩ := f_rep (g := fun _ => 0) hP hD 9 rfl (fun j hj => by rw [show k = 144 by omega, sfill_lt hj])
    have hP : va_P D vwCl [(mp, .inr (4, [.int tw, .int (nI C), .int (nI R), .int (nI F), .int gn, .int (nI n), .int (nI b), .ref mf, .ref ms, .ref mi, .ref mm, .ref mk, .ref mq, .ref mn, .ref mu, .ref mv])), (mf, .inl (cI, 6, .inl frA)), (ms, .inl (cI, 6, .inl stA)), (mi, .inl (cI, 12, .inl fz)), (mm, .inl (cI, 144, .inl ml)), (mk, .inl (cI, 12, .inl kp)), (mq, .inl (cI, 144, .inl km)), (mn, .inl (cI, 12, .inl nx)), (mu, .inl (cI, 4, .inl sm)), (mv, .inl (cZ, 144, .inl (fun _ => 0)))] _ := hP
    have hD : va_D A [(mp, .inr (4, [.int tw, .int (nI C), .int (nI R), .int (nI F), .int gn, .int (nI n), .int (nI b), .ref mf, .ref ms, .ref mi, .ref mm, .ref mk, .ref mq, .ref mn, .ref mu, .ref mv])), (mf, .inl (cI, 6, .inl frA)), (ms, .inl (cI, 6, .inl stA)), (mi, .inl (cI, 12, .inl fz)), (mm, .inl (cI, 144, .inl ml)), (mk, .inl (cI, 12, .inl kp)), (mq, .inl (cI, 144, .inl km)), (mn, .inl (cI, 12, .inl nx)), (mu, .inl (cI, 4, .inl sm)), (mv, .inl (cZ, 144, .inl (fun _ => 0)))] := hD
    refine lv_iconst (v := 0) hx hb dX4_flowers_29 (by decide) ?_
    refine lv_istore (lv' := [(4, .int 0), (3, .int 0), (2, .int 0), (0, .ref mp), (1, .int 0)]) hx hb dX4_flowers_30 hl (by decide) rfl (fun ls hl => ?_)
    refine f_loopW (σ := Nat × (Nat → Int32) × (Nat → Int32)) (D := D) (A := A) (H0 := s.heap) 8 32 (fun u9 => [(4, .int (nI (u9.1))), (3, .int (alM C fz (u9.1))), (2, .int (alC C fz (u9.1))), (0, .ref mp), (1, .int 0)]) (fun u9 => [(mp, .inr (4, [.int tw, .int (nI C), .int (nI R), .int (nI F), .int gn, .int (nI n), .int (nI b), .ref mf, .ref ms, .ref mi, .ref mm, .ref mk, .ref mq, .ref mn, .ref mu, .ref mv])), (mf, .inl (cI, 6, .inl frA)), (ms, .inl (cI, 6, .inl stA)), (mi, .inl (cI, 12, .inl fz)), (mm, .inl (cI, 144, .inl ml)), (mk, .inl (cI, 12, .inl kp)), (mq, .inl (cI, 144, .inl km)), (mn, .inl (cI, 12, .inl (u9.2.1))), (mu, .inl (cI, 4, .inl sm)), (mv, .inl (cZ, 144, .inl (u9.2.2)))]) (fun u9 => (u9.1) ≤ R ∧ FI C R fz (alL C fz (u9.1)) (u9.2.2)) (fun u9 => R - (u9.1))
        (fun u9 hi_5 ih_4 H locs hP hD hS ls hl => ?_) (0, nx, (fun _ => 0)) (⟨Nat.zero_le _, FI_0⟩) hP hD hS (lv_sub hl [0, 1, 2, 3, 4] rfl)
    obtain ⟨a, x3, s3⟩ := u9
    have hi_5 : a ≤ R ∧ FI C R fz (alL C fz a) s3 := hi_5
    obtain ⟨ha, haF⟩ := hi_5
    have hl : lv_has ls 8 [(4, .int (nI a)), (3, .int (alM C fz a)), (2, .int (alC C fz a)), (0, .ref mp), (1, .int 0)] := hl
    have hP : va_P D vwCl [(mp, .inr (4, [.int tw, .int (nI C), .int (nI R), .int (nI F), .int gn, .int (nI n), .int (nI b), .ref mf, .ref ms, .ref mi, .ref mm, .ref mk, .ref mq, .ref mn, .ref mu, .ref mv])), (mf, .inl (cI, 6, .inl frA)), (ms, .inl (cI, 6, .inl stA)), (mi, .inl (cI, 12, .inl fz)), (mm, .inl (cI, 144, .inl ml)), (mk, .inl (cI, 12, .inl kp)), (mq, .inl (cI, 144, .inl km)), (mn, .inl (cI, 12, .inl x3)), (mu, .inl (cI, 4, .inl sm)), (mv, .inl (cZ, 144, .inl s3))] _ := hP
    have hD : va_D A [(mp, .inr (4, [.int tw, .int (nI C), .int (nI R), .int (nI F), .int gn, .int (nI n), .int (nI b), .ref mf, .ref ms, .ref mi, .ref mm, .ref mk, .ref mq, .ref mn, .ref mu, .ref mv])), (mf, .inl (cI, 6, .inl frA)), (ms, .inl (cI, 6, .inl stA)), (mi, .inl (cI, 12, .inl fz)), (mm, .inl (cI, 144, .inl ml)), (mk, .inl (cI, 12, .inl kp)), (mq, .inl (cI, 144, .inl km)), (mn, .inl (cI, 12, .inl x3)), (mu, .inl (cI, 4, .inl sm)), (mv, .inl (cZ, 144, .inl s3))] := hD
    refine lv_iload hx hb dX4_flowers_32 (lv_at hl 0 rfl) ?_
    refine lv_aload_n hx hb dX4_flowers_34 rfl (lv_at hl 3 rfl) ?_
    refine va_get (D := D) (ci := 4) (v := .int (nI R)) (C := RX4) (T := TX4) (N := 16) hx hb hts wb_X4_flowers_4 hown hK hP 0 rfl rfl 2 (by decide) (hts _ wi_X4_flowers_2) (fun _ h9 => h9) rfl dX4_flowers_35 ?_
    refine lv_icmp_ge (tgt := 177) hx hb dX4_flowers_38 (by decide) (fun c_6 => ?_) (fun c_6 => ?_)
    · have n_6 : R ≤ a := (nI_leI (a := R) (b := a) (by omega) (by omega)).mp c_6
      refine lv_iload_n hx hb dX4_flowers_177 rfl (lv_at hl 4 rfl) ?_
      refine lv_if_eq (tgt := 185) hx hb dX4_flowers_178 (by decide) (fun c_7 => ?_) (fun c_7 => ?_)
      · refine lv_iload_n hx hb dX4_flowers_185 rfl (lv_at hl 2 rfl) ?_
        exact f_retJ_i (x3, s3) hx hb hr hlocks hP hD hS dX4_flowers_186 (by rw [show a = R by omega])
      · exact absurd c_7 (by decide)
    · have n_6 : a < R := Nat.lt_of_not_le (fun h => c_6 ((nI_leI (a := R) (b := a) (by omega) (by omega)).mpr h))
      refine lv_iconst (v := 0) hx hb dX4_flowers_41 (by decide) ?_
      refine lv_istore (lv' := [(5, .int 0), (4, .int (nI a)), (3, .int (alM C fz a)), (2, .int (alC C fz a)), (0, .ref mp), (1, .int 0)]) hx hb dX4_flowers_42 hl (by decide) rfl (fun ls hl => ?_)
      refine f_loopW (σ := Nat × (Nat → Int32) × (Nat → Int32)) (D := D) (A := A) (H0 := s.heap) 8 44 (fun u9 => [(5, .int (nI (u9.1))), (4, .int (nI a)), (3, .int (rwM a (alL C fz a) (alM C fz a) (u9.1))), (2, .int (rwC a (alL C fz a) (alC C fz a) (u9.1))), (0, .ref mp), (1, .int 0)]) (fun u9 => [(mp, .inr (4, [.int tw, .int (nI C), .int (nI R), .int (nI F), .int gn, .int (nI n), .int (nI b), .ref mf, .ref ms, .ref mi, .ref mm, .ref mk, .ref mq, .ref mn, .ref mu, .ref mv])), (mf, .inl (cI, 6, .inl frA)), (ms, .inl (cI, 6, .inl stA)), (mi, .inl (cI, 12, .inl fz)), (mm, .inl (cI, 144, .inl ml)), (mk, .inl (cI, 12, .inl kp)), (mq, .inl (cI, 144, .inl km)), (mn, .inl (cI, 12, .inl (u9.2.1))), (mu, .inl (cI, 4, .inl sm)), (mv, .inl (cZ, 144, .inl (u9.2.2)))]) (fun u9 => (u9.1) ≤ C ∧ FI C R fz (rwL a (alL C fz a) (u9.1)) (u9.2.2)) (fun u9 => C - (u9.1))
          (fun u9 hi_9 ih_8 H locs hP hD hS ls hl => ?_) (0, x3, s3) (⟨Nat.zero_le _, haF⟩) hP hD hS (lv_sub hl [0, 1, 2, 3, 4, 5] rfl)
      obtain ⟨q, x4, s4⟩ := u9
      have hi_9 : q ≤ C ∧ FI C R fz (rwL a (alL C fz a) q) s4 := hi_9
      obtain ⟨hq, hqF⟩ := hi_9
      have hl : lv_has ls 8 [(5, .int (nI q)), (4, .int (nI a)), (3, .int (rwM a (alL C fz a) (alM C fz a) q)), (2, .int (rwC a (alL C fz a) (alC C fz a) q)), (0, .ref mp), (1, .int 0)] := hl
      have hP : va_P D vwCl [(mp, .inr (4, [.int tw, .int (nI C), .int (nI R), .int (nI F), .int gn, .int (nI n), .int (nI b), .ref mf, .ref ms, .ref mi, .ref mm, .ref mk, .ref mq, .ref mn, .ref mu, .ref mv])), (mf, .inl (cI, 6, .inl frA)), (ms, .inl (cI, 6, .inl stA)), (mi, .inl (cI, 12, .inl fz)), (mm, .inl (cI, 144, .inl ml)), (mk, .inl (cI, 12, .inl kp)), (mq, .inl (cI, 144, .inl km)), (mn, .inl (cI, 12, .inl x4)), (mu, .inl (cI, 4, .inl sm)), (mv, .inl (cZ, 144, .inl s4))] _ := hP
      have hD : va_D A [(mp, .inr (4, [.int tw, .int (nI C), .int (nI R), .int (nI F), .int gn, .int (nI n), .int (nI b), .ref mf, .ref ms, .ref mi, .ref mm, .ref mk, .ref mq, .ref mn, .ref mu, .ref mv])), (mf, .inl (cI, 6, .inl frA)), (ms, .inl (cI, 6, .inl stA)), (mi, .inl (cI, 12, .inl fz)), (mm, .inl (cI, 144, .inl ml)), (mk, .inl (cI, 12, .inl kp)), (mq, .inl (cI, 144, .inl km)), (mn, .inl (cI, 12, .inl x4)), (mu, .inl (cI, 4, .inl sm)), (mv, .inl (cZ, 144, .inl s4))] := hD
      refine lv_iload hx hb dX4_flowers_44 (lv_at hl 0 rfl) ?_
      refine lv_aload_n hx hb dX4_flowers_46 rfl (lv_at hl 4 rfl) ?_
      refine va_get (D := D) (ci := 4) (v := .int (nI C)) (C := RX4) (T := TX4) (N := 16) hx hb hts wb_X4_flowers_4 hown hK hP 0 rfl rfl 1 (by decide) (hts _ wi_X4_flowers_3) (fun _ h9 => h9) rfl dX4_flowers_47 ?_
      refine lv_icmp_ge (tgt := 171) hx hb dX4_flowers_50 (by decide) (fun c_10 => ?_) (fun c_10 => ?_)
      · have n_10 : C ≤ q := (nI_leI (a := C) (b := q) (by omega) (by omega)).mp c_10
        have e9_11 : (rwC a (alL C fz a) (alC C fz a) q) = (alC C fz (a + 1)) := by rw [show q = C by omega]; rfl
        have hl : lv_has ls 8 [(5, .int (nI q)), (4, .int (nI a)), (3, .int (rwM a (alL C fz a) (alM C fz a) q)), (2, .int (alC C fz (a + 1))), (0, .ref mp), (1, .int 0)] := by rw [← e9_11]; exact hl
        have e9_12 : (rwM a (alL C fz a) (alM C fz a) q) = (alM C fz (a + 1)) := by rw [show q = C by omega]; rfl
        have hl : lv_has ls 8 [(5, .int (nI q)), (4, .int (nI a)), (3, .int (alM C fz (a + 1))), (2, .int (alC C fz (a + 1))), (0, .ref mp), (1, .int 0)] := by rw [← e9_12]; exact hl
        refine lv_iinc (v := nI (a + 1)) (lv' := [(4, .int (nI (a + 1))), (5, .int (nI q)), (3, .int (alM C fz (a + 1))), (2, .int (alC C fz (a + 1))), (0, .ref mp), (1, .int 0)]) hx hb dX4_flowers_171 hl (k := 1) rfl (nI_1 _) (by decide) rfl (fun ls hl => ?_)
        refine lv_goto (tgt := 32) hx hb dX4_flowers_174 (by decide) ?_
        exact ih_4 ((a + 1), x4, s4) (⟨by omega, by have h9 := hqF; rw [show q = C by omega] at h9; exact h9⟩) (by first | omega | (simp only []; omega) | (show _ < _; simp only []; omega)) H locs hP hD hS ls (lv_sub hl [0, 2, 3, 4, 5] rfl)
      · have n_10 : q < C := Nat.lt_of_not_le (fun h => c_10 ((nI_leI (a := C) (b := q) (by omega) (by omega)).mpr h))
        refine lv_aload_n hx hb dX4_flowers_53 rfl (lv_at hl 4 rfl) ?_
        refine lv_iload hx hb dX4_flowers_54 (lv_at hl 0 rfl) ?_
        refine lv_iload hx hb dX4_flowers_56 (lv_at hl 1 rfl) ?_
        refine f_callVi ⟨hx, hb, hml, hown, hts⟩ hP hD hS hA hK hN [0, 1, 2, 3, 4, 5, 6, 7, 8, 9] (w2 := [(mp, .inr (4, [.int tw, .int (nI C), .int (nI R), .int (nI F), .int gn, .int (nI n), .int (nI b), .ref mf, .ref ms, .ref mi, .ref mm, .ref mk, .ref mq, .ref mn, .ref mu, .ref mv])), (mf, .inl (cI, 6, .inl frA)), (ms, .inl (cI, 6, .inl stA)), (mi, .inl (cI, 12, .inl fz)), (mm, .inl (cI, 144, .inl ml)), (mk, .inl (cI, 12, .inl kp)), (mq, .inl (cI, 144, .inl km)), (mn, .inl (cI, 12, .inl x4)), (mu, .inl (cI, 4, .inl sm)), (mv, .inl (cZ, 144, .inl s4))])
            (c_X4_is (l := l) (D := D) (cI := cI) (cZ := cZ) (cJ := cJ) (sz := _) (mp := mp) (mf := mf) (ms := ms) (mi := mi) (mm := mm) (mk := mk) (mq := mq) (mn := mn) (mu := mu) (mv := mv) (C := C) (R := R) (F := F) (n := n) (b := b) (tw := tw) (gn := gn) (fz := fz) (ml := ml) (frA := frA) (stA := stA) (kp := kp) (km := km) (nx := x4) (sm := sm) (sn := s4) (col := nI q) (r := a) (hC3 := (by first | assumption | omega)) (hC := (by first | assumption | omega)) (hR3 := (by first | assumption | omega)) (hR := (by first | assumption | omega)) (hF := (by first | assumption | omega)) (hn := (by first | assumption | omega)) (hb0 := (by first | assumption | omega)) (hr0 := (by first | assumption | omega))) (cwV 2 hts gX4_flowers_X4_is rfl rfl rfl k_X4_is ⟨Nat.le_of_ble_eq_true rfl, Nat.le_of_ble_eq_true rfl⟩) 0 rfl rfl rfl rfl [mp, mf, ms, mi, mm, mk, mq, mn, mu, mv] rfl rfl rfl rfl rfl hl.1 (Nat.le_of_ble_eq_true rfl) dX4_flowers_58 ⟨Nat.le_of_ble_eq_true rfl, Nat.le_of_ble_eq_true rfl⟩ (fun H locs hP hD hS => ?_)
        refine lv_if_eq (tgt := 165) hx hb dX4_flowers_61 (by decide) (fun c_13 => ?_) (fun c_13 => ?_)
        · have hms := fl_miss (IV_R hI hC) hC hR hqF (show a < R by omega) (show q < C by omega) (Or.inl c_13)
          have hmiss : FI C R fz (rwL a (alL C fz a) (q + 1)) s4 := by rw [rwL, hms.2]; exact hqF
          have e9_14 : (rwC a (alL C fz a) (alC C fz a) q) = (rwC a (alL C fz a) (alC C fz a) (q + 1)) := by first | with_reducible rfl | exact (rwC_miss hms.1).symm
          have hl : lv_has ls 8 [(5, .int (nI q)), (4, .int (nI a)), (3, .int (rwM a (alL C fz a) (alM C fz a) q)), (2, .int (rwC a (alL C fz a) (alC C fz a) (q + 1))), (0, .ref mp), (1, .int 0)] := by rw [← e9_14]; exact hl
          have e9_15 : (rwM a (alL C fz a) (alM C fz a) q) = (rwM a (alL C fz a) (alM C fz a) (q + 1)) := by first | with_reducible rfl | exact (rwM_miss (alM_nn a) hms.1).symm
          have hl : lv_has ls 8 [(5, .int (nI q)), (4, .int (nI a)), (3, .int (rwM a (alL C fz a) (alM C fz a) (q + 1))), (2, .int (rwC a (alL C fz a) (alC C fz a) (q + 1))), (0, .ref mp), (1, .int 0)] := by rw [← e9_15]; exact hl
          refine lv_iinc (v := nI (q + 1)) (lv' := [(5, .int (nI (q + 1))), (4, .int (nI a)), (3, .int (rwM a (alL C fz a) (alM C fz a) (q + 1))), (2, .int (rwC a (alL C fz a) (alC C fz a) (q + 1))), (0, .ref mp), (1, .int 0)]) hx hb dX4_flowers_165 hl (k := 0) rfl (nI_1 _) (by decide) rfl (fun ls hl => ?_)
          refine lv_goto (tgt := 44) hx hb dX4_flowers_168 (by decide) ?_
          exact ih_8 ((q + 1), x4, s4) (⟨by omega, by first | exact hmiss | exact hh.2.2 _ (MK_R (by omega) hmk1)⟩) (by first | omega | (simp only []; omega) | (show _ < _; simp only []; omega)) H locs hP hD hS ls (lv_sub hl [0, 1, 2, 3, 4, 5] rfl)
        · have hfro := c_13
          refine lv_aload_n hx hb dX4_flowers_64 rfl (lv_at hl 4 rfl) ?_
          refine va_get (D := D) (ci := 4) (v := .ref mv) (C := RX4) (T := TX4) (N := 16) hx hb hts wb_X4_flowers_4 hown hK hP 0 rfl rfl 15 (by decide) (hts _ wi_X4_flowers_1) (fun _ h9 => h9) rfl dX4_flowers_65 ?_
          refine lv_bipush (v := 12) hx hb dX4_flowers_68 (by decide) ?_
          refine lv_iload hx hb dX4_flowers_70 (lv_at hl 1 rfl) ?_
          refine lv_imul hx hb dX4_flowers_72 ?_
          refine f_topi (y := nI (12 * a)) (pk_mul 12 a) ?_
          refine lv_iload hx hb dX4_flowers_73 (lv_at hl 0 rfl) ?_
          refine lv_iadd hx hb dX4_flowers_75 ?_
          refine f_topi (y := nI ((12 * a) + q)) (nI_add (12 * a) q) ?_
          refine f_zald (k := ((12 * a) + q)) hx hb hK hP 9 1 rfl rfl rfl (by omega) (by first | decide | omega) dX4_flowers_76 ?_
          refine lv_if_eq (tgt := 83) hx hb dX4_flowers_77 (by decide) (fun c_16 => ?_) (fun c_16 => ?_)
          · have hh := fl_hit (IV_R hI hC) hC hR hqF (show a < R by omega) (show q < C by omega) hfro c_16
            refine lv_iinc (v := (rwC a (alL C fz a) (alC C fz a) q) + 1) (lv' := [(2, .int ((rwC a (alL C fz a) (alC C fz a) q) + 1)), (5, .int (nI q)), (4, .int (nI a)), (3, .int (rwM a (alL C fz a) (alM C fz a) q)), (0, .ref mp), (1, .int 0)]) hx hb dX4_flowers_83 hl (k := 3) rfl (rfl) (by decide) rfl (fun ls hl => ?_)
            have e9_17 : ((rwC a (alL C fz a) (alC C fz a) q) + 1) = (rwC a (alL C fz a) (alC C fz a) (q + 1)) := by rw [rwC, if_neg hh.2.1]
            have hl : lv_has ls 8 [(2, .int (rwC a (alL C fz a) (alC C fz a) (q + 1))), (5, .int (nI q)), (4, .int (nI a)), (3, .int (rwM a (alL C fz a) (alM C fz a) q)), (0, .ref mp), (1, .int 0)] := by rw [← e9_17]; exact hl
            refine lv_iload_n hx hb dX4_flowers_86 rfl (lv_at hl 3 rfl) ?_
            refine lv_aload_n hx hb dX4_flowers_87 rfl (lv_at hl 4 rfl) ?_
            refine lv_iload hx hb dX4_flowers_88 (lv_at hl 1 rfl) ?_
            refine lv_iload hx hb dX4_flowers_90 (lv_at hl 2 rfl) ?_
            refine f_callVi ⟨hx, hb, hml, hown, hts⟩ hP hD hS hA hK hN [0, 1, 2, 3, 4, 5, 6, 7, 8, 9] (w2 := [(mp, .inr (4, [.int tw, .int (nI C), .int (nI R), .int (nI F), .int gn, .int (nI n), .int (nI b), .ref mf, .ref ms, .ref mi, .ref mm, .ref mk, .ref mq, .ref mn, .ref mu, .ref mv])), (mf, .inl (cI, 6, .inl frA)), (ms, .inl (cI, 6, .inl stA)), (mi, .inl (cI, 12, .inl fz)), (mm, .inl (cI, 144, .inl ml)), (mk, .inl (cI, 12, .inl kp)), (mq, .inl (cI, 144, .inl km)), (mn, .inl (cI, 12, .inl (sfill (spF fz q a) x4 R))), (mu, .inl (cI, 4, .inl sm)), (mv, .inl (cZ, 144, .inl s4))])
                (c_X4_spread (l := l) (D := D) (cI := cI) (cZ := cZ) (cJ := cJ) (sz := _) (mp := mp) (mf := mf) (ms := ms) (mi := mi) (mm := mm) (mk := mk) (mq := mq) (mn := mn) (mu := mu) (mv := mv) (C := C) (R := R) (F := F) (n := n) (b := b) (tw := tw) (gn := gn) (fz := fz) (ml := ml) (frA := frA) (stA := stA) (kp := kp) (km := km) (nx := x4) (sm := sm) (sn := s4) (c := q) (r := a) (hC3 := (by first | assumption | omega)) (hC := (by first | assumption | omega)) (hR3 := (by first | assumption | omega)) (hR := (by first | assumption | omega)) (hF := (by first | assumption | omega)) (hn := (by first | assumption | omega)) (hb0 := (by first | assumption | omega)) (hI := (by first | assumption | omega)) (hc0 := (by first | assumption | omega)) (hr0 := (by first | assumption | omega))) (cwV 2 hts gX4_flowers_X4_spread rfl rfl rfl k_X4_spread ⟨Nat.le_of_ble_eq_true rfl, Nat.le_of_ble_eq_true rfl⟩) 0 rfl rfl rfl rfl [mp, mf, ms, mi, mm, mk, mq, mn, mu, mv] rfl rfl rfl rfl rfl hl.1 (Nat.le_of_ble_eq_true rfl) dX4_flowers_92 ⟨Nat.le_of_ble_eq_true rfl, Nat.le_of_ble_eq_true rfl⟩ (fun H locs hP hD hS => ?_)
            refine va_mmax hx hb (hml.trans hl.1.symm) hown (hts _ wi_X4_flowers_4) (hts _ wi_X4_flowers_5) (hts _ wi_X4_flowers_6) (hts _ wi_X4_flowers_7) (Nat.le_of_ble_eq_true rfl) (Nat.le_of_ble_eq_true rfl) (Nat.le_of_ble_eq_true rfl) (Nat.le_of_ble_eq_true rfl) dX4_flowers_95 ?_
            refine f_topi (y := rwM a (alL C fz a) (alM C fz a) (q + 1)) (by rw [hh.1]; rfl) ?_
            refine lv_istore_n (lv' := [(3, .int (rwM a (alL C fz a) (alM C fz a) (q + 1))), (2, .int (rwC a (alL C fz a) (alC C fz a) (q + 1))), (5, .int (nI q)), (4, .int (nI a)), (0, .ref mp), (1, .int 0)]) hx hb dX4_flowers_98 rfl hl (by decide) rfl (fun ls hl => ?_)
            refine lv_iconst (v := 0) hx hb dX4_flowers_99 (by decide) ?_
            refine lv_istore (lv' := [(6, .int 0), (3, .int (rwM a (alL C fz a) (alM C fz a) (q + 1))), (2, .int (rwC a (alL C fz a) (alC C fz a) (q + 1))), (5, .int (nI q)), (4, .int (nI a)), (0, .ref mp), (1, .int 0)]) hx hb dX4_flowers_100 hl (by decide) rfl (fun ls hl => ?_)
            refine f_loopW (σ := Nat × (Nat → Int32)) (D := D) (A := A) (H0 := s.heap) 8 102 (fun u9 => [(6, .int (nI (u9.1))), (3, .int (rwM a (alL C fz a) (alM C fz a) (q + 1))), (2, .int (rwC a (alL C fz a) (alC C fz a) (q + 1))), (5, .int (nI q)), (4, .int (nI a)), (0, .ref mp), (1, .int 0)]) (fun u9 => [(mp, .inr (4, [.int tw, .int (nI C), .int (nI R), .int (nI F), .int gn, .int (nI n), .int (nI b), .ref mf, .ref ms, .ref mi, .ref mm, .ref mk, .ref mq, .ref mn, .ref mu, .ref mv])), (mf, .inl (cI, 6, .inl frA)), (ms, .inl (cI, 6, .inl stA)), (mi, .inl (cI, 12, .inl fz)), (mm, .inl (cI, 144, .inl ml)), (mk, .inl (cI, 12, .inl kp)), (mq, .inl (cI, 144, .inl km)), (mn, .inl (cI, 12, .inl (sfill (spF fz q a) x4 R))), (mu, .inl (cI, 4, .inl sm)), (mv, .inl (cZ, 144, .inl (u9.2)))]) (fun u9 => (u9.1) ≤ R ∧ MK C (spF fz q a) s4 (u9.1) 0 (u9.2)) (fun u9 => R - (u9.1))
                (fun u9 hi_19 ih_18 H locs hP hD hS ls hl => ?_) (0, s4) (⟨Nat.zero_le _, MK_0⟩) hP hD hS (lv_sub hl [0, 1, 2, 3, 4, 5, 6] rfl)
            obtain ⟨e, s5⟩ := u9
            have hi_19 : e ≤ R ∧ MK C (spF fz q a) s4 e 0 s5 := hi_19
            obtain ⟨he, hmk1⟩ := hi_19
            have hl : lv_has ls 8 [(6, .int (nI e)), (3, .int (rwM a (alL C fz a) (alM C fz a) (q + 1))), (2, .int (rwC a (alL C fz a) (alC C fz a) (q + 1))), (5, .int (nI q)), (4, .int (nI a)), (0, .ref mp), (1, .int 0)] := hl
            have hP : va_P D vwCl [(mp, .inr (4, [.int tw, .int (nI C), .int (nI R), .int (nI F), .int gn, .int (nI n), .int (nI b), .ref mf, .ref ms, .ref mi, .ref mm, .ref mk, .ref mq, .ref mn, .ref mu, .ref mv])), (mf, .inl (cI, 6, .inl frA)), (ms, .inl (cI, 6, .inl stA)), (mi, .inl (cI, 12, .inl fz)), (mm, .inl (cI, 144, .inl ml)), (mk, .inl (cI, 12, .inl kp)), (mq, .inl (cI, 144, .inl km)), (mn, .inl (cI, 12, .inl (sfill (spF fz q a) x4 R))), (mu, .inl (cI, 4, .inl sm)), (mv, .inl (cZ, 144, .inl s5))] _ := hP
            have hD : va_D A [(mp, .inr (4, [.int tw, .int (nI C), .int (nI R), .int (nI F), .int gn, .int (nI n), .int (nI b), .ref mf, .ref ms, .ref mi, .ref mm, .ref mk, .ref mq, .ref mn, .ref mu, .ref mv])), (mf, .inl (cI, 6, .inl frA)), (ms, .inl (cI, 6, .inl stA)), (mi, .inl (cI, 12, .inl fz)), (mm, .inl (cI, 144, .inl ml)), (mk, .inl (cI, 12, .inl kp)), (mq, .inl (cI, 144, .inl km)), (mn, .inl (cI, 12, .inl (sfill (spF fz q a) x4 R))), (mu, .inl (cI, 4, .inl sm)), (mv, .inl (cZ, 144, .inl s5))] := hD
            refine lv_iload hx hb dX4_flowers_102 (lv_at hl 0 rfl) ?_
            refine lv_aload_n hx hb dX4_flowers_104 rfl (lv_at hl 5 rfl) ?_
            refine va_get (D := D) (ci := 4) (v := .int (nI R)) (C := RX4) (T := TX4) (N := 16) hx hb hts wb_X4_flowers_4 hown hK hP 0 rfl rfl 2 (by decide) (hts _ wi_X4_flowers_2) (fun _ h9 => h9) rfl dX4_flowers_105 ?_
            refine lv_icmp_ge (tgt := 165) hx hb dX4_flowers_108 (by decide) (fun c_20 => ?_) (fun c_20 => ?_)
            · have n_20 : R ≤ e := (nI_leI (a := R) (b := e) (by omega) (by omega)).mp c_20
              have e9_21 : (rwC a (alL C fz a) (alC C fz a) (q + 1)) = (rwC a (alL C fz a) (alC C fz a) (q + 1)) := by first | with_reducible rfl | exact (rwC_miss hms.1).symm
              have hl : lv_has ls 8 [(6, .int (nI e)), (3, .int (rwM a (alL C fz a) (alM C fz a) (q + 1))), (2, .int (rwC a (alL C fz a) (alC C fz a) (q + 1))), (5, .int (nI q)), (4, .int (nI a)), (0, .ref mp), (1, .int 0)] := by rw [← e9_21]; exact hl
              have e9_22 : (rwM a (alL C fz a) (alM C fz a) (q + 1)) = (rwM a (alL C fz a) (alM C fz a) (q + 1)) := by first | with_reducible rfl | exact (rwM_miss (alM_nn a) hms.1).symm
              have hl : lv_has ls 8 [(6, .int (nI e)), (3, .int (rwM a (alL C fz a) (alM C fz a) (q + 1))), (2, .int (rwC a (alL C fz a) (alC C fz a) (q + 1))), (5, .int (nI q)), (4, .int (nI a)), (0, .ref mp), (1, .int 0)] := by rw [← e9_22]; exact hl
              refine lv_iinc (v := nI (q + 1)) (lv' := [(5, .int (nI (q + 1))), (6, .int (nI e)), (3, .int (rwM a (alL C fz a) (alM C fz a) (q + 1))), (2, .int (rwC a (alL C fz a) (alC C fz a) (q + 1))), (4, .int (nI a)), (0, .ref mp), (1, .int 0)]) hx hb dX4_flowers_165 hl (k := 3) rfl (nI_1 _) (by decide) rfl (fun ls hl => ?_)
              refine lv_goto (tgt := 44) hx hb dX4_flowers_168 (by decide) ?_
              exact ih_8 ((q + 1), sfill (spF fz q a) x4 R, s5) (⟨by omega, by first | exact hmiss | exact hh.2.2 _ (MK_R (by omega) hmk1)⟩) (by first | omega | (simp only []; omega) | (show _ < _; simp only []; omega)) H locs hP hD hS ls (lv_sub hl [0, 4, 2, 3, 5, 6] rfl)
            · have n_20 : e < R := Nat.lt_of_not_le (fun h => c_20 ((nI_leI (a := R) (b := e) (by omega) (by omega)).mpr h))
              refine lv_iconst (v := 0) hx hb dX4_flowers_111 (by decide) ?_
              refine lv_istore (lv' := [(7, .int 0), (6, .int (nI e)), (3, .int (rwM a (alL C fz a) (alM C fz a) (q + 1))), (2, .int (rwC a (alL C fz a) (alC C fz a) (q + 1))), (5, .int (nI q)), (4, .int (nI a)), (0, .ref mp), (1, .int 0)]) hx hb dX4_flowers_112 hl (by decide) rfl (fun ls hl => ?_)
              refine f_loopW (σ := Nat × (Nat → Int32)) (D := D) (A := A) (H0 := s.heap) 8 114 (fun u9 => [(7, .int (nI (u9.1))), (6, .int (nI e)), (3, .int (rwM a (alL C fz a) (alM C fz a) (q + 1))), (2, .int (rwC a (alL C fz a) (alC C fz a) (q + 1))), (5, .int (nI q)), (4, .int (nI a)), (0, .ref mp), (1, .int 0)]) (fun u9 => [(mp, .inr (4, [.int tw, .int (nI C), .int (nI R), .int (nI F), .int gn, .int (nI n), .int (nI b), .ref mf, .ref ms, .ref mi, .ref mm, .ref mk, .ref mq, .ref mn, .ref mu, .ref mv])), (mf, .inl (cI, 6, .inl frA)), (ms, .inl (cI, 6, .inl stA)), (mi, .inl (cI, 12, .inl fz)), (mm, .inl (cI, 144, .inl ml)), (mk, .inl (cI, 12, .inl kp)), (mq, .inl (cI, 144, .inl km)), (mn, .inl (cI, 12, .inl (sfill (spF fz q a) x4 R))), (mu, .inl (cI, 4, .inl sm)), (mv, .inl (cZ, 144, .inl (u9.2)))]) (fun u9 => (u9.1) ≤ C ∧ MK C (spF fz q a) s4 e (u9.1) (u9.2)) (fun u9 => C - (u9.1))
                  (fun u9 hi_24 ih_23 H locs hP hD hS ls hl => ?_) (0, s5) (⟨Nat.zero_le _, hmk1⟩) hP hD hS (lv_sub hl [0, 1, 2, 3, 4, 5, 6, 7] rfl)
              obtain ⟨v, s6⟩ := u9
              have hi_24 : v ≤ C ∧ MK C (spF fz q a) s4 e v s6 := hi_24
              obtain ⟨hv, hmk0⟩ := hi_24
              have hl : lv_has ls 8 [(7, .int (nI v)), (6, .int (nI e)), (3, .int (rwM a (alL C fz a) (alM C fz a) (q + 1))), (2, .int (rwC a (alL C fz a) (alC C fz a) (q + 1))), (5, .int (nI q)), (4, .int (nI a)), (0, .ref mp), (1, .int 0)] := hl
              have hP : va_P D vwCl [(mp, .inr (4, [.int tw, .int (nI C), .int (nI R), .int (nI F), .int gn, .int (nI n), .int (nI b), .ref mf, .ref ms, .ref mi, .ref mm, .ref mk, .ref mq, .ref mn, .ref mu, .ref mv])), (mf, .inl (cI, 6, .inl frA)), (ms, .inl (cI, 6, .inl stA)), (mi, .inl (cI, 12, .inl fz)), (mm, .inl (cI, 144, .inl ml)), (mk, .inl (cI, 12, .inl kp)), (mq, .inl (cI, 144, .inl km)), (mn, .inl (cI, 12, .inl (sfill (spF fz q a) x4 R))), (mu, .inl (cI, 4, .inl sm)), (mv, .inl (cZ, 144, .inl s6))] _ := hP
              have hD : va_D A [(mp, .inr (4, [.int tw, .int (nI C), .int (nI R), .int (nI F), .int gn, .int (nI n), .int (nI b), .ref mf, .ref ms, .ref mi, .ref mm, .ref mk, .ref mq, .ref mn, .ref mu, .ref mv])), (mf, .inl (cI, 6, .inl frA)), (ms, .inl (cI, 6, .inl stA)), (mi, .inl (cI, 12, .inl fz)), (mm, .inl (cI, 144, .inl ml)), (mk, .inl (cI, 12, .inl kp)), (mq, .inl (cI, 144, .inl km)), (mn, .inl (cI, 12, .inl (sfill (spF fz q a) x4 R))), (mu, .inl (cI, 4, .inl sm)), (mv, .inl (cZ, 144, .inl s6))] := hD
              refine lv_iload hx hb dX4_flowers_114 (lv_at hl 0 rfl) ?_
              refine lv_aload_n hx hb dX4_flowers_116 rfl (lv_at hl 6 rfl) ?_
              refine va_get (D := D) (ci := 4) (v := .int (nI C)) (C := RX4) (T := TX4) (N := 16) hx hb hts wb_X4_flowers_4 hown hK hP 0 rfl rfl 1 (by decide) (hts _ wi_X4_flowers_3) (fun _ h9 => h9) rfl dX4_flowers_117 ?_
              refine lv_icmp_ge (tgt := 159) hx hb dX4_flowers_120 (by decide) (fun c_25 => ?_) (fun c_25 => ?_)
              · have n_25 : C ≤ v := (nI_leI (a := C) (b := v) (by omega) (by omega)).mp c_25
                refine lv_iinc (v := nI (e + 1)) (lv' := [(6, .int (nI (e + 1))), (7, .int (nI v)), (3, .int (rwM a (alL C fz a) (alM C fz a) (q + 1))), (2, .int (rwC a (alL C fz a) (alC C fz a) (q + 1))), (5, .int (nI q)), (4, .int (nI a)), (0, .ref mp), (1, .int 0)]) hx hb dX4_flowers_159 hl (k := 1) rfl (nI_1 _) (by decide) rfl (fun ls hl => ?_)
                refine lv_goto (tgt := 102) hx hb dX4_flowers_162 (by decide) ?_
                exact ih_18 ((e + 1), s6) (⟨by omega, MK_row (by omega) hmk0⟩) (by first | omega | (simp only []; omega) | (show _ < _; simp only []; omega)) H locs hP hD hS ls (lv_sub hl [0, 2, 3, 4, 5, 6, 7] rfl)
              · have n_25 : v < C := Nat.lt_of_not_le (fun h => c_25 ((nI_leI (a := C) (b := v) (by omega) (by omega)).mpr h))
                refine lv_aload_n hx hb dX4_flowers_123 rfl (lv_at hl 6 rfl) ?_
                refine va_get (D := D) (ci := 4) (v := .ref mn) (C := RX4) (T := TX4) (N := 16) hx hb hts wb_X4_flowers_4 hown hK hP 0 rfl rfl 13 (by decide) (hts _ wi_X4_flowers_8) (fun _ h9 => h9) rfl dX4_flowers_124 ?_
                refine lv_iload hx hb dX4_flowers_127 (lv_at hl 1 rfl) ?_
                refine f_iald (k := e) hx hb hK hP 7 0 rfl rfl rfl (by omega) (by first | decide | omega) dX4_flowers_129 ?_
                refine f_topi (y := spF fz q a e) (sfill_lt (by omega)) ?_
                refine lv_iload hx hb dX4_flowers_130 (lv_at hl 0 rfl) ?_
                refine lv_ishr hx hb dX4_flowers_132 ?_
                refine lv_iconst (v := 1) hx hb dX4_flowers_133 (by decide) ?_
                refine lv_iand hx hb dX4_flowers_134 ?_
                refine lv_iconst (v := 1) hx hb dX4_flowers_135 (by decide) ?_
                refine lv_icmp_ne (tgt := 153) hx hb dX4_flowers_136 (by decide) (fun c_26 => ?_) (fun c_26 => ?_)
                · have hbit := c_26
                  refine lv_iinc (v := nI (v + 1)) (lv' := [(7, .int (nI (v + 1))), (6, .int (nI e)), (3, .int (rwM a (alL C fz a) (alM C fz a) (q + 1))), (2, .int (rwC a (alL C fz a) (alC C fz a) (q + 1))), (5, .int (nI q)), (4, .int (nI a)), (0, .ref mp), (1, .int 0)]) hx hb dX4_flowers_153 hl (k := 0) rfl (nI_1 _) (by decide) rfl (fun ls hl => ?_)
                  refine lv_goto (tgt := 114) hx hb dX4_flowers_156 (by decide) ?_
                  exact ih_23 ((v + 1), s6) (⟨by omega, by first | exact MK_no (by omega) hC hmk0 hbit | exact MK_yes (by omega) hC hmk0 hbit⟩) (by first | omega | (simp only []; omega) | (show _ < _; simp only []; omega)) H locs hP hD hS ls (lv_sub hl [0, 1, 2, 3, 4, 5, 6, 7] rfl)
                · have hbit := c_26
                  refine lv_aload_n hx hb dX4_flowers_139 rfl (lv_at hl 6 rfl) ?_
                  refine va_get (D := D) (ci := 4) (v := .ref mv) (C := RX4) (T := TX4) (N := 16) hx hb hts wb_X4_flowers_4 hown hK hP 0 rfl rfl 15 (by decide) (hts _ wi_X4_flowers_1) (fun _ h9 => h9) rfl dX4_flowers_140 ?_
                  refine lv_bipush (v := 12) hx hb dX4_flowers_143 (by decide) ?_
                  refine lv_iload hx hb dX4_flowers_145 (lv_at hl 1 rfl) ?_
                  refine lv_imul hx hb dX4_flowers_147 ?_
                  refine f_topi (y := nI (12 * e)) (pk_mul 12 e) ?_
                  refine lv_iload hx hb dX4_flowers_148 (lv_at hl 0 rfl) ?_
                  refine lv_iadd hx hb dX4_flowers_150 ?_
                  refine f_topi (y := nI ((12 * e) + v)) (nI_add (12 * e) v) ?_
                  refine lv_iconst (v := 1) hx hb dX4_flowers_151 (by decide) ?_
                  refine f_zast (k := ((12 * e) + v)) hx hb hK hP hD hS 9 1 rfl rfl rfl (by omega) (by first | decide | omega) dX4_flowers_152 (fun H locs hP hD hS => ?_)
                  have hP : va_P D vwCl [(mp, .inr (4, [.int tw, .int (nI C), .int (nI R), .int (nI F), .int gn, .int (nI n), .int (nI b), .ref mf, .ref ms, .ref mi, .ref mm, .ref mk, .ref mq, .ref mn, .ref mu, .ref mv])), (mf, .inl (cI, 6, .inl frA)), (ms, .inl (cI, 6, .inl stA)), (mi, .inl (cI, 12, .inl fz)), (mm, .inl (cI, 144, .inl ml)), (mk, .inl (cI, 12, .inl kp)), (mq, .inl (cI, 144, .inl km)), (mn, .inl (cI, 12, .inl (sfill (spF fz q a) x4 R))), (mu, .inl (cI, 4, .inl sm)), (mv, .inl (cZ, 144, .inl (upd s6 ((12 * e) + v) (vp_nar .boolean 1))))] _ := hP
                  have hD : va_D A [(mp, .inr (4, [.int tw, .int (nI C), .int (nI R), .int (nI F), .int gn, .int (nI n), .int (nI b), .ref mf, .ref ms, .ref mi, .ref mm, .ref mk, .ref mq, .ref mn, .ref mu, .ref mv])), (mf, .inl (cI, 6, .inl frA)), (ms, .inl (cI, 6, .inl stA)), (mi, .inl (cI, 12, .inl fz)), (mm, .inl (cI, 144, .inl ml)), (mk, .inl (cI, 12, .inl kp)), (mq, .inl (cI, 144, .inl km)), (mn, .inl (cI, 12, .inl (sfill (spF fz q a) x4 R))), (mu, .inl (cI, 4, .inl sm)), (mv, .inl (cZ, 144, .inl (upd s6 ((12 * e) + v) (vp_nar .boolean 1))))] := hD
                  refine lv_iinc (v := nI (v + 1)) (lv' := [(7, .int (nI (v + 1))), (6, .int (nI e)), (3, .int (rwM a (alL C fz a) (alM C fz a) (q + 1))), (2, .int (rwC a (alL C fz a) (alC C fz a) (q + 1))), (5, .int (nI q)), (4, .int (nI a)), (0, .ref mp), (1, .int 0)]) hx hb dX4_flowers_153 hl (k := 0) rfl (nI_1 _) (by decide) rfl (fun ls hl => ?_)
                  refine lv_goto (tgt := 114) hx hb dX4_flowers_156 (by decide) ?_
                  exact ih_23 ((v + 1), upd s6 ((12 * e) + v) (vp_nar .boolean 1)) (⟨by omega, by first | exact MK_no (by omega) hC hmk0 hbit | exact MK_yes (by omega) hC hmk0 hbit⟩) (by first | omega | (simp only []; omega) | (show _ < _; simp only []; omega)) H locs hP hD hS ls (lv_sub hl [0, 1, 2, 3, 4, 5, 6, 7] rfl)
          · have hms := fl_miss (IV_R hI hC) hC hR hqF (show a < R by omega) (show q < C by omega) (Or.inr c_16)
            have hmiss : FI C R fz (rwL a (alL C fz a) (q + 1)) s4 := by rw [rwL, hms.2]; exact hqF
            refine lv_goto (tgt := 165) hx hb dX4_flowers_80 (by decide) ?_
            have e9_27 : (rwC a (alL C fz a) (alC C fz a) q) = (rwC a (alL C fz a) (alC C fz a) (q + 1)) := by first | with_reducible rfl | exact (rwC_miss hms.1).symm
            have hl : lv_has ls 8 [(5, .int (nI q)), (4, .int (nI a)), (3, .int (rwM a (alL C fz a) (alM C fz a) q)), (2, .int (rwC a (alL C fz a) (alC C fz a) (q + 1))), (0, .ref mp), (1, .int 0)] := by rw [← e9_27]; exact hl
            have e9_28 : (rwM a (alL C fz a) (alM C fz a) q) = (rwM a (alL C fz a) (alM C fz a) (q + 1)) := by first | with_reducible rfl | exact (rwM_miss (alM_nn a) hms.1).symm
            have hl : lv_has ls 8 [(5, .int (nI q)), (4, .int (nI a)), (3, .int (rwM a (alL C fz a) (alM C fz a) (q + 1))), (2, .int (rwC a (alL C fz a) (alC C fz a) (q + 1))), (0, .ref mp), (1, .int 0)] := by rw [← e9_28]; exact hl
            refine lv_iinc (v := nI (q + 1)) (lv' := [(5, .int (nI (q + 1))), (4, .int (nI a)), (3, .int (rwM a (alL C fz a) (alM C fz a) (q + 1))), (2, .int (rwC a (alL C fz a) (alC C fz a) (q + 1))), (0, .ref mp), (1, .int 0)]) hx hb dX4_flowers_165 hl (k := 0) rfl (nI_1 _) (by decide) rfl (fun ls hl => ?_)
            refine lv_goto (tgt := 44) hx hb dX4_flowers_168 (by decide) ?_
            exact ih_8 ((q + 1), x4, s4) (⟨by omega, by first | exact hmiss | exact hh.2.2 _ (MK_R (by omega) hmk1)⟩) (by first | omega | (simp only []; omega) | (show _ < _; simp only []; omega)) H locs hP hD hS ls (lv_sub hl [0, 1, 2, 3, 4, 5] rfl)
  · have n_3 : k < 144 := Nat.lt_of_not_le (fun h => c_3 ((nI_leI (a := 144) (b := k) (by omega) (by omega)).mpr h))
    refine lv_aload_n hx hb dX4_flowers_15 rfl (lv_at hl 3 rfl) ?_
    refine va_get (D := D) (ci := 4) (v := .ref mv) (C := RX4) (T := TX4) (N := 16) hx hb hts wb_X4_flowers_4 hown hK hP 0 rfl rfl 15 (by decide) (hts _ wi_X4_flowers_1) (fun _ h9 => h9) rfl dX4_flowers_16 ?_
    refine lv_iload hx hb dX4_flowers_19 (lv_at hl 0 rfl) ?_
    refine lv_iconst (v := 0) hx hb dX4_flowers_21 (by decide) ?_
    refine f_zast (k := k) hx hb hK hP hD hS 9 1 rfl rfl rfl (by omega) (by first | decide | omega) dX4_flowers_22 (fun H locs hP hD hS => ?_)
    have hP : va_P D vwCl [(mp, .inr (4, [.int tw, .int (nI C), .int (nI R), .int (nI F), .int gn, .int (nI n), .int (nI b), .ref mf, .ref ms, .ref mi, .ref mm, .ref mk, .ref mq, .ref mn, .ref mu, .ref mv])), (mf, .inl (cI, 6, .inl frA)), (ms, .inl (cI, 6, .inl stA)), (mi, .inl (cI, 12, .inl fz)), (mm, .inl (cI, 144, .inl ml)), (mk, .inl (cI, 12, .inl kp)), (mq, .inl (cI, 144, .inl km)), (mn, .inl (cI, 12, .inl nx)), (mu, .inl (cI, 4, .inl sm)), (mv, .inl (cZ, 144, .inl (upd (sfill (fun _ => 0) sn k) k (vp_nar .boolean 0))))] _ := hP
    have hD : va_D A [(mp, .inr (4, [.int tw, .int (nI C), .int (nI R), .int (nI F), .int gn, .int (nI n), .int (nI b), .ref mf, .ref ms, .ref mi, .ref mm, .ref mk, .ref mq, .ref mn, .ref mu, .ref mv])), (mf, .inl (cI, 6, .inl frA)), (ms, .inl (cI, 6, .inl stA)), (mi, .inl (cI, 12, .inl fz)), (mm, .inl (cI, 144, .inl ml)), (mk, .inl (cI, 12, .inl kp)), (mq, .inl (cI, 144, .inl km)), (mn, .inl (cI, 12, .inl nx)), (mu, .inl (cI, 4, .inl sm)), (mv, .inl (cZ, 144, .inl (upd (sfill (fun _ => 0) sn k) k (vp_nar .boolean 0))))] := hD
    obtain ⟨hP, hD⟩ := f_rep (g := sfill (fun _ => 0) sn (k + 1)) hP hD 9 rfl (fun j _ => sfill_up rfl j)
    have hP : va_P D vwCl [(mp, .inr (4, [.int tw, .int (nI C), .int (nI R), .int (nI F), .int gn, .int (nI n), .int (nI b), .ref mf, .ref ms, .ref mi, .ref mm, .ref mk, .ref mq, .ref mn, .ref mu, .ref mv])), (mf, .inl (cI, 6, .inl frA)), (ms, .inl (cI, 6, .inl stA)), (mi, .inl (cI, 12, .inl fz)), (mm, .inl (cI, 144, .inl ml)), (mk, .inl (cI, 12, .inl kp)), (mq, .inl (cI, 144, .inl km)), (mn, .inl (cI, 12, .inl nx)), (mu, .inl (cI, 4, .inl sm)), (mv, .inl (cZ, 144, .inl (sfill (fun _ => 0) sn (k + 1))))] _ := hP
    have hD : va_D A [(mp, .inr (4, [.int tw, .int (nI C), .int (nI R), .int (nI F), .int gn, .int (nI n), .int (nI b), .ref mf, .ref ms, .ref mi, .ref mm, .ref mk, .ref mq, .ref mn, .ref mu, .ref mv])), (mf, .inl (cI, 6, .inl frA)), (ms, .inl (cI, 6, .inl stA)), (mi, .inl (cI, 12, .inl fz)), (mm, .inl (cI, 144, .inl ml)), (mk, .inl (cI, 12, .inl kp)), (mq, .inl (cI, 144, .inl km)), (mn, .inl (cI, 12, .inl nx)), (mu, .inl (cI, 4, .inl sm)), (mv, .inl (cZ, 144, .inl (sfill (fun _ => 0) sn (k + 1))))] := hD
    refine lv_iinc (v := nI (k + 1)) (lv' := [(4, .int (nI (k + 1))), (3, .int 0), (2, .int 0), (0, .ref mp), (1, .int 0)]) hx hb dX4_flowers_23 hl (k := 0) rfl (nI_1 _) (by decide) rfl (fun ls hl => ?_)
    refine lv_goto (tgt := 7) hx hb dX4_flowers_26 (by decide) ?_
    exact ih_1 (k + 1) (by omega) (by first | omega | (simp only []; omega) | (show _ < _; simp only []; omega)) H locs hP hD hS ls (lv_sub hl [0, 1, 2, 3, 4] rfl)

theorem wb_X4_flowers1_4 : ∀ w ∈ wsX40, w ∈ wsX4_flowers := (fun _ h => List.mem_cons_of_mem _ (List.mem_append_right _ h))
theorem wi_X4_flowers1_2 : (Cond.fieldLink RX4 13 "FrostPaneModel" "rows" "I") ∈ wsX4_flowers := List.mem_of_getElem? (i := 2) rfl
theorem wi_X4_flowers1_3 : (Cond.fieldLink RX4 7 "FrostPaneModel" "columns" "I") ∈ wsX4_flowers := List.mem_of_getElem? (i := 3) rfl
theorem wi_X4_flowers1_1 : (Cond.fieldLink RX4 47 "FrostPaneModel" "isSeen" "[Z") ∈ wsX4_flowers := List.mem_of_getElem? (i := 1) rfl
theorem wi_X4_flowers1_4 : (Cond.methodLink RX4 92 Lib.Math.max.name) ∈ wsX4_flowers := List.mem_of_getElem? (i := 4) rfl
theorem wi_X4_flowers1_5 : (Cond.static Lib.Math.max.name) ∈ wsX4_flowers := List.mem_of_getElem? (i := 5) rfl
theorem wi_X4_flowers1_6 : (Cond.initialized "java/lang/Math") ∈ wsX4_flowers := List.mem_of_getElem? (i := 6) rfl
theorem wi_X4_flowers1_7 : (Cond.code Lib.Math.max.name Lib.Math.max.code 2 (some .int)) ∈ wsX4_flowers := List.mem_of_getElem? (i := 7) rfl
theorem wi_X4_flowers1_8 : (Cond.fieldLink RX4 41 "FrostPaneModel" "next" "[I") ∈ wsX4_flowers := List.mem_of_getElem? (i := 8) rfl
set_option maxHeartbeats 4000000 in
set_option maxRecDepth 100000 in
theorem c_X4_flowers1 (l : Launch) (D : va_G) (cI cZ cJ : ClassId) (sz : Nat) (mp mf ms mi mm mk mq mn mu mv C R F n b : Nat) (tw gn : Int32) (fz ml frA stA kp km nx sm sn : Nat → Int32) (hC3 : 3 ≤ C) (hC : C ≤ 12) (hR3 : 3 ≤ R) (hR : R ≤ 12) (hF : F ≤ 2) (hn : n ≤ 6) (hb0 : b < n) (hI : IV C R fz) : f_Ji l yX4_flowers wsX4_flowers ({ frames := 2, cells := 0, slots := 0, locals := 45 }) D (fTY cI cZ cJ) [.ref mp, .int 1] sz [(mp, .inr (4, [.int tw, .int (nI C), .int (nI R), .int (nI F), .int gn, .int (nI n), .int (nI b), .ref mf, .ref ms, .ref mi, .ref mm, .ref mk, .ref mq, .ref mn, .ref mu, .ref mv])), (mf, .inl (cI, 6, .inl frA)), (ms, .inl (cI, 6, .inl stA)), (mi, .inl (cI, 12, .inl fz)), (mm, .inl (cI, 144, .inl ml)), (mk, .inl (cI, 12, .inl kp)), (mq, .inl (cI, 144, .inl km)), (mn, .inl (cI, 12, .inl nx)), (mu, .inl (cI, 4, .inl sm)), (mv, .inl (cZ, 144, .inl sn))] (alM C fz R) (fun u9 : (Nat → Int32) × (Nat → Int32) => [(mp, .inr (4, [.int tw, .int (nI C), .int (nI R), .int (nI F), .int gn, .int (nI n), .int (nI b), .ref mf, .ref ms, .ref mi, .ref mm, .ref mk, .ref mq, .ref mn, .ref mu, .ref mv])), (mf, .inl (cI, 6, .inl frA)), (ms, .inl (cI, 6, .inl stA)), (mi, .inl (cI, 12, .inl fz)), (mm, .inl (cI, 144, .inl ml)), (mk, .inl (cI, 12, .inl kp)), (mq, .inl (cI, 144, .inl km)), (mn, .inl (cI, 12, .inl (u9.1))), (mu, .inl (cI, 4, .inl sm)), (mv, .inl (cZ, 144, .inl (u9.2)))]) := by
  refine f_entJ_i (by decide) rfl (Nat.le_of_ble_eq_true rfl) ?_
  intro pg ev s m below meth cd hx hb hr hts hown hlocks hml hnm hsz hP hK hN A hD hA hS ls hl
  have hown : s.vm.findClass RX4 = some m.cls := hown
  have hl : lv_has ls 8 [(0, .ref mp), (1, .int 1)] := hl
  obtain ⟨hP, hD⟩ := f_rep (g := sfill (fun _ => 0) sn 0) hP hD 9 rfl (fun j _ => sfill_0 _ _ j)
  have hP : va_P D vwCl [(mp, .inr (4, [.int tw, .int (nI C), .int (nI R), .int (nI F), .int gn, .int (nI n), .int (nI b), .ref mf, .ref ms, .ref mi, .ref mm, .ref mk, .ref mq, .ref mn, .ref mu, .ref mv])), (mf, .inl (cI, 6, .inl frA)), (ms, .inl (cI, 6, .inl stA)), (mi, .inl (cI, 12, .inl fz)), (mm, .inl (cI, 144, .inl ml)), (mk, .inl (cI, 12, .inl kp)), (mq, .inl (cI, 144, .inl km)), (mn, .inl (cI, 12, .inl nx)), (mu, .inl (cI, 4, .inl sm)), (mv, .inl (cZ, 144, .inl (sfill (fun _ => 0) sn 0)))] _ := hP
  have hD : va_D A [(mp, .inr (4, [.int tw, .int (nI C), .int (nI R), .int (nI F), .int gn, .int (nI n), .int (nI b), .ref mf, .ref ms, .ref mi, .ref mm, .ref mk, .ref mq, .ref mn, .ref mu, .ref mv])), (mf, .inl (cI, 6, .inl frA)), (ms, .inl (cI, 6, .inl stA)), (mi, .inl (cI, 12, .inl fz)), (mm, .inl (cI, 144, .inl ml)), (mk, .inl (cI, 12, .inl kp)), (mq, .inl (cI, 144, .inl km)), (mn, .inl (cI, 12, .inl nx)), (mu, .inl (cI, 4, .inl sm)), (mv, .inl (cZ, 144, .inl (sfill (fun _ => 0) sn 0)))] := hD
  refine lv_iconst (v := 0) hx hb dX4_flowers_0 (by decide) ?_
  refine lv_istore_n (lv' := [(2, .int 0), (0, .ref mp), (1, .int 1)]) hx hb dX4_flowers_1 rfl hl (by decide) rfl (fun ls hl => ?_)
  refine lv_iconst (v := 0) hx hb dX4_flowers_2 (by decide) ?_
  refine lv_istore_n (lv' := [(3, .int 0), (2, .int 0), (0, .ref mp), (1, .int 1)]) hx hb dX4_flowers_3 rfl hl (by decide) rfl (fun ls hl => ?_)
  refine lv_iconst (v := 0) hx hb dX4_flowers_4 (by decide) ?_
  refine lv_istore (lv' := [(4, .int 0), (3, .int 0), (2, .int 0), (0, .ref mp), (1, .int 1)]) hx hb dX4_flowers_5 hl (by decide) rfl (fun ls hl => ?_)
  refine f_loopW (σ := Nat) (D := D) (A := A) (H0 := s.heap) 8 7 (fun u9 => [(4, .int (nI u9)), (3, .int 0), (2, .int 0), (0, .ref mp), (1, .int 1)]) (fun u9 => [(mp, .inr (4, [.int tw, .int (nI C), .int (nI R), .int (nI F), .int gn, .int (nI n), .int (nI b), .ref mf, .ref ms, .ref mi, .ref mm, .ref mk, .ref mq, .ref mn, .ref mu, .ref mv])), (mf, .inl (cI, 6, .inl frA)), (ms, .inl (cI, 6, .inl stA)), (mi, .inl (cI, 12, .inl fz)), (mm, .inl (cI, 144, .inl ml)), (mk, .inl (cI, 12, .inl kp)), (mq, .inl (cI, 144, .inl km)), (mn, .inl (cI, 12, .inl nx)), (mu, .inl (cI, 4, .inl sm)), (mv, .inl (cZ, 144, .inl (sfill (fun _ => 0) sn u9)))]) (fun u9 => u9 ≤ 144) (fun u9 => 144 - u9)
      (fun u9 hi_2 ih_1 H locs hP hD hS ls hl => ?_) 0 (by omega) hP hD hS (lv_sub hl [0, 1, 2, 3, 4] rfl)
  obtain ⟨k, rfl⟩ : ∃ z, z = u9 := ⟨_, rfl⟩
  have hi_2 : k ≤ 144 := hi_2
  obtain hk := hi_2
  have hl : lv_has ls 8 [(4, .int (nI k)), (3, .int 0), (2, .int 0), (0, .ref mp), (1, .int 1)] := hl
  have hP : va_P D vwCl [(mp, .inr (4, [.int tw, .int (nI C), .int (nI R), .int (nI F), .int gn, .int (nI n), .int (nI b), .ref mf, .ref ms, .ref mi, .ref mm, .ref mk, .ref mq, .ref mn, .ref mu, .ref mv])), (mf, .inl (cI, 6, .inl frA)), (ms, .inl (cI, 6, .inl stA)), (mi, .inl (cI, 12, .inl fz)), (mm, .inl (cI, 144, .inl ml)), (mk, .inl (cI, 12, .inl kp)), (mq, .inl (cI, 144, .inl km)), (mn, .inl (cI, 12, .inl nx)), (mu, .inl (cI, 4, .inl sm)), (mv, .inl (cZ, 144, .inl (sfill (fun _ => 0) sn k)))] _ := hP
  have hD : va_D A [(mp, .inr (4, [.int tw, .int (nI C), .int (nI R), .int (nI F), .int gn, .int (nI n), .int (nI b), .ref mf, .ref ms, .ref mi, .ref mm, .ref mk, .ref mq, .ref mn, .ref mu, .ref mv])), (mf, .inl (cI, 6, .inl frA)), (ms, .inl (cI, 6, .inl stA)), (mi, .inl (cI, 12, .inl fz)), (mm, .inl (cI, 144, .inl ml)), (mk, .inl (cI, 12, .inl kp)), (mq, .inl (cI, 144, .inl km)), (mn, .inl (cI, 12, .inl nx)), (mu, .inl (cI, 4, .inl sm)), (mv, .inl (cZ, 144, .inl (sfill (fun _ => 0) sn k)))] := hD
  refine lv_iload hx hb dX4_flowers_7 (lv_at hl 0 rfl) ?_
  refine lv_sipush (v := 144) hx hb dX4_flowers_9 (by decide) ?_
  refine lv_icmp_ge (tgt := 29) hx hb dX4_flowers_12 (by decide) (fun c_3 => ?_) (fun c_3 => ?_)
  · have n_3 : 144 ≤ k := (nI_leI (a := 144) (b := k) (by omega) (by omega)).mp c_3
    obtain ⟨hP, hD⟩ := f_rep (g := fun _ => 0) hP hD 9 rfl (fun j hj => by rw [show k = 144 by omega, sfill_lt hj])
    have hP : va_P D vwCl [(mp, .inr (4, [.int tw, .int (nI C), .int (nI R), .int (nI F), .int gn, .int (nI n), .int (nI b), .ref mf, .ref ms, .ref mi, .ref mm, .ref mk, .ref mq, .ref mn, .ref mu, .ref mv])), (mf, .inl (cI, 6, .inl frA)), (ms, .inl (cI, 6, .inl stA)), (mi, .inl (cI, 12, .inl fz)), (mm, .inl (cI, 144, .inl ml)), (mk, .inl (cI, 12, .inl kp)), (mq, .inl (cI, 144, .inl km)), (mn, .inl (cI, 12, .inl nx)), (mu, .inl (cI, 4, .inl sm)), (mv, .inl (cZ, 144, .inl (fun _ => 0)))] _ := hP
    have hD : va_D A [(mp, .inr (4, [.int tw, .int (nI C), .int (nI R), .int (nI F), .int gn, .int (nI n), .int (nI b), .ref mf, .ref ms, .ref mi, .ref mm, .ref mk, .ref mq, .ref mn, .ref mu, .ref mv])), (mf, .inl (cI, 6, .inl frA)), (ms, .inl (cI, 6, .inl stA)), (mi, .inl (cI, 12, .inl fz)), (mm, .inl (cI, 144, .inl ml)), (mk, .inl (cI, 12, .inl kp)), (mq, .inl (cI, 144, .inl km)), (mn, .inl (cI, 12, .inl nx)), (mu, .inl (cI, 4, .inl sm)), (mv, .inl (cZ, 144, .inl (fun _ => 0)))] := hD
    refine lv_iconst (v := 0) hx hb dX4_flowers_29 (by decide) ?_
    refine lv_istore (lv' := [(4, .int 0), (3, .int 0), (2, .int 0), (0, .ref mp), (1, .int 1)]) hx hb dX4_flowers_30 hl (by decide) rfl (fun ls hl => ?_)
    refine f_loopW (σ := Nat × (Nat → Int32) × (Nat → Int32)) (D := D) (A := A) (H0 := s.heap) 8 32 (fun u9 => [(4, .int (nI (u9.1))), (3, .int (alM C fz (u9.1))), (2, .int (alC C fz (u9.1))), (0, .ref mp), (1, .int 1)]) (fun u9 => [(mp, .inr (4, [.int tw, .int (nI C), .int (nI R), .int (nI F), .int gn, .int (nI n), .int (nI b), .ref mf, .ref ms, .ref mi, .ref mm, .ref mk, .ref mq, .ref mn, .ref mu, .ref mv])), (mf, .inl (cI, 6, .inl frA)), (ms, .inl (cI, 6, .inl stA)), (mi, .inl (cI, 12, .inl fz)), (mm, .inl (cI, 144, .inl ml)), (mk, .inl (cI, 12, .inl kp)), (mq, .inl (cI, 144, .inl km)), (mn, .inl (cI, 12, .inl (u9.2.1))), (mu, .inl (cI, 4, .inl sm)), (mv, .inl (cZ, 144, .inl (u9.2.2)))]) (fun u9 => (u9.1) ≤ R ∧ FI C R fz (alL C fz (u9.1)) (u9.2.2)) (fun u9 => R - (u9.1))
        (fun u9 hi_5 ih_4 H locs hP hD hS ls hl => ?_) (0, nx, (fun _ => 0)) (⟨Nat.zero_le _, FI_0⟩) hP hD hS (lv_sub hl [0, 1, 2, 3, 4] rfl)
    obtain ⟨a, x3, s3⟩ := u9
    have hi_5 : a ≤ R ∧ FI C R fz (alL C fz a) s3 := hi_5
    obtain ⟨ha, haF⟩ := hi_5
    have hl : lv_has ls 8 [(4, .int (nI a)), (3, .int (alM C fz a)), (2, .int (alC C fz a)), (0, .ref mp), (1, .int 1)] := hl
    have hP : va_P D vwCl [(mp, .inr (4, [.int tw, .int (nI C), .int (nI R), .int (nI F), .int gn, .int (nI n), .int (nI b), .ref mf, .ref ms, .ref mi, .ref mm, .ref mk, .ref mq, .ref mn, .ref mu, .ref mv])), (mf, .inl (cI, 6, .inl frA)), (ms, .inl (cI, 6, .inl stA)), (mi, .inl (cI, 12, .inl fz)), (mm, .inl (cI, 144, .inl ml)), (mk, .inl (cI, 12, .inl kp)), (mq, .inl (cI, 144, .inl km)), (mn, .inl (cI, 12, .inl x3)), (mu, .inl (cI, 4, .inl sm)), (mv, .inl (cZ, 144, .inl s3))] _ := hP
    have hD : va_D A [(mp, .inr (4, [.int tw, .int (nI C), .int (nI R), .int (nI F), .int gn, .int (nI n), .int (nI b), .ref mf, .ref ms, .ref mi, .ref mm, .ref mk, .ref mq, .ref mn, .ref mu, .ref mv])), (mf, .inl (cI, 6, .inl frA)), (ms, .inl (cI, 6, .inl stA)), (mi, .inl (cI, 12, .inl fz)), (mm, .inl (cI, 144, .inl ml)), (mk, .inl (cI, 12, .inl kp)), (mq, .inl (cI, 144, .inl km)), (mn, .inl (cI, 12, .inl x3)), (mu, .inl (cI, 4, .inl sm)), (mv, .inl (cZ, 144, .inl s3))] := hD
    refine lv_iload hx hb dX4_flowers_32 (lv_at hl 0 rfl) ?_
    refine lv_aload_n hx hb dX4_flowers_34 rfl (lv_at hl 3 rfl) ?_
    refine va_get (D := D) (ci := 4) (v := .int (nI R)) (C := RX4) (T := TX4) (N := 16) hx hb hts wb_X4_flowers1_4 hown hK hP 0 rfl rfl 2 (by decide) (hts _ wi_X4_flowers1_2) (fun _ h9 => h9) rfl dX4_flowers_35 ?_
    refine lv_icmp_ge (tgt := 177) hx hb dX4_flowers_38 (by decide) (fun c_6 => ?_) (fun c_6 => ?_)
    · have n_6 : R ≤ a := (nI_leI (a := R) (b := a) (by omega) (by omega)).mp c_6
      refine lv_iload_n hx hb dX4_flowers_177 rfl (lv_at hl 4 rfl) ?_
      refine lv_if_eq (tgt := 185) hx hb dX4_flowers_178 (by decide) (fun c_7 => ?_) (fun c_7 => ?_)
      · exact absurd c_7 (by decide)
      · refine lv_iload_n hx hb dX4_flowers_181 rfl (lv_at hl 1 rfl) ?_
        refine lv_goto (tgt := 186) hx hb dX4_flowers_182 (by decide) ?_
        exact f_retJ_i (x3, s3) hx hb hr hlocks hP hD hS dX4_flowers_186 (by rw [show a = R by omega])
    · have n_6 : a < R := Nat.lt_of_not_le (fun h => c_6 ((nI_leI (a := R) (b := a) (by omega) (by omega)).mpr h))
      refine lv_iconst (v := 0) hx hb dX4_flowers_41 (by decide) ?_
      refine lv_istore (lv' := [(5, .int 0), (4, .int (nI a)), (3, .int (alM C fz a)), (2, .int (alC C fz a)), (0, .ref mp), (1, .int 1)]) hx hb dX4_flowers_42 hl (by decide) rfl (fun ls hl => ?_)
      refine f_loopW (σ := Nat × (Nat → Int32) × (Nat → Int32)) (D := D) (A := A) (H0 := s.heap) 8 44 (fun u9 => [(5, .int (nI (u9.1))), (4, .int (nI a)), (3, .int (rwM a (alL C fz a) (alM C fz a) (u9.1))), (2, .int (rwC a (alL C fz a) (alC C fz a) (u9.1))), (0, .ref mp), (1, .int 1)]) (fun u9 => [(mp, .inr (4, [.int tw, .int (nI C), .int (nI R), .int (nI F), .int gn, .int (nI n), .int (nI b), .ref mf, .ref ms, .ref mi, .ref mm, .ref mk, .ref mq, .ref mn, .ref mu, .ref mv])), (mf, .inl (cI, 6, .inl frA)), (ms, .inl (cI, 6, .inl stA)), (mi, .inl (cI, 12, .inl fz)), (mm, .inl (cI, 144, .inl ml)), (mk, .inl (cI, 12, .inl kp)), (mq, .inl (cI, 144, .inl km)), (mn, .inl (cI, 12, .inl (u9.2.1))), (mu, .inl (cI, 4, .inl sm)), (mv, .inl (cZ, 144, .inl (u9.2.2)))]) (fun u9 => (u9.1) ≤ C ∧ FI C R fz (rwL a (alL C fz a) (u9.1)) (u9.2.2)) (fun u9 => C - (u9.1))
          (fun u9 hi_9 ih_8 H locs hP hD hS ls hl => ?_) (0, x3, s3) (⟨Nat.zero_le _, haF⟩) hP hD hS (lv_sub hl [0, 1, 2, 3, 4, 5] rfl)
      obtain ⟨q, x4, s4⟩ := u9
      have hi_9 : q ≤ C ∧ FI C R fz (rwL a (alL C fz a) q) s4 := hi_9
      obtain ⟨hq, hqF⟩ := hi_9
      have hl : lv_has ls 8 [(5, .int (nI q)), (4, .int (nI a)), (3, .int (rwM a (alL C fz a) (alM C fz a) q)), (2, .int (rwC a (alL C fz a) (alC C fz a) q)), (0, .ref mp), (1, .int 1)] := hl
      have hP : va_P D vwCl [(mp, .inr (4, [.int tw, .int (nI C), .int (nI R), .int (nI F), .int gn, .int (nI n), .int (nI b), .ref mf, .ref ms, .ref mi, .ref mm, .ref mk, .ref mq, .ref mn, .ref mu, .ref mv])), (mf, .inl (cI, 6, .inl frA)), (ms, .inl (cI, 6, .inl stA)), (mi, .inl (cI, 12, .inl fz)), (mm, .inl (cI, 144, .inl ml)), (mk, .inl (cI, 12, .inl kp)), (mq, .inl (cI, 144, .inl km)), (mn, .inl (cI, 12, .inl x4)), (mu, .inl (cI, 4, .inl sm)), (mv, .inl (cZ, 144, .inl s4))] _ := hP
      have hD : va_D A [(mp, .inr (4, [.int tw, .int (nI C), .int (nI R), .int (nI F), .int gn, .int (nI n), .int (nI b), .ref mf, .ref ms, .ref mi, .ref mm, .ref mk, .ref mq, .ref mn, .ref mu, .ref mv])), (mf, .inl (cI, 6, .inl frA)), (ms, .inl (cI, 6, .inl stA)), (mi, .inl (cI, 12, .inl fz)), (mm, .inl (cI, 144, .inl ml)), (mk, .inl (cI, 12, .inl kp)), (mq, .inl (cI, 144, .inl km)), (mn, .inl (cI, 12, .inl x4)), (mu, .inl (cI, 4, .inl sm)), (mv, .inl (cZ, 144, .inl s4))] := hD
      refine lv_iload hx hb dX4_flowers_44 (lv_at hl 0 rfl) ?_
      refine lv_aload_n hx hb dX4_flowers_46 rfl (lv_at hl 4 rfl) ?_
      refine va_get (D := D) (ci := 4) (v := .int (nI C)) (C := RX4) (T := TX4) (N := 16) hx hb hts wb_X4_flowers1_4 hown hK hP 0 rfl rfl 1 (by decide) (hts _ wi_X4_flowers1_3) (fun _ h9 => h9) rfl dX4_flowers_47 ?_
      refine lv_icmp_ge (tgt := 171) hx hb dX4_flowers_50 (by decide) (fun c_10 => ?_) (fun c_10 => ?_)
      · have n_10 : C ≤ q := (nI_leI (a := C) (b := q) (by omega) (by omega)).mp c_10
        have e9_11 : (rwC a (alL C fz a) (alC C fz a) q) = (alC C fz (a + 1)) := by rw [show q = C by omega]; rfl
        have hl : lv_has ls 8 [(5, .int (nI q)), (4, .int (nI a)), (3, .int (rwM a (alL C fz a) (alM C fz a) q)), (2, .int (alC C fz (a + 1))), (0, .ref mp), (1, .int 1)] := by rw [← e9_11]; exact hl
        have e9_12 : (rwM a (alL C fz a) (alM C fz a) q) = (alM C fz (a + 1)) := by rw [show q = C by omega]; rfl
        have hl : lv_has ls 8 [(5, .int (nI q)), (4, .int (nI a)), (3, .int (alM C fz (a + 1))), (2, .int (alC C fz (a + 1))), (0, .ref mp), (1, .int 1)] := by rw [← e9_12]; exact hl
        refine lv_iinc (v := nI (a + 1)) (lv' := [(4, .int (nI (a + 1))), (5, .int (nI q)), (3, .int (alM C fz (a + 1))), (2, .int (alC C fz (a + 1))), (0, .ref mp), (1, .int 1)]) hx hb dX4_flowers_171 hl (k := 1) rfl (nI_1 _) (by decide) rfl (fun ls hl => ?_)
        refine lv_goto (tgt := 32) hx hb dX4_flowers_174 (by decide) ?_
        exact ih_4 ((a + 1), x4, s4) (⟨by omega, by have h9 := hqF; rw [show q = C by omega] at h9; exact h9⟩) (by first | omega | (simp only []; omega) | (show _ < _; simp only []; omega)) H locs hP hD hS ls (lv_sub hl [0, 2, 3, 4, 5] rfl)
      · have n_10 : q < C := Nat.lt_of_not_le (fun h => c_10 ((nI_leI (a := C) (b := q) (by omega) (by omega)).mpr h))
        refine lv_aload_n hx hb dX4_flowers_53 rfl (lv_at hl 4 rfl) ?_
        refine lv_iload hx hb dX4_flowers_54 (lv_at hl 0 rfl) ?_
        refine lv_iload hx hb dX4_flowers_56 (lv_at hl 1 rfl) ?_
        refine f_callVi ⟨hx, hb, hml, hown, hts⟩ hP hD hS hA hK hN [0, 1, 2, 3, 4, 5, 6, 7, 8, 9] (w2 := [(mp, .inr (4, [.int tw, .int (nI C), .int (nI R), .int (nI F), .int gn, .int (nI n), .int (nI b), .ref mf, .ref ms, .ref mi, .ref mm, .ref mk, .ref mq, .ref mn, .ref mu, .ref mv])), (mf, .inl (cI, 6, .inl frA)), (ms, .inl (cI, 6, .inl stA)), (mi, .inl (cI, 12, .inl fz)), (mm, .inl (cI, 144, .inl ml)), (mk, .inl (cI, 12, .inl kp)), (mq, .inl (cI, 144, .inl km)), (mn, .inl (cI, 12, .inl x4)), (mu, .inl (cI, 4, .inl sm)), (mv, .inl (cZ, 144, .inl s4))])
            (c_X4_is (l := l) (D := D) (cI := cI) (cZ := cZ) (cJ := cJ) (sz := _) (mp := mp) (mf := mf) (ms := ms) (mi := mi) (mm := mm) (mk := mk) (mq := mq) (mn := mn) (mu := mu) (mv := mv) (C := C) (R := R) (F := F) (n := n) (b := b) (tw := tw) (gn := gn) (fz := fz) (ml := ml) (frA := frA) (stA := stA) (kp := kp) (km := km) (nx := x4) (sm := sm) (sn := s4) (col := nI q) (r := a) (hC3 := (by first | assumption | omega)) (hC := (by first | assumption | omega)) (hR3 := (by first | assumption | omega)) (hR := (by first | assumption | omega)) (hF := (by first | assumption | omega)) (hn := (by first | assumption | omega)) (hb0 := (by first | assumption | omega)) (hr0 := (by first | assumption | omega))) (cwV 2 hts gX4_flowers_X4_is rfl rfl rfl k_X4_is ⟨Nat.le_of_ble_eq_true rfl, Nat.le_of_ble_eq_true rfl⟩) 0 rfl rfl rfl rfl [mp, mf, ms, mi, mm, mk, mq, mn, mu, mv] rfl rfl rfl rfl rfl hl.1 (Nat.le_of_ble_eq_true rfl) dX4_flowers_58 ⟨Nat.le_of_ble_eq_true rfl, Nat.le_of_ble_eq_true rfl⟩ (fun H locs hP hD hS => ?_)
        refine lv_if_eq (tgt := 165) hx hb dX4_flowers_61 (by decide) (fun c_13 => ?_) (fun c_13 => ?_)
        · have hms := fl_miss (IV_R hI hC) hC hR hqF (show a < R by omega) (show q < C by omega) (Or.inl c_13)
          have hmiss : FI C R fz (rwL a (alL C fz a) (q + 1)) s4 := by rw [rwL, hms.2]; exact hqF
          have e9_14 : (rwC a (alL C fz a) (alC C fz a) q) = (rwC a (alL C fz a) (alC C fz a) (q + 1)) := by first | with_reducible rfl | exact (rwC_miss hms.1).symm
          have hl : lv_has ls 8 [(5, .int (nI q)), (4, .int (nI a)), (3, .int (rwM a (alL C fz a) (alM C fz a) q)), (2, .int (rwC a (alL C fz a) (alC C fz a) (q + 1))), (0, .ref mp), (1, .int 1)] := by rw [← e9_14]; exact hl
          have e9_15 : (rwM a (alL C fz a) (alM C fz a) q) = (rwM a (alL C fz a) (alM C fz a) (q + 1)) := by first | with_reducible rfl | exact (rwM_miss (alM_nn a) hms.1).symm
          have hl : lv_has ls 8 [(5, .int (nI q)), (4, .int (nI a)), (3, .int (rwM a (alL C fz a) (alM C fz a) (q + 1))), (2, .int (rwC a (alL C fz a) (alC C fz a) (q + 1))), (0, .ref mp), (1, .int 1)] := by rw [← e9_15]; exact hl
          refine lv_iinc (v := nI (q + 1)) (lv' := [(5, .int (nI (q + 1))), (4, .int (nI a)), (3, .int (rwM a (alL C fz a) (alM C fz a) (q + 1))), (2, .int (rwC a (alL C fz a) (alC C fz a) (q + 1))), (0, .ref mp), (1, .int 1)]) hx hb dX4_flowers_165 hl (k := 0) rfl (nI_1 _) (by decide) rfl (fun ls hl => ?_)
          refine lv_goto (tgt := 44) hx hb dX4_flowers_168 (by decide) ?_
          exact ih_8 ((q + 1), x4, s4) (⟨by omega, by first | exact hmiss | exact hh.2.2 _ (MK_R (by omega) hmk1)⟩) (by first | omega | (simp only []; omega) | (show _ < _; simp only []; omega)) H locs hP hD hS ls (lv_sub hl [0, 1, 2, 3, 4, 5] rfl)
        · have hfro := c_13
          refine lv_aload_n hx hb dX4_flowers_64 rfl (lv_at hl 4 rfl) ?_
          refine va_get (D := D) (ci := 4) (v := .ref mv) (C := RX4) (T := TX4) (N := 16) hx hb hts wb_X4_flowers1_4 hown hK hP 0 rfl rfl 15 (by decide) (hts _ wi_X4_flowers1_1) (fun _ h9 => h9) rfl dX4_flowers_65 ?_
          refine lv_bipush (v := 12) hx hb dX4_flowers_68 (by decide) ?_
          refine lv_iload hx hb dX4_flowers_70 (lv_at hl 1 rfl) ?_
          refine lv_imul hx hb dX4_flowers_72 ?_
          refine f_topi (y := nI (12 * a)) (pk_mul 12 a) ?_
          refine lv_iload hx hb dX4_flowers_73 (lv_at hl 0 rfl) ?_
          refine lv_iadd hx hb dX4_flowers_75 ?_
          refine f_topi (y := nI ((12 * a) + q)) (nI_add (12 * a) q) ?_
          refine f_zald (k := ((12 * a) + q)) hx hb hK hP 9 1 rfl rfl rfl (by omega) (by first | decide | omega) dX4_flowers_76 ?_
          refine lv_if_eq (tgt := 83) hx hb dX4_flowers_77 (by decide) (fun c_16 => ?_) (fun c_16 => ?_)
          · have hh := fl_hit (IV_R hI hC) hC hR hqF (show a < R by omega) (show q < C by omega) hfro c_16
            refine lv_iinc (v := (rwC a (alL C fz a) (alC C fz a) q) + 1) (lv' := [(2, .int ((rwC a (alL C fz a) (alC C fz a) q) + 1)), (5, .int (nI q)), (4, .int (nI a)), (3, .int (rwM a (alL C fz a) (alM C fz a) q)), (0, .ref mp), (1, .int 1)]) hx hb dX4_flowers_83 hl (k := 3) rfl (rfl) (by decide) rfl (fun ls hl => ?_)
            have e9_17 : ((rwC a (alL C fz a) (alC C fz a) q) + 1) = (rwC a (alL C fz a) (alC C fz a) (q + 1)) := by rw [rwC, if_neg hh.2.1]
            have hl : lv_has ls 8 [(2, .int (rwC a (alL C fz a) (alC C fz a) (q + 1))), (5, .int (nI q)), (4, .int (nI a)), (3, .int (rwM a (alL C fz a) (alM C fz a) q)), (0, .ref mp), (1, .int 1)] := by rw [← e9_17]; exact hl
            refine lv_iload_n hx hb dX4_flowers_86 rfl (lv_at hl 3 rfl) ?_
            refine lv_aload_n hx hb dX4_flowers_87 rfl (lv_at hl 4 rfl) ?_
            refine lv_iload hx hb dX4_flowers_88 (lv_at hl 1 rfl) ?_
            refine lv_iload hx hb dX4_flowers_90 (lv_at hl 2 rfl) ?_
            refine f_callVi ⟨hx, hb, hml, hown, hts⟩ hP hD hS hA hK hN [0, 1, 2, 3, 4, 5, 6, 7, 8, 9] (w2 := [(mp, .inr (4, [.int tw, .int (nI C), .int (nI R), .int (nI F), .int gn, .int (nI n), .int (nI b), .ref mf, .ref ms, .ref mi, .ref mm, .ref mk, .ref mq, .ref mn, .ref mu, .ref mv])), (mf, .inl (cI, 6, .inl frA)), (ms, .inl (cI, 6, .inl stA)), (mi, .inl (cI, 12, .inl fz)), (mm, .inl (cI, 144, .inl ml)), (mk, .inl (cI, 12, .inl kp)), (mq, .inl (cI, 144, .inl km)), (mn, .inl (cI, 12, .inl (sfill (spF fz q a) x4 R))), (mu, .inl (cI, 4, .inl sm)), (mv, .inl (cZ, 144, .inl s4))])
                (c_X4_spread (l := l) (D := D) (cI := cI) (cZ := cZ) (cJ := cJ) (sz := _) (mp := mp) (mf := mf) (ms := ms) (mi := mi) (mm := mm) (mk := mk) (mq := mq) (mn := mn) (mu := mu) (mv := mv) (C := C) (R := R) (F := F) (n := n) (b := b) (tw := tw) (gn := gn) (fz := fz) (ml := ml) (frA := frA) (stA := stA) (kp := kp) (km := km) (nx := x4) (sm := sm) (sn := s4) (c := q) (r := a) (hC3 := (by first | assumption | omega)) (hC := (by first | assumption | omega)) (hR3 := (by first | assumption | omega)) (hR := (by first | assumption | omega)) (hF := (by first | assumption | omega)) (hn := (by first | assumption | omega)) (hb0 := (by first | assumption | omega)) (hI := (by first | assumption | omega)) (hc0 := (by first | assumption | omega)) (hr0 := (by first | assumption | omega))) (cwV 2 hts gX4_flowers_X4_spread rfl rfl rfl k_X4_spread ⟨Nat.le_of_ble_eq_true rfl, Nat.le_of_ble_eq_true rfl⟩) 0 rfl rfl rfl rfl [mp, mf, ms, mi, mm, mk, mq, mn, mu, mv] rfl rfl rfl rfl rfl hl.1 (Nat.le_of_ble_eq_true rfl) dX4_flowers_92 ⟨Nat.le_of_ble_eq_true rfl, Nat.le_of_ble_eq_true rfl⟩ (fun H locs hP hD hS => ?_)
            refine va_mmax hx hb (hml.trans hl.1.symm) hown (hts _ wi_X4_flowers1_4) (hts _ wi_X4_flowers1_5) (hts _ wi_X4_flowers1_6) (hts _ wi_X4_flowers1_7) (Nat.le_of_ble_eq_true rfl) (Nat.le_of_ble_eq_true rfl) (Nat.le_of_ble_eq_true rfl) (Nat.le_of_ble_eq_true rfl) dX4_flowers_95 ?_
            refine f_topi (y := rwM a (alL C fz a) (alM C fz a) (q + 1)) (by rw [hh.1]; rfl) ?_
            refine lv_istore_n (lv' := [(3, .int (rwM a (alL C fz a) (alM C fz a) (q + 1))), (2, .int (rwC a (alL C fz a) (alC C fz a) (q + 1))), (5, .int (nI q)), (4, .int (nI a)), (0, .ref mp), (1, .int 1)]) hx hb dX4_flowers_98 rfl hl (by decide) rfl (fun ls hl => ?_)
            refine lv_iconst (v := 0) hx hb dX4_flowers_99 (by decide) ?_
            refine lv_istore (lv' := [(6, .int 0), (3, .int (rwM a (alL C fz a) (alM C fz a) (q + 1))), (2, .int (rwC a (alL C fz a) (alC C fz a) (q + 1))), (5, .int (nI q)), (4, .int (nI a)), (0, .ref mp), (1, .int 1)]) hx hb dX4_flowers_100 hl (by decide) rfl (fun ls hl => ?_)
            refine f_loopW (σ := Nat × (Nat → Int32)) (D := D) (A := A) (H0 := s.heap) 8 102 (fun u9 => [(6, .int (nI (u9.1))), (3, .int (rwM a (alL C fz a) (alM C fz a) (q + 1))), (2, .int (rwC a (alL C fz a) (alC C fz a) (q + 1))), (5, .int (nI q)), (4, .int (nI a)), (0, .ref mp), (1, .int 1)]) (fun u9 => [(mp, .inr (4, [.int tw, .int (nI C), .int (nI R), .int (nI F), .int gn, .int (nI n), .int (nI b), .ref mf, .ref ms, .ref mi, .ref mm, .ref mk, .ref mq, .ref mn, .ref mu, .ref mv])), (mf, .inl (cI, 6, .inl frA)), (ms, .inl (cI, 6, .inl stA)), (mi, .inl (cI, 12, .inl fz)), (mm, .inl (cI, 144, .inl ml)), (mk, .inl (cI, 12, .inl kp)), (mq, .inl (cI, 144, .inl km)), (mn, .inl (cI, 12, .inl (sfill (spF fz q a) x4 R))), (mu, .inl (cI, 4, .inl sm)), (mv, .inl (cZ, 144, .inl (u9.2)))]) (fun u9 => (u9.1) ≤ R ∧ MK C (spF fz q a) s4 (u9.1) 0 (u9.2)) (fun u9 => R - (u9.1))
                (fun u9 hi_19 ih_18 H locs hP hD hS ls hl => ?_) (0, s4) (⟨Nat.zero_le _, MK_0⟩) hP hD hS (lv_sub hl [0, 1, 2, 3, 4, 5, 6] rfl)
            obtain ⟨e, s5⟩ := u9
            have hi_19 : e ≤ R ∧ MK C (spF fz q a) s4 e 0 s5 := hi_19
            obtain ⟨he, hmk1⟩ := hi_19
            have hl : lv_has ls 8 [(6, .int (nI e)), (3, .int (rwM a (alL C fz a) (alM C fz a) (q + 1))), (2, .int (rwC a (alL C fz a) (alC C fz a) (q + 1))), (5, .int (nI q)), (4, .int (nI a)), (0, .ref mp), (1, .int 1)] := hl
            have hP : va_P D vwCl [(mp, .inr (4, [.int tw, .int (nI C), .int (nI R), .int (nI F), .int gn, .int (nI n), .int (nI b), .ref mf, .ref ms, .ref mi, .ref mm, .ref mk, .ref mq, .ref mn, .ref mu, .ref mv])), (mf, .inl (cI, 6, .inl frA)), (ms, .inl (cI, 6, .inl stA)), (mi, .inl (cI, 12, .inl fz)), (mm, .inl (cI, 144, .inl ml)), (mk, .inl (cI, 12, .inl kp)), (mq, .inl (cI, 144, .inl km)), (mn, .inl (cI, 12, .inl (sfill (spF fz q a) x4 R))), (mu, .inl (cI, 4, .inl sm)), (mv, .inl (cZ, 144, .inl s5))] _ := hP
            have hD : va_D A [(mp, .inr (4, [.int tw, .int (nI C), .int (nI R), .int (nI F), .int gn, .int (nI n), .int (nI b), .ref mf, .ref ms, .ref mi, .ref mm, .ref mk, .ref mq, .ref mn, .ref mu, .ref mv])), (mf, .inl (cI, 6, .inl frA)), (ms, .inl (cI, 6, .inl stA)), (mi, .inl (cI, 12, .inl fz)), (mm, .inl (cI, 144, .inl ml)), (mk, .inl (cI, 12, .inl kp)), (mq, .inl (cI, 144, .inl km)), (mn, .inl (cI, 12, .inl (sfill (spF fz q a) x4 R))), (mu, .inl (cI, 4, .inl sm)), (mv, .inl (cZ, 144, .inl s5))] := hD
            refine lv_iload hx hb dX4_flowers_102 (lv_at hl 0 rfl) ?_
            refine lv_aload_n hx hb dX4_flowers_104 rfl (lv_at hl 5 rfl) ?_
            refine va_get (D := D) (ci := 4) (v := .int (nI R)) (C := RX4) (T := TX4) (N := 16) hx hb hts wb_X4_flowers1_4 hown hK hP 0 rfl rfl 2 (by decide) (hts _ wi_X4_flowers1_2) (fun _ h9 => h9) rfl dX4_flowers_105 ?_
            refine lv_icmp_ge (tgt := 165) hx hb dX4_flowers_108 (by decide) (fun c_20 => ?_) (fun c_20 => ?_)
            · have n_20 : R ≤ e := (nI_leI (a := R) (b := e) (by omega) (by omega)).mp c_20
              have e9_21 : (rwC a (alL C fz a) (alC C fz a) (q + 1)) = (rwC a (alL C fz a) (alC C fz a) (q + 1)) := by first | with_reducible rfl | exact (rwC_miss hms.1).symm
              have hl : lv_has ls 8 [(6, .int (nI e)), (3, .int (rwM a (alL C fz a) (alM C fz a) (q + 1))), (2, .int (rwC a (alL C fz a) (alC C fz a) (q + 1))), (5, .int (nI q)), (4, .int (nI a)), (0, .ref mp), (1, .int 1)] := by rw [← e9_21]; exact hl
              have e9_22 : (rwM a (alL C fz a) (alM C fz a) (q + 1)) = (rwM a (alL C fz a) (alM C fz a) (q + 1)) := by first | with_reducible rfl | exact (rwM_miss (alM_nn a) hms.1).symm
              have hl : lv_has ls 8 [(6, .int (nI e)), (3, .int (rwM a (alL C fz a) (alM C fz a) (q + 1))), (2, .int (rwC a (alL C fz a) (alC C fz a) (q + 1))), (5, .int (nI q)), (4, .int (nI a)), (0, .ref mp), (1, .int 1)] := by rw [← e9_22]; exact hl
              refine lv_iinc (v := nI (q + 1)) (lv' := [(5, .int (nI (q + 1))), (6, .int (nI e)), (3, .int (rwM a (alL C fz a) (alM C fz a) (q + 1))), (2, .int (rwC a (alL C fz a) (alC C fz a) (q + 1))), (4, .int (nI a)), (0, .ref mp), (1, .int 1)]) hx hb dX4_flowers_165 hl (k := 3) rfl (nI_1 _) (by decide) rfl (fun ls hl => ?_)
              refine lv_goto (tgt := 44) hx hb dX4_flowers_168 (by decide) ?_
              exact ih_8 ((q + 1), sfill (spF fz q a) x4 R, s5) (⟨by omega, by first | exact hmiss | exact hh.2.2 _ (MK_R (by omega) hmk1)⟩) (by first | omega | (simp only []; omega) | (show _ < _; simp only []; omega)) H locs hP hD hS ls (lv_sub hl [0, 4, 2, 3, 5, 6] rfl)
            · have n_20 : e < R := Nat.lt_of_not_le (fun h => c_20 ((nI_leI (a := R) (b := e) (by omega) (by omega)).mpr h))
              refine lv_iconst (v := 0) hx hb dX4_flowers_111 (by decide) ?_
              refine lv_istore (lv' := [(7, .int 0), (6, .int (nI e)), (3, .int (rwM a (alL C fz a) (alM C fz a) (q + 1))), (2, .int (rwC a (alL C fz a) (alC C fz a) (q + 1))), (5, .int (nI q)), (4, .int (nI a)), (0, .ref mp), (1, .int 1)]) hx hb dX4_flowers_112 hl (by decide) rfl (fun ls hl => ?_)
              refine f_loopW (σ := Nat × (Nat → Int32)) (D := D) (A := A) (H0 := s.heap) 8 114 (fun u9 => [(7, .int (nI (u9.1))), (6, .int (nI e)), (3, .int (rwM a (alL C fz a) (alM C fz a) (q + 1))), (2, .int (rwC a (alL C fz a) (alC C fz a) (q + 1))), (5, .int (nI q)), (4, .int (nI a)), (0, .ref mp), (1, .int 1)]) (fun u9 => [(mp, .inr (4, [.int tw, .int (nI C), .int (nI R), .int (nI F), .int gn, .int (nI n), .int (nI b), .ref mf, .ref ms, .ref mi, .ref mm, .ref mk, .ref mq, .ref mn, .ref mu, .ref mv])), (mf, .inl (cI, 6, .inl frA)), (ms, .inl (cI, 6, .inl stA)), (mi, .inl (cI, 12, .inl fz)), (mm, .inl (cI, 144, .inl ml)), (mk, .inl (cI, 12, .inl kp)), (mq, .inl (cI, 144, .inl km)), (mn, .inl (cI, 12, .inl (sfill (spF fz q a) x4 R))), (mu, .inl (cI, 4, .inl sm)), (mv, .inl (cZ, 144, .inl (u9.2)))]) (fun u9 => (u9.1) ≤ C ∧ MK C (spF fz q a) s4 e (u9.1) (u9.2)) (fun u9 => C - (u9.1))
                  (fun u9 hi_24 ih_23 H locs hP hD hS ls hl => ?_) (0, s5) (⟨Nat.zero_le _, hmk1⟩) hP hD hS (lv_sub hl [0, 1, 2, 3, 4, 5, 6, 7] rfl)
              obtain ⟨v, s6⟩ := u9
              have hi_24 : v ≤ C ∧ MK C (spF fz q a) s4 e v s6 := hi_24
              obtain ⟨hv, hmk0⟩ := hi_24
              have hl : lv_has ls 8 [(7, .int (nI v)), (6, .int (nI e)), (3, .int (rwM a (alL C fz a) (alM C fz a) (q + 1))), (2, .int (rwC a (alL C fz a) (alC C fz a) (q + 1))), (5, .int (nI q)), (4, .int (nI a)), (0, .ref mp), (1, .int 1)] := hl
              have hP : va_P D vwCl [(mp, .inr (4, [.int tw, .int (nI C), .int (nI R), .int (nI F), .int gn, .int (nI n), .int (nI b), .ref mf, .ref ms, .ref mi, .ref mm, .ref mk, .ref mq, .ref mn, .ref mu, .ref mv])), (mf, .inl (cI, 6, .inl frA)), (ms, .inl (cI, 6, .inl stA)), (mi, .inl (cI, 12, .inl fz)), (mm, .inl (cI, 144, .inl ml)), (mk, .inl (cI, 12, .inl kp)), (mq, .inl (cI, 144, .inl km)), (mn, .inl (cI, 12, .inl (sfill (spF fz q a) x4 R))), (mu, .inl (cI, 4, .inl sm)), (mv, .inl (cZ, 144, .inl s6))] _ := hP
              have hD : va_D A [(mp, .inr (4, [.int tw, .int (nI C), .int (nI R), .int (nI F), .int gn, .int (nI n), .int (nI b), .ref mf, .ref ms, .ref mi, .ref mm, .ref mk, .ref mq, .ref mn, .ref mu, .ref mv])), (mf, .inl (cI, 6, .inl frA)), (ms, .inl (cI, 6, .inl stA)), (mi, .inl (cI, 12, .inl fz)), (mm, .inl (cI, 144, .inl ml)), (mk, .inl (cI, 12, .inl kp)), (mq, .inl (cI, 144, .inl km)), (mn, .inl (cI, 12, .inl (sfill (spF fz q a) x4 R))), (mu, .inl (cI, 4, .inl sm)), (mv, .inl (cZ, 144, .inl s6))] := hD
              refine lv_iload hx hb dX4_flowers_114 (lv_at hl 0 rfl) ?_
              refine lv_aload_n hx hb dX4_flowers_116 rfl (lv_at hl 6 rfl) ?_
              refine va_get (D := D) (ci := 4) (v := .int (nI C)) (C := RX4) (T := TX4) (N := 16) hx hb hts wb_X4_flowers1_4 hown hK hP 0 rfl rfl 1 (by decide) (hts _ wi_X4_flowers1_3) (fun _ h9 => h9) rfl dX4_flowers_117 ?_
              refine lv_icmp_ge (tgt := 159) hx hb dX4_flowers_120 (by decide) (fun c_25 => ?_) (fun c_25 => ?_)
              · have n_25 : C ≤ v := (nI_leI (a := C) (b := v) (by omega) (by omega)).mp c_25
                refine lv_iinc (v := nI (e + 1)) (lv' := [(6, .int (nI (e + 1))), (7, .int (nI v)), (3, .int (rwM a (alL C fz a) (alM C fz a) (q + 1))), (2, .int (rwC a (alL C fz a) (alC C fz a) (q + 1))), (5, .int (nI q)), (4, .int (nI a)), (0, .ref mp), (1, .int 1)]) hx hb dX4_flowers_159 hl (k := 1) rfl (nI_1 _) (by decide) rfl (fun ls hl => ?_)
                refine lv_goto (tgt := 102) hx hb dX4_flowers_162 (by decide) ?_
                exact ih_18 ((e + 1), s6) (⟨by omega, MK_row (by omega) hmk0⟩) (by first | omega | (simp only []; omega) | (show _ < _; simp only []; omega)) H locs hP hD hS ls (lv_sub hl [0, 2, 3, 4, 5, 6, 7] rfl)
              · have n_25 : v < C := Nat.lt_of_not_le (fun h => c_25 ((nI_leI (a := C) (b := v) (by omega) (by omega)).mpr h))
                refine lv_aload_n hx hb dX4_flowers_123 rfl (lv_at hl 6 rfl) ?_
                refine va_get (D := D) (ci := 4) (v := .ref mn) (C := RX4) (T := TX4) (N := 16) hx hb hts wb_X4_flowers1_4 hown hK hP 0 rfl rfl 13 (by decide) (hts _ wi_X4_flowers1_8) (fun _ h9 => h9) rfl dX4_flowers_124 ?_
                refine lv_iload hx hb dX4_flowers_127 (lv_at hl 1 rfl) ?_
                refine f_iald (k := e) hx hb hK hP 7 0 rfl rfl rfl (by omega) (by first | decide | omega) dX4_flowers_129 ?_
                refine f_topi (y := spF fz q a e) (sfill_lt (by omega)) ?_
                refine lv_iload hx hb dX4_flowers_130 (lv_at hl 0 rfl) ?_
                refine lv_ishr hx hb dX4_flowers_132 ?_
                refine lv_iconst (v := 1) hx hb dX4_flowers_133 (by decide) ?_
                refine lv_iand hx hb dX4_flowers_134 ?_
                refine lv_iconst (v := 1) hx hb dX4_flowers_135 (by decide) ?_
                refine lv_icmp_ne (tgt := 153) hx hb dX4_flowers_136 (by decide) (fun c_26 => ?_) (fun c_26 => ?_)
                · have hbit := c_26
                  refine lv_iinc (v := nI (v + 1)) (lv' := [(7, .int (nI (v + 1))), (6, .int (nI e)), (3, .int (rwM a (alL C fz a) (alM C fz a) (q + 1))), (2, .int (rwC a (alL C fz a) (alC C fz a) (q + 1))), (5, .int (nI q)), (4, .int (nI a)), (0, .ref mp), (1, .int 1)]) hx hb dX4_flowers_153 hl (k := 0) rfl (nI_1 _) (by decide) rfl (fun ls hl => ?_)
                  refine lv_goto (tgt := 114) hx hb dX4_flowers_156 (by decide) ?_
                  exact ih_23 ((v + 1), s6) (⟨by omega, by first | exact MK_no (by omega) hC hmk0 hbit | exact MK_yes (by omega) hC hmk0 hbit⟩) (by first | omega | (simp only []; omega) | (show _ < _; simp only []; omega)) H locs hP hD hS ls (lv_sub hl [0, 1, 2, 3, 4, 5, 6, 7] rfl)
                · have hbit := c_26
                  refine lv_aload_n hx hb dX4_flowers_139 rfl (lv_at hl 6 rfl) ?_
                  refine va_get (D := D) (ci := 4) (v := .ref mv) (C := RX4) (T := TX4) (N := 16) hx hb hts wb_X4_flowers1_4 hown hK hP 0 rfl rfl 15 (by decide) (hts _ wi_X4_flowers1_1) (fun _ h9 => h9) rfl dX4_flowers_140 ?_
                  refine lv_bipush (v := 12) hx hb dX4_flowers_143 (by decide) ?_
                  refine lv_iload hx hb dX4_flowers_145 (lv_at hl 1 rfl) ?_
                  refine lv_imul hx hb dX4_flowers_147 ?_
                  refine f_topi (y := nI (12 * e)) (pk_mul 12 e) ?_
                  refine lv_iload hx hb dX4_flowers_148 (lv_at hl 0 rfl) ?_
                  refine lv_iadd hx hb dX4_flowers_150 ?_
                  refine f_topi (y := nI ((12 * e) + v)) (nI_add (12 * e) v) ?_
                  refine lv_iconst (v := 1) hx hb dX4_flowers_151 (by decide) ?_
                  refine f_zast (k := ((12 * e) + v)) hx hb hK hP hD hS 9 1 rfl rfl rfl (by omega) (by first | decide | omega) dX4_flowers_152 (fun H locs hP hD hS => ?_)
                  have hP : va_P D vwCl [(mp, .inr (4, [.int tw, .int (nI C), .int (nI R), .int (nI F), .int gn, .int (nI n), .int (nI b), .ref mf, .ref ms, .ref mi, .ref mm, .ref mk, .ref mq, .ref mn, .ref mu, .ref mv])), (mf, .inl (cI, 6, .inl frA)), (ms, .inl (cI, 6, .inl stA)), (mi, .inl (cI, 12, .inl fz)), (mm, .inl (cI, 144, .inl ml)), (mk, .inl (cI, 12, .inl kp)), (mq, .inl (cI, 144, .inl km)), (mn, .inl (cI, 12, .inl (sfill (spF fz q a) x4 R))), (mu, .inl (cI, 4, .inl sm)), (mv, .inl (cZ, 144, .inl (upd s6 ((12 * e) + v) (vp_nar .boolean 1))))] _ := hP
                  have hD : va_D A [(mp, .inr (4, [.int tw, .int (nI C), .int (nI R), .int (nI F), .int gn, .int (nI n), .int (nI b), .ref mf, .ref ms, .ref mi, .ref mm, .ref mk, .ref mq, .ref mn, .ref mu, .ref mv])), (mf, .inl (cI, 6, .inl frA)), (ms, .inl (cI, 6, .inl stA)), (mi, .inl (cI, 12, .inl fz)), (mm, .inl (cI, 144, .inl ml)), (mk, .inl (cI, 12, .inl kp)), (mq, .inl (cI, 144, .inl km)), (mn, .inl (cI, 12, .inl (sfill (spF fz q a) x4 R))), (mu, .inl (cI, 4, .inl sm)), (mv, .inl (cZ, 144, .inl (upd s6 ((12 * e) + v) (vp_nar .boolean 1))))] := hD
                  refine lv_iinc (v := nI (v + 1)) (lv' := [(7, .int (nI (v + 1))), (6, .int (nI e)), (3, .int (rwM a (alL C fz a) (alM C fz a) (q + 1))), (2, .int (rwC a (alL C fz a) (alC C fz a) (q + 1))), (5, .int (nI q)), (4, .int (nI a)), (0, .ref mp), (1, .int 1)]) hx hb dX4_flowers_153 hl (k := 0) rfl (nI_1 _) (by decide) rfl (fun ls hl => ?_)
                  refine lv_goto (tgt := 114) hx hb dX4_flowers_156 (by decide) ?_
                  exact ih_23 ((v + 1), upd s6 ((12 * e) + v) (vp_nar .boolean 1)) (⟨by omega, by first | exact MK_no (by omega) hC hmk0 hbit | exact MK_yes (by omega) hC hmk0 hbit⟩) (by first | omega | (simp only []; omega) | (show _ < _; simp only []; omega)) H locs hP hD hS ls (lv_sub hl [0, 1, 2, 3, 4, 5, 6, 7] rfl)
          · have hms := fl_miss (IV_R hI hC) hC hR hqF (show a < R by omega) (show q < C by omega) (Or.inr c_16)
            have hmiss : FI C R fz (rwL a (alL C fz a) (q + 1)) s4 := by rw [rwL, hms.2]; exact hqF
            refine lv_goto (tgt := 165) hx hb dX4_flowers_80 (by decide) ?_
            have e9_27 : (rwC a (alL C fz a) (alC C fz a) q) = (rwC a (alL C fz a) (alC C fz a) (q + 1)) := by first | with_reducible rfl | exact (rwC_miss hms.1).symm
            have hl : lv_has ls 8 [(5, .int (nI q)), (4, .int (nI a)), (3, .int (rwM a (alL C fz a) (alM C fz a) q)), (2, .int (rwC a (alL C fz a) (alC C fz a) (q + 1))), (0, .ref mp), (1, .int 1)] := by rw [← e9_27]; exact hl
            have e9_28 : (rwM a (alL C fz a) (alM C fz a) q) = (rwM a (alL C fz a) (alM C fz a) (q + 1)) := by first | with_reducible rfl | exact (rwM_miss (alM_nn a) hms.1).symm
            have hl : lv_has ls 8 [(5, .int (nI q)), (4, .int (nI a)), (3, .int (rwM a (alL C fz a) (alM C fz a) (q + 1))), (2, .int (rwC a (alL C fz a) (alC C fz a) (q + 1))), (0, .ref mp), (1, .int 1)] := by rw [← e9_28]; exact hl
            refine lv_iinc (v := nI (q + 1)) (lv' := [(5, .int (nI (q + 1))), (4, .int (nI a)), (3, .int (rwM a (alL C fz a) (alM C fz a) (q + 1))), (2, .int (rwC a (alL C fz a) (alC C fz a) (q + 1))), (0, .ref mp), (1, .int 1)]) hx hb dX4_flowers_165 hl (k := 0) rfl (nI_1 _) (by decide) rfl (fun ls hl => ?_)
            refine lv_goto (tgt := 44) hx hb dX4_flowers_168 (by decide) ?_
            exact ih_8 ((q + 1), x4, s4) (⟨by omega, by first | exact hmiss | exact hh.2.2 _ (MK_R (by omega) hmk1)⟩) (by first | omega | (simp only []; omega) | (show _ < _; simp only []; omega)) H locs hP hD hS ls (lv_sub hl [0, 1, 2, 3, 4, 5] rfl)
  · have n_3 : k < 144 := Nat.lt_of_not_le (fun h => c_3 ((nI_leI (a := 144) (b := k) (by omega) (by omega)).mpr h))
    refine lv_aload_n hx hb dX4_flowers_15 rfl (lv_at hl 3 rfl) ?_
    refine va_get (D := D) (ci := 4) (v := .ref mv) (C := RX4) (T := TX4) (N := 16) hx hb hts wb_X4_flowers1_4 hown hK hP 0 rfl rfl 15 (by decide) (hts _ wi_X4_flowers1_1) (fun _ h9 => h9) rfl dX4_flowers_16 ?_
    refine lv_iload hx hb dX4_flowers_19 (lv_at hl 0 rfl) ?_
    refine lv_iconst (v := 0) hx hb dX4_flowers_21 (by decide) ?_
    refine f_zast (k := k) hx hb hK hP hD hS 9 1 rfl rfl rfl (by omega) (by first | decide | omega) dX4_flowers_22 (fun H locs hP hD hS => ?_)
    have hP : va_P D vwCl [(mp, .inr (4, [.int tw, .int (nI C), .int (nI R), .int (nI F), .int gn, .int (nI n), .int (nI b), .ref mf, .ref ms, .ref mi, .ref mm, .ref mk, .ref mq, .ref mn, .ref mu, .ref mv])), (mf, .inl (cI, 6, .inl frA)), (ms, .inl (cI, 6, .inl stA)), (mi, .inl (cI, 12, .inl fz)), (mm, .inl (cI, 144, .inl ml)), (mk, .inl (cI, 12, .inl kp)), (mq, .inl (cI, 144, .inl km)), (mn, .inl (cI, 12, .inl nx)), (mu, .inl (cI, 4, .inl sm)), (mv, .inl (cZ, 144, .inl (upd (sfill (fun _ => 0) sn k) k (vp_nar .boolean 0))))] _ := hP
    have hD : va_D A [(mp, .inr (4, [.int tw, .int (nI C), .int (nI R), .int (nI F), .int gn, .int (nI n), .int (nI b), .ref mf, .ref ms, .ref mi, .ref mm, .ref mk, .ref mq, .ref mn, .ref mu, .ref mv])), (mf, .inl (cI, 6, .inl frA)), (ms, .inl (cI, 6, .inl stA)), (mi, .inl (cI, 12, .inl fz)), (mm, .inl (cI, 144, .inl ml)), (mk, .inl (cI, 12, .inl kp)), (mq, .inl (cI, 144, .inl km)), (mn, .inl (cI, 12, .inl nx)), (mu, .inl (cI, 4, .inl sm)), (mv, .inl (cZ, 144, .inl (upd (sfill (fun _ => 0) sn k) k (vp_nar .boolean 0))))] := hD
    obtain ⟨hP, hD⟩ := f_rep (g := sfill (fun _ => 0) sn (k + 1)) hP hD 9 rfl (fun j _ => sfill_up rfl j)
    have hP : va_P D vwCl [(mp, .inr (4, [.int tw, .int (nI C), .int (nI R), .int (nI F), .int gn, .int (nI n), .int (nI b), .ref mf, .ref ms, .ref mi, .ref mm, .ref mk, .ref mq, .ref mn, .ref mu, .ref mv])), (mf, .inl (cI, 6, .inl frA)), (ms, .inl (cI, 6, .inl stA)), (mi, .inl (cI, 12, .inl fz)), (mm, .inl (cI, 144, .inl ml)), (mk, .inl (cI, 12, .inl kp)), (mq, .inl (cI, 144, .inl km)), (mn, .inl (cI, 12, .inl nx)), (mu, .inl (cI, 4, .inl sm)), (mv, .inl (cZ, 144, .inl (sfill (fun _ => 0) sn (k + 1))))] _ := hP
    have hD : va_D A [(mp, .inr (4, [.int tw, .int (nI C), .int (nI R), .int (nI F), .int gn, .int (nI n), .int (nI b), .ref mf, .ref ms, .ref mi, .ref mm, .ref mk, .ref mq, .ref mn, .ref mu, .ref mv])), (mf, .inl (cI, 6, .inl frA)), (ms, .inl (cI, 6, .inl stA)), (mi, .inl (cI, 12, .inl fz)), (mm, .inl (cI, 144, .inl ml)), (mk, .inl (cI, 12, .inl kp)), (mq, .inl (cI, 144, .inl km)), (mn, .inl (cI, 12, .inl nx)), (mu, .inl (cI, 4, .inl sm)), (mv, .inl (cZ, 144, .inl (sfill (fun _ => 0) sn (k + 1))))] := hD
    refine lv_iinc (v := nI (k + 1)) (lv' := [(4, .int (nI (k + 1))), (3, .int 0), (2, .int 0), (0, .ref mp), (1, .int 1)]) hx hb dX4_flowers_23 hl (k := 0) rfl (nI_1 _) (by decide) rfl (fun ls hl => ?_)
    refine lv_goto (tgt := 7) hx hb dX4_flowers_26 (by decide) ?_
    exact ih_1 (k + 1) (by omega) (by first | omega | (simp only []; omega) | (show _ < _; simp only []; omega)) H locs hP hD hS ls (lv_sub hl [0, 1, 2, 3, 4] rfl)

end C_specs_model3
