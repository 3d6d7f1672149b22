section SPLIT
set_option maxRecDepth 20000 in
theorem w_0 {pg : Program} {l : Launch} {ev : Env} {s : State} {m : MethodId} {below : List Frame} {meth : Method} {cd : Code} {Q : State → Prop} {sc L : Nat} {xs : Nat → Int32} {A : Nat → Prop} {D : va_G} {cI cZ cJ : ClassId} {sa : Nat → Nat} (E0 : lw_E pg l s m cd sc L xs A D cI cZ cJ sa) (fp pa fo no mo qa qo qn qm pk lo go bk bf bs mp mf ms mi mm mk mq mn mu mv ou i : Nat) (hi : i + 4 ≤ L) (C R F n b C2 R2 F2 : Nat) (gn tw : Int32) (fz nx ml gz gx nl lf fl frA stA kp km nz sm sn : Nat → Int32) (ot : Nat → Int64) (hLI : LI C R F n b fz ml) (hnext : lw_Next pg l ev s m below meth cd Q sc A D cI cZ cJ fp pa fo no mo qa qo qn qm pk lo go bk bf bs mp mf ms mi mm mk mq mn mu mv ou i) (H : Heap) (locs : List Loc) (hP : va_P D vwCl (lw_W cI cZ cJ fp pa fo no mo qa qo qn qm pk lo go bk bf bs mp mf ms mi mm mk mq mn mu mv ou C R F n b C2 R2 F2 gn tw fz nx ml gz gx nl lf fl frA stA kp km nz sm sn ot) H) (hD : va_D A (lw_W cI cZ cJ fp pa fo no mo qa qo qn qm pk lo go bk bf bs mp mf ms mi mm mk mq mn mu mv ou C R F n b C2 R2 F2 gn tw fz nx ml gz gx nl lf fl frA stA kp km nz sm sn ot)) (hS : va_S A s.heap H locs) (ls : Array Slot) (hl : lv_has ls 9 [(0, .ref sc), (1, .ref fp), (2, .ref mp), (3, .ref ou), (4, .int (nI i))]) :
    W pg l ev room_1 s m #[Value.ref sc] below meth cd H locs (30 + i) (1000 + 4 * i) Q (F0 m 172 ls []) := by
  obtain ⟨⟨hC3, hC⟩, ⟨hR3, hR⟩, hF, ⟨hn1, hn⟩, hb0, hI, hM⟩ := id hLI
  by_cases h1 : sp_X4_isIn (xs (i + 1)) 3 12 = 0
  · exact w_0_1 E0 fp pa fo no mo qa qo qn qm pk lo go bk bf bs mp mf ms mi mm mk mq mn mu mv ou i hi C R F n b C2 R2 F2 gn tw fz nx ml gz gx nl lf fl frA stA kp km nz sm sn ot hLI _ _ h1 rfl rfl hnext H locs hP hD hS ls hl
  · obtain ⟨c2, a1, a2, e1⟩ := sp_isIn_of (lo := 3) (hi := 12) h1 (by decide) (by decide)
    by_cases h2 : sp_X4_isIn (xs (i + 2)) 3 12 = 0
    · exact w_0_2 E0 fp pa fo no mo qa qo qn qm pk lo go bk bf bs mp mf ms mi mm mk mq mn mu mv ou i hi C R F n b C2 R2 F2 gn tw fz nx ml gz gx nl lf fl frA stA kp km nz sm sn ot hLI c2 _ a1 a2 h2 e1 rfl hnext H locs hP hD hS ls hl
    · obtain ⟨r2, a3, a4, e2⟩ := sp_isIn_of (lo := 3) (hi := 12) h2 (by decide) (by decide)
      exact w_0_0 E0 fp pa fo no mo qa qo qn qm pk lo go bk bf bs mp mf ms mi mm mk mq mn mu mv ou i hi C R F n b C2 R2 F2 gn tw fz nx ml gz gx nl lf fl frA stA kp km nz sm sn ot hLI c2 r2 a1 a2 a3 a4 e1 e2 hnext H locs hP hD hS ls hl
set_option maxRecDepth 20000 in
theorem w_1 {pg : Program} {l : Launch} {ev : Env} {s : State} {m : MethodId} {below : List Frame} {meth : Method} {cd : Code} {Q : State → Prop} {sc L : Nat} {xs : Nat → Int32} {A : Nat → Prop} {D : va_G} {cI cZ cJ : ClassId} {sa : Nat → Nat} (E0 : lw_E pg l s m cd sc L xs A D cI cZ cJ sa) (fp pa fo no mo qa qo qn qm pk lo go bk bf bs mp mf ms mi mm mk mq mn mu mv ou i : Nat) (hi : i + 4 ≤ L) (C R F n b C2 R2 F2 : Nat) (gn tw : Int32) (fz nx ml gz gx nl lf fl frA stA kp km nz sm sn : Nat → Int32) (ot : Nat → Int64) (hLI : LI C R F n b fz ml) (hnext : lw_Next pg l ev s m below meth cd Q sc A D cI cZ cJ fp pa fo no mo qa qo qn qm pk lo go bk bf bs mp mf ms mi mm mk mq mn mu mv ou i) (H : Heap) (locs : List Loc) (hP : va_P D vwCl (lw_W cI cZ cJ fp pa fo no mo qa qo qn qm pk lo go bk bf bs mp mf ms mi mm mk mq mn mu mv ou C R F n b C2 R2 F2 gn tw fz nx ml gz gx nl lf fl frA stA kp km nz sm sn ot) H) (hD : va_D A (lw_W cI cZ cJ fp pa fo no mo qa qo qn qm pk lo go bk bf bs mp mf ms mi mm mk mq mn mu mv ou C R F n b C2 R2 F2 gn tw fz nx ml gz gx nl lf fl frA stA kp km nz sm sn ot)) (hS : va_S A s.heap H locs) (ls : Array Slot) (hl : lv_has ls 9 [(0, .ref sc), (1, .ref fp), (2, .ref mp), (3, .ref ou), (4, .int (nI i))]) :
    W pg l ev room_1 s m #[Value.ref sc] below meth cd H locs (30 + i) (1000 + 4 * i) Q (F0 m 240 ls []) := by
  obtain ⟨⟨hC3, hC⟩, ⟨hR3, hR⟩, hF, ⟨hn1, hn⟩, hb0, hI, hM⟩ := id hLI
  by_cases h1 : sp_X1_hasCell C R (xs (i + 1)) (xs (i + 2)) = 0
  · exact w_1_1 E0 fp pa fo no mo qa qo qn qm pk lo go bk bf bs mp mf ms mi mm mk mq mn mu mv ou i hi C R F n b C2 R2 F2 gn tw fz nx ml gz gx nl lf fl frA stA kp km nz sm sn ot hLI _ _ h1 rfl rfl hnext H locs hP hD hS ls hl
  · obtain ⟨c, r, hc, hr, e1, e2⟩ := cell_of hC hR h1
    by_cases hm : sp_X1_meltOf ml (nI c) (nI r) ≤ 0
    · exact w_1_0 E0 fp pa fo no mo qa qo qn qm pk lo go bk bf bs mp mf ms mi mm mk mq mn mu mv ou i hi C R F n b C2 R2 F2 gn tw fz nx ml gz gx nl lf fl frA stA kp km nz sm sn ot hLI c r hc hr hm e1 e2 hnext H locs hP hD hS ls hl
    · exact w_1_2 E0 fp pa fo no mo qa qo qn qm pk lo go bk bf bs mp mf ms mi mm mk mq mn mu mv ou i hi C R F n b C2 R2 F2 gn tw fz nx ml gz gx nl lf fl frA stA kp km nz sm sn ot hLI c r hc hr hm e1 e2 hnext H locs hP hD hS ls hl
set_option maxRecDepth 20000 in
theorem w_2 {pg : Program} {l : Launch} {ev : Env} {s : State} {m : MethodId} {below : List Frame} {meth : Method} {cd : Code} {Q : State → Prop} {sc L : Nat} {xs : Nat → Int32} {A : Nat → Prop} {D : va_G} {cI cZ cJ : ClassId} {sa : Nat → Nat} (E0 : lw_E pg l s m cd sc L xs A D cI cZ cJ sa) (fp pa fo no mo qa qo qn qm pk lo go bk bf bs mp mf ms mi mm mk mq mn mu mv ou i : Nat) (hi : i + 4 ≤ L) (C R F n b C2 R2 F2 : Nat) (gn tw : Int32) (fz nx ml gz gx nl lf fl frA stA kp km nz sm sn : Nat → Int32) (ot : Nat → Int64) (hLI : LI C R F n b fz ml) (hnext : lw_Next pg l ev s m below meth cd Q sc A D cI cZ cJ fp pa fo no mo qa qo qn qm pk lo go bk bf bs mp mf ms mi mm mk mq mn mu mv ou i) (H : Heap) (locs : List Loc) (hP : va_P D vwCl (lw_W cI cZ cJ fp pa fo no mo qa qo qn qm pk lo go bk bf bs mp mf ms mi mm mk mq mn mu mv ou C R F n b C2 R2 F2 gn tw fz nx ml gz gx nl lf fl frA stA kp km nz sm sn ot) H) (hD : va_D A (lw_W cI cZ cJ fp pa fo no mo qa qo qn qm pk lo go bk bf bs mp mf ms mi mm mk mq mn mu mv ou C R F n b C2 R2 F2 gn tw fz nx ml gz gx nl lf fl frA stA kp km nz sm sn ot)) (hS : va_S A s.heap H locs) (ls : Array Slot) (hl : lv_has ls 9 [(0, .ref sc), (1, .ref fp), (2, .ref mp), (3, .ref ou), (4, .int (nI i))]) :
    W pg l ev room_1 s m #[Value.ref sc] below meth cd H locs (30 + i) (1000 + 4 * i) Q (F0 m 315 ls []) := by
  obtain ⟨⟨hC3, hC⟩, ⟨hR3, hR⟩, hF, ⟨hn1, hn⟩, hb0, hI, hM⟩ := id hLI
  by_cases h1 : sp_X1_hasCell C R (xs (i + 1)) (xs (i + 2)) = 0
  · exact w_2_1 E0 fp pa fo no mo qa qo qn qm pk lo go bk bf bs mp mf ms mi mm mk mq mn mu mv ou i hi C R F n b C2 R2 F2 gn tw fz nx ml gz gx nl lf fl frA stA kp km nz sm sn ot hLI _ _ _ h1 rfl rfl rfl hnext H locs hP hD hS ls hl
  · obtain ⟨c, r, hc, hr, e1, e2⟩ := cell_of hC hR h1
    by_cases h2 : sp_X4_isIn (xs (i + 3)) 1 9 = 0
    · exact w_2_2 E0 fp pa fo no mo qa qo qn qm pk lo go bk bf bs mp mf ms mi mm mk mq mn mu mv ou i hi C R F n b C2 R2 F2 gn tw fz nx ml gz gx nl lf fl frA stA kp km nz sm sn ot hLI c r _ hc hr h2 e1 e2 rfl hnext H locs hP hD hS ls hl
    · obtain ⟨g, a1, a2, e3⟩ := sp_isIn_of (lo := 1) (hi := 9) h2 (by decide) (by decide)
      exact w_2_0 E0 fp pa fo no mo qa qo qn qm pk lo go bk bf bs mp mf ms mi mm mk mq mn mu mv ou i hi C R F n b C2 R2 F2 gn tw fz nx ml gz gx nl lf fl frA stA kp km nz sm sn ot hLI c r g hc hr a1 a2 e1 e2 e3 hnext H locs hP hD hS ls hl
set_option maxRecDepth 20000 in
theorem w_3 {pg : Program} {l : Launch} {ev : Env} {s : State} {m : MethodId} {below : List Frame} {meth : Method} {cd : Code} {Q : State → Prop} {sc L : Nat} {xs : Nat → Int32} {A : Nat → Prop} {D : va_G} {cI cZ cJ : ClassId} {sa : Nat → Nat} (E0 : lw_E pg l s m cd sc L xs A D cI cZ cJ sa) (fp pa fo no mo qa qo qn qm pk lo go bk bf bs mp mf ms mi mm mk mq mn mu mv ou i : Nat) (hi : i + 4 ≤ L) (C R F n b C2 R2 F2 : Nat) (gn tw : Int32) (fz nx ml gz gx nl lf fl frA stA kp km nz sm sn : Nat → Int32) (ot : Nat → Int64) (hLI : LI C R F n b fz ml) (hnext : lw_Next pg l ev s m below meth cd Q sc A D cI cZ cJ fp pa fo no mo qa qo qn qm pk lo go bk bf bs mp mf ms mi mm mk mq mn mu mv ou i) (H : Heap) (locs : List Loc) (hP : va_P D vwCl (lw_W cI cZ cJ fp pa fo no mo qa qo qn qm pk lo go bk bf bs mp mf ms mi mm mk mq mn mu mv ou C R F n b C2 R2 F2 gn tw fz nx ml gz gx nl lf fl frA stA kp km nz sm sn ot) H) (hD : va_D A (lw_W cI cZ cJ fp pa fo no mo qa qo qn qm pk lo go bk bf bs mp mf ms mi mm mk mq mn mu mv ou C R F n b C2 R2 F2 gn tw fz nx ml gz gx nl lf fl frA stA kp km nz sm sn ot)) (hS : va_S A s.heap H locs) (ls : Array Slot) (hl : lv_has ls 9 [(0, .ref sc), (1, .ref fp), (2, .ref mp), (3, .ref ou), (4, .int (nI i))]) :
    W pg l ev room_1 s m #[Value.ref sc] below meth cd H locs (30 + i) (1000 + 4 * i) Q (F0 m 395 ls []) := by
  obtain ⟨⟨hC3, hC⟩, ⟨hR3, hR⟩, hF, ⟨hn1, hn⟩, hb0, hI, hM⟩ := id hLI
  by_cases h1 : sp_X4_isIn (xs (i + 1)) 0 2 = 0
  · exact w_3_1 E0 fp pa fo no mo qa qo qn qm pk lo go bk bf bs mp mf ms mi mm mk mq mn mu mv ou i hi C R F n b C2 R2 F2 gn tw fz nx ml gz gx nl lf fl frA stA kp km nz sm sn ot hLI _ h1 rfl hnext H locs hP hD hS ls hl
  · obtain ⟨f2, -, a2, e1⟩ := sp_isIn_of (lo := 0) (hi := 2) h1 (by decide) (by decide)
    exact w_3_0 E0 fp pa fo no mo qa qo qn qm pk lo go bk bf bs mp mf ms mi mm mk mq mn mu mv ou i hi C R F n b C2 R2 F2 gn tw fz nx ml gz gx nl lf fl frA stA kp km nz sm sn ot hLI f2 a2 e1 hnext H locs hP hD hS ls hl
set_option maxRecDepth 20000 in
theorem w_4 {pg : Program} {l : Launch} {ev : Env} {s : State} {m : MethodId} {below : List Frame} {meth : Method} {cd : Code} {Q : State → Prop} {sc L : Nat} {xs : Nat → Int32} {A : Nat → Prop} {D : va_G} {cI cZ cJ : ClassId} {sa : Nat → Nat} (E0 : lw_E pg l s m cd sc L xs A D cI cZ cJ sa) (fp pa fo no mo qa qo qn qm pk lo go bk bf bs mp mf ms mi mm mk mq mn mu mv ou i : Nat) (hi : i + 4 ≤ L) (C R F n b C2 R2 F2 : Nat) (gn tw : Int32) (fz nx ml gz gx nl lf fl frA stA kp km nz sm sn : Nat → Int32) (ot : Nat → Int64) (hLI : LI C R F n b fz ml) (hnext : lw_Next pg l ev s m below meth cd Q sc A D cI cZ cJ fp pa fo no mo qa qo qn qm pk lo go bk bf bs mp mf ms mi mm mk mq mn mu mv ou i) (H : Heap) (locs : List Loc) (hP : va_P D vwCl (lw_W cI cZ cJ fp pa fo no mo qa qo qn qm pk lo go bk bf bs mp mf ms mi mm mk mq mn mu mv ou C R F n b C2 R2 F2 gn tw fz nx ml gz gx nl lf fl frA stA kp km nz sm sn ot) H) (hD : va_D A (lw_W cI cZ cJ fp pa fo no mo qa qo qn qm pk lo go bk bf bs mp mf ms mi mm mk mq mn mu mv ou C R F n b C2 R2 F2 gn tw fz nx ml gz gx nl lf fl frA stA kp km nz sm sn ot)) (hS : va_S A s.heap H locs) (ls : Array Slot) (hl : lv_has ls 9 [(0, .ref sc), (1, .ref fp), (2, .ref mp), (3, .ref ou), (4, .int (nI i))]) :
    W pg l ev room_1 s m #[Value.ref sc] below meth cd H locs (30 + i) (1000 + 4 * i) Q (F0 m 451 ls []) := by
  obtain ⟨⟨hC3, hC⟩, ⟨hR3, hR⟩, hF, ⟨hn1, hn⟩, hb0, hI, hM⟩ := id hLI
  by_cases h1 : sp_X4_isIn (xs (i + 1)) 0 511 = 0
  · exact w_4_1 E0 fp pa fo no mo qa qo qn qm pk lo go bk bf bs mp mf ms mi mm mk mq mn mu mv ou i hi C R F n b C2 R2 F2 gn tw fz nx ml gz gx nl lf fl frA stA kp km nz sm sn ot hLI _ _ h1 rfl rfl hnext H locs hP hD hS ls hl
  · obtain ⟨x, -, a2, e1⟩ := sp_isIn_of (lo := 0) (hi := 511) h1 (by decide) (by decide)
    by_cases h2 : sp_X4_isIn (xs (i + 2)) 0 511 = 0
    · exact w_4_2 E0 fp pa fo no mo qa qo qn qm pk lo go bk bf bs mp mf ms mi mm mk mq mn mu mv ou i hi C R F n b C2 R2 F2 gn tw fz nx ml gz gx nl lf fl frA stA kp km nz sm sn ot hLI x _ a2 h2 e1 rfl hnext H locs hP hD hS ls hl
    · obtain ⟨y, -, a4, e2⟩ := sp_isIn_of (lo := 0) (hi := 511) h2 (by decide) (by decide)
      by_cases hn6 : n < 6
      · exact w_4_0 E0 fp pa fo no mo qa qo qn qm pk lo go bk bf bs mp mf ms mi mm mk mq mn mu mv ou i hi C R F n b C2 R2 F2 gn tw fz nx ml gz gx nl lf fl frA stA kp km nz sm sn ot hLI x y a2 a4 hn6 e1 e2 hnext H locs hP hD hS ls hl
      · exact w_4_3 E0 fp pa fo no mo qa qo qn qm pk lo go bk bf bs mp mf ms mi mm mk mq mn mu mv ou i hi C R F n b C2 R2 F2 gn tw fz nx ml gz gx nl lf fl frA stA kp km nz sm sn ot hLI x y a2 a4 (by omega) e1 e2 hnext H locs hP hD hS ls hl
set_option maxRecDepth 20000 in
theorem w_5 {pg : Program} {l : Launch} {ev : Env} {s : State} {m : MethodId} {below : List Frame} {meth : Method} {cd : Code} {Q : State → Prop} {sc L : Nat} {xs : Nat → Int32} {A : Nat → Prop} {D : va_G} {cI cZ cJ : ClassId} {sa : Nat → Nat} (E0 : lw_E pg l s m cd sc L xs A D cI cZ cJ sa) (fp pa fo no mo qa qo qn qm pk lo go bk bf bs mp mf ms mi mm mk mq mn mu mv ou i : Nat) (hi : i + 4 ≤ L) (C R F n b C2 R2 F2 : Nat) (gn tw : Int32) (fz nx ml gz gx nl lf fl frA stA kp km nz sm sn : Nat → Int32) (ot : Nat → Int64) (hLI : LI C R F n b fz ml) (hnext : lw_Next pg l ev s m below meth cd Q sc A D cI cZ cJ fp pa fo no mo qa qo qn qm pk lo go bk bf bs mp mf ms mi mm mk mq mn mu mv ou i) (H : Heap) (locs : List Loc) (hP : va_P D vwCl (lw_W cI cZ cJ fp pa fo no mo qa qo qn qm pk lo go bk bf bs mp mf ms mi mm mk mq mn mu mv ou C R F n b C2 R2 F2 gn tw fz nx ml gz gx nl lf fl frA stA kp km nz sm sn ot) H) (hD : va_D A (lw_W cI cZ cJ fp pa fo no mo qa qo qn qm pk lo go bk bf bs mp mf ms mi mm mk mq mn mu mv ou C R F n b C2 R2 F2 gn tw fz nx ml gz gx nl lf fl frA stA kp km nz sm sn ot)) (hS : va_S A s.heap H locs) (ls : Array Slot) (hl : lv_has ls 9 [(0, .ref sc), (1, .ref fp), (2, .ref mp), (3, .ref ou), (4, .int (nI i))]) :
    W pg l ev room_1 s m #[Value.ref sc] below meth cd H locs (30 + i) (1000 + 4 * i) Q (F0 m 519 ls []) := by
  obtain ⟨⟨hC3, hC⟩, ⟨hR3, hR⟩, hF, ⟨hn1, hn⟩, hb0, hI, hM⟩ := id hLI
  by_cases h1 : sp_X2_has n (xs (i + 1)) = 0
  · exact w_5_1 E0 fp pa fo no mo qa qo qn qm pk lo go bk bf bs mp mf ms mi mm mk mq mn mu mv ou i hi C R F n b C2 R2 F2 gn tw fz nx ml gz gx nl lf fl frA stA kp km nz sm sn ot hLI _ h1 rfl hnext H locs hP hD hS ls hl
  · obtain ⟨b2, a1, e1⟩ := row_of (show n ≤ 12 by omega) h1
    exact w_5_0 E0 fp pa fo no mo qa qo qn qm pk lo go bk bf bs mp mf ms mi mm mk mq mn mu mv ou i hi C R F n b C2 R2 F2 gn tw fz nx ml gz gx nl lf fl frA stA kp km nz sm sn ot hLI b2 a1 e1 hnext H locs hP hD hS ls hl
set_option maxRecDepth 20000 in
theorem w_6 {pg : Program} {l : Launch} {ev : Env} {s : State} {m : MethodId} {below : List Frame} {meth : Method} {cd : Code} {Q : State → Prop} {sc L : Nat} {xs : Nat → Int32} {A : Nat → Prop} {D : va_G} {cI cZ cJ : ClassId} {sa : Nat → Nat} (E0 : lw_E pg l s m cd sc L xs A D cI cZ cJ sa) (fp pa fo no mo qa qo qn qm pk lo go bk bf bs mp mf ms mi mm mk mq mn mu mv ou i : Nat) (hi : i + 4 ≤ L) (C R F n b C2 R2 F2 : Nat) (gn tw : Int32) (fz nx ml gz gx nl lf fl frA stA kp km nz sm sn : Nat → Int32) (ot : Nat → Int64) (hLI : LI C R F n b fz ml) (hnext : lw_Next pg l ev s m below meth cd Q sc A D cI cZ cJ fp pa fo no mo qa qo qn qm pk lo go bk bf bs mp mf ms mi mm mk mq mn mu mv ou i) (H : Heap) (locs : List Loc) (hP : va_P D vwCl (lw_W cI cZ cJ fp pa fo no mo qa qo qn qm pk lo go bk bf bs mp mf ms mi mm mk mq mn mu mv ou C R F n b C2 R2 F2 gn tw fz nx ml gz gx nl lf fl frA stA kp km nz sm sn ot) H) (hD : va_D A (lw_W cI cZ cJ fp pa fo no mo qa qo qn qm pk lo go bk bf bs mp mf ms mi mm mk mq mn mu mv ou C R F n b C2 R2 F2 gn tw fz nx ml gz gx nl lf fl frA stA kp km nz sm sn ot)) (hS : va_S A s.heap H locs) (ls : Array Slot) (hl : lv_has ls 9 [(0, .ref sc), (1, .ref fp), (2, .ref mp), (3, .ref ou), (4, .int (nI i))]) :
    W pg l ev room_1 s m #[Value.ref sc] below meth cd H locs (30 + i) (1000 + 4 * i) Q (F0 m 575 ls []) := by
  obtain ⟨⟨hC3, hC⟩, ⟨hR3, hR⟩, hF, ⟨hn1, hn⟩, hb0, hI, hM⟩ := id hLI
  by_cases h1 : sp_X4_isIn (xs (i + 1)) 1 60 = 0
  · exact w_6_1 E0 fp pa fo no mo qa qo qn qm pk lo go bk bf bs mp mf ms mi mm mk mq mn mu mv ou i hi C R F n b C2 R2 F2 gn tw fz nx ml gz gx nl lf fl frA stA kp km nz sm sn ot hLI _ h1 rfl hnext H locs hP hD hS ls hl
  · obtain ⟨g, a1, a2, e1⟩ := sp_isIn_of (lo := 1) (hi := 60) h1 (by decide) (by decide)
    exact w_6_0 E0 fp pa fo no mo qa qo qn qm pk lo go bk bf bs mp mf ms mi mm mk mq mn mu mv ou i hi C R F n b C2 R2 F2 gn tw fz nx ml gz gx nl lf fl frA stA kp km nz sm sn ot hLI g a1 a2 e1 hnext H locs hP hD hS ls hl
set_option maxRecDepth 20000 in
theorem w_14 {pg : Program} {l : Launch} {ev : Env} {s : State} {m : MethodId} {below : List Frame} {meth : Method} {cd : Code} {Q : State → Prop} {sc L : Nat} {xs : Nat → Int32} {A : Nat → Prop} {D : va_G} {cI cZ cJ : ClassId} {sa : Nat → Nat} (E0 : lw_E pg l s m cd sc L xs A D cI cZ cJ sa) (fp pa fo no mo qa qo qn qm pk lo go bk bf bs mp mf ms mi mm mk mq mn mu mv ou i : Nat) (hi : i + 4 ≤ L) (C R F n b C2 R2 F2 : Nat) (gn tw : Int32) (fz nx ml gz gx nl lf fl frA stA kp km nz sm sn : Nat → Int32) (ot : Nat → Int64) (hLI : LI C R F n b fz ml) (hnext : lw_Next pg l ev s m below meth cd Q sc A D cI cZ cJ fp pa fo no mo qa qo qn qm pk lo go bk bf bs mp mf ms mi mm mk mq mn mu mv ou i) (H : Heap) (locs : List Loc) (hP : va_P D vwCl (lw_W cI cZ cJ fp pa fo no mo qa qo qn qm pk lo go bk bf bs mp mf ms mi mm mk mq mn mu mv ou C R F n b C2 R2 F2 gn tw fz nx ml gz gx nl lf fl frA stA kp km nz sm sn ot) H) (hD : va_D A (lw_W cI cZ cJ fp pa fo no mo qa qo qn qm pk lo go bk bf bs mp mf ms mi mm mk mq mn mu mv ou C R F n b C2 R2 F2 gn tw fz nx ml gz gx nl lf fl frA stA kp km nz sm sn ot)) (hS : va_S A s.heap H locs) (ls : Array Slot) (hl : lv_has ls 9 [(0, .ref sc), (1, .ref fp), (2, .ref mp), (3, .ref ou), (4, .int (nI i))]) :
    W pg l ev room_1 s m #[Value.ref sc] below meth cd H locs (30 + i) (1000 + 4 * i) Q (F0 m 722 ls []) := by
  obtain ⟨⟨hC3, hC⟩, ⟨hR3, hR⟩, hF, ⟨hn1, hn⟩, hb0, hI, hM⟩ := id hLI
  by_cases h1 : sp_X1_hasCell C R (xs (i + 1)) (xs (i + 2)) = 0
  · exact w_14_1 E0 fp pa fo no mo qa qo qn qm pk lo go bk bf bs mp mf ms mi mm mk mq mn mu mv ou i hi C R F n b C2 R2 F2 gn tw fz nx ml gz gx nl lf fl frA stA kp km nz sm sn ot hLI _ _ h1 rfl rfl hnext H locs hP hD hS ls hl
  · obtain ⟨c, r, hc, hr, e1, e2⟩ := cell_of hC hR h1
    exact w_14_0 E0 fp pa fo no mo qa qo qn qm pk lo go bk bf bs mp mf ms mi mm mk mq mn mu mv ou i hi C R F n b C2 R2 F2 gn tw fz nx ml gz gx nl lf fl frA stA kp km nz sm sn ot hLI c r hc hr e1 e2 hnext H locs hP hD hS ls hl
set_option maxRecDepth 20000 in
theorem w_15 {pg : Program} {l : Launch} {ev : Env} {s : State} {m : MethodId} {below : List Frame} {meth : Method} {cd : Code} {Q : State → Prop} {sc L : Nat} {xs : Nat → Int32} {A : Nat → Prop} {D : va_G} {cI cZ cJ : ClassId} {sa : Nat → Nat} (E0 : lw_E pg l s m cd sc L xs A D cI cZ cJ sa) (fp pa fo no mo qa qo qn qm pk lo go bk bf bs mp mf ms mi mm mk mq mn mu mv ou i : Nat) (hi : i + 4 ≤ L) (C R F n b C2 R2 F2 : Nat) (gn tw : Int32) (fz nx ml gz gx nl lf fl frA stA kp km nz sm sn : Nat → Int32) (ot : Nat → Int64) (hLI : LI C R F n b fz ml) (hnext : lw_Next pg l ev s m below meth cd Q sc A D cI cZ cJ fp pa fo no mo qa qo qn qm pk lo go bk bf bs mp mf ms mi mm mk mq mn mu mv ou i) (H : Heap) (locs : List Loc) (hP : va_P D vwCl (lw_W cI cZ cJ fp pa fo no mo qa qo qn qm pk lo go bk bf bs mp mf ms mi mm mk mq mn mu mv ou C R F n b C2 R2 F2 gn tw fz nx ml gz gx nl lf fl frA stA kp km nz sm sn ot) H) (hD : va_D A (lw_W cI cZ cJ fp pa fo no mo qa qo qn qm pk lo go bk bf bs mp mf ms mi mm mk mq mn mu mv ou C R F n b C2 R2 F2 gn tw fz nx ml gz gx nl lf fl frA stA kp km nz sm sn ot)) (hS : va_S A s.heap H locs) (ls : Array Slot) (hl : lv_has ls 9 [(0, .ref sc), (1, .ref fp), (2, .ref mp), (3, .ref ou), (4, .int (nI i))]) :
    W pg l ev room_1 s m #[Value.ref sc] below meth cd H locs (30 + i) (1000 + 4 * i) Q (F0 m 797 ls []) := by
  obtain ⟨⟨hC3, hC⟩, ⟨hR3, hR⟩, hF, ⟨hn1, hn⟩, hb0, hI, hM⟩ := id hLI
  by_cases h1 : sp_X1_hasCell C R (xs (i + 1)) (xs (i + 2)) = 0
  · exact w_15_1 E0 fp pa fo no mo qa qo qn qm pk lo go bk bf bs mp mf ms mi mm mk mq mn mu mv ou i hi C R F n b C2 R2 F2 gn tw fz nx ml gz gx nl lf fl frA stA kp km nz sm sn ot hLI _ _ h1 rfl rfl hnext H locs hP hD hS ls hl
  · obtain ⟨c, r, hc, hr, e1, e2⟩ := cell_of hC hR h1
    exact w_15_0 E0 fp pa fo no mo qa qo qn qm pk lo go bk bf bs mp mf ms mi mm mk mq mn mu mv ou i hi C R F n b C2 R2 F2 gn tw fz nx ml gz gx nl lf fl frA stA kp km nz sm sn ot hLI c r hc hr e1 e2 hnext H locs hP hD hS ls hl
set_option maxRecDepth 20000 in
theorem w_16 {pg : Program} {l : Launch} {ev : Env} {s : State} {m : MethodId} {below : List Frame} {meth : Method} {cd : Code} {Q : State → Prop} {sc L : Nat} {xs : Nat → Int32} {A : Nat → Prop} {D : va_G} {cI cZ cJ : ClassId} {sa : Nat → Nat} (E0 : lw_E pg l s m cd sc L xs A D cI cZ cJ sa) (fp pa fo no mo qa qo qn qm pk lo go bk bf bs mp mf ms mi mm mk mq mn mu mv ou i : Nat) (hi : i + 4 ≤ L) (C R F n b C2 R2 F2 : Nat) (gn tw : Int32) (fz nx ml gz gx nl lf fl frA stA kp km nz sm sn : Nat → Int32) (ot : Nat → Int64) (hLI : LI C R F n b fz ml) (hnext : lw_Next pg l ev s m below meth cd Q sc A D cI cZ cJ fp pa fo no mo qa qo qn qm pk lo go bk bf bs mp mf ms mi mm mk mq mn mu mv ou i) (H : Heap) (locs : List Loc) (hP : va_P D vwCl (lw_W cI cZ cJ fp pa fo no mo qa qo qn qm pk lo go bk bf bs mp mf ms mi mm mk mq mn mu mv ou C R F n b C2 R2 F2 gn tw fz nx ml gz gx nl lf fl frA stA kp km nz sm sn ot) H) (hD : va_D A (lw_W cI cZ cJ fp pa fo no mo qa qo qn qm pk lo go bk bf bs mp mf ms mi mm mk mq mn mu mv ou C R F n b C2 R2 F2 gn tw fz nx ml gz gx nl lf fl frA stA kp km nz sm sn ot)) (hS : va_S A s.heap H locs) (ls : Array Slot) (hl : lv_has ls 9 [(0, .ref sc), (1, .ref fp), (2, .ref mp), (3, .ref ou), (4, .int (nI i))]) :
    W pg l ev room_1 s m #[Value.ref sc] below meth cd H locs (30 + i) (1000 + 4 * i) Q (F0 m 865 ls []) := by
  obtain ⟨⟨hC3, hC⟩, ⟨hR3, hR⟩, hF, ⟨hn1, hn⟩, hb0, hI, hM⟩ := id hLI
  by_cases h1 : sp_X1_hasCell C R (xs (i + 1)) (xs (i + 2)) = 0
  · exact w_16_1 E0 fp pa fo no mo qa qo qn qm pk lo go bk bf bs mp mf ms mi mm mk mq mn mu mv ou i hi C R F n b C2 R2 F2 gn tw fz nx ml gz gx nl lf fl frA stA kp km nz sm sn ot hLI _ _ h1 rfl rfl hnext H locs hP hD hS ls hl
  · obtain ⟨c, r, hc, hr, e1, e2⟩ := cell_of hC hR h1
    exact w_16_0 E0 fp pa fo no mo qa qo qn qm pk lo go bk bf bs mp mf ms mi mm mk mq mn mu mv ou i hi C R F n b C2 R2 F2 gn tw fz nx ml gz gx nl lf fl frA stA kp km nz sm sn ot hLI c r hc hr e1 e2 hnext H locs hP hD hS ls hl
set_option maxRecDepth 20000 in
theorem w_17 {pg : Program} {l : Launch} {ev : Env} {s : State} {m : MethodId} {below : List Frame} {meth : Method} {cd : Code} {Q : State → Prop} {sc L : Nat} {xs : Nat → Int32} {A : Nat → Prop} {D : va_G} {cI cZ cJ : ClassId} {sa : Nat → Nat} (E0 : lw_E pg l s m cd sc L xs A D cI cZ cJ sa) (fp pa fo no mo qa qo qn qm pk lo go bk bf bs mp mf ms mi mm mk mq mn mu mv ou i : Nat) (hi : i + 4 ≤ L) (C R F n b C2 R2 F2 : Nat) (gn tw : Int32) (fz nx ml gz gx nl lf fl frA stA kp km nz sm sn : Nat → Int32) (ot : Nat → Int64) (hLI : LI C R F n b fz ml) (hnext : lw_Next pg l ev s m below meth cd Q sc A D cI cZ cJ fp pa fo no mo qa qo qn qm pk lo go bk bf bs mp mf ms mi mm mk mq mn mu mv ou i) (H : Heap) (locs : List Loc) (hP : va_P D vwCl (lw_W cI cZ cJ fp pa fo no mo qa qo qn qm pk lo go bk bf bs mp mf ms mi mm mk mq mn mu mv ou C R F n b C2 R2 F2 gn tw fz nx ml gz gx nl lf fl frA stA kp km nz sm sn ot) H) (hD : va_D A (lw_W cI cZ cJ fp pa fo no mo qa qo qn qm pk lo go bk bf bs mp mf ms mi mm mk mq mn mu mv ou C R F n b C2 R2 F2 gn tw fz nx ml gz gx nl lf fl frA stA kp km nz sm sn ot)) (hS : va_S A s.heap H locs) (ls : Array Slot) (hl : lv_has ls 9 [(0, .ref sc), (1, .ref fp), (2, .ref mp), (3, .ref ou), (4, .int (nI i))]) :
    W pg l ev room_1 s m #[Value.ref sc] below meth cd H locs (30 + i) (1000 + 4 * i) Q (F0 m 933 ls []) := by
  obtain ⟨⟨hC3, hC⟩, ⟨hR3, hR⟩, hF, ⟨hn1, hn⟩, hb0, hI, hM⟩ := id hLI
  by_cases h1 : sp_X1_hasCell C R (xs (i + 1)) (xs (i + 2)) = 0
  · exact w_17_1 E0 fp pa fo no mo qa qo qn qm pk lo go bk bf bs mp mf ms mi mm mk mq mn mu mv ou i hi C R F n b C2 R2 F2 gn tw fz nx ml gz gx nl lf fl frA stA kp km nz sm sn ot hLI _ _ h1 rfl rfl hnext H locs hP hD hS ls hl
  · obtain ⟨c, r, hc, hr, e1, e2⟩ := cell_of hC hR h1
    exact w_17_0 E0 fp pa fo no mo qa qo qn qm pk lo go bk bf bs mp mf ms mi mm mk mq mn mu mv ou i hi C R F n b C2 R2 F2 gn tw fz nx ml gz gx nl lf fl frA stA kp km nz sm sn ot hLI c r hc hr e1 e2 hnext H locs hP hD hS ls hl
set_option maxRecDepth 20000 in
theorem w_18 {pg : Program} {l : Launch} {ev : Env} {s : State} {m : MethodId} {below : List Frame} {meth : Method} {cd : Code} {Q : State → Prop} {sc L : Nat} {xs : Nat → Int32} {A : Nat → Prop} {D : va_G} {cI cZ cJ : ClassId} {sa : Nat → Nat} (E0 : lw_E pg l s m cd sc L xs A D cI cZ cJ sa) (fp pa fo no mo qa qo qn qm pk lo go bk bf bs mp mf ms mi mm mk mq mn mu mv ou i : Nat) (hi : i + 4 ≤ L) (C R F n b C2 R2 F2 : Nat) (gn tw : Int32) (fz nx ml gz gx nl lf fl frA stA kp km nz sm sn : Nat → Int32) (ot : Nat → Int64) (hLI : LI C R F n b fz ml) (hnext : lw_Next pg l ev s m below meth cd Q sc A D cI cZ cJ fp pa fo no mo qa qo qn qm pk lo go bk bf bs mp mf ms mi mm mk mq mn mu mv ou i) (H : Heap) (locs : List Loc) (hP : va_P D vwCl (lw_W cI cZ cJ fp pa fo no mo qa qo qn qm pk lo go bk bf bs mp mf ms mi mm mk mq mn mu mv ou C R F n b C2 R2 F2 gn tw fz nx ml gz gx nl lf fl frA stA kp km nz sm sn ot) H) (hD : va_D A (lw_W cI cZ cJ fp pa fo no mo qa qo qn qm pk lo go bk bf bs mp mf ms mi mm mk mq mn mu mv ou C R F n b C2 R2 F2 gn tw fz nx ml gz gx nl lf fl frA stA kp km nz sm sn ot)) (hS : va_S A s.heap H locs) (ls : Array Slot) (hl : lv_has ls 9 [(0, .ref sc), (1, .ref fp), (2, .ref mp), (3, .ref ou), (4, .int (nI i))]) :
    W pg l ev room_1 s m #[Value.ref sc] below meth cd H locs (30 + i) (1000 + 4 * i) Q (F0 m 1008 ls []) := by
  obtain ⟨⟨hC3, hC⟩, ⟨hR3, hR⟩, hF, ⟨hn1, hn⟩, hb0, hI, hM⟩ := id hLI
  by_cases h1 : sp_X1_hasRow R (xs (i + 1)) = 0
  · exact w_18_1 E0 fp pa fo no mo qa qo qn qm pk lo go bk bf bs mp mf ms mi mm mk mq mn mu mv ou i hi C R F n b C2 R2 F2 gn tw fz nx ml gz gx nl lf fl frA stA kp km nz sm sn ot hLI _ h1 rfl hnext H locs hP hD hS ls hl
  · obtain ⟨r, a1, e1⟩ := row_of hR h1
    exact w_18_0 E0 fp pa fo no mo qa qo qn qm pk lo go bk bf bs mp mf ms mi mm mk mq mn mu mv ou i hi C R F n b C2 R2 F2 gn tw fz nx ml gz gx nl lf fl frA stA kp km nz sm sn ot hLI r a1 e1 hnext H locs hP hD hS ls hl
set_option maxRecDepth 20000 in
theorem w_21 {pg : Program} {l : Launch} {ev : Env} {s : State} {m : MethodId} {below : List Frame} {meth : Method} {cd : Code} {Q : State → Prop} {sc L : Nat} {xs : Nat → Int32} {A : Nat → Prop} {D : va_G} {cI cZ cJ : ClassId} {sa : Nat → Nat} (E0 : lw_E pg l s m cd sc L xs A D cI cZ cJ sa) (fp pa fo no mo qa qo qn qm pk lo go bk bf bs mp mf ms mi mm mk mq mn mu mv ou i : Nat) (hi : i + 4 ≤ L) (C R F n b C2 R2 F2 : Nat) (gn tw : Int32) (fz nx ml gz gx nl lf fl frA stA kp km nz sm sn : Nat → Int32) (ot : Nat → Int64) (hLI : LI C R F n b fz ml) (hnext : lw_Next pg l ev s m below meth cd Q sc A D cI cZ cJ fp pa fo no mo qa qo qn qm pk lo go bk bf bs mp mf ms mi mm mk mq mn mu mv ou i) (H : Heap) (locs : List Loc) (hP : va_P D vwCl (lw_W cI cZ cJ fp pa fo no mo qa qo qn qm pk lo go bk bf bs mp mf ms mi mm mk mq mn mu mv ou C R F n b C2 R2 F2 gn tw fz nx ml gz gx nl lf fl frA stA kp km nz sm sn ot) H) (hD : va_D A (lw_W cI cZ cJ fp pa fo no mo qa qo qn qm pk lo go bk bf bs mp mf ms mi mm mk mq mn mu mv ou C R F n b C2 R2 F2 gn tw fz nx ml gz gx nl lf fl frA stA kp km nz sm sn ot)) (hS : va_S A s.heap H locs) (ls : Array Slot) (hl : lv_has ls 9 [(0, .ref sc), (1, .ref fp), (2, .ref mp), (3, .ref ou), (4, .int (nI i))]) :
    W pg l ev room_1 s m #[Value.ref sc] below meth cd H locs (30 + i) (1000 + 4 * i) Q (F0 m 1090 ls []) := by
  obtain ⟨⟨hC3, hC⟩, ⟨hR3, hR⟩, hF, ⟨hn1, hn⟩, hb0, hI, hM⟩ := id hLI
  by_cases h1 : sp_X1_hasCell C R (xs (i + 1)) (xs (i + 2)) = 0
  · exact w_21_1 E0 fp pa fo no mo qa qo qn qm pk lo go bk bf bs mp mf ms mi mm mk mq mn mu mv ou i hi C R F n b C2 R2 F2 gn tw fz nx ml gz gx nl lf fl frA stA kp km nz sm sn ot hLI _ _ h1 rfl rfl hnext H locs hP hD hS ls hl
  · obtain ⟨c, r, hc, hr, e1, e2⟩ := cell_of hC hR h1
    exact w_21_0 E0 fp pa fo no mo qa qo qn qm pk lo go bk bf bs mp mf ms mi mm mk mq mn mu mv ou i hi C R F n b C2 R2 F2 gn tw fz nx ml gz gx nl lf fl frA stA kp km nz sm sn ot hLI c r hc hr e1 e2 hnext H locs hP hD hS ls hl
set_option maxRecDepth 20000 in
theorem w_23 {pg : Program} {l : Launch} {ev : Env} {s : State} {m : MethodId} {below : List Frame} {meth : Method} {cd : Code} {Q : State → Prop} {sc L : Nat} {xs : Nat → Int32} {A : Nat → Prop} {D : va_G} {cI cZ cJ : ClassId} {sa : Nat → Nat} (E0 : lw_E pg l s m cd sc L xs A D cI cZ cJ sa) (fp pa fo no mo qa qo qn qm pk lo go bk bf bs mp mf ms mi mm mk mq mn mu mv ou i : Nat) (hi : i + 4 ≤ L) (C R F n b C2 R2 F2 : Nat) (gn tw : Int32) (fz nx ml gz gx nl lf fl frA stA kp km nz sm sn : Nat → Int32) (ot : Nat → Int64) (hLI : LI C R F n b fz ml) (hnext : lw_Next pg l ev s m below meth cd Q sc A D cI cZ cJ fp pa fo no mo qa qo qn qm pk lo go bk bf bs mp mf ms mi mm mk mq mn mu mv ou i) (H : Heap) (locs : List Loc) (hP : va_P D vwCl (lw_W cI cZ cJ fp pa fo no mo qa qo qn qm pk lo go bk bf bs mp mf ms mi mm mk mq mn mu mv ou C R F n b C2 R2 F2 gn tw fz nx ml gz gx nl lf fl frA stA kp km nz sm sn ot) H) (hD : va_D A (lw_W cI cZ cJ fp pa fo no mo qa qo qn qm pk lo go bk bf bs mp mf ms mi mm mk mq mn mu mv ou C R F n b C2 R2 F2 gn tw fz nx ml gz gx nl lf fl frA stA kp km nz sm sn ot)) (hS : va_S A s.heap H locs) (ls : Array Slot) (hl : lv_has ls 9 [(0, .ref sc), (1, .ref fp), (2, .ref mp), (3, .ref ou), (4, .int (nI i))]) :
    W pg l ev room_1 s m #[Value.ref sc] below meth cd H locs (30 + i) (1000 + 4 * i) Q (F0 m 1171 ls []) := by
  obtain ⟨⟨hC3, hC⟩, ⟨hR3, hR⟩, hF, ⟨hn1, hn⟩, hb0, hI, hM⟩ := id hLI
  by_cases h1 : sp_X4_isIn (xs (i + 1)) 1 60 = 0
  · exact w_23_1 E0 fp pa fo no mo qa qo qn qm pk lo go bk bf bs mp mf ms mi mm mk mq mn mu mv ou i hi C R F n b C2 R2 F2 gn tw fz nx ml gz gx nl lf fl frA stA kp km nz sm sn ot hLI _ h1 rfl hnext H locs hP hD hS ls hl
  · obtain ⟨g, a1, a2, e1⟩ := sp_isIn_of (lo := 1) (hi := 60) h1 (by decide) (by decide)
    exact w_23_0 E0 fp pa fo no mo qa qo qn qm pk lo go bk bf bs mp mf ms mi mm mk mq mn mu mv ou i hi C R F n b C2 R2 F2 gn tw fz nx ml gz gx nl lf fl frA stA kp km nz sm sn ot hLI g a1 a2 e1 hnext H locs hP hD hS ls hl
set_option maxRecDepth 20000 in
theorem w_26 {pg : Program} {l : Launch} {ev : Env} {s : State} {m : MethodId} {below : List Frame} {meth : Method} {cd : Code} {Q : State → Prop} {sc L : Nat} {xs : Nat → Int32} {A : Nat → Prop} {D : va_G} {cI cZ cJ : ClassId} {sa : Nat → Nat} (E0 : lw_E pg l s m cd sc L xs A D cI cZ cJ sa) (fp pa fo no mo qa qo qn qm pk lo go bk bf bs mp mf ms mi mm mk mq mn mu mv ou i : Nat) (hi : i + 4 ≤ L) (C R F n b C2 R2 F2 : Nat) (gn tw : Int32) (fz nx ml gz gx nl lf fl frA stA kp km nz sm sn : Nat → Int32) (ot : Nat → Int64) (hLI : LI C R F n b fz ml) (hnext : lw_Next pg l ev s m below meth cd Q sc A D cI cZ cJ fp pa fo no mo qa qo qn qm pk lo go bk bf bs mp mf ms mi mm mk mq mn mu mv ou i) (H : Heap) (locs : List Loc) (hP : va_P D vwCl (lw_W cI cZ cJ fp pa fo no mo qa qo qn qm pk lo go bk bf bs mp mf ms mi mm mk mq mn mu mv ou C R F n b C2 R2 F2 gn tw fz nx ml gz gx nl lf fl frA stA kp km nz sm sn ot) H) (hD : va_D A (lw_W cI cZ cJ fp pa fo no mo qa qo qn qm pk lo go bk bf bs mp mf ms mi mm mk mq mn mu mv ou C R F n b C2 R2 F2 gn tw fz nx ml gz gx nl lf fl frA stA kp km nz sm sn ot)) (hS : va_S A s.heap H locs) (ls : Array Slot) (hl : lv_has ls 9 [(0, .ref sc), (1, .ref fp), (2, .ref mp), (3, .ref ou), (4, .int (nI i))]) :
    W pg l ev room_1 s m #[Value.ref sc] below meth cd H locs (30 + i) (1000 + 4 * i) Q (F0 m 1253 ls []) := by
  obtain ⟨⟨hC3, hC⟩, ⟨hR3, hR⟩, hF, ⟨hn1, hn⟩, hb0, hI, hM⟩ := id hLI
  by_cases h1 : sp_X4_isIn (xs (i + 1)) 1 60 = 0
  · exact w_26_1 E0 fp pa fo no mo qa qo qn qm pk lo go bk bf bs mp mf ms mi mm mk mq mn mu mv ou i hi C R F n b C2 R2 F2 gn tw fz nx ml gz gx nl lf fl frA stA kp km nz sm sn ot hLI _ h1 rfl hnext H locs hP hD hS ls hl
  · obtain ⟨g, a1, a2, e1⟩ := sp_isIn_of (lo := 1) (hi := 60) h1 (by decide) (by decide)
    exact w_26_0 E0 fp pa fo no mo qa qo qn qm pk lo go bk bf bs mp mf ms mi mm mk mq mn mu mv ou i hi C R F n b C2 R2 F2 gn tw fz nx ml gz gx nl lf fl frA stA kp km nz sm sn ot hLI g a1 a2 e1 hnext H locs hP hD hS ls hl
set_option maxRecDepth 20000 in
theorem w_27 {pg : Program} {l : Launch} {ev : Env} {s : State} {m : MethodId} {below : List Frame} {meth : Method} {cd : Code} {Q : State → Prop} {sc L : Nat} {xs : Nat → Int32} {A : Nat → Prop} {D : va_G} {cI cZ cJ : ClassId} {sa : Nat → Nat} (E0 : lw_E pg l s m cd sc L xs A D cI cZ cJ sa) (fp pa fo no mo qa qo qn qm pk lo go bk bf bs mp mf ms mi mm mk mq mn mu mv ou i : Nat) (hi : i + 4 ≤ L) (C R F n b C2 R2 F2 : Nat) (gn tw : Int32) (fz nx ml gz gx nl lf fl frA stA kp km nz sm sn : Nat → Int32) (ot : Nat → Int64) (hLI : LI C R F n b fz ml) (hnext : lw_Next pg l ev s m below meth cd Q sc A D cI cZ cJ fp pa fo no mo qa qo qn qm pk lo go bk bf bs mp mf ms mi mm mk mq mn mu mv ou i) (H : Heap) (locs : List Loc) (hP : va_P D vwCl (lw_W cI cZ cJ fp pa fo no mo qa qo qn qm pk lo go bk bf bs mp mf ms mi mm mk mq mn mu mv ou C R F n b C2 R2 F2 gn tw fz nx ml gz gx nl lf fl frA stA kp km nz sm sn ot) H) (hD : va_D A (lw_W cI cZ cJ fp pa fo no mo qa qo qn qm pk lo go bk bf bs mp mf ms mi mm mk mq mn mu mv ou C R F n b C2 R2 F2 gn tw fz nx ml gz gx nl lf fl frA stA kp km nz sm sn ot)) (hS : va_S A s.heap H locs) (ls : Array Slot) (hl : lv_has ls 9 [(0, .ref sc), (1, .ref fp), (2, .ref mp), (3, .ref ou), (4, .int (nI i))]) :
    W pg l ev room_1 s m #[Value.ref sc] below meth cd H locs (30 + i) (1000 + 4 * i) Q (F0 m 1309 ls []) := by
  obtain ⟨⟨hC3, hC⟩, ⟨hR3, hR⟩, hF, ⟨hn1, hn⟩, hb0, hI, hM⟩ := id hLI
  by_cases h1 : sp_X4_isIn (xs (i + 1)) 1 20 = 0
  · exact w_27_1 E0 fp pa fo no mo qa qo qn qm pk lo go bk bf bs mp mf ms mi mm mk mq mn mu mv ou i hi C R F n b C2 R2 F2 gn tw fz nx ml gz gx nl lf fl frA stA kp km nz sm sn ot hLI _ h1 rfl hnext H locs hP hD hS ls hl
  · obtain ⟨g, a1, a2, e1⟩ := sp_isIn_of (lo := 1) (hi := 20) h1 (by decide) (by decide)
    exact w_27_0 E0 fp pa fo no mo qa qo qn qm pk lo go bk bf bs mp mf ms mi mm mk mq mn mu mv ou i hi C R F n b C2 R2 F2 gn tw fz nx ml gz gx nl lf fl frA stA kp km nz sm sn ot hLI g a1 a2 e1 hnext H locs hP hD hS ls hl
theorem and31 (x : Int32) : ∃ k : Nat, k < 32 ∧ x &&& 31 = nI k := by
  have e : (x &&& 31).toBitVec.toNat < 32 := by
    rw [Int32.toBitVec_and, BitVec.toNat_and]
    exact Nat.lt_of_le_of_lt Nat.and_le_right (by decide)
  refine ⟨(x &&& 31).toBitVec.toNat, e, ?_⟩
  apply Int32.toBitVec_inj.mp
  show _ = BitVec.ofNat 32 _
  rw [BitVec.ofNat_toNat, BitVec.setWidth_eq]
theorem lt_len {L i : Nat} (hL : L ≤ 2048) (hi : i ≤ 2052) : (nI L - 4 < nI i) ↔ ¬ i + 4 ≤ L := by
  by_cases h : 4 ≤ L
  · rw [show nI L - 4 = nI (L - 4) from pk_sub (b := 4) h, nI_ltI (by omega) (by omega)]
    omega
  · have h0 : nI L - 4 < 0 := by
      rcases (show L = 0 ∨ L = 1 ∨ L = 2 ∨ L = 3 by omega) with rfl | rfl | rfl | rfl <;> decide
    exact ⟨fun _ => by omega, fun _ => Int32.lt_of_lt_of_le h0 (nI_pos' (by omega))⟩
set_option maxHeartbeats 8000000 in
set_option maxRecDepth 100000 in
/-- one turn of the loop, from its head -/
theorem w_turn {pg : Program} {l : Launch} {ev : Env} {s : State} {m : MethodId} {below : List Frame} {meth : Method} {cd : Code} {Q : State → Prop} {sc L : Nat} {xs : Nat → Int32} {A : Nat → Prop} {D : va_G} {cI cZ cJ : ClassId} {sa : Nat → Nat} (E0 : lw_E pg l s m cd sc L xs A D cI cZ cJ sa) (fp pa fo no mo qa qo qn qm pk lo go bk bf bs mp mf ms mi mm mk mq mn mu mv ou i : Nat) (hi0 : i ≤ 2052) (hiL : i ≤ L + 3)
    (hend : ∀ (H : Heap) (locs : List Loc), va_S A s.heap H locs → ∀ k n : Nat, k ≤ 5000 → n ≤ 20000 → ∀ ls, W pg l ev room_1 s m #[Value.ref sc] below meth cd H locs k n Q (F0 m 1426 ls []))
    (hnext : i + 4 ≤ L → lw_Next pg l ev s m below meth cd Q sc A D cI cZ cJ fp pa fo no mo qa qo qn qm pk lo go bk bf bs mp mf ms mi mm mk mq mn mu mv ou i) (C R F n b C2 R2 F2 : Nat) (gn tw : Int32) (fz nx ml gz gx nl lf fl frA stA kp km nz sm sn : Nat → Int32) (ot : Nat → Int64) (hLI : LI C R F n b fz ml) (H : Heap) (locs : List Loc) (hP : va_P D vwCl (lw_W cI cZ cJ fp pa fo no mo qa qo qn qm pk lo go bk bf bs mp mf ms mi mm mk mq mn mu mv ou C R F n b C2 R2 F2 gn tw fz nx ml gz gx nl lf fl frA stA kp km nz sm sn ot) H) (hD : va_D A (lw_W cI cZ cJ fp pa fo no mo qa qo qn qm pk lo go bk bf bs mp mf ms mi mm mk mq mn mu mv ou C R F n b C2 R2 F2 gn tw fz nx ml gz gx nl lf fl frA stA kp km nz sm sn ot)) (hS : va_S A s.heap H locs) (ls : Array Slot) (hl : lv_has ls 9 [(0, .ref sc), (1, .ref fp), (2, .ref mp), (3, .ref ou), (4, .int (nI i))]) :
    W pg l ev room_1 s m #[Value.ref sc] below meth cd H locs (30 + i) (1000 + 4 * i) Q (F0 m 23 ls []) := by
  obtain ⟨hx, hb, hml, hown, hts, hXs, hbl, hbA, hL, hK, hN, hX, hZ, hA, hfl⟩ := id E0
  refine lv_iload hx hb dL_law_23 (lv_at hl 4 rfl) ?_
  refine lv_aload_n hx hb dL_law_25 rfl (lv_at hl 0 rfl) ?_
  refine va_slen hx hb hXs hbl hbA hS dL_law_26 ?_
  refine lv_iconst (v := 4) hx hb dL_law_27 (by decide) ?_
  refine lv_isub hx hb dL_law_28 ?_
  refine lv_icmp_gt (tgt := 1426) hx hb dL_law_29 (by decide) (fun c_1 => ?_) (fun c_1 => ?_)
  · exact hend H locs hS _ _ (by omega) (by omega) ls
  · have hi : i + 4 ≤ L := Classical.not_not.mp (fun h => c_1 ((lt_len hL (by omega)).mpr h))
    refine lv_aload_n hx hb dL_law_32 rfl (lv_at hl 0 rfl) ?_
    refine lv_iload hx hb dL_law_33 (lv_at hl 4 rfl) ?_
    refine f_sld (k := i) (y := xs i) hx hb hXs hbl hbA hS (by omega) hL rfl dL_law_35 ?_
    refine lv_bipush (v := 31) hx hb dL_law_36 (by decide) ?_
    refine lv_iand hx hb dL_law_38 ?_
    have hnext := hnext hi
    obtain ⟨k, hk, ek⟩ := and31 (xs i)
    refine f_topi (y := nI k) ek ?_
    rcases (show k = 0 ∨ k = 1 ∨ k = 2 ∨ k = 3 ∨ k = 4 ∨ k = 5 ∨ k = 6 ∨ k = 7 ∨ k = 8 ∨ k = 9 ∨ k = 10 ∨ k = 11 ∨ k = 12 ∨ k = 13 ∨ k = 14 ∨ k = 15 ∨ k = 16 ∨ k = 17 ∨ k = 18 ∨ k = 19 ∨ k = 20 ∨ k = 21 ∨ k = 22 ∨ k = 23 ∨ k = 24 ∨ k = 25 ∨ k = 26 ∨ k = 27 ∨ k = 28 ∨ k = 29 ∨ k = 30 ∨ k = 31 by omega) with rfl | rfl | rfl | rfl | rfl | rfl | rfl | rfl | rfl | rfl | rfl | rfl | rfl | rfl | rfl | rfl | rfl | rfl | rfl | rfl | rfl | rfl | rfl | rfl | rfl | rfl | rfl | rfl | rfl | rfl | rfl | rfl
    · refine lv_tableIn (off := 133) (tgt := 172) hx hb dL_law_39 (by decide) (by decide) (by decide) (by decide) ?_
      exact w_0 E0 fp pa fo no mo qa qo qn qm pk lo go bk bf bs mp mf ms mi mm mk mq mn mu mv ou i hi C R F n b C2 R2 F2 gn tw fz nx ml gz gx nl lf fl frA stA kp km nz sm sn ot hLI hnext H locs hP hD hS ls hl
    · refine lv_tableIn (off := 201) (tgt := 240) hx hb dL_law_39 (by decide) (by decide) (by decide) (by decide) ?_
      exact w_1 E0 fp pa fo no mo qa qo qn qm pk lo go bk bf bs mp mf ms mi mm mk mq mn mu mv ou i hi C R F n b C2 R2 F2 gn tw fz nx ml gz gx nl lf fl frA stA kp km nz sm sn ot hLI hnext H locs hP hD hS ls hl
    · refine lv_tableIn (off := 276) (tgt := 315) hx hb dL_law_39 (by decide) (by decide) (by decide) (by decide) ?_
      exact w_2 E0 fp pa fo no mo qa qo qn qm pk lo go bk bf bs mp mf ms mi mm mk mq mn mu mv ou i hi C R F n b C2 R2 F2 gn tw fz nx ml gz gx nl lf fl frA stA kp km nz sm sn ot hLI hnext H locs hP hD hS ls hl
    · refine lv_tableIn (off := 356) (tgt := 395) hx hb dL_law_39 (by decide) (by decide) (by decide) (by decide) ?_
      exact w_3 E0 fp pa fo no mo qa qo qn qm pk lo go bk bf bs mp mf ms mi mm mk mq mn mu mv ou i hi C R F n b C2 R2 F2 gn tw fz nx ml gz gx nl lf fl frA stA kp km nz sm sn ot hLI hnext H locs hP hD hS ls hl
    · refine lv_tableIn (off := 412) (tgt := 451) hx hb dL_law_39 (by decide) (by decide) (by decide) (by decide) ?_
      exact w_4 E0 fp pa fo no mo qa qo qn qm pk lo go bk bf bs mp mf ms mi mm mk mq mn mu mv ou i hi C R F n b C2 R2 F2 gn tw fz nx ml gz gx nl lf fl frA stA kp km nz sm sn ot hLI hnext H locs hP hD hS ls hl
    · refine lv_tableIn (off := 480) (tgt := 519) hx hb dL_law_39 (by decide) (by decide) (by decide) (by decide) ?_
      exact w_5 E0 fp pa fo no mo qa qo qn qm pk lo go bk bf bs mp mf ms mi mm mk mq mn mu mv ou i hi C R F n b C2 R2 F2 gn tw fz nx ml gz gx nl lf fl frA stA kp km nz sm sn ot hLI hnext H locs hP hD hS ls hl
    · refine lv_tableIn (off := 536) (tgt := 575) hx hb dL_law_39 (by decide) (by decide) (by decide) (by decide) ?_
      exact w_6 E0 fp pa fo no mo qa qo qn qm pk lo go bk bf bs mp mf ms mi mm mk mq mn mu mv ou i hi C R F n b C2 R2 F2 gn tw fz nx ml gz gx nl lf fl frA stA kp km nz sm sn ot hLI hnext H locs hP hD hS ls hl
    · refine lv_tableIn (off := 592) (tgt := 631) hx hb dL_law_39 (by decide) (by decide) (by decide) (by decide) ?_
      exact w_7_0 E0 fp pa fo no mo qa qo qn qm pk lo go bk bf bs mp mf ms mi mm mk mq mn mu mv ou i hi C R F n b C2 R2 F2 gn tw fz nx ml gz gx nl lf fl frA stA kp km nz sm sn ot hLI hnext H locs hP hD hS ls hl
    · refine lv_tableIn (off := 605) (tgt := 644) hx hb dL_law_39 (by decide) (by decide) (by decide) (by decide) ?_
      exact w_8_0 E0 fp pa fo no mo qa qo qn qm pk lo go bk bf bs mp mf ms mi mm mk mq mn mu mv ou i hi C R F n b C2 R2 F2 gn tw fz nx ml gz gx nl lf fl frA stA kp km nz sm sn ot hLI hnext H locs hP hD hS ls hl
    · refine lv_tableIn (off := 618) (tgt := 657) hx hb dL_law_39 (by decide) (by decide) (by decide) (by decide) ?_
      exact w_9_0 E0 fp pa fo no mo qa qo qn qm pk lo go bk bf bs mp mf ms mi mm mk mq mn mu mv ou i hi C R F n b C2 R2 F2 gn tw fz nx ml gz gx nl lf fl frA stA kp km nz sm sn ot hLI hnext H locs hP hD hS ls hl
    · refine lv_tableIn (off := 631) (tgt := 670) hx hb dL_law_39 (by decide) (by decide) (by decide) (by decide) ?_
      exact w_10_0 E0 fp pa fo no mo qa qo qn qm pk lo go bk bf bs mp mf ms mi mm mk mq mn mu mv ou i hi C R F n b C2 R2 F2 gn tw fz nx ml gz gx nl lf fl frA stA kp km nz sm sn ot hLI hnext H locs hP hD hS ls hl
    · refine lv_tableIn (off := 644) (tgt := 683) hx hb dL_law_39 (by decide) (by decide) (by decide) (by decide) ?_
      exact w_11_0 E0 fp pa fo no mo qa qo qn qm pk lo go bk bf bs mp mf ms mi mm mk mq mn mu mv ou i hi C R F n b C2 R2 F2 gn tw fz nx ml gz gx nl lf fl frA stA kp km nz sm sn ot hLI hnext H locs hP hD hS ls hl
    · refine lv_tableIn (off := 657) (tgt := 696) hx hb dL_law_39 (by decide) (by decide) (by decide) (by decide) ?_
      exact w_12_0 E0 fp pa fo no mo qa qo qn qm pk lo go bk bf bs mp mf ms mi mm mk mq mn mu mv ou i hi C R F n b C2 R2 F2 gn tw fz nx ml gz gx nl lf fl frA stA kp km nz sm sn ot hLI hnext H locs hP hD hS ls hl
    · refine lv_tableIn (off := 670) (tgt := 709) hx hb dL_law_39 (by decide) (by decide) (by decide) (by decide) ?_
      exact w_13_0 E0 fp pa fo no mo qa qo qn qm pk lo go bk bf bs mp mf ms mi mm mk mq mn mu mv ou i hi C R F n b C2 R2 F2 gn tw fz nx ml gz gx nl lf fl frA stA kp km nz sm sn ot hLI hnext H locs hP hD hS ls hl
    · refine lv_tableIn (off := 683) (tgt := 722) hx hb dL_law_39 (by decide) (by decide) (by decide) (by decide) ?_
      exact w_14 E0 fp pa fo no mo qa qo qn qm pk lo go bk bf bs mp mf ms mi mm mk mq mn mu mv ou i hi C R F n b C2 R2 F2 gn tw fz nx ml gz gx nl lf fl frA stA kp km nz sm sn ot hLI hnext H locs hP hD hS ls hl
    · refine lv_tableIn (off := 758) (tgt := 797) hx hb dL_law_39 (by decide) (by decide) (by decide) (by decide) ?_
      exact w_15 E0 fp pa fo no mo qa qo qn qm pk lo go bk bf bs mp mf ms mi mm mk mq mn mu mv ou i hi C R F n b C2 R2 F2 gn tw fz nx ml gz gx nl lf fl frA stA kp km nz sm sn ot hLI hnext H locs hP hD hS ls hl
    · refine lv_tableIn (off := 826) (tgt := 865) hx hb dL_law_39 (by decide) (by decide) (by decide) (by decide) ?_
      exact w_16 E0 fp pa fo no mo qa qo qn qm pk lo go bk bf bs mp mf ms mi mm mk mq mn mu mv ou i hi C R F n b C2 R2 F2 gn tw fz nx ml gz gx nl lf fl frA stA kp km nz sm sn ot hLI hnext H locs hP hD hS ls hl
    · refine lv_tableIn (off := 894) (tgt := 933) hx hb dL_law_39 (by decide) (by decide) (by decide) (by decide) ?_
      exact w_17 E0 fp pa fo no mo qa qo qn qm pk lo go bk bf bs mp mf ms mi mm mk mq mn mu mv ou i hi C R F n b C2 R2 F2 gn tw fz nx ml gz gx nl lf fl frA stA kp km nz sm sn ot hLI hnext H locs hP hD hS ls hl
    · refine lv_tableIn (off := 969) (tgt := 1008) hx hb dL_law_39 (by decide) (by decide) (by decide) (by decide) ?_
      exact w_18 E0 fp pa fo no mo qa qo qn qm pk lo go bk bf bs mp mf ms mi mm mk mq mn mu mv ou i hi C R F n b C2 R2 F2 gn tw fz nx ml gz gx nl lf fl frA stA kp km nz sm sn ot hLI hnext H locs hP hD hS ls hl
    · refine lv_tableIn (off := 1025) (tgt := 1064) hx hb dL_law_39 (by decide) (by decide) (by decide) (by decide) ?_
      exact w_19_0 E0 fp pa fo no mo qa qo qn qm pk lo go bk bf bs mp mf ms mi mm mk mq mn mu mv ou i hi C R F n b C2 R2 F2 gn tw fz nx ml gz gx nl lf fl frA stA kp km nz sm sn ot hLI hnext H locs hP hD hS ls hl
    · refine lv_tableIn (off := 1038) (tgt := 1077) hx hb dL_law_39 (by decide) (by decide) (by decide) (by decide) ?_
      exact w_20_0 E0 fp pa fo no mo qa qo qn qm pk lo go bk bf bs mp mf ms mi mm mk mq mn mu mv ou i hi C R F n b C2 R2 F2 gn tw fz nx ml gz gx nl lf fl frA stA kp km nz sm sn ot hLI hnext H locs hP hD hS ls hl
    · refine lv_tableIn (off := 1051) (tgt := 1090) hx hb dL_law_39 (by decide) (by decide) (by decide) (by decide) ?_
      exact w_21 E0 fp pa fo no mo qa qo qn qm pk lo go bk bf bs mp mf ms mi mm mk mq mn mu mv ou i hi C R F n b C2 R2 F2 gn tw fz nx ml gz gx nl lf fl frA stA kp km nz sm sn ot hLI hnext H locs hP hD hS ls hl
    · refine lv_tableIn (off := 1119) (tgt := 1158) hx hb dL_law_39 (by decide) (by decide) (by decide) (by decide) ?_
      exact w_22_0 E0 fp pa fo no mo qa qo qn qm pk lo go bk bf bs mp mf ms mi mm mk mq mn mu mv ou i hi C R F n b C2 R2 F2 gn tw fz nx ml gz gx nl lf fl frA stA kp km nz sm sn ot hLI hnext H locs hP hD hS ls hl
    · refine lv_tableIn (off := 1132) (tgt := 1171) hx hb dL_law_39 (by decide) (by decide) (by decide) (by decide) ?_
      exact w_23 E0 fp pa fo no mo qa qo qn qm pk lo go bk bf bs mp mf ms mi mm mk mq mn mu mv ou i hi C R F n b C2 R2 F2 gn tw fz nx ml gz gx nl lf fl frA stA kp km nz sm sn ot hLI hnext H locs hP hD hS ls hl
    · refine lv_tableIn (off := 1188) (tgt := 1227) hx hb dL_law_39 (by decide) (by decide) (by decide) (by decide) ?_
      exact w_24_0 E0 fp pa fo no mo qa qo qn qm pk lo go bk bf bs mp mf ms mi mm mk mq mn mu mv ou i hi C R F n b C2 R2 F2 gn tw fz nx ml gz gx nl lf fl frA stA kp km nz sm sn ot hLI hnext H locs hP hD hS ls hl
    · refine lv_tableIn (off := 1201) (tgt := 1240) hx hb dL_law_39 (by decide) (by decide) (by decide) (by decide) ?_
      exact w_25_0 E0 fp pa fo no mo qa qo qn qm pk lo go bk bf bs mp mf ms mi mm mk mq mn mu mv ou i hi C R F n b C2 R2 F2 gn tw fz nx ml gz gx nl lf fl frA stA kp km nz sm sn ot hLI hnext H locs hP hD hS ls hl
    · refine lv_tableIn (off := 1214) (tgt := 1253) hx hb dL_law_39 (by decide) (by decide) (by decide) (by decide) ?_
      exact w_26 E0 fp pa fo no mo qa qo qn qm pk lo go bk bf bs mp mf ms mi mm mk mq mn mu mv ou i hi C R F n b C2 R2 F2 gn tw fz nx ml gz gx nl lf fl frA stA kp km nz sm sn ot hLI hnext H locs hP hD hS ls hl
    · refine lv_tableIn (off := 1270) (tgt := 1309) hx hb dL_law_39 (by decide) (by decide) (by decide) (by decide) ?_
      exact w_27 E0 fp pa fo no mo qa qo qn qm pk lo go bk bf bs mp mf ms mi mm mk mq mn mu mv ou i hi C R F n b C2 R2 F2 gn tw fz nx ml gz gx nl lf fl frA stA kp km nz sm sn ot hLI hnext H locs hP hD hS ls hl
    · refine lv_tableIn (off := 1326) (tgt := 1365) hx hb dL_law_39 (by decide) (by decide) (by decide) (by decide) ?_
      exact w_28_0 E0 fp pa fo no mo qa qo qn qm pk lo go bk bf bs mp mf ms mi mm mk mq mn mu mv ou i hi C R F n b C2 R2 F2 gn tw fz nx ml gz gx nl lf fl frA stA kp km nz sm sn ot hLI hnext H locs hP hD hS ls hl
    · refine lv_tableIn (off := 1367) (tgt := 1406) hx hb dL_law_39 (by decide) (by decide) (by decide) (by decide) ?_
      exact w_29_0 E0 fp pa fo no mo qa qo qn qm pk lo go bk bf bs mp mf ms mi mm mk mq mn mu mv ou i hi C R F n b C2 R2 F2 gn tw fz nx ml gz gx nl lf fl frA stA kp km nz sm sn ot hLI hnext H locs hP hD hS ls hl
    · refine lv_tableOut (tgt := 1420) hx hb dL_law_39 (Or.inr (by decide)) (by decide) ?_
      refine W.widen (k := 34 + i) (n := 1016 + 4 * i) (by omega) (by omega) ?_
      exact hnext C R F n b C2 R2 F2 gn tw fz nx ml gz gx nl lf fl frA stA kp km nz sm sn ot hLI H locs hP hD hS ls hl
    · refine lv_tableOut (tgt := 1420) hx hb dL_law_39 (Or.inr (by decide)) (by decide) ?_
      refine W.widen (k := 34 + i) (n := 1016 + 4 * i) (by omega) (by omega) ?_
      exact hnext C R F n b C2 R2 F2 gn tw fz nx ml gz gx nl lf fl frA stA kp km nz sm sn ot hLI H locs hP hD hS ls hl
set_option maxHeartbeats 8000000 in
set_option maxRecDepth 100000 in
/-- the loop -/
theorem w_loop {pg : Program} {l : Launch} {ev : Env} {s : State} {m : MethodId} {below : List Frame} {meth : Method} {cd : Code} {Q : State → Prop} {sc L : Nat} {xs : Nat → Int32} {A : Nat → Prop} {D : va_G} {cI cZ cJ : ClassId} {sa : Nat → Nat} (E0 : lw_E pg l s m cd sc L xs A D cI cZ cJ sa) (fp pa fo no mo qa qo qn qm pk lo go bk bf bs mp mf ms mi mm mk mq mn mu mv ou : Nat)
    (hend : ∀ (H : Heap) (locs : List Loc), va_S A s.heap H locs → ∀ k n : Nat, k ≤ 5000 → n ≤ 20000 → ∀ ls, W pg l ev room_1 s m #[Value.ref sc] below meth cd H locs k n Q (F0 m 1426 ls [])) :
    ∀ (j i : Nat), L ≤ i + j → i ≤ L + 3 → ∀ (C R F n b C2 R2 F2 : Nat) (gn tw : Int32) (fz nx ml gz gx nl lf fl frA stA kp km nz sm sn : Nat → Int32) (ot : Nat → Int64), LI C R F n b fz ml → ∀ (H : Heap) (locs : List Loc), va_P D vwCl (lw_W cI cZ cJ fp pa fo no mo qa qo qn qm pk lo go bk bf bs mp mf ms mi mm mk mq mn mu mv ou C R F n b C2 R2 F2 gn tw fz nx ml gz gx nl lf fl frA stA kp km nz sm sn ot) H → va_D A (lw_W cI cZ cJ fp pa fo no mo qa qo qn qm pk lo go bk bf bs mp mf ms mi mm mk mq mn mu mv ou C R F n b C2 R2 F2 gn tw fz nx ml gz gx nl lf fl frA stA kp km nz sm sn ot) → va_S A s.heap H locs → ∀ ls, lv_has ls 9 [(0, .ref sc), (1, .ref fp), (2, .ref mp), (3, .ref ou), (4, .int (nI i))] →
    W pg l ev room_1 s m #[Value.ref sc] below meth cd H locs (30 + i) (1000 + 4 * i) Q (F0 m 23 ls []) := by
  intro j
  have hL2 : L ≤ 2048 := E0.2.2.2.2.2.2.2.2.1
  induction j with
  | zero =>
    intro i h1 h2 C R F n b C2 R2 F2 gn tw fz nx ml gz gx nl lf fl frA stA kp km nz sm sn ot hLI H locs hP hD hS ls hl
    exact w_turn E0 fp pa fo no mo qa qo qn qm pk lo go bk bf bs mp mf ms mi mm mk mq mn mu mv ou i (by omega) h2 hend (fun h => absurd h (by omega)) C R F n b C2 R2 F2 gn tw fz nx ml gz gx nl lf fl frA stA kp km nz sm sn ot hLI H locs hP hD hS ls hl
  | succ j ih =>
    intro i h1 h2 C R F n b C2 R2 F2 gn tw fz nx ml gz gx nl lf fl frA stA kp km nz sm sn ot hLI H locs hP hD hS ls hl
    refine w_turn E0 fp pa fo no mo qa qo qn qm pk lo go bk bf bs mp mf ms mi mm mk mq mn mu mv ou i (by omega) h2 hend (fun hi => ?_) C R F n b C2 R2 F2 gn tw fz nx ml gz gx nl lf fl frA stA kp km nz sm sn ot hLI H locs hP hD hS ls hl
    clear hP hD hS hl hLI
    clear C R F n b C2 R2 F2 gn tw fz nx ml gz gx nl lf fl frA stA kp km nz sm sn ot
    intro C R F n b C2 R2 F2 gn tw fz nx ml gz gx nl lf fl frA stA kp km nz sm sn ot hLI H locs hP hD hS ls hl
    have hx := E0.1
    have hb := E0.2.1
    refine lv_iinc (v := nI (i + 4)) (lv' := [(4, .int (nI (i + 4))), (0, .ref sc), (1, .ref fp), (2, .ref mp), (3, .ref ou)]) hx hb dL_law_1420 hl (k := 4) rfl (nI_add i 4) (by decide) rfl (fun ls hl => ?_)
    refine lv_goto (tgt := 23) hx hb dL_law_1423 (by decide) ?_
    refine W.widen (k := 30 + (i + 4)) (n := 1000 + 4 * (i + 4)) (by omega) (by omega) ?_
    exact ih (i + 4) (by omega) (by omega) C R F n b C2 R2 F2 gn tw fz nx ml gz gx nl lf fl frA stA kp km nz sm sn ot hLI H locs hP hD hS ls (lv_sub hl [1, 2, 3, 4, 0] rfl)
end SPLIT
