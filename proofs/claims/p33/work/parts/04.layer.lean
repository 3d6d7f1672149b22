/-! MY LAYER: one shape of contract for every method, one row for every call. -/
section FL
/-- the classes of arrays that the worlds hold -/
abbrev fTY (cI cZ cP cQ : ClassId) : List (ClassId × FieldType) := [(cI, .int), (cZ, .boolean), (cP, .array .int), (cQ, .array .boolean)]
/-- the links between nest mates -/
def fN (U : State) : Prop :=
  va_Nw (.fieldLinkNest RX3 108 RX1 "columns" "I" RX3) U ∧ va_Nw (.fieldLinkNest RX3 111 RX1 "rows" "I" RX3) U ∧ va_Nw (.fieldLinkNest RX3 69 RX1 "frame" "I" RX3) U ∧ va_Nw (.fieldLinkNest RX3 114 RX2 "count" "I" RX3) U ∧
  va_Nw (.methodLinkNest RX3 9 yX1_init RX3) U ∧ va_Nw (.methodLinkNest RX3 21 yX0_init RX3) U ∧ va_Nw (.methodLinkNest RX3 28 yX2_init RX3) U ∧ va_Nw (.methodLinkNest RL 77 yX4_init RL) U ∧ va_AOA .int U ∧ va_AOA .boolean U ∧ va_Nw (.castable "[Z" "java/lang/Cloneable") U ∧ va_Nw (.castable "[I" "java/lang/Cloneable") U
theorem fN_warm {s U : State} (hW : s.WarmedH U.vm) (h : fN s) : fN U := ⟨va_Nw.warmF hW h.1, va_Nw.warmF hW h.2.1, va_Nw.warmF hW h.2.2.1, va_Nw.warmF hW h.2.2.2.1, va_Nw.warmM hW h.2.2.2.2.1, va_Nw.warmM hW h.2.2.2.2.2.1, va_Nw.warmM hW h.2.2.2.2.2.2.1, va_Nw.warmM hW h.2.2.2.2.2.2.2.1, f_aoa_warm hW.alike h.2.2.2.2.2.2.2.2.1, f_aoa_warm hW.alike h.2.2.2.2.2.2.2.2.2.1, va_Nw.warmC hW h.2.2.2.2.2.2.2.2.2.2.1, va_Nw.warmC hW h.2.2.2.2.2.2.2.2.2.2.2⟩
theorem fN_same {u U : State} (hv : u.vm = U.vm) (h : fN u) : fN U := ⟨va_Nw.same rfl hv h.1, va_Nw.same rfl hv h.2.1, va_Nw.same rfl hv h.2.2.1, va_Nw.same rfl hv h.2.2.2.1, va_Nw.same rfl hv h.2.2.2.2.1, va_Nw.same rfl hv h.2.2.2.2.2.1, va_Nw.same rfl hv h.2.2.2.2.2.2.1, va_Nw.same rfl hv h.2.2.2.2.2.2.2.1, f_aoa_warm (hv ▸ Vm.Alike.refl _) h.2.2.2.2.2.2.2.2.1, f_aoa_warm (hv ▸ Vm.Alike.refl _) h.2.2.2.2.2.2.2.2.2.1, va_Nw.same rfl hv h.2.2.2.2.2.2.2.2.2.2.1, va_Nw.same rfl hv h.2.2.2.2.2.2.2.2.2.2.2⟩
/-- a method's start -/
def f_Pc (D : va_G) (tys : List (ClassId × FieldType)) (av : List Value) (sz : Nat) (ws : va_W) : Array Value → State → Prop := fun v U => v = av.toArray ∧ U.heap.size = sz ∧ va_P D vwCl ws U.heap ∧ va_K D vwCl tys U ∧ va_D (fun _ => True) ws ∧ fN U
theorem f_blind {D : va_G} {tys : List (ClassId × FieldType)} {av : List Value} {sz : Nat} {ws : va_W} : FrameBlind (f_Pc D tys av sz ws) := fun a U g mk q => by
  obtain ⟨q0, q1, qP, qK, qD, qN⟩ := q
  exact ⟨q0, q1, qP, va_K.moved (u := U) (U := U.calling g mk a) (Vm.Alike.refl U.vm) qK, qD, fN_same (u := U) (U := U.calling g mk a) rfl qN⟩
/-- the world at a method's end -/
def f_B (D : va_G) (ws0 : va_W) (sz : Nat) (ws1 : va_W) : Unit → State → Prop := fun _ t => va_P D vwCl ws1 t.heap ∧ va_D (va_A ws0 sz) ws1
/-- contracts: the answer and the world behind are told outright -/
def f_Mi (l : Launch) (y : MethodName) (W0 : List Cond) (rm : Room) (D : va_G) (tys : List (ClassId × FieldType)) (av : List Value) (sz : Nat) (ws : va_W) (r : Int32) (ws1 : va_W) : Prop :=
  Met l y W0 rm (f_Pc D tys av sz ws) (va_Qi (fun (x : Int32) (_ : Unit) => x = r) (f_B D ws sz ws1) (va_A ws sz)) 0 0 (va_A ws sz)
def f_Ml (l : Launch) (y : MethodName) (W0 : List Cond) (rm : Room) (D : va_G) (tys : List (ClassId × FieldType)) (av : List Value) (sz : Nat) (ws : va_W) (r : Int64) (ws1 : va_W) (mc ms : Nat) : Prop :=
  Met l y W0 rm (f_Pc D tys av sz ws) (va_Ql (fun (x : Int64) (_ : Unit) => x = r) (f_B D ws sz ws1) (va_A ws sz)) mc ms (va_A ws sz)
def f_Md (l : Launch) (y : MethodName) (W0 : List Cond) (rm : Room) (D : va_G) (tys : List (ClassId × FieldType)) (av : List Value) (sz : Nat) (ws : va_W) (r : UInt64) (ws1 : va_W) : Prop :=
  Met l y W0 rm (f_Pc D tys av sz ws) (va_Qd (fun (x : UInt64) (_ : Unit) => x = r) (f_B D ws sz ws1) (va_A ws sz)) 0 0 (va_A ws sz)
def f_Mv (l : Launch) (y : MethodName) (W0 : List Cond) (rm : Room) (D : va_G) (tys : List (ClassId × FieldType)) (av : List Value) (sz : Nat) (ws : va_W) (ws1 : va_W) : Prop :=
  Met l y W0 rm (f_Pc D tys av sz ws) (va_Qv (fun (_ : Unit) => True) (f_B D ws sz ws1) (va_A ws sz)) 0 0 (va_A ws sz)
/-- a constructor: what it makes comes at addresses of its own -/
def f_Mc {S : Type} (l : Launch) (y : MethodName) (W0 : List Cond) (rm : Room) (D : va_G) (tys : List (ClassId × FieldType)) (av : List Value) (sz : Nat) (ws : va_W) (ws1 : S → va_W) (mc ms : Nat) : Prop :=
  Met l y W0 rm (f_Pc D tys av sz ws) (va_Qv (fun (_ : S) => True) (fun u t => va_P D vwCl (ws1 u) t.heap ∧ va_D (va_A ws sz) (ws1 u)) (va_A ws sz)) mc ms (va_A ws sz)
/-! the world behind a call -/
def f_put : va_W → List Nat → va_W → va_W
  | ws, i :: is, q :: w1 => f_put (ws.set i q) is w1
  | ws, _, _ => ws
theorem f_put_at : ∀ (is : List Nat) (w1 ws : va_W), is.length = w1.length → ∀ (k : Nat) (q : Nat × va_E), (f_put ws is w1)[k]? = some q → (k ∉ is ∧ ws[k]? = some q) ∨ ∃ j : Nat, is[j]? = some k ∧ w1[j]? = some q
  | [], w1, ws, _, k, q, h => Or.inl ⟨List.not_mem_nil, by cases w1 <;> exact h⟩
  | i :: is, [], ws, hl, k, q, h => by cases hl
  | i :: is, p :: w1, ws, hl, k, q, h => by
    rcases f_put_at is w1 (ws.set i p) (Nat.succ.inj hl) k q h with ⟨h1, h2⟩ | ⟨j, h1, h2⟩
    · by_cases hk : k = i
      · subst hk
        have hlt : k < (ws.set k p).length := (List.getElem?_eq_some_iff.mp h2).1
        rw [List.length_set] at hlt
        rw [List.getElem?_set_self hlt] at h2
        exact Or.inr ⟨0, rfl, h2⟩
      · rw [List.getElem?_set_ne (Ne.symm hk)] at h2
        exact Or.inl ⟨fun hm => (List.mem_cons.mp hm).elim hk h1, h2⟩
    · exact Or.inr ⟨j + 1, h1, h2⟩
theorem f_at {is : List Nat} {w ws : va_W} (hs : is.map (fun i => ws[i]?) = w.map some) (k : Nat) (q : Nat × va_E) (hq : w[k]? = some q) : ∃ i, is[k]? = some i ∧ ws[i]? = some q := by
  have h1 : (is.map (fun i => ws[i]?))[k]? = some (some q) := by rw [hs, List.getElem?_map, hq]; rfl
  rw [List.getElem?_map] at h1
  cases hi : is[k]? with
  | none => rw [hi] at h1; cases h1
  | some i => rw [hi] at h1; exact ⟨i, rfl, Option.some.inj h1⟩
theorem f_P_sub {D : va_G} {ws w : va_W} {H : Heap} {is : List Nat} (hP : va_P D vwCl ws H) (hs : is.map (fun i => ws[i]?) = w.map some) : va_P D vwCl w H := fun k q hq => by
  obtain ⟨i, -, h⟩ := f_at hs k q hq
  exact hP i q h
theorem f_join {A0 : Nat → Prop} {D : va_G} {ws wc wa wb w1 : va_W} {H H1 : Heap} (hP : va_P D vwCl ws H) (hD : va_D A0 ws) (isC : List Nat) (hC : isC.map (fun i => ws[i]?) = wc.map some) (hw : w1 = wa ++ wb) (hadr : wa.map Prod.fst = wc.map Prod.fst)
    (hk : ∀ q : Nat, q < H.size → ¬ va_A wc H.size q → H1[q]? = H[q]?) (hF : ∀ q, va_A wc H.size q → A0 q) (hP1 : va_P D vwCl w1 H1) (hD1 : va_D (va_A wc H.size) w1) : va_P D vwCl (f_put ws isC wa ++ wb) H1 ∧ va_D A0 (f_put ws isC wa ++ wb) := by
  subst hw
  have hl1 : isC.length = wc.length := by
    have := congrArg List.length hC
    rwa [List.length_map, List.length_map] at this
  have hl2 : wa.length = wc.length := by
    have := congrArg List.length hadr
    rwa [List.length_map, List.length_map] at this
  have key := f_put_at isC wa ws (hl1.trans hl2.symm)
  have adr : ∀ (k : Nat) (q : Nat × va_E), (f_put ws isC wa)[k]? = some q → ∃ q0, ws[k]? = some q0 ∧ q0.1 = q.1 := by
    intro k q hq
    rcases key k q hq with ⟨-, h⟩ | ⟨j, h1, h2⟩
    · exact ⟨q, h, rfl⟩
    · have e1 : (wc.map Prod.fst)[j]? = some q.1 := by rw [← hadr, List.getElem?_map, h2]; rfl
      rw [List.getElem?_map] at e1
      cases hc : wc[j]? with
      | none => rw [hc] at e1; cases e1
      | some qc =>
        rw [hc] at e1
        obtain ⟨i, g1, g2⟩ := f_at hC j qc hc
        rw [h1] at g1
        cases g1
        exact ⟨qc, g2, Option.some.inj e1⟩
  have apart : ∀ (k : Nat) (q : Nat × va_E), k ∉ isC → ws[k]? = some q → q.1 < H.size ∧ ¬ va_A wc H.size q.1 := by
    intro k q hk h2
    have hl := (hP k q h2).lt
    refine ⟨hl, fun h => ?_⟩
    rcases h with ⟨k2, e, h⟩ | h
    · obtain ⟨j, h3, h4⟩ := f_at hC k2 (q.1, e) h
      have hij := hD.1 k j q (q.1, e) h2 h4 rfl
      subst hij
      exact hk (List.mem_of_getElem? h3)
    · exact absurd h (Nat.not_le.mpr hl)
  have inl : ∀ (j : Nat) (q : Nat × va_E), wa[j]? = some q → (wa ++ wb)[j]? = some q := fun j q h => by
    rw [List.getElem?_append_left (List.getElem?_eq_some_iff.mp h).1]; exact h
  have inr : ∀ (j : Nat) (q : Nat × va_E), wb[j]? = some q → (wa ++ wb)[wa.length + j]? = some q := fun j q h => by
    rw [List.getElem?_append_right (Nat.le_add_right _ _), Nat.add_sub_cancel_left]; exact h
  refine ⟨va_P.app (fun k q hq => ?_) (fun k q hq => hP1 _ q (inr k q hq)), va_D.app ⟨fun i j x y hx hy hxy => ?_, fun k q hq => ?_⟩ ⟨fun i j x y hx hy hxy => ?_, fun k q hq => hF _ (hD1.2 _ q (inr k q hq))⟩ (fun i j x y hx hy hxy => ?_)⟩
  · rcases key k q hq with ⟨h1, h2⟩ | ⟨j, h1, h2⟩
    · obtain ⟨g1, g2⟩ := apart k q h1 h2
      exact (hP k q h2).kept (hk q.1 g1 g2)
    · exact hP1 j q (inl j q h2)
  · obtain ⟨x0, h1, h2⟩ := adr i x hx
    obtain ⟨y0, h3, h4⟩ := adr j y hy
    exact hD.1 i j x0 y0 h1 h3 (h2.trans (hxy.trans h4.symm))
  · obtain ⟨q0, h1, h2⟩ := adr k q hq
    rw [← h2]
    exact hD.2 k q0 h1
  · exact Nat.add_left_cancel (hD1.1 _ _ x y (inr i x hx) (inr j y hy) hxy)
  · rcases key i x hx with ⟨h1, h2⟩ | ⟨k, h1, h2⟩
    · exact (apart i x h1 h2).2 (by rw [hxy]; exact hD1.2 _ y (inr j y hy))
    · have e := hD1.1 _ _ x y (inl k x h2) (inr j y hy) hxy
      have := (List.getElem?_eq_some_iff.mp h2).1
      omega
theorem f_join0 {A0 : Nat → Prop} {D : va_G} {ws wc w1 : va_W} {H H1 : Heap} (hP : va_P D vwCl ws H) (hD : va_D A0 ws) (isC : List Nat) (hC : isC.map (fun i => ws[i]?) = wc.map some) (hadr : w1.map Prod.fst = wc.map Prod.fst)
    (hk : ∀ q : Nat, q < H.size → ¬ va_A wc H.size q → H1[q]? = H[q]?) (hF : ∀ q, va_A wc H.size q → A0 q) (hP1 : va_P D vwCl w1 H1) (hD1 : va_D (va_A wc H.size) w1) : va_P D vwCl (f_put ws isC w1) H1 ∧ va_D A0 (f_put ws isC w1) := by
  have h := f_join (wb := []) hP hD isC hC (List.append_nil w1).symm hadr hk hF hP1 hD1
  rwa [List.append_nil] at h
/-- a method's entry -/
theorem f_pre {D : va_G} {tys : List (ClassId × FieldType)} {av : List Value} {ws wc : va_W} {H : Heap} {A : Nat → Prop} {s : State} {isC : List Nat} (hP : va_P D vwCl ws H) (hD : va_D A ws) (hK : va_K D vwCl tys s) (hN : fN s) (hC : isC.map (fun i => ws[i]?) = wc.map some) (hn : va_nd isC = true) :
    ∀ U : State, U.heap = H → s.WarmedH U.vm → f_Pc D tys av H.size wc av.toArray U := fun U hU hW =>
  ⟨rfl, by rw [hU], by rw [hU]; exact f_P_sub hP hC, va_K.moved hW.alike hK, (hD.sub isC hn hC).weaken (fun _ _ _ _ => trivial), fN_warm hW hN⟩
end FL
section FC
variable {p : Program} {l : Launch} {e : Env} {R : Room} {s : State} {m : MethodId} {args : Array Value} {below : List Frame} {meth : Method} {c : Code} {H : Heap} {locs : List Loc} {cells slots : Nat} {Q : State → Prop}
variable {y : MethodName} {bytes cc : ByteArray} {maxL nL n index pc : Nat} {ret : Option FieldType} {W0 Ts : List Cond} {rm : Room} {own C : String} {b : Addr} {As rest st0 : List Value} {ls : Array Slot} {D : va_G} {tys : List (ClassId × FieldType)} {ws wc w1 w2 : va_W} {A : Nat → Prop} {H0 : Heap} {T : u_T} {N ci : Nat} {fs : List Value}
theorem f_callVi {r : Int32} (S : CallFix p m c cc nL s args Ts own) (hP : va_P D vwCl ws H) (hD : va_D A ws) (hS : va_S A H0 H locs) (hA : ∀ q, H0.size ≤ q → A q) (hK : va_K D vwCl tys s) (hN : fN s) (isC : List Nat)
    (hM : f_Mi l y W0 rm D tys (.ref b :: As) H.size wc r w1) (cw : CallW R s args own C index y bytes maxL ret W0 rm 0 0 n) (k0 : Nat) (hc : vwCl[ci]? = some (C, T, N)) (he : ws[k0]? = some (b, .inr (ci, fs))) (hC : isC.map (fun i => ws[i]?) = wc.map some) (hn : va_nd isC = true) (ad : List Nat) (hadr1 : w1.map Prod.fst = ad) (hadr2 : wc.map Prod.fst = ad) (hw2 : f_put ws isC w1 = w2)
    (hst : st0 = As.reverse ++ .ref b :: rest) (hlen : As.length = n) (hls : ls.size = nL) (hroom : (rest.map fun v => v.category).sum ≤ 8) (hdg : decode cc pc = .ok (.invokevirtual index, 3)) (hR : cells ≤ R.cells ∧ slots ≤ R.slots)
    (kk : ∀ (H1 : Heap) (locs1 : List Loc), va_P D vwCl w2 H1 → va_D A w2 → va_S A H0 H1 locs1 → W p l e R s m args below meth c H1 locs1 cells slots Q (F0 m (pc + 3) ls (.int r :: rest))) : W p l e R s m args below meth c H locs cells slots Q (F0 m pc ls st0) := by
  have hF := va_free hD hS hA isC hC
  refine va_calli (va_runV S hM cw ⟨f_blind, va_recv hK hP hc he, f_pre hP hD hK hN hC hn⟩ rfl hlen hls hst (lv_room hroom) hdg hR) hS (fun q _ h => hF q h) hF (fun r1 u t H1 locs1 ht hvm hw hB hz1 hk1 hS1 => ?_)
  cases hw
  obtain ⟨hP1, hD1⟩ := hB
  rw [ht] at hP1
  obtain ⟨hP2, hD2⟩ := f_join0 hP hD isC hC (hadr1.trans hadr2.symm) hk1 hF hP1 hD1
  rw [hw2] at hP2 hD2
  exact kk H1 locs1 hP2 hD2 hS1
theorem f_callVl {r : Int64} (S : CallFix p m c cc nL s args Ts own) (hP : va_P D vwCl ws H) (hD : va_D A ws) (hS : va_S A H0 H locs) (hA : ∀ q, H0.size ≤ q → A q) (hK : va_K D vwCl tys s) (hN : fN s) (isC : List Nat)
    (hM : f_Ml l y W0 rm D tys (.ref b :: As) H.size wc r w1 0 0) (cw : CallW R s args own C index y bytes maxL ret W0 rm 0 0 n) (k0 : Nat) (hc : vwCl[ci]? = some (C, T, N)) (he : ws[k0]? = some (b, .inr (ci, fs))) (hC : isC.map (fun i => ws[i]?) = wc.map some) (hn : va_nd isC = true) (ad : List Nat) (hadr1 : w1.map Prod.fst = ad) (hadr2 : wc.map Prod.fst = ad) (hw2 : f_put ws isC w1 = w2)
    (hst : st0 = As.reverse ++ .ref b :: rest) (hlen : As.length = n) (hls : ls.size = nL) (hroom : (rest.map fun v => v.category).sum ≤ 8) (hdg : decode cc pc = .ok (.invokevirtual index, 3)) (hR : cells ≤ R.cells ∧ slots ≤ R.slots)
    (kk : ∀ (H1 : Heap) (locs1 : List Loc), va_P D vwCl w2 H1 → va_D A w2 → va_S A H0 H1 locs1 → W p l e R s m args below meth c H1 locs1 cells slots Q (F0 m (pc + 3) ls (.long r :: rest))) : W p l e R s m args below meth c H locs cells slots Q (F0 m pc ls st0) := by
  have hF := va_free hD hS hA isC hC
  refine va_calll (va_runV S hM cw ⟨f_blind, va_recv hK hP hc he, f_pre hP hD hK hN hC hn⟩ rfl hlen hls hst (lv_room hroom) hdg hR) hS (fun q _ h => hF q h) hF (fun r1 u t H1 locs1 ht hvm hw hB hz1 hk1 hS1 => ?_)
  cases hw
  obtain ⟨hP1, hD1⟩ := hB
  rw [ht] at hP1
  obtain ⟨hP2, hD2⟩ := f_join0 hP hD isC hC (hadr1.trans hadr2.symm) hk1 hF hP1 hD1
  rw [hw2] at hP2 hD2
  exact kk H1 locs1 hP2 hD2 hS1
theorem f_callVd {r : UInt64} (S : CallFix p m c cc nL s args Ts own) (hP : va_P D vwCl ws H) (hD : va_D A ws) (hS : va_S A H0 H locs) (hA : ∀ q, H0.size ≤ q → A q) (hK : va_K D vwCl tys s) (hN : fN s) (isC : List Nat)
    (hM : f_Md l y W0 rm D tys (.ref b :: As) H.size wc r w1) (cw : CallW R s args own C index y bytes maxL ret W0 rm 0 0 n) (k0 : Nat) (hc : vwCl[ci]? = some (C, T, N)) (he : ws[k0]? = some (b, .inr (ci, fs))) (hC : isC.map (fun i => ws[i]?) = wc.map some) (hn : va_nd isC = true) (ad : List Nat) (hadr1 : w1.map Prod.fst = ad) (hadr2 : wc.map Prod.fst = ad) (hw2 : f_put ws isC w1 = w2)
    (hst : st0 = As.reverse ++ .ref b :: rest) (hlen : As.length = n) (hls : ls.size = nL) (hroom : (rest.map fun v => v.category).sum ≤ 8) (hdg : decode cc pc = .ok (.invokevirtual index, 3)) (hR : cells ≤ R.cells ∧ slots ≤ R.slots)
    (kk : ∀ (H1 : Heap) (locs1 : List Loc), va_P D vwCl w2 H1 → va_D A w2 → va_S A H0 H1 locs1 → W p l e R s m args below meth c H1 locs1 cells slots Q (F0 m (pc + 3) ls (.double r :: rest))) : W p l e R s m args below meth c H locs cells slots Q (F0 m pc ls st0) := by
  have hF := va_free hD hS hA isC hC
  refine va_calld (va_runV S hM cw ⟨f_blind, va_recv hK hP hc he, f_pre hP hD hK hN hC hn⟩ rfl hlen hls hst (lv_room hroom) hdg hR) hS (fun q _ h => hF q h) hF (fun r1 u t H1 locs1 ht hvm hw hB hz1 hk1 hS1 => ?_)
  cases hw
  obtain ⟨hP1, hD1⟩ := hB
  rw [ht] at hP1
  obtain ⟨hP2, hD2⟩ := f_join0 hP hD isC hC (hadr1.trans hadr2.symm) hk1 hF hP1 hD1
  rw [hw2] at hP2 hD2
  exact kk H1 locs1 hP2 hD2 hS1
theorem f_callVv (S : CallFix p m c cc nL s args Ts own) (hP : va_P D vwCl ws H) (hD : va_D A ws) (hS : va_S A H0 H locs) (hA : ∀ q, H0.size ≤ q → A q) (hK : va_K D vwCl tys s) (hN : fN s) (isC : List Nat)
    (hM : f_Mv l y W0 rm D tys (.ref b :: As) H.size wc w1) (cw : CallW R s args own C index y bytes maxL ret W0 rm 0 0 n) (k0 : Nat) (hc : vwCl[ci]? = some (C, T, N)) (he : ws[k0]? = some (b, .inr (ci, fs))) (hC : isC.map (fun i => ws[i]?) = wc.map some) (hn : va_nd isC = true) (ad : List Nat) (hadr1 : w1.map Prod.fst = ad) (hadr2 : wc.map Prod.fst = ad) (hw2 : f_put ws isC w1 = w2)
    (hst : st0 = As.reverse ++ .ref b :: rest) (hlen : As.length = n) (hls : ls.size = nL) (hroom : (rest.map fun v => v.category).sum ≤ 8) (hdg : decode cc pc = .ok (.invokevirtual index, 3)) (hR : cells ≤ R.cells ∧ slots ≤ R.slots)
    (kk : ∀ (H1 : Heap) (locs1 : List Loc), va_P D vwCl w2 H1 → va_D A w2 → va_S A H0 H1 locs1 → W p l e R s m args below meth c H1 locs1 cells slots Q (F0 m (pc + 3) ls (rest))) : W p l e R s m args below meth c H locs cells slots Q (F0 m pc ls st0) := by
  have hF := va_free hD hS hA isC hC
  refine va_callv (va_runV S hM cw ⟨f_blind, va_recv hK hP hc he, f_pre hP hD hK hN hC hn⟩ rfl hlen hls hst (lv_room hroom) hdg hR) hS (fun q _ h => hF q h) hF (fun u t H1 locs1 ht hvm hw hB hz1 hk1 hS1 => ?_)
  clear hw
  obtain ⟨hP1, hD1⟩ := hB
  rw [ht] at hP1
  obtain ⟨hP2, hD2⟩ := f_join0 hP hD isC hC (hadr1.trans hadr2.symm) hk1 hF hP1 hD1
  rw [hw2] at hP2 hD2
  exact kk H1 locs1 hP2 hD2 hS1
theorem f_callSi {r : Int32} (S : CallFix p m c cc nL s args Ts own) (hP : va_P D vwCl ws H) (hD : va_D A ws) (hS : va_S A H0 H locs) (hA : ∀ q, H0.size ≤ q → A q) (hK : va_K D vwCl tys s) (hN : fN s) (isC : List Nat)
    (hM : f_Mi l y W0 rm D tys (As) H.size wc r w1) (cw : CallB R s args own index y bytes maxL ret W0 rm 0 0 n ∧ (Cond.static y).before args s = true) (hC : isC.map (fun i => ws[i]?) = wc.map some) (hn : va_nd isC = true) (ad : List Nat) (hadr1 : w1.map Prod.fst = ad) (hadr2 : wc.map Prod.fst = ad) (hw2 : f_put ws isC w1 = w2)
    (hst : st0 = As.reverse ++ rest) (hlen : As.length = n) (hls : ls.size = nL) (hroom : (rest.map fun v => v.category).sum ≤ 8) (hdg : decode cc pc = .ok (.invokestatic index, 3)) (hR : cells ≤ R.cells ∧ slots ≤ R.slots)
    (kk : ∀ (H1 : Heap) (locs1 : List Loc), va_P D vwCl w2 H1 → va_D A w2 → va_S A H0 H1 locs1 → W p l e R s m args below meth c H1 locs1 cells slots Q (F0 m (pc + 3) ls (.int r :: rest))) : W p l e R s m args below meth c H locs cells slots Q (F0 m pc ls st0) := by
  have hF := va_free hD hS hA isC hC
  refine va_calli (va_runS S hM cw ⟨f_blind, f_pre hP hD hK hN hC hn⟩ rfl hlen hls hst (lv_room hroom) hdg hR) hS (fun q _ h => hF q h) hF (fun r1 u t H1 locs1 ht hvm hw hB hz1 hk1 hS1 => ?_)
  cases hw
  obtain ⟨hP1, hD1⟩ := hB
  rw [ht] at hP1
  obtain ⟨hP2, hD2⟩ := f_join0 hP hD isC hC (hadr1.trans hadr2.symm) hk1 hF hP1 hD1
  rw [hw2] at hP2 hD2
  exact kk H1 locs1 hP2 hD2 hS1
theorem f_callSl {r : Int64} (S : CallFix p m c cc nL s args Ts own) (hP : va_P D vwCl ws H) (hD : va_D A ws) (hS : va_S A H0 H locs) (hA : ∀ q, H0.size ≤ q → A q) (hK : va_K D vwCl tys s) (hN : fN s) (isC : List Nat)
    (hM : f_Ml l y W0 rm D tys (As) H.size wc r w1 0 0) (cw : CallB R s args own index y bytes maxL ret W0 rm 0 0 n ∧ (Cond.static y).before args s = true) (hC : isC.map (fun i => ws[i]?) = wc.map some) (hn : va_nd isC = true) (ad : List Nat) (hadr1 : w1.map Prod.fst = ad) (hadr2 : wc.map Prod.fst = ad) (hw2 : f_put ws isC w1 = w2)
    (hst : st0 = As.reverse ++ rest) (hlen : As.length = n) (hls : ls.size = nL) (hroom : (rest.map fun v => v.category).sum ≤ 8) (hdg : decode cc pc = .ok (.invokestatic index, 3)) (hR : cells ≤ R.cells ∧ slots ≤ R.slots)
    (kk : ∀ (H1 : Heap) (locs1 : List Loc), va_P D vwCl w2 H1 → va_D A w2 → va_S A H0 H1 locs1 → W p l e R s m args below meth c H1 locs1 cells slots Q (F0 m (pc + 3) ls (.long r :: rest))) : W p l e R s m args below meth c H locs cells slots Q (F0 m pc ls st0) := by
  have hF := va_free hD hS hA isC hC
  refine va_calll (va_runS S hM cw ⟨f_blind, f_pre hP hD hK hN hC hn⟩ rfl hlen hls hst (lv_room hroom) hdg hR) hS (fun q _ h => hF q h) hF (fun r1 u t H1 locs1 ht hvm hw hB hz1 hk1 hS1 => ?_)
  cases hw
  obtain ⟨hP1, hD1⟩ := hB
  rw [ht] at hP1
  obtain ⟨hP2, hD2⟩ := f_join0 hP hD isC hC (hadr1.trans hadr2.symm) hk1 hF hP1 hD1
  rw [hw2] at hP2 hD2
  exact kk H1 locs1 hP2 hD2 hS1
theorem f_callSd {r : UInt64} (S : CallFix p m c cc nL s args Ts own) (hP : va_P D vwCl ws H) (hD : va_D A ws) (hS : va_S A H0 H locs) (hA : ∀ q, H0.size ≤ q → A q) (hK : va_K D vwCl tys s) (hN : fN s) (isC : List Nat)
    (hM : f_Md l y W0 rm D tys (As) H.size wc r w1) (cw : CallB R s args own index y bytes maxL ret W0 rm 0 0 n ∧ (Cond.static y).before args s = true) (hC : isC.map (fun i => ws[i]?) = wc.map some) (hn : va_nd isC = true) (ad : List Nat) (hadr1 : w1.map Prod.fst = ad) (hadr2 : wc.map Prod.fst = ad) (hw2 : f_put ws isC w1 = w2)
    (hst : st0 = As.reverse ++ rest) (hlen : As.length = n) (hls : ls.size = nL) (hroom : (rest.map fun v => v.category).sum ≤ 8) (hdg : decode cc pc = .ok (.invokestatic index, 3)) (hR : cells ≤ R.cells ∧ slots ≤ R.slots)
    (kk : ∀ (H1 : Heap) (locs1 : List Loc), va_P D vwCl w2 H1 → va_D A w2 → va_S A H0 H1 locs1 → W p l e R s m args below meth c H1 locs1 cells slots Q (F0 m (pc + 3) ls (.double r :: rest))) : W p l e R s m args below meth c H locs cells slots Q (F0 m pc ls st0) := by
  have hF := va_free hD hS hA isC hC
  refine va_calld (va_runS S hM cw ⟨f_blind, f_pre hP hD hK hN hC hn⟩ rfl hlen hls hst (lv_room hroom) hdg hR) hS (fun q _ h => hF q h) hF (fun r1 u t H1 locs1 ht hvm hw hB hz1 hk1 hS1 => ?_)
  cases hw
  obtain ⟨hP1, hD1⟩ := hB
  rw [ht] at hP1
  obtain ⟨hP2, hD2⟩ := f_join0 hP hD isC hC (hadr1.trans hadr2.symm) hk1 hF hP1 hD1
  rw [hw2] at hP2 hD2
  exact kk H1 locs1 hP2 hD2 hS1
theorem f_callSv (S : CallFix p m c cc nL s args Ts own) (hP : va_P D vwCl ws H) (hD : va_D A ws) (hS : va_S A H0 H locs) (hA : ∀ q, H0.size ≤ q → A q) (hK : va_K D vwCl tys s) (hN : fN s) (isC : List Nat)
    (hM : f_Mv l y W0 rm D tys (As) H.size wc w1) (cw : CallB R s args own index y bytes maxL ret W0 rm 0 0 n ∧ (Cond.static y).before args s = true) (hC : isC.map (fun i => ws[i]?) = wc.map some) (hn : va_nd isC = true) (ad : List Nat) (hadr1 : w1.map Prod.fst = ad) (hadr2 : wc.map Prod.fst = ad) (hw2 : f_put ws isC w1 = w2)
    (hst : st0 = As.reverse ++ rest) (hlen : As.length = n) (hls : ls.size = nL) (hroom : (rest.map fun v => v.category).sum ≤ 8) (hdg : decode cc pc = .ok (.invokestatic index, 3)) (hR : cells ≤ R.cells ∧ slots ≤ R.slots)
    (kk : ∀ (H1 : Heap) (locs1 : List Loc), va_P D vwCl w2 H1 → va_D A w2 → va_S A H0 H1 locs1 → W p l e R s m args below meth c H1 locs1 cells slots Q (F0 m (pc + 3) ls (rest))) : W p l e R s m args below meth c H locs cells slots Q (F0 m pc ls st0) := by
  have hF := va_free hD hS hA isC hC
  refine va_callv (va_runS S hM cw ⟨f_blind, f_pre hP hD hK hN hC hn⟩ rfl hlen hls hst (lv_room hroom) hdg hR) hS (fun q _ h => hF q h) hF (fun u t H1 locs1 ht hvm hw hB hz1 hk1 hS1 => ?_)
  clear hw
  obtain ⟨hP1, hD1⟩ := hB
  rw [ht] at hP1
  obtain ⟨hP2, hD2⟩ := f_join0 hP hD isC hC (hadr1.trans hadr2.symm) hk1 hF hP1 hD1
  rw [hw2] at hP2 hD2
  exact kk H1 locs1 hP2 hD2 hS1
end FC
section FE
/-- how a method is entered -/
theorem f_entry {l : Launch} {y : MethodName} {W0 ws' : List Cond} {rm : Room} {D : va_G} {tys : List (ClassId × FieldType)} {av : List Value} {sz : Nat} {ws : va_W} {cc : ByteArray} {maxL : Nat} {ret : Option FieldType} {mc ms : Nat} (QQ : (Nat → Prop) → Array Value → State → Outcome → State → Prop)
    (hy : plainName y.cls = true) (hw : W0 = Cond.code y cc maxL ret :: ws') (hsl : (lg_sl av).length ≤ maxL)
    (body : ∀ (p : Program) (e : Env) (s : State) (m : MethodId) (below : List Frame) (meth : Method) (c : Code), p.tables.exec = Jvm.exec → c.code = cc → meth.sig.returnType = ret → (∀ w ∈ W0, w.before av.toArray s = true) → s.vm.findClass y.cls = some m.cls → meth.locks = false → c.maxLocals = maxL → meth.name = y.name → s.heap.size = sz →
      va_P D vwCl ws s.heap → va_K D vwCl tys s → fN s → ∀ A : Nat → Prop, va_D A ws → (∀ q, s.heap.size ≤ q → A q) → va_S A s.heap s.heap [] → ∀ ls : Array Slot, lv_has ls maxL (lv_args 0 av) →
      W p l e (headSpec W0 rm).room s m av.toArray below meth c s.heap [] 0 0 (MQ below (QQ A) av.toArray s mc ms A) (F0 m 0 ls [])) :
    Met l y W0 rm (f_Pc D tys av sz ws) (QQ (va_A ws sz)) mc ms (va_A ws sz) := by
  refine Met.ofW (cc := cc) (maxL := maxL) (ret := ret) hy hw ?_
  intro p e s m args below meth c s₁ B hml hv
  obtain ⟨rfl, hsz, hP, hK, hD0, hN⟩ := hv
  subst hsz
  have hD := hD0.self (sz := s.heap.size)
  have hl := lv_entry av hsl
  rw [lg_entry_eq]
  exact body p e s m below meth c B.exec B.bytes B.returns (atoms_spec (ws := W0) B.pre) (findClass_of_methodNamed B.named) B.notSynchronized hml (name_of_methodNamed B.named B.method).1 rfl hP hK hN _ hD (fun q h => Or.inr h) va_S.rf _ hl
theorem f_ent_i {l : Launch} {y : MethodName} {W0 ws' : List Cond} {rm : Room} {D : va_G} {tys : List (ClassId × FieldType)} {av : List Value} {sz : Nat} {ws ws1 : va_W} {cc : ByteArray} {maxL : Nat} {ret : Option FieldType} {r : Int32} 
    (hy : plainName y.cls = true) (hw : W0 = Cond.code y cc maxL ret :: ws') (hsl : (lg_sl av).length ≤ maxL)
    (body : ∀ (p : Program) (e : Env) (s : State) (m : MethodId) (below : List Frame) (meth : Method) (c : Code), p.tables.exec = Jvm.exec → c.code = cc → meth.sig.returnType = ret → (∀ w ∈ W0, w.before av.toArray s = true) → s.vm.findClass y.cls = some m.cls → meth.locks = false → c.maxLocals = maxL → meth.name = y.name → s.heap.size = sz →
      va_P D vwCl ws s.heap → va_K D vwCl tys s → fN s → ∀ A : Nat → Prop, va_D A ws → (∀ q, s.heap.size ≤ q → A q) → va_S A s.heap s.heap [] → ∀ ls : Array Slot, lv_has ls maxL (lv_args 0 av) →
      W p l e (headSpec W0 rm).room s m av.toArray below meth c s.heap [] 0 0 (MQ below (va_Qi (fun (x : Int32) (_ : Unit) => x = r) (fun _ t => va_P D vwCl ws1 t.heap ∧ va_D A ws1) A) av.toArray s 0 0 A) (F0 m 0 ls [])) :
    f_Mi l y W0 rm D tys av sz ws r ws1 := f_entry (fun A => va_Qi (fun (x : Int32) (_ : Unit) => x = r) (fun _ t => va_P D vwCl ws1 t.heap ∧ va_D A ws1) A) hy hw hsl body
theorem f_ent_l {l : Launch} {y : MethodName} {W0 ws' : List Cond} {rm : Room} {D : va_G} {tys : List (ClassId × FieldType)} {av : List Value} {sz : Nat} {ws ws1 : va_W} {cc : ByteArray} {maxL : Nat} {ret : Option FieldType} {r : Int64} {mc ms : Nat} 
    (hy : plainName y.cls = true) (hw : W0 = Cond.code y cc maxL ret :: ws') (hsl : (lg_sl av).length ≤ maxL)
    (body : ∀ (p : Program) (e : Env) (s : State) (m : MethodId) (below : List Frame) (meth : Method) (c : Code), p.tables.exec = Jvm.exec → c.code = cc → meth.sig.returnType = ret → (∀ w ∈ W0, w.before av.toArray s = true) → s.vm.findClass y.cls = some m.cls → meth.locks = false → c.maxLocals = maxL → meth.name = y.name → s.heap.size = sz →
      va_P D vwCl ws s.heap → va_K D vwCl tys s → fN s → ∀ A : Nat → Prop, va_D A ws → (∀ q, s.heap.size ≤ q → A q) → va_S A s.heap s.heap [] → ∀ ls : Array Slot, lv_has ls maxL (lv_args 0 av) →
      W p l e (headSpec W0 rm).room s m av.toArray below meth c s.heap [] 0 0 (MQ below (va_Ql (fun (x : Int64) (_ : Unit) => x = r) (fun _ t => va_P D vwCl ws1 t.heap ∧ va_D A ws1) A) av.toArray s mc ms A) (F0 m 0 ls [])) :
    f_Ml l y W0 rm D tys av sz ws r ws1 mc ms := f_entry (fun A => va_Ql (fun (x : Int64) (_ : Unit) => x = r) (fun _ t => va_P D vwCl ws1 t.heap ∧ va_D A ws1) A) hy hw hsl body
theorem f_ent_d {l : Launch} {y : MethodName} {W0 ws' : List Cond} {rm : Room} {D : va_G} {tys : List (ClassId × FieldType)} {av : List Value} {sz : Nat} {ws ws1 : va_W} {cc : ByteArray} {maxL : Nat} {ret : Option FieldType} {r : UInt64} 
    (hy : plainName y.cls = true) (hw : W0 = Cond.code y cc maxL ret :: ws') (hsl : (lg_sl av).length ≤ maxL)
    (body : ∀ (p : Program) (e : Env) (s : State) (m : MethodId) (below : List Frame) (meth : Method) (c : Code), p.tables.exec = Jvm.exec → c.code = cc → meth.sig.returnType = ret → (∀ w ∈ W0, w.before av.toArray s = true) → s.vm.findClass y.cls = some m.cls → meth.locks = false → c.maxLocals = maxL → meth.name = y.name → s.heap.size = sz →
      va_P D vwCl ws s.heap → va_K D vwCl tys s → fN s → ∀ A : Nat → Prop, va_D A ws → (∀ q, s.heap.size ≤ q → A q) → va_S A s.heap s.heap [] → ∀ ls : Array Slot, lv_has ls maxL (lv_args 0 av) →
      W p l e (headSpec W0 rm).room s m av.toArray below meth c s.heap [] 0 0 (MQ below (va_Qd (fun (x : UInt64) (_ : Unit) => x = r) (fun _ t => va_P D vwCl ws1 t.heap ∧ va_D A ws1) A) av.toArray s 0 0 A) (F0 m 0 ls [])) :
    f_Md l y W0 rm D tys av sz ws r ws1 := f_entry (fun A => va_Qd (fun (x : UInt64) (_ : Unit) => x = r) (fun _ t => va_P D vwCl ws1 t.heap ∧ va_D A ws1) A) hy hw hsl body
theorem f_ent_v {l : Launch} {y : MethodName} {W0 ws' : List Cond} {rm : Room} {D : va_G} {tys : List (ClassId × FieldType)} {av : List Value} {sz : Nat} {ws ws1 : va_W} {cc : ByteArray} {maxL : Nat} {ret : Option FieldType} 
    (hy : plainName y.cls = true) (hw : W0 = Cond.code y cc maxL ret :: ws') (hsl : (lg_sl av).length ≤ maxL)
    (body : ∀ (p : Program) (e : Env) (s : State) (m : MethodId) (below : List Frame) (meth : Method) (c : Code), p.tables.exec = Jvm.exec → c.code = cc → meth.sig.returnType = ret → (∀ w ∈ W0, w.before av.toArray s = true) → s.vm.findClass y.cls = some m.cls → meth.locks = false → c.maxLocals = maxL → meth.name = y.name → s.heap.size = sz →
      va_P D vwCl ws s.heap → va_K D vwCl tys s → fN s → ∀ A : Nat → Prop, va_D A ws → (∀ q, s.heap.size ≤ q → A q) → va_S A s.heap s.heap [] → ∀ ls : Array Slot, lv_has ls maxL (lv_args 0 av) →
      W p l e (headSpec W0 rm).room s m av.toArray below meth c s.heap [] 0 0 (MQ below (va_Qv (fun (_ : Unit) => True) (fun _ t => va_P D vwCl ws1 t.heap ∧ va_D A ws1) A) av.toArray s 0 0 A) (F0 m 0 ls [])) :
    f_Mv l y W0 rm D tys av sz ws ws1 := f_entry (fun A => va_Qv (fun (_ : Unit) => True) (fun _ t => va_P D vwCl ws1 t.heap ∧ va_D A ws1) A) hy hw hsl body
variable {p : Program} {l : Launch} {e : Env} {R : Room} {s : State} {m : MethodId} {args : Array Value} {below : List Frame} {meth : Method} {c : Code} {H : Heap} {locs : List Loc} {cells slots : Nat} {cc : ByteArray} {pc : Nat} {ls : Array Slot} {D : va_G} {ws1 : va_W} {A : Nat → Prop}
theorem f_ret_i {v r : Int32} (hx : p.tables.exec = Jvm.exec) (hb : c.code = cc) (hr : meth.sig.returnType = some .int) (hlocks : meth.locks = false) (hP : va_P D vwCl ws1 H) (hD : va_D A ws1) (hS : va_S A s.heap H locs) (hdg : decode cc pc = .ok (.ireturn, 1)) (hv : v = r) :
    W p l e R s m args below meth c H locs cells slots (MQ below (va_Qi (fun (x : Int32) (_ : Unit) => x = r) (fun _ t => va_P D vwCl ws1 t.heap ∧ va_D A ws1) A) args s cells slots A) (F0 m pc ls [.int v]) :=
  W.iret (v := v) hx hb hr (fun t ht _ => ⟨⟨v, (), rfl, hv, by rw [ht]; exact hP, hD⟩, hS.F ht⟩) hS.2.2 hdg hlocks
theorem f_ret_z {v r : Int32} (hx : p.tables.exec = Jvm.exec) (hb : c.code = cc) (hr : meth.sig.returnType = some .boolean) (hlocks : meth.locks = false) (hP : va_P D vwCl ws1 H) (hD : va_D A ws1) (hS : va_S A s.heap H locs) (hdg : decode cc pc = .ok (.ireturn, 1)) (hv : v = r) (hn : narrow .boolean (.int r) = .int r) :
    W p l e R s m args below meth c H locs cells slots (MQ below (va_Qi (fun (x : Int32) (_ : Unit) => x = r) (fun _ t => va_P D vwCl ws1 t.heap ∧ va_D A ws1) A) args s cells slots A) (F0 m pc ls [.int v]) :=
  W.zret (v := v) hx hb hr (by rw [hv]; exact hn) (fun t ht _ => ⟨⟨v, (), rfl, hv, by rw [ht]; exact hP, hD⟩, hS.F ht⟩) hS.2.2 hdg hlocks
theorem f_ret_l {v r : Int64} (hx : p.tables.exec = Jvm.exec) (hb : c.code = cc) (hr : meth.sig.returnType = some .long) (hlocks : meth.locks = false) (hP : va_P D vwCl ws1 H) (hD : va_D A ws1) (hS : va_S A s.heap H locs) (hdg : decode cc pc = .ok (.lreturn, 1)) (hv : v = r) :
    W p l e R s m args below meth c H locs cells slots (MQ below (va_Ql (fun (x : Int64) (_ : Unit) => x = r) (fun _ t => va_P D vwCl ws1 t.heap ∧ va_D A ws1) A) args s cells slots A) (F0 m pc ls [.long v]) :=
  W.lret (v := v) hx hb hr (fun t ht _ => ⟨⟨v, (), rfl, hv, by rw [ht]; exact hP, hD⟩, hS.F ht⟩) hS.2.2 hdg hlocks
theorem f_ret_d {v r : UInt64} (hx : p.tables.exec = Jvm.exec) (hb : c.code = cc) (hr : meth.sig.returnType = some .double) (hlocks : meth.locks = false) (hP : va_P D vwCl ws1 H) (hD : va_D A ws1) (hS : va_S A s.heap H locs) (hdg : decode cc pc = .ok (.dreturn, 1)) (hv : v = r) :
    W p l e R s m args below meth c H locs cells slots (MQ below (va_Qd (fun (x : UInt64) (_ : Unit) => x = r) (fun _ t => va_P D vwCl ws1 t.heap ∧ va_D A ws1) A) args s cells slots A) (F0 m pc ls [.double v]) :=
  W.dret (v := v) hx hb hr (fun t ht _ => ⟨⟨v, (), rfl, hv, by rw [ht]; exact hP, hD⟩, hS.F ht⟩) hS.2.2 hdg hlocks
theorem f_ret_v (hx : p.tables.exec = Jvm.exec) (hb : c.code = cc) (hr : meth.sig.returnType = none) (hlocks : meth.locks = false) (hP : va_P D vwCl ws1 H) (hD : va_D A ws1) (hS : va_S A s.heap H locs) (hdg : decode cc pc = .ok (.return_, 1)) :
    W p l e R s m args below meth c H locs cells slots (MQ below (va_Qv (fun (_ : Unit) => True) (fun _ t => va_P D vwCl ws1 t.heap ∧ va_D A ws1) A) args s cells slots A) (F0 m pc ls []) :=
  W.vret hx hb hr (fun t ht _ => ⟨⟨(), rfl, trivial, by rw [ht]; exact hP, hD⟩, hS.F ht⟩) hS.2.2 hdg hlocks
/-- a truth value as the machine has it -/
def zb (b : Bool) : Int32 := if b then 1 else 0
theorem zb_nar (b : Bool) : narrow .boolean (.int (zb b)) = .int (zb b) := by cases b <;> rfl
theorem zb_t {b : Bool} (h : b = true) : zb b = 1 := by rw [h]; rfl
theorem zb_f {b : Bool} (h : b = false) : zb b = 0 := by rw [h]; rfl
theorem zb_0 {b : Bool} : zb b = 0 ↔ b = false := by cases b <;> simp [zb]
theorem zb_n0 {b : Bool} : ¬ zb b = 0 ↔ b = true := by cases b <;> simp [zb]
end FE
section FW
variable {p : Program} {l : Launch} {e : Env} {R : Room} {s : State} {m : MethodId} {args : Array Value} {below : List Frame} {meth : Method} {c : Code} {H : Heap} {locs : List Loc} {cells slots : Nat} {Q : State → Prop} {pc : Nat} {ls : Array Slot} {rest st0 : List Value} {cc : ByteArray} {D : va_G} {A : Nat → Prop} {H0 : Heap} {tys : List (ClassId × FieldType)} {ws : va_W} {a : Nat}
theorem f_topi {x : Int32} (y : Int32) (h : x = y) (k : W p l e R s m args below meth c H locs cells slots Q (F0 m pc ls (.int y :: rest))) : W p l e R s m args below meth c H locs cells slots Q (F0 m pc ls (.int x :: rest)) := by rw [h]; exact k
theorem f_topl {x : Int64} (y : Int64) (h : x = y) (k : W p l e R s m args below meth c H locs cells slots Q (F0 m pc ls (.long y :: rest))) : W p l e R s m args below meth c H locs cells slots Q (F0 m pc ls (.long x :: rest)) := by rw [h]; exact k
/-- where two roads meet: what follows is walked once -/
theorem f_joinW {nL : Nat} (P : Nat) (lv : List (Nat × Value)) (st : List Value) (hj : ∀ ls, lv_has ls nL lv → W p l e R s m args below meth c H locs cells slots Q (F0 m P ls st))
    (k : (∀ ls, lv_has ls nL lv → W p l e R s m args below meth c H locs cells slots Q (F0 m P ls st)) → W p l e R s m args below meth c H locs cells slots Q (F0 m pc ls st0)) : W p l e R s m args below meth c H locs cells slots Q (F0 m pc ls st0) := k hj
/-- a loop -/
theorem f_loopW {σ : Type} (nL head : Nat) (lv : σ → List (Nat × Value)) (wsf : σ → va_W) (inv : σ → Prop) (μ : σ → Nat)
    (step : ∀ u : σ, inv u → (∀ u' : σ, inv u' → μ u' < μ u → ∀ (H : Heap) (locs : List Loc), va_P D vwCl (wsf u') H → va_D A (wsf u') → va_S A H0 H locs → ∀ ls, lv_has ls nL (lv u') → W p l e R s m args below meth c H locs cells slots Q (F0 m head ls [])) →
      ∀ (H : Heap) (locs : List Loc), va_P D vwCl (wsf u) H → va_D A (wsf u) → va_S A H0 H locs → ∀ ls, lv_has ls nL (lv u) → W p l e R s m args below meth c H locs cells slots Q (F0 m head ls []))
    (u0 : σ) (hi : inv u0) {H : Heap} {locs : List Loc} (hP : va_P D vwCl (wsf u0) H) (hD : va_D A (wsf u0)) (hS : va_S A H0 H locs) {ls : Array Slot} (hl : lv_has ls nL (lv u0)) : W p l e R s m args below meth c H locs cells slots Q (F0 m head ls []) := by
  have key : ∀ (n : Nat) (u : σ), μ u < n → inv u → ∀ (H : Heap) (locs : List Loc), va_P D vwCl (wsf u) H → va_D A (wsf u) → va_S A H0 H locs → ∀ ls, lv_has ls nL (lv u) → W p l e R s m args below meth c H locs cells slots Q (F0 m head ls []) := by
    intro n
    induction n with
    | zero => intro u h; exact absurd h (Nat.not_lt_zero _)
    | succ n ih => intro u h hu H locs hP hD hS ls hl; exact step u hu (fun u' h1 h2 => ih u' (by omega) h1) H locs hP hD hS ls hl
  exact key (μ u0 + 1) u0 (Nat.lt_succ_self _) hi H locs hP hD hS ls hl
theorem f_iald (k : Nat) (hx : p.tables.exec = Jvm.exec) (hb : c.code = cc) (hK : va_K D vwCl tys s) (hP : va_P D vwCl ws H) (q0 t0 : Nat) {cA : ClassId} {n : Nat} {f : Nat → Int32} (ha : ws[q0]? = some (a, .inl (cA, n, .inl f))) (ht : tys[t0]? = some (cA, .int)) {i : Int32} (hi : i = nI k) (hk : k < n) (hn : n < 2 ^ 31) (hdg : decode cc pc = .ok (.iaload, 1))
    (kk : W p l e R s m args below meth c H locs cells slots Q (F0 m (pc + 1) ls (.int (f k) :: rest))) : W p l e R s m args below meth c H locs cells slots Q (F0 m pc ls (.int i :: .ref a :: rest)) := by
  subst hi
  refine va_iald hx hb hK hP q0 t0 ha ht (vp_in_nI hk hn) hdg ?_
  rw [nI_clamp (Nat.lt_trans hk hn)]; exact kk
theorem f_zald (k : Nat) (hx : p.tables.exec = Jvm.exec) (hb : c.code = cc) (hK : va_K D vwCl tys s) (hP : va_P D vwCl ws H) (q0 t0 : Nat) {cA : ClassId} {n : Nat} {f : Nat → Int32} (ha : ws[q0]? = some (a, .inl (cA, n, .inl f))) (ht : tys[t0]? = some (cA, .boolean)) {i : Int32} (hi : i = nI k) (hk : k < n) (hn : n < 2 ^ 31) (hdg : decode cc pc = .ok (.baload, 1))
    (kk : W p l e R s m args below meth c H locs cells slots Q (F0 m (pc + 1) ls (.int (f k) :: rest))) : W p l e R s m args below meth c H locs cells slots Q (F0 m pc ls (.int i :: .ref a :: rest)) := by
  subst hi
  refine va_zald hx hb hK hP q0 t0 ha ht (vp_in_nI hk hn) hdg ?_
  rw [nI_clamp (Nat.lt_trans hk hn)]; exact kk
theorem f_lald (k : Nat) (hx : p.tables.exec = Jvm.exec) (hb : c.code = cc) (hK : va_K D vwCl tys s) (hP : va_P D vwCl ws H) (q0 t0 : Nat) {cA : ClassId} {n : Nat} {f : Nat → Int64} (ha : ws[q0]? = some (a, .inl (cA, n, .inr (.inl f)))) (ht : tys[t0]? = some (cA, .long)) {i : Int32} (hi : i = nI k) (hk : k < n) (hn : n < 2 ^ 31) (hdg : decode cc pc = .ok (.laload, 1))
    (kk : W p l e R s m args below meth c H locs cells slots Q (F0 m (pc + 1) ls (.long (f k) :: rest))) : W p l e R s m args below meth c H locs cells slots Q (F0 m pc ls (.int i :: .ref a :: rest)) := by
  subst hi
  refine va_lald hx hb hK hP q0 t0 ha ht (vp_in_nI hk hn) hdg ?_
  rw [nI_clamp (Nat.lt_trans hk hn)]; exact kk
theorem f_iast (k : Nat) (hx : p.tables.exec = Jvm.exec) (hb : c.code = cc) (hK : va_K D vwCl tys s) (hP : va_P D vwCl ws H) (hD : va_D A ws) (hS : va_S A H0 H locs) (q0 t0 : Nat) {cA : ClassId} {n : Nat} {f : Nat → Int32} (ha : ws[q0]? = some (a, .inl (cA, n, .inl f))) (ht : tys[t0]? = some (cA, .int)) {i x : Int32} (hi : i = nI k) (hk : k < n) (hn : n < 2 ^ 31) (hdg : decode cc pc = .ok (.iastore, 1))
    (kk : ∀ (H1 : Heap) (locs1 : List Loc), va_P D vwCl (ws.set q0 (a, .inl (cA, n, .inl (upd f k x)))) H1 → va_D A (ws.set q0 (a, .inl (cA, n, .inl (upd f k x)))) → va_S A H0 H1 locs1 → W p l e R s m args below meth c H1 locs1 cells slots Q (F0 m (pc + 1) ls rest)) : W p l e R s m args below meth c H locs cells slots Q (F0 m pc ls (.int x :: .int i :: .ref a :: rest)) := by
  subst hi
  refine va_iast hx hb hK hP hD hS q0 t0 ha ht (vp_in_nI hk hn) hdg ?_
  rw [nI_clamp (Nat.lt_trans hk hn)]; exact kk
theorem f_zast (k : Nat) (hx : p.tables.exec = Jvm.exec) (hb : c.code = cc) (hK : va_K D vwCl tys s) (hP : va_P D vwCl ws H) (hD : va_D A ws) (hS : va_S A H0 H locs) (q0 t0 : Nat) {cA : ClassId} {n : Nat} {f : Nat → Int32} (ha : ws[q0]? = some (a, .inl (cA, n, .inl f))) (ht : tys[t0]? = some (cA, .boolean)) {i x : Int32} (hi : i = nI k) (hk : k < n) (hn : n < 2 ^ 31) (hdg : decode cc pc = .ok (.bastore, 1))
    (kk : ∀ (H1 : Heap) (locs1 : List Loc), va_P D vwCl (ws.set q0 (a, .inl (cA, n, .inl (upd f k (vp_nar .boolean x))))) H1 → va_D A (ws.set q0 (a, .inl (cA, n, .inl (upd f k (vp_nar .boolean x))))) → va_S A H0 H1 locs1 → W p l e R s m args below meth c H1 locs1 cells slots Q (F0 m (pc + 1) ls rest)) : W p l e R s m args below meth c H locs cells slots Q (F0 m pc ls (.int x :: .int i :: .ref a :: rest)) := by
  subst hi
  refine va_zast hx hb hK hP hD hS q0 t0 ha ht (vp_in_nI hk hn) hdg ?_
  rw [nI_clamp (Nat.lt_trans hk hn)]; exact kk
theorem f_last (k : Nat) (hx : p.tables.exec = Jvm.exec) (hb : c.code = cc) (hK : va_K D vwCl tys s) (hP : va_P D vwCl ws H) (hD : va_D A ws) (hS : va_S A H0 H locs) (q0 t0 : Nat) {cA : ClassId} {n : Nat} {f : Nat → Int64} (ha : ws[q0]? = some (a, .inl (cA, n, .inr (.inl f)))) (ht : tys[t0]? = some (cA, .long)) {i : Int32} {x : Int64} (hi : i = nI k) (hk : k < n) (hn : n < 2 ^ 31) (hdg : decode cc pc = .ok (.lastore, 1))
    (kk : ∀ (H1 : Heap) (locs1 : List Loc), va_P D vwCl (ws.set q0 (a, .inl (cA, n, .inr (.inl (vp_updL f k x))))) H1 → va_D A (ws.set q0 (a, .inl (cA, n, .inr (.inl (vp_updL f k x))))) → va_S A H0 H1 locs1 → W p l e R s m args below meth c H1 locs1 cells slots Q (F0 m (pc + 1) ls rest)) : W p l e R s m args below meth c H locs cells slots Q (F0 m pc ls (.long x :: .int i :: .ref a :: rest)) := by
  subst hi
  refine va_last hx hb hK hP hD hS q0 t0 ha ht (vp_in_nI hk hn) hdg ?_
  rw [nI_clamp (Nat.lt_trans hk hn)]; exact kk
theorem f_arr {cA : ClassId} {n : Nat} {f g : Nat → Int32} (h : ∀ j, j < n → f j = g j) : vp_cell cA (n, .inl f) = vp_cell cA (n, .inl g) := by
  rw [vp_cell_i, vp_cell_i]
  unfold arrV
  congr 1
  apply Array.ext
  · simp
  · intro i h1 h2
    simp at h1
    simp [h i h1]
/-- what an array holds, told otherwise -/
theorem f_rep {cA : ClassId} {n : Nat} {f : Nat → Int32} (g : Nat → Int32) (hP : va_P D vwCl ws H) (hD : va_D A ws) (q0 : Nat) (ha : ws[q0]? = some (a, .inl (cA, n, .inl f))) (h : ∀ j, j < n → f j = g j) :
    va_P D vwCl (ws.set q0 (a, .inl (cA, n, .inl g))) H ∧ va_D A (ws.set q0 (a, .inl (cA, n, .inl g))) := by
  refine ⟨hP.set hD ha ?_ (fun _ _ => rfl), hD.set ha⟩
  have h1 := hP q0 _ ha
  show H[a]? = some (vp_cell cA (n, .inl g))
  rw [← f_arr h]; exact h1
theorem f_copyi (ns nd nn : Nat) (hx : p.tables.exec = Jvm.exec) (hb : c.code = cc) (hml : c.maxLocals = ls.size) {own : String} {index : Nat} (hown : s.vm.findClass own = some m.cls) (hlink : (Cond.methodLink own index arraycopyName).before args s = true) (hnat : (Cond.native arraycopyName).before args s = true) (hstat : (Cond.static arraycopyName).before args s = true) (hini : (Cond.initialized "java/lang/System").before args s = true)
    {cI cZ cP cQ : ClassId} (hK : va_K D vwCl (fTY cI cZ cP cQ) s) (hP : va_P D vwCl ws H) (hD : va_D A ws) (hS : va_S A H0 H locs) (q0 q1 : Nat) {a0 n0 n1 : Nat} {f g : Nat → Int32} (ha0 : ws[q0]? = some (a0, .inl (cI, n0, .inl f))) (ha1 : ws[q1]? = some (a, .inl (cI, n1, .inl g)))
    {sp dp n : Int32} (h1 : sp = nI ns) (h2 : dp = nI nd) (h3 : n = nI nn) (h4 : ns + nn ≤ n0 ∧ n0 < 2 ^ 31) (h5 : nd + nn ≤ n1 ∧ n1 < 2 ^ 31)
    (hframes : 1 ≤ R.frames) (hlocals : (rest.map fun v => v.category).sum + (nativeFrameWords "java/lang/System" "arraycopy" 5 + 11) ≤ R.locals) (hdg : decode cc pc = .ok (.invokestatic index, 3))
    (kk : ∀ (H1 : Heap) (locs1 : List Loc), va_P D vwCl (ws.set q1 (a, .inl (cI, n1, .inl (va_cpy f g ns nd nn)))) H1 → va_D A (ws.set q1 (a, .inl (cI, n1, .inl (va_cpy f g ns nd nn)))) → va_S A H0 H1 locs1 → W p l e R s m args below meth c H1 locs1 cells slots Q (F0 m (pc + 3) ls rest)) : W p l e R s m args below meth c H locs cells slots Q (F0 m pc ls (.int n :: .int dp :: .ref a :: .int sp :: .ref a0 :: rest)) := by
  subst h1 h2 h3
  have e1 : (nI ns).toNatClampNeg = ns := nI_clamp (by omega)
  have e2 : (nI nd).toNatClampNeg = nd := nI_clamp (by omega)
  have e3 : (nI nn).toNatClampNeg = nn := nI_clamp (by omega)
  refine va_copyi hx hb hml hown hlink hnat hstat hini hK hP hD hS q0 q1 0 0 ha0 ha1 rfl rfl rfl (nI_pos (by omega)) (nI_pos (by omega)) (nI_pos (by omega)) (by rw [e1, e3]; exact h4.1) (by rw [e2, e3]; exact h5.1) (fun _ _ => rfl) hframes hlocals hdg ?_
  rw [e1, e2, e3]; exact kk
end FW
/-! contracts whose world behind is told but for what nobody reads again (J) -/
section FJ
theorem f_Mi_room {l : Launch} {y : MethodName} {W0 : List Cond} {fr lo fr2 lo2 : Nat} {D : va_G} {tys : List (ClassId × FieldType)} {av : List Value} {sz : Nat} {ws : va_W} {r : Int32} {ws1 : va_W}
    (h : f_Mi l y W0 ({ frames := fr, cells := 0, slots := 0, locals := lo }) D tys av sz ws r ws1) (h1 : fr = fr2) (h2 : lo = lo2) : f_Mi l y W0 ({ frames := fr2, cells := 0, slots := 0, locals := lo2 }) D tys av sz ws r ws1 := by subst h1; subst h2; exact h
def f_Ji {J : Type} (l : Launch) (y : MethodName) (W0 : List Cond) (rm : Room) (D : va_G) (tys : List (ClassId × FieldType)) (av : List Value) (sz : Nat) (ws : va_W) (r : Int32) (ws1 : J → va_W) : Prop :=
  Met l y W0 rm (f_Pc D tys av sz ws) (va_Qi (fun (x : Int32) (_ : J) => x = r) (fun u t => va_P D vwCl (ws1 u) t.heap ∧ va_D (va_A ws sz) (ws1 u)) (va_A ws sz)) 0 0 (va_A ws sz)
theorem f_entJ_i {J : Type} {l : Launch} {y : MethodName} {W0 ws' : List Cond} {rm : Room} {D : va_G} {tys : List (ClassId × FieldType)} {av : List Value} {sz : Nat} {ws : va_W} {ws1 : J → va_W} {cc : ByteArray} {maxL : Nat} {ret : Option FieldType} {r : Int32} 
    (hy : plainName y.cls = true) (hw : W0 = Cond.code y cc maxL ret :: ws') (hsl : (lg_sl av).length ≤ maxL)
    (body : ∀ (p : Program) (e : Env) (s : State) (m : MethodId) (below : List Frame) (meth : Method) (c : Code), p.tables.exec = Jvm.exec → c.code = cc → meth.sig.returnType = ret → (∀ w ∈ W0, w.before av.toArray s = true) → s.vm.findClass y.cls = some m.cls → meth.locks = false → c.maxLocals = maxL → meth.name = y.name → s.heap.size = sz →
      va_P D vwCl ws s.heap → va_K D vwCl tys s → fN s → ∀ A : Nat → Prop, va_D A ws → (∀ q, s.heap.size ≤ q → A q) → va_S A s.heap s.heap [] → ∀ ls : Array Slot, lv_has ls maxL (lv_args 0 av) →
      W p l e (headSpec W0 rm).room s m av.toArray below meth c s.heap [] 0 0 (MQ below (va_Qi (fun (x : Int32) (_ : J) => x = r) (fun u t => va_P D vwCl (ws1 u) t.heap ∧ va_D A (ws1 u)) A) av.toArray s 0 0 A) (F0 m 0 ls [])) :
    f_Ji l y W0 rm D tys av sz ws r ws1 := f_entry (fun A => va_Qi (fun (x : Int32) (_ : J) => x = r) (fun u t => va_P D vwCl (ws1 u) t.heap ∧ va_D A (ws1 u)) A) hy hw hsl body
def f_Jl {J : Type} (l : Launch) (y : MethodName) (W0 : List Cond) (rm : Room) (D : va_G) (tys : List (ClassId × FieldType)) (av : List Value) (sz : Nat) (ws : va_W) (r : Int64) (ws1 : J → va_W) (mc ms : Nat) : Prop :=
  Met l y W0 rm (f_Pc D tys av sz ws) (va_Ql (fun (x : Int64) (_ : J) => x = r) (fun u t => va_P D vwCl (ws1 u) t.heap ∧ va_D (va_A ws sz) (ws1 u)) (va_A ws sz)) mc ms (va_A ws sz)
theorem f_entJ_l {J : Type} {l : Launch} {y : MethodName} {W0 ws' : List Cond} {rm : Room} {D : va_G} {tys : List (ClassId × FieldType)} {av : List Value} {sz : Nat} {ws : va_W} {ws1 : J → va_W} {cc : ByteArray} {maxL : Nat} {ret : Option FieldType} {r : Int64} {mc ms : Nat} 
    (hy : plainName y.cls = true) (hw : W0 = Cond.code y cc maxL ret :: ws') (hsl : (lg_sl av).length ≤ maxL)
    (body : ∀ (p : Program) (e : Env) (s : State) (m : MethodId) (below : List Frame) (meth : Method) (c : Code), p.tables.exec = Jvm.exec → c.code = cc → meth.sig.returnType = ret → (∀ w ∈ W0, w.before av.toArray s = true) → s.vm.findClass y.cls = some m.cls → meth.locks = false → c.maxLocals = maxL → meth.name = y.name → s.heap.size = sz →
      va_P D vwCl ws s.heap → va_K D vwCl tys s → fN s → ∀ A : Nat → Prop, va_D A ws → (∀ q, s.heap.size ≤ q → A q) → va_S A s.heap s.heap [] → ∀ ls : Array Slot, lv_has ls maxL (lv_args 0 av) →
      W p l e (headSpec W0 rm).room s m av.toArray below meth c s.heap [] 0 0 (MQ below (va_Ql (fun (x : Int64) (_ : J) => x = r) (fun u t => va_P D vwCl (ws1 u) t.heap ∧ va_D A (ws1 u)) A) av.toArray s mc ms A) (F0 m 0 ls [])) :
    f_Jl l y W0 rm D tys av sz ws r ws1 mc ms := f_entry (fun A => va_Ql (fun (x : Int64) (_ : J) => x = r) (fun u t => va_P D vwCl (ws1 u) t.heap ∧ va_D A (ws1 u)) A) hy hw hsl body
def f_Jd {J : Type} (l : Launch) (y : MethodName) (W0 : List Cond) (rm : Room) (D : va_G) (tys : List (ClassId × FieldType)) (av : List Value) (sz : Nat) (ws : va_W) (r : UInt64) (ws1 : J → va_W) : Prop :=
  Met l y W0 rm (f_Pc D tys av sz ws) (va_Qd (fun (x : UInt64) (_ : J) => x = r) (fun u t => va_P D vwCl (ws1 u) t.heap ∧ va_D (va_A ws sz) (ws1 u)) (va_A ws sz)) 0 0 (va_A ws sz)
theorem f_entJ_d {J : Type} {l : Launch} {y : MethodName} {W0 ws' : List Cond} {rm : Room} {D : va_G} {tys : List (ClassId × FieldType)} {av : List Value} {sz : Nat} {ws : va_W} {ws1 : J → va_W} {cc : ByteArray} {maxL : Nat} {ret : Option FieldType} {r : UInt64} 
    (hy : plainName y.cls = true) (hw : W0 = Cond.code y cc maxL ret :: ws') (hsl : (lg_sl av).length ≤ maxL)
    (body : ∀ (p : Program) (e : Env) (s : State) (m : MethodId) (below : List Frame) (meth : Method) (c : Code), p.tables.exec = Jvm.exec → c.code = cc → meth.sig.returnType = ret → (∀ w ∈ W0, w.before av.toArray s = true) → s.vm.findClass y.cls = some m.cls → meth.locks = false → c.maxLocals = maxL → meth.name = y.name → s.heap.size = sz →
      va_P D vwCl ws s.heap → va_K D vwCl tys s → fN s → ∀ A : Nat → Prop, va_D A ws → (∀ q, s.heap.size ≤ q → A q) → va_S A s.heap s.heap [] → ∀ ls : Array Slot, lv_has ls maxL (lv_args 0 av) →
      W p l e (headSpec W0 rm).room s m av.toArray below meth c s.heap [] 0 0 (MQ below (va_Qd (fun (x : UInt64) (_ : J) => x = r) (fun u t => va_P D vwCl (ws1 u) t.heap ∧ va_D A (ws1 u)) A) av.toArray s 0 0 A) (F0 m 0 ls [])) :
    f_Jd l y W0 rm D tys av sz ws r ws1 := f_entry (fun A => va_Qd (fun (x : UInt64) (_ : J) => x = r) (fun u t => va_P D vwCl (ws1 u) t.heap ∧ va_D A (ws1 u)) A) hy hw hsl body
def f_Jv {J : Type} (l : Launch) (y : MethodName) (W0 : List Cond) (rm : Room) (D : va_G) (tys : List (ClassId × FieldType)) (av : List Value) (sz : Nat) (ws : va_W) (ws1 : J → va_W) : Prop :=
  Met l y W0 rm (f_Pc D tys av sz ws) (va_Qv (fun (_ : J) => True) (fun u t => va_P D vwCl (ws1 u) t.heap ∧ va_D (va_A ws sz) (ws1 u)) (va_A ws sz)) 0 0 (va_A ws sz)
theorem f_entJ_v {J : Type} {l : Launch} {y : MethodName} {W0 ws' : List Cond} {rm : Room} {D : va_G} {tys : List (ClassId × FieldType)} {av : List Value} {sz : Nat} {ws : va_W} {ws1 : J → va_W} {cc : ByteArray} {maxL : Nat} {ret : Option FieldType} 
    (hy : plainName y.cls = true) (hw : W0 = Cond.code y cc maxL ret :: ws') (hsl : (lg_sl av).length ≤ maxL)
    (body : ∀ (p : Program) (e : Env) (s : State) (m : MethodId) (below : List Frame) (meth : Method) (c : Code), p.tables.exec = Jvm.exec → c.code = cc → meth.sig.returnType = ret → (∀ w ∈ W0, w.before av.toArray s = true) → s.vm.findClass y.cls = some m.cls → meth.locks = false → c.maxLocals = maxL → meth.name = y.name → s.heap.size = sz →
      va_P D vwCl ws s.heap → va_K D vwCl tys s → fN s → ∀ A : Nat → Prop, va_D A ws → (∀ q, s.heap.size ≤ q → A q) → va_S A s.heap s.heap [] → ∀ ls : Array Slot, lv_has ls maxL (lv_args 0 av) →
      W p l e (headSpec W0 rm).room s m av.toArray below meth c s.heap [] 0 0 (MQ below (va_Qv (fun (_ : J) => True) (fun u t => va_P D vwCl (ws1 u) t.heap ∧ va_D A (ws1 u)) A) av.toArray s 0 0 A) (F0 m 0 ls [])) :
    f_Jv l y W0 rm D tys av sz ws ws1 := f_entry (fun A => va_Qv (fun (_ : J) => True) (fun u t => va_P D vwCl (ws1 u) t.heap ∧ va_D A (ws1 u)) A) hy hw hsl body
variable {p : Program} {l : Launch} {e : Env} {R : Room} {s : State} {m : MethodId} {args : Array Value} {below : List Frame} {meth : Method} {c : Code} {H : Heap} {locs : List Loc} {cells slots : Nat} {cc : ByteArray} {pc : Nat} {ls : Array Slot} {D : va_G} {A : Nat → Prop} {J : Type} {ws1 : J → va_W}
theorem f_retJ_i {v r : Int32} (u : J) (hx : p.tables.exec = Jvm.exec) (hb : c.code = cc) (hr : meth.sig.returnType = some .int) (hlocks : meth.locks = false) (hP : va_P D vwCl (ws1 u) H) (hD : va_D A (ws1 u)) (hS : va_S A s.heap H locs) (hdg : decode cc pc = .ok (.ireturn, 1)) (hv : v = r) :
    W p l e R s m args below meth c H locs cells slots (MQ below (va_Qi (fun (x : Int32) (_ : J) => x = r) (fun u t => va_P D vwCl (ws1 u) t.heap ∧ va_D A (ws1 u)) A) args s cells slots A) (F0 m pc ls [.int v]) :=
  W.iret (v := v) hx hb hr (fun t ht _ => ⟨⟨v, u, rfl, hv, by rw [ht]; exact hP, hD⟩, hS.F ht⟩) hS.2.2 hdg hlocks
theorem f_retJ_z {v r : Int32} (u : J) (hx : p.tables.exec = Jvm.exec) (hb : c.code = cc) (hr : meth.sig.returnType = some .boolean) (hlocks : meth.locks = false) (hP : va_P D vwCl (ws1 u) H) (hD : va_D A (ws1 u)) (hS : va_S A s.heap H locs) (hdg : decode cc pc = .ok (.ireturn, 1)) (hv : v = r) (hn : narrow .boolean (.int r) = .int r) :
    W p l e R s m args below meth c H locs cells slots (MQ below (va_Qi (fun (x : Int32) (_ : J) => x = r) (fun u t => va_P D vwCl (ws1 u) t.heap ∧ va_D A (ws1 u)) A) args s cells slots A) (F0 m pc ls [.int v]) :=
  W.zret (v := v) hx hb hr (by rw [hv]; exact hn) (fun t ht _ => ⟨⟨v, u, rfl, hv, by rw [ht]; exact hP, hD⟩, hS.F ht⟩) hS.2.2 hdg hlocks
theorem f_retJ_l {v r : Int64} (u : J) (hx : p.tables.exec = Jvm.exec) (hb : c.code = cc) (hr : meth.sig.returnType = some .long) (hlocks : meth.locks = false) (hP : va_P D vwCl (ws1 u) H) (hD : va_D A (ws1 u)) (hS : va_S A s.heap H locs) (hdg : decode cc pc = .ok (.lreturn, 1)) (hv : v = r) :
    W p l e R s m args below meth c H locs cells slots (MQ below (va_Ql (fun (x : Int64) (_ : J) => x = r) (fun u t => va_P D vwCl (ws1 u) t.heap ∧ va_D A (ws1 u)) A) args s cells slots A) (F0 m pc ls [.long v]) :=
  W.lret (v := v) hx hb hr (fun t ht _ => ⟨⟨v, u, rfl, hv, by rw [ht]; exact hP, hD⟩, hS.F ht⟩) hS.2.2 hdg hlocks
theorem f_retJ_d {v r : UInt64} (u : J) (hx : p.tables.exec = Jvm.exec) (hb : c.code = cc) (hr : meth.sig.returnType = some .double) (hlocks : meth.locks = false) (hP : va_P D vwCl (ws1 u) H) (hD : va_D A (ws1 u)) (hS : va_S A s.heap H locs) (hdg : decode cc pc = .ok (.dreturn, 1)) (hv : v = r) :
    W p l e R s m args below meth c H locs cells slots (MQ below (va_Qd (fun (x : UInt64) (_ : J) => x = r) (fun u t => va_P D vwCl (ws1 u) t.heap ∧ va_D A (ws1 u)) A) args s cells slots A) (F0 m pc ls [.double v]) :=
  W.dret (v := v) hx hb hr (fun t ht _ => ⟨⟨v, u, rfl, hv, by rw [ht]; exact hP, hD⟩, hS.F ht⟩) hS.2.2 hdg hlocks
theorem f_retJ_v (u : J) (hx : p.tables.exec = Jvm.exec) (hb : c.code = cc) (hr : meth.sig.returnType = none) (hlocks : meth.locks = false) (hP : va_P D vwCl (ws1 u) H) (hD : va_D A (ws1 u)) (hS : va_S A s.heap H locs) (hdg : decode cc pc = .ok (.return_, 1)) :
    W p l e R s m args below meth c H locs cells slots (MQ below (va_Qv (fun (_ : J) => True) (fun u t => va_P D vwCl (ws1 u) t.heap ∧ va_D A (ws1 u)) A) args s cells slots A) (F0 m pc ls []) :=
  W.vret hx hb hr (fun t ht _ => ⟨⟨u, rfl, trivial, by rw [ht]; exact hP, hD⟩, hS.F ht⟩) hS.2.2 hdg hlocks
variable {Q : State → Prop} {y : MethodName} {bytes : ByteArray} {maxL nL n index : Nat} {ret : Option FieldType} {W0 Ts : List Cond} {rm : Room} {own C : String} {b : Addr} {As rest st0 : List Value} {tys : List (ClassId × FieldType)} {ws wc : va_W} {w1 w2 : J → va_W} {H0 : Heap} {T : u_T} {N ci : Nat} {fs : List Value}
theorem f_callVJi {r : Int32} (S : CallFix p m c cc nL s args Ts own) (hP : va_P D vwCl ws H) (hD : va_D A ws) (hS : va_S A H0 H locs) (hA : ∀ q, H0.size ≤ q → A q) (hK : va_K D vwCl tys s) (hN : fN s) (isC : List Nat)
    (hM : f_Ji l y W0 rm D tys (.ref b :: As) H.size wc r w1) (cw : CallW R s args own C index y bytes maxL ret W0 rm 0 0 n) (k0 : Nat) (hc : vwCl[ci]? = some (C, T, N)) (he : ws[k0]? = some (b, .inr (ci, fs))) (hC : isC.map (fun i => ws[i]?) = wc.map some) (hn : va_nd isC = true) (ad : List Nat) (hadr1 : ∀ u, (w1 u).map Prod.fst = ad) (hadr2 : wc.map Prod.fst = ad) (hw2 : ∀ u, f_put ws isC (w1 u) = w2 u)
    (hst : st0 = As.reverse ++ .ref b :: rest) (hlen : As.length = n) (hls : ls.size = nL) (hroom : (rest.map fun v => v.category).sum ≤ 8) (hdg : decode cc pc = .ok (.invokevirtual index, 3)) (hR : cells ≤ R.cells ∧ slots ≤ R.slots)
    (kk : ∀ (u : J) (H1 : Heap) (locs1 : List Loc), va_P D vwCl (w2 u) H1 → va_D A (w2 u) → va_S A H0 H1 locs1 → W p l e R s m args below meth c H1 locs1 cells slots Q (F0 m (pc + 3) ls (.int r :: rest))) : W p l e R s m args below meth c H locs cells slots Q (F0 m pc ls st0) := by
  have hF := va_free hD hS hA isC hC
  refine va_calli (va_runV S hM cw ⟨f_blind, va_recv hK hP hc he, f_pre hP hD hK hN hC hn⟩ rfl hlen hls hst (lv_room hroom) hdg hR) hS (fun q _ h => hF q h) hF (fun r1 u t H1 locs1 ht hvm hw hB hz1 hk1 hS1 => ?_)
  cases hw
  obtain ⟨hP1, hD1⟩ := hB
  rw [ht] at hP1
  obtain ⟨hP2, hD2⟩ := f_join0 hP hD isC hC ((hadr1 u).trans hadr2.symm) hk1 hF hP1 hD1
  rw [hw2 u] at hP2 hD2
  exact kk u H1 locs1 hP2 hD2 hS1
theorem f_callVJl {r : Int64} (S : CallFix p m c cc nL s args Ts own) (hP : va_P D vwCl ws H) (hD : va_D A ws) (hS : va_S A H0 H locs) (hA : ∀ q, H0.size ≤ q → A q) (hK : va_K D vwCl tys s) (hN : fN s) (isC : List Nat)
    (hM : f_Jl l y W0 rm D tys (.ref b :: As) H.size wc r w1 0 0) (cw : CallW R s args own C index y bytes maxL ret W0 rm 0 0 n) (k0 : Nat) (hc : vwCl[ci]? = some (C, T, N)) (he : ws[k0]? = some (b, .inr (ci, fs))) (hC : isC.map (fun i => ws[i]?) = wc.map some) (hn : va_nd isC = true) (ad : List Nat) (hadr1 : ∀ u, (w1 u).map Prod.fst = ad) (hadr2 : wc.map Prod.fst = ad) (hw2 : ∀ u, f_put ws isC (w1 u) = w2 u)
    (hst : st0 = As.reverse ++ .ref b :: rest) (hlen : As.length = n) (hls : ls.size = nL) (hroom : (rest.map fun v => v.category).sum ≤ 8) (hdg : decode cc pc = .ok (.invokevirtual index, 3)) (hR : cells ≤ R.cells ∧ slots ≤ R.slots)
    (kk : ∀ (u : J) (H1 : Heap) (locs1 : List Loc), va_P D vwCl (w2 u) H1 → va_D A (w2 u) → va_S A H0 H1 locs1 → W p l e R s m args below meth c H1 locs1 cells slots Q (F0 m (pc + 3) ls (.long r :: rest))) : W p l e R s m args below meth c H locs cells slots Q (F0 m pc ls st0) := by
  have hF := va_free hD hS hA isC hC
  refine va_calll (va_runV S hM cw ⟨f_blind, va_recv hK hP hc he, f_pre hP hD hK hN hC hn⟩ rfl hlen hls hst (lv_room hroom) hdg hR) hS (fun q _ h => hF q h) hF (fun r1 u t H1 locs1 ht hvm hw hB hz1 hk1 hS1 => ?_)
  cases hw
  obtain ⟨hP1, hD1⟩ := hB
  rw [ht] at hP1
  obtain ⟨hP2, hD2⟩ := f_join0 hP hD isC hC ((hadr1 u).trans hadr2.symm) hk1 hF hP1 hD1
  rw [hw2 u] at hP2 hD2
  exact kk u H1 locs1 hP2 hD2 hS1
theorem f_callVJd {r : UInt64} (S : CallFix p m c cc nL s args Ts own) (hP : va_P D vwCl ws H) (hD : va_D A ws) (hS : va_S A H0 H locs) (hA : ∀ q, H0.size ≤ q → A q) (hK : va_K D vwCl tys s) (hN : fN s) (isC : List Nat)
    (hM : f_Jd l y W0 rm D tys (.ref b :: As) H.size wc r w1) (cw : CallW R s args own C index y bytes maxL ret W0 rm 0 0 n) (k0 : Nat) (hc : vwCl[ci]? = some (C, T, N)) (he : ws[k0]? = some (b, .inr (ci, fs))) (hC : isC.map (fun i => ws[i]?) = wc.map some) (hn : va_nd isC = true) (ad : List Nat) (hadr1 : ∀ u, (w1 u).map Prod.fst = ad) (hadr2 : wc.map Prod.fst = ad) (hw2 : ∀ u, f_put ws isC (w1 u) = w2 u)
    (hst : st0 = As.reverse ++ .ref b :: rest) (hlen : As.length = n) (hls : ls.size = nL) (hroom : (rest.map fun v => v.category).sum ≤ 8) (hdg : decode cc pc = .ok (.invokevirtual index, 3)) (hR : cells ≤ R.cells ∧ slots ≤ R.slots)
    (kk : ∀ (u : J) (H1 : Heap) (locs1 : List Loc), va_P D vwCl (w2 u) H1 → va_D A (w2 u) → va_S A H0 H1 locs1 → W p l e R s m args below meth c H1 locs1 cells slots Q (F0 m (pc + 3) ls (.double r :: rest))) : W p l e R s m args below meth c H locs cells slots Q (F0 m pc ls st0) := by
  have hF := va_free hD hS hA isC hC
  refine va_calld (va_runV S hM cw ⟨f_blind, va_recv hK hP hc he, f_pre hP hD hK hN hC hn⟩ rfl hlen hls hst (lv_room hroom) hdg hR) hS (fun q _ h => hF q h) hF (fun r1 u t H1 locs1 ht hvm hw hB hz1 hk1 hS1 => ?_)
  cases hw
  obtain ⟨hP1, hD1⟩ := hB
  rw [ht] at hP1
  obtain ⟨hP2, hD2⟩ := f_join0 hP hD isC hC ((hadr1 u).trans hadr2.symm) hk1 hF hP1 hD1
  rw [hw2 u] at hP2 hD2
  exact kk u H1 locs1 hP2 hD2 hS1
theorem f_callVJv (S : CallFix p m c cc nL s args Ts own) (hP : va_P D vwCl ws H) (hD : va_D A ws) (hS : va_S A H0 H locs) (hA : ∀ q, H0.size ≤ q → A q) (hK : va_K D vwCl tys s) (hN : fN s) (isC : List Nat)
    (hM : f_Jv l y W0 rm D tys (.ref b :: As) H.size wc w1) (cw : CallW R s args own C index y bytes maxL ret W0 rm 0 0 n) (k0 : Nat) (hc : vwCl[ci]? = some (C, T, N)) (he : ws[k0]? = some (b, .inr (ci, fs))) (hC : isC.map (fun i => ws[i]?) = wc.map some) (hn : va_nd isC = true) (ad : List Nat) (hadr1 : ∀ u, (w1 u).map Prod.fst = ad) (hadr2 : wc.map Prod.fst = ad) (hw2 : ∀ u, f_put ws isC (w1 u) = w2 u)
    (hst : st0 = As.reverse ++ .ref b :: rest) (hlen : As.length = n) (hls : ls.size = nL) (hroom : (rest.map fun v => v.category).sum ≤ 8) (hdg : decode cc pc = .ok (.invokevirtual index, 3)) (hR : cells ≤ R.cells ∧ slots ≤ R.slots)
    (kk : ∀ (u : J) (H1 : Heap) (locs1 : List Loc), va_P D vwCl (w2 u) H1 → va_D A (w2 u) → va_S A H0 H1 locs1 → W p l e R s m args below meth c H1 locs1 cells slots Q (F0 m (pc + 3) ls (rest))) : W p l e R s m args below meth c H locs cells slots Q (F0 m pc ls st0) := by
  have hF := va_free hD hS hA isC hC
  refine va_callv (va_runV S hM cw ⟨f_blind, va_recv hK hP hc he, f_pre hP hD hK hN hC hn⟩ rfl hlen hls hst (lv_room hroom) hdg hR) hS (fun q _ h => hF q h) hF (fun u t H1 locs1 ht hvm hw hB hz1 hk1 hS1 => ?_)
  clear hw
  obtain ⟨hP1, hD1⟩ := hB
  rw [ht] at hP1
  obtain ⟨hP2, hD2⟩ := f_join0 hP hD isC hC ((hadr1 u).trans hadr2.symm) hk1 hF hP1 hD1
  rw [hw2 u] at hP2 hD2
  exact kk u H1 locs1 hP2 hD2 hS1
end FJ
