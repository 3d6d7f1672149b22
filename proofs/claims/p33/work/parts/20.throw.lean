/-! methods that throw, and methods with a table of their own -/
section THR
/-- what a throw needs of the tables -/
def fX (sa : Nat → Nat) (U : State) : Prop :=
  (vk_R RX3 235 "the number is not in its range" (sa 0) U ∧ vk_R RX3 231 "there is no such cell" (sa 1) U ∧ vk_R RX3 53 "the cell is melted" (sa 2) U ∧ vk_R RX3 77 "there are as many rules as can be" (sa 3) U ∧ vk_R RX3 85 "there is no such rule" (sa 4) U ∧ vk_R RX3 130 "there is no such row" (sa 5) U) ∧
  (va_Nw (.castable "java/lang/IllegalArgumentException" "java/lang/IllegalArgumentException") U ∧ va_Nw (.castable "java/lang/IndexOutOfBoundsException" "java/lang/IndexOutOfBoundsException") U ∧ va_Nw (.castable "java/lang/IllegalStateException" "java/lang/IllegalStateException") U) ∧
  (va_Nw (.declares ⟨"java/lang/RuntimeException", "<init>", "(Ljava/lang/String;)V"⟩) U ∧ va_Nw (.declares ⟨"java/lang/Exception", "<init>", "(Ljava/lang/String;)V"⟩) U ∧ va_Nw (.declares ⟨"java/lang/Throwable", "<init>", "(Ljava/lang/String;)V"⟩) U)
theorem fX_warm {sa : Nat → Nat} {s U : State} (hW : s.WarmedH U.vm) (h : fX sa s) : fX sa U := by
  obtain ⟨⟨a1, a2, a3, a4, a5, a6⟩, ⟨b1, b2, b3⟩, ⟨c1, c2, c3⟩⟩ := h
  exact ⟨⟨vk_R.warm hW a1, vk_R.warm hW a2, vk_R.warm hW a3, vk_R.warm hW a4, vk_R.warm hW a5, vk_R.warm hW a6⟩, ⟨va_Nw.warmC hW b1, va_Nw.warmC hW b2, va_Nw.warmC hW b3⟩, ⟨va_Nw.warmD hW c1, va_Nw.warmD hW c2, va_Nw.warmD hW c3⟩⟩
theorem fX_same {sa : Nat → Nat} {u U : State} (hv : u.vm = U.vm) (h : fX sa u) : fX sa U := by
  obtain ⟨⟨a1, a2, a3, a4, a5, a6⟩, ⟨b1, b2, b3⟩, ⟨c1, c2, c3⟩⟩ := h
  exact ⟨⟨vk_R.same hv.symm a1, vk_R.same hv.symm a2, vk_R.same hv.symm a3, vk_R.same hv.symm a4, vk_R.same hv.symm a5, vk_R.same hv.symm a6⟩, ⟨va_Nw.same rfl hv b1, va_Nw.same rfl hv b2, va_Nw.same rfl hv b3⟩, ⟨va_Nw.same rfl hv c1, va_Nw.same rfl hv c2, va_Nw.same rfl hv c3⟩⟩
/-- the two statics that a new exception is filled with -/
def fZ (A : Nat → Prop) (U : State) (H : Heap) : Prop := vx_Zq Bundle.tN "UNASSIGNED_STACK" Bundle.steD A U H ∧ vx_Zq Bundle.tN "SUPPRESSED_SENTINEL" Bundle.listD A U H
theorem fZ_moved {A : Nat → Prop} {u U : State} {H : Heap} (hvm : u.vm.Alike U.vm) (h : fZ A u H) : fZ A U H := ⟨vx_Zq.moved hvm h.1, vx_Zq.moved hvm h.2⟩
theorem fZ_kept {A : Nat → Prop} {U : State} {H H1 : Heap} (h : fZ A U H) (hq : ∀ a : Nat, a < H.size → ¬ A a → H1[a]? = H[a]?) : fZ A U H1 := ⟨vx_Zq.kept h.1 hq, vx_Zq.kept h.2 hq⟩
theorem fZ_narrow {A B : Nat → Prop} {U : State} {H : Heap} (h : fZ A U H) (hAB : ∀ q, B q → A q) : fZ B U H := ⟨vx_Zq.narrow h.1 hAB, vx_Zq.narrow h.2 hAB⟩
def f_PcX (D : va_G) (tys : List (ClassId × FieldType)) (av : List Value) (sz : Nat) (ws : va_W) (sa : Nat → Nat) : Array Value → State → Prop := fun v U => f_Pc D tys av sz ws v U ∧ fX sa U ∧ fZ (va_A ws sz) U U.heap
theorem f_blindX {D : va_G} {tys : List (ClassId × FieldType)} {av : List Value} {sz : Nat} {ws : va_W} {sa : Nat → Nat} : FrameBlind (f_PcX D tys av sz ws sa) := fun a U g mk q => by
  obtain ⟨q0, qX, qZ⟩ := q
  exact ⟨f_blind a U g mk q0, fX_same (u := U) (U := U.calling g mk a) rfl qX, fZ_moved (u := U) (U := U.calling g mk a) (Vm.Alike.refl U.vm) qZ⟩
/-- where it was thrown: the class, the world -/
def f_XC (E : String) (D : va_G) (ws : va_W) (A : Nat → Prop) : String → State → State → Prop := vx_X (fun _ : Unit => True) (fun E1 _ t => E1 = E ∧ va_P D vwCl ws t.heap ∧ va_D A ws) A
/-- a contract of a method that throws -/
def f_X (l : Launch) (y : MethodName) (W0 : List Cond) (rm : Room) (D : va_G) (tys : List (ClassId × FieldType)) (av : List Value) (sz : Nat) (ws : va_W) (sa : Nat → Nat) (E : String) : Prop :=
  vx_Met l y W0 rm (f_PcX D tys av sz ws sa) (fun _ _ _ _ => False) (f_XC E D ws (va_A ws sz)) 1 6 (va_A ws sz)
/-- a contract of a method with a table of its own, which returns -/
def f_H {J : Type} (l : Launch) (y : MethodName) (W0 : List Cond) (rm : Room) (D : va_G) (tys : List (ClassId × FieldType)) (av : List Value) (sz : Nat) (ws : va_W) (sa : Nat → Nat) (r : Int32) (ws1 : J → va_W) : Prop :=
  Met l y W0 rm (f_PcX D tys av sz ws sa) (va_Qi (fun (x : Int32) (_ : J) => x = r) (fun u t => va_P D vwCl (ws1 u) t.heap ∧ va_D (va_A ws sz) (ws1 u)) (va_A ws sz)) 1 6 (va_A ws sz)
theorem f_entX {l : Launch} {y : MethodName} {W0 ws' : List Cond} {rm : Room} {D : va_G} {tys : List (ClassId × FieldType)} {av : List Value} {sz : Nat} {ws : va_W} {sa : Nat → Nat} {E : String} {cc : ByteArray} {maxL : Nat} {ret : Option FieldType}
    (hy : plainName y.cls = true) (hw : W0 = Cond.code y cc maxL ret :: ws') (hsl : (lg_sl av).length ≤ maxL)
    (body : ∀ (p : Program) (e : Env) (s : State) (m : MethodId) (below : List Frame) (meth : Method) (c : Code), p.tables.exec = Jvm.exec → c.code = cc → meth.sig.returnType = ret → (∀ w ∈ W0, w.before av.toArray s = true) → s.vm.findClass y.cls = some m.cls → meth.locks = false → c.maxLocals = maxL → meth.name = y.name → s.heap.size = sz →
      va_P D vwCl ws s.heap → va_K D vwCl tys s → fN s → fX sa s → ∀ A : Nat → Prop, fZ A s s.heap → va_D A ws → (∀ q, s.heap.size ≤ q → A q) → va_S A s.heap s.heap [] → (∀ x ∈ c.exceptionTable.toList, False) → ∀ ls : Array Slot, lv_has ls maxL (lv_args 0 av) →
      W p l e (headSpec W0 rm).room s m av.toArray below meth c s.heap [] 0 0 (vx_MQ below (fun _ _ _ _ => False) (f_XC E D ws A) av.toArray s 1 6 A) (F0 m 0 ls [])) :
    f_X l y W0 rm D tys av sz ws sa E := by
  refine vx_ofW (cc := cc) (maxL := maxL) (ret := ret) hy hw ?_
  intro p e s m args below meth c s₁ B hml ht hv
  obtain ⟨⟨rfl, hsz, hP, hK, hD0, hN⟩, hX, hZ⟩ := hv
  subst hsz
  have hD := hD0.self (sz := s.heap.size)
  have hl := lv_entry av hsl
  rw [lg_entry_eq]
  exact body p e s m below meth c B.exec B.bytes B.returns (atoms_spec (ws := W0) B.pre) (findClass_of_methodNamed B.named) B.notSynchronized hml (name_of_methodNamed B.named B.method).1 rfl hP hK hN hX _ hZ hD (fun q h => Or.inr h) va_S.rf ht _ hl
theorem f_entH {J : Type} {l : Launch} {y : MethodName} {W0 ws' : List Cond} {rm : Room} {D : va_G} {tys : List (ClassId × FieldType)} {av : List Value} {sz : Nat} {ws : va_W} {sa : Nat → Nat} {r : Int32} {ws1 : J → va_W} {cc : ByteArray} {maxL : Nat} {ret : Option FieldType} {hh : List (Nat × Nat × Nat × Nat)}
    (hy : plainName y.cls = true) (hw : W0 = Cond.codeWith y cc maxL ret hh :: ws') (hsl : (lg_sl av).length ≤ maxL)
    (body : ∀ (p : Program) (e : Env) (s : State) (m : MethodId) (below : List Frame) (meth : Method) (c : Code), p.tables.exec = Jvm.exec → c.code = cc → meth.sig.returnType = ret → (∀ w ∈ W0, w.before av.toArray s = true) → s.vm.findClass y.cls = some m.cls → meth.locks = false → c.maxLocals = maxL → meth.name = y.name → s.heap.size = sz →
      va_P D vwCl ws s.heap → va_K D vwCl tys s → fN s → fX sa s → ∀ A : Nat → Prop, fZ A s s.heap → va_D A ws → (∀ q, s.heap.size ≤ q → A q) → va_S A s.heap s.heap [] → c.exceptionTable.toList = tableOf hh → ∀ ls : Array Slot, lv_has ls maxL (lv_args 0 av) →
      W p l e (headSpec W0 rm).room s m av.toArray below meth c s.heap [] 0 0 (MQ below (va_Qi (fun (x : Int32) (_ : J) => x = r) (fun u t => va_P D vwCl (ws1 u) t.heap ∧ va_D A (ws1 u)) A) av.toArray s 1 6 A) (F0 m 0 ls [])) :
    f_H l y W0 rm D tys av sz ws sa r ws1 := by
  unfold f_H Met
  refine MetFree.of_bodyS (code := cc) (maxLocals := maxL) (ret := ret) hy ?_ ?_
  · intro args s m h hn
    obtain ⟨m9, meth, c, hn9, h1, h2, h3, h4, -, h5, h6, -⟩ := Cond.codeWith_spec (atoms_spec (ws := W0) h _ (by rw [hw]; exact List.mem_cons_self))
    cases hn.symm.trans hn9
    exact ⟨meth, c, h1, h2, h3, h4, h5, h6⟩
  · intro p e s m args below meth c s₁ B hml hv _
    obtain ⟨⟨rfl, hsz, hP, hK, hD0, hN⟩, hX, hZ⟩ := hv
    subst hsz
    have hD := hD0.self (sz := s.heap.size)
    have hl := lv_entry av hsl
    have hts := atoms_spec (ws := W0) B.pre
    have ht : c.exceptionTable.toList = tableOf hh := vx_table (x := y) B (hts _ (by rw [hw]; exact List.mem_cons_self))
    have K := body p e s m below meth c B.exec B.bytes B.returns hts (findClass_of_methodNamed B.named) B.notSynchronized hml (name_of_methodNamed B.named B.method).1 rfl hP hK hN hX _ hZ hD (fun q h => Or.inr h) va_S.rf ht _ hl
    rw [← lg_entry_eq] at K
    have hh0 : s₁.heap = s.heap := by rw [B.state]; rfl
    obtain ⟨t, a1, o, b1, b2, b3⟩ := K s₁ hh0 (Stand.of_body B)
    exact ⟨t, o, a1, b1, b2, ⟨b3.1, b3.2⟩⟩
end THR
section THC
variable {p : Program} {l : Launch} {e : Env} {R : Room} {s : State} {m : MethodId} {args : Array Value} {below : List Frame} {meth : Method} {c : Code} {H : Heap} {locs : List Loc} {cells slots : Nat} {Q : State → Prop}
variable {y : MethodName} {bytes cc : ByteArray} {maxL nL n index pc : Nat} {ret : Option FieldType} {W0 Ts : List Cond} {rm : Room} {own C : String} {b : Addr} {As rest st0 : List Value} {ls : Array Slot} {D : va_G} {tys : List (ClassId × FieldType)} {ws wc : va_W} {A : Nat → Prop} {H0 : Heap} {T : u_T} {N ci : Nat} {fs : List Value} {sa : Nat → Nat} {E : String}
theorem f_preX {av : List Value} {isC : List Nat} (hP : va_P D vwCl ws H) (hD : va_D A ws) (hS : va_S A H0 H locs) (hA : ∀ q, H0.size ≤ q → A q) (hK : va_K D vwCl tys s) (hN : fN s) (hX : fX sa s) (hZ : fZ A s H0) (hC : isC.map (fun i => ws[i]?) = wc.map some) (hn : va_nd isC = true) :
    ∀ U : State, U.heap = H → s.WarmedH U.vm → f_PcX D tys av H.size wc sa av.toArray U := fun U hU hW =>
  ⟨f_pre hP hD hK hN hC hn U hU hW, fX_warm hW hX, by rw [hU]; exact fZ_moved hW.alike (fZ_narrow (fZ_kept hZ hS.2.1) (va_free hD hS hA isC hC))⟩
/-- a call that throws -/
theorem f_xrun {mc ms : Nat} {free : Addr → Prop} {AX : Nat → Prop} {BX : String → Unit → State → Prop}
    (hr : vx_Run p l e R s m args below meth c H locs cells slots mc ms (F0 m pc ls st0) rest (fun _ _ _ => False) (vx_X (fun _ : Unit => True) BX AX) free) (hS : va_S A H0 H locs) (hf : ∀ q, free q → A q) (hAX : ∀ q, q < H.size → AX q → A q)
    (kx : ∀ (E : String) (ce : Cell) (q9 : Addr) (t : State) (H1 : Heap) (locs1 : List Loc), t.heap = H1 → BX E () t → (∀ q : Nat, q < H.size → ¬ AX q → H1[q]? = H[q]?) → va_S A H0 H1 locs1 → H1[q9]? = some ce → ce.vm = .none → s.vm.findClass E = some ce.cls → vx_W p l e R s m args below meth c H1 locs1 (cells + mc) (slots + ms) Q (F0 m pc ls rest) q9) :
    W p l e R s m args below meth c H locs cells slots Q (F0 m pc ls st0) := by
  intro T hT X
  rcases hr T hT X with ⟨v, st₀, t, T', L, h0, X', hL, e1, e2, hq, st⟩ | ⟨q, st₀, t, T', L, E, ce, h0, X', hL, e1, e2, ⟨u, hp, hb, hF⟩, hce, hcv, hcl, st⟩
  · exact hq.elim
  · obtain ⟨k1, k2, k3⟩ := vx_keep h0 e1 hS hAX hf hL hF
    obtain ⟨t2, a1, b1⟩ := kx E ce q t T'.heap (locs ++ L) e1.symm hb k2 k3 (by rw [e1]; exact hce) hcv hcl T' rfl X'
    exact ⟨t2, st.trans a1, b1⟩
theorem f_outE {Qc : Array Value → State → Outcome → State → Prop} {q9 : Addr} {ce : Cell} {H1 : Heap} {locs1 : List Loc} {k n : Nat} (ht : ∀ x ∈ c.exceptionTable.toList, False) (hlocks : meth.locks = false) (hP : va_P D vwCl ws H1) (hD : va_D A ws) (hS : va_S A s.heap H1 locs1)
    (hcell : H1[q9]? = some ce) (hv : ce.vm = .none) (hcl : s.vm.findClass E = some ce.cls) (hk : k ≤ 1) (hn : n ≤ 6) : vx_W p l e R s m args below meth c H1 locs1 k n (vx_MQ below Qc (f_XC E D ws A) args s 1 6 A) (F0 m pc ls rest) q9 :=
  vx_out (fun x h => (ht x h).elim) hlocks hcell hv hcl (fun t hh _ => ⟨(), trivial, ⟨rfl, by rw [hh]; exact hP, hD⟩, hS.F hh⟩) hS.2.2 hk hn
theorem f_outV {Qc : Array Value → State → Outcome → State → Prop} (S : CallFix p m c cc nL s args Ts own) (hP : va_P D vwCl ws H) (hD : va_D A ws) (hS : va_S A s.heap H locs) (hA : ∀ q, s.heap.size ≤ q → A q) (hK : va_K D vwCl tys s) (hN : fN s) (hX : fX sa s) (hZ : fZ A s s.heap) (isC : List Nat)
    (hM : f_X l y W0 rm D tys (.ref b :: As) H.size wc sa E) (cw : CallW R s args own C index y bytes maxL ret W0 rm 1 6 n) (k0 : Nat) (hc : vwCl[ci]? = some (C, T, N)) (he : ws[k0]? = some (b, .inr (ci, fs))) (hC : isC.map (fun i => ws[i]?) = wc.map some) (hn : va_nd isC = true) (hw2 : f_put ws isC wc = ws) (ht : ∀ x ∈ c.exceptionTable.toList, False) (hlocks : meth.locks = false)
    (hst : st0 = As.reverse ++ .ref b :: rest) (hlen : As.length = n) (hls : ls.size = nL) (hroom : (rest.map fun v => v.category).sum ≤ 8) (hdg : decode cc pc = .ok (.invokevirtual index, 3)) (hR : cells + 1 ≤ R.cells ∧ slots + 6 ≤ R.slots) (hk : cells + 1 ≤ 1) (hk6 : slots + 6 ≤ 6) :
    W p l e R s m args below meth c H locs cells slots (vx_MQ below Qc (f_XC E D ws A) args s 1 6 A) (F0 m pc ls st0) := by
  have hF := va_free hD hS hA isC hC
  refine f_xrun (vx_runV S hM cw ⟨f_blindX, va_recv hK hP hc he, f_preX hP hD hS hA hK hN hX hZ hC hn⟩ rfl hlen hls hst (lv_room hroom) hdg hR) hS hF (fun q _ h => hF q h) (fun E1 ce q9 t H1 locs1 hh hB hk1 hS1 h1 h2 h3 => ?_)
  obtain ⟨rfl, hP1, hD1⟩ := hB
  rw [hh] at hP1
  obtain ⟨hP2, hD2⟩ := f_join0 hP hD isC hC rfl hk1 hF hP1 hD1
  rw [hw2] at hP2 hD2
  exact f_outE ht hlocks hP2 hD2 hS1 h1 h2 h3 hk hk6
theorem f_outS {Qc : Array Value → State → Outcome → State → Prop} (S : CallFix p m c cc nL s args Ts own) (hP : va_P D vwCl ws H) (hD : va_D A ws) (hS : va_S A s.heap H locs) (hA : ∀ q, s.heap.size ≤ q → A q) (hK : va_K D vwCl tys s) (hN : fN s) (hX : fX sa s) (hZ : fZ A s s.heap) (isC : List Nat)
    (hM : f_X l y W0 rm D tys As H.size wc sa E) (cw : CallB R s args own index y bytes maxL ret W0 rm 1 6 n ∧ (Cond.static y).before args s = true) (hC : isC.map (fun i => ws[i]?) = wc.map some) (hn : va_nd isC = true) (hw2 : f_put ws isC wc = ws) (ht : ∀ x ∈ c.exceptionTable.toList, False) (hlocks : meth.locks = false)
    (hst : st0 = As.reverse ++ rest) (hlen : As.length = n) (hls : ls.size = nL) (hroom : (rest.map fun v => v.category).sum ≤ 8) (hdg : decode cc pc = .ok (.invokestatic index, 3)) (hR : cells + 1 ≤ R.cells ∧ slots + 6 ≤ R.slots) (hk : cells + 1 ≤ 1) (hk6 : slots + 6 ≤ 6) :
    W p l e R s m args below meth c H locs cells slots (vx_MQ below Qc (f_XC E D ws A) args s 1 6 A) (F0 m pc ls st0) := by
  have hF := va_free hD hS hA isC hC
  refine f_xrun (vx_runS S hM cw ⟨f_blindX, f_preX hP hD hS hA hK hN hX hZ hC hn⟩ rfl hlen hls hst (lv_room hroom) hdg hR) hS hF (fun q _ h => hF q h) (fun E1 ce q9 t H1 locs1 hh hB hk1 hS1 h1 h2 h3 => ?_)
  obtain ⟨rfl, hP1, hD1⟩ := hB
  rw [hh] at hP1
  obtain ⟨hP2, hD2⟩ := f_join0 hP hD isC hC rfl hk1 hF hP1 hD1
  rw [hw2] at hP2 hD2
  exact f_outE ht hlocks hP2 hD2 hS1 h1 h2 h3 hk hk6
/-- a call that throws, caught here by the row x -/
theorem f_catV (S : CallFix p m c cc nL s args Ts own) (hP : va_P D vwCl ws H) (hD : va_D A ws) (hS : va_S A H0 H locs) (hA : ∀ q, H0.size ≤ q → A q) (hK : va_K D vwCl tys s) (hN : fN s) (hX : fX sa s) (hZ : fZ A s H0) (isC : List Nat)
    (hM : f_X l y W0 rm D tys (.ref b :: As) H.size wc sa E) (cw : CallW R s args own C index y bytes maxL ret W0 rm 1 6 n) (k0 : Nat) (hc : vwCl[ci]? = some (C, T, N)) (he : ws[k0]? = some (b, .inr (ci, fs))) (hC : isC.map (fun i => ws[i]?) = wc.map some) (hn : va_nd isC = true) (hw2 : f_put ws isC wc = ws)
    (pre : List ExceptionTableEntry) (x : ExceptionTableEntry) (suf : List ExceptionTableEntry) (hsplit : c.exceptionTable.toList = pre ++ x :: suf)
    (hpass : ∀ z ∈ pre, covers z pc = false ∨ (z.catchType ≠ 0 ∧ ∃ nm : String, (Cond.classLink own z.catchType nm).before args s = true ∧ va_Nc E nm s)) (hcv : covers x pc = true) (h0 : x.catchType ≠ 0)
    (hlink : (Cond.classLink own x.catchType E).before args s = true) (hcast : (Cond.castable E E).before args s = true)
    (hst : st0 = As.reverse ++ .ref b :: rest) (hlen : As.length = n) (hls : ls.size = nL) (hroom : (rest.map fun v => v.category).sum ≤ 8) (hdg : decode cc pc = .ok (.invokevirtual index, 3)) (hR : cells + 1 ≤ R.cells ∧ slots + 6 ≤ R.slots)
    (kk : ∀ (q9 : Nat) (H1 : Heap) (locs1 : List Loc), va_P D vwCl ws H1 → va_D A ws → va_S A H0 H1 locs1 → W p l e R s m args below meth c H1 locs1 (cells + 1) (slots + 6) Q (F0 m x.handlerPc ls [.ref q9])) :
    W p l e R s m args below meth c H locs cells slots Q (F0 m pc ls st0) := by
  have hF := va_free hD hS hA isC hC
  refine f_xrun (vx_runV S hM cw ⟨f_blindX, va_recv hK hP hc he, f_preX hP hD hS hA hK hN hX hZ hC hn⟩ rfl hlen hls hst (lv_room hroom) hdg hR) hS hF (fun q _ h => hF q h) (fun E1 ce q9 t H1 locs1 hh hB hk1 hS1 h1 h2 h3 => ?_)
  obtain ⟨rfl, hP1, hD1⟩ := hB
  rw [hh] at hP1
  obtain ⟨hP2, hD2⟩ := f_join0 hP hD isC hC rfl hk1 hF hP1 hD1
  rw [hw2] at hP2 hD2
  exact vx_catch (name := E1) S.2.2.2.1 pre x suf hsplit hpass hcv h0 hlink hcast h1 h2 h3 (kk q9 H1 locs1 hP2 hD2 hS1)
/-- 'throw new E(text)' -/
theorem f_thr {Qc : Array Value → State → Outcome → State → Prop} {text : String} {ik is ic sa0 : Nat} (hx : p.tables.exec = Jvm.exec) (hb : c.code = cc) (hfl : l.stackTraces = false) (hown : s.vm.findClass RX3 = some m.cls) (hcls : Bundle.fit E = true)
    (hk : (Cond.classLink RX3 ik E).before args s = true) (hini : (Cond.initialized E).before args s = true) (hstr : vk_R RX3 is text sa0 s) (hat : ∀ w ∈ vx_atS RX3 ic E ["java/lang/RuntimeException", "java/lang/Exception"], w.before args s = true)
    (hgood : ∀ w ∈ Cond.classLink RX3 ik E :: Cond.initialized E :: vx_atS RX3 ic E ["java/lang/RuntimeException", "java/lang/Exception"], vx_ot w = true)
    (hZ : fZ A s s.heap) (hP : va_P D vwCl ws H) (hD : va_D A ws) (hS : va_S A s.heap H locs) (hsize : ls.size = c.maxLocals)
    (d0 : decode cc pc = .ok (.new ik, 3)) (d3 : decode cc (pc + 3) = .ok (.dup, 1)) (d4 : decode cc (pc + 4) = .ok (.ldc is, 2)) (d6 : decode cc (pc + 6) = .ok (.invokespecial ic, 3)) (d9 : decode cc (pc + 9) = .ok (.athrow, 1))
    (ht : ∀ x ∈ c.exceptionTable.toList, False) (hR1 : 5 < R.frames) (hR2 : (rest.map fun v => v.category).sum + 82 ≤ R.locals) (hR3 : cells + 1 ≤ R.cells) (hR4 : slots + 6 ≤ R.slots) (hlocks : meth.locks = false) (hc : cells + 1 ≤ 1) (hs : slots + 6 ≤ 6) :
    W p l e R s m args below meth c H locs cells slots (vx_MQ below Qc (f_XC E D ws A) args s 1 6 A) (F0 m pc ls rest) :=
  vx_throwS (names := ["java/lang/RuntimeException", "java/lang/Exception"]) hx hb hfl hown hcls (by decide +kernel) hk hini hstr hat hgood hZ.1 hZ.2 hS hsize d0 d3 d4 d6 d9 (fun x h => (ht x h).elim) hR1 hR2 hR3 hR4 hlocks
    (fun t _ h1 h2 => ⟨(), trivial, ⟨rfl, fun k q hq => (hP k q hq).kept (h2 q.1 (hP k q hq).lt), hD⟩, ⟨Nat.le_trans hS.1 h1, fun q hq hn => by rw [h2 q (Nat.lt_of_lt_of_le hq hS.1), hS.2.1 q hq hn]⟩⟩) hS.2.2 hc hs
/-- a call of a method with a table of its own -/
theorem f_callH {J : Type} {w1 w2 : J → va_W} {hh : List (Nat × Nat × Nat × Nat)} {r : Int32} (S : CallFix p m c cc nL s args Ts own) (hP : va_P D vwCl ws H) (hD : va_D A ws) (hS : va_S A H0 H locs) (hA : ∀ q, H0.size ≤ q → A q) (hK : va_K D vwCl tys s) (hN : fN s) (hX : fX sa s) (hZ : fZ A s H0) (isC : List Nat)
    (hM : f_H l y W0 rm D tys As H.size wc sa r w1) (cw : vx_CSW R s args own index y bytes maxL ret hh W0 rm 1 6 n) (hC : isC.map (fun i => ws[i]?) = wc.map some) (hn : va_nd isC = true) (ad : List Nat) (hadr1 : ∀ u, (w1 u).map Prod.fst = ad) (hadr2 : wc.map Prod.fst = ad) (hw2 : ∀ u, f_put ws isC (w1 u) = w2 u)
    (hst : st0 = As.reverse ++ rest) (hlen : As.length = n) (hls : ls.size = nL) (hroom : (rest.map fun v => v.category).sum ≤ 8) (hdg : decode cc pc = .ok (.invokestatic index, 3)) (hR : cells + 1 ≤ R.cells ∧ slots + 6 ≤ R.slots)
    (kk : ∀ (u : J) (H1 : Heap) (locs1 : List Loc), va_P D vwCl (w2 u) H1 → va_D A (w2 u) → va_S A H0 H1 locs1 → W p l e R s m args below meth c H1 locs1 (cells + 1) (slots + 6) Q (F0 m (pc + 3) ls (.int r :: rest))) : W p l e R s m args below meth c H locs cells slots Q (F0 m pc ls st0) := by
  have hF := va_free hD hS hA isC hC
  refine va_calli (vx_runSW S hM cw ⟨f_blindX, f_preX hP hD hS hA hK hN hX hZ hC hn⟩ rfl hlen hls hst (lv_room hroom) hdg hR) hS (fun q _ h => hF q h) hF (fun r1 u t H1 locs1 ht hvm hw hB hz1 hk1 hS1 => ?_)
  cases hw
  obtain ⟨hP1, hD1⟩ := hB
  rw [ht] at hP1
  obtain ⟨hP2, hD2⟩ := f_join0 hP hD isC hC ((hadr1 u).trans hadr2.symm) hk1 hF hP1 hD1
  rw [hw2 u] at hP2 hD2
  exact kk u H1 locs1 hP2 hD2 hS1
/-- what a throw's words are, the good ones out of the method's own list -/
theorem f_hat1 {L : List Cond} (hX : fX sa s) (h1 : ∀ w ∈ L.filter goodWord, w.before args s = true) (h2 : ∀ w ∈ L.filter (fun w => !goodWord w), w ∈ ([.castable "java/lang/IllegalArgumentException" "java/lang/IllegalArgumentException", .declares ⟨"java/lang/RuntimeException", "<init>", "(Ljava/lang/String;)V"⟩, .declares ⟨"java/lang/Exception", "<init>", "(Ljava/lang/String;)V"⟩, .declares ⟨"java/lang/Throwable", "<init>", "(Ljava/lang/String;)V"⟩] : List Cond)) : ∀ w ∈ L, w.before args s = true :=
  vx_hat h1 h2 (vx_c (va_Nw.use rfl hX.2.1.1) (vx_c (va_Nw.use rfl hX.2.2.1) (vx_c (va_Nw.use rfl hX.2.2.2.1) (vx_c (va_Nw.use rfl hX.2.2.2.2) vx_n))))
theorem f_hat2 {L : List Cond} (hX : fX sa s) (h1 : ∀ w ∈ L.filter goodWord, w.before args s = true) (h2 : ∀ w ∈ L.filter (fun w => !goodWord w), w ∈ ([.castable "java/lang/IndexOutOfBoundsException" "java/lang/IndexOutOfBoundsException", .declares ⟨"java/lang/RuntimeException", "<init>", "(Ljava/lang/String;)V"⟩, .declares ⟨"java/lang/Exception", "<init>", "(Ljava/lang/String;)V"⟩, .declares ⟨"java/lang/Throwable", "<init>", "(Ljava/lang/String;)V"⟩] : List Cond)) : ∀ w ∈ L, w.before args s = true :=
  vx_hat h1 h2 (vx_c (va_Nw.use rfl hX.2.1.2.1) (vx_c (va_Nw.use rfl hX.2.2.1) (vx_c (va_Nw.use rfl hX.2.2.2.1) (vx_c (va_Nw.use rfl hX.2.2.2.2) vx_n))))
theorem f_hat3 {L : List Cond} (hX : fX sa s) (h1 : ∀ w ∈ L.filter goodWord, w.before args s = true) (h2 : ∀ w ∈ L.filter (fun w => !goodWord w), w ∈ ([.castable "java/lang/IllegalStateException" "java/lang/IllegalStateException", .declares ⟨"java/lang/RuntimeException", "<init>", "(Ljava/lang/String;)V"⟩, .declares ⟨"java/lang/Exception", "<init>", "(Ljava/lang/String;)V"⟩, .declares ⟨"java/lang/Throwable", "<init>", "(Ljava/lang/String;)V"⟩] : List Cond)) : ∀ w ∈ L, w.before args s = true :=
  vx_hat h1 h2 (vx_c (va_Nw.use rfl hX.2.1.2.2) (vx_c (va_Nw.use rfl hX.2.2.1) (vx_c (va_Nw.use rfl hX.2.2.2.1) (vx_c (va_Nw.use rfl hX.2.2.2.2) vx_n))))
end THC
/-! a contract of a method with a table of its own, over a pool -/
section THP
def g_Hi {S : Type} (l : Launch) (y : MethodName) (W0 : List Cond) (rm : Room) (D : va_G) (tys : List (ClassId × FieldType)) (av : List Value) (sz : Nat) (ws : va_W) (sa : Nat → Nat) (P : S → Int32 → Prop) (ws1 : S → va_W) (mc ms : Nat) : Prop :=
  Met l y W0 rm (f_PcX D tys av sz ws sa) (va_Qi (fun (x : Int32) (u : S) => P u x) (fun u t => va_P D vwCl (ws1 u) t.heap ∧ va_D (va_A ws sz) (ws1 u)) (va_A ws sz)) mc ms (va_A ws sz)
theorem g_entH {S : Type} {l : Launch} {y : MethodName} {W0 ws' : List Cond} {rm : Room} {D : va_G} {tys : List (ClassId × FieldType)} {av : List Value} {sz : Nat} {ws : va_W} {sa : Nat → Nat} {P : S → Int32 → Prop} {ws1 : S → va_W} {cc : ByteArray} {maxL mc ms : Nat} {ret : Option FieldType} {hh : List (Nat × Nat × Nat × Nat)}
    (hy : plainName y.cls = true) (hw : W0 = Cond.codeWith y cc maxL ret hh :: ws') (hsl : (lg_sl av).length ≤ maxL)
    (body : ∀ (p : Program) (e : Env) (s : State) (m : MethodId) (below : List Frame) (meth : Method) (c : Code), p.tables.exec = Jvm.exec → c.code = cc → meth.sig.returnType = ret → (∀ w ∈ W0, w.before av.toArray s = true) → s.vm.findClass y.cls = some m.cls → meth.locks = false → c.maxLocals = maxL → meth.name = y.name → s.heap.size = sz →
      va_P D vwCl ws s.heap → va_K D vwCl tys s → fN s → fX sa s → ∀ A : Nat → Prop, fZ A s s.heap → va_D A ws → (∀ q, s.heap.size ≤ q → A q) → va_S A s.heap s.heap [] → c.exceptionTable.toList = tableOf hh → ∀ ls : Array Slot, lv_has ls maxL (lv_args 0 av) →
      W p l e (headSpec W0 rm).room s m av.toArray below meth c s.heap [] 0 0 (MQ below (va_Qi (fun (x : Int32) (u : S) => P u x) (fun u t => va_P D vwCl (ws1 u) t.heap ∧ va_D A (ws1 u)) A) av.toArray s mc ms A) (F0 m 0 ls [])) :
    g_Hi l y W0 rm D tys av sz ws sa P ws1 mc ms := by
  unfold g_Hi Met
  refine MetFree.of_bodyS (code := cc) (maxLocals := maxL) (ret := ret) hy ?_ ?_
  · intro args s m h hn
    obtain ⟨m9, meth, c, hn9, h1, h2, h3, h4, -, h5, h6, -⟩ := Cond.codeWith_spec (atoms_spec (ws := W0) h _ (by rw [hw]; exact List.mem_cons_self))
    cases hn.symm.trans hn9
    exact ⟨meth, c, h1, h2, h3, h4, h5, h6⟩
  · intro p e s m args below meth c s₁ B hml hv _
    obtain ⟨⟨rfl, hsz, hP, hK, hD0, hN⟩, hX, hZ⟩ := hv
    subst hsz
    have hD := hD0.self (sz := s.heap.size)
    have hl := lv_entry av hsl
    have hts := atoms_spec (ws := W0) B.pre
    have ht : c.exceptionTable.toList = tableOf hh := vx_table (x := y) B (hts _ (by rw [hw]; exact List.mem_cons_self))
    have K := body p e s m below meth c B.exec B.bytes B.returns hts (findClass_of_methodNamed B.named) B.notSynchronized hml (name_of_methodNamed B.named B.method).1 rfl hP hK hN hX _ hZ hD (fun q h => Or.inr h) va_S.rf ht _ hl
    rw [← lg_entry_eq] at K
    have hh0 : s₁.heap = s.heap := by rw [B.state]; rfl
    obtain ⟨t, a1, o, b1, b2, b3⟩ := K s₁ hh0 (Stand.of_body B)
    exact ⟨t, o, a1, b1, b2, ⟨b3.1, b3.2⟩⟩
end THP
