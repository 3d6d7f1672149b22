/-! the script's own method, and calls of it; numbers below another -/
section LY3
def f_Ps (sc Ls : Nat) (xs : Nat → Int32) (av : List Value) : Array Value → State → Prop := fun v U => v = av.toArray ∧ va_X sc Ls xs U U.heap ∧ sc < U.heap.size
theorem f_blindS {sc Ls : Nat} {xs : Nat → Int32} {av : List Value} : FrameBlind (f_Ps sc Ls xs av) := fun a U g mk q => by
  obtain ⟨q0, qX, qs⟩ := q
  exact ⟨q0, va_X.moved (u := U) (U := U.calling g mk a) (Vm.Alike.refl U.vm) qX, qs⟩
/-- a cell of the script, or what stands for it behind its end -/
def cel (Ls : Nat) (xs : Nat → Int32) (k : Nat) : Int32 := if k < Ls then xs k else 790386105 * (nI k + 3)
def f_Ms (l : Launch) (y : MethodName) (W0 : List Cond) (rm : Room) (sc Ls : Nat) (xs : Nat → Int32) (av : List Value) (r : Int32) : Prop :=
  Met l y W0 rm (f_Ps sc Ls xs av) (va_Qi (fun (x : Int32) (_ : Unit) => x = r) (fun _ _ => True) (fun _ => False)) 0 0 (fun _ => False)
theorem f_entS {l : Launch} {y : MethodName} {W0 ws' : List Cond} {rm : Room} {sc Ls : Nat} {xs : Nat → Int32} {av : List Value} {cc : ByteArray} {maxL : Nat} {ret : Option FieldType} {mc ms : Nat} {free : Addr → Prop} (QQ : Array Value → State → Outcome → State → Prop)
    (hy : plainName y.cls = true) (hw : W0 = Cond.code y cc maxL ret :: ws') (hsl : (lg_sl av).length ≤ maxL)
    (body : ∀ (p : Program) (e : Env) (s : State) (m : MethodId) (below : List Frame) (meth : Method) (c : Code), p.tables.exec = Jvm.exec → c.code = cc → meth.sig.returnType = ret → (∀ w ∈ W0, w.before av.toArray s = true) → s.vm.findClass y.cls = some m.cls → meth.locks = false → c.maxLocals = maxL →
      va_X sc Ls xs s s.heap → sc < s.heap.size → ∀ ls : Array Slot, lv_has ls maxL (lv_args 0 av) →
      W p l e (headSpec W0 rm).room s m av.toArray below meth c s.heap [] 0 0 (MQ below QQ av.toArray s mc ms free) (F0 m 0 ls [])) :
    Met l y W0 rm (f_Ps sc Ls xs av) QQ mc ms free := by
  refine Met.ofW (cc := cc) (maxL := maxL) (ret := ret) hy hw ?_
  intro p e s m args below meth c s₁ B hml hv
  obtain ⟨rfl, hX, hbl⟩ := hv
  have hl := lv_entry av hsl
  rw [lg_entry_eq]
  exact body p e s m below meth c B.exec B.bytes B.returns (atoms_spec (ws := W0) B.pre) (findClass_of_methodNamed B.named) B.notSynchronized hml hX hbl _ hl
theorem k_L_cell : yL_cell.cls = RL ∧ yL_cell.cls ≠ "java/lang/invoke/MethodHandle" ∧ yL_cell.cls ≠ "java/lang/invoke/VarHandle" ∧ (parseMethodDescriptor yL_cell.desc).map (fun d => d.parameters.length) = some 2 := by decide +kernel
theorem wi_L_cell_1 : (Cond.constant RL 8 (790386105)) ∈ wsL_cell := List.mem_of_getElem? (i := 1) rfl
theorem c_L_cell (l : Launch) (sc Ls k : Nat) (xs : Nat → Int32) (hL : Ls < 2 ^ 31) (hk : k < 2 ^ 31) : f_Ms l yL_cell wsL_cell ({ frames := 0, cells := 0, slots := 0, locals := 0 }) sc Ls xs [.ref sc, .int (nI k)] (cel Ls xs k) := by
  refine f_entS (cc := cL_cell) (maxL := 2) (ret := some .int) _ (by decide) rfl (Nat.le_of_ble_eq_true rfl) ?_
  intro pg ev s m below meth cd hx hb hr hts hown hlocks hml hX hbl ls hl
  have hown : s.vm.findClass RL = some m.cls := hown
  have hl : lv_has ls 2 [(0, .ref sc), (1, .int (nI k))] := hl
  have hS : va_S (fun _ => False) s.heap s.heap [] := va_S.rf
  have hbA : ¬ (fun _ : Nat => False) sc := fun h => h
  refine lv_iload_n hx hb dL_cell_0 rfl (lv_at hl 1 rfl) ?_
  refine lv_aload_n hx hb dL_cell_1 rfl (lv_at hl 0 rfl) ?_
  refine va_slen hx hb hX hbl hbA hS dL_cell_2 ?_
  refine lv_icmp_ge (tgt := 12) hx hb dL_cell_3 (by decide) (fun c_1 => ?_) (fun c_1 => ?_)
  · have h9 : ¬ k < Ls := fun z => absurd ((nI_leI hL hk).mp c_1) (by omega)
    refine lv_ldc hx hb hown (hts _ wi_L_cell_1) dL_cell_12 ?_
    refine lv_iload_n hx hb dL_cell_14 rfl (lv_at hl 1 rfl) ?_
    refine lv_iconst (v := 3) hx hb dL_cell_15 (by decide) ?_
    refine lv_iadd hx hb dL_cell_16 ?_
    refine lv_imul hx hb dL_cell_17 ?_
    exact W.iret hx hb hr (fun t ht _ => ⟨⟨_, (), rfl, by unfold cel; rw [if_neg h9], trivial⟩, hS.F ht⟩) hS.2.2 dL_cell_18 hlocks
  · have h9 : k < Ls := Nat.not_le.mp fun z => c_1 ((nI_leI hL hk).mpr z)
    refine lv_aload_n hx hb dL_cell_6 rfl (lv_at hl 0 rfl) ?_
    refine lv_iload_n hx hb dL_cell_7 rfl (lv_at hl 1 rfl) ?_
    refine va_sld hx hb hX hbl hbA hS (vp_in_nI h9 hL) dL_cell_8 ?_
    refine lv_goto (tgt := 18) hx hb dL_cell_9 (by decide) ?_
    exact W.iret hx hb hr (fun t ht _ => ⟨⟨_, (), rfl, by unfold cel; rw [if_pos h9, nI_clamp hk], trivial⟩, hS.F ht⟩) hS.2.2 dL_cell_18 hlocks
section LYC
variable {p : Program} {l : Launch} {e : Env} {R : Room} {s : State} {m : MethodId} {args : Array Value} {below : List Frame} {meth : Method} {c : Code} {H : Heap} {locs : List Loc} {cells slots : Nat} {Q : State → Prop}
variable {y : MethodName} {bytes cc : ByteArray} {maxL nL n index pc mc ms : Nat} {ret : Option FieldType} {W0 Ts : List Cond} {rm : Room} {own C : String} {b : Addr} {As rest st0 : List Value} {ls : Array Slot} {D : va_G} {tys : List (ClassId × FieldType)} {ws : va_W} {X cx wr pl : va_W} {A : Nat → Prop} {H0 : Heap} {sc Ls : Nat} {xs : Nat → Int32} {sa : Nat → Nat}
/-- a call of the script's method: nothing else has changed -/
theorem g_cell {r : Int32} (S : CallFix p m c cc nL s args Ts own) (hP : va_P D vwCl ws H) (hS : va_S A H0 H locs) (hX : va_X sc Ls xs s H0) (hbl : sc < H0.size) (hbA : ¬ A sc) (hM : f_Ms l y W0 rm sc Ls xs As r) (cw : CallB R s args own index y bytes maxL ret W0 rm 0 0 n ∧ (Cond.static y).before args s = true)
    (hst : st0 = As.reverse ++ rest) (hlen : As.length = n) (hls : ls.size = nL) (hroom : (rest.map fun v => v.category).sum ≤ 8) (hdg : decode cc pc = .ok (.invokestatic index, 3)) (hR : cells ≤ R.cells ∧ slots ≤ R.slots)
    (kk : ∀ (H1 : Heap) (locs1 : List Loc), va_P D vwCl ws H1 → va_S A H0 H1 locs1 → W p l e R s m args below meth c H1 locs1 cells slots Q (F0 m (pc + 3) ls (.int r :: rest))) : W p l e R s m args below meth c H locs cells slots Q (F0 m pc ls st0) := by
  refine va_calli (va_runS S hM cw ⟨f_blindS, fun U hU hW => ⟨rfl, by rw [hU]; exact va_X.moved hW.alike (hX.kept (hS.2.1 sc hbl hbA)), by rw [hU]; exact Nat.lt_of_lt_of_le hbl hS.1⟩⟩ rfl hlen hls hst (lv_room hroom) hdg hR) hS (fun q _ h => h.elim) (fun q h => h.elim) (fun r1 u t H1 locs1 ht hvm hw hB hz1 hk1 hS1 => ?_)
  cases hw
  exact kk H1 locs1 (hP.kept (fun k x hx => hk1 x.1 ((hP k x hx).lt) (fun z => z))) hS1
theorem g_preX {av : List Value} {isC : List Nat} (hP : va_P D vwCl (X ++ pl) H) (hD : va_D A (X ++ pl)) (hS : va_S A H0 H locs) (hA : ∀ q, H0.size ≤ q → A q) (hK : va_K D vwCl tys s) (hN : fN s) (hX : fX sa s) (hZ : fZ A s H0) (hC : isC.map (fun i => X[i]?) = cx.map some) (hn : va_nd isC = true) :
    ∀ U : State, U.heap = H → s.WarmedH U.vm → f_PcX D tys av H.size (cx ++ pl) sa av.toArray U := fun U hU hW =>
  ⟨g_pre hP hD hK hN hC hn U hU hW, fX_warm hW hX, by rw [hU]; exact fZ_moved hW.alike (fZ_narrow (fZ_kept hZ hS.2.1) (g_free hD hS hA (g_sub (pl := pl) hC)))⟩
/-- a static call of a method with a table of its own, over a pool -/
theorem g_callHS {U : Type} {rx pl1 X2 : U → va_W} {P : U → Int32 → Prop} {hh : List (Nat × Nat × Nat × Nat)} (S : CallFix p m c cc nL s args Ts own) (hP : va_P D vwCl (X ++ pl) H) (hD : va_D A (X ++ pl)) (hS : va_S A H0 H locs) (hA : ∀ q, H0.size ≤ q → A q) (hK : va_K D vwCl tys s) (hN : fN s) (hX : fX sa s) (hZ : fZ A s H0) (isC isR : List Nat) (isO : List Nat)
    (hM : g_Hi l y W0 rm D tys As H.size (cx ++ pl) sa P (fun u => rx u ++ pl1 u) mc ms) (cw : vx_CSW R s args own index y bytes maxL ret hh W0 rm mc ms n) (hC : isC.map (fun i => X[i]?) = cx.map some) (hn : va_nd isC = true) (hR : isR.map (fun i => X[i]?) = wr.map some) (hnR : va_nd isR = true) (hdis : ∀ i ∈ isR, i ∉ isC) (hO : ∀ u, isO.map (fun i => (wr ++ rx u)[i]?) = (X2 u).map some) (hnO : va_nd isO = true)
    (hst : st0 = As.reverse ++ rest) (hlen : As.length = n) (hls : ls.size = nL) (hroom : (rest.map fun v => v.category).sum ≤ 8) (hdg : decode cc pc = .ok (.invokestatic index, 3)) (hRm : cells + mc ≤ R.cells ∧ slots + ms ≤ R.slots)
    (kk : ∀ (u : U) (x : Int32) (H1 : Heap) (locs1 : List Loc), P u x → va_P D vwCl (X2 u ++ pl1 u) H1 → va_D A (X2 u ++ pl1 u) → va_S A H0 H1 locs1 → W p l e R s m args below meth c H1 locs1 (cells + mc) (slots + ms) Q (F0 m (pc + 3) ls (.int x :: rest))) : W p l e R s m args below meth c H locs cells slots Q (F0 m pc ls st0) := by
  have hF := g_free hD hS hA (g_sub (pl := pl) hC)
  refine va_calli (vx_runSW S hM cw ⟨f_blindX, g_preX hP hD hS hA hK hN hX hZ hC hn⟩ rfl hlen hls hst (lv_room hroom) hdg hRm) hS (fun q _ h => hF q h) hF (fun r1 u t H1 locs1 ht hvm hw hB hz1 hk1 hS1 => ?_)
  obtain ⟨hP1, hD1⟩ := hB
  rw [ht] at hP1
  obtain ⟨hP2, hD2⟩ := g_join hP hD isC isR isO hC hR hnR hdis hk1 hF hP1 hD1 (hO u) hnO
  exact kk u r1 H1 locs1 hw hP2 hD2 hS1
end LYC
/-- a number below another, of any number -/
def blw (v : Int32) (N : Nat) : Nat := (v &&& 2147483647).toNatClampNeg % N
theorem blw_lt (v : Int32) {N : Nat} (h : 1 ≤ N) : blw v N < N := Nat.mod_lt _ h
theorem blw_pos (v : Int32) : ¬ (v &&& 2147483647) < 0 := by
  intro h
  have h1 : (v &&& 2147483647).toInt < 0 := Int32.lt_iff_toInt_lt.mp h
  have h2 : (v &&& 2147483647).toBitVec.msb = true := by
    rw [BitVec.msb_eq_toInt]
    exact decide_eq_true h1
  rw [Int32.toBitVec_and, BitVec.msb_and] at h2
  have h3 : (2147483647 : Int32).toBitVec.msb = false := by decide
  rw [h3, Bool.and_false] at h2
  exact absurd h2 (by decide)
theorem blw_rem (v : Int32) {N : Nat} (h1 : 1 ≤ N) (h2 : N < 2 ^ 31) : (v &&& 2147483647) - (v &&& 2147483647) / nI N * nI N = nI (blw v N) := by
  obtain ⟨j, hj, e⟩ := nI_of (blw_pos v)
  unfold blw
  rw [e, nI_clamp hj, pk_rem hj h1 h2]
end LY3
