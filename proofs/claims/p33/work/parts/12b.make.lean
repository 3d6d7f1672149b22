/-! cells that are made -/
section MKE
variable {p : Program} {l : Launch} {e : Env} {R : Room} {s : State} {m : MethodId} {args : Array Value} {below : List Frame} {meth : Method} {c : Code} {H : Heap} {locs : List Loc} {cells slots : Nat} {Q : State → Prop} {pc : Nat} {ls : Array Slot} {rest : List Value} {cc : ByteArray} {D : va_G} {A : Nat → Prop} {H0 : Heap} {ws wb : va_W} {cI cZ cP cQ : ClassId}
theorem f_drop {H1 : Heap} (hP : va_P D vwCl (ws ++ wb) H1) (hD : va_D A (ws ++ wb)) : va_P D vwCl ws H1 ∧ va_D A ws := by
  have up : ∀ (k : Nat) (q : Nat × va_E), ws[k]? = some q → (ws ++ wb)[k]? = some q := fun k q h => by
    rw [List.getElem?_append_left (List.getElem?_eq_some_iff.mp h).1]; exact h
  exact ⟨fun k q h => hP k q (up k q h), fun i j a b h1 h2 h3 => hD.1 i j a b (up i a h1) (up j b h2) h3, fun k q h => hD.2 k q (up k q h)⟩
theorem f_newi (hx : p.tables.exec = Jvm.exec) (hb : c.code = cc) (harr : (Cond.arrayClass .int).before args s = true) (hK : va_K D vwCl (fTY cI cZ cP cQ) s) (hP : va_P D vwCl ws H) (hD : va_D A ws) (hS : va_S A H0 H locs) (hA : ∀ q, H0.size ≤ q → A q)
    {n : Int32} {N' : Nat} (hn : ¬ n < 0) (hN : n.toNatClampNeg = N') (hbytes : N' * componentBytes .int ≤ 536870912) (hcells : cells + 1 ≤ R.cells) (hslots : slots + N' ≤ R.slots) (hdg : decode cc pc = .ok (.newarray .int, 2))
    (kk : ∀ (q : Nat) (H1 : Heap), va_P D vwCl (ws ++ [(q, .inl (cI, N', .inl fun _ => 0))]) H1 → va_D A (ws ++ [(q, .inl (cI, N', .inl fun _ => 0))]) → va_S A H0 H1 locs →
      W p l e R s m args below meth c H1 locs (cells + 1) (slots + N') Q (F0 m (pc + 2) ls (.ref q :: rest))) : W p l e R s m args below meth c H locs cells slots Q (F0 m pc ls (.int n :: rest)) := by
  refine va_newa (atype := .int) (ty := .int) (a0 := (N', .inl fun _ => 0)) hx hb harr rfl hK hP hD hS hA (fun _ => rfl) hn hN hbytes hcells hslots hdg (fun q cA H1 hK1 hP1 hD1 hS1 => ?_)
  have h1 := (hK1.2 4 (cA, .int) rfl).2
  have h2 := (hK.2 0 (cI, .int) rfl).2
  have e : cI = cA := Option.some.inj (h2.symm.trans h1)
  subst e
  exact kk q H1 hP1 hD1 hS1
theorem f_newz (hx : p.tables.exec = Jvm.exec) (hb : c.code = cc) (harr : (Cond.arrayClass .boolean).before args s = true) (hK : va_K D vwCl (fTY cI cZ cP cQ) s) (hP : va_P D vwCl ws H) (hD : va_D A ws) (hS : va_S A H0 H locs) (hA : ∀ q, H0.size ≤ q → A q)
    {n : Int32} {N' : Nat} (hn : ¬ n < 0) (hN : n.toNatClampNeg = N') (hbytes : N' * componentBytes .boolean ≤ 536870912) (hcells : cells + 1 ≤ R.cells) (hslots : slots + N' ≤ R.slots) (hdg : decode cc pc = .ok (.newarray .boolean, 2))
    (kk : ∀ (q : Nat) (H1 : Heap), va_P D vwCl (ws ++ [(q, .inl (cZ, N', .inl fun _ => 0))]) H1 → va_D A (ws ++ [(q, .inl (cZ, N', .inl fun _ => 0))]) → va_S A H0 H1 locs →
      W p l e R s m args below meth c H1 locs (cells + 1) (slots + N') Q (F0 m (pc + 2) ls (.ref q :: rest))) : W p l e R s m args below meth c H locs cells slots Q (F0 m pc ls (.int n :: rest)) := by
  refine va_newa (atype := .boolean) (ty := .boolean) (a0 := (N', .inl fun _ => 0)) hx hb harr rfl hK hP hD hS hA (fun _ => rfl) hn hN hbytes hcells hslots hdg (fun q cA H1 hK1 hP1 hD1 hS1 => ?_)
  have h1 := (hK1.2 4 (cA, .boolean) rfl).2
  have h2 := (hK.2 1 (cZ, .boolean) rfl).2
  have e : cZ = cA := Option.some.inj (h2.symm.trans h1)
  subst e
  exact kk q H1 hP1 hD1 hS1
theorem f_objI (hx : p.tables.exec = Jvm.exec) (hb : c.code = cc) {own : String} (hown : s.vm.findClass own = some m.cls) {idx : Nat} (hlink : (Cond.methodLink own idx Lib.objectInit).before args s = true) (hinst : (Cond.instanceMethod Lib.objectInit).before args s = true) (hcode : (Cond.code Lib.objectInit ⟨#[0xb1]⟩ 1 none).before args s = true)
    {a : Addr} (hsz : ls.size = c.maxLocals) (hd : decode cc pc = .ok (.invokespecial idx, 3)) (hframes : 1 ≤ R.frames) (hlocals : 12 ≤ R.locals)
    (kk : W p l e R s m args below meth c H locs cells slots Q (F0 m (pc + 3) ls [])) : W p l e R s m args below meth c H locs cells slots Q (F0 m pc ls [.ref a]) :=
  W.objInit hx hb hown hlink hinst hcode rfl hsz rfl hd hframes hlocals kk
theorem f_ent_c {J : Type} {l : Launch} {y : MethodName} {W0 ws' : List Cond} {rm : Room} {D : va_G} {tys : List (ClassId × FieldType)} {av : List Value} {sz : Nat} {ws : va_W} {ws1 : J → va_W} {cc : ByteArray} {maxL : Nat} {ret : Option FieldType} {mc ms : Nat}
    (hy : plainName y.cls = true) (hw : W0 = Cond.code y cc maxL ret :: ws') (hsl : (lg_sl av).length ≤ maxL)
    (body : ∀ (p : Program) (e : Env) (s : State) (m : MethodId) (below : List Frame) (meth : Method) (c : Code), p.tables.exec = Jvm.exec → c.code = cc → meth.sig.returnType = ret → (∀ w ∈ W0, w.before av.toArray s = true) → s.vm.findClass y.cls = some m.cls → meth.locks = false → c.maxLocals = maxL → meth.name = y.name → s.heap.size = sz →
      va_P D vwCl ws s.heap → va_K D vwCl tys s → fN s → ∀ A : Nat → Prop, va_D A ws → (∀ q, s.heap.size ≤ q → A q) → va_S A s.heap s.heap [] → ∀ ls : Array Slot, lv_has ls maxL (lv_args 0 av) →
      W p l e (headSpec W0 rm).room s m av.toArray below meth c s.heap [] 0 0 (MQ below (va_Qv (fun (_ : J) => True) (fun u t => va_P D vwCl (ws1 u) t.heap ∧ va_D A (ws1 u)) A) av.toArray s mc ms A) (F0 m 0 ls [])) :
    f_Mc l y W0 rm D tys av sz ws ws1 mc ms := f_entry (fun A => va_Qv (fun (_ : J) => True) (fun u t => va_P D vwCl (ws1 u) t.heap ∧ va_D A (ws1 u)) A) hy hw hsl body
end MKE
section MKC
variable {p : Program} {l : Launch} {e : Env} {R : Room} {s : State} {m : MethodId} {args : Array Value} {below : List Frame} {meth : Method} {c : Code} {H : Heap} {locs : List Loc} {cells slots : Nat} {Q : State → Prop}
variable {y : MethodName} {bytes cc : ByteArray} {maxL nL n index pc mc ms : Nat} {W0 Ts : List Cond} {rm : Room} {own host : String} {b : Addr} {As rest st0 : List Value} {ls : Array Slot} {D : va_G} {tys : List (ClassId × FieldType)} {ws wc : va_W} {A : Nat → Prop} {H0 : Heap} {J : Type} {w1 wa wb w2 : J → va_W}
/-- a constructor's call: what it makes comes behind the world -/
theorem f_callC (S : CallFix p m c cc nL s args Ts own) (hP : va_P D vwCl ws H) (hD : va_D A ws) (hS : va_S A H0 H locs) (hA : ∀ q, H0.size ≤ q → A q) (hK : va_K D vwCl tys s) (hN : fN s) (isC : List Nat)
    (hM : f_Mc l y W0 rm D tys (.ref b :: As) H.size wc w1 mc ms) (cw : CallB R s args own index y bytes maxL none W0 rm mc ms n ∧ y.name = "<init>" ∧ (Cond.instanceMethod y).before args s = true) (hC : isC.map (fun i => ws[i]?) = wc.map some) (hn : va_nd isC = true) (hw1 : ∀ u, w1 u = wa u ++ wb u) (ad : List Nat) (hadr1 : ∀ u, (wa u).map Prod.fst = ad) (hadr2 : wc.map Prod.fst = ad) (hw2 : ∀ u, f_put ws isC (wa u) ++ wb u = w2 u)
    (hst : st0 = As.reverse ++ .ref b :: rest) (hlen : As.length = n) (hls : ls.size = nL) (hroom : (rest.map fun v => v.category).sum ≤ 8) (hdg : decode cc pc = .ok (.invokespecial index, 3)) (hR : cells + mc ≤ R.cells ∧ slots + ms ≤ R.slots)
    (kk : ∀ (u : J) (H1 : Heap) (locs1 : List Loc), va_P D vwCl (w2 u) H1 → va_D A (w2 u) → va_S A H0 H1 locs1 → W p l e R s m args below meth c H1 locs1 (cells + mc) (slots + ms) Q (F0 m (pc + 3) ls rest)) : W p l e R s m args below meth c H locs cells slots Q (F0 m pc ls st0) := by
  have hF := va_free hD hS hA isC hC
  refine va_callv (va_runI S hM cw ⟨f_blind, f_pre hP hD hK hN hC hn⟩ rfl hlen hls hst (lv_room hroom) hdg hR) hS (fun q _ h => hF q h) hF (fun u t H1 locs1 ht hvm hw hB hz1 hk1 hS1 => ?_)
  clear hw
  obtain ⟨hP1, hD1⟩ := hB
  rw [ht] at hP1
  obtain ⟨hP2, hD2⟩ := f_join hP hD isC hC (hw1 u) ((hadr1 u).trans hadr2.symm) hk1 hF hP1 hD1
  rw [hw2 u] at hP2 hD2
  exact kk u H1 locs1 hP2 hD2 hS1
theorem f_callCN (S : CallFix p m c cc nL s args Ts own) (hP : va_P D vwCl ws H) (hD : va_D A ws) (hS : va_S A H0 H locs) (hA : ∀ q, H0.size ≤ q → A q) (hK : va_K D vwCl tys s) (hN : fN s) (isC : List Nat)
    (hM : f_Mc l y W0 rm D tys (.ref b :: As) H.size wc w1 mc ms) (cw : va_CN R s args own index y host bytes maxL none W0 rm mc ms n ∧ y.name = "<init>" ∧ (Cond.instanceMethod y).before args s = true) (hC : isC.map (fun i => ws[i]?) = wc.map some) (hn : va_nd isC = true) (hw1 : ∀ u, w1 u = wa u ++ wb u) (ad : List Nat) (hadr1 : ∀ u, (wa u).map Prod.fst = ad) (hadr2 : wc.map Prod.fst = ad) (hw2 : ∀ u, f_put ws isC (wa u) ++ wb u = w2 u)
    (hst : st0 = As.reverse ++ .ref b :: rest) (hlen : As.length = n) (hls : ls.size = nL) (hroom : (rest.map fun v => v.category).sum ≤ 8) (hdg : decode cc pc = .ok (.invokespecial index, 3)) (hR : cells + mc ≤ R.cells ∧ slots + ms ≤ R.slots)
    (kk : ∀ (u : J) (H1 : Heap) (locs1 : List Loc), va_P D vwCl (w2 u) H1 → va_D A (w2 u) → va_S A H0 H1 locs1 → W p l e R s m args below meth c H1 locs1 (cells + mc) (slots + ms) Q (F0 m (pc + 3) ls rest)) : W p l e R s m args below meth c H locs cells slots Q (F0 m pc ls st0) := by
  have hF := va_free hD hS hA isC hC
  refine va_callv (va_runIN S hM cw ⟨f_blind, f_pre hP hD hK hN hC hn⟩ rfl hlen hls hst (lv_room hroom) hdg hR) hS (fun q _ h => hF q h) hF (fun u t H1 locs1 ht hvm hw hB hz1 hk1 hS1 => ?_)
  clear hw
  obtain ⟨hP1, hD1⟩ := hB
  rw [ht] at hP1
  obtain ⟨hP2, hD2⟩ := f_join hP hD isC hC (hw1 u) ((hadr1 u).trans hadr2.symm) hk1 hF hP1 hD1
  rw [hw2 u] at hP2 hD2
  exact kk u H1 locs1 hP2 hD2 hS1
end MKC
section MKD
variable {p : Program} {l : Launch} {e : Env} {R : Room} {s : State} {m : MethodId} {args : Array Value} {below : List Frame} {meth : Method} {c : Code} {H : Heap} {locs : List Loc} {cells slots : Nat} {Q : State → Prop}
variable {y : MethodName} {bytes cc : ByteArray} {maxL nL n index pc mc ms : Nat} {ret : Option FieldType} {W0 Ts : List Cond} {rm : Room} {own C : String} {b : Addr} {As rest st0 : List Value} {ls : Array Slot} {D : va_G} {tys : List (ClassId × FieldType)} {ws wc : va_W} {A : Nat → Prop} {H0 : Heap} {J : Type} {w1 w2 : J → va_W} {T : u_T} {N ci : Nat} {fs : List Value}
/-- a call that makes cells and leaves them behind -/
theorem f_callVJlm {r : Int64} (S : CallFix p m c cc nL s args Ts own) (hP : va_P D vwCl ws H) (hD : va_D A ws) (hS : va_S A H0 H locs) (hA : ∀ q, H0.size ≤ q → A q) (hK : va_K D vwCl tys s) (hN : fN s) (isC : List Nat)
    (hM : f_Jl l y W0 rm D tys (.ref b :: As) H.size wc r w1 mc ms) (cw : CallW R s args own C index y bytes maxL ret W0 rm mc ms n) (k0 : Nat) (hc : vwCl[ci]? = some (C, T, N)) (he : ws[k0]? = some (b, .inr (ci, fs))) (hC : isC.map (fun i => ws[i]?) = wc.map some) (hn : va_nd isC = true) (ad : List Nat) (hadr1 : ∀ u, (w1 u).map Prod.fst = ad) (hadr2 : wc.map Prod.fst = ad) (hw2 : ∀ u, f_put ws isC (w1 u) = w2 u)
    (hst : st0 = As.reverse ++ .ref b :: rest) (hlen : As.length = n) (hls : ls.size = nL) (hroom : (rest.map fun v => v.category).sum ≤ 8) (hdg : decode cc pc = .ok (.invokevirtual index, 3)) (hR : cells + mc ≤ R.cells ∧ slots + ms ≤ R.slots)
    (kk : ∀ (u : J) (H1 : Heap) (locs1 : List Loc), va_P D vwCl (w2 u) H1 → va_D A (w2 u) → va_S A H0 H1 locs1 → W p l e R s m args below meth c H1 locs1 (cells + mc) (slots + ms) Q (F0 m (pc + 3) ls (.long r :: rest))) : W p l e R s m args below meth c H locs cells slots Q (F0 m pc ls st0) := by
  have hF := va_free hD hS hA isC hC
  refine va_calll (va_runV S hM cw ⟨f_blind, va_recv hK hP hc he, f_pre hP hD hK hN hC hn⟩ rfl hlen hls hst (lv_room hroom) hdg hR) hS (fun q _ h => hF q h) hF (fun r1 u t H1 locs1 ht hvm hw hB hz1 hk1 hS1 => ?_)
  cases hw
  obtain ⟨hP1, hD1⟩ := hB
  rw [ht] at hP1
  obtain ⟨hP2, hD2⟩ := f_join0 hP hD isC hC ((hadr1 u).trans hadr2.symm) hk1 hF hP1 hD1
  rw [hw2 u] at hP2 hD2
  exact kk u H1 locs1 hP2 hD2 hS1
end MKD
