/-! worlds with a pool behind them: the rows of arrays of arrays lie there -/
section PLA
abbrev rq (ad : Nat → Nat) : Nat → Option Nat := fun i => some (ad i)
/-- n rows of m elements in the pool, at ad 0, ad 1 .., with the elements g r c -/
def Rw (cA : ClassId) (L : List Nat) (f : Nat → va_E) (n m : Nat) (ad : Nat → Nat) (g : Nat → Nat → Int32) : Prop :=
  ∀ r, r < n → ad r ∈ L ∧ ∃ h : Nat → Int32, f (ad r) = .inl (cA, m, .inl h) ∧ ∀ c, c < m → h c = g r c
def up2 (g : Nat → Nat → Int32) (r c : Nat) (x : Int32) : Nat → Nat → Int32 := fun r' c' => if r' = r ∧ c' = c then x else g r' c'
theorem up2_at (g : Nat → Nat → Int32) (r c : Nat) (x : Int32) : up2 g r c x r c = x := if_pos ⟨rfl, rfl⟩
theorem up2_ne {g : Nat → Nat → Int32} {r c r' c' : Nat} {x : Int32} (h : ¬ (r' = r ∧ c' = c)) : up2 g r c x r' c' = g r' c' := if_neg h
theorem Rw.keep {cA : ClassId} {L L1 : List Nat} {f f1 : Nat → va_E} {n m : Nat} {ad : Nat → Nat} {g : Nat → Nat → Int32} (h : Rw cA L f n m ad g) (hL : ∀ a, a ∈ L → a ∈ L1) (hf : ∀ r, r < n → f1 (ad r) = f (ad r)) : Rw cA L1 f1 n m ad g := fun r hr => by
  obtain ⟨h1, k, h2, h3⟩ := h r hr
  exact ⟨hL _ h1, k, by rw [hf r hr]; exact h2, h3⟩
theorem Rw.congr {cA : ClassId} {L : List Nat} {f : Nat → va_E} {n m : Nat} {ad : Nat → Nat} {g g' : Nat → Nat → Int32} (h : Rw cA L f n m ad g) (hg : ∀ r, r < n → ∀ c, c < m → g r c = g' r c) : Rw cA L f n m ad g' := fun r hr => by
  obtain ⟨h1, k, h2, h3⟩ := h r hr
  exact ⟨h1, k, h2, fun c hc => (h3 c hc).trans (hg r hr c hc)⟩
theorem Rw.mem {cA : ClassId} {L : List Nat} {f : Nat → va_E} {n m : Nat} {ad : Nat → Nat} {g : Nat → Nat → Int32} (h : Rw cA L f n m ad g) {r : Nat} (hr : r < n) : ad r ∈ L := (h r hr).1
def Inj (n : Nat) (ad : Nat → Nat) : Prop := ∀ r r', r < n → r' < n → ad r = ad r' → r = r'
def Apt (n k : Nat) (ad bd : Nat → Nat) : Prop := ∀ r r', r < n → r' < k → ad r ≠ bd r'
theorem Rw.set {cA : ClassId} {L : List Nat} {f f1 : Nat → va_E} {n m : Nat} {ad : Nat → Nat} {g : Nat → Nat → Int32} (h : Rw cA L f n m ad g) (hi : Inj n ad) {r c : Nat} {x : Int32} (hr : r < n)
    (h1 : ∃ k : Nat → Int32, f1 (ad r) = .inl (cA, m, .inl k) ∧ ∀ c', c' < m → k c' = if c' = c then x else g r c') (h2 : ∀ a, a ≠ ad r → f1 a = f a) : Rw cA L f1 n m ad (up2 g r c x) := fun r' hr' => by
  obtain ⟨a1, k, a2, a3⟩ := h r' hr'
  by_cases e : r' = r
  · subst e
    obtain ⟨k1, b1, b2⟩ := h1
    refine ⟨a1, k1, b1, fun c' hc' => ?_⟩
    rw [b2 c' hc']
    unfold up2
    by_cases ec : c' = c
    · rw [if_pos ec, if_pos ⟨rfl, ec⟩]
    · rw [if_neg ec, if_neg (fun q => ec q.2)]
  · refine ⟨a1, k, by rw [h2 _ (fun q => e (hi _ _ hr' hr q))]; exact a2, fun c' hc' => ?_⟩
    rw [a3 c' hc', up2_ne (fun q => e q.1)]
theorem Rw.other {cA : ClassId} {L : List Nat} {f f1 : Nat → va_E} {n m k : Nat} {ad bd : Nat → Nat} {g : Nat → Nat → Int32} (h : Rw cA L f n m ad g) (ha : Apt n k ad bd) {r : Nat} (hr : r < k) (h2 : ∀ a, a ≠ bd r → f1 a = f a) : Rw cA L f1 n m ad g :=
  h.keep (fun _ q => q) (fun r' hr' => h2 _ (ha r' r hr' hr))
/-- contracts with a post of their own -/
def g_Mi {S : Type} (l : Launch) (y : MethodName) (W0 : List Cond) (rm : Room) (D : va_G) (tys : List (ClassId × FieldType)) (av : List Value) (sz : Nat) (ws : va_W) (P : S → Int32 → Prop) (ws1 : S → va_W) (mc ms : Nat) : Prop :=
  Met l y W0 rm (f_Pc D tys av sz ws) (va_Qi (fun (x : Int32) (u : S) => P u x) (fun u t => va_P D vwCl (ws1 u) t.heap ∧ va_D (va_A ws sz) (ws1 u)) (va_A ws sz)) mc ms (va_A ws sz)
def g_Mv {S : Type} (l : Launch) (y : MethodName) (W0 : List Cond) (rm : Room) (D : va_G) (tys : List (ClassId × FieldType)) (av : List Value) (sz : Nat) (ws : va_W) (P : S → Prop) (ws1 : S → va_W) (mc ms : Nat) : Prop :=
  Met l y W0 rm (f_Pc D tys av sz ws) (va_Qv (fun (u : S) => P u) (fun u t => va_P D vwCl (ws1 u) t.heap ∧ va_D (va_A ws sz) (ws1 u)) (va_A ws sz)) mc ms (va_A ws sz)
def g_Mr {S : Type} (l : Launch) (y : MethodName) (W0 : List Cond) (rm : Room) (D : va_G) (tys : List (ClassId × FieldType)) (av : List Value) (sz : Nat) (ws : va_W) (P : S → Prop) (ra : S → Nat) (ws1 : S → va_W) (mc ms : Nat) : Prop :=
  Met l y W0 rm (f_Pc D tys av sz ws) (va_Qr (fun (u : S) => P u) (fun u a t => a = ra u ∧ va_P D vwCl (ws1 u) t.heap ∧ va_D (va_A ws sz) (ws1 u)) (va_A ws sz)) mc ms (va_A ws sz)
end PLA
section PLB
variable {S : Type} {l : Launch} {y : MethodName} {W0 ws' : List Cond} {rm : Room} {D : va_G} {tys : List (ClassId × FieldType)} {av : List Value} {sz : Nat} {ws : va_W} {ws1 : S → va_W} {cc : ByteArray} {maxL mc ms : Nat} {ret : Option FieldType}
theorem g_ent_i {P : S → Int32 → Prop}
    (hy : plainName y.cls = true) (hw : W0 = Cond.code y cc maxL ret :: ws') (hsl : (lg_sl av).length ≤ maxL)
    (body : ∀ (p : Program) (e : Env) (s : State) (m : MethodId) (below : List Frame) (meth : Method) (c : Code), p.tables.exec = Jvm.exec → c.code = cc → meth.sig.returnType = ret → (∀ w ∈ W0, w.before av.toArray s = true) → s.vm.findClass y.cls = some m.cls → meth.locks = false → c.maxLocals = maxL → meth.name = y.name → s.heap.size = sz →
      va_P D vwCl ws s.heap → va_K D vwCl tys s → fN s → ∀ A : Nat → Prop, va_D A ws → (∀ q, s.heap.size ≤ q → A q) → va_S A s.heap s.heap [] → ∀ ls : Array Slot, lv_has ls maxL (lv_args 0 av) →
      W p l e (headSpec W0 rm).room s m av.toArray below meth c s.heap [] 0 0 (MQ below (va_Qi (fun (x : Int32) (u : S) => P u x) (fun u t => va_P D vwCl (ws1 u) t.heap ∧ va_D A (ws1 u)) A) av.toArray s mc ms A) (F0 m 0 ls [])) :
    g_Mi l y W0 rm D tys av sz ws P ws1 mc ms := f_entry (fun A => va_Qi (fun (x : Int32) (u : S) => P u x) (fun u t => va_P D vwCl (ws1 u) t.heap ∧ va_D A (ws1 u)) A) hy hw hsl body
theorem g_ent_v {P : S → Prop}
    (hy : plainName y.cls = true) (hw : W0 = Cond.code y cc maxL ret :: ws') (hsl : (lg_sl av).length ≤ maxL)
    (body : ∀ (p : Program) (e : Env) (s : State) (m : MethodId) (below : List Frame) (meth : Method) (c : Code), p.tables.exec = Jvm.exec → c.code = cc → meth.sig.returnType = ret → (∀ w ∈ W0, w.before av.toArray s = true) → s.vm.findClass y.cls = some m.cls → meth.locks = false → c.maxLocals = maxL → meth.name = y.name → s.heap.size = sz →
      va_P D vwCl ws s.heap → va_K D vwCl tys s → fN s → ∀ A : Nat → Prop, va_D A ws → (∀ q, s.heap.size ≤ q → A q) → va_S A s.heap s.heap [] → ∀ ls : Array Slot, lv_has ls maxL (lv_args 0 av) →
      W p l e (headSpec W0 rm).room s m av.toArray below meth c s.heap [] 0 0 (MQ below (va_Qv (fun (u : S) => P u) (fun u t => va_P D vwCl (ws1 u) t.heap ∧ va_D A (ws1 u)) A) av.toArray s mc ms A) (F0 m 0 ls [])) :
    g_Mv l y W0 rm D tys av sz ws P ws1 mc ms := f_entry (fun A => va_Qv (fun (u : S) => P u) (fun u t => va_P D vwCl (ws1 u) t.heap ∧ va_D A (ws1 u)) A) hy hw hsl body
theorem g_ent_r {P : S → Prop} {ra : S → Nat}
    (hy : plainName y.cls = true) (hw : W0 = Cond.code y cc maxL ret :: ws') (hsl : (lg_sl av).length ≤ maxL)
    (body : ∀ (p : Program) (e : Env) (s : State) (m : MethodId) (below : List Frame) (meth : Method) (c : Code), p.tables.exec = Jvm.exec → c.code = cc → meth.sig.returnType = ret → (∀ w ∈ W0, w.before av.toArray s = true) → s.vm.findClass y.cls = some m.cls → meth.locks = false → c.maxLocals = maxL → meth.name = y.name → s.heap.size = sz →
      va_P D vwCl ws s.heap → va_K D vwCl tys s → fN s → ∀ A : Nat → Prop, va_D A ws → (∀ q, s.heap.size ≤ q → A q) → va_S A s.heap s.heap [] → ∀ ls : Array Slot, lv_has ls maxL (lv_args 0 av) →
      W p l e (headSpec W0 rm).room s m av.toArray below meth c s.heap [] 0 0 (MQ below (va_Qr (fun (u : S) => P u) (fun u a t => a = ra u ∧ va_P D vwCl (ws1 u) t.heap ∧ va_D A (ws1 u)) A) av.toArray s mc ms A) (F0 m 0 ls [])) :
    g_Mr l y W0 rm D tys av sz ws P ra ws1 mc ms := f_entry (fun A => va_Qr (fun (u : S) => P u) (fun u a t => a = ra u ∧ va_P D vwCl (ws1 u) t.heap ∧ va_D A (ws1 u)) A) hy hw hsl body
variable {p : Program} {e : Env} {R : Room} {s : State} {m : MethodId} {args : Array Value} {below : List Frame} {meth : Method} {c : Code} {H : Heap} {locs : List Loc} {cells slots : Nat} {pc : Nat} {ls : Array Slot} {A : Nat → Prop}
theorem g_ret_i {v : Int32} {P : S → Int32 → Prop} (u : S) (hx : p.tables.exec = Jvm.exec) (hb : c.code = cc) (hr : meth.sig.returnType = some .int) (hlocks : meth.locks = false) (hP : va_P D vwCl (ws1 u) H) (hD : va_D A (ws1 u)) (hS : va_S A s.heap H locs) (hdg : decode cc pc = .ok (.ireturn, 1)) (hv : P u v) :
    W p l e R s m args below meth c H locs cells slots (MQ below (va_Qi (fun (x : Int32) (u : S) => P u x) (fun u t => va_P D vwCl (ws1 u) t.heap ∧ va_D A (ws1 u)) A) args s cells slots A) (F0 m pc ls [.int v]) :=
  W.iret (v := v) hx hb hr (fun t ht _ => ⟨⟨v, u, rfl, hv, by rw [ht]; exact hP, hD⟩, hS.F ht⟩) hS.2.2 hdg hlocks
theorem g_ret_z {v : Int32} {P : S → Int32 → Prop} (u : S) (hx : p.tables.exec = Jvm.exec) (hb : c.code = cc) (hr : meth.sig.returnType = some .boolean) (hlocks : meth.locks = false) (hP : va_P D vwCl (ws1 u) H) (hD : va_D A (ws1 u)) (hS : va_S A s.heap H locs) (hdg : decode cc pc = .ok (.ireturn, 1)) (hv : P u v) (hn : narrow .boolean (.int v) = .int v) :
    W p l e R s m args below meth c H locs cells slots (MQ below (va_Qi (fun (x : Int32) (u : S) => P u x) (fun u t => va_P D vwCl (ws1 u) t.heap ∧ va_D A (ws1 u)) A) args s cells slots A) (F0 m pc ls [.int v]) :=
  W.zret (v := v) hx hb hr hn (fun t ht _ => ⟨⟨v, u, rfl, hv, by rw [ht]; exact hP, hD⟩, hS.F ht⟩) hS.2.2 hdg hlocks
theorem g_ret_v {P : S → Prop} (u : S) (hx : p.tables.exec = Jvm.exec) (hb : c.code = cc) (hr : meth.sig.returnType = none) (hlocks : meth.locks = false) (hP : va_P D vwCl (ws1 u) H) (hD : va_D A (ws1 u)) (hS : va_S A s.heap H locs) (hdg : decode cc pc = .ok (.return_, 1)) (hv : P u) :
    W p l e R s m args below meth c H locs cells slots (MQ below (va_Qv (fun (u : S) => P u) (fun u t => va_P D vwCl (ws1 u) t.heap ∧ va_D A (ws1 u)) A) args s cells slots A) (F0 m pc ls []) :=
  W.vret hx hb hr (fun t ht _ => ⟨⟨u, rfl, hv, by rw [ht]; exact hP, hD⟩, hS.F ht⟩) hS.2.2 hdg hlocks
theorem g_ret_r {v : Nat} {P : S → Prop} {ra : S → Nat} {rt : FieldType} (u : S) (hx : p.tables.exec = Jvm.exec) (hb : c.code = cc) (hr : meth.sig.returnType = some rt) (hrt : (∃ n, rt = .object n) ∨ ∃ t, rt = .array t) (hlocks : meth.locks = false) (hP : va_P D vwCl (ws1 u) H) (hD : va_D A (ws1 u)) (hS : va_S A s.heap H locs) (hdg : decode cc pc = .ok (.areturn, 1)) (he : v = ra u) (hv : P u) :
    W p l e R s m args below meth c H locs cells slots (MQ below (va_Qr (fun (u : S) => P u) (fun u a t => a = ra u ∧ va_P D vwCl (ws1 u) t.heap ∧ va_D A (ws1 u)) A) args s cells slots A) (F0 m pc ls [.ref v]) :=
  W.aret (v := .ref v) hx hb hr hrt (Or.inr ⟨v, rfl⟩) (fun t ht _ => ⟨⟨u, v, rfl, hv, he, by rw [ht]; exact hP, hD⟩, hS.F ht⟩) hS.2.2 hdg hlocks
end PLB
section PLC
variable {p : Program} {l : Launch} {e : Env} {R : Room} {s : State} {m : MethodId} {args : Array Value} {below : List Frame} {meth : Method} {c : Code} {H : Heap} {locs : List Loc} {cells slots : Nat} {Q : State → Prop}
variable {cc : ByteArray} {pc : Nat} {ls : Array Slot} {rest : List Value} {D : va_G} {A : Nat → Prop} {H0 : Heap} {X : va_W} {L : List Nat} {f : Nat → va_E} {cI cZ cP cQ : ClassId} {n mm : Nat} {ad : Nat → Nat} {g : Nat → Nat → Int32} {r k : Nat} {ws : va_W} {a : Nat}
/-- an element of an outer array -/
theorem g_aald {tys : List (ClassId × FieldType)} (hx : p.tables.exec = Jvm.exec) (hb : c.code = cc) (hK : va_K D vwCl tys s) (hP : va_P D vwCl ws H) (q0 t0 : Nat) {cA : ClassId} {t : FieldType} {n : Nat} {o : Nat → Option Nat} (ha : ws[q0]? = some (a, .inl (cA, n, .inr (.inr (.inr (.inr o)))))) (ht : tys[t0]? = some (cA, .array t)) {i : Int32} (hi : i = nI k) (hk : k < n) (hn : n < 2 ^ 31) {v : Nat} (hv : o k = some v) (hdg : decode cc pc = .ok (.aaload, 1))
    (kk : W p l e R s m args below meth c H locs cells slots Q (F0 m (pc + 1) ls (.ref v :: rest))) : W p l e R s m args below meth c H locs cells slots Q (F0 m pc ls (.int i :: .ref a :: rest)) := by
  subst hi
  have hin : vp_in (nI k) n := vp_in_nI hk hn
  have e1 : (nI k).toNatClampNeg = k := nI_clamp (Nat.lt_trans hk hn)
  have hlt : (nI k).toNatClampNeg < n := by rw [e1]; exact hk
  exact W.aald (v := .ref v) (ty := .array t) hx hb (hP q0 _ ha) ((hK.2 t0 _ ht).1 n (fun j => va_rf (o j))) rfl (fun q => by cases q) (by show ¬ (nI k < 0 ∨ (arrV _ _ _).slots.size ≤ _); rw [arrV_size]; exact hin) (by show (arrV _ _ _).slots[_]? = _; rw [arrV_read _ _ hlt, e1, hv]; rfl) rfl rfl hdg kk
/-- an element of a pooled row -/
theorem g_iald (hx : p.tables.exec = Jvm.exec) (hb : c.code = cc) (hK : va_K D vwCl (fTY cI cZ cP cQ) s) (hP : va_P D vwCl (X ++ va_pl L f) H) (hw : Rw cI L f n mm ad g) (hr : r < n) {i : Int32} (hi : i = nI k) (hk : k < mm) (hm : mm < 2 ^ 31) (hdg : decode cc pc = .ok (.iaload, 1))
    (kk : W p l e R s m args below meth c H locs cells slots Q (F0 m (pc + 1) ls (.int (g r k) :: rest))) : W p l e R s m args below meth c H locs cells slots Q (F0 m pc ls (.int i :: .ref (ad r) :: rest)) := by
  obtain ⟨h1, h, h2, h3⟩ := hw r hr
  obtain ⟨q, hq⟩ := va_pl_get (X := X) (f := f) h1
  rw [h2] at hq
  refine f_iald k hx hb hK hP q 0 hq rfl hi hk hm hdg ?_
  rw [h3 k hk]; exact kk
theorem g_zald (hx : p.tables.exec = Jvm.exec) (hb : c.code = cc) (hK : va_K D vwCl (fTY cI cZ cP cQ) s) (hP : va_P D vwCl (X ++ va_pl L f) H) (hw : Rw cZ L f n mm ad g) (hr : r < n) {i : Int32} (hi : i = nI k) (hk : k < mm) (hm : mm < 2 ^ 31) (hdg : decode cc pc = .ok (.baload, 1))
    (kk : W p l e R s m args below meth c H locs cells slots Q (F0 m (pc + 1) ls (.int (g r k) :: rest))) : W p l e R s m args below meth c H locs cells slots Q (F0 m pc ls (.int i :: .ref (ad r) :: rest)) := by
  obtain ⟨h1, h, h2, h3⟩ := hw r hr
  obtain ⟨q, hq⟩ := va_pl_get (X := X) (f := f) h1
  rw [h2] at hq
  refine f_zald k hx hb hK hP q 1 hq rfl hi hk hm hdg ?_
  rw [h3 k hk]; exact kk
theorem g_ilen (hx : p.tables.exec = Jvm.exec) (hb : c.code = cc) (hK : va_K D vwCl (fTY cI cZ cP cQ) s) (hP : va_P D vwCl (X ++ va_pl L f) H) (hw : Rw cI L f n mm ad g) (hr : r < n) (hdg : decode cc pc = .ok (.arraylength, 1))
    (kk : W p l e R s m args below meth c H locs cells slots Q (F0 m (pc + 1) ls (.int (nI mm) :: rest))) : W p l e R s m args below meth c H locs cells slots Q (F0 m pc ls (.ref (ad r) :: rest)) := by
  obtain ⟨h1, h, h2, h3⟩ := hw r hr
  obtain ⟨q, hq⟩ := va_pl_get (X := X) (f := f) h1
  rw [h2] at hq
  exact va_alen (v := nI mm) hx hb hK hP q 0 hq rfl rfl hdg kk
theorem g_zlen (hx : p.tables.exec = Jvm.exec) (hb : c.code = cc) (hK : va_K D vwCl (fTY cI cZ cP cQ) s) (hP : va_P D vwCl (X ++ va_pl L f) H) (hw : Rw cZ L f n mm ad g) (hr : r < n) (hdg : decode cc pc = .ok (.arraylength, 1))
    (kk : W p l e R s m args below meth c H locs cells slots Q (F0 m (pc + 1) ls (.int (nI mm) :: rest))) : W p l e R s m args below meth c H locs cells slots Q (F0 m pc ls (.ref (ad r) :: rest)) := by
  obtain ⟨h1, h, h2, h3⟩ := hw r hr
  obtain ⟨q, hq⟩ := va_pl_get (X := X) (f := f) h1
  rw [h2] at hq
  exact va_alen (v := nI mm) hx hb hK hP q 1 hq rfl rfl hdg kk
theorem g_iast (hx : p.tables.exec = Jvm.exec) (hb : c.code = cc) (hK : va_K D vwCl (fTY cI cZ cP cQ) s) (hP : va_P D vwCl (X ++ va_pl L f) H) (hD : va_D A (X ++ va_pl L f)) (hS : va_S A H0 H locs) (hw : Rw cI L f n mm ad g) (hi : Inj n ad) (hr : r < n) {i x : Int32} (he : i = nI k) (hk : k < mm) (hm : mm < 2 ^ 31) (hdg : decode cc pc = .ok (.iastore, 1))
    (kk : ∀ (f1 : Nat → va_E) (H1 : Heap) (locs1 : List Loc), (∀ b, b ≠ ad r → f1 b = f b) → Rw cI L f1 n mm ad (up2 g r k x) → va_P D vwCl (X ++ va_pl L f1) H1 → va_D A (X ++ va_pl L f1) → va_S A H0 H1 locs1 → W p l e R s m args below meth c H1 locs1 cells slots Q (F0 m (pc + 1) ls rest)) : W p l e R s m args below meth c H locs cells slots Q (F0 m pc ls (.int x :: .int i :: .ref (ad r) :: rest)) := by
  obtain ⟨h1, h, h2, h3⟩ := hw r hr
  obtain ⟨q, hq⟩ := va_pl_get (X := X) (f := f) h1
  have hq0 := hq
  rw [h2] at hq
  refine f_iast k hx hb hK hP hD hS q 0 hq rfl he hk hm hdg (fun H1 locs1 hP1 hD1 hS1 => ?_)
  rw [va_pl_set hD h1 hq0] at hP1 hD1
  have hne : ∀ b, b ≠ ad r → va_up f (ad r) (.inl (cI, mm, .inl (upd h k x))) b = f b := fun b hb => if_neg hb
  refine kk _ H1 locs1 hne (hw.set hi hr ⟨upd h k x, if_pos rfl, fun c' hc' => ?_⟩ hne) hP1 hD1 hS1
  by_cases ec : c' = k
  · rw [ec, pk_us, if_pos rfl]
  · rw [pk_un ec, if_neg ec, h3 c' hc']
theorem g_zast (hx : p.tables.exec = Jvm.exec) (hb : c.code = cc) (hK : va_K D vwCl (fTY cI cZ cP cQ) s) (hP : va_P D vwCl (X ++ va_pl L f) H) (hD : va_D A (X ++ va_pl L f)) (hS : va_S A H0 H locs) (hw : Rw cZ L f n mm ad g) (hi : Inj n ad) (hr : r < n) {i x : Int32} (hz : vp_nar .boolean x = x) (he : i = nI k) (hk : k < mm) (hm : mm < 2 ^ 31) (hdg : decode cc pc = .ok (.bastore, 1))
    (kk : ∀ (f1 : Nat → va_E) (H1 : Heap) (locs1 : List Loc), (∀ b, b ≠ ad r → f1 b = f b) → Rw cZ L f1 n mm ad (up2 g r k x) → va_P D vwCl (X ++ va_pl L f1) H1 → va_D A (X ++ va_pl L f1) → va_S A H0 H1 locs1 → W p l e R s m args below meth c H1 locs1 cells slots Q (F0 m (pc + 1) ls rest)) : W p l e R s m args below meth c H locs cells slots Q (F0 m pc ls (.int x :: .int i :: .ref (ad r) :: rest)) := by
  obtain ⟨h1, h, h2, h3⟩ := hw r hr
  obtain ⟨q, hq⟩ := va_pl_get (X := X) (f := f) h1
  have hq0 := hq
  rw [h2] at hq
  refine f_zast k hx hb hK hP hD hS q 1 hq rfl he hk hm hdg (fun H1 locs1 hP1 hD1 hS1 => ?_)
  rw [va_pl_set hD h1 hq0] at hP1 hD1
  rw [hz] at hP1 hD1
  have hne : ∀ b, b ≠ ad r → va_up f (ad r) (.inl (cZ, mm, .inl (upd h k x))) b = f b := fun b hb => if_neg hb
  refine kk _ H1 locs1 hne (hw.set hi hr ⟨upd h k x, if_pos rfl, fun c' hc' => ?_⟩ hne) hP1 hD1 hS1
  by_cases ec : c' = k
  · rw [ec, pk_us, if_pos rfl]
  · rw [pk_un ec, if_neg ec, h3 c' hc']
/-- a loop that makes cells -/
theorem g_loopW {σ : Type} (nL head : Nat) (lv : σ → List (Nat × Value)) (wsf : σ → va_W) (cf sf : σ → Nat) (inv : σ → Prop) (μ : σ → Nat)
    (step : ∀ u : σ, inv u → (∀ u' : σ, inv u' → μ u' < μ u → ∀ (H : Heap) (locs : List Loc), va_P D vwCl (wsf u') H → va_D A (wsf u') → va_S A H0 H locs → ∀ ls, lv_has ls nL (lv u') → W p l e R s m args below meth c H locs (cf u') (sf u') Q (F0 m head ls [])) →
      ∀ (H : Heap) (locs : List Loc), va_P D vwCl (wsf u) H → va_D A (wsf u) → va_S A H0 H locs → ∀ ls, lv_has ls nL (lv u) → W p l e R s m args below meth c H locs (cf u) (sf u) Q (F0 m head ls []))
    (u0 : σ) (hi : inv u0) {H : Heap} {locs : List Loc} (hP : va_P D vwCl (wsf u0) H) (hD : va_D A (wsf u0)) (hS : va_S A H0 H locs) {ls : Array Slot} (hl : lv_has ls nL (lv u0)) : W p l e R s m args below meth c H locs (cf u0) (sf u0) Q (F0 m head ls []) := by
  have key : ∀ (n : Nat) (u : σ), μ u < n → inv u → ∀ (H : Heap) (locs : List Loc), va_P D vwCl (wsf u) H → va_D A (wsf u) → va_S A H0 H locs → ∀ ls, lv_has ls nL (lv u) → W p l e R s m args below meth c H locs (cf u) (sf u) Q (F0 m head ls []) := by
    intro n
    induction n with
    | zero => intro u h; exact absurd h (Nat.not_lt_zero _)
    | succ n ih => intro u h hu H locs hP hD hS ls hl; exact step u hu (fun u' h1 h2 => ih u' (by omega) h1) H locs hP hD hS ls hl
  exact key (μ u0 + 1) u0 (Nat.lt_succ_self _) hi H locs hP hD hS ls hl
end PLC
/-! calls over a pool -/
section PLD
theorem g_sub {X cx pl : va_W} {is : List Nat} (hC : is.map (fun i => X[i]?) = cx.map some) : ∀ q, q ∈ cx ++ pl → q ∈ X ++ pl := fun q hq => by
  rcases List.mem_append.mp hq with h | h
  · obtain ⟨k, hk⟩ := List.getElem?_of_mem h
    obtain ⟨i, -, h2⟩ := f_at hC k q hk
    exact List.mem_append_left _ (List.mem_of_getElem? h2)
  · exact List.mem_append_right _ h
theorem g_free {A0 : Nat → Prop} {ws wc : va_W} {H0 H : Heap} {locs : List Loc} (hD : va_D A0 ws) (hS : va_S A0 H0 H locs) (hA : ∀ q, H0.size ≤ q → A0 q) (hsub : ∀ q, q ∈ wc → q ∈ ws) : ∀ q, va_A wc H.size q → A0 q := fun q hq => by
  rcases hq with ⟨k, e, h⟩ | h
  · obtain ⟨i, hi⟩ := List.getElem?_of_mem (hsub _ (List.mem_of_getElem? h))
    exact hD.2 i _ hi
  · exact hA q (Nat.le_trans hS.1 h)
theorem g_pre {D : va_G} {tys : List (ClassId × FieldType)} {av : List Value} {X cx pl : va_W} {H : Heap} {A : Nat → Prop} {s : State} {isC : List Nat} (hP : va_P D vwCl (X ++ pl) H) (hD : va_D A (X ++ pl)) (hK : va_K D vwCl tys s) (hN : fN s) (hC : isC.map (fun i => X[i]?) = cx.map some) (hn : va_nd isC = true) :
    ∀ U : State, U.heap = H → s.WarmedH U.vm → f_Pc D tys av H.size (cx ++ pl) av.toArray U := fun U hU hW =>
  ⟨rfl, by rw [hU], by rw [hU]; exact hP.part isC hC, va_K.moved hW.alike hK, (hD.part isC hn hC).weaken (fun _ _ _ _ => trivial), fN_warm hW hN⟩
/-- behind a call that leaves its world as it was -/
theorem g_ro {D : va_G} {A : Nat → Prop} {ws wc : va_W} {H H1 : Heap} (hP : va_P D vwCl ws H) (hD : va_D A ws) (hsub : ∀ q, q ∈ wc → q ∈ ws) (hk : ∀ q : Nat, q < H.size → ¬ va_A wc H.size q → H1[q]? = H[q]?) (hP1 : va_P D vwCl wc H1) : va_P D vwCl ws H1 := fun k q hq => by
  by_cases h : ∃ e, (q.1, e) ∈ wc
  · obtain ⟨e, he⟩ := h
    obtain ⟨i, hi⟩ := List.getElem?_of_mem (hsub _ he)
    have hik := hD.1 i k (q.1, e) q hi hq rfl
    subst hik
    rw [hi] at hq
    obtain ⟨j, hj⟩ := List.getElem?_of_mem he
    have := hP1 j _ hj
    rw [← Option.some.inj hq]
    exact this
  · have hl := (hP k q hq).lt
    refine (hP k q hq).kept (hk q.1 hl (fun z => ?_))
    rcases z with ⟨k2, e, h2⟩ | h2
    · exact h ⟨e, List.mem_of_getElem? h2⟩
    · exact absurd h2 (Nat.not_le.mpr hl)
theorem g_join {A0 : Nat → Prop} {D : va_G} {X cx wr rx pl pl1 X2 : va_W} {H H1 : Heap} (hP : va_P D vwCl (X ++ pl) H) (hD : va_D A0 (X ++ pl)) (isC isR isO : List Nat) (hC : isC.map (fun i => X[i]?) = cx.map some) (hR : isR.map (fun i => X[i]?) = wr.map some) (hn : va_nd isR = true) (hdis : ∀ i ∈ isR, i ∉ isC)
    (hk : ∀ q : Nat, q < H.size → ¬ va_A (cx ++ pl) H.size q → H1[q]? = H[q]?) (hF : ∀ q, va_A (cx ++ pl) H.size q → A0 q) (hP1 : va_P D vwCl (rx ++ pl1) H1) (hD1 : va_D (va_A (cx ++ pl) H.size) (rx ++ pl1)) (hO : isO.map (fun i => (wr ++ rx)[i]?) = X2.map some) (hnO : va_nd isO = true) : va_P D vwCl (X2 ++ pl1) H1 ∧ va_D A0 (X2 ++ pl1) := by
  obtain ⟨h1, h2⟩ := va_joinP hP hD isC isR hC hR hn hdis hk hF hP1 hD1
  exact ⟨h1.part isO hO, h2.part isO hnO hO⟩
end PLD
section PLE
variable {p : Program} {l : Launch} {e : Env} {R : Room} {s : State} {m : MethodId} {args : Array Value} {below : List Frame} {meth : Method} {c : Code} {H : Heap} {locs : List Loc} {cells slots : Nat} {Q : State → Prop}
variable {y : MethodName} {bytes cc : ByteArray} {maxL nL n index pc mc ms : Nat} {ret : Option FieldType} {W0 Ts : List Cond} {rm : Room} {own C host : String} {b : Addr} {As rest st0 : List Value} {ls : Array Slot} {D : va_G} {tys : List (ClassId × FieldType)} {X cx wr pl : va_W} {A : Nat → Prop} {H0 : Heap} {T : u_T} {N ci : Nat} {fs : List Value} {U : Type} {rx pl1 X2 : U → va_W}
theorem g_roVi {r : Int32} (S : CallFix p m c cc nL s args Ts own) (hP : va_P D vwCl (X ++ pl) H) (hD : va_D A (X ++ pl)) (hS : va_S A H0 H locs) (hA : ∀ q, H0.size ≤ q → A q) (hK : va_K D vwCl tys s) (hN : fN s) (isC : List Nat) (hM : f_Mi l y W0 rm D tys (.ref b :: As) H.size (cx ++ pl) r (cx ++ pl)) (cw : CallW R s args own C index y bytes maxL ret W0 rm 0 0 n) (k0 : Nat) (hc : vwCl[ci]? = some (C, T, N)) (he : (X ++ pl)[k0]? = some (b, .inr (ci, fs))) (hC : isC.map (fun i => X[i]?) = cx.map some) (hn : va_nd isC = true)
    (hst : st0 = As.reverse ++ .ref b :: rest) (hlen : As.length = n) (hls : ls.size = nL) (hroom : (rest.map fun v => v.category).sum ≤ 8) (hdg : decode cc pc = .ok (.invokevirtual index, 3)) (hR : cells ≤ R.cells ∧ slots ≤ R.slots)
    (kk : ∀ (H1 : Heap) (locs1 : List Loc), va_P D vwCl (X ++ pl) H1 → va_S A H0 H1 locs1 → W p l e R s m args below meth c H1 locs1 cells slots Q (F0 m (pc + 3) ls (.int r :: rest))) : W p l e R s m args below meth c H locs cells slots Q (F0 m pc ls st0) := by
  have hF := g_free hD hS hA (g_sub (pl := pl) hC)
  refine va_calli (va_runV S hM cw ⟨f_blind, va_recv hK hP hc he, g_pre hP hD hK hN hC hn⟩ rfl hlen hls hst (lv_room hroom) hdg hR) hS (fun q _ h => hF q h) hF (fun r1 u t H1 locs1 ht hvm hw hB hz1 hk1 hS1 => ?_)
  cases hw
  obtain ⟨hP1, hD1⟩ := hB
  rw [ht] at hP1
  exact kk H1 locs1 (g_ro hP hD (g_sub hC) hk1 hP1) hS1
theorem g_roSi {r : Int32} (S : CallFix p m c cc nL s args Ts own) (hP : va_P D vwCl (X ++ pl) H) (hD : va_D A (X ++ pl)) (hS : va_S A H0 H locs) (hA : ∀ q, H0.size ≤ q → A q) (hK : va_K D vwCl tys s) (hN : fN s) (isC : List Nat) (hM : f_Mi l y W0 rm D tys As H.size (cx ++ pl) r (cx ++ pl)) (cw : CallB R s args own index y bytes maxL ret W0 rm 0 0 n ∧ (Cond.static y).before args s = true) (hC : isC.map (fun i => X[i]?) = cx.map some) (hn : va_nd isC = true)
    (hst : st0 = As.reverse ++ rest) (hlen : As.length = n) (hls : ls.size = nL) (hroom : (rest.map fun v => v.category).sum ≤ 8) (hdg : decode cc pc = .ok (.invokestatic index, 3)) (hR : cells ≤ R.cells ∧ slots ≤ R.slots)
    (kk : ∀ (H1 : Heap) (locs1 : List Loc), va_P D vwCl (X ++ pl) H1 → va_S A H0 H1 locs1 → W p l e R s m args below meth c H1 locs1 cells slots Q (F0 m (pc + 3) ls (.int r :: rest))) : W p l e R s m args below meth c H locs cells slots Q (F0 m pc ls st0) := by
  have hF := g_free hD hS hA (g_sub (pl := pl) hC)
  refine va_calli (va_runS S hM cw ⟨f_blind, g_pre hP hD hK hN hC hn⟩ rfl hlen hls hst (lv_room hroom) hdg hR) hS (fun q _ h => hF q h) hF (fun r1 u t H1 locs1 ht hvm hw hB hz1 hk1 hS1 => ?_)
  cases hw
  obtain ⟨hP1, hD1⟩ := hB
  rw [ht] at hP1
  exact kk H1 locs1 (g_ro hP hD (g_sub hC) hk1 hP1) hS1
theorem g_callVi {P : U → Int32 → Prop} (S : CallFix p m c cc nL s args Ts own) (hP : va_P D vwCl (X ++ pl) H) (hD : va_D A (X ++ pl)) (hS : va_S A H0 H locs) (hA : ∀ q, H0.size ≤ q → A q) (hK : va_K D vwCl tys s) (hN : fN s) (isC isR : List Nat) (isO : List Nat) (hM : g_Mi l y W0 rm D tys (.ref b :: As) H.size (cx ++ pl) P (fun u => rx u ++ pl1 u) mc ms) (cw : CallW R s args own C index y bytes maxL ret W0 rm mc ms n) (k0 : Nat) (hc : vwCl[ci]? = some (C, T, N)) (he : (X ++ pl)[k0]? = some (b, .inr (ci, fs))) (hC : isC.map (fun i => X[i]?) = cx.map some) (hn : va_nd isC = true) (hR : isR.map (fun i => X[i]?) = wr.map some) (hnR : va_nd isR = true) (hdis : ∀ i ∈ isR, i ∉ isC) (hO : ∀ u, isO.map (fun i => (wr ++ rx u)[i]?) = (X2 u).map some) (hnO : va_nd isO = true)
    (hst : st0 = As.reverse ++ .ref b :: rest) (hlen : As.length = n) (hls : ls.size = nL) (hroom : (rest.map fun v => v.category).sum ≤ 8) (hdg : decode cc pc = .ok (.invokevirtual index, 3)) (hRm : cells + mc ≤ R.cells ∧ slots + ms ≤ R.slots)
    (kk : ∀ (u : U) (x : Int32) (H1 : Heap) (locs1 : List Loc), P u x → va_P D vwCl (X2 u ++ pl1 u) H1 → va_D A (X2 u ++ pl1 u) → va_S A H0 H1 locs1 → W p l e R s m args below meth c H1 locs1 (cells + mc) (slots + ms) Q (F0 m (pc + 3) ls (.int x :: rest))) : W p l e R s m args below meth c H locs cells slots Q (F0 m pc ls st0) := by
  have hF := g_free hD hS hA (g_sub (pl := pl) hC)
  refine va_calli (va_runV S hM cw ⟨f_blind, va_recv hK hP hc he, g_pre hP hD hK hN hC hn⟩ rfl hlen hls hst (lv_room hroom) hdg hRm) hS (fun q _ h => hF q h) hF (fun x u t H1 locs1 ht hvm hw hB hz1 hk1 hS1 => ?_)
  obtain ⟨hP1, hD1⟩ := hB
  rw [ht] at hP1
  obtain ⟨hP2, hD2⟩ := g_join hP hD isC isR isO hC hR hnR hdis hk1 hF hP1 hD1 (hO u) hnO
  exact kk u x H1 locs1 hw hP2 hD2 hS1
theorem g_callSi {P : U → Int32 → Prop} (S : CallFix p m c cc nL s args Ts own) (hP : va_P D vwCl (X ++ pl) H) (hD : va_D A (X ++ pl)) (hS : va_S A H0 H locs) (hA : ∀ q, H0.size ≤ q → A q) (hK : va_K D vwCl tys s) (hN : fN s) (isC isR : List Nat) (isO : List Nat) (hM : g_Mi l y W0 rm D tys As H.size (cx ++ pl) P (fun u => rx u ++ pl1 u) mc ms) (cw : CallB R s args own index y bytes maxL ret W0 rm mc ms n ∧ (Cond.static y).before args s = true) (hC : isC.map (fun i => X[i]?) = cx.map some) (hn : va_nd isC = true) (hR : isR.map (fun i => X[i]?) = wr.map some) (hnR : va_nd isR = true) (hdis : ∀ i ∈ isR, i ∉ isC) (hO : ∀ u, isO.map (fun i => (wr ++ rx u)[i]?) = (X2 u).map some) (hnO : va_nd isO = true)
    (hst : st0 = As.reverse ++ rest) (hlen : As.length = n) (hls : ls.size = nL) (hroom : (rest.map fun v => v.category).sum ≤ 8) (hdg : decode cc pc = .ok (.invokestatic index, 3)) (hRm : cells + mc ≤ R.cells ∧ slots + ms ≤ R.slots)
    (kk : ∀ (u : U) (x : Int32) (H1 : Heap) (locs1 : List Loc), P u x → va_P D vwCl (X2 u ++ pl1 u) H1 → va_D A (X2 u ++ pl1 u) → va_S A H0 H1 locs1 → W p l e R s m args below meth c H1 locs1 (cells + mc) (slots + ms) Q (F0 m (pc + 3) ls (.int x :: rest))) : W p l e R s m args below meth c H locs cells slots Q (F0 m pc ls st0) := by
  have hF := g_free hD hS hA (g_sub (pl := pl) hC)
  refine va_calli (va_runS S hM cw ⟨f_blind, g_pre hP hD hK hN hC hn⟩ rfl hlen hls hst (lv_room hroom) hdg hRm) hS (fun q _ h => hF q h) hF (fun x u t H1 locs1 ht hvm hw hB hz1 hk1 hS1 => ?_)
  obtain ⟨hP1, hD1⟩ := hB
  rw [ht] at hP1
  obtain ⟨hP2, hD2⟩ := g_join hP hD isC isR isO hC hR hnR hdis hk1 hF hP1 hD1 (hO u) hnO
  exact kk u x H1 locs1 hw hP2 hD2 hS1
theorem g_callVv {P : U → Prop} (S : CallFix p m c cc nL s args Ts own) (hP : va_P D vwCl (X ++ pl) H) (hD : va_D A (X ++ pl)) (hS : va_S A H0 H locs) (hA : ∀ q, H0.size ≤ q → A q) (hK : va_K D vwCl tys s) (hN : fN s) (isC isR : List Nat) (isO : List Nat) (hM : g_Mv l y W0 rm D tys (.ref b :: As) H.size (cx ++ pl) P (fun u => rx u ++ pl1 u) mc ms) (cw : CallW R s args own C index y bytes maxL ret W0 rm mc ms n) (k0 : Nat) (hc : vwCl[ci]? = some (C, T, N)) (he : (X ++ pl)[k0]? = some (b, .inr (ci, fs))) (hC : isC.map (fun i => X[i]?) = cx.map some) (hn : va_nd isC = true) (hR : isR.map (fun i => X[i]?) = wr.map some) (hnR : va_nd isR = true) (hdis : ∀ i ∈ isR, i ∉ isC) (hO : ∀ u, isO.map (fun i => (wr ++ rx u)[i]?) = (X2 u).map some) (hnO : va_nd isO = true)
    (hst : st0 = As.reverse ++ .ref b :: rest) (hlen : As.length = n) (hls : ls.size = nL) (hroom : (rest.map fun v => v.category).sum ≤ 8) (hdg : decode cc pc = .ok (.invokevirtual index, 3)) (hRm : cells + mc ≤ R.cells ∧ slots + ms ≤ R.slots)
    (kk : ∀ (u : U) (H1 : Heap) (locs1 : List Loc), P u → va_P D vwCl (X2 u ++ pl1 u) H1 → va_D A (X2 u ++ pl1 u) → va_S A H0 H1 locs1 → W p l e R s m args below meth c H1 locs1 (cells + mc) (slots + ms) Q (F0 m (pc + 3) ls (rest))) : W p l e R s m args below meth c H locs cells slots Q (F0 m pc ls st0) := by
  have hF := g_free hD hS hA (g_sub (pl := pl) hC)
  refine va_callv (va_runV S hM cw ⟨f_blind, va_recv hK hP hc he, g_pre hP hD hK hN hC hn⟩ rfl hlen hls hst (lv_room hroom) hdg hRm) hS (fun q _ h => hF q h) hF (fun u t H1 locs1 ht hvm hw hB hz1 hk1 hS1 => ?_)
  obtain ⟨hP1, hD1⟩ := hB
  rw [ht] at hP1
  obtain ⟨hP2, hD2⟩ := g_join hP hD isC isR isO hC hR hnR hdis hk1 hF hP1 hD1 (hO u) hnO
  exact kk u H1 locs1 hw hP2 hD2 hS1
theorem g_callCv {P : U → Prop} (S : CallFix p m c cc nL s args Ts own) (hP : va_P D vwCl (X ++ pl) H) (hD : va_D A (X ++ pl)) (hS : va_S A H0 H locs) (hA : ∀ q, H0.size ≤ q → A q) (hK : va_K D vwCl tys s) (hN : fN s) (isC isR : List Nat) (isO : List Nat) (hM : g_Mv l y W0 rm D tys (.ref b :: As) H.size (cx ++ pl) P (fun u => rx u ++ pl1 u) mc ms) (cw : CallB R s args own index y bytes maxL none W0 rm mc ms n ∧ y.name = "<init>" ∧ (Cond.instanceMethod y).before args s = true) (hC : isC.map (fun i => X[i]?) = cx.map some) (hn : va_nd isC = true) (hR : isR.map (fun i => X[i]?) = wr.map some) (hnR : va_nd isR = true) (hdis : ∀ i ∈ isR, i ∉ isC) (hO : ∀ u, isO.map (fun i => (wr ++ rx u)[i]?) = (X2 u).map some) (hnO : va_nd isO = true)
    (hst : st0 = As.reverse ++ .ref b :: rest) (hlen : As.length = n) (hls : ls.size = nL) (hroom : (rest.map fun v => v.category).sum ≤ 8) (hdg : decode cc pc = .ok (.invokespecial index, 3)) (hRm : cells + mc ≤ R.cells ∧ slots + ms ≤ R.slots)
    (kk : ∀ (u : U) (H1 : Heap) (locs1 : List Loc), P u → va_P D vwCl (X2 u ++ pl1 u) H1 → va_D A (X2 u ++ pl1 u) → va_S A H0 H1 locs1 → W p l e R s m args below meth c H1 locs1 (cells + mc) (slots + ms) Q (F0 m (pc + 3) ls (rest))) : W p l e R s m args below meth c H locs cells slots Q (F0 m pc ls st0) := by
  have hF := g_free hD hS hA (g_sub (pl := pl) hC)
  refine va_callv (va_runI S hM cw ⟨f_blind, g_pre hP hD hK hN hC hn⟩ rfl hlen hls hst (lv_room hroom) hdg hRm) hS (fun q _ h => hF q h) hF (fun u t H1 locs1 ht hvm hw hB hz1 hk1 hS1 => ?_)
  obtain ⟨hP1, hD1⟩ := hB
  rw [ht] at hP1
  obtain ⟨hP2, hD2⟩ := g_join hP hD isC isR isO hC hR hnR hdis hk1 hF hP1 hD1 (hO u) hnO
  exact kk u H1 locs1 hw hP2 hD2 hS1
theorem g_callNv {P : U → Prop} (S : CallFix p m c cc nL s args Ts own) (hP : va_P D vwCl (X ++ pl) H) (hD : va_D A (X ++ pl)) (hS : va_S A H0 H locs) (hA : ∀ q, H0.size ≤ q → A q) (hK : va_K D vwCl tys s) (hN : fN s) (isC isR : List Nat) (isO : List Nat) (hM : g_Mv l y W0 rm D tys (.ref b :: As) H.size (cx ++ pl) P (fun u => rx u ++ pl1 u) mc ms) (cw : va_CN R s args own index y host bytes maxL none W0 rm mc ms n ∧ y.name = "<init>" ∧ (Cond.instanceMethod y).before args s = true) (hC : isC.map (fun i => X[i]?) = cx.map some) (hn : va_nd isC = true) (hR : isR.map (fun i => X[i]?) = wr.map some) (hnR : va_nd isR = true) (hdis : ∀ i ∈ isR, i ∉ isC) (hO : ∀ u, isO.map (fun i => (wr ++ rx u)[i]?) = (X2 u).map some) (hnO : va_nd isO = true)
    (hst : st0 = As.reverse ++ .ref b :: rest) (hlen : As.length = n) (hls : ls.size = nL) (hroom : (rest.map fun v => v.category).sum ≤ 8) (hdg : decode cc pc = .ok (.invokespecial index, 3)) (hRm : cells + mc ≤ R.cells ∧ slots + ms ≤ R.slots)
    (kk : ∀ (u : U) (H1 : Heap) (locs1 : List Loc), P u → va_P D vwCl (X2 u ++ pl1 u) H1 → va_D A (X2 u ++ pl1 u) → va_S A H0 H1 locs1 → W p l e R s m args below meth c H1 locs1 (cells + mc) (slots + ms) Q (F0 m (pc + 3) ls (rest))) : W p l e R s m args below meth c H locs cells slots Q (F0 m pc ls st0) := by
  have hF := g_free hD hS hA (g_sub (pl := pl) hC)
  refine va_callv (va_runIN S hM cw ⟨f_blind, g_pre hP hD hK hN hC hn⟩ rfl hlen hls hst (lv_room hroom) hdg hRm) hS (fun q _ h => hF q h) hF (fun u t H1 locs1 ht hvm hw hB hz1 hk1 hS1 => ?_)
  obtain ⟨hP1, hD1⟩ := hB
  rw [ht] at hP1
  obtain ⟨hP2, hD2⟩ := g_join hP hD isC isR isO hC hR hnR hdis hk1 hF hP1 hD1 (hO u) hnO
  exact kk u H1 locs1 hw hP2 hD2 hS1
theorem g_callVr {P : U → Prop} {ra : U → Nat} (S : CallFix p m c cc nL s args Ts own) (hP : va_P D vwCl (X ++ pl) H) (hD : va_D A (X ++ pl)) (hS : va_S A H0 H locs) (hA : ∀ q, H0.size ≤ q → A q) (hK : va_K D vwCl tys s) (hN : fN s) (isC isR : List Nat) (isO : List Nat) (hM : g_Mr l y W0 rm D tys (.ref b :: As) H.size (cx ++ pl) P ra (fun u => rx u ++ pl1 u) mc ms) (cw : CallW R s args own C index y bytes maxL ret W0 rm mc ms n) (k0 : Nat) (hc : vwCl[ci]? = some (C, T, N)) (he : (X ++ pl)[k0]? = some (b, .inr (ci, fs))) (hC : isC.map (fun i => X[i]?) = cx.map some) (hn : va_nd isC = true) (hR : isR.map (fun i => X[i]?) = wr.map some) (hnR : va_nd isR = true) (hdis : ∀ i ∈ isR, i ∉ isC) (hO : ∀ u, isO.map (fun i => (wr ++ rx u)[i]?) = (X2 u).map some) (hnO : va_nd isO = true)
    (hst : st0 = As.reverse ++ .ref b :: rest) (hlen : As.length = n) (hls : ls.size = nL) (hroom : (rest.map fun v => v.category).sum ≤ 8) (hdg : decode cc pc = .ok (.invokevirtual index, 3)) (hRm : cells + mc ≤ R.cells ∧ slots + ms ≤ R.slots)
    (kk : ∀ (u : U) (H1 : Heap) (locs1 : List Loc), P u → va_P D vwCl (X2 u ++ pl1 u) H1 → va_D A (X2 u ++ pl1 u) → va_S A H0 H1 locs1 → W p l e R s m args below meth c H1 locs1 (cells + mc) (slots + ms) Q (F0 m (pc + 3) ls (.ref (ra u) :: rest))) : W p l e R s m args below meth c H locs cells slots Q (F0 m pc ls st0) := by
  have hF := g_free hD hS hA (g_sub (pl := pl) hC)
  refine va_callr (va_runV S hM cw ⟨f_blind, va_recv hK hP hc he, g_pre hP hD hK hN hC hn⟩ rfl hlen hls hst (lv_room hroom) hdg hRm) hS (fun q _ h => hF q h) hF (fun u a9 t H1 locs1 ht hvm hw hB hz1 hk1 hS1 => ?_)
  obtain ⟨rfl, hP1, hD1⟩ := hB
  rw [ht] at hP1
  obtain ⟨hP2, hD2⟩ := g_join hP hD isC isR isO hC hR hnR hdis hk1 hF hP1 hD1 (hO u) hnO
  exact kk u H1 locs1 hw hP2 hD2 hS1
theorem g_callSr {P : U → Prop} {ra : U → Nat} (S : CallFix p m c cc nL s args Ts own) (hP : va_P D vwCl (X ++ pl) H) (hD : va_D A (X ++ pl)) (hS : va_S A H0 H locs) (hA : ∀ q, H0.size ≤ q → A q) (hK : va_K D vwCl tys s) (hN : fN s) (isC isR : List Nat) (isO : List Nat) (hM : g_Mr l y W0 rm D tys As H.size (cx ++ pl) P ra (fun u => rx u ++ pl1 u) mc ms) (cw : CallB R s args own index y bytes maxL ret W0 rm mc ms n ∧ (Cond.static y).before args s = true) (hC : isC.map (fun i => X[i]?) = cx.map some) (hn : va_nd isC = true) (hR : isR.map (fun i => X[i]?) = wr.map some) (hnR : va_nd isR = true) (hdis : ∀ i ∈ isR, i ∉ isC) (hO : ∀ u, isO.map (fun i => (wr ++ rx u)[i]?) = (X2 u).map some) (hnO : va_nd isO = true)
    (hst : st0 = As.reverse ++ rest) (hlen : As.length = n) (hls : ls.size = nL) (hroom : (rest.map fun v => v.category).sum ≤ 8) (hdg : decode cc pc = .ok (.invokestatic index, 3)) (hRm : cells + mc ≤ R.cells ∧ slots + ms ≤ R.slots)
    (kk : ∀ (u : U) (H1 : Heap) (locs1 : List Loc), P u → va_P D vwCl (X2 u ++ pl1 u) H1 → va_D A (X2 u ++ pl1 u) → va_S A H0 H1 locs1 → W p l e R s m args below meth c H1 locs1 (cells + mc) (slots + ms) Q (F0 m (pc + 3) ls (.ref (ra u) :: rest))) : W p l e R s m args below meth c H locs cells slots Q (F0 m pc ls st0) := by
  have hF := g_free hD hS hA (g_sub (pl := pl) hC)
  refine va_callr (va_runS S hM cw ⟨f_blind, g_pre hP hD hK hN hC hn⟩ rfl hlen hls hst (lv_room hroom) hdg hRm) hS (fun q _ h => hF q h) hF (fun u a9 t H1 locs1 ht hvm hw hB hz1 hk1 hS1 => ?_)
  obtain ⟨rfl, hP1, hD1⟩ := hB
  rw [ht] at hP1
  obtain ⟨hP2, hD2⟩ := g_join hP hD isC isR isO hC hR hnR hdis hk1 hF hP1 hD1 (hO u) hnO
  exact kk u H1 locs1 hw hP2 hD2 hS1
end PLE
/-! making arrays of arrays, storing rows, copying rows -/
section PLF
variable {p : Program} {l : Launch} {e : Env} {R : Room} {s : State} {m : MethodId} {args : Array Value} {below : List Frame} {meth : Method} {c : Code} {H : Heap} {locs : List Loc} {cells slots : Nat} {Q : State → Prop}
variable {cc : ByteArray} {pc : Nat} {ls : Array Slot} {rest : List Value} {D : va_G} {A : Nat → Prop} {H0 : Heap} {X : va_W} {L : List Nat} {f : Nat → va_E} {cI cZ cP cQ : ClassId} {n mm : Nat} {ad : Nat → Nat} {g : Nat → Nat → Int32} {r k : Nat} {ws : va_W} {a : Nat}
theorem f_cl {own t1 t2 : String} {i : Nat} {As : Array Value} {U : State} (h : (Cond.classLink own i t2).before As U = true) (h2 : t1 = t2) : (Cond.classLink own i t1).before As U = true := by rw [h2]; exact h
theorem f_arrq {cA : ClassId} {n : Nat} {o o' : Nat → Option Nat} (h : ∀ j, j < n → o j = o' j) : vp_cell cA (n, .inr (.inr (.inr (.inr o)))) = vp_cell cA (n, .inr (.inr (.inr (.inr o')))) := by
  rw [vp_cell_q, vp_cell_q]
  unfold arrV
  congr 1
  apply Array.ext
  · simp
  · intro i h1 h2
    simp at h1
    simp [h i h1]
/-- what an outer array holds, told otherwise -/
theorem f_repq {cA : ClassId} {n : Nat} {o : Nat → Option Nat} (o' : Nat → Option Nat) (hP : va_P D vwCl ws H) (hD : va_D A ws) (q0 : Nat) (ha : ws[q0]? = some (a, .inl (cA, n, .inr (.inr (.inr (.inr o)))))) (h : ∀ j, j < n → o j = o' j) :
    va_P D vwCl (ws.set q0 (a, .inl (cA, n, .inr (.inr (.inr (.inr o')))))) H ∧ va_D A (ws.set q0 (a, .inl (cA, n, .inr (.inr (.inr (.inr o')))))) := by
  refine ⟨hP.set hD ha ?_ (fun _ _ => rfl), hD.set ha⟩
  have h1 := hP q0 _ ha
  show H[a]? = some (vp_cell cA (n, .inr (.inr (.inr (.inr o')))))
  rw [← f_arrq h]; exact h1
theorem g_last {W pl : va_W} {q : Nat} {e1 e2 : va_E} : ((W ++ [(q, e1)]) ++ pl).set W.length (q, e2) = (W ++ [(q, e2)]) ++ pl := by
  rw [List.append_assoc, List.append_assoc, List.set_append_right _ _ (Nat.le_refl _), Nat.sub_self]
  rfl
theorem g_lastget {W pl : va_W} {q : Nat} {e1 : va_E} : ((W ++ [(q, e1)]) ++ pl)[W.length]? = some (q, e1) := by
  rw [List.append_assoc, List.getElem?_append_right (Nat.le_refl _), Nat.sub_self]
  rfl
/-- new boolean[n][m] -/
theorem g_mnaZ (hx : p.tables.exec = Jvm.exec) (hb : c.code = cc) {own : String} {index : Nat} (hown : s.vm.findClass own = some m.cls) (hclink : (Cond.classLink own index "[[Z").before args s = true) (hN9 : fN s) (harr : (Cond.arrayClass .boolean).before args s = true)
    (hK : va_K D vwCl (fTY cI cZ cP cQ) s) (hP : va_P D vwCl (X ++ va_pl L f) H) (hD : va_D A (X ++ va_pl L f)) (hS : va_S A H0 H locs) (hA : ∀ q, H0.size ≤ q → A q) {i j : Int32} {N' K' : Nat} (hi : i = nI N') (hj : j = nI K') (hN : N' ≤ 1000) (hM : K' ≤ 1000) (hcells : cells + (1 + N') ≤ R.cells) (hslots : slots + (N' + N' * K') ≤ R.slots) (hdg : decode cc pc = .ok (.multianewarray index 2, 4))
    (kk : ∀ (q : Nat) (rr : Nat → Nat) (L1 : List Nat) (f1 : Nat → va_E) (H1 : Heap), Inj N' rr → (∀ r, r < N' → rr r ∉ L) → (∀ b, b ∈ L → b ∈ L1) → (∀ b, b ∈ L → f1 b = f b) → Rw cZ L1 f1 N' K' rr (fun _ _ => 0) →
      va_P D vwCl ((X ++ [(q, .inl (cQ, N', .inr (.inr (.inr (.inr (rq rr))))))]) ++ va_pl L1 f1) H1 → va_D A ((X ++ [(q, .inl (cQ, N', .inr (.inr (.inr (.inr (rq rr))))))]) ++ va_pl L1 f1) → va_S A H0 H1 locs →
      W p l e R s m args below meth c H1 locs (cells + 1 + N') (slots + N' + N' * K') Q (F0 m (pc + 4) ls (.ref q :: rest))) : W p l e R s m args below meth c H locs cells slots Q (F0 m pc ls (.int j :: .int i :: rest)) := by
  subst hi hj
  have e1 : (nI N').toNatClampNeg = N' := nI_clamp (by omega)
  have e2 : (nI K').toNatClampNeg = K' := nI_clamp (by omega)
  have hcb : componentBytes .boolean ≤ 8 := by decide
  have hmul : K' * componentBytes .boolean ≤ 1000 * 8 := Nat.mul_le_mul hM hcb
  refine va_mna (ty := .boolean) (cy := cZ) (z := (K', .inl fun _ => 0)) hx hb hown (f_cl hclink (by decide)) hN9.2.2.2.2.2.2.2.2.2.1 harr (hK.2 1 (cZ, .boolean) rfl).2 hK hP hD hS hA (nI_pos (by omega)) (nI_pos (by omega)) e1 e2 (by omega) (by omega) (by omega) (by decide) (by decide) hcells hslots (fun cc9 => ?_) hdg (fun q rr cA H1 hi1 hi2 hK1 hP1 hD1 hS1 => ?_)
  · show ({ cls := cc9, slots := Array.replicate K' (.int 0), vm := .none } : Cell) = _
    rw [vp_cell_i, arrV_new]
  · have h1 := (hK1.2 4 (cA, .array .boolean) rfl).2
    have h2 := (hK.2 3 (cQ, .array .boolean) rfl).2
    have e : cQ = cA := Option.some.inj (h2.symm.trans h1)
    subst e
    obtain ⟨hP2, hD2⟩ := f_repq (o' := rq rr) hP1 hD1 X.length g_lastget (fun j hj => by rw [if_pos hj])
    rw [g_last] at hP2 hD2
    refine kk q rr _ _ H1 hi1 hi2 (fun b hb => List.mem_append_left _ hb) (fun b hb => vr_up_ne (fun z => ?_)) (fun r hr => ?_) hP2 hD2 hS1
    · obtain ⟨i, h3, rfl⟩ := List.mem_map.mp z
      exact hi2 i (List.mem_range.mp h3) hb
    · have hm : rr r ∈ (List.range N').map rr := List.mem_map.mpr ⟨r, List.mem_range.mpr hr, rfl⟩
      exact ⟨List.mem_append_right _ hm, fun _ => 0, vr_up_in hm, fun _ _ => rfl⟩
/-- new int[n][m] -/
theorem g_mnaI (hx : p.tables.exec = Jvm.exec) (hb : c.code = cc) {own : String} {index : Nat} (hown : s.vm.findClass own = some m.cls) (hclink : (Cond.classLink own index "[[I").before args s = true) (hN9 : fN s) (harr : (Cond.arrayClass .int).before args s = true)
    (hK : va_K D vwCl (fTY cI cZ cP cQ) s) (hP : va_P D vwCl (X ++ va_pl L f) H) (hD : va_D A (X ++ va_pl L f)) (hS : va_S A H0 H locs) (hA : ∀ q, H0.size ≤ q → A q) {i j : Int32} {N' K' : Nat} (hi : i = nI N') (hj : j = nI K') (hN : N' ≤ 1000) (hM : K' ≤ 1000) (hcells : cells + (1 + N') ≤ R.cells) (hslots : slots + (N' + N' * K') ≤ R.slots) (hdg : decode cc pc = .ok (.multianewarray index 2, 4))
    (kk : ∀ (q : Nat) (rr : Nat → Nat) (L1 : List Nat) (f1 : Nat → va_E) (H1 : Heap), Inj N' rr → (∀ r, r < N' → rr r ∉ L) → (∀ b, b ∈ L → b ∈ L1) → (∀ b, b ∈ L → f1 b = f b) → Rw cI L1 f1 N' K' rr (fun _ _ => 0) →
      va_P D vwCl ((X ++ [(q, .inl (cP, N', .inr (.inr (.inr (.inr (rq rr))))))]) ++ va_pl L1 f1) H1 → va_D A ((X ++ [(q, .inl (cP, N', .inr (.inr (.inr (.inr (rq rr))))))]) ++ va_pl L1 f1) → va_S A H0 H1 locs →
      W p l e R s m args below meth c H1 locs (cells + 1 + N') (slots + N' + N' * K') Q (F0 m (pc + 4) ls (.ref q :: rest))) : W p l e R s m args below meth c H locs cells slots Q (F0 m pc ls (.int j :: .int i :: rest)) := by
  subst hi hj
  have e1 : (nI N').toNatClampNeg = N' := nI_clamp (by omega)
  have e2 : (nI K').toNatClampNeg = K' := nI_clamp (by omega)
  have hcb : componentBytes .int ≤ 8 := by decide
  have hmul : K' * componentBytes .int ≤ 1000 * 8 := Nat.mul_le_mul hM hcb
  refine va_mna (ty := .int) (cy := cI) (z := (K', .inl fun _ => 0)) hx hb hown (f_cl hclink (by decide)) hN9.2.2.2.2.2.2.2.2.1 harr (hK.2 0 (cI, .int) rfl).2 hK hP hD hS hA (nI_pos (by omega)) (nI_pos (by omega)) e1 e2 (by omega) (by omega) (by omega) (by decide) (by decide) hcells hslots (fun cc9 => ?_) hdg (fun q rr cA H1 hi1 hi2 hK1 hP1 hD1 hS1 => ?_)
  · show ({ cls := cc9, slots := Array.replicate K' (.int 0), vm := .none } : Cell) = _
    rw [vp_cell_i, arrV_new]
  · have h1 := (hK1.2 4 (cA, .array .int) rfl).2
    have h2 := (hK.2 2 (cP, .array .int) rfl).2
    have e : cP = cA := Option.some.inj (h2.symm.trans h1)
    subst e
    obtain ⟨hP2, hD2⟩ := f_repq (o' := rq rr) hP1 hD1 X.length g_lastget (fun j hj => by rw [if_pos hj])
    rw [g_last] at hP2 hD2
    refine kk q rr _ _ H1 hi1 hi2 (fun b hb => List.mem_append_left _ hb) (fun b hb => vr_up_ne (fun z => ?_)) (fun r hr => ?_) hP2 hD2 hS1
    · obtain ⟨i, h3, rfl⟩ := List.mem_map.mp z
      exact hi2 i (List.mem_range.mp h3) hb
    · have hm : rr r ∈ (List.range N').map rr := List.mem_map.mpr ⟨r, List.mem_range.mpr hr, rfl⟩
      exact ⟨List.mem_append_right _ hm, fun _ => 0, vr_up_in hm, fun _ _ => rfl⟩
/-- new int[n][] -/
theorem g_newP (hx : p.tables.exec = Jvm.exec) (hb : c.code = cc) {own : String} {index : Nat} (hown : s.vm.findClass own = some m.cls) (hclink : (Cond.classLink own index "[I").before args s = true) (hN9 : fN s)
    (hK : va_K D vwCl (fTY cI cZ cP cQ) s) (hP : va_P D vwCl (X ++ va_pl L f) H) (hD : va_D A (X ++ va_pl L f)) (hS : va_S A H0 H locs) (hA : ∀ q, H0.size ≤ q → A q) {i : Int32} {N' : Nat} (hi : i = nI N') (hN : N' ≤ 1000) (hcells : cells + 1 ≤ R.cells) (hslots : slots + N' ≤ R.slots) (hdg : decode cc pc = .ok (.anewarray index, 3))
    (kk : ∀ (q : Nat) (H1 : Heap), va_P D vwCl ((X ++ [(q, .inl (cP, N', .inr (.inr (.inr (.inr (fun _ => none))))))]) ++ va_pl L f) H1 → va_D A ((X ++ [(q, .inl (cP, N', .inr (.inr (.inr (.inr (fun _ => none))))))]) ++ va_pl L f) → va_S A H0 H1 locs →
      W p l e R s m args below meth c H1 locs (cells + 1) (slots + N') Q (F0 m (pc + 3) ls (.ref q :: rest))) : W p l e R s m args below meth c H locs cells slots Q (F0 m pc ls (.int i :: rest)) := by
  subst hi
  have e1 : (nI N').toNatClampNeg = N' := nI_clamp (by omega)
  refine W.anewA (t := .int) hx hb hown (f_cl hclink (by decide)) (va_AOA.use hN9.2.2.2.2.2.2.2.2.1) rfl hdg rfl (nI_pos (by omega)) (by rw [e1]; omega) hcells (by rw [e1]; exact hslots) fun cA kA comp f1 f2 f3 f4 => ?_
  have h2 := (hK.2 2 (cP, .array .int) rfl).2
  have e : cP = cA := Option.some.inj (h2.symm.trans f1)
  subst e
  rw [e1]
  generalize hH1 : H.push ({ cls := cP, slots := Array.replicate N' .null, vm := .none } : Cell) = H1
  have z1 : H1.size = H.size + 1 := by rw [← hH1, Array.size_push]
  have c1 : H1[H.size]? = some (arrV cP N' (fun _ => .null)) := by rw [← hH1, Array.getElem?_push_size, ← arrV_new]
  have o1 : ∀ q : Nat, q < H.size → H1[q]? = H[q]? := fun q hq => by rw [← hH1, Array.getElem?_push, if_neg (Nat.ne_of_lt hq)]
  have hP1 : va_P D vwCl ((X ++ va_pl L f) ++ [(H.size, .inl (cP, N', .inr (.inr (.inr (.inr (fun _ => none))))))]) H1 := (hP.kept (fun k x hx => o1 x.1 ((hP k x hx).lt))).app (fun k x hx => by
    have hz : k < 1 := (List.getElem?_eq_some_iff.mp hx).1
    rw [show k = 0 by omega] at hx
    cases hx
    show H1[H.size]? = some (vp_cell _ _)
    rw [vp_cell_q]
    exact c1)
  have hD1 := hD.push (e := .inl (cP, N', .inr (.inr (.inr (.inr (fun _ => none)))))) hP rfl (hA _ hS.1)
  exact kk H.size H1 hP1.swap hD1.swap ⟨Nat.le_trans hS.1 (by omega), fun x h1 h2 => (o1 x (Nat.lt_of_lt_of_le h1 hS.1)).trans (hS.2.1 x h1 h2), hS.2.2⟩
/-- a row stored into an outer array -/
theorem g_aast {tys : List (ClassId × FieldType)} {t : FieldType} (hx : p.tables.exec = Jvm.exec) (hb : c.code = cc) (hK : va_K D vwCl tys s) (hP : va_P D vwCl ws H) (hD : va_D A ws) (hS : va_S A H0 H locs) (q0 t0 : Nat) {cA cR : ClassId} {n v : Nat} {o : Nat → Option Nat} (ha : ws[q0]? = some (a, .inl (cA, n, .inr (.inr (.inr (.inr o)))))) (ht : tys[t0]? = some (cA, .array t)) (hZ : va_AOA t s) (hR : s.vm.findClass (FieldType.array t).toString = some cR) (hv : ∃ (k : Nat) (x : vp_A), ws[k]? = some (v, .inl (cR, x))) {i : Int32} (hi : i = nI k) (hk : k < n) (hn : n < 2 ^ 31) (hdg : decode cc pc = .ok (.aastore, 1))
    (kk : ∀ (H1 : Heap) (locs1 : List Loc), va_P D vwCl (ws.set q0 (a, .inl (cA, n, .inr (.inr (.inr (.inr (va_up o k (some v)))))))) H1 → va_D A (ws.set q0 (a, .inl (cA, n, .inr (.inr (.inr (.inr (va_up o k (some v)))))))) → va_S A H0 H1 locs1 → W p l e R s m args below meth c H1 locs1 cells slots Q (F0 m (pc + 1) ls rest)) : W p l e R s m args below meth c H locs cells slots Q (F0 m pc ls (.ref v :: .int i :: .ref a :: rest)) := by
  subst hi
  have e1 : (nI k).toNatClampNeg = k := nI_clamp (Nat.lt_trans hk hn)
  have hin : vp_in (nI k) n := vp_in_nI hk hn
  have h0 : ¬ nI k < 0 := fun q => hin (Or.inl q)
  obtain ⟨kv, x, hv⟩ := hv
  have hcv : H[v]? = some (vp_cell cR x) := hP kv _ hv
  have hvm : (vp_cell cR x).vm = .none ∧ (vp_cell cR x).cls = cR := by
    obtain ⟨n, f | f | f | f | f⟩ := x <;> exact ⟨rfl, rfl⟩
  obtain ⟨comp, cA2, kA, k3, -, k1, k2, k4⟩ := arrayOverA_spec (va_AOA.use (As := args) hZ)
  cases ((hK.2 t0 _ ht).2 : s.vm.findClass ("[" ++ (FieldType.array t).toString) = some cA).symm.trans k4
  cases k3.symm.trans hR
  obtain ⟨kE, hkE, -⟩ := Vm.findClass_spec k3
  have hkC : s.vm.classes[(vp_cell cR x).cls]? = some kE := by rw [hvm.2]; exact hkE
  refine W.aast hx hb (hP q0 _ ha) (fun q h => by cases h) (fun h => by cases h) k1 k2 rfl hkE ⟨h0, by show (nI k).toNatClampNeg < (arrV _ _ _).slots.size; rw [arrV_size, e1]; exact hk⟩ hcv (fun q h => by rw [hvm.1] at h; cases h) hkC (by rw [hvm.2]; exact va_asg _ _) rfl rfl hdg fun H1 ee z oq => ?_
  refine kk H1 _ (hP.set hD ha ?_ oq) (hD.set ha) (hS.put z oq (hD.2 q0 _ ha))
  show H1[a]? = some (vp_cell _ _)
  rw [ee, e1, vp_cell_q, vp_cell_q, arrV_store]
  congr 2
  funext q
  by_cases hq : q = k
  · subst hq
    simp [updV, va_up, va_rf]
  · simp [updV, va_up, hq]
theorem g_rowin {cA : ClassId} (hw : Rw cA L f n mm ad g) (hr : r < n) : ∃ (k : Nat) (x : vp_A), (X ++ va_pl L f)[k]? = some (ad r, .inl (cA, x)) := by
  obtain ⟨h1, h, h2, h3⟩ := hw r hr
  obtain ⟨q, hq⟩ := va_pl_get (X := X) (f := f) h1
  exact ⟨q, _, by rw [hq, h2]⟩
end PLF
/-! the fixed cells of a world in another order, or fewer of them; a fixed cell becomes one of the pool -/
section PLG
theorem g_part {D : va_G} {A : Nat → Prop} {X cx pl : va_W} {H : Heap} (is : List Nat) (hP : va_P D vwCl (X ++ pl) H) (hD : va_D A (X ++ pl)) (hs : is.map (fun i => X[i]?) = cx.map some) (hn : va_nd is = true) : va_P D vwCl (cx ++ pl) H ∧ va_D A (cx ++ pl) := ⟨hP.part is hs, hD.part is hn hs⟩
theorem g_pool {D : va_G} {A : Nat → Prop} {W : va_W} {q : Nat} {e : va_E} {L : List Nat} {f : Nat → va_E} {H : Heap} (hP : va_P D vwCl ((W ++ [(q, e)]) ++ va_pl L f) H) (hD : va_D A ((W ++ [(q, e)]) ++ va_pl L f)) :
    ∃ (L1 : List Nat) (f1 : Nat → va_E), q ∉ L ∧ (∀ b, b ∈ L → b ∈ L1) ∧ q ∈ L1 ∧ (∀ b, b ∈ L → f1 b = f b) ∧ f1 q = e ∧ va_P D vwCl (W ++ va_pl L1 f1) H ∧ va_D A (W ++ va_pl L1 f1) := by
  have hP2 := hP.swap
  have hD2 := hD.swap
  have hq : q ∉ L := va_pl_fresh2 hD2
  rw [List.append_assoc, va_pl_push hq] at hP2 hD2
  exact ⟨L ++ [q], va_up f q e, hq, fun b hb => List.mem_append_left _ hb, List.mem_append_right _ List.mem_cons_self, fun b hb => if_neg (fun z => by rw [z] at hb; exact hq hb), if_pos rfl, hP2, hD2⟩
end PLG
/-! a pooled row copied -/
section PLH
variable {p : Program} {l : Launch} {e : Env} {R : Room} {s : State} {m : MethodId} {args : Array Value} {below : List Frame} {meth : Method} {c : Code} {H : Heap} {locs : List Loc} {cells slots : Nat} {Q : State → Prop}
variable {cc : ByteArray} {pc : Nat} {ls : Array Slot} {rest : List Value} {D : va_G} {A : Nat → Prop} {H0 : Heap} {X : va_W} {L : List Nat} {f : Nat → va_E} {cI cZ cP cQ : ClassId} {n mm : Nat} {ad : Nat → Nat} {g : Nat → Nat → Int32} {r k : Nat}
theorem g_cloneI (hx : p.tables.exec = Jvm.exec) (hb : c.code = cc) (hml : c.maxLocals = ls.size) {own : String} {index : Nat} (hown : s.vm.findClass own = some m.cls)
    (hlink : (Cond.methodLink own index ⟨"[I", "clone", "()Ljava/lang/Object;"⟩).before args s = true) (hsame : (Cond.sameMethod "[I" "java/lang/Object" "clone" "()Ljava/lang/Object;").before args s = true)
    (hnat : (Cond.native ⟨"java/lang/Object", "clone", "()Ljava/lang/Object;"⟩).before args s = true) (hinst : (Cond.instanceMethod ⟨"java/lang/Object", "clone", "()Ljava/lang/Object;"⟩).before args s = true)
    (hsel : (Cond.selects "[I" ⟨"[I", "clone", "()Ljava/lang/Object;"⟩ ⟨"java/lang/Object", "clone", "()Ljava/lang/Object;"⟩).before args s = true) (hcl : va_Nw (.castable "[I" "java/lang/Cloneable") s)
    (hK : va_K D vwCl (fTY cI cZ cP cQ) s) (hP : va_P D vwCl (X ++ va_pl L f) H) (hD : va_D A (X ++ va_pl L f)) (hS : va_S A H0 H locs) (hA : ∀ q, H0.size ≤ q → A q) (hw : Rw cI L f n mm ad g) (hr : r < n)
    (hframes : 1 ≤ R.frames) (hlocals : (rest.map fun v => v.category).sum + 14 ≤ R.locals) (hcells : cells + 1 ≤ R.cells) (hslots : slots + mm ≤ R.slots) (hdg : decode cc pc = .ok (.invokevirtual index, 3))
    (kk : ∀ (q : Nat) (h : Nat → Int32) (H1 : Heap), (∀ c, c < mm → h c = g r c) → va_P D vwCl ((X ++ [(q, .inl (cI, mm, .inl h))]) ++ va_pl L f) H1 → va_D A ((X ++ [(q, .inl (cI, mm, .inl h))]) ++ va_pl L f) → va_S A H0 H1 locs →
      W p l e R s m args below meth c H1 locs (cells + 1) (slots + mm) Q (F0 m (pc + 3) ls (.ref q :: rest))) : W p l e R s m args below meth c H locs cells slots Q (F0 m pc ls (.ref (ad r) :: rest)) := by
  obtain ⟨h1, h, h2, h3⟩ := hw r hr
  obtain ⟨q, hq⟩ := va_pl_get (X := X) (f := f) h1
  rw [h2] at hq
  refine va_clone hx hb hml hown hlink hsame hnat hinst hsel hcl hK hP hD hS hA q 0 hq rfl (hK.2 0 (cI, .int) rfl).2 (fun i v hv => by
    have hi : i < mm := by
      have := (Array.getElem?_eq_some_iff.mp hv).1
      rwa [vp_cell_i, arrV_size] at this
    rw [vp_cell_i, arrV_read _ _ hi] at hv
    cases hv
    rfl) hframes hlocals hcells hslots hdg (fun q1 H1 _ hP1 hD1 hS1 => ?_)
  exact kk q1 h H1 h3 hP1.swap hD1.swap hS1
theorem g_cloneZ (hx : p.tables.exec = Jvm.exec) (hb : c.code = cc) (hml : c.maxLocals = ls.size) {own : String} {index : Nat} (hown : s.vm.findClass own = some m.cls)
    (hlink : (Cond.methodLink own index ⟨"[Z", "clone", "()Ljava/lang/Object;"⟩).before args s = true) (hsame : (Cond.sameMethod "[Z" "java/lang/Object" "clone" "()Ljava/lang/Object;").before args s = true)
    (hnat : (Cond.native ⟨"java/lang/Object", "clone", "()Ljava/lang/Object;"⟩).before args s = true) (hinst : (Cond.instanceMethod ⟨"java/lang/Object", "clone", "()Ljava/lang/Object;"⟩).before args s = true)
    (hsel : (Cond.selects "[Z" ⟨"[Z", "clone", "()Ljava/lang/Object;"⟩ ⟨"java/lang/Object", "clone", "()Ljava/lang/Object;"⟩).before args s = true) (hcl : va_Nw (.castable "[Z" "java/lang/Cloneable") s)
    (hK : va_K D vwCl (fTY cI cZ cP cQ) s) (hP : va_P D vwCl (X ++ va_pl L f) H) (hD : va_D A (X ++ va_pl L f)) (hS : va_S A H0 H locs) (hA : ∀ q, H0.size ≤ q → A q) (hw : Rw cZ L f n mm ad g) (hr : r < n) (hfit : ∀ c, c < mm → g r c = 0 ∨ g r c = 1)
    (hframes : 1 ≤ R.frames) (hlocals : (rest.map fun v => v.category).sum + 14 ≤ R.locals) (hcells : cells + 1 ≤ R.cells) (hslots : slots + mm ≤ R.slots) (hdg : decode cc pc = .ok (.invokevirtual index, 3))
    (kk : ∀ (q : Nat) (h : Nat → Int32) (H1 : Heap), (∀ c, c < mm → h c = g r c) → va_P D vwCl ((X ++ [(q, .inl (cZ, mm, .inl h))]) ++ va_pl L f) H1 → va_D A ((X ++ [(q, .inl (cZ, mm, .inl h))]) ++ va_pl L f) → va_S A H0 H1 locs →
      W p l e R s m args below meth c H1 locs (cells + 1) (slots + mm) Q (F0 m (pc + 3) ls (.ref q :: rest))) : W p l e R s m args below meth c H locs cells slots Q (F0 m pc ls (.ref (ad r) :: rest)) := by
  obtain ⟨h1, h, h2, h3⟩ := hw r hr
  obtain ⟨q, hq⟩ := va_pl_get (X := X) (f := f) h1
  rw [h2] at hq
  refine va_clone hx hb hml hown hlink hsame hnat hinst hsel hcl hK hP hD hS hA q 1 hq rfl (hK.2 1 (cZ, .boolean) rfl).2 (fun i v hv => by
    have hi : i < mm := by
      have := (Array.getElem?_eq_some_iff.mp hv).1
      rwa [vp_cell_i, arrV_size] at this
    rw [vp_cell_i, arrV_read _ _ hi] at hv
    cases hv
    rw [h3 i hi]
    rcases hfit i hi with z | z <;> rw [z] <;> decide) hframes hlocals hcells hslots hdg (fun q1 H1 _ hP1 hD1 hS1 => ?_)
  exact kk q1 h H1 h3 hP1.swap hD1.swap hS1
end PLH
