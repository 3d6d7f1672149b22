/-! THE CLAIM OUT OF ONE WALK OF THE LAW'S BODY. Your part is whole_start (and what it stands on); all else here is the same for every law, but numbers. -/
def R_law : String := "FrostPaneLaw"
def lw_P (b : Addr) (xs : List Int32) (args : Array Value) (s : State) : Prop := args = #[.ref b] ∧ s.IntsAt b xs ∧ xs.length ≤ 260 ∧ (Jvm.Cond.and given_1 narrow_1).before args s = true
/-- what a walk over the start with the record d0 says of its end, said of the start itself -/
theorem lw_closed {s t : State} {o : Outcome} {d0 : Drawn} {L : List Loc} {k n : Nat} (hd0 : s.drawn.sameBut d0 lw_cs) (hv : ∃ v, o = .returned v) (hW : (s.setDrawn d0).WarmedH t.vm) (hs : (s.setDrawn d0).sameButNew ({ t with vm := s.vm } : State) L k n) : State.butDraws s t lw_cs (fun t1 => Framed s o t1 L k n) := by
  have h2 : t.drawn = d0 := congrArg State.drawn hs.1
  refine ⟨⟨hv, hW, State.sameButNew.setDrawn hs s.drawn⟩, ?_, by decide⟩
  rw [h2]
  exact hd0
def lw_Q (_ : Array Value) (s : State) (o : Outcome) (t : State) : Prop := o = .returned (some (.int 1)) ∧ State.butDraws s t lw_cs (fun t1 => Framed s o t1 [] 887991 6437494)
def lw_Z (below : List Frame) (a : Array Value) (s : State) : State → Prop := fun t => ∃ o, t.status = .running ∧ Ended t below o ∧ lw_Q a s o t
/-- the law's own end, with 1 on the stack, nothing written that was there before, its room as the claim has it; d0: the record of draws at this point (at the entry s.drawn: begin with 'refine W.base ?_' and 'have hd0 := Drawn.sameBut.refl s.drawn lw_cs') -/
theorem lw_ret {p : Program} {l : Launch} {e : Env} {s : State} {m : MethodId} {below : List Frame} {meth : Method} {c : Code} {b : Nat} {d0 : Drawn} (hd0 : s.drawn.sameBut d0 lw_cs) (hx : p.tables.exec = Jvm.exec) (hb : c.code = code) (hr : meth.sig.returnType = ret) (hlocks : meth.locks = false) {pc : Nat} {H : Heap} {ls : Array Slot} (hdg : decode code pc = .ok (.ireturn, 1)) : W p l e room_1 (s.setDrawn d0) m #[Value.ref b] below meth c H [] 887991 6437494 (lw_Z below #[Value.ref b] s) (F0 m pc ls [.int 1]) := by
  intro T hT X
  obtain ⟨fs, hret, hrun, hended, hW, hframe⟩ := X.leave (v := some (.int 1)) (hlocks := hlocks) (fun h => by rw [hr] at h; cases h)
  have hmeth' : T.vm.method? m = some meth := X.method'
  refine ⟨T.setFrames fs, ?_, .returned (some (.int 1)), hrun, hended, rfl, lw_closed hd0 ⟨_, rfl⟩ hW hframe⟩
  jvm_step X.here [X.here.top, hx, hb, hdg, hmeth', hr, ret, narrow_b1]
  (try refine ⟨rfl, ?_⟩); (try refine ⟨rfl, ?_⟩)
  first | (intro acts; rw [hret _ acts rfl rfl rfl]) | rw [hret _ _ rfl rfl rfl]
  exact Steps.refl _
/-- what holds at the law's entry: the machine, the code, the tables' words (any of lw_tbl by 'hts w (by decide +kernel)'), the script of L ints xs at the cell b, what the Statement gives of the start (any of its parts by flat_of_before) -/
def lw_At (p : Program) (s : State) (m : MethodId) (meth : Method) (c : Code) (b L : Nat) (xs : Nat → Int32) : Prop :=
  p.tables.exec = Jvm.exec ∧ c.code = code ∧ meth.sig.returnType = ret ∧ c.maxLocals = 28 ∧ s.vm.findClass R_law = some m.cls ∧ (∀ w ∈ lw_tbl, w.before #[Value.ref b] s = true) ∧ va_X b L xs s s.heap ∧ b < s.heap.size ∧ meth.locks = false ∧ (Jvm.Cond.and given_1 narrow_1).before #[Value.ref b] s = true
-- ===== YOUR PART BEGINS =====
theorem w_arr {args : Array Value} {s : State} {ty : FieldType} (h : (Cond.arrayClass ty).before args s = true) : ∃ cA, ArrOfT s cA ty ∧ s.vm.findClass ("[" ++ ty.toString) = some cA := by
  obtain ⟨cA, kA, comp, h1, h2, h3⟩ := Cond.arrayClass_spec h
  exact ⟨cA, fun n z => ⟨fun k h => (by cases h), kA, h2, comp, h3⟩, h1⟩
theorem w_arrA {args : Array Value} {s : State} {t : FieldType} (h : (Cond.arrayOver (.array t)).before args s = true) : ∃ cA, ArrOfT s cA (.array t) ∧ s.vm.findClass ("[" ++ (FieldType.array t).toString) = some cA := by
  obtain ⟨comp, cA, kA, -, -, h2, h3, h1⟩ := arrayOverA_spec h
  exact ⟨cA, fun n z => ⟨fun k h => (by cases h), kA, h2, comp, h3⟩, h1⟩
theorem w_str {own tx : String} {k cur : Nat} {args : Array Value} {s : State} (hcur : s.vm.findClass own = some cur) (h : (Cond.stringRef own k tx).before args s = true) : ∃ a, vk_R own k tx a s := by
  obtain ⟨_, _, _, a, _, _, _, _, _, he⟩ := Cond.stringRef_spec hcur h
  exact ⟨a, vk_R.of (A := args) h he⟩
theorem w_flags {l : Launch} (hflags : l.flags = flags0) : l.stackTraces = false := by
  unfold Launch.stackTraces
  rw [hflags]
  decide +kernel
set_option maxHeartbeats 16000000 in
set_option maxRecDepth 100000 in
/-- YOUR PART: from the entry, for every script of at most 260 ints, the law comes to its end with true ('hflags': the launch's flags, for a law that throws: no stack traces) -/
theorem whole_start {p : Program} {e : Env} {s : State} {m : MethodId} {below : List Frame} {meth : Method} {c : Code} (l : Launch) (hflags : l.flags = flags0) {b L : Nat} {xs : Nat → Int32} (hL : L ≤ 260) (C0 : lw_At p s m meth c b L xs) : W p l e room_1 s m #[Value.ref b] below meth c s.heap [] 0 0 (lw_Z below #[Value.ref b] s) (entryFrame m ([Value.ref b] : List Value).toArray 28) := by
  have hfl : l.stackTraces = false := w_flags hflags
  obtain ⟨hx, hb, hr, hml, hown, hts0, hXs, hbl, hlocks, hgv⟩ := id C0
  have hts : ∀ w ∈ wsL_law, w.before #[Value.ref b] s = true := fun w h => hts0 w (wsL_law_in w h)
  have hA : ∀ q : Nat, s.heap.size ≤ q → (fun q : Nat => s.heap.size ≤ q) q := fun _ h => h
  have hbA : ¬ (fun q : Nat => s.heap.size ≤ q) b := Nat.not_le.mpr hbl
  obtain ⟨c0, iS0, hKn0⟩ := u_known (C := RX0) (T := TX0) (N := 2) (n := 2) hts0 inX0 (hts0 (.instantiable RX0 2) (by decide +kernel))
  obtain ⟨c1, iS1, hKn1⟩ := u_known (C := RX1) (T := TX1) (N := 6) (n := 6) hts0 inX1 (hts0 (.instantiable RX1 6) (by decide +kernel))
  obtain ⟨c2, iS2, hKn2⟩ := u_known (C := RX2) (T := TX2) (N := 3) (n := 3) hts0 inX2 (hts0 (.instantiable RX2 3) (by decide +kernel))
  obtain ⟨c3, iS3, hKn3⟩ := u_known (C := RX3) (T := TX3) (N := 6) (n := 6) hts0 inX3 (hts0 (.instantiable RX3 6) (by decide +kernel))
  obtain ⟨c4, iS4, hKn4⟩ := u_known (C := RX4) (T := TX4) (N := 6) (n := 6) hts0 inX4 (hts0 (.instantiable RX4 6) (by decide +kernel))
  obtain ⟨cI, hI0a, hI0b⟩ := w_arr (hts0 (.arrayClass .int) (by decide +kernel))
  obtain ⟨cZ, hZ0a, hZ0b⟩ := w_arr (hts0 (.arrayClass .boolean) (by decide +kernel))
  have hoI : (Cond.arrayOver (.array .int)).before #[Value.ref b] s = true := hts0 (.arrayOver (.array .int)) (by decide +kernel)
  have hoZ : (Cond.arrayOver (.array .boolean)).before #[Value.ref b] s = true := hts0 (.arrayOver (.array .boolean)) (by decide +kernel)
  obtain ⟨cP, hP0a, hP0b⟩ := w_arrA hoI
  obtain ⟨cQ, hQ0a, hQ0b⟩ := w_arrA hoZ
  obtain ⟨D, hKc⟩ : ∃ D : va_G, ∀ (k : Nat) (q : vw_C), vwCl[k]? = some q → u_Kn s q.1 q.2.1 q.2.2 (D.1 k) (D.2 k) := by
    refine ⟨(fun k => match k with | 0 => c0 | 1 => c1 | 2 => c2 | 3 => c3 | _ => c4, fun k => match k with | 0 => iS0 | 1 => iS1 | 2 => iS2 | 3 => iS3 | _ => iS4), ?_⟩
    intro k q hq
    match k, hq with
    | 0, hq => cases hq; exact hKn0
    | 1, hq => cases hq; exact hKn1
    | 2, hq => cases hq; exact hKn2
    | 3, hq => cases hq; exact hKn3
    | 4, hq => cases hq; exact hKn4
    | k + 5, hq => simp [vwCl] at hq
  have hK : va_K D vwCl (fTY cI cZ cP cQ) s := by
    refine ⟨hKc, fun k q h => ?_⟩
    match k, h with
    | 0, h => cases h; exact ⟨hI0a, hI0b⟩
    | 1, h => cases h; exact ⟨hZ0a, hZ0b⟩
    | 2, h => cases h; exact ⟨hP0a, hP0b⟩
    | 3, h => cases h; exact ⟨hQ0a, hQ0b⟩
    | k + 4, h => simp [fTY] at h
  have hN : fN s := ⟨va_Nw.of rfl (hts0 (.fieldLinkNest RX3 108 RX1 "columns" "I" RX3) (by decide +kernel)), va_Nw.of rfl (hts0 (.fieldLinkNest RX3 111 RX1 "rows" "I" RX3) (by decide +kernel)), va_Nw.of rfl (hts0 (.fieldLinkNest RX3 69 RX1 "frame" "I" RX3) (by decide +kernel)), va_Nw.of rfl (hts0 (.fieldLinkNest RX3 114 RX2 "count" "I" RX3) (by decide +kernel)), va_Nw.of rfl (hts0 (.methodLinkNest RX3 9 yX1_init RX3) (by decide +kernel)), va_Nw.of rfl (hts0 (.methodLinkNest RX3 21 yX0_init RX3) (by decide +kernel)), va_Nw.of rfl (hts0 (.methodLinkNest RX3 28 yX2_init RX3) (by decide +kernel)), va_Nw.of rfl (hts0 (.methodLinkNest RL 77 yX4_init RL) (by decide +kernel)), f_aoa hoI, f_aoa hoZ, va_Nw.of rfl (hts0 (.castable "[Z" "java/lang/Cloneable") (by decide +kernel)), va_Nw.of rfl (hts0 (.castable "[I" "java/lang/Cloneable") (by decide +kernel))⟩
  have hs := flat_of_before _ hgv
  obtain ⟨kX, kk9, hkX, -⟩ := Cond.instantiable_spec (hts0 (.instantiable RX3 6) (by decide +kernel))
  obtain ⟨sa0, hsa0⟩ := w_str hkX (hts0 (.stringRef RX3 235 "the number is not in its range") (by decide +kernel))
  obtain ⟨sa1, hsa1⟩ := w_str hkX (hts0 (.stringRef RX3 231 "there is no such cell") (by decide +kernel))
  obtain ⟨sa2, hsa2⟩ := w_str hkX (hts0 (.stringRef RX3 53 "the cell is melted") (by decide +kernel))
  obtain ⟨sa3, hsa3⟩ := w_str hkX (hts0 (.stringRef RX3 77 "there are as many rules as can be") (by decide +kernel))
  obtain ⟨sa4, hsa4⟩ := w_str hkX (hts0 (.stringRef RX3 85 "there is no such rule") (by decide +kernel))
  obtain ⟨sa5, hsa5⟩ := w_str hkX (hts0 (.stringRef RX3 130 "there is no such row") (by decide +kernel))
  have hX : fX (fun j => match j with | 0 => sa0 | 1 => sa1 | 2 => sa2 | 3 => sa3 | 4 => sa4 | _ => sa5) s := ⟨⟨hsa0, hsa1, hsa2, hsa3, hsa4, hsa5⟩, ⟨va_Nw.of rfl (hts0 (.castable "java/lang/IllegalArgumentException" "java/lang/IllegalArgumentException") (by decide +kernel)), va_Nw.of rfl (hts0 (.castable "java/lang/IndexOutOfBoundsException" "java/lang/IndexOutOfBoundsException") (by decide +kernel)), va_Nw.of rfl (hts0 (.castable "java/lang/IllegalStateException" "java/lang/IllegalStateException") (by decide +kernel))⟩, ⟨va_Nw.of rfl (hts0 (.declares ⟨"java/lang/RuntimeException", "<init>", "(Ljava/lang/String;)V"⟩) (by decide +kernel)), va_Nw.of rfl (hts0 (.declares ⟨"java/lang/Exception", "<init>", "(Ljava/lang/String;)V"⟩) (by decide +kernel)), va_Nw.of rfl (hts0 (.declares ⟨"java/lang/Throwable", "<init>", "(Ljava/lang/String;)V"⟩) (by decide +kernel))⟩⟩
  have hZ : fZ (fun q : Nat => s.heap.size ≤ q) s s.heap := ⟨vx_Zqof (hts0 (.laysStatic Bundle.tN "UNASSIGNED_STACK" Bundle.steD) (by decide +kernel)) (hts0 (.initialized Bundle.tN) (by decide +kernel)) (hs (.isRef (.static Bundle.tN "UNASSIGNED_STACK" Bundle.steD)) (by decide +kernel)) (fun a h => Nat.not_le.mpr h), vx_Zqof (hts0 (.laysStatic Bundle.tN "SUPPRESSED_SENTINEL" Bundle.listD) (by decide +kernel)) (hts0 (.initialized Bundle.tN) (by decide +kernel)) (hs (.isRef (.static Bundle.tN "SUPPRESSED_SENTINEL" Bundle.listD)) (by decide +kernel)) (fun a h => Nat.not_le.mpr h)⟩
  have hLs : L < 2 ^ 31 := by omega
  have hS : va_S (fun q : Nat => s.heap.size ≤ q) s.heap s.heap [] := va_S.rf
  have hP : va_P D vwCl [] s.heap := fun k q h => by simp at h
  have hD : va_D (fun q : Nat => s.heap.size ≤ q) [] := ⟨fun i j p q h => by simp at h, fun k q h => by simp at h⟩
  have hl := lv_entry ([.ref b]) (n := 28) (Nat.le_of_ble_eq_true rfl)
  rw [lg_entry_eq]
  generalize (lg_sl ([.ref b]) ++ List.replicate (28 - (lg_sl ([.ref b])).length) Slot.unset).toArray = ls at hl ⊢
  have hl : lv_has ls 28 [(0, .ref b)] := hl
  have hown : s.vm.findClass RL = some m.cls := hown
  have hb : c.code = cL_law := hb
  refine va_new (D := D) (ci := 3) (fs := [.null, .null, .null, .null, .int 0, .int 0]) (C := RX3) (T := TX3) (N := 6) hx hb hts inlX3 tyX3 tyX3_ok hown (hts0 (.classLink RL 26 RX3) (by decide +kernel)) (hts0 (.instantiable RX3 6) (by decide +kernel)) (hts0 (.initialized RX3) (by decide +kernel)) hK hP hD hS hA rfl (by decide) (Nat.le_of_ble_eq_true rfl) (Nat.le_of_ble_eq_true rfl) dL_law_0 (fun fp H hP hD hS => ?_)
  have hP : va_P D vwCl [(fp, .inr (3, [.null, .null, .null, .null, .int 0, .int 0]))] H := hP
  have hD : va_D (fun q : Nat => s.heap.size ≤ q) [(fp, .inr (3, [.null, .null, .null, .null, .int 0, .int 0]))] := hD
  refine lv_dup hx hb dL_law_3 rfl ?_
  refine f_callC (wa := fun u9 : Nat × Nat × Nat × Nat × Nat × Nat × Nat × Nat × Nat × Nat × Nat × Nat × Nat × Nat => [(fp, .inr (3, [.ref (u9.1), .ref (u9.2.2.2.2.1), .ref (u9.2.2.2.2.2.2.2.2.1), .ref (u9.2.2.2.2.2.2.2.2.2.2.2.1), .int 0, .int 0]))]) (wb := fun u9 : Nat × Nat × Nat × Nat × Nat × Nat × Nat × Nat × Nat × Nat × Nat × Nat × Nat × Nat => [(u9.1, .inr (1, [.ref (u9.2.1), .ref (u9.2.2.1), .ref (u9.2.2.2.1), .int (nI 8), .int (nI 8), .int 0])), (u9.2.1, .inl (cI, 12, .inl (fun _ => 0))), (u9.2.2.1, .inl (cI, 12, .inl (fun _ => 0))), (u9.2.2.2.1, .inl (cI, 144, .inl (fun _ => 0))), (u9.2.2.2.2.1, .inr (1, [.ref (u9.2.2.2.2.2.1), .ref (u9.2.2.2.2.2.2.1), .ref (u9.2.2.2.2.2.2.2.1), .int 0, .int 0, .int 0])), (u9.2.2.2.2.2.1, .inl (cI, 12, .inl (fun _ => 0))), (u9.2.2.2.2.2.2.1, .inl (cI, 12, .inl (fun _ => 0))), (u9.2.2.2.2.2.2.2.1, .inl (cI, 144, .inl (fun _ => 0))), (u9.2.2.2.2.2.2.2.2.1, .inr (0, [.ref (u9.2.2.2.2.2.2.2.2.2.1), .ref (u9.2.2.2.2.2.2.2.2.2.2.1)])), (u9.2.2.2.2.2.2.2.2.2.1, .inl (cI, 12, .inl (fun _ => 0))), (u9.2.2.2.2.2.2.2.2.2.2.1, .inl (cI, 12, .inl (fun _ => 0))), (u9.2.2.2.2.2.2.2.2.2.2.2.1, .inr (2, [.ref (u9.2.2.2.2.2.2.2.2.2.2.2.2.1), .ref (u9.2.2.2.2.2.2.2.2.2.2.2.2.2), .int (nI 1)])), (u9.2.2.2.2.2.2.2.2.2.2.2.2.1, .inl (cI, 6, .inl (upd (fun _ => 0) 0 8))), (u9.2.2.2.2.2.2.2.2.2.2.2.2.2, .inl (cI, 6, .inl (upd (fun _ => 0) 0 12)))]) (w2 := fun u9 : Nat × Nat × Nat × Nat × Nat × Nat × Nat × Nat × Nat × Nat × Nat × Nat × Nat × Nat => [(fp, .inr (3, [.ref (u9.1), .ref (u9.2.2.2.2.1), .ref (u9.2.2.2.2.2.2.2.2.1), .ref (u9.2.2.2.2.2.2.2.2.2.2.2.1), .int 0, .int 0])), (u9.1, .inr (1, [.ref (u9.2.1), .ref (u9.2.2.1), .ref (u9.2.2.2.1), .int (nI 8), .int (nI 8), .int 0])), (u9.2.1, .inl (cI, 12, .inl (fun _ => 0))), (u9.2.2.1, .inl (cI, 12, .inl (fun _ => 0))), (u9.2.2.2.1, .inl (cI, 144, .inl (fun _ => 0))), (u9.2.2.2.2.1, .inr (1, [.ref (u9.2.2.2.2.2.1), .ref (u9.2.2.2.2.2.2.1), .ref (u9.2.2.2.2.2.2.2.1), .int 0, .int 0, .int 0])), (u9.2.2.2.2.2.1, .inl (cI, 12, .inl (fun _ => 0))), (u9.2.2.2.2.2.2.1, .inl (cI, 12, .inl (fun _ => 0))), (u9.2.2.2.2.2.2.2.1, .inl (cI, 144, .inl (fun _ => 0))), (u9.2.2.2.2.2.2.2.2.1, .inr (0, [.ref (u9.2.2.2.2.2.2.2.2.2.1), .ref (u9.2.2.2.2.2.2.2.2.2.2.1)])), (u9.2.2.2.2.2.2.2.2.2.1, .inl (cI, 12, .inl (fun _ => 0))), (u9.2.2.2.2.2.2.2.2.2.2.1, .inl (cI, 12, .inl (fun _ => 0))), (u9.2.2.2.2.2.2.2.2.2.2.2.1, .inr (2, [.ref (u9.2.2.2.2.2.2.2.2.2.2.2.2.1), .ref (u9.2.2.2.2.2.2.2.2.2.2.2.2.2), .int (nI 1)])), (u9.2.2.2.2.2.2.2.2.2.2.2.2.1, .inl (cI, 6, .inl (upd (fun _ => 0) 0 8))), (u9.2.2.2.2.2.2.2.2.2.2.2.2.2, .inl (cI, 6, .inl (upd (fun _ => 0) 0 12)))]) ⟨hx, hb, hml, hown, hts⟩ hP hD hS hA hK hN [0]
      (c_X3_init (l := l) (D := D) (cI := cI) (cZ := cZ) (cP := cP) (cQ := cQ) (sz := _) (fp := fp)) (cwI 0 hts gL_law_X3_init rfl rfl rfl (hts0 (.initialized RX3) (by decide +kernel)) (hts0 (.methodLink RL 86 yX3_init) (by decide +kernel)) (hts0 (.instanceMethod yX3_init) (by decide +kernel)) rfl (by decide +kernel) ⟨Nat.le_of_ble_eq_true rfl, Nat.le_of_ble_eq_true rfl⟩) rfl rfl (fun _ => rfl) [fp] (fun _ => rfl) rfl (fun _ => rfl) rfl rfl hl.1 (Nat.le_of_ble_eq_true rfl) dL_law_4 (lw_rc (by omega) (by omega)) (fun u9 H locs hP hD hS => ?_)
  obtain ⟨pa, fo, no, mo, qa, qo, qn, qm, pk, lo, go, bk, bf, bs⟩ := u9
  have hP : va_P D vwCl [(fp, .inr (3, [.ref pa, .ref qa, .ref pk, .ref bk, .int 0, .int 0])), (pa, .inr (1, [.ref fo, .ref no, .ref mo, .int (nI 8), .int (nI 8), .int 0])), (fo, .inl (cI, 12, .inl (fun _ => 0))), (no, .inl (cI, 12, .inl (fun _ => 0))), (mo, .inl (cI, 144, .inl (fun _ => 0))), (qa, .inr (1, [.ref qo, .ref qn, .ref qm, .int 0, .int 0, .int 0])), (qo, .inl (cI, 12, .inl (fun _ => 0))), (qn, .inl (cI, 12, .inl (fun _ => 0))), (qm, .inl (cI, 144, .inl (fun _ => 0))), (pk, .inr (0, [.ref lo, .ref go])), (lo, .inl (cI, 12, .inl (fun _ => 0))), (go, .inl (cI, 12, .inl (fun _ => 0))), (bk, .inr (2, [.ref bf, .ref bs, .int (nI 1)])), (bf, .inl (cI, 6, .inl (upd (fun _ => 0) 0 8))), (bs, .inl (cI, 6, .inl (upd (fun _ => 0) 0 12)))] H := hP
  have hD : va_D (fun q : Nat => s.heap.size ≤ q) [(fp, .inr (3, [.ref pa, .ref qa, .ref pk, .ref bk, .int 0, .int 0])), (pa, .inr (1, [.ref fo, .ref no, .ref mo, .int (nI 8), .int (nI 8), .int 0])), (fo, .inl (cI, 12, .inl (fun _ => 0))), (no, .inl (cI, 12, .inl (fun _ => 0))), (mo, .inl (cI, 144, .inl (fun _ => 0))), (qa, .inr (1, [.ref qo, .ref qn, .ref qm, .int 0, .int 0, .int 0])), (qo, .inl (cI, 12, .inl (fun _ => 0))), (qn, .inl (cI, 12, .inl (fun _ => 0))), (qm, .inl (cI, 144, .inl (fun _ => 0))), (pk, .inr (0, [.ref lo, .ref go])), (lo, .inl (cI, 12, .inl (fun _ => 0))), (go, .inl (cI, 12, .inl (fun _ => 0))), (bk, .inr (2, [.ref bf, .ref bs, .int (nI 1)])), (bf, .inl (cI, 6, .inl (upd (fun _ => 0) 0 8))), (bs, .inl (cI, 6, .inl (upd (fun _ => 0) 0 12)))] := hD
  refine lv_astore_n (lv' := [(1, .ref fp), (0, .ref b)]) hx hb dL_law_7 rfl hl (by decide) rfl (fun ls hl => ?_)
  refine lv_aload_n hx hb dL_law_8 rfl (lv_at hl 0 rfl) ?_
  refine lv_aload_n hx hb dL_law_9 rfl (lv_at hl 1 rfl) ?_
  have hP : va_P D vwCl (bl_W cI cZ cP cQ fp pa fo no mo qa qo qn qm pk lo go bk bf bs 8 8 0 0 0 (fun _ => 0) (fun _ => 0) (fun _ => 0) (fun _ => 0) (fun _ => 0) (fun _ => 0) (fun _ => 0) (fun _ => 0) (upd (fun _ => 0) 0 8) (upd (fun _ => 0) 0 12) [] (fun _ => .inl (cI, 0, .inl fun _ => 0))) H := hP
  have hD : va_D (fun q : Nat => s.heap.size ≤ q) (bl_W cI cZ cP cQ fp pa fo no mo qa qo qn qm pk lo go bk bf bs 8 8 0 0 0 (fun _ => 0) (fun _ => 0) (fun _ => 0) (fun _ => 0) (fun _ => 0) (fun _ => 0) (fun _ => 0) (fun _ => 0) (upd (fun _ => 0) 0 8) (upd (fun _ => 0) 0 12) [] (fun _ => .inl (cI, 0, .inl fun _ => 0))) := hD
  refine g_build hfl ⟨hx, hb, hml, hown, hts⟩ hS hA hK hN hX hZ hXs hbl hbA hLs fp pa fo no mo qa qo qn qm pk lo go bk bf bs 8 8 0 0 0 (fun _ => 0) (fun _ => 0) (fun _ => 0) (fun _ => 0) (fun _ => 0) (fun _ => 0) (fun _ => 0) (fun _ => 0) (upd (fun _ => 0) 0 8) (upd (fun _ => 0) 0 12) [] (fun _ => .inl (cI, 0, .inl fun _ => 0)) (by decide) (by decide) rfl rfl hP hD (va_cwS 2 hts gL_law_L_build rfl rfl rfl k_L_build.2 ⟨Nat.le_of_ble_eq_true rfl, Nat.le_of_ble_eq_true rfl⟩) hl.1 (Nat.le_of_ble_eq_true rfl) dL_law_10 (lw_rc (by decide) (by decide)) ?_
  intro so_q C_q R_q F_q n_q b_q gg_q C2_q R2_q F2_q fz_q nx_q ml_q gz_q gx_q nl_q lf_q fl_q frA_q stA_q sio_q smo_q sro_q L0_q f0_q ai_q mi_q ri_q hLI hV hFM hsS hg H locs hP hD hS
  refine W.eq (g2 := F0 m 13 ls [.ref so_q]) rfl ?_
  refine lv_astore_n (lv' := [(2, .ref so_q), (1, .ref fp), (0, .ref b)]) hx hb dL_law_13 rfl hl (by decide) rfl (fun ls hl => ?_)
  refine lv_aload_n hx hb dL_law_14 rfl (lv_at hl 0 rfl) ?_
  refine lv_ifnonnull (tgt := 20) hx hb dL_law_15 (by decide) ?_
  refine W.widen (k := 1300) (n := 13100) (Nat.le_of_ble_eq_true rfl) (Nat.le_of_ble_eq_true rfl) ?_
  have E0 : lw_E p l s m c b L xs (fun q : Nat => s.heap.size ≤ q) D cI cZ cP cQ _ := ⟨hx, hb, hml, hown, hts, hK, hN, hX, hZ, hA, hXs, hbl, hbA, hLs, hfl⟩
  refine s_loop E0 fp pa fo no mo qa qo qn qm pk lo go bk bf bs so_q C_q R_q F_q n_q b_q gg_q C2_q R2_q F2_q fz_q nx_q ml_q gz_q gx_q nl_q lf_q fl_q frA_q stA_q sio_q smo_q sro_q L0_q f0_q ai_q mi_q ri_q hLI hV hFM hsS hg (fun H locs hS k n hk hn ls => ?_) H locs hP hD hS ls (lv_sub hl [2, 1, 0] rfl)
  refine va_forget (fun q hq => hS.2.2 q hq) ?_
  refine W.widen (k := 887991) (n := 6437494) hk hn ?_
  refine W.base ?_
  exact lw_ret (Drawn.sameBut.refl s.drawn lw_cs) hx hb hr hlocks dL_law_1175
-- ===== YOUR PART ENDS =====
set_option maxHeartbeats 4000000 in
theorem lw_walk (l : Launch) (hflags : l.flags = flags0) (b : Addr) (xs : List Int32) : MetFree l x (headSpec (Jvm.Cond.code x code maxLocals ret :: tables_1) room_1) (lw_P b xs) (fun _ _ _ _ _ => True) lw_Q := by
  refine MetFree.of_bodyS (code := code) (maxLocals := maxLocals) (ret := ret) (by decide) ?_ ?_
  · intro args s m h hn
    obtain ⟨meth, c, h1, h2, h3, h4, h5, h6, -, -⟩ := Cond.code_spec hn (atoms_spec (ws := Jvm.Cond.code x code maxLocals ret :: tables_1) h _ List.mem_cons_self)
    exact ⟨meth, c, h1, h2, h3, h4, h5, h6⟩
  · intro p e s m args below meth c s₁ B hml0 hP _
    obtain ⟨rfl, hx, hbd, hgv⟩ := hP
    obtain ⟨scr, harrAt, hlist, hof, hsmall⟩ := hx
    obtain ⟨hcb, hkn, -, -⟩ := State.arrayAt?_spec harrAt
    have hown : s.vm.findClass R_law = some m.cls := findClass_of_methodNamed B.named
    have hts0 : ∀ c ∈ (Jvm.Cond.code x code maxLocals ret :: tables_1), c.before #[Value.ref b] s = true := atoms_spec (ws := Jvm.Cond.code x code maxLocals ret :: tables_1) B.pre
    have hts : ∀ w ∈ lw_tbl, w.before #[Value.ref b] s = true := k2_hts_sels lw_privs (fun w hw => hts0 w (List.mem_cons_of_mem _ hw)) lw_privs_ok
    have hml : c.maxLocals = 28 := B.maxLocals_eq (hts0 _ List.mem_cons_self)
    have X₀ : Stand p l e room_1 s m #[Value.ref b] below meth c s₁ [] 0 0 := Stand.of_body B
    have hh0 : s₁.heap = s.heap := by rw [B.state]; rfl
    have hsz : scr.slots.size = xs.length := by rw [← Array.length_toList, hlist, List.length_map]
    have hval : ∀ j : Nat, j < xs.length → scr.slots[j]? = some (.int (xs.getD j 0)) := fun j hj => by
      rw [← Array.getElem?_toList, hlist]
      simp [hj]
    have hbl : b < s.heap.size := (Array.getElem?_eq_some_iff.mp hcb).1
    have hX : va_X b xs.length (fun j => xs.getD j 0) s s.heap := ⟨scr, hcb, hof, hkn, hsz, hval⟩
    have K : W p l e room_1 s m #[Value.ref b] below meth c s₁.heap [] 0 0 (lw_Z below #[Value.ref b] s) (entryFrame m ([Value.ref b] : List Value).toArray 28) := by
      rw [hh0]
      exact whole_start l hflags hbd ⟨B.exec, B.bytes, B.returns, hml, hown, hts, hX, hbl, B.notSynchronized, hgv⟩
    obtain ⟨t, a1, o, b1, b2, b3⟩ := K s₁ rfl X₀
    exact ⟨t, o, a1, b1, b2, b3⟩
theorem lw_pre_spec {args : Array Value} {s : State} (h : (Jvm.Cond.and given_1 narrow_1).before args s = true) (hr : rest_1_c.before args s = true) : ∃ (b : Addr) (xs : List Int32), lw_P b xs args s := by
  have hs := flat_of_before _ h
  have hq := flat_of_before _ hr
  have hc : (Cond.count 1).before args s = true := hs _ (by decide +kernel)
  have harr : (Cond.arrayOf (.arg 0) .int).before args s = true := hs _ (by decide +kernel)
  have hle : (Cond.le (.length (.arg 0)) (.int 260)).before args s = true := hs _ (by decide +kernel)
  have hlen : (Cond.isInt (.length (.arg 0))).before args s = true := hq _ (by decide +kernel)
  have hall : (Cond.all (.arg 0) (.isInt (.elem (.arg 0) (.index 0)))).before args s = true := hq _ (by decide +kernel)
  obtain ⟨b, xs, hb, hx⟩ := State.ints_of_pre rfl harr hlen hall
  have hsm : xs.length < 2 ^ 31 := hx.choose_spec.2.2.2
  have hev : (Term.length (.arg 0)).eval args s none [] s = some (.int xs.length.toInt32) := hx.length_eval hb
  have hv := Cond.le_ints hev (show (Term.int 260).eval args s none [] s = some (.int 260) from rfl)
  have hd : xs.length.toInt32 ≤ 260 := by
    simpa [Cond.before, Cond.holds, hv] using hle
  have hN : xs.length ≤ 260 := (Int32.ofNat_le_ofNat hsm (by decide)).mp (show Int32.ofNat xs.length ≤ Int32.ofNat 260 from hd)
  exact ⟨b, xs, Cond.one_arg hc (show args[0]? = some (.ref b) from hb), hx, hN, h⟩
theorem lw_comes (l : Launch) (hflags : l.flags = flags0) : Comes l x (Jvm.Cond.code x code maxLocals ret :: tables_1) room_1 (fun tb e args s => Calls_1 tb e args s ∧ rest_1 tb e args s ∧ Pre_1 tb e args s)
    (fun _ _ args s o t => lw_Q args s o t) := by
  intro p e ha hc hk s m args below hf hfit hheap happ hpre
  obtain ⟨b, xs, hP⟩ := lw_pre_spec hpre.2.2 hpre.2.1
  obtain ⟨k, o, h1, h2, h3, hQ⟩ := lw_walk l hflags b xs p e ha hc hk s m args below hf ((Spec.applies_iff_loose hf).mp happ).1 hP trivial
  exact ⟨k, o, h1, h2, h3, hQ⟩
theorem lw_frame {s t : State} {o : Outcome} {args : Array Value} (h : State.butDraws s t lw_cs (fun t1 => Framed s o t1 [] 887991 6437494)) :
    State.butDraws s t [Jvm.Choice.named "NaN.bits"] (fun t1 => Framed s o t1 (fieldLocs frame_1_writes args s ++ arrayLocs frame_1_arrays args s ++ staticLocs frame_1_statics s) 887991 6437494) := h
theorem lw_limb (L : Cond) (hL : ∀ (args : Array Value) (s t : State), L.after args s (.returned (some (.int 1))) t = true) :
    ArmFor flags0 classFile x code maxLocals ret World_1 tables_1 room_1 Calls_1 rest_1 Pre_1
      (fun tb e a s o t => postC L tb e a s o t ∧ State.butDraws s t [Jvm.Choice.named "NaN.bits"] (fun t1 => Framed s o t1 (fieldLocs frame_1_writes a s ++ arrayLocs frame_1_arrays a s ++ staticLocs frame_1_statics s) 887991 6437494)) := by
  intro l hflags _ _ p e ha hc hk s m args below hf hfit hheap happ hpre
  obtain ⟨k, o, h1, h2, h3, rfl, hF⟩ := lw_comes l hflags p e ha hc hk s m args below hf hfit hheap happ hpre
  exact ⟨k, _, h1, h2, h3, hL args s _, lw_frame hF⟩
theorem i_vc : Claimed_1_1 ∧ Claimed_1_2 := ⟨lw_limb limb_1_1 (fun args s t => by simp [limb_1_1, Cond.after, Cond.holds, Cond.value]), lw_limb limb_1_2 (fun args s t => Cond.after_iff.mpr (by
  first | (rw [show limb_1_2 = Cond.eq .result (.int 1) from rfl, Cond.eq_ints (x := 1) (y := 1) rfl rfl]; simp; done) | (simp [limb_1_2, Cond.value, Term.eval]; done)))⟩
