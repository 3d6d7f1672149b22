/-! flowers are parts -/
section FLW
theorem pkF_ok {fz : Nat → Int32} (hF : inR fz) {c r : Nat} (hc : c < 12) (hr : r < 12) (h : bt (fz r) c = true) : Sub (pkF fz c r) fz ∧ Clo (pkF fz c r) fz ∧ bt (pkF fz c r r) c = true := by
  have h1 := sz_pk1 hc hr
  obtain ⟨h2, h3, h4⟩ := pkg_ok hF 144 (pk1 c r) (Sub_pk1 hc h) (by omega)
  exact ⟨h2, h3, h4 r hr c (by rw [bt_pk1 hc (by omega)]; simp)⟩
theorem pkF_same {fz lf : Nat → Int32} (hF : inR fz) (hlf : Sub lf fz) (hc : Clo lf fz) {c r : Nat} (hc1 : c < 12) (h : bt (lf r) c = true) : pkF lf c r = pkF fz c r := pkg_same hF hlf hc 144 (pk1 c r) (Sub_pk1 hc1 h)
theorem pkF_min {fz lf : Nat → Int32} (hF : inR fz) (hlf : Sub lf fz) (hc : Clo lf fz) {c r : Nat} (hc1 : c < 12) (hr : r < 12) (h : bt (lf r) c = true) : Sub (pkF fz c r) lf := by
  rw [← pkF_same hF hlf hc hc1 h]
  exact (pkF_ok (inR_Sub hF hlf) hc1 hr h).1
theorem Clo_in {fz lf g : Nat → Int32} (hlf : Sub lf fz) (h : Clo g fz) : Clo g lf := fun k hk i hi h1 h2 => h k hk i hi h1 (hlf k hk i h2)
theorem pkF_eq {fz : Nat → Int32} (hF : inR fz) {c r c' r' : Nat} (hc : c < 12) (hr : r < 12) (hr' : r' < 12) (h : bt (fz r) c = true) (hb : bt (pkF fz c r r') c' = true) {k : Nat} (hk : k < 12) : pkF fz c' r' k = pkF fz c r k := by
  obtain ⟨a1, a2, a3⟩ := pkF_ok hF hc hr h
  have hz' := a1 r' hr' c' hb
  have hc' : c' < 12 := inC_lt (hF r' hr') hz'
  obtain ⟨b1, b2, b3⟩ := pkF_ok hF hc' hr' hz'
  have hs := pkF_min hF a1 a2 hc' hr' hb
  have hback : bt (pkF fz c' r' r) c = true := by
    cases hq : bt (pkF fz c' r' r) c with
    | true => rfl
    | false =>
      have hcl := Clo_taL hF a1 a2 hs (Clo_in a1 b2)
      have hin : bt (taL (pkF fz c r) (pkF fz c' r') r) c = true := by rw [b_taL _ _ _ (by omega), a3, hq]; rfl
      have := pkF_min hF (Sub_tr Sub_taL a1) hcl hc hr hin r' hr' c' hb
      rw [(taL_t (inR_Sub hF a1) hr' this).2] at b3
      cases b3
  have hs2 := pkF_min hF b1 b2 hc hr hback
  apply b_ext
  intro i _
  cases h1 : bt (pkF fz c r k) i with
  | true => exact hs2 k hk i h1
  | false =>
    cases h2 : bt (pkF fz c' r' k) i with
    | false => rfl
    | true => rw [hs k hk i h2] at h1; cases h1
/-- what holds of a flower's first cell, and goes from a cell to those beside it, holds of the flower -/
def Spr (fz : Nat → Int32) (G : Nat → Nat → Prop) : Prop := ∀ k i, k < 12 → i < 12 → bt (fz k) i = true → (G k i ∨ (1 ≤ i ∧ G k (i - 1)) ∨ G k (i + 1) ∨ (1 ≤ k ∧ G (k - 1) i) ∨ (k + 1 < 12 ∧ G (k + 1) i)) → G k i
theorem wdn_ind {fz : Nat → Int32} (hF : inR fz) {G : Nat → Nat → Prop} (hG : Spr fz G) {g : Nat → Int32} (h : ∀ k, k < 12 → ∀ i, bt (g k) i = true → G k i) : ∀ n, n ≤ 12 → ∀ k, k < 12 → ∀ i, bt (wdn fz g n k) i = true → G k i
  | 0, _, k, hk, i, hb => h k hk i (by rw [wdn] at hb; exact hb)
  | n + 1, hn, k, hk, i, hb => by
    have ih := wdn_ind hF hG h n (by omega)
    rw [wdn] at hb
    by_cases e : k = n
    · subst e
      rw [pk_us] at hb
      have hz := wdv_in hb
      have hi := inC_lt (hF k hk) hz
      rw [wdv_bt fz _ hk hi, hz, Bool.and_true] at hb
      refine hG k i hk hi hz ?_
      unfold rch at hb
      simp only [Bool.or_eq_true, Bool.and_eq_true, decide_eq_true_eq] at hb
      rcases hb with (((h1 | h1) | h1) | h1) | h1
      · exact Or.inl (ih k hk i h1)
      · exact Or.inr (Or.inl ⟨h1.1, ih k hk _ h1.2⟩)
      · exact Or.inr (Or.inr (Or.inl (ih k hk _ h1)))
      · unfold upR at h1
        by_cases e0 : k = 0
        · rw [if_pos e0, b_0] at h1; cases h1
        · rw [if_neg e0] at h1
          exact Or.inr (Or.inr (Or.inr (Or.inl ⟨by omega, ih (k - 1) (by omega) i h1⟩)))
      · unfold dnR at h1
        by_cases e0 : k + 1 < 12
        · rw [if_pos e0] at h1
          exact Or.inr (Or.inr (Or.inr (Or.inr ⟨e0, ih (k + 1) e0 i h1⟩)))
        · rw [if_neg e0, b_0] at h1; cases h1
    · rw [pk_un e] at hb
      exact ih k hk i hb
theorem pkg_ind {fz : Nat → Int32} (hF : inR fz) {G : Nat → Nat → Prop} (hG : Spr fz G) (d : Nat) : ∀ (g : Nat → Int32), (∀ k, k < 12 → ∀ i, bt (g k) i = true → G k i) → ∀ k, k < 12 → ∀ i, bt (pkg fz d g k) i = true → G k i := by
  induction d with
  | zero => intro g h k hk i hb; exact h k hk i hb
  | succ d ih =>
    intro g h k hk i hb
    have hw := wdn_ind hF hG h 12 (Nat.le_refl _)
    by_cases h1 : wdc fz g 12 = 0
    · rw [pkg_end h1] at hb; exact hw k hk i hb
    · rw [pkg_more h1] at hb; exact ih _ hw k hk i hb
theorem pkF_ind {fz : Nat → Int32} (hF : inR fz) {G : Nat → Nat → Prop} (hG : Spr fz G) {c r : Nat} (hc : c < 12) (h : G r c) {k : Nat} (hk : k < 12) {i : Nat} (hb : bt (pkF fz c r k) i = true) : G k i :=
  pkg_ind hF hG 144 (pk1 c r) (fun q _ j hj => by obtain ⟨e1, e2⟩ := pk1_in hc hj; rw [e1, e2]; exact h) k hk i hb
/-! cells by their numbers: row by row -/
variable {C R : Nat} {fz : Nat → Int32}
theorem ix_lt (hC : 0 < C) {i : Nat} (h : i < R * C) : i / C < R ∧ i % C < C := ⟨Nat.div_lt_of_lt_mul (by rw [Nat.mul_comm]; exact h), Nat.mod_lt _ hC⟩
theorem ix_mk {r c : Nat} (hr : r < R) (hc : c < C) : r * C + c < R * C ∧ (r * C + c) / C = r ∧ (r * C + c) % C = c := by
  have h0 : 0 < C := by omega
  refine ⟨?_, ?_, ?_⟩
  · have := Nat.mul_le_mul_right C (show r + 1 ≤ R by omega)
    rw [Nat.succ_mul] at this
    omega
  · rw [Nat.mul_comm, Nat.mul_add_div h0, Nat.div_eq_of_lt hc, Nat.add_zero]
  · rw [Nat.mul_comm, Nat.mul_add_mod, Nat.mod_eq_of_lt hc]
theorem ix_eq (i : Nat) : i / C * C + i % C = i := Nat.div_add_mod' i C
def fE (C : Nat) (fz : Nat → Int32) (i j : Nat) : Bool := bt (fz (i / C)) (i % C) && bt (pkF fz (i % C) (i / C) (j / C)) (j % C)
theorem fE_self (hI : IV C R fz) (hC0 : 0 < C) (hC : C ≤ 12) (hR : R ≤ 12) {i : Nat} (hi : i < R * C) : fE C fz i i = bt (fz (i / C)) (i % C) := by
  obtain ⟨h1, h2⟩ := ix_lt hC0 hi
  unfold fE
  cases h : bt (fz (i / C)) (i % C) with
  | false => rfl
  | true => rw [(pkF_ok (IV_R hI hC) (show i % C < 12 by omega) (show i / C < 12 by omega) h).2.2]; rfl
theorem fE_par (hI : IV C R fz) (hC0 : 0 < C) (hC : C ≤ 12) (hR : R ≤ 12) : Par (R * C) (fE C fz) := by
  intro i j hi hj he
  have hF := IV_R hI hC
  obtain ⟨hr, hc⟩ := ix_lt hC0 hi
  obtain ⟨hr', hc'⟩ := ix_lt hC0 hj
  have he0 := he
  unfold fE at he
  rw [Bool.and_eq_true] at he
  have hz' := (pkF_ok hF (by omega) (by omega) he.1).1 _ (by omega) _ he.2
  refine ⟨by rw [fE_self hI hC0 hC hR hi]; exact he.1, by rw [fE_self hI hC0 hC hR hj]; exact hz', fun k hk => ?_⟩
  obtain ⟨hrk, hck⟩ := ix_lt hC0 hk
  unfold fE
  rw [he.1, hz', Bool.true_and, Bool.true_and, pkF_eq hF (by omega) (by omega) (by omega) he.1 he.2 (show k / C < 12 by omega)]
/-- cells beside each other are in one flower -/
theorem fE_adj (hI : IV C R fz) (hC0 : 0 < C) (hC : C ≤ 12) (hR : R ≤ 12) {i j : Nat} (hi : i < R * C) (hj : j < R * C) (h1 : bt (fz (i / C)) (i % C) = true) (h2 : bt (fz (j / C)) (j % C) = true)
    (ha : (i / C = j / C ∧ (i % C = j % C + 1 ∨ i % C + 1 = j % C)) ∨ (i % C = j % C ∧ (i / C = j / C + 1 ∨ i / C + 1 = j / C))) : fE C fz i j = true := by
  have hF := IV_R hI hC
  obtain ⟨hr, hc⟩ := ix_lt hC0 hi
  obtain ⟨hr', hc'⟩ := ix_lt hC0 hj
  obtain ⟨a1, a2, a3⟩ := pkF_ok hF (show i % C < 12 by omega) (show i / C < 12 by omega) h1
  unfold fE
  rw [h1, Bool.true_and]
  refine a2 _ (by omega) _ (by omega) ?_ h2
  unfold rch
  simp only [Bool.or_eq_true, Bool.and_eq_true, decide_eq_true_eq]
  rcases ha with ⟨e1, e2 | e2⟩ | ⟨e1, e2 | e2⟩
  · refine Or.inl (Or.inl (Or.inr ?_)); rw [← e1, ← e2]; exact a3
  · refine Or.inl (Or.inl (Or.inl (Or.inr ⟨by omega, ?_⟩))); rw [← e1, ← e2, Nat.add_sub_cancel]; exact a3
  · refine Or.inr ?_; unfold dnR; rw [if_pos (by omega), ← e1, ← e2]; exact a3
  · refine Or.inl (Or.inr ?_); unfold upR; rw [if_neg (fun z => by rw [z] at e2; exact absurd e2 (Nat.succ_ne_zero _)), ← e1, ← e2, Nat.add_sub_cancel]; exact a3
/-! counting bits -/
theorem bc_tab : (List.range 4096).all (fun m => decide (bc (nI m) = nI (szr (nI m) 12))) = true := by decide +kernel
theorem inC_nI {x : Int32} (hx : inC 12 x) : ∃ m, m < 4096 ∧ x = nI m := by
  refine ⟨x.toBitVec.toNat, ?_, ?_⟩
  · refine Nat.lt_pow_two_of_testBit (n := 12) _ fun i hi => ?_
    have := hx i hi
    unfold bt at this
    rw [← BitVec.testBit_toNat] at this
    exact this
  · apply Int32.toBitVec_inj.mp
    show x.toBitVec = (Int32.ofNat x.toBitVec.toNat).toBitVec
    rw [Int32.toBitVec_ofNat']
    simp
theorem bc_n {x : Int32} (hx : inC 12 x) : bc x = nI (szr x 12) := by
  obtain ⟨m, hm, rfl⟩ := inC_nI hx
  have := List.all_eq_true.mp bc_tab m (List.mem_range.mpr hm)
  exact of_decide_eq_true this
theorem szr_sm (x : Int32) : ∀ n, szr x n = sm (fun i => b2n (bt x i)) n
  | 0 => rfl
  | n + 1 => by rw [szr, sm, szr_sm x n]
theorem sz_sm (g : Nat → Int32) : ∀ n, sz g n = sm (fun r => sm (fun i => b2n (bt (g r) i)) 12) n
  | 0 => rfl
  | n + 1 => by rw [sz, sm, sz_sm g n, szr_sm]
theorem sm_cut {f : Nat → Nat} {a : Nat} : ∀ {n : Nat}, (∀ i, a ≤ i → i < n → f i = 0) → a ≤ n → sm f n = sm f a
  | 0, _, h2 => by rw [show a = 0 by omega]
  | n + 1, h, h2 => by
    by_cases e : a = n + 1
    · rw [e]
    · rw [sm, h n (by omega) (by omega), Nat.add_zero]; exact sm_cut (fun i h3 h4 => h i h3 (by omega)) (by omega)
theorem szr_C {x : Int32} (hx : inC C x) (hC : C ≤ 12) : szr x 12 = sm (fun i => b2n (bt x i)) C := by
  rw [szr_sm]
  exact sm_cut (fun i hi _ => b2n_f (hx i hi)) hC
/-- the cells of rows, by their numbers -/
theorem sz_ix {g : Nat → Int32} (hI : IV C R g) (hC0 : 0 < C) (hC : C ≤ 12) (hR : R ≤ 12) : sz g 12 = sm (fun i => b2n (bt (g (i / C)) (i % C))) (R * C) := by
  rw [sz_sm, sm_cut (a := R) (fun r hr h12 => sm_0 fun i _ => by rw [hI.2 r hr h12, b_0]; rfl) hR, ← sm_flat (fun r c => b2n (bt (g r) c)) hC0]
  exact sm_congr fun r hr => by rw [← szr_sm, szr_C (hI.1 r hr) hC]
theorem tac_n {g : Nat → Int32} (hg : inR g) : ∀ k, k ≤ 12 → tac g k = nI (sz g k)
  | 0, _ => rfl
  | k + 1, hk => by rw [tac, sz, tac_n hg k (by omega), bc_n (hg k (by omega)), nI_add]
end FLW
