/-! flowers: a sweep, its end, what is left -/
section FLD
def upR (g : Nat → Int32) (k : Nat) : Int32 := if k = 0 then 0 else g (k - 1)
def dnR (g : Nat → Int32) (k : Nat) : Int32 := if k + 1 < 12 then g (k + 1) else 0
theorem flo_lo (g : Nat → Int32) {k : Nat} (hk : k ≤ 12) : sp_X0_flowerIn g (nI k - 1) = upR g k := by
  unfold sp_X0_flowerIn upR
  rcases k with _ | k
  · rw [if_pos (by decide), if_pos rfl]
  · rw [nI_pred, if_neg (nI_pos (by omega)), if_neg (show ¬ (12 : Int32) ≤ nI k from nI_ge (b := 12) (by omega) (by omega)), nI_clamp (by omega), if_neg (by omega), Nat.add_sub_cancel]
theorem flo_hi (g : Nat → Int32) {k : Nat} (hk : k < 12) : sp_X0_flowerIn g (nI (k + 1)) = dnR g k := by
  unfold sp_X0_flowerIn dnR
  by_cases h : k + 1 < 12
  · rw [if_neg (nI_pos (by omega)), if_neg (show ¬ (12 : Int32) ≤ nI (k + 1) from nI_ge (b := 12) (by omega) (by omega)), nI_clamp (by omega), if_pos h]
  · rw [if_neg (nI_pos (by omega)), if_pos (show (12 : Int32) ≤ nI (k + 1) from nI_le (a := 12) (by omega) (by omega)), if_neg h]
/-- cells from which, and from beside which, a flower comes to a cell -/
def rch (g : Nat → Int32) (k i : Nat) : Bool := bt (g k) i || (decide (1 ≤ i) && bt (g k) (i - 1)) || bt (g k) (i + 1) || bt (upR g k) i || bt (dnR g k) i
theorem wdv_bt (lf g : Nat → Int32) {k i : Nat} (hk : k < 12) (hi : i < 12) : bt (wdv lf g k) i = (rch g k i && bt (lf k) i) := by
  unfold wdv rch
  rw [flo_lo g (by omega), flo_hi g hk, b_and, b_or, b_or, b_or, b_or]
  have e1 : bt (g k <<< ((1 : Int32) &&& 31)) i = (decide (1 ≤ i) && bt (g k) (i - 1)) := b_shl 1 (by omega) (g k) (by omega)
  have e2 : bt (g k >>> ((1 : Int32) &&& 31)) i = bt (g k) (i + 1) := by
    have := b_sshr 1 (by omega) (g k) (i := i) (by omega)
    rw [if_pos (by omega), Nat.add_comm] at this
    exact this
  rw [e1, e2]
def inR (lf : Nat → Int32) : Prop := ∀ k, k < 12 → inC 12 (lf k)
def Sub (g lf : Nat → Int32) : Prop := ∀ k, k < 12 → ∀ i, bt (g k) i = true → bt (lf k) i = true
theorem wdv_in {lf g : Nat → Int32} {k : Nat} {i : Nat} (h : bt (wdv lf g k) i = true) : bt (lf k) i = true := by
  unfold wdv at h
  rw [b_and, Bool.and_eq_true] at h
  exact h.2
theorem inC_lt {x : Int32} (hx : inC 12 x) {i : Nat} (h : bt x i = true) : i < 12 := Nat.lt_of_not_le fun z => by rw [hx i z] at h; cases h
theorem wdv_keep {lf g : Nat → Int32} (hL : inR lf) (hs : Sub g lf) {k : Nat} (hk : k < 12) {i : Nat} (h : bt (g k) i = true) : bt (wdv lf g k) i = true := by
  have hl := hs k hk i h
  rw [wdv_bt lf g hk (inC_lt (hL k hk) hl), hl, Bool.and_true]
  unfold rch
  rw [h]; rfl
theorem upd_self (f : Nat → Int32) (k : Nat) : upd f k (f k) = f := by
  funext j
  by_cases e : j = k
  · rw [e, pk_us]
  · rw [pk_un e]
theorem Sub_upd {g lf : Nat → Int32} (hs : Sub g lf) {k : Nat} {v : Int32} (hv : ∀ i, bt v i = true → bt (lf k) i = true) : Sub (upd g k v) lf := by
  intro q hq i h
  by_cases e : q = k
  · rw [e, pk_us] at h; rw [e]; exact hv i h
  · rw [pk_un e] at h; exact hs q hq i h
theorem Sub_wdn {lf g : Nat → Int32} (hs : Sub g lf) : ∀ k, Sub (wdn lf g k) lf
  | 0 => hs
  | k + 1 => Sub_upd (Sub_wdn hs k) (fun _ h => wdv_in h)
theorem wdn_ge (lf g : Nat → Int32) : ∀ {k j : Nat}, k ≤ j → wdn lf g k j = g j
  | 0, _, _ => rfl
  | k + 1, j, h => by rw [wdn, pk_un (by omega), wdn_ge lf g (by omega)]
/-- nothing was wider: the flower is the same -/
theorem wdc_0 {lf g : Nat → Int32} : ∀ {k : Nat}, wdc lf g k = 0 → wdn lf g k = g ∧ ∀ q, q < k → wdv lf g q = g q
  | 0, _ => ⟨rfl, fun q h => absurd h (Nat.not_lt_zero _)⟩
  | k + 1, h => by
    rw [wdc] at h
    by_cases h1 : wdc lf g k = 0
    · rw [if_pos h1] at h
      obtain ⟨e1, e2⟩ := wdc_0 h1
      rw [e1] at h
      by_cases h2 : wdv lf g k = g k
      · refine ⟨by rw [wdn, e1, h2, upd_self], ?_⟩
        intro q hq
        by_cases e : q = k
        · rw [e]; exact h2
        · exact e2 q (by omega)
      · rw [if_neg h2] at h; exact absurd h (by decide)
    · rw [if_neg h1] at h; exact absurd h (by decide)
def Clo (g lf : Nat → Int32) : Prop := ∀ k, k < 12 → ∀ i, i < 12 → rch g k i = true → bt (lf k) i = true → bt (g k) i = true
theorem Clo_of {lf g : Nat → Int32} (h : ∀ q, q < 12 → wdv lf g q = g q) : Clo g lf := fun k hk i hi h1 h2 => by
  rw [← h k hk, wdv_bt lf g hk hi, h1, h2]; rfl
/-! size -/
def szr (x : Int32) : Nat → Nat
  | 0 => 0
  | i + 1 => szr x i + b2n (bt x i)
def sz (g : Nat → Int32) : Nat → Nat
  | 0 => 0
  | k + 1 => sz g k + szr (g k) 12
theorem szr_le (x : Int32) : ∀ i, szr x i ≤ i
  | 0 => Nat.le_refl _
  | i + 1 => by have := szr_le x i; have := b2n_le (bt x i); unfold szr; omega
theorem sz_le (g : Nat → Int32) : ∀ k, sz g k ≤ 12 * k
  | 0 => Nat.le_refl _
  | k + 1 => by have := sz_le g k; have := szr_le (g k) 12; unfold sz; omega
theorem b2n_mono {a b : Bool} (h : a = true → b = true) : b2n a ≤ b2n b := by
  cases a
  · exact Nat.zero_le _
  · rw [h rfl]; exact Nat.le_refl _
theorem szr_mono {x y : Int32} (h : ∀ i, bt x i = true → bt y i = true) : ∀ n, szr x n ≤ szr y n
  | 0 => Nat.le_refl _
  | n + 1 => by have := szr_mono h n; have := b2n_mono (h n); unfold szr; omega
theorem szr_lt {x y : Int32} (h : ∀ i, bt x i = true → bt y i = true) {i : Nat} (h1 : bt y i = true) (h2 : bt x i = false) : ∀ {n : Nat}, i < n → szr x n < szr y n
  | 0, hi => absurd hi (Nat.not_lt_zero _)
  | n + 1, hi => by
    unfold szr
    by_cases e : i = n
    · subst e
      have := szr_mono h i
      rw [h1, h2]
      show szr x i + 0 < szr y i + 1
      omega
    · have := szr_lt h h1 h2 (n := n) (by omega)
      have := b2n_mono (h n)
      omega
theorem sz_out {g : Nat → Int32} {k : Nat} {v : Int32} : ∀ {n : Nat}, n ≤ k → sz (upd g k v) n = sz g n
  | 0, _ => rfl
  | n + 1, h => by unfold sz; rw [sz_out (by omega), pk_un (by omega)]
theorem sz_upd {g : Nat → Int32} {k : Nat} {v : Int32} : ∀ {n : Nat}, k < n → sz (upd g k v) n + szr (g k) 12 = sz g n + szr v 12
  | 0, h => absurd h (Nat.not_lt_zero _)
  | n + 1, h => by
    unfold sz
    by_cases e : k = n
    · subst e; rw [sz_out (Nat.le_refl _), pk_us]; omega
    · have := sz_upd (g := g) (k := k) (v := v) (n := n) (by omega)
      rw [pk_un (Ne.symm e)]; omega
theorem bt_ne {x y : Int32} (h : x ≠ y) (hs : ∀ i, bt x i = true → bt y i = true) : ∃ i, bt y i = true ∧ bt x i = false := by
  refine Classical.byContradiction fun hn => h (b_ext fun i _ => ?_)
  cases hy : bt y i with
  | true =>
    cases hx : bt x i with
    | true => rfl
    | false => exact absurd ⟨i, hy, hx⟩ hn
  | false =>
    cases hx : bt x i with
    | true => rw [hs i hx] at hy; cases hy
    | false => rfl
theorem sz_wdn {lf g : Nat → Int32} (hL : inR lf) (hs : Sub g lf) : ∀ k, k ≤ 12 → sz g 12 + (if wdc lf g k = 0 then 0 else 1) ≤ sz (wdn lf g k) 12
  | 0, _ => by rw [if_pos (show wdc lf g 0 = 0 from rfl)]; exact Nat.le_refl _
  | k + 1, hk => by
    have ih := sz_wdn hL hs k (by omega)
    have hsk := Sub_wdn hs k
    have hu := sz_upd (g := wdn lf g k) (k := k) (v := wdv lf (wdn lf g k) k) (n := 12) (by omega)
    have hkeep : ∀ i, bt (wdn lf g k k) i = true → bt (wdv lf (wdn lf g k) k) i = true := fun i h => wdv_keep hL hsk (by omega) h
    have hm := szr_mono hkeep 12
    rw [wdc, wdn]
    by_cases h1 : wdc lf g k = 0
    · rw [if_pos h1] at ih ⊢
      by_cases h2 : wdv lf (wdn lf g k) k = wdn lf g k k
      · rw [if_pos h2, if_pos rfl]; omega
      · rw [if_neg h2, if_neg (by decide)]
        obtain ⟨i, hi1, hi2⟩ := bt_ne (Ne.symm h2) hkeep
        have := szr_lt hkeep hi1 hi2 (n := 12) (inC_lt (hL k (by omega)) (wdv_in hi1))
        omega
    · rw [if_neg h1] at ih ⊢
      rw [if_neg (by decide)]; omega
/-- the sweeps come to an end: what they come to is closed, in what is left, and holds what they began with -/
theorem pkg_ok {lf : Nat → Int32} (hL : inR lf) : ∀ (d : Nat) (g : Nat → Int32), Sub g lf → 145 ≤ sz g 12 + d → Sub (pkg lf d g) lf ∧ Clo (pkg lf d g) lf ∧ Sub g (pkg lf d g)
  | 0, g, _, h => by have := sz_le g 12; omega
  | d + 1, g, hs, h => by
    by_cases h1 : wdc lf g 12 = 0
    · obtain ⟨e1, e2⟩ := wdc_0 h1
      rw [pkg_end h1, e1]
      exact ⟨hs, Clo_of e2, fun _ _ _ h => h⟩
    · have hz := sz_wdn hL hs 12 (Nat.le_refl _)
      rw [if_neg h1] at hz
      rw [pkg_more h1]
      obtain ⟨a1, a2, a3⟩ := pkg_ok hL d (wdn lf g 12) (Sub_wdn hs 12) (by omega)
      refine ⟨a1, a2, fun k hk i h => a3 k hk i ?_⟩
      have key : ∀ q, q ≤ 12 → bt (wdn lf g q k) i = true := by
        intro q hq
        induction q with
        | zero => exact h
        | succ q ih =>
          rw [wdn]
          by_cases e : k = q
          · rw [e, pk_us]; rw [e] at ih; exact wdv_keep hL (Sub_wdn hs q) (by omega) (ih (by omega))
          · rw [pk_un e]; exact ih (by omega)
      exact key 12 (Nat.le_refl _)
/-- a flower grows in what is left as in the whole pane, where what is left is closed -/
theorem wdv_same {lf fz g : Nat → Int32} (hF : inR fz) (hlf : Sub lf fz) (hc : Clo lf fz) (hs : Sub g lf) {k : Nat} (hk : k < 12) : wdv lf g k = wdv fz g k := by
  apply b_ext
  intro i _
  by_cases hi : i < 12
  · rw [wdv_bt lf g hk hi, wdv_bt fz g hk hi]
    cases hr : rch g k i with
    | false => rfl
    | true =>
      rw [Bool.true_and, Bool.true_and]
      cases hz : bt (fz k) i with
      | false =>
        cases hl : bt (lf k) i with
        | false => rfl
        | true => rw [hlf k hk i hl] at hz; cases hz
      | true =>
        refine hc k hk i hi ?_ hz
        have m1 : ∀ j, bt (g k) j = true → bt (lf k) j = true := hs k hk
        have m2 : bt (upR g k) i = true → bt (upR lf k) i = true := by
          unfold upR; by_cases e : k = 0
          · rw [if_pos e, if_pos e]; exact fun h => h
          · rw [if_neg e, if_neg e]; exact hs _ (by omega) i
        have m3 : bt (dnR g k) i = true → bt (dnR lf k) i = true := by
          unfold dnR; by_cases e : k + 1 < 12
          · rw [if_pos e, if_pos e]; exact hs _ e i
          · rw [if_neg e, if_neg e]; exact fun h => h
        unfold rch at hr ⊢
        simp only [Bool.or_eq_true, Bool.and_eq_true, decide_eq_true_eq] at hr ⊢
        rcases hr with (((h | h) | h) | h) | h
        · exact Or.inl (Or.inl (Or.inl (Or.inl (m1 _ h))))
        · exact Or.inl (Or.inl (Or.inl (Or.inr ⟨h.1, m1 _ h.2⟩)))
        · exact Or.inl (Or.inl (Or.inr (m1 _ h)))
        · exact Or.inl (Or.inr (m2 h))
        · exact Or.inr (m3 h)
  · have n1 : bt (wdv lf g k) i = false := Bool.eq_false_iff.mpr fun h => hi (inC_lt (hF k hk) (hlf k hk i (wdv_in h)))
    have n2 : bt (wdv fz g k) i = false := Bool.eq_false_iff.mpr fun h => hi (inC_lt (hF k hk) (wdv_in h))
    rw [n1, n2]
theorem wdn_same {lf fz g : Nat → Int32} (hF : inR fz) (hlf : Sub lf fz) (hc : Clo lf fz) (hs : Sub g lf) : ∀ k, k ≤ 12 → wdn lf g k = wdn fz g k ∧ wdc lf g k = wdc fz g k
  | 0, _ => ⟨rfl, rfl⟩
  | k + 1, hk => by
    obtain ⟨e1, e2⟩ := wdn_same hF hlf hc hs k (by omega)
    have e3 := wdv_same hF hlf hc (Sub_wdn hs k) (k := k) (by omega)
    rw [wdn, wdn, wdc, wdc, ← e1, ← e2, e3]
    exact ⟨rfl, rfl⟩
theorem pkg_same {lf fz : Nat → Int32} (hF : inR fz) (hlf : Sub lf fz) (hc : Clo lf fz) : ∀ (d : Nat) (g : Nat → Int32), Sub g lf → pkg lf d g = pkg fz d g
  | 0, _, _ => rfl
  | d + 1, g, hs => by
    obtain ⟨e1, e2⟩ := wdn_same hF hlf hc hs 12 (Nat.le_refl _)
    rw [pkg, pkg, e2, e1]
    split
    · rfl
    · rw [← pkg_same hF hlf hc d (wdn fz g 12) (by rw [← e1]; exact Sub_wdn hs 12)]
end FLD
