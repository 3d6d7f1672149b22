/-! sums, and cells that are parted -/
section PAR
def sm (f : Nat → Nat) : Nat → Nat
  | 0 => 0
  | n + 1 => sm f n + f n
theorem sm_congr {f g : Nat → Nat} : ∀ {n : Nat}, (∀ i, i < n → f i = g i) → sm f n = sm g n
  | 0, _ => rfl
  | n + 1, h => by rw [sm, sm, sm_congr (fun i hi => h i (by omega)), h n (by omega)]
theorem sm_add (f g : Nat → Nat) : ∀ n, sm (fun i => f i + g i) n = sm f n + sm g n
  | 0 => rfl
  | n + 1 => by rw [sm, sm, sm, sm_add f g n]; omega
theorem sm_zero : ∀ n, sm (fun _ => 0) n = 0
  | 0 => rfl
  | n + 1 => by rw [sm, sm_zero n]
theorem sm_const (k : Nat) : ∀ n, sm (fun _ => k) n = n * k
  | 0 => by rw [sm, Nat.zero_mul]
  | n + 1 => by rw [sm, sm_const k n, Nat.succ_mul]
theorem sm_swap (f : Nat → Nat → Nat) (m : Nat) : ∀ n, sm (fun i => sm (f i) m) n = sm (fun j => sm (fun i => f i j) n) m
  | 0 => by show 0 = sm (fun _ => 0) m; rw [sm_zero]
  | n + 1 => by
    rw [sm, sm_swap f m n, ← sm_add]
    rfl
theorem sm_mul (k : Nat) (f : Nat → Nat) : ∀ n, sm (fun i => k * f i) n = k * sm f n
  | 0 => by rw [sm, sm, Nat.mul_zero]
  | n + 1 => by rw [sm, sm, sm_mul k f n, Nat.mul_add]
theorem sm_0 {f : Nat → Nat} {n : Nat} (h : ∀ i, i < n → f i = 0) : sm f n = 0 := (sm_congr h).trans (sm_zero n)
theorem sm_one {f : Nat → Nat} {p v : Nat} : ∀ {n : Nat}, p < n → f p = v → (∀ i, i < n → i ≠ p → f i = 0) → sm f n = v
  | 0, h, _, _ => absurd h (Nat.not_lt_zero _)
  | n + 1, h, hv, h0 => by
    rw [sm]
    by_cases e : p = n
    · rw [← e, hv, sm_0 (fun i hi => h0 i (by omega) (by omega)), Nat.zero_add]
    · rw [sm_one (by omega) hv (fun i hi hn => h0 i (by omega) hn), h0 n (by omega) (fun q => e q.symm), Nat.add_zero]
theorem sm_ge {f : Nat → Nat} {i : Nat} : ∀ {n : Nat}, i < n → f i ≤ sm f n
  | 0, h => absurd h (Nat.not_lt_zero _)
  | n + 1, h => by
    rw [sm]
    by_cases e : i = n
    · rw [e]; omega
    · have := sm_ge (f := f) (i := i) (n := n) (by omega); omega
theorem sm_le {f g : Nat → Nat} : ∀ {n : Nat}, (∀ i, i < n → f i ≤ g i) → sm f n ≤ sm g n
  | 0, _ => Nat.le_refl _
  | n + 1, h => by
    have h1 := sm_le (f := f) (g := g) (n := n) (fun i hi => h i (by omega))
    have h2 := h n (by omega)
    rw [sm, sm]; omega
theorem sm_z {f : Nat → Nat} {n : Nat} (h : sm f n = 0) {i : Nat} (hi : i < n) : f i = 0 := by
  have := sm_ge (f := f) hi; omega
theorem sm_split (f : Nat → Nat) (a : Nat) : ∀ b, sm f (a + b) = sm f a + sm (fun i => f (a + i)) b
  | 0 => by rw [Nat.add_zero, sm, Nat.add_zero]
  | b + 1 => by rw [← Nat.add_assoc, sm, sm, sm_split f a b, Nat.add_assoc]
/-- rows of columns, one after the other -/
theorem sm_flat (g : Nat → Nat → Nat) {C : Nat} (hC : 0 < C) : ∀ R, sm (fun r => sm (g r) C) R = sm (fun i => g (i / C) (i % C)) (R * C)
  | 0 => by rw [sm, Nat.zero_mul, sm]
  | R + 1 => by
    rw [sm, sm_flat g hC R, Nat.succ_mul, sm_split]
    congr 1
    refine sm_congr fun i hi => ?_
    rw [Nat.mul_comm R C, Nat.mul_add_div hC, Nat.mul_add_mod, Nat.div_eq_of_lt hi, Nat.mod_eq_of_lt hi, Nat.add_zero]
def b2 (b : Bool) : Nat := b2n b
theorem b2n_t {b : Bool} (h : b = true) : b2n b = 1 := by rw [h]; rfl
theorem b2n_f {b : Bool} (h : b = false) : b2n b = 0 := by rw [h]; rfl
/-! the largest -/
def mx (f : Nat → Nat) : Nat → Nat
  | 0 => 0
  | n + 1 => if mx f n < f n then f n else mx f n
theorem mx_ge {f : Nat → Nat} {i : Nat} : ∀ {n : Nat}, i < n → f i ≤ mx f n
  | 0, h => absurd h (Nat.not_lt_zero _)
  | n + 1, h => by
    rw [mx]
    by_cases e : i = n
    · subst e; split <;> omega
    · have := mx_ge (f := f) (i := i) (n := n) (by omega)
      split <;> omega
theorem mx_at {f : Nat → Nat} : ∀ n : Nat, mx f n = 0 ∨ ∃ i, i < n ∧ f i = mx f n
  | 0 => Or.inl rfl
  | n + 1 => by
    rw [mx]
    split
    · exact Or.inr ⟨n, by omega, rfl⟩
    · rcases mx_at (f := f) n with h | ⟨i, h1, h2⟩
      · exact Or.inl h
      · exact Or.inr ⟨i, by omega, h2⟩
theorem mx_eq {f g : Nat → Nat} {n m : Nat} (h1 : ∀ i, i < n → f i ≠ 0 → ∃ j, j < m ∧ g j = f i) (h2 : ∀ j, j < m → g j ≠ 0 → ∃ i, i < n ∧ f i = g j) : mx f n = mx g m := by
  apply Nat.le_antisymm
  · rcases mx_at (f := f) n with h | ⟨i, hi, he⟩
    · omega
    · by_cases h0 : f i = 0
      · omega
      · obtain ⟨j, hj, e⟩ := h1 i hi h0
        have := mx_ge (f := g) hj
        omega
  · rcases mx_at (f := g) m with h | ⟨i, hi, he⟩
    · omega
    · by_cases h0 : g i = 0
      · omega
      · obtain ⟨j, hj, e⟩ := h2 i hi h0
        have := mx_ge (f := f) hj
        omega
/-! parts: E i j says that i and j are in one part -/
def Par (N : Nat) (E : Nat → Nat → Bool) : Prop := ∀ i j, i < N → j < N → E i j = true → E i i = true ∧ E j j = true ∧ ∀ k, k < N → E i k = E j k
def psz (N : Nat) (E : Nat → Nat → Bool) (i : Nat) : Nat := sm (fun j => b2n (E i j)) N
def prp (E : Nat → Nat → Bool) (i : Nat) : Bool := E i i && decide (sm (fun j => b2n (E i j)) i = 0)
variable {N : Nat} {E : Nat → Nat → Bool}
theorem prp_t {i : Nat} (h : prp E i = true) : E i i = true ∧ ∀ j, j < i → E i j = false := by
  unfold prp at h
  rw [Bool.and_eq_true, decide_eq_true_eq] at h
  refine ⟨h.1, fun j hj => ?_⟩
  have := sm_z h.2 hj
  cases he : E i j with
  | false => rfl
  | true => rw [he] at this; cases this
theorem prp_of {i : Nat} (h1 : E i i = true) (h2 : ∀ j, j < i → E i j = false) : prp E i = true := by
  unfold prp
  rw [h1, Bool.true_and, decide_eq_true_eq]
  exact sm_0 fun j hj => b2n_f (h2 j hj)
theorem par_sym (h : Par N E) {i j : Nat} (hi : i < N) (hj : j < N) (he : E i j = true) : E j i = true := by
  obtain ⟨h1, h2, h3⟩ := h i j hi hj he
  rw [← h3 i hi]; exact h1
theorem par_tr (h : Par N E) {i j k : Nat} (hi : i < N) (hj : j < N) (hk : k < N) (h1 : E i j = true) (h2 : E j k = true) : E i k = true := by
  rw [(h i j hi hj h1).2.2 k hk]; exact h2
theorem psz_eq (h : Par N E) {i j : Nat} (hi : i < N) (hj : j < N) (he : E i j = true) : psz N E i = psz N E j := sm_congr fun k hk => by rw [(h i j hi hj he).2.2 k hk]
theorem prp_ex (h : Par N E) : ∀ i, i < N → E i i = true → ∃ p, p ≤ i ∧ prp E p = true ∧ E p i = true := by
  intro i
  induction i using Nat.strongRecOn with
  | _ i ih =>
    intro hi he
    by_cases hx : ∀ j, j < i → E i j = false
    · exact ⟨i, Nat.le_refl _, prp_of he hx, he⟩
    · have : ∃ j, j < i ∧ E i j = true := by
        refine Classical.byContradiction fun hn => hx fun j hj => ?_
        cases hq : E i j with
        | false => rfl
        | true => exact absurd ⟨j, hj, hq⟩ hn
      obtain ⟨j, hj, hq⟩ := this
      obtain ⟨p, hp, hr, hpj⟩ := ih j hj (by omega) (h i j hi (by omega) hq).2.1
      exact ⟨p, by omega, hr, par_tr h (by omega) (by omega) hi hpj (par_sym h hi (by omega) hq)⟩
theorem prp_un (h : Par N E) {p q i : Nat} (hp : p < N) (hq : q < N) (hi : i < N) (h1 : prp E p = true) (h2 : prp E q = true) (e1 : E p i = true) (e2 : E q i = true) : p = q := by
  have a := par_tr h hp hi hq e1 (par_sym h hq hi e2)
  have b := par_sym h hp hq a
  rcases Nat.lt_trichotomy p q with hl | hl | hl
  · rw [(prp_t h2).2 p hl] at b; cases b
  · exact hl
  · rw [(prp_t h1).2 q hl] at a; cases a
theorem psz_pos {i : Nat} (hi : i < N) (he : E i i = true) : 0 < psz N E i := by
  have := sm_ge (f := fun j => b2n (E i j)) hi
  unfold psz
  have h1 : b2n (E i i) = 1 := b2n_t he
  omega
theorem psz_le (i : Nat) : psz N E i ≤ N := by
  unfold psz
  have := sm_le (f := fun j => b2n (E i j)) (g := fun _ => 1) (n := N) (fun j _ => b2n_le _)
  rw [sm_const] at this
  omega
/-- how many cells lie in parts of k cells -/
def pcn (N : Nat) (E : Nat → Nat → Bool) (k : Nat) : Nat := sm (fun i => b2n (E i i && decide (psz N E i = k))) N
/-- how many parts have k cells -/
def ppn (N : Nat) (E : Nat → Nat → Bool) (k : Nat) : Nat := sm (fun p => b2n (prp E p && decide (psz N E p = k))) N
theorem par_cnt (h : Par N E) (k : Nat) : pcn N E k = k * ppn N E k := by
  have h1 : pcn N E k = sm (fun i => sm (fun p => b2n (prp E p && decide (psz N E p = k) && E p i)) N) N := by
    refine sm_congr fun i hi => ?_
    cases he : E i i with
    | false =>
      rw [Bool.false_and]
      refine (sm_0 fun p hp => ?_).symm
      cases hq : E p i with
      | false => rw [Bool.and_false]; rfl
      | true => rw [(h p i hp hi hq).2.1] at he; cases he
    | true =>
      obtain ⟨p0, hp0, hr0, hq0⟩ := prp_ex h i hi he
      refine (sm_one (p := p0) (by omega) ?_ fun p hp hne => ?_).symm
      · rw [hr0, hq0, psz_eq h (by omega) hi hq0, Bool.true_and, Bool.and_true]
      · cases hr : prp E p with
        | false => rfl
        | true =>
          cases hq : E p i with
          | false => rw [Bool.and_false]; rfl
          | true => exact absurd (prp_un h hp (by omega) hi hr hr0 hq hq0) hne
  rw [h1, sm_swap (fun i p => b2n (prp E p && decide (psz N E p = k) && E p i)) N N]
  unfold ppn
  rw [← sm_mul]
  refine sm_congr fun p hp => ?_
  cases hb : prp E p && decide (psz N E p = k) with
  | false => rw [b2n_f rfl, Nat.mul_zero]; exact sm_0 fun i _ => by rw [Bool.false_and]; rfl
  | true =>
    rw [Bool.and_eq_true, decide_eq_true_eq] at hb
    rw [b2n_t rfl, Nat.mul_one]
    exact (sm_congr fun i _ => by rw [Bool.true_and]).trans hb.2
theorem par_parts (h : Par N E) : sm (fun j => pcn N E (j + 1) / (j + 1)) N = sm (fun p => b2n (prp E p)) N := by
  have h1 : sm (fun j => pcn N E (j + 1) / (j + 1)) N = sm (fun j => sm (fun p => b2n (prp E p && decide (psz N E p = j + 1))) N) N :=
    sm_congr fun j _ => by rw [par_cnt h, Nat.mul_div_cancel_left _ (Nat.succ_pos j)]; rfl
  rw [h1, sm_swap (fun j p => b2n (prp E p && decide (psz N E p = j + 1))) N N]
  refine sm_congr fun p hp => ?_
  cases hr : prp E p with
  | false => exact sm_0 fun j _ => by rw [Bool.false_and]; rfl
  | true =>
    have hpos := psz_pos hp (prp_t hr).1
    have hle := psz_le (N := N) (E := E) p
    refine sm_one (p := psz N E p - 1) (by omega) ?_ fun j _ hne => ?_
    · rw [show psz N E p - 1 + 1 = psz N E p by omega]; simp [b2n]
    · rw [show decide (psz N E p = j + 1) = false from decide_eq_false (by omega)]; rfl
/-- the size of a cell's part; 0 for cells in none -/
def pat (N : Nat) (E : Nat → Nat → Bool) (i : Nat) : Nat := if E i i = true then psz N E i else 0
theorem pat_le (i : Nat) : pat N E i ≤ N := by
  unfold pat
  split
  · exact psz_le i
  · exact Nat.zero_le _
theorem pcn_pat (k : Nat) : pcn N E (k + 1) = sm (fun i => b2n (decide (pat N E i = k + 1))) N := sm_congr fun i _ => by
  unfold pat
  cases he : E i i with
  | false => rw [Bool.false_and]; rfl
  | true => rw [Bool.true_and]; rfl
/-- the law's own largest -/
def plg (f : Nat → Nat) : Nat → Nat
  | 0 => 0
  | k + 1 => if 0 < f (k + 1) then k + 1 else plg f k
theorem plg_ge {f : Nat → Nat} {s : Nat} : ∀ {k : Nat}, 1 ≤ s → s ≤ k → 0 < f s → s ≤ plg f k
  | 0, h1, h2, _ => by omega
  | k + 1, h1, h2, h => by
    rw [plg]
    by_cases e : s = k + 1
    · rw [← e, if_pos h]; exact Nat.le_refl _
    · split
      · omega
      · exact plg_ge h1 (by omega) h
theorem plg_at {f : Nat → Nat} : ∀ k : Nat, plg f k = 0 ∨ (1 ≤ plg f k ∧ plg f k ≤ k ∧ 0 < f (plg f k))
  | 0 => Or.inl rfl
  | k + 1 => by
    rw [plg]
    by_cases h : 0 < f (k + 1)
    · rw [if_pos h]; exact Or.inr ⟨by omega, by omega, h⟩
    · rw [if_neg h]
      rcases plg_at (f := f) k with h | ⟨h1, h2, h3⟩
      · exact Or.inl h
      · exact Or.inr ⟨h1, by omega, h3⟩
theorem sm_ex {f : Nat → Nat} : ∀ {n : Nat}, 0 < sm f n → ∃ i, i < n ∧ 0 < f i
  | 0, h => absurd h (Nat.lt_irrefl _)
  | n + 1, h => by
    rw [sm] at h
    by_cases h2 : 0 < f n
    · exact ⟨n, by omega, h2⟩
    · obtain ⟨i, h3, h4⟩ := sm_ex (f := f) (n := n) (by omega)
      exact ⟨i, by omega, h4⟩
theorem par_largest : plg (pcn N E) N = mx (pat N E) N := by
  apply Nat.le_antisymm
  · rcases plg_at (f := pcn N E) N with h | ⟨h1, h2, h3⟩
    · omega
    · obtain ⟨i, hi, h4⟩ := sm_ex h3
      have : pat N E i = plg (pcn N E) N := by
        unfold pat
        cases he : E i i with
        | false => rw [he, Bool.false_and] at h4; cases h4
        | true =>
          rw [he, Bool.true_and] at h4
          by_cases hd : psz N E i = plg (pcn N E) N
          · rw [if_pos rfl]; exact hd
          · rw [show decide (psz N E i = plg (pcn N E) N) = false from decide_eq_false hd] at h4; cases h4
      have := mx_ge (f := pat N E) hi
      omega
  · rcases mx_at (f := pat N E) N with h | ⟨i, hi, he⟩
    · omega
    · by_cases h0 : pat N E i = 0
      · omega
      · have hle := pat_le (N := N) (E := E) i
        obtain ⟨k, hk⟩ : ∃ k, pat N E i = k + 1 := ⟨pat N E i - 1, by omega⟩
        have h5 : 0 < pcn N E (pat N E i) := by
          rw [hk, pcn_pat]
          have := sm_ge (f := fun i => b2n (decide (pat N E i = k + 1))) hi
          have h6 : b2n (decide (pat N E i = k + 1)) = 1 := b2n_t (decide_eq_true hk)
          omega
        have := plg_ge (f := pcn N E) (k := N) (by omega) hle h5
        omega
/-- the largest among the first ones of parts -/
theorem par_reps (h : Par N E) : mx (fun p => if prp E p = true then psz N E p else 0) N = mx (pat N E) N := by
  refine mx_eq (fun p hp h0 => ?_) fun i hi h0 => ?_
  · by_cases hr : prp E p = true
    · refine ⟨p, hp, ?_⟩
      rw [if_pos hr]; unfold pat; rw [if_pos (prp_t hr).1]
    · rw [if_neg hr] at h0; exact absurd rfl h0
  · unfold pat at h0 ⊢
    by_cases he : E i i = true
    · obtain ⟨p, hp, hr, hq⟩ := prp_ex h i hi he
      exact ⟨p, by omega, by rw [if_pos hr, if_pos he]; exact psz_eq h (by omega) hi hq⟩
    · rw [if_neg he] at h0; exact absurd rfl h0
/-! a number for each cell, the same for those of one part alone: 1 + its first one -/
def Lbl (N : Nat) (E : Nat → Nat → Bool) (g : Nat → Nat) : Prop := ∀ i, i < N → (E i i = false → g i = 0) ∧ ∀ p, p < N → prp E p = true → E p i = true → g i = p + 1
def lcn (N : Nat) (g : Nat → Nat) (k : Nat) : Nat := sm (fun i => b2n (decide (g i = k))) N
theorem lbl_cnt (h : Par N E) {g : Nat → Nat} (hg : Lbl N E g) {p : Nat} (hp : p < N) : lcn N g (p + 1) = if prp E p = true then psz N E p else 0 := by
  have key : ∀ i, i < N → (g i = p + 1 ↔ prp E p = true ∧ E p i = true) := fun i hi => by
    constructor
    · intro e
      cases he : E i i with
      | false => rw [(hg i hi).1 he] at e; cases e
      | true =>
        obtain ⟨q, hq, hr, hqi⟩ := prp_ex h i hi he
        have := (hg i hi).2 q (by omega) hr hqi
        have : q = p := by omega
        subst this
        exact ⟨hr, hqi⟩
    · intro e
      exact (hg i hi).2 p hp e.1 e.2
  by_cases hr : prp E p = true
  · rw [if_pos hr]
    refine sm_congr fun i hi => ?_
    by_cases he : E p i = true
    · rw [he, decide_eq_true ((key i hi).mpr ⟨hr, he⟩)]
    · rw [Bool.not_eq_true] at he
      rw [he, decide_eq_false fun q => by rw [((key i hi).mp q).2] at he; cases he]
  · rw [if_neg hr]
    exact sm_0 fun i hi => b2n_f (decide_eq_false fun q => hr ((key i hi).mp q).1)
theorem lbl_parts (h : Par N E) {g : Nat → Nat} (hg : Lbl N E g) : sm (fun p => b2n (decide (0 < lcn N g (p + 1)))) N = sm (fun p => b2n (prp E p)) N := sm_congr fun p hp => by
  rw [lbl_cnt h hg hp]
  cases hr : prp E p with
  | false => rfl
  | true => rw [if_pos rfl, decide_eq_true (psz_pos hp (prp_t hr).1)]
theorem lbl_largest (h : Par N E) {g : Nat → Nat} (hg : Lbl N E g) : mx (fun p => lcn N g (p + 1)) N = mx (pat N E) N := by
  rw [← par_reps h]
  refine mx_eq (fun p hp _ => ⟨p, hp, (lbl_cnt h hg hp).symm⟩) fun p hp _ => ⟨p, hp, lbl_cnt h hg hp⟩
theorem lbl_at (h : Par N E) {g : Nat → Nat} (hg : Lbl N E g) {i : Nat} (hi : i < N) (he : E i i = true) : lcn N g (g i) = psz N E i := by
  obtain ⟨p, hp, hr, hpi⟩ := prp_ex h i hi he
  rw [(hg i hi).2 p (by omega) hr hpi, lbl_cnt h hg (by omega), if_pos hr]
  exact psz_eq h (by omega) hi hpi
end PAR
