/-! the class's scan over the flowers; the labels of the law's own pane -/
section SCN
variable {C R : Nat} {fz : Nat → Int32}
theorem IV_Sub {g : Nat → Int32} (hI : IV C R fz) (hC : C ≤ 12) (hs : Sub g fz) (hR : R ≤ 12) : IV C R g := by
  refine ⟨fun r hr i hi => ?_, fun r hr h12 => b_ext fun i _ => ?_⟩
  · cases h : bt (g r) i with
    | false => rfl
    | true => have := hI.1 r hr i hi; rw [hs r (by omega) i h] at this; cases this
  · rw [b_0]
    cases h : bt (g r) i with
    | false => rfl
    | true => have := hs r h12 i h; rw [hI.2 r hr h12, b_0] at this; cases this
/-- a flower's size -/
theorem flo_sz (hI : IV C R fz) (hC0 : 0 < C) (hC : C ≤ 12) (hR : R ≤ 12) {i : Nat} (hi : i < R * C) (h : bt (fz (i / C)) (i % C) = true) : tac (pkF fz (i % C) (i / C)) 12 = nI (psz (R * C) (fE C fz) i) := by
  obtain ⟨hr, hc⟩ := ix_lt hC0 hi
  have hF := IV_R hI hC
  obtain ⟨a1, a2, a3⟩ := pkF_ok hF (show i % C < 12 by omega) (show i / C < 12 by omega) h
  rw [tac_n (inR_Sub hF a1) 12 (Nat.le_refl _), sz_ix (IV_Sub hI hC a1 hR) hC0 hC hR]
  refine congrArg nI (sm_congr fun j _ => ?_)
  unfold fE
  rw [h, Bool.true_and]
theorem pkr_n (hI : IV C R fz) (hC0 : 0 < C) (hC : C ≤ 12) (hR : R ≤ 12) {i : Nat} (hi : i < R * C) : pkr fz (i % C) (i / C) = nI (pat (R * C) (fE C fz) i) := by
  obtain ⟨hr, hc⟩ := ix_lt hC0 hi
  unfold pkr pat
  rw [fE_self hI hC0 hC hR hi]
  cases h : bt (fz (i / C)) (i % C) with
  | false => rw [if_pos ((bit_0 _ (by omega)).mpr h), if_neg (by decide)]; rfl
  | true => rw [if_neg (fun z => by rw [(bit_0 _ (by omega)).mp z] at h; cases h), if_pos rfl]; exact flo_sz hI hC0 hC hR hi h
/-- what is left when the cells before i0 are picked -/
def Lft (C R : Nat) (fz lf : Nat → Int32) (i0 : Nat) : Prop := Sub lf fz ∧ Clo lf fz ∧ ∀ j, j < R * C → bt (lf (j / C)) (j % C) = (fE C fz j j && decide (sm (fun i => b2n (fE C fz i j)) i0 = 0))
theorem lft_0 (hI : IV C R fz) (hC0 : 0 < C) (hC : C ≤ 12) (hR : R ≤ 12) : Lft C R fz fz 0 := ⟨Sub_self, Clo_self, fun j hj => by rw [fE_self hI hC0 hC hR hj, show decide (sm (fun i => b2n (fE C fz i j)) 0 = 0) = true from rfl, Bool.and_true]⟩
theorem lft_rep (hI : IV C R fz) (hC0 : 0 < C) (hC : C ≤ 12) (hR : R ≤ 12) {lf : Nat → Int32} {i : Nat} (hi : i < R * C) (h : Lft C R fz lf i) : bt (lf (i / C)) (i % C) = prp (fE C fz) i := by
  have hp := fE_par (fz := fz) hI hC0 hC hR
  rw [h.2.2 i hi]
  unfold prp
  congr 2
  rw [eq_iff_iff]
  constructor
  · intro z
    refine sm_0 fun j hj => b2n_f ?_
    have := sm_z z hj
    cases he : fE C fz i j with
    | false => rfl
    | true => rw [par_sym hp hi (by omega) he] at this; cases this
  · intro z
    refine sm_0 fun j hj => b2n_f ?_
    have := sm_z z hj
    cases he : fE C fz j i with
    | false => rfl
    | true => rw [par_sym hp (by omega) hi he] at this; cases this
theorem lft_next (hI : IV C R fz) (hC0 : 0 < C) (hC : C ≤ 12) (hR : R ≤ 12) {lf : Nat → Int32} {i : Nat} (hi : i < R * C) (h : Lft C R fz lf i) :
    Lft C R fz (pkl lf (i % C) (i / C)) (i + 1) ∧ pkr lf (i % C) (i / C) = nI (if prp (fE C fz) i = true then psz (R * C) (fE C fz) i else 0) := by
  have hF := IV_R hI hC
  have hp := fE_par (fz := fz) hI hC0 hC hR
  obtain ⟨hr, hc⟩ := ix_lt hC0 hi
  obtain ⟨h1, h2, h3⟩ := h
  have hrep := lft_rep hI hC0 hC hR hi ⟨h1, h2, h3⟩
  unfold pkl pkr
  cases hb : bt (lf (i / C)) (i % C) with
  | false =>
    rw [if_pos ((bit_0 _ (by omega)).mpr hb), if_pos ((bit_0 _ (by omega)).mpr hb)]
    rw [hb] at hrep
    refine ⟨⟨h1, h2, fun j hj => ?_⟩, by rw [← hrep]; rfl⟩
    rw [h3 j hj]
    congr 2
    rw [eq_iff_iff, sm]
    constructor
    · intro z
      rw [z, Nat.zero_add]
      refine b2n_f ?_
      cases he : fE C fz i j with
      | false => rfl
      | true =>
        have hii := (hp i j hi hj he).1
        obtain ⟨p, hpi, hpr, hpe⟩ := prp_ex hp i hi hii
        by_cases e : p = i
        · rw [e] at hpr; rw [hpr] at hrep; cases hrep
        · have hpj := par_tr hp (show p < R * C by omega) hi hj hpe he
          have := sm_z z (show p < i by omega)
          rw [hpj] at this; cases this
    · intro z; omega
  | true =>
    have hn : ¬ ((lf (i / C) >>> (nI (i % C) &&& 31)) &&& 1) = 0 := fun z => by rw [(bit_0 _ (by omega)).mp z] at hb; cases hb
    rw [if_neg hn, if_neg hn]
    rw [hb] at hrep
    have hz := h1 (i / C) (by omega) (i % C) hb
    have hs := pkF_same hF h1 h2 (show i % C < 12 by omega) hb
    rw [hs]
    obtain ⟨a1, a2, a3⟩ := pkF_ok hF (show i % C < 12 by omega) (show i / C < 12 by omega) hz
    have a4 := pkF_min hF h1 h2 (show i % C < 12 by omega) (show i / C < 12 by omega) hb
    refine ⟨⟨Sub_tr Sub_taL h1, Clo_taL hF h1 h2 a4 (Clo_in h1 a2), fun j hj => ?_⟩, by rw [← hrep, if_pos rfl]; exact flo_sz hI hC0 hC hR hi hz⟩
    obtain ⟨hrj, hcj⟩ := ix_lt hC0 hj
    rw [b_taL _ _ _ (by omega), h3 j hj, sm]
    have he : fE C fz i j = bt (pkF fz (i % C) (i / C) (j / C)) (j % C) := by unfold fE; rw [hz, Bool.true_and]
    rw [← he]
    cases fE C fz i j with
    | false => rw [b2n_f rfl, Nat.add_zero, Bool.not_false, Bool.and_true]
    | true => rw [b2n_t rfl, Bool.not_true, Bool.and_false, decide_eq_false (by omega), Bool.and_false]
theorem scan_row (hI : IV C R fz) (hC0 : 0 < C) (hC : C ≤ 12) (hR : R ≤ 12) {r : Nat} (hr : r < R) (h : Lft C R fz (alL C fz r) (r * C)) : ∀ q, q ≤ C → Lft C R fz (rwL r (alL C fz r) q) (r * C + q)
  | 0, _ => h
  | q + 1, hq => by
    obtain ⟨e1, e2, e3⟩ := ix_mk hr (show q < C by omega)
    have := (lft_next hI hC0 hC hR e1 (scan_row hI hC0 hC hR hr h q (by omega))).1
    rw [e2, e3] at this
    exact this
theorem scan_all (hI : IV C R fz) (hC0 : 0 < C) (hC : C ≤ 12) (hR : R ≤ 12) : ∀ r, r ≤ R → Lft C R fz (alL C fz r) (r * C)
  | 0, _ => by rw [Nat.zero_mul]; exact lft_0 hI hC0 hC hR
  | r + 1, hr => by rw [Nat.succ_mul]; exact scan_row hI hC0 hC hR (by omega) (scan_all hI hC0 hC hR r (by omega)) C (Nat.le_refl _)
/-- FrostPane.flowers -/
theorem rwC_n (hI : IV C R fz) (hC0 : 0 < C) (hC : C ≤ 12) (hR : R ≤ 12) {r : Nat} (hr : r < R) {c0 : Int32} (h0 : c0 = nI (sm (fun p => b2n (prp (fE C fz) p)) (r * C))) : ∀ q, q ≤ C → rwC r (alL C fz r) c0 q = nI (sm (fun p => b2n (prp (fE C fz) p)) (r * C + q))
  | 0, _ => h0
  | q + 1, hq => by
    obtain ⟨e1, e2, e3⟩ := ix_mk hr (show q < C by omega)
    have h1 := (lft_next hI hC0 hC hR e1 (scan_row hI hC0 hC hR hr (scan_all hI hC0 hC hR r (by omega)) q (by omega))).2
    rw [e2, e3] at h1
    rw [rwC, rwC_n hI hC0 hC hR hr h0 q (by omega), h1, ← Nat.add_assoc, sm]
    have hRC : R * C ≤ 12 * 12 := Nat.mul_le_mul hR hC
    cases hp : prp (fE C fz) (r * C + q) with
    | false => rw [if_neg (show ¬ (false = true) by decide), if_pos (show nI 0 ≤ 0 by decide), b2n_f rfl, Nat.add_zero]
    | true =>
      have hpos := psz_pos e1 (prp_t hp).1
      have hle := psz_le (N := R * C) (E := fE C fz) (r * C + q)
      rw [if_pos rfl, if_neg (fun z => by have := (nI_leI (a := psz (R * C) (fE C fz) (r * C + q)) (b := 0) (by omega) (by omega)).mp z; omega), b2n_t rfl, nI_1]
theorem alC_n (hI : IV C R fz) (hC0 : 0 < C) (hC : C ≤ 12) (hR : R ≤ 12) : ∀ r, r ≤ R → alC C fz r = nI (sm (fun p => b2n (prp (fE C fz) p)) (r * C))
  | 0, _ => by rw [Nat.zero_mul]; rfl
  | r + 1, hr => by rw [alC, Nat.succ_mul]; exact rwC_n hI hC0 hC hR (by omega) (alC_n hI hC0 hC hR r (by omega)) C (Nat.le_refl _)
/-- FrostPane.largestFlower -/
theorem rwM_n (hI : IV C R fz) (hC0 : 0 < C) (hC : C ≤ 12) (hR : R ≤ 12) {r : Nat} (hr : r < R) {c0 : Int32} (h0 : c0 = nI (mx (fun p => if prp (fE C fz) p = true then psz (R * C) (fE C fz) p else 0) (r * C))) : ∀ q, q ≤ C → rwM r (alL C fz r) c0 q = nI (mx (fun p => if prp (fE C fz) p = true then psz (R * C) (fE C fz) p else 0) (r * C + q))
  | 0, _ => h0
  | q + 1, hq => by
    obtain ⟨e1, e2, e3⟩ := ix_mk hr (show q < C by omega)
    have h1 := (lft_next hI hC0 hC hR e1 (scan_row hI hC0 hC hR hr (scan_all hI hC0 hC hR r (by omega)) q (by omega))).2
    rw [e2, e3] at h1
    have hRC : R * C ≤ 12 * 12 := Nat.mul_le_mul hR hC
    have hb : ∀ n, mx (fun p => if prp (fE C fz) p = true then psz (R * C) (fE C fz) p else 0) n ≤ R * C := fun n => by
      rcases mx_at (f := fun p => if prp (fE C fz) p = true then psz (R * C) (fE C fz) p else 0) n with h | ⟨i, _, h⟩
      · rw [h]; exact Nat.zero_le _
      · rw [← h]
        by_cases hq : prp (fE C fz) i = true
        · simp only [hq, if_true]; exact psz_le i
        · simp only [hq]; exact Nat.zero_le _
    have hb1 := hb (r * C + q)
    have hb2 : (if prp (fE C fz) (r * C + q) = true then psz (R * C) (fE C fz) (r * C + q) else 0) ≤ R * C := by
      split
      · exact psz_le _
      · exact Nat.zero_le _
    rw [rwM, rwM_n hI hC0 hC hR hr h0 q (by omega), h1, ← Nat.add_assoc, mx]
    by_cases hl : mx (fun p => if prp (fE C fz) p = true then psz (R * C) (fE C fz) p else 0) (r * C + q) < (if prp (fE C fz) (r * C + q) = true then psz (R * C) (fE C fz) (r * C + q) else 0)
    · rw [if_pos ((nI_ltI (by omega) (by omega)).mpr hl), if_pos hl]
    · rw [if_neg (fun z => hl ((nI_ltI (by omega) (by omega)).mp z)), if_neg hl]
theorem alM_n0 (hI : IV C R fz) (hC0 : 0 < C) (hC : C ≤ 12) (hR : R ≤ 12) : ∀ r, r ≤ R → alM C fz r = nI (mx (fun p => if prp (fE C fz) p = true then psz (R * C) (fE C fz) p else 0) (r * C))
  | 0, _ => by rw [Nat.zero_mul]; rfl
  | r + 1, hr => by rw [alM, Nat.succ_mul]; exact rwM_n hI hC0 hC hR (by omega) (alM_n0 hI hC0 hC hR r (by omega)) C (Nat.le_refl _)
theorem alM_n (hI : IV C R fz) (hC0 : 0 < C) (hC : C ≤ 12) (hR : R ≤ 12) : alM C fz R = nI (mx (pat (R * C) (fE C fz)) (R * C)) := by
  rw [alM_n0 hI hC0 hC hR R (Nat.le_refl _), par_reps (fE_par hI hC0 hC hR)]
/-! labels -/
/-- labels under way: 0 for clear cells; else 1 and the number of a cell of the flower, not behind the cell -/
def Lb0 (C R : Nat) (fz : Nat → Int32) (g : Nat → Nat) : Prop := ∀ i, i < R * C → (fE C fz i i = false → g i = 0) ∧ (fE C fz i i = true → g i ≤ i + 1 ∧ ∃ j, j < R * C ∧ fE C fz i j = true ∧ g i = j + 1)
theorem lb_fin (hI : IV C R fz) (hC0 : 0 < C) (hC : C ≤ 12) (hR : R ≤ 12) {g : Nat → Nat} (h0 : Lb0 C R fz g)
    (hadj : ∀ i j, i < R * C → j < R * C → fE C fz i i = true → fE C fz j j = true → ((i / C = j / C ∧ (i % C = j % C + 1 ∨ i % C + 1 = j % C)) ∨ (i % C = j % C ∧ (i / C = j / C + 1 ∨ i / C + 1 = j / C))) → g j ≤ g i) : Lbl (R * C) (fE C fz) g := by
  have hF := IV_R hI hC
  have hp := fE_par (fz := fz) hI hC0 hC hR
  refine fun i hi => ⟨(h0 i hi).1, fun p hpN hr he => ?_⟩
  obtain ⟨hpp, hfirst⟩ := prp_t hr
  obtain ⟨l1, j, hj, hej, hgj⟩ := (h0 p hpN).2 hpp
  have hgp : g p = p + 1 := by
    by_cases h : j < p
    · rw [hfirst j h] at hej; cases hej
    · omega
  have hcol : ∀ k' c', bt (fz k') c' = true → k' < 12 → k' < R ∧ c' < C := fun k' c' hb' h12 => by
    by_cases hk' : k' < R
    · refine ⟨hk', Nat.lt_of_not_le fun z => ?_⟩
      rw [hI.1 k' hk' c' z] at hb'; cases hb'
    · rw [hI.2 k' (by omega) h12, b_0] at hb'; cases hb'
  have hG : Spr fz (fun k c => bt (fz k) c = true ∧ k < R ∧ c < C ∧ g (k * C + c) = p + 1) := by
    intro k c hk hc hb hor
    obtain ⟨hkR, hcC⟩ := hcol k c hb hk
    refine ⟨hb, hkR, hcC, ?_⟩
    obtain ⟨m1, m2, m3⟩ := ix_mk hkR hcC
    have hself : fE C fz (k * C + c) (k * C + c) = true := by rw [fE_self hI hC0 hC hR m1, m2, m3]; exact hb
    have key : ∀ k' c', (bt (fz k') c' = true ∧ k' < R ∧ c' < C ∧ g (k' * C + c') = p + 1) → ((k = k' ∧ (c = c' + 1 ∨ c + 1 = c')) ∨ (c = c' ∧ (k = k' + 1 ∨ k + 1 = k'))) → g (k * C + c) = p + 1 := by
      intro k' c' h ha
      obtain ⟨hb', hk', hc', hg'⟩ := h
      obtain ⟨n1, n2, n3⟩ := ix_mk hk' hc'
      have hself' : fE C fz (k' * C + c') (k' * C + c') = true := by rw [fE_self hI hC0 hC hR n1, n2, n3]; exact hb'
      have a1 := hadj (k * C + c) (k' * C + c') m1 n1 hself hself' (by rw [m2, m3, n2, n3]; exact ha)
      have a2 := hadj (k' * C + c') (k * C + c) n1 m1 hself' hself (by rw [m2, m3, n2, n3]; omega)
      omega
    rcases hor with h | ⟨h1, h⟩ | h | ⟨h1, h⟩ | ⟨h1, h⟩
    · exact h.2.2.2
    · exact key k (c - 1) h (Or.inl ⟨rfl, Or.inl (by omega)⟩)
    · exact key k (c + 1) h (Or.inl ⟨rfl, Or.inr rfl⟩)
    · exact key (k - 1) c h (Or.inr ⟨rfl, Or.inl (by omega)⟩)
    · exact key (k + 1) c h (Or.inr ⟨rfl, Or.inr rfl⟩)
  obtain ⟨hpr, hpc⟩ := ix_lt hC0 hpN
  obtain ⟨hir, hic⟩ := ix_lt hC0 hi
  rw [fE_self hI hC0 hC hR hpN] at hpp
  unfold fE at he
  rw [Bool.and_eq_true] at he
  have := (pkF_ind hF hG (c := p % C) (r := p / C) (by omega) ⟨hpp, hpr, hpc, by rw [ix_eq]; exact hgp⟩ (k := i / C) (by omega) he.2).2.2.2
  rw [ix_eq] at this
  exact this
end SCN
