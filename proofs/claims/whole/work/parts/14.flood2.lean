section FLE
theorem b_taL (lf F : Nat → Int32) (k : Nat) {i : Nat} (hi : i < 32) : bt (taL lf F k) i = (bt (lf k) i && !bt (F k) i) := by
  unfold taL
  rw [b_and, b_xor, b_m1 i hi]
  cases bt (F k) i <;> rfl
theorem taL_t {lf F : Nat → Int32} (hL : inR lf) {k i : Nat} (hk : k < 12) (h : bt (taL lf F k) i = true) : bt (lf k) i = true ∧ bt (F k) i = false := by
  have h1 : bt (lf k) i = true := by unfold taL at h; rw [b_and, Bool.and_eq_true] at h; exact h.1
  rw [b_taL lf F k (by have := inC_lt (hL k hk) h1; omega), h1, Bool.true_and] at h
  exact ⟨h1, by cases hf : bt (F k) i <;> simp_all⟩
theorem inR_Sub {g lf : Nat → Int32} (hL : inR lf) (h : Sub g lf) : inR g := fun k hk i hi => Bool.eq_false_iff.mpr fun z => by
  have := inC_lt (hL k hk) (h k hk i z); omega
theorem Sub_tr {a b c : Nat → Int32} (h : Sub a b) (h2 : Sub b c) : Sub a c := fun k hk i z => h2 k hk i (h k hk i z)
theorem Sub_taL {lf F : Nat → Int32} : Sub (taL lf F) lf := fun k _ i h => by unfold taL at h; rw [b_and, Bool.and_eq_true] at h; exact h.1
/-- what is left stays closed in the pane when a whole flower is taken away -/
theorem Clo_taL {lf fz F : Nat → Int32} (hF : inR fz) (hlf : Sub lf fz) (hc : Clo lf fz) (hs : Sub F lf) (hcf : Clo F lf) : Clo (taL lf F) fz := by
  have hL := inR_Sub hF hlf
  have hFR := inR_Sub hL hs
  intro k hk i hi hr hz
  have mono : rch (taL lf F) k i = true → rch lf k i = true := by
    intro h
    unfold rch at h ⊢
    simp only [Bool.or_eq_true, Bool.and_eq_true, decide_eq_true_eq] at h ⊢
    rcases h with (((h | h) | h) | h) | h
    · exact Or.inl (Or.inl (Or.inl (Or.inl (Sub_taL k hk i h))))
    · exact Or.inl (Or.inl (Or.inl (Or.inr ⟨h.1, Sub_taL k hk _ h.2⟩)))
    · exact Or.inl (Or.inl (Or.inr (Sub_taL k hk _ h)))
    · refine Or.inl (Or.inr ?_)
      unfold upR at h ⊢; by_cases e : k = 0
      · rw [if_pos e] at h ⊢; exact h
      · rw [if_neg e] at h ⊢; exact Sub_taL _ (by omega) i h
    · refine Or.inr ?_
      unfold dnR at h ⊢; by_cases e : k + 1 < 12
      · rw [if_pos e] at h ⊢; exact Sub_taL _ e i h
      · rw [if_neg e] at h ⊢; exact h
  have hl := hc k hk i hi (mono hr) hz
  rw [b_taL lf F k (by omega), hl, Bool.true_and]
  cases hf : bt (F k) i with
  | false => rfl
  | true =>
    exfalso
    unfold rch at hr
    simp only [Bool.or_eq_true, Bool.and_eq_true, decide_eq_true_eq] at hr
    have done : ∀ q j, q < 12 → bt (taL lf F q) j = true → rch F q j = true → False := fun q j hq h1 h2 => by
      obtain ⟨a1, a2⟩ := taL_t hL hq h1
      rw [hcf q hq j (inC_lt (hL q hq) a1) h2 a1] at a2; cases a2
    rcases hr with (((h | h) | h) | h) | h
    · refine done k i hk h ?_
      unfold rch; rw [hf]; rfl
    · refine done k (i - 1) hk h.2 ?_
      unfold rch
      rw [show i - 1 + 1 = i by omega, hf]; simp
    · refine done k (i + 1) hk h ?_
      unfold rch
      rw [Nat.add_sub_cancel, hf]; simp
    · unfold upR at h
      by_cases e : k = 0
      · rw [if_pos e, b_0] at h; cases h
      · rw [if_neg e] at h
        refine done (k - 1) i (by omega) h ?_
        unfold rch
        have : bt (dnR F (k - 1)) i = true := by unfold dnR; rw [if_pos (by omega), show k - 1 + 1 = k by omega]; exact hf
        rw [this]; simp
    · unfold dnR at h
      by_cases e : k + 1 < 12
      · rw [if_pos e] at h
        refine done (k + 1) i e h ?_
        unfold rch
        have : bt (upR F (k + 1)) i = true := by unfold upR; rw [if_neg (by omega), Nat.add_sub_cancel]; exact hf
        rw [this]; simp
      · rw [if_neg e, b_0] at h; cases h
theorem Clo_self {fz : Nat → Int32} : Clo fz fz := fun _ _ _ _ _ h => h
theorem Sub_self {fz : Nat → Int32} : Sub fz fz := fun _ _ _ h => h
theorem bt_pk1 {c r q i : Nat} (hc : c < 12) (hi : i < 32) : bt (pk1 c r q) i = (decide (q = r) && decide (i = c)) := by
  unfold pk1
  by_cases e : q = r
  · subst e; rw [pk_us, bt_one (by omega) hi]; simp
  · rw [pk_un e, b_0]; simp [e]
theorem pk1_in {c r q i : Nat} (hc : c < 12) (h : bt (pk1 c r q) i = true) : q = r ∧ i = c := by
  have hi : i < 32 := Nat.lt_of_not_le fun z => by rw [b_big z] at h; cases h
  rw [bt_pk1 hc hi] at h
  simpa using h
theorem Sub_pk1 {lf : Nat → Int32} {c r : Nat} (hc : c < 12) (h : bt (lf r) c = true) : Sub (pk1 c r) lf := fun q _ i z => by
  obtain ⟨e1, e2⟩ := pk1_in hc z
  rw [e1, e2]; exact h
theorem sz_0 : ∀ n, sz (fun _ => 0) n = 0
  | 0 => rfl
  | n + 1 => by unfold sz; rw [sz_0 n]; show 0 + szr 0 12 = 0; decide +kernel
theorem sz_pk1 {c r : Nat} (hc : c < 12) (hr : r < 12) : 1 ≤ sz (pk1 c r) 12 := by
  have h := sz_upd (g := fun _ => 0) (k := r) (v := (1 : Int32) <<< (nI c &&& 31)) (n := 12) hr
  rw [sz_0] at h
  have h2 : szr ((fun _ => (0 : Int32)) r) 12 = 0 := by show szr 0 12 = 0; decide +kernel
  rw [h2] at h
  have h3 := szr_lt (x := 0) (y := (1 : Int32) <<< (nI c &&& 31)) (fun i z => by rw [b_0] at z; cases z) (i := c) (by rw [bt_one (by omega) (by omega)]; simp) (b_0 c) (n := 12) hc
  unfold pk1
  omega
theorem pkg_fuel {lf : Nat → Int32} (hL : inR lf) : ∀ (d : Nat) (g : Nat → Int32), Sub g lf → 145 ≤ sz g 12 + d → pkg lf (d + 1) g = pkg lf d g
  | 0, g, _, h => by have := sz_le g 12; omega
  | d + 1, g, hs, h => by
    by_cases h1 : wdc lf g 12 = 0
    · rw [pkg_end h1, pkg_end h1]
    · have hz := sz_wdn hL hs 12 (Nat.le_refl _)
      rw [if_neg h1] at hz
      rw [pkg_more h1, pkg_more h1, pkg_fuel hL d _ (Sub_wdn hs 12) (by omega)]
/-- where the reference begins: the cell itself, if it is frozen -/
def sp0 (fz : Nat → Int32) (c r : Nat) : Nat → Int32 := fun k => if k = r then ((1 : Int32) <<< (nI c &&& 31)) &&& fz r else 0
theorem sp0_eq (fz : Nat → Int32) (c r k : Nat) (hk : k < 2 ^ 31 := by omega) (hr : r < 2 ^ 31 := by omega) : (if nI k = nI r then ((1 : Int32) <<< (nI c &&& 31)) &&& fz k else (0 : Int32)) = sp0 fz c r k := by
  unfold sp0
  by_cases h : k = r
  · rw [h, if_pos rfl, if_pos rfl]
  · rw [if_neg (fun z => h ((nI_eq hk hr).mp z)), if_neg h]
def spF (fz : Nat → Int32) (c r : Nat) : Nat → Int32 := pkg fz 145 (sp0 fz c r)
theorem sp0_on {fz : Nat → Int32} {c r : Nat} (hc : c < 12) (h : bt (fz r) c = true) : sp0 fz c r = pk1 c r := by
  funext k
  unfold sp0 pk1
  by_cases e : k = r
  · subst e
    rw [if_pos rfl, pk_us]
    apply b_ext; intro i hi
    rw [b_and, bt_one (by omega) hi]
    by_cases e2 : i = c
    · subst e2; simp [h]
    · simp [e2]
  · rw [if_neg e, pk_un e]
theorem sp0_off {fz : Nat → Int32} {c r : Nat} (hc : c < 12) (h : bt (fz r) c = false) : sp0 fz c r = fun _ => 0 := by
  funext k
  unfold sp0
  by_cases e : k = r
  · rw [if_pos e]
    apply b_ext; intro i hi
    rw [b_and, bt_one (by omega) hi, b_0]
    by_cases e2 : i = c
    · subst e2; simp [h]
    · simp [e2]
  · rw [if_neg e]
theorem sp0_Sub {fz : Nat → Int32} {c r : Nat} (hc : c < 12) : Sub (sp0 fz c r) fz := by
  cases h : bt (fz r) c with
  | true => rw [sp0_on hc h]; exact Sub_pk1 hc h
  | false => rw [sp0_off hc h]; exact fun _ _ i z => by rw [b_0] at z; cases z
theorem spF_on {fz : Nat → Int32} (hF : inR fz) {c r : Nat} (hc : c < 12) (hr : r < 12) (h : bt (fz r) c = true) : spF fz c r = pkF fz c r := by
  unfold spF pkF
  rw [sp0_on hc h]
  exact pkg_fuel hF 144 _ (Sub_pk1 hc h) (by have := sz_pk1 hc hr; omega)
theorem Sub_0 (lf : Nat → Int32) : Sub (fun _ => 0) lf := fun _ _ i z => by rw [b_0] at z; cases z
theorem rch_0 (k i : Nat) : rch (fun _ => 0) k i = false := by
  unfold rch upR dnR
  have e1 : (if k = 0 then (0 : Int32) else 0) = 0 := by split <;> rfl
  have e2 : (if k + 1 < 12 then (0 : Int32) else 0) = 0 := by split <;> rfl
  simp only [e1, e2, b_0]; simp
theorem wdv_0 {fz : Nat → Int32} (hF : inR fz) {k : Nat} (hk : k < 12) : wdv fz (fun _ => 0) k = 0 := by
  apply b_ext; intro i _
  rw [b_0]
  refine Bool.eq_false_iff.mpr fun h => ?_
  have hi := inC_lt (hF k hk) (wdv_in h)
  rw [wdv_bt fz _ hk hi, rch_0] at h; cases h
theorem wdn_0 {fz : Nat → Int32} (hF : inR fz) : ∀ k, k ≤ 12 → wdn fz (fun _ => 0) k = (fun _ => 0) ∧ wdc fz (fun _ => 0) k = 0
  | 0, _ => ⟨rfl, rfl⟩
  | k + 1, hk => by
    obtain ⟨e1, e2⟩ := wdn_0 hF k (by omega)
    rw [wdn, wdc, e1, e2, wdv_0 hF (by omega), if_pos rfl, if_pos rfl]
    exact ⟨upd_self (fun _ => 0) k, rfl⟩
theorem spF_off {fz : Nat → Int32} (hF : inR fz) {c r : Nat} (hc : c < 12) (h : bt (fz r) c = false) : spF fz c r = fun _ => 0 := by
  unfold spF
  rw [sp0_off hc h, pkg_end (wdn_0 hF 12 (Nat.le_refl _)).2, (wdn_0 hF 12 (Nat.le_refl _)).1]
theorem tac_0 : ∀ k, tac (fun _ => 0) k = 0
  | 0 => rfl
  | k + 1 => by rw [tac, tac_0 k]; decide +kernel
theorem bit_0 (x : Int32) {c : Nat} (hc : c < 32) : ((x >>> (nI c &&& 31)) &&& 1) = 0 ↔ bt x c = false := by
  rw [b_at x hc]
  cases bt x c <;> decide
/-- the flower of a cell, as the class and as the reference count it -/
theorem at_same {fz : Nat → Int32} (hF : inR fz) {c r : Nat} (hc : c < 12) (hr : r < 12) : tac (spF fz c r) 12 = pkr fz c r := by
  unfold pkr
  cases h : bt (fz r) c with
  | true => rw [if_neg (fun z => by rw [(bit_0 _ (by omega)).mp z] at h; cases h), spF_on hF hc hr h]
  | false => rw [if_pos ((bit_0 _ (by omega)).mpr h), spF_off hF hc h, tac_0]
/-! rows behind the pane's last one -/
def Hz (R : Nat) (g : Nat → Int32) : Prop := ∀ j, R ≤ j → j < 12 → g j = 0
theorem Hz_Sub {R : Nat} {g fz : Nat → Int32} (hz : Hz R fz) (hs : Sub g fz) : Hz R g := fun j h1 h2 => b_ext fun i _ => by
  rw [b_0]; exact Bool.eq_false_iff.mpr fun z => by have := hs j h2 i z; rw [hz j h1 h2, b_0] at this; cases this
theorem wdc_R {R : Nat} {fz g : Nat → Int32} (hz : Hz R fz) (hs : Sub g fz) : ∀ k, R + k ≤ 12 → wdc fz g (R + k) = wdc fz g R
  | 0, _ => rfl
  | k + 1, h => by
    show wdc fz g (R + k + 1) = _
    rw [wdc, wdc_R hz hs k (by omega)]
    have e : wdv fz (wdn fz g (R + k)) (R + k) = wdn fz g (R + k) (R + k) := by
      rw [Hz_Sub hz (Sub_wdn hs (R + k)) (R + k) (by omega) (by omega)]
      unfold wdv; rw [hz (R + k) (by omega) (by omega), Int32.and_zero]
    rw [if_pos e]
    rcases wdc_01 fz g R with z | z <;> rw [z] <;> rfl
theorem wdc_12 {R : Nat} {fz g : Nat → Int32} (hR : R ≤ 12) (hz : Hz R fz) (hs : Sub g fz) : wdc fz g R = wdc fz g 12 := by
  have := wdc_R hz hs (12 - R) (by omega)
  rw [show R + (12 - R) = 12 by omega] at this
  exact this.symm
theorem wdn_lt (lf g : Nat → Int32) {j : Nat} : ∀ {k : Nat}, j < k → wdn lf g k j = wdn lf g (j + 1) j
  | 0, h => absurd h (Nat.not_lt_zero _)
  | k + 1, h => by
    by_cases e : j = k
    · rw [e]
    · rw [wdn, pk_un e, wdn_lt lf g (by omega)]
theorem wdc_or (lf g : Nat → Int32) (k : Nat) : wdc lf g k ||| (if wdv lf (wdn lf g k) k = wdn lf g k k then (0 : Int32) else 1) = wdc lf g (k + 1) := by
  rw [wdc]
  rcases wdc_01 lf g k with z | z
  · rw [z, if_pos rfl, Int32.zero_or]
  · rw [z, if_neg (show ¬ (1 : Int32) = 0 by decide)]; split <;> rfl
theorem sfill_wdn {h nx : Nat → Int32} {R k : Nat} {v : Int32} (hk : k < R) (j : Nat) : upd (sfill h nx R) k v j = sfill (upd h k v) nx R j := by
  by_cases e : j = k
  · rw [e, pk_us, sfill_lt hk, pk_us]
  · rw [pk_un e]; unfold sfill; split
    · rw [pk_un e]
    · rfl
theorem mwd {R : Nat} {fz h : Nat → Int32} (hR : R ≤ 12) (hz : Hz R h) {k : Nat} (hk : k < R) : ((((h k ||| (h k <<< ((1 : Int32) &&& 31))) ||| (h k >>> ((1 : Int32) &&& 31))) ||| (if nI k ≤ 0 then (0 : Int32) else h (k - 1))) ||| (if nI R ≤ nI (k + 1) then (0 : Int32) else h (k + 1))) &&& fz k = wdv fz h k := by
  unfold wdv
  rw [flo_lo h (by omega), flo_hi h (by omega)]
  have e1 : (if nI k ≤ 0 then (0 : Int32) else h (k - 1)) = upR h k := by
    unfold upR
    rcases k with _ | k
    · rw [if_pos (by decide), if_pos rfl]
    · rw [if_neg (nI_nle (by omega) (by omega)), if_neg (by omega)]
  have e2 : (if nI R ≤ nI (k + 1) then (0 : Int32) else h (k + 1)) = dnR h k := by
    unfold dnR
    by_cases e : k + 1 < R
    · rw [if_neg (nI_ge e (by omega)), if_pos (by omega)]
    · rw [if_pos (nI_le (by omega) (by omega))]
      by_cases e3 : k + 1 < 12
      · rw [if_pos e3, hz (k + 1) (by omega) e3]
      · rw [if_neg e3]
  rw [e1, e2]
theorem spr_next {fz g F : Nat → Int32} {d : Nat} (hL : inR fz) (hs : Sub g fz) (h1 : pkg fz d g = F) (h2 : 145 ≤ sz g 12 + d) :
    (wdc fz g 12 = 0 ∧ ∀ j, j < 12 → wdn fz g 12 j = F j) ∨ (wdc fz g 12 = 1 ∧ pkg fz (d - 1) (wdn fz g 12) = F ∧ 145 ≤ sz (wdn fz g 12) 12 + (d - 1)) := by
  rcases d with _ | d
  · have := sz_le g 12; omega
  · rcases wdc_01 fz g 12 with z | z
    · exact Or.inl ⟨z, fun j _ => by rw [← h1, pkg_end z]⟩
    · have hz := sz_wdn hL hs 12 (Nat.le_refl _)
      have zn : ¬ wdc fz g 12 = 0 := by rw [z]; decide
      rw [if_neg zn] at hz
      exact Or.inr ⟨z, by rw [← h1, pkg_more zn]; rfl, by omega⟩
theorem tac_R {R : Nat} {F : Nat → Int32} (hz : Hz R F) : ∀ k, R + k ≤ 12 → tac F (R + k) = tac F R
  | 0, _ => rfl
  | k + 1, h => by
    show tac F (R + k + 1) = _
    rw [tac, tac_R hz k (by omega), hz (R + k) (by omega) (by omega), show bc 0 = 0 by decide +kernel, Int32.add_zero]
theorem tac_12 {R : Nat} {F : Nat → Int32} (hR : R ≤ 12) (hz : Hz R F) : tac F R = tac F 12 := by
  have := tac_R hz (12 - R) (by omega)
  rw [show R + (12 - R) = 12 by omega] at this
  exact this.symm
theorem tac_cong {F G : Nat → Int32} : ∀ {n : Nat}, (∀ j, j < n → F j = G j) → tac F n = tac G n
  | 0, _ => rfl
  | n + 1, h => by rw [tac, tac, tac_cong (n := n) (fun j hj => h j (by omega)), h n (by omega)]
theorem IV_R {C R : Nat} {fz : Nat → Int32} (hI : IV C R fz) (hC : C ≤ 12) : inR fz := fun k hk i hi => by
  by_cases h : k < R
  · exact hI.1 k h i (by omega)
  · rw [hI.2 k (by omega) hk, b_0]
end FLE
