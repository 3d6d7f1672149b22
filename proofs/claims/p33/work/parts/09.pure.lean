/-! pure facts: the reference's counting, framing and growing are the class's -/
section PU
/-! ===== Int32 by its bits: bt x i ===== -/
def bt (x : Int32) (i : Nat) : Bool := x.toBitVec.getLsbD i
theorem b_ext {x y : Int32} (h : ∀ i, i < 32 → bt x i = bt y i) : x = y := Int32.toBitVec_inj.mp (BitVec.eq_of_getLsbD_eq (fun i hi => h i hi))
theorem b_or (x y : Int32) (i : Nat) : bt (x ||| y) i = (bt x i || bt y i) := by unfold bt; rw [Int32.toBitVec_or, BitVec.getLsbD_or]
theorem b_and (x y : Int32) (i : Nat) : bt (x &&& y) i = (bt x i && bt y i) := by unfold bt; rw [Int32.toBitVec_and, BitVec.getLsbD_and]
theorem b_xor (x y : Int32) (i : Nat) : bt (x ^^^ y) i = (bt x i ^^ bt y i) := by unfold bt; rw [Int32.toBitVec_xor, BitVec.getLsbD_xor]
theorem b_big {x : Int32} {i : Nat} (h : 32 ≤ i) : bt x i = false := BitVec.getLsbD_of_ge _ _ h
theorem b_m1 : ∀ i, i < 32 → bt (-1) i = true := by decide +kernel
theorem b_0 (i : Nat) : bt 0 i = false := BitVec.getLsbD_zero
theorem s_l : ∀ n, n < 32 → ((nI n &&& 31).toBitVec.smod 32).toNat = n := by decide +kernel
theorem s_u : ∀ n, n < 32 → (((nI n).toUInt32 &&& Int32.toUInt32 31).toBitVec % 32).toNat = n := by decide +kernel
theorem b_shl (n : Nat) (hn : n < 32) (x : Int32) {i : Nat} (hi : i < 32) : bt (x <<< (nI n &&& 31)) i = (decide (n ≤ i) && bt x (i - n)) := by
  unfold bt
  rw [Int32.toBitVec_shiftLeft]
  show (x.toBitVec <<< ((nI n &&& 31).toBitVec.smod 32).toNat).getLsbD i = _
  rw [s_l n hn, BitVec.getLsbD_shiftLeft]
  rcases Nat.lt_or_ge i n with h | h
  · simp [h, Nat.not_le.mpr h]
  · simp [hi, h, Nat.not_lt.mpr h]
theorem b_sshr (n : Nat) (hn : n < 32) (x : Int32) {i : Nat} (hi : i < 32) : bt (x >>> (nI n &&& 31)) i = if n + i < 32 then bt x (n + i) else bt x 31 := by
  unfold bt
  rw [Int32.toBitVec_shiftRight]
  show (x.toBitVec.sshiftRight ((nI n &&& 31).toBitVec.smod 32).toNat).getLsbD i = _
  rw [s_l n hn, BitVec.getLsbD_sshiftRight, BitVec.msb_eq_getLsbD_last]
  simp [hi]

def b2n (b : Bool) : Nat := if b then 1 else 0
theorem b2n_le (b : Bool) : b2n b ≤ 1 := by cases b <;> decide
theorem b_n1 : ∀ i, i < 32 → bt 1 i = decide (i = 0) := by decide +kernel
theorem b_n7 : ∀ i, i < 32 → bt 7 i = decide (i < 3) := by decide +kernel
theorem b_n5 : ∀ i, i < 32 → bt 5 i = (decide (i = 0) || decide (i = 2)) := by decide +kernel
theorem b_tri : ∀ (a b c : Bool) (i : Nat), i < 32 → bt (nI (b2n a + 2 * b2n b + 4 * b2n c)) i = ((a && decide (i = 0)) || (b && decide (i = 1)) || (c && decide (i = 2))) := by decide +kernel
/-- one bit of a shifted number -/
theorem b_at (x : Int32) {c : Nat} (hc : c < 32) : (x >>> (nI c &&& 31)) &&& 1 = nI (b2n (bt x c)) := by
  have h : nI (b2n (bt x c)) = nI (b2n (bt x c) + 2 * b2n false + 4 * b2n false) := rfl
  rw [h]
  apply b_ext
  intro i hi
  rw [b_and, b_n1 i hi, b_tri _ _ _ i hi]
  by_cases e : i = 0
  · subst e; rw [b_sshr c hc x hi]; simp [hc]
  · simp [e]
theorem b_at7 (x : Int32) {c : Nat} (hc : c + 2 < 32) : (x >>> (nI c &&& 31)) &&& 7 = nI (b2n (bt x c) + 2 * b2n (bt x (c + 1)) + 4 * b2n (bt x (c + 2))) := by
  apply b_ext
  intro i hi
  rw [b_and, b_n7 i hi, b_tri _ _ _ i hi]
  by_cases h : i < 3
  · rw [b_sshr c (by omega) x hi, if_pos (by omega)]
    rcases (show i = 0 ∨ i = 1 ∨ i = 2 by omega) with rfl | rfl | rfl <;> simp
  · have h0 : ¬ i = 0 := by omega
    have h1 : ¬ i = 1 := by omega
    have h2 : ¬ i = 2 := by omega
    simp [h, h0, h1, h2]
theorem b_at5 (x : Int32) {c : Nat} (hc : c + 2 < 32) : (x >>> (nI c &&& 31)) &&& 5 = nI (b2n (bt x c) + 2 * b2n false + 4 * b2n (bt x (c + 2))) := by
  apply b_ext
  intro i hi
  rw [b_and, b_n5 i hi, b_tri _ _ _ i hi]
  by_cases h : i < 3
  · rw [b_sshr c (by omega) x hi, if_pos (by omega)]
    rcases (show i = 0 ∨ i = 1 ∨ i = 2 by omega) with rfl | rfl | rfl <;> simp
  · have h0 : ¬ i = 0 := by omega
    have h1 : ¬ i = 1 := by omega
    have h2 : ¬ i = 2 := by omega
    simp [h0, h1, h2]
theorem bc_tri : ∀ a b c : Bool, bc (nI (b2n a + 2 * b2n b + 4 * b2n c)) = nI (b2n a + b2n b + b2n c) := by decide +kernel
/-- the class's count, as a number -/
theorem countIn_n (u v w : Int32) {c : Nat} (hc : c + 2 < 32) : sp_X1_countIn u v w (nI c) = nI ((b2n (bt u c) + b2n (bt u (c + 1)) + b2n (bt u (c + 2))) + (b2n (bt v c) + b2n (bt v (c + 2))) + (b2n (bt w c) + b2n (bt w (c + 1)) + b2n (bt w (c + 2)))) := by
  unfold sp_X1_countIn
  rw [b_at7 u hc, b_at5 v hc, b_at7 w hc, bc_tri, bc_tri, bc_tri, nI_add, nI_add]
  rfl
/-- the reference's adder -/
def adC (sm : Nat → Int32) (x : Int32) : Nat → Int32
  | 0 => x
  | k + 1 => sm k &&& adC sm x k
def mAdd (sm : Nat → Int32) (x : Int32) : Nat → Int32 := fun j => sm j ^^^ adC sm x j
def vv (sm : Nat → Int32) (c : Nat) : Nat := b2n (bt (sm 0) c) + 2 * b2n (bt (sm 1) c) + 4 * b2n (bt (sm 2) c) + 8 * b2n (bt (sm 3) c)
theorem add_tab : ∀ s0 s1 s2 s3 x : Bool, b2n (s0 ^^ x) + 2 * b2n (s1 ^^ (s0 && x)) + 4 * b2n (s2 ^^ (s1 && (s0 && x))) + 8 * b2n (s3 ^^ (s2 && (s1 && (s0 && x)))) = (b2n s0 + 2 * b2n s1 + 4 * b2n s2 + 8 * b2n s3 + b2n x) % 16 := by decide
theorem vv_add (sm : Nat → Int32) (x : Int32) (c : Nat) : vv (mAdd sm x) c = (vv sm c + b2n (bt x c)) % 16 := by
  unfold vv mAdd
  simp only [adC, b_xor, b_and]
  exact add_tab _ _ _ _ _
theorem vv_0 (c : Nat) : vv (fun _ => 0) c = 0 := by simp [vv, b_0, b2n]
/-- the reference's reading of the sum -/
def mCtd (sm : Nat → Int32) (c : Nat) : Int32 := (((((0 : Int32) ||| (((sm 0 >>> (nI c &&& 31)) &&& 1) <<< ((0 : Int32) &&& 31))) ||| (((sm 1 >>> (nI c &&& 31)) &&& 1) <<< ((1 : Int32) &&& 31))) ||| (((sm 2 >>> (nI c &&& 31)) &&& 1) <<< ((2 : Int32) &&& 31))) ||| (((sm 3 >>> (nI c &&& 31)) &&& 1) <<< ((3 : Int32) &&& 31)))
theorem ctd_tab : ∀ a b c d : Bool, (((((0 : Int32) ||| (nI (b2n a) <<< ((0 : Int32) &&& 31))) ||| (nI (b2n b) <<< ((1 : Int32) &&& 31))) ||| (nI (b2n c) <<< ((2 : Int32) &&& 31))) ||| (nI (b2n d) <<< ((3 : Int32) &&& 31))) = nI (b2n a + 2 * b2n b + 4 * b2n c + 8 * b2n d) := by decide +kernel
theorem mCtd_n (sm : Nat → Int32) {c : Nat} (hc : c < 32) : mCtd sm c = nI (vv sm c) := by
  unfold mCtd vv
  rw [b_at _ hc, b_at _ hc, b_at _ hc, b_at _ hc]
  exact ctd_tab _ _ _ _
/-- all bits of a row are in its columns -/
def inC (C : Nat) (x : Int32) : Prop := ∀ i, C ≤ i → bt x i = false
theorem inC_0 (C : Nat) : inC C 0 := fun i _ => b_0 i
/-- the reference's sum over the cells around a row, out of three rows -/
def mSum (u v w fl : Int32) : Nat → Int32 := mAdd (mAdd (mAdd (mAdd (mAdd (mAdd (mAdd (mAdd (fun _ => 0) (u &&& fl)) ((u >>> ((2 : Int32) &&& 31)) &&& fl)) ((u >>> ((1 : Int32) &&& 31)) &&& fl)) (v &&& fl)) ((v >>> ((2 : Int32) &&& 31)) &&& fl)) (w &&& fl)) ((w >>> ((2 : Int32) &&& 31)) &&& fl)) ((w >>> ((1 : Int32) &&& 31)) &&& fl)
def mFull (C : Nat) : Int32 := ((1 : Int32) <<< (nI C &&& 31)) - 1
theorem full_tab : ∀ C, C < 13 → ∀ c, c < C → bt (mFull C) c = true := by decide +kernel
theorem b_in {x fl : Int32} {c d : Nat} (hc : c + d < 32) (hf : bt fl c = true) (hd : d < 32) : bt ((x >>> (nI d &&& 31)) &&& fl) c = bt x (c + d) := by
  rw [b_and, hf, Bool.and_true, b_sshr d hd x (by omega), if_pos (by omega), Nat.add_comm]
theorem mSum_n (u v w : Int32) {C c : Nat} (hC : C ≤ 12) (hc : c < C) : mCtd (mSum u v w (mFull C)) c = sp_X1_countIn u v w (nI c) := by
  have hf := full_tab C (by omega) c hc
  rw [mCtd_n _ (by omega), countIn_n u v w (by omega)]
  unfold mSum
  simp only [vv_add, vv_0]
  have e0 : ∀ x : Int32, bt (x &&& mFull C) c = bt x c := fun x => by rw [b_and, hf, Bool.and_true]
  have e1 : ∀ x : Int32, bt ((x >>> ((1 : Int32) &&& 31)) &&& mFull C) c = bt x (c + 1) := fun x => b_in (d := 1) (by omega) hf (by omega)
  have e2 : ∀ x : Int32, bt ((x >>> ((2 : Int32) &&& 31)) &&& mFull C) c = bt x (c + 2) := fun x => b_in (d := 2) (by omega) hf (by omega)
  rw [e1 u, e2 u, e1 w, e2 w, e2 v, e0 u, e0 v, e0 w]
  have l1 := b2n_le (bt u c); have l2 := b2n_le (bt u (c + 1)); have l3 := b2n_le (bt u (c + 2)); have l4 := b2n_le (bt v c); have l5 := b2n_le (bt v (c + 2)); have l6 := b2n_le (bt w c); have l7 := b2n_le (bt w (c + 1)); have l8 := b2n_le (bt w (c + 2))
  congr 1
  omega
end PU
