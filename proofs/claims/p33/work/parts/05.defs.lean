/-! words for what methods answer -/
section FD
theorem f_in {i : Int32} {n : Nat} (hn : n < 2 ^ 31) (h0 : ¬ i < 0) (h1 : ¬ nI n ≤ i) : vp_in i n := by
  refine vp_in_iff.mpr ⟨?_, ?_⟩
  · have := Int32.le_iff_toInt_le.mp (Int32.not_lt.mp h0)
    simpa using this
  · have := Int32.lt_iff_toInt_lt.mp (Int32.not_le.mp h1)
    rwa [nI_toInt hn] at this
/-- the first k places by G, the others as before -/
def sfill (G g : Nat → Int32) (k : Nat) : Nat → Int32 := fun j => if j < k then G j else g j
theorem sfill_0 (G g : Nat → Int32) (j : Nat) : g j = sfill G g 0 j := by rw [sfill, if_neg (Nat.not_lt_zero _)]
theorem sfill_lt {G g : Nat → Int32} {k j : Nat} (h : j < k) : sfill G g k j = G j := by rw [sfill, if_pos h]
theorem sfill_at (G g : Nat → Int32) (k : Nat) : sfill G g k k = g k := by rw [sfill, if_neg (Nat.lt_irrefl _)]
theorem sfill_ge {G g : Nat → Int32} {k j : Nat} (h : k ≤ j) : sfill G g k j = g j := by rw [sfill, if_neg (by omega)]
theorem sfill_up {G g : Nat → Int32} {k : Nat} {x : Int32} (hx : x = G k) (j : Nat) : upd (sfill G g k) k x j = sfill G g (k + 1) j := by
  by_cases e : j = k
  · rw [e, pk_us, sfill_lt (Nat.lt_succ_self k), hx]
  · rw [pk_un e]
    by_cases h : j < k
    · rw [sfill_lt h, sfill_lt (by omega)]
    · rw [sfill_ge (by omega), sfill_ge (by omega)]
theorem sfill_up0 {G g : Nat → Int32} {k : Nat} (hx : g k = G k) (j : Nat) : sfill G g k j = sfill G g (k + 1) j := by
  by_cases e : j = k
  · rw [e, sfill_at, sfill_lt (Nat.lt_succ_self k), hx]
  · by_cases h : j < k
    · rw [sfill_lt h, sfill_lt (by omega)]
    · rw [sfill_ge (by omega), sfill_ge (by omega)]
/-- the bits of a number counted, as Integer.bitCount does it -/
def bcA (x : Int32) : Int32 := x - (((x.toUInt32 >>> ((1 : Int32).toUInt32 &&& Int32.toUInt32 31)).toInt32) &&& 1431655765)
def bcB (x : Int32) : Int32 := (x &&& 858993459) + (((x.toUInt32 >>> ((2 : Int32).toUInt32 &&& Int32.toUInt32 31)).toInt32) &&& 858993459)
def bcC (x : Int32) : Int32 := (x + ((x.toUInt32 >>> ((4 : Int32).toUInt32 &&& Int32.toUInt32 31)).toInt32)) &&& 252645135
def bcD (x : Int32) : Int32 := x + ((x.toUInt32 >>> ((8 : Int32).toUInt32 &&& Int32.toUInt32 31)).toInt32)
def bcE (x : Int32) : Int32 := x + ((x.toUInt32 >>> ((16 : Int32).toUInt32 &&& Int32.toUInt32 31)).toInt32)
def bc (x : Int32) : Int32 := bcE (bcD (bcC (bcB (bcA x)))) &&& 63
end FD
