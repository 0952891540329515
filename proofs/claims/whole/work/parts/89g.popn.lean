/-! counts of bits: bytes under masks -/
theorem tb_byte {a z i : Nat} (ha : a < 256) : (a + 256 * z).testBit i = if i < 8 then a.testBit i else z.testBit (i - 8) := by
  have e : a + 256 * z = 2 ^ 8 * z + a := by omega
  rw [e, Nat.testBit_two_pow_mul_add z (by omega) i]
theorem and_byte {a z m M : Nat} (ha : a < 256) (hm : m < 256) : (a + 256 * z) &&& (m + 256 * M) = (a &&& m) + 256 * (z &&& M) := by
  have h1 : a &&& m < 256 := Nat.lt_of_le_of_lt Nat.and_le_left ha
  apply Nat.eq_of_testBit_eq
  intro i
  rw [Nat.testBit_and, tb_byte ha, tb_byte hm, tb_byte h1]
  by_cases c : i < 8
  · simp [c]
  · simp [c]
theorem sh_byte {a z m M s : Nat} (ha : a < 256) (hs : s ≤ 8) (hm : m < 2 ^ (8 - s)) : ((a + 256 * z) >>> s) &&& (m + 256 * M) = ((a >>> s) &&& m) + 256 * ((z >>> s) &&& M) := by
  have hm2 : m < 256 := Nat.lt_of_lt_of_le hm (Nat.pow_le_pow_right (by omega) (by omega : 8 - s ≤ 8))
  have h1 : (a >>> s) &&& m < 256 := Nat.lt_of_le_of_lt Nat.and_le_right hm2
  apply Nat.eq_of_testBit_eq
  intro i
  rw [Nat.testBit_and, Nat.testBit_shiftRight, tb_byte ha, tb_byte hm2, tb_byte h1, Nat.testBit_and, Nat.testBit_and, Nat.testBit_shiftRight, Nat.testBit_shiftRight]
  by_cases c : i < 8
  · simp only [c, if_true]
    by_cases c2 : s + i < 8
    · simp [c2]
    · have : m.testBit i = false := Nat.testBit_lt_two_pow (Nat.lt_of_lt_of_le hm (Nat.pow_le_pow_right (by omega) (by omega)))
      simp [this]
  · have c2 : ¬ s + i < 8 := by omega
    simp only [c, c2, if_false]
    rw [show s + i - 8 = s + (i - 8) by omega]
