/-! sets of LAWS and POINTS as bits of ints: I (n : Int), n a Nat below 2^31 -/
theorem iN_bv (n : Nat) : (I (n : Int)).toBitVec = BitVec.ofNat 32 n := rfl
theorem i_or (a b : Nat) : I (a : Int) ||| I (b : Int) = I ((a ||| b : Nat) : Int) := by
  apply Int32.toBitVec_inj.mp
  rw [Int32.toBitVec_or, iN_bv, iN_bv, iN_bv]
  apply BitVec.eq_of_getLsbD_eq
  intro i hi
  simp [BitVec.getLsbD_ofNat, hi, Nat.testBit_or]
theorem i_and (a b : Nat) : I (a : Int) &&& I (b : Int) = I ((a &&& b : Nat) : Int) := by
  apply Int32.toBitVec_inj.mp
  rw [Int32.toBitVec_and, iN_bv, iN_bv, iN_bv]
  apply BitVec.eq_of_getLsbD_eq
  intro i hi
  simp [BitVec.getLsbD_ofNat, hi, Nat.testBit_and]
theorem i_xor (a b : Nat) : I (a : Int) ^^^ I (b : Int) = I ((a ^^^ b : Nat) : Int) := by
  apply Int32.toBitVec_inj.mp
  rw [Int32.toBitVec_xor, iN_bv, iN_bv, iN_bv]
  apply BitVec.eq_of_getLsbD_eq
  intro i hi
  simp [BitVec.getLsbD_ofNat, hi, Nat.testBit_xor]
/-- a without b -/
def andn (a b : Nat) : Nat := a &&& (a ^^^ b) 
theorem andn_bit (a b i : Nat) : (andn a b).testBit i = (a.testBit i && !(b.testBit i)) := by
  simp [andn, Nat.testBit_and, Nat.testBit_xor]
  cases a.testBit i <;> cases b.testBit i <;> rfl
theorem i_andn (a b : Nat) : I (a : Int) &&& (I (b : Int) ^^^ I (-1)) = I ((andn a b : Nat) : Int) := by
  apply Int32.toBitVec_inj.mp
  rw [Int32.toBitVec_and, Int32.toBitVec_xor, iN_bv, iN_bv, iN_bv]
  apply BitVec.eq_of_getLsbD_eq
  intro i hi
  have e : (I (-1)).toBitVec.getLsbD i = true := by
    have : (I (-1)).toBitVec = BitVec.allOnes 32 := by decide
    rw [this, BitVec.getLsbD_allOnes]; simp only [hi, decide_true]
  rw [BitVec.getLsbD_and, BitVec.getLsbD_xor, e]
  simp only [BitVec.getLsbD_ofNat, hi, decide_true, Bool.true_and, andn_bit, Bool.xor_true]
theorem i_shl1 : ∀ k : Nat, k < 31 → I 1 <<< (I (k : Int) &&& 31) = I ((2 ^ k : Nat) : Int) := by decide +kernel
theorem i_sh31 : ∀ k : Nat, k < 32 → (I (k : Int) &&& 31) = I (k : Int) := by decide +kernel
theorem i_bit (a k : Nat) (ha : a < 2147483648) (hk : k < 31) : (I (a : Int) >>> (I (k : Int) &&& 31)) &&& I 1 = I (if a.testBit k then 1 else 0) := by
  rw [i_sh31 k (by omega)]
  have e1 : I (a : Int) >>> I (k : Int) = I ((a / 2 ^ k : Nat) : Int) := pk_shrN (by omega) (I (k : Int)) k (by
    have : ∀ k : Nat, k < 31 → ((I (k : Int)).toBitVec.smod 32).toNat = k := by decide +kernel
    exact this k hk)
  rw [e1, show I 1 = I ((1 : Nat) : Int) from rfl, i_and]
  congr 1
  rw [Nat.and_one_is_mod, Nat.testBit_eq_decide_div_mod_eq]
  rcases Nat.mod_two_eq_zero_or_one (a / 2 ^ k) with h | h <;> simp [h]
