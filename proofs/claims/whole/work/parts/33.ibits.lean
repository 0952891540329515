/-! sets of LAWS and POINTS as bits of ints: I (n : Int), n a Nat below 2^31 -/
theorem iN_bv (n : Nat) : (I (n : Int)).toBitVec = BitVec.ofNat 32 n := rfl
theorem i_or (a b : Nat) : I (a : Int) ||| I (b : Int) = I ((a ||| b : Nat) : Int) := by
  apply Int32.toBitVec_inj.mp
  rw [Int32.toBitVec_or, iN_bv, iN_bv, iN_bv]
  apply BitVec.eq_of_getLsbD_eq
  intro i hi
  simp [BitVec.getLsbD_ofNat, hi, Nat.testBit_or]
theorem i_and (a b : Nat) : I (a : Int) &&& I (b : Int) = I ((a &&& b : Nat) : Int) := by
  apply Int32.toBitVec_inj.mp
  rw [Int32.toBitVec_and, iN_bv, iN_bv, iN_bv]
  apply BitVec.eq_of_getLsbD_eq
  intro i hi
  simp [BitVec.getLsbD_ofNat, hi, Nat.testBit_and]
theorem i_xor (a b : Nat) : I (a : Int) ^^^ I (b : Int) = I ((a ^^^ b : Nat) : Int) := by
  apply Int32.toBitVec_inj.mp
  rw [Int32.toBitVec_xor, iN_bv, iN_bv, iN_bv]
  apply BitVec.eq_of_getLsbD_eq
  intro i hi
  simp [BitVec.getLsbD_ofNat, hi, Nat.testBit_xor]
/-- a without b -/
def andn (a b : Nat) : Nat := a &&& (a ^^^ b) 
theorem andn_bit (a b i : Nat) : (andn a b).testBit i = (a.testBit i && !(b.testBit i)) := by
  simp [andn, Nat.testBit_and, Nat.testBit_xor]
  cases a.testBit i <;> cases b.testBit i <;> rfl
theorem i_andn (a b : Nat) : I (a : Int) &&& (I (b : Int) ^^^ I (-1)) = I ((andn a b : Nat) : Int) := by
  apply Int32.toBitVec_inj.mp
  rw [Int32.toBitVec_and, Int32.toBitVec_xor, iN_bv, iN_bv, iN_bv]
  apply BitVec.eq_of_getLsbD_eq
  intro i hi
  have e : (I (-1)).toBitVec.getLsbD i = true := by
    have : (I (-1)).toBitVec = BitVec.allOnes 32 := by decide
    rw [this, BitVec.getLsbD_allOnes]; simp only [hi, decide_true]
  rw [BitVec.getLsbD_and, BitVec.getLsbD_xor, e]
  simp only [BitVec.getLsbD_ofNat, hi, decide_true, Bool.true_and, andn_bit, Bool.xor_true]
theorem i_shl1 : ∀ k : Nat, k < 31 → I 1 <<< (I (k : Int) &&& 31) = I ((2 ^ k : Nat) : Int) := by decide +kernel
theorem i_sh31 : ∀ k : Nat, k < 32 → (I (k : Int) &&& 31) = I (k : Int) := by decide +kernel
theorem i_bit (a k : Nat) (ha : a < 2147483648) (hk : k < 31) : (I (a : Int) >>> (I (k : Int) &&& 31)) &&& I 1 = I (if a.testBit k then 1 else 0) := by
  rw [i_sh31 k (by omega)]
  have e1 : I (a : Int) >>> I (k : Int) = I ((a / 2 ^ k : Nat) : Int) := pk_shrN (by omega) (I (k : Int)) k (by
    have : ∀ k : Nat, k < 31 → ((I (k : Int)).toBitVec.smod 32).toNat = k := by decide +kernel
    exact this k hk)
  rw [e1, show I 1 = I ((1 : Nat) : Int) from rfl, i_and]
  congr 1
  rw [Nat.and_one_is_mod, Nat.testBit_eq_decide_div_mod_eq]
  rcases Nat.mod_two_eq_zero_or_one (a / 2 ^ k) with h | h <;> simp [h]
/-- sets as ints that aren't below 0 -/
def zor (a b : Int) : Int := ((a.toNat ||| b.toNat : Nat) : Int)
def zand (a b : Int) : Int := ((a.toNat &&& b.toNat : Nat) : Int)
def zxor (a b : Int) : Int := ((a.toNat ^^^ b.toNat : Nat) : Int)
def zandn (a b : Int) : Int := ((andn a.toNat b.toNat : Nat) : Int)
def zbit (k : Int) : Int := ((2 ^ k.toNat : Nat) : Int)
def ib (a k : Int) : Prop := a.toNat.testBit k.toNat = true
section IB
variable {a b k j : Int}
theorem zor_i (ha : 0 ≤ a) (hb : 0 ≤ b) : I a ||| I b = I (zor a b) := by
  obtain ⟨a, rfl⟩ := Int.eq_ofNat_of_zero_le ha
  obtain ⟨b, rfl⟩ := Int.eq_ofNat_of_zero_le hb
  exact i_or a b
theorem zand_i (ha : 0 ≤ a) (hb : 0 ≤ b) : I a &&& I b = I (zand a b) := by
  obtain ⟨a, rfl⟩ := Int.eq_ofNat_of_zero_le ha
  obtain ⟨b, rfl⟩ := Int.eq_ofNat_of_zero_le hb
  exact i_and a b
theorem zxor_i (ha : 0 ≤ a) (hb : 0 ≤ b) : I a ^^^ I b = I (zxor a b) := by
  obtain ⟨a, rfl⟩ := Int.eq_ofNat_of_zero_le ha
  obtain ⟨b, rfl⟩ := Int.eq_ofNat_of_zero_le hb
  exact i_xor a b
theorem zandn_i (ha : 0 ≤ a) (hb : 0 ≤ b) : I a &&& (I b ^^^ I (-1)) = I (zandn a b) := by
  obtain ⟨a, rfl⟩ := Int.eq_ofNat_of_zero_le ha
  obtain ⟨b, rfl⟩ := Int.eq_ofNat_of_zero_le hb
  exact i_andn a b
theorem zandn_i2 (ha : 0 ≤ a) (hb : 0 ≤ b) : (I b ^^^ I (-1)) &&& I a = I (zandn a b) := by
  rw [← zandn_i ha hb]
  apply Int32.toBitVec_inj.mp
  rw [Int32.toBitVec_and, Int32.toBitVec_and, BitVec.and_comm]
theorem zbit_i (h0 : 0 ≤ k) (h1 : k < 31) : I 1 <<< (I k &&& 31) = I (zbit k) := by
  obtain ⟨k, rfl⟩ := Int.eq_ofNat_of_zero_le h0
  exact i_shl1 k (by omega)
theorem ib_i (ha : 0 ≤ a) (ha2 : a < 2147483648) (h0 : 0 ≤ k) (h1 : k < 31) : (I a >>> (I k &&& 31)) &&& I 1 = I (bz (ib a k)) := by
  obtain ⟨a, rfl⟩ := Int.eq_ofNat_of_zero_le ha
  obtain ⟨k, rfl⟩ := Int.eq_ofNat_of_zero_le h0
  rw [i_bit a k (by omega) (by omega)]
  by_cases e : a.testBit k = true
  · rw [if_pos e, bz_T (show ib a k from e)]
  · rw [if_neg e, bz_F (show ¬ ib a k from e)]
theorem zor_0 : 0 ≤ zor a b := Int.natCast_nonneg _
theorem zand_0 : 0 ≤ zand a b := Int.natCast_nonneg _
theorem zxor_0 : 0 ≤ zxor a b := Int.natCast_nonneg _
theorem zandn_0 : 0 ≤ zandn a b := Int.natCast_nonneg _
theorem zbit_0 : 0 ≤ zbit k := Int.natCast_nonneg _
theorem ib_zor : ib (zor a b) k = (ib a k ∨ ib b k) := by simp [ib, zor, Nat.testBit_or]
theorem ib_zand : ib (zand a b) k = (ib a k ∧ ib b k) := by simp [ib, zand, Nat.testBit_and]
theorem ib_zandn : ib (zandn a b) k = (ib a k ∧ ¬ ib b k) := by simp [ib, zandn, andn_bit]
theorem ib_zxor : ib (zxor a b) k = ¬ (ib a k ↔ ib b k) := by
  simp only [ib, zxor, Nat.testBit_xor, Int.toNat_natCast]
  cases a.toNat.testBit k.toNat <;> cases b.toNat.testBit k.toNat <;> simp
theorem ib_zbit (h0 : 0 ≤ k) (h1 : 0 ≤ j) : ib (zbit k) j = (j = k) := by
  simp only [ib, zbit, Int.toNat_natCast, Nat.testBit_two_pow, decide_eq_true_eq]
  exact propext (by omega)
theorem ib_0 : ib 0 k = False := by simp [ib]
theorem ib_lt {n : Nat} (ha : 0 ≤ a) : (a < 2 ^ n) ↔ ∀ k : Int, (n : Int) ≤ k → ¬ ib a k := by
  obtain ⟨a, rfl⟩ := Int.eq_ofNat_of_zero_le ha
  constructor
  · intro h k hk
    simp only [ib, Int.toNat_natCast, Bool.not_eq_true]
    apply Nat.testBit_lt_two_pow
    have h1 : a < 2 ^ n := by exact_mod_cast h
    exact Nat.lt_of_lt_of_le h1 (Nat.pow_le_pow_right (by omega) (by omega))
  · intro h
    have : a < 2 ^ n := by
      apply Nat.lt_pow_two_of_testBit
      intro i hi
      have := h i (by omega)
      simpa [ib] using this
    exact_mod_cast this
theorem ib_ext (ha : 0 ≤ a) (hb : 0 ≤ b) (h : ∀ k : Int, 0 ≤ k → (ib a k ↔ ib b k)) : a = b := by
  obtain ⟨a, rfl⟩ := Int.eq_ofNat_of_zero_le ha
  obtain ⟨b, rfl⟩ := Int.eq_ofNat_of_zero_le hb
  congr 1
  apply Nat.eq_of_testBit_eq
  intro i
  have := h i (by omega)
  simp only [ib, Int.toNat_natCast] at this
  exact Bool.eq_iff_iff.mpr this
theorem zor_lt {n : Nat} (ha : a < 2 ^ n) (hb : b < 2 ^ n) (h0 : 0 ≤ a) (h1 : 0 ≤ b) : zor a b < 2 ^ n := by
  rw [ib_lt zor_0]
  intro k hk
  rw [ib_zor]
  exact fun q => q.elim ((ib_lt h0).mp ha k hk) ((ib_lt h1).mp hb k hk)
theorem zand_lt {n : Nat} (ha : a < 2 ^ n) (h0 : 0 ≤ a) : zand a b < 2 ^ n := by
  rw [ib_lt zand_0]
  intro k hk
  rw [ib_zand]
  exact fun q => (ib_lt h0).mp ha k hk q.1
theorem zandn_lt {n : Nat} (ha : a < 2 ^ n) (h0 : 0 ≤ a) : zandn a b < 2 ^ n := by
  rw [ib_lt zandn_0]
  intro k hk
  rw [ib_zandn]
  exact fun q => (ib_lt h0).mp ha k hk q.1
theorem zbit_lt {n : Nat} (h0 : 0 ≤ k) (h1 : k < n) : zbit k < 2 ^ n := by
  rw [ib_lt zbit_0]
  intro j hj
  rw [ib_zbit h0 (by omega)]
  omega
end IB
