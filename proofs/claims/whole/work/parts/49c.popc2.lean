/-! counts of bits: the JDK's two methods -/
theorem cnt_low {Q : Int → Prop} : ∀ n : Nat, cnt Q (n + 1) = bz (Q 0) + cnt (fun i => Q (i + 1)) n := by
  intro n
  induction n with
  | zero => show 0 + bz (Q 0) = bz (Q 0) + 0; omega
  | succ n ih =>
    show cnt Q (n + 1) + bz (Q ((n + 1 : Nat) : Int)) = bz (Q 0) + (cnt (fun i => Q (i + 1)) n + bz (Q ((n : Int) + 1)))
    rw [ih, show ((n + 1 : Nat) : Int) = (n : Int) + 1 by omega]
    omega
theorem cnt_lob : ∀ (k n : Nat), cnt (fun i => n.testBit i.toNat = true) k = (lob n k : Int) := by
  intro k
  induction k with
  | zero => intro n; rfl
  | succ k ih =>
    intro n
    rw [cnt_low]
    have e : cnt (fun i : Int => n.testBit (i + 1).toNat = true) k = cnt (fun i => (n / 2).testBit i.toNat = true) k := cnt_congr (fun i h0 _ => by
      rw [show (i + 1).toNat = i.toNat + 1 by omega, Nat.testBit_succ])
    rw [e, ih]
    show bz (n.testBit 0 = true) + (lob (n / 2) k : Int) = ((n % 2 + lob (n / 2) k : Nat) : Int)
    have : bz (n.testBit 0 = true) = ((n % 2 : Nat) : Int) := by
      rw [Nat.testBit_zero]
      rcases Nat.mod_two_eq_zero_or_one n with h | h
      · rw [h, bz_F (by simp)]; rfl
      · rw [h, bz_T (by simp)]; rfl
    omega
theorem sh32u : ∀ c : Nat, c < 32 → ((I (c : Int)).toUInt32 &&& Int32.toUInt32 31) = UInt32.ofNat c := by decide +kernel
theorem i_ushr {a k : Nat} (ha : a < 4294967296) (hk : k < 32) : ((I (a : Int)).toUInt32 >>> ((I (k : Int)).toUInt32 &&& Int32.toUInt32 31)).toInt32 = I ((a >>> k : Nat) : Int) := by
  rw [sh32u k hk]
  apply Int32.toBitVec_inj.mp
  show (((I (a : Int)).toUInt32) >>> UInt32.ofNat k).toBitVec = (I ((a >>> k : Nat) : Int)).toBitVec
  rw [UInt32.toBitVec_shiftRight]
  have : ((UInt32.ofNat k).toBitVec % 32).toNat = k := by
    rw [BitVec.toNat_umod]
    simp [UInt32.ofNat]
    omega
  rw [iN_bv]
  show (I (a : Int)).toBitVec >>> ((UInt32.ofNat k).toBitVec % 32) = _
  rw [iN_bv, BitVec.ushiftRight_eq', this]
  apply BitVec.eq_of_toNat_eq
  simp only [BitVec.toNat_ushiftRight, BitVec.toNat_ofNat]
  have h1 : a >>> k ≤ a := by rw [Nat.shiftRight_eq_div_pow]; exact Nat.div_le_self _ _
  rw [Nat.mod_eq_of_lt (by omega), Nat.mod_eq_of_lt (by omega)]
theorem i_sub {a b : Nat} (h : b ≤ a) : I (a : Int) - I (b : Int) = I ((a - b : Nat) : Int) := by
  rw [zsub]; congr 1; omega
theorem i_add {a b : Nat} : I (a : Int) + I (b : Int) = I ((a + b : Nat) : Int) := by
  rw [zadd]; congr 1
theorem sub5_le (n m : Nat) : (n >>> 1) &&& m ≤ n := Nat.le_trans Nat.and_le_left (by rw [Nat.shiftRight_eq_div_pow]; omega)
theorem sh_le (n k : Nat) : n >>> k ≤ n := by rw [Nat.shiftRight_eq_div_pow]; exact Nat.div_le_self _ _
theorem pcI_i {n : Nat} (hn : n < 2147483648) {d : Nat} {h : aH} {post : Option Value → aH → Prop} : R d 0 0 260 0 [.int (I (n : Int))] [] h post = post (some (.int (I (pcI n : Int)))) h := by
  have k1 : (1431655765 : Int32) = I ((1431655765 : Nat) : Int) := rfl
  have k2 : (858993459 : Int32) = I ((858993459 : Nat) : Int) := rfl
  have k3 : (252645135 : Int32) = I ((252645135 : Nat) : Int) := rfl
  have j1 : Int32.ofInt 1 = I ((1 : Nat) : Int) := rfl
  have j2 : Int32.ofInt 2 = I ((2 : Nat) : Int) := rfl
  have j4 : Int32.ofInt 4 = I ((4 : Nat) : Int) := rfl
  have j8 : Int32.ofInt 8 = I ((8 : Nat) : Int) := rfl
  have j16 : Int32.ofInt 16 = I ((16 : Nat) : Int) := rfl
  have j63 : Int32.ofInt 63 = I ((63 : Nat) : Int) := rfl
  simp only [e260_0, e260_1, e260_2, e260_3, e260_4, e260_7, e260_8, e260_9, e260_10, e260_11, e260_14, e260_15, e260_16, e260_17, e260_18, e260_21, e260_22, e260_23, e260_24, e260_25, e260_26, e260_27, e260_28, e260_29, e260_32, e260_33, e260_34, e260_35, e260_36, e260_38, e260_39, e260_40, e260_41, e260_42, e260_43, e260_45, e260_46, e260_47, e260_48, e260_49, e260_51, e260_52]
  rw [k1, k2, k3, j1, j2, j4, j8, j16, j63, i_ushr (by omega) (by omega), i_and, i_sub (sub5_le _ _)]
  refine congrArg (fun z => post (some (.int z)) h) ?_
  unfold pcI
  have ha : n - ((n >>> 1) &&& 1431655765) < 2147483648 := by omega
  generalize n - ((n >>> 1) &&& 1431655765) = a at ha
  rw [i_and, i_ushr (by omega) (by omega), i_and, i_add]
  have hb : (a &&& 858993459) + ((a >>> 2) &&& 858993459) < 2147483648 := by
    have h1 : a &&& 858993459 ≤ 858993459 := Nat.and_le_right
    have h2 : (a >>> 2) &&& 858993459 ≤ 858993459 := Nat.and_le_right
    omega
  simp only []
  generalize (a &&& 858993459) + ((a >>> 2) &&& 858993459) = b at hb
  rw [i_ushr (by omega) (by omega), i_add, i_and]
  have hc : (b + b >>> 4) &&& 252645135 ≤ 252645135 := Nat.and_le_right
  generalize (b + b >>> 4) &&& 252645135 = c at hc
  rw [i_ushr (by omega) (by omega), i_add]
  have he : c + c >>> 8 ≤ 2 * 252645135 := by have := sh_le c 8; omega
  generalize c + c >>> 8 = e at he
  rw [i_ushr (by omega) (by omega), i_add, i_and]
/-- longs that are numbers -/
theorem lN_bv (n : Nat) : (Int64.ofNat n).toBitVec = BitVec.ofNat 64 n := rfl
theorem l_and (a b : Nat) : Int64.ofNat a &&& Int64.ofNat b = Int64.ofNat (a &&& b) := by
  apply Int64.toBitVec_inj.mp
  rw [Int64.toBitVec_and, lN_bv, lN_bv, lN_bv]
  apply BitVec.eq_of_getLsbD_eq
  intro i hi
  simp [BitVec.getLsbD_ofNat, hi, Nat.testBit_and]
theorem l_ushr {a k : Nat} (ha : a < 18446744073709551616) (hk : k < 64) : ((Int64.ofNat a).toUInt64 >>> ((I (k : Int)).toInt64.toUInt64 &&& Int64.toUInt64 63)).toInt64 = Int64.ofNat (a >>> k) := by
  rw [sh64u k hk]
  apply Int64.toBitVec_inj.mp
  show ((Int64.ofNat a).toUInt64 >>> UInt64.ofNat k).toBitVec = (Int64.ofNat (a >>> k)).toBitVec
  rw [UInt64.toBitVec_shiftRight]
  have : ((UInt64.ofNat k).toBitVec % 64).toNat = k := by
    rw [BitVec.toNat_umod]
    simp [UInt64.ofNat]
    omega
  rw [lN_bv]
  show (Int64.ofNat a).toBitVec >>> ((UInt64.ofNat k).toBitVec % 64) = _
  rw [lN_bv, BitVec.ushiftRight_eq', this]
  apply BitVec.eq_of_toNat_eq
  simp only [BitVec.toNat_ushiftRight, BitVec.toNat_ofNat]
  have h1 := sh_le a k
  rw [Nat.mod_eq_of_lt (by omega), Nat.mod_eq_of_lt (by omega)]
theorem l_add {a b : Nat} : Int64.ofNat a + Int64.ofNat b = Int64.ofNat (a + b) := by
  apply Int64.toBitVec_inj.mp
  rw [Int64.toBitVec_add, lN_bv, lN_bv, lN_bv, BitVec.ofNat_add]
theorem l_sub {a b : Nat} (h : b ≤ a) : Int64.ofNat a - Int64.ofNat b = Int64.ofNat (a - b) := by
  have : Int64.ofNat a = Int64.ofNat (a - b) + Int64.ofNat b := by rw [l_add, Nat.sub_add_cancel h]
  rw [this]
  exact Int64.add_sub_cancel _ _
theorem l_i32 (n : Nat) : (Int64.ofNat n).toInt32 = I (n : Int) := by
  apply Int32.toBitVec_inj.mp
  rw [Int64.toBitVec_toInt32, lN_bv, iN_bv]
  apply BitVec.eq_of_getLsbD_eq
  intro i hi
  simp only [BitVec.getLsbD_signExtend, if_true, BitVec.getLsbD_ofNat, hi, decide_true, Bool.true_and, show i < 64 by omega]
theorem pcL_i {n : Nat} (hn : n < 9223372036854775808) {d : Nat} {h : aH} {post : Option Value → aH → Prop} : R d 0 0 261 0 [.long (Int64.ofNat n), .null] [] h post = post (some (.int (I (pcL n : Int)))) h := by
  have k1 : (6148914691236517205 : Int64) = Int64.ofNat 6148914691236517205 := rfl
  have k2 : (3689348814741910323 : Int64) = Int64.ofNat 3689348814741910323 := rfl
  have k3 : (1085102592571150095 : Int64) = Int64.ofNat 1085102592571150095 := rfl
  have j1 : Int32.ofInt 1 = I ((1 : Nat) : Int) := rfl
  have j2 : Int32.ofInt 2 = I ((2 : Nat) : Int) := rfl
  have j4 : Int32.ofInt 4 = I ((4 : Nat) : Int) := rfl
  have j8 : Int32.ofInt 8 = I ((8 : Nat) : Int) := rfl
  have j16 : Int32.ofInt 16 = I ((16 : Nat) : Int) := rfl
  have j32 : Int32.ofInt 32 = I ((32 : Nat) : Int) := rfl
  have j127 : Int32.ofInt 127 = I ((127 : Nat) : Int) := rfl
  simp only [e261_0, e261_1, e261_2, e261_3, e261_4, e261_7, e261_8, e261_9, e261_10, e261_11, e261_14, e261_15, e261_16, e261_17, e261_18, e261_21, e261_22, e261_23, e261_24, e261_25, e261_26, e261_27, e261_28, e261_29, e261_32, e261_33, e261_34, e261_35, e261_36, e261_38, e261_39, e261_40, e261_41, e261_42, e261_43, e261_45, e261_46, e261_47, e261_48, e261_49, e261_50, e261_52, e261_53, e261_54, e261_55, e261_56, e261_57, e261_59, e261_60]
  rw [k1, k2, k3, j1, j2, j4, j8, j16, j32, j127, l_ushr (by omega) (by omega), l_and, l_sub (sub5_le _ _)]
  refine congrArg (fun z => post (some (.int z)) h) ?_
  unfold pcL
  have ha : n - ((n >>> 1) &&& 6148914691236517205) < 9223372036854775808 := by omega
  generalize n - ((n >>> 1) &&& 6148914691236517205) = a at ha
  rw [l_and, l_ushr (by omega) (by omega), l_and, l_add]
  have hb : (a &&& 3689348814741910323) + ((a >>> 2) &&& 3689348814741910323) < 9223372036854775808 := by
    have h1 : a &&& 3689348814741910323 ≤ 3689348814741910323 := Nat.and_le_right
    have h2 : (a >>> 2) &&& 3689348814741910323 ≤ 3689348814741910323 := Nat.and_le_right
    omega
  simp only []
  generalize (a &&& 3689348814741910323) + ((a >>> 2) &&& 3689348814741910323) = b at hb
  rw [l_ushr (by omega) (by omega), l_add, l_and]
  have hc : (b + b >>> 4) &&& 1085102592571150095 ≤ 1085102592571150095 := Nat.and_le_right
  generalize (b + b >>> 4) &&& 1085102592571150095 = c at hc
  rw [l_ushr (by omega) (by omega), l_add]
  have he : c + c >>> 8 ≤ 2 * 1085102592571150095 := by have := sh_le c 8; omega
  generalize c + c >>> 8 = e at he
  rw [l_ushr (by omega) (by omega), l_add]
  have hf : e + e >>> 16 ≤ 4 * 1085102592571150095 := by have := sh_le e 16; omega
  generalize e + e >>> 16 = f at hf
  rw [l_ushr (by omega) (by omega), l_add, l_i32, i_and]
section POPD
variable {d : Nat} {h : aH} {post : Option Value → aH → Prop}
theorem q_Integer_bitCount {x : Int} (hx : 0 ≤ x ∧ x < 2147483648) : R d 0 0 260 0 [.int (I x)] [] h post = post (some (.int (I (cnt (ib x) 31)))) h := by
  obtain ⟨n, rfl⟩ := Int.eq_ofNat_of_zero_le hx.1
  have hn : n < 2147483648 := by omega
  rw [pcI_i hn, pcI_eq (by omega), ← cnt_lob]
  have e : cnt (fun i : Int => n.testBit i.toNat = true) (31 + 1) = cnt (fun i : Int => n.testBit i.toNat = true) 31 := cnt_le (fun i h0 h1 => by
    rw [show i.toNat = 31 by omega, Nat.testBit_lt_two_pow (by omega)]; simp)
  rw [e]
  rfl
theorem q_Long_bitCount {x : Int64} (hx : ∀ c : Int, 60 ≤ c → c < 64 → ¬ lb x c) : R d 0 0 261 0 [.long x, .null] [] h post = post (some (.int (I (cnt (lb x) 60)))) h := by
  have hx2 : ∀ i : Nat, 60 ≤ i → x.toBitVec.toNat.testBit i = false := by
    intro i hi
    by_cases c : i < 64
    · have := hx i (by omega) (by omega)
      simpa [lb, lbit, BitVec.getLsbD] using this
    · exact Nat.testBit_lt_two_pow (Nat.lt_of_lt_of_le x.toBitVec.isLt (Nat.pow_le_pow_right (by omega) (by omega)))
  have hn : x.toBitVec.toNat < 2 ^ 60 := Nat.lt_pow_two_of_testBit _ hx2
  have e : x = Int64.ofNat x.toBitVec.toNat := by
    apply Int64.toBitVec_inj.mp
    rw [lN_bv, BitVec.ofNat_toNat]; simp
  have hq : cnt (lb x) 60 = cnt (fun i : Int => x.toBitVec.toNat.testBit i.toNat = true) 60 := rfl
  rw [hq]
  generalize x.toBitVec.toNat = n at *
  subst e
  rw [pcL_i (by omega), pcL_eq (by omega), ← cnt_lob]
  have e : cnt (fun i : Int => n.testBit i.toNat = true) (60 + 4) = cnt (fun i : Int => n.testBit i.toNat = true) 60 := cnt_le (fun i h0 h1 => by
    rw [hx2 _ (by omega)]; simp)
  rw [e]
end POPD
