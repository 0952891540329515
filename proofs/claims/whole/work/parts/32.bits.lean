/-! bits of longs and ints -/
def lbit (x : Int64) (c : Nat) : Bool := x.toBitVec.getLsbD c
theorem sh64u : ∀ c : Nat, c < 64 → ((I (c : Int)).toInt64.toUInt64 &&& Int64.toUInt64 63) = UInt64.ofNat c := by decide +kernel
theorem sh64s : ∀ c : Nat, c < 64 → ((I (c : Int)).toInt64 &&& 63) = Int64.ofNat c := by decide +kernel
theorem one64 : Int64.toBitVec (Int64.ofNat 1) = 1#64 := by decide
theorem bv_and1 (x : BitVec 64) : x &&& 1#64 = if x.getLsbD 0 then 1#64 else 0#64 := by
  apply BitVec.eq_of_getLsbD_eq
  intro i hi
  simp only [BitVec.getLsbD_and]
  by_cases h0 : i = 0
  · subst h0
    cases x.getLsbD 0 <;> simp
  · have h1 : (1#64).getLsbD i = false := by
      simp [BitVec.getLsbD_one, h0]
    rw [h1, Bool.and_false]
    cases x.getLsbD 0 <;> simp [h1]
theorem lbit_u {x : Int64} {c : Nat} (hc : c < 64) : ((x.toUInt64 >>> ((I (c : Int)).toInt64.toUInt64 &&& Int64.toUInt64 63)).toInt64 &&& Int64.ofNat 1) = if lbit x c then Int64.ofNat 1 else 0 := by
  rw [sh64u c hc]
  apply Int64.toBitVec_inj.mp
  rw [Int64.toBitVec_and, one64, bv_and1]
  have e : ((x.toUInt64 >>> UInt64.ofNat c).toInt64).toBitVec.getLsbD 0 = lbit x c := by
    show (x.toUInt64 >>> UInt64.ofNat c).toBitVec.getLsbD 0 = lbit x c
    rw [UInt64.toBitVec_shiftRight]
    have : ((UInt64.ofNat c).toBitVec % 64).toNat = c := by
      rw [BitVec.toNat_umod]
      simp [UInt64.ofNat]
      omega
    simp only [BitVec.ushiftRight_eq', this, BitVec.getLsbD_ushiftRight, Nat.add_zero]
    rfl
  rw [e]
  cases lbit x c <;> rfl
theorem lbit_s {x : Int64} {c : Nat} (hc : c < 64) : ((x >>> ((I (c : Int)).toInt64 &&& 63)) &&& Int64.ofNat 1) = if lbit x c then Int64.ofNat 1 else 0 := by
  rw [sh64s c hc]
  apply Int64.toBitVec_inj.mp
  rw [Int64.toBitVec_and, one64, bv_and1]
  have e : (x >>> Int64.ofNat c).toBitVec.getLsbD 0 = lbit x c := by
    rw [Int64.toBitVec_shiftRight]
    have : ((Int64.ofNat c).toBitVec.smod 64).toNat = c := by
      revert c
      decide +kernel
    simp only [BitVec.sshiftRight', this, BitVec.getLsbD_sshiftRight]
    simp [hc, lbit]
  rw [e]
  cases lbit x c <;> rfl
theorem lcmp1 (b : Bool) : (lg_cmp (if b then Int64.ofNat 1 else 0) (Int64.ofNat 1) = 0) = (b = true) := by
  cases b <;> decide
theorem lcmp0 (b : Bool) : (lg_cmp (if b then Int64.ofNat 1 else 0) (Int64.ofNat 0) = 0) = (b = false) := by
  cases b <;> decide
theorem lbit_or {x y : Int64} {c : Nat} : lbit (x ||| y) c = (lbit x c || lbit y c) := by
  simp [lbit, Int64.toBitVec_or]
theorem lbit_and {x y : Int64} {c : Nat} : lbit (x &&& y) c = (lbit x c && lbit y c) := by
  simp [lbit, Int64.toBitVec_and]
theorem lbit_0 {c : Nat} : lbit 0 c = false := by simp [lbit]
theorem lbit_one {n c : Nat} (hn : n < 64) (hc : c < 64) : lbit (Int64.ofNat 1 <<< ((I (n : Int)).toInt64 &&& 63)) c = decide (c = n) := by
  rw [sh64s n hn]
  have : ∀ n : Nat, n < 64 → ∀ c : Nat, c < 64 → lbit (Int64.ofNat 1 <<< Int64.ofNat n) c = decide (c = n) := by decide +kernel
  exact this n hn c hc
theorem lbit_not {x : Int64} {c : Nat} (hc : c < 64) : lbit (x ^^^ -1) c = !(lbit x c) := by
  simp [lbit, Int64.toBitVec_xor, hc]
theorem lbit_ext {x y : Int64} (h : ∀ c, c < 64 → lbit x c = lbit y c) : x = y := Int64.toBitVec_inj.mp (BitVec.eq_of_getLsbD_eq h)
/-- a bit of a long, at a place that is an int -/
def lb (x : Int64) (c : Int) : Prop := lbit x c.toNat = true
theorem lb_u {x : Int64} {c : Int} (h0 : 0 ≤ c) (h1 : c < 64) : (lg_cmp ((x.toUInt64 >>> ((I c).toInt64.toUInt64 &&& Int64.toUInt64 63)).toInt64 &&& Int64.ofNat 1) (Int64.ofNat 1) = 0) = lb x c := by
  obtain ⟨n, rfl⟩ := Int.eq_ofNat_of_zero_le h0
  rw [lbit_u (by omega), lcmp1]
  rfl
theorem lb_s {x : Int64} {c : Int} (h0 : 0 ≤ c) (h1 : c < 64) : (lg_cmp ((x >>> ((I c).toInt64 &&& 63)) &&& Int64.ofNat 1) (Int64.ofNat 1) = 0) = lb x c := by
  obtain ⟨n, rfl⟩ := Int.eq_ofNat_of_zero_le h0
  rw [lbit_s (by omega), lcmp1]
  rfl
theorem lb_u0 {x : Int64} {c : Int} (h0 : 0 ≤ c) (h1 : c < 64) : (lg_cmp ((x.toUInt64 >>> ((I c).toInt64.toUInt64 &&& Int64.toUInt64 63)).toInt64 &&& Int64.ofNat 1) (Int64.ofNat 0) = 0) = ¬ lb x c := by
  obtain ⟨n, rfl⟩ := Int.eq_ofNat_of_zero_le h0
  rw [lbit_u (by omega), lcmp0]
  simp [lb]
theorem lb_s0 {x : Int64} {c : Int} (h0 : 0 ≤ c) (h1 : c < 64) : (lg_cmp ((x >>> ((I c).toInt64 &&& 63)) &&& Int64.ofNat 1) (Int64.ofNat 0) = 0) = ¬ lb x c := by
  obtain ⟨n, rfl⟩ := Int.eq_ofNat_of_zero_le h0
  rw [lbit_s (by omega), lcmp0]
  simp [lb]
theorem lb_si {x : Int64} {c : Int} (h0 : 0 ≤ c) (h1 : c < 64) : ((x >>> ((I c).toInt64 &&& 63)) &&& Int64.ofNat 1).toInt32 = I (bz (lb x c)) := by
  obtain ⟨n, rfl⟩ := Int.eq_ofNat_of_zero_le h0
  rw [lbit_s (by omega)]
  by_cases e : lbit x n = true
  · rw [if_pos e, bz_T (show lb x n from e)]; rfl
  · rw [if_neg e, bz_F (show ¬ lb x n from e)]; rfl
theorem lb_or {x y : Int64} {c : Int} : lb (x ||| y) c = (lb x c ∨ lb y c) := by simp [lb, lbit_or]
theorem lb_and {x y : Int64} {c : Int} : lb (x &&& y) c = (lb x c ∧ lb y c) := by simp [lb, lbit_and]
theorem lb_0 {c : Int} : lb 0 c = False := by simp [lb, lbit_0]
theorem lb_one {n c : Int} (h0 : 0 ≤ n) (h1 : n < 64) (h2 : 0 ≤ c) (h3 : c < 64) : lb (Int64.ofNat 1 <<< ((I n).toInt64 &&& 63)) c = (c = n) := by
  obtain ⟨n, rfl⟩ := Int.eq_ofNat_of_zero_le h0
  obtain ⟨c, rfl⟩ := Int.eq_ofNat_of_zero_le h2
  simp only [lb, Int.toNat_natCast]
  rw [lbit_one (by omega) (by omega)]
  simp only [decide_eq_true_eq]
  exact propext (by omega)
theorem lb_not {x : Int64} {c : Int} (h3 : c < 64) : lb (x ^^^ -1) c = ¬ lb x c := by
  simp only [lb]
  rw [lbit_not (by omega)]
  simp
theorem lb_ext {x y : Int64} (h : ∀ c : Int, 0 ≤ c → c < 64 → (lb x c ↔ lb y c)) : x = y := by
  apply lbit_ext
  intro c hc
  have := h c (by omega) (by omega)
  simp only [lb, Int.toNat_natCast] at this
  exact Bool.eq_iff_iff.mpr this
