/-! WORDS: how they are broken -/
/-- what is left in a row from WORD k on, of m + 1 WORDS -/
def lf (w : Int → Int) (B k : Int) : Nat → Int
  | 0 => B - w k
  | m + 1 => lf w B k m - (1 + w (k + m + 1))
def smR (w : Int → Int) (n B : Int) (LS : Int → Int) (k : Int) (m : Nat) : Int := if k + m + 1 = n then 0 else lf w B k m * lf w B k m + LS (k + m + 1)
/-- squares and the next row's WORD, the first row of at most m + 1 WORDS -/
def rf (w : Int → Int) (n B : Int) (LS : Int → Int) (k : Int) : Nat → Int × Int
  | 0 => (smR w n B LS k 0, k + 1)
  | m + 1 => if 0 ≤ lf w B k (m + 1) ∧ smR w n B LS k (m + 1) ≤ (rf w n B LS k m).1 then (smR w n B LS k (m + 1), k + m + 2) else rf w n B LS k m
def WdO (n : Int) (w : Int → Int) : Prop := (0 ≤ n ∧ n ≤ 12) ∧ ∀ i, 0 ≤ i → i < n → 1 ≤ w i ∧ w i ≤ 20
/-- rows as they are broken from WORD a on -/
def Brk (w : Int → Int) (n B : Int) (LS NX : Int → Int) (a : Int) : Prop := LS n = 0 ∧ ∀ k, a ≤ k → k < n → (LS k, NX k) = rf w n B LS k (n - 1 - k).toNat
section WRD
variable {n B : Int} {w LS LS' NX NX' : Int → Int} {k : Int}
theorem rf_congr (h : ∀ j, k < j → j ≤ n → LS j = LS' j) : ∀ m : Nat, k + m < n → rf w n B LS k m = rf w n B LS' k m := by
  intro m
  induction m with
  | zero => intro hm; simp only [rf, smR]; rw [h (k + (0 : Nat) + 1) (by omega) (by omega)]
  | succ m ih =>
    intro hm
    have es : smR w n B LS k (m + 1) = smR w n B LS' k (m + 1) := by
      unfold smR; rw [h (k + (m + 1 : Nat) + 1) (by omega) (by omega)]
    simp only [rf]
    rw [ih (by omega), es]
theorem rf_nx : ∀ m : Nat, k < (rf w n B LS k m).2 ∧ (rf w n B LS k m).2 ≤ k + m + 1 := by
  intro m
  induction m with
  | zero => simp only [rf]; omega
  | succ m ih =>
    simp only [rf]
    split
    · simp only []; omega
    · omega
theorem lf_lt {n : Int} (hO : WdO n w) (h0 : 0 ≤ k) : ∀ m j : Nat, k + m + j < n → lf w B k (m + j) ≤ lf w B k m := by
  intro m j
  induction j with
  | zero => intro _; exact Int.le_refl _
  | succ j ih =>
    intro h
    have := hO.2 (k + (m + j : Nat) + 1) (by omega) (by omega)
    show lf w B k (m + j) - (1 + w (k + (m + j : Nat) + 1)) ≤ _
    have := ih (by omega)
    omega
theorem lf_r (hO : WdO n w) (h0 : 0 ≤ k) : ∀ m : Nat, k + m < n → lf w B k m ≤ B - 1 := by
  intro m hm
  have := lf_lt (B := B) hO h0 0 m (by omega)
  have h2 := hO.2 k h0 (by omega)
  rw [Nat.zero_add] at this
  simp only [lf] at this
  omega
theorem rf_stop (hO : WdO n w) (h0 : 0 ≤ k) {m : Nat} (hs : k + m + 1 < n → lf w B k (m + 1) < 0) : ∀ j : Nat, k + m + j < n → rf w n B LS k (m + j) = rf w n B LS k m := by
  intro j
  induction j with
  | zero => intro _; rfl
  | succ j ih =>
    intro h
    have h1 := hs (by omega)
    have h2 := lf_lt (B := B) hO h0 (m + 1) j (by omega)
    rw [show m + 1 + j = m + j + 1 by omega] at h2
    show rf w n B LS k (m + j + 1) = _
    simp only [rf]
    rw [if_neg (by omega), ih (by omega)]
theorem Brk_uniq (h1 : Brk w n B LS NX 0) (h2 : Brk w n B LS' NX' 0) : ∀ q : Nat, ∀ k, 0 ≤ k → n - q ≤ k → k ≤ n → LS k = LS' k ∧ (k < n → NX k = NX' k) := by
  intro q
  induction q with
  | zero => intro k h0 hk hn; obtain rfl : k = n := by omega
            exact ⟨by rw [h1.1, h2.1], fun z => by omega⟩
  | succ q ih =>
    intro k h0 hk hn
    by_cases e : k = n
    · subst e; exact ⟨by rw [h1.1, h2.1], fun z => by omega⟩
    · have a := h1.2 k h0 (by omega)
      have b := h2.2 k h0 (by omega)
      rw [rf_congr (LS' := LS') (fun j z0 z1 => (ih j (by omega) (by omega) z1).1) _ (by omega), ← b] at a
      simp only [Prod.mk.injEq] at a
      exact ⟨a.1, fun _ => a.2⟩
theorem Brk_nx (h1 : Brk w n B LS NX 0) (h0 : 0 ≤ k) (hk : k < n) : k < NX k ∧ NX k ≤ n := by
  have a := h1.2 k h0 hk
  have b := rf_nx (w := w) (n := n) (B := B) (LS := LS) (k := k) (n - 1 - k).toNat
  rw [← a] at b
  simp only [] at b
  omega
theorem rf_sq (hO : WdO n w) (hB : 0 ≤ B ∧ B ≤ 80) (h0 : 0 ≤ k) (hk : k < n) (hw : w k ≤ B) (hL : ∀ j, k < j → j ≤ n → 0 ≤ LS j ∧ LS j ≤ (n - j) * 6400) : ∀ m : Nat, k + m < n → 0 ≤ (rf w n B LS k m).1 ∧ (rf w n B LS k m).1 ≤ (n - k) * 6400 := by
  have sq : ∀ m : Nat, k + m < n → 0 ≤ lf w B k m → 0 ≤ smR w n B LS k m ∧ smR w n B LS k m ≤ (n - k) * 6400 := by
    intro m hm hl
    unfold smR
    have l1 := lf_r (B := B) hO h0 m hm
    by_cases e : k + m + 1 = n
    · rw [if_pos e]; omega
    · rw [if_neg e]
      have l2 := hL (k + m + 1) (by omega) (by omega)
      have l3 : lf w B k m * lf w B k m ≤ 80 * 80 := Int.mul_le_mul (by omega) (by omega) hl (by omega)
      have l4 : 0 ≤ lf w B k m * lf w B k m := Int.mul_nonneg hl hl
      have l5 : (n - (k + m + 1)) * 6400 ≤ (n - k) * 6400 - 6400 := by omega
      omega
  intro m
  induction m with
  | zero => intro hm; exact sq 0 hm (by simp only [lf]; omega)
  | succ m ih =>
    intro hm
    simp only [rf]
    split
    · rename_i e; exact sq (m + 1) hm e.1
    · exact ih (by omega)
end WRD
