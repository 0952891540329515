/-! the picture, in words of numbers -/
def lastV (f : Nat → Int) (z : Int) (o : Option Nat) : Int := match o with
  | none => z
  | some c => f c
/-- the last of the first n CHANGES that P takes, by turn; of equal ones the first -/
def lastOf (P : Nat → Bool) (tn : Nat → Int) : Nat → Option Nat
  | 0 => none
  | k + 1 => if P k && decide (lastV tn (-1) (lastOf P tn k) < tn k) then some k else lastOf P tn k
theorem lastOf_lt {P : Nat → Bool} {tn : Nat → Int} : ∀ {n o : Nat}, lastOf P tn n = some o → o < n ∧ P o = true := by
  intro n
  induction n with
  | zero => intro o h; cases h
  | succ n ih =>
    intro o h
    simp only [lastOf] at h
    by_cases hc : (P n && decide (lastV tn (-1) (lastOf P tn n) < tn n)) = true
    · rw [if_pos hc] at h
      cases h
      simp only [Bool.and_eq_true] at hc
      exact ⟨by omega, hc.1⟩
    · rw [if_neg hc] at h
      have := ih h
      exact ⟨by omega, this.2⟩
theorem lastOf_congr {P Q : Nat → Bool} {tn : Nat → Int} : ∀ {n : Nat}, (∀ c, c < n → P c = Q c) → lastOf P tn n = lastOf Q tn n := by
  intro n
  induction n with
  | zero => intro _; rfl
  | succ n ih =>
    intro h
    simp only [lastOf]
    rw [ih (fun c hc => h c (by omega)), h n (by omega)]
theorem lastOf_no {P : Nat → Bool} {tn : Nat → Int} {n : Nat} (h : P n = false) : lastOf P tn (n + 1) = lastOf P tn n := by
  simp [lastOf, h]
theorem lastOf_yes {P : Nat → Bool} {tn : Nat → Int} {n : Nat} (h : P n = true) (q : lastV tn (-1) (lastOf P tn n) < tn n) : lastOf P tn (n + 1) = some n := by
  simp [lastOf, h, q]
theorem lastOf_old {P : Nat → Bool} {tn : Nat → Int} {n : Nat} (q : ¬ lastV tn (-1) (lastOf P tn n) < tn n) : lastOf P tn (n + 1) = lastOf P tn n := by
  simp [lastOf, q]
