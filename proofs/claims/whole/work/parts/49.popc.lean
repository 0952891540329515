/-! counts of bits -/
/-- how many of the first n -/
noncomputable def cnt (Q : Int → Prop) : Nat → Int
  | 0 => 0
  | n + 1 => cnt Q n + bz (Q n)
section CNT
variable {Q P : Int → Prop} {n : Nat}
theorem cnt_r : ∀ n : Nat, 0 ≤ cnt Q n ∧ cnt Q n ≤ n := by
  intro n
  induction n with
  | zero => exact ⟨Int.le_refl 0, Int.le_refl 0⟩
  | succ n ih => have := bz_01 (Q n); simp only [cnt]; omega
theorem cnt_congr : ∀ {n : Nat}, (∀ i : Int, 0 ≤ i → i < n → (P i ↔ Q i)) → cnt P n = cnt Q n := by
  intro n
  induction n with
  | zero => intro _; rfl
  | succ n ih => intro h; simp only [cnt]; rw [ih (fun i h0 h1 => h i h0 (by omega)), bz_congr (h n (by omega) (by omega))]
theorem cnt_0 : ∀ {n : Nat}, (∀ i : Int, 0 ≤ i → i < n → ¬ Q i) → cnt Q n = 0 := by
  intro n
  induction n with
  | zero => intro _; rfl
  | succ n ih => intro h; simp only [cnt]; rw [ih (fun i h0 h1 => h i h0 (by omega)), bz_F (h n (by omega) (by omega))]; rfl
theorem cnt_add {a : Int} (h0 : 0 ≤ a) (ha : ¬ Q a) : ∀ {n : Nat}, a < n → cnt (fun i => Q i ∨ i = a) n = cnt Q n + 1 := by
  have low : ∀ n : Nat, (n : Int) ≤ a → cnt (fun i => Q i ∨ i = a) n = cnt Q n := fun n hn => cnt_congr (fun i _ h2 => ⟨fun z => z.elim id (fun w => by omega), Or.inl⟩)
  intro n
  induction n with
  | zero => intro h; omega
  | succ n ih =>
    intro h
    simp only [cnt]
    by_cases e : (n : Int) = a
    · rw [low n (by omega), bz_T (Or.inr e), bz_F (by rw [e]; exact ha)]; omega
    · rw [ih (by omega), bz_congr (show (Q n ∨ (n : Int) = a) ↔ Q n from ⟨fun z => z.elim id (fun w => absurd w e), Or.inl⟩)]; omega
theorem cnt_le : ∀ {n k : Nat}, (∀ i : Int, (n : Int) ≤ i → i < (n + k : Nat) → ¬ Q i) → cnt Q (n + k) = cnt Q n := by
  intro n k
  induction k with
  | zero => intro _; rfl
  | succ k ih =>
    intro h
    show cnt Q (n + k + 1) = _
    simp only [cnt]
    rw [ih (fun i h0 h1 => h i h0 (by omega)), bz_F (h _ (by omega) (by omega))]
    omega
theorem cnt_or {A B : Int → Prop} : ∀ {n : Nat}, (∀ i : Int, 0 ≤ i → i < n → ¬ (A i ∧ B i)) → cnt (fun i => A i ∨ B i) n = cnt A n + cnt B n := by
  intro n
  induction n with
  | zero => intro _; rfl
  | succ n ih =>
    intro h
    have h1 := h n (by omega) (by omega)
    simp only [cnt]
    rw [ih (fun i z0 z1 => h i z0 (by omega))]
    by_cases a : A n
    · rw [bz_T (Or.inl a), bz_T a, bz_F (fun b => h1 ⟨a, b⟩)]; omega
    · by_cases b : B n
      · rw [bz_T (Or.inr b), bz_F a, bz_T b]; omega
      · rw [bz_F (fun z => z.elim a b), bz_F a, bz_F b]; omega
end CNT
