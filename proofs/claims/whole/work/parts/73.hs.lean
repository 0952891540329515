/-! words of letters by their codes -/
def hs (T : Int → Int) (s : Int) : Nat → Int
  | 0 => 0
  | m + 1 => hs T s m * 27 + (T (s + m) - 96)
section HS
variable {T : Int → Int} {s e : Int}
theorem hs_r : ∀ m : Nat, (∀ j : Int, 0 ≤ j → j < m → 97 ≤ T (s + j) ∧ T (s + j) ≤ 122) → m ≤ 6 → 0 ≤ hs T s m ∧ hs T s m + 1 ≤ 27 ^ m := by
  intro m
  induction m with
  | zero => intro _ _; simp [hs]
  | succ m ih =>
    intro h hm
    have a := ih (fun j a b => h j a (by omega)) (by omega)
    have b := h m (by omega) (by omega)
    simp only [hs]
    rw [show (27 : Int) ^ (m + 1) = 27 ^ m * 27 from Int.pow_succ _ _]
    omega
theorem all4 {v : Nat} (hv : lenS v = 4) : (∀ j, 0 ≤ j → j < lenS v → T (s + j) = byt v j) ↔ (T (s + 0) = byt v 0 ∧ T (s + 1) = byt v 1 ∧ T (s + 2) = byt v 2 ∧ T (s + 3) = byt v 3) := by
  rw [hv]
  constructor
  · intro z
    exact ⟨z 0 (by omega) (by omega), z 1 (by omega) (by omega), z 2 (by omega) (by omega), z 3 (by omega) (by omega)⟩
  · rintro ⟨z0, z1, z2, z3⟩ j j0 j1
    rcases (by omega : j = 0 ∨ j = 1 ∨ j = 2 ∨ j = 3) with rfl | rfl | rfl | rfl
    · exact z0
    · exact z1
    · exact z2
    · exact z3
theorem all5 {v : Nat} (hv : lenS v = 5) : (∀ j, 0 ≤ j → j < lenS v → T (s + j) = byt v j) ↔ (T (s + 0) = byt v 0 ∧ T (s + 1) = byt v 1 ∧ T (s + 2) = byt v 2 ∧ T (s + 3) = byt v 3 ∧ T (s + 4) = byt v 4) := by
  rw [hv]
  constructor
  · intro z
    exact ⟨z 0 (by omega) (by omega), z 1 (by omega) (by omega), z 2 (by omega) (by omega), z 3 (by omega) (by omega), z 4 (by omega) (by omega)⟩
  · rintro ⟨z0, z1, z2, z3, z4⟩ j j0 j1
    rcases (by omega : j = 0 ∨ j = 1 ∨ j = 2 ∨ j = 3 ∨ j = 4) with rfl | rfl | rfl | rfl | rfl
    · exact z0
    · exact z1
    · exact z2
    · exact z3
    · exact z4
theorem hs_0 {m : Nat} (hm : e - s = m) (m1 : 1 ≤ m) (m5 : m ≤ 5) (hl : ∀ j : Int, 0 ≤ j → j < m → 97 ≤ T (s + j) ∧ T (s + j) ≤ 122) : hs T s m = 6491892 ↔ wdI T s e 0 := by
  have hv : lenS 0 = 5 := rfl
  have hb : byt 0 0 = 108 ∧ byt 0 1 = 101 ∧ byt 0 2 = 118 ∧ byt 0 3 = 101 ∧ byt 0 4 = 108 := by decide
  unfold wdI
  rw [all5 hv, hv]
  rcases (by omega : m = 1 ∨ m = 2 ∨ m = 3 ∨ m = 4 ∨ m = 5) with rfl | rfl | rfl | rfl | rfl
  · have l0 := hl 0 (by omega) (by omega)
    simp only [hs, Int.natCast_zero, show ((1 : Nat) : Int) = 1 from rfl, show ((2 : Nat) : Int) = 2 from rfl, show ((3 : Nat) : Int) = 3 from rfl, show ((4 : Nat) : Int) = 4 from rfl]
    omega
  · have l0 := hl 0 (by omega) (by omega)
    have l1 := hl 1 (by omega) (by omega)
    simp only [hs, Int.natCast_zero, show ((1 : Nat) : Int) = 1 from rfl, show ((2 : Nat) : Int) = 2 from rfl, show ((3 : Nat) : Int) = 3 from rfl, show ((4 : Nat) : Int) = 4 from rfl]
    omega
  · have l0 := hl 0 (by omega) (by omega)
    have l1 := hl 1 (by omega) (by omega)
    have l2 := hl 2 (by omega) (by omega)
    simp only [hs, Int.natCast_zero, show ((1 : Nat) : Int) = 1 from rfl, show ((2 : Nat) : Int) = 2 from rfl, show ((3 : Nat) : Int) = 3 from rfl, show ((4 : Nat) : Int) = 4 from rfl]
    omega
  · have l0 := hl 0 (by omega) (by omega)
    have l1 := hl 1 (by omega) (by omega)
    have l2 := hl 2 (by omega) (by omega)
    have l3 := hl 3 (by omega) (by omega)
    simp only [hs, Int.natCast_zero, show ((1 : Nat) : Int) = 1 from rfl, show ((2 : Nat) : Int) = 2 from rfl, show ((3 : Nat) : Int) = 3 from rfl, show ((4 : Nat) : Int) = 4 from rfl]
    omega
  · have l0 := hl 0 (by omega) (by omega)
    have l1 := hl 1 (by omega) (by omega)
    have l2 := hl 2 (by omega) (by omega)
    have l3 := hl 3 (by omega) (by omega)
    have l4 := hl 4 (by omega) (by omega)
    simp only [hs, Int.natCast_zero, show ((1 : Nat) : Int) = 1 from rfl, show ((2 : Nat) : Int) = 2 from rfl, show ((3 : Nat) : Int) = 3 from rfl, show ((4 : Nat) : Int) = 4 from rfl]
    omega
theorem hs_1 {m : Nat} (hm : e - s = m) (m1 : 1 ≤ m) (m5 : m ≤ 5) (hl : ∀ j : Int, 0 ≤ j → j < m → 97 ≤ T (s + j) ∧ T (s + j) ≤ 122) : hs T s m = 8754914 ↔ wdI T s e 1 := by
  have hv : lenS 1 = 5 := rfl
  have hb : byt 1 0 = 112 ∧ byt 1 1 = 108 ∧ byt 1 2 = 117 ∧ byt 1 3 = 109 ∧ byt 1 4 = 98 := by decide
  unfold wdI
  rw [all5 hv, hv]
  rcases (by omega : m = 1 ∨ m = 2 ∨ m = 3 ∨ m = 4 ∨ m = 5) with rfl | rfl | rfl | rfl | rfl
  · have l0 := hl 0 (by omega) (by omega)
    simp only [hs, Int.natCast_zero, show ((1 : Nat) : Int) = 1 from rfl, show ((2 : Nat) : Int) = 2 from rfl, show ((3 : Nat) : Int) = 3 from rfl, show ((4 : Nat) : Int) = 4 from rfl]
    omega
  · have l0 := hl 0 (by omega) (by omega)
    have l1 := hl 1 (by omega) (by omega)
    simp only [hs, Int.natCast_zero, show ((1 : Nat) : Int) = 1 from rfl, show ((2 : Nat) : Int) = 2 from rfl, show ((3 : Nat) : Int) = 3 from rfl, show ((4 : Nat) : Int) = 4 from rfl]
    omega
  · have l0 := hl 0 (by omega) (by omega)
    have l1 := hl 1 (by omega) (by omega)
    have l2 := hl 2 (by omega) (by omega)
    simp only [hs, Int.natCast_zero, show ((1 : Nat) : Int) = 1 from rfl, show ((2 : Nat) : Int) = 2 from rfl, show ((3 : Nat) : Int) = 3 from rfl, show ((4 : Nat) : Int) = 4 from rfl]
    omega
  · have l0 := hl 0 (by omega) (by omega)
    have l1 := hl 1 (by omega) (by omega)
    have l2 := hl 2 (by omega) (by omega)
    have l3 := hl 3 (by omega) (by omega)
    simp only [hs, Int.natCast_zero, show ((1 : Nat) : Int) = 1 from rfl, show ((2 : Nat) : Int) = 2 from rfl, show ((3 : Nat) : Int) = 3 from rfl, show ((4 : Nat) : Int) = 4 from rfl]
    omega
  · have l0 := hl 0 (by omega) (by omega)
    have l1 := hl 1 (by omega) (by omega)
    have l2 := hl 2 (by omega) (by omega)
    have l3 := hl 3 (by omega) (by omega)
    have l4 := hl 4 (by omega) (by omega)
    simp only [hs, Int.natCast_zero, show ((1 : Nat) : Int) = 1 from rfl, show ((2 : Nat) : Int) = 2 from rfl, show ((3 : Nat) : Int) = 3 from rfl, show ((4 : Nat) : Int) = 4 from rfl]
    omega
theorem hs_2 {m : Nat} (hm : e - s = m) (m1 : 1 ≤ m) (m5 : m ≤ 5) (hl : ∀ j : Int, 0 ≤ j → j < m → 97 ≤ T (s + j) ∧ T (s + j) ≤ 122) : hs T s m = 9748424 ↔ wdI T s e 2 := by
  have hv : lenS 2 = 5 := rfl
  have hb : byt 2 0 = 114 ∧ byt 2 1 = 105 ∧ byt 2 2 = 103 ∧ byt 2 3 = 104 ∧ byt 2 4 = 116 := by decide
  unfold wdI
  rw [all5 hv, hv]
  rcases (by omega : m = 1 ∨ m = 2 ∨ m = 3 ∨ m = 4 ∨ m = 5) with rfl | rfl | rfl | rfl | rfl
  · have l0 := hl 0 (by omega) (by omega)
    simp only [hs, Int.natCast_zero, show ((1 : Nat) : Int) = 1 from rfl, show ((2 : Nat) : Int) = 2 from rfl, show ((3 : Nat) : Int) = 3 from rfl, show ((4 : Nat) : Int) = 4 from rfl]
    omega
  · have l0 := hl 0 (by omega) (by omega)
    have l1 := hl 1 (by omega) (by omega)
    simp only [hs, Int.natCast_zero, show ((1 : Nat) : Int) = 1 from rfl, show ((2 : Nat) : Int) = 2 from rfl, show ((3 : Nat) : Int) = 3 from rfl, show ((4 : Nat) : Int) = 4 from rfl]
    omega
  · have l0 := hl 0 (by omega) (by omega)
    have l1 := hl 1 (by omega) (by omega)
    have l2 := hl 2 (by omega) (by omega)
    simp only [hs, Int.natCast_zero, show ((1 : Nat) : Int) = 1 from rfl, show ((2 : Nat) : Int) = 2 from rfl, show ((3 : Nat) : Int) = 3 from rfl, show ((4 : Nat) : Int) = 4 from rfl]
    omega
  · have l0 := hl 0 (by omega) (by omega)
    have l1 := hl 1 (by omega) (by omega)
    have l2 := hl 2 (by omega) (by omega)
    have l3 := hl 3 (by omega) (by omega)
    simp only [hs, Int.natCast_zero, show ((1 : Nat) : Int) = 1 from rfl, show ((2 : Nat) : Int) = 2 from rfl, show ((3 : Nat) : Int) = 3 from rfl, show ((4 : Nat) : Int) = 4 from rfl]
    omega
  · have l0 := hl 0 (by omega) (by omega)
    have l1 := hl 1 (by omega) (by omega)
    have l2 := hl 2 (by omega) (by omega)
    have l3 := hl 3 (by omega) (by omega)
    have l4 := hl 4 (by omega) (by omega)
    simp only [hs, Int.natCast_zero, show ((1 : Nat) : Int) = 1 from rfl, show ((2 : Nat) : Int) = 2 from rfl, show ((3 : Nat) : Int) = 3 from rfl, show ((4 : Nat) : Int) = 4 from rfl]
    omega
theorem hs_3 {m : Nat} (hm : e - s = m) (m1 : 1 ≤ m) (m5 : m ≤ 5) (hl : ∀ j : Int, 0 ≤ j → j < m → 97 ≤ T (s + j) ∧ T (s + j) ≤ 122) : hs T s m = 11438892 ↔ wdI T s e 3 := by
  have hv : lenS 3 = 5 := rfl
  have hb : byt 3 0 = 117 ∧ byt 3 1 = 110 ∧ byt 3 2 = 100 ∧ byt 3 3 = 101 ∧ byt 3 4 = 114 := by decide
  unfold wdI
  rw [all5 hv, hv]
  rcases (by omega : m = 1 ∨ m = 2 ∨ m = 3 ∨ m = 4 ∨ m = 5) with rfl | rfl | rfl | rfl | rfl
  · have l0 := hl 0 (by omega) (by omega)
    simp only [hs, Int.natCast_zero, show ((1 : Nat) : Int) = 1 from rfl, show ((2 : Nat) : Int) = 2 from rfl, show ((3 : Nat) : Int) = 3 from rfl, show ((4 : Nat) : Int) = 4 from rfl]
    omega
  · have l0 := hl 0 (by omega) (by omega)
    have l1 := hl 1 (by omega) (by omega)
    simp only [hs, Int.natCast_zero, show ((1 : Nat) : Int) = 1 from rfl, show ((2 : Nat) : Int) = 2 from rfl, show ((3 : Nat) : Int) = 3 from rfl, show ((4 : Nat) : Int) = 4 from rfl]
    omega
  · have l0 := hl 0 (by omega) (by omega)
    have l1 := hl 1 (by omega) (by omega)
    have l2 := hl 2 (by omega) (by omega)
    simp only [hs, Int.natCast_zero, show ((1 : Nat) : Int) = 1 from rfl, show ((2 : Nat) : Int) = 2 from rfl, show ((3 : Nat) : Int) = 3 from rfl, show ((4 : Nat) : Int) = 4 from rfl]
    omega
  · have l0 := hl 0 (by omega) (by omega)
    have l1 := hl 1 (by omega) (by omega)
    have l2 := hl 2 (by omega) (by omega)
    have l3 := hl 3 (by omega) (by omega)
    simp only [hs, Int.natCast_zero, show ((1 : Nat) : Int) = 1 from rfl, show ((2 : Nat) : Int) = 2 from rfl, show ((3 : Nat) : Int) = 3 from rfl, show ((4 : Nat) : Int) = 4 from rfl]
    omega
  · have l0 := hl 0 (by omega) (by omega)
    have l1 := hl 1 (by omega) (by omega)
    have l2 := hl 2 (by omega) (by omega)
    have l3 := hl 3 (by omega) (by omega)
    have l4 := hl 4 (by omega) (by omega)
    simp only [hs, Int.natCast_zero, show ((1 : Nat) : Int) = 1 from rfl, show ((2 : Nat) : Int) = 2 from rfl, show ((3 : Nat) : Int) = 3 from rfl, show ((4 : Nat) : Int) = 4 from rfl]
    omega
theorem hs_4 {m : Nat} (hm : e - s = m) (m1 : 1 ≤ m) (m5 : m ≤ 5) (hl : ∀ j : Int, 0 ≤ j → j < m → 97 ≤ T (s + j) ∧ T (s + j) ≤ 122) : hs T s m = 459383 ↔ wdI T s e 4 := by
  have hv : lenS 4 = 4 := rfl
  have hb : byt 4 0 = 119 ∧ byt 4 1 = 105 ∧ byt 4 2 = 100 ∧ byt 4 3 = 101 := by decide
  unfold wdI
  rw [all4 hv, hv]
  rcases (by omega : m = 1 ∨ m = 2 ∨ m = 3 ∨ m = 4 ∨ m = 5) with rfl | rfl | rfl | rfl | rfl
  · have l0 := hl 0 (by omega) (by omega)
    simp only [hs, Int.natCast_zero, show ((1 : Nat) : Int) = 1 from rfl, show ((2 : Nat) : Int) = 2 from rfl, show ((3 : Nat) : Int) = 3 from rfl, show ((4 : Nat) : Int) = 4 from rfl]
    omega
  · have l0 := hl 0 (by omega) (by omega)
    have l1 := hl 1 (by omega) (by omega)
    simp only [hs, Int.natCast_zero, show ((1 : Nat) : Int) = 1 from rfl, show ((2 : Nat) : Int) = 2 from rfl, show ((3 : Nat) : Int) = 3 from rfl, show ((4 : Nat) : Int) = 4 from rfl]
    omega
  · have l0 := hl 0 (by omega) (by omega)
    have l1 := hl 1 (by omega) (by omega)
    have l2 := hl 2 (by omega) (by omega)
    simp only [hs, Int.natCast_zero, show ((1 : Nat) : Int) = 1 from rfl, show ((2 : Nat) : Int) = 2 from rfl, show ((3 : Nat) : Int) = 3 from rfl, show ((4 : Nat) : Int) = 4 from rfl]
    omega
  · have l0 := hl 0 (by omega) (by omega)
    have l1 := hl 1 (by omega) (by omega)
    have l2 := hl 2 (by omega) (by omega)
    have l3 := hl 3 (by omega) (by omega)
    simp only [hs, Int.natCast_zero, show ((1 : Nat) : Int) = 1 from rfl, show ((2 : Nat) : Int) = 2 from rfl, show ((3 : Nat) : Int) = 3 from rfl, show ((4 : Nat) : Int) = 4 from rfl]
    omega
  · have l0 := hl 0 (by omega) (by omega)
    have l1 := hl 1 (by omega) (by omega)
    have l2 := hl 2 (by omega) (by omega)
    have l3 := hl 3 (by omega) (by omega)
    have l4 := hl 4 (by omega) (by omega)
    simp only [hs, Int.natCast_zero, show ((1 : Nat) : Int) = 1 from rfl, show ((2 : Nat) : Int) = 2 from rfl, show ((3 : Nat) : Int) = 3 from rfl, show ((4 : Nat) : Int) = 4 from rfl]
    omega
theorem hs_5 {m : Nat} (hm : e - s = m) (m1 : 1 ≤ m) (m5 : m ≤ 5) (hl : ∀ j : Int, 0 ≤ j → j < m → 97 ≤ T (s + j) ∧ T (s + j) ≤ 122) : hs T s m = 394725 ↔ wdI T s e 5 := by
  have hv : lenS 5 = 4 := rfl
  have hb : byt 5 0 = 116 ∧ byt 5 1 = 97 ∧ byt 5 2 = 108 ∧ byt 5 3 = 108 := by decide
  unfold wdI
  rw [all4 hv, hv]
  rcases (by omega : m = 1 ∨ m = 2 ∨ m = 3 ∨ m = 4 ∨ m = 5) with rfl | rfl | rfl | rfl | rfl
  · have l0 := hl 0 (by omega) (by omega)
    simp only [hs, Int.natCast_zero, show ((1 : Nat) : Int) = 1 from rfl, show ((2 : Nat) : Int) = 2 from rfl, show ((3 : Nat) : Int) = 3 from rfl, show ((4 : Nat) : Int) = 4 from rfl]
    omega
  · have l0 := hl 0 (by omega) (by omega)
    have l1 := hl 1 (by omega) (by omega)
    simp only [hs, Int.natCast_zero, show ((1 : Nat) : Int) = 1 from rfl, show ((2 : Nat) : Int) = 2 from rfl, show ((3 : Nat) : Int) = 3 from rfl, show ((4 : Nat) : Int) = 4 from rfl]
    omega
  · have l0 := hl 0 (by omega) (by omega)
    have l1 := hl 1 (by omega) (by omega)
    have l2 := hl 2 (by omega) (by omega)
    simp only [hs, Int.natCast_zero, show ((1 : Nat) : Int) = 1 from rfl, show ((2 : Nat) : Int) = 2 from rfl, show ((3 : Nat) : Int) = 3 from rfl, show ((4 : Nat) : Int) = 4 from rfl]
    omega
  · have l0 := hl 0 (by omega) (by omega)
    have l1 := hl 1 (by omega) (by omega)
    have l2 := hl 2 (by omega) (by omega)
    have l3 := hl 3 (by omega) (by omega)
    simp only [hs, Int.natCast_zero, show ((1 : Nat) : Int) = 1 from rfl, show ((2 : Nat) : Int) = 2 from rfl, show ((3 : Nat) : Int) = 3 from rfl, show ((4 : Nat) : Int) = 4 from rfl]
    omega
  · have l0 := hl 0 (by omega) (by omega)
    have l1 := hl 1 (by omega) (by omega)
    have l2 := hl 2 (by omega) (by omega)
    have l3 := hl 3 (by omega) (by omega)
    have l4 := hl 4 (by omega) (by omega)
    simp only [hs, Int.natCast_zero, show ((1 : Nat) : Int) = 1 from rfl, show ((2 : Nat) : Int) = 2 from rfl, show ((3 : Nat) : Int) = 3 from rfl, show ((4 : Nat) : Int) = 4 from rfl]
    omega
theorem hs_6 {m : Nat} (hm : e - s = m) (m1 : 1 ≤ m) (m5 : m ≤ 5) (hl : ∀ j : Int, 0 ≤ j → j < m → 97 ≤ T (s + j) ∧ T (s + j) ≤ 122) : hs T s m = 459791 ↔ wdI T s e 6 := by
  have hv : lenS 6 = 4 := rfl
  have hb : byt 6 0 = 119 ∧ byt 6 1 = 105 ∧ byt 6 2 = 115 ∧ byt 6 3 = 104 := by decide
  unfold wdI
  rw [all4 hv, hv]
  rcases (by omega : m = 1 ∨ m = 2 ∨ m = 3 ∨ m = 4 ∨ m = 5) with rfl | rfl | rfl | rfl | rfl
  · have l0 := hl 0 (by omega) (by omega)
    simp only [hs, Int.natCast_zero, show ((1 : Nat) : Int) = 1 from rfl, show ((2 : Nat) : Int) = 2 from rfl, show ((3 : Nat) : Int) = 3 from rfl, show ((4 : Nat) : Int) = 4 from rfl]
    omega
  · have l0 := hl 0 (by omega) (by omega)
    have l1 := hl 1 (by omega) (by omega)
    simp only [hs, Int.natCast_zero, show ((1 : Nat) : Int) = 1 from rfl, show ((2 : Nat) : Int) = 2 from rfl, show ((3 : Nat) : Int) = 3 from rfl, show ((4 : Nat) : Int) = 4 from rfl]
    omega
  · have l0 := hl 0 (by omega) (by omega)
    have l1 := hl 1 (by omega) (by omega)
    have l2 := hl 2 (by omega) (by omega)
    simp only [hs, Int.natCast_zero, show ((1 : Nat) : Int) = 1 from rfl, show ((2 : Nat) : Int) = 2 from rfl, show ((3 : Nat) : Int) = 3 from rfl, show ((4 : Nat) : Int) = 4 from rfl]
    omega
  · have l0 := hl 0 (by omega) (by omega)
    have l1 := hl 1 (by omega) (by omega)
    have l2 := hl 2 (by omega) (by omega)
    have l3 := hl 3 (by omega) (by omega)
    simp only [hs, Int.natCast_zero, show ((1 : Nat) : Int) = 1 from rfl, show ((2 : Nat) : Int) = 2 from rfl, show ((3 : Nat) : Int) = 3 from rfl, show ((4 : Nat) : Int) = 4 from rfl]
    omega
  · have l0 := hl 0 (by omega) (by omega)
    have l1 := hl 1 (by omega) (by omega)
    have l2 := hl 2 (by omega) (by omega)
    have l3 := hl 3 (by omega) (by omega)
    have l4 := hl 4 (by omega) (by omega)
    simp only [hs, Int.natCast_zero, show ((1 : Nat) : Int) = 1 from rfl, show ((2 : Nat) : Int) = 2 from rfl, show ((3 : Nat) : Int) = 3 from rfl, show ((4 : Nat) : Int) = 4 from rfl]
    omega
theorem hs_7 {m : Nat} (hm : e - s = m) (m1 : 1 ≤ m) (m5 : m ≤ 5) (hl : ∀ j : Int, 0 ≤ j → j < m → 97 ≤ T (s + j) ∧ T (s + j) ≤ 122) : hs T s m = 12384743 ↔ wdI T s e 7 := by
  have hv : lenS 7 = 5 := rfl
  have hb : byt 7 0 = 119 ∧ byt 7 1 = 104 ∧ byt 7 2 = 101 ∧ byt 7 3 = 114 ∧ byt 7 4 = 101 := by decide
  unfold wdI
  rw [all5 hv, hv]
  rcases (by omega : m = 1 ∨ m = 2 ∨ m = 3 ∨ m = 4 ∨ m = 5) with rfl | rfl | rfl | rfl | rfl
  · have l0 := hl 0 (by omega) (by omega)
    simp only [hs, Int.natCast_zero, show ((1 : Nat) : Int) = 1 from rfl, show ((2 : Nat) : Int) = 2 from rfl, show ((3 : Nat) : Int) = 3 from rfl, show ((4 : Nat) : Int) = 4 from rfl]
    omega
  · have l0 := hl 0 (by omega) (by omega)
    have l1 := hl 1 (by omega) (by omega)
    simp only [hs, Int.natCast_zero, show ((1 : Nat) : Int) = 1 from rfl, show ((2 : Nat) : Int) = 2 from rfl, show ((3 : Nat) : Int) = 3 from rfl, show ((4 : Nat) : Int) = 4 from rfl]
    omega
  · have l0 := hl 0 (by omega) (by omega)
    have l1 := hl 1 (by omega) (by omega)
    have l2 := hl 2 (by omega) (by omega)
    simp only [hs, Int.natCast_zero, show ((1 : Nat) : Int) = 1 from rfl, show ((2 : Nat) : Int) = 2 from rfl, show ((3 : Nat) : Int) = 3 from rfl, show ((4 : Nat) : Int) = 4 from rfl]
    omega
  · have l0 := hl 0 (by omega) (by omega)
    have l1 := hl 1 (by omega) (by omega)
    have l2 := hl 2 (by omega) (by omega)
    have l3 := hl 3 (by omega) (by omega)
    simp only [hs, Int.natCast_zero, show ((1 : Nat) : Int) = 1 from rfl, show ((2 : Nat) : Int) = 2 from rfl, show ((3 : Nat) : Int) = 3 from rfl, show ((4 : Nat) : Int) = 4 from rfl]
    omega
  · have l0 := hl 0 (by omega) (by omega)
    have l1 := hl 1 (by omega) (by omega)
    have l2 := hl 2 (by omega) (by omega)
    have l3 := hl 3 (by omega) (by omega)
    have l4 := hl 4 (by omega) (by omega)
    simp only [hs, Int.natCast_zero, show ((1 : Nat) : Int) = 1 from rfl, show ((2 : Nat) : Int) = 2 from rfl, show ((3 : Nat) : Int) = 3 from rfl, show ((4 : Nat) : Int) = 4 from rfl]
    omega
theorem fnd_wf {m : Nat} (hm : e - s = m) (m1 : 1 ≤ m) (m5 : m ≤ 5) (hl : ∀ j : Int, 0 ≤ j → j < m → 97 ≤ T (s + j) ∧ T (s + j) ≤ 122) : fnd (hs T s m) = if wfind T s e 8 ≤ 7 then wfind T s e 8 else -9 := by
  have q0 := hs_0 hm m1 m5 hl
  have q1 := hs_1 hm m1 m5 hl
  have q2 := hs_2 hm m1 m5 hl
  have q3 := hs_3 hm m1 m5 hl
  have q4 := hs_4 hm m1 m5 hl
  have q5 := hs_5 hm m1 m5 hl
  have q6 := hs_6 hm m1 m5 hl
  have q7 := hs_7 hm m1 m5 hl
  generalize hs T s m = z at q0 q1 q2 q3 q4 q5 q6 q7
  simp only [wfind]
  simp only [show 7 - 7 = 0 from rfl, show 7 - 6 = 1 from rfl, show 7 - 5 = 2 from rfl, show 7 - 4 = 3 from rfl, show 7 - 3 = 4 from rfl, show 7 - 2 = 5 from rfl, show 7 - 1 = 6 from rfl, show 7 - 0 = 7 from rfl]
  by_cases c0 : wdI T s e 0
  · have e := q0.mpr c0
    subst e
    rw [cif_pos c0]
    rfl
  by_cases c1 : wdI T s e 1
  · have e := q1.mpr c1
    subst e
    rw [cif_neg c0, cif_pos c1]
    rfl
  by_cases c2 : wdI T s e 2
  · have e := q2.mpr c2
    subst e
    rw [cif_neg c0, cif_neg c1, cif_pos c2]
    rfl
  by_cases c3 : wdI T s e 3
  · have e := q3.mpr c3
    subst e
    rw [cif_neg c0, cif_neg c1, cif_neg c2, cif_pos c3]
    rfl
  by_cases c4 : wdI T s e 4
  · have e := q4.mpr c4
    subst e
    rw [cif_neg c0, cif_neg c1, cif_neg c2, cif_neg c3, cif_pos c4]
    rfl
  by_cases c5 : wdI T s e 5
  · have e := q5.mpr c5
    subst e
    rw [cif_neg c0, cif_neg c1, cif_neg c2, cif_neg c3, cif_neg c4, cif_pos c5]
    rfl
  by_cases c6 : wdI T s e 6
  · have e := q6.mpr c6
    subst e
    rw [cif_neg c0, cif_neg c1, cif_neg c2, cif_neg c3, cif_neg c4, cif_neg c5, cif_pos c6]
    rfl
  by_cases c7 : wdI T s e 7
  · have e := q7.mpr c7
    subst e
    rw [cif_neg c0, cif_neg c1, cif_neg c2, cif_neg c3, cif_neg c4, cif_neg c5, cif_neg c6, cif_pos c7]
    rfl
  rw [cif_neg c0, cif_neg c1, cif_neg c2, cif_neg c3, cif_neg c4, cif_neg c5, cif_neg c6, cif_neg c7]
  unfold fnd
  rw [if_neg (fun w => c7 (q7.mp w)), if_neg (fun w => c6 (q6.mp w)), if_neg (fun w => c5 (q5.mp w)), if_neg (fun w => c4 (q4.mp w)), if_neg (fun w => c3 (q3.mp w)), if_neg (fun w => c2 (q2.mp w)), if_neg (fun w => c1 (q1.mp w)), if_neg (fun w => c0 (q0.mp w))]
  rfl
end HS
