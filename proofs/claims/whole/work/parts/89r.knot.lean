/-! KNOTS: what comes of POINTS by LAWS, again and again (pure) -/
/-- both ends of a LAW -/
def ends (W : Nat → Int → Int) (l : Int) : Int := zor (zbit (W 1 l)) (zbit (W 2 l))
/-- one round over the first n LAWS -/
noncomputable def rp (W : Nat → Int → Int) (B : Int → Prop) (X : Int) : Nat → Int
  | 0 => X
  | n + 1 => cif (B n ∧ (ib (rp W B X n) (W 1 n) ∨ ib (rp W B X n) (W 2 n))) (zor (rp W B X n) (ends W n)) (rp W B X n)
noncomputable def itr (W : Nat → Int → Int) (B : Int → Prop) (m : Nat) (X : Int) : Nat → Int
  | 0 => X
  | k + 1 => rp W B (itr W B m X k) m
def cls (W : Nat → Int → Int) (B : Int → Prop) (m : Nat) (C : Int → Prop) : Prop := ∀ l : Int, 0 ≤ l → l < m → B l → (C (W 1 l) ∨ C (W 2 l)) → C (W 1 l) ∧ C (W 2 l)
section KNO
variable {W : Nat → Int → Int} {B : Int → Prop} {X : Int} {m : Nat} {mm : Int}
theorem ib_ends {l p : Int} (h1 : 0 ≤ W 1 l) (h2 : 0 ≤ W 2 l) (hp : 0 ≤ p) : ib (ends W l) p ↔ p = W 1 l ∨ p = W 2 l := by
  unfold ends; rw [ib_zor, ib_zbit h1 hp, ib_zbit h2 hp]
theorem rp_0 (hX : 0 ≤ X) : ∀ n, 0 ≤ rp W B X n := by
  intro n
  induction n with
  | zero => exact hX
  | succ n ih =>
    simp only [rp]
    by_cases c : B n ∧ (ib (rp W B X n) (W 1 n) ∨ ib (rp W B X n) (W 2 n))
    · rw [cif_pos c]; exact zor_0
    · rw [cif_neg c]; exact ih
theorem rp_up {p : Int} : ∀ {n k : Nat}, ib (rp W B X n) p → ib (rp W B X (n + k)) p := by
  intro n k h
  induction k with
  | zero => exact h
  | succ k ih =>
    show ib (rp W B X (n + k + 1)) p
    simp only [rp]
    by_cases c : B ((n + k : Nat) : Int) ∧ (ib (rp W B X (n + k)) (W 1 ((n + k : Nat) : Int)) ∨ ib (rp W B X (n + k)) (W 2 ((n + k : Nat) : Int)))
    · rw [cif_pos c, ib_zor]; exact Or.inl ih
    · rw [cif_neg c]; exact ih
theorem rp_low (hO : LwO mm W) {C : Int → Prop} (hC : cls W B m C) (hm : (m : Int) ≤ mm) (hX : ∀ p, 0 ≤ p → ib X p → C p) : ∀ n, n ≤ m → ∀ p, 0 ≤ p → ib (rp W B X n) p → C p := by
  intro n
  induction n with
  | zero => exact fun _ => hX
  | succ n ih =>
    intro hn p hp h
    have ih := ih (by omega)
    have o := hO.r (i := (n : Int)) (by omega) (by omega)
    simp only [rp] at h
    by_cases c : B n ∧ (ib (rp W B X n) (W 1 n) ∨ ib (rp W B X n) (W 2 n))
    · rw [cif_pos c, ib_zor, ib_ends (by omega) (by omega) hp] at h
      have cc := hC n (by omega) (by omega) c.1 (c.2.imp (ih _ (by omega)) (ih _ (by omega)))
      rcases h with h | h | h
      · exact ih p hp h
      · rw [h]; exact cc.1
      · rw [h]; exact cc.2
    · rw [cif_neg c] at h; exact ih p hp h
theorem rp_fix (hO : LwO mm W) (hm : (m : Int) ≤ mm) (hX : 0 ≤ X) (e : rp W B X m = X) : cls W B m (ib X) := by
  have sq : ∀ n, n ≤ m → rp W B X n = X := by
    intro n hn
    refine ib_ext (rp_0 hX n) hX (fun p hp => ⟨fun z => ?_, fun z => ?_⟩)
    · have := rp_up (k := m - n) z
      rw [show n + (m - n) = m by omega, e] at this
      exact this
    · have := rp_up (W := W) (B := B) (n := 0) (k := n) (X := X) (p := p) z
      rw [Nat.zero_add] at this
      exact this
  intro l h0 h1 hB ht
  obtain ⟨n, rfl⟩ := Int.eq_ofNat_of_zero_le h0
  have o := hO.r (i := (n : Int)) (by omega) (by omega)
  have e1 := sq (n + 1) (by omega)
  simp only [rp] at e1
  rw [sq n (by omega), cif_pos ⟨hB, ht⟩] at e1
  rw [← e1]
  simp only [ib_zor, ib_ends (W := W) (l := (n : Int)) (by omega) (by omega) (show 0 ≤ W 1 n by omega), ib_ends (W := W) (l := (n : Int)) (by omega) (by omega) (show 0 ≤ W 2 n by omega)]
  exact ⟨Or.inr (Or.inl trivial), Or.inr (Or.inr trivial)⟩
theorem rp_of (hO : LwO mm W) (hm : (m : Int) ≤ mm) (hX : 0 ≤ X) (hC : cls W B m (ib X)) : rp W B X m = X := by
  refine ib_ext (rp_0 hX m) hX (fun p hp => ⟨fun z => rp_low hO hC hm (fun _ _ h => h) m (Nat.le_refl m) p hp z, fun z => ?_⟩)
  have := rp_up (W := W) (B := B) (n := 0) (k := m) (X := X) (p := p) z
  rw [Nat.zero_add] at this
  exact this
theorem itr_0 (hX : 0 ≤ X) : ∀ k, 0 ≤ itr W B m X k := by
  intro k
  induction k with
  | zero => exact hX
  | succ k ih => exact rp_0 ih m
theorem itr_up {p : Int} {k : Nat} (h : ib (itr W B m X k) p) : ib (itr W B m X (k + 1)) p := by
  have := rp_up (W := W) (B := B) (n := 0) (k := m) (X := itr W B m X k) (p := p) h
  rw [Nat.zero_add] at this
  exact this
theorem itr_in {p : Int} (h : ib X p) : ∀ k, ib (itr W B m X k) p := by
  intro k
  induction k with
  | zero => exact h
  | succ k ih => exact itr_up ih
theorem itr_low (hO : LwO mm W) {C : Int → Prop} (hC : cls W B m C) (hm : (m : Int) ≤ mm) (hX : ∀ p, 0 ≤ p → ib X p → C p) : ∀ k p, 0 ≤ p → ib (itr W B m X k) p → C p := by
  intro k
  induction k with
  | zero => exact hX
  | succ k ih => exact fun p hp h => rp_low hO hC hm ih m (Nat.le_refl m) p hp h
theorem cls_all (hO : LwO mm W) (hm : (m : Int) ≤ mm) : cls W B m (fun p => 0 ≤ p ∧ p < 6) := fun l h0 h1 _ _ => by
  have o := hO.r (i := l) h0 (by omega)
  exact ⟨by omega, by omega⟩
theorem cnt_lt {P Q : Int → Prop} : ∀ {n : Nat}, (∀ i : Int, 0 ≤ i → i < n → P i → Q i) → ∀ a : Int, 0 ≤ a → a < n → Q a → ¬ P a → cnt P n + 1 ≤ cnt Q n := by
  intro n
  induction n with
  | zero => intro _ a h0 h1; omega
  | succ n ih =>
    intro h a h0 h1 hq hp
    have mono : ∀ k : Nat, k ≤ n → cnt P k ≤ cnt Q k := by
      intro k
      induction k with
      | zero => exact fun _ => Int.le_refl _
      | succ k ihk =>
        intro hk
        have a1 := ihk (by omega)
        have b1 := bz_01 (P k)
        have b2 := bz_01 (Q k)
        simp only [cnt]
        by_cases c : P k
        · rw [bz_T c, bz_T (h k (by omega) (by omega) c)]; omega
        · rw [bz_F c]; omega
    simp only [cnt]
    by_cases c : a = n
    · subst c
      have := mono n (Nat.le_refl n)
      rw [bz_T hq, bz_F hp]; omega
    · have := ih (fun i i0 i1 => h i i0 (by omega)) a h0 (by omega) hq hp
      by_cases c2 : P n
      · rw [bz_T c2, bz_T (h n (by omega) (by omega) c2)]; omega
      · have b2 := bz_01 (Q n)
        rw [bz_F c2]; omega
theorem itr_cnt (hO : LwO mm W) (hm : (m : Int) ≤ mm) (hX : 0 ≤ X) (h6 : ∀ p, 0 ≤ p → ib X p → p < 6) {q : Int} (hq : 0 ≤ q) (hq2 : ib X q) : ∀ k, cls W B m (ib (itr W B m X k)) ∨ (k : Int) + 1 ≤ cnt (ib (itr W B m X k)) 6 := by
  have in6 : ∀ k p, 0 ≤ p → ib (itr W B m X k) p → 0 ≤ p ∧ p < 6 := fun k => itr_low hO (cls_all hO hm) hm (fun p hp h => ⟨hp, h6 p hp h⟩) k
  intro k
  induction k with
  | zero =>
    right
    have := cnt_lt (P := fun _ => False) (Q := ib X) (n := 6) (fun _ _ _ z => z.elim) q hq (h6 q hq hq2) hq2 id
    have e : cnt (fun _ => False) 6 = 0 := cnt_0 (fun _ _ _ z => z)
    show ((0 : Nat) : Int) + 1 ≤ cnt (ib X) 6
    omega
  | succ k ih =>
    rcases ih with ih | ih
    · left
      have : itr W B m X (k + 1) = itr W B m X k := rp_of hO hm (itr_0 hX k) ih
      rw [this]; exact ih
    · by_cases c : itr W B m X (k + 1) = itr W B m X k
      · left
        have c2 : rp W B (itr W B m X k) m = itr W B m X k := c
        rw [c]; exact rp_fix hO hm (itr_0 hX k) c2
      · right
        have : ∃ a : Int, 0 ≤ a ∧ ib (itr W B m X (k + 1)) a ∧ ¬ ib (itr W B m X k) a := by
          refine Classical.byContradiction (fun z => c (ib_ext (itr_0 hX (k + 1)) (itr_0 hX k) (fun p hp => ⟨fun w => ?_, fun w => itr_up w⟩)))
          exact Classical.byContradiction (fun w2 => z ⟨p, hp, w, w2⟩)
        obtain ⟨a, a0, a1, a2⟩ := this
        have := cnt_lt (P := ib (itr W B m X k)) (Q := ib (itr W B m X (k + 1))) (n := 6) (fun i _ _ w => itr_up w) a a0 (in6 _ a a0 a1).2 a1 a2
        omega
theorem itr_cls (hO : LwO mm W) (hm : (m : Int) ≤ mm) (hX : 0 ≤ X) (h6 : ∀ p, 0 ≤ p → ib X p → p < 6) {q : Int} (hq : 0 ≤ q) (hq2 : ib X q) {k : Nat} (hk : 6 ≤ k) : cls W B m (ib (itr W B m X k)) := by
  rcases itr_cnt (B := B) hO hm hX h6 hq hq2 k with z | z
  · exact z
  · have := cnt_r (Q := ib (itr W B m X k)) 6
    omega
theorem itr_six (hO : LwO mm W) (hm : (m : Int) ≤ mm) (hX : 0 ≤ X) (h6 : ∀ p, 0 ≤ p → ib X p → p < 6) {q : Int} (hq : 0 ≤ q) (hq2 : ib X q) : ∀ j, itr W B m X (6 + j) = itr W B m X 6 := by
  intro j
  induction j with
  | zero => rfl
  | succ j ih =>
    rw [← ih]
    exact rp_of hO hm (itr_0 hX _) (itr_cls hO hm hX h6 hq hq2 (show 6 ≤ 6 + j by omega))
/-- once nothing comes, nothing comes -/
theorem itr_stop {k : Nat} (e : itr W B m X (k + 1) = itr W B m X k) : ∀ j, itr W B m X (k + j) = itr W B m X k := by
  intro j
  induction j with
  | zero => rfl
  | succ j ih =>
    show rp W B (itr W B m X (k + j)) m = _
    rw [ih]; exact e
theorem itr_end (hO : LwO mm W) (hm : (m : Int) ≤ mm) (hX : 0 ≤ X) (h6 : ∀ p, 0 ≤ p → ib X p → p < 6) {q : Int} (hq : 0 ≤ q) (hq2 : ib X q) {k : Nat} (e : itr W B m X (k + 1) = itr W B m X k) : itr W B m X k = itr W B m X 6 := by
  by_cases c : k ≤ 6
  · have := itr_stop e (6 - k)
    rw [show k + (6 - k) = 6 by omega] at this
    exact this.symm
  · have := itr_six (B := B) hO hm hX h6 hq hq2 (k - 6)
    rw [show 6 + (k - 6) = k by omega] at this
    exact this
/-- the heap of a POINT -/
noncomputable def hpo (W : Nat → Int → Int) (B : Int → Prop) (m : Nat) (q : Int) : Int := itr W B m (zbit q) 6
theorem zb6 {q : Int} (hq : 0 ≤ q ∧ q < 6) : ∀ p, 0 ≤ p → ib (zbit q) p → p < 6 := fun p hp h => by rw [ib_zbit hq.1 hp] at h; omega
theorem zbq {q : Int} (hq : 0 ≤ q) : ib (zbit q) q := by rw [ib_zbit hq hq]
theorem hpo_in {q : Int} (hq : 0 ≤ q) : ib (hpo W B m q) q := itr_in (zbq hq) 6
theorem hpo_cls (hO : LwO mm W) (hm : (m : Int) ≤ mm) {q : Int} (hq : 0 ≤ q ∧ q < 6) : cls W B m (ib (hpo W B m q)) := itr_cls hO hm zbit_0 (zb6 hq) hq.1 (zbq hq.1) (Nat.le_refl 6)
theorem hpo_low (hO : LwO mm W) (hm : (m : Int) ≤ mm) {C : Int → Prop} (hC : cls W B m C) {q : Int} (hq : 0 ≤ q) (hc : C q) {p : Int} (hp : 0 ≤ p) (h : ib (hpo W B m q) p) : C p := itr_low hO hC hm (fun x hx e => by rw [ib_zbit hq hx] at e; rw [e]; exact hc) 6 p hp h
theorem hpo_6 (hO : LwO mm W) (hm : (m : Int) ≤ mm) {q : Int} (hq : 0 ≤ q ∧ q < 6) {p : Int} (hp : 0 ≤ p) (h : ib (hpo W B m q) p) : p < 6 := (hpo_low (C := fun p => 0 ≤ p ∧ p < 6) hO hm (cls_all hO hm) hq.1 hq hp h).2
theorem hpo_sym (hO : LwO mm W) (hm : (m : Int) ≤ mm) {q r : Int} (hq : 0 ≤ q ∧ q < 6) (hr : 0 ≤ r) (h : ib (hpo W B m q) r) : ib (hpo W B m r) q := by
  refine Classical.byContradiction (fun z => ?_)
  have hr6 := hpo_6 hO hm hq hr h
  have c1 := hpo_cls (B := B) hO hm hq
  have c2 := hpo_cls (B := B) hO hm (q := r) ⟨hr, hr6⟩
  have cD : cls W B m (fun p => ib (hpo W B m q) p ∧ ¬ ib (hpo W B m r) p) := by
    intro l h0 h1 hB ht
    have a := c1 l h0 h1 hB
    have b := c2 l h0 h1 hB
    grind
  have := hpo_low hO hm cD hq.1 ⟨hpo_in hq.1, z⟩ hr h
  exact this.2 (hpo_in hr)
theorem hpo_sub (hO : LwO mm W) (hm : (m : Int) ≤ mm) {q r p : Int} (hq : 0 ≤ q ∧ q < 6) (hr : 0 ≤ r) (hp : 0 ≤ p) (h : ib (hpo W B m q) r) (h2 : ib (hpo W B m r) p) : ib (hpo W B m q) p := hpo_low hO hm (hpo_cls hO hm hq) hr h hp h2
/-- the first of its heap -/
def fst6 (W : Nat → Int → Int) (B : Int → Prop) (m : Nat) (q : Int) : Prop := ∀ r, 0 ≤ r → r < q → ¬ ib (hpo W B m q) r
theorem least_ex {P : Int → Prop} : ∀ n : Nat, ∀ a : Int, 0 ≤ a → a < n → P a → ∃ q, 0 ≤ q ∧ q ≤ a ∧ P q ∧ ∀ r, 0 ≤ r → r < q → ¬ P r := by
  intro n
  induction n with
  | zero => intro a h0 h1; omega
  | succ n ih =>
    intro a h0 h1 hp
    by_cases c : ∃ r, 0 ≤ r ∧ r < a ∧ P r
    · obtain ⟨r, r0, r1, r2⟩ := c
      obtain ⟨q, q0, q1, q2, q3⟩ := ih r r0 (by omega) r2
      exact ⟨q, q0, by omega, q2, q3⟩
    · exact ⟨a, h0, Int.le_refl a, hp, fun r r0 r1 r2 => c ⟨r, r0, r1, r2⟩⟩
theorem fst_ex (hO : LwO mm W) (hm : (m : Int) ≤ mm) {q : Int} (hq : 0 ≤ q ∧ q < 6) : ∃ r, 0 ≤ r ∧ r ≤ q ∧ fst6 W B m r ∧ ib (hpo W B m r) q ∧ ib (hpo W B m q) r := by
  obtain ⟨r, r0, r1, r2, r3⟩ := least_ex (P := fun x => ib (hpo W B m q) x) 6 q hq.1 (by omega) (hpo_in hq.1)
  refine ⟨r, r0, r1, fun x x0 x1 x2 => r3 x x0 x1 (hpo_sub hO hm hq r0 x0 r2 x2), hpo_sym hO hm hq r0 r2, r2⟩
/-- what heaps leave: POINTS that no first one ahead of n has in its heap -/
theorem left_iff (hO : LwO mm W) (hm : (m : Int) ≤ mm) {P : Int → Prop} (hP : cls W B m P) {n : Int} (hn : 0 ≤ n ∧ n < 6) : (P n ∧ ¬ ∃ q, 0 ≤ q ∧ q < n ∧ P q ∧ fst6 W B m q ∧ ib (hpo W B m q) n) ↔ P n ∧ fst6 W B m n := by
  constructor
  · intro ⟨h1, h2⟩
    refine ⟨h1, ?_⟩
    obtain ⟨r, r0, r1, r2, r3, r4⟩ := fst_ex (B := B) hO hm hn
    have pr : P r := hpo_low hO hm hP hn.1 h1 r0 r4
    by_cases c : r = n
    · rw [← c]; exact r2
    · exact absurd ⟨r, r0, by omega, pr, r2, r3⟩ h2
  · intro ⟨h1, h2⟩
    refine ⟨h1, fun ⟨q, q0, q1, q2, q3, q4⟩ => ?_⟩
    exact h2 q q0 q1 (hpo_sym hO hm ⟨q0, by omega⟩ hn.1 q4)
end KNO
