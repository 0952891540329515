/-! DOTS counted -/
theorem cnt_app {D : Int → Prop} {a : Nat} : ∀ {b : Nat}, cnt D (a + b) = cnt D a + cnt (fun i => D (a + i)) b := by
  intro b
  induction b with
  | zero => simp [cnt]
  | succ b ih =>
    show cnt D (a + b + 1) = _
    simp only [cnt]
    rw [ih, show ((a + b : Nat) : Int) = (a : Int) + (b : Int) from rfl]
    omega
theorem cnt_zsum {D : Int → Prop} : ∀ {n : Nat}, cnt D n = zsum (fun i => bz (D i)) n := by
  intro n
  induction n with
  | zero => rfl
  | succ n ih => simp only [cnt, zsum]; rw [ih]
theorem zsum_add {f g : Int → Int} : ∀ {n : Nat}, zsum (fun i => f i + g i) n = zsum f n + zsum g n := by
  intro n
  induction n with
  | zero => rfl
  | succ n ih => simp only [zsum]; rw [ih]; omega
theorem zsum_z : ∀ {n : Nat}, zsum (fun _ => 0) n = 0 := by
  intro n
  induction n with
  | zero => rfl
  | succ n ih => simp only [zsum]; rw [ih]; rfl
theorem zsum_swap {g : Int → Int → Int} {a : Nat} : ∀ {b : Nat}, zsum (fun y => zsum (fun x => g x y) a) b = zsum (fun x => zsum (fun y => g x y) b) a := by
  intro b
  induction b with
  | zero => exact zsum_z.symm
  | succ b ih =>
    show zsum (fun y => zsum (fun x => g x y) a) b + zsum (fun x => g x b) a = zsum (fun x => zsum (fun y => g x y) b + g x b) a
    rw [ih, zsum_add]
theorem cnt_grid {E : Int → Int → Prop} : ∀ {m : Nat}, cnt (fun k => E (k % 20) (k / 20)) (20 * m) = zsum (fun y => cnt (fun x => E x y) 20) m := by
  intro m
  induction m with
  | zero => rfl
  | succ m ih =>
    rw [show 20 * (m + 1) = 20 * m + 20 from rfl, cnt_app, ih]
    simp only [zsum]
    congr 1
    refine cnt_congr (fun i h0 h1 => ?_)
    rw [show (((20 * m : Nat) : Int) + i) % 20 = i by omega, show (((20 * m : Nat) : Int) + i) / 20 = m by omega]
theorem cnt_inj {f : Int → Int} {N : Nat} : ∀ {m : Nat}, (∀ t, 0 ≤ t → t < (m : Int) → 0 ≤ f t ∧ f t < N) → (∀ s t, 0 ≤ s → s < t → t < (m : Int) → f s ≠ f t) → cnt (fun k => ∃ t, 0 ≤ t ∧ t < (m : Int) ∧ f t = k) N = m := by
  intro m
  induction m with
  | zero => intro _ _; exact cnt_0 (fun i _ _ ⟨t, h0, h1, _⟩ => by omega)
  | succ m ih =>
    intro h1 h2
    have a := h1 m (by omega) (by omega)
    have e : cnt (fun k => ∃ t, 0 ≤ t ∧ t < ((m + 1 : Nat) : Int) ∧ f t = k) N = cnt (fun k => (∃ t, 0 ≤ t ∧ t < (m : Int) ∧ f t = k) ∨ k = f m) N := cnt_congr (fun k _ _ => by
      rw [lv_c, ex_succ (by omega)]
      exact ⟨fun z => z.imp id Eq.symm, fun z => z.imp id Eq.symm⟩)
    rw [e, cnt_add a.1 (fun ⟨t, z0, z1, z2⟩ => h2 t m z0 z1 (by omega) z2) a.2, ih (fun t z0 z1 => h1 t z0 (by omega)) (fun s t z0 z1 z2 => h2 s t z0 z1 (by omega)), lv_c]
theorem prt_n {t n : Int} (h0 : 0 ≤ t) (h1 : t ≤ n) : prt t n n = t ∧ prt t (-n) n = -t := by
  unfold prt
  by_cases e : n = 0
  · simp only [e, if_true]; omega
  · rw [if_neg e, if_neg e]
    have a1 : 2 * t * n + n = n + t * (2 * n) := by rw [Int.mul_assoc, Int.mul_left_comm t 2 n]; omega
    have a2 : 2 * t * -n + n = n + -t * (2 * n) := by rw [Int.mul_neg, Int.mul_assoc, Int.neg_mul, Int.mul_left_comm t 2 n]; omega
    have a3 : n / (2 * n) = 0 := Int.ediv_eq_zero_of_lt (by omega) (by omega)
    rw [a1, a2, Int.add_mul_ediv_right _ _ (by omega), Int.add_mul_ediv_right _ _ (by omega), a3]
    omega
section DM
variable {n : Int} {F T X Y : Int → Int} {i : Int}
theorem dotIx_iff (hX : XYo X Y) (hO : LnO n F T) (hi : 0 ≤ i ∧ i < n) {k : Int} : dotIx X Y F T i k ↔ lineDot X Y F T i (k % 20) (k / 20) := by
  constructor
  · rintro ⟨t, h0, h1, h2⟩
    have dr := dot_r hX hO hi h0 h1
    exact ⟨t, h0, h1, by omega, by omega⟩
  · rintro ⟨t, h0, h1, h2, h3⟩
    exact ⟨t, h0, h1, by omega⟩
theorem dots_one (hX : XYo X Y) (hO : LnO n F T) (hi : 0 ≤ i ∧ i < n) : cnt (dotIx X Y F T i) 400 = lnN X Y F T i + 1 := by
  have r := ln_r hX hO hi
  have e : (((lnN X Y F T i + 1).toNat : Nat) : Int) = lnN X Y F T i + 1 := by omega
  have key := cnt_inj (N := 400) (m := (lnN X Y F T i + 1).toNat) (f := fun t => 20 * (Y (F i) + prt t (dxL Y F T i) (lnN X Y F T i)) + (X (F i) + prt t (dxL X F T i) (lnN X Y F T i))) (fun t h0 h1 => by
    have dr := dot_r hX hO hi h0 (by omega)
    show 0 ≤ 20 * (Y (F i) + prt t (dxL Y F T i) (lnN X Y F T i)) + (X (F i) + prt t (dxL X F T i) (lnN X Y F T i)) ∧ 20 * (Y (F i) + prt t (dxL Y F T i) (lnN X Y F T i)) + (X (F i) + prt t (dxL X F T i) (lnN X Y F T i)) < 400
    omega) (fun s t h0 h1 h2 => by
    have d1 := dot_r hX hO hi h0 (show s < lnN X Y F T i + 1 by omega)
    have d2 := dot_r hX hO hi (show 0 ≤ t by omega) (show t < lnN X Y F T i + 1 by omega)
    have p1 := prt_n h0 (show s ≤ lnN X Y F T i by omega)
    have p2 := prt_n (show 0 ≤ t by omega) (show t ≤ lnN X Y F T i by omega)
    show 20 * (Y (F i) + prt s (dxL Y F T i) (lnN X Y F T i)) + (X (F i) + prt s (dxL X F T i) (lnN X Y F T i)) ≠ 20 * (Y (F i) + prt t (dxL Y F T i) (lnN X Y F T i)) + (X (F i) + prt t (dxL X F T i) (lnN X Y F T i))
    have c : dxL X F T i = lnN X Y F T i ∨ dxL X F T i = - lnN X Y F T i ∨ dxL Y F T i = lnN X Y F T i ∨ dxL Y F T i = - lnN X Y F T i := by
      unfold lnN zab; omega
    intro z
    rcases c with c | c | c | c
    all_goals
      rw [c] at z d1 d2
      omega)
  rw [e] at key
  exact key
theorem dots_all (hX : XYo X Y) (hO : LnO n F T) : cnt (fun k => ∃ i, 0 ≤ i ∧ i < n ∧ dotIx X Y F T i k) 400 = zsum (fun x => cnt (fun y => anyDot X Y F T n x y) 20) 20 := by
  have e : cnt (fun k => ∃ i, 0 ≤ i ∧ i < n ∧ dotIx X Y F T i k) 400 = cnt (fun k => anyDot X Y F T n (k % 20) (k / 20)) (20 * 20) := cnt_congr (fun k _ _ => ⟨fun ⟨i, h0, h1, h2⟩ => ⟨i, h0, h1, (dotIx_iff hX hO ⟨h0, h1⟩).mp h2⟩, fun ⟨i, h0, h1, h2⟩ => ⟨i, h0, h1, (dotIx_iff hX hO ⟨h0, h1⟩).mpr h2⟩⟩)
  rw [e, cnt_grid]
  simp only [cnt_zsum]
  exact zsum_swap
end DM
