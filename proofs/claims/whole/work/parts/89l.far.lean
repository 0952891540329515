/-! the reference's gaps: every two POINTS by way of a third (pure) -/
def in6 (i : Int) : Prop := 0 ≤ i ∧ i < 6
def told (F : Int → Int → Int) (x y : Int) : Prop := -100000 < F x y
def fsnd (A : (Int → Int) → Prop) (F : Int → Int → Int) : Prop := ∀ v, A v → ∀ x y, in6 x → in6 y → told F x y → v x + F x y ≤ v y
/-- ahead of way-station m -/
def FwI (A : (Int → Int) → Prop) (F : Int → Int → Int) (m L U : Int) : Prop := (∀ p, in6 p → 0 ≤ F p p) ∧ (∀ x y, in6 x → in6 y → -100000 ≤ F x y ∧ F x y ≤ U ∧ (told F x y → -L ≤ F x y)) ∧ fsnd A F ∧ ((∀ p, in6 p → F p p = 0) → (∀ x y, in6 x → in6 y → F x y ≤ L) ∧ ∀ k x y, in6 k → k < m → in6 x → in6 y → told F x k → told F k y → F x k + F k y ≤ F x y)
noncomputable def fw (F : Int → Int → Int) (m x y : Int) : Int := cif (told F x m ∧ told F m y) (max (F x y) (F x m + F m y)) (F x y)
/-- amid way-station m: places ahead of s are done -/
def FwP (A : (Int → Int) → Prop) (F0 F : Int → Int → Int) (m s L U : Int) : Prop := (∀ x y, in6 x → in6 y → s ≤ 6 * x + y → F x y = F0 x y) ∧ (∀ x y, in6 x → in6 y → F0 x y ≤ F x y) ∧ (∀ x, in6 x → (told F x m → told F0 x m) ∧ (told F m x → told F0 m x)) ∧ (∀ x y, in6 x → in6 y → F x y ≤ 6 * U ∧ (told F x y → -(2 * L) ≤ F x y)) ∧ (F m m ≤ 2 * U ∧ ∀ x, in6 x → F x m ≤ 3 * U ∧ F m x ≤ 3 * U) ∧ fsnd A F ∧ (F0 m m = 0 → ∀ x y, in6 x → in6 y → 6 * x + y < s → F x y = fw F0 m x y)
theorem FwP_0 {A : (Int → Int) → Prop} {F : Int → Int → Int} {m L U : Int} (hm : in6 m) (hL : 0 ≤ L) (hU : 0 ≤ U) (q : FwI A F m L U) : FwP A F F m 0 L U := by
  refine ⟨fun _ _ _ _ _ => rfl, fun _ _ _ _ => Int.le_refl _, fun _ _ => ⟨id, id⟩, fun x y hx hy => ?_, ⟨?_, fun x hx => ⟨?_, ?_⟩⟩, q.2.2.1, fun _ x y hx hy h => ?_⟩
  · have := q.2.1 x y hx hy
    exact ⟨by omega, fun t => by have := this.2.2 t; omega⟩
  · have := q.2.1 m m hm hm; omega
  · have := q.2.1 x m hx hm; omega
  · have := q.2.1 m x hm hx; omega
  · unfold in6 at hx hy; omega
theorem fw_col {F : Int → Int → Int} {m x : Int} (e : F m m = 0) : fw F m x m = F x m := by
  unfold fw
  by_cases c : told F x m ∧ told F m m
  · rw [cif_pos c]; omega
  · rw [cif_neg c]
theorem fw_row {F : Int → Int → Int} {m y : Int} (e : F m m = 0) : fw F m m y = F m y := by
  unfold fw
  by_cases c : told F m m ∧ told F m y
  · rw [cif_pos c]; omega
  · rw [cif_neg c]
theorem FwP_step {A : (Int → Int) → Prop} {F0 F F' : Int → Int → Int} {m a b L U z : Int} (hm : in6 m) (ha : in6 a) (hb : in6 b) (hL : 0 ≤ L ∧ L ≤ 1000) (hU : 0 ≤ U) (q0 : FwI A F0 m L U) (q : FwP A F0 F m (6 * a + b) L U) (hz : z = cif (told F a m ∧ told F m b) (max (F a b) (F a m + F m b)) (F a b)) (hF : ∀ x y, in6 x → in6 y → F' x y = if x = a ∧ y = b then z else F x y) : FwP A F0 F' m (6 * a + (b + 1)) L U := by
  obtain ⟨p1, p2, p3, p4, p5, p6, p7⟩ := q
  have hz1 : F a b ≤ z := by
    rw [hz]
    by_cases c : told F a m ∧ told F m b
    · rw [cif_pos c]; omega
    · rw [cif_neg c]; omega
  have lam := q0.2.1 a m ha hm
  have lmb := q0.2.1 m b hm hb
  have gam := p2 a m ha hm
  have gmb := p2 m b hm hb
  have tam := p3 a ha
  have tmb := p3 b hb
  have zc : z = F a b ∨ (told F a m ∧ told F m b ∧ z = F a m + F m b) := by
    by_cases c : told F a m ∧ told F m b
    · rw [cif_pos c] at hz
      by_cases c2 : F a m + F m b ≤ F a b
      · left; omega
      · right; exact ⟨c.1, c.2, by omega⟩
    · rw [cif_neg c] at hz; exact Or.inl hz
  have hin : ∀ x y, in6 x → in6 y → (6 * x + y = 6 * a + b ↔ x = a ∧ y = b) := by
    intro x y hx hy
    unfold in6 at *
    omega
  have unp := p1 a b ha hb (Int.le_refl _)
  have ub := p4 a b ha hb
  have hF1 : F' a b = z := by rw [hF a b ha hb, if_pos ⟨rfl, rfl⟩]
  have hF2 : ∀ x y, in6 x → in6 y → ¬ (x = a ∧ y = b) → F' x y = F x y := fun x y hx hy c => by rw [hF x y hx hy, if_neg c]
  refine ⟨fun x y hx hy h => ?_, fun x y hx hy => ?_, fun x hx => ⟨fun t => ?_, fun t => ?_⟩, fun x y hx hy => ?_, ⟨?_, fun x hx => ⟨?_, ?_⟩⟩, fun v hv x y hx hy t => ?_, fun e x y hx hy h => ?_⟩
  · rw [hF2 x y hx hy (by intro c; have := (hin x y hx hy).mpr c; omega)]
    exact p1 x y hx hy (by omega)
  · by_cases c : x = a ∧ y = b
    · obtain ⟨rfl, rfl⟩ := c
      rw [hF1]; have := p2 x y hx hy; omega
    · rw [hF2 x y hx hy c]; exact p2 x y hx hy
  · by_cases c : x = a ∧ m = b
    · obtain ⟨rfl, rfl⟩ := c
      unfold told at t tam ⊢
      rw [hF1] at t
      rcases zc with e | ⟨t1, _, _⟩
      · rw [e, unp] at t; exact t
      · exact tam.1 t1
    · unfold told at t
      rw [hF2 x m hx hm c] at t; exact (p3 x hx).1 t
  · by_cases c : m = a ∧ x = b
    · obtain ⟨rfl, rfl⟩ := c
      unfold told at t tmb ⊢
      rw [hF1] at t
      rcases zc with e | ⟨_, t2, _⟩
      · rw [e, unp] at t; exact t
      · exact tmb.2 t2
    · unfold told at t
      rw [hF2 m x hm hx c] at t; exact (p3 x hx).2 t
  · by_cases c : x = a ∧ y = b
    · obtain ⟨rfl, rfl⟩ := c
      unfold told at *
      rw [hF1]
      have u1 := (p5.2 x hx).1
      have u2 := (p5.2 y hy).2
      rcases zc with e | ⟨t1, t2, e⟩
      · rw [e]; exact ub
      · have l1 := lam.2.2 (tam.1 t1)
        have l2 := lmb.2.2 (tmb.2 t2)
        exact ⟨by omega, fun _ => by omega⟩
    · unfold told
      rw [hF2 x y hx hy c]; exact p4 x y hx hy
  · by_cases c : m = a ∧ m = b
    · obtain ⟨rfl, rfl⟩ := c
      rw [hF1]
      rcases zc with e | ⟨_, _, e⟩
      · rw [e]; exact p5.1
      · omega
    · rw [hF2 m m hm hm c]; exact p5.1
  · by_cases c : x = a ∧ m = b
    · obtain ⟨rfl, rfl⟩ := c
      rw [hF1]
      have u1 := (p5.2 x hx).1
      have u2 := p5.1
      have u3 := p1 x m hx hm (Int.le_refl _)
      rcases zc with e | ⟨_, _, e⟩
      · rw [e]; exact u1
      · omega
    · rw [hF2 x m hx hm c]; exact (p5.2 x hx).1
  · by_cases c : m = a ∧ x = b
    · obtain ⟨rfl, rfl⟩ := c
      rw [hF1]
      have u1 := (p5.2 x hx).2
      have u2 := p5.1
      have u3 := p1 m x hm hx (Int.le_refl _)
      rcases zc with e | ⟨_, _, e⟩
      · rw [e]; exact u1
      · omega
    · rw [hF2 m x hm hx c]; exact (p5.2 x hx).2
  · by_cases c : x = a ∧ y = b
    · obtain ⟨rfl, rfl⟩ := c
      unfold told at t
      rw [hF1] at t ⊢
      rcases zc with e | ⟨t1, t2, e⟩
      · rw [e] at t ⊢; exact p6 v hv x y hx hy t
      · have s1 := p6 v hv x m hx hm t1
        have s2 := p6 v hv m y hm hy t2
        omega
    · unfold told at t
      rw [hF2 x y hx hy c] at t ⊢; exact p6 v hv x y hx hy t
  · by_cases c : x = a ∧ y = b
    · obtain ⟨rfl, rfl⟩ := c
      have f1 : F x m = F0 x m := by
        by_cases c : 6 * x + m < 6 * x + y
        · rw [p7 e x m hx hm c, fw_col e]
        · exact p1 x m hx hm (by omega)
      have f2 : F m y = F0 m y := by
        by_cases c : 6 * m + y < 6 * x + y
        · rw [p7 e m y hm hy c, fw_row e]
        · exact p1 m y hm hy (by omega)
      rw [hF1, hz]
      unfold fw told
      rw [f1, f2, unp]
    · rw [hF2 x y hx hy c]
      exact p7 e x y hx hy (by have := hin x y hx hy; omega)
theorem FwP_end {A : (Int → Int) → Prop} {F0 F : Int → Int → Int} {m L U : Int} (hm : in6 m) (hL : 0 ≤ L ∧ L ≤ 1000) (q0 : FwI A F0 m L U) (q : FwP A F0 F m 36 L U) : FwI A F (m + 1) (2 * L) (6 * U) := by
  obtain ⟨p1, p2, p3, p4, p5, p6, p7⟩ := q
  refine ⟨fun p hp => ?_, fun x y hx hy => ⟨?_, (p4 x y hx hy).1, (p4 x y hx hy).2⟩, p6, fun hd => ?_⟩
  · have := p2 p p hp hp; have := q0.1 p hp; omega
  · have := p2 x y hx hy; have := q0.2.1 x y hx hy; omega
  · have hd0 : ∀ p, in6 p → F0 p p = 0 := fun p hp => by
      have := p2 p p hp hp; have := q0.1 p hp; have := hd p hp; omega
    obtain ⟨u0, c0⟩ := q0.2.2.2 hd0
    have ex : ∀ x y, in6 x → in6 y → F x y = fw F0 m x y := fun x y hx hy => p7 (hd0 m hm) x y hx hy (by unfold in6 at hx hy; omega)
    have fin : ∀ x y, in6 x → in6 y → (F x y = F0 x y ∧ ¬ (told F0 x m ∧ told F0 m y)) ∨ (told F0 x m ∧ told F0 m y ∧ F x y = max (F0 x y) (F0 x m + F0 m y)) := by
      intro x y hx hy
      rw [ex x y hx hy]
      unfold fw
      by_cases c : told F0 x m ∧ told F0 m y
      · rw [cif_pos c]; exact Or.inr ⟨c.1, c.2, rfl⟩
      · rw [cif_neg c]; exact Or.inl ⟨rfl, c⟩
    refine ⟨fun x y hx hy => ?_, fun k x y hk hkm hx hy t1 t2 => ?_⟩
    · have a := u0 x y hx hy
      have b := u0 x m hx hm
      have c := u0 m y hm hy
      rcases fin x y hx hy with e | e <;> omega
    · by_cases ekm : k = m
      · subst ekm
        have e1 : F x k = F0 x k := by rw [ex x k hx hk, fw_col (hd0 k hk)]
        have e2 : F k y = F0 k y := by rw [ex k y hk hy, fw_row (hd0 k hk)]
        unfold told at t1 t2
        rw [e1] at t1 ⊢
        rw [e2] at t2 ⊢
        rcases fin x y hx hy with e | e
        · exact absurd ⟨t1, t2⟩ e.2
        · omega
      · have hk2 : k < m := by omega
        have lo := fun x y hx hy => (q0.2.1 x y hx hy).2.2
        have c1 := c0 k x y hk hk2 hx hy
        have c2 := c0 k m y hk hk2 hm hy
        have c3 := c0 k x m hk hk2 hx hm
        have c4 := c0 k m m hk hk2 hm hm
        have dm := hd0 m hm
        have l1 := lo x k hx hk
        have l2 := lo k y hk hy
        have l3 := lo x m hx hm
        have l4 := lo m k hm hk
        have l5 := lo k m hk hm
        have l6 := lo m y hm hy
        have g0 := p2 x y hx hy
        have fxk := fin x k hx hk
        have fky := fin k y hk hy
        have fxy := fin x y hx hy
        unfold told at *
        clear p1 p2 p3 p4 p5 p6 p7 q0 u0 c0 ex fin lo hd hd0
        rcases fxk with e | e
        · rw [e.1] at t1 ⊢
          rcases fky with e' | e'
          · rw [e'.1] at t2 ⊢
            have := c1 t1 t2
            omega
          · rw [e'.2.2] at t2 ⊢
            rcases fxy with e'' | e'' <;> omega
        · rw [e.2.2] at t1 ⊢
          rcases fky with e' | e'
          · rw [e'.1] at t2 ⊢
            rcases fxy with e'' | e'' <;> omega
          · rw [e'.2.2] at t2 ⊢
            rcases fxy with e'' | e'' <;> omega
