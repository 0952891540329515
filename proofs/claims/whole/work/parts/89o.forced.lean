/-! frames by cells and fields; FORCED: what both objects answer -/
def FrG (X : Nat → Prop) (Y : Nat → Nat → Prop) (h h' : aH) : Prop := ∀ a, ¬ X a → (∀ k, ¬ Y a k → a_fv h' a k = a_fv h a k) ∧ a_ia h' a = a_ia h a ∧ a_la h' a = a_la h a
section FRG
variable {X : Nat → Prop} {Y : Nat → Nat → Prop} {h h' h1 h2 : aH} {a k : Nat} {i z : Int} {f : Nat → Int32}
theorem FrG.id : FrG X Y h h := fun _ _ => ⟨fun _ _ => rfl, rfl, rfl⟩
theorem FrG.trans (f1 : FrG X Y h h1) (f2 : FrG X Y h1 h2) : FrG X Y h h2 := fun a ha => ⟨fun k hk => ((f2 a ha).1 k hk).trans ((f1 a ha).1 k hk), (f2 a ha).2.1.trans (f1 a ha).2.1, (f2 a ha).2.2.trans (f1 a ha).2.2⟩
theorem FrG.of {lo hi : Nat} (f : Fr lo hi h h') (hx : ∀ a, lo ≤ a → a < hi → X a) : FrG X Y h h' := fun a ha => by
  have := f a (by
    by_cases c : lo ≤ a
    · by_cases c2 : a < hi
      · exact absurd (hx a c c2) ha
      · omega
    · omega)
  exact ⟨fun k _ => this.1 k, this.2.1, this.2.2⟩
theorem FrG.iall (g : FrG X Y h h') (ha : X a) : FrG X Y h (a_iall h' a f) := fun b hb => ⟨(g b hb).1, by
  rw [a_ia_iall, if_neg (by intro e; subst e; exact hb ha)]; exact (g b hb).2.1, (g b hb).2.2⟩
theorem FrG.sA (g : FrG X Y h h') (ha : X a) : FrG X Y h (sa h' a i z) := g.iall ha
theorem FrG.sF (g : FrG X Y h h') (ha : X a ∨ Y a k) : FrG X Y h (sf h' a k z) := fun b hb => ⟨fun j hj => by
  rw [fv_sf_ne (by
    by_cases c : b = a
    · subst c; exact Or.inr (by intro e; subst e; exact ha.elim hb hj)
    · exact Or.inl c)]
  exact (g b hb).1 j hj, (g b hb).2.1, (g b hb).2.2⟩
theorem FrG.ag (f : FrG X Y h h') (ha : ¬ X a) : ga h' a i = ga h a i := by simp only [ga, (f a ha).2.1]
theorem FrG.fv (f : FrG X Y h h') (ha : ¬ X a) (hk : ¬ Y a k) : a_fv h' a k = a_fv h a k := (f a ha).1 k hk
theorem FrG.fg (f : FrG X Y h h') (ha : ¬ X a) (hk : ¬ Y a k) : gf h' a k = gf h a k := by simp only [gf, (f a ha).1 k hk]
theorem FrG.lg (f : FrG X Y h h') (ha : ¬ X a) : gl h' a i = gl h a i := by simp only [gl, (f a ha).2.2]
theorem FrG.lfg (f : FrG X Y h h') (ha : ¬ X a) (hk : ¬ Y a k) : gfl h' a k = gfl h a k := by simp only [gfl, (f a ha).1 k hk]
end FRG
/-- what the reference's questions may change; what the object's may, SET aside -/
def XM (a : Nat) : Prop := 89 ≤ a ∧ a ≤ 93
def YM (a k : Nat) : Prop := a = 73 ∧ (k = 27 ∨ k = 31 ∨ k = 32)
def XN (a : Nat) : Prop := (14 ≤ a ∧ a < 24) ∨ (45 ≤ a ∧ a < 50)
def YN (_ _ : Nat) : Prop := False
theorem LwM.frM {h h' : aH} {m : Int} {W : Nat → Int → Int} (q : LwM h m W) (f : FrG XM YM h h') : LwM h' m W := by
  unfold LwM
  simp (disch := (first | (unfold XM; omega) | (unfold YM; omega))) only [f.ag, f.fg]
  exact q
theorem StM.frM {h h' : aH} {k : Int} {S : Nat → Int → Int} {seen saw : Int → Int64} {mk : Int} (q : StM h k S seen saw mk) (f : FrG XM YM h h') : StM h' k S seen saw mk := by
  unfold StM
  simp (disch := (first | (unfold XM; omega) | (unfold YM; omega))) only [f.ag, f.fg, f.lg]
  exact q
theorem LwC.frN {h h' : aH} {b : Nat} {m : Int} {W : Nat → Int → Int} (q : LwC h b m W) (f : FrG XN YN h h') : LwC h' b m W := by
  have hb := q.1
  unfold LwC
  simp (disch := (first | (unfold XN; omega) | (unfold YN; exact id))) only [f.ag, f.fg]
  exact q
theorem StC.frN {h h' : aH} {k : Int} {S : Nat → Int → Int} {seen saw : Int → Int64} {mk : Int} {bk lt : Int → Int} (q : StC h k S seen saw mk bk lt) (f : FrG XN YN h h') : StC h' k S seen saw mk bk lt := by
  unfold StC
  simp (disch := (first | (unfold XN; omega) | (unfold YN; exact id))) only [f.ag, f.fg, f.lg]
  exact q
/-! the reference's gaps at their end -/
theorem max_n (f : Int → Int) : ∀ n : Nat, ∃ t, (∀ x : Int, 0 ≤ x → x < n + 1 → f x ≤ t) ∧ ∃ x : Int, 0 ≤ x ∧ x < n + 1 ∧ t = f x := by
  intro n
  induction n with
  | zero => exact ⟨f 0, fun x h0 h1 => by rw [show x = 0 by omega]; exact Int.le_refl _, 0, by omega, by omega, rfl⟩
  | succ n ih =>
    obtain ⟨t, h1, x, x0, x1, e⟩ := ih
    by_cases c : f (n + 1 : Nat) ≤ t
    · refine ⟨t, fun y y0 y1 => ?_, x, x0, by omega, e⟩
      by_cases c2 : y = ((n + 1 : Nat) : Int)
      · rw [c2]; exact c
      · exact h1 y y0 (by omega)
    · refine ⟨f (n + 1 : Nat), fun y y0 y1 => ?_, ((n + 1 : Nat) : Int), by omega, by omega, rfl⟩
      by_cases c2 : y = ((n + 1 : Nat) : Int)
      · rw [c2]; exact Int.le_refl _
      · have := h1 y y0 (by omega); omega
theorem plD_obey {v : Int → Int} (h : ∀ i, in7 i → -400000 ≤ v i ∧ v i ≤ 400000) : obey plD v := by
  intro i j hi hj
  have := h i hi
  have := h j hj
  unfold plD
  split
  · rename_i e; subst e; omega
  · omega
theorem far_v {W : Nat → Int → Int} {am m : Int} {F : Int → Int → Int} {U : Int} (hO : LwO m W) (q : FwI (satN W am m) F 6 1216 U) (hd : ∀ p, in6 p → F p p = 0) (ha : arcs W am m F) {a : Int} (h6 : in6 a) : ∃ v, obey plD v ∧ satN W am m v ∧ v a = 0 ∧ ∀ p, in6 p → (told F a p → v p = F a p) ∧ (¬ told F a p → v p ≤ -5000) := by
  obtain ⟨up, cl⟩ := q.2.2.2 hd
  have lo := fun x y hx hy => (q.2.1 x y hx hy).2.2
  have tf : ∀ p, ∃ t, in6 p → (∀ x, in6 x → told F x p → F x p ≤ t) ∧ ∃ x, in6 x ∧ told F x p ∧ t = F x p := by
    intro p
    by_cases hp : in6 p
    · obtain ⟨t, h1, x, x0, x1, e⟩ := max_n (fun x => cif (told F x p) (F x p) 0) 5
      refine ⟨t, fun _ => ⟨fun x hx hxt => ?_, ?_⟩⟩
      · have := h1 x hx.1 (by have := hx.2; omega)
        simp only [cif_pos hxt] at this
        exact this
      · by_cases c : told F x p
        · simp only [cif_pos c] at e
          exact ⟨x, ⟨x0, by omega⟩, c, e⟩
        · simp only [cif_neg c] at e
          refine ⟨p, hp, ?_, ?_⟩
          · unfold told; rw [hd p hp]; omega
          · rw [hd p hp]; exact e
    · exact ⟨0, fun z => absurd z hp⟩
  obtain ⟨T, hT⟩ := Classical.axiomOfChoice tf
  have Tr : ∀ p, in6 p → 0 ≤ T p ∧ T p ≤ 1216 := by
    intro p hp
    obtain ⟨h1, x, hx, hxt, e⟩ := hT p hp
    have a1 := h1 p hp (by unfold told; rw [hd p hp]; omega)
    rw [hd p hp] at a1
    have := up x p hx hp
    omega
  have vr : ∀ p, in6 p → (told F a p → cif (told F a p) (F a p) (T p - 10000) = F a p) ∧ (¬ told F a p → cif (told F a p) (F a p) (T p - 10000) = T p - 10000) := fun p hp => ⟨fun z => cif_pos z, fun z => cif_neg z⟩
  have step : ∀ x y g, in6 x → in6 y → -19 ≤ g → g ≤ F x y → cif (told F a x) (F a x) (T x - 10000) + g ≤ cif (told F a y) (F a y) (T y - 10000) := by
    intro x y g hx hy hg hgf
    have txy : told F x y := by unfold told; omega
    by_cases c : told F a x
    · have l1 := lo a x h6 hx c
      have l2 := lo x y hx hy txy
      have c3 := cl x a y hx hx.2 h6 hy c txy
      have tay : told F a y := by unfold told; omega
      rw [cif_pos c, cif_pos tay]; omega
    · obtain ⟨h1, z, hz, hzt, e⟩ := hT x hx
      have c3 := cl x z y hx hx.2 hz hy hzt txy
      have l1 := lo z x hz hx hzt
      have l2 := lo x y hx hy txy
      have tzy : told F z y := by unfold told; omega
      have c4 := (hT y hy).1 z hz tzy
      have r := Tr y hy
      rw [cif_neg c]
      by_cases c2 : told F a y
      · have := lo a y h6 hy c2
        rw [cif_pos c2]; omega
      · rw [cif_neg c2]; omega
  have ta : told F a a := by unfold told; rw [hd a h6]; omega
  refine ⟨fun p => if p = 6 then 0 else cif (told F a p) (F a p) (T p - 10000), plD_obey (fun i hi => ?_), fun l h0 h1 e => ?_, ?_, fun p hp => ⟨fun t => ?_, fun t => ?_⟩⟩
  · by_cases c : i = 6
    · simp only [c, if_true]; omega
    · have hi6 : in6 i := by unfold in6 in7 at *; omega
      have r := Tr i hi6
      simp only [c, if_false]
      by_cases c2 : told F a i
      · have l1 := lo a i h6 hi6 c2
        have u1 := up a i h6 hi6
        rw [cif_pos c2]; omega
      · rw [cif_neg c2]; omega
  · have o := hO.r h0 h1
    have i1 : in6 (W 1 l) := by unfold in6; omega
    have i2 : in6 (W 2 l) := by unfold in6; omega
    have n1 : ¬ W 1 l = 6 := by omega
    have n2 : ¬ W 2 l = 6 := by omega
    have aa := ha l h0 h1 e
    refine ⟨?_, fun s => ?_⟩
    · simp only [n1, n2, if_false]
      exact step _ _ _ i1 i2 (by omega) aa.1
    · simp only [n1, n2, if_false]
      exact step _ _ _ i2 i1 (by omega) (aa.2 s)
  · have n1 : ¬ a = 6 := by unfold in6 at h6; omega
    simp only [n1, if_false]
    rw [cif_pos ta, hd a h6]
  · have n1 : ¬ p = 6 := by unfold in6 at hp; omega
    simp only [n1, if_false]
    exact cif_pos t
  · have n1 : ¬ p = 6 := by unfold in6 at hp; omega
    have r := Tr p hp
    simp only [n1, if_false]
    rw [cif_neg t]; omega
theorem far_end {W : Nat → Int → Int} {am m : Int} {F : Int → Int → Int} {U : Int} (hO : LwO m W) (q : FwI (satN W am m) F 6 1216 U) (hd : ∀ p, in6 p → F p p = 0) (ha : arcs W am m F) : (∃ v, obey plD v ∧ satN W am m v) ∧ ∀ a b g, in6 a → in6 b → -19 ≤ g → (g ≤ F a b ↔ ∀ v, obey plD v → satN W am m v → v a + g ≤ v b) := by
  refine ⟨?_, fun a b g h1 h2 hg => ⟨fun z v _ hv => ?_, fun z => ?_⟩⟩
  · obtain ⟨v, v1, v2, _⟩ := far_v hO q hd ha (a := 0) (by unfold in6; omega)
    exact ⟨v, v1, v2⟩
  · have := q.2.2.1 v hv a b h1 h2 (by unfold told; omega)
    omega
  · obtain ⟨v, v1, v2, v3, v4⟩ := far_v hO q hd ha h1
    have := z v v1 v2
    have v4 := v4 b h2
    by_cases c : told F a b
    · have := v4.1 c; omega
    · have := v4.2 c; omega
theorem far_no {W : Nat → Int → Int} {am m : Int} {F : Int → Int → Int} {L U : Int} (q : FwI (satN W am m) F 6 L U) (hd : ¬ ∀ p, in6 p → F p p = 0) {v : Int → Int} : ¬ satN W am m v := by
  intro hv
  apply hd
  intro p hp
  have a := q.1 p hp
  have b := q.2.2.1 v hv p p hp hp (by unfold told; omega)
  omega
