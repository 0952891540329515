/-! SET along one axis: the best set of POINTS that rise together (pure) -/
noncomputable def shf (v : Int → Int) (X p : Int) : Int := v p + bz (ib X p)
/-- a setting on the SHEET -/
def fea (A : (Int → Int) → Prop) (S : Int) (v : Int → Int) : Prop := onS S v ∧ A v
noncomputable def ctm (v st : Int → Int) (X p : Int) : Int := cif (ib X p) (if v p < st p then -1 else 1) 0
noncomputable def cst (v st : Int → Int) (X : Int) : Int := sum6 (ctm v st X)
def dst (v st : Int → Int) : Int := sum6 (fun p => zab (v p - st p))
/-- what is closed under meets and joins -/
def lat (A : (Int → Int) → Prop) : Prop := (∀ u v, (∀ p, in6 p → u p = v p) → A u → A v) ∧ ∀ v X Y, A (shf v X) → A (shf v Y) → A (shf v (zand X Y)) ∧ A (shf v (zor X Y))
section STP
variable {A : (Int → Int) → Prop} {S : Int} {v st : Int → Int} {X Y : Int}
theorem bz_min {a b : Prop} : bz (a ∧ b) = min (bz a) (bz b) := by by_cases ha : a <;> by_cases hb : b <;> simp [bz, ha, hb] <;> rfl
theorem bz_max {a b : Prop} : bz (a ∨ b) = max (bz a) (bz b) := by by_cases ha : a <;> by_cases hb : b <;> simp [bz, ha, hb] <;> rfl
theorem shf_and {p : Int} : shf v (zand X Y) p = min (shf v X p) (shf v Y p) := by
  unfold shf; rw [ib_zand, bz_min]; omega
theorem shf_or {p : Int} : shf v (zor X Y) p = max (shf v X p) (shf v Y p) := by
  unfold shf; rw [ib_zor, bz_max]; omega
theorem satL_congr {W : Nat → Int → Int} {m l : Int} (hO : LwO m W) (hl : 0 ≤ l ∧ l < m) {u w : Int → Int} (e : ∀ p, in6 p → u p = w p) : satL W l u ↔ satL W l w := by
  have o := hO.r hl.1 hl.2
  unfold satL
  rw [e (W 1 l) (by unfold in6; omega), e (W 2 l) (by unfold in6; omega)]
theorem satN_congr {W : Nat → Int → Int} {m am : Int} (hO : LwO m W) {u w : Int → Int} (e : ∀ p, in6 p → u p = w p) : satN W am m u ↔ satN W am m w := by
  unfold satN
  constructor
  · exact fun z l h0 h1 i => (satL_congr hO ⟨h0, h1⟩ e).mp (z l h0 h1 i)
  · exact fun z l h0 h1 i => (satL_congr hO ⟨h0, h1⟩ e).mpr (z l h0 h1 i)
theorem satN_lat {W : Nat → Int → Int} {m am : Int} (hO : LwO m W) : lat (satN W am m) := by
  refine ⟨fun u w e => (satN_congr hO e).mp, fun v X Y h1 h2 => ⟨fun l l0 l1 i => ?_, fun l l0 l1 i => ?_⟩⟩
  · have a := h1 l l0 l1 i
    have b := h2 l l0 l1 i
    unfold satL at *
    rw [shf_and, shf_and]
    exact ⟨by omega, fun e => by have := a.2 e; have := b.2 e; omega⟩
  · have a := h1 l l0 l1 i
    have b := h2 l l0 l1 i
    unfold satL at *
    rw [shf_or, shf_or]
    exact ⟨by omega, fun e => by have := a.2 e; have := b.2 e; omega⟩
theorem fea_and (hA : lat A) (h1 : fea A S (shf v X)) (h2 : fea A S (shf v Y)) : fea A S (shf v (zand X Y)) := by
  refine ⟨fun p hp => ?_, (hA.2 v X Y h1.2 h2.2).1⟩
  have a := h1.1 p hp
  have b := h2.1 p hp
  rw [shf_and]; omega
theorem fea_or (hA : lat A) (h1 : fea A S (shf v X)) (h2 : fea A S (shf v Y)) : fea A S (shf v (zor X Y)) := by
  refine ⟨fun p hp => ?_, (hA.2 v X Y h1.2 h2.2).2⟩
  have a := h1.1 p hp
  have b := h2.1 p hp
  rw [shf_or]; omega
theorem fea_congr (hA : lat A) {u w : Int → Int} (e : ∀ p, in6 p → u p = w p) (h : fea A S u) : fea A S w := ⟨fun p hp => by rw [← e p hp]; exact h.1 p hp, hA.1 u w e h.2⟩
theorem ctm_mod {p : Int} : ctm v st X p + ctm v st Y p = ctm v st (zand X Y) p + ctm v st (zor X Y) p := by
  unfold ctm
  rw [ib_zand, ib_zor]
  by_cases a : ib X p
  · by_cases b : ib Y p
    · rw [cif_pos a, cif_pos b, cif_pos ⟨a, b⟩, cif_pos (Or.inl a)]
    · rw [cif_pos a, cif_neg b, cif_neg (fun z => b z.2), cif_pos (Or.inl a)]; omega
  · by_cases b : ib Y p
    · rw [cif_neg a, cif_pos b, cif_neg (fun z => a z.1), cif_pos (Or.inr b)]
    · rw [cif_neg a, cif_neg b, cif_neg (fun z => a z.1), cif_neg (fun z => z.elim a b)]
theorem cst_mod : cst v st X + cst v st Y = cst v st (zand X Y) + cst v st (zor X Y) := by
  have h := fun p => ctm_mod (v := v) (st := st) (X := X) (Y := Y) (p := p)
  have := h 0; have := h 1; have := h 2; have := h 3; have := h 4; have := h 5
  unfold cst sum6
  omega
theorem cst_0 : cst v st 0 = 0 := by
  have h : ∀ p, ctm v st 0 p = 0 := fun p => by unfold ctm; rw [ib_0, cif_neg id]
  unfold cst sum6
  simp only [h]; rfl
theorem cst_r : -6 ≤ cst v st X ∧ cst v st X ≤ 6 := by
  have h : ∀ p, -1 ≤ ctm v st X p ∧ ctm v st X p ≤ 1 := fun p => by
    unfold ctm
    by_cases c : ib X p
    · rw [cif_pos c]; split <;> omega
    · rw [cif_neg c]; omega
  have := h 0; have := h 1; have := h 2; have := h 3; have := h 4; have := h 5
  unfold cst sum6
  omega
theorem zab_step {x y : Int} : zab (x + 1 - y) = zab (x - y) + (if x < y then -1 else 1) := by
  unfold zab
  split <;> split <;> split <;> omega
theorem dst_shf : dst (shf v X) st = dst v st + cst v st X := by
  have h : ∀ p, zab (shf v X p - st p) = zab (v p - st p) + ctm v st X p := fun p => by
    unfold shf ctm
    by_cases c : ib X p
    · rw [bz_T c, cif_pos c, zab_step]
    · rw [bz_F c, cif_neg c, Int.add_zero, Int.add_zero]
  have h0 := h 0; have h1 := h 1; have h2 := h 2; have h3 := h 3; have h4 := h 4; have h5 := h 5
  unfold dst cst sum6
  dsimp only
  omega
theorem zab_r {x : Int} : 0 ≤ zab x := by unfold zab; split <;> omega
theorem dst_r (h1 : ∀ p, in6 p → -100 ≤ v p ∧ v p ≤ 100) (h2 : ∀ p, in6 p → 0 ≤ st p ∧ st p ≤ 19) : 0 ≤ dst v st ∧ dst v st ≤ 1000 := by
  have h : ∀ p, in6 p → 0 ≤ zab (v p - st p) ∧ zab (v p - st p) ≤ 120 := fun p hp => by
    have := h1 p hp; have := h2 p hp
    unfold zab; split <;> omega
  have := h 0 (by unfold in6; omega); have := h 1 (by unfold in6; omega); have := h 2 (by unfold in6; omega); have := h 3 (by unfold in6; omega); have := h 4 (by unfold in6; omega); have := h 5 (by unfold in6; omega)
  unfold dst sum6
  dsimp only
  omega
/-- the best set that rises: of the least cost, below 0; of several the one that is part of each -/
def bst (A : (Int → Int) → Prop) (S : Int) (st v : Int → Int) (X : Int) : Prop := (0 < X ∧ X < 64) ∧ fea A S (shf v X) ∧ cst v st X < 0 ∧ ∀ Y, 0 < Y → Y < 64 → fea A S (shf v Y) → cst v st X ≤ cst v st Y ∧ (cst v st X = cst v st Y → ∀ p, 0 ≤ p → ib X p → ib Y p)
def stl (A : (Int → Int) → Prop) (S : Int) (st v : Int → Int) : Prop := ∀ Y, 0 < Y → Y < 64 → fea A S (shf v Y) → 0 ≤ cst v st Y
theorem meet_min (hA : lat A) (hX : 0 < X ∧ X < 64) (hY : 0 < Y ∧ Y < 64) (fX : fea A S (shf v X)) (fY : fea A S (shf v Y)) (hn : cst v st X < 0) (he : cst v st X = cst v st Y) (hmin : ∀ Z, 0 < Z → Z < 64 → fea A S (shf v Z) → cst v st X ≤ cst v st Z) : (0 < zand X Y ∧ zand X Y < 64) ∧ fea A S (shf v (zand X Y)) ∧ cst v st (zand X Y) = cst v st X := by
  have md := cst_mod (v := v) (st := st) (X := X) (Y := Y)
  have o0 := zor_0 (a := X) (b := Y)
  have o1 : zor X Y < 64 := zor_lt (n := 6) hX.2 hY.2 (by omega) (by omega)
  have a0 := zand_0 (a := X) (b := Y)
  have a1 : zand X Y < 64 := zand_lt (n := 6) hX.2 (by omega)
  have f1 := fea_and hA fX fY
  have f2 := fea_or hA fX fY
  have po : 0 < zor X Y := by
    by_cases c : zor X Y = 0
    · exfalso
      have : X = 0 := ib_ext (by omega) (Int.le_refl 0) (fun p hp => ⟨fun z => by rw [← c, ib_zor]; exact Or.inl z, fun z => by rw [ib_0] at z; exact z.elim⟩)
      omega
    · omega
  have m1 := hmin _ po o1 f2
  by_cases c : zand X Y = 0
  · rw [c, cst_0] at md; omega
  · have m2 := hmin _ (by omega) a1 f1
    exact ⟨⟨by omega, a1⟩, f1, by omega⟩
theorem bst_num (hA : lat A) (hX : 0 < X ∧ X < 64) (fX : fea A S (shf v X)) (hn : cst v st X < 0) (hmin : ∀ Z, 0 < Z → Z < 64 → fea A S (shf v Z) → cst v st X ≤ cst v st Z ∧ (cst v st X = cst v st Z → X ≤ Z)) : bst A S st v X := by
  refine ⟨hX, fX, hn, fun Y y0 y1 fY => ⟨(hmin Y y0 y1 fY).1, fun e p hp h => ?_⟩⟩
  obtain ⟨m1, m2, m3⟩ := meet_min hA hX ⟨y0, y1⟩ fX fY hn e (fun Z z0 z1 z2 => (hmin Z z0 z1 z2).1)
  have le := (hmin _ m1.1 m1.2 m2).2 m3.symm
  have le2 : zand X Y ≤ X := by
    unfold zand
    have := Nat.and_le_left (n := X.toNat) (m := Y.toNat)
    omega
  have eq : zand X Y = X := by omega
  rw [← eq, ib_zand] at h
  exact h.2
theorem cnt_eq_sub {P Q : Int → Prop} {n : Nat} (hs : ∀ i : Int, 0 ≤ i → i < n → P i → Q i) (he : cnt Q n ≤ cnt P n) : ∀ i : Int, 0 ≤ i → i < n → Q i → P i := fun i i0 i1 hq => Classical.byContradiction (fun hp => by
  have := cnt_lt hs i i0 i1 hq hp
  omega)
theorem bst_cnt (hA : lat A) (hX : 0 < X ∧ X < 64) (fX : fea A S (shf v X)) (hn : cst v st X < 0) (hmin : ∀ Z, 0 < Z → Z < 64 → fea A S (shf v Z) → cst v st X ≤ cst v st Z ∧ (cst v st X = cst v st Z → cnt (ib X) 6 ≤ cnt (ib Z) 6)) : bst A S st v X := by
  refine ⟨hX, fX, hn, fun Y y0 y1 fY => ⟨(hmin Y y0 y1 fY).1, fun e p hp h => ?_⟩⟩
  obtain ⟨m1, m2, m3⟩ := meet_min hA hX ⟨y0, y1⟩ fX fY hn e (fun Z z0 z1 z2 => (hmin Z z0 z1 z2).1)
  have le := (hmin _ m1.1 m1.2 m2).2 m3.symm
  have := cnt_eq_sub (P := ib (zand X Y)) (Q := ib X) (n := 6) (fun i _ _ z => by rw [ib_zand] at z; exact z.1) le p hp (of64 (by omega) hX.2 h) h
  rw [ib_zand] at this
  exact this.2
theorem bst_uniq (h1 : bst A S st v X) (h2 : bst A S st v Y) : X = Y := by
  have a := h1.2.2.2 Y h2.1.1 h2.1.2 h2.2.1
  have b := h2.2.2.2 X h1.1.1 h1.1.2 h1.2.1
  exact ib_ext (by have := h1.1; omega) (by have := h2.1; omega) (fun p hp => ⟨fun z => a.2 (by omega) p hp z, fun z => b.2 (by omega) p hp z⟩)
theorem bst_stl (h1 : bst A S st v X) (h2 : stl A S st v) : False := by
  have := h2 X h1.1.1 h1.1.2 h1.2.1
  have := h1.2.2.1
  omega
/-- how it climbs -/
def clm (A : (Int → Int) → Prop) (S : Int) (st : Int → Int) : Nat → (Int → Int) → (Int → Int) → Prop
  | 0, v, w => stl A S st v ∧ ∀ p, in6 p → w p = v p
  | n + 1, v, w => ∃ X, bst A S st v X ∧ clm A S st n (shf v X) w
theorem cst_congr {u : Int → Int} (e : ∀ p, in6 p → u p = v p) : cst u st X = cst v st X := by
  have h : ∀ p, in6 p → ctm u st X p = ctm v st X p := fun p hp => by unfold ctm; rw [e p hp]
  unfold cst sum6
  rw [h 0 (by unfold in6; omega), h 1 (by unfold in6; omega), h 2 (by unfold in6; omega), h 3 (by unfold in6; omega), h 4 (by unfold in6; omega), h 5 (by unfold in6; omega)]
theorem shf_congr {u : Int → Int} (e : ∀ p, in6 p → u p = v p) : ∀ p, in6 p → shf u X p = shf v X p := fun p hp => by unfold shf; rw [e p hp]
theorem bst_congr (hA : lat A) {u : Int → Int} (e : ∀ p, in6 p → u p = v p) (h : bst A S st u X) : bst A S st v X := by
  obtain ⟨a, b, c, f⟩ := h
  refine ⟨a, fea_congr hA (shf_congr e) b, by rw [← cst_congr e]; exact c, fun Y y0 y1 fY => ?_⟩
  have := f Y y0 y1 (fea_congr hA (shf_congr (fun p hp => (e p hp).symm)) fY)
  rw [cst_congr e, cst_congr e] at this
  exact this
theorem stl_congr (hA : lat A) {u : Int → Int} (e : ∀ p, in6 p → u p = v p) (h : stl A S st u) : stl A S st v := fun Y y0 y1 fY => by
  rw [← cst_congr e]
  exact h Y y0 y1 (fea_congr hA (shf_congr (fun p hp => (e p hp).symm)) fY)
theorem clm_uniq (hA : lat A) : ∀ {n k : Nat} {v u w x : Int → Int}, (∀ p, in6 p → v p = u p) → clm A S st n v w → clm A S st k u x → ∀ p, in6 p → w p = x p := by
  intro n
  induction n with
  | zero =>
    intro k v u w x e h1 h2
    cases k with
    | zero => exact fun p hp => by rw [h1.2 p hp, h2.2 p hp, e p hp]
    | succ k =>
      obtain ⟨X, hX, _⟩ := h2
      exact (bst_stl hX (stl_congr hA e h1.1)).elim
  | succ n ih =>
    intro k v u w x e h1 h2
    obtain ⟨X, hX, h1⟩ := h1
    cases k with
    | zero => exact (bst_stl (bst_congr hA e hX) h2.1).elim
    | succ k =>
      obtain ⟨Y, hY, h2⟩ := h2
      have eq := bst_uniq (bst_congr hA e hX) hY
      subst eq
      exact ih (shf_congr e) h1 h2
theorem clm_fea (hA : lat A) : ∀ {n : Nat} {v w : Int → Int}, fea A S v → clm A S st n v w → fea A S w := by
  intro n
  induction n with
  | zero => exact fun hf h => fea_congr hA (fun p hp => (h.2 p hp).symm) hf
  | succ n ih => exact fun hf h => by obtain ⟨X, hX, h⟩ := h; exact ih hX.2.1 h
end STP
