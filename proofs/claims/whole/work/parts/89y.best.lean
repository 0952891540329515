/-! SET along one axis: the best of all settings (pure) -/
/-- what comes of the least setting by climbing -/
def rs (A : (Int → Int) → Prop) (S : Int) (st w : Int → Int) : Prop := ∃ v0 n, fea A S v0 ∧ (∀ u, fea A S u → ∀ p, in6 p → v0 p ≤ u p) ∧ clm A S st n v0 w
theorem rs_uniq {A : (Int → Int) → Prop} {S : Int} {st w x : Int → Int} (hA : lat A) (h1 : rs A S st w) (h2 : rs A S st x) : ∀ p, in6 p → w p = x p := by
  obtain ⟨v, n, a1, a2, a3⟩ := h1
  obtain ⟨u, k, b1, b2, b3⟩ := h2
  exact clm_uniq hA (fun p hp => by have := a2 u b1 p hp; have := b2 v a1 p hp; omega) a3 b3
theorem rs_fea {A : (Int → Int) → Prop} {S : Int} {st w : Int → Int} (hA : lat A) (h : rs A S st w) : fea A S w := by
  obtain ⟨v, n, a1, a2, a3⟩ := h
  exact clm_fea hA a1 a3
/-- ahead by x of POINT 0, 1, .. -/
def lex (w u : Int → Int) : Prop := ∃ p, in6 p ∧ w p < u p ∧ ∀ q, 0 ≤ q → q < p → w q = u q
theorem lex_trans {a b c : Int → Int} (h1 : lex a b) (h2 : lex b c) : lex a c := by
  obtain ⟨p, p1, p2, p3⟩ := h1
  obtain ⟨q, q1, q2, q3⟩ := h2
  by_cases e : p < q
  · exact ⟨p, p1, by have := q3 p p1.1 e; omega, fun r r0 r1 => (p3 r r0 r1).trans (q3 r r0 (by omega))⟩
  · by_cases e2 : p = q
    · subst e2; exact ⟨p, p1, by omega, fun r r0 r1 => (p3 r r0 r1).trans (q3 r r0 r1)⟩
    · exact ⟨q, q1, by have := p3 q q1.1 (by omega); omega, fun r r0 r1 => (p3 r r0 (by omega)).trans (q3 r r0 r1)⟩
theorem lex_irr {a : Int → Int} : ¬ lex a a := fun ⟨p, _, h, _⟩ => by omega
theorem lex_tot {a b : Int → Int} (h1 : ¬ lex a b) (h2 : ¬ lex b a) : ∀ p, in6 p → a p = b p := by
  intro p hp
  refine Classical.byContradiction (fun c => ?_)
  obtain ⟨q, q0, q1, q2, q3⟩ := least_ex (P := fun x => ¬ a x = b x) 6 p hp.1 hp.2 c
  have q6 : in6 q := ⟨q0, by have := hp.2; omega⟩
  have eq : ∀ r, 0 ≤ r → r < q → a r = b r := fun r r0 r1 => Classical.byContradiction (fun z => q3 r r0 r1 z)
  by_cases c2 : a q < b q
  · exact h1 ⟨q, q6, c2, eq⟩
  · exact h2 ⟨q, q6, by omega, fun r r0 r1 => (eq r r0 r1).symm⟩
theorem lex_congr {a b x y : Int → Int} (e1 : ∀ p, in6 p → a p = x p) (e2 : ∀ p, in6 p → b p = y p) (h : lex a b) : lex x y := by
  obtain ⟨p, p1, p2, p3⟩ := h
  refine ⟨p, p1, by rw [← e1 p p1, ← e2 p p1]; exact p2, fun q q0 q1 => ?_⟩
  have q6 : in6 q := ⟨q0, by have := p1.2; omega⟩
  rw [← e1 q q6, ← e2 q q6]; exact p3 q q0 q1
/-- better: more WEIGHT, then less moved, then ahead -/
def btr (yw ym : Int) (y : Int → Int) (bw bm : Int) (w : Int → Int) : Prop := bw < yw ∨ (bw = yw ∧ (ym < bm ∨ (ym = bm ∧ lex y w)))
theorem btr_trans {aw am bw bm cw cm : Int} {a b c : Int → Int} (h1 : btr aw am a bw bm b) (h2 : btr bw bm b cw cm c) : btr aw am a cw cm c := by
  unfold btr at *
  rcases h1 with h1 | ⟨h1, h1' | ⟨h1', h1''⟩⟩ <;> rcases h2 with h2 | ⟨h2, h2' | ⟨h2', h2''⟩⟩
  all_goals first
    | (left; omega)
    | (right; refine ⟨by omega, ?_⟩; first | (left; omega) | (right; exact ⟨by omega, lex_trans h1'' h2''⟩))
theorem btr_irr {aw am : Int} {a : Int → Int} : ¬ btr aw am a aw am a := by
  unfold btr
  intro h
  rcases h with h | ⟨_, h | ⟨_, h⟩⟩
  · omega
  · omega
  · exact lex_irr h
def opt (C : Int → Int → (Int → Int) → Prop) (bw bm : Int) (w : Int → Int) : Prop := C bw bm w ∧ ∀ yw ym y, C yw ym y → ¬ btr yw ym y bw bm w
theorem opt_uniq {C : Int → Int → (Int → Int) → Prop} {aw am bw bm : Int} {a b : Int → Int} (h1 : opt C aw am a) (h2 : opt C bw bm b) : aw = bw ∧ am = bm ∧ ∀ p, in6 p → a p = b p := by
  have x := h1.2 _ _ _ h2.1
  have y := h2.2 _ _ _ h1.1
  unfold btr at x y
  have e1 : aw = bw := by
    refine Classical.byContradiction (fun c => ?_)
    by_cases c2 : aw < bw
    · exact x (Or.inl c2)
    · exact y (Or.inl (by omega))
  have e2 : am = bm := by
    refine Classical.byContradiction (fun c => ?_)
    by_cases c2 : am < bm
    · exact y (Or.inr ⟨e1.symm, Or.inl c2⟩)
    · exact x (Or.inr ⟨e1, Or.inl (by omega)⟩)
  exact ⟨e1, e2, lex_tot (fun z => y (Or.inr ⟨e1.symm, Or.inr ⟨e2, z⟩⟩)) (fun z => x (Or.inr ⟨e1, Or.inr ⟨e2.symm, z⟩⟩))⟩
/-- one more comes, and is better -/
theorem opt_new {C C' : Int → Int → (Int → Int) → Prop} {bw bm yw ym : Int} {w y : Int → Int} (h : opt C bw bm w) (hy : C' yw ym y) (hb : btr yw ym y bw bm w) (hC : ∀ a b c, C' a b c → C a b c ∨ (a = yw ∧ b = ym ∧ ∀ p, in6 p → c p = y p)) : opt C' yw ym y := by
  refine ⟨hy, fun a b c hc z => ?_⟩
  rcases hC a b c hc with k | ⟨rfl, rfl, e⟩
  · exact h.2 a b c k (btr_trans z hb)
  · unfold btr at z
    rcases z with z | ⟨_, z | ⟨_, z⟩⟩
    · omega
    · omega
    · exact lex_irr (lex_congr e (fun _ _ => rfl) z)
/-- .. and isn't -/
theorem opt_old {C C' : Int → Int → (Int → Int) → Prop} {bw bm yw ym : Int} {w y : Int → Int} (h : opt C bw bm w) (hm : C' bw bm w) (hb : ¬ btr yw ym y bw bm w) (hC : ∀ a b c, C' a b c → C a b c ∨ (a = yw ∧ b = ym ∧ ∀ p, in6 p → c p = y p)) : opt C' bw bm w := by
  refine ⟨hm, fun a b c hc z => ?_⟩
  rcases hC a b c hc with k | ⟨rfl, rfl, e⟩
  · exact h.2 a b c k z
  · refine hb ?_
    unfold btr at *
    rcases z with z | ⟨z1, z | ⟨z, z2⟩⟩
    · exact Or.inl z
    · exact Or.inr ⟨z1, Or.inl z⟩
    · exact Or.inr ⟨z1, Or.inr ⟨z, lex_congr e (fun _ _ => rfl) z2⟩⟩
theorem opt_first {C' : Int → Int → (Int → Int) → Prop} {yw ym : Int} {y : Int → Int} (hy : C' yw ym y) (hC : ∀ a b c, C' a b c → (a = yw ∧ b = ym ∧ ∀ p, in6 p → c p = y p)) : opt C' yw ym y := by
  refine ⟨hy, fun a b c hc z => ?_⟩
  obtain ⟨rfl, rfl, e⟩ := hC a b c hc
  unfold btr at z
  rcases z with z | ⟨_, z | ⟨_, z⟩⟩
  · omega
  · omega
  · exact lex_irr (lex_congr e (fun _ _ => rfl) z)
/-- WEIGHT of a set -/
noncomputable def wgt (W : Nat → Int → Int) (X : Int) : Nat → Int
  | 0 => 0
  | n + 1 => wgt W X n + cif (ib X n) (W 4 n) 0
theorem wgt_r {W : Nat → Int → Int} {m X : Int} (hO : LwO m W) : ∀ n : Nat, (n : Int) ≤ m → 0 ≤ wgt W X n ∧ wgt W X n ≤ 9 * n := by
  intro n
  induction n with
  | zero => exact fun _ => ⟨Int.le_refl _, Int.le_refl _⟩
  | succ n ih =>
    intro hn
    have := ih (by omega)
    have o := hO.r (i := (n : Int)) (by omega) (by omega)
    simp only [wgt]
    by_cases c : ib X n
    · rw [cif_pos c]; omega
    · rw [cif_neg c]; omega
/-- wishes of a set, along one axis -/
def subW (W : Nat → Int → Int) (m Wd : Int) (T : Prop) (Y : Int) : Prop := 0 ≤ Y ∧ ∀ l, 0 ≤ l → ib Y l → l < m ∧ ib Wd l ∧ (tal (W 0 l) ↔ T)
def cand (W : Nat → Int → Int) (m F Wd : Int) (T : Prop) (S : Int) (st : Int → Int) (P : Int → Prop) (yw ym : Int) (y : Int → Int) : Prop := ∃ Y, P Y ∧ subW W m Wd T Y ∧ rs (satN W (axS W (zor F Y) T m) m) S st y ∧ yw = wgt W Y m.toNat ∧ ym = dst y st
section BES
variable {W : Nat → Int → Int} {m F Wd S : Int} {T : Prop} {st y : Int → Int} {P : Int → Prop} {n : Int}
theorem dst_congr {u v : Int → Int} (e : ∀ p, in6 p → u p = v p) : dst u st = dst v st := by
  unfold dst sum6
  dsimp only
  rw [e 0 (by unfold in6; omega), e 1 (by unfold in6; omega), e 2 (by unfold in6; omega), e 3 (by unfold in6; omega), e 4 (by unfold in6; omega), e 5 (by unfold in6; omega)]
/-- those ahead of n, and n -/
theorem cand_succ (hO : LwO m W) (hy : rs (satN W (axS W (zor F n) T m) m) S st y) {a b : Int} {c : Int → Int} (h : cand W m F Wd T S st (fun Y => Y < n + 1) a b c) : cand W m F Wd T S st (fun Y => Y < n) a b c ∨ (a = wgt W n m.toNat ∧ b = dst y st ∧ ∀ p, in6 p → c p = y p) := by
  obtain ⟨Y, h1, h2, h3, h4, h5⟩ := h
  by_cases e : Y = n
  · subst e
    have u := rs_uniq (satN_lat hO) h3 hy
    exact Or.inr ⟨h4, by rw [h5]; exact dst_congr u, u⟩
  · exact Or.inl ⟨Y, by omega, h2, h3, h4, h5⟩
theorem cand_no (hn : ¬ (subW W m Wd T n ∧ ∃ y, rs (satN W (axS W (zor F n) T m) m) S st y)) {a b : Int} {c : Int → Int} (h : cand W m F Wd T S st (fun Y => Y < n + 1) a b c) : cand W m F Wd T S st (fun Y => Y < n) a b c := by
  obtain ⟨Y, h1, h2, h3, h4, h5⟩ := h
  by_cases e : Y = n
  · subst e; exact absurd ⟨h2, c, h3⟩ hn
  · exact ⟨Y, by omega, h2, h3, h4, h5⟩
theorem cand_up {k : Int} (hk : n ≤ k) {a b : Int} {c : Int → Int} (h : cand W m F Wd T S st (fun Y => Y < n) a b c) : cand W m F Wd T S st (fun Y => Y < k) a b c := by
  obtain ⟨Y, h1, h2⟩ := h
  exact ⟨Y, by omega, h2⟩
end BES
