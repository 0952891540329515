/-! SET along one axis in the object: wishes -/
theorem cnt_sur {Q : Int → Prop} : ∀ (n : Nat) (j : Int), 0 ≤ j → j < cnt Q n → ∃ l : Nat, l < n ∧ Q l ∧ cnt Q l = j := by
  intro n
  induction n with
  | zero => intro j h0 h1; simp only [cnt] at h1; omega
  | succ n ih =>
    intro j h0 h1
    simp only [cnt] at h1
    by_cases c : j < cnt Q n
    · obtain ⟨l, a, b, e⟩ := ih j h0 c
      exact ⟨l, by omega, b, e⟩
    · by_cases q : Q n
      · rw [bz_T q] at h1
        exact ⟨n, by omega, q, by omega⟩
      · rw [bz_F q] at h1; omega
theorem cnt_mon {Q : Int → Prop} {n : Nat} : ∀ k, cnt Q n ≤ cnt Q (n + k) := by
  intro k
  induction k with
  | zero => exact Int.le_refl _
  | succ k ih =>
    have := bz_01 (Q ((n + k : Nat) : Int))
    show cnt Q n ≤ cnt Q (n + k) + bz (Q ((n + k : Nat) : Int))
    omega
theorem cnt_mon2 {Q : Int → Prop} {n k : Nat} (h : n ≤ k) : cnt Q n ≤ cnt Q k := by
  obtain ⟨j, rfl⟩ := Nat.exists_eq_add_of_le h
  exact cnt_mon j
theorem cnt_lt2 {Q : Int → Prop} {n k : Nat} (h : n < k) (q : Q n) : cnt Q n < cnt Q k := by
  have := cnt_mon2 (Q := Q) (show n + 1 ≤ k by omega)
  simp only [cnt] at this
  rw [bz_T q] at this
  omega
/-- wishes, in their order -/
def Wsh (m am : Int) (wi : Int → Int) (wc : Int) : Prop := wc = cnt (ib am) m.toNat ∧ wc ≤ 6 ∧ ∀ l : Int, 0 ≤ l → l < m → ib am l → wi (cnt (ib am) l.toNat) = l
noncomputable def yOf (m am ch : Int) : Int := bset (fun l => ib am l ∧ ib ch (cnt (ib am) l.toNat)) m.toNat
noncomputable def wsm (W : Nat → Int → Int) (wi : Int → Int) (ch : Int) : Nat → Int
  | 0 => 0
  | n + 1 => wsm W wi ch n + cif (ib ch n) (W 4 (wi n)) 0
theorem bset_ltz {Q : Int → Prop} {k : Int} : bset Q k.toNat < zbit k := by
  have := bset_lt (Q := Q) (n := k.toNat)
  show bset Q k.toNat < ((2 ^ k.toNat : Nat) : Int)
  exact_mod_cast this
section WSH
variable {W : Nat → Int → Int} {m am wc ch F Wd S : Int} {wi st y : Int → Int} {T : Prop} {P P' : Int → Prop} {n : Int}
theorem Wsh.r (q : Wsh m am wi wc) (hm : 0 ≤ m) {j : Int} (h0 : 0 ≤ j) (h1 : j < wc) : 0 ≤ wi j ∧ wi j < m ∧ ib am (wi j) ∧ cnt (ib am) (wi j).toNat = j := by
  rw [q.1] at h1
  obtain ⟨l, a, b, e⟩ := cnt_sur m.toNat j h0 h1
  have := q.2.2 l (by omega) (by omega) b
  rw [Int.toNat_natCast, e] at this
  rw [this]
  exact ⟨by omega, by omega, b, e⟩
theorem ib_yOf {l : Int} (h0 : 0 ≤ l) : ib (yOf m am ch) l ↔ l < m ∧ ib am l ∧ ib ch (cnt (ib am) l.toNat) := by
  unfold yOf
  rw [ib_bset h0]
  constructor
  · exact fun z => ⟨by omega, z.2⟩
  · exact fun z => ⟨by omega, z.2⟩
theorem wsm_eq (q : Wsh m am wi wc) (hm : 0 ≤ m) : ∀ n : Nat, (n : Int) ≤ m → wsm W wi ch (cnt (ib am) n).toNat = wgt W (yOf m am ch) n := by
  intro n
  induction n with
  | zero => exact fun _ => rfl
  | succ n ih =>
    intro hn
    have ih := ih (by omega)
    have r := cnt_r (Q := ib am) n
    have yi := ib_yOf (m := m) (am := am) (ch := ch) (l := (n : Int)) (by omega)
    simp only [wgt, cnt]
    rw [← ih]
    by_cases c : ib am n
    · have e := q.2.2 n (by omega) (by omega) c
      rw [Int.toNat_natCast] at e yi
      rw [bz_T c, show (cnt (ib am) n + 1).toNat = (cnt (ib am) n).toNat + 1 by omega]
      simp only [wsm]
      rw [show (((cnt (ib am) n).toNat : Nat) : Int) = cnt (ib am) n by omega, e]
      congr 1
      exact cif_congr ⟨fun z => yi.mpr ⟨by omega, c, z⟩, fun z => (yi.mp z).2.2⟩
    · rw [bz_F c, Int.add_zero, cif_neg (fun z => c (yi.mp z).2.1), Int.add_zero]
theorem yOf_sub (hd : ∀ l, 0 ≤ l → l < m → (ib am l ↔ ib Wd l ∧ (tal (W 0 l) ↔ T))) : subW W m Wd T (yOf m am ch) := ⟨bset_0 _, fun l l0 hl => by
  have := (ib_yOf l0).mp hl
  exact ⟨this.1, ((hd l l0 this.1).mp this.2.1).1, ((hd l l0 this.1).mp this.2.1).2⟩⟩
theorem yOf_sur (q : Wsh m am wi wc) (hm : 0 ≤ m) (hd : ∀ l, 0 ≤ l → l < m → (ib am l ↔ ib Wd l ∧ (tal (W 0 l) ↔ T))) {Y : Int} (hY : subW W m Wd T Y) : ∃ ch, 0 ≤ ch ∧ ch < zbit wc ∧ Y = yOf m am ch := by
  have c0 := cnt_r (Q := ib am) m.toNat
  have q1 := q.1
  refine ⟨bset (fun j => ib Y (wi j)) wc.toNat, bset_0 _, bset_ltz, ?_⟩
  refine ib_ext hY.1 (bset_0 _) (fun l l0 => ?_)
  rw [ib_yOf l0]
  constructor
  · intro z
    obtain ⟨h1, h2, h3⟩ := hY.2 l l0 z
    have ha := (hd l l0 h1).mpr ⟨h2, h3⟩
    have e := q.2.2 l l0 h1 ha
    have lt := cnt_lt2 (Q := ib am) (n := l.toNat) (k := m.toNat) (by omega) (by rw [show ((l.toNat : Nat) : Int) = l by omega]; exact ha)
    have r := cnt_r (Q := ib am) l.toNat
    exact ⟨h1, ha, (ib_bset r.1).mpr ⟨by omega, by rw [e]; exact z⟩⟩
  · rintro ⟨h1, h2, h3⟩
    have r := cnt_r (Q := ib am) l.toNat
    have := ((ib_bset r.1).mp h3).2
    rw [q.2.2 l l0 h1 h2] at this
    exact this
theorem hold_iff (q : Wsh m am wi wc) (hm : 0 ≤ m) (hd : ∀ l, 0 ≤ l → l < m → (ib am l ↔ ib Wd l ∧ (tal (W 0 l) ↔ T))) {u : Int → Int} : (satN W (axS W F T m) m u ∧ ∀ j, 0 ≤ j → j < wc → ib ch j → satL W (wi j) u) ↔ satN W (axS W (zor F (yOf m am ch)) T m) m u := by
  constructor
  · rintro ⟨h1, h2⟩ l l0 l1 hl
    have := (ib_axS l0 l1).mp hl
    rw [ib_zor] at this
    rcases this.1 with z | z
    · exact h1 l l0 l1 ((ib_axS l0 l1).mpr ⟨z, this.2⟩)
    · obtain ⟨y1, y2, y3⟩ := (ib_yOf l0).mp z
      have r := cnt_r (Q := ib am) l.toNat
      have lt := cnt_lt2 (Q := ib am) (n := l.toNat) (k := m.toNat) (by omega) (by rw [show ((l.toNat : Nat) : Int) = l by omega]; exact y2)
      have := h2 _ r.1 (by rw [q.1]; exact lt) y3
      rw [q.2.2 l l0 l1 y2] at this
      exact this
  · intro h
    refine ⟨fun l l0 l1 hl => ?_, fun j j0 j1 hj => ?_⟩
    · have := (ib_axS l0 l1).mp hl
      exact h l l0 l1 ((ib_axS l0 l1).mpr ⟨by rw [ib_zor]; exact Or.inl this.1, this.2⟩)
    · obtain ⟨a, b, c, e⟩ := q.r hm j0 j1
      refine h (wi j) a b ((ib_axS a b).mpr ⟨?_, ((hd _ a b).mp c).2⟩)
      rw [ib_zor]
      exact Or.inr ((ib_yOf a).mpr ⟨b, c, by rw [e]; exact hj⟩)
theorem wsm_r (hO : LwO m W) (q : Wsh m am wi wc) : ∀ n : Nat, (n : Int) ≤ wc → 0 ≤ wsm W wi ch n ∧ wsm W wi ch n ≤ 9 * n := by
  intro n
  induction n with
  | zero => exact fun _ => ⟨Int.le_refl _, Int.le_refl _⟩
  | succ n ih =>
    intro hn
    have ih := ih (by omega)
    have r := q.r hO.1.1 (j := (n : Int)) (by omega) (by omega)
    have o := hO.r r.1 r.2.1
    simp only [wsm]
    by_cases c : ib ch n
    · rw [cif_pos c]; omega
    · rw [cif_neg c]; omega
theorem cand_add (hO : LwO m W) (hP : ∀ Y, P' Y → P Y ∨ Y = n) (hy : rs (satN W (axS W (zor F n) T m) m) S st y) {a b : Int} {c : Int → Int} (h : cand W m F Wd T S st P' a b c) : cand W m F Wd T S st P a b c ∨ (a = wgt W n m.toNat ∧ b = dst y st ∧ ∀ p, in6 p → c p = y p) := by
  obtain ⟨Y, h1, h2, h3, h4, h5⟩ := h
  rcases hP Y h1 with e | e
  · exact Or.inl ⟨Y, e, h2, h3, h4, h5⟩
  · subst e
    have u := rs_uniq (satN_lat hO) h3 hy
    exact Or.inr ⟨h4, by rw [h5]; exact dst_congr u, u⟩
theorem cand_sub (hP : ∀ Y, P' Y → P Y ∨ Y = n) (hn : ∀ y, ¬ rs (satN W (axS W (zor F n) T m) m) S st y) {a b : Int} {c : Int → Int} (h : cand W m F Wd T S st P' a b c) : cand W m F Wd T S st P a b c := by
  obtain ⟨Y, h1, h2, h3, h4, h5⟩ := h
  rcases hP Y h1 with e | e
  · exact ⟨Y, e, h2, h3, h4, h5⟩
  · subst e; exact absurd h3 (hn c)
theorem cand_mono (hP : ∀ Y, P Y → P' Y) {a b : Int} {c : Int → Int} (h : cand W m F Wd T S st P a b c) : cand W m F Wd T S st P' a b c := by
  obtain ⟨Y, h1, h2⟩ := h
  exact ⟨Y, hP Y h1, h2⟩
end WSH
/-- the best so far -/
def axI (W : Nat → Int → Int) (m F Wd : Int) (T : Prop) (S : Int) (st : Int → Int) (P : Int → Prop) (h : aH) (b : Nat) : Prop := (gf h b 8 = -1 ∧ ∀ x y z, ¬ cand W m F Wd T S st P x y z) ∨ ((0 ≤ gf h b 8 ∧ gf h b 8 ≤ 108 ∧ 0 ≤ gf h b 9 ∧ gf h b 9 ≤ 1000) ∧ ∃ w, opt (cand W m F Wd T S st P) (gf h b 8) (gf h b 9) w ∧ SA h (b + 7) w)
section AXI
variable {d : Nat} {h h' : aH} {post : Option Value → aH → Prop} {b : Nat} {W : Nat → Int → Int} {m F Wd S : Int} {T : Prop} {st y : Int → Int} {P P' : Int → Prop} {n : Int}
theorem axI_old (hO : LwO m W) (q : axI W m F Wd T S st P h b) (e8 : gf h' b 8 = gf h b 8) (e9 : gf h' b 9 = gf h b 9) (e7 : ∀ p, in6 p → ga h' (b + 7) p = ga h (b + 7) p) (hP1 : ∀ Y, P Y → P' Y) (hP : ∀ Y, P' Y → P Y ∨ Y = n) (hb : ∀ y, rs (satN W (axS W (zor F n) T m) m) S st y → ¬ gf h b 8 = -1 ∧ ∀ w, SA h (b + 7) w → ¬ btr (wgt W n m.toNat) (dst y st) y (gf h b 8) (gf h b 9) w) : axI W m F Wd T S st P' h' b := by
  unfold axI
  rw [e8, e9]
  by_cases c : ∃ y, rs (satN W (axS W (zor F n) T m) m) S st y
  · obtain ⟨y, hy⟩ := c
    obtain ⟨z1, z2⟩ := hb y hy
    rcases q with q | ⟨q1, w, q2, q3⟩
    · exact absurd q.1 z1
    · exact Or.inr ⟨q1, w, opt_old q2 (cand_mono hP1 q2.1) (z2 w q3) (fun _ _ _ k => cand_add hO hP hy k), fun p hp => (e7 p hp).trans (q3 p hp)⟩
  · have hn : ∀ y, ¬ rs (satN W (axS W (zor F n) T m) m) S st y := fun y z => c ⟨y, z⟩
    rcases q with q | ⟨q1, w, q2, q3⟩
    · exact Or.inl ⟨q.1, fun x y z k => q.2 x y z (cand_sub hP hn k)⟩
    · exact Or.inr ⟨q1, w, opt_sub q2 (fun _ _ _ k => cand_sub hP hn k) (cand_mono hP1 q2.1), fun p hp => (e7 p hp).trans (q3 p hp)⟩
theorem axI_new (hO : LwO m W) (q : axI W m F Wd T S st P h b) (e8 : gf h' b 8 = wgt W n m.toNat) (e9 : gf h' b 9 = dst y st) (e7 : SA h' (b + 7) y) (hPn : P' n) (hP : ∀ Y, P' Y → P Y ∨ Y = n) (hs : subW W m Wd T n) (hy : rs (satN W (axS W (zor F n) T m) m) S st y) (hr : 0 ≤ wgt W n m.toNat ∧ wgt W n m.toNat ≤ 108 ∧ 0 ≤ dst y st ∧ dst y st ≤ 1000) (hb : ∀ w, SA h (b + 7) w → ¬ gf h b 8 = -1 → btr (wgt W n m.toNat) (dst y st) y (gf h b 8) (gf h b 9) w) : axI W m F Wd T S st P' h' b := by
  unfold axI
  rw [e8, e9]
  have hc : cand W m F Wd T S st P' (wgt W n m.toNat) (dst y st) y := ⟨n, hPn, hs, hy, rfl, rfl⟩
  refine Or.inr ⟨hr, y, ?_, e7⟩
  rcases q with q | ⟨q1, w, q2, q3⟩
  · exact opt_first hc (fun x1 x2 x3 k => (cand_add hO hP hy k).resolve_left (q.2 x1 x2 x3))
  · exact opt_new q2 hc (hb w q3 (by omega)) (fun _ _ _ k => cand_add hO hP hy k)
end AXI
