/-! SET: what both objects answer -/
noncomputable def sFm (k : Int) (S : Nat → Int → Int) (seen : Int → Int64) (mk : Int) (W : Nat → Int → Int) (m i sz : Int) : Int := bset (fun l => cnP k S seen mk W i sz l ∧ W 4 l = 0) m.toNat
noncomputable def sWs (k : Int) (S : Nat → Int → Int) (seen : Int → Int64) (mk : Int) (W : Nat → Int → Int) (m i sz : Int) : Int := bset (fun l => cnP k S seen mk W i sz l ∧ ¬ W 4 l = 0) m.toNat
def cX (k : Int) (S : Nat → Int → Int) (seen : Int → Int64) (mk : Int) (W : Nat → Int → Int) (m i sz : Int) (T : Prop) (n : Nat) : Int → Int → (Int → Int) → Prop := cand W m (sFm k S seen mk W m i sz) (sWs k S seen mk W m i sz) T sz (stP k S seen i 60 n) (fun _ => True)
def setNo (k : Int) (S : Nat → Int → Int) (seen : Int → Int64) (mk : Int) (W : Nat → Int → Int) (m i sz : Int) : Prop := (∀ x y z, ¬ cX k S seen mk W m i sz False 3 x y z) ∨ ∀ x y z, ¬ cX k S seen mk W m i sz True 4 x y z
def setIs (k : Int) (S : Nat → Int → Int) (seen : Int → Int64) (mk : Int) (W : Nat → Int → Int) (m i sz aw am bw bm : Int) (w u : Int → Int) : Prop := opt (cX k S seen mk W m i sz False 3) aw am w ∧ opt (cX k S seen mk W m i sz True 4) bw bm u
def hldL (W : Nat → Int → Int) (l : Int) (v : Int → Int) : Prop := (stf (W 0 l) → v (W 2 l) - v (W 1 l) = W 3 l) ∧ (¬ stf (W 0 l) → W 3 l ≤ v (W 2 l) - v (W 1 l))
noncomputable def hldS (W : Nat → Int → Int) (m : Int) (Q : Int → Prop) (w u : Int → Int) : Int := bset (fun l => Q l ∧ (tal (W 0 l) → hldL W l u) ∧ (¬ tal (W 0 l) → hldL W l w)) m.toNat
section SEP
variable {k : Int} {S : Nat → Int → Int} {seen saw : Int → Int64} {mk : Int} {bk lt : Int → Int} {W : Nat → Int → Int} {m i sz aw am bw bm aw' am' bw' bm' : Int} {w u w' u' : Int → Int}
theorem setIs_no (h : setIs k S seen mk W m i sz aw am bw bm w u) (n : setNo k S seen mk W m i sz) : False := n.elim (fun z => z _ _ _ h.1.1) (fun z => z _ _ _ h.2.1)
theorem setIs_uniq (h : setIs k S seen mk W m i sz aw am bw bm w u) (h' : setIs k S seen mk W m i sz aw' am' bw' bm' w' u') : aw = aw' ∧ am = am' ∧ bw = bw' ∧ bm = bm' ∧ (∀ p, in6 p → w p = w' p) ∧ ∀ p, in6 p → u p = u' p := by
  obtain ⟨a, b, c⟩ := opt_uniq h.1 h'.1
  obtain ⟨e, f, g⟩ := opt_uniq h.2 h'.2
  exact ⟨a, b, e, f, c, g⟩
theorem hldL_congr (hO : LwO m W) {l : Int} (hl : 0 ≤ l ∧ l < m) (e : ∀ p, in6 p → w p = u p) : hldL W l w ↔ hldL W l u := by
  have o := hO.r hl.1 hl.2
  unfold hldL
  rw [e (W 1 l) (by unfold in6; omega), e (W 2 l) (by unfold in6; omega)]
theorem hldS_congr (hO : LwO m W) {Q : Int → Prop} (e1 : ∀ p, in6 p → w p = w' p) (e2 : ∀ p, in6 p → u p = u' p) : hldS W m Q w u = hldS W m Q w' u' := bset_congr (fun l h0 h1 => by rw [hldL_congr hO ⟨h0, by omega⟩ e1, hldL_congr hO ⟨h0, by omega⟩ e2])
/-- SET of a POINT -/
def setA (k : Int) (S : Nat → Int → Int) (seen : Int → Int64) (mk : Int) (W : Nat → Int → Int) (m i sz p t r : Int) : Prop := (setNo k S seen mk W m i sz ∧ r = -9) ∨ ∃ aw am bw bm w u, setIs k S seen mk W m i sz aw am bw bm w u ∧ r = if t = 0 then w p else u p
theorem setA_uniq {p t r r' : Int} (hp : in6 p) (h : setA k S seen mk W m i sz p t r) (h' : setA k S seen mk W m i sz p t r') : r = r' := by
  rcases h with ⟨a, b⟩ | ⟨_, _, _, _, w, u, a, b⟩ <;> rcases h' with ⟨a', b'⟩ | ⟨_, _, _, _, w', u', a', b'⟩
  · omega
  · exact (setIs_no a' a).elim
  · exact (setIs_no a a').elim
  · obtain ⟨_, _, _, _, e, f⟩ := setIs_uniq a a'
    rw [b, b', e p hp, f p hp]
def aboA (k : Int) (S : Nat → Int → Int) (seen : Int → Int64) (mk : Int) (W : Nat → Int → Int) (m i sz t r : Int) : Prop := (setNo k S seen mk W m i sz ∧ r = -9) ∨ ∃ aw am bw bm w u, setIs k S seen mk W m i sz aw am bw bm w u ∧ r = if t = 0 then aw + bw else if t = 1 then am + bm else hldS W m (cnP k S seen mk W i sz) w u
theorem aboA_uniq (hO : LwO m W) {t r r' : Int} (h : aboA k S seen mk W m i sz t r) (h' : aboA k S seen mk W m i sz t r') : r = r' := by
  rcases h with ⟨a, b⟩ | ⟨_, _, _, _, w, u, a, b⟩ <;> rcases h' with ⟨a', b'⟩ | ⟨_, _, _, _, w', u', a', b'⟩
  · omega
  · exact (setIs_no a' a).elim
  · exact (setIs_no a a').elim
  · obtain ⟨e1, e2, e3, e4, e, f⟩ := setIs_uniq a a'
    rw [b, b', e1, e2, e3, e4, hldS_congr hO e f]
/-- settings lie on the SHEET -/
theorem cX_fea (hO : LwO m W) {T : Prop} {n : Nat} {x y : Int} (h : cX k S seen mk W m i sz T n x y w) : onS sz w := by
  obtain ⟨Y, _, _, h3, _⟩ := h
  exact (rs_fea (satN_lat hO) h3).1
theorem setIs_on (hO : LwO m W) (h : setIs k S seen mk W m i sz aw am bw bm w u) : onS sz w ∧ onS sz u := ⟨cX_fea hO h.1.1, cX_fea hO h.2.1⟩
end SEP
