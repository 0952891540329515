/-! one more CHANGE; hands that join -/
def aS (S : Nat → Int → Int) (k : Int) (V : Nat → Int) (w : Nat) (j : Int) : Int := if j = k then V w else S w j
def vS (a b c e f g : Int) (w : Nat) : Int := if w = 0 then a else if w = 1 then b else if w = 2 then c else if w = 3 then e else if w = 4 then f else g
def upL (f : Int → Int64) (i : Int) (v : Int64) (j : Int) : Int64 := if j = i then v else f j
def upI (f : Int → Int) (i v j : Int) : Int := if j = i then v else f j
def bkA (bk : Int → Int) (k dd t c : Int) : Int := if c = k then -1 else if dd = 3 ∧ c = t then k else bk c
abbrev b1 (k : Int) : Int64 := Int64.ofNat 1 <<< ((I k).toInt64 &&& 63)
section ADD
variable {h : aH} {k mk : Int} {S : Nat → Int → Int} {seen saw : Int → Int64} {bk lt : Int → Int} {i dd t x y m : Int}
theorem aS_at {V : Nat → Int} {w : Nat} : aS S k V w k = V w := if_pos rfl
theorem aS_ne {V : Nat → Int} {w : Nat} {j : Int} (hn : ¬ j = k) : aS S k V w j = S w j := if_neg hn
theorem stO_add (hO : StO k S seen saw mk bk lt) (hk : k < 60) (hi : 0 ≤ i ∧ i ≤ 2) (hd : 0 ≤ dd ∧ dd ≤ 3) (ht : 0 ≤ t) (h0 : dd = 0 → t ≤ 5) (h3 : dd = 3 → t < k ∧ S 0 t = i ∧ bk t = -1 ∧ ¬ S 1 t = 3) (h12 : ¬ dd = 3 → t ≤ 11) (hx : 0 ≤ x ∧ x ≤ 19) (hy : 0 ≤ y ∧ y ≤ 19) : StO (k + 1) (aS S k (vS i dd t x y (lt i + 1))) (upL seen i (seen i ||| b1 k)) (upL saw k (seen i)) mk (bkA bk k dd t) (upI lt i (lt i + 1)) := by
  obtain ⟨q1, q2, q3, q4, q5⟩ := hO
  have li := q4 i hi.1 (by omega)
  have lbk : ∀ c, 0 ≤ c → c < 64 → (lb (b1 k) c ↔ c = k) := fun c c0 c1 => by rw [lb_one (by omega) (by omega) c0 c1]
  have sn : ∀ j c, 0 ≤ c → c < 64 → (lb (upL seen i (seen i ||| b1 k) j) c ↔ lb (seen j) c ∨ (j = i ∧ c = k)) := fun j c c0 c1 => by
    unfold upL
    by_cases e : j = i
    · rw [if_pos e, lb_or, lbk c c0 c1, e]
      exact ⟨fun z => z.imp id (fun y => ⟨rfl, y⟩), fun z => z.imp id (fun y => y.2)⟩
    · rw [if_neg e]
      exact ⟨Or.inl, fun z => z.elim id (fun y => absurd y.1 e)⟩
  have S1k : aS S k (vS i dd t x y (lt i + 1)) 1 k = dd := aS_at
  have S2k : aS S k (vS i dd t x y (lt i + 1)) 2 k = t := aS_at
  have S5k : aS S k (vS i dd t x y (lt i + 1)) 5 k = lt i + 1 := aS_at
  have old : ∀ w j, j < k → aS S k (vS i dd t x y (lt i + 1)) w j = S w j := fun w j hj => aS_ne (by omega)
  refine ⟨by omega, fun j j0 j1 => ?_, fun c c0 c1 => ?_, fun a a0 a1 => ?_, fun a a0 a1 j j0 j1 z => ?_⟩
  · by_cases e : j = k
    · subst e
      rw [S1k, S2k, S5k, show aS S j (vS i dd t x y (lt i + 1)) 0 j = i from aS_at, show aS S j (vS i dd t x y (lt i + 1)) 3 j = x from aS_at, show aS S j (vS i dd t x y (lt i + 1)) 4 j = y from aS_at]
      refine ⟨hi.1, hi.2, hd.1, hd.2, ht, h0, fun z => ⟨(h3 z).1, ?_⟩, h12, hx.1, hx.2, hy.1, hy.2, by omega, by omega, (sn i j j0 (by omega)).mpr (Or.inr ⟨rfl, rfl⟩), fun c c0 c1 => ?_⟩
      · rw [old 0 t (h3 z).1]; exact (h3 z).2.1
      · unfold upL; rw [if_pos rfl]; exact q5 i hi.1 (by omega) c c0 c1
    · have a := q2 j j0 (by omega)
      rw [old 0 j (by omega), old 1 j (by omega), old 2 j (by omega), old 3 j (by omega), old 4 j (by omega), old 5 j (by omega)]
      refine ⟨a.1, a.2.1, a.2.2.1, a.2.2.2.1, a.2.2.2.2.1, a.2.2.2.2.2.1, fun z => ?_, a.2.2.2.2.2.2.2.1, a.2.2.2.2.2.2.2.2.1, a.2.2.2.2.2.2.2.2.2.1, a.2.2.2.2.2.2.2.2.2.2.1, a.2.2.2.2.2.2.2.2.2.2.2.1, a.2.2.2.2.2.2.2.2.2.2.2.2.1, a.2.2.2.2.2.2.2.2.2.2.2.2.2.1, ?_, fun c c0 c1 => ?_⟩
      · have := a.2.2.2.2.2.2.1 z
        rw [old 0 (S 2 j) (by omega)]
        exact this
      · exact (sn _ j j0 (by omega)).mpr (Or.inl a.2.2.2.2.2.2.2.2.2.2.2.2.2.2.1)
      · unfold upL; rw [if_neg e]; exact a.2.2.2.2.2.2.2.2.2.2.2.2.2.2.2 c c0 c1
  · have ex3 : ∀ o, 0 ≤ o → o < k + 1 → ((aS S k (vS i dd t x y (lt i + 1)) 1 o = 3 ∧ aS S k (vS i dd t x y (lt i + 1)) 2 o = c) ↔ (o < k ∧ S 1 o = 3 ∧ S 2 o = c) ∨ (o = k ∧ dd = 3 ∧ t = c)) := fun o o0 o1 => by
      by_cases e : o = k
      · subst e; rw [S1k, S2k]
        exact ⟨fun z => Or.inr ⟨rfl, z⟩, fun z => z.elim (fun y => by omega) (fun y => y.2)⟩
      · rw [old 1 o (by omega), old 2 o (by omega)]
        exact ⟨fun z => Or.inl ⟨by omega, z⟩, fun z => z.elim (fun y => y.2) (fun y => absurd y.1 e)⟩
    by_cases e : c = k
    · subst e
      left
      refine ⟨by unfold bkA; rw [if_pos rfl], fun o o0 o1 z => ?_⟩
      rcases (ex3 o o0 o1).mp z with y | y
      · have := (q2 o o0 y.1).2.2.2.2.2.2.1 y.2.1
        omega
      · have := h3 y.2.1
        omega
    · have b := q3 c c0 (by omega)
      by_cases e3 : dd = 3 ∧ c = t
      · right
        have hb : bkA bk k dd t c = k := by unfold bkA; rw [if_neg e, if_pos e3]
        rw [hb, S1k, S2k]
        have bt := (h3 e3.1).2.2.1
        rw [← e3.2] at bt
        refine ⟨by omega, by omega, e3.1, e3.2.symm, fun o o0 o1 z1 z2 => ?_⟩
        rcases (ex3 o o0 o1).mp ⟨z1, z2⟩ with y | y
        · rcases b with b | b
          · exact absurd y.2 (b.2 o o0 y.1)
          · omega
        · exact y.1
      · have hb : bkA bk k dd t c = bk c := by unfold bkA; rw [if_neg e, if_neg e3]
        rw [hb]
        rcases b with b | b
        · left
          refine ⟨b.1, fun o o0 o1 z => ?_⟩
          rcases (ex3 o o0 o1).mp z with y | y
          · exact b.2 o o0 y.1 y.2
          · exact e3 ⟨y.2.1, y.2.2.symm⟩
        · right
          rw [old 1 (bk c) (by omega), old 2 (bk c) (by omega)]
          refine ⟨b.1, by omega, b.2.2.1, b.2.2.2.1, fun o o0 o1 z1 z2 => ?_⟩
          rcases (ex3 o o0 o1).mp ⟨z1, z2⟩ with y | y
          · exact b.2.2.2.2 o o0 y.1 y.2.1 y.2.2
          · exact absurd ⟨y.2.1, y.2.2.symm⟩ e3
  · have la := q4 a a0 a1
    unfold upI
    by_cases e : a = i
    · subst e
      rw [if_pos rfl]
      refine ⟨by omega, by omega, fun o o0 o1 z => ?_, Or.inr ⟨k, by omega, by omega, (sn a k (by omega) (by omega)).mpr (Or.inr ⟨rfl, rfl⟩), S5k⟩⟩
      by_cases eo : o = k
      · subst eo; rw [S5k]; omega
      · rw [old 5 o (by omega)]
        rcases (sn a o o0 (by omega)).mp z with y | y
        · have := la.2.2.1 o o0 (by omega) y; omega
        · exact absurd y.2 eo
    · rw [if_neg e]
      refine ⟨by omega, by omega, fun o o0 o1 z => ?_, la.2.2.2.imp id (fun ⟨o, o0, o1, o2, o3⟩ => ⟨o, o0, by omega, (sn a o o0 (by omega)).mpr (Or.inl o2), by rw [old 5 o o1]; exact o3⟩)⟩
      rcases (sn a o o0 (by omega)).mp z with y | y
      · have ok : o < k := by
          refine Classical.byContradiction (fun c => q5 a a0 a1 o (by omega) (by omega) y)
        rw [old 5 o ok]
        exact la.2.2.1 o o0 ok y
      · exact absurd y.1 e
  · rcases (sn a j (by omega) j1).mp z with y | y
    · exact q5 a a0 a1 j (by omega) j1 y
    · omega
theorem tg_add {V : Nat → Int} (hT : TgO k mk m S) (hV : V 1 = 1 ∨ V 1 = 2 → V 2 < m) : TgO (k + 1) mk m (aS S k V) := by
  intro c c0 c1 hc
  by_cases e : c = k
  · rw [e, aS_at] at hc ⊢; exact hV hc
  · rw [aS_ne e] at hc
    rw [aS_ne e]
    exact hT c c0 (by omega) hc
theorem stO_join (hO : StO k S seen saw mk bk lt) {o : Int} (hi : 0 ≤ i ∧ i ≤ 2) (ho : 0 ≤ o ∧ o ≤ 2) : StO k S (upL seen i (seen i ||| seen o)) saw mk bk (upI lt i (max (lt i) (lt o))) := by
  obtain ⟨q1, q2, q3, q4, q5⟩ := hO
  have sn : ∀ j c, (lb (upL seen i (seen i ||| seen o) j) c ↔ lb (seen j) c ∨ (j = i ∧ lb (seen o) c)) := fun j c => by
    unfold upL
    by_cases e : j = i
    · rw [if_pos e, lb_or, e]
      exact ⟨fun z => z.imp id (fun y => ⟨rfl, y⟩), fun z => z.imp id (fun y => y.2)⟩
    · rw [if_neg e]
      exact ⟨Or.inl, fun z => z.elim id (fun y => absurd y.1 e)⟩
  refine ⟨q1, fun j j0 j1 => ?_, q3, fun a a0 a1 => ?_, fun a a0 a1 j j0 j1 z => ?_⟩
  · have a := q2 j j0 j1
    exact ⟨a.1, a.2.1, a.2.2.1, a.2.2.2.1, a.2.2.2.2.1, a.2.2.2.2.2.1, a.2.2.2.2.2.2.1, a.2.2.2.2.2.2.2.1, a.2.2.2.2.2.2.2.2.1, a.2.2.2.2.2.2.2.2.2.1, a.2.2.2.2.2.2.2.2.2.2.1, a.2.2.2.2.2.2.2.2.2.2.2.1, a.2.2.2.2.2.2.2.2.2.2.2.2.1, a.2.2.2.2.2.2.2.2.2.2.2.2.2.1, (sn _ j).mpr (Or.inl a.2.2.2.2.2.2.2.2.2.2.2.2.2.2.1), a.2.2.2.2.2.2.2.2.2.2.2.2.2.2.2⟩
  · have la := q4 a a0 a1
    have b := q4 o ho.1 (by omega)
    unfold upI
    by_cases e : a = i
    · subst e
      rw [if_pos rfl]
      refine ⟨by omega, by omega, fun c c0 c1 z => ?_, ?_⟩
      · rcases (sn a c).mp z with y | y
        · have := la.2.2.1 c c0 c1 y; omega
        · have := b.2.2.1 c c0 c1 y.2; omega
      · by_cases c : lt o ≤ lt a
        · rw [Int.max_eq_left c]
          exact la.2.2.2.imp id (fun ⟨c, c0, c1, c2, c3⟩ => ⟨c, c0, c1, (sn a c).mpr (Or.inl c2), c3⟩)
        · rw [Int.max_eq_right (by omega)]
          exact b.2.2.2.imp id (fun ⟨c, c0, c1, c2, c3⟩ => ⟨c, c0, c1, (sn a c).mpr (Or.inr ⟨rfl, c2⟩), c3⟩)
    · rw [if_neg e]
      refine ⟨la.1, la.2.1, fun c c0 c1 z => ?_, la.2.2.2.imp id (fun ⟨c, c0, c1, c2, c3⟩ => ⟨c, c0, c1, (sn a c).mpr (Or.inl c2), c3⟩)⟩
      rcases (sn a c).mp z with y | y
      · exact la.2.2.1 c c0 c1 y
      · exact absurd y.1 e
  · rcases (sn a j).mp z with y | y
    · exact q5 a a0 a1 j j0 j1 y
    · exact q5 o ho.1 (by omega) j j0 j1 y.2
end ADD
