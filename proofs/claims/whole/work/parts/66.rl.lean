/-! reading of one LAW, as numbers -/
noncomputable def wishP (T : Int → Int) (n p c : Int) : Int ⊕ (Int × Int × Int) := if tK T n p = 1 ∧ tV T n p = 6 then (if c = 6 then .inl (tS T n p) else if tK T n (tN T n p) = 3 ∧ 1 ≤ tV T n (tN T n p) ∧ tV T n (tN T n p) ≤ 9 then .inr (tV T n (tN T n p), tN T n (tN T n p), c + 1) else .inl (tS T n (tN T n p))) else .inr (0, p, c)
noncomputable def wherP (T : Int → Int) (n p : Int) : Int ⊕ (Int × Int) := if tK T n p = 1 ∧ tV T n p = 7 then (if tK T n (tN T n p) = 3 ∧ 2 ≤ tV T n (tN T n p) ∧ tV T n (tN T n p) ≤ 20 then .inr (tV T n (tN T n p), tN T n (tN T n p)) else .inl (tS T n (tN T n p))) else .inr (0, p)
noncomputable def stopP (T : Int → Int) (n p a b g : Int) : Int ⊕ (Int × Int × Int × Int) := if tK T n p = 4 then .inr (a, b, g, tN T n p) else .inl (tS T n p)
noncomputable def gapP (T : Int → Int) (n p a b wd : Int) : Int ⊕ (Int × Int × Int × Int) := if 2 ≤ wd then (if tK T n p = 3 ∧ 0 ≤ tV T n p ∧ tV T n p ≤ 19 then stopP T n (tN T n p) a b (tV T n p) else .inl (tS T n p)) else stopP T n p a b 0
noncomputable def endsP (T : Int → Int) (n p wd : Int) : Int ⊕ (Int × Int × Int × Int) := if tK T n p = 2 then (if tK T n (tN T n p) = 2 ∧ ¬ tV T n (tN T n p) = tV T n p then gapP T n (tN T n (tN T n p)) (tV T n p) (tV T n (tN T n p)) wd else .inl (tS T n (tN T n p))) else .inl (tS T n p)
/-- FAULT, or: word, A, B, N, WEIGHT, SIZE, where the next LAW begins, wishes -/
noncomputable def rl (T : Int → Int) (n p c : Int) : Int ⊕ (Int × Int × Int × Int × Int × Int × Int × Int) :=
  match wishP T n p c with
  | .inl e => .inl e
  | .inr (wt, p1, c1) => match wherP T n p1 with
    | .inl e => .inl e
    | .inr (wh, p2) => if tK T n p2 = 1 ∧ tV T n p2 ≤ 5 then (match endsP T n (tN T n p2) (tV T n p2) with
      | .inl e => .inl e
      | .inr (a, b, g, p3) => .inr (tV T n p2, a, b, g, wt, wh, p3, c1)) else .inl (tS T n p2)
section RLR
variable {T : Int → Int} {n p c : Int}
theorem tk_r (hO : TxO n T) (h0 : 0 ≤ p) (h1 : p ≤ n) : 0 ≤ tS T n p ∧ tS T n p ≤ n ∧ 0 ≤ tN T n p ∧ tN T n p ≤ n ∧ 0 ≤ tK T n p ∧ tK T n p ≤ 5 ∧ (tK T n p = 1 → 0 ≤ tV T n p ∧ tV T n p ≤ 7) ∧ (tK T n p = 2 → 0 ≤ tV T n p ∧ tV T n p ≤ 5) ∧ (tK T n p = 3 → 0 ≤ tV T n p ∧ tV T n p ≤ 99) ∧ (¬ tK T n p = 0 → p < tN T n p) := by
  have hr := eor_r (T := T) (lo := 32) (hi := 32) h1
  have hn := hO.1
  rw [show eor T n 32 32 p = tS T n p from rfl] at hr
  by_cases c0 : n ≤ tS T n p
  · simp only [tN, tK, if_pos c0]
    exact ⟨by omega, by omega, by omega, by omega, by omega, by omega, fun z => by omega, fun z => by omega, fun z => by omega, fun z => absurd trivial z⟩
  · have ho := hO.2 (tS T n p) (by omega) (by omega)
    by_cases c1 : 97 ≤ T (tS T n p) ∧ T (tS T n p) ≤ 122
    · have er := eor_r (T := T) (n := n) (lo := 97) (hi := 122) (p := tS T n p) (by omega)
      have er1 : tS T n p + 1 ≤ eor T n 97 122 (tS T n p) := by
        rw [eor_y ⟨by omega, c1⟩]; exact (eor_r (by omega)).1
      have wr := wfind_r (T := T) (s := tS T n p) (e := eor T n 97 122 (tS T n p)) 8 (by omega)
      rw [show wfind T (tS T n p) (eor T n 97 122 (tS T n p)) 8 = tWv T n p from rfl] at wr
      simp only [tN, tK, tV, if_neg c0, if_pos c1]
      by_cases c2 : tWv T n p ≤ 7
      · rw [if_pos c2]; omega
      · rw [if_neg c2]; omega
    · by_cases c2 : 48 ≤ T (tS T n p) ∧ T (tS T n p) ≤ 57
      · have er := eor_r (T := T) (n := n) (lo := 48) (hi := 57) (p := tS T n p) (by omega)
        have er1 : tS T n p + 1 ≤ eor T n 48 57 (tS T n p) := by
          rw [eor_y ⟨by omega, c2⟩]; exact (eor_r (by omega)).1
        simp only [tN, tK, tV, if_neg c0, if_neg c1, if_pos c2]
        by_cases c3 : 2 < eor T n 48 57 (tS T n p) - tS T n p ∨ (1 < eor T n 48 57 (tS T n p) - tS T n p ∧ T (tS T n p) = 48)
        · rw [if_pos c3]; omega
        · rw [if_neg c3]
          by_cases c4 : eor T n 48 57 (tS T n p) - tS T n p = 1
          · rw [if_pos c4]; omega
          · have := er.2.2 (tS T n p + 1) (by omega) (by omega)
            rw [if_neg c4]; omega
      · simp only [tN, tK, tV, if_neg c0, if_neg c1, if_neg c2]
        by_cases c3 : 65 ≤ T (tS T n p) ∧ T (tS T n p) ≤ 70
        · rw [if_pos c3]; omega
        · rw [if_neg c3]
          by_cases c4 : T (tS T n p) = 59
          · rw [if_pos c4]; omega
          · rw [if_neg c4]; omega
end RLR
/-- cells but the reader's and one book's -/
def FrD (dr : Nat) (h h' : aH) : Prop := ∀ a, ¬ (a = 1 ∨ (dr ≤ a ∧ a < dr + 7)) → (∀ k, a_fv h' a k = a_fv h a k) ∧ a_ia h' a = a_ia h a ∧ a_la h' a = a_la h a
section FRD
variable {dr : Nat} {h h1 h2 : aH} {a k : Nat} {i : Int}
theorem FrD.id : FrD dr h h := fun _ _ => ⟨fun _ => rfl, rfl, rfl⟩
theorem FrD.t1 (f : FrD dr h h1) (g : Fr 1 2 h1 h2) : FrD dr h h2 := fun a ha => by
  have g := g a (by omega)
  have f := f a ha
  exact ⟨fun k => (g.1 k).trans (f.1 k), g.2.1.trans f.2.1, g.2.2.trans f.2.2⟩
theorem FrD.t2 (f : FrD dr h h1) (g : Fr dr (dr + 7) h1 h2) : FrD dr h h2 := fun a ha => by
  have g := g a (by omega)
  have f := f a ha
  exact ⟨fun k => (g.1 k).trans (f.1 k), g.2.1.trans f.2.1, g.2.2.trans f.2.2⟩
theorem FrD.ag (f : FrD dr h h1) (ha : ¬ (a = 1 ∨ (dr ≤ a ∧ a < dr + 7))) : ga h1 a i = ga h a i := by simp only [ga, (f a ha).2.1]
theorem FrD.fg (f : FrD dr h h1) (ha : ¬ (a = 1 ∨ (dr ≤ a ∧ a < dr + 7))) : gf h1 a k = gf h a k := by simp only [gf, (f a ha).1]
theorem FrD.lg (f : FrD dr h h1) (ha : ¬ (a = 1 ∨ (dr ≤ a ∧ a < dr + 7))) : gl h1 a i = gl h a i := by simp only [gl, (f a ha).2.2]
theorem FrD.fv (f : FrD dr h h1) (ha : ¬ (a = 1 ∨ (dr ≤ a ∧ a < dr + 7))) : a_fv h1 a k = a_fv h a k := (f a ha).1 k
end FRD
