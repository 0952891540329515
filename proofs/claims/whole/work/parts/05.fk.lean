/-! R as a fixed point, forks as 'fk', truth values as ints, evaluation as rewriting -/
theorem a_pst_mono {P Q : aP} (hp : a_mono P) (hq : a_mono Q) : a_mono (a_pst P Q) := by
  intro d ce sl y pc lv st h p1 p2 hp12
  unfold a_pst
  rcases a_step d ce sl y pc lv st h with _ | (q | q | q | q)
  · exact id
  · exact fun k => ⟨k.1, hp _ _ _ _ _ _ _ _ _ _ hp12 k.2⟩
  · exact fun k => ⟨fun c => hq _ _ _ _ _ _ _ _ _ _ hp12 (k.1 c), fun c => hq _ _ _ _ _ _ _ _ _ _ hp12 (k.2 c)⟩
  · exact fun k => ⟨k.1, hq _ _ _ _ _ _ _ _ _ _ (fun r h' z => hq _ _ _ _ _ _ _ _ _ _ hp12 z) k.2⟩
  · exact fun k => ⟨k.1, hp12 _ _ k.2⟩
theorem R_open : ∀ d ce sl y pc lv st h post, R d ce sl y pc lv st h post → a_pst R R d ce sl y pc lv st h post := by
  intro d ce sl y pc lv st h post k
  refine k (a_pst R R) (a_pst_mono R_mono R_mono) ?_
  intro d ce sl y pc lv st h post k
  exact a_pst_le (fun _ _ _ _ _ _ _ _ _ z => R_closed _ _ _ _ _ _ _ _ _ z) (fun _ _ _ _ _ _ _ _ _ z => R_closed _ _ _ _ _ _ _ _ _ z) R_mono _ _ _ _ _ _ _ _ _ k
theorem R_fix : a_pst R R = R := by
  funext d ce sl y pc lv st h post
  exact propext ⟨R_closed _ _ _ _ _ _ _ _ _, R_open _ _ _ _ _ _ _ _ _⟩
theorem ev_eq : ∀ n, ev n = R := by
  intro n
  induction n with
  | zero => rfl
  | succ n ih => show a_pst (ev n) R = R; rw [ih]; exact R_fix
theorem rr {d ce sl y pc : Nat} {lv st : List Value} {h : aH} {post : Option Value → aH → Prop} {B : Prop} (e : ev 1 d ce sl y pc lv st h post = B) : R d ce sl y pc lv st h post = B := by
  rw [← e, ev_eq]
/-- the machine comes to one end -/
theorem R_det {d ce sl y pc : Nat} {lv st : List Value} {h : aH} {p1 p2 : Option Value → aH → Prop} (k1 : R d ce sl y pc lv st h p1) (k2 : R d ce sl y pc lv st h p2) : ∃ r h', p1 r h' ∧ p2 r h' := by
  have key := k1 (fun d ce sl y pc lv st h p => ∀ p2, R d ce sl y pc lv st h p2 → ∃ r h', p r h' ∧ p2 r h') ?_ ?_
  · exact key p2 k2
  · intro d ce sl y pc lv st h q1 q2 h12 k p2 hr
    obtain ⟨r, h', a, b⟩ := k p2 hr
    exact ⟨r, h', h12 _ _ a, b⟩
  · intro d ce sl y pc lv st h p k p2 hr
    have hr := R_open _ _ _ _ _ _ _ _ _ hr
    unfold a_pst at k hr
    revert k hr
    rcases a_step d ce sl y pc lv st h with _ | (q | q | q | q)
    · exact fun k => k.elim
    · exact fun k hr => k.2 _ hr.2
    · intro k hr
      by_cases c : q.1
      · exact k.1 c _ (hr.1 c)
      · exact k.2 c _ (hr.2 c)
    · intro k hr
      obtain ⟨r, h', a, b⟩ := k.2 _ hr.2
      exact a _ b
    · exact fun k hr => ⟨_, _, k.2, hr.2⟩
theorem R_is {d ce sl y pc : Nat} {lv st : List Value} {h : aH} {r0 : Option Value} {h0 : aH} (k : R d ce sl y pc lv st h (fun r h' => r = r0 ∧ h' = h0)) (post : Option Value → aH → Prop) : R d ce sl y pc lv st h post = post r0 h0 := by
  refine propext ⟨fun z => ?_, fun z => R_mono _ _ _ _ _ _ _ _ _ _ (fun r h' e => by obtain ⟨rfl, rfl⟩ := e; exact z) k⟩
  obtain ⟨r, h', a, rfl, rfl⟩ := R_det z k
  exact a
/-- a fork -/
def fk (c A B : Prop) : Prop := (c → A) ∧ (¬ c → B)
section FK
variable {a b c A B C X Y : Prop}
theorem fk_T : fk True A B = A := by simp [fk]
theorem fk_F : fk False A B = B := by simp [fk]
theorem fk_pos (hc : c) : fk c A B = A := by simp [fk, hc]
theorem fk_neg (hc : ¬ c) : fk c A B = B := by simp [fk, hc]
theorem fk_same : fk c A A = A := by by_cases hc : c <;> simp [fk, hc]
theorem fk_not : fk (¬ c) A B = fk c B A := by by_cases hc : c <;> simp [fk, hc]
theorem fk_and : fk a (fk b X Y) Y = fk (a ∧ b) X Y := by by_cases ha : a <;> by_cases hb : b <;> simp [fk, ha, hb]
theorem fk_andn : fk a (fk b Y X) Y = fk (a ∧ ¬ b) X Y := by by_cases ha : a <;> by_cases hb : b <;> simp [fk, ha, hb]
theorem fk_nand : fk a Y (fk b X Y) = fk (¬ a ∧ b) X Y := by by_cases ha : a <;> by_cases hb : b <;> simp [fk, ha, hb]
theorem fk_or : fk a X (fk b X Y) = fk (a ∨ b) X Y := by by_cases ha : a <;> by_cases hb : b <;> simp [fk, ha, hb]
theorem fk_congr {c' A' B' : Prop} (h1 : c = c') (h2 : c' → A = A') (h3 : ¬ c' → B = B') : fk c A B = fk c' A' B' := by
  subst h1
  by_cases hc : c
  · simp [fk, hc, h2 hc]
  · simp [fk, hc, h3 hc]
theorem fk_cs (h1 : c → A = C) (h2 : ¬ c → B = C) : fk c A B = C := by
  by_cases hc : c
  · simp [fk, hc, h1 hc]
  · simp [fk, hc, h2 hc]
end FK
/-- truth as an int -/
noncomputable def bz (p : Prop) : Int := @ite Int p (Classical.propDecidable p) 1 0
theorem bz_T {p : Prop} (hp : p) : bz p = 1 := by simp [bz, hp]
theorem bz_F {p : Prop} (hp : ¬ p) : bz p = 0 := by simp [bz, hp]
theorem bz_True : bz True = 1 := bz_T trivial
theorem bz_False : bz False = 0 := bz_F id
theorem bz_01 (p : Prop) : 0 ≤ bz p ∧ bz p ≤ 1 := by by_cases hp : p <;> simp [bz, hp]
theorem fk_bz {c : Prop} (f : Int → Prop) : fk c (f 1) (f 0) = f (bz c) := by by_cases hc : c <;> simp [fk, bz, hc]
theorem fk_zb {c : Prop} (f : Int → Prop) : fk c (f 0) (f 1) = f (bz (¬ c)) := by by_cases hc : c <;> simp [fk, bz, hc]
theorem fk_ite {T : Type} {c : Prop} {x y : T} (f : T → Prop) : fk c (f x) (f y) = f (@ite T c (Classical.propDecidable c) x y) := by by_cases hc : c <;> simp [fk, hc]
def imax (z x : Int32) : Int32 := if z < x then x else z
def imin (z x : Int32) : Int32 := if x < z then x else z
def iabs (x : Int32) : Int32 := if x < 0 then -x else x
