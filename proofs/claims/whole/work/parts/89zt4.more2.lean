/-! what changes in both objects -/
section CHG
variable {h h' : aH} {b : Nat} {m : Int} {W : Nat → Int → Int} {k : Int} {S : Nat → Int → Int} {seen saw : Int → Int64} {mk : Int} {bk lt : Int → Int} {n : Int} {F T : Int → Int} {q : Int} {w : Int → Int} {x : Int} {X : Int → Int} {tr : Int64} {i dd t u v : Int}
variable {k' : Int} {S' : Nat → Int → Int} {seen' saw' : Int → Int64} {mk' : Int} {bk' lt' : Int → Int} {n' : Int} {F' T' : Int → Int} {q' : Int} {w' : Int → Int} {x' : Int} {X' : Int → Int}
theorem RelC.frX (c : RelC h b m W k S seen saw mk bk lt n F T q w x X tr) (f : Fr 1 3 h h') (c6 : TxC h' x' X') : RelC h' b m W k S seen saw mk bk lt n F T q w x' X' tr := by
  obtain ⟨c1, c2, c3, c4, c5, _, c7, c8⟩ := c
  exact ⟨(f.fv (by omega)).trans c1, c2.fr f (by omega), c3.fr f (by omega), c4.fr2 f (by omega), c5.frR f (by omega), c6, (f.lfg (by omega)).trans c7, c8.fr f (by omega)⟩
theorem RelC.frW (c : RelC h b m W k S seen saw mk bk lt n F T q w x X tr) (f : Fr 55 57 h h') (c5 : WdC h' q' w') : RelC h' b m W k S seen saw mk bk lt n F T q' w' x X tr := by
  obtain ⟨c1, c2, c3, c4, _, c6, c7, c8⟩ := c
  exact ⟨(f.fv (by omega)).trans c1, c2.fr f (by omega), c3.fr f (by omega), c4.fr2 f (by omega), c5, c6.fr f (by omega), (f.lfg (by omega)).trans c7, c8.fr f (by omega)⟩
theorem RelC.frLn (c : RelC h b m W k S seen saw mk bk lt n F T q w x X tr) (f : Fr 50 54 h h') (c4 : LnC h' n' F' T') : RelC h' b m W k S seen saw mk bk lt n' F' T' q w x X tr := by
  obtain ⟨c1, c2, c3, _, c5, c6, c7, c8⟩ := c
  exact ⟨(f.fv (by omega)).trans c1, c2.fr f (by omega), c3.fr f (by omega), c4, c5.frR f (by omega), c6.fr f (by omega), (f.lfg (by omega)).trans c7, c8.fr f (by omega)⟩
def XSt (a : Nat) : Prop := 3 ≤ a ∧ a < 14
def YSt (a k : Nat) : Prop := a = 24 ∧ k = 2
theorem RelC.frSt (c : RelC h b m W k S seen saw mk bk lt n F T q w x X tr) (f : FrG XSt YSt h h') (c3 : StC h' k' S' seen' saw' mk' bk' lt') (c8 : gf h' 24 2 = -1) : RelC h' b m W k' S' seen' saw' mk' bk' lt' n F T q w x X tr := by
  obtain ⟨c1, c2, _, c4, c5, c6, c7, _⟩ := c
  have ag : ∀ a i, (a < 3 ∨ 14 ≤ a) → ga h' a i = ga h a i := fun a i ha => f.ag (by unfold XSt; omega)
  have fg : ∀ a k, (a < 3 ∨ (14 ≤ a ∧ ¬ a = 24)) → gf h' a k = gf h a k := fun a k ha => f.fg (by unfold XSt; omega) (by unfold YSt; omega)
  refine ⟨(f.fv (by unfold XSt; omega) (by unfold YSt; omega)).trans c1, c2.frG f (fun a _ _ => by unfold XSt; omega) (fun a k _ _ => by unfold YSt; omega), c3, ?_, ?_, ?_, (f.lfg (by unfold XSt; omega) (by unfold YSt; omega)).trans c7, Or.inl c8⟩
  · exact ⟨(fg _ _ (by omega)).trans c4.1, fun i i0 i1 => ⟨(ag _ _ (by omega)).trans (c4.2 i i0 i1).1, (ag _ _ (by omega)).trans (c4.2 i i0 i1).2⟩⟩
  · exact ⟨(fg _ _ (by omega)).trans c5.1, fun i i0 i1 => (ag _ _ (by omega)).trans (c5.2 i i0 i1)⟩
  · exact ⟨(fg _ _ (by omega)).trans c6.1, fun i i0 i1 => (ag _ _ (by omega)).trans (c6.2 i i0 i1)⟩
/-- the reference: all but some rows and one field -/
theorem mg (P : Nat → Prop) (j : Nat) (f : FrG P (fun a k => a = 73 ∧ k = j) h h') : (∀ a i, ¬ P a → ga h' a i = ga h a i) ∧ (∀ a i, ¬ P a → gl h' a i = gl h a i) ∧ (∀ k, ¬ P 73 → ¬ k = j → gf h' 73 k = gf h 73 k) ∧ (¬ P 73 → ¬ 0 = j → gfl h' 73 0 = gfl h 73 0) := ⟨fun a i hn => f.ag hn, fun a i hn => f.lg hn, fun k hn hk => f.fg hn (fun z => hk z.2), fun hn hk => f.lfg hn (fun z => hk z.2)⟩
theorem RelM.frX (c : RelM h m W k S seen saw mk n F T q w x X tr) (f : FrG (fun a => a = 74) (fun a k => a = 73 ∧ k = 2) h h') (c5 : TxM h' x' X') : RelM h' m W k S seen saw mk n F T q w x' X' tr := by
  obtain ⟨c1, c2, c3, c4, _, c6⟩ := c
  obtain ⟨ag, lg, fg, lf⟩ := mg _ _ f
  refine ⟨?_, ?_, ?_, ?_, c5, (lf (by omega) (by omega)).trans c6⟩
  · unfold LwM; simp (disch := omega) only [ag, fg]; exact c1
  · unfold StM; simp (disch := omega) only [ag, fg, lg]; exact c2
  · unfold LnM; simp (disch := omega) only [ag, fg]; exact c3
  · unfold WdM; simp (disch := omega) only [ag, fg]; exact c4
theorem RelM.frW (c : RelM h m W k S seen saw mk n F T q w x X tr) (f : FrG (fun a => a = 97) (fun a k => a = 73 ∧ k = 38) h h') (c4 : WdM h' q' w') : RelM h' m W k S seen saw mk n F T q' w' x X tr := by
  obtain ⟨c1, c2, c3, _, c5, c6⟩ := c
  obtain ⟨ag, lg, fg, lf⟩ := mg _ _ f
  refine ⟨?_, ?_, ?_, c4, ?_, (lf (by omega) (by omega)).trans c6⟩
  · unfold LwM; simp (disch := omega) only [ag, fg]; exact c1
  · unfold StM; simp (disch := omega) only [ag, fg, lg]; exact c2
  · unfold LnM; simp (disch := omega) only [ag, fg]; exact c3
  · unfold TxM; simp (disch := omega) only [ag, fg]; exact c5
theorem RelM.frLn (c : RelM h m W k S seen saw mk n F T q w x X tr) (f : FrG (fun a => a = 94 ∨ a = 95) (fun a k => a = 73 ∧ k = 34) h h') (c3 : LnM h' n' F' T') : RelM h' m W k S seen saw mk n' F' T' q w x X tr := by
  obtain ⟨c1, c2, _, c4, c5, c6⟩ := c
  obtain ⟨ag, lg, fg, lf⟩ := mg _ _ f
  refine ⟨?_, ?_, c3, ?_, ?_, (lf (by omega) (by omega)).trans c6⟩
  · unfold LwM; simp (disch := omega) only [ag, fg]; exact c1
  · unfold StM; simp (disch := omega) only [ag, fg, lg]; exact c2
  · unfold WdM; simp (disch := omega) only [ag, fg]; exact c4
  · unfold TxM; simp (disch := omega) only [ag, fg]; exact c5
theorem RelM.frSt (c : RelM h m W k S seen saw mk n F T q w x X tr) (f : FrG (fun a => 81 ≤ a ∧ a < 89) (fun a k => a = 73 ∧ k = 17) h h') (c2 : StM h' k' S' seen' saw' mk') : RelM h' m W k' S' seen' saw' mk' n F T q w x X tr := by
  obtain ⟨c1, _, c3, c4, c5, c6⟩ := c
  obtain ⟨ag, lg, fg, lf⟩ := mg _ _ f
  refine ⟨?_, c2, ?_, ?_, ?_, (lf (by omega) (by omega)).trans c6⟩
  · unfold LwM; simp (disch := omega) only [ag, fg]; exact c1
  · unfold LnM; simp (disch := omega) only [ag, fg]; exact c3
  · unfold WdM; simp (disch := omega) only [ag, fg]; exact c4
  · unfold TxM; simp (disch := omega) only [ag, fg]; exact c5
theorem FrG.sL {Z : Nat → Prop} {Y : Nat → Nat → Prop} {h h' : aH} {a : Nat} {i : Int} {z : Int64} (g : FrG Z Y h h') (ha : Z a) : FrG Z Y h (sl_ h' a i z) := fun b hb => ⟨(g b hb).1, (g b hb).2.1, by
  rw [sl_, a_la_lall, if_neg (by intro e; subst e; exact hb ha)]; exact (g b hb).2.2⟩
theorem frStAdd : FrG XSt YSt h (stAdd (sf h 24 2 (-1)) i dd t) := ((((((((((FrG.id.sF (Or.inr ⟨rfl, rfl⟩)).sA (by unfold XSt; omega)).sA (by unfold XSt; omega)).sA (by unfold XSt; omega)).sA (by unfold XSt; omega)).sL (by unfold XSt; omega)).sL (by unfold XSt; omega)).sA (by unfold XSt; omega)).sA (by unfold XSt; omega)).sF (Or.inl (by unfold XSt; omega)))
theorem frMAdd {s : Int} : FrG (fun a => 81 ≤ a ∧ a < 89) (fun a k => a = 73 ∧ k = 17) h (mAdd h i dd t u v s) := (((((((((FrG.id.sA (by omega)).sA (by omega)).sA (by omega)).sA (by omega)).sA (by omega)).sA (by omega)).sL (by omega)).sL (by omega)).sF (Or.inr ⟨rfl, rfl⟩))
theorem LayStAdd (hL : Lay h) : Lay (stAdd (sf h 24 2 (-1)) i dd t) := (hL.sF rfl).stAdd
theorem LayMAdd {s : Int} (hL : Lay h) : Lay (mAdd h i dd t u v s) := ((((((((hL.sA (by omega)).sA (by omega)).sA (by omega)).sA (by omega)).sA (by omega)).sA (by omega)).sL).sL).sF rfl
theorem gfStAdd : gf (stAdd (sf h 24 2 (-1)) i dd t) 24 2 = -1 := by
  unfold stAdd
  rw [gf_sf_ne (by omega), gf_sa, gf_sa, gf_sl, gf_sl, gf_sa, gf_sa, gf_sa, gf_sa, gf_sf_eq (by omega) (by omega)]
theorem fr0St (f : FrG XSt YSt h h') : Fr 0 73 h h' := f.fr (fun a z => by unfold XSt at z; omega) (fun a k z => by unfold YSt at z; omega)
theorem bkA_ne (hd : ¬ dd = 3) : bkA bk k dd t = upI bk k (-1) := by
  funext c
  unfold bkA upI
  by_cases e : c = k
  · rw [if_pos e, if_pos e]
  · rw [if_neg e, if_neg e, if_neg (fun z => hd z.1)]
/-- where it was moved to -/
theorem stC_to {s : Int} (q : StC h (k + 1) (aS S k (vS i dd t 0 0 s)) seen saw mk bk lt) (h0 : 0 ≤ k ∧ k < 60) (hu : 0 ≤ u ∧ u ≤ 19) (hv : 0 ≤ v ∧ v ≤ 19) : StC (sa (sa h 7 k u) 8 k v) (k + 1) (aS S k (vS i dd t u v s)) seen saw mk bk lt := by
  obtain ⟨q1, q2, q3, q4, q5⟩ := q
  refine ⟨q1, q2, fun j j0 j1 => ?_, fun j j0 j1 => ?_, fun j j0 j1 => ?_⟩
  · have a := q3 j j0 j1
    simp (disch := omega) only [ga_sa_ne, ga_sa, gl_sa]
    by_cases e : j = k
    · subst e
      unfold aS at a ⊢
      rw [if_pos rfl, if_pos rfl, if_pos rfl, if_pos rfl, if_pos rfl, if_pos rfl] at a
      rw [if_pos rfl, if_pos rfl, if_pos rfl, if_pos rfl, if_pos rfl, if_pos rfl, if_pos rfl, if_pos rfl]
      exact ⟨a.1, a.2.1, a.2.2.1, rfl, rfl, a.2.2.2.2.2.1, a.2.2.2.2.2.2⟩
    · rw [aS_ne e, aS_ne e, aS_ne e, aS_ne e, aS_ne e, aS_ne e] at a
      rw [aS_ne e, aS_ne e, aS_ne e, aS_ne e, aS_ne e, aS_ne e, if_neg e, if_neg e]
      exact a
  · have a := q4 j j0 j1
    simp (disch := omega) only [ga_sa_ne, gl_sa]
    exact a
  · have a := q5 j j0 j1
    simp (disch := omega) only [ga_sa_ne, ga_sa]
    rw [if_neg (by omega), if_neg (by omega)]
    exact a
/-- by which BACK it was taken back -/
theorem stC_bk (q : StC h (k + 1) S seen saw mk (upI bk k (-1)) lt) (h0 : 0 ≤ k ∧ k < 60) (ht : 0 ≤ t ∧ t < k) : StC (sa h 10 t k) (k + 1) S seen saw mk (bkA bk k 3 t) lt := by
  obtain ⟨q1, q2, q3, q4, q5⟩ := q
  refine ⟨q1, q2, fun j j0 j1 => ?_, fun j j0 j1 => ?_, fun j j0 j1 => ?_⟩
  · have a := q3 j j0 j1
    simp (disch := omega) only [ga_sa_ne, ga_sa, gl_sa]
    refine ⟨a.1, a.2.1, a.2.2.1, a.2.2.2.1, a.2.2.2.2.1, a.2.2.2.2.2.1, ?_, a.2.2.2.2.2.2.2⟩
    have z := a.2.2.2.2.2.2.1
    unfold upI at z
    unfold bkA
    by_cases e : j = t
    · rw [if_pos e, if_neg (by omega), if_pos ⟨rfl, e⟩]
    · rw [if_neg e, z]
      by_cases e2 : j = k
      · rw [if_pos e2, if_pos e2]
      · rw [if_neg e2, if_neg e2, if_neg (fun y => e y.2)]
  · have a := q4 j j0 j1
    simp (disch := omega) only [ga_sa_ne, gl_sa]
    exact a
  · have a := q5 j j0 j1
    simp (disch := omega) only [ga_sa_ne]
    exact a
end CHG
