/-! what both objects hold, together -/
def RelC (h : aH) (b : Nat) (m : Int) (W : Nat → Int → Int) (k : Int) (S : Nat → Int → Int) (seen saw : Int → Int64) (mk : Int) (bk lt : Int → Int) (n : Int) (F T : Int → Int) (q : Int) (w : Int → Int) (x : Int) (X : Int → Int) (tr : Int64) : Prop := a_fv h 0 10 = .ref b ∧ LwC h b m W ∧ StC h k S seen saw mk bk lt ∧ LnC h n F T ∧ WdC h q w ∧ TxC h x X ∧ gfl h 54 2 = tr ∧ CacheC h k S seen mk W m
def RelM (h : aH) (m : Int) (W : Nat → Int → Int) (k : Int) (S : Nat → Int → Int) (seen saw : Int → Int64) (mk : Int) (n : Int) (F T : Int → Int) (q : Int) (w : Int → Int) (x : Int) (X : Int → Int) (tr : Int64) : Prop := LwM h m W ∧ StM h k S seen saw mk ∧ LnM h n F T ∧ WdM h q w ∧ TxM h x X ∧ gfl h 73 0 = tr
def RelO (m : Int) (W : Nat → Int → Int) (k : Int) (S : Nat → Int → Int) (seen saw : Int → Int64) (mk : Int) (bk lt : Int → Int) (n : Int) (F T : Int → Int) (q : Int) (w : Int → Int) (x : Int) (X : Int → Int) : Prop := LwO m W ∧ StO k S seen saw mk bk lt ∧ TgO k mk m S ∧ LnO n F T ∧ WdO q w ∧ TxO x X
def Inv (L : Nat) (h : aH) : Prop := Lay h ∧ a_sh h 1000 = (4, 0, L) ∧ ∃ b m W k S seen saw mk bk lt n F T q w x X tr, RelC h b m W k S seen saw mk bk lt n F T q w x X tr ∧ RelM h m W k S seen saw mk n F T q w x X tr ∧ RelO m W k S seen saw mk bk lt n F T q w x X
section REL
variable {h h' : aH} {b : Nat} {m : Int} {W : Nat → Int → Int} {k : Int} {S : Nat → Int → Int} {seen saw : Int → Int64} {mk : Int} {bk lt : Int → Int} {n : Int} {F T : Int → Int} {q : Int} {w : Int → Int} {x : Int} {X : Int → Int} {tr tr' : Int64} {i dd t u v : Int}
theorem WdC.frR {lo hi : Nat} (c : WdC h q w) (f : Fr lo hi h h') (hc : hi ≤ 55 ∨ 57 ≤ lo) : WdC h' q w := ⟨(f.fg (by omega)).trans c.1, fun i i0 i1 => (f.ag (by omega)).trans (c.2 i i0 i1)⟩
theorem TxC.fr {lo hi : Nat} (c : TxC h x X) (f : Fr lo hi h h') (hc : hi ≤ 1 ∨ 3 ≤ lo) : TxC h' x X := ⟨(f.fg (by omega)).trans c.1, fun i i0 i1 => (f.ag (by omega)).trans (c.2 i i0 i1)⟩
theorem WdM.frR {lo hi : Nat} (c : WdM h q w) (f : Fr lo hi h h') (hc : hi ≤ 73 ∨ 98 ≤ lo) : WdM h' q w := ⟨(f.fg (by omega)).trans c.1, fun i i0 i1 => (f.ag (by omega)).trans (c.2 i i0 i1)⟩
theorem TxM.fr {lo hi : Nat} (c : TxM h x X) (f : Fr lo hi h h') (hc : hi ≤ 73 ∨ 75 ≤ lo) : TxM h' x X := ⟨(f.fg (by omega)).trans c.1, fun i i0 i1 => (f.ag (by omega)).trans (c.2 i i0 i1)⟩
theorem LnM.fr {lo hi : Nat} (c : LnM h n F T) (f : Fr lo hi h h') (hc : hi ≤ 73 ∨ 96 ≤ lo) : LnM h' n F T := ⟨(f.fg (by omega)).trans c.1, fun i i0 i1 => ⟨(f.ag (by omega)).trans (c.2 i i0 i1).1, (f.ag (by omega)).trans (c.2 i i0 i1).2⟩⟩
theorem StM.fr {lo hi : Nat} (c : StM h k S seen saw mk) (f : Fr lo hi h h') (hc : hi ≤ 73 ∨ 89 ≤ lo) : StM h' k S seen saw mk := by
  unfold StM
  simp (disch := omega) only [f.ag, f.fg, f.lg]
  exact c
/-- the reference's calls leave the object -/
theorem RelC.fr (c : RelC h b m W k S seen saw mk bk lt n F T q w x X tr) (f : Fr 73 100 h h') : RelC h' b m W k S seen saw mk bk lt n F T q w x X tr := by
  obtain ⟨c1, c2, c3, c4, c5, c6, c7, c8⟩ := c
  exact ⟨(f.fv (by omega)).trans c1, c2.fr f (by omega), c3.fr f (by omega), c4.fr2 f (by omega), c5.frR f (by omega), c6.fr f (by omega), (f.lfg (by omega)).trans c7, c8.fr f (by omega)⟩
/-- the object's calls leave the reference -/
theorem RelM.fr (c : RelM h m W k S seen saw mk n F T q w x X tr) (f : Fr 0 73 h h') : RelM h' m W k S seen saw mk n F T q w x X tr := by
  obtain ⟨c1, c2, c3, c4, c5, c6⟩ := c
  exact ⟨c1.frB f (by omega), c2.fr f (by omega), c3.fr f (by omega), c4.frR f (by omega), c5.fr f (by omega), (f.lfg (by omega)).trans c6⟩
/-- questions: what they may change in the object -/
theorem RelC.frQ {lo hi : Nat} (c : RelC h b m W k S seen saw mk bk lt n F T q w x X tr) (f : Fr lo hi h h') (hc : (14 ≤ lo ∧ hi ≤ 24) ∨ (45 ≤ lo ∧ hi ≤ 50) ∨ (57 ≤ lo ∧ hi ≤ 59)) : RelC h' b m W k S seen saw mk bk lt n F T q w x X tr := by
  obtain ⟨c1, c2, c3, c4, c5, c6, c7, c8⟩ := c
  exact ⟨(f.fv (by omega)).trans c1, c2.fr f (by omega), c3.fr f (by omega), c4.fr2 f (by omega), c5.frR f (by omega), c6.fr f (by omega), (f.lfg (by omega)).trans c7, c8.fr f (by omega)⟩
theorem RelC.frN (c : RelC h b m W k S seen saw mk bk lt n F T q w x X tr) (f : FrG XN YN h h') : RelC h' b m W k S seen saw mk bk lt n F T q w x X tr := by
  obtain ⟨c1, c2, c3, c4, c5, c6, c7, c8⟩ := c
  have ag : ∀ a i, ¬ XN a → ga h' a i = ga h a i := fun a i hn => f.ag hn
  have fg : ∀ a k, ¬ XN a → gf h' a k = gf h a k := fun a k hn => f.fg hn (by unfold YN; exact id)
  have d0 : ∀ a, (a < 14 ∨ (24 ≤ a ∧ a < 45) ∨ 50 ≤ a) → ¬ XN a := fun a ha z => by unfold XN at z; omega
  refine ⟨(f.fv (d0 _ (by omega)) (by unfold YN; exact id)).trans c1, c2.frN f, c3.frN f, ⟨(fg _ _ (d0 _ (by omega))).trans c4.1, fun i i0 i1 => ⟨(ag _ _ (d0 _ (by omega))).trans (c4.2 i i0 i1).1, (ag _ _ (d0 _ (by omega))).trans (c4.2 i i0 i1).2⟩⟩, ⟨(fg _ _ (d0 _ (by omega))).trans c5.1, fun i i0 i1 => (ag _ _ (d0 _ (by omega))).trans (c5.2 i i0 i1)⟩, ⟨(fg _ _ (d0 _ (by omega))).trans c6.1, fun i i0 i1 => (ag _ _ (d0 _ (by omega))).trans (c6.2 i i0 i1)⟩, (f.lfg (d0 _ (by omega)) (by unfold YN; exact id)).trans c7, ?_⟩
  unfold CacheC SetH SA at *
  simp (disch := (apply d0; omega)) only [ag, fg]
  exact c8
theorem RelC.frS (c : RelC h b m W k S seen saw mk bk lt n F T q w x X tr) (f : Fr 14 45 h h') (c8 : CacheC h' k S seen mk W m) : RelC h' b m W k S seen saw mk bk lt n F T q w x X tr := by
  obtain ⟨c1, c2, c3, c4, c5, c6, c7, _⟩ := c
  exact ⟨(f.fv (by omega)).trans c1, c2.fr f (by omega), c3.fr f (by omega), c4.fr2 f (by omega), c5.frR f (by omega), c6.fr f (by omega), (f.lfg (by omega)).trans c7, c8⟩
theorem RelC.frL (c : RelC h b m W k S seen saw mk bk lt n F T q w x X tr) (f : Fr 50 54 h h') (c4 : LnC h' n F T) : RelC h' b m W k S seen saw mk bk lt n F T q w x X tr := by
  obtain ⟨c1, c2, c3, _, c5, c6, c7, c8⟩ := c
  exact ⟨(f.fv (by omega)).trans c1, c2.fr f (by omega), c3.fr f (by omega), c4, c5.frR f (by omega), c6.fr f (by omega), (f.lfg (by omega)).trans c7, c8.fr f (by omega)⟩
theorem RelC.frT (c : RelC h b m W k S seen saw mk bk lt n F T q w x X tr) (f : Fr 54 55 h h') (c7 : gfl h' 54 2 = tr') : RelC h' b m W k S seen saw mk bk lt n F T q w x X tr' := by
  obtain ⟨c1, c2, c3, c4, c5, c6, _, c8⟩ := c
  exact ⟨(f.fv (by omega)).trans c1, c2.fr f (by omega), c3.fr f (by omega), c4.fr2 f (by omega), c5.frR f (by omega), c6.fr f (by omega), c7, c8.fr f (by omega)⟩
def XMQ (a : Nat) : Prop := (89 ≤ a ∧ a ≤ 93) ∨ a = 96 ∨ a = 98 ∨ a = 99
theorem RelM.frQ (c : RelM h m W k S seen saw mk n F T q w x X tr) (f : FrG XMQ YM h h') : RelM h' m W k S seen saw mk n F T q w x X tr := by
  obtain ⟨c1, c2, c3, c4, c5, c6⟩ := c
  have ag : ∀ a i, (a < 89 ∨ a = 94 ∨ a = 95 ∨ a = 97) → ga h' a i = ga h a i := fun a i ha => f.ag (by unfold XMQ; omega)
  have lg : ∀ a i, (a < 89 ∨ a = 94 ∨ a = 95 ∨ a = 97) → gl h' a i = gl h a i := fun a i ha => f.lg (by unfold XMQ; omega)
  have fg : ∀ k, ¬ (k = 27 ∨ k = 31 ∨ k = 32) → gf h' 73 k = gf h 73 k := fun k hk => f.fg (by unfold XMQ; omega) (by unfold YM; omega)
  refine ⟨?_, ?_, ?_, ?_, ?_, (f.lfg (by unfold XMQ; omega) (by unfold YM; omega)).trans c6⟩
  · unfold LwM; simp (disch := omega) only [ag, fg]; exact c1
  · unfold StM; simp (disch := omega) only [ag, fg, lg]; exact c2
  · unfold LnM; simp (disch := omega) only [ag, fg]; exact c3
  · unfold WdM; simp (disch := omega) only [ag, fg]; exact c4
  · unfold TxM; simp (disch := omega) only [ag, fg]; exact c5
theorem RelM.frM (c : RelM h m W k S seen saw mk n F T q w x X tr) (f : FrG XM YM h h') : RelM h' m W k S seen saw mk n F T q w x X tr := c.frQ (f.mono (fun a z => Or.inl z) (fun _ _ z => z))
theorem fr73 (f : FrG XMQ YM h h') : Fr 73 100 h h' := f.fr (fun a z => by unfold XMQ at z; omega) (fun a k z => by unfold YM at z; omega)
theorem fr73M (f : FrG XM YM h h') : Fr 73 100 h h' := f.fr (fun a z => by unfold XM at z; omega) (fun a k z => by unfold YM at z; omega)
theorem fr0N (f : FrG XN YN h h') : Fr 0 73 h h' := f.fr (fun a z => by unfold XN at z; omega) (fun a k z => z.elim)
theorem FrG.sFL {X : Nat → Prop} {Y : Nat → Nat → Prop} {h h' : aH} {a k : Nat} {z : Int64} (g : FrG X Y h h') (ha : X a ∨ Y a k) : FrG X Y h (sfl h' a k z) := fun b hb => ⟨fun j hj => by
  rw [fv_sfl_ne (by
    by_cases c : b = a
    · subst c; exact Or.inr (by intro e; subst e; exact ha.elim hb hj)
    · exact Or.inl c)]
  exact (g b hb).1 j hj, (g b hb).2.1, (g b hb).2.2⟩
/-! one more CHANGE -/
theorem stC_add (hS : StC h k S seen saw mk bk lt) (hO : StO k S seen saw mk bk lt) (hk : k < 60) (hi : 0 ≤ i ∧ i ≤ 2) (hd : 0 ≤ dd ∧ dd ≤ 3) (ht : 0 ≤ t ∧ t < 60) (hh : h' = stAdd (sf h 24 2 (-1)) i dd t) : StC h' (k + 1) (aS S k (vS i dd t 0 0 (lt i + 1))) (upL seen i (seen i ||| b1 k)) (upL saw k (seen i)) mk (upI bk k (-1)) (upI lt i (lt i + 1)) := by
  have k0 := hO.1
  have e0 : gf (sf h 24 2 (-1)) 3 10 = k := (gf_sf_ne (by omega)).trans hS.n
  have l := hS.l hi.1 (show i < 3 by omega)
  have li := hO.2.2.2.1 i hi.1 (by omega)
  have v := hS.v hi.1 (show i < 3 by omega)
  subst hh
  unfold stAdd
  simp only [e0, ga_sf, gl_sf, l, v]
  refine ⟨?_, ?_, fun j j0 j1 => ?_, fun j j0 j1 => ?_, fun j j0 j1 => ?_⟩
  · rw [gf_sf_eq (by omega) (by omega)]
  · rw [gf_sf_ne (by omega), gf_sa, gf_sa, gf_sl, gf_sl, gf_sa, gf_sa, gf_sa, gf_sa, gf_sf_ne (by omega)]; exact hS.m
  · by_cases e : j = k
    · subst e
      simp (disch := omega) only [ga_sf, ga_sa_ne, ga_sa, ga_sl, gl_sf, gl_sa, gl_sl_ne, gl_sl, if_true]
      have tz := hS.2.2.2.2 j (by omega) (by omega)
      unfold aS
      rw [if_pos rfl, if_pos rfl, if_pos rfl, if_pos rfl, if_pos rfl, if_pos rfl]
      exact ⟨rfl, rfl, rfl, tz.1, tz.2, rfl, (if_pos rfl).symm, (if_pos rfl).symm⟩
    · have a := hS.2.2.1 j j0 (by omega)
      simp (disch := omega) only [ga_sf, ga_sa_ne, ga_sa, ga_sl, gl_sf, gl_sa, gl_sl_ne, gl_sl, if_neg e, aS_ne e, upI, upL]
      exact a
  · have a := hS.2.2.2.1 j j0 j1
    unfold upL upI
    simp (disch := omega) only [ga_sf, ga_sa_ne, ga_sa, ga_sl, gl_sf, gl_sa, gl_sl_ne, gl_sl]
    by_cases e : j = i
    · rw [if_pos e, if_pos e, if_pos e, if_pos e]; exact ⟨rfl, rfl⟩
    · rw [if_neg e, if_neg e, if_neg e, if_neg e]; exact a
  · have a := hS.2.2.2.2 j (by omega) j1
    simp (disch := omega) only [ga_sf, ga_sa_ne, ga_sa, ga_sl]
    exact a
theorem stM_add (hS : StM h k S seen saw mk) (hO : StO k S seen saw mk bk lt) (hk : k < 60) (hi : 0 ≤ i ∧ i ≤ 2) (hd : 0 ≤ dd ∧ dd ≤ 3) (ht : 0 ≤ t ∧ t < 60) (hu : 0 ≤ u ∧ u ≤ 19) (hv : 0 ≤ v ∧ v ≤ 19) : StM (mAdd h i dd t u v (lt i + 1)) (k + 1) (aS S k (vS i dd t u v (lt i + 1))) (upL seen i (seen i ||| b1 k)) (upL saw k (seen i)) mk := by
  have k0 := hO.1
  have e0 : gf h 73 17 = k := hS.n
  have li := hO.2.2.2.1 i hi.1 (by omega)
  have vv := hS.v hi.1 (show i < 3 by omega)
  unfold mAdd
  simp only [e0, vv]
  refine ⟨?_, ?_, fun j j0 j1 => ?_, fun j j0 j1 => ?_⟩
  · rw [gf_sf_eq (by omega) (by omega)]
  · rw [gf_sf_ne (by omega), gf_sl, gf_sl, gf_sa, gf_sa, gf_sa, gf_sa, gf_sa, gf_sa]; exact hS.m
  · by_cases e : j = k
    · subst e
      simp (disch := omega) only [ga_sf, ga_sa_ne, ga_sa, ga_sl, gl_sf, gl_sa, gl_sl_ne, gl_sl, if_true]
      unfold aS
      rw [if_pos rfl, if_pos rfl, if_pos rfl, if_pos rfl, if_pos rfl, if_pos rfl]
      exact ⟨rfl, rfl, rfl, rfl, rfl, rfl, (if_pos rfl).symm⟩
    · have a := hS.2.2.1 j j0 (by omega)
      simp (disch := omega) only [ga_sf, ga_sa_ne, ga_sa, ga_sl, gl_sf, gl_sa, gl_sl_ne, gl_sl, if_neg e, aS_ne e, upL]
      exact a
  · have a := hS.2.2.2 j j0 j1
    unfold upL
    simp (disch := omega) only [gl_sf, gl_sa, gl_sl_ne, gl_sl]
    by_cases e : j = i
    · rw [if_pos e, if_pos e]
    · rw [if_neg e, if_neg e]; exact a
end REL
