/-! small rows for the law's cases -/
theorem RelM.trc {h : aH} {m : Int} {W : Nat → Int → Int} {k : Int} {S : Nat → Int → Int} {seen saw : Int → Int64} {mk : Int} {n : Int} {F T : Int → Int} {q : Int} {w : Int → Int} {x : Int} {X : Int → Int} {tr tr' : Int64} {v : Int64} (c : RelM h m W k S seen saw mk n F T q w x X tr) (e : v = tr') : RelM (sfl h 73 0 v) m W k S seen saw mk n F T q w x X tr' := by
  have fg : ∀ k, ¬ k = 0 → gf (sfl h 73 0 v) 73 k = gf h 73 k := fun k hk => gf_sfl (Or.inr hk)
  obtain ⟨c1, c2, c3, c4, c5, c6⟩ := c
  refine ⟨⟨(fg 3 (by omega)).trans c1.1, c1.2⟩, ⟨(fg 17 (by omega)).trans c2.1, (fg 16 (by omega)).trans c2.2.1, c2.2.2⟩, ⟨(fg 34 (by omega)).trans c3.1, c3.2⟩, ⟨(fg 38 (by omega)).trans c4.1, c4.2⟩, ⟨(fg 2 (by omega)).trans c5.1, c5.2⟩, gfl_sfl_eq.trans e⟩
theorem lcmp_self {x : Int64} : lg_cmp x x = 0 := by
  unfold lg_cmp
  rw [if_neg (by rw [gt_iff_lt, Int64.lt_iff_toInt_lt]; omega), if_pos rfl]
