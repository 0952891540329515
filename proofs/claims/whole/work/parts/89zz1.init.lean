/-! what the two objects hold at first -/
def isRf (v : Value) (r : Nat) : Bool := match v with
  | .ref x => Nat.beq x r
  | _ => false
def isNm (v : Value) (z : Int32) : Bool := match v with
  | .int x => x == z
  | _ => false
def isLg (v : Value) : Bool := match v with
  | .long x => x == 0
  | _ => false
theorem isRf_e {v : Value} {r : Nat} (e : isRf v r = true) : v = .ref r := by
  unfold isRf at e
  split at e
  · exact congrArg Value.ref (Nat.eq_of_beq_eq_true e)
  · cases e
theorem isNm_e {v : Value} {z : Int32} (e : isNm v z = true) : v = .int z := by
  unfold isNm at e
  split at e
  · exact congrArg Value.int (eq_of_beq e)
  · cases e
theorem isLg_e {v : Value} (e : isLg v = true) : v = .long 0 := by
  unfold isLg at e
  split at e
  · exact congrArg Value.long (eq_of_beq e)
  · cases e
theorem w_sh : ∀ a, a < 100 → a_sh hW a = a_shp a := by decide +kernel
theorem w_ptr : a_ptrL.all (fun e => isRf (a_fv hW e.1 e.2.1) e.2.2) = true := by decide +kernel
theorem w_int : a_intL.all (fun e => isNm (a_fv hW e.1 e.2) (if e.1 = 24 ∧ e.2 = 2 then -1 else 0)) = true := by decide +kernel
theorem w_more : (isRf (a_fv hW 0 10) 59 && isRf (a_fv hW 0 11) 66 && isRf (a_fv hW 47 0) 48 && isRf (a_fv hW 47 1) 49 && isLg (a_fv hW 54 2) && isLg (a_fv hW 73 0)) = true := by decide +kernel
theorem w_ia : (List.range 60).all (fun j => a_ia hW 7 j == 0 && a_ia hW 8 j == 0 && a_ia hW 13 j == 0) = true := by decide +kernel
theorem w_la : (List.range 3).all (fun j => a_la hW 12 j == 0 && a_la hW 88 j == 0) = true := by decide +kernel
section INI
variable {L : Nat} {xs : Nat → Int32}
theorem ov_fv {h : aH} : a_fv (ov L xs h) = a_fv h := rfl
theorem ov_la {h : aH} : a_la (ov L xs h) = a_la h := rfl
theorem ov_sh {h : aH} {a : Nat} : a_sh (ov L xs h) a = if a < 1000 then a_sh h a else a_xsh L a := rfl
theorem ov_ia {h : aH} {a : Nat} : a_ia (ov L xs h) a = if a < 1000 then a_ia h a else a_xia xs a := rfl
theorem w_gf {a k : Nat} (hi : a_isI a k = true) : a_fv (ov L xs hW) a k = .int (if a = 24 ∧ k = 2 then -1 else 0) := by
  rw [ov_fv]
  exact isNm_e (List.all_eq_true.mp w_int _ (a_isI_mem hi))
theorem w_g0 {a k : Nat} (hi : a_isI a k = true) (hn : ¬ (a = 24 ∧ k = 2)) : gf (ov L xs hW) a k = 0 := by
  unfold gf
  rw [w_gf hi, if_neg hn]
  rfl
theorem ini_lay : Lay (ov L xs hW) := by
  have wm := w_more
  simp only [Bool.and_eq_true] at wm
  obtain ⟨⟨⟨⟨⟨m1, m2⟩, m3⟩, m4⟩, m5⟩, m6⟩ := wm
  have f54 : a_fv (ov L xs hW) 54 2 = .long 0 := by rw [ov_fv]; exact isLg_e m5
  have f73 : a_fv (ov L xs hW) 73 0 = .long 0 := by rw [ov_fv]; exact isLg_e m6
  have p1 : a_fv (ov L xs hW) 0 10 = .ref 59 := by rw [ov_fv]; exact isRf_e m1
  have p2 : a_fv (ov L xs hW) 0 11 = .ref 66 := by rw [ov_fv]; exact isRf_e m2
  have p3 : a_fv (ov L xs hW) 47 0 = .ref 48 := by rw [ov_fv]; exact isRf_e m3
  have p4 : a_fv (ov L xs hW) 47 1 = .ref 49 := by rw [ov_fv]; exact isRf_e m4
  refine ⟨fun a ha => ?_, fun a k hk => ?_, fun a k hk => ?_, ?_, ?_, Or.inl ⟨p1, p2⟩, Or.inl ⟨p3, p4⟩, fun a ha => ⟨?_, ?_⟩⟩
  · rw [ov_sh]
    rw [if_pos (by omega)]
    exact w_sh a ha
  · have hk2 := hk
    unfold a_ptr at hk2 ⊢
    cases hf : a_ptrL.find? (fun e => e.1 == a && e.2.1 == k) with
    | none => rw [hf] at hk2; cases hk2
    | some e =>
      have he := List.mem_of_find?_eq_some hf
      have hp := List.find?_some hf
      simp only [Bool.and_eq_true, beq_iff_eq] at hp
      have := isRf_e (List.all_eq_true.mp w_ptr _ he)
      rw [hp.1, hp.2] at this
      rw [ov_fv]
      exact this
  · rw [w_gf hk]
    unfold gf
    rw [w_gf hk]
    by_cases c : a = 24 ∧ k = 2
    · rw [if_pos c]; rfl
    · rw [if_neg c]; rfl
  · unfold gfl; rw [f54]
  · unfold gfl; rw [f73]
  · rw [ov_sh]
    rw [if_neg (show ¬ a < 1000 by omega)]
    unfold a_xsh
    rw [if_neg (show ¬ a = 1000 by omega), if_neg (show ¬ a = 1000 by omega)]
  · rw [ov_ia]
    rw [if_neg (show ¬ a < 1000 by omega)]
    funext j
    unfold a_xia
    rw [if_neg (show ¬ a = 1000 by omega), if_neg (show ¬ a = 1000 by omega)]
theorem ini_ia {a : Nat} {j : Int} (ha : a = 7 ∨ a = 8 ∨ a = 13) (h0 : 0 ≤ j) (h1 : j < 60) : ga (ov L xs hW) a j = 0 := by
  have e := List.all_eq_true.mp w_ia j.toNat (List.mem_range.mpr (by omega))
  simp only [Bool.and_eq_true, beq_iff_eq] at e
  have z : a_ia hW a j.toNat = 0 := by
    rcases ha with rfl | rfl | rfl
    · exact e.1.1
    · exact e.1.2
    · exact e.2
  unfold ga
  rw [ov_ia, if_pos (by omega), z]
  rfl
theorem ini_la {a : Nat} {j : Int} (ha : a = 12 ∨ a = 88) (h0 : 0 ≤ j) (h1 : j < 3) : gl (ov L xs hW) a j = 0 := by
  have e := List.all_eq_true.mp w_la j.toNat (List.mem_range.mpr (by omega))
  simp only [Bool.and_eq_true, beq_iff_eq] at e
  unfold gl
  rw [ov_la]
  rcases ha with rfl | rfl
  · exact e.1
  · exact e.2
theorem ini_inv : Inv L (ov L xs hW) := by
  have wm := w_more
  simp only [Bool.and_eq_true] at wm
  obtain ⟨⟨⟨⟨⟨m1, m2⟩, m3⟩, m4⟩, m5⟩, m6⟩ := wm
  have f54 : gfl (ov L xs hW) 54 2 = 0 := by unfold gfl; rw [ov_fv, isLg_e m5]
  have f73 : gfl (ov L xs hW) 73 0 = 0 := by unfold gfl; rw [ov_fv, isLg_e m6]
  have p1 : a_fv (ov L xs hW) 0 10 = .ref 59 := by rw [ov_fv]; exact isRf_e m1
  have h24 : gf (ov L xs hW) 24 2 = -1 := by unfold gf; rw [w_gf rfl, if_pos ⟨rfl, rfl⟩]; rfl
  refine ⟨ini_lay, ?_, 59, 0, fun _ _ => 0, 0, fun _ _ => 0, fun _ => 0, fun _ => 0, 0, fun _ => -1, fun _ => 0, 0, fun _ => 0, fun _ => 0, 0, fun _ => 0, 0, fun _ => 0, 0, ?_, ?_, ?_⟩
  · rw [ov_sh, if_neg (by omega)]
    unfold a_xsh
    rw [if_pos rfl]
  · refine ⟨p1, ⟨Or.inl rfl, w_g0 rfl (by omega), fun i i0 i1 => by omega, w_g0 rfl (by omega), w_g0 rfl (by omega), w_g0 rfl (by omega)⟩, ⟨w_g0 rfl (by omega), w_g0 rfl (by omega), fun i i0 i1 => by omega, fun i i0 i1 => ⟨ini_la (Or.inl rfl) i0 i1, ini_ia (Or.inr (Or.inr rfl)) i0 (by omega)⟩, fun i i0 i1 => ⟨ini_ia (Or.inl rfl) (by omega) i1, ini_ia (Or.inr (Or.inl rfl)) (by omega) i1⟩⟩, ⟨w_g0 rfl (by omega), fun i i0 i1 => by omega⟩, ⟨w_g0 rfl (by omega), fun i i0 i1 => by omega⟩, ⟨w_g0 rfl (by omega), fun i i0 i1 => by omega⟩, f54, Or.inl h24⟩
  · exact ⟨⟨w_g0 rfl (by omega), fun i i0 i1 => by omega⟩, ⟨w_g0 rfl (by omega), w_g0 rfl (by omega), fun i i0 i1 => by omega, fun i i0 i1 => ini_la (Or.inr rfl) i0 i1⟩, ⟨w_g0 rfl (by omega), fun i i0 i1 => by omega⟩, ⟨w_g0 rfl (by omega), fun i i0 i1 => by omega⟩, ⟨w_g0 rfl (by omega), fun i i0 i1 => by omega⟩, f73⟩
  · refine ⟨⟨by omega, fun i i0 i1 => by omega, by show (0 : Int) ≤ 6; omega⟩, ⟨by omega, fun i i0 i1 => by omega, fun i i0 i1 => by omega, fun i i0 i1 => ⟨Int.le_refl 0, Int.le_refl 0, fun o o0 o1 => by omega, Or.inl rfl⟩, fun i i0 i1 j j0 j1 z => by rw [lb_0] at z; exact z⟩, fun c c0 c1 => by omega, ⟨by omega, fun i i0 i1 => by omega⟩, ⟨by omega, fun i i0 i1 => by omega⟩, ⟨by omega, fun i i0 i1 => by omega⟩⟩
theorem law_all {d : Nat} (hL : L ≤ 2560) : R (d + 13) 0 0 262 0 [.ref 1000, .null, .null, .null] [] (ov L xs hN) (fun r _ => r = some (.int 1)) := by
  rw [law_start (d := d + 8)]
  exact law_loop hL (L + 1) 0 _ (by omega) (by omega) (by omega) ini_inv
end INI
