/-! THE SIMULATION, last part: statics, texts, Math, forks, ends; and the whole -/
section SIM6
variable {l : Launch} {D : va_G} {cA : Nat → ClassId} {ex : Value} {L : Nat} {xs : Nat → Int32} {d ce sl y pc : Nat} {lv st : List Value} {h : aH}
theorem s_getstatic {n : Nat} {v : Value} (hd : decode (a_mb y) pc = .ok (.getstatic n, 3)) (hv : a_sta (a_mcl y) n = some v) : a_go l D cA ex L xs d ce sl y pc lv st h ce sl (pc + 3) lv (v :: st) h := by
  intro post kk p e R s m args below meth c H locs ls A aa aa0 n0 h1 h2 h3 h4 h5 h6 h7 h8 h9 h10
  have q := kk p e R s m args below meth c H locs ls A aa aa0 n0 h1 h2 h3 h4 h5 h6 h7 h8 h9 h10
  have hm := a_sta_of hv
  have hw := h1.2.2.2.2.2.1 _ (a_gt_of (a_wS_in _ hm) rfl)
  obtain ⟨e1, e2, e3, e4, e5, e6, e7, e8, e9, e10, e11, e12⟩ := h2
  rw [List.map_cons] at q
  rcases a_sta_v _ hm with hh | hh | hh | hh
  · have hh' : v = .ref 1001 := hh
    subst hh'
    rw [a_rv_ref (by decide), h7.2 1001 (Or.inr (by decide))] at q
    exact va_gets h1.1 h1.2.1 e7 h5 h1.2.2.2.2.1 hw (fun _ z => z) hd q
  · have hh' : v = .ref 1002 := hh
    subst hh'
    rw [a_rv_ref (by decide), h7.2 1002 (Or.inr (by decide))] at q
    exact va_gets h1.1 h1.2.1 e8 h5 h1.2.2.2.2.1 hw (fun _ z => z) hd q
  · have hh' : v = .ref 1003 := hh
    subst hh'
    have e0 : a_rv ex aa (.ref 1003) = ex := by simp [a_rv]
    rw [e0] at q
    exact va_gets h1.1 h1.2.1 e9 h5 h1.2.2.2.2.1 hw (fun _ z => z) hd q
  · have hh' : v = .int 1 := hh
    subst hh'
    exact va_gets h1.1 h1.2.1 e10 h5 h1.2.2.2.2.1 hw (fun _ z => z) hd q
theorem s_ldcS {n r : Nat} (hd : decode (a_mb y) pc = .ok (.ldc n, 2)) (hv : a_cst (a_mcl y) n = some (.ref r)) : a_go l D cA ex L xs d ce sl y pc lv st h ce sl (pc + 2) lv (.ref r :: st) h := by
  intro post kk p e R s m args below meth c H locs ls A aa aa0 n0 h1 h2 h3 h4 h5 h6 h7 h8 h9 h10
  have q := kk p e R s m args below meth c H locs ls A aa aa0 n0 h1 h2 h3 h4 h5 h6 h7 h8 h9 h10
  have hm := a_cst_str _ (a_cst_of hv)
  simp only [Bool.and_eq_true, decide_eq_true_eq, beq_iff_eq] at hm
  obtain ⟨⟨⟨g1, g2⟩, g3⟩, g4⟩ := hm
  have g1 : (1010 : Nat) ≤ r := g1
  have g2 : r < (1018 : Nat) := g2
  have e11 := h2.2.2.2.2.2.2.2.2.2.2.1 (r - 1010) (by omega)
  have er : 1010 + (r - 1010) = r := by omega
  rw [er, ← g4] at e11
  have hown := h1.2.2.2.2.1
  rw [g3] at hown
  rw [List.map_cons, a_rv_ref (by omega), h7.2 r (Or.inr (by omega))] at q
  exact va_ldcS h1.1 h1.2.1 hown e11 hd q
theorem s_ldcW {n : Nat} {v : Int32} (hd : decode (a_mb y) pc = .ok (.ldc_w n, 3)) (hv : a_cst (a_mcl y) n = some (.int v)) : a_go l D cA ex L xs d ce sl y pc lv st h ce sl (pc + 3) lv (.int v :: st) h := a_pure fun hx hb ho hts _ k => lv_ldcw hx hb ho (hts _ (a_gt_of (a_wK_in _ (List.mem_filter.mpr ⟨a_cst_of hv, rfl⟩)) rfl)) hd k
/-- Math -/
theorem s_mmax {i k : Nat} {x z : Int32} (hd : decode (a_mb y) pc = .ok (.invokestatic i, 3)) (hk : a_mth (a_mcl y) i = some (7, k)) (hd1 : 1 ≤ d) (hcw : a_cw st ≤ 8) : a_go l D cA ex L xs d ce sl y pc lv (.int x :: .int z :: st) h ce sl (pc + 3) lv (.int (if z < x then x else z) :: st) h := by
  intro post kk p e R s m args below meth c H locs ls A aa aa0 n0 h1 h2 h3 h4 h5 h6 h7 h8 h9 h10
  have q := kk p e R s m args below meth c H locs ls A aa aa0 n0 h1 h2 h3 h4 h5 h6 h7 h8 h9 h10
  have hts := h1.2.2.2.2.2.1
  obtain ⟨hfr, hlo, hRc, hRs⟩ := h1.2.2.2.2.2.2.2.2
  have hw := hts _ (a_gt_of (a_wX_in _ (List.mem_filter.mpr ⟨a_mth_of hk, rfl⟩)) rfl)
  have hM : ∀ w ∈ a_miscM, goodWord w = true → w.before args s = true := fun w h1 h2 => hts _ (a_gt_of (a_miscM_in w h1) h2)
  exact va_mmax h1.1 h1.2.1 (h1.2.2.2.1.trans h6.2.1.symm) h1.2.2.2.2.1 hw (hM (.static Lib.Math.max.name) (by simp [a_miscM]) rfl) (hM (.initialized "java/lang/Math") (by simp [a_miscM]) rfl) (hM (.code Lib.Math.max.name Lib.Math.max.code 2 (some .int)) (by simp [a_miscM]) rfl) (Nat.le_trans hd1 hfr) (by rw [a_cw_rv h2.2.2.1]; omega) (by rw [hRc]; exact h9) (by rw [hRs]; exact h10) hd q
theorem s_mmin {i k : Nat} {x z : Int32} (hd : decode (a_mb y) pc = .ok (.invokestatic i, 3)) (hk : a_mth (a_mcl y) i = some (8, k)) (hd1 : 1 ≤ d) (hcw : a_cw st ≤ 8) : a_go l D cA ex L xs d ce sl y pc lv (.int x :: .int z :: st) h ce sl (pc + 3) lv (.int (if x < z then x else z) :: st) h := by
  intro post kk p e R s m args below meth c H locs ls A aa aa0 n0 h1 h2 h3 h4 h5 h6 h7 h8 h9 h10
  have q := kk p e R s m args below meth c H locs ls A aa aa0 n0 h1 h2 h3 h4 h5 h6 h7 h8 h9 h10
  have hts := h1.2.2.2.2.2.1
  obtain ⟨hfr, hlo, hRc, hRs⟩ := h1.2.2.2.2.2.2.2.2
  have hw := hts _ (a_gt_of (a_wX_in _ (List.mem_filter.mpr ⟨a_mth_of hk, rfl⟩)) rfl)
  have hM : ∀ w ∈ a_miscM, goodWord w = true → w.before args s = true := fun w h1 h2 => hts _ (a_gt_of (a_miscM_in w h1) h2)
  exact va_mmin h1.1 h1.2.1 (h1.2.2.2.1.trans h6.2.1.symm) h1.2.2.2.2.1 hw (hM (.static Lib.Math.min.name) (by simp [a_miscM]) rfl) (hM (.initialized "java/lang/Math") (by simp [a_miscM]) rfl) (hM (.code Lib.Math.min.name Lib.Math.min.code 2 (some .int)) (by simp [a_miscM]) rfl) (Nat.le_trans hd1 hfr) (by rw [a_cw_rv h2.2.2.1]; omega) (by rw [hRc]; exact h9) (by rw [hRs]; exact h10) hd q
theorem s_mabs {i k : Nat} {x : Int32} (hd : decode (a_mb y) pc = .ok (.invokestatic i, 3)) (hk : a_mth (a_mcl y) i = some (9, k)) (hd1 : 1 ≤ d) (hcw : a_cw st ≤ 8) : a_go l D cA ex L xs d ce sl y pc lv (.int x :: st) h ce sl (pc + 3) lv (.int (if x < 0 then -x else x) :: st) h := by
  intro post kk p e R s m args below meth c H locs ls A aa aa0 n0 h1 h2 h3 h4 h5 h6 h7 h8 h9 h10
  have q := kk p e R s m args below meth c H locs ls A aa aa0 n0 h1 h2 h3 h4 h5 h6 h7 h8 h9 h10
  have hts := h1.2.2.2.2.2.1
  obtain ⟨hfr, hlo, hRc, hRs⟩ := h1.2.2.2.2.2.2.2.2
  have hw := hts _ (a_gt_of (a_wX_in _ (List.mem_filter.mpr ⟨a_mth_of hk, rfl⟩)) rfl)
  have hM : ∀ w ∈ a_miscM, goodWord w = true → w.before args s = true := fun w h1 h2 => hts _ (a_gt_of (a_miscM_in w h1) h2)
  have ev : (if x < 0 then -x else x) = if 0 ≤ x then x else 0 - x := by
    by_cases hx : x < 0
    · rw [if_pos hx, if_neg (Int32.not_le.mpr hx), Int32.zero_sub]
    · rw [if_neg hx, if_pos (Int32.not_lt.mp hx)]
  rw [ev] at q
  exact va_mabs h1.1 h1.2.1 (h1.2.2.2.1.trans h6.2.1.symm) h1.2.2.2.2.1 hw (hM (.static Lib.Math.abs.name) (by simp [a_miscM]) rfl) (hM (.initialized "java/lang/Math") (by simp [a_miscM]) rfl) (hM (.code Lib.Math.abs.name Lib.Math.abs.code 1 (some .int)) (by simp [a_miscM]) rfl) (Nat.le_trans hd1 hfr) (by rw [a_cw_rv h2.2.2.1]; omega) (by rw [hRc]; exact h9) (by rw [hRs]; exact h10) hd q
theorem s_mfdiv {i k : Nat} {x z : Int32} (hd : decode (a_mb y) pc = .ok (.invokestatic i, 3)) (hk : a_mth (a_mcl y) i = some (10, k)) (hd1 : 1 ≤ d) (hcw : a_cw st ≤ 8) (hx0 : ¬ x = 0) : a_go l D cA ex L xs d ce sl y pc lv (.int x :: .int z :: st) h ce sl (pc + 3) lv (.int (a_fdiv z x) :: st) h := by
  intro post kk p e R s m args below meth c H locs ls A aa aa0 n0 h1 h2 h3 h4 h5 h6 h7 h8 h9 h10
  have q := kk p e R s m args below meth c H locs ls A aa aa0 n0 h1 h2 h3 h4 h5 h6 h7 h8 h9 h10
  have hts := h1.2.2.2.2.2.1
  obtain ⟨hfr, hlo, hRc, hRs⟩ := h1.2.2.2.2.2.2.2.2
  have hw := hts _ (a_gt_of (a_wX_in _ (List.mem_filter.mpr ⟨a_mth_of hk, rfl⟩)) rfl)
  have hM : ∀ w ∈ a_miscM, goodWord w = true → w.before args s = true := fun w h1 h2 => hts _ (a_gt_of (a_miscM_in w h1) h2)
  exact fd_row h1.1 h1.2.1 (h1.2.2.2.1.trans h6.2.1.symm) h1.2.2.2.2.1 hw (hM (.static yJ9_floorDiv_7cf53) (by simp [a_miscM]) rfl) (hM (.initialized "java/lang/Math") (by simp [a_miscM]) rfl) (hM (.code yJ9_floorDiv_7cf53 cJ9_floorDiv_7cf53 3 (some .int)) (by simp [a_miscM]) rfl) (Nat.le_trans hd1 hfr) (by rw [a_cw_rv h2.2.2.1]; omega) (by rw [hRc]; exact h9) (by rw [hRs]; exact h10) hx0 hd q
theorem s_objInit {i k b : Nat} (hd : decode (a_mb y) pc = .ok (.invokespecial i, 3)) (hk : a_mth (a_mcl y) i = some (5, k)) (hd1 : 1 ≤ d) (hcw : a_cw st ≤ 8) (hb : b ≠ 1003) : a_go l D cA ex L xs d ce sl y pc lv (.ref b :: st) h ce sl (pc + 3) lv st h := by
  intro post kk p e R s m args below meth c H locs ls A aa aa0 n0 h1 h2 h3 h4 h5 h6 h7 h8 h9 h10
  have q := kk p e R s m args below meth c H locs ls A aa aa0 n0 h1 h2 h3 h4 h5 h6 h7 h8 h9 h10
  have hts := h1.2.2.2.2.2.1
  obtain ⟨hfr, hlo, hRc, hRs⟩ := h1.2.2.2.2.2.2.2.2
  have hw := hts _ (a_gt_of (a_wO_in _ (List.mem_filter.mpr ⟨a_mth_of hk, rfl⟩)) rfl)
  rw [List.map_cons, a_rv_ref hb]
  refine W.objInit h1.1 h1.2.1 h1.2.2.2.2.1 hw (hts _ (a_gt_of (a_misc_in (.instanceMethod Lib.objectInit) (by simp [a_misc])) rfl)) (hts _ (a_gt_of (a_misc_in (.code Lib.objectInit ⟨#[0xb1]⟩ 1 none) (by simp [a_misc])) rfl)) rfl (h6.2.1.trans h1.2.2.2.1.symm) rfl hd (Nat.le_trans hd1 hfr) ?_ q
  have hc := a_cw_rv (aa := aa) h2.2.2.1 st
  have := lv_room (m := m) (pc := pc) (ls := ls) (rest := .ref (aa b) :: st.map (a_rv ex aa)) (st := st.map (a_rv ex aa)) (by rw [hc]; exact hcw)
  omega
/-- ends -/
theorem s_iret {v : Int32} {ty : FieldType} {post : Option Value → aH → Prop} (hd : decode (a_mb y) pc = .ok (.ireturn, 1)) (hr : a_mr y = some ty) (hn : narrow ty (.int v) = .int v) (hp : post (some (.int v)) h) : a_sim l D cA ex L xs d ce sl y pc lv [.int v] h post := by
  intro p e R s m args below meth c H locs ls A aa aa0 n0 h1 h2 h3 h4 h5 h6 h7 h8 h9 h10
  refine W.widen h9 h10 ?_
  exact W.zret h1.1 h1.2.1 (h1.2.2.1.trans hr) hn (fun t ht hW => ⟨⟨some (.int v), h, aa, rfl, hp, h7, h8, by rw [ht]; exact h4⟩, h5.F ht⟩) h5.2.2 hd h1.2.2.2.2.2.2.1
theorem s_lret {v : Int64} {post : Option Value → aH → Prop} (hd : decode (a_mb y) pc = .ok (.lreturn, 1)) (hr : a_mr y = some .long) (hp : post (some (.long v)) h) : a_sim l D cA ex L xs d ce sl y pc lv [.long v] h post := by
  intro p e R s m args below meth c H locs ls A aa aa0 n0 h1 h2 h3 h4 h5 h6 h7 h8 h9 h10
  refine W.widen h9 h10 ?_
  exact W.lret h1.1 h1.2.1 (h1.2.2.1.trans hr) (fun t ht hW => ⟨⟨some (.long v), h, aa, rfl, hp, h7, h8, by rw [ht]; exact h4⟩, h5.F ht⟩) h5.2.2 hd h1.2.2.2.2.2.2.1
theorem s_aret {r : Nat} {ty : FieldType} {post : Option Value → aH → Prop} (hd : decode (a_mb y) pc = .ok (.areturn, 1)) (hr : a_mr y = some ty) (ht : a_rt ty = 1) (hr3 : r ≠ 1003) (hp : post (some (.ref r)) h) : a_sim l D cA ex L xs d ce sl y pc lv [.ref r] h post := by
  intro p e R s m args below meth c H locs ls A aa aa0 n0 h1 h2 h3 h4 h5 h6 h7 h8 h9 h10
  refine W.widen h9 h10 ?_
  have hty : (∃ n, ty = .object n) ∨ ∃ t, ty = .array t := by
    cases ty <;> simp [a_rt] at ht
    · exact Or.inl ⟨_, rfl⟩
    · exact Or.inr ⟨_, rfl⟩
  simp only [List.map_cons, List.map_nil, a_rv_ref hr3]
  exact W.aret h1.1 h1.2.1 (h1.2.2.1.trans hr) hty (Or.inr ⟨_, rfl⟩) (fun t ht hW => ⟨⟨some (.ref r), h, aa, by simp [a_rv_ref hr3], hp, h7, h8, by rw [ht]; exact h4⟩, h5.F ht⟩) h5.2.2 hd h1.2.2.2.2.2.2.1
theorem s_vret {post : Option Value → aH → Prop} (hd : decode (a_mb y) pc = .ok (.return_, 1)) (hr : a_mr y = none) (hp : post none h) : a_sim l D cA ex L xs d ce sl y pc lv [] h post := by
  intro p e R s m args below meth c H locs ls A aa aa0 n0 h1 h2 h3 h4 h5 h6 h7 h8 h9 h10
  refine W.widen h9 h10 ?_
  exact W.vret h1.1 h1.2.1 (h1.2.2.1.trans hr) (fun t ht hW => ⟨⟨none, h, aa, rfl, hp, h7, h8, by rw [ht]; exact h4⟩, h5.F ht⟩) h5.2.2 hd h1.2.2.2.2.2.2.1
/-- forks -/
theorem s_if {cd : ClassFile.Cond} {off : Int} {t : Nat} {x : Int32} {post : Option Value → aH → Prop} (hd : decode (a_mb y) pc = .ok (.ifCond cd off, 3)) (ht : a_tg pc off = some t) (k1 : a_cond cd x 0 → a_sim l D cA ex L xs d ce sl y t lv st h post) (k2 : ¬ a_cond cd x 0 → a_sim l D cA ex L xs d ce sl y (pc + 3) lv st h post) : a_sim l D cA ex L xs d ce sl y pc lv (.int x :: st) h post := by
  intro p e R s m args below meth c H locs ls A aa aa0 n0 h1 h2 h3 h4 h5 h6 h7 h8 h9 h10
  have q1 := fun z => k1 z p e R s m args below meth c H locs ls A aa aa0 n0 h1 h2 h3 h4 h5 h6 h7 h8 h9 h10
  have q2 := fun z => k2 z p e R s m args below meth c H locs ls A aa aa0 n0 h1 h2 h3 h4 h5 h6 h7 h8 h9 h10
  cases cd
  · exact lv_if_eq h1.1 h1.2.1 hd (a_tg_of ht) q1 q2
  · exact lv_if_ne h1.1 h1.2.1 hd (a_tg_of ht) q1 (fun z => q2 (fun w => w z))
  · exact lv_if_lt h1.1 h1.2.1 hd (a_tg_of ht) q1 q2
  · exact lv_if_ge h1.1 h1.2.1 hd (a_tg_of ht) q1 q2
  · exact lv_if_gt h1.1 h1.2.1 hd (a_tg_of ht) q1 q2
  · exact lv_if_le h1.1 h1.2.1 hd (a_tg_of ht) q1 q2
theorem s_icmp {cd : ClassFile.Cond} {off : Int} {t : Nat} {x z : Int32} {post : Option Value → aH → Prop} (hd : decode (a_mb y) pc = .ok (.if_icmp cd off, 3)) (ht : a_tg pc off = some t) (k1 : a_cond cd z x → a_sim l D cA ex L xs d ce sl y t lv st h post) (k2 : ¬ a_cond cd z x → a_sim l D cA ex L xs d ce sl y (pc + 3) lv st h post) : a_sim l D cA ex L xs d ce sl y pc lv (.int x :: .int z :: st) h post := by
  intro p e R s m args below meth c H locs ls A aa aa0 n0 h1 h2 h3 h4 h5 h6 h7 h8 h9 h10
  have q1 := fun z => k1 z p e R s m args below meth c H locs ls A aa aa0 n0 h1 h2 h3 h4 h5 h6 h7 h8 h9 h10
  have q2 := fun z => k2 z p e R s m args below meth c H locs ls A aa aa0 n0 h1 h2 h3 h4 h5 h6 h7 h8 h9 h10
  cases cd
  · exact lv_icmp_eq h1.1 h1.2.1 hd (a_tg_of ht) q1 q2
  · exact lv_icmp_ne h1.1 h1.2.1 hd (a_tg_of ht) q1 (fun w => q2 (fun u => u w))
  · exact lv_icmp_lt h1.1 h1.2.1 hd (a_tg_of ht) q1 q2
  · exact lv_icmp_ge h1.1 h1.2.1 hd (a_tg_of ht) q1 q2
  · exact lv_icmp_gt h1.1 h1.2.1 hd (a_tg_of ht) q1 q2
  · exact lv_icmp_le h1.1 h1.2.1 hd (a_tg_of ht) q1 q2
end SIM6
