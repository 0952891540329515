/-! THE SIMULATION, third part: fields, rows, outer things -/
section SIM3
variable {l : Launch} {D : va_G} {cA : Nat → ClassId} {ex : Value} {L : Nat} {xs : Nat → Int32} {d ce sl y pc : Nat} {lv st : List Value} {h : aH}
theorem a_wd.ne {aa : Nat → Nat} {H : Heap} {A : Nat → Prop} (w : a_wd D cA ex L xs aa h H A) {i : Nat} (hk : (a_sh h i).1 = 1 ∨ (a_sh h i).1 = 2 ∨ (a_sh h i).1 = 3) : i ≠ 1003 := by
  have := (w.lt hk).2
  omega
theorem s_getfield {n ci k r : Nat} (hd : decode (a_mb y) pc = .ok (.getfield n, 3)) (hf : a_fld (a_mcl y) n = some (ci, k)) (hs : a_sh h r = (1, ci, a_nf ci)) : a_go l D cA ex L xs d ce sl y pc lv (.ref r :: st) h ce sl (pc + 3) lv (a_fv h r k :: st) h := by
  intro post kk p e R s m args below meth c H locs ls A aa aa0 n0 h1 h2 h3 h4 h5 h6 h7 h8 h9 h10
  have hm := a_fld_of hf
  obtain ⟨hci, hk⟩ := a_fld_lt _ hm
  obtain ⟨C, T, ty, hC, hok, -, -⟩ := a_cl_all hci
  have hw := a_wF_in _ hm
  simp only [a_wF, hC] at hw
  have q := kk p e R s m args below meth c H locs ls A aa aa0 n0 h1 h2 h3 h4 h5 h6 h7 h8 h9 h10
  rw [List.map_cons] at q ⊢
  rw [a_rv_ref (h4.ne (by rw [hs]; exact Or.inl rfl))]
  exact va_get h1.1 h1.2.1 h1.2.2.2.2.2.1 hok.1 h1.2.2.2.2.1 h2.1 h4.1 r (h4.obj hs) hC k hk (h1.2.2.2.2.2.1 _ (a_gt_of hw rfl)) (fun _ z => z) (by simp [hk]) hd q
theorem s_getstr {n j r : Nat} (hd : decode (a_mb y) pc = .ok (.getfield n, 3)) (hf : a_str (a_mcl y) n = some j) (hr : 1010 ≤ r ∧ r < 1018) : a_go l D cA ex L xs d ce sl y pc lv (.ref r :: st) h ce sl (pc + 3) lv ((if j = 0 then .ref (r + 10) else .int 0) :: st) h := by
  intro post kk p e R s m args below meth c H locs ls A aa aa0 n0 h1 h2 h3 h4 h5 h6 h7 h8 h9 h10
  have q := kk p e R s m args below meth c H locs ls A aa aa0 n0 h1 h2 h3 h4 h5 h6 h7 h8 h9 h10
  rw [List.map_cons] at q ⊢
  rw [a_rv_ref (show r ≠ 1003 by omega)]
  have hS := h2.2.2.2.2.2.2.2.2.2.2.2.1 (r - 1010) (by omega)
  have er : 1010 + (r - 1010) = r := by omega
  have er2 : 1020 + (r - 1010) = r + 10 := by omega
  simp only [er, er2] at hS
  have ea : aa r = aa0 r := h7.2 r (Or.inr (by omega))
  have ea2 : aa (r + 10) = aa0 (r + 10) := h7.2 (r + 10) (Or.inr (by omega))
  have hown := h1.2.2.2.2.1
  rcases a_str_v _ (a_str_of hf) with hh | hh
  · obtain ⟨h14, rfl, rfl⟩ : a_mcl y = 14 ∧ n = 9 ∧ j = 0 := by simpa using hh
    rw [h14] at hown
    rw [if_pos rfl, a_rv_ref (show r + 10 ≠ 1003 by omega), ea2] at q
    rw [ea]
    exact vk_getf h1.1 h1.2.1 hS.2.2.1 h5 hown (h1.2.2.2.2.2.1 _ (a_gt_of (a_misc_in (.fieldLink "java/lang/String" 9 "java/lang/String" "value" "[B") (by simp [a_misc])) rfl)) (fun _ z => z) hd q
  · obtain ⟨h14, rfl, rfl⟩ : a_mcl y = 14 ∧ n = 15 ∧ j = 1 := by simpa using hh
    rw [h14] at hown
    rw [if_neg (by decide)] at q
    rw [ea]
    exact vk_getf h1.1 h1.2.1 hS.2.1 h5 hown (h1.2.2.2.2.2.1 _ (a_gt_of (a_misc_in (.fieldLink "java/lang/String" 15 "java/lang/String" "coder" "B") (by simp [a_misc])) rfl)) (fun _ z => z) hd q
theorem a_fit_ok {ty : FieldType} {v : Value} {aa : Nat → Nat} (h : a_fit ty v) : narrow ty (a_rv ex aa v) = a_rv ex aa v ∧ fits ty (a_rv ex aa v) = true := by
  unfold a_fit at h
  split at h
  · exact ⟨rfl, rfl⟩
  · rcases h with rfl | rfl
    · exact ⟨(by decide : narrow .boolean (.int 0) = .int 0), (by decide : fits .boolean (.int 0) = true)⟩
    · exact ⟨(by decide : narrow .boolean (.int 1) = .int 1), (by decide : fits .boolean (.int 1) = true)⟩
  · exact ⟨rfl, rfl⟩
  · rw [a_rv_ref (Nat.ne_of_lt (Nat.lt_trans h (by decide)))]; exact ⟨rfl, rfl⟩
  · rw [a_rv_ref (Nat.ne_of_lt (Nat.lt_trans h (by decide)))]; exact ⟨rfl, rfl⟩
  · exact h.elim
theorem s_putfield {n ci k r : Nat} {v : Value} (hd : decode (a_mb y) pc = .ok (.putfield n, 3)) (hf : a_fld (a_mcl y) n = some (ci, k)) (hs : a_sh h r = (1, ci, a_nf ci)) (hp : a_pok y ci k v) : a_go l D cA ex L xs d ce sl y pc lv (v :: .ref r :: st) h ce sl (pc + 3) lv st (a_fset h r k v) := by
  intro post kk p e R s m args below meth c H locs ls A aa aa0 n0 h1 h2 h3 h4 h5 h6 h7 h8 h9 h10
  have hm := a_fld_of hf
  obtain ⟨hci, hk⟩ := a_fld_lt _ hm
  obtain ⟨C, T, ty, hC, hok, -, -⟩ := a_cl_all hci
  have hw := a_wF_in _ hm
  simp only [a_wF, hC] at hw
  simp only [a_pok, hC] at hp
  have hfit := a_fit_ok (ex := ex) (aa := aa) (hp.2 _ (hok.2.1 k hk))
  rw [List.map_cons, List.map_cons, a_rv_ref (h4.ne (by rw [hs]; exact Or.inl rfl))]
  have q : ∀ (H1 : Heap) (locs1 : List Loc), va_P D vwCl ((a_ws cA ex aa h).set r (aa r, .inr (ci, ((List.range (a_nf ci)).map (fun k => a_rv ex aa (a_fv h r k))).set k (a_rv ex aa v)))) H1 → va_D A ((a_ws cA ex aa h).set r (aa r, .inr (ci, ((List.range (a_nf ci)).map (fun k => a_rv ex aa (a_fv h r k))).set k (a_rv ex aa v)))) → va_S A s.heap H1 locs1 → W p l e R s m args below meth c H1 locs1 ce sl (MQ below (a_Q D cA ex L xs aa0 n0 y A post) args s (a_mc y) (a_ms y) A) (F0 m (pc + 3) ls (st.map (a_rv ex aa))) :=
    fun H1 locs1 hP1 hD1 hS1 => kk p e R s m args below meth c H1 locs1 ls A aa aa0 n0 h1 h2 h3 (h4.fset hs hP1 hD1 hk) hS1 h6 h7 h8 h9 h10
  rcases hp.1 with hfin | ⟨hfin, hown⟩
  · exact va_put h1.1 h1.2.1 h1.2.2.2.2.2.1 hok.1 ty hok.2.1 hok.2.2 h1.2.2.2.2.1 h2.1 h4.1 h4.2.1 h5 r (h4.obj hs) hC k hk (h1.2.2.2.2.2.1 _ (a_gt_of hw rfl)) (fun _ z => z) hfin (hok.2.1 k hk) hfit.1 hfit.2 (by simp [hk]) hd q
  · cases hft : (T k).2.2.2 with
    | false => exact va_put h1.1 h1.2.1 h1.2.2.2.2.2.1 hok.1 ty hok.2.1 hok.2.2 h1.2.2.2.2.1 h2.1 h4.1 h4.2.1 h5 r (h4.obj hs) hC k hk (h1.2.2.2.2.2.1 _ (a_gt_of hw rfl)) (fun _ z => z) hft (hok.2.1 k hk) hfit.1 hfit.2 (by simp [hk]) hd q
    | true => exact va_putF h1.1 h1.2.1 h1.2.2.2.2.2.1 hok.1 ty hok.2.1 hok.2.2 h1.2.2.2.2.1 h2.1 h4.1 h4.2.1 h5 r (h4.obj hs) hC k hk (h1.2.2.2.2.2.1 _ (a_gt_of hw rfl)) (fun _ z => z) hft (h1.2.2.2.2.2.2.2.1 hfin) hown (hok.2.1 k hk) hfit.1 hfit.2 (by simp [hk]) hd q
theorem a_tys_0 : (a_tys cA)[0]? = some (cA 0, .int) := rfl
theorem a_xshr {r : Nat} (hk : (a_xsh L r).1 = 4) : r = 1000 ∨ r = 1001 ∨ r = 1002 ∨ (1020 ≤ r ∧ r < 1028) := by
  unfold a_xsh at hk
  split at hk
  · omega
  · split at hk
    · omega
    · split at hk
      · omega
      · cases hk
theorem s_arraylength {r : Nat} (hd : decode (a_mb y) pc = .ok (.arraylength, 1)) (hs : (a_sh h r).1 = 2 ∨ (a_sh h r).1 = 3 ∨ (a_sh h r).1 = 4) : a_go l D cA ex L xs d ce sl y pc lv (.ref r :: st) h ce sl (pc + 1) lv (.int (Int32.ofNat (a_sh h r).2.2) :: st) h := by
  intro post kk p e R s m args below meth c H locs ls A aa aa0 n0 h1 h2 h3 h4 h5 h6 h7 h8 h9 h10
  have q := kk p e R s m args below meth c H locs ls A aa aa0 n0 h1 h2 h3 h4 h5 h6 h7 h8 h9 h10
  rw [List.map_cons] at q ⊢
  rcases hs with hs | hs | hs
  · rw [a_rv_ref (h4.ne (Or.inr (Or.inl hs)))]
    obtain ⟨g1, g2⟩ := h4.ints hs
    rcases (show (a_sh h r).2.1 = 0 ∨ (a_sh h r).2.1 = 1 ∨ (a_sh h r).2.1 = 2 by omega) with g | g | g
    · rw [g] at g1
      exact va_alen h1.1 h1.2.1 h2.1 h4.1 r 0 g1 (ty := .int) rfl rfl hd q
    · rw [g] at g1
      exact va_alen h1.1 h1.2.1 h2.1 h4.1 r 1 g1 (ty := .byte) rfl rfl hd q
    · rw [g] at g1
      exact va_alen h1.1 h1.2.1 h2.1 h4.1 r 2 g1 (ty := .boolean) rfl rfl hd q
  · rw [a_rv_ref (h4.ne (Or.inr (Or.inr hs)))]
    exact va_alen h1.1 h1.2.1 h2.1 h4.1 r 3 (h4.longs hs) (ty := .long) rfl rfl hd q
  · have hge : 1000 ≤ r := by
      by_cases hr : r < 1000
      · rcases h4.2.2.2.1 r hr with g | ⟨-, g⟩ <;> omega
      · omega
    obtain ⟨g1, g2⟩ := h4.2.2.2.2 r hge
    rw [g1] at hs q
    have ea : aa r = aa0 r := h7.2 r (Or.inr hge)
    rcases a_xshr hs with rfl | rfl | rfl | hr
    · rw [a_rv_ref (by omega), ea]
      exact va_tlen h1.1 h1.2.1 h2.2.2.2.1 h5 rfl hd q
    · rw [a_rv_ref (by omega), ea]
      exact va_tlen h1.1 h1.2.1 h2.2.2.2.2.1 h5 rfl hd q
    · rw [a_rv_ref (by omega), ea]
      exact va_tlen h1.1 h1.2.1 h2.2.2.2.2.2.1 h5 rfl hd q
    · rw [a_rv_ref (by omega), ea]
      have hS := (h2.2.2.2.2.2.2.2.2.2.2.2.1 (r - 1020) (by omega)).2.2.2
      have er : 1020 + (r - 1020) = r := by omega
      simp only [er] at hS
      refine va_tlen h1.1 h1.2.1 hS h5 ?_ hd q
      simp only [a_xsh]
      rw [if_neg (by omega), if_neg (by omega), if_pos hr]
theorem s_iaload {r : Nat} {j : Int32} (hd : decode (a_mb y) pc = .ok (.iaload, 1)) (hs : (a_sh h r).1 = 2 ∨ (a_sh h r).1 = 4) (ht : (a_sh h r).2.1 = 0) (hj : vp_in j (a_sh h r).2.2) : a_go l D cA ex L xs d ce sl y pc lv (.int j :: .ref r :: st) h ce sl (pc + 1) lv (.int (a_ia h r j.toNatClampNeg) :: st) h := by
  intro post kk p e R s m args below meth c H locs ls A aa aa0 n0 h1 h2 h3 h4 h5 h6 h7 h8 h9 h10
  have q := kk p e R s m args below meth c H locs ls A aa aa0 n0 h1 h2 h3 h4 h5 h6 h7 h8 h9 h10
  rw [List.map_cons] at q
  rw [List.map_cons, List.map_cons]
  rcases hs with hs | hs
  · rw [a_rv_ref (h4.ne (Or.inr (Or.inl hs)))]
    obtain ⟨g1, g2⟩ := h4.ints hs
    rw [ht] at g1
    exact va_iald h1.1 h1.2.1 h2.1 h4.1 r 0 g1 rfl hj hd q
  · have hge : 1000 ≤ r := by
      by_cases hr : r < 1000
      · rcases h4.2.2.2.1 r hr with g | ⟨-, g⟩ <;> omega
      · omega
    obtain ⟨g1, g2⟩ := h4.2.2.2.2 r hge
    rw [g1] at hs ht hj
    rw [g2] at q
    have ea : aa r = aa0 r := h7.2 r (Or.inr hge)
    rcases a_xshr hs with rfl | rfl | rfl | hr
    · rw [a_rv_ref (by omega), ea]
      exact va_ti h1.1 h1.2.1 h2.2.2.2.1 h5 hj rfl hd q
    · rw [a_rv_ref (by omega), ea]
      exact va_ti h1.1 h1.2.1 h2.2.2.2.2.1 h5 hj rfl hd q
    · rw [a_rv_ref (by omega), ea]
      exact va_ti h1.1 h1.2.1 h2.2.2.2.2.2.1 h5 hj rfl hd q
    · simp only [a_xsh] at ht
      rw [if_neg (by omega), if_neg (by omega), if_pos hr] at ht
      cases ht
theorem s_baload {r : Nat} {j : Int32} (hd : decode (a_mb y) pc = .ok (.baload, 1)) (hs : ((a_sh h r).1 = 2 ∧ ((a_sh h r).2.1 = 1 ∨ (a_sh h r).2.1 = 2)) ∨ ((a_sh h r).1 = 4 ∧ (a_sh h r).2.1 = 1)) (hj : vp_in j (a_sh h r).2.2) : a_go l D cA ex L xs d ce sl y pc lv (.int j :: .ref r :: st) h ce sl (pc + 1) lv (.int (a_ia h r j.toNatClampNeg) :: st) h := by
  intro post kk p e R s m args below meth c H locs ls A aa aa0 n0 h1 h2 h3 h4 h5 h6 h7 h8 h9 h10
  have q := kk p e R s m args below meth c H locs ls A aa aa0 n0 h1 h2 h3 h4 h5 h6 h7 h8 h9 h10
  rw [List.map_cons] at q
  rw [List.map_cons, List.map_cons]
  rcases hs with ⟨hs, ht⟩ | ⟨hs, ht⟩
  · rw [a_rv_ref (h4.ne (Or.inr (Or.inl hs)))]
    obtain ⟨g1, g2⟩ := h4.ints hs
    rcases ht with ht | ht
    · rw [ht] at g1
      exact va_bald h1.1 h1.2.1 h2.1 h4.1 r 1 g1 rfl hj hd q
    · rw [ht] at g1
      exact va_zald h1.1 h1.2.1 h2.1 h4.1 r 2 g1 rfl hj hd q
  · have hge : 1000 ≤ r := by
      by_cases hr : r < 1000
      · rcases h4.2.2.2.1 r hr with g | ⟨-, g⟩ <;> omega
      · omega
    obtain ⟨g1, g2⟩ := h4.2.2.2.2 r hge
    rw [g1] at hs ht hj
    rw [g2] at q
    have ea : aa r = aa0 r := h7.2 r (Or.inr hge)
    rcases a_xshr hs with rfl | rfl | rfl | hr
    · exact absurd ht (by simp [a_xsh])
    · exact absurd ht (by simp [a_xsh])
    · exact absurd ht (by simp [a_xsh])
    · rw [a_rv_ref (by omega), ea]
      have hS := (h2.2.2.2.2.2.2.2.2.2.2.2.1 (r - 1020) (by omega)).2.2.2
      have er : 1020 + (r - 1020) = r := by omega
      simp only [er] at hS
      simp only [a_xsh] at hj
      rw [if_neg (by omega), if_neg (by omega), if_pos hr] at hj
      dsimp only at hj
      refine va_tb h1.1 h1.2.1 hS h5 hj (v := .int (a_xia xs r j.toNatClampNeg)) ?_ hd q
      simp only [a_xia]
      rw [if_neg (by omega), if_neg (by omega), if_neg (by omega)]
theorem s_laload {r : Nat} {j : Int32} (hd : decode (a_mb y) pc = .ok (.laload, 1)) (hs : (a_sh h r).1 = 3) (hj : vp_in j (a_sh h r).2.2) : a_go l D cA ex L xs d ce sl y pc lv (.int j :: .ref r :: st) h ce sl (pc + 1) lv (.long (a_la h r j.toNatClampNeg) :: st) h := by
  intro post kk p e R s m args below meth c H locs ls A aa aa0 n0 h1 h2 h3 h4 h5 h6 h7 h8 h9 h10
  have q := kk p e R s m args below meth c H locs ls A aa aa0 n0 h1 h2 h3 h4 h5 h6 h7 h8 h9 h10
  rw [List.map_cons] at q
  rw [List.map_cons, List.map_cons, a_rv_ref (h4.ne (Or.inr (Or.inr hs)))]
  exact va_lald h1.1 h1.2.1 h2.1 h4.1 r 3 (h4.longs hs) rfl hj hd q
theorem s_iastore {r : Nat} {j x : Int32} (hd : decode (a_mb y) pc = .ok (.iastore, 1)) (hs : (a_sh h r).1 = 2) (ht : (a_sh h r).2.1 = 0) (hj : vp_in j (a_sh h r).2.2) : a_go l D cA ex L xs d ce sl y pc lv (.int x :: .int j :: .ref r :: st) h ce sl (pc + 1) lv st (a_iall h r (upd (a_ia h r) j.toNatClampNeg x)) := by
  intro post kk p e R s m args below meth c H locs ls A aa aa0 n0 h1 h2 h3 h4 h5 h6 h7 h8 h9 h10
  rw [List.map_cons, List.map_cons, List.map_cons, a_rv_ref (h4.ne (Or.inr (Or.inl hs)))]
  obtain ⟨g1, g2⟩ := h4.ints hs
  have e0 := ht
  refine va_iast h1.1 h1.2.1 h2.1 h4.1 h4.2.1 h5 r 0 g1 (by rw [e0]; rfl) hj hd (fun H1 locs1 hP1 hD1 hS1 => ?_)
  exact kk p e R s m args below meth c H1 locs1 ls A aa aa0 n0 h1 h2 h3 (h4.iall hs hP1 hD1) hS1 h6 h7 h8 h9 h10
theorem s_bastore {r : Nat} {j x : Int32} (hd : decode (a_mb y) pc = .ok (.bastore, 1)) (hs : (a_sh h r).1 = 2) (ht : (a_sh h r).2.1 = 1 ∨ (a_sh h r).2.1 = 2) (hj : vp_in j (a_sh h r).2.2) : a_go l D cA ex L xs d ce sl y pc lv (.int x :: .int j :: .ref r :: st) h ce sl (pc + 1) lv st (a_iall h r (upd (a_ia h r) j.toNatClampNeg (vp_nar (if (a_sh h r).2.1 = 1 then .byte else .boolean) x))) := by
  intro post kk p e R s m args below meth c H locs ls A aa aa0 n0 h1 h2 h3 h4 h5 h6 h7 h8 h9 h10
  rw [List.map_cons, List.map_cons, List.map_cons, a_rv_ref (h4.ne (Or.inr (Or.inl hs)))]
  obtain ⟨g1, g2⟩ := h4.ints hs
  rcases ht with e0 | e0
  · refine va_bast h1.1 h1.2.1 h2.1 h4.1 h4.2.1 h5 r 1 g1 (by rw [e0]; rfl) hj hd (fun H1 locs1 hP1 hD1 hS1 => ?_)
    exact kk p e R s m args below meth c H1 locs1 ls A aa aa0 n0 h1 h2 h3 (by rw [if_pos e0]; exact h4.iall hs hP1 hD1) hS1 h6 h7 h8 h9 h10
  · refine va_zast h1.1 h1.2.1 h2.1 h4.1 h4.2.1 h5 r 2 g1 (by rw [e0]; rfl) hj hd (fun H1 locs1 hP1 hD1 hS1 => ?_)
    exact kk p e R s m args below meth c H1 locs1 ls A aa aa0 n0 h1 h2 h3 (by rw [if_neg (by omega)]; exact h4.iall hs hP1 hD1) hS1 h6 h7 h8 h9 h10
theorem s_lastore {r : Nat} {j : Int32} {x : Int64} (hd : decode (a_mb y) pc = .ok (.lastore, 1)) (hs : (a_sh h r).1 = 3) (hj : vp_in j (a_sh h r).2.2) : a_go l D cA ex L xs d ce sl y pc lv (.long x :: .int j :: .ref r :: st) h ce sl (pc + 1) lv st (a_lall h r (vp_updL (a_la h r) j.toNatClampNeg x)) := by
  intro post kk p e R s m args below meth c H locs ls A aa aa0 n0 h1 h2 h3 h4 h5 h6 h7 h8 h9 h10
  rw [List.map_cons, List.map_cons, List.map_cons, a_rv_ref (h4.ne (Or.inr (Or.inr hs)))]
  refine va_last h1.1 h1.2.1 h2.1 h4.1 h4.2.1 h5 r 3 (h4.longs hs) rfl hj hd (fun H1 locs1 hP1 hD1 hS1 => ?_)
  exact kk p e R s m args below meth c H1 locs1 ls A aa aa0 n0 h1 h2 h3 (h4.lall hs hP1 hD1) hS1 h6 h7 h8 h9 h10
theorem s_copy {i a b k : Nat} {n dp sp : Int32} (hd : decode (a_mb y) pc = .ok (.invokestatic i, 3)) (hk : a_mth (a_mcl y) i = some (6, k)) (hd1 : 1 ≤ d) (hcw : a_cw st ≤ 8) (ha : (a_sh h a).1 = 2) (ha0 : (a_sh h a).2.1 = 0) (hb : (a_sh h b).1 = 2) (hb0 : (a_sh h b).2.1 = 0) (q1 : ¬ sp < 0) (q2 : ¬ dp < 0) (q3 : ¬ n < 0) (q4 : sp.toNatClampNeg + n.toNatClampNeg ≤ (a_sh h b).2.2) (q5 : dp.toNatClampNeg + n.toNatClampNeg ≤ (a_sh h a).2.2) :
    a_go l D cA ex L xs d ce sl y pc lv (.int n :: .int dp :: .ref a :: .int sp :: .ref b :: st) h ce sl (pc + 3) lv st (a_iall h a (va_cpy (a_ia h b) (a_ia h a) sp.toNatClampNeg dp.toNatClampNeg n.toNatClampNeg)) := by
  intro post kk p e R s m args below meth c H locs ls A aa aa0 n0 h1 h2 h3 h4 h5 h6 h7 h8 h9 h10
  simp only [List.map_cons]
  rw [a_rv_ref (h4.ne (Or.inr (Or.inl ha))), a_rv_ref (h4.ne (Or.inr (Or.inl hb)))]
  have hw := a_wA_in _ (List.mem_filter.mpr ⟨a_mth_of hk, rfl⟩)
  have hts := h1.2.2.2.2.2.1
  have hcw' := hcw
  rw [← a_cw_rv (aa := aa) h2.2.2.1] at hcw'
  obtain ⟨hfr, hlo, -⟩ := h1.2.2.2.2.2.2.2.2
  refine va_copyi h1.1 h1.2.1 (h1.2.2.2.1.trans h6.2.1.symm) h1.2.2.2.2.1 (hts _ (a_gt_of hw rfl)) (hts _ (a_gt_of (a_misc_in (.native arraycopyName) (by simp [a_misc])) rfl)) (hts _ (a_gt_of (a_misc_in (.static arraycopyName) (by simp [a_misc])) rfl)) (hts _ (a_gt_of (a_misc_in (.initialized "java/lang/System") (by simp [a_misc])) rfl))
    h2.1 h4.1 h4.2.1 h5 b a 0 0 (h4.ints hb).1 (h4.ints ha).1 (ty := .int) (by rw [hb0]; rfl) (by rw [ha0]; rfl) rfl q1 q2 q3 q4 q5 (fun _ _ => rfl) (Nat.le_trans hd1 hfr) ?_ hd (fun H1 locs1 hP1 hD1 hS1 => ?_)
  · have e1 : nativeFrameWords "java/lang/System" "arraycopy" 5 = 7 := by decide
    rw [e1]
    omega
  · exact kk p e R s m args below meth c H1 locs1 ls A aa aa0 n0 h1 h2 h3 (h4.iall ha hP1 hD1) hS1 h6 h7 h8 h9 h10
end SIM3
