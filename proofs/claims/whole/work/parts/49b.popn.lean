/-! counts of bits: digits of base 16 under masks -/
theorem tb_nib {a z i : Nat} (ha : a < 16) : (a + 16 * z).testBit i = if i < 4 then a.testBit i else z.testBit (i - 4) := by
  have e : a + 16 * z = 2 ^ 4 * z + a := by omega
  rw [e, Nat.testBit_two_pow_mul_add z (by omega) i]
theorem and_nib {a z m M : Nat} (ha : a < 16) (hm : m < 16) : (a + 16 * z) &&& (m + 16 * M) = (a &&& m) + 16 * (z &&& M) := by
  have h1 : a &&& m < 16 := Nat.lt_of_le_of_lt Nat.and_le_left ha
  apply Nat.eq_of_testBit_eq
  intro i
  rw [Nat.testBit_and, tb_nib ha, tb_nib hm, tb_nib h1]
  by_cases c : i < 4
  · simp [c]
  · simp [c]
theorem sh_nib {a z m M s : Nat} (ha : a < 16) (hs : s ≤ 4) (hm : m < 2 ^ (4 - s)) : ((a + 16 * z) >>> s) &&& (m + 16 * M) = ((a >>> s) &&& m) + 16 * ((z >>> s) &&& M) := by
  have hm2 : m < 16 := Nat.lt_of_lt_of_le hm (Nat.pow_le_pow_right (by omega) (by omega : 4 - s ≤ 4))
  have h1 : (a >>> s) &&& m < 16 := Nat.lt_of_le_of_lt Nat.and_le_right hm2
  apply Nat.eq_of_testBit_eq
  intro i
  rw [Nat.testBit_and, Nat.testBit_shiftRight, tb_nib ha, tb_nib hm2, tb_nib h1, Nat.testBit_and, Nat.testBit_and, Nat.testBit_shiftRight, Nat.testBit_shiftRight]
  by_cases c : i < 4
  · simp only [c, if_true]
    by_cases c2 : s + i < 4
    · simp [c2]
    · have : m.testBit i = false := Nat.testBit_lt_two_pow (Nat.lt_of_lt_of_le hm (Nat.pow_le_pow_right (by omega) (by omega)))
      simp [this]
  · have c2 : ¬ s + i < 4 := by omega
    simp only [c, c2, if_false]
    rw [show s + i - 4 = s + (i - 4) by omega]
def ofD : List Nat → Nat
  | [] => 0
  | d :: ds => d + 16 * ofD ds
def repD (m : Nat) : Nat → Nat
  | 0 => 0
  | k + 1 => m + 16 * repD m k
theorem D_and {m : Nat} (hm : m < 16) : ∀ {ds : List Nat}, (∀ d ∈ ds, d < 16) → ofD ds &&& repD m ds.length = ofD (ds.map (fun d => d &&& m)) := by
  intro ds
  induction ds with
  | nil => intro _; simp [ofD, repD]
  | cons d ds ih =>
    intro h
    show (d + 16 * ofD ds) &&& (m + 16 * repD m ds.length) = (d &&& m) + 16 * ofD (ds.map (fun d => d &&& m))
    rw [and_nib (h d (by simp)) hm, ih (fun x hx => h x (by simp [hx]))]
theorem D_sh {m s : Nat} (hs : s ≤ 4) (hm : m < 2 ^ (4 - s)) : ∀ {ds : List Nat}, (∀ d ∈ ds, d < 16) → (ofD ds >>> s) &&& repD m ds.length = ofD (ds.map (fun d => (d >>> s) &&& m)) := by
  intro ds
  induction ds with
  | nil => intro _; simp [ofD, repD]
  | cons d ds ih =>
    intro h
    show ((d + 16 * ofD ds) >>> s) &&& (m + 16 * repD m ds.length) = ((d >>> s) &&& m) + 16 * ofD (ds.map (fun d => (d >>> s) &&& m))
    rw [sh_nib (h d (by simp)) hs hm, ih (fun x hx => h x (by simp [hx]))]
theorem D_sub {f : Nat → Nat} (hf : ∀ d, d < 16 → f d ≤ d) : ∀ {ds : List Nat}, (∀ d ∈ ds, d < 16) → ofD (ds.map f) ≤ ofD ds ∧ ofD ds - ofD (ds.map f) = ofD (ds.map (fun d => d - f d)) := by
  intro ds
  induction ds with
  | nil => intro _; exact ⟨Nat.le_refl _, rfl⟩
  | cons d ds ih =>
    intro h
    have h1 := hf d (h d (by simp))
    have h2 := ih (fun x hx => h x (by simp [hx]))
    simp only [List.map_cons, ofD]
    omega
theorem D_add {f g : Nat → Nat} : ∀ {ds : List Nat}, ofD (ds.map f) + ofD (ds.map g) = ofD (ds.map (fun d => f d + g d)) := by
  intro ds
  induction ds with
  | nil => rfl
  | cons d ds ih =>
    simp only [List.map_cons, ofD]
    omega
theorem D_zip : ∀ {ds ms : List Nat}, (∀ d ∈ ds, d < 16) → (∀ d ∈ ms, d < 16) → ds.length = ms.length → ofD ds &&& ofD ms = ofD (List.zipWith (fun a b => a &&& b) ds ms) := by
  intro ds
  induction ds with
  | nil => intro ms _ _ h; cases ms with
    | nil => rfl
    | cons _ _ => cases h
  | cons d ds ih =>
    intro ms h1 h2 h
    cases ms with
    | nil => cases h
    | cons m ms =>
      simp only [List.zipWith_cons_cons, ofD]
      rw [and_nib (h1 d (by simp)) (h2 m (by simp)), ih (fun x hx => h1 x (by simp [hx])) (fun x hx => h2 x (by simp [hx])) (by simpa using h)]
/-- bits of one digit -/
def p4 (d : Nat) : Nat := d % 2 + d / 2 % 2 + d / 4 % 2 + d / 8 % 2
theorem p4_le (d : Nat) : p4 d ≤ 4 := by unfold p4; omega
theorem D_p4 {ds : List Nat} (h : ∀ d ∈ ds, d < 16) : ((ofD ds >>> 1) &&& repD 5 ds.length) ≤ ofD ds ∧ ((ofD ds - ((ofD ds >>> 1) &&& repD 5 ds.length)) &&& repD 3 ds.length) + (((ofD ds - ((ofD ds >>> 1) &&& repD 5 ds.length)) >>> 2) &&& repD 3 ds.length) = ofD (ds.map p4) := by
  have k : ∀ d, d < 16 → (d >>> 1) &&& 5 ≤ d ∧ d - ((d >>> 1) &&& 5) < 16 ∧ ((d - ((d >>> 1) &&& 5)) &&& 3) + (((d - ((d >>> 1) &&& 5)) >>> 2) &&& 3) = p4 d := by decide +kernel
  rw [D_sh (by omega) (by decide) h]
  have a := D_sub (fun d hd => (k d hd).1) h
  refine ⟨a.1, ?_⟩
  rw [a.2]
  have hl : ds.length = (ds.map (fun d => d - ((d >>> 1) &&& 5))).length := by simp
  have h2 : ∀ x ∈ ds.map (fun d => d - ((d >>> 1) &&& 5)), x < 16 := by
    intro x hx
    obtain ⟨d, hd, rfl⟩ := List.mem_map.mp hx
    exact (k d (h d hd)).2.1
  rw [hl, D_and (by omega) h2, D_sh (by omega) (by decide) h2, List.map_map, List.map_map, D_add]
  congr 1
  apply List.map_congr_left
  intro d hd
  exact (k d (h d hd)).2.2
/-- how many of the lowest k bits -/
def lob (n : Nat) : Nat → Nat
  | 0 => 0
  | k + 1 => n % 2 + lob (n / 2) k
theorem lob_16 {d z k : Nat} (hd : d < 16) : lob (d + 16 * z) (k + 4) = p4 d + lob z k := by
  show (d + 16 * z) % 2 + ((d + 16 * z) / 2 % 2 + ((d + 16 * z) / 2 / 2 % 2 + ((d + 16 * z) / 2 / 2 / 2 % 2 + lob ((d + 16 * z) / 2 / 2 / 2 / 2) k))) = _
  rw [show (d + 16 * z) / 2 / 2 / 2 / 2 = z by omega]
  unfold p4
  omega
theorem lob_sum : ∀ {ds : List Nat}, (∀ d ∈ ds, d < 16) → lob (ofD ds) (4 * ds.length) = (ds.map p4).sum := by
  intro ds
  induction ds with
  | nil => intro _; rfl
  | cons d ds ih =>
    intro h
    rw [List.length_cons, show 4 * (ds.length + 1) = 4 * ds.length + 4 by omega, List.map_cons, List.sum_cons]
    show lob (d + 16 * ofD ds) (4 * ds.length + 4) = _
    rw [lob_16 (h d (by simp)), ih (fun x hx => h x (by simp [hx]))]
/-- the JDK's way, 32 bits -/
def pcI (n : Nat) : Nat :=
  let a := n - ((n >>> 1) &&& 1431655765)
  let b := (a &&& 858993459) + ((a >>> 2) &&& 858993459)
  let c := (b + b >>> 4) &&& 252645135
  let e := c + c >>> 8
  (e + e >>> 16) &&& 63
def pcL (n : Nat) : Nat :=
  let a := n - ((n >>> 1) &&& 6148914691236517205)
  let b := (a &&& 3689348814741910323) + ((a >>> 2) &&& 3689348814741910323)
  let c := (b + b >>> 4) &&& 1085102592571150095
  let e := c + c >>> 8
  let f := e + e >>> 16
  (f + f >>> 32) &&& 127
theorem n_hex (n : Nat) : n = n % 16 + 16 * (n / 16) := by omega
def digD (n : Nat) : Nat → List Nat
  | 0 => []
  | k + 1 => n % 16 :: digD (n / 16) k
theorem digD_of : ∀ {k n : Nat}, n < 16 ^ k → n = ofD (digD n k) ∧ (digD n k).length = k ∧ ∀ d ∈ digD n k, d < 16 := by
  intro k
  induction k with
  | zero => intro n h; exact ⟨by simp at h; simp [digD, ofD, h], rfl, by simp [digD]⟩
  | succ k ih =>
    intro n h
    have := ih (n := n / 16) (by rw [Nat.pow_succ] at h; omega)
    refine ⟨?_, by simp [digD, this.2.1], ?_⟩
    · show n = n % 16 + 16 * ofD (digD (n / 16) k)
      rw [← this.1]; omega
    · intro d hd
      rcases List.mem_cons.mp hd with e | e
      · omega
      · exact this.2.2 d e
def ofB : List Nat → Nat
  | [] => 0
  | d :: ds => d + 256 * ofB ds
theorem ofD_sh {d : Nat} {ds : List Nat} (h : d < 16) : ofD (d :: ds) >>> 4 = ofD ds := by
  rw [Nat.shiftRight_eq_div_pow]; show (d + 16 * ofD ds) / 2 ^ 4 = _; omega
theorem ofB_sh {d : Nat} {ds : List Nat} (h : d < 256) : ofB (d :: ds) >>> 8 = ofB ds := by
  rw [Nat.shiftRight_eq_div_pow]; show (d + 256 * ofB ds) / 2 ^ 8 = _; omega
theorem ofB_sh2 {d e : Nat} {ds : List Nat} (h : d < 256) (h2 : e < 256) : ofB (d :: e :: ds) >>> 16 = ofB ds := by
  rw [show 16 = 8 + 8 from rfl, Nat.shiftRight_add, ofB_sh h, ofB_sh h2]
theorem ofD_add {a b : Nat} {as bs : List Nat} : ofD (a :: as) + ofD (b :: bs) = (a + b) + 16 * (ofD as + ofD bs) := by
  show a + 16 * ofD as + (b + 16 * ofD bs) = _; omega
theorem ofB_add {a b : Nat} {as bs : List Nat} : ofB (a :: as) + ofB (b :: bs) = (a + b) + 256 * (ofB as + ofB bs) := by
  show a + 256 * ofB as + (b + 256 * ofB bs) = _; omega
theorem ofD_c {a : Nat} {as : List Nat} : a + 16 * ofD as = ofD (a :: as) := rfl
theorem ofB_c {a : Nat} {as : List Nat} : a + 256 * ofB as = ofB (a :: as) := rfl
theorem ofD_n {as : List Nat} : ofD as + ofD [] = ofD as := rfl
theorem ofB_n {as : List Nat} : ofB as + ofB [] = ofB as := rfl
theorem ofDB {a : Nat} {as bs : List Nat} (h : ofD as = ofB bs) : ofD (a :: 0 :: as) = ofB (a :: bs) := by
  show a + 16 * (0 + 16 * ofD as) = a + 256 * ofB bs
  omega
theorem ofB_mod {a : Nat} {as : List Nat} {k : Nat} (hk : k ≤ 8) (ha : a < 2 ^ k) : ofB (a :: as) % 2 ^ k = a := by
  show (a + 256 * ofB as) % 2 ^ k = a
  have : 256 = 2 ^ k * 2 ^ (8 - k) := by rw [← Nat.pow_add, show k + (8 - k) = 8 by omega]
  rw [this, Nat.mul_assoc, Nat.add_mul_mod_self_left, Nat.mod_eq_of_lt ha]
theorem pcI_eq {n : Nat} (hn : n < 16 ^ 8) : pcI n = lob n 32 := by
  obtain ⟨ds, hl, hd, rfl⟩ : ∃ ds : List Nat, ds.length = 8 ∧ (∀ d ∈ ds, d < 16) ∧ n = ofD ds := ⟨digD n 8, (digD_of hn).2.1, (digD_of hn).2.2, (digD_of hn).1⟩
  have hs := lob_sum hd
  have hp := D_p4 hd
  rw [hl, show repD 5 8 = 1431655765 from rfl, show repD 3 8 = 858993459 from rfl] at hp
  rw [hl] at hs
  simp only [pcI]
  rw [hp.2, hs]
  clear hp hs
  have hq : ∀ x ∈ ds.map p4, x ≤ 4 := by
    intro x hx
    obtain ⟨d, _, rfl⟩ := List.mem_map.mp hx
    exact p4_le d
  have hl2 : (ds.map p4).length = 8 := by simpa using hl
  generalize ds.map p4 = ps at hq hl2
  clear hl hd hn
  obtain ⟨a0, a1, a2, a3, a4, a5, a6, a7, rfl⟩ : ∃ a0 a1 a2 a3 a4 a5 a6 a7, ps = [a0, a1, a2, a3, a4, a5, a6, a7] := by
    rcases ps with _ | ⟨a0, _ | ⟨a1, _ | ⟨a2, _ | ⟨a3, _ | ⟨a4, _ | ⟨a5, _ | ⟨a6, _ | ⟨a7, _ | ⟨a8, ps⟩⟩⟩⟩⟩⟩⟩⟩⟩
    all_goals first
      | exact ⟨_, _, _, _, _, _, _, _, rfl⟩
      | (simp at hl2; done)
      | (simp at hl2; omega)
  simp only [List.forall_mem_cons] at hq
  obtain ⟨h0, h1, h2, h3, h4, h5, h6, h7, _⟩ := hq
  have e1 : ofD [a0, a1, a2, a3, a4, a5, a6, a7] + ofD [a0, a1, a2, a3, a4, a5, a6, a7] >>> 4 = ofD [a0 + a1, a1 + a2, a2 + a3, a3 + a4, a4 + a5, a5 + a6, a6 + a7, a7] := by
    rw [ofD_sh (by omega)]
    simp only [ofD_add, ofD_n, ofD_c]
  have k15 : ∀ x : Nat, x ≤ 8 → x &&& 15 = x := by
    intro x hx
    rw [show (15 : Nat) = 2 ^ 4 - 1 from rfl, Nat.and_two_pow_sub_one_eq_mod]
    omega
  have e2 : ofD [a0 + a1, a1 + a2, a2 + a3, a3 + a4, a4 + a5, a5 + a6, a6 + a7, a7] &&& 252645135 = ofB [a0 + a1, a2 + a3, a4 + a5, a6 + a7] := by
    rw [show (252645135 : Nat) = ofD [15, 0, 15, 0, 15, 0, 15, 0] from rfl, D_zip (ds := [a0 + a1, a1 + a2, a2 + a3, a3 + a4, a4 + a5, a5 + a6, a6 + a7, a7]) (ms := [15, 0, 15, 0, 15, 0, 15, 0]) (by simp only [List.forall_mem_cons]; simp; omega) (by simp) rfl]
    simp only [List.zipWith_cons_cons, List.zipWith_nil_left, Nat.and_zero]
    rw [k15 _ (by omega), k15 _ (by omega), k15 _ (by omega), k15 _ (by omega)]
    exact ofDB (ofDB (ofDB (ofDB (rfl))))
  rw [e1, e2, ofB_sh (by omega)]
  simp only [ofB_add, ofB_n, ofB_c]
  rw [ofB_sh2 (by omega) (by omega)]
  simp only [ofB_add, ofB_n, ofB_c]
  rw [show (63 : Nat) = 2 ^ 6 - 1 from rfl, Nat.and_two_pow_sub_one_eq_mod, ofB_mod (by omega) (by omega)]
  simp only [List.sum_cons, List.sum_nil]
  omega
theorem pcL_eq {n : Nat} (hn : n < 16 ^ 16) : pcL n = lob n 64 := by
  obtain ⟨ds, hl, hd, rfl⟩ : ∃ ds : List Nat, ds.length = 16 ∧ (∀ d ∈ ds, d < 16) ∧ n = ofD ds := ⟨digD n 16, (digD_of hn).2.1, (digD_of hn).2.2, (digD_of hn).1⟩
  have hs := lob_sum hd
  have hp := D_p4 hd
  rw [hl, show repD 5 16 = 6148914691236517205 from rfl, show repD 3 16 = 3689348814741910323 from rfl] at hp
  rw [hl] at hs
  simp only [pcL]
  rw [hp.2, hs]
  clear hp hs
  have hq : ∀ x ∈ ds.map p4, x ≤ 4 := by
    intro x hx
    obtain ⟨d, _, rfl⟩ := List.mem_map.mp hx
    exact p4_le d
  have hl2 : (ds.map p4).length = 16 := by simpa using hl
  generalize ds.map p4 = ps at hq hl2
  clear hl hd hn
  obtain ⟨a0, a1, a2, a3, a4, a5, a6, a7, a8, a9, a10, a11, a12, a13, a14, a15, rfl⟩ : ∃ a0 a1 a2 a3 a4 a5 a6 a7 a8 a9 a10 a11 a12 a13 a14 a15, ps = [a0, a1, a2, a3, a4, a5, a6, a7, a8, a9, a10, a11, a12, a13, a14, a15] := by
    rcases ps with _ | ⟨a0, _ | ⟨a1, _ | ⟨a2, _ | ⟨a3, _ | ⟨a4, _ | ⟨a5, _ | ⟨a6, _ | ⟨a7, _ | ⟨a8, _ | ⟨a9, _ | ⟨a10, _ | ⟨a11, _ | ⟨a12, _ | ⟨a13, _ | ⟨a14, _ | ⟨a15, _ | ⟨a16, ps⟩⟩⟩⟩⟩⟩⟩⟩⟩⟩⟩⟩⟩⟩⟩⟩⟩
    all_goals first
      | exact ⟨_, _, _, _, _, _, _, _, _, _, _, _, _, _, _, _, rfl⟩
      | (simp at hl2; done)
      | (simp at hl2; omega)
  simp only [List.forall_mem_cons] at hq
  obtain ⟨h0, h1, h2, h3, h4, h5, h6, h7, h8, h9, h10, h11, h12, h13, h14, h15, _⟩ := hq
  have e1 : ofD [a0, a1, a2, a3, a4, a5, a6, a7, a8, a9, a10, a11, a12, a13, a14, a15] + ofD [a0, a1, a2, a3, a4, a5, a6, a7, a8, a9, a10, a11, a12, a13, a14, a15] >>> 4 = ofD [a0 + a1, a1 + a2, a2 + a3, a3 + a4, a4 + a5, a5 + a6, a6 + a7, a7 + a8, a8 + a9, a9 + a10, a10 + a11, a11 + a12, a12 + a13, a13 + a14, a14 + a15, a15] := by
    rw [ofD_sh (by omega)]
    simp only [ofD_add, ofD_n, ofD_c]
  have k15 : ∀ x : Nat, x ≤ 8 → x &&& 15 = x := by
    intro x hx
    rw [show (15 : Nat) = 2 ^ 4 - 1 from rfl, Nat.and_two_pow_sub_one_eq_mod]
    omega
  have e2 : ofD [a0 + a1, a1 + a2, a2 + a3, a3 + a4, a4 + a5, a5 + a6, a6 + a7, a7 + a8, a8 + a9, a9 + a10, a10 + a11, a11 + a12, a12 + a13, a13 + a14, a14 + a15, a15] &&& 1085102592571150095 = ofB [a0 + a1, a2 + a3, a4 + a5, a6 + a7, a8 + a9, a10 + a11, a12 + a13, a14 + a15] := by
    rw [show (1085102592571150095 : Nat) = ofD [15, 0, 15, 0, 15, 0, 15, 0, 15, 0, 15, 0, 15, 0, 15, 0] from rfl, D_zip (ds := [a0 + a1, a1 + a2, a2 + a3, a3 + a4, a4 + a5, a5 + a6, a6 + a7, a7 + a8, a8 + a9, a9 + a10, a10 + a11, a11 + a12, a12 + a13, a13 + a14, a14 + a15, a15]) (ms := [15, 0, 15, 0, 15, 0, 15, 0, 15, 0, 15, 0, 15, 0, 15, 0]) (by simp only [List.forall_mem_cons]; simp; omega) (by simp) rfl]
    simp only [List.zipWith_cons_cons, List.zipWith_nil_left, Nat.and_zero]
    rw [k15 _ (by omega), k15 _ (by omega), k15 _ (by omega), k15 _ (by omega), k15 _ (by omega), k15 _ (by omega), k15 _ (by omega), k15 _ (by omega)]
    exact ofDB (ofDB (ofDB (ofDB (ofDB (ofDB (ofDB (ofDB (rfl))))))))
  rw [e1, e2, ofB_sh (by omega)]
  simp only [ofB_add, ofB_n, ofB_c]
  rw [ofB_sh2 (by omega) (by omega)]
  simp only [ofB_add, ofB_n, ofB_c]
  rw [show 32 = 16 + 16 from rfl, Nat.shiftRight_add, ofB_sh2 (by omega) (by omega), ofB_sh2 (by omega) (by omega)]
  simp only [ofB_add, ofB_n, ofB_c]
  rw [show (127 : Nat) = 2 ^ 7 - 1 from rfl, Nat.and_two_pow_sub_one_eq_mod, ofB_mod (by omega) (by omega)]
  simp only [List.sum_cons, List.sum_nil]
  omega
