/-! small rows: heap accessors, ints as I z, loops -/
section BASE
variable {h : aH} {a b k j : Nat} {v : Value} {f : Nat → Int32} {g : Nat → Int64}
theorem a_sh_fset : a_sh (a_fset h a k v) = a_sh h := rfl
theorem a_sh_iall : a_sh (a_iall h a f) = a_sh h := rfl
theorem a_sh_lall : a_sh (a_lall h a g) = a_sh h := rfl
theorem a_fv_iall : a_fv (a_iall h a f) = a_fv h := rfl
theorem a_fv_lall : a_fv (a_lall h a g) = a_fv h := rfl
theorem a_ia_fset : a_ia (a_fset h a k v) = a_ia h := rfl
theorem a_ia_lall : a_ia (a_lall h a g) = a_ia h := rfl
theorem a_la_fset : a_la (a_fset h a k v) = a_la h := rfl
theorem a_la_iall : a_la (a_iall h a f) = a_la h := rfl
theorem a_fv_fset : a_fv (a_fset h a k v) b j = if b = a ∧ j = k then v else a_fv h b j := rfl
theorem a_ia_iall : a_ia (a_iall h a f) b = if b = a then f else a_ia h b := rfl
theorem a_la_lall : a_la (a_lall h a g) b = if b = a then g else a_la h b := rfl
theorem Lay_iall : Lay (a_iall h a f) = Lay h := rfl
theorem Lay_lall : Lay (a_lall h a g) = Lay h := rfl
theorem Lay_fset (hk : (a_ptr a k == 0) = true) : Lay (a_fset h a k v) = Lay h := by
  refine propext ⟨fun q => ⟨q.1, fun b j hb => ?_⟩, fun q => ⟨q.1, fun b j hb => ?_⟩⟩
  · have := q.2 b j hb
    rw [a_fv_fset] at this
    split at this
    · rename_i e; obtain ⟨rfl, rfl⟩ := e; rw [hk] at hb; cases hb
    · exact this
  · rw [a_fv_fset]
    split
    · rename_i e; obtain ⟨rfl, rfl⟩ := e; rw [hk] at hb; cases hb
    · exact q.2 b j hb
theorem a_iall_self : a_iall h a (a_ia h a) = h := by
  obtain ⟨x, y, z, w⟩ := h
  simp only [a_iall, a_ia, Prod.mk.injEq, true_and, and_true]
  funext b
  split <;> simp_all
theorem a_iall_iall {f2 : Nat → Int32} : a_iall (a_iall h a f) a f2 = a_iall h a f2 := by
  obtain ⟨x, y, z, w⟩ := h
  simp only [a_iall, Prod.mk.injEq, true_and, and_true]
  funext b
  split <;> simp_all
theorem a_fset_fset {w : Value} : a_fset (a_fset h a k v) a k w = a_fset h a k w := by
  obtain ⟨x, y, z⟩ := h
  simp only [a_fset, Prod.mk.injEq, true_and, and_true]
  funext b j
  split <;> simp_all
theorem a_fset_self (e : a_fv h a k = v) : a_fset h a k v = h := by
  subst e
  obtain ⟨x, y, z⟩ := h
  simp only [a_fset, a_fv, Prod.mk.injEq, true_and, and_true]
  funext b j
  split <;> simp_all
theorem a_iall_fset {c : Nat} : a_iall (a_fset h a k v) c f = a_fset (a_iall h c f) a k v := rfl
theorem a_lall_fset {c : Nat} : a_lall (a_fset h a k v) c g = a_fset (a_lall h c g) a k v := rfl
theorem a_iall_lall {c : Nat} : a_iall (a_lall h a g) c f = a_lall (a_iall h c f) a g := rfl
theorem a_iall_srt {c : Nat} {f2 : Nat → Int32} (hlt : c < a) : a_iall (a_iall h a f) c f2 = a_iall (a_iall h c f2) a f := by
  obtain ⟨x, y, z, w⟩ := h
  simp only [a_iall, Prod.mk.injEq, true_and, and_true]
  funext b
  by_cases h1 : b = c
  · subst h1
    have : ¬ b = a := by omega
    simp [this]
  · simp [h1]
theorem a_lall_srt {c : Nat} {g2 : Nat → Int64} (hlt : c < a) : a_lall (a_lall h a g) c g2 = a_lall (a_lall h c g2) a g := by
  obtain ⟨x, y, z, w, n⟩ := h
  simp only [a_lall, Prod.mk.injEq, true_and, and_true]
  funext b
  by_cases h1 : b = c
  · subst h1
    have : ¬ b = a := by omega
    simp [this]
  · simp [h1]
theorem a_lall_lall {g2 : Nat → Int64} : a_lall (a_lall h a g) a g2 = a_lall h a g2 := by
  obtain ⟨x, y, z, w, n⟩ := h
  simp only [a_lall, Prod.mk.injEq, true_and, and_true]
  funext b
  split <;> simp_all
theorem a_fset_srt {c : Nat} {w : Value} (hlt : c < a ∨ (c = a ∧ j < k)) : a_fset (a_fset h a k v) c j w = a_fset (a_fset h c j w) a k v := by
  obtain ⟨x, y, z⟩ := h
  simp only [a_fset, Prod.mk.injEq, true_and, and_true]
  funext b i
  by_cases h1 : b = c ∧ i = j
  · obtain ⟨rfl, rfl⟩ := h1
    have : ¬ (b = a ∧ i = k) := by omega
    simp [this]
  · simp [h1]
theorem upd_upd (f : Nat → Int32) (k : Nat) (x y : Int32) : upd (upd f k x) k y = upd f k y := by
  funext j
  simp only [upd]
  split <;> rfl
end BASE
/-- ints: Int32.ofInt z, z an Int in the range -/
abbrev I (z : Int) : Int32 := Int32.ofInt z
theorem zadd (x y : Int) : I x + I y = I (x + y) := (Int32.ofInt_add x y).symm
theorem zsub (x y : Int) : I x - I y = I (x - y) := (Int32.ofInt_sub x y).symm
theorem zmul (x y : Int) : I x * I y = I (x * y) := (Int32.ofInt_mul x y).symm
theorem zneg (x : Int) : - I x = I (-x) := (Int32.ofInt_neg x).symm
theorem ztoInt {x : Int} (h1 : -2147483648 ≤ x) (h2 : x < 2147483648) : (I x).toInt = x := Int32.toInt_ofInt_of_le (by omega) (by omega)
theorem zlt {x y : Int} (h1 : -2147483648 ≤ x) (h2 : x < 2147483648) (h3 : -2147483648 ≤ y) (h4 : y < 2147483648) : (I x < I y) = (x < y) := by
  rw [Int32.lt_iff_toInt_lt, ztoInt h1 h2, ztoInt h3 h4]
theorem zle {x y : Int} (h1 : -2147483648 ≤ x) (h2 : x < 2147483648) (h3 : -2147483648 ≤ y) (h4 : y < 2147483648) : (I x ≤ I y) = (x ≤ y) := by
  rw [Int32.le_iff_toInt_le, ztoInt h1 h2, ztoInt h3 h4]
theorem zeq {x y : Int} (h1 : -2147483648 ≤ x) (h2 : x < 2147483648) (h3 : -2147483648 ≤ y) (h4 : y < 2147483648) : (I x = I y) = (x = y) := by
  rw [← Int32.toInt_inj, ztoInt h1 h2, ztoInt h3 h4]
theorem z0 : (0 : Int32) = I 0 := rfl
theorem zeq0 {x : Int} (h1 : -2147483648 ≤ x) (h2 : x < 2147483648) : (I x = 0) = (x = 0) := by rw [z0, zeq h1 h2 (by omega) (by omega)]
theorem zlt0 {x : Int} (h1 : -2147483648 ≤ x) (h2 : x < 2147483648) : (I x < 0) = (x < 0) := by rw [z0, zlt h1 h2 (by omega) (by omega)]
theorem zle0 {x : Int} (h1 : -2147483648 ≤ x) (h2 : x < 2147483648) : (I x ≤ 0) = (x ≤ 0) := by rw [z0, zle h1 h2 (by omega) (by omega)]
theorem z0le {x : Int} (h1 : -2147483648 ≤ x) (h2 : x < 2147483648) : (0 ≤ I x) = (0 ≤ x) := by rw [z0, zle (by omega) (by omega) h1 h2]
theorem z0lt {x : Int} (h1 : -2147483648 ≤ x) (h2 : x < 2147483648) : (0 < I x) = (0 < x) := by rw [z0, zlt (by omega) (by omega) h1 h2]
theorem zin {x : Int} {n : Nat} (h1 : 0 ≤ x) (h2 : x < 2147483648) : vp_in (I x) n = (x < n) := by
  rw [vp_in_iff, ztoInt (by omega) h2]
  exact propext ⟨fun q => q.2, fun q => ⟨h1, q⟩⟩
theorem zinT {x : Int} {n : Nat} (h1 : 0 ≤ x) (h2 : x < (n : Int)) (h3 : x < 2147483648) : vp_in (I x) n = True := by rw [zin h1 h3]; exact eq_true h2
theorem zix {x : Int} (h1 : 0 ≤ x) (h2 : x < 2147483648) : (I x).toNatClampNeg = x.toNat := by
  show (I x).toInt.toNat = x.toNat
  rw [ztoInt (by omega) h2]
theorem zixn {n : Nat} (h2 : n < 2147483648) : (I (n : Int)).toNatClampNeg = n := by rw [zix (by omega) (by omega)]; rfl
theorem zinn {m n : Nat} (h2 : m < 2147483648) : vp_in (I (m : Int)) n = (m < n) := by rw [zin (by omega) (by omega)]; exact propext (by omega)
theorem zofNat (n : Nat) : Int32.ofNat n = I (n : Int) := rfl
theorem zof (x : Int32) : I x.toInt = x := Int32.ofInt_toInt x
theorem zrange (x : Int32) : -2147483648 ≤ x.toInt ∧ x.toInt < 2147483648 := ⟨Int32.le_toInt x, Int32.toInt_lt x⟩
theorem nB0 : (narrow .boolean (.int (I 0)) = .int (I 0)) = True := eq_true (by decide)
theorem nB1 : (narrow .boolean (.int (I 1)) = .int (I 1)) = True := eq_true (by decide)
theorem upd_I (g : Nat → Int) (k : Nat) (z : Int) : upd (fun j => I (g j)) k (I z) = fun j => I (if j = k then z else g j) := by
  funext j
  simp only [upd]
  split <;> rfl
/-- loops -/
theorem R_for {d ce sl y pc : Nat} {post : Option Value → aH → Prop} (n : Nat) (lv : Nat → List Value) (hh : Nat → aH) (step : ∀ i, i < n → R d ce sl y pc (lv (i + 1)) [] (hh (i + 1)) post → R d ce sl y pc (lv i) [] (hh i) post) (last : R d ce sl y pc (lv n) [] (hh n) post) : ∀ i, i ≤ n → R d ce sl y pc (lv i) [] (hh i) post := by
  intro i hi
  obtain ⟨j, rfl⟩ : ∃ j, n = i + j := ⟨n - i, by omega⟩
  clear hi
  induction j generalizing i with
  | zero => exact last
  | succ j ih =>
    refine step i (by omega) ?_
    have := ih (i + 1) (by rw [show i + 1 + j = i + (j + 1) by omega]; exact step) (by rw [show i + 1 + j = i + (j + 1) by omega]; exact last)
    exact this
theorem R_inv {d ce sl y pc : Nat} {post : Option Value → aH → Prop} (n : Nat) (J : Nat → List Value → aH → Prop) (step : ∀ i lv h, i < n → J i lv h → (∀ lv' h', J (i + 1) lv' h' → R d ce sl y pc lv' [] h' post) → R d ce sl y pc lv [] h post) (last : ∀ lv h, J n lv h → R d ce sl y pc lv [] h post) : ∀ i lv h, i ≤ n → J i lv h → R d ce sl y pc lv [] h post := by
  intro i
  obtain ⟨m, hm⟩ : ∃ m, m = n - i := ⟨_, rfl⟩
  induction m generalizing i with
  | zero =>
    intro lv h hi hJ
    obtain rfl : i = n := by omega
    exact last lv h hJ
  | succ m ih =>
    intro lv h hi hJ
    exact step i lv h (by omega) hJ (fun lv' h' hJ' => ih (i + 1) (by omega) lv' h' (by omega) hJ')
/-- a loop whose measure falls -/
theorem R_wf {d ce sl y pc : Nat} {post : Option Value → aH → Prop} (J : Nat → List Value → aH → Prop) (step : ∀ m lv h, J m lv h → (∀ m' lv' h', m' < m → J m' lv' h' → R d ce sl y pc lv' [] h' post) → R d ce sl y pc lv [] h post) : ∀ m lv h, J m lv h → R d ce sl y pc lv [] h post := by
  intro m
  induction m using Nat.strongRecOn with
  | _ m ih => intro lv h hJ; exact step m lv h hJ (fun m' lv' h' hlt hJ' => ih m' hlt lv' h' hJ')
theorem R.imp {d ce sl y pc : Nat} {lv st : List Value} {h : aH} {p1 p2 : Option Value → aH → Prop} (k : R d ce sl y pc lv st h p1) (hp : ∀ r h', p1 r h' → p2 r h') : R d ce sl y pc lv st h p2 := R_mono _ _ _ _ _ _ _ _ _ _ hp k
