/-! QUARRELS (pure): the fewest LAWS that can't hold together -/
def axP (W : Nat → Int → Int) (m pool : Int) (T : Prop) (l : Int) : Prop := (0 ≤ l ∧ l < m) ∧ ib pool l ∧ (tal (W 0 l) ↔ T)
def fwk (W : Nat → Int → Int) (m S pool : Int) (T : Prop) (n : Int) : Prop := ∃ ls a b x, (ls.length : Int) = n ∧ inL (axP W m pool T) ls ∧ wlk W ls a b x ∧ farS S a b x
def fwB (W : Nat → Int → Int) (m S pool n : Int) : Prop := fwk W m S pool False n ∨ fwk W m S pool True n
def cbs (W : Nat → Int → Int) (m S pool : Int) (T : Prop) : Prop := ∃ u, onS S u ∧ satN W (axS W pool T m) m u
def infB (W : Nat → Int → Int) (m S pool : Int) : Prop := ¬ (cbs W m S pool False ∧ cbs W m S pool True)
def subB (m Y pool : Int) : Prop := ∀ l, 0 ≤ l → l < m → ib Y l → ib pool l
def hasB (W : Nat → Int → Int) (m S pool k : Int) : Prop := ∃ n, 1 ≤ n ∧ n ≤ k ∧ fwB W m S pool n
section QUA
variable {W : Nat → Int → Int} {m S pool Y : Int} {T : Prop} {n : Int}
theorem satN_axP {u : Int → Int} : satN W (axS W pool T m) m u ↔ ∀ l, axP W m pool T l → satL W l u := by
  constructor
  · exact fun z l hl => z l hl.1.1 hl.1.2 ((ib_axS hl.1.1 hl.1.2).mpr hl.2)
  · exact fun z l l0 l1 hl => z l ⟨⟨l0, l1⟩, (ib_axS l0 l1).mp hl⟩
theorem axP_ne (hO : LwO m W) {l : Int} (h : axP W m pool T l) : ¬ W 1 l = W 2 l := (hO.r h.1.1 h.1.2).2.2.2.2.2.2.2.1
theorem axP_in (hO : LwO m W) {l : Int} (h : axP W m pool T l) : in6 (W 1 l) ∧ in6 (W 2 l) := by
  have o := hO.r h.1.1 h.1.2
  unfold in6
  omega
theorem fwk_1 (hS : 2 ≤ S) (h : fwk W m S pool T n) : 1 ≤ n := by
  obtain ⟨ls, a, b, x, h1, h2, h3, h4⟩ := h
  cases ls with
  | nil =>
    obtain ⟨rfl, rfl⟩ := h3
    unfold farS at h4
    omega
  | cons s ls => rw [List.length_cons] at h1; omega
theorem inf_trail (hO : LwO m W) (hS : 2 ≤ S) (h : ¬ cbs W m S pool T) : ∃ ls a b x, (ls.map Prod.fst).Nodup ∧ inL (axP W m pool T) ls ∧ wlk W ls a b x ∧ farS S a b x := far_trail hS (fun l hl => axP_ne hO hl) (fun ⟨u, h1, h2⟩ => h ⟨u, h1, satN_axP.mpr h2⟩)
theorem inf_far1 (hO : LwO m W) (hS : 2 ≤ S) (h : ¬ cbs W m S pool T) : ∃ n, 1 ≤ n ∧ n ≤ cnt (ib pool) m.toNat ∧ fwk W m S pool T n := by
  obtain ⟨ls, a, b, x, h1, h2, h3, h4⟩ := inf_trail hO hS h
  have f : fwk W m S pool T ls.length := ⟨ls, a, b, x, rfl, h2, h3, h4⟩
  refine ⟨_, fwk_1 hS f, ?_, f⟩
  have := nodup_cnt (n := m.toNat) (Q := ib pool) _ h1 (fun l hl => by
    obtain ⟨s, hs, e⟩ := List.mem_map.mp hl
    have := h2 s hs
    rw [← e]
    exact ⟨this.1.1, by have := this.1; omega, this.2.1⟩)
  rw [List.length_map] at this
  exact this
theorem inf_six1 (hO : LwO m W) (hS : 2 ≤ S) (h : ¬ cbs W m S pool T) : ∃ n, 1 ≤ n ∧ n ≤ 6 ∧ fwk W m S pool T n := by
  obtain ⟨ls, a, b, x, h1, h2, h3, h4⟩ := inf_trail hO hS h
  obtain ⟨ls, a, b, x, k1, k2, k3, k4⟩ := far_six (S := S) (fun l hl => axP_in hO hl) _ ls rfl a b x h2 h3 h4 hS
  have f : fwk W m S pool T ls.length := ⟨ls, a, b, x, rfl, k1, k2, k3⟩
  exact ⟨_, fwk_1 hS f, by omega, f⟩
theorem infB_or (h : infB W m S pool) : ¬ cbs W m S pool False ∨ ¬ cbs W m S pool True := by
  by_cases c : cbs W m S pool False
  · exact Or.inr (fun z => h ⟨c, z⟩)
  · exact Or.inl c
theorem inf_far (hO : LwO m W) (hS : 2 ≤ S) (h : infB W m S pool) : hasB W m S pool (cnt (ib pool) m.toNat) := by
  rcases infB_or h with h | h
  · obtain ⟨n, a, b, c⟩ := inf_far1 hO hS h
    exact ⟨n, a, b, Or.inl c⟩
  · obtain ⟨n, a, b, c⟩ := inf_far1 hO hS h
    exact ⟨n, a, b, Or.inr c⟩
theorem inf_six (hO : LwO m W) (hS : 2 ≤ S) (h : infB W m S pool) : hasB W m S pool 6 := by
  rcases infB_or h with h | h
  · obtain ⟨n, a, b, c⟩ := inf_six1 hO hS h
    exact ⟨n, a, b, Or.inl c⟩
  · obtain ⟨n, a, b, c⟩ := inf_six1 hO hS h
    exact ⟨n, a, b, Or.inr c⟩
theorem fwk_mono (hY : subB m Y pool) (h : fwk W m S Y T n) : fwk W m S pool T n := by
  obtain ⟨ls, a, b, x, h1, h2, h3, h4⟩ := h
  exact ⟨ls, a, b, x, h1, fun s hs => ⟨(h2 s hs).1, hY _ (h2 s hs).1.1 (h2 s hs).1.2 (h2 s hs).2.1, (h2 s hs).2.2⟩, h3, h4⟩
theorem fwB_mono (hY : subB m Y pool) (h : fwB W m S Y n) : fwB W m S pool n := h.imp (fwk_mono hY) (fwk_mono hY)
theorem hasB_mono {k j : Int} (hY : subB m Y pool) (hk : k ≤ j) (h : hasB W m S Y k) : hasB W m S pool j := by
  obtain ⟨n, a, b, c⟩ := h
  exact ⟨n, a, by omega, fwB_mono hY c⟩
theorem wlk_in6 (hO : LwO m W) : ∀ {ls : List (Int × Int)} {a b x : Int}, inL (axP W m pool T) ls → wlk W ls a b x → ls ≠ [] → in6 a ∧ in6 b := by
  intro ls
  induction ls with
  | nil => intro a b x _ _ h; exact absurd rfl h
  | cons s ls ih =>
    rintro a b x hP ⟨g, h1, h2⟩ _
    obtain ⟨p1, p2⟩ := inL_cons.mp hP
    have i := axP_in hO p1
    have hb : in6 b := by
      rcases h1 with z | z
      · rw [z.2.1]; exact i.2
      · rw [z.2.2.1]; exact i.1
    refine ⟨?_, hb⟩
    cases ls with
    | nil =>
      obtain ⟨e, _⟩ := h2
      rw [e]
      rcases h1 with z | z
      · rw [z.1]; exact i.1
      · rw [z.2.1]; exact i.2
    | cons t ls => exact (ih p2 h2 (List.cons_ne_nil _ _)).1
/-- LAWS of a walk that is too far can't hold together -/
theorem far_inf (hO : LwO m W) (hS : 2 ≤ S) (h : fwk W m S pool T n) : ∃ Y, 0 ≤ Y ∧ (∀ l, 0 ≤ l → ib Y l → l < m ∧ ib pool l) ∧ cnt (ib Y) m.toNat ≤ n ∧ ¬ cbs W m S Y T := by
  have n1 := fwk_1 hS h
  obtain ⟨ls, a, b, x, h1, h2, h3, h4⟩ := h
  have hm := hO.1
  have ne : ls ≠ [] := fun e => by rw [e] at h1; simp at h1; omega
  have iY : ∀ l, 0 ≤ l → (ib (bset (fun l => ∃ s, s ∈ ls ∧ s.1 = l) m.toNat) l ↔ l < m ∧ ∃ s, s ∈ ls ∧ s.1 = l) := fun l l0 => by
    rw [ib_bset l0]
    constructor
    · exact fun z => ⟨by omega, z.2⟩
    · exact fun z => ⟨by omega, z.2⟩
  refine ⟨bset (fun l => ∃ s, s ∈ ls ∧ s.1 = l) m.toNat, bset_0 _, fun l l0 hl => ?_, ?_, ?_⟩
  · obtain ⟨z1, s, hs, e⟩ := (iY l l0).mp hl
    exact ⟨z1, by rw [← e]; exact (h2 s hs).2.1⟩
  · have := used_cnt (n := m.toNat) ls
    have e : cnt (ib (bset (fun l => ∃ s, s ∈ ls ∧ s.1 = l) m.toNat)) m.toNat = cnt (fun i => ∃ s, s ∈ ls ∧ s.1 = i) m.toNat := cnt_congr (fun i i0 i1 => by
      rw [iY i i0]
      exact ⟨fun z => z.2, fun z => ⟨by omega, z⟩⟩)
    omega
  · rintro ⟨u, u1, u2⟩
    have sat := satN_axP.mp u2
    have := wlk_sat (u := u) (fun s hs => sat s.1 ⟨(h2 s hs).1, (iY _ (h2 s hs).1.1).mpr ⟨(h2 s hs).1.2, s, hs, rfl⟩, (h2 s hs).2.2⟩) h3
    obtain ⟨ia, jb⟩ := wlk_in6 hO h2 h3 ne
    have ra := u1 a ia
    have rb := u1 b jb
    rcases h4 with z | z
    · rw [z.1] at this; omega
    · omega
theorem farB_inf (hO : LwO m W) (hS : 2 ≤ S) (h : fwB W m S pool n) : ∃ Y, 0 ≤ Y ∧ (∀ l, 0 ≤ l → ib Y l → l < m ∧ ib pool l) ∧ cnt (ib Y) m.toNat ≤ n ∧ infB W m S Y := by
  rcases h with h | h
  · obtain ⟨Y, a, b, c, e⟩ := far_inf hO hS h
    exact ⟨Y, a, b, c, fun z => e z.1⟩
  · obtain ⟨Y, a, b, c, e⟩ := far_inf hO hS h
    exact ⟨Y, a, b, c, fun z => e z.2⟩
theorem cbs_mono (hY : subB m Y pool) (h : cbs W m S pool T) : cbs W m S Y T := by
  obtain ⟨u, h1, h2⟩ := h
  exact ⟨u, h1, satN_axP.mpr (fun l hl => satN_axP.mp h2 l ⟨hl.1, hY l hl.1.1 hl.1.2 hl.2.1, hl.2.2⟩)⟩
theorem infB_mono (hY : subB m Y pool) (h : infB W m S Y) : infB W m S pool := fun z => h ⟨cbs_mono hY z.1, cbs_mono hY z.2⟩
/-- the fewest, k or fewer; 0: none -/
def fewR (W : Nat → Int → Int) (m S pool k r : Int) : Prop := (r = 0 ∧ ∀ n, 1 ≤ n → n ≤ k → ¬ fwB W m S pool n) ∨ ((1 ≤ r ∧ r ≤ k) ∧ fwB W m S pool r ∧ ∀ n, 1 ≤ n → n < r → ¬ fwB W m S pool n)
theorem fewR_has {k r : Int} (h : fewR W m S pool k r) : ¬ r = 0 ↔ hasB W m S pool k := by
  rcases h with ⟨a, b⟩ | ⟨a, b, c⟩
  · exact ⟨fun z => absurd a z, fun ⟨n, n1, n2, n3⟩ => absurd n3 (b n n1 n2)⟩
  · exact ⟨fun _ => ⟨r, a.1, a.2, b⟩, fun _ => by omega⟩
/-- the answer: of the fewest LAWS, and of these the least -/
def qLst (W : Nat → Int → Int) (m S pool K : Int) : Prop := 0 ≤ K ∧ (∀ l, 0 ≤ l → ib K l → l < m ∧ ib pool l) ∧ infB W m S K ∧ ∀ Y, 0 ≤ Y → (∀ l, 0 ≤ l → ib Y l → l < m ∧ ib pool l) → infB W m S Y → cnt (ib K) m.toNat < cnt (ib Y) m.toNat ∨ (cnt (ib K) m.toNat = cnt (ib Y) m.toNat ∧ K ≤ Y)
theorem qLst_uniq {K K' : Int} (h : qLst W m S pool K) (h' : qLst W m S pool K') : K = K' := by
  have a := h.2.2.2 K' h'.1 h'.2.1 h'.2.2.1
  have b := h'.2.2.2 K h.1 h.2.1 h.2.2.1
  omega
theorem nat_high : ∀ b a : Nat, a < b → ∃ j, b.testBit j = true ∧ a.testBit j = false ∧ ∀ p, j < p → a.testBit p = b.testBit p := by
  intro b
  induction b using Nat.strongRecOn with
  | _ b ih =>
    intro a hab
    by_cases c : a / 2 = b / 2
    · refine ⟨0, ?_, ?_, fun p hp => ?_⟩
      · rw [Nat.testBit_zero]; simp; omega
      · rw [Nat.testBit_zero]; simp; omega
      · obtain ⟨q, rfl⟩ : ∃ q, p = q + 1 := ⟨p - 1, by omega⟩
        rw [Nat.testBit_succ, Nat.testBit_succ, c]
    · obtain ⟨j, h1, h2, h3⟩ := ih (b / 2) (by omega) (a / 2) (by omega)
      refine ⟨j + 1, by rw [Nat.testBit_succ]; exact h1, by rw [Nat.testBit_succ]; exact h2, fun p hp => ?_⟩
      obtain ⟨q, rfl⟩ : ∃ q, p = q + 1 := ⟨p - 1, by omega⟩
      rw [Nat.testBit_succ, Nat.testBit_succ]
      exact h3 q (by omega)
theorem ib_high {a b : Int} (ha : 0 ≤ a) (hab : a < b) : ∃ j, 0 ≤ j ∧ ib b j ∧ ¬ ib a j ∧ ∀ p, j < p → (ib a p ↔ ib b p) := by
  obtain ⟨j, h1, h2, h3⟩ := nat_high b.toNat a.toNat (by omega)
  refine ⟨j, by omega, h1, fun z => ?_, fun p hp => ?_⟩
  · unfold ib at z
    rw [Int.toNat_natCast, h2] at z
    cases z
  · unfold ib
    rw [h3 p.toNat (by omega)]
/-- LAWS from i on have been looked at -/
def lsI (W : Nat → Int → Int) (m S F k i K : Int) : Prop := 0 ≤ K ∧ (∀ l, 0 ≤ l → ib K l → l < m ∧ ib F l) ∧ (∀ p, 0 ≤ p → p < i → (ib K p ↔ ib F p)) ∧ hasB W m S K k ∧ ∀ j, i ≤ j → ib K j → ∀ Z, 0 ≤ Z → (∀ p, 0 ≤ p → ib Z p → (j < p ∧ ib K p) ∨ (p < j ∧ ib F p)) → ¬ hasB W m S Z k
theorem lsI_keep {F k i K : Int} (h : lsI W m S F k (i + 1) K) (hi : 0 ≤ i) (hn : ib K i → ¬ hasB W m S (zandn K (zbit i)) k) : lsI W m S F k i K := by
  obtain ⟨h1, h2, h3, h4, h5⟩ := h
  refine ⟨h1, h2, fun p p0 p1 => h3 p p0 (by omega), h4, fun j j0 hj Z z0 hZ hh => ?_⟩
  by_cases c : j = i
  · subst c
    refine hn hj (hasB_mono (fun l l0 _ hl => ?_) (Int.le_refl k) hh)
    rw [ib_zandn, ib_zbit hi l0]
    rcases hZ l l0 hl with y | y
    · exact ⟨y.2, by omega⟩
    · exact ⟨(h3 l l0 (by omega)).mpr y.2, by omega⟩
  · exact h5 j (by omega) hj Z z0 hZ hh
theorem lsI_drop {F k i K : Int} (h : lsI W m S F k (i + 1) K) (hi : 0 ≤ i) (hh : hasB W m S (zandn K (zbit i)) k) : lsI W m S F k i (zandn K (zbit i)) := by
  obtain ⟨h1, h2, h3, h4, h5⟩ := h
  have iz : ∀ l, 0 ≤ l → (ib (zandn K (zbit i)) l ↔ ib K l ∧ ¬ l = i) := fun l l0 => by rw [ib_zandn, ib_zbit hi l0]
  refine ⟨zandn_0, fun l l0 hl => h2 l l0 ((iz l l0).mp hl).1, fun p p0 p1 => ?_, hh, fun j j0 hj Z z0 hZ => ?_⟩
  · rw [iz p p0, h3 p p0 (by omega)]
    exact ⟨fun z => z.1, fun z => ⟨z, by omega⟩⟩
  · have := (iz j (by omega)).mp hj
    refine h5 j (by omega) this.1 Z z0 (fun p p0 hp => ?_)
    rcases hZ p p0 hp with y | y
    · exact Or.inl ⟨y.1, ((iz p p0).mp y.2).1⟩
    · exact Or.inr y
theorem lsI_end (hO : LwO m W) (hS : 2 ≤ S) {F k K : Int} (h : lsI W m S F k 0 K) (hmin : ∀ n, 1 ≤ n → n < k → ¬ fwB W m S F n) : qLst W m S F K ∧ cnt (ib K) m.toNat = k := by
  obtain ⟨h1, h2, h3, h4, h5⟩ := h
  have low : ∀ Y, (∀ l, 0 ≤ l → ib Y l → l < m ∧ ib F l) → infB W m S Y → k ≤ cnt (ib Y) m.toNat := fun Y hY hi => by
    obtain ⟨n, n1, n2, n3⟩ := inf_far hO hS hi
    refine Classical.byContradiction (fun c => hmin n n1 (by omega) (fwB_mono (fun l l0 _ hl => (hY l l0 hl).2) n3))
  obtain ⟨n, n1, n2, n3⟩ := h4
  obtain ⟨Y, y0, y1, y2, y3⟩ := farB_inf hO hS n3
  have yF : ∀ l, 0 ≤ l → ib Y l → l < m ∧ ib F l := fun l l0 hl => h2 l l0 (y1 l l0 hl).2
  have yk := low Y yF y3
  have eq : K = Y := ib_ext h1 y0 (fun j j0 => ⟨fun hj => Classical.byContradiction (fun c => by
    refine h5 j j0 hj Y y0 (fun p p0 hp => ?_) (hasB_mono (fun _ _ _ z => z) (by omega) (inf_far hO hS y3))
    have := (y1 p p0 hp).2
    by_cases z : p = j
    · subst z; exact absurd hp c
    · by_cases z2 : j < p
      · exact Or.inl ⟨z2, this⟩
      · exact Or.inr ⟨by omega, (yF p p0 hp).2⟩), fun hj => (y1 j j0 hj).2⟩)
  subst eq
  have ck : cnt (ib K) m.toNat = k := by omega
  refine ⟨⟨h1, h2, y3, fun Z z0 hZ hi => ?_⟩, ck⟩
  have zk := low Z hZ hi
  by_cases c : cnt (ib K) m.toNat < cnt (ib Z) m.toNat
  · exact Or.inl c
  · refine Or.inr ⟨by omega, Classical.byContradiction (fun lt => ?_)⟩
    obtain ⟨j, j0, j1, j2, j3⟩ := ib_high z0 (show Z < K by omega)
    refine h5 j j0 j1 Z z0 (fun p p0 hp => ?_) (hasB_mono (fun _ _ _ z => z) (by omega) (inf_far hO hS hi))
    by_cases z : p = j
    · subst z; exact absurd hp j2
    · by_cases z2 : j < p
      · exact Or.inl ⟨z2, (j3 p z2).mp hp⟩
      · exact Or.inr ⟨by omega, (hZ p p0 hp).2⟩
end QUA
