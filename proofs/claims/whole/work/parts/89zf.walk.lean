/-! QUARRELS: walks along LAWS (pure). A walk's steps from its last to its first: the LAW, and the POINT that it leaves -/
def edg (W : Nat → Int → Int) (l a b g : Int) : Prop := (a = W 1 l ∧ b = W 2 l ∧ g = W 3 l) ∨ (stf (W 0 l) ∧ a = W 2 l ∧ b = W 1 l ∧ g = -(W 3 l))
def wlk (W : Nat → Int → Int) : List (Int × Int) → Int → Int → Int → Prop
  | [], a, b, x => a = b ∧ x = 0
  | s :: ls, a, b, x => ∃ g, edg W s.1 s.2 b g ∧ wlk W ls a s.2 (x - g)
def inL (P : Int → Prop) (ls : List (Int × Int)) : Prop := ∀ s, s ∈ ls → P s.1
def farS (S a b x : Int) : Prop := (a = b ∧ 0 < x) ∨ S - 1 < x
section WLK
variable {W : Nat → Int → Int} {P : Int → Prop} {S : Int}
theorem wlk_app {p q : List (Int × Int)} : ∀ {a b x : Int}, wlk W (p ++ q) a b x ↔ ∃ c y, wlk W q a c y ∧ wlk W p c b (x - y) := by
  induction p with
  | nil =>
    intro a b x
    constructor
    · exact fun z => ⟨b, x, z, rfl, by omega⟩
    · rintro ⟨c, y, h1, h2, h3⟩
      subst h2
      rw [show x = y by omega]; exact h1
  | cons s p ih =>
    intro a b x
    constructor
    · rintro ⟨g, h1, h2⟩
      obtain ⟨c, y, h3, h4⟩ := ih.mp h2
      exact ⟨c, y, h3, g, h1, by rw [show x - y - g = x - g - y by omega]; exact h4⟩
    · rintro ⟨c, y, h3, g, h1, h4⟩
      exact ⟨g, h1, ih.mpr ⟨c, y, h3, by rw [show x - g - y = x - y - g by omega]; exact h4⟩⟩
theorem inL_app {p q : List (Int × Int)} : inL P (p ++ q) ↔ inL P p ∧ inL P q := by
  unfold inL
  constructor
  · exact fun z => ⟨fun s hs => z s (List.mem_append.mpr (Or.inl hs)), fun s hs => z s (List.mem_append.mpr (Or.inr hs))⟩
  · exact fun z s hs => (List.mem_append.mp hs).elim (z.1 s) (z.2 s)
theorem inL_cons {s : Int × Int} {q : List (Int × Int)} : inL P (s :: q) ↔ P s.1 ∧ inL P q := by
  unfold inL
  constructor
  · exact fun z => ⟨z s (List.mem_cons_self ..), fun t ht => z t (List.mem_cons_of_mem _ ht)⟩
  · intro z t ht
    rcases List.mem_cons.mp ht with e | e
    · subst e; exact z.1
    · exact z.2 t e
theorem edg_sat {l a b g : Int} {u : Int → Int} (h : edg W l a b g) (hu : satL W l u) : u a + g ≤ u b := by
  rcases h with ⟨rfl, rfl, rfl⟩ | ⟨e, rfl, rfl, rfl⟩
  · exact hu.1
  · exact hu.2 e
theorem wlk_sat {u : Int → Int} : ∀ {ls : List (Int × Int)} {a b x : Int}, (∀ s, s ∈ ls → satL W s.1 u) → wlk W ls a b x → u a + x ≤ u b := by
  intro ls
  induction ls with
  | nil => rintro a b x _ ⟨rfl, rfl⟩; omega
  | cons s ls ih =>
    rintro a b x hu ⟨g, h1, h2⟩
    have := ih (fun t ht => hu t (List.mem_cons_of_mem _ ht)) h2
    have := edg_sat h1 (hu s (List.mem_cons_self ..))
    omega
theorem dup_split {α β : Type} (f : α → β) : ∀ ls : List α, ¬ (ls.map f).Nodup → ∃ p s q t r, ls = p ++ s :: (q ++ t :: r) ∧ f s = f t := by
  intro ls
  induction ls with
  | nil => intro h; exact absurd List.nodup_nil h
  | cons s ls ih =>
    intro h
    rw [List.map_cons, List.nodup_cons] at h
    by_cases c : f s ∈ ls.map f
    · obtain ⟨t, ht, e⟩ := List.mem_map.mp c
      obtain ⟨q, r, e2⟩ := List.append_of_mem ht
      exact ⟨[], s, q, t, r, by rw [e2]; rfl, e.symm⟩
    · obtain ⟨p, s', q, t, r, e, e2⟩ := ih (fun z => h ⟨c, z⟩)
      exact ⟨s :: p, s', q, t, r, by rw [e]; rfl, e2⟩
/-- a step that is taken twice: either way it can be done without -/
theorem wlk_two {l a b c e g j : Int} (hW : ¬ W 1 l = W 2 l) (h1 : edg W l a b g) (h2 : edg W l c e j) : (a = c ∧ b = e ∧ g = j) ∨ (a = e ∧ b = c ∧ g = -j) := by
  rcases h1 with ⟨rfl, rfl, rfl⟩ | ⟨_, rfl, rfl, rfl⟩ <;> rcases h2 with ⟨rfl, rfl, rfl⟩ | ⟨_, rfl, rfl, rfl⟩
  · exact Or.inl ⟨rfl, rfl, rfl⟩
  · exact Or.inr ⟨rfl, rfl, by omega⟩
  · exact Or.inr ⟨rfl, rfl, rfl⟩
  · exact Or.inl ⟨rfl, rfl, rfl⟩
theorem wlk_trail (hW : ∀ l, P l → ¬ W 1 l = W 2 l) (hno : ∀ ls a x, (ls.map Prod.fst).Nodup → inL P ls → wlk W ls a a x → x ≤ 0) : ∀ (n : Nat) (ls : List (Int × Int)), ls.length = n → ∀ a b x, inL P ls → wlk W ls a b x → ∃ ls' x', (ls'.map Prod.fst).Nodup ∧ inL P ls' ∧ wlk W ls' a b x' ∧ x ≤ x' := by
  intro n
  induction n using Nat.strongRecOn with
  | _ n ih =>
    intro ls hn a b x hP hw
    by_cases c : (ls.map Prod.fst).Nodup
    · exact ⟨ls, x, c, hP, hw, Int.le_refl _⟩
    · obtain ⟨p, s, q, t, r, e, e2⟩ := dup_split Prod.fst ls c
      subst e
      have hlen : (p ++ s :: (q ++ t :: r)).length = p.length + (q.length + r.length + 2) := by simp only [List.length_append, List.length_cons]; omega
      rw [hlen] at hn
      obtain ⟨hPp, hP2⟩ := inL_app.mp hP
      obtain ⟨hPs, hP3⟩ := inL_cons.mp hP2
      obtain ⟨hPq, hP4⟩ := inL_app.mp hP3
      obtain ⟨hPt, hPr⟩ := inL_cons.mp hP4
      obtain ⟨c1, y1, w1, w2⟩ := wlk_app.mp hw
      obtain ⟨g, g1, w3⟩ := w1
      obtain ⟨c2, y2, w4, w5⟩ := wlk_app.mp w3
      obtain ⟨j, j1, w6⟩ := w4
      rw [← e2] at j1
      rcases wlk_two (hW _ hPs) g1 j1 with ⟨z1, z2, z3⟩ | ⟨z1, z2, z3⟩
      · obtain ⟨ls', x', t1, t2, t3, t4⟩ := ih (q.length + 1) (by omega) (q ++ [t]) (by simp) s.2 s.2 (y1 - g - y2 + j) (inL_app.mpr ⟨hPq, inL_cons.mpr ⟨hPt, fun _ h => by cases h⟩⟩) (wlk_app.mpr ⟨c2, j, ⟨j, by rw [← e2]; exact j1, by rw [z1]; exact ⟨rfl, by omega⟩⟩, by rw [show y1 - g - y2 + j - j = y1 - g - y2 by omega]; exact w5⟩)
        have neg := hno ls' s.2 x' t1 t2 t3
        refine (ih (p.length + (r.length + 1)) (by omega) (p ++ s :: r) (by simp) a b (x - (y1 - g - y2 + j)) (inL_app.mpr ⟨hPp, inL_cons.mpr ⟨hPs, hPr⟩⟩) (wlk_app.mpr ⟨c1, y2 - j + g, ⟨g, g1, ?_⟩, ?_⟩)).imp (fun ls2 ⟨x2, k1, k2, k3, k4⟩ => ⟨x2, k1, k2, k3, by omega⟩)
        · rw [show y2 - j + g - g = y2 - j by omega, z1]; exact w6
        · rw [show x - (y1 - g - y2 + j) - (y2 - j + g) = x - y1 by omega]; exact w2
      · rw [z1] at w5
        obtain ⟨ls', x', t1, t2, t3, t4⟩ := ih q.length (by omega) q rfl c2 c2 (y1 - g - y2) hPq w5
        have neg := hno ls' c2 x' t1 t2 t3
        refine (ih (p.length + r.length) (by omega) (p ++ r) (by simp) a b (x - (y1 - g - y2)) (inL_app.mpr ⟨hPp, hPr⟩) (wlk_app.mpr ⟨c1, y2 - j, by rw [z2]; exact w6, ?_⟩)).imp (fun ls2 ⟨x2, k1, k2, k3, k4⟩ => ⟨x2, k1, k2, k3, by omega⟩)
        rw [show x - (y1 - g - y2) - (y2 - j) = x - y1 by omega]; exact w2
theorem int_max {Q : Int → Prop} {B : Int} (h0 : Q 0) (hB : ∀ x, Q x → x ≤ B) : ∃ x, Q x ∧ 0 ≤ x ∧ ∀ y, Q y → y ≤ x := by
  have key : ∀ n : Nat, ∀ x, Q x → 0 ≤ x → B - x = n → ∃ x, Q x ∧ 0 ≤ x ∧ ∀ y, Q y → y ≤ x := by
    intro n
    induction n using Nat.strongRecOn with
    | _ n ih =>
      intro x hx x0 hn
      by_cases c : ∃ y, Q y ∧ x < y
      · obtain ⟨y, hy, lt⟩ := c
        have := hB y hy
        exact ih (B - y).toNat (by omega) y hy (by omega) (by omega)
      · refine ⟨x, hx, x0, fun y hy => ?_⟩
        refine Classical.byContradiction (fun z => c ⟨y, hy, by omega⟩)
  have := hB 0 h0
  exact key B.toNat 0 h0 (Int.le_refl _) (by omega)
/-- what can't be set has a walk that is too far and takes no LAW twice -/
theorem far_trail (hS : 2 ≤ S) (hW : ∀ l, P l → ¬ W 1 l = W 2 l) (hn : ¬ ∃ u, onS S u ∧ ∀ l, P l → satL W l u) : ∃ ls a b x, (ls.map Prod.fst).Nodup ∧ inL P ls ∧ wlk W ls a b x ∧ farS S a b x := by
  refine Classical.byContradiction (fun no => hn ?_)
  have no2 : ∀ ls a b x, (ls.map Prod.fst).Nodup → inL P ls → wlk W ls a b x → ¬ farS S a b x := fun ls a b x h1 h2 h3 h4 => no ⟨ls, a, b, x, h1, h2, h3, h4⟩
  have hno : ∀ ls a x, (ls.map Prod.fst).Nodup → inL P ls → wlk W ls a a x → x ≤ 0 := fun ls a x h1 h2 h3 => by
    refine Classical.byContradiction (fun z => no2 ls a a x h1 h2 h3 (Or.inl ⟨rfl, by omega⟩))
  have tr := fun ls a b x h1 h2 => wlk_trail hW hno _ ls rfl a b x h1 h2
  have ex : ∀ b, ∃ x, (∃ ls a, inL P ls ∧ wlk W ls a b x) ∧ 0 ≤ x ∧ ∀ y, (∃ ls a, inL P ls ∧ wlk W ls a b y) → y ≤ x := fun b => int_max (B := S - 1) ⟨[], b, (fun _ h => by cases h), rfl, rfl⟩ (fun x ⟨ls, a, h1, h2⟩ => by
    obtain ⟨ls', x', t1, t2, t3, t4⟩ := tr ls a b x h1 h2
    refine Classical.byContradiction (fun z => no2 ls' a b x' t1 t2 t3 (Or.inr (by omega))))
  obtain ⟨u, hu⟩ := Classical.skolem.mp ex
  refine ⟨u, fun p _ => ⟨(hu p).2.1, ?_⟩, fun l hl => ⟨?_, fun e => ?_⟩⟩
  · obtain ⟨ls, a, h1, h2⟩ := (hu p).1
    obtain ⟨ls', x', t1, t2, t3, t4⟩ := tr ls a p (u p) h1 h2
    refine Classical.byContradiction (fun z => no2 ls' a p x' t1 t2 t3 (Or.inr (by omega)))
  · obtain ⟨ls, a, h1, h2⟩ := (hu (W 1 l)).1
    refine (hu (W 2 l)).2.2 _ ⟨(l, W 1 l) :: ls, a, inL_cons.mpr ⟨hl, h1⟩, W 3 l, Or.inl ⟨rfl, rfl, rfl⟩, ?_⟩
    rw [show u (W 1 l) + W 3 l - W 3 l = u (W 1 l) by omega]; exact h2
  · obtain ⟨ls, a, h1, h2⟩ := (hu (W 2 l)).1
    refine (hu (W 1 l)).2.2 _ ⟨(l, W 2 l) :: ls, a, inL_cons.mpr ⟨hl, h1⟩, -(W 3 l), Or.inr ⟨e, rfl, rfl, rfl⟩, ?_⟩
    rw [show u (W 2 l) + -(W 3 l) - -(W 3 l) = u (W 2 l) by omega]; exact h2
theorem cnt_less {Q : Int → Prop} {n : Nat} {a : Int} (h0 : 0 ≤ a) (h1 : a < n) (ha : Q a) : cnt (fun i => Q i ∧ ¬ i = a) n + 1 = cnt Q n := by
  rw [← cnt_add (Q := fun i => Q i ∧ ¬ i = a) h0 (fun z => z.2 rfl) h1]
  exact cnt_congr (fun i _ _ => ⟨fun z => z.elim (fun z => z.1) (fun z => by subst z; exact ha), fun z => by
    by_cases c : i = a
    · exact Or.inr c
    · exact Or.inl ⟨z, c⟩⟩)
theorem nodup_cnt {n : Nat} : ∀ (ls : List Int) {Q : Int → Prop}, ls.Nodup → (∀ l, l ∈ ls → 0 ≤ l ∧ l < n ∧ Q l) → (ls.length : Int) ≤ cnt Q n := by
  intro ls
  induction ls with
  | nil => intro Q _ _; exact (cnt_r n).1
  | cons s ls ih =>
    intro Q hn hq
    rw [List.nodup_cons] at hn
    obtain ⟨s0, s1, s2⟩ := hq s (List.mem_cons_self ..)
    have := ih (Q := fun i => Q i ∧ ¬ i = s) hn.2 (fun l hl => by
      obtain ⟨l0, l1, l2⟩ := hq l (List.mem_cons_of_mem _ hl)
      exact ⟨l0, l1, l2, fun e => by subst e; exact hn.1 hl⟩)
    have e := cnt_less (Q := Q) s0 s1 s2
    rw [List.length_cons]
    omega
theorem used_cnt {n : Nat} : ∀ ls : List (Int × Int), cnt (fun i => ∃ s, s ∈ ls ∧ s.1 = i) n ≤ ls.length := by
  intro ls
  induction ls with
  | nil => rw [cnt_0 (fun i _ _ z => by obtain ⟨s, h, _⟩ := z; cases h)]; exact Int.le_refl _
  | cons s ls ih =>
    rw [List.length_cons]
    by_cases c : (0 ≤ s.1 ∧ s.1 < n) ∧ ¬ ∃ t, t ∈ ls ∧ t.1 = s.1
    · have := cnt_add (Q := fun i => ∃ s, s ∈ ls ∧ s.1 = i) c.1.1 c.2 c.1.2
      have e : cnt (fun i => ∃ t, t ∈ s :: ls ∧ t.1 = i) n = cnt (fun i => (∃ s, s ∈ ls ∧ s.1 = i) ∨ i = s.1) n := cnt_congr (fun i _ _ => by
        constructor
        · rintro ⟨t, ht, e⟩
          rcases List.mem_cons.mp ht with z | z
          · subst z; exact Or.inr e.symm
          · exact Or.inl ⟨t, z, e⟩
        · rintro (⟨t, ht, e⟩ | e)
          · exact ⟨t, List.mem_cons_of_mem _ ht, e⟩
          · exact ⟨s, List.mem_cons_self .., e.symm⟩)
      rw [e, this]
      omega
    · have e : cnt (fun i => ∃ t, t ∈ s :: ls ∧ t.1 = i) n = cnt (fun i => ∃ s, s ∈ ls ∧ s.1 = i) n := cnt_congr (fun i i0 i1 => by
        constructor
        · rintro ⟨t, ht, e⟩
          rcases List.mem_cons.mp ht with z | z
          · subst z
            refine Classical.byContradiction (fun q => c ⟨by omega, fun k => q ?_⟩)
            rw [← e]; exact k
          · exact ⟨t, z, e⟩
        · rintro ⟨t, ht, e⟩
          exact ⟨t, List.mem_cons_of_mem _ ht, e⟩)
      rw [e]
      omega
/-- a walk that is too far, of 6 steps or fewer -/
theorem far_six (hW : ∀ l, P l → in6 (W 1 l) ∧ in6 (W 2 l)) : ∀ (n : Nat) (ls : List (Int × Int)), ls.length = n → ∀ a b x, inL P ls → wlk W ls a b x → farS S a b x → 2 ≤ S → ∃ ls a b x, inL P ls ∧ wlk W ls a b x ∧ farS S a b x ∧ ls.length ≤ 6 := by
  intro n
  induction n using Nat.strongRecOn with
  | _ n ih =>
    intro ls hn a b x hP hw hf hS
    by_cases c6 : ls.length ≤ 6
    · exact ⟨ls, a, b, x, hP, hw, hf, c6⟩
    · have fro : ∀ (ls : List (Int × Int)) a b x, inL P ls → wlk W ls a b x → ∀ s, s ∈ ls → in6 s.2 := by
        intro ls
        induction ls with
        | nil => intro a b x _ _ s hs; cases hs
        | cons t ls ih =>
          rintro a b x hP ⟨g, h1, h2⟩ s hs
          obtain ⟨p1, p2⟩ := inL_cons.mp hP
          rcases List.mem_cons.mp hs with e | e
          · subst e
            rcases h1 with z | z
            · rw [z.1]; exact (hW _ p1).1
            · rw [z.2.1]; exact (hW _ p1).2
          · exact ih _ _ _ p2 h2 s e
      have nd : ¬ (ls.map Prod.snd).Nodup := fun z => by
        have := nodup_cnt (n := 6) (Q := fun _ => True) _ z (fun l hl => by
          obtain ⟨s, hs, e⟩ := List.mem_map.mp hl
          have := fro ls a b x hP hw s hs
          unfold in6 at this
          rw [← e]
          exact ⟨by omega, by omega, trivial⟩)
        have r := (cnt_r (Q := fun _ => True) 6).2
        rw [List.length_map] at this
        omega
      obtain ⟨p, s, q, t, r, e, e2⟩ := dup_split Prod.snd ls nd
      subst e
      have hlen : (p ++ s :: (q ++ t :: r)).length = p.length + (q.length + r.length + 2) := by simp only [List.length_append, List.length_cons]; omega
      rw [hlen] at hn
      obtain ⟨hPp, hP2⟩ := inL_app.mp hP
      obtain ⟨hPs, hP3⟩ := inL_cons.mp hP2
      obtain ⟨hPq, hP4⟩ := inL_app.mp hP3
      obtain ⟨hPt, hPr⟩ := inL_cons.mp hP4
      obtain ⟨c1, y1, w1, w2⟩ := wlk_app.mp hw
      obtain ⟨g, g1, w3⟩ := w1
      obtain ⟨c2, y2, w4, w5⟩ := wlk_app.mp w3
      obtain ⟨j, j1, w6⟩ := w4
      by_cases cz : 0 < y1 - g - y2 + j
      · exact ih (q.length + 1) (by omega) (q ++ [t]) (by simp) s.2 s.2 (y1 - g - y2 + j) (inL_app.mpr ⟨hPq, inL_cons.mpr ⟨hPt, fun _ h => by cases h⟩⟩) (wlk_app.mpr ⟨c2, j, ⟨j, j1, e2, by omega⟩, by rw [show y1 - g - y2 + j - j = y1 - g - y2 by omega]; exact w5⟩) (Or.inl ⟨rfl, cz⟩) hS
      · refine ih (p.length + (r.length + 1)) (by omega) (p ++ s :: r) (by simp) a b (x - (y1 - g - y2 + j)) (inL_app.mpr ⟨hPp, inL_cons.mpr ⟨hPs, hPr⟩⟩) (wlk_app.mpr ⟨c1, y2 - j + g, ⟨g, g1, ?_⟩, ?_⟩) (hf.imp (fun z => ⟨z.1, by omega⟩) (fun z => by omega)) hS
        · rw [show y2 - j + g - g = y2 - j by omega, e2]; exact w6
        · rw [show x - (y1 - g - y2 + j) - (y2 - j + g) = x - y1 by omega]; exact w2
end WLK
