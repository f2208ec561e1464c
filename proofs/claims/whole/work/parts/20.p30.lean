theorem nd_prev {D : Dat} (ok : DOk D) {v : Int} (h : 0 ≤ v ∧ v < nn D) :
    ((nd D v).2 = 2 → isRd (D.F (stK D (nd D v)) 2) → 1 ≤ v ∧ nd D (v - 1) = ((nd D v).1, 1) ∧ (isRd (D.F (stK D (nd D v)) 1) → 2 ≤ v ∧ nd D (v - 2) = ((nd D v).1, 0)))
    ∧ ((nd D v).2 = 2 → ¬ isRd (D.F (stK D (nd D v)) 2) → isRd (D.F (stK D (nd D v)) 1) → 1 ≤ v ∧ nd D (v - 1) = ((nd D v).1, 0))
    ∧ ((nd D v).2 = 3 → D.O (stK D (nd D v)) ≠ 32 → 1 ≤ v ∧ nd D (v - 1) = ((nd D v).1, 2))
    ∧ ((nd D v).2 = 3 → D.O (stK D (nd D v)) = 32 → isRd (D.F (stK D (nd D v)) 1) → 1 ≤ v ∧ nd D (v - 1) = ((nd D v).1, 0)) := by
  obtain ⟨j, e, hj, hs⟩ := seg_of ok h
  obtain ⟨a, b, c, d⟩ := rls_prev hj
  have hb : 0 ≤ bs D (nd D v).1 := by unfold bs; omega
  have step : ∀ (i : Nat) (q : Int), i ≤ j → (rls D (stK D (nd D v)))[j - i]? = some q → (i : Int) ≤ v ∧ nd D (v - i) = ((nd D v).1, q) := by
    intro i q hi hq
    have := seg_at hs hq
    rw [show bs D (nd D v).1 + ((j - i : Nat) : Int) = v - i by omega] at this
    exact ⟨by omega, this.1⟩
  refine ⟨fun x y => ?_, fun x y z => ?_, fun x y => ?_, fun x y z => ?_⟩
  · obtain ⟨g1, g2, g3⟩ := a x y
    have s1 := step 1 _ g1 g2
    refine ⟨s1.1, s1.2, fun w => ?_⟩
    obtain ⟨g4, g5⟩ := g3 w
    exact step 2 _ g4 g5
  · obtain ⟨g1, g2⟩ := b x y z
    exact step 1 _ g1 g2
  · obtain ⟨g1, g2⟩ := c x y
    exact step 1 _ g1 g2
  · obtain ⟨g1, g2⟩ := d x y z
    exact step 1 _ g1 g2
theorem with_uniq {D : Dat} (ok : DOk D) {f t t' : Int} (hf : 0 ≤ f) (ht : 0 ≤ t ∧ t < nn D) (ht' : 0 ≤ t' ∧ t' < nn D) (h : withE D f t) (g : withE D f t') : t = t' := by
  have h1 := with_role ok ht hf h
  have g1 := with_role ok ht' hf g
  rcases h1.2.2.2 with a | ⟨a, a2, a3, a4⟩ <;> rcases g1.2.2.2 with b | ⟨b, b2, b3, b4⟩
  · omega
  · have := ((nd_prev ok ht').1 b2 b4).2.1
    rw [show t' - 1 = t by omega] at this
    have h2 := h1.2.2.1
    rw [this] at h2
    dsimp only at h2
    omega
  · have := ((nd_prev ok ht).1 a2 a4).2.1
    rw [show t - 1 = t' by omega] at this
    have h2 := g1.2.2.1
    rw [this] at h2
    dsimp only at h2
    omega
  · omega
/-- what marks an edge from f: no two edges have one mark -/
def Mark (D : Dat) (f : Int) (m : Int × Int × Int) (x : Int × Int) : Prop := 0 ≤ x.1 ∧ x.1 < nn D ∧
  ((m.1 = 0 ∧ memE D f x.1 x.2 ∧ nd D x.1 = m.2) ∨ (m.1 = 1 ∧ m.2.2 = 0 ∧ (∃ p q, useP D (nd D x.1) q ∧ makeE D p f x.1 x.2) ∧ (nd D x.1).1 = m.2.1)
  ∨ (m = (2, 0, 0) ∧ withE D f x.1 ∧ x.2 = 0) ∨ (m = (2, 1, 0) ∧ chanE D f x.1 x.2) ∨ (m.1 = 2 ∧ m.2.1 = 2 ∧ nextE D m.2.2 f x.1 x.2))
theorem mark_inj {D : Dat} (ok : DOk D) {f : Int} (hf : 0 ≤ f) : ∀ m x y, Mark D f m x → Mark D f m y → x = y := by
  intro m x y h g
  obtain ⟨x0, x1, hx⟩ := h
  obtain ⟨y0, y1, hy⟩ := g
  obtain ⟨m0, m1, m2⟩ := m
  dsimp only at hx hy
  have no : ∀ {a b c a' b' c' : Int}, (a, b, c) = (a', b', c') → a = a' ∧ b = b' ∧ c = c' := by
    intro a b c a' b' c' h
    cases h
    exact ⟨rfl, rfl, rfl⟩
  rcases hx with ⟨a1, a2, a3⟩ | ⟨a1, a2, ⟨p, q, a3, a4⟩, a5⟩ | ⟨a1, a2, a3⟩ | ⟨a1, a2⟩ | ⟨a1, a2, a3⟩
  · rcases hy with ⟨b1, b2, b3⟩ | ⟨b1, b2, b3, b4⟩ | ⟨b1, b2⟩ | ⟨b1, b2⟩ | ⟨b1, b2, b3⟩
    · have e : x.1 = y.1 := nd_inj ⟨x0, x1⟩ ⟨y0, y1⟩ (by rw [a3, b3])
      rw [← e] at b2
      exact Prod.ext e (memE_uniq ok a2 b2)
    · omega
    · have := no b1; omega
    · have := no b1; omega
    · omega
  · rcases hy with ⟨b1, b2, b3⟩ | ⟨b1, b2, ⟨p', q', b3, b4⟩, b5⟩ | ⟨b1, b2⟩ | ⟨b1, b2⟩ | ⟨b1, b2, b3⟩
    · omega
    · have e : x.1 = y.1 := user_one ok ⟨x0, x1⟩ ⟨y0, y1⟩ a3 b3 (by rw [a5, b5])
      rw [← e] at b4
      exact Prod.ext e (makeE_uniq a4 b4)
    · have := no b1; omega
    · have := no b1; omega
    · omega
  · have n1 := no a1
    rcases hy with ⟨b1, b2, b3⟩ | ⟨b1, b2, b3, b4⟩ | ⟨b1, b2, b3⟩ | ⟨b1, b2⟩ | ⟨b1, b2, b3⟩
    · omega
    · omega
    · exact Prod.ext (with_uniq ok hf ⟨x0, x1⟩ ⟨y0, y1⟩ a2 b2) (by omega)
    · have := no b1; omega
    · omega
  · have n1 := no a1
    rcases hy with ⟨b1, b2, b3⟩ | ⟨b1, b2, b3, b4⟩ | ⟨b1, b2, b3⟩ | ⟨b1, b2⟩ | ⟨b1, b2, b3⟩
    · omega
    · omega
    · have := no b1; omega
    · have := chanE_uniq a2 b2
      exact Prod.ext this.1 this.2
    · omega
  · rcases hy with ⟨b1, b2, b3⟩ | ⟨b1, b2, b3, b4⟩ | ⟨b1, b2, b3⟩ | ⟨b1, b2⟩ | ⟨b1, b2, b3⟩
    · omega
    · omega
    · have := no b1; omega
    · have := no b1; omega
    · have := nextE_uniq a3 b3
      exact Prod.ext this.1 this.2
def mem72 : List (Int × Int × Int) := (List.range 24).flatMap (fun (s : Nat) => [(0, (s : Int), 0), (0, (s : Int), 1), (0, (s : Int), 3)])
def use24 : List (Int × Int × Int) := (List.range 24).map (fun (s : Nat) => (1, (s : Int), 0))
theorem mem72_mem {s q : Int} (hs : 0 ≤ s ∧ s < 24) (hq : q = 0 ∨ q = 1 ∨ q = 3) : (0, s, q) ∈ mem72 := by
  unfold mem72
  rw [List.mem_flatMap]
  refine ⟨s.toNat, List.mem_range.2 (by omega), ?_⟩
  rw [show ((s.toNat : Nat) : Int) = s by omega]
  rcases hq with rfl | rfl | rfl <;> simp
theorem use24_mem {s : Int} (hs : 0 ≤ s ∧ s < 24) : (1, s, 0) ∈ use24 := by
  unfold use24
  rw [List.mem_map]
  exact ⟨s.toNat, List.mem_range.2 (by omega), by rw [show ((s.toNat : Nat) : Int) = s by omega]⟩
theorem mem_role {D : Dat} (ok : DOk D) {v : Int} (h : 0 ≤ v ∧ v < nn D) (hm : isMem D v) : (nd D v).2 = 0 ∨ (nd D v).2 = 1 ∨ (nd D v).2 = 3 := by
  obtain ⟨_, _, _, _, h5⟩ := nd_ok ok h
  have := opk_r (D.O (stK D (nd D v)))
  unfold isMem kdv kdN at hm
  rcases rls_mem h5 with q | q | q | q | q
  · omega
  · omega
  · rw [if_neg (by omega), if_neg (by omega), if_pos q.1] at hm; omega
  · omega
  · rw [if_neg (by omega), if_neg (by omega), if_neg (by omega), if_neg (by omega)] at hm; omega
/-- from a node there are at most 100 edges -/
theorem raw_100 {D : Dat} (ok : DOk D) {f : Int} (hf : 0 ≤ f ∧ f < nn D) (L : List (Int × Int)) (hn : L.Nodup) (hL : ∀ x ∈ L, ∃ w, Raw D f x.1 x.2 w) : L.length ≤ 100 := by
  have fk := nd_ok ok hf
  let k3 : List (Int × Int × Int) := [(2, 0, 0), (2, 1, 0), (2, 2, mkv D f), (2, 2, D.N (stK D (nd D f)) 1), (2, 2, D.N (stK D (nd D f)) 2)]
  have rest : ∀ x w, Raw D f x.1 x.2 w → (memE D f x.1 x.2) ∨ ∃ m ∈ use24 ++ k3, Mark D f m x := by
    intro x w ⟨h1, h2, h3, h4, h5⟩
    rcases h5 with ⟨a, b, c⟩ | ⟨p, p0, p1, a, b, c⟩ | ⟨p, p0, p1, a, b⟩ | ⟨a, b⟩ | ⟨a, b⟩
    · exact .inr ⟨(2, 0, 0), List.mem_append_right _ (by simp [k3]), h3, h4, .inr (.inr (.inl ⟨rfl, a, b⟩))⟩
    · have xk := nd_ok ok ⟨h3, h4⟩
      have := (usv_iff ok ⟨h3, h4⟩ ⟨p0, p1⟩).1 a
      exact .inr ⟨(1, (nd D x.1).1, 0), List.mem_append_left _ (use24_mem ⟨xk.1, xk.2.1⟩), h3, h4, .inr (.inl ⟨rfl, rfl, ⟨p, p, this, b⟩, rfl⟩)⟩
    · have hp : p = mkv D f ∨ p = D.N (stK D (nd D f)) 1 ∨ p = D.N (stK D (nd D f)) 2 := by
        rcases b with ⟨u, _⟩ | ⟨u, _⟩
        · have := (usv_iff ok hf ⟨p0, p1⟩).1 u
          unfold useP at this
          rcases this with ⟨_, ⟨_, z⟩ | ⟨_, z⟩⟩ | ⟨_, _, z⟩
          · exact .inr (.inl z.symm)
          · exact .inr (.inr z.symm)
          · exact .inr (.inl z.symm)
        · exact .inl u.symm
      refine .inr ⟨(2, 2, p), List.mem_append_right _ ?_, h3, h4, .inr (.inr (.inr (.inr ⟨rfl, rfl, a⟩)))⟩
      rcases hp with e | e | e <;> simp [k3, e]
    · exact .inl a
    · exact .inr ⟨(2, 1, 0), List.mem_append_right _ (by simp [k3]), h3, h4, .inr (.inr (.inr (.inl ⟨rfl, a⟩)))⟩
  have l29 : (use24 ++ k3).length = 29 := by simp [use24, k3]
  by_cases hm : isMem D f
  · have hr := mem_role ok hf hm
    have h72 : (0, nd D f) ∈ mem72 := mem72_mem ⟨fk.1, fk.2.1⟩ hr
    have := pig (Mark D f) (mark_inj ok hf.1) L (mem72.erase (0, nd D f) ++ (use24 ++ k3)) hn (fun x hx => by
      obtain ⟨w, hw⟩ := hL x hx
      rcases rest x w hw with a | ⟨m, b, c⟩
      · have xk := nd_ok ok ⟨hw.2.2.1, hw.2.2.2.1⟩
        have xm : isMem D x.1 := by unfold isMem; rw [← a.2.2.1]; exact a.2.1
        have xr := mem_role ok ⟨hw.2.2.1, hw.2.2.2.1⟩ xm
        refine ⟨(0, nd D x.1), List.mem_append_left _ ((List.mem_erase_of_ne ?_).2 (mem72_mem ⟨xk.1, xk.2.1⟩ xr)), hw.2.2.1, hw.2.2.2.1, .inl ⟨rfl, a, rfl⟩⟩
        intro e
        have e2 : nd D x.1 = nd D f := (Prod.mk.inj e).2
        exact a.1 (nd_inj hf ⟨hw.2.2.1, hw.2.2.2.1⟩ e2.symm)
      · exact ⟨m, List.mem_append_right _ b, c⟩)
    rw [List.length_append, List.length_erase_of_mem h72, l29] at this
    have e72 : mem72.length = 72 := by decide
    omega
  · have := pig (Mark D f) (mark_inj ok hf.1) L (use24 ++ k3) hn (fun x hx => by
      obtain ⟨w, hw⟩ := hL x hx
      rcases rest x w hw with a | b
      · exact absurd a.2.1 hm
      · exact b)
    omega
