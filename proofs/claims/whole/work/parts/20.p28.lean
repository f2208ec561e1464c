/-! raw edges -/
/-- m is the last maker of a register ahead of u -/
def isPrev (D : Dat) (p m u : Int) : Prop := 0 ≤ m ∧ m < nn D ∧ m < u ∧ mkv D m = p ∧ ∀ k, m < k → k < u → k < nn D → mkv D k ≠ p
def noPrev (D : Dat) (p u : Int) : Prop := ∀ k, 0 ≤ k → k < u → k < nn D → mkv D k ≠ p
/-- m is the next maker of a register behind a -/
def isNext (D : Dat) (p a m : Int) : Prop := 0 ≤ m ∧ m < nn D ∧ a < m ∧ mkv D m = p ∧ ∀ k, 0 ≤ k → a < k → k < m → mkv D k ≠ p
def noNext (D : Dat) (p a : Int) : Prop := ∀ k, 0 ≤ k → a < k → k < nn D → mkv D k ≠ p
/-- the next and the first node of a kind -/
def isNextK (D : Dat) (c a m : Int) : Prop := 0 ≤ m ∧ m < nn D ∧ a < m ∧ kdv D m = c ∧ ∀ k, 0 ≤ k → a < k → k < m → kdv D k ≠ c
def noNextK (D : Dat) (c a : Int) : Prop := ∀ k, 0 ≤ k → a < k → k < nn D → kdv D k ≠ c
def makeE (D : Dat) (p f t d : Int) : Prop := (isPrev D p f t ∧ d = 0) ∨ (noPrev D p t ∧ isPrev D p f (nn D) ∧ d = 1)
def nextE (D : Dat) (p f t d : Int) : Prop := f ≠ t ∧ ((isNext D p f t ∧ d = 0) ∨ (noNext D p f ∧ isNext D p (-1) t ∧ d = 1))
def chanE (D : Dat) (f t d : Int) : Prop := f ≠ t ∧ 5 ≤ kdv D f ∧ kdv D f = kdv D t ∧ ((isNextK D (kdv D f) f t ∧ d = 0) ∨ (noNextK D (kdv D f) f ∧ isNextK D (kdv D f) (-1) t ∧ d = 1))
def isMem (D : Dat) (v : Int) : Prop := kdv D v = 3 ∨ kdv D v = 4
def memD (D : Dat) (f t d : Int) : Prop :=
  if tnN D (nd D f) = 1 ∧ tnN D (nd D t) = 1 then 0 ≤ d ∧ (fpN D (nd D f) - fpN D (nd D t)) = D.fac * d ∧ (d = 0 → f < t)
  else (tnN D (nd D f) = 0 ∧ tnN D (nd D t) = 0 → fpN D (nd D f) = fpN D (nd D t)) ∧ d = if f < t then 0 else 1
def wrv (D : Dat) (v : Int) : Prop := (nd D v).2 = 3
def memE (D : Dat) (f t d : Int) : Prop := f ≠ t ∧ isMem D f ∧ kdv D f = kdv D t ∧ (wrv D f ∨ wrv D t) ∧ memD D f t d
def withE (D : Dat) (f t : Int) : Prop := f = g1N D t (nd D t) ∨ f = g2N D t (nd D t)
def Raw (D : Dat) (f t d w : Int) : Prop := 0 ≤ f ∧ f < nn D ∧ 0 ≤ t ∧ t < nn D ∧
  ((withE D f t ∧ d = 0 ∧ w = cyv D f) ∨ (∃ p, 0 ≤ p ∧ p < 8 ∧ usv D t p ∧ makeE D p f t d ∧ w = cyv D f)
  ∨ (∃ p, 0 ≤ p ∧ p < 8 ∧ nextE D p f t d ∧ ((usv D f p ∧ w = 1 - cyv D t) ∨ (mkv D f = p ∧ w = 1 - cyv D t + cyv D f)))
  ∨ (memE D f t d ∧ ((¬ wrv D t ∧ w = cyv D f) ∨ (wrv D t ∧ ¬ wrv D f ∧ w = 1 - cyv D t) ∨ (wrv D t ∧ wrv D f ∧ w = 1)))
  ∨ (chanE D f t d ∧ w = 1))
theorem prev_uniq {D : Dat} {p m m' u : Int} (h : isPrev D p m u) (g : isPrev D p m' u) : m = m' := by
  obtain ⟨a1, a2, a3, a4, a5⟩ := h
  obtain ⟨b1, b2, b3, b4, b5⟩ := g
  rcases Int.lt_trichotomy m m' with q | q | q
  · exact absurd b4 (a5 m' q b3 b2)
  · exact q
  · exact absurd a4 (b5 m q a3 a2)
theorem next_uniq {D : Dat} {p m m' a : Int} (h : isNext D p a m) (g : isNext D p a m') : m = m' := by
  obtain ⟨a1, a2, a3, a4, a5⟩ := h
  obtain ⟨b1, b2, b3, b4, b5⟩ := g
  rcases Int.lt_trichotomy m m' with q | q | q
  · exact absurd a4 (b5 m a1 a3 q)
  · exact q
  · exact absurd b4 (a5 m' b1 b3 q)
theorem nextK_uniq {D : Dat} {p m m' a : Int} (h : isNextK D p a m) (g : isNextK D p a m') : m = m' := by
  obtain ⟨a1, a2, a3, a4, a5⟩ := h
  obtain ⟨b1, b2, b3, b4, b5⟩ := g
  rcases Int.lt_trichotomy m m' with q | q | q
  · exact absurd a4 (b5 m a1 a3 q)
  · exact q
  · exact absurd b4 (a5 m' b1 b3 q)
theorem next_no {D : Dat} {p a m : Int} (h : isNext D p a m) (g : noNext D p a) : False := g m h.1 h.2.2.1 h.2.1 h.2.2.2.1
theorem prev_no {D : Dat} {p u m : Int} (h : isPrev D p m u) (g : noPrev D p u) : False := g m h.1 h.2.2.1 h.2.1 h.2.2.2.1
theorem nextE_uniq {D : Dat} {p f t d t' d' : Int} (h : nextE D p f t d) (g : nextE D p f t' d') : t = t' ∧ d = d' := by
  obtain ⟨h0, h1⟩ := h
  obtain ⟨g0, g1⟩ := g
  rcases h1 with ⟨a, b⟩ | ⟨a, b, c⟩ <;> rcases g1 with ⟨a', b'⟩ | ⟨a', b', c'⟩
  · exact ⟨next_uniq a a', by omega⟩
  · exact absurd a' (fun z => next_no a z)
  · exact absurd a (fun z => next_no a' z)
  · exact ⟨next_uniq b b', by omega⟩
theorem chanE_uniq {D : Dat} {f t d t' d' : Int} (h : chanE D f t d) (g : chanE D f t' d') : t = t' ∧ d = d' := by
  obtain ⟨h0, h5, hk, h1⟩ := h
  obtain ⟨g0, g5, gk, g1⟩ := g
  rcases h1 with ⟨a, b⟩ | ⟨a, b, c⟩ <;> rcases g1 with ⟨a', b'⟩ | ⟨a', b', c'⟩
  · exact ⟨nextK_uniq a a', by omega⟩
  · exact absurd (a' t a.1 a.2.2.1 a.2.1) (fun z => z a.2.2.2.1)
  · exact absurd (a t' a'.1 a'.2.2.1 a'.2.1) (fun z => z a'.2.2.2.1)
  · exact ⟨nextK_uniq b b', by omega⟩
theorem makeE_uniq {D : Dat} {p p' f t d d' : Int} (h : makeE D p f t d) (g : makeE D p' f t d') : d = d' := by
  have hp : p = mkv D f := by
    rcases h with ⟨a, b⟩ | ⟨a, b, c⟩
    · exact a.2.2.2.1.symm
    · exact b.2.2.2.1.symm
  have gp : p' = mkv D f := by
    rcases g with ⟨a, b⟩ | ⟨a, b, c⟩
    · exact a.2.2.2.1.symm
    · exact b.2.2.2.1.symm
  rw [hp] at h
  rw [gp] at g
  rcases h with ⟨a, b⟩ | ⟨a, b, c⟩ <;> rcases g with ⟨a', b'⟩ | ⟨a', b', c'⟩
  · omega
  · exact absurd a' (fun z => prev_no a z)
  · exact absurd a (fun z => prev_no a' z)
  · omega
theorem memE_uniq {D : Dat} (ok : DOk D) {f t d d' : Int} (h : memE D f t d) (g : memE D f t d') : d = d' := by
  have h1 := h.2.2.2.2
  have g1 := g.2.2.2.2
  have hf := ok.fac
  unfold memD at h1 g1
  by_cases e : tnN D (nd D f) = 1 ∧ tnN D (nd D t) = 1
  · rw [if_pos e] at h1 g1
    have : D.fac * d = D.fac * d' := by omega
    exact Int.eq_of_mul_eq_mul_left (by omega) this
  · rw [if_neg e] at h1 g1
    rw [h1.2, g1.2]
theorem with_role {D : Dat} (ok : DOk D) {f t : Int} (ht : 0 ≤ t ∧ t < nn D) (hf : 0 ≤ f) (h : withE D f t) : f < t ∧ (nd D t).2 ≠ 4 ∧ ((nd D t).2 = 2 ∨ (nd D t).2 = 3) ∧ (f = t - 1 ∨ (f = t - 2 ∧ (nd D t).2 = 2 ∧ isRd (D.F (stK D (nd D t)) 1) ∧ isRd (D.F (stK D (nd D t)) 2))) := by
  unfold withE g1N g2N at h
  rcases h with h | h
  · by_cases e2 : (nd D t).2 = 2
    · rw [if_pos e2] at h
      by_cases r1 : isRd (D.F (stK D (nd D t)) 1)
      · rw [if_pos r1] at h
        by_cases r2 : isRd (D.F (stK D (nd D t)) 2)
        · rw [if_pos r2] at h
          exact ⟨by omega, by omega, by omega, .inr ⟨h, e2, r1, r2⟩⟩
        · rw [if_neg r2] at h
          exact ⟨by omega, by omega, by omega, .inl h⟩
      · rw [if_neg r1] at h; omega
    · rw [if_neg e2] at h
      by_cases e3 : (nd D t).2 = 3
      · rw [if_pos e3] at h
        by_cases r1 : D.O (stK D (nd D t)) ≠ 32 ∨ isRd (D.F (stK D (nd D t)) 1)
        · rw [if_pos r1] at h
          exact ⟨by omega, by omega, by omega, .inl h⟩
        · rw [if_neg r1] at h; omega
      · rw [if_neg e3] at h; omega
  · by_cases e2 : (nd D t).2 = 2 ∧ isRd (D.F (stK D (nd D t)) 2)
    · rw [if_pos e2] at h
      exact ⟨by omega, by omega, by omega, .inl h⟩
    · rw [if_neg e2] at h; omega
