theorem C_clear {D : Dat} {i r : MI} {Q : Int → MI → Prop} (h : ClassP D i r) (ok : DOk D) (hQ : ∀ i', Cl (1, 0, {D with many := 0}) i i' r 0 0 ∧ i' 0 = i 0 → Q D.many i') : wp_X11_clear i r Q := by
  simp only [wp_X11_clear, wp_X10_empty, h.many]
  refine hQ _ ⟨⟨?_, ?_, ?_, fun q => absurd q (Int.one_ne_zero), fun _ => ?_, fun q => absurd q (Int.one_ne_zero)⟩, ?_⟩
  · have ht := h.tx
    clp h
    grind
  · intro a ha; simp (disch := omega) only [st_row]
  · intro a ha hb; simp (disch := omega) only [st_row]
  · simp (disch := omega) only [st_row]
  · simp (disch := omega) only [st_row]
theorem M_clear {D : Dat} {i r : MI} {Q : Int → MI → Prop} (h : ModelP D i) (ok : DOk D) (hQ : ∀ i', Mo (0, D.many, {D with many := 0}) D.many i i' → Q D.many i') : wp_X12_clear i r Q := by
  simp only [wp_X12_clear]
  rw [st_ne (by omega), h.many]
  refine hQ _ ⟨?_, ?_, ?_, fun _ => rfl⟩
  · have ht := h.tx
    mop h
    grind
  · intro a ha; simp (disch := omega) only [st_row]
  · simp (disch := omega) only [st_row, st_ne, st_eq]
def spAction (D : Dat) (p c b : Int) : Int × Int × Dat := if 0 ≤ p ∧ p ≤ 3 ∧ 0 ≤ c ∧ c ≤ 3 then (if D.ac p < 16 then (0, D.ac p + 1, {D with ac := fun a => if a = p then D.ac p + 1 else D.ac a, ach := fun a k => if a = p ∧ k = D.ac p then c else D.ach a k, apt := fun a k => if a = p ∧ k = D.ac p then b else D.apt a k}) else (2, 0, D)) else (1, 0, D)
theorem L_action {D : Dat} {i r : MI} {p c b : Int} {Q : Int → MI → Prop} (h : ClassP D i r) (ok : DOk D) (hb : b = 0 ∨ b = 1) (hQ : ∀ i', Cl (spAction D p c b) i i' r (i 0 9) (i 0 10) → Q (spAction D p c b).1 i') : wp_L_action p c b i r Q := by
  generalize hs : spAction D p c b = s at hQ
  unfold spAction at hs
  simp only [wp_L_action, wp_X11_action, s18_X11_action, wp_X5_append, s53_X5_append, s42_X5_append]
  have hu : 0 ≤ p → p ≤ 3 → i 499 p = D.ac p := fun a b => h.ac p a (by omega)
  by_cases h1 : 0 ≤ p ∧ p ≤ 3 ∧ 0 ≤ c ∧ c ≤ 3
  · rw [if_pos h1] at hs
    obtain ⟨h2, h3, h4, h5⟩ := h1
    have ha := ok.ac p h2 (by omega)
    by_cases h6 : D.ac p < 16
    · rw [if_pos h6] at hs; subst hs
      have g : ∀ w : Int, w = 2 * b - 1 → Q 0 (st (st (st (st (st i (490 + p) (D.ac p) c) (495 + p) (D.ac p) w) 499 p (D.ac p + 1)) 540 0 (jLo (sJ (D.ac p + 1)).toInt64)) 540 1 (jHi (sJ (D.ac p + 1)).toInt64)) := by
        intro w hw
        refine hQ _ ?_
        refine ⟨?_, ?_, ?_, fun _ => ⟨?_, ?_⟩, fun q => absurd rfl q, fun _ => ⟨?_, ?_⟩⟩
        · clp h
        · intro a ha; simp (disch := omega) only [st_row]
        · intro a ha hb; simp (disch := omega) only [st_row]
        all_goals try (simp (disch := omega) only [st_row, st_ne, st_eq])
      rcases hb with rfl | rfl
      · have g' := g (-1) (by omega)
        simp (disch := omega) [isWithin_eq, bz_0, bz_1, bz, st_row, st_ne, st_eq, hu, wr_of, h2, h3, h4, h5, h6] at g' ⊢
        spl
        all_goals first | exact g' | omega
      · have g' := g 1 (by omega)
        simp (disch := omega) [isWithin_eq, bz_0, bz_1, bz, st_row, st_ne, st_eq, hu, wr_of, h2, h3, h4, h5, h6] at g' ⊢
        spl
        all_goals first | exact g' | omega
    · rw [if_neg h6] at hs; subst hs
      simp (disch := omega) [isWithin_eq, bz_0, bz_1, bz, hu, h2, h3, h4, h5, h6]
      refine ⟨by omega, ?_⟩
      exact hQ _ (Cl.exc h (by decide))
  · rw [if_neg h1] at hs; subst hs
    have e := hQ _ (Cl.exc h (by decide))
    simp (disch := omega) [isWithin_eq, bz_0]
    spl
    all_goals first | exact e | omega | (exfalso; omega)
theorem M_action {D : Dat} {i r : MI} {p c b : Int} {Q : Int → MI → Prop} (h : ModelP D i) (ok : DOk D) (hb : b = 0 ∨ b = 1) (hQ : ∀ v i', Mo (spAction D p c b) v i i' → Q v i') : wp_X12_action p c b i r Q := by
  generalize hs : spAction D p c b = s at hQ
  unfold spAction at hs
  simp only [wp_X12_action, s24_X12_action, s29_X12_action, s53_X12_action, s60_X12_action, s89_X12_action]
  have hu : 0 ≤ p → p ≤ 3 → i 535 p = D.ac p := fun a b => h.ac p a (by omega)
  by_cases h1 : 0 ≤ p ∧ p ≤ 3 ∧ 0 ≤ c ∧ c ≤ 3
  · rw [if_pos h1] at hs
    obtain ⟨h2, h3, h4, h5⟩ := h1
    have ha := ok.ac p h2 (by omega)
    by_cases h6 : D.ac p < 16
    · rw [if_pos h6] at hs; subst hs
      have h7 : ¬ D.ac p = 16 := by omega
      have g : Q (D.ac p + 1) (st (st (st i 504 0 0) 536 (16 * p + D.ac p) (2 * c + b)) 535 p (D.ac p + 1)) := by
        refine hQ _ _ ?_
        refine ⟨?_, ?_, ?_, fun _ => ?_⟩
        · clear hQ
          have hact := h.act
          have hac := ok.ac
          have hap := h.ac
          mop h
        · intro a ha; simp (disch := omega) only [st_row]
        all_goals try (simp (disch := omega) only [st_row, st_ne, st_eq])
      rcases hb with rfl | rfl
      · simp (disch := omega) [in_eq, fails_eq, bz_0, bz_1, bz, st_row, st_ne, st_eq, hu, wr_of, h2, h3, h4, h5, h6, h7] at g ⊢
        exact ⟨by omega, by omega, by omega, g⟩
      · simp (disch := omega) [in_eq, fails_eq, bz_0, bz_1, bz, st_row, st_ne, st_eq, hu, wr_of, h2, h3, h4, h5, h6, h7] at g ⊢
        exact ⟨by omega, by omega, by omega, g⟩
    · rw [if_neg h6] at hs; subst hs
      have h7 : D.ac p = 16 := by omega
      simp (disch := omega) [in_eq, fails_eq, bz_0, bz_1, bz, st_row, st_ne, st_eq, hu, h2, h3, h4, h5, h7]
      refine ⟨by omega, ?_⟩
      refine hQ _ _ ?_; mleaf h
  · rw [if_neg h1] at hs; subst hs
    have e : Q 0 (st (st i 504 0 0) 504 0 1) := by refine hQ _ _ ?_; mleaf h
    simp (disch := omega) [in_eq, fails_eq, bz_0, st_eq]
    spl
    all_goals first | exact e | omega | (exfalso; omega)
def spDepth (D : Dat) (c n : Int) : Int × Int × Dat := if 0 ≤ c ∧ c ≤ 3 ∧ 1 ≤ n ∧ n ≤ 16 then (0, D.dep c, {D with dep := fun a => if a = c then n else D.dep a}) else (1, 0, D)
theorem L_setDepth {D : Dat} {i r : MI} {c n : Int} {Q : Int → MI → Prop} (h : ClassP D i r) (ok : DOk D) (hQ : ∀ i', Cl (spDepth D c n) i i' r (i 0 9) (i 0 10) → Q (spDepth D c n).1 i') : wp_L_setDepth c n i r Q := by
  generalize hs : spDepth D c n = s at hQ
  unfold spDepth at hs
  simp only [wp_L_setDepth, wp_X11_setDepth, s19_X11_setDepth]
  have hu : 0 ≤ c → c ≤ 3 → i 500 c = D.dep c := fun a b => h.dep c a (by omega)
  simp (disch := omega) [isWithin_eq, bz_0, st_row, st_ne, st_eq, hu]
  spl
  closeC h, hs, hQ
  all_goals rw [hu (by omega) (by omega)]
theorem M_setDepth {D : Dat} {i r : MI} {c n : Int} {Q : Int → MI → Prop} (h : ModelP D i) (ok : DOk D) (hQ : ∀ v i', Mo (spDepth D c n) v i i' → Q v i') : wp_X12_setDepth c n i r Q := by
  generalize hs : spDepth D c n = s at hQ
  unfold spDepth at hs
  simp only [wp_X12_setDepth, s25_X12_setDepth, s30_X12_setDepth]
  have hu : 0 ≤ c → c ≤ 3 → i 537 c = D.dep c := fun a b => h.dep c a (by omega)
  by_cases h1 : 0 ≤ c ∧ c ≤ 3 ∧ 1 ≤ n ∧ n ≤ 16
  · rw [if_pos h1] at hs; subst hs
    obtain ⟨h2, h3, h4, h5⟩ := h1
    simp (disch := omega) [in_eq, fails_eq, bz_0, bz_1, bz, st_row, st_ne, st_eq, hu, h2, h3, h4, h5]
    refine ⟨by omega, ?_⟩
    refine hQ _ _ ?_; mleaf h
  · rw [if_neg h1] at hs; subst hs
    have e : Q 0 (st (st i 504 0 0) 504 0 1) := by refine hQ _ _ ?_; mleaf h
    simp (disch := omega) [in_eq, fails_eq, bz_0, st_eq]
    spl
    all_goals first | exact e | omega | (exfalso; omega)
