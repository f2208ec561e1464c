theorem ixS_rng {k : Nat} {p : Int} (hk : k < 5) : -1 ≤ ixS k p ∧ ixS k p < (chS k).length := by
  have g : ∀ (l : List Int) (n : Int), 0 ≤ n → -1 ≤ ixL l n p ∧ ixL l n p < n + l.length := by
    intro l
    induction l with
    | nil => intro n hn; simp [ixL]; omega
    | cons a l ih =>
      intro n hn
      unfold ixL
      have := ih (n + 1) (by omega)
      simp only [List.length_cons]
      split <;> omega
  have := g (chS k) 0 (by omega)
  unfold ixS
  omega
macro "closeC" h:term ", " hs:ident ", " hQ:ident : tactic => `(tactic| all_goals first | omega | (exfalso; omega) | (hsx $hs; exact $hQ _ (Cl.exc $h (by decide))) | (hsx $hs; refine $hQ _ ?_; cleaf $h))
macro "closeM" h:term ", " hs:ident ", " hQ:ident : tactic => `(tactic| all_goals first | omega | (exfalso; omega) | (hsx $hs; refine $hQ _ _ ?_; mleaf $h))
def spUnits (D : Dat) (k n : Int) : Int × Int × Dat := if ixS 3 k < 0 ∨ ¬ (1 ≤ n ∧ n ≤ 4) then (1, 0, D) else if 5 ≤ ixS 3 k ∧ 1 < n then (2, 0, D) else (0, D.un (ixS 3 k), {D with un := fun a => if a = ixS 3 k then n else D.un a})
theorem L_setUnits {D : Dat} {i r : MI} {k n : Int} {Q : Int → MI → Prop} (h : ClassP D i r) (ok : DOk D) (hm : 0 ≤ k ∧ k < 65536) (hQ : ∀ i', Cl (spUnits D k n) i i' r (min (i 0 9) 2) (i 0 10) → Q (spUnits D k n).1 i') : wp_L_setUnits k n i r Q := by
  generalize hs : spUnits D k n = s at hQ
  unfold spUnits at hs
  simp only [wp_L_setUnits, wp_X11_setUnits, s50_X11_setUnits, s20_X11_setUnits]
  refine indexOf_w (by decide) hm.1 hm.2 ?_
  have hx := ixS_rng (k := 3) (p := k) (by decide)
  simp only [chS, List.length_cons, List.length_nil] at hx
  generalize ixS 3 k = x at *
  have hu : 0 ≤ x → i 69 x = D.un x := fun q => h.un x q (by omega)
  simp (disch := omega) [isWithin_eq, bz_0, st_row, st_ne, st_eq, hu]
  spl
  closeC h, hs, hQ
  all_goals rw [hu (by omega)]
theorem M_setUnits {D : Dat} {i r : MI} {k n : Int} {Q : Int → MI → Prop} (h : ModelP D i) (ok : DOk D) (hm : 0 ≤ k ∧ k < 65536) (hQ : ∀ v i', Mo (spUnits D k n) v i i' → Q v i') : wp_X12_setUnits k n i r Q := by
  generalize hs : spUnits D k n = s at hQ
  unfold spUnits at hs
  simp only [wp_X12_setUnits, s24_X12_setUnits, s29_X12_setUnits, s56_X12_setUnits, s57_X12_setUnits, s64_X12_setUnits]
  have ix : ∀ {i r : MI} {Q : Int → Prop}, Q (ixS 3 k) → wp_J0_indexOf_0f7a4 3 k i r Q := fun q => indexOf_w (by decide) hm.1 hm.2 q
  have hx := ixS_rng (k := 3) (p := k) (by decide)
  simp only [chS, List.length_cons, List.length_nil] at hx
  refine ix ?_
  generalize ixS 3 k = x at *
  have hu : 0 ≤ x → i 510 x = D.un x := fun q => h.un x q (by omega)
  have eE : ∀ e : Int, e ≠ 0 → st i 504 0 0 504 0 = 0 := fun _ _ => st_eq
  by_cases h1 : x < 0 ∨ ¬ (1 ≤ n ∧ n ≤ 4)
  · rw [if_pos h1] at hs; subst hs
    by_cases h0 : x < 0
    · simp (disch := omega) [in_eq, fails_eq, bz_0, st_eq, h0]
      refine hQ _ _ ?_; mleaf h
    · simp (disch := omega) [in_eq, fails_eq, bz_0, st_eq, h0]
      refine ⟨fun _ => ?_, by omega⟩
      refine hQ _ _ ?_; mleaf h
  · rw [if_neg h1] at hs
    have h2 : ¬ x < 0 := by omega
    have h3 : 1 ≤ n ∧ n ≤ 4 := by omega
    simp (disch := omega) [in_eq, fails_eq, bz_0, st_eq, h2, h3]
    by_cases h4 : 5 ≤ x ∧ 1 < n
    · rw [if_pos h4] at hs; subst hs
      refine ⟨by omega, fun _ => ix ⟨by omega, fun _ => ?_⟩⟩
      refine hQ _ _ ?_; mleaf h
    · rw [if_neg h4] at hs; subst hs
      have g : wp_J0_indexOf_0f7a4 3 k (st i 504 0 0) r (fun v11 => (0 ≤ v11 ∧ v11 < 7) ∧ wp_J0_indexOf_0f7a4 3 k (st i 504 0 0) r fun v19 => (0 ≤ v19 ∧ v19 < 7) ∧ Q (st i 504 0 0 510 v11) (st (st i 504 0 0) 510 v19 n)) := by
        refine ix ⟨by omega, ix ⟨by omega, ?_⟩⟩
        rw [st_row (by decide), hu (by omega)]
        refine hQ _ _ ?_; mleaf h
      refine ⟨fun _ => g, fun _ => ix ⟨fun _ => g, fun _ => by omega⟩⟩
def spCycles (D : Dat) (k n : Int) : Int × Int × Dat := if ixS 3 k < 0 ∨ ¬ (1 ≤ n ∧ n ≤ 5) then (1, 0, D) else (0, D.cy (ixS 3 k), {D with cy := fun a => if a = ixS 3 k then n else D.cy a})
theorem L_setCycles {D : Dat} {i r : MI} {k n : Int} {Q : Int → MI → Prop} (h : ClassP D i r) (ok : DOk D) (hm : 0 ≤ k ∧ k < 65536) (hQ : ∀ i', Cl (spCycles D k n) i i' r (min (i 0 9) 1) (i 0 10) → Q (spCycles D k n).1 i') : wp_L_setCycles k n i r Q := by
  generalize hs : spCycles D k n = s at hQ
  unfold spCycles at hs
  simp only [wp_L_setCycles, wp_X11_setCycles, s20_X11_setCycles]
  refine indexOf_w (by decide) hm.1 hm.2 ?_
  have hx := ixS_rng (k := 3) (p := k) (by decide)
  simp only [chS, List.length_cons, List.length_nil] at hx
  generalize ixS 3 k = x at *
  have hu : 0 ≤ x → i 70 x = D.cy x := fun q => h.cy x q (by omega)
  simp (disch := omega) [isWithin_eq, bz_0, st_row, st_ne, st_eq, hu]
  spl
  closeC h, hs, hQ
  all_goals rw [hu (by omega)]
theorem M_setCycles {D : Dat} {i r : MI} {k n : Int} {Q : Int → MI → Prop} (h : ModelP D i) (ok : DOk D) (hm : 0 ≤ k ∧ k < 65536) (hQ : ∀ v i', Mo (spCycles D k n) v i i' → Q v i') : wp_X12_setCycles k n i r Q := by
  generalize hs : spCycles D k n = s at hQ
  unfold spCycles at hs
  simp only [wp_X12_setCycles, s24_X12_setCycles, s29_X12_setCycles]
  have ix : ∀ {i r : MI} {Q : Int → Prop}, Q (ixS 3 k) → wp_J0_indexOf_0f7a4 3 k i r Q := fun q => indexOf_w (by decide) hm.1 hm.2 q
  have hx := ixS_rng (k := 3) (p := k) (by decide)
  simp only [chS, List.length_cons, List.length_nil] at hx
  refine ix ?_
  generalize ixS 3 k = x at *
  have hu : 0 ≤ x → i 511 x = D.cy x := fun q => h.cy x q (by omega)
  by_cases h1 : x < 0 ∨ ¬ (1 ≤ n ∧ n ≤ 5)
  · rw [if_pos h1] at hs; subst hs
    by_cases h0 : x < 0
    · simp (disch := omega) [in_eq, fails_eq, bz_0, st_eq, h0]
      refine hQ _ _ ?_; mleaf h
    · simp (disch := omega) [in_eq, fails_eq, bz_0, st_eq, h0]
      refine ⟨fun _ => ?_, by omega⟩
      refine hQ _ _ ?_; mleaf h
  · rw [if_neg h1] at hs
    have h2 : ¬ x < 0 := by omega
    have h3 : 1 ≤ n ∧ n ≤ 5 := by omega
    simp (disch := omega) [in_eq, fails_eq, bz_0, st_eq, h2, h3]
    subst hs
    refine ix ⟨by omega, ix ⟨by omega, ?_⟩⟩
    rw [st_row (by decide), hu (by omega)]
    refine hQ _ _ ?_; mleaf h
def spType (D : Dat) (c : Int) : Int × Int × Dat := if ixS 0 c < 0 then (1, 0, D) else if 24 ≤ D.many then (2, 0, D) else (0, D.many + 1, {D with many := D.many + 1, tx := fun a => if a = D.many then c else D.tx a})
theorem L_type {D : Dat} {i r : MI} {c : Int} {Q : Int → MI → Prop} (h : ClassP D i r) (ok : DOk D) (hm : 0 ≤ c ∧ c < 65536) (hQ : ∀ i', Cl (spType D c) i i' r (i 0 9) (i 0 10) → Q (spType D c).1 i') : wp_L_type c i r Q := by
  generalize hs : spType D c = s at hQ
  unfold spType at hs
  simp only [wp_L_type, wp_X11_type, wp_X10_append, s29_X10_append]
  refine indexOf_w (by decide) hm.1 hm.2 ?_
  generalize ixS 0 c = x at *
  have hu := h.many
  have hb := ok.many
  simp (disch := omega) [isWithin_eq, bz_0, st_row, st_ne, st_eq, hu, wr_of]
  spl
  closeC h, hs, hQ
theorem ixS_neg {k : Nat} {p : Int} : ixS k p < 0 ↔ p ∉ chS k := by
  have g : ∀ (l : List Int) (n : Int), 0 ≤ n → (ixL l n p < 0 ↔ p ∉ l) := by
    intro l
    induction l with
    | nil => intro n hn; simp [ixL]
    | cons a l ih =>
      intro n hn
      unfold ixL
      have := ih (n + 1) (by omega)
      split
      · rename_i e; simp [e]; omega
      · rename_i e; simp [this]; intro _ q; exact e q.symm
  exact g _ 0 (by omega)
theorem chS_40 (c : Int) : ixS 0 c < 0 ↔ ¬ (48 ≤ c ∧ c ≤ 57) ∧ ixS 4 c < 0 := by
  rw [ixS_neg, ixS_neg]
  simp only [chS, List.mem_cons, List.not_mem_nil, or_false]
  omega
theorem M_type {D : Dat} {i r : MI} {c : Int} {Q : Int → MI → Prop} (h : ModelP D i) (ok : DOk D) (hm : 0 ≤ c ∧ c < 65536) (hQ : ∀ v i', Mo (spType D c) v i i' → Q v i') : wp_X12_type c i r Q := by
  generalize hs : spType D c = s at hQ
  unfold spType at hs
  simp only [wp_X12_type, s30_X12_type, s31_X12_type, s53_X12_type, s60_X12_type]
  have ix : ∀ {i r : MI} {Q : Int → Prop}, Q (ixS 4 c) → wp_J0_indexOf_0f7a4 4 c i r Q := fun q => indexOf_w (by decide) hm.1 hm.2 q
  have hx := chS_40 c
  have hu := h.many
  have hb := ok.many
  have hp := ok.tx
  by_cases h1 : ixS 0 c < 0
  · rw [if_pos h1] at hs; subst hs
    rw [hx] at h1
    simp (disch := omega) [in_eq, fails_eq, bz_0, st_eq]
    refine ⟨fun _ => ix ⟨by omega, fun _ => ?_⟩, by omega⟩
    refine hQ _ _ ?_; mleaf h
  · rw [if_neg h1] at hs
    rw [hx] at h1
    generalize ixS 4 c = x at *
    have g : (i 504 1 = 24 → Q 0 (st (st i 504 0 0) 504 0 2)) ∧ (¬ i 504 1 = 24 → Q (D.many + 1) (st (st (st i 504 0 0) 505 D.many c) 504 1 (D.many + 1))) := by
      rw [hu]
      refine ⟨fun q => ?_, fun q => ?_⟩ <;> hsx hs <;> refine hQ _ _ ?_ <;> mleaf h
    simp (disch := omega) [in_eq, fails_eq, bz_0, st_eq, st_ne, st_row, hu, wr_of] at g ⊢
    refine ⟨fun _ => ix ⟨fun _ => ⟨g.1, fun q => ⟨by omega, by omega, g.2 q⟩⟩, fun _ => by omega⟩, fun _ _ => ⟨g.1, fun q => ⟨by omega, by omega, g.2 q⟩⟩⟩
