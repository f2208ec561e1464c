theorem ixS_rng {k : Nat} {p : Int} (hk : k < 5) : -1 ≤ ixS k p ∧ ixS k p < (chS k).length := by
  have g : ∀ (l : List Int) (n : Int), 0 ≤ n → -1 ≤ ixL l n p ∧ ixL l n p < n + l.length := by
    intro l
    induction l with
    | nil => intro n hn; simp [ixL]; omega
    | cons a l ih =>
      intro n hn
      unfold ixL
      have := ih (n + 1) (by omega)
      simp only [List.length_cons]
      split <;> omega
  have := g (chS k) 0 (by omega)
  unfold ixS
  omega
def spUnits (D : Dat) (k n : Int) : Int × Int × Dat := if ixS 3 k < 0 ∨ ¬ (1 ≤ n ∧ n ≤ 4) then (1, 0, D) else if 5 ≤ ixS 3 k ∧ 1 < n then (2, 0, D) else (0, D.un (ixS 3 k), (Dat.mk (D.many) (D.tx) (D.cnt) (D.fac) (D.tur) (D.bits) (D.inc) (D.inp) (D.told) (fun a => if a = ixS 3 k then n else D.un a) (D.cy) (D.F) (D.N) (D.T) (D.O) (D.ac) (D.ach) (D.apt) (D.dep)))
theorem L_setUnits {D : Dat} {i r : MI} {k n : Int} {Q : Int → MI → Prop} (h : ClassP D i r) (ok : DOk D) (hm : 0 ≤ k ∧ k < 65536) (hQ : ∀ i', Cl (spUnits D k n) i i' r (min (i 0 9) 2) (i 0 10) → Q (spUnits D k n).1 i') : wp_L_setUnits k n i r Q := by
  generalize hs : spUnits D k n = s at hQ
  unfold spUnits at hs
  simp only [wp_L_setUnits, wp_X11_setUnits, s50_X11_setUnits, s20_X11_setUnits]
  refine indexOf_w (by decide) hm.1 hm.2 ?_
  have hx := ixS_rng (k := 3) (p := k) (by decide)
  simp only [chS, List.length_cons, List.length_nil] at hx
  generalize ixS 3 k = x at *
  have hu : 0 ≤ x → i 69 x = D.un x := fun q => h.un x q (by omega)
  simp (disch := omega) [isWithin_eq, bz_0, st_row, st_ne, st_eq, hu]
  ((repeat' (first | (refine And.intro ?_ ?_) | intro _)))
  ((all_goals first | omega | (exfalso; omega) | ((((try simp (disch := omega) only [if_pos, if_neg] at hs); subst hs)); exact hQ _ (Cl.exc h (by decide))) | ((((try simp (disch := omega) only [if_pos, if_neg] at hs); subst hs)); refine hQ _ ?_; ((refine ⟨?_, ?_, ?_, fun _ => ⟨?_, ?_⟩, fun q => absurd rfl q, fun _ => ⟨?_, ?_⟩⟩; (focus (((have hs9 := fun k a b => stm_rng (RefP.s (ClassP.rf h) k a b); have hs9' := stm_rng (RefP.p (ClassP.rf h)); have hc12 := ClassP.c12 h; apply ClassP.mk <;> intros <;> try (simp (disch := omega) only [st_row, st_ne, st_eq, Dat.k_many, Dat.k_tx, Dat.k_cnt, Dat.k_fac, Dat.k_tur, Dat.k_bits, Dat.k_inc, Dat.k_inp, Dat.k_told, Dat.k_un, Dat.k_cy, Dat.k_F, Dat.k_N, Dat.k_T, Dat.k_O, Dat.k_ac, Dat.k_ach, Dat.k_apt, Dat.k_dep])); all_goals (first | exact (ClassP.many h :) | exact (ClassP.cnt h :) | exact (ClassP.inc h :) | exact (ClassP.tur h :) | exact (ClassP.bits h :) | exact (ClassP.fac h :) | exact (ClassP.rf h :) | exact (ClassP.c12 h :) | (apply ClassP.tx h <;> assumption) | (apply ClassP.inp h <;> assumption) | (apply ClassP.told h <;> assumption) | (apply ClassP.un h <;> assumption) | (apply ClassP.cy h <;> assumption) | (apply ClassP.ac h <;> assumption) | (apply ClassP.ach h <;> assumption) | (apply ClassP.apt h <;> assumption) | (apply ClassP.dep h <;> assumption) | (rename_i kk ka kb; have hkb := Int.lt_of_lt_of_le kb hc12.2; have hk9 := hs9 kk ka hkb; (repeat' (apply StmAt.st')); (exact (ClassP.st h kk ka kb :)); (all_goals omega)) | (have u1 := ClassP.tx h; have u2 := ClassP.inp h; have u3 := ClassP.told h; have u4 := ClassP.un h; have u5 := ClassP.cy h; have u6 := ClassP.ac h; have u7 := ClassP.ach h; have u8 := ClassP.apt h; have u9 := ClassP.dep h; (try simp only [Dat.k_many, Dat.k_tx, Dat.k_cnt, Dat.k_fac, Dat.k_tur, Dat.k_bits, Dat.k_inc, Dat.k_inp, Dat.k_told, Dat.k_un, Dat.k_cy, Dat.k_F, Dat.k_N, Dat.k_T, Dat.k_O, Dat.k_ac, Dat.k_ach, Dat.k_apt, Dat.k_dep] at *); unfold Pilot.CSchedularyLaw_law_r7114_237193.st; grind) | skip)))); (intro a ha; simp (disch := omega) only [st_row]); (intro a ha hb; simp (disch := omega) only [st_row]); all_goals try (simp (disch := omega) only [st_row, st_ne, st_eq]))))))
  all_goals rw [hu (by omega)]
theorem M_setUnits {D : Dat} {i r : MI} {k n : Int} {Q : Int → MI → Prop} (h : ModelP D i) (ok : DOk D) (hm : 0 ≤ k ∧ k < 65536) (hQ : ∀ v i', Mo (spUnits D k n) v i i' → Q v i') : wp_X12_setUnits k n i r Q := by
  generalize hs : spUnits D k n = s at hQ
  unfold spUnits at hs
  simp only [wp_X12_setUnits, s24_X12_setUnits, s29_X12_setUnits, s56_X12_setUnits, s57_X12_setUnits, s64_X12_setUnits]
  have ix : ∀ {i r : MI} {Q : Int → Prop}, Q (ixS 3 k) → wp_J0_indexOf_0f7a4 3 k i r Q := fun q => indexOf_w (by decide) hm.1 hm.2 q
  have hx := ixS_rng (k := 3) (p := k) (by decide)
  simp only [chS, List.length_cons, List.length_nil] at hx
  refine ix ?_
  generalize ixS 3 k = x at *
  have hu : 0 ≤ x → i 510 x = D.un x := fun q => h.un x q (by omega)
  have eE : ∀ e : Int, e ≠ 0 → st i 504 0 0 504 0 = 0 := fun _ _ => st_eq
  by_cases h1 : x < 0 ∨ ¬ (1 ≤ n ∧ n ≤ 4)
  · rw [if_pos h1] at hs; subst hs
    by_cases h0 : x < 0
    · simp (disch := omega) [in_eq, fails_eq, bz_0, st_eq, h0]
      refine hQ _ _ ?_; ((refine ⟨?_, ?_, ?_, fun _ => ?_⟩; (focus (((apply ModelP.mk <;> intros <;> try (simp (disch := omega) only [st_row, st_ne, st_eq, Dat.k_many, Dat.k_tx, Dat.k_cnt, Dat.k_fac, Dat.k_tur, Dat.k_bits, Dat.k_inc, Dat.k_inp, Dat.k_told, Dat.k_un, Dat.k_cy, Dat.k_F, Dat.k_N, Dat.k_T, Dat.k_O, Dat.k_ac, Dat.k_ach, Dat.k_apt, Dat.k_dep])); all_goals (first | exact (ModelP.many h :) | exact (ModelP.cnt h :) | exact (ModelP.inc h :) | exact (ModelP.tur h :) | exact (ModelP.bits h :) | exact (ModelP.fac h :) | (apply ModelP.tx h <;> assumption) | (apply ModelP.inp h <;> assumption) | (apply ModelP.told h <;> assumption) | (apply ModelP.un h <;> assumption) | (apply ModelP.cy h <;> assumption) | (apply ModelP.ac h <;> assumption) | (apply ModelP.act h <;> assumption) | (apply ModelP.dep h <;> assumption) | ((repeat' (apply MStm.st')); (apply ModelP.st h <;> assumption); (all_goals decide)) | (have u1 := ModelP.tx h; have u2 := ModelP.inp h; have u3 := ModelP.told h; have u4 := ModelP.un h; have u5 := ModelP.cy h; have u6 := ModelP.ac h; have u7 := ModelP.act h; have u9 := ModelP.dep h; (try simp only [Dat.k_many, Dat.k_tx, Dat.k_cnt, Dat.k_fac, Dat.k_tur, Dat.k_bits, Dat.k_inc, Dat.k_inp, Dat.k_told, Dat.k_un, Dat.k_cy, Dat.k_F, Dat.k_N, Dat.k_T, Dat.k_O, Dat.k_ac, Dat.k_ach, Dat.k_apt, Dat.k_dep] at *); unfold Pilot.CSchedularyLaw_law_r7114_237193.st; grind) | skip)))); (intro a ha; simp (disch := omega) only [st_row]); all_goals try (simp (disch := omega) only [st_row, st_ne, st_eq])))
    · simp (disch := omega) [in_eq, fails_eq, bz_0, st_eq, h0]
      refine ⟨fun _ => ?_, by omega⟩
      refine hQ _ _ ?_; ((refine ⟨?_, ?_, ?_, fun _ => ?_⟩; (focus (((apply ModelP.mk <;> intros <;> try (simp (disch := omega) only [st_row, st_ne, st_eq, Dat.k_many, Dat.k_tx, Dat.k_cnt, Dat.k_fac, Dat.k_tur, Dat.k_bits, Dat.k_inc, Dat.k_inp, Dat.k_told, Dat.k_un, Dat.k_cy, Dat.k_F, Dat.k_N, Dat.k_T, Dat.k_O, Dat.k_ac, Dat.k_ach, Dat.k_apt, Dat.k_dep])); all_goals (first | exact (ModelP.many h :) | exact (ModelP.cnt h :) | exact (ModelP.inc h :) | exact (ModelP.tur h :) | exact (ModelP.bits h :) | exact (ModelP.fac h :) | (apply ModelP.tx h <;> assumption) | (apply ModelP.inp h <;> assumption) | (apply ModelP.told h <;> assumption) | (apply ModelP.un h <;> assumption) | (apply ModelP.cy h <;> assumption) | (apply ModelP.ac h <;> assumption) | (apply ModelP.act h <;> assumption) | (apply ModelP.dep h <;> assumption) | ((repeat' (apply MStm.st')); (apply ModelP.st h <;> assumption); (all_goals decide)) | (have u1 := ModelP.tx h; have u2 := ModelP.inp h; have u3 := ModelP.told h; have u4 := ModelP.un h; have u5 := ModelP.cy h; have u6 := ModelP.ac h; have u7 := ModelP.act h; have u9 := ModelP.dep h; (try simp only [Dat.k_many, Dat.k_tx, Dat.k_cnt, Dat.k_fac, Dat.k_tur, Dat.k_bits, Dat.k_inc, Dat.k_inp, Dat.k_told, Dat.k_un, Dat.k_cy, Dat.k_F, Dat.k_N, Dat.k_T, Dat.k_O, Dat.k_ac, Dat.k_ach, Dat.k_apt, Dat.k_dep] at *); unfold Pilot.CSchedularyLaw_law_r7114_237193.st; grind) | skip)))); (intro a ha; simp (disch := omega) only [st_row]); all_goals try (simp (disch := omega) only [st_row, st_ne, st_eq])))
  · rw [if_neg h1] at hs
    have h2 : ¬ x < 0 := by omega
    have h3 : 1 ≤ n ∧ n ≤ 4 := by omega
    simp (disch := omega) [in_eq, fails_eq, bz_0, st_eq, h2, h3]
    by_cases h4 : 5 ≤ x ∧ 1 < n
    · rw [if_pos h4] at hs; subst hs
      refine ⟨by omega, fun _ => ix ⟨by omega, fun _ => ?_⟩⟩
      refine hQ _ _ ?_; ((refine ⟨?_, ?_, ?_, fun _ => ?_⟩; (focus (((apply ModelP.mk <;> intros <;> try (simp (disch := omega) only [st_row, st_ne, st_eq, Dat.k_many, Dat.k_tx, Dat.k_cnt, Dat.k_fac, Dat.k_tur, Dat.k_bits, Dat.k_inc, Dat.k_inp, Dat.k_told, Dat.k_un, Dat.k_cy, Dat.k_F, Dat.k_N, Dat.k_T, Dat.k_O, Dat.k_ac, Dat.k_ach, Dat.k_apt, Dat.k_dep])); all_goals (first | exact (ModelP.many h :) | exact (ModelP.cnt h :) | exact (ModelP.inc h :) | exact (ModelP.tur h :) | exact (ModelP.bits h :) | exact (ModelP.fac h :) | (apply ModelP.tx h <;> assumption) | (apply ModelP.inp h <;> assumption) | (apply ModelP.told h <;> assumption) | (apply ModelP.un h <;> assumption) | (apply ModelP.cy h <;> assumption) | (apply ModelP.ac h <;> assumption) | (apply ModelP.act h <;> assumption) | (apply ModelP.dep h <;> assumption) | ((repeat' (apply MStm.st')); (apply ModelP.st h <;> assumption); (all_goals decide)) | (have u1 := ModelP.tx h; have u2 := ModelP.inp h; have u3 := ModelP.told h; have u4 := ModelP.un h; have u5 := ModelP.cy h; have u6 := ModelP.ac h; have u7 := ModelP.act h; have u9 := ModelP.dep h; (try simp only [Dat.k_many, Dat.k_tx, Dat.k_cnt, Dat.k_fac, Dat.k_tur, Dat.k_bits, Dat.k_inc, Dat.k_inp, Dat.k_told, Dat.k_un, Dat.k_cy, Dat.k_F, Dat.k_N, Dat.k_T, Dat.k_O, Dat.k_ac, Dat.k_ach, Dat.k_apt, Dat.k_dep] at *); unfold Pilot.CSchedularyLaw_law_r7114_237193.st; grind) | skip)))); (intro a ha; simp (disch := omega) only [st_row]); all_goals try (simp (disch := omega) only [st_row, st_ne, st_eq])))
    · rw [if_neg h4] at hs; subst hs
      have g : wp_J0_indexOf_0f7a4 3 k (st i 504 0 0) r (fun v11 => (0 ≤ v11 ∧ v11 < 7) ∧ wp_J0_indexOf_0f7a4 3 k (st i 504 0 0) r fun v19 => (0 ≤ v19 ∧ v19 < 7) ∧ Q (st i 504 0 0 510 v11) (st (st i 504 0 0) 510 v19 n)) := by
        refine ix ⟨by omega, ix ⟨by omega, ?_⟩⟩
        rw [st_row (by decide), hu (by omega)]
        refine hQ _ _ ?_; ((refine ⟨?_, ?_, ?_, fun _ => ?_⟩; (focus (((apply ModelP.mk <;> intros <;> try (simp (disch := omega) only [st_row, st_ne, st_eq, Dat.k_many, Dat.k_tx, Dat.k_cnt, Dat.k_fac, Dat.k_tur, Dat.k_bits, Dat.k_inc, Dat.k_inp, Dat.k_told, Dat.k_un, Dat.k_cy, Dat.k_F, Dat.k_N, Dat.k_T, Dat.k_O, Dat.k_ac, Dat.k_ach, Dat.k_apt, Dat.k_dep])); all_goals (first | exact (ModelP.many h :) | exact (ModelP.cnt h :) | exact (ModelP.inc h :) | exact (ModelP.tur h :) | exact (ModelP.bits h :) | exact (ModelP.fac h :) | (apply ModelP.tx h <;> assumption) | (apply ModelP.inp h <;> assumption) | (apply ModelP.told h <;> assumption) | (apply ModelP.un h <;> assumption) | (apply ModelP.cy h <;> assumption) | (apply ModelP.ac h <;> assumption) | (apply ModelP.act h <;> assumption) | (apply ModelP.dep h <;> assumption) | ((repeat' (apply MStm.st')); (apply ModelP.st h <;> assumption); (all_goals decide)) | (have u1 := ModelP.tx h; have u2 := ModelP.inp h; have u3 := ModelP.told h; have u4 := ModelP.un h; have u5 := ModelP.cy h; have u6 := ModelP.ac h; have u7 := ModelP.act h; have u9 := ModelP.dep h; (try simp only [Dat.k_many, Dat.k_tx, Dat.k_cnt, Dat.k_fac, Dat.k_tur, Dat.k_bits, Dat.k_inc, Dat.k_inp, Dat.k_told, Dat.k_un, Dat.k_cy, Dat.k_F, Dat.k_N, Dat.k_T, Dat.k_O, Dat.k_ac, Dat.k_ach, Dat.k_apt, Dat.k_dep] at *); unfold Pilot.CSchedularyLaw_law_r7114_237193.st; grind) | skip)))); (intro a ha; simp (disch := omega) only [st_row]); all_goals try (simp (disch := omega) only [st_row, st_ne, st_eq])))
      refine ⟨fun _ => g, fun _ => ix ⟨fun _ => g, fun _ => by omega⟩⟩
def spCycles (D : Dat) (k n : Int) : Int × Int × Dat := if ixS 3 k < 0 ∨ ¬ (1 ≤ n ∧ n ≤ 5) then (1, 0, D) else (0, D.cy (ixS 3 k), (Dat.mk (D.many) (D.tx) (D.cnt) (D.fac) (D.tur) (D.bits) (D.inc) (D.inp) (D.told) (D.un) (fun a => if a = ixS 3 k then n else D.cy a) (D.F) (D.N) (D.T) (D.O) (D.ac) (D.ach) (D.apt) (D.dep)))
theorem L_setCycles {D : Dat} {i r : MI} {k n : Int} {Q : Int → MI → Prop} (h : ClassP D i r) (ok : DOk D) (hm : 0 ≤ k ∧ k < 65536) (hQ : ∀ i', Cl (spCycles D k n) i i' r (min (i 0 9) 1) (i 0 10) → Q (spCycles D k n).1 i') : wp_L_setCycles k n i r Q := by
  generalize hs : spCycles D k n = s at hQ
  unfold spCycles at hs
  simp only [wp_L_setCycles, wp_X11_setCycles, s20_X11_setCycles]
  refine indexOf_w (by decide) hm.1 hm.2 ?_
  have hx := ixS_rng (k := 3) (p := k) (by decide)
  simp only [chS, List.length_cons, List.length_nil] at hx
  generalize ixS 3 k = x at *
  have hu : 0 ≤ x → i 70 x = D.cy x := fun q => h.cy x q (by omega)
  simp (disch := omega) [isWithin_eq, bz_0, st_row, st_ne, st_eq, hu]
  ((repeat' (first | (refine And.intro ?_ ?_) | intro _)))
  ((all_goals first | omega | (exfalso; omega) | ((((try simp (disch := omega) only [if_pos, if_neg] at hs); subst hs)); exact hQ _ (Cl.exc h (by decide))) | ((((try simp (disch := omega) only [if_pos, if_neg] at hs); subst hs)); refine hQ _ ?_; ((refine ⟨?_, ?_, ?_, fun _ => ⟨?_, ?_⟩, fun q => absurd rfl q, fun _ => ⟨?_, ?_⟩⟩; (focus (((have hs9 := fun k a b => stm_rng (RefP.s (ClassP.rf h) k a b); have hs9' := stm_rng (RefP.p (ClassP.rf h)); have hc12 := ClassP.c12 h; apply ClassP.mk <;> intros <;> try (simp (disch := omega) only [st_row, st_ne, st_eq, Dat.k_many, Dat.k_tx, Dat.k_cnt, Dat.k_fac, Dat.k_tur, Dat.k_bits, Dat.k_inc, Dat.k_inp, Dat.k_told, Dat.k_un, Dat.k_cy, Dat.k_F, Dat.k_N, Dat.k_T, Dat.k_O, Dat.k_ac, Dat.k_ach, Dat.k_apt, Dat.k_dep])); all_goals (first | exact (ClassP.many h :) | exact (ClassP.cnt h :) | exact (ClassP.inc h :) | exact (ClassP.tur h :) | exact (ClassP.bits h :) | exact (ClassP.fac h :) | exact (ClassP.rf h :) | exact (ClassP.c12 h :) | (apply ClassP.tx h <;> assumption) | (apply ClassP.inp h <;> assumption) | (apply ClassP.told h <;> assumption) | (apply ClassP.un h <;> assumption) | (apply ClassP.cy h <;> assumption) | (apply ClassP.ac h <;> assumption) | (apply ClassP.ach h <;> assumption) | (apply ClassP.apt h <;> assumption) | (apply ClassP.dep h <;> assumption) | (rename_i kk ka kb; have hkb := Int.lt_of_lt_of_le kb hc12.2; have hk9 := hs9 kk ka hkb; (repeat' (apply StmAt.st')); (exact (ClassP.st h kk ka kb :)); (all_goals omega)) | (have u1 := ClassP.tx h; have u2 := ClassP.inp h; have u3 := ClassP.told h; have u4 := ClassP.un h; have u5 := ClassP.cy h; have u6 := ClassP.ac h; have u7 := ClassP.ach h; have u8 := ClassP.apt h; have u9 := ClassP.dep h; (try simp only [Dat.k_many, Dat.k_tx, Dat.k_cnt, Dat.k_fac, Dat.k_tur, Dat.k_bits, Dat.k_inc, Dat.k_inp, Dat.k_told, Dat.k_un, Dat.k_cy, Dat.k_F, Dat.k_N, Dat.k_T, Dat.k_O, Dat.k_ac, Dat.k_ach, Dat.k_apt, Dat.k_dep] at *); unfold Pilot.CSchedularyLaw_law_r7114_237193.st; grind) | skip)))); (intro a ha; simp (disch := omega) only [st_row]); (intro a ha hb; simp (disch := omega) only [st_row]); all_goals try (simp (disch := omega) only [st_row, st_ne, st_eq]))))))
  all_goals rw [hu (by omega)]
theorem M_setCycles {D : Dat} {i r : MI} {k n : Int} {Q : Int → MI → Prop} (h : ModelP D i) (ok : DOk D) (hm : 0 ≤ k ∧ k < 65536) (hQ : ∀ v i', Mo (spCycles D k n) v i i' → Q v i') : wp_X12_setCycles k n i r Q := by
  generalize hs : spCycles D k n = s at hQ
  unfold spCycles at hs
  simp only [wp_X12_setCycles, s24_X12_setCycles, s29_X12_setCycles]
  have ix : ∀ {i r : MI} {Q : Int → Prop}, Q (ixS 3 k) → wp_J0_indexOf_0f7a4 3 k i r Q := fun q => indexOf_w (by decide) hm.1 hm.2 q
  have hx := ixS_rng (k := 3) (p := k) (by decide)
  simp only [chS, List.length_cons, List.length_nil] at hx
  refine ix ?_
  generalize ixS 3 k = x at *
  have hu : 0 ≤ x → i 511 x = D.cy x := fun q => h.cy x q (by omega)
  by_cases h1 : x < 0 ∨ ¬ (1 ≤ n ∧ n ≤ 5)
  · rw [if_pos h1] at hs; subst hs
    by_cases h0 : x < 0
    · simp (disch := omega) [in_eq, fails_eq, bz_0, st_eq, h0]
      refine hQ _ _ ?_; ((refine ⟨?_, ?_, ?_, fun _ => ?_⟩; (focus (((apply ModelP.mk <;> intros <;> try (simp (disch := omega) only [st_row, st_ne, st_eq, Dat.k_many, Dat.k_tx, Dat.k_cnt, Dat.k_fac, Dat.k_tur, Dat.k_bits, Dat.k_inc, Dat.k_inp, Dat.k_told, Dat.k_un, Dat.k_cy, Dat.k_F, Dat.k_N, Dat.k_T, Dat.k_O, Dat.k_ac, Dat.k_ach, Dat.k_apt, Dat.k_dep])); all_goals (first | exact (ModelP.many h :) | exact (ModelP.cnt h :) | exact (ModelP.inc h :) | exact (ModelP.tur h :) | exact (ModelP.bits h :) | exact (ModelP.fac h :) | (apply ModelP.tx h <;> assumption) | (apply ModelP.inp h <;> assumption) | (apply ModelP.told h <;> assumption) | (apply ModelP.un h <;> assumption) | (apply ModelP.cy h <;> assumption) | (apply ModelP.ac h <;> assumption) | (apply ModelP.act h <;> assumption) | (apply ModelP.dep h <;> assumption) | ((repeat' (apply MStm.st')); (apply ModelP.st h <;> assumption); (all_goals decide)) | (have u1 := ModelP.tx h; have u2 := ModelP.inp h; have u3 := ModelP.told h; have u4 := ModelP.un h; have u5 := ModelP.cy h; have u6 := ModelP.ac h; have u7 := ModelP.act h; have u9 := ModelP.dep h; (try simp only [Dat.k_many, Dat.k_tx, Dat.k_cnt, Dat.k_fac, Dat.k_tur, Dat.k_bits, Dat.k_inc, Dat.k_inp, Dat.k_told, Dat.k_un, Dat.k_cy, Dat.k_F, Dat.k_N, Dat.k_T, Dat.k_O, Dat.k_ac, Dat.k_ach, Dat.k_apt, Dat.k_dep] at *); unfold Pilot.CSchedularyLaw_law_r7114_237193.st; grind) | skip)))); (intro a ha; simp (disch := omega) only [st_row]); all_goals try (simp (disch := omega) only [st_row, st_ne, st_eq])))
    · simp (disch := omega) [in_eq, fails_eq, bz_0, st_eq, h0]
      refine ⟨fun _ => ?_, by omega⟩
      refine hQ _ _ ?_; ((refine ⟨?_, ?_, ?_, fun _ => ?_⟩; (focus (((apply ModelP.mk <;> intros <;> try (simp (disch := omega) only [st_row, st_ne, st_eq, Dat.k_many, Dat.k_tx, Dat.k_cnt, Dat.k_fac, Dat.k_tur, Dat.k_bits, Dat.k_inc, Dat.k_inp, Dat.k_told, Dat.k_un, Dat.k_cy, Dat.k_F, Dat.k_N, Dat.k_T, Dat.k_O, Dat.k_ac, Dat.k_ach, Dat.k_apt, Dat.k_dep])); all_goals (first | exact (ModelP.many h :) | exact (ModelP.cnt h :) | exact (ModelP.inc h :) | exact (ModelP.tur h :) | exact (ModelP.bits h :) | exact (ModelP.fac h :) | (apply ModelP.tx h <;> assumption) | (apply ModelP.inp h <;> assumption) | (apply ModelP.told h <;> assumption) | (apply ModelP.un h <;> assumption) | (apply ModelP.cy h <;> assumption) | (apply ModelP.ac h <;> assumption) | (apply ModelP.act h <;> assumption) | (apply ModelP.dep h <;> assumption) | ((repeat' (apply MStm.st')); (apply ModelP.st h <;> assumption); (all_goals decide)) | (have u1 := ModelP.tx h; have u2 := ModelP.inp h; have u3 := ModelP.told h; have u4 := ModelP.un h; have u5 := ModelP.cy h; have u6 := ModelP.ac h; have u7 := ModelP.act h; have u9 := ModelP.dep h; (try simp only [Dat.k_many, Dat.k_tx, Dat.k_cnt, Dat.k_fac, Dat.k_tur, Dat.k_bits, Dat.k_inc, Dat.k_inp, Dat.k_told, Dat.k_un, Dat.k_cy, Dat.k_F, Dat.k_N, Dat.k_T, Dat.k_O, Dat.k_ac, Dat.k_ach, Dat.k_apt, Dat.k_dep] at *); unfold Pilot.CSchedularyLaw_law_r7114_237193.st; grind) | skip)))); (intro a ha; simp (disch := omega) only [st_row]); all_goals try (simp (disch := omega) only [st_row, st_ne, st_eq])))
  · rw [if_neg h1] at hs
    have h2 : ¬ x < 0 := by omega
    have h3 : 1 ≤ n ∧ n ≤ 5 := by omega
    simp (disch := omega) [in_eq, fails_eq, bz_0, st_eq, h2, h3]
    subst hs
    refine ix ⟨by omega, ix ⟨by omega, ?_⟩⟩
    rw [st_row (by decide), hu (by omega)]
    refine hQ _ _ ?_; ((refine ⟨?_, ?_, ?_, fun _ => ?_⟩; (focus (((apply ModelP.mk <;> intros <;> try (simp (disch := omega) only [st_row, st_ne, st_eq, Dat.k_many, Dat.k_tx, Dat.k_cnt, Dat.k_fac, Dat.k_tur, Dat.k_bits, Dat.k_inc, Dat.k_inp, Dat.k_told, Dat.k_un, Dat.k_cy, Dat.k_F, Dat.k_N, Dat.k_T, Dat.k_O, Dat.k_ac, Dat.k_ach, Dat.k_apt, Dat.k_dep])); all_goals (first | exact (ModelP.many h :) | exact (ModelP.cnt h :) | exact (ModelP.inc h :) | exact (ModelP.tur h :) | exact (ModelP.bits h :) | exact (ModelP.fac h :) | (apply ModelP.tx h <;> assumption) | (apply ModelP.inp h <;> assumption) | (apply ModelP.told h <;> assumption) | (apply ModelP.un h <;> assumption) | (apply ModelP.cy h <;> assumption) | (apply ModelP.ac h <;> assumption) | (apply ModelP.act h <;> assumption) | (apply ModelP.dep h <;> assumption) | ((repeat' (apply MStm.st')); (apply ModelP.st h <;> assumption); (all_goals decide)) | (have u1 := ModelP.tx h; have u2 := ModelP.inp h; have u3 := ModelP.told h; have u4 := ModelP.un h; have u5 := ModelP.cy h; have u6 := ModelP.ac h; have u7 := ModelP.act h; have u9 := ModelP.dep h; (try simp only [Dat.k_many, Dat.k_tx, Dat.k_cnt, Dat.k_fac, Dat.k_tur, Dat.k_bits, Dat.k_inc, Dat.k_inp, Dat.k_told, Dat.k_un, Dat.k_cy, Dat.k_F, Dat.k_N, Dat.k_T, Dat.k_O, Dat.k_ac, Dat.k_ach, Dat.k_apt, Dat.k_dep] at *); unfold Pilot.CSchedularyLaw_law_r7114_237193.st; grind) | skip)))); (intro a ha; simp (disch := omega) only [st_row]); all_goals try (simp (disch := omega) only [st_row, st_ne, st_eq])))
def spType (D : Dat) (c : Int) : Int × Int × Dat := if ixS 0 c < 0 then (1, 0, D) else if 24 ≤ D.many then (2, 0, D) else (0, D.many + 1, (Dat.mk (D.many + 1) (fun a => if a = D.many then c else D.tx a) (D.cnt) (D.fac) (D.tur) (D.bits) (D.inc) (D.inp) (D.told) (D.un) (D.cy) (D.F) (D.N) (D.T) (D.O) (D.ac) (D.ach) (D.apt) (D.dep)))
theorem L_type {D : Dat} {i r : MI} {c : Int} {Q : Int → MI → Prop} (h : ClassP D i r) (ok : DOk D) (hm : 0 ≤ c ∧ c < 65536) (hQ : ∀ i', Cl (spType D c) i i' r (i 0 9) (i 0 10) → Q (spType D c).1 i') : wp_L_type c i r Q := by
  generalize hs : spType D c = s at hQ
  unfold spType at hs
  simp only [wp_L_type, wp_X11_type, wp_X10_append, s29_X10_append]
  refine indexOf_w (by decide) hm.1 hm.2 ?_
  generalize ixS 0 c = x at *
  have hu := h.many
  have hb := ok.many
  simp (disch := omega) [isWithin_eq, bz_0, st_row, st_ne, st_eq, hu, wr_of]
  ((repeat' (first | (refine And.intro ?_ ?_) | intro _)))
  ((all_goals first | omega | (exfalso; omega) | ((((try simp (disch := omega) only [if_pos, if_neg] at hs); subst hs)); exact hQ _ (Cl.exc h (by decide))) | ((((try simp (disch := omega) only [if_pos, if_neg] at hs); subst hs)); refine hQ _ ?_; ((refine ⟨?_, ?_, ?_, fun _ => ⟨?_, ?_⟩, fun q => absurd rfl q, fun _ => ⟨?_, ?_⟩⟩; (focus (((have hs9 := fun k a b => stm_rng (RefP.s (ClassP.rf h) k a b); have hs9' := stm_rng (RefP.p (ClassP.rf h)); have hc12 := ClassP.c12 h; apply ClassP.mk <;> intros <;> try (simp (disch := omega) only [st_row, st_ne, st_eq, Dat.k_many, Dat.k_tx, Dat.k_cnt, Dat.k_fac, Dat.k_tur, Dat.k_bits, Dat.k_inc, Dat.k_inp, Dat.k_told, Dat.k_un, Dat.k_cy, Dat.k_F, Dat.k_N, Dat.k_T, Dat.k_O, Dat.k_ac, Dat.k_ach, Dat.k_apt, Dat.k_dep])); all_goals (first | exact (ClassP.many h :) | exact (ClassP.cnt h :) | exact (ClassP.inc h :) | exact (ClassP.tur h :) | exact (ClassP.bits h :) | exact (ClassP.fac h :) | exact (ClassP.rf h :) | exact (ClassP.c12 h :) | (apply ClassP.tx h <;> assumption) | (apply ClassP.inp h <;> assumption) | (apply ClassP.told h <;> assumption) | (apply ClassP.un h <;> assumption) | (apply ClassP.cy h <;> assumption) | (apply ClassP.ac h <;> assumption) | (apply ClassP.ach h <;> assumption) | (apply ClassP.apt h <;> assumption) | (apply ClassP.dep h <;> assumption) | (rename_i kk ka kb; have hkb := Int.lt_of_lt_of_le kb hc12.2; have hk9 := hs9 kk ka hkb; (repeat' (apply StmAt.st')); (exact (ClassP.st h kk ka kb :)); (all_goals omega)) | (have u1 := ClassP.tx h; have u2 := ClassP.inp h; have u3 := ClassP.told h; have u4 := ClassP.un h; have u5 := ClassP.cy h; have u6 := ClassP.ac h; have u7 := ClassP.ach h; have u8 := ClassP.apt h; have u9 := ClassP.dep h; (try simp only [Dat.k_many, Dat.k_tx, Dat.k_cnt, Dat.k_fac, Dat.k_tur, Dat.k_bits, Dat.k_inc, Dat.k_inp, Dat.k_told, Dat.k_un, Dat.k_cy, Dat.k_F, Dat.k_N, Dat.k_T, Dat.k_O, Dat.k_ac, Dat.k_ach, Dat.k_apt, Dat.k_dep] at *); unfold Pilot.CSchedularyLaw_law_r7114_237193.st; grind) | skip)))); (intro a ha; simp (disch := omega) only [st_row]); (intro a ha hb; simp (disch := omega) only [st_row]); all_goals try (simp (disch := omega) only [st_row, st_ne, st_eq]))))))
theorem ixS_neg {k : Nat} {p : Int} : ixS k p < 0 ↔ p ∉ chS k := by
  have g : ∀ (l : List Int) (n : Int), 0 ≤ n → (ixL l n p < 0 ↔ p ∉ l) := by
    intro l
    induction l with
    | nil => intro n hn; simp [ixL]
    | cons a l ih =>
      intro n hn
      unfold ixL
      have := ih (n + 1) (by omega)
      split
      · rename_i e; simp [e]; omega
      · rename_i e; simp [this]; intro _ q; exact e q.symm
  exact g _ 0 (by omega)
theorem chS_40 (c : Int) : ixS 0 c < 0 ↔ ¬ (48 ≤ c ∧ c ≤ 57) ∧ ixS 4 c < 0 := by
  rw [ixS_neg, ixS_neg]
  simp only [chS, List.mem_cons, List.not_mem_nil, or_false]
  omega
theorem M_type {D : Dat} {i r : MI} {c : Int} {Q : Int → MI → Prop} (h : ModelP D i) (ok : DOk D) (hm : 0 ≤ c ∧ c < 65536) (hQ : ∀ v i', Mo (spType D c) v i i' → Q v i') : wp_X12_type c i r Q := by
  generalize hs : spType D c = s at hQ
  unfold spType at hs
  simp only [wp_X12_type, s30_X12_type, s31_X12_type, s53_X12_type, s60_X12_type]
  have ix : ∀ {i r : MI} {Q : Int → Prop}, Q (ixS 4 c) → wp_J0_indexOf_0f7a4 4 c i r Q := fun q => indexOf_w (by decide) hm.1 hm.2 q
  have hx := chS_40 c
  have hu := h.many
  have hb := ok.many
  have hp := ok.tx
  by_cases h1 : ixS 0 c < 0
  · rw [if_pos h1] at hs; subst hs
    rw [hx] at h1
    simp (disch := omega) [in_eq, fails_eq, bz_0, st_eq]
    refine ⟨fun _ => ix ⟨by omega, fun _ => ?_⟩, by omega⟩
    refine hQ _ _ ?_; ((refine ⟨?_, ?_, ?_, fun _ => ?_⟩; (focus (((apply ModelP.mk <;> intros <;> try (simp (disch := omega) only [st_row, st_ne, st_eq, Dat.k_many, Dat.k_tx, Dat.k_cnt, Dat.k_fac, Dat.k_tur, Dat.k_bits, Dat.k_inc, Dat.k_inp, Dat.k_told, Dat.k_un, Dat.k_cy, Dat.k_F, Dat.k_N, Dat.k_T, Dat.k_O, Dat.k_ac, Dat.k_ach, Dat.k_apt, Dat.k_dep])); all_goals (first | exact (ModelP.many h :) | exact (ModelP.cnt h :) | exact (ModelP.inc h :) | exact (ModelP.tur h :) | exact (ModelP.bits h :) | exact (ModelP.fac h :) | (apply ModelP.tx h <;> assumption) | (apply ModelP.inp h <;> assumption) | (apply ModelP.told h <;> assumption) | (apply ModelP.un h <;> assumption) | (apply ModelP.cy h <;> assumption) | (apply ModelP.ac h <;> assumption) | (apply ModelP.act h <;> assumption) | (apply ModelP.dep h <;> assumption) | ((repeat' (apply MStm.st')); (apply ModelP.st h <;> assumption); (all_goals decide)) | (have u1 := ModelP.tx h; have u2 := ModelP.inp h; have u3 := ModelP.told h; have u4 := ModelP.un h; have u5 := ModelP.cy h; have u6 := ModelP.ac h; have u7 := ModelP.act h; have u9 := ModelP.dep h; (try simp only [Dat.k_many, Dat.k_tx, Dat.k_cnt, Dat.k_fac, Dat.k_tur, Dat.k_bits, Dat.k_inc, Dat.k_inp, Dat.k_told, Dat.k_un, Dat.k_cy, Dat.k_F, Dat.k_N, Dat.k_T, Dat.k_O, Dat.k_ac, Dat.k_ach, Dat.k_apt, Dat.k_dep] at *); unfold Pilot.CSchedularyLaw_law_r7114_237193.st; grind) | skip)))); (intro a ha; simp (disch := omega) only [st_row]); all_goals try (simp (disch := omega) only [st_row, st_ne, st_eq])))
  · rw [if_neg h1] at hs
    rw [hx] at h1
    generalize ixS 4 c = x at *
    have g : (i 504 1 = 24 → Q 0 (st (st i 504 0 0) 504 0 2)) ∧ (¬ i 504 1 = 24 → Q (D.many + 1) (st (st (st i 504 0 0) 505 D.many c) 504 1 (D.many + 1))) := by
      rw [hu]
      refine ⟨fun q => ?_, fun q => ?_⟩ <;> (((try simp (disch := omega) only [if_pos, if_neg] at hs); subst hs)) <;> refine hQ _ _ ?_ <;> ((refine ⟨?_, ?_, ?_, fun _ => ?_⟩; (focus (((apply ModelP.mk <;> intros <;> try (simp (disch := omega) only [st_row, st_ne, st_eq, Dat.k_many, Dat.k_tx, Dat.k_cnt, Dat.k_fac, Dat.k_tur, Dat.k_bits, Dat.k_inc, Dat.k_inp, Dat.k_told, Dat.k_un, Dat.k_cy, Dat.k_F, Dat.k_N, Dat.k_T, Dat.k_O, Dat.k_ac, Dat.k_ach, Dat.k_apt, Dat.k_dep])); all_goals (first | exact (ModelP.many h :) | exact (ModelP.cnt h :) | exact (ModelP.inc h :) | exact (ModelP.tur h :) | exact (ModelP.bits h :) | exact (ModelP.fac h :) | (apply ModelP.tx h <;> assumption) | (apply ModelP.inp h <;> assumption) | (apply ModelP.told h <;> assumption) | (apply ModelP.un h <;> assumption) | (apply ModelP.cy h <;> assumption) | (apply ModelP.ac h <;> assumption) | (apply ModelP.act h <;> assumption) | (apply ModelP.dep h <;> assumption) | ((repeat' (apply MStm.st')); (apply ModelP.st h <;> assumption); (all_goals decide)) | (have u1 := ModelP.tx h; have u2 := ModelP.inp h; have u3 := ModelP.told h; have u4 := ModelP.un h; have u5 := ModelP.cy h; have u6 := ModelP.ac h; have u7 := ModelP.act h; have u9 := ModelP.dep h; (try simp only [Dat.k_many, Dat.k_tx, Dat.k_cnt, Dat.k_fac, Dat.k_tur, Dat.k_bits, Dat.k_inc, Dat.k_inp, Dat.k_told, Dat.k_un, Dat.k_cy, Dat.k_F, Dat.k_N, Dat.k_T, Dat.k_O, Dat.k_ac, Dat.k_ach, Dat.k_apt, Dat.k_dep] at *); unfold Pilot.CSchedularyLaw_law_r7114_237193.st; grind) | skip)))); (intro a ha; simp (disch := omega) only [st_row]); all_goals try (simp (disch := omega) only [st_row, st_ne, st_eq])))
    simp (disch := omega) [in_eq, fails_eq, bz_0, st_eq, st_ne, st_row, hu, wr_of] at g ⊢
    refine ⟨fun _ => ix ⟨fun _ => ⟨g.1, fun q => ⟨by omega, by omega, g.2 q⟩⟩, fun _ => by omega⟩, fun _ _ => ⟨g.1, fun q => ⟨by omega, by omega, g.2 q⟩⟩⟩
