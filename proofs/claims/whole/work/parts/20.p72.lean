/-! ===== the circuit: the class begins a node ===== -/
theorem kd_rd {D : Dat} {v : Int} : ((nd D v).2 = 0 → kdv D v = D.F (kv D v) 1) ∧ ((nd D v).2 = 1 → kdv D v = D.F (kv D v) 2) := by
  unfold kdv kdN kv
  exact ⟨fun q => by rw [if_pos q], fun q => by rw [if_neg (by omega), if_pos q]⟩
theorem kd5n {D : Dat} (ok : DOk D) {v : Int} (h : 0 ≤ v ∧ v < nn D) (q : (nd D v).2 ≠ 0 ∧ (nd D v).2 ≠ 1) : kdv D v ≠ 5 := by
  intro z
  rcases kd5 ok h z with w | w
  · exact q.1 w.1
  · exact q.2 w.1
theorem idx_inj {D : Dat} (ok : DOk D) {v t x τ : Int} (h : inR D v t) (g : inR D x τ) (ne : ¬ (v = x ∧ t = τ)) : 16 * v + t ≠ 16 * x + τ := by
  have b := BT_b ok
  have a1 : 0 ≤ t ∧ t < BT D := h.2
  have a2 : 0 ≤ τ ∧ τ < BT D := g.2
  omega
theorem xbegin_w {D : Dat} (ok : DOk D) {i r : MI} {x τ : Int} {s : St} {Q : MI → Prop} (hP : ClassP D i r) (hv : NV D i) (nr : NR D r) (h : inR D x τ) (hs : CSt D 481 i s) (so : StOk D s) (ev : Ev D s (fun v t => i 487 (16 * v + t)) x τ)
    (hQ : ∀ i' s', FTn i i' → CSt D 481 i' s' → s'.reg = s.reg → s'.mem = s.mem → s'.out = s.out → s'.outs = s.outs → s'.tak = s.tak + (if kdv D x = 5 then 1 else 0) → i' 487 (16 * x + τ) = RV D x τ → (∀ v t, inR D v t → ¬ (v = x ∧ t = τ) → i' 487 (16 * v + t) = i 487 (16 * v + t)) → Q i') : wp_X1_begin (72 + x) x τ i r Q := by
  obtain ⟨h1, h2⟩ := h
  have h : inR D x τ := ⟨h1, h2⟩
  have kr := sv_r ok h1
  have b := iv_r ok h1 h2
  have bt := BT_b ok
  have nl := nn_le ok
  have hk : 0 ≤ kv D x ∧ kv D x < D.cnt := ⟨kr.2.2.2.1, kr.2.2.2.2⟩
  have rn := ref_ne hP hk
  have rx := nr x h1.1 h1.2
  obtain ⟨_, _, _, _, h5⟩ := nd_ok ok h1
  have ro := rls_mem h5
  have e4 : i (72 + x) 4 = ptN (nd D x) := hv.a x 4 h1.1 h1.2 (by decide) (by decide)
  have e5 : i (72 + x) 5 = g1N D x (nd D x) := hv.a x 5 h1.1 h1.2 (by decide) (by decide)
  have e6 : i (72 + x) 6 = g2N D x (nd D x) := hv.a x 6 h1.1 h1.2 (by decide) (by decide)
  have e11 : i (72 + x) 11 = if (nd D x).2 = 2 then 1 else 0 := hv.a x 11 h1.1 h1.2 (by decide) (by decide)
  have go := g_ok ok h1
  have fr : ∀ {j : MI}, FS 481 i j → j (72 + x) = i (72 + x) := fun f => f _ (by omega)
  have fin : ∀ (i1 : MI) (s' : St) (w : Int), FS 481 i i1 → CSt D 481 i1 s' → s'.reg = s.reg → s'.mem = s.mem → s'.out = s.out → s'.outs = s.outs → s'.tak = s.tak + (if kdv D x = 5 then 1 else 0) → w = RV D x τ → s124_X1_begin x τ w i1 r Q := by
    intro i1 s' w f c a1 a2 a3 a4 a5 ew
    unfold s124_X1_begin
    rw [wr_of (x := x * 16) (by omega) (by omega), wr_of (x := x * 16 + τ) (by omega) (by omega), show x * 16 + τ = 16 * x + τ by omega]
    refine ⟨by omega, hQ _ s' (f.ft.trans FTn.s7) (c.congr (fun a _ _ => st_row (by omega))) a1 a2 a3 a4 a5 (by rw [st_eq]; exact ew) (fun v t iv' ne => ?_)⟩
    have := idx_inj ok iv' h ne
    rw [st_ne (by omega), f 487 (by omega)]
  have same : ∀ (i1 : MI) (w : Int), FS 481 i i1 → CSt D 481 i1 s → kdv D x ≠ 5 → w = RV D x τ → s124_X1_begin x τ w i1 r Q := fun i1 w f c k ew => fin i1 s w f c rfl rfl rfl rfl (by rw [if_neg k]; omega) ew
  unfold wp_X1_begin
  rw [xiv ok hP hv h, e5, rx, e4]
  refine ⟨fun q => by omega, fun _ => ?_⟩
  -- what does no operation
  have plain : ∀ (i1 : MI) (w : Int), FS 481 i i1 → (nd D x).2 ≠ 2 → s124_X1_begin x τ w i1 r Q → s60_X1_begin (72 + x) x τ (iv D x τ) w i1 r Q := by
    intro i1 w f q2 z
    unfold s60_X1_begin
    rw [fr f, e11, if_neg q2]
    exact ⟨fun _ => z, fun w => absurd rfl w⟩
  -- one operand, of the part j
  have one : ∀ j, ptN (nd D x) = j → (j = 1 ∨ (j = 2 ∧ D.O (kv D x) ≠ 32)) → (nd D x).2 ≠ 2 → g1N D x (nd D x) = -1 → valS D (kv D x) j (iv D x τ) s = RV D x τ → (kdv D x = 5 ↔ D.F (kv D x) j = 5) → ((g1N D x (nd D x) = -1 → (¬ r 4 (kv D x) = 0 ∧ wp_X6_valueOf (r 4 (kv D x)) (ptN (nd D x)) (iv D x τ) 481 i r (fun v107 i108 => s60_X1_begin (72 + x) x τ (iv D x τ) v107 i108 r Q))) ∧ (¬ g1N D x (nd D x) = -1 → wp_X1_valueFrom (g1N D x (nd D x)) τ i r (fun v97 => s60_X1_begin (72 + x) x τ (iv D x τ) v97 i r Q))) := by
    intro j ej hj q2 g1 ev' k5
    refine ⟨fun _ => ⟨rn, ?_⟩, fun z => absurd g1 z⟩
    rw [ej]
    refine valueOf_w hP ok hk hj ⟨b.1, by omega⟩ (.inr rfl) hs so (fun i1 f c => plain i1 _ f q2 ?_)
    have t := tkS_p (D := D) (k := kv D x) (p := j) (s := s)
    refine fin i1 _ _ f c t.1 t.2.1 t.2.2.1 t.2.2.2.1 ?_ ev'
    rw [t.2.2.2.2]
    by_cases z : kdv D x = 5
    · rw [if_pos z, if_pos (k5.1 z)]
    · rw [if_neg z, if_neg (fun w => z (k5.2 w))]
  have gv : ∀ g, 0 ≤ g → g < x → inR D g τ := fun g a c => ⟨⟨a, by omega⟩, h2⟩
  by_cases q0 : (nd D x).2 = 0
  · exact one 1 (by unfold ptN; rw [if_neg (by omega)]) (.inl rfl) (by omega) (by unfold g1N; rw [if_neg (by omega), if_neg (by omega)]) (ev.e0 q0) (by rw [kd_rd.1 q0])
  by_cases q1 : (nd D x).2 = 1
  · have o : D.O (kv D x) ≠ 32 := by
      rcases ro with z | z | z | z | z
      · omega
      · exact z.2.1
      · omega
      · omega
      · omega
    exact one 2 (by unfold ptN; rw [if_pos q1]) (.inr ⟨rfl, o⟩) (by omega) (by unfold g1N; rw [if_neg (by omega), if_neg (by omega)]) (ev.e1 q1) (by rw [kd_rd.2 q1])
  have k5 := kd5n ok h1 ⟨q0, q1⟩
  have pt : ptN (nd D x) = 1 := by unfold ptN; rw [if_neg q1]
  have tk0 : ∀ j, (j = 1 ∨ j = 2) → ¬ isRd (D.F (kv D x) j) → D.F (kv D x) j ≠ 5 := fun j _ nr' z => nr' (by rw [z]; decide)
  by_cases q2 : (nd D x).2 = 2
  · have o : D.O (kv D x) ≠ 32 := by
      rcases ro with z | z | z | z | z
      · omega
      · omega
      · exact z.2
      · omega
      · omega
    obtain ⟨A, B, eR, cA, cB, a1, a2, b1, b2⟩ := ev.e2 q2
    have opx : ∀ (i1 : MI), FS 481 i i1 → CSt D 481 i1 s → s105_X1_begin (72 + x) x τ A B i1 r Q := by
      intro i1 f c
      unfold s105_X1_begin
      rw [rx]
      have hP1 := hP.fs (.inr rfl) f
      refine ⟨rn, ?_⟩
      rw [operate_e (hP1.st _ hk.1 hk.2), cut_e hP1]
      exact same i1 _ f c k5 eR.symm
    have sec : ∀ (i1 : MI), FS 481 i i1 → CSt D 481 i1 s → s60_X1_begin (72 + x) x τ (iv D x τ) A i1 r Q := by
      intro i1 f c
      unfold s60_X1_begin
      have hP1 := hP.fs (.inr rfl) f
      rw [fr f, e11, if_pos q2, e6, rx]
      refine ⟨fun z => absurd z (by decide), fun _ => ⟨fun z => ⟨rn, ?_⟩, fun z => ?_⟩⟩
      · have n2 : ¬ isRd (D.F (kv D x) 2) := fun r2 => by
          unfold g2N at z
          rw [if_pos ⟨q2, r2⟩] at z
          have := ((nd_prev ok h1).1 q2 r2).1
          omega
        refine valueOf_w hP1 ok hk (.inr ⟨rfl, o⟩) ⟨b.1, by omega⟩ (.inr rfl) c so (fun i2 f2 c2 => ?_)
        rw [b2 n2]
        refine opx i2 (f.trans f2) ?_
        unfold tkS at c2
        rw [if_neg (tk0 2 (.inr rfl) n2)] at c2
        exact c2
      · have r2 : isRd (D.F (kv D x) 2) := Classical.byContradiction fun n2 => z (by unfold g2N; rw [if_neg (fun w => n2 w.2)])
        have g2 := gv (g2N D x (nd D x)) (by omega) (by omega)
        refine vfrom_w ok g2 ?_
        rw [f 487 (by omega)]
        have := b1 r2
        rw [this]
        exact opx i1 f c
    refine ⟨fun z => ⟨rn, ?_⟩, fun z => ?_⟩
    · have n1 : ¬ isRd (D.F (kv D x) 1) := fun r1 => by
        unfold g1N at z
        rw [if_pos q2, if_pos (show isRd (D.F (stK D (nd D x)) 1) from r1)] at z
        by_cases r2 : isRd (D.F (stK D (nd D x)) 2)
        · rw [if_pos r2] at z
          have := (((nd_prev ok h1).1 q2 r2).2.2 r1).1
          omega
        · rw [if_neg r2] at z
          have := ((nd_prev ok h1).2.1 q2 r2 r1).1
          omega
      rw [pt]
      refine valueOf_w hP ok hk (.inl rfl) ⟨b.1, by omega⟩ (.inr rfl) hs so (fun i1 f c => ?_)
      rw [a2 n1]
      refine sec i1 f ?_
      unfold tkS at c
      rw [if_neg (tk0 1 (.inl rfl) n1)] at c
      exact c
    · have r1 : isRd (D.F (kv D x) 1) := Classical.byContradiction fun n1 => z (by unfold g1N; rw [if_pos q2, if_neg (show ¬ isRd (D.F (stK D (nd D x)) 1) from n1)])
      refine vfrom_w ok (gv _ (by omega) go.2.1) ?_
      have := a1 r1
      rw [this]
      exact sec i (FS.refl _ _) hs
  by_cases q3 : (nd D x).2 = 3
  · by_cases o : D.O (kv D x) = 32
    · obtain ⟨a1, a2⟩ := ev.e5 q3 o
      by_cases r1 : isRd (D.F (kv D x) 1)
      · have g1 : g1N D x (nd D x) = x - 1 := by unfold g1N; rw [if_neg q2, if_pos q3, if_pos (.inr r1)]
        have := ((nd_prev ok h1).2.2.2 q3 o r1).1
        refine ⟨fun z => by omega, fun _ => vfrom_w ok (gv _ (by omega) go.2.1) (plain i _ (FS.refl _ _) q2 (same i _ (FS.refl _ _) hs k5 (a1 r1)))⟩
      · exact one 1 pt (.inl rfl) q2 (by unfold g1N; rw [if_neg q2, if_pos q3, if_neg (by rintro (z | z); exact z o; exact r1 z)]) (a2 r1) ⟨fun z => absurd z k5, fun z => absurd z (tk0 1 (.inl rfl) r1)⟩
    · have g1 : g1N D x (nd D x) = x - 1 := by unfold g1N; rw [if_neg q2, if_pos q3, if_pos (.inl o)]
      have := ((nd_prev ok h1).2.2.1 q3 o).1
      refine ⟨fun z => by omega, fun _ => vfrom_w ok (gv _ (by omega) go.2.1) (plain i _ (FS.refl _ _) q2 (same i _ (FS.refl _ _) hs k5 (ev.e3 q3 o)))⟩
  · have q4 : (nd D x).2 = 4 ∧ ¬ isRd (D.F (kv D x) 1) := by
      rcases ro with z | z | z | z | z
      · omega
      · omega
      · omega
      · omega
      · exact ⟨z.1, z.2.2.2⟩
    exact one 1 pt (.inl rfl) q2 (by unfold g1N; rw [if_neg q2, if_neg q3]) (ev.e4 q4.1) ⟨fun z => absurd z k5, fun z => absurd z (tk0 1 (.inl rfl) q4.2)⟩
