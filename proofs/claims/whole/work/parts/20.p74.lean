/-! ===== the circuit: the reference's values ===== -/
theorem g1_nd {D : Dat} (ok : DOk D) {x : Int} (h : 0 ≤ x ∧ x < nn D) : (((nd D x).2 = 2 ∨ ((nd D x).2 = 3 ∧ D.O (kv D x) = 32)) → isRd (D.F (kv D x) 1) → 0 ≤ g1N D x (nd D x) ∧ nd D (g1N D x (nd D x)) = ((nd D x).1, 0)) ∧ ((nd D x).2 = 2 → isRd (D.F (kv D x) 2) → 0 ≤ g2N D x (nd D x) ∧ nd D (g2N D x (nd D x)) = ((nd D x).1, 1)) ∧ ((nd D x).2 = 3 → D.O (kv D x) ≠ 32 → 1 ≤ x ∧ g1N D x (nd D x) = x - 1) := by
  obtain ⟨n1, n2, n3, n4⟩ := nd_prev ok h
  refine ⟨fun q r => ?_, fun q r => ?_, fun q o => ?_⟩
  · rcases q with q | ⟨q, o⟩
    · unfold g1N
      rw [if_pos q, if_pos (show isRd (D.F (stK D (nd D x)) 1) from r)]
      by_cases r2 : isRd (D.F (stK D (nd D x)) 2)
      · rw [if_pos r2]
        have := (n1 q r2).2.2 r
        exact ⟨by omega, this.2⟩
      · rw [if_neg r2]
        have := n2 q r2 r
        exact ⟨by omega, this.2⟩
    · have eg : g1N D x (nd D x) = x - 1 := by unfold g1N; rw [if_neg (show ¬ (nd D x).2 = 2 by omega), if_pos q, if_pos (.inr r)]
      have := n4 q o r
      rw [eg]
      exact ⟨by omega, this.2⟩
  · have eg : g2N D x (nd D x) = x - 1 := by unfold g2N; rw [if_pos ⟨q, r⟩]
    have := n1 q r
    rw [eg]
    exact ⟨by omega, this.2.1⟩
  · have := n3 q o
    exact ⟨this.1, by unfold g1N; rw [if_neg (show ¬ (nd D x).2 = 2 by omega), if_pos q, if_pos (.inl o)]⟩
theorem NW.s5 {D : Dat} {i : MI} (h : NW D i) {v : Int} (hv : 0 ≤ v ∧ v < nn D) : i 515 v = (nd D v).1 := h.a v 515 hv.1 hv.2 (by decide) (by decide)
theorem NW.q6 {D : Dat} {i : MI} (h : NW D i) {v : Int} (hv : 0 ≤ v ∧ v < nn D) : i 516 v = (nd D v).2 := h.a v 516 hv.1 hv.2 (by decide) (by decide)
theorem NW.fn {D : Dat} {i i' : MI} (h : NW D i) (g : FN i i') : NW D i' := by
  refine ⟨by rw [g.2 _ (by decide) (by decide)]; exact h.n, fun v c v0 v1 c0 c1 => ?_, fun v v0 v1 hw => ?_, by rw [g.1 _ (by decide) (by decide)]; exact h.y, by rw [g.2 _ (by decide) (by decide)]; exact h.f⟩
  · rw [g.1 _ (by omega) (by omega)]; exact h.a v c v0 v1 c0 c1
  · rw [g.1 _ (by omega) (by omega), g.1 _ (by omega) (by omega)]; exact h.m v v0 v1 hw
theorem kmod {D : Dat} (ok : DOk D) {i : MI} (h : ModelP D i) (w : NW D i) {x : Int} (hx : 0 ≤ x ∧ x < nn D) : Int.tmod (i 515 x) (i 504 6) = kv D x ∧ ¬ i 504 6 = 0 := by
  have s := sv_r ok hx
  rw [w.s5 hx, h.cnt, Int.tmod_eq_emod_of_nonneg (show 0 ≤ (nd D x).1 from s.1)]
  exact ⟨rfl, by omega⟩
theorem loopT_w {D : Dat} (ok : DOk D) {i r : MI} {x τ : Int} {Q : Int → Prop} (h : ModelP D i) (w : NW D i) (hx : inR D x τ) (hQ : Q (iv D x τ)) : wp_X12_loopTurn x τ i r Q := by
  have nl := nn_le ok
  have b := iv_r ok hx.1 hx.2
  have s := sv_r ok hx.1
  have h1 : 0 ≤ x ∧ x < nn D := hx.1
  have h2 : 0 ≤ τ ∧ τ < BT D := hx.2
  have bt := BT_b ok
  have f := ok.fac
  have ss := SS_b ok
  have m0 : 0 ≤ D.fac * τ := Int.mul_nonneg (by omega) h2.1
  have q0 : 0 ≤ sv' D x / D.cnt := Int.ediv_nonneg s.1 (by omega)
  have q1 : sv' D x / D.cnt ≤ sv' D x := Int.ediv_le_self _ s.1
  unfold wp_X12_loopTurn
  unfold iv at b hQ
  rw [w.s5 h1, h.cnt, h.fac, Int.tdiv_eq_ediv_of_nonneg (show 0 ≤ (nd D x).1 from s.1)]
  show _ ∧ _ ∧ Q (wr (wr (D.fac * τ) + wr (sv' D x / D.cnt)))
  rw [wr_of (x := D.fac * τ) (by omega) (by omega), wr_of (x := sv' D x / D.cnt) (by omega) (by omega), wr_of (x := D.fac * τ + sv' D x / D.cnt) (by omega) (by omega)]
  exact ⟨by omega, by omega, hQ⟩
theorem given_w {D : Dat} (ok : DOk D) {i r : MI} {x τ j : Int} {s : St} {Q : Int → MI → Prop} (h : ModelP D i) (w : NW D i) (hx : inR D x τ) (hj : j = 0 ∨ (j = 1 ∧ D.O (kv D x) ≠ 32)) (hs : MSt i s) (so : StOk D s) (htk : s.tak < 100000)
    (h1 : isRd (D.F (kv D x) (j + 1)) → ∃ g, 0 ≤ g ∧ g ≤ x ∧ nd D g = ((nd D x).1, j) ∧ Q (i 534 (96 * τ + g)) i)
    (h0 : ¬ isRd (D.F (kv D x) (j + 1)) → ∀ i', FN i i' → MSt i' (tkS D (kv D x) (j + 1) s) → Q (valS D (kv D x) (j + 1) (iv D x τ) s) i') : wp_X12_given x j τ i r Q := by
  have nl := nn_le ok
  have x1 : 0 ≤ x ∧ x < nn D := hx.1
  have x2 : 0 ≤ τ ∧ τ < BT D := hx.2
  have bt := BT_b ok
  have km := kmod ok h w x1
  have sr := sv_r ok x1
  have hc := ok.cnt
  have hk : 0 ≤ kv D x ∧ kv D x < D.cnt := ⟨sr.2.2.2.1, sr.2.2.2.2⟩
  have hp : (j + 1) = 1 ∨ ((j + 1) = 2 ∧ D.O (kv D x) ≠ 32) := by
    rcases hj with z | z
    · exact .inl (by omega)
    · exact .inr ⟨by omega, z.2⟩
  have mp := mstm_p h hk hp
  have iv' := iv_r ok hx.1 hx.2
  have fF : D.F (kv D x) (j + 1) ≤ 5 := by
    have sok := ok.st _ hk.1 hk.2
    rcases hj with rfl | ⟨rfl, o⟩
    · exact sok.f1.2
    · rcases sok.f2 with z | z
      · exact absurd z.1 o
      · exact z.2.2
  have mk : i 507 (13 * kv D x + 4 * (j + 1)) = D.F (kv D x) (j + 1) := by rw [mp.k, if_pos fF]
  unfold wp_X12_given
  rw [km.1]
  rw [wr_of (x := 13 * kv D x) (by omega) (by omega), wr_of (x := 13 * kv D x + 4) (by omega) (by omega), wr_of (x := 4 * j) (by omega) (by omega), wr_of (x := 13 * kv D x + 4 + 4 * j) (by omega) (by omega), show 13 * kv D x + 4 + 4 * j = 13 * kv D x + 4 * (j + 1) by omega, isRead_e, mk]
  refine ⟨by omega, km.2, by omega, fun z => ?_, fun z => ?_⟩
  · have nr : ¬ isRd (D.F (kv D x) (j + 1)) := fun c => by rw [bz, if_pos c] at z; exact absurd z (by decide)
    exact loopT_w ok h w hx (operand_w h ok hk hp ⟨iv'.1, by omega⟩ hs so htk (h0 nr))
  · have rd : isRd (D.F (kv D x) (j + 1)) := Classical.byContradiction fun c => z (by rw [bz, if_neg c])
    obtain ⟨g, g0, g1, gn, hq⟩ := h1 rd
    refine Lp.rule (fun (y : Int) => g ≤ y ∧ y ≤ x) (fun y => y.toNat) ?_ _ ⟨g1, Int.le_refl _⟩
    intro y C ⟨y0, y1⟩ hC
    dsimp only [b51_X12_given, s78_X12_given]
    have hy : 0 ≤ y ∧ y < nn D := by omega
    rw [w.q6 hy, w.s5 hy, w.s5 x1, wr_of (x := 96 * τ) (by omega) (by omega), wr_of (x := 96 * τ + y) (by omega) (by omega), wr_of (x := y + -1) (by omega) (by omega)]
    have next : y ≠ g → C (y + -1) := fun ne => hC _ ⟨by omega, by omega⟩ (by omega)
    refine ⟨by omega, fun a => ⟨by omega, by omega, fun b => ⟨by omega, ?_⟩, fun b => next (fun e => b (by rw [e, gn]))⟩, fun a => next (fun e => a (by rw [e, gn]))⟩
    have : y = g := nd_inj hy ⟨g0, by omega⟩ (by rw [gn]; exact Prod.ext b a)
    rw [this]; exact hq
theorem mvalue_w {D : Dat} (ok : DOk D) {i r : MI} {x τ : Int} {s : St} {Q : Int → MI → Prop} (h : ModelP D i) (w : NW D i) (hx : inR D x τ) (hs : MSt i s) (so : StOk D s) (htk : s.tak < 100000) (ev : Ev D s (fun v t => i 534 (96 * t + v)) x τ)
    (hQ : ∀ i' s', FN i i' → MSt i' s' → s'.reg = s.reg → s'.mem = s.mem → s'.out = s.out → s'.outs = s.outs → s'.tak = s.tak + (if kdv D x = 5 then 1 else 0) → Q (RV D x τ) i') : wp_X12_valueOf x τ i r Q := by
  have nl := nn_le ok
  have x1 : 0 ≤ x ∧ x < nn D := hx.1
  have x2 : 0 ≤ τ ∧ τ < BT D := hx.2
  have bt := BT_b ok
  have km := kmod ok h w x1
  have sr := sv_r ok x1
  have hc := ok.cnt
  have hk : 0 ≤ kv D x ∧ kv D x < D.cnt := ⟨sr.2.2.2.1, sr.2.2.2.2⟩
  have iv' := iv_r ok hx.1 hx.2
  obtain ⟨_, _, _, _, h5⟩ := nd_ok ok x1
  have ro := rls_mem h5
  have go := g_ok ok x1
  have gn := g1_nd ok x1
  have so2 := (h.st _ hk.1 hk.2).o
  have same : ∀ i', FN i i' → MSt i' s → kdv D x ≠ 5 → Q (RV D x τ) i' := fun i' f c k => hQ i' s f c rfl rfl rfl rfl (by rw [if_neg k]; omega)
  have tk0 : ∀ j i', ¬ isRd (D.F (kv D x) j) → MSt i' (tkS D (kv D x) j s) → MSt i' s := fun j i' nr c => by
    unfold tkS at c
    rw [if_neg (fun z => nr (by rw [z]; decide))] at c
    exact c
  unfold wp_X12_valueOf
  rw [km.1, w.q6 x1, wr_of (x := 13 * kv D x) (by omega) (by omega), wr_of (x := 13 * kv D x + 12) (by omega) (by omega), wr_of (x := 13 * kv D x + 4) (by omega) (by omega), wr_of (x := 13 * kv D x + 8) (by omega) (by omega), wr_of (x := 96 * τ) (by omega) (by omega), wr_of (x := 96 * τ + x) (by omega) (by omega), so2]
  refine ⟨by omega, km.2, by omega, by omega, fun q0 => ?_, fun q0 => ⟨fun q1 => ?_, fun q1 => ⟨fun q2 => ?_, fun q2 => ⟨fun q3 => ?_, fun q3 => ?_⟩⟩⟩⟩
  · refine loopT_w ok h w hx ?_
    rw [show 13 * kv D x + 4 = 13 * kv D x + 4 * 1 by omega]
    refine operand_w h ok hk (.inl rfl) ⟨iv'.1, by omega⟩ hs so htk (fun i' f c => ?_)
    have t := tkS_p (D := D) (k := kv D x) (p := 1) (s := s)
    rw [ev.e0 q0]
    exact hQ i' _ f c t.1 t.2.1 t.2.2.1 t.2.2.2.1 (by rw [t.2.2.2.2, kd_rd.1 q0])
  · have o : D.O (kv D x) ≠ 32 := by
      rcases ro with z | z | z | z | z
      · omega
      · exact z.2.1
      · omega
      · omega
      · omega
    refine loopT_w ok h w hx ?_
    rw [show 13 * kv D x + 8 = 13 * kv D x + 4 * 2 by omega]
    refine operand_w h ok hk (.inr ⟨rfl, o⟩) ⟨iv'.1, by omega⟩ hs so htk (fun i' f c => ?_)
    have t := tkS_p (D := D) (k := kv D x) (p := 2) (s := s)
    rw [ev.e1 q1]
    exact hQ i' _ f c t.1 t.2.1 t.2.2.1 t.2.2.2.1 (by rw [t.2.2.2.2, kd_rd.2 q1])
  · have o : D.O (kv D x) ≠ 32 := by
      rcases ro with z | z | z | z | z
      · omega
      · omega
      · exact z.2
      · omega
      · omega
    have k5 := kd5n ok x1 ⟨q0, q1⟩
    obtain ⟨A, B, eR, cA, cB, a1, a2, b1, b2⟩ := ev.e2 q2
    have hop : isOp (D.O (kv D x)) := by
      rcases (ok.st _ hk.1 hk.2).f2 with z | z
      · exact absurd z.1 o
      · unfold isOp; exact z.1
    rw [if_neg o]
    have fin : ∀ i1, FN i i1 → MSt i1 s → wp_X12_operate (D.O (kv D x)) A B i1 r (fun v64 => Q v64 i1) := fun i1 f c => by
      rw [moperate_e (h.fn f) ok cA cB hop, ← eR]
      exact same i1 f c k5
    have sec : ∀ i1, FN i i1 → MSt i1 s → wp_X12_given x 1 τ i1 r (fun v57 i58 => wp_X12_operate (D.O (kv D x)) A v57 i58 r (fun v64 => Q v64 i58)) := fun i1 f c => by
      refine given_w ok (h.fn f) (w.fn f) hx (.inr ⟨rfl, o⟩) c so htk (fun r2 => ?_) (fun r2 i2 f2 c2 => ?_)
      · have g := gn.2.1 q2 r2
        refine ⟨_, g.1, by omega, g.2, ?_⟩
        have := b1 r2
        rw [f.1 534 (by decide) (by decide)]
        show wp_X12_operate _ A (i 534 (96 * τ + g2N D x (nd D x))) _ _ _
        rw [show i 534 (96 * τ + g2N D x (nd D x)) = B from this]
        exact fin i1 f c
      · show wp_X12_operate _ A (valS D (kv D x) 2 (iv D x τ) s) _ _ _
        rw [b2 r2]
        exact fin i2 (f.trans f2) (tk0 2 i2 r2 c2)
    refine given_w ok h w hx (.inl rfl) hs so htk (fun r1 => ?_) (fun r1 i1 f c => ?_)
    · have g := gn.1 (.inl q2) r1
      refine ⟨_, g.1, by omega, g.2, ?_⟩
      have := a1 r1
      show wp_X12_given x 1 τ i r (fun v57 i58 => wp_X12_operate (D.O (kv D x)) (i 534 (96 * τ + g1N D x (nd D x))) v57 i58 r (fun v64 => Q v64 i58))
      rw [show i 534 (96 * τ + g1N D x (nd D x)) = A from this]
      exact sec i (FN.refl i) hs
    · show wp_X12_given x 1 τ i1 r (fun v57 i58 => wp_X12_operate (D.O (kv D x)) (valS D (kv D x) 1 (iv D x τ) s) v57 i58 r (fun v64 => Q v64 i58))
      rw [a2 r1]
      exact sec i1 f (tk0 1 i1 r1 c)
  · have o : D.O (kv D x) = 32 := Classical.byContradiction fun z => by
      rw [if_neg z] at q3
      have := (ok.st _ hk.1 hk.2).f2
      rcases this with y | y
      · exact z y.1
      · omega
    have k5 := kd5n ok x1 ⟨q0, q1⟩
    unfold s138_X12_valueOf
    refine given_w ok h w hx (.inl rfl) hs so htk (fun r1 => ?_) (fun r1 i1 f c => ?_)
    · have q33 : (nd D x).2 = 3 := by
        rcases ro with z | z | z | z | z
        · omega
        · omega
        · omega
        · exact z.1
        · exact absurd r1 z.2.2.2
      have g := gn.1 (.inr ⟨q33, o⟩) r1
      refine ⟨_, g.1, by omega, g.2, ?_⟩
      have := (ev.e5 q33 o).1 r1
      show Q (i 534 (96 * τ + g1N D x (nd D x))) i
      rw [show i 534 (96 * τ + g1N D x (nd D x)) = RV D x τ from this]
      exact same i (FN.refl i) hs k5
    · have e : valS D (kv D x) 1 (iv D x τ) s = RV D x τ := by
        rcases ro with z | z | z | z | z
        · omega
        · omega
        · omega
        · exact (ev.e5 z.1 o).2 r1
        · exact ev.e4 z.1
      show Q (valS D (kv D x) 1 (iv D x τ) s) i1
      rw [e]
      exact same i1 f (tk0 1 i1 r1 c) k5
  · have o : D.O (kv D x) ≠ 32 := fun z => q3 (by rw [if_pos z])
    have k5 := kd5n ok x1 ⟨q0, q1⟩
    have q33 : (nd D x).2 = 3 := by
      rcases ro with z | z | z | z | z
      · omega
      · omega
      · omega
      · exact z.1
      · exact absurd z.2.2.1 o
    have g := gn.2.2 q33 o
    have := ev.e3 q33 o
    rw [wr_of (x := 96 * τ + x - 1) (by omega) (by omega)]
    unfold s138_X12_valueOf
    refine ⟨by omega, ?_⟩
    rw [show 96 * τ + x - 1 = 96 * τ + g1N D x (nd D x) by omega, show i 534 (96 * τ + g1N D x (nd D x)) = RV D x τ from this]
    exact same i (FN.refl i) hs k5
