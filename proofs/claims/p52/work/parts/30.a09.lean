/-! ===== the circuit: the class ===== -/
theorem tmul_inj {T a b : Int} (h : 1 ≤ T) (e : T * a = T * b) : a = b := Int.eq_of_mul_eq_mul_left (by omega) e
theorem turnAfter_w {D : Dat} (ok : DOk D) {i r : MI} {since T : Int} {Q : Int → Prop} (hT : 1 ≤ T ∧ T ≤ 481) (hs : -200000 ≤ since ∧ since ≤ 200000) (h1 : ∀ τ, 0 ≤ τ → τ < BTu D → since = T * τ → Q τ) (h0 : (∀ τ, 0 ≤ τ → τ < BTu D → since ≠ T * τ) → Q (-1)) : wp_X1_turnAfter since T (BTu D) i r Q := by
  have b := BT_b ok
  unfold wp_X1_turnAfter s15_X1_turnAfter s31_X1_turnAfter
  refine ⟨fun q => h0 (fun τ a _ e => ?_), fun q => ⟨fun q1 => by omega, fun _ => ⟨by omega, fun q2 => ⟨by omega, ?_⟩, fun q2 => h0 (fun τ a _ e => ?_)⟩⟩⟩
  · have := Int.mul_nonneg (show 0 ≤ T by omega) a
    omega
  · rw [Int.tmod_eq_emod_of_nonneg (by omega)] at q2
    have e := Int.mul_ediv_add_emod since T
    rw [q2, Int.add_zero] at e
    have n0 : 0 ≤ since / T := Int.ediv_nonneg (by omega) (by omega)
    have n1 : since / T ≤ since := Int.ediv_le_self _ (by omega)
    rw [Int.tdiv_eq_ediv_of_nonneg (by omega), wr_of (x := since / T) (by omega) (by omega)]
    refine ⟨fun q3 => h0 (fun τ a c z => ?_), fun q3 => h1 _ n0 (by omega) e.symm⟩
    have := tmul_inj hT.1 (e.trans z)
    omega
  · rw [e, Int.mul_tmod_right] at q2
    exact q2 rfl
def FTn (i i' : MI) : Prop := ∀ a, (a < 481 ∨ 487 < a) → i' a = i a
theorem FTn.refl (i : MI) : FTn i i := fun _ _ => rfl
theorem FTn.trans {i j k : MI} (h : FTn i j) (g : FTn j k) : FTn i k := fun a x => (g a x).trans (h a x)
theorem FTn.s7 {k v : Int} {i : MI} : FTn i (st i 487 k v) := fun b x => st_row (by omega)
theorem FS.ft {i i' : MI} (h : FS 481 i i') : FTn i i' := fun a x => h a (by omega)
theorem FTn.fl {i i' : MI} (h : FTn i i') : ∀ a, a < 462 → i' a = i a := fun a x => h a (by omega)
theorem ClassP.ft {D : Dat} {i i' r : MI} (h : ClassP D i r) (g : FTn i i') : ClassP D i' r := by
  refine h.congr ?_ ?_ ?_ ?_ ?_ ?_ ?_ ?_ ?_ ?_ rfl rfl
  all_goals (intros; rw [g _ (by omega)])
theorem vfrom_w {D : Dat} (ok : DOk D) {i r : MI} {v τ : Int} {Q : Int → Prop} (h : inR D v τ) (hQ : Q (i 487 (16 * v + τ))) : wp_X1_valueFrom v τ i r Q := by
  have b := BT_b ok
  have nl := nn_le ok
  have h1 : 0 ≤ v ∧ v < nn D := h.1
  have h2 : 0 ≤ τ ∧ τ < BTu D := h.2
  unfold wp_X1_valueFrom
  rw [wr_of (x := v * 16) (by omega) (by omega), wr_of (x := v * 16 + τ) (by omega) (by omega), show v * 16 + τ = 16 * v + τ by omega]
  exact ⟨by omega, hQ⟩
theorem xiv {D : Dat} (ok : DOk D) {i r : MI} {v τ : Int} (hP : ClassP D i r) (hv : NV D i) (h : inR D v τ) : wr (wr (i 3 8 * τ) + i (72 + v) 2) = iv D v τ := by
  have b := iv_r ok h.1 h.2
  have s := sv_r ok h.1
  have h2 : 0 ≤ τ ∧ τ < BTu D := h.2
  have bt := BT_b ok
  have f := ok.fac
  have m0 : 0 ≤ D.fac * τ := Int.mul_nonneg (by omega) h2.1
  have q0 : 0 ≤ sv' D v / D.cnt := Int.ediv_nonneg s.1 (by omega)
  have e2 : i (72 + v) 2 = sv' D v / D.cnt := hv.a v 2 h.1.1 h.1.2 (by decide) (by decide)
  unfold iv at b ⊢
  rw [hP.fac, e2, wr_of (x := D.fac * τ) (by omega) (by omega), wr_of (x := D.fac * τ + sv' D v / D.cnt) (by omega) (by omega)]
def NR (D : Dat) (r : MI) : Prop := ∀ v, 0 ≤ v → v < nn D → r (72 + v) 0 = r 4 (kv D v)
theorem M1.nr {D : Dat} {i r : MI} (m : M1 D i r) : NR D r := by
  intro v v0 v1
  have hg := nd_get (D := D) (v := v.toNat) (by omega)
  rw [show ((v.toNat : Nat) : Int) = v by omega] at hg
  have hG : (GA D (r 4) (nds D))[v.toNat]? = some (r 4 (stK D (nd D v)), att D (v.toNat : Int) (nd D v)) := by
    unfold GA
    rw [List.getElem?_map, List.getElem?_zipIdx, hg]
    simp
  have := (m.g _ _ _ hG).1
  rw [show ((v.toNat : Nat) : Int) = v by omega] at this
  exact this
theorem ref_ne {D : Dat} {i r : MI} (h : ClassP D i r) {k : Int} (hk : 0 ≤ k ∧ k < D.cnt) : ¬ r 4 k = 0 := by
  have c := h.c12
  have := stm_rng (h.rf.s k hk.1 (by omega))
  omega
theorem xfinish_w {D : Dat} (ok : DOk D) {i r : MI} {x τ : Int} {s : St} {Q : MI → Prop} (hP : ClassP D i r) (hv : NV D i) (nr : NR D r) (h : inR D x τ) (hs : CSt D 481 i s) (so : StOk D s) (hout : Lst D x → D.F (kv D x) 0 = 6 → s.outs < 192)
    (hL : Lst D x → ∀ i', FS 481 i i' → CSt D 481 i' (wriS D (kv D x) (iv D x τ) (i 487 (16 * x + τ)) s) → Q i') (hN : ¬ Lst D x → Q i) : wp_X1_finish (72 + x) x τ i r Q := by
  have h1 : 0 ≤ x ∧ x < nn D := h.1
  have h2 : 0 ≤ τ ∧ τ < BTu D := h.2
  have kr := sv_r ok h1
  have b := iv_r ok h.1 h.2
  have e12 : i (72 + x) 12 = if (nd D x).2 = 3 then 1 else 0 := hv.a x 12 h1.1 h1.2 (by decide) (by decide)
  have e8 : i (72 + x) 8 = mkv D x := hv.mk8 h1
  have lm := lst_mk ok h1
  unfold wp_X1_finish s56_X1_finish s21_X1_finish
  rw [xiv ok hP hv h, nr x h1.1 h1.2, e8]
  have go : Lst D x → (¬ r 4 (kv D x) = 0 ∧ wp_X1_valueFrom x τ i r (fun v2 => wp_X6_write (r 4 (kv D x)) (iv D x τ) v2 481 i r (fun i10 => Q i10))) := fun l =>
    ⟨ref_ne hP ⟨kr.2.2.2.1, kr.2.2.2.2⟩, vfrom_w ok h (write_w hP ok ⟨kr.2.2.2.1, kr.2.2.2.2⟩ ⟨b.1, by omega⟩ (.inr rfl) hs so (hout l) (hL l))⟩
  refine ⟨fun q => by omega, fun _ => ⟨fun q => ⟨fun q2 => hN (fun l => ?_), fun q2 => go (lm.2 (.inr q2))⟩, fun q => go (lm.2 (.inl ?_))⟩⟩
  · rcases lm.1 l with z | z
    · rw [e12, if_pos z] at q; omega
    · exact z q2
  · rw [e12] at q
    split at q
    · assumption
    · exact absurd rfl q

/-! ===== the circuit: the class begins a node ===== -/
theorem kd_rd {D : Dat} {v : Int} : ((nd D v).2 = 0 → kdv D v = D.F (kv D v) 1) ∧ ((nd D v).2 = 1 → kdv D v = D.F (kv D v) 2) := by
  unfold kdv kdN kv
  exact ⟨fun q => by rw [if_pos q], fun q => by rw [if_neg (by omega), if_pos q]⟩
theorem kd5n {D : Dat} (ok : DOk D) {v : Int} (h : 0 ≤ v ∧ v < nn D) (q : (nd D v).2 ≠ 0 ∧ (nd D v).2 ≠ 1) : kdv D v ≠ 5 := by
  intro z
  rcases kd5 ok h z with w | w
  · exact q.1 w.1
  · exact q.2 w.1
theorem idx_inj {D : Dat} (ok : DOk D) {v t x τ : Int} (h : inR D v t) (g : inR D x τ) (ne : ¬ (v = x ∧ t = τ)) : 16 * v + t ≠ 16 * x + τ := by
  have b := BT_b ok
  have a1 : 0 ≤ t ∧ t < BTu D := h.2
  have a2 : 0 ≤ τ ∧ τ < BTu D := g.2
  omega
theorem xbegin_w {D : Dat} (ok : DOk D) {i r : MI} {x τ : Int} {s : St} {Q : MI → Prop} (hP : ClassP D i r) (hv : NV D i) (nr : NR D r) (h : inR D x τ) (hs : CSt D 481 i s) (so : StOk D s) (ev : Ev D s (fun v t => i 487 (16 * v + t)) x τ)
    (hQ : ∀ i' s', FTn i i' → CSt D 481 i' s' → s'.reg = s.reg → s'.mem = s.mem → s'.out = s.out → s'.outs = s.outs → s'.tak = s.tak + (if kdv D x = 5 then 1 else 0) → i' 487 (16 * x + τ) = RVu D x τ → (∀ v t, inR D v t → ¬ (v = x ∧ t = τ) → i' 487 (16 * v + t) = i 487 (16 * v + t)) → Q i') : wp_X1_begin (72 + x) x τ i r Q := by
  obtain ⟨h1, h2⟩ := h
  have h : inR D x τ := ⟨h1, h2⟩
  have kr := sv_r ok h1
  have b := iv_r ok h1 h2
  have bt := BT_b ok
  have nl := nn_le ok
  have hk : 0 ≤ kv D x ∧ kv D x < D.cnt := ⟨kr.2.2.2.1, kr.2.2.2.2⟩
  have rn := ref_ne hP hk
  have rx := nr x h1.1 h1.2
  obtain ⟨_, _, _, _, h5⟩ := nd_ok ok h1
  have ro := rls_mem h5
  have e4 : i (72 + x) 4 = ptN (nd D x) := hv.a x 4 h1.1 h1.2 (by decide) (by decide)
  have e5 : i (72 + x) 5 = g1N D x (nd D x) := hv.a x 5 h1.1 h1.2 (by decide) (by decide)
  have e6 : i (72 + x) 6 = g2N D x (nd D x) := hv.a x 6 h1.1 h1.2 (by decide) (by decide)
  have e11 : i (72 + x) 11 = if (nd D x).2 = 2 then 1 else 0 := hv.a x 11 h1.1 h1.2 (by decide) (by decide)
  have go := g_ok ok h1
  have fr : ∀ {j : MI}, FS 481 i j → j (72 + x) = i (72 + x) := fun f => f _ (by omega)
  have fin : ∀ (i1 : MI) (s' : St) (w : Int), FS 481 i i1 → CSt D 481 i1 s' → s'.reg = s.reg → s'.mem = s.mem → s'.out = s.out → s'.outs = s.outs → s'.tak = s.tak + (if kdv D x = 5 then 1 else 0) → w = RVu D x τ → s124_X1_begin x τ w i1 r Q := by
    intro i1 s' w f c a1 a2 a3 a4 a5 ew
    unfold s124_X1_begin
    rw [wr_of (x := x * 16) (by omega) (by omega), wr_of (x := x * 16 + τ) (by omega) (by omega), show x * 16 + τ = 16 * x + τ by omega]
    refine ⟨by omega, hQ _ s' (f.ft.trans FTn.s7) (c.congr (fun a _ _ => st_row (by omega))) a1 a2 a3 a4 a5 (by rw [st_eq]; exact ew) (fun v t iv' ne => ?_)⟩
    have := idx_inj ok iv' h ne
    rw [st_ne (by omega), f 487 (by omega)]
  have same : ∀ (i1 : MI) (w : Int), FS 481 i i1 → CSt D 481 i1 s → kdv D x ≠ 5 → w = RVu D x τ → s124_X1_begin x τ w i1 r Q := fun i1 w f c k ew => fin i1 s w f c rfl rfl rfl rfl (by rw [if_neg k]; omega) ew
  unfold wp_X1_begin
  rw [xiv ok hP hv h, e5, rx, e4]
  refine ⟨fun q => by omega, fun _ => ?_⟩
  -- what does no operation
  have plain : ∀ (i1 : MI) (w : Int), FS 481 i i1 → (nd D x).2 ≠ 2 → s124_X1_begin x τ w i1 r Q → s60_X1_begin (72 + x) x τ (iv D x τ) w i1 r Q := by
    intro i1 w f q2 z
    unfold s60_X1_begin
    rw [fr f, e11, if_neg q2]
    exact ⟨fun _ => z, fun w => absurd rfl w⟩
  -- one operand, of the part j
  have one : ∀ j, ptN (nd D x) = j → (j = 1 ∨ (j = 2 ∧ D.O (kv D x) ≠ 32)) → (nd D x).2 ≠ 2 → g1N D x (nd D x) = -1 → valS D (kv D x) j (iv D x τ) s = RVu D x τ → (kdv D x = 5 ↔ D.F (kv D x) j = 5) → ((g1N D x (nd D x) = -1 → (¬ r 4 (kv D x) = 0 ∧ wp_X6_valueOf (r 4 (kv D x)) (ptN (nd D x)) (iv D x τ) 481 i r (fun v107 i108 => s60_X1_begin (72 + x) x τ (iv D x τ) v107 i108 r Q))) ∧ (¬ g1N D x (nd D x) = -1 → wp_X1_valueFrom (g1N D x (nd D x)) τ i r (fun v97 => s60_X1_begin (72 + x) x τ (iv D x τ) v97 i r Q))) := by
    intro j ej hj q2 g1 ev' k5
    refine ⟨fun _ => ⟨rn, ?_⟩, fun z => absurd g1 z⟩
    rw [ej]
    refine valueOf_w hP ok hk hj ⟨b.1, by omega⟩ (.inr rfl) hs so (fun i1 f c => plain i1 _ f q2 ?_)
    have t := tkS_p (D := D) (k := kv D x) (p := j) (s := s)
    refine fin i1 _ _ f c t.1 t.2.1 t.2.2.1 t.2.2.2.1 ?_ ev'
    rw [t.2.2.2.2]
    by_cases z : kdv D x = 5
    · rw [if_pos z, if_pos (k5.1 z)]
    · rw [if_neg z, if_neg (fun w => z (k5.2 w))]
  have gv : ∀ g, 0 ≤ g → g < x → inR D g τ := fun g a c => ⟨⟨a, by omega⟩, h2⟩
  by_cases q0 : (nd D x).2 = 0
  · exact one 1 (by unfold ptN; rw [if_neg (by omega)]) (.inl rfl) (by omega) (by unfold g1N; rw [if_neg (by omega), if_neg (by omega)]) (ev.e0 q0) (by rw [kd_rd.1 q0])
  by_cases q1 : (nd D x).2 = 1
  · have o : D.O (kv D x) ≠ 32 := by
      rcases ro with z | z | z | z | z
      · omega
      · exact z.2.1
      · omega
      · omega
      · omega
    exact one 2 (by unfold ptN; rw [if_pos q1]) (.inr ⟨rfl, o⟩) (by omega) (by unfold g1N; rw [if_neg (by omega), if_neg (by omega)]) (ev.e1 q1) (by rw [kd_rd.2 q1])
  have k5 := kd5n ok h1 ⟨q0, q1⟩
  have pt : ptN (nd D x) = 1 := by unfold ptN; rw [if_neg q1]
  have tk0 : ∀ j, (j = 1 ∨ j = 2) → ¬ isRd (D.F (kv D x) j) → D.F (kv D x) j ≠ 5 := fun j _ nr' z => nr' (by rw [z]; decide)
  by_cases q2 : (nd D x).2 = 2
  · have o : D.O (kv D x) ≠ 32 := by
      rcases ro with z | z | z | z | z
      · omega
      · omega
      · exact z.2
      · omega
      · omega
    obtain ⟨A, B, eR, cA, cB, a1, a2, b1, b2⟩ := ev.e2 q2
    have opx : ∀ (i1 : MI), FS 481 i i1 → CSt D 481 i1 s → s105_X1_begin (72 + x) x τ A B i1 r Q := by
      intro i1 f c
      unfold s105_X1_begin
      rw [rx]
      have hP1 := hP.fs (.inr rfl) f
      refine ⟨rn, ?_⟩
      rw [operate_e (hP1.st _ hk.1 hk.2), cut_e hP1]
      exact same i1 _ f c k5 eR.symm
    have sec : ∀ (i1 : MI), FS 481 i i1 → CSt D 481 i1 s → s60_X1_begin (72 + x) x τ (iv D x τ) A i1 r Q := by
      intro i1 f c
      unfold s60_X1_begin
      have hP1 := hP.fs (.inr rfl) f
      rw [fr f, e11, if_pos q2, e6, rx]
      refine ⟨fun z => absurd z (by decide), fun _ => ⟨fun z => ⟨rn, ?_⟩, fun z => ?_⟩⟩
      · have n2 : ¬ isRd (D.F (kv D x) 2) := fun r2 => by
          unfold g2N at z
          rw [if_pos ⟨q2, r2⟩] at z
          have := ((nd_prev ok h1).1 q2 r2).1
          omega
        refine valueOf_w hP1 ok hk (.inr ⟨rfl, o⟩) ⟨b.1, by omega⟩ (.inr rfl) c so (fun i2 f2 c2 => ?_)
        rw [b2 n2]
        refine opx i2 (f.trans f2) ?_
        unfold tkS at c2
        rw [if_neg (tk0 2 (.inr rfl) n2)] at c2
        exact c2
      · have r2 : isRd (D.F (kv D x) 2) := Classical.byContradiction fun n2 => z (by unfold g2N; rw [if_neg (fun w => n2 w.2)])
        have g2 := gv (g2N D x (nd D x)) (by omega) (by omega)
        refine vfrom_w ok g2 ?_
        rw [f 487 (by omega)]
        have := b1 r2
        rw [this]
        exact opx i1 f c
    refine ⟨fun z => ⟨rn, ?_⟩, fun z => ?_⟩
    · have n1 : ¬ isRd (D.F (kv D x) 1) := fun r1 => by
        unfold g1N at z
        rw [if_pos q2, if_pos (show isRd (D.F (stK D (nd D x)) 1) from r1)] at z
        by_cases r2 : isRd (D.F (stK D (nd D x)) 2)
        · rw [if_pos r2] at z
          have := (((nd_prev ok h1).1 q2 r2).2.2 r1).1
          omega
        · rw [if_neg r2] at z
          have := ((nd_prev ok h1).2.1 q2 r2 r1).1
          omega
      rw [pt]
      refine valueOf_w hP ok hk (.inl rfl) ⟨b.1, by omega⟩ (.inr rfl) hs so (fun i1 f c => ?_)
      rw [a2 n1]
      refine sec i1 f ?_
      unfold tkS at c
      rw [if_neg (tk0 1 (.inl rfl) n1)] at c
      exact c
    · have r1 : isRd (D.F (kv D x) 1) := Classical.byContradiction fun n1 => z (by unfold g1N; rw [if_pos q2, if_neg (show ¬ isRd (D.F (stK D (nd D x)) 1) from n1)])
      refine vfrom_w ok (gv _ (by omega) go.2.1) ?_
      have := a1 r1
      rw [this]
      exact sec i (FS.refl _ _) hs
  by_cases q3 : (nd D x).2 = 3
  · by_cases o : D.O (kv D x) = 32
    · obtain ⟨a1, a2⟩ := ev.e5 q3 o
      by_cases r1 : isRd (D.F (kv D x) 1)
      · have g1 : g1N D x (nd D x) = x - 1 := by unfold g1N; rw [if_neg q2, if_pos q3, if_pos (.inr r1)]
        have := ((nd_prev ok h1).2.2.2 q3 o r1).1
        refine ⟨fun z => by omega, fun _ => vfrom_w ok (gv _ (by omega) go.2.1) (plain i _ (FS.refl _ _) q2 (same i _ (FS.refl _ _) hs k5 (a1 r1)))⟩
      · exact one 1 pt (.inl rfl) q2 (by unfold g1N; rw [if_neg q2, if_pos q3, if_neg (by rintro (z | z); exact z o; exact r1 z)]) (a2 r1) ⟨fun z => absurd z k5, fun z => absurd z (tk0 1 (.inl rfl) r1)⟩
    · have g1 : g1N D x (nd D x) = x - 1 := by unfold g1N; rw [if_neg q2, if_pos q3, if_pos (.inl o)]
      have := ((nd_prev ok h1).2.2.1 q3 o).1
      refine ⟨fun z => by omega, fun _ => vfrom_w ok (gv _ (by omega) go.2.1) (plain i _ (FS.refl _ _) q2 (same i _ (FS.refl _ _) hs k5 (ev.e3 q3 o)))⟩
  · have q4 : (nd D x).2 = 4 ∧ ¬ isRd (D.F (kv D x) 1) := by
      rcases ro with z | z | z | z | z
      · omega
      · omega
      · omega
      · omega
      · exact ⟨z.1, z.2.2.2⟩
    exact one 1 pt (.inl rfl) q2 (by unfold g1N; rw [if_neg q2, if_neg q3]) (ev.e4 q4.1) ⟨fun z => absurd z k5, fun z => absurd z (tk0 1 (.inl rfl) q4.2)⟩

/-! ===== the circuit: the class goes on ===== -/
theorem Sim.outn {D : Dat} (ok : DOk D) {T : Int} {p : Int → Int} (h : AE D T p) {F B : Int → Int → Prop} {s : St} {val : Int → Int → Int} (S : Sim D F B s val) {x τ : Int} (hx : inR D x τ) (lst : Lst D x) (nf : ¬ F x τ) (f1 : ∀ v t, inR D v t → F v t → Et D T p v t ≤ Et D T p x τ) (f2 : ∀ v t, inR D v t → Et D T p v t < Et D T p x τ → F v t) (c : D.F (kv D x) 0 = 6) : s.outs < 192 := by
  have inn := Iv_n ok hx
  have nb := NS_b ok
  have kx : kdv D x = 6 := by rw [(lst3 lst (by omega)).2, c]
  have s0 := S.o (Iv D x τ) inn.1 (by omega) (fun v t i k => ⟨fun z => ?_, fun z => ?_⟩)
  · rw [s0.1]
    have := (run_cnt (D := D) (Iv D x τ).toNat).2.1
    show (runS D (Iv D x τ).toNat).outs < 192
    omega
  · exact f2 v t i (chan_ex h (c := 6) (by decide) i.1 hx.1 k kx (Iv_lx ok i.1 hx.1 z))
  · apply Classical.byContradiction
    intro w2
    have le := f1 v t i z
    by_cases eq : Iv D v t = Iv D x τ
    · obtain ⟨e1, e2⟩ := Iv_inj ok i.1 hx.1 eq
      have := lst_uniq ok i.1 hx.1 e2 (wr_lst ok i.1 (kd6 ok i.1 k).1) lst
      rw [e1, this] at z
      exact nf z
    · have := chan_ex h (c := 6) (by decide) hx.1 i.1 kx k (Iv_lx ok (τ := τ) (τ' := t) hx.1 i.1 (by omega))
      omega
theorem M4.congr {D : Dat} {i i' : MI} (h : M4 D i) (a : i' 469 = i 469) (b : i' 470 = i 470) : M4 D i' :=
  ⟨by rw [a]; exact h.r, by rw [a]; exact h.u, by rw [a]; exact h.t, by rw [a, b]; exact h.p⟩
def M5 (D : Dat) (i : MI) : Prop := CSt D 481 i (execS D)
theorem et_b {D : Dat} (ok : DOk D) {T e : Int} {p : Int → Int} (h : AE D T p) (hc : CycP D T p e) {v t : Int} (i : inR D v t) : Et D T p v t ≤ e ∧ Bt T p v t < e ∧ 0 ≤ Bt T p v t := by
  have i1 : 0 ≤ v ∧ v < nn D := i.1
  have i2 : 0 ≤ t ∧ t < BTu D := i.2
  have hT := h.t
  have cv := cyv_r ok i1
  have z := h.z v i1.1 i1.2
  have m0 := Int.mul_nonneg (show 0 ≤ T by omega) i2.1
  rcases hc with ⟨a, _⟩ | ⟨_, x, ex, ee⟩
  · omega
  · have := ex.2.1 v i1.1 i1.2
    have m := Int.mul_le_mul_of_nonneg_left (show t ≤ BTu D - 1 by omega) (show 0 ≤ T by omega)
    rw [Et_eq]
    unfold Bt
    omega
theorem turn_w {D : Dat} (ok : DOk D) {i r : MI} {Q : MI → Prop} (hP : ClassP D i r) (hv : NV D i) (nr : NR D r) (m4 : M4 D i) (hQ : ∀ i', FTn i i' → M5 D i' → Q i') : wp_X1_turn i r Q := by
  have nl := nn_le ok
  have bt := BT_b ok
  have tb := int_b m4.t
  have pl := m4.p
  have ae : AE D (i 469 5) (i 470) := AE.of ok m4.t m4.p
  have pb := pl_b ok (T := i 469 5) (by omega) (Int.le_refl _) m4.p
  unfold wp_X1_turn
  refine begin_w hP (.inr rfl) ok.inc.1 (fun i2 f2 c2 => ?_)
  have P2 := hP.fs (.inr rfl) f2
  refine bodyT_w ok P2 ?_
  have e469 : i2 469 = i 469 := f2 469 (by omega)
  have e470 : i2 470 = i 470 := f2 470 (by omega)
  refine countC_w ok (hv.fl ok f2.ft.fl) (m4.congr e469 e470) (fun e he => ?_)
  rw [e469, e470] at he
  generalize hT5 : i 469 5 = T at *
  generalize hp : i 470 = p at *
  have eb : 0 ≤ e ∧ e ≤ 60000 := by
    rcases he with ⟨_, z⟩ | ⟨_, x, ex, ee⟩
    · omega
    · have := end_b ok tb pl ex
      have := tb_b ok tb
      omega
  have etb : ∀ v t, inR D v t → Et D T p v t ≤ e ∧ Bt T p v t < e ∧ 0 ≤ Bt T p v t := fun v t iv' => et_b ok ae he iv'
  refine Lp.r2 (fun (c : Int) (m : MI) => 0 ≤ c ∧ c ≤ e + 1 ∧ FTn i m ∧ ∃ s, CSt D 481 m s ∧ Sim D (fun v t => Et D T p v t < c) (fun v t => Bt T p v t < c) s (fun v t => m 487 (16 * v + t))) (fun c _ => (e + 1 - c).toNat) ?_ ⟨by decide, by omega, f2.ft, _, c2, (Sim.start ok _).congr (fun v t iv' => ⟨fun z => z.elim, fun z => ?_⟩) (fun v t iv' => ⟨fun z => z.elim, fun z => ?_⟩)⟩
  · intro c m C ⟨c0, c1, f, s, cs, S⟩ hC
    dsimp only [b26_X1_turn]
    refine ⟨fun q => hQ m f ?_, fun q => ?_⟩
    · exact cs.same (S.done ok (fun v t iv' => by have := etb v t iv'; omega) (fun v t iv' => by have := etb v t iv'; omega))
    refine Lp.r2 (fun (x : Int) (m : MI) => 0 ≤ x ∧ x ≤ nn D ∧ FTn i m ∧ ∃ s, CSt D 481 m s ∧ Sim D (fun v t => Et D T p v t < c ∨ (Et D T p v t = c ∧ v < x)) (fun v t => Bt T p v t < c) s (fun v t => m 487 (16 * v + t))) (fun x _ => (nn D - x).toNat) ?_ ⟨by decide, nl.1, f, s, cs, S.congr (fun v t iv' => ⟨.inl, fun z => by have := iv'.1.1; omega⟩) (fun v t _ => Iff.rfl)⟩
    intro x m C2 ⟨x0, x1, f, s, cs, S⟩ hC2
    dsimp only [b36_X1_turn]
    have hv2 := hv.fl ok f.fl
    have P2 := hP.ft f
    rw [hv2.n]
    refine ⟨fun q1 => ?_, fun q1 => ⟨by omega, cyc_w ok hv2 ⟨x0, by omega⟩ ⟨by omega, ?_⟩⟩⟩
    · refine Lp.r2 (fun (x : Int) (m : MI) => 0 ≤ x ∧ x ≤ nn D ∧ FTn i m ∧ ∃ s, CSt D 481 m s ∧ Sim D (fun v t => Et D T p v t ≤ c) (fun v t => Bt T p v t < c ∨ (Bt T p v t = c ∧ v < x)) s (fun v t => m 487 (16 * v + t))) (fun x _ => (nn D - x).toNat) ?_ ⟨by decide, nl.1, f, s, cs, S.congr (fun v t iv' => ⟨fun z => by omega, fun z => by have := iv'.1.2; omega⟩) (fun v t iv' => ⟨.inl, fun z => by have := iv'.1.1; omega⟩)⟩
      intro x m C3 ⟨x0, x1, f, s, cs, S⟩ hC3
      dsimp only [b98_X1_turn]
      have hv2 := hv.fl ok f.fl
      have P2 := hP.ft f
      rw [hv2.n]
      refine ⟨fun q2 => ?_, fun q2 => ⟨by omega, by omega, ?_⟩⟩
      · rw [wr_of (x := c + 1) (by omega) (by omega)]
        exact hC _ _ ⟨by omega, by omega, f, s, cs, S.congr (fun v t iv' => by omega) (fun v t iv' => ⟨fun z => by omega, fun z => by have := iv'.1.2; omega⟩)⟩ (by omega)
      · have hx : 0 ≤ x ∧ x < nn D := ⟨x0, by omega⟩
        have px := pb x hx.1 hx.2
        rw [f 470 (by omega), f 469 (by omega), hp, hT5, wr_of (x := c - p x) (by omega) (by omega), wr_of (x := x + 1) (by omega) (by omega)]
        refine turnAfter_w ok (by omega) (by omega) (fun τ t0 t1 et => ?_) (fun no => ?_)
        · have ix : inR D x τ := ⟨hx, t0, t1⟩
          have eB : Bt T p x τ = c := by unfold Bt; omega
          have N : Now D T p (fun v t => Et D T p v t ≤ c) (fun v t => Bt T p v t < c ∨ (Bt T p v t = c ∧ v < x)) x τ := ⟨fun v t _ => by rw [eB], fun v t _ z => by rw [eB]; omega, fun v t _ z => by rw [eB] at z; omega, fun z => by
            have z' : Bt T p x τ < c ∨ (Bt T p x τ = c ∧ x < x) := z
            omega⟩
          refine xbegin_w ok P2 hv2 nr ix cs S.ok (S.ev ok ae ix N) (fun m' s' f' cs' a1 a2 a3 a4 a5 v1 v2 => ?_)
          refine hC3 _ _ ⟨by omega, by omega, f.trans f', s', cs', (S.beg ok ae ix N a1 a2 a3 a4 a5 v1 v2).congr (fun v t _ => Iff.rfl) (fun v t iv' => ⟨fun z => ?_, fun z => ?_⟩)⟩ (by omega)
          · rcases z with z | ⟨rfl, rfl⟩
            · omega
            · exact .inr ⟨eB, by omega⟩
          · by_cases w : v = x
            · rcases z with z | ⟨z, _⟩
              · exact .inl (.inl z)
              · refine .inr ⟨w, ?_⟩
                rw [w] at z
                unfold Bt at z eB
                exact tmul_inj tb.1 (by omega)
            · exact .inl (by omega)
        · unfold wp_X1_begin
          refine ⟨fun _ => hC3 _ _ ⟨by omega, by omega, f, s, cs, S.congr (fun v t _ => Iff.rfl) (fun v t iv' => ⟨fun z => by omega, fun z => ?_⟩)⟩ (by omega), fun z => absurd rfl z⟩
          by_cases w : v = x
          · refine .inl ?_
            rcases z with z | ⟨z, _⟩
            · exact z
            · rw [w] at z
              unfold Bt at z
              exact absurd (by omega) (no t iv'.2.1 iv'.2.2)
          · omega
    · have hx : 0 ≤ x ∧ x < nn D := ⟨x0, by omega⟩
      have px := pb x hx.1 hx.2
      have cx := cyv_r ok hx
      rw [f 470 (by omega), f 469 (by omega), hp, hT5, wr_of (x := c - p x) (by omega) (by omega), wr_of (x := c - p x - cyv D x) (by omega) (by omega), wr_of (x := x + 1) (by omega) (by omega)]
      refine turnAfter_w ok (by omega) (by omega) (fun τ t0 t1 et => ?_) (fun no => ?_)
      · have ix : inR D x τ := ⟨hx, t0, t1⟩
        have eE : Et D T p x τ = c := by unfold Et; omega
        have eB : Bt T p x τ < c := by unfold Bt; omega
        have f1 : ∀ v t, inR D v t → (Et D T p v t < c ∨ (Et D T p v t = c ∧ v < x)) → Et D T p v t ≤ Et D T p x τ := fun v t _ z => by rw [eE]; omega
        have f2 : ∀ v t, inR D v t → Et D T p v t < Et D T p x τ → (Et D T p v t < c ∨ (Et D T p v t = c ∧ v < x)) := fun v t _ z => by rw [eE] at z; exact .inl z
        have nf : ¬ (Et D T p x τ < c ∨ (Et D T p x τ = c ∧ x < x)) := by rw [eE]; omega
        have uniq : ∀ t, Et D T p x t = c → t = τ := fun t z => by
          unfold Et at z eE
          exact tmul_inj tb.1 (by omega)
        have iff' : ∀ v t, (Et D T p v t < c ∨ (Et D T p v t = c ∧ v < x)) ∨ (v = x ∧ t = τ) ↔ (Et D T p v t < c ∨ (Et D T p v t = c ∧ v < x + 1)) := fun v t => by
          constructor
          · rintro (z | ⟨rfl, rfl⟩)
            · omega
            · exact .inr ⟨eE, by omega⟩
          · intro z
            by_cases w : v = x
            · rcases z with z | ⟨z, _⟩
              · exact .inl (.inl z)
              · exact .inr ⟨w, uniq t (w ▸ z)⟩
            · exact .inl (by omega)
        have hout : Lst D x → D.F (kv D x) 0 = 6 → s.outs < 192 := fun l c6 => S.outn ok ae ix l nf f1 f2 c6
        by_cases l : Lst D x
        · refine xfinish_w ok P2 hv2 nr ix cs S.ok hout (fun _ m' f' cs' => ?_) (fun z => absurd l z)
          have S' := S.fin ok ae ix l eB nf f1 f2
          have e487 : m' 487 = m 487 := f' 487 (by omega)
          refine hC2 _ _ ⟨by omega, by omega, f.trans f'.ft, _, cs', ?_⟩ (by omega)
          rw [e487]
          exact S'.congr (fun v t _ => iff' v t) (fun v t _ => Iff.rfl)
        · refine xfinish_w ok P2 hv2 nr ix cs S.ok hout (fun z => absurd z l) (fun _ => ?_)
          refine hC2 _ _ ⟨by omega, by omega, f, s, cs, S.congrL ok (fun v t _ lv => ?_) (fun v t _ => Iff.rfl)⟩ (by omega)
          rw [← iff' v t]
          exact ⟨.inl, fun z => z.elim id (fun w => absurd (w.1 ▸ lv) l)⟩
      · unfold wp_X1_finish s56_X1_finish
        refine ⟨fun _ => hC2 _ _ ⟨by omega, by omega, f, s, cs, S.congr (fun v t iv' => ⟨fun z => by omega, fun z => ?_⟩) (fun v t _ => Iff.rfl)⟩ (by omega), fun z => absurd rfl z⟩
        by_cases w : v = x
        · rcases z with z | ⟨z, _⟩
          · exact .inl z
          · rw [w] at z
            unfold Et at z
            exact absurd (by omega) (no t iv'.2.1 iv'.2.2)
        · omega
  · have := (etb v t iv').1
    have := (etb v t iv').2.2
    have cv := cyv_r ok iv'.1
    rw [Et_eq] at z
    omega
  · have := (etb v t iv').2.2
    omega

/-! ===== the circuit: the reference's values ===== -/
theorem g1_nd {D : Dat} (ok : DOk D) {x : Int} (h : 0 ≤ x ∧ x < nn D) : (((nd D x).2 = 2 ∨ ((nd D x).2 = 3 ∧ D.O (kv D x) = 32)) → isRd (D.F (kv D x) 1) → 0 ≤ g1N D x (nd D x) ∧ nd D (g1N D x (nd D x)) = ((nd D x).1, 0)) ∧ ((nd D x).2 = 2 → isRd (D.F (kv D x) 2) → 0 ≤ g2N D x (nd D x) ∧ nd D (g2N D x (nd D x)) = ((nd D x).1, 1)) ∧ ((nd D x).2 = 3 → D.O (kv D x) ≠ 32 → 1 ≤ x ∧ g1N D x (nd D x) = x - 1) := by
  obtain ⟨n1, n2, n3, n4⟩ := nd_prev ok h
  refine ⟨fun q r => ?_, fun q r => ?_, fun q o => ?_⟩
  · rcases q with q | ⟨q, o⟩
    · unfold g1N
      rw [if_pos q, if_pos (show isRd (D.F (stK D (nd D x)) 1) from r)]
      by_cases r2 : isRd (D.F (stK D (nd D x)) 2)
      · rw [if_pos r2]
        have := (n1 q r2).2.2 r
        exact ⟨by omega, this.2⟩
      · rw [if_neg r2]
        have := n2 q r2 r
        exact ⟨by omega, this.2⟩
    · have eg : g1N D x (nd D x) = x - 1 := by unfold g1N; rw [if_neg (show ¬ (nd D x).2 = 2 by omega), if_pos q, if_pos (.inr r)]
      have := n4 q o r
      rw [eg]
      exact ⟨by omega, this.2⟩
  · have eg : g2N D x (nd D x) = x - 1 := by unfold g2N; rw [if_pos ⟨q, r⟩]
    have := n1 q r
    rw [eg]
    exact ⟨by omega, this.2.1⟩
  · have := n3 q o
    exact ⟨this.1, by unfold g1N; rw [if_neg (show ¬ (nd D x).2 = 2 by omega), if_pos q, if_pos (.inl o)]⟩
theorem idm_inj {D : Dat} (ok : DOk D) {v t x τ : Int} (h : inR D v t) (g : inR D x τ) (ne : ¬ (v = x ∧ t = τ)) : 96 * t + v ≠ 96 * τ + x := by
  have b := nn_le ok
  have a1 : 0 ≤ v ∧ v < nn D := h.1
  have a2 : 0 ≤ x ∧ x < nn D := g.1
  omega
/-! ===== all is kept ===== -/
def LOk (D : Dat) (c : Int) (ls : Int → Int) : Prop := (∀ f t w, Ed D f t 0 w → ls t ≠ -1 → ls f ≠ -1 ∧ ls f + w ≤ ls t) ∧ (∀ k c', 0 ≤ k → k < 7 → 0 ≤ c' → cntL D ls k c' ≤ D.un k)
theorem LOk.e {D : Dat} {c : Int} {ls : Int → Int} (h0 : LOk D c ls) : ∀ f t w, Ed D f t 0 w → ls t ≠ -1 → ls f ≠ -1 ∧ ls f + w ≤ ls t := h0.1
theorem LOk.u {D : Dat} {c : Int} {ls : Int → Int} (h0 : LOk D c ls) : ∀ k c', 0 ≤ k → k < 7 → 0 ≤ c' → cntL D ls k c' ≤ D.un k := h0.2
theorem LOk.mk {D : Dat} {c : Int} {ls : Int → Int} (h0 : ∀ f t w, Ed D f t 0 w → ls t ≠ -1 → ls f ≠ -1 ∧ ls f + w ≤ ls t) (h1 : ∀ k c', 0 ≤ k → k < 7 → 0 ≤ c' → cntL D ls k c' ≤ D.un k) : LOk D c ls := ⟨h0, h1⟩
theorem LOk.pick {D : Dat} (ok : DOk D) {c k : Int} {ls : Int → Int} (h : LOk D c ls) (hc : 0 ≤ c) (r : ready D c ls k) : LOk D c (iup ls k c) := by
  obtain ⟨k0, k1, kn, ke, ku⟩ := r
  refine ⟨fun f t w ed ht => ?_, fun k' c' a b d => ?_⟩
  · unfold iup at ht ⊢
    by_cases z : t = k
    · rw [z] at ed
      have := ke f w ed
      have ne : f ≠ k := fun y => this.1 (y ▸ kn)
      rw [if_pos z, if_neg ne]
      exact this
    · rw [if_neg z] at ht ⊢
      have := h.e f t w ed ht
      have ne : f ≠ k := fun y => this.1 (y ▸ kn)
      rw [if_neg ne]
      exact this
  · by_cases z : c' = c ∧ k' = kdv D k
    · rw [z.1, z.2]
      unfold cntL
      rw [cntN_up (by omega) _ k0]
      unfold cntL at ku
      split <;> omega
    · have : cntL D (iup ls k c) k' c' = cntL D ls k' c' := cntN_eq _ (fun v a b => by
        unfold iup
        by_cases y : v = k
        · rw [if_pos y, y]
          constructor
          · rintro ⟨p1, p2⟩; exact absurd ⟨p2.symm, p1.symm⟩ z
          · rintro ⟨p1, p2⟩; omega
        · rw [if_neg y])
      rw [this]
      exact h.u k' c' a b d
theorem LR_ok {D : Dat} (ok : DOk D) {la fin : Int → Int} : ∀ (n : Nat) (c : Int) (ls : Int → Int), 0 ≤ c → LR D la n c ls fin → LOk D c ls → LOk D 0 fin := by
  intro n
  induction n with
  | zero =>
    intro c ls hc h o
    refine ⟨fun f t w ed ht => ?_, fun k c' a b d => ?_⟩
    · obtain ⟨⟨f0, f1⟩, ⟨t0, t1⟩, _⟩ := ed_props ok ed
      rw [h.2 f f0 f1]
      rw [h.2 t t0 t1] at ht ⊢
      exact o.e f t w ed ht
    · have : cntL D fin k c' = cntL D ls k c' := cntN_eq _ (fun v x y => by rw [h.2 v x (by have := nn_le ok; omega)])
      rw [this]; exact o.u k c' a b d
  | succ n ih =>
    intro c ls hc h o
    rcases h with ⟨k, h1, h2⟩ | ⟨h1, h2, h3⟩
    · exact ih c _ hc h2 (o.pick ok hc h1.1)
    · exact ih (c + 1) ls (by omega) h3 ⟨o.e, o.u⟩
theorem list_ok {D : Dat} (ok : DOk D) {la fin : Int → Int} (h : IsList D la fin) : (∀ f t w, Ed D f t 0 w → fin f + w ≤ fin t) ∧ (∀ k c, 0 ≤ k → k < 7 → 0 ≤ c → cntL D fin k c ≤ D.un k) ∧ ∀ v, 0 ≤ v → v < nn D → 0 ≤ fin v ∧ fin v ≤ 480 := by
  obtain ⟨⟨n, lr⟩, al, c, j⟩ := h
  have o := LR_ok ok n 0 L00 (by decide) lr ⟨fun f t w ed ht => absurd rfl ht, fun k c' a b d => by
    have : cntL D L00 k c' = 0 := cntN_zero _ (fun v x y z => by unfold L00 at z; omega)
    rw [this]
    have := ok.un k a b
    omega⟩
  have jc := JL_c ok j
  refine ⟨fun f t w ed => (o.e f t w ed (al t (ed_props ok ed).2.1.1 (ed_props ok ed).2.1.2)).2, o.u, fun v a b => ?_⟩
  rcases j.2.1 v a b with z | z
  · exact absurd z (al v a b)
  · omega
theorem cntN_P {D : Dat} {ls : Int → Int} {k c : Int} : ∀ n : Nat, CntP (fun u => kdv D u = k ∧ ls u = c) n (cntN D ls k c n) := by
  intro n
  induction n with
  | zero => rfl
  | succ n ih =>
    show CntP _ (n + 1) (cntN D ls k c n + if kdv D n = k ∧ ls n = c then 1 else 0)
    by_cases z : kdv D n = k ∧ ls n = c
    · rw [if_pos z]; exact .inl ⟨z, by rw [show cntN D ls k c n + 1 - 1 = cntN D ls k c n by omega]; exact ih⟩
    · rw [if_neg z]; exact .inr ⟨z, by rw [Int.add_zero]; exact ih⟩
/-- no unit has more than it can -/
theorem pl_units {D : Dat} (ok : DOk D) {T : Int} {p : Int → Int} (h : PlU D T p (nn D)) {k rest : Int} (hk : 0 ≤ k ∧ k < 7) : ∀ n : Nat, (n : Int) ≤ nn D → ∀ x, CntP (UseP D T p k rest) n x → x ≤ D.un k := by
  intro n
  induction n with
  | zero =>
    intro _ x hx
    have := ok.un k hk.1 hk.2
    have z : x = 0 := hx
    omega
  | succ n ih =>
    intro hn x hx
    rcases hx with ⟨u, hx⟩ | ⟨_, hx⟩
    · obtain ⟨a, ha⟩ := h n (by omega) (by omega)
      obtain ⟨y, hy, lt⟩ := ha.t.2
      rw [u.1, u.2] at hy
      have := CntP.uniq _ _ _ hx hy
      rw [u.1] at lt
      omega
    · exact ih (by omega) x hx
theorem isDiv_e {a T : Int} {i r : MI} {Q : Int → Prop} (hT : 1 ≤ T) : wp_X11_isDivided a T i r Q ↔ Q (bz (Int.tmod a T = 0)) := by
  unfold wp_X11_isDivided s14_X11_isDivided s15_X11_isDivided bz
  by_cases z : Int.tmod a T = 0
  · rw [if_pos z]
    exact ⟨fun q => ((q.2 (by omega)).2.1 z).2, fun q => ⟨fun w => by omega, fun _ => ⟨by omega, fun _ => ⟨.inr rfl, q⟩, fun w => absurd z w⟩⟩⟩
  · rw [if_neg z]
    exact ⟨fun q => ((q.2 (by omega)).2.2 z).2, fun q => ⟨fun w => by omega, fun _ => ⟨by omega, fun w => absurd w z, fun _ => ⟨.inl rfl, q⟩⟩⟩⟩
theorem together_w {D : Dat} (ok : DOk D) {i r : MI} {o T v : Int} {Q : Int → Prop} (h : NV D i) (hT : 1 ≤ T) (hv : 0 ≤ v ∧ v < nn D) (hb : ∀ u, 0 ≤ u → u < nn D → 0 ≤ i o u ∧ i o u ≤ 100000) (hQ : ∀ x, CntP (fun u => kdv D u = kdv D v ∧ Int.tmod (i o u - i o v) T = 0) (nn D).toNat x → Q x) : wp_X0_countTogether o T v i r Q := by
  have nl := nn_le ok
  have bv := hb v hv.1 hv.2
  unfold wp_X0_countTogether
  refine Lp.r2 (fun (x u : Int) => 0 ≤ u ∧ u ≤ nn D ∧ CntP (fun u => kdv D u = kdv D v ∧ Int.tmod (i o u - i o v) T = 0) u.toNat x) (fun _ u => (nn D - u).toNat) ?_ ⟨by decide, nl.1, rfl⟩
  intro x u C ⟨u0, u1, hx⟩ hC
  dsimp only [b6_X0_countTogether, s55_X0_countTogether]
  have xb := CntP.b _ _ hx
  rw [h.n]
  refine ⟨fun q => hQ x (by rw [show nn D = u by omega]; exact hx), fun q => ⟨by omega, by omega, ?_⟩⟩
  have bu := hb u u0 (by omega)
  rw [h.kd ⟨u0, by omega⟩, h.kd hv, wr_of (x := u + 1) (by omega) (by omega), wr_of (x := x + 1) (by omega) (by omega), wr_of (x := i o u - i o v) (by omega) (by omega), isDiv_e hT]
  refine ⟨fun q2 => ⟨by omega, by omega, fun q3 => ?_, fun q3 => ?_⟩, fun q2 => hC _ _ ⟨by omega, by omega, hx.no u0 (fun z => q2 z.1)⟩ (by omega)⟩
  · refine hC _ _ ⟨by omega, by omega, hx.no u0 (fun z => ?_)⟩ (by omega)
    rw [bz, if_pos z.2] at q3; exact absurd q3 (by decide)
  · refine hC _ _ ⟨by omega, by omega, hx.yes u0 ⟨q2, Classical.byContradiction fun z => ?_⟩⟩ (by omega)
    rw [bz, if_neg z] at q3; exact q3 rfl
theorem unitsK_w {D : Dat} (ok : DOk D) {i r : MI} {o T : Int} {Q : Int → Prop} (h : NV D i) (hu : ∀ k, 0 ≤ k → k < 7 → i 69 k = D.un k) (hT : 1 ≤ T) (hb : ∀ u, 0 ≤ u → u < nn D → 0 ≤ i o u ∧ i o u ≤ 100000) (all : ∀ v, 0 ≤ v → v < nn D → ∀ x, CntP (fun u => kdv D u = kdv D v ∧ Int.tmod (i o u - i o v) T = 0) (nn D).toNat x → x ≤ D.un (kdv D v)) (hQ : Q 1) : wp_X0_areUnitsKept o T i r Q := by
  have nl := nn_le ok
  unfold wp_X0_areUnitsKept
  refine Lp.rule (fun (v : Int) => 0 ≤ v ∧ v ≤ nn D) (fun v => (nn D - v).toNat) ?_ _ ⟨by decide, nl.1⟩
  intro v C ⟨v0, v1⟩ hC
  dsimp only [b2_X0_areUnitsKept]
  rw [h.n]
  refine ⟨fun _ => hQ, fun q => together_w ok h hT ⟨v0, by omega⟩ hb (fun x hx => ?_)⟩
  have kr := kdv_r ok (v := v) ⟨v0, by omega⟩
  rw [h.kd ⟨v0, by omega⟩, hu _ kr.1 kr.2, wr_of (x := v + 1) (by omega) (by omega)]
  exact ⟨by omega, kr, fun _ => hC _ ⟨by omega, by omega⟩ (by omega), fun z => absurd (all v v0 (by omega) x hx) z⟩
theorem edgesK_w {D : Dat} (ok : DOk D) {i r : MI} {o T d : Int} {Q : Int → Prop} (h : NV D i) (g : M2 D i) (hT : 0 ≤ T ∧ T ≤ 481) (hb : ∀ u, 0 ≤ u → u < nn D → 0 ≤ i o u ∧ i o u ≤ 100000) (all : ∀ f t e w, Ed D f t e w → e ≤ d → i o f + w ≤ i o t + T * e) (hQ : Q 1) : wp_X2_isKept o T d i r Q := by
  have nl := nn_le ok
  unfold wp_X2_isKept
  refine Lp.rule (fun (v : Int) => 0 ≤ v ∧ v ≤ nn D) (fun v => (nn D - v).toNat) ?_ _ ⟨by decide, nl.1⟩
  intro v C ⟨v0, v1⟩ hC
  dsimp only [b3_X2_isKept]
  rw [h.n]
  refine ⟨fun _ => hQ, fun q => ?_⟩
  have gz := g.z v v0 (by omega)
  refine Lp.rule (fun (e : Int) => 0 ≤ e ∧ e ≤ i 460 v) (fun e => (i 460 v - e).toNat) ?_ _ ⟨by decide, gz.1⟩
  intro e C2 ⟨e0, e1⟩ hC2
  dsimp only [b15_X2_isKept, s87_X2_isKept]
  rw [wr_of (x := v + 1) (by omega) (by omega), wr_of (x := e + 1) (by omega) (by omega)]
  refine ⟨by omega, fun q2 => hC _ ⟨by omega, by omega⟩ (by omega), fun q2 => ?_⟩
  have ed := GrC.ed ok g (f := v) (e := e) ⟨v0, by omega⟩ ⟨e0, by omega⟩
  obtain ⟨_, ⟨t0, t1⟩, d0, d1, _, w0, w1⟩ := ed_props ok ed
  have td := td_b (T := T) hT ⟨d0, d1⟩
  have bt := hb _ t0 t1
  have bv := hb v v0 (by omega)
  have next := hC2 (e + 1) ⟨by omega, by omega⟩ (by omega)
  rw [wr_of (x := T * i (267 + v) e) (by omega) (by omega), wr_of (x := i o (i (170 + v) e) + T * i (267 + v) e) (by omega) (by omega), wr_of (x := i o (i (170 + v) e) + T * i (267 + v) e - i o v) (by omega) (by omega)]
  refine ⟨by omega, by omega, by omega, by omega, by omega, by omega, fun _ => next, fun q3 => ⟨by omega, by omega, fun _ => next, fun q4 => ?_⟩⟩
  have := all _ _ _ _ ed (by omega)
  omega

/-! ===== the class is sound ===== -/
theorem tmod_sub {a b T : Int} (hT : 1 ≤ T) (ha : 0 ≤ a) (hb : 0 ≤ b) : Int.tmod (a - b) T = 0 ↔ Int.tmod a T = Int.tmod b T := by
  rw [Int.tmod_eq_emod_of_nonneg ha, Int.tmod_eq_emod_of_nonneg hb, Int.emod_eq_emod_iff_emod_sub_eq_zero]
  constructor
  · intro z
    exact Int.emod_eq_zero_of_dvd (Int.dvd_of_tmod_eq_zero z)
  · intro z
    exact Int.tmod_eq_zero_of_dvd (Int.dvd_of_emod_eq_zero z)
theorem lkept_w {D : Dat} (ok : DOk D) {i r : MI} {Q : Int → Prop} (h : NV D i) (g : M2 D i) (hu : ∀ k, 0 ≤ k → k < 7 → i 69 k = D.un k) (m3 : M3 D i) (hQ : Q 1) : wp_X9_areKept i r Q := by
  obtain ⟨l1, l2, l3⟩ := list_ok ok m3.li
  have hb : ∀ u, 0 ≤ u → u < nn D → 0 ≤ i 464 u ∧ i 464 u ≤ 100000 := fun u a b => by have := l3 u a b; omega
  unfold wp_X9_areKept s32_X9_areKept s33_X9_areKept
  refine edgesK_w ok h g (by decide) hb (fun f t e w ed el => ?_) ⟨fun z => absurd z (by decide), fun _ => ?_⟩
  · have e0 : e = 0 := by have := (ed_props ok ed).2.2.1; omega
    rw [e0] at ed
    have := l1 f t w ed
    omega
  · refine unitsK_w ok h hu (by decide) hb (fun v v0 v1 x hx => ?_) ⟨fun z => absurd z (by decide), fun _ => ⟨.inr rfl, hQ⟩⟩
    have kr := kdv_r ok (v := v) ⟨v0, v1⟩
    have bv := l3 v v0 v1
    have := l2 (kdv D v) (i 464 v) kr.1 kr.2 bv.1
    have e := CntP.uniq _ _ _ (hx.iff _ _ (R := fun u => kdv D u = kdv D v ∧ i 464 u = i 464 v) (fun u a b => ?_)) (cntN_P (nn D).toNat)
    · unfold cntL at this
      omega
    · have bu := l3 u a (by omega)
      refine and_congr_right (fun _ => ?_)
      rw [tmod_sub (by decide) bu.1 bv.1, Int.tmod_eq_of_lt bu.1 (by omega), Int.tmod_eq_of_lt bv.1 (by omega)]
theorem order_ok {D : Dat} (ok : DOk D) {i r : MI} {Q : Int → Prop} (h : NV D i) (m3 : M3 D i) (hQ : Q 1) : wp_X9_areInOrder i r Q := by
  have nl := nn_le ok
  obtain ⟨e, he, hl⟩ := m3.la
  have ge := late_ge ok m3.so he hl
  unfold wp_X9_areInOrder
  refine Lp.rule (fun (v : Int) => 0 ≤ v ∧ v ≤ nn D) (fun v => (nn D - v).toNat) ?_ _ ⟨by decide, nl.1⟩
  intro v C ⟨v0, v1⟩ hC
  dsimp only [b2_X9_areInOrder]
  rw [h.n, wr_of (x := v + 1) (by omega) (by omega)]
  exact ⟨fun _ => hQ, fun q => ⟨by omega, by omega, fun _ => hC _ ⟨by omega, by omega⟩ (by omega), fun z => absurd (ge v v0 (by omega)) z⟩⟩
theorem pkept_w {D : Dat} (ok : DOk D) {i r : MI} {Q : Int → Prop} (h : NV D i) (g : M2 D i) (hu : ∀ k, 0 ≤ k → k < 7 → i 69 k = D.un k) (m4 : M4 D i) (hQ : Q 1) : wp_X4_isKept i r Q := by
  have nl := nn_le ok
  have tb := int_b m4.t
  have ae := AE.of ok m4.t m4.p
  have pb := pl_b ok (T := i 469 5) (by omega) (Int.le_refl _) m4.p
  have hb : ∀ u, 0 ≤ u → u < nn D → 0 ≤ i 470 u ∧ i 470 u ≤ 100000 := fun u a b => by have := pb u a b; omega
  unfold wp_X4_isKept s37_X4_isKept s38_X4_isKept
  refine edgesK_w ok h g (by omega) hb (fun f t e w ed el => ae.e f t e w ed.1) ⟨fun z => absurd z (by decide), fun _ => ?_⟩
  refine unitsK_w ok h hu tb.1 hb (fun v v0 v1 x hx => ?_) ⟨fun z => absurd z (by decide), fun _ => ⟨.inr rfl, hQ⟩⟩
  have kr := kdv_r ok (v := v) ⟨v0, v1⟩
  have bv := hb v v0 v1
  refine pl_units ok m4.p (rest := Int.tmod (i 470 v) (i 469 5)) kr (nn D).toNat (by omega) x (hx.iff _ _ (fun u a b => ?_))
  have bu := hb u a (by omega)
  unfold UseP
  exact and_congr_right (fun _ => tmod_sub tb.1 bu.1 bv.1)
theorem like_w {D : Dat} (ok : DOk D) {i r : MI} {Q : Int → Prop} (a : CSt D 61 i (execS D)) (b : CSt D 481 i (execS D)) (hQ : Q 1) : wp_X7_isLike 61 481 i r Q := by
  have en := exec_n ok
  unfold wp_X7_isLike
  rw [a.n, b.n]
  refine ⟨fun _ => ?_, fun z => absurd rfl z⟩
  refine Lp.rule (fun (x : Int) => 0 ≤ x ∧ x ≤ (execS D).outs) (fun x => ((execS D).outs - x).toNat) ?_ _ ⟨by decide, en.1⟩
  intro x C ⟨x0, x1⟩ hC
  dsimp only [b15_X7_isLike, s66_X7_isLike, s67_X7_isLike]
  rw [a.n, wr_of (x := x + 1) (by omega) (by omega)]
  refine ⟨fun q => ?_, fun q => ⟨by omega, by omega, fun _ => hC _ ⟨by omega, by omega⟩ (by omega), fun z => absurd (by rw [a.x x x0 (by omega), b.x x x0 (by omega)]) z⟩⟩
  unfold wp_X7_hasRegistersOf
  refine Lp.rule (fun (x : Int) => 0 ≤ x ∧ x ≤ 8) (fun x => (8 - x).toNat) ?_ _ ⟨by decide, by decide⟩
  intro y C2 ⟨y0, y1⟩ hC2
  dsimp only [b2_X7_hasRegistersOf]
  rw [wr_of (x := y + 1) (by omega) (by omega)]
  refine ⟨fun q2 => ⟨fun z => absurd z (by decide), fun _ => ?_⟩, fun q2 => ⟨by omega, by omega, fun _ => hC2 _ ⟨by omega, by omega⟩ (by omega), fun z => absurd (by rw [a.r y y0 (by omega), b.r y y0 (by omega)]) z⟩⟩
  unfold wp_X7_hasMemoriesOf
  refine Lp.rule (fun (x : Int) => 0 ≤ x ∧ x ≤ 2) (fun x => (2 - x).toNat) ?_ _ ⟨by decide, by decide⟩
  intro u C3 ⟨u0, u1⟩ hC3
  dsimp only [b2_X7_hasMemoriesOf]
  refine ⟨fun q3 => ⟨fun z => absurd z (by decide), fun _ => ⟨.inr rfl, hQ⟩⟩, fun q3 => ?_⟩
  refine Lp.rule (fun (x : Int) => 0 ≤ x ∧ x ≤ 16) (fun x => (16 - x).toNat) ?_ _ ⟨by decide, by decide⟩
  intro p C4 ⟨p0, p1⟩ hC4
  dsimp only [b9_X7_hasMemoriesOf]
  rw [wr_of (x := u + 1) (by omega) (by omega), wr_of (x := p + 1) (by omega) (by omega)]
  exact ⟨fun _ => hC3 _ ⟨by omega, by omega⟩ (by omega), fun q4 => ⟨by omega, by omega, by omega, by omega, fun _ => hC4 _ ⟨by omega, by omega⟩ (by omega), fun z => absurd (by rw [a.m u p u0 (by omega) p0 (by omega), b.m u p u0 (by omega) p0 (by omega)]) z⟩⟩
