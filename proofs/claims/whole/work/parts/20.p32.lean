theorem GrC.iff {D : Dat} {i : MI} {S T : RS} (h : GrC D i S) (e : ∀ f t d w, S f t d w ↔ T f t d w) : GrC D i T := by
  have : S = T := by funext f t d w; exact propext (e f t d w)
  rw [← this]; exact h
def NV (D : Dat) (i : MI) : Prop := (i 67 4 = nn D) ∧ (∀ v c, 0 ≤ v → v < nn D → 1 ≤ c → c ≤ 12 → i (72 + v) c = att D v (nd D v) c) ∧ (∀ k, 0 ≤ k → k < 7 → i 70 k = D.cy k)
theorem NV.n {D : Dat} {i : MI} (h0 : NV D i) : i 67 4 = nn D := h0.1
theorem NV.a {D : Dat} {i : MI} (h0 : NV D i) : ∀ v c, 0 ≤ v → v < nn D → 1 ≤ c → c ≤ 12 → i (72 + v) c = att D v (nd D v) c := h0.2.1
theorem NV.y {D : Dat} {i : MI} (h0 : NV D i) : ∀ k, 0 ≤ k → k < 7 → i 70 k = D.cy k := h0.2.2
theorem NV.mk {D : Dat} {i : MI} (h0 : i 67 4 = nn D) (h1 : ∀ v c, 0 ≤ v → v < nn D → 1 ≤ c → c ≤ 12 → i (72 + v) c = att D v (nd D v) c) (h2 : ∀ k, 0 ≤ k → k < 7 → i 70 k = D.cy k) : NV D i := ⟨h0, h1, h2⟩
theorem NV.of {D : Dat} {i r : MI} (h : ClassP D i r) (m : M1 D i r) : NV D i := by
  refine ⟨by rw [m.n, GA_len]; rfl, fun v c v0 v1 c0 c1 => ?_, h.cy⟩
  have hg := nd_get (D := D) (v := v.toNat) (by omega)
  rw [show ((v.toNat : Nat) : Int) = v by omega] at hg
  have hG : (GA D (r 4) (nds D))[v.toNat]? = some (r 4 (stK D (nd D v)), att D (v.toNat : Int) (nd D v)) := by
    unfold GA
    rw [List.getElem?_map, List.getElem?_zipIdx, hg]
    simp
  have := (m.g _ _ _ hG).2 c c0 c1
  rw [show ((v.toNat : Nat) : Int) = v by omega] at this
  exact this
theorem NV.fg {D : Dat} (ok : DOk D) {i i' : MI} (h : NV D i) (g : FG i i') : NV D i' := by
  have hn := nn_le ok
  refine ⟨by rw [g _ (by omega) (by omega) (by omega)]; exact h.n, fun v c v0 v1 c0 c1 => ?_, by rw [g _ (by omega) (by omega) (by omega)]; exact h.y⟩
  rw [g _ (by omega) (by omega) (by omega)]
  exact h.a v c v0 v1 c0 c1
theorem NV.kd {D : Dat} {i : MI} (h : NV D i) {v : Int} (hv : 0 ≤ v ∧ v < nn D) : i (72 + v) 3 = kdv D v := h.a v 3 hv.1 hv.2 (by decide) (by decide)
theorem NV.mk8 {D : Dat} {i : MI} (h : NV D i) {v : Int} (hv : 0 ≤ v ∧ v < nn D) : i (72 + v) 8 = mkv D v := h.a v 8 hv.1 hv.2 (by decide) (by decide)
theorem cyc_w {D : Dat} (ok : DOk D) {i r : MI} {v : Int} {Q : Int → Prop} (h : NV D i) (hv : 0 ≤ v ∧ v < nn D) (hQ : Q (cyv D v)) : wp_X0_cyclesOf v i r Q := by
  have hn := nn_le ok
  have hk := kdv_r ok hv
  unfold wp_X0_cyclesOf
  rw [h.kd hv, h.y _ hk.1 hk.2]
  exact ⟨by omega, by omega, hQ⟩
theorem using_w {D : Dat} {i r : MI} {v p : Int} {Q : Int → Prop} (h : NV D i) (hv : 0 ≤ v ∧ v < nn D) (h1 : usv D v p → Q 1) (h0 : ¬ usv D v p → Q 0) : wp_X3_isUsing (72 + v) p i r Q := by
  unfold wp_X3_isUsing s16_X3_isUsing
  rw [h.a v 7 hv.1 hv.2 (by decide) (by decide)]
  show (iAnd (usN D (nd D v)) (iShl 1 p) = 0 → _) ∧ _
  exact ⟨fun q => ⟨.inl rfl, h0 (fun z => z q)⟩, fun q => ⟨.inr rfl, h1 q⟩⟩
theorem lastM_w {D : Dat} (ok : DOk D) {i r : MI} {p u : Int} {Q : Int → Prop} (h : NV D i) (hu : 0 ≤ u ∧ u ≤ nn D) (h1 : ∀ m, isPrev D p m u → Q m) (h0 : noPrev D p u → Q (-1)) : wp_X0_lastMakerAhead p u i r Q := by
  have hn := nn_le ok
  unfold wp_X0_lastMakerAhead
  rw [wr_of (by omega) (by omega)]
  refine Lp.r1 (fun (x : Int) => -1 ≤ x ∧ x < u ∧ ∀ k, x < k → k < u → k < nn D → mkv D k ≠ p) (fun x => (x + 1).toNat) ?_ ⟨by omega, by omega, fun k a b => by omega⟩
  intro x C ⟨g0, g1, g2⟩ hC
  dsimp only [b4_X0_lastMakerAhead]
  refine ⟨fun q => h0 (fun k a b c => g2 k (by omega) b c), fun q => ⟨by omega, ?_⟩⟩
  rw [h.mk8 ⟨by omega, by omega⟩, wr_of (by omega) (by omega)]
  refine ⟨fun e => h1 x ⟨by omega, by omega, g1, e, g2⟩, fun e => hC _ ⟨by omega, by omega, fun k a b c => ?_⟩ (by omega)⟩
  by_cases w : k = x
  · rw [w]; exact e
  · exact g2 k (by omega) b c
theorem nextM_w {D : Dat} (ok : DOk D) {i r : MI} {p a : Int} {Q : Int → Prop} (h : NV D i) (ha : -1 ≤ a ∧ a < nn D) (h1 : ∀ m, isNext D p a m → Q m) (h0 : noNext D p a → Q (-1)) : wp_X0_nextMakerBehind p a i r Q := by
  have hn := nn_le ok
  unfold wp_X0_nextMakerBehind
  rw [wr_of (by omega) (by omega)]
  refine Lp.r1 (fun (x : Int) => a < x ∧ x ≤ nn D ∧ ∀ k, 0 ≤ k → a < k → k < x → mkv D k ≠ p) (fun x => (97 - x).toNat) ?_ ⟨by omega, by omega, fun k a b c => by omega⟩
  intro x C ⟨g0, g1, g2⟩ hC
  dsimp only [b4_X0_nextMakerBehind]
  rw [h.n]
  refine ⟨fun q => h0 (fun k a b c => g2 k a b (by omega)), fun q => ⟨by omega, ?_⟩⟩
  rw [h.mk8 ⟨by omega, by omega⟩, wr_of (by omega) (by omega)]
  refine ⟨fun e => h1 x ⟨by omega, by omega, g0, e, g2⟩, fun e => hC _ ⟨by omega, by omega, fun k a b c => ?_⟩ (by omega)⟩
  by_cases w : k = x
  · rw [w]; exact e
  · exact g2 k a b (by omega)
/-- one or two edges more -/
def noR : RS := fun _ _ _ _ => False
theorem or_no {S : RS} : orS S noR = S := by funext f t d w; simp [orS, noR]
def ahR (D : Dat) (p u : Int) : RS := fun f t d w => t = u ∧ makeE D p f u d ∧ w = cyv D f
def beR (D : Dat) (p a : Int) : RS := fun f t d w => f = a ∧ nextE D p a t d ∧ ((usv D a p ∧ w = 1 - cyv D t) ∨ (mkv D a = p ∧ w = 1 - cyv D t + cyv D a))
theorem make_rng {D : Dat} {p f u d : Int} (h : makeE D p f u d) : 0 ≤ f ∧ f < nn D := by
  rcases h with ⟨a, _⟩ | ⟨_, a, _⟩ <;> exact ⟨a.1, a.2.1⟩
theorem next_rng {D : Dat} {p f u d : Int} (h : nextE D p f u d) : 0 ≤ u ∧ u < nn D := by
  rcases h.2 with ⟨a, _⟩ | ⟨_, a, _⟩ <;> exact ⟨a.1, a.2.1⟩
theorem ahead_w {D : Dat} (ok : DOk D) {i r : MI} {S : RS} {p u : Int} {Q : MI → Prop} (h : NV D i) (g : GrC D i S) (hu : 0 ≤ u ∧ u < nn D) (hp : 0 ≤ p ∧ p < 8) (hus : usv D u p) (hQ : ∀ i', FG i i' → GrC D i' (orS S (ahR D p u)) → Q i') : wp_X2_joinMakerAhead p u i r Q := by
  have hn := nn_le ok
  have fin : ∀ m d, makeE D p m u d → m ≠ -1 → s31_X2_joinMakerAhead u d m i r Q := by
    intro m d hm hne
    have hmr := make_rng hm
    unfold s31_X2_joinMakerAhead s52_X2_joinMakerAhead
    refine ⟨fun z => absurd z hne, fun _ => cyc_w ok h hmr ?_⟩
    refine put_w ok g ⟨hmr.1, hmr.2, hu.1, hu.2, .inr (.inl ⟨p, hp.1, hp.2, hus, hm, rfl⟩)⟩ (fun i' f gr => hQ i' f (gr.iff (fun a b c x => or_congr Iff.rfl ?_)))
    constructor
    · rintro ⟨rfl, rfl, rfl, rfl⟩; exact ⟨rfl, hm, rfl⟩
    · rintro ⟨rfl, h2, rfl⟩
      have ea : a = m := by
        rcases hm with ⟨q, q2⟩ | ⟨q, q2, q3⟩ <;> rcases h2 with ⟨z, z2⟩ | ⟨z, z2, z3⟩
        · exact prev_uniq z q
        · exact absurd z (fun w => prev_no q w)
        · exact absurd q (fun w => prev_no z w)
        · exact prev_uniq z2 q2
      subst ea
      exact ⟨rfl, rfl, makeE_uniq h2 hm, rfl⟩
  unfold wp_X2_joinMakerAhead
  refine lastM_w ok h ⟨hu.1, by omega⟩ (fun m hm => ⟨fun z => by have := hm.1; omega, fun _ => fin m 0 (.inl ⟨hm, rfl⟩) (by have := hm.1; omega)⟩) (fun hno => ⟨fun _ => ?_, fun z => absurd rfl z⟩)
  rw [h.n]
  refine lastM_w ok h ⟨by omega, by omega⟩ (fun m hm => fin m 1 (.inr ⟨hno, hm, rfl⟩) (by have := hm.1; omega)) (fun hno2 => ?_)
  unfold s31_X2_joinMakerAhead s52_X2_joinMakerAhead
  refine ⟨fun _ => hQ i (FG.refl i) (g.iff (fun a b c x => ⟨fun z => .inl z, fun z => ?_⟩)), fun z => absurd rfl z⟩
  rcases z with z | ⟨rfl, ⟨z, _⟩ | ⟨_, z, _⟩, _⟩
  · exact z
  · exact absurd hno (fun w => prev_no z w)
  · exact absurd hno2 (fun w => prev_no z w)
theorem behind_w {D : Dat} (ok : DOk D) {i r : MI} {S : RS} {p a : Int} {Q : MI → Prop} (h : NV D i) (g : GrC D i S) (ha : 0 ≤ a ∧ a < nn D) (hp : 0 ≤ p ∧ p < 8) (hQ : ∀ i', FG i i' → GrC D i' (orS S (beR D p a)) → Q i') : wp_X2_joinMakerBehind p a i r Q := by
  have hn := nn_le ok
  have ca := cyv_r ok ha
  have none : (∀ t d, ¬ nextE D p a t d) → Q i := by
    intro hno
    refine hQ i (FG.refl i) (g.iff (fun f t d w => ⟨fun z => .inl z, fun z => ?_⟩))
    rcases z with z | ⟨_, z, _⟩
    · exact z
    · exact absurd z (hno _ _)
  have fin : ∀ m d, nextE D p a m d → s28_X2_joinMakerBehind p a d m i r Q := by
    intro m d hm
    have hmr := next_rng hm
    have cm := cyv_r ok hmr
    unfold s28_X2_joinMakerBehind s40_X2_joinMakerBehind
    refine ⟨fun z => by omega, fun _ => ⟨fun z => absurd z.symm hm.1, fun _ => cyc_w ok h hmr ⟨by omega, ?_⟩⟩⟩
    rw [wr_of (x := 1 - cyv D m) (by omega) (by omega)]
    have last : ∀ (i2 : MI) (T : RS), FG i i2 → GrC D i2 T → (∀ f t d' w, orS T (fun f t d' w => mkv D a = p ∧ oneR a m d (1 - cyv D m + cyv D a) f t d' w) f t d' w ↔ orS S (beR D p a) f t d' w) → s75_X2_joinMakerBehind p a d m (1 - cyv D m) i2 r Q := by
      intro i2 T f2 g2 hT
      have h2 := h.fg ok f2
      unfold s75_X2_joinMakerBehind s105_X2_joinMakerBehind
      rw [h2.mk8 ha]
      refine ⟨by omega, fun e => cyc_w ok h2 ha ?_, fun e => hQ i2 f2 (g2.iff (fun f t d' w => ?_))⟩
      · rw [wr_of (by omega) (by omega)]
        refine put_w ok g2 ⟨ha.1, ha.2, hmr.1, hmr.2, .inr (.inr (.inl ⟨p, hp.1, hp.2, hm, .inr ⟨e, rfl⟩⟩))⟩ (fun i' f gr => hQ i' (f2.trans f) (gr.iff (fun f t d' w => ?_)))
        rw [← hT]
        exact or_congr Iff.rfl ⟨fun z => ⟨e, z⟩, fun z => z.2⟩
      · rw [← hT]
        exact ⟨fun z => .inl z, fun z => z.elim id (fun y => absurd y.1 e)⟩
    have both : ∀ f t d' w, beR D p a f t d' w ↔ (usv D a p ∧ oneR a m d (1 - cyv D m) f t d' w) ∨ (mkv D a = p ∧ oneR a m d (1 - cyv D m + cyv D a) f t d' w) := by
      intro f t d' w
      constructor
      · rintro ⟨rfl, h2, h3⟩
        obtain ⟨rfl, rfl⟩ := nextE_uniq h2 hm
        rcases h3 with ⟨u, rfl⟩ | ⟨u, rfl⟩
        · exact .inl ⟨u, rfl, rfl, rfl, rfl⟩
        · exact .inr ⟨u, rfl, rfl, rfl, rfl⟩
      · rintro (⟨u, rfl, rfl, rfl, rfl⟩ | ⟨u, rfl, rfl, rfl, rfl⟩)
        · exact ⟨rfl, hm, .inl ⟨u, rfl⟩⟩
        · exact ⟨rfl, hm, .inr ⟨u, rfl⟩⟩
    refine using_w h ha (fun u => ⟨fun z => absurd z (by decide), fun _ => ?_⟩) (fun u => ⟨fun _ => ?_, fun z => absurd rfl z⟩)
    · refine put_w ok g ⟨ha.1, ha.2, hmr.1, hmr.2, .inr (.inr (.inl ⟨p, hp.1, hp.2, hm, .inl ⟨u, rfl⟩⟩))⟩ (fun i' f gr => last i' _ f gr (fun f t d' w => ?_))
      unfold orS
      rw [both, or_assoc]
      exact or_congr Iff.rfl (or_congr ⟨fun z => ⟨u, z⟩, fun z => z.2⟩ Iff.rfl)
    · refine last i S (FG.refl i) g (fun f t d' w => ?_)
      unfold orS
      rw [both]
      exact or_congr Iff.rfl ⟨fun z => .inr z, fun z => z.elim (fun y => absurd y.1 u) id⟩
  unfold wp_X2_joinMakerBehind
  refine nextM_w ok h ⟨by omega, ha.2⟩ (fun m hm => ⟨fun z => by have := hm.1; omega, fun _ => fin m 0 ⟨by have := hm.2.2.1; omega, .inl ⟨hm, rfl⟩⟩⟩) (fun hno => ⟨fun _ => ?_, fun z => absurd rfl z⟩)
  refine nextM_w ok h ⟨by omega, by omega⟩ (fun m hm => ?_) (fun hno2 => ?_)
  · by_cases e : m = a
    · unfold s28_X2_joinMakerBehind s40_X2_joinMakerBehind
      refine ⟨fun z => by omega, fun _ => ⟨fun _ => none (fun t d hq => ?_), fun z => absurd e z⟩⟩
      rcases hq.2 with ⟨z, _⟩ | ⟨_, z, _⟩
      · exact next_no z hno
      · exact hq.1 (by rw [← e]; exact next_uniq hm z)
    · exact fin m 1 ⟨fun z => e z.symm, .inr ⟨hno, hm, rfl⟩⟩
  · unfold s28_X2_joinMakerBehind s40_X2_joinMakerBehind
    refine ⟨fun _ => none (fun t d hq => ?_), fun z => absurd rfl z⟩
    rcases hq.2 with ⟨z, _⟩ | ⟨_, z, _⟩
    · exact next_no z hno
    · exact next_no z hno2
