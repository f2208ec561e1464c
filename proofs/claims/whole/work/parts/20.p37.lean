theorem rls_sorted {D : Dat} {k : Int} : (rls D k).Pairwise (fun a b => a < b) := by
  unfold rls
  repeat' split
  all_goals decide
theorem role_lt {D : Dat} (ok : DOk D) {u v : Int} (hu : 0 ≤ u ∧ u < nn D) (hv : 0 ≤ v ∧ v < nn D) (e : (nd D u).1 = (nd D v).1) (h : u < v) : (nd D u).2 < (nd D v).2 := by
  obtain ⟨j, e1, h1, _⟩ := seg_of ok hu
  obtain ⟨l, e2, h2, _⟩ := seg_of ok hv
  have ek : stK D (nd D u) = stK D (nd D v) := by unfold stK; rw [e]
  rw [ek] at h1
  rw [e] at e1
  have hjl : j < l := by omega
  have hs := List.pairwise_iff_getElem.1 (rls_sorted (D := D) (k := stK D (nd D v))) j l (get_lt h1) (get_lt h2) hjl
  rw [List.getElem?_eq_getElem (get_lt h1)] at h1
  rw [List.getElem?_eq_getElem (get_lt h2)] at h2
  have e3 := Option.some.inj h1
  have e4 := Option.some.inj h2
  rw [e3, e4] at hs
  exact hs
/-- to which node a node gives: the next of its statement that operates or writes -/
theorem with_iff {D : Dat} (ok : DOk D) {v t : Int} (hv : 0 ≤ v ∧ v < nn D) (ht : 0 ≤ t ∧ t < nn D) : withE D v t ↔ (v < t ∧ (nd D v).1 = (nd D t).1 ∧ (nd D v).2 ≠ 3 ∧ ((nd D t).2 = 2 ∨ (nd D t).2 = 3) ∧ ∀ k, v < k → k < t → ¬ ((nd D k).2 = 2 ∨ (nd D k).2 = 3)) := by
  obtain ⟨p1, p2, p3, p4⟩ := nd_prev ok ht
  constructor
  · intro h
    have hr := with_role ok ht hv.1 h
    obtain ⟨h1, h2, h3, h4⟩ := hr
    rcases h4 with e | ⟨e, e2, r1, r2⟩
    · refine ⟨h1, ?_⟩
      have key : nd D v = ((nd D t).1, (nd D v).2) ∧ (nd D v).2 ≠ 3 := by
        rw [e]
        by_cases q : (nd D t).2 = 2
        · by_cases r2 : isRd (D.F (stK D (nd D t)) 2)
          · have := (p1 q r2).2.1; rw [this]; exact ⟨rfl, show (1 : Int) ≠ 3 by decide⟩
          · have r1 : isRd (D.F (stK D (nd D t)) 1) := by
              unfold withE at h
              have e2 : g2N D t (nd D t) = -1 := by unfold g2N; exact if_neg (fun z => r2 z.2)
              by_cases w : isRd (D.F (stK D (nd D t)) 1)
              · exact w
              · have e1 : g1N D t (nd D t) = -1 := by unfold g1N; rw [if_pos q]; exact if_neg w
                omega
            have := (p2 q r2 r1).2; rw [this]; exact ⟨rfl, show (0 : Int) ≠ 3 by decide⟩
        · have q3 : (nd D t).2 = 3 := by omega
          by_cases o : D.O (stK D (nd D t)) = 32
          · have r1 : isRd (D.F (stK D (nd D t)) 1) := by
              unfold withE at h
              have e2 : g2N D t (nd D t) = -1 := by unfold g2N; exact if_neg (fun z => q z.1)
              by_cases w : D.O (stK D (nd D t)) ≠ 32 ∨ isRd (D.F (stK D (nd D t)) 1)
              · exact w.resolve_left (fun z => z o)
              · have e1 : g1N D t (nd D t) = -1 := by unfold g1N; rw [if_neg q, if_pos q3]; exact if_neg w
                omega
            have := (p4 q3 o r1).2; rw [this]; exact ⟨rfl, show (0 : Int) ≠ 3 by decide⟩
          · have := (p3 q3 o).2; rw [this]; exact ⟨rfl, show (2 : Int) ≠ 3 by decide⟩
      refine ⟨by rw [key.1], key.2, h3, fun k a b => by omega⟩
    · have n1 := (p1 e2 r2).2.1
      have n2 := ((p1 e2 r2).2.2 r1).2
      rw [← e] at n2
      refine ⟨h1, by rw [n2], by rw [n2]; exact (show (0 : Int) ≠ 3 by decide), h3, fun k a b => ?_⟩
      have : k = t - 1 := by omega
      rw [this, n1]
      exact (show ¬ ((1 : Int) = 2 ∨ (1 : Int) = 3) by decide)
  · rintro ⟨h1, h2, h3, h4, h5⟩
    have hlt := role_lt ok hv ht h2 h1
    obtain ⟨_, _, _, _, v5⟩ := nd_ok ok hv
    have ek : stK D (nd D v) = stK D (nd D t) := by unfold stK; rw [h2]
    rw [ek] at v5
    have hv2 := rls_mem v5
    have idv : ∀ u q, 0 ≤ u → u < nn D → nd D u = ((nd D t).1, q) → (nd D v).2 = q → v = u := by
      intro u q u0 u1 e e2
      refine nd_inj hv ⟨u0, u1⟩ ?_
      rw [e, ← h2, ← e2]
    unfold withE g1N g2N
    rcases h4 with q | q
    · rw [if_pos q]
      by_cases r2 : isRd (D.F (stK D (nd D t)) 2)
      · obtain ⟨a, b, c⟩ := p1 q r2
        rcases hv2 with z | z | z | z | z
        · left
          obtain ⟨c1, c2⟩ := c z.2
          rw [if_pos z.2, if_pos r2]
          exact idv _ _ (by omega) (by omega) c2 z.1
        · right
          rw [if_pos ⟨q, r2⟩]
          exact idv _ _ (by omega) (by omega) b z.1
        · omega
        · omega
        · omega
      · rcases hv2 with z | z | z | z | z
        · left
          obtain ⟨c1, c2⟩ := p2 q r2 z.2
          rw [if_pos z.2, if_neg r2]
          exact idv _ _ (by omega) (by omega) c2 z.1
        · exact absurd z.2.2 r2
        · omega
        · omega
        · omega
    · rw [if_neg (by omega), if_pos q]
      left
      by_cases o : D.O (stK D (nd D t)) = 32
      · rcases hv2 with z | z | z | z | z
        · rw [if_pos (.inr z.2)]
          exact idv _ _ (by have := (p4 q o z.2).1; omega) (by omega) (p4 q o z.2).2 z.1
        · exact absurd o z.2.1
        · exact absurd o z.2
        · omega
        · omega
      · obtain ⟨a, b⟩ := p3 q o
        rw [if_pos (.inl o)]
        have no2 : ¬ v < t - 1 := fun w => h5 (t - 1) w (by omega) (by rw [b]; exact .inl rfl)
        omega
def wtR (D : Dat) (v : Int) : RS := fun f t d w => f = v ∧ 0 ≤ t ∧ t < nn D ∧ withE D v t ∧ d = 0 ∧ w = cyv D v
theorem mwithin_w {D : Dat} (ok : DOk D) {i r : MI} {S : RS} {v : Int} {Q : MI → Prop} (h : NW D i) (g : GrM D i S) (hv : 0 ≤ v ∧ v < nn D) (hQ : ∀ i', FJ i i' → GrM D i' (orS S (wtR D v)) → Q i') : wp_X12_within v i r Q := by
  have hn := nn_le ok
  have none : (∀ t, 0 ≤ t → t < nn D → ¬ withE D v t) → Q i := fun hno => hQ i (FJ.refl i) (g.iff (fun a b c x => ⟨fun z => .inl z, fun z => z.elim id (fun y => absurd y.2.2.2.1 (hno b y.2.1 y.2.2.1))⟩))
  have e15 : ∀ u, 0 ≤ u → u < nn D → i 515 u = (nd D u).1 := fun u a b => h.a u 515 a b (by decide) (by decide)
  have e16 : ∀ u, 0 ≤ u → u < nn D → i 516 u = (nd D u).2 := fun u a b => h.a u 516 a b (by decide) (by decide)
  unfold wp_X12_within
  rw [wr_of (by omega) (by omega)]
  refine Lp.r1 (fun (x : Int) => v < x ∧ x ≤ nn D ∧ (∀ k, v < k → k < x → (nd D v).1 = (nd D k).1 ∧ (¬ ((nd D k).2 = 2 ∨ (nd D k).2 = 3) ∨ (nd D v).2 = 3))) (fun x => (97 - x).toNat) ?_ ⟨by omega, by omega, fun k a b => by omega⟩
  intro x C ⟨g0, g1, g2⟩ hC
  dsimp only [b4_X12_within]
  unfold s86_X12_within
  rw [h.n]
  refine ⟨fun q => none (fun t t0 t1 z => ?_), fun q => ⟨by omega, by omega, ?_⟩⟩
  · obtain ⟨z1, z2, z3, z4, z5⟩ := (with_iff ok hv ⟨t0, t1⟩).1 z
    rcases (g2 t z1 (by omega)).2 with y | y
    · exact y z4
    · exact z3 y
  · have hx : 0 ≤ x ∧ x < nn D := ⟨by omega, by omega⟩
    rw [e15 x hx.1 hx.2, e15 v hv.1 hv.2, e16 x hx.1 hx.2]
    have step : (nd D v).1 = (nd D x).1 → (¬ ((nd D x).2 = 2 ∨ (nd D x).2 = 3) ∨ (nd D v).2 = 3) → s80_X12_within v x i r Q C := by
      intro z z2
      unfold s80_X12_within
      rw [wr_of (by omega) (by omega)]
      refine hC _ ⟨by omega, by omega, fun k a b => ?_⟩ (by omega)
      by_cases w : k = x
      · rw [w]; exact ⟨z, z2⟩
      · exact g2 k a (by omega)
    refine ⟨fun e => ⟨by omega, ?_⟩, fun e => none (fun t t0 t1 z => ?_)⟩
    · have hit : ((nd D x).2 = 2 ∨ (nd D x).2 = 3) → s47_X12_within v x i r Q C := by
        intro z
        unfold s47_X12_within s52_X12_within
        rw [e16 v hv.1 hv.2]
        refine ⟨fun w => absurd w (by decide), fun _ => ⟨by omega, fun w => step e.symm (.inr w), fun w => mcyc_w ok h hv ?_⟩⟩
        have hW : withE D v x := (with_iff ok hv hx).2 ⟨g0, e.symm, w, z, fun k a b => (g2 k a b).2.resolve_right w⟩
        refine mjoin_w ok g h.n ⟨hv.1, hv.2, hx.1, hx.2, .inl ⟨hW, rfl, rfl⟩⟩ (fun i' f gr => hQ i' f (gr.iff (fun a b c y => or_congr Iff.rfl ⟨?_, ?_⟩)))
        · rintro ⟨rfl, rfl, rfl, rfl⟩; exact ⟨rfl, hx.1, hx.2, hW, rfl, rfl⟩
        · rintro ⟨rfl, b0, b1, b2, rfl, rfl⟩
          exact ⟨rfl, with_uniq ok hv.1 ⟨b0, b1⟩ hx b2 hW, rfl, rfl⟩
      refine ⟨fun z => hit (.inl z), fun z => ⟨by omega, fun z2 => hit (.inr z2), fun z2 => ?_⟩⟩
      unfold s52_X12_within
      exact ⟨fun _ => step e.symm (.inl (by omega)), fun w => absurd rfl w⟩
    · obtain ⟨z1, z2, z3, z4, z5⟩ := (with_iff ok hv ⟨t0, t1⟩).1 z
      by_cases w : t < x
      · rcases (g2 t z1 w).2 with y | y
        · exact y z4
        · exact z3 y
      · -- between nodes of one statement stand nodes of it
        obtain ⟨j, a1, a2, as⟩ := seg_of ok hv
        obtain ⟨l, b1, b2, bsn⟩ := seg_of ok ⟨t0, t1⟩
        have ek : stK D (nd D v) = stK D (nd D t) := by unfold stK; rw [z2]
        rw [← z2] at b1 bsn
        rw [← ek] at b2
        have hlt := get_lt b2
        have hq : (x - bs D (nd D v).1).toNat < (rls D (stK D (nd D v))).length := by omega
        have := seg_at as (List.getElem?_eq_getElem hq)
        rw [show bs D (nd D v).1 + (((x - bs D (nd D v).1).toNat : Nat) : Int) = x by omega] at this
        exact e (by rw [this.1])
def fmR (D : Dat) (p u : Int) : RS := ahR D p u
theorem fromMaker_w {D : Dat} (ok : DOk D) {i r : MI} {S : RS} {p u : Int} {Q : MI → Prop} (h : NW D i) (g : GrM D i S) (hu : 0 ≤ u ∧ u < nn D) (hp : 0 ≤ p ∧ p < 8) (hus : usv D u p) (hQ : ∀ i', FJ i i' → GrM D i' (orS S (ahR D p u)) → Q i') : wp_X12_fromMaker u p i r Q := by
  have hn := nn_le ok
  unfold wp_X12_fromMaker
  refine Lp.r3 (fun (a b x : Int) => 0 ≤ x ∧ x ≤ nn D ∧ ((a = -1 ∧ ∀ k, 0 ≤ k → k < x → k < u → mkv D k ≠ p) ∨ (0 ≤ a ∧ a < x ∧ a < u ∧ mkv D a = p ∧ ∀ k, a < k → k < x → k < u → mkv D k ≠ p)) ∧ ((b = -1 ∧ ∀ k, 0 ≤ k → k < x → mkv D k ≠ p) ∨ (0 ≤ b ∧ b < x ∧ mkv D b = p ∧ ∀ k, b < k → k < x → mkv D k ≠ p))) (fun _ _ x => (nn D - x).toNat) ?_ ⟨by decide, hn.1, .inl ⟨rfl, fun k a b => by omega⟩, .inl ⟨rfl, fun k a b => by omega⟩⟩
  intro a b x C ⟨h0, h1, h2, h3⟩ hC
  dsimp only [b8_X12_fromMaker]
  unfold s107_X12_fromMaker
  rw [h.n]
  refine ⟨fun q => ?_, fun q => ⟨by omega, ?_⟩⟩
  · have ex : x = nn D := by omega
    subst ex
    have put : ∀ m d, makeE D p m u d → wp_X12_join m u d (cyv D m) i r Q := by
      intro m d hm
      have hmr := make_rng hm
      refine mjoin_w ok g h.n ⟨hmr.1, hmr.2, hu.1, hu.2, .inr (.inl ⟨p, hp.1, hp.2, hus, hm, rfl⟩)⟩ (fun i' f gr => hQ i' f (gr.iff (fun a b c x => or_congr Iff.rfl ?_)))
      constructor
      · rintro ⟨rfl, rfl, rfl, rfl⟩; exact ⟨rfl, hm, rfl⟩
      · rintro ⟨rfl, h2, rfl⟩
        have ea : a = m := by
          rcases hm with ⟨q, q2⟩ | ⟨q, q2, q3⟩ <;> rcases h2 with ⟨z, z2⟩ | ⟨z, z2, z3⟩
          · exact prev_uniq z q
          · exact absurd z (fun w => prev_no q w)
          · exact absurd q (fun w => prev_no z w)
          · exact prev_uniq z2 q2
        subst ea
        exact ⟨rfl, rfl, makeE_uniq h2 hm, rfl⟩
    refine ⟨fun ea => ⟨fun eb => ?_, fun eb => ?_⟩, fun ea => ?_⟩
    · rcases h3 with ⟨_, z⟩ | ⟨z, _⟩
      · refine hQ i (FJ.refl i) (g.iff (fun a b c x => ⟨fun z => .inl z, fun y => y.elim id (fun y => ?_)⟩))
        obtain ⟨_, y, _⟩ := y
        rcases y with ⟨y, _⟩ | ⟨_, y, _⟩
        · exact absurd y.2.2.2.1 (z _ y.1 y.2.1)
        · exact absurd y.2.2.2.1 (z _ y.1 y.2.1)
      · omega
    · rcases h3 with ⟨z, _⟩ | ⟨z1, z2, z3, z4⟩
      · exact absurd z eb
      · rcases h2 with ⟨_, y⟩ | ⟨y, _⟩
        · exact mcyc_w ok h ⟨z1, z2⟩ (put b 1 (.inr ⟨fun k k0 k1 k2 => y k k0 k2 k1, ⟨z1, z2, z2, z3, fun k k0 k1 k2 => z4 k k0 k1⟩, rfl⟩))
        · omega
    · rcases h2 with ⟨z, _⟩ | ⟨z1, z2, z3, z4, z5⟩
      · exact absurd z ea
      · exact mcyc_w ok h ⟨z1, z2⟩ (put a 0 (.inl ⟨⟨z1, z2, z3, z4, fun k k0 k1 k2 => z5 k k0 k2 k1⟩, rfl⟩))
  · have hx : 0 ≤ x ∧ x < nn D := ⟨h0, by omega⟩
    rw [h.mk9 hx]
    have w1 : wr (x + 1) = x + 1 := wr_of (by omega) (by omega)
    have keepA : (mkv D x ≠ p ∨ u ≤ x) → ((a = -1 ∧ ∀ k, 0 ≤ k → k < x + 1 → k < u → mkv D k ≠ p) ∨ (0 ≤ a ∧ a < x + 1 ∧ a < u ∧ mkv D a = p ∧ ∀ k, a < k → k < x + 1 → k < u → mkv D k ≠ p)) := by
      intro hh
      have key : ∀ k, k < x + 1 → k < u → (k < x → mkv D k ≠ p) → mkv D k ≠ p := by
        intro k k1 k2 k3
        by_cases e : k = x
        · rcases hh with y | y
          · rw [e]; exact y
          · omega
        · exact k3 (by omega)
      rcases h2 with ⟨z1, z2⟩ | ⟨z1, z2, z3, z4, z5⟩
      · exact .inl ⟨z1, fun k k0 k1 k2 => key k k1 k2 (fun k3 => z2 k k0 k3 k2)⟩
      · exact .inr ⟨z1, by omega, z3, z4, fun k k0 k1 k2 => key k k1 k2 (fun k3 => z5 k k0 k3 k2)⟩
    have s40 : ∀ a', ((a' = -1 ∧ ∀ k, 0 ≤ k → k < x + 1 → k < u → mkv D k ≠ p) ∨ (0 ≤ a' ∧ a' < x + 1 ∧ a' < u ∧ mkv D a' = p ∧ ∀ k, a' < k → k < x + 1 → k < u → mkv D k ≠ p)) → s40_X12_fromMaker u p b x a' i r Q C := by
      intro a' ha'
      unfold s40_X12_fromMaker s59_X12_fromMaker
      rw [h.mk9 hx, w1]
      refine ⟨by omega, fun e => hC _ _ _ ⟨by omega, by omega, ha', .inr ⟨h0, by omega, e, fun k k0 k1 => by omega⟩⟩ (by omega), fun e => hC _ _ _ ⟨by omega, by omega, ha', ?_⟩ (by omega)⟩
      rcases h3 with ⟨z1, z2⟩ | ⟨z1, z2, z3, z4⟩
      · refine .inl ⟨z1, fun k k0 k1 => ?_⟩
        by_cases w : k = x
        · rw [w]; exact e
        · exact z2 k k0 (by omega)
      · refine .inr ⟨z1, by omega, z3, fun k k0 k1 => ?_⟩
        by_cases w : k = x
        · rw [w]; exact e
        · exact z4 k k0 (by omega)
    unfold s39_X12_fromMaker
    refine ⟨fun e => ⟨fun e2 => s40 a (keepA (.inr e2)), fun e2 => s40 x (.inr ⟨h0, by omega, by omega, e, fun k k0 k1 => by omega⟩)⟩, fun e => s40 a (keepA (.inl e))⟩
def laR (D : Dat) (p a w0 : Int) : RS := fun f t d w => f = a ∧ nextE D p a t d ∧ w = w0 - cyv D t
theorem later_w {D : Dat} (ok : DOk D) {i r : MI} {S : RS} {p a w0 : Int} {Q : MI → Prop} (h : NW D i) (g : GrM D i S) (ha : 0 ≤ a ∧ a < nn D) (hp : 0 ≤ p ∧ p < 8) (hw : (usv D a p ∧ w0 = 1) ∨ (mkv D a = p ∧ w0 = 1 + cyv D a)) (hQ : ∀ i', FJ i i' → GrM D i' (orS S (laR D p a w0)) → Q i') : wp_X12_laterMakers a p w0 i r Q := by
  have hn := nn_le ok
  have ca := cyv_r ok ha
  unfold wp_X12_laterMakers
  rw [h.n, wr_of (by omega) (by omega)]
  refine Lp.r3 (fun (nx fs x : Int) => -1 ≤ x ∧ x < nn D ∧ ((nx = -1 ∧ ∀ k, x < k → k < nn D → a < k → mkv D k ≠ p) ∨ (x < nx ∧ nx < nn D ∧ a < nx ∧ mkv D nx = p ∧ ∀ k, x < k → k < nx → a < k → mkv D k ≠ p)) ∧ ((fs = -1 ∧ ∀ k, x < k → k < nn D → k ≠ a → mkv D k ≠ p) ∨ (x < fs ∧ fs < nn D ∧ fs ≠ a ∧ mkv D fs = p ∧ ∀ k, x < k → k < fs → k ≠ a → mkv D k ≠ p))) (fun _ _ x => (x + 1).toNat) ?_ ⟨by omega, by omega, .inl ⟨rfl, fun k _ _ => by omega⟩, .inl ⟨rfl, fun k _ _ => by omega⟩⟩
  intro nx fs x C ⟨h0, h1, h2, h3⟩ hC
  dsimp only [b14_X12_laterMakers]
  unfold s124_X12_laterMakers
  refine ⟨fun q => ?_, fun q => ⟨by omega, ?_⟩⟩
  · have ex : x = -1 := by omega
    subst ex
    have put : ∀ m d, nextE D p a m d → wp_X12_cyclesOf m i r (fun v35 => wp_X12_join a m d (wr (w0 - v35)) i r (fun i43 => Q i43)) := by
      intro m d hm
      have hmr := next_rng hm
      have cm := cyv_r ok hmr
      refine mcyc_w ok h hmr ?_
      rw [wr_of (by rcases hw with z | z <;> omega) (by rcases hw with z | z <;> omega)]
      refine mjoin_w ok g h.n ⟨ha.1, ha.2, hmr.1, hmr.2, .inr (.inr (.inl ⟨p, hp.1, hp.2, hm, ?_⟩))⟩ (fun i' f gr => hQ i' f (gr.iff (fun a' b c x => or_congr Iff.rfl ?_)))
      · rcases hw with z | z
        · exact .inl ⟨z.1, by omega⟩
        · exact .inr ⟨z.1, by omega⟩
      · constructor
        · rintro ⟨rfl, rfl, rfl, rfl⟩; exact ⟨rfl, hm, rfl⟩
        · rintro ⟨rfl, y, rfl⟩
          obtain ⟨rfl, rfl⟩ := nextE_uniq y hm
          exact ⟨rfl, rfl, rfl, rfl⟩
    refine ⟨fun ea => ⟨fun eb => ?_, fun eb => ?_⟩, fun ea => ?_⟩
    · rcases h3 with ⟨_, z⟩ | ⟨z, _⟩
      · refine hQ i (FJ.refl i) (g.iff (fun a' b c x => ⟨fun z => .inl z, fun y => y.elim id (fun y => ?_)⟩))
        obtain ⟨_, y, _⟩ := y
        obtain ⟨y0, y⟩ := y
        rcases y with ⟨y, _⟩ | ⟨_, y, _⟩
        · exact absurd y.2.2.2.1 (z _ (by have := y.1; omega) y.2.1 (fun w => y0 w.symm))
        · exact absurd y.2.2.2.1 (z _ (by have := y.1; omega) y.2.1 (fun w => y0 w.symm))
      · omega
    · rcases h3 with ⟨z, _⟩ | ⟨z1, z2, z3, z4, z5⟩
      · exact absurd z eb
      · rcases h2 with ⟨_, y⟩ | ⟨y, _⟩
        · refine put fs 1 ⟨fun w => z3 w.symm, .inr ⟨fun k k0 k1 k2 => y k (by omega) k2 k1, ⟨by omega, z2, by omega, z4, fun k k0 k1 k2 => ?_⟩, rfl⟩⟩
          by_cases w : k = a
          · intro mk
            -- the node itself ahead of the first other maker: then that one is behind it
            exact y fs (by omega) z2 (by omega) z4
          · exact z5 k (by omega) k2 w
        · omega
    · rcases h2 with ⟨z, _⟩ | ⟨z1, z2, z3, z4, z5⟩
      · exact absurd z ea
      · exact put nx 0 ⟨by omega, .inl ⟨⟨by omega, z2, z3, z4, fun k k0 k1 k2 => z5 k (by omega) k2 k1⟩, rfl⟩⟩
  · have hx : 0 ≤ x ∧ x < nn D := ⟨by omega, h1⟩
    rw [h.mk9 hx]
    have w1 : wr (x + (-1)) = x - 1 := by rw [wr_of (by omega) (by omega)]; omega
    have keepN : (mkv D x ≠ p ∨ x ≤ a) → ((nx = -1 ∧ ∀ k, x - 1 < k → k < nn D → a < k → mkv D k ≠ p) ∨ (x - 1 < nx ∧ nx < nn D ∧ a < nx ∧ mkv D nx = p ∧ ∀ k, x - 1 < k → k < nx → a < k → mkv D k ≠ p)) := by
      intro hh
      have key : ∀ k, x - 1 < k → a < k → (x < k → mkv D k ≠ p) → mkv D k ≠ p := by
        intro k k1 k2 k3
        by_cases e : k = x
        · rcases hh with y | y
          · rw [e]; exact y
          · omega
        · exact k3 (by omega)
      rcases h2 with ⟨z1, z2⟩ | ⟨z1, z2, z3, z4, z5⟩
      · exact .inl ⟨z1, fun k k0 k1 k2 => key k k0 k2 (fun k3 => z2 k k3 k1 k2)⟩
      · exact .inr ⟨by omega, z2, z3, z4, fun k k0 k1 k2 => key k k0 k2 (fun k3 => z5 k k3 k1 k2)⟩
    have s43 : ∀ n', ((n' = -1 ∧ ∀ k, x - 1 < k → k < nn D → a < k → mkv D k ≠ p) ∨ (x - 1 < n' ∧ n' < nn D ∧ a < n' ∧ mkv D n' = p ∧ ∀ k, x - 1 < k → k < n' → a < k → mkv D k ≠ p)) → s43_X12_laterMakers a p w0 fs x n' i r Q C := by
      intro n' hn'
      unfold s43_X12_laterMakers s67_X12_laterMakers s69_X12_laterMakers
      rw [h.mk9 hx, w1]
      have keepF : (mkv D x ≠ p ∨ x = a) → C (n', fs, x - 1) := by
        intro hh
        have key : ∀ k, x - 1 < k → k ≠ a → (x < k → mkv D k ≠ p) → mkv D k ≠ p := by
          intro k k1 k2 k3
          by_cases e : k = x
          · rcases hh with y | y
            · rw [e]; exact y
            · omega
          · exact k3 (by omega)
        refine hC _ _ _ ⟨by omega, by omega, hn', ?_⟩ (by omega)
        rcases h3 with ⟨z1, z2⟩ | ⟨z1, z2, z3, z4, z5⟩
        · exact .inl ⟨z1, fun k k0 k1 k2 => key k k0 k2 (fun k3 => z2 k k3 k1 k2)⟩
        · exact .inr ⟨by omega, z2, z3, z4, fun k k0 k1 k2 => key k k0 k2 (fun k3 => z5 k k3 k1 k2)⟩
      refine ⟨by omega, fun e => ⟨fun e2 => keepF (.inr e2), fun e2 => hC _ _ _ ⟨by omega, by omega, hn', .inr ⟨by omega, hx.2, e2, e, fun k k0 k1 => by omega⟩⟩ (by omega)⟩, fun e => keepF (.inl e)⟩
    unfold s41_X12_laterMakers
    refine ⟨fun e => ⟨fun e2 => s43 nx (keepN (.inr e2)), fun e2 => s43 x (.inr ⟨by omega, hx.2, by omega, e, fun k k0 k1 => by omega⟩)⟩, fun e => s43 nx (keepN (.inl e))⟩
