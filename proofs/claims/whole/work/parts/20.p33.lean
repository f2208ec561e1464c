def regR (D : Dat) (p n : Int) : RS := fun f t d w => (0 ≤ t ∧ t < n ∧ usv D t p ∧ makeE D p f t d ∧ w = cyv D f) ∨ (0 ≤ f ∧ f < n ∧ nextE D p f t d ∧ ((usv D f p ∧ w = 1 - cyv D t) ∨ (mkv D f = p ∧ w = 1 - cyv D t + cyv D f)))
theorem regR_step {D : Dat} {p n : Int} (h0 : 0 ≤ n) : ∀ f t d w, regR D p (n + 1) f t d w ↔ regR D p n f t d w ∨ ((usv D n p ∧ ahR D p n f t d w) ∨ ((usv D n p ∨ mkv D n = p) ∧ beR D p n f t d w)) := by
  intro f t d w
  constructor
  · rintro (⟨a, b, c, e, g⟩ | ⟨a, b, c, e⟩)
    · by_cases q : t = n
      · subst q; exact .inr (.inl ⟨c, rfl, e, g⟩)
      · exact .inl (.inl ⟨a, by omega, c, e, g⟩)
    · by_cases q : f = n
      · subst q
        refine .inr (.inr ⟨?_, rfl, c, e⟩)
        rcases e with ⟨u, _⟩ | ⟨u, _⟩
        · exact .inl u
        · exact .inr u
      · exact .inl (.inr ⟨a, by omega, c, e⟩)
  · rintro ((⟨a, b, c, e, g⟩ | ⟨a, b, c, e⟩) | ⟨u, rfl, e, g⟩ | ⟨u, rfl, c, e⟩)
    · exact .inl ⟨a, by omega, c, e, g⟩
    · exact .inr ⟨a, by omega, c, e⟩
    · exact .inl ⟨h0, by omega, u, e, g⟩
    · exact .inr ⟨h0, by omega, c, e⟩
theorem joinReg_w {D : Dat} (ok : DOk D) {i r : MI} {S : RS} {p : Int} {Q : MI → Prop} (h : NV D i) (g : GrC D i S) (hp : 0 ≤ p ∧ p < 8) (hQ : ∀ i', FG i i' → GrC D i' (orS S (regR D p (nn D))) → Q i') : wp_X2_joinRegister p i r Q := by
  have hn := nn_le ok
  unfold wp_X2_joinRegister
  have body : Lp (b13_X2_joinRegister p r Q) (0, i) := by
    refine Lp.r2 (fun (x : Int) (m : MI) => 0 ≤ x ∧ x ≤ nn D ∧ FG i m ∧ GrC D m (orS S (regR D p x))) (fun x _ => (nn D - x).toNat) ?_ ⟨by decide, hn.1, FG.refl i, g.iff (fun f t d w => ⟨fun z => .inl z, fun z => z.elim id (fun y => by rcases y with ⟨a, b, _⟩ | ⟨a, b, _⟩ <;> omega)⟩)⟩
    intro x m C ⟨h0, h1, h2, h3⟩ hC
    dsimp only [b13_X2_joinRegister]
    have hm := h.fg ok h2
    rw [hm.n]
    refine ⟨fun q => hQ m h2 ?_, fun q => ⟨by omega, ?_⟩⟩
    · have e : x = nn D := by omega
      rw [e] at h3; exact h3
    · have hx : 0 ≤ x ∧ x < nn D := ⟨h0, by omega⟩
      have nxt : ∀ m', FG m m' → GrC D m' (orS (orS S (regR D p x)) (fun f t d w => (usv D x p ∧ ahR D p x f t d w) ∨ ((usv D x p ∨ mkv D x = p) ∧ beR D p x f t d w))) → C (wr (x + 1), m') := by
        intro m' f' g'
        rw [wr_of (by omega) (by omega)]
        refine hC _ _ ⟨by omega, by omega, h2.trans f', g'.iff (fun f t d w => ?_)⟩ (by omega)
        unfold orS
        rw [regR_step h0, or_assoc]
      have mb : ∀ (m' : MI) (T : RS) (x4 : Int), FG m m' → GrC D m' T → (∀ f t d w, orS T (beR D p x) f t d w ↔ orS (orS S (regR D p x)) (fun f t d w => (usv D x p ∧ ahR D p x f t d w) ∨ ((usv D x p ∨ mkv D x = p) ∧ beR D p x f t d w)) f t d w) → s75_X2_joinRegister p x m' r Q C := by
        intro m' T x4 f' g' hT
        unfold s75_X2_joinRegister s82_X2_joinRegister
        exact behind_w ok (hm.fg ok f') g' hx hp (fun m2 f2 g2 => nxt m2 (f'.trans f2) (g2.iff hT))
      have go : ∀ k0 : Int, (k0 = 0 ↔ ¬ mkv D x = p) → ∀ x4 : Int, (x4 = 0 ↔ ¬ usv D x p) → s51_X2_joinRegister p x x4 k0 m r Q C := by
        intro k0 hk0 x4 hx4
        unfold s51_X2_joinRegister s65_X2_joinRegister
        refine ⟨fun z => ⟨fun _ => ⟨fun z2 => ?_, fun z2 => ?_⟩, fun z2 => absurd z z2⟩, fun z => ?_⟩
        · have nu := hx4.1 z
          have nm := hk0.1 z2
          unfold s82_X2_joinRegister
          refine nxt m (FG.refl m) (h3.iff (fun f t d w => ⟨fun y => .inl y, fun y => y.elim id (fun y => ?_)⟩))
          rcases y with ⟨u, _⟩ | ⟨u | u, _⟩
          · exact absurd u nu
          · exact absurd u nu
          · exact absurd u nm
        · have nu := hx4.1 z
          have mk : mkv D x = p := Classical.byContradiction (fun w => z2 (hk0.2 w))
          refine mb m _ 0 (FG.refl m) h3 (fun f t d w => or_congr Iff.rfl ⟨fun y => .inr ⟨.inr mk, y⟩, fun y => ?_⟩)
          rcases y with ⟨u, _⟩ | ⟨_, y⟩
          · exact absurd u nu
          · exact y
        · have u : usv D x p := Classical.byContradiction (fun w => z (hx4.2 w))
          refine ahead_w ok hm h3 hx hp u (fun m2 f2 g2 => ⟨fun z2 => absurd z2 z, fun _ => ?_⟩)
          refine mb m2 _ 0 f2 g2 (fun f t d w => ?_)
          unfold orS
          rw [or_assoc]
          exact or_congr Iff.rfl (or_congr ⟨fun y => ⟨u, y⟩, fun y => y.2⟩ ⟨fun y => ⟨.inl u, y⟩, fun y => y.2⟩)
      have tail : ∀ x4 : Int, (x4 = 0 ↔ ¬ usv D x p) → ((0 ≤ x ∧ x < 96) ∧ ((m (72 + x) 8 = p → s51_X2_joinRegister p x x4 1 m r Q C) ∧ (¬ m (72 + x) 8 = p → s51_X2_joinRegister p x x4 0 m r Q C))) := by
        intro x4 hx4
        rw [hm.mk8 hx]
        exact ⟨by omega, fun e => go 1 ⟨fun z => absurd z (by decide), fun z => absurd e z⟩ x4 hx4, fun e => go 0 ⟨fun _ => e, fun _ => rfl⟩ x4 hx4⟩
      exact using_w hm hx (fun u => tail 1 ⟨fun z => absurd z (by decide), fun z => absurd u z⟩) (fun u => tail 0 ⟨fun _ => u, fun _ => rfl⟩)
  refine nextM_w ok h ⟨by omega, by omega⟩ (fun m hm => ⟨fun z => by have := hm.1; omega, fun _ => body⟩) (fun hno => ⟨fun _ => hQ i (FG.refl i) (g.iff (fun f t d w => ⟨fun z => .inl z, fun z => z.elim id (fun y => ?_)⟩)), fun z => absurd rfl z⟩)
  have nomk : ∀ k, 0 ≤ k → k < nn D → mkv D k ≠ p := fun k a b => hno k a (by omega) b
  rcases y with ⟨a, b, c, e, _⟩ | ⟨a, b, c, _⟩
  · rcases e with ⟨z, _⟩ | ⟨_, z, _⟩
    · exact absurd z.2.2.2.1 (nomk f z.1 z.2.1)
    · exact absurd z.2.2.2.1 (nomk f z.1 z.2.1)
  · rcases c.2 with ⟨z, _⟩ | ⟨_, z, _⟩
    · exact absurd z.2.2.2.1 (nomk t z.1 z.2.1)
    · exact absurd z.2.2.2.1 (nomk t z.1 z.2.1)
def wiR (D : Dat) (n : Int) : RS := fun f t d w => 0 ≤ f ∧ 0 ≤ t ∧ t < n ∧ withE D f t ∧ d = 0 ∧ w = cyv D f
theorem g_neg {D : Dat} {v : Int} {x : Int × Int} (hv : 0 ≤ v) : -2 ≤ g1N D v x ∧ g1N D v x < v ∧ -1 ≤ g2N D v x ∧ g2N D v x < v := by
  unfold g1N g2N
  repeat' split
  all_goals omega
theorem g_ok {D : Dat} (ok : DOk D) {v : Int} (h : 0 ≤ v ∧ v < nn D) : (g1N D v (nd D v) = -1 ∨ 0 ≤ g1N D v (nd D v)) ∧ g1N D v (nd D v) < v ∧ (g2N D v (nd D v) = -1 ∨ 0 ≤ g2N D v (nd D v)) ∧ g2N D v (nd D v) < v := by
  obtain ⟨p1, p2, p3, p4⟩ := nd_prev ok h
  have := g_neg (D := D) (x := nd D v) h.1
  refine ⟨?_, this.2.1, by omega, this.2.2.2⟩
  unfold g1N
  by_cases e2 : (nd D v).2 = 2
  · rw [if_pos e2]
    by_cases r1 : isRd (D.F (stK D (nd D v)) 1)
    · rw [if_pos r1]
      by_cases r2 : isRd (D.F (stK D (nd D v)) 2)
      · rw [if_pos r2]
        have := ((p1 e2 r2).2.2 r1).1
        omega
      · rw [if_neg r2]
        have := (p2 e2 r2 r1).1
        omega
    · rw [if_neg r1]; omega
  · rw [if_neg e2]
    split
    · split
      · rename_i e3 w
        by_cases o : D.O (stK D (nd D v)) = 32
        · have := (p4 e3 o (w.resolve_left (fun z => z o))).1; omega
        · have := (p3 e3 o).1; omega
      · omega
    · omega
theorem giver_w {D : Dat} (ok : DOk D) {i r : MI} {S : RS} {f t : Int} {Q : MI → Prop} (h : NV D i) (g : GrC D i S) (ht : 0 ≤ t ∧ t < nn D) (hw : withE D f t) (hf : f = -1 ∨ (0 ≤ f ∧ f < t)) (hQ : ∀ i', FG i i' → GrC D i' (orS S (fun a b c x => 0 ≤ f ∧ oneR f t 0 (cyv D f) a b c x)) → Q i') : wp_X2_joinGiver f t i r Q := by
  unfold wp_X2_joinGiver s17_X2_joinGiver
  refine ⟨fun e => hQ i (FG.refl i) (g.iff (fun a b c x => ⟨fun z => .inl z, fun z => z.elim id (fun y => by have := y.1; omega)⟩)), fun e => ?_⟩
  have hf2 : 0 ≤ f ∧ f < nn D := by omega
  refine cyc_w ok h hf2 ?_
  refine put_w ok g ⟨hf2.1, hf2.2, ht.1, ht.2, .inl ⟨hw, rfl, rfl⟩⟩ (fun i' fr gr => hQ i' fr (gr.iff (fun a b c x => or_congr Iff.rfl ⟨fun z => ⟨hf2.1, z⟩, fun z => z.2⟩)))
theorem within_w {D : Dat} (ok : DOk D) {i r : MI} {S : RS} {Q : MI → Prop} (h : NV D i) (g : GrC D i S) (hQ : ∀ i', FG i i' → GrC D i' (orS S (wiR D (nn D))) → Q i') : wp_X2_joinWithinStatements i r Q := by
  have hn := nn_le ok
  unfold wp_X2_joinWithinStatements
  refine Lp.r2 (fun (x : Int) (m : MI) => 0 ≤ x ∧ x ≤ nn D ∧ FG i m ∧ GrC D m (orS S (wiR D x))) (fun x _ => (nn D - x).toNat) ?_ ⟨by decide, hn.1, FG.refl i, g.iff (fun f t d w => ⟨fun z => .inl z, fun z => z.elim id (fun y => by obtain ⟨a, b, c, _⟩ := y; omega)⟩)⟩
  intro x m C ⟨h0, h1, h2, h3⟩ hC
  dsimp only [b2_X2_joinWithinStatements]
  have hm := h.fg ok h2
  rw [hm.n]
  refine ⟨fun q => hQ m h2 ?_, fun q => ⟨by omega, ?_⟩⟩
  · have e : x = nn D := by omega
    rw [e] at h3; exact h3
  · have hx : 0 ≤ x ∧ x < nn D := ⟨h0, by omega⟩
    have gk := g_ok ok hx
    rw [hm.a x 5 hx.1 hx.2 (by decide) (by decide)]
    show wp_X2_joinGiver (g1N D x (nd D x)) x m r _
    refine giver_w ok hm h3 hx (.inl rfl) (by omega) (fun m2 f2 g2 => ⟨by omega, ?_⟩)
    have hm2 := hm.fg ok f2
    rw [hm2.a x 6 hx.1 hx.2 (by decide) (by decide)]
    show wp_X2_joinGiver (g2N D x (nd D x)) x m2 r _
    refine giver_w ok hm2 g2 hx (.inr rfl) (by omega) (fun m3 f3 g3 => ?_)
    rw [wr_of (by omega) (by omega)]
    refine hC _ _ ⟨by omega, by omega, h2.trans (f2.trans f3), g3.iff (fun f t d w => ?_)⟩ (by omega)
    unfold orS
    rw [or_assoc, or_assoc]
    refine or_congr Iff.rfl ?_
    constructor
    · rintro (⟨a, b, c, e⟩ | ⟨a, rfl, rfl, rfl, rfl⟩ | ⟨a, rfl, rfl, rfl, rfl⟩)
      · exact ⟨a, b, by omega, e⟩
      · exact ⟨a, h0, by omega, .inl rfl, rfl, rfl⟩
      · exact ⟨a, h0, by omega, .inr rfl, rfl, rfl⟩
    · rintro ⟨a, b, c, e, k, l⟩
      by_cases z : t = x
      · subst z
        rcases e with e | e
        · exact .inr (.inl ⟨by rw [← e]; exact a, e, rfl, k, by rw [← e]; exact l⟩)
        · exact .inr (.inr ⟨by rw [← e]; exact a, e, rfl, k, by rw [← e]; exact l⟩)
      · exact .inl ⟨a, b, by omega, e, k, l⟩
