def chQ (D : Dat) (k n : Int) : RS := fun f t d w => 0 ≤ f ∧ f < nn D ∧ kdv D f = k ∧ isNextK D k f t ∧ t < n ∧ d = 0 ∧ w = 1
def chR (D : Dat) (k : Int) : RS := fun f t d w => 0 ≤ f ∧ f < nn D ∧ kdv D f = k ∧ chanE D f t d ∧ w = 1
theorem chan_w {D : Dat} (ok : DOk D) {i r : MI} {S : RS} {k : Int} {Q : MI → Prop} (h : NV D i) (g : GrC D i S) (hk : k = 5 ∨ k = 6) (hQ : ∀ i', FG i i' → GrC D i' (orS S (chR D k)) → Q i') : wp_X2_joinChannel k i r Q := by
  have hn := nn_le ok
  unfold wp_X2_joinChannel
  refine Lp.r4 (fun (a b x : Int) (m : MI) => 0 ≤ x ∧ x ≤ nn D ∧ FG i m ∧ GrC D m (orS S (chQ D k x)) ∧ ((a = -1 ∧ b = -1 ∧ ∀ j, 0 ≤ j → j < x → kdv D j ≠ k) ∨ (isNextK D k (-1) a ∧ 0 ≤ b ∧ b < x ∧ kdv D b = k ∧ ∀ j, b < j → j < x → kdv D j ≠ k))) (fun _ _ x _ => (nn D - x).toNat) ?_ ⟨by decide, hn.1, FG.refl i, g.iff (fun f t d w => ⟨fun z => .inl z, fun z => z.elim id (fun y => by have := y.2.2.2.1.1; have := y.2.2.2.2.1; omega)⟩), .inl ⟨rfl, rfl, fun j a b => by omega⟩⟩
  intro a b x m C ⟨h0, h1, h2, h3, h4⟩ hC
  dsimp only [b8_X2_joinChannel]
  have hm := h.fg ok h2
  rw [hm.n]
  refine ⟨fun q => ?_, fun q => ⟨by omega, ?_⟩⟩
  · have ex : x = nn D := by omega
    subst ex
    unfold s78_X2_joinChannel
    refine ⟨fun e => hQ m h2 (h3.iff (fun f t d w => or_congr Iff.rfl ?_)), fun e => ?_⟩
    · constructor
      · rintro ⟨c1, c2, c3, c4, c5, rfl, rfl⟩
        exact ⟨c1, c2, c3, ⟨by have := c4.2.2.1; omega, by omega, by rw [c3]; exact c4.2.2.2.1.symm, .inl ⟨by rw [c3]; exact c4, rfl⟩⟩, rfl⟩
      · rintro ⟨c1, c2, c3, ⟨n1, n2, n3, n4⟩, c5⟩
        rw [c3] at n4
        rcases n4 with ⟨n5, n6⟩ | ⟨n5, n6, n7⟩
        · exact ⟨c1, c2, c3, n5, n5.2.1, n6, c5⟩
        · exfalso
          rcases h4 with ⟨_, _, z⟩ | ⟨z1, z2, z3, z4, z5⟩
          · exact z f c1 c2 c3
          · have e1 : t = a := nextK_uniq n6 z1
            have e2 : f = b := by
              rcases Int.lt_trichotomy f b with y | y | y
              · exact absurd z4 (n5 b z2 y z3)
              · exact y
              · exact absurd c3 (z5 f y c2)
            exact n1 (by rw [e1, e2]; exact e)
    · rcases h4 with ⟨z1, z2, _⟩ | ⟨z1, z2, z3, z4, z5⟩
      · omega
      · have ne : noNextK D k b := fun j j0 j1 j2 => z5 j j1 j2
        have hE : chanE D b a 1 := ⟨e, by omega, by rw [z4]; exact z1.2.2.2.1.symm, .inr ⟨by rw [z4]; exact ne, by rw [z4]; exact z1, rfl⟩⟩
        refine put_w ok h3 ⟨z2, z3, z1.1, z1.2.1, .inr (.inr (.inr (.inr ⟨hE, rfl⟩)))⟩ (fun i' f gr => hQ i' (h2.trans f) (gr.iff (fun f t d w => ?_)))
        unfold orS
        rw [or_assoc]
        refine or_congr Iff.rfl ?_
        constructor
        · rintro (⟨c1, c2, c3, c4, c5, rfl, rfl⟩ | ⟨rfl, rfl, rfl, rfl⟩)
          · exact ⟨c1, c2, c3, ⟨by have := c4.2.2.1; omega, by omega, by rw [c3]; exact c4.2.2.2.1.symm, .inl ⟨by rw [c3]; exact c4, rfl⟩⟩, rfl⟩
          · exact ⟨z2, z3, z4, hE, rfl⟩
        · rintro ⟨c1, c2, c3, ⟨n1, n2, n3, n4⟩, c5⟩
          rw [c3] at n4
          rcases n4 with ⟨n5, n6⟩ | ⟨n5, n6, n7⟩
          · exact .inl ⟨c1, c2, c3, n5, n5.2.1, n6, c5⟩
          · have e1 : t = a := nextK_uniq n6 z1
            have e2 : f = b := by
              rcases Int.lt_trichotomy f b with y | y | y
              · exact absurd z4 (n5 b z2 y z3)
              · exact y
              · exact absurd c3 (z5 f y c2)
            exact .inr ⟨e2, e1, n7, c5⟩
  · have hx : 0 ≤ x ∧ x < nn D := ⟨h0, by omega⟩
    rw [hm.kd hx]
    have w1 : wr (x + 1) = x + 1 := wr_of (by omega) (by omega)
    unfold s53_X2_joinChannel s57_X2_joinChannel
    rw [w1]
    refine ⟨fun ek => ⟨fun eb => ?_, fun eb => ?_⟩, fun ek => ?_⟩
    · rcases h4 with ⟨z1, z2, z3⟩ | ⟨z1, z2, _⟩
      · have fst : isNextK D k (-1) x := ⟨h0, hx.2, by omega, ek, fun j a b c => z3 j a c⟩
        refine hC _ _ _ _ ⟨by omega, by omega, h2, h3.iff (fun f t d w => or_congr Iff.rfl ⟨fun y => ⟨y.1, y.2.1, y.2.2.1, y.2.2.2.1, by have := y.2.2.2.2.1; omega, y.2.2.2.2.2⟩, fun y => ?_⟩), .inr ⟨fst, h0, by omega, ek, fun j a b => by omega⟩⟩ (by omega)
        obtain ⟨y1, y2, y3, y4, y5, y6⟩ := y
        exfalso
        have := y4.2.2.1
        exact z3 f y1 (by omega) y3
      · omega
    · rcases h4 with ⟨z1, z2, z3⟩ | ⟨z1, z2, z3, z4, z5⟩
      · exact absurd z2 eb
      · have nk : isNextK D k b x := ⟨h0, hx.2, z3, ek, fun j a c d => z5 j c d⟩
        have hE : chanE D b x 0 := ⟨by omega, by omega, by omega, .inl ⟨by rw [z4]; exact nk, rfl⟩⟩
        refine put_w ok h3 ⟨z2, by omega, hx.1, hx.2, .inr (.inr (.inr (.inr ⟨hE, rfl⟩)))⟩ (fun i' f gr => ?_)
        refine hC _ _ _ _ ⟨by omega, by omega, h2.trans f, gr.iff (fun f t d w => ?_), .inr ⟨z1, h0, by omega, ek, fun j a b => by omega⟩⟩ (by omega)
        unfold orS
        rw [or_assoc]
        refine or_congr Iff.rfl ?_
        constructor
        · rintro (⟨c1, c2, c3, c4, c5, c6⟩ | ⟨rfl, rfl, rfl, rfl⟩)
          · exact ⟨c1, c2, c3, c4, by omega, c6⟩
          · exact ⟨z2, by omega, z4, nk, by omega, rfl, rfl⟩
        · rintro ⟨c1, c2, c3, c4, c5, c6, c7⟩
          by_cases et : t = x
          · subst et
            have e2 : f = b := by
              rcases Int.lt_trichotomy f b with y | y | y
              · exact absurd z4 (c4.2.2.2.2 b z2 y z3)
              · exact y
              · exact absurd c3 (z5 f y c4.2.2.1)
            exact .inr ⟨e2, rfl, c6, c7⟩
          · exact .inl ⟨c1, c2, c3, c4, by omega, c6, c7⟩
    · have low : ∀ t : Int, t < x + 1 → kdv D t = k → t < x := fun t a b => by
        by_cases et : t = x
        · rw [et] at b; exact absurd b ek
        · omega
      refine hC _ _ _ _ ⟨by omega, by omega, h2, h3.iff (fun f t d w => or_congr Iff.rfl ⟨fun y => ⟨y.1, y.2.1, y.2.2.1, y.2.2.2.1, by have := y.2.2.2.2.1; omega, y.2.2.2.2.2⟩, fun y => ⟨y.1, y.2.1, y.2.2.1, y.2.2.2.1, low t y.2.2.2.2.1 y.2.2.2.1.2.2.2.1, y.2.2.2.2.2⟩⟩), ?_⟩ (by omega)
      rcases h4 with ⟨z1, z2, z3⟩ | ⟨z1, z2, z3, z4, z5⟩
      · refine .inl ⟨z1, z2, fun j a b => ?_⟩
        by_cases et : j = x
        · rw [et]; exact ek
        · exact z3 j a (by omega)
      · refine .inr ⟨z1, z2, by omega, z4, fun j a b => ?_⟩
        by_cases et : j = x
        · rw [et]; exact ek
        · exact z5 j a (by omega)
/-- the class's graph holds the body's edges -/
def M2 (D : Dat) (i : MI) : Prop := GrC D i (Raw D)
theorem join_w {D : Dat} (ok : DOk D) {i r : MI} {Q : MI → Prop} (h : NV D i) (hQ : ∀ i', FG i i' → M2 D i' → Q i') : wp_X2_join D.fac i r Q := by
  have hn := nn_le ok
  unfold wp_X2_join
  refine Lp.r2 (fun (x : Int) (m : MI) => 0 ≤ x ∧ x ≤ 96 ∧ FG i m ∧ m 168 4 = 0 ∧ ∀ f, 0 ≤ f → f < x → m 460 f = 0) (fun x _ => (96 - x).toNat) ?_ ⟨by decide, by decide, fun a x y z => st_row x, st_eq, fun f a b => by omega⟩
  intro x m C ⟨h0, h1, h2, h3, h4⟩ hC
  dsimp only [b7_X2_join]
  refine ⟨fun q => ?_, fun q => ⟨⟨h0, by omega⟩, ?_⟩⟩
  · have hm := h.fg ok h2
    have z460 : ∀ f, 0 ≤ f → f < 96 → m 460 f = 0 := fun f a b => h4 f a (by omega)
    have g0 : GrC D m noR := by
      refine ⟨fun f a b => by rw [z460 f a b]; omega, fun f e a b c d => by rw [z460 f a b] at d; omega, fun f t d w z => absurd z id, fun f e e' a b c d => by rw [z460 f a b] at d; omega, fun f t d w z => absurd z id, ⟨[], List.nodup_nil, fun x => by simp [noR], by rw [h3]; rfl⟩⟩
    refine within_w ok hm g0 (fun i1 f1 g1 => ?_)
    refine Lp.r2 (fun (x : Int) (m' : MI) => 0 ≤ x ∧ x ≤ 8 ∧ FG i m' ∧ GrC D m' (orS (orS noR (wiR D (nn D))) (fun f t d w => ∃ p, 0 ≤ p ∧ p < x ∧ regR D p (nn D) f t d w))) (fun x _ => (8 - x).toNat) ?_ ⟨by decide, by decide, h2.trans f1, g1.iff (fun f t d w => ⟨fun z => .inl z, fun z => z.elim id (fun y => by obtain ⟨p, a, b, _⟩ := y; omega)⟩)⟩
    intro x m2 C2 ⟨k0, k1, k2, k3⟩ hC2
    dsimp only [b33_X2_join]
    have hm2 := h.fg ok k2
    refine ⟨fun q2 => ?_, fun q2 => ?_⟩
    · have ex : x = 8 := by omega
      subst ex
      refine Lp.r2 (fun (y : Int) (m' : MI) => 0 ≤ y ∧ y ≤ 2 ∧ FG i m' ∧ GrC D m' (orS (orS (orS noR (wiR D (nn D))) (fun f t d w => ∃ p, 0 ≤ p ∧ p < 8 ∧ regR D p (nn D) f t d w)) (fun f t d w => ∃ k, 3 ≤ k ∧ k < 3 + y ∧ meR D k (nn D) f t d w))) (fun y _ => (2 - y).toNat) ?_ ⟨by decide, by decide, k2, k3.iff (fun f t d w => ⟨fun z => .inl z, fun z => z.elim id (fun y => by obtain ⟨p, a, b, _⟩ := y; omega)⟩)⟩
      intro y m3 C3 ⟨j0, j1, j2, j3⟩ hC3
      dsimp only [b53_X2_join]
      have hm3 := h.fg ok j2
      refine ⟨fun q3 => ?_, fun q3 => ?_⟩
      · have ey : y = 2 := by omega
        subst ey
        refine chan_w ok hm3 j3 (.inl rfl) (fun i5 f5 g5 => ?_)
        refine chan_w ok (hm3.fg ok f5) g5 (.inr rfl) (fun i6 f6 g6 => hQ i6 ((j2.trans f5).trans f6) (g6.iff (fun f t d w => ?_)))
        constructor
        · intro z
          exact g6.r f t d w z
        · rintro ⟨a1, a2, a3, a4, a5⟩
          rcases a5 with ⟨b1, b2, b3⟩ | ⟨p, p0, p1, b1, b2, b3⟩ | ⟨p, p0, p1, b1, b2⟩ | ⟨b1, b2⟩ | ⟨b1, b2⟩
          · exact .inl (.inl (.inl (.inl (.inr ⟨a1, a3, a4, b1, b2, b3⟩))))
          · exact .inl (.inl (.inl (.inr ⟨p, p0, p1, .inl ⟨a3, a4, b1, b2, b3⟩⟩)))
          · exact .inl (.inl (.inl (.inr ⟨p, p0, p1, .inr ⟨a1, a2, b1, b2⟩⟩)))
          · refine .inl (.inl (.inr ⟨kdv D f, ?_, ?_, a1, a2, a3, a4, rfl, b1, b2⟩))
            · rcases b1.2.1 with e | e <;> omega
            · rcases b1.2.1 with e | e <;> omega
          · have hk := kdv_r ok ⟨a1, a2⟩
            have h5 := b1.2.1
            by_cases e : kdv D f = 5
            · exact .inl (.inr ⟨a1, a2, e, b1, b2⟩)
            · exact .inr ⟨a1, a2, by omega, b1, b2⟩
      · rw [wr_of (x := 3 + y) (by omega) (by omega), wr_of (x := y + 1) (by omega) (by omega)]
        refine joinMem_w ok hm3 j3 (by omega) (fun i5 f5 g5 => hC3 _ _ ⟨by omega, by omega, j2.trans f5, g5.iff (fun f t d w => ?_)⟩ (by omega))
        unfold orS
        rw [or_assoc (c := meR D (3 + y) (nn D) f t d w)]
        refine or_congr Iff.rfl ?_
        constructor
        · rintro (⟨k, a, b, c⟩ | c)
          · exact ⟨k, a, by omega, c⟩
          · exact ⟨3 + y, by omega, by omega, c⟩
        · rintro ⟨k, a, b, c⟩
          by_cases e : k = 3 + y
          · subst e; exact .inr c
          · exact .inl ⟨k, a, by omega, c⟩
    · rw [wr_of (x := x + 1) (by omega) (by omega)]
      refine joinReg_w ok hm2 k3 ⟨k0, by omega⟩ (fun i5 f5 g5 => hC2 _ _ ⟨by omega, by omega, k2.trans f5, g5.iff (fun f t d w => ?_)⟩ (by omega))
      unfold orS
      rw [or_assoc (c := regR D x (nn D) f t d w)]
      refine or_congr Iff.rfl ?_
      constructor
      · rintro (⟨k, a, b, c⟩ | c)
        · exact ⟨k, a, by omega, c⟩
        · exact ⟨x, by omega, by omega, c⟩
      · rintro ⟨k, a, b, c⟩
        by_cases e : k = x
        · subst e; exact .inr c
        · exact .inl ⟨k, a, by omega, c⟩
  · rw [wr_of (by omega) (by omega)]
    refine hC _ _ ⟨by omega, by omega, h2.trans (fun a x y z => st_row y), by rw [st_row (by decide)]; exact h3, fun f a b => ?_⟩ (by omega)
    by_cases e : f = x
    · rw [e, st_eq]
    · rw [st_ne (by omega)]; exact h4 f a (by omega)
