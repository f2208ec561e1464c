/-! ===== values that wait: the reference ===== -/
theorem mlastUse_w {D : Dat} (ok : DOk D) {i r : MI} {v e : Int} {Q : Int → Prop} (h : NW D i) (hv : 0 ≤ v ∧ v < nn D) (hl : i 504 48 = e) (hb : ∀ u, 0 ≤ u → u < nn D → 0 ≤ i 531 u ∧ i 531 u + cyv D u ≤ e) (he : 0 ≤ e ∧ e ≤ 480) (hQ : ∀ n, -1 ≤ n → (∀ c, 0 ≤ c → (c ≤ n ↔ mkv D v ≠ -1 ∧ LUx D (i 531) e v c (nn D))) → Q n) : wp_X12_lastUse v i r Q := by
  have hn := nn_le ok
  unfold wp_X12_lastUse
  refine Lp.r2 (fun (b x : Int) => 0 ≤ x ∧ x ≤ nn D ∧ -1 ≤ b ∧ b ≤ 1000 ∧ ∀ c, 0 ≤ c → (c ≤ b ↔ mkv D v ≠ -1 ∧ LUx D (i 531) e v c x)) (fun _ x => (nn D - x).toNat) ?_ ⟨by decide, hn.1, by decide, by decide, fun c c0 => ⟨fun z => by omega, fun ⟨_, u, a, b, _⟩ => by omega⟩⟩
  intro b x C ⟨g0, g1, g2, g3, g4⟩ hC
  dsimp only [b4_X12_lastUse]
  rw [h.n]
  refine ⟨fun q => hQ b g2 (by rw [show nn D = x by omega]; exact g4), fun q => ⟨by omega, ?_⟩⟩
  have hx : 0 ≤ x ∧ x < nn D := ⟨g0, by omega⟩
  have w1 : wr (x + 1) = x + 1 := wr_of (by omega) (by omega)
  -- nothing new by x
  have skip : (mkv D v = -1 ∨ ¬ (usv D x (mkv D v) ∧ (isPrev D (mkv D v) v x ∨ (noPrev D (mkv D v) x ∧ noNext D (mkv D v) v)))) → C (b, wr (x + 1)) := by
    intro hno
    rw [w1]
    refine hC _ _ ⟨by omega, by omega, g2, g3, fun c c0 => (g4 c c0).trans ⟨fun ⟨z, u, u1, u2, u3⟩ => ⟨z, u, u1, by omega, u3⟩, fun ⟨z, u, u1, u2, u3, u4⟩ => ⟨z, u, u1, ?_, u3, u4⟩⟩⟩ (by omega)
    by_cases w : u = x
    · rw [w] at u3 u4
      exact absurd ⟨u3, u4.imp (fun q => q.1) (fun q => ⟨q.1, q.2.1⟩)⟩ (hno.resolve_left z)
    · omega
  have new : ∀ k, -1 ≤ k → k ≤ 1000 → (∀ c, 0 ≤ c → (c ≤ k ↔ usv D x (mkv D v) ∧ ((isPrev D (mkv D v) v x ∧ c ≤ i 531 x) ∨ (noPrev D (mkv D v) x ∧ noNext D (mkv D v) v ∧ c ≤ e - 1)))) → mkv D v ≠ -1 → C (max b k, wr (x + 1)) := by
    intro k k0 k1 hk hm
    rw [w1]
    refine hC _ _ ⟨by omega, by omega, by omega, by omega, fun c c0 => ?_⟩ (by omega)
    have a1 := g4 c c0
    have a2 := hk c c0
    constructor
    · intro hc
      refine ⟨hm, ?_⟩
      by_cases z : c ≤ b
      · obtain ⟨_, u, u1, u2, u3⟩ := a1.1 z
        exact ⟨u, u1, by omega, u3⟩
      · obtain ⟨z1, z2⟩ := a2.1 (by omega)
        exact ⟨x, g0, by omega, z1, z2⟩
    · rintro ⟨_, u, u1, u2, u3⟩
      by_cases z : u = x
      · rw [z] at u3
        have := a2.2 u3
        omega
      · have := a1.2 ⟨hm, u, u1, by omega, u3⟩
        omega
  have run : ∀ k : Int, (k = 0 ∨ k = 1) → (k = 1 ↔ mkv D v ≠ -1 ∧ usv D x (mkv D v)) → s46_X12_lastUse v b x k i r Q C := by
    intro k hk hk1
    unfold s46_X12_lastUse
    refine Lp.r3 (fun (x5 x6 x7 : Int) => 0 ≤ x7 ∧ x7 ≤ nn D ∧ (k = 1 → ((x5 = -1 ∧ ∀ j, 0 ≤ j → j < x7 → j < x → mkv D j ≠ mkv D v) ∨ (0 ≤ x5 ∧ x5 < x7 ∧ x5 < x ∧ mkv D x5 = mkv D v ∧ ∀ j, x5 < j → j < x7 → j < x → mkv D j ≠ mkv D v)) ∧ ((x6 = -1 ∧ ∀ j, 0 ≤ j → j < x7 → mkv D j ≠ mkv D v) ∨ (0 ≤ x6 ∧ x6 < x7 ∧ mkv D x6 = mkv D v ∧ ∀ j, x6 < j → j < x7 → mkv D j ≠ mkv D v)))) (fun _ _ x7 => (nn D - x7).toNat) ?_ ⟨by decide, hn.1, fun _ => ⟨.inl ⟨rfl, fun j a b => by omega⟩, .inl ⟨rfl, fun j a b => by omega⟩⟩⟩
    intro x5 x6 x7 C2 ⟨k0, k1, k2⟩ hC2
    have fin : (nn D ≤ x7 ∨ k = 0) → s133_X12_lastUse v b x k x5 x6 i r Q C := by
      intro hx7
      dsimp only [s133_X12_lastUse, s148_X12_lastUse, s149_X12_lastUse, s172_X12_lastUse, s173_X12_lastUse, s212_X12_lastUse]
      rcases hk with z | z
      · subst z
        have sk : C (b, wr (x + 1)) := skip (Classical.byContradiction (fun w => by
          rw [not_or] at w
          have := hk1.2 ⟨w.1, (Classical.not_not.1 w.2).1⟩
          omega))
        exact ⟨fun _ => ⟨fun _ => ⟨fun _ => ⟨fun _ => sk, fun w => absurd rfl w⟩, fun w => absurd rfl w⟩, fun w => absurd rfl w⟩, fun w => absurd rfl w⟩
      · subst z
        obtain ⟨hm, us⟩ := hk1.1 rfl
        obtain ⟨p5, p6⟩ := k2 rfl
        have e7 : x7 = nn D := by omega
        subst e7
        have n10 : ¬ (1 : Int) = 0 := by decide
        have bx := hb x hx.1 hx.2
        have cx := cyv_r ok hx
        have i5 : isPrev D (mkv D v) v x ↔ x5 = v := by
          constructor
          · intro z
            rcases p5 with ⟨_, w⟩ | ⟨w1, w2, w3, w4, w5⟩
            · exact absurd rfl (w v hv.1 hv.2 z.2.2.1)
            · rcases Int.lt_trichotomy x5 v with q3 | q3 | q3
              · exact absurd rfl (w5 v q3 hv.2 z.2.2.1)
              · exact q3
              · exact absurd w4 (z.2.2.2.2 x5 q3 w3 w2)
          · intro z
            subst z
            rcases p5 with ⟨w, _⟩ | ⟨w1, w2, w3, w4, w5⟩
            · omega
            · exact ⟨w1, w2, w3, rfl, fun j a b c => w5 j a c b⟩
        have i1 : noPrev D (mkv D v) x ↔ x5 = -1 := by
          constructor
          · intro z
            rcases p5 with ⟨w, _⟩ | ⟨w1, w2, w3, w4, w5⟩
            · exact w
            · exact absurd w4 (z x5 w1 w3 w2)
          · intro z
            rcases p5 with ⟨_, w⟩ | ⟨w1, _⟩
            · exact fun j a b c => w j a c b
            · omega
        have i6 : noNext D (mkv D v) v ↔ x6 = v := by
          constructor
          · intro z
            rcases p6 with ⟨_, w⟩ | ⟨w1, w2, w4, w5⟩
            · exact absurd rfl (w v hv.1 hv.2)
            · rcases Int.lt_trichotomy x6 v with q3 | q3 | q3
              · exact absurd rfl (w5 v q3 hv.2)
              · exact q3
              · exact absurd w4 (z x6 w1 q3 w2)
          · intro z
            subst z
            rcases p6 with ⟨w, _⟩ | ⟨w1, w2, w4, w5⟩
            · omega
            · exact fun j a b c => w5 j b c
        have sk : ¬ (isPrev D (mkv D v) v x ∨ (noPrev D (mkv D v) x ∧ noNext D (mkv D v) v)) → C (b, wr (x + 1)) := fun w => skip (.inr (fun z => w z.2))
        refine ⟨fun w => absurd w n10, fun _ => ⟨fun e5 => ⟨fun w => absurd w n10, fun _ => ⟨fun w => by omega, fun _ => ⟨fun w => absurd w n10, fun _ => ⟨by omega, ?_⟩⟩⟩⟩, fun e5 => ⟨fun w => absurd w n10, fun _ => ⟨fun e1 => ⟨fun e6 => ⟨fun _ => ⟨fun w => absurd w n10, fun _ => ?_⟩, fun w => absurd rfl w⟩, fun e6 => ⟨fun _ => ⟨fun _ => ?_, fun w => absurd rfl w⟩, fun w => absurd rfl w⟩⟩, fun e1 => ⟨fun _ => ⟨fun _ => ?_, fun w => absurd rfl w⟩, fun w => absurd rfl w⟩⟩⟩⟩⟩
        · refine new (i 531 x) (by omega) (by omega) (fun c c0 => ⟨fun z => ⟨us, .inl ⟨i5.2 e5, z⟩⟩, fun z => ?_⟩) hm
          rcases z.2 with w | w
          · exact w.2
          · have := i1.1 w.1; omega
        · rw [hl, wr_of (x := e - 1) (by omega) (by omega)]
          refine new (e - 1) (by omega) (by omega) (fun c c0 => ⟨fun z => ⟨us, .inr ⟨i1.2 e1, i6.2 e6, z⟩⟩, fun z => ?_⟩) hm
          rcases z.2 with w | w
          · exact absurd (i5.1 w.1) e5
          · exact w.2.2
        · refine sk (fun w => ?_)
          rcases w with w | w
          · exact e5 (i5.1 w)
          · exact e6 (i6.1 w.2)
        · refine sk (fun w => ?_)
          rcases w with w | w
          · exact e5 (i5.1 w)
          · exact e1 (i1.1 w.1)
    dsimp only [b57_X12_lastUse]
    rw [h.n]
    refine ⟨fun q2 => fin (.inl q2), fun q2 => ⟨fun z => fin (.inr z), fun z => ?_⟩⟩
    have hx7 : 0 ≤ x7 ∧ x7 < nn D := ⟨k0, by omega⟩
    have k1' : k = 1 := hk.resolve_left z
    obtain ⟨p5, p6⟩ := k2 k1'
    dsimp only [s98_X12_lastUse, s100_X12_lastUse, s125_X12_lastUse]
    rw [h.mk9 hx7, h.mk9 hv, wr_of (x := x7 + 1) (by omega) (by omega)]
    have six : (mkv D x7 = mkv D v → ((x7 = -1 ∧ ∀ j, 0 ≤ j → j < x7 + 1 → mkv D j ≠ mkv D v) ∨ (0 ≤ x7 ∧ x7 < x7 + 1 ∧ mkv D x7 = mkv D v ∧ ∀ j, x7 < j → j < x7 + 1 → mkv D j ≠ mkv D v))) := fun w => .inr ⟨hx7.1, by omega, w, fun j a b => by omega⟩
    have six' : (mkv D x7 ≠ mkv D v → ((x6 = -1 ∧ ∀ j, 0 ≤ j → j < x7 + 1 → mkv D j ≠ mkv D v) ∨ (0 ≤ x6 ∧ x6 < x7 + 1 ∧ mkv D x6 = mkv D v ∧ ∀ j, x6 < j → j < x7 + 1 → mkv D j ≠ mkv D v))) := by
      intro w
      have al : ∀ j, j < x7 + 1 → (j < x7 → mkv D j ≠ mkv D v) → mkv D j ≠ mkv D v := fun j a b => by
        by_cases e : j = x7
        · rw [e]; exact w
        · exact b (by omega)
      rcases p6 with ⟨c1, c2⟩ | ⟨c1, c2, c3, c4⟩
      · exact .inl ⟨c1, fun j a b => al j b (c2 j a)⟩
      · exact .inr ⟨c1, by omega, c3, fun j a b => al j b (c4 j a)⟩
    have five' : (mkv D x7 ≠ mkv D v ∨ x ≤ x7) → ((x5 = -1 ∧ ∀ j, 0 ≤ j → j < x7 + 1 → j < x → mkv D j ≠ mkv D v) ∨ (0 ≤ x5 ∧ x5 < x7 + 1 ∧ x5 < x ∧ mkv D x5 = mkv D v ∧ ∀ j, x5 < j → j < x7 + 1 → j < x → mkv D j ≠ mkv D v)) := by
      intro w
      have al : ∀ j, j < x7 + 1 → j < x → (j < x7 → mkv D j ≠ mkv D v) → mkv D j ≠ mkv D v := fun j a a2 b => by
        by_cases e : j = x7
        · rcases w with w | w
          · rw [e]; exact w
          · omega
        · exact b (by omega)
      rcases p5 with ⟨c1, c2⟩ | ⟨c1, c2, c3, c4, c5⟩
      · exact .inl ⟨c1, fun j a b b2 => al j b b2 (fun q => c2 j a q b2)⟩
      · exact .inr ⟨c1, by omega, c3, c4, fun j a b b2 => al j b b2 (fun q => c5 j a q b2)⟩
    refine ⟨by omega, by omega, fun e1 => ⟨fun e2 => ⟨by omega, by omega, fun _ => hC2 _ _ _ ⟨by omega, by omega, fun _ => ⟨five' (.inr e2), six e1⟩⟩ (by omega), fun w => absurd e1 w⟩, fun e2 => ⟨by omega, by omega, fun _ => hC2 _ _ _ ⟨by omega, by omega, fun _ => ⟨.inr ⟨hx7.1, by omega, by omega, e1, fun j a b => by omega⟩, six e1⟩⟩ (by omega), fun w => absurd e1 w⟩⟩, fun e1 => ⟨by omega, by omega, fun w => absurd w e1, fun _ => hC2 _ _ _ ⟨by omega, by omega, fun _ => ⟨five' (.inl e1), six' e1⟩⟩ (by omega)⟩⟩
  have hm9 := h.mk9 hv
  have us : i 518 x = usN D (nd D x) := h.a x 518 hx.1 hx.2 (by decide) (by decide)
  unfold s45_X12_lastUse
  rw [hm9, us]
  refine ⟨fun z => run 0 (.inl rfl) ⟨fun w => by omega, fun w => absurd z w.1⟩, fun z => ⟨by omega, by omega, ?_⟩⟩
  have hp := (mkv_r ok hv).resolve_left z
  have ub := usv_bit ok hx hp
  exact ⟨fun w => run 1 (.inr rfl) ⟨fun _ => ⟨z, ub.1 w⟩, fun _ => rfl⟩, fun w => run 0 (.inl rfl) ⟨fun w => by omega, fun w2 => absurd (ub.2 w2.2) w⟩⟩
