/-! ===== interval: the class ===== -/
def FPc (i i' : MI) : Prop := ∀ a, (a < 469 ∨ 479 < a) → i' a = i a
theorem FPc.refl (i : MI) : FPc i i := fun _ _ => rfl
theorem FPc.trans {i j k : MI} (h : FPc i j) (g : FPc j k) : FPc i k := fun a x => (g a x).trans (h a x)
theorem FPc.s {c v : Int} {i : MI} : FPc i (st i 469 c v) := fun b x => st_row (by omega)
theorem FPl.fr {i i' : MI} (h : FPl i i') : FPc i i' := fun a x => h a (by omega) (by omega) (by omega)
theorem F1.fr {i i' : MI} (h : F1 i i') : FPc i i' := fun a x => h a (by omega)
theorem FPc.fl {i i' : MI} (h : FPc i i') : ∀ a, a < 462 → i' a = i a := fun a x => h a (by omega)
def M4 (D : Dat) (i : MI) : Prop := (IsRing D (i 469 3)) ∧ (i 469 4 = uT D) ∧ (IsInt D (i 469 5)) ∧ (PlU D (i 469 5) (i 470) (nn D))
theorem M4.r {D : Dat} {i : MI} (h0 : M4 D i) : IsRing D (i 469 3) := h0.1
theorem M4.u {D : Dat} {i : MI} (h0 : M4 D i) : i 469 4 = uT D := h0.2.1
theorem M4.t {D : Dat} {i : MI} (h0 : M4 D i) : IsInt D (i 469 5) := h0.2.2.1
theorem M4.p {D : Dat} {i : MI} (h0 : M4 D i) : PlU D (i 469 5) (i 470) (nn D) := h0.2.2.2
theorem M4.mk {D : Dat} {i : MI} (h0 : IsRing D (i 469 3)) (h1 : i 469 4 = uT D) (h2 : IsInt D (i 469 5)) (h3 : PlU D (i 469 5) (i 470) (nn D)) : M4 D i := ⟨h0, h1, h2, h3⟩
theorem uT_b {D : Dat} (ok : DOk D) : 1 ≤ uT D ∧ uT D ≤ 96 := uMx_b ok 7 (Nat.le_refl _)
theorem xfind_w {D : Dat} (ok : DOk D) {i r : MI} {Q : MI → Prop} (h : NV D i) (g : M2 D i) (mc : MC D i) (hQ : ∀ i', FPc i i' → M4 D i' → Q i') : wp_X4_find i r Q := by
  have nl := nn_le ok
  have s4 := sum480 ok
  have ub := uT_b ok
  unfold wp_X4_find
  refine findByRings_w ok h g (fun R m f hR => ?_)
  have rl := ring_le ok hR
  have r1 := hR.1
  have e69 : (st m 469 3 R) 69 = i 69 := by rw [st_row (by decide), f 69 (by decide)]
  have e71 : (st m 469 3 R) 71 = i 71 := by rw [st_row (by decide), f 71 (by decide)]
  refine byUnits_w ok ⟨fun k a b => by rw [e71]; exact mc.1 k a b, fun k a b => by rw [e69]; exact mc.2 k a b⟩ ?_
  have a3 : st (st m 469 3 R) 469 4 (uT D) 469 3 = R := by rw [st_ne (by decide), st_eq]
  have a4 : st (st m 469 3 R) 469 4 (uT D) 469 4 = uT D := st_eq
  rw [a3, a4]
  generalize hm : st (st (st m 469 3 R) 469 4 (uT D)) 469 5 (max R (uT D)) = m1
  have g1 : FPc i m1 := by rw [← hm]; exact f.fr.trans (FPc.s.trans (FPc.s.trans FPc.s))
  have m3 : m1 469 3 = R := by rw [← hm, st_ne (by decide), st_ne (by decide), st_eq]
  have m4 : m1 469 4 = uT D := by rw [← hm, st_ne (by decide), st_eq]
  have m5 : m1 469 5 = max R (uT D) := by rw [← hm, st_eq]
  have un : ∀ {m : MI}, FPc i m → ∀ k, 0 ≤ k → k < 7 → m 69 k = D.un k := fun f k a b => by rw [f 69 (by omega)]; exact mc.2 k a b
  have fin : ∀ (m : MI), FPc i m → m 469 3 = R → m 469 4 = uT D → PlU D (m 469 5) (m 470) (nn D) → max R (uT D) ≤ m 469 5 ∧ m 469 5 ≤ 480 → (∀ c, max R (uT D) ≤ c → c < m 469 5 → ¬ CanP D c) → Q m := by
    intro m f a b p l no
    exact hQ m f ⟨by rw [a]; exact hR, b, ⟨R, hR, l.1, l.2, ⟨_, p⟩, no⟩, p⟩
  have loop : ∀ (y : Int) (m2 : MI), FPc i m2 → m2 469 3 = R → m2 469 4 = uT D → m2 469 5 = max R (uT D) → ((y = 0 ∧ ¬ CanP D (max R (uT D)) ∧ max R (uT D) < sumC D (nn D)) ∨ (y = 1 ∧ PlU D (max R (uT D)) (m2 470) (nn D))) → wp_X0_sumOfCycles m2 r (fun v22 => Lp (b54_X4_find v22 r Q) (y, wr (m2 469 5 + 1), m2)) := by
    intro y m2 g2 i3 i4 x5 hy
    refine sumOf_w ok (h.fl ok g2.fl) ?_
    rw [x5, wr_of (x := max R (uT D) + 1) (by omega) (by omega)]
    refine Lp.r3 (fun (y T : Int) (m : MI) => max R (uT D) + 1 ≤ T ∧ T ≤ 481 ∧ FPc i m ∧ m 469 3 = R ∧ m 469 4 = uT D ∧ m 469 5 = T - 1 ∧ (∀ c, max R (uT D) ≤ c → c < T - 1 → ¬ CanP D c) ∧ ((y = 0 ∧ ¬ CanP D (T - 1) ∧ T - 1 < sumC D (nn D)) ∨ (y = 1 ∧ PlU D (T - 1) (m 470) (nn D)))) (fun _ T _ => (500 - T).toNat) ?_ ⟨Int.le_refl _, by omega, g2, i3, i4, by omega, fun c a b => by omega, by rw [show max R (uT D) + 1 - 1 = max R (uT D) by omega]; exact hy⟩
    intro y T m C ⟨j0, j1, j2, j3, j4, j5, j6, j7⟩ hC
    dsimp only [b54_X4_find, s84_X4_find]
    have done : (y = 0 → sumC D (nn D) < T) → Q m := fun z => fin m j2 j3 j4 (by
      rcases j7 with ⟨w, _⟩ | ⟨_, w⟩
      · have := z w
        omega
      · rw [j5]; exact w) (by omega) (fun c a b => j6 c a (by omega))
    refine ⟨fun q => done (fun _ => q), fun q => ⟨fun q2 => ?_, fun q2 => done (fun z => absurd z q2)⟩⟩
    rcases j7 with ⟨_, w1, w2⟩ | ⟨w, _⟩
    · have g3 : FPc i (st m 469 5 T) := j2.trans FPc.s
      rw [wr_of (x := T + 1) (by omega) (by omega)]
      have no' : ∀ c, max R (uT D) ≤ c → c < T + 1 - 1 → ¬ CanP D c := fun c a b => by
        by_cases z : c = T - 1
        · rw [z]; exact w1
        · exact j6 c a (by omega)
      have eT : T + 1 - 1 = T := by omega
      refine placeAll_w ok (h.fl ok g3.fl) (g.fl ok g3.fl) (un g3) (T := T) st_eq (by omega) (fun m5 f5 p5 => ?_) (fun m5 f5 n5 l5 => ?_)
      all_goals
        refine hC _ _ _ ⟨by omega, by omega, g3.trans f5.fr, by rw [f5 469 (by decide) (by decide) (by decide), st_ne (by decide)]; exact j3, by rw [f5 469 (by decide) (by decide) (by decide), st_ne (by decide)]; exact j4, by rw [f5 469 (by decide) (by decide) (by decide), st_eq, eT], no', ?_⟩ (by omega)
        rw [eT]
      · exact .inr ⟨rfl, p5⟩
      · exact .inl ⟨rfl, n5, l5⟩
    · omega
  have k69 : ∀ {m2 : MI}, FPl m1 m2 → m2 469 = m1 469 := fun f2 => f2 469 (by decide) (by decide) (by decide)
  refine placeAll_w ok (h.fl ok g1.fl) (g.fl ok g1.fl) (un g1) m5 (by omega) (fun m2 f2 p2 => loop 1 m2 (g1.trans f2.fr) (by rw [k69 f2]; exact m3) (by rw [k69 f2]; exact m4) (by rw [k69 f2]; exact m5) (.inr ⟨rfl, p2⟩)) (fun m2 f2 no lt => loop 0 m2 (g1.trans f2.fr) (by rw [k69 f2]; exact m3) (by rw [k69 f2]; exact m4) (by rw [k69 f2]; exact m5) (.inl ⟨rfl, no, lt⟩))
