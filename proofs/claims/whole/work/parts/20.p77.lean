/-! ===== the class is sound ===== -/
theorem tmod_sub {a b T : Int} (hT : 1 ≤ T) (ha : 0 ≤ a) (hb : 0 ≤ b) : Int.tmod (a - b) T = 0 ↔ Int.tmod a T = Int.tmod b T := by
  rw [Int.tmod_eq_emod_of_nonneg ha, Int.tmod_eq_emod_of_nonneg hb, Int.emod_eq_emod_iff_emod_sub_eq_zero]
  constructor
  · intro z
    exact Int.emod_eq_zero_of_dvd (Int.dvd_of_tmod_eq_zero z)
  · intro z
    exact Int.tmod_eq_zero_of_dvd (Int.dvd_of_emod_eq_zero z)
theorem lkept_w {D : Dat} (ok : DOk D) {i r : MI} {Q : Int → Prop} (h : NV D i) (g : M2 D i) (hu : ∀ k, 0 ≤ k → k < 7 → i 69 k = D.un k) (m3 : M3 D i) (hQ : Q 1) : wp_X9_areKept i r Q := by
  obtain ⟨l1, l2, l3⟩ := list_ok ok m3.li
  have hb : ∀ u, 0 ≤ u → u < nn D → 0 ≤ i 464 u ∧ i 464 u ≤ 100000 := fun u a b => by have := l3 u a b; omega
  unfold wp_X9_areKept s32_X9_areKept s33_X9_areKept
  refine edgesK_w ok h g (by decide) hb (fun f t e w ed el => ?_) ⟨fun z => absurd z (by decide), fun _ => ?_⟩
  · have e0 : e = 0 := by have := (ed_props ok ed).2.2.1; omega
    rw [e0] at ed
    have := l1 f t w ed
    omega
  · refine unitsK_w ok h hu (by decide) hb (fun v v0 v1 x hx => ?_) ⟨fun z => absurd z (by decide), fun _ => ⟨.inr rfl, hQ⟩⟩
    have kr := kdv_r ok (v := v) ⟨v0, v1⟩
    have bv := l3 v v0 v1
    have := l2 (kdv D v) (i 464 v) kr.1 kr.2 bv.1
    have e := CntP.uniq _ _ _ (hx.iff _ _ (R := fun u => kdv D u = kdv D v ∧ i 464 u = i 464 v) (fun u a b => ?_)) (cntN_P (nn D).toNat)
    · unfold cntL at this
      omega
    · have bu := l3 u a (by omega)
      refine and_congr_right (fun _ => ?_)
      rw [tmod_sub (by decide) bu.1 bv.1, Int.tmod_eq_of_lt bu.1 (by omega), Int.tmod_eq_of_lt bv.1 (by omega)]
theorem order_ok {D : Dat} (ok : DOk D) {i r : MI} {Q : Int → Prop} (h : NV D i) (m3 : M3 D i) (hQ : Q 1) : wp_X9_areInOrder i r Q := by
  have nl := nn_le ok
  obtain ⟨e, he, hl⟩ := m3.la
  have ge := late_ge ok m3.so he hl
  unfold wp_X9_areInOrder
  refine Lp.rule (fun (v : Int) => 0 ≤ v ∧ v ≤ nn D) (fun v => (nn D - v).toNat) ?_ _ ⟨by decide, nl.1⟩
  intro v C ⟨v0, v1⟩ hC
  dsimp only [b2_X9_areInOrder]
  rw [h.n, wr_of (x := v + 1) (by omega) (by omega)]
  exact ⟨fun _ => hQ, fun q => ⟨by omega, by omega, fun _ => hC _ ⟨by omega, by omega⟩ (by omega), fun z => absurd (ge v v0 (by omega)) z⟩⟩
theorem pkept_w {D : Dat} (ok : DOk D) {i r : MI} {Q : Int → Prop} (h : NV D i) (g : M2 D i) (hu : ∀ k, 0 ≤ k → k < 7 → i 69 k = D.un k) (m4 : M4 D i) (hQ : Q 1) : wp_X4_isKept i r Q := by
  have nl := nn_le ok
  have tb := int_b m4.t
  have ae := AE.of ok m4.t m4.p
  have pb := pl_b ok (T := i 469 5) (by omega) (Int.le_refl _) m4.p
  have hb : ∀ u, 0 ≤ u → u < nn D → 0 ≤ i 470 u ∧ i 470 u ≤ 100000 := fun u a b => by have := pb u a b; omega
  unfold wp_X4_isKept s37_X4_isKept s38_X4_isKept
  refine edgesK_w ok h g (by omega) hb (fun f t e w ed el => ae.e f t e w ed.1) ⟨fun z => absurd z (by decide), fun _ => ?_⟩
  refine unitsK_w ok h hu tb.1 hb (fun v v0 v1 x hx => ?_) ⟨fun z => absurd z (by decide), fun _ => ⟨.inr rfl, hQ⟩⟩
  have kr := kdv_r ok (v := v) ⟨v0, v1⟩
  have bv := hb v v0 v1
  refine pl_units ok m4.p (rest := Int.tmod (i 470 v) (i 469 5)) kr (nn D).toNat (by omega) x (hx.iff _ _ (fun u a b => ?_))
  have bu := hb u a (by omega)
  unfold UseP
  exact and_congr_right (fun _ => tmod_sub tb.1 bu.1 bv.1)
theorem like_w {D : Dat} (ok : DOk D) {i r : MI} {Q : Int → Prop} (a : CSt D 61 i (execS D)) (b : CSt D 481 i (execS D)) (hQ : Q 1) : wp_X7_isLike 61 481 i r Q := by
  have en := exec_n ok
  unfold wp_X7_isLike
  rw [a.n, b.n]
  refine ⟨fun _ => ?_, fun z => absurd rfl z⟩
  refine Lp.rule (fun (x : Int) => 0 ≤ x ∧ x ≤ (execS D).outs) (fun x => ((execS D).outs - x).toNat) ?_ _ ⟨by decide, en.1⟩
  intro x C ⟨x0, x1⟩ hC
  dsimp only [b15_X7_isLike, s66_X7_isLike, s67_X7_isLike]
  rw [a.n, wr_of (x := x + 1) (by omega) (by omega)]
  refine ⟨fun q => ?_, fun q => ⟨by omega, by omega, fun _ => hC _ ⟨by omega, by omega⟩ (by omega), fun z => absurd (by rw [a.x x x0 (by omega), b.x x x0 (by omega)]) z⟩⟩
  unfold wp_X7_hasRegistersOf
  refine Lp.rule (fun (x : Int) => 0 ≤ x ∧ x ≤ 8) (fun x => (8 - x).toNat) ?_ _ ⟨by decide, by decide⟩
  intro y C2 ⟨y0, y1⟩ hC2
  dsimp only [b2_X7_hasRegistersOf]
  rw [wr_of (x := y + 1) (by omega) (by omega)]
  refine ⟨fun q2 => ⟨fun z => absurd z (by decide), fun _ => ?_⟩, fun q2 => ⟨by omega, by omega, fun _ => hC2 _ ⟨by omega, by omega⟩ (by omega), fun z => absurd (by rw [a.r y y0 (by omega), b.r y y0 (by omega)]) z⟩⟩
  unfold wp_X7_hasMemoriesOf
  refine Lp.rule (fun (x : Int) => 0 ≤ x ∧ x ≤ 2) (fun x => (2 - x).toNat) ?_ _ ⟨by decide, by decide⟩
  intro u C3 ⟨u0, u1⟩ hC3
  dsimp only [b2_X7_hasMemoriesOf]
  refine ⟨fun q3 => ⟨fun z => absurd z (by decide), fun _ => ⟨.inr rfl, hQ⟩⟩, fun q3 => ?_⟩
  refine Lp.rule (fun (x : Int) => 0 ≤ x ∧ x ≤ 16) (fun x => (16 - x).toNat) ?_ _ ⟨by decide, by decide⟩
  intro p C4 ⟨p0, p1⟩ hC4
  dsimp only [b9_X7_hasMemoriesOf]
  rw [wr_of (x := u + 1) (by omega) (by omega), wr_of (x := p + 1) (by omega) (by omega)]
  exact ⟨fun _ => hC3 _ ⟨by omega, by omega⟩ (by omega), fun q4 => ⟨by omega, by omega, by omega, by omega, fun _ => hC4 _ ⟨by omega, by omega⟩ (by omega), fun z => absurd (by rw [a.m u p u0 (by omega) p0 (by omega), b.m u p u0 (by omega) p0 (by omega)]) z⟩⟩
