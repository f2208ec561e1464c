/-! ===== cycles, one by one ===== -/
def BT (D : Dat) : Int := Int.tdiv D.tur D.fac
theorem BT_b {D : Dat} (ok : DOk D) : 1 ≤ BT D ∧ BT D ≤ 16 ∧ BT D * D.fac = D.tur := by
  have a := ok.tur
  have b := ok.fac
  have c := ok.div
  unfold BT
  have e : D.tur.tdiv D.fac * D.fac = D.tur := by
    have := Int.tdiv_mul_add_tmod D.tur D.fac
    omega
  generalize D.tur.tdiv D.fac = q at e
  have : D.fac = 1 ∨ D.fac = 2 ∨ D.fac = 3 ∨ D.fac = 4 := by omega
  rcases this with f | f | f | f <;> rw [f] at e ⊢ <;> omega
theorem bodyT_w {D : Dat} (ok : DOk D) {i r : MI} {Q : Int → Prop} (h : ClassP D i r) (hQ : Q (BT D)) : wp_X6_bodyTurns i r Q := by
  have b := BT_b ok
  have f := ok.fac
  unfold wp_X6_bodyTurns s23_X6_bodyTurns
  rw [h.fac, h.tur]
  refine ⟨fun q => by omega, fun q => ⟨by omega, ?_⟩⟩
  show Q (wr (BT D))
  rw [wr_of (by omega) (by omega)]
  exact hQ
/-- how many cycles -/
def CycP (D : Dat) (T : Int) (p : Int → Int) (x : Int) : Prop := (nn D = 0 ∧ x = 0) ∨ (nn D ≠ 0 ∧ ∃ e, IsEnd D p e ∧ x = e + T * (BT D - 1))
theorem CycP.uniq {D : Dat} {T x y : Int} {p q : Int → Int} (e : ∀ v, 0 ≤ v → v < nn D → p v = q v) (h : CycP D T p x) (g : CycP D T q y) : x = y := by
  rcases h with ⟨h1, h2⟩ | ⟨h1, a, h2, h3⟩ <;> rcases g with ⟨g1, g2⟩ | ⟨g1, b, g2, g3⟩
  · omega
  · exact absurd h1 g1
  · exact absurd g1 h1
  · rw [h3, g3, end_uniq e h2 g2]
theorem end_b {D : Dat} (ok : DOk D) {T e : Int} {p : Int → Int} (hT : 1 ≤ T ∧ T ≤ 480) (h : PlU D T p (nn D)) (he : IsEnd D p e) : 0 ≤ e ∧ e ≤ 50000 := by
  have nl := nn_le ok
  refine ⟨he.1, ?_⟩
  rcases he.2.2 with z | ⟨v, a, b, z⟩
  · omega
  · have := pl_b ok (T := T) (by omega) (Int.le_refl _) h v a b
    have := cyv_r ok (v := v) ⟨a, b⟩
    omega
theorem tb_b {D : Dat} (ok : DOk D) {T : Int} (hT : 1 ≤ T ∧ T ≤ 480) : 0 ≤ T * (BT D - 1) ∧ T * (BT D - 1) ≤ 7200 := by
  have b := BT_b ok
  refine ⟨Int.mul_nonneg (by omega) (by omega), ?_⟩
  have : T * (BT D - 1) ≤ 480 * 15 := Int.mul_le_mul hT.2 (by omega) (by omega) (by omega)
  omega
theorem countC_w {D : Dat} (ok : DOk D) {i r : MI} {Q : Int → Prop} (h : NV D i) (m4 : M4 D i) (hQ : ∀ x, CycP D (i 469 5) (i 470) x → Q x) : wp_X4_countCycles (BT D) i r Q := by
  have nl := nn_le ok
  have b := BT_b ok
  have tb := int_b m4.t
  have tt := tb_b ok tb
  have pb := pl_b ok (T := i 469 5) (by omega) (Int.le_refl _) m4.p
  unfold wp_X4_countCycles s28_X4_countCycles
  rw [h.n]
  refine ⟨fun q => hQ 0 (.inl ⟨q, rfl⟩), fun q => endOf_w ok h (fun v x y => by have := pb v x y; omega) (fun e he => ?_)⟩
  have eb := end_b ok tb m4.p he
  rw [wr_of (x := BT D - 1) (by omega) (by omega), wr_of (x := i 469 5 * (BT D - 1)) (by omega) (by omega), wr_of (x := e + i 469 5 * (BT D - 1)) (by omega) (by omega)]
  exact hQ _ (.inr ⟨q, e, he, rfl⟩)
theorem longest_w {D : Dat} (ok : DOk D) {i r : MI} {Q : Int → Prop} (h : ME D i) (hb : ∀ v, 0 ≤ v → v < nn D → 0 ≤ i 532 v ∧ i 532 v ≤ 100000) (hQ : ∀ e, IsEnd D (i 532) e → Q e) : wp_X12_longest i r Q := by
  have hn := nn_le ok
  unfold wp_X12_longest
  refine Lp.r2 (fun (e x : Int) => 0 ≤ x ∧ x ≤ nn D ∧ 0 ≤ e ∧ (∀ v, 0 ≤ v → v < x → i 532 v + cyv D v ≤ e) ∧ (e = 0 ∨ ∃ v, 0 ≤ v ∧ v < x ∧ e = i 532 v + cyv D v)) (fun _ x => (nn D - x).toNat) ?_ ⟨by decide, hn.1, by decide, fun v a b => by omega, .inl rfl⟩
  intro e x C ⟨h0, h1, h2, h3, h4⟩ hC
  dsimp only [b4_X12_longest]
  rw [h.w.n]
  refine ⟨fun q => hQ e ⟨h2, fun v a b => h3 v a (by omega), h4.imp id (fun ⟨v, a, b, c⟩ => ⟨v, a, by omega, c⟩)⟩, fun q => ⟨by omega, ?_⟩⟩
  have hx : 0 ≤ x ∧ x < nn D := ⟨h0, by omega⟩
  have cx := cyv_r ok hx
  have bx := hb x hx.1 hx.2
  refine mcyc_w ok h.w hx ?_
  rw [wr_of (x := i 532 x + cyv D x) (by clear h4; omega) (by clear h4; omega), wr_of (x := x + 1) (by clear h4; omega) (by clear h4; omega)]
  refine hC _ _ ⟨by omega, by omega, by clear h4; omega, fun v a b => ?_, ?_⟩ (by omega)
  · by_cases z : v = x
    · rw [z]; clear h4; omega
    · have := h3 v a (by omega); clear h4; omega
  · rcases Int.le_total e (i 532 x + cyv D x) with z | z
    · rw [Int.max_eq_right z]; exact .inr ⟨x, h0, by omega, rfl⟩
    · rw [Int.max_eq_left z]
      exact h4.imp id (fun ⟨v, a, b, c⟩ => ⟨v, a, by omega, c⟩)
theorem Mq.fv {D : Dat} {v : Int} {i m : MI} (f : FV i m) (p : ModelP D m) (z : m 504 0 = 0) : Mq D 0 v v i m := ⟨p, f.fm, z, fun _ => rfl⟩
theorem FV.mk {i i1 m : MI} (f1 : FU (st i 504 0 0) i1) (f2 : FY i1 m) : FV i m := ⟨i1, f1, f2⟩
theorem FV.z {i m : MI} (f : FV i m) : m 504 0 = 0 := by
  obtain ⟨i1, f1, f2⟩ := f
  rw [f2.c 0 (by decide), f1.c 0 (by decide) (by decide), st_eq]
theorem M_cycles {D : Dat} (ok : DOk D) {i r : MI} {Q : Int → MI → Prop} (h : ModelP D i) (hQ : ∀ T p x m, Mq D 0 x x i m → IsInt D T → PlU D T p (nn D) → CycP D T p x → Q x m) : wp_X12_cycles i r Q := by
  have b := BT_b ok
  have fc := ok.fac
  unfold wp_X12_cycles
  refine mplaceAll_w ok (mp0 h) (fun T i1 m f1 f2 e2 iT p => ?_)
  have tb := int_b iT
  have tt := tb_b ok tb
  have pb := pl_b ok (T := T) (by omega) (Int.le_refl _) p
  have nl := nn_le ok
  have fv := FV.mk f1 f2
  unfold s39_X12_cycles
  rw [e2.w.n, e2.p.fac, e2.p.tur]
  refine ⟨fun q => hQ T _ 0 m (Mq.fv fv e2.p fv.z) iT p (.inl ⟨q, rfl⟩), fun q => longest_w ok e2 (fun v x y => by have := pb v x y; omega) (fun e he => ⟨by omega, ?_⟩)⟩
  have eb := end_b ok tb p he
  rw [show D.tur.tdiv D.fac = BT D from rfl]
  rw [wr_of (x := BT D) (by omega) (by omega), wr_of (x := BT D - 1) (by omega) (by omega), wr_of (x := T * (BT D - 1)) (by omega) (by omega), wr_of (x := e + T * (BT D - 1)) (by omega) (by omega)]
  exact hQ T _ _ m (Mq.fv fv e2.p fv.z) iT p (.inr ⟨q, e, he, rfl⟩)
theorem sbt_b {D : Dat} (ok : DOk D) {s : Int} (h : 0 ≤ s ∧ s ≤ 480) : 0 ≤ s * BT D ∧ s * BT D ≤ 7680 := by
  have b := BT_b ok
  refine ⟨Int.mul_nonneg (by omega) (by omega), ?_⟩
  have : s * BT D ≤ 480 * 16 := Int.mul_le_mul h.2 (by omega) (by omega) (by omega)
  omega
theorem M_oneByOne {D : Dat} (ok : DOk D) {i r : MI} {Q : Int → MI → Prop} (h : ModelP D i) (hQ : ∀ m, Mq D 0 (sumC D (nn D) * BT D) (sumC D (nn D) * BT D) i m → Q (sumC D (nn D) * BT D) m) : wp_X12_oneByOne i r Q := by
  have b := BT_b ok
  have fc := ok.fac
  have nl := nn_le ok
  have s4 := sum480 ok
  have sb := sbt_b ok s4
  unfold wp_X12_oneByOne
  refine mbuild_w ok (mp0 h) (fun m f1 e2 => ?_)
  have fv := FV.mk f1 (FY.refl m)
  refine Lp.r2 (fun (s x : Int) => 0 ≤ x ∧ x ≤ nn D ∧ s = sumC D x) (fun _ x => (nn D - x).toNat) ?_ ⟨by decide, nl.1, rfl⟩
  intro s x C ⟨h0, h1, h2⟩ hC
  dsimp only [b13_X12_oneByOne]
  rw [e2.w.n, e2.p.fac, e2.p.tur, show D.tur.tdiv D.fac = BT D from rfl]
  refine ⟨fun q => ⟨by omega, ?_⟩, fun q => mcyc_w ok e2.w ⟨h0, by omega⟩ ?_⟩
  · have ex : x = nn D := by omega
    rw [h2, ex, wr_of (x := BT D) (by omega) (by omega), Int.mul_comm (BT D), wr_of (x := sumC D (nn D) * BT D) (by omega) (by omega)]
    exact hQ m (Mq.fv fv e2.p fv.z)
  · have sx := sumC_b ok h0 h1
    have cx := cyv_r ok (v := x) ⟨h0, by omega⟩
    rw [wr_of (x := s + cyv D x) (by omega) (by omega), wr_of (x := x + 1) (by omega) (by omega)]
    exact hC _ _ ⟨by omega, by omega, by rw [sumC_s h0, h2]⟩ (by omega)
