/-! the reference -/
def ME (D : Dat) (i : MI) : Prop := (ModelP D i) ∧ (NW D i) ∧ (GrM D i (Raw D))
theorem ME.p {D : Dat} {i : MI} (h0 : ME D i) : ModelP D i := h0.1
theorem ME.w {D : Dat} {i : MI} (h0 : ME D i) : NW D i := h0.2.1
theorem ME.g {D : Dat} {i : MI} (h0 : ME D i) : GrM D i (Raw D) := h0.2.2
theorem ME.mk {D : Dat} {i : MI} (h0 : ModelP D i) (h1 : NW D i) (h2 : GrM D i (Raw D)) : ME D i := ⟨h0, h1, h2⟩
theorem GrM.ed {D : Dat} {i : MI} (h : GrM D i (Raw D)) {e : Int} (he : 0 ≤ e ∧ e < i 504 30) : Ed D (i 523 e) (i 524 e) (i 525 e) (i 526 e) := h.e e he.1 he.2
theorem GrM.fd {D : Dat} {i : MI} (h : GrM D i (Raw D)) {f t d w : Int} (hE : Ed D f t d w) : ∃ e, 0 ≤ e ∧ e < i 504 30 ∧ i 523 e = f ∧ i 524 e = t ∧ i 525 e = d ∧ i 526 e = w := by
  obtain ⟨e, a, b, c, d'⟩ := h.s f t d w hE.1
  have := GrM.ed h ⟨a, b⟩
  rw [c.1, c.2, d'] at this
  exact ⟨e, a, b, c.1, c.2, d', Mx_uniq this hE⟩
/-- what the reference's orderings leave alone -/
def FY (i i' : MI) : Prop := (∀ a, a ≠ 504 → (a < 529 ∨ 534 < a) → i' a = i a) ∧ (∀ c, c ≠ 48 → i' 504 c = i 504 c)
theorem FY.i {i i' : MI} (h0 : FY i i') : ∀ a, a ≠ 504 → (a < 529 ∨ 534 < a) → i' a = i a := h0.1
theorem FY.c {i i' : MI} (h0 : FY i i') : ∀ c, c ≠ 48 → i' 504 c = i 504 c := h0.2
theorem FY.mk {i i' : MI} (h0 : ∀ a, a ≠ 504 → (a < 529 ∨ 534 < a) → i' a = i a) (h1 : ∀ c, c ≠ 48 → i' 504 c = i 504 c) : FY i i' := ⟨h0, h1⟩
theorem FY.refl (i : MI) : FY i i := ⟨fun _ _ _ => rfl, fun _ _ => rfl⟩
theorem FY.trans {i j k : MI} (h : FY i j) (g : FY j k) : FY i k := ⟨fun a x y => (g.i a x y).trans (h.i a x y), fun a x => (g.c a x).trans (h.c a x)⟩
theorem FY.sa {a k v : Int} {i : MI} (h : 529 ≤ a ∧ a ≤ 534) : FY i (st i a k v) := ⟨fun b x y => st_row (by omega), fun c x => by rw [st_row (by omega)]⟩
theorem FY.s4 {v : Int} {i : MI} : FY i (st i 504 48 v) := ⟨fun b x y => st_row x, fun c x => st_ne (by omega)⟩
theorem ME.fy {D : Dat} {i i' : MI} (h : ME D i) (g : FY i i') : ME D i' := by
  have r : ∀ a, 523 ≤ a → a ≤ 528 → i' a = i a := fun a x y => g.i a (by omega) (by omega)
  refine ⟨h.p.congr (fun c hc => g.c c (by omega)) (g.i _ (by decide) (by decide)) (fun a x y => g.i _ (by omega) (by omega)) (fun a x y => g.i _ (by omega) (by omega)), ?_, ?_⟩
  · refine ⟨by rw [g.c _ (by decide)]; exact h.w.n, fun v c v0 v1 c0 c1 => ?_, fun v v0 v1 hw => ?_, by rw [g.i _ (by decide) (by decide)]; exact h.w.y, by rw [g.c _ (by decide)]; exact h.w.f⟩
    · rw [g.i _ (by omega) (by omega)]; exact h.w.a v c v0 v1 c0 c1
    · rw [g.i _ (by omega) (by omega), g.i _ (by omega) (by omega)]; exact h.w.m v v0 v1 hw
  · have e30 := g.c 30 (by decide)
    have s : ∀ e f t, samE i' e f t ↔ samE i e f t := fun e f t => by unfold samE; rw [r 523 (by decide) (by decide), r 524 (by decide) (by decide)]
    refine ⟨by rw [e30]; exact h.g.n, ?_, ?_, ?_, h.g.r, ?_, ?_⟩
    · rw [e30, r 523 (by decide) (by decide), r 524 (by decide) (by decide), r 525 (by decide) (by decide), r 526 (by decide) (by decide)]; exact h.g.e
    · intro f t d w z
      obtain ⟨e, a, b, c, d'⟩ := h.g.s f t d w z
      exact ⟨e, a, by rw [e30]; exact b, (s _ _ _).2 c, by rw [r 525 (by decide) (by decide)]; exact d'⟩
    · intro e e' a b c d z z2
      rw [s, r 523 (by decide) (by decide), r 524 (by decide) (by decide)] at z
      rw [r 525 (by decide) (by decide)] at z2
      rw [e30] at b d
      exact h.g.u e e' a b c d z z2
    · intro f t a b c d
      have := h.g.h f t a b c d
      unfold topE at this ⊢
      simp only [s, e30, r 528 (by decide) (by decide)]
      exact this
    · intro e a b
      rw [e30] at b
      have := h.g.x e a b
      unfold topE at this ⊢
      simp only [s, r 527 (by decide) (by decide), r 523 (by decide) (by decide), r 524 (by decide) (by decide)]
      exact this
theorem FY.fm {i i' : MI} (g : FY i i') : Fm i i' := fun a ha => g.i a (by omega) (by omega)
theorem mbuild_w {D : Dat} (ok : DOk D) {i r : MI} {Q : MI → Prop} (h : ModelP D i) (hQ : ∀ i', FU i i' → ME D i' → Q i') : wp_X12_build i r Q :=
  build_w ok h (fun i' f a b c => hQ i' f ⟨a, b, c⟩)
theorem findSoon_w {D : Dat} (ok : DOk D) {i r : MI} {Q : MI → Prop} (h : ModelP D i) (hQ : ∀ i1 i', FU i i1 → FY i1 i' → ME D i' → IsSoon D (i' 529) → IsEnd D (i' 529) (i' 504 48) → IsLate D (i' 504 48) (i' 530) → Q i') : wp_X12_findSoon i r Q := by
  have hn := nn_le ok
  have sbn := sumC_b ok hn.1 (Int.le_refl _)
  unfold wp_X12_findSoon
  refine mbuild_w ok h (fun i1 f1 e1 => ?_)
  refine Lp.r2 (fun (x : Int) (m : MI) => 0 ≤ x ∧ x ≤ nn D ∧ FY i1 m ∧ (∀ v, 0 ≤ v → v < x → 0 ≤ m 529 v ∧ m 529 v ≤ sumC D v ∧ (∀ f w, Ed D f v 0 w → m 529 f + w ≤ m 529 v) ∧ (m 529 v = 0 ∨ ∃ f w, Ed D f v 0 w ∧ m 529 v = m 529 f + w)) ∧ 0 ≤ m 504 48 ∧ (∀ v, 0 ≤ v → v < x → m 529 v + cyv D v ≤ m 504 48) ∧ (m 504 48 = 0 ∨ ∃ v, 0 ≤ v ∧ v < x ∧ m 504 48 = m 529 v + cyv D v)) (fun x _ => (nn D - x).toNat) ?_ ⟨by decide, hn.1, FY.s4, fun v a b => by omega, by rw [st_eq]; omega, fun v a b => by omega, .inl st_eq⟩
  intro x m C ⟨h0, h1, h2, h3, h4, h5, h6⟩ hC
  dsimp only [b11_X12_findSoon]
  have em := e1.fy h2
  rw [em.w.n]
  refine ⟨fun q => ?_, fun q => ⟨by omega, ?_⟩⟩
  · have ex : x = nn D := by omega
    rw [ex] at h3 h5 h6
    have isS : IsSoon D (m 529) := h3
    have isE : IsEnd D (m 529) (m 504 48) := ⟨h4, h5, h6⟩
    have hle := end_le ok isS isE
    have sb : ∀ v, 0 ≤ v → v < nn D → 0 ≤ m 529 v ∧ m 529 v ≤ 480 := fun v a b => by
      have h1 := (isS v a b).1
      have h2 := (isS v a b).2.1
      have h3 := sumC_b ok (v := v) a (by omega)
      omega
    rw [wr_of (by omega) (by omega)]
    refine Lp.r2 (fun (x : Int) (m' : MI) => -1 ≤ x ∧ x < nn D ∧ FY i1 m' ∧ m' 529 = m 529 ∧ m' 504 48 = m 504 48 ∧ ∀ v, x < v → v < nn D → m 529 v ≤ m' 530 v ∧ m' 530 v ≤ m 504 48 - cyv D v ∧ (∀ t w, Ed D v t 0 w → m' 530 v ≤ m' 530 t - w) ∧ (m' 530 v = m 504 48 - cyv D v ∨ ∃ t w, Ed D v t 0 w ∧ m' 530 v = m' 530 t - w)) (fun x _ => (x + 1).toNat) ?_ ⟨by omega, by omega, h2, rfl, rfl, fun v a b => by omega⟩
    intro x m2 C2 ⟨k0, k1, k2, k3, k4, k5⟩ hC2
    dsimp only [b130_X12_findSoon]
    have em2 := e1.fy k2
    refine ⟨fun q => hQ i1 m2 f1 k2 em2 (by rw [k3]; exact isS) (by rw [k3, k4]; exact isE) (by rw [k4]; exact fun v a b => (k5 v (by omega) b).2), fun q => ?_⟩
    have hx : 0 ≤ x ∧ x < nn D := ⟨by omega, k1⟩
    have cx := cyv_r ok hx
    have ex2 := isE.2.1 x hx.1 hx.2
    refine mcyc_w ok em2.w hx ⟨by omega, ?_⟩
    rw [k4, wr_of (x := m 504 48 - cyv D x) (by omega) (by omega)]
    have up : ∀ t w, Ed D x t 0 w → x < t := fun t w z => (ed_props ok z).2.2.2.2.1 rfl
    refine Lp.r2 (fun (y : Int) (m' : MI) => 0 ≤ y ∧ y ≤ i1 504 30 ∧ FY i1 m' ∧ m' 529 = m 529 ∧ m' 504 48 = m 504 48 ∧ (∀ v, v ≠ x → m' 530 v = m2 530 v) ∧ m 529 x ≤ m' 530 x ∧ m' 530 x ≤ m 504 48 - cyv D x ∧ (∀ e, 0 ≤ e → e < y → i1 523 e = x → i1 525 e = 0 → m' 530 x ≤ m2 530 (i1 524 e) - i1 526 e) ∧ (m' 530 x = m 504 48 - cyv D x ∨ ∃ e, 0 ≤ e ∧ e < y ∧ i1 523 e = x ∧ i1 525 e = 0 ∧ m' 530 x = m2 530 (i1 524 e) - i1 526 e)) (fun y _ => (i1 504 30 - y).toNat) ?_ ⟨by decide, e1.g.n, k2.trans (FY.sa (by decide)), by rw [st_row (by decide)]; exact k3, by rw [st_row (by decide)]; exact k4, fun v z => by rw [st_ne (by omega)], by rw [st_eq]; omega, by rw [st_eq]; omega, fun e a b => by omega, .inl st_eq⟩
    intro y m3 C3 ⟨j0, j1, j2, j3, jl, j4, j5, j6, j7, j8⟩ hC3
    dsimp only [b152_X12_findSoon, s212_X12_findSoon]
    have gle := e1.g.le ok
    have r30 : m3 504 30 = i1 504 30 := j2.c _ (by decide)
    have r23 : m3 523 = i1 523 := j2.i _ (by decide) (by decide)
    have r24 : m3 524 = i1 524 := j2.i _ (by decide) (by decide)
    have r25 : m3 525 = i1 525 := j2.i _ (by decide) (by decide)
    have r26 : m3 526 = i1 526 := j2.i _ (by decide) (by decide)
    rw [r30, r23, r24, r25, r26]
    refine ⟨fun q3 => ?_, fun q3 => ⟨by omega, ?_⟩⟩
    · rw [wr_of (by omega) (by omega), show x + (-1) = x - 1 by omega]
      refine hC2 _ _ ⟨by omega, by omega, j2, j3, jl, fun v a b => ?_⟩ (by omega)
      have ey : y = i1 504 30 := by omega
      by_cases ev : v = x
      · subst ev
        refine ⟨j5, j6, fun t w z => ?_, ?_⟩
        · obtain ⟨e, e0, e1', e2, e3, e4, e5⟩ := GrM.fd e1.g z
          have := j7 e e0 (by omega) e2 e4
          rw [e3, e5] at this
          rw [j4 t (by have := up t w z; omega)]
          exact this
        · rcases j8 with z | ⟨e, e0, e1', e2, e3, e4⟩
          · exact .inl z
          · have hE := GrM.ed e1.g (e := e) ⟨e0, by omega⟩
            rw [e2, e3] at hE
            have := up _ _ hE
            exact .inr ⟨i1 524 e, i1 526 e, hE, by rw [j4 (i1 524 e) (by omega)]; exact e4⟩
      · obtain ⟨a1, a2, a3, a4⟩ := k5 v (by omega) b
        have up2 : ∀ t w, Ed D v t 0 w → t ≠ x := fun t w z => by
          have := (ed_props ok z).2.2.2.2.1 rfl
          omega
        rw [j4 v ev]
        refine ⟨a1, a2, fun t w z => by rw [j4 t (up2 t w z)]; exact a3 t w z, ?_⟩
        rcases a4 with z | ⟨t, w, z1, z2⟩
        · exact .inl z
        · exact .inr ⟨t, w, z1, by rw [j4 t (up2 t w z1)]; exact z2⟩
    · have hE := GrM.ed e1.g (e := y) ⟨j0, by omega⟩
      rw [wr_of (x := y + 1) (by omega) (by omega)]
      have skip : ¬ (i1 523 y = x ∧ i1 525 y = 0) → C3 (y + 1, m3) := by
        intro hno
        refine hC3 _ _ ⟨by omega, by omega, j2, j3, jl, j4, j5, j6, fun e a b c c2 => ?_, ?_⟩ (by omega)
        · by_cases z : e = y
          · rw [z] at c c2; exact absurd ⟨c, c2⟩ hno
          · exact j7 e a (by omega) c c2
        · rcases j8 with w | ⟨e, e1, e2, e3, e4⟩
          · exact .inl w
          · exact .inr ⟨e, e1, by omega, e3, e4⟩
      refine ⟨fun ef => ⟨by omega, fun e0 => ?_, fun e0 => skip (fun z => e0 z.2)⟩, fun ef => skip (fun z => ef z.1)⟩
      rw [e0, ef] at hE
      have hut := up _ _ hE
      obtain ⟨_, ht, _, _, _, hw1, hw2⟩ := ed_props ok hE
      obtain ⟨a1, a2, _, _⟩ := k5 _ hut ht.2
      have sx := sb _ ht.1 ht.2
      have ct := cyv_r ok ht
      have ss := (isS _ ht.1 ht.2).2.2.1 x _ hE
      rw [j4 (i1 524 y) (by omega), wr_of (x := m2 530 _ - i1 526 y) (by omega) (by omega)]
      refine ⟨by omega, by omega, by omega, by omega, by omega, ?_⟩
      have ev : st m3 530 x (min (m3 530 x) (m2 530 (i1 524 y) - i1 526 y)) 530 x = min (m3 530 x) (m2 530 (i1 524 y) - i1 526 y) := st_eq
      refine hC3 _ _ ⟨by omega, by omega, j2.trans (FY.sa (by decide)), by rw [st_row (by decide)]; exact j3, by rw [st_row (by decide)]; exact jl, fun v z => by rw [st_ne (by omega)]; exact j4 v z, ?_, ?_, ?_, ?_⟩ (by omega)
      · rw [ev]; clear j8; omega
      · rw [ev]; clear j8; omega
      · intro e a b c c2
        rw [ev]
        by_cases z : e = y
        · rw [z]; clear j8; omega
        · have := j7 e a (by omega) c c2; clear j8; omega
      · rw [ev]
        rcases Int.le_total (m3 530 x) (m2 530 (i1 524 y) - i1 526 y) with z | z
        · rw [Int.min_eq_left z]
          rcases j8 with w | ⟨e, e1, e2, e3, e4⟩
          · exact .inl w
          · exact .inr ⟨e, e1, by omega, e3, e4⟩
        · exact .inr ⟨y, j0, by omega, ef, e0, by rw [Int.min_eq_right z]⟩
  · have hx : 0 ≤ x ∧ x < nn D := ⟨h0, by omega⟩
    have cx := cyv_r ok hx
    have sx := sumC_b ok (v := x) h0 (by omega)
    have low : ∀ f w, Ed D f x 0 w → 0 ≤ f ∧ f < x := fun f w z => ⟨(ed_props ok z).1.1, (ed_props ok z).2.2.2.2.1 rfl⟩
    refine Lp.r2 (fun (y : Int) (m' : MI) => 0 ≤ y ∧ y ≤ i1 504 30 ∧ FY i1 m' ∧ m' 504 48 = m 504 48 ∧ (∀ v, v ≠ x → m' 529 v = m 529 v) ∧ 0 ≤ m' 529 x ∧ m' 529 x ≤ sumC D x ∧ (∀ e, 0 ≤ e → e < y → i1 524 e = x → i1 525 e = 0 → m 529 (i1 523 e) + i1 526 e ≤ m' 529 x) ∧ (m' 529 x = 0 ∨ ∃ e, 0 ≤ e ∧ e < y ∧ i1 524 e = x ∧ i1 525 e = 0 ∧ m' 529 x = m 529 (i1 523 e) + i1 526 e)) (fun y _ => (i1 504 30 - y).toNat) ?_ ⟨by decide, e1.g.n, h2.trans (FY.sa (by decide)), by rw [st_row (by decide)], fun v z => by rw [st_ne (by omega)], by rw [st_eq]; omega, by rw [st_eq]; omega, fun e a b => by omega, .inl st_eq⟩
    intro y m3 C3 ⟨j0, j1, j2, jl, j4, j5, j6, j7, j8⟩ hC3
    dsimp only [b28_X12_findSoon, s88_X12_findSoon]
    have gle := e1.g.le ok
    have em3 := e1.fy j2
    have r30 : m3 504 30 = i1 504 30 := j2.c _ (by decide)
    have r23 : m3 523 = i1 523 := j2.i _ (by decide) (by decide)
    have r24 : m3 524 = i1 524 := j2.i _ (by decide) (by decide)
    have r25 : m3 525 = i1 525 := j2.i _ (by decide) (by decide)
    have r26 : m3 526 = i1 526 := j2.i _ (by decide) (by decide)
    rw [r30, r23, r24, r25, r26]
    have l48 : m 504 48 ≤ 480 := by
      rcases h6 with z | ⟨v, a, b, z⟩
      · omega
      · have h7 := (h3 v a b).2.1
        have h8 := sumC_mono ok (u := v + 1) (v := nn D) (by omega) (by omega) (Int.le_refl _)
        rw [sumC_s a] at h8
        omega
    refine ⟨fun q3 => ⟨by omega, mcyc_w ok em3.w hx ?_⟩, fun q3 => ⟨by omega, ?_⟩⟩
    · rw [wr_of (x := x + 1) (by omega) (by omega), wr_of (x := m3 529 x + cyv D x) (by clear j8; omega) (by clear j8; omega), jl]
      have ey : y = i1 504 30 := by omega
      have k48 : st m3 504 48 (max (m 504 48) (m3 529 x + cyv D x)) 504 48 = max (m 504 48) (m3 529 x + cyv D x) := st_eq
      have k29 : st m3 504 48 (max (m 504 48) (m3 529 x + cyv D x)) 529 = m3 529 := st_row (by decide)
      refine hC _ _ ⟨by omega, by omega, j2.trans FY.s4, ?_, ?_, ?_, ?_⟩ (by omega)
      · rw [k29]
        intro v a b
        by_cases ev : v = x
        · subst ev
          refine ⟨j5, j6, fun f w z => ?_, ?_⟩
          · obtain ⟨e, e0, e1', e2, e3, e4, e5⟩ := GrM.fd e1.g z
            have := j7 e e0 (by omega) e3 e4
            rw [e2, e5] at this
            rw [j4 f (by have := low f w z; omega)]
            exact this
          · rcases j8 with z | ⟨e, e0, e1', e2, e3, e4⟩
            · exact .inl z
            · have hE := GrM.ed e1.g (e := e) ⟨e0, by omega⟩
              rw [e2, e3] at hE
              have := low _ _ hE
              exact .inr ⟨i1 523 e, i1 526 e, hE, by rw [j4 (i1 523 e) (by omega)]; exact e4⟩
        · obtain ⟨a1, a2, a3, a4⟩ := h3 v a (by omega)
          have lw : ∀ f w, Ed D f v 0 w → f ≠ x := fun f w z => by
            have := (ed_props ok z).2.2.2.2.1 rfl
            omega
          rw [j4 v ev]
          refine ⟨a1, a2, fun f w z => by rw [j4 f (lw f w z)]; exact a3 f w z, ?_⟩
          rcases a4 with z | ⟨f, w, z1, z2⟩
          · exact .inl z
          · exact .inr ⟨f, w, z1, by rw [j4 f (lw f w z1)]; exact z2⟩
      · rw [k48]; clear j8 h6; omega
      · rw [k48, k29]
        intro v a b
        by_cases ev : v = x
        · rw [ev]; clear j8 h6; omega
        · have := h5 v a (by omega)
          rw [j4 v ev]; clear j8 h6; omega
      · rw [k48, k29]
        rcases Int.le_total (m 504 48) (m3 529 x + cyv D x) with z | z
        · exact .inr ⟨x, h0, by omega, by rw [Int.max_eq_right z]⟩
        · rw [Int.max_eq_left z]
          rcases h6 with w | ⟨v, a, b, w⟩
          · exact .inl w
          · exact .inr ⟨v, a, by omega, by rw [j4 v (by omega)]; exact w⟩
    · have hE := GrM.ed e1.g (e := y) ⟨j0, by omega⟩
      rw [wr_of (x := y + 1) (by omega) (by omega)]
      have skip : ¬ (i1 524 y = x ∧ i1 525 y = 0) → C3 (y + 1, m3) := by
        intro hno
        refine hC3 _ _ ⟨by omega, by omega, j2, jl, j4, j5, j6, fun e a b c c2 => ?_, ?_⟩ (by omega)
        · by_cases z : e = y
          · rw [z] at c c2; exact absurd ⟨c, c2⟩ hno
          · exact j7 e a (by omega) c c2
        · rcases j8 with w | ⟨e, e1, e2, e3, e4⟩
          · exact .inl w
          · exact .inr ⟨e, e1, by omega, e3, e4⟩
      refine ⟨fun ef => ⟨by omega, fun e0 => ?_, fun e0 => skip (fun z => e0 z.2)⟩, fun ef => skip (fun z => ef z.1)⟩
      rw [e0, ef] at hE
      have hlw := low _ _ hE
      obtain ⟨hf, _, _, _, _, hw1, hw2⟩ := ed_props ok hE
      have a1 := (h3 _ hlw.1 hlw.2).1
      have a2 := (h3 _ hlw.1 hlw.2).2.1
      have s2 := sumC_b ok (v := i1 523 y) hlw.1 (by omega)
      have cf := cyv_r ok hf
      have m1 := sumC_mono ok (u := i1 523 y + 1) (v := x) (by omega) (by omega) (by omega)
      rw [sumC_s hlw.1] at m1
      rw [j4 (i1 523 y) (by omega), wr_of (x := m 529 _ + i1 526 y) (by omega) (by omega)]
      refine ⟨by omega, by omega, by omega, by omega, by omega, ?_⟩
      have ev : st m3 529 x (max (m3 529 x) (m 529 (i1 523 y) + i1 526 y)) 529 x = max (m3 529 x) (m 529 (i1 523 y) + i1 526 y) := st_eq
      refine hC3 _ _ ⟨by omega, by omega, j2.trans (FY.sa (by decide)), by rw [st_row (by decide)]; exact jl, fun v z => by rw [st_ne (by omega)]; exact j4 v z, ?_, ?_, ?_, ?_⟩ (by omega)
      · rw [ev]; clear j8 h6; omega
      · rw [ev]; clear j8 h6; omega
      · intro e a b c c2
        rw [ev]
        by_cases z : e = y
        · rw [z]; clear j8 h6; omega
        · have := j7 e a (by omega) c c2; clear j8 h6; omega
      · rw [ev]
        rcases Int.le_total (m3 529 x) (m 529 (i1 523 y) + i1 526 y) with z | z
        · exact .inr ⟨y, j0, by omega, ef, e0, by rw [Int.max_eq_right z]⟩
        · rw [Int.max_eq_left z]
          rcases j8 with w | ⟨e, e1, e2, e3, e4⟩
          · exact .inl w
          · exact .inr ⟨e, e1, by omega, e3, e4⟩
