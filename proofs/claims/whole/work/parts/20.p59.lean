/-! ===== places: the reference ===== -/
def G2 (i i' : MI) : Prop := ∀ a, a ≠ 532 → i' a = i a
theorem G2.refl (i : MI) : G2 i i := fun _ _ => rfl
theorem G2.trans {i j k : MI} (h : G2 i j) (g : G2 j k) : G2 i k := fun a x => (g a x).trans (h a x)
theorem G2.sa {k v : Int} {i : MI} : G2 i (st i 532 k v) := fun b x => st_row x
theorem G2.fy {i i' : MI} (h : G2 i i') : FY i i' := ⟨fun a _ x => h a (by omega), fun c _ => by rw [h 504 (by decide)]⟩
theorem isFree_w {D : Dat} (ok : DOk D) {i r : MI} {T v s : Int} {Q : Int → Prop} (h : ME D i) (hT : 1 ≤ T ∧ T ≤ 481) (hv : 0 ≤ v ∧ v < nn D) (hs : 0 ≤ s ∧ s ≤ 100000) (h1 : FitP D T (i 532) v s → Q 1) (h0 : ¬ FitP D T (i 532) v s → Q 0) : wp_X12_isFree v s T i r Q := by
  have nl := nn_le ok
  have el := h.g.le ok
  have e00 := h.g.n
  have kr := kdv_r ok hv
  unfold wp_X12_isFree
  refine Lp.r2 (fun (x u : Int) => 0 ≤ u ∧ u ≤ v ∧ CntP (UseP D T (i 532) (kdv D v) (Int.tmod s T)) u.toNat x) (fun _ u => (v - u).toNat) ?_ ⟨by decide, by omega, rfl⟩
  intro x u C ⟨u0, u1, hx⟩ hC
  have xb := CntP.b _ _ hx
  dsimp only [b9_X12_isFree, s53_X12_isFree, s52_X12_isFree]
  refine ⟨fun q => ?_, fun q => ⟨by omega, by omega, ?_⟩⟩
  · have ev : u = v := by omega
    rw [ev] at hx
    refine Lp.r2 (fun (y e : Int) => 0 ≤ e ∧ e ≤ i 504 30 ∧ ((y = 1 ∧ ∀ e', 0 ≤ e' → e' < e → i 523 e' = v → i 524 e' < v → s + i 526 e' - T * i 525 e' ≤ i 532 (i 524 e')) ∨ (y = 0 ∧ ¬ BackP D T (i 532) v s))) (fun _ e => (i 504 30 - e).toNat) ?_ ⟨by decide, by omega, .inl ⟨rfl, fun e a b => by omega⟩⟩
    intro y e C2 ⟨e0, e1, hy⟩ hC2
    dsimp only [b65_X12_isFree, s185_X12_isFree, s186_X12_isFree, s100_X12_isFree, s101_X12_isFree, s147_X12_isFree, s151_X12_isFree, s152_X12_isFree]
    refine ⟨fun q2 => ⟨fun q3 => ⟨.inl rfl, h0 (fun z => ?_)⟩, fun q3 => ?_⟩, fun q2 => ⟨by omega, ?_⟩⟩
    · rcases hy with ⟨w, _⟩ | ⟨_, w⟩
      · omega
      · exact w z.1
    · rcases hy with ⟨_, w⟩ | ⟨w, _⟩
      · rw [h.w.kd hv, h.p.un _ kr.1 kr.2]
        have bk : BackP D T (i 532) v s := fun t d w' ed l => by
          obtain ⟨e', a, b, c1, c2, c3, c4⟩ := h.g.fd ed
          have := w e' a (by omega) c1 (by omega)
          rw [c2, c3, c4] at this
          exact this
        refine ⟨by omega, kr, fun q4 => ⟨.inl rfl, h0 (fun z => ?_)⟩, fun q4 => ⟨.inr rfl, h1 ⟨bk, x, hx, by omega⟩⟩⟩
        obtain ⟨x', hx', l⟩ := z.2
        have := CntP.uniq _ _ _ hx hx'
        omega
      · exact absurd w q3
    · rw [wr_of (x := e + 1) (by omega) (by omega)]
      have ed := h.g.ed (e := e) ⟨e0, by omega⟩
      obtain ⟨⟨f0, f1⟩, ⟨t0, t1⟩, d0, d1, _, w0, w1⟩ := ed_props ok ed
      have cx := cyv_r ok (v := i 523 e) ⟨f0, f1⟩
      have td := td_b (T := T) (by omega) ⟨d0, d1⟩
      have keep : (¬ (i 523 e = v ∧ i 524 e < v) ∨ s + i 526 e - T * i 525 e ≤ i 532 (i 524 e)) → ¬ y = 0 → C2 (1, e + 1) := fun z z2 => hC2 _ _ ⟨by omega, by omega, .inl ⟨rfl, fun e' a b c d => by
        by_cases ee : e' = e
        · rw [ee] at c d ⊢
          rcases z with z | z
          · exact absurd ⟨c, d⟩ z
          · exact z
        · rcases hy with ⟨_, w⟩ | ⟨w, _⟩
          · exact w e' a (by omega) c d
          · exact absurd w z2⟩⟩ (by omega)
      have lost : y = 0 → C2 (0, e + 1) := fun z => hC2 _ _ ⟨by omega, by omega, .inr ⟨rfl, by
        rcases hy with ⟨w, _⟩ | ⟨_, w⟩
        · omega
        · exact w⟩⟩ (by omega)
      refine ⟨fun q3 => ⟨by omega, fun q4 => ⟨lost, fun z => ⟨fun _ => keep (.inl (by omega)) z, fun w => absurd rfl w⟩⟩, fun q4 => ⟨lost, fun z => ⟨fun w => absurd w (by decide), fun _ => ⟨by omega, by omega, by omega, by omega, ?_⟩⟩⟩⟩, fun q3 => ⟨lost, fun z => ⟨fun _ => keep (.inl (fun w => q3 w.1)) z, fun w => absurd rfl w⟩⟩⟩
      rw [wr_of (x := s + i 526 e) (by omega) (by omega), wr_of (x := T * i 525 e) (by omega) (by omega), wr_of (x := s + i 526 e - T * i 525 e) (by omega) (by omega)]
      refine ⟨fun q5 => hC2 _ _ ⟨by omega, by omega, .inr ⟨rfl, fun z2 => ?_⟩⟩ (by omega), fun q5 => keep (.inr (by omega)) z⟩
      rw [q3] at ed
      have := z2 _ _ _ ed (by omega)
      omega
  · have st : ∀ y, ((UseP D T (i 532) (kdv D v) (Int.tmod s T) u ∧ y = x + 1) ∨ (¬ UseP D T (i 532) (kdv D v) (Int.tmod s T) u ∧ y = x)) → C (y, u + 1) := fun y hy => hC _ _ ⟨by omega, by omega, CntP.up u0 hx (fun _ _ _ => Iff.rfl) y hy⟩ (by omega)
    rw [h.w.kd hv, h.w.kd ⟨u0, by omega⟩, wr_of (x := u + 1) (by omega) (by omega), wr_of (x := x + 1) (by omega) (by omega), wr_of (x := x + 0) (by omega) (by omega), show x + 0 = x by omega]
    exact ⟨fun q2 => ⟨by omega, by omega, by omega, fun q3 => st _ (.inl ⟨⟨q2, q3⟩, rfl⟩), fun q3 => st _ (.inr ⟨fun w => q3 w.2, rfl⟩)⟩, fun q2 => st _ (.inr ⟨fun w => q2 w.1, rfl⟩)⟩
theorem canPlace_w {D : Dat} (ok : DOk D) {i r : MI} {T : Int} {Q : Int → MI → Prop} (h : ME D i) (hT : 1 ≤ T ∧ T ≤ 481) (h1 : ∀ m, G2 i m → PlU D T (m 532) (nn D) → Q 1 m) (h0 : ∀ m, G2 i m → ¬ CanP D T → T < sumC D (nn D) → Q 0 m) : wp_X12_canPlace T i r Q := by
  have nl := nn_le ok
  have el := h.g.le ok
  have e00 := h.g.n
  unfold wp_X12_canPlace
  refine Lp.r2 (fun (n : Int) (m : MI) => 0 ≤ n ∧ n ≤ nn D ∧ G2 i m ∧ PlU D T (m 532) n) (fun n _ => (nn D - n).toNat) ?_ ⟨by decide, nl.1, G2.refl i, fun v a b => by omega⟩
  intro n m C ⟨n0, n1, f, pl⟩ hC
  dsimp only [b2_X12_canPlace]
  have em := h.fy f.fy
  have pb := pl_b ok hT (n := n) n1 pl
  rw [em.w.n]
  refine ⟨fun q => h1 m f (by rw [show nn D = n by omega]; exact pl), fun q => ?_⟩
  have hn : 0 ≤ n ∧ n < nn D := ⟨n0, by omega⟩
  have m30 : m 504 30 = i 504 30 := by rw [f 504 (by decide)]
  refine Lp.r2 (fun (a e : Int) => 0 ≤ e ∧ e ≤ m 504 30 ∧ 0 ≤ a ∧ (∀ e', 0 ≤ e' → e' < e → m 524 e' = n → m 523 e' < n → m 532 (m 523 e') + m 526 e' - T * m 525 e' ≤ a) ∧ (a = 0 ∨ ∃ u d w, Ed D u n d w ∧ u < n ∧ a = m 532 u + w - T * d)) (fun _ e => (m 504 30 - e).toNat) ?_ ⟨by decide, by omega, by decide, fun e a b => by omega, .inl rfl⟩
  intro a e C2 ⟨e0, e1, a0, a1, a2⟩ hC2
  dsimp only [b15_X12_canPlace, s50_X12_canPlace, s51_X12_canPlace, s96_X12_canPlace, s131_X12_canPlace]
  refine ⟨fun q2 => ?_, fun q2 => ⟨by omega, ?_⟩⟩
  · have fr : FromP D T (m 532) n a := ⟨a0, fun u d w ed l => by
      obtain ⟨e', x, y, c1, c2, c3, c4⟩ := em.g.fd ed
      have := a1 e' x (by omega) c2 (by omega)
      rw [c1, c3, c4] at this
      exact this, a2⟩
    have ab := from_b ok hT ⟨n0, n1⟩ pl fr
    refine Lp.rule (fun (s : Int) => a ≤ s ∧ s ≤ a + T ∧ (∀ c, a ≤ c → c < s → ¬ FitP D T (m 532) n c)) (fun s => (a + T - s).toNat) ?_ _ ⟨Int.le_refl _, by omega, fun c x y => by omega⟩
    intro s C3 ⟨s0, s1, no⟩ hC3
    dsimp only [b106_X12_canPlace]
    rw [wr_of (x := a + T) (by omega) (by omega), wr_of (x := s + 1) (by omega) (by omega)]
    dsimp only [s131_X12_canPlace]
    rw [wr_of (x := a + T) (by omega) (by omega), wr_of (x := n + 1) (by omega) (by omega)]
    have stk : s = a + T → Q 0 m := fun z => by
      have sk : StuckP D T (m 532) n := ⟨a, fr, fun c x y => no c x (by omega)⟩
      exact h0 m f (stuck_no ok hn pl sk) (Classical.byContradiction fun w => no_stuck ok (by omega) hn pl sk)
    refine ⟨fun q3 => ⟨stk, fun q4 => by omega⟩, fun q3 => isFree_w ok em hT hn (by omega) (fun ft => ⟨fun q4 => absurd q4 (by decide), fun _ => ⟨fun q5 => by omega, fun q5 => ⟨by omega, ?_⟩⟩⟩) (fun nf => ⟨fun _ => ?_, fun q4 => absurd rfl q4⟩)⟩
    · exact hC _ _ ⟨by omega, by omega, f.trans G2.sa, pl.step ok (q := st m 532 n s 532) ⟨fr, s0, by omega, ft, no⟩ n0 (fun u x y => by rw [st_ne (by omega)]) st_eq⟩ (by omega)
    · refine hC3 _ ⟨by omega, by omega, fun c x y => ?_⟩ (by omega)
      by_cases z : c = s
      · rw [z]; exact nf
      · exact no c x (by omega)
  · have ed := em.g.ed (e := e) ⟨e0, by omega⟩
    obtain ⟨⟨f0, f1⟩, ⟨t0, t1⟩, d0, d1, _, w0, w1⟩ := ed_props ok ed
    have cx := cyv_r ok (v := m 523 e) ⟨f0, f1⟩
    have td := td_b (T := T) (by omega) ⟨d0, d1⟩
    rw [wr_of (x := e + 1) (by omega) (by omega)]
    have skip : ¬ (m 524 e = n ∧ m 523 e < n) → C2 (a, e + 1) := fun z => hC2 _ _ ⟨by omega, by omega, a0, fun e' x y c d => by
      by_cases ee : e' = e
      · rw [ee] at c d
        exact absurd ⟨c, d⟩ z
      · exact a1 e' x (by omega) c d, a2⟩ (by omega)
    refine ⟨fun q3 => ⟨by omega, fun q4 => ⟨fun _ => skip (by omega), fun w => absurd rfl w⟩, fun q4 => ⟨fun w => absurd w (by decide), fun _ => ⟨by omega, by omega, by omega, by omega, ?_⟩⟩⟩, fun q3 => ⟨fun _ => skip (fun w => q3 w.1), fun w => absurd rfl w⟩⟩
    have p1 := pb _ f0 (by omega)
    rw [wr_of (x := m 532 (m 523 e) + m 526 e) (by omega) (by omega), wr_of (x := T * m 525 e) (by omega) (by omega), wr_of (x := m 532 (m 523 e) + m 526 e - T * m 525 e) (by omega) (by omega)]
    refine hC2 _ _ ⟨by omega, by omega, by omega, fun e' x y c d => ?_, ?_⟩ (by omega)
    · by_cases ee : e' = e
      · rw [ee]; omega
      · have := a1 e' x (by omega) c d
        omega
    · rcases Int.le_total a (m 532 (m 523 e) + m 526 e - T * m 525 e) with z | z
      · rw [Int.max_eq_right z]
        rw [q3] at ed
        exact .inr ⟨_, _, _, ed, by omega, rfl⟩
      · rw [Int.max_eq_left z]; exact a2
theorem mplaceAll_w {D : Dat} (ok : DOk D) {i r : MI} {Q : Int → MI → Prop} (h : ModelP D i) (hQ : ∀ T i1 m, FU i i1 → FY i1 m → ME D m → IsInt D T → PlU D T (m 532) (nn D) → Q T m) : wp_X12_placeAll i r Q := by
  have s4 := sum480 ok
  have ub := uT_b ok
  unfold wp_X12_placeAll
  refine mbuild_w ok h (fun i1 f1 e1 => rings_w ok e1 (fun R m1 g1 hR => ?_))
  have rl := ring_le ok hR
  have r1 := hR.1
  have e2 := e1.fy g1.fy
  refine mbyUnits_w ok e2 ?_
  refine Lp.r2 (fun (T : Int) (m : MI) => max R (uT D) ≤ T ∧ T ≤ 480 ∧ G2 m1 m ∧ ∀ c, max R (uT D) ≤ c → c < T → ¬ CanP D c) (fun T _ => (480 - T).toNat) ?_ ⟨Int.le_refl _, by omega, G2.refl m1, fun c a b => by omega⟩
  intro T m C ⟨t0, t1, f, no⟩ hC
  dsimp only [b16_X12_placeAll]
  refine canPlace_w ok (e2.fy f.fy) (by omega) (fun m2 f2 p2 => ⟨fun q => absurd q (by decide), fun _ => ?_⟩) (fun m2 f2 n2 l2 => ⟨fun _ => ?_, fun q => absurd rfl q⟩)
  · exact hQ T i1 m2 f1 (g1.fy.trans (f.fy.trans f2.fy)) (e2.fy (f.fy.trans f2.fy)) ⟨R, hR, t0, t1, ⟨_, p2⟩, no⟩ p2
  · rw [wr_of (x := T + 1) (by omega) (by omega)]
    refine hC _ _ ⟨by omega, by omega, f.trans f2, fun c a b => ?_⟩ (by omega)
    by_cases z : c = T
    · rw [z]; exact n2
    · exact no c a (by omega)
