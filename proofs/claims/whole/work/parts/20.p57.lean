/-! ===== places: the class, further ===== -/
theorem CntP.up {P R : Int → Prop} {n x : Int} (h0 : 0 ≤ n) (h : CntP P n.toNat x) (e : ∀ v, 0 ≤ v → v < n → (P v ↔ R v)) (y : Int) (hy : (R n ∧ y = x + 1) ∨ (¬ R n ∧ y = x)) : CntP R (n + 1).toNat y := by
  have h' : CntP R n.toNat x := h.iff _ _ (fun v a b => e v a (by omega))
  rcases hy with ⟨a, b⟩ | ⟨a, b⟩
  · rw [b]; exact h'.yes h0 a
  · rw [b]; exact h'.no h0 a
theorem placeAt_w {D : Dat} (ok : DOk D) {i r : MI} {T n a s : Int} {Q : MI → Prop} (g : M2 D i) (hT : i 469 5 = T) (t1 : 1 ≤ T ∧ T ≤ 480) (hn : 0 ≤ n ∧ n < nn D) (c : CPl D T i n) (hp : PutP D T (i 470) n a s) (hQ : ∀ m, FPl i m → CPl D T m (n + 1) → Q m) : wp_X4_placeAt n (kdv D n) s i r Q := by
  have nl := nn_le ok
  have kr := kdv_r ok hn
  have ab := from_b ok (T := T) (by omega) ⟨hn.1, by omega⟩ c.pl hp.f
  have pa := hp.a
  have pb := hp.b
  have gz := g.z n hn.1 (by omega)
  unfold wp_X4_placeAt
  refine ⟨by omega, kr, ?_⟩
  refine rest_w (T := T) (by rw [st_row (by decide)]; exact hT) (by omega) (by omega) (fun r0 r1 => ⟨by omega, by omega, ?_⟩)
  have cb := CntP.b _ _ (c.bg _ _ kr.1 kr.2 r0 r1)
  have e1 : (st i 470 n s) (473 + kdv D n) (Int.tmod s T) = i (473 + kdv D n) (Int.tmod s T) := by rw [st_row (by omega)]
  rw [e1, wr_of (x := i (473 + kdv D n) (Int.tmod s T) + 1) (by omega) (by omega)]
  generalize hi1 : st (st i 470 n s) (473 + kdv D n) (Int.tmod s T) (i (473 + kdv D n) (Int.tmod s T) + 1) = i1
  have f1 : FPl i i1 := by rw [← hi1]; exact FPl.s0.trans (FPl.sb kr)
  have p1 : ∀ u, 0 ≤ u → u < n → i 470 u = i1 470 u := fun u x y => by rw [← hi1, st_row (by omega), st_ne (by omega)]
  have p2 : i1 470 n = s := by rw [← hi1, st_row (by omega), st_eq]
  have p3 : i1 471 = i 471 := by rw [← hi1, st_row (by omega), st_row (by omega)]
  have pl : PlU D T (i1 470) (n + 1) := c.pl.step ok hp hn.1 p1 p2
  have bg : ∀ k rest, 0 ≤ k → k < 7 → 0 ≤ rest → rest < T → CntP (UseP D T (i1 470) k rest) (n + 1).toNat (i1 (473 + k) rest) := by
    intro k rest k0 k1 q0 q1
    refine CntP.up hn.1 (c.bg k rest k0 k1 q0 q1) (fun v x y => by unfold UseP; rw [p1 v x y]) _ ?_
    unfold UseP
    rw [p2]
    by_cases w : kdv D n = k ∧ Int.tmod s T = rest
    · obtain ⟨rfl, rfl⟩ := w
      exact .inl ⟨⟨rfl, rfl⟩, by rw [← hi1, st_eq]⟩
    · refine .inr ⟨w, ?_⟩
      rw [← hi1]
      by_cases w2 : kdv D n = k
      · rw [← w2, st_ne (by have : Int.tmod s T ≠ rest := fun z => w ⟨w2, z⟩
                            omega), st_row (by omega)]
      · rw [st_row (by omega), st_row (by omega)]
  have l0 : LsP D T (i1 470) (i1 471) (n + 1) (fun u _ _ _ => u < n) := by
    rw [p3]
    intro v x y
    obtain ⟨h0, h1, h2⟩ := c.ls v (by omega) y
    refine ⟨h0, fun u d w ed l => ?_, h2.imp id ?_⟩
    · rw [← p1 u (ed_props ok ed).1.1 l]; exact h1 u d w ed l
    · rintro ⟨u, d, w, ed, l, z⟩
      exact ⟨u, d, w, ed, l, by rw [← p1 u (ed_props ok ed).1.1 l]; exact z⟩
  refine Lp.r2 (fun (e : Int) (m : MI) => 0 ≤ e ∧ e ≤ i 460 n ∧ F1 i1 m ∧ LsP D T (i1 470) (m 471) (n + 1) (fun u t d w => u < n ∨ (u = n ∧ ∃ e', 0 ≤ e' ∧ e' < e ∧ i (170 + n) e' = t ∧ i (267 + n) e' = d ∧ i (364 + n) e' = w))) (fun e _ => (i 460 n - e).toNat) ?_ ⟨by decide, by omega, F1.refl i1, l0.iff (fun u v d w ed => ⟨.inl, fun z => ?_⟩)⟩
  · intro e m C ⟨e0, e1', f, l⟩ hC
    dsimp only [b28_X4_placeAt]
    have fm : ∀ a, a ≠ 471 → a ≠ 470 → (a < 473 ∨ 479 < a) → m a = i a := fun a x y z => by rw [f a x, f1 a y x z]
    rw [fm 460 (by omega) (by omega) (by omega), fm (170 + n) (by omega) (by omega) (by omega), fm (267 + n) (by omega) (by omega) (by omega), fm (364 + n) (by omega) (by omega) (by omega), fm 469 (by omega) (by omega) (by omega), hT]
    refine ⟨by omega, fun q => hQ m (f1.trans (fun a _ x _ => f a x)) ⟨by rw [f 470 (by decide)]; exact pl, ?_, fun k rest k0 k1 q0 q1 => by rw [f 470 (by decide), f (473 + k) (by omega)]; exact bg k rest k0 k1 q0 q1⟩, fun q => ?_⟩
    · rw [f 470 (by decide)]
      refine l.iff (fun u v d w ed => ⟨fun z => by omega, fun z => ?_⟩)
      by_cases w' : u = n
      · refine .inr ⟨w', ?_⟩
        rw [w'] at ed
        obtain ⟨e', z0, z1, z2⟩ := GrC.fd ok g ed
        exact ⟨e', z0, by omega, z2⟩
      · exact .inl (by omega)
    · have ed := GrC.ed ok g (f := n) (e := e) hn ⟨e0, by omega⟩
      obtain ⟨_, ⟨t0, t1'⟩, d0, d1, _, w0, w1⟩ := ed_props ok ed
      have td := td_b (T := T) (by omega) ⟨d0, d1⟩
      have cx := cyv_r ok (v := n) hn
      rw [wr_of (x := e + 1) (by omega) (by omega), wr_of (x := s + i (364 + n) e) (by omega) (by omega), wr_of (x := T * i (267 + n) e) (by omega) (by omega), wr_of (x := s + i (364 + n) e - T * i (267 + n) e) (by omega) (by omega)]
      refine ⟨by omega, by omega, by omega, by omega, by omega, by omega, by omega, by omega, ?_⟩
      refine hC _ _ ⟨by omega, by omega, f.trans F1.sa, fun v v0 v1 => ?_⟩ (by omega)
      obtain ⟨h0, h1, h2⟩ := l v v0 v1
      by_cases w : v = i (170 + n) e
      · rw [w, st_eq]
        rw [w] at h0 h1 h2
        refine ⟨by omega, fun u d w' ed' z => ?_, ?_⟩
        · rcases z with z | ⟨rfl, e', a0, a1, a2, a3, a4⟩
          · have := h1 u d w' ed' (.inl z)
            omega
          · by_cases ee : e' = e
            · rw [ee] at a3 a4
              rw [p2, ← a3, ← a4]
              omega
            · have := h1 _ d w' ed' (.inr ⟨rfl, e', a0, by omega, a2, a3, a4⟩)
              omega
        · rcases Int.le_total (m 471 (i (170 + n) e)) (s + i (364 + n) e - T * i (267 + n) e) with z | z
          · rw [Int.max_eq_right z]
            exact .inr ⟨n, _, _, ed, .inr ⟨rfl, e, e0, by omega, rfl, rfl, rfl⟩, by rw [p2]⟩
          · rw [Int.max_eq_left z]
            refine h2.imp id ?_
            rintro ⟨u, d, w', ed', y, z⟩
            exact ⟨u, d, w', ed', y.imp id (fun ⟨a, e', a0, a1, a2⟩ => ⟨a, e', a0, by omega, a2⟩), z⟩
      · rw [st_ne (by omega)]
        refine ⟨h0, fun u d w' ed' z => h1 u d w' ed' ?_, h2.imp id ?_⟩
        · rcases z with z | ⟨z, e', a0, a1, a2, a3⟩
          · exact .inl z
          · by_cases ee : e' = e
            · rw [ee] at a2; omega
            · exact .inr ⟨z, e', a0, by omega, a2, a3⟩
        · rintro ⟨u, d, w', ed', y, z⟩
          exact ⟨u, d, w', ed', y.imp id (fun ⟨a, e', a0, a1, a2⟩ => ⟨a, e', a0, by omega, a2⟩), z⟩
  · rcases z with z | ⟨_, e', a0, a1, _⟩
    · exact z
    · omega
theorem placeAll_w {D : Dat} (ok : DOk D) {i r : MI} {T : Int} {Q : Int → MI → Prop} (h : NV D i) (g : M2 D i) (hu : ∀ k, 0 ≤ k → k < 7 → i 69 k = D.un k) (hT : i 469 5 = T) (t1 : 1 ≤ T ∧ T ≤ 480) (h1 : ∀ m, FPl i m → PlU D T (m 470) (nn D) → Q 1 m) (h0 : ∀ m, FPl i m → ¬ CanP D T → T < sumC D (nn D) → Q 0 m) : wp_X4_placeAll i r Q := by
  have nl := nn_le ok
  unfold wp_X4_placeAll
  refine Lp.r2 (fun (x : Int) (m : MI) => 0 ≤ x ∧ x ≤ 7 ∧ FPl i m ∧ ∀ k rest, 0 ≤ k → k < x → 0 ≤ rest → rest < T → m (473 + k) rest = 0) (fun x _ => (7 - x).toNat) ?_ ⟨by decide, by decide, FPl.refl i, fun k rest a b => by omega⟩
  intro x m C ⟨x0, x1, f, z⟩ hC
  dsimp only [b2_X4_placeAll]
  refine ⟨fun q => ?_, fun q => ?_⟩
  · refine Lp.r2 (fun (y : Int) (m' : MI) => 0 ≤ y ∧ y ≤ nn D ∧ F1 m m' ∧ ∀ v, 0 ≤ v → v < y → m' 471 v = 0) (fun y _ => (nn D - y).toNat) ?_ ⟨by decide, nl.1, F1.refl m, fun v a b => by omega⟩
    intro y m1 C2 ⟨y0, y1, f1, z1⟩ hC2
    dsimp only [b52_X4_placeAll]
    have fa : FPl i m1 := f.trans (fun a _ x _ => f1 a x)
    rw [(h.fl ok fa.fl).n]
    refine ⟨fun q2 => ?_, fun q2 => ⟨by omega, ?_⟩⟩
    · refine Lp.r2 (fun (n : Int) (m' : MI) => 0 ≤ n ∧ n ≤ nn D ∧ FPl i m' ∧ CPl D T m' n) (fun n _ => (nn D - n).toNat) ?_ ⟨by decide, nl.1, fa, ⟨fun v a b => by omega, fun v a b => ⟨by rw [z1 v a (by omega)]; exact Int.le_refl 0, fun u d w ed l => by have := (ed_props ok ed).1.1; omega, .inl (z1 v a (by omega))⟩, fun k rest k0 k1 q0 q1 => ?_⟩⟩
      · intro n m2 C3 ⟨n0, n1, f2, c⟩ hC3
        dsimp only [b75_X4_placeAll]
        have hv : NV D m2 := h.fl ok f2.fl
        have gv : M2 D m2 := g.fl ok f2.fl
        have hT2 : m2 469 5 = T := by rw [f2 469 (by decide) (by decide) (by decide)]; exact hT
        rw [hv.n]
        refine ⟨fun q3 => h1 m2 f2 (by rw [show nn D = n by omega]; exact c.pl), fun q3 => ⟨by omega, ?_⟩⟩
        have hn : 0 ≤ n ∧ n < nn D := ⟨n0, by omega⟩
        have kr := kdv_r ok hn
        rw [hv.kd hn, f2 69 (by decide) (by decide) (by decide), hu _ kr.1 kr.2]
        refine ⟨kr, findStep_w ok gv hT2 t1 hn c (fun a s hp => ⟨fun q4 => ?_, fun q4 => ?_⟩) (fun hs => ⟨fun q4 => h0 m2 f2 (stuck_no ok hn c.pl hs) (Classical.byContradiction fun w => no_stuck ok (by omega) hn c.pl hs), fun q4 => absurd rfl q4⟩)⟩
        · have := hp.f.1
          have := hp.a
          omega
        · refine placeAt_w ok gv hT2 t1 hn c hp (fun m3 f3 c3 => ?_)
          rw [wr_of (x := n + 1) (by omega) (by omega)]
          exact hC3 _ _ ⟨by omega, by omega, f2.trans f3, c3⟩ (by omega)
      · rw [f1 (473 + k) (by omega), z k rest k0 (by omega) q0 q1]; rfl
    · rw [wr_of (x := y + 1) (by omega) (by omega)]
      refine hC2 _ _ ⟨by omega, by omega, f1.trans F1.sa, fun v a b => ?_⟩ (by omega)
      by_cases w : v = y
      · rw [w, st_eq]
      · rw [st_ne (by omega)]; exact z1 v a (by omega)
  · refine Lp.r2 (fun (y : Int) (m' : MI) => 0 ≤ y ∧ y ≤ T ∧ FPl i m' ∧ (∀ k rest, 0 ≤ k → k < x → 0 ≤ rest → rest < T → m' (473 + k) rest = 0) ∧ ∀ rest, 0 ≤ rest → rest < y → m' (473 + x) rest = 0) (fun y _ => (T - y).toNat) ?_ ⟨by decide, by omega, f, z, fun v a b => by omega⟩
    intro y m1 C2 ⟨y0, y1, f1, z1, z2⟩ hC2
    dsimp only [b11_X4_placeAll, s44_X4_placeAll]
    rw [f1 469 (by decide) (by decide) (by decide), hT]
    refine ⟨fun q2 => ?_, fun q2 => ⟨fun q3 => by omega, fun q3 => ⟨by omega, by omega, ?_⟩⟩⟩
    · rw [wr_of (x := x + 1) (by omega) (by omega)]
      refine hC _ _ ⟨by omega, by omega, f1, fun k rest a b c d => ?_⟩ (by omega)
      by_cases w : k = x
      · rw [w]; exact z2 rest c (by omega)
      · exact z1 k rest a (by omega) c d
    · rw [wr_of (x := y + 1) (by omega) (by omega)]
      refine hC2 _ _ ⟨by omega, by omega, f1.trans (FPl.sb ⟨x0, by omega⟩), fun k rest a b c d => ?_, fun rest a b => ?_⟩ (by omega)
      · rw [st_row (by omega)]; exact z1 k rest a b c d
      · by_cases w : rest = y
        · rw [w, st_eq]
        · rw [st_ne (by omega)]; exact z2 rest a (by omega)
