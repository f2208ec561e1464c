/-! ===== steps by lists: the reference ===== -/
theorem canBegin_w {D : Dat} (ok : DOk D) {i r : MI} {ls : Int → Int} {c x : Int} {Q : Int → Prop} (h : ME D i) (hl : ∀ v, 0 ≤ v → v < nn D → i 531 v = ls v) (hr : ∀ v, 0 ≤ v → v < nn D → -1 ≤ ls v ∧ ls v ≤ 480) (hx : 0 ≤ x ∧ x < nn D) (h1 : ready D c ls x → Q 1) (h0 : ¬ ready D c ls x → Q 0) : wp_X12_canBegin x c i r Q := by
  have hn := nn_le ok
  have gle := h.g.le ok
  have hk := kdv_r ok hx
  have e0 := h.g.n
  have main : ∀ k0 : Int, (k0 = 0 ∨ k0 = 1) → (k0 = 1 ↔ ls x = -1) → s15_X12_canBegin x c k0 i r Q := by
    intro k0 hk0 hk1
    unfold s15_X12_canBegin
    refine Lp.r2 (fun (b y : Int) => 0 ≤ y ∧ y ≤ i 504 30 ∧ ((b = 1 ∧ ls x = -1 ∧ ∀ e, 0 ≤ e → e < y → i 524 e = x → i 525 e = 0 → ls (i 523 e) ≠ -1 ∧ ls (i 523 e) + i 526 e ≤ c) ∨ (b = 0 ∧ ¬ ready D c ls x))) (fun _ y => (i 504 30 - y).toNat) ?_ ⟨by decide, e0, ?_⟩
    · intro b y C ⟨g0, g1, g2⟩ hC
      dsimp only [b19_X12_canBegin, s104_X12_canBegin]
      have tail : (i 504 30 ≤ y ∨ b = 0) → Lp (b110_X12_canBegin x c b i r Q) (0, 0) := by
        intro hh
        have st' : (b = 1 ∧ ls x = -1 ∧ ∀ f w, Ed D f x 0 w → ls f ≠ -1 ∧ ls f + w ≤ c) ∨ (b = 0 ∧ ¬ ready D c ls x) := by
          rcases g2 with ⟨z1, z2, z3⟩ | z
          · refine .inl ⟨z1, z2, fun f w hw => ?_⟩
            obtain ⟨e, a, b', d1, d2, d3, d4⟩ := GrM.fd h.g hw
            have := z3 e a (by omega) d2 d3
            rw [d1, d4] at this
            exact this
          · exact .inr z
        refine Lp.r2 (fun (n z : Int) => 0 ≤ z ∧ z ≤ nn D ∧ (b = 1 → n = cntN D ls (kdv D x) c z.toNat)) (fun _ z => (nn D - z).toNat) ?_ ⟨by decide, hn.1, fun _ => rfl⟩
        intro n z C2 ⟨k0, k1, k2⟩ hC2
        dsimp only [b110_X12_canBegin, s166_X12_canBegin, s190_X12_canBegin, s191_X12_canBegin]
        rw [h.w.n]
        refine ⟨fun q => ⟨fun e => ⟨.inl rfl, ?_⟩, fun e => ?_⟩, fun q => ⟨fun e => ⟨fun e => ⟨.inl rfl, ?_⟩, fun e2 => absurd e e2⟩, fun e => ?_⟩⟩
        · rcases st' with w | w
          · omega
          · exact h0 w.2
        · rcases st' with ⟨w1, w2, w3⟩ | w
          · have ez : z = nn D := by omega
            have k3 := k2 w1
            rw [ez] at k3
            rw [h.w.kd hx, h.p.un _ hk.1 hk.2, k3]
            refine ⟨by omega, hk, fun q2 => ⟨.inl rfl, h0 (fun w4 => ?_)⟩, fun q2 => ⟨.inr rfl, h1 ⟨hx.1, hx.2, w2, w3, ?_⟩⟩⟩
            · have : cntL D ls (kdv D x) c < D.un (kdv D x) := w4.2.2.2.2
              unfold cntL at this; omega
            · unfold cntL; omega
          · exact absurd w.1 e
        · rcases st' with w | w
          · omega
          · exact h0 w.2
        · have b1 : b = 1 := by
            rcases st' with w | w
            · exact w.1
            · exact absurd w.1 e
          have k3 := k2 b1
          have cb := cntN_b (D := D) (ls := ls) (k := kdv D x) (c := c) z.toNat
          have ez : (z + 1).toNat = z.toNat + 1 := by omega
          have zc : ((z.toNat : Nat) : Int) = z := by omega
          have es : cntN D ls (kdv D x) c (z.toNat + 1) = cntN D ls (kdv D x) c z.toNat + if kdv D z = kdv D x ∧ ls z = c then 1 else 0 := by
            show _ + _ = _; rw [zc]
          have hz : 0 ≤ z ∧ z < nn D := ⟨k0, by omega⟩
          rw [h.w.kd hx, h.w.kd hz, hl z hz.1 hz.2]
          dsimp only [s156_X12_canBegin, s157_X12_canBegin]
          rw [wr_of (x := z + 1) (by omega) (by omega)]
          refine ⟨by omega, by omega, fun e1 => ⟨by omega, fun e2 => ?_, fun e2 => ?_⟩, fun e1 => ?_⟩
          · rw [wr_of (x := n + 1) (by omega) (by omega)]
            exact hC2 _ _ ⟨by omega, by omega, fun _ => by rw [ez, es, if_pos ⟨e1, e2⟩, k3]⟩ (by omega)
          · rw [wr_of (x := n + 0) (by omega) (by omega)]
            exact hC2 _ _ ⟨by omega, by omega, fun _ => by rw [ez, es, if_neg (fun w => e2 w.2), k3]⟩ (by omega)
          · rw [wr_of (x := n + 0) (by omega) (by omega)]
            exact hC2 _ _ ⟨by omega, by omega, fun _ => by rw [ez, es, if_neg (fun w => e1 w.1), k3]⟩ (by omega)
      refine ⟨fun q => tail (.inl q), fun q => ⟨fun e => by rw [e] at tail ⊢; exact tail (.inr rfl), fun e => ?_⟩⟩
      rcases g2 with ⟨z1, z2, z3⟩ | z
      · have hE := GrM.ed h.g (e := y) ⟨g0, by omega⟩
        obtain ⟨hf, ht, _, _, _, hw1, hw2⟩ := ed_props ok hE
        have rf := hr _ hf.1 hf.2
        have cf := cyv_r ok hf
        have w1 : wr (y + 1) = y + 1 := wr_of (by omega) (by omega)
        rw [hl _ hf.1 hf.2, wr_of (x := ls (i 523 y) + i 526 y) (by omega) (by omega)]
        dsimp only [s92_X12_canBegin, s96_X12_canBegin, s97_X12_canBegin]
        rw [w1]
        have good : (i 524 y = x → i 525 y = 0 → ls (i 523 y) ≠ -1 ∧ ls (i 523 y) + i 526 y ≤ c) → C (1, y + 1) := by
          intro hh
          refine hC _ _ ⟨by omega, by omega, .inl ⟨rfl, z2, fun e a b' d1 d2 => ?_⟩⟩ (by omega)
          by_cases ee : e = y
          · rw [ee] at d1 d2 ⊢; exact hh d1 d2
          · exact z3 e a (by omega) d1 d2
        have bad : i 524 y = x → i 525 y = 0 → ¬ (ls (i 523 y) ≠ -1 ∧ ls (i 523 y) + i 526 y ≤ c) → C (0, y + 1) := by
          intro d1 d2 hh
          refine hC _ _ ⟨by omega, by omega, .inr ⟨rfl, fun w => hh ?_⟩⟩ (by omega)
          rw [d1, d2] at hE
          exact w.2.2.2.1 _ _ hE
        exact ⟨by omega, by omega, fun e1 => ⟨by omega, fun e2 => ⟨by omega, fun e3 => bad e1 e2 (fun w => w.1 e3), fun e3 => ⟨by omega, by omega, fun e4 => bad e1 e2 (fun w => by have := w.2; omega), fun e4 => good (fun _ _ => ⟨e3, by omega⟩)⟩⟩, fun e2 => good (fun _ w => absurd w e2)⟩, fun e1 => good (fun w _ => absurd w e1)⟩
      · exact absurd z.1 e
    · rcases hk0 with z | z
      · exact .inr ⟨z, fun w => by have := hk1.2 w.2.2.1; omega⟩
      · exact .inl ⟨z, hk1.1 z, fun e a b => by omega⟩
  unfold wp_X12_canBegin
  rw [hl x hx.1 hx.2]
  exact ⟨by omega, fun e => main 1 (.inr rfl) ⟨fun _ => e, fun _ => rfl⟩, fun e => main 0 (.inl rfl) ⟨fun z => by omega, fun z => absurd z e⟩⟩
theorem mlist_w {D : Dat} (ok : DOk D) {i r : MI} {Q : MI → Prop} (h : ModelP D i) (hQ : ∀ i1 i', FU i i1 → FY i1 i' → ME D i' → IsList D (i' 530) (i' 531) → (∃ so e, IsSoon D so ∧ IsEnd D so e ∧ IsLate D e (i' 530)) → IsEnd D (i' 531) (i' 504 48) → Q i') : wp_X12_list i r Q := by
  have hn := nn_le ok
  unfold wp_X12_list
  refine findSoon_w ok h (fun i1 i2 f1 f2 e2 s1 s2 s3 => ?_)
  have n21 : ∀ m, FY i2 m → m 504 21 = nn D := fun m f => by rw [f.c 21 (by decide)]; exact e2.w.n
  refine Lp.r2 (fun (x : Int) (m : MI) => 0 ≤ x ∧ x ≤ nn D ∧ FY i2 m ∧ m 530 = i2 530 ∧ ∀ v, 0 ≤ v → v < x → m 531 v = -1) (fun x _ => (nn D - x).toNat) ?_ ⟨by decide, hn.1, FY.refl _, rfl, fun v a b => by omega⟩
  intro x m C ⟨h0, h1, h2, h3, h4⟩ hC
  dsimp only [b6_X12_list]
  rw [n21 m h2]
  refine ⟨fun q => ?_, fun q => ⟨by omega, ?_⟩⟩
  · have hl0 : lsC D L00 = 0 := by
      have key : ∀ n : Nat, lsN L00 n = 0 := by
        intro n
        induction n with
        | zero => rfl
        | succ n ih => show lsN L00 n + _ = 0; rw [ih, if_pos (show L00 n = -1 from rfl)]; rfl
      exact key _
    have J0 : JL D 0 L00 := ⟨Int.le_refl 0, fun v a b => .inl rfl, fun d a b => by omega⟩
    refine Lp.r3 (fun (x1 x2 : Int) (m : MI) => ∃ ls, FY i2 m ∧ m 530 = i2 530 ∧ (∀ v, 0 ≤ v → v < nn D → m 531 v = ls v) ∧ x1 = nn D - lsC D ls ∧ 0 ≤ x2 ∧ x2 ≤ 481 ∧ (allL D ls → (∃ c, JL D c ls) ∧ ∃ n, LR D (i2 530) n 0 L00 ls) ∧ (¬ allL D ls → JL D x2 ls ∧ ∀ n fin, LR D (i2 530) n x2 ls fin → ∃ m, LR D (i2 530) m 0 L00 fin)) (fun _ x2 _ => (481 - x2).toNat) ?_ ⟨L00, h2, h3, fun v a b => h4 v a (by omega), by omega, by decide, by decide, fun al => ⟨⟨0, J0⟩, 0, al, fun _ _ _ => rfl⟩, fun _ => ⟨J0, fun n fin z => ⟨n, z⟩⟩⟩
    intro x1 x2 m C1 ⟨ls, g0, g1, g2, g3, g4, g5, g6, g7⟩ hC1
    dsimp only [b34_X12_list]
    have ca := lsC_all ok (ls := ls)
    refine ⟨fun q1 => ?_, fun q1 => ?_⟩
    · have al : allL D ls := ca.2.2.1 (by omega)
      obtain ⟨⟨c, hj⟩, n, hr⟩ := g6 al
      have hc := JL_c ok hj
      have isL : IsList D (m 530) (m 531) := by
        rw [g1]
        refine ⟨⟨n, LR_fin n 0 _ _ _ hr g2⟩, fun v a b => by rw [g2 v a b]; exact al v a b, c, ?_⟩
        refine ⟨hj.1, fun v a b => by rw [g2 v a b]; exact hj.2.1 v a b, fun d a b => ?_⟩
        obtain ⟨v, v0, v1, v2, v3, v4⟩ := hj.2.2 d a b
        exact ⟨v, v0, v1, by rw [g2 v v0 v1]; exact v2, by rw [g2 v v0 v1]; exact v3, by rw [g2 v v0 v1]; exact v4⟩
      have lb : ∀ v, 0 ≤ v → v < nn D → 0 ≤ m 531 v ∧ m 531 v ≤ 480 := fun v a b => by
        have := hj.2.1 v a b
        have := al v a b
        rw [g2 v a b]; omega
      refine Lp.r2 (fun (y : Int) (m' : MI) => 0 ≤ y ∧ y ≤ nn D ∧ FY i2 m' ∧ m' 530 = m 530 ∧ m' 531 = m 531 ∧ 0 ≤ m' 504 48 ∧ (∀ v, 0 ≤ v → v < y → m 531 v + cyv D v ≤ m' 504 48) ∧ (m' 504 48 = 0 ∨ ∃ v, 0 ≤ v ∧ v < y ∧ m' 504 48 = m 531 v + cyv D v)) (fun y _ => (nn D - y).toNat) ?_ ⟨by decide, hn.1, g0.trans FY.s4, rfl, rfl, by rw [st_eq]; omega, fun v a b => by omega, .inl st_eq⟩
      intro y m2 C2 ⟨k0, k1, k2, k3, k4, k5, k6, k7⟩ hC2
      dsimp only [b134_X12_list]
      rw [n21 m2 k2]
      refine ⟨fun q2 => ?_, fun q2 => ⟨by omega, ?_⟩⟩
      · refine hQ i1 m2 f1 (f2.trans k2) (e2.fy k2) (by rw [k3, k4]; exact isL) ⟨i2 529, i2 504 48, s1, s2, by rw [k3, g1]; exact s3⟩ ?_
        rw [k4]
        have ey : y = nn D := by omega
        rw [ey] at k6 k7
        exact ⟨k5, k6, k7⟩
      · have hy : 0 ≤ y ∧ y < nn D := ⟨k0, by omega⟩
        have cy := cyv_r ok hy
        have ly := lb y hy.1 hy.2
        refine mcyc_w ok (e2.fy k2).w hy ?_
        rw [k4, wr_of (x := y + 1) (by omega) (by omega), wr_of (x := m 531 y + cyv D y) (by omega) (by omega)]
        have ev : ∀ a, st m2 504 48 a 504 48 = a := fun a => st_eq
        refine hC2 _ _ ⟨by omega, by omega, k2.trans FY.s4, by rw [st_row (by decide)]; exact k3, by rw [st_row (by decide)]; exact k4, ?_, fun v a b => ?_, ?_⟩ (by omega)
        · rw [ev]; clear k7; omega
        · rw [ev]
          by_cases e : v = y
          · rw [e]; clear k7; omega
          · have := k6 v a (by omega); clear k7; omega
        · rw [ev]
          rcases Int.le_total (m2 504 48) (m 531 y + cyv D y) with z | z
          · exact .inr ⟨y, k0, by omega, Int.max_eq_right z⟩
          · rw [Int.max_eq_left z]
            rcases k7 with w | ⟨v, a, b, w⟩
            · exact .inl w
            · exact .inr ⟨v, a, by omega, w⟩
    · have na : ¬ allL D ls := fun z => by have := ca.2.2.2 z; omega
      obtain ⟨j1, j2⟩ := g7 na
      have hc := JL_c ok j1
      refine Lp.r3 (fun (y1 y3 : Int) (m' : MI) => ∃ ls', FY i2 m' ∧ m' 530 = i2 530 ∧ (∀ v, 0 ≤ v → v < nn D → m' 531 v = ls' v) ∧ y1 = nn D - lsC D ls' ∧ JL D x2 ls' ∧ (∀ n fin, LR D (i2 530) n x2 ls' fin → ∃ m, LR D (i2 530) m x2 ls fin) ∧ (y3 = -1 → ∀ k, ¬ ready D x2 ls' k)) (fun y1 y3 _ => (2 * y1 + if y3 = -1 then 0 else 1).toNat) ?_ ⟨ls, g0, g1, g2, g3, j1, fun n fin z => ⟨n, z⟩, fun z => by omega⟩
      intro y1 y3 m2 C2 ⟨ls', k0, k1, k2, k3, k4, k5, k6⟩ hC2
      dsimp only [b40_X12_list]
      have cb := lsC_all ok (ls := ls')
      refine ⟨fun q2 => ?_, fun q2 => ?_⟩
      · have nr := k6 q2
        rw [wr_of (x := x2 + 1) (by omega) (by omega)]
        refine hC1 _ _ _ ⟨ls', k0, k1, k2, k3, by omega, by omega, fun al => ⟨⟨x2, k4⟩, ?_⟩, fun na' => ⟨JL_next ok k4 na' nr, fun n fin z => ?_⟩⟩ (by omega)
        · obtain ⟨n, hn'⟩ := k5 0 ls' ⟨al, fun _ _ _ => rfl⟩
          exact j2 n ls' hn'
        · obtain ⟨n', hn'⟩ := k5 (n + 1) fin (.inr ⟨na', nr, z⟩)
          exact j2 n' fin hn'
      · rw [if_neg q2] at hC2
        have lr : ∀ v, 0 ≤ v → v < nn D → -1 ≤ ls' v ∧ ls' v ≤ 480 := fun v a b => by
          have := k4.2.1 v a b; omega
        have em2 := e2.fy k0
        refine Lp.r2 (fun (b y : Int) => 0 ≤ y ∧ y ≤ nn D ∧ ((b = -1 ∧ ∀ k, k < y → ¬ ready D x2 ls' k) ∨ (b < y ∧ ready D x2 ls' b ∧ ∀ k, k < y → ready D x2 ls' k → i2 530 b < i2 530 k ∨ (i2 530 b = i2 530 k ∧ b ≤ k)))) (fun _ y => (nn D - y).toNat) ?_ ⟨by decide, hn.1, .inl ⟨rfl, fun k a z => by have := z.1; omega⟩⟩
        intro b y C3 ⟨l0, l1, l2⟩ hC3
        dsimp only [b50_X12_list, s95_X12_list, s90_X12_list, s96_X12_list]
        rw [n21 m2 k0, k1]
        refine ⟨fun q3 => ⟨fun e => ?_, fun e => ?_⟩, fun q3 => ?_⟩
        · refine hC2 _ _ _ ⟨ls', k0, k1, k2, k3, k4, k5, fun _ => ?_⟩ (by rw [e, if_pos rfl]; omega)
          rcases l2 with ⟨_, z⟩ | ⟨_, z, _⟩
          · exact fun k w => z k (by have := w.2.1; omega) w
          · have := z.1; omega
        · rcases l2 with ⟨z, _⟩ | ⟨z1, z2, z3⟩
          · exact absurd z e
          · have ch : chosen D (i2 530) x2 ls' b := ⟨z2, fun k w => z3 k (by have := w.2.1; omega) w⟩
            have up := lsC_up ok (ls := ls') (x := b) (c := x2) ⟨z2.1, z2.2.1⟩ z2.2.2.1 k4.1
            have hb := z2.1
            have hb2 := z2.2.1
            rw [wr_of (x := y1 + (-1)) (by omega) (by omega)]
            refine ⟨by omega, hC2 _ _ _ ⟨iup ls' b x2, k0.trans (FY.sa (by decide)), by rw [st_row (by decide)]; exact k1, fun v a b' => ?_, by omega, JL_pick k4 z2, fun n fin w => k5 (n + 1) fin (.inl ⟨b, ch, w⟩), fun w => by omega⟩ (by rw [if_neg e]; omega)⟩
            unfold iup
            by_cases ev : v = b
            · rw [ev, if_pos rfl]; exact st_eq
            · rw [if_neg ev, st_ne (by omega)]; exact k2 v a b'
        · have hy : 0 ≤ y ∧ y < nn D := ⟨l0, by omega⟩
          rw [wr_of (x := y + 1) (by omega) (by omega)]
          have skip : ¬ ready D x2 ls' y → C3 (b, y + 1) := by
            intro nr
            refine hC3 _ _ ⟨by omega, by omega, ?_⟩ (by omega)
            rcases l2 with ⟨z1, z⟩ | ⟨z1, z2, z3⟩
            · refine .inl ⟨z1, fun k a => ?_⟩
              by_cases e : k = y
              · rw [e]; exact nr
              · exact z k (by omega)
            · refine .inr ⟨by omega, z2, fun k a w => ?_⟩
              by_cases e : k = y
              · rw [e] at w; exact absurd w nr
              · exact z3 k (by omega) w
          refine canBegin_w ok em2 k2 lr hy (fun rx => ⟨fun z => by omega, fun _ => ?_⟩) (fun nr => ⟨fun _ => skip nr, fun z => absurd rfl z⟩)
          refine ⟨fun eb => ?_, fun eb => ?_⟩
          · rcases l2 with ⟨z1, z⟩ | ⟨z1, z2, z3⟩
            · refine hC3 _ _ ⟨by omega, by omega, .inr ⟨by omega, rx, fun k a w => ?_⟩⟩ (by omega)
              by_cases e : k = y
              · rw [e]; exact .inr ⟨rfl, Int.le_refl _⟩
              · exact absurd w (z k (by omega))
            · have := z2.1; omega
          · rcases l2 with ⟨z1, z⟩ | ⟨z1, z2, z3⟩
            · exact absurd z1 eb
            · refine ⟨by omega, by have := z2.1; have := z2.2.1; omega, fun el => hC3 _ _ ⟨by omega, by omega, .inr ⟨by omega, z2, fun k a w => ?_⟩⟩ (by omega), fun el => hC3 _ _ ⟨by omega, by omega, .inr ⟨by omega, rx, fun k a w => ?_⟩⟩ (by omega)⟩
              · by_cases e : k = y
                · rw [e]; omega
                · exact z3 k (by omega) w
              · by_cases e : k = y
                · rw [e]; exact .inr ⟨rfl, Int.le_refl _⟩
                · have := z3 k (by omega) w; omega
  · rw [wr_of (by omega) (by omega)]
    refine hC _ _ ⟨by omega, by omega, h2.trans (FY.sa (by decide)), by rw [st_row (by decide)]; exact h3, fun v a b => ?_⟩ (by omega)
    by_cases e : v = x
    · rw [e, st_eq]
    · rw [st_ne (by omega)]; exact h4 v a (by omega)
