/-! ===== values that wait ===== -/
theorem lastUse_w {D : Dat} (ok : DOk D) {i r : MI} {v e : Int} {Q : Int → Prop} (h : NV D i) (hv : 0 ≤ v ∧ v < nn D) (hm : mkv D v ≠ -1) (hb : ∀ u, 0 ≤ u → u < nn D → 0 ≤ i 464 u ∧ i 464 u + cyv D u ≤ e) (he : e ≤ 480) (hQ : ∀ n, -1 ≤ n → (∀ c, 0 ≤ c → (c ≤ n ↔ LUx D (i 464) e v c (nn D))) → Q n) : wp_X9_lastUse v (mkv D v) e i r Q := by
  have hn := nn_le ok
  unfold wp_X9_lastUse
  rw [wr_of (x := v + 1) (by omega) (by omega)]
  have lem : ∀ nm : Int, (nm = -1 ∨ isNext D (mkv D v) v nm) → (nm = -1 → noNext D (mkv D v) v) → Lp (b16_X9_lastUse (mkv D v) e nm i r Q) ((-1), v + 1) := by
    intro nm hnm hnn
    have nmr : nm = -1 ∨ (v < nm ∧ nm < nn D) := hnm.imp id (fun z => ⟨z.2.2.1, z.2.1⟩)
    refine Lp.r2 (fun (b x : Int) => v < x ∧ x ≤ nn D ∧ (nm ≠ -1 → x ≤ nm + 1) ∧ -1 ≤ b ∧ (∀ u, v < u → u < x → usv D u (mkv D v) → i 464 u ≤ b) ∧ (b = -1 ∨ ∃ u, v < u ∧ u < x ∧ usv D u (mkv D v) ∧ b = i 464 u)) (fun _ x => (nn D - x).toNat) ?_ ⟨by omega, by omega, by omega, by omega, fun u a b => by omega, .inl rfl⟩
    intro b x C ⟨g0, g1, g2, g3, g4, g5⟩ hC
    dsimp only [b16_X9_lastUse, s72_X9_lastUse, s38_X9_lastUse, s66_X9_lastUse]
    have pv : ∀ u, 0 ≤ u → u < nn D → (nm = -1 ∨ u ≤ nm) → v < u → isPrev D (mkv D v) v u := by
      intro u a b hu hvu
      refine ⟨hv.1, hv.2, hvu, rfl, fun k k1 k2 k3 => ?_⟩
      rcases hnm with z | z
      · exact hnn z k (by omega) k1 k3
      · exact z.2.2.2.2 k (by omega) k1 (by have := z.1; rcases hu with w | w <;> omega)
    -- what the loop found, at its end
    have body : (nn D ≤ x ∨ (nm ≠ -1 ∧ nm < x)) → ∀ c, 0 ≤ c → (c ≤ b ↔ ∃ u, 0 ≤ u ∧ u < nn D ∧ usv D u (mkv D v) ∧ isPrev D (mkv D v) v u ∧ c ≤ i 464 u) := by
      intro hx c c0
      constructor
      · intro hc
        rcases g5 with z | ⟨u, u1, u2, u3, u4⟩
        · omega
        · exact ⟨u, by omega, by omega, u3, pv u (by omega) (by omega) (by by_cases w : nm = -1; exact .inl w; exact .inr (by have := g2 w; omega)) u1, by omega⟩
      · rintro ⟨u, u1, u2, u3, u4, u5⟩
        have := u4.2.2.1
        have ux : u < x := by
          rcases hx with w | ⟨w1, w2⟩
          · omega
          · rcases hnm with z | z
            · exact absurd z w1
            · rcases Int.lt_or_le nm u with q | q
              · exact absurd z.2.2.2.1 (u4.2.2.2.2 nm z.2.2.1 q z.2.1)
              · omega
        have := g4 u (by omega) ux u3
        omega
    have fin2 : nm ≠ -1 → (nn D ≤ x ∨ (nm ≠ -1 ∧ nm < x)) → Q b := by
      intro hne hx
      refine hQ b g3 (fun c c0 => (body hx c c0).trans ⟨fun ⟨u, u1, u2, u3, u4, u5⟩ => ⟨u, u1, u2, u3, .inl ⟨u4, u5⟩⟩, fun ⟨u, u1, u2, u3, u4⟩ => ⟨u, u1, u2, u3, ?_⟩⟩)
      rcases u4 with z | z
      · exact z
      · have hm' := hnm.resolve_left hne
        exact absurd hm'.2.2.2.1 (z.2.1 nm hm'.1 hm'.2.2.1 hm'.2.1)
    have fin1 : nm = -1 → nn D ≤ x → wp_X0_nextMakerBehind (mkv D v) (-1) i r (fun v4 => Lp (b92_X9_lastUse (mkv D v) e b v4 i r Q) 0) := by
      intro hne hx
      refine nextM_w ok h ⟨by omega, by omega⟩ (fun f hf => ?_) (fun hf => absurd rfl (hf v hv.1 (by omega) hv.2))
      have fv : f ≤ v := by
        rcases Int.lt_or_le v f with q | q
        · exact absurd rfl (hf.2.2.2.2 v hv.1 (by omega) q)
        · exact q
      refine Lp.r1 (fun (y : Int) => 0 ≤ y ∧ y ≤ f + 1 ∧ ∀ u, 0 ≤ u → u < y → ¬ usv D u (mkv D v)) (fun y => (nn D - y).toNat) ?_ ⟨by decide, by have := hf.1; omega, fun u a b => by omega⟩
      intro y C2 ⟨k0, k1, k2⟩ hC2
      dsimp only [b92_X9_lastUse]
      have np : ∀ u, 0 ≤ u → u < nn D → (noPrev D (mkv D v) u ↔ u ≤ f) := by
        intro u a b
        constructor
        · intro z
          rcases Int.lt_or_le f u with q | q
          · exact absurd hf.2.2.2.1 (z f hf.1 q hf.2.1)
          · exact q
        · intro z k k1 k2 k3
          exact hf.2.2.2.2 k k1 (by omega) (by omega)
      refine ⟨fun q => ?_, fun q => ⟨by omega, ?_⟩⟩
      · refine hQ b g3 (fun c c0 => (body (.inl hx) c c0).trans ⟨fun ⟨u, u1, u2, u3, u4, u5⟩ => ⟨u, u1, u2, u3, .inl ⟨u4, u5⟩⟩, fun ⟨u, u1, u2, u3, u4⟩ => ⟨u, u1, u2, u3, ?_⟩⟩)
        rcases u4 with z | z
        · exact z
        · have := (np u u1 u2).1 z.1
          exact absurd u3 (k2 u u1 (by omega))
      · have hy : 0 ≤ y ∧ y < nn D := ⟨k0, by omega⟩
        rw [wr_of (x := y + 1) (by omega) (by omega)]
        refine using_w h hy (fun us => ⟨fun z => absurd z (by decide), fun _ => ?_⟩) (fun us => ⟨fun _ => hC2 _ ⟨by omega, by omega, fun u a b' => ?_⟩ (by omega), fun z => absurd rfl z⟩)
        · have hbv := hb v hv.1 hv.2
          have cv := cyv_r ok hv
          rw [wr_of (x := e - 1) (by omega) (by omega)]
          refine hQ (e - 1) (by omega) (fun c c0 => ⟨fun hc => ⟨y, hy.1, hy.2, us, .inr ⟨(np y hy.1 hy.2).2 (by omega), hnn hne, hc⟩⟩, ?_⟩)
          rintro ⟨u, u1, u2, u3, u4 | u4⟩
          · have := hb u u1 u2
            have := cyv_r ok (v := u) ⟨u1, u2⟩
            omega
          · exact u4.2.2
        · by_cases w : u = y
          · rw [w]; exact us
          · exact k2 u a (by omega)
    have go : (nm ≠ -1 → x ≤ nm) → x < nn D → (0 ≤ x ∧ x < 96) ∧ wp_X3_isUsing (72 + x) (mkv D v) i r (fun v83 => (v83 = 0 → C (b, wr (x + 1))) ∧ (¬ v83 = 0 → (0 ≤ x ∧ x < 96) ∧ C (max b (i 464 x), wr (x + 1)))) := by
      intro hx hx2
      have bx := hb x (by omega) hx2
      have cx := cyv_r ok (v := x) ⟨by omega, hx2⟩
      rw [wr_of (x := x + 1) (by omega) (by omega)]
      refine ⟨by omega, using_w h ⟨by omega, hx2⟩ (fun us => ⟨fun z => absurd z (by decide), fun _ => ⟨by omega, hC _ _ ⟨by omega, by omega, fun z => by have := hx z; omega, by clear g5; omega, fun u a b' us' => ?_, ?_⟩ (by clear g5; omega)⟩⟩) (fun us => ⟨fun _ => hC _ _ ⟨by omega, by omega, fun z => by have := hx z; omega, g3, fun u a b' us' => ?_, ?_⟩ (by omega), fun z => absurd rfl z⟩)⟩
      · by_cases w : u = x
        · rw [w]; clear g5; omega
        · have := g4 u a (by omega) us'; clear g5; omega
      · rcases Int.le_total b (i 464 x) with z | z
        · exact .inr ⟨x, g0, by omega, us, Int.max_eq_right z⟩
        · rw [Int.max_eq_left z]
          exact g5.imp id (fun ⟨u, u1, u2, u3⟩ => ⟨u, u1, by omega, u3⟩)
      · by_cases w : u = x
        · rw [w] at us'; exact absurd us' us
        · exact g4 u a (by omega) us'
      · exact g5.imp id (fun ⟨u, u1, u2, u3⟩ => ⟨u, u1, by omega, u3⟩)
    rw [h.n]
    refine ⟨fun q => ⟨fun z => fin1 z q, fun z => fin2 z (.inl q)⟩, fun q => ⟨fun z => go (fun w => absurd z w) (by omega), fun z => ⟨fun q2 => ⟨fun w => absurd w z, fun _ => fin2 z (.inr ⟨z, q2⟩)⟩, fun q2 => go (fun _ => by omega) (by omega)⟩⟩⟩
  refine nextM_w ok h ⟨by omega, hv.2⟩ (fun m hm' => lem m (.inr hm') (fun z => by have := hm'.1; omega)) (fun hm' => lem (-1) (.inl rfl) (fun _ => hm'))
theorem waitFor_w {D : Dat} (ok : DOk D) {i r : MI} {v e : Int} {Q : MI → Prop} (h : NV D i) (hv : 0 ≤ v ∧ v < nn D) (hm : mkv D v ≠ -1) (hb : ∀ u, 0 ≤ u → u < nn D → 0 ≤ i 464 u ∧ i 464 u + cyv D u ≤ e) (he : e ≤ 480) (hs : ∀ c, 0 ≤ c → c < e → 0 ≤ i 468 c ∧ i 468 c ≤ 100) (hQ : ∀ i', FO i i' → i' 462 = i 462 → i' 463 = i 463 → i' 464 = i 464 → (∀ c, 0 ≤ c → c < e → i' 468 c = i 468 c + @ite Int (liv D (i 464) e c v) (Classical.propDecidable _) 1 0) → Q i') : wp_X9_waitFor v e i r Q := by
  have hn := nn_le ok
  have bv := hb v hv.1 hv.2
  have cv := cyv_r ok hv
  unfold wp_X9_waitFor
  rw [h.mk8 hv]
  refine ⟨by omega, lastUse_w ok h hv hm hb he (fun n n0 hnn => ⟨by omega, cyc_w ok h hv ?_⟩)⟩
  rw [wr_of (x := e - 1) (by omega) (by omega), wr_of (x := i 464 v + cyv D v) (by omega) (by omega)]
  have lv : ∀ c, 0 ≤ c → c < e → (liv D (i 464) e c v ↔ i 464 v + cyv D v ≤ c ∧ c ≤ n) := fun c a b => ⟨fun z => ⟨z.2.1, (hnn c a).2 z.2.2⟩, fun z => ⟨hm, z.1, (hnn c a).1 z.2⟩⟩
  refine Lp.r2 (fun (x : Int) (m : MI) => i 464 v + cyv D v ≤ x ∧ x ≤ 481 ∧ FO i m ∧ m 462 = i 462 ∧ m 463 = i 463 ∧ m 464 = i 464 ∧ ∀ c, 0 ≤ c → c < e → m 468 c = i 468 c + if i 464 v + cyv D v ≤ c ∧ c < x ∧ c ≤ n then 1 else 0) (fun x _ => (481 - x).toNat) ?_ ⟨by omega, by omega, FO.refl i, rfl, rfl, rfl, fun c a b => by rw [if_neg (by omega)]; omega⟩
  intro x m C ⟨g0, g1, g2, g3, g4, g5, g6⟩ hC
  dsimp only [b42_X9_waitFor]
  refine ⟨fun q => hQ m g2 g3 g4 g5 (fun c a b => ?_), fun q => ?_⟩
  · rw [g6 c a b]
    by_cases z : i 464 v + cyv D v ≤ c ∧ c ≤ n
    · rw [if_pos ⟨z.1, by omega, z.2⟩, if_pos ((lv c a b).2 z)]
    · rw [if_neg (fun w => z ⟨w.1, w.2.2⟩), if_neg (fun w => z ((lv c a b).1 w))]
  · have hx := hs x (by omega) (by omega)
    have e6 := g6 x (by omega) (by omega)
    rw [if_neg (by omega)] at e6
    rw [wr_of (x := x + 1) (by omega) (by omega), wr_of (x := m 468 x + 1) (by omega) (by omega)]
    refine ⟨by omega, by omega, hC _ _ ⟨by omega, by omega, g2.trans (FO.st (by decide)), by rw [st_row (by decide)]; exact g3, by rw [st_row (by decide)]; exact g4, by rw [st_row (by decide)]; exact g5, fun c a b => ?_⟩ (by omega)⟩
    by_cases w : c = x
    · rw [w, st_eq, e6, if_pos (by omega)]; omega
    · rw [st_ne (by omega), g6 c a b]
      by_cases z : i 464 v + cyv D v ≤ c ∧ c < x ∧ c ≤ n
      · rw [if_pos z, if_pos (by omega)]
      · rw [if_neg z, if_neg (by omega)]
theorem mostW_w {D : Dat} (ok : DOk D) {i r : MI} {Q : Int → MI → Prop} (h : NV D i) (li : M3 D i) (hQ : ∀ m e i', FO i i' → i' 462 = i 462 → i' 463 = i 463 → i' 464 = i 464 → IsEnd D (i 464) e → IsWait D (i 464) e m → Q m i') : wp_X9_mostWaiting i r Q := by
  have hn := nn_le ok
  unfold wp_X9_mostWaiting
  have lb : ∀ v, 0 ≤ v → v < nn D → -10 ≤ i 464 v ∧ i 464 v ≤ 100000 := by
    intro v a b
    obtain ⟨_, ha, c, hj⟩ := li.li
    have hc := JL_c ok hj
    have := hj.2.1 v a b
    omega
  refine endOf_w ok h lb (fun e he => ?_)
  obtain ⟨lb, el⟩ := list_end ok li.li he
  have e0 := he.1
  rw [show min e 481 = e by omega]
  have hb : ∀ u, 0 ≤ u → u < nn D → 0 ≤ i 464 u ∧ i 464 u + cyv D u ≤ e := fun u a b => ⟨(lb u a b).1, he.2.1 u a b⟩
  refine Lp.r2 (fun (x : Int) (m : MI) => 0 ≤ x ∧ x ≤ e ∧ FO i m ∧ m 462 = i 462 ∧ m 463 = i 463 ∧ m 464 = i 464 ∧ ∀ c, 0 ≤ c → c < x → m 468 c = 0) (fun x _ => (e - x).toNat) ?_ ⟨by decide, e0, FO.refl i, rfl, rfl, rfl, fun c a b => by omega⟩
  intro x m C ⟨g0, g1, g2, g3, g4, g5, g6⟩ hC
  dsimp only [b17_X9_mostWaiting]
  refine ⟨fun q => ?_, fun q => ⟨by omega, ?_⟩⟩
  · refine Lp.r2 (fun (x : Int) (m : MI) => 0 ≤ x ∧ x ≤ nn D ∧ FO i m ∧ m 462 = i 462 ∧ m 463 = i 463 ∧ m 464 = i 464 ∧ ∀ c, 0 ≤ c → c < e → CntP (liv D (i 464) e c) x.toNat (m 468 c)) (fun x _ => (nn D - x).toNat) ?_ ⟨by decide, hn.1, g2, g3, g4, g5, fun c a b => g6 c a (by omega)⟩
    intro x m C ⟨k0, k1, k2, k3, k4, k5, k6⟩ hC
    dsimp only [b37_X9_mostWaiting, s65_X9_mostWaiting]
    have hm := h.fo ok k2
    rw [hm.n]
    refine ⟨fun q2 => ?_, fun q2 => ⟨by omega, ?_⟩⟩
    · have ex : nn D = x := by omega
      rw [← ex] at k6
      refine Lp.r2 (fun (b y : Int) => 0 ≤ y ∧ y ≤ e ∧ 0 ≤ b ∧ (∀ c, 0 ≤ c → c < y → m 468 c ≤ b) ∧ (b = 0 ∨ ∃ c, 0 ≤ c ∧ c < y ∧ m 468 c = b)) (fun _ y => (e - y).toNat) ?_ ⟨by decide, e0, by decide, fun c a b => by omega, .inl rfl⟩
      intro b y C2 ⟨j0, j1, j2, j3, j4⟩ hC2
      dsimp only [b76_X9_mostWaiting]
      rw [wr_of (x := y + 1) (by omega) (by omega)]
      refine ⟨fun q3 => hQ b e m k2 k3 k4 k5 he ⟨j2, fun c a b' => ⟨_, k6 c a b', j3 c a (by omega)⟩, j4.imp id (fun ⟨c, a, b', z⟩ => ⟨c, a, by omega, by rw [← z]; exact k6 c a (by omega)⟩)⟩, fun q3 => ⟨by omega, hC2 _ _ ⟨by omega, by omega, by clear j4; omega, fun c a b' => ?_, ?_⟩ (by clear j4; omega)⟩⟩
      · by_cases w : c = y
        · rw [w]; clear j4; omega
        · have := j3 c a (by omega); clear j4; omega
      · rcases Int.le_total b (m 468 y) with z | z
        · exact .inr ⟨y, j0, by omega, (Int.max_eq_right z).symm⟩
        · rw [Int.max_eq_left z]
          exact j4.imp id (fun ⟨c, a, b', z⟩ => ⟨c, a, by omega, z⟩)
    · have hx : 0 ≤ x ∧ x < nn D := ⟨k0, by omega⟩
      rw [hm.mk8 hx, wr_of (x := x + 1) (by omega) (by omega)]
      refine ⟨fun z => hC _ _ ⟨by omega, by omega, k2, k3, k4, k5, fun c a b => (k6 c a b).no k0 (fun w => w.1 z)⟩ (by omega), fun z => ?_⟩
      refine waitFor_w ok hm hx z (by rw [k5]; exact hb) el (fun c a b => by have := CntP.b _ _ (k6 c a b); omega) (fun i' f a1 a2 a3 a4 => ?_)
      refine hC _ _ ⟨by omega, by omega, k2.trans f, by rw [a1]; exact k3, by rw [a2]; exact k4, by rw [a3]; exact k5, fun c a b => ?_⟩ (by omega)
      rw [a4 c a b, k5]
      by_cases w : liv D (i 464) e c x
      · rw [if_pos w]; exact (k6 c a b).yes k0 w
      · rw [if_neg w, Int.add_zero]; exact (k6 c a b).no k0 w
  · rw [wr_of (by omega) (by omega)]
    refine hC _ _ ⟨by omega, by omega, g2.trans (FO.st (by decide)), by rw [st_row (by decide)]; exact g3, by rw [st_row (by decide)]; exact g4, by rw [st_row (by decide)]; exact g5, fun c a b => ?_⟩ (by omega)
    by_cases w : c = x
    · rw [w, st_eq]
    · rw [st_ne (by omega)]; exact g6 c a (by omega)
