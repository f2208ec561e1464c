/-! the reference, one statement after the other -/
def FN (i i' : MI) : Prop := (∀ a, a ≠ 504 → (a < 512 ∨ 514 < a) → i' a = i a) ∧ ∀ c, c ≠ 19 → c ≠ 20 → i' 504 c = i 504 c
theorem FN.refl (i : MI) : FN i i := ⟨fun _ _ _ => rfl, fun _ _ _ => rfl⟩
theorem FN.trans {i j k : MI} (h : FN i j) (g : FN j k) : FN i k := ⟨fun a q w => (g.1 a q w).trans (h.1 a q w), fun c q w => (g.2 c q w).trans (h.2 c q w)⟩
theorem FN.sa {a k v : Int} {i : MI} (h : 512 ≤ a ∧ a ≤ 514) : FN i (st i a k v) := ⟨fun b q w => st_row (by omega), fun c q w => by rw [st_row (by omega)]⟩
theorem FN.s4 {k v : Int} {i : MI} (h : k = 19 ∨ k = 20) : FN i (st i 504 k v) := ⟨fun b q w => st_row q, fun c q w => st_ne (by omega)⟩
theorem ModelP.fn {D : Dat} {i i' : MI} (h : ModelP D i) (g : FN i i') : ModelP D i' :=
  h.congr (fun c hc => g.2 c (by omega) (by omega)) (g.1 _ (by decide) (by decide)) (fun a x y => g.1 _ (by omega) (by omega)) (fun a x y => g.1 _ (by omega) (by omega))
theorem taken_e {D : Dat} {i r : MI} {v : Int} {Q : Int → Prop} (h : ModelP D i) : wp_X12_taken v i r Q ↔ Q (cutD D v) := by
  unfold wp_X12_taken cutD
  rw [h.bits]
theorem where_e {F T N t : Int} {i r : MI} {Q : Int → Prop} (hF : F = 3 ∨ F = 4) (ht : 0 ≤ t ∧ t ≤ 1000) (hT : (T = 0 ∧ 0 ≤ N ∧ N ≤ 99) ∨ (T = 1 ∧ -9 ≤ N ∧ N ≤ 9)) : wp_X12_where F T N t i r Q ↔ Q (if 0 ≤ plc T N t ∧ plc T N t < 16 then 16 * (F - 3) + plc T N t else -1) := by
  have key : ∀ p : Int, -100 ≤ p ∧ p ≤ 2000 → (s12_X12_where F p i r Q ↔ Q (if 0 ≤ p ∧ p < 16 then 16 * (F - 3) + p else -1)) := by
    intro p hp
    unfold s12_X12_where s36_X12_where s43_X12_where
    rw [in_eq]
    by_cases e : 0 ≤ p ∧ p < 16
    · rw [if_pos e, bz, if_pos (by omega)]
      rcases hF with rfl | rfl
      · rw [show 16 * ((3 : Int) - 3) + p = p by omega, Int.zero_add, wr_of (x := p) (by omega) (by omega)]
        exact ⟨fun q => (q.2 (by decide)).1 rfl, fun q => ⟨fun z => absurd z (by decide), fun _ => ⟨fun _ => q, fun z => absurd rfl z⟩⟩⟩
      · rw [show 16 * ((4 : Int) - 3) + p = 16 + p by omega, wr_of (x := 16 + p) (by omega) (by omega)]
        exact ⟨fun q => (q.2 (by decide)).2 (by decide), fun q => ⟨fun z => absurd z (by decide), fun _ => ⟨fun z => absurd z (by decide), fun _ => q⟩⟩⟩
    · rw [if_neg e, bz, if_neg (by omega)]
      exact ⟨fun q => q.1 rfl, fun q => ⟨fun _ => q, fun z => absurd rfl z⟩⟩
  unfold wp_X12_where
  have hp := plc_r ht hT
  rw [← key _ hp]
  unfold plc
  by_cases e : T = 0
  · rw [if_pos e]
    exact ⟨fun q => q.2 (by omega), fun q => ⟨fun z => by omega, fun _ => q⟩⟩
  · rw [if_neg e, wr_of (by omega) (by omega)]
    exact ⟨fun q => q.1 (by omega), fun q => ⟨fun _ => q, fun z => by omega⟩⟩
theorem look_m {i : MI} {s : St} {m p : Int} (h : MSt i s) (hm : m = 0 ∨ m = 1) : lookS s m p = if 0 ≤ p ∧ p < 16 then i 513 (16 * m + p) else 0 := by
  unfold lookS
  by_cases e : 0 ≤ p ∧ p < 16
  · rw [if_pos (by omega), if_pos e, h.m m p (by omega) (by omega) e.1 e.2]
  · rw [if_neg (by omega), if_neg e]
theorem mstm_p {D : Dat} {i : MI} (h : ModelP D i) {k p : Int} (hk : 0 ≤ k ∧ k < D.cnt) (hp : p = 1 ∨ (p = 2 ∧ D.O k ≠ 32)) : MPart i 507 (13 * k + 4 * p) (D.F k p) (D.N k p) (D.T k p) := by
  have := h.st k hk.1 hk.2
  rcases hp with rfl | ⟨rfl, e⟩
  · exact this.p1
  · exact this.p2 e
theorem operand_w {D : Dat} {i r : MI} {k p t : Int} {s : St} {Q : Int → MI → Prop} (h : ModelP D i) (ok : DOk D) (hk : 0 ≤ k ∧ k < D.cnt) (hp : p = 1 ∨ (p = 2 ∧ D.O k ≠ 32)) (ht : 0 ≤ t ∧ t ≤ 1000) (hs : MSt i s) (hso : StOk D s) (htk : s.tak < 100000)
    (hQ : ∀ i', FN i i' → MSt i' (tkS D k p s) → Q (valS D k p t s) i') : wp_X12_operand (13 * k + 4 * p) t i r Q := by
  obtain ⟨q0, q1, q2⟩ := mstm_p h hk hp
  have sok := ok.st k hk.1 hk.2
  have hc := ok.cnt
  have hp3 : 0 ≤ p ∧ p < 3 := by omega
  have hF : 0 ≤ D.F k p ∧ D.F k p ≤ 5 := by
    rcases hp with rfl | ⟨rfl, e⟩
    · exact sok.f1
    · rcases sok.f2 with q | q
      · exact absurd q.1 e
      · exact q.2
  have w1 : wr (13 * k + 4 * p + 1) = 13 * k + 4 * p + 1 := wr_of (by omega) (by omega)
  have w2 : wr (13 * k + 4 * p + 2) = 13 * k + 4 * p + 2 := wr_of (by omega) (by omega)
  have w3 : wr (13 * k + 4 * p + 3) = 13 * k + 4 * p + 3 := wr_of (by omega) (by omega)
  have tk0 : ¬ D.F k p = 5 → tkS D k p s = s := fun e => by unfold tkS; rw [if_neg e]
  rw [if_pos hF.2] at q0
  unfold wp_X12_operand
  rw [q0, w1, taken_e h, taken_e h]
  unfold valS at hQ
  refine ⟨by omega, fun e0 => ?_, fun e0 => ⟨fun e1 => ?_, fun e1 => ⟨fun e2 => ?_, fun e2 => ?_⟩⟩⟩
  · rw [if_pos e0, tk0 (by omega)] at hQ
    have := sok.n0 p hp3.1 hp3.2 e0
    rw [q1 (.inl e0), hs.r _ this.1 (by omega)]
    exact ⟨by omega, by omega, hQ _ (FN.refl _) hs⟩
  · rw [if_neg e0, if_pos e1, tk0 (by omega)] at hQ
    rw [q1 (.inr e1)]
    exact ⟨by omega, hQ _ (FN.refl _) hs⟩
  · rw [if_neg e0, if_neg e1, if_pos e2, tk0 (by omega)] at hQ
    exact hQ _ (FN.refl _) hs
  · rw [if_neg e0, if_neg e1, if_neg e2] at hQ
    have mem : D.F k p = 3 ∨ D.F k p = 4 → s86_X12_operand (13 * k + 4 * p) t (D.F k p) i r Q := by
      intro e
      rw [if_neg (by omega), tk0 (by omega)] at hQ
      have sn := sok.n3 p hp3.1 hp3.2 e
      unfold s86_X12_operand s126_X12_operand
      rw [w2, w3, (q2 e).1, (q2 e).2, where_e e ht sn]
      refine ⟨by omega, by omega, ?_⟩
      have hl := look_m (p := plc (D.T k p) (D.N k p) t) hs (m := D.F k p - 3) (by omega)
      by_cases e5 : 0 ≤ plc (D.T k p) (D.N k p) t ∧ plc (D.T k p) (D.N k p) t < 16
      · rw [if_pos e5] at hl ⊢
        rw [hl] at hQ
        exact ⟨fun z => by omega, fun _ => ⟨by omega, hQ _ (FN.refl _) hs⟩⟩
      · rw [if_neg e5] at hl ⊢
        rw [hl] at hQ
        exact ⟨fun _ => hQ _ (FN.refl _) hs, fun z => absurd rfl z⟩
    refine ⟨fun e3 => mem (.inl e3), fun e3 => ⟨fun e4 => mem (.inr e4), fun e4 => ⟨fun e5 => ?_, fun e5 => by omega⟩⟩⟩
    rw [if_pos e5] at hQ
    have hso1 := hso.t
    unfold wp_X12_fromChannel s40_X12_fromChannel
    have e6 : tkS D k p s = St.mk s.reg s.mem s.out s.outs (s.tak + 1) := by unfold tkS; rw [if_pos e5]
    rw [e6] at hQ
    rw [hs.t, wr_of (x := s.tak + 1) (by omega) (by omega), st_eq, st_ne (a := 504) (c := 11) (by omega), h.inc]
    rw [wr_of (by omega) (by omega), show s.tak + 1 - 1 = s.tak by omega]
    have hM : ModelP D (st i 504 20 (s.tak + 1)) := h.fn (FN.s4 (.inr rfl))
    have hS : MSt (st i 504 20 (s.tak + 1)) (St.mk s.reg s.mem s.out s.outs (s.tak + 1)) := by
      refine ⟨?_, ?_, ?_, ?_, st_eq⟩
      · rw [st_row (by decide)]; exact hs.r
      · rw [st_row (by decide)]; exact hs.m
      · rw [st_row (by decide)]; exact hs.x
      · rw [st_ne (by decide)]; exact hs.n
    have hic := ok.inc
    rw [taken_e hM]
    refine ⟨fun q => ?_, fun q => ⟨by omega, ?_⟩⟩
    · rw [if_neg (by omega)] at hQ
      exact hQ _ (FN.s4 (.inr rfl)) hS
    · rw [if_pos (by omega)] at hQ
      rw [hM.inp s.tak (by omega) (by omega)]
      exact hQ _ (FN.s4 (.inr rfl)) hS
theorem mwrite_w {D : Dat} {i r : MI} {k t v : Int} {s : St} {Q : MI → Prop} (h : ModelP D i) (ok : DOk D) (hk : 0 ≤ k ∧ k < D.cnt) (ht : 0 ≤ t ∧ t ≤ 1000) (hs : MSt i s) (hso : StOk D s) (hout : D.F k 0 = 6 → s.outs < 192)
    (hQ : ∀ i', FN i i' → MSt i' (wriS D k t v s) → Q i') : wp_X12_write k t v i r Q := by
  obtain ⟨q0, q1, q2⟩ := (h.st k hk.1 hk.2).p0
  have sok := ok.st k hk.1 hk.2
  have hc := ok.cnt
  have f0 := sok.f0
  have hn := hso.n
  have w0 : wr (13 * k) = 13 * k := wr_of (by omega) (by omega)
  have w1 : wr (13 * k + 1) = 13 * k + 1 := wr_of (by omega) (by omega)
  have w2 : wr (13 * k + 2) = 13 * k + 2 := wr_of (by omega) (by omega)
  have w3 : wr (13 * k + 3) = 13 * k + 3 := wr_of (by omega) (by omega)
  unfold wp_X12_write s107_X12_write
  simp only [w0, w1, w2, w3]
  rw [q0]
  unfold wriS at hQ
  refine ⟨by omega, fun e0 => ?_, fun e0 => ⟨fun e1 => ?_, fun e1 => ?_⟩⟩
  · have e0 : D.F k 0 = 0 := by split at e0 <;> omega
    rw [if_pos e0] at hQ
    have := sok.n0 0 (by decide) (by decide) e0
    rw [q1 (.inl e0)]
    refine ⟨by omega, by omega, hQ _ (FN.sa (by decide)) ⟨?_, ?_, ?_, ?_, ?_⟩⟩
    · intro a x y
      simp only [St.k_reg]
      by_cases e : a = D.N k 0
      · rw [e, st_eq]; simp
      · rw [st_ne (by omega)]; simp [e]; exact hs.r a x y
    · rw [st_row (by omega)]; exact hs.m
    · rw [st_row (by omega)]; exact hs.x
    · rw [st_row (by omega)]; exact hs.n
    · rw [st_row (by omega)]; exact hs.t
  · have e1 : D.F k 0 = 6 := by split at e1 <;> omega
    rw [if_neg (by omega), if_pos e1] at hQ
    have ho2 := hout e1
    rw [st_row (a := 504) (by omega), hs.n, wr_of (by omega) (by omega)]
    refine ⟨by omega, hQ _ ((FN.sa (by decide)).trans (FN.s4 (.inl rfl))) ⟨?_, ?_, ?_, ?_, ?_⟩⟩
    · simp (disch := omega) only [st_row]; exact hs.r
    · simp (disch := omega) only [st_row]; exact hs.m
    · intro a x y
      have y : a < s.outs + 1 := y
      rw [st_row (by omega)]
      simp only [St.k_out]
      by_cases e : a = s.outs
      · rw [e, st_eq]; simp
      · rw [st_ne (by omega)]; simp [e]; exact hs.x a x (by omega)
    · rw [st_eq]; rfl
    · simp (disch := omega) only [st_row, st_ne]; exact hs.t
  · have e34 : D.F k 0 = 3 ∨ D.F k 0 = 4 := by
      rcases f0 with f | f | f | f
      · rw [f] at e0; exact absurd rfl e0
      · exact .inl f
      · exact .inr f
      · rw [f] at e1; exact absurd rfl e1
    rw [if_neg (by omega), if_neg (by omega)] at hQ
    rw [if_pos (by omega), (q2 e34).1, (q2 e34).2, where_e e34 ht (sok.n3 0 (by decide) (by decide) e34)]
    refine ⟨by omega, by omega, ?_⟩
    by_cases e5 : 0 ≤ plc (D.T k 0) (D.N k 0) t ∧ plc (D.T k 0) (D.N k 0) t < 16
    · rw [if_pos e5]
      rw [if_pos (by omega)] at hQ
      refine ⟨fun z => by omega, fun _ => ⟨by omega, hQ _ (FN.sa (by decide)) ⟨?_, ?_, ?_, ?_, ?_⟩⟩⟩
      · rw [st_row (by omega)]; exact hs.r
      · intro m x a b c d
        simp only [St.k_mem]
        by_cases e : m = D.F k 0 - 3 ∧ x = plc (D.T k 0) (D.N k 0) t
        · rw [e.1, e.2, st_eq]; simp
        · rw [st_ne (by omega), if_neg e]; exact hs.m m x a b c d
      · rw [st_row (by omega)]; exact hs.x
      · rw [st_row (by omega)]; exact hs.n
      · rw [st_row (by omega)]; exact hs.t
    · rw [if_neg e5]
      rw [if_neg (by omega)] at hQ
      exact ⟨fun _ => hQ _ (FN.refl _) hs, fun z => absurd rfl z⟩
theorem moperate_e {D : Dat} {i r : MI} {O a b : Int} {Q : Int → Prop} (h : ModelP D i) (ok : DOk D) (ha : isCut D a) (hb : isCut D b) (hO : isOp O) : wp_X12_operate O a b i r Q ↔ Q (cutD D (opS O a b)) := by
  obtain ⟨c1, c2, c3⟩ := bits_cut ok ha hb
  unfold wp_X12_operate s107_X12_operate opS
  simp only [taken_e h]
  by_cases e1 : O = 38
  · simp [e1, cut_of ok c1]
  by_cases e2 : O = 42
  · simp [e2]
  by_cases e3 : O = 43
  · simp [e3]
  by_cases e4 : O = 45
  · simp [e4]
  by_cases e5 : O = 94
  · simp [e5, cut_of ok c3]
  by_cases e6 : O = 124
  · simp [e6, cut_of ok c2]
  · by_cases e7 : a < b
    · simp [e1, e2, e3, e4, e5, e6, e7]; omega
    · simp [e1, e2, e3, e4, e5, e6, e7]; omega
theorem mbegin_w {D : Dat} {i r : MI} {Q : MI → Prop} (h : ModelP D i) (hQ : ∀ i', FN i i' → MSt i' (begS D) → Q i') : wp_X12_begin i r Q := by
  unfold wp_X12_begin
  refine Lp.r2 (fun x m => 0 ≤ x ∧ x ≤ 8 ∧ FN i m ∧ ∀ k, 0 ≤ k → k < x → m 512 k = 0) (fun x _ => (8 - x).toNat) ?_ ⟨by decide, by decide, FN.refl _, fun k a b => by omega⟩
  intro x m C ⟨h0, h1, h2, h3⟩ hC
  dsimp only [b2_X12_begin]
  refine ⟨fun q => ?_, fun q => ⟨⟨h0, by omega⟩, ?_⟩⟩
  · refine Lp.r2 (fun z m => 0 ≤ z ∧ z ≤ 32 ∧ FN i m ∧ (∀ k, 0 ≤ k → k < 8 → m 512 k = 0) ∧ ∀ a p, 0 ≤ a → 16 * a + p < z → 0 ≤ p → p < 16 → m 513 (16 * a + p) = cutD D (D.told a p)) (fun z _ => (32 - z).toNat) ?_ ⟨by decide, by decide, h2, fun k a b => h3 k a (by omega), fun a p b c d e => by omega⟩
    intro z m3 C3 ⟨f0, f1, f2, f3, f4⟩ hC3
    dsimp only [b23_X12_begin]
    have h5 := h.fn f2
    refine ⟨fun q3 => ?_, fun q3 => ⟨by omega, ?_⟩⟩
    · refine hQ _ ((f2.trans (FN.s4 (.inl rfl))).trans (FN.s4 (.inr rfl))) ⟨?_, ?_, ?_, ?_, ?_⟩
      · simp (disch := omega) only [st_row]; exact f3
      · intro a p c d e f; simp (disch := omega) only [st_row]; exact f4 a p c (by omega) e f
      · intro k a b; have b : k < 0 := b; omega
      · rw [st_ne (by decide), st_eq]; rfl
      · rw [st_eq]; rfl
    · have e1 : m3 509 z = D.told (z / 16) (z % 16) := by
        have := h5.told (z / 16) (z % 16) (by omega) (by omega) (by omega) (by omega)
        rw [← this]
        congr 1
        omega
      rw [taken_e h5, e1, wr_of (by omega) (by omega)]
      refine ⟨by omega, hC3 _ _ ⟨by omega, by omega, f2.trans (FN.sa (by decide)), ?_, ?_⟩ (by omega)⟩
      · rw [st_row (by decide)]; exact f3
      · intro a p b c d e
        by_cases ee : 16 * a + p = z
        · have e2 : z / 16 = a := by omega
          have e3 : z % 16 = p := by omega
          rw [ee, st_eq, e2, e3]
        · rw [st_ne (by omega)]; exact f4 a p b (by omega) d e
  · rw [wr_of (by omega) (by omega)]
    refine hC _ _ ⟨by omega, by omega, h2.trans (FN.sa (by decide)), fun k a b => ?_⟩ (by omega)
    by_cases e : k = x
    · rw [e, st_eq]
    · rw [st_ne (by omega)]; exact h3 k a (by omega)
theorem perform_w {D : Dat} {i r : MI} {Q : MI → Prop} (h : ModelP D i) (ok : DOk D) (hQ : ∀ i', FN i i' → MSt i' (execS D) → Q i') : wp_X12_perform i r Q := by
  have hc := ok.cnt
  have ht := ok.tur
  have hb := body_le ok
  unfold wp_X12_perform
  refine mbegin_w h (fun i1 f1 s1 => ?_)
  refine Lp.r2 (fun x m => 0 ≤ x ∧ x ≤ D.tur ∧ FN i m ∧ MSt m (runS D (x * D.cnt).toNat)) (fun x _ => (D.tur - x).toNat) ?_ ⟨by decide, by omega, f1, by rw [Int.zero_mul]; exact s1⟩
  intro x m C ⟨h0, h1, h2, h3⟩ hC
  dsimp only [b6_X12_perform]
  have hm := h.fn h2
  rw [hm.tur]
  refine ⟨fun q => hQ _ h2 ?_, fun q => ?_⟩
  · have e : x = D.tur := by omega
    rw [e] at h3
    exact h3
  · refine Lp.r2 (fun y m => 0 ≤ y ∧ y ≤ D.cnt ∧ FN i m ∧ MSt m (runS D (x * D.cnt + y).toNat)) (fun y _ => (D.cnt - y).toNat) ?_ ⟨by decide, by omega, h2, by rw [Int.add_zero]; exact h3⟩
    intro y m2 C2 ⟨g0, g1, g2, g3⟩ hC2
    dsimp only [b16_X12_perform]
    have hm2 := h.fn g2
    rw [hm2.cnt]
    refine ⟨fun q2 => ?_, fun q2 => ?_⟩
    · rw [wr_of (by omega) (by omega)]
      refine hC _ _ ⟨by omega, by omega, g2, ?_⟩ (by omega)
      have e : y = D.cnt := by omega
      rw [e] at g3
      rw [Int.add_mul, Int.one_mul]
      exact g3
    · have hi := inst_lt ok (a := x) (b := y) ⟨h0, by omega⟩ ⟨g0, by omega⟩
      have hrc := run_cnt (D := D) (x * D.cnt + y).toNat
      have hk : 0 ≤ y ∧ y < D.cnt := ⟨g0, by omega⟩
      have ok1 := run_ok ok (x * D.cnt + y).toNat (by omega)
      have fin : ∀ i3, FN m2 i3 → MSt i3 (oneS D y x (runS D (x * D.cnt + y).toNat)) → C2 (wr (y + 1), i3) := by
        intro i3 f3 s3
        rw [wr_of (by omega) (by omega)]
        refine hC2 _ _ ⟨by omega, by omega, g2.trans f3, ?_⟩ (by omega)
        rw [← Int.add_assoc, run_at h0 hk]
        exact s3
      generalize runS D (x * D.cnt + y).toNat = s at *
      unfold oneS at fin
      have tks : ∀ p s, (tkS D y p s).outs = s.outs := fun p s => by unfold tkS; split <;> rfl
      have tkt : ∀ p s, (tkS D y p s).tak ≤ s.tak + 1 := fun p s => by
        unfold tkS
        split
        · show s.tak + 1 ≤ s.tak + 1; omega
        · omega
      rw [wr_of (x := 13 * y) (by omega) (by omega), wr_of (x := 13 * y + 4) (by omega) (by omega), wr_of (x := 13 * y + 12) (by omega) (by omega), wr_of (x := 13 * y + 8) (by omega) (by omega)]
      refine operand_w (p := 1) hm2 ok hk (.inl rfl) ⟨h0, by omega⟩ g3 ok1 (by omega) (fun i3 f3 s3 => ?_)
      have hm3 := hm2.fn f3
      have hO := (hm3.st y hk.1 hk.2).o
      have sok := ok.st y hk.1 hk.2
      rw [hO]
      unfold s81_X12_perform
      refine ⟨by omega, fun e => ?_, fun e => ?_⟩
      · have e : D.O y = 32 := by
          rcases sok.f2 with q | q
          · exact q.1
          · split at e
            · assumption
            · exfalso; unfold isOp at *; omega
        rw [if_pos e] at fin
        exact mwrite_w hm3 ok hk ⟨h0, by omega⟩ s3 (tk_ok ok1) (by rw [tks]; intro _; omega) (fun i4 f4 s4 => fin _ (f3.trans f4) s4)
      · have e : ¬ D.O y = 32 := by
          intro q; rw [if_pos q] at e; exact e rfl
        rw [if_neg e] at fin
        rw [if_neg e]
        have hop : isOp (D.O y) := by
          rcases sok.f2 with q | q
          · exact absurd q.1 e
          · exact q.1
        have t1 := tkt 1 s
        refine operand_w (p := 2) hm3 ok hk (.inr ⟨rfl, e⟩) ⟨h0, by omega⟩ s3 (tk_ok ok1) (by omega) (fun i4 f4 s4 => ?_)
        have hm4 := hm3.fn f4
        rw [moperate_e hm4 ok (val_cut ok hk (by decide) ok1) (val_cut ok hk (by decide) (tk_ok ok1)) hop]
        exact mwrite_w hm4 ok hk ⟨h0, by omega⟩ s4 (tk_ok (tk_ok ok1)) (by rw [tks, tks]; intro _; omega) (fun i5 f5 s5 => fin _ ((f3.trans f4).trans f5) s5)
