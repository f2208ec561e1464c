def runS (D : Dat) : Nat → St
  | 0 => begS D
  | n + 1 => oneS D ((n : Int) % D.cnt) ((n : Int) / D.cnt) (runS D n)
theorem run_ok {D : Dat} (ok : DOk D) (n : Nat) (hc : 0 < D.cnt) : StOk D (runS D n) := by
  induction n with
  | zero => exact beg_ok ok
  | succ n ih => exact one_ok ok ⟨Int.emod_nonneg _ (by omega), Int.emod_lt_of_pos _ hc⟩ ih
theorem one_cnt {D : Dat} {k i : Int} {s : St} : s.outs ≤ (oneS D k i s).outs ∧ (oneS D k i s).outs ≤ s.outs + 1 ∧ s.tak ≤ (oneS D k i s).tak ∧ (oneS D k i s).tak ≤ s.tak + 2 := by
  have tk : ∀ p s, (tkS D k p s).outs = s.outs ∧ s.tak ≤ (tkS D k p s).tak ∧ (tkS D k p s).tak ≤ s.tak + 1 := fun p s => by
    unfold tkS
    split
    · exact ⟨rfl, by show s.tak ≤ s.tak + 1; omega, by show s.tak + 1 ≤ s.tak + 1; omega⟩
    · omega
  have wr1 : ∀ v s, s.outs ≤ (wriS D k i v s).outs ∧ (wriS D k i v s).outs ≤ s.outs + 1 ∧ (wriS D k i v s).tak = s.tak := fun v s => by
    unfold wriS
    split
    · exact ⟨by show s.outs ≤ s.outs; omega, by show s.outs ≤ s.outs + 1; omega, rfl⟩
    split
    · exact ⟨by show s.outs ≤ s.outs + 1; omega, by show s.outs + 1 ≤ s.outs + 1; omega, rfl⟩
    split
    · exact ⟨by show s.outs ≤ s.outs; omega, by show s.outs ≤ s.outs + 1; omega, rfl⟩
    · omega
  unfold oneS
  split
  · have a1 := tk 1 s
    have a2 := wr1 (valS D k 1 i s) (tkS D k 1 s)
    omega
  · have a1 := tk 1 s
    have a3 := tk 2 (tkS D k 1 s)
    have a2 := wr1 (cutD D (opS (D.O k) (valS D k 1 i s) (valS D k 2 i (tkS D k 1 s)))) (tkS D k 2 (tkS D k 1 s))
    omega
theorem run_cnt {D : Dat} (n : Nat) : 0 ≤ (runS D n).outs ∧ (runS D n).outs ≤ n ∧ 0 ≤ (runS D n).tak ∧ (runS D n).tak ≤ 2 * n := by
  induction n with
  | zero => exact ⟨Int.le_refl 0, Int.le_refl 0, Int.le_refl 0, Int.le_refl 0⟩
  | succ n ih =>
    have := one_cnt (D := D) (k := (n : Int) % D.cnt) (i := (n : Int) / D.cnt) (s := runS D n)
    have e : runS D (n + 1) = oneS D ((n : Int) % D.cnt) ((n : Int) / D.cnt) (runS D n) := rfl
    rw [e]
    omega
theorem run_at {D : Dat} {a b : Int} (ha : 0 ≤ a) (hb : 0 ≤ b ∧ b < D.cnt) : runS D (a * D.cnt + b + 1).toNat = oneS D b a (runS D (a * D.cnt + b).toNat) := by
  have h0 : 0 ≤ a * D.cnt := Int.mul_nonneg ha (by omega)
  have e : (a * D.cnt + b + 1).toNat = (a * D.cnt + b).toNat + 1 := by omega
  rw [e]
  show oneS D (((a * D.cnt + b).toNat : Int) % D.cnt) (((a * D.cnt + b).toNat : Int) / D.cnt) _ = _
  have e2 : ((a * D.cnt + b).toNat : Int) = b + a * D.cnt := by omega
  rw [e2, Int.add_mul_emod_self_right, Int.add_mul_ediv_right _ _ (by omega), Int.emod_eq_of_lt hb.1 hb.2, Int.ediv_eq_zero_of_lt hb.1 hb.2, Int.zero_add]
/-- the state when all is done -/
def execS (D : Dat) : St := runS D (D.tur * D.cnt).toNat
theorem begin_w {D : Dat} {i r : MI} {o : Int} {Q : MI → Prop} (h : ClassP D i r) (ho : sta o) (hic : 0 ≤ D.inc) (hQ : ∀ i', FS o i i' → CSt D o i' (begS D) → Q i') : wp_X7_begin o i r Q := by
  have hor := sta_rng ho
  unfold wp_X7_begin
  refine Lp.r2 (fun x m => 0 ≤ x ∧ x ≤ 8 ∧ FS o i m ∧ ∀ k, 0 ≤ k → k < x → m (o + 1) k = 0) (fun x _ => (8 - x).toNat) ?_ ⟨by decide, by decide, FS.refl _ _, fun k a b => by omega⟩
  intro x m C ⟨h0, h1, h2, h3⟩ hC
  unfold b2_X7_begin
  refine ⟨fun q => ?_, fun q => ⟨⟨h0, by omega⟩, hC _ _ ⟨?_, ?_, ?_, ?_⟩ ?_⟩⟩
  · refine Lp.r2 (fun y m => 0 ≤ y ∧ y ≤ 2 ∧ FS o i m ∧ (∀ k, 0 ≤ k → k < 8 → m (o + 1) k = 0) ∧ ∀ a p, 0 ≤ a → a < y → 0 ≤ p → p < 16 → m (o + 3 + a) p = cutD D (D.told a p)) (fun y _ => (2 - y).toNat) ?_ ⟨by decide, by decide, h2, fun k a b => h3 k a (by omega), fun k p a b => by omega⟩
    intro y m2 C2 ⟨g0, g1, g2, g3, g4⟩ hC2
    unfold b23_X7_begin
    refine ⟨fun q2 => ?_, fun q2 => ?_⟩
    · refine hQ _ (g2.trans ((FS.st (by omega) (by omega)).trans (FS.st (by omega) (by omega)))) ⟨?_, ?_, ?_, ?_, ?_⟩
      · intro k a b; simp (disch := omega) only [st_row]; exact g3 k a b
      · intro a p c d e f; simp (disch := omega) only [st_row]; exact g4 a p c (by omega) e f
      · intro k a b; have b : k < 0 := b; omega
      · simp (disch := omega) only [st_ne, st_eq]; rfl
      · rw [st_eq]; show 0 = min 0 D.inc; omega
    · refine Lp.r2 (fun z m => 0 ≤ z ∧ z ≤ 16 ∧ FS o i m ∧ (∀ k, 0 ≤ k → k < 8 → m (o + 1) k = 0) ∧ ∀ a p, 0 ≤ a → (a < y ∨ (a = y ∧ p < z)) → 0 ≤ p → p < 16 → m (o + 3 + a) p = cutD D (D.told a p)) (fun z _ => (16 - z).toNat) ?_ ⟨by decide, by decide, g2, g3, fun a p b c d e => g4 a p b (by omega) d e⟩
      intro z m3 C3 ⟨f0, f1, f2, f3, f4⟩ hC3
      unfold b30_X7_begin
      have h5 := h.fs ho f2
      refine ⟨fun q3 => ?_, fun q3 => ⟨by omega, by omega, by omega, ?_⟩⟩
      · rw [wr_of (by omega) (by omega)]
        exact hC2 _ _ ⟨by omega, by omega, f2, f3, fun a p b c d e => f4 a p b (by omega) d e⟩ (by omega)
      · rw [cut_e h5, h5.told y z (by omega) (by omega) (by omega) (by omega), wr_of (by omega) (by omega)]
        refine ⟨by omega, hC3 _ _ ⟨by omega, by omega, f2.trans (FS.st (by omega) (by omega)), ?_, ?_⟩ (by omega)⟩
        · intro k a b; rw [st_row (by omega)]; exact f3 k a b
        · intro a p b c d e
          by_cases ee : a = y ∧ p = z
          · rw [ee.1, ee.2, st_eq]
          · rw [st_ne (by omega)]; exact f4 a p b (by omega) d e
  · rw [wr_of (by omega) (by omega)]; omega
  · rw [wr_of (by omega) (by omega)]; omega
  · exact h2.trans (FS.st (by omega) (by omega))
  · intro k a b
    rw [wr_of (by omega) (by omega)] at b
    by_cases e : k = x
    · rw [e, st_eq]
    · rw [st_ne (by omega)]; exact h3 k a (by omega)
  · rw [wr_of (by omega) (by omega)]; omega
theorem body_le {D : Dat} (ok : DOk D) : 0 ≤ D.tur * D.cnt ∧ D.tur * D.cnt ≤ 192 := by
  have h1 := ok.tur
  have h2 := ok.cnt
  refine ⟨Int.mul_nonneg (by omega) (by omega), ?_⟩
  have : D.tur * D.cnt ≤ 16 * 12 := Int.mul_le_mul h1.2 h2.2 (by omega) (by omega)
  omega
theorem inst_lt {D : Dat} (ok : DOk D) {a b : Int} (ha : 0 ≤ a ∧ a < D.tur) (hb : 0 ≤ b ∧ b < D.cnt) : 0 ≤ a * D.cnt + b ∧ a * D.cnt + b < D.tur * D.cnt := by
  have h0 : 0 ≤ a * D.cnt := Int.mul_nonneg ha.1 (by omega)
  refine ⟨by omega, ?_⟩
  have : (a + 1) * D.cnt ≤ D.tur * D.cnt := Int.mul_le_mul_of_nonneg_right (by omega) (by omega)
  rw [Int.add_mul] at this
  omega
theorem carryOut_w {D : Dat} {i r : MI} {o : Int} {Q : MI → Prop} (h : ClassP D i r) (ok : DOk D) (ho : sta o) (hQ : ∀ i', FS o i i' → CSt D o i' (execS D) → Q i') : wp_X6_carryOut o i r Q := by
  have hc := ok.cnt
  have ht := ok.tur
  have hb := body_le ok
  unfold wp_X6_carryOut
  refine begin_w h ho ok.inc.1 (fun i1 f1 s1 => ?_)
  refine Lp.r2 (fun x m => 0 ≤ x ∧ x ≤ D.tur ∧ FS o i m ∧ CSt D o m (runS D (x * D.cnt).toNat)) (fun x _ => (D.tur - x).toNat) ?_ ⟨by decide, by omega, f1, by rw [Int.zero_mul]; exact s1⟩
  intro x m C ⟨h0, h1, h2, h3⟩ hC
  dsimp only [b7_X6_carryOut]
  have hm := h.fs ho h2
  rw [hm.tur]
  refine ⟨fun q => hQ _ h2 ?_, fun q => ?_⟩
  · have e : x = D.tur := by omega
    rw [e] at h3
    exact h3
  · refine Lp.r2 (fun y m => 0 ≤ y ∧ y ≤ D.cnt ∧ FS o i m ∧ CSt D o m (runS D (x * D.cnt + y).toNat)) (fun y _ => (D.cnt - y).toNat) ?_ ⟨by decide, by omega, h2, by rw [Int.add_zero]; exact h3⟩
    intro y m2 C2 ⟨g0, g1, g2, g3⟩ hC2
    dsimp only [b17_X6_carryOut]
    have hm2 := h.fs ho g2
    rw [hm2.cnt]
    refine ⟨fun q2 => ?_, fun q2 => ⟨by omega, ?_⟩⟩
    · rw [wr_of (by omega) (by omega)]
      refine hC _ _ ⟨by omega, by omega, g2, ?_⟩ (by omega)
      have e : y = D.cnt := by omega
      rw [e] at g3
      rw [Int.add_mul, Int.one_mul]
      exact g3
    · have hi := inst_lt ok (a := x) (b := y) ⟨h0, by omega⟩ ⟨g0, by omega⟩
      have hrc := run_cnt (D := D) (x * D.cnt + y).toNat
      refine carryOne_w hm2 ok ⟨g0, by omega⟩ ⟨h0, by omega⟩ ho g3 (run_ok ok _ (by omega)) (fun _ => by omega) (fun i3 f3 s3 => ?_)
      rw [wr_of (by omega) (by omega)]
      refine hC2 _ _ ⟨by omega, by omega, g2.trans f3, ?_⟩ (by omega)
      rw [← Int.add_assoc, run_at h0 ⟨g0, by omega⟩]
      exact s3
