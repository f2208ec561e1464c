/-! ===== facts: words, kinds, references ===== -/
def LoopP {S : Type} (B : (S → Prop) → S → Prop) : Nat → S → Prop
  | 0, _ => False
  | k + 1, s => B (LoopP B k) s
def Lp {S : Type} (B : (S → Prop) → S → Prop) (s : S) : Prop := ∃ k, LoopP B k s
/-- a loop by an invariant and a measure -/
theorem Lp.rule {S : Type} {B : (S → Prop) → S → Prop} (Inv : S → Prop) (μ : S → Nat) (h : ∀ (s : S) (C : S → Prop), Inv s → (∀ s', Inv s' → μ s' < μ s → C s') → B C s) : ∀ s, Inv s → Lp B s := by
  have key : ∀ (n : Nat) (s : S), μ s < n → Inv s → LoopP B n s := by
    intro n
    induction n with
    | zero => intro s h1 _; omega
    | succ n ih =>
      intro s h1 h2
      exact h s _ h2 (fun s' h3 h4 => ih s' (by omega) h3)
  exact fun s hs => ⟨μ s + 1, key _ s (Nat.lt_succ_self _) hs⟩
theorem sR_l {x : Int} (h : (decide (-2147483648 ≤ x) && decide (x < 2147483648)) = true) : sR x := by
  simp only [Bool.and_eq_true, decide_eq_true_eq] at h
  exact h
theorem sR_max {x y : Int} (hx : sR x) (hy : sR y) : sR (max x y) := by rw [Int.max_def]; split <;> assumption
theorem sR_min {x y : Int} (hx : sR x) (hy : sR y) : sR (min x y) := by rw [Int.min_def]; split <;> assumption
theorem nar_c {x : Int} (h : 0 ≤ x ∧ x < 65536) : narrow .char (.int (sJ x)) = .int (sJ x) := by
  have hx : sR x := ⟨by omega, by omega⟩
  show Value.int _ = _
  rw [lg_i2c_small (by rw [sJ_toInt hx]; exact h.1) (by rw [sJ_toInt hx]; exact h.2)]
theorem nar_z {x : Int} (h : x = 0 ∨ x = 1) : narrow .boolean (.int (sJ x)) = .int (sJ x) := by
  rcases h with rfl | rfl <;> decide
theorem fit_c {x : Int} (h : 0 ≤ x ∧ x < 65536) : fits .char (.int (sJ x)) = true := by
  have hx : sR x := ⟨by omega, by omega⟩
  show (decide (0 ≤ sJ x) && decide (sJ x ≤ 65535)) = true
  rw [show (65535 : Int32) = sJ 65535 from rfl, sJ_zero]
  simp only [Bool.and_eq_true, decide_eq_true_eq]
  exact ⟨(sJ_le sR_0 hx).mpr h.1, (sJ_le hx (sR_l rfl)).mpr (by omega)⟩
theorem fit_z {x : Int} (h : x = 0 ∨ x = 1) : fits .boolean (.int (sJ x)) = true := by
  rcases h with rfl | rfl <;> decide
theorem vnar_c {x : Int} (h : 0 ≤ x ∧ x < 65536) : vp_nar .char (sJ x) = sJ x := by unfold vp_nar; rw [nar_c h]
theorem vnar_z {x : Int} (h : x = 0 ∨ x = 1) : vp_nar .boolean (sJ x) = sJ x := by unfold vp_nar; rw [nar_z h]
theorem sta.pos {o : Int} (h : sta o) : 61 ≤ o := by unfold sta at h; omega
theorem sta.row {o k : Int} (h : sta o) (hk : 0 ≤ k ∧ k < 2) : isA (o + 3 + k) (20, 16) := by
  rcases (show k = 0 ∨ k = 1 by omega) with rfl | rfl
  · rw [Int.add_zero]; exact h.m0
  · rw [show o + 3 + 1 = o + 4 by omega]; exact h.m1
theorem Wf.mem {r : MI} (hw : Wf r) {o k : Int} (h : sta o) (hk : 0 ≤ k ∧ k < 2) : r (o + 2) k = o + 3 + k := by
  obtain ⟨-, -, -, h1, h2⟩ := hw.2.2.2.1 o h
  rcases (show k = 0 ∨ k = 1 by omega) with rfl | rfl
  · rw [h1]; omega
  · rw [h2]; omega
theorem Wf.sts {r : MI} (hw : Wf r) {k : Int} (hk : 0 ≤ k ∧ k < 12) : stm (r 4 k) := hw.2.2.2.2.1 k hk.1 hk.2
theorem Wf.sp {r : MI} (hw : Wf r) : stm (r 3 3) := hw.2.2.2.2.2.1
theorem node_rng {o : Int} (h : isA o (5, 0)) : 72 ≤ o ∧ o < 168 := by
  have key : ∀ k < 542, lay k = (5, 0) → 72 ≤ k ∧ k < 168 := by decide +kernel
  have := key o.toNat h.n h.2.2
  have := h.1
  omega
theorem Wf.src {r : MI} (hw : Wf r) {o : Int} (h : isA o (5, 0)) (hz : ¬ r o 0 = 0) : stm (r o 0) := by
  have h1 := node_rng h
  have h2 := hw.2.2.2.2.2.2 (o - 72) (by omega) (by omega)
  rw [show 72 + (o - 72) = o by omega] at h2
  exact h2.resolve_left hz
/-- a change of a reference that isn't one of the constant ones -/
theorem Wf.upd {r : MI} (hw : Wf r) {o k x : Int} (h1 : ∀ p ∈ cL, ¬ (p.1 = o ∧ p.2.1 = k)) (h2 : ∀ p ∈ rL, ¬ p.1 = o) (h3 : ¬ stm o) (h4 : ¬ sta o ∧ ¬ sta (o - 2)) (hx : stm x) : Wf (st r o k x) := by
  obtain ⟨g1, g2, g3, g4, g5, g6, g7⟩ := hw
  refine ⟨fun p hp => ?_, fun p hp c hc hd => ?_, fun a ha => ?_, fun a ha => ?_, fun c hc hd => ?_, ?_, fun c hc hd => ?_⟩
  · rw [st_ne (h1 p hp)]; exact g1 p hp
  · rw [st_ne (fun q => h2 p hp q.1)]; exact g2 p hp c hc hd
  · have hn : ¬ a = o := fun e => h3 (e ▸ ha)
    rw [st_ne (fun q => hn q.1), st_ne (fun q => hn q.1), st_ne (fun q => hn q.1)]
    exact g3 a ha
  · have hn : ¬ a = o := fun e => h4.1 (e ▸ ha)
    have hn2 : ¬ a + 2 = o := fun e => h4.2 (by rw [← e, Int.add_sub_cancel]; exact ha)
    rw [st_ne (fun q => hn q.1), st_ne (fun q => hn q.1), st_ne (fun q => hn q.1), st_ne (fun q => hn2 q.1), st_ne (fun q => hn2 q.1)]
    exact g4 a ha
  · unfold st
    split
    · exact hx
    · exact g5 c hc hd
  · unfold st
    split
    · exact hx
    · exact g6
  · unfold st
    split
    · exact Or.inr hx
    · exact g7 c hc hd
theorem Wf.spare {r : MI} (hw : Wf r) {x : Int} (hx : stm x) : Wf (st r 3 3 x) := hw.upd (by decide +kernel) (by decide +kernel) (by unfold stm; omega) (by unfold sta; omega) hx
theorem Wf.stst {r : MI} (hw : Wf r) {k x : Int} (hx : stm x) : Wf (st r 4 k x) := hw.upd (fun p hp q => (show ∀ p ∈ cL, ¬ p.1 = 4 by decide +kernel) p hp q.1) (by decide +kernel) (by unfold stm; omega) (by unfold sta; omega) hx
theorem Wf.source {r : MI} (hw : Wf r) {o x : Int} (h : isA o (5, 0)) (hx : stm x) : Wf (st r o 0 x) := by
  have h1 := node_rng h
  exact hw.upd (fun p hp q => by have := (show ∀ p ∈ cL, p.1 < 72 ∨ 168 ≤ p.1 by decide +kernel) p hp; have := q.1; omega) (fun p hp q => by have := (show ∀ p ∈ rL, p.1 < 72 ∨ 168 ≤ p.1 by decide +kernel) p hp; omega) (by unfold stm; omega) (by unfold sta; omega) hx
theorem all_map {N : Nat} {C : String} {T : u_T} (h : ∀ k, k < N → u_lay C T k ∈ gW) : ∀ w ∈ u_ws C T N, w ∈ gW := by
  intro w hw
  obtain ⟨k, hk, rfl⟩ := List.mem_map.mp hw
  exact h k (List.mem_range.mp hk)
theorem sR_len {k : Nat} (h : k < 5) : sR (lenS k : Int) := by
  have key : ∀ k < 5, lenS k < 100 := by decide +kernel
  have := key k h
  exact ⟨by omega, by omega⟩
theorem th_of {L : List Cond} (h : L.all (fun w => decide (w ∈ lw_tbl) && (goodWord w || isX w)) = true) : ∀ w ∈ L, w ∈ gW ∨ w ∈ gX := by
  intro w hw
  have h1 := List.all_eq_true.mp h w hw
  simp only [Bool.and_eq_true, Bool.or_eq_true, decide_eq_true_eq] at h1
  rcases h1.2 with g | g
  · exact Or.inl (List.mem_filter.mpr ⟨h1.1, g⟩)
  · exact Or.inr (List.mem_filter.mpr ⟨h1.1, g⟩)
theorem nar_b {x : Int} (h : -128 ≤ x ∧ x < 128) : narrow .byte (.int (sJ x)) = .int (sJ x) := by
  have hx : sR x := ⟨by omega, by omega⟩
  show Value.int _ = _
  rw [lg_i2b_small (by rw [sJ_toInt hx]; exact h.1) (by rw [sJ_toInt hx]; exact h.2)]
theorem hin_X0 : ∀ w ∈ u_ws RX0 TX0 5, w ∈ gW := all_map (fun k hk => by
  by_cases e0 : k = 0; subst e0; exact kw_422
  by_cases e1 : k = 1; subst e1; exact kw_424
  by_cases e2 : k = 2; subst e2; exact kw_426
  by_cases e3 : k = 3; subst e3; exact kw_428
  by_cases e4 : k = 4; subst e4; exact kw_430
  omega)
theorem hin_X1 : ∀ w ∈ u_ws RX1 TX1 2, w ∈ gW := all_map (fun k hk => by
  by_cases e0 : k = 0; subst e0; exact kw_540
  by_cases e1 : k = 1; subst e1; exact kw_542
  omega)
theorem hin_X2 : ∀ w ∈ u_ws RX2 TX2 5, w ∈ gW := all_map (fun k hk => by
  by_cases e0 : k = 0; subst e0; exact kw_455
  by_cases e1 : k = 1; subst e1; exact kw_457
  by_cases e2 : k = 2; subst e2; exact kw_459
  by_cases e3 : k = 3; subst e3; exact kw_461
  by_cases e4 : k = 4; subst e4; exact kw_463
  omega)
theorem hin_X3 : ∀ w ∈ u_ws RX3 TX3 13, w ∈ gW := all_map (fun k hk => by
  by_cases e0 : k = 0; subst e0; exact kw_375
  by_cases e1 : k = 1; subst e1; exact kw_377
  by_cases e2 : k = 2; subst e2; exact kw_379
  by_cases e3 : k = 3; subst e3; exact kw_381
  by_cases e4 : k = 4; subst e4; exact kw_383
  by_cases e5 : k = 5; subst e5; exact kw_385
  by_cases e6 : k = 6; subst e6; exact kw_387
  by_cases e7 : k = 7; subst e7; exact kw_389
  by_cases e8 : k = 8; subst e8; exact kw_391
  by_cases e9 : k = 9; subst e9; exact kw_393
  by_cases e10 : k = 10; subst e10; exact kw_395
  by_cases e11 : k = 11; subst e11; exact kw_397
  by_cases e12 : k = 12; subst e12; exact kw_399
  omega)
theorem hin_X4 : ∀ w ∈ u_ws RX4 TX4 6, w ∈ gW := all_map (fun k hk => by
  by_cases e0 : k = 0; subst e0; exact kw_516
  by_cases e1 : k = 1; subst e1; exact kw_518
  by_cases e2 : k = 2; subst e2; exact kw_520
  by_cases e3 : k = 3; subst e3; exact kw_522
  by_cases e4 : k = 4; subst e4; exact kw_524
  by_cases e5 : k = 5; subst e5; exact kw_526
  omega)
theorem hin_X5 : ∀ w ∈ u_ws RX5 TX5 7, w ∈ gW := all_map (fun k hk => by
  by_cases e0 : k = 0; subst e0; exact kw_561
  by_cases e1 : k = 1; subst e1; exact kw_563
  by_cases e2 : k = 2; subst e2; exact kw_565
  by_cases e3 : k = 3; subst e3; exact kw_567
  by_cases e4 : k = 4; subst e4; exact kw_569
  by_cases e5 : k = 5; subst e5; exact kw_571
  by_cases e6 : k = 6; subst e6; exact kw_573
  omega)
theorem hin_X6 : ∀ w ∈ u_ws RX6 TX6 9, w ∈ gW := all_map (fun k hk => by
  by_cases e0 : k = 0; subst e0; exact kw_273
  by_cases e1 : k = 1; subst e1; exact kw_275
  by_cases e2 : k = 2; subst e2; exact kw_277
  by_cases e3 : k = 3; subst e3; exact kw_279
  by_cases e4 : k = 4; subst e4; exact kw_281
  by_cases e5 : k = 5; subst e5; exact kw_283
  by_cases e6 : k = 6; subst e6; exact kw_285
  by_cases e7 : k = 7; subst e7; exact kw_287
  by_cases e8 : k = 8; subst e8; exact kw_289
  omega)
theorem hin_X7 : ∀ w ∈ u_ws RX7 TX7 5, w ∈ gW := all_map (fun k hk => by
  by_cases e0 : k = 0; subst e0; exact kw_310
  by_cases e1 : k = 1; subst e1; exact kw_312
  by_cases e2 : k = 2; subst e2; exact kw_314
  by_cases e3 : k = 3; subst e3; exact kw_316
  by_cases e4 : k = 4; subst e4; exact kw_318
  omega)
theorem hin_X8 : ∀ w ∈ u_ws RX8 TX8 4, w ∈ gW := all_map (fun k hk => by
  by_cases e0 : k = 0; subst e0; exact kw_240
  by_cases e1 : k = 1; subst e1; exact kw_242
  by_cases e2 : k = 2; subst e2; exact kw_244
  by_cases e3 : k = 3; subst e3; exact kw_246
  omega)
theorem hin_X9 : ∀ w ∈ u_ws RX9 TX9 7, w ∈ gW := all_map (fun k hk => by
  by_cases e0 : k = 0; subst e0; exact kw_482
  by_cases e1 : k = 1; subst e1; exact kw_484
  by_cases e2 : k = 2; subst e2; exact kw_486
  by_cases e3 : k = 3; subst e3; exact kw_488
  by_cases e4 : k = 4; subst e4; exact kw_490
  by_cases e5 : k = 5; subst e5; exact kw_492
  by_cases e6 : k = 6; subst e6; exact kw_494
  omega)
theorem hin_X10 : ∀ w ∈ u_ws RX10 TX10 3, w ∈ gW := all_map (fun k hk => by
  by_cases e0 : k = 0; subst e0; exact kw_205
  by_cases e1 : k = 1; subst e1; exact kw_207
  by_cases e2 : k = 2; subst e2; exact kw_209
  omega)
theorem hin_X11 : ∀ w ∈ u_ws RX11 TX11 11, w ∈ gW := all_map (fun k hk => by
  by_cases e0 : k = 0; subst e0; exact kw_587
  by_cases e1 : k = 1; subst e1; exact kw_589
  by_cases e2 : k = 2; subst e2; exact kw_591
  by_cases e3 : k = 3; subst e3; exact kw_593
  by_cases e4 : k = 4; subst e4; exact kw_595
  by_cases e5 : k = 5; subst e5; exact kw_597
  by_cases e6 : k = 6; subst e6; exact kw_599
  by_cases e7 : k = 7; subst e7; exact kw_601
  by_cases e8 : k = 8; subst e8; exact kw_603
  by_cases e9 : k = 9; subst e9; exact kw_605
  by_cases e10 : k = 10; subst e10; exact kw_607
  omega)
theorem hin_X12 : ∀ w ∈ u_ws RX12 TX12 49, w ∈ gW := all_map (fun k hk => by
  by_cases e0 : k = 0; subst e0; exact kw_1741
  by_cases e1 : k = 1; subst e1; exact kw_1743
  by_cases e2 : k = 2; subst e2; exact kw_1745
  by_cases e3 : k = 3; subst e3; exact kw_1747
  by_cases e4 : k = 4; subst e4; exact kw_1749
  by_cases e5 : k = 5; subst e5; exact kw_1751
  by_cases e6 : k = 6; subst e6; exact kw_1753
  by_cases e7 : k = 7; subst e7; exact kw_1755
  by_cases e8 : k = 8; subst e8; exact kw_1757
  by_cases e9 : k = 9; subst e9; exact kw_1759
  by_cases e10 : k = 10; subst e10; exact kw_1761
  by_cases e11 : k = 11; subst e11; exact kw_1763
  by_cases e12 : k = 12; subst e12; exact kw_1765
  by_cases e13 : k = 13; subst e13; exact kw_1767
  by_cases e14 : k = 14; subst e14; exact kw_1769
  by_cases e15 : k = 15; subst e15; exact kw_1771
  by_cases e16 : k = 16; subst e16; exact kw_1773
  by_cases e17 : k = 17; subst e17; exact kw_1775
  by_cases e18 : k = 18; subst e18; exact kw_1777
  by_cases e19 : k = 19; subst e19; exact kw_1779
  by_cases e20 : k = 20; subst e20; exact kw_1781
  by_cases e21 : k = 21; subst e21; exact kw_1783
  by_cases e22 : k = 22; subst e22; exact kw_1785
  by_cases e23 : k = 23; subst e23; exact kw_1787
  by_cases e24 : k = 24; subst e24; exact kw_1789
  by_cases e25 : k = 25; subst e25; exact kw_1791
  by_cases e26 : k = 26; subst e26; exact kw_1793
  by_cases e27 : k = 27; subst e27; exact kw_1795
  by_cases e28 : k = 28; subst e28; exact kw_1797
  by_cases e29 : k = 29; subst e29; exact kw_1799
  by_cases e30 : k = 30; subst e30; exact kw_1801
  by_cases e31 : k = 31; subst e31; exact kw_1803
  by_cases e32 : k = 32; subst e32; exact kw_1805
  by_cases e33 : k = 33; subst e33; exact kw_1807
  by_cases e34 : k = 34; subst e34; exact kw_1809
  by_cases e35 : k = 35; subst e35; exact kw_1811
  by_cases e36 : k = 36; subst e36; exact kw_1813
  by_cases e37 : k = 37; subst e37; exact kw_1815
  by_cases e38 : k = 38; subst e38; exact kw_1817
  by_cases e39 : k = 39; subst e39; exact kw_1819
  by_cases e40 : k = 40; subst e40; exact kw_1821
  by_cases e41 : k = 41; subst e41; exact kw_1823
  by_cases e42 : k = 42; subst e42; exact kw_1825
  by_cases e43 : k = 43; subst e43; exact kw_1827
  by_cases e44 : k = 44; subst e44; exact kw_1829
  by_cases e45 : k = 45; subst e45; exact kw_1831
  by_cases e46 : k = 46; subst e46; exact kw_1833
  by_cases e47 : k = 47; subst e47; exact kw_1835
  by_cases e48 : k = 48; subst e48; exact kw_1837
  omega)
theorem a_0 : isA 0 (13, 0) := isA.of (by decide +kernel)
theorem a_1 : isA 1 (12, 0) := isA.of (by decide +kernel)
theorem a_2 : isA 2 (21, 24) := isA.of (by decide +kernel)
theorem a_3 : isA 3 (8, 0) := isA.of (by decide +kernel)
theorem a_4 : isA 4 (25, 12) := isA.of (by decide +kernel)
theorem a_5 : isA 5 (20, 32) := isA.of (by decide +kernel)
theorem a_6 : isA 6 (27, 2) := isA.of (by decide +kernel)
theorem a_61 : isA 61 (9, 0) := isA.of (by decide +kernel)
theorem a_67 : isA 67 (2, 0) := isA.of (by decide +kernel)
theorem a_68 : isA 68 (26, 96) := isA.of (by decide +kernel)
theorem a_69 : isA 69 (20, 7) := isA.of (by decide +kernel)
theorem a_70 : isA 70 (20, 7) := isA.of (by decide +kernel)
theorem a_71 : isA 71 (20, 7) := isA.of (by decide +kernel)
theorem a_168 : isA 168 (4, 0) := isA.of (by decide +kernel)
theorem a_169 : isA 169 (27, 96) := isA.of (by decide +kernel)
theorem a_266 : isA 266 (27, 96) := isA.of (by decide +kernel)
theorem a_363 : isA 363 (27, 96) := isA.of (by decide +kernel)
theorem a_460 : isA 460 (20, 96) := isA.of (by decide +kernel)
theorem a_461 : isA 461 (11, 0) := isA.of (by decide +kernel)
theorem a_462 : isA 462 (20, 96) := isA.of (by decide +kernel)
theorem a_463 : isA 463 (20, 96) := isA.of (by decide +kernel)
theorem a_464 : isA 464 (20, 96) := isA.of (by decide +kernel)
theorem a_465 : isA 465 (20, 96) := isA.of (by decide +kernel)
theorem a_466 : isA 466 (20, 96) := isA.of (by decide +kernel)
theorem a_467 : isA 467 (20, 7) := isA.of (by decide +kernel)
theorem a_468 : isA 468 (20, 481) := isA.of (by decide +kernel)
theorem a_469 : isA 469 (6, 0) := isA.of (by decide +kernel)
theorem a_470 : isA 470 (20, 96) := isA.of (by decide +kernel)
theorem a_471 : isA 471 (20, 96) := isA.of (by decide +kernel)
theorem a_472 : isA 472 (27, 7) := isA.of (by decide +kernel)
theorem a_480 : isA 480 (3, 0) := isA.of (by decide +kernel)
theorem a_481 : isA 481 (9, 0) := isA.of (by decide +kernel)
theorem a_487 : isA 487 (20, 1536) := isA.of (by decide +kernel)
theorem a_488 : isA 488 (7, 0) := isA.of (by decide +kernel)
theorem a_489 : isA 489 (27, 4) := isA.of (by decide +kernel)
theorem a_494 : isA 494 (27, 4) := isA.of (by decide +kernel)
theorem a_499 : isA 499 (20, 4) := isA.of (by decide +kernel)
theorem a_500 : isA 500 (20, 4) := isA.of (by decide +kernel)
theorem a_501 : isA 501 (20, 4) := isA.of (by decide +kernel)
theorem a_502 : isA 502 (20, 4) := isA.of (by decide +kernel)
theorem a_503 : isA 503 (20, 4) := isA.of (by decide +kernel)
theorem a_504 : isA 504 (14, 0) := isA.of (by decide +kernel)
theorem a_505 : isA 505 (21, 24) := isA.of (by decide +kernel)
theorem a_506 : isA 506 (20, 13) := isA.of (by decide +kernel)
theorem a_507 : isA 507 (20, 156) := isA.of (by decide +kernel)
theorem a_508 : isA 508 (20, 32) := isA.of (by decide +kernel)
theorem a_509 : isA 509 (20, 32) := isA.of (by decide +kernel)
theorem a_510 : isA 510 (20, 7) := isA.of (by decide +kernel)
theorem a_511 : isA 511 (20, 7) := isA.of (by decide +kernel)
theorem a_512 : isA 512 (20, 8) := isA.of (by decide +kernel)
theorem a_513 : isA 513 (20, 32) := isA.of (by decide +kernel)
theorem a_514 : isA 514 (20, 192) := isA.of (by decide +kernel)
theorem a_515 : isA 515 (20, 96) := isA.of (by decide +kernel)
theorem a_516 : isA 516 (20, 96) := isA.of (by decide +kernel)
theorem a_517 : isA 517 (20, 96) := isA.of (by decide +kernel)
theorem a_518 : isA 518 (20, 96) := isA.of (by decide +kernel)
theorem a_519 : isA 519 (20, 96) := isA.of (by decide +kernel)
theorem a_520 : isA 520 (20, 96) := isA.of (by decide +kernel)
theorem a_521 : isA 521 (22, 96) := isA.of (by decide +kernel)
theorem a_522 : isA 522 (20, 96) := isA.of (by decide +kernel)
theorem a_523 : isA 523 (20, 20000) := isA.of (by decide +kernel)
theorem a_524 : isA 524 (20, 20000) := isA.of (by decide +kernel)
theorem a_525 : isA 525 (20, 20000) := isA.of (by decide +kernel)
theorem a_526 : isA 526 (20, 20000) := isA.of (by decide +kernel)
theorem a_527 : isA 527 (20, 20000) := isA.of (by decide +kernel)
theorem a_528 : isA 528 (20, 9216) := isA.of (by decide +kernel)
theorem a_529 : isA 529 (20, 96) := isA.of (by decide +kernel)
theorem a_530 : isA 530 (20, 96) := isA.of (by decide +kernel)
theorem a_531 : isA 531 (20, 96) := isA.of (by decide +kernel)
theorem a_532 : isA 532 (20, 96) := isA.of (by decide +kernel)
theorem a_533 : isA 533 (20, 96) := isA.of (by decide +kernel)
theorem a_534 : isA 534 (20, 1536) := isA.of (by decide +kernel)
theorem a_535 : isA 535 (20, 4) := isA.of (by decide +kernel)
theorem a_536 : isA 536 (20, 64) := isA.of (by decide +kernel)
theorem a_537 : isA 537 (20, 4) := isA.of (by decide +kernel)
theorem a_538 : isA 538 (20, 4) := isA.of (by decide +kernel)
theorem a_539 : isA 539 (20, 4) := isA.of (by decide +kernel)
theorem a_540 : isA 540 (23, 1) := isA.of (by decide +kernel)
theorem a_541 : isA 541 (24, 1) := isA.of (by decide +kernel)
theorem sta_61 : sta 61 := by unfold sta; omega
theorem sta_481 : sta 481 := by unfold sta; omega
theorem row_6 {k : Int} (h : 0 ≤ k ∧ k < 2) : isA (7 + k) (20, 16) := isA_rng 7 2 _ (by decide +kernel) (by omega) (by omega)
theorem row_169 {k : Int} (h : 0 ≤ k ∧ k < 96) : isA (170 + k) (20, 100) := isA_rng 170 96 _ (by decide +kernel) (by omega) (by omega)
theorem row_266 {k : Int} (h : 0 ≤ k ∧ k < 96) : isA (267 + k) (20, 100) := isA_rng 267 96 _ (by decide +kernel) (by omega) (by omega)
theorem row_363 {k : Int} (h : 0 ≤ k ∧ k < 96) : isA (364 + k) (20, 100) := isA_rng 364 96 _ (by decide +kernel) (by omega) (by omega)
theorem row_472 {k : Int} (h : 0 ≤ k ∧ k < 7) : isA (473 + k) (20, 481) := isA_rng 473 7 _ (by decide +kernel) (by omega) (by omega)
theorem row_489 {k : Int} (h : 0 ≤ k ∧ k < 4) : isA (490 + k) (20, 16) := isA_rng 490 4 _ (by decide +kernel) (by omega) (by omega)
theorem row_494 {k : Int} (h : 0 ≤ k ∧ k < 4) : isA (495 + k) (20, 16) := isA_rng 495 4 _ (by decide +kernel) (by omega) (by omega)
theorem th_92 : ∀ w ∈ vx_atS "Schedulary" 92 "java/lang/IllegalArgumentException" thN, w ∈ gW ∨ w ∈ gX := th_of (by decide +kernel)
theorem th_102 : ∀ w ∈ vx_atS "Schedulary" 102 "java/lang/IllegalStateException" thN, w ∈ gW ∨ w ∈ gX := th_of (by decide +kernel)
theorem th_138 : ∀ w ∈ vx_atS "Schedulary" 138 "java/lang/IndexOutOfBoundsException" thN, w ∈ gW ∨ w ∈ gX := th_of (by decide +kernel)
theorem th_157 : ∀ w ∈ vx_atS "Schedulary" 157 "java/lang/UnsupportedOperationException" thN, w ∈ gW ∨ w ∈ gX := th_of (by decide +kernel)
theorem th_269 : ∀ w ∈ nzA "Schedulary" 269 "java/util/NoSuchElementException" 13 nz13 thN, w ∈ gW ∨ w ∈ gX := th_of (by decide +kernel)
theorem th_374 : ∀ w ∈ vx_atS "Schedulary" 374 "java/lang/ArithmeticException" thN, w ∈ gW ∨ w ∈ gX := th_of (by decide +kernel)
theorem mY_X11_action : mY yX11_action cX11_action 4 (some .int) 3 := ⟨kw_158, kw_1614, by decide, by decide, by decide +kernel⟩
theorem mY_X11_add : mY yX11_add cX11_add 2 (some .int) 0 := ⟨kw_158, kw_1352, by decide, by decide, by decide +kernel⟩
theorem mY_X11_areLocked : mY yX11_areLocked cX11_areLocked 1 (some .boolean) 0 := ⟨kw_158, kw_1202, by decide, by decide, by decide +kernel⟩
theorem mY_X11_binds : mY yX11_binds cX11_binds 1 (some .char) 0 := ⟨kw_158, kw_1122, by decide, by decide, by decide +kernel⟩
theorem mY_X11_busyShare : mY yX11_busyShare cX11_busyShare 4 (some .float) 1 := ⟨kw_158, kw_1660, by decide, by decide, by decide +kernel⟩
theorem mY_X11_byRings : mY yX11_byRings cX11_byRings 1 (some .int) 0 := ⟨kw_158, kw_1110, by decide, by decide, by decide +kernel⟩
theorem mY_X11_byUnits : mY yX11_byUnits cX11_byUnits 1 (some .int) 0 := ⟨kw_158, kw_1114, by decide, by decide, by decide +kernel⟩
theorem mY_X11_carryOut : mY yX11_carryOut cX11_carryOut 1 none 0 := ⟨kw_158, kw_765, by decide, by decide, by decide +kernel⟩
theorem mY_X11_changeBody : mY yX11_changeBody cX11_changeBody 1 none 0 := ⟨kw_158, kw_1362, by decide, by decide, by decide +kernel⟩
theorem mY_X11_changeValues : mY yX11_changeValues cX11_changeValues 1 none 0 := ⟨kw_158, kw_1437, by decide, by decide, by decide +kernel⟩
theorem mY_X11_checkNode : mY yX11_checkNode cX11_checkNode 2 none 1 := ⟨kw_158, kw_1531, by decide, by decide, by decide +kernel⟩
theorem mY_X11_checksum : mY yX11_checksum cX11_checksum 4 (some .long) 0 := ⟨kw_158, kw_1210, by decide, by decide, by decide +kernel⟩
theorem mY_X11_circuitMemory : mY yX11_circuitMemory cX11_circuitMemory 3 (some .int) 2 := ⟨kw_158, kw_1607, by decide, by decide, by decide +kernel⟩
theorem mY_X11_circuitOutput : mY yX11_circuitOutput cX11_circuitOutput 2 (some .int) 1 := ⟨kw_158, kw_1600, by decide, by decide, by decide +kernel⟩
theorem mY_X11_circuitOutputs : mY yX11_circuitOutputs cX11_circuitOutputs 1 (some .int) 0 := ⟨kw_158, kw_1162, by decide, by decide, by decide +kernel⟩
theorem mY_X11_clear : mY yX11_clear cX11_clear 1 (some .int) 0 := ⟨kw_158, kw_613, by decide, by decide, by decide +kernel⟩
theorem mY_X11_cycles : mY yX11_cycles cX11_cycles 1 (some .int) 0 := ⟨kw_158, kw_1151, by decide, by decide, by decide +kernel⟩
theorem mY_X11_done : mY yX11_done cX11_done 1 (some .int) 0 := ⟨kw_158, kw_1182, by decide, by decide, by decide +kernel⟩
theorem mY_X11_edges : mY yX11_edges cX11_edges 1 (some .int) 0 := ⟨kw_158, kw_1075, by decide, by decide, by decide +kernel⟩
theorem mY_X11_fault : mY yX11_fault cX11_fault 1 (some .int) 0 := ⟨kw_158, kw_621, by decide, by decide, by decide +kernel⟩
theorem mY_X11_inStep : mY yX11_inStep cX11_inStep 2 (some .int) 1 := ⟨kw_158, kw_1084, by decide, by decide, by decide +kernel⟩
theorem mY_X11_input : mY yX11_input cX11_input 2 (some .int) 1 := ⟨kw_158, kw_1462, by decide, by decide, by decide +kernel⟩
theorem mY_X11_interval : mY yX11_interval cX11_interval 1 (some .int) 0 := ⟨kw_158, kw_1118, by decide, by decide, by decide +kernel⟩
theorem mY_X11_isDivided : mY yX11_isDivided cX11_isDivided 2 (some .boolean) 2 := ⟨kw_158, kw_943, by decide, by decide, by decide +kernel⟩
theorem mY_X11_isPlace : mY yX11_isPlace cX11_isPlace 2 (some .boolean) 2 := ⟨kw_158, kw_1475, by decide, by decide, by decide +kernel⟩
theorem mY_X11_isSame : mY yX11_isSame cX11_isSame 1 (some .boolean) 0 := ⟨kw_158, kw_1166, by decide, by decide, by decide +kernel⟩
theorem mY_X11_isSound : mY yX11_isSound cX11_isSound 1 (some .boolean) 0 := ⟨kw_158, kw_1216, by decide, by decide, by decide +kernel⟩
theorem mY_X11_isWithin : mY yX11_isWithin cX11_isWithin 3 (some .boolean) 3 := ⟨kw_158, kw_1032, by decide, by decide, by decide +kernel⟩
theorem mY_X11_kindOf : mY yX11_kindOf cX11_kindOf 2 (some .char) 1 := ⟨kw_158, kw_1527, by decide, by decide, by decide +kernel⟩
theorem mY_X11_late : mY yX11_late cX11_late 2 (some .int) 1 := ⟨kw_158, kw_1579, by decide, by decide, by decide +kernel⟩
theorem mY_X11_leastDepth : mY yX11_leastDepth cX11_leastDepth 2 (some .int) 0 := ⟨kw_158, kw_1647, by decide, by decide, by decide +kernel⟩
theorem mY_X11_length : mY yX11_length cX11_length 1 (some .int) 0 := ⟨kw_158, kw_1079, by decide, by decide, by decide +kernel⟩
theorem mY_X11_meanStep : mY yX11_meanStep cX11_meanStep 3 (some .double) 0 := ⟨kw_158, kw_1682, by decide, by decide, by decide +kernel⟩
theorem mY_X11_memoryAt : mY yX11_memoryAt cX11_memoryAt 3 (some .int) 2 := ⟨kw_158, kw_1510, by decide, by decide, by decide +kernel⟩
theorem mY_X11_nodes : mY yX11_nodes cX11_nodes 1 (some .int) 0 := ⟨kw_158, kw_829, by decide, by decide, by decide +kernel⟩
theorem mY_X11_oneByOne : mY yX11_oneByOne cX11_oneByOne 1 (some .int) 0 := ⟨kw_158, kw_1157, by decide, by decide, by decide +kernel⟩
theorem mY_X11_output : mY yX11_output cX11_output 2 (some .int) 1 := ⟨kw_158, kw_1502, by decide, by decide, by decide +kernel⟩
theorem mY_X11_outputs : mY yX11_outputs cX11_outputs 1 (some .int) 0 := ⟨kw_158, kw_761, by decide, by decide, by decide +kernel⟩
theorem mY_X11_place : mY yX11_place cX11_place 2 (some .int) 1 := ⟨kw_158, kw_1593, by decide, by decide, by decide +kernel⟩
theorem mY_X11_prepare : mY yX11_prepare cX11_prepare 2 none 1 := ⟨kw_158, kw_833, by decide, by decide, by decide +kernel⟩
theorem mY_X11_register : mY yX11_register cX11_register 2 (some .int) 1 := ⟨kw_158, kw_1519, by decide, by decide, by decide +kernel⟩
theorem mY_X11_replace : mY yX11_replace cX11_replace 2 (some .int) 1 := ⟨kw_158, kw_1393, by decide, by decide, by decide +kernel⟩
theorem mY_X11_setBits : mY yX11_setBits cX11_setBits 3 (some .int) 1 := ⟨kw_158, kw_1445, by decide, by decide, by decide +kernel⟩
theorem mY_X11_setCycles : mY yX11_setCycles cX11_setCycles 5 (some .int) 2 := ⟨kw_158, kw_1494, by decide, by decide, by decide +kernel⟩
theorem mY_X11_setDepth : mY yX11_setDepth cX11_setDepth 4 (some .int) 2 := ⟨kw_158, kw_1627, by decide, by decide, by decide +kernel⟩
theorem mY_X11_setMemory : mY yX11_setMemory cX11_setMemory 6 (some .int) 3 := ⟨kw_158, kw_1472, by decide, by decide, by decide +kernel⟩
theorem mY_X11_setTurns : mY yX11_setTurns cX11_setTurns 3 (some .int) 1 := ⟨kw_158, kw_1414, by decide, by decide, by decide +kernel⟩
theorem mY_X11_setUnits : mY yX11_setUnits cX11_setUnits 5 (some .int) 2 := ⟨kw_158, kw_1484, by decide, by decide, by decide +kernel⟩
theorem mY_X11_soon : mY yX11_soon cX11_soon 2 (some .int) 1 := ⟨kw_158, kw_1572, by decide, by decide, by decide +kernel⟩
theorem mY_X11_statementOf : mY yX11_statementOf cX11_statementOf 2 (some .int) 1 := ⟨kw_158, kw_1540, by decide, by decide, by decide +kernel⟩
theorem mY_X11_step : mY yX11_step cX11_step 2 (some .int) 1 := ⟨kw_158, kw_1586, by decide, by decide, by decide +kernel⟩
theorem mY_X11_taken : mY yX11_taken cX11_taken 1 (some .int) 0 := ⟨kw_158, kw_825, by decide, by decide, by decide +kernel⟩
theorem mY_X11_type : mY yX11_type cX11_type 2 (some .int) 1 := ⟨kw_158, kw_1252, by decide, by decide, by decide +kernel⟩
theorem mY_X11_unroll : mY yX11_unroll cX11_unroll 2 (some .int) 1 := ⟨kw_158, kw_1453, by decide, by decide, by decide +kernel⟩
theorem mY_X11_waiting : mY yX11_waiting cX11_waiting 1 (some .int) 0 := ⟨kw_158, kw_1092, by decide, by decide, by decide +kernel⟩
theorem mY_X11_waitsFor : mY yX11_waitsFor cX11_waitsFor 2 (some .int) 1 := ⟨kw_158, kw_1635, by decide, by decide, by decide +kernel⟩
theorem mY_X11_weight : mY yX11_weight cX11_weight 5 (some .int) 3 := ⟨kw_158, kw_1548, by decide, by decide, by decide +kernel⟩
theorem mY_X0_append : mY yX0_append cX0_append 6 (some .int) 4 := ⟨kw_163, kw_853, by decide, by decide, by decide +kernel⟩
theorem mY_X0_appendReading : mY yX0_appendReading cX0_appendReading 6 (some .int) 4 := ⟨kw_163, kw_845, by decide, by decide, by decide +kernel⟩
theorem mY_X0_appendWriting : mY yX0_appendWriting cX0_appendWriting 6 none 4 := ⟨kw_163, kw_880, by decide, by decide, by decide +kernel⟩
theorem mY_X0_areUnitsKept : mY yX0_areUnitsKept cX0_areUnitsKept 4 (some .boolean) 2 := ⟨kw_163, kw_1228, by decide, by decide, by decide +kernel⟩
theorem mY_X0_countTogether : mY yX0_countTogether cX0_countTogether 6 (some .int) 3 := ⟨kw_163, kw_1232, by decide, by decide, by decide +kernel⟩
theorem mY_X0_cyclesOf : mY yX0_cyclesOf cX0_cyclesOf 2 (some .int) 1 := ⟨kw_163, kw_896, by decide, by decide, by decide +kernel⟩
theorem mY_X0_endOf : mY yX0_endOf cX0_endOf 4 (some .int) 1 := ⟨kw_163, kw_964, by decide, by decide, by decide +kernel⟩
theorem mY_X0_lastMakerAhead : mY yX0_lastMakerAhead cX0_lastMakerAhead 4 (some .int) 2 := ⟨kw_163, kw_925, by decide, by decide, by decide +kernel⟩
theorem mY_X0_leastIntervalOf : mY yX0_leastIntervalOf cX0_leastIntervalOf 3 (some .int) 1 := ⟨kw_163, kw_1016, by decide, by decide, by decide +kernel⟩
theorem mY_X0_nextMakerBehind : mY yX0_nextMakerBehind cX0_nextMakerBehind 4 (some .int) 2 := ⟨kw_163, kw_913, by decide, by decide, by decide +kernel⟩
theorem mY_X0_number : mY yX0_number cX0_number 4 none 1 := ⟨kw_163, kw_837, by decide, by decide, by decide +kernel⟩
theorem mY_X0_numberOne : mY yX0_numberOne cX0_numberOne 8 none 3 := ⟨kw_163, kw_841, by decide, by decide, by decide +kernel⟩
theorem mY_X0_sumOfCycles : mY yX0_sumOfCycles cX0_sumOfCycles 3 (some .int) 0 := ⟨kw_163, kw_1000, by decide, by decide, by decide +kernel⟩
theorem mY_X1_begin : mY yX1_begin cX1_begin 8 none 4 := ⟨kw_168, kw_1067, by decide, by decide, by decide +kernel⟩
theorem mY_X1_finish : mY yX1_finish cX1_finish 6 none 4 := ⟨kw_168, kw_1058, by decide, by decide, by decide +kernel⟩
theorem mY_X1_turn : mY yX1_turn cX1_turn 9 none 3 := ⟨kw_168, kw_1040, by decide, by decide, by decide +kernel⟩
theorem mY_X1_turnAfter : mY yX1_turnAfter cX1_turnAfter 4 (some .int) 3 := ⟨kw_168, kw_1054, by decide, by decide, by decide +kernel⟩
theorem mY_X1_valueFrom : mY yX1_valueFrom cX1_valueFrom 3 (some .int) 2 := ⟨kw_168, kw_1062, by decide, by decide, by decide +kernel⟩
theorem mY_X2_distanceTo : mY yX2_distanceTo cX2_distanceTo 5 (some .int) 4 := ⟨kw_165, kw_940, by decide, by decide, by decide +kernel⟩
theorem mY_X2_find : mY yX2_find cX2_find 5 (some .int) 3 := ⟨kw_165, kw_904, by decide, by decide, by decide +kernel⟩
theorem mY_X2_isKept : mY yX2_isKept cX2_isKept 9 (some .boolean) 4 := ⟨kw_165, kw_1224, by decide, by decide, by decide +kernel⟩
theorem mY_X2_join : mY yX2_join cX2_join 4 none 2 := ⟨kw_165, kw_884, by decide, by decide, by decide +kernel⟩
theorem mY_X2_joinChannel : mY yX2_joinChannel cX2_joinChannel 6 none 2 := ⟨kw_165, kw_947, by decide, by decide, by decide +kernel⟩
theorem mY_X2_joinGiver : mY yX2_joinGiver cX2_joinGiver 4 none 3 := ⟨kw_165, kw_892, by decide, by decide, by decide +kernel⟩
theorem mY_X2_joinMakerAhead : mY yX2_joinMakerAhead cX2_joinMakerAhead 6 none 3 := ⟨kw_165, kw_921, by decide, by decide, by decide +kernel⟩
theorem mY_X2_joinMakerBehind : mY yX2_joinMakerBehind cX2_joinMakerBehind 7 none 3 := ⟨kw_165, kw_929, by decide, by decide, by decide +kernel⟩
theorem mY_X2_joinMemory : mY yX2_joinMemory cX2_joinMemory 6 none 3 := ⟨kw_165, kw_933, by decide, by decide, by decide +kernel⟩
theorem mY_X2_joinPlaces : mY yX2_joinPlaces cX2_joinPlaces 8 none 4 := ⟨kw_165, kw_937, by decide, by decide, by decide +kernel⟩
theorem mY_X2_joinRegister : mY yX2_joinRegister cX2_joinRegister 6 none 2 := ⟨kw_165, kw_909, by decide, by decide, by decide +kernel⟩
theorem mY_X2_joinWithinStatements : mY yX2_joinWithinStatements cX2_joinWithinStatements 3 none 1 := ⟨kw_165, kw_888, by decide, by decide, by decide +kernel⟩
theorem mY_X2_put : mY yX2_put cX2_put 6 none 4 := ⟨kw_165, kw_900, by decide, by decide, by decide +kernel⟩
theorem mY_X3_isUsing : mY yX3_isUsing cX3_isUsing 2 (some .boolean) 1 := ⟨kw_164, kw_917, by decide, by decide, by decide +kernel⟩
theorem mY_X3_set : mY yX3_set cX3_set 5 none 4 := ⟨kw_164, kw_858, by decide, by decide, by decide +kernel⟩
theorem mY_X3_setPlace : mY yX3_setPlace cX3_setPlace 2 none 1 := ⟨kw_164, kw_862, by decide, by decide, by decide +kernel⟩
theorem mY_X4_countCycles : mY yX4_countCycles cX4_countCycles 3 (some .int) 2 := ⟨kw_167, kw_1049, by decide, by decide, by decide +kernel⟩
theorem mY_X4_find : mY yX4_find cX4_find 6 none 2 := ⟨kw_167, kw_992, by decide, by decide, by decide +kernel⟩
theorem mY_X4_findBinding : mY yX4_findBinding cX4_findBinding 3 (some .char) 1 := ⟨kw_167, kw_1126, by decide, by decide, by decide +kernel⟩
theorem mY_X4_findByRings : mY yX4_findByRings cX4_findByRings 7 (some .int) 2 := ⟨kw_167, kw_996, by decide, by decide, by decide +kernel⟩
theorem mY_X4_findByUnits : mY yX4_findByUnits cX4_findByUnits 3 (some .int) 1 := ⟨kw_167, kw_1012, by decide, by decide, by decide +kernel⟩
theorem mY_X4_findStep : mY yX4_findStep cX4_findStep 10 (some .int) 4 := ⟨kw_167, kw_1024, by decide, by decide, by decide +kernel⟩
theorem mY_X4_isAllowedByRings : mY yX4_isAllowedByRings cX4_isAllowedByRings 7 (some .boolean) 3 := ⟨kw_167, kw_1005, by decide, by decide, by decide +kernel⟩
theorem mY_X4_isKept : mY yX4_isKept cX4_isKept 3 (some .boolean) 2 := ⟨kw_167, kw_1241, by decide, by decide, by decide +kernel⟩
theorem mY_X4_placeAll : mY yX4_placeAll cX4_placeAll 6 (some .boolean) 2 := ⟨kw_167, kw_1020, by decide, by decide, by decide +kernel⟩
theorem mY_X4_placeAt : mY yX4_placeAt cX4_placeAt 8 none 4 := ⟨kw_167, kw_1036, by decide, by decide, by decide +kernel⟩
theorem mY_X4_pushAll : mY yX4_pushAll cX4_pushAll 9 (some .int) 3 := ⟨kw_167, kw_1009, by decide, by decide, by decide +kernel⟩
theorem mY_X4_restOf : mY yX4_restOf cX4_restOf 3 (some .int) 1 := ⟨kw_167, kw_1029, by decide, by decide, by decide +kernel⟩
theorem mY_X5_append : mY yX5_append cX5_append 5 (some .int) 3 := ⟨kw_169, kw_1620, by decide, by decide, by decide +kernel⟩
theorem mY_X5_countDone : mY yX5_countDone cX5_countDone 3 (some .int) 0 := ⟨kw_169, kw_1198, by decide, by decide, by decide +kernel⟩
theorem mY_X5_findLeastDepth : mY yX5_findLeastDepth cX5_findLeastDepth 3 (some .int) 0 := ⟨kw_169, kw_1651, by decide, by decide, by decide +kernel⟩
theorem mY_X5_go : mY yX5_go cX5_go 5 none 0 := ⟨kw_169, kw_1190, by decide, by decide, by decide +kernel⟩
theorem mY_X5_goOn : mY yX5_goOn cX5_goOn 5 none 1 := ⟨kw_169, kw_1194, by decide, by decide, by decide +kernel⟩
theorem mY_X5_goWithTheirDepths : mY yX5_goWithTheirDepths cX5_goWithTheirDepths 2 none 0 := ⟨kw_169, kw_1186, by decide, by decide, by decide +kernel⟩
theorem mY_X5_isSomeLeft : mY yX5_isSomeLeft cX5_isSomeLeft 2 (some .boolean) 0 := ⟨kw_169, kw_1206, by decide, by decide, by decide +kernel⟩
theorem mY_X5_nextChannel : mY yX5_nextChannel cX5_nextChannel 3 (some .int) 1 := ⟨kw_169, kw_1640, by decide, by decide, by decide +kernel⟩
theorem mY_X6_bodyTurns : mY yX6_bodyTurns cX6_bodyTurns 1 (some .int) 0 := ⟨kw_160, kw_1045, by decide, by decide, by decide +kernel⟩
theorem mY_X6_carryOut : mY yX6_carryOut cX6_carryOut 4 none 1 := ⟨kw_160, kw_769, by decide, by decide, by decide +kernel⟩
theorem mY_X6_carryOutOne : mY yX6_carryOutOne cX6_carryOutOne 5 none 3 := ⟨kw_160, kw_781, by decide, by decide, by decide +kernel⟩
theorem mY_X6_cut : mY yX6_cut cX6_cut 2 (some .int) 1 := ⟨kw_160, kw_777, by decide, by decide, by decide +kernel⟩
theorem mY_X6_takeInput : mY yX6_takeInput cX6_takeInput 3 (some .int) 1 := ⟨kw_160, kw_790, by decide, by decide, by decide +kernel⟩
theorem mY_X6_useSpare : mY yX6_useSpare cX6_useSpare 3 none 1 := ⟨kw_160, kw_1358, by decide, by decide, by decide +kernel⟩
theorem mY_X6_valueOf : mY yX6_valueOf cX6_valueOf 5 (some .int) 4 := ⟨kw_160, kw_785, by decide, by decide, by decide +kernel⟩
theorem mY_X6_write : mY yX6_write cX6_write 6 none 4 := ⟨kw_160, kw_813, by decide, by decide, by decide +kernel⟩
theorem mY_X7_begin : mY yX7_begin cX7_begin 4 none 1 := ⟨kw_162, kw_773, by decide, by decide, by decide +kernel⟩
theorem mY_X7_hasMemoriesOf : mY yX7_hasMemoriesOf cX7_hasMemoriesOf 4 (some .boolean) 1 := ⟨kw_162, kw_1178, by decide, by decide, by decide +kernel⟩
theorem mY_X7_hasRegistersOf : mY yX7_hasRegistersOf cX7_hasRegistersOf 3 (some .boolean) 1 := ⟨kw_162, kw_1174, by decide, by decide, by decide +kernel⟩
theorem mY_X7_isInside : mY yX7_isInside cX7_isInside 2 (some .boolean) 2 := ⟨kw_162, kw_801, by decide, by decide, by decide +kernel⟩
theorem mY_X7_isLike : mY yX7_isLike cX7_isLike 3 (some .boolean) 1 := ⟨kw_162, kw_1170, by decide, by decide, by decide +kernel⟩
theorem mY_X7_keep : mY yX7_keep cX7_keep 4 none 3 := ⟨kw_162, kw_821, by decide, by decide, by decide +kernel⟩
theorem mY_X7_look : mY yX7_look cX7_look 3 (some .int) 2 := ⟨kw_162, kw_798, by decide, by decide, by decide +kernel⟩
theorem mY_X7_putOut : mY yX7_putOut cX7_putOut 2 none 1 := ⟨kw_162, kw_817, by decide, by decide, by decide +kernel⟩
theorem mY_X8_forget : mY yX8_forget cX8_forget 2 none 0 := ⟨kw_161, kw_629, by decide, by decide, by decide +kernel⟩
theorem mY_X8_hasOperation : mY yX8_hasOperation cX8_hasOperation 1 (some .boolean) 0 := ⟨kw_161, kw_805, by decide, by decide, by decide +kernel⟩
theorem mY_X8_isReading : mY yX8_isReading cX8_isReading 2 (some .boolean) 1 := ⟨kw_161, kw_849, by decide, by decide, by decide +kernel⟩
theorem mY_X8_kindOfOperation : mY yX8_kindOfOperation cX8_kindOfOperation 1 (some .int) 0 := ⟨kw_161, kw_872, by decide, by decide, by decide +kernel⟩
theorem mY_X8_maskOfRegister : mY yX8_maskOfRegister cX8_maskOfRegister 2 (some .int) 1 := ⟨kw_161, kw_876, by decide, by decide, by decide +kernel⟩
theorem mY_X8_operate : mY yX8_operate cX8_operate 3 (some .int) 2 := ⟨kw_161, kw_809, by decide, by decide, by decide +kernel⟩
theorem mY_X8_placeOf : mY yX8_placeOf cX8_placeOf 3 (some .int) 2 := ⟨kw_161, kw_794, by decide, by decide, by decide +kernel⟩
theorem mY_X8_registerIn : mY yX8_registerIn cX8_registerIn 2 (some .int) 1 := ⟨kw_161, kw_867, by decide, by decide, by decide +kernel⟩
theorem mY_X9_areInOrder : mY yX9_areInOrder cX9_areInOrder 3 (some .boolean) 1 := ⟨kw_166, kw_1237, by decide, by decide, by decide +kernel⟩
theorem mY_X9_areKept : mY yX9_areKept cX9_areKept 3 (some .boolean) 2 := ⟨kw_166, kw_1220, by decide, by decide, by decide +kernel⟩
theorem mY_X9_beginAllAt : mY yX9_beginAllAt cX9_beginAllAt 6 (some .int) 3 := ⟨kw_166, kw_980, by decide, by decide, by decide +kernel⟩
theorem mY_X9_beginAt : mY yX9_beginAt cX9_beginAt 7 none 4 := ⟨kw_166, kw_988, by decide, by decide, by decide +kernel⟩
theorem mY_X9_chooseFor : mY yX9_chooseFor cX9_chooseFor 6 (some .int) 2 := ⟨kw_166, kw_984, by decide, by decide, by decide +kernel⟩
theorem mY_X9_countIn : mY yX9_countIn cX9_countIn 5 (some .int) 2 := ⟨kw_166, kw_1088, by decide, by decide, by decide +kernel⟩
theorem mY_X9_lastUse : mY yX9_lastUse cX9_lastUse 9 (some .int) 4 := ⟨kw_166, kw_1104, by decide, by decide, by decide +kernel⟩
theorem mY_X9_mostWaiting : mY yX9_mostWaiting cX9_mostWaiting 5 (some .int) 1 := ⟨kw_166, kw_1096, by decide, by decide, by decide +kernel⟩
theorem mY_X9_order : mY yX9_order cX9_order 3 none 2 := ⟨kw_166, kw_951, by decide, by decide, by decide +kernel⟩
theorem mY_X9_orderByLists : mY yX9_orderByLists cX9_orderByLists 5 none 2 := ⟨kw_166, kw_972, by decide, by decide, by decide +kernel⟩
theorem mY_X9_orderLatest : mY yX9_orderLatest cX9_orderLatest 7 none 2 := ⟨kw_166, kw_960, by decide, by decide, by decide +kernel⟩
theorem mY_X9_orderSoonest : mY yX9_orderSoonest cX9_orderSoonest 6 none 2 := ⟨kw_166, kw_955, by decide, by decide, by decide +kernel⟩
theorem mY_X9_startLists : mY yX9_startLists cX9_startLists 5 none 2 := ⟨kw_166, kw_976, by decide, by decide, by decide +kernel⟩
theorem mY_X9_waitFor : mY yX9_waitFor cX9_waitFor 7 none 3 := ⟨kw_166, kw_1100, by decide, by decide, by decide +kernel⟩
theorem mY_X10_append : mY yX10_append cX10_append 2 none 1 := ⟨kw_159, kw_1345, by decide, by decide, by decide +kernel⟩
theorem mY_X10_empty : mY yX10_empty cX10_empty 2 (some .int) 0 := ⟨kw_159, kw_617, by decide, by decide, by decide +kernel⟩
theorem mY_X10_isDigit : mY yX10_isDigit cX10_isDigit 1 (some .boolean) 1 := ⟨kw_159, kw_743, by decide, by decide, by decide +kernel⟩
theorem mY_X10_next : mY yX10_next cX10_next 1 (some .char) 0 := ⟨kw_159, kw_641, by decide, by decide, by decide +kernel⟩
theorem mY_X10_readIndex : mY yX10_readIndex cX10_readIndex 6 (some .boolean) 2 := ⟨kw_159, kw_740, by decide, by decide, by decide +kernel⟩
theorem mY_X10_readInto : mY yX10_readInto cX10_readInto 3 (some .int) 1 := ⟨kw_159, kw_625, by decide, by decide, by decide +kernel⟩
theorem mY_X10_readNumber : mY yX10_readNumber cX10_readNumber 4 (some .int) 1 := ⟨kw_159, kw_747, by decide, by decide, by decide +kernel⟩
theorem mY_X10_readOperand : mY yX10_readOperand cX10_readOperand 3 (some .boolean) 2 := ⟨kw_159, kw_751, by decide, by decide, by decide +kernel⟩
theorem mY_X10_readOperation : mY yX10_readOperation cX10_readOperation 2 (some .boolean) 1 := ⟨kw_159, kw_755, by decide, by decide, by decide +kernel⟩
theorem mY_X10_readPlace : mY yX10_readPlace cX10_readPlace 4 (some .boolean) 2 := ⟨kw_159, kw_649, by decide, by decide, by decide +kernel⟩
theorem mY_X10_readRegister : mY yX10_readRegister cX10_readRegister 4 (some .boolean) 2 := ⟨kw_159, kw_645, by decide, by decide, by decide +kernel⟩
theorem mY_X10_readSign : mY yX10_readSign cX10_readSign 2 (some .boolean) 1 := ⟨kw_159, kw_637, by decide, by decide, by decide +kernel⟩
theorem mY_X10_readTarget : mY yX10_readTarget cX10_readTarget 2 (some .boolean) 1 := ⟨kw_159, kw_633, by decide, by decide, by decide +kernel⟩
theorem mY_X12_action : mY yX12_action cX12_action 4 (some .int) 3 := ⟨kw_170, kw_2228, by decide, by decide, by decide +kernel⟩
theorem mY_X12_acts : mY yX12_acts cX12_acts 7 (some .boolean) 2 := ⟨kw_170, kw_2244, by decide, by decide, by decide +kernel⟩
theorem mY_X12_add : mY yX12_add cX12_add 1 (some .int) 0 := ⟨kw_170, kw_1901, by decide, by decide, by decide +kernel⟩
theorem mY_X12_addNode : mY yX12_addNode cX12_addNode 4 none 3 := ⟨kw_170, kw_1931, by decide, by decide, by decide +kernel⟩
theorem mY_X12_addRead : mY yX12_addRead cX12_addRead 4 none 3 := ⟨kw_170, kw_1921, by decide, by decide, by decide +kernel⟩
theorem mY_X12_addStatement : mY yX12_addStatement cX12_addStatement 6 none 1 := ⟨kw_170, kw_1917, by decide, by decide, by decide +kernel⟩
theorem mY_X12_areLocked : mY yX12_areLocked cX12_areLocked 1 (some .boolean) 0 := ⟨kw_170, kw_2252, by decide, by decide, by decide +kernel⟩
theorem mY_X12_begin : mY yX12_begin cX12_begin 2 none 0 := ⟨kw_170, kw_2019, by decide, by decide, by decide +kernel⟩
theorem mY_X12_binds : mY yX12_binds cX12_binds 4 (some .char) 0 := ⟨kw_170, kw_2168, by decide, by decide, by decide +kernel⟩
theorem mY_X12_build : mY yX12_build cX12_build 3 none 0 := ⟨kw_170, kw_1913, by decide, by decide, by decide +kernel⟩
theorem mY_X12_busyShare : mY yX12_busyShare cX12_busyShare 6 (some .float) 1 := ⟨kw_170, kw_2265, by decide, by decide, by decide +kernel⟩
theorem mY_X12_byAllUnits : mY yX12_byAllUnits cX12_byAllUnits 3 (some .int) 0 := ⟨kw_170, kw_2144, by decide, by decide, by decide +kernel⟩
theorem mY_X12_byRings : mY yX12_byRings cX12_byRings 1 (some .int) 0 := ⟨kw_170, kw_2128, by decide, by decide, by decide +kernel⟩
theorem mY_X12_byUnits : mY yX12_byUnits cX12_byUnits 1 (some .int) 0 := ⟨kw_170, kw_2140, by decide, by decide, by decide +kernel⟩
theorem mY_X12_canBegin : mY yX12_canBegin cX12_canBegin 6 (some .boolean) 2 := ⟨kw_170, kw_2108, by decide, by decide, by decide +kernel⟩
theorem mY_X12_canPlace : mY yX12_canPlace cX12_canPlace 6 (some .boolean) 1 := ⟨kw_170, kw_2160, by decide, by decide, by decide +kernel⟩
theorem mY_X12_cell : mY yX12_cell cX12_cell 2 (some .int) 2 := ⟨kw_170, kw_1998, by decide, by decide, by decide +kernel⟩
theorem mY_X12_checksum : mY yX12_checksum cX12_checksum 4 (some .long) 0 := ⟨kw_170, kw_2260, by decide, by decide, by decide +kernel⟩
theorem mY_X12_circuitMemory : mY yX12_circuitMemory cX12_circuitMemory 3 (some .int) 2 := ⟨kw_170, kw_2220, by decide, by decide, by decide +kernel⟩
theorem mY_X12_circuitOutput : mY yX12_circuitOutput cX12_circuitOutput 2 (some .int) 1 := ⟨kw_170, kw_2216, by decide, by decide, by decide +kernel⟩
theorem mY_X12_circuitOutputs : mY yX12_circuitOutputs cX12_circuitOutputs 1 (some .int) 0 := ⟨kw_170, kw_2188, by decide, by decide, by decide +kernel⟩
theorem mY_X12_clear : mY yX12_clear cX12_clear 2 (some .int) 0 := ⟨kw_170, kw_1860, by decide, by decide, by decide +kernel⟩
theorem mY_X12_cycles : mY yX12_cycles cX12_cycles 2 (some .int) 0 := ⟨kw_170, kw_2176, by decide, by decide, by decide +kernel⟩
theorem mY_X12_cyclesOf : mY yX12_cyclesOf cX12_cyclesOf 2 (some .int) 1 := ⟨kw_170, kw_1950, by decide, by decide, by decide +kernel⟩
theorem mY_X12_done : mY yX12_done cX12_done 1 (some .int) 0 := ⟨kw_170, kw_2236, by decide, by decide, by decide +kernel⟩
theorem mY_X12_eats : mY yX12_eats cX12_eats 2 (some .boolean) 1 := ⟨kw_170, kw_1880, by decide, by decide, by decide +kernel⟩
theorem mY_X12_edges : mY yX12_edges cX12_edges 1 (some .int) 0 := ⟨kw_170, kw_2080, by decide, by decide, by decide +kernel⟩
theorem mY_X12_fails : mY yX12_fails cX12_fails 3 (some .boolean) 2 := ⟨kw_170, kw_1856, by decide, by decide, by decide +kernel⟩
theorem mY_X12_fault : mY yX12_fault cX12_fault 1 (some .int) 0 := ⟨kw_170, kw_1864, by decide, by decide, by decide +kernel⟩
theorem mY_X12_findSoon : mY yX12_findSoon cX12_findSoon 3 none 0 := ⟨kw_170, kw_2092, by decide, by decide, by decide +kernel⟩
theorem mY_X12_flow : mY yX12_flow cX12_flow 6 none 0 := ⟨kw_170, kw_2192, by decide, by decide, by decide +kernel⟩
theorem mY_X12_fromChannel : mY yX12_fromChannel cX12_fromChannel 1 (some .int) 0 := ⟨kw_170, kw_2031, by decide, by decide, by decide +kernel⟩
theorem mY_X12_fromMaker : mY yX12_fromMaker cX12_fromMaker 6 none 2 := ⟨kw_170, kw_1963, by decide, by decide, by decide +kernel⟩
theorem mY_X12_given : mY yX12_given cX12_given 6 (some .int) 3 := ⟨kw_170, kw_2212, by decide, by decide, by decide +kernel⟩
theorem mY_X12_goRound : mY yX12_goRound cX12_goRound 5 (some .boolean) 1 := ⟨kw_170, kw_2240, by decide, by decide, by decide +kernel⟩
theorem mY_X12_hasRing : mY yX12_hasRing cX12_hasRing 6 (some .boolean) 1 := ⟨kw_170, kw_2136, by decide, by decide, by decide +kernel⟩
theorem mY_X12_in : mY yX12_in cX12_in 3 (some .boolean) 3 := ⟨kw_170, kw_1850, by decide, by decide, by decide +kernel⟩
theorem mY_X12_inStep : mY yX12_inStep cX12_inStep 4 (some .int) 1 := ⟨kw_170, kw_2116, by decide, by decide, by decide +kernel⟩
theorem mY_X12_index : mY yX12_index cX12_index 3 (some .boolean) 1 := ⟨kw_170, kw_1888, by decide, by decide, by decide +kernel⟩
theorem mY_X12_input : mY yX12_input cX12_input 2 (some .int) 1 := ⟨kw_170, kw_1987, by decide, by decide, by decide +kernel⟩
theorem mY_X12_interval : mY yX12_interval cX12_interval 1 (some .int) 0 := ⟨kw_170, kw_2152, by decide, by decide, by decide +kernel⟩
theorem mY_X12_is : mY yX12_is cX12_is 2 (some .boolean) 1 := ⟨kw_170, kw_1876, by decide, by decide, by decide +kernel⟩
theorem mY_X12_isDigit : mY yX12_isDigit cX12_isDigit 1 (some .boolean) 0 := ⟨kw_170, kw_1892, by decide, by decide, by decide +kernel⟩
theorem mY_X12_isFree : mY yX12_isFree cX12_isFree 8 (some .boolean) 3 := ⟨kw_170, kw_2164, by decide, by decide, by decide +kernel⟩
theorem mY_X12_isLastOf : mY yX12_isLastOf cX12_isLastOf 2 (some .boolean) 1 := ⟨kw_170, kw_2200, by decide, by decide, by decide +kernel⟩
theorem mY_X12_isRead : mY yX12_isRead cX12_isRead 1 (some .boolean) 1 := ⟨kw_170, kw_1924, by decide, by decide, by decide +kernel⟩
theorem mY_X12_isSame : mY yX12_isSame cX12_isSame 1 (some .boolean) 0 := ⟨kw_170, kw_2224, by decide, by decide, by decide +kernel⟩
theorem mY_X12_isSound : mY yX12_isSound cX12_isSound 1 (some .boolean) 0 := ⟨kw_170, kw_2273, by decide, by decide, by decide +kernel⟩
theorem mY_X12_join : mY yX12_join cX12_join 6 none 4 := ⟨kw_170, kw_1954, by decide, by decide, by decide +kernel⟩
theorem mY_X12_keep : mY yX12_keep cX12_keep 3 none 1 := ⟨kw_170, kw_1905, by decide, by decide, by decide +kernel⟩
theorem mY_X12_kindOf : mY yX12_kindOf cX12_kindOf 2 (some .char) 1 := ⟨kw_170, kw_2067, by decide, by decide, by decide +kernel⟩
theorem mY_X12_kindOfMemory : mY yX12_kindOfMemory cX12_kindOfMemory 1 (some .int) 1 := ⟨kw_170, kw_1927, by decide, by decide, by decide +kernel⟩
theorem mY_X12_lastUse : mY yX12_lastUse cX12_lastUse 9 (some .int) 1 := ⟨kw_170, kw_2124, by decide, by decide, by decide +kernel⟩
theorem mY_X12_late : mY yX12_late cX12_late 2 (some .int) 1 := ⟨kw_170, kw_2096, by decide, by decide, by decide +kernel⟩
theorem mY_X12_laterMakers : mY yX12_laterMakers cX12_laterMakers 7 none 3 := ⟨kw_170, kw_1959, by decide, by decide, by decide +kernel⟩
theorem mY_X12_leastDepth : mY yX12_leastDepth cX12_leastDepth 2 (some .int) 0 := ⟨kw_170, kw_2256, by decide, by decide, by decide +kernel⟩
theorem mY_X12_length : mY yX12_length cX12_length 1 (some .int) 0 := ⟨kw_170, kw_2112, by decide, by decide, by decide +kernel⟩
theorem mY_X12_list : mY yX12_list cX12_list 5 none 0 := ⟨kw_170, kw_2104, by decide, by decide, by decide +kernel⟩
theorem mY_X12_longest : mY yX12_longest cX12_longest 3 (some .int) 0 := ⟨kw_170, kw_2180, by decide, by decide, by decide +kernel⟩
theorem mY_X12_loopTurn : mY yX12_loopTurn cX12_loopTurn 3 (some .int) 2 := ⟨kw_170, kw_2204, by decide, by decide, by decide +kernel⟩
theorem mY_X12_meanStep : mY yX12_meanStep cX12_meanStep 3 (some .double) 0 := ⟨kw_170, kw_2269, by decide, by decide, by decide +kernel⟩
theorem mY_X12_memoryAt : mY yX12_memoryAt cX12_memoryAt 3 (some .int) 2 := ⟨kw_170, kw_2050, by decide, by decide, by decide +kernel⟩
theorem mY_X12_needs : mY yX12_needs cX12_needs 4 (some .int) 1 := ⟨kw_170, kw_2148, by decide, by decide, by decide +kernel⟩
theorem mY_X12_nextOfChannel : mY yX12_nextOfChannel cX12_nextOfChannel 5 none 1 := ⟨kw_170, kw_1971, by decide, by decide, by decide +kernel⟩
theorem mY_X12_noMemory : mY yX12_noMemory cX12_noMemory 2 (some .boolean) 2 := ⟨kw_170, kw_1995, by decide, by decide, by decide +kernel⟩
theorem mY_X12_noNode : mY yX12_noNode cX12_noNode 2 (some .boolean) 1 := ⟨kw_170, kw_2071, by decide, by decide, by decide +kernel⟩
theorem mY_X12_nodes : mY yX12_nodes cX12_nodes 1 (some .int) 0 := ⟨kw_170, kw_2063, by decide, by decide, by decide +kernel⟩
theorem mY_X12_number : mY yX12_number cX12_number 4 (some .int) 1 := ⟨kw_170, kw_1896, by decide, by decide, by decide +kernel⟩
theorem mY_X12_oneByOne : mY yX12_oneByOne cX12_oneByOne 3 (some .int) 0 := ⟨kw_170, kw_2184, by decide, by decide, by decide +kernel⟩
theorem mY_X12_operand : mY yX12_operand cX12_operand 5 (some .int) 2 := ⟨kw_170, kw_2027, by decide, by decide, by decide +kernel⟩
theorem mY_X12_operate : mY yX12_operate cX12_operate 4 (some .int) 3 := ⟨kw_170, kw_2038, by decide, by decide, by decide +kernel⟩
theorem mY_X12_output : mY yX12_output cX12_output 2 (some .int) 1 := ⟨kw_170, kw_2046, by decide, by decide, by decide +kernel⟩
theorem mY_X12_outputs : mY yX12_outputs cX12_outputs 1 (some .int) 0 := ⟨kw_170, kw_2011, by decide, by decide, by decide +kernel⟩
theorem mY_X12_parse : mY yX12_parse cX12_parse 1 (some .int) 0 := ⟨kw_170, kw_1868, by decide, by decide, by decide +kernel⟩
theorem mY_X12_part : mY yX12_part cX12_part 3 (some .boolean) 2 := ⟨kw_170, kw_1872, by decide, by decide, by decide +kernel⟩
theorem mY_X12_perform : mY yX12_perform cX12_perform 5 none 0 := ⟨kw_170, kw_2015, by decide, by decide, by decide +kernel⟩
theorem mY_X12_place : mY yX12_place cX12_place 2 (some .int) 1 := ⟨kw_170, kw_2172, by decide, by decide, by decide +kernel⟩
theorem mY_X12_placeAll : mY yX12_placeAll cX12_placeAll 2 (some .int) 0 := ⟨kw_170, kw_2156, by decide, by decide, by decide +kernel⟩
theorem mY_X12_register : mY yX12_register cX12_register 2 (some .int) 1 := ⟨kw_170, kw_2054, by decide, by decide, by decide +kernel⟩
theorem mY_X12_remember : mY yX12_remember cX12_remember 5 none 3 := ⟨kw_170, kw_1935, by decide, by decide, by decide +kernel⟩
theorem mY_X12_remembered : mY yX12_remembered cX12_remembered 7 none 2 := ⟨kw_170, kw_1967, by decide, by decide, by decide +kernel⟩
theorem mY_X12_replace : mY yX12_replace cX12_replace 2 (some .int) 1 := ⟨kw_170, kw_1909, by decide, by decide, by decide +kernel⟩
theorem mY_X12_rings : mY yX12_rings cX12_rings 2 (some .int) 0 := ⟨kw_170, kw_2132, by decide, by decide, by decide +kernel⟩
theorem mY_X12_setBits : mY yX12_setBits cX12_setBits 3 (some .int) 1 := ⟨kw_170, kw_1979, by decide, by decide, by decide +kernel⟩
theorem mY_X12_setCycles : mY yX12_setCycles cX12_setCycles 4 (some .int) 2 := ⟨kw_170, kw_2007, by decide, by decide, by decide +kernel⟩
theorem mY_X12_setDepth : mY yX12_setDepth cX12_setDepth 4 (some .int) 2 := ⟨kw_170, kw_2232, by decide, by decide, by decide +kernel⟩
theorem mY_X12_setMemory : mY yX12_setMemory cX12_setMemory 5 (some .int) 3 := ⟨kw_170, kw_1992, by decide, by decide, by decide +kernel⟩
theorem mY_X12_setTurns : mY yX12_setTurns cX12_setTurns 3 (some .int) 1 := ⟨kw_170, kw_1975, by decide, by decide, by decide +kernel⟩
theorem mY_X12_setUnits : mY yX12_setUnits cX12_setUnits 4 (some .int) 2 := ⟨kw_170, kw_2002, by decide, by decide, by decide +kernel⟩
theorem mY_X12_soon : mY yX12_soon cX12_soon 2 (some .int) 1 := ⟨kw_170, kw_2088, by decide, by decide, by decide +kernel⟩
theorem mY_X12_statementOf : mY yX12_statementOf cX12_statementOf 2 (some .int) 1 := ⟨kw_170, kw_2076, by decide, by decide, by decide +kernel⟩
theorem mY_X12_step : mY yX12_step cX12_step 2 (some .int) 1 := ⟨kw_170, kw_2100, by decide, by decide, by decide +kernel⟩
theorem mY_X12_taken_ : mY yX12_taken_ cX12_taken_ 1 (some .int) 0 := ⟨kw_170, kw_2058, by decide, by decide, by decide +kernel⟩
theorem mY_X12_taken : mY yX12_taken cX12_taken 2 (some .int) 1 := ⟨kw_170, kw_2023, by decide, by decide, by decide +kernel⟩
theorem mY_X12_thrown : mY yX12_thrown cX12_thrown 1 (some .int) 0 := ⟨kw_170, kw_1843, by decide, by decide, by decide +kernel⟩
theorem mY_X12_turnAt : mY yX12_turnAt cX12_turnAt 5 (some .int) 3 := ⟨kw_170, kw_2196, by decide, by decide, by decide +kernel⟩
theorem mY_X12_type : mY yX12_type cX12_type 2 (some .int) 1 := ⟨kw_170, kw_1847, by decide, by decide, by decide +kernel⟩
theorem mY_X12_unit : mY yX12_unit cX12_unit 1 (some .int) 1 := ⟨kw_170, kw_1938, by decide, by decide, by decide +kernel⟩
theorem mY_X12_unroll : mY yX12_unroll cX12_unroll 2 (some .int) 1 := ⟨kw_170, kw_1983, by decide, by decide, by decide +kernel⟩
theorem mY_X12_uses : mY yX12_uses cX12_uses 2 none 1 := ⟨kw_170, kw_1942, by decide, by decide, by decide +kernel⟩
theorem mY_X12_valueOf : mY yX12_valueOf cX12_valueOf 5 (some .int) 2 := ⟨kw_170, kw_2208, by decide, by decide, by decide +kernel⟩
theorem mY_X12_waiting : mY yX12_waiting cX12_waiting 5 (some .int) 0 := ⟨kw_170, kw_2120, by decide, by decide, by decide +kernel⟩
theorem mY_X12_waitsFor : mY yX12_waitsFor cX12_waitsFor 2 (some .int) 1 := ⟨kw_170, kw_2248, by decide, by decide, by decide +kernel⟩
theorem mY_X12_weight : mY yX12_weight cX12_weight 5 (some .int) 3 := ⟨kw_170, kw_2084, by decide, by decide, by decide +kernel⟩
theorem mY_X12_where : mY yX12_where cX12_where 5 (some .int) 4 := ⟨kw_170, kw_2034, by decide, by decide, by decide +kernel⟩
theorem mY_X12_within : mY yX12_within cX12_within 4 none 1 := ⟨kw_170, kw_1946, by decide, by decide, by decide +kernel⟩
theorem mY_X12_write : mY yX12_write cX12_write 7 none 3 := ⟨kw_170, kw_2042, by decide, by decide, by decide +kernel⟩
theorem mY_X12_wrong : mY yX12_wrong cX12_wrong 1 (some .boolean) 0 := ⟨kw_170, kw_1884, by decide, by decide, by decide +kernel⟩
theorem mY_J0_charAt_5068e : mY yJ0_charAt_5068e cJ0_charAt_5068e 2 (some .char) 1 := ⟨kw_171, kw_1131, by decide, by decide, by decide +kernel⟩
theorem mY_J0_checkBoundsBeginEnd_23922 : mY yJ0_checkBoundsBeginEnd_23922 cJ0_checkBoundsBeginEnd_23922 3 none 3 := ⟨kw_171, kw_705, by decide, by decide, by decide +kernel⟩
theorem mY_J0_checkIndex_df160 : mY yJ0_checkIndex_df160 cJ0_checkIndex_df160 2 none 2 := ⟨kw_171, kw_1137, by decide, by decide, by decide +kernel⟩
theorem mY_J0_coder_7d493 : mY yJ0_coder_7d493 cJ0_coder_7d493 1 (some .byte) 0 := ⟨kw_171, kw_672, by decide, by decide, by decide +kernel⟩
theorem mY_J0_indexOf_0f7a4 : mY yJ0_indexOf_0f7a4 cJ0_indexOf_0f7a4 2 (some .int) 1 := ⟨kw_171, kw_654, by decide, by decide, by decide +kernel⟩
theorem mY_J0_indexOf_7cf53 : mY yJ0_indexOf_7cf53 cJ0_indexOf_7cf53 3 (some .int) 2 := ⟨kw_171, kw_658, by decide, by decide, by decide +kernel⟩
theorem mY_J0_isLatin1_aae02 : mY yJ0_isLatin1_aae02 cJ0_isLatin1_aae02 1 (some .boolean) 0 := ⟨kw_171, kw_662, by decide, by decide, by decide +kernel⟩
theorem mY_J0_length_8abf5 : mY yJ0_length_8abf5 cJ0_length_8abf5 1 (some .int) 0 := ⟨kw_171, kw_668, by decide, by decide, by decide +kernel⟩
theorem mY_J1_canEncode_9a6ad : mY yJ1_canEncode_9a6ad cJ1_canEncode_9a6ad 1 (some .boolean) 1 := ⟨kw_172, kw_678, by decide, by decide, by decide +kernel⟩
theorem mY_J1_charAt_3b067 : mY yJ1_charAt_3b067 cJ1_charAt_3b067 2 (some .char) 2 := ⟨kw_172, kw_1134, by decide, by decide, by decide +kernel⟩
theorem mY_J1_indexOf_4cfef : mY yJ1_indexOf_4cfef cJ1_indexOf_4cfef 4 (some .int) 4 := ⟨kw_172, kw_675, by decide, by decide, by decide +kernel⟩
theorem mY_J1_indexOfChar_4cfef : mY yJ1_indexOfChar_4cfef cJ1_indexOfChar_4cfef 6 (some .int) 4 := ⟨kw_172, kw_687, by decide, by decide, by decide +kernel⟩
theorem mY_J3_checkFromToIndex_8c36e : mY yJ3_checkFromToIndex_8c36e cJ3_checkFromToIndex_8c36e 4 (some .int) 4 := ⟨kw_175, kw_710, by decide, by decide, by decide +kernel⟩
theorem mY_J3_checkIndex_8e157 : mY yJ3_checkIndex_8e157 cJ3_checkIndex_8e157 3 (some .int) 3 := ⟨kw_175, kw_1140, by decide, by decide, by decide +kernel⟩
