/-! ===== facts: words, kinds, references ===== -/
def LoopP {S : Type} (B : (S → Prop) → S → Prop) : Nat → S → Prop
  | 0, _ => False
  | k + 1, s => B (LoopP B k) s
def Lp {S : Type} (B : (S → Prop) → S → Prop) (s : S) : Prop := ∃ k, LoopP B k s
/-- a loop by an invariant and a measure -/
theorem Lp.rule {S : Type} {B : (S → Prop) → S → Prop} (Inv : S → Prop) (μ : S → Nat) (h : ∀ (s : S) (C : S → Prop), Inv s → (∀ s', Inv s' → μ s' < μ s → C s') → B C s) : ∀ s, Inv s → Lp B s := by
  have key : ∀ (n : Nat) (s : S), μ s < n → Inv s → LoopP B n s := by
    intro n
    induction n with
    | zero => intro s h1 _; omega
    | succ n ih =>
      intro s h1 h2
      exact h s _ h2 (fun s' h3 h4 => ih s' (by omega) h3)
  exact fun s hs => ⟨μ s + 1, key _ s (Nat.lt_succ_self _) hs⟩
theorem sR_l {x : Int} (h : (decide (-2147483648 ≤ x) && decide (x < 2147483648)) = true) : sR x := by
  simp only [Bool.and_eq_true, decide_eq_true_eq] at h
  exact h
theorem sR_max {x y : Int} (hx : sR x) (hy : sR y) : sR (max x y) := by rw [Int.max_def]; split <;> assumption
theorem sR_min {x y : Int} (hx : sR x) (hy : sR y) : sR (min x y) := by rw [Int.min_def]; split <;> assumption
theorem nar_c {x : Int} (h : 0 ≤ x ∧ x < 65536) : narrow .char (.int (sJ x)) = .int (sJ x) := by
  have hx : sR x := ⟨by omega, by omega⟩
  show Value.int _ = _
  rw [lg_i2c_small (by rw [sJ_toInt hx]; exact h.1) (by rw [sJ_toInt hx]; exact h.2)]
theorem nar_z {x : Int} (h : x = 0 ∨ x = 1) : narrow .boolean (.int (sJ x)) = .int (sJ x) := by
  rcases h with rfl | rfl <;> decide
theorem fit_c {x : Int} (h : 0 ≤ x ∧ x < 65536) : fits .char (.int (sJ x)) = true := by
  have hx : sR x := ⟨by omega, by omega⟩
  show (decide (0 ≤ sJ x) && decide (sJ x ≤ 65535)) = true
  rw [show (65535 : Int32) = sJ 65535 from rfl, sJ_zero]
  simp only [Bool.and_eq_true, decide_eq_true_eq]
  exact ⟨(sJ_le sR_0 hx).mpr h.1, (sJ_le hx (sR_l rfl)).mpr (by omega)⟩
theorem fit_z {x : Int} (h : x = 0 ∨ x = 1) : fits .boolean (.int (sJ x)) = true := by
  rcases h with rfl | rfl <;> decide
theorem vnar_c {x : Int} (h : 0 ≤ x ∧ x < 65536) : vp_nar .char (sJ x) = sJ x := by unfold vp_nar; rw [nar_c h]
theorem vnar_z {x : Int} (h : x = 0 ∨ x = 1) : vp_nar .boolean (sJ x) = sJ x := by unfold vp_nar; rw [nar_z h]
theorem sta.pos {o : Int} (h : sta o) : 61 ≤ o := by unfold sta at h; omega
theorem sta.row {o k : Int} (h : sta o) (hk : 0 ≤ k ∧ k < 2) : isA (o + 3 + k) (20, 16) := by
  rcases (show k = 0 ∨ k = 1 by omega) with rfl | rfl
  · rw [Int.add_zero]; exact h.m0
  · rw [show o + 3 + 1 = o + 4 by omega]; exact h.m1
theorem Wf.mem {r : MI} (hw : Wf r) {o k : Int} (h : sta o) (hk : 0 ≤ k ∧ k < 2) : r (o + 2) k = o + 3 + k := by
  obtain ⟨-, -, -, h1, h2⟩ := hw.2.2.2.1 o h
  rcases (show k = 0 ∨ k = 1 by omega) with rfl | rfl
  · rw [h1]; omega
  · rw [h2]; omega
theorem Wf.sts {r : MI} (hw : Wf r) {k : Int} (hk : 0 ≤ k ∧ k < 12) : stm (r 4 k) := hw.2.2.2.2.1 k hk.1 hk.2
theorem Wf.sp {r : MI} (hw : Wf r) : stm (r 3 3) := hw.2.2.2.2.2.1
theorem node_rng {o : Int} (h : isA o (5, 0)) : 72 ≤ o ∧ o < 168 := by
  have key : ∀ k < 504, lay k = (5, 0) → 72 ≤ k ∧ k < 168 := by decide +kernel
  have := key o.toNat h.n h.2.2
  have := h.1
  omega
theorem Wf.src {r : MI} (hw : Wf r) {o : Int} (h : isA o (5, 0)) (hz : ¬ r o 0 = 0) : stm (r o 0) := by
  have h1 := node_rng h
  have h2 := hw.2.2.2.2.2.2 (o - 72) (by omega) (by omega)
  rw [show 72 + (o - 72) = o by omega] at h2
  exact h2.resolve_left hz
/-- a change of a reference that isn't one of the constant ones -/
theorem Wf.upd {r : MI} (hw : Wf r) {o k x : Int} (h1 : ∀ p ∈ cL, ¬ (p.1 = o ∧ p.2.1 = k)) (h2 : ∀ p ∈ rL, ¬ p.1 = o) (h3 : ¬ stm o) (h4 : ¬ sta o ∧ ¬ sta (o - 2)) (hx : stm x) : Wf (st r o k x) := by
  obtain ⟨g1, g2, g3, g4, g5, g6, g7⟩ := hw
  refine ⟨fun p hp => ?_, fun p hp c hc hd => ?_, fun a ha => ?_, fun a ha => ?_, fun c hc hd => ?_, ?_, fun c hc hd => ?_⟩
  · rw [st_ne (h1 p hp)]; exact g1 p hp
  · rw [st_ne (fun q => h2 p hp q.1)]; exact g2 p hp c hc hd
  · have hn : ¬ a = o := fun e => h3 (e ▸ ha)
    rw [st_ne (fun q => hn q.1), st_ne (fun q => hn q.1), st_ne (fun q => hn q.1)]
    exact g3 a ha
  · have hn : ¬ a = o := fun e => h4.1 (e ▸ ha)
    have hn2 : ¬ a + 2 = o := fun e => h4.2 (by rw [← e, Int.add_sub_cancel]; exact ha)
    rw [st_ne (fun q => hn q.1), st_ne (fun q => hn q.1), st_ne (fun q => hn q.1), st_ne (fun q => hn2 q.1), st_ne (fun q => hn2 q.1)]
    exact g4 a ha
  · unfold st
    split
    · exact hx
    · exact g5 c hc hd
  · unfold st
    split
    · exact hx
    · exact g6
  · unfold st
    split
    · exact Or.inr hx
    · exact g7 c hc hd
theorem Wf.spare {r : MI} (hw : Wf r) {x : Int} (hx : stm x) : Wf (st r 3 3 x) := hw.upd (by decide +kernel) (by decide +kernel) (by unfold stm; omega) (by unfold sta; omega) hx
theorem Wf.stst {r : MI} (hw : Wf r) {k x : Int} (hx : stm x) : Wf (st r 4 k x) := hw.upd (fun p hp q => (show ∀ p ∈ cL, ¬ p.1 = 4 by decide +kernel) p hp q.1) (by decide +kernel) (by unfold stm; omega) (by unfold sta; omega) hx
theorem Wf.source {r : MI} (hw : Wf r) {o x : Int} (h : isA o (5, 0)) (hx : stm x) : Wf (st r o 0 x) := by
  have h1 := node_rng h
  exact hw.upd (fun p hp q => by have := (show ∀ p ∈ cL, p.1 < 72 ∨ 168 ≤ p.1 by decide +kernel) p hp; have := q.1; omega) (fun p hp q => by have := (show ∀ p ∈ rL, p.1 < 72 ∨ 168 ≤ p.1 by decide +kernel) p hp; omega) (by unfold stm; omega) (by unfold sta; omega) hx
theorem all_map {N : Nat} {C : String} {T : u_T} (h : ∀ k, k < N → u_lay C T k ∈ gW) : ∀ w ∈ u_ws C T N, w ∈ gW := by
  intro w hw
  obtain ⟨k, hk, rfl⟩ := List.mem_map.mp hw
  exact h k (List.mem_range.mp hk)
theorem sR_len {k : Nat} (h : k < 13) : sR (lenS k : Int) := by
  have key : ∀ k < 13, lenS k < 100 := by decide +kernel
  have := key k h
  exact ⟨by omega, by omega⟩
theorem th_of {L : List Cond} (h : L.all (fun w => decide (w ∈ lw_tbl) && (goodWord w || isX w)) = true) : ∀ w ∈ L, w ∈ gW ∨ w ∈ gX := by
  intro w hw
  have h1 := List.all_eq_true.mp h w hw
  simp only [Bool.and_eq_true, Bool.or_eq_true, decide_eq_true_eq] at h1
  rcases h1.2 with g | g
  · exact Or.inl (List.mem_filter.mpr ⟨h1.1, g⟩)
  · exact Or.inr (List.mem_filter.mpr ⟨h1.1, g⟩)
theorem nar_b {x : Int} (h : -128 ≤ x ∧ x < 128) : narrow .byte (.int (sJ x)) = .int (sJ x) := by
  have hx : sR x := ⟨by omega, by omega⟩
  show Value.int _ = _
  rw [lg_i2b_small (by rw [sJ_toInt hx]; exact h.1) (by rw [sJ_toInt hx]; exact h.2)]
theorem hin_X0 : ∀ w ∈ u_ws RX0 TX0 5, w ∈ gW := all_map (fun k hk => by
  by_cases e0 : k = 0; subst e0; exact kw_369
  by_cases e1 : k = 1; subst e1; exact kw_371
  by_cases e2 : k = 2; subst e2; exact kw_373
  by_cases e3 : k = 3; subst e3; exact kw_375
  by_cases e4 : k = 4; subst e4; exact kw_377
  omega)
theorem hin_X1 : ∀ w ∈ u_ws RX1 TX1 2, w ∈ gW := all_map (fun k hk => by
  by_cases e0 : k = 0; subst e0; exact kw_487
  by_cases e1 : k = 1; subst e1; exact kw_489
  omega)
theorem hin_X2 : ∀ w ∈ u_ws RX2 TX2 5, w ∈ gW := all_map (fun k hk => by
  by_cases e0 : k = 0; subst e0; exact kw_402
  by_cases e1 : k = 1; subst e1; exact kw_404
  by_cases e2 : k = 2; subst e2; exact kw_406
  by_cases e3 : k = 3; subst e3; exact kw_408
  by_cases e4 : k = 4; subst e4; exact kw_410
  omega)
theorem hin_X3 : ∀ w ∈ u_ws RX3 TX3 13, w ∈ gW := all_map (fun k hk => by
  by_cases e0 : k = 0; subst e0; exact kw_322
  by_cases e1 : k = 1; subst e1; exact kw_324
  by_cases e2 : k = 2; subst e2; exact kw_326
  by_cases e3 : k = 3; subst e3; exact kw_328
  by_cases e4 : k = 4; subst e4; exact kw_330
  by_cases e5 : k = 5; subst e5; exact kw_332
  by_cases e6 : k = 6; subst e6; exact kw_334
  by_cases e7 : k = 7; subst e7; exact kw_336
  by_cases e8 : k = 8; subst e8; exact kw_338
  by_cases e9 : k = 9; subst e9; exact kw_340
  by_cases e10 : k = 10; subst e10; exact kw_342
  by_cases e11 : k = 11; subst e11; exact kw_344
  by_cases e12 : k = 12; subst e12; exact kw_346
  omega)
theorem hin_X4 : ∀ w ∈ u_ws RX4 TX4 6, w ∈ gW := all_map (fun k hk => by
  by_cases e0 : k = 0; subst e0; exact kw_463
  by_cases e1 : k = 1; subst e1; exact kw_465
  by_cases e2 : k = 2; subst e2; exact kw_467
  by_cases e3 : k = 3; subst e3; exact kw_469
  by_cases e4 : k = 4; subst e4; exact kw_471
  by_cases e5 : k = 5; subst e5; exact kw_473
  omega)
theorem hin_X5 : ∀ w ∈ u_ws RX5 TX5 7, w ∈ gW := all_map (fun k hk => by
  by_cases e0 : k = 0; subst e0; exact kw_508
  by_cases e1 : k = 1; subst e1; exact kw_510
  by_cases e2 : k = 2; subst e2; exact kw_512
  by_cases e3 : k = 3; subst e3; exact kw_514
  by_cases e4 : k = 4; subst e4; exact kw_516
  by_cases e5 : k = 5; subst e5; exact kw_518
  by_cases e6 : k = 6; subst e6; exact kw_520
  omega)
theorem hin_X6 : ∀ w ∈ u_ws RX6 TX6 9, w ∈ gW := all_map (fun k hk => by
  by_cases e0 : k = 0; subst e0; exact kw_222
  by_cases e1 : k = 1; subst e1; exact kw_224
  by_cases e2 : k = 2; subst e2; exact kw_226
  by_cases e3 : k = 3; subst e3; exact kw_228
  by_cases e4 : k = 4; subst e4; exact kw_230
  by_cases e5 : k = 5; subst e5; exact kw_232
  by_cases e6 : k = 6; subst e6; exact kw_234
  by_cases e7 : k = 7; subst e7; exact kw_236
  by_cases e8 : k = 8; subst e8; exact kw_238
  omega)
theorem hin_X7 : ∀ w ∈ u_ws RX7 TX7 5, w ∈ gW := all_map (fun k hk => by
  by_cases e0 : k = 0; subst e0; exact kw_258
  by_cases e1 : k = 1; subst e1; exact kw_260
  by_cases e2 : k = 2; subst e2; exact kw_262
  by_cases e3 : k = 3; subst e3; exact kw_264
  by_cases e4 : k = 4; subst e4; exact kw_266
  omega)
theorem hin_X8 : ∀ w ∈ u_ws RX8 TX8 4, w ∈ gW := all_map (fun k hk => by
  by_cases e0 : k = 0; subst e0; exact kw_189
  by_cases e1 : k = 1; subst e1; exact kw_191
  by_cases e2 : k = 2; subst e2; exact kw_193
  by_cases e3 : k = 3; subst e3; exact kw_195
  omega)
theorem hin_X9 : ∀ w ∈ u_ws RX9 TX9 7, w ∈ gW := all_map (fun k hk => by
  by_cases e0 : k = 0; subst e0; exact kw_429
  by_cases e1 : k = 1; subst e1; exact kw_431
  by_cases e2 : k = 2; subst e2; exact kw_433
  by_cases e3 : k = 3; subst e3; exact kw_435
  by_cases e4 : k = 4; subst e4; exact kw_437
  by_cases e5 : k = 5; subst e5; exact kw_439
  by_cases e6 : k = 6; subst e6; exact kw_441
  omega)
theorem hin_X10 : ∀ w ∈ u_ws RX10 TX10 3, w ∈ gW := all_map (fun k hk => by
  by_cases e0 : k = 0; subst e0; exact kw_154
  by_cases e1 : k = 1; subst e1; exact kw_156
  by_cases e2 : k = 2; subst e2; exact kw_158
  omega)
theorem hin_X11 : ∀ w ∈ u_ws RX11 TX11 11, w ∈ gW := all_map (fun k hk => by
  by_cases e0 : k = 0; subst e0; exact kw_534
  by_cases e1 : k = 1; subst e1; exact kw_536
  by_cases e2 : k = 2; subst e2; exact kw_538
  by_cases e3 : k = 3; subst e3; exact kw_540
  by_cases e4 : k = 4; subst e4; exact kw_542
  by_cases e5 : k = 5; subst e5; exact kw_544
  by_cases e6 : k = 6; subst e6; exact kw_546
  by_cases e7 : k = 7; subst e7; exact kw_548
  by_cases e8 : k = 8; subst e8; exact kw_550
  by_cases e9 : k = 9; subst e9; exact kw_552
  by_cases e10 : k = 10; subst e10; exact kw_554
  omega)
theorem a_0 : isA 0 (13, 0) := isA.of (by decide +kernel)
theorem a_1 : isA 1 (12, 0) := isA.of (by decide +kernel)
theorem a_2 : isA 2 (21, 24) := isA.of (by decide +kernel)
theorem a_3 : isA 3 (8, 0) := isA.of (by decide +kernel)
theorem a_4 : isA 4 (25, 12) := isA.of (by decide +kernel)
theorem a_5 : isA 5 (20, 32) := isA.of (by decide +kernel)
theorem a_6 : isA 6 (27, 2) := isA.of (by decide +kernel)
theorem a_61 : isA 61 (9, 0) := isA.of (by decide +kernel)
theorem a_67 : isA 67 (2, 0) := isA.of (by decide +kernel)
theorem a_68 : isA 68 (26, 96) := isA.of (by decide +kernel)
theorem a_69 : isA 69 (20, 7) := isA.of (by decide +kernel)
theorem a_70 : isA 70 (20, 7) := isA.of (by decide +kernel)
theorem a_71 : isA 71 (20, 7) := isA.of (by decide +kernel)
theorem a_168 : isA 168 (4, 0) := isA.of (by decide +kernel)
theorem a_169 : isA 169 (27, 96) := isA.of (by decide +kernel)
theorem a_266 : isA 266 (27, 96) := isA.of (by decide +kernel)
theorem a_363 : isA 363 (27, 96) := isA.of (by decide +kernel)
theorem a_460 : isA 460 (20, 96) := isA.of (by decide +kernel)
theorem a_461 : isA 461 (11, 0) := isA.of (by decide +kernel)
theorem a_462 : isA 462 (20, 96) := isA.of (by decide +kernel)
theorem a_463 : isA 463 (20, 96) := isA.of (by decide +kernel)
theorem a_464 : isA 464 (20, 96) := isA.of (by decide +kernel)
theorem a_465 : isA 465 (20, 96) := isA.of (by decide +kernel)
theorem a_466 : isA 466 (20, 96) := isA.of (by decide +kernel)
theorem a_467 : isA 467 (20, 7) := isA.of (by decide +kernel)
theorem a_469 : isA 469 (6, 0) := isA.of (by decide +kernel)
theorem a_470 : isA 470 (20, 96) := isA.of (by decide +kernel)
theorem a_471 : isA 471 (20, 96) := isA.of (by decide +kernel)
theorem a_472 : isA 472 (27, 7) := isA.of (by decide +kernel)
theorem a_480 : isA 480 (3, 0) := isA.of (by decide +kernel)
theorem a_481 : isA 481 (9, 0) := isA.of (by decide +kernel)
theorem a_487 : isA 487 (20, 1536) := isA.of (by decide +kernel)
theorem a_488 : isA 488 (7, 0) := isA.of (by decide +kernel)
theorem a_489 : isA 489 (27, 4) := isA.of (by decide +kernel)
theorem a_494 : isA 494 (27, 4) := isA.of (by decide +kernel)
theorem a_499 : isA 499 (20, 4) := isA.of (by decide +kernel)
theorem a_500 : isA 500 (20, 4) := isA.of (by decide +kernel)
theorem a_501 : isA 501 (20, 4) := isA.of (by decide +kernel)
theorem a_502 : isA 502 (20, 4) := isA.of (by decide +kernel)
theorem a_503 : isA 503 (20, 4) := isA.of (by decide +kernel)
theorem sta_61 : sta 61 := by unfold sta; omega
theorem sta_481 : sta 481 := by unfold sta; omega
theorem row_6 {k : Int} (h : 0 ≤ k ∧ k < 2) : isA (7 + k) (20, 16) := isA_rng 7 2 _ (by decide +kernel) (by omega) (by omega)
theorem row_169 {k : Int} (h : 0 ≤ k ∧ k < 96) : isA (170 + k) (20, 100) := isA_rng 170 96 _ (by decide +kernel) (by omega) (by omega)
theorem row_266 {k : Int} (h : 0 ≤ k ∧ k < 96) : isA (267 + k) (20, 100) := isA_rng 267 96 _ (by decide +kernel) (by omega) (by omega)
theorem row_363 {k : Int} (h : 0 ≤ k ∧ k < 96) : isA (364 + k) (20, 100) := isA_rng 364 96 _ (by decide +kernel) (by omega) (by omega)
theorem row_472 {k : Int} (h : 0 ≤ k ∧ k < 7) : isA (473 + k) (20, 481) := isA_rng 473 7 _ (by decide +kernel) (by omega) (by omega)
theorem row_489 {k : Int} (h : 0 ≤ k ∧ k < 4) : isA (490 + k) (20, 16) := isA_rng 490 4 _ (by decide +kernel) (by omega) (by omega)
theorem row_494 {k : Int} (h : 0 ≤ k ∧ k < 4) : isA (495 + k) (20, 16) := isA_rng 495 4 _ (by decide +kernel) (by omega) (by omega)
theorem th_92 : ∀ w ∈ vx_atS "Schedulary" 92 "java/lang/IllegalArgumentException" thN, w ∈ gW ∨ w ∈ gX := th_of (by decide +kernel)
theorem th_102 : ∀ w ∈ vx_atS "Schedulary" 102 "java/lang/IllegalStateException" thN, w ∈ gW ∨ w ∈ gX := th_of (by decide +kernel)
theorem th_138 : ∀ w ∈ vx_atS "Schedulary" 138 "java/lang/IndexOutOfBoundsException" thN, w ∈ gW ∨ w ∈ gX := th_of (by decide +kernel)
theorem th_157 : ∀ w ∈ vx_atS "Schedulary" 157 "java/lang/UnsupportedOperationException" thN, w ∈ gW ∨ w ∈ gX := th_of (by decide +kernel)
theorem th_269 : ∀ w ∈ nzA "Schedulary" 269 "java/util/NoSuchElementException" 13 nz13 thN, w ∈ gW ∨ w ∈ gX := th_of (by decide +kernel)
theorem mY_X11_action : mY yX11_action cX11_action 4 (some .int) 3 := ⟨kw_102, kw_1287, by decide, by decide, by decide +kernel⟩
theorem mY_X11_add : mY yX11_add cX11_add 2 (some .int) 0 := ⟨kw_102, kw_1135, by decide, by decide, by decide +kernel⟩
theorem mY_X11_areLocked : mY yX11_areLocked cX11_areLocked 1 (some .boolean) 0 := ⟨kw_102, kw_1780, by decide, by decide, by decide +kernel⟩
theorem mY_X11_busyShare : mY yX11_busyShare cX11_busyShare 4 (some .float) 1 := ⟨kw_102, kw_1761, by decide, by decide, by decide +kernel⟩
theorem mY_X11_byRings : mY yX11_byRings cX11_byRings 1 (some .int) 0 := ⟨kw_102, kw_1770, by decide, by decide, by decide +kernel⟩
theorem mY_X11_byUnits : mY yX11_byUnits cX11_byUnits 1 (some .int) 0 := ⟨kw_102, kw_1766, by decide, by decide, by decide +kernel⟩
theorem mY_X11_carryOut : mY yX11_carryOut cX11_carryOut 1 none 0 := ⟨kw_102, kw_564, by decide, by decide, by decide +kernel⟩
theorem mY_X11_changeBody : mY yX11_changeBody cX11_changeBody 1 none 0 := ⟨kw_102, kw_1199, by decide, by decide, by decide +kernel⟩
theorem mY_X11_changeValues : mY yX11_changeValues cX11_changeValues 1 none 0 := ⟨kw_102, kw_1243, by decide, by decide, by decide +kernel⟩
theorem mY_X11_checkNode : mY yX11_checkNode cX11_checkNode 2 none 1 := ⟨kw_102, kw_1346, by decide, by decide, by decide +kernel⟩
theorem mY_X11_circuitMemory : mY yX11_circuitMemory cX11_circuitMemory 3 (some .int) 2 := ⟨kw_102, kw_1416, by decide, by decide, by decide +kernel⟩
theorem mY_X11_circuitOutput : mY yX11_circuitOutput cX11_circuitOutput 2 (some .int) 1 := ⟨kw_102, kw_1412, by decide, by decide, by decide +kernel⟩
theorem mY_X11_circuitOutputs : mY yX11_circuitOutputs cX11_circuitOutputs 1 (some .int) 0 := ⟨kw_102, kw_1734, by decide, by decide, by decide +kernel⟩
theorem mY_X11_clear : mY yX11_clear cX11_clear 1 (some .int) 0 := ⟨kw_102, kw_1709, by decide, by decide, by decide +kernel⟩
theorem mY_X11_done : mY yX11_done cX11_done 1 (some .int) 0 := ⟨kw_102, kw_1785, by decide, by decide, by decide +kernel⟩
theorem mY_X11_edges : mY yX11_edges cX11_edges 1 (some .int) 0 := ⟨kw_102, kw_1748, by decide, by decide, by decide +kernel⟩
theorem mY_X11_input : mY yX11_input cX11_input 2 (some .int) 1 := ⟨kw_102, kw_1259, by decide, by decide, by decide +kernel⟩
theorem mY_X11_interval : mY yX11_interval cX11_interval 1 (some .int) 0 := ⟨kw_102, kw_1744, by decide, by decide, by decide +kernel⟩
theorem mY_X11_isDivided : mY yX11_isDivided cX11_isDivided 2 (some .boolean) 2 := ⟨kw_102, kw_738, by decide, by decide, by decide +kernel⟩
theorem mY_X11_isPlace : mY yX11_isPlace cX11_isPlace 2 (some .boolean) 2 := ⟨kw_102, kw_1269, by decide, by decide, by decide +kernel⟩
theorem mY_X11_isSame : mY yX11_isSame cX11_isSame 1 (some .boolean) 0 := ⟨kw_102, kw_1730, by decide, by decide, by decide +kernel⟩
theorem mY_X11_isSound : mY yX11_isSound cX11_isSound 1 (some .boolean) 0 := ⟨kw_102, kw_560, by decide, by decide, by decide +kernel⟩
theorem mY_X11_isWithin : mY yX11_isWithin cX11_isWithin 3 (some .boolean) 3 := ⟨kw_102, kw_827, by decide, by decide, by decide +kernel⟩
theorem mY_X11_kindOf : mY yX11_kindOf cX11_kindOf 2 (some .char) 1 := ⟨kw_102, kw_1342, by decide, by decide, by decide +kernel⟩
theorem mY_X11_late : mY yX11_late cX11_late 2 (some .int) 1 := ⟨kw_102, kw_1400, by decide, by decide, by decide +kernel⟩
theorem mY_X11_leastDepth : mY yX11_leastDepth cX11_leastDepth 2 (some .int) 0 := ⟨kw_102, kw_1420, by decide, by decide, by decide +kernel⟩
theorem mY_X11_memoryAt : mY yX11_memoryAt cX11_memoryAt 3 (some .int) 2 := ⟨kw_102, kw_1331, by decide, by decide, by decide +kernel⟩
theorem mY_X11_nodes : mY yX11_nodes cX11_nodes 1 (some .int) 0 := ⟨kw_102, kw_1719, by decide, by decide, by decide +kernel⟩
theorem mY_X11_output : mY yX11_output cX11_output 2 (some .int) 1 := ⟨kw_102, kw_1326, by decide, by decide, by decide +kernel⟩
theorem mY_X11_outputs : mY yX11_outputs cX11_outputs 1 (some .int) 0 := ⟨kw_102, kw_1726, by decide, by decide, by decide +kernel⟩
theorem mY_X11_place : mY yX11_place cX11_place 2 (some .int) 1 := ⟨kw_102, kw_1408, by decide, by decide, by decide +kernel⟩
theorem mY_X11_prepare : mY yX11_prepare cX11_prepare 2 none 1 := ⟨kw_102, kw_624, by decide, by decide, by decide +kernel⟩
theorem mY_X11_register : mY yX11_register cX11_register 2 (some .int) 1 := ⟨kw_102, kw_1337, by decide, by decide, by decide +kernel⟩
theorem mY_X11_replace : mY yX11_replace cX11_replace 2 (some .int) 1 := ⟨kw_102, kw_1203, by decide, by decide, by decide +kernel⟩
theorem mY_X11_setBits : mY yX11_setBits cX11_setBits 3 (some .int) 1 := ⟨kw_102, kw_1248, by decide, by decide, by decide +kernel⟩
theorem mY_X11_setCycles : mY yX11_setCycles cX11_setCycles 5 (some .int) 2 := ⟨kw_102, kw_1282, by decide, by decide, by decide +kernel⟩
theorem mY_X11_setDepth : mY yX11_setDepth cX11_setDepth 4 (some .int) 2 := ⟨kw_102, kw_1297, by decide, by decide, by decide +kernel⟩
theorem mY_X11_setMemory : mY yX11_setMemory cX11_setMemory 6 (some .int) 3 := ⟨kw_102, kw_1266, by decide, by decide, by decide +kernel⟩
theorem mY_X11_setTurns : mY yX11_setTurns cX11_setTurns 3 (some .int) 1 := ⟨kw_102, kw_1220, by decide, by decide, by decide +kernel⟩
theorem mY_X11_setUnits : mY yX11_setUnits cX11_setUnits 5 (some .int) 2 := ⟨kw_102, kw_1275, by decide, by decide, by decide +kernel⟩
theorem mY_X11_soon : mY yX11_soon cX11_soon 2 (some .int) 1 := ⟨kw_102, kw_1396, by decide, by decide, by decide +kernel⟩
theorem mY_X11_statementOf : mY yX11_statementOf cX11_statementOf 2 (some .int) 1 := ⟨kw_102, kw_1371, by decide, by decide, by decide +kernel⟩
theorem mY_X11_step : mY yX11_step cX11_step 2 (some .int) 1 := ⟨kw_102, kw_1404, by decide, by decide, by decide +kernel⟩
theorem mY_X11_type : mY yX11_type cX11_type 2 (some .int) 1 := ⟨kw_102, kw_1012, by decide, by decide, by decide +kernel⟩
theorem mY_X11_unroll : mY yX11_unroll cX11_unroll 2 (some .int) 1 := ⟨kw_102, kw_1253, by decide, by decide, by decide +kernel⟩
theorem mY_X11_waitsFor : mY yX11_waitsFor cX11_waitsFor 2 (some .int) 1 := ⟨kw_102, kw_1302, by decide, by decide, by decide +kernel⟩
theorem mY_X11_weight : mY yX11_weight cX11_weight 5 (some .int) 3 := ⟨kw_102, kw_1375, by decide, by decide, by decide +kernel⟩
theorem mY_X0_append : mY yX0_append cX0_append 6 (some .int) 4 := ⟨kw_107, kw_644, by decide, by decide, by decide +kernel⟩
theorem mY_X0_appendReading : mY yX0_appendReading cX0_appendReading 6 (some .int) 4 := ⟨kw_107, kw_636, by decide, by decide, by decide +kernel⟩
theorem mY_X0_appendWriting : mY yX0_appendWriting cX0_appendWriting 6 none 4 := ⟨kw_107, kw_673, by decide, by decide, by decide +kernel⟩
theorem mY_X0_areUnitsKept : mY yX0_areUnitsKept cX0_areUnitsKept 4 (some .boolean) 2 := ⟨kw_107, kw_878, by decide, by decide, by decide +kernel⟩
theorem mY_X0_countTogether : mY yX0_countTogether cX0_countTogether 6 (some .int) 3 := ⟨kw_107, kw_882, by decide, by decide, by decide +kernel⟩
theorem mY_X0_cyclesOf : mY yX0_cyclesOf cX0_cyclesOf 2 (some .int) 1 := ⟨kw_107, kw_689, by decide, by decide, by decide +kernel⟩
theorem mY_X0_endOf : mY yX0_endOf cX0_endOf 4 (some .int) 1 := ⟨kw_107, kw_759, by decide, by decide, by decide +kernel⟩
theorem mY_X0_lastMakerAhead : mY yX0_lastMakerAhead cX0_lastMakerAhead 4 (some .int) 2 := ⟨kw_107, kw_720, by decide, by decide, by decide +kernel⟩
theorem mY_X0_leastIntervalOf : mY yX0_leastIntervalOf cX0_leastIntervalOf 3 (some .int) 1 := ⟨kw_107, kw_811, by decide, by decide, by decide +kernel⟩
theorem mY_X0_nextMakerBehind : mY yX0_nextMakerBehind cX0_nextMakerBehind 4 (some .int) 2 := ⟨kw_107, kw_708, by decide, by decide, by decide +kernel⟩
theorem mY_X0_number : mY yX0_number cX0_number 4 none 1 := ⟨kw_107, kw_628, by decide, by decide, by decide +kernel⟩
theorem mY_X0_numberOne : mY yX0_numberOne cX0_numberOne 8 none 3 := ⟨kw_107, kw_632, by decide, by decide, by decide +kernel⟩
theorem mY_X0_sumOfCycles : mY yX0_sumOfCycles cX0_sumOfCycles 3 (some .int) 0 := ⟨kw_107, kw_795, by decide, by decide, by decide +kernel⟩
theorem mY_X1_begin : mY yX1_begin cX1_begin 8 none 4 := ⟨kw_112, kw_862, by decide, by decide, by decide +kernel⟩
theorem mY_X1_finish : mY yX1_finish cX1_finish 6 none 4 := ⟨kw_112, kw_853, by decide, by decide, by decide +kernel⟩
theorem mY_X1_turn : mY yX1_turn cX1_turn 9 none 3 := ⟨kw_112, kw_835, by decide, by decide, by decide +kernel⟩
theorem mY_X1_turnAfter : mY yX1_turnAfter cX1_turnAfter 4 (some .int) 3 := ⟨kw_112, kw_849, by decide, by decide, by decide +kernel⟩
theorem mY_X1_valueFrom : mY yX1_valueFrom cX1_valueFrom 3 (some .int) 2 := ⟨kw_112, kw_857, by decide, by decide, by decide +kernel⟩
theorem mY_X2_distanceTo : mY yX2_distanceTo cX2_distanceTo 5 (some .int) 4 := ⟨kw_109, kw_735, by decide, by decide, by decide +kernel⟩
theorem mY_X2_find : mY yX2_find cX2_find 5 (some .int) 3 := ⟨kw_109, kw_697, by decide, by decide, by decide +kernel⟩
theorem mY_X2_isKept : mY yX2_isKept cX2_isKept 9 (some .boolean) 4 := ⟨kw_109, kw_874, by decide, by decide, by decide +kernel⟩
theorem mY_X2_join : mY yX2_join cX2_join 4 none 2 := ⟨kw_109, kw_677, by decide, by decide, by decide +kernel⟩
theorem mY_X2_joinChannel : mY yX2_joinChannel cX2_joinChannel 6 none 2 := ⟨kw_109, kw_742, by decide, by decide, by decide +kernel⟩
theorem mY_X2_joinGiver : mY yX2_joinGiver cX2_joinGiver 4 none 3 := ⟨kw_109, kw_685, by decide, by decide, by decide +kernel⟩
theorem mY_X2_joinMakerAhead : mY yX2_joinMakerAhead cX2_joinMakerAhead 6 none 3 := ⟨kw_109, kw_716, by decide, by decide, by decide +kernel⟩
theorem mY_X2_joinMakerBehind : mY yX2_joinMakerBehind cX2_joinMakerBehind 7 none 3 := ⟨kw_109, kw_724, by decide, by decide, by decide +kernel⟩
theorem mY_X2_joinMemory : mY yX2_joinMemory cX2_joinMemory 6 none 3 := ⟨kw_109, kw_728, by decide, by decide, by decide +kernel⟩
theorem mY_X2_joinPlaces : mY yX2_joinPlaces cX2_joinPlaces 8 none 4 := ⟨kw_109, kw_732, by decide, by decide, by decide +kernel⟩
theorem mY_X2_joinRegister : mY yX2_joinRegister cX2_joinRegister 6 none 2 := ⟨kw_109, kw_704, by decide, by decide, by decide +kernel⟩
theorem mY_X2_joinWithinStatements : mY yX2_joinWithinStatements cX2_joinWithinStatements 3 none 1 := ⟨kw_109, kw_681, by decide, by decide, by decide +kernel⟩
theorem mY_X2_put : mY yX2_put cX2_put 6 none 4 := ⟨kw_109, kw_693, by decide, by decide, by decide +kernel⟩
theorem mY_X3_isUsing : mY yX3_isUsing cX3_isUsing 2 (some .boolean) 1 := ⟨kw_108, kw_712, by decide, by decide, by decide +kernel⟩
theorem mY_X3_set : mY yX3_set cX3_set 5 none 4 := ⟨kw_108, kw_651, by decide, by decide, by decide +kernel⟩
theorem mY_X3_setPlace : mY yX3_setPlace cX3_setPlace 2 none 1 := ⟨kw_108, kw_655, by decide, by decide, by decide +kernel⟩
theorem mY_X4_countCycles : mY yX4_countCycles cX4_countCycles 3 (some .int) 2 := ⟨kw_111, kw_844, by decide, by decide, by decide +kernel⟩
theorem mY_X4_find : mY yX4_find cX4_find 6 none 2 := ⟨kw_111, kw_787, by decide, by decide, by decide +kernel⟩
theorem mY_X4_findByRings : mY yX4_findByRings cX4_findByRings 7 (some .int) 2 := ⟨kw_111, kw_791, by decide, by decide, by decide +kernel⟩
theorem mY_X4_findByUnits : mY yX4_findByUnits cX4_findByUnits 3 (some .int) 1 := ⟨kw_111, kw_807, by decide, by decide, by decide +kernel⟩
theorem mY_X4_findStep : mY yX4_findStep cX4_findStep 10 (some .int) 4 := ⟨kw_111, kw_819, by decide, by decide, by decide +kernel⟩
theorem mY_X4_isAllowedByRings : mY yX4_isAllowedByRings cX4_isAllowedByRings 7 (some .boolean) 3 := ⟨kw_111, kw_800, by decide, by decide, by decide +kernel⟩
theorem mY_X4_isKept : mY yX4_isKept cX4_isKept 3 (some .boolean) 2 := ⟨kw_111, kw_891, by decide, by decide, by decide +kernel⟩
theorem mY_X4_placeAll : mY yX4_placeAll cX4_placeAll 6 (some .boolean) 2 := ⟨kw_111, kw_815, by decide, by decide, by decide +kernel⟩
theorem mY_X4_placeAt : mY yX4_placeAt cX4_placeAt 8 none 4 := ⟨kw_111, kw_831, by decide, by decide, by decide +kernel⟩
theorem mY_X4_pushAll : mY yX4_pushAll cX4_pushAll 9 (some .int) 3 := ⟨kw_111, kw_804, by decide, by decide, by decide +kernel⟩
theorem mY_X4_restOf : mY yX4_restOf cX4_restOf 3 (some .int) 1 := ⟨kw_111, kw_824, by decide, by decide, by decide +kernel⟩
theorem mY_X5_append : mY yX5_append cX5_append 5 (some .int) 3 := ⟨kw_113, kw_1293, by decide, by decide, by decide +kernel⟩
theorem mY_X5_countDone : mY yX5_countDone cX5_countDone 3 (some .int) 0 := ⟨kw_113, kw_1789, by decide, by decide, by decide +kernel⟩
theorem mY_X5_findLeastDepth : mY yX5_findLeastDepth cX5_findLeastDepth 3 (some .int) 0 := ⟨kw_113, kw_1424, by decide, by decide, by decide +kernel⟩
theorem mY_X5_go : mY yX5_go cX5_go 5 none 0 := ⟨kw_113, kw_1311, by decide, by decide, by decide +kernel⟩
theorem mY_X5_goOn : mY yX5_goOn cX5_goOn 5 none 1 := ⟨kw_113, kw_1315, by decide, by decide, by decide +kernel⟩
theorem mY_X5_goWithTheirDepths : mY yX5_goWithTheirDepths cX5_goWithTheirDepths 2 none 0 := ⟨kw_113, kw_1307, by decide, by decide, by decide +kernel⟩
theorem mY_X5_isSomeLeft : mY yX5_isSomeLeft cX5_isSomeLeft 2 (some .boolean) 0 := ⟨kw_113, kw_1428, by decide, by decide, by decide +kernel⟩
theorem mY_X5_nextChannel : mY yX5_nextChannel cX5_nextChannel 3 (some .int) 1 := ⟨kw_113, kw_1319, by decide, by decide, by decide +kernel⟩
theorem mY_X6_bodyTurns : mY yX6_bodyTurns cX6_bodyTurns 1 (some .int) 0 := ⟨kw_104, kw_840, by decide, by decide, by decide +kernel⟩
theorem mY_X6_carryOut : mY yX6_carryOut cX6_carryOut 4 none 1 := ⟨kw_104, kw_568, by decide, by decide, by decide +kernel⟩
theorem mY_X6_carryOutOne : mY yX6_carryOutOne cX6_carryOutOne 5 none 3 := ⟨kw_104, kw_580, by decide, by decide, by decide +kernel⟩
theorem mY_X6_cut : mY yX6_cut cX6_cut 2 (some .int) 1 := ⟨kw_104, kw_576, by decide, by decide, by decide +kernel⟩
theorem mY_X6_takeInput : mY yX6_takeInput cX6_takeInput 3 (some .int) 1 := ⟨kw_104, kw_589, by decide, by decide, by decide +kernel⟩
theorem mY_X6_useSpare : mY yX6_useSpare cX6_useSpare 3 none 1 := ⟨kw_104, kw_1191, by decide, by decide, by decide +kernel⟩
theorem mY_X6_valueOf : mY yX6_valueOf cX6_valueOf 5 (some .int) 4 := ⟨kw_104, kw_584, by decide, by decide, by decide +kernel⟩
theorem mY_X6_write : mY yX6_write cX6_write 6 none 4 := ⟨kw_104, kw_612, by decide, by decide, by decide +kernel⟩
theorem mY_X7_begin : mY yX7_begin cX7_begin 4 none 1 := ⟨kw_106, kw_572, by decide, by decide, by decide +kernel⟩
theorem mY_X7_hasMemoriesOf : mY yX7_hasMemoriesOf cX7_hasMemoriesOf 4 (some .boolean) 1 := ⟨kw_106, kw_905, by decide, by decide, by decide +kernel⟩
theorem mY_X7_hasRegistersOf : mY yX7_hasRegistersOf cX7_hasRegistersOf 3 (some .boolean) 1 := ⟨kw_106, kw_901, by decide, by decide, by decide +kernel⟩
theorem mY_X7_isInside : mY yX7_isInside cX7_isInside 2 (some .boolean) 2 := ⟨kw_106, kw_600, by decide, by decide, by decide +kernel⟩
theorem mY_X7_isLike : mY yX7_isLike cX7_isLike 3 (some .boolean) 1 := ⟨kw_106, kw_897, by decide, by decide, by decide +kernel⟩
theorem mY_X7_keep : mY yX7_keep cX7_keep 4 none 3 := ⟨kw_106, kw_620, by decide, by decide, by decide +kernel⟩
theorem mY_X7_look : mY yX7_look cX7_look 3 (some .int) 2 := ⟨kw_106, kw_597, by decide, by decide, by decide +kernel⟩
theorem mY_X7_putOut : mY yX7_putOut cX7_putOut 2 none 1 := ⟨kw_106, kw_616, by decide, by decide, by decide +kernel⟩
theorem mY_X8_forget : mY yX8_forget cX8_forget 2 none 0 := ⟨kw_105, kw_1143, by decide, by decide, by decide +kernel⟩
theorem mY_X8_hasOperation : mY yX8_hasOperation cX8_hasOperation 1 (some .boolean) 0 := ⟨kw_105, kw_604, by decide, by decide, by decide +kernel⟩
theorem mY_X8_isReading : mY yX8_isReading cX8_isReading 2 (some .boolean) 1 := ⟨kw_105, kw_640, by decide, by decide, by decide +kernel⟩
theorem mY_X8_kindOfOperation : mY yX8_kindOfOperation cX8_kindOfOperation 1 (some .int) 0 := ⟨kw_105, kw_665, by decide, by decide, by decide +kernel⟩
theorem mY_X8_maskOfRegister : mY yX8_maskOfRegister cX8_maskOfRegister 2 (some .int) 1 := ⟨kw_105, kw_669, by decide, by decide, by decide +kernel⟩
theorem mY_X8_operate : mY yX8_operate cX8_operate 3 (some .int) 2 := ⟨kw_105, kw_608, by decide, by decide, by decide +kernel⟩
theorem mY_X8_placeOf : mY yX8_placeOf cX8_placeOf 3 (some .int) 2 := ⟨kw_105, kw_593, by decide, by decide, by decide +kernel⟩
theorem mY_X8_registerIn : mY yX8_registerIn cX8_registerIn 2 (some .int) 1 := ⟨kw_105, kw_660, by decide, by decide, by decide +kernel⟩
theorem mY_X9_areInOrder : mY yX9_areInOrder cX9_areInOrder 3 (some .boolean) 1 := ⟨kw_110, kw_887, by decide, by decide, by decide +kernel⟩
theorem mY_X9_areKept : mY yX9_areKept cX9_areKept 3 (some .boolean) 2 := ⟨kw_110, kw_870, by decide, by decide, by decide +kernel⟩
theorem mY_X9_beginAllAt : mY yX9_beginAllAt cX9_beginAllAt 6 (some .int) 3 := ⟨kw_110, kw_775, by decide, by decide, by decide +kernel⟩
theorem mY_X9_beginAt : mY yX9_beginAt cX9_beginAt 7 none 4 := ⟨kw_110, kw_783, by decide, by decide, by decide +kernel⟩
theorem mY_X9_chooseFor : mY yX9_chooseFor cX9_chooseFor 6 (some .int) 2 := ⟨kw_110, kw_779, by decide, by decide, by decide +kernel⟩
theorem mY_X9_order : mY yX9_order cX9_order 3 none 2 := ⟨kw_110, kw_746, by decide, by decide, by decide +kernel⟩
theorem mY_X9_orderByLists : mY yX9_orderByLists cX9_orderByLists 5 none 2 := ⟨kw_110, kw_767, by decide, by decide, by decide +kernel⟩
theorem mY_X9_orderLatest : mY yX9_orderLatest cX9_orderLatest 7 none 2 := ⟨kw_110, kw_755, by decide, by decide, by decide +kernel⟩
theorem mY_X9_orderSoonest : mY yX9_orderSoonest cX9_orderSoonest 6 none 2 := ⟨kw_110, kw_750, by decide, by decide, by decide +kernel⟩
theorem mY_X9_startLists : mY yX9_startLists cX9_startLists 5 none 2 := ⟨kw_110, kw_771, by decide, by decide, by decide +kernel⟩
theorem mY_X10_append : mY yX10_append cX10_append 2 none 1 := ⟨kw_103, kw_1131, by decide, by decide, by decide +kernel⟩
theorem mY_X10_empty : mY yX10_empty cX10_empty 2 (some .int) 0 := ⟨kw_103, kw_1195, by decide, by decide, by decide +kernel⟩
theorem mY_X10_isDigit : mY yX10_isDigit cX10_isDigit 1 (some .boolean) 1 := ⟨kw_103, kw_1172, by decide, by decide, by decide +kernel⟩
theorem mY_X10_next : mY yX10_next cX10_next 1 (some .char) 0 := ⟨kw_103, kw_1155, by decide, by decide, by decide +kernel⟩
theorem mY_X10_readIndex : mY yX10_readIndex cX10_readIndex 6 (some .boolean) 2 := ⟨kw_103, kw_1169, by decide, by decide, by decide +kernel⟩
theorem mY_X10_readInto : mY yX10_readInto cX10_readInto 3 (some .int) 1 := ⟨kw_103, kw_1139, by decide, by decide, by decide +kernel⟩
theorem mY_X10_readNumber : mY yX10_readNumber cX10_readNumber 4 (some .int) 1 := ⟨kw_103, kw_1176, by decide, by decide, by decide +kernel⟩
theorem mY_X10_readOperand : mY yX10_readOperand cX10_readOperand 3 (some .boolean) 2 := ⟨kw_103, kw_1180, by decide, by decide, by decide +kernel⟩
theorem mY_X10_readOperation : mY yX10_readOperation cX10_readOperation 2 (some .boolean) 1 := ⟨kw_103, kw_1184, by decide, by decide, by decide +kernel⟩
theorem mY_X10_readPlace : mY yX10_readPlace cX10_readPlace 4 (some .boolean) 2 := ⟨kw_103, kw_1163, by decide, by decide, by decide +kernel⟩
theorem mY_X10_readRegister : mY yX10_readRegister cX10_readRegister 4 (some .boolean) 2 := ⟨kw_103, kw_1159, by decide, by decide, by decide +kernel⟩
theorem mY_X10_readSign : mY yX10_readSign cX10_readSign 2 (some .boolean) 1 := ⟨kw_103, kw_1151, by decide, by decide, by decide +kernel⟩
theorem mY_X10_readTarget : mY yX10_readTarget cX10_readTarget 2 (some .boolean) 1 := ⟨kw_103, kw_1147, by decide, by decide, by decide +kernel⟩
theorem mY_J0_charAt_5068e : mY yJ0_charAt_5068e cJ0_charAt_5068e 2 (some .char) 1 := ⟨kw_119, kw_1351, by decide, by decide, by decide +kernel⟩
theorem mY_J0_checkBoundsBeginEnd_23922 : mY yJ0_checkBoundsBeginEnd_23922 cJ0_checkBoundsBeginEnd_23922 3 none 3 := ⟨kw_119, kw_1064, by decide, by decide, by decide +kernel⟩
theorem mY_J0_checkBoundsOffCount_cabcc : mY yJ0_checkBoundsOffCount_cabcc cJ0_checkBoundsOffCount_cabcc 3 (some .int) 3 := ⟨kw_119, kw_1578, by decide, by decide, by decide +kernel⟩
theorem mY_J0_checkIndex_df160 : mY yJ0_checkIndex_df160 cJ0_checkIndex_df160 2 none 2 := ⟨kw_119, kw_1357, by decide, by decide, by decide +kernel⟩
theorem mY_J0_coder_7d493 : mY yJ0_coder_7d493 cJ0_coder_7d493 1 (some .byte) 0 := ⟨kw_119, kw_1035, by decide, by decide, by decide +kernel⟩
theorem mY_J0_indexOf_0f7a4 : mY yJ0_indexOf_0f7a4 cJ0_indexOf_0f7a4 2 (some .int) 1 := ⟨kw_119, kw_1017, by decide, by decide, by decide +kernel⟩
theorem mY_J0_indexOf_7cf53 : mY yJ0_indexOf_7cf53 cJ0_indexOf_7cf53 3 (some .int) 2 := ⟨kw_119, kw_1021, by decide, by decide, by decide +kernel⟩
theorem mY_J0_isLatin1_aae02 : mY yJ0_isLatin1_aae02 cJ0_isLatin1_aae02 1 (some .boolean) 0 := ⟨kw_119, kw_1025, by decide, by decide, by decide +kernel⟩
theorem mY_J0_length_8abf5 : mY yJ0_length_8abf5 cJ0_length_8abf5 1 (some .int) 0 := ⟨kw_119, kw_1031, by decide, by decide, by decide +kernel⟩
theorem mY_J1_canEncode_fc78d : mY yJ1_canEncode_fc78d cJ1_canEncode_fc78d 1 (some .boolean) 1 := ⟨kw_120, kw_1446, by decide, by decide, by decide +kernel⟩
theorem mY_J1_canEncode_9a6ad : mY yJ1_canEncode_9a6ad cJ1_canEncode_9a6ad 1 (some .boolean) 1 := ⟨kw_120, kw_1041, by decide, by decide, by decide +kernel⟩
theorem mY_J1_charAt_3b067 : mY yJ1_charAt_3b067 cJ1_charAt_3b067 2 (some .char) 2 := ⟨kw_120, kw_1354, by decide, by decide, by decide +kernel⟩
theorem mY_J1_indexOf_4cfef : mY yJ1_indexOf_4cfef cJ1_indexOf_4cfef 4 (some .int) 4 := ⟨kw_120, kw_1038, by decide, by decide, by decide +kernel⟩
theorem mY_J1_indexOfChar_4cfef : mY yJ1_indexOfChar_4cfef cJ1_indexOfChar_4cfef 6 (some .int) 4 := ⟨kw_120, kw_1046, by decide, by decide, by decide +kernel⟩
theorem mY_J1_inflate_0e8fd : mY yJ1_inflate_0e8fd cJ1_inflate_0e8fd 5 none 5 := ⟨kw_120, kw_1569, by decide, by decide, by decide +kernel⟩
theorem mY_J3_checkFromIndexSize_8c36e : mY yJ3_checkFromIndexSize_8c36e cJ3_checkFromIndexSize_8c36e 4 (some .int) 4 := ⟨kw_123, kw_1581, by decide, by decide, by decide +kernel⟩
theorem mY_J3_checkFromToIndex_8c36e : mY yJ3_checkFromToIndex_8c36e cJ3_checkFromToIndex_8c36e 4 (some .int) 4 := ⟨kw_123, kw_1069, by decide, by decide, by decide +kernel⟩
theorem mY_J3_checkIndex_8e157 : mY yJ3_checkIndex_8e157 cJ3_checkIndex_8e157 3 (some .int) 3 := ⟨kw_123, kw_1360, by decide, by decide, by decide +kernel⟩
