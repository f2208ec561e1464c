/-! ===== facts: words, kinds, references ===== -/
def LoopP {S : Type} (B : (S → Prop) → S → Prop) : Nat → S → Prop
  | 0, _ => False
  | k + 1, s => B (LoopP B k) s
def Lp {S : Type} (B : (S → Prop) → S → Prop) (s : S) : Prop := ∃ k, LoopP B k s
/-- a loop by an invariant and a measure -/
theorem Lp.rule {S : Type} {B : (S → Prop) → S → Prop} (Inv : S → Prop) (μ : S → Nat) (h : ∀ (s : S) (C : S → Prop), Inv s → (∀ s', Inv s' → μ s' < μ s → C s') → B C s) : ∀ s, Inv s → Lp B s := by
  have key : ∀ (n : Nat) (s : S), μ s < n → Inv s → LoopP B n s := by
    intro n
    induction n with
    | zero => intro s h1 _; omega
    | succ n ih =>
      intro s h1 h2
      exact h s _ h2 (fun s' h3 h4 => ih s' (by omega) h3)
  exact fun s hs => ⟨μ s + 1, key _ s (Nat.lt_succ_self _) hs⟩
theorem sR_l {x : Int} (h : (decide (-2147483648 ≤ x) && decide (x < 2147483648)) = true) : sR x := by
  simp only [Bool.and_eq_true, decide_eq_true_eq] at h
  exact h
theorem sR_max {x y : Int} (hx : sR x) (hy : sR y) : sR (max x y) := by rw [Int.max_def]; split <;> assumption
theorem sR_min {x y : Int} (hx : sR x) (hy : sR y) : sR (min x y) := by rw [Int.min_def]; split <;> assumption
theorem nar_c {x : Int} (h : 0 ≤ x ∧ x < 65536) : narrow .char (.int (sJ x)) = .int (sJ x) := by
  have hx : sR x := ⟨by omega, by omega⟩
  show Value.int _ = _
  rw [lg_i2c_small (by rw [sJ_toInt hx]; exact h.1) (by rw [sJ_toInt hx]; exact h.2)]
theorem nar_z {x : Int} (h : x = 0 ∨ x = 1) : narrow .boolean (.int (sJ x)) = .int (sJ x) := by
  rcases h with rfl | rfl <;> decide
theorem fit_c {x : Int} (h : 0 ≤ x ∧ x < 65536) : fits .char (.int (sJ x)) = true := by
  have hx : sR x := ⟨by omega, by omega⟩
  show (decide (0 ≤ sJ x) && decide (sJ x ≤ 65535)) = true
  rw [show (65535 : Int32) = sJ 65535 from rfl, sJ_zero]
  simp only [Bool.and_eq_true, decide_eq_true_eq]
  exact ⟨(sJ_le sR_0 hx).mpr h.1, (sJ_le hx (sR_l rfl)).mpr (by omega)⟩
theorem fit_z {x : Int} (h : x = 0 ∨ x = 1) : fits .boolean (.int (sJ x)) = true := by
  rcases h with rfl | rfl <;> decide
theorem vnar_c {x : Int} (h : 0 ≤ x ∧ x < 65536) : vp_nar .char (sJ x) = sJ x := by unfold vp_nar; rw [nar_c h]
theorem vnar_z {x : Int} (h : x = 0 ∨ x = 1) : vp_nar .boolean (sJ x) = sJ x := by unfold vp_nar; rw [nar_z h]
theorem sta.pos {o : Int} (h : sta o) : 61 ≤ o := by unfold sta at h; omega
theorem sta.row {o k : Int} (h : sta o) (hk : 0 ≤ k ∧ k < 2) : isA (o + 3 + k) (20, 16) := by
  rcases (show k = 0 ∨ k = 1 by omega) with rfl | rfl
  · rw [Int.add_zero]; exact h.m0
  · rw [show o + 3 + 1 = o + 4 by omega]; exact h.m1
theorem Wf.mem {r : MI} (hw : Wf r) {o k : Int} (h : sta o) (hk : 0 ≤ k ∧ k < 2) : r (o + 2) k = o + 3 + k := by
  obtain ⟨-, -, -, h1, h2⟩ := hw.2.2.2.1 o h
  rcases (show k = 0 ∨ k = 1 by omega) with rfl | rfl
  · rw [h1]; omega
  · rw [h2]; omega
theorem Wf.sts {r : MI} (hw : Wf r) {k : Int} (hk : 0 ≤ k ∧ k < 12) : stm (r 4 k) := hw.2.2.2.2.1 k hk.1 hk.2
theorem Wf.sp {r : MI} (hw : Wf r) : stm (r 3 3) := hw.2.2.2.2.2.1
theorem node_rng {o : Int} (h : isA o (5, 0)) : 72 ≤ o ∧ o < 168 := by
  have key : ∀ k < 542, lay k = (5, 0) → 72 ≤ k ∧ k < 168 := by decide +kernel
  have := key o.toNat h.n h.2.2
  have := h.1
  omega
theorem Wf.src {r : MI} (hw : Wf r) {o : Int} (h : isA o (5, 0)) (hz : ¬ r o 0 = 0) : stm (r o 0) := by
  have h1 := node_rng h
  have h2 := hw.2.2.2.2.2.2 (o - 72) (by omega) (by omega)
  rw [show 72 + (o - 72) = o by omega] at h2
  exact h2.resolve_left hz
/-- a change of a reference that isn't one of the constant ones -/
theorem Wf.upd {r : MI} (hw : Wf r) {o k x : Int} (h1 : ∀ p ∈ cL, ¬ (p.1 = o ∧ p.2.1 = k)) (h2 : ∀ p ∈ rL, ¬ p.1 = o) (h3 : ¬ stm o) (h4 : ¬ sta o ∧ ¬ sta (o - 2)) (hx : stm x) : Wf (st r o k x) := by
  obtain ⟨g1, g2, g3, g4, g5, g6, g7⟩ := hw
  refine ⟨fun p hp => ?_, fun p hp c hc hd => ?_, fun a ha => ?_, fun a ha => ?_, fun c hc hd => ?_, ?_, fun c hc hd => ?_⟩
  · rw [st_ne (h1 p hp)]; exact g1 p hp
  · rw [st_ne (fun q => h2 p hp q.1)]; exact g2 p hp c hc hd
  · have hn : ¬ a = o := fun e => h3 (e ▸ ha)
    rw [st_ne (fun q => hn q.1), st_ne (fun q => hn q.1), st_ne (fun q => hn q.1)]
    exact g3 a ha
  · have hn : ¬ a = o := fun e => h4.1 (e ▸ ha)
    have hn2 : ¬ a + 2 = o := fun e => h4.2 (by rw [← e, Int.add_sub_cancel]; exact ha)
    rw [st_ne (fun q => hn q.1), st_ne (fun q => hn q.1), st_ne (fun q => hn q.1), st_ne (fun q => hn2 q.1), st_ne (fun q => hn2 q.1)]
    exact g4 a ha
  · unfold st
    split
    · exact hx
    · exact g5 c hc hd
  · unfold st
    split
    · exact hx
    · exact g6
  · unfold st
    split
    · exact Or.inr hx
    · exact g7 c hc hd
theorem Wf.spare {r : MI} (hw : Wf r) {x : Int} (hx : stm x) : Wf (st r 3 3 x) := hw.upd (by decide +kernel) (by decide +kernel) (by unfold stm; omega) (by unfold sta; omega) hx
theorem Wf.stst {r : MI} (hw : Wf r) {k x : Int} (hx : stm x) : Wf (st r 4 k x) := hw.upd (fun p hp q => (show ∀ p ∈ cL, ¬ p.1 = 4 by decide +kernel) p hp q.1) (by decide +kernel) (by unfold stm; omega) (by unfold sta; omega) hx
theorem Wf.source {r : MI} (hw : Wf r) {o x : Int} (h : isA o (5, 0)) (hx : stm x) : Wf (st r o 0 x) := by
  have h1 := node_rng h
  exact hw.upd (fun p hp q => by have := (show ∀ p ∈ cL, p.1 < 72 ∨ 168 ≤ p.1 by decide +kernel) p hp; have := q.1; omega) (fun p hp q => by have := (show ∀ p ∈ rL, p.1 < 72 ∨ 168 ≤ p.1 by decide +kernel) p hp; omega) (by unfold stm; omega) (by unfold sta; omega) hx
theorem all_map {N : Nat} {C : String} {T : u_T} (h : ∀ k, k < N → u_lay C T k ∈ gW) : ∀ w ∈ u_ws C T N, w ∈ gW := by
  intro w hw
  obtain ⟨k, hk, rfl⟩ := List.mem_map.mp hw
  exact h k (List.mem_range.mp hk)
theorem sR_len {k : Nat} (h : k < 5) : sR (lenS k : Int) := by
  have key : ∀ k < 5, lenS k < 100 := by decide +kernel
  have := key k h
  exact ⟨by omega, by omega⟩
theorem th_of {L : List Cond} (h : L.all (fun w => decide (w ∈ lw_tbl) && (goodWord w || isX w)) = true) : ∀ w ∈ L, w ∈ gW ∨ w ∈ gX := by
  intro w hw
  have h1 := List.all_eq_true.mp h w hw
  simp only [Bool.and_eq_true, Bool.or_eq_true, decide_eq_true_eq] at h1
  rcases h1.2 with g | g
  · exact Or.inl (List.mem_filter.mpr ⟨h1.1, g⟩)
  · exact Or.inr (List.mem_filter.mpr ⟨h1.1, g⟩)
theorem nar_b {x : Int} (h : -128 ≤ x ∧ x < 128) : narrow .byte (.int (sJ x)) = .int (sJ x) := by
  have hx : sR x := ⟨by omega, by omega⟩
  show Value.int _ = _
  rw [lg_i2b_small (by rw [sJ_toInt hx]; exact h.1) (by rw [sJ_toInt hx]; exact h.2)]
theorem kw_max : Cond.code Lib.Math.max.name Lib.Math.max.code 2 (some .int) ∈ gW := gw_of (k := 681) (by decide +kernel) (by decide +kernel)
theorem kw_min : Cond.code Lib.Math.min.name Lib.Math.min.code 2 (some .int) ∈ gW := gw_of (k := 684) (by decide +kernel) (by decide +kernel)
theorem kw_0 : Cond.selects "Schedulary$Text" yX10_empty yX10_empty ∈ gW := gw_of (k := 0) (by decide +kernel) (by decide +kernel)
theorem kw_1 : Cond.selects "Schedulary$Text" yX10_readInto yX10_readInto ∈ gW := gw_of (k := 1) (by decide +kernel) (by decide +kernel)
theorem kw_2 : Cond.selects "Schedulary$Statement" yX8_forget yX8_forget ∈ gW := gw_of (k := 2) (by decide +kernel) (by decide +kernel)
theorem kw_3 : Cond.selects "Schedulary$Text" yX10_readTarget yX10_readTarget ∈ gW := gw_of (k := 3) (by decide +kernel) (by decide +kernel)
theorem kw_4 : Cond.selects "Schedulary$Text" yX10_readSign yX10_readSign ∈ gW := gw_of (k := 4) (by decide +kernel) (by decide +kernel)
theorem kw_5 : Cond.selects "Schedulary$Text" yX10_next yX10_next ∈ gW := gw_of (k := 5) (by decide +kernel) (by decide +kernel)
theorem kw_6 : Cond.selects "Schedulary$Text" yX10_readRegister yX10_readRegister ∈ gW := gw_of (k := 6) (by decide +kernel) (by decide +kernel)
theorem kw_7 : Cond.selects "Schedulary$Text" yX10_readPlace yX10_readPlace ∈ gW := gw_of (k := 7) (by decide +kernel) (by decide +kernel)
theorem kw_8 : Cond.selects "Schedulary$Text" yX10_readIndex yX10_readIndex ∈ gW := gw_of (k := 8) (by decide +kernel) (by decide +kernel)
theorem kw_9 : Cond.selects "Schedulary$Text" yX10_readNumber yX10_readNumber ∈ gW := gw_of (k := 9) (by decide +kernel) (by decide +kernel)
theorem kw_10 : Cond.selects "Schedulary$Text" yX10_readOperand yX10_readOperand ∈ gW := gw_of (k := 10) (by decide +kernel) (by decide +kernel)
theorem kw_11 : Cond.selects "Schedulary$Text" yX10_readOperation yX10_readOperation ∈ gW := gw_of (k := 11) (by decide +kernel) (by decide +kernel)
theorem kw_12 : Cond.selects "Schedulary" yX11_carryOut yX11_carryOut ∈ gW := gw_of (k := 12) (by decide +kernel) (by decide +kernel)
theorem kw_13 : Cond.selects "Schedulary$Program" yX6_carryOut yX6_carryOut ∈ gW := gw_of (k := 13) (by decide +kernel) (by decide +kernel)
theorem kw_14 : Cond.selects "Schedulary$State" yX7_begin yX7_begin ∈ gW := gw_of (k := 14) (by decide +kernel) (by decide +kernel)
theorem kw_15 : Cond.selects "Schedulary$Program" yX6_cut yX6_cut ∈ gW := gw_of (k := 15) (by decide +kernel) (by decide +kernel)
theorem kw_16 : Cond.selects "Schedulary$Program" yX6_carryOutOne yX6_carryOutOne ∈ gW := gw_of (k := 16) (by decide +kernel) (by decide +kernel)
theorem kw_17 : Cond.selects "Schedulary$Program" yX6_valueOf yX6_valueOf ∈ gW := gw_of (k := 17) (by decide +kernel) (by decide +kernel)
theorem kw_18 : Cond.selects "Schedulary$Program" yX6_takeInput yX6_takeInput ∈ gW := gw_of (k := 18) (by decide +kernel) (by decide +kernel)
theorem kw_19 : Cond.selects "Schedulary$Statement" yX8_placeOf yX8_placeOf ∈ gW := gw_of (k := 19) (by decide +kernel) (by decide +kernel)
theorem kw_20 : Cond.selects "Schedulary$State" yX7_look yX7_look ∈ gW := gw_of (k := 20) (by decide +kernel) (by decide +kernel)
theorem kw_21 : Cond.selects "Schedulary$Statement" yX8_hasOperation yX8_hasOperation ∈ gW := gw_of (k := 21) (by decide +kernel) (by decide +kernel)
theorem kw_22 : Cond.selects "Schedulary$Statement" yX8_operate yX8_operate ∈ gW := gw_of (k := 22) (by decide +kernel) (by decide +kernel)
theorem kw_23 : Cond.selects "Schedulary$Program" yX6_write yX6_write ∈ gW := gw_of (k := 23) (by decide +kernel) (by decide +kernel)
theorem kw_24 : Cond.selects "Schedulary$State" yX7_putOut yX7_putOut ∈ gW := gw_of (k := 24) (by decide +kernel) (by decide +kernel)
theorem kw_25 : Cond.selects "Schedulary$State" yX7_keep yX7_keep ∈ gW := gw_of (k := 25) (by decide +kernel) (by decide +kernel)
theorem kw_26 : Cond.selects "Schedulary" yX11_prepare yX11_prepare ∈ gW := gw_of (k := 26) (by decide +kernel) (by decide +kernel)
theorem kw_27 : Cond.selects "Schedulary$Body" yX0_number yX0_number ∈ gW := gw_of (k := 27) (by decide +kernel) (by decide +kernel)
theorem kw_28 : Cond.selects "Schedulary$Body" yX0_numberOne yX0_numberOne ∈ gW := gw_of (k := 28) (by decide +kernel) (by decide +kernel)
theorem kw_29 : Cond.selects "Schedulary$Body" yX0_appendReading yX0_appendReading ∈ gW := gw_of (k := 29) (by decide +kernel) (by decide +kernel)
theorem kw_30 : Cond.selects "Schedulary$Statement" yX8_isReading yX8_isReading ∈ gW := gw_of (k := 30) (by decide +kernel) (by decide +kernel)
theorem kw_31 : Cond.selects "Schedulary$Body" yX0_append yX0_append ∈ gW := gw_of (k := 31) (by decide +kernel) (by decide +kernel)
theorem kw_32 : Cond.selects "Schedulary$Node" yX3_set yX3_set ∈ gW := gw_of (k := 32) (by decide +kernel) (by decide +kernel)
theorem kw_33 : Cond.selects "Schedulary$Node" yX3_setPlace yX3_setPlace ∈ gW := gw_of (k := 33) (by decide +kernel) (by decide +kernel)
theorem kw_34 : Cond.selects "Schedulary$Statement" yX8_registerIn yX8_registerIn ∈ gW := gw_of (k := 34) (by decide +kernel) (by decide +kernel)
theorem kw_35 : Cond.selects "Schedulary$Statement" yX8_kindOfOperation yX8_kindOfOperation ∈ gW := gw_of (k := 35) (by decide +kernel) (by decide +kernel)
theorem kw_36 : Cond.selects "Schedulary$Statement" yX8_maskOfRegister yX8_maskOfRegister ∈ gW := gw_of (k := 36) (by decide +kernel) (by decide +kernel)
theorem kw_37 : Cond.selects "Schedulary$Body" yX0_appendWriting yX0_appendWriting ∈ gW := gw_of (k := 37) (by decide +kernel) (by decide +kernel)
theorem kw_38 : Cond.selects "Schedulary$Graph" yX2_join yX2_join ∈ gW := gw_of (k := 38) (by decide +kernel) (by decide +kernel)
theorem kw_39 : Cond.selects "Schedulary$Graph" yX2_joinWithinStatements yX2_joinWithinStatements ∈ gW := gw_of (k := 39) (by decide +kernel) (by decide +kernel)
theorem kw_40 : Cond.selects "Schedulary$Graph" yX2_joinGiver yX2_joinGiver ∈ gW := gw_of (k := 40) (by decide +kernel) (by decide +kernel)
theorem kw_41 : Cond.selects "Schedulary$Body" yX0_cyclesOf yX0_cyclesOf ∈ gW := gw_of (k := 41) (by decide +kernel) (by decide +kernel)
theorem kw_42 : Cond.selects "Schedulary$Graph" yX2_put yX2_put ∈ gW := gw_of (k := 42) (by decide +kernel) (by decide +kernel)
theorem kw_43 : Cond.selects "Schedulary$Graph" yX2_find yX2_find ∈ gW := gw_of (k := 43) (by decide +kernel) (by decide +kernel)
theorem kw_44 : Cond.selects "Schedulary$Graph" yX2_joinRegister yX2_joinRegister ∈ gW := gw_of (k := 44) (by decide +kernel) (by decide +kernel)
theorem kw_45 : Cond.selects "Schedulary$Body" yX0_nextMakerBehind yX0_nextMakerBehind ∈ gW := gw_of (k := 45) (by decide +kernel) (by decide +kernel)
theorem kw_46 : Cond.selects "Schedulary$Node" yX3_isUsing yX3_isUsing ∈ gW := gw_of (k := 46) (by decide +kernel) (by decide +kernel)
theorem kw_47 : Cond.selects "Schedulary$Graph" yX2_joinMakerAhead yX2_joinMakerAhead ∈ gW := gw_of (k := 47) (by decide +kernel) (by decide +kernel)
theorem kw_48 : Cond.selects "Schedulary$Body" yX0_lastMakerAhead yX0_lastMakerAhead ∈ gW := gw_of (k := 48) (by decide +kernel) (by decide +kernel)
theorem kw_49 : Cond.selects "Schedulary$Graph" yX2_joinMakerBehind yX2_joinMakerBehind ∈ gW := gw_of (k := 49) (by decide +kernel) (by decide +kernel)
theorem kw_50 : Cond.selects "Schedulary$Graph" yX2_joinMemory yX2_joinMemory ∈ gW := gw_of (k := 50) (by decide +kernel) (by decide +kernel)
theorem kw_51 : Cond.selects "Schedulary$Graph" yX2_joinPlaces yX2_joinPlaces ∈ gW := gw_of (k := 51) (by decide +kernel) (by decide +kernel)
theorem kw_52 : Cond.selects "Schedulary$Graph" yX2_joinChannel yX2_joinChannel ∈ gW := gw_of (k := 52) (by decide +kernel) (by decide +kernel)
theorem kw_53 : Cond.selects "Schedulary$Steps" yX9_order yX9_order ∈ gW := gw_of (k := 53) (by decide +kernel) (by decide +kernel)
theorem kw_54 : Cond.selects "Schedulary$Steps" yX9_orderSoonest yX9_orderSoonest ∈ gW := gw_of (k := 54) (by decide +kernel) (by decide +kernel)
theorem kw_55 : Cond.selects "Schedulary$Steps" yX9_orderLatest yX9_orderLatest ∈ gW := gw_of (k := 55) (by decide +kernel) (by decide +kernel)
theorem kw_56 : Cond.selects "Schedulary$Body" yX0_endOf yX0_endOf ∈ gW := gw_of (k := 56) (by decide +kernel) (by decide +kernel)
theorem kw_57 : Cond.selects "Schedulary$Steps" yX9_orderByLists yX9_orderByLists ∈ gW := gw_of (k := 57) (by decide +kernel) (by decide +kernel)
theorem kw_58 : Cond.selects "Schedulary$Steps" yX9_startLists yX9_startLists ∈ gW := gw_of (k := 58) (by decide +kernel) (by decide +kernel)
theorem kw_59 : Cond.selects "Schedulary$Steps" yX9_beginAllAt yX9_beginAllAt ∈ gW := gw_of (k := 59) (by decide +kernel) (by decide +kernel)
theorem kw_60 : Cond.selects "Schedulary$Steps" yX9_chooseFor yX9_chooseFor ∈ gW := gw_of (k := 60) (by decide +kernel) (by decide +kernel)
theorem kw_61 : Cond.selects "Schedulary$Steps" yX9_beginAt yX9_beginAt ∈ gW := gw_of (k := 61) (by decide +kernel) (by decide +kernel)
theorem kw_62 : Cond.selects "Schedulary$Pace" yX4_find yX4_find ∈ gW := gw_of (k := 62) (by decide +kernel) (by decide +kernel)
theorem kw_63 : Cond.selects "Schedulary$Pace" yX4_findByRings yX4_findByRings ∈ gW := gw_of (k := 63) (by decide +kernel) (by decide +kernel)
theorem kw_64 : Cond.selects "Schedulary$Body" yX0_sumOfCycles yX0_sumOfCycles ∈ gW := gw_of (k := 64) (by decide +kernel) (by decide +kernel)
theorem kw_65 : Cond.selects "Schedulary$Pace" yX4_isAllowedByRings yX4_isAllowedByRings ∈ gW := gw_of (k := 65) (by decide +kernel) (by decide +kernel)
theorem kw_66 : Cond.selects "Schedulary$Pace" yX4_pushAll yX4_pushAll ∈ gW := gw_of (k := 66) (by decide +kernel) (by decide +kernel)
theorem kw_67 : Cond.selects "Schedulary$Body" yX0_leastIntervalOf yX0_leastIntervalOf ∈ gW := gw_of (k := 67) (by decide +kernel) (by decide +kernel)
theorem kw_68 : Cond.selects "Schedulary$Pace" yX4_placeAll yX4_placeAll ∈ gW := gw_of (k := 68) (by decide +kernel) (by decide +kernel)
theorem kw_69 : Cond.selects "Schedulary$Pace" yX4_findStep yX4_findStep ∈ gW := gw_of (k := 69) (by decide +kernel) (by decide +kernel)
theorem kw_70 : Cond.selects "Schedulary$Pace" yX4_restOf yX4_restOf ∈ gW := gw_of (k := 70) (by decide +kernel) (by decide +kernel)
theorem kw_71 : Cond.selects "Schedulary$Pace" yX4_placeAt yX4_placeAt ∈ gW := gw_of (k := 71) (by decide +kernel) (by decide +kernel)
theorem kw_72 : Cond.selects "Schedulary$Circuit" yX1_turn yX1_turn ∈ gW := gw_of (k := 72) (by decide +kernel) (by decide +kernel)
theorem kw_73 : Cond.selects "Schedulary$Program" yX6_bodyTurns yX6_bodyTurns ∈ gW := gw_of (k := 73) (by decide +kernel) (by decide +kernel)
theorem kw_74 : Cond.selects "Schedulary$Pace" yX4_countCycles yX4_countCycles ∈ gW := gw_of (k := 74) (by decide +kernel) (by decide +kernel)
theorem kw_75 : Cond.selects "Schedulary$Circuit" yX1_finish yX1_finish ∈ gW := gw_of (k := 75) (by decide +kernel) (by decide +kernel)
theorem kw_76 : Cond.selects "Schedulary$Circuit" yX1_valueFrom yX1_valueFrom ∈ gW := gw_of (k := 76) (by decide +kernel) (by decide +kernel)
theorem kw_77 : Cond.selects "Schedulary$Circuit" yX1_begin yX1_begin ∈ gW := gw_of (k := 77) (by decide +kernel) (by decide +kernel)
theorem kw_78 : Cond.selects "Schedulary$Steps" yX9_countIn yX9_countIn ∈ gW := gw_of (k := 78) (by decide +kernel) (by decide +kernel)
theorem kw_79 : Cond.selects "Schedulary$Steps" yX9_mostWaiting yX9_mostWaiting ∈ gW := gw_of (k := 79) (by decide +kernel) (by decide +kernel)
theorem kw_80 : Cond.selects "Schedulary$Steps" yX9_waitFor yX9_waitFor ∈ gW := gw_of (k := 80) (by decide +kernel) (by decide +kernel)
theorem kw_81 : Cond.selects "Schedulary$Steps" yX9_lastUse yX9_lastUse ∈ gW := gw_of (k := 81) (by decide +kernel) (by decide +kernel)
theorem kw_82 : Cond.selects "Schedulary$Pace" yX4_findBinding yX4_findBinding ∈ gW := gw_of (k := 82) (by decide +kernel) (by decide +kernel)
theorem kw_83 : Cond.selects "Schedulary$State" yX7_isLike yX7_isLike ∈ gW := gw_of (k := 83) (by decide +kernel) (by decide +kernel)
theorem kw_84 : Cond.selects "Schedulary$State" yX7_hasRegistersOf yX7_hasRegistersOf ∈ gW := gw_of (k := 84) (by decide +kernel) (by decide +kernel)
theorem kw_85 : Cond.selects "Schedulary$State" yX7_hasMemoriesOf yX7_hasMemoriesOf ∈ gW := gw_of (k := 85) (by decide +kernel) (by decide +kernel)
theorem kw_86 : Cond.selects "Schedulary$Processes" yX5_goWithTheirDepths yX5_goWithTheirDepths ∈ gW := gw_of (k := 86) (by decide +kernel) (by decide +kernel)
theorem kw_87 : Cond.selects "Schedulary$Processes" yX5_go yX5_go ∈ gW := gw_of (k := 87) (by decide +kernel) (by decide +kernel)
theorem kw_88 : Cond.selects "Schedulary$Processes" yX5_goOn yX5_goOn ∈ gW := gw_of (k := 88) (by decide +kernel) (by decide +kernel)
theorem kw_89 : Cond.selects "Schedulary$Processes" yX5_countDone yX5_countDone ∈ gW := gw_of (k := 89) (by decide +kernel) (by decide +kernel)
theorem kw_90 : Cond.selects "Schedulary$Processes" yX5_isSomeLeft yX5_isSomeLeft ∈ gW := gw_of (k := 90) (by decide +kernel) (by decide +kernel)
theorem kw_91 : Cond.selects "Schedulary$Steps" yX9_areKept yX9_areKept ∈ gW := gw_of (k := 91) (by decide +kernel) (by decide +kernel)
theorem kw_92 : Cond.selects "Schedulary$Graph" yX2_isKept yX2_isKept ∈ gW := gw_of (k := 92) (by decide +kernel) (by decide +kernel)
theorem kw_93 : Cond.selects "Schedulary$Body" yX0_areUnitsKept yX0_areUnitsKept ∈ gW := gw_of (k := 93) (by decide +kernel) (by decide +kernel)
theorem kw_94 : Cond.selects "Schedulary$Body" yX0_countTogether yX0_countTogether ∈ gW := gw_of (k := 94) (by decide +kernel) (by decide +kernel)
theorem kw_95 : Cond.selects "Schedulary$Steps" yX9_areInOrder yX9_areInOrder ∈ gW := gw_of (k := 95) (by decide +kernel) (by decide +kernel)
theorem kw_96 : Cond.selects "Schedulary$Pace" yX4_isKept yX4_isKept ∈ gW := gw_of (k := 96) (by decide +kernel) (by decide +kernel)
theorem kw_98 : Cond.selects "Schedulary$Text" yX10_append yX10_append ∈ gW := gw_of (k := 98) (by decide +kernel) (by decide +kernel)
theorem kw_99 : Cond.selects "Schedulary$Program" yX6_useSpare yX6_useSpare ∈ gW := gw_of (k := 99) (by decide +kernel) (by decide +kernel)
theorem kw_100 : Cond.selects "Schedulary" yX11_changeBody yX11_changeBody ∈ gW := gw_of (k := 100) (by decide +kernel) (by decide +kernel)
theorem kw_101 : Cond.selects "Schedulary" yX11_changeValues yX11_changeValues ∈ gW := gw_of (k := 101) (by decide +kernel) (by decide +kernel)
theorem kw_102 : Cond.selects "Schedulary" yX11_checkNode yX11_checkNode ∈ gW := gw_of (k := 102) (by decide +kernel) (by decide +kernel)
theorem kw_103 : Cond.selects "Schedulary$Processes" yX5_append yX5_append ∈ gW := gw_of (k := 103) (by decide +kernel) (by decide +kernel)
theorem kw_104 : Cond.selects "Schedulary$Processes" yX5_nextChannel yX5_nextChannel ∈ gW := gw_of (k := 104) (by decide +kernel) (by decide +kernel)
theorem kw_105 : Cond.selects "Schedulary$Processes" yX5_findLeastDepth yX5_findLeastDepth ∈ gW := gw_of (k := 105) (by decide +kernel) (by decide +kernel)
theorem kw_106 : Cond.selects "SchedularyModel" yX12_fails yX12_fails ∈ gW := gw_of (k := 106) (by decide +kernel) (by decide +kernel)
theorem kw_107 : Cond.selects "SchedularyModel" yX12_parse yX12_parse ∈ gW := gw_of (k := 107) (by decide +kernel) (by decide +kernel)
theorem kw_108 : Cond.selects "SchedularyModel" yX12_part yX12_part ∈ gW := gw_of (k := 108) (by decide +kernel) (by decide +kernel)
theorem kw_109 : Cond.selects "SchedularyModel" yX12_is yX12_is ∈ gW := gw_of (k := 109) (by decide +kernel) (by decide +kernel)
theorem kw_110 : Cond.selects "SchedularyModel" yX12_eats yX12_eats ∈ gW := gw_of (k := 110) (by decide +kernel) (by decide +kernel)
theorem kw_111 : Cond.selects "SchedularyModel" yX12_wrong yX12_wrong ∈ gW := gw_of (k := 111) (by decide +kernel) (by decide +kernel)
theorem kw_112 : Cond.selects "SchedularyModel" yX12_index yX12_index ∈ gW := gw_of (k := 112) (by decide +kernel) (by decide +kernel)
theorem kw_113 : Cond.selects "SchedularyModel" yX12_isDigit yX12_isDigit ∈ gW := gw_of (k := 113) (by decide +kernel) (by decide +kernel)
theorem kw_114 : Cond.selects "SchedularyModel" yX12_number yX12_number ∈ gW := gw_of (k := 114) (by decide +kernel) (by decide +kernel)
theorem kw_115 : Cond.selects "SchedularyModel" yX12_keep yX12_keep ∈ gW := gw_of (k := 115) (by decide +kernel) (by decide +kernel)
theorem kw_116 : Cond.selects "SchedularyModel" yX12_build yX12_build ∈ gW := gw_of (k := 116) (by decide +kernel) (by decide +kernel)
theorem kw_117 : Cond.selects "SchedularyModel" yX12_addStatement yX12_addStatement ∈ gW := gw_of (k := 117) (by decide +kernel) (by decide +kernel)
theorem kw_118 : Cond.selects "SchedularyModel" yX12_addRead yX12_addRead ∈ gW := gw_of (k := 118) (by decide +kernel) (by decide +kernel)
theorem kw_119 : Cond.selects "SchedularyModel" yX12_addNode yX12_addNode ∈ gW := gw_of (k := 119) (by decide +kernel) (by decide +kernel)
theorem kw_120 : Cond.selects "SchedularyModel" yX12_remember yX12_remember ∈ gW := gw_of (k := 120) (by decide +kernel) (by decide +kernel)
theorem kw_121 : Cond.selects "SchedularyModel" yX12_uses yX12_uses ∈ gW := gw_of (k := 121) (by decide +kernel) (by decide +kernel)
theorem kw_122 : Cond.selects "SchedularyModel" yX12_within yX12_within ∈ gW := gw_of (k := 122) (by decide +kernel) (by decide +kernel)
theorem kw_123 : Cond.selects "SchedularyModel" yX12_cyclesOf yX12_cyclesOf ∈ gW := gw_of (k := 123) (by decide +kernel) (by decide +kernel)
theorem kw_124 : Cond.selects "SchedularyModel" yX12_join yX12_join ∈ gW := gw_of (k := 124) (by decide +kernel) (by decide +kernel)
theorem kw_125 : Cond.selects "SchedularyModel" yX12_laterMakers yX12_laterMakers ∈ gW := gw_of (k := 125) (by decide +kernel) (by decide +kernel)
theorem kw_126 : Cond.selects "SchedularyModel" yX12_fromMaker yX12_fromMaker ∈ gW := gw_of (k := 126) (by decide +kernel) (by decide +kernel)
theorem kw_127 : Cond.selects "SchedularyModel" yX12_remembered yX12_remembered ∈ gW := gw_of (k := 127) (by decide +kernel) (by decide +kernel)
theorem kw_128 : Cond.selects "SchedularyModel" yX12_nextOfChannel yX12_nextOfChannel ∈ gW := gw_of (k := 128) (by decide +kernel) (by decide +kernel)
theorem kw_129 : Cond.selects "SchedularyModel" yX12_perform yX12_perform ∈ gW := gw_of (k := 129) (by decide +kernel) (by decide +kernel)
theorem kw_130 : Cond.selects "SchedularyModel" yX12_begin yX12_begin ∈ gW := gw_of (k := 130) (by decide +kernel) (by decide +kernel)
theorem kw_131 : Cond.selects "SchedularyModel" yX12_taken yX12_taken ∈ gW := gw_of (k := 131) (by decide +kernel) (by decide +kernel)
theorem kw_132 : Cond.selects "SchedularyModel" yX12_operand yX12_operand ∈ gW := gw_of (k := 132) (by decide +kernel) (by decide +kernel)
theorem kw_133 : Cond.selects "SchedularyModel" yX12_fromChannel yX12_fromChannel ∈ gW := gw_of (k := 133) (by decide +kernel) (by decide +kernel)
theorem kw_134 : Cond.selects "SchedularyModel" yX12_operate yX12_operate ∈ gW := gw_of (k := 134) (by decide +kernel) (by decide +kernel)
theorem kw_135 : Cond.selects "SchedularyModel" yX12_write yX12_write ∈ gW := gw_of (k := 135) (by decide +kernel) (by decide +kernel)
theorem kw_136 : Cond.selects "SchedularyModel" yX12_noNode yX12_noNode ∈ gW := gw_of (k := 136) (by decide +kernel) (by decide +kernel)
theorem kw_137 : Cond.selects "SchedularyModel" yX12_findSoon yX12_findSoon ∈ gW := gw_of (k := 137) (by decide +kernel) (by decide +kernel)
theorem kw_138 : Cond.selects "SchedularyModel" yX12_list yX12_list ∈ gW := gw_of (k := 138) (by decide +kernel) (by decide +kernel)
theorem kw_139 : Cond.selects "SchedularyModel" yX12_canBegin yX12_canBegin ∈ gW := gw_of (k := 139) (by decide +kernel) (by decide +kernel)
theorem kw_140 : Cond.selects "SchedularyModel" yX12_lastUse yX12_lastUse ∈ gW := gw_of (k := 140) (by decide +kernel) (by decide +kernel)
theorem kw_141 : Cond.selects "SchedularyModel" yX12_rings yX12_rings ∈ gW := gw_of (k := 141) (by decide +kernel) (by decide +kernel)
theorem kw_142 : Cond.selects "SchedularyModel" yX12_hasRing yX12_hasRing ∈ gW := gw_of (k := 142) (by decide +kernel) (by decide +kernel)
theorem kw_143 : Cond.selects "SchedularyModel" yX12_byAllUnits yX12_byAllUnits ∈ gW := gw_of (k := 143) (by decide +kernel) (by decide +kernel)
theorem kw_144 : Cond.selects "SchedularyModel" yX12_needs yX12_needs ∈ gW := gw_of (k := 144) (by decide +kernel) (by decide +kernel)
theorem kw_145 : Cond.selects "SchedularyModel" yX12_placeAll yX12_placeAll ∈ gW := gw_of (k := 145) (by decide +kernel) (by decide +kernel)
theorem kw_146 : Cond.selects "SchedularyModel" yX12_canPlace yX12_canPlace ∈ gW := gw_of (k := 146) (by decide +kernel) (by decide +kernel)
theorem kw_147 : Cond.selects "SchedularyModel" yX12_isFree yX12_isFree ∈ gW := gw_of (k := 147) (by decide +kernel) (by decide +kernel)
theorem kw_148 : Cond.selects "SchedularyModel" yX12_longest yX12_longest ∈ gW := gw_of (k := 148) (by decide +kernel) (by decide +kernel)
theorem kw_149 : Cond.selects "SchedularyModel" yX12_flow yX12_flow ∈ gW := gw_of (k := 149) (by decide +kernel) (by decide +kernel)
theorem kw_150 : Cond.selects "SchedularyModel" yX12_turnAt yX12_turnAt ∈ gW := gw_of (k := 150) (by decide +kernel) (by decide +kernel)
theorem kw_151 : Cond.selects "SchedularyModel" yX12_isLastOf yX12_isLastOf ∈ gW := gw_of (k := 151) (by decide +kernel) (by decide +kernel)
theorem kw_152 : Cond.selects "SchedularyModel" yX12_loopTurn yX12_loopTurn ∈ gW := gw_of (k := 152) (by decide +kernel) (by decide +kernel)
theorem kw_153 : Cond.selects "SchedularyModel" yX12_valueOf yX12_valueOf ∈ gW := gw_of (k := 153) (by decide +kernel) (by decide +kernel)
theorem kw_154 : Cond.selects "SchedularyModel" yX12_given yX12_given ∈ gW := gw_of (k := 154) (by decide +kernel) (by decide +kernel)
theorem kw_155 : Cond.selects "SchedularyModel" yX12_goRound yX12_goRound ∈ gW := gw_of (k := 155) (by decide +kernel) (by decide +kernel)
theorem kw_156 : Cond.selects "SchedularyModel" yX12_acts yX12_acts ∈ gW := gw_of (k := 156) (by decide +kernel) (by decide +kernel)
theorem kw_158 : Cond.initialized "Schedulary" ∈ gW := gw_of (k := 158) (by decide +kernel) (by decide +kernel)
theorem kw_159 : Cond.initialized "Schedulary$Text" ∈ gW := gw_of (k := 159) (by decide +kernel) (by decide +kernel)
theorem kw_160 : Cond.initialized "Schedulary$Program" ∈ gW := gw_of (k := 160) (by decide +kernel) (by decide +kernel)
theorem kw_161 : Cond.initialized "Schedulary$Statement" ∈ gW := gw_of (k := 161) (by decide +kernel) (by decide +kernel)
theorem kw_162 : Cond.initialized "Schedulary$State" ∈ gW := gw_of (k := 162) (by decide +kernel) (by decide +kernel)
theorem kw_163 : Cond.initialized "Schedulary$Body" ∈ gW := gw_of (k := 163) (by decide +kernel) (by decide +kernel)
theorem kw_164 : Cond.initialized "Schedulary$Node" ∈ gW := gw_of (k := 164) (by decide +kernel) (by decide +kernel)
theorem kw_165 : Cond.initialized "Schedulary$Graph" ∈ gW := gw_of (k := 165) (by decide +kernel) (by decide +kernel)
theorem kw_166 : Cond.initialized "Schedulary$Steps" ∈ gW := gw_of (k := 166) (by decide +kernel) (by decide +kernel)
theorem kw_167 : Cond.initialized "Schedulary$Pace" ∈ gW := gw_of (k := 167) (by decide +kernel) (by decide +kernel)
theorem kw_168 : Cond.initialized "Schedulary$Circuit" ∈ gW := gw_of (k := 168) (by decide +kernel) (by decide +kernel)
theorem kw_169 : Cond.initialized "Schedulary$Processes" ∈ gW := gw_of (k := 169) (by decide +kernel) (by decide +kernel)
theorem kw_170 : Cond.initialized "SchedularyModel" ∈ gW := gw_of (k := 170) (by decide +kernel) (by decide +kernel)
theorem kw_171 : Cond.initialized "java/lang/String" ∈ gW := gw_of (k := 171) (by decide +kernel) (by decide +kernel)
theorem kw_172 : Cond.initialized "java/lang/StringLatin1" ∈ gW := gw_of (k := 172) (by decide +kernel) (by decide +kernel)
theorem kw_173 : Cond.initialized "java/lang/Math" ∈ gW := gw_of (k := 173) (by decide +kernel) (by decide +kernel)
theorem kw_175 : Cond.initialized "jdk/internal/util/Preconditions" ∈ gW := gw_of (k := 175) (by decide +kernel) (by decide +kernel)
theorem kw_180 : Cond.initialized "java/lang/IllegalArgumentException" ∈ gW := gw_of (k := 180) (by decide +kernel) (by decide +kernel)
theorem kw_181 : Cond.initialized "java/lang/IllegalStateException" ∈ gW := gw_of (k := 181) (by decide +kernel) (by decide +kernel)
theorem kw_182 : Cond.initialized "java/lang/IndexOutOfBoundsException" ∈ gW := gw_of (k := 182) (by decide +kernel) (by decide +kernel)
theorem kw_184 : Cond.initialized "java/lang/UnsupportedOperationException" ∈ gW := gw_of (k := 184) (by decide +kernel) (by decide +kernel)
theorem kw_185 : Cond.initialized "java/util/NoSuchElementException" ∈ gW := gw_of (k := 185) (by decide +kernel) (by decide +kernel)
theorem kw_201 : Cond.fieldLink "Schedulary$Text" 9 "Schedulary$Text" "signs" "[C" ∈ gW := gw_of (k := 201) (by decide +kernel) (by decide +kernel)
theorem kw_202 : Cond.fieldLink "Schedulary$Text" 15 "Schedulary$Text" "count" "I" ∈ gW := gw_of (k := 202) (by decide +kernel) (by decide +kernel)
theorem kw_203 : Cond.fieldLinkNest "Schedulary" 95 "Schedulary$Text" "count" "I" "Schedulary" ∈ gX := gx_of (k := 203) (by decide +kernel) (by decide +kernel)
theorem kw_204 : Cond.fieldLink "Schedulary$Text" 19 "Schedulary$Text" "at" "I" ∈ gW := gw_of (k := 204) (by decide +kernel) (by decide +kernel)
theorem kw_205 : Cond.laysFinal "Schedulary$Text" "Schedulary$Text" "signs" "[C" ∈ gW := gw_of (k := 205) (by decide +kernel) (by decide +kernel)
theorem kw_207 : Cond.lays "Schedulary$Text" "Schedulary$Text" "count" "I" ∈ gW := gw_of (k := 207) (by decide +kernel) (by decide +kernel)
theorem kw_209 : Cond.lays "Schedulary$Text" "Schedulary$Text" "at" "I" ∈ gW := gw_of (k := 209) (by decide +kernel) (by decide +kernel)
theorem kw_228 : Cond.fieldLink "Schedulary$Statement" 9 "Schedulary$Statement" "forms" "[I" ∈ gW := gw_of (k := 228) (by decide +kernel) (by decide +kernel)
theorem kw_229 : Cond.fieldLinkNest "Schedulary$Body" 94 "Schedulary$Statement" "forms" "[I" "Schedulary" ∈ gX := gx_of (k := 229) (by decide +kernel) (by decide +kernel)
theorem kw_230 : Cond.fieldLinkNest "Schedulary$Program" 74 "Schedulary$Statement" "forms" "[I" "Schedulary" ∈ gX := gx_of (k := 230) (by decide +kernel) (by decide +kernel)
theorem kw_231 : Cond.fieldLinkNest "Schedulary$Text" 46 "Schedulary$Statement" "forms" "[I" "Schedulary" ∈ gX := gx_of (k := 231) (by decide +kernel) (by decide +kernel)
theorem kw_232 : Cond.fieldLink "Schedulary$Statement" 15 "Schedulary$Statement" "numbers" "[I" ∈ gW := gw_of (k := 232) (by decide +kernel) (by decide +kernel)
theorem kw_233 : Cond.fieldLinkNest "Schedulary$Program" 80 "Schedulary$Statement" "numbers" "[I" "Schedulary" ∈ gX := gx_of (k := 233) (by decide +kernel) (by decide +kernel)
theorem kw_234 : Cond.fieldLinkNest "Schedulary$Text" 71 "Schedulary$Statement" "numbers" "[I" "Schedulary" ∈ gX := gx_of (k := 234) (by decide +kernel) (by decide +kernel)
theorem kw_235 : Cond.fieldLink "Schedulary$Statement" 18 "Schedulary$Statement" "areTurning" "[Z" ∈ gW := gw_of (k := 235) (by decide +kernel) (by decide +kernel)
theorem kw_236 : Cond.fieldLinkNest "Schedulary$Node" 59 "Schedulary$Statement" "areTurning" "[Z" "Schedulary" ∈ gX := gx_of (k := 236) (by decide +kernel) (by decide +kernel)
theorem kw_237 : Cond.fieldLinkNest "Schedulary$Text" 82 "Schedulary$Statement" "areTurning" "[Z" "Schedulary" ∈ gX := gx_of (k := 237) (by decide +kernel) (by decide +kernel)
theorem kw_238 : Cond.fieldLink "Schedulary$Statement" 22 "Schedulary$Statement" "operation" "C" ∈ gW := gw_of (k := 238) (by decide +kernel) (by decide +kernel)
theorem kw_239 : Cond.fieldLinkNest "Schedulary$Text" 64 "Schedulary$Statement" "operation" "C" "Schedulary" ∈ gX := gx_of (k := 239) (by decide +kernel) (by decide +kernel)
theorem kw_240 : Cond.laysFinal "Schedulary$Statement" "Schedulary$Statement" "forms" "[I" ∈ gW := gw_of (k := 240) (by decide +kernel) (by decide +kernel)
theorem kw_242 : Cond.laysFinal "Schedulary$Statement" "Schedulary$Statement" "numbers" "[I" ∈ gW := gw_of (k := 242) (by decide +kernel) (by decide +kernel)
theorem kw_244 : Cond.laysFinal "Schedulary$Statement" "Schedulary$Statement" "areTurning" "[Z" ∈ gW := gw_of (k := 244) (by decide +kernel) (by decide +kernel)
theorem kw_246 : Cond.lays "Schedulary$Statement" "Schedulary$Statement" "operation" "C" ∈ gW := gw_of (k := 246) (by decide +kernel) (by decide +kernel)
theorem kw_251 : Cond.fieldLink "Schedulary$Program" 11 "Schedulary$Program" "statements" "[LSchedulary$Statement;" ∈ gW := gw_of (k := 251) (by decide +kernel) (by decide +kernel)
theorem kw_252 : Cond.fieldLinkNest "Schedulary$Body" 38 "Schedulary$Program" "statements" "[LSchedulary$Statement;" "Schedulary" ∈ gX := gx_of (k := 252) (by decide +kernel) (by decide +kernel)
theorem kw_253 : Cond.fieldLink "Schedulary$Program" 17 "Schedulary$Program" "inputs" "[I" ∈ gW := gw_of (k := 253) (by decide +kernel) (by decide +kernel)
theorem kw_254 : Cond.fieldLinkNest "Schedulary" 181 "Schedulary$Program" "inputs" "[I" "Schedulary" ∈ gX := gx_of (k := 254) (by decide +kernel) (by decide +kernel)
theorem kw_256 : Cond.fieldLinkNest "Schedulary$State" 23 "Schedulary$Program" "told" "[[I" "Schedulary" ∈ gX := gx_of (k := 256) (by decide +kernel) (by decide +kernel)
theorem kw_257 : Cond.fieldLinkNest "Schedulary" 191 "Schedulary$Program" "told" "[[I" "Schedulary" ∈ gX := gx_of (k := 257) (by decide +kernel) (by decide +kernel)
theorem kw_258 : Cond.fieldLink "Schedulary$Program" 27 "Schedulary$Program" "spare" "LSchedulary$Statement;" ∈ gW := gw_of (k := 258) (by decide +kernel) (by decide +kernel)
theorem kw_259 : Cond.fieldLinkNest "Schedulary" 111 "Schedulary$Program" "spare" "LSchedulary$Statement;" "Schedulary" ∈ gX := gx_of (k := 259) (by decide +kernel) (by decide +kernel)
theorem kw_260 : Cond.fieldLinkNest "Schedulary$Body" 37 "Schedulary$Program" "count" "I" "Schedulary" ∈ gX := gx_of (k := 260) (by decide +kernel) (by decide +kernel)
theorem kw_261 : Cond.fieldLink "Schedulary$Program" 47 "Schedulary$Program" "count" "I" ∈ gW := gw_of (k := 261) (by decide +kernel) (by decide +kernel)
theorem kw_262 : Cond.fieldLinkNest "Schedulary" 121 "Schedulary$Program" "count" "I" "Schedulary" ∈ gX := gx_of (k := 262) (by decide +kernel) (by decide +kernel)
theorem kw_263 : Cond.fieldLink "Schedulary$Program" 96 "Schedulary$Program" "inputCount" "I" ∈ gW := gw_of (k := 263) (by decide +kernel) (by decide +kernel)
theorem kw_264 : Cond.fieldLinkNest "Schedulary" 176 "Schedulary$Program" "inputCount" "I" "Schedulary" ∈ gX := gx_of (k := 264) (by decide +kernel) (by decide +kernel)
theorem kw_265 : Cond.fieldLink "Schedulary$Program" 31 "Schedulary$Program" "turns" "I" ∈ gW := gw_of (k := 265) (by decide +kernel) (by decide +kernel)
theorem kw_266 : Cond.fieldLinkNest "Schedulary" 158 "Schedulary$Program" "turns" "I" "Schedulary" ∈ gX := gx_of (k := 266) (by decide +kernel) (by decide +kernel)
theorem kw_267 : Cond.fieldLink "Schedulary$Program" 35 "Schedulary$Program" "bits" "I" ∈ gW := gw_of (k := 267) (by decide +kernel) (by decide +kernel)
theorem kw_268 : Cond.fieldLinkNest "Schedulary" 166 "Schedulary$Program" "bits" "I" "Schedulary" ∈ gX := gx_of (k := 268) (by decide +kernel) (by decide +kernel)
theorem kw_269 : Cond.fieldLink "Schedulary$Program" 38 "Schedulary$Program" "factor" "I" ∈ gW := gw_of (k := 269) (by decide +kernel) (by decide +kernel)
theorem kw_270 : Cond.fieldLinkNest "Schedulary$Body" 32 "Schedulary$Program" "factor" "I" "Schedulary" ∈ gX := gx_of (k := 270) (by decide +kernel) (by decide +kernel)
theorem kw_271 : Cond.fieldLinkNest "Schedulary$Circuit" 77 "Schedulary$Program" "factor" "I" "Schedulary" ∈ gX := gx_of (k := 271) (by decide +kernel) (by decide +kernel)
theorem kw_272 : Cond.fieldLinkNest "Schedulary" 122 "Schedulary$Program" "factor" "I" "Schedulary" ∈ gX := gx_of (k := 272) (by decide +kernel) (by decide +kernel)
theorem kw_273 : Cond.laysFinal "Schedulary$Program" "Schedulary$Program" "statements" "[LSchedulary$Statement;" ∈ gW := gw_of (k := 273) (by decide +kernel) (by decide +kernel)
theorem kw_275 : Cond.laysFinal "Schedulary$Program" "Schedulary$Program" "inputs" "[I" ∈ gW := gw_of (k := 275) (by decide +kernel) (by decide +kernel)
theorem kw_277 : Cond.laysFinal "Schedulary$Program" "Schedulary$Program" "told" "[[I" ∈ gW := gw_of (k := 277) (by decide +kernel) (by decide +kernel)
theorem kw_279 : Cond.lays "Schedulary$Program" "Schedulary$Program" "spare" "LSchedulary$Statement;" ∈ gW := gw_of (k := 279) (by decide +kernel) (by decide +kernel)
theorem kw_281 : Cond.lays "Schedulary$Program" "Schedulary$Program" "count" "I" ∈ gW := gw_of (k := 281) (by decide +kernel) (by decide +kernel)
theorem kw_283 : Cond.lays "Schedulary$Program" "Schedulary$Program" "inputCount" "I" ∈ gW := gw_of (k := 283) (by decide +kernel) (by decide +kernel)
theorem kw_285 : Cond.lays "Schedulary$Program" "Schedulary$Program" "turns" "I" ∈ gW := gw_of (k := 285) (by decide +kernel) (by decide +kernel)
theorem kw_287 : Cond.lays "Schedulary$Program" "Schedulary$Program" "bits" "I" ∈ gW := gw_of (k := 287) (by decide +kernel) (by decide +kernel)
theorem kw_289 : Cond.lays "Schedulary$Program" "Schedulary$Program" "factor" "I" ∈ gW := gw_of (k := 289) (by decide +kernel) (by decide +kernel)
theorem kw_299 : Cond.fieldLink "Schedulary$State" 9 "Schedulary$State" "registers" "[I" ∈ gW := gw_of (k := 299) (by decide +kernel) (by decide +kernel)
theorem kw_300 : Cond.fieldLinkNest "Schedulary$Program" 77 "Schedulary$State" "registers" "[I" "Schedulary" ∈ gX := gx_of (k := 300) (by decide +kernel) (by decide +kernel)
theorem kw_301 : Cond.fieldLinkNest "Schedulary" 235 "Schedulary$State" "registers" "[I" "Schedulary" ∈ gX := gx_of (k := 301) (by decide +kernel) (by decide +kernel)
theorem kw_302 : Cond.fieldLink "Schedulary$State" 17 "Schedulary$State" "memories" "[[I" ∈ gW := gw_of (k := 302) (by decide +kernel) (by decide +kernel)
theorem kw_303 : Cond.fieldLink "Schedulary$State" 20 "Schedulary$State" "outputs" "[I" ∈ gW := gw_of (k := 303) (by decide +kernel) (by decide +kernel)
theorem kw_304 : Cond.fieldLinkNest "Schedulary" 225 "Schedulary$State" "outputs" "[I" "Schedulary" ∈ gX := gx_of (k := 304) (by decide +kernel) (by decide +kernel)
theorem kw_305 : Cond.fieldLink "Schedulary$State" 32 "Schedulary$State" "outputCount" "I" ∈ gW := gw_of (k := 305) (by decide +kernel) (by decide +kernel)
theorem kw_306 : Cond.fieldLinkNest "Schedulary" 220 "Schedulary$State" "outputCount" "I" "Schedulary" ∈ gX := gx_of (k := 306) (by decide +kernel) (by decide +kernel)
theorem kw_307 : Cond.fieldLink "Schedulary$State" 36 "Schedulary$State" "takenCount" "I" ∈ gW := gw_of (k := 307) (by decide +kernel) (by decide +kernel)
theorem kw_308 : Cond.fieldLinkNest "Schedulary$Program" 93 "Schedulary$State" "takenCount" "I" "Schedulary" ∈ gX := gx_of (k := 308) (by decide +kernel) (by decide +kernel)
theorem kw_309 : Cond.fieldLinkNest "Schedulary" 238 "Schedulary$State" "takenCount" "I" "Schedulary" ∈ gX := gx_of (k := 309) (by decide +kernel) (by decide +kernel)
theorem kw_310 : Cond.laysFinal "Schedulary$State" "Schedulary$State" "registers" "[I" ∈ gW := gw_of (k := 310) (by decide +kernel) (by decide +kernel)
theorem kw_312 : Cond.laysFinal "Schedulary$State" "Schedulary$State" "memories" "[[I" ∈ gW := gw_of (k := 312) (by decide +kernel) (by decide +kernel)
theorem kw_314 : Cond.laysFinal "Schedulary$State" "Schedulary$State" "outputs" "[I" ∈ gW := gw_of (k := 314) (by decide +kernel) (by decide +kernel)
theorem kw_316 : Cond.lays "Schedulary$State" "Schedulary$State" "outputCount" "I" ∈ gW := gw_of (k := 316) (by decide +kernel) (by decide +kernel)
theorem kw_318 : Cond.lays "Schedulary$State" "Schedulary$State" "takenCount" "I" ∈ gW := gw_of (k := 318) (by decide +kernel) (by decide +kernel)
theorem kw_334 : Cond.fieldLink "Schedulary$Node" 9 "Schedulary$Node" "source" "LSchedulary$Statement;" ∈ gW := gw_of (k := 334) (by decide +kernel) (by decide +kernel)
theorem kw_335 : Cond.fieldLinkNest "Schedulary$Circuit" 83 "Schedulary$Node" "source" "LSchedulary$Statement;" "Schedulary" ∈ gX := gx_of (k := 335) (by decide +kernel) (by decide +kernel)
theorem kw_336 : Cond.fieldLink "Schedulary$Node" 15 "Schedulary$Node" "statement" "I" ∈ gW := gw_of (k := 336) (by decide +kernel) (by decide +kernel)
theorem kw_337 : Cond.fieldLinkNest "Schedulary" 257 "Schedulary$Node" "statement" "I" "Schedulary" ∈ gX := gx_of (k := 337) (by decide +kernel) (by decide +kernel)
theorem kw_338 : Cond.fieldLink "Schedulary$Node" 19 "Schedulary$Node" "copy" "I" ∈ gW := gw_of (k := 338) (by decide +kernel) (by decide +kernel)
theorem kw_339 : Cond.fieldLinkNest "Schedulary$Circuit" 80 "Schedulary$Node" "copy" "I" "Schedulary" ∈ gX := gx_of (k := 339) (by decide +kernel) (by decide +kernel)
theorem kw_340 : Cond.fieldLink "Schedulary$Node" 22 "Schedulary$Node" "kind" "I" ∈ gW := gw_of (k := 340) (by decide +kernel) (by decide +kernel)
theorem kw_341 : Cond.fieldLinkNest "Schedulary$Body" 116 "Schedulary$Node" "kind" "I" "Schedulary" ∈ gX := gx_of (k := 341) (by decide +kernel) (by decide +kernel)
theorem kw_342 : Cond.fieldLinkNest "Schedulary$Pace" 90 "Schedulary$Node" "kind" "I" "Schedulary" ∈ gX := gx_of (k := 342) (by decide +kernel) (by decide +kernel)
theorem kw_343 : Cond.fieldLinkNest "Schedulary$Steps" 100 "Schedulary$Node" "kind" "I" "Schedulary" ∈ gX := gx_of (k := 343) (by decide +kernel) (by decide +kernel)
theorem kw_344 : Cond.fieldLinkNest "Schedulary$Graph" 100 "Schedulary$Node" "kind" "I" "Schedulary" ∈ gX := gx_of (k := 344) (by decide +kernel) (by decide +kernel)
theorem kw_345 : Cond.fieldLinkNest "Schedulary" 248 "Schedulary$Node" "kind" "I" "Schedulary" ∈ gX := gx_of (k := 345) (by decide +kernel) (by decide +kernel)
theorem kw_346 : Cond.fieldLink "Schedulary$Node" 25 "Schedulary$Node" "part" "I" ∈ gW := gw_of (k := 346) (by decide +kernel) (by decide +kernel)
theorem kw_347 : Cond.fieldLinkNest "Schedulary$Body" 97 "Schedulary$Node" "part" "I" "Schedulary" ∈ gX := gx_of (k := 347) (by decide +kernel) (by decide +kernel)
theorem kw_348 : Cond.fieldLinkNest "Schedulary$Circuit" 98 "Schedulary$Node" "part" "I" "Schedulary" ∈ gX := gx_of (k := 348) (by decide +kernel) (by decide +kernel)
theorem kw_349 : Cond.fieldLink "Schedulary$Node" 28 "Schedulary$Node" "firstGiver" "I" ∈ gW := gw_of (k := 349) (by decide +kernel) (by decide +kernel)
theorem kw_350 : Cond.fieldLinkNest "Schedulary$Body" 71 "Schedulary$Node" "firstGiver" "I" "Schedulary" ∈ gX := gx_of (k := 350) (by decide +kernel) (by decide +kernel)
theorem kw_351 : Cond.fieldLinkNest "Schedulary$Graph" 62 "Schedulary$Node" "firstGiver" "I" "Schedulary" ∈ gX := gx_of (k := 351) (by decide +kernel) (by decide +kernel)
theorem kw_352 : Cond.fieldLinkNest "Schedulary$Circuit" 95 "Schedulary$Node" "firstGiver" "I" "Schedulary" ∈ gX := gx_of (k := 352) (by decide +kernel) (by decide +kernel)
theorem kw_353 : Cond.fieldLink "Schedulary$Node" 31 "Schedulary$Node" "secondGiver" "I" ∈ gW := gw_of (k := 353) (by decide +kernel) (by decide +kernel)
theorem kw_354 : Cond.fieldLinkNest "Schedulary$Body" 74 "Schedulary$Node" "secondGiver" "I" "Schedulary" ∈ gX := gx_of (k := 354) (by decide +kernel) (by decide +kernel)
theorem kw_355 : Cond.fieldLinkNest "Schedulary$Graph" 70 "Schedulary$Node" "secondGiver" "I" "Schedulary" ∈ gX := gx_of (k := 355) (by decide +kernel) (by decide +kernel)
theorem kw_356 : Cond.fieldLinkNest "Schedulary$Circuit" 108 "Schedulary$Node" "secondGiver" "I" "Schedulary" ∈ gX := gx_of (k := 356) (by decide +kernel) (by decide +kernel)
theorem kw_357 : Cond.fieldLink "Schedulary$Node" 34 "Schedulary$Node" "uses" "I" ∈ gW := gw_of (k := 357) (by decide +kernel) (by decide +kernel)
theorem kw_358 : Cond.fieldLinkNest "Schedulary$Body" 80 "Schedulary$Node" "uses" "I" "Schedulary" ∈ gX := gx_of (k := 358) (by decide +kernel) (by decide +kernel)
theorem kw_359 : Cond.fieldLink "Schedulary$Node" 37 "Schedulary$Node" "makes" "I" ∈ gW := gw_of (k := 359) (by decide +kernel) (by decide +kernel)
theorem kw_360 : Cond.fieldLinkNest "Schedulary$Body" 87 "Schedulary$Node" "makes" "I" "Schedulary" ∈ gX := gx_of (k := 360) (by decide +kernel) (by decide +kernel)
theorem kw_361 : Cond.fieldLinkNest "Schedulary$Circuit" 74 "Schedulary$Node" "makes" "I" "Schedulary" ∈ gX := gx_of (k := 361) (by decide +kernel) (by decide +kernel)
theorem kw_362 : Cond.fieldLinkNest "Schedulary$Graph" 88 "Schedulary$Node" "makes" "I" "Schedulary" ∈ gX := gx_of (k := 362) (by decide +kernel) (by decide +kernel)
theorem kw_363 : Cond.fieldLinkNest "Schedulary$Steps" 108 "Schedulary$Node" "makes" "I" "Schedulary" ∈ gX := gx_of (k := 363) (by decide +kernel) (by decide +kernel)
theorem kw_364 : Cond.fieldLink "Schedulary$Node" 40 "Schedulary$Node" "firstPlace" "I" ∈ gW := gw_of (k := 364) (by decide +kernel) (by decide +kernel)
theorem kw_365 : Cond.fieldLinkNest "Schedulary$Graph" 115 "Schedulary$Node" "firstPlace" "I" "Schedulary" ∈ gX := gx_of (k := 365) (by decide +kernel) (by decide +kernel)
theorem kw_366 : Cond.fieldLink "Schedulary$Node" 43 "Schedulary$Node" "isTurning" "Z" ∈ gW := gw_of (k := 366) (by decide +kernel) (by decide +kernel)
theorem kw_367 : Cond.fieldLinkNest "Schedulary$Graph" 118 "Schedulary$Node" "isTurning" "Z" "Schedulary" ∈ gX := gx_of (k := 367) (by decide +kernel) (by decide +kernel)
theorem kw_368 : Cond.fieldLink "Schedulary$Node" 47 "Schedulary$Node" "isOperating" "Z" ∈ gW := gw_of (k := 368) (by decide +kernel) (by decide +kernel)
theorem kw_369 : Cond.fieldLinkNest "Schedulary$Body" 67 "Schedulary$Node" "isOperating" "Z" "Schedulary" ∈ gX := gx_of (k := 369) (by decide +kernel) (by decide +kernel)
theorem kw_370 : Cond.fieldLinkNest "Schedulary$Circuit" 105 "Schedulary$Node" "isOperating" "Z" "Schedulary" ∈ gX := gx_of (k := 370) (by decide +kernel) (by decide +kernel)
theorem kw_371 : Cond.fieldLink "Schedulary$Node" 50 "Schedulary$Node" "isWriting" "Z" ∈ gW := gw_of (k := 371) (by decide +kernel) (by decide +kernel)
theorem kw_372 : Cond.fieldLinkNest "Schedulary$Circuit" 68 "Schedulary$Node" "isWriting" "Z" "Schedulary" ∈ gX := gx_of (k := 372) (by decide +kernel) (by decide +kernel)
theorem kw_373 : Cond.fieldLinkNest "Schedulary$Body" 104 "Schedulary$Node" "isWriting" "Z" "Schedulary" ∈ gX := gx_of (k := 373) (by decide +kernel) (by decide +kernel)
theorem kw_374 : Cond.fieldLinkNest "Schedulary$Graph" 107 "Schedulary$Node" "isWriting" "Z" "Schedulary" ∈ gX := gx_of (k := 374) (by decide +kernel) (by decide +kernel)
theorem kw_375 : Cond.lays "Schedulary$Node" "Schedulary$Node" "source" "LSchedulary$Statement;" ∈ gW := gw_of (k := 375) (by decide +kernel) (by decide +kernel)
theorem kw_377 : Cond.lays "Schedulary$Node" "Schedulary$Node" "statement" "I" ∈ gW := gw_of (k := 377) (by decide +kernel) (by decide +kernel)
theorem kw_379 : Cond.lays "Schedulary$Node" "Schedulary$Node" "copy" "I" ∈ gW := gw_of (k := 379) (by decide +kernel) (by decide +kernel)
theorem kw_381 : Cond.lays "Schedulary$Node" "Schedulary$Node" "kind" "I" ∈ gW := gw_of (k := 381) (by decide +kernel) (by decide +kernel)
theorem kw_383 : Cond.lays "Schedulary$Node" "Schedulary$Node" "part" "I" ∈ gW := gw_of (k := 383) (by decide +kernel) (by decide +kernel)
theorem kw_385 : Cond.lays "Schedulary$Node" "Schedulary$Node" "firstGiver" "I" ∈ gW := gw_of (k := 385) (by decide +kernel) (by decide +kernel)
theorem kw_387 : Cond.lays "Schedulary$Node" "Schedulary$Node" "secondGiver" "I" ∈ gW := gw_of (k := 387) (by decide +kernel) (by decide +kernel)
theorem kw_389 : Cond.lays "Schedulary$Node" "Schedulary$Node" "uses" "I" ∈ gW := gw_of (k := 389) (by decide +kernel) (by decide +kernel)
theorem kw_391 : Cond.lays "Schedulary$Node" "Schedulary$Node" "makes" "I" ∈ gW := gw_of (k := 391) (by decide +kernel) (by decide +kernel)
theorem kw_393 : Cond.lays "Schedulary$Node" "Schedulary$Node" "firstPlace" "I" ∈ gW := gw_of (k := 393) (by decide +kernel) (by decide +kernel)
theorem kw_395 : Cond.lays "Schedulary$Node" "Schedulary$Node" "isTurning" "Z" ∈ gW := gw_of (k := 395) (by decide +kernel) (by decide +kernel)
theorem kw_397 : Cond.lays "Schedulary$Node" "Schedulary$Node" "isOperating" "Z" ∈ gW := gw_of (k := 397) (by decide +kernel) (by decide +kernel)
theorem kw_399 : Cond.lays "Schedulary$Node" "Schedulary$Node" "isWriting" "Z" ∈ gW := gw_of (k := 399) (by decide +kernel) (by decide +kernel)
theorem kw_402 : Cond.fieldLink "Schedulary$Body" 11 "Schedulary$Body" "nodes" "[LSchedulary$Node;" ∈ gW := gw_of (k := 402) (by decide +kernel) (by decide +kernel)
theorem kw_403 : Cond.fieldLinkNest "Schedulary$Circuit" 51 "Schedulary$Body" "nodes" "[LSchedulary$Node;" "Schedulary" ∈ gX := gx_of (k := 403) (by decide +kernel) (by decide +kernel)
theorem kw_404 : Cond.fieldLinkNest "Schedulary$Graph" 58 "Schedulary$Body" "nodes" "[LSchedulary$Node;" "Schedulary" ∈ gX := gx_of (k := 404) (by decide +kernel) (by decide +kernel)
theorem kw_405 : Cond.fieldLinkNest "Schedulary$Pace" 86 "Schedulary$Body" "nodes" "[LSchedulary$Node;" "Schedulary" ∈ gX := gx_of (k := 405) (by decide +kernel) (by decide +kernel)
theorem kw_406 : Cond.fieldLinkNest "Schedulary$Steps" 96 "Schedulary$Body" "nodes" "[LSchedulary$Node;" "Schedulary" ∈ gX := gx_of (k := 406) (by decide +kernel) (by decide +kernel)
theorem kw_407 : Cond.fieldLinkNest "Schedulary" 244 "Schedulary$Body" "nodes" "[LSchedulary$Node;" "Schedulary" ∈ gX := gx_of (k := 407) (by decide +kernel) (by decide +kernel)
theorem kw_408 : Cond.fieldLink "Schedulary$Body" 17 "Schedulary$Body" "units" "[I" ∈ gW := gw_of (k := 408) (by decide +kernel) (by decide +kernel)
theorem kw_409 : Cond.fieldLinkNest "Schedulary$Pace" 95 "Schedulary$Body" "units" "[I" "Schedulary" ∈ gX := gx_of (k := 409) (by decide +kernel) (by decide +kernel)
theorem kw_410 : Cond.fieldLinkNest "Schedulary$Steps" 105 "Schedulary$Body" "units" "[I" "Schedulary" ∈ gX := gx_of (k := 410) (by decide +kernel) (by decide +kernel)
theorem kw_411 : Cond.fieldLinkNest "Schedulary" 203 "Schedulary$Body" "units" "[I" "Schedulary" ∈ gX := gx_of (k := 411) (by decide +kernel) (by decide +kernel)
theorem kw_412 : Cond.fieldLink "Schedulary$Body" 21 "Schedulary$Body" "cycles" "[I" ∈ gW := gw_of (k := 412) (by decide +kernel) (by decide +kernel)
theorem kw_413 : Cond.fieldLinkNest "Schedulary" 214 "Schedulary$Body" "cycles" "[I" "Schedulary" ∈ gX := gx_of (k := 413) (by decide +kernel) (by decide +kernel)
theorem kw_414 : Cond.fieldLink "Schedulary$Body" 24 "Schedulary$Body" "ofKind" "[I" ∈ gW := gw_of (k := 414) (by decide +kernel) (by decide +kernel)
theorem kw_416 : Cond.fieldLink "Schedulary$Body" 28 "Schedulary$Body" "count" "I" ∈ gW := gw_of (k := 416) (by decide +kernel) (by decide +kernel)
theorem kw_417 : Cond.fieldLinkNest "Schedulary$Circuit" 38 "Schedulary$Body" "count" "I" "Schedulary" ∈ gX := gx_of (k := 417) (by decide +kernel) (by decide +kernel)
theorem kw_418 : Cond.fieldLinkNest "Schedulary$Steps" 43 "Schedulary$Body" "count" "I" "Schedulary" ∈ gX := gx_of (k := 418) (by decide +kernel) (by decide +kernel)
theorem kw_419 : Cond.fieldLinkNest "Schedulary$Pace" 61 "Schedulary$Body" "count" "I" "Schedulary" ∈ gX := gx_of (k := 419) (by decide +kernel) (by decide +kernel)
theorem kw_420 : Cond.fieldLinkNest "Schedulary$Graph" 55 "Schedulary$Body" "count" "I" "Schedulary" ∈ gX := gx_of (k := 420) (by decide +kernel) (by decide +kernel)
theorem kw_421 : Cond.fieldLinkNest "Schedulary" 142 "Schedulary$Body" "count" "I" "Schedulary" ∈ gX := gx_of (k := 421) (by decide +kernel) (by decide +kernel)
theorem kw_422 : Cond.laysFinal "Schedulary$Body" "Schedulary$Body" "nodes" "[LSchedulary$Node;" ∈ gW := gw_of (k := 422) (by decide +kernel) (by decide +kernel)
theorem kw_424 : Cond.laysFinal "Schedulary$Body" "Schedulary$Body" "units" "[I" ∈ gW := gw_of (k := 424) (by decide +kernel) (by decide +kernel)
theorem kw_426 : Cond.laysFinal "Schedulary$Body" "Schedulary$Body" "cycles" "[I" ∈ gW := gw_of (k := 426) (by decide +kernel) (by decide +kernel)
theorem kw_428 : Cond.laysFinal "Schedulary$Body" "Schedulary$Body" "ofKind" "[I" ∈ gW := gw_of (k := 428) (by decide +kernel) (by decide +kernel)
theorem kw_430 : Cond.lays "Schedulary$Body" "Schedulary$Body" "count" "I" ∈ gW := gw_of (k := 430) (by decide +kernel) (by decide +kernel)
theorem kw_440 : Cond.fieldLink "Schedulary$Graph" 11 "Schedulary$Graph" "tos" "[[I" ∈ gW := gw_of (k := 440) (by decide +kernel) (by decide +kernel)
theorem kw_441 : Cond.fieldLinkNest "Schedulary$Steps" 58 "Schedulary$Graph" "tos" "[[I" "Schedulary" ∈ gX := gx_of (k := 441) (by decide +kernel) (by decide +kernel)
theorem kw_442 : Cond.fieldLinkNest "Schedulary$Pace" 73 "Schedulary$Graph" "tos" "[[I" "Schedulary" ∈ gX := gx_of (k := 442) (by decide +kernel) (by decide +kernel)
theorem kw_443 : Cond.fieldLink "Schedulary$Graph" 16 "Schedulary$Graph" "distances" "[[I" ∈ gW := gw_of (k := 443) (by decide +kernel) (by decide +kernel)
theorem kw_444 : Cond.fieldLinkNest "Schedulary$Steps" 54 "Schedulary$Graph" "distances" "[[I" "Schedulary" ∈ gX := gx_of (k := 444) (by decide +kernel) (by decide +kernel)
theorem kw_445 : Cond.fieldLinkNest "Schedulary$Pace" 79 "Schedulary$Graph" "distances" "[[I" "Schedulary" ∈ gX := gx_of (k := 445) (by decide +kernel) (by decide +kernel)
theorem kw_446 : Cond.fieldLink "Schedulary$Graph" 19 "Schedulary$Graph" "weights" "[[I" ∈ gW := gw_of (k := 446) (by decide +kernel) (by decide +kernel)
theorem kw_447 : Cond.fieldLinkNest "Schedulary$Steps" 61 "Schedulary$Graph" "weights" "[[I" "Schedulary" ∈ gX := gx_of (k := 447) (by decide +kernel) (by decide +kernel)
theorem kw_448 : Cond.fieldLinkNest "Schedulary$Pace" 76 "Schedulary$Graph" "weights" "[[I" "Schedulary" ∈ gX := gx_of (k := 448) (by decide +kernel) (by decide +kernel)
theorem kw_449 : Cond.fieldLinkNest "Schedulary" 270 "Schedulary$Graph" "weights" "[[I" "Schedulary" ∈ gX := gx_of (k := 449) (by decide +kernel) (by decide +kernel)
theorem kw_450 : Cond.fieldLink "Schedulary$Graph" 22 "Schedulary$Graph" "sizes" "[I" ∈ gW := gw_of (k := 450) (by decide +kernel) (by decide +kernel)
theorem kw_451 : Cond.fieldLinkNest "Schedulary$Steps" 49 "Schedulary$Graph" "sizes" "[I" "Schedulary" ∈ gX := gx_of (k := 451) (by decide +kernel) (by decide +kernel)
theorem kw_452 : Cond.fieldLinkNest "Schedulary$Pace" 68 "Schedulary$Graph" "sizes" "[I" "Schedulary" ∈ gX := gx_of (k := 452) (by decide +kernel) (by decide +kernel)
theorem kw_453 : Cond.fieldLink "Schedulary$Graph" 26 "Schedulary$Graph" "count" "I" ∈ gW := gw_of (k := 453) (by decide +kernel) (by decide +kernel)
theorem kw_454 : Cond.fieldLinkNest "Schedulary" 260 "Schedulary$Graph" "count" "I" "Schedulary" ∈ gX := gx_of (k := 454) (by decide +kernel) (by decide +kernel)
theorem kw_455 : Cond.laysFinal "Schedulary$Graph" "Schedulary$Graph" "tos" "[[I" ∈ gW := gw_of (k := 455) (by decide +kernel) (by decide +kernel)
theorem kw_457 : Cond.laysFinal "Schedulary$Graph" "Schedulary$Graph" "distances" "[[I" ∈ gW := gw_of (k := 457) (by decide +kernel) (by decide +kernel)
theorem kw_459 : Cond.laysFinal "Schedulary$Graph" "Schedulary$Graph" "weights" "[[I" ∈ gW := gw_of (k := 459) (by decide +kernel) (by decide +kernel)
theorem kw_461 : Cond.laysFinal "Schedulary$Graph" "Schedulary$Graph" "sizes" "[I" ∈ gW := gw_of (k := 461) (by decide +kernel) (by decide +kernel)
theorem kw_463 : Cond.lays "Schedulary$Graph" "Schedulary$Graph" "count" "I" ∈ gW := gw_of (k := 463) (by decide +kernel) (by decide +kernel)
theorem kw_472 : Cond.fieldLink "Schedulary$Steps" 9 "Schedulary$Steps" "soonest" "[I" ∈ gW := gw_of (k := 472) (by decide +kernel) (by decide +kernel)
theorem kw_473 : Cond.fieldLinkNest "Schedulary" 273 "Schedulary$Steps" "soonest" "[I" "Schedulary" ∈ gX := gx_of (k := 473) (by decide +kernel) (by decide +kernel)
theorem kw_474 : Cond.fieldLink "Schedulary$Steps" 15 "Schedulary$Steps" "latest" "[I" ∈ gW := gw_of (k := 474) (by decide +kernel) (by decide +kernel)
theorem kw_475 : Cond.fieldLinkNest "Schedulary" 276 "Schedulary$Steps" "latest" "[I" "Schedulary" ∈ gX := gx_of (k := 475) (by decide +kernel) (by decide +kernel)
theorem kw_476 : Cond.fieldLink "Schedulary$Steps" 18 "Schedulary$Steps" "byLists" "[I" ∈ gW := gw_of (k := 476) (by decide +kernel) (by decide +kernel)
theorem kw_477 : Cond.fieldLinkNest "Schedulary" 279 "Schedulary$Steps" "byLists" "[I" "Schedulary" ∈ gX := gx_of (k := 477) (by decide +kernel) (by decide +kernel)
theorem kw_478 : Cond.fieldLink "Schedulary$Steps" 21 "Schedulary$Steps" "earliest" "[I" ∈ gW := gw_of (k := 478) (by decide +kernel) (by decide +kernel)
theorem kw_479 : Cond.fieldLink "Schedulary$Steps" 24 "Schedulary$Steps" "missing" "[I" ∈ gW := gw_of (k := 479) (by decide +kernel) (by decide +kernel)
theorem kw_480 : Cond.fieldLink "Schedulary$Steps" 27 "Schedulary$Steps" "begun" "[I" ∈ gW := gw_of (k := 480) (by decide +kernel) (by decide +kernel)
theorem kw_481 : Cond.fieldLink "Schedulary$Steps" 30 "Schedulary$Steps" "waits" "[I" ∈ gW := gw_of (k := 481) (by decide +kernel) (by decide +kernel)
theorem kw_482 : Cond.laysFinal "Schedulary$Steps" "Schedulary$Steps" "soonest" "[I" ∈ gW := gw_of (k := 482) (by decide +kernel) (by decide +kernel)
theorem kw_484 : Cond.laysFinal "Schedulary$Steps" "Schedulary$Steps" "latest" "[I" ∈ gW := gw_of (k := 484) (by decide +kernel) (by decide +kernel)
theorem kw_486 : Cond.laysFinal "Schedulary$Steps" "Schedulary$Steps" "byLists" "[I" ∈ gW := gw_of (k := 486) (by decide +kernel) (by decide +kernel)
theorem kw_488 : Cond.laysFinal "Schedulary$Steps" "Schedulary$Steps" "earliest" "[I" ∈ gW := gw_of (k := 488) (by decide +kernel) (by decide +kernel)
theorem kw_490 : Cond.laysFinal "Schedulary$Steps" "Schedulary$Steps" "missing" "[I" ∈ gW := gw_of (k := 490) (by decide +kernel) (by decide +kernel)
theorem kw_492 : Cond.laysFinal "Schedulary$Steps" "Schedulary$Steps" "begun" "[I" ∈ gW := gw_of (k := 492) (by decide +kernel) (by decide +kernel)
theorem kw_494 : Cond.laysFinal "Schedulary$Steps" "Schedulary$Steps" "waits" "[I" ∈ gW := gw_of (k := 494) (by decide +kernel) (by decide +kernel)
theorem kw_504 : Cond.fieldLink "Schedulary$Pace" 9 "Schedulary$Pace" "places" "[I" ∈ gW := gw_of (k := 504) (by decide +kernel) (by decide +kernel)
theorem kw_505 : Cond.fieldLinkNest "Schedulary$Circuit" 44 "Schedulary$Pace" "places" "[I" "Schedulary" ∈ gX := gx_of (k := 505) (by decide +kernel) (by decide +kernel)
theorem kw_506 : Cond.fieldLinkNest "Schedulary" 307 "Schedulary$Pace" "places" "[I" "Schedulary" ∈ gX := gx_of (k := 506) (by decide +kernel) (by decide +kernel)
theorem kw_507 : Cond.fieldLink "Schedulary$Pace" 15 "Schedulary$Pace" "leasts" "[I" ∈ gW := gw_of (k := 507) (by decide +kernel) (by decide +kernel)
theorem kw_508 : Cond.fieldLink "Schedulary$Pace" 20 "Schedulary$Pace" "begun" "[[I" ∈ gW := gw_of (k := 508) (by decide +kernel) (by decide +kernel)
theorem kw_509 : Cond.fieldLink "Schedulary$Pace" 23 "Schedulary$Pace" "leastByRings" "I" ∈ gW := gw_of (k := 509) (by decide +kernel) (by decide +kernel)
theorem kw_510 : Cond.fieldLinkNest "Schedulary" 294 "Schedulary$Pace" "leastByRings" "I" "Schedulary" ∈ gX := gx_of (k := 510) (by decide +kernel) (by decide +kernel)
theorem kw_511 : Cond.fieldLink "Schedulary$Pace" 27 "Schedulary$Pace" "leastByUnits" "I" ∈ gW := gw_of (k := 511) (by decide +kernel) (by decide +kernel)
theorem kw_512 : Cond.fieldLinkNest "Schedulary" 297 "Schedulary$Pace" "leastByUnits" "I" "Schedulary" ∈ gX := gx_of (k := 512) (by decide +kernel) (by decide +kernel)
theorem kw_513 : Cond.fieldLink "Schedulary$Pace" 30 "Schedulary$Pace" "interval" "I" ∈ gW := gw_of (k := 513) (by decide +kernel) (by decide +kernel)
theorem kw_514 : Cond.fieldLinkNest "Schedulary$Circuit" 55 "Schedulary$Pace" "interval" "I" "Schedulary" ∈ gX := gx_of (k := 514) (by decide +kernel) (by decide +kernel)
theorem kw_515 : Cond.fieldLinkNest "Schedulary" 300 "Schedulary$Pace" "interval" "I" "Schedulary" ∈ gX := gx_of (k := 515) (by decide +kernel) (by decide +kernel)
theorem kw_516 : Cond.laysFinal "Schedulary$Pace" "Schedulary$Pace" "places" "[I" ∈ gW := gw_of (k := 516) (by decide +kernel) (by decide +kernel)
theorem kw_518 : Cond.laysFinal "Schedulary$Pace" "Schedulary$Pace" "leasts" "[I" ∈ gW := gw_of (k := 518) (by decide +kernel) (by decide +kernel)
theorem kw_520 : Cond.laysFinal "Schedulary$Pace" "Schedulary$Pace" "begun" "[[I" ∈ gW := gw_of (k := 520) (by decide +kernel) (by decide +kernel)
theorem kw_522 : Cond.lays "Schedulary$Pace" "Schedulary$Pace" "leastByRings" "I" ∈ gW := gw_of (k := 522) (by decide +kernel) (by decide +kernel)
theorem kw_524 : Cond.lays "Schedulary$Pace" "Schedulary$Pace" "leastByUnits" "I" ∈ gW := gw_of (k := 524) (by decide +kernel) (by decide +kernel)
theorem kw_526 : Cond.lays "Schedulary$Pace" "Schedulary$Pace" "interval" "I" ∈ gW := gw_of (k := 526) (by decide +kernel) (by decide +kernel)
theorem kw_537 : Cond.fieldLink "Schedulary$Circuit" 12 "Schedulary$Circuit" "state" "LSchedulary$State;" ∈ gW := gw_of (k := 537) (by decide +kernel) (by decide +kernel)
theorem kw_538 : Cond.fieldLinkNest "Schedulary" 319 "Schedulary$Circuit" "state" "LSchedulary$State;" "Schedulary" ∈ gX := gx_of (k := 538) (by decide +kernel) (by decide +kernel)
theorem kw_539 : Cond.fieldLink "Schedulary$Circuit" 18 "Schedulary$Circuit" "values" "[I" ∈ gW := gw_of (k := 539) (by decide +kernel) (by decide +kernel)
theorem kw_540 : Cond.laysFinal "Schedulary$Circuit" "Schedulary$Circuit" "state" "LSchedulary$State;" ∈ gW := gw_of (k := 540) (by decide +kernel) (by decide +kernel)
theorem kw_542 : Cond.laysFinal "Schedulary$Circuit" "Schedulary$Circuit" "values" "[I" ∈ gW := gw_of (k := 542) (by decide +kernel) (by decide +kernel)
theorem kw_552 : Cond.fieldLink "Schedulary$Processes" 11 "Schedulary$Processes" "channels" "[[I" ∈ gW := gw_of (k := 552) (by decide +kernel) (by decide +kernel)
theorem kw_553 : Cond.fieldLink "Schedulary$Processes" 16 "Schedulary$Processes" "changes" "[[I" ∈ gW := gw_of (k := 553) (by decide +kernel) (by decide +kernel)
theorem kw_554 : Cond.fieldLink "Schedulary$Processes" 19 "Schedulary$Processes" "counts" "[I" ∈ gW := gw_of (k := 554) (by decide +kernel) (by decide +kernel)
theorem kw_555 : Cond.fieldLinkNest "Schedulary" 328 "Schedulary$Processes" "counts" "[I" "Schedulary" ∈ gX := gx_of (k := 555) (by decide +kernel) (by decide +kernel)
theorem kw_556 : Cond.fieldLink "Schedulary$Processes" 23 "Schedulary$Processes" "depths" "[I" ∈ gW := gw_of (k := 556) (by decide +kernel) (by decide +kernel)
theorem kw_557 : Cond.fieldLinkNest "Schedulary" 338 "Schedulary$Processes" "depths" "[I" "Schedulary" ∈ gX := gx_of (k := 557) (by decide +kernel) (by decide +kernel)
theorem kw_558 : Cond.fieldLink "Schedulary$Processes" 26 "Schedulary$Processes" "limits" "[I" ∈ gW := gw_of (k := 558) (by decide +kernel) (by decide +kernel)
theorem kw_559 : Cond.fieldLink "Schedulary$Processes" 29 "Schedulary$Processes" "held" "[I" ∈ gW := gw_of (k := 559) (by decide +kernel) (by decide +kernel)
theorem kw_560 : Cond.fieldLink "Schedulary$Processes" 32 "Schedulary$Processes" "dones" "[I" ∈ gW := gw_of (k := 560) (by decide +kernel) (by decide +kernel)
theorem kw_561 : Cond.laysFinal "Schedulary$Processes" "Schedulary$Processes" "channels" "[[I" ∈ gW := gw_of (k := 561) (by decide +kernel) (by decide +kernel)
theorem kw_563 : Cond.laysFinal "Schedulary$Processes" "Schedulary$Processes" "changes" "[[I" ∈ gW := gw_of (k := 563) (by decide +kernel) (by decide +kernel)
theorem kw_565 : Cond.laysFinal "Schedulary$Processes" "Schedulary$Processes" "counts" "[I" ∈ gW := gw_of (k := 565) (by decide +kernel) (by decide +kernel)
theorem kw_567 : Cond.laysFinal "Schedulary$Processes" "Schedulary$Processes" "depths" "[I" ∈ gW := gw_of (k := 567) (by decide +kernel) (by decide +kernel)
theorem kw_569 : Cond.laysFinal "Schedulary$Processes" "Schedulary$Processes" "limits" "[I" ∈ gW := gw_of (k := 569) (by decide +kernel) (by decide +kernel)
theorem kw_571 : Cond.laysFinal "Schedulary$Processes" "Schedulary$Processes" "held" "[I" ∈ gW := gw_of (k := 571) (by decide +kernel) (by decide +kernel)
theorem kw_573 : Cond.laysFinal "Schedulary$Processes" "Schedulary$Processes" "dones" "[I" ∈ gW := gw_of (k := 573) (by decide +kernel) (by decide +kernel)
theorem kw_576 : Cond.fieldLink "Schedulary" 12 "Schedulary" "text" "LSchedulary$Text;" ∈ gW := gw_of (k := 576) (by decide +kernel) (by decide +kernel)
theorem kw_577 : Cond.fieldLink "Schedulary" 19 "Schedulary" "program" "LSchedulary$Program;" ∈ gW := gw_of (k := 577) (by decide +kernel) (by decide +kernel)
theorem kw_578 : Cond.fieldLink "Schedulary" 26 "Schedulary" "result" "LSchedulary$State;" ∈ gW := gw_of (k := 578) (by decide +kernel) (by decide +kernel)
theorem kw_579 : Cond.fieldLink "Schedulary" 33 "Schedulary" "body" "LSchedulary$Body;" ∈ gW := gw_of (k := 579) (by decide +kernel) (by decide +kernel)
theorem kw_580 : Cond.fieldLink "Schedulary" 40 "Schedulary" "graph" "LSchedulary$Graph;" ∈ gW := gw_of (k := 580) (by decide +kernel) (by decide +kernel)
theorem kw_581 : Cond.fieldLink "Schedulary" 47 "Schedulary" "steps" "LSchedulary$Steps;" ∈ gW := gw_of (k := 581) (by decide +kernel) (by decide +kernel)
theorem kw_582 : Cond.fieldLink "Schedulary" 54 "Schedulary" "pace" "LSchedulary$Pace;" ∈ gW := gw_of (k := 582) (by decide +kernel) (by decide +kernel)
theorem kw_583 : Cond.fieldLink "Schedulary" 61 "Schedulary" "circuit" "LSchedulary$Circuit;" ∈ gW := gw_of (k := 583) (by decide +kernel) (by decide +kernel)
theorem kw_584 : Cond.fieldLink "Schedulary" 68 "Schedulary" "processes" "LSchedulary$Processes;" ∈ gW := gw_of (k := 584) (by decide +kernel) (by decide +kernel)
theorem kw_585 : Cond.fieldLink "Schedulary" 72 "Schedulary" "made" "I" ∈ gW := gw_of (k := 585) (by decide +kernel) (by decide +kernel)
theorem kw_586 : Cond.fieldLink "Schedulary" 76 "Schedulary" "isCarriedOut" "Z" ∈ gW := gw_of (k := 586) (by decide +kernel) (by decide +kernel)
theorem kw_587 : Cond.laysFinal "Schedulary" "Schedulary" "text" "LSchedulary$Text;" ∈ gW := gw_of (k := 587) (by decide +kernel) (by decide +kernel)
theorem kw_589 : Cond.laysFinal "Schedulary" "Schedulary" "program" "LSchedulary$Program;" ∈ gW := gw_of (k := 589) (by decide +kernel) (by decide +kernel)
theorem kw_591 : Cond.laysFinal "Schedulary" "Schedulary" "result" "LSchedulary$State;" ∈ gW := gw_of (k := 591) (by decide +kernel) (by decide +kernel)
theorem kw_593 : Cond.laysFinal "Schedulary" "Schedulary" "body" "LSchedulary$Body;" ∈ gW := gw_of (k := 593) (by decide +kernel) (by decide +kernel)
theorem kw_595 : Cond.laysFinal "Schedulary" "Schedulary" "graph" "LSchedulary$Graph;" ∈ gW := gw_of (k := 595) (by decide +kernel) (by decide +kernel)
theorem kw_597 : Cond.laysFinal "Schedulary" "Schedulary" "steps" "LSchedulary$Steps;" ∈ gW := gw_of (k := 597) (by decide +kernel) (by decide +kernel)
theorem kw_599 : Cond.laysFinal "Schedulary" "Schedulary" "pace" "LSchedulary$Pace;" ∈ gW := gw_of (k := 599) (by decide +kernel) (by decide +kernel)
theorem kw_601 : Cond.laysFinal "Schedulary" "Schedulary" "circuit" "LSchedulary$Circuit;" ∈ gW := gw_of (k := 601) (by decide +kernel) (by decide +kernel)
theorem kw_603 : Cond.laysFinal "Schedulary" "Schedulary" "processes" "LSchedulary$Processes;" ∈ gW := gw_of (k := 603) (by decide +kernel) (by decide +kernel)
theorem kw_605 : Cond.lays "Schedulary" "Schedulary" "made" "I" ∈ gW := gw_of (k := 605) (by decide +kernel) (by decide +kernel)
theorem kw_607 : Cond.lays "Schedulary" "Schedulary" "isCarriedOut" "Z" ∈ gW := gw_of (k := 607) (by decide +kernel) (by decide +kernel)
theorem kw_613 : Cond.code yX11_clear cX11_clear 1 (some .int) ∈ gW := gw_of (k := 613) (by decide +kernel) (by decide +kernel)
theorem kw_614 : Cond.methodLinkNest "Schedulary" 107 yX10_empty "Schedulary" ∈ gX := gx_of (k := 614) (by decide +kernel) (by decide +kernel)
theorem kw_616 : Cond.instanceMethod yX10_empty ∈ gW := gw_of (k := 616) (by decide +kernel) (by decide +kernel)
theorem kw_617 : Cond.code yX10_empty cX10_empty 2 (some .int) ∈ gW := gw_of (k := 617) (by decide +kernel) (by decide +kernel)
theorem kw_621 : Cond.code yX11_fault cX11_fault 1 (some .int) ∈ gW := gw_of (k := 621) (by decide +kernel) (by decide +kernel)
theorem kw_622 : Cond.methodLinkNest "Schedulary" 115 yX10_readInto "Schedulary" ∈ gX := gx_of (k := 622) (by decide +kernel) (by decide +kernel)
theorem kw_624 : Cond.instanceMethod yX10_readInto ∈ gW := gw_of (k := 624) (by decide +kernel) (by decide +kernel)
theorem kw_625 : Cond.code yX10_readInto cX10_readInto 3 (some .int) ∈ gW := gw_of (k := 625) (by decide +kernel) (by decide +kernel)
theorem kw_626 : Cond.methodLinkNest "Schedulary$Text" 22 yX8_forget "Schedulary" ∈ gX := gx_of (k := 626) (by decide +kernel) (by decide +kernel)
theorem kw_628 : Cond.instanceMethod yX8_forget ∈ gW := gw_of (k := 628) (by decide +kernel) (by decide +kernel)
theorem kw_629 : Cond.code yX8_forget cX8_forget 2 none ∈ gW := gw_of (k := 629) (by decide +kernel) (by decide +kernel)
theorem kw_630 : Cond.methodLink "Schedulary$Text" 27 yX10_readTarget ∈ gW := gw_of (k := 630) (by decide +kernel) (by decide +kernel)
theorem kw_632 : Cond.instanceMethod yX10_readTarget ∈ gW := gw_of (k := 632) (by decide +kernel) (by decide +kernel)
theorem kw_633 : Cond.code yX10_readTarget cX10_readTarget 2 (some .boolean) ∈ gW := gw_of (k := 633) (by decide +kernel) (by decide +kernel)
theorem kw_634 : Cond.methodLink "Schedulary$Text" 31 yX10_readSign ∈ gW := gw_of (k := 634) (by decide +kernel) (by decide +kernel)
theorem kw_636 : Cond.instanceMethod yX10_readSign ∈ gW := gw_of (k := 636) (by decide +kernel) (by decide +kernel)
theorem kw_637 : Cond.code yX10_readSign cX10_readSign 2 (some .boolean) ∈ gW := gw_of (k := 637) (by decide +kernel) (by decide +kernel)
theorem kw_638 : Cond.methodLink "Schedulary$Text" 42 yX10_next ∈ gW := gw_of (k := 638) (by decide +kernel) (by decide +kernel)
theorem kw_640 : Cond.instanceMethod yX10_next ∈ gW := gw_of (k := 640) (by decide +kernel) (by decide +kernel)
theorem kw_641 : Cond.code yX10_next cX10_next 1 (some .char) ∈ gW := gw_of (k := 641) (by decide +kernel) (by decide +kernel)
theorem kw_642 : Cond.methodLink "Schedulary$Text" 50 yX10_readRegister ∈ gW := gw_of (k := 642) (by decide +kernel) (by decide +kernel)
theorem kw_644 : Cond.instanceMethod yX10_readRegister ∈ gW := gw_of (k := 644) (by decide +kernel) (by decide +kernel)
theorem kw_645 : Cond.code yX10_readRegister cX10_readRegister 4 (some .boolean) ∈ gW := gw_of (k := 645) (by decide +kernel) (by decide +kernel)
theorem kw_646 : Cond.methodLink "Schedulary$Text" 53 yX10_readPlace ∈ gW := gw_of (k := 646) (by decide +kernel) (by decide +kernel)
theorem kw_648 : Cond.instanceMethod yX10_readPlace ∈ gW := gw_of (k := 648) (by decide +kernel) (by decide +kernel)
theorem kw_649 : Cond.code yX10_readPlace cX10_readPlace 4 (some .boolean) ∈ gW := gw_of (k := 649) (by decide +kernel) (by decide +kernel)
theorem kw_651 : Cond.methodLink "Schedulary$Text" 58 yJ0_indexOf_0f7a4 ∈ gW := gw_of (k := 651) (by decide +kernel) (by decide +kernel)
theorem kw_652 : Cond.instanceMethod yJ0_indexOf_0f7a4 ∈ gW := gw_of (k := 652) (by decide +kernel) (by decide +kernel)
theorem kw_653 : Cond.selects "java/lang/String" yJ0_indexOf_0f7a4 yJ0_indexOf_0f7a4 ∈ gW := gw_of (k := 653) (by decide +kernel) (by decide +kernel)
theorem kw_654 : Cond.code yJ0_indexOf_0f7a4 cJ0_indexOf_0f7a4 2 (some .int) ∈ gW := gw_of (k := 654) (by decide +kernel) (by decide +kernel)
theorem kw_655 : Cond.methodLink "java/lang/String" 633 yJ0_indexOf_7cf53 ∈ gW := gw_of (k := 655) (by decide +kernel) (by decide +kernel)
theorem kw_656 : Cond.instanceMethod yJ0_indexOf_7cf53 ∈ gW := gw_of (k := 656) (by decide +kernel) (by decide +kernel)
theorem kw_657 : Cond.selects "java/lang/String" yJ0_indexOf_7cf53 yJ0_indexOf_7cf53 ∈ gW := gw_of (k := 657) (by decide +kernel) (by decide +kernel)
theorem kw_658 : Cond.code yJ0_indexOf_7cf53 cJ0_indexOf_7cf53 3 (some .int) ∈ gW := gw_of (k := 658) (by decide +kernel) (by decide +kernel)
theorem kw_659 : Cond.methodLink "java/lang/String" 492 yJ0_isLatin1_aae02 ∈ gW := gw_of (k := 659) (by decide +kernel) (by decide +kernel)
theorem kw_660 : Cond.instanceMethod yJ0_isLatin1_aae02 ∈ gW := gw_of (k := 660) (by decide +kernel) (by decide +kernel)
theorem kw_661 : Cond.selects "java/lang/String" yJ0_isLatin1_aae02 yJ0_isLatin1_aae02 ∈ gW := gw_of (k := 661) (by decide +kernel) (by decide +kernel)
theorem kw_662 : Cond.code yJ0_isLatin1_aae02 cJ0_isLatin1_aae02 1 (some .boolean) ∈ gW := gw_of (k := 662) (by decide +kernel) (by decide +kernel)
theorem kw_663 : Cond.fieldLink "java/lang/String" 38 "java/lang/String" "COMPACT_STRINGS" "Z" ∈ gW := gw_of (k := 663) (by decide +kernel) (by decide +kernel)
theorem kw_665 : Cond.methodLink "java/lang/String" 505 yJ0_length_8abf5 ∈ gW := gw_of (k := 665) (by decide +kernel) (by decide +kernel)
theorem kw_666 : Cond.instanceMethod yJ0_length_8abf5 ∈ gW := gw_of (k := 666) (by decide +kernel) (by decide +kernel)
theorem kw_667 : Cond.selects "java/lang/String" yJ0_length_8abf5 yJ0_length_8abf5 ∈ gW := gw_of (k := 667) (by decide +kernel) (by decide +kernel)
theorem kw_668 : Cond.code yJ0_length_8abf5 cJ0_length_8abf5 1 (some .int) ∈ gW := gw_of (k := 668) (by decide +kernel) (by decide +kernel)
theorem kw_669 : Cond.methodLink "java/lang/String" 335 yJ0_coder_7d493 ∈ gW := gw_of (k := 669) (by decide +kernel) (by decide +kernel)
theorem kw_670 : Cond.instanceMethod yJ0_coder_7d493 ∈ gW := gw_of (k := 670) (by decide +kernel) (by decide +kernel)
theorem kw_671 : Cond.selects "java/lang/String" yJ0_coder_7d493 yJ0_coder_7d493 ∈ gW := gw_of (k := 671) (by decide +kernel) (by decide +kernel)
theorem kw_672 : Cond.code yJ0_coder_7d493 cJ0_coder_7d493 1 (some .byte) ∈ gW := gw_of (k := 672) (by decide +kernel) (by decide +kernel)
theorem kw_673 : Cond.methodLink "java/lang/String" 637 yJ1_indexOf_4cfef ∈ gW := gw_of (k := 673) (by decide +kernel) (by decide +kernel)
theorem kw_674 : Cond.static yJ1_indexOf_4cfef ∈ gW := gw_of (k := 674) (by decide +kernel) (by decide +kernel)
theorem kw_675 : Cond.code yJ1_indexOf_4cfef cJ1_indexOf_4cfef 4 (some .int) ∈ gW := gw_of (k := 675) (by decide +kernel) (by decide +kernel)
theorem kw_676 : Cond.methodLink "java/lang/StringLatin1" 88 yJ1_canEncode_9a6ad ∈ gW := gw_of (k := 676) (by decide +kernel) (by decide +kernel)
theorem kw_677 : Cond.static yJ1_canEncode_9a6ad ∈ gW := gw_of (k := 677) (by decide +kernel) (by decide +kernel)
theorem kw_678 : Cond.code yJ1_canEncode_9a6ad cJ1_canEncode_9a6ad 1 (some .boolean) ∈ gW := gw_of (k := 678) (by decide +kernel) (by decide +kernel)
theorem kw_679 : Cond.methodLink "java/lang/StringLatin1" 92 yJ9_max_7cf53 ∈ gW := gw_of (k := 679) (by decide +kernel) (by decide +kernel)
theorem kw_680 : Cond.static yJ9_max_7cf53 ∈ gW := gw_of (k := 680) (by decide +kernel) (by decide +kernel)
theorem kw_682 : Cond.methodLink "java/lang/StringLatin1" 38 yJ9_min_7cf53 ∈ gW := gw_of (k := 682) (by decide +kernel) (by decide +kernel)
theorem kw_683 : Cond.static yJ9_min_7cf53 ∈ gW := gw_of (k := 683) (by decide +kernel) (by decide +kernel)
theorem kw_685 : Cond.methodLink "java/lang/StringLatin1" 95 yJ1_indexOfChar_4cfef ∈ gW := gw_of (k := 685) (by decide +kernel) (by decide +kernel)
theorem kw_686 : Cond.static yJ1_indexOfChar_4cfef ∈ gW := gw_of (k := 686) (by decide +kernel) (by decide +kernel)
theorem kw_687 : Cond.code yJ1_indexOfChar_4cfef cJ1_indexOfChar_4cfef 6 (some .int) ∈ gW := gw_of (k := 687) (by decide +kernel) (by decide +kernel)
theorem kw_705 : Cond.code yJ0_checkBoundsBeginEnd_23922 cJ0_checkBoundsBeginEnd_23922 3 none ∈ gW := gw_of (k := 705) (by decide +kernel) (by decide +kernel)
theorem kw_706 : Cond.fieldLink "java/lang/String" 1053 "jdk/internal/util/Preconditions" "SIOOBE_FORMATTER" "Ljava/util/function/BiFunction;" ∈ gW := gw_of (k := 706) (by decide +kernel) (by decide +kernel)
theorem kw_708 : Cond.methodLink "java/lang/String" 1062 yJ3_checkFromToIndex_8c36e ∈ gW := gw_of (k := 708) (by decide +kernel) (by decide +kernel)
theorem kw_709 : Cond.static yJ3_checkFromToIndex_8c36e ∈ gW := gw_of (k := 709) (by decide +kernel) (by decide +kernel)
theorem kw_710 : Cond.code yJ3_checkFromToIndex_8c36e cJ3_checkFromToIndex_8c36e 4 (some .int) ∈ gW := gw_of (k := 710) (by decide +kernel) (by decide +kernel)
theorem kw_737 : Cond.methodLink "Schedulary$Text" 79 yX10_readIndex ∈ gW := gw_of (k := 737) (by decide +kernel) (by decide +kernel)
theorem kw_739 : Cond.instanceMethod yX10_readIndex ∈ gW := gw_of (k := 739) (by decide +kernel) (by decide +kernel)
theorem kw_740 : Cond.code yX10_readIndex cX10_readIndex 6 (some .boolean) ∈ gW := gw_of (k := 740) (by decide +kernel) (by decide +kernel)
theorem kw_741 : Cond.methodLink "Schedulary$Text" 68 yX10_isDigit ∈ gW := gw_of (k := 741) (by decide +kernel) (by decide +kernel)
theorem kw_742 : Cond.static yX10_isDigit ∈ gW := gw_of (k := 742) (by decide +kernel) (by decide +kernel)
theorem kw_743 : Cond.code yX10_isDigit cX10_isDigit 1 (some .boolean) ∈ gW := gw_of (k := 743) (by decide +kernel) (by decide +kernel)
theorem kw_744 : Cond.methodLink "Schedulary$Text" 74 yX10_readNumber ∈ gW := gw_of (k := 744) (by decide +kernel) (by decide +kernel)
theorem kw_746 : Cond.instanceMethod yX10_readNumber ∈ gW := gw_of (k := 746) (by decide +kernel) (by decide +kernel)
theorem kw_747 : Cond.code yX10_readNumber cX10_readNumber 4 (some .int) ∈ gW := gw_of (k := 747) (by decide +kernel) (by decide +kernel)
theorem kw_748 : Cond.methodLink "Schedulary$Text" 35 yX10_readOperand ∈ gW := gw_of (k := 748) (by decide +kernel) (by decide +kernel)
theorem kw_750 : Cond.instanceMethod yX10_readOperand ∈ gW := gw_of (k := 750) (by decide +kernel) (by decide +kernel)
theorem kw_751 : Cond.code yX10_readOperand cX10_readOperand 3 (some .boolean) ∈ gW := gw_of (k := 751) (by decide +kernel) (by decide +kernel)
theorem kw_752 : Cond.methodLink "Schedulary$Text" 39 yX10_readOperation ∈ gW := gw_of (k := 752) (by decide +kernel) (by decide +kernel)
theorem kw_754 : Cond.instanceMethod yX10_readOperation ∈ gW := gw_of (k := 754) (by decide +kernel) (by decide +kernel)
theorem kw_755 : Cond.code yX10_readOperation cX10_readOperation 2 (some .boolean) ∈ gW := gw_of (k := 755) (by decide +kernel) (by decide +kernel)
theorem kw_761 : Cond.code yX11_outputs cX11_outputs 1 (some .int) ∈ gW := gw_of (k := 761) (by decide +kernel) (by decide +kernel)
theorem kw_762 : Cond.methodLink "Schedulary" 217 yX11_carryOut ∈ gW := gw_of (k := 762) (by decide +kernel) (by decide +kernel)
theorem kw_764 : Cond.instanceMethod yX11_carryOut ∈ gW := gw_of (k := 764) (by decide +kernel) (by decide +kernel)
theorem kw_765 : Cond.code yX11_carryOut cX11_carryOut 1 none ∈ gW := gw_of (k := 765) (by decide +kernel) (by decide +kernel)
theorem kw_766 : Cond.methodLinkNest "Schedulary" 388 yX6_carryOut "Schedulary" ∈ gX := gx_of (k := 766) (by decide +kernel) (by decide +kernel)
theorem kw_768 : Cond.instanceMethod yX6_carryOut ∈ gW := gw_of (k := 768) (by decide +kernel) (by decide +kernel)
theorem kw_769 : Cond.code yX6_carryOut cX6_carryOut 4 none ∈ gW := gw_of (k := 769) (by decide +kernel) (by decide +kernel)
theorem kw_770 : Cond.methodLinkNest "Schedulary$Program" 41 yX7_begin "Schedulary" ∈ gX := gx_of (k := 770) (by decide +kernel) (by decide +kernel)
theorem kw_772 : Cond.instanceMethod yX7_begin ∈ gW := gw_of (k := 772) (by decide +kernel) (by decide +kernel)
theorem kw_773 : Cond.code yX7_begin cX7_begin 4 none ∈ gW := gw_of (k := 773) (by decide +kernel) (by decide +kernel)
theorem kw_774 : Cond.methodLinkNest "Schedulary$State" 28 yX6_cut "Schedulary" ∈ gX := gx_of (k := 774) (by decide +kernel) (by decide +kernel)
theorem kw_776 : Cond.instanceMethod yX6_cut ∈ gW := gw_of (k := 776) (by decide +kernel) (by decide +kernel)
theorem kw_777 : Cond.code yX6_cut cX6_cut 2 (some .int) ∈ gW := gw_of (k := 777) (by decide +kernel) (by decide +kernel)
theorem kw_778 : Cond.methodLink "Schedulary$Program" 50 yX6_carryOutOne ∈ gW := gw_of (k := 778) (by decide +kernel) (by decide +kernel)
theorem kw_780 : Cond.instanceMethod yX6_carryOutOne ∈ gW := gw_of (k := 780) (by decide +kernel) (by decide +kernel)
theorem kw_781 : Cond.code yX6_carryOutOne cX6_carryOutOne 5 none ∈ gW := gw_of (k := 781) (by decide +kernel) (by decide +kernel)
theorem kw_782 : Cond.methodLink "Schedulary$Program" 54 yX6_valueOf ∈ gW := gw_of (k := 782) (by decide +kernel) (by decide +kernel)
theorem kw_784 : Cond.instanceMethod yX6_valueOf ∈ gW := gw_of (k := 784) (by decide +kernel) (by decide +kernel)
theorem kw_785 : Cond.code yX6_valueOf cX6_valueOf 5 (some .int) ∈ gW := gw_of (k := 785) (by decide +kernel) (by decide +kernel)
theorem kw_786 : Cond.methodLink "Schedulary$Program" 66 yX6_cut ∈ gW := gw_of (k := 786) (by decide +kernel) (by decide +kernel)
theorem kw_787 : Cond.methodLink "Schedulary$Program" 83 yX6_takeInput ∈ gW := gw_of (k := 787) (by decide +kernel) (by decide +kernel)
theorem kw_789 : Cond.instanceMethod yX6_takeInput ∈ gW := gw_of (k := 789) (by decide +kernel) (by decide +kernel)
theorem kw_790 : Cond.code yX6_takeInput cX6_takeInput 3 (some .int) ∈ gW := gw_of (k := 790) (by decide +kernel) (by decide +kernel)
theorem kw_791 : Cond.methodLinkNest "Schedulary$Program" 87 yX8_placeOf "Schedulary" ∈ gX := gx_of (k := 791) (by decide +kernel) (by decide +kernel)
theorem kw_793 : Cond.instanceMethod yX8_placeOf ∈ gW := gw_of (k := 793) (by decide +kernel) (by decide +kernel)
theorem kw_794 : Cond.code yX8_placeOf cX8_placeOf 3 (some .int) ∈ gW := gw_of (k := 794) (by decide +kernel) (by decide +kernel)
theorem kw_795 : Cond.methodLinkNest "Schedulary$Program" 90 yX7_look "Schedulary" ∈ gX := gx_of (k := 795) (by decide +kernel) (by decide +kernel)
theorem kw_797 : Cond.instanceMethod yX7_look ∈ gW := gw_of (k := 797) (by decide +kernel) (by decide +kernel)
theorem kw_798 : Cond.code yX7_look cX7_look 3 (some .int) ∈ gW := gw_of (k := 798) (by decide +kernel) (by decide +kernel)
theorem kw_799 : Cond.methodLink "Schedulary$State" 39 yX7_isInside ∈ gW := gw_of (k := 799) (by decide +kernel) (by decide +kernel)
theorem kw_800 : Cond.static yX7_isInside ∈ gW := gw_of (k := 800) (by decide +kernel) (by decide +kernel)
theorem kw_801 : Cond.code yX7_isInside cX7_isInside 2 (some .boolean) ∈ gW := gw_of (k := 801) (by decide +kernel) (by decide +kernel)
theorem kw_802 : Cond.methodLinkNest "Schedulary$Program" 58 yX8_hasOperation "Schedulary" ∈ gX := gx_of (k := 802) (by decide +kernel) (by decide +kernel)
theorem kw_804 : Cond.instanceMethod yX8_hasOperation ∈ gW := gw_of (k := 804) (by decide +kernel) (by decide +kernel)
theorem kw_805 : Cond.code yX8_hasOperation cX8_hasOperation 1 (some .boolean) ∈ gW := gw_of (k := 805) (by decide +kernel) (by decide +kernel)
theorem kw_806 : Cond.methodLinkNest "Schedulary$Program" 62 yX8_operate "Schedulary" ∈ gX := gx_of (k := 806) (by decide +kernel) (by decide +kernel)
theorem kw_808 : Cond.instanceMethod yX8_operate ∈ gW := gw_of (k := 808) (by decide +kernel) (by decide +kernel)
theorem kw_809 : Cond.code yX8_operate cX8_operate 3 (some .int) ∈ gW := gw_of (k := 809) (by decide +kernel) (by decide +kernel)
theorem kw_810 : Cond.methodLink "Schedulary$Program" 70 yX6_write ∈ gW := gw_of (k := 810) (by decide +kernel) (by decide +kernel)
theorem kw_812 : Cond.instanceMethod yX6_write ∈ gW := gw_of (k := 812) (by decide +kernel) (by decide +kernel)
theorem kw_813 : Cond.code yX6_write cX6_write 6 none ∈ gW := gw_of (k := 813) (by decide +kernel) (by decide +kernel)
theorem kw_814 : Cond.methodLinkNest "Schedulary$Program" 99 yX7_putOut "Schedulary" ∈ gX := gx_of (k := 814) (by decide +kernel) (by decide +kernel)
theorem kw_816 : Cond.instanceMethod yX7_putOut ∈ gW := gw_of (k := 816) (by decide +kernel) (by decide +kernel)
theorem kw_817 : Cond.code yX7_putOut cX7_putOut 2 none ∈ gW := gw_of (k := 817) (by decide +kernel) (by decide +kernel)
theorem kw_818 : Cond.methodLinkNest "Schedulary$Program" 103 yX7_keep "Schedulary" ∈ gX := gx_of (k := 818) (by decide +kernel) (by decide +kernel)
theorem kw_820 : Cond.instanceMethod yX7_keep ∈ gW := gw_of (k := 820) (by decide +kernel) (by decide +kernel)
theorem kw_821 : Cond.code yX7_keep cX7_keep 4 none ∈ gW := gw_of (k := 821) (by decide +kernel) (by decide +kernel)
theorem kw_825 : Cond.code yX11_taken cX11_taken 1 (some .int) ∈ gW := gw_of (k := 825) (by decide +kernel) (by decide +kernel)
theorem kw_829 : Cond.code yX11_nodes cX11_nodes 1 (some .int) ∈ gW := gw_of (k := 829) (by decide +kernel) (by decide +kernel)
theorem kw_830 : Cond.methodLink "Schedulary" 139 yX11_prepare ∈ gW := gw_of (k := 830) (by decide +kernel) (by decide +kernel)
theorem kw_832 : Cond.instanceMethod yX11_prepare ∈ gW := gw_of (k := 832) (by decide +kernel) (by decide +kernel)
theorem kw_833 : Cond.code yX11_prepare cX11_prepare 2 none ∈ gW := gw_of (k := 833) (by decide +kernel) (by decide +kernel)
theorem kw_834 : Cond.methodLinkNest "Schedulary" 391 yX0_number "Schedulary" ∈ gX := gx_of (k := 834) (by decide +kernel) (by decide +kernel)
theorem kw_836 : Cond.instanceMethod yX0_number ∈ gW := gw_of (k := 836) (by decide +kernel) (by decide +kernel)
theorem kw_837 : Cond.code yX0_number cX0_number 4 none ∈ gW := gw_of (k := 837) (by decide +kernel) (by decide +kernel)
theorem kw_838 : Cond.methodLink "Schedulary$Body" 42 yX0_numberOne ∈ gW := gw_of (k := 838) (by decide +kernel) (by decide +kernel)
theorem kw_840 : Cond.instanceMethod yX0_numberOne ∈ gW := gw_of (k := 840) (by decide +kernel) (by decide +kernel)
theorem kw_841 : Cond.code yX0_numberOne cX0_numberOne 8 none ∈ gW := gw_of (k := 841) (by decide +kernel) (by decide +kernel)
theorem kw_842 : Cond.methodLink "Schedulary$Body" 46 yX0_appendReading ∈ gW := gw_of (k := 842) (by decide +kernel) (by decide +kernel)
theorem kw_844 : Cond.instanceMethod yX0_appendReading ∈ gW := gw_of (k := 844) (by decide +kernel) (by decide +kernel)
theorem kw_845 : Cond.code yX0_appendReading cX0_appendReading 6 (some .int) ∈ gW := gw_of (k := 845) (by decide +kernel) (by decide +kernel)
theorem kw_846 : Cond.methodLinkNest "Schedulary$Body" 90 yX8_isReading "Schedulary" ∈ gX := gx_of (k := 846) (by decide +kernel) (by decide +kernel)
theorem kw_848 : Cond.instanceMethod yX8_isReading ∈ gW := gw_of (k := 848) (by decide +kernel) (by decide +kernel)
theorem kw_849 : Cond.code yX8_isReading cX8_isReading 2 (some .boolean) ∈ gW := gw_of (k := 849) (by decide +kernel) (by decide +kernel)
theorem kw_850 : Cond.methodLink "Schedulary$Body" 64 yX0_append ∈ gW := gw_of (k := 850) (by decide +kernel) (by decide +kernel)
theorem kw_852 : Cond.instanceMethod yX0_append ∈ gW := gw_of (k := 852) (by decide +kernel) (by decide +kernel)
theorem kw_853 : Cond.code yX0_append cX0_append 6 (some .int) ∈ gW := gw_of (k := 853) (by decide +kernel) (by decide +kernel)
theorem kw_854 : Cond.methodLink "Schedulary$Body" 107 yJ9_min_7cf53 ∈ gW := gw_of (k := 854) (by decide +kernel) (by decide +kernel)
theorem kw_855 : Cond.methodLinkNest "Schedulary$Body" 113 yX3_set "Schedulary" ∈ gX := gx_of (k := 855) (by decide +kernel) (by decide +kernel)
theorem kw_857 : Cond.instanceMethod yX3_set ∈ gW := gw_of (k := 857) (by decide +kernel) (by decide +kernel)
theorem kw_858 : Cond.code yX3_set cX3_set 5 none ∈ gW := gw_of (k := 858) (by decide +kernel) (by decide +kernel)
theorem kw_859 : Cond.methodLinkNest "Schedulary$Body" 100 yX3_setPlace "Schedulary" ∈ gX := gx_of (k := 859) (by decide +kernel) (by decide +kernel)
theorem kw_861 : Cond.instanceMethod yX3_setPlace ∈ gW := gw_of (k := 861) (by decide +kernel) (by decide +kernel)
theorem kw_862 : Cond.code yX3_setPlace cX3_setPlace 2 none ∈ gW := gw_of (k := 862) (by decide +kernel) (by decide +kernel)
theorem kw_863 : Cond.methodLinkNest "Schedulary$Node" 53 yX8_placeOf "Schedulary" ∈ gX := gx_of (k := 863) (by decide +kernel) (by decide +kernel)
theorem kw_864 : Cond.methodLinkNest "Schedulary$Body" 50 yX8_registerIn "Schedulary" ∈ gX := gx_of (k := 864) (by decide +kernel) (by decide +kernel)
theorem kw_866 : Cond.instanceMethod yX8_registerIn ∈ gW := gw_of (k := 866) (by decide +kernel) (by decide +kernel)
theorem kw_867 : Cond.code yX8_registerIn cX8_registerIn 2 (some .int) ∈ gW := gw_of (k := 867) (by decide +kernel) (by decide +kernel)
theorem kw_868 : Cond.methodLinkNest "Schedulary$Body" 56 yX8_hasOperation "Schedulary" ∈ gX := gx_of (k := 868) (by decide +kernel) (by decide +kernel)
theorem kw_869 : Cond.methodLinkNest "Schedulary$Body" 60 yX8_kindOfOperation "Schedulary" ∈ gX := gx_of (k := 869) (by decide +kernel) (by decide +kernel)
theorem kw_871 : Cond.instanceMethod yX8_kindOfOperation ∈ gW := gw_of (k := 871) (by decide +kernel) (by decide +kernel)
theorem kw_872 : Cond.code yX8_kindOfOperation cX8_kindOfOperation 1 (some .int) ∈ gW := gw_of (k := 872) (by decide +kernel) (by decide +kernel)
theorem kw_873 : Cond.methodLinkNest "Schedulary$Body" 77 yX8_maskOfRegister "Schedulary" ∈ gX := gx_of (k := 873) (by decide +kernel) (by decide +kernel)
theorem kw_875 : Cond.instanceMethod yX8_maskOfRegister ∈ gW := gw_of (k := 875) (by decide +kernel) (by decide +kernel)
theorem kw_876 : Cond.code yX8_maskOfRegister cX8_maskOfRegister 2 (some .int) ∈ gW := gw_of (k := 876) (by decide +kernel) (by decide +kernel)
theorem kw_877 : Cond.methodLink "Schedulary$Body" 83 yX0_appendWriting ∈ gW := gw_of (k := 877) (by decide +kernel) (by decide +kernel)
theorem kw_879 : Cond.instanceMethod yX0_appendWriting ∈ gW := gw_of (k := 879) (by decide +kernel) (by decide +kernel)
theorem kw_880 : Cond.code yX0_appendWriting cX0_appendWriting 6 none ∈ gW := gw_of (k := 880) (by decide +kernel) (by decide +kernel)
theorem kw_881 : Cond.methodLinkNest "Schedulary" 395 yX2_join "Schedulary" ∈ gX := gx_of (k := 881) (by decide +kernel) (by decide +kernel)
theorem kw_883 : Cond.instanceMethod yX2_join ∈ gW := gw_of (k := 883) (by decide +kernel) (by decide +kernel)
theorem kw_884 : Cond.code yX2_join cX2_join 4 none ∈ gW := gw_of (k := 884) (by decide +kernel) (by decide +kernel)
theorem kw_885 : Cond.methodLink "Schedulary$Graph" 30 yX2_joinWithinStatements ∈ gW := gw_of (k := 885) (by decide +kernel) (by decide +kernel)
theorem kw_887 : Cond.instanceMethod yX2_joinWithinStatements ∈ gW := gw_of (k := 887) (by decide +kernel) (by decide +kernel)
theorem kw_888 : Cond.code yX2_joinWithinStatements cX2_joinWithinStatements 3 none ∈ gW := gw_of (k := 888) (by decide +kernel) (by decide +kernel)
theorem kw_889 : Cond.methodLink "Schedulary$Graph" 67 yX2_joinGiver ∈ gW := gw_of (k := 889) (by decide +kernel) (by decide +kernel)
theorem kw_891 : Cond.instanceMethod yX2_joinGiver ∈ gW := gw_of (k := 891) (by decide +kernel) (by decide +kernel)
theorem kw_892 : Cond.code yX2_joinGiver cX2_joinGiver 4 none ∈ gW := gw_of (k := 892) (by decide +kernel) (by decide +kernel)
theorem kw_893 : Cond.methodLinkNest "Schedulary$Graph" 73 yX0_cyclesOf "Schedulary" ∈ gX := gx_of (k := 893) (by decide +kernel) (by decide +kernel)
theorem kw_895 : Cond.instanceMethod yX0_cyclesOf ∈ gW := gw_of (k := 895) (by decide +kernel) (by decide +kernel)
theorem kw_896 : Cond.code yX0_cyclesOf cX0_cyclesOf 2 (some .int) ∈ gW := gw_of (k := 896) (by decide +kernel) (by decide +kernel)
theorem kw_897 : Cond.methodLink "Schedulary$Graph" 77 yX2_put ∈ gW := gw_of (k := 897) (by decide +kernel) (by decide +kernel)
theorem kw_899 : Cond.instanceMethod yX2_put ∈ gW := gw_of (k := 899) (by decide +kernel) (by decide +kernel)
theorem kw_900 : Cond.code yX2_put cX2_put 6 none ∈ gW := gw_of (k := 900) (by decide +kernel) (by decide +kernel)
theorem kw_901 : Cond.methodLink "Schedulary$Graph" 45 yX2_find ∈ gW := gw_of (k := 901) (by decide +kernel) (by decide +kernel)
theorem kw_903 : Cond.instanceMethod yX2_find ∈ gW := gw_of (k := 903) (by decide +kernel) (by decide +kernel)
theorem kw_904 : Cond.code yX2_find cX2_find 5 (some .int) ∈ gW := gw_of (k := 904) (by decide +kernel) (by decide +kernel)
theorem kw_905 : Cond.methodLink "Schedulary$Graph" 49 yJ9_max_7cf53 ∈ gW := gw_of (k := 905) (by decide +kernel) (by decide +kernel)
theorem kw_906 : Cond.methodLink "Schedulary$Graph" 34 yX2_joinRegister ∈ gW := gw_of (k := 906) (by decide +kernel) (by decide +kernel)
theorem kw_908 : Cond.instanceMethod yX2_joinRegister ∈ gW := gw_of (k := 908) (by decide +kernel) (by decide +kernel)
theorem kw_909 : Cond.code yX2_joinRegister cX2_joinRegister 6 none ∈ gW := gw_of (k := 909) (by decide +kernel) (by decide +kernel)
theorem kw_910 : Cond.methodLinkNest "Schedulary$Graph" 81 yX0_nextMakerBehind "Schedulary" ∈ gX := gx_of (k := 910) (by decide +kernel) (by decide +kernel)
theorem kw_912 : Cond.instanceMethod yX0_nextMakerBehind ∈ gW := gw_of (k := 912) (by decide +kernel) (by decide +kernel)
theorem kw_913 : Cond.code yX0_nextMakerBehind cX0_nextMakerBehind 4 (some .int) ∈ gW := gw_of (k := 913) (by decide +kernel) (by decide +kernel)
theorem kw_914 : Cond.methodLinkNest "Schedulary$Graph" 84 yX3_isUsing "Schedulary" ∈ gX := gx_of (k := 914) (by decide +kernel) (by decide +kernel)
theorem kw_916 : Cond.instanceMethod yX3_isUsing ∈ gW := gw_of (k := 916) (by decide +kernel) (by decide +kernel)
theorem kw_917 : Cond.code yX3_isUsing cX3_isUsing 2 (some .boolean) ∈ gW := gw_of (k := 917) (by decide +kernel) (by decide +kernel)
theorem kw_918 : Cond.methodLink "Schedulary$Graph" 91 yX2_joinMakerAhead ∈ gW := gw_of (k := 918) (by decide +kernel) (by decide +kernel)
theorem kw_920 : Cond.instanceMethod yX2_joinMakerAhead ∈ gW := gw_of (k := 920) (by decide +kernel) (by decide +kernel)
theorem kw_921 : Cond.code yX2_joinMakerAhead cX2_joinMakerAhead 6 none ∈ gW := gw_of (k := 921) (by decide +kernel) (by decide +kernel)
theorem kw_922 : Cond.methodLinkNest "Schedulary$Graph" 97 yX0_lastMakerAhead "Schedulary" ∈ gX := gx_of (k := 922) (by decide +kernel) (by decide +kernel)
theorem kw_924 : Cond.instanceMethod yX0_lastMakerAhead ∈ gW := gw_of (k := 924) (by decide +kernel) (by decide +kernel)
theorem kw_925 : Cond.code yX0_lastMakerAhead cX0_lastMakerAhead 4 (some .int) ∈ gW := gw_of (k := 925) (by decide +kernel) (by decide +kernel)
theorem kw_926 : Cond.methodLink "Schedulary$Graph" 94 yX2_joinMakerBehind ∈ gW := gw_of (k := 926) (by decide +kernel) (by decide +kernel)
theorem kw_928 : Cond.instanceMethod yX2_joinMakerBehind ∈ gW := gw_of (k := 928) (by decide +kernel) (by decide +kernel)
theorem kw_929 : Cond.code yX2_joinMakerBehind cX2_joinMakerBehind 7 none ∈ gW := gw_of (k := 929) (by decide +kernel) (by decide +kernel)
theorem kw_930 : Cond.methodLink "Schedulary$Graph" 38 yX2_joinMemory ∈ gW := gw_of (k := 930) (by decide +kernel) (by decide +kernel)
theorem kw_932 : Cond.instanceMethod yX2_joinMemory ∈ gW := gw_of (k := 932) (by decide +kernel) (by decide +kernel)
theorem kw_933 : Cond.code yX2_joinMemory cX2_joinMemory 6 none ∈ gW := gw_of (k := 933) (by decide +kernel) (by decide +kernel)
theorem kw_934 : Cond.methodLink "Schedulary$Graph" 103 yX2_joinPlaces ∈ gW := gw_of (k := 934) (by decide +kernel) (by decide +kernel)
theorem kw_936 : Cond.instanceMethod yX2_joinPlaces ∈ gW := gw_of (k := 936) (by decide +kernel) (by decide +kernel)
theorem kw_937 : Cond.code yX2_joinPlaces cX2_joinPlaces 8 none ∈ gW := gw_of (k := 937) (by decide +kernel) (by decide +kernel)
theorem kw_938 : Cond.methodLink "Schedulary$Graph" 111 yX2_distanceTo ∈ gW := gw_of (k := 938) (by decide +kernel) (by decide +kernel)
theorem kw_939 : Cond.static yX2_distanceTo ∈ gW := gw_of (k := 939) (by decide +kernel) (by decide +kernel)
theorem kw_940 : Cond.code yX2_distanceTo cX2_distanceTo 5 (some .int) ∈ gW := gw_of (k := 940) (by decide +kernel) (by decide +kernel)
theorem kw_941 : Cond.methodLinkNest "Schedulary$Graph" 121 yX11_isDivided "Schedulary" ∈ gX := gx_of (k := 941) (by decide +kernel) (by decide +kernel)
theorem kw_942 : Cond.static yX11_isDivided ∈ gW := gw_of (k := 942) (by decide +kernel) (by decide +kernel)
theorem kw_943 : Cond.code yX11_isDivided cX11_isDivided 2 (some .boolean) ∈ gW := gw_of (k := 943) (by decide +kernel) (by decide +kernel)
theorem kw_944 : Cond.methodLink "Schedulary$Graph" 42 yX2_joinChannel ∈ gW := gw_of (k := 944) (by decide +kernel) (by decide +kernel)
theorem kw_946 : Cond.instanceMethod yX2_joinChannel ∈ gW := gw_of (k := 946) (by decide +kernel) (by decide +kernel)
theorem kw_947 : Cond.code yX2_joinChannel cX2_joinChannel 6 none ∈ gW := gw_of (k := 947) (by decide +kernel) (by decide +kernel)
theorem kw_948 : Cond.methodLinkNest "Schedulary" 399 yX9_order "Schedulary" ∈ gX := gx_of (k := 948) (by decide +kernel) (by decide +kernel)
theorem kw_950 : Cond.instanceMethod yX9_order ∈ gW := gw_of (k := 950) (by decide +kernel) (by decide +kernel)
theorem kw_951 : Cond.code yX9_order cX9_order 3 none ∈ gW := gw_of (k := 951) (by decide +kernel) (by decide +kernel)
theorem kw_952 : Cond.methodLink "Schedulary$Steps" 33 yX9_orderSoonest ∈ gW := gw_of (k := 952) (by decide +kernel) (by decide +kernel)
theorem kw_954 : Cond.instanceMethod yX9_orderSoonest ∈ gW := gw_of (k := 954) (by decide +kernel) (by decide +kernel)
theorem kw_955 : Cond.code yX9_orderSoonest cX9_orderSoonest 6 none ∈ gW := gw_of (k := 955) (by decide +kernel) (by decide +kernel)
theorem kw_956 : Cond.methodLink "Schedulary$Steps" 64 yJ9_max_7cf53 ∈ gW := gw_of (k := 956) (by decide +kernel) (by decide +kernel)
theorem kw_957 : Cond.methodLink "Schedulary$Steps" 37 yX9_orderLatest ∈ gW := gw_of (k := 957) (by decide +kernel) (by decide +kernel)
theorem kw_959 : Cond.instanceMethod yX9_orderLatest ∈ gW := gw_of (k := 959) (by decide +kernel) (by decide +kernel)
theorem kw_960 : Cond.code yX9_orderLatest cX9_orderLatest 7 none ∈ gW := gw_of (k := 960) (by decide +kernel) (by decide +kernel)
theorem kw_961 : Cond.methodLinkNest "Schedulary$Steps" 70 yX0_endOf "Schedulary" ∈ gX := gx_of (k := 961) (by decide +kernel) (by decide +kernel)
theorem kw_963 : Cond.instanceMethod yX0_endOf ∈ gW := gw_of (k := 963) (by decide +kernel) (by decide +kernel)
theorem kw_964 : Cond.code yX0_endOf cX0_endOf 4 (some .int) ∈ gW := gw_of (k := 964) (by decide +kernel) (by decide +kernel)
theorem kw_965 : Cond.methodLink "Schedulary$Body" 119 yX0_cyclesOf ∈ gW := gw_of (k := 965) (by decide +kernel) (by decide +kernel)
theorem kw_966 : Cond.methodLink "Schedulary$Body" 122 yJ9_max_7cf53 ∈ gW := gw_of (k := 966) (by decide +kernel) (by decide +kernel)
theorem kw_967 : Cond.methodLinkNest "Schedulary$Steps" 74 yX0_cyclesOf "Schedulary" ∈ gX := gx_of (k := 967) (by decide +kernel) (by decide +kernel)
theorem kw_968 : Cond.methodLink "Schedulary$Steps" 78 yJ9_min_7cf53 ∈ gW := gw_of (k := 968) (by decide +kernel) (by decide +kernel)
theorem kw_969 : Cond.methodLink "Schedulary$Steps" 40 yX9_orderByLists ∈ gW := gw_of (k := 969) (by decide +kernel) (by decide +kernel)
theorem kw_971 : Cond.instanceMethod yX9_orderByLists ∈ gW := gw_of (k := 971) (by decide +kernel) (by decide +kernel)
theorem kw_972 : Cond.code yX9_orderByLists cX9_orderByLists 5 none ∈ gW := gw_of (k := 972) (by decide +kernel) (by decide +kernel)
theorem kw_973 : Cond.methodLink "Schedulary$Steps" 81 yX9_startLists ∈ gW := gw_of (k := 973) (by decide +kernel) (by decide +kernel)
theorem kw_975 : Cond.instanceMethod yX9_startLists ∈ gW := gw_of (k := 975) (by decide +kernel) (by decide +kernel)
theorem kw_976 : Cond.code yX9_startLists cX9_startLists 5 none ∈ gW := gw_of (k := 976) (by decide +kernel) (by decide +kernel)
theorem kw_977 : Cond.methodLink "Schedulary$Steps" 84 yX9_beginAllAt ∈ gW := gw_of (k := 977) (by decide +kernel) (by decide +kernel)
theorem kw_979 : Cond.instanceMethod yX9_beginAllAt ∈ gW := gw_of (k := 979) (by decide +kernel) (by decide +kernel)
theorem kw_980 : Cond.code yX9_beginAllAt cX9_beginAllAt 6 (some .int) ∈ gW := gw_of (k := 980) (by decide +kernel) (by decide +kernel)
theorem kw_981 : Cond.methodLink "Schedulary$Steps" 88 yX9_chooseFor ∈ gW := gw_of (k := 981) (by decide +kernel) (by decide +kernel)
theorem kw_983 : Cond.instanceMethod yX9_chooseFor ∈ gW := gw_of (k := 983) (by decide +kernel) (by decide +kernel)
theorem kw_984 : Cond.code yX9_chooseFor cX9_chooseFor 6 (some .int) ∈ gW := gw_of (k := 984) (by decide +kernel) (by decide +kernel)
theorem kw_985 : Cond.methodLink "Schedulary$Steps" 92 yX9_beginAt ∈ gW := gw_of (k := 985) (by decide +kernel) (by decide +kernel)
theorem kw_987 : Cond.instanceMethod yX9_beginAt ∈ gW := gw_of (k := 987) (by decide +kernel) (by decide +kernel)
theorem kw_988 : Cond.code yX9_beginAt cX9_beginAt 7 none ∈ gW := gw_of (k := 988) (by decide +kernel) (by decide +kernel)
theorem kw_989 : Cond.methodLinkNest "Schedulary" 403 yX4_find "Schedulary" ∈ gX := gx_of (k := 989) (by decide +kernel) (by decide +kernel)
theorem kw_991 : Cond.instanceMethod yX4_find ∈ gW := gw_of (k := 991) (by decide +kernel) (by decide +kernel)
theorem kw_992 : Cond.code yX4_find cX4_find 6 none ∈ gW := gw_of (k := 992) (by decide +kernel) (by decide +kernel)
theorem kw_993 : Cond.methodLink "Schedulary$Pace" 33 yX4_findByRings ∈ gW := gw_of (k := 993) (by decide +kernel) (by decide +kernel)
theorem kw_995 : Cond.instanceMethod yX4_findByRings ∈ gW := gw_of (k := 995) (by decide +kernel) (by decide +kernel)
theorem kw_996 : Cond.code yX4_findByRings cX4_findByRings 7 (some .int) ∈ gW := gw_of (k := 996) (by decide +kernel) (by decide +kernel)
theorem kw_997 : Cond.methodLinkNest "Schedulary$Pace" 51 yX0_sumOfCycles "Schedulary" ∈ gX := gx_of (k := 997) (by decide +kernel) (by decide +kernel)
theorem kw_999 : Cond.instanceMethod yX0_sumOfCycles ∈ gW := gw_of (k := 999) (by decide +kernel) (by decide +kernel)
theorem kw_1000 : Cond.code yX0_sumOfCycles cX0_sumOfCycles 3 (some .int) ∈ gW := gw_of (k := 1000) (by decide +kernel) (by decide +kernel)
theorem kw_1001 : Cond.methodLink "Schedulary$Pace" 41 yJ9_max_7cf53 ∈ gW := gw_of (k := 1001) (by decide +kernel) (by decide +kernel)
theorem kw_1002 : Cond.methodLink "Schedulary$Pace" 57 yX4_isAllowedByRings ∈ gW := gw_of (k := 1002) (by decide +kernel) (by decide +kernel)
theorem kw_1004 : Cond.instanceMethod yX4_isAllowedByRings ∈ gW := gw_of (k := 1004) (by decide +kernel) (by decide +kernel)
theorem kw_1005 : Cond.code yX4_isAllowedByRings cX4_isAllowedByRings 7 (some .boolean) ∈ gW := gw_of (k := 1005) (by decide +kernel) (by decide +kernel)
theorem kw_1006 : Cond.methodLink "Schedulary$Pace" 64 yX4_pushAll ∈ gW := gw_of (k := 1006) (by decide +kernel) (by decide +kernel)
theorem kw_1008 : Cond.instanceMethod yX4_pushAll ∈ gW := gw_of (k := 1008) (by decide +kernel) (by decide +kernel)
theorem kw_1009 : Cond.code yX4_pushAll cX4_pushAll 9 (some .int) ∈ gW := gw_of (k := 1009) (by decide +kernel) (by decide +kernel)
theorem kw_1010 : Cond.methodLink "Schedulary$Pace" 37 yX4_findByUnits ∈ gW := gw_of (k := 1010) (by decide +kernel) (by decide +kernel)
theorem kw_1011 : Cond.static yX4_findByUnits ∈ gW := gw_of (k := 1011) (by decide +kernel) (by decide +kernel)
theorem kw_1012 : Cond.code yX4_findByUnits cX4_findByUnits 3 (some .int) ∈ gW := gw_of (k := 1012) (by decide +kernel) (by decide +kernel)
theorem kw_1013 : Cond.methodLinkNest "Schedulary$Pace" 82 yX0_leastIntervalOf "Schedulary" ∈ gX := gx_of (k := 1013) (by decide +kernel) (by decide +kernel)
theorem kw_1015 : Cond.instanceMethod yX0_leastIntervalOf ∈ gW := gw_of (k := 1015) (by decide +kernel) (by decide +kernel)
theorem kw_1016 : Cond.code yX0_leastIntervalOf cX0_leastIntervalOf 3 (some .int) ∈ gW := gw_of (k := 1016) (by decide +kernel) (by decide +kernel)
theorem kw_1017 : Cond.methodLink "Schedulary$Pace" 47 yX4_placeAll ∈ gW := gw_of (k := 1017) (by decide +kernel) (by decide +kernel)
theorem kw_1019 : Cond.instanceMethod yX4_placeAll ∈ gW := gw_of (k := 1019) (by decide +kernel) (by decide +kernel)
theorem kw_1020 : Cond.code yX4_placeAll cX4_placeAll 6 (some .boolean) ∈ gW := gw_of (k := 1020) (by decide +kernel) (by decide +kernel)
theorem kw_1021 : Cond.methodLink "Schedulary$Pace" 98 yX4_findStep ∈ gW := gw_of (k := 1021) (by decide +kernel) (by decide +kernel)
theorem kw_1023 : Cond.instanceMethod yX4_findStep ∈ gW := gw_of (k := 1023) (by decide +kernel) (by decide +kernel)
theorem kw_1024 : Cond.code yX4_findStep cX4_findStep 10 (some .int) ∈ gW := gw_of (k := 1024) (by decide +kernel) (by decide +kernel)
theorem kw_1025 : Cond.methodLink "Schedulary$Pace" 106 yJ9_min_7cf53 ∈ gW := gw_of (k := 1025) (by decide +kernel) (by decide +kernel)
theorem kw_1026 : Cond.methodLink "Schedulary$Pace" 109 yX4_restOf ∈ gW := gw_of (k := 1026) (by decide +kernel) (by decide +kernel)
theorem kw_1028 : Cond.instanceMethod yX4_restOf ∈ gW := gw_of (k := 1028) (by decide +kernel) (by decide +kernel)
theorem kw_1029 : Cond.code yX4_restOf cX4_restOf 3 (some .int) ∈ gW := gw_of (k := 1029) (by decide +kernel) (by decide +kernel)
theorem kw_1030 : Cond.methodLinkNest "Schedulary$Pace" 112 yX11_isWithin "Schedulary" ∈ gX := gx_of (k := 1030) (by decide +kernel) (by decide +kernel)
theorem kw_1031 : Cond.static yX11_isWithin ∈ gW := gw_of (k := 1031) (by decide +kernel) (by decide +kernel)
theorem kw_1032 : Cond.code yX11_isWithin cX11_isWithin 3 (some .boolean) ∈ gW := gw_of (k := 1032) (by decide +kernel) (by decide +kernel)
theorem kw_1033 : Cond.methodLink "Schedulary$Pace" 102 yX4_placeAt ∈ gW := gw_of (k := 1033) (by decide +kernel) (by decide +kernel)
theorem kw_1035 : Cond.instanceMethod yX4_placeAt ∈ gW := gw_of (k := 1035) (by decide +kernel) (by decide +kernel)
theorem kw_1036 : Cond.code yX4_placeAt cX4_placeAt 8 none ∈ gW := gw_of (k := 1036) (by decide +kernel) (by decide +kernel)
theorem kw_1037 : Cond.methodLinkNest "Schedulary" 405 yX1_turn "Schedulary" ∈ gX := gx_of (k := 1037) (by decide +kernel) (by decide +kernel)
theorem kw_1039 : Cond.instanceMethod yX1_turn ∈ gW := gw_of (k := 1039) (by decide +kernel) (by decide +kernel)
theorem kw_1040 : Cond.code yX1_turn cX1_turn 9 none ∈ gW := gw_of (k := 1040) (by decide +kernel) (by decide +kernel)
theorem kw_1041 : Cond.methodLinkNest "Schedulary$Circuit" 22 yX7_begin "Schedulary" ∈ gX := gx_of (k := 1041) (by decide +kernel) (by decide +kernel)
theorem kw_1042 : Cond.methodLinkNest "Schedulary$Circuit" 26 yX6_bodyTurns "Schedulary" ∈ gX := gx_of (k := 1042) (by decide +kernel) (by decide +kernel)
theorem kw_1044 : Cond.instanceMethod yX6_bodyTurns ∈ gW := gw_of (k := 1044) (by decide +kernel) (by decide +kernel)
theorem kw_1045 : Cond.code yX6_bodyTurns cX6_bodyTurns 1 (some .int) ∈ gW := gw_of (k := 1045) (by decide +kernel) (by decide +kernel)
theorem kw_1046 : Cond.methodLinkNest "Schedulary$Circuit" 32 yX4_countCycles "Schedulary" ∈ gX := gx_of (k := 1046) (by decide +kernel) (by decide +kernel)
theorem kw_1048 : Cond.instanceMethod yX4_countCycles ∈ gW := gw_of (k := 1048) (by decide +kernel) (by decide +kernel)
theorem kw_1049 : Cond.code yX4_countCycles cX4_countCycles 3 (some .int) ∈ gW := gw_of (k := 1049) (by decide +kernel) (by decide +kernel)
theorem kw_1050 : Cond.methodLinkNest "Schedulary$Pace" 124 yX0_endOf "Schedulary" ∈ gX := gx_of (k := 1050) (by decide +kernel) (by decide +kernel)
theorem kw_1051 : Cond.methodLinkNest "Schedulary$Circuit" 47 yX0_cyclesOf "Schedulary" ∈ gX := gx_of (k := 1051) (by decide +kernel) (by decide +kernel)
theorem kw_1052 : Cond.methodLink "Schedulary$Circuit" 58 yX1_turnAfter ∈ gW := gw_of (k := 1052) (by decide +kernel) (by decide +kernel)
theorem kw_1053 : Cond.static yX1_turnAfter ∈ gW := gw_of (k := 1053) (by decide +kernel) (by decide +kernel)
theorem kw_1054 : Cond.code yX1_turnAfter cX1_turnAfter 4 (some .int) ∈ gW := gw_of (k := 1054) (by decide +kernel) (by decide +kernel)
theorem kw_1055 : Cond.methodLink "Schedulary$Circuit" 62 yX1_finish ∈ gW := gw_of (k := 1055) (by decide +kernel) (by decide +kernel)
theorem kw_1057 : Cond.instanceMethod yX1_finish ∈ gW := gw_of (k := 1057) (by decide +kernel) (by decide +kernel)
theorem kw_1058 : Cond.code yX1_finish cX1_finish 6 none ∈ gW := gw_of (k := 1058) (by decide +kernel) (by decide +kernel)
theorem kw_1059 : Cond.methodLink "Schedulary$Circuit" 87 yX1_valueFrom ∈ gW := gw_of (k := 1059) (by decide +kernel) (by decide +kernel)
theorem kw_1061 : Cond.instanceMethod yX1_valueFrom ∈ gW := gw_of (k := 1061) (by decide +kernel) (by decide +kernel)
theorem kw_1062 : Cond.code yX1_valueFrom cX1_valueFrom 3 (some .int) ∈ gW := gw_of (k := 1062) (by decide +kernel) (by decide +kernel)
theorem kw_1063 : Cond.methodLinkNest "Schedulary$Circuit" 91 yX6_write "Schedulary" ∈ gX := gx_of (k := 1063) (by decide +kernel) (by decide +kernel)
theorem kw_1064 : Cond.methodLink "Schedulary$Circuit" 66 yX1_begin ∈ gW := gw_of (k := 1064) (by decide +kernel) (by decide +kernel)
theorem kw_1066 : Cond.instanceMethod yX1_begin ∈ gW := gw_of (k := 1066) (by decide +kernel) (by decide +kernel)
theorem kw_1067 : Cond.code yX1_begin cX1_begin 8 none ∈ gW := gw_of (k := 1067) (by decide +kernel) (by decide +kernel)
theorem kw_1068 : Cond.methodLinkNest "Schedulary$Circuit" 101 yX6_valueOf "Schedulary" ∈ gX := gx_of (k := 1068) (by decide +kernel) (by decide +kernel)
theorem kw_1069 : Cond.methodLinkNest "Schedulary$Circuit" 111 yX8_operate "Schedulary" ∈ gX := gx_of (k := 1069) (by decide +kernel) (by decide +kernel)
theorem kw_1070 : Cond.methodLinkNest "Schedulary$Circuit" 116 yX6_cut "Schedulary" ∈ gX := gx_of (k := 1070) (by decide +kernel) (by decide +kernel)
theorem kw_1071 : Cond.methodLink "Schedulary" 409 yJ9_max_7cf53 ∈ gW := gw_of (k := 1071) (by decide +kernel) (by decide +kernel)
theorem kw_1075 : Cond.code yX11_edges cX11_edges 1 (some .int) ∈ gW := gw_of (k := 1075) (by decide +kernel) (by decide +kernel)
theorem kw_1079 : Cond.code yX11_length cX11_length 1 (some .int) ∈ gW := gw_of (k := 1079) (by decide +kernel) (by decide +kernel)
theorem kw_1080 : Cond.methodLinkNest "Schedulary" 282 yX0_endOf "Schedulary" ∈ gX := gx_of (k := 1080) (by decide +kernel) (by decide +kernel)
theorem kw_1084 : Cond.code yX11_inStep cX11_inStep 2 (some .int) ∈ gW := gw_of (k := 1084) (by decide +kernel) (by decide +kernel)
theorem kw_1085 : Cond.methodLinkNest "Schedulary" 286 yX9_countIn "Schedulary" ∈ gX := gx_of (k := 1085) (by decide +kernel) (by decide +kernel)
theorem kw_1087 : Cond.instanceMethod yX9_countIn ∈ gW := gw_of (k := 1087) (by decide +kernel) (by decide +kernel)
theorem kw_1088 : Cond.code yX9_countIn cX9_countIn 5 (some .int) ∈ gW := gw_of (k := 1088) (by decide +kernel) (by decide +kernel)
theorem kw_1092 : Cond.code yX11_waiting cX11_waiting 1 (some .int) ∈ gW := gw_of (k := 1092) (by decide +kernel) (by decide +kernel)
theorem kw_1093 : Cond.methodLinkNest "Schedulary" 290 yX9_mostWaiting "Schedulary" ∈ gX := gx_of (k := 1093) (by decide +kernel) (by decide +kernel)
theorem kw_1095 : Cond.instanceMethod yX9_mostWaiting ∈ gW := gw_of (k := 1095) (by decide +kernel) (by decide +kernel)
theorem kw_1096 : Cond.code yX9_mostWaiting cX9_mostWaiting 5 (some .int) ∈ gW := gw_of (k := 1096) (by decide +kernel) (by decide +kernel)
theorem kw_1097 : Cond.methodLink "Schedulary$Steps" 111 yX9_waitFor ∈ gW := gw_of (k := 1097) (by decide +kernel) (by decide +kernel)
theorem kw_1099 : Cond.instanceMethod yX9_waitFor ∈ gW := gw_of (k := 1099) (by decide +kernel) (by decide +kernel)
theorem kw_1100 : Cond.code yX9_waitFor cX9_waitFor 7 none ∈ gW := gw_of (k := 1100) (by decide +kernel) (by decide +kernel)
theorem kw_1101 : Cond.methodLink "Schedulary$Steps" 115 yX9_lastUse ∈ gW := gw_of (k := 1101) (by decide +kernel) (by decide +kernel)
theorem kw_1103 : Cond.instanceMethod yX9_lastUse ∈ gW := gw_of (k := 1103) (by decide +kernel) (by decide +kernel)
theorem kw_1104 : Cond.code yX9_lastUse cX9_lastUse 9 (some .int) ∈ gW := gw_of (k := 1104) (by decide +kernel) (by decide +kernel)
theorem kw_1105 : Cond.methodLinkNest "Schedulary$Steps" 119 yX0_nextMakerBehind "Schedulary" ∈ gX := gx_of (k := 1105) (by decide +kernel) (by decide +kernel)
theorem kw_1106 : Cond.methodLinkNest "Schedulary$Steps" 122 yX3_isUsing "Schedulary" ∈ gX := gx_of (k := 1106) (by decide +kernel) (by decide +kernel)
theorem kw_1110 : Cond.code yX11_byRings cX11_byRings 1 (some .int) ∈ gW := gw_of (k := 1110) (by decide +kernel) (by decide +kernel)
theorem kw_1114 : Cond.code yX11_byUnits cX11_byUnits 1 (some .int) ∈ gW := gw_of (k := 1114) (by decide +kernel) (by decide +kernel)
theorem kw_1118 : Cond.code yX11_interval cX11_interval 1 (some .int) ∈ gW := gw_of (k := 1118) (by decide +kernel) (by decide +kernel)
theorem kw_1122 : Cond.code yX11_binds cX11_binds 1 (some .char) ∈ gW := gw_of (k := 1122) (by decide +kernel) (by decide +kernel)
theorem kw_1123 : Cond.methodLinkNest "Schedulary" 303 yX4_findBinding "Schedulary" ∈ gX := gx_of (k := 1123) (by decide +kernel) (by decide +kernel)
theorem kw_1125 : Cond.instanceMethod yX4_findBinding ∈ gW := gw_of (k := 1125) (by decide +kernel) (by decide +kernel)
theorem kw_1126 : Cond.code yX4_findBinding cX4_findBinding 3 (some .char) ∈ gW := gw_of (k := 1126) (by decide +kernel) (by decide +kernel)
theorem kw_1128 : Cond.methodLink "Schedulary$Pace" 118 yJ0_charAt_5068e ∈ gW := gw_of (k := 1128) (by decide +kernel) (by decide +kernel)
theorem kw_1129 : Cond.instanceMethod yJ0_charAt_5068e ∈ gW := gw_of (k := 1129) (by decide +kernel) (by decide +kernel)
theorem kw_1130 : Cond.selects "java/lang/String" yJ0_charAt_5068e yJ0_charAt_5068e ∈ gW := gw_of (k := 1130) (by decide +kernel) (by decide +kernel)
theorem kw_1131 : Cond.code yJ0_charAt_5068e cJ0_charAt_5068e 2 (some .char) ∈ gW := gw_of (k := 1131) (by decide +kernel) (by decide +kernel)
theorem kw_1132 : Cond.methodLink "java/lang/String" 495 yJ1_charAt_3b067 ∈ gW := gw_of (k := 1132) (by decide +kernel) (by decide +kernel)
theorem kw_1133 : Cond.static yJ1_charAt_3b067 ∈ gW := gw_of (k := 1133) (by decide +kernel) (by decide +kernel)
theorem kw_1134 : Cond.code yJ1_charAt_3b067 cJ1_charAt_3b067 2 (some .char) ∈ gW := gw_of (k := 1134) (by decide +kernel) (by decide +kernel)
theorem kw_1135 : Cond.methodLink "java/lang/StringLatin1" 9 yJ0_checkIndex_df160 ∈ gW := gw_of (k := 1135) (by decide +kernel) (by decide +kernel)
theorem kw_1136 : Cond.static yJ0_checkIndex_df160 ∈ gW := gw_of (k := 1136) (by decide +kernel) (by decide +kernel)
theorem kw_1137 : Cond.code yJ0_checkIndex_df160 cJ0_checkIndex_df160 2 none ∈ gW := gw_of (k := 1137) (by decide +kernel) (by decide +kernel)
theorem kw_1138 : Cond.methodLink "java/lang/String" 1059 yJ3_checkIndex_8e157 ∈ gW := gw_of (k := 1138) (by decide +kernel) (by decide +kernel)
theorem kw_1139 : Cond.static yJ3_checkIndex_8e157 ∈ gW := gw_of (k := 1139) (by decide +kernel) (by decide +kernel)
theorem kw_1140 : Cond.code yJ3_checkIndex_8e157 cJ3_checkIndex_8e157 3 (some .int) ∈ gW := gw_of (k := 1140) (by decide +kernel) (by decide +kernel)
theorem kw_1151 : Cond.code yX11_cycles cX11_cycles 1 (some .int) ∈ gW := gw_of (k := 1151) (by decide +kernel) (by decide +kernel)
theorem kw_1152 : Cond.methodLinkNest "Schedulary" 310 yX6_bodyTurns "Schedulary" ∈ gX := gx_of (k := 1152) (by decide +kernel) (by decide +kernel)
theorem kw_1153 : Cond.methodLinkNest "Schedulary" 313 yX4_countCycles "Schedulary" ∈ gX := gx_of (k := 1153) (by decide +kernel) (by decide +kernel)
theorem kw_1157 : Cond.code yX11_oneByOne cX11_oneByOne 1 (some .int) ∈ gW := gw_of (k := 1157) (by decide +kernel) (by decide +kernel)
theorem kw_1158 : Cond.methodLinkNest "Schedulary" 316 yX0_sumOfCycles "Schedulary" ∈ gX := gx_of (k := 1158) (by decide +kernel) (by decide +kernel)
theorem kw_1162 : Cond.code yX11_circuitOutputs cX11_circuitOutputs 1 (some .int) ∈ gW := gw_of (k := 1162) (by decide +kernel) (by decide +kernel)
theorem kw_1166 : Cond.code yX11_isSame cX11_isSame 1 (some .boolean) ∈ gW := gw_of (k := 1166) (by decide +kernel) (by decide +kernel)
theorem kw_1167 : Cond.methodLinkNest "Schedulary" 322 yX7_isLike "Schedulary" ∈ gX := gx_of (k := 1167) (by decide +kernel) (by decide +kernel)
theorem kw_1169 : Cond.instanceMethod yX7_isLike ∈ gW := gw_of (k := 1169) (by decide +kernel) (by decide +kernel)
theorem kw_1170 : Cond.code yX7_isLike cX7_isLike 3 (some .boolean) ∈ gW := gw_of (k := 1170) (by decide +kernel) (by decide +kernel)
theorem kw_1171 : Cond.methodLink "Schedulary$State" 43 yX7_hasRegistersOf ∈ gW := gw_of (k := 1171) (by decide +kernel) (by decide +kernel)
theorem kw_1173 : Cond.instanceMethod yX7_hasRegistersOf ∈ gW := gw_of (k := 1173) (by decide +kernel) (by decide +kernel)
theorem kw_1174 : Cond.code yX7_hasRegistersOf cX7_hasRegistersOf 3 (some .boolean) ∈ gW := gw_of (k := 1174) (by decide +kernel) (by decide +kernel)
theorem kw_1175 : Cond.methodLink "Schedulary$State" 47 yX7_hasMemoriesOf ∈ gW := gw_of (k := 1175) (by decide +kernel) (by decide +kernel)
theorem kw_1177 : Cond.instanceMethod yX7_hasMemoriesOf ∈ gW := gw_of (k := 1177) (by decide +kernel) (by decide +kernel)
theorem kw_1178 : Cond.code yX7_hasMemoriesOf cX7_hasMemoriesOf 4 (some .boolean) ∈ gW := gw_of (k := 1178) (by decide +kernel) (by decide +kernel)
theorem kw_1182 : Cond.code yX11_done cX11_done 1 (some .int) ∈ gW := gw_of (k := 1182) (by decide +kernel) (by decide +kernel)
theorem kw_1183 : Cond.methodLinkNest "Schedulary" 341 yX5_goWithTheirDepths "Schedulary" ∈ gX := gx_of (k := 1183) (by decide +kernel) (by decide +kernel)
theorem kw_1185 : Cond.instanceMethod yX5_goWithTheirDepths ∈ gW := gw_of (k := 1185) (by decide +kernel) (by decide +kernel)
theorem kw_1186 : Cond.code yX5_goWithTheirDepths cX5_goWithTheirDepths 2 none ∈ gW := gw_of (k := 1186) (by decide +kernel) (by decide +kernel)
theorem kw_1187 : Cond.methodLink "Schedulary$Processes" 35 yX5_go ∈ gW := gw_of (k := 1187) (by decide +kernel) (by decide +kernel)
theorem kw_1189 : Cond.instanceMethod yX5_go ∈ gW := gw_of (k := 1189) (by decide +kernel) (by decide +kernel)
theorem kw_1190 : Cond.code yX5_go cX5_go 5 none ∈ gW := gw_of (k := 1190) (by decide +kernel) (by decide +kernel)
theorem kw_1191 : Cond.methodLink "Schedulary$Processes" 42 yX5_goOn ∈ gW := gw_of (k := 1191) (by decide +kernel) (by decide +kernel)
theorem kw_1193 : Cond.instanceMethod yX5_goOn ∈ gW := gw_of (k := 1193) (by decide +kernel) (by decide +kernel)
theorem kw_1194 : Cond.code yX5_goOn cX5_goOn 5 none ∈ gW := gw_of (k := 1194) (by decide +kernel) (by decide +kernel)
theorem kw_1195 : Cond.methodLinkNest "Schedulary" 344 yX5_countDone "Schedulary" ∈ gX := gx_of (k := 1195) (by decide +kernel) (by decide +kernel)
theorem kw_1197 : Cond.instanceMethod yX5_countDone ∈ gW := gw_of (k := 1197) (by decide +kernel) (by decide +kernel)
theorem kw_1198 : Cond.code yX5_countDone cX5_countDone 3 (some .int) ∈ gW := gw_of (k := 1198) (by decide +kernel) (by decide +kernel)
theorem kw_1202 : Cond.code yX11_areLocked cX11_areLocked 1 (some .boolean) ∈ gW := gw_of (k := 1202) (by decide +kernel) (by decide +kernel)
theorem kw_1203 : Cond.methodLinkNest "Schedulary" 352 yX5_isSomeLeft "Schedulary" ∈ gX := gx_of (k := 1203) (by decide +kernel) (by decide +kernel)
theorem kw_1205 : Cond.instanceMethod yX5_isSomeLeft ∈ gW := gw_of (k := 1205) (by decide +kernel) (by decide +kernel)
theorem kw_1206 : Cond.code yX5_isSomeLeft cX5_isSomeLeft 2 (some .boolean) ∈ gW := gw_of (k := 1206) (by decide +kernel) (by decide +kernel)
theorem kw_1210 : Cond.code yX11_checksum cX11_checksum 4 (some .long) ∈ gW := gw_of (k := 1210) (by decide +kernel) (by decide +kernel)
theorem kw_1211 : Cond.constantLong "Schedulary" 361 (31 : Int64) ∈ gW := gw_of (k := 1211) (by decide +kernel) (by decide +kernel)
theorem kw_1212 : Cond.constantLong "Schedulary" 363 (7 : Int64) ∈ gW := gw_of (k := 1212) (by decide +kernel) (by decide +kernel)
theorem kw_1216 : Cond.code yX11_isSound cX11_isSound 1 (some .boolean) ∈ gW := gw_of (k := 1216) (by decide +kernel) (by decide +kernel)
theorem kw_1217 : Cond.methodLinkNest "Schedulary" 375 yX9_areKept "Schedulary" ∈ gX := gx_of (k := 1217) (by decide +kernel) (by decide +kernel)
theorem kw_1219 : Cond.instanceMethod yX9_areKept ∈ gW := gw_of (k := 1219) (by decide +kernel) (by decide +kernel)
theorem kw_1220 : Cond.code yX9_areKept cX9_areKept 3 (some .boolean) ∈ gW := gw_of (k := 1220) (by decide +kernel) (by decide +kernel)
theorem kw_1221 : Cond.methodLinkNest "Schedulary$Steps" 126 yX2_isKept "Schedulary" ∈ gX := gx_of (k := 1221) (by decide +kernel) (by decide +kernel)
theorem kw_1223 : Cond.instanceMethod yX2_isKept ∈ gW := gw_of (k := 1223) (by decide +kernel) (by decide +kernel)
theorem kw_1224 : Cond.code yX2_isKept cX2_isKept 9 (some .boolean) ∈ gW := gw_of (k := 1224) (by decide +kernel) (by decide +kernel)
theorem kw_1225 : Cond.methodLinkNest "Schedulary$Steps" 130 yX0_areUnitsKept "Schedulary" ∈ gX := gx_of (k := 1225) (by decide +kernel) (by decide +kernel)
theorem kw_1227 : Cond.instanceMethod yX0_areUnitsKept ∈ gW := gw_of (k := 1227) (by decide +kernel) (by decide +kernel)
theorem kw_1228 : Cond.code yX0_areUnitsKept cX0_areUnitsKept 4 (some .boolean) ∈ gW := gw_of (k := 1228) (by decide +kernel) (by decide +kernel)
theorem kw_1229 : Cond.methodLink "Schedulary$Body" 125 yX0_countTogether ∈ gW := gw_of (k := 1229) (by decide +kernel) (by decide +kernel)
theorem kw_1231 : Cond.instanceMethod yX0_countTogether ∈ gW := gw_of (k := 1231) (by decide +kernel) (by decide +kernel)
theorem kw_1232 : Cond.code yX0_countTogether cX0_countTogether 6 (some .int) ∈ gW := gw_of (k := 1232) (by decide +kernel) (by decide +kernel)
theorem kw_1233 : Cond.methodLinkNest "Schedulary$Body" 129 yX11_isDivided "Schedulary" ∈ gX := gx_of (k := 1233) (by decide +kernel) (by decide +kernel)
theorem kw_1234 : Cond.methodLinkNest "Schedulary" 379 yX9_areInOrder "Schedulary" ∈ gX := gx_of (k := 1234) (by decide +kernel) (by decide +kernel)
theorem kw_1236 : Cond.instanceMethod yX9_areInOrder ∈ gW := gw_of (k := 1236) (by decide +kernel) (by decide +kernel)
theorem kw_1237 : Cond.code yX9_areInOrder cX9_areInOrder 3 (some .boolean) ∈ gW := gw_of (k := 1237) (by decide +kernel) (by decide +kernel)
theorem kw_1238 : Cond.methodLinkNest "Schedulary" 383 yX4_isKept "Schedulary" ∈ gX := gx_of (k := 1238) (by decide +kernel) (by decide +kernel)
theorem kw_1240 : Cond.instanceMethod yX4_isKept ∈ gW := gw_of (k := 1240) (by decide +kernel) (by decide +kernel)
theorem kw_1241 : Cond.code yX4_isKept cX4_isKept 3 (some .boolean) ∈ gW := gw_of (k := 1241) (by decide +kernel) (by decide +kernel)
theorem kw_1242 : Cond.methodLinkNest "Schedulary$Pace" 128 yX2_isKept "Schedulary" ∈ gX := gx_of (k := 1242) (by decide +kernel) (by decide +kernel)
theorem kw_1243 : Cond.methodLinkNest "Schedulary$Pace" 132 yX0_areUnitsKept "Schedulary" ∈ gX := gx_of (k := 1243) (by decide +kernel) (by decide +kernel)
theorem kw_1252 : Cond.code yX11_type cX11_type 2 (some .int) ∈ gW := gw_of (k := 1252) (by decide +kernel) (by decide +kernel)
theorem kw_1254 : Cond.methodLink "Schedulary" 82 yJ0_indexOf_0f7a4 ∈ gW := gw_of (k := 1254) (by decide +kernel) (by decide +kernel)
theorem kw_1255 : Cond.classLink "Schedulary" 88 "java/lang/IllegalArgumentException" ∈ gW := gw_of (k := 1255) (by decide +kernel) (by decide +kernel)
theorem kw_1326 : Cond.classLink "Schedulary" 98 "java/lang/IllegalStateException" ∈ gW := gw_of (k := 1326) (by decide +kernel) (by decide +kernel)
theorem kw_1342 : Cond.methodLinkNest "Schedulary" 103 yX10_append "Schedulary" ∈ gX := gx_of (k := 1342) (by decide +kernel) (by decide +kernel)
theorem kw_1344 : Cond.instanceMethod yX10_append ∈ gW := gw_of (k := 1344) (by decide +kernel) (by decide +kernel)
theorem kw_1345 : Cond.code yX10_append cX10_append 2 none ∈ gW := gw_of (k := 1345) (by decide +kernel) (by decide +kernel)
theorem kw_1352 : Cond.code yX11_add cX11_add 2 (some .int) ∈ gW := gw_of (k := 1352) (by decide +kernel) (by decide +kernel)
theorem kw_1355 : Cond.methodLinkNest "Schedulary" 127 yX6_useSpare "Schedulary" ∈ gX := gx_of (k := 1355) (by decide +kernel) (by decide +kernel)
theorem kw_1357 : Cond.instanceMethod yX6_useSpare ∈ gW := gw_of (k := 1357) (by decide +kernel) (by decide +kernel)
theorem kw_1358 : Cond.code yX6_useSpare cX6_useSpare 3 none ∈ gW := gw_of (k := 1358) (by decide +kernel) (by decide +kernel)
theorem kw_1359 : Cond.methodLink "Schedulary" 131 yX11_changeBody ∈ gW := gw_of (k := 1359) (by decide +kernel) (by decide +kernel)
theorem kw_1361 : Cond.instanceMethod yX11_changeBody ∈ gW := gw_of (k := 1361) (by decide +kernel) (by decide +kernel)
theorem kw_1362 : Cond.code yX11_changeBody cX11_changeBody 1 none ∈ gW := gw_of (k := 1362) (by decide +kernel) (by decide +kernel)
theorem kw_1393 : Cond.code yX11_replace cX11_replace 2 (some .int) ∈ gW := gw_of (k := 1393) (by decide +kernel) (by decide +kernel)
theorem kw_1394 : Cond.classLink "Schedulary" 134 "java/lang/IndexOutOfBoundsException" ∈ gW := gw_of (k := 1394) (by decide +kernel) (by decide +kernel)
theorem kw_1414 : Cond.code yX11_setTurns cX11_setTurns 3 (some .int) ∈ gW := gw_of (k := 1414) (by decide +kernel) (by decide +kernel)
theorem kw_1415 : Cond.methodLink "Schedulary" 143 yX11_isWithin ∈ gW := gw_of (k := 1415) (by decide +kernel) (by decide +kernel)
theorem kw_1417 : Cond.methodLink "Schedulary" 149 yX11_isDivided ∈ gW := gw_of (k := 1417) (by decide +kernel) (by decide +kernel)
theorem kw_1418 : Cond.classLink "Schedulary" 153 "java/lang/UnsupportedOperationException" ∈ gW := gw_of (k := 1418) (by decide +kernel) (by decide +kernel)
theorem kw_1434 : Cond.methodLink "Schedulary" 161 yX11_changeValues ∈ gW := gw_of (k := 1434) (by decide +kernel) (by decide +kernel)
theorem kw_1436 : Cond.instanceMethod yX11_changeValues ∈ gW := gw_of (k := 1436) (by decide +kernel) (by decide +kernel)
theorem kw_1437 : Cond.code yX11_changeValues cX11_changeValues 1 none ∈ gW := gw_of (k := 1437) (by decide +kernel) (by decide +kernel)
theorem kw_1438 : Cond.methodLink "Schedulary" 206 yJ9_min_7cf53 ∈ gW := gw_of (k := 1438) (by decide +kernel) (by decide +kernel)
theorem kw_1445 : Cond.code yX11_setBits cX11_setBits 3 (some .int) ∈ gW := gw_of (k := 1445) (by decide +kernel) (by decide +kernel)
theorem kw_1453 : Cond.code yX11_unroll cX11_unroll 2 (some .int) ∈ gW := gw_of (k := 1453) (by decide +kernel) (by decide +kernel)
theorem kw_1462 : Cond.code yX11_input cX11_input 2 (some .int) ∈ gW := gw_of (k := 1462) (by decide +kernel) (by decide +kernel)
theorem kw_1463 : Cond.constant "Schedulary" 173 (65535 : Int32) ∈ gW := gw_of (k := 1463) (by decide +kernel) (by decide +kernel)
theorem kw_1472 : Cond.code yX11_setMemory cX11_setMemory 6 (some .int) ∈ gW := gw_of (k := 1472) (by decide +kernel) (by decide +kernel)
theorem kw_1473 : Cond.methodLink "Schedulary" 185 yX11_isPlace ∈ gW := gw_of (k := 1473) (by decide +kernel) (by decide +kernel)
theorem kw_1474 : Cond.static yX11_isPlace ∈ gW := gw_of (k := 1474) (by decide +kernel) (by decide +kernel)
theorem kw_1475 : Cond.code yX11_isPlace cX11_isPlace 2 (some .boolean) ∈ gW := gw_of (k := 1475) (by decide +kernel) (by decide +kernel)
theorem kw_1484 : Cond.code yX11_setUnits cX11_setUnits 5 (some .int) ∈ gW := gw_of (k := 1484) (by decide +kernel) (by decide +kernel)
theorem kw_1494 : Cond.code yX11_setCycles cX11_setCycles 5 (some .int) ∈ gW := gw_of (k := 1494) (by decide +kernel) (by decide +kernel)
theorem kw_1502 : Cond.code yX11_output cX11_output 2 (some .int) ∈ gW := gw_of (k := 1502) (by decide +kernel) (by decide +kernel)
theorem kw_1510 : Cond.code yX11_memoryAt cX11_memoryAt 3 (some .int) ∈ gW := gw_of (k := 1510) (by decide +kernel) (by decide +kernel)
theorem kw_1512 : Cond.methodLinkNest "Schedulary" 230 yX7_look "Schedulary" ∈ gX := gx_of (k := 1512) (by decide +kernel) (by decide +kernel)
theorem kw_1519 : Cond.code yX11_register cX11_register 2 (some .int) ∈ gW := gw_of (k := 1519) (by decide +kernel) (by decide +kernel)
theorem kw_1527 : Cond.code yX11_kindOf cX11_kindOf 2 (some .char) ∈ gW := gw_of (k := 1527) (by decide +kernel) (by decide +kernel)
theorem kw_1528 : Cond.methodLink "Schedulary" 241 yX11_checkNode ∈ gW := gw_of (k := 1528) (by decide +kernel) (by decide +kernel)
theorem kw_1530 : Cond.instanceMethod yX11_checkNode ∈ gW := gw_of (k := 1530) (by decide +kernel) (by decide +kernel)
theorem kw_1531 : Cond.code yX11_checkNode cX11_checkNode 2 none ∈ gW := gw_of (k := 1531) (by decide +kernel) (by decide +kernel)
theorem kw_1533 : Cond.methodLink "Schedulary" 253 yJ0_charAt_5068e ∈ gW := gw_of (k := 1533) (by decide +kernel) (by decide +kernel)
theorem kw_1540 : Cond.code yX11_statementOf cX11_statementOf 2 (some .int) ∈ gW := gw_of (k := 1540) (by decide +kernel) (by decide +kernel)
theorem kw_1548 : Cond.code yX11_weight cX11_weight 5 (some .int) ∈ gW := gw_of (k := 1548) (by decide +kernel) (by decide +kernel)
theorem kw_1549 : Cond.methodLinkNest "Schedulary" 261 yX2_find "Schedulary" ∈ gX := gx_of (k := 1549) (by decide +kernel) (by decide +kernel)
theorem kw_1550 : Cond.classLink "Schedulary" 265 "java/util/NoSuchElementException" ∈ gW := gw_of (k := 1550) (by decide +kernel) (by decide +kernel)
theorem kw_1572 : Cond.code yX11_soon cX11_soon 2 (some .int) ∈ gW := gw_of (k := 1572) (by decide +kernel) (by decide +kernel)
theorem kw_1579 : Cond.code yX11_late cX11_late 2 (some .int) ∈ gW := gw_of (k := 1579) (by decide +kernel) (by decide +kernel)
theorem kw_1586 : Cond.code yX11_step cX11_step 2 (some .int) ∈ gW := gw_of (k := 1586) (by decide +kernel) (by decide +kernel)
theorem kw_1593 : Cond.code yX11_place cX11_place 2 (some .int) ∈ gW := gw_of (k := 1593) (by decide +kernel) (by decide +kernel)
theorem kw_1600 : Cond.code yX11_circuitOutput cX11_circuitOutput 2 (some .int) ∈ gW := gw_of (k := 1600) (by decide +kernel) (by decide +kernel)
theorem kw_1607 : Cond.code yX11_circuitMemory cX11_circuitMemory 3 (some .int) ∈ gW := gw_of (k := 1607) (by decide +kernel) (by decide +kernel)
theorem kw_1614 : Cond.code yX11_action cX11_action 4 (some .int) ∈ gW := gw_of (k := 1614) (by decide +kernel) (by decide +kernel)
theorem kw_1617 : Cond.methodLinkNest "Schedulary" 333 yX5_append "Schedulary" ∈ gX := gx_of (k := 1617) (by decide +kernel) (by decide +kernel)
theorem kw_1619 : Cond.instanceMethod yX5_append ∈ gW := gw_of (k := 1619) (by decide +kernel) (by decide +kernel)
theorem kw_1620 : Cond.code yX5_append cX5_append 5 (some .int) ∈ gW := gw_of (k := 1620) (by decide +kernel) (by decide +kernel)
theorem kw_1627 : Cond.code yX11_setDepth cX11_setDepth 4 (some .int) ∈ gW := gw_of (k := 1627) (by decide +kernel) (by decide +kernel)
theorem kw_1635 : Cond.code yX11_waitsFor cX11_waitsFor 2 (some .int) ∈ gW := gw_of (k := 1635) (by decide +kernel) (by decide +kernel)
theorem kw_1637 : Cond.methodLinkNest "Schedulary" 349 yX5_nextChannel "Schedulary" ∈ gX := gx_of (k := 1637) (by decide +kernel) (by decide +kernel)
theorem kw_1639 : Cond.instanceMethod yX5_nextChannel ∈ gW := gw_of (k := 1639) (by decide +kernel) (by decide +kernel)
theorem kw_1640 : Cond.code yX5_nextChannel cX5_nextChannel 3 (some .int) ∈ gW := gw_of (k := 1640) (by decide +kernel) (by decide +kernel)
theorem kw_1647 : Cond.code yX11_leastDepth cX11_leastDepth 2 (some .int) ∈ gW := gw_of (k := 1647) (by decide +kernel) (by decide +kernel)
theorem kw_1648 : Cond.methodLinkNest "Schedulary" 356 yX5_findLeastDepth "Schedulary" ∈ gX := gx_of (k := 1648) (by decide +kernel) (by decide +kernel)
theorem kw_1650 : Cond.instanceMethod yX5_findLeastDepth ∈ gW := gw_of (k := 1650) (by decide +kernel) (by decide +kernel)
theorem kw_1651 : Cond.code yX5_findLeastDepth cX5_findLeastDepth 3 (some .int) ∈ gW := gw_of (k := 1651) (by decide +kernel) (by decide +kernel)
theorem kw_1652 : Cond.methodLink "Schedulary$Processes" 38 yX5_isSomeLeft ∈ gW := gw_of (k := 1652) (by decide +kernel) (by decide +kernel)
theorem kw_1692 : Cond.fieldLink "SchedularyModel" 127 "SchedularyModel" "thrown" "I" ∈ gW := gw_of (k := 1692) (by decide +kernel) (by decide +kernel)
theorem kw_1693 : Cond.fieldLink "SchedularyModel" 146 "SchedularyModel" "many" "I" ∈ gW := gw_of (k := 1693) (by decide +kernel) (by decide +kernel)
theorem kw_1694 : Cond.fieldLink "SchedularyModel" 7 "SchedularyModel" "buffer" "[C" ∈ gW := gw_of (k := 1694) (by decide +kernel) (by decide +kernel)
theorem kw_1695 : Cond.fieldLink "SchedularyModel" 13 "SchedularyModel" "parsed" "[I" ∈ gW := gw_of (k := 1695) (by decide +kernel) (by decide +kernel)
theorem kw_1696 : Cond.fieldLink "SchedularyModel" 149 "SchedularyModel" "place" "I" ∈ gW := gw_of (k := 1696) (by decide +kernel) (by decide +kernel)
theorem kw_1697 : Cond.fieldLink "SchedularyModel" 152 "SchedularyModel" "fault" "I" ∈ gW := gw_of (k := 1697) (by decide +kernel) (by decide +kernel)
theorem kw_1698 : Cond.fieldLink "SchedularyModel" 186 "SchedularyModel" "statements" "I" ∈ gW := gw_of (k := 1698) (by decide +kernel) (by decide +kernel)
theorem kw_1699 : Cond.fieldLink "SchedularyModel" 17 "SchedularyModel" "program" "[I" ∈ gW := gw_of (k := 1699) (by decide +kernel) (by decide +kernel)
theorem kw_1700 : Cond.fieldLink "SchedularyModel" 20 "SchedularyModel" "turns" "I" ∈ gW := gw_of (k := 1700) (by decide +kernel) (by decide +kernel)
theorem kw_1701 : Cond.fieldLink "SchedularyModel" 24 "SchedularyModel" "bits" "I" ∈ gW := gw_of (k := 1701) (by decide +kernel) (by decide +kernel)
theorem kw_1702 : Cond.fieldLink "SchedularyModel" 27 "SchedularyModel" "factor" "I" ∈ gW := gw_of (k := 1702) (by decide +kernel) (by decide +kernel)
theorem kw_1703 : Cond.fieldLink "SchedularyModel" 200 "SchedularyModel" "inputs" "I" ∈ gW := gw_of (k := 1703) (by decide +kernel) (by decide +kernel)
theorem kw_1704 : Cond.fieldLink "SchedularyModel" 30 "SchedularyModel" "input" "[I" ∈ gW := gw_of (k := 1704) (by decide +kernel) (by decide +kernel)
theorem kw_1705 : Cond.fieldLink "SchedularyModel" 33 "SchedularyModel" "told" "[I" ∈ gW := gw_of (k := 1705) (by decide +kernel) (by decide +kernel)
theorem kw_1706 : Cond.fieldLink "SchedularyModel" 36 "SchedularyModel" "units" "[I" ∈ gW := gw_of (k := 1706) (by decide +kernel) (by decide +kernel)
theorem kw_1707 : Cond.fieldLink "SchedularyModel" 39 "SchedularyModel" "takes" "[I" ∈ gW := gw_of (k := 1707) (by decide +kernel) (by decide +kernel)
theorem kw_1708 : Cond.fieldLink "SchedularyModel" 42 "SchedularyModel" "registers" "[I" ∈ gW := gw_of (k := 1708) (by decide +kernel) (by decide +kernel)
theorem kw_1709 : Cond.fieldLink "SchedularyModel" 45 "SchedularyModel" "memory" "[I" ∈ gW := gw_of (k := 1709) (by decide +kernel) (by decide +kernel)
theorem kw_1710 : Cond.fieldLink "SchedularyModel" 48 "SchedularyModel" "out" "[I" ∈ gW := gw_of (k := 1710) (by decide +kernel) (by decide +kernel)
theorem kw_1711 : Cond.fieldLink "SchedularyModel" 216 "SchedularyModel" "outs" "I" ∈ gW := gw_of (k := 1711) (by decide +kernel) (by decide +kernel)
theorem kw_1712 : Cond.fieldLink "SchedularyModel" 219 "SchedularyModel" "taken" "I" ∈ gW := gw_of (k := 1712) (by decide +kernel) (by decide +kernel)
theorem kw_1713 : Cond.fieldLink "SchedularyModel" 196 "SchedularyModel" "nodes" "I" ∈ gW := gw_of (k := 1713) (by decide +kernel) (by decide +kernel)
theorem kw_1714 : Cond.fieldLink "SchedularyModel" 51 "SchedularyModel" "nodeStatement" "[I" ∈ gW := gw_of (k := 1714) (by decide +kernel) (by decide +kernel)
theorem kw_1715 : Cond.fieldLink "SchedularyModel" 54 "SchedularyModel" "nodeRole" "[I" ∈ gW := gw_of (k := 1715) (by decide +kernel) (by decide +kernel)
theorem kw_1716 : Cond.fieldLink "SchedularyModel" 57 "SchedularyModel" "nodeKind" "[I" ∈ gW := gw_of (k := 1716) (by decide +kernel) (by decide +kernel)
theorem kw_1717 : Cond.fieldLink "SchedularyModel" 60 "SchedularyModel" "reads" "[I" ∈ gW := gw_of (k := 1717) (by decide +kernel) (by decide +kernel)
theorem kw_1718 : Cond.fieldLink "SchedularyModel" 63 "SchedularyModel" "makes" "[I" ∈ gW := gw_of (k := 1718) (by decide +kernel) (by decide +kernel)
theorem kw_1719 : Cond.fieldLink "SchedularyModel" 66 "SchedularyModel" "writes" "[I" ∈ gW := gw_of (k := 1719) (by decide +kernel) (by decide +kernel)
theorem kw_1720 : Cond.fieldLink "SchedularyModel" 69 "SchedularyModel" "byTurn" "[Z" ∈ gW := gw_of (k := 1720) (by decide +kernel) (by decide +kernel)
theorem kw_1721 : Cond.fieldLink "SchedularyModel" 73 "SchedularyModel" "offset" "[I" ∈ gW := gw_of (k := 1721) (by decide +kernel) (by decide +kernel)
theorem kw_1722 : Cond.fieldLink "SchedularyModel" 273 "SchedularyModel" "edges" "I" ∈ gW := gw_of (k := 1722) (by decide +kernel) (by decide +kernel)
theorem kw_1723 : Cond.fieldLink "SchedularyModel" 76 "SchedularyModel" "edgeFrom" "[I" ∈ gW := gw_of (k := 1723) (by decide +kernel) (by decide +kernel)
theorem kw_1724 : Cond.fieldLink "SchedularyModel" 79 "SchedularyModel" "edgeTo" "[I" ∈ gW := gw_of (k := 1724) (by decide +kernel) (by decide +kernel)
theorem kw_1725 : Cond.fieldLink "SchedularyModel" 82 "SchedularyModel" "edgeFar" "[I" ∈ gW := gw_of (k := 1725) (by decide +kernel) (by decide +kernel)
theorem kw_1726 : Cond.fieldLink "SchedularyModel" 85 "SchedularyModel" "edgeWeight" "[I" ∈ gW := gw_of (k := 1726) (by decide +kernel) (by decide +kernel)
theorem kw_1727 : Cond.fieldLink "SchedularyModel" 88 "SchedularyModel" "edgeNext" "[I" ∈ gW := gw_of (k := 1727) (by decide +kernel) (by decide +kernel)
theorem kw_1728 : Cond.fieldLink "SchedularyModel" 91 "SchedularyModel" "head" "[I" ∈ gW := gw_of (k := 1728) (by decide +kernel) (by decide +kernel)
theorem kw_1729 : Cond.fieldLink "SchedularyModel" 94 "SchedularyModel" "soon" "[I" ∈ gW := gw_of (k := 1729) (by decide +kernel) (by decide +kernel)
theorem kw_1730 : Cond.fieldLink "SchedularyModel" 97 "SchedularyModel" "late" "[I" ∈ gW := gw_of (k := 1730) (by decide +kernel) (by decide +kernel)
theorem kw_1731 : Cond.fieldLink "SchedularyModel" 100 "SchedularyModel" "listed" "[I" ∈ gW := gw_of (k := 1731) (by decide +kernel) (by decide +kernel)
theorem kw_1732 : Cond.fieldLink "SchedularyModel" 103 "SchedularyModel" "placed" "[I" ∈ gW := gw_of (k := 1732) (by decide +kernel) (by decide +kernel)
theorem kw_1733 : Cond.fieldLink "SchedularyModel" 106 "SchedularyModel" "far" "[I" ∈ gW := gw_of (k := 1733) (by decide +kernel) (by decide +kernel)
theorem kw_1734 : Cond.fieldLink "SchedularyModel" 109 "SchedularyModel" "value" "[I" ∈ gW := gw_of (k := 1734) (by decide +kernel) (by decide +kernel)
theorem kw_1735 : Cond.fieldLink "SchedularyModel" 112 "SchedularyModel" "actions" "[I" ∈ gW := gw_of (k := 1735) (by decide +kernel) (by decide +kernel)
theorem kw_1736 : Cond.fieldLink "SchedularyModel" 115 "SchedularyModel" "action" "[I" ∈ gW := gw_of (k := 1736) (by decide +kernel) (by decide +kernel)
theorem kw_1737 : Cond.fieldLink "SchedularyModel" 118 "SchedularyModel" "depth" "[I" ∈ gW := gw_of (k := 1737) (by decide +kernel) (by decide +kernel)
theorem kw_1738 : Cond.fieldLink "SchedularyModel" 121 "SchedularyModel" "at" "[I" ∈ gW := gw_of (k := 1738) (by decide +kernel) (by decide +kernel)
theorem kw_1739 : Cond.fieldLink "SchedularyModel" 124 "SchedularyModel" "held" "[I" ∈ gW := gw_of (k := 1739) (by decide +kernel) (by decide +kernel)
theorem kw_1740 : Cond.fieldLink "SchedularyModel" 312 "SchedularyModel" "length" "I" ∈ gW := gw_of (k := 1740) (by decide +kernel) (by decide +kernel)
theorem kw_1741 : Cond.lays "SchedularyModel" "SchedularyModel" "thrown" "I" ∈ gW := gw_of (k := 1741) (by decide +kernel) (by decide +kernel)
theorem kw_1743 : Cond.lays "SchedularyModel" "SchedularyModel" "many" "I" ∈ gW := gw_of (k := 1743) (by decide +kernel) (by decide +kernel)
theorem kw_1745 : Cond.laysFinal "SchedularyModel" "SchedularyModel" "buffer" "[C" ∈ gW := gw_of (k := 1745) (by decide +kernel) (by decide +kernel)
theorem kw_1747 : Cond.laysFinal "SchedularyModel" "SchedularyModel" "parsed" "[I" ∈ gW := gw_of (k := 1747) (by decide +kernel) (by decide +kernel)
theorem kw_1749 : Cond.lays "SchedularyModel" "SchedularyModel" "place" "I" ∈ gW := gw_of (k := 1749) (by decide +kernel) (by decide +kernel)
theorem kw_1751 : Cond.lays "SchedularyModel" "SchedularyModel" "fault" "I" ∈ gW := gw_of (k := 1751) (by decide +kernel) (by decide +kernel)
theorem kw_1753 : Cond.lays "SchedularyModel" "SchedularyModel" "statements" "I" ∈ gW := gw_of (k := 1753) (by decide +kernel) (by decide +kernel)
theorem kw_1755 : Cond.laysFinal "SchedularyModel" "SchedularyModel" "program" "[I" ∈ gW := gw_of (k := 1755) (by decide +kernel) (by decide +kernel)
theorem kw_1757 : Cond.lays "SchedularyModel" "SchedularyModel" "turns" "I" ∈ gW := gw_of (k := 1757) (by decide +kernel) (by decide +kernel)
theorem kw_1759 : Cond.lays "SchedularyModel" "SchedularyModel" "bits" "I" ∈ gW := gw_of (k := 1759) (by decide +kernel) (by decide +kernel)
theorem kw_1761 : Cond.lays "SchedularyModel" "SchedularyModel" "factor" "I" ∈ gW := gw_of (k := 1761) (by decide +kernel) (by decide +kernel)
theorem kw_1763 : Cond.lays "SchedularyModel" "SchedularyModel" "inputs" "I" ∈ gW := gw_of (k := 1763) (by decide +kernel) (by decide +kernel)
theorem kw_1765 : Cond.laysFinal "SchedularyModel" "SchedularyModel" "input" "[I" ∈ gW := gw_of (k := 1765) (by decide +kernel) (by decide +kernel)
theorem kw_1767 : Cond.laysFinal "SchedularyModel" "SchedularyModel" "told" "[I" ∈ gW := gw_of (k := 1767) (by decide +kernel) (by decide +kernel)
theorem kw_1769 : Cond.laysFinal "SchedularyModel" "SchedularyModel" "units" "[I" ∈ gW := gw_of (k := 1769) (by decide +kernel) (by decide +kernel)
theorem kw_1771 : Cond.laysFinal "SchedularyModel" "SchedularyModel" "takes" "[I" ∈ gW := gw_of (k := 1771) (by decide +kernel) (by decide +kernel)
theorem kw_1773 : Cond.laysFinal "SchedularyModel" "SchedularyModel" "registers" "[I" ∈ gW := gw_of (k := 1773) (by decide +kernel) (by decide +kernel)
theorem kw_1775 : Cond.laysFinal "SchedularyModel" "SchedularyModel" "memory" "[I" ∈ gW := gw_of (k := 1775) (by decide +kernel) (by decide +kernel)
theorem kw_1777 : Cond.laysFinal "SchedularyModel" "SchedularyModel" "out" "[I" ∈ gW := gw_of (k := 1777) (by decide +kernel) (by decide +kernel)
theorem kw_1779 : Cond.lays "SchedularyModel" "SchedularyModel" "outs" "I" ∈ gW := gw_of (k := 1779) (by decide +kernel) (by decide +kernel)
theorem kw_1781 : Cond.lays "SchedularyModel" "SchedularyModel" "taken" "I" ∈ gW := gw_of (k := 1781) (by decide +kernel) (by decide +kernel)
theorem kw_1783 : Cond.lays "SchedularyModel" "SchedularyModel" "nodes" "I" ∈ gW := gw_of (k := 1783) (by decide +kernel) (by decide +kernel)
theorem kw_1785 : Cond.laysFinal "SchedularyModel" "SchedularyModel" "nodeStatement" "[I" ∈ gW := gw_of (k := 1785) (by decide +kernel) (by decide +kernel)
theorem kw_1787 : Cond.laysFinal "SchedularyModel" "SchedularyModel" "nodeRole" "[I" ∈ gW := gw_of (k := 1787) (by decide +kernel) (by decide +kernel)
theorem kw_1789 : Cond.laysFinal "SchedularyModel" "SchedularyModel" "nodeKind" "[I" ∈ gW := gw_of (k := 1789) (by decide +kernel) (by decide +kernel)
theorem kw_1791 : Cond.laysFinal "SchedularyModel" "SchedularyModel" "reads" "[I" ∈ gW := gw_of (k := 1791) (by decide +kernel) (by decide +kernel)
theorem kw_1793 : Cond.laysFinal "SchedularyModel" "SchedularyModel" "makes" "[I" ∈ gW := gw_of (k := 1793) (by decide +kernel) (by decide +kernel)
theorem kw_1795 : Cond.laysFinal "SchedularyModel" "SchedularyModel" "writes" "[I" ∈ gW := gw_of (k := 1795) (by decide +kernel) (by decide +kernel)
theorem kw_1797 : Cond.laysFinal "SchedularyModel" "SchedularyModel" "byTurn" "[Z" ∈ gW := gw_of (k := 1797) (by decide +kernel) (by decide +kernel)
theorem kw_1799 : Cond.laysFinal "SchedularyModel" "SchedularyModel" "offset" "[I" ∈ gW := gw_of (k := 1799) (by decide +kernel) (by decide +kernel)
theorem kw_1801 : Cond.lays "SchedularyModel" "SchedularyModel" "edges" "I" ∈ gW := gw_of (k := 1801) (by decide +kernel) (by decide +kernel)
theorem kw_1803 : Cond.laysFinal "SchedularyModel" "SchedularyModel" "edgeFrom" "[I" ∈ gW := gw_of (k := 1803) (by decide +kernel) (by decide +kernel)
theorem kw_1805 : Cond.laysFinal "SchedularyModel" "SchedularyModel" "edgeTo" "[I" ∈ gW := gw_of (k := 1805) (by decide +kernel) (by decide +kernel)
theorem kw_1807 : Cond.laysFinal "SchedularyModel" "SchedularyModel" "edgeFar" "[I" ∈ gW := gw_of (k := 1807) (by decide +kernel) (by decide +kernel)
theorem kw_1809 : Cond.laysFinal "SchedularyModel" "SchedularyModel" "edgeWeight" "[I" ∈ gW := gw_of (k := 1809) (by decide +kernel) (by decide +kernel)
theorem kw_1811 : Cond.laysFinal "SchedularyModel" "SchedularyModel" "edgeNext" "[I" ∈ gW := gw_of (k := 1811) (by decide +kernel) (by decide +kernel)
theorem kw_1813 : Cond.laysFinal "SchedularyModel" "SchedularyModel" "head" "[I" ∈ gW := gw_of (k := 1813) (by decide +kernel) (by decide +kernel)
theorem kw_1815 : Cond.laysFinal "SchedularyModel" "SchedularyModel" "soon" "[I" ∈ gW := gw_of (k := 1815) (by decide +kernel) (by decide +kernel)
theorem kw_1817 : Cond.laysFinal "SchedularyModel" "SchedularyModel" "late" "[I" ∈ gW := gw_of (k := 1817) (by decide +kernel) (by decide +kernel)
theorem kw_1819 : Cond.laysFinal "SchedularyModel" "SchedularyModel" "listed" "[I" ∈ gW := gw_of (k := 1819) (by decide +kernel) (by decide +kernel)
theorem kw_1821 : Cond.laysFinal "SchedularyModel" "SchedularyModel" "placed" "[I" ∈ gW := gw_of (k := 1821) (by decide +kernel) (by decide +kernel)
theorem kw_1823 : Cond.laysFinal "SchedularyModel" "SchedularyModel" "far" "[I" ∈ gW := gw_of (k := 1823) (by decide +kernel) (by decide +kernel)
theorem kw_1825 : Cond.laysFinal "SchedularyModel" "SchedularyModel" "value" "[I" ∈ gW := gw_of (k := 1825) (by decide +kernel) (by decide +kernel)
theorem kw_1827 : Cond.laysFinal "SchedularyModel" "SchedularyModel" "actions" "[I" ∈ gW := gw_of (k := 1827) (by decide +kernel) (by decide +kernel)
theorem kw_1829 : Cond.laysFinal "SchedularyModel" "SchedularyModel" "action" "[I" ∈ gW := gw_of (k := 1829) (by decide +kernel) (by decide +kernel)
theorem kw_1831 : Cond.laysFinal "SchedularyModel" "SchedularyModel" "depth" "[I" ∈ gW := gw_of (k := 1831) (by decide +kernel) (by decide +kernel)
theorem kw_1833 : Cond.laysFinal "SchedularyModel" "SchedularyModel" "at" "[I" ∈ gW := gw_of (k := 1833) (by decide +kernel) (by decide +kernel)
theorem kw_1835 : Cond.laysFinal "SchedularyModel" "SchedularyModel" "held" "[I" ∈ gW := gw_of (k := 1835) (by decide +kernel) (by decide +kernel)
theorem kw_1837 : Cond.lays "SchedularyModel" "SchedularyModel" "length" "I" ∈ gW := gw_of (k := 1837) (by decide +kernel) (by decide +kernel)
theorem kw_1843 : Cond.code yX12_thrown cX12_thrown 1 (some .int) ∈ gW := gw_of (k := 1843) (by decide +kernel) (by decide +kernel)
theorem kw_1847 : Cond.code yX12_type cX12_type 2 (some .int) ∈ gW := gw_of (k := 1847) (by decide +kernel) (by decide +kernel)
theorem kw_1848 : Cond.methodLink "SchedularyModel" 130 yX12_in ∈ gW := gw_of (k := 1848) (by decide +kernel) (by decide +kernel)
theorem kw_1849 : Cond.static yX12_in ∈ gW := gw_of (k := 1849) (by decide +kernel) (by decide +kernel)
theorem kw_1850 : Cond.code yX12_in cX12_in 3 (some .boolean) ∈ gW := gw_of (k := 1850) (by decide +kernel) (by decide +kernel)
theorem kw_1852 : Cond.methodLink "SchedularyModel" 136 yJ0_indexOf_0f7a4 ∈ gW := gw_of (k := 1852) (by decide +kernel) (by decide +kernel)
theorem kw_1853 : Cond.methodLink "SchedularyModel" 142 yX12_fails ∈ gW := gw_of (k := 1853) (by decide +kernel) (by decide +kernel)
theorem kw_1855 : Cond.instanceMethod yX12_fails ∈ gW := gw_of (k := 1855) (by decide +kernel) (by decide +kernel)
theorem kw_1856 : Cond.code yX12_fails cX12_fails 3 (some .boolean) ∈ gW := gw_of (k := 1856) (by decide +kernel) (by decide +kernel)
theorem kw_1860 : Cond.code yX12_clear cX12_clear 2 (some .int) ∈ gW := gw_of (k := 1860) (by decide +kernel) (by decide +kernel)
theorem kw_1864 : Cond.code yX12_fault cX12_fault 1 (some .int) ∈ gW := gw_of (k := 1864) (by decide +kernel) (by decide +kernel)
theorem kw_1865 : Cond.methodLink "SchedularyModel" 182 yX12_parse ∈ gW := gw_of (k := 1865) (by decide +kernel) (by decide +kernel)
theorem kw_1867 : Cond.instanceMethod yX12_parse ∈ gW := gw_of (k := 1867) (by decide +kernel) (by decide +kernel)
theorem kw_1868 : Cond.code yX12_parse cX12_parse 1 (some .int) ∈ gW := gw_of (k := 1868) (by decide +kernel) (by decide +kernel)
theorem kw_1869 : Cond.methodLink "SchedularyModel" 176 yX12_part ∈ gW := gw_of (k := 1869) (by decide +kernel) (by decide +kernel)
theorem kw_1871 : Cond.instanceMethod yX12_part ∈ gW := gw_of (k := 1871) (by decide +kernel) (by decide +kernel)
theorem kw_1872 : Cond.code yX12_part cX12_part 3 (some .boolean) ∈ gW := gw_of (k := 1872) (by decide +kernel) (by decide +kernel)
theorem kw_1873 : Cond.methodLink "SchedularyModel" 155 yX12_is ∈ gW := gw_of (k := 1873) (by decide +kernel) (by decide +kernel)
theorem kw_1875 : Cond.instanceMethod yX12_is ∈ gW := gw_of (k := 1875) (by decide +kernel) (by decide +kernel)
theorem kw_1876 : Cond.code yX12_is cX12_is 2 (some .boolean) ∈ gW := gw_of (k := 1876) (by decide +kernel) (by decide +kernel)
theorem kw_1877 : Cond.methodLink "SchedularyModel" 169 yX12_eats ∈ gW := gw_of (k := 1877) (by decide +kernel) (by decide +kernel)
theorem kw_1879 : Cond.instanceMethod yX12_eats ∈ gW := gw_of (k := 1879) (by decide +kernel) (by decide +kernel)
theorem kw_1880 : Cond.code yX12_eats cX12_eats 2 (some .boolean) ∈ gW := gw_of (k := 1880) (by decide +kernel) (by decide +kernel)
theorem kw_1881 : Cond.methodLink "SchedularyModel" 159 yX12_wrong ∈ gW := gw_of (k := 1881) (by decide +kernel) (by decide +kernel)
theorem kw_1883 : Cond.instanceMethod yX12_wrong ∈ gW := gw_of (k := 1883) (by decide +kernel) (by decide +kernel)
theorem kw_1884 : Cond.code yX12_wrong cX12_wrong 1 (some .boolean) ∈ gW := gw_of (k := 1884) (by decide +kernel) (by decide +kernel)
theorem kw_1885 : Cond.methodLink "SchedularyModel" 172 yX12_index ∈ gW := gw_of (k := 1885) (by decide +kernel) (by decide +kernel)
theorem kw_1887 : Cond.instanceMethod yX12_index ∈ gW := gw_of (k := 1887) (by decide +kernel) (by decide +kernel)
theorem kw_1888 : Cond.code yX12_index cX12_index 3 (some .boolean) ∈ gW := gw_of (k := 1888) (by decide +kernel) (by decide +kernel)
theorem kw_1889 : Cond.methodLink "SchedularyModel" 163 yX12_isDigit ∈ gW := gw_of (k := 1889) (by decide +kernel) (by decide +kernel)
theorem kw_1891 : Cond.instanceMethod yX12_isDigit ∈ gW := gw_of (k := 1891) (by decide +kernel) (by decide +kernel)
theorem kw_1892 : Cond.code yX12_isDigit cX12_isDigit 1 (some .boolean) ∈ gW := gw_of (k := 1892) (by decide +kernel) (by decide +kernel)
theorem kw_1893 : Cond.methodLink "SchedularyModel" 166 yX12_number ∈ gW := gw_of (k := 1893) (by decide +kernel) (by decide +kernel)
theorem kw_1895 : Cond.instanceMethod yX12_number ∈ gW := gw_of (k := 1895) (by decide +kernel) (by decide +kernel)
theorem kw_1896 : Cond.code yX12_number cX12_number 4 (some .int) ∈ gW := gw_of (k := 1896) (by decide +kernel) (by decide +kernel)
theorem kw_1901 : Cond.code yX12_add cX12_add 1 (some .int) ∈ gW := gw_of (k := 1901) (by decide +kernel) (by decide +kernel)
theorem kw_1902 : Cond.methodLink "SchedularyModel" 189 yX12_keep ∈ gW := gw_of (k := 1902) (by decide +kernel) (by decide +kernel)
theorem kw_1904 : Cond.instanceMethod yX12_keep ∈ gW := gw_of (k := 1904) (by decide +kernel) (by decide +kernel)
theorem kw_1905 : Cond.code yX12_keep cX12_keep 3 none ∈ gW := gw_of (k := 1905) (by decide +kernel) (by decide +kernel)
theorem kw_1909 : Cond.code yX12_replace cX12_replace 2 (some .int) ∈ gW := gw_of (k := 1909) (by decide +kernel) (by decide +kernel)
theorem kw_1910 : Cond.methodLink "SchedularyModel" 193 yX12_build ∈ gW := gw_of (k := 1910) (by decide +kernel) (by decide +kernel)
theorem kw_1912 : Cond.instanceMethod yX12_build ∈ gW := gw_of (k := 1912) (by decide +kernel) (by decide +kernel)
theorem kw_1913 : Cond.code yX12_build cX12_build 3 none ∈ gW := gw_of (k := 1913) (by decide +kernel) (by decide +kernel)
theorem kw_1914 : Cond.methodLink "SchedularyModel" 276 yX12_addStatement ∈ gW := gw_of (k := 1914) (by decide +kernel) (by decide +kernel)
theorem kw_1916 : Cond.instanceMethod yX12_addStatement ∈ gW := gw_of (k := 1916) (by decide +kernel) (by decide +kernel)
theorem kw_1917 : Cond.code yX12_addStatement cX12_addStatement 6 none ∈ gW := gw_of (k := 1917) (by decide +kernel) (by decide +kernel)
theorem kw_1918 : Cond.methodLink "SchedularyModel" 264 yX12_addRead ∈ gW := gw_of (k := 1918) (by decide +kernel) (by decide +kernel)
theorem kw_1920 : Cond.instanceMethod yX12_addRead ∈ gW := gw_of (k := 1920) (by decide +kernel) (by decide +kernel)
theorem kw_1921 : Cond.code yX12_addRead cX12_addRead 4 none ∈ gW := gw_of (k := 1921) (by decide +kernel) (by decide +kernel)
theorem kw_1922 : Cond.methodLink "SchedularyModel" 251 yX12_isRead ∈ gW := gw_of (k := 1922) (by decide +kernel) (by decide +kernel)
theorem kw_1923 : Cond.static yX12_isRead ∈ gW := gw_of (k := 1923) (by decide +kernel) (by decide +kernel)
theorem kw_1924 : Cond.code yX12_isRead cX12_isRead 1 (some .boolean) ∈ gW := gw_of (k := 1924) (by decide +kernel) (by decide +kernel)
theorem kw_1925 : Cond.methodLink "SchedularyModel" 254 yX12_kindOfMemory ∈ gW := gw_of (k := 1925) (by decide +kernel) (by decide +kernel)
theorem kw_1926 : Cond.static yX12_kindOfMemory ∈ gW := gw_of (k := 1926) (by decide +kernel) (by decide +kernel)
theorem kw_1927 : Cond.code yX12_kindOfMemory cX12_kindOfMemory 1 (some .int) ∈ gW := gw_of (k := 1927) (by decide +kernel) (by decide +kernel)
theorem kw_1928 : Cond.methodLink "SchedularyModel" 257 yX12_addNode ∈ gW := gw_of (k := 1928) (by decide +kernel) (by decide +kernel)
theorem kw_1930 : Cond.instanceMethod yX12_addNode ∈ gW := gw_of (k := 1930) (by decide +kernel) (by decide +kernel)
theorem kw_1931 : Cond.code yX12_addNode cX12_addNode 4 none ∈ gW := gw_of (k := 1931) (by decide +kernel) (by decide +kernel)
theorem kw_1932 : Cond.methodLink "SchedularyModel" 260 yX12_remember ∈ gW := gw_of (k := 1932) (by decide +kernel) (by decide +kernel)
theorem kw_1934 : Cond.instanceMethod yX12_remember ∈ gW := gw_of (k := 1934) (by decide +kernel) (by decide +kernel)
theorem kw_1935 : Cond.code yX12_remember cX12_remember 5 none ∈ gW := gw_of (k := 1935) (by decide +kernel) (by decide +kernel)
theorem kw_1936 : Cond.methodLink "SchedularyModel" 267 yX12_unit ∈ gW := gw_of (k := 1936) (by decide +kernel) (by decide +kernel)
theorem kw_1937 : Cond.static yX12_unit ∈ gW := gw_of (k := 1937) (by decide +kernel) (by decide +kernel)
theorem kw_1938 : Cond.code yX12_unit cX12_unit 1 (some .int) ∈ gW := gw_of (k := 1938) (by decide +kernel) (by decide +kernel)
theorem kw_1939 : Cond.methodLink "SchedularyModel" 270 yX12_uses ∈ gW := gw_of (k := 1939) (by decide +kernel) (by decide +kernel)
theorem kw_1941 : Cond.instanceMethod yX12_uses ∈ gW := gw_of (k := 1941) (by decide +kernel) (by decide +kernel)
theorem kw_1942 : Cond.code yX12_uses cX12_uses 2 none ∈ gW := gw_of (k := 1942) (by decide +kernel) (by decide +kernel)
theorem kw_1943 : Cond.methodLink "SchedularyModel" 279 yX12_within ∈ gW := gw_of (k := 1943) (by decide +kernel) (by decide +kernel)
theorem kw_1945 : Cond.instanceMethod yX12_within ∈ gW := gw_of (k := 1945) (by decide +kernel) (by decide +kernel)
theorem kw_1946 : Cond.code yX12_within cX12_within 4 none ∈ gW := gw_of (k := 1946) (by decide +kernel) (by decide +kernel)
theorem kw_1947 : Cond.methodLink "SchedularyModel" 282 yX12_cyclesOf ∈ gW := gw_of (k := 1947) (by decide +kernel) (by decide +kernel)
theorem kw_1949 : Cond.instanceMethod yX12_cyclesOf ∈ gW := gw_of (k := 1949) (by decide +kernel) (by decide +kernel)
theorem kw_1950 : Cond.code yX12_cyclesOf cX12_cyclesOf 2 (some .int) ∈ gW := gw_of (k := 1950) (by decide +kernel) (by decide +kernel)
theorem kw_1951 : Cond.methodLink "SchedularyModel" 301 yX12_join ∈ gW := gw_of (k := 1951) (by decide +kernel) (by decide +kernel)
theorem kw_1953 : Cond.instanceMethod yX12_join ∈ gW := gw_of (k := 1953) (by decide +kernel) (by decide +kernel)
theorem kw_1954 : Cond.code yX12_join cX12_join 6 none ∈ gW := gw_of (k := 1954) (by decide +kernel) (by decide +kernel)
theorem kw_1955 : Cond.methodLink "SchedularyModel" 298 yJ9_max_7cf53 ∈ gW := gw_of (k := 1955) (by decide +kernel) (by decide +kernel)
theorem kw_1956 : Cond.methodLink "SchedularyModel" 285 yX12_laterMakers ∈ gW := gw_of (k := 1956) (by decide +kernel) (by decide +kernel)
theorem kw_1958 : Cond.instanceMethod yX12_laterMakers ∈ gW := gw_of (k := 1958) (by decide +kernel) (by decide +kernel)
theorem kw_1959 : Cond.code yX12_laterMakers cX12_laterMakers 7 none ∈ gW := gw_of (k := 1959) (by decide +kernel) (by decide +kernel)
theorem kw_1960 : Cond.methodLink "SchedularyModel" 288 yX12_fromMaker ∈ gW := gw_of (k := 1960) (by decide +kernel) (by decide +kernel)
theorem kw_1962 : Cond.instanceMethod yX12_fromMaker ∈ gW := gw_of (k := 1962) (by decide +kernel) (by decide +kernel)
theorem kw_1963 : Cond.code yX12_fromMaker cX12_fromMaker 6 none ∈ gW := gw_of (k := 1963) (by decide +kernel) (by decide +kernel)
theorem kw_1964 : Cond.methodLink "SchedularyModel" 292 yX12_remembered ∈ gW := gw_of (k := 1964) (by decide +kernel) (by decide +kernel)
theorem kw_1966 : Cond.instanceMethod yX12_remembered ∈ gW := gw_of (k := 1966) (by decide +kernel) (by decide +kernel)
theorem kw_1967 : Cond.code yX12_remembered cX12_remembered 7 none ∈ gW := gw_of (k := 1967) (by decide +kernel) (by decide +kernel)
theorem kw_1968 : Cond.methodLink "SchedularyModel" 295 yX12_nextOfChannel ∈ gW := gw_of (k := 1968) (by decide +kernel) (by decide +kernel)
theorem kw_1970 : Cond.instanceMethod yX12_nextOfChannel ∈ gW := gw_of (k := 1970) (by decide +kernel) (by decide +kernel)
theorem kw_1971 : Cond.code yX12_nextOfChannel cX12_nextOfChannel 5 none ∈ gW := gw_of (k := 1971) (by decide +kernel) (by decide +kernel)
theorem kw_1975 : Cond.code yX12_setTurns cX12_setTurns 3 (some .int) ∈ gW := gw_of (k := 1975) (by decide +kernel) (by decide +kernel)
theorem kw_1979 : Cond.code yX12_setBits cX12_setBits 3 (some .int) ∈ gW := gw_of (k := 1979) (by decide +kernel) (by decide +kernel)
theorem kw_1983 : Cond.code yX12_unroll cX12_unroll 2 (some .int) ∈ gW := gw_of (k := 1983) (by decide +kernel) (by decide +kernel)
theorem kw_1987 : Cond.code yX12_input cX12_input 2 (some .int) ∈ gW := gw_of (k := 1987) (by decide +kernel) (by decide +kernel)
theorem kw_1988 : Cond.constant "SchedularyModel" 199 (65535 : Int32) ∈ gW := gw_of (k := 1988) (by decide +kernel) (by decide +kernel)
theorem kw_1992 : Cond.code yX12_setMemory cX12_setMemory 5 (some .int) ∈ gW := gw_of (k := 1992) (by decide +kernel) (by decide +kernel)
theorem kw_1993 : Cond.methodLink "SchedularyModel" 203 yX12_noMemory ∈ gW := gw_of (k := 1993) (by decide +kernel) (by decide +kernel)
theorem kw_1994 : Cond.static yX12_noMemory ∈ gW := gw_of (k := 1994) (by decide +kernel) (by decide +kernel)
theorem kw_1995 : Cond.code yX12_noMemory cX12_noMemory 2 (some .boolean) ∈ gW := gw_of (k := 1995) (by decide +kernel) (by decide +kernel)
theorem kw_1996 : Cond.methodLink "SchedularyModel" 207 yX12_cell ∈ gW := gw_of (k := 1996) (by decide +kernel) (by decide +kernel)
theorem kw_1997 : Cond.static yX12_cell ∈ gW := gw_of (k := 1997) (by decide +kernel) (by decide +kernel)
theorem kw_1998 : Cond.code yX12_cell cX12_cell 2 (some .int) ∈ gW := gw_of (k := 1998) (by decide +kernel) (by decide +kernel)
theorem kw_2002 : Cond.code yX12_setUnits cX12_setUnits 4 (some .int) ∈ gW := gw_of (k := 2002) (by decide +kernel) (by decide +kernel)
theorem kw_2007 : Cond.code yX12_setCycles cX12_setCycles 4 (some .int) ∈ gW := gw_of (k := 2007) (by decide +kernel) (by decide +kernel)
theorem kw_2011 : Cond.code yX12_outputs cX12_outputs 1 (some .int) ∈ gW := gw_of (k := 2011) (by decide +kernel) (by decide +kernel)
theorem kw_2012 : Cond.methodLink "SchedularyModel" 243 yX12_perform ∈ gW := gw_of (k := 2012) (by decide +kernel) (by decide +kernel)
theorem kw_2014 : Cond.instanceMethod yX12_perform ∈ gW := gw_of (k := 2014) (by decide +kernel) (by decide +kernel)
theorem kw_2015 : Cond.code yX12_perform cX12_perform 5 none ∈ gW := gw_of (k := 2015) (by decide +kernel) (by decide +kernel)
theorem kw_2016 : Cond.methodLink "SchedularyModel" 228 yX12_begin ∈ gW := gw_of (k := 2016) (by decide +kernel) (by decide +kernel)
theorem kw_2018 : Cond.instanceMethod yX12_begin ∈ gW := gw_of (k := 2018) (by decide +kernel) (by decide +kernel)
theorem kw_2019 : Cond.code yX12_begin cX12_begin 2 none ∈ gW := gw_of (k := 2019) (by decide +kernel) (by decide +kernel)
theorem kw_2020 : Cond.methodLink "SchedularyModel" 213 yX12_taken ∈ gW := gw_of (k := 2020) (by decide +kernel) (by decide +kernel)
theorem kw_2022 : Cond.instanceMethod yX12_taken ∈ gW := gw_of (k := 2022) (by decide +kernel) (by decide +kernel)
theorem kw_2023 : Cond.code yX12_taken cX12_taken 2 (some .int) ∈ gW := gw_of (k := 2023) (by decide +kernel) (by decide +kernel)
theorem kw_2024 : Cond.methodLink "SchedularyModel" 231 yX12_operand ∈ gW := gw_of (k := 2024) (by decide +kernel) (by decide +kernel)
theorem kw_2026 : Cond.instanceMethod yX12_operand ∈ gW := gw_of (k := 2026) (by decide +kernel) (by decide +kernel)
theorem kw_2027 : Cond.code yX12_operand cX12_operand 5 (some .int) ∈ gW := gw_of (k := 2027) (by decide +kernel) (by decide +kernel)
theorem kw_2028 : Cond.methodLink "SchedularyModel" 221 yX12_fromChannel ∈ gW := gw_of (k := 2028) (by decide +kernel) (by decide +kernel)
theorem kw_2030 : Cond.instanceMethod yX12_fromChannel ∈ gW := gw_of (k := 2030) (by decide +kernel) (by decide +kernel)
theorem kw_2031 : Cond.code yX12_fromChannel cX12_fromChannel 1 (some .int) ∈ gW := gw_of (k := 2031) (by decide +kernel) (by decide +kernel)
theorem kw_2032 : Cond.methodLink "SchedularyModel" 224 yX12_where ∈ gW := gw_of (k := 2032) (by decide +kernel) (by decide +kernel)
theorem kw_2033 : Cond.static yX12_where ∈ gW := gw_of (k := 2033) (by decide +kernel) (by decide +kernel)
theorem kw_2034 : Cond.code yX12_where cX12_where 5 (some .int) ∈ gW := gw_of (k := 2034) (by decide +kernel) (by decide +kernel)
theorem kw_2035 : Cond.methodLink "SchedularyModel" 235 yX12_operate ∈ gW := gw_of (k := 2035) (by decide +kernel) (by decide +kernel)
theorem kw_2037 : Cond.instanceMethod yX12_operate ∈ gW := gw_of (k := 2037) (by decide +kernel) (by decide +kernel)
theorem kw_2038 : Cond.code yX12_operate cX12_operate 4 (some .int) ∈ gW := gw_of (k := 2038) (by decide +kernel) (by decide +kernel)
theorem kw_2039 : Cond.methodLink "SchedularyModel" 239 yX12_write ∈ gW := gw_of (k := 2039) (by decide +kernel) (by decide +kernel)
theorem kw_2041 : Cond.instanceMethod yX12_write ∈ gW := gw_of (k := 2041) (by decide +kernel) (by decide +kernel)
theorem kw_2042 : Cond.code yX12_write cX12_write 7 none ∈ gW := gw_of (k := 2042) (by decide +kernel) (by decide +kernel)
theorem kw_2046 : Cond.code yX12_output cX12_output 2 (some .int) ∈ gW := gw_of (k := 2046) (by decide +kernel) (by decide +kernel)
theorem kw_2050 : Cond.code yX12_memoryAt cX12_memoryAt 3 (some .int) ∈ gW := gw_of (k := 2050) (by decide +kernel) (by decide +kernel)
theorem kw_2054 : Cond.code yX12_register cX12_register 2 (some .int) ∈ gW := gw_of (k := 2054) (by decide +kernel) (by decide +kernel)
theorem kw_2058 : Cond.code yX12_taken_ cX12_taken_ 1 (some .int) ∈ gW := gw_of (k := 2058) (by decide +kernel) (by decide +kernel)
theorem kw_2059 : Cond.methodLink "SchedularyModel" 246 yJ9_min_7cf53 ∈ gW := gw_of (k := 2059) (by decide +kernel) (by decide +kernel)
theorem kw_2063 : Cond.code yX12_nodes cX12_nodes 1 (some .int) ∈ gW := gw_of (k := 2063) (by decide +kernel) (by decide +kernel)
theorem kw_2067 : Cond.code yX12_kindOf cX12_kindOf 2 (some .char) ∈ gW := gw_of (k := 2067) (by decide +kernel) (by decide +kernel)
theorem kw_2068 : Cond.methodLink "SchedularyModel" 305 yX12_noNode ∈ gW := gw_of (k := 2068) (by decide +kernel) (by decide +kernel)
theorem kw_2070 : Cond.instanceMethod yX12_noNode ∈ gW := gw_of (k := 2070) (by decide +kernel) (by decide +kernel)
theorem kw_2071 : Cond.code yX12_noNode cX12_noNode 2 (some .boolean) ∈ gW := gw_of (k := 2071) (by decide +kernel) (by decide +kernel)
theorem kw_2072 : Cond.methodLink "SchedularyModel" 308 yJ0_charAt_5068e ∈ gW := gw_of (k := 2072) (by decide +kernel) (by decide +kernel)
theorem kw_2076 : Cond.code yX12_statementOf cX12_statementOf 2 (some .int) ∈ gW := gw_of (k := 2076) (by decide +kernel) (by decide +kernel)
theorem kw_2080 : Cond.code yX12_edges cX12_edges 1 (some .int) ∈ gW := gw_of (k := 2080) (by decide +kernel) (by decide +kernel)
theorem kw_2084 : Cond.code yX12_weight cX12_weight 5 (some .int) ∈ gW := gw_of (k := 2084) (by decide +kernel) (by decide +kernel)
theorem kw_2088 : Cond.code yX12_soon cX12_soon 2 (some .int) ∈ gW := gw_of (k := 2088) (by decide +kernel) (by decide +kernel)
theorem kw_2089 : Cond.methodLink "SchedularyModel" 315 yX12_findSoon ∈ gW := gw_of (k := 2089) (by decide +kernel) (by decide +kernel)
theorem kw_2091 : Cond.instanceMethod yX12_findSoon ∈ gW := gw_of (k := 2091) (by decide +kernel) (by decide +kernel)
theorem kw_2092 : Cond.code yX12_findSoon cX12_findSoon 3 none ∈ gW := gw_of (k := 2092) (by decide +kernel) (by decide +kernel)
theorem kw_2096 : Cond.code yX12_late cX12_late 2 (some .int) ∈ gW := gw_of (k := 2096) (by decide +kernel) (by decide +kernel)
theorem kw_2100 : Cond.code yX12_step cX12_step 2 (some .int) ∈ gW := gw_of (k := 2100) (by decide +kernel) (by decide +kernel)
theorem kw_2101 : Cond.methodLink "SchedularyModel" 322 yX12_list ∈ gW := gw_of (k := 2101) (by decide +kernel) (by decide +kernel)
theorem kw_2103 : Cond.instanceMethod yX12_list ∈ gW := gw_of (k := 2103) (by decide +kernel) (by decide +kernel)
theorem kw_2104 : Cond.code yX12_list cX12_list 5 none ∈ gW := gw_of (k := 2104) (by decide +kernel) (by decide +kernel)
theorem kw_2105 : Cond.methodLink "SchedularyModel" 318 yX12_canBegin ∈ gW := gw_of (k := 2105) (by decide +kernel) (by decide +kernel)
theorem kw_2107 : Cond.instanceMethod yX12_canBegin ∈ gW := gw_of (k := 2107) (by decide +kernel) (by decide +kernel)
theorem kw_2108 : Cond.code yX12_canBegin cX12_canBegin 6 (some .boolean) ∈ gW := gw_of (k := 2108) (by decide +kernel) (by decide +kernel)
theorem kw_2112 : Cond.code yX12_length cX12_length 1 (some .int) ∈ gW := gw_of (k := 2112) (by decide +kernel) (by decide +kernel)
theorem kw_2116 : Cond.code yX12_inStep cX12_inStep 4 (some .int) ∈ gW := gw_of (k := 2116) (by decide +kernel) (by decide +kernel)
theorem kw_2120 : Cond.code yX12_waiting cX12_waiting 5 (some .int) ∈ gW := gw_of (k := 2120) (by decide +kernel) (by decide +kernel)
theorem kw_2121 : Cond.methodLink "SchedularyModel" 325 yX12_lastUse ∈ gW := gw_of (k := 2121) (by decide +kernel) (by decide +kernel)
theorem kw_2123 : Cond.instanceMethod yX12_lastUse ∈ gW := gw_of (k := 2123) (by decide +kernel) (by decide +kernel)
theorem kw_2124 : Cond.code yX12_lastUse cX12_lastUse 9 (some .int) ∈ gW := gw_of (k := 2124) (by decide +kernel) (by decide +kernel)
theorem kw_2128 : Cond.code yX12_byRings cX12_byRings 1 (some .int) ∈ gW := gw_of (k := 2128) (by decide +kernel) (by decide +kernel)
theorem kw_2129 : Cond.methodLink "SchedularyModel" 337 yX12_rings ∈ gW := gw_of (k := 2129) (by decide +kernel) (by decide +kernel)
theorem kw_2131 : Cond.instanceMethod yX12_rings ∈ gW := gw_of (k := 2131) (by decide +kernel) (by decide +kernel)
theorem kw_2132 : Cond.code yX12_rings cX12_rings 2 (some .int) ∈ gW := gw_of (k := 2132) (by decide +kernel) (by decide +kernel)
theorem kw_2133 : Cond.methodLink "SchedularyModel" 328 yX12_hasRing ∈ gW := gw_of (k := 2133) (by decide +kernel) (by decide +kernel)
theorem kw_2135 : Cond.instanceMethod yX12_hasRing ∈ gW := gw_of (k := 2135) (by decide +kernel) (by decide +kernel)
theorem kw_2136 : Cond.code yX12_hasRing cX12_hasRing 6 (some .boolean) ∈ gW := gw_of (k := 2136) (by decide +kernel) (by decide +kernel)
theorem kw_2140 : Cond.code yX12_byUnits cX12_byUnits 1 (some .int) ∈ gW := gw_of (k := 2140) (by decide +kernel) (by decide +kernel)
theorem kw_2141 : Cond.methodLink "SchedularyModel" 340 yX12_byAllUnits ∈ gW := gw_of (k := 2141) (by decide +kernel) (by decide +kernel)
theorem kw_2143 : Cond.instanceMethod yX12_byAllUnits ∈ gW := gw_of (k := 2143) (by decide +kernel) (by decide +kernel)
theorem kw_2144 : Cond.code yX12_byAllUnits cX12_byAllUnits 3 (some .int) ∈ gW := gw_of (k := 2144) (by decide +kernel) (by decide +kernel)
theorem kw_2145 : Cond.methodLink "SchedularyModel" 331 yX12_needs ∈ gW := gw_of (k := 2145) (by decide +kernel) (by decide +kernel)
theorem kw_2147 : Cond.instanceMethod yX12_needs ∈ gW := gw_of (k := 2147) (by decide +kernel) (by decide +kernel)
theorem kw_2148 : Cond.code yX12_needs cX12_needs 4 (some .int) ∈ gW := gw_of (k := 2148) (by decide +kernel) (by decide +kernel)
theorem kw_2152 : Cond.code yX12_interval cX12_interval 1 (some .int) ∈ gW := gw_of (k := 2152) (by decide +kernel) (by decide +kernel)
theorem kw_2153 : Cond.methodLink "SchedularyModel" 346 yX12_placeAll ∈ gW := gw_of (k := 2153) (by decide +kernel) (by decide +kernel)
theorem kw_2155 : Cond.instanceMethod yX12_placeAll ∈ gW := gw_of (k := 2155) (by decide +kernel) (by decide +kernel)
theorem kw_2156 : Cond.code yX12_placeAll cX12_placeAll 2 (some .int) ∈ gW := gw_of (k := 2156) (by decide +kernel) (by decide +kernel)
theorem kw_2157 : Cond.methodLink "SchedularyModel" 343 yX12_canPlace ∈ gW := gw_of (k := 2157) (by decide +kernel) (by decide +kernel)
theorem kw_2159 : Cond.instanceMethod yX12_canPlace ∈ gW := gw_of (k := 2159) (by decide +kernel) (by decide +kernel)
theorem kw_2160 : Cond.code yX12_canPlace cX12_canPlace 6 (some .boolean) ∈ gW := gw_of (k := 2160) (by decide +kernel) (by decide +kernel)
theorem kw_2161 : Cond.methodLink "SchedularyModel" 334 yX12_isFree ∈ gW := gw_of (k := 2161) (by decide +kernel) (by decide +kernel)
theorem kw_2163 : Cond.instanceMethod yX12_isFree ∈ gW := gw_of (k := 2163) (by decide +kernel) (by decide +kernel)
theorem kw_2164 : Cond.code yX12_isFree cX12_isFree 8 (some .boolean) ∈ gW := gw_of (k := 2164) (by decide +kernel) (by decide +kernel)
theorem kw_2168 : Cond.code yX12_binds cX12_binds 4 (some .char) ∈ gW := gw_of (k := 2168) (by decide +kernel) (by decide +kernel)
theorem kw_2172 : Cond.code yX12_place cX12_place 2 (some .int) ∈ gW := gw_of (k := 2172) (by decide +kernel) (by decide +kernel)
theorem kw_2176 : Cond.code yX12_cycles cX12_cycles 2 (some .int) ∈ gW := gw_of (k := 2176) (by decide +kernel) (by decide +kernel)
theorem kw_2177 : Cond.methodLink "SchedularyModel" 349 yX12_longest ∈ gW := gw_of (k := 2177) (by decide +kernel) (by decide +kernel)
theorem kw_2179 : Cond.instanceMethod yX12_longest ∈ gW := gw_of (k := 2179) (by decide +kernel) (by decide +kernel)
theorem kw_2180 : Cond.code yX12_longest cX12_longest 3 (some .int) ∈ gW := gw_of (k := 2180) (by decide +kernel) (by decide +kernel)
theorem kw_2184 : Cond.code yX12_oneByOne cX12_oneByOne 3 (some .int) ∈ gW := gw_of (k := 2184) (by decide +kernel) (by decide +kernel)
theorem kw_2188 : Cond.code yX12_circuitOutputs cX12_circuitOutputs 1 (some .int) ∈ gW := gw_of (k := 2188) (by decide +kernel) (by decide +kernel)
theorem kw_2189 : Cond.methodLink "SchedularyModel" 367 yX12_flow ∈ gW := gw_of (k := 2189) (by decide +kernel) (by decide +kernel)
theorem kw_2191 : Cond.instanceMethod yX12_flow ∈ gW := gw_of (k := 2191) (by decide +kernel) (by decide +kernel)
theorem kw_2192 : Cond.code yX12_flow cX12_flow 6 none ∈ gW := gw_of (k := 2192) (by decide +kernel) (by decide +kernel)
theorem kw_2193 : Cond.methodLink "SchedularyModel" 358 yX12_turnAt ∈ gW := gw_of (k := 2193) (by decide +kernel) (by decide +kernel)
theorem kw_2195 : Cond.instanceMethod yX12_turnAt ∈ gW := gw_of (k := 2195) (by decide +kernel) (by decide +kernel)
theorem kw_2196 : Cond.code yX12_turnAt cX12_turnAt 5 (some .int) ∈ gW := gw_of (k := 2196) (by decide +kernel) (by decide +kernel)
theorem kw_2197 : Cond.methodLink "SchedularyModel" 361 yX12_isLastOf ∈ gW := gw_of (k := 2197) (by decide +kernel) (by decide +kernel)
theorem kw_2199 : Cond.instanceMethod yX12_isLastOf ∈ gW := gw_of (k := 2199) (by decide +kernel) (by decide +kernel)
theorem kw_2200 : Cond.code yX12_isLastOf cX12_isLastOf 2 (some .boolean) ∈ gW := gw_of (k := 2200) (by decide +kernel) (by decide +kernel)
theorem kw_2201 : Cond.methodLink "SchedularyModel" 352 yX12_loopTurn ∈ gW := gw_of (k := 2201) (by decide +kernel) (by decide +kernel)
theorem kw_2203 : Cond.instanceMethod yX12_loopTurn ∈ gW := gw_of (k := 2203) (by decide +kernel) (by decide +kernel)
theorem kw_2204 : Cond.code yX12_loopTurn cX12_loopTurn 3 (some .int) ∈ gW := gw_of (k := 2204) (by decide +kernel) (by decide +kernel)
theorem kw_2205 : Cond.methodLink "SchedularyModel" 364 yX12_valueOf ∈ gW := gw_of (k := 2205) (by decide +kernel) (by decide +kernel)
theorem kw_2207 : Cond.instanceMethod yX12_valueOf ∈ gW := gw_of (k := 2207) (by decide +kernel) (by decide +kernel)
theorem kw_2208 : Cond.code yX12_valueOf cX12_valueOf 5 (some .int) ∈ gW := gw_of (k := 2208) (by decide +kernel) (by decide +kernel)
theorem kw_2209 : Cond.methodLink "SchedularyModel" 355 yX12_given ∈ gW := gw_of (k := 2209) (by decide +kernel) (by decide +kernel)
theorem kw_2211 : Cond.instanceMethod yX12_given ∈ gW := gw_of (k := 2211) (by decide +kernel) (by decide +kernel)
theorem kw_2212 : Cond.code yX12_given cX12_given 6 (some .int) ∈ gW := gw_of (k := 2212) (by decide +kernel) (by decide +kernel)
theorem kw_2216 : Cond.code yX12_circuitOutput cX12_circuitOutput 2 (some .int) ∈ gW := gw_of (k := 2216) (by decide +kernel) (by decide +kernel)
theorem kw_2220 : Cond.code yX12_circuitMemory cX12_circuitMemory 3 (some .int) ∈ gW := gw_of (k := 2220) (by decide +kernel) (by decide +kernel)
theorem kw_2224 : Cond.code yX12_isSame cX12_isSame 1 (some .boolean) ∈ gW := gw_of (k := 2224) (by decide +kernel) (by decide +kernel)
theorem kw_2228 : Cond.code yX12_action cX12_action 4 (some .int) ∈ gW := gw_of (k := 2228) (by decide +kernel) (by decide +kernel)
theorem kw_2232 : Cond.code yX12_setDepth cX12_setDepth 4 (some .int) ∈ gW := gw_of (k := 2232) (by decide +kernel) (by decide +kernel)
theorem kw_2236 : Cond.code yX12_done cX12_done 1 (some .int) ∈ gW := gw_of (k := 2236) (by decide +kernel) (by decide +kernel)
theorem kw_2237 : Cond.methodLink "SchedularyModel" 373 yX12_goRound ∈ gW := gw_of (k := 2237) (by decide +kernel) (by decide +kernel)
theorem kw_2239 : Cond.instanceMethod yX12_goRound ∈ gW := gw_of (k := 2239) (by decide +kernel) (by decide +kernel)
theorem kw_2240 : Cond.code yX12_goRound cX12_goRound 5 (some .boolean) ∈ gW := gw_of (k := 2240) (by decide +kernel) (by decide +kernel)
theorem kw_2241 : Cond.methodLink "SchedularyModel" 370 yX12_acts ∈ gW := gw_of (k := 2241) (by decide +kernel) (by decide +kernel)
theorem kw_2243 : Cond.instanceMethod yX12_acts ∈ gW := gw_of (k := 2243) (by decide +kernel) (by decide +kernel)
theorem kw_2244 : Cond.code yX12_acts cX12_acts 7 (some .boolean) ∈ gW := gw_of (k := 2244) (by decide +kernel) (by decide +kernel)
theorem kw_2248 : Cond.code yX12_waitsFor cX12_waitsFor 2 (some .int) ∈ gW := gw_of (k := 2248) (by decide +kernel) (by decide +kernel)
theorem kw_2252 : Cond.code yX12_areLocked cX12_areLocked 1 (some .boolean) ∈ gW := gw_of (k := 2252) (by decide +kernel) (by decide +kernel)
theorem kw_2256 : Cond.code yX12_leastDepth cX12_leastDepth 2 (some .int) ∈ gW := gw_of (k := 2256) (by decide +kernel) (by decide +kernel)
theorem kw_2260 : Cond.code yX12_checksum cX12_checksum 4 (some .long) ∈ gW := gw_of (k := 2260) (by decide +kernel) (by decide +kernel)
theorem kw_2261 : Cond.constantLong "SchedularyModel" 376 (31 : Int64) ∈ gW := gw_of (k := 2261) (by decide +kernel) (by decide +kernel)
theorem kw_2273 : Cond.code yX12_isSound cX12_isSound 1 (some .boolean) ∈ gW := gw_of (k := 2273) (by decide +kernel) (by decide +kernel)
theorem kw_2300 : Cond.fieldLink "java/lang/String" 15 "java/lang/String" "coder" "B" ∈ gW := gw_of (k := 2300) (by decide +kernel) (by decide +kernel)
theorem kw_2301 : Cond.fieldLink "java/lang/String" 9 "java/lang/String" "value" "[B" ∈ gW := gw_of (k := 2301) (by decide +kernel) (by decide +kernel)
theorem hin_X0 : ∀ w ∈ u_ws RX0 TX0 5, w ∈ gW := all_map (fun k hk => by
  by_cases e0 : k = 0; subst e0; exact kw_422
  by_cases e1 : k = 1; subst e1; exact kw_424
  by_cases e2 : k = 2; subst e2; exact kw_426
  by_cases e3 : k = 3; subst e3; exact kw_428
  by_cases e4 : k = 4; subst e4; exact kw_430
  omega)
theorem hin_X1 : ∀ w ∈ u_ws RX1 TX1 2, w ∈ gW := all_map (fun k hk => by
  by_cases e0 : k = 0; subst e0; exact kw_540
  by_cases e1 : k = 1; subst e1; exact kw_542
  omega)
theorem hin_X2 : ∀ w ∈ u_ws RX2 TX2 5, w ∈ gW := all_map (fun k hk => by
  by_cases e0 : k = 0; subst e0; exact kw_455
  by_cases e1 : k = 1; subst e1; exact kw_457
  by_cases e2 : k = 2; subst e2; exact kw_459
  by_cases e3 : k = 3; subst e3; exact kw_461
  by_cases e4 : k = 4; subst e4; exact kw_463
  omega)
theorem hin_X3 : ∀ w ∈ u_ws RX3 TX3 13, w ∈ gW := all_map (fun k hk => by
  by_cases e0 : k = 0; subst e0; exact kw_375
  by_cases e1 : k = 1; subst e1; exact kw_377
  by_cases e2 : k = 2; subst e2; exact kw_379
  by_cases e3 : k = 3; subst e3; exact kw_381
  by_cases e4 : k = 4; subst e4; exact kw_383
  by_cases e5 : k = 5; subst e5; exact kw_385
  by_cases e6 : k = 6; subst e6; exact kw_387
  by_cases e7 : k = 7; subst e7; exact kw_389
  by_cases e8 : k = 8; subst e8; exact kw_391
  by_cases e9 : k = 9; subst e9; exact kw_393
  by_cases e10 : k = 10; subst e10; exact kw_395
  by_cases e11 : k = 11; subst e11; exact kw_397
  by_cases e12 : k = 12; subst e12; exact kw_399
  omega)
theorem hin_X4 : ∀ w ∈ u_ws RX4 TX4 6, w ∈ gW := all_map (fun k hk => by
  by_cases e0 : k = 0; subst e0; exact kw_516
  by_cases e1 : k = 1; subst e1; exact kw_518
  by_cases e2 : k = 2; subst e2; exact kw_520
  by_cases e3 : k = 3; subst e3; exact kw_522
  by_cases e4 : k = 4; subst e4; exact kw_524
  by_cases e5 : k = 5; subst e5; exact kw_526
  omega)
theorem hin_X5 : ∀ w ∈ u_ws RX5 TX5 7, w ∈ gW := all_map (fun k hk => by
  by_cases e0 : k = 0; subst e0; exact kw_561
  by_cases e1 : k = 1; subst e1; exact kw_563
  by_cases e2 : k = 2; subst e2; exact kw_565
  by_cases e3 : k = 3; subst e3; exact kw_567
  by_cases e4 : k = 4; subst e4; exact kw_569
  by_cases e5 : k = 5; subst e5; exact kw_571
  by_cases e6 : k = 6; subst e6; exact kw_573
  omega)
theorem hin_X6 : ∀ w ∈ u_ws RX6 TX6 9, w ∈ gW := all_map (fun k hk => by
  by_cases e0 : k = 0; subst e0; exact kw_273
  by_cases e1 : k = 1; subst e1; exact kw_275
  by_cases e2 : k = 2; subst e2; exact kw_277
  by_cases e3 : k = 3; subst e3; exact kw_279
  by_cases e4 : k = 4; subst e4; exact kw_281
  by_cases e5 : k = 5; subst e5; exact kw_283
  by_cases e6 : k = 6; subst e6; exact kw_285
  by_cases e7 : k = 7; subst e7; exact kw_287
  by_cases e8 : k = 8; subst e8; exact kw_289
  omega)
theorem hin_X7 : ∀ w ∈ u_ws RX7 TX7 5, w ∈ gW := all_map (fun k hk => by
  by_cases e0 : k = 0; subst e0; exact kw_310
  by_cases e1 : k = 1; subst e1; exact kw_312
  by_cases e2 : k = 2; subst e2; exact kw_314
  by_cases e3 : k = 3; subst e3; exact kw_316
  by_cases e4 : k = 4; subst e4; exact kw_318
  omega)
theorem hin_X8 : ∀ w ∈ u_ws RX8 TX8 4, w ∈ gW := all_map (fun k hk => by
  by_cases e0 : k = 0; subst e0; exact kw_240
  by_cases e1 : k = 1; subst e1; exact kw_242
  by_cases e2 : k = 2; subst e2; exact kw_244
  by_cases e3 : k = 3; subst e3; exact kw_246
  omega)
theorem hin_X9 : ∀ w ∈ u_ws RX9 TX9 7, w ∈ gW := all_map (fun k hk => by
  by_cases e0 : k = 0; subst e0; exact kw_482
  by_cases e1 : k = 1; subst e1; exact kw_484
  by_cases e2 : k = 2; subst e2; exact kw_486
  by_cases e3 : k = 3; subst e3; exact kw_488
  by_cases e4 : k = 4; subst e4; exact kw_490
  by_cases e5 : k = 5; subst e5; exact kw_492
  by_cases e6 : k = 6; subst e6; exact kw_494
  omega)
theorem hin_X10 : ∀ w ∈ u_ws RX10 TX10 3, w ∈ gW := all_map (fun k hk => by
  by_cases e0 : k = 0; subst e0; exact kw_205
  by_cases e1 : k = 1; subst e1; exact kw_207
  by_cases e2 : k = 2; subst e2; exact kw_209
  omega)
theorem hin_X11 : ∀ w ∈ u_ws RX11 TX11 11, w ∈ gW := all_map (fun k hk => by
  by_cases e0 : k = 0; subst e0; exact kw_587
  by_cases e1 : k = 1; subst e1; exact kw_589
  by_cases e2 : k = 2; subst e2; exact kw_591
  by_cases e3 : k = 3; subst e3; exact kw_593
  by_cases e4 : k = 4; subst e4; exact kw_595
  by_cases e5 : k = 5; subst e5; exact kw_597
  by_cases e6 : k = 6; subst e6; exact kw_599
  by_cases e7 : k = 7; subst e7; exact kw_601
  by_cases e8 : k = 8; subst e8; exact kw_603
  by_cases e9 : k = 9; subst e9; exact kw_605
  by_cases e10 : k = 10; subst e10; exact kw_607
  omega)
theorem hin_X12 : ∀ w ∈ u_ws RX12 TX12 49, w ∈ gW := all_map (fun k hk => by
  by_cases e0 : k = 0; subst e0; exact kw_1741
  by_cases e1 : k = 1; subst e1; exact kw_1743
  by_cases e2 : k = 2; subst e2; exact kw_1745
  by_cases e3 : k = 3; subst e3; exact kw_1747
  by_cases e4 : k = 4; subst e4; exact kw_1749
  by_cases e5 : k = 5; subst e5; exact kw_1751
  by_cases e6 : k = 6; subst e6; exact kw_1753
  by_cases e7 : k = 7; subst e7; exact kw_1755
  by_cases e8 : k = 8; subst e8; exact kw_1757
  by_cases e9 : k = 9; subst e9; exact kw_1759
  by_cases e10 : k = 10; subst e10; exact kw_1761
  by_cases e11 : k = 11; subst e11; exact kw_1763
  by_cases e12 : k = 12; subst e12; exact kw_1765
  by_cases e13 : k = 13; subst e13; exact kw_1767
  by_cases e14 : k = 14; subst e14; exact kw_1769
  by_cases e15 : k = 15; subst e15; exact kw_1771
  by_cases e16 : k = 16; subst e16; exact kw_1773
  by_cases e17 : k = 17; subst e17; exact kw_1775
  by_cases e18 : k = 18; subst e18; exact kw_1777
  by_cases e19 : k = 19; subst e19; exact kw_1779
  by_cases e20 : k = 20; subst e20; exact kw_1781
  by_cases e21 : k = 21; subst e21; exact kw_1783
  by_cases e22 : k = 22; subst e22; exact kw_1785
  by_cases e23 : k = 23; subst e23; exact kw_1787
  by_cases e24 : k = 24; subst e24; exact kw_1789
  by_cases e25 : k = 25; subst e25; exact kw_1791
  by_cases e26 : k = 26; subst e26; exact kw_1793
  by_cases e27 : k = 27; subst e27; exact kw_1795
  by_cases e28 : k = 28; subst e28; exact kw_1797
  by_cases e29 : k = 29; subst e29; exact kw_1799
  by_cases e30 : k = 30; subst e30; exact kw_1801
  by_cases e31 : k = 31; subst e31; exact kw_1803
  by_cases e32 : k = 32; subst e32; exact kw_1805
  by_cases e33 : k = 33; subst e33; exact kw_1807
  by_cases e34 : k = 34; subst e34; exact kw_1809
  by_cases e35 : k = 35; subst e35; exact kw_1811
  by_cases e36 : k = 36; subst e36; exact kw_1813
  by_cases e37 : k = 37; subst e37; exact kw_1815
  by_cases e38 : k = 38; subst e38; exact kw_1817
  by_cases e39 : k = 39; subst e39; exact kw_1819
  by_cases e40 : k = 40; subst e40; exact kw_1821
  by_cases e41 : k = 41; subst e41; exact kw_1823
  by_cases e42 : k = 42; subst e42; exact kw_1825
  by_cases e43 : k = 43; subst e43; exact kw_1827
  by_cases e44 : k = 44; subst e44; exact kw_1829
  by_cases e45 : k = 45; subst e45; exact kw_1831
  by_cases e46 : k = 46; subst e46; exact kw_1833
  by_cases e47 : k = 47; subst e47; exact kw_1835
  by_cases e48 : k = 48; subst e48; exact kw_1837
  omega)
theorem a_0 : isA 0 (13, 0) := isA.of (by decide +kernel)
theorem a_1 : isA 1 (12, 0) := isA.of (by decide +kernel)
theorem a_2 : isA 2 (21, 24) := isA.of (by decide +kernel)
theorem a_3 : isA 3 (8, 0) := isA.of (by decide +kernel)
theorem a_4 : isA 4 (25, 12) := isA.of (by decide +kernel)
theorem a_5 : isA 5 (20, 32) := isA.of (by decide +kernel)
theorem a_6 : isA 6 (27, 2) := isA.of (by decide +kernel)
theorem a_61 : isA 61 (9, 0) := isA.of (by decide +kernel)
theorem a_67 : isA 67 (2, 0) := isA.of (by decide +kernel)
theorem a_68 : isA 68 (26, 96) := isA.of (by decide +kernel)
theorem a_69 : isA 69 (20, 7) := isA.of (by decide +kernel)
theorem a_70 : isA 70 (20, 7) := isA.of (by decide +kernel)
theorem a_71 : isA 71 (20, 7) := isA.of (by decide +kernel)
theorem a_168 : isA 168 (4, 0) := isA.of (by decide +kernel)
theorem a_169 : isA 169 (27, 96) := isA.of (by decide +kernel)
theorem a_266 : isA 266 (27, 96) := isA.of (by decide +kernel)
theorem a_363 : isA 363 (27, 96) := isA.of (by decide +kernel)
theorem a_460 : isA 460 (20, 96) := isA.of (by decide +kernel)
theorem a_461 : isA 461 (11, 0) := isA.of (by decide +kernel)
theorem a_462 : isA 462 (20, 96) := isA.of (by decide +kernel)
theorem a_463 : isA 463 (20, 96) := isA.of (by decide +kernel)
theorem a_464 : isA 464 (20, 96) := isA.of (by decide +kernel)
theorem a_465 : isA 465 (20, 96) := isA.of (by decide +kernel)
theorem a_466 : isA 466 (20, 96) := isA.of (by decide +kernel)
theorem a_467 : isA 467 (20, 7) := isA.of (by decide +kernel)
theorem a_468 : isA 468 (20, 481) := isA.of (by decide +kernel)
theorem a_469 : isA 469 (6, 0) := isA.of (by decide +kernel)
theorem a_470 : isA 470 (20, 96) := isA.of (by decide +kernel)
theorem a_471 : isA 471 (20, 96) := isA.of (by decide +kernel)
theorem a_472 : isA 472 (27, 7) := isA.of (by decide +kernel)
theorem a_480 : isA 480 (3, 0) := isA.of (by decide +kernel)
theorem a_481 : isA 481 (9, 0) := isA.of (by decide +kernel)
theorem a_487 : isA 487 (20, 1536) := isA.of (by decide +kernel)
theorem a_488 : isA 488 (7, 0) := isA.of (by decide +kernel)
theorem a_489 : isA 489 (27, 4) := isA.of (by decide +kernel)
theorem a_494 : isA 494 (27, 4) := isA.of (by decide +kernel)
theorem a_499 : isA 499 (20, 4) := isA.of (by decide +kernel)
theorem a_500 : isA 500 (20, 4) := isA.of (by decide +kernel)
theorem a_501 : isA 501 (20, 4) := isA.of (by decide +kernel)
theorem a_502 : isA 502 (20, 4) := isA.of (by decide +kernel)
theorem a_503 : isA 503 (20, 4) := isA.of (by decide +kernel)
theorem a_504 : isA 504 (14, 0) := isA.of (by decide +kernel)
theorem a_505 : isA 505 (21, 24) := isA.of (by decide +kernel)
theorem a_506 : isA 506 (20, 13) := isA.of (by decide +kernel)
theorem a_507 : isA 507 (20, 156) := isA.of (by decide +kernel)
theorem a_508 : isA 508 (20, 32) := isA.of (by decide +kernel)
theorem a_509 : isA 509 (20, 32) := isA.of (by decide +kernel)
theorem a_510 : isA 510 (20, 7) := isA.of (by decide +kernel)
theorem a_511 : isA 511 (20, 7) := isA.of (by decide +kernel)
theorem a_512 : isA 512 (20, 8) := isA.of (by decide +kernel)
theorem a_513 : isA 513 (20, 32) := isA.of (by decide +kernel)
theorem a_514 : isA 514 (20, 192) := isA.of (by decide +kernel)
theorem a_515 : isA 515 (20, 96) := isA.of (by decide +kernel)
theorem a_516 : isA 516 (20, 96) := isA.of (by decide +kernel)
theorem a_517 : isA 517 (20, 96) := isA.of (by decide +kernel)
theorem a_518 : isA 518 (20, 96) := isA.of (by decide +kernel)
theorem a_519 : isA 519 (20, 96) := isA.of (by decide +kernel)
theorem a_520 : isA 520 (20, 96) := isA.of (by decide +kernel)
theorem a_521 : isA 521 (22, 96) := isA.of (by decide +kernel)
theorem a_522 : isA 522 (20, 96) := isA.of (by decide +kernel)
theorem a_523 : isA 523 (20, 20000) := isA.of (by decide +kernel)
theorem a_524 : isA 524 (20, 20000) := isA.of (by decide +kernel)
theorem a_525 : isA 525 (20, 20000) := isA.of (by decide +kernel)
theorem a_526 : isA 526 (20, 20000) := isA.of (by decide +kernel)
theorem a_527 : isA 527 (20, 20000) := isA.of (by decide +kernel)
theorem a_528 : isA 528 (20, 9216) := isA.of (by decide +kernel)
theorem a_529 : isA 529 (20, 96) := isA.of (by decide +kernel)
theorem a_530 : isA 530 (20, 96) := isA.of (by decide +kernel)
theorem a_531 : isA 531 (20, 96) := isA.of (by decide +kernel)
theorem a_532 : isA 532 (20, 96) := isA.of (by decide +kernel)
theorem a_533 : isA 533 (20, 96) := isA.of (by decide +kernel)
theorem a_534 : isA 534 (20, 1536) := isA.of (by decide +kernel)
theorem a_535 : isA 535 (20, 4) := isA.of (by decide +kernel)
theorem a_536 : isA 536 (20, 64) := isA.of (by decide +kernel)
theorem a_537 : isA 537 (20, 4) := isA.of (by decide +kernel)
theorem a_538 : isA 538 (20, 4) := isA.of (by decide +kernel)
theorem a_539 : isA 539 (20, 4) := isA.of (by decide +kernel)
theorem sta_61 : sta 61 := by unfold sta; omega
theorem sta_481 : sta 481 := by unfold sta; omega
theorem row_6 {k : Int} (h : 0 ≤ k ∧ k < 2) : isA (7 + k) (20, 16) := isA_rng 7 2 _ (by decide +kernel) (by omega) (by omega)
theorem row_169 {k : Int} (h : 0 ≤ k ∧ k < 96) : isA (170 + k) (20, 100) := isA_rng 170 96 _ (by decide +kernel) (by omega) (by omega)
theorem row_266 {k : Int} (h : 0 ≤ k ∧ k < 96) : isA (267 + k) (20, 100) := isA_rng 267 96 _ (by decide +kernel) (by omega) (by omega)
theorem row_363 {k : Int} (h : 0 ≤ k ∧ k < 96) : isA (364 + k) (20, 100) := isA_rng 364 96 _ (by decide +kernel) (by omega) (by omega)
theorem row_472 {k : Int} (h : 0 ≤ k ∧ k < 7) : isA (473 + k) (20, 481) := isA_rng 473 7 _ (by decide +kernel) (by omega) (by omega)
theorem row_489 {k : Int} (h : 0 ≤ k ∧ k < 4) : isA (490 + k) (20, 16) := isA_rng 490 4 _ (by decide +kernel) (by omega) (by omega)
theorem row_494 {k : Int} (h : 0 ≤ k ∧ k < 4) : isA (495 + k) (20, 16) := isA_rng 495 4 _ (by decide +kernel) (by omega) (by omega)
theorem th_92 : ∀ w ∈ vx_atS "Schedulary" 92 "java/lang/IllegalArgumentException" thN, w ∈ gW ∨ w ∈ gX := th_of (by decide +kernel)
theorem th_102 : ∀ w ∈ vx_atS "Schedulary" 102 "java/lang/IllegalStateException" thN, w ∈ gW ∨ w ∈ gX := th_of (by decide +kernel)
theorem th_138 : ∀ w ∈ vx_atS "Schedulary" 138 "java/lang/IndexOutOfBoundsException" thN, w ∈ gW ∨ w ∈ gX := th_of (by decide +kernel)
theorem th_157 : ∀ w ∈ vx_atS "Schedulary" 157 "java/lang/UnsupportedOperationException" thN, w ∈ gW ∨ w ∈ gX := th_of (by decide +kernel)
theorem th_269 : ∀ w ∈ vx_atS "Schedulary" 269 "java/util/NoSuchElementException" thN, w ∈ gW ∨ w ∈ gX := th_of (by decide +kernel)
theorem mY_X11_action : mY yX11_action cX11_action 4 (some .int) 3 := ⟨kw_158, kw_1614, by decide, by decide, by decide +kernel⟩
theorem mY_X11_add : mY yX11_add cX11_add 2 (some .int) 0 := ⟨kw_158, kw_1352, by decide, by decide, by decide +kernel⟩
theorem mY_X11_areLocked : mY yX11_areLocked cX11_areLocked 1 (some .boolean) 0 := ⟨kw_158, kw_1202, by decide, by decide, by decide +kernel⟩
theorem mY_X11_binds : mY yX11_binds cX11_binds 1 (some .char) 0 := ⟨kw_158, kw_1122, by decide, by decide, by decide +kernel⟩
theorem mY_X11_byRings : mY yX11_byRings cX11_byRings 1 (some .int) 0 := ⟨kw_158, kw_1110, by decide, by decide, by decide +kernel⟩
theorem mY_X11_byUnits : mY yX11_byUnits cX11_byUnits 1 (some .int) 0 := ⟨kw_158, kw_1114, by decide, by decide, by decide +kernel⟩
theorem mY_X11_carryOut : mY yX11_carryOut cX11_carryOut 1 none 0 := ⟨kw_158, kw_765, by decide, by decide, by decide +kernel⟩
theorem mY_X11_changeBody : mY yX11_changeBody cX11_changeBody 1 none 0 := ⟨kw_158, kw_1362, by decide, by decide, by decide +kernel⟩
theorem mY_X11_changeValues : mY yX11_changeValues cX11_changeValues 1 none 0 := ⟨kw_158, kw_1437, by decide, by decide, by decide +kernel⟩
theorem mY_X11_checkNode : mY yX11_checkNode cX11_checkNode 2 none 1 := ⟨kw_158, kw_1531, by decide, by decide, by decide +kernel⟩
theorem mY_X11_checksum : mY yX11_checksum cX11_checksum 4 (some .long) 0 := ⟨kw_158, kw_1210, by decide, by decide, by decide +kernel⟩
theorem mY_X11_circuitMemory : mY yX11_circuitMemory cX11_circuitMemory 3 (some .int) 2 := ⟨kw_158, kw_1607, by decide, by decide, by decide +kernel⟩
theorem mY_X11_circuitOutput : mY yX11_circuitOutput cX11_circuitOutput 2 (some .int) 1 := ⟨kw_158, kw_1600, by decide, by decide, by decide +kernel⟩
theorem mY_X11_circuitOutputs : mY yX11_circuitOutputs cX11_circuitOutputs 1 (some .int) 0 := ⟨kw_158, kw_1162, by decide, by decide, by decide +kernel⟩
theorem mY_X11_clear : mY yX11_clear cX11_clear 1 (some .int) 0 := ⟨kw_158, kw_613, by decide, by decide, by decide +kernel⟩
theorem mY_X11_cycles : mY yX11_cycles cX11_cycles 1 (some .int) 0 := ⟨kw_158, kw_1151, by decide, by decide, by decide +kernel⟩
theorem mY_X11_done : mY yX11_done cX11_done 1 (some .int) 0 := ⟨kw_158, kw_1182, by decide, by decide, by decide +kernel⟩
theorem mY_X11_edges : mY yX11_edges cX11_edges 1 (some .int) 0 := ⟨kw_158, kw_1075, by decide, by decide, by decide +kernel⟩
theorem mY_X11_fault : mY yX11_fault cX11_fault 1 (some .int) 0 := ⟨kw_158, kw_621, by decide, by decide, by decide +kernel⟩
theorem mY_X11_inStep : mY yX11_inStep cX11_inStep 2 (some .int) 1 := ⟨kw_158, kw_1084, by decide, by decide, by decide +kernel⟩
theorem mY_X11_input : mY yX11_input cX11_input 2 (some .int) 1 := ⟨kw_158, kw_1462, by decide, by decide, by decide +kernel⟩
theorem mY_X11_interval : mY yX11_interval cX11_interval 1 (some .int) 0 := ⟨kw_158, kw_1118, by decide, by decide, by decide +kernel⟩
theorem mY_X11_isDivided : mY yX11_isDivided cX11_isDivided 2 (some .boolean) 2 := ⟨kw_158, kw_943, by decide, by decide, by decide +kernel⟩
theorem mY_X11_isPlace : mY yX11_isPlace cX11_isPlace 2 (some .boolean) 2 := ⟨kw_158, kw_1475, by decide, by decide, by decide +kernel⟩
theorem mY_X11_isSame : mY yX11_isSame cX11_isSame 1 (some .boolean) 0 := ⟨kw_158, kw_1166, by decide, by decide, by decide +kernel⟩
theorem mY_X11_isSound : mY yX11_isSound cX11_isSound 1 (some .boolean) 0 := ⟨kw_158, kw_1216, by decide, by decide, by decide +kernel⟩
theorem mY_X11_isWithin : mY yX11_isWithin cX11_isWithin 3 (some .boolean) 3 := ⟨kw_158, kw_1032, by decide, by decide, by decide +kernel⟩
theorem mY_X11_kindOf : mY yX11_kindOf cX11_kindOf 2 (some .char) 1 := ⟨kw_158, kw_1527, by decide, by decide, by decide +kernel⟩
theorem mY_X11_late : mY yX11_late cX11_late 2 (some .int) 1 := ⟨kw_158, kw_1579, by decide, by decide, by decide +kernel⟩
theorem mY_X11_leastDepth : mY yX11_leastDepth cX11_leastDepth 2 (some .int) 0 := ⟨kw_158, kw_1647, by decide, by decide, by decide +kernel⟩
theorem mY_X11_length : mY yX11_length cX11_length 1 (some .int) 0 := ⟨kw_158, kw_1079, by decide, by decide, by decide +kernel⟩
theorem mY_X11_memoryAt : mY yX11_memoryAt cX11_memoryAt 3 (some .int) 2 := ⟨kw_158, kw_1510, by decide, by decide, by decide +kernel⟩
theorem mY_X11_nodes : mY yX11_nodes cX11_nodes 1 (some .int) 0 := ⟨kw_158, kw_829, by decide, by decide, by decide +kernel⟩
theorem mY_X11_oneByOne : mY yX11_oneByOne cX11_oneByOne 1 (some .int) 0 := ⟨kw_158, kw_1157, by decide, by decide, by decide +kernel⟩
theorem mY_X11_output : mY yX11_output cX11_output 2 (some .int) 1 := ⟨kw_158, kw_1502, by decide, by decide, by decide +kernel⟩
theorem mY_X11_outputs : mY yX11_outputs cX11_outputs 1 (some .int) 0 := ⟨kw_158, kw_761, by decide, by decide, by decide +kernel⟩
theorem mY_X11_place : mY yX11_place cX11_place 2 (some .int) 1 := ⟨kw_158, kw_1593, by decide, by decide, by decide +kernel⟩
theorem mY_X11_prepare : mY yX11_prepare cX11_prepare 2 none 1 := ⟨kw_158, kw_833, by decide, by decide, by decide +kernel⟩
theorem mY_X11_register : mY yX11_register cX11_register 2 (some .int) 1 := ⟨kw_158, kw_1519, by decide, by decide, by decide +kernel⟩
theorem mY_X11_replace : mY yX11_replace cX11_replace 2 (some .int) 1 := ⟨kw_158, kw_1393, by decide, by decide, by decide +kernel⟩
theorem mY_X11_setBits : mY yX11_setBits cX11_setBits 3 (some .int) 1 := ⟨kw_158, kw_1445, by decide, by decide, by decide +kernel⟩
theorem mY_X11_setCycles : mY yX11_setCycles cX11_setCycles 5 (some .int) 2 := ⟨kw_158, kw_1494, by decide, by decide, by decide +kernel⟩
theorem mY_X11_setDepth : mY yX11_setDepth cX11_setDepth 4 (some .int) 2 := ⟨kw_158, kw_1627, by decide, by decide, by decide +kernel⟩
theorem mY_X11_setMemory : mY yX11_setMemory cX11_setMemory 6 (some .int) 3 := ⟨kw_158, kw_1472, by decide, by decide, by decide +kernel⟩
theorem mY_X11_setTurns : mY yX11_setTurns cX11_setTurns 3 (some .int) 1 := ⟨kw_158, kw_1414, by decide, by decide, by decide +kernel⟩
theorem mY_X11_setUnits : mY yX11_setUnits cX11_setUnits 5 (some .int) 2 := ⟨kw_158, kw_1484, by decide, by decide, by decide +kernel⟩
theorem mY_X11_soon : mY yX11_soon cX11_soon 2 (some .int) 1 := ⟨kw_158, kw_1572, by decide, by decide, by decide +kernel⟩
theorem mY_X11_statementOf : mY yX11_statementOf cX11_statementOf 2 (some .int) 1 := ⟨kw_158, kw_1540, by decide, by decide, by decide +kernel⟩
theorem mY_X11_step : mY yX11_step cX11_step 2 (some .int) 1 := ⟨kw_158, kw_1586, by decide, by decide, by decide +kernel⟩
theorem mY_X11_taken : mY yX11_taken cX11_taken 1 (some .int) 0 := ⟨kw_158, kw_825, by decide, by decide, by decide +kernel⟩
theorem mY_X11_type : mY yX11_type cX11_type 2 (some .int) 1 := ⟨kw_158, kw_1252, by decide, by decide, by decide +kernel⟩
theorem mY_X11_unroll : mY yX11_unroll cX11_unroll 2 (some .int) 1 := ⟨kw_158, kw_1453, by decide, by decide, by decide +kernel⟩
theorem mY_X11_waiting : mY yX11_waiting cX11_waiting 1 (some .int) 0 := ⟨kw_158, kw_1092, by decide, by decide, by decide +kernel⟩
theorem mY_X11_waitsFor : mY yX11_waitsFor cX11_waitsFor 2 (some .int) 1 := ⟨kw_158, kw_1635, by decide, by decide, by decide +kernel⟩
theorem mY_X11_weight : mY yX11_weight cX11_weight 5 (some .int) 3 := ⟨kw_158, kw_1548, by decide, by decide, by decide +kernel⟩
theorem mY_X0_append : mY yX0_append cX0_append 6 (some .int) 4 := ⟨kw_163, kw_853, by decide, by decide, by decide +kernel⟩
theorem mY_X0_appendReading : mY yX0_appendReading cX0_appendReading 6 (some .int) 4 := ⟨kw_163, kw_845, by decide, by decide, by decide +kernel⟩
theorem mY_X0_appendWriting : mY yX0_appendWriting cX0_appendWriting 6 none 4 := ⟨kw_163, kw_880, by decide, by decide, by decide +kernel⟩
theorem mY_X0_areUnitsKept : mY yX0_areUnitsKept cX0_areUnitsKept 4 (some .boolean) 2 := ⟨kw_163, kw_1228, by decide, by decide, by decide +kernel⟩
theorem mY_X0_countTogether : mY yX0_countTogether cX0_countTogether 6 (some .int) 3 := ⟨kw_163, kw_1232, by decide, by decide, by decide +kernel⟩
theorem mY_X0_cyclesOf : mY yX0_cyclesOf cX0_cyclesOf 2 (some .int) 1 := ⟨kw_163, kw_896, by decide, by decide, by decide +kernel⟩
theorem mY_X0_endOf : mY yX0_endOf cX0_endOf 4 (some .int) 1 := ⟨kw_163, kw_964, by decide, by decide, by decide +kernel⟩
theorem mY_X0_lastMakerAhead : mY yX0_lastMakerAhead cX0_lastMakerAhead 4 (some .int) 2 := ⟨kw_163, kw_925, by decide, by decide, by decide +kernel⟩
theorem mY_X0_leastIntervalOf : mY yX0_leastIntervalOf cX0_leastIntervalOf 3 (some .int) 1 := ⟨kw_163, kw_1016, by decide, by decide, by decide +kernel⟩
theorem mY_X0_nextMakerBehind : mY yX0_nextMakerBehind cX0_nextMakerBehind 4 (some .int) 2 := ⟨kw_163, kw_913, by decide, by decide, by decide +kernel⟩
theorem mY_X0_number : mY yX0_number cX0_number 4 none 1 := ⟨kw_163, kw_837, by decide, by decide, by decide +kernel⟩
theorem mY_X0_numberOne : mY yX0_numberOne cX0_numberOne 8 none 3 := ⟨kw_163, kw_841, by decide, by decide, by decide +kernel⟩
theorem mY_X0_sumOfCycles : mY yX0_sumOfCycles cX0_sumOfCycles 3 (some .int) 0 := ⟨kw_163, kw_1000, by decide, by decide, by decide +kernel⟩
theorem mY_X1_begin : mY yX1_begin cX1_begin 8 none 4 := ⟨kw_168, kw_1067, by decide, by decide, by decide +kernel⟩
theorem mY_X1_finish : mY yX1_finish cX1_finish 6 none 4 := ⟨kw_168, kw_1058, by decide, by decide, by decide +kernel⟩
theorem mY_X1_turn : mY yX1_turn cX1_turn 9 none 3 := ⟨kw_168, kw_1040, by decide, by decide, by decide +kernel⟩
theorem mY_X1_turnAfter : mY yX1_turnAfter cX1_turnAfter 4 (some .int) 3 := ⟨kw_168, kw_1054, by decide, by decide, by decide +kernel⟩
theorem mY_X1_valueFrom : mY yX1_valueFrom cX1_valueFrom 3 (some .int) 2 := ⟨kw_168, kw_1062, by decide, by decide, by decide +kernel⟩
theorem mY_X2_distanceTo : mY yX2_distanceTo cX2_distanceTo 5 (some .int) 4 := ⟨kw_165, kw_940, by decide, by decide, by decide +kernel⟩
theorem mY_X2_find : mY yX2_find cX2_find 5 (some .int) 3 := ⟨kw_165, kw_904, by decide, by decide, by decide +kernel⟩
theorem mY_X2_isKept : mY yX2_isKept cX2_isKept 9 (some .boolean) 4 := ⟨kw_165, kw_1224, by decide, by decide, by decide +kernel⟩
theorem mY_X2_join : mY yX2_join cX2_join 4 none 2 := ⟨kw_165, kw_884, by decide, by decide, by decide +kernel⟩
theorem mY_X2_joinChannel : mY yX2_joinChannel cX2_joinChannel 6 none 2 := ⟨kw_165, kw_947, by decide, by decide, by decide +kernel⟩
theorem mY_X2_joinGiver : mY yX2_joinGiver cX2_joinGiver 4 none 3 := ⟨kw_165, kw_892, by decide, by decide, by decide +kernel⟩
theorem mY_X2_joinMakerAhead : mY yX2_joinMakerAhead cX2_joinMakerAhead 6 none 3 := ⟨kw_165, kw_921, by decide, by decide, by decide +kernel⟩
theorem mY_X2_joinMakerBehind : mY yX2_joinMakerBehind cX2_joinMakerBehind 7 none 3 := ⟨kw_165, kw_929, by decide, by decide, by decide +kernel⟩
theorem mY_X2_joinMemory : mY yX2_joinMemory cX2_joinMemory 6 none 3 := ⟨kw_165, kw_933, by decide, by decide, by decide +kernel⟩
theorem mY_X2_joinPlaces : mY yX2_joinPlaces cX2_joinPlaces 8 none 4 := ⟨kw_165, kw_937, by decide, by decide, by decide +kernel⟩
theorem mY_X2_joinRegister : mY yX2_joinRegister cX2_joinRegister 6 none 2 := ⟨kw_165, kw_909, by decide, by decide, by decide +kernel⟩
theorem mY_X2_joinWithinStatements : mY yX2_joinWithinStatements cX2_joinWithinStatements 3 none 1 := ⟨kw_165, kw_888, by decide, by decide, by decide +kernel⟩
theorem mY_X2_put : mY yX2_put cX2_put 6 none 4 := ⟨kw_165, kw_900, by decide, by decide, by decide +kernel⟩
theorem mY_X3_isUsing : mY yX3_isUsing cX3_isUsing 2 (some .boolean) 1 := ⟨kw_164, kw_917, by decide, by decide, by decide +kernel⟩
theorem mY_X3_set : mY yX3_set cX3_set 5 none 4 := ⟨kw_164, kw_858, by decide, by decide, by decide +kernel⟩
theorem mY_X3_setPlace : mY yX3_setPlace cX3_setPlace 2 none 1 := ⟨kw_164, kw_862, by decide, by decide, by decide +kernel⟩
theorem mY_X4_countCycles : mY yX4_countCycles cX4_countCycles 3 (some .int) 2 := ⟨kw_167, kw_1049, by decide, by decide, by decide +kernel⟩
theorem mY_X4_find : mY yX4_find cX4_find 6 none 2 := ⟨kw_167, kw_992, by decide, by decide, by decide +kernel⟩
theorem mY_X4_findBinding : mY yX4_findBinding cX4_findBinding 3 (some .char) 1 := ⟨kw_167, kw_1126, by decide, by decide, by decide +kernel⟩
theorem mY_X4_findByRings : mY yX4_findByRings cX4_findByRings 7 (some .int) 2 := ⟨kw_167, kw_996, by decide, by decide, by decide +kernel⟩
theorem mY_X4_findByUnits : mY yX4_findByUnits cX4_findByUnits 3 (some .int) 1 := ⟨kw_167, kw_1012, by decide, by decide, by decide +kernel⟩
theorem mY_X4_findStep : mY yX4_findStep cX4_findStep 10 (some .int) 4 := ⟨kw_167, kw_1024, by decide, by decide, by decide +kernel⟩
theorem mY_X4_isAllowedByRings : mY yX4_isAllowedByRings cX4_isAllowedByRings 7 (some .boolean) 3 := ⟨kw_167, kw_1005, by decide, by decide, by decide +kernel⟩
theorem mY_X4_isKept : mY yX4_isKept cX4_isKept 3 (some .boolean) 2 := ⟨kw_167, kw_1241, by decide, by decide, by decide +kernel⟩
theorem mY_X4_placeAll : mY yX4_placeAll cX4_placeAll 6 (some .boolean) 2 := ⟨kw_167, kw_1020, by decide, by decide, by decide +kernel⟩
theorem mY_X4_placeAt : mY yX4_placeAt cX4_placeAt 8 none 4 := ⟨kw_167, kw_1036, by decide, by decide, by decide +kernel⟩
theorem mY_X4_pushAll : mY yX4_pushAll cX4_pushAll 9 (some .int) 3 := ⟨kw_167, kw_1009, by decide, by decide, by decide +kernel⟩
theorem mY_X4_restOf : mY yX4_restOf cX4_restOf 3 (some .int) 1 := ⟨kw_167, kw_1029, by decide, by decide, by decide +kernel⟩
theorem mY_X5_append : mY yX5_append cX5_append 5 (some .int) 3 := ⟨kw_169, kw_1620, by decide, by decide, by decide +kernel⟩
theorem mY_X5_countDone : mY yX5_countDone cX5_countDone 3 (some .int) 0 := ⟨kw_169, kw_1198, by decide, by decide, by decide +kernel⟩
theorem mY_X5_findLeastDepth : mY yX5_findLeastDepth cX5_findLeastDepth 3 (some .int) 0 := ⟨kw_169, kw_1651, by decide, by decide, by decide +kernel⟩
theorem mY_X5_go : mY yX5_go cX5_go 5 none 0 := ⟨kw_169, kw_1190, by decide, by decide, by decide +kernel⟩
theorem mY_X5_goOn : mY yX5_goOn cX5_goOn 5 none 1 := ⟨kw_169, kw_1194, by decide, by decide, by decide +kernel⟩
theorem mY_X5_goWithTheirDepths : mY yX5_goWithTheirDepths cX5_goWithTheirDepths 2 none 0 := ⟨kw_169, kw_1186, by decide, by decide, by decide +kernel⟩
theorem mY_X5_isSomeLeft : mY yX5_isSomeLeft cX5_isSomeLeft 2 (some .boolean) 0 := ⟨kw_169, kw_1206, by decide, by decide, by decide +kernel⟩
theorem mY_X5_nextChannel : mY yX5_nextChannel cX5_nextChannel 3 (some .int) 1 := ⟨kw_169, kw_1640, by decide, by decide, by decide +kernel⟩
theorem mY_X6_bodyTurns : mY yX6_bodyTurns cX6_bodyTurns 1 (some .int) 0 := ⟨kw_160, kw_1045, by decide, by decide, by decide +kernel⟩
theorem mY_X6_carryOut : mY yX6_carryOut cX6_carryOut 4 none 1 := ⟨kw_160, kw_769, by decide, by decide, by decide +kernel⟩
theorem mY_X6_carryOutOne : mY yX6_carryOutOne cX6_carryOutOne 5 none 3 := ⟨kw_160, kw_781, by decide, by decide, by decide +kernel⟩
theorem mY_X6_cut : mY yX6_cut cX6_cut 2 (some .int) 1 := ⟨kw_160, kw_777, by decide, by decide, by decide +kernel⟩
theorem mY_X6_takeInput : mY yX6_takeInput cX6_takeInput 3 (some .int) 1 := ⟨kw_160, kw_790, by decide, by decide, by decide +kernel⟩
theorem mY_X6_useSpare : mY yX6_useSpare cX6_useSpare 3 none 1 := ⟨kw_160, kw_1358, by decide, by decide, by decide +kernel⟩
theorem mY_X6_valueOf : mY yX6_valueOf cX6_valueOf 5 (some .int) 4 := ⟨kw_160, kw_785, by decide, by decide, by decide +kernel⟩
theorem mY_X6_write : mY yX6_write cX6_write 6 none 4 := ⟨kw_160, kw_813, by decide, by decide, by decide +kernel⟩
theorem mY_X7_begin : mY yX7_begin cX7_begin 4 none 1 := ⟨kw_162, kw_773, by decide, by decide, by decide +kernel⟩
theorem mY_X7_hasMemoriesOf : mY yX7_hasMemoriesOf cX7_hasMemoriesOf 4 (some .boolean) 1 := ⟨kw_162, kw_1178, by decide, by decide, by decide +kernel⟩
theorem mY_X7_hasRegistersOf : mY yX7_hasRegistersOf cX7_hasRegistersOf 3 (some .boolean) 1 := ⟨kw_162, kw_1174, by decide, by decide, by decide +kernel⟩
theorem mY_X7_isInside : mY yX7_isInside cX7_isInside 2 (some .boolean) 2 := ⟨kw_162, kw_801, by decide, by decide, by decide +kernel⟩
theorem mY_X7_isLike : mY yX7_isLike cX7_isLike 3 (some .boolean) 1 := ⟨kw_162, kw_1170, by decide, by decide, by decide +kernel⟩
theorem mY_X7_keep : mY yX7_keep cX7_keep 4 none 3 := ⟨kw_162, kw_821, by decide, by decide, by decide +kernel⟩
theorem mY_X7_look : mY yX7_look cX7_look 3 (some .int) 2 := ⟨kw_162, kw_798, by decide, by decide, by decide +kernel⟩
theorem mY_X7_putOut : mY yX7_putOut cX7_putOut 2 none 1 := ⟨kw_162, kw_817, by decide, by decide, by decide +kernel⟩
theorem mY_X8_forget : mY yX8_forget cX8_forget 2 none 0 := ⟨kw_161, kw_629, by decide, by decide, by decide +kernel⟩
theorem mY_X8_hasOperation : mY yX8_hasOperation cX8_hasOperation 1 (some .boolean) 0 := ⟨kw_161, kw_805, by decide, by decide, by decide +kernel⟩
theorem mY_X8_isReading : mY yX8_isReading cX8_isReading 2 (some .boolean) 1 := ⟨kw_161, kw_849, by decide, by decide, by decide +kernel⟩
theorem mY_X8_kindOfOperation : mY yX8_kindOfOperation cX8_kindOfOperation 1 (some .int) 0 := ⟨kw_161, kw_872, by decide, by decide, by decide +kernel⟩
theorem mY_X8_maskOfRegister : mY yX8_maskOfRegister cX8_maskOfRegister 2 (some .int) 1 := ⟨kw_161, kw_876, by decide, by decide, by decide +kernel⟩
theorem mY_X8_operate : mY yX8_operate cX8_operate 3 (some .int) 2 := ⟨kw_161, kw_809, by decide, by decide, by decide +kernel⟩
theorem mY_X8_placeOf : mY yX8_placeOf cX8_placeOf 3 (some .int) 2 := ⟨kw_161, kw_794, by decide, by decide, by decide +kernel⟩
theorem mY_X8_registerIn : mY yX8_registerIn cX8_registerIn 2 (some .int) 1 := ⟨kw_161, kw_867, by decide, by decide, by decide +kernel⟩
theorem mY_X9_areInOrder : mY yX9_areInOrder cX9_areInOrder 3 (some .boolean) 1 := ⟨kw_166, kw_1237, by decide, by decide, by decide +kernel⟩
theorem mY_X9_areKept : mY yX9_areKept cX9_areKept 3 (some .boolean) 2 := ⟨kw_166, kw_1220, by decide, by decide, by decide +kernel⟩
theorem mY_X9_beginAllAt : mY yX9_beginAllAt cX9_beginAllAt 6 (some .int) 3 := ⟨kw_166, kw_980, by decide, by decide, by decide +kernel⟩
theorem mY_X9_beginAt : mY yX9_beginAt cX9_beginAt 7 none 4 := ⟨kw_166, kw_988, by decide, by decide, by decide +kernel⟩
theorem mY_X9_chooseFor : mY yX9_chooseFor cX9_chooseFor 6 (some .int) 2 := ⟨kw_166, kw_984, by decide, by decide, by decide +kernel⟩
theorem mY_X9_countIn : mY yX9_countIn cX9_countIn 5 (some .int) 2 := ⟨kw_166, kw_1088, by decide, by decide, by decide +kernel⟩
theorem mY_X9_lastUse : mY yX9_lastUse cX9_lastUse 9 (some .int) 4 := ⟨kw_166, kw_1104, by decide, by decide, by decide +kernel⟩
theorem mY_X9_mostWaiting : mY yX9_mostWaiting cX9_mostWaiting 5 (some .int) 1 := ⟨kw_166, kw_1096, by decide, by decide, by decide +kernel⟩
theorem mY_X9_order : mY yX9_order cX9_order 3 none 2 := ⟨kw_166, kw_951, by decide, by decide, by decide +kernel⟩
theorem mY_X9_orderByLists : mY yX9_orderByLists cX9_orderByLists 5 none 2 := ⟨kw_166, kw_972, by decide, by decide, by decide +kernel⟩
theorem mY_X9_orderLatest : mY yX9_orderLatest cX9_orderLatest 7 none 2 := ⟨kw_166, kw_960, by decide, by decide, by decide +kernel⟩
theorem mY_X9_orderSoonest : mY yX9_orderSoonest cX9_orderSoonest 6 none 2 := ⟨kw_166, kw_955, by decide, by decide, by decide +kernel⟩
theorem mY_X9_startLists : mY yX9_startLists cX9_startLists 5 none 2 := ⟨kw_166, kw_976, by decide, by decide, by decide +kernel⟩
theorem mY_X9_waitFor : mY yX9_waitFor cX9_waitFor 7 none 3 := ⟨kw_166, kw_1100, by decide, by decide, by decide +kernel⟩
theorem mY_X10_append : mY yX10_append cX10_append 2 none 1 := ⟨kw_159, kw_1345, by decide, by decide, by decide +kernel⟩
theorem mY_X10_empty : mY yX10_empty cX10_empty 2 (some .int) 0 := ⟨kw_159, kw_617, by decide, by decide, by decide +kernel⟩
theorem mY_X10_isDigit : mY yX10_isDigit cX10_isDigit 1 (some .boolean) 1 := ⟨kw_159, kw_743, by decide, by decide, by decide +kernel⟩
theorem mY_X10_next : mY yX10_next cX10_next 1 (some .char) 0 := ⟨kw_159, kw_641, by decide, by decide, by decide +kernel⟩
theorem mY_X10_readIndex : mY yX10_readIndex cX10_readIndex 6 (some .boolean) 2 := ⟨kw_159, kw_740, by decide, by decide, by decide +kernel⟩
theorem mY_X10_readInto : mY yX10_readInto cX10_readInto 3 (some .int) 1 := ⟨kw_159, kw_625, by decide, by decide, by decide +kernel⟩
theorem mY_X10_readNumber : mY yX10_readNumber cX10_readNumber 4 (some .int) 1 := ⟨kw_159, kw_747, by decide, by decide, by decide +kernel⟩
theorem mY_X10_readOperand : mY yX10_readOperand cX10_readOperand 3 (some .boolean) 2 := ⟨kw_159, kw_751, by decide, by decide, by decide +kernel⟩
theorem mY_X10_readOperation : mY yX10_readOperation cX10_readOperation 2 (some .boolean) 1 := ⟨kw_159, kw_755, by decide, by decide, by decide +kernel⟩
theorem mY_X10_readPlace : mY yX10_readPlace cX10_readPlace 4 (some .boolean) 2 := ⟨kw_159, kw_649, by decide, by decide, by decide +kernel⟩
theorem mY_X10_readRegister : mY yX10_readRegister cX10_readRegister 4 (some .boolean) 2 := ⟨kw_159, kw_645, by decide, by decide, by decide +kernel⟩
theorem mY_X10_readSign : mY yX10_readSign cX10_readSign 2 (some .boolean) 1 := ⟨kw_159, kw_637, by decide, by decide, by decide +kernel⟩
theorem mY_X10_readTarget : mY yX10_readTarget cX10_readTarget 2 (some .boolean) 1 := ⟨kw_159, kw_633, by decide, by decide, by decide +kernel⟩
theorem mY_X12_action : mY yX12_action cX12_action 4 (some .int) 3 := ⟨kw_170, kw_2228, by decide, by decide, by decide +kernel⟩
theorem mY_X12_acts : mY yX12_acts cX12_acts 7 (some .boolean) 2 := ⟨kw_170, kw_2244, by decide, by decide, by decide +kernel⟩
theorem mY_X12_add : mY yX12_add cX12_add 1 (some .int) 0 := ⟨kw_170, kw_1901, by decide, by decide, by decide +kernel⟩
theorem mY_X12_addNode : mY yX12_addNode cX12_addNode 4 none 3 := ⟨kw_170, kw_1931, by decide, by decide, by decide +kernel⟩
theorem mY_X12_addRead : mY yX12_addRead cX12_addRead 4 none 3 := ⟨kw_170, kw_1921, by decide, by decide, by decide +kernel⟩
theorem mY_X12_addStatement : mY yX12_addStatement cX12_addStatement 6 none 1 := ⟨kw_170, kw_1917, by decide, by decide, by decide +kernel⟩
theorem mY_X12_areLocked : mY yX12_areLocked cX12_areLocked 1 (some .boolean) 0 := ⟨kw_170, kw_2252, by decide, by decide, by decide +kernel⟩
theorem mY_X12_begin : mY yX12_begin cX12_begin 2 none 0 := ⟨kw_170, kw_2019, by decide, by decide, by decide +kernel⟩
theorem mY_X12_binds : mY yX12_binds cX12_binds 4 (some .char) 0 := ⟨kw_170, kw_2168, by decide, by decide, by decide +kernel⟩
theorem mY_X12_build : mY yX12_build cX12_build 3 none 0 := ⟨kw_170, kw_1913, by decide, by decide, by decide +kernel⟩
theorem mY_X12_byAllUnits : mY yX12_byAllUnits cX12_byAllUnits 3 (some .int) 0 := ⟨kw_170, kw_2144, by decide, by decide, by decide +kernel⟩
theorem mY_X12_byRings : mY yX12_byRings cX12_byRings 1 (some .int) 0 := ⟨kw_170, kw_2128, by decide, by decide, by decide +kernel⟩
theorem mY_X12_byUnits : mY yX12_byUnits cX12_byUnits 1 (some .int) 0 := ⟨kw_170, kw_2140, by decide, by decide, by decide +kernel⟩
theorem mY_X12_canBegin : mY yX12_canBegin cX12_canBegin 6 (some .boolean) 2 := ⟨kw_170, kw_2108, by decide, by decide, by decide +kernel⟩
theorem mY_X12_canPlace : mY yX12_canPlace cX12_canPlace 6 (some .boolean) 1 := ⟨kw_170, kw_2160, by decide, by decide, by decide +kernel⟩
theorem mY_X12_cell : mY yX12_cell cX12_cell 2 (some .int) 2 := ⟨kw_170, kw_1998, by decide, by decide, by decide +kernel⟩
theorem mY_X12_checksum : mY yX12_checksum cX12_checksum 4 (some .long) 0 := ⟨kw_170, kw_2260, by decide, by decide, by decide +kernel⟩
theorem mY_X12_circuitMemory : mY yX12_circuitMemory cX12_circuitMemory 3 (some .int) 2 := ⟨kw_170, kw_2220, by decide, by decide, by decide +kernel⟩
theorem mY_X12_circuitOutput : mY yX12_circuitOutput cX12_circuitOutput 2 (some .int) 1 := ⟨kw_170, kw_2216, by decide, by decide, by decide +kernel⟩
theorem mY_X12_circuitOutputs : mY yX12_circuitOutputs cX12_circuitOutputs 1 (some .int) 0 := ⟨kw_170, kw_2188, by decide, by decide, by decide +kernel⟩
theorem mY_X12_clear : mY yX12_clear cX12_clear 2 (some .int) 0 := ⟨kw_170, kw_1860, by decide, by decide, by decide +kernel⟩
theorem mY_X12_cycles : mY yX12_cycles cX12_cycles 2 (some .int) 0 := ⟨kw_170, kw_2176, by decide, by decide, by decide +kernel⟩
theorem mY_X12_cyclesOf : mY yX12_cyclesOf cX12_cyclesOf 2 (some .int) 1 := ⟨kw_170, kw_1950, by decide, by decide, by decide +kernel⟩
theorem mY_X12_done : mY yX12_done cX12_done 1 (some .int) 0 := ⟨kw_170, kw_2236, by decide, by decide, by decide +kernel⟩
theorem mY_X12_eats : mY yX12_eats cX12_eats 2 (some .boolean) 1 := ⟨kw_170, kw_1880, by decide, by decide, by decide +kernel⟩
theorem mY_X12_edges : mY yX12_edges cX12_edges 1 (some .int) 0 := ⟨kw_170, kw_2080, by decide, by decide, by decide +kernel⟩
theorem mY_X12_fails : mY yX12_fails cX12_fails 3 (some .boolean) 2 := ⟨kw_170, kw_1856, by decide, by decide, by decide +kernel⟩
theorem mY_X12_fault : mY yX12_fault cX12_fault 1 (some .int) 0 := ⟨kw_170, kw_1864, by decide, by decide, by decide +kernel⟩
theorem mY_X12_findSoon : mY yX12_findSoon cX12_findSoon 3 none 0 := ⟨kw_170, kw_2092, by decide, by decide, by decide +kernel⟩
theorem mY_X12_flow : mY yX12_flow cX12_flow 6 none 0 := ⟨kw_170, kw_2192, by decide, by decide, by decide +kernel⟩
theorem mY_X12_fromChannel : mY yX12_fromChannel cX12_fromChannel 1 (some .int) 0 := ⟨kw_170, kw_2031, by decide, by decide, by decide +kernel⟩
theorem mY_X12_fromMaker : mY yX12_fromMaker cX12_fromMaker 6 none 2 := ⟨kw_170, kw_1963, by decide, by decide, by decide +kernel⟩
theorem mY_X12_given : mY yX12_given cX12_given 6 (some .int) 3 := ⟨kw_170, kw_2212, by decide, by decide, by decide +kernel⟩
theorem mY_X12_goRound : mY yX12_goRound cX12_goRound 5 (some .boolean) 1 := ⟨kw_170, kw_2240, by decide, by decide, by decide +kernel⟩
theorem mY_X12_hasRing : mY yX12_hasRing cX12_hasRing 6 (some .boolean) 1 := ⟨kw_170, kw_2136, by decide, by decide, by decide +kernel⟩
theorem mY_X12_in : mY yX12_in cX12_in 3 (some .boolean) 3 := ⟨kw_170, kw_1850, by decide, by decide, by decide +kernel⟩
theorem mY_X12_inStep : mY yX12_inStep cX12_inStep 4 (some .int) 1 := ⟨kw_170, kw_2116, by decide, by decide, by decide +kernel⟩
theorem mY_X12_index : mY yX12_index cX12_index 3 (some .boolean) 1 := ⟨kw_170, kw_1888, by decide, by decide, by decide +kernel⟩
theorem mY_X12_input : mY yX12_input cX12_input 2 (some .int) 1 := ⟨kw_170, kw_1987, by decide, by decide, by decide +kernel⟩
theorem mY_X12_interval : mY yX12_interval cX12_interval 1 (some .int) 0 := ⟨kw_170, kw_2152, by decide, by decide, by decide +kernel⟩
theorem mY_X12_is : mY yX12_is cX12_is 2 (some .boolean) 1 := ⟨kw_170, kw_1876, by decide, by decide, by decide +kernel⟩
theorem mY_X12_isDigit : mY yX12_isDigit cX12_isDigit 1 (some .boolean) 0 := ⟨kw_170, kw_1892, by decide, by decide, by decide +kernel⟩
theorem mY_X12_isFree : mY yX12_isFree cX12_isFree 8 (some .boolean) 3 := ⟨kw_170, kw_2164, by decide, by decide, by decide +kernel⟩
theorem mY_X12_isLastOf : mY yX12_isLastOf cX12_isLastOf 2 (some .boolean) 1 := ⟨kw_170, kw_2200, by decide, by decide, by decide +kernel⟩
theorem mY_X12_isRead : mY yX12_isRead cX12_isRead 1 (some .boolean) 1 := ⟨kw_170, kw_1924, by decide, by decide, by decide +kernel⟩
theorem mY_X12_isSame : mY yX12_isSame cX12_isSame 1 (some .boolean) 0 := ⟨kw_170, kw_2224, by decide, by decide, by decide +kernel⟩
theorem mY_X12_isSound : mY yX12_isSound cX12_isSound 1 (some .boolean) 0 := ⟨kw_170, kw_2273, by decide, by decide, by decide +kernel⟩
theorem mY_X12_join : mY yX12_join cX12_join 6 none 4 := ⟨kw_170, kw_1954, by decide, by decide, by decide +kernel⟩
theorem mY_X12_keep : mY yX12_keep cX12_keep 3 none 1 := ⟨kw_170, kw_1905, by decide, by decide, by decide +kernel⟩
theorem mY_X12_kindOf : mY yX12_kindOf cX12_kindOf 2 (some .char) 1 := ⟨kw_170, kw_2067, by decide, by decide, by decide +kernel⟩
theorem mY_X12_kindOfMemory : mY yX12_kindOfMemory cX12_kindOfMemory 1 (some .int) 1 := ⟨kw_170, kw_1927, by decide, by decide, by decide +kernel⟩
theorem mY_X12_lastUse : mY yX12_lastUse cX12_lastUse 9 (some .int) 1 := ⟨kw_170, kw_2124, by decide, by decide, by decide +kernel⟩
theorem mY_X12_late : mY yX12_late cX12_late 2 (some .int) 1 := ⟨kw_170, kw_2096, by decide, by decide, by decide +kernel⟩
theorem mY_X12_laterMakers : mY yX12_laterMakers cX12_laterMakers 7 none 3 := ⟨kw_170, kw_1959, by decide, by decide, by decide +kernel⟩
theorem mY_X12_leastDepth : mY yX12_leastDepth cX12_leastDepth 2 (some .int) 0 := ⟨kw_170, kw_2256, by decide, by decide, by decide +kernel⟩
theorem mY_X12_length : mY yX12_length cX12_length 1 (some .int) 0 := ⟨kw_170, kw_2112, by decide, by decide, by decide +kernel⟩
theorem mY_X12_list : mY yX12_list cX12_list 5 none 0 := ⟨kw_170, kw_2104, by decide, by decide, by decide +kernel⟩
theorem mY_X12_longest : mY yX12_longest cX12_longest 3 (some .int) 0 := ⟨kw_170, kw_2180, by decide, by decide, by decide +kernel⟩
theorem mY_X12_loopTurn : mY yX12_loopTurn cX12_loopTurn 3 (some .int) 2 := ⟨kw_170, kw_2204, by decide, by decide, by decide +kernel⟩
theorem mY_X12_memoryAt : mY yX12_memoryAt cX12_memoryAt 3 (some .int) 2 := ⟨kw_170, kw_2050, by decide, by decide, by decide +kernel⟩
theorem mY_X12_needs : mY yX12_needs cX12_needs 4 (some .int) 1 := ⟨kw_170, kw_2148, by decide, by decide, by decide +kernel⟩
theorem mY_X12_nextOfChannel : mY yX12_nextOfChannel cX12_nextOfChannel 5 none 1 := ⟨kw_170, kw_1971, by decide, by decide, by decide +kernel⟩
theorem mY_X12_noMemory : mY yX12_noMemory cX12_noMemory 2 (some .boolean) 2 := ⟨kw_170, kw_1995, by decide, by decide, by decide +kernel⟩
theorem mY_X12_noNode : mY yX12_noNode cX12_noNode 2 (some .boolean) 1 := ⟨kw_170, kw_2071, by decide, by decide, by decide +kernel⟩
theorem mY_X12_nodes : mY yX12_nodes cX12_nodes 1 (some .int) 0 := ⟨kw_170, kw_2063, by decide, by decide, by decide +kernel⟩
theorem mY_X12_number : mY yX12_number cX12_number 4 (some .int) 1 := ⟨kw_170, kw_1896, by decide, by decide, by decide +kernel⟩
theorem mY_X12_oneByOne : mY yX12_oneByOne cX12_oneByOne 3 (some .int) 0 := ⟨kw_170, kw_2184, by decide, by decide, by decide +kernel⟩
theorem mY_X12_operand : mY yX12_operand cX12_operand 5 (some .int) 2 := ⟨kw_170, kw_2027, by decide, by decide, by decide +kernel⟩
theorem mY_X12_operate : mY yX12_operate cX12_operate 4 (some .int) 3 := ⟨kw_170, kw_2038, by decide, by decide, by decide +kernel⟩
theorem mY_X12_output : mY yX12_output cX12_output 2 (some .int) 1 := ⟨kw_170, kw_2046, by decide, by decide, by decide +kernel⟩
theorem mY_X12_outputs : mY yX12_outputs cX12_outputs 1 (some .int) 0 := ⟨kw_170, kw_2011, by decide, by decide, by decide +kernel⟩
theorem mY_X12_parse : mY yX12_parse cX12_parse 1 (some .int) 0 := ⟨kw_170, kw_1868, by decide, by decide, by decide +kernel⟩
theorem mY_X12_part : mY yX12_part cX12_part 3 (some .boolean) 2 := ⟨kw_170, kw_1872, by decide, by decide, by decide +kernel⟩
theorem mY_X12_perform : mY yX12_perform cX12_perform 5 none 0 := ⟨kw_170, kw_2015, by decide, by decide, by decide +kernel⟩
theorem mY_X12_place : mY yX12_place cX12_place 2 (some .int) 1 := ⟨kw_170, kw_2172, by decide, by decide, by decide +kernel⟩
theorem mY_X12_placeAll : mY yX12_placeAll cX12_placeAll 2 (some .int) 0 := ⟨kw_170, kw_2156, by decide, by decide, by decide +kernel⟩
theorem mY_X12_register : mY yX12_register cX12_register 2 (some .int) 1 := ⟨kw_170, kw_2054, by decide, by decide, by decide +kernel⟩
theorem mY_X12_remember : mY yX12_remember cX12_remember 5 none 3 := ⟨kw_170, kw_1935, by decide, by decide, by decide +kernel⟩
theorem mY_X12_remembered : mY yX12_remembered cX12_remembered 7 none 2 := ⟨kw_170, kw_1967, by decide, by decide, by decide +kernel⟩
theorem mY_X12_replace : mY yX12_replace cX12_replace 2 (some .int) 1 := ⟨kw_170, kw_1909, by decide, by decide, by decide +kernel⟩
theorem mY_X12_rings : mY yX12_rings cX12_rings 2 (some .int) 0 := ⟨kw_170, kw_2132, by decide, by decide, by decide +kernel⟩
theorem mY_X12_setBits : mY yX12_setBits cX12_setBits 3 (some .int) 1 := ⟨kw_170, kw_1979, by decide, by decide, by decide +kernel⟩
theorem mY_X12_setCycles : mY yX12_setCycles cX12_setCycles 4 (some .int) 2 := ⟨kw_170, kw_2007, by decide, by decide, by decide +kernel⟩
theorem mY_X12_setDepth : mY yX12_setDepth cX12_setDepth 4 (some .int) 2 := ⟨kw_170, kw_2232, by decide, by decide, by decide +kernel⟩
theorem mY_X12_setMemory : mY yX12_setMemory cX12_setMemory 5 (some .int) 3 := ⟨kw_170, kw_1992, by decide, by decide, by decide +kernel⟩
theorem mY_X12_setTurns : mY yX12_setTurns cX12_setTurns 3 (some .int) 1 := ⟨kw_170, kw_1975, by decide, by decide, by decide +kernel⟩
theorem mY_X12_setUnits : mY yX12_setUnits cX12_setUnits 4 (some .int) 2 := ⟨kw_170, kw_2002, by decide, by decide, by decide +kernel⟩
theorem mY_X12_soon : mY yX12_soon cX12_soon 2 (some .int) 1 := ⟨kw_170, kw_2088, by decide, by decide, by decide +kernel⟩
theorem mY_X12_statementOf : mY yX12_statementOf cX12_statementOf 2 (some .int) 1 := ⟨kw_170, kw_2076, by decide, by decide, by decide +kernel⟩
theorem mY_X12_step : mY yX12_step cX12_step 2 (some .int) 1 := ⟨kw_170, kw_2100, by decide, by decide, by decide +kernel⟩
theorem mY_X12_taken_ : mY yX12_taken_ cX12_taken_ 1 (some .int) 0 := ⟨kw_170, kw_2058, by decide, by decide, by decide +kernel⟩
theorem mY_X12_taken : mY yX12_taken cX12_taken 2 (some .int) 1 := ⟨kw_170, kw_2023, by decide, by decide, by decide +kernel⟩
theorem mY_X12_thrown : mY yX12_thrown cX12_thrown 1 (some .int) 0 := ⟨kw_170, kw_1843, by decide, by decide, by decide +kernel⟩
theorem mY_X12_turnAt : mY yX12_turnAt cX12_turnAt 5 (some .int) 3 := ⟨kw_170, kw_2196, by decide, by decide, by decide +kernel⟩
theorem mY_X12_type : mY yX12_type cX12_type 2 (some .int) 1 := ⟨kw_170, kw_1847, by decide, by decide, by decide +kernel⟩
theorem mY_X12_unit : mY yX12_unit cX12_unit 1 (some .int) 1 := ⟨kw_170, kw_1938, by decide, by decide, by decide +kernel⟩
theorem mY_X12_unroll : mY yX12_unroll cX12_unroll 2 (some .int) 1 := ⟨kw_170, kw_1983, by decide, by decide, by decide +kernel⟩
theorem mY_X12_uses : mY yX12_uses cX12_uses 2 none 1 := ⟨kw_170, kw_1942, by decide, by decide, by decide +kernel⟩
theorem mY_X12_valueOf : mY yX12_valueOf cX12_valueOf 5 (some .int) 2 := ⟨kw_170, kw_2208, by decide, by decide, by decide +kernel⟩
theorem mY_X12_waiting : mY yX12_waiting cX12_waiting 5 (some .int) 0 := ⟨kw_170, kw_2120, by decide, by decide, by decide +kernel⟩
theorem mY_X12_waitsFor : mY yX12_waitsFor cX12_waitsFor 2 (some .int) 1 := ⟨kw_170, kw_2248, by decide, by decide, by decide +kernel⟩
theorem mY_X12_weight : mY yX12_weight cX12_weight 5 (some .int) 3 := ⟨kw_170, kw_2084, by decide, by decide, by decide +kernel⟩
theorem mY_X12_where : mY yX12_where cX12_where 5 (some .int) 4 := ⟨kw_170, kw_2034, by decide, by decide, by decide +kernel⟩
theorem mY_X12_within : mY yX12_within cX12_within 4 none 1 := ⟨kw_170, kw_1946, by decide, by decide, by decide +kernel⟩
theorem mY_X12_write : mY yX12_write cX12_write 7 none 3 := ⟨kw_170, kw_2042, by decide, by decide, by decide +kernel⟩
theorem mY_X12_wrong : mY yX12_wrong cX12_wrong 1 (some .boolean) 0 := ⟨kw_170, kw_1884, by decide, by decide, by decide +kernel⟩
theorem mY_J0_charAt_5068e : mY yJ0_charAt_5068e cJ0_charAt_5068e 2 (some .char) 1 := ⟨kw_171, kw_1131, by decide, by decide, by decide +kernel⟩
theorem mY_J0_checkBoundsBeginEnd_23922 : mY yJ0_checkBoundsBeginEnd_23922 cJ0_checkBoundsBeginEnd_23922 3 none 3 := ⟨kw_171, kw_705, by decide, by decide, by decide +kernel⟩
theorem mY_J0_checkIndex_df160 : mY yJ0_checkIndex_df160 cJ0_checkIndex_df160 2 none 2 := ⟨kw_171, kw_1137, by decide, by decide, by decide +kernel⟩
theorem mY_J0_coder_7d493 : mY yJ0_coder_7d493 cJ0_coder_7d493 1 (some .byte) 0 := ⟨kw_171, kw_672, by decide, by decide, by decide +kernel⟩
theorem mY_J0_indexOf_0f7a4 : mY yJ0_indexOf_0f7a4 cJ0_indexOf_0f7a4 2 (some .int) 1 := ⟨kw_171, kw_654, by decide, by decide, by decide +kernel⟩
theorem mY_J0_indexOf_7cf53 : mY yJ0_indexOf_7cf53 cJ0_indexOf_7cf53 3 (some .int) 2 := ⟨kw_171, kw_658, by decide, by decide, by decide +kernel⟩
theorem mY_J0_isLatin1_aae02 : mY yJ0_isLatin1_aae02 cJ0_isLatin1_aae02 1 (some .boolean) 0 := ⟨kw_171, kw_662, by decide, by decide, by decide +kernel⟩
theorem mY_J0_length_8abf5 : mY yJ0_length_8abf5 cJ0_length_8abf5 1 (some .int) 0 := ⟨kw_171, kw_668, by decide, by decide, by decide +kernel⟩
theorem mY_J1_canEncode_9a6ad : mY yJ1_canEncode_9a6ad cJ1_canEncode_9a6ad 1 (some .boolean) 1 := ⟨kw_172, kw_678, by decide, by decide, by decide +kernel⟩
theorem mY_J1_charAt_3b067 : mY yJ1_charAt_3b067 cJ1_charAt_3b067 2 (some .char) 2 := ⟨kw_172, kw_1134, by decide, by decide, by decide +kernel⟩
theorem mY_J1_indexOf_4cfef : mY yJ1_indexOf_4cfef cJ1_indexOf_4cfef 4 (some .int) 4 := ⟨kw_172, kw_675, by decide, by decide, by decide +kernel⟩
theorem mY_J1_indexOfChar_4cfef : mY yJ1_indexOfChar_4cfef cJ1_indexOfChar_4cfef 6 (some .int) 4 := ⟨kw_172, kw_687, by decide, by decide, by decide +kernel⟩
theorem mY_J3_checkFromToIndex_8c36e : mY yJ3_checkFromToIndex_8c36e cJ3_checkFromToIndex_8c36e 4 (some .int) 4 := ⟨kw_175, kw_710, by decide, by decide, by decide +kernel⟩
theorem mY_J3_checkIndex_8e157 : mY yJ3_checkIndex_8e157 cJ3_checkIndex_8e157 3 (some .int) 3 := ⟨kw_175, kw_1140, by decide, by decide, by decide +kernel⟩
