set_option maxRecDepth 100000 in
set_option maxHeartbeats 4000000 in
theorem sm_X0_sumOfCycles (l : Launch) (Δ : Wd) {i r : MI}   {Q : Int → Prop} (hi : okI i) (hw : Wf r) (h : wp_X0_sumOfCycles  i r Q) : Met l yX0_sumOfCycles (Cond.code yX0_sumOfCycles cX0_sumOfCycles 3 (some .int) :: gW) (sRm 1 21) (sPc Δ [.ref (sA Δ 67)] i r) (sQi Δ (fun x i' r' => i = i' ∧ r = r' ∧ Q x)) 0 0 (sFr Δ) := by
  refine Ct.i (ty := .int) (by decide) rfl (Nat.le_of_ble_eq_true rfl) (fun Γ Q0 hG fin => ?_)
  have hG : okG Γ Δ l (sRm 1 21) cX0_sumOfCycles "Schedulary$Body" 3 := hG
  show V Γ Δ 542 false i r 0 0 Q0 0 [(0, .ref (sA Δ 67))] []
  refine V.iconst (pc := 0) hG dX0_sumOfCycles_0 ?_
  refine V.istore_n (pc := 1) (lv' := [(1, .int (sJ 0)), (0, .ref (sA Δ 67))]) hG dX0_sumOfCycles_1 rfl (by decide) rfl ?_
  refine V.iconst (pc := 2) hG dX0_sumOfCycles_2 ?_
  refine V.istore_n (pc := 3) (lv' := [(2, .int (sJ 0)), (1, .int (sJ 0)), (0, .ref (sA Δ 67))]) hG dX0_sumOfCycles_3 rfl (by decide) rfl ?_
  obtain ⟨n13, h⟩ := h
  have lp4 : ∀ (m4 : Nat) (x1_4 : Int) (x2_4 : Int), sR x1_4 → sR x2_4 → LoopP (b4_X0_sumOfCycles i r Q) m4 (x1_4, x2_4) → V Γ Δ 542 false i r 0 0 Q0 4 [(0, .ref (sA Δ 67)), (1, .int (sJ x1_4)), (2, .int (sJ x2_4))] [] := by
    intro m4
    induction m4 with
    | zero => intro x1_4 x2_4 hx1_4 hx2_4 h; exact h.elim
    | succ m4 ih4 =>
      intro x1_4 x2_4 hx1_4 hx2_4 h
      have h := LoopP_succ h
      refine V.iload_n (pc := 4) hG dX0_sumOfCycles_4 rfl 2 rfl ?_
      refine V.aload_n (pc := 5) hG dX0_sumOfCycles_5 rfl 0 rfl ?_
      refine V.getI (pc := 6) (ci := 2) (k := 4) (M := 5) (T := TX0) (o := 67) (kz := 4) hG a_67 a_67.n (by decide) hin_X0 rfl (by decide) (by decide) rfl kw_416 rfl dX0_sumOfCycles_6 ?_
      obtain ⟨t15, f16⟩ := h
      refine V.icmp_ge (pc := 9) (tgt := 26) hG hx2_4 ((hi _ _)) dX0_sumOfCycles_9 (by decide) (fun c14 => ?_) (fun c14 => ?_)
      · have h := t15 c14
        clear t15 f16
        refine V.iload_n (pc := 26) hG dX0_sumOfCycles_26 rfl 1 rfl ?_
        exact fin dX0_sumOfCycles_27 hx1_4 rfl hi hw ⟨rfl, rfl, h⟩
      · have h := f16 c14
        clear t15 f16
        refine V.iload_n (pc := 12) hG dX0_sumOfCycles_12 rfl 1 rfl ?_
        refine V.aload_n (pc := 13) hG dX0_sumOfCycles_13 rfl 0 rfl ?_
        refine V.iload_n (pc := 14) hG dX0_sumOfCycles_14 rfl 2 rfl ?_
        refine V.callVi (pc := 15) (As := [.int (sJ x2_4)]) (stk := [.int (sJ x1_4)]) hG (sm_X0_cyclesOf l Δ hx2_4 hi hw h) mY_X0_cyclesOf kw_965 kw_895 kw_41 a_67 (by decide) (q := (RX0, TX0, 5)) rfl rfl ⟨Nat.le_of_ble_eq_true rfl, Nat.le_of_ble_eq_true rfl, Nat.le_of_ble_eq_true rfl, Nat.le_of_ble_eq_true rfl⟩ rfl (Nat.le_of_ble_eq_true rfl) dX0_sumOfCycles_15 rfl (fun v17 i18 r19 hv20 hi21 hw22 hq23 => ?_)
        obtain ⟨e24, e25, h⟩ := hq23
        subst e24
        subst e25
        refine V.iadd (pc := 18) hG dX0_sumOfCycles_18 ?_
        refine V.istore_n (pc := 19) (lv' := [(1, .int (sJ (wr (x1_4 + v17)))), (0, .ref (sA Δ 67)), (2, .int (sJ x2_4))]) hG dX0_sumOfCycles_19 rfl (by decide) rfl ?_
        refine V.iinc (pc := 20) (lv' := [(2, .int (sJ (wr (x2_4 + 1)))), (1, .int (sJ (wr (x1_4 + v17)))), (0, .ref (sA Δ 67))]) hG dX0_sumOfCycles_20 2 rfl (by decide) rfl ?_
        refine V.goto (pc := 23) (tgt := 4) hG dX0_sumOfCycles_23 (by decide) ?_
        refine V.pick [2, 1, 0] rfl ?_
        exact ih4 (wr (x1_4 + v17)) (wr (x2_4 + 1)) ((sR_wr _)) ((sR_wr _)) h
  refine V.pick [2, 1, 0] rfl ?_
  exact lp4 n13 0 0 ((sR_l rfl)) ((sR_l rfl)) h
set_option maxRecDepth 100000 in
set_option maxHeartbeats 4000000 in
theorem sm_X4_pushAll (l : Launch) (Δ : Wd) {i r : MI} {p3 : Int} (hp3 : sR p3) {Q : Int → MI → Prop} (hi : okI i) (hw : Wf r) (h : wp_X4_pushAll p3 i r Q) : Met l yX4_pushAll (Cond.code yX4_pushAll cX4_pushAll 9 (some .int) :: gW) (sRm 1 13) (sPc Δ [.ref (sA Δ 469), .ref (sA Δ 67), .ref (sA Δ 168), .int (sJ p3)] i r) (sQi Δ (fun x i' r' => r = r' ∧ Q x i')) 0 0 (sFr Δ) := by
  refine Ct.i (ty := .int) (by decide) rfl (Nat.le_of_ble_eq_true rfl) (fun Γ Q0 hG fin => ?_)
  have hG : okG Γ Δ l (sRm 1 13) cX4_pushAll "Schedulary$Pace" 9 := hG
  show V Γ Δ 542 false i r 0 0 Q0 0 [(0, .ref (sA Δ 469)), (1, .ref (sA Δ 67)), (2, .ref (sA Δ 168)), (3, .int (sJ p3))] []
  refine V.iconst (pc := 0) hG dX4_pushAll_0 ?_
  refine V.istore (pc := 1) (lv' := [(4, .int (sJ (-1))), (0, .ref (sA Δ 469)), (1, .ref (sA Δ 67)), (2, .ref (sA Δ 168)), (3, .int (sJ p3))]) hG dX4_pushAll_1 (by decide) rfl ?_
  refine V.iconst (pc := 3) hG dX4_pushAll_3 ?_
  refine V.istore (pc := 4) (lv' := [(5, .int (sJ 0)), (4, .int (sJ (-1))), (0, .ref (sA Δ 469)), (1, .ref (sA Δ 67)), (2, .ref (sA Δ 168)), (3, .int (sJ p3))]) hG dX4_pushAll_4 (by decide) rfl ?_
  obtain ⟨n37, h⟩ := h
  have lp6 : ∀ (m6 : Nat) (x4_6 : Int) (x5_6 : Int) (i_6 : MI), sR x4_6 → sR x5_6 → okI i_6 → LoopP (b6_X4_pushAll p3 r Q) m6 (x4_6, x5_6, i_6) → V Γ Δ 542 false i_6 r 0 0 Q0 6 [(0, .ref (sA Δ 469)), (1, .ref (sA Δ 67)), (2, .ref (sA Δ 168)), (3, .int (sJ p3)), (4, .int (sJ x4_6)), (5, .int (sJ x5_6))] [] := by
    intro m6
    induction m6 with
    | zero => intro x4_6 x5_6 i_6 hx4_6 hx5_6 hi_6 h; exact h.elim
    | succ m6 ih6 =>
      intro x4_6 x5_6 i_6 hx4_6 hx5_6 hi_6 h
      have h := LoopP_succ h
      refine V.iload (pc := 6) hG dX4_pushAll_6 5 rfl ?_
      refine V.aload_n (pc := 8) hG dX4_pushAll_8 rfl 1 rfl ?_
      refine V.getIN (pc := 9) (ci := 2) (k := 4) (M := 5) (T := TX0) (o := 67) (kz := 4) hG a_67 a_67.n (by decide) hin_X0 rfl (by decide) (by decide) rfl kw_419 rfl dX4_pushAll_9 ?_
      obtain ⟨t39, f40⟩ := h
      refine V.icmp_ge (pc := 12) (tgt := 117) hG hx5_6 ((hi_6 _ _)) dX4_pushAll_12 (by decide) (fun c38 => ?_) (fun c38 => ?_)
      · have h := t39 c38
        clear t39 f40
        refine V.iload (pc := 117) hG dX4_pushAll_117 4 rfl ?_
        exact fin dX4_pushAll_119 hx4_6 rfl hi_6 hw ⟨rfl, h⟩
      · have h := f40 c38
        clear t39 f40
        refine V.iconst (pc := 15) hG dX4_pushAll_15 ?_
        refine V.istore (pc := 16) (lv' := [(6, .int (sJ 0)), (0, .ref (sA Δ 469)), (1, .ref (sA Δ 67)), (2, .ref (sA Δ 168)), (3, .int (sJ p3)), (4, .int (sJ x4_6)), (5, .int (sJ x5_6))]) hG dX4_pushAll_16 (by decide) rfl ?_
        obtain ⟨n41, h⟩ := h
        have lp18 : ∀ (m18 : Nat) (x4_18 : Int) (x6_18 : Int) (i_18 : MI), sR x4_18 → sR x6_18 → okI i_18 → LoopP (b18_X4_pushAll p3 x5_6 r Q (LoopP (b6_X4_pushAll p3 r Q) m6)) m18 (x4_18, x6_18, i_18) → V Γ Δ 542 false i_18 r 0 0 Q0 18 [(0, .ref (sA Δ 469)), (1, .ref (sA Δ 67)), (2, .ref (sA Δ 168)), (3, .int (sJ p3)), (4, .int (sJ x4_18)), (5, .int (sJ x5_6)), (6, .int (sJ x6_18))] [] := by
          intro m18
          induction m18 with
          | zero => intro x4_18 x6_18 i_18 hx4_18 hx6_18 hi_18 h; exact h.elim
          | succ m18 ih18 =>
            intro x4_18 x6_18 i_18 hx4_18 hx6_18 hi_18 h
            have h := LoopP_succ h
            have jn105 : ∀ (x4j105 : Int) (x6j105 : Int) (ij105 : MI), sR x4j105 → sR x6j105 → okI ij105 → s105_X4_pushAll p3 x4j105 x5_6 x6j105 ij105 r Q (LoopP (b6_X4_pushAll p3 r Q) m6) (LoopP (b18_X4_pushAll p3 x5_6 r Q (LoopP (b6_X4_pushAll p3 r Q) m6)) m18) → V Γ Δ 542 false ij105 r 0 0 Q0 105 [(0, .ref (sA Δ 469)), (1, .ref (sA Δ 67)), (2, .ref (sA Δ 168)), (3, .int (sJ p3)), (4, .int (sJ x4j105)), (5, .int (sJ x5_6)), (6, .int (sJ x6j105))] [] := by
              intro x4j105 x6j105 ij105 hx4j105 hx6j105 hij105 h
              refine V.iinc (pc := 105) (lv' := [(6, .int (sJ (wr (x6j105 + 1)))), (0, .ref (sA Δ 469)), (1, .ref (sA Δ 67)), (2, .ref (sA Δ 168)), (3, .int (sJ p3)), (4, .int (sJ x4j105)), (5, .int (sJ x5_6))]) hG dX4_pushAll_105 6 rfl (by decide) rfl ?_
              refine V.goto (pc := 108) (tgt := 18) hG dX4_pushAll_108 (by decide) ?_
              refine V.pick [1, 2, 3, 4, 5, 6, 0] rfl ?_
              exact ih18 x4j105 (wr (x6j105 + 1)) ij105 hx4j105 ((sR_wr _)) hij105 h
            refine V.iload (pc := 18) hG dX4_pushAll_18 6 rfl ?_
            refine V.aload_n (pc := 20) hG dX4_pushAll_20 rfl 2 rfl ?_
            refine V.getRN (x := 460) (pc := 21) (ci := 4) (k := 3) (M := 5) (T := TX2) (o := 168) (kz := 3) hG a_168 a_168.n (by decide) hin_X2 rfl (by decide) (by decide) rfl kw_452 rfl ((hw).1 (168, 3, 460) (by decide)) (by decide) dX4_pushAll_21 ?_
            refine V.iload (pc := 24) hG dX4_pushAll_24 5 rfl ?_
            obtain ⟨g42, h⟩ := h
            refine V.iald (pc := 26) (z := 96) (o := 460) hG a_460 a_460.n hx5_6 g42 dX4_pushAll_26 ?_
            obtain ⟨t44, f45⟩ := h
            refine V.icmp_ge (pc := 27) (tgt := 111) hG hx6_18 ((hi_18 _ _)) dX4_pushAll_27 (by decide) (fun c43 => ?_) (fun c43 => ?_)
            · have h := t44 c43
              clear t44 f45
              refine V.iinc (pc := 111) (lv' := [(5, .int (sJ (wr (x5_6 + 1)))), (0, .ref (sA Δ 469)), (1, .ref (sA Δ 67)), (2, .ref (sA Δ 168)), (3, .int (sJ p3)), (4, .int (sJ x4_18)), (6, .int (sJ x6_18))]) hG dX4_pushAll_111 5 rfl (by decide) rfl ?_
              refine V.goto (pc := 114) (tgt := 6) hG dX4_pushAll_114 (by decide) ?_
              refine V.pick [1, 2, 3, 4, 5, 0] rfl ?_
              exact ih6 x4_18 (wr (x5_6 + 1)) i_18 hx4_18 ((sR_wr _)) hi_18 h
            · have h := f45 c43
              clear t44 f45
              refine V.aload_n (pc := 30) hG dX4_pushAll_30 rfl 2 rfl ?_
              refine V.getRN (x := 169) (pc := 31) (ci := 4) (k := 0) (M := 5) (T := TX2) (o := 168) (kz := 0) hG a_168 a_168.n (by decide) hin_X2 rfl (by decide) (by decide) rfl kw_442 rfl ((hw).1 (168, 0, 169) (by decide)) (by decide) dX4_pushAll_31 ?_
              refine V.iload (pc := 34) hG dX4_pushAll_34 5 rfl ?_
              obtain ⟨g46, h⟩ := h
              refine V.aald (pc := 36) 7 (z := 96) (o := 169) (x := x5_6) (y := 170 + x5_6) hG a_169 a_169.n (by decide) hx5_6 g46 (hw.2.1 (169, 96, 170) (by decide) _ g46.1 g46.2) (by omega) dX4_pushAll_36 ?_
              refine V.iload (pc := 37) hG dX4_pushAll_37 6 rfl ?_
              obtain ⟨g47, h⟩ := h
              refine V.iald (pc := 39) (z := 100) (o := 170 + x5_6) hG (row_169 g46) ((row_169 g46)).n hx6_18 g47 dX4_pushAll_39 ?_
              refine V.istore (pc := 40) (lv' := [(7, .int (sJ (i_18 (170 + x5_6) x6_18))), (0, .ref (sA Δ 469)), (1, .ref (sA Δ 67)), (2, .ref (sA Δ 168)), (3, .int (sJ p3)), (4, .int (sJ x4_18)), (5, .int (sJ x5_6)), (6, .int (sJ x6_18))]) hG dX4_pushAll_40 (by decide) rfl ?_
              refine V.aload_n (pc := 42) hG dX4_pushAll_42 rfl 1 rfl ?_
              refine V.getR (x := 471) (pc := 43) (ci := 6) (k := 1) (M := 6) (T := TX4) (o := 469) (kz := 1) hG a_469 a_469.n (by decide) hin_X4 rfl (by decide) (by decide) rfl kw_507 rfl ((hw).1 (469, 1, 471) (by decide)) (by decide) dX4_pushAll_43 ?_
              refine V.iload (pc := 46) hG dX4_pushAll_46 6 rfl ?_
              obtain ⟨g48, h⟩ := h
              refine V.iald (pc := 48) (z := 96) (o := 471) hG a_471 a_471.n hx5_6 g48 dX4_pushAll_48 ?_
              refine V.aload_n (pc := 49) hG dX4_pushAll_49 rfl 3 rfl ?_
              refine V.getRN (x := 363) (pc := 50) (ci := 4) (k := 2) (M := 5) (T := TX2) (o := 168) (kz := 2) hG a_168 a_168.n (by decide) hin_X2 rfl (by decide) (by decide) rfl kw_448 rfl ((hw).1 (168, 2, 363) (by decide)) (by decide) dX4_pushAll_50 ?_
              refine V.iload (pc := 53) hG dX4_pushAll_53 6 rfl ?_
              obtain ⟨g49, h⟩ := h
              refine V.aald (pc := 55) 7 (z := 96) (o := 363) (x := x5_6) (y := 364 + x5_6) hG a_363 a_363.n (by decide) hx5_6 g49 (hw.2.1 (363, 96, 364) (by decide) _ g49.1 g49.2) (by omega) dX4_pushAll_55 ?_
              refine V.iload (pc := 56) hG dX4_pushAll_56 7 rfl ?_
              obtain ⟨g50, h⟩ := h
              refine V.iald (pc := 58) (z := 100) (o := 364 + x5_6) hG (row_363 g49) ((row_363 g49)).n hx6_18 g50 dX4_pushAll_58 ?_
              refine V.iadd (pc := 59) hG dX4_pushAll_59 ?_
              refine V.iload_n (pc := 60) hG dX4_pushAll_60 rfl 4 rfl ?_
              refine V.aload_n (pc := 61) hG dX4_pushAll_61 rfl 3 rfl ?_
              refine V.getRN (x := 266) (pc := 62) (ci := 4) (k := 1) (M := 5) (T := TX2) (o := 168) (kz := 1) hG a_168 a_168.n (by decide) hin_X2 rfl (by decide) (by decide) rfl kw_445 rfl ((hw).1 (168, 1, 266) (by decide)) (by decide) dX4_pushAll_62 ?_
              refine V.iload (pc := 65) hG dX4_pushAll_65 6 rfl ?_
              obtain ⟨g51, h⟩ := h
              refine V.aald (pc := 67) 7 (z := 96) (o := 266) (x := x5_6) (y := 267 + x5_6) hG a_266 a_266.n (by decide) hx5_6 g51 (hw.2.1 (266, 96, 267) (by decide) _ g51.1 g51.2) (by omega) dX4_pushAll_67 ?_
              refine V.iload (pc := 68) hG dX4_pushAll_68 7 rfl ?_
              obtain ⟨g52, h⟩ := h
              refine V.iald (pc := 70) (z := 100) (o := 267 + x5_6) hG (row_266 g51) ((row_266 g51)).n hx6_18 g52 dX4_pushAll_70 ?_
              refine V.imul (pc := 71) hG dX4_pushAll_71 ?_
              refine V.isub (pc := 72) hG dX4_pushAll_72 ?_
              refine V.istore (pc := 73) (lv' := [(8, .int (sJ (wr (wr (i_18 471 x5_6 + i_18 (364 + x5_6) x6_18) - wr (p3 * i_18 (267 + x5_6) x6_18))))), (7, .int (sJ (i_18 (170 + x5_6) x6_18))), (0, .ref (sA Δ 469)), (1, .ref (sA Δ 67)), (2, .ref (sA Δ 168)), (3, .int (sJ p3)), (4, .int (sJ x4_18)), (5, .int (sJ x5_6)), (6, .int (sJ x6_18))]) hG dX4_pushAll_73 (by decide) rfl ?_
              refine V.iload (pc := 75) hG dX4_pushAll_75 0 rfl ?_
              refine V.aload_n (pc := 77) hG dX4_pushAll_77 rfl 2 rfl ?_
              refine V.getR (x := 471) (pc := 78) (ci := 6) (k := 1) (M := 6) (T := TX4) (o := 469) (kz := 1) hG a_469 a_469.n (by decide) hin_X4 rfl (by decide) (by decide) rfl kw_507 rfl ((hw).1 (469, 1, 471) (by decide)) (by decide) dX4_pushAll_78 ?_
              refine V.iload (pc := 81) hG dX4_pushAll_81 1 rfl ?_
              obtain ⟨g53, h⟩ := h
              refine V.iald (pc := 83) (z := 96) (o := 471) hG a_471 a_471.n ((hi_18 _ _)) g53 dX4_pushAll_83 ?_
              obtain ⟨t55, f56⟩ := h
              refine V.icmp_le (pc := 84) (tgt := 105) hG ((sR_wr _)) ((hi_18 _ _)) dX4_pushAll_84 (by decide) (fun c54 => ?_) (fun c54 => ?_)
              · have h := t55 c54
                clear t55 f56
                refine V.pick [2, 3, 4, 5, 6, 7, 8] rfl ?_
                exact jn105 x4_18 x6_18 i_18 hx4_18 hx6_18 hi_18 h
              · have h := f56 c54
                clear t55 f56
                refine V.aload_n (pc := 87) hG dX4_pushAll_87 rfl 2 rfl ?_
                refine V.getR (x := 471) (pc := 88) (ci := 6) (k := 1) (M := 6) (T := TX4) (o := 469) (kz := 1) hG a_469 a_469.n (by decide) hin_X4 rfl (by decide) (by decide) rfl kw_507 rfl ((hw).1 (469, 1, 471) (by decide)) (by decide) dX4_pushAll_88 ?_
                refine V.iload (pc := 91) hG dX4_pushAll_91 1 rfl ?_
                refine V.iload (pc := 93) hG dX4_pushAll_93 0 rfl ?_
                obtain ⟨g57, h⟩ := h
                refine V.iast (pc := 95) (z := 96) (o := 471) hG a_471 a_471.n ((hi_18 _ _)) g57 dX4_pushAll_95 ?_
                refine V.iload (pc := 96) hG dX4_pushAll_96 6 rfl ?_
                refine V.iload (pc := 98) hG dX4_pushAll_98 0 rfl ?_
                refine V.mmax (pc := 100) hG hx4_18 ((sR_wr _)) kw_1001 kw_680 kw_173 kw_max ⟨Nat.le_of_ble_eq_true rfl, Nat.le_of_ble_eq_true rfl, Nat.le_of_ble_eq_true rfl, Nat.le_of_ble_eq_true rfl⟩ dX4_pushAll_100 ?_
                refine V.istore (pc := 103) (lv' := [(4, .int (sJ (max x4_18 (wr (wr (i_18 471 x5_6 + i_18 (364 + x5_6) x6_18) - wr (p3 * i_18 (267 + x5_6) x6_18)))))), (8, .int (sJ (wr (wr (i_18 471 x5_6 + i_18 (364 + x5_6) x6_18) - wr (p3 * i_18 (267 + x5_6) x6_18))))), (7, .int (sJ (i_18 (170 + x5_6) x6_18))), (0, .ref (sA Δ 469)), (1, .ref (sA Δ 67)), (2, .ref (sA Δ 168)), (3, .int (sJ p3)), (5, .int (sJ x5_6)), (6, .int (sJ x6_18))]) hG dX4_pushAll_103 (by decide) rfl ?_
                refine V.pick [3, 4, 5, 6, 0, 7, 8] rfl ?_
                exact jn105 (max x4_18 (wr (wr (i_18 471 x5_6 + i_18 (364 + x5_6) x6_18) - wr (p3 * i_18 (267 + x5_6) x6_18)))) x6_18 (st i_18 471 (i_18 (170 + x5_6) x6_18) (wr (wr (i_18 471 x5_6 + i_18 (364 + x5_6) x6_18) - wr (p3 * i_18 (267 + x5_6) x6_18)))) ((sR_max hx4_18 ((sR_wr _)))) hx6_18 ((okI_st hi_18 ((sR_wr _)))) h
        refine V.pick [1, 2, 3, 4, 5, 6, 0] rfl ?_
        exact lp18 n41 x4_6 0 i_6 hx4_6 ((sR_l rfl)) hi_6 h
  refine V.pick [2, 3, 4, 5, 1, 0] rfl ?_
  exact lp6 n37 (-1) 0 i ((sR_l rfl)) ((sR_l rfl)) hi h
set_option maxRecDepth 100000 in
set_option maxHeartbeats 4000000 in
theorem sm_X4_isAllowedByRings (l : Launch) (Δ : Wd) {i r : MI} {p3 : Int} (hp3 : sR p3) {Q : Int → MI → Prop} (hi : okI i) (hw : Wf r) (h : wp_X4_isAllowedByRings p3 i r Q) : Met l yX4_isAllowedByRings (Cond.code yX4_isAllowedByRings cX4_isAllowedByRings 7 (some .boolean) :: gW) (sRm 2 43) (sPc Δ [.ref (sA Δ 469), .ref (sA Δ 67), .ref (sA Δ 168), .int (sJ p3)] i r) (sQi Δ (fun x i' r' => r = r' ∧ Q x i')) 0 0 (sFr Δ) := by
  refine Ct.i (ty := .boolean) (by decide) rfl (Nat.le_of_ble_eq_true rfl) (fun Γ Q0 hG fin => ?_)
  have hG : okG Γ Δ l (sRm 2 43) cX4_isAllowedByRings "Schedulary$Pace" 7 := hG
  show V Γ Δ 542 false i r 0 0 Q0 0 [(0, .ref (sA Δ 469)), (1, .ref (sA Δ 67)), (2, .ref (sA Δ 168)), (3, .int (sJ p3))] []
  refine V.iconst (pc := 0) hG dX4_isAllowedByRings_0 ?_
  refine V.istore (pc := 1) (lv' := [(4, .int (sJ 0)), (0, .ref (sA Δ 469)), (1, .ref (sA Δ 67)), (2, .ref (sA Δ 168)), (3, .int (sJ p3))]) hG dX4_isAllowedByRings_1 (by decide) rfl ?_
  obtain ⟨n51, h⟩ := h
  have lp3 : ∀ (m3 : Nat) (x4_3 : Int) (i_3 : MI), sR x4_3 → okI i_3 → LoopP (b3_X4_isAllowedByRings p3 r Q) m3 (x4_3, i_3) → V Γ Δ 542 false i_3 r 0 0 Q0 3 [(0, .ref (sA Δ 469)), (1, .ref (sA Δ 67)), (2, .ref (sA Δ 168)), (3, .int (sJ p3)), (4, .int (sJ x4_3))] [] := by
    intro m3
    induction m3 with
    | zero => intro x4_3 i_3 hx4_3 hi_3 h; exact h.elim
    | succ m3 ih3 =>
      intro x4_3 i_3 hx4_3 hi_3 h
      have h := LoopP_succ h
      refine V.iload (pc := 3) hG dX4_isAllowedByRings_3 4 rfl ?_
      refine V.aload_n (pc := 5) hG dX4_isAllowedByRings_5 rfl 1 rfl ?_
      refine V.getIN (pc := 6) (ci := 2) (k := 4) (M := 5) (T := TX0) (o := 67) (kz := 4) hG a_67 a_67.n (by decide) hin_X0 rfl (by decide) (by decide) rfl kw_419 rfl dX4_isAllowedByRings_6 ?_
      obtain ⟨t53, f54⟩ := h
      refine V.icmp_ge (pc := 9) (tgt := 26) hG hx4_3 ((hi_3 _ _)) dX4_isAllowedByRings_9 (by decide) (fun c52 => ?_) (fun c52 => ?_)
      · have h := t53 c52
        clear t53 f54
        refine V.aload_n (pc := 26) hG dX4_isAllowedByRings_26 rfl 1 rfl ?_
        refine V.callVNi (pc := 27) (As := []) (stk := []) hG (sm_X0_sumOfCycles l Δ  hi_3 hw h) mY_X0_sumOfCycles kw_997 kw_999 kw_64 a_67 (by decide) (q := (RX0, TX0, 5)) rfl rfl ⟨Nat.le_of_ble_eq_true rfl, Nat.le_of_ble_eq_true rfl, Nat.le_of_ble_eq_true rfl, Nat.le_of_ble_eq_true rfl⟩ rfl (Nat.le_of_ble_eq_true rfl) dX4_isAllowedByRings_27 rfl (fun v55 i56 r57 hv58 hi59 hw60 hq61 => ?_)
        obtain ⟨e81, e82, h⟩ := hq61
        subst e81
        subst e82
        refine V.istore (pc := 30) (lv' := [(4, .int (sJ v55)), (0, .ref (sA Δ 469)), (1, .ref (sA Δ 67)), (2, .ref (sA Δ 168)), (3, .int (sJ p3))]) hG dX4_isAllowedByRings_30 (by decide) rfl ?_
        refine V.iconst (pc := 32) hG dX4_isAllowedByRings_32 ?_
        refine V.istore (pc := 33) (lv' := [(5, .int (sJ 0)), (4, .int (sJ v55)), (0, .ref (sA Δ 469)), (1, .ref (sA Δ 67)), (2, .ref (sA Δ 168)), (3, .int (sJ p3))]) hG dX4_isAllowedByRings_33 (by decide) rfl ?_
        obtain ⟨n62, h⟩ := h
        have lp35 : ∀ (m35 : Nat) (x5_35 : Int) (i_35 : MI), sR x5_35 → okI i_35 → LoopP (b35_X4_isAllowedByRings p3 v55 r Q) m35 (x5_35, i_35) → V Γ Δ 542 false i_35 r 0 0 Q0 35 [(0, .ref (sA Δ 469)), (1, .ref (sA Δ 67)), (2, .ref (sA Δ 168)), (3, .int (sJ p3)), (4, .int (sJ v55)), (5, .int (sJ x5_35))] [] := by
          intro m35
          induction m35 with
          | zero => intro x5_35 i_35 hx5_35 hi_35 h; exact h.elim
          | succ m35 ih35 =>
            intro x5_35 i_35 hx5_35 hi_35 h
            have h := LoopP_succ h
            refine V.iload (pc := 35) hG dX4_isAllowedByRings_35 5 rfl ?_
            refine V.aload_n (pc := 37) hG dX4_isAllowedByRings_37 rfl 1 rfl ?_
            refine V.getIN (pc := 38) (ci := 2) (k := 4) (M := 5) (T := TX0) (o := 67) (kz := 4) hG a_67 a_67.n (by decide) hin_X0 rfl (by decide) (by decide) rfl kw_419 rfl dX4_isAllowedByRings_38 ?_
            obtain ⟨t64, f65⟩ := h
            refine V.icmp_gt (pc := 41) (tgt := 76) hG hx5_35 ((hi_35 _ _)) dX4_isAllowedByRings_41 (by decide) (fun c63 => ?_) (fun c63 => ?_)
            · have h := t64 c63
              clear t64 f65
              refine V.iconst (pc := 76) hG dX4_isAllowedByRings_76 ?_
              exact fin dX4_isAllowedByRings_77 ((sR_l rfl)) (nar_z (by decide)) hi_35 hw ⟨rfl, h⟩
            · have h := f65 c63
              clear t64 f65
              refine V.aload_n (pc := 44) hG dX4_isAllowedByRings_44 rfl 0 rfl ?_
              refine V.aload_n (pc := 45) hG dX4_isAllowedByRings_45 rfl 1 rfl ?_
              refine V.aload_n (pc := 46) hG dX4_isAllowedByRings_46 rfl 2 rfl ?_
              refine V.iload_n (pc := 47) hG dX4_isAllowedByRings_47 rfl 3 rfl ?_
              refine V.callVi (pc := 48) (As := [.ref (sA Δ 67), .ref (sA Δ 168), .int (sJ p3)]) (stk := []) hG (sm_X4_pushAll l Δ hp3 hi_35 hw h) mY_X4_pushAll kw_1006 kw_1008 kw_66 a_469 (by decide) (q := (RX4, TX4, 6)) rfl rfl ⟨Nat.le_of_ble_eq_true rfl, Nat.le_of_ble_eq_true rfl, Nat.le_of_ble_eq_true rfl, Nat.le_of_ble_eq_true rfl⟩ rfl (Nat.le_of_ble_eq_true rfl) dX4_isAllowedByRings_48 rfl (fun v66 i67 r68 hv69 hi70 hw71 hq72 => ?_)
              obtain ⟨e80, h⟩ := hq72
              subst e80
              refine V.istore (pc := 51) (lv' := [(6, .int (sJ v66)), (0, .ref (sA Δ 469)), (1, .ref (sA Δ 67)), (2, .ref (sA Δ 168)), (3, .int (sJ p3)), (4, .int (sJ v55)), (5, .int (sJ x5_35))]) hG dX4_isAllowedByRings_51 (by decide) rfl ?_
              refine V.iload (pc := 53) hG dX4_isAllowedByRings_53 0 rfl ?_
              refine V.iconst (pc := 55) hG dX4_isAllowedByRings_55 ?_
              obtain ⟨f75, t74⟩ := h
              refine V.icmp_ne (pc := 56) (tgt := 61) hG hv69 ((sR_l rfl)) dX4_isAllowedByRings_56 (by decide) (fun c73 => ?_) (fun c73 => ?_)
              · have h := t74 c73
                clear t74 f75
                refine V.iload (pc := 61) hG dX4_isAllowedByRings_61 0 rfl ?_
                refine V.iload (pc := 63) hG dX4_isAllowedByRings_63 5 rfl ?_
                obtain ⟨t77, f78⟩ := h
                refine V.icmp_le (pc := 65) (tgt := 70) hG hv69 hv58 dX4_isAllowedByRings_65 (by decide) (fun c76 => ?_) (fun c76 => ?_)
                · have h := t77 c76
                  clear t77 f78
                  refine V.iinc (pc := 70) (lv' := [(5, .int (sJ (wr (x5_35 + 1)))), (6, .int (sJ v66)), (0, .ref (sA Δ 469)), (1, .ref (sA Δ 67)), (2, .ref (sA Δ 168)), (3, .int (sJ p3)), (4, .int (sJ v55))]) hG dX4_isAllowedByRings_70 6 rfl (by decide) rfl ?_
                  refine V.goto (pc := 73) (tgt := 35) hG dX4_isAllowedByRings_73 (by decide) ?_
                  refine V.pick [2, 3, 4, 5, 6, 0] rfl ?_
                  exact ih35 (wr (x5_35 + 1)) i67 ((sR_wr _)) hi70 h
                · have h := f78 c76
                  clear t77 f78
                  refine V.iconst (pc := 68) hG dX4_isAllowedByRings_68 ?_
                  exact fin dX4_isAllowedByRings_69 ((sR_l rfl)) (nar_z (by decide)) hi70 hw ⟨rfl, h⟩
              · have h := f75 c73
                clear t74 f75
                refine V.iconst (pc := 59) hG dX4_isAllowedByRings_59 ?_
                exact fin dX4_isAllowedByRings_60 ((sR_l rfl)) (nar_z (by decide)) hi70 hw ⟨rfl, h⟩
        refine V.pick [2, 3, 4, 5, 1, 0] rfl ?_
        exact lp35 n62 0 i_3 ((sR_l rfl)) hi_3 h
      · have h := f54 c52
        clear t53 f54
        refine V.aload_n (pc := 12) hG dX4_isAllowedByRings_12 rfl 0 rfl ?_
        refine V.getR (x := 471) (pc := 13) (ci := 6) (k := 1) (M := 6) (T := TX4) (o := 469) (kz := 1) hG a_469 a_469.n (by decide) hin_X4 rfl (by decide) (by decide) rfl kw_507 rfl ((hw).1 (469, 1, 471) (by decide)) (by decide) dX4_isAllowedByRings_13 ?_
        refine V.iload (pc := 16) hG dX4_isAllowedByRings_16 4 rfl ?_
        refine V.iconst (pc := 18) hG dX4_isAllowedByRings_18 ?_
        obtain ⟨g83, h⟩ := h
        refine V.iast (pc := 19) (z := 96) (o := 471) hG a_471 a_471.n hx4_3 g83 dX4_isAllowedByRings_19 ?_
        refine V.iinc (pc := 20) (lv' := [(4, .int (sJ (wr (x4_3 + 1)))), (0, .ref (sA Δ 469)), (1, .ref (sA Δ 67)), (2, .ref (sA Δ 168)), (3, .int (sJ p3))]) hG dX4_isAllowedByRings_20 4 rfl (by decide) rfl ?_
        refine V.goto (pc := 23) (tgt := 3) hG dX4_isAllowedByRings_23 (by decide) ?_
        refine V.pick [1, 2, 3, 4, 0] rfl ?_
        exact ih3 (wr (x4_3 + 1)) (st i_3 471 x4_3 0) ((sR_wr _)) ((okI_st hi_3 ((sR_l rfl)))) h
  refine V.pick [1, 2, 3, 4, 0] rfl ?_
  exact lp3 n51 0 i ((sR_l rfl)) hi h
set_option maxRecDepth 100000 in
set_option maxHeartbeats 4000000 in
theorem sm_X4_findByRings (l : Launch) (Δ : Wd) {i r : MI}   {Q : Int → MI → Prop} (hi : okI i) (hw : Wf r) (h : wp_X4_findByRings  i r Q) : Met l yX4_findByRings (Cond.code yX4_findByRings cX4_findByRings 7 (some .int) :: gW) (sRm 3 69) (sPc Δ [.ref (sA Δ 469), .ref (sA Δ 67), .ref (sA Δ 168)] i r) (sQi Δ (fun x i' r' => r = r' ∧ Q x i')) 0 0 (sFr Δ) := by
  refine Ct.i (ty := .int) (by decide) rfl (Nat.le_of_ble_eq_true rfl) (fun Γ Q0 hG fin => ?_)
  have hG : okG Γ Δ l (sRm 3 69) cX4_findByRings "Schedulary$Pace" 7 := hG
  show V Γ Δ 542 false i r 0 0 Q0 0 [(0, .ref (sA Δ 469)), (1, .ref (sA Δ 67)), (2, .ref (sA Δ 168))] []
  have jn66 : ∀ (x3j66 : Int) (ij66 : MI), sR x3j66 → okI ij66 → s66_X4_findByRings x3j66 ij66 r Q → V Γ Δ 542 false ij66 r 0 0 Q0 66 [(3, .int (sJ x3j66))] [] := by
    intro x3j66 ij66 hx3j66 hij66 h
    refine V.iload_n (pc := 66) hG dX4_findByRings_66 rfl 0 rfl ?_
    exact fin dX4_findByRings_67 hx3j66 rfl hij66 hw ⟨rfl, h⟩
  refine V.iconst (pc := 0) hG dX4_findByRings_0 ?_
  refine V.istore_n (pc := 1) (lv' := [(3, .int (sJ 1)), (0, .ref (sA Δ 469)), (1, .ref (sA Δ 67)), (2, .ref (sA Δ 168))]) hG dX4_findByRings_1 rfl (by decide) rfl ?_
  refine V.iconst (pc := 2) hG dX4_findByRings_2 ?_
  refine V.aload_n (pc := 3) hG dX4_findByRings_3 rfl 2 rfl ?_
  refine V.callVNi (pc := 4) (As := []) (stk := [.int (sJ 1)]) hG (sm_X0_sumOfCycles l Δ  hi hw h) mY_X0_sumOfCycles kw_997 kw_999 kw_64 a_67 (by decide) (q := (RX0, TX0, 5)) rfl rfl ⟨Nat.le_of_ble_eq_true rfl, Nat.le_of_ble_eq_true rfl, Nat.le_of_ble_eq_true rfl, Nat.le_of_ble_eq_true rfl⟩ rfl (Nat.le_of_ble_eq_true rfl) dX4_findByRings_4 rfl (fun v1 i2 r3 hv4 hi5 hw6 hq7 => ?_)
  obtain ⟨e45, e46, h⟩ := hq7
  subst e45
  subst e46
  refine V.mmax (pc := 7) hG ((sR_l rfl)) hv4 kw_1001 kw_680 kw_173 kw_max ⟨Nat.le_of_ble_eq_true rfl, Nat.le_of_ble_eq_true rfl, Nat.le_of_ble_eq_true rfl, Nat.le_of_ble_eq_true rfl⟩ dX4_findByRings_7 ?_
  refine V.istore (pc := 10) (lv' := [(4, .int (sJ (max 1 v1))), (3, .int (sJ 1)), (0, .ref (sA Δ 469)), (1, .ref (sA Δ 67)), (2, .ref (sA Δ 168))]) hG dX4_findByRings_10 (by decide) rfl ?_
  refine V.iconst (pc := 12) hG dX4_findByRings_12 ?_
  refine V.istore (pc := 13) (lv' := [(5, .int (sJ 0)), (4, .int (sJ (max 1 v1))), (3, .int (sJ 1)), (0, .ref (sA Δ 469)), (1, .ref (sA Δ 67)), (2, .ref (sA Δ 168))]) hG dX4_findByRings_13 (by decide) rfl ?_
  obtain ⟨n26, h⟩ := h
  have lp15 : ∀ (m15 : Nat) (x3_15 : Int) (x4_15 : Int) (x5_15 : Int) (i_15 : MI), sR x3_15 → sR x4_15 → sR x5_15 → okI i_15 → LoopP (b15_X4_findByRings r Q) m15 (x3_15, x4_15, x5_15, i_15) → V Γ Δ 542 false i_15 r 0 0 Q0 15 [(0, .ref (sA Δ 469)), (1, .ref (sA Δ 67)), (2, .ref (sA Δ 168)), (3, .int (sJ x3_15)), (4, .int (sJ x4_15)), (5, .int (sJ x5_15))] [] := by
    intro m15
    induction m15 with
    | zero => intro x3_15 x4_15 x5_15 i_15 hx3_15 hx4_15 hx5_15 hi_15 h; exact h.elim
    | succ m15 ih15 =>
      intro x3_15 x4_15 x5_15 i_15 hx3_15 hx4_15 hx5_15 hi_15 h
      have h := LoopP_succ h
      have jn60 : ∀ (x3j60 : Int) (x4j60 : Int) (x5j60 : Int) (ij60 : MI), sR x3j60 → sR x4j60 → sR x5j60 → okI ij60 → s60_X4_findByRings x3j60 x4j60 x5j60 ij60 r Q (LoopP (b15_X4_findByRings r Q) m15) → V Γ Δ 542 false ij60 r 0 0 Q0 60 [(0, .ref (sA Δ 469)), (1, .ref (sA Δ 67)), (2, .ref (sA Δ 168)), (3, .int (sJ x3j60)), (4, .int (sJ x4j60)), (5, .int (sJ x5j60))] [] := by
        intro x3j60 x4j60 x5j60 ij60 hx3j60 hx4j60 hx5j60 hij60 h
        refine V.iinc (pc := 60) (lv' := [(5, .int (sJ (wr (x5j60 + 1)))), (0, .ref (sA Δ 469)), (1, .ref (sA Δ 67)), (2, .ref (sA Δ 168)), (3, .int (sJ x3j60)), (4, .int (sJ x4j60))]) hG dX4_findByRings_60 5 rfl (by decide) rfl ?_
        refine V.goto (pc := 63) (tgt := 15) hG dX4_findByRings_63 (by decide) ?_
        refine V.pick [1, 2, 3, 4, 5, 0] rfl ?_
        exact ih15 x3j60 x4j60 (wr (x5j60 + 1)) ij60 hx3j60 hx4j60 ((sR_wr _)) hij60 h
      refine V.iload (pc := 15) hG dX4_findByRings_15 5 rfl ?_
      refine V.sipush (pc := 17) hG dX4_findByRings_17 (by decide) ?_
      obtain ⟨t28, f29⟩ := h
      refine V.icmp_ge (pc := 20) (tgt := 66) hG hx5_15 ((sR_l rfl)) dX4_findByRings_20 (by decide) (fun c27 => ?_) (fun c27 => ?_)
      · have h := t28 c27
        clear t28 f29
        refine V.pick [3] rfl ?_
        exact jn66 x3_15 i_15 hx3_15 hi_15 h
      · have h := f29 c27
        clear t28 f29
        refine V.iload_n (pc := 23) hG dX4_findByRings_23 rfl 3 rfl ?_
        refine V.iload (pc := 24) hG dX4_findByRings_24 4 rfl ?_
        obtain ⟨t31, f32⟩ := h
        refine V.icmp_ge (pc := 26) (tgt := 66) hG hx3_15 hx4_15 dX4_findByRings_26 (by decide) (fun c30 => ?_) (fun c30 => ?_)
        · have h := t31 c30
          clear t31 f32
          refine V.pick [3] rfl ?_
          exact jn66 x3_15 i_15 hx3_15 hi_15 h
        · have h := f32 c30
          clear t31 f32
          refine V.iload_n (pc := 29) hG dX4_findByRings_29 rfl 3 rfl ?_
          refine V.iload (pc := 30) hG dX4_findByRings_30 4 rfl ?_
          refine V.iadd (pc := 32) hG dX4_findByRings_32 ?_
          refine V.iconst (pc := 33) hG dX4_findByRings_33 ?_
          refine V.idiv (pc := 34) hG ((sR_wr _)) ((sR_l rfl)) (by decide) dX4_findByRings_34 ?_
          refine V.istore (pc := 35) (lv' := [(6, .int (sJ (wr (Int.tdiv (wr (x3_15 + x4_15)) 2)))), (0, .ref (sA Δ 469)), (1, .ref (sA Δ 67)), (2, .ref (sA Δ 168)), (3, .int (sJ x3_15)), (4, .int (sJ x4_15)), (5, .int (sJ x5_15))]) hG dX4_findByRings_35 (by decide) rfl ?_
          refine V.aload_n (pc := 37) hG dX4_findByRings_37 rfl 1 rfl ?_
          refine V.aload_n (pc := 38) hG dX4_findByRings_38 rfl 2 rfl ?_
          refine V.aload_n (pc := 39) hG dX4_findByRings_39 rfl 3 rfl ?_
          refine V.iload (pc := 40) hG dX4_findByRings_40 0 rfl ?_
          refine V.callVi (pc := 42) (As := [.ref (sA Δ 67), .ref (sA Δ 168), .int (sJ (wr (Int.tdiv (wr (x3_15 + x4_15)) 2)))]) (stk := []) hG (sm_X4_isAllowedByRings l Δ ((sR_wr _)) hi_15 hw h) mY_X4_isAllowedByRings kw_1002 kw_1004 kw_65 a_469 (by decide) (q := (RX4, TX4, 6)) rfl rfl ⟨Nat.le_of_ble_eq_true rfl, Nat.le_of_ble_eq_true rfl, Nat.le_of_ble_eq_true rfl, Nat.le_of_ble_eq_true rfl⟩ rfl (Nat.le_of_ble_eq_true rfl) dX4_findByRings_42 rfl (fun v33 i34 r35 hv36 hi37 hw38 hq39 => ?_)
          obtain ⟨e44, h⟩ := hq39
          subst e44
          obtain ⟨t41, f42⟩ := h
          refine V.if_eq (pc := 45) (tgt := 55) hG hv36 dX4_findByRings_45 (by decide) (fun c40 => ?_) (fun c40 => ?_)
          · have h := t41 c40
            clear t41 f42
            refine V.iload (pc := 55) hG dX4_findByRings_55 0 rfl ?_
            refine V.iconst (pc := 57) hG dX4_findByRings_57 ?_
            refine V.iadd (pc := 58) hG dX4_findByRings_58 ?_
            refine V.istore_n (pc := 59) (lv' := [(3, .int (sJ (wr (wr (Int.tdiv (wr (x3_15 + x4_15)) 2) + 1)))), (6, .int (sJ (wr (Int.tdiv (wr (x3_15 + x4_15)) 2)))), (0, .ref (sA Δ 469)), (1, .ref (sA Δ 67)), (2, .ref (sA Δ 168)), (4, .int (sJ x4_15)), (5, .int (sJ x5_15))]) hG dX4_findByRings_59 rfl (by decide) rfl ?_
            refine V.pick [2, 3, 4, 0, 5, 6] rfl ?_
            exact jn60 (wr (wr (Int.tdiv (wr (x3_15 + x4_15)) 2) + 1)) x4_15 x5_15 i34 ((sR_wr _)) hx4_15 hx5_15 hi37 h
          · have h := f42 c40
            clear t41 f42
            refine V.iload (pc := 48) hG dX4_findByRings_48 0 rfl ?_
            refine V.istore (pc := 50) (lv' := [(4, .int (sJ (wr (Int.tdiv (wr (x3_15 + x4_15)) 2)))), (6, .int (sJ (wr (Int.tdiv (wr (x3_15 + x4_15)) 2)))), (0, .ref (sA Δ 469)), (1, .ref (sA Δ 67)), (2, .ref (sA Δ 168)), (3, .int (sJ x3_15)), (5, .int (sJ x5_15))]) hG dX4_findByRings_50 (by decide) rfl ?_
            refine V.goto (pc := 52) (tgt := 60) hG dX4_findByRings_52 (by decide) ?_
            refine V.pick [2, 3, 4, 5, 0, 6] rfl ?_
            exact jn60 x3_15 (wr (Int.tdiv (wr (x3_15 + x4_15)) 2)) x5_15 i34 hx3_15 ((sR_wr _)) hx5_15 hi37 h
  refine V.pick [3, 4, 5, 2, 1, 0] rfl ?_
  exact lp15 n26 1 (max 1 v1) 0 i ((sR_l rfl)) ((sR_max ((sR_l rfl)) hv4)) ((sR_l rfl)) hi h
set_option maxRecDepth 100000 in
set_option maxHeartbeats 4000000 in
theorem sm_X0_leastIntervalOf (l : Launch) (Δ : Wd) {i r : MI} {p1 : Int} (hp1 : sR p1) {Q : Int → Prop} (hi : okI i) (hw : Wf r) (h : wp_X0_leastIntervalOf p1 i r Q) : Met l yX0_leastIntervalOf (Cond.code yX0_leastIntervalOf cX0_leastIntervalOf 3 (some .int) :: gW) (sRm 0 0) (sPc Δ [.ref (sA Δ 67), .int (sJ p1)] i r) (sQi Δ (fun x i' r' => i = i' ∧ r = r' ∧ Q x)) 0 0 (sFr Δ) := by
  refine Ct.i (ty := .int) (by decide) rfl (Nat.le_of_ble_eq_true rfl) (fun Γ Q0 hG fin => ?_)
  have hG : okG Γ Δ l (sRm 0 0) cX0_leastIntervalOf "Schedulary$Body" 3 := hG
  show V Γ Δ 542 false i r 0 0 Q0 0 [(0, .ref (sA Δ 67)), (1, .int (sJ p1))] []
  have jn28 : ∀ (k0j28 : Int), sR k0j28 → s28_X0_leastIntervalOf k0j28 i r Q → V Γ Δ 542 false i r 0 0 Q0 28 [] [.int (sJ k0j28)] := by
    intro k0j28 hk0j28 h
    exact fin dX0_leastIntervalOf_28 hk0j28 rfl hi hw ⟨rfl, rfl, h⟩
  refine V.aload_n (pc := 0) hG dX0_leastIntervalOf_0 rfl 0 rfl ?_
  refine V.getR (x := 69) (pc := 1) (ci := 2) (k := 1) (M := 5) (T := TX0) (o := 67) (kz := 1) hG a_67 a_67.n (by decide) hin_X0 rfl (by decide) (by decide) rfl kw_408 rfl ((hw).1 (67, 1, 69) (by decide)) (by decide) dX0_leastIntervalOf_1 ?_
  refine V.iload_n (pc := 4) hG dX0_leastIntervalOf_4 rfl 1 rfl ?_
  obtain ⟨g1, h⟩ := h
  refine V.iald (pc := 5) (z := 7) (o := 69) hG a_69 a_69.n hp1 g1 dX0_leastIntervalOf_5 ?_
  refine V.istore_n (pc := 6) (lv' := [(2, .int (sJ (i 69 p1))), (0, .ref (sA Δ 67)), (1, .int (sJ p1))]) hG dX0_leastIntervalOf_6 rfl (by decide) rfl ?_
  refine V.iload_n (pc := 7) hG dX0_leastIntervalOf_7 rfl 0 rfl ?_
  refine V.iconst (pc := 8) hG dX0_leastIntervalOf_8 ?_
  obtain ⟨t3, f4⟩ := h
  refine V.icmp_ge (pc := 9) (tgt := 16) hG ((hi _ _)) ((sR_l rfl)) dX0_leastIntervalOf_9 (by decide) (fun c2 => ?_) (fun c2 => ?_)
  · have h := t3 c2
    clear t3 f4
    refine V.aload_n (pc := 16) hG dX0_leastIntervalOf_16 rfl 1 rfl ?_
    refine V.getR (x := 71) (pc := 17) (ci := 2) (k := 3) (M := 5) (T := TX0) (o := 67) (kz := 3) hG a_67 a_67.n (by decide) hin_X0 rfl (by decide) (by decide) rfl kw_414 rfl ((hw).1 (67, 3, 71) (by decide)) (by decide) dX0_leastIntervalOf_17 ?_
    refine V.iload_n (pc := 20) hG dX0_leastIntervalOf_20 rfl 2 rfl ?_
    obtain ⟨g5, h⟩ := h
    refine V.iald (pc := 21) (z := 7) (o := 71) hG a_71 a_71.n hp1 g5 dX0_leastIntervalOf_21 ?_
    refine V.iload_n (pc := 22) hG dX0_leastIntervalOf_22 rfl 0 rfl ?_
    refine V.iadd (pc := 23) hG dX0_leastIntervalOf_23 ?_
    refine V.iconst (pc := 24) hG dX0_leastIntervalOf_24 ?_
    refine V.isub (pc := 25) hG dX0_leastIntervalOf_25 ?_
    refine V.iload_n (pc := 26) hG dX0_leastIntervalOf_26 rfl 0 rfl ?_
    obtain ⟨g6, h⟩ := h
    refine V.idiv (pc := 27) hG ((sR_wr _)) ((hi _ _)) g6 dX0_leastIntervalOf_27 ?_
    refine V.pick [] rfl ?_
    exact jn28 (wr (Int.tdiv (wr (wr (i 71 p1 + i 69 p1) - 1)) (i 69 p1))) ((sR_wr _)) h
  · have h := f4 c2
    clear t3 f4
    refine V.iconst (pc := 12) hG dX0_leastIntervalOf_12 ?_
    refine V.goto (pc := 13) (tgt := 28) hG dX0_leastIntervalOf_13 (by decide) ?_
    refine V.pick [] rfl ?_
    exact jn28 0 ((sR_l rfl)) h
set_option maxRecDepth 100000 in
set_option maxHeartbeats 4000000 in
theorem sm_X4_findByUnits (l : Launch) (Δ : Wd) {i r : MI}   {Q : Int → Prop} (hi : okI i) (hw : Wf r) (h : wp_X4_findByUnits  i r Q) : Met l yX4_findByUnits (Cond.code yX4_findByUnits cX4_findByUnits 3 (some .int) :: gW) (sRm 1 22) (sPc Δ [.ref (sA Δ 67)] i r) (sQi Δ (fun x i' r' => i = i' ∧ r = r' ∧ Q x)) 0 0 (sFr Δ) := by
  refine Ct.i (ty := .int) (by decide) rfl (Nat.le_of_ble_eq_true rfl) (fun Γ Q0 hG fin => ?_)
  have hG : okG Γ Δ l (sRm 1 22) cX4_findByUnits "Schedulary$Pace" 3 := hG
  show V Γ Δ 542 false i r 0 0 Q0 0 [(0, .ref (sA Δ 67))] []
  refine V.iconst (pc := 0) hG dX4_findByUnits_0 ?_
  refine V.istore_n (pc := 1) (lv' := [(1, .int (sJ 1)), (0, .ref (sA Δ 67))]) hG dX4_findByUnits_1 rfl (by decide) rfl ?_
  refine V.iconst (pc := 2) hG dX4_findByUnits_2 ?_
  refine V.istore_n (pc := 3) (lv' := [(2, .int (sJ 0)), (1, .int (sJ 1)), (0, .ref (sA Δ 67))]) hG dX4_findByUnits_3 rfl (by decide) rfl ?_
  obtain ⟨n13, h⟩ := h
  have lp4 : ∀ (m4 : Nat) (x1_4 : Int) (x2_4 : Int), sR x1_4 → sR x2_4 → LoopP (b4_X4_findByUnits i r Q) m4 (x1_4, x2_4) → V Γ Δ 542 false i r 0 0 Q0 4 [(0, .ref (sA Δ 67)), (1, .int (sJ x1_4)), (2, .int (sJ x2_4))] [] := by
    intro m4
    induction m4 with
    | zero => intro x1_4 x2_4 hx1_4 hx2_4 h; exact h.elim
    | succ m4 ih4 =>
      intro x1_4 x2_4 hx1_4 hx2_4 h
      have h := LoopP_succ h
      refine V.iload_n (pc := 4) hG dX4_findByUnits_4 rfl 2 rfl ?_
      refine V.bipush (pc := 5) hG dX4_findByUnits_5 (by decide) ?_
      obtain ⟨t15, f16⟩ := h
      refine V.icmp_ge (pc := 7) (tgt := 26) hG hx2_4 ((sR_l rfl)) dX4_findByUnits_7 (by decide) (fun c14 => ?_) (fun c14 => ?_)
      · have h := t15 c14
        clear t15 f16
        refine V.iload_n (pc := 26) hG dX4_findByUnits_26 rfl 1 rfl ?_
        exact fin dX4_findByUnits_27 hx1_4 rfl hi hw ⟨rfl, rfl, h⟩
      · have h := f16 c14
        clear t15 f16
        refine V.iload_n (pc := 10) hG dX4_findByUnits_10 rfl 1 rfl ?_
        refine V.aload_n (pc := 11) hG dX4_findByUnits_11 rfl 0 rfl ?_
        refine V.iload_n (pc := 12) hG dX4_findByUnits_12 rfl 2 rfl ?_
        refine V.callVNi (pc := 13) (As := [.int (sJ x2_4)]) (stk := [.int (sJ x1_4)]) hG (sm_X0_leastIntervalOf l Δ hx2_4 hi hw h) mY_X0_leastIntervalOf kw_1013 kw_1015 kw_67 a_67 (by decide) (q := (RX0, TX0, 5)) rfl rfl ⟨Nat.le_of_ble_eq_true rfl, Nat.le_of_ble_eq_true rfl, Nat.le_of_ble_eq_true rfl, Nat.le_of_ble_eq_true rfl⟩ rfl (Nat.le_of_ble_eq_true rfl) dX4_findByUnits_13 rfl (fun v17 i18 r19 hv20 hi21 hw22 hq23 => ?_)
        obtain ⟨e24, e25, h⟩ := hq23
        subst e24
        subst e25
        refine V.mmax (pc := 16) hG hx1_4 hv20 kw_1001 kw_680 kw_173 kw_max ⟨Nat.le_of_ble_eq_true rfl, Nat.le_of_ble_eq_true rfl, Nat.le_of_ble_eq_true rfl, Nat.le_of_ble_eq_true rfl⟩ dX4_findByUnits_16 ?_
        refine V.istore_n (pc := 19) (lv' := [(1, .int (sJ (max x1_4 v17))), (0, .ref (sA Δ 67)), (2, .int (sJ x2_4))]) hG dX4_findByUnits_19 rfl (by decide) rfl ?_
        refine V.iinc (pc := 20) (lv' := [(2, .int (sJ (wr (x2_4 + 1)))), (1, .int (sJ (max x1_4 v17))), (0, .ref (sA Δ 67))]) hG dX4_findByUnits_20 2 rfl (by decide) rfl ?_
        refine V.goto (pc := 23) (tgt := 4) hG dX4_findByUnits_23 (by decide) ?_
        refine V.pick [2, 1, 0] rfl ?_
        exact ih4 (max x1_4 v17) (wr (x2_4 + 1)) ((sR_max hx1_4 hv20)) ((sR_wr _)) h
  refine V.pick [2, 1, 0] rfl ?_
  exact lp4 n13 1 0 ((sR_l rfl)) ((sR_l rfl)) h
set_option maxRecDepth 100000 in
set_option maxHeartbeats 4000000 in
theorem sm_X11_isWithin (l : Launch) (Δ : Wd) {i r : MI} {p0 : Int} {p1 : Int} {p2 : Int} (hp0 : sR p0) (hp1 : sR p1) (hp2 : sR p2) {Q : Int → Prop} (hi : okI i) (hw : Wf r) (h : wp_X11_isWithin p0 p1 p2 i r Q) : Met l yX11_isWithin (Cond.code yX11_isWithin cX11_isWithin 3 (some .boolean) :: gW) (sRm 0 0) (sPc Δ [.int (sJ p0), .int (sJ p1), .int (sJ p2)] i r) (sQi Δ (fun x i' r' => i = i' ∧ r = r' ∧ Q x)) 0 0 (sFr Δ) := by
  refine Ct.i (ty := .boolean) (by decide) rfl (Nat.le_of_ble_eq_true rfl) (fun Γ Q0 hG fin => ?_)
  have hG : okG Γ Δ l (sRm 0 0) cX11_isWithin "Schedulary" 3 := hG
  show V Γ Δ 542 false i r 0 0 Q0 0 [(0, .int (sJ p0)), (1, .int (sJ p1)), (2, .int (sJ p2))] []
  have jn15 : ∀ (k0j15 : Int), sR k0j15 → s15_X11_isWithin k0j15 i r Q → V Γ Δ 542 false i r 0 0 Q0 15 [] [.int (sJ k0j15)] := by
    intro k0j15 hk0j15 h
    obtain ⟨g2, h⟩ := h
    exact fin dX11_isWithin_15 hk0j15 (nar_z g2) hi hw ⟨rfl, rfl, h⟩
  have jn14 : s14_X11_isWithin i r Q → V Γ Δ 542 false i r 0 0 Q0 14 [] [] := by
    intro h
    refine V.iconst (pc := 14) hG dX11_isWithin_14 ?_
    exact jn15 0 ((sR_l rfl)) h
  refine V.iload_n (pc := 0) hG dX11_isWithin_0 rfl 0 rfl ?_
  refine V.iload_n (pc := 1) hG dX11_isWithin_1 rfl 1 rfl ?_
  obtain ⟨t4, f5⟩ := h
  refine V.icmp_lt (pc := 2) (tgt := 14) hG hp0 hp1 dX11_isWithin_2 (by decide) (fun c3 => ?_) (fun c3 => ?_)
  · have h := t4 c3
    clear t4 f5
    refine V.pick [] rfl ?_
    exact jn14 h
  · have h := f5 c3
    clear t4 f5
    refine V.iload_n (pc := 5) hG dX11_isWithin_5 rfl 0 rfl ?_
    refine V.iload_n (pc := 6) hG dX11_isWithin_6 rfl 2 rfl ?_
    obtain ⟨t7, f8⟩ := h
    refine V.icmp_gt (pc := 7) (tgt := 14) hG hp0 hp2 dX11_isWithin_7 (by decide) (fun c6 => ?_) (fun c6 => ?_)
    · have h := t7 c6
      clear t7 f8
      refine V.pick [] rfl ?_
      exact jn14 h
    · have h := f8 c6
      clear t7 f8
      refine V.iconst (pc := 10) hG dX11_isWithin_10 ?_
      refine V.goto (pc := 11) (tgt := 15) hG dX11_isWithin_11 (by decide) ?_
      refine V.pick [] rfl ?_
      exact jn15 1 ((sR_l rfl)) h
set_option maxRecDepth 100000 in
set_option maxHeartbeats 4000000 in
theorem sm_X4_restOf (l : Launch) (Δ : Wd) {i r : MI} {p1 : Int} (hp1 : sR p1) {Q : Int → Prop} (hi : okI i) (hw : Wf r) (h : wp_X4_restOf p1 i r Q) : Met l yX4_restOf (Cond.code yX4_restOf cX4_restOf 3 (some .int) :: gW) (sRm 1 22) (sPc Δ [.ref (sA Δ 469), .int (sJ p1)] i r) (sQi Δ (fun x i' r' => i = i' ∧ r = r' ∧ Q x)) 0 0 (sFr Δ) := by
  refine Ct.i (ty := .int) (by decide) rfl (Nat.le_of_ble_eq_true rfl) (fun Γ Q0 hG fin => ?_)
  have hG : okG Γ Δ l (sRm 1 22) cX4_restOf "Schedulary$Pace" 3 := hG
  show V Γ Δ 542 false i r 0 0 Q0 0 [(0, .ref (sA Δ 469)), (1, .int (sJ p1))] []
  have jn34 : ∀ (k0j34 : Int), sR k0j34 → s34_X4_restOf k0j34 i r Q → V Γ Δ 542 false i r 0 0 Q0 34 [] [.int (sJ k0j34)] := by
    intro k0j34 hk0j34 h
    exact fin dX4_restOf_34 hk0j34 rfl hi hw ⟨rfl, rfl, h⟩
  have jn17 : ∀ (k0j17 : Int), sR k0j17 → s17_X4_restOf k0j17 i r Q → V Γ Δ 542 false i r 0 0 Q0 17 [] [.int (sJ k0j17)] := by
    intro k0j17 hk0j17 h
    refine V.istore_n (pc := 17) (lv' := [(2, .int (sJ k0j17))]) hG dX4_restOf_17 rfl (by decide) rfl ?_
    refine V.iload_n (pc := 18) hG dX4_restOf_18 rfl 0 rfl ?_
    refine V.iconst (pc := 19) hG dX4_restOf_19 ?_
    refine V.sipush (pc := 20) hG dX4_restOf_20 (by decide) ?_
    refine V.callSNi (pc := 23) (As := [.int (sJ k0j17), .int (sJ 0), .int (sJ 480)]) (stk := []) hG (sm_X11_isWithin l Δ hk0j17 ((sR_l rfl)) ((sR_l rfl)) hi hw h) mY_X11_isWithin kw_1030 kw_1031 ⟨Nat.le_of_ble_eq_true rfl, Nat.le_of_ble_eq_true rfl, Nat.le_of_ble_eq_true rfl, Nat.le_of_ble_eq_true rfl⟩ rfl (Nat.le_of_ble_eq_true rfl) dX4_restOf_23 rfl (fun v13 i14 r15 hv16 hi17 hw18 hq19 => ?_)
    obtain ⟨e23, e24, h⟩ := hq19
    subst e23
    subst e24
    obtain ⟨t21, f22⟩ := h
    refine V.if_eq (pc := 26) (tgt := 33) hG hv16 dX4_restOf_26 (by decide) (fun c20 => ?_) (fun c20 => ?_)
    · have h := t21 c20
      clear t21 f22
      refine V.iconst (pc := 33) hG dX4_restOf_33 ?_
      refine V.pick [] rfl ?_
      exact jn34 0 ((sR_l rfl)) h
    · have h := f22 c20
      clear t21 f22
      refine V.iload_n (pc := 29) hG dX4_restOf_29 rfl 0 rfl ?_
      refine V.goto (pc := 30) (tgt := 34) hG dX4_restOf_30 (by decide) ?_
      refine V.pick [] rfl ?_
      exact jn34 k0j17 hk0j17 h
  refine V.aload_n (pc := 0) hG dX4_restOf_0 rfl 0 rfl ?_
  refine V.getI (pc := 1) (ci := 6) (k := 5) (M := 6) (T := TX4) (o := 469) (kz := 5) hG a_469 a_469.n (by decide) hin_X4 rfl (by decide) (by decide) rfl kw_513 rfl dX4_restOf_1 ?_
  obtain ⟨t26, f27⟩ := h
  refine V.if_le (pc := 4) (tgt := 16) hG ((hi _ _)) dX4_restOf_4 (by decide) (fun c25 => ?_) (fun c25 => ?_)
  · have h := t26 c25
    clear t26 f27
    refine V.iconst (pc := 16) hG dX4_restOf_16 ?_
    refine V.pick [] rfl ?_
    exact jn17 0 ((sR_l rfl)) h
  · have h := f27 c25
    clear t26 f27
    refine V.iload_n (pc := 7) hG dX4_restOf_7 rfl 1 rfl ?_
    refine V.aload_n (pc := 8) hG dX4_restOf_8 rfl 0 rfl ?_
    refine V.getI (pc := 9) (ci := 6) (k := 5) (M := 6) (T := TX4) (o := 469) (kz := 5) hG a_469 a_469.n (by decide) hin_X4 rfl (by decide) (by decide) rfl kw_513 rfl dX4_restOf_9 ?_
    obtain ⟨g28, h⟩ := h
    refine V.irem (pc := 12) hG hp1 ((hi _ _)) g28 dX4_restOf_12 ?_
    refine V.goto (pc := 13) (tgt := 17) hG dX4_restOf_13 (by decide) ?_
    refine V.pick [] rfl ?_
    exact jn17 (Int.tmod p1 (i 469 5)) ((sR_tmod hp1)) h
set_option maxRecDepth 100000 in
set_option maxHeartbeats 4000000 in
theorem sm_X4_findStep (l : Launch) (Δ : Wd) {i r : MI} {p2 : Int} {p3 : Int} {p4 : Int} (hp2 : sR p2) (hp3 : sR p3) (hp4 : sR p4) {Q : Int → Prop} (hi : okI i) (hw : Wf r) (h : wp_X4_findStep p2 p3 p4 i r Q) : Met l yX4_findStep (Cond.code yX4_findStep cX4_findStep 10 (some .int) :: gW) (sRm 2 44) (sPc Δ [.ref (sA Δ 469), .ref (sA Δ 168), .int (sJ p2), .int (sJ p3), .int (sJ p4)] i r) (sQi Δ (fun x i' r' => i = i' ∧ r = r' ∧ Q x)) 0 0 (sFr Δ) := by
  refine Ct.i (ty := .int) (by decide) rfl (Nat.le_of_ble_eq_true rfl) (fun Γ Q0 hG fin => ?_)
  have hG : okG Γ Δ l (sRm 2 44) cX4_findStep "Schedulary$Pace" 10 := hG
  show V Γ Δ 542 false i r 0 0 Q0 0 [(0, .ref (sA Δ 469)), (1, .ref (sA Δ 168)), (2, .int (sJ p2)), (3, .int (sJ p3)), (4, .int (sJ p4))] []
  refine V.aload_n (pc := 0) hG dX4_findStep_0 rfl 0 rfl ?_
  refine V.getR (x := 471) (pc := 1) (ci := 6) (k := 1) (M := 6) (T := TX4) (o := 469) (kz := 1) hG a_469 a_469.n (by decide) hin_X4 rfl (by decide) (by decide) rfl kw_507 rfl ((hw).1 (469, 1, 471) (by decide)) (by decide) dX4_findStep_1 ?_
  refine V.iload_n (pc := 4) hG dX4_findStep_4 rfl 2 rfl ?_
  obtain ⟨g1, h⟩ := h
  refine V.iald (pc := 5) (z := 96) (o := 471) hG a_471 a_471.n hp2 g1 dX4_findStep_5 ?_
  refine V.istore (pc := 6) (lv' := [(5, .int (sJ (i 471 p2))), (0, .ref (sA Δ 469)), (1, .ref (sA Δ 168)), (2, .int (sJ p2)), (3, .int (sJ p3)), (4, .int (sJ p4))]) hG dX4_findStep_6 (by decide) rfl ?_
  refine V.iload (pc := 8) hG dX4_findStep_8 0 rfl ?_
  refine V.aload_n (pc := 10) hG dX4_findStep_10 rfl 1 rfl ?_
  refine V.getI (pc := 11) (ci := 6) (k := 5) (M := 6) (T := TX4) (o := 469) (kz := 5) hG a_469 a_469.n (by decide) hin_X4 rfl (by decide) (by decide) rfl kw_513 rfl dX4_findStep_11 ?_
  refine V.iadd (pc := 14) hG dX4_findStep_14 ?_
  refine V.iconst (pc := 15) hG dX4_findStep_15 ?_
  refine V.isub (pc := 16) hG dX4_findStep_16 ?_
  refine V.istore (pc := 17) (lv' := [(6, .int (sJ (wr (wr (i 471 p2 + i 469 5) - 1)))), (5, .int (sJ (i 471 p2))), (0, .ref (sA Δ 469)), (1, .ref (sA Δ 168)), (2, .int (sJ p2)), (3, .int (sJ p3)), (4, .int (sJ p4))]) hG dX4_findStep_17 (by decide) rfl ?_
  refine V.iconst (pc := 19) hG dX4_findStep_19 ?_
  refine V.istore (pc := 20) (lv' := [(7, .int (sJ 0)), (6, .int (sJ (wr (wr (i 471 p2 + i 469 5) - 1)))), (5, .int (sJ (i 471 p2))), (0, .ref (sA Δ 469)), (1, .ref (sA Δ 168)), (2, .int (sJ p2)), (3, .int (sJ p3)), (4, .int (sJ p4))]) hG dX4_findStep_20 (by decide) rfl ?_
  obtain ⟨n51, h⟩ := h
  have lp22 : ∀ (m22 : Nat) (x6_22 : Int) (x7_22 : Int), sR x6_22 → sR x7_22 → LoopP (b22_X4_findStep p2 p3 p4 (i 471 p2) i r Q) m22 (x6_22, x7_22) → V Γ Δ 542 false i r 0 0 Q0 22 [(0, .ref (sA Δ 469)), (1, .ref (sA Δ 168)), (2, .int (sJ p2)), (3, .int (sJ p3)), (4, .int (sJ p4)), (5, .int (sJ (i 471 p2))), (6, .int (sJ x6_22)), (7, .int (sJ x7_22))] [] := by
    intro m22
    induction m22 with
    | zero => intro x6_22 x7_22 hx6_22 hx7_22 h; exact h.elim
    | succ m22 ih22 =>
      intro x6_22 x7_22 hx6_22 hx7_22 h
      have h := LoopP_succ h
      have jn93 : ∀ (x6j93 : Int) (x7j93 : Int), sR x6j93 → sR x7j93 → s93_X4_findStep p2 p3 p4 (i 471 p2) x6j93 x7j93 i r Q (LoopP (b22_X4_findStep p2 p3 p4 (i 471 p2) i r Q) m22) → V Γ Δ 542 false i r 0 0 Q0 93 [(0, .ref (sA Δ 469)), (1, .ref (sA Δ 168)), (2, .int (sJ p2)), (3, .int (sJ p3)), (4, .int (sJ p4)), (5, .int (sJ (i 471 p2))), (6, .int (sJ x6j93)), (7, .int (sJ x7j93))] [] := by
        intro x6j93 x7j93 hx6j93 hx7j93 h
        refine V.iinc (pc := 93) (lv' := [(7, .int (sJ (wr (x7j93 + 1)))), (0, .ref (sA Δ 469)), (1, .ref (sA Δ 168)), (2, .int (sJ p2)), (3, .int (sJ p3)), (4, .int (sJ p4)), (5, .int (sJ (i 471 p2))), (6, .int (sJ x6j93))]) hG dX4_findStep_93 7 rfl (by decide) rfl ?_
        refine V.goto (pc := 96) (tgt := 22) hG dX4_findStep_96 (by decide) ?_
        refine V.pick [1, 2, 3, 4, 5, 6, 7, 0] rfl ?_
        exact ih22 x6j93 (wr (x7j93 + 1)) hx6j93 ((sR_wr _)) h
      refine V.iload (pc := 22) hG dX4_findStep_22 7 rfl ?_
      refine V.aload_n (pc := 24) hG dX4_findStep_24 rfl 1 rfl ?_
      refine V.getRN (x := 460) (pc := 25) (ci := 4) (k := 3) (M := 5) (T := TX2) (o := 168) (kz := 3) hG a_168 a_168.n (by decide) hin_X2 rfl (by decide) (by decide) rfl kw_452 rfl ((hw).1 (168, 3, 460) (by decide)) (by decide) dX4_findStep_25 ?_
      refine V.iload_n (pc := 28) hG dX4_findStep_28 rfl 2 rfl ?_
      obtain ⟨g52, h⟩ := h
      refine V.iald (pc := 29) (z := 96) (o := 460) hG a_460 a_460.n hp2 g52 dX4_findStep_29 ?_
      obtain ⟨t54, f55⟩ := h
      refine V.icmp_ge (pc := 30) (tgt := 99) hG hx7_22 ((hi _ _)) dX4_findStep_30 (by decide) (fun c53 => ?_) (fun c53 => ?_)
      · have h := t54 c53
        clear t54 f55
        refine V.iload (pc := 99) hG dX4_findStep_99 5 rfl ?_
        refine V.istore (pc := 101) (lv' := [(7, .int (sJ (i 471 p2))), (0, .ref (sA Δ 469)), (1, .ref (sA Δ 168)), (2, .int (sJ p2)), (3, .int (sJ p3)), (4, .int (sJ p4)), (5, .int (sJ (i 471 p2))), (6, .int (sJ x6_22))]) hG dX4_findStep_101 (by decide) rfl ?_
        obtain ⟨n56, h⟩ := h
        have lp103 : ∀ (m103 : Nat) (x7_103 : Int), sR x7_103 → LoopP (b103_X4_findStep p3 p4 x6_22 i r Q) m103 (x7_103) → V Γ Δ 542 false i r 0 0 Q0 103 [(0, .ref (sA Δ 469)), (3, .int (sJ p3)), (4, .int (sJ p4)), (6, .int (sJ x6_22)), (7, .int (sJ x7_103))] [] := by
          intro m103
          induction m103 with
          | zero => intro x7_103 hx7_103 h; exact h.elim
          | succ m103 ih103 =>
            intro x7_103 hx7_103 h
            have h := LoopP_succ h
            refine V.iload (pc := 103) hG dX4_findStep_103 4 rfl ?_
            refine V.iload (pc := 105) hG dX4_findStep_105 3 rfl ?_
            obtain ⟨t58, f59⟩ := h
            refine V.icmp_gt (pc := 107) (tgt := 137) hG hx7_103 hx6_22 dX4_findStep_107 (by decide) (fun c57 => ?_) (fun c57 => ?_)
            · have h := t58 c57
              clear t58 f59
              refine V.iconst (pc := 137) hG dX4_findStep_137 ?_
              exact fin dX4_findStep_138 ((sR_l rfl)) rfl hi hw ⟨rfl, rfl, h⟩
            · have h := f59 c57
              clear t58 f59
              refine V.aload_n (pc := 110) hG dX4_findStep_110 rfl 0 rfl ?_
              refine V.getR (x := 472) (pc := 111) (ci := 6) (k := 2) (M := 6) (T := TX4) (o := 469) (kz := 2) hG a_469 a_469.n (by decide) hin_X4 rfl (by decide) (by decide) rfl kw_508 rfl ((hw).1 (469, 2, 472) (by decide)) (by decide) dX4_findStep_111 ?_
              refine V.iload_n (pc := 114) hG dX4_findStep_114 rfl 1 rfl ?_
              obtain ⟨g60, h⟩ := h
              refine V.aald (pc := 115) 7 (z := 7) (o := 472) (x := p3) (y := 473 + p3) hG a_472 a_472.n (by decide) hp3 g60 (hw.2.1 (472, 7, 473) (by decide) _ g60.1 g60.2) (by omega) dX4_findStep_115 ?_
              refine V.aload_n (pc := 116) hG dX4_findStep_116 rfl 0 rfl ?_
              refine V.iload (pc := 117) hG dX4_findStep_117 4 rfl ?_
              refine V.callVi (pc := 119) (As := [.int (sJ x7_103)]) (stk := [.ref (sA Δ (473 + p3))]) hG (sm_X4_restOf l Δ hx7_103 hi hw h) mY_X4_restOf kw_1026 kw_1028 kw_70 a_469 (by decide) (q := (RX4, TX4, 6)) rfl rfl ⟨Nat.le_of_ble_eq_true rfl, Nat.le_of_ble_eq_true rfl, Nat.le_of_ble_eq_true rfl, Nat.le_of_ble_eq_true rfl⟩ rfl (Nat.le_of_ble_eq_true rfl) dX4_findStep_119 rfl (fun v61 i62 r63 hv64 hi65 hw66 hq67 => ?_)
              obtain ⟨e72, e73, h⟩ := hq67
              subst e72
              subst e73
              obtain ⟨g68, h⟩ := h
              refine V.iald (pc := 122) (z := 481) (o := 473 + p3) hG (row_472 g60) ((row_472 g60)).n hv64 g68 dX4_findStep_122 ?_
              refine V.iload (pc := 123) hG dX4_findStep_123 2 rfl ?_
              obtain ⟨t70, f71⟩ := h
              refine V.icmp_ge (pc := 125) (tgt := 131) hG ((hi _ _)) hp4 dX4_findStep_125 (by decide) (fun c69 => ?_) (fun c69 => ?_)
              · have h := t70 c69
                clear t70 f71
                refine V.iinc (pc := 131) (lv' := [(7, .int (sJ (wr (x7_103 + 1)))), (0, .ref (sA Δ 469)), (3, .int (sJ p3)), (4, .int (sJ p4)), (6, .int (sJ x6_22))]) hG dX4_findStep_131 4 rfl (by decide) rfl ?_
                refine V.goto (pc := 134) (tgt := 103) hG dX4_findStep_134 (by decide) ?_
                refine V.pick [1, 2, 3, 4, 0] rfl ?_
                exact ih103 (wr (x7_103 + 1)) ((sR_wr _)) h
              · have h := f71 c69
                clear t70 f71
                refine V.iload (pc := 128) hG dX4_findStep_128 4 rfl ?_
                exact fin dX4_findStep_130 hx7_103 rfl hi hw ⟨rfl, rfl, h⟩
        refine V.pick [1, 4, 5, 7, 0] rfl ?_
        exact lp103 n56 (i 471 p2) ((hi _ _)) h
      · have h := f55 c53
        clear t54 f55
        refine V.aload_n (pc := 33) hG dX4_findStep_33 rfl 1 rfl ?_
        refine V.getRN (x := 169) (pc := 34) (ci := 4) (k := 0) (M := 5) (T := TX2) (o := 168) (kz := 0) hG a_168 a_168.n (by decide) hin_X2 rfl (by decide) (by decide) rfl kw_442 rfl ((hw).1 (168, 0, 169) (by decide)) (by decide) dX4_findStep_34 ?_
        refine V.iload_n (pc := 37) hG dX4_findStep_37 rfl 2 rfl ?_
        obtain ⟨g74, h⟩ := h
        refine V.aald (pc := 38) 7 (z := 96) (o := 169) (x := p2) (y := 170 + p2) hG a_169 a_169.n (by decide) hp2 g74 (hw.2.1 (169, 96, 170) (by decide) _ g74.1 g74.2) (by omega) dX4_findStep_38 ?_
        refine V.iload (pc := 39) hG dX4_findStep_39 7 rfl ?_
        obtain ⟨g75, h⟩ := h
        refine V.iald (pc := 41) (z := 100) (o := 170 + p2) hG (row_169 g74) ((row_169 g74)).n hx7_22 g75 dX4_findStep_41 ?_
        refine V.istore (pc := 42) (lv' := [(8, .int (sJ (i (170 + p2) x7_22))), (0, .ref (sA Δ 469)), (1, .ref (sA Δ 168)), (2, .int (sJ p2)), (3, .int (sJ p3)), (4, .int (sJ p4)), (5, .int (sJ (i 471 p2))), (6, .int (sJ x6_22)), (7, .int (sJ x7_22))]) hG dX4_findStep_42 (by decide) rfl ?_
        refine V.iload (pc := 44) hG dX4_findStep_44 0 rfl ?_
        refine V.iload_n (pc := 46) hG dX4_findStep_46 rfl 3 rfl ?_
        obtain ⟨t77, f78⟩ := h
        refine V.icmp_ge (pc := 47) (tgt := 93) hG ((hi _ _)) hp2 dX4_findStep_47 (by decide) (fun c76 => ?_) (fun c76 => ?_)
        · have h := t77 c76
          clear t77 f78
          refine V.pick [1, 2, 3, 4, 5, 6, 7, 8] rfl ?_
          exact jn93 x6_22 x7_22 hx6_22 hx7_22 h
        · have h := f78 c76
          clear t77 f78
          refine V.aload_n (pc := 50) hG dX4_findStep_50 rfl 1 rfl ?_
          refine V.getR (x := 470) (pc := 51) (ci := 6) (k := 0) (M := 6) (T := TX4) (o := 469) (kz := 0) hG a_469 a_469.n (by decide) hin_X4 rfl (by decide) (by decide) rfl kw_504 rfl ((hw).1 (469, 0, 470) (by decide)) (by decide) dX4_findStep_51 ?_
          refine V.iload (pc := 54) hG dX4_findStep_54 0 rfl ?_
          obtain ⟨g79, h⟩ := h
          refine V.iald (pc := 56) (z := 96) (o := 470) hG a_470 a_470.n ((hi _ _)) g79 dX4_findStep_56 ?_
          refine V.aload_n (pc := 57) hG dX4_findStep_57 rfl 1 rfl ?_
          refine V.getI (pc := 58) (ci := 6) (k := 5) (M := 6) (T := TX4) (o := 469) (kz := 5) hG a_469 a_469.n (by decide) hin_X4 rfl (by decide) (by decide) rfl kw_513 rfl dX4_findStep_58 ?_
          refine V.aload_n (pc := 61) hG dX4_findStep_61 rfl 2 rfl ?_
          refine V.getRN (x := 266) (pc := 62) (ci := 4) (k := 1) (M := 5) (T := TX2) (o := 168) (kz := 1) hG a_168 a_168.n (by decide) hin_X2 rfl (by decide) (by decide) rfl kw_445 rfl ((hw).1 (168, 1, 266) (by decide)) (by decide) dX4_findStep_62 ?_
          refine V.iload_n (pc := 65) hG dX4_findStep_65 rfl 3 rfl ?_
          obtain ⟨g80, h⟩ := h
          refine V.aald (pc := 66) 7 (z := 96) (o := 266) (x := p2) (y := 267 + p2) hG a_266 a_266.n (by decide) hp2 g80 (hw.2.1 (266, 96, 267) (by decide) _ g80.1 g80.2) (by omega) dX4_findStep_66 ?_
          refine V.iload (pc := 67) hG dX4_findStep_67 8 rfl ?_
          obtain ⟨g81, h⟩ := h
          refine V.iald (pc := 69) (z := 100) (o := 267 + p2) hG (row_266 g80) ((row_266 g80)).n hx7_22 g81 dX4_findStep_69 ?_
          refine V.imul (pc := 70) hG dX4_findStep_70 ?_
          refine V.iadd (pc := 71) hG dX4_findStep_71 ?_
          refine V.istore (pc := 72) (lv' := [(9, .int (sJ (wr (i 470 (i (170 + p2) x7_22) + wr (i 469 5 * i (267 + p2) x7_22))))), (8, .int (sJ (i (170 + p2) x7_22))), (0, .ref (sA Δ 469)), (1, .ref (sA Δ 168)), (2, .int (sJ p2)), (3, .int (sJ p3)), (4, .int (sJ p4)), (5, .int (sJ (i 471 p2))), (6, .int (sJ x6_22)), (7, .int (sJ x7_22))]) hG dX4_findStep_72 (by decide) rfl ?_
          refine V.iload (pc := 74) hG dX4_findStep_74 8 rfl ?_
          refine V.iload (pc := 76) hG dX4_findStep_76 0 rfl ?_
          refine V.aload_n (pc := 78) hG dX4_findStep_78 rfl 3 rfl ?_
          refine V.getRN (x := 363) (pc := 79) (ci := 4) (k := 2) (M := 5) (T := TX2) (o := 168) (kz := 2) hG a_168 a_168.n (by decide) hin_X2 rfl (by decide) (by decide) rfl kw_448 rfl ((hw).1 (168, 2, 363) (by decide)) (by decide) dX4_findStep_79 ?_
          refine V.iload_n (pc := 82) hG dX4_findStep_82 rfl 4 rfl ?_
          obtain ⟨g82, h⟩ := h
          refine V.aald (pc := 83) 7 (z := 96) (o := 363) (x := p2) (y := 364 + p2) hG a_363 a_363.n (by decide) hp2 g82 (hw.2.1 (363, 96, 364) (by decide) _ g82.1 g82.2) (by omega) dX4_findStep_83 ?_
          refine V.iload (pc := 84) hG dX4_findStep_84 9 rfl ?_
          obtain ⟨g83, h⟩ := h
          refine V.iald (pc := 86) (z := 100) (o := 364 + p2) hG (row_363 g82) ((row_363 g82)).n hx7_22 g83 dX4_findStep_86 ?_
          refine V.isub (pc := 87) hG dX4_findStep_87 ?_
          refine V.mmin (pc := 88) hG hx6_22 ((sR_wr _)) kw_1025 kw_683 kw_173 kw_min ⟨Nat.le_of_ble_eq_true rfl, Nat.le_of_ble_eq_true rfl, Nat.le_of_ble_eq_true rfl, Nat.le_of_ble_eq_true rfl⟩ dX4_findStep_88 ?_
          refine V.istore (pc := 91) (lv' := [(6, .int (sJ (min x6_22 (wr (wr (i 470 (i (170 + p2) x7_22) + wr (i 469 5 * i (267 + p2) x7_22)) - i (364 + p2) x7_22))))), (9, .int (sJ (wr (i 470 (i (170 + p2) x7_22) + wr (i 469 5 * i (267 + p2) x7_22))))), (8, .int (sJ (i (170 + p2) x7_22))), (0, .ref (sA Δ 469)), (1, .ref (sA Δ 168)), (2, .int (sJ p2)), (3, .int (sJ p3)), (4, .int (sJ p4)), (5, .int (sJ (i 471 p2))), (7, .int (sJ x7_22))]) hG dX4_findStep_91 (by decide) rfl ?_
          refine V.pick [3, 4, 5, 6, 7, 8, 0, 9] rfl ?_
          exact jn93 (min x6_22 (wr (wr (i 470 (i (170 + p2) x7_22) + wr (i 469 5 * i (267 + p2) x7_22)) - i (364 + p2) x7_22))) x7_22 ((sR_min hx6_22 ((sR_wr _)))) hx7_22 h
  refine V.pick [3, 4, 5, 6, 7, 2, 1, 0] rfl ?_
  exact lp22 n51 (wr (wr (i 471 p2 + i 469 5) - 1)) 0 ((sR_wr _)) ((sR_l rfl)) h
set_option maxRecDepth 100000 in
set_option maxHeartbeats 4000000 in
theorem sm_X4_placeAt (l : Launch) (Δ : Wd) {i r : MI} {p2 : Int} {p3 : Int} {p4 : Int} (hp2 : sR p2) (hp3 : sR p3) (hp4 : sR p4) {Q : MI → Prop} (hi : okI i) (hw : Wf r) (h : wp_X4_placeAt p2 p3 p4 i r Q) : Met l yX4_placeAt (Cond.code yX4_placeAt cX4_placeAt 8 none :: gW) (sRm 2 44) (sPc Δ [.ref (sA Δ 469), .ref (sA Δ 168), .int (sJ p2), .int (sJ p3), .int (sJ p4)] i r) (sQv Δ (fun i' r' => r = r' ∧ Q i')) 0 0 (sFr Δ) := by
  refine Ct.v (by decide) rfl (Nat.le_of_ble_eq_true rfl) (fun Γ Q0 hG fin => ?_)
  have hG : okG Γ Δ l (sRm 2 44) cX4_placeAt "Schedulary$Pace" 8 := hG
  show V Γ Δ 542 false i r 0 0 Q0 0 [(0, .ref (sA Δ 469)), (1, .ref (sA Δ 168)), (2, .int (sJ p2)), (3, .int (sJ p3)), (4, .int (sJ p4))] []
  refine V.aload_n (pc := 0) hG dX4_placeAt_0 rfl 0 rfl ?_
  refine V.getR (x := 470) (pc := 1) (ci := 6) (k := 0) (M := 6) (T := TX4) (o := 469) (kz := 0) hG a_469 a_469.n (by decide) hin_X4 rfl (by decide) (by decide) rfl kw_504 rfl ((hw).1 (469, 0, 470) (by decide)) (by decide) dX4_placeAt_1 ?_
  refine V.iload_n (pc := 4) hG dX4_placeAt_4 rfl 2 rfl ?_
  refine V.iload (pc := 5) hG dX4_placeAt_5 4 rfl ?_
  obtain ⟨g1, h⟩ := h
  refine V.iast (pc := 7) (z := 96) (o := 470) hG a_470 a_470.n hp2 g1 dX4_placeAt_7 ?_
  refine V.aload_n (pc := 8) hG dX4_placeAt_8 rfl 0 rfl ?_
  refine V.getR (x := 472) (pc := 9) (ci := 6) (k := 2) (M := 6) (T := TX4) (o := 469) (kz := 2) hG a_469 a_469.n (by decide) hin_X4 rfl (by decide) (by decide) rfl kw_508 rfl ((hw).1 (469, 2, 472) (by decide)) (by decide) dX4_placeAt_9 ?_
  refine V.iload_n (pc := 12) hG dX4_placeAt_12 rfl 3 rfl ?_
  obtain ⟨g2, h⟩ := h
  refine V.aald (pc := 13) 7 (z := 7) (o := 472) (x := p3) (y := 473 + p3) hG a_472 a_472.n (by decide) hp3 g2 (hw.2.1 (472, 7, 473) (by decide) _ g2.1 g2.2) (by omega) dX4_placeAt_13 ?_
  refine V.aload_n (pc := 14) hG dX4_placeAt_14 rfl 0 rfl ?_
  refine V.iload (pc := 15) hG dX4_placeAt_15 4 rfl ?_
  refine V.callVi (pc := 17) (As := [.int (sJ p4)]) (stk := [.ref (sA Δ (473 + p3))]) hG (sm_X4_restOf l Δ hp4 ((okI_st hi hp4)) hw h) mY_X4_restOf kw_1026 kw_1028 kw_70 a_469 (by decide) (q := (RX4, TX4, 6)) rfl rfl ⟨Nat.le_of_ble_eq_true rfl, Nat.le_of_ble_eq_true rfl, Nat.le_of_ble_eq_true rfl, Nat.le_of_ble_eq_true rfl⟩ rfl (Nat.le_of_ble_eq_true rfl) dX4_placeAt_17 rfl (fun v3 i4 r5 hv6 hi7 hw8 hq9 => ?_)
  obtain ⟨e37, e38, h⟩ := hq9
  subst e37
  subst e38
  refine V.dup2 (pc := 20) hG dX4_placeAt_20 rfl rfl ?_
  obtain ⟨g10, h⟩ := h
  refine V.iald (pc := 21) (z := 481) (o := 473 + p3) hG (row_472 g2) ((row_472 g2)).n hv6 g10 dX4_placeAt_21 ?_
  refine V.iconst (pc := 22) hG dX4_placeAt_22 ?_
  refine V.iadd (pc := 23) hG dX4_placeAt_23 ?_
  obtain ⟨g11, h⟩ := h
  refine V.iast (pc := 24) (z := 481) (o := 473 + p3) hG (row_472 g2) ((row_472 g2)).n hv6 g11 dX4_placeAt_24 ?_
  refine V.iconst (pc := 25) hG dX4_placeAt_25 ?_
  refine V.istore (pc := 26) (lv' := [(5, .int (sJ 0)), (0, .ref (sA Δ 469)), (1, .ref (sA Δ 168)), (2, .int (sJ p2)), (3, .int (sJ p3)), (4, .int (sJ p4))]) hG dX4_placeAt_26 (by decide) rfl ?_
  obtain ⟨n24, h⟩ := h
  have lp28 : ∀ (m28 : Nat) (x5_28 : Int) (i_28 : MI), sR x5_28 → okI i_28 → LoopP (b28_X4_placeAt p2 p4 r Q) m28 (x5_28, i_28) → V Γ Δ 542 false i_28 r 0 0 Q0 28 [(0, .ref (sA Δ 469)), (1, .ref (sA Δ 168)), (2, .int (sJ p2)), (4, .int (sJ p4)), (5, .int (sJ x5_28))] [] := by
    intro m28
    induction m28 with
    | zero => intro x5_28 i_28 hx5_28 hi_28 h; exact h.elim
    | succ m28 ih28 =>
      intro x5_28 i_28 hx5_28 hi_28 h
      have h := LoopP_succ h
      refine V.iload (pc := 28) hG dX4_placeAt_28 4 rfl ?_
      refine V.aload_n (pc := 30) hG dX4_placeAt_30 rfl 1 rfl ?_
      refine V.getRN (x := 460) (pc := 31) (ci := 4) (k := 3) (M := 5) (T := TX2) (o := 168) (kz := 3) hG a_168 a_168.n (by decide) hin_X2 rfl (by decide) (by decide) rfl kw_452 rfl ((hw).1 (168, 3, 460) (by decide)) (by decide) dX4_placeAt_31 ?_
      refine V.iload_n (pc := 34) hG dX4_placeAt_34 rfl 2 rfl ?_
      obtain ⟨g25, h⟩ := h
      refine V.iald (pc := 35) (z := 96) (o := 460) hG a_460 a_460.n hp2 g25 dX4_placeAt_35 ?_
      obtain ⟨t27, f28⟩ := h
      refine V.icmp_ge (pc := 36) (tgt := 104) hG hx5_28 ((hi_28 _ _)) dX4_placeAt_36 (by decide) (fun c26 => ?_) (fun c26 => ?_)
      · have h := t27 c26
        clear t27 f28
        exact fin dX4_placeAt_104 hi_28 hw ⟨rfl, h⟩
      · have h := f28 c26
        clear t27 f28
        refine V.aload_n (pc := 39) hG dX4_placeAt_39 rfl 1 rfl ?_
        refine V.getRN (x := 169) (pc := 40) (ci := 4) (k := 0) (M := 5) (T := TX2) (o := 168) (kz := 0) hG a_168 a_168.n (by decide) hin_X2 rfl (by decide) (by decide) rfl kw_442 rfl ((hw).1 (168, 0, 169) (by decide)) (by decide) dX4_placeAt_40 ?_
        refine V.iload_n (pc := 43) hG dX4_placeAt_43 rfl 2 rfl ?_
        obtain ⟨g29, h⟩ := h
        refine V.aald (pc := 44) 7 (z := 96) (o := 169) (x := p2) (y := 170 + p2) hG a_169 a_169.n (by decide) hp2 g29 (hw.2.1 (169, 96, 170) (by decide) _ g29.1 g29.2) (by omega) dX4_placeAt_44 ?_
        refine V.iload (pc := 45) hG dX4_placeAt_45 4 rfl ?_
        obtain ⟨g30, h⟩ := h
        refine V.iald (pc := 47) (z := 100) (o := 170 + p2) hG (row_169 g29) ((row_169 g29)).n hx5_28 g30 dX4_placeAt_47 ?_
        refine V.istore (pc := 48) (lv' := [(6, .int (sJ (i_28 (170 + p2) x5_28))), (0, .ref (sA Δ 469)), (1, .ref (sA Δ 168)), (2, .int (sJ p2)), (4, .int (sJ p4)), (5, .int (sJ x5_28))]) hG dX4_placeAt_48 (by decide) rfl ?_
        refine V.iload (pc := 50) hG dX4_placeAt_50 4 rfl ?_
        refine V.aload_n (pc := 52) hG dX4_placeAt_52 rfl 2 rfl ?_
        refine V.getRN (x := 363) (pc := 53) (ci := 4) (k := 2) (M := 5) (T := TX2) (o := 168) (kz := 2) hG a_168 a_168.n (by decide) hin_X2 rfl (by decide) (by decide) rfl kw_448 rfl ((hw).1 (168, 2, 363) (by decide)) (by decide) dX4_placeAt_53 ?_
        refine V.iload_n (pc := 56) hG dX4_placeAt_56 rfl 3 rfl ?_
        obtain ⟨g31, h⟩ := h
        refine V.aald (pc := 57) 7 (z := 96) (o := 363) (x := p2) (y := 364 + p2) hG a_363 a_363.n (by decide) hp2 g31 (hw.2.1 (363, 96, 364) (by decide) _ g31.1 g31.2) (by omega) dX4_placeAt_57 ?_
        refine V.iload (pc := 58) hG dX4_placeAt_58 5 rfl ?_
        obtain ⟨g32, h⟩ := h
        refine V.iald (pc := 60) (z := 100) (o := 364 + p2) hG (row_363 g31) ((row_363 g31)).n hx5_28 g32 dX4_placeAt_60 ?_
        refine V.iadd (pc := 61) hG dX4_placeAt_61 ?_
        refine V.aload_n (pc := 62) hG dX4_placeAt_62 rfl 1 rfl ?_
        refine V.getI (pc := 63) (ci := 6) (k := 5) (M := 6) (T := TX4) (o := 469) (kz := 5) hG a_469 a_469.n (by decide) hin_X4 rfl (by decide) (by decide) rfl kw_513 rfl dX4_placeAt_63 ?_
        refine V.aload_n (pc := 66) hG dX4_placeAt_66 rfl 2 rfl ?_
        refine V.getRN (x := 266) (pc := 67) (ci := 4) (k := 1) (M := 5) (T := TX2) (o := 168) (kz := 1) hG a_168 a_168.n (by decide) hin_X2 rfl (by decide) (by decide) rfl kw_445 rfl ((hw).1 (168, 1, 266) (by decide)) (by decide) dX4_placeAt_67 ?_
        refine V.iload_n (pc := 70) hG dX4_placeAt_70 rfl 3 rfl ?_
        obtain ⟨g33, h⟩ := h
        refine V.aald (pc := 71) 7 (z := 96) (o := 266) (x := p2) (y := 267 + p2) hG a_266 a_266.n (by decide) hp2 g33 (hw.2.1 (266, 96, 267) (by decide) _ g33.1 g33.2) (by omega) dX4_placeAt_71 ?_
        refine V.iload (pc := 72) hG dX4_placeAt_72 5 rfl ?_
        obtain ⟨g34, h⟩ := h
        refine V.iald (pc := 74) (z := 100) (o := 267 + p2) hG (row_266 g33) ((row_266 g33)).n hx5_28 g34 dX4_placeAt_74 ?_
        refine V.imul (pc := 75) hG dX4_placeAt_75 ?_
        refine V.isub (pc := 76) hG dX4_placeAt_76 ?_
        refine V.istore (pc := 77) (lv' := [(7, .int (sJ (wr (wr (p4 + i_28 (364 + p2) x5_28) - wr (i_28 469 5 * i_28 (267 + p2) x5_28))))), (6, .int (sJ (i_28 (170 + p2) x5_28))), (0, .ref (sA Δ 469)), (1, .ref (sA Δ 168)), (2, .int (sJ p2)), (4, .int (sJ p4)), (5, .int (sJ x5_28))]) hG dX4_placeAt_77 (by decide) rfl ?_
        refine V.aload_n (pc := 79) hG dX4_placeAt_79 rfl 2 rfl ?_
        refine V.getR (x := 471) (pc := 80) (ci := 6) (k := 1) (M := 6) (T := TX4) (o := 469) (kz := 1) hG a_469 a_469.n (by decide) hin_X4 rfl (by decide) (by decide) rfl kw_507 rfl ((hw).1 (469, 1, 471) (by decide)) (by decide) dX4_placeAt_80 ?_
        refine V.iload (pc := 83) hG dX4_placeAt_83 1 rfl ?_
        refine V.aload_n (pc := 85) hG dX4_placeAt_85 rfl 2 rfl ?_
        refine V.getR (x := 471) (pc := 86) (ci := 6) (k := 1) (M := 6) (T := TX4) (o := 469) (kz := 1) hG a_469 a_469.n (by decide) hin_X4 rfl (by decide) (by decide) rfl kw_507 rfl ((hw).1 (469, 1, 471) (by decide)) (by decide) dX4_placeAt_86 ?_
        refine V.iload (pc := 89) hG dX4_placeAt_89 1 rfl ?_
        obtain ⟨g35, h⟩ := h
        refine V.iald (pc := 91) (z := 96) (o := 471) hG a_471 a_471.n ((hi_28 _ _)) g35 dX4_placeAt_91 ?_
        refine V.iload (pc := 92) hG dX4_placeAt_92 0 rfl ?_
        refine V.mmax (pc := 94) hG ((hi_28 _ _)) ((sR_wr _)) kw_1001 kw_680 kw_173 kw_max ⟨Nat.le_of_ble_eq_true rfl, Nat.le_of_ble_eq_true rfl, Nat.le_of_ble_eq_true rfl, Nat.le_of_ble_eq_true rfl⟩ dX4_placeAt_94 ?_
        obtain ⟨g36, h⟩ := h
        refine V.iast (pc := 97) (z := 96) (o := 471) hG a_471 a_471.n ((hi_28 _ _)) g36 dX4_placeAt_97 ?_
        refine V.iinc (pc := 98) (lv' := [(5, .int (sJ (wr (x5_28 + 1)))), (7, .int (sJ (wr (wr (p4 + i_28 (364 + p2) x5_28) - wr (i_28 469 5 * i_28 (267 + p2) x5_28))))), (6, .int (sJ (i_28 (170 + p2) x5_28))), (0, .ref (sA Δ 469)), (1, .ref (sA Δ 168)), (2, .int (sJ p2)), (4, .int (sJ p4))]) hG dX4_placeAt_98 6 rfl (by decide) rfl ?_
        refine V.goto (pc := 101) (tgt := 28) hG dX4_placeAt_101 (by decide) ?_
        refine V.pick [3, 4, 5, 6, 0] rfl ?_
        exact ih28 (wr (x5_28 + 1)) (st i_28 471 (i_28 (170 + p2) x5_28) (max (i_28 471 (i_28 (170 + p2) x5_28)) (wr (wr (p4 + i_28 (364 + p2) x5_28) - wr (i_28 469 5 * i_28 (267 + p2) x5_28))))) ((sR_wr _)) ((okI_st hi_28 ((sR_max ((hi_28 _ _)) ((sR_wr _)))))) h
  refine V.pick [1, 2, 3, 5, 0] rfl ?_
  exact lp28 n24 0 (st (st i 470 p2 p4) (473 + p3) v3 (wr ((st i 470 p2 p4) (473 + p3) v3 + 1))) ((sR_l rfl)) ((okI_st ((okI_st hi hp4)) ((sR_wr _)))) h
set_option maxRecDepth 100000 in
set_option maxHeartbeats 4000000 in
theorem sm_X4_placeAll (l : Launch) (Δ : Wd) {i r : MI}   {Q : Int → MI → Prop} (hi : okI i) (hw : Wf r) (h : wp_X4_placeAll  i r Q) : Met l yX4_placeAll (Cond.code yX4_placeAll cX4_placeAll 6 (some .boolean) :: gW) (sRm 3 73) (sPc Δ [.ref (sA Δ 469), .ref (sA Δ 67), .ref (sA Δ 168)] i r) (sQi Δ (fun x i' r' => r = r' ∧ Q x i')) 0 0 (sFr Δ) := by
  refine Ct.i (ty := .boolean) (by decide) rfl (Nat.le_of_ble_eq_true rfl) (fun Γ Q0 hG fin => ?_)
  have hG : okG Γ Δ l (sRm 3 73) cX4_placeAll "Schedulary$Pace" 6 := hG
  show V Γ Δ 542 false i r 0 0 Q0 0 [(0, .ref (sA Δ 469)), (1, .ref (sA Δ 67)), (2, .ref (sA Δ 168))] []
  refine V.iconst (pc := 0) hG dX4_placeAll_0 ?_
  refine V.istore_n (pc := 1) (lv' := [(3, .int (sJ 0)), (0, .ref (sA Δ 469)), (1, .ref (sA Δ 67)), (2, .ref (sA Δ 168))]) hG dX4_placeAll_1 rfl (by decide) rfl ?_
  obtain ⟨n110, h⟩ := h
  have lp2 : ∀ (m2 : Nat) (x3_2 : Int) (i_2 : MI), sR x3_2 → okI i_2 → LoopP (b2_X4_placeAll r Q) m2 (x3_2, i_2) → V Γ Δ 542 false i_2 r 0 0 Q0 2 [(0, .ref (sA Δ 469)), (1, .ref (sA Δ 67)), (2, .ref (sA Δ 168)), (3, .int (sJ x3_2))] [] := by
    intro m2
    induction m2 with
    | zero => intro x3_2 i_2 hx3_2 hi_2 h; exact h.elim
    | succ m2 ih2 =>
      intro x3_2 i_2 hx3_2 hi_2 h
      have h := LoopP_succ h
      have jn44 : ∀ (x3j44 : Int) (ij44 : MI), sR x3j44 → okI ij44 → s44_X4_placeAll x3j44 ij44 r Q (LoopP (b2_X4_placeAll r Q) m2) → V Γ Δ 542 false ij44 r 0 0 Q0 44 [(0, .ref (sA Δ 469)), (1, .ref (sA Δ 67)), (2, .ref (sA Δ 168)), (3, .int (sJ x3j44))] [] := by
        intro x3j44 ij44 hx3j44 hij44 h
        refine V.iinc (pc := 44) (lv' := [(3, .int (sJ (wr (x3j44 + 1)))), (0, .ref (sA Δ 469)), (1, .ref (sA Δ 67)), (2, .ref (sA Δ 168))]) hG dX4_placeAll_44 3 rfl (by decide) rfl ?_
        refine V.goto (pc := 47) (tgt := 2) hG dX4_placeAll_47 (by decide) ?_
        refine V.pick [1, 2, 3, 0] rfl ?_
        exact ih2 (wr (x3j44 + 1)) ij44 ((sR_wr _)) hij44 h
      refine V.iload_n (pc := 2) hG dX4_placeAll_2 rfl 3 rfl ?_
      refine V.bipush (pc := 3) hG dX4_placeAll_3 (by decide) ?_
      obtain ⟨t112, f113⟩ := h
      refine V.icmp_ge (pc := 5) (tgt := 50) hG hx3_2 ((sR_l rfl)) dX4_placeAll_5 (by decide) (fun c111 => ?_) (fun c111 => ?_)
      · have h := t112 c111
        clear t112 f113
        refine V.iconst (pc := 50) hG dX4_placeAll_50 ?_
        refine V.istore_n (pc := 51) (lv' := [(3, .int (sJ 0)), (0, .ref (sA Δ 469)), (1, .ref (sA Δ 67)), (2, .ref (sA Δ 168))]) hG dX4_placeAll_51 rfl (by decide) rfl ?_
        obtain ⟨n114, h⟩ := h
        have lp52 : ∀ (m52 : Nat) (x3_52 : Int) (i_52 : MI), sR x3_52 → okI i_52 → LoopP (b52_X4_placeAll r Q) m52 (x3_52, i_52) → V Γ Δ 542 false i_52 r 0 0 Q0 52 [(0, .ref (sA Δ 469)), (1, .ref (sA Δ 67)), (2, .ref (sA Δ 168)), (3, .int (sJ x3_52))] [] := by
          intro m52
          induction m52 with
          | zero => intro x3_52 i_52 hx3_52 hi_52 h; exact h.elim
          | succ m52 ih52 =>
            intro x3_52 i_52 hx3_52 hi_52 h
            have h := LoopP_succ h
            refine V.iload_n (pc := 52) hG dX4_placeAll_52 rfl 3 rfl ?_
            refine V.aload_n (pc := 53) hG dX4_placeAll_53 rfl 1 rfl ?_
            refine V.getIN (pc := 54) (ci := 2) (k := 4) (M := 5) (T := TX0) (o := 67) (kz := 4) hG a_67 a_67.n (by decide) hin_X0 rfl (by decide) (by decide) rfl kw_419 rfl dX4_placeAll_54 ?_
            obtain ⟨t116, f117⟩ := h
            refine V.icmp_ge (pc := 57) (tgt := 73) hG hx3_52 ((hi_52 _ _)) dX4_placeAll_57 (by decide) (fun c115 => ?_) (fun c115 => ?_)
            · have h := t116 c115
              clear t116 f117
              refine V.iconst (pc := 73) hG dX4_placeAll_73 ?_
              refine V.istore_n (pc := 74) (lv' := [(3, .int (sJ 0)), (0, .ref (sA Δ 469)), (1, .ref (sA Δ 67)), (2, .ref (sA Δ 168))]) hG dX4_placeAll_74 rfl (by decide) rfl ?_
              obtain ⟨n118, h⟩ := h
              have lp75 : ∀ (m75 : Nat) (x3_75 : Int) (i_75 : MI), sR x3_75 → okI i_75 → LoopP (b75_X4_placeAll r Q) m75 (x3_75, i_75) → V Γ Δ 542 false i_75 r 0 0 Q0 75 [(0, .ref (sA Δ 469)), (1, .ref (sA Δ 67)), (2, .ref (sA Δ 168)), (3, .int (sJ x3_75))] [] := by
                intro m75
                induction m75 with
                | zero => intro x3_75 i_75 hx3_75 hi_75 h; exact h.elim
                | succ m75 ih75 =>
                  intro x3_75 i_75 hx3_75 hi_75 h
                  have h := LoopP_succ h
                  refine V.iload_n (pc := 75) hG dX4_placeAll_75 rfl 3 rfl ?_
                  refine V.aload_n (pc := 76) hG dX4_placeAll_76 rfl 1 rfl ?_
                  refine V.getIN (pc := 77) (ci := 2) (k := 4) (M := 5) (T := TX0) (o := 67) (kz := 4) hG a_67 a_67.n (by decide) hin_X0 rfl (by decide) (by decide) rfl kw_419 rfl dX4_placeAll_77 ?_
                  obtain ⟨t120, f121⟩ := h
                  refine V.icmp_ge (pc := 80) (tgt := 135) hG hx3_75 ((hi_75 _ _)) dX4_placeAll_80 (by decide) (fun c119 => ?_) (fun c119 => ?_)
                  · have h := t120 c119
                    clear t120 f121
                    refine V.iconst (pc := 135) hG dX4_placeAll_135 ?_
                    exact fin dX4_placeAll_136 ((sR_l rfl)) (nar_z (by decide)) hi_75 hw ⟨rfl, h⟩
                  · have h := f121 c119
                    clear t120 f121
                    refine V.aload_n (pc := 83) hG dX4_placeAll_83 rfl 1 rfl ?_
                    refine V.getRN (x := 68) (pc := 84) (ci := 2) (k := 0) (M := 5) (T := TX0) (o := 67) (kz := 0) hG a_67 a_67.n (by decide) hin_X0 rfl (by decide) (by decide) rfl kw_405 rfl ((hw).1 (67, 0, 68) (by decide)) (by decide) dX4_placeAll_84 ?_
                    refine V.iload_n (pc := 87) hG dX4_placeAll_87 rfl 3 rfl ?_
                    obtain ⟨g122, h⟩ := h
                    refine V.aald (pc := 88) 6 (z := 96) (o := 68) (x := x3_75) (y := 72 + x3_75) hG a_68 a_68.n (by decide) hx3_75 g122 (hw.2.1 (68, 96, 72) (by decide) _ g122.1 g122.2) (by omega) dX4_placeAll_88 ?_
                    refine V.getIN (pc := 89) (ci := 5) (k := 3) (M := 13) (T := TX3) (o := 72 + x3_75) (kz := 3) hG (node_o g122.1 g122.2) ((node_o g122.1 g122.2)).n (by decide) hin_X3 rfl (by decide) (by decide) rfl kw_342 rfl dX4_placeAll_89 ?_
                    refine V.istore (pc := 92) (lv' := [(4, .int (sJ (i_75 (72 + x3_75) 3))), (0, .ref (sA Δ 469)), (1, .ref (sA Δ 67)), (2, .ref (sA Δ 168)), (3, .int (sJ x3_75))]) hG dX4_placeAll_92 (by decide) rfl ?_
                    refine V.aload_n (pc := 94) hG dX4_placeAll_94 rfl 1 rfl ?_
                    refine V.aload_n (pc := 95) hG dX4_placeAll_95 rfl 3 rfl ?_
                    refine V.iload_n (pc := 96) hG dX4_placeAll_96 rfl 4 rfl ?_
                    refine V.iload (pc := 97) hG dX4_placeAll_97 0 rfl ?_
                    refine V.aload_n (pc := 99) hG dX4_placeAll_99 rfl 2 rfl ?_
                    refine V.getRN (x := 69) (pc := 100) (ci := 2) (k := 1) (M := 5) (T := TX0) (o := 67) (kz := 1) hG a_67 a_67.n (by decide) hin_X0 rfl (by decide) (by decide) rfl kw_409 rfl ((hw).1 (67, 1, 69) (by decide)) (by decide) dX4_placeAll_100 ?_
                    refine V.iload (pc := 103) hG dX4_placeAll_103 0 rfl ?_
                    obtain ⟨g123, h⟩ := h
                    refine V.iald (pc := 105) (z := 7) (o := 69) hG a_69 a_69.n ((hi_75 _ _)) g123 dX4_placeAll_105 ?_
                    refine V.callVi (pc := 106) (As := [.ref (sA Δ 168), .int (sJ x3_75), .int (sJ (i_75 (72 + x3_75) 3)), .int (sJ (i_75 69 (i_75 (72 + x3_75) 3)))]) (stk := []) hG (sm_X4_findStep l Δ hx3_75 ((hi_75 _ _)) ((hi_75 _ _)) hi_75 hw h) mY_X4_findStep kw_1021 kw_1023 kw_69 a_469 (by decide) (q := (RX4, TX4, 6)) rfl rfl ⟨Nat.le_of_ble_eq_true rfl, Nat.le_of_ble_eq_true rfl, Nat.le_of_ble_eq_true rfl, Nat.le_of_ble_eq_true rfl⟩ rfl (Nat.le_of_ble_eq_true rfl) dX4_placeAll_106 rfl (fun v124 i125 r126 hv127 hi128 hw129 hq130 => ?_)
                    obtain ⟨e143, e144, h⟩ := hq130
                    subst e143
                    subst e144
                    refine V.istore (pc := 109) (lv' := [(5, .int (sJ v124)), (4, .int (sJ (i_75 (72 + x3_75) 3))), (0, .ref (sA Δ 469)), (1, .ref (sA Δ 67)), (2, .ref (sA Δ 168)), (3, .int (sJ x3_75))]) hG dX4_placeAll_109 (by decide) rfl ?_
                    refine V.iload (pc := 111) hG dX4_placeAll_111 0 rfl ?_
                    refine V.iconst (pc := 113) hG dX4_placeAll_113 ?_
                    obtain ⟨f133, t132⟩ := h
                    refine V.icmp_ne (pc := 114) (tgt := 119) hG hv127 ((sR_l rfl)) dX4_placeAll_114 (by decide) (fun c131 => ?_) (fun c131 => ?_)
                    · have h := t132 c131
                      clear t132 f133
                      refine V.aload_n (pc := 119) hG dX4_placeAll_119 rfl 2 rfl ?_
                      refine V.aload_n (pc := 120) hG dX4_placeAll_120 rfl 4 rfl ?_
                      refine V.iload_n (pc := 121) hG dX4_placeAll_121 rfl 5 rfl ?_
                      refine V.iload (pc := 122) hG dX4_placeAll_122 1 rfl ?_
                      refine V.iload (pc := 124) hG dX4_placeAll_124 0 rfl ?_
                      refine V.callVv (pc := 126) (As := [.ref (sA Δ 168), .int (sJ x3_75), .int (sJ (i_75 (72 + x3_75) 3)), .int (sJ v124)]) (stk := []) hG (sm_X4_placeAt l Δ hx3_75 ((hi_75 _ _)) hv127 hi_75 hw h) mY_X4_placeAt kw_1033 kw_1035 kw_71 a_469 (by decide) (q := (RX4, TX4, 6)) rfl rfl ⟨Nat.le_of_ble_eq_true rfl, Nat.le_of_ble_eq_true rfl, Nat.le_of_ble_eq_true rfl, Nat.le_of_ble_eq_true rfl⟩ rfl (Nat.le_of_ble_eq_true rfl) dX4_placeAll_126 rfl (fun i135 r136 hi138 hw139 hq140 => ?_)
                      obtain ⟨e142, h⟩ := hq140
                      subst e142
                      refine V.iinc (pc := 129) (lv' := [(3, .int (sJ (wr (x3_75 + 1)))), (5, .int (sJ v124)), (4, .int (sJ (i_75 (72 + x3_75) 3))), (0, .ref (sA Δ 469)), (1, .ref (sA Δ 67)), (2, .ref (sA Δ 168))]) hG dX4_placeAll_129 5 rfl (by decide) rfl ?_
                      refine V.goto (pc := 132) (tgt := 75) hG dX4_placeAll_132 (by decide) ?_
                      refine V.pick [3, 4, 5, 0] rfl ?_
                      exact ih75 (wr (x3_75 + 1)) i135 ((sR_wr _)) hi138 h
                    · have h := f133 c131
                      clear t132 f133
                      refine V.iconst (pc := 117) hG dX4_placeAll_117 ?_
                      exact fin dX4_placeAll_118 ((sR_l rfl)) (nar_z (by decide)) hi_75 hw ⟨rfl, h⟩
              refine V.pick [1, 2, 3, 0] rfl ?_
              exact lp75 n118 0 i_52 ((sR_l rfl)) hi_52 h
            · have h := f117 c115
              clear t116 f117
              refine V.aload_n (pc := 60) hG dX4_placeAll_60 rfl 0 rfl ?_
              refine V.getR (x := 471) (pc := 61) (ci := 6) (k := 1) (M := 6) (T := TX4) (o := 469) (kz := 1) hG a_469 a_469.n (by decide) hin_X4 rfl (by decide) (by decide) rfl kw_507 rfl ((hw).1 (469, 1, 471) (by decide)) (by decide) dX4_placeAll_61 ?_
              refine V.iload_n (pc := 64) hG dX4_placeAll_64 rfl 3 rfl ?_
              refine V.iconst (pc := 65) hG dX4_placeAll_65 ?_
              obtain ⟨g145, h⟩ := h
              refine V.iast (pc := 66) (z := 96) (o := 471) hG a_471 a_471.n hx3_52 g145 dX4_placeAll_66 ?_
              refine V.iinc (pc := 67) (lv' := [(3, .int (sJ (wr (x3_52 + 1)))), (0, .ref (sA Δ 469)), (1, .ref (sA Δ 67)), (2, .ref (sA Δ 168))]) hG dX4_placeAll_67 3 rfl (by decide) rfl ?_
              refine V.goto (pc := 70) (tgt := 52) hG dX4_placeAll_70 (by decide) ?_
              refine V.pick [1, 2, 3, 0] rfl ?_
              exact ih52 (wr (x3_52 + 1)) (st i_52 471 x3_52 0) ((sR_wr _)) ((okI_st hi_52 ((sR_l rfl)))) h
        refine V.pick [1, 2, 3, 0] rfl ?_
        exact lp52 n114 0 i_2 ((sR_l rfl)) hi_2 h
      · have h := f113 c111
        clear t112 f113
        refine V.iconst (pc := 8) hG dX4_placeAll_8 ?_
        refine V.istore (pc := 9) (lv' := [(4, .int (sJ 0)), (0, .ref (sA Δ 469)), (1, .ref (sA Δ 67)), (2, .ref (sA Δ 168)), (3, .int (sJ x3_2))]) hG dX4_placeAll_9 (by decide) rfl ?_
        obtain ⟨n146, h⟩ := h
        have lp11 : ∀ (m11 : Nat) (x4_11 : Int) (i_11 : MI), sR x4_11 → okI i_11 → LoopP (b11_X4_placeAll x3_2 r Q (LoopP (b2_X4_placeAll r Q) m2)) m11 (x4_11, i_11) → V Γ Δ 542 false i_11 r 0 0 Q0 11 [(0, .ref (sA Δ 469)), (1, .ref (sA Δ 67)), (2, .ref (sA Δ 168)), (3, .int (sJ x3_2)), (4, .int (sJ x4_11))] [] := by
          intro m11
          induction m11 with
          | zero => intro x4_11 i_11 hx4_11 hi_11 h; exact h.elim
          | succ m11 ih11 =>
            intro x4_11 i_11 hx4_11 hi_11 h
            have h := LoopP_succ h
            refine V.iload (pc := 11) hG dX4_placeAll_11 4 rfl ?_
            refine V.aload_n (pc := 13) hG dX4_placeAll_13 rfl 0 rfl ?_
            refine V.getI (pc := 14) (ci := 6) (k := 5) (M := 6) (T := TX4) (o := 469) (kz := 5) hG a_469 a_469.n (by decide) hin_X4 rfl (by decide) (by decide) rfl kw_513 rfl dX4_placeAll_14 ?_
            obtain ⟨t148, f149⟩ := h
            refine V.icmp_ge (pc := 17) (tgt := 44) hG hx4_11 ((hi_11 _ _)) dX4_placeAll_17 (by decide) (fun c147 => ?_) (fun c147 => ?_)
            · have h := t148 c147
              clear t148 f149
              refine V.pick [0, 1, 2, 3] rfl ?_
              exact jn44 x3_2 i_11 hx3_2 hi_11 h
            · have h := f149 c147
              clear t148 f149
              refine V.iload (pc := 20) hG dX4_placeAll_20 4 rfl ?_
              refine V.sipush (pc := 22) hG dX4_placeAll_22 (by decide) ?_
              obtain ⟨t151, f152⟩ := h
              refine V.icmp_ge (pc := 25) (tgt := 44) hG hx4_11 ((sR_l rfl)) dX4_placeAll_25 (by decide) (fun c150 => ?_) (fun c150 => ?_)
              · have h := t151 c150
                clear t151 f152
                refine V.pick [0, 1, 2, 3] rfl ?_
                exact jn44 x3_2 i_11 hx3_2 hi_11 h
              · have h := f152 c150
                clear t151 f152
                refine V.aload_n (pc := 28) hG dX4_placeAll_28 rfl 0 rfl ?_
                refine V.getR (x := 472) (pc := 29) (ci := 6) (k := 2) (M := 6) (T := TX4) (o := 469) (kz := 2) hG a_469 a_469.n (by decide) hin_X4 rfl (by decide) (by decide) rfl kw_508 rfl ((hw).1 (469, 2, 472) (by decide)) (by decide) dX4_placeAll_29 ?_
                refine V.iload_n (pc := 32) hG dX4_placeAll_32 rfl 3 rfl ?_
                obtain ⟨g153, h⟩ := h
                refine V.aald (pc := 33) 7 (z := 7) (o := 472) (x := x3_2) (y := 473 + x3_2) hG a_472 a_472.n (by decide) hx3_2 g153 (hw.2.1 (472, 7, 473) (by decide) _ g153.1 g153.2) (by omega) dX4_placeAll_33 ?_
                refine V.iload (pc := 34) hG dX4_placeAll_34 4 rfl ?_
                refine V.iconst (pc := 36) hG dX4_placeAll_36 ?_
                obtain ⟨g154, h⟩ := h
                refine V.iast (pc := 37) (z := 481) (o := 473 + x3_2) hG (row_472 g153) ((row_472 g153)).n hx4_11 g154 dX4_placeAll_37 ?_
                refine V.iinc (pc := 38) (lv' := [(4, .int (sJ (wr (x4_11 + 1)))), (0, .ref (sA Δ 469)), (1, .ref (sA Δ 67)), (2, .ref (sA Δ 168)), (3, .int (sJ x3_2))]) hG dX4_placeAll_38 4 rfl (by decide) rfl ?_
                refine V.goto (pc := 41) (tgt := 11) hG dX4_placeAll_41 (by decide) ?_
                refine V.pick [1, 2, 3, 4, 0] rfl ?_
                exact ih11 (wr (x4_11 + 1)) (st i_11 (473 + x3_2) x4_11 0) ((sR_wr _)) ((okI_st hi_11 ((sR_l rfl)))) h
        refine V.pick [1, 2, 3, 4, 0] rfl ?_
        exact lp11 n146 0 i_2 ((sR_l rfl)) hi_2 h
  refine V.pick [1, 2, 3, 0] rfl ?_
  exact lp2 n110 0 i ((sR_l rfl)) hi h
set_option maxRecDepth 100000 in
set_option maxHeartbeats 4000000 in
theorem sm_X4_find (l : Launch) (Δ : Wd) {i r : MI}   {Q : MI → Prop} (hi : okI i) (hw : Wf r) (h : wp_X4_find  i r Q) : Met l yX4_find (Cond.code yX4_find cX4_find 6 none :: gW) (sRm 4 98) (sPc Δ [.ref (sA Δ 469), .ref (sA Δ 67), .ref (sA Δ 168)] i r) (sQv Δ (fun i' r' => r = r' ∧ Q i')) 0 0 (sFr Δ) := by
  refine Ct.v (by decide) rfl (Nat.le_of_ble_eq_true rfl) (fun Γ Q0 hG fin => ?_)
  have hG : okG Γ Δ l (sRm 4 98) cX4_find "Schedulary$Pace" 6 := hG
  show V Γ Δ 542 false i r 0 0 Q0 0 [(0, .ref (sA Δ 469)), (1, .ref (sA Δ 67)), (2, .ref (sA Δ 168))] []
  have jn84 : ∀  (ij84 : MI), okI ij84 → s84_X4_find ij84 r Q → V Γ Δ 542 false ij84 r 0 0 Q0 84 [] [] := by
    intro ij84 hij84 h
    exact fin dX4_find_84 hij84 hw ⟨rfl, h⟩
  refine V.aload_n (pc := 0) hG dX4_find_0 rfl 0 rfl ?_
  refine V.aload_n (pc := 1) hG dX4_find_1 rfl 0 rfl ?_
  refine V.aload_n (pc := 2) hG dX4_find_2 rfl 1 rfl ?_
  refine V.aload_n (pc := 3) hG dX4_find_3 rfl 2 rfl ?_
  refine V.callVi (pc := 4) (As := [.ref (sA Δ 67), .ref (sA Δ 168)]) (stk := [.ref (sA Δ 469)]) hG (sm_X4_findByRings l Δ  hi hw h) mY_X4_findByRings kw_993 kw_995 kw_63 a_469 (by decide) (q := (RX4, TX4, 6)) rfl rfl ⟨Nat.le_of_ble_eq_true rfl, Nat.le_of_ble_eq_true rfl, Nat.le_of_ble_eq_true rfl, Nat.le_of_ble_eq_true rfl⟩ rfl (Nat.le_of_ble_eq_true rfl) dX4_find_4 rfl (fun v1 i2 r3 hv4 hi5 hw6 hq7 => ?_)
  obtain ⟨e67, h⟩ := hq7
  subst e67
  refine V.putI (pc := 7) (ci := 6) (k := 3) (M := 6) (T := TX4) (o := 469) (kz := 3) hG a_469 a_469.n (by decide) hin_X4 rfl (by decide) (by decide) rfl kw_509 rfl tyX4 tyX4_ok nmX4 rfl (ty := tyX4 3) (tyX4_ok 3 (by decide)) rfl rfl dX4_find_7 ?_
  refine V.aload_n (pc := 10) hG dX4_find_10 rfl 0 rfl ?_
  refine V.aload_n (pc := 11) hG dX4_find_11 rfl 1 rfl ?_
  refine V.callSi (pc := 12) (As := [.ref (sA Δ 67)]) (stk := [.ref (sA Δ 469)]) hG (sm_X4_findByUnits l Δ  ((okI_st hi5 hv4)) hw h) mY_X4_findByUnits kw_1010 kw_1011 rfl ⟨Nat.le_of_ble_eq_true rfl, Nat.le_of_ble_eq_true rfl, Nat.le_of_ble_eq_true rfl, Nat.le_of_ble_eq_true rfl⟩ rfl (Nat.le_of_ble_eq_true rfl) dX4_find_12 rfl (fun v8 i9 r10 hv11 hi12 hw13 hq14 => ?_)
  obtain ⟨e64, e65, h⟩ := hq14
  subst e64
  subst e65
  refine V.putI (pc := 15) (ci := 6) (k := 4) (M := 6) (T := TX4) (o := 469) (kz := 4) hG a_469 a_469.n (by decide) hin_X4 rfl (by decide) (by decide) rfl kw_511 rfl tyX4 tyX4_ok nmX4 rfl (ty := tyX4 4) (tyX4_ok 4 (by decide)) rfl rfl dX4_find_15 ?_
  refine V.aload_n (pc := 18) hG dX4_find_18 rfl 0 rfl ?_
  refine V.aload_n (pc := 19) hG dX4_find_19 rfl 0 rfl ?_
  refine V.getI (pc := 20) (ci := 6) (k := 3) (M := 6) (T := TX4) (o := 469) (kz := 3) hG a_469 a_469.n (by decide) hin_X4 rfl (by decide) (by decide) rfl kw_509 rfl dX4_find_20 ?_
  refine V.aload_n (pc := 23) hG dX4_find_23 rfl 0 rfl ?_
  refine V.getI (pc := 24) (ci := 6) (k := 4) (M := 6) (T := TX4) (o := 469) (kz := 4) hG a_469 a_469.n (by decide) hin_X4 rfl (by decide) (by decide) rfl kw_511 rfl dX4_find_24 ?_
  refine V.mmax (pc := 27) hG (((okI_st ((okI_st hi5 hv4)) hv11) _ _)) (((okI_st ((okI_st hi5 hv4)) hv11) _ _)) kw_1001 kw_680 kw_173 kw_max ⟨Nat.le_of_ble_eq_true rfl, Nat.le_of_ble_eq_true rfl, Nat.le_of_ble_eq_true rfl, Nat.le_of_ble_eq_true rfl⟩ dX4_find_27 ?_
  refine V.putI (pc := 30) (ci := 6) (k := 5) (M := 6) (T := TX4) (o := 469) (kz := 5) hG a_469 a_469.n (by decide) hin_X4 rfl (by decide) (by decide) rfl kw_513 rfl tyX4 tyX4_ok nmX4 rfl (ty := tyX4 5) (tyX4_ok 5 (by decide)) rfl rfl dX4_find_30 ?_
  refine V.aload_n (pc := 33) hG dX4_find_33 rfl 0 rfl ?_
  refine V.aload_n (pc := 34) hG dX4_find_34 rfl 1 rfl ?_
  refine V.aload_n (pc := 35) hG dX4_find_35 rfl 2 rfl ?_
  refine V.callVi (pc := 36) (As := [.ref (sA Δ 67), .ref (sA Δ 168)]) (stk := []) hG (sm_X4_placeAll l Δ  ((okI_st ((okI_st ((okI_st hi5 hv4)) hv11)) ((sR_max (((okI_st ((okI_st hi5 hv4)) hv11) _ _)) (((okI_st ((okI_st hi5 hv4)) hv11) _ _)))))) hw h) mY_X4_placeAll kw_1017 kw_1019 kw_68 a_469 (by decide) (q := (RX4, TX4, 6)) rfl rfl ⟨Nat.le_of_ble_eq_true rfl, Nat.le_of_ble_eq_true rfl, Nat.le_of_ble_eq_true rfl, Nat.le_of_ble_eq_true rfl⟩ rfl (Nat.le_of_ble_eq_true rfl) dX4_find_36 rfl (fun v15 i16 r17 hv18 hi19 hw20 hq21 => ?_)
  obtain ⟨e63, h⟩ := hq21
  subst e63
  refine V.istore_n (pc := 39) (lv' := [(3, .int (sJ v15)), (0, .ref (sA Δ 469)), (1, .ref (sA Δ 67)), (2, .ref (sA Δ 168))]) hG dX4_find_39 rfl (by decide) rfl ?_
  refine V.aload_n (pc := 40) hG dX4_find_40 rfl 2 rfl ?_
  refine V.callVNi (pc := 41) (As := []) (stk := []) hG (sm_X0_sumOfCycles l Δ  hi19 hw h) mY_X0_sumOfCycles kw_997 kw_999 kw_64 a_67 (by decide) (q := (RX0, TX0, 5)) rfl rfl ⟨Nat.le_of_ble_eq_true rfl, Nat.le_of_ble_eq_true rfl, Nat.le_of_ble_eq_true rfl, Nat.le_of_ble_eq_true rfl⟩ rfl (Nat.le_of_ble_eq_true rfl) dX4_find_41 rfl (fun v22 i23 r24 hv25 hi26 hw27 hq28 => ?_)
  obtain ⟨e60, e61, h⟩ := hq28
  subst e60
  subst e61
  refine V.istore (pc := 44) (lv' := [(4, .int (sJ v22)), (3, .int (sJ v15)), (0, .ref (sA Δ 469)), (1, .ref (sA Δ 67)), (2, .ref (sA Δ 168))]) hG dX4_find_44 (by decide) rfl ?_
  refine V.aload_n (pc := 46) hG dX4_find_46 rfl 2 rfl ?_
  refine V.getI (pc := 47) (ci := 6) (k := 5) (M := 6) (T := TX4) (o := 469) (kz := 5) hG a_469 a_469.n (by decide) hin_X4 rfl (by decide) (by decide) rfl kw_513 rfl dX4_find_47 ?_
  refine V.iconst (pc := 50) hG dX4_find_50 ?_
  refine V.iadd (pc := 51) hG dX4_find_51 ?_
  refine V.istore (pc := 52) (lv' := [(5, .int (sJ (wr (i16 469 5 + 1)))), (4, .int (sJ v22)), (3, .int (sJ v15)), (0, .ref (sA Δ 469)), (1, .ref (sA Δ 67)), (2, .ref (sA Δ 168))]) hG dX4_find_52 (by decide) rfl ?_
  obtain ⟨n44, h⟩ := h
  have lp54 : ∀ (m54 : Nat) (x3_54 : Int) (x5_54 : Int) (i_54 : MI), sR x3_54 → sR x5_54 → okI i_54 → LoopP (b54_X4_find v22 r Q) m54 (x3_54, x5_54, i_54) → V Γ Δ 542 false i_54 r 0 0 Q0 54 [(0, .ref (sA Δ 469)), (1, .ref (sA Δ 67)), (2, .ref (sA Δ 168)), (3, .int (sJ x3_54)), (4, .int (sJ v22)), (5, .int (sJ x5_54))] [] := by
    intro m54
    induction m54 with
    | zero => intro x3_54 x5_54 i_54 hx3_54 hx5_54 hi_54 h; exact h.elim
    | succ m54 ih54 =>
      intro x3_54 x5_54 i_54 hx3_54 hx5_54 hi_54 h
      have h := LoopP_succ h
      refine V.iload (pc := 54) hG dX4_find_54 5 rfl ?_
      refine V.iload (pc := 56) hG dX4_find_56 4 rfl ?_
      obtain ⟨t46, f47⟩ := h
      refine V.icmp_gt (pc := 58) (tgt := 84) hG hx5_54 hv25 dX4_find_58 (by decide) (fun c45 => ?_) (fun c45 => ?_)
      · have h := t46 c45
        clear t46 f47
        refine V.pick [] rfl ?_
        exact jn84 i_54 hi_54 h
      · have h := f47 c45
        clear t46 f47
        refine V.iload_n (pc := 61) hG dX4_find_61 rfl 3 rfl ?_
        obtain ⟨f50, t49⟩ := h
        refine V.if_ne (pc := 62) (tgt := 84) hG hx3_54 dX4_find_62 (by decide) (fun c48 => ?_) (fun c48 => ?_)
        · have h := t49 c48
          clear t49 f50
          refine V.pick [] rfl ?_
          exact jn84 i_54 hi_54 h
        · have h := f50 c48
          clear t49 f50
          refine V.aload_n (pc := 65) hG dX4_find_65 rfl 0 rfl ?_
          refine V.iload (pc := 66) hG dX4_find_66 5 rfl ?_
          refine V.putI (pc := 68) (ci := 6) (k := 5) (M := 6) (T := TX4) (o := 469) (kz := 5) hG a_469 a_469.n (by decide) hin_X4 rfl (by decide) (by decide) rfl kw_513 rfl tyX4 tyX4_ok nmX4 rfl (ty := tyX4 5) (tyX4_ok 5 (by decide)) rfl rfl dX4_find_68 ?_
          refine V.aload_n (pc := 71) hG dX4_find_71 rfl 0 rfl ?_
          refine V.aload_n (pc := 72) hG dX4_find_72 rfl 1 rfl ?_
          refine V.aload_n (pc := 73) hG dX4_find_73 rfl 2 rfl ?_
          refine V.callVi (pc := 74) (As := [.ref (sA Δ 67), .ref (sA Δ 168)]) (stk := []) hG (sm_X4_placeAll l Δ  ((okI_st hi_54 hx5_54)) hw h) mY_X4_placeAll kw_1017 kw_1019 kw_68 a_469 (by decide) (q := (RX4, TX4, 6)) rfl rfl ⟨Nat.le_of_ble_eq_true rfl, Nat.le_of_ble_eq_true rfl, Nat.le_of_ble_eq_true rfl, Nat.le_of_ble_eq_true rfl⟩ rfl (Nat.le_of_ble_eq_true rfl) dX4_find_74 rfl (fun v51 i52 r53 hv54 hi55 hw56 hq57 => ?_)
          obtain ⟨e59, h⟩ := hq57
          subst e59
          refine V.istore_n (pc := 77) (lv' := [(3, .int (sJ v51)), (0, .ref (sA Δ 469)), (1, .ref (sA Δ 67)), (2, .ref (sA Δ 168)), (4, .int (sJ v22)), (5, .int (sJ x5_54))]) hG dX4_find_77 rfl (by decide) rfl ?_
          refine V.iinc (pc := 78) (lv' := [(5, .int (sJ (wr (x5_54 + 1)))), (3, .int (sJ v51)), (0, .ref (sA Δ 469)), (1, .ref (sA Δ 67)), (2, .ref (sA Δ 168)), (4, .int (sJ v22))]) hG dX4_find_78 5 rfl (by decide) rfl ?_
          refine V.goto (pc := 81) (tgt := 54) hG dX4_find_81 (by decide) ?_
          refine V.pick [2, 3, 4, 1, 5, 0] rfl ?_
          exact ih54 v51 (wr (x5_54 + 1)) i52 hv54 ((sR_wr _)) hi55 h
  refine V.pick [3, 4, 5, 2, 1, 0] rfl ?_
  exact lp54 n44 v15 (wr (i16 469 5 + 1)) i16 hv18 ((sR_wr _)) hi19 h
set_option maxRecDepth 100000 in
set_option maxHeartbeats 4000000 in
theorem sm_X9_beginAt (l : Launch) (Δ : Wd) {i r : MI} {p3 : Int} {p4 : Int} (hp3 : sR p3) (hp4 : sR p4) {Q : MI → Prop} (hi : okI i) (hw : Wf r) (h : wp_X9_beginAt p3 p4 i r Q) : Met l yX9_beginAt (Cond.code yX9_beginAt cX9_beginAt 7 none :: gW) (sRm 1 15) (sPc Δ [.ref (sA Δ 461), .ref (sA Δ 67), .ref (sA Δ 168), .int (sJ p3), .int (sJ p4)] i r) (sQv Δ (fun i' r' => r = r' ∧ Q i')) 0 0 (sFr Δ) := by
  refine Ct.v (by decide) rfl (Nat.le_of_ble_eq_true rfl) (fun Γ Q0 hG fin => ?_)
  have hG : okG Γ Δ l (sRm 1 15) cX9_beginAt "Schedulary$Steps" 7 := hG
  show V Γ Δ 542 false i r 0 0 Q0 0 [(0, .ref (sA Δ 461)), (1, .ref (sA Δ 67)), (2, .ref (sA Δ 168)), (3, .int (sJ p3)), (4, .int (sJ p4))] []
  refine V.aload_n (pc := 0) hG dX9_beginAt_0 rfl 0 rfl ?_
  refine V.getR (x := 464) (pc := 1) (ci := 11) (k := 2) (M := 7) (T := TX9) (o := 461) (kz := 2) hG a_461 a_461.n (by decide) hin_X9 rfl (by decide) (by decide) rfl kw_476 rfl ((hw).1 (461, 2, 464) (by decide)) (by decide) dX9_beginAt_1 ?_
  refine V.iload_n (pc := 4) hG dX9_beginAt_4 rfl 3 rfl ?_
  refine V.iload (pc := 5) hG dX9_beginAt_5 4 rfl ?_
  obtain ⟨g1, h⟩ := h
  refine V.iast (pc := 7) (z := 96) (o := 464) hG a_464 a_464.n hp3 g1 dX9_beginAt_7 ?_
  refine V.aload_n (pc := 8) hG dX9_beginAt_8 rfl 0 rfl ?_
  refine V.getR (x := 467) (pc := 9) (ci := 11) (k := 5) (M := 7) (T := TX9) (o := 461) (kz := 5) hG a_461 a_461.n (by decide) hin_X9 rfl (by decide) (by decide) rfl kw_480 rfl ((hw).1 (461, 5, 467) (by decide)) (by decide) dX9_beginAt_9 ?_
  refine V.aload_n (pc := 12) hG dX9_beginAt_12 rfl 1 rfl ?_
  refine V.getRN (x := 68) (pc := 13) (ci := 2) (k := 0) (M := 5) (T := TX0) (o := 67) (kz := 0) hG a_67 a_67.n (by decide) hin_X0 rfl (by decide) (by decide) rfl kw_406 rfl ((hw).1 (67, 0, 68) (by decide)) (by decide) dX9_beginAt_13 ?_
  refine V.iload_n (pc := 16) hG dX9_beginAt_16 rfl 3 rfl ?_
  obtain ⟨g2, h⟩ := h
  refine V.aald (pc := 17) 6 (z := 96) (o := 68) (x := p3) (y := 72 + p3) hG a_68 a_68.n (by decide) hp3 g2 (hw.2.1 (68, 96, 72) (by decide) _ g2.1 g2.2) (by omega) dX9_beginAt_17 ?_
  refine V.getIN (pc := 18) (ci := 5) (k := 3) (M := 13) (T := TX3) (o := 72 + p3) (kz := 3) hG (node_o g2.1 g2.2) ((node_o g2.1 g2.2)).n (by decide) hin_X3 rfl (by decide) (by decide) rfl kw_343 rfl dX9_beginAt_18 ?_
  refine V.dup2 (pc := 21) hG dX9_beginAt_21 rfl rfl ?_
  obtain ⟨g3, h⟩ := h
  refine V.iald (pc := 22) (z := 7) (o := 467) hG a_467 a_467.n (((okI_st hi hp4) _ _)) g3 dX9_beginAt_22 ?_
  refine V.iconst (pc := 23) hG dX9_beginAt_23 ?_
  refine V.iadd (pc := 24) hG dX9_beginAt_24 ?_
  obtain ⟨g4, h⟩ := h
  refine V.iast (pc := 25) (z := 7) (o := 467) hG a_467 a_467.n (((okI_st hi hp4) _ _)) g4 dX9_beginAt_25 ?_
  refine V.iconst (pc := 26) hG dX9_beginAt_26 ?_
  refine V.istore (pc := 27) (lv' := [(5, .int (sJ 0)), (0, .ref (sA Δ 461)), (1, .ref (sA Δ 67)), (2, .ref (sA Δ 168)), (3, .int (sJ p3)), (4, .int (sJ p4))]) hG dX9_beginAt_27 (by decide) rfl ?_
  obtain ⟨n22, h⟩ := h
  have lp29 : ∀ (m29 : Nat) (x5_29 : Int) (i_29 : MI), sR x5_29 → okI i_29 → LoopP (b29_X9_beginAt p3 p4 r Q) m29 (x5_29, i_29) → V Γ Δ 542 false i_29 r 0 0 Q0 29 [(0, .ref (sA Δ 461)), (2, .ref (sA Δ 168)), (3, .int (sJ p3)), (4, .int (sJ p4)), (5, .int (sJ x5_29))] [] := by
    intro m29
    induction m29 with
    | zero => intro x5_29 i_29 hx5_29 hi_29 h; exact h.elim
    | succ m29 ih29 =>
      intro x5_29 i_29 hx5_29 hi_29 h
      have h := LoopP_succ h
      have jn103 : ∀ (x5j103 : Int) (ij103 : MI), sR x5j103 → okI ij103 → s103_X9_beginAt p3 p4 x5j103 ij103 r Q (LoopP (b29_X9_beginAt p3 p4 r Q) m29) → V Γ Δ 542 false ij103 r 0 0 Q0 103 [(0, .ref (sA Δ 461)), (2, .ref (sA Δ 168)), (3, .int (sJ p3)), (4, .int (sJ p4)), (5, .int (sJ x5j103))] [] := by
        intro x5j103 ij103 hx5j103 hij103 h
        refine V.iinc (pc := 103) (lv' := [(5, .int (sJ (wr (x5j103 + 1)))), (0, .ref (sA Δ 461)), (2, .ref (sA Δ 168)), (3, .int (sJ p3)), (4, .int (sJ p4))]) hG dX9_beginAt_103 4 rfl (by decide) rfl ?_
        refine V.goto (pc := 106) (tgt := 29) hG dX9_beginAt_106 (by decide) ?_
        refine V.pick [1, 2, 3, 4, 0] rfl ?_
        exact ih29 (wr (x5j103 + 1)) ij103 ((sR_wr _)) hij103 h
      refine V.iload (pc := 29) hG dX9_beginAt_29 4 rfl ?_
      refine V.aload_n (pc := 31) hG dX9_beginAt_31 rfl 1 rfl ?_
      refine V.getRN (x := 460) (pc := 32) (ci := 4) (k := 3) (M := 5) (T := TX2) (o := 168) (kz := 3) hG a_168 a_168.n (by decide) hin_X2 rfl (by decide) (by decide) rfl kw_451 rfl ((hw).1 (168, 3, 460) (by decide)) (by decide) dX9_beginAt_32 ?_
      refine V.iload_n (pc := 35) hG dX9_beginAt_35 rfl 2 rfl ?_
      obtain ⟨g23, h⟩ := h
      refine V.iald (pc := 36) (z := 96) (o := 460) hG a_460 a_460.n hp3 g23 dX9_beginAt_36 ?_
      obtain ⟨t25, f26⟩ := h
      refine V.icmp_ge (pc := 37) (tgt := 109) hG hx5_29 ((hi_29 _ _)) dX9_beginAt_37 (by decide) (fun c24 => ?_) (fun c24 => ?_)
      · have h := t25 c24
        clear t25 f26
        exact fin dX9_beginAt_109 hi_29 hw ⟨rfl, h⟩
      · have h := f26 c24
        clear t25 f26
        refine V.aload_n (pc := 40) hG dX9_beginAt_40 rfl 1 rfl ?_
        refine V.getRN (x := 266) (pc := 41) (ci := 4) (k := 1) (M := 5) (T := TX2) (o := 168) (kz := 1) hG a_168 a_168.n (by decide) hin_X2 rfl (by decide) (by decide) rfl kw_444 rfl ((hw).1 (168, 1, 266) (by decide)) (by decide) dX9_beginAt_41 ?_
        refine V.iload_n (pc := 44) hG dX9_beginAt_44 rfl 2 rfl ?_
        obtain ⟨g27, h⟩ := h
        refine V.aald (pc := 45) 7 (z := 96) (o := 266) (x := p3) (y := 267 + p3) hG a_266 a_266.n (by decide) hp3 g27 (hw.2.1 (266, 96, 267) (by decide) _ g27.1 g27.2) (by omega) dX9_beginAt_45 ?_
        refine V.iload (pc := 46) hG dX9_beginAt_46 4 rfl ?_
        obtain ⟨g28, h⟩ := h
        refine V.iald (pc := 48) (z := 100) (o := 267 + p3) hG (row_266 g27) ((row_266 g27)).n hx5_29 g28 dX9_beginAt_48 ?_
        obtain ⟨f31, t30⟩ := h
        refine V.if_ne (pc := 49) (tgt := 103) hG ((hi_29 _ _)) dX9_beginAt_49 (by decide) (fun c29 => ?_) (fun c29 => ?_)
        · have h := t30 c29
          clear t30 f31
          exact jn103 x5_29 i_29 hx5_29 hi_29 h
        · have h := f31 c29
          clear t30 f31
          refine V.aload_n (pc := 52) hG dX9_beginAt_52 rfl 1 rfl ?_
          refine V.getRN (x := 169) (pc := 53) (ci := 4) (k := 0) (M := 5) (T := TX2) (o := 168) (kz := 0) hG a_168 a_168.n (by decide) hin_X2 rfl (by decide) (by decide) rfl kw_441 rfl ((hw).1 (168, 0, 169) (by decide)) (by decide) dX9_beginAt_53 ?_
          refine V.iload_n (pc := 56) hG dX9_beginAt_56 rfl 2 rfl ?_
          obtain ⟨g32, h⟩ := h
          refine V.aald (pc := 57) 7 (z := 96) (o := 169) (x := p3) (y := 170 + p3) hG a_169 a_169.n (by decide) hp3 g32 (hw.2.1 (169, 96, 170) (by decide) _ g32.1 g32.2) (by omega) dX9_beginAt_57 ?_
          refine V.iload (pc := 58) hG dX9_beginAt_58 4 rfl ?_
          obtain ⟨g33, h⟩ := h
          refine V.iald (pc := 60) (z := 100) (o := 170 + p3) hG (row_169 g32) ((row_169 g32)).n hx5_29 g33 dX9_beginAt_60 ?_
          refine V.istore (pc := 61) (lv' := [(6, .int (sJ (i_29 (170 + p3) x5_29))), (0, .ref (sA Δ 461)), (2, .ref (sA Δ 168)), (3, .int (sJ p3)), (4, .int (sJ p4)), (5, .int (sJ x5_29))]) hG dX9_beginAt_61 (by decide) rfl ?_
          refine V.aload_n (pc := 63) hG dX9_beginAt_63 rfl 1 rfl ?_
          refine V.getR (x := 466) (pc := 64) (ci := 11) (k := 4) (M := 7) (T := TX9) (o := 461) (kz := 4) hG a_461 a_461.n (by decide) hin_X9 rfl (by decide) (by decide) rfl kw_479 rfl ((hw).1 (461, 4, 466) (by decide)) (by decide) dX9_beginAt_64 ?_
          refine V.iload (pc := 67) hG dX9_beginAt_67 0 rfl ?_
          refine V.dup2 (pc := 69) hG dX9_beginAt_69 rfl rfl ?_
          obtain ⟨g34, h⟩ := h
          refine V.iald (pc := 70) (z := 96) (o := 466) hG a_466 a_466.n ((hi_29 _ _)) g34 dX9_beginAt_70 ?_
          refine V.iconst (pc := 71) hG dX9_beginAt_71 ?_
          refine V.isub (pc := 72) hG dX9_beginAt_72 ?_
          obtain ⟨g35, h⟩ := h
          refine V.iast (pc := 73) (z := 96) (o := 466) hG a_466 a_466.n ((hi_29 _ _)) g35 dX9_beginAt_73 ?_
          refine V.aload_n (pc := 74) hG dX9_beginAt_74 rfl 1 rfl ?_
          refine V.getR (x := 465) (pc := 75) (ci := 11) (k := 3) (M := 7) (T := TX9) (o := 461) (kz := 3) hG a_461 a_461.n (by decide) hin_X9 rfl (by decide) (by decide) rfl kw_478 rfl ((hw).1 (461, 3, 465) (by decide)) (by decide) dX9_beginAt_75 ?_
          refine V.iload (pc := 78) hG dX9_beginAt_78 0 rfl ?_
          refine V.aload_n (pc := 80) hG dX9_beginAt_80 rfl 1 rfl ?_
          refine V.getR (x := 465) (pc := 81) (ci := 11) (k := 3) (M := 7) (T := TX9) (o := 461) (kz := 3) hG a_461 a_461.n (by decide) hin_X9 rfl (by decide) (by decide) rfl kw_478 rfl ((hw).1 (461, 3, 465) (by decide)) (by decide) dX9_beginAt_81 ?_
          refine V.iload (pc := 84) hG dX9_beginAt_84 0 rfl ?_
          obtain ⟨g36, h⟩ := h
          refine V.iald (pc := 86) (z := 96) (o := 465) hG a_465 a_465.n ((hi_29 _ _)) g36 dX9_beginAt_86 ?_
          refine V.iload (pc := 87) hG dX9_beginAt_87 4 rfl ?_
          refine V.aload_n (pc := 89) hG dX9_beginAt_89 rfl 2 rfl ?_
          refine V.getRN (x := 363) (pc := 90) (ci := 4) (k := 2) (M := 5) (T := TX2) (o := 168) (kz := 2) hG a_168 a_168.n (by decide) hin_X2 rfl (by decide) (by decide) rfl kw_447 rfl ((hw).1 (168, 2, 363) (by decide)) (by decide) dX9_beginAt_90 ?_
          refine V.iload_n (pc := 93) hG dX9_beginAt_93 rfl 3 rfl ?_
          obtain ⟨g37, h⟩ := h
          refine V.aald (pc := 94) 7 (z := 96) (o := 363) (x := p3) (y := 364 + p3) hG a_363 a_363.n (by decide) hp3 g37 (hw.2.1 (363, 96, 364) (by decide) _ g37.1 g37.2) (by omega) dX9_beginAt_94 ?_
          refine V.iload (pc := 95) hG dX9_beginAt_95 5 rfl ?_
          obtain ⟨g38, h⟩ := h
          refine V.iald (pc := 97) (z := 100) (o := 364 + p3) hG (row_363 g37) ((row_363 g37)).n hx5_29 g38 dX9_beginAt_97 ?_
          refine V.iadd (pc := 98) hG dX9_beginAt_98 ?_
          refine V.mmax (pc := 99) hG (((okI_st hi_29 ((sR_wr _))) _ _)) ((sR_wr _)) kw_956 kw_680 kw_173 kw_max ⟨Nat.le_of_ble_eq_true rfl, Nat.le_of_ble_eq_true rfl, Nat.le_of_ble_eq_true rfl, Nat.le_of_ble_eq_true rfl⟩ dX9_beginAt_99 ?_
          obtain ⟨g39, h⟩ := h
          refine V.iast (pc := 102) (z := 96) (o := 465) hG a_465 a_465.n ((hi_29 _ _)) g39 dX9_beginAt_102 ?_
          refine V.pick [1, 2, 3, 4, 5] rfl ?_
          exact jn103 x5_29 (st (st i_29 466 (i_29 (170 + p3) x5_29) (wr (i_29 466 (i_29 (170 + p3) x5_29) - 1))) 465 (i_29 (170 + p3) x5_29) (max ((st i_29 466 (i_29 (170 + p3) x5_29) (wr (i_29 466 (i_29 (170 + p3) x5_29) - 1))) 465 (i_29 (170 + p3) x5_29)) (wr (p4 + (st i_29 466 (i_29 (170 + p3) x5_29) (wr (i_29 466 (i_29 (170 + p3) x5_29) - 1))) (364 + p3) x5_29)))) hx5_29 ((okI_st ((okI_st hi_29 ((sR_wr _)))) ((sR_max (((okI_st hi_29 ((sR_wr _))) _ _)) ((sR_wr _)))))) h
  refine V.pick [1, 3, 4, 5, 0] rfl ?_
  exact lp29 n22 0 (st (st i 464 p3 p4) 467 ((st i 464 p3 p4) (72 + p3) 3) (wr ((st i 464 p3 p4) 467 ((st i 464 p3 p4) (72 + p3) 3) + 1))) ((sR_l rfl)) ((okI_st ((okI_st hi hp4)) ((sR_wr _)))) h
set_option maxRecDepth 100000 in
set_option maxHeartbeats 4000000 in
theorem sm_X9_chooseFor (l : Launch) (Δ : Wd) {i r : MI} {p2 : Int} (hp2 : sR p2) {Q : Int → Prop} (hi : okI i) (hw : Wf r) (h : wp_X9_chooseFor p2 i r Q) : Met l yX9_chooseFor (Cond.code yX9_chooseFor cX9_chooseFor 6 (some .int) :: gW) (sRm 0 0) (sPc Δ [.ref (sA Δ 461), .ref (sA Δ 67), .int (sJ p2)] i r) (sQi Δ (fun x i' r' => i = i' ∧ r = r' ∧ Q x)) 0 0 (sFr Δ) := by
  refine Ct.i (ty := .int) (by decide) rfl (Nat.le_of_ble_eq_true rfl) (fun Γ Q0 hG fin => ?_)
  have hG : okG Γ Δ l (sRm 0 0) cX9_chooseFor "Schedulary$Steps" 6 := hG
  show V Γ Δ 542 false i r 0 0 Q0 0 [(0, .ref (sA Δ 461)), (1, .ref (sA Δ 67)), (2, .int (sJ p2))] []
  refine V.iconst (pc := 0) hG dX9_chooseFor_0 ?_
  refine V.istore_n (pc := 1) (lv' := [(3, .int (sJ (-1))), (0, .ref (sA Δ 461)), (1, .ref (sA Δ 67)), (2, .int (sJ p2))]) hG dX9_chooseFor_1 rfl (by decide) rfl ?_
  refine V.iconst (pc := 2) hG dX9_chooseFor_2 ?_
  refine V.istore (pc := 3) (lv' := [(4, .int (sJ 0)), (3, .int (sJ (-1))), (0, .ref (sA Δ 461)), (1, .ref (sA Δ 67)), (2, .int (sJ p2))]) hG dX9_chooseFor_3 (by decide) rfl ?_
  obtain ⟨n30, h⟩ := h
  have lp5 : ∀ (m5 : Nat) (x3_5 : Int) (x4_5 : Int), sR x3_5 → sR x4_5 → LoopP (b5_X9_chooseFor p2 i r Q) m5 (x3_5, x4_5) → V Γ Δ 542 false i r 0 0 Q0 5 [(0, .ref (sA Δ 461)), (1, .ref (sA Δ 67)), (2, .int (sJ p2)), (3, .int (sJ x3_5)), (4, .int (sJ x4_5))] [] := by
    intro m5
    induction m5 with
    | zero => intro x3_5 x4_5 hx3_5 hx4_5 h; exact h.elim
    | succ m5 ih5 =>
      intro x3_5 x4_5 hx3_5 hx4_5 h
      have h := LoopP_succ h
      have jn99 : ∀ (x3j99 : Int) (x4j99 : Int), sR x3j99 → sR x4j99 → s99_X9_chooseFor p2 x3j99 x4j99 i r Q (LoopP (b5_X9_chooseFor p2 i r Q) m5) → V Γ Δ 542 false i r 0 0 Q0 99 [(0, .ref (sA Δ 461)), (1, .ref (sA Δ 67)), (2, .int (sJ p2)), (3, .int (sJ x3j99)), (4, .int (sJ x4j99))] [] := by
        intro x3j99 x4j99 hx3j99 hx4j99 h
        refine V.iinc (pc := 99) (lv' := [(4, .int (sJ (wr (x4j99 + 1)))), (0, .ref (sA Δ 461)), (1, .ref (sA Δ 67)), (2, .int (sJ p2)), (3, .int (sJ x3j99))]) hG dX9_chooseFor_99 4 rfl (by decide) rfl ?_
        refine V.goto (pc := 102) (tgt := 5) hG dX9_chooseFor_102 (by decide) ?_
        refine V.pick [1, 2, 3, 4, 0] rfl ?_
        exact ih5 x3j99 (wr (x4j99 + 1)) hx3j99 ((sR_wr _)) h
      have jn96 : ∀ (x4j96 : Int), sR x4j96 → s96_X9_chooseFor p2 x4j96 i r Q (LoopP (b5_X9_chooseFor p2 i r Q) m5) → V Γ Δ 542 false i r 0 0 Q0 96 [(0, .ref (sA Δ 461)), (1, .ref (sA Δ 67)), (2, .int (sJ p2)), (4, .int (sJ x4j96))] [] := by
        intro x4j96 hx4j96 h
        refine V.iload (pc := 96) hG dX9_chooseFor_96 3 rfl ?_
        refine V.istore_n (pc := 98) (lv' := [(3, .int (sJ x4j96)), (0, .ref (sA Δ 461)), (1, .ref (sA Δ 67)), (2, .int (sJ p2)), (4, .int (sJ x4j96))]) hG dX9_chooseFor_98 rfl (by decide) rfl ?_
        refine V.pick [1, 2, 3, 0, 4] rfl ?_
        exact jn99 x4j96 x4j96 hx4j96 hx4j96 h
      refine V.iload (pc := 5) hG dX9_chooseFor_5 4 rfl ?_
      refine V.aload_n (pc := 7) hG dX9_chooseFor_7 rfl 1 rfl ?_
      refine V.getIN (pc := 8) (ci := 2) (k := 4) (M := 5) (T := TX0) (o := 67) (kz := 4) hG a_67 a_67.n (by decide) hin_X0 rfl (by decide) (by decide) rfl kw_418 rfl dX9_chooseFor_8 ?_
      obtain ⟨t32, f33⟩ := h
      refine V.icmp_ge (pc := 11) (tgt := 105) hG hx4_5 ((hi _ _)) dX9_chooseFor_11 (by decide) (fun c31 => ?_) (fun c31 => ?_)
      · have h := t32 c31
        clear t32 f33
        refine V.iload_n (pc := 105) hG dX9_chooseFor_105 rfl 3 rfl ?_
        exact fin dX9_chooseFor_106 hx3_5 rfl hi hw ⟨rfl, rfl, h⟩
      · have h := f33 c31
        clear t32 f33
        refine V.aload_n (pc := 14) hG dX9_chooseFor_14 rfl 1 rfl ?_
        refine V.getRN (x := 68) (pc := 15) (ci := 2) (k := 0) (M := 5) (T := TX0) (o := 67) (kz := 0) hG a_67 a_67.n (by decide) hin_X0 rfl (by decide) (by decide) rfl kw_406 rfl ((hw).1 (67, 0, 68) (by decide)) (by decide) dX9_chooseFor_15 ?_
        refine V.iload (pc := 18) hG dX9_chooseFor_18 4 rfl ?_
        obtain ⟨g34, h⟩ := h
        refine V.aald (pc := 20) 6 (z := 96) (o := 68) (x := x4_5) (y := 72 + x4_5) hG a_68 a_68.n (by decide) hx4_5 g34 (hw.2.1 (68, 96, 72) (by decide) _ g34.1 g34.2) (by omega) dX9_chooseFor_20 ?_
        refine V.getIN (pc := 21) (ci := 5) (k := 3) (M := 13) (T := TX3) (o := 72 + x4_5) (kz := 3) hG (node_o g34.1 g34.2) ((node_o g34.1 g34.2)).n (by decide) hin_X3 rfl (by decide) (by decide) rfl kw_343 rfl dX9_chooseFor_21 ?_
        refine V.istore (pc := 24) (lv' := [(5, .int (sJ (i (72 + x4_5) 3))), (0, .ref (sA Δ 461)), (1, .ref (sA Δ 67)), (2, .int (sJ p2)), (3, .int (sJ x3_5)), (4, .int (sJ x4_5))]) hG dX9_chooseFor_24 (by decide) rfl ?_
        refine V.aload_n (pc := 26) hG dX9_chooseFor_26 rfl 1 rfl ?_
        refine V.getR (x := 464) (pc := 27) (ci := 11) (k := 2) (M := 7) (T := TX9) (o := 461) (kz := 2) hG a_461 a_461.n (by decide) hin_X9 rfl (by decide) (by decide) rfl kw_476 rfl ((hw).1 (461, 2, 464) (by decide)) (by decide) dX9_chooseFor_27 ?_
        refine V.iload (pc := 30) hG dX9_chooseFor_30 5 rfl ?_
        obtain ⟨g35, h⟩ := h
        refine V.iald (pc := 32) (z := 96) (o := 464) hG a_464 a_464.n hx4_5 g35 dX9_chooseFor_32 ?_
        refine V.iconst (pc := 33) hG dX9_chooseFor_33 ?_
        obtain ⟨f38, t37⟩ := h
        refine V.icmp_ne (pc := 34) (tgt := 99) hG ((hi _ _)) ((sR_l rfl)) dX9_chooseFor_34 (by decide) (fun c36 => ?_) (fun c36 => ?_)
        · have h := t37 c36
          clear t37 f38
          refine V.pick [1, 2, 3, 4, 5] rfl ?_
          exact jn99 x3_5 x4_5 hx3_5 hx4_5 h
        · have h := f38 c36
          clear t37 f38
          refine V.aload_n (pc := 37) hG dX9_chooseFor_37 rfl 1 rfl ?_
          refine V.getR (x := 466) (pc := 38) (ci := 11) (k := 4) (M := 7) (T := TX9) (o := 461) (kz := 4) hG a_461 a_461.n (by decide) hin_X9 rfl (by decide) (by decide) rfl kw_479 rfl ((hw).1 (461, 4, 466) (by decide)) (by decide) dX9_chooseFor_38 ?_
          refine V.iload (pc := 41) hG dX9_chooseFor_41 5 rfl ?_
          obtain ⟨g39, h⟩ := h
          refine V.iald (pc := 43) (z := 96) (o := 466) hG a_466 a_466.n hx4_5 g39 dX9_chooseFor_43 ?_
          obtain ⟨f42, t41⟩ := h
          refine V.if_ne (pc := 44) (tgt := 99) hG ((hi _ _)) dX9_chooseFor_44 (by decide) (fun c40 => ?_) (fun c40 => ?_)
          · have h := t41 c40
            clear t41 f42
            refine V.pick [1, 2, 3, 4, 5] rfl ?_
            exact jn99 x3_5 x4_5 hx3_5 hx4_5 h
          · have h := f42 c40
            clear t41 f42
            refine V.aload_n (pc := 47) hG dX9_chooseFor_47 rfl 1 rfl ?_
            refine V.getR (x := 465) (pc := 48) (ci := 11) (k := 3) (M := 7) (T := TX9) (o := 461) (kz := 3) hG a_461 a_461.n (by decide) hin_X9 rfl (by decide) (by decide) rfl kw_478 rfl ((hw).1 (461, 3, 465) (by decide)) (by decide) dX9_chooseFor_48 ?_
            refine V.iload (pc := 51) hG dX9_chooseFor_51 5 rfl ?_
            obtain ⟨g43, h⟩ := h
            refine V.iald (pc := 53) (z := 96) (o := 465) hG a_465 a_465.n hx4_5 g43 dX9_chooseFor_53 ?_
            refine V.iload_n (pc := 54) hG dX9_chooseFor_54 rfl 3 rfl ?_
            obtain ⟨t45, f46⟩ := h
            refine V.icmp_gt (pc := 55) (tgt := 99) hG ((hi _ _)) hp2 dX9_chooseFor_55 (by decide) (fun c44 => ?_) (fun c44 => ?_)
            · have h := t45 c44
              clear t45 f46
              refine V.pick [1, 2, 3, 4, 5] rfl ?_
              exact jn99 x3_5 x4_5 hx3_5 hx4_5 h
            · have h := f46 c44
              clear t45 f46
              refine V.aload_n (pc := 58) hG dX9_chooseFor_58 rfl 1 rfl ?_
              refine V.getR (x := 467) (pc := 59) (ci := 11) (k := 5) (M := 7) (T := TX9) (o := 461) (kz := 5) hG a_461 a_461.n (by decide) hin_X9 rfl (by decide) (by decide) rfl kw_480 rfl ((hw).1 (461, 5, 467) (by decide)) (by decide) dX9_chooseFor_59 ?_
              refine V.iload (pc := 62) hG dX9_chooseFor_62 0 rfl ?_
              obtain ⟨g47, h⟩ := h
              refine V.iald (pc := 64) (z := 7) (o := 467) hG a_467 a_467.n ((hi _ _)) g47 dX9_chooseFor_64 ?_
              refine V.aload_n (pc := 65) hG dX9_chooseFor_65 rfl 2 rfl ?_
              refine V.getRN (x := 69) (pc := 66) (ci := 2) (k := 1) (M := 5) (T := TX0) (o := 67) (kz := 1) hG a_67 a_67.n (by decide) hin_X0 rfl (by decide) (by decide) rfl kw_410 rfl ((hw).1 (67, 1, 69) (by decide)) (by decide) dX9_chooseFor_66 ?_
              refine V.iload (pc := 69) hG dX9_chooseFor_69 0 rfl ?_
              obtain ⟨g48, h⟩ := h
              refine V.iald (pc := 71) (z := 7) (o := 69) hG a_69 a_69.n ((hi _ _)) g48 dX9_chooseFor_71 ?_
              obtain ⟨t50, f51⟩ := h
              refine V.icmp_ge (pc := 72) (tgt := 99) hG ((hi _ _)) ((hi _ _)) dX9_chooseFor_72 (by decide) (fun c49 => ?_) (fun c49 => ?_)
              · have h := t50 c49
                clear t50 f51
                refine V.pick [1, 2, 3, 4, 5] rfl ?_
                exact jn99 x3_5 x4_5 hx3_5 hx4_5 h
              · have h := f51 c49
                clear t50 f51
                refine V.iload_n (pc := 75) hG dX9_chooseFor_75 rfl 4 rfl ?_
                refine V.iconst (pc := 76) hG dX9_chooseFor_76 ?_
                obtain ⟨t53, f54⟩ := h
                refine V.icmp_eq (pc := 77) (tgt := 96) hG hx3_5 ((sR_l rfl)) dX9_chooseFor_77 (by decide) (fun c52 => ?_) (fun c52 => ?_)
                · have h := t53 c52
                  clear t53 f54
                  refine V.pick [1, 2, 3, 5] rfl ?_
                  exact jn96 x4_5 hx4_5 h
                · have h := f54 c52
                  clear t53 f54
                  refine V.aload_n (pc := 80) hG dX9_chooseFor_80 rfl 1 rfl ?_
                  refine V.getR (x := 463) (pc := 81) (ci := 11) (k := 1) (M := 7) (T := TX9) (o := 461) (kz := 1) hG a_461 a_461.n (by decide) hin_X9 rfl (by decide) (by decide) rfl kw_474 rfl ((hw).1 (461, 1, 463) (by decide)) (by decide) dX9_chooseFor_81 ?_
                  refine V.iload (pc := 84) hG dX9_chooseFor_84 5 rfl ?_
                  obtain ⟨g55, h⟩ := h
                  refine V.iald (pc := 86) (z := 96) (o := 463) hG a_463 a_463.n hx4_5 g55 dX9_chooseFor_86 ?_
                  refine V.aload_n (pc := 87) hG dX9_chooseFor_87 rfl 1 rfl ?_
                  refine V.getR (x := 463) (pc := 88) (ci := 11) (k := 1) (M := 7) (T := TX9) (o := 461) (kz := 1) hG a_461 a_461.n (by decide) hin_X9 rfl (by decide) (by decide) rfl kw_474 rfl ((hw).1 (461, 1, 463) (by decide)) (by decide) dX9_chooseFor_88 ?_
                  refine V.iload_n (pc := 91) hG dX9_chooseFor_91 rfl 4 rfl ?_
                  obtain ⟨g56, h⟩ := h
                  refine V.iald (pc := 92) (z := 96) (o := 463) hG a_463 a_463.n hx3_5 g56 dX9_chooseFor_92 ?_
                  obtain ⟨t58, f59⟩ := h
                  refine V.icmp_ge (pc := 93) (tgt := 99) hG ((hi _ _)) ((hi _ _)) dX9_chooseFor_93 (by decide) (fun c57 => ?_) (fun c57 => ?_)
                  · have h := t58 c57
                    clear t58 f59
                    refine V.pick [1, 2, 3, 4, 5] rfl ?_
                    exact jn99 x3_5 x4_5 hx3_5 hx4_5 h
                  · have h := f59 c57
                    clear t58 f59
                    refine V.pick [1, 2, 3, 5] rfl ?_
                    exact jn96 x4_5 hx4_5 h
  refine V.pick [2, 3, 4, 1, 0] rfl ?_
  exact lp5 n30 (-1) 0 ((sR_l rfl)) ((sR_l rfl)) h
set_option maxRecDepth 100000 in
set_option maxHeartbeats 4000000 in
theorem sm_X9_beginAllAt (l : Launch) (Δ : Wd) {i r : MI} {p3 : Int} (hp3 : sR p3) {Q : Int → MI → Prop} (hi : okI i) (hw : Wf r) (h : wp_X9_beginAllAt p3 i r Q) : Met l yX9_beginAllAt (Cond.code yX9_beginAllAt cX9_beginAllAt 6 (some .int) :: gW) (sRm 2 41) (sPc Δ [.ref (sA Δ 461), .ref (sA Δ 67), .ref (sA Δ 168), .int (sJ p3)] i r) (sQi Δ (fun x i' r' => r = r' ∧ Q x i')) 0 0 (sFr Δ) := by
  refine Ct.i (ty := .int) (by decide) rfl (Nat.le_of_ble_eq_true rfl) (fun Γ Q0 hG fin => ?_)
  have hG : okG Γ Δ l (sRm 2 41) cX9_beginAllAt "Schedulary$Steps" 6 := hG
  show V Γ Δ 542 false i r 0 0 Q0 0 [(0, .ref (sA Δ 461)), (1, .ref (sA Δ 67)), (2, .ref (sA Δ 168)), (3, .int (sJ p3))] []
  refine V.iconst (pc := 0) hG dX9_beginAllAt_0 ?_
  refine V.istore (pc := 1) (lv' := [(4, .int (sJ 0)), (0, .ref (sA Δ 461)), (1, .ref (sA Δ 67)), (2, .ref (sA Δ 168)), (3, .int (sJ p3))]) hG dX9_beginAllAt_1 (by decide) rfl ?_
  obtain ⟨n54, h⟩ := h
  have lp3 : ∀ (m3 : Nat) (x4_3 : Int) (i_3 : MI), sR x4_3 → okI i_3 → LoopP (b3_X9_beginAllAt p3 r Q) m3 (x4_3, i_3) → V Γ Δ 542 false i_3 r 0 0 Q0 3 [(0, .ref (sA Δ 461)), (1, .ref (sA Δ 67)), (2, .ref (sA Δ 168)), (3, .int (sJ p3)), (4, .int (sJ x4_3))] [] := by
    intro m3
    induction m3 with
    | zero => intro x4_3 i_3 hx4_3 hi_3 h; exact h.elim
    | succ m3 ih3 =>
      intro x4_3 i_3 hx4_3 hi_3 h
      have h := LoopP_succ h
      refine V.iload (pc := 3) hG dX9_beginAllAt_3 4 rfl ?_
      refine V.bipush (pc := 5) hG dX9_beginAllAt_5 (by decide) ?_
      obtain ⟨t56, f57⟩ := h
      refine V.icmp_ge (pc := 7) (tgt := 24) hG hx4_3 ((sR_l rfl)) dX9_beginAllAt_7 (by decide) (fun c55 => ?_) (fun c55 => ?_)
      · have h := t56 c55
        clear t56 f57
        refine V.iconst (pc := 24) hG dX9_beginAllAt_24 ?_
        refine V.istore (pc := 25) (lv' := [(4, .int (sJ 0)), (0, .ref (sA Δ 461)), (1, .ref (sA Δ 67)), (2, .ref (sA Δ 168)), (3, .int (sJ p3))]) hG dX9_beginAllAt_25 (by decide) rfl ?_
        obtain ⟨n58, h⟩ := h
        have lp27 : ∀ (m27 : Nat) (x4_27 : Int) (i_27 : MI), sR x4_27 → okI i_27 → LoopP (b27_X9_beginAllAt p3 r Q) m27 (x4_27, i_27) → V Γ Δ 542 false i_27 r 0 0 Q0 27 [(0, .ref (sA Δ 461)), (1, .ref (sA Δ 67)), (2, .ref (sA Δ 168)), (3, .int (sJ p3)), (4, .int (sJ x4_27))] [] := by
          intro m27
          induction m27 with
          | zero => intro x4_27 i_27 hx4_27 hi_27 h; exact h.elim
          | succ m27 ih27 =>
            intro x4_27 i_27 hx4_27 hi_27 h
            have h := LoopP_succ h
            refine V.iload (pc := 27) hG dX9_beginAllAt_27 4 rfl ?_
            refine V.aload_n (pc := 29) hG dX9_beginAllAt_29 rfl 1 rfl ?_
            refine V.getIN (pc := 30) (ci := 2) (k := 4) (M := 5) (T := TX0) (o := 67) (kz := 4) hG a_67 a_67.n (by decide) hin_X0 rfl (by decide) (by decide) rfl kw_418 rfl dX9_beginAllAt_30 ?_
            obtain ⟨t60, f61⟩ := h
            refine V.icmp_ge (pc := 33) (tgt := 68) hG hx4_27 ((hi_27 _ _)) dX9_beginAllAt_33 (by decide) (fun c59 => ?_) (fun c59 => ?_)
            · have h := t60 c59
              clear t60 f61
              refine V.aload_n (pc := 68) hG dX9_beginAllAt_68 rfl 1 rfl ?_
              refine V.getIN (pc := 69) (ci := 2) (k := 4) (M := 5) (T := TX0) (o := 67) (kz := 4) hG a_67 a_67.n (by decide) hin_X0 rfl (by decide) (by decide) rfl kw_418 rfl dX9_beginAllAt_69 ?_
              exact fin dX9_beginAllAt_72 ((hi_27 _ _)) rfl hi_27 hw ⟨rfl, h⟩
            · have h := f61 c59
              clear t60 f61
              refine V.aload_n (pc := 36) hG dX9_beginAllAt_36 rfl 0 rfl ?_
              refine V.aload_n (pc := 37) hG dX9_beginAllAt_37 rfl 1 rfl ?_
              refine V.iload_n (pc := 38) hG dX9_beginAllAt_38 rfl 3 rfl ?_
              refine V.callVi (pc := 39) (As := [.ref (sA Δ 67), .int (sJ p3)]) (stk := []) hG (sm_X9_chooseFor l Δ hp3 hi_27 hw h) mY_X9_chooseFor kw_981 kw_983 kw_60 a_461 (by decide) (q := (RX9, TX9, 7)) rfl rfl ⟨Nat.le_of_ble_eq_true rfl, Nat.le_of_ble_eq_true rfl, Nat.le_of_ble_eq_true rfl, Nat.le_of_ble_eq_true rfl⟩ rfl (Nat.le_of_ble_eq_true rfl) dX9_beginAllAt_39 rfl (fun v62 i63 r64 hv65 hi66 hw67 hq68 => ?_)
              obtain ⟨e81, e82, h⟩ := hq68
              subst e81
              subst e82
              refine V.istore (pc := 42) (lv' := [(5, .int (sJ v62)), (0, .ref (sA Δ 461)), (1, .ref (sA Δ 67)), (2, .ref (sA Δ 168)), (3, .int (sJ p3)), (4, .int (sJ x4_27))]) hG dX9_beginAllAt_42 (by decide) rfl ?_
              refine V.iload (pc := 44) hG dX9_beginAllAt_44 0 rfl ?_
              refine V.iconst (pc := 46) hG dX9_beginAllAt_46 ?_
              obtain ⟨f71, t70⟩ := h
              refine V.icmp_ne (pc := 47) (tgt := 53) hG hv65 ((sR_l rfl)) dX9_beginAllAt_47 (by decide) (fun c69 => ?_) (fun c69 => ?_)
              · have h := t70 c69
                clear t70 f71
                refine V.aload_n (pc := 53) hG dX9_beginAllAt_53 rfl 1 rfl ?_
                refine V.aload_n (pc := 54) hG dX9_beginAllAt_54 rfl 2 rfl ?_
                refine V.aload_n (pc := 55) hG dX9_beginAllAt_55 rfl 3 rfl ?_
                refine V.iload (pc := 56) hG dX9_beginAllAt_56 0 rfl ?_
                refine V.iload_n (pc := 58) hG dX9_beginAllAt_58 rfl 4 rfl ?_
                refine V.callVv (pc := 59) (As := [.ref (sA Δ 67), .ref (sA Δ 168), .int (sJ v62), .int (sJ p3)]) (stk := []) hG (sm_X9_beginAt l Δ hv65 hp3 hi_27 hw h) mY_X9_beginAt kw_985 kw_987 kw_61 a_461 (by decide) (q := (RX9, TX9, 7)) rfl rfl ⟨Nat.le_of_ble_eq_true rfl, Nat.le_of_ble_eq_true rfl, Nat.le_of_ble_eq_true rfl, Nat.le_of_ble_eq_true rfl⟩ rfl (Nat.le_of_ble_eq_true rfl) dX9_beginAllAt_59 rfl (fun i73 r74 hi76 hw77 hq78 => ?_)
                obtain ⟨e80, h⟩ := hq78
                subst e80
                refine V.iinc (pc := 62) (lv' := [(4, .int (sJ (wr (x4_27 + 1)))), (5, .int (sJ v62)), (0, .ref (sA Δ 461)), (1, .ref (sA Δ 67)), (2, .ref (sA Δ 168)), (3, .int (sJ p3))]) hG dX9_beginAllAt_62 5 rfl (by decide) rfl ?_
                refine V.goto (pc := 65) (tgt := 27) hG dX9_beginAllAt_65 (by decide) ?_
                refine V.pick [2, 3, 4, 5, 0] rfl ?_
                exact ih27 (wr (x4_27 + 1)) i73 ((sR_wr _)) hi76 h
              · have h := f71 c69
                clear t70 f71
                refine V.iload (pc := 50) hG dX9_beginAllAt_50 5 rfl ?_
                exact fin dX9_beginAllAt_52 hx4_27 rfl hi_27 hw ⟨rfl, h⟩
        refine V.pick [1, 2, 3, 4, 0] rfl ?_
        exact lp27 n58 0 i_3 ((sR_l rfl)) hi_3 h
      · have h := f57 c55
        clear t56 f57
        refine V.aload_n (pc := 10) hG dX9_beginAllAt_10 rfl 0 rfl ?_
        refine V.getR (x := 467) (pc := 11) (ci := 11) (k := 5) (M := 7) (T := TX9) (o := 461) (kz := 5) hG a_461 a_461.n (by decide) hin_X9 rfl (by decide) (by decide) rfl kw_480 rfl ((hw).1 (461, 5, 467) (by decide)) (by decide) dX9_beginAllAt_11 ?_
        refine V.iload (pc := 14) hG dX9_beginAllAt_14 4 rfl ?_
        refine V.iconst (pc := 16) hG dX9_beginAllAt_16 ?_
        obtain ⟨g83, h⟩ := h
        refine V.iast (pc := 17) (z := 7) (o := 467) hG a_467 a_467.n hx4_3 g83 dX9_beginAllAt_17 ?_
        refine V.iinc (pc := 18) (lv' := [(4, .int (sJ (wr (x4_3 + 1)))), (0, .ref (sA Δ 461)), (1, .ref (sA Δ 67)), (2, .ref (sA Δ 168)), (3, .int (sJ p3))]) hG dX9_beginAllAt_18 4 rfl (by decide) rfl ?_
        refine V.goto (pc := 21) (tgt := 3) hG dX9_beginAllAt_21 (by decide) ?_
        refine V.pick [1, 2, 3, 4, 0] rfl ?_
        exact ih3 (wr (x4_3 + 1)) (st i_3 467 x4_3 0) ((sR_wr _)) ((okI_st hi_3 ((sR_l rfl)))) h
  refine V.pick [1, 2, 3, 4, 0] rfl ?_
  exact lp3 n54 0 i ((sR_l rfl)) hi h
set_option maxRecDepth 100000 in
set_option maxHeartbeats 4000000 in
theorem sm_X9_startLists (l : Launch) (Δ : Wd) {i r : MI}   {Q : MI → Prop} (hi : okI i) (hw : Wf r) (h : wp_X9_startLists  i r Q) : Met l yX9_startLists (Cond.code yX9_startLists cX9_startLists 5 none :: gW) (sRm 0 0) (sPc Δ [.ref (sA Δ 461), .ref (sA Δ 67), .ref (sA Δ 168)] i r) (sQv Δ (fun i' r' => r = r' ∧ Q i')) 0 0 (sFr Δ) := by
  refine Ct.v (by decide) rfl (Nat.le_of_ble_eq_true rfl) (fun Γ Q0 hG fin => ?_)
  have hG : okG Γ Δ l (sRm 0 0) cX9_startLists "Schedulary$Steps" 5 := hG
  show V Γ Δ 542 false i r 0 0 Q0 0 [(0, .ref (sA Δ 461)), (1, .ref (sA Δ 67)), (2, .ref (sA Δ 168))] []
  refine V.iconst (pc := 0) hG dX9_startLists_0 ?_
  refine V.istore_n (pc := 1) (lv' := [(3, .int (sJ 0)), (0, .ref (sA Δ 461)), (1, .ref (sA Δ 67)), (2, .ref (sA Δ 168))]) hG dX9_startLists_1 rfl (by decide) rfl ?_
  obtain ⟨n55, h⟩ := h
  have lp2 : ∀ (m2 : Nat) (x3_2 : Int) (i_2 : MI), sR x3_2 → okI i_2 → LoopP (b2_X9_startLists r Q) m2 (x3_2, i_2) → V Γ Δ 542 false i_2 r 0 0 Q0 2 [(0, .ref (sA Δ 461)), (1, .ref (sA Δ 67)), (2, .ref (sA Δ 168)), (3, .int (sJ x3_2))] [] := by
    intro m2
    induction m2 with
    | zero => intro x3_2 i_2 hx3_2 hi_2 h; exact h.elim
    | succ m2 ih2 =>
      intro x3_2 i_2 hx3_2 hi_2 h
      have h := LoopP_succ h
      refine V.iload_n (pc := 2) hG dX9_startLists_2 rfl 3 rfl ?_
      refine V.aload_n (pc := 3) hG dX9_startLists_3 rfl 1 rfl ?_
      refine V.getIN (pc := 4) (ci := 2) (k := 4) (M := 5) (T := TX0) (o := 67) (kz := 4) hG a_67 a_67.n (by decide) hin_X0 rfl (by decide) (by decide) rfl kw_418 rfl dX9_startLists_4 ?_
      obtain ⟨t57, f58⟩ := h
      refine V.icmp_ge (pc := 7) (tgt := 37) hG hx3_2 ((hi_2 _ _)) dX9_startLists_7 (by decide) (fun c56 => ?_) (fun c56 => ?_)
      · have h := t57 c56
        clear t57 f58
        refine V.iconst (pc := 37) hG dX9_startLists_37 ?_
        refine V.istore_n (pc := 38) (lv' := [(3, .int (sJ 0)), (0, .ref (sA Δ 461)), (1, .ref (sA Δ 67)), (2, .ref (sA Δ 168))]) hG dX9_startLists_38 rfl (by decide) rfl ?_
        obtain ⟨n59, h⟩ := h
        have lp39 : ∀ (m39 : Nat) (x3_39 : Int) (i_39 : MI), sR x3_39 → okI i_39 → LoopP (b39_X9_startLists r Q) m39 (x3_39, i_39) → V Γ Δ 542 false i_39 r 0 0 Q0 39 [(0, .ref (sA Δ 461)), (1, .ref (sA Δ 67)), (2, .ref (sA Δ 168)), (3, .int (sJ x3_39))] [] := by
          intro m39
          induction m39 with
          | zero => intro x3_39 i_39 hx3_39 hi_39 h; exact h.elim
          | succ m39 ih39 =>
            intro x3_39 i_39 hx3_39 hi_39 h
            have h := LoopP_succ h
            refine V.iload_n (pc := 39) hG dX9_startLists_39 rfl 3 rfl ?_
            refine V.aload_n (pc := 40) hG dX9_startLists_40 rfl 1 rfl ?_
            refine V.getIN (pc := 41) (ci := 2) (k := 4) (M := 5) (T := TX0) (o := 67) (kz := 4) hG a_67 a_67.n (by decide) hin_X0 rfl (by decide) (by decide) rfl kw_418 rfl dX9_startLists_41 ?_
            obtain ⟨t61, f62⟩ := h
            refine V.icmp_ge (pc := 44) (tgt := 103) hG hx3_39 ((hi_39 _ _)) dX9_startLists_44 (by decide) (fun c60 => ?_) (fun c60 => ?_)
            · have h := t61 c60
              clear t61 f62
              exact fin dX9_startLists_103 hi_39 hw ⟨rfl, h⟩
            · have h := f62 c60
              clear t61 f62
              refine V.iconst (pc := 47) hG dX9_startLists_47 ?_
              refine V.istore (pc := 48) (lv' := [(4, .int (sJ 0)), (0, .ref (sA Δ 461)), (1, .ref (sA Δ 67)), (2, .ref (sA Δ 168)), (3, .int (sJ x3_39))]) hG dX9_startLists_48 (by decide) rfl ?_
              obtain ⟨n63, h⟩ := h
              have lp50 : ∀ (m50 : Nat) (x4_50 : Int) (i_50 : MI), sR x4_50 → okI i_50 → LoopP (b50_X9_startLists x3_39 r Q (LoopP (b39_X9_startLists r Q) m39)) m50 (x4_50, i_50) → V Γ Δ 542 false i_50 r 0 0 Q0 50 [(0, .ref (sA Δ 461)), (1, .ref (sA Δ 67)), (2, .ref (sA Δ 168)), (3, .int (sJ x3_39)), (4, .int (sJ x4_50))] [] := by
                intro m50
                induction m50 with
                | zero => intro x4_50 i_50 hx4_50 hi_50 h; exact h.elim
                | succ m50 ih50 =>
                  intro x4_50 i_50 hx4_50 hi_50 h
                  have h := LoopP_succ h
                  have jn91 : ∀ (x4j91 : Int) (ij91 : MI), sR x4j91 → okI ij91 → s91_X9_startLists x3_39 x4j91 ij91 r Q (LoopP (b39_X9_startLists r Q) m39) (LoopP (b50_X9_startLists x3_39 r Q (LoopP (b39_X9_startLists r Q) m39)) m50) → V Γ Δ 542 false ij91 r 0 0 Q0 91 [(0, .ref (sA Δ 461)), (1, .ref (sA Δ 67)), (2, .ref (sA Δ 168)), (3, .int (sJ x3_39)), (4, .int (sJ x4j91))] [] := by
                    intro x4j91 ij91 hx4j91 hij91 h
                    refine V.iinc (pc := 91) (lv' := [(4, .int (sJ (wr (x4j91 + 1)))), (0, .ref (sA Δ 461)), (1, .ref (sA Δ 67)), (2, .ref (sA Δ 168)), (3, .int (sJ x3_39))]) hG dX9_startLists_91 4 rfl (by decide) rfl ?_
                    refine V.goto (pc := 94) (tgt := 50) hG dX9_startLists_94 (by decide) ?_
                    refine V.pick [1, 2, 3, 4, 0] rfl ?_
                    exact ih50 (wr (x4j91 + 1)) ij91 ((sR_wr _)) hij91 h
                  refine V.iload (pc := 50) hG dX9_startLists_50 4 rfl ?_
                  refine V.aload_n (pc := 52) hG dX9_startLists_52 rfl 2 rfl ?_
                  refine V.getRN (x := 460) (pc := 53) (ci := 4) (k := 3) (M := 5) (T := TX2) (o := 168) (kz := 3) hG a_168 a_168.n (by decide) hin_X2 rfl (by decide) (by decide) rfl kw_451 rfl ((hw).1 (168, 3, 460) (by decide)) (by decide) dX9_startLists_53 ?_
                  refine V.iload_n (pc := 56) hG dX9_startLists_56 rfl 3 rfl ?_
                  obtain ⟨g64, h⟩ := h
                  refine V.iald (pc := 57) (z := 96) (o := 460) hG a_460 a_460.n hx3_39 g64 dX9_startLists_57 ?_
                  obtain ⟨t66, f67⟩ := h
                  refine V.icmp_ge (pc := 58) (tgt := 97) hG hx4_50 ((hi_50 _ _)) dX9_startLists_58 (by decide) (fun c65 => ?_) (fun c65 => ?_)
                  · have h := t66 c65
                    clear t66 f67
                    refine V.iinc (pc := 97) (lv' := [(3, .int (sJ (wr (x3_39 + 1)))), (0, .ref (sA Δ 461)), (1, .ref (sA Δ 67)), (2, .ref (sA Δ 168)), (4, .int (sJ x4_50))]) hG dX9_startLists_97 3 rfl (by decide) rfl ?_
                    refine V.goto (pc := 100) (tgt := 39) hG dX9_startLists_100 (by decide) ?_
                    refine V.pick [1, 2, 3, 0] rfl ?_
                    exact ih39 (wr (x3_39 + 1)) i_50 ((sR_wr _)) hi_50 h
                  · have h := f67 c65
                    clear t66 f67
                    refine V.aload_n (pc := 61) hG dX9_startLists_61 rfl 2 rfl ?_
                    refine V.getRN (x := 266) (pc := 62) (ci := 4) (k := 1) (M := 5) (T := TX2) (o := 168) (kz := 1) hG a_168 a_168.n (by decide) hin_X2 rfl (by decide) (by decide) rfl kw_444 rfl ((hw).1 (168, 1, 266) (by decide)) (by decide) dX9_startLists_62 ?_
                    refine V.iload_n (pc := 65) hG dX9_startLists_65 rfl 3 rfl ?_
                    obtain ⟨g68, h⟩ := h
                    refine V.aald (pc := 66) 7 (z := 96) (o := 266) (x := x3_39) (y := 267 + x3_39) hG a_266 a_266.n (by decide) hx3_39 g68 (hw.2.1 (266, 96, 267) (by decide) _ g68.1 g68.2) (by omega) dX9_startLists_66 ?_
                    refine V.iload (pc := 67) hG dX9_startLists_67 4 rfl ?_
                    obtain ⟨g69, h⟩ := h
                    refine V.iald (pc := 69) (z := 100) (o := 267 + x3_39) hG (row_266 g68) ((row_266 g68)).n hx4_50 g69 dX9_startLists_69 ?_
                    obtain ⟨f72, t71⟩ := h
                    refine V.if_ne (pc := 70) (tgt := 91) hG ((hi_50 _ _)) dX9_startLists_70 (by decide) (fun c70 => ?_) (fun c70 => ?_)
                    · have h := t71 c70
                      clear t71 f72
                      exact jn91 x4_50 i_50 hx4_50 hi_50 h
                    · have h := f72 c70
                      clear t71 f72
                      refine V.aload_n (pc := 73) hG dX9_startLists_73 rfl 0 rfl ?_
                      refine V.getR (x := 466) (pc := 74) (ci := 11) (k := 4) (M := 7) (T := TX9) (o := 461) (kz := 4) hG a_461 a_461.n (by decide) hin_X9 rfl (by decide) (by decide) rfl kw_479 rfl ((hw).1 (461, 4, 466) (by decide)) (by decide) dX9_startLists_74 ?_
                      refine V.aload_n (pc := 77) hG dX9_startLists_77 rfl 2 rfl ?_
                      refine V.getRN (x := 169) (pc := 78) (ci := 4) (k := 0) (M := 5) (T := TX2) (o := 168) (kz := 0) hG a_168 a_168.n (by decide) hin_X2 rfl (by decide) (by decide) rfl kw_441 rfl ((hw).1 (168, 0, 169) (by decide)) (by decide) dX9_startLists_78 ?_
                      refine V.iload_n (pc := 81) hG dX9_startLists_81 rfl 3 rfl ?_
                      obtain ⟨g73, h⟩ := h
                      refine V.aald (pc := 82) 7 (z := 96) (o := 169) (x := x3_39) (y := 170 + x3_39) hG a_169 a_169.n (by decide) hx3_39 g73 (hw.2.1 (169, 96, 170) (by decide) _ g73.1 g73.2) (by omega) dX9_startLists_82 ?_
                      refine V.iload (pc := 83) hG dX9_startLists_83 4 rfl ?_
                      obtain ⟨g74, h⟩ := h
                      refine V.iald (pc := 85) (z := 100) (o := 170 + x3_39) hG (row_169 g73) ((row_169 g73)).n hx4_50 g74 dX9_startLists_85 ?_
                      refine V.dup2 (pc := 86) hG dX9_startLists_86 rfl rfl ?_
                      obtain ⟨g75, h⟩ := h
                      refine V.iald (pc := 87) (z := 96) (o := 466) hG a_466 a_466.n ((hi_50 _ _)) g75 dX9_startLists_87 ?_
                      refine V.iconst (pc := 88) hG dX9_startLists_88 ?_
                      refine V.iadd (pc := 89) hG dX9_startLists_89 ?_
                      obtain ⟨g76, h⟩ := h
                      refine V.iast (pc := 90) (z := 96) (o := 466) hG a_466 a_466.n ((hi_50 _ _)) g76 dX9_startLists_90 ?_
                      exact jn91 x4_50 (st i_50 466 (i_50 (170 + x3_39) x4_50) (wr (i_50 466 (i_50 (170 + x3_39) x4_50) + 1))) hx4_50 ((okI_st hi_50 ((sR_wr _)))) h
              refine V.pick [1, 2, 3, 4, 0] rfl ?_
              exact lp50 n63 0 i_39 ((sR_l rfl)) hi_39 h
        refine V.pick [1, 2, 3, 0] rfl ?_
        exact lp39 n59 0 i_2 ((sR_l rfl)) hi_2 h
      · have h := f58 c56
        clear t57 f58
        refine V.aload_n (pc := 10) hG dX9_startLists_10 rfl 0 rfl ?_
        refine V.getR (x := 464) (pc := 11) (ci := 11) (k := 2) (M := 7) (T := TX9) (o := 461) (kz := 2) hG a_461 a_461.n (by decide) hin_X9 rfl (by decide) (by decide) rfl kw_476 rfl ((hw).1 (461, 2, 464) (by decide)) (by decide) dX9_startLists_11 ?_
        refine V.iload_n (pc := 14) hG dX9_startLists_14 rfl 3 rfl ?_
        refine V.iconst (pc := 15) hG dX9_startLists_15 ?_
        obtain ⟨g77, h⟩ := h
        refine V.iast (pc := 16) (z := 96) (o := 464) hG a_464 a_464.n hx3_2 g77 dX9_startLists_16 ?_
        refine V.aload_n (pc := 17) hG dX9_startLists_17 rfl 0 rfl ?_
        refine V.getR (x := 465) (pc := 18) (ci := 11) (k := 3) (M := 7) (T := TX9) (o := 461) (kz := 3) hG a_461 a_461.n (by decide) hin_X9 rfl (by decide) (by decide) rfl kw_478 rfl ((hw).1 (461, 3, 465) (by decide)) (by decide) dX9_startLists_18 ?_
        refine V.iload_n (pc := 21) hG dX9_startLists_21 rfl 3 rfl ?_
        refine V.iconst (pc := 22) hG dX9_startLists_22 ?_
        obtain ⟨g78, h⟩ := h
        refine V.iast (pc := 23) (z := 96) (o := 465) hG a_465 a_465.n hx3_2 g78 dX9_startLists_23 ?_
        refine V.aload_n (pc := 24) hG dX9_startLists_24 rfl 0 rfl ?_
        refine V.getR (x := 466) (pc := 25) (ci := 11) (k := 4) (M := 7) (T := TX9) (o := 461) (kz := 4) hG a_461 a_461.n (by decide) hin_X9 rfl (by decide) (by decide) rfl kw_479 rfl ((hw).1 (461, 4, 466) (by decide)) (by decide) dX9_startLists_25 ?_
        refine V.iload_n (pc := 28) hG dX9_startLists_28 rfl 3 rfl ?_
        refine V.iconst (pc := 29) hG dX9_startLists_29 ?_
        obtain ⟨g79, h⟩ := h
        refine V.iast (pc := 30) (z := 96) (o := 466) hG a_466 a_466.n hx3_2 g79 dX9_startLists_30 ?_
        refine V.iinc (pc := 31) (lv' := [(3, .int (sJ (wr (x3_2 + 1)))), (0, .ref (sA Δ 461)), (1, .ref (sA Δ 67)), (2, .ref (sA Δ 168))]) hG dX9_startLists_31 3 rfl (by decide) rfl ?_
        refine V.goto (pc := 34) (tgt := 2) hG dX9_startLists_34 (by decide) ?_
        refine V.pick [1, 2, 3, 0] rfl ?_
        exact ih2 (wr (x3_2 + 1)) (st (st (st i_2 464 x3_2 (-1)) 465 x3_2 0) 466 x3_2 0) ((sR_wr _)) ((okI_st ((okI_st ((okI_st hi_2 ((sR_l rfl)))) ((sR_l rfl)))) ((sR_l rfl)))) h
  refine V.pick [1, 2, 3, 0] rfl ?_
  exact lp2 n55 0 i ((sR_l rfl)) hi h
set_option maxRecDepth 100000 in
set_option maxHeartbeats 4000000 in
theorem sm_X9_orderByLists (l : Launch) (Δ : Wd) {i r : MI}   {Q : MI → Prop} (hi : okI i) (hw : Wf r) (h : wp_X9_orderByLists  i r Q) : Met l yX9_orderByLists (Cond.code yX9_orderByLists cX9_orderByLists 5 none :: gW) (sRm 3 66) (sPc Δ [.ref (sA Δ 461), .ref (sA Δ 67), .ref (sA Δ 168)] i r) (sQv Δ (fun i' r' => r = r' ∧ Q i')) 0 0 (sFr Δ) := by
  refine Ct.v (by decide) rfl (Nat.le_of_ble_eq_true rfl) (fun Γ Q0 hG fin => ?_)
  have hG : okG Γ Δ l (sRm 3 66) cX9_orderByLists "Schedulary$Steps" 5 := hG
  show V Γ Δ 542 false i r 0 0 Q0 0 [(0, .ref (sA Δ 461)), (1, .ref (sA Δ 67)), (2, .ref (sA Δ 168))] []
  have jn43 : ∀  (ij43 : MI), okI ij43 → s43_X9_orderByLists ij43 r Q → V Γ Δ 542 false ij43 r 0 0 Q0 43 [] [] := by
    intro ij43 hij43 h
    exact fin dX9_orderByLists_43 hij43 hw ⟨rfl, h⟩
  refine V.aload_n (pc := 0) hG dX9_orderByLists_0 rfl 0 rfl ?_
  refine V.aload_n (pc := 1) hG dX9_orderByLists_1 rfl 1 rfl ?_
  refine V.aload_n (pc := 2) hG dX9_orderByLists_2 rfl 2 rfl ?_
  refine V.callVv (pc := 3) (As := [.ref (sA Δ 67), .ref (sA Δ 168)]) (stk := []) hG (sm_X9_startLists l Δ  hi hw h) mY_X9_startLists kw_973 kw_975 kw_58 a_461 (by decide) (q := (RX9, TX9, 7)) rfl rfl ⟨Nat.le_of_ble_eq_true rfl, Nat.le_of_ble_eq_true rfl, Nat.le_of_ble_eq_true rfl, Nat.le_of_ble_eq_true rfl⟩ rfl (Nat.le_of_ble_eq_true rfl) dX9_orderByLists_3 rfl (fun i2 r3 hi5 hw6 hq7 => ?_)
  obtain ⟨e40, h⟩ := hq7
  subst e40
  refine V.aload_n (pc := 6) hG dX9_orderByLists_6 rfl 1 rfl ?_
  refine V.getIN (pc := 7) (ci := 2) (k := 4) (M := 5) (T := TX0) (o := 67) (kz := 4) hG a_67 a_67.n (by decide) hin_X0 rfl (by decide) (by decide) rfl kw_418 rfl dX9_orderByLists_7 ?_
  refine V.istore_n (pc := 10) (lv' := [(3, .int (sJ (i2 67 4))), (0, .ref (sA Δ 461)), (1, .ref (sA Δ 67)), (2, .ref (sA Δ 168))]) hG dX9_orderByLists_10 rfl (by decide) rfl ?_
  refine V.iconst (pc := 11) hG dX9_orderByLists_11 ?_
  refine V.istore (pc := 12) (lv' := [(4, .int (sJ 0)), (3, .int (sJ (i2 67 4))), (0, .ref (sA Δ 461)), (1, .ref (sA Δ 67)), (2, .ref (sA Δ 168))]) hG dX9_orderByLists_12 (by decide) rfl ?_
  obtain ⟨n23, h⟩ := h
  have lp14 : ∀ (m14 : Nat) (x3_14 : Int) (x4_14 : Int) (i_14 : MI), sR x3_14 → sR x4_14 → okI i_14 → LoopP (b14_X9_orderByLists r Q) m14 (x3_14, x4_14, i_14) → V Γ Δ 542 false i_14 r 0 0 Q0 14 [(0, .ref (sA Δ 461)), (1, .ref (sA Δ 67)), (2, .ref (sA Δ 168)), (3, .int (sJ x3_14)), (4, .int (sJ x4_14))] [] := by
    intro m14
    induction m14 with
    | zero => intro x3_14 x4_14 i_14 hx3_14 hx4_14 hi_14 h; exact h.elim
    | succ m14 ih14 =>
      intro x3_14 x4_14 i_14 hx3_14 hx4_14 hi_14 h
      have h := LoopP_succ h
      refine V.iload (pc := 14) hG dX9_orderByLists_14 4 rfl ?_
      refine V.sipush (pc := 16) hG dX9_orderByLists_16 (by decide) ?_
      obtain ⟨t25, f26⟩ := h
      refine V.icmp_ge (pc := 19) (tgt := 43) hG hx4_14 ((sR_l rfl)) dX9_orderByLists_19 (by decide) (fun c24 => ?_) (fun c24 => ?_)
      · have h := t25 c24
        clear t25 f26
        refine V.pick [] rfl ?_
        exact jn43 i_14 hi_14 h
      · have h := f26 c24
        clear t25 f26
        refine V.iload_n (pc := 22) hG dX9_orderByLists_22 rfl 3 rfl ?_
        obtain ⟨t28, f29⟩ := h
        refine V.if_le (pc := 23) (tgt := 43) hG hx3_14 dX9_orderByLists_23 (by decide) (fun c27 => ?_) (fun c27 => ?_)
        · have h := t28 c27
          clear t28 f29
          refine V.pick [] rfl ?_
          exact jn43 i_14 hi_14 h
        · have h := f29 c27
          clear t28 f29
          refine V.iload_n (pc := 26) hG dX9_orderByLists_26 rfl 3 rfl ?_
          refine V.aload_n (pc := 27) hG dX9_orderByLists_27 rfl 0 rfl ?_
          refine V.aload_n (pc := 28) hG dX9_orderByLists_28 rfl 1 rfl ?_
          refine V.aload_n (pc := 29) hG dX9_orderByLists_29 rfl 2 rfl ?_
          refine V.iload (pc := 30) hG dX9_orderByLists_30 4 rfl ?_
          refine V.callVi (pc := 32) (As := [.ref (sA Δ 67), .ref (sA Δ 168), .int (sJ x4_14)]) (stk := [.int (sJ x3_14)]) hG (sm_X9_beginAllAt l Δ hx4_14 hi_14 hw h) mY_X9_beginAllAt kw_977 kw_979 kw_59 a_461 (by decide) (q := (RX9, TX9, 7)) rfl rfl ⟨Nat.le_of_ble_eq_true rfl, Nat.le_of_ble_eq_true rfl, Nat.le_of_ble_eq_true rfl, Nat.le_of_ble_eq_true rfl⟩ rfl (Nat.le_of_ble_eq_true rfl) dX9_orderByLists_32 rfl (fun v30 i31 r32 hv33 hi34 hw35 hq36 => ?_)
          obtain ⟨e38, h⟩ := hq36
          subst e38
          refine V.isub (pc := 35) hG dX9_orderByLists_35 ?_
          refine V.istore_n (pc := 36) (lv' := [(3, .int (sJ (wr (x3_14 - v30)))), (0, .ref (sA Δ 461)), (1, .ref (sA Δ 67)), (2, .ref (sA Δ 168)), (4, .int (sJ x4_14))]) hG dX9_orderByLists_36 rfl (by decide) rfl ?_
          refine V.iinc (pc := 37) (lv' := [(4, .int (sJ (wr (x4_14 + 1)))), (3, .int (sJ (wr (x3_14 - v30)))), (0, .ref (sA Δ 461)), (1, .ref (sA Δ 67)), (2, .ref (sA Δ 168))]) hG dX9_orderByLists_37 4 rfl (by decide) rfl ?_
          refine V.goto (pc := 40) (tgt := 14) hG dX9_orderByLists_40 (by decide) ?_
          refine V.pick [2, 3, 4, 1, 0] rfl ?_
          exact ih14 (wr (x3_14 - v30)) (wr (x4_14 + 1)) i31 ((sR_wr _)) ((sR_wr _)) hi34 h
  refine V.pick [2, 3, 4, 1, 0] rfl ?_
  exact lp14 n23 (i2 67 4) 0 i2 ((hi5 _ _)) ((sR_l rfl)) hi5 h
set_option maxRecDepth 100000 in
set_option maxHeartbeats 4000000 in
theorem sm_X9_orderLatest (l : Launch) (Δ : Wd) {i r : MI}   {Q : MI → Prop} (hi : okI i) (hw : Wf r) (h : wp_X9_orderLatest  i r Q) : Met l yX9_orderLatest (Cond.code yX9_orderLatest cX9_orderLatest 7 none :: gW) (sRm 2 44) (sPc Δ [.ref (sA Δ 461), .ref (sA Δ 67), .ref (sA Δ 168)] i r) (sQv Δ (fun i' r' => r = r' ∧ Q i')) 0 0 (sFr Δ) := by
  refine Ct.v (by decide) rfl (Nat.le_of_ble_eq_true rfl) (fun Γ Q0 hG fin => ?_)
  have hG : okG Γ Δ l (sRm 2 44) cX9_orderLatest "Schedulary$Steps" 7 := hG
  show V Γ Δ 542 false i r 0 0 Q0 0 [(0, .ref (sA Δ 461)), (1, .ref (sA Δ 67)), (2, .ref (sA Δ 168))] []
  refine V.aload_n (pc := 0) hG dX9_orderLatest_0 rfl 1 rfl ?_
  refine V.aload_n (pc := 1) hG dX9_orderLatest_1 rfl 0 rfl ?_
  refine V.getR (x := 462) (pc := 2) (ci := 11) (k := 0) (M := 7) (T := TX9) (o := 461) (kz := 0) hG a_461 a_461.n (by decide) hin_X9 rfl (by decide) (by decide) rfl kw_472 rfl ((hw).1 (461, 0, 462) (by decide)) (by decide) dX9_orderLatest_2 ?_
  refine V.callVNi (pc := 5) (As := [.ref (sA Δ 462)]) (stk := []) hG (sm_X0_endOf l Δ a_462 hi hw h) mY_X0_endOf kw_961 kw_963 kw_56 a_67 (by decide) (q := (RX0, TX0, 5)) rfl rfl ⟨Nat.le_of_ble_eq_true rfl, Nat.le_of_ble_eq_true rfl, Nat.le_of_ble_eq_true rfl, Nat.le_of_ble_eq_true rfl⟩ rfl (Nat.le_of_ble_eq_true rfl) dX9_orderLatest_5 rfl (fun v1 i2 r3 hv4 hi5 hw6 hq7 => ?_)
  obtain ⟨e85, e86, h⟩ := hq7
  subst e85
  subst e86
  refine V.istore_n (pc := 8) (lv' := [(3, .int (sJ v1)), (0, .ref (sA Δ 461)), (1, .ref (sA Δ 67)), (2, .ref (sA Δ 168))]) hG dX9_orderLatest_8 rfl (by decide) rfl ?_
  refine V.aload_n (pc := 9) hG dX9_orderLatest_9 rfl 2 rfl ?_
  refine V.getIN (pc := 10) (ci := 2) (k := 4) (M := 5) (T := TX0) (o := 67) (kz := 4) hG a_67 a_67.n (by decide) hin_X0 rfl (by decide) (by decide) rfl kw_418 rfl dX9_orderLatest_10 ?_
  refine V.iconst (pc := 13) hG dX9_orderLatest_13 ?_
  refine V.isub (pc := 14) hG dX9_orderLatest_14 ?_
  refine V.istore (pc := 15) (lv' := [(4, .int (sJ (wr (i 67 4 - 1)))), (3, .int (sJ v1)), (0, .ref (sA Δ 461)), (1, .ref (sA Δ 67)), (2, .ref (sA Δ 168))]) hG dX9_orderLatest_15 (by decide) rfl ?_
  obtain ⟨n54, h⟩ := h
  have lp17 : ∀ (m17 : Nat) (x4_17 : Int) (i_17 : MI), sR x4_17 → okI i_17 → LoopP (b17_X9_orderLatest v1 r Q) m17 (x4_17, i_17) → V Γ Δ 542 false i_17 r 0 0 Q0 17 [(0, .ref (sA Δ 461)), (1, .ref (sA Δ 67)), (2, .ref (sA Δ 168)), (3, .int (sJ v1)), (4, .int (sJ x4_17))] [] := by
    intro m17
    induction m17 with
    | zero => intro x4_17 i_17 hx4_17 hi_17 h; exact h.elim
    | succ m17 ih17 =>
      intro x4_17 i_17 hx4_17 hi_17 h
      have h := LoopP_succ h
      refine V.iload (pc := 17) hG dX9_orderLatest_17 4 rfl ?_
      obtain ⟨t56, f57⟩ := h
      refine V.if_lt (pc := 19) (tgt := 124) hG hx4_17 dX9_orderLatest_19 (by decide) (fun c55 => ?_) (fun c55 => ?_)
      · have h := t56 c55
        clear t56 f57
        exact fin dX9_orderLatest_124 hi_17 hw ⟨rfl, h⟩
      · have h := f57 c55
        clear t56 f57
        refine V.aload_n (pc := 22) hG dX9_orderLatest_22 rfl 0 rfl ?_
        refine V.getR (x := 463) (pc := 23) (ci := 11) (k := 1) (M := 7) (T := TX9) (o := 461) (kz := 1) hG a_461 a_461.n (by decide) hin_X9 rfl (by decide) (by decide) rfl kw_474 rfl ((hw).1 (461, 1, 463) (by decide)) (by decide) dX9_orderLatest_23 ?_
        refine V.iload (pc := 26) hG dX9_orderLatest_26 4 rfl ?_
        refine V.iload_n (pc := 28) hG dX9_orderLatest_28 rfl 3 rfl ?_
        refine V.aload_n (pc := 29) hG dX9_orderLatest_29 rfl 1 rfl ?_
        refine V.iload (pc := 30) hG dX9_orderLatest_30 4 rfl ?_
        refine V.callVNi (pc := 32) (As := [.int (sJ x4_17)]) (stk := [.int (sJ v1), .int (sJ x4_17), .ref (sA Δ 463)]) hG (sm_X0_cyclesOf l Δ hx4_17 hi_17 hw h) mY_X0_cyclesOf kw_967 kw_895 kw_41 a_67 (by decide) (q := (RX0, TX0, 5)) rfl rfl ⟨Nat.le_of_ble_eq_true rfl, Nat.le_of_ble_eq_true rfl, Nat.le_of_ble_eq_true rfl, Nat.le_of_ble_eq_true rfl⟩ rfl (Nat.le_of_ble_eq_true rfl) dX9_orderLatest_32 rfl (fun v58 i59 r60 hv61 hi62 hw63 hq64 => ?_)
        obtain ⟨e83, e84, h⟩ := hq64
        subst e83
        subst e84
        refine V.isub (pc := 35) hG dX9_orderLatest_35 ?_
        obtain ⟨g65, h⟩ := h
        refine V.iast (pc := 36) (z := 96) (o := 463) hG a_463 a_463.n hx4_17 g65 dX9_orderLatest_36 ?_
        refine V.iconst (pc := 37) hG dX9_orderLatest_37 ?_
        refine V.istore (pc := 38) (lv' := [(5, .int (sJ 0)), (0, .ref (sA Δ 461)), (1, .ref (sA Δ 67)), (2, .ref (sA Δ 168)), (3, .int (sJ v1)), (4, .int (sJ x4_17))]) hG dX9_orderLatest_38 (by decide) rfl ?_
        obtain ⟨n66, h⟩ := h
        have lp40 : ∀ (m40 : Nat) (x5_40 : Int) (i_40 : MI), sR x5_40 → okI i_40 → LoopP (b40_X9_orderLatest v1 x4_17 r Q (LoopP (b17_X9_orderLatest v1 r Q) m17)) m40 (x5_40, i_40) → V Γ Δ 542 false i_40 r 0 0 Q0 40 [(0, .ref (sA Δ 461)), (1, .ref (sA Δ 67)), (2, .ref (sA Δ 168)), (3, .int (sJ v1)), (4, .int (sJ x4_17)), (5, .int (sJ x5_40))] [] := by
          intro m40
          induction m40 with
          | zero => intro x5_40 i_40 hx5_40 hi_40 h; exact h.elim
          | succ m40 ih40 =>
            intro x5_40 i_40 hx5_40 hi_40 h
            have h := LoopP_succ h
            have jn112 : ∀ (x5j112 : Int) (ij112 : MI), sR x5j112 → okI ij112 → s112_X9_orderLatest v1 x4_17 x5j112 ij112 r Q (LoopP (b17_X9_orderLatest v1 r Q) m17) (LoopP (b40_X9_orderLatest v1 x4_17 r Q (LoopP (b17_X9_orderLatest v1 r Q) m17)) m40) → V Γ Δ 542 false ij112 r 0 0 Q0 112 [(0, .ref (sA Δ 461)), (1, .ref (sA Δ 67)), (2, .ref (sA Δ 168)), (3, .int (sJ v1)), (4, .int (sJ x4_17)), (5, .int (sJ x5j112))] [] := by
              intro x5j112 ij112 hx5j112 hij112 h
              refine V.iinc (pc := 112) (lv' := [(5, .int (sJ (wr (x5j112 + 1)))), (0, .ref (sA Δ 461)), (1, .ref (sA Δ 67)), (2, .ref (sA Δ 168)), (3, .int (sJ v1)), (4, .int (sJ x4_17))]) hG dX9_orderLatest_112 5 rfl (by decide) rfl ?_
              refine V.goto (pc := 115) (tgt := 40) hG dX9_orderLatest_115 (by decide) ?_
              refine V.pick [1, 2, 3, 4, 5, 0] rfl ?_
              exact ih40 (wr (x5j112 + 1)) ij112 ((sR_wr _)) hij112 h
            refine V.iload (pc := 40) hG dX9_orderLatest_40 5 rfl ?_
            refine V.aload_n (pc := 42) hG dX9_orderLatest_42 rfl 2 rfl ?_
            refine V.getRN (x := 460) (pc := 43) (ci := 4) (k := 3) (M := 5) (T := TX2) (o := 168) (kz := 3) hG a_168 a_168.n (by decide) hin_X2 rfl (by decide) (by decide) rfl kw_451 rfl ((hw).1 (168, 3, 460) (by decide)) (by decide) dX9_orderLatest_43 ?_
            refine V.iload (pc := 46) hG dX9_orderLatest_46 4 rfl ?_
            obtain ⟨g67, h⟩ := h
            refine V.iald (pc := 48) (z := 96) (o := 460) hG a_460 a_460.n hx4_17 g67 dX9_orderLatest_48 ?_
            obtain ⟨t69, f70⟩ := h
            refine V.icmp_ge (pc := 49) (tgt := 118) hG hx5_40 ((hi_40 _ _)) dX9_orderLatest_49 (by decide) (fun c68 => ?_) (fun c68 => ?_)
            · have h := t69 c68
              clear t69 f70
              refine V.iinc (pc := 118) (lv' := [(4, .int (sJ (wr (x4_17 + (-1))))), (0, .ref (sA Δ 461)), (1, .ref (sA Δ 67)), (2, .ref (sA Δ 168)), (3, .int (sJ v1)), (5, .int (sJ x5_40))]) hG dX9_orderLatest_118 4 rfl (by decide) rfl ?_
              refine V.goto (pc := 121) (tgt := 17) hG dX9_orderLatest_121 (by decide) ?_
              refine V.pick [1, 2, 3, 4, 0] rfl ?_
              exact ih17 (wr (x4_17 + (-1))) i_40 ((sR_wr _)) hi_40 h
            · have h := f70 c68
              clear t69 f70
              refine V.aload_n (pc := 52) hG dX9_orderLatest_52 rfl 2 rfl ?_
              refine V.getRN (x := 266) (pc := 53) (ci := 4) (k := 1) (M := 5) (T := TX2) (o := 168) (kz := 1) hG a_168 a_168.n (by decide) hin_X2 rfl (by decide) (by decide) rfl kw_444 rfl ((hw).1 (168, 1, 266) (by decide)) (by decide) dX9_orderLatest_53 ?_
              refine V.iload (pc := 56) hG dX9_orderLatest_56 4 rfl ?_
              obtain ⟨g71, h⟩ := h
              refine V.aald (pc := 58) 7 (z := 96) (o := 266) (x := x4_17) (y := 267 + x4_17) hG a_266 a_266.n (by decide) hx4_17 g71 (hw.2.1 (266, 96, 267) (by decide) _ g71.1 g71.2) (by omega) dX9_orderLatest_58 ?_
              refine V.iload (pc := 59) hG dX9_orderLatest_59 5 rfl ?_
              obtain ⟨g72, h⟩ := h
              refine V.iald (pc := 61) (z := 100) (o := 267 + x4_17) hG (row_266 g71) ((row_266 g71)).n hx5_40 g72 dX9_orderLatest_61 ?_
              obtain ⟨f75, t74⟩ := h
              refine V.if_ne (pc := 62) (tgt := 112) hG ((hi_40 _ _)) dX9_orderLatest_62 (by decide) (fun c73 => ?_) (fun c73 => ?_)
              · have h := t74 c73
                clear t74 f75
                exact jn112 x5_40 i_40 hx5_40 hi_40 h
              · have h := f75 c73
                clear t74 f75
                refine V.aload_n (pc := 65) hG dX9_orderLatest_65 rfl 2 rfl ?_
                refine V.getRN (x := 169) (pc := 66) (ci := 4) (k := 0) (M := 5) (T := TX2) (o := 168) (kz := 0) hG a_168 a_168.n (by decide) hin_X2 rfl (by decide) (by decide) rfl kw_441 rfl ((hw).1 (168, 0, 169) (by decide)) (by decide) dX9_orderLatest_66 ?_
                refine V.iload (pc := 69) hG dX9_orderLatest_69 4 rfl ?_
                obtain ⟨g76, h⟩ := h
                refine V.aald (pc := 71) 7 (z := 96) (o := 169) (x := x4_17) (y := 170 + x4_17) hG a_169 a_169.n (by decide) hx4_17 g76 (hw.2.1 (169, 96, 170) (by decide) _ g76.1 g76.2) (by omega) dX9_orderLatest_71 ?_
                refine V.iload (pc := 72) hG dX9_orderLatest_72 5 rfl ?_
                obtain ⟨g77, h⟩ := h
                refine V.iald (pc := 74) (z := 100) (o := 170 + x4_17) hG (row_169 g76) ((row_169 g76)).n hx5_40 g77 dX9_orderLatest_74 ?_
                refine V.istore (pc := 75) (lv' := [(6, .int (sJ (i_40 (170 + x4_17) x5_40))), (0, .ref (sA Δ 461)), (1, .ref (sA Δ 67)), (2, .ref (sA Δ 168)), (3, .int (sJ v1)), (4, .int (sJ x4_17)), (5, .int (sJ x5_40))]) hG dX9_orderLatest_75 (by decide) rfl ?_
                refine V.aload_n (pc := 77) hG dX9_orderLatest_77 rfl 1 rfl ?_
                refine V.getR (x := 463) (pc := 78) (ci := 11) (k := 1) (M := 7) (T := TX9) (o := 461) (kz := 1) hG a_461 a_461.n (by decide) hin_X9 rfl (by decide) (by decide) rfl kw_474 rfl ((hw).1 (461, 1, 463) (by decide)) (by decide) dX9_orderLatest_78 ?_
                refine V.iload (pc := 81) hG dX9_orderLatest_81 5 rfl ?_
                refine V.aload_n (pc := 83) hG dX9_orderLatest_83 rfl 1 rfl ?_
                refine V.getR (x := 463) (pc := 84) (ci := 11) (k := 1) (M := 7) (T := TX9) (o := 461) (kz := 1) hG a_461 a_461.n (by decide) hin_X9 rfl (by decide) (by decide) rfl kw_474 rfl ((hw).1 (461, 1, 463) (by decide)) (by decide) dX9_orderLatest_84 ?_
                refine V.iload (pc := 87) hG dX9_orderLatest_87 5 rfl ?_
                obtain ⟨g78, h⟩ := h
                refine V.iald (pc := 89) (z := 96) (o := 463) hG a_463 a_463.n hx4_17 g78 dX9_orderLatest_89 ?_
                refine V.aload_n (pc := 90) hG dX9_orderLatest_90 rfl 1 rfl ?_
                refine V.getR (x := 463) (pc := 91) (ci := 11) (k := 1) (M := 7) (T := TX9) (o := 461) (kz := 1) hG a_461 a_461.n (by decide) hin_X9 rfl (by decide) (by decide) rfl kw_474 rfl ((hw).1 (461, 1, 463) (by decide)) (by decide) dX9_orderLatest_91 ?_
                refine V.iload (pc := 94) hG dX9_orderLatest_94 0 rfl ?_
                obtain ⟨g79, h⟩ := h
                refine V.iald (pc := 96) (z := 96) (o := 463) hG a_463 a_463.n ((hi_40 _ _)) g79 dX9_orderLatest_96 ?_
                refine V.aload_n (pc := 97) hG dX9_orderLatest_97 rfl 3 rfl ?_
                refine V.getRN (x := 363) (pc := 98) (ci := 4) (k := 2) (M := 5) (T := TX2) (o := 168) (kz := 2) hG a_168 a_168.n (by decide) hin_X2 rfl (by decide) (by decide) rfl kw_447 rfl ((hw).1 (168, 2, 363) (by decide)) (by decide) dX9_orderLatest_98 ?_
                refine V.iload (pc := 101) hG dX9_orderLatest_101 5 rfl ?_
                obtain ⟨g80, h⟩ := h
                refine V.aald (pc := 103) 7 (z := 96) (o := 363) (x := x4_17) (y := 364 + x4_17) hG a_363 a_363.n (by decide) hx4_17 g80 (hw.2.1 (363, 96, 364) (by decide) _ g80.1 g80.2) (by omega) dX9_orderLatest_103 ?_
                refine V.iload (pc := 104) hG dX9_orderLatest_104 6 rfl ?_
                obtain ⟨g81, h⟩ := h
                refine V.iald (pc := 106) (z := 100) (o := 364 + x4_17) hG (row_363 g80) ((row_363 g80)).n hx5_40 g81 dX9_orderLatest_106 ?_
                refine V.isub (pc := 107) hG dX9_orderLatest_107 ?_
                refine V.mmin (pc := 108) hG ((hi_40 _ _)) ((sR_wr _)) kw_968 kw_683 kw_173 kw_min ⟨Nat.le_of_ble_eq_true rfl, Nat.le_of_ble_eq_true rfl, Nat.le_of_ble_eq_true rfl, Nat.le_of_ble_eq_true rfl⟩ dX9_orderLatest_108 ?_
                obtain ⟨g82, h⟩ := h
                refine V.iast (pc := 111) (z := 96) (o := 463) hG a_463 a_463.n hx4_17 g82 dX9_orderLatest_111 ?_
                refine V.pick [1, 2, 3, 4, 5, 6] rfl ?_
                exact jn112 x5_40 (st i_40 463 x4_17 (min (i_40 463 x4_17) (wr (i_40 463 (i_40 (170 + x4_17) x5_40) - i_40 (364 + x4_17) x5_40)))) hx5_40 ((okI_st hi_40 ((sR_min ((hi_40 _ _)) ((sR_wr _)))))) h
        refine V.pick [1, 2, 3, 4, 5, 0] rfl ?_
        exact lp40 n66 0 (st i_17 463 x4_17 (wr (v1 - v58))) ((sR_l rfl)) ((okI_st hi_17 ((sR_wr _)))) h
  refine V.pick [2, 3, 4, 1, 0] rfl ?_
  exact lp17 n54 (wr (i 67 4 - 1)) i ((sR_wr _)) hi h
set_option maxRecDepth 100000 in
set_option maxHeartbeats 4000000 in
theorem sm_X9_orderSoonest (l : Launch) (Δ : Wd) {i r : MI}   {Q : MI → Prop} (hi : okI i) (hw : Wf r) (h : wp_X9_orderSoonest  i r Q) : Met l yX9_orderSoonest (Cond.code yX9_orderSoonest cX9_orderSoonest 6 none :: gW) (sRm 1 15) (sPc Δ [.ref (sA Δ 461), .ref (sA Δ 67), .ref (sA Δ 168)] i r) (sQv Δ (fun i' r' => r = r' ∧ Q i')) 0 0 (sFr Δ) := by
  refine Ct.v (by decide) rfl (Nat.le_of_ble_eq_true rfl) (fun Γ Q0 hG fin => ?_)
  have hG : okG Γ Δ l (sRm 1 15) cX9_orderSoonest "Schedulary$Steps" 6 := hG
  show V Γ Δ 542 false i r 0 0 Q0 0 [(0, .ref (sA Δ 461)), (1, .ref (sA Δ 67)), (2, .ref (sA Δ 168))] []
  refine V.iconst (pc := 0) hG dX9_orderSoonest_0 ?_
  refine V.istore_n (pc := 1) (lv' := [(3, .int (sJ 0)), (0, .ref (sA Δ 461)), (1, .ref (sA Δ 67)), (2, .ref (sA Δ 168))]) hG dX9_orderSoonest_1 rfl (by decide) rfl ?_
  obtain ⟨n62, h⟩ := h
  have lp2 : ∀ (m2 : Nat) (x3_2 : Int) (i_2 : MI), sR x3_2 → okI i_2 → LoopP (b2_X9_orderSoonest r Q) m2 (x3_2, i_2) → V Γ Δ 542 false i_2 r 0 0 Q0 2 [(0, .ref (sA Δ 461)), (1, .ref (sA Δ 67)), (2, .ref (sA Δ 168)), (3, .int (sJ x3_2))] [] := by
    intro m2
    induction m2 with
    | zero => intro x3_2 i_2 hx3_2 hi_2 h; exact h.elim
    | succ m2 ih2 =>
      intro x3_2 i_2 hx3_2 hi_2 h
      have h := LoopP_succ h
      refine V.iload_n (pc := 2) hG dX9_orderSoonest_2 rfl 3 rfl ?_
      refine V.aload_n (pc := 3) hG dX9_orderSoonest_3 rfl 1 rfl ?_
      refine V.getIN (pc := 4) (ci := 2) (k := 4) (M := 5) (T := TX0) (o := 67) (kz := 4) hG a_67 a_67.n (by decide) hin_X0 rfl (by decide) (by decide) rfl kw_418 rfl dX9_orderSoonest_4 ?_
      obtain ⟨t64, f65⟩ := h
      refine V.icmp_ge (pc := 7) (tgt := 23) hG hx3_2 ((hi_2 _ _)) dX9_orderSoonest_7 (by decide) (fun c63 => ?_) (fun c63 => ?_)
      · have h := t64 c63
        clear t64 f65
        refine V.iconst (pc := 23) hG dX9_orderSoonest_23 ?_
        refine V.istore_n (pc := 24) (lv' := [(3, .int (sJ 0)), (0, .ref (sA Δ 461)), (1, .ref (sA Δ 67)), (2, .ref (sA Δ 168))]) hG dX9_orderSoonest_24 rfl (by decide) rfl ?_
        obtain ⟨n66, h⟩ := h
        have lp25 : ∀ (m25 : Nat) (x3_25 : Int) (i_25 : MI), sR x3_25 → okI i_25 → LoopP (b25_X9_orderSoonest r Q) m25 (x3_25, i_25) → V Γ Δ 542 false i_25 r 0 0 Q0 25 [(0, .ref (sA Δ 461)), (1, .ref (sA Δ 67)), (2, .ref (sA Δ 168)), (3, .int (sJ x3_25))] [] := by
          intro m25
          induction m25 with
          | zero => intro x3_25 i_25 hx3_25 hi_25 h; exact h.elim
          | succ m25 ih25 =>
            intro x3_25 i_25 hx3_25 hi_25 h
            have h := LoopP_succ h
            refine V.iload_n (pc := 25) hG dX9_orderSoonest_25 rfl 3 rfl ?_
            refine V.aload_n (pc := 26) hG dX9_orderSoonest_26 rfl 1 rfl ?_
            refine V.getIN (pc := 27) (ci := 2) (k := 4) (M := 5) (T := TX0) (o := 67) (kz := 4) hG a_67 a_67.n (by decide) hin_X0 rfl (by decide) (by decide) rfl kw_418 rfl dX9_orderSoonest_27 ?_
            obtain ⟨t68, f69⟩ := h
            refine V.icmp_ge (pc := 30) (tgt := 115) hG hx3_25 ((hi_25 _ _)) dX9_orderSoonest_30 (by decide) (fun c67 => ?_) (fun c67 => ?_)
            · have h := t68 c67
              clear t68 f69
              exact fin dX9_orderSoonest_115 hi_25 hw ⟨rfl, h⟩
            · have h := f69 c67
              clear t68 f69
              refine V.iconst (pc := 33) hG dX9_orderSoonest_33 ?_
              refine V.istore (pc := 34) (lv' := [(4, .int (sJ 0)), (0, .ref (sA Δ 461)), (1, .ref (sA Δ 67)), (2, .ref (sA Δ 168)), (3, .int (sJ x3_25))]) hG dX9_orderSoonest_34 (by decide) rfl ?_
              obtain ⟨n70, h⟩ := h
              have lp36 : ∀ (m36 : Nat) (x4_36 : Int) (i_36 : MI), sR x4_36 → okI i_36 → LoopP (b36_X9_orderSoonest x3_25 r Q (LoopP (b25_X9_orderSoonest r Q) m25)) m36 (x4_36, i_36) → V Γ Δ 542 false i_36 r 0 0 Q0 36 [(0, .ref (sA Δ 461)), (1, .ref (sA Δ 67)), (2, .ref (sA Δ 168)), (3, .int (sJ x3_25)), (4, .int (sJ x4_36))] [] := by
                intro m36
                induction m36 with
                | zero => intro x4_36 i_36 hx4_36 hi_36 h; exact h.elim
                | succ m36 ih36 =>
                  intro x4_36 i_36 hx4_36 hi_36 h
                  have h := LoopP_succ h
                  have jn103 : ∀ (x4j103 : Int) (ij103 : MI), sR x4j103 → okI ij103 → s103_X9_orderSoonest x3_25 x4j103 ij103 r Q (LoopP (b25_X9_orderSoonest r Q) m25) (LoopP (b36_X9_orderSoonest x3_25 r Q (LoopP (b25_X9_orderSoonest r Q) m25)) m36) → V Γ Δ 542 false ij103 r 0 0 Q0 103 [(0, .ref (sA Δ 461)), (1, .ref (sA Δ 67)), (2, .ref (sA Δ 168)), (3, .int (sJ x3_25)), (4, .int (sJ x4j103))] [] := by
                    intro x4j103 ij103 hx4j103 hij103 h
                    refine V.iinc (pc := 103) (lv' := [(4, .int (sJ (wr (x4j103 + 1)))), (0, .ref (sA Δ 461)), (1, .ref (sA Δ 67)), (2, .ref (sA Δ 168)), (3, .int (sJ x3_25))]) hG dX9_orderSoonest_103 4 rfl (by decide) rfl ?_
                    refine V.goto (pc := 106) (tgt := 36) hG dX9_orderSoonest_106 (by decide) ?_
                    refine V.pick [1, 2, 3, 4, 0] rfl ?_
                    exact ih36 (wr (x4j103 + 1)) ij103 ((sR_wr _)) hij103 h
                  refine V.iload (pc := 36) hG dX9_orderSoonest_36 4 rfl ?_
                  refine V.aload_n (pc := 38) hG dX9_orderSoonest_38 rfl 2 rfl ?_
                  refine V.getRN (x := 460) (pc := 39) (ci := 4) (k := 3) (M := 5) (T := TX2) (o := 168) (kz := 3) hG a_168 a_168.n (by decide) hin_X2 rfl (by decide) (by decide) rfl kw_451 rfl ((hw).1 (168, 3, 460) (by decide)) (by decide) dX9_orderSoonest_39 ?_
                  refine V.iload_n (pc := 42) hG dX9_orderSoonest_42 rfl 3 rfl ?_
                  obtain ⟨g71, h⟩ := h
                  refine V.iald (pc := 43) (z := 96) (o := 460) hG a_460 a_460.n hx3_25 g71 dX9_orderSoonest_43 ?_
                  obtain ⟨t73, f74⟩ := h
                  refine V.icmp_ge (pc := 44) (tgt := 109) hG hx4_36 ((hi_36 _ _)) dX9_orderSoonest_44 (by decide) (fun c72 => ?_) (fun c72 => ?_)
                  · have h := t73 c72
                    clear t73 f74
                    refine V.iinc (pc := 109) (lv' := [(3, .int (sJ (wr (x3_25 + 1)))), (0, .ref (sA Δ 461)), (1, .ref (sA Δ 67)), (2, .ref (sA Δ 168)), (4, .int (sJ x4_36))]) hG dX9_orderSoonest_109 3 rfl (by decide) rfl ?_
                    refine V.goto (pc := 112) (tgt := 25) hG dX9_orderSoonest_112 (by decide) ?_
                    refine V.pick [1, 2, 3, 0] rfl ?_
                    exact ih25 (wr (x3_25 + 1)) i_36 ((sR_wr _)) hi_36 h
                  · have h := f74 c72
                    clear t73 f74
                    refine V.aload_n (pc := 47) hG dX9_orderSoonest_47 rfl 2 rfl ?_
                    refine V.getRN (x := 266) (pc := 48) (ci := 4) (k := 1) (M := 5) (T := TX2) (o := 168) (kz := 1) hG a_168 a_168.n (by decide) hin_X2 rfl (by decide) (by decide) rfl kw_444 rfl ((hw).1 (168, 1, 266) (by decide)) (by decide) dX9_orderSoonest_48 ?_
                    refine V.iload_n (pc := 51) hG dX9_orderSoonest_51 rfl 3 rfl ?_
                    obtain ⟨g75, h⟩ := h
                    refine V.aald (pc := 52) 7 (z := 96) (o := 266) (x := x3_25) (y := 267 + x3_25) hG a_266 a_266.n (by decide) hx3_25 g75 (hw.2.1 (266, 96, 267) (by decide) _ g75.1 g75.2) (by omega) dX9_orderSoonest_52 ?_
                    refine V.iload (pc := 53) hG dX9_orderSoonest_53 4 rfl ?_
                    obtain ⟨g76, h⟩ := h
                    refine V.iald (pc := 55) (z := 100) (o := 267 + x3_25) hG (row_266 g75) ((row_266 g75)).n hx4_36 g76 dX9_orderSoonest_55 ?_
                    obtain ⟨f79, t78⟩ := h
                    refine V.if_ne (pc := 56) (tgt := 103) hG ((hi_36 _ _)) dX9_orderSoonest_56 (by decide) (fun c77 => ?_) (fun c77 => ?_)
                    · have h := t78 c77
                      clear t78 f79
                      exact jn103 x4_36 i_36 hx4_36 hi_36 h
                    · have h := f79 c77
                      clear t78 f79
                      refine V.aload_n (pc := 59) hG dX9_orderSoonest_59 rfl 2 rfl ?_
                      refine V.getRN (x := 169) (pc := 60) (ci := 4) (k := 0) (M := 5) (T := TX2) (o := 168) (kz := 0) hG a_168 a_168.n (by decide) hin_X2 rfl (by decide) (by decide) rfl kw_441 rfl ((hw).1 (168, 0, 169) (by decide)) (by decide) dX9_orderSoonest_60 ?_
                      refine V.iload_n (pc := 63) hG dX9_orderSoonest_63 rfl 3 rfl ?_
                      obtain ⟨g80, h⟩ := h
                      refine V.aald (pc := 64) 7 (z := 96) (o := 169) (x := x3_25) (y := 170 + x3_25) hG a_169 a_169.n (by decide) hx3_25 g80 (hw.2.1 (169, 96, 170) (by decide) _ g80.1 g80.2) (by omega) dX9_orderSoonest_64 ?_
                      refine V.iload (pc := 65) hG dX9_orderSoonest_65 4 rfl ?_
                      obtain ⟨g81, h⟩ := h
                      refine V.iald (pc := 67) (z := 100) (o := 170 + x3_25) hG (row_169 g80) ((row_169 g80)).n hx4_36 g81 dX9_orderSoonest_67 ?_
                      refine V.istore (pc := 68) (lv' := [(5, .int (sJ (i_36 (170 + x3_25) x4_36))), (0, .ref (sA Δ 461)), (1, .ref (sA Δ 67)), (2, .ref (sA Δ 168)), (3, .int (sJ x3_25)), (4, .int (sJ x4_36))]) hG dX9_orderSoonest_68 (by decide) rfl ?_
                      refine V.aload_n (pc := 70) hG dX9_orderSoonest_70 rfl 1 rfl ?_
                      refine V.getR (x := 462) (pc := 71) (ci := 11) (k := 0) (M := 7) (T := TX9) (o := 461) (kz := 0) hG a_461 a_461.n (by decide) hin_X9 rfl (by decide) (by decide) rfl kw_472 rfl ((hw).1 (461, 0, 462) (by decide)) (by decide) dX9_orderSoonest_71 ?_
                      refine V.iload (pc := 74) hG dX9_orderSoonest_74 0 rfl ?_
                      refine V.aload_n (pc := 76) hG dX9_orderSoonest_76 rfl 1 rfl ?_
                      refine V.getR (x := 462) (pc := 77) (ci := 11) (k := 0) (M := 7) (T := TX9) (o := 461) (kz := 0) hG a_461 a_461.n (by decide) hin_X9 rfl (by decide) (by decide) rfl kw_472 rfl ((hw).1 (461, 0, 462) (by decide)) (by decide) dX9_orderSoonest_77 ?_
                      refine V.iload (pc := 80) hG dX9_orderSoonest_80 0 rfl ?_
                      obtain ⟨g82, h⟩ := h
                      refine V.iald (pc := 82) (z := 96) (o := 462) hG a_462 a_462.n ((hi_36 _ _)) g82 dX9_orderSoonest_82 ?_
                      refine V.aload_n (pc := 83) hG dX9_orderSoonest_83 rfl 1 rfl ?_
                      refine V.getR (x := 462) (pc := 84) (ci := 11) (k := 0) (M := 7) (T := TX9) (o := 461) (kz := 0) hG a_461 a_461.n (by decide) hin_X9 rfl (by decide) (by decide) rfl kw_472 rfl ((hw).1 (461, 0, 462) (by decide)) (by decide) dX9_orderSoonest_84 ?_
                      refine V.iload_n (pc := 87) hG dX9_orderSoonest_87 rfl 4 rfl ?_
                      obtain ⟨g83, h⟩ := h
                      refine V.iald (pc := 88) (z := 96) (o := 462) hG a_462 a_462.n hx3_25 g83 dX9_orderSoonest_88 ?_
                      refine V.aload_n (pc := 89) hG dX9_orderSoonest_89 rfl 3 rfl ?_
                      refine V.getRN (x := 363) (pc := 90) (ci := 4) (k := 2) (M := 5) (T := TX2) (o := 168) (kz := 2) hG a_168 a_168.n (by decide) hin_X2 rfl (by decide) (by decide) rfl kw_447 rfl ((hw).1 (168, 2, 363) (by decide)) (by decide) dX9_orderSoonest_90 ?_
                      refine V.iload_n (pc := 93) hG dX9_orderSoonest_93 rfl 4 rfl ?_
                      obtain ⟨g84, h⟩ := h
                      refine V.aald (pc := 94) 7 (z := 96) (o := 363) (x := x3_25) (y := 364 + x3_25) hG a_363 a_363.n (by decide) hx3_25 g84 (hw.2.1 (363, 96, 364) (by decide) _ g84.1 g84.2) (by omega) dX9_orderSoonest_94 ?_
                      refine V.iload (pc := 95) hG dX9_orderSoonest_95 5 rfl ?_
                      obtain ⟨g85, h⟩ := h
                      refine V.iald (pc := 97) (z := 100) (o := 364 + x3_25) hG (row_363 g84) ((row_363 g84)).n hx4_36 g85 dX9_orderSoonest_97 ?_
                      refine V.iadd (pc := 98) hG dX9_orderSoonest_98 ?_
                      refine V.mmax (pc := 99) hG ((hi_36 _ _)) ((sR_wr _)) kw_956 kw_680 kw_173 kw_max ⟨Nat.le_of_ble_eq_true rfl, Nat.le_of_ble_eq_true rfl, Nat.le_of_ble_eq_true rfl, Nat.le_of_ble_eq_true rfl⟩ dX9_orderSoonest_99 ?_
                      obtain ⟨g86, h⟩ := h
                      refine V.iast (pc := 102) (z := 96) (o := 462) hG a_462 a_462.n ((hi_36 _ _)) g86 dX9_orderSoonest_102 ?_
                      refine V.pick [1, 2, 3, 4, 5] rfl ?_
                      exact jn103 x4_36 (st i_36 462 (i_36 (170 + x3_25) x4_36) (max (i_36 462 (i_36 (170 + x3_25) x4_36)) (wr (i_36 462 x3_25 + i_36 (364 + x3_25) x4_36)))) hx4_36 ((okI_st hi_36 ((sR_max ((hi_36 _ _)) ((sR_wr _)))))) h
              refine V.pick [1, 2, 3, 4, 0] rfl ?_
              exact lp36 n70 0 i_25 ((sR_l rfl)) hi_25 h
        refine V.pick [1, 2, 3, 0] rfl ?_
        exact lp25 n66 0 i_2 ((sR_l rfl)) hi_2 h
      · have h := f65 c63
        clear t64 f65
        refine V.aload_n (pc := 10) hG dX9_orderSoonest_10 rfl 0 rfl ?_
        refine V.getR (x := 462) (pc := 11) (ci := 11) (k := 0) (M := 7) (T := TX9) (o := 461) (kz := 0) hG a_461 a_461.n (by decide) hin_X9 rfl (by decide) (by decide) rfl kw_472 rfl ((hw).1 (461, 0, 462) (by decide)) (by decide) dX9_orderSoonest_11 ?_
        refine V.iload_n (pc := 14) hG dX9_orderSoonest_14 rfl 3 rfl ?_
        refine V.iconst (pc := 15) hG dX9_orderSoonest_15 ?_
        obtain ⟨g87, h⟩ := h
        refine V.iast (pc := 16) (z := 96) (o := 462) hG a_462 a_462.n hx3_2 g87 dX9_orderSoonest_16 ?_
        refine V.iinc (pc := 17) (lv' := [(3, .int (sJ (wr (x3_2 + 1)))), (0, .ref (sA Δ 461)), (1, .ref (sA Δ 67)), (2, .ref (sA Δ 168))]) hG dX9_orderSoonest_17 3 rfl (by decide) rfl ?_
        refine V.goto (pc := 20) (tgt := 2) hG dX9_orderSoonest_20 (by decide) ?_
        refine V.pick [1, 2, 3, 0] rfl ?_
        exact ih2 (wr (x3_2 + 1)) (st i_2 462 x3_2 0) ((sR_wr _)) ((okI_st hi_2 ((sR_l rfl)))) h
  refine V.pick [1, 2, 3, 0] rfl ?_
  exact lp2 n62 0 i ((sR_l rfl)) hi h
