set_option maxRecDepth 100000 in
set_option maxHeartbeats 4000000 in
theorem sm_X9_chooseFor (l : Launch) (Δ : Wd) {i r : MI} {p2 : Int} (hp2 : sR p2) {Q : Int → Prop} (hi : okI i) (hw : Wf r) (h : wp_X9_chooseFor p2 i r Q) : Met l yX9_chooseFor (Cond.code yX9_chooseFor cX9_chooseFor 6 (some .int) :: gW) (sRm 0 0) (sPc Δ [.ref (sA Δ 461), .ref (sA Δ 67), .int (sJ p2)] i r) (sQi Δ (fun x i' r' => i = i' ∧ r = r' ∧ Q x)) 0 0 (sFr Δ) := by
  refine Ct.i (ty := .int) (by decide) rfl (Nat.le_of_ble_eq_true rfl) (fun Γ Q0 hG fin => ?_)
  have hG : okG Γ Δ l (sRm 0 0) cX9_chooseFor "Schedulary$Steps" 6 := hG
  show V Γ Δ 504 false i r 0 0 Q0 0 [(0, .ref (sA Δ 461)), (1, .ref (sA Δ 67)), (2, .int (sJ p2))] []
  refine V.iconst (pc := 0) hG dX9_chooseFor_0 ?_
  refine V.istore_n (pc := 1) (lv' := [(3, .int (sJ (-1))), (0, .ref (sA Δ 461)), (1, .ref (sA Δ 67)), (2, .int (sJ p2))]) hG dX9_chooseFor_1 rfl (by decide) rfl ?_
  refine V.iconst (pc := 2) hG dX9_chooseFor_2 ?_
  refine V.istore (pc := 3) (lv' := [(4, .int (sJ 0)), (3, .int (sJ (-1))), (0, .ref (sA Δ 461)), (1, .ref (sA Δ 67)), (2, .int (sJ p2))]) hG dX9_chooseFor_3 (by decide) rfl ?_
  obtain ⟨n30, h⟩ := h
  have lp5 : ∀ (m5 : Nat) (x3_5 : Int) (x4_5 : Int), sR x3_5 → sR x4_5 → LoopP (b5_X9_chooseFor p2 i r Q) m5 (x3_5, x4_5) → V Γ Δ 504 false i r 0 0 Q0 5 [(0, .ref (sA Δ 461)), (1, .ref (sA Δ 67)), (2, .int (sJ p2)), (3, .int (sJ x3_5)), (4, .int (sJ x4_5))] [] := by
    intro m5
    induction m5 with
    | zero => intro x3_5 x4_5 hx3_5 hx4_5 h; exact h.elim
    | succ m5 ih5 =>
      intro x3_5 x4_5 hx3_5 hx4_5 h
      have h := LoopP_succ h
      have jn99 : ∀ (x3j99 : Int) (x4j99 : Int), sR x3j99 → sR x4j99 → s99_X9_chooseFor p2 x3j99 x4j99 i r Q (LoopP (b5_X9_chooseFor p2 i r Q) m5) → V Γ Δ 504 false i r 0 0 Q0 99 [(0, .ref (sA Δ 461)), (1, .ref (sA Δ 67)), (2, .int (sJ p2)), (3, .int (sJ x3j99)), (4, .int (sJ x4j99))] [] := by
        intro x3j99 x4j99 hx3j99 hx4j99 h
        refine V.iinc (pc := 99) (lv' := [(4, .int (sJ (wr (x4j99 + 1)))), (0, .ref (sA Δ 461)), (1, .ref (sA Δ 67)), (2, .int (sJ p2)), (3, .int (sJ x3j99))]) hG dX9_chooseFor_99 4 rfl (by decide) rfl ?_
        refine V.goto (pc := 102) (tgt := 5) hG dX9_chooseFor_102 (by decide) ?_
        refine V.pick [1, 2, 3, 4, 0] rfl ?_
        exact ih5 x3j99 (wr (x4j99 + 1)) hx3j99 ((sR_wr _)) h
      have jn96 : ∀ (x4j96 : Int), sR x4j96 → s96_X9_chooseFor p2 x4j96 i r Q (LoopP (b5_X9_chooseFor p2 i r Q) m5) → V Γ Δ 504 false i r 0 0 Q0 96 [(0, .ref (sA Δ 461)), (1, .ref (sA Δ 67)), (2, .int (sJ p2)), (4, .int (sJ x4j96))] [] := by
        intro x4j96 hx4j96 h
        refine V.iload (pc := 96) hG dX9_chooseFor_96 3 rfl ?_
        refine V.istore_n (pc := 98) (lv' := [(3, .int (sJ x4j96)), (0, .ref (sA Δ 461)), (1, .ref (sA Δ 67)), (2, .int (sJ p2)), (4, .int (sJ x4j96))]) hG dX9_chooseFor_98 rfl (by decide) rfl ?_
        refine V.pick [1, 2, 3, 0, 4] rfl ?_
        exact jn99 x4j96 x4j96 hx4j96 hx4j96 h
      refine V.iload (pc := 5) hG dX9_chooseFor_5 4 rfl ?_
      refine V.aload_n (pc := 7) hG dX9_chooseFor_7 rfl 1 rfl ?_
      refine V.getIN (pc := 8) (ci := 2) (k := 4) (M := 5) (T := TX0) (o := 67) (kz := 4) hG a_67 a_67.n (by decide) hin_X0 rfl (by decide) (by decide) rfl kw_365 rfl dX9_chooseFor_8 ?_
      obtain ⟨t32, f33⟩ := h
      refine V.icmp_ge (pc := 11) (tgt := 105) hG hx4_5 ((hi _ _)) dX9_chooseFor_11 (by decide) (fun c31 => ?_) (fun c31 => ?_)
      · have h := t32 c31
        clear t32 f33
        refine V.iload_n (pc := 105) hG dX9_chooseFor_105 rfl 3 rfl ?_
        exact fin dX9_chooseFor_106 hx3_5 rfl hi hw ⟨rfl, rfl, h⟩
      · have h := f33 c31
        clear t32 f33
        refine V.aload_n (pc := 14) hG dX9_chooseFor_14 rfl 1 rfl ?_
        refine V.getRN (x := 68) (pc := 15) (ci := 2) (k := 0) (M := 5) (T := TX0) (o := 67) (kz := 0) hG a_67 a_67.n (by decide) hin_X0 rfl (by decide) (by decide) rfl kw_353 rfl ((hw).1 (67, 0, 68) (by decide)) (by decide) dX9_chooseFor_15 ?_
        refine V.iload (pc := 18) hG dX9_chooseFor_18 4 rfl ?_
        obtain ⟨g34, h⟩ := h
        refine V.aald (pc := 20) 6 (z := 96) (o := 68) (x := x4_5) (y := 72 + x4_5) hG a_68 a_68.n (by decide) hx4_5 g34 (hw.2.1 (68, 96, 72) (by decide) _ g34.1 g34.2) (by omega) dX9_chooseFor_20 ?_
        refine V.getIN (pc := 21) (ci := 5) (k := 3) (M := 13) (T := TX3) (o := 72 + x4_5) (kz := 3) hG (node_o g34.1 g34.2) ((node_o g34.1 g34.2)).n (by decide) hin_X3 rfl (by decide) (by decide) rfl kw_291 rfl dX9_chooseFor_21 ?_
        refine V.istore (pc := 24) (lv' := [(5, .int (sJ (i (72 + x4_5) 3))), (0, .ref (sA Δ 461)), (1, .ref (sA Δ 67)), (2, .int (sJ p2)), (3, .int (sJ x3_5)), (4, .int (sJ x4_5))]) hG dX9_chooseFor_24 (by decide) rfl ?_
        refine V.aload_n (pc := 26) hG dX9_chooseFor_26 rfl 1 rfl ?_
        refine V.getR (x := 464) (pc := 27) (ci := 11) (k := 2) (M := 7) (T := TX9) (o := 461) (kz := 2) hG a_461 a_461.n (by decide) hin_X9 rfl (by decide) (by decide) rfl kw_423 rfl ((hw).1 (461, 2, 464) (by decide)) (by decide) dX9_chooseFor_27 ?_
        refine V.iload (pc := 30) hG dX9_chooseFor_30 5 rfl ?_
        obtain ⟨g35, h⟩ := h
        refine V.iald (pc := 32) (z := 96) (o := 464) hG a_464 a_464.n hx4_5 g35 dX9_chooseFor_32 ?_
        refine V.iconst (pc := 33) hG dX9_chooseFor_33 ?_
        obtain ⟨f38, t37⟩ := h
        refine V.icmp_ne (pc := 34) (tgt := 99) hG ((hi _ _)) ((sR_l rfl)) dX9_chooseFor_34 (by decide) (fun c36 => ?_) (fun c36 => ?_)
        · have h := t37 c36
          clear t37 f38
          refine V.pick [1, 2, 3, 4, 5] rfl ?_
          exact jn99 x3_5 x4_5 hx3_5 hx4_5 h
        · have h := f38 c36
          clear t37 f38
          refine V.aload_n (pc := 37) hG dX9_chooseFor_37 rfl 1 rfl ?_
          refine V.getR (x := 466) (pc := 38) (ci := 11) (k := 4) (M := 7) (T := TX9) (o := 461) (kz := 4) hG a_461 a_461.n (by decide) hin_X9 rfl (by decide) (by decide) rfl kw_426 rfl ((hw).1 (461, 4, 466) (by decide)) (by decide) dX9_chooseFor_38 ?_
          refine V.iload (pc := 41) hG dX9_chooseFor_41 5 rfl ?_
          obtain ⟨g39, h⟩ := h
          refine V.iald (pc := 43) (z := 96) (o := 466) hG a_466 a_466.n hx4_5 g39 dX9_chooseFor_43 ?_
          obtain ⟨f42, t41⟩ := h
          refine V.if_ne (pc := 44) (tgt := 99) hG ((hi _ _)) dX9_chooseFor_44 (by decide) (fun c40 => ?_) (fun c40 => ?_)
          · have h := t41 c40
            clear t41 f42
            refine V.pick [1, 2, 3, 4, 5] rfl ?_
            exact jn99 x3_5 x4_5 hx3_5 hx4_5 h
          · have h := f42 c40
            clear t41 f42
            refine V.aload_n (pc := 47) hG dX9_chooseFor_47 rfl 1 rfl ?_
            refine V.getR (x := 465) (pc := 48) (ci := 11) (k := 3) (M := 7) (T := TX9) (o := 461) (kz := 3) hG a_461 a_461.n (by decide) hin_X9 rfl (by decide) (by decide) rfl kw_425 rfl ((hw).1 (461, 3, 465) (by decide)) (by decide) dX9_chooseFor_48 ?_
            refine V.iload (pc := 51) hG dX9_chooseFor_51 5 rfl ?_
            obtain ⟨g43, h⟩ := h
            refine V.iald (pc := 53) (z := 96) (o := 465) hG a_465 a_465.n hx4_5 g43 dX9_chooseFor_53 ?_
            refine V.iload_n (pc := 54) hG dX9_chooseFor_54 rfl 3 rfl ?_
            obtain ⟨t45, f46⟩ := h
            refine V.icmp_gt (pc := 55) (tgt := 99) hG ((hi _ _)) hp2 dX9_chooseFor_55 (by decide) (fun c44 => ?_) (fun c44 => ?_)
            · have h := t45 c44
              clear t45 f46
              refine V.pick [1, 2, 3, 4, 5] rfl ?_
              exact jn99 x3_5 x4_5 hx3_5 hx4_5 h
            · have h := f46 c44
              clear t45 f46
              refine V.aload_n (pc := 58) hG dX9_chooseFor_58 rfl 1 rfl ?_
              refine V.getR (x := 467) (pc := 59) (ci := 11) (k := 5) (M := 7) (T := TX9) (o := 461) (kz := 5) hG a_461 a_461.n (by decide) hin_X9 rfl (by decide) (by decide) rfl kw_427 rfl ((hw).1 (461, 5, 467) (by decide)) (by decide) dX9_chooseFor_59 ?_
              refine V.iload (pc := 62) hG dX9_chooseFor_62 0 rfl ?_
              obtain ⟨g47, h⟩ := h
              refine V.iald (pc := 64) (z := 7) (o := 467) hG a_467 a_467.n ((hi _ _)) g47 dX9_chooseFor_64 ?_
              refine V.aload_n (pc := 65) hG dX9_chooseFor_65 rfl 2 rfl ?_
              refine V.getRN (x := 69) (pc := 66) (ci := 2) (k := 1) (M := 5) (T := TX0) (o := 67) (kz := 1) hG a_67 a_67.n (by decide) hin_X0 rfl (by decide) (by decide) rfl kw_357 rfl ((hw).1 (67, 1, 69) (by decide)) (by decide) dX9_chooseFor_66 ?_
              refine V.iload (pc := 69) hG dX9_chooseFor_69 0 rfl ?_
              obtain ⟨g48, h⟩ := h
              refine V.iald (pc := 71) (z := 7) (o := 69) hG a_69 a_69.n ((hi _ _)) g48 dX9_chooseFor_71 ?_
              obtain ⟨t50, f51⟩ := h
              refine V.icmp_ge (pc := 72) (tgt := 99) hG ((hi _ _)) ((hi _ _)) dX9_chooseFor_72 (by decide) (fun c49 => ?_) (fun c49 => ?_)
              · have h := t50 c49
                clear t50 f51
                refine V.pick [1, 2, 3, 4, 5] rfl ?_
                exact jn99 x3_5 x4_5 hx3_5 hx4_5 h
              · have h := f51 c49
                clear t50 f51
                refine V.iload_n (pc := 75) hG dX9_chooseFor_75 rfl 4 rfl ?_
                refine V.iconst (pc := 76) hG dX9_chooseFor_76 ?_
                obtain ⟨t53, f54⟩ := h
                refine V.icmp_eq (pc := 77) (tgt := 96) hG hx3_5 ((sR_l rfl)) dX9_chooseFor_77 (by decide) (fun c52 => ?_) (fun c52 => ?_)
                · have h := t53 c52
                  clear t53 f54
                  refine V.pick [1, 2, 3, 5] rfl ?_
                  exact jn96 x4_5 hx4_5 h
                · have h := f54 c52
                  clear t53 f54
                  refine V.aload_n (pc := 80) hG dX9_chooseFor_80 rfl 1 rfl ?_
                  refine V.getR (x := 463) (pc := 81) (ci := 11) (k := 1) (M := 7) (T := TX9) (o := 461) (kz := 1) hG a_461 a_461.n (by decide) hin_X9 rfl (by decide) (by decide) rfl kw_421 rfl ((hw).1 (461, 1, 463) (by decide)) (by decide) dX9_chooseFor_81 ?_
                  refine V.iload (pc := 84) hG dX9_chooseFor_84 5 rfl ?_
                  obtain ⟨g55, h⟩ := h
                  refine V.iald (pc := 86) (z := 96) (o := 463) hG a_463 a_463.n hx4_5 g55 dX9_chooseFor_86 ?_
                  refine V.aload_n (pc := 87) hG dX9_chooseFor_87 rfl 1 rfl ?_
                  refine V.getR (x := 463) (pc := 88) (ci := 11) (k := 1) (M := 7) (T := TX9) (o := 461) (kz := 1) hG a_461 a_461.n (by decide) hin_X9 rfl (by decide) (by decide) rfl kw_421 rfl ((hw).1 (461, 1, 463) (by decide)) (by decide) dX9_chooseFor_88 ?_
                  refine V.iload_n (pc := 91) hG dX9_chooseFor_91 rfl 4 rfl ?_
                  obtain ⟨g56, h⟩ := h
                  refine V.iald (pc := 92) (z := 96) (o := 463) hG a_463 a_463.n hx3_5 g56 dX9_chooseFor_92 ?_
                  obtain ⟨t58, f59⟩ := h
                  refine V.icmp_ge (pc := 93) (tgt := 99) hG ((hi _ _)) ((hi _ _)) dX9_chooseFor_93 (by decide) (fun c57 => ?_) (fun c57 => ?_)
                  · have h := t58 c57
                    clear t58 f59
                    refine V.pick [1, 2, 3, 4, 5] rfl ?_
                    exact jn99 x3_5 x4_5 hx3_5 hx4_5 h
                  · have h := f59 c57
                    clear t58 f59
                    refine V.pick [1, 2, 3, 5] rfl ?_
                    exact jn96 x4_5 hx4_5 h
  refine V.pick [2, 3, 4, 1, 0] rfl ?_
  exact lp5 n30 (-1) 0 ((sR_l rfl)) ((sR_l rfl)) h
set_option maxRecDepth 100000 in
set_option maxHeartbeats 4000000 in
theorem sm_X9_beginAllAt (l : Launch) (Δ : Wd) {i r : MI} {p3 : Int} (hp3 : sR p3) {Q : Int → MI → Prop} (hi : okI i) (hw : Wf r) (h : wp_X9_beginAllAt p3 i r Q) : Met l yX9_beginAllAt (Cond.code yX9_beginAllAt cX9_beginAllAt 6 (some .int) :: gW) (sRm 2 41) (sPc Δ [.ref (sA Δ 461), .ref (sA Δ 67), .ref (sA Δ 168), .int (sJ p3)] i r) (sQi Δ (fun x i' r' => r = r' ∧ Q x i')) 0 0 (sFr Δ) := by
  refine Ct.i (ty := .int) (by decide) rfl (Nat.le_of_ble_eq_true rfl) (fun Γ Q0 hG fin => ?_)
  have hG : okG Γ Δ l (sRm 2 41) cX9_beginAllAt "Schedulary$Steps" 6 := hG
  show V Γ Δ 504 false i r 0 0 Q0 0 [(0, .ref (sA Δ 461)), (1, .ref (sA Δ 67)), (2, .ref (sA Δ 168)), (3, .int (sJ p3))] []
  refine V.iconst (pc := 0) hG dX9_beginAllAt_0 ?_
  refine V.istore (pc := 1) (lv' := [(4, .int (sJ 0)), (0, .ref (sA Δ 461)), (1, .ref (sA Δ 67)), (2, .ref (sA Δ 168)), (3, .int (sJ p3))]) hG dX9_beginAllAt_1 (by decide) rfl ?_
  obtain ⟨n54, h⟩ := h
  have lp3 : ∀ (m3 : Nat) (x4_3 : Int) (i_3 : MI), sR x4_3 → okI i_3 → LoopP (b3_X9_beginAllAt p3 r Q) m3 (x4_3, i_3) → V Γ Δ 504 false i_3 r 0 0 Q0 3 [(0, .ref (sA Δ 461)), (1, .ref (sA Δ 67)), (2, .ref (sA Δ 168)), (3, .int (sJ p3)), (4, .int (sJ x4_3))] [] := by
    intro m3
    induction m3 with
    | zero => intro x4_3 i_3 hx4_3 hi_3 h; exact h.elim
    | succ m3 ih3 =>
      intro x4_3 i_3 hx4_3 hi_3 h
      have h := LoopP_succ h
      refine V.iload (pc := 3) hG dX9_beginAllAt_3 4 rfl ?_
      refine V.bipush (pc := 5) hG dX9_beginAllAt_5 (by decide) ?_
      obtain ⟨t56, f57⟩ := h
      refine V.icmp_ge (pc := 7) (tgt := 24) hG hx4_3 ((sR_l rfl)) dX9_beginAllAt_7 (by decide) (fun c55 => ?_) (fun c55 => ?_)
      · have h := t56 c55
        clear t56 f57
        refine V.iconst (pc := 24) hG dX9_beginAllAt_24 ?_
        refine V.istore (pc := 25) (lv' := [(4, .int (sJ 0)), (0, .ref (sA Δ 461)), (1, .ref (sA Δ 67)), (2, .ref (sA Δ 168)), (3, .int (sJ p3))]) hG dX9_beginAllAt_25 (by decide) rfl ?_
        obtain ⟨n58, h⟩ := h
        have lp27 : ∀ (m27 : Nat) (x4_27 : Int) (i_27 : MI), sR x4_27 → okI i_27 → LoopP (b27_X9_beginAllAt p3 r Q) m27 (x4_27, i_27) → V Γ Δ 504 false i_27 r 0 0 Q0 27 [(0, .ref (sA Δ 461)), (1, .ref (sA Δ 67)), (2, .ref (sA Δ 168)), (3, .int (sJ p3)), (4, .int (sJ x4_27))] [] := by
          intro m27
          induction m27 with
          | zero => intro x4_27 i_27 hx4_27 hi_27 h; exact h.elim
          | succ m27 ih27 =>
            intro x4_27 i_27 hx4_27 hi_27 h
            have h := LoopP_succ h
            refine V.iload (pc := 27) hG dX9_beginAllAt_27 4 rfl ?_
            refine V.aload_n (pc := 29) hG dX9_beginAllAt_29 rfl 1 rfl ?_
            refine V.getIN (pc := 30) (ci := 2) (k := 4) (M := 5) (T := TX0) (o := 67) (kz := 4) hG a_67 a_67.n (by decide) hin_X0 rfl (by decide) (by decide) rfl kw_365 rfl dX9_beginAllAt_30 ?_
            obtain ⟨t60, f61⟩ := h
            refine V.icmp_ge (pc := 33) (tgt := 68) hG hx4_27 ((hi_27 _ _)) dX9_beginAllAt_33 (by decide) (fun c59 => ?_) (fun c59 => ?_)
            · have h := t60 c59
              clear t60 f61
              refine V.aload_n (pc := 68) hG dX9_beginAllAt_68 rfl 1 rfl ?_
              refine V.getIN (pc := 69) (ci := 2) (k := 4) (M := 5) (T := TX0) (o := 67) (kz := 4) hG a_67 a_67.n (by decide) hin_X0 rfl (by decide) (by decide) rfl kw_365 rfl dX9_beginAllAt_69 ?_
              exact fin dX9_beginAllAt_72 ((hi_27 _ _)) rfl hi_27 hw ⟨rfl, h⟩
            · have h := f61 c59
              clear t60 f61
              refine V.aload_n (pc := 36) hG dX9_beginAllAt_36 rfl 0 rfl ?_
              refine V.aload_n (pc := 37) hG dX9_beginAllAt_37 rfl 1 rfl ?_
              refine V.iload_n (pc := 38) hG dX9_beginAllAt_38 rfl 3 rfl ?_
              refine V.callVi (pc := 39) (As := [.ref (sA Δ 67), .int (sJ p3)]) (stk := []) hG (sm_X9_chooseFor l Δ hp3 hi_27 hw h) mY_X9_chooseFor kw_776 kw_778 kw_48 a_461 (by decide) (q := (RX9, TX9, 7)) rfl rfl ⟨Nat.le_of_ble_eq_true rfl, Nat.le_of_ble_eq_true rfl, Nat.le_of_ble_eq_true rfl, Nat.le_of_ble_eq_true rfl⟩ rfl (Nat.le_of_ble_eq_true rfl) dX9_beginAllAt_39 rfl (fun v62 i63 r64 hv65 hi66 hw67 hq68 => ?_)
              obtain ⟨e81, e82, h⟩ := hq68
              subst e81
              subst e82
              refine V.istore (pc := 42) (lv' := [(5, .int (sJ v62)), (0, .ref (sA Δ 461)), (1, .ref (sA Δ 67)), (2, .ref (sA Δ 168)), (3, .int (sJ p3)), (4, .int (sJ x4_27))]) hG dX9_beginAllAt_42 (by decide) rfl ?_
              refine V.iload (pc := 44) hG dX9_beginAllAt_44 0 rfl ?_
              refine V.iconst (pc := 46) hG dX9_beginAllAt_46 ?_
              obtain ⟨f71, t70⟩ := h
              refine V.icmp_ne (pc := 47) (tgt := 53) hG hv65 ((sR_l rfl)) dX9_beginAllAt_47 (by decide) (fun c69 => ?_) (fun c69 => ?_)
              · have h := t70 c69
                clear t70 f71
                refine V.aload_n (pc := 53) hG dX9_beginAllAt_53 rfl 1 rfl ?_
                refine V.aload_n (pc := 54) hG dX9_beginAllAt_54 rfl 2 rfl ?_
                refine V.aload_n (pc := 55) hG dX9_beginAllAt_55 rfl 3 rfl ?_
                refine V.iload (pc := 56) hG dX9_beginAllAt_56 0 rfl ?_
                refine V.iload_n (pc := 58) hG dX9_beginAllAt_58 rfl 4 rfl ?_
                refine V.callVv (pc := 59) (As := [.ref (sA Δ 67), .ref (sA Δ 168), .int (sJ v62), .int (sJ p3)]) (stk := []) hG (sm_X9_beginAt l Δ hv65 hp3 hi_27 hw h) mY_X9_beginAt kw_780 kw_782 kw_49 a_461 (by decide) (q := (RX9, TX9, 7)) rfl rfl ⟨Nat.le_of_ble_eq_true rfl, Nat.le_of_ble_eq_true rfl, Nat.le_of_ble_eq_true rfl, Nat.le_of_ble_eq_true rfl⟩ rfl (Nat.le_of_ble_eq_true rfl) dX9_beginAllAt_59 rfl (fun i73 r74 hi76 hw77 hq78 => ?_)
                obtain ⟨e80, h⟩ := hq78
                subst e80
                refine V.iinc (pc := 62) (lv' := [(4, .int (sJ (wr (x4_27 + 1)))), (5, .int (sJ v62)), (0, .ref (sA Δ 461)), (1, .ref (sA Δ 67)), (2, .ref (sA Δ 168)), (3, .int (sJ p3))]) hG dX9_beginAllAt_62 5 rfl (by decide) rfl ?_
                refine V.goto (pc := 65) (tgt := 27) hG dX9_beginAllAt_65 (by decide) ?_
                refine V.pick [2, 3, 4, 5, 0] rfl ?_
                exact ih27 (wr (x4_27 + 1)) i73 ((sR_wr _)) hi76 h
              · have h := f71 c69
                clear t70 f71
                refine V.iload (pc := 50) hG dX9_beginAllAt_50 5 rfl ?_
                exact fin dX9_beginAllAt_52 hx4_27 rfl hi_27 hw ⟨rfl, h⟩
        refine V.pick [1, 2, 3, 4, 0] rfl ?_
        exact lp27 n58 0 i_3 ((sR_l rfl)) hi_3 h
      · have h := f57 c55
        clear t56 f57
        refine V.aload_n (pc := 10) hG dX9_beginAllAt_10 rfl 0 rfl ?_
        refine V.getR (x := 467) (pc := 11) (ci := 11) (k := 5) (M := 7) (T := TX9) (o := 461) (kz := 5) hG a_461 a_461.n (by decide) hin_X9 rfl (by decide) (by decide) rfl kw_427 rfl ((hw).1 (461, 5, 467) (by decide)) (by decide) dX9_beginAllAt_11 ?_
        refine V.iload (pc := 14) hG dX9_beginAllAt_14 4 rfl ?_
        refine V.iconst (pc := 16) hG dX9_beginAllAt_16 ?_
        obtain ⟨g83, h⟩ := h
        refine V.iast (pc := 17) (z := 7) (o := 467) hG a_467 a_467.n hx4_3 g83 dX9_beginAllAt_17 ?_
        refine V.iinc (pc := 18) (lv' := [(4, .int (sJ (wr (x4_3 + 1)))), (0, .ref (sA Δ 461)), (1, .ref (sA Δ 67)), (2, .ref (sA Δ 168)), (3, .int (sJ p3))]) hG dX9_beginAllAt_18 4 rfl (by decide) rfl ?_
        refine V.goto (pc := 21) (tgt := 3) hG dX9_beginAllAt_21 (by decide) ?_
        refine V.pick [1, 2, 3, 4, 0] rfl ?_
        exact ih3 (wr (x4_3 + 1)) (st i_3 467 x4_3 0) ((sR_wr _)) ((okI_st hi_3 ((sR_l rfl)))) h
  refine V.pick [1, 2, 3, 4, 0] rfl ?_
  exact lp3 n54 0 i ((sR_l rfl)) hi h
set_option maxRecDepth 100000 in
set_option maxHeartbeats 4000000 in
theorem sm_X9_startLists (l : Launch) (Δ : Wd) {i r : MI}   {Q : MI → Prop} (hi : okI i) (hw : Wf r) (h : wp_X9_startLists  i r Q) : Met l yX9_startLists (Cond.code yX9_startLists cX9_startLists 5 none :: gW) (sRm 0 0) (sPc Δ [.ref (sA Δ 461), .ref (sA Δ 67), .ref (sA Δ 168)] i r) (sQv Δ (fun i' r' => r = r' ∧ Q i')) 0 0 (sFr Δ) := by
  refine Ct.v (by decide) rfl (Nat.le_of_ble_eq_true rfl) (fun Γ Q0 hG fin => ?_)
  have hG : okG Γ Δ l (sRm 0 0) cX9_startLists "Schedulary$Steps" 5 := hG
  show V Γ Δ 504 false i r 0 0 Q0 0 [(0, .ref (sA Δ 461)), (1, .ref (sA Δ 67)), (2, .ref (sA Δ 168))] []
  refine V.iconst (pc := 0) hG dX9_startLists_0 ?_
  refine V.istore_n (pc := 1) (lv' := [(3, .int (sJ 0)), (0, .ref (sA Δ 461)), (1, .ref (sA Δ 67)), (2, .ref (sA Δ 168))]) hG dX9_startLists_1 rfl (by decide) rfl ?_
  obtain ⟨n55, h⟩ := h
  have lp2 : ∀ (m2 : Nat) (x3_2 : Int) (i_2 : MI), sR x3_2 → okI i_2 → LoopP (b2_X9_startLists r Q) m2 (x3_2, i_2) → V Γ Δ 504 false i_2 r 0 0 Q0 2 [(0, .ref (sA Δ 461)), (1, .ref (sA Δ 67)), (2, .ref (sA Δ 168)), (3, .int (sJ x3_2))] [] := by
    intro m2
    induction m2 with
    | zero => intro x3_2 i_2 hx3_2 hi_2 h; exact h.elim
    | succ m2 ih2 =>
      intro x3_2 i_2 hx3_2 hi_2 h
      have h := LoopP_succ h
      refine V.iload_n (pc := 2) hG dX9_startLists_2 rfl 3 rfl ?_
      refine V.aload_n (pc := 3) hG dX9_startLists_3 rfl 1 rfl ?_
      refine V.getIN (pc := 4) (ci := 2) (k := 4) (M := 5) (T := TX0) (o := 67) (kz := 4) hG a_67 a_67.n (by decide) hin_X0 rfl (by decide) (by decide) rfl kw_365 rfl dX9_startLists_4 ?_
      obtain ⟨t57, f58⟩ := h
      refine V.icmp_ge (pc := 7) (tgt := 37) hG hx3_2 ((hi_2 _ _)) dX9_startLists_7 (by decide) (fun c56 => ?_) (fun c56 => ?_)
      · have h := t57 c56
        clear t57 f58
        refine V.iconst (pc := 37) hG dX9_startLists_37 ?_
        refine V.istore_n (pc := 38) (lv' := [(3, .int (sJ 0)), (0, .ref (sA Δ 461)), (1, .ref (sA Δ 67)), (2, .ref (sA Δ 168))]) hG dX9_startLists_38 rfl (by decide) rfl ?_
        obtain ⟨n59, h⟩ := h
        have lp39 : ∀ (m39 : Nat) (x3_39 : Int) (i_39 : MI), sR x3_39 → okI i_39 → LoopP (b39_X9_startLists r Q) m39 (x3_39, i_39) → V Γ Δ 504 false i_39 r 0 0 Q0 39 [(0, .ref (sA Δ 461)), (1, .ref (sA Δ 67)), (2, .ref (sA Δ 168)), (3, .int (sJ x3_39))] [] := by
          intro m39
          induction m39 with
          | zero => intro x3_39 i_39 hx3_39 hi_39 h; exact h.elim
          | succ m39 ih39 =>
            intro x3_39 i_39 hx3_39 hi_39 h
            have h := LoopP_succ h
            refine V.iload_n (pc := 39) hG dX9_startLists_39 rfl 3 rfl ?_
            refine V.aload_n (pc := 40) hG dX9_startLists_40 rfl 1 rfl ?_
            refine V.getIN (pc := 41) (ci := 2) (k := 4) (M := 5) (T := TX0) (o := 67) (kz := 4) hG a_67 a_67.n (by decide) hin_X0 rfl (by decide) (by decide) rfl kw_365 rfl dX9_startLists_41 ?_
            obtain ⟨t61, f62⟩ := h
            refine V.icmp_ge (pc := 44) (tgt := 103) hG hx3_39 ((hi_39 _ _)) dX9_startLists_44 (by decide) (fun c60 => ?_) (fun c60 => ?_)
            · have h := t61 c60
              clear t61 f62
              exact fin dX9_startLists_103 hi_39 hw ⟨rfl, h⟩
            · have h := f62 c60
              clear t61 f62
              refine V.iconst (pc := 47) hG dX9_startLists_47 ?_
              refine V.istore (pc := 48) (lv' := [(4, .int (sJ 0)), (0, .ref (sA Δ 461)), (1, .ref (sA Δ 67)), (2, .ref (sA Δ 168)), (3, .int (sJ x3_39))]) hG dX9_startLists_48 (by decide) rfl ?_
              obtain ⟨n63, h⟩ := h
              have lp50 : ∀ (m50 : Nat) (x4_50 : Int) (i_50 : MI), sR x4_50 → okI i_50 → LoopP (b50_X9_startLists x3_39 r Q (LoopP (b39_X9_startLists r Q) m39)) m50 (x4_50, i_50) → V Γ Δ 504 false i_50 r 0 0 Q0 50 [(0, .ref (sA Δ 461)), (1, .ref (sA Δ 67)), (2, .ref (sA Δ 168)), (3, .int (sJ x3_39)), (4, .int (sJ x4_50))] [] := by
                intro m50
                induction m50 with
                | zero => intro x4_50 i_50 hx4_50 hi_50 h; exact h.elim
                | succ m50 ih50 =>
                  intro x4_50 i_50 hx4_50 hi_50 h
                  have h := LoopP_succ h
                  have jn91 : ∀ (x4j91 : Int) (ij91 : MI), sR x4j91 → okI ij91 → s91_X9_startLists x3_39 x4j91 ij91 r Q (LoopP (b39_X9_startLists r Q) m39) (LoopP (b50_X9_startLists x3_39 r Q (LoopP (b39_X9_startLists r Q) m39)) m50) → V Γ Δ 504 false ij91 r 0 0 Q0 91 [(0, .ref (sA Δ 461)), (1, .ref (sA Δ 67)), (2, .ref (sA Δ 168)), (3, .int (sJ x3_39)), (4, .int (sJ x4j91))] [] := by
                    intro x4j91 ij91 hx4j91 hij91 h
                    refine V.iinc (pc := 91) (lv' := [(4, .int (sJ (wr (x4j91 + 1)))), (0, .ref (sA Δ 461)), (1, .ref (sA Δ 67)), (2, .ref (sA Δ 168)), (3, .int (sJ x3_39))]) hG dX9_startLists_91 4 rfl (by decide) rfl ?_
                    refine V.goto (pc := 94) (tgt := 50) hG dX9_startLists_94 (by decide) ?_
                    refine V.pick [1, 2, 3, 4, 0] rfl ?_
                    exact ih50 (wr (x4j91 + 1)) ij91 ((sR_wr _)) hij91 h
                  refine V.iload (pc := 50) hG dX9_startLists_50 4 rfl ?_
                  refine V.aload_n (pc := 52) hG dX9_startLists_52 rfl 2 rfl ?_
                  refine V.getRN (x := 460) (pc := 53) (ci := 4) (k := 3) (M := 5) (T := TX2) (o := 168) (kz := 3) hG a_168 a_168.n (by decide) hin_X2 rfl (by decide) (by decide) rfl kw_398 rfl ((hw).1 (168, 3, 460) (by decide)) (by decide) dX9_startLists_53 ?_
                  refine V.iload_n (pc := 56) hG dX9_startLists_56 rfl 3 rfl ?_
                  obtain ⟨g64, h⟩ := h
                  refine V.iald (pc := 57) (z := 96) (o := 460) hG a_460 a_460.n hx3_39 g64 dX9_startLists_57 ?_
                  obtain ⟨t66, f67⟩ := h
                  refine V.icmp_ge (pc := 58) (tgt := 97) hG hx4_50 ((hi_50 _ _)) dX9_startLists_58 (by decide) (fun c65 => ?_) (fun c65 => ?_)
                  · have h := t66 c65
                    clear t66 f67
                    refine V.iinc (pc := 97) (lv' := [(3, .int (sJ (wr (x3_39 + 1)))), (0, .ref (sA Δ 461)), (1, .ref (sA Δ 67)), (2, .ref (sA Δ 168)), (4, .int (sJ x4_50))]) hG dX9_startLists_97 3 rfl (by decide) rfl ?_
                    refine V.goto (pc := 100) (tgt := 39) hG dX9_startLists_100 (by decide) ?_
                    refine V.pick [1, 2, 3, 0] rfl ?_
                    exact ih39 (wr (x3_39 + 1)) i_50 ((sR_wr _)) hi_50 h
                  · have h := f67 c65
                    clear t66 f67
                    refine V.aload_n (pc := 61) hG dX9_startLists_61 rfl 2 rfl ?_
                    refine V.getRN (x := 266) (pc := 62) (ci := 4) (k := 1) (M := 5) (T := TX2) (o := 168) (kz := 1) hG a_168 a_168.n (by decide) hin_X2 rfl (by decide) (by decide) rfl kw_391 rfl ((hw).1 (168, 1, 266) (by decide)) (by decide) dX9_startLists_62 ?_
                    refine V.iload_n (pc := 65) hG dX9_startLists_65 rfl 3 rfl ?_
                    obtain ⟨g68, h⟩ := h
                    refine V.aald (pc := 66) 7 (z := 96) (o := 266) (x := x3_39) (y := 267 + x3_39) hG a_266 a_266.n (by decide) hx3_39 g68 (hw.2.1 (266, 96, 267) (by decide) _ g68.1 g68.2) (by omega) dX9_startLists_66 ?_
                    refine V.iload (pc := 67) hG dX9_startLists_67 4 rfl ?_
                    obtain ⟨g69, h⟩ := h
                    refine V.iald (pc := 69) (z := 100) (o := 267 + x3_39) hG (row_266 g68) ((row_266 g68)).n hx4_50 g69 dX9_startLists_69 ?_
                    obtain ⟨f72, t71⟩ := h
                    refine V.if_ne (pc := 70) (tgt := 91) hG ((hi_50 _ _)) dX9_startLists_70 (by decide) (fun c70 => ?_) (fun c70 => ?_)
                    · have h := t71 c70
                      clear t71 f72
                      exact jn91 x4_50 i_50 hx4_50 hi_50 h
                    · have h := f72 c70
                      clear t71 f72
                      refine V.aload_n (pc := 73) hG dX9_startLists_73 rfl 0 rfl ?_
                      refine V.getR (x := 466) (pc := 74) (ci := 11) (k := 4) (M := 7) (T := TX9) (o := 461) (kz := 4) hG a_461 a_461.n (by decide) hin_X9 rfl (by decide) (by decide) rfl kw_426 rfl ((hw).1 (461, 4, 466) (by decide)) (by decide) dX9_startLists_74 ?_
                      refine V.aload_n (pc := 77) hG dX9_startLists_77 rfl 2 rfl ?_
                      refine V.getRN (x := 169) (pc := 78) (ci := 4) (k := 0) (M := 5) (T := TX2) (o := 168) (kz := 0) hG a_168 a_168.n (by decide) hin_X2 rfl (by decide) (by decide) rfl kw_388 rfl ((hw).1 (168, 0, 169) (by decide)) (by decide) dX9_startLists_78 ?_
                      refine V.iload_n (pc := 81) hG dX9_startLists_81 rfl 3 rfl ?_
                      obtain ⟨g73, h⟩ := h
                      refine V.aald (pc := 82) 7 (z := 96) (o := 169) (x := x3_39) (y := 170 + x3_39) hG a_169 a_169.n (by decide) hx3_39 g73 (hw.2.1 (169, 96, 170) (by decide) _ g73.1 g73.2) (by omega) dX9_startLists_82 ?_
                      refine V.iload (pc := 83) hG dX9_startLists_83 4 rfl ?_
                      obtain ⟨g74, h⟩ := h
                      refine V.iald (pc := 85) (z := 100) (o := 170 + x3_39) hG (row_169 g73) ((row_169 g73)).n hx4_50 g74 dX9_startLists_85 ?_
                      refine V.dup2 (pc := 86) hG dX9_startLists_86 rfl rfl ?_
                      obtain ⟨g75, h⟩ := h
                      refine V.iald (pc := 87) (z := 96) (o := 466) hG a_466 a_466.n ((hi_50 _ _)) g75 dX9_startLists_87 ?_
                      refine V.iconst (pc := 88) hG dX9_startLists_88 ?_
                      refine V.iadd (pc := 89) hG dX9_startLists_89 ?_
                      obtain ⟨g76, h⟩ := h
                      refine V.iast (pc := 90) (z := 96) (o := 466) hG a_466 a_466.n ((hi_50 _ _)) g76 dX9_startLists_90 ?_
                      exact jn91 x4_50 (st i_50 466 (i_50 (170 + x3_39) x4_50) (wr (i_50 466 (i_50 (170 + x3_39) x4_50) + 1))) hx4_50 ((okI_st hi_50 ((sR_wr _)))) h
              refine V.pick [1, 2, 3, 4, 0] rfl ?_
              exact lp50 n63 0 i_39 ((sR_l rfl)) hi_39 h
        refine V.pick [1, 2, 3, 0] rfl ?_
        exact lp39 n59 0 i_2 ((sR_l rfl)) hi_2 h
      · have h := f58 c56
        clear t57 f58
        refine V.aload_n (pc := 10) hG dX9_startLists_10 rfl 0 rfl ?_
        refine V.getR (x := 464) (pc := 11) (ci := 11) (k := 2) (M := 7) (T := TX9) (o := 461) (kz := 2) hG a_461 a_461.n (by decide) hin_X9 rfl (by decide) (by decide) rfl kw_423 rfl ((hw).1 (461, 2, 464) (by decide)) (by decide) dX9_startLists_11 ?_
        refine V.iload_n (pc := 14) hG dX9_startLists_14 rfl 3 rfl ?_
        refine V.iconst (pc := 15) hG dX9_startLists_15 ?_
        obtain ⟨g77, h⟩ := h
        refine V.iast (pc := 16) (z := 96) (o := 464) hG a_464 a_464.n hx3_2 g77 dX9_startLists_16 ?_
        refine V.aload_n (pc := 17) hG dX9_startLists_17 rfl 0 rfl ?_
        refine V.getR (x := 465) (pc := 18) (ci := 11) (k := 3) (M := 7) (T := TX9) (o := 461) (kz := 3) hG a_461 a_461.n (by decide) hin_X9 rfl (by decide) (by decide) rfl kw_425 rfl ((hw).1 (461, 3, 465) (by decide)) (by decide) dX9_startLists_18 ?_
        refine V.iload_n (pc := 21) hG dX9_startLists_21 rfl 3 rfl ?_
        refine V.iconst (pc := 22) hG dX9_startLists_22 ?_
        obtain ⟨g78, h⟩ := h
        refine V.iast (pc := 23) (z := 96) (o := 465) hG a_465 a_465.n hx3_2 g78 dX9_startLists_23 ?_
        refine V.aload_n (pc := 24) hG dX9_startLists_24 rfl 0 rfl ?_
        refine V.getR (x := 466) (pc := 25) (ci := 11) (k := 4) (M := 7) (T := TX9) (o := 461) (kz := 4) hG a_461 a_461.n (by decide) hin_X9 rfl (by decide) (by decide) rfl kw_426 rfl ((hw).1 (461, 4, 466) (by decide)) (by decide) dX9_startLists_25 ?_
        refine V.iload_n (pc := 28) hG dX9_startLists_28 rfl 3 rfl ?_
        refine V.iconst (pc := 29) hG dX9_startLists_29 ?_
        obtain ⟨g79, h⟩ := h
        refine V.iast (pc := 30) (z := 96) (o := 466) hG a_466 a_466.n hx3_2 g79 dX9_startLists_30 ?_
        refine V.iinc (pc := 31) (lv' := [(3, .int (sJ (wr (x3_2 + 1)))), (0, .ref (sA Δ 461)), (1, .ref (sA Δ 67)), (2, .ref (sA Δ 168))]) hG dX9_startLists_31 3 rfl (by decide) rfl ?_
        refine V.goto (pc := 34) (tgt := 2) hG dX9_startLists_34 (by decide) ?_
        refine V.pick [1, 2, 3, 0] rfl ?_
        exact ih2 (wr (x3_2 + 1)) (st (st (st i_2 464 x3_2 (-1)) 465 x3_2 0) 466 x3_2 0) ((sR_wr _)) ((okI_st ((okI_st ((okI_st hi_2 ((sR_l rfl)))) ((sR_l rfl)))) ((sR_l rfl)))) h
  refine V.pick [1, 2, 3, 0] rfl ?_
  exact lp2 n55 0 i ((sR_l rfl)) hi h
set_option maxRecDepth 100000 in
set_option maxHeartbeats 4000000 in
theorem sm_X9_orderByLists (l : Launch) (Δ : Wd) {i r : MI}   {Q : MI → Prop} (hi : okI i) (hw : Wf r) (h : wp_X9_orderByLists  i r Q) : Met l yX9_orderByLists (Cond.code yX9_orderByLists cX9_orderByLists 5 none :: gW) (sRm 3 66) (sPc Δ [.ref (sA Δ 461), .ref (sA Δ 67), .ref (sA Δ 168)] i r) (sQv Δ (fun i' r' => r = r' ∧ Q i')) 0 0 (sFr Δ) := by
  refine Ct.v (by decide) rfl (Nat.le_of_ble_eq_true rfl) (fun Γ Q0 hG fin => ?_)
  have hG : okG Γ Δ l (sRm 3 66) cX9_orderByLists "Schedulary$Steps" 5 := hG
  show V Γ Δ 504 false i r 0 0 Q0 0 [(0, .ref (sA Δ 461)), (1, .ref (sA Δ 67)), (2, .ref (sA Δ 168))] []
  have jn43 : ∀  (ij43 : MI), okI ij43 → s43_X9_orderByLists ij43 r Q → V Γ Δ 504 false ij43 r 0 0 Q0 43 [] [] := by
    intro ij43 hij43 h
    exact fin dX9_orderByLists_43 hij43 hw ⟨rfl, h⟩
  refine V.aload_n (pc := 0) hG dX9_orderByLists_0 rfl 0 rfl ?_
  refine V.aload_n (pc := 1) hG dX9_orderByLists_1 rfl 1 rfl ?_
  refine V.aload_n (pc := 2) hG dX9_orderByLists_2 rfl 2 rfl ?_
  refine V.callVv (pc := 3) (As := [.ref (sA Δ 67), .ref (sA Δ 168)]) (stk := []) hG (sm_X9_startLists l Δ  hi hw h) mY_X9_startLists kw_768 kw_770 kw_46 a_461 (by decide) (q := (RX9, TX9, 7)) rfl rfl ⟨Nat.le_of_ble_eq_true rfl, Nat.le_of_ble_eq_true rfl, Nat.le_of_ble_eq_true rfl, Nat.le_of_ble_eq_true rfl⟩ rfl (Nat.le_of_ble_eq_true rfl) dX9_orderByLists_3 rfl (fun i2 r3 hi5 hw6 hq7 => ?_)
  obtain ⟨e40, h⟩ := hq7
  subst e40
  refine V.aload_n (pc := 6) hG dX9_orderByLists_6 rfl 1 rfl ?_
  refine V.getIN (pc := 7) (ci := 2) (k := 4) (M := 5) (T := TX0) (o := 67) (kz := 4) hG a_67 a_67.n (by decide) hin_X0 rfl (by decide) (by decide) rfl kw_365 rfl dX9_orderByLists_7 ?_
  refine V.istore_n (pc := 10) (lv' := [(3, .int (sJ (i2 67 4))), (0, .ref (sA Δ 461)), (1, .ref (sA Δ 67)), (2, .ref (sA Δ 168))]) hG dX9_orderByLists_10 rfl (by decide) rfl ?_
  refine V.iconst (pc := 11) hG dX9_orderByLists_11 ?_
  refine V.istore (pc := 12) (lv' := [(4, .int (sJ 0)), (3, .int (sJ (i2 67 4))), (0, .ref (sA Δ 461)), (1, .ref (sA Δ 67)), (2, .ref (sA Δ 168))]) hG dX9_orderByLists_12 (by decide) rfl ?_
  obtain ⟨n23, h⟩ := h
  have lp14 : ∀ (m14 : Nat) (x3_14 : Int) (x4_14 : Int) (i_14 : MI), sR x3_14 → sR x4_14 → okI i_14 → LoopP (b14_X9_orderByLists r Q) m14 (x3_14, x4_14, i_14) → V Γ Δ 504 false i_14 r 0 0 Q0 14 [(0, .ref (sA Δ 461)), (1, .ref (sA Δ 67)), (2, .ref (sA Δ 168)), (3, .int (sJ x3_14)), (4, .int (sJ x4_14))] [] := by
    intro m14
    induction m14 with
    | zero => intro x3_14 x4_14 i_14 hx3_14 hx4_14 hi_14 h; exact h.elim
    | succ m14 ih14 =>
      intro x3_14 x4_14 i_14 hx3_14 hx4_14 hi_14 h
      have h := LoopP_succ h
      refine V.iload (pc := 14) hG dX9_orderByLists_14 4 rfl ?_
      refine V.sipush (pc := 16) hG dX9_orderByLists_16 (by decide) ?_
      obtain ⟨t25, f26⟩ := h
      refine V.icmp_ge (pc := 19) (tgt := 43) hG hx4_14 ((sR_l rfl)) dX9_orderByLists_19 (by decide) (fun c24 => ?_) (fun c24 => ?_)
      · have h := t25 c24
        clear t25 f26
        refine V.pick [] rfl ?_
        exact jn43 i_14 hi_14 h
      · have h := f26 c24
        clear t25 f26
        refine V.iload_n (pc := 22) hG dX9_orderByLists_22 rfl 3 rfl ?_
        obtain ⟨t28, f29⟩ := h
        refine V.if_le (pc := 23) (tgt := 43) hG hx3_14 dX9_orderByLists_23 (by decide) (fun c27 => ?_) (fun c27 => ?_)
        · have h := t28 c27
          clear t28 f29
          refine V.pick [] rfl ?_
          exact jn43 i_14 hi_14 h
        · have h := f29 c27
          clear t28 f29
          refine V.iload_n (pc := 26) hG dX9_orderByLists_26 rfl 3 rfl ?_
          refine V.aload_n (pc := 27) hG dX9_orderByLists_27 rfl 0 rfl ?_
          refine V.aload_n (pc := 28) hG dX9_orderByLists_28 rfl 1 rfl ?_
          refine V.aload_n (pc := 29) hG dX9_orderByLists_29 rfl 2 rfl ?_
          refine V.iload (pc := 30) hG dX9_orderByLists_30 4 rfl ?_
          refine V.callVi (pc := 32) (As := [.ref (sA Δ 67), .ref (sA Δ 168), .int (sJ x4_14)]) (stk := [.int (sJ x3_14)]) hG (sm_X9_beginAllAt l Δ hx4_14 hi_14 hw h) mY_X9_beginAllAt kw_772 kw_774 kw_47 a_461 (by decide) (q := (RX9, TX9, 7)) rfl rfl ⟨Nat.le_of_ble_eq_true rfl, Nat.le_of_ble_eq_true rfl, Nat.le_of_ble_eq_true rfl, Nat.le_of_ble_eq_true rfl⟩ rfl (Nat.le_of_ble_eq_true rfl) dX9_orderByLists_32 rfl (fun v30 i31 r32 hv33 hi34 hw35 hq36 => ?_)
          obtain ⟨e38, h⟩ := hq36
          subst e38
          refine V.isub (pc := 35) hG dX9_orderByLists_35 ?_
          refine V.istore_n (pc := 36) (lv' := [(3, .int (sJ (wr (x3_14 - v30)))), (0, .ref (sA Δ 461)), (1, .ref (sA Δ 67)), (2, .ref (sA Δ 168)), (4, .int (sJ x4_14))]) hG dX9_orderByLists_36 rfl (by decide) rfl ?_
          refine V.iinc (pc := 37) (lv' := [(4, .int (sJ (wr (x4_14 + 1)))), (3, .int (sJ (wr (x3_14 - v30)))), (0, .ref (sA Δ 461)), (1, .ref (sA Δ 67)), (2, .ref (sA Δ 168))]) hG dX9_orderByLists_37 4 rfl (by decide) rfl ?_
          refine V.goto (pc := 40) (tgt := 14) hG dX9_orderByLists_40 (by decide) ?_
          refine V.pick [2, 3, 4, 1, 0] rfl ?_
          exact ih14 (wr (x3_14 - v30)) (wr (x4_14 + 1)) i31 ((sR_wr _)) ((sR_wr _)) hi34 h
  refine V.pick [2, 3, 4, 1, 0] rfl ?_
  exact lp14 n23 (i2 67 4) 0 i2 ((hi5 _ _)) ((sR_l rfl)) hi5 h
set_option maxRecDepth 100000 in
set_option maxHeartbeats 4000000 in
theorem sm_X9_orderLatest (l : Launch) (Δ : Wd) {i r : MI}   {Q : MI → Prop} (hi : okI i) (hw : Wf r) (h : wp_X9_orderLatest  i r Q) : Met l yX9_orderLatest (Cond.code yX9_orderLatest cX9_orderLatest 7 none :: gW) (sRm 2 44) (sPc Δ [.ref (sA Δ 461), .ref (sA Δ 67), .ref (sA Δ 168)] i r) (sQv Δ (fun i' r' => r = r' ∧ Q i')) 0 0 (sFr Δ) := by
  refine Ct.v (by decide) rfl (Nat.le_of_ble_eq_true rfl) (fun Γ Q0 hG fin => ?_)
  have hG : okG Γ Δ l (sRm 2 44) cX9_orderLatest "Schedulary$Steps" 7 := hG
  show V Γ Δ 504 false i r 0 0 Q0 0 [(0, .ref (sA Δ 461)), (1, .ref (sA Δ 67)), (2, .ref (sA Δ 168))] []
  refine V.aload_n (pc := 0) hG dX9_orderLatest_0 rfl 1 rfl ?_
  refine V.aload_n (pc := 1) hG dX9_orderLatest_1 rfl 0 rfl ?_
  refine V.getR (x := 462) (pc := 2) (ci := 11) (k := 0) (M := 7) (T := TX9) (o := 461) (kz := 0) hG a_461 a_461.n (by decide) hin_X9 rfl (by decide) (by decide) rfl kw_419 rfl ((hw).1 (461, 0, 462) (by decide)) (by decide) dX9_orderLatest_2 ?_
  refine V.callVNi (pc := 5) (As := [.ref (sA Δ 462)]) (stk := []) hG (sm_X0_endOf l Δ a_462 hi hw h) mY_X0_endOf kw_756 kw_758 kw_44 a_67 (by decide) (q := (RX0, TX0, 5)) rfl rfl ⟨Nat.le_of_ble_eq_true rfl, Nat.le_of_ble_eq_true rfl, Nat.le_of_ble_eq_true rfl, Nat.le_of_ble_eq_true rfl⟩ rfl (Nat.le_of_ble_eq_true rfl) dX9_orderLatest_5 rfl (fun v1 i2 r3 hv4 hi5 hw6 hq7 => ?_)
  obtain ⟨e85, e86, h⟩ := hq7
  subst e85
  subst e86
  refine V.istore_n (pc := 8) (lv' := [(3, .int (sJ v1)), (0, .ref (sA Δ 461)), (1, .ref (sA Δ 67)), (2, .ref (sA Δ 168))]) hG dX9_orderLatest_8 rfl (by decide) rfl ?_
  refine V.aload_n (pc := 9) hG dX9_orderLatest_9 rfl 2 rfl ?_
  refine V.getIN (pc := 10) (ci := 2) (k := 4) (M := 5) (T := TX0) (o := 67) (kz := 4) hG a_67 a_67.n (by decide) hin_X0 rfl (by decide) (by decide) rfl kw_365 rfl dX9_orderLatest_10 ?_
  refine V.iconst (pc := 13) hG dX9_orderLatest_13 ?_
  refine V.isub (pc := 14) hG dX9_orderLatest_14 ?_
  refine V.istore (pc := 15) (lv' := [(4, .int (sJ (wr (i 67 4 - 1)))), (3, .int (sJ v1)), (0, .ref (sA Δ 461)), (1, .ref (sA Δ 67)), (2, .ref (sA Δ 168))]) hG dX9_orderLatest_15 (by decide) rfl ?_
  obtain ⟨n54, h⟩ := h
  have lp17 : ∀ (m17 : Nat) (x4_17 : Int) (i_17 : MI), sR x4_17 → okI i_17 → LoopP (b17_X9_orderLatest v1 r Q) m17 (x4_17, i_17) → V Γ Δ 504 false i_17 r 0 0 Q0 17 [(0, .ref (sA Δ 461)), (1, .ref (sA Δ 67)), (2, .ref (sA Δ 168)), (3, .int (sJ v1)), (4, .int (sJ x4_17))] [] := by
    intro m17
    induction m17 with
    | zero => intro x4_17 i_17 hx4_17 hi_17 h; exact h.elim
    | succ m17 ih17 =>
      intro x4_17 i_17 hx4_17 hi_17 h
      have h := LoopP_succ h
      refine V.iload (pc := 17) hG dX9_orderLatest_17 4 rfl ?_
      obtain ⟨t56, f57⟩ := h
      refine V.if_lt (pc := 19) (tgt := 124) hG hx4_17 dX9_orderLatest_19 (by decide) (fun c55 => ?_) (fun c55 => ?_)
      · have h := t56 c55
        clear t56 f57
        exact fin dX9_orderLatest_124 hi_17 hw ⟨rfl, h⟩
      · have h := f57 c55
        clear t56 f57
        refine V.aload_n (pc := 22) hG dX9_orderLatest_22 rfl 0 rfl ?_
        refine V.getR (x := 463) (pc := 23) (ci := 11) (k := 1) (M := 7) (T := TX9) (o := 461) (kz := 1) hG a_461 a_461.n (by decide) hin_X9 rfl (by decide) (by decide) rfl kw_421 rfl ((hw).1 (461, 1, 463) (by decide)) (by decide) dX9_orderLatest_23 ?_
        refine V.iload (pc := 26) hG dX9_orderLatest_26 4 rfl ?_
        refine V.iload_n (pc := 28) hG dX9_orderLatest_28 rfl 3 rfl ?_
        refine V.aload_n (pc := 29) hG dX9_orderLatest_29 rfl 1 rfl ?_
        refine V.iload (pc := 30) hG dX9_orderLatest_30 4 rfl ?_
        refine V.callVNi (pc := 32) (As := [.int (sJ x4_17)]) (stk := [.int (sJ v1), .int (sJ x4_17), .ref (sA Δ 463)]) hG (sm_X0_cyclesOf l Δ hx4_17 hi_17 hw h) mY_X0_cyclesOf kw_762 kw_688 kw_29 a_67 (by decide) (q := (RX0, TX0, 5)) rfl rfl ⟨Nat.le_of_ble_eq_true rfl, Nat.le_of_ble_eq_true rfl, Nat.le_of_ble_eq_true rfl, Nat.le_of_ble_eq_true rfl⟩ rfl (Nat.le_of_ble_eq_true rfl) dX9_orderLatest_32 rfl (fun v58 i59 r60 hv61 hi62 hw63 hq64 => ?_)
        obtain ⟨e83, e84, h⟩ := hq64
        subst e83
        subst e84
        refine V.isub (pc := 35) hG dX9_orderLatest_35 ?_
        obtain ⟨g65, h⟩ := h
        refine V.iast (pc := 36) (z := 96) (o := 463) hG a_463 a_463.n hx4_17 g65 dX9_orderLatest_36 ?_
        refine V.iconst (pc := 37) hG dX9_orderLatest_37 ?_
        refine V.istore (pc := 38) (lv' := [(5, .int (sJ 0)), (0, .ref (sA Δ 461)), (1, .ref (sA Δ 67)), (2, .ref (sA Δ 168)), (3, .int (sJ v1)), (4, .int (sJ x4_17))]) hG dX9_orderLatest_38 (by decide) rfl ?_
        obtain ⟨n66, h⟩ := h
        have lp40 : ∀ (m40 : Nat) (x5_40 : Int) (i_40 : MI), sR x5_40 → okI i_40 → LoopP (b40_X9_orderLatest v1 x4_17 r Q (LoopP (b17_X9_orderLatest v1 r Q) m17)) m40 (x5_40, i_40) → V Γ Δ 504 false i_40 r 0 0 Q0 40 [(0, .ref (sA Δ 461)), (1, .ref (sA Δ 67)), (2, .ref (sA Δ 168)), (3, .int (sJ v1)), (4, .int (sJ x4_17)), (5, .int (sJ x5_40))] [] := by
          intro m40
          induction m40 with
          | zero => intro x5_40 i_40 hx5_40 hi_40 h; exact h.elim
          | succ m40 ih40 =>
            intro x5_40 i_40 hx5_40 hi_40 h
            have h := LoopP_succ h
            have jn112 : ∀ (x5j112 : Int) (ij112 : MI), sR x5j112 → okI ij112 → s112_X9_orderLatest v1 x4_17 x5j112 ij112 r Q (LoopP (b17_X9_orderLatest v1 r Q) m17) (LoopP (b40_X9_orderLatest v1 x4_17 r Q (LoopP (b17_X9_orderLatest v1 r Q) m17)) m40) → V Γ Δ 504 false ij112 r 0 0 Q0 112 [(0, .ref (sA Δ 461)), (1, .ref (sA Δ 67)), (2, .ref (sA Δ 168)), (3, .int (sJ v1)), (4, .int (sJ x4_17)), (5, .int (sJ x5j112))] [] := by
              intro x5j112 ij112 hx5j112 hij112 h
              refine V.iinc (pc := 112) (lv' := [(5, .int (sJ (wr (x5j112 + 1)))), (0, .ref (sA Δ 461)), (1, .ref (sA Δ 67)), (2, .ref (sA Δ 168)), (3, .int (sJ v1)), (4, .int (sJ x4_17))]) hG dX9_orderLatest_112 5 rfl (by decide) rfl ?_
              refine V.goto (pc := 115) (tgt := 40) hG dX9_orderLatest_115 (by decide) ?_
              refine V.pick [1, 2, 3, 4, 5, 0] rfl ?_
              exact ih40 (wr (x5j112 + 1)) ij112 ((sR_wr _)) hij112 h
            refine V.iload (pc := 40) hG dX9_orderLatest_40 5 rfl ?_
            refine V.aload_n (pc := 42) hG dX9_orderLatest_42 rfl 2 rfl ?_
            refine V.getRN (x := 460) (pc := 43) (ci := 4) (k := 3) (M := 5) (T := TX2) (o := 168) (kz := 3) hG a_168 a_168.n (by decide) hin_X2 rfl (by decide) (by decide) rfl kw_398 rfl ((hw).1 (168, 3, 460) (by decide)) (by decide) dX9_orderLatest_43 ?_
            refine V.iload (pc := 46) hG dX9_orderLatest_46 4 rfl ?_
            obtain ⟨g67, h⟩ := h
            refine V.iald (pc := 48) (z := 96) (o := 460) hG a_460 a_460.n hx4_17 g67 dX9_orderLatest_48 ?_
            obtain ⟨t69, f70⟩ := h
            refine V.icmp_ge (pc := 49) (tgt := 118) hG hx5_40 ((hi_40 _ _)) dX9_orderLatest_49 (by decide) (fun c68 => ?_) (fun c68 => ?_)
            · have h := t69 c68
              clear t69 f70
              refine V.iinc (pc := 118) (lv' := [(4, .int (sJ (wr (x4_17 + (-1))))), (0, .ref (sA Δ 461)), (1, .ref (sA Δ 67)), (2, .ref (sA Δ 168)), (3, .int (sJ v1)), (5, .int (sJ x5_40))]) hG dX9_orderLatest_118 4 rfl (by decide) rfl ?_
              refine V.goto (pc := 121) (tgt := 17) hG dX9_orderLatest_121 (by decide) ?_
              refine V.pick [1, 2, 3, 4, 0] rfl ?_
              exact ih17 (wr (x4_17 + (-1))) i_40 ((sR_wr _)) hi_40 h
            · have h := f70 c68
              clear t69 f70
              refine V.aload_n (pc := 52) hG dX9_orderLatest_52 rfl 2 rfl ?_
              refine V.getRN (x := 266) (pc := 53) (ci := 4) (k := 1) (M := 5) (T := TX2) (o := 168) (kz := 1) hG a_168 a_168.n (by decide) hin_X2 rfl (by decide) (by decide) rfl kw_391 rfl ((hw).1 (168, 1, 266) (by decide)) (by decide) dX9_orderLatest_53 ?_
              refine V.iload (pc := 56) hG dX9_orderLatest_56 4 rfl ?_
              obtain ⟨g71, h⟩ := h
              refine V.aald (pc := 58) 7 (z := 96) (o := 266) (x := x4_17) (y := 267 + x4_17) hG a_266 a_266.n (by decide) hx4_17 g71 (hw.2.1 (266, 96, 267) (by decide) _ g71.1 g71.2) (by omega) dX9_orderLatest_58 ?_
              refine V.iload (pc := 59) hG dX9_orderLatest_59 5 rfl ?_
              obtain ⟨g72, h⟩ := h
              refine V.iald (pc := 61) (z := 100) (o := 267 + x4_17) hG (row_266 g71) ((row_266 g71)).n hx5_40 g72 dX9_orderLatest_61 ?_
              obtain ⟨f75, t74⟩ := h
              refine V.if_ne (pc := 62) (tgt := 112) hG ((hi_40 _ _)) dX9_orderLatest_62 (by decide) (fun c73 => ?_) (fun c73 => ?_)
              · have h := t74 c73
                clear t74 f75
                exact jn112 x5_40 i_40 hx5_40 hi_40 h
              · have h := f75 c73
                clear t74 f75
                refine V.aload_n (pc := 65) hG dX9_orderLatest_65 rfl 2 rfl ?_
                refine V.getRN (x := 169) (pc := 66) (ci := 4) (k := 0) (M := 5) (T := TX2) (o := 168) (kz := 0) hG a_168 a_168.n (by decide) hin_X2 rfl (by decide) (by decide) rfl kw_388 rfl ((hw).1 (168, 0, 169) (by decide)) (by decide) dX9_orderLatest_66 ?_
                refine V.iload (pc := 69) hG dX9_orderLatest_69 4 rfl ?_
                obtain ⟨g76, h⟩ := h
                refine V.aald (pc := 71) 7 (z := 96) (o := 169) (x := x4_17) (y := 170 + x4_17) hG a_169 a_169.n (by decide) hx4_17 g76 (hw.2.1 (169, 96, 170) (by decide) _ g76.1 g76.2) (by omega) dX9_orderLatest_71 ?_
                refine V.iload (pc := 72) hG dX9_orderLatest_72 5 rfl ?_
                obtain ⟨g77, h⟩ := h
                refine V.iald (pc := 74) (z := 100) (o := 170 + x4_17) hG (row_169 g76) ((row_169 g76)).n hx5_40 g77 dX9_orderLatest_74 ?_
                refine V.istore (pc := 75) (lv' := [(6, .int (sJ (i_40 (170 + x4_17) x5_40))), (0, .ref (sA Δ 461)), (1, .ref (sA Δ 67)), (2, .ref (sA Δ 168)), (3, .int (sJ v1)), (4, .int (sJ x4_17)), (5, .int (sJ x5_40))]) hG dX9_orderLatest_75 (by decide) rfl ?_
                refine V.aload_n (pc := 77) hG dX9_orderLatest_77 rfl 1 rfl ?_
                refine V.getR (x := 463) (pc := 78) (ci := 11) (k := 1) (M := 7) (T := TX9) (o := 461) (kz := 1) hG a_461 a_461.n (by decide) hin_X9 rfl (by decide) (by decide) rfl kw_421 rfl ((hw).1 (461, 1, 463) (by decide)) (by decide) dX9_orderLatest_78 ?_
                refine V.iload (pc := 81) hG dX9_orderLatest_81 5 rfl ?_
                refine V.aload_n (pc := 83) hG dX9_orderLatest_83 rfl 1 rfl ?_
                refine V.getR (x := 463) (pc := 84) (ci := 11) (k := 1) (M := 7) (T := TX9) (o := 461) (kz := 1) hG a_461 a_461.n (by decide) hin_X9 rfl (by decide) (by decide) rfl kw_421 rfl ((hw).1 (461, 1, 463) (by decide)) (by decide) dX9_orderLatest_84 ?_
                refine V.iload (pc := 87) hG dX9_orderLatest_87 5 rfl ?_
                obtain ⟨g78, h⟩ := h
                refine V.iald (pc := 89) (z := 96) (o := 463) hG a_463 a_463.n hx4_17 g78 dX9_orderLatest_89 ?_
                refine V.aload_n (pc := 90) hG dX9_orderLatest_90 rfl 1 rfl ?_
                refine V.getR (x := 463) (pc := 91) (ci := 11) (k := 1) (M := 7) (T := TX9) (o := 461) (kz := 1) hG a_461 a_461.n (by decide) hin_X9 rfl (by decide) (by decide) rfl kw_421 rfl ((hw).1 (461, 1, 463) (by decide)) (by decide) dX9_orderLatest_91 ?_
                refine V.iload (pc := 94) hG dX9_orderLatest_94 0 rfl ?_
                obtain ⟨g79, h⟩ := h
                refine V.iald (pc := 96) (z := 96) (o := 463) hG a_463 a_463.n ((hi_40 _ _)) g79 dX9_orderLatest_96 ?_
                refine V.aload_n (pc := 97) hG dX9_orderLatest_97 rfl 3 rfl ?_
                refine V.getRN (x := 363) (pc := 98) (ci := 4) (k := 2) (M := 5) (T := TX2) (o := 168) (kz := 2) hG a_168 a_168.n (by decide) hin_X2 rfl (by decide) (by decide) rfl kw_394 rfl ((hw).1 (168, 2, 363) (by decide)) (by decide) dX9_orderLatest_98 ?_
                refine V.iload (pc := 101) hG dX9_orderLatest_101 5 rfl ?_
                obtain ⟨g80, h⟩ := h
                refine V.aald (pc := 103) 7 (z := 96) (o := 363) (x := x4_17) (y := 364 + x4_17) hG a_363 a_363.n (by decide) hx4_17 g80 (hw.2.1 (363, 96, 364) (by decide) _ g80.1 g80.2) (by omega) dX9_orderLatest_103 ?_
                refine V.iload (pc := 104) hG dX9_orderLatest_104 6 rfl ?_
                obtain ⟨g81, h⟩ := h
                refine V.iald (pc := 106) (z := 100) (o := 364 + x4_17) hG (row_363 g80) ((row_363 g80)).n hx5_40 g81 dX9_orderLatest_106 ?_
                refine V.isub (pc := 107) hG dX9_orderLatest_107 ?_
                refine V.mmin (pc := 108) hG ((hi_40 _ _)) ((sR_wr _)) kw_763 kw_646 kw_121 kw_min ⟨Nat.le_of_ble_eq_true rfl, Nat.le_of_ble_eq_true rfl, Nat.le_of_ble_eq_true rfl, Nat.le_of_ble_eq_true rfl⟩ dX9_orderLatest_108 ?_
                obtain ⟨g82, h⟩ := h
                refine V.iast (pc := 111) (z := 96) (o := 463) hG a_463 a_463.n hx4_17 g82 dX9_orderLatest_111 ?_
                refine V.pick [1, 2, 3, 4, 5, 6] rfl ?_
                exact jn112 x5_40 (st i_40 463 x4_17 (min (i_40 463 x4_17) (wr (i_40 463 (i_40 (170 + x4_17) x5_40) - i_40 (364 + x4_17) x5_40)))) hx5_40 ((okI_st hi_40 ((sR_min ((hi_40 _ _)) ((sR_wr _)))))) h
        refine V.pick [1, 2, 3, 4, 5, 0] rfl ?_
        exact lp40 n66 0 (st i_17 463 x4_17 (wr (v1 - v58))) ((sR_l rfl)) ((okI_st hi_17 ((sR_wr _)))) h
  refine V.pick [2, 3, 4, 1, 0] rfl ?_
  exact lp17 n54 (wr (i 67 4 - 1)) i ((sR_wr _)) hi h
set_option maxRecDepth 100000 in
set_option maxHeartbeats 4000000 in
theorem sm_X9_orderSoonest (l : Launch) (Δ : Wd) {i r : MI}   {Q : MI → Prop} (hi : okI i) (hw : Wf r) (h : wp_X9_orderSoonest  i r Q) : Met l yX9_orderSoonest (Cond.code yX9_orderSoonest cX9_orderSoonest 6 none :: gW) (sRm 1 15) (sPc Δ [.ref (sA Δ 461), .ref (sA Δ 67), .ref (sA Δ 168)] i r) (sQv Δ (fun i' r' => r = r' ∧ Q i')) 0 0 (sFr Δ) := by
  refine Ct.v (by decide) rfl (Nat.le_of_ble_eq_true rfl) (fun Γ Q0 hG fin => ?_)
  have hG : okG Γ Δ l (sRm 1 15) cX9_orderSoonest "Schedulary$Steps" 6 := hG
  show V Γ Δ 504 false i r 0 0 Q0 0 [(0, .ref (sA Δ 461)), (1, .ref (sA Δ 67)), (2, .ref (sA Δ 168))] []
  refine V.iconst (pc := 0) hG dX9_orderSoonest_0 ?_
  refine V.istore_n (pc := 1) (lv' := [(3, .int (sJ 0)), (0, .ref (sA Δ 461)), (1, .ref (sA Δ 67)), (2, .ref (sA Δ 168))]) hG dX9_orderSoonest_1 rfl (by decide) rfl ?_
  obtain ⟨n62, h⟩ := h
  have lp2 : ∀ (m2 : Nat) (x3_2 : Int) (i_2 : MI), sR x3_2 → okI i_2 → LoopP (b2_X9_orderSoonest r Q) m2 (x3_2, i_2) → V Γ Δ 504 false i_2 r 0 0 Q0 2 [(0, .ref (sA Δ 461)), (1, .ref (sA Δ 67)), (2, .ref (sA Δ 168)), (3, .int (sJ x3_2))] [] := by
    intro m2
    induction m2 with
    | zero => intro x3_2 i_2 hx3_2 hi_2 h; exact h.elim
    | succ m2 ih2 =>
      intro x3_2 i_2 hx3_2 hi_2 h
      have h := LoopP_succ h
      refine V.iload_n (pc := 2) hG dX9_orderSoonest_2 rfl 3 rfl ?_
      refine V.aload_n (pc := 3) hG dX9_orderSoonest_3 rfl 1 rfl ?_
      refine V.getIN (pc := 4) (ci := 2) (k := 4) (M := 5) (T := TX0) (o := 67) (kz := 4) hG a_67 a_67.n (by decide) hin_X0 rfl (by decide) (by decide) rfl kw_365 rfl dX9_orderSoonest_4 ?_
      obtain ⟨t64, f65⟩ := h
      refine V.icmp_ge (pc := 7) (tgt := 23) hG hx3_2 ((hi_2 _ _)) dX9_orderSoonest_7 (by decide) (fun c63 => ?_) (fun c63 => ?_)
      · have h := t64 c63
        clear t64 f65
        refine V.iconst (pc := 23) hG dX9_orderSoonest_23 ?_
        refine V.istore_n (pc := 24) (lv' := [(3, .int (sJ 0)), (0, .ref (sA Δ 461)), (1, .ref (sA Δ 67)), (2, .ref (sA Δ 168))]) hG dX9_orderSoonest_24 rfl (by decide) rfl ?_
        obtain ⟨n66, h⟩ := h
        have lp25 : ∀ (m25 : Nat) (x3_25 : Int) (i_25 : MI), sR x3_25 → okI i_25 → LoopP (b25_X9_orderSoonest r Q) m25 (x3_25, i_25) → V Γ Δ 504 false i_25 r 0 0 Q0 25 [(0, .ref (sA Δ 461)), (1, .ref (sA Δ 67)), (2, .ref (sA Δ 168)), (3, .int (sJ x3_25))] [] := by
          intro m25
          induction m25 with
          | zero => intro x3_25 i_25 hx3_25 hi_25 h; exact h.elim
          | succ m25 ih25 =>
            intro x3_25 i_25 hx3_25 hi_25 h
            have h := LoopP_succ h
            refine V.iload_n (pc := 25) hG dX9_orderSoonest_25 rfl 3 rfl ?_
            refine V.aload_n (pc := 26) hG dX9_orderSoonest_26 rfl 1 rfl ?_
            refine V.getIN (pc := 27) (ci := 2) (k := 4) (M := 5) (T := TX0) (o := 67) (kz := 4) hG a_67 a_67.n (by decide) hin_X0 rfl (by decide) (by decide) rfl kw_365 rfl dX9_orderSoonest_27 ?_
            obtain ⟨t68, f69⟩ := h
            refine V.icmp_ge (pc := 30) (tgt := 115) hG hx3_25 ((hi_25 _ _)) dX9_orderSoonest_30 (by decide) (fun c67 => ?_) (fun c67 => ?_)
            · have h := t68 c67
              clear t68 f69
              exact fin dX9_orderSoonest_115 hi_25 hw ⟨rfl, h⟩
            · have h := f69 c67
              clear t68 f69
              refine V.iconst (pc := 33) hG dX9_orderSoonest_33 ?_
              refine V.istore (pc := 34) (lv' := [(4, .int (sJ 0)), (0, .ref (sA Δ 461)), (1, .ref (sA Δ 67)), (2, .ref (sA Δ 168)), (3, .int (sJ x3_25))]) hG dX9_orderSoonest_34 (by decide) rfl ?_
              obtain ⟨n70, h⟩ := h
              have lp36 : ∀ (m36 : Nat) (x4_36 : Int) (i_36 : MI), sR x4_36 → okI i_36 → LoopP (b36_X9_orderSoonest x3_25 r Q (LoopP (b25_X9_orderSoonest r Q) m25)) m36 (x4_36, i_36) → V Γ Δ 504 false i_36 r 0 0 Q0 36 [(0, .ref (sA Δ 461)), (1, .ref (sA Δ 67)), (2, .ref (sA Δ 168)), (3, .int (sJ x3_25)), (4, .int (sJ x4_36))] [] := by
                intro m36
                induction m36 with
                | zero => intro x4_36 i_36 hx4_36 hi_36 h; exact h.elim
                | succ m36 ih36 =>
                  intro x4_36 i_36 hx4_36 hi_36 h
                  have h := LoopP_succ h
                  have jn103 : ∀ (x4j103 : Int) (ij103 : MI), sR x4j103 → okI ij103 → s103_X9_orderSoonest x3_25 x4j103 ij103 r Q (LoopP (b25_X9_orderSoonest r Q) m25) (LoopP (b36_X9_orderSoonest x3_25 r Q (LoopP (b25_X9_orderSoonest r Q) m25)) m36) → V Γ Δ 504 false ij103 r 0 0 Q0 103 [(0, .ref (sA Δ 461)), (1, .ref (sA Δ 67)), (2, .ref (sA Δ 168)), (3, .int (sJ x3_25)), (4, .int (sJ x4j103))] [] := by
                    intro x4j103 ij103 hx4j103 hij103 h
                    refine V.iinc (pc := 103) (lv' := [(4, .int (sJ (wr (x4j103 + 1)))), (0, .ref (sA Δ 461)), (1, .ref (sA Δ 67)), (2, .ref (sA Δ 168)), (3, .int (sJ x3_25))]) hG dX9_orderSoonest_103 4 rfl (by decide) rfl ?_
                    refine V.goto (pc := 106) (tgt := 36) hG dX9_orderSoonest_106 (by decide) ?_
                    refine V.pick [1, 2, 3, 4, 0] rfl ?_
                    exact ih36 (wr (x4j103 + 1)) ij103 ((sR_wr _)) hij103 h
                  refine V.iload (pc := 36) hG dX9_orderSoonest_36 4 rfl ?_
                  refine V.aload_n (pc := 38) hG dX9_orderSoonest_38 rfl 2 rfl ?_
                  refine V.getRN (x := 460) (pc := 39) (ci := 4) (k := 3) (M := 5) (T := TX2) (o := 168) (kz := 3) hG a_168 a_168.n (by decide) hin_X2 rfl (by decide) (by decide) rfl kw_398 rfl ((hw).1 (168, 3, 460) (by decide)) (by decide) dX9_orderSoonest_39 ?_
                  refine V.iload_n (pc := 42) hG dX9_orderSoonest_42 rfl 3 rfl ?_
                  obtain ⟨g71, h⟩ := h
                  refine V.iald (pc := 43) (z := 96) (o := 460) hG a_460 a_460.n hx3_25 g71 dX9_orderSoonest_43 ?_
                  obtain ⟨t73, f74⟩ := h
                  refine V.icmp_ge (pc := 44) (tgt := 109) hG hx4_36 ((hi_36 _ _)) dX9_orderSoonest_44 (by decide) (fun c72 => ?_) (fun c72 => ?_)
                  · have h := t73 c72
                    clear t73 f74
                    refine V.iinc (pc := 109) (lv' := [(3, .int (sJ (wr (x3_25 + 1)))), (0, .ref (sA Δ 461)), (1, .ref (sA Δ 67)), (2, .ref (sA Δ 168)), (4, .int (sJ x4_36))]) hG dX9_orderSoonest_109 3 rfl (by decide) rfl ?_
                    refine V.goto (pc := 112) (tgt := 25) hG dX9_orderSoonest_112 (by decide) ?_
                    refine V.pick [1, 2, 3, 0] rfl ?_
                    exact ih25 (wr (x3_25 + 1)) i_36 ((sR_wr _)) hi_36 h
                  · have h := f74 c72
                    clear t73 f74
                    refine V.aload_n (pc := 47) hG dX9_orderSoonest_47 rfl 2 rfl ?_
                    refine V.getRN (x := 266) (pc := 48) (ci := 4) (k := 1) (M := 5) (T := TX2) (o := 168) (kz := 1) hG a_168 a_168.n (by decide) hin_X2 rfl (by decide) (by decide) rfl kw_391 rfl ((hw).1 (168, 1, 266) (by decide)) (by decide) dX9_orderSoonest_48 ?_
                    refine V.iload_n (pc := 51) hG dX9_orderSoonest_51 rfl 3 rfl ?_
                    obtain ⟨g75, h⟩ := h
                    refine V.aald (pc := 52) 7 (z := 96) (o := 266) (x := x3_25) (y := 267 + x3_25) hG a_266 a_266.n (by decide) hx3_25 g75 (hw.2.1 (266, 96, 267) (by decide) _ g75.1 g75.2) (by omega) dX9_orderSoonest_52 ?_
                    refine V.iload (pc := 53) hG dX9_orderSoonest_53 4 rfl ?_
                    obtain ⟨g76, h⟩ := h
                    refine V.iald (pc := 55) (z := 100) (o := 267 + x3_25) hG (row_266 g75) ((row_266 g75)).n hx4_36 g76 dX9_orderSoonest_55 ?_
                    obtain ⟨f79, t78⟩ := h
                    refine V.if_ne (pc := 56) (tgt := 103) hG ((hi_36 _ _)) dX9_orderSoonest_56 (by decide) (fun c77 => ?_) (fun c77 => ?_)
                    · have h := t78 c77
                      clear t78 f79
                      exact jn103 x4_36 i_36 hx4_36 hi_36 h
                    · have h := f79 c77
                      clear t78 f79
                      refine V.aload_n (pc := 59) hG dX9_orderSoonest_59 rfl 2 rfl ?_
                      refine V.getRN (x := 169) (pc := 60) (ci := 4) (k := 0) (M := 5) (T := TX2) (o := 168) (kz := 0) hG a_168 a_168.n (by decide) hin_X2 rfl (by decide) (by decide) rfl kw_388 rfl ((hw).1 (168, 0, 169) (by decide)) (by decide) dX9_orderSoonest_60 ?_
                      refine V.iload_n (pc := 63) hG dX9_orderSoonest_63 rfl 3 rfl ?_
                      obtain ⟨g80, h⟩ := h
                      refine V.aald (pc := 64) 7 (z := 96) (o := 169) (x := x3_25) (y := 170 + x3_25) hG a_169 a_169.n (by decide) hx3_25 g80 (hw.2.1 (169, 96, 170) (by decide) _ g80.1 g80.2) (by omega) dX9_orderSoonest_64 ?_
                      refine V.iload (pc := 65) hG dX9_orderSoonest_65 4 rfl ?_
                      obtain ⟨g81, h⟩ := h
                      refine V.iald (pc := 67) (z := 100) (o := 170 + x3_25) hG (row_169 g80) ((row_169 g80)).n hx4_36 g81 dX9_orderSoonest_67 ?_
                      refine V.istore (pc := 68) (lv' := [(5, .int (sJ (i_36 (170 + x3_25) x4_36))), (0, .ref (sA Δ 461)), (1, .ref (sA Δ 67)), (2, .ref (sA Δ 168)), (3, .int (sJ x3_25)), (4, .int (sJ x4_36))]) hG dX9_orderSoonest_68 (by decide) rfl ?_
                      refine V.aload_n (pc := 70) hG dX9_orderSoonest_70 rfl 1 rfl ?_
                      refine V.getR (x := 462) (pc := 71) (ci := 11) (k := 0) (M := 7) (T := TX9) (o := 461) (kz := 0) hG a_461 a_461.n (by decide) hin_X9 rfl (by decide) (by decide) rfl kw_419 rfl ((hw).1 (461, 0, 462) (by decide)) (by decide) dX9_orderSoonest_71 ?_
                      refine V.iload (pc := 74) hG dX9_orderSoonest_74 0 rfl ?_
                      refine V.aload_n (pc := 76) hG dX9_orderSoonest_76 rfl 1 rfl ?_
                      refine V.getR (x := 462) (pc := 77) (ci := 11) (k := 0) (M := 7) (T := TX9) (o := 461) (kz := 0) hG a_461 a_461.n (by decide) hin_X9 rfl (by decide) (by decide) rfl kw_419 rfl ((hw).1 (461, 0, 462) (by decide)) (by decide) dX9_orderSoonest_77 ?_
                      refine V.iload (pc := 80) hG dX9_orderSoonest_80 0 rfl ?_
                      obtain ⟨g82, h⟩ := h
                      refine V.iald (pc := 82) (z := 96) (o := 462) hG a_462 a_462.n ((hi_36 _ _)) g82 dX9_orderSoonest_82 ?_
                      refine V.aload_n (pc := 83) hG dX9_orderSoonest_83 rfl 1 rfl ?_
                      refine V.getR (x := 462) (pc := 84) (ci := 11) (k := 0) (M := 7) (T := TX9) (o := 461) (kz := 0) hG a_461 a_461.n (by decide) hin_X9 rfl (by decide) (by decide) rfl kw_419 rfl ((hw).1 (461, 0, 462) (by decide)) (by decide) dX9_orderSoonest_84 ?_
                      refine V.iload_n (pc := 87) hG dX9_orderSoonest_87 rfl 4 rfl ?_
                      obtain ⟨g83, h⟩ := h
                      refine V.iald (pc := 88) (z := 96) (o := 462) hG a_462 a_462.n hx3_25 g83 dX9_orderSoonest_88 ?_
                      refine V.aload_n (pc := 89) hG dX9_orderSoonest_89 rfl 3 rfl ?_
                      refine V.getRN (x := 363) (pc := 90) (ci := 4) (k := 2) (M := 5) (T := TX2) (o := 168) (kz := 2) hG a_168 a_168.n (by decide) hin_X2 rfl (by decide) (by decide) rfl kw_394 rfl ((hw).1 (168, 2, 363) (by decide)) (by decide) dX9_orderSoonest_90 ?_
                      refine V.iload_n (pc := 93) hG dX9_orderSoonest_93 rfl 4 rfl ?_
                      obtain ⟨g84, h⟩ := h
                      refine V.aald (pc := 94) 7 (z := 96) (o := 363) (x := x3_25) (y := 364 + x3_25) hG a_363 a_363.n (by decide) hx3_25 g84 (hw.2.1 (363, 96, 364) (by decide) _ g84.1 g84.2) (by omega) dX9_orderSoonest_94 ?_
                      refine V.iload (pc := 95) hG dX9_orderSoonest_95 5 rfl ?_
                      obtain ⟨g85, h⟩ := h
                      refine V.iald (pc := 97) (z := 100) (o := 364 + x3_25) hG (row_363 g84) ((row_363 g84)).n hx4_36 g85 dX9_orderSoonest_97 ?_
                      refine V.iadd (pc := 98) hG dX9_orderSoonest_98 ?_
                      refine V.mmax (pc := 99) hG ((hi_36 _ _)) ((sR_wr _)) kw_751 kw_699 kw_121 kw_max ⟨Nat.le_of_ble_eq_true rfl, Nat.le_of_ble_eq_true rfl, Nat.le_of_ble_eq_true rfl, Nat.le_of_ble_eq_true rfl⟩ dX9_orderSoonest_99 ?_
                      obtain ⟨g86, h⟩ := h
                      refine V.iast (pc := 102) (z := 96) (o := 462) hG a_462 a_462.n ((hi_36 _ _)) g86 dX9_orderSoonest_102 ?_
                      refine V.pick [1, 2, 3, 4, 5] rfl ?_
                      exact jn103 x4_36 (st i_36 462 (i_36 (170 + x3_25) x4_36) (max (i_36 462 (i_36 (170 + x3_25) x4_36)) (wr (i_36 462 x3_25 + i_36 (364 + x3_25) x4_36)))) hx4_36 ((okI_st hi_36 ((sR_max ((hi_36 _ _)) ((sR_wr _)))))) h
              refine V.pick [1, 2, 3, 4, 0] rfl ?_
              exact lp36 n70 0 i_25 ((sR_l rfl)) hi_25 h
        refine V.pick [1, 2, 3, 0] rfl ?_
        exact lp25 n66 0 i_2 ((sR_l rfl)) hi_2 h
      · have h := f65 c63
        clear t64 f65
        refine V.aload_n (pc := 10) hG dX9_orderSoonest_10 rfl 0 rfl ?_
        refine V.getR (x := 462) (pc := 11) (ci := 11) (k := 0) (M := 7) (T := TX9) (o := 461) (kz := 0) hG a_461 a_461.n (by decide) hin_X9 rfl (by decide) (by decide) rfl kw_419 rfl ((hw).1 (461, 0, 462) (by decide)) (by decide) dX9_orderSoonest_11 ?_
        refine V.iload_n (pc := 14) hG dX9_orderSoonest_14 rfl 3 rfl ?_
        refine V.iconst (pc := 15) hG dX9_orderSoonest_15 ?_
        obtain ⟨g87, h⟩ := h
        refine V.iast (pc := 16) (z := 96) (o := 462) hG a_462 a_462.n hx3_2 g87 dX9_orderSoonest_16 ?_
        refine V.iinc (pc := 17) (lv' := [(3, .int (sJ (wr (x3_2 + 1)))), (0, .ref (sA Δ 461)), (1, .ref (sA Δ 67)), (2, .ref (sA Δ 168))]) hG dX9_orderSoonest_17 3 rfl (by decide) rfl ?_
        refine V.goto (pc := 20) (tgt := 2) hG dX9_orderSoonest_20 (by decide) ?_
        refine V.pick [1, 2, 3, 0] rfl ?_
        exact ih2 (wr (x3_2 + 1)) (st i_2 462 x3_2 0) ((sR_wr _)) ((okI_st hi_2 ((sR_l rfl)))) h
  refine V.pick [1, 2, 3, 0] rfl ?_
  exact lp2 n62 0 i ((sR_l rfl)) hi h
set_option maxRecDepth 100000 in
set_option maxHeartbeats 4000000 in
theorem sm_X9_order (l : Launch) (Δ : Wd) {i r : MI}   {Q : MI → Prop} (hi : okI i) (hw : Wf r) (h : wp_X9_order  i r Q) : Met l yX9_order (Cond.code yX9_order cX9_order 3 none :: gW) (sRm 4 90) (sPc Δ [.ref (sA Δ 461), .ref (sA Δ 67), .ref (sA Δ 168)] i r) (sQv Δ (fun i' r' => r = r' ∧ Q i')) 0 0 (sFr Δ) := by
  refine Ct.v (by decide) rfl (Nat.le_of_ble_eq_true rfl) (fun Γ Q0 hG fin => ?_)
  have hG : okG Γ Δ l (sRm 4 90) cX9_order "Schedulary$Steps" 3 := hG
  show V Γ Δ 504 false i r 0 0 Q0 0 [(0, .ref (sA Δ 461)), (1, .ref (sA Δ 67)), (2, .ref (sA Δ 168))] []
  refine V.aload_n (pc := 0) hG dX9_order_0 rfl 0 rfl ?_
  refine V.aload_n (pc := 1) hG dX9_order_1 rfl 1 rfl ?_
  refine V.aload_n (pc := 2) hG dX9_order_2 rfl 2 rfl ?_
  refine V.callVv (pc := 3) (As := [.ref (sA Δ 67), .ref (sA Δ 168)]) (stk := []) hG (sm_X9_orderSoonest l Δ  hi hw h) mY_X9_orderSoonest kw_747 kw_749 kw_42 a_461 (by decide) (q := (RX9, TX9, 7)) rfl rfl ⟨Nat.le_of_ble_eq_true rfl, Nat.le_of_ble_eq_true rfl, Nat.le_of_ble_eq_true rfl, Nat.le_of_ble_eq_true rfl⟩ rfl (Nat.le_of_ble_eq_true rfl) dX9_order_3 rfl (fun i2 r3 hi5 hw6 hq7 => ?_)
  obtain ⟨e27, h⟩ := hq7
  subst e27
  refine V.aload_n (pc := 6) hG dX9_order_6 rfl 0 rfl ?_
  refine V.aload_n (pc := 7) hG dX9_order_7 rfl 1 rfl ?_
  refine V.aload_n (pc := 8) hG dX9_order_8 rfl 2 rfl ?_
  refine V.callVv (pc := 9) (As := [.ref (sA Δ 67), .ref (sA Δ 168)]) (stk := []) hG (sm_X9_orderLatest l Δ  hi5 hw h) mY_X9_orderLatest kw_752 kw_754 kw_43 a_461 (by decide) (q := (RX9, TX9, 7)) rfl rfl ⟨Nat.le_of_ble_eq_true rfl, Nat.le_of_ble_eq_true rfl, Nat.le_of_ble_eq_true rfl, Nat.le_of_ble_eq_true rfl⟩ rfl (Nat.le_of_ble_eq_true rfl) dX9_order_9 rfl (fun i9 r10 hi12 hw13 hq14 => ?_)
  obtain ⟨e25, h⟩ := hq14
  subst e25
  refine V.aload_n (pc := 12) hG dX9_order_12 rfl 0 rfl ?_
  refine V.aload_n (pc := 13) hG dX9_order_13 rfl 1 rfl ?_
  refine V.aload_n (pc := 14) hG dX9_order_14 rfl 2 rfl ?_
  refine V.callVv (pc := 15) (As := [.ref (sA Δ 67), .ref (sA Δ 168)]) (stk := []) hG (sm_X9_orderByLists l Δ  hi12 hw h) mY_X9_orderByLists kw_764 kw_766 kw_45 a_461 (by decide) (q := (RX9, TX9, 7)) rfl rfl ⟨Nat.le_of_ble_eq_true rfl, Nat.le_of_ble_eq_true rfl, Nat.le_of_ble_eq_true rfl, Nat.le_of_ble_eq_true rfl⟩ rfl (Nat.le_of_ble_eq_true rfl) dX9_order_15 rfl (fun i16 r17 hi19 hw20 hq21 => ?_)
  obtain ⟨e23, h⟩ := hq21
  subst e23
  exact fin dX9_order_18 hi19 hw ⟨rfl, h⟩
set_option maxRecDepth 100000 in
set_option maxHeartbeats 4000000 in
theorem sm_X11_prepare (l : Launch) (Δ : Wd) {i r : MI} {p1 : Int} (hp1 : sR p1) {Q : MI → MI → Prop} (hi : okI i) (hw : Wf r) (h : wp_X11_prepare p1 i r Q) : Met l yX11_prepare (Cond.code yX11_prepare cX11_prepare 2 none :: gW) (sRm 5 124) (sPc Δ [.ref (sA Δ 0), .int (sJ p1)] i r) (sQv Δ (Q)) 0 0 (sFr Δ) := by
  refine Ct.v (by decide) rfl (Nat.le_of_ble_eq_true rfl) (fun Γ Q0 hG fin => ?_)
  have hG : okG Γ Δ l (sRm 5 124) cX11_prepare "Schedulary" 2 := hG
  show V Γ Δ 504 false i r 0 0 Q0 0 [(0, .ref (sA Δ 0)), (1, .int (sJ p1))] []
  have jn143 : ∀  (ij143 : MI) (rj143 : MI), okI ij143 → Wf rj143 → s143_X11_prepare p1 ij143 rj143 Q → V Γ Δ 504 false ij143 rj143 0 0 Q0 143 [(0, .ref (sA Δ 0)), (1, .int (sJ p1))] [] := by
    intro ij143 rj143 hij143 hwj143 h
    refine V.aload_n (pc := 143) hG dX11_prepare_143 rfl 0 rfl ?_
    refine V.aload_n (pc := 144) hG dX11_prepare_144 rfl 0 rfl ?_
    refine V.getI (pc := 145) (ci := 13) (k := 9) (M := 11) (T := TX11) (o := 0) (kz := 9) hG a_0 a_0.n (by decide) hin_X11 rfl (by decide) (by decide) rfl kw_532 rfl dX11_prepare_145 ?_
    refine V.iload_n (pc := 148) hG dX11_prepare_148 rfl 1 rfl ?_
    refine V.mmax (pc := 149) hG ((hij143 _ _)) hp1 kw_866 kw_699 kw_121 kw_max ⟨Nat.le_of_ble_eq_true rfl, Nat.le_of_ble_eq_true rfl, Nat.le_of_ble_eq_true rfl, Nat.le_of_ble_eq_true rfl⟩ dX11_prepare_149 ?_
    refine V.putI (pc := 152) (ci := 13) (k := 9) (M := 11) (T := TX11) (o := 0) (kz := 9) hG a_0 a_0.n (by decide) hin_X11 rfl (by decide) (by decide) rfl kw_532 rfl tyX11 tyX11_ok nmX11 rfl (ty := tyX11 9) (tyX11_ok 9 (by decide)) rfl rfl dX11_prepare_152 ?_
    exact fin dX11_prepare_155 ((okI_st hij143 ((sR_max ((hij143 _ _)) hp1)))) hwj143 h
  have jn111 : ∀  (ij111 : MI) (rj111 : MI), okI ij111 → Wf rj111 → s111_X11_prepare p1 ij111 rj111 Q → V Γ Δ 504 false ij111 rj111 0 0 Q0 111 [(0, .ref (sA Δ 0)), (1, .int (sJ p1))] [] := by
    intro ij111 rj111 hij111 hwj111 h
    refine V.aload_n (pc := 111) hG dX11_prepare_111 rfl 0 rfl ?_
    refine V.getI (pc := 112) (ci := 13) (k := 9) (M := 11) (T := TX11) (o := 0) (kz := 9) hG a_0 a_0.n (by decide) hin_X11 rfl (by decide) (by decide) rfl kw_532 rfl dX11_prepare_112 ?_
    refine V.iconst (pc := 115) hG dX11_prepare_115 ?_
    obtain ⟨t17, f18⟩ := h
    refine V.icmp_ge (pc := 116) (tgt := 143) hG ((hij111 _ _)) ((sR_l rfl)) dX11_prepare_116 (by decide) (fun c16 => ?_) (fun c16 => ?_)
    · have h := t17 c16
      clear t17 f18
      exact jn143 ij111 rj111 hij111 hwj111 h
    · have h := f18 c16
      clear t17 f18
      refine V.iload_n (pc := 119) hG dX11_prepare_119 rfl 1 rfl ?_
      refine V.iconst (pc := 120) hG dX11_prepare_120 ?_
      obtain ⟨t20, f21⟩ := h
      refine V.icmp_lt (pc := 121) (tgt := 143) hG hp1 ((sR_l rfl)) dX11_prepare_121 (by decide) (fun c19 => ?_) (fun c19 => ?_)
      · have h := t20 c19
        clear t20 f21
        exact jn143 ij111 rj111 hij111 hwj111 h
      · have h := f21 c19
        clear t20 f21
        refine V.aload_n (pc := 124) hG dX11_prepare_124 rfl 0 rfl ?_
        refine V.getR (x := 480) (pc := 125) (ci := 13) (k := 7) (M := 11) (T := TX11) (o := 0) (kz := 7) hG a_0 a_0.n (by decide) hin_X11 rfl (by decide) (by decide) rfl kw_530 rfl ((hwj111).1 (0, 7, 480) (by decide)) (by decide) dX11_prepare_125 ?_
        refine V.aload_n (pc := 128) hG dX11_prepare_128 rfl 0 rfl ?_
        refine V.getR (x := 3) (pc := 129) (ci := 13) (k := 1) (M := 11) (T := TX11) (o := 0) (kz := 1) hG a_0 a_0.n (by decide) hin_X11 rfl (by decide) (by decide) rfl kw_524 rfl ((hwj111).1 (0, 1, 3) (by decide)) (by decide) dX11_prepare_129 ?_
        refine V.aload_n (pc := 132) hG dX11_prepare_132 rfl 0 rfl ?_
        refine V.getR (x := 67) (pc := 133) (ci := 13) (k := 3) (M := 11) (T := TX11) (o := 0) (kz := 3) hG a_0 a_0.n (by decide) hin_X11 rfl (by decide) (by decide) rfl kw_526 rfl ((hwj111).1 (0, 3, 67) (by decide)) (by decide) dX11_prepare_133 ?_
        refine V.aload_n (pc := 136) hG dX11_prepare_136 rfl 0 rfl ?_
        refine V.getR (x := 469) (pc := 137) (ci := 13) (k := 6) (M := 11) (T := TX11) (o := 0) (kz := 6) hG a_0 a_0.n (by decide) hin_X11 rfl (by decide) (by decide) rfl kw_529 rfl ((hwj111).1 (0, 6, 469) (by decide)) (by decide) dX11_prepare_137 ?_
        refine V.callVNv (pc := 140) (As := [.ref (sA Δ 3), .ref (sA Δ 67), .ref (sA Δ 469)]) (stk := []) hG (sm_X1_turn l Δ  hij111 hwj111 h) mY_X1_turn kw_832 kw_834 kw_60 a_480 (by decide) (q := (RX1, TX1, 2)) rfl rfl ⟨Nat.le_of_ble_eq_true rfl, Nat.le_of_ble_eq_true rfl, Nat.le_of_ble_eq_true rfl, Nat.le_of_ble_eq_true rfl⟩ rfl (Nat.le_of_ble_eq_true rfl) dX11_prepare_140 rfl (fun i23 r24 hi26 hw27 hq28 => ?_)
        obtain ⟨e30, h⟩ := hq28
        subst e30
        exact jn143 i23 rj111 hi26 hwj111 h
  have jn83 : ∀  (ij83 : MI) (rj83 : MI), okI ij83 → Wf rj83 → s83_X11_prepare p1 ij83 rj83 Q → V Γ Δ 504 false ij83 rj83 0 0 Q0 83 [(0, .ref (sA Δ 0)), (1, .int (sJ p1))] [] := by
    intro ij83 rj83 hij83 hwj83 h
    refine V.aload_n (pc := 83) hG dX11_prepare_83 rfl 0 rfl ?_
    refine V.getI (pc := 84) (ci := 13) (k := 9) (M := 11) (T := TX11) (o := 0) (kz := 9) hG a_0 a_0.n (by decide) hin_X11 rfl (by decide) (by decide) rfl kw_532 rfl dX11_prepare_84 ?_
    refine V.iconst (pc := 87) hG dX11_prepare_87 ?_
    obtain ⟨t47, f48⟩ := h
    refine V.icmp_ge (pc := 88) (tgt := 111) hG ((hij83 _ _)) ((sR_l rfl)) dX11_prepare_88 (by decide) (fun c46 => ?_) (fun c46 => ?_)
    · have h := t47 c46
      clear t47 f48
      exact jn111 ij83 rj83 hij83 hwj83 h
    · have h := f48 c46
      clear t47 f48
      refine V.iload_n (pc := 91) hG dX11_prepare_91 rfl 1 rfl ?_
      refine V.iconst (pc := 92) hG dX11_prepare_92 ?_
      obtain ⟨t50, f51⟩ := h
      refine V.icmp_lt (pc := 93) (tgt := 111) hG hp1 ((sR_l rfl)) dX11_prepare_93 (by decide) (fun c49 => ?_) (fun c49 => ?_)
      · have h := t50 c49
        clear t50 f51
        exact jn111 ij83 rj83 hij83 hwj83 h
      · have h := f51 c49
        clear t50 f51
        refine V.aload_n (pc := 96) hG dX11_prepare_96 rfl 0 rfl ?_
        refine V.getR (x := 469) (pc := 97) (ci := 13) (k := 6) (M := 11) (T := TX11) (o := 0) (kz := 6) hG a_0 a_0.n (by decide) hin_X11 rfl (by decide) (by decide) rfl kw_529 rfl ((hwj83).1 (0, 6, 469) (by decide)) (by decide) dX11_prepare_97 ?_
        refine V.aload_n (pc := 100) hG dX11_prepare_100 rfl 0 rfl ?_
        refine V.getR (x := 67) (pc := 101) (ci := 13) (k := 3) (M := 11) (T := TX11) (o := 0) (kz := 3) hG a_0 a_0.n (by decide) hin_X11 rfl (by decide) (by decide) rfl kw_526 rfl ((hwj83).1 (0, 3, 67) (by decide)) (by decide) dX11_prepare_101 ?_
        refine V.aload_n (pc := 104) hG dX11_prepare_104 rfl 0 rfl ?_
        refine V.getR (x := 168) (pc := 105) (ci := 13) (k := 4) (M := 11) (T := TX11) (o := 0) (kz := 4) hG a_0 a_0.n (by decide) hin_X11 rfl (by decide) (by decide) rfl kw_527 rfl ((hwj83).1 (0, 4, 168) (by decide)) (by decide) dX11_prepare_105 ?_
        refine V.callVNv (pc := 108) (As := [.ref (sA Δ 67), .ref (sA Δ 168)]) (stk := []) hG (sm_X4_find l Δ  hij83 hwj83 h) mY_X4_find kw_784 kw_786 kw_50 a_469 (by decide) (q := (RX4, TX4, 6)) rfl rfl ⟨Nat.le_of_ble_eq_true rfl, Nat.le_of_ble_eq_true rfl, Nat.le_of_ble_eq_true rfl, Nat.le_of_ble_eq_true rfl⟩ rfl (Nat.le_of_ble_eq_true rfl) dX11_prepare_108 rfl (fun i53 r54 hi56 hw57 hq58 => ?_)
        obtain ⟨e60, h⟩ := hq58
        subst e60
        exact jn111 i53 rj83 hi56 hwj83 h
  have jn55 : ∀  (ij55 : MI) (rj55 : MI), okI ij55 → Wf rj55 → s55_X11_prepare p1 ij55 rj55 Q → V Γ Δ 504 false ij55 rj55 0 0 Q0 55 [(0, .ref (sA Δ 0)), (1, .int (sJ p1))] [] := by
    intro ij55 rj55 hij55 hwj55 h
    refine V.aload_n (pc := 55) hG dX11_prepare_55 rfl 0 rfl ?_
    refine V.getI (pc := 56) (ci := 13) (k := 9) (M := 11) (T := TX11) (o := 0) (kz := 9) hG a_0 a_0.n (by decide) hin_X11 rfl (by decide) (by decide) rfl kw_532 rfl dX11_prepare_56 ?_
    refine V.iconst (pc := 59) hG dX11_prepare_59 ?_
    obtain ⟨t77, f78⟩ := h
    refine V.icmp_ge (pc := 60) (tgt := 83) hG ((hij55 _ _)) ((sR_l rfl)) dX11_prepare_60 (by decide) (fun c76 => ?_) (fun c76 => ?_)
    · have h := t77 c76
      clear t77 f78
      exact jn83 ij55 rj55 hij55 hwj55 h
    · have h := f78 c76
      clear t77 f78
      refine V.iload_n (pc := 63) hG dX11_prepare_63 rfl 1 rfl ?_
      refine V.iconst (pc := 64) hG dX11_prepare_64 ?_
      obtain ⟨t80, f81⟩ := h
      refine V.icmp_lt (pc := 65) (tgt := 83) hG hp1 ((sR_l rfl)) dX11_prepare_65 (by decide) (fun c79 => ?_) (fun c79 => ?_)
      · have h := t80 c79
        clear t80 f81
        exact jn83 ij55 rj55 hij55 hwj55 h
      · have h := f81 c79
        clear t80 f81
        refine V.aload_n (pc := 68) hG dX11_prepare_68 rfl 0 rfl ?_
        refine V.getR (x := 461) (pc := 69) (ci := 13) (k := 5) (M := 11) (T := TX11) (o := 0) (kz := 5) hG a_0 a_0.n (by decide) hin_X11 rfl (by decide) (by decide) rfl kw_528 rfl ((hwj55).1 (0, 5, 461) (by decide)) (by decide) dX11_prepare_69 ?_
        refine V.aload_n (pc := 72) hG dX11_prepare_72 rfl 0 rfl ?_
        refine V.getR (x := 67) (pc := 73) (ci := 13) (k := 3) (M := 11) (T := TX11) (o := 0) (kz := 3) hG a_0 a_0.n (by decide) hin_X11 rfl (by decide) (by decide) rfl kw_526 rfl ((hwj55).1 (0, 3, 67) (by decide)) (by decide) dX11_prepare_73 ?_
        refine V.aload_n (pc := 76) hG dX11_prepare_76 rfl 0 rfl ?_
        refine V.getR (x := 168) (pc := 77) (ci := 13) (k := 4) (M := 11) (T := TX11) (o := 0) (kz := 4) hG a_0 a_0.n (by decide) hin_X11 rfl (by decide) (by decide) rfl kw_527 rfl ((hwj55).1 (0, 4, 168) (by decide)) (by decide) dX11_prepare_77 ?_
        refine V.callVNv (pc := 80) (As := [.ref (sA Δ 67), .ref (sA Δ 168)]) (stk := []) hG (sm_X9_order l Δ  hij55 hwj55 h) mY_X9_order kw_743 kw_745 kw_41 a_461 (by decide) (q := (RX9, TX9, 7)) rfl rfl ⟨Nat.le_of_ble_eq_true rfl, Nat.le_of_ble_eq_true rfl, Nat.le_of_ble_eq_true rfl, Nat.le_of_ble_eq_true rfl⟩ rfl (Nat.le_of_ble_eq_true rfl) dX11_prepare_80 rfl (fun i83 r84 hi86 hw87 hq88 => ?_)
        obtain ⟨e90, h⟩ := hq88
        subst e90
        exact jn83 i83 rj55 hi86 hwj55 h
  have jn24 : ∀  (ij24 : MI) (rj24 : MI), okI ij24 → Wf rj24 → s24_X11_prepare p1 ij24 rj24 Q → V Γ Δ 504 false ij24 rj24 0 0 Q0 24 [(0, .ref (sA Δ 0)), (1, .int (sJ p1))] [] := by
    intro ij24 rj24 hij24 hwj24 h
    refine V.aload_n (pc := 24) hG dX11_prepare_24 rfl 0 rfl ?_
    refine V.getI (pc := 25) (ci := 13) (k := 9) (M := 11) (T := TX11) (o := 0) (kz := 9) hG a_0 a_0.n (by decide) hin_X11 rfl (by decide) (by decide) rfl kw_532 rfl dX11_prepare_25 ?_
    refine V.iconst (pc := 28) hG dX11_prepare_28 ?_
    obtain ⟨t107, f108⟩ := h
    refine V.icmp_ge (pc := 29) (tgt := 55) hG ((hij24 _ _)) ((sR_l rfl)) dX11_prepare_29 (by decide) (fun c106 => ?_) (fun c106 => ?_)
    · have h := t107 c106
      clear t107 f108
      exact jn55 ij24 rj24 hij24 hwj24 h
    · have h := f108 c106
      clear t107 f108
      refine V.iload_n (pc := 32) hG dX11_prepare_32 rfl 1 rfl ?_
      refine V.iconst (pc := 33) hG dX11_prepare_33 ?_
      obtain ⟨t110, f111⟩ := h
      refine V.icmp_lt (pc := 34) (tgt := 55) hG hp1 ((sR_l rfl)) dX11_prepare_34 (by decide) (fun c109 => ?_) (fun c109 => ?_)
      · have h := t110 c109
        clear t110 f111
        exact jn55 ij24 rj24 hij24 hwj24 h
      · have h := f111 c109
        clear t110 f111
        refine V.aload_n (pc := 37) hG dX11_prepare_37 rfl 0 rfl ?_
        refine V.getR (x := 168) (pc := 38) (ci := 13) (k := 4) (M := 11) (T := TX11) (o := 0) (kz := 4) hG a_0 a_0.n (by decide) hin_X11 rfl (by decide) (by decide) rfl kw_527 rfl ((hwj24).1 (0, 4, 168) (by decide)) (by decide) dX11_prepare_38 ?_
        refine V.aload_n (pc := 41) hG dX11_prepare_41 rfl 0 rfl ?_
        refine V.getR (x := 67) (pc := 42) (ci := 13) (k := 3) (M := 11) (T := TX11) (o := 0) (kz := 3) hG a_0 a_0.n (by decide) hin_X11 rfl (by decide) (by decide) rfl kw_526 rfl ((hwj24).1 (0, 3, 67) (by decide)) (by decide) dX11_prepare_42 ?_
        refine V.aload_n (pc := 45) hG dX11_prepare_45 rfl 0 rfl ?_
        refine V.getR (x := 3) (pc := 46) (ci := 13) (k := 1) (M := 11) (T := TX11) (o := 0) (kz := 1) hG a_0 a_0.n (by decide) hin_X11 rfl (by decide) (by decide) rfl kw_524 rfl ((hwj24).1 (0, 1, 3) (by decide)) (by decide) dX11_prepare_46 ?_
        refine V.getIN (pc := 49) (ci := 8) (k := 8) (M := 9) (T := TX6) (o := 3) (kz := 8) hG a_3 a_3.n (by decide) hin_X6 rfl (by decide) (by decide) rfl kw_221 rfl dX11_prepare_49 ?_
        refine V.callVNv (pc := 52) (As := [.ref (sA Δ 67), .int (sJ (ij24 3 8))]) (stk := []) hG (sm_X2_join l Δ ((hij24 _ _)) hij24 hwj24 h) mY_X2_join kw_674 kw_676 kw_26 a_168 (by decide) (q := (RX2, TX2, 5)) rfl rfl ⟨Nat.le_of_ble_eq_true rfl, Nat.le_of_ble_eq_true rfl, Nat.le_of_ble_eq_true rfl, Nat.le_of_ble_eq_true rfl⟩ rfl (Nat.le_of_ble_eq_true rfl) dX11_prepare_52 rfl (fun i113 r114 hi116 hw117 hq118 => ?_)
        obtain ⟨e120, h⟩ := hq118
        subst e120
        exact jn55 i113 rj24 hi116 hwj24 h
  refine V.aload_n (pc := 0) hG dX11_prepare_0 rfl 0 rfl ?_
  refine V.getI (pc := 1) (ci := 13) (k := 9) (M := 11) (T := TX11) (o := 0) (kz := 9) hG a_0 a_0.n (by decide) hin_X11 rfl (by decide) (by decide) rfl kw_532 rfl dX11_prepare_1 ?_
  refine V.iconst (pc := 4) hG dX11_prepare_4 ?_
  obtain ⟨t122, f123⟩ := h
  refine V.icmp_ge (pc := 5) (tgt := 24) hG ((hi _ _)) ((sR_l rfl)) dX11_prepare_5 (by decide) (fun c121 => ?_) (fun c121 => ?_)
  · have h := t122 c121
    clear t122 f123
    exact jn24 i r hi hw h
  · have h := f123 c121
    clear t122 f123
    refine V.iload_n (pc := 8) hG dX11_prepare_8 rfl 1 rfl ?_
    refine V.iconst (pc := 9) hG dX11_prepare_9 ?_
    obtain ⟨t125, f126⟩ := h
    refine V.icmp_lt (pc := 10) (tgt := 24) hG hp1 ((sR_l rfl)) dX11_prepare_10 (by decide) (fun c124 => ?_) (fun c124 => ?_)
    · have h := t125 c124
      clear t125 f126
      exact jn24 i r hi hw h
    · have h := f126 c124
      clear t125 f126
      refine V.aload_n (pc := 13) hG dX11_prepare_13 rfl 0 rfl ?_
      refine V.getR (x := 67) (pc := 14) (ci := 13) (k := 3) (M := 11) (T := TX11) (o := 0) (kz := 3) hG a_0 a_0.n (by decide) hin_X11 rfl (by decide) (by decide) rfl kw_526 rfl ((hw).1 (0, 3, 67) (by decide)) (by decide) dX11_prepare_14 ?_
      refine V.aload_n (pc := 17) hG dX11_prepare_17 rfl 0 rfl ?_
      refine V.getR (x := 3) (pc := 18) (ci := 13) (k := 1) (M := 11) (T := TX11) (o := 0) (kz := 1) hG a_0 a_0.n (by decide) hin_X11 rfl (by decide) (by decide) rfl kw_524 rfl ((hw).1 (0, 1, 3) (by decide)) (by decide) dX11_prepare_18 ?_
      refine V.callVNv (pc := 21) (As := [.ref (sA Δ 3)]) (stk := []) hG (sm_X0_number l Δ  hi hw h) mY_X0_number kw_625 kw_627 kw_15 a_67 (by decide) (q := (RX0, TX0, 5)) rfl rfl ⟨Nat.le_of_ble_eq_true rfl, Nat.le_of_ble_eq_true rfl, Nat.le_of_ble_eq_true rfl, Nat.le_of_ble_eq_true rfl⟩ rfl (Nat.le_of_ble_eq_true rfl) dX11_prepare_21 rfl (fun i128 r129 hi131 hw132 hq133 => ?_)
      have h := hq133
      exact jn24 i128 r129 hi131 hw132 h
set_option maxRecDepth 100000 in
set_option maxHeartbeats 4000000 in
theorem sm_X11_replace (l : Launch) (Δ : Wd) {i r : MI} {p1 : Int} (hp1 : sR p1) {Q : Int → MI → MI → Prop} {X : String → MI → MI → Prop} (hst : l.stackTraces = false) (hi : okI i) (hw : Wf r) (h : wp_X11_replace p1 i r Q X) : vx_Met l yX11_replace (Cond.code yX11_replace cX11_replace 2 (some .int) :: gW) (sRx 7 158 1 6) (sPc Δ [.ref (sA Δ 0), .int (sJ p1)] i r) (sQi Δ (Q)) (sX Δ (X)) 1 6 (sFr Δ) := by
  refine Cx.i (ty := .int) (by decide) rfl (Nat.le_of_ble_eq_true rfl) hst (by decide) (by decide) (fun Γ Q0 hG fin xout xthr => ?_)
  have hG : okG Γ Δ l (sRx 7 158 1 6) cX11_replace "Schedulary" 2 := hG
  show V Γ Δ 504 false i r 0 0 Q0 0 [(0, .ref (sA Δ 0)), (1, .int (sJ p1))] []
  have jn15 : ∀  (ij15 : MI) (rj15 : MI), okI ij15 → Wf rj15 → s15_X11_replace ij15 rj15 Q X → V Γ Δ 504 false ij15 rj15 0 0 Q0 15 [] [] := by
    intro ij15 rj15 hij15 hwj15 h
    exact xthr ⟨134, 136, 138, "no such statement", by decide, kw_1204, kw_117, by decide, .inl th_138, dX11_replace_15, dX11_replace_18, Or.inl ⟨dX11_replace_19, dX11_replace_21, dX11_replace_24⟩⟩ (by decide) (by decide) hij15 hwj15 h
  refine V.iload_n (pc := 0) hG dX11_replace_0 rfl 1 rfl ?_
  obtain ⟨t2, f3⟩ := h
  refine V.if_lt (pc := 1) (tgt := 15) hG hp1 dX11_replace_1 (by decide) (fun c1 => ?_) (fun c1 => ?_)
  · have h := t2 c1
    clear t2 f3
    refine V.pick [] rfl ?_
    exact jn15 i r hi hw h
  · have h := f3 c1
    clear t2 f3
    refine V.iload_n (pc := 4) hG dX11_replace_4 rfl 1 rfl ?_
    refine V.aload_n (pc := 5) hG dX11_replace_5 rfl 0 rfl ?_
    refine V.getR (x := 3) (pc := 6) (ci := 13) (k := 1) (M := 11) (T := TX11) (o := 0) (kz := 1) hG a_0 a_0.n (by decide) hin_X11 rfl (by decide) (by decide) rfl kw_524 rfl ((hw).1 (0, 1, 3) (by decide)) (by decide) dX11_replace_6 ?_
    refine V.getIN (pc := 9) (ci := 8) (k := 4) (M := 9) (T := TX6) (o := 3) (kz := 4) hG a_3 a_3.n (by decide) hin_X6 rfl (by decide) (by decide) rfl kw_211 rfl dX11_replace_9 ?_
    obtain ⟨t5, f6⟩ := h
    refine V.icmp_lt (pc := 12) (tgt := 25) hG hp1 ((hi _ _)) dX11_replace_12 (by decide) (fun c4 => ?_) (fun c4 => ?_)
    · have h := t5 c4
      clear t5 f6
      refine V.aload_n (pc := 25) hG dX11_replace_25 rfl 0 rfl ?_
      refine V.getR (x := 1) (pc := 26) (ci := 13) (k := 0) (M := 11) (T := TX11) (o := 0) (kz := 0) hG a_0 a_0.n (by decide) hin_X11 rfl (by decide) (by decide) rfl kw_523 rfl ((hw).1 (0, 0, 1) (by decide)) (by decide) dX11_replace_26 ?_
      refine V.aload_n (pc := 29) hG dX11_replace_29 rfl 0 rfl ?_
      refine V.getR (x := 3) (pc := 30) (ci := 13) (k := 1) (M := 11) (T := TX11) (o := 0) (kz := 1) hG a_0 a_0.n (by decide) hin_X11 rfl (by decide) (by decide) rfl kw_524 rfl ((hw).1 (0, 1, 3) (by decide)) (by decide) dX11_replace_30 ?_
      refine V.getRN (x := (r 3 3)) (pc := 33) (ci := 8) (k := 3) (M := 9) (T := TX6) (o := 3) (kz := 3) hG a_3 a_3.n (by decide) hin_X6 rfl (by decide) (by decide) rfl kw_208 rfl rfl ((hw).sp).z dX11_replace_33 ?_
      refine V.callVNi (pc := 36) (As := [.ref (sA Δ (r 3 3))]) (stk := []) hG (sm_X10_readInto l Δ ((hw).sp) hi hw h) mY_X10_readInto kw_1136 kw_1138 kw_77 a_1 (by decide) (q := (RX10, TX10, 3)) rfl rfl ⟨Nat.le_of_ble_eq_true rfl, Nat.le_of_ble_eq_true rfl, Nat.le_of_ble_eq_true rfl, Nat.le_of_ble_eq_true rfl⟩ rfl (Nat.le_of_ble_eq_true rfl) dX11_replace_36 rfl (fun v7 i8 r9 hv10 hi11 hw12 hq13 => ?_)
      obtain ⟨e54, h⟩ := hq13
      subst e54
      refine V.iconst (pc := 39) hG dX11_replace_39 ?_
      obtain ⟨t15, f16⟩ := h
      refine V.icmp_eq (pc := 40) (tgt := 53) hG hv10 ((sR_l rfl)) dX11_replace_40 (by decide) (fun c14 => ?_) (fun c14 => ?_)
      · have h := t15 c14
        clear t15 f16
        refine V.aload_n (pc := 53) hG dX11_replace_53 rfl 0 rfl ?_
        refine V.getR (x := 3) (pc := 54) (ci := 13) (k := 1) (M := 11) (T := TX11) (o := 0) (kz := 1) hG a_0 a_0.n (by decide) hin_X11 rfl (by decide) (by decide) rfl kw_524 rfl ((hw).1 (0, 1, 3) (by decide)) (by decide) dX11_replace_54 ?_
        refine V.iload_n (pc := 57) hG dX11_replace_57 rfl 1 rfl ?_
        refine V.callVNv (pc := 58) (As := [.int (sJ p1)]) (stk := []) hG (sm_X6_useSpare l Δ hp1 hi11 hw h) mY_X6_useSpare kw_1188 kw_1190 kw_88 a_3 (by decide) (q := (RX6, TX6, 9)) rfl rfl ⟨Nat.le_of_ble_eq_true rfl, Nat.le_of_ble_eq_true rfl, Nat.le_of_ble_eq_true rfl, Nat.le_of_ble_eq_true rfl⟩ rfl (Nat.le_of_ble_eq_true rfl) dX11_replace_58 rfl (fun i18 r19 hi21 hw22 hq23 => ?_)
        have h := hq23
        refine V.aload_n (pc := 61) hG dX11_replace_61 rfl 0 rfl ?_
        refine V.getR (x := 1) (pc := 62) (ci := 13) (k := 0) (M := 11) (T := TX11) (o := 0) (kz := 0) hG a_0 a_0.n (by decide) hin_X11 rfl (by decide) (by decide) rfl kw_523 rfl ((hw22).1 (0, 0, 1) (by decide)) (by decide) dX11_replace_62 ?_
        refine V.callVNi (pc := 65) (As := []) (stk := []) hG (sm_X10_empty l Δ  hi21 hw22 h) mY_X10_empty kw_1192 kw_1194 kw_89 a_1 (by decide) (q := (RX10, TX10, 3)) rfl rfl ⟨Nat.le_of_ble_eq_true rfl, Nat.le_of_ble_eq_true rfl, Nat.le_of_ble_eq_true rfl, Nat.le_of_ble_eq_true rfl⟩ rfl (Nat.le_of_ble_eq_true rfl) dX11_replace_65 rfl (fun v24 i25 r26 hv27 hi28 hw29 hq30 => ?_)
        obtain ⟨e50, h⟩ := hq30
        subst e50
        refine V.pop (pc := 68) hG dX11_replace_68 rfl ?_
        refine V.aload_n (pc := 69) hG dX11_replace_69 rfl 0 rfl ?_
        refine V.callVv (pc := 70) (As := []) (stk := []) hG (sm_X11_changeBody l Δ  hi28 hw22 h) mY_X11_changeBody kw_1196 kw_1198 kw_90 a_0 (by decide) (q := (RX11, TX11, 11)) rfl rfl ⟨Nat.le_of_ble_eq_true rfl, Nat.le_of_ble_eq_true rfl, Nat.le_of_ble_eq_true rfl, Nat.le_of_ble_eq_true rfl⟩ rfl (Nat.le_of_ble_eq_true rfl) dX11_replace_70 rfl (fun i32 r33 hi35 hw36 hq37 => ?_)
        obtain ⟨e48, h⟩ := hq37
        subst e48
        refine V.aload_n (pc := 73) hG dX11_replace_73 rfl 0 rfl ?_
        refine V.iconst (pc := 74) hG dX11_replace_74 ?_
        refine V.callVv (pc := 75) (As := [.int (sJ 1)]) (stk := []) hG (sm_X11_prepare l Δ ((sR_l rfl)) hi35 hw22 h) mY_X11_prepare kw_621 kw_623 kw_14 a_0 (by decide) (q := (RX11, TX11, 11)) rfl rfl ⟨Nat.le_of_ble_eq_true rfl, Nat.le_of_ble_eq_true rfl, Nat.le_of_ble_eq_true rfl, Nat.le_of_ble_eq_true rfl⟩ rfl (Nat.le_of_ble_eq_true rfl) dX11_replace_75 rfl (fun i39 r40 hi42 hw43 hq44 => ?_)
        have h := hq44
        refine V.aload_n (pc := 78) hG dX11_replace_78 rfl 0 rfl ?_
        refine V.getR (x := 67) (pc := 79) (ci := 13) (k := 3) (M := 11) (T := TX11) (o := 0) (kz := 3) hG a_0 a_0.n (by decide) hin_X11 rfl (by decide) (by decide) rfl kw_526 rfl ((hw43).1 (0, 3, 67) (by decide)) (by decide) dX11_replace_79 ?_
        refine V.getIN (pc := 82) (ci := 2) (k := 4) (M := 5) (T := TX0) (o := 67) (kz := 4) hG a_67 a_67.n (by decide) hin_X0 rfl (by decide) (by decide) rfl kw_368 rfl dX11_replace_82 ?_
        exact fin dX11_replace_85 ((hi42 _ _)) rfl (by decide) (by decide) hi42 hw43 h
      · have h := f16 c14
        clear t15 f16
        exact xthr ⟨88, 119, 92, "no statement", by decide, kw_1096, kw_125, by decide, .inl th_92, dX11_replace_43, dX11_replace_46, Or.inl ⟨dX11_replace_47, dX11_replace_49, dX11_replace_52⟩⟩ (by decide) (by decide) hi11 hw h
    · have h := f6 c4
      clear t5 f6
      refine V.pick [] rfl ?_
      exact jn15 i r hi hw h
set_option maxRecDepth 100000 in
set_option maxHeartbeats 4000000 in
theorem sm_X11_changeValues (l : Launch) (Δ : Wd) {i r : MI}   {Q : MI → Prop} (hi : okI i) (hw : Wf r) (h : wp_X11_changeValues  i r Q) : Met l yX11_changeValues (Cond.code yX11_changeValues cX11_changeValues 1 none :: gW) (sRm 1 14) (sPc Δ [.ref (sA Δ 0)] i r) (sQv Δ (fun i' r' => r = r' ∧ Q i')) 0 0 (sFr Δ) := by
  refine Ct.v (by decide) rfl (Nat.le_of_ble_eq_true rfl) (fun Γ Q0 hG fin => ?_)
  have hG : okG Γ Δ l (sRm 1 14) cX11_changeValues "Schedulary" 1 := hG
  show V Γ Δ 504 false i r 0 0 Q0 0 [(0, .ref (sA Δ 0))] []
  refine V.aload_n (pc := 0) hG dX11_changeValues_0 rfl 0 rfl ?_
  refine V.aload_n (pc := 1) hG dX11_changeValues_1 rfl 0 rfl ?_
  refine V.getI (pc := 2) (ci := 13) (k := 9) (M := 11) (T := TX11) (o := 0) (kz := 9) hG a_0 a_0.n (by decide) hin_X11 rfl (by decide) (by decide) rfl kw_532 rfl dX11_changeValues_2 ?_
  refine V.iconst (pc := 5) hG dX11_changeValues_5 ?_
  refine V.mmin (pc := 6) hG ((hi _ _)) ((sR_l rfl)) kw_1244 kw_646 kw_121 kw_min ⟨Nat.le_of_ble_eq_true rfl, Nat.le_of_ble_eq_true rfl, Nat.le_of_ble_eq_true rfl, Nat.le_of_ble_eq_true rfl⟩ dX11_changeValues_6 ?_
  refine V.putI (pc := 9) (ci := 13) (k := 9) (M := 11) (T := TX11) (o := 0) (kz := 9) hG a_0 a_0.n (by decide) hin_X11 rfl (by decide) (by decide) rfl kw_532 rfl tyX11 tyX11_ok nmX11 rfl (ty := tyX11 9) (tyX11_ok 9 (by decide)) rfl rfl dX11_changeValues_9 ?_
  refine V.aload_n (pc := 12) hG dX11_changeValues_12 rfl 0 rfl ?_
  refine V.iconst (pc := 13) hG dX11_changeValues_13 ?_
  refine V.putI (pc := 14) (ci := 13) (k := 10) (M := 11) (T := TX11) (o := 0) (kz := 10) hG a_0 a_0.n (by decide) hin_X11 rfl (by decide) (by decide) rfl kw_533 rfl tyX11 tyX11_ok nmX11 rfl (ty := tyX11 10) (tyX11_ok 10 (by decide)) (nar_z (by decide)) (fit_z (by decide)) dX11_changeValues_14 ?_
  exact fin dX11_changeValues_17 ((okI_st ((okI_st hi ((sR_min ((hi _ _)) ((sR_l rfl)))))) ((sR_l rfl)))) hw ⟨rfl, h⟩
set_option maxRecDepth 100000 in
set_option maxHeartbeats 4000000 in
theorem sm_X11_setTurns (l : Launch) (Δ : Wd) {i r : MI} {p1 : Int} (hp1 : sR p1) {Q : Int → MI → Prop} {X : String → MI → Prop} (hst : l.stackTraces = false) (hi : okI i) (hw : Wf r) (h : wp_X11_setTurns p1 i r Q X) : vx_Met l yX11_setTurns (Cond.code yX11_setTurns cX11_setTurns 3 (some .int) :: gW) (sRx 6 82 1 6) (sPc Δ [.ref (sA Δ 0), .int (sJ p1)] i r) (sQi Δ (fun x i' r' => r = r' ∧ Q x i')) (sX Δ (fun E i' r' => r = r' ∧ X E i')) 1 6 (sFr Δ) := by
  refine Cx.i (ty := .int) (by decide) rfl (Nat.le_of_ble_eq_true rfl) hst (by decide) (by decide) (fun Γ Q0 hG fin xout xthr => ?_)
  have hG : okG Γ Δ l (sRx 6 82 1 6) cX11_setTurns "Schedulary" 3 := hG
  show V Γ Δ 504 false i r 0 0 Q0 0 [(0, .ref (sA Δ 0)), (1, .int (sJ p1))] []
  refine V.iload_n (pc := 0) hG dX11_setTurns_0 rfl 1 rfl ?_
  refine V.iconst (pc := 1) hG dX11_setTurns_1 ?_
  refine V.bipush (pc := 2) hG dX11_setTurns_2 (by decide) ?_
  refine V.callSi (pc := 4) (As := [.int (sJ p1), .int (sJ 1), .int (sJ 16)]) (stk := []) hG (sm_X11_isWithin l Δ hp1 ((sR_l rfl)) ((sR_l rfl)) hi hw h) mY_X11_isWithin kw_1221 kw_826 ⟨Nat.le_of_ble_eq_true rfl, Nat.le_of_ble_eq_true rfl, Nat.le_of_ble_eq_true rfl, Nat.le_of_ble_eq_true rfl⟩ rfl (Nat.le_of_ble_eq_true rfl) dX11_setTurns_4 rfl (fun v1 i2 r3 hv4 hi5 hw6 hq7 => ?_)
  obtain ⟨e32, e33, h⟩ := hq7
  subst e32
  subst e33
  obtain ⟨f10, t9⟩ := h
  refine V.if_ne (pc := 7) (tgt := 20) hG hv4 dX11_setTurns_7 (by decide) (fun c8 => ?_) (fun c8 => ?_)
  · have h := t9 c8
    clear t9 f10
    refine V.iload_n (pc := 20) hG dX11_setTurns_20 rfl 1 rfl ?_
    refine V.aload_n (pc := 21) hG dX11_setTurns_21 rfl 0 rfl ?_
    refine V.getR (x := 3) (pc := 22) (ci := 13) (k := 1) (M := 11) (T := TX11) (o := 0) (kz := 1) hG a_0 a_0.n (by decide) hin_X11 rfl (by decide) (by decide) rfl kw_524 rfl ((hw).1 (0, 1, 3) (by decide)) (by decide) dX11_setTurns_22 ?_
    refine V.getIN (pc := 25) (ci := 8) (k := 8) (M := 9) (T := TX6) (o := 3) (kz := 8) hG a_3 a_3.n (by decide) hin_X6 rfl (by decide) (by decide) rfl kw_221 rfl dX11_setTurns_25 ?_
    refine V.callSi (pc := 28) (As := [.int (sJ p1), .int (sJ (i 3 8))]) (stk := []) hG (sm_X11_isDivided l Δ hp1 ((hi _ _)) hi hw h) mY_X11_isDivided kw_1223 kw_737 ⟨Nat.le_of_ble_eq_true rfl, Nat.le_of_ble_eq_true rfl, Nat.le_of_ble_eq_true rfl, Nat.le_of_ble_eq_true rfl⟩ rfl (Nat.le_of_ble_eq_true rfl) dX11_setTurns_28 rfl (fun v11 i12 r13 hv14 hi15 hw16 hq17 => ?_)
    obtain ⟨e30, e31, h⟩ := hq17
    subst e30
    subst e31
    obtain ⟨f20, t19⟩ := h
    refine V.if_ne (pc := 31) (tgt := 44) hG hv14 dX11_setTurns_31 (by decide) (fun c18 => ?_) (fun c18 => ?_)
    · have h := t19 c18
      clear t19 f20
      refine V.aload_n (pc := 44) hG dX11_setTurns_44 rfl 0 rfl ?_
      refine V.getR (x := 3) (pc := 45) (ci := 13) (k := 1) (M := 11) (T := TX11) (o := 0) (kz := 1) hG a_0 a_0.n (by decide) hin_X11 rfl (by decide) (by decide) rfl kw_524 rfl ((hw).1 (0, 1, 3) (by decide)) (by decide) dX11_setTurns_45 ?_
      refine V.getIN (pc := 48) (ci := 8) (k := 6) (M := 9) (T := TX6) (o := 3) (kz := 6) hG a_3 a_3.n (by decide) hin_X6 rfl (by decide) (by decide) rfl kw_215 rfl dX11_setTurns_48 ?_
      refine V.istore_n (pc := 51) (lv' := [(2, .int (sJ (i 3 6))), (0, .ref (sA Δ 0)), (1, .int (sJ p1))]) hG dX11_setTurns_51 rfl (by decide) rfl ?_
      refine V.aload_n (pc := 52) hG dX11_setTurns_52 rfl 1 rfl ?_
      refine V.getR (x := 3) (pc := 53) (ci := 13) (k := 1) (M := 11) (T := TX11) (o := 0) (kz := 1) hG a_0 a_0.n (by decide) hin_X11 rfl (by decide) (by decide) rfl kw_524 rfl ((hw).1 (0, 1, 3) (by decide)) (by decide) dX11_setTurns_53 ?_
      refine V.iload_n (pc := 56) hG dX11_setTurns_56 rfl 2 rfl ?_
      refine V.putIN (pc := 57) (ci := 8) (k := 6) (M := 9) (T := TX6) (o := 3) (kz := 6) hG a_3 a_3.n (by decide) hin_X6 rfl (by decide) (by decide) rfl kw_215 rfl tyX6 tyX6_ok nmX6 rfl (ty := tyX6 6) (tyX6_ok 6 (by decide)) rfl rfl dX11_setTurns_57 ?_
      refine V.aload_n (pc := 60) hG dX11_setTurns_60 rfl 1 rfl ?_
      refine V.callVv (pc := 61) (As := []) (stk := []) hG (sm_X11_changeValues l Δ  ((okI_st hi hp1)) hw h) mY_X11_changeValues kw_1240 kw_1242 kw_91 a_0 (by decide) (q := (RX11, TX11, 11)) rfl rfl ⟨Nat.le_of_ble_eq_true rfl, Nat.le_of_ble_eq_true rfl, Nat.le_of_ble_eq_true rfl, Nat.le_of_ble_eq_true rfl⟩ rfl (Nat.le_of_ble_eq_true rfl) dX11_setTurns_61 rfl (fun i22 r23 hi25 hw26 hq27 => ?_)
      obtain ⟨e29, h⟩ := hq27
      subst e29
      refine V.iload_n (pc := 64) hG dX11_setTurns_64 rfl 0 rfl ?_
      exact fin dX11_setTurns_65 ((hi _ _)) rfl (by decide) (by decide) hi25 hw ⟨rfl, h⟩
    · have h := f20 c18
      clear t19 f20
      exact xthr ⟨153, 155, 157, "the factor does not divide the turns", by decide, kw_1224, kw_127, by decide, .inl th_157, dX11_setTurns_34, dX11_setTurns_37, Or.inl ⟨dX11_setTurns_38, dX11_setTurns_40, dX11_setTurns_43⟩⟩ (by decide) (by decide) hi hw ⟨rfl, h⟩
  · have h := f10 c8
    clear t9 f10
    exact xthr ⟨88, 147, 92, "1 to 16 turns", by decide, kw_1096, kw_125, by decide, .inl th_92, dX11_setTurns_10, dX11_setTurns_13, Or.inl ⟨dX11_setTurns_14, dX11_setTurns_16, dX11_setTurns_19⟩⟩ (by decide) (by decide) hi hw ⟨rfl, h⟩
set_option maxRecDepth 100000 in
set_option maxHeartbeats 4000000 in
theorem sm_X11_setBits (l : Launch) (Δ : Wd) {i r : MI} {p1 : Int} (hp1 : sR p1) {Q : Int → MI → Prop} {X : String → MI → Prop} (hst : l.stackTraces = false) (hi : okI i) (hw : Wf r) (h : wp_X11_setBits p1 i r Q X) : vx_Met l yX11_setBits (Cond.code yX11_setBits cX11_setBits 3 (some .int) :: gW) (sRx 6 82 1 6) (sPc Δ [.ref (sA Δ 0), .int (sJ p1)] i r) (sQi Δ (fun x i' r' => r = r' ∧ Q x i')) (sX Δ (fun E i' r' => r = r' ∧ X E i')) 1 6 (sFr Δ) := by
  refine Cx.i (ty := .int) (by decide) rfl (Nat.le_of_ble_eq_true rfl) hst (by decide) (by decide) (fun Γ Q0 hG fin xout xthr => ?_)
  have hG : okG Γ Δ l (sRx 6 82 1 6) cX11_setBits "Schedulary" 3 := hG
  show V Γ Δ 504 false i r 0 0 Q0 0 [(0, .ref (sA Δ 0)), (1, .int (sJ p1))] []
  refine V.iload_n (pc := 0) hG dX11_setBits_0 rfl 1 rfl ?_
  refine V.iconst (pc := 1) hG dX11_setBits_1 ?_
  refine V.bipush (pc := 2) hG dX11_setBits_2 (by decide) ?_
  refine V.callSi (pc := 4) (As := [.int (sJ p1), .int (sJ 1), .int (sJ 16)]) (stk := []) hG (sm_X11_isWithin l Δ hp1 ((sR_l rfl)) ((sR_l rfl)) hi hw h) mY_X11_isWithin kw_1221 kw_826 ⟨Nat.le_of_ble_eq_true rfl, Nat.le_of_ble_eq_true rfl, Nat.le_of_ble_eq_true rfl, Nat.le_of_ble_eq_true rfl⟩ rfl (Nat.le_of_ble_eq_true rfl) dX11_setBits_4 rfl (fun v1 i2 r3 hv4 hi5 hw6 hq7 => ?_)
  obtain ⟨e20, e21, h⟩ := hq7
  subst e20
  subst e21
  obtain ⟨f10, t9⟩ := h
  refine V.if_ne (pc := 7) (tgt := 20) hG hv4 dX11_setBits_7 (by decide) (fun c8 => ?_) (fun c8 => ?_)
  · have h := t9 c8
    clear t9 f10
    refine V.aload_n (pc := 20) hG dX11_setBits_20 rfl 0 rfl ?_
    refine V.getR (x := 3) (pc := 21) (ci := 13) (k := 1) (M := 11) (T := TX11) (o := 0) (kz := 1) hG a_0 a_0.n (by decide) hin_X11 rfl (by decide) (by decide) rfl kw_524 rfl ((hw).1 (0, 1, 3) (by decide)) (by decide) dX11_setBits_21 ?_
    refine V.getIN (pc := 24) (ci := 8) (k := 7) (M := 9) (T := TX6) (o := 3) (kz := 7) hG a_3 a_3.n (by decide) hin_X6 rfl (by decide) (by decide) rfl kw_217 rfl dX11_setBits_24 ?_
    refine V.istore_n (pc := 27) (lv' := [(2, .int (sJ (i 3 7))), (0, .ref (sA Δ 0)), (1, .int (sJ p1))]) hG dX11_setBits_27 rfl (by decide) rfl ?_
    refine V.aload_n (pc := 28) hG dX11_setBits_28 rfl 1 rfl ?_
    refine V.getR (x := 3) (pc := 29) (ci := 13) (k := 1) (M := 11) (T := TX11) (o := 0) (kz := 1) hG a_0 a_0.n (by decide) hin_X11 rfl (by decide) (by decide) rfl kw_524 rfl ((hw).1 (0, 1, 3) (by decide)) (by decide) dX11_setBits_29 ?_
    refine V.iload_n (pc := 32) hG dX11_setBits_32 rfl 2 rfl ?_
    refine V.putIN (pc := 33) (ci := 8) (k := 7) (M := 9) (T := TX6) (o := 3) (kz := 7) hG a_3 a_3.n (by decide) hin_X6 rfl (by decide) (by decide) rfl kw_217 rfl tyX6 tyX6_ok nmX6 rfl (ty := tyX6 7) (tyX6_ok 7 (by decide)) rfl rfl dX11_setBits_33 ?_
    refine V.aload_n (pc := 36) hG dX11_setBits_36 rfl 1 rfl ?_
    refine V.callVv (pc := 37) (As := []) (stk := []) hG (sm_X11_changeValues l Δ  ((okI_st hi hp1)) hw h) mY_X11_changeValues kw_1240 kw_1242 kw_91 a_0 (by decide) (q := (RX11, TX11, 11)) rfl rfl ⟨Nat.le_of_ble_eq_true rfl, Nat.le_of_ble_eq_true rfl, Nat.le_of_ble_eq_true rfl, Nat.le_of_ble_eq_true rfl⟩ rfl (Nat.le_of_ble_eq_true rfl) dX11_setBits_37 rfl (fun i12 r13 hi15 hw16 hq17 => ?_)
    obtain ⟨e19, h⟩ := hq17
    subst e19
    refine V.iload_n (pc := 40) hG dX11_setBits_40 rfl 0 rfl ?_
    exact fin dX11_setBits_41 ((hi _ _)) rfl (by decide) (by decide) hi15 hw ⟨rfl, h⟩
  · have h := f10 c8
    clear t9 f10
    exact xthr ⟨88, 164, 92, "1 to 16 bits", by decide, kw_1096, kw_125, by decide, .inl th_92, dX11_setBits_10, dX11_setBits_13, Or.inl ⟨dX11_setBits_14, dX11_setBits_16, dX11_setBits_19⟩⟩ (by decide) (by decide) hi hw ⟨rfl, h⟩
set_option maxRecDepth 100000 in
set_option maxHeartbeats 4000000 in
theorem sm_X11_unroll (l : Launch) (Δ : Wd) {i r : MI} {p1 : Int} (hp1 : sR p1) {Q : Int → MI → MI → Prop} {X : String → MI → MI → Prop} (hst : l.stackTraces = false) (hi : okI i) (hw : Wf r) (h : wp_X11_unroll p1 i r Q X) : vx_Met l yX11_unroll (Cond.code yX11_unroll cX11_unroll 2 (some .int) :: gW) (sRx 6 145 1 6) (sPc Δ [.ref (sA Δ 0), .int (sJ p1)] i r) (sQi Δ (Q)) (sX Δ (X)) 1 6 (sFr Δ) := by
  refine Cx.i (ty := .int) (by decide) rfl (Nat.le_of_ble_eq_true rfl) hst (by decide) (by decide) (fun Γ Q0 hG fin xout xthr => ?_)
  have hG : okG Γ Δ l (sRx 6 145 1 6) cX11_unroll "Schedulary" 2 := hG
  show V Γ Δ 504 false i r 0 0 Q0 0 [(0, .ref (sA Δ 0)), (1, .int (sJ p1))] []
  refine V.iload_n (pc := 0) hG dX11_unroll_0 rfl 1 rfl ?_
  refine V.iconst (pc := 1) hG dX11_unroll_1 ?_
  refine V.iconst (pc := 2) hG dX11_unroll_2 ?_
  refine V.callSi (pc := 3) (As := [.int (sJ p1), .int (sJ 1), .int (sJ 4)]) (stk := []) hG (sm_X11_isWithin l Δ hp1 ((sR_l rfl)) ((sR_l rfl)) hi hw h) mY_X11_isWithin kw_1221 kw_826 ⟨Nat.le_of_ble_eq_true rfl, Nat.le_of_ble_eq_true rfl, Nat.le_of_ble_eq_true rfl, Nat.le_of_ble_eq_true rfl⟩ rfl (Nat.le_of_ble_eq_true rfl) dX11_unroll_3 rfl (fun v1 i2 r3 hv4 hi5 hw6 hq7 => ?_)
  obtain ⟨e44, e45, h⟩ := hq7
  subst e44
  subst e45
  obtain ⟨f10, t9⟩ := h
  refine V.if_ne (pc := 6) (tgt := 19) hG hv4 dX11_unroll_6 (by decide) (fun c8 => ?_) (fun c8 => ?_)
  · have h := t9 c8
    clear t9 f10
    refine V.aload_n (pc := 19) hG dX11_unroll_19 rfl 0 rfl ?_
    refine V.getR (x := 3) (pc := 20) (ci := 13) (k := 1) (M := 11) (T := TX11) (o := 0) (kz := 1) hG a_0 a_0.n (by decide) hin_X11 rfl (by decide) (by decide) rfl kw_524 rfl ((hw).1 (0, 1, 3) (by decide)) (by decide) dX11_unroll_20 ?_
    refine V.getIN (pc := 23) (ci := 8) (k := 6) (M := 9) (T := TX6) (o := 3) (kz := 6) hG a_3 a_3.n (by decide) hin_X6 rfl (by decide) (by decide) rfl kw_215 rfl dX11_unroll_23 ?_
    refine V.iload_n (pc := 26) hG dX11_unroll_26 rfl 1 rfl ?_
    refine V.callSi (pc := 27) (As := [.int (sJ (i 3 6)), .int (sJ p1)]) (stk := []) hG (sm_X11_isDivided l Δ ((hi _ _)) hp1 hi hw h) mY_X11_isDivided kw_1223 kw_737 ⟨Nat.le_of_ble_eq_true rfl, Nat.le_of_ble_eq_true rfl, Nat.le_of_ble_eq_true rfl, Nat.le_of_ble_eq_true rfl⟩ rfl (Nat.le_of_ble_eq_true rfl) dX11_unroll_27 rfl (fun v11 i12 r13 hv14 hi15 hw16 hq17 => ?_)
    obtain ⟨e42, e43, h⟩ := hq17
    subst e42
    subst e43
    obtain ⟨f20, t19⟩ := h
    refine V.if_ne (pc := 30) (tgt := 43) hG hv14 dX11_unroll_30 (by decide) (fun c18 => ?_) (fun c18 => ?_)
    · have h := t19 c18
      clear t19 f20
      refine V.aload_n (pc := 43) hG dX11_unroll_43 rfl 0 rfl ?_
      refine V.getR (x := 3) (pc := 44) (ci := 13) (k := 1) (M := 11) (T := TX11) (o := 0) (kz := 1) hG a_0 a_0.n (by decide) hin_X11 rfl (by decide) (by decide) rfl kw_524 rfl ((hw).1 (0, 1, 3) (by decide)) (by decide) dX11_unroll_44 ?_
      refine V.getIN (pc := 47) (ci := 8) (k := 4) (M := 9) (T := TX6) (o := 3) (kz := 4) hG a_3 a_3.n (by decide) hin_X6 rfl (by decide) (by decide) rfl kw_211 rfl dX11_unroll_47 ?_
      refine V.iload_n (pc := 50) hG dX11_unroll_50 rfl 1 rfl ?_
      refine V.imul (pc := 51) hG dX11_unroll_51 ?_
      refine V.bipush (pc := 52) hG dX11_unroll_52 (by decide) ?_
      obtain ⟨t22, f23⟩ := h
      refine V.icmp_le (pc := 54) (tgt := 67) hG ((sR_wr _)) ((sR_l rfl)) dX11_unroll_54 (by decide) (fun c21 => ?_) (fun c21 => ?_)
      · have h := t22 c21
        clear t22 f23
        refine V.aload_n (pc := 67) hG dX11_unroll_67 rfl 0 rfl ?_
        refine V.getR (x := 3) (pc := 68) (ci := 13) (k := 1) (M := 11) (T := TX11) (o := 0) (kz := 1) hG a_0 a_0.n (by decide) hin_X11 rfl (by decide) (by decide) rfl kw_524 rfl ((hw).1 (0, 1, 3) (by decide)) (by decide) dX11_unroll_68 ?_
        refine V.iload_n (pc := 71) hG dX11_unroll_71 rfl 1 rfl ?_
        refine V.putIN (pc := 72) (ci := 8) (k := 8) (M := 9) (T := TX6) (o := 3) (kz := 8) hG a_3 a_3.n (by decide) hin_X6 rfl (by decide) (by decide) rfl kw_221 rfl tyX6 tyX6_ok nmX6 rfl (ty := tyX6 8) (tyX6_ok 8 (by decide)) rfl rfl dX11_unroll_72 ?_
        refine V.aload_n (pc := 75) hG dX11_unroll_75 rfl 0 rfl ?_
        refine V.callVv (pc := 76) (As := []) (stk := []) hG (sm_X11_changeBody l Δ  ((okI_st hi hp1)) hw h) mY_X11_changeBody kw_1196 kw_1198 kw_90 a_0 (by decide) (q := (RX11, TX11, 11)) rfl rfl ⟨Nat.le_of_ble_eq_true rfl, Nat.le_of_ble_eq_true rfl, Nat.le_of_ble_eq_true rfl, Nat.le_of_ble_eq_true rfl⟩ rfl (Nat.le_of_ble_eq_true rfl) dX11_unroll_76 rfl (fun i25 r26 hi28 hw29 hq30 => ?_)
        obtain ⟨e41, h⟩ := hq30
        subst e41
        refine V.aload_n (pc := 79) hG dX11_unroll_79 rfl 0 rfl ?_
        refine V.iconst (pc := 80) hG dX11_unroll_80 ?_
        refine V.callVv (pc := 81) (As := [.int (sJ 1)]) (stk := []) hG (sm_X11_prepare l Δ ((sR_l rfl)) hi28 hw h) mY_X11_prepare kw_621 kw_623 kw_14 a_0 (by decide) (q := (RX11, TX11, 11)) rfl rfl ⟨Nat.le_of_ble_eq_true rfl, Nat.le_of_ble_eq_true rfl, Nat.le_of_ble_eq_true rfl, Nat.le_of_ble_eq_true rfl⟩ rfl (Nat.le_of_ble_eq_true rfl) dX11_unroll_81 rfl (fun i32 r33 hi35 hw36 hq37 => ?_)
        have h := hq37
        refine V.aload_n (pc := 84) hG dX11_unroll_84 rfl 0 rfl ?_
        refine V.getR (x := 67) (pc := 85) (ci := 13) (k := 3) (M := 11) (T := TX11) (o := 0) (kz := 3) hG a_0 a_0.n (by decide) hin_X11 rfl (by decide) (by decide) rfl kw_526 rfl ((hw36).1 (0, 3, 67) (by decide)) (by decide) dX11_unroll_85 ?_
        refine V.getIN (pc := 88) (ci := 2) (k := 4) (M := 5) (T := TX0) (o := 67) (kz := 4) hG a_67 a_67.n (by decide) hin_X0 rfl (by decide) (by decide) rfl kw_368 rfl dX11_unroll_88 ?_
        exact fin dX11_unroll_91 ((hi35 _ _)) rfl (by decide) (by decide) hi35 hw36 h
      · have h := f23 c21
        clear t22 f23
        exact xthr ⟨98, 171, 102, "too many statements in a body", by decide, kw_1112, kw_126, by decide, .inl th_102, dX11_unroll_57, dX11_unroll_60, Or.inl ⟨dX11_unroll_61, dX11_unroll_63, dX11_unroll_66⟩⟩ (by decide) (by decide) hi hw h
    · have h := f20 c18
      clear t19 f20
      exact xthr ⟨153, 155, 157, "the factor does not divide the turns", by decide, kw_1224, kw_127, by decide, .inl th_157, dX11_unroll_33, dX11_unroll_36, Or.inl ⟨dX11_unroll_37, dX11_unroll_39, dX11_unroll_42⟩⟩ (by decide) (by decide) hi hw h
  · have h := f10 c8
    clear t9 f10
    exact xthr ⟨88, 169, 92, "factors are 1 to 4", by decide, kw_1096, kw_125, by decide, .inl th_92, dX11_unroll_9, dX11_unroll_12, Or.inl ⟨dX11_unroll_13, dX11_unroll_15, dX11_unroll_18⟩⟩ (by decide) (by decide) hi hw h
set_option maxRecDepth 100000 in
set_option maxHeartbeats 4000000 in
theorem sm_X11_input (l : Launch) (Δ : Wd) {i r : MI} {p1 : Int} (hp1 : sR p1) {Q : Int → MI → Prop} {X : String → MI → Prop} (hst : l.stackTraces = false) (hi : okI i) (hw : Wf r) (h : wp_X11_input p1 i r Q X) : vx_Met l yX11_input (Cond.code yX11_input cX11_input 2 (some .int) :: gW) (sRx 6 82 1 6) (sPc Δ [.ref (sA Δ 0), .int (sJ p1)] i r) (sQi Δ (fun x i' r' => r = r' ∧ Q x i')) (sX Δ (fun E i' r' => r = r' ∧ X E i')) 1 6 (sFr Δ) := by
  refine Cx.i (ty := .int) (by decide) rfl (Nat.le_of_ble_eq_true rfl) hst (by decide) (by decide) (fun Γ Q0 hG fin xout xthr => ?_)
  have hG : okG Γ Δ l (sRx 6 82 1 6) cX11_input "Schedulary" 2 := hG
  show V Γ Δ 504 false i r 0 0 Q0 0 [(0, .ref (sA Δ 0)), (1, .int (sJ p1))] []
  refine V.iload_n (pc := 0) hG dX11_input_0 rfl 1 rfl ?_
  refine V.iconst (pc := 1) hG dX11_input_1 ?_
  refine V.ldc (pc := 2) (x := 65535) hG kw_1260 dX11_input_2 ?_
  refine V.callSi (pc := 4) (As := [.int (sJ p1), .int (sJ 0), .int (sJ 65535)]) (stk := []) hG (sm_X11_isWithin l Δ hp1 ((sR_l rfl)) ((sR_l rfl)) hi hw h) mY_X11_isWithin kw_1221 kw_826 ⟨Nat.le_of_ble_eq_true rfl, Nat.le_of_ble_eq_true rfl, Nat.le_of_ble_eq_true rfl, Nat.le_of_ble_eq_true rfl⟩ rfl (Nat.le_of_ble_eq_true rfl) dX11_input_4 rfl (fun v1 i2 r3 hv4 hi5 hw6 hq7 => ?_)
  obtain ⟨e24, e25, h⟩ := hq7
  subst e24
  subst e25
  obtain ⟨f10, t9⟩ := h
  refine V.if_ne (pc := 7) (tgt := 20) hG hv4 dX11_input_7 (by decide) (fun c8 => ?_) (fun c8 => ?_)
  · have h := t9 c8
    clear t9 f10
    refine V.aload_n (pc := 20) hG dX11_input_20 rfl 0 rfl ?_
    refine V.getR (x := 3) (pc := 21) (ci := 13) (k := 1) (M := 11) (T := TX11) (o := 0) (kz := 1) hG a_0 a_0.n (by decide) hin_X11 rfl (by decide) (by decide) rfl kw_524 rfl ((hw).1 (0, 1, 3) (by decide)) (by decide) dX11_input_21 ?_
    refine V.getIN (pc := 24) (ci := 8) (k := 5) (M := 9) (T := TX6) (o := 3) (kz := 5) hG a_3 a_3.n (by decide) hin_X6 rfl (by decide) (by decide) rfl kw_213 rfl dX11_input_24 ?_
    refine V.bipush (pc := 27) hG dX11_input_27 (by decide) ?_
    obtain ⟨t12, f13⟩ := h
    refine V.icmp_lt (pc := 29) (tgt := 42) hG ((hi _ _)) ((sR_l rfl)) dX11_input_29 (by decide) (fun c11 => ?_) (fun c11 => ?_)
    · have h := t12 c11
      clear t12 f13
      refine V.aload_n (pc := 42) hG dX11_input_42 rfl 0 rfl ?_
      refine V.getR (x := 3) (pc := 43) (ci := 13) (k := 1) (M := 11) (T := TX11) (o := 0) (kz := 1) hG a_0 a_0.n (by decide) hin_X11 rfl (by decide) (by decide) rfl kw_524 rfl ((hw).1 (0, 1, 3) (by decide)) (by decide) dX11_input_43 ?_
      refine V.getRN (x := 5) (pc := 46) (ci := 8) (k := 1) (M := 9) (T := TX6) (o := 3) (kz := 1) hG a_3 a_3.n (by decide) hin_X6 rfl (by decide) (by decide) rfl kw_203 rfl ((hw).1 (3, 1, 5) (by decide)) (by decide) dX11_input_46 ?_
      refine V.aload_n (pc := 49) hG dX11_input_49 rfl 0 rfl ?_
      refine V.getR (x := 3) (pc := 50) (ci := 13) (k := 1) (M := 11) (T := TX11) (o := 0) (kz := 1) hG a_0 a_0.n (by decide) hin_X11 rfl (by decide) (by decide) rfl kw_524 rfl ((hw).1 (0, 1, 3) (by decide)) (by decide) dX11_input_50 ?_
      refine V.getIN (pc := 53) (ci := 8) (k := 5) (M := 9) (T := TX6) (o := 3) (kz := 5) hG a_3 a_3.n (by decide) hin_X6 rfl (by decide) (by decide) rfl kw_213 rfl dX11_input_53 ?_
      refine V.iload_n (pc := 56) hG dX11_input_56 rfl 1 rfl ?_
      obtain ⟨g14, h⟩ := h
      refine V.iast (pc := 57) (z := 32) (o := 5) hG a_5 a_5.n ((hi _ _)) g14 dX11_input_57 ?_
      refine V.aload_n (pc := 58) hG dX11_input_58 rfl 0 rfl ?_
      refine V.getR (x := 3) (pc := 59) (ci := 13) (k := 1) (M := 11) (T := TX11) (o := 0) (kz := 1) hG a_0 a_0.n (by decide) hin_X11 rfl (by decide) (by decide) rfl kw_524 rfl ((hw).1 (0, 1, 3) (by decide)) (by decide) dX11_input_59 ?_
      refine V.dup (pc := 62) hG dX11_input_62 rfl ?_
      refine V.getIN (pc := 63) (ci := 8) (k := 5) (M := 9) (T := TX6) (o := 3) (kz := 5) hG a_3 a_3.n (by decide) hin_X6 rfl (by decide) (by decide) rfl kw_213 rfl dX11_input_63 ?_
      refine V.iconst (pc := 66) hG dX11_input_66 ?_
      refine V.iadd (pc := 67) hG dX11_input_67 ?_
      refine V.putIN (pc := 68) (ci := 8) (k := 5) (M := 9) (T := TX6) (o := 3) (kz := 5) hG a_3 a_3.n (by decide) hin_X6 rfl (by decide) (by decide) rfl kw_213 rfl tyX6 tyX6_ok nmX6 rfl (ty := tyX6 5) (tyX6_ok 5 (by decide)) rfl rfl dX11_input_68 ?_
      refine V.aload_n (pc := 71) hG dX11_input_71 rfl 0 rfl ?_
      refine V.callVv (pc := 72) (As := []) (stk := []) hG (sm_X11_changeValues l Δ  ((okI_st ((okI_st hi hp1)) ((sR_wr _)))) hw h) mY_X11_changeValues kw_1240 kw_1242 kw_91 a_0 (by decide) (q := (RX11, TX11, 11)) rfl rfl ⟨Nat.le_of_ble_eq_true rfl, Nat.le_of_ble_eq_true rfl, Nat.le_of_ble_eq_true rfl, Nat.le_of_ble_eq_true rfl⟩ rfl (Nat.le_of_ble_eq_true rfl) dX11_input_72 rfl (fun i16 r17 hi19 hw20 hq21 => ?_)
      obtain ⟨e23, h⟩ := hq21
      subst e23
      refine V.aload_n (pc := 75) hG dX11_input_75 rfl 0 rfl ?_
      refine V.getR (x := 3) (pc := 76) (ci := 13) (k := 1) (M := 11) (T := TX11) (o := 0) (kz := 1) hG a_0 a_0.n (by decide) hin_X11 rfl (by decide) (by decide) rfl kw_524 rfl ((hw).1 (0, 1, 3) (by decide)) (by decide) dX11_input_76 ?_
      refine V.getIN (pc := 79) (ci := 8) (k := 5) (M := 9) (T := TX6) (o := 3) (kz := 5) hG a_3 a_3.n (by decide) hin_X6 rfl (by decide) (by decide) rfl kw_213 rfl dX11_input_79 ?_
      exact fin dX11_input_82 ((hi19 _ _)) rfl (by decide) (by decide) hi19 hw ⟨rfl, h⟩
    · have h := f13 c11
      clear t12 f13
      exact xthr ⟨98, 179, 102, "too many inputs", by decide, kw_1112, kw_126, by decide, .inl th_102, dX11_input_32, dX11_input_35, Or.inl ⟨dX11_input_36, dX11_input_38, dX11_input_41⟩⟩ (by decide) (by decide) hi hw ⟨rfl, h⟩
  · have h := f10 c8
    clear t9 f10
    exact xthr ⟨88, 174, 92, "values are 0 to 65535", by decide, kw_1096, kw_125, by decide, .inl th_92, dX11_input_10, dX11_input_13, Or.inl ⟨dX11_input_14, dX11_input_16, dX11_input_19⟩⟩ (by decide) (by decide) hi hw ⟨rfl, h⟩
set_option maxRecDepth 100000 in
set_option maxHeartbeats 4000000 in
theorem sm_X11_isPlace (l : Launch) (Δ : Wd) {i r : MI} {p0 : Int} {p1 : Int} (hp0 : sR p0) (hp1 : sR p1) {Q : Int → Prop} (hi : okI i) (hw : Wf r) (h : wp_X11_isPlace p0 p1 i r Q) : Met l yX11_isPlace (Cond.code yX11_isPlace cX11_isPlace 2 (some .boolean) :: gW) (sRm 4 91) (sPc Δ [.int (sJ p0), .int (sJ p1)] i r) (sQi Δ (fun x i' r' => i = i' ∧ r = r' ∧ Q x)) 0 0 (sFr Δ) := by
  refine Ct.i (ty := .boolean) (by decide) rfl (Nat.le_of_ble_eq_true rfl) (fun Γ Q0 hG fin => ?_)
  have hG : okG Γ Δ l (sRm 4 91) cX11_isPlace "Schedulary" 2 := hG
  show V Γ Δ 504 false i r 0 0 Q0 0 [(0, .int (sJ p0)), (1, .int (sJ p1))] []
  have jn24 : ∀ (k0j24 : Int), sR k0j24 → s24_X11_isPlace k0j24 i r Q → V Γ Δ 504 false i r 0 0 Q0 24 [] [.int (sJ k0j24)] := by
    intro k0j24 hk0j24 h
    obtain ⟨g2, h⟩ := h
    exact fin dX11_isPlace_24 hk0j24 (nar_z g2) hi hw ⟨rfl, rfl, h⟩
  have jn23 : s23_X11_isPlace i r Q → V Γ Δ 504 false i r 0 0 Q0 23 [] [] := by
    intro h
    refine V.iconst (pc := 23) hG dX11_isPlace_23 ?_
    exact jn24 0 ((sR_l rfl)) h
  refine V.ldcS (pc := 0) (k := 2) (tx := "MN") hG (by decide) dX11_isPlace_0 ?_
  refine V.iload_n (pc := 2) hG dX11_isPlace_2 rfl 0 rfl ?_
  refine V.callVSi (pc := 3) (As := [.int (sJ p0)]) (stk := []) hG (sm_J0_indexOf_0f7a4 l Δ (by decide) hp0 hi hw h) mY_J0_indexOf_0f7a4 kw_1014 kw_1015 kw_1016 (by decide) rfl ⟨Nat.le_of_ble_eq_true rfl, Nat.le_of_ble_eq_true rfl, Nat.le_of_ble_eq_true rfl, Nat.le_of_ble_eq_true rfl⟩ rfl (Nat.le_of_ble_eq_true rfl) dX11_isPlace_3 rfl (fun v3 i4 r5 hv6 hi7 hw8 hq9 => ?_)
  obtain ⟨e25, e26, h⟩ := hq9
  subst e25
  subst e26
  obtain ⟨t11, f12⟩ := h
  refine V.if_lt (pc := 6) (tgt := 23) hG hv6 dX11_isPlace_6 (by decide) (fun c10 => ?_) (fun c10 => ?_)
  · have h := t11 c10
    clear t11 f12
    refine V.pick [] rfl ?_
    exact jn23 h
  · have h := f12 c10
    clear t11 f12
    refine V.iload_n (pc := 9) hG dX11_isPlace_9 rfl 1 rfl ?_
    refine V.iconst (pc := 10) hG dX11_isPlace_10 ?_
    refine V.bipush (pc := 11) hG dX11_isPlace_11 (by decide) ?_
    refine V.callSi (pc := 13) (As := [.int (sJ p1), .int (sJ 0), .int (sJ 15)]) (stk := []) hG (sm_X11_isWithin l Δ hp1 ((sR_l rfl)) ((sR_l rfl)) hi hw h) mY_X11_isWithin kw_1221 kw_826 ⟨Nat.le_of_ble_eq_true rfl, Nat.le_of_ble_eq_true rfl, Nat.le_of_ble_eq_true rfl, Nat.le_of_ble_eq_true rfl⟩ rfl (Nat.le_of_ble_eq_true rfl) dX11_isPlace_13 rfl (fun v13 i14 r15 hv16 hi17 hw18 hq19 => ?_)
    obtain ⟨e23, e24, h⟩ := hq19
    subst e23
    subst e24
    obtain ⟨t21, f22⟩ := h
    refine V.if_eq (pc := 16) (tgt := 23) hG hv16 dX11_isPlace_16 (by decide) (fun c20 => ?_) (fun c20 => ?_)
    · have h := t21 c20
      clear t21 f22
      refine V.pick [] rfl ?_
      exact jn23 h
    · have h := f22 c20
      clear t21 f22
      refine V.iconst (pc := 19) hG dX11_isPlace_19 ?_
      refine V.goto (pc := 20) (tgt := 24) hG dX11_isPlace_20 (by decide) ?_
      refine V.pick [] rfl ?_
      exact jn24 1 ((sR_l rfl)) h
set_option maxRecDepth 100000 in
set_option maxHeartbeats 4000000 in
theorem sm_X11_setMemory (l : Launch) (Δ : Wd) {i r : MI} {p1 : Int} {p2 : Int} {p3 : Int} (hp1 : sR p1) (hp2 : sR p2) (hp3 : sR p3) {Q : Int → MI → Prop} {X : String → MI → Prop} (hst : l.stackTraces = false) (hi : okI i) (hw : Wf r) (h : wp_X11_setMemory p1 p2 p3 i r Q X) : vx_Met l yX11_setMemory (Cond.code yX11_setMemory cX11_setMemory 6 (some .int) :: gW) (sRx 6 112 1 6) (sPc Δ [.ref (sA Δ 0), .int (sJ p1), .int (sJ p2), .int (sJ p3)] i r) (sQi Δ (fun x i' r' => r = r' ∧ Q x i')) (sX Δ (fun E i' r' => r = r' ∧ X E i')) 1 6 (sFr Δ) := by
  refine Cx.i (ty := .int) (by decide) rfl (Nat.le_of_ble_eq_true rfl) hst (by decide) (by decide) (fun Γ Q0 hG fin xout xthr => ?_)
  have hG : okG Γ Δ l (sRx 6 112 1 6) cX11_setMemory "Schedulary" 6 := hG
  show V Γ Δ 504 false i r 0 0 Q0 0 [(0, .ref (sA Δ 0)), (1, .int (sJ p1)), (2, .int (sJ p2)), (3, .int (sJ p3))] []
  have jn18 : ∀  (ij18 : MI), okI ij18 → s18_X11_setMemory ij18 r Q X → V Γ Δ 504 false ij18 r 0 0 Q0 18 [] [] := by
    intro ij18 hij18 h
    exact xthr ⟨88, 189, 92, "no such place or value", by decide, kw_1096, kw_125, by decide, .inl th_92, dX11_setMemory_18, dX11_setMemory_21, Or.inl ⟨dX11_setMemory_22, dX11_setMemory_24, dX11_setMemory_27⟩⟩ (by decide) (by decide) hij18 hw ⟨rfl, h⟩
  refine V.iload_n (pc := 0) hG dX11_setMemory_0 rfl 1 rfl ?_
  refine V.iload_n (pc := 1) hG dX11_setMemory_1 rfl 2 rfl ?_
  refine V.callSi (pc := 2) (As := [.int (sJ p1), .int (sJ p2)]) (stk := []) hG (sm_X11_isPlace l Δ hp1 hp2 hi hw h) mY_X11_isPlace kw_1267 kw_1268 ⟨Nat.le_of_ble_eq_true rfl, Nat.le_of_ble_eq_true rfl, Nat.le_of_ble_eq_true rfl, Nat.le_of_ble_eq_true rfl⟩ rfl (Nat.le_of_ble_eq_true rfl) dX11_setMemory_2 rfl (fun v1 i2 r3 hv4 hi5 hw6 hq7 => ?_)
  obtain ⟨e44, e45, h⟩ := hq7
  subst e44
  subst e45
  obtain ⟨t9, f10⟩ := h
  refine V.if_eq (pc := 5) (tgt := 18) hG hv4 dX11_setMemory_5 (by decide) (fun c8 => ?_) (fun c8 => ?_)
  · have h := t9 c8
    clear t9 f10
    refine V.pick [] rfl ?_
    exact jn18 i hi h
  · have h := f10 c8
    clear t9 f10
    refine V.iload_n (pc := 8) hG dX11_setMemory_8 rfl 3 rfl ?_
    refine V.iconst (pc := 9) hG dX11_setMemory_9 ?_
    refine V.ldc (pc := 10) (x := 65535) hG kw_1260 dX11_setMemory_10 ?_
    refine V.callSi (pc := 12) (As := [.int (sJ p3), .int (sJ 0), .int (sJ 65535)]) (stk := []) hG (sm_X11_isWithin l Δ hp3 ((sR_l rfl)) ((sR_l rfl)) hi hw h) mY_X11_isWithin kw_1221 kw_826 ⟨Nat.le_of_ble_eq_true rfl, Nat.le_of_ble_eq_true rfl, Nat.le_of_ble_eq_true rfl, Nat.le_of_ble_eq_true rfl⟩ rfl (Nat.le_of_ble_eq_true rfl) dX11_setMemory_12 rfl (fun v11 i12 r13 hv14 hi15 hw16 hq17 => ?_)
    obtain ⟨e42, e43, h⟩ := hq17
    subst e42
    subst e43
    obtain ⟨f20, t19⟩ := h
    refine V.if_ne (pc := 15) (tgt := 28) hG hv14 dX11_setMemory_15 (by decide) (fun c18 => ?_) (fun c18 => ?_)
    · have h := t19 c18
      clear t19 f20
      refine V.aload_n (pc := 28) hG dX11_setMemory_28 rfl 0 rfl ?_
      refine V.getR (x := 3) (pc := 29) (ci := 13) (k := 1) (M := 11) (T := TX11) (o := 0) (kz := 1) hG a_0 a_0.n (by decide) hin_X11 rfl (by decide) (by decide) rfl kw_524 rfl ((hw).1 (0, 1, 3) (by decide)) (by decide) dX11_setMemory_29 ?_
      refine V.getRN (x := 6) (pc := 32) (ci := 8) (k := 2) (M := 9) (T := TX6) (o := 3) (kz := 2) hG a_3 a_3.n (by decide) hin_X6 rfl (by decide) (by decide) rfl kw_206 rfl ((hw).1 (3, 2, 6) (by decide)) (by decide) dX11_setMemory_32 ?_
      refine V.ldcS (pc := 35) (k := 2) (tx := "MN") hG (by decide) dX11_setMemory_35 ?_
      refine V.iload_n (pc := 37) hG dX11_setMemory_37 rfl 1 rfl ?_
      refine V.callVSi (pc := 38) (As := [.int (sJ p1)]) (stk := [.ref (sA Δ 6)]) hG (sm_J0_indexOf_0f7a4 l Δ (by decide) hp1 hi hw h) mY_J0_indexOf_0f7a4 kw_1014 kw_1015 kw_1016 (by decide) rfl ⟨Nat.le_of_ble_eq_true rfl, Nat.le_of_ble_eq_true rfl, Nat.le_of_ble_eq_true rfl, Nat.le_of_ble_eq_true rfl⟩ rfl (Nat.le_of_ble_eq_true rfl) dX11_setMemory_38 rfl (fun v21 i22 r23 hv24 hi25 hw26 hq27 => ?_)
      obtain ⟨e40, e41, h⟩ := hq27
      subst e40
      subst e41
      obtain ⟨g28, h⟩ := h
      refine V.aald (pc := 41) 7 (z := 2) (o := 6) (x := v21) (y := 7 + v21) hG a_6 a_6.n (by decide) hv24 g28 (hw.2.1 (6, 2, 7) (by decide) _ g28.1 g28.2) (by omega) dX11_setMemory_41 ?_
      refine V.astore (pc := 42) (lv' := [(4, .ref (sA Δ (7 + v21))), (0, .ref (sA Δ 0)), (1, .int (sJ p1)), (2, .int (sJ p2)), (3, .int (sJ p3))]) hG dX11_setMemory_42 (by decide) rfl ?_
      refine V.aload (pc := 44) hG dX11_setMemory_44 0 rfl ?_
      refine V.iload_n (pc := 46) hG dX11_setMemory_46 rfl 3 rfl ?_
      obtain ⟨g29, h⟩ := h
      refine V.iald (pc := 47) (z := 16) (o := 7 + v21) hG (row_6 g28) ((row_6 g28)).n hp2 g29 dX11_setMemory_47 ?_
      refine V.istore (pc := 48) (lv' := [(5, .int (sJ (i (7 + v21) p2))), (4, .ref (sA Δ (7 + v21))), (0, .ref (sA Δ 0)), (1, .int (sJ p1)), (2, .int (sJ p2)), (3, .int (sJ p3))]) hG dX11_setMemory_48 (by decide) rfl ?_
      refine V.aload (pc := 50) hG dX11_setMemory_50 1 rfl ?_
      refine V.iload_n (pc := 52) hG dX11_setMemory_52 rfl 4 rfl ?_
      refine V.iload_n (pc := 53) hG dX11_setMemory_53 rfl 5 rfl ?_
      obtain ⟨g30, h⟩ := h
      refine V.iast (pc := 54) (z := 16) (o := 7 + v21) hG (row_6 g28) ((row_6 g28)).n hp2 g30 dX11_setMemory_54 ?_
      refine V.aload_n (pc := 55) hG dX11_setMemory_55 rfl 2 rfl ?_
      refine V.callVv (pc := 56) (As := []) (stk := []) hG (sm_X11_changeValues l Δ  ((okI_st hi hp3)) hw h) mY_X11_changeValues kw_1240 kw_1242 kw_91 a_0 (by decide) (q := (RX11, TX11, 11)) rfl rfl ⟨Nat.le_of_ble_eq_true rfl, Nat.le_of_ble_eq_true rfl, Nat.le_of_ble_eq_true rfl, Nat.le_of_ble_eq_true rfl⟩ rfl (Nat.le_of_ble_eq_true rfl) dX11_setMemory_56 rfl (fun i32 r33 hi35 hw36 hq37 => ?_)
      obtain ⟨e39, h⟩ := hq37
      subst e39
      refine V.iload (pc := 59) hG dX11_setMemory_59 0 rfl ?_
      exact fin dX11_setMemory_61 ((hi _ _)) rfl (by decide) (by decide) hi35 hw ⟨rfl, h⟩
    · have h := f20 c18
      clear t19 f20
      refine V.pick [] rfl ?_
      exact jn18 i hi h
set_option maxRecDepth 100000 in
set_option maxHeartbeats 4000000 in
theorem sm_X11_setUnits (l : Launch) (Δ : Wd) {i r : MI} {p1 : Int} {p2 : Int} (hp1 : sR p1) (hp2 : sR p2) {Q : Int → MI → Prop} {X : String → MI → Prop} (hst : l.stackTraces = false) (hi : okI i) (hw : Wf r) (h : wp_X11_setUnits p1 p2 i r Q X) : vx_Met l yX11_setUnits (Cond.code yX11_setUnits cX11_setUnits 5 (some .int) :: gW) (sRx 6 91 1 6) (sPc Δ [.ref (sA Δ 0), .int (sJ p1), .int (sJ p2)] i r) (sQi Δ (fun x i' r' => r = r' ∧ Q x i')) (sX Δ (fun E i' r' => r = r' ∧ X E i')) 1 6 (sFr Δ) := by
  refine Cx.i (ty := .int) (by decide) rfl (Nat.le_of_ble_eq_true rfl) hst (by decide) (by decide) (fun Γ Q0 hG fin xout xthr => ?_)
  have hG : okG Γ Δ l (sRx 6 91 1 6) cX11_setUnits "Schedulary" 5 := hG
  show V Γ Δ 504 false i r 0 0 Q0 0 [(0, .ref (sA Δ 0)), (1, .int (sJ p1)), (2, .int (sJ p2))] []
  have jn50 : ∀ (x3j50 : Int) (ij50 : MI), sR x3j50 → okI ij50 → s50_X11_setUnits p2 x3j50 ij50 r Q X → V Γ Δ 504 false ij50 r 0 0 Q0 50 [(0, .ref (sA Δ 0)), (2, .int (sJ p2)), (3, .int (sJ x3j50))] [] := by
    intro x3j50 ij50 hx3j50 hij50 h
    refine V.aload_n (pc := 50) hG dX11_setUnits_50 rfl 0 rfl ?_
    refine V.getR (x := 67) (pc := 51) (ci := 13) (k := 3) (M := 11) (T := TX11) (o := 0) (kz := 3) hG a_0 a_0.n (by decide) hin_X11 rfl (by decide) (by decide) rfl kw_526 rfl ((hw).1 (0, 3, 67) (by decide)) (by decide) dX11_setUnits_51 ?_
    refine V.getRN (x := 69) (pc := 54) (ci := 2) (k := 1) (M := 5) (T := TX0) (o := 67) (kz := 1) hG a_67 a_67.n (by decide) hin_X0 rfl (by decide) (by decide) rfl kw_358 rfl ((hw).1 (67, 1, 69) (by decide)) (by decide) dX11_setUnits_54 ?_
    refine V.iload_n (pc := 57) hG dX11_setUnits_57 rfl 2 rfl ?_
    obtain ⟨g3, h⟩ := h
    refine V.iald (pc := 58) (z := 7) (o := 69) hG a_69 a_69.n hx3j50 g3 dX11_setUnits_58 ?_
    refine V.istore (pc := 59) (lv' := [(4, .int (sJ (ij50 69 x3j50))), (0, .ref (sA Δ 0)), (2, .int (sJ p2)), (3, .int (sJ x3j50))]) hG dX11_setUnits_59 (by decide) rfl ?_
    refine V.aload_n (pc := 61) hG dX11_setUnits_61 rfl 1 rfl ?_
    refine V.getR (x := 67) (pc := 62) (ci := 13) (k := 3) (M := 11) (T := TX11) (o := 0) (kz := 3) hG a_0 a_0.n (by decide) hin_X11 rfl (by decide) (by decide) rfl kw_526 rfl ((hw).1 (0, 3, 67) (by decide)) (by decide) dX11_setUnits_62 ?_
    refine V.getRN (x := 69) (pc := 65) (ci := 2) (k := 1) (M := 5) (T := TX0) (o := 67) (kz := 1) hG a_67 a_67.n (by decide) hin_X0 rfl (by decide) (by decide) rfl kw_358 rfl ((hw).1 (67, 1, 69) (by decide)) (by decide) dX11_setUnits_65 ?_
    refine V.iload_n (pc := 68) hG dX11_setUnits_68 rfl 3 rfl ?_
    refine V.iload_n (pc := 69) hG dX11_setUnits_69 rfl 2 rfl ?_
    obtain ⟨g4, h⟩ := h
    refine V.iast (pc := 70) (z := 7) (o := 69) hG a_69 a_69.n hx3j50 g4 dX11_setUnits_70 ?_
    refine V.aload_n (pc := 71) hG dX11_setUnits_71 rfl 1 rfl ?_
    refine V.aload_n (pc := 72) hG dX11_setUnits_72 rfl 1 rfl ?_
    refine V.getI (pc := 73) (ci := 13) (k := 9) (M := 11) (T := TX11) (o := 0) (kz := 9) hG a_0 a_0.n (by decide) hin_X11 rfl (by decide) (by decide) rfl kw_532 rfl dX11_setUnits_73 ?_
    refine V.iconst (pc := 76) hG dX11_setUnits_76 ?_
    refine V.mmin (pc := 77) hG (((okI_st hij50 hp2) _ _)) ((sR_l rfl)) kw_1244 kw_646 kw_121 kw_min ⟨Nat.le_of_ble_eq_true rfl, Nat.le_of_ble_eq_true rfl, Nat.le_of_ble_eq_true rfl, Nat.le_of_ble_eq_true rfl⟩ dX11_setUnits_77 ?_
    refine V.putI (pc := 80) (ci := 13) (k := 9) (M := 11) (T := TX11) (o := 0) (kz := 9) hG a_0 a_0.n (by decide) hin_X11 rfl (by decide) (by decide) rfl kw_532 rfl tyX11 tyX11_ok nmX11 rfl (ty := tyX11 9) (tyX11_ok 9 (by decide)) rfl rfl dX11_setUnits_80 ?_
    refine V.iload (pc := 83) hG dX11_setUnits_83 0 rfl ?_
    exact fin dX11_setUnits_85 ((hij50 _ _)) rfl (by decide) (by decide) ((okI_st ((okI_st hij50 hp2)) ((sR_min (((okI_st hij50 hp2) _ _)) ((sR_l rfl)))))) hw ⟨rfl, h⟩
  have jn20 : ∀  (ij20 : MI), okI ij20 → s20_X11_setUnits ij20 r Q X → V Γ Δ 504 false ij20 r 0 0 Q0 20 [] [] := by
    intro ij20 hij20 h
    exact xthr ⟨88, 199, 92, "no such kind, or not 1 to 4 units", by decide, kw_1096, kw_125, by decide, .inl th_92, dX11_setUnits_20, dX11_setUnits_23, Or.inl ⟨dX11_setUnits_24, dX11_setUnits_26, dX11_setUnits_29⟩⟩ (by decide) (by decide) hij20 hw ⟨rfl, h⟩
  refine V.ldcS (pc := 0) (k := 3) (tx := "amgMN<>") hG (by decide) dX11_setUnits_0 ?_
  refine V.iload_n (pc := 2) hG dX11_setUnits_2 rfl 1 rfl ?_
  refine V.callVSi (pc := 3) (As := [.int (sJ p1)]) (stk := []) hG (sm_J0_indexOf_0f7a4 l Δ (by decide) hp1 hi hw h) mY_J0_indexOf_0f7a4 kw_1014 kw_1015 kw_1016 (by decide) rfl ⟨Nat.le_of_ble_eq_true rfl, Nat.le_of_ble_eq_true rfl, Nat.le_of_ble_eq_true rfl, Nat.le_of_ble_eq_true rfl⟩ rfl (Nat.le_of_ble_eq_true rfl) dX11_setUnits_3 rfl (fun v5 i6 r7 hv8 hi9 hw10 hq11 => ?_)
  obtain ⟨e33, e34, h⟩ := hq11
  subst e33
  subst e34
  refine V.istore_n (pc := 6) (lv' := [(3, .int (sJ v5)), (0, .ref (sA Δ 0)), (1, .int (sJ p1)), (2, .int (sJ p2))]) hG dX11_setUnits_6 rfl (by decide) rfl ?_
  refine V.iload_n (pc := 7) hG dX11_setUnits_7 rfl 0 rfl ?_
  obtain ⟨t13, f14⟩ := h
  refine V.if_lt (pc := 8) (tgt := 20) hG hv8 dX11_setUnits_8 (by decide) (fun c12 => ?_) (fun c12 => ?_)
  · have h := t13 c12
    clear t13 f14
    refine V.pick [] rfl ?_
    exact jn20 i hi h
  · have h := f14 c12
    clear t13 f14
    refine V.iload_n (pc := 11) hG dX11_setUnits_11 rfl 3 rfl ?_
    refine V.iconst (pc := 12) hG dX11_setUnits_12 ?_
    refine V.iconst (pc := 13) hG dX11_setUnits_13 ?_
    refine V.callSi (pc := 14) (As := [.int (sJ p2), .int (sJ 1), .int (sJ 4)]) (stk := []) hG (sm_X11_isWithin l Δ hp2 ((sR_l rfl)) ((sR_l rfl)) hi hw h) mY_X11_isWithin kw_1221 kw_826 ⟨Nat.le_of_ble_eq_true rfl, Nat.le_of_ble_eq_true rfl, Nat.le_of_ble_eq_true rfl, Nat.le_of_ble_eq_true rfl⟩ rfl (Nat.le_of_ble_eq_true rfl) dX11_setUnits_14 rfl (fun v15 i16 r17 hv18 hi19 hw20 hq21 => ?_)
    obtain ⟨e31, e32, h⟩ := hq21
    subst e31
    subst e32
    obtain ⟨f24, t23⟩ := h
    refine V.if_ne (pc := 17) (tgt := 30) hG hv18 dX11_setUnits_17 (by decide) (fun c22 => ?_) (fun c22 => ?_)
    · have h := t23 c22
      clear t23 f24
      refine V.iload_n (pc := 30) hG dX11_setUnits_30 rfl 0 rfl ?_
      refine V.iconst (pc := 31) hG dX11_setUnits_31 ?_
      obtain ⟨t26, f27⟩ := h
      refine V.icmp_lt (pc := 32) (tgt := 50) hG hv8 ((sR_l rfl)) dX11_setUnits_32 (by decide) (fun c25 => ?_) (fun c25 => ?_)
      · have h := t26 c25
        clear t26 f27
        refine V.pick [1, 3, 0] rfl ?_
        exact jn50 v5 i hv8 hi h
      · have h := f27 c25
        clear t26 f27
        refine V.iload_n (pc := 35) hG dX11_setUnits_35 rfl 3 rfl ?_
        refine V.iconst (pc := 36) hG dX11_setUnits_36 ?_
        obtain ⟨t29, f30⟩ := h
        refine V.icmp_le (pc := 37) (tgt := 50) hG hp2 ((sR_l rfl)) dX11_setUnits_37 (by decide) (fun c28 => ?_) (fun c28 => ?_)
        · have h := t29 c28
          clear t29 f30
          refine V.pick [1, 3, 0] rfl ?_
          exact jn50 v5 i hv8 hi h
        · have h := f30 c28
          clear t29 f30
          exact xthr ⟨153, 201, 157, "a channel has one unit", by decide, kw_1224, kw_127, by decide, .inl th_157, dX11_setUnits_40, dX11_setUnits_43, Or.inl ⟨dX11_setUnits_44, dX11_setUnits_46, dX11_setUnits_49⟩⟩ (by decide) (by decide) hi hw ⟨rfl, h⟩
    · have h := f24 c22
      clear t23 f24
      refine V.pick [] rfl ?_
      exact jn20 i hi h
set_option maxRecDepth 100000 in
set_option maxHeartbeats 4000000 in
theorem sm_X11_setCycles (l : Launch) (Δ : Wd) {i r : MI} {p1 : Int} {p2 : Int} (hp1 : sR p1) (hp2 : sR p2) {Q : Int → MI → Prop} {X : String → MI → Prop} (hst : l.stackTraces = false) (hi : okI i) (hw : Wf r) (h : wp_X11_setCycles p1 p2 i r Q X) : vx_Met l yX11_setCycles (Cond.code yX11_setCycles cX11_setCycles 5 (some .int) :: gW) (sRx 6 91 1 6) (sPc Δ [.ref (sA Δ 0), .int (sJ p1), .int (sJ p2)] i r) (sQi Δ (fun x i' r' => r = r' ∧ Q x i')) (sX Δ (fun E i' r' => r = r' ∧ X E i')) 1 6 (sFr Δ) := by
  refine Cx.i (ty := .int) (by decide) rfl (Nat.le_of_ble_eq_true rfl) hst (by decide) (by decide) (fun Γ Q0 hG fin xout xthr => ?_)
  have hG : okG Γ Δ l (sRx 6 91 1 6) cX11_setCycles "Schedulary" 5 := hG
  show V Γ Δ 504 false i r 0 0 Q0 0 [(0, .ref (sA Δ 0)), (1, .int (sJ p1)), (2, .int (sJ p2))] []
  have jn20 : ∀  (ij20 : MI), okI ij20 → s20_X11_setCycles ij20 r Q X → V Γ Δ 504 false ij20 r 0 0 Q0 20 [] [] := by
    intro ij20 hij20 h
    exact xthr ⟨88, 212, 92, "no such kind, or not 1 to 5 cycles", by decide, kw_1096, kw_125, by decide, .inl th_92, dX11_setCycles_20, dX11_setCycles_23, Or.inl ⟨dX11_setCycles_24, dX11_setCycles_26, dX11_setCycles_29⟩⟩ (by decide) (by decide) hij20 hw ⟨rfl, h⟩
  refine V.ldcS (pc := 0) (k := 3) (tx := "amgMN<>") hG (by decide) dX11_setCycles_0 ?_
  refine V.iload_n (pc := 2) hG dX11_setCycles_2 rfl 1 rfl ?_
  refine V.callVSi (pc := 3) (As := [.int (sJ p1)]) (stk := []) hG (sm_J0_indexOf_0f7a4 l Δ (by decide) hp1 hi hw h) mY_J0_indexOf_0f7a4 kw_1014 kw_1015 kw_1016 (by decide) rfl ⟨Nat.le_of_ble_eq_true rfl, Nat.le_of_ble_eq_true rfl, Nat.le_of_ble_eq_true rfl, Nat.le_of_ble_eq_true rfl⟩ rfl (Nat.le_of_ble_eq_true rfl) dX11_setCycles_3 rfl (fun v1 i2 r3 hv4 hi5 hw6 hq7 => ?_)
  obtain ⟨e25, e26, h⟩ := hq7
  subst e25
  subst e26
  refine V.istore_n (pc := 6) (lv' := [(3, .int (sJ v1)), (0, .ref (sA Δ 0)), (1, .int (sJ p1)), (2, .int (sJ p2))]) hG dX11_setCycles_6 rfl (by decide) rfl ?_
  refine V.iload_n (pc := 7) hG dX11_setCycles_7 rfl 0 rfl ?_
  obtain ⟨t9, f10⟩ := h
  refine V.if_lt (pc := 8) (tgt := 20) hG hv4 dX11_setCycles_8 (by decide) (fun c8 => ?_) (fun c8 => ?_)
  · have h := t9 c8
    clear t9 f10
    refine V.pick [] rfl ?_
    exact jn20 i hi h
  · have h := f10 c8
    clear t9 f10
    refine V.iload_n (pc := 11) hG dX11_setCycles_11 rfl 3 rfl ?_
    refine V.iconst (pc := 12) hG dX11_setCycles_12 ?_
    refine V.iconst (pc := 13) hG dX11_setCycles_13 ?_
    refine V.callSi (pc := 14) (As := [.int (sJ p2), .int (sJ 1), .int (sJ 5)]) (stk := []) hG (sm_X11_isWithin l Δ hp2 ((sR_l rfl)) ((sR_l rfl)) hi hw h) mY_X11_isWithin kw_1221 kw_826 ⟨Nat.le_of_ble_eq_true rfl, Nat.le_of_ble_eq_true rfl, Nat.le_of_ble_eq_true rfl, Nat.le_of_ble_eq_true rfl⟩ rfl (Nat.le_of_ble_eq_true rfl) dX11_setCycles_14 rfl (fun v11 i12 r13 hv14 hi15 hw16 hq17 => ?_)
    obtain ⟨e23, e24, h⟩ := hq17
    subst e23
    subst e24
    obtain ⟨f20, t19⟩ := h
    refine V.if_ne (pc := 17) (tgt := 30) hG hv14 dX11_setCycles_17 (by decide) (fun c18 => ?_) (fun c18 => ?_)
    · have h := t19 c18
      clear t19 f20
      refine V.aload_n (pc := 30) hG dX11_setCycles_30 rfl 1 rfl ?_
      refine V.getR (x := 67) (pc := 31) (ci := 13) (k := 3) (M := 11) (T := TX11) (o := 0) (kz := 3) hG a_0 a_0.n (by decide) hin_X11 rfl (by decide) (by decide) rfl kw_526 rfl ((hw).1 (0, 3, 67) (by decide)) (by decide) dX11_setCycles_31 ?_
      refine V.getRN (x := 70) (pc := 34) (ci := 2) (k := 2) (M := 5) (T := TX0) (o := 67) (kz := 2) hG a_67 a_67.n (by decide) hin_X0 rfl (by decide) (by decide) rfl kw_360 rfl ((hw).1 (67, 2, 70) (by decide)) (by decide) dX11_setCycles_34 ?_
      refine V.iload_n (pc := 37) hG dX11_setCycles_37 rfl 0 rfl ?_
      obtain ⟨g21, h⟩ := h
      refine V.iald (pc := 38) (z := 7) (o := 70) hG a_70 a_70.n hv4 g21 dX11_setCycles_38 ?_
      refine V.istore (pc := 39) (lv' := [(4, .int (sJ (i 70 v1))), (3, .int (sJ v1)), (0, .ref (sA Δ 0)), (1, .int (sJ p1)), (2, .int (sJ p2))]) hG dX11_setCycles_39 (by decide) rfl ?_
      refine V.aload_n (pc := 41) hG dX11_setCycles_41 rfl 2 rfl ?_
      refine V.getR (x := 67) (pc := 42) (ci := 13) (k := 3) (M := 11) (T := TX11) (o := 0) (kz := 3) hG a_0 a_0.n (by decide) hin_X11 rfl (by decide) (by decide) rfl kw_526 rfl ((hw).1 (0, 3, 67) (by decide)) (by decide) dX11_setCycles_42 ?_
      refine V.getRN (x := 70) (pc := 45) (ci := 2) (k := 2) (M := 5) (T := TX0) (o := 67) (kz := 2) hG a_67 a_67.n (by decide) hin_X0 rfl (by decide) (by decide) rfl kw_360 rfl ((hw).1 (67, 2, 70) (by decide)) (by decide) dX11_setCycles_45 ?_
      refine V.iload_n (pc := 48) hG dX11_setCycles_48 rfl 1 rfl ?_
      refine V.iload_n (pc := 49) hG dX11_setCycles_49 rfl 4 rfl ?_
      obtain ⟨g22, h⟩ := h
      refine V.iast (pc := 50) (z := 7) (o := 70) hG a_70 a_70.n hv4 g22 dX11_setCycles_50 ?_
      refine V.aload_n (pc := 51) hG dX11_setCycles_51 rfl 2 rfl ?_
      refine V.aload_n (pc := 52) hG dX11_setCycles_52 rfl 2 rfl ?_
      refine V.getI (pc := 53) (ci := 13) (k := 9) (M := 11) (T := TX11) (o := 0) (kz := 9) hG a_0 a_0.n (by decide) hin_X11 rfl (by decide) (by decide) rfl kw_532 rfl dX11_setCycles_53 ?_
      refine V.iconst (pc := 56) hG dX11_setCycles_56 ?_
      refine V.mmin (pc := 57) hG (((okI_st hi hp2) _ _)) ((sR_l rfl)) kw_1244 kw_646 kw_121 kw_min ⟨Nat.le_of_ble_eq_true rfl, Nat.le_of_ble_eq_true rfl, Nat.le_of_ble_eq_true rfl, Nat.le_of_ble_eq_true rfl⟩ dX11_setCycles_57 ?_
      refine V.putI (pc := 60) (ci := 13) (k := 9) (M := 11) (T := TX11) (o := 0) (kz := 9) hG a_0 a_0.n (by decide) hin_X11 rfl (by decide) (by decide) rfl kw_532 rfl tyX11 tyX11_ok nmX11 rfl (ty := tyX11 9) (tyX11_ok 9 (by decide)) rfl rfl dX11_setCycles_60 ?_
      refine V.iload (pc := 63) hG dX11_setCycles_63 0 rfl ?_
      exact fin dX11_setCycles_65 ((hi _ _)) rfl (by decide) (by decide) ((okI_st ((okI_st hi hp2)) ((sR_min (((okI_st hi hp2) _ _)) ((sR_l rfl)))))) hw ⟨rfl, h⟩
    · have h := f20 c18
      clear t19 f20
      refine V.pick [] rfl ?_
      exact jn20 i hi h
set_option maxRecDepth 100000 in
set_option maxHeartbeats 4000000 in
theorem sm_X6_carryOutOne (l : Launch) (Δ : Wd) {i r : MI} {o1 : Int} {p2 : Int} {o3 : Int} (ho1 : stm o1) (hp2 : sR p2) (ho3 : sta o3) {Q : MI → Prop} (hi : okI i) (hw : Wf r) (h : wp_X6_carryOutOne o1 p2 o3 i r Q) : Met l yX6_carryOutOne (Cond.code yX6_carryOutOne cX6_carryOutOne 5 none :: gW) (sRm 3 69) (sPc Δ [.ref (sA Δ 3), .ref (sA Δ o1), .int (sJ p2), .ref (sA Δ o3)] i r) (sQv Δ (fun i' r' => r = r' ∧ Q i')) 0 0 (sFr Δ) := by
  refine Ct.v (by decide) rfl (Nat.le_of_ble_eq_true rfl) (fun Γ Q0 hG fin => ?_)
  have hG : okG Γ Δ l (sRm 3 69) cX6_carryOutOne "Schedulary$Program" 5 := hG
  show V Γ Δ 504 false i r 0 0 Q0 0 [(0, .ref (sA Δ 3)), (1, .ref (sA Δ o1)), (2, .int (sJ p2)), (3, .ref (sA Δ o3))] []
  have jn37 : ∀ (x4j37 : Int) (ij37 : MI), sR x4j37 → okI ij37 → s37_X6_carryOutOne o1 p2 o3 x4j37 ij37 r Q → V Γ Δ 504 false ij37 r 0 0 Q0 37 [(0, .ref (sA Δ 3)), (1, .ref (sA Δ o1)), (2, .int (sJ p2)), (3, .ref (sA Δ o3)), (4, .int (sJ x4j37))] [] := by
    intro x4j37 ij37 hx4j37 hij37 h
    refine V.aload_n (pc := 37) hG dX6_carryOutOne_37 rfl 0 rfl ?_
    refine V.aload_n (pc := 38) hG dX6_carryOutOne_38 rfl 1 rfl ?_
    refine V.iload_n (pc := 39) hG dX6_carryOutOne_39 rfl 2 rfl ?_
    refine V.iload (pc := 40) hG dX6_carryOutOne_40 4 rfl ?_
    refine V.aload_n (pc := 42) hG dX6_carryOutOne_42 rfl 3 rfl ?_
    refine V.callVv (pc := 43) (As := [.ref (sA Δ o1), .int (sJ p2), .int (sJ x4j37), .ref (sA Δ o3)]) (stk := []) hG (sm_X6_write l Δ ho1 hp2 hx4j37 ho3 hij37 hw h) mY_X6_write kw_609 kw_611 kw_11 a_3 (by decide) (q := (RX6, TX6, 9)) rfl rfl ⟨Nat.le_of_ble_eq_true rfl, Nat.le_of_ble_eq_true rfl, Nat.le_of_ble_eq_true rfl, Nat.le_of_ble_eq_true rfl⟩ rfl (Nat.le_of_ble_eq_true rfl) dX6_carryOutOne_43 rfl (fun i11 r12 hi14 hw15 hq16 => ?_)
    obtain ⟨e18, h⟩ := hq16
    subst e18
    exact fin dX6_carryOutOne_46 hi14 hw ⟨rfl, h⟩
  refine V.aload_n (pc := 0) hG dX6_carryOutOne_0 rfl 0 rfl ?_
  refine V.aload_n (pc := 1) hG dX6_carryOutOne_1 rfl 1 rfl ?_
  refine V.iconst (pc := 2) hG dX6_carryOutOne_2 ?_
  refine V.iload_n (pc := 3) hG dX6_carryOutOne_3 rfl 2 rfl ?_
  refine V.aload_n (pc := 4) hG dX6_carryOutOne_4 rfl 3 rfl ?_
  refine V.callVi (pc := 5) (As := [.ref (sA Δ o1), .int (sJ 1), .int (sJ p2), .ref (sA Δ o3)]) (stk := []) hG (sm_X6_valueOf l Δ ho1 ((sR_l rfl)) hp2 ho3 hi hw h) mY_X6_valueOf kw_581 kw_583 kw_5 a_3 (by decide) (q := (RX6, TX6, 9)) rfl rfl ⟨Nat.le_of_ble_eq_true rfl, Nat.le_of_ble_eq_true rfl, Nat.le_of_ble_eq_true rfl, Nat.le_of_ble_eq_true rfl⟩ rfl (Nat.le_of_ble_eq_true rfl) dX6_carryOutOne_5 rfl (fun v19 i20 r21 hv22 hi23 hw24 hq25 => ?_)
  obtain ⟨e66, h⟩ := hq25
  subst e66
  refine V.istore (pc := 8) (lv' := [(4, .int (sJ v19)), (0, .ref (sA Δ 3)), (1, .ref (sA Δ o1)), (2, .int (sJ p2)), (3, .ref (sA Δ o3))]) hG dX6_carryOutOne_8 (by decide) rfl ?_
  refine V.aload_n (pc := 10) hG dX6_carryOutOne_10 rfl 2 rfl ?_
  refine V.callVNi (pc := 11) (As := []) (stk := []) hG (sm_X8_hasOperation l Δ ho1 hi23 hw h) mY_X8_hasOperation kw_601 kw_603 kw_9 ho1.o (by decide) (q := (RX8, TX8, 4)) rfl rfl ⟨Nat.le_of_ble_eq_true rfl, Nat.le_of_ble_eq_true rfl, Nat.le_of_ble_eq_true rfl, Nat.le_of_ble_eq_true rfl⟩ rfl (Nat.le_of_ble_eq_true rfl) dX6_carryOutOne_11 rfl (fun v26 i27 r28 hv29 hi30 hw31 hq32 => ?_)
  obtain ⟨e63, e64, h⟩ := hq32
  subst e63
  subst e64
  obtain ⟨t34, f35⟩ := h
  refine V.if_eq (pc := 14) (tgt := 37) hG hv29 dX6_carryOutOne_14 (by decide) (fun c33 => ?_) (fun c33 => ?_)
  · have h := t34 c33
    clear t34 f35
    refine V.pick [1, 2, 3, 4, 0] rfl ?_
    exact jn37 v19 i20 hv22 hi23 h
  · have h := f35 c33
    clear t34 f35
    refine V.aload_n (pc := 17) hG dX6_carryOutOne_17 rfl 1 rfl ?_
    refine V.aload_n (pc := 18) hG dX6_carryOutOne_18 rfl 2 rfl ?_
    refine V.iload (pc := 19) hG dX6_carryOutOne_19 0 rfl ?_
    refine V.aload_n (pc := 21) hG dX6_carryOutOne_21 rfl 1 rfl ?_
    refine V.aload_n (pc := 22) hG dX6_carryOutOne_22 rfl 2 rfl ?_
    refine V.iconst (pc := 23) hG dX6_carryOutOne_23 ?_
    refine V.iload_n (pc := 24) hG dX6_carryOutOne_24 rfl 3 rfl ?_
    refine V.aload_n (pc := 25) hG dX6_carryOutOne_25 rfl 4 rfl ?_
    refine V.callVi (pc := 26) (As := [.ref (sA Δ o1), .int (sJ 2), .int (sJ p2), .ref (sA Δ o3)]) (stk := [.int (sJ v19), .ref (sA Δ o1), .ref (sA Δ 3)]) hG (sm_X6_valueOf l Δ ho1 ((sR_l rfl)) hp2 ho3 hi23 hw h) mY_X6_valueOf kw_581 kw_583 kw_5 a_3 (by decide) (q := (RX6, TX6, 9)) rfl rfl ⟨Nat.le_of_ble_eq_true rfl, Nat.le_of_ble_eq_true rfl, Nat.le_of_ble_eq_true rfl, Nat.le_of_ble_eq_true rfl⟩ rfl (Nat.le_of_ble_eq_true rfl) dX6_carryOutOne_26 rfl (fun v36 i37 r38 hv39 hi40 hw41 hq42 => ?_)
    obtain ⟨e62, h⟩ := hq42
    subst e62
    refine V.callVNi (pc := 29) (As := [.int (sJ v19), .int (sJ v36)]) (stk := [.ref (sA Δ 3)]) hG (sm_X8_operate l Δ ho1 hv22 hv39 hi40 hw h) mY_X8_operate kw_605 kw_607 kw_10 ho1.o (by decide) (q := (RX8, TX8, 4)) rfl rfl ⟨Nat.le_of_ble_eq_true rfl, Nat.le_of_ble_eq_true rfl, Nat.le_of_ble_eq_true rfl, Nat.le_of_ble_eq_true rfl⟩ rfl (Nat.le_of_ble_eq_true rfl) dX6_carryOutOne_29 rfl (fun v43 i44 r45 hv46 hi47 hw48 hq49 => ?_)
    obtain ⟨e59, e60, h⟩ := hq49
    subst e59
    subst e60
    refine V.callVi (pc := 32) (As := [.int (sJ v43)]) (stk := []) hG (sm_X6_cut l Δ hv46 hi40 hw h) mY_X6_cut kw_585 kw_575 kw_3 a_3 (by decide) (q := (RX6, TX6, 9)) rfl rfl ⟨Nat.le_of_ble_eq_true rfl, Nat.le_of_ble_eq_true rfl, Nat.le_of_ble_eq_true rfl, Nat.le_of_ble_eq_true rfl⟩ rfl (Nat.le_of_ble_eq_true rfl) dX6_carryOutOne_32 rfl (fun v50 i51 r52 hv53 hi54 hw55 hq56 => ?_)
    obtain ⟨e57, e58, h⟩ := hq56
    subst e57
    subst e58
    refine V.istore (pc := 35) (lv' := [(4, .int (sJ v50)), (0, .ref (sA Δ 3)), (1, .ref (sA Δ o1)), (2, .int (sJ p2)), (3, .ref (sA Δ o3))]) hG dX6_carryOutOne_35 (by decide) rfl ?_
    refine V.pick [1, 2, 3, 4, 0] rfl ?_
    exact jn37 v50 i37 hv53 hi40 h
set_option maxRecDepth 100000 in
set_option maxHeartbeats 4000000 in
theorem sm_X6_carryOut (l : Launch) (Δ : Wd) {i r : MI} {o1 : Int} (ho1 : sta o1) {Q : MI → Prop} (hi : okI i) (hw : Wf r) (h : wp_X6_carryOut o1 i r Q) : Met l yX6_carryOut (Cond.code yX6_carryOut cX6_carryOut 4 none :: gW) (sRm 4 93) (sPc Δ [.ref (sA Δ 3), .ref (sA Δ o1)] i r) (sQv Δ (fun i' r' => r = r' ∧ Q i')) 0 0 (sFr Δ) := by
  refine Ct.v (by decide) rfl (Nat.le_of_ble_eq_true rfl) (fun Γ Q0 hG fin => ?_)
  have hG : okG Γ Δ l (sRm 4 93) cX6_carryOut "Schedulary$Program" 4 := hG
  show V Γ Δ 504 false i r 0 0 Q0 0 [(0, .ref (sA Δ 3)), (1, .ref (sA Δ o1))] []
  refine V.aload_n (pc := 0) hG dX6_carryOut_0 rfl 1 rfl ?_
  refine V.aload_n (pc := 1) hG dX6_carryOut_1 rfl 0 rfl ?_
  refine V.callVNv (pc := 2) (As := [.ref (sA Δ 3)]) (stk := []) hG (sm_X7_begin l Δ ho1 hi hw h) mY_X7_begin kw_569 kw_571 kw_2 ho1.o (by decide) (q := (RX7, TX7, 5)) rfl rfl ⟨Nat.le_of_ble_eq_true rfl, Nat.le_of_ble_eq_true rfl, Nat.le_of_ble_eq_true rfl, Nat.le_of_ble_eq_true rfl⟩ rfl (Nat.le_of_ble_eq_true rfl) dX6_carryOut_2 rfl (fun i2 r3 hi5 hw6 hq7 => ?_)
  obtain ⟨e57, h⟩ := hq7
  subst e57
  refine V.iconst (pc := 5) hG dX6_carryOut_5 ?_
  refine V.istore_n (pc := 6) (lv' := [(2, .int (sJ 0)), (0, .ref (sA Δ 3)), (1, .ref (sA Δ o1))]) hG dX6_carryOut_6 rfl (by decide) rfl ?_
  obtain ⟨n38, h⟩ := h
  have lp7 : ∀ (m7 : Nat) (x2_7 : Int) (i_7 : MI), sR x2_7 → okI i_7 → LoopP (b7_X6_carryOut o1 r Q) m7 (x2_7, i_7) → V Γ Δ 504 false i_7 r 0 0 Q0 7 [(0, .ref (sA Δ 3)), (1, .ref (sA Δ o1)), (2, .int (sJ x2_7))] [] := by
    intro m7
    induction m7 with
    | zero => intro x2_7 i_7 hx2_7 hi_7 h; exact h.elim
    | succ m7 ih7 =>
      intro x2_7 i_7 hx2_7 hi_7 h
      have h := LoopP_succ h
      refine V.iload_n (pc := 7) hG dX6_carryOut_7 rfl 2 rfl ?_
      refine V.aload_n (pc := 8) hG dX6_carryOut_8 rfl 0 rfl ?_
      refine V.getI (pc := 9) (ci := 8) (k := 6) (M := 9) (T := TX6) (o := 3) (kz := 6) hG a_3 a_3.n (by decide) hin_X6 rfl (by decide) (by decide) rfl kw_214 rfl dX6_carryOut_9 ?_
      obtain ⟨t40, f41⟩ := h
      refine V.icmp_ge (pc := 12) (tgt := 49) hG hx2_7 ((hi_7 _ _)) dX6_carryOut_12 (by decide) (fun c39 => ?_) (fun c39 => ?_)
      · have h := t40 c39
        clear t40 f41
        exact fin dX6_carryOut_49 hi_7 hw ⟨rfl, h⟩
      · have h := f41 c39
        clear t40 f41
        refine V.iconst (pc := 15) hG dX6_carryOut_15 ?_
        refine V.istore_n (pc := 16) (lv' := [(3, .int (sJ 0)), (0, .ref (sA Δ 3)), (1, .ref (sA Δ o1)), (2, .int (sJ x2_7))]) hG dX6_carryOut_16 rfl (by decide) rfl ?_
        obtain ⟨n42, h⟩ := h
        have lp17 : ∀ (m17 : Nat) (x3_17 : Int) (i_17 : MI), sR x3_17 → okI i_17 → LoopP (b17_X6_carryOut o1 x2_7 r Q (LoopP (b7_X6_carryOut o1 r Q) m7)) m17 (x3_17, i_17) → V Γ Δ 504 false i_17 r 0 0 Q0 17 [(0, .ref (sA Δ 3)), (1, .ref (sA Δ o1)), (2, .int (sJ x2_7)), (3, .int (sJ x3_17))] [] := by
          intro m17
          induction m17 with
          | zero => intro x3_17 i_17 hx3_17 hi_17 h; exact h.elim
          | succ m17 ih17 =>
            intro x3_17 i_17 hx3_17 hi_17 h
            have h := LoopP_succ h
            refine V.iload_n (pc := 17) hG dX6_carryOut_17 rfl 3 rfl ?_
            refine V.aload_n (pc := 18) hG dX6_carryOut_18 rfl 0 rfl ?_
            refine V.getI (pc := 19) (ci := 8) (k := 4) (M := 9) (T := TX6) (o := 3) (kz := 4) hG a_3 a_3.n (by decide) hin_X6 rfl (by decide) (by decide) rfl kw_210 rfl dX6_carryOut_19 ?_
            obtain ⟨t44, f45⟩ := h
            refine V.icmp_ge (pc := 22) (tgt := 43) hG hx3_17 ((hi_17 _ _)) dX6_carryOut_22 (by decide) (fun c43 => ?_) (fun c43 => ?_)
            · have h := t44 c43
              clear t44 f45
              refine V.iinc (pc := 43) (lv' := [(2, .int (sJ (wr (x2_7 + 1)))), (0, .ref (sA Δ 3)), (1, .ref (sA Δ o1)), (3, .int (sJ x3_17))]) hG dX6_carryOut_43 2 rfl (by decide) rfl ?_
              refine V.goto (pc := 46) (tgt := 7) hG dX6_carryOut_46 (by decide) ?_
              refine V.pick [1, 2, 0] rfl ?_
              exact ih7 (wr (x2_7 + 1)) i_17 ((sR_wr _)) hi_17 h
            · have h := f45 c43
              clear t44 f45
              refine V.aload_n (pc := 25) hG dX6_carryOut_25 rfl 0 rfl ?_
              refine V.aload_n (pc := 26) hG dX6_carryOut_26 rfl 0 rfl ?_
              refine V.getR (x := 4) (pc := 27) (ci := 8) (k := 0) (M := 9) (T := TX6) (o := 3) (kz := 0) hG a_3 a_3.n (by decide) hin_X6 rfl (by decide) (by decide) rfl kw_200 rfl ((hw).1 (3, 0, 4) (by decide)) (by decide) dX6_carryOut_27 ?_
              refine V.iload_n (pc := 30) hG dX6_carryOut_30 rfl 3 rfl ?_
              obtain ⟨g46, h⟩ := h
              refine V.aald (pc := 31) 5 (z := 12) (o := 4) (x := x3_17) (y := r 4 x3_17) hG a_4 a_4.n (by decide) hx3_17 g46 rfl (Wf.sts hw g46).z dX6_carryOut_31 ?_
              refine V.iload_n (pc := 32) hG dX6_carryOut_32 rfl 2 rfl ?_
              refine V.aload_n (pc := 33) hG dX6_carryOut_33 rfl 1 rfl ?_
              refine V.callVv (pc := 34) (As := [.ref (sA Δ (r 4 x3_17)), .int (sJ x2_7), .ref (sA Δ o1)]) (stk := []) hG (sm_X6_carryOutOne l Δ ((Wf.sts hw g46)) hx2_7 ho1 hi_17 hw h) mY_X6_carryOutOne kw_577 kw_579 kw_4 a_3 (by decide) (q := (RX6, TX6, 9)) rfl rfl ⟨Nat.le_of_ble_eq_true rfl, Nat.le_of_ble_eq_true rfl, Nat.le_of_ble_eq_true rfl, Nat.le_of_ble_eq_true rfl⟩ rfl (Nat.le_of_ble_eq_true rfl) dX6_carryOut_34 rfl (fun i48 r49 hi51 hw52 hq53 => ?_)
              obtain ⟨e55, h⟩ := hq53
              subst e55
              refine V.iinc (pc := 37) (lv' := [(3, .int (sJ (wr (x3_17 + 1)))), (0, .ref (sA Δ 3)), (1, .ref (sA Δ o1)), (2, .int (sJ x2_7))]) hG dX6_carryOut_37 3 rfl (by decide) rfl ?_
              refine V.goto (pc := 40) (tgt := 17) hG dX6_carryOut_40 (by decide) ?_
              refine V.pick [1, 2, 3, 0] rfl ?_
              exact ih17 (wr (x3_17 + 1)) i48 ((sR_wr _)) hi51 h
        refine V.pick [1, 2, 3, 0] rfl ?_
        exact lp17 n42 0 i_7 ((sR_l rfl)) hi_7 h
  refine V.pick [1, 2, 0] rfl ?_
  exact lp7 n38 0 i2 ((sR_l rfl)) hi5 h
set_option maxRecDepth 100000 in
set_option maxHeartbeats 4000000 in
theorem sm_X11_carryOut (l : Launch) (Δ : Wd) {i r : MI}   {Q : MI → Prop} (hi : okI i) (hw : Wf r) (h : wp_X11_carryOut  i r Q) : Met l yX11_carryOut (Cond.code yX11_carryOut cX11_carryOut 1 none :: gW) (sRm 5 116) (sPc Δ [.ref (sA Δ 0)] i r) (sQv Δ (fun i' r' => r = r' ∧ Q i')) 0 0 (sFr Δ) := by
  refine Ct.v (by decide) rfl (Nat.le_of_ble_eq_true rfl) (fun Γ Q0 hG fin => ?_)
  have hG : okG Γ Δ l (sRm 5 116) cX11_carryOut "Schedulary" 1 := hG
  show V Γ Δ 504 false i r 0 0 Q0 0 [(0, .ref (sA Δ 0))] []
  have jn23 : ∀  (ij23 : MI), okI ij23 → s23_X11_carryOut ij23 r Q → V Γ Δ 504 false ij23 r 0 0 Q0 23 [] [] := by
    intro ij23 hij23 h
    exact fin dX11_carryOut_23 hij23 hw ⟨rfl, h⟩
  refine V.aload_n (pc := 0) hG dX11_carryOut_0 rfl 0 rfl ?_
  refine V.getI (pc := 1) (ci := 13) (k := 10) (M := 11) (T := TX11) (o := 0) (kz := 10) hG a_0 a_0.n (by decide) hin_X11 rfl (by decide) (by decide) rfl kw_533 rfl dX11_carryOut_1 ?_
  obtain ⟨f3, t2⟩ := h
  refine V.if_ne (pc := 4) (tgt := 23) hG ((hi _ _)) dX11_carryOut_4 (by decide) (fun c1 => ?_) (fun c1 => ?_)
  · have h := t2 c1
    clear t2 f3
    refine V.pick [] rfl ?_
    exact jn23 i hi h
  · have h := f3 c1
    clear t2 f3
    refine V.aload_n (pc := 7) hG dX11_carryOut_7 rfl 0 rfl ?_
    refine V.getR (x := 3) (pc := 8) (ci := 13) (k := 1) (M := 11) (T := TX11) (o := 0) (kz := 1) hG a_0 a_0.n (by decide) hin_X11 rfl (by decide) (by decide) rfl kw_524 rfl ((hw).1 (0, 1, 3) (by decide)) (by decide) dX11_carryOut_8 ?_
    refine V.aload_n (pc := 11) hG dX11_carryOut_11 rfl 0 rfl ?_
    refine V.getR (x := 61) (pc := 12) (ci := 13) (k := 2) (M := 11) (T := TX11) (o := 0) (kz := 2) hG a_0 a_0.n (by decide) hin_X11 rfl (by decide) (by decide) rfl kw_525 rfl ((hw).1 (0, 2, 61) (by decide)) (by decide) dX11_carryOut_12 ?_
    refine V.callVNv (pc := 15) (As := [.ref (sA Δ 61)]) (stk := []) hG (sm_X6_carryOut l Δ sta_61 hi hw h) mY_X6_carryOut kw_565 kw_567 kw_1 a_3 (by decide) (q := (RX6, TX6, 9)) rfl rfl ⟨Nat.le_of_ble_eq_true rfl, Nat.le_of_ble_eq_true rfl, Nat.le_of_ble_eq_true rfl, Nat.le_of_ble_eq_true rfl⟩ rfl (Nat.le_of_ble_eq_true rfl) dX11_carryOut_15 rfl (fun i5 r6 hi8 hw9 hq10 => ?_)
    obtain ⟨e12, h⟩ := hq10
    subst e12
    refine V.aload_n (pc := 18) hG dX11_carryOut_18 rfl 0 rfl ?_
    refine V.iconst (pc := 19) hG dX11_carryOut_19 ?_
    refine V.putI (pc := 20) (ci := 13) (k := 10) (M := 11) (T := TX11) (o := 0) (kz := 10) hG a_0 a_0.n (by decide) hin_X11 rfl (by decide) (by decide) rfl kw_533 rfl tyX11 tyX11_ok nmX11 rfl (ty := tyX11 10) (tyX11_ok 10 (by decide)) (nar_z (by decide)) (fit_z (by decide)) dX11_carryOut_20 ?_
    refine V.pick [] rfl ?_
    exact jn23 (st i5 0 10 1) ((okI_st hi8 ((sR_l rfl)))) h
set_option maxRecDepth 100000 in
set_option maxHeartbeats 4000000 in
theorem sm_X11_outputs (l : Launch) (Δ : Wd) {i r : MI}   {Q : Int → MI → Prop} (hi : okI i) (hw : Wf r) (h : wp_X11_outputs  i r Q) : Met l yX11_outputs (Cond.code yX11_outputs cX11_outputs 1 (some .int) :: gW) (sRm 6 136) (sPc Δ [.ref (sA Δ 0)] i r) (sQi Δ (fun x i' r' => r = r' ∧ Q x i')) 0 0 (sFr Δ) := by
  refine Ct.i (ty := .int) (by decide) rfl (Nat.le_of_ble_eq_true rfl) (fun Γ Q0 hG fin => ?_)
  have hG : okG Γ Δ l (sRm 6 136) cX11_outputs "Schedulary" 1 := hG
  show V Γ Δ 504 false i r 0 0 Q0 0 [(0, .ref (sA Δ 0))] []
  refine V.aload_n (pc := 0) hG dX11_outputs_0 rfl 0 rfl ?_
  refine V.callVv (pc := 1) (As := []) (stk := []) hG (sm_X11_carryOut l Δ  hi hw h) mY_X11_carryOut kw_561 kw_563 kw_0 a_0 (by decide) (q := (RX11, TX11, 11)) rfl rfl ⟨Nat.le_of_ble_eq_true rfl, Nat.le_of_ble_eq_true rfl, Nat.le_of_ble_eq_true rfl, Nat.le_of_ble_eq_true rfl⟩ rfl (Nat.le_of_ble_eq_true rfl) dX11_outputs_1 rfl (fun i2 r3 hi5 hw6 hq7 => ?_)
  obtain ⟨e9, h⟩ := hq7
  subst e9
  refine V.aload_n (pc := 4) hG dX11_outputs_4 rfl 0 rfl ?_
  refine V.getR (x := 61) (pc := 5) (ci := 13) (k := 2) (M := 11) (T := TX11) (o := 0) (kz := 2) hG a_0 a_0.n (by decide) hin_X11 rfl (by decide) (by decide) rfl kw_525 rfl ((hw).1 (0, 2, 61) (by decide)) (by decide) dX11_outputs_5 ?_
  refine V.getIN (pc := 8) (ci := 9) (k := 3) (M := 5) (T := TX7) (o := 61) (kz := 3) hG a_61 a_61.n (by decide) hin_X7 rfl (by decide) (by decide) rfl kw_255 rfl dX11_outputs_8 ?_
  exact fin dX11_outputs_11 ((hi5 _ _)) rfl hi5 hw ⟨rfl, h⟩
set_option maxRecDepth 100000 in
set_option maxHeartbeats 4000000 in
theorem sm_X11_output (l : Launch) (Δ : Wd) {i r : MI} {p1 : Int} (hp1 : sR p1) {Q : Int → MI → Prop} {X : String → MI → Prop} (hst : l.stackTraces = false) (hi : okI i) (hw : Wf r) (h : wp_X11_output p1 i r Q X) : vx_Met l yX11_output (Cond.code yX11_output cX11_output 2 (some .int) :: gW) (sRx 6 136 1 6) (sPc Δ [.ref (sA Δ 0), .int (sJ p1)] i r) (sQi Δ (fun x i' r' => r = r' ∧ Q x i')) (sX Δ (fun E i' r' => r = r' ∧ X E i')) 1 6 (sFr Δ) := by
  refine Cx.i (ty := .int) (by decide) rfl (Nat.le_of_ble_eq_true rfl) hst (by decide) (by decide) (fun Γ Q0 hG fin xout xthr => ?_)
  have hG : okG Γ Δ l (sRx 6 136 1 6) cX11_output "Schedulary" 2 := hG
  show V Γ Δ 504 false i r 0 0 Q0 0 [(0, .ref (sA Δ 0)), (1, .int (sJ p1))] []
  have jn19 : ∀  (ij19 : MI), okI ij19 → s19_X11_output ij19 r Q X → V Γ Δ 504 false ij19 r 0 0 Q0 19 [] [] := by
    intro ij19 hij19 h
    exact xthr ⟨134, 223, 138, "no such value", by decide, kw_1204, kw_117, by decide, .inl th_138, dX11_output_19, dX11_output_22, Or.inl ⟨dX11_output_23, dX11_output_25, dX11_output_28⟩⟩ (by decide) (by decide) hij19 hw ⟨rfl, h⟩
  refine V.aload_n (pc := 0) hG dX11_output_0 rfl 0 rfl ?_
  refine V.callVv (pc := 1) (As := []) (stk := []) hG (sm_X11_carryOut l Δ  hi hw h) mY_X11_carryOut kw_561 kw_563 kw_0 a_0 (by decide) (q := (RX11, TX11, 11)) rfl rfl ⟨Nat.le_of_ble_eq_true rfl, Nat.le_of_ble_eq_true rfl, Nat.le_of_ble_eq_true rfl, Nat.le_of_ble_eq_true rfl⟩ rfl (Nat.le_of_ble_eq_true rfl) dX11_output_1 rfl (fun i2 r3 hi5 hw6 hq7 => ?_)
  obtain ⟨e16, h⟩ := hq7
  subst e16
  refine V.iload_n (pc := 4) hG dX11_output_4 rfl 1 rfl ?_
  obtain ⟨t9, f10⟩ := h
  refine V.if_lt (pc := 5) (tgt := 19) hG hp1 dX11_output_5 (by decide) (fun c8 => ?_) (fun c8 => ?_)
  · have h := t9 c8
    clear t9 f10
    refine V.pick [] rfl ?_
    exact jn19 i2 hi5 h
  · have h := f10 c8
    clear t9 f10
    refine V.iload_n (pc := 8) hG dX11_output_8 rfl 1 rfl ?_
    refine V.aload_n (pc := 9) hG dX11_output_9 rfl 0 rfl ?_
    refine V.getR (x := 61) (pc := 10) (ci := 13) (k := 2) (M := 11) (T := TX11) (o := 0) (kz := 2) hG a_0 a_0.n (by decide) hin_X11 rfl (by decide) (by decide) rfl kw_525 rfl ((hw).1 (0, 2, 61) (by decide)) (by decide) dX11_output_10 ?_
    refine V.getIN (pc := 13) (ci := 9) (k := 3) (M := 5) (T := TX7) (o := 61) (kz := 3) hG a_61 a_61.n (by decide) hin_X7 rfl (by decide) (by decide) rfl kw_255 rfl dX11_output_13 ?_
    obtain ⟨t12, f13⟩ := h
    refine V.icmp_lt (pc := 16) (tgt := 29) hG hp1 ((hi5 _ _)) dX11_output_16 (by decide) (fun c11 => ?_) (fun c11 => ?_)
    · have h := t12 c11
      clear t12 f13
      refine V.aload_n (pc := 29) hG dX11_output_29 rfl 0 rfl ?_
      refine V.getR (x := 61) (pc := 30) (ci := 13) (k := 2) (M := 11) (T := TX11) (o := 0) (kz := 2) hG a_0 a_0.n (by decide) hin_X11 rfl (by decide) (by decide) rfl kw_525 rfl ((hw).1 (0, 2, 61) (by decide)) (by decide) dX11_output_30 ?_
      refine V.getRN (x := 61 + 5) (pc := 33) (ci := 9) (k := 2) (M := 5) (T := TX7) (o := 61) (kz := 2) hG a_61 a_61.n (by decide) hin_X7 rfl (by decide) (by decide) rfl kw_253 rfl ((hw.2.2.2.1 _ sta_61).2.2.1) (by have := sta.pos (sta_61); omega) dX11_output_33 ?_
      refine V.iload_n (pc := 36) hG dX11_output_36 rfl 1 rfl ?_
      obtain ⟨g14, h⟩ := h
      refine V.iald (pc := 37) (z := 192) (o := 61 + 5) hG sta_61.out sta_61.out.n hp1 g14 dX11_output_37 ?_
      exact fin dX11_output_38 ((hi5 _ _)) rfl (by decide) (by decide) hi5 hw ⟨rfl, h⟩
    · have h := f13 c11
      clear t12 f13
      refine V.pick [] rfl ?_
      exact jn19 i2 hi5 h
set_option maxRecDepth 100000 in
set_option maxHeartbeats 4000000 in
theorem sm_X11_memoryAt (l : Launch) (Δ : Wd) {i r : MI} {p1 : Int} {p2 : Int} (hp1 : sR p1) (hp2 : sR p2) {Q : Int → MI → Prop} {X : String → MI → Prop} (hst : l.stackTraces = false) (hi : okI i) (hw : Wf r) (h : wp_X11_memoryAt p1 p2 i r Q X) : vx_Met l yX11_memoryAt (Cond.code yX11_memoryAt cX11_memoryAt 3 (some .int) :: gW) (sRx 6 136 1 6) (sPc Δ [.ref (sA Δ 0), .int (sJ p1), .int (sJ p2)] i r) (sQi Δ (fun x i' r' => r = r' ∧ Q x i')) (sX Δ (fun E i' r' => r = r' ∧ X E i')) 1 6 (sFr Δ) := by
  refine Cx.i (ty := .int) (by decide) rfl (Nat.le_of_ble_eq_true rfl) hst (by decide) (by decide) (fun Γ Q0 hG fin xout xthr => ?_)
  have hG : okG Γ Δ l (sRx 6 136 1 6) cX11_memoryAt "Schedulary" 3 := hG
  show V Γ Δ 504 false i r 0 0 Q0 0 [(0, .ref (sA Δ 0)), (1, .int (sJ p1)), (2, .int (sJ p2))] []
  refine V.iload_n (pc := 0) hG dX11_memoryAt_0 rfl 1 rfl ?_
  refine V.iload_n (pc := 1) hG dX11_memoryAt_1 rfl 2 rfl ?_
  refine V.callSi (pc := 2) (As := [.int (sJ p1), .int (sJ p2)]) (stk := []) hG (sm_X11_isPlace l Δ hp1 hp2 hi hw h) mY_X11_isPlace kw_1267 kw_1268 ⟨Nat.le_of_ble_eq_true rfl, Nat.le_of_ble_eq_true rfl, Nat.le_of_ble_eq_true rfl, Nat.le_of_ble_eq_true rfl⟩ rfl (Nat.le_of_ble_eq_true rfl) dX11_memoryAt_2 rfl (fun v1 i2 r3 hv4 hi5 hw6 hq7 => ?_)
  obtain ⟨e38, e39, h⟩ := hq7
  subst e38
  subst e39
  obtain ⟨f10, t9⟩ := h
  refine V.if_ne (pc := 5) (tgt := 18) hG hv4 dX11_memoryAt_5 (by decide) (fun c8 => ?_) (fun c8 => ?_)
  · have h := t9 c8
    clear t9 f10
    refine V.aload_n (pc := 18) hG dX11_memoryAt_18 rfl 0 rfl ?_
    refine V.callVv (pc := 19) (As := []) (stk := []) hG (sm_X11_carryOut l Δ  hi hw h) mY_X11_carryOut kw_561 kw_563 kw_0 a_0 (by decide) (q := (RX11, TX11, 11)) rfl rfl ⟨Nat.le_of_ble_eq_true rfl, Nat.le_of_ble_eq_true rfl, Nat.le_of_ble_eq_true rfl, Nat.le_of_ble_eq_true rfl⟩ rfl (Nat.le_of_ble_eq_true rfl) dX11_memoryAt_19 rfl (fun i12 r13 hi15 hw16 hq17 => ?_)
    obtain ⟨e37, h⟩ := hq17
    subst e37
    refine V.aload_n (pc := 22) hG dX11_memoryAt_22 rfl 0 rfl ?_
    refine V.getR (x := 61) (pc := 23) (ci := 13) (k := 2) (M := 11) (T := TX11) (o := 0) (kz := 2) hG a_0 a_0.n (by decide) hin_X11 rfl (by decide) (by decide) rfl kw_525 rfl ((hw).1 (0, 2, 61) (by decide)) (by decide) dX11_memoryAt_23 ?_
    refine V.ldcS (pc := 26) (k := 2) (tx := "MN") hG (by decide) dX11_memoryAt_26 ?_
    refine V.iload_n (pc := 28) hG dX11_memoryAt_28 rfl 1 rfl ?_
    refine V.callVSi (pc := 29) (As := [.int (sJ p1)]) (stk := [.ref (sA Δ 61)]) hG (sm_J0_indexOf_0f7a4 l Δ (by decide) hp1 hi15 hw h) mY_J0_indexOf_0f7a4 kw_1014 kw_1015 kw_1016 (by decide) rfl ⟨Nat.le_of_ble_eq_true rfl, Nat.le_of_ble_eq_true rfl, Nat.le_of_ble_eq_true rfl, Nat.le_of_ble_eq_true rfl⟩ rfl (Nat.le_of_ble_eq_true rfl) dX11_memoryAt_29 rfl (fun v18 i19 r20 hv21 hi22 hw23 hq24 => ?_)
    obtain ⟨e34, e35, h⟩ := hq24
    subst e34
    subst e35
    refine V.iload_n (pc := 32) hG dX11_memoryAt_32 rfl 2 rfl ?_
    refine V.callVNi (pc := 33) (As := [.int (sJ v18), .int (sJ p2)]) (stk := []) hG (sm_X7_look l Δ sta_61 hv21 hp2 hi15 hw h) mY_X7_look kw_1333 kw_596 kw_8 a_61 (by decide) (q := (RX7, TX7, 5)) rfl rfl ⟨Nat.le_of_ble_eq_true rfl, Nat.le_of_ble_eq_true rfl, Nat.le_of_ble_eq_true rfl, Nat.le_of_ble_eq_true rfl⟩ rfl (Nat.le_of_ble_eq_true rfl) dX11_memoryAt_33 rfl (fun v25 i26 r27 hv28 hi29 hw30 hq31 => ?_)
    obtain ⟨e32, e33, h⟩ := hq31
    subst e32
    subst e33
    exact fin dX11_memoryAt_36 hv28 rfl (by decide) (by decide) hi15 hw ⟨rfl, h⟩
  · have h := f10 c8
    clear t9 f10
    exact xthr ⟨88, 228, 92, "no such place", by decide, kw_1096, kw_125, by decide, .inl th_92, dX11_memoryAt_8, dX11_memoryAt_11, Or.inl ⟨dX11_memoryAt_12, dX11_memoryAt_14, dX11_memoryAt_17⟩⟩ (by decide) (by decide) hi hw ⟨rfl, h⟩
set_option maxRecDepth 100000 in
set_option maxHeartbeats 4000000 in
theorem sm_X11_register (l : Launch) (Δ : Wd) {i r : MI} {p1 : Int} (hp1 : sR p1) {Q : Int → MI → Prop} {X : String → MI → Prop} (hst : l.stackTraces = false) (hi : okI i) (hw : Wf r) (h : wp_X11_register p1 i r Q X) : vx_Met l yX11_register (Cond.code yX11_register cX11_register 2 (some .int) :: gW) (sRx 6 136 1 6) (sPc Δ [.ref (sA Δ 0), .int (sJ p1)] i r) (sQi Δ (fun x i' r' => r = r' ∧ Q x i')) (sX Δ (fun E i' r' => r = r' ∧ X E i')) 1 6 (sFr Δ) := by
  refine Cx.i (ty := .int) (by decide) rfl (Nat.le_of_ble_eq_true rfl) hst (by decide) (by decide) (fun Γ Q0 hG fin xout xthr => ?_)
  have hG : okG Γ Δ l (sRx 6 136 1 6) cX11_register "Schedulary" 2 := hG
  show V Γ Δ 504 false i r 0 0 Q0 0 [(0, .ref (sA Δ 0)), (1, .int (sJ p1))] []
  refine V.iload_n (pc := 0) hG dX11_register_0 rfl 1 rfl ?_
  refine V.bipush (pc := 1) hG dX11_register_1 (by decide) ?_
  refine V.bipush (pc := 3) hG dX11_register_3 (by decide) ?_
  refine V.callSi (pc := 5) (As := [.int (sJ p1), .int (sJ 97), .int (sJ 104)]) (stk := []) hG (sm_X11_isWithin l Δ hp1 ((sR_l rfl)) ((sR_l rfl)) hi hw h) mY_X11_isWithin kw_1221 kw_826 ⟨Nat.le_of_ble_eq_true rfl, Nat.le_of_ble_eq_true rfl, Nat.le_of_ble_eq_true rfl, Nat.le_of_ble_eq_true rfl⟩ rfl (Nat.le_of_ble_eq_true rfl) dX11_register_5 rfl (fun v1 i2 r3 hv4 hi5 hw6 hq7 => ?_)
  obtain ⟨e21, e22, h⟩ := hq7
  subst e21
  subst e22
  obtain ⟨f10, t9⟩ := h
  refine V.if_ne (pc := 8) (tgt := 21) hG hv4 dX11_register_8 (by decide) (fun c8 => ?_) (fun c8 => ?_)
  · have h := t9 c8
    clear t9 f10
    refine V.aload_n (pc := 21) hG dX11_register_21 rfl 0 rfl ?_
    refine V.callVv (pc := 22) (As := []) (stk := []) hG (sm_X11_carryOut l Δ  hi hw h) mY_X11_carryOut kw_561 kw_563 kw_0 a_0 (by decide) (q := (RX11, TX11, 11)) rfl rfl ⟨Nat.le_of_ble_eq_true rfl, Nat.le_of_ble_eq_true rfl, Nat.le_of_ble_eq_true rfl, Nat.le_of_ble_eq_true rfl⟩ rfl (Nat.le_of_ble_eq_true rfl) dX11_register_22 rfl (fun i12 r13 hi15 hw16 hq17 => ?_)
    obtain ⟨e20, h⟩ := hq17
    subst e20
    refine V.aload_n (pc := 25) hG dX11_register_25 rfl 0 rfl ?_
    refine V.getR (x := 61) (pc := 26) (ci := 13) (k := 2) (M := 11) (T := TX11) (o := 0) (kz := 2) hG a_0 a_0.n (by decide) hin_X11 rfl (by decide) (by decide) rfl kw_525 rfl ((hw).1 (0, 2, 61) (by decide)) (by decide) dX11_register_26 ?_
    refine V.getRN (x := 61 + 1) (pc := 29) (ci := 9) (k := 0) (M := 5) (T := TX7) (o := 61) (kz := 0) hG a_61 a_61.n (by decide) hin_X7 rfl (by decide) (by decide) rfl kw_250 rfl ((hw.2.2.2.1 _ sta_61).1) (by have := sta.pos (sta_61); omega) dX11_register_29 ?_
    refine V.iload_n (pc := 32) hG dX11_register_32 rfl 1 rfl ?_
    refine V.bipush (pc := 33) hG dX11_register_33 (by decide) ?_
    refine V.isub (pc := 35) hG dX11_register_35 ?_
    obtain ⟨g18, h⟩ := h
    refine V.iald (pc := 36) (z := 8) (o := 61 + 1) hG sta_61.r sta_61.r.n ((sR_wr _)) g18 dX11_register_36 ?_
    exact fin dX11_register_37 ((hi15 _ _)) rfl (by decide) (by decide) hi15 hw ⟨rfl, h⟩
  · have h := f10 c8
    clear t9 f10
    exact xthr ⟨88, 233, 92, "no such register", by decide, kw_1096, kw_125, by decide, .inl th_92, dX11_register_11, dX11_register_14, Or.inl ⟨dX11_register_15, dX11_register_17, dX11_register_20⟩⟩ (by decide) (by decide) hi hw ⟨rfl, h⟩
