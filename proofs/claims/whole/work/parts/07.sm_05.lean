set_option maxRecDepth 100000 in
set_option maxHeartbeats 4000000 in
theorem sm_X5_go (l : Launch) (Δ : Wd) {i r : MI}   {Q : MI → Prop} (hi : okI i) (hw : Wf r) (h : wp_X5_go  i r Q) : Met l yX5_go (Cond.code yX5_go cX5_go 5 none :: gW) (sRm 1 24) (sPc Δ [.ref (sA Δ 488)] i r) (sQv Δ (fun i' r' => r = r' ∧ Q i')) 0 0 (sFr Δ) := by
  refine Ct.v (by decide) rfl (Nat.le_of_ble_eq_true rfl) (fun Γ Q0 hG fin => ?_)
  have hG : okG Γ Δ l (sRm 1 24) cX5_go "Schedulary$Processes" 5 := hG
  show V Γ Δ 542 false i r 0 0 Q0 0 [(0, .ref (sA Δ 488))] []
  have jn109 : ∀  (ij109 : MI), okI ij109 → s109_X5_go ij109 r Q → V Γ Δ 542 false ij109 r 0 0 Q0 109 [] [] := by
    intro ij109 hij109 h
    exact fin dX5_go_109 hij109 hw ⟨rfl, h⟩
  refine V.iconst (pc := 0) hG dX5_go_0 ?_
  refine V.istore_n (pc := 1) (lv' := [(1, .int (sJ 0)), (0, .ref (sA Δ 488))]) hG dX5_go_1 rfl (by decide) rfl ?_
  obtain ⟨n117, h⟩ := h
  have lp2 : ∀ (m2 : Nat) (x1_2 : Int) (i_2 : MI), sR x1_2 → okI i_2 → LoopP (b2_X5_go r Q) m2 (x1_2, i_2) → V Γ Δ 542 false i_2 r 0 0 Q0 2 [(0, .ref (sA Δ 488)), (1, .int (sJ x1_2))] [] := by
    intro m2
    induction m2 with
    | zero => intro x1_2 i_2 hx1_2 hi_2 h; exact h.elim
    | succ m2 ih2 =>
      intro x1_2 i_2 hx1_2 hi_2 h
      have h := LoopP_succ h
      refine V.iload_n (pc := 2) hG dX5_go_2 rfl 1 rfl ?_
      refine V.iconst (pc := 3) hG dX5_go_3 ?_
      obtain ⟨t119, f120⟩ := h
      refine V.icmp_ge (pc := 4) (tgt := 20) hG hx1_2 ((sR_l rfl)) dX5_go_4 (by decide) (fun c118 => ?_) (fun c118 => ?_)
      · have h := t119 c118
        clear t119 f120
        refine V.iconst (pc := 20) hG dX5_go_20 ?_
        refine V.istore_n (pc := 21) (lv' := [(1, .int (sJ 0)), (0, .ref (sA Δ 488))]) hG dX5_go_21 rfl (by decide) rfl ?_
        obtain ⟨n121, h⟩ := h
        have lp22 : ∀ (m22 : Nat) (x1_22 : Int) (i_22 : MI), sR x1_22 → okI i_22 → LoopP (b22_X5_go r Q) m22 (x1_22, i_22) → V Γ Δ 542 false i_22 r 0 0 Q0 22 [(0, .ref (sA Δ 488)), (1, .int (sJ x1_22))] [] := by
          intro m22
          induction m22 with
          | zero => intro x1_22 i_22 hx1_22 hi_22 h; exact h.elim
          | succ m22 ih22 =>
            intro x1_22 i_22 hx1_22 hi_22 h
            have h := LoopP_succ h
            refine V.iload_n (pc := 22) hG dX5_go_22 rfl 1 rfl ?_
            refine V.iconst (pc := 23) hG dX5_go_23 ?_
            obtain ⟨t123, f124⟩ := h
            refine V.icmp_ge (pc := 24) (tgt := 40) hG hx1_22 ((sR_l rfl)) dX5_go_24 (by decide) (fun c122 => ?_) (fun c122 => ?_)
            · have h := t123 c122
              clear t123 f124
              refine V.iconst (pc := 40) hG dX5_go_40 ?_
              refine V.istore_n (pc := 41) (lv' := [(1, .int (sJ 1)), (0, .ref (sA Δ 488))]) hG dX5_go_41 rfl (by decide) rfl ?_
              refine V.iconst (pc := 42) hG dX5_go_42 ?_
              refine V.istore_n (pc := 43) (lv' := [(2, .int (sJ 0)), (1, .int (sJ 1)), (0, .ref (sA Δ 488))]) hG dX5_go_43 rfl (by decide) rfl ?_
              obtain ⟨n125, h⟩ := h
              have lp44 : ∀ (m44 : Nat) (x1_44 : Int) (x2_44 : Int) (i_44 : MI), sR x1_44 → sR x2_44 → okI i_44 → LoopP (b44_X5_go r Q) m44 (x1_44, x2_44, i_44) → V Γ Δ 542 false i_44 r 0 0 Q0 44 [(0, .ref (sA Δ 488)), (1, .int (sJ x1_44)), (2, .int (sJ x2_44))] [] := by
                intro m44
                induction m44 with
                | zero => intro x1_44 x2_44 i_44 hx1_44 hx2_44 hi_44 h; exact h.elim
                | succ m44 ih44 =>
                  intro x1_44 x2_44 i_44 hx1_44 hx2_44 hi_44 h
                  have h := LoopP_succ h
                  refine V.iload_n (pc := 44) hG dX5_go_44 rfl 2 rfl ?_
                  refine V.bipush (pc := 45) hG dX5_go_45 (by decide) ?_
                  obtain ⟨t127, f128⟩ := h
                  refine V.icmp_gt (pc := 47) (tgt := 109) hG hx2_44 ((sR_l rfl)) dX5_go_47 (by decide) (fun c126 => ?_) (fun c126 => ?_)
                  · have h := t127 c126
                    clear t127 f128
                    refine V.pick [] rfl ?_
                    exact jn109 i_44 hi_44 h
                  · have h := f128 c126
                    clear t127 f128
                    refine V.iload_n (pc := 50) hG dX5_go_50 rfl 1 rfl ?_
                    obtain ⟨t130, f131⟩ := h
                    refine V.if_eq (pc := 51) (tgt := 109) hG hx1_44 dX5_go_51 (by decide) (fun c129 => ?_) (fun c129 => ?_)
                    · have h := t130 c129
                      clear t130 f131
                      refine V.pick [] rfl ?_
                      exact jn109 i_44 hi_44 h
                    · have h := f131 c129
                      clear t130 f131
                      refine V.iconst (pc := 54) hG dX5_go_54 ?_
                      refine V.istore_n (pc := 55) (lv' := [(1, .int (sJ 0)), (0, .ref (sA Δ 488)), (2, .int (sJ x2_44))]) hG dX5_go_55 rfl (by decide) rfl ?_
                      refine V.iconst (pc := 56) hG dX5_go_56 ?_
                      refine V.istore_n (pc := 57) (lv' := [(3, .int (sJ 0)), (1, .int (sJ 0)), (0, .ref (sA Δ 488)), (2, .int (sJ x2_44))]) hG dX5_go_57 rfl (by decide) rfl ?_
                      obtain ⟨n132, h⟩ := h
                      have lp58 : ∀ (m58 : Nat) (x1_58 : Int) (x3_58 : Int) (i_58 : MI), sR x1_58 → sR x3_58 → okI i_58 → LoopP (b58_X5_go x2_44 r Q (LoopP (b44_X5_go r Q) m44)) m58 (x1_58, x3_58, i_58) → V Γ Δ 542 false i_58 r 0 0 Q0 58 [(0, .ref (sA Δ 488)), (1, .int (sJ x1_58)), (2, .int (sJ x2_44)), (3, .int (sJ x3_58))] [] := by
                        intro m58
                        induction m58 with
                        | zero => intro x1_58 x3_58 i_58 hx1_58 hx3_58 hi_58 h; exact h.elim
                        | succ m58 ih58 =>
                          intro x1_58 x3_58 i_58 hx1_58 hx3_58 hi_58 h
                          have h := LoopP_succ h
                          have jn96 : ∀ (x3j96 : Int) (k0j96 : Int) (ij96 : MI), sR x3j96 → sR k0j96 → okI ij96 → s96_X5_go x2_44 x3j96 k0j96 ij96 r Q (LoopP (b44_X5_go r Q) m44) (LoopP (b58_X5_go x2_44 r Q (LoopP (b44_X5_go r Q) m44)) m58) → V Γ Δ 542 false ij96 r 0 0 Q0 96 [(0, .ref (sA Δ 488)), (2, .int (sJ x2_44)), (3, .int (sJ x3j96))] [.int (sJ k0j96)] := by
                            intro x3j96 k0j96 ij96 hx3j96 hk0j96 hij96 h
                            refine V.istore_n (pc := 96) (lv' := [(1, .int (sJ k0j96)), (0, .ref (sA Δ 488)), (2, .int (sJ x2_44)), (3, .int (sJ x3j96))]) hG dX5_go_96 rfl (by decide) rfl ?_
                            refine V.iinc (pc := 97) (lv' := [(3, .int (sJ (wr (x3j96 + 1)))), (1, .int (sJ k0j96)), (0, .ref (sA Δ 488)), (2, .int (sJ x2_44))]) hG dX5_go_97 3 rfl (by decide) rfl ?_
                            refine V.goto (pc := 100) (tgt := 58) hG dX5_go_100 (by decide) ?_
                            refine V.pick [2, 1, 3, 0] rfl ?_
                            exact ih58 k0j96 (wr (x3j96 + 1)) ij96 hk0j96 ((sR_wr _)) hij96 h
                          have jn91 : ∀ (x3j91 : Int) (ij91 : MI), sR x3j91 → okI ij91 → s91_X5_go x2_44 x3j91 ij91 r Q (LoopP (b44_X5_go r Q) m44) (LoopP (b58_X5_go x2_44 r Q (LoopP (b44_X5_go r Q) m44)) m58) → V Γ Δ 542 false ij91 r 0 0 Q0 91 [(0, .ref (sA Δ 488)), (2, .int (sJ x2_44)), (3, .int (sJ x3j91))] [] := by
                            intro x3j91 ij91 hx3j91 hij91 h
                            refine V.iconst (pc := 91) hG dX5_go_91 ?_
                            refine V.goto (pc := 92) (tgt := 96) hG dX5_go_92 (by decide) ?_
                            exact jn96 x3j91 1 ij91 hx3j91 ((sR_l rfl)) hij91 h
                          refine V.iload_n (pc := 58) hG dX5_go_58 rfl 3 rfl ?_
                          refine V.iconst (pc := 59) hG dX5_go_59 ?_
                          obtain ⟨t134, f135⟩ := h
                          refine V.icmp_ge (pc := 60) (tgt := 103) hG hx3_58 ((sR_l rfl)) dX5_go_60 (by decide) (fun c133 => ?_) (fun c133 => ?_)
                          · have h := t134 c133
                            clear t134 f135
                            refine V.iinc (pc := 103) (lv' := [(2, .int (sJ (wr (x2_44 + 1)))), (0, .ref (sA Δ 488)), (1, .int (sJ x1_58)), (3, .int (sJ x3_58))]) hG dX5_go_103 2 rfl (by decide) rfl ?_
                            refine V.goto (pc := 106) (tgt := 44) hG dX5_go_106 (by decide) ?_
                            refine V.pick [1, 2, 0] rfl ?_
                            exact ih44 x1_58 (wr (x2_44 + 1)) i_58 hx1_58 ((sR_wr _)) hi_58 h
                          · have h := f135 c133
                            clear t134 f135
                            refine V.aload_n (pc := 63) hG dX5_go_63 rfl 0 rfl ?_
                            refine V.getR (x := 503) (pc := 64) (ci := 7) (k := 6) (M := 7) (T := TX5) (o := 488) (kz := 6) hG a_488 a_488.n (by decide) hin_X5 rfl (by decide) (by decide) rfl kw_560 rfl ((hw).1 (488, 6, 503) (by decide)) (by decide) dX5_go_64 ?_
                            refine V.iload_n (pc := 67) hG dX5_go_67 rfl 3 rfl ?_
                            obtain ⟨g136, h⟩ := h
                            refine V.iald (pc := 68) (z := 4) (o := 503) hG a_503 a_503.n hx3_58 g136 dX5_go_68 ?_
                            refine V.istore (pc := 69) (lv' := [(4, .int (sJ (i_58 503 x3_58))), (0, .ref (sA Δ 488)), (1, .int (sJ x1_58)), (2, .int (sJ x2_44)), (3, .int (sJ x3_58))]) hG dX5_go_69 (by decide) rfl ?_
                            refine V.aload_n (pc := 71) hG dX5_go_71 rfl 1 rfl ?_
                            refine V.iload_n (pc := 72) hG dX5_go_72 rfl 4 rfl ?_
                            refine V.callVv (pc := 73) (As := [.int (sJ x3_58)]) (stk := []) hG (sm_X5_goOn l Δ hx3_58 hi_58 hw h) mY_X5_goOn kw_1191 kw_1193 kw_88 a_488 (by decide) (q := (RX5, TX5, 7)) rfl rfl ⟨Nat.le_of_ble_eq_true rfl, Nat.le_of_ble_eq_true rfl, Nat.le_of_ble_eq_true rfl, Nat.le_of_ble_eq_true rfl⟩ rfl (Nat.le_of_ble_eq_true rfl) dX5_go_73 rfl (fun i138 r139 hi141 hw142 hq143 => ?_)
                            obtain ⟨e152, h⟩ := hq143
                            subst e152
                            refine V.iload_n (pc := 76) hG dX5_go_76 rfl 2 rfl ?_
                            obtain ⟨f146, t145⟩ := h
                            refine V.if_ne (pc := 77) (tgt := 91) hG hx1_58 dX5_go_77 (by decide) (fun c144 => ?_) (fun c144 => ?_)
                            · have h := t145 c144
                              clear t145 f146
                              refine V.pick [1, 3, 4] rfl ?_
                              exact jn91 x3_58 i138 hx3_58 hi141 h
                            · have h := f146 c144
                              clear t145 f146
                              refine V.aload_n (pc := 80) hG dX5_go_80 rfl 1 rfl ?_
                              refine V.getR (x := 503) (pc := 81) (ci := 7) (k := 6) (M := 7) (T := TX5) (o := 488) (kz := 6) hG a_488 a_488.n (by decide) hin_X5 rfl (by decide) (by decide) rfl kw_560 rfl ((hw).1 (488, 6, 503) (by decide)) (by decide) dX5_go_81 ?_
                              refine V.iload_n (pc := 84) hG dX5_go_84 rfl 4 rfl ?_
                              obtain ⟨g147, h⟩ := h
                              refine V.iald (pc := 85) (z := 4) (o := 503) hG a_503 a_503.n hx3_58 g147 dX5_go_85 ?_
                              refine V.iload (pc := 86) hG dX5_go_86 0 rfl ?_
                              obtain ⟨t149, f150⟩ := h
                              refine V.icmp_le (pc := 88) (tgt := 95) hG ((hi141 _ _)) ((hi_58 _ _)) dX5_go_88 (by decide) (fun c148 => ?_) (fun c148 => ?_)
                              · have h := t149 c148
                                clear t149 f150
                                refine V.iconst (pc := 95) hG dX5_go_95 ?_
                                refine V.pick [1, 3, 4] rfl ?_
                                exact jn96 x3_58 0 i138 hx3_58 ((sR_l rfl)) hi141 h
                              · have h := f150 c148
                                clear t149 f150
                                refine V.pick [1, 3, 4] rfl ?_
                                exact jn91 x3_58 i138 hx3_58 hi141 h
                      refine V.pick [2, 1, 3, 0] rfl ?_
                      exact lp58 n132 0 0 i_44 ((sR_l rfl)) ((sR_l rfl)) hi_44 h
              refine V.pick [2, 1, 0] rfl ?_
              exact lp44 n125 1 0 i_22 ((sR_l rfl)) ((sR_l rfl)) hi_22 h
            · have h := f124 c122
              clear t123 f124
              refine V.aload_n (pc := 27) hG dX5_go_27 rfl 0 rfl ?_
              refine V.getR (x := 503) (pc := 28) (ci := 7) (k := 6) (M := 7) (T := TX5) (o := 488) (kz := 6) hG a_488 a_488.n (by decide) hin_X5 rfl (by decide) (by decide) rfl kw_560 rfl ((hw).1 (488, 6, 503) (by decide)) (by decide) dX5_go_28 ?_
              refine V.iload_n (pc := 31) hG dX5_go_31 rfl 1 rfl ?_
              refine V.iconst (pc := 32) hG dX5_go_32 ?_
              obtain ⟨g153, h⟩ := h
              refine V.iast (pc := 33) (z := 4) (o := 503) hG a_503 a_503.n hx1_22 g153 dX5_go_33 ?_
              refine V.iinc (pc := 34) (lv' := [(1, .int (sJ (wr (x1_22 + 1)))), (0, .ref (sA Δ 488))]) hG dX5_go_34 1 rfl (by decide) rfl ?_
              refine V.goto (pc := 37) (tgt := 22) hG dX5_go_37 (by decide) ?_
              refine V.pick [1, 0] rfl ?_
              exact ih22 (wr (x1_22 + 1)) (st i_22 503 x1_22 0) ((sR_wr _)) ((okI_st hi_22 ((sR_l rfl)))) h
        refine V.pick [1, 0] rfl ?_
        exact lp22 n121 0 i_2 ((sR_l rfl)) hi_2 h
      · have h := f120 c118
        clear t119 f120
        refine V.aload_n (pc := 7) hG dX5_go_7 rfl 0 rfl ?_
        refine V.getR (x := 502) (pc := 8) (ci := 7) (k := 5) (M := 7) (T := TX5) (o := 488) (kz := 5) hG a_488 a_488.n (by decide) hin_X5 rfl (by decide) (by decide) rfl kw_559 rfl ((hw).1 (488, 5, 502) (by decide)) (by decide) dX5_go_8 ?_
        refine V.iload_n (pc := 11) hG dX5_go_11 rfl 1 rfl ?_
        refine V.iconst (pc := 12) hG dX5_go_12 ?_
        obtain ⟨g154, h⟩ := h
        refine V.iast (pc := 13) (z := 4) (o := 502) hG a_502 a_502.n hx1_2 g154 dX5_go_13 ?_
        refine V.iinc (pc := 14) (lv' := [(1, .int (sJ (wr (x1_2 + 1)))), (0, .ref (sA Δ 488))]) hG dX5_go_14 1 rfl (by decide) rfl ?_
        refine V.goto (pc := 17) (tgt := 2) hG dX5_go_17 (by decide) ?_
        refine V.pick [1, 0] rfl ?_
        exact ih2 (wr (x1_2 + 1)) (st i_2 502 x1_2 0) ((sR_wr _)) ((okI_st hi_2 ((sR_l rfl)))) h
  refine V.pick [1, 0] rfl ?_
  exact lp2 n117 0 i ((sR_l rfl)) hi h
set_option maxRecDepth 100000 in
set_option maxHeartbeats 4000000 in
theorem sm_X5_goWithTheirDepths (l : Launch) (Δ : Wd) {i r : MI}   {Q : MI → Prop} (hi : okI i) (hw : Wf r) (h : wp_X5_goWithTheirDepths  i r Q) : Met l yX5_goWithTheirDepths (Cond.code yX5_goWithTheirDepths cX5_goWithTheirDepths 2 none :: gW) (sRm 2 48) (sPc Δ [.ref (sA Δ 488)] i r) (sQv Δ (fun i' r' => r = r' ∧ Q i')) 0 0 (sFr Δ) := by
  refine Ct.v (by decide) rfl (Nat.le_of_ble_eq_true rfl) (fun Γ Q0 hG fin => ?_)
  have hG : okG Γ Δ l (sRm 2 48) cX5_goWithTheirDepths "Schedulary$Processes" 2 := hG
  show V Γ Δ 542 false i r 0 0 Q0 0 [(0, .ref (sA Δ 488))] []
  refine V.iconst (pc := 0) hG dX5_goWithTheirDepths_0 ?_
  refine V.istore_n (pc := 1) (lv' := [(1, .int (sJ 0)), (0, .ref (sA Δ 488))]) hG dX5_goWithTheirDepths_1 rfl (by decide) rfl ?_
  obtain ⟨n15, h⟩ := h
  have lp2 : ∀ (m2 : Nat) (x1_2 : Int) (i_2 : MI), sR x1_2 → okI i_2 → LoopP (b2_X5_goWithTheirDepths r Q) m2 (x1_2, i_2) → V Γ Δ 542 false i_2 r 0 0 Q0 2 [(0, .ref (sA Δ 488)), (1, .int (sJ x1_2))] [] := by
    intro m2
    induction m2 with
    | zero => intro x1_2 i_2 hx1_2 hi_2 h; exact h.elim
    | succ m2 ih2 =>
      intro x1_2 i_2 hx1_2 hi_2 h
      have h := LoopP_succ h
      refine V.iload_n (pc := 2) hG dX5_goWithTheirDepths_2 rfl 1 rfl ?_
      refine V.iconst (pc := 3) hG dX5_goWithTheirDepths_3 ?_
      obtain ⟨t17, f18⟩ := h
      refine V.icmp_ge (pc := 4) (tgt := 25) hG hx1_2 ((sR_l rfl)) dX5_goWithTheirDepths_4 (by decide) (fun c16 => ?_) (fun c16 => ?_)
      · have h := t17 c16
        clear t17 f18
        refine V.aload_n (pc := 25) hG dX5_goWithTheirDepths_25 rfl 0 rfl ?_
        refine V.callVv (pc := 26) (As := []) (stk := []) hG (sm_X5_go l Δ  hi_2 hw h) mY_X5_go kw_1187 kw_1189 kw_87 a_488 (by decide) (q := (RX5, TX5, 7)) rfl rfl ⟨Nat.le_of_ble_eq_true rfl, Nat.le_of_ble_eq_true rfl, Nat.le_of_ble_eq_true rfl, Nat.le_of_ble_eq_true rfl⟩ rfl (Nat.le_of_ble_eq_true rfl) dX5_goWithTheirDepths_26 rfl (fun i20 r21 hi23 hw24 hq25 => ?_)
        obtain ⟨e27, h⟩ := hq25
        subst e27
        exact fin dX5_goWithTheirDepths_29 hi23 hw ⟨rfl, h⟩
      · have h := f18 c16
        clear t17 f18
        refine V.aload_n (pc := 7) hG dX5_goWithTheirDepths_7 rfl 0 rfl ?_
        refine V.getR (x := 501) (pc := 8) (ci := 7) (k := 4) (M := 7) (T := TX5) (o := 488) (kz := 4) hG a_488 a_488.n (by decide) hin_X5 rfl (by decide) (by decide) rfl kw_558 rfl ((hw).1 (488, 4, 501) (by decide)) (by decide) dX5_goWithTheirDepths_8 ?_
        refine V.iload_n (pc := 11) hG dX5_goWithTheirDepths_11 rfl 1 rfl ?_
        refine V.aload_n (pc := 12) hG dX5_goWithTheirDepths_12 rfl 0 rfl ?_
        refine V.getR (x := 500) (pc := 13) (ci := 7) (k := 3) (M := 7) (T := TX5) (o := 488) (kz := 3) hG a_488 a_488.n (by decide) hin_X5 rfl (by decide) (by decide) rfl kw_556 rfl ((hw).1 (488, 3, 500) (by decide)) (by decide) dX5_goWithTheirDepths_13 ?_
        refine V.iload_n (pc := 16) hG dX5_goWithTheirDepths_16 rfl 1 rfl ?_
        obtain ⟨g28, h⟩ := h
        refine V.iald (pc := 17) (z := 4) (o := 500) hG a_500 a_500.n hx1_2 g28 dX5_goWithTheirDepths_17 ?_
        obtain ⟨g29, h⟩ := h
        refine V.iast (pc := 18) (z := 4) (o := 501) hG a_501 a_501.n hx1_2 g29 dX5_goWithTheirDepths_18 ?_
        refine V.iinc (pc := 19) (lv' := [(1, .int (sJ (wr (x1_2 + 1)))), (0, .ref (sA Δ 488))]) hG dX5_goWithTheirDepths_19 1 rfl (by decide) rfl ?_
        refine V.goto (pc := 22) (tgt := 2) hG dX5_goWithTheirDepths_22 (by decide) ?_
        refine V.pick [1, 0] rfl ?_
        exact ih2 (wr (x1_2 + 1)) (st i_2 501 x1_2 (i_2 500 x1_2)) ((sR_wr _)) ((okI_st hi_2 ((hi_2 _ _)))) h
  refine V.pick [1, 0] rfl ?_
  exact lp2 n15 0 i ((sR_l rfl)) hi h
set_option maxRecDepth 100000 in
set_option maxHeartbeats 4000000 in
theorem sm_X11_done (l : Launch) (Δ : Wd) {i r : MI}   {Q : Int → MI → Prop} (hi : okI i) (hw : Wf r) (h : wp_X11_done  i r Q) : Met l yX11_done (Cond.code yX11_done cX11_done 1 (some .int) :: gW) (sRm 3 69) (sPc Δ [.ref (sA Δ 0)] i r) (sQi Δ (fun x i' r' => r = r' ∧ Q x i')) 0 0 (sFr Δ) := by
  refine Ct.i (ty := .int) (by decide) rfl (Nat.le_of_ble_eq_true rfl) (fun Γ Q0 hG fin => ?_)
  have hG : okG Γ Δ l (sRm 3 69) cX11_done "Schedulary" 1 := hG
  show V Γ Δ 542 false i r 0 0 Q0 0 [(0, .ref (sA Δ 0))] []
  refine V.aload_n (pc := 0) hG dX11_done_0 rfl 0 rfl ?_
  refine V.getR (x := 488) (pc := 1) (ci := 13) (k := 8) (M := 11) (T := TX11) (o := 0) (kz := 8) hG a_0 a_0.n (by decide) hin_X11 rfl (by decide) (by decide) rfl kw_584 rfl ((hw).1 (0, 8, 488) (by decide)) (by decide) dX11_done_1 ?_
  refine V.callVNv (pc := 4) (As := []) (stk := []) hG (sm_X5_goWithTheirDepths l Δ  hi hw h) mY_X5_goWithTheirDepths kw_1183 kw_1185 kw_86 a_488 (by decide) (q := (RX5, TX5, 7)) rfl rfl ⟨Nat.le_of_ble_eq_true rfl, Nat.le_of_ble_eq_true rfl, Nat.le_of_ble_eq_true rfl, Nat.le_of_ble_eq_true rfl⟩ rfl (Nat.le_of_ble_eq_true rfl) dX11_done_4 rfl (fun i2 r3 hi5 hw6 hq7 => ?_)
  obtain ⟨e18, h⟩ := hq7
  subst e18
  refine V.aload_n (pc := 7) hG dX11_done_7 rfl 0 rfl ?_
  refine V.getR (x := 488) (pc := 8) (ci := 13) (k := 8) (M := 11) (T := TX11) (o := 0) (kz := 8) hG a_0 a_0.n (by decide) hin_X11 rfl (by decide) (by decide) rfl kw_584 rfl ((hw).1 (0, 8, 488) (by decide)) (by decide) dX11_done_8 ?_
  refine V.callVNi (pc := 11) (As := []) (stk := []) hG (sm_X5_countDone l Δ  hi5 hw h) mY_X5_countDone kw_1195 kw_1197 kw_89 a_488 (by decide) (q := (RX5, TX5, 7)) rfl rfl ⟨Nat.le_of_ble_eq_true rfl, Nat.le_of_ble_eq_true rfl, Nat.le_of_ble_eq_true rfl, Nat.le_of_ble_eq_true rfl⟩ rfl (Nat.le_of_ble_eq_true rfl) dX11_done_11 rfl (fun v8 i9 r10 hv11 hi12 hw13 hq14 => ?_)
  obtain ⟨e15, e16, h⟩ := hq14
  subst e15
  subst e16
  exact fin dX11_done_14 hv11 rfl hi5 hw ⟨rfl, h⟩
set_option maxRecDepth 100000 in
set_option maxHeartbeats 4000000 in
theorem sm_X5_nextChannel (l : Launch) (Δ : Wd) {i r : MI} {p1 : Int} (hp1 : sR p1) {Q : Int → Prop} (hi : okI i) (hw : Wf r) (h : wp_X5_nextChannel p1 i r Q) : Met l yX5_nextChannel (Cond.code yX5_nextChannel cX5_nextChannel 3 (some .int) :: gW) (sRm 0 0) (sPc Δ [.ref (sA Δ 488), .int (sJ p1)] i r) (sQi Δ (fun x i' r' => i = i' ∧ r = r' ∧ Q x)) 0 0 (sFr Δ) := by
  refine Ct.i (ty := .int) (by decide) rfl (Nat.le_of_ble_eq_true rfl) (fun Γ Q0 hG fin => ?_)
  have hG : okG Γ Δ l (sRm 0 0) cX5_nextChannel "Schedulary$Processes" 3 := hG
  show V Γ Δ 542 false i r 0 0 Q0 0 [(0, .ref (sA Δ 488)), (1, .int (sJ p1))] []
  have jn29 : ∀ (k0j29 : Int), sR k0j29 → s29_X5_nextChannel k0j29 i r Q → V Γ Δ 542 false i r 0 0 Q0 29 [] [.int (sJ k0j29)] := by
    intro k0j29 hk0j29 h
    exact fin dX5_nextChannel_29 hk0j29 rfl hi hw ⟨rfl, rfl, h⟩
  refine V.aload_n (pc := 0) hG dX5_nextChannel_0 rfl 0 rfl ?_
  refine V.getR (x := 503) (pc := 1) (ci := 7) (k := 6) (M := 7) (T := TX5) (o := 488) (kz := 6) hG a_488 a_488.n (by decide) hin_X5 rfl (by decide) (by decide) rfl kw_560 rfl ((hw).1 (488, 6, 503) (by decide)) (by decide) dX5_nextChannel_1 ?_
  refine V.iload_n (pc := 4) hG dX5_nextChannel_4 rfl 1 rfl ?_
  obtain ⟨g1, h⟩ := h
  refine V.iald (pc := 5) (z := 4) (o := 503) hG a_503 a_503.n hp1 g1 dX5_nextChannel_5 ?_
  refine V.istore_n (pc := 6) (lv' := [(2, .int (sJ (i 503 p1))), (0, .ref (sA Δ 488)), (1, .int (sJ p1))]) hG dX5_nextChannel_6 rfl (by decide) rfl ?_
  refine V.iload_n (pc := 7) hG dX5_nextChannel_7 rfl 0 rfl ?_
  refine V.aload_n (pc := 8) hG dX5_nextChannel_8 rfl 1 rfl ?_
  refine V.getR (x := 499) (pc := 9) (ci := 7) (k := 2) (M := 7) (T := TX5) (o := 488) (kz := 2) hG a_488 a_488.n (by decide) hin_X5 rfl (by decide) (by decide) rfl kw_554 rfl ((hw).1 (488, 2, 499) (by decide)) (by decide) dX5_nextChannel_9 ?_
  refine V.iload_n (pc := 12) hG dX5_nextChannel_12 rfl 2 rfl ?_
  obtain ⟨g2, h⟩ := h
  refine V.iald (pc := 13) (z := 4) (o := 499) hG a_499 a_499.n hp1 g2 dX5_nextChannel_13 ?_
  obtain ⟨t4, f5⟩ := h
  refine V.icmp_ge (pc := 14) (tgt := 28) hG ((hi _ _)) ((hi _ _)) dX5_nextChannel_14 (by decide) (fun c3 => ?_) (fun c3 => ?_)
  · have h := t4 c3
    clear t4 f5
    refine V.iconst (pc := 28) hG dX5_nextChannel_28 ?_
    refine V.pick [] rfl ?_
    exact jn29 (-1) ((sR_l rfl)) h
  · have h := f5 c3
    clear t4 f5
    refine V.aload_n (pc := 17) hG dX5_nextChannel_17 rfl 1 rfl ?_
    refine V.getR (x := 489) (pc := 18) (ci := 7) (k := 0) (M := 7) (T := TX5) (o := 488) (kz := 0) hG a_488 a_488.n (by decide) hin_X5 rfl (by decide) (by decide) rfl kw_552 rfl ((hw).1 (488, 0, 489) (by decide)) (by decide) dX5_nextChannel_18 ?_
    refine V.iload_n (pc := 21) hG dX5_nextChannel_21 rfl 2 rfl ?_
    obtain ⟨g6, h⟩ := h
    refine V.aald (pc := 22) 7 (z := 4) (o := 489) (x := p1) (y := 490 + p1) hG a_489 a_489.n (by decide) hp1 g6 (hw.2.1 (489, 4, 490) (by decide) _ g6.1 g6.2) (by omega) dX5_nextChannel_22 ?_
    refine V.iload_n (pc := 23) hG dX5_nextChannel_23 rfl 0 rfl ?_
    obtain ⟨g7, h⟩ := h
    refine V.iald (pc := 24) (z := 16) (o := 490 + p1) hG (row_489 g6) ((row_489 g6)).n ((hi _ _)) g7 dX5_nextChannel_24 ?_
    refine V.goto (pc := 25) (tgt := 29) hG dX5_nextChannel_25 (by decide) ?_
    refine V.pick [] rfl ?_
    exact jn29 (i (490 + p1) (i 503 p1)) ((hi _ _)) h
set_option maxRecDepth 100000 in
set_option maxHeartbeats 4000000 in
theorem sm_X11_waitsFor (l : Launch) (Δ : Wd) {i r : MI} {p1 : Int} (hp1 : sR p1) {Q : Int → MI → Prop} {X : String → MI → Prop} (hst : l.stackTraces = false) (hi : okI i) (hw : Wf r) (h : wp_X11_waitsFor p1 i r Q X) : vx_Met l yX11_waitsFor (Cond.code yX11_waitsFor cX11_waitsFor 2 (some .int) :: gW) (sRx 6 82 1 6) (sPc Δ [.ref (sA Δ 0), .int (sJ p1)] i r) (sQi Δ (fun x i' r' => r = r' ∧ Q x i')) (sX Δ (fun E i' r' => r = r' ∧ X E i')) 1 6 (sFr Δ) := by
  refine Cx.i (ty := .int) (by decide) rfl (Nat.le_of_ble_eq_true rfl) hst (by decide) (by decide) (fun Γ Q0 hG fin xout xthr => ?_)
  have hG : okG Γ Δ l (sRx 6 82 1 6) cX11_waitsFor "Schedulary" 2 := hG
  show V Γ Δ 542 false i r 0 0 Q0 0 [(0, .ref (sA Δ 0)), (1, .int (sJ p1))] []
  refine V.iload_n (pc := 0) hG dX11_waitsFor_0 rfl 1 rfl ?_
  refine V.iconst (pc := 1) hG dX11_waitsFor_1 ?_
  refine V.iconst (pc := 2) hG dX11_waitsFor_2 ?_
  refine V.callSi (pc := 3) (As := [.int (sJ p1), .int (sJ 0), .int (sJ 3)]) (stk := []) hG (sm_X11_isWithin l Δ hp1 ((sR_l rfl)) ((sR_l rfl)) hi hw h) mY_X11_isWithin kw_1415 kw_1031 ⟨Nat.le_of_ble_eq_true rfl, Nat.le_of_ble_eq_true rfl, Nat.le_of_ble_eq_true rfl, Nat.le_of_ble_eq_true rfl⟩ rfl (Nat.le_of_ble_eq_true rfl) dX11_waitsFor_3 rfl (fun v1 i2 r3 hv4 hi5 hw6 hq7 => ?_)
  obtain ⟨e29, e30, h⟩ := hq7
  subst e29
  subst e30
  obtain ⟨f10, t9⟩ := h
  refine V.if_ne (pc := 6) (tgt := 20) hG hv4 dX11_waitsFor_6 (by decide) (fun c8 => ?_) (fun c8 => ?_)
  · have h := t9 c8
    clear t9 f10
    refine V.aload_n (pc := 20) hG dX11_waitsFor_20 rfl 0 rfl ?_
    refine V.getR (x := 488) (pc := 21) (ci := 13) (k := 8) (M := 11) (T := TX11) (o := 0) (kz := 8) hG a_0 a_0.n (by decide) hin_X11 rfl (by decide) (by decide) rfl kw_584 rfl ((hw).1 (0, 8, 488) (by decide)) (by decide) dX11_waitsFor_21 ?_
    refine V.callVNv (pc := 24) (As := []) (stk := []) hG (sm_X5_goWithTheirDepths l Δ  hi hw h) mY_X5_goWithTheirDepths kw_1183 kw_1185 kw_86 a_488 (by decide) (q := (RX5, TX5, 7)) rfl rfl ⟨Nat.le_of_ble_eq_true rfl, Nat.le_of_ble_eq_true rfl, Nat.le_of_ble_eq_true rfl, Nat.le_of_ble_eq_true rfl⟩ rfl (Nat.le_of_ble_eq_true rfl) dX11_waitsFor_24 rfl (fun i12 r13 hi15 hw16 hq17 => ?_)
    obtain ⟨e28, h⟩ := hq17
    subst e28
    refine V.aload_n (pc := 27) hG dX11_waitsFor_27 rfl 0 rfl ?_
    refine V.getR (x := 488) (pc := 28) (ci := 13) (k := 8) (M := 11) (T := TX11) (o := 0) (kz := 8) hG a_0 a_0.n (by decide) hin_X11 rfl (by decide) (by decide) rfl kw_584 rfl ((hw).1 (0, 8, 488) (by decide)) (by decide) dX11_waitsFor_28 ?_
    refine V.iload_n (pc := 31) hG dX11_waitsFor_31 rfl 1 rfl ?_
    refine V.callVNi (pc := 32) (As := [.int (sJ p1)]) (stk := []) hG (sm_X5_nextChannel l Δ hp1 hi15 hw h) mY_X5_nextChannel kw_1637 kw_1639 kw_104 a_488 (by decide) (q := (RX5, TX5, 7)) rfl rfl ⟨Nat.le_of_ble_eq_true rfl, Nat.le_of_ble_eq_true rfl, Nat.le_of_ble_eq_true rfl, Nat.le_of_ble_eq_true rfl⟩ rfl (Nat.le_of_ble_eq_true rfl) dX11_waitsFor_32 rfl (fun v18 i19 r20 hv21 hi22 hw23 hq24 => ?_)
    obtain ⟨e25, e26, h⟩ := hq24
    subst e25
    subst e26
    exact fin dX11_waitsFor_35 hv21 rfl (by decide) (by decide) hi15 hw ⟨rfl, h⟩
  · have h := f10 c8
    clear t9 f10
    exact xthr ⟨88, 347, 92, "no such process", by decide, kw_1255, kw_180, by decide, .inl th_92, dX11_waitsFor_9, dX11_waitsFor_12, Or.inr ⟨dX11_waitsFor_13, dX11_waitsFor_16, dX11_waitsFor_19⟩⟩ (by decide) (by decide) hi hw ⟨rfl, h⟩
set_option maxRecDepth 100000 in
set_option maxHeartbeats 4000000 in
theorem sm_X5_isSomeLeft (l : Launch) (Δ : Wd) {i r : MI}   {Q : Int → Prop} (hi : okI i) (hw : Wf r) (h : wp_X5_isSomeLeft  i r Q) : Met l yX5_isSomeLeft (Cond.code yX5_isSomeLeft cX5_isSomeLeft 2 (some .boolean) :: gW) (sRm 0 0) (sPc Δ [.ref (sA Δ 488)] i r) (sQi Δ (fun x i' r' => i = i' ∧ r = r' ∧ Q x)) 0 0 (sFr Δ) := by
  refine Ct.i (ty := .boolean) (by decide) rfl (Nat.le_of_ble_eq_true rfl) (fun Γ Q0 hG fin => ?_)
  have hG : okG Γ Δ l (sRm 0 0) cX5_isSomeLeft "Schedulary$Processes" 2 := hG
  show V Γ Δ 542 false i r 0 0 Q0 0 [(0, .ref (sA Δ 488))] []
  refine V.iconst (pc := 0) hG dX5_isSomeLeft_0 ?_
  refine V.istore_n (pc := 1) (lv' := [(1, .int (sJ 0)), (0, .ref (sA Δ 488))]) hG dX5_isSomeLeft_1 rfl (by decide) rfl ?_
  obtain ⟨n9, h⟩ := h
  have lp2 : ∀ (m2 : Nat) (x1_2 : Int), sR x1_2 → LoopP (b2_X5_isSomeLeft i r Q) m2 (x1_2) → V Γ Δ 542 false i r 0 0 Q0 2 [(0, .ref (sA Δ 488)), (1, .int (sJ x1_2))] [] := by
    intro m2
    induction m2 with
    | zero => intro x1_2 hx1_2 h; exact h.elim
    | succ m2 ih2 =>
      intro x1_2 hx1_2 h
      have h := LoopP_succ h
      refine V.iload_n (pc := 2) hG dX5_isSomeLeft_2 rfl 1 rfl ?_
      refine V.iconst (pc := 3) hG dX5_isSomeLeft_3 ?_
      obtain ⟨t11, f12⟩ := h
      refine V.icmp_ge (pc := 4) (tgt := 30) hG hx1_2 ((sR_l rfl)) dX5_isSomeLeft_4 (by decide) (fun c10 => ?_) (fun c10 => ?_)
      · have h := t11 c10
        clear t11 f12
        refine V.iconst (pc := 30) hG dX5_isSomeLeft_30 ?_
        exact fin dX5_isSomeLeft_31 ((sR_l rfl)) (nar_z (by decide)) hi hw ⟨rfl, rfl, h⟩
      · have h := f12 c10
        clear t11 f12
        refine V.aload_n (pc := 7) hG dX5_isSomeLeft_7 rfl 0 rfl ?_
        refine V.getR (x := 503) (pc := 8) (ci := 7) (k := 6) (M := 7) (T := TX5) (o := 488) (kz := 6) hG a_488 a_488.n (by decide) hin_X5 rfl (by decide) (by decide) rfl kw_560 rfl ((hw).1 (488, 6, 503) (by decide)) (by decide) dX5_isSomeLeft_8 ?_
        refine V.iload_n (pc := 11) hG dX5_isSomeLeft_11 rfl 1 rfl ?_
        obtain ⟨g13, h⟩ := h
        refine V.iald (pc := 12) (z := 4) (o := 503) hG a_503 a_503.n hx1_2 g13 dX5_isSomeLeft_12 ?_
        refine V.aload_n (pc := 13) hG dX5_isSomeLeft_13 rfl 0 rfl ?_
        refine V.getR (x := 499) (pc := 14) (ci := 7) (k := 2) (M := 7) (T := TX5) (o := 488) (kz := 2) hG a_488 a_488.n (by decide) hin_X5 rfl (by decide) (by decide) rfl kw_554 rfl ((hw).1 (488, 2, 499) (by decide)) (by decide) dX5_isSomeLeft_14 ?_
        refine V.iload_n (pc := 17) hG dX5_isSomeLeft_17 rfl 1 rfl ?_
        obtain ⟨g14, h⟩ := h
        refine V.iald (pc := 18) (z := 4) (o := 499) hG a_499 a_499.n hx1_2 g14 dX5_isSomeLeft_18 ?_
        obtain ⟨t16, f17⟩ := h
        refine V.icmp_ge (pc := 19) (tgt := 24) hG ((hi _ _)) ((hi _ _)) dX5_isSomeLeft_19 (by decide) (fun c15 => ?_) (fun c15 => ?_)
        · have h := t16 c15
          clear t16 f17
          refine V.iinc (pc := 24) (lv' := [(1, .int (sJ (wr (x1_2 + 1)))), (0, .ref (sA Δ 488))]) hG dX5_isSomeLeft_24 1 rfl (by decide) rfl ?_
          refine V.goto (pc := 27) (tgt := 2) hG dX5_isSomeLeft_27 (by decide) ?_
          refine V.pick [1, 0] rfl ?_
          exact ih2 (wr (x1_2 + 1)) ((sR_wr _)) h
        · have h := f17 c15
          clear t16 f17
          refine V.iconst (pc := 22) hG dX5_isSomeLeft_22 ?_
          exact fin dX5_isSomeLeft_23 ((sR_l rfl)) (nar_z (by decide)) hi hw ⟨rfl, rfl, h⟩
  refine V.pick [1, 0] rfl ?_
  exact lp2 n9 0 ((sR_l rfl)) h
set_option maxRecDepth 100000 in
set_option maxHeartbeats 4000000 in
theorem sm_X11_areLocked (l : Launch) (Δ : Wd) {i r : MI}   {Q : Int → MI → Prop} (hi : okI i) (hw : Wf r) (h : wp_X11_areLocked  i r Q) : Met l yX11_areLocked (Cond.code yX11_areLocked cX11_areLocked 1 (some .boolean) :: gW) (sRm 3 69) (sPc Δ [.ref (sA Δ 0)] i r) (sQi Δ (fun x i' r' => r = r' ∧ Q x i')) 0 0 (sFr Δ) := by
  refine Ct.i (ty := .boolean) (by decide) rfl (Nat.le_of_ble_eq_true rfl) (fun Γ Q0 hG fin => ?_)
  have hG : okG Γ Δ l (sRm 3 69) cX11_areLocked "Schedulary" 1 := hG
  show V Γ Δ 542 false i r 0 0 Q0 0 [(0, .ref (sA Δ 0))] []
  refine V.aload_n (pc := 0) hG dX11_areLocked_0 rfl 0 rfl ?_
  refine V.getR (x := 488) (pc := 1) (ci := 13) (k := 8) (M := 11) (T := TX11) (o := 0) (kz := 8) hG a_0 a_0.n (by decide) hin_X11 rfl (by decide) (by decide) rfl kw_584 rfl ((hw).1 (0, 8, 488) (by decide)) (by decide) dX11_areLocked_1 ?_
  refine V.callVNv (pc := 4) (As := []) (stk := []) hG (sm_X5_goWithTheirDepths l Δ  hi hw h) mY_X5_goWithTheirDepths kw_1183 kw_1185 kw_86 a_488 (by decide) (q := (RX5, TX5, 7)) rfl rfl ⟨Nat.le_of_ble_eq_true rfl, Nat.le_of_ble_eq_true rfl, Nat.le_of_ble_eq_true rfl, Nat.le_of_ble_eq_true rfl⟩ rfl (Nat.le_of_ble_eq_true rfl) dX11_areLocked_4 rfl (fun i2 r3 hi5 hw6 hq7 => ?_)
  obtain ⟨e19, h⟩ := hq7
  subst e19
  refine V.aload_n (pc := 7) hG dX11_areLocked_7 rfl 0 rfl ?_
  refine V.getR (x := 488) (pc := 8) (ci := 13) (k := 8) (M := 11) (T := TX11) (o := 0) (kz := 8) hG a_0 a_0.n (by decide) hin_X11 rfl (by decide) (by decide) rfl kw_584 rfl ((hw).1 (0, 8, 488) (by decide)) (by decide) dX11_areLocked_8 ?_
  refine V.callVNi (pc := 11) (As := []) (stk := []) hG (sm_X5_isSomeLeft l Δ  hi5 hw h) mY_X5_isSomeLeft kw_1203 kw_1205 kw_90 a_488 (by decide) (q := (RX5, TX5, 7)) rfl rfl ⟨Nat.le_of_ble_eq_true rfl, Nat.le_of_ble_eq_true rfl, Nat.le_of_ble_eq_true rfl, Nat.le_of_ble_eq_true rfl⟩ rfl (Nat.le_of_ble_eq_true rfl) dX11_areLocked_11 rfl (fun v8 i9 r10 hv11 hi12 hw13 hq14 => ?_)
  obtain ⟨e16, e17, h⟩ := hq14
  subst e16
  subst e17
  obtain ⟨g15, h⟩ := h
  exact fin dX11_areLocked_14 hv11 (nar_z g15) hi5 hw ⟨rfl, h⟩
set_option maxRecDepth 100000 in
set_option maxHeartbeats 4000000 in
theorem sm_X5_findLeastDepth (l : Launch) (Δ : Wd) {i r : MI}   {Q : Int → MI → Prop} (hi : okI i) (hw : Wf r) (h : wp_X5_findLeastDepth  i r Q) : Met l yX5_findLeastDepth (Cond.code yX5_findLeastDepth cX5_findLeastDepth 3 (some .int) :: gW) (sRm 2 48) (sPc Δ [.ref (sA Δ 488)] i r) (sQi Δ (fun x i' r' => r = r' ∧ Q x i')) 0 0 (sFr Δ) := by
  refine Ct.i (ty := .int) (by decide) rfl (Nat.le_of_ble_eq_true rfl) (fun Γ Q0 hG fin => ?_)
  have hG : okG Γ Δ l (sRm 2 48) cX5_findLeastDepth "Schedulary$Processes" 3 := hG
  show V Γ Δ 542 false i r 0 0 Q0 0 [(0, .ref (sA Δ 488))] []
  refine V.iconst (pc := 0) hG dX5_findLeastDepth_0 ?_
  refine V.istore_n (pc := 1) (lv' := [(1, .int (sJ 1)), (0, .ref (sA Δ 488))]) hG dX5_findLeastDepth_1 rfl (by decide) rfl ?_
  obtain ⟨n55, h⟩ := h
  have lp2 : ∀ (m2 : Nat) (x1_2 : Int) (i_2 : MI), sR x1_2 → okI i_2 → LoopP (b2_X5_findLeastDepth r Q) m2 (x1_2, i_2) → V Γ Δ 542 false i_2 r 0 0 Q0 2 [(0, .ref (sA Δ 488)), (1, .int (sJ x1_2))] [] := by
    intro m2
    induction m2 with
    | zero => intro x1_2 i_2 hx1_2 hi_2 h; exact h.elim
    | succ m2 ih2 =>
      intro x1_2 i_2 hx1_2 hi_2 h
      have h := LoopP_succ h
      refine V.iload_n (pc := 2) hG dX5_findLeastDepth_2 rfl 1 rfl ?_
      refine V.bipush (pc := 3) hG dX5_findLeastDepth_3 (by decide) ?_
      obtain ⟨t57, f58⟩ := h
      refine V.icmp_gt (pc := 5) (tgt := 47) hG hx1_2 ((sR_l rfl)) dX5_findLeastDepth_5 (by decide) (fun c56 => ?_) (fun c56 => ?_)
      · have h := t57 c56
        clear t57 f58
        refine V.iconst (pc := 47) hG dX5_findLeastDepth_47 ?_
        exact fin dX5_findLeastDepth_48 ((sR_l rfl)) rfl hi_2 hw ⟨rfl, h⟩
      · have h := f58 c56
        clear t57 f58
        refine V.iconst (pc := 8) hG dX5_findLeastDepth_8 ?_
        refine V.istore_n (pc := 9) (lv' := [(2, .int (sJ 0)), (0, .ref (sA Δ 488)), (1, .int (sJ x1_2))]) hG dX5_findLeastDepth_9 rfl (by decide) rfl ?_
        obtain ⟨n59, h⟩ := h
        have lp10 : ∀ (m10 : Nat) (x2_10 : Int) (i_10 : MI), sR x2_10 → okI i_10 → LoopP (b10_X5_findLeastDepth x1_2 r Q (LoopP (b2_X5_findLeastDepth r Q) m2)) m10 (x2_10, i_10) → V Γ Δ 542 false i_10 r 0 0 Q0 10 [(0, .ref (sA Δ 488)), (1, .int (sJ x1_2)), (2, .int (sJ x2_10))] [] := by
          intro m10
          induction m10 with
          | zero => intro x2_10 i_10 hx2_10 hi_10 h; exact h.elim
          | succ m10 ih10 =>
            intro x2_10 i_10 hx2_10 hi_10 h
            have h := LoopP_succ h
            refine V.iload_n (pc := 10) hG dX5_findLeastDepth_10 rfl 2 rfl ?_
            refine V.iconst (pc := 11) hG dX5_findLeastDepth_11 ?_
            obtain ⟨t61, f62⟩ := h
            refine V.icmp_ge (pc := 12) (tgt := 28) hG hx2_10 ((sR_l rfl)) dX5_findLeastDepth_12 (by decide) (fun c60 => ?_) (fun c60 => ?_)
            · have h := t61 c60
              clear t61 f62
              refine V.aload_n (pc := 28) hG dX5_findLeastDepth_28 rfl 0 rfl ?_
              refine V.callVv (pc := 29) (As := []) (stk := []) hG (sm_X5_go l Δ  hi_10 hw h) mY_X5_go kw_1187 kw_1189 kw_87 a_488 (by decide) (q := (RX5, TX5, 7)) rfl rfl ⟨Nat.le_of_ble_eq_true rfl, Nat.le_of_ble_eq_true rfl, Nat.le_of_ble_eq_true rfl, Nat.le_of_ble_eq_true rfl⟩ rfl (Nat.le_of_ble_eq_true rfl) dX5_findLeastDepth_29 rfl (fun i64 r65 hi67 hw68 hq69 => ?_)
              obtain ⟨e83, h⟩ := hq69
              subst e83
              refine V.aload_n (pc := 32) hG dX5_findLeastDepth_32 rfl 0 rfl ?_
              refine V.callVi (pc := 33) (As := []) (stk := []) hG (sm_X5_isSomeLeft l Δ  hi67 hw h) mY_X5_isSomeLeft kw_1652 kw_1205 kw_90 a_488 (by decide) (q := (RX5, TX5, 7)) rfl rfl ⟨Nat.le_of_ble_eq_true rfl, Nat.le_of_ble_eq_true rfl, Nat.le_of_ble_eq_true rfl, Nat.le_of_ble_eq_true rfl⟩ rfl (Nat.le_of_ble_eq_true rfl) dX5_findLeastDepth_33 rfl (fun v70 i71 r72 hv73 hi74 hw75 hq76 => ?_)
              obtain ⟨e80, e81, h⟩ := hq76
              subst e80
              subst e81
              obtain ⟨f79, t78⟩ := h
              refine V.if_ne (pc := 36) (tgt := 41) hG hv73 dX5_findLeastDepth_36 (by decide) (fun c77 => ?_) (fun c77 => ?_)
              · have h := t78 c77
                clear t78 f79
                refine V.iinc (pc := 41) (lv' := [(1, .int (sJ (wr (x1_2 + 1)))), (0, .ref (sA Δ 488)), (2, .int (sJ x2_10))]) hG dX5_findLeastDepth_41 1 rfl (by decide) rfl ?_
                refine V.goto (pc := 44) (tgt := 2) hG dX5_findLeastDepth_44 (by decide) ?_
                refine V.pick [1, 0] rfl ?_
                exact ih2 (wr (x1_2 + 1)) i64 ((sR_wr _)) hi67 h
              · have h := f79 c77
                clear t78 f79
                refine V.iload_n (pc := 39) hG dX5_findLeastDepth_39 rfl 1 rfl ?_
                exact fin dX5_findLeastDepth_40 hx1_2 rfl hi67 hw ⟨rfl, h⟩
            · have h := f62 c60
              clear t61 f62
              refine V.aload_n (pc := 15) hG dX5_findLeastDepth_15 rfl 0 rfl ?_
              refine V.getR (x := 501) (pc := 16) (ci := 7) (k := 4) (M := 7) (T := TX5) (o := 488) (kz := 4) hG a_488 a_488.n (by decide) hin_X5 rfl (by decide) (by decide) rfl kw_558 rfl ((hw).1 (488, 4, 501) (by decide)) (by decide) dX5_findLeastDepth_16 ?_
              refine V.iload_n (pc := 19) hG dX5_findLeastDepth_19 rfl 2 rfl ?_
              refine V.iload_n (pc := 20) hG dX5_findLeastDepth_20 rfl 1 rfl ?_
              obtain ⟨g84, h⟩ := h
              refine V.iast (pc := 21) (z := 4) (o := 501) hG a_501 a_501.n hx2_10 g84 dX5_findLeastDepth_21 ?_
              refine V.iinc (pc := 22) (lv' := [(2, .int (sJ (wr (x2_10 + 1)))), (0, .ref (sA Δ 488)), (1, .int (sJ x1_2))]) hG dX5_findLeastDepth_22 2 rfl (by decide) rfl ?_
              refine V.goto (pc := 25) (tgt := 10) hG dX5_findLeastDepth_25 (by decide) ?_
              refine V.pick [1, 2, 0] rfl ?_
              exact ih10 (wr (x2_10 + 1)) (st i_10 501 x2_10 x1_2) ((sR_wr _)) ((okI_st hi_10 hx1_2)) h
        refine V.pick [1, 2, 0] rfl ?_
        exact lp10 n59 0 i_2 ((sR_l rfl)) hi_2 h
  refine V.pick [1, 0] rfl ?_
  exact lp2 n55 1 i ((sR_l rfl)) hi h
set_option maxRecDepth 100000 in
set_option maxHeartbeats 4000000 in
theorem sm_X11_leastDepth (l : Launch) (Δ : Wd) {i r : MI}   {Q : Int → MI → Prop} {X : String → MI → Prop} (hst : l.stackTraces = false) (hi : okI i) (hw : Wf r) (h : wp_X11_leastDepth  i r Q X) : vx_Met l yX11_leastDepth (Cond.code yX11_leastDepth cX11_leastDepth 2 (some .int) :: gW) (sRx 6 82 1 6) (sPc Δ [.ref (sA Δ 0)] i r) (sQi Δ (fun x i' r' => r = r' ∧ Q x i')) (sX Δ (fun E i' r' => r = r' ∧ X E i')) 1 6 (sFr Δ) := by
  refine Cx.i (ty := .int) (by decide) rfl (Nat.le_of_ble_eq_true rfl) hst (by decide) (by decide) (fun Γ Q0 hG fin xout xthr => ?_)
  have hG : okG Γ Δ l (sRx 6 82 1 6) cX11_leastDepth "Schedulary" 2 := hG
  show V Γ Δ 542 false i r 0 0 Q0 0 [(0, .ref (sA Δ 0))] []
  refine V.aload_n (pc := 0) hG dX11_leastDepth_0 rfl 0 rfl ?_
  refine V.getR (x := 488) (pc := 1) (ci := 13) (k := 8) (M := 11) (T := TX11) (o := 0) (kz := 8) hG a_0 a_0.n (by decide) hin_X11 rfl (by decide) (by decide) rfl kw_584 rfl ((hw).1 (0, 8, 488) (by decide)) (by decide) dX11_leastDepth_1 ?_
  refine V.callVNi (pc := 4) (As := []) (stk := []) hG (sm_X5_findLeastDepth l Δ  hi hw h) mY_X5_findLeastDepth kw_1648 kw_1650 kw_105 a_488 (by decide) (q := (RX5, TX5, 7)) rfl rfl ⟨Nat.le_of_ble_eq_true rfl, Nat.le_of_ble_eq_true rfl, Nat.le_of_ble_eq_true rfl, Nat.le_of_ble_eq_true rfl⟩ rfl (Nat.le_of_ble_eq_true rfl) dX11_leastDepth_4 rfl (fun v1 i2 r3 hv4 hi5 hw6 hq7 => ?_)
  obtain ⟨e12, h⟩ := hq7
  subst e12
  refine V.istore_n (pc := 7) (lv' := [(1, .int (sJ v1)), (0, .ref (sA Δ 0))]) hG dX11_leastDepth_7 rfl (by decide) rfl ?_
  refine V.iload_n (pc := 8) hG dX11_leastDepth_8 rfl 0 rfl ?_
  refine V.iconst (pc := 9) hG dX11_leastDepth_9 ?_
  obtain ⟨f10, t9⟩ := h
  refine V.icmp_ne (pc := 10) (tgt := 24) hG hv4 ((sR_l rfl)) dX11_leastDepth_10 (by decide) (fun c8 => ?_) (fun c8 => ?_)
  · have h := t9 c8
    clear t9 f10
    refine V.iload_n (pc := 24) hG dX11_leastDepth_24 rfl 0 rfl ?_
    exact fin dX11_leastDepth_25 hv4 rfl (by decide) (by decide) hi5 hw ⟨rfl, h⟩
  · have h := f10 c8
    clear t9 f10
    exact xthr ⟨265, 359, 269, "locked by 16, too", by decide, kw_1550, kw_185, by decide, .inr ⟨13, nz13, nz13_d, th_269⟩, dX11_leastDepth_13, dX11_leastDepth_16, Or.inr ⟨dX11_leastDepth_17, dX11_leastDepth_20, dX11_leastDepth_23⟩⟩ (by decide) (by decide) hi5 hw ⟨rfl, h⟩
set_option maxRecDepth 100000 in
set_option maxHeartbeats 4000000 in
theorem sm_X11_checksum (l : Launch) (Δ : Wd) {i r : MI}   {Q : Int64 → MI → MI → Prop} (hi : okI i) (hw : Wf r) (h : wp_X11_checksum  i r Q) : Met l yX11_checksum (Cond.code yX11_checksum cX11_checksum 4 (some .long) :: gW) (sRm 6 145) (sPc Δ [.ref (sA Δ 0)] i r) (sQl Δ (Q)) 0 0 (sFr Δ) := by
  refine Ct.l (by decide) rfl (Nat.le_of_ble_eq_true rfl) (fun Γ Q0 hG fin => ?_)
  have hG : okG Γ Δ l (sRm 6 145) cX11_checksum "Schedulary" 4 := hG
  show V Γ Δ 542 false i r 0 0 Q0 0 [(0, .ref (sA Δ 0))] []
  refine V.aload_n (pc := 0) hG dX11_checksum_0 rfl 0 rfl ?_
  refine V.iconst (pc := 1) hG dX11_checksum_1 ?_
  refine V.callVv (pc := 2) (As := [.int (sJ 4)]) (stk := []) hG (sm_X11_prepare l Δ ((sR_l rfl)) hi hw h) mY_X11_prepare kw_830 kw_832 kw_26 a_0 (by decide) (q := (RX11, TX11, 11)) rfl rfl ⟨Nat.le_of_ble_eq_true rfl, Nat.le_of_ble_eq_true rfl, Nat.le_of_ble_eq_true rfl, Nat.le_of_ble_eq_true rfl⟩ rfl (Nat.le_of_ble_eq_true rfl) dX11_checksum_2 rfl (fun i2 r3 hi5 hw6 hq7 => ?_)
  have h := hq7
  refine V.lconst (pc := 5) (x := 0) hG dX11_checksum_5 rfl ?_
  refine V.lstore_n (pc := 6) (lv' := [(1, .long 0), (0, .ref (sA Δ 0))]) hG dX11_checksum_6 rfl (by decide) rfl ?_
  refine V.iconst (pc := 7) hG dX11_checksum_7 ?_
  refine V.istore_n (pc := 8) (lv' := [(3, .int (sJ 0)), (1, .long 0), (0, .ref (sA Δ 0))]) hG dX11_checksum_8 rfl (by decide) rfl ?_
  obtain ⟨n13, h⟩ := h
  have lp9 : ∀ (m9 : Nat) (x1_9 : Int64) (x3_9 : Int), sR x3_9 → LoopP (b9_X11_checksum i2 r3 Q) m9 (x1_9, x3_9) → V Γ Δ 542 false i2 r3 0 0 Q0 9 [(0, .ref (sA Δ 0)), (1, .long x1_9), (3, .int (sJ x3_9))] [] := by
    intro m9
    induction m9 with
    | zero => intro x1_9 x3_9 hx3_9 h; exact h.elim
    | succ m9 ih9 =>
      intro x1_9 x3_9 hx3_9 h
      have h := LoopP_succ h
      refine V.iload_n (pc := 9) hG dX11_checksum_9 rfl 2 rfl ?_
      refine V.aload_n (pc := 10) hG dX11_checksum_10 rfl 0 rfl ?_
      refine V.getR (x := 67) (pc := 11) (ci := 13) (k := 3) (M := 11) (T := TX11) (o := 0) (kz := 3) hG a_0 a_0.n (by decide) hin_X11 rfl (by decide) (by decide) rfl kw_579 rfl ((hw6).1 (0, 3, 67) (by decide)) (by decide) dX11_checksum_11 ?_
      refine V.getIN (pc := 14) (ci := 2) (k := 4) (M := 5) (T := TX0) (o := 67) (kz := 4) hG a_67 a_67.n (by decide) hin_X0 rfl (by decide) (by decide) rfl kw_421 rfl dX11_checksum_14 ?_
      obtain ⟨t15, f16⟩ := h
      refine V.icmp_ge (pc := 17) (tgt := 58) hG hx3_9 ((hi5 _ _)) dX11_checksum_17 (by decide) (fun c14 => ?_) (fun c14 => ?_)
      · have h := t15 c14
        clear t15 f16
        refine V.lload_n (pc := 58) hG dX11_checksum_58 rfl 1 rfl ?_
        exact fin dX11_checksum_59 hi5 hw6 h
      · have h := f16 c14
        clear t15 f16
        refine V.lload_n (pc := 20) hG dX11_checksum_20 rfl 1 rfl ?_
        refine V.ldc2 (pc := 21) (x := 31) hG kw_1211 dX11_checksum_21 ?_
        refine V.lmul (pc := 24) hG dX11_checksum_24 ?_
        refine V.aload_n (pc := 25) hG dX11_checksum_25 rfl 0 rfl ?_
        refine V.getR (x := 461) (pc := 26) (ci := 13) (k := 5) (M := 11) (T := TX11) (o := 0) (kz := 5) hG a_0 a_0.n (by decide) hin_X11 rfl (by decide) (by decide) rfl kw_581 rfl ((hw6).1 (0, 5, 461) (by decide)) (by decide) dX11_checksum_26 ?_
        refine V.getRN (x := 464) (pc := 29) (ci := 11) (k := 2) (M := 7) (T := TX9) (o := 461) (kz := 2) hG a_461 a_461.n (by decide) hin_X9 rfl (by decide) (by decide) rfl kw_477 rfl ((hw6).1 (461, 2, 464) (by decide)) (by decide) dX11_checksum_29 ?_
        refine V.iload_n (pc := 32) hG dX11_checksum_32 rfl 2 rfl ?_
        obtain ⟨g17, h⟩ := h
        refine V.iald (pc := 33) (z := 96) (o := 464) hG a_464 a_464.n hx3_9 g17 dX11_checksum_33 ?_
        refine V.i2l (pc := 34) hG dX11_checksum_34 ?_
        refine V.ladd (pc := 35) hG dX11_checksum_35 ?_
        refine V.ldc2 (pc := 36) (x := 7) hG kw_1212 dX11_checksum_36 ?_
        refine V.aload_n (pc := 39) hG dX11_checksum_39 rfl 0 rfl ?_
        refine V.getR (x := 469) (pc := 40) (ci := 13) (k := 6) (M := 11) (T := TX11) (o := 0) (kz := 6) hG a_0 a_0.n (by decide) hin_X11 rfl (by decide) (by decide) rfl kw_582 rfl ((hw6).1 (0, 6, 469) (by decide)) (by decide) dX11_checksum_40 ?_
        refine V.getRN (x := 470) (pc := 43) (ci := 6) (k := 0) (M := 6) (T := TX4) (o := 469) (kz := 0) hG a_469 a_469.n (by decide) hin_X4 rfl (by decide) (by decide) rfl kw_506 rfl ((hw6).1 (469, 0, 470) (by decide)) (by decide) dX11_checksum_43 ?_
        refine V.iload_n (pc := 46) hG dX11_checksum_46 rfl 2 rfl ?_
        obtain ⟨g18, h⟩ := h
        refine V.iald (pc := 47) (z := 96) (o := 470) hG a_470 a_470.n hx3_9 g18 dX11_checksum_47 ?_
        refine V.i2l (pc := 48) hG dX11_checksum_48 ?_
        refine V.lmul (pc := 49) hG dX11_checksum_49 ?_
        refine V.ladd (pc := 50) hG dX11_checksum_50 ?_
        refine V.lstore_n (pc := 51) (lv' := [(1, .long (((x1_9 * 31) + ((sJ (i2 464 x3_9)).toInt64)) + (7 * ((sJ (i2 470 x3_9)).toInt64)))), (0, .ref (sA Δ 0)), (3, .int (sJ x3_9))]) hG dX11_checksum_51 rfl (by decide) rfl ?_
        refine V.iinc (pc := 52) (lv' := [(3, .int (sJ (wr (x3_9 + 1)))), (1, .long (((x1_9 * 31) + ((sJ (i2 464 x3_9)).toInt64)) + (7 * ((sJ (i2 470 x3_9)).toInt64)))), (0, .ref (sA Δ 0))]) hG dX11_checksum_52 2 rfl (by decide) rfl ?_
        refine V.goto (pc := 55) (tgt := 9) hG dX11_checksum_55 (by decide) ?_
        refine V.pick [2, 1, 0] rfl ?_
        exact ih9 (((x1_9 * 31) + ((sJ (i2 464 x3_9)).toInt64)) + (7 * ((sJ (i2 470 x3_9)).toInt64))) (wr (x3_9 + 1)) ((sR_wr _)) h
  refine V.pick [2, 1, 0] rfl ?_
  exact lp9 n13 0 0 ((sR_l rfl)) h
set_option maxRecDepth 100000 in
set_option maxHeartbeats 4000000 in
theorem sm_X11_busyShare (l : Launch) (Δ : Wd) {i r : MI} {p1 : Int} (hp1 : sR p1) {Q : UInt32 → MI → MI → Prop} {X : String → MI → MI → Prop} (hst : l.stackTraces = false) (hi : okI i) (hw : Wf r) (h : wp_X11_busyShare p1 i r Q X) : vx_Met l yX11_busyShare (Cond.code yX11_busyShare cX11_busyShare 4 (some .float) :: gW) (sRx 6 145 1 6) (sPc Δ [.ref (sA Δ 0), .int (sJ p1)] i r) (sQf Δ (Q)) (sX Δ (X)) 1 6 (sFr Δ) := by
  refine Cx.f (by decide) rfl (Nat.le_of_ble_eq_true rfl) hst (by decide) (by decide) (fun Γ Q0 hG fin xout xthr => ?_)
  have hG : okG Γ Δ l (sRx 6 145 1 6) cX11_busyShare "Schedulary" 4 := hG
  show V Γ Δ 542 false i r 0 0 Q0 0 [(0, .ref (sA Δ 0)), (1, .int (sJ p1))] []
  have jn67 : ∀ (k0j67 : UInt32) (ij67 : MI) (rj67 : MI), okI ij67 → Wf rj67 → s67_X11_busyShare k0j67 ij67 rj67 Q X → V Γ Δ 542 false ij67 rj67 0 0 Q0 67 [] [.float k0j67] := by
    intro k0j67 ij67 rj67 hij67 hwj67 h
    exact fin dX11_busyShare_67 (by decide) (by decide) hij67 hwj67 h
  refine V.ldcS (pc := 0) (k := 3) (tx := "amgMN<>") hG (by decide) dX11_busyShare_0 ?_
  refine V.iload_n (pc := 2) hG dX11_busyShare_2 rfl 1 rfl ?_
  refine V.callVSi (pc := 3) (As := [.int (sJ p1)]) (stk := []) hG (sm_J0_indexOf_0f7a4 l Δ (by decide) hp1 hi hw h) mY_J0_indexOf_0f7a4 kw_1254 kw_652 kw_653 (by decide) rfl ⟨Nat.le_of_ble_eq_true rfl, Nat.le_of_ble_eq_true rfl, Nat.le_of_ble_eq_true rfl, Nat.le_of_ble_eq_true rfl⟩ rfl (Nat.le_of_ble_eq_true rfl) dX11_busyShare_3 rfl (fun v1 i2 r3 hv4 hi5 hw6 hq7 => ?_)
  obtain ⟨e26, e27, h⟩ := hq7
  subst e26
  subst e27
  refine V.istore_n (pc := 6) (lv' := [(2, .int (sJ v1)), (0, .ref (sA Δ 0)), (1, .int (sJ p1))]) hG dX11_busyShare_6 rfl (by decide) rfl ?_
  refine V.iload_n (pc := 7) hG dX11_busyShare_7 rfl 0 rfl ?_
  obtain ⟨t9, f10⟩ := h
  refine V.if_ge (pc := 8) (tgt := 22) hG hv4 dX11_busyShare_8 (by decide) (fun c8 => ?_) (fun c8 => ?_)
  · have h := t9 c8
    clear t9 f10
    refine V.aload_n (pc := 22) hG dX11_busyShare_22 rfl 1 rfl ?_
    refine V.iconst (pc := 23) hG dX11_busyShare_23 ?_
    refine V.callVv (pc := 24) (As := [.int (sJ 4)]) (stk := []) hG (sm_X11_prepare l Δ ((sR_l rfl)) hi hw h) mY_X11_prepare kw_830 kw_832 kw_26 a_0 (by decide) (q := (RX11, TX11, 11)) rfl rfl ⟨Nat.le_of_ble_eq_true rfl, Nat.le_of_ble_eq_true rfl, Nat.le_of_ble_eq_true rfl, Nat.le_of_ble_eq_true rfl⟩ rfl (Nat.le_of_ble_eq_true rfl) dX11_busyShare_24 rfl (fun i12 r13 hi15 hw16 hq17 => ?_)
    have h := hq17
    refine V.aload_n (pc := 27) hG dX11_busyShare_27 rfl 1 rfl ?_
    refine V.getR (x := 67) (pc := 28) (ci := 13) (k := 3) (M := 11) (T := TX11) (o := 0) (kz := 3) hG a_0 a_0.n (by decide) hin_X11 rfl (by decide) (by decide) rfl kw_579 rfl ((hw16).1 (0, 3, 67) (by decide)) (by decide) dX11_busyShare_28 ?_
    refine V.getRN (x := 69) (pc := 31) (ci := 2) (k := 1) (M := 5) (T := TX0) (o := 67) (kz := 1) hG a_67 a_67.n (by decide) hin_X0 rfl (by decide) (by decide) rfl kw_411 rfl ((hw16).1 (67, 1, 69) (by decide)) (by decide) dX11_busyShare_31 ?_
    refine V.iload_n (pc := 34) hG dX11_busyShare_34 rfl 0 rfl ?_
    obtain ⟨g18, h⟩ := h
    refine V.iald (pc := 35) (z := 7) (o := 69) hG a_69 a_69.n hv4 g18 dX11_busyShare_35 ?_
    refine V.aload_n (pc := 36) hG dX11_busyShare_36 rfl 1 rfl ?_
    refine V.getR (x := 469) (pc := 37) (ci := 13) (k := 6) (M := 11) (T := TX11) (o := 0) (kz := 6) hG a_0 a_0.n (by decide) hin_X11 rfl (by decide) (by decide) rfl kw_582 rfl ((hw16).1 (0, 6, 469) (by decide)) (by decide) dX11_busyShare_37 ?_
    refine V.getIN (pc := 40) (ci := 6) (k := 5) (M := 6) (T := TX4) (o := 469) (kz := 5) hG a_469 a_469.n (by decide) hin_X4 rfl (by decide) (by decide) rfl kw_515 rfl dX11_busyShare_40 ?_
    refine V.imul (pc := 43) hG dX11_busyShare_43 ?_
    refine V.istore_n (pc := 44) (lv' := [(3, .int (sJ (wr (i12 69 v1 * i12 469 5)))), (2, .int (sJ v1)), (0, .ref (sA Δ 0)), (1, .int (sJ p1))]) hG dX11_busyShare_44 rfl (by decide) rfl ?_
    refine V.iload_n (pc := 45) hG dX11_busyShare_45 rfl 0 rfl ?_
    refine V.iconst (pc := 46) hG dX11_busyShare_46 ?_
    obtain ⟨t20, f21⟩ := h
    refine V.icmp_ge (pc := 47) (tgt := 54) hG ((sR_wr _)) ((sR_l rfl)) dX11_busyShare_47 (by decide) (fun c19 => ?_) (fun c19 => ?_)
    · have h := t20 c19
      clear t20 f21
      refine V.aload_n (pc := 54) hG dX11_busyShare_54 rfl 2 rfl ?_
      refine V.getR (x := 67) (pc := 55) (ci := 13) (k := 3) (M := 11) (T := TX11) (o := 0) (kz := 3) hG a_0 a_0.n (by decide) hin_X11 rfl (by decide) (by decide) rfl kw_579 rfl ((hw16).1 (0, 3, 67) (by decide)) (by decide) dX11_busyShare_55 ?_
      refine V.getRN (x := 71) (pc := 58) (ci := 2) (k := 3) (M := 5) (T := TX0) (o := 67) (kz := 3) hG a_67 a_67.n (by decide) hin_X0 rfl (by decide) (by decide) rfl kw_415 rfl ((hw16).1 (67, 3, 71) (by decide)) (by decide) dX11_busyShare_58 ?_
      refine V.iload_n (pc := 61) hG dX11_busyShare_61 rfl 1 rfl ?_
      obtain ⟨g22, h⟩ := h
      refine V.iald (pc := 62) (z := 7) (o := 71) hG a_71 a_71.n hv4 g22 dX11_busyShare_62 ?_
      refine V.i2f (pc := 63) hG dX11_busyShare_63 ?_
      refine V.iload_n (pc := 64) hG dX11_busyShare_64 rfl 0 rfl ?_
      refine V.i2f (pc := 65) hG dX11_busyShare_65 ?_
      obtain ⟨g23, h⟩ := h
      refine V.fdiv (pc := 66) hG (fdiv_ok ((sR_wr _)) g23) dX11_busyShare_66 ?_
      refine V.pick [] rfl ?_
      exact jn67 (FP.fdiv (FP.i2f (sJ (i12 71 v1))) (FP.i2f (sJ (wr (i12 69 v1 * i12 469 5))))) i12 r13 hi15 hw16 h
    · have h := f21 c19
      clear t20 f21
      refine V.fconst0 (pc := 50) hG dX11_busyShare_50 ?_
      refine V.goto (pc := 51) (tgt := 67) hG dX11_busyShare_51 (by decide) ?_
      refine V.pick [] rfl ?_
      exact jn67 FP.fconst0 i12 r13 hi15 hw16 h
  · have h := f10 c8
    clear t9 f10
    exact xthr ⟨88, 365, 92, "no such kind", by decide, kw_1255, kw_180, by decide, .inl th_92, dX11_busyShare_11, dX11_busyShare_14, Or.inr ⟨dX11_busyShare_15, dX11_busyShare_18, dX11_busyShare_21⟩⟩ (by decide) (by decide) hi hw h
set_option maxRecDepth 100000 in
set_option maxHeartbeats 4000000 in
theorem sm_X11_meanStep (l : Launch) (Δ : Wd) {i r : MI}   {Q : UInt64 → MI → MI → Prop} {X : String → MI → MI → Prop} (hst : l.stackTraces = false) (hi : okI i) (hw : Wf r) (h : wp_X11_meanStep  i r Q X) : vx_Met l yX11_meanStep (Cond.code yX11_meanStep cX11_meanStep 3 (some .double) :: gW) (sRx 6 145 1 6) (sPc Δ [.ref (sA Δ 0)] i r) (sQd Δ (Q)) (sX Δ (X)) 1 6 (sFr Δ) := by
  refine Cx.d (by decide) rfl (Nat.le_of_ble_eq_true rfl) hst (by decide) (by decide) (fun Γ Q0 hG fin xout xthr => ?_)
  have hG : okG Γ Δ l (sRx 6 145 1 6) cX11_meanStep "Schedulary" 3 := hG
  show V Γ Δ 542 false i r 0 0 Q0 0 [(0, .ref (sA Δ 0))] []
  refine V.aload_n (pc := 0) hG dX11_meanStep_0 rfl 0 rfl ?_
  refine V.iconst (pc := 1) hG dX11_meanStep_1 ?_
  refine V.callVv (pc := 2) (As := [.int (sJ 3)]) (stk := []) hG (sm_X11_prepare l Δ ((sR_l rfl)) hi hw h) mY_X11_prepare kw_830 kw_832 kw_26 a_0 (by decide) (q := (RX11, TX11, 11)) rfl rfl ⟨Nat.le_of_ble_eq_true rfl, Nat.le_of_ble_eq_true rfl, Nat.le_of_ble_eq_true rfl, Nat.le_of_ble_eq_true rfl⟩ rfl (Nat.le_of_ble_eq_true rfl) dX11_meanStep_2 rfl (fun i2 r3 hi5 hw6 hq7 => ?_)
  have h := hq7
  refine V.aload_n (pc := 5) hG dX11_meanStep_5 rfl 0 rfl ?_
  refine V.getR (x := 67) (pc := 6) (ci := 13) (k := 3) (M := 11) (T := TX11) (o := 0) (kz := 3) hG a_0 a_0.n (by decide) hin_X11 rfl (by decide) (by decide) rfl kw_579 rfl ((hw6).1 (0, 3, 67) (by decide)) (by decide) dX11_meanStep_6 ?_
  refine V.getIN (pc := 9) (ci := 2) (k := 4) (M := 5) (T := TX0) (o := 67) (kz := 4) hG a_67 a_67.n (by decide) hin_X0 rfl (by decide) (by decide) rfl kw_421 rfl dX11_meanStep_9 ?_
  refine V.iconst (pc := 12) hG dX11_meanStep_12 ?_
  obtain ⟨t9, f10⟩ := h
  refine V.icmp_ge (pc := 13) (tgt := 27) hG ((hi5 _ _)) ((sR_l rfl)) dX11_meanStep_13 (by decide) (fun c8 => ?_) (fun c8 => ?_)
  · have h := t9 c8
    clear t9 f10
    refine V.iconst (pc := 27) hG dX11_meanStep_27 ?_
    refine V.istore_n (pc := 28) (lv' := [(1, .int (sJ 0)), (0, .ref (sA Δ 0))]) hG dX11_meanStep_28 rfl (by decide) rfl ?_
    refine V.iconst (pc := 29) hG dX11_meanStep_29 ?_
    refine V.istore_n (pc := 30) (lv' := [(2, .int (sJ 0)), (1, .int (sJ 0)), (0, .ref (sA Δ 0))]) hG dX11_meanStep_30 rfl (by decide) rfl ?_
    obtain ⟨n16, h⟩ := h
    have lp31 : ∀ (m31 : Nat) (x1_31 : Int) (x2_31 : Int), sR x1_31 → sR x2_31 → LoopP (b31_X11_meanStep i2 r3 Q X) m31 (x1_31, x2_31) → V Γ Δ 542 false i2 r3 0 0 Q0 31 [(0, .ref (sA Δ 0)), (1, .int (sJ x1_31)), (2, .int (sJ x2_31))] [] := by
      intro m31
      induction m31 with
      | zero => intro x1_31 x2_31 hx1_31 hx2_31 h; exact h.elim
      | succ m31 ih31 =>
        intro x1_31 x2_31 hx1_31 hx2_31 h
        have h := LoopP_succ h
        refine V.iload_n (pc := 31) hG dX11_meanStep_31 rfl 2 rfl ?_
        refine V.aload_n (pc := 32) hG dX11_meanStep_32 rfl 0 rfl ?_
        refine V.getR (x := 67) (pc := 33) (ci := 13) (k := 3) (M := 11) (T := TX11) (o := 0) (kz := 3) hG a_0 a_0.n (by decide) hin_X11 rfl (by decide) (by decide) rfl kw_579 rfl ((hw6).1 (0, 3, 67) (by decide)) (by decide) dX11_meanStep_33 ?_
        refine V.getIN (pc := 36) (ci := 2) (k := 4) (M := 5) (T := TX0) (o := 67) (kz := 4) hG a_67 a_67.n (by decide) hin_X0 rfl (by decide) (by decide) rfl kw_421 rfl dX11_meanStep_36 ?_
        obtain ⟨t18, f19⟩ := h
        refine V.icmp_ge (pc := 39) (tgt := 60) hG hx2_31 ((hi5 _ _)) dX11_meanStep_39 (by decide) (fun c17 => ?_) (fun c17 => ?_)
        · have h := t18 c17
          clear t18 f19
          refine V.iload_n (pc := 60) hG dX11_meanStep_60 rfl 1 rfl ?_
          refine V.i2d (pc := 61) hG dX11_meanStep_61 ?_
          refine V.aload_n (pc := 62) hG dX11_meanStep_62 rfl 0 rfl ?_
          refine V.getR (x := 67) (pc := 63) (ci := 13) (k := 3) (M := 11) (T := TX11) (o := 0) (kz := 3) hG a_0 a_0.n (by decide) hin_X11 rfl (by decide) (by decide) rfl kw_579 rfl ((hw6).1 (0, 3, 67) (by decide)) (by decide) dX11_meanStep_63 ?_
          refine V.getIN (pc := 66) (ci := 2) (k := 4) (M := 5) (T := TX0) (o := 67) (kz := 4) hG a_67 a_67.n (by decide) hin_X0 rfl (by decide) (by decide) rfl kw_421 rfl dX11_meanStep_66 ?_
          refine V.i2d (pc := 69) hG dX11_meanStep_69 ?_
          obtain ⟨g20, h⟩ := h
          refine V.ddiv (pc := 70) hG (ddiv_ok ((hi5 _ _)) g20) dX11_meanStep_70 ?_
          exact fin dX11_meanStep_71 (by decide) (by decide) hi5 hw6 h
        · have h := f19 c17
          clear t18 f19
          refine V.iload_n (pc := 42) hG dX11_meanStep_42 rfl 1 rfl ?_
          refine V.aload_n (pc := 43) hG dX11_meanStep_43 rfl 0 rfl ?_
          refine V.getR (x := 461) (pc := 44) (ci := 13) (k := 5) (M := 11) (T := TX11) (o := 0) (kz := 5) hG a_0 a_0.n (by decide) hin_X11 rfl (by decide) (by decide) rfl kw_581 rfl ((hw6).1 (0, 5, 461) (by decide)) (by decide) dX11_meanStep_44 ?_
          refine V.getRN (x := 464) (pc := 47) (ci := 11) (k := 2) (M := 7) (T := TX9) (o := 461) (kz := 2) hG a_461 a_461.n (by decide) hin_X9 rfl (by decide) (by decide) rfl kw_477 rfl ((hw6).1 (461, 2, 464) (by decide)) (by decide) dX11_meanStep_47 ?_
          refine V.iload_n (pc := 50) hG dX11_meanStep_50 rfl 2 rfl ?_
          obtain ⟨g21, h⟩ := h
          refine V.iald (pc := 51) (z := 96) (o := 464) hG a_464 a_464.n hx2_31 g21 dX11_meanStep_51 ?_
          refine V.iadd (pc := 52) hG dX11_meanStep_52 ?_
          refine V.istore_n (pc := 53) (lv' := [(1, .int (sJ (wr (x1_31 + i2 464 x2_31)))), (0, .ref (sA Δ 0)), (2, .int (sJ x2_31))]) hG dX11_meanStep_53 rfl (by decide) rfl ?_
          refine V.iinc (pc := 54) (lv' := [(2, .int (sJ (wr (x2_31 + 1)))), (1, .int (sJ (wr (x1_31 + i2 464 x2_31)))), (0, .ref (sA Δ 0))]) hG dX11_meanStep_54 2 rfl (by decide) rfl ?_
          refine V.goto (pc := 57) (tgt := 31) hG dX11_meanStep_57 (by decide) ?_
          refine V.pick [2, 1, 0] rfl ?_
          exact ih31 (wr (x1_31 + i2 464 x2_31)) (wr (x2_31 + 1)) ((sR_wr _)) ((sR_wr _)) h
    refine V.pick [2, 1, 0] rfl ?_
    exact lp31 n16 0 0 ((sR_l rfl)) ((sR_l rfl)) h
  · have h := f10 c8
    clear t9 f10
    exact xthr ⟨370, 372, 374, "no nodes", by decide, kw_1683, kw_186, by decide, .inl th_374, dX11_meanStep_16, dX11_meanStep_19, Or.inr ⟨dX11_meanStep_20, dX11_meanStep_23, dX11_meanStep_26⟩⟩ (by decide) (by decide) hi5 hw6 h
set_option maxRecDepth 100000 in
set_option maxHeartbeats 4000000 in
theorem sm_X0_countTogether (l : Launch) (Δ : Wd) {i r : MI} {o1 : Int} {p2 : Int} {p3 : Int} (ho1 : isA o1 (20, 96)) (hp2 : sR p2) (hp3 : sR p3) {Q : Int → Prop} (hi : okI i) (hw : Wf r) (h : wp_X0_countTogether o1 p2 p3 i r Q) : Met l yX0_countTogether (Cond.code yX0_countTogether cX0_countTogether 6 (some .int) :: gW) (sRm 1 21) (sPc Δ [.ref (sA Δ 67), .ref (sA Δ o1), .int (sJ p2), .int (sJ p3)] i r) (sQi Δ (fun x i' r' => i = i' ∧ r = r' ∧ Q x)) 0 0 (sFr Δ) := by
  refine Ct.i (ty := .int) (by decide) rfl (Nat.le_of_ble_eq_true rfl) (fun Γ Q0 hG fin => ?_)
  have hG : okG Γ Δ l (sRm 1 21) cX0_countTogether "Schedulary$Body" 6 := hG
  show V Γ Δ 542 false i r 0 0 Q0 0 [(0, .ref (sA Δ 67)), (1, .ref (sA Δ o1)), (2, .int (sJ p2)), (3, .int (sJ p3))] []
  refine V.iconst (pc := 0) hG dX0_countTogether_0 ?_
  refine V.istore (pc := 1) (lv' := [(4, .int (sJ 0)), (0, .ref (sA Δ 67)), (1, .ref (sA Δ o1)), (2, .int (sJ p2)), (3, .int (sJ p3))]) hG dX0_countTogether_1 (by decide) rfl ?_
  refine V.iconst (pc := 3) hG dX0_countTogether_3 ?_
  refine V.istore (pc := 4) (lv' := [(5, .int (sJ 0)), (4, .int (sJ 0)), (0, .ref (sA Δ 67)), (1, .ref (sA Δ o1)), (2, .int (sJ p2)), (3, .int (sJ p3))]) hG dX0_countTogether_4 (by decide) rfl ?_
  obtain ⟨n23, h⟩ := h
  have lp6 : ∀ (m6 : Nat) (x4_6 : Int) (x5_6 : Int), sR x4_6 → sR x5_6 → LoopP (b6_X0_countTogether o1 p2 p3 i r Q) m6 (x4_6, x5_6) → V Γ Δ 542 false i r 0 0 Q0 6 [(0, .ref (sA Δ 67)), (1, .ref (sA Δ o1)), (2, .int (sJ p2)), (3, .int (sJ p3)), (4, .int (sJ x4_6)), (5, .int (sJ x5_6))] [] := by
    intro m6
    induction m6 with
    | zero => intro x4_6 x5_6 hx4_6 hx5_6 h; exact h.elim
    | succ m6 ih6 =>
      intro x4_6 x5_6 hx4_6 hx5_6 h
      have h := LoopP_succ h
      have jn55 : ∀ (x4j55 : Int) (x5j55 : Int), sR x4j55 → sR x5j55 → s55_X0_countTogether o1 p2 p3 x4j55 x5j55 i r Q (LoopP (b6_X0_countTogether o1 p2 p3 i r Q) m6) → V Γ Δ 542 false i r 0 0 Q0 55 [(0, .ref (sA Δ 67)), (1, .ref (sA Δ o1)), (2, .int (sJ p2)), (3, .int (sJ p3)), (4, .int (sJ x4j55)), (5, .int (sJ x5j55))] [] := by
        intro x4j55 x5j55 hx4j55 hx5j55 h
        refine V.iinc (pc := 55) (lv' := [(5, .int (sJ (wr (x5j55 + 1)))), (0, .ref (sA Δ 67)), (1, .ref (sA Δ o1)), (2, .int (sJ p2)), (3, .int (sJ p3)), (4, .int (sJ x4j55))]) hG dX0_countTogether_55 5 rfl (by decide) rfl ?_
        refine V.goto (pc := 58) (tgt := 6) hG dX0_countTogether_58 (by decide) ?_
        refine V.pick [1, 2, 3, 4, 5, 0] rfl ?_
        exact ih6 x4j55 (wr (x5j55 + 1)) hx4j55 ((sR_wr _)) h
      refine V.iload (pc := 6) hG dX0_countTogether_6 5 rfl ?_
      refine V.aload_n (pc := 8) hG dX0_countTogether_8 rfl 0 rfl ?_
      refine V.getI (pc := 9) (ci := 2) (k := 4) (M := 5) (T := TX0) (o := 67) (kz := 4) hG a_67 a_67.n (by decide) hin_X0 rfl (by decide) (by decide) rfl kw_416 rfl dX0_countTogether_9 ?_
      obtain ⟨t25, f26⟩ := h
      refine V.icmp_ge (pc := 12) (tgt := 61) hG hx5_6 ((hi _ _)) dX0_countTogether_12 (by decide) (fun c24 => ?_) (fun c24 => ?_)
      · have h := t25 c24
        clear t25 f26
        refine V.iload (pc := 61) hG dX0_countTogether_61 4 rfl ?_
        exact fin dX0_countTogether_63 hx4_6 rfl hi hw ⟨rfl, rfl, h⟩
      · have h := f26 c24
        clear t25 f26
        refine V.aload_n (pc := 15) hG dX0_countTogether_15 rfl 0 rfl ?_
        refine V.getR (x := 68) (pc := 16) (ci := 2) (k := 0) (M := 5) (T := TX0) (o := 67) (kz := 0) hG a_67 a_67.n (by decide) hin_X0 rfl (by decide) (by decide) rfl kw_402 rfl ((hw).1 (67, 0, 68) (by decide)) (by decide) dX0_countTogether_16 ?_
        refine V.iload (pc := 19) hG dX0_countTogether_19 5 rfl ?_
        obtain ⟨g27, h⟩ := h
        refine V.aald (pc := 21) 6 (z := 96) (o := 68) (x := x5_6) (y := 72 + x5_6) hG a_68 a_68.n (by decide) hx5_6 g27 (hw.2.1 (68, 96, 72) (by decide) _ g27.1 g27.2) (by omega) dX0_countTogether_21 ?_
        refine V.getIN (pc := 22) (ci := 5) (k := 3) (M := 13) (T := TX3) (o := 72 + x5_6) (kz := 3) hG (node_o g27.1 g27.2) ((node_o g27.1 g27.2)).n (by decide) hin_X3 rfl (by decide) (by decide) rfl kw_341 rfl dX0_countTogether_22 ?_
        refine V.aload_n (pc := 25) hG dX0_countTogether_25 rfl 0 rfl ?_
        refine V.getR (x := 68) (pc := 26) (ci := 2) (k := 0) (M := 5) (T := TX0) (o := 67) (kz := 0) hG a_67 a_67.n (by decide) hin_X0 rfl (by decide) (by decide) rfl kw_402 rfl ((hw).1 (67, 0, 68) (by decide)) (by decide) dX0_countTogether_26 ?_
        refine V.iload_n (pc := 29) hG dX0_countTogether_29 rfl 3 rfl ?_
        obtain ⟨g28, h⟩ := h
        refine V.aald (pc := 30) 6 (z := 96) (o := 68) (x := p3) (y := 72 + p3) hG a_68 a_68.n (by decide) hp3 g28 (hw.2.1 (68, 96, 72) (by decide) _ g28.1 g28.2) (by omega) dX0_countTogether_30 ?_
        refine V.getIN (pc := 31) (ci := 5) (k := 3) (M := 13) (T := TX3) (o := 72 + p3) (kz := 3) hG (node_o g28.1 g28.2) ((node_o g28.1 g28.2)).n (by decide) hin_X3 rfl (by decide) (by decide) rfl kw_341 rfl dX0_countTogether_31 ?_
        obtain ⟨f31, t30⟩ := h
        refine V.icmp_ne (pc := 34) (tgt := 55) hG ((hi _ _)) ((hi _ _)) dX0_countTogether_34 (by decide) (fun c29 => ?_) (fun c29 => ?_)
        · have h := t30 c29
          clear t30 f31
          exact jn55 x4_6 x5_6 hx4_6 hx5_6 h
        · have h := f31 c29
          clear t30 f31
          refine V.aload_n (pc := 37) hG dX0_countTogether_37 rfl 1 rfl ?_
          refine V.iload (pc := 38) hG dX0_countTogether_38 5 rfl ?_
          obtain ⟨g32, h⟩ := h
          refine V.iald (pc := 40) (z := 96) (o := o1) hG ho1 ho1.n hx5_6 g32 dX0_countTogether_40 ?_
          refine V.aload_n (pc := 41) hG dX0_countTogether_41 rfl 1 rfl ?_
          refine V.iload_n (pc := 42) hG dX0_countTogether_42 rfl 3 rfl ?_
          obtain ⟨g33, h⟩ := h
          refine V.iald (pc := 43) (z := 96) (o := o1) hG ho1 ho1.n hp3 g33 dX0_countTogether_43 ?_
          refine V.isub (pc := 44) hG dX0_countTogether_44 ?_
          refine V.iload_n (pc := 45) hG dX0_countTogether_45 rfl 2 rfl ?_
          refine V.callSNi (pc := 46) (As := [.int (sJ (wr (i o1 x5_6 - i o1 p3))), .int (sJ p2)]) (stk := []) hG (sm_X11_isDivided l Δ ((sR_wr _)) hp2 hi hw h) mY_X11_isDivided kw_1233 kw_942 ⟨Nat.le_of_ble_eq_true rfl, Nat.le_of_ble_eq_true rfl, Nat.le_of_ble_eq_true rfl, Nat.le_of_ble_eq_true rfl⟩ rfl (Nat.le_of_ble_eq_true rfl) dX0_countTogether_46 rfl (fun v34 i35 r36 hv37 hi38 hw39 hq40 => ?_)
          obtain ⟨e44, e45, h⟩ := hq40
          subst e44
          subst e45
          obtain ⟨t42, f43⟩ := h
          refine V.if_eq (pc := 49) (tgt := 55) hG hv37 dX0_countTogether_49 (by decide) (fun c41 => ?_) (fun c41 => ?_)
          · have h := t42 c41
            clear t42 f43
            exact jn55 x4_6 x5_6 hx4_6 hx5_6 h
          · have h := f43 c41
            clear t42 f43
            refine V.iinc (pc := 52) (lv' := [(4, .int (sJ (wr (x4_6 + 1)))), (0, .ref (sA Δ 67)), (1, .ref (sA Δ o1)), (2, .int (sJ p2)), (3, .int (sJ p3)), (5, .int (sJ x5_6))]) hG dX0_countTogether_52 4 rfl (by decide) rfl ?_
            refine V.pick [1, 2, 3, 4, 0, 5] rfl ?_
            exact jn55 (wr (x4_6 + 1)) x5_6 ((sR_wr _)) hx5_6 h
  refine V.pick [2, 3, 4, 5, 1, 0] rfl ?_
  exact lp6 n23 0 0 ((sR_l rfl)) ((sR_l rfl)) h
set_option maxRecDepth 100000 in
set_option maxHeartbeats 4000000 in
theorem sm_X0_areUnitsKept (l : Launch) (Δ : Wd) {i r : MI} {o1 : Int} {p2 : Int} (ho1 : isA o1 (20, 96)) (hp2 : sR p2) {Q : Int → Prop} (hi : okI i) (hw : Wf r) (h : wp_X0_areUnitsKept o1 p2 i r Q) : Met l yX0_areUnitsKept (Cond.code yX0_areUnitsKept cX0_areUnitsKept 4 (some .boolean) :: gW) (sRm 2 46) (sPc Δ [.ref (sA Δ 67), .ref (sA Δ o1), .int (sJ p2)] i r) (sQi Δ (fun x i' r' => i = i' ∧ r = r' ∧ Q x)) 0 0 (sFr Δ) := by
  refine Ct.i (ty := .boolean) (by decide) rfl (Nat.le_of_ble_eq_true rfl) (fun Γ Q0 hG fin => ?_)
  have hG : okG Γ Δ l (sRm 2 46) cX0_areUnitsKept "Schedulary$Body" 4 := hG
  show V Γ Δ 542 false i r 0 0 Q0 0 [(0, .ref (sA Δ 67)), (1, .ref (sA Δ o1)), (2, .int (sJ p2))] []
  refine V.iconst (pc := 0) hG dX0_areUnitsKept_0 ?_
  refine V.istore_n (pc := 1) (lv' := [(3, .int (sJ 0)), (0, .ref (sA Δ 67)), (1, .ref (sA Δ o1)), (2, .int (sJ p2))]) hG dX0_areUnitsKept_1 rfl (by decide) rfl ?_
  obtain ⟨n18, h⟩ := h
  have lp2 : ∀ (m2 : Nat) (x3_2 : Int), sR x3_2 → LoopP (b2_X0_areUnitsKept o1 p2 i r Q) m2 (x3_2) → V Γ Δ 542 false i r 0 0 Q0 2 [(0, .ref (sA Δ 67)), (1, .ref (sA Δ o1)), (2, .int (sJ p2)), (3, .int (sJ x3_2))] [] := by
    intro m2
    induction m2 with
    | zero => intro x3_2 hx3_2 h; exact h.elim
    | succ m2 ih2 =>
      intro x3_2 hx3_2 h
      have h := LoopP_succ h
      refine V.iload_n (pc := 2) hG dX0_areUnitsKept_2 rfl 3 rfl ?_
      refine V.aload_n (pc := 3) hG dX0_areUnitsKept_3 rfl 0 rfl ?_
      refine V.getI (pc := 4) (ci := 2) (k := 4) (M := 5) (T := TX0) (o := 67) (kz := 4) hG a_67 a_67.n (by decide) hin_X0 rfl (by decide) (by decide) rfl kw_416 rfl dX0_areUnitsKept_4 ?_
      obtain ⟨t20, f21⟩ := h
      refine V.icmp_ge (pc := 7) (tgt := 42) hG hx3_2 ((hi _ _)) dX0_areUnitsKept_7 (by decide) (fun c19 => ?_) (fun c19 => ?_)
      · have h := t20 c19
        clear t20 f21
        refine V.iconst (pc := 42) hG dX0_areUnitsKept_42 ?_
        exact fin dX0_areUnitsKept_43 ((sR_l rfl)) (nar_z (by decide)) hi hw ⟨rfl, rfl, h⟩
      · have h := f21 c19
        clear t20 f21
        refine V.aload_n (pc := 10) hG dX0_areUnitsKept_10 rfl 0 rfl ?_
        refine V.aload_n (pc := 11) hG dX0_areUnitsKept_11 rfl 1 rfl ?_
        refine V.iload_n (pc := 12) hG dX0_areUnitsKept_12 rfl 2 rfl ?_
        refine V.iload_n (pc := 13) hG dX0_areUnitsKept_13 rfl 3 rfl ?_
        refine V.callVi (pc := 14) (As := [.ref (sA Δ o1), .int (sJ p2), .int (sJ x3_2)]) (stk := []) hG (sm_X0_countTogether l Δ ho1 hp2 hx3_2 hi hw h) mY_X0_countTogether kw_1229 kw_1231 kw_94 a_67 (by decide) (q := (RX0, TX0, 5)) rfl rfl ⟨Nat.le_of_ble_eq_true rfl, Nat.le_of_ble_eq_true rfl, Nat.le_of_ble_eq_true rfl, Nat.le_of_ble_eq_true rfl⟩ rfl (Nat.le_of_ble_eq_true rfl) dX0_areUnitsKept_14 rfl (fun v22 i23 r24 hv25 hi26 hw27 hq28 => ?_)
        obtain ⟨e34, e35, h⟩ := hq28
        subst e34
        subst e35
        refine V.aload_n (pc := 17) hG dX0_areUnitsKept_17 rfl 0 rfl ?_
        refine V.getR (x := 69) (pc := 18) (ci := 2) (k := 1) (M := 5) (T := TX0) (o := 67) (kz := 1) hG a_67 a_67.n (by decide) hin_X0 rfl (by decide) (by decide) rfl kw_408 rfl ((hw).1 (67, 1, 69) (by decide)) (by decide) dX0_areUnitsKept_18 ?_
        refine V.aload_n (pc := 21) hG dX0_areUnitsKept_21 rfl 0 rfl ?_
        refine V.getR (x := 68) (pc := 22) (ci := 2) (k := 0) (M := 5) (T := TX0) (o := 67) (kz := 0) hG a_67 a_67.n (by decide) hin_X0 rfl (by decide) (by decide) rfl kw_402 rfl ((hw).1 (67, 0, 68) (by decide)) (by decide) dX0_areUnitsKept_22 ?_
        refine V.iload_n (pc := 25) hG dX0_areUnitsKept_25 rfl 3 rfl ?_
        obtain ⟨g29, h⟩ := h
        refine V.aald (pc := 26) 6 (z := 96) (o := 68) (x := x3_2) (y := 72 + x3_2) hG a_68 a_68.n (by decide) hx3_2 g29 (hw.2.1 (68, 96, 72) (by decide) _ g29.1 g29.2) (by omega) dX0_areUnitsKept_26 ?_
        refine V.getIN (pc := 27) (ci := 5) (k := 3) (M := 13) (T := TX3) (o := 72 + x3_2) (kz := 3) hG (node_o g29.1 g29.2) ((node_o g29.1 g29.2)).n (by decide) hin_X3 rfl (by decide) (by decide) rfl kw_341 rfl dX0_areUnitsKept_27 ?_
        obtain ⟨g30, h⟩ := h
        refine V.iald (pc := 30) (z := 7) (o := 69) hG a_69 a_69.n ((hi _ _)) g30 dX0_areUnitsKept_30 ?_
        obtain ⟨t32, f33⟩ := h
        refine V.icmp_le (pc := 31) (tgt := 36) hG hv25 ((hi _ _)) dX0_areUnitsKept_31 (by decide) (fun c31 => ?_) (fun c31 => ?_)
        · have h := t32 c31
          clear t32 f33
          refine V.iinc (pc := 36) (lv' := [(3, .int (sJ (wr (x3_2 + 1)))), (0, .ref (sA Δ 67)), (1, .ref (sA Δ o1)), (2, .int (sJ p2))]) hG dX0_areUnitsKept_36 3 rfl (by decide) rfl ?_
          refine V.goto (pc := 39) (tgt := 2) hG dX0_areUnitsKept_39 (by decide) ?_
          refine V.pick [1, 2, 3, 0] rfl ?_
          exact ih2 (wr (x3_2 + 1)) ((sR_wr _)) h
        · have h := f33 c31
          clear t32 f33
          refine V.iconst (pc := 34) hG dX0_areUnitsKept_34 ?_
          exact fin dX0_areUnitsKept_35 ((sR_l rfl)) (nar_z (by decide)) hi hw ⟨rfl, rfl, h⟩
  refine V.pick [1, 2, 3, 0] rfl ?_
  exact lp2 n18 0 ((sR_l rfl)) h
set_option maxRecDepth 100000 in
set_option maxHeartbeats 4000000 in
theorem sm_X2_isKept (l : Launch) (Δ : Wd) {i r : MI} {o2 : Int} {p3 : Int} {p4 : Int} (ho2 : isA o2 (20, 96)) (hp3 : sR p3) (hp4 : sR p4) {Q : Int → Prop} (hi : okI i) (hw : Wf r) (h : wp_X2_isKept o2 p3 p4 i r Q) : Met l yX2_isKept (Cond.code yX2_isKept cX2_isKept 9 (some .boolean) :: gW) (sRm 0 0) (sPc Δ [.ref (sA Δ 168), .ref (sA Δ 67), .ref (sA Δ o2), .int (sJ p3), .int (sJ p4)] i r) (sQi Δ (fun x i' r' => i = i' ∧ r = r' ∧ Q x)) 0 0 (sFr Δ) := by
  refine Ct.i (ty := .boolean) (by decide) rfl (Nat.le_of_ble_eq_true rfl) (fun Γ Q0 hG fin => ?_)
  have hG : okG Γ Δ l (sRm 0 0) cX2_isKept "Schedulary$Graph" 9 := hG
  show V Γ Δ 542 false i r 0 0 Q0 0 [(0, .ref (sA Δ 168)), (1, .ref (sA Δ 67)), (2, .ref (sA Δ o2)), (3, .int (sJ p3)), (4, .int (sJ p4))] []
  refine V.iconst (pc := 0) hG dX2_isKept_0 ?_
  refine V.istore (pc := 1) (lv' := [(5, .int (sJ 0)), (0, .ref (sA Δ 168)), (1, .ref (sA Δ 67)), (2, .ref (sA Δ o2)), (3, .int (sJ p3)), (4, .int (sJ p4))]) hG dX2_isKept_1 (by decide) rfl ?_
  obtain ⟨n41, h⟩ := h
  have lp3 : ∀ (m3 : Nat) (x5_3 : Int), sR x5_3 → LoopP (b3_X2_isKept o2 p3 p4 i r Q) m3 (x5_3) → V Γ Δ 542 false i r 0 0 Q0 3 [(0, .ref (sA Δ 168)), (1, .ref (sA Δ 67)), (2, .ref (sA Δ o2)), (3, .int (sJ p3)), (4, .int (sJ p4)), (5, .int (sJ x5_3))] [] := by
    intro m3
    induction m3 with
    | zero => intro x5_3 hx5_3 h; exact h.elim
    | succ m3 ih3 =>
      intro x5_3 hx5_3 h
      have h := LoopP_succ h
      refine V.iload (pc := 3) hG dX2_isKept_3 5 rfl ?_
      refine V.aload_n (pc := 5) hG dX2_isKept_5 rfl 1 rfl ?_
      refine V.getIN (pc := 6) (ci := 2) (k := 4) (M := 5) (T := TX0) (o := 67) (kz := 4) hG a_67 a_67.n (by decide) hin_X0 rfl (by decide) (by decide) rfl kw_420 rfl dX2_isKept_6 ?_
      obtain ⟨t43, f44⟩ := h
      refine V.icmp_ge (pc := 9) (tgt := 99) hG hx5_3 ((hi _ _)) dX2_isKept_9 (by decide) (fun c42 => ?_) (fun c42 => ?_)
      · have h := t43 c42
        clear t43 f44
        refine V.iconst (pc := 99) hG dX2_isKept_99 ?_
        exact fin dX2_isKept_100 ((sR_l rfl)) (nar_z (by decide)) hi hw ⟨rfl, rfl, h⟩
      · have h := f44 c42
        clear t43 f44
        refine V.iconst (pc := 12) hG dX2_isKept_12 ?_
        refine V.istore (pc := 13) (lv' := [(6, .int (sJ 0)), (0, .ref (sA Δ 168)), (1, .ref (sA Δ 67)), (2, .ref (sA Δ o2)), (3, .int (sJ p3)), (4, .int (sJ p4)), (5, .int (sJ x5_3))]) hG dX2_isKept_13 (by decide) rfl ?_
        obtain ⟨n45, h⟩ := h
        have lp15 : ∀ (m15 : Nat) (x6_15 : Int), sR x6_15 → LoopP (b15_X2_isKept o2 p3 p4 x5_3 i r Q (LoopP (b3_X2_isKept o2 p3 p4 i r Q) m3)) m15 (x6_15) → V Γ Δ 542 false i r 0 0 Q0 15 [(0, .ref (sA Δ 168)), (1, .ref (sA Δ 67)), (2, .ref (sA Δ o2)), (3, .int (sJ p3)), (4, .int (sJ p4)), (5, .int (sJ x5_3)), (6, .int (sJ x6_15))] [] := by
          intro m15
          induction m15 with
          | zero => intro x6_15 hx6_15 h; exact h.elim
          | succ m15 ih15 =>
            intro x6_15 hx6_15 h
            have h := LoopP_succ h
            have jn87 : ∀ (x6j87 : Int), sR x6j87 → s87_X2_isKept o2 p3 p4 x5_3 x6j87 i r Q (LoopP (b3_X2_isKept o2 p3 p4 i r Q) m3) (LoopP (b15_X2_isKept o2 p3 p4 x5_3 i r Q (LoopP (b3_X2_isKept o2 p3 p4 i r Q) m3)) m15) → V Γ Δ 542 false i r 0 0 Q0 87 [(0, .ref (sA Δ 168)), (1, .ref (sA Δ 67)), (2, .ref (sA Δ o2)), (3, .int (sJ p3)), (4, .int (sJ p4)), (5, .int (sJ x5_3)), (6, .int (sJ x6j87))] [] := by
              intro x6j87 hx6j87 h
              refine V.iinc (pc := 87) (lv' := [(6, .int (sJ (wr (x6j87 + 1)))), (0, .ref (sA Δ 168)), (1, .ref (sA Δ 67)), (2, .ref (sA Δ o2)), (3, .int (sJ p3)), (4, .int (sJ p4)), (5, .int (sJ x5_3))]) hG dX2_isKept_87 6 rfl (by decide) rfl ?_
              refine V.goto (pc := 90) (tgt := 15) hG dX2_isKept_90 (by decide) ?_
              refine V.pick [1, 2, 3, 4, 5, 6, 0] rfl ?_
              exact ih15 (wr (x6j87 + 1)) ((sR_wr _)) h
            refine V.iload (pc := 15) hG dX2_isKept_15 6 rfl ?_
            refine V.aload_n (pc := 17) hG dX2_isKept_17 rfl 0 rfl ?_
            refine V.getR (x := 460) (pc := 18) (ci := 4) (k := 3) (M := 5) (T := TX2) (o := 168) (kz := 3) hG a_168 a_168.n (by decide) hin_X2 rfl (by decide) (by decide) rfl kw_450 rfl ((hw).1 (168, 3, 460) (by decide)) (by decide) dX2_isKept_18 ?_
            refine V.iload (pc := 21) hG dX2_isKept_21 5 rfl ?_
            obtain ⟨g46, h⟩ := h
            refine V.iald (pc := 23) (z := 96) (o := 460) hG a_460 a_460.n hx5_3 g46 dX2_isKept_23 ?_
            obtain ⟨t48, f49⟩ := h
            refine V.icmp_ge (pc := 24) (tgt := 93) hG hx6_15 ((hi _ _)) dX2_isKept_24 (by decide) (fun c47 => ?_) (fun c47 => ?_)
            · have h := t48 c47
              clear t48 f49
              refine V.iinc (pc := 93) (lv' := [(5, .int (sJ (wr (x5_3 + 1)))), (0, .ref (sA Δ 168)), (1, .ref (sA Δ 67)), (2, .ref (sA Δ o2)), (3, .int (sJ p3)), (4, .int (sJ p4)), (6, .int (sJ x6_15))]) hG dX2_isKept_93 5 rfl (by decide) rfl ?_
              refine V.goto (pc := 96) (tgt := 3) hG dX2_isKept_96 (by decide) ?_
              refine V.pick [1, 2, 3, 4, 5, 0] rfl ?_
              exact ih3 (wr (x5_3 + 1)) ((sR_wr _)) h
            · have h := f49 c47
              clear t48 f49
              refine V.aload_n (pc := 27) hG dX2_isKept_27 rfl 0 rfl ?_
              refine V.getR (x := 266) (pc := 28) (ci := 4) (k := 1) (M := 5) (T := TX2) (o := 168) (kz := 1) hG a_168 a_168.n (by decide) hin_X2 rfl (by decide) (by decide) rfl kw_443 rfl ((hw).1 (168, 1, 266) (by decide)) (by decide) dX2_isKept_28 ?_
              refine V.iload (pc := 31) hG dX2_isKept_31 5 rfl ?_
              obtain ⟨g50, h⟩ := h
              refine V.aald (pc := 33) 7 (z := 96) (o := 266) (x := x5_3) (y := 267 + x5_3) hG a_266 a_266.n (by decide) hx5_3 g50 (hw.2.1 (266, 96, 267) (by decide) _ g50.1 g50.2) (by omega) dX2_isKept_33 ?_
              refine V.iload (pc := 34) hG dX2_isKept_34 6 rfl ?_
              obtain ⟨g51, h⟩ := h
              refine V.iald (pc := 36) (z := 100) (o := 267 + x5_3) hG (row_266 g50) ((row_266 g50)).n hx6_15 g51 dX2_isKept_36 ?_
              refine V.istore (pc := 37) (lv' := [(7, .int (sJ (i (267 + x5_3) x6_15))), (0, .ref (sA Δ 168)), (1, .ref (sA Δ 67)), (2, .ref (sA Δ o2)), (3, .int (sJ p3)), (4, .int (sJ p4)), (5, .int (sJ x5_3)), (6, .int (sJ x6_15))]) hG dX2_isKept_37 (by decide) rfl ?_
              refine V.aload_n (pc := 39) hG dX2_isKept_39 rfl 3 rfl ?_
              refine V.aload_n (pc := 40) hG dX2_isKept_40 rfl 1 rfl ?_
              refine V.getR (x := 169) (pc := 41) (ci := 4) (k := 0) (M := 5) (T := TX2) (o := 168) (kz := 0) hG a_168 a_168.n (by decide) hin_X2 rfl (by decide) (by decide) rfl kw_440 rfl ((hw).1 (168, 0, 169) (by decide)) (by decide) dX2_isKept_41 ?_
              refine V.iload (pc := 44) hG dX2_isKept_44 6 rfl ?_
              obtain ⟨g52, h⟩ := h
              refine V.aald (pc := 46) 7 (z := 96) (o := 169) (x := x5_3) (y := 170 + x5_3) hG a_169 a_169.n (by decide) hx5_3 g52 (hw.2.1 (169, 96, 170) (by decide) _ g52.1 g52.2) (by omega) dX2_isKept_46 ?_
              refine V.iload (pc := 47) hG dX2_isKept_47 7 rfl ?_
              obtain ⟨g53, h⟩ := h
              refine V.iald (pc := 49) (z := 100) (o := 170 + x5_3) hG (row_169 g52) ((row_169 g52)).n hx6_15 g53 dX2_isKept_49 ?_
              obtain ⟨g54, h⟩ := h
              refine V.iald (pc := 50) (z := 96) (o := o2) hG ho2 ho2.n ((hi _ _)) g54 dX2_isKept_50 ?_
              refine V.iload_n (pc := 51) hG dX2_isKept_51 rfl 4 rfl ?_
              refine V.iload (pc := 52) hG dX2_isKept_52 0 rfl ?_
              refine V.imul (pc := 54) hG dX2_isKept_54 ?_
              refine V.iadd (pc := 55) hG dX2_isKept_55 ?_
              refine V.aload_n (pc := 56) hG dX2_isKept_56 rfl 3 rfl ?_
              refine V.iload (pc := 57) hG dX2_isKept_57 6 rfl ?_
              obtain ⟨g55, h⟩ := h
              refine V.iald (pc := 59) (z := 96) (o := o2) hG ho2 ho2.n hx5_3 g55 dX2_isKept_59 ?_
              refine V.isub (pc := 60) hG dX2_isKept_60 ?_
              refine V.istore (pc := 61) (lv' := [(8, .int (sJ (wr (wr (i o2 (i (170 + x5_3) x6_15) + wr (p3 * i (267 + x5_3) x6_15)) - i o2 x5_3)))), (7, .int (sJ (i (267 + x5_3) x6_15))), (0, .ref (sA Δ 168)), (1, .ref (sA Δ 67)), (2, .ref (sA Δ o2)), (3, .int (sJ p3)), (4, .int (sJ p4)), (5, .int (sJ x5_3)), (6, .int (sJ x6_15))]) hG dX2_isKept_61 (by decide) rfl ?_
              refine V.iload (pc := 63) hG dX2_isKept_63 1 rfl ?_
              refine V.iload (pc := 65) hG dX2_isKept_65 6 rfl ?_
              obtain ⟨t57, f58⟩ := h
              refine V.icmp_gt (pc := 67) (tgt := 87) hG ((hi _ _)) hp4 dX2_isKept_67 (by decide) (fun c56 => ?_) (fun c56 => ?_)
              · have h := t57 c56
                clear t57 f58
                refine V.pick [2, 3, 4, 5, 6, 7, 8] rfl ?_
                exact jn87 x6_15 hx6_15 h
              · have h := f58 c56
                clear t57 f58
                refine V.iload (pc := 70) hG dX2_isKept_70 0 rfl ?_
                refine V.aload_n (pc := 72) hG dX2_isKept_72 rfl 2 rfl ?_
                refine V.getR (x := 363) (pc := 73) (ci := 4) (k := 2) (M := 5) (T := TX2) (o := 168) (kz := 2) hG a_168 a_168.n (by decide) hin_X2 rfl (by decide) (by decide) rfl kw_446 rfl ((hw).1 (168, 2, 363) (by decide)) (by decide) dX2_isKept_73 ?_
                refine V.iload (pc := 76) hG dX2_isKept_76 7 rfl ?_
                obtain ⟨g59, h⟩ := h
                refine V.aald (pc := 78) 7 (z := 96) (o := 363) (x := x5_3) (y := 364 + x5_3) hG a_363 a_363.n (by decide) hx5_3 g59 (hw.2.1 (363, 96, 364) (by decide) _ g59.1 g59.2) (by omega) dX2_isKept_78 ?_
                refine V.iload (pc := 79) hG dX2_isKept_79 8 rfl ?_
                obtain ⟨g60, h⟩ := h
                refine V.iald (pc := 81) (z := 100) (o := 364 + x5_3) hG (row_363 g59) ((row_363 g59)).n hx6_15 g60 dX2_isKept_81 ?_
                obtain ⟨t62, f63⟩ := h
                refine V.icmp_ge (pc := 82) (tgt := 87) hG ((sR_wr _)) ((hi _ _)) dX2_isKept_82 (by decide) (fun c61 => ?_) (fun c61 => ?_)
                · have h := t62 c61
                  clear t62 f63
                  refine V.pick [2, 3, 4, 5, 6, 7, 8] rfl ?_
                  exact jn87 x6_15 hx6_15 h
                · have h := f63 c61
                  clear t62 f63
                  refine V.iconst (pc := 85) hG dX2_isKept_85 ?_
                  exact fin dX2_isKept_86 ((sR_l rfl)) (nar_z (by decide)) hi hw ⟨rfl, rfl, h⟩
        refine V.pick [1, 2, 3, 4, 5, 6, 0] rfl ?_
        exact lp15 n45 0 ((sR_l rfl)) h
  refine V.pick [1, 2, 3, 4, 5, 0] rfl ?_
  exact lp3 n41 0 ((sR_l rfl)) h
set_option maxRecDepth 100000 in
set_option maxHeartbeats 4000000 in
theorem sm_X4_isKept (l : Launch) (Δ : Wd) {i r : MI}   {Q : Int → Prop} (hi : okI i) (hw : Wf r) (h : wp_X4_isKept  i r Q) : Met l yX4_isKept (Cond.code yX4_isKept cX4_isKept 3 (some .boolean) :: gW) (sRm 3 69) (sPc Δ [.ref (sA Δ 469), .ref (sA Δ 67), .ref (sA Δ 168)] i r) (sQi Δ (fun x i' r' => i = i' ∧ r = r' ∧ Q x)) 0 0 (sFr Δ) := by
  refine Ct.i (ty := .boolean) (by decide) rfl (Nat.le_of_ble_eq_true rfl) (fun Γ Q0 hG fin => ?_)
  have hG : okG Γ Δ l (sRm 3 69) cX4_isKept "Schedulary$Pace" 3 := hG
  show V Γ Δ 542 false i r 0 0 Q0 0 [(0, .ref (sA Δ 469)), (1, .ref (sA Δ 67)), (2, .ref (sA Δ 168))] []
  have jn38 : ∀ (k0j38 : Int), sR k0j38 → s38_X4_isKept k0j38 i r Q → V Γ Δ 542 false i r 0 0 Q0 38 [] [.int (sJ k0j38)] := by
    intro k0j38 hk0j38 h
    obtain ⟨g2, h⟩ := h
    exact fin dX4_isKept_38 hk0j38 (nar_z g2) hi hw ⟨rfl, rfl, h⟩
  have jn37 : s37_X4_isKept i r Q → V Γ Δ 542 false i r 0 0 Q0 37 [] [] := by
    intro h
    refine V.iconst (pc := 37) hG dX4_isKept_37 ?_
    exact jn38 0 ((sR_l rfl)) h
  refine V.aload_n (pc := 0) hG dX4_isKept_0 rfl 2 rfl ?_
  refine V.aload_n (pc := 1) hG dX4_isKept_1 rfl 1 rfl ?_
  refine V.aload_n (pc := 2) hG dX4_isKept_2 rfl 0 rfl ?_
  refine V.getR (x := 470) (pc := 3) (ci := 6) (k := 0) (M := 6) (T := TX4) (o := 469) (kz := 0) hG a_469 a_469.n (by decide) hin_X4 rfl (by decide) (by decide) rfl kw_504 rfl ((hw).1 (469, 0, 470) (by decide)) (by decide) dX4_isKept_3 ?_
  refine V.aload_n (pc := 6) hG dX4_isKept_6 rfl 0 rfl ?_
  refine V.getI (pc := 7) (ci := 6) (k := 5) (M := 6) (T := TX4) (o := 469) (kz := 5) hG a_469 a_469.n (by decide) hin_X4 rfl (by decide) (by decide) rfl kw_513 rfl dX4_isKept_7 ?_
  refine V.bipush (pc := 10) hG dX4_isKept_10 (by decide) ?_
  refine V.callVNi (pc := 12) (As := [.ref (sA Δ 67), .ref (sA Δ 470), .int (sJ (i 469 5)), .int (sJ 21)]) (stk := []) hG (sm_X2_isKept l Δ a_470 ((hi _ _)) ((sR_l rfl)) hi hw h) mY_X2_isKept kw_1242 kw_1223 kw_92 a_168 (by decide) (q := (RX2, TX2, 5)) rfl rfl ⟨Nat.le_of_ble_eq_true rfl, Nat.le_of_ble_eq_true rfl, Nat.le_of_ble_eq_true rfl, Nat.le_of_ble_eq_true rfl⟩ rfl (Nat.le_of_ble_eq_true rfl) dX4_isKept_12 rfl (fun v3 i4 r5 hv6 hi7 hw8 hq9 => ?_)
  obtain ⟨e25, e26, h⟩ := hq9
  subst e25
  subst e26
  obtain ⟨t11, f12⟩ := h
  refine V.if_eq (pc := 15) (tgt := 37) hG hv6 dX4_isKept_15 (by decide) (fun c10 => ?_) (fun c10 => ?_)
  · have h := t11 c10
    clear t11 f12
    refine V.pick [] rfl ?_
    exact jn37 h
  · have h := f12 c10
    clear t11 f12
    refine V.aload_n (pc := 18) hG dX4_isKept_18 rfl 1 rfl ?_
    refine V.aload_n (pc := 19) hG dX4_isKept_19 rfl 0 rfl ?_
    refine V.getR (x := 470) (pc := 20) (ci := 6) (k := 0) (M := 6) (T := TX4) (o := 469) (kz := 0) hG a_469 a_469.n (by decide) hin_X4 rfl (by decide) (by decide) rfl kw_504 rfl ((hw).1 (469, 0, 470) (by decide)) (by decide) dX4_isKept_20 ?_
    refine V.aload_n (pc := 23) hG dX4_isKept_23 rfl 0 rfl ?_
    refine V.getI (pc := 24) (ci := 6) (k := 5) (M := 6) (T := TX4) (o := 469) (kz := 5) hG a_469 a_469.n (by decide) hin_X4 rfl (by decide) (by decide) rfl kw_513 rfl dX4_isKept_24 ?_
    refine V.callVNi (pc := 27) (As := [.ref (sA Δ 470), .int (sJ (i 469 5))]) (stk := []) hG (sm_X0_areUnitsKept l Δ a_470 ((hi _ _)) hi hw h) mY_X0_areUnitsKept kw_1243 kw_1227 kw_93 a_67 (by decide) (q := (RX0, TX0, 5)) rfl rfl ⟨Nat.le_of_ble_eq_true rfl, Nat.le_of_ble_eq_true rfl, Nat.le_of_ble_eq_true rfl, Nat.le_of_ble_eq_true rfl⟩ rfl (Nat.le_of_ble_eq_true rfl) dX4_isKept_27 rfl (fun v13 i14 r15 hv16 hi17 hw18 hq19 => ?_)
    obtain ⟨e23, e24, h⟩ := hq19
    subst e23
    subst e24
    obtain ⟨t21, f22⟩ := h
    refine V.if_eq (pc := 30) (tgt := 37) hG hv16 dX4_isKept_30 (by decide) (fun c20 => ?_) (fun c20 => ?_)
    · have h := t21 c20
      clear t21 f22
      refine V.pick [] rfl ?_
      exact jn37 h
    · have h := f22 c20
      clear t21 f22
      refine V.iconst (pc := 33) hG dX4_isKept_33 ?_
      refine V.goto (pc := 34) (tgt := 38) hG dX4_isKept_34 (by decide) ?_
      refine V.pick [] rfl ?_
      exact jn38 1 ((sR_l rfl)) h
set_option maxRecDepth 100000 in
set_option maxHeartbeats 4000000 in
theorem sm_X9_areInOrder (l : Launch) (Δ : Wd) {i r : MI}   {Q : Int → Prop} (hi : okI i) (hw : Wf r) (h : wp_X9_areInOrder  i r Q) : Met l yX9_areInOrder (Cond.code yX9_areInOrder cX9_areInOrder 3 (some .boolean) :: gW) (sRm 0 0) (sPc Δ [.ref (sA Δ 461), .ref (sA Δ 67)] i r) (sQi Δ (fun x i' r' => i = i' ∧ r = r' ∧ Q x)) 0 0 (sFr Δ) := by
  refine Ct.i (ty := .boolean) (by decide) rfl (Nat.le_of_ble_eq_true rfl) (fun Γ Q0 hG fin => ?_)
  have hG : okG Γ Δ l (sRm 0 0) cX9_areInOrder "Schedulary$Steps" 3 := hG
  show V Γ Δ 542 false i r 0 0 Q0 0 [(0, .ref (sA Δ 461)), (1, .ref (sA Δ 67))] []
  refine V.iconst (pc := 0) hG dX9_areInOrder_0 ?_
  refine V.istore_n (pc := 1) (lv' := [(2, .int (sJ 0)), (0, .ref (sA Δ 461)), (1, .ref (sA Δ 67))]) hG dX9_areInOrder_1 rfl (by decide) rfl ?_
  obtain ⟨n9, h⟩ := h
  have lp2 : ∀ (m2 : Nat) (x2_2 : Int), sR x2_2 → LoopP (b2_X9_areInOrder i r Q) m2 (x2_2) → V Γ Δ 542 false i r 0 0 Q0 2 [(0, .ref (sA Δ 461)), (1, .ref (sA Δ 67)), (2, .int (sJ x2_2))] [] := by
    intro m2
    induction m2 with
    | zero => intro x2_2 hx2_2 h; exact h.elim
    | succ m2 ih2 =>
      intro x2_2 hx2_2 h
      have h := LoopP_succ h
      refine V.iload_n (pc := 2) hG dX9_areInOrder_2 rfl 2 rfl ?_
      refine V.aload_n (pc := 3) hG dX9_areInOrder_3 rfl 1 rfl ?_
      refine V.getIN (pc := 4) (ci := 2) (k := 4) (M := 5) (T := TX0) (o := 67) (kz := 4) hG a_67 a_67.n (by decide) hin_X0 rfl (by decide) (by decide) rfl kw_418 rfl dX9_areInOrder_4 ?_
      obtain ⟨t11, f12⟩ := h
      refine V.icmp_ge (pc := 7) (tgt := 33) hG hx2_2 ((hi _ _)) dX9_areInOrder_7 (by decide) (fun c10 => ?_) (fun c10 => ?_)
      · have h := t11 c10
        clear t11 f12
        refine V.iconst (pc := 33) hG dX9_areInOrder_33 ?_
        exact fin dX9_areInOrder_34 ((sR_l rfl)) (nar_z (by decide)) hi hw ⟨rfl, rfl, h⟩
      · have h := f12 c10
        clear t11 f12
        refine V.aload_n (pc := 10) hG dX9_areInOrder_10 rfl 0 rfl ?_
        refine V.getR (x := 463) (pc := 11) (ci := 11) (k := 1) (M := 7) (T := TX9) (o := 461) (kz := 1) hG a_461 a_461.n (by decide) hin_X9 rfl (by decide) (by decide) rfl kw_474 rfl ((hw).1 (461, 1, 463) (by decide)) (by decide) dX9_areInOrder_11 ?_
        refine V.iload_n (pc := 14) hG dX9_areInOrder_14 rfl 2 rfl ?_
        obtain ⟨g13, h⟩ := h
        refine V.iald (pc := 15) (z := 96) (o := 463) hG a_463 a_463.n hx2_2 g13 dX9_areInOrder_15 ?_
        refine V.aload_n (pc := 16) hG dX9_areInOrder_16 rfl 0 rfl ?_
        refine V.getR (x := 462) (pc := 17) (ci := 11) (k := 0) (M := 7) (T := TX9) (o := 461) (kz := 0) hG a_461 a_461.n (by decide) hin_X9 rfl (by decide) (by decide) rfl kw_472 rfl ((hw).1 (461, 0, 462) (by decide)) (by decide) dX9_areInOrder_17 ?_
        refine V.iload_n (pc := 20) hG dX9_areInOrder_20 rfl 2 rfl ?_
        obtain ⟨g14, h⟩ := h
        refine V.iald (pc := 21) (z := 96) (o := 462) hG a_462 a_462.n hx2_2 g14 dX9_areInOrder_21 ?_
        obtain ⟨t16, f17⟩ := h
        refine V.icmp_ge (pc := 22) (tgt := 27) hG ((hi _ _)) ((hi _ _)) dX9_areInOrder_22 (by decide) (fun c15 => ?_) (fun c15 => ?_)
        · have h := t16 c15
          clear t16 f17
          refine V.iinc (pc := 27) (lv' := [(2, .int (sJ (wr (x2_2 + 1)))), (0, .ref (sA Δ 461)), (1, .ref (sA Δ 67))]) hG dX9_areInOrder_27 2 rfl (by decide) rfl ?_
          refine V.goto (pc := 30) (tgt := 2) hG dX9_areInOrder_30 (by decide) ?_
          refine V.pick [1, 2, 0] rfl ?_
          exact ih2 (wr (x2_2 + 1)) ((sR_wr _)) h
        · have h := f17 c15
          clear t16 f17
          refine V.iconst (pc := 25) hG dX9_areInOrder_25 ?_
          exact fin dX9_areInOrder_26 ((sR_l rfl)) (nar_z (by decide)) hi hw ⟨rfl, rfl, h⟩
  refine V.pick [1, 2, 0] rfl ?_
  exact lp2 n9 0 ((sR_l rfl)) h
set_option maxRecDepth 100000 in
set_option maxHeartbeats 4000000 in
theorem sm_X9_areKept (l : Launch) (Δ : Wd) {i r : MI}   {Q : Int → Prop} (hi : okI i) (hw : Wf r) (h : wp_X9_areKept  i r Q) : Met l yX9_areKept (Cond.code yX9_areKept cX9_areKept 3 (some .boolean) :: gW) (sRm 3 69) (sPc Δ [.ref (sA Δ 461), .ref (sA Δ 67), .ref (sA Δ 168)] i r) (sQi Δ (fun x i' r' => i = i' ∧ r = r' ∧ Q x)) 0 0 (sFr Δ) := by
  refine Ct.i (ty := .boolean) (by decide) rfl (Nat.le_of_ble_eq_true rfl) (fun Γ Q0 hG fin => ?_)
  have hG : okG Γ Δ l (sRm 3 69) cX9_areKept "Schedulary$Steps" 3 := hG
  show V Γ Δ 542 false i r 0 0 Q0 0 [(0, .ref (sA Δ 461)), (1, .ref (sA Δ 67)), (2, .ref (sA Δ 168))] []
  have jn33 : ∀ (k0j33 : Int), sR k0j33 → s33_X9_areKept k0j33 i r Q → V Γ Δ 542 false i r 0 0 Q0 33 [] [.int (sJ k0j33)] := by
    intro k0j33 hk0j33 h
    obtain ⟨g2, h⟩ := h
    exact fin dX9_areKept_33 hk0j33 (nar_z g2) hi hw ⟨rfl, rfl, h⟩
  have jn32 : s32_X9_areKept i r Q → V Γ Δ 542 false i r 0 0 Q0 32 [] [] := by
    intro h
    refine V.iconst (pc := 32) hG dX9_areKept_32 ?_
    exact jn33 0 ((sR_l rfl)) h
  refine V.aload_n (pc := 0) hG dX9_areKept_0 rfl 2 rfl ?_
  refine V.aload_n (pc := 1) hG dX9_areKept_1 rfl 1 rfl ?_
  refine V.aload_n (pc := 2) hG dX9_areKept_2 rfl 0 rfl ?_
  refine V.getR (x := 464) (pc := 3) (ci := 11) (k := 2) (M := 7) (T := TX9) (o := 461) (kz := 2) hG a_461 a_461.n (by decide) hin_X9 rfl (by decide) (by decide) rfl kw_476 rfl ((hw).1 (461, 2, 464) (by decide)) (by decide) dX9_areKept_3 ?_
  refine V.iconst (pc := 6) hG dX9_areKept_6 ?_
  refine V.iconst (pc := 7) hG dX9_areKept_7 ?_
  refine V.callVNi (pc := 8) (As := [.ref (sA Δ 67), .ref (sA Δ 464), .int (sJ 0), .int (sJ 0)]) (stk := []) hG (sm_X2_isKept l Δ a_464 ((sR_l rfl)) ((sR_l rfl)) hi hw h) mY_X2_isKept kw_1221 kw_1223 kw_92 a_168 (by decide) (q := (RX2, TX2, 5)) rfl rfl ⟨Nat.le_of_ble_eq_true rfl, Nat.le_of_ble_eq_true rfl, Nat.le_of_ble_eq_true rfl, Nat.le_of_ble_eq_true rfl⟩ rfl (Nat.le_of_ble_eq_true rfl) dX9_areKept_8 rfl (fun v3 i4 r5 hv6 hi7 hw8 hq9 => ?_)
  obtain ⟨e25, e26, h⟩ := hq9
  subst e25
  subst e26
  obtain ⟨t11, f12⟩ := h
  refine V.if_eq (pc := 11) (tgt := 32) hG hv6 dX9_areKept_11 (by decide) (fun c10 => ?_) (fun c10 => ?_)
  · have h := t11 c10
    clear t11 f12
    refine V.pick [] rfl ?_
    exact jn32 h
  · have h := f12 c10
    clear t11 f12
    refine V.aload_n (pc := 14) hG dX9_areKept_14 rfl 1 rfl ?_
    refine V.aload_n (pc := 15) hG dX9_areKept_15 rfl 0 rfl ?_
    refine V.getR (x := 464) (pc := 16) (ci := 11) (k := 2) (M := 7) (T := TX9) (o := 461) (kz := 2) hG a_461 a_461.n (by decide) hin_X9 rfl (by decide) (by decide) rfl kw_476 rfl ((hw).1 (461, 2, 464) (by decide)) (by decide) dX9_areKept_16 ?_
    refine V.sipush (pc := 19) hG dX9_areKept_19 (by decide) ?_
    refine V.callVNi (pc := 22) (As := [.ref (sA Δ 464), .int (sJ 481)]) (stk := []) hG (sm_X0_areUnitsKept l Δ a_464 ((sR_l rfl)) hi hw h) mY_X0_areUnitsKept kw_1225 kw_1227 kw_93 a_67 (by decide) (q := (RX0, TX0, 5)) rfl rfl ⟨Nat.le_of_ble_eq_true rfl, Nat.le_of_ble_eq_true rfl, Nat.le_of_ble_eq_true rfl, Nat.le_of_ble_eq_true rfl⟩ rfl (Nat.le_of_ble_eq_true rfl) dX9_areKept_22 rfl (fun v13 i14 r15 hv16 hi17 hw18 hq19 => ?_)
    obtain ⟨e23, e24, h⟩ := hq19
    subst e23
    subst e24
    obtain ⟨t21, f22⟩ := h
    refine V.if_eq (pc := 25) (tgt := 32) hG hv16 dX9_areKept_25 (by decide) (fun c20 => ?_) (fun c20 => ?_)
    · have h := t21 c20
      clear t21 f22
      refine V.pick [] rfl ?_
      exact jn32 h
    · have h := f22 c20
      clear t21 f22
      refine V.iconst (pc := 28) hG dX9_areKept_28 ?_
      refine V.goto (pc := 29) (tgt := 33) hG dX9_areKept_29 (by decide) ?_
      refine V.pick [] rfl ?_
      exact jn33 1 ((sR_l rfl)) h
set_option maxRecDepth 100000 in
set_option maxHeartbeats 4000000 in
theorem sm_X11_isSound (l : Launch) (Δ : Wd) {i r : MI}   {Q : Int → MI → MI → Prop} (hi : okI i) (hw : Wf r) (h : wp_X11_isSound  i r Q) : Met l yX11_isSound (Cond.code yX11_isSound cX11_isSound 1 (some .boolean) :: gW) (sRm 6 145) (sPc Δ [.ref (sA Δ 0)] i r) (sQi Δ (Q)) 0 0 (sFr Δ) := by
  refine Ct.i (ty := .boolean) (by decide) rfl (Nat.le_of_ble_eq_true rfl) (fun Γ Q0 hG fin => ?_)
  have hG : okG Γ Δ l (sRm 6 145) cX11_isSound "Schedulary" 1 := hG
  show V Γ Δ 542 false i r 0 0 Q0 0 [(0, .ref (sA Δ 0))] []
  have jn81 : ∀ (k0j81 : Int) (ij81 : MI) (rj81 : MI), sR k0j81 → okI ij81 → Wf rj81 → s81_X11_isSound k0j81 ij81 rj81 Q → V Γ Δ 542 false ij81 rj81 0 0 Q0 81 [] [.int (sJ k0j81)] := by
    intro k0j81 ij81 rj81 hk0j81 hij81 hwj81 h
    obtain ⟨g2, h⟩ := h
    exact fin dX11_isSound_81 hk0j81 (nar_z g2) hij81 hwj81 h
  have jn80 : ∀  (ij80 : MI) (rj80 : MI), okI ij80 → Wf rj80 → s80_X11_isSound ij80 rj80 Q → V Γ Δ 542 false ij80 rj80 0 0 Q0 80 [] [] := by
    intro ij80 rj80 hij80 hwj80 h
    refine V.iconst (pc := 80) hG dX11_isSound_80 ?_
    exact jn81 0 ij80 rj80 ((sR_l rfl)) hij80 hwj80 h
  refine V.aload_n (pc := 0) hG dX11_isSound_0 rfl 0 rfl ?_
  refine V.callVv (pc := 1) (As := []) (stk := []) hG (sm_X11_carryOut l Δ  hi hw h) mY_X11_carryOut kw_762 kw_764 kw_12 a_0 (by decide) (q := (RX11, TX11, 11)) rfl rfl ⟨Nat.le_of_ble_eq_true rfl, Nat.le_of_ble_eq_true rfl, Nat.le_of_ble_eq_true rfl, Nat.le_of_ble_eq_true rfl⟩ rfl (Nat.le_of_ble_eq_true rfl) dX11_isSound_1 rfl (fun i4 r5 hi7 hw8 hq9 => ?_)
  obtain ⟨e68, h⟩ := hq9
  subst e68
  refine V.aload_n (pc := 4) hG dX11_isSound_4 rfl 0 rfl ?_
  refine V.iconst (pc := 5) hG dX11_isSound_5 ?_
  refine V.callVv (pc := 6) (As := [.int (sJ 5)]) (stk := []) hG (sm_X11_prepare l Δ ((sR_l rfl)) hi7 hw h) mY_X11_prepare kw_830 kw_832 kw_26 a_0 (by decide) (q := (RX11, TX11, 11)) rfl rfl ⟨Nat.le_of_ble_eq_true rfl, Nat.le_of_ble_eq_true rfl, Nat.le_of_ble_eq_true rfl, Nat.le_of_ble_eq_true rfl⟩ rfl (Nat.le_of_ble_eq_true rfl) dX11_isSound_6 rfl (fun i11 r12 hi14 hw15 hq16 => ?_)
  have h := hq16
  refine V.aload_n (pc := 9) hG dX11_isSound_9 rfl 0 rfl ?_
  refine V.getR (x := 461) (pc := 10) (ci := 13) (k := 5) (M := 11) (T := TX11) (o := 0) (kz := 5) hG a_0 a_0.n (by decide) hin_X11 rfl (by decide) (by decide) rfl kw_581 rfl ((hw15).1 (0, 5, 461) (by decide)) (by decide) dX11_isSound_10 ?_
  refine V.aload_n (pc := 13) hG dX11_isSound_13 rfl 0 rfl ?_
  refine V.getR (x := 67) (pc := 14) (ci := 13) (k := 3) (M := 11) (T := TX11) (o := 0) (kz := 3) hG a_0 a_0.n (by decide) hin_X11 rfl (by decide) (by decide) rfl kw_579 rfl ((hw15).1 (0, 3, 67) (by decide)) (by decide) dX11_isSound_14 ?_
  refine V.aload_n (pc := 17) hG dX11_isSound_17 rfl 0 rfl ?_
  refine V.getR (x := 168) (pc := 18) (ci := 13) (k := 4) (M := 11) (T := TX11) (o := 0) (kz := 4) hG a_0 a_0.n (by decide) hin_X11 rfl (by decide) (by decide) rfl kw_580 rfl ((hw15).1 (0, 4, 168) (by decide)) (by decide) dX11_isSound_18 ?_
  refine V.callVNi (pc := 21) (As := [.ref (sA Δ 67), .ref (sA Δ 168)]) (stk := []) hG (sm_X9_areKept l Δ  hi14 hw15 h) mY_X9_areKept kw_1217 kw_1219 kw_91 a_461 (by decide) (q := (RX9, TX9, 7)) rfl rfl ⟨Nat.le_of_ble_eq_true rfl, Nat.le_of_ble_eq_true rfl, Nat.le_of_ble_eq_true rfl, Nat.le_of_ble_eq_true rfl⟩ rfl (Nat.le_of_ble_eq_true rfl) dX11_isSound_21 rfl (fun v17 i18 r19 hv20 hi21 hw22 hq23 => ?_)
  obtain ⟨e63, e64, h⟩ := hq23
  subst e63
  subst e64
  obtain ⟨t25, f26⟩ := h
  refine V.if_eq (pc := 24) (tgt := 80) hG hv20 dX11_isSound_24 (by decide) (fun c24 => ?_) (fun c24 => ?_)
  · have h := t25 c24
    clear t25 f26
    refine V.pick [] rfl ?_
    exact jn80 i11 r12 hi14 hw15 h
  · have h := f26 c24
    clear t25 f26
    refine V.aload_n (pc := 27) hG dX11_isSound_27 rfl 0 rfl ?_
    refine V.getR (x := 461) (pc := 28) (ci := 13) (k := 5) (M := 11) (T := TX11) (o := 0) (kz := 5) hG a_0 a_0.n (by decide) hin_X11 rfl (by decide) (by decide) rfl kw_581 rfl ((hw15).1 (0, 5, 461) (by decide)) (by decide) dX11_isSound_28 ?_
    refine V.aload_n (pc := 31) hG dX11_isSound_31 rfl 0 rfl ?_
    refine V.getR (x := 67) (pc := 32) (ci := 13) (k := 3) (M := 11) (T := TX11) (o := 0) (kz := 3) hG a_0 a_0.n (by decide) hin_X11 rfl (by decide) (by decide) rfl kw_579 rfl ((hw15).1 (0, 3, 67) (by decide)) (by decide) dX11_isSound_32 ?_
    refine V.callVNi (pc := 35) (As := [.ref (sA Δ 67)]) (stk := []) hG (sm_X9_areInOrder l Δ  hi14 hw15 h) mY_X9_areInOrder kw_1234 kw_1236 kw_95 a_461 (by decide) (q := (RX9, TX9, 7)) rfl rfl ⟨Nat.le_of_ble_eq_true rfl, Nat.le_of_ble_eq_true rfl, Nat.le_of_ble_eq_true rfl, Nat.le_of_ble_eq_true rfl⟩ rfl (Nat.le_of_ble_eq_true rfl) dX11_isSound_35 rfl (fun v27 i28 r29 hv30 hi31 hw32 hq33 => ?_)
    obtain ⟨e61, e62, h⟩ := hq33
    subst e61
    subst e62
    obtain ⟨t35, f36⟩ := h
    refine V.if_eq (pc := 38) (tgt := 80) hG hv30 dX11_isSound_38 (by decide) (fun c34 => ?_) (fun c34 => ?_)
    · have h := t35 c34
      clear t35 f36
      refine V.pick [] rfl ?_
      exact jn80 i11 r12 hi14 hw15 h
    · have h := f36 c34
      clear t35 f36
      refine V.aload_n (pc := 41) hG dX11_isSound_41 rfl 0 rfl ?_
      refine V.getR (x := 469) (pc := 42) (ci := 13) (k := 6) (M := 11) (T := TX11) (o := 0) (kz := 6) hG a_0 a_0.n (by decide) hin_X11 rfl (by decide) (by decide) rfl kw_582 rfl ((hw15).1 (0, 6, 469) (by decide)) (by decide) dX11_isSound_42 ?_
      refine V.aload_n (pc := 45) hG dX11_isSound_45 rfl 0 rfl ?_
      refine V.getR (x := 67) (pc := 46) (ci := 13) (k := 3) (M := 11) (T := TX11) (o := 0) (kz := 3) hG a_0 a_0.n (by decide) hin_X11 rfl (by decide) (by decide) rfl kw_579 rfl ((hw15).1 (0, 3, 67) (by decide)) (by decide) dX11_isSound_46 ?_
      refine V.aload_n (pc := 49) hG dX11_isSound_49 rfl 0 rfl ?_
      refine V.getR (x := 168) (pc := 50) (ci := 13) (k := 4) (M := 11) (T := TX11) (o := 0) (kz := 4) hG a_0 a_0.n (by decide) hin_X11 rfl (by decide) (by decide) rfl kw_580 rfl ((hw15).1 (0, 4, 168) (by decide)) (by decide) dX11_isSound_50 ?_
      refine V.callVNi (pc := 53) (As := [.ref (sA Δ 67), .ref (sA Δ 168)]) (stk := []) hG (sm_X4_isKept l Δ  hi14 hw15 h) mY_X4_isKept kw_1238 kw_1240 kw_96 a_469 (by decide) (q := (RX4, TX4, 6)) rfl rfl ⟨Nat.le_of_ble_eq_true rfl, Nat.le_of_ble_eq_true rfl, Nat.le_of_ble_eq_true rfl, Nat.le_of_ble_eq_true rfl⟩ rfl (Nat.le_of_ble_eq_true rfl) dX11_isSound_53 rfl (fun v37 i38 r39 hv40 hi41 hw42 hq43 => ?_)
      obtain ⟨e59, e60, h⟩ := hq43
      subst e59
      subst e60
      obtain ⟨t45, f46⟩ := h
      refine V.if_eq (pc := 56) (tgt := 80) hG hv40 dX11_isSound_56 (by decide) (fun c44 => ?_) (fun c44 => ?_)
      · have h := t45 c44
        clear t45 f46
        refine V.pick [] rfl ?_
        exact jn80 i11 r12 hi14 hw15 h
      · have h := f46 c44
        clear t45 f46
        refine V.aload_n (pc := 59) hG dX11_isSound_59 rfl 0 rfl ?_
        refine V.getR (x := 61) (pc := 60) (ci := 13) (k := 2) (M := 11) (T := TX11) (o := 0) (kz := 2) hG a_0 a_0.n (by decide) hin_X11 rfl (by decide) (by decide) rfl kw_578 rfl ((hw15).1 (0, 2, 61) (by decide)) (by decide) dX11_isSound_60 ?_
        refine V.aload_n (pc := 63) hG dX11_isSound_63 rfl 0 rfl ?_
        refine V.getR (x := 480) (pc := 64) (ci := 13) (k := 7) (M := 11) (T := TX11) (o := 0) (kz := 7) hG a_0 a_0.n (by decide) hin_X11 rfl (by decide) (by decide) rfl kw_583 rfl ((hw15).1 (0, 7, 480) (by decide)) (by decide) dX11_isSound_64 ?_
        refine V.getRN (x := 481) (pc := 67) (ci := 3) (k := 0) (M := 2) (T := TX1) (o := 480) (kz := 0) hG a_480 a_480.n (by decide) hin_X1 rfl (by decide) (by decide) rfl kw_538 rfl ((hw15).1 (480, 0, 481) (by decide)) (by decide) dX11_isSound_67 ?_
        refine V.callVNi (pc := 70) (As := [.ref (sA Δ 481)]) (stk := []) hG (sm_X7_isLike l Δ sta_61 sta_481 hi14 hw15 h) mY_X7_isLike kw_1167 kw_1169 kw_83 a_61 (by decide) (q := (RX7, TX7, 5)) rfl rfl ⟨Nat.le_of_ble_eq_true rfl, Nat.le_of_ble_eq_true rfl, Nat.le_of_ble_eq_true rfl, Nat.le_of_ble_eq_true rfl⟩ rfl (Nat.le_of_ble_eq_true rfl) dX11_isSound_70 rfl (fun v47 i48 r49 hv50 hi51 hw52 hq53 => ?_)
        obtain ⟨e57, e58, h⟩ := hq53
        subst e57
        subst e58
        obtain ⟨t55, f56⟩ := h
        refine V.if_eq (pc := 73) (tgt := 80) hG hv50 dX11_isSound_73 (by decide) (fun c54 => ?_) (fun c54 => ?_)
        · have h := t55 c54
          clear t55 f56
          refine V.pick [] rfl ?_
          exact jn80 i11 r12 hi14 hw15 h
        · have h := f56 c54
          clear t55 f56
          refine V.iconst (pc := 76) hG dX11_isSound_76 ?_
          refine V.goto (pc := 77) (tgt := 81) hG dX11_isSound_77 (by decide) ?_
          refine V.pick [] rfl ?_
          exact jn81 1 i11 r12 ((sR_l rfl)) hi14 hw15 h
set_option maxRecDepth 100000 in
set_option maxHeartbeats 4000000 in
theorem sm_X12_thrown (l : Launch) (Δ : Wd) {i r : MI}   {Q : Int → Prop} (hi : okI i) (hw : Wf r) (h : wp_X12_thrown  i r Q) : Met l yX12_thrown (Cond.code yX12_thrown cX12_thrown 1 (some .int) :: gW) (sRm 0 0) (sPc Δ [.ref (sA Δ 504)] i r) (sQi Δ (fun x i' r' => i = i' ∧ r = r' ∧ Q x)) 0 0 (sFr Δ) := by
  refine Ct.i (ty := .int) (by decide) rfl (Nat.le_of_ble_eq_true rfl) (fun Γ Q0 hG fin => ?_)
  have hG : okG Γ Δ l (sRm 0 0) cX12_thrown "SchedularyModel" 1 := hG
  show V Γ Δ 542 false i r 0 0 Q0 0 [(0, .ref (sA Δ 504))] []
  refine V.aload_n (pc := 0) hG dX12_thrown_0 rfl 0 rfl ?_
  refine V.getI (pc := 1) (ci := 14) (k := 0) (M := 49) (T := TX12) (o := 504) (kz := 0) hG a_504 a_504.n (by decide) hin_X12 rfl (by decide) (by decide) rfl kw_1692 rfl dX12_thrown_1 ?_
  exact fin dX12_thrown_4 ((hi _ _)) rfl hi hw ⟨rfl, rfl, h⟩
set_option maxRecDepth 100000 in
set_option maxHeartbeats 4000000 in
theorem sm_X12_in (l : Launch) (Δ : Wd) {i r : MI} {p0 : Int} {p1 : Int} {p2 : Int} (hp0 : sR p0) (hp1 : sR p1) (hp2 : sR p2) {Q : Int → Prop} (hi : okI i) (hw : Wf r) (h : wp_X12_in p0 p1 p2 i r Q) : Met l yX12_in (Cond.code yX12_in cX12_in 3 (some .boolean) :: gW) (sRm 0 0) (sPc Δ [.int (sJ p0), .int (sJ p1), .int (sJ p2)] i r) (sQi Δ (fun x i' r' => i = i' ∧ r = r' ∧ Q x)) 0 0 (sFr Δ) := by
  refine Ct.i (ty := .boolean) (by decide) rfl (Nat.le_of_ble_eq_true rfl) (fun Γ Q0 hG fin => ?_)
  have hG : okG Γ Δ l (sRm 0 0) cX12_in "SchedularyModel" 3 := hG
  show V Γ Δ 542 false i r 0 0 Q0 0 [(0, .int (sJ p0)), (1, .int (sJ p1)), (2, .int (sJ p2))] []
  have jn15 : ∀ (k0j15 : Int), sR k0j15 → s15_X12_in k0j15 i r Q → V Γ Δ 542 false i r 0 0 Q0 15 [] [.int (sJ k0j15)] := by
    intro k0j15 hk0j15 h
    obtain ⟨g2, h⟩ := h
    exact fin dX12_in_15 hk0j15 (nar_z g2) hi hw ⟨rfl, rfl, h⟩
  have jn14 : s14_X12_in i r Q → V Γ Δ 542 false i r 0 0 Q0 14 [] [] := by
    intro h
    refine V.iconst (pc := 14) hG dX12_in_14 ?_
    exact jn15 0 ((sR_l rfl)) h
  refine V.iload_n (pc := 0) hG dX12_in_0 rfl 0 rfl ?_
  refine V.iload_n (pc := 1) hG dX12_in_1 rfl 1 rfl ?_
  obtain ⟨t4, f5⟩ := h
  refine V.icmp_lt (pc := 2) (tgt := 14) hG hp0 hp1 dX12_in_2 (by decide) (fun c3 => ?_) (fun c3 => ?_)
  · have h := t4 c3
    clear t4 f5
    refine V.pick [] rfl ?_
    exact jn14 h
  · have h := f5 c3
    clear t4 f5
    refine V.iload_n (pc := 5) hG dX12_in_5 rfl 0 rfl ?_
    refine V.iload_n (pc := 6) hG dX12_in_6 rfl 2 rfl ?_
    obtain ⟨t7, f8⟩ := h
    refine V.icmp_gt (pc := 7) (tgt := 14) hG hp0 hp2 dX12_in_7 (by decide) (fun c6 => ?_) (fun c6 => ?_)
    · have h := t7 c6
      clear t7 f8
      refine V.pick [] rfl ?_
      exact jn14 h
    · have h := f8 c6
      clear t7 f8
      refine V.iconst (pc := 10) hG dX12_in_10 ?_
      refine V.goto (pc := 11) (tgt := 15) hG dX12_in_11 (by decide) ?_
      refine V.pick [] rfl ?_
      exact jn15 1 ((sR_l rfl)) h
set_option maxRecDepth 100000 in
set_option maxHeartbeats 4000000 in
theorem sm_X12_fails (l : Launch) (Δ : Wd) {i r : MI} {p1 : Int} {p2 : Int} (hp1 : sR p1) (hp2 : sR p2) {Q : Int → MI → Prop} (hi : okI i) (hw : Wf r) (h : wp_X12_fails p1 p2 i r Q) : Met l yX12_fails (Cond.code yX12_fails cX12_fails 3 (some .boolean) :: gW) (sRm 0 0) (sPc Δ [.ref (sA Δ 504), .int (sJ p1), .int (sJ p2)] i r) (sQi Δ (fun x i' r' => r = r' ∧ Q x i')) 0 0 (sFr Δ) := by
  refine Ct.i (ty := .boolean) (by decide) rfl (Nat.le_of_ble_eq_true rfl) (fun Γ Q0 hG fin => ?_)
  have hG : okG Γ Δ l (sRm 0 0) cX12_fails "SchedularyModel" 3 := hG
  show V Γ Δ 542 false i r 0 0 Q0 0 [(0, .ref (sA Δ 504)), (1, .int (sJ p1)), (2, .int (sJ p2))] []
  have jn28 : ∀ (k0j28 : Int) (ij28 : MI), sR k0j28 → okI ij28 → s28_X12_fails k0j28 ij28 r Q → V Γ Δ 542 false ij28 r 0 0 Q0 28 [] [.int (sJ k0j28)] := by
    intro k0j28 ij28 hk0j28 hij28 h
    obtain ⟨g2, h⟩ := h
    exact fin dX12_fails_28 hk0j28 (nar_z g2) hij28 hw ⟨rfl, h⟩
  have jn16 : ∀  (ij16 : MI), okI ij16 → s16_X12_fails ij16 r Q → V Γ Δ 542 false ij16 r 0 0 Q0 16 [(0, .ref (sA Δ 504))] [] := by
    intro ij16 hij16 h
    refine V.aload_n (pc := 16) hG dX12_fails_16 rfl 0 rfl ?_
    refine V.getI (pc := 17) (ci := 14) (k := 0) (M := 49) (T := TX12) (o := 504) (kz := 0) hG a_504 a_504.n (by decide) hin_X12 rfl (by decide) (by decide) rfl kw_1692 rfl dX12_fails_17 ?_
    obtain ⟨t7, f8⟩ := h
    refine V.if_eq (pc := 20) (tgt := 27) hG ((hij16 _ _)) dX12_fails_20 (by decide) (fun c6 => ?_) (fun c6 => ?_)
    · have h := t7 c6
      clear t7 f8
      refine V.iconst (pc := 27) hG dX12_fails_27 ?_
      refine V.pick [] rfl ?_
      exact jn28 0 ij16 ((sR_l rfl)) hij16 h
    · have h := f8 c6
      clear t7 f8
      refine V.iconst (pc := 23) hG dX12_fails_23 ?_
      refine V.goto (pc := 24) (tgt := 28) hG dX12_fails_24 (by decide) ?_
      refine V.pick [] rfl ?_
      exact jn28 1 ij16 ((sR_l rfl)) hij16 h
  refine V.iload_n (pc := 0) hG dX12_fails_0 rfl 1 rfl ?_
  obtain ⟨t10, f11⟩ := h
  refine V.if_eq (pc := 1) (tgt := 16) hG hp1 dX12_fails_1 (by decide) (fun c9 => ?_) (fun c9 => ?_)
  · have h := t10 c9
    clear t10 f11
    refine V.pick [0] rfl ?_
    exact jn16 i hi h
  · have h := f11 c9
    clear t10 f11
    refine V.aload_n (pc := 4) hG dX12_fails_4 rfl 0 rfl ?_
    refine V.getI (pc := 5) (ci := 14) (k := 0) (M := 49) (T := TX12) (o := 504) (kz := 0) hG a_504 a_504.n (by decide) hin_X12 rfl (by decide) (by decide) rfl kw_1692 rfl dX12_fails_5 ?_
    obtain ⟨f14, t13⟩ := h
    refine V.if_ne (pc := 8) (tgt := 16) hG ((hi _ _)) dX12_fails_8 (by decide) (fun c12 => ?_) (fun c12 => ?_)
    · have h := t13 c12
      clear t13 f14
      refine V.pick [0] rfl ?_
      exact jn16 i hi h
    · have h := f14 c12
      clear t13 f14
      refine V.aload_n (pc := 11) hG dX12_fails_11 rfl 0 rfl ?_
      refine V.iload_n (pc := 12) hG dX12_fails_12 rfl 2 rfl ?_
      refine V.putI (pc := 13) (ci := 14) (k := 0) (M := 49) (T := TX12) (o := 504) (kz := 0) hG a_504 a_504.n (by decide) hin_X12 rfl (by decide) (by decide) rfl kw_1692 rfl tyX12 tyX12_ok nmX12 rfl (ty := tyX12 0) (tyX12_ok 0 (by decide)) rfl rfl dX12_fails_13 ?_
      refine V.pick [0] rfl ?_
      exact jn16 (st i 504 0 p2) ((okI_st hi hp2)) h
set_option maxRecDepth 100000 in
set_option maxHeartbeats 4000000 in
theorem sm_X12_taken (l : Launch) (Δ : Wd) {i r : MI} {p1 : Int} (hp1 : sR p1) {Q : Int → Prop} (hi : okI i) (hw : Wf r) (h : wp_X12_taken p1 i r Q) : Met l yX12_taken (Cond.code yX12_taken cX12_taken 2 (some .int) :: gW) (sRm 0 0) (sPc Δ [.ref (sA Δ 504), .int (sJ p1)] i r) (sQi Δ (fun x i' r' => i = i' ∧ r = r' ∧ Q x)) 0 0 (sFr Δ) := by
  refine Ct.i (ty := .int) (by decide) rfl (Nat.le_of_ble_eq_true rfl) (fun Γ Q0 hG fin => ?_)
  have hG : okG Γ Δ l (sRm 0 0) cX12_taken "SchedularyModel" 2 := hG
  show V Γ Δ 542 false i r 0 0 Q0 0 [(0, .ref (sA Δ 504)), (1, .int (sJ p1))] []
  refine V.iload_n (pc := 0) hG dX12_taken_0 rfl 1 rfl ?_
  refine V.iconst (pc := 1) hG dX12_taken_1 ?_
  refine V.aload_n (pc := 2) hG dX12_taken_2 rfl 0 rfl ?_
  refine V.getI (pc := 3) (ci := 14) (k := 9) (M := 49) (T := TX12) (o := 504) (kz := 9) hG a_504 a_504.n (by decide) hin_X12 rfl (by decide) (by decide) rfl kw_1701 rfl dX12_taken_3 ?_
  refine V.ishl (pc := 6) hG dX12_taken_6 ?_
  refine V.iconst (pc := 7) hG dX12_taken_7 ?_
  refine V.isub (pc := 8) hG dX12_taken_8 ?_
  refine V.iand (pc := 9) hG dX12_taken_9 ?_
  exact fin dX12_taken_10 ((sR_and _ _)) rfl hi hw ⟨rfl, rfl, h⟩
set_option maxRecDepth 100000 in
set_option maxHeartbeats 4000000 in
theorem sm_X12_type (l : Launch) (Δ : Wd) {i r : MI} {p1 : Int} (hp1 : sR p1) {Q : Int → MI → Prop} (hi : okI i) (hw : Wf r) (h : wp_X12_type p1 i r Q) : Met l yX12_type (Cond.code yX12_type cX12_type 2 (some .int) :: gW) (sRm 4 91) (sPc Δ [.ref (sA Δ 504), .int (sJ p1)] i r) (sQi Δ (fun x i' r' => r = r' ∧ Q x i')) 0 0 (sFr Δ) := by
  refine Ct.i (ty := .int) (by decide) rfl (Nat.le_of_ble_eq_true rfl) (fun Γ Q0 hG fin => ?_)
  have hG : okG Γ Δ l (sRm 4 91) cX12_type "SchedularyModel" 2 := hG
  show V Γ Δ 542 false i r 0 0 Q0 0 [(0, .ref (sA Δ 504)), (1, .int (sJ p1))] []
  have jn60 : ∀  (ij60 : MI), okI ij60 → s60_X12_type ij60 r Q → V Γ Δ 542 false ij60 r 0 0 Q0 60 [] [] := by
    intro ij60 hij60 h
    refine V.iconst (pc := 60) hG dX12_type_60 ?_
    exact fin dX12_type_61 ((sR_l rfl)) rfl hij60 hw ⟨rfl, h⟩
  have jn53 : ∀ (k1j53 : Int) (ij53 : MI), sR k1j53 → okI ij53 → s53_X12_type p1 k1j53 ij53 r Q → V Γ Δ 542 false ij53 r 0 0 Q0 53 [(0, .ref (sA Δ 504)), (1, .int (sJ p1))] [.int (sJ k1j53), .ref (sA Δ 504)] := by
    intro k1j53 ij53 hk1j53 hij53 h
    refine V.iconst (pc := 53) hG dX12_type_53 ?_
    refine V.callVi (pc := 54) (As := [.int (sJ k1j53), .int (sJ 2)]) (stk := []) hG (sm_X12_fails l Δ hk1j53 ((sR_l rfl)) hij53 hw h) mY_X12_fails kw_1853 kw_1855 kw_106 a_504 (by decide) (q := (RX12, TX12, 49)) rfl rfl ⟨Nat.le_of_ble_eq_true rfl, Nat.le_of_ble_eq_true rfl, Nat.le_of_ble_eq_true rfl, Nat.le_of_ble_eq_true rfl⟩ rfl (Nat.le_of_ble_eq_true rfl) dX12_type_54 rfl (fun v15 i16 r17 hv18 hi19 hw20 hq21 => ?_)
    obtain ⟨e28, h⟩ := hq21
    subst e28
    obtain ⟨t23, f24⟩ := h
    refine V.if_eq (pc := 57) (tgt := 62) hG hv18 dX12_type_57 (by decide) (fun c22 => ?_) (fun c22 => ?_)
    · have h := t23 c22
      clear t23 f24
      refine V.aload_n (pc := 62) hG dX12_type_62 rfl 0 rfl ?_
      refine V.getR (x := 505) (pc := 63) (ci := 14) (k := 2) (M := 49) (T := TX12) (o := 504) (kz := 2) hG a_504 a_504.n (by decide) hin_X12 rfl (by decide) (by decide) rfl kw_1694 rfl ((hw).1 (504, 2, 505) (by decide)) (by decide) dX12_type_63 ?_
      refine V.aload_n (pc := 66) hG dX12_type_66 rfl 0 rfl ?_
      refine V.getI (pc := 67) (ci := 14) (k := 1) (M := 49) (T := TX12) (o := 504) (kz := 1) hG a_504 a_504.n (by decide) hin_X12 rfl (by decide) (by decide) rfl kw_1693 rfl dX12_type_67 ?_
      refine V.iload_n (pc := 70) hG dX12_type_70 rfl 1 rfl ?_
      obtain ⟨g25, h⟩ := h
      obtain ⟨g26, h⟩ := h
      refine V.cast (pc := 71) (z := 24) (o := 505) hG a_505 a_505.n ((hi19 _ _)) g25 (vnar_c g26) dX12_type_71 ?_
      refine V.aload_n (pc := 72) hG dX12_type_72 rfl 0 rfl ?_
      refine V.dup (pc := 73) hG dX12_type_73 rfl ?_
      refine V.getI (pc := 74) (ci := 14) (k := 1) (M := 49) (T := TX12) (o := 504) (kz := 1) hG a_504 a_504.n (by decide) hin_X12 rfl (by decide) (by decide) rfl kw_1693 rfl dX12_type_74 ?_
      refine V.iconst (pc := 77) hG dX12_type_77 ?_
      refine V.iadd (pc := 78) hG dX12_type_78 ?_
      refine V.putI (pc := 79) (ci := 14) (k := 1) (M := 49) (T := TX12) (o := 504) (kz := 1) hG a_504 a_504.n (by decide) hin_X12 rfl (by decide) (by decide) rfl kw_1693 rfl tyX12 tyX12_ok nmX12 rfl (ty := tyX12 1) (tyX12_ok 1 (by decide)) rfl rfl dX12_type_79 ?_
      refine V.aload_n (pc := 82) hG dX12_type_82 rfl 0 rfl ?_
      refine V.getI (pc := 83) (ci := 14) (k := 1) (M := 49) (T := TX12) (o := 504) (kz := 1) hG a_504 a_504.n (by decide) hin_X12 rfl (by decide) (by decide) rfl kw_1693 rfl dX12_type_83 ?_
      exact fin dX12_type_86 (((okI_st ((okI_st hi19 hp1)) ((sR_wr _))) _ _)) rfl ((okI_st ((okI_st hi19 hp1)) ((sR_wr _)))) hw ⟨rfl, h⟩
    · have h := f24 c22
      clear t23 f24
      refine V.pick [] rfl ?_
      exact jn60 i16 hi19 h
  have jn31 : ∀ (k1j31 : Int) (ij31 : MI), sR k1j31 → okI ij31 → s31_X12_type p1 k1j31 ij31 r Q → V Γ Δ 542 false ij31 r 0 0 Q0 31 [(0, .ref (sA Δ 504)), (1, .int (sJ p1))] [.int (sJ k1j31), .ref (sA Δ 504)] := by
    intro k1j31 ij31 hk1j31 hij31 h
    refine V.iconst (pc := 31) hG dX12_type_31 ?_
    refine V.callVi (pc := 32) (As := [.int (sJ k1j31), .int (sJ 1)]) (stk := []) hG (sm_X12_fails l Δ hk1j31 ((sR_l rfl)) hij31 hw h) mY_X12_fails kw_1853 kw_1855 kw_106 a_504 (by decide) (q := (RX12, TX12, 49)) rfl rfl ⟨Nat.le_of_ble_eq_true rfl, Nat.le_of_ble_eq_true rfl, Nat.le_of_ble_eq_true rfl, Nat.le_of_ble_eq_true rfl⟩ rfl (Nat.le_of_ble_eq_true rfl) dX12_type_32 rfl (fun v44 i45 r46 hv47 hi48 hw49 hq50 => ?_)
    obtain ⟨e58, h⟩ := hq50
    subst e58
    obtain ⟨f53, t52⟩ := h
    refine V.if_ne (pc := 35) (tgt := 60) hG hv47 dX12_type_35 (by decide) (fun c51 => ?_) (fun c51 => ?_)
    · have h := t52 c51
      clear t52 f53
      refine V.pick [] rfl ?_
      exact jn60 i45 hi48 h
    · have h := f53 c51
      clear t52 f53
      refine V.aload_n (pc := 38) hG dX12_type_38 rfl 0 rfl ?_
      refine V.aload_n (pc := 39) hG dX12_type_39 rfl 0 rfl ?_
      refine V.getI (pc := 40) (ci := 14) (k := 1) (M := 49) (T := TX12) (o := 504) (kz := 1) hG a_504 a_504.n (by decide) hin_X12 rfl (by decide) (by decide) rfl kw_1693 rfl dX12_type_40 ?_
      refine V.bipush (pc := 43) hG dX12_type_43 (by decide) ?_
      obtain ⟨f56, t55⟩ := h
      refine V.icmp_ne (pc := 45) (tgt := 52) hG ((hi48 _ _)) ((sR_l rfl)) dX12_type_45 (by decide) (fun c54 => ?_) (fun c54 => ?_)
      · have h := t55 c54
        clear t55 f56
        refine V.iconst (pc := 52) hG dX12_type_52 ?_
        exact jn53 0 i45 ((sR_l rfl)) hi48 h
      · have h := f56 c54
        clear t55 f56
        refine V.iconst (pc := 48) hG dX12_type_48 ?_
        refine V.goto (pc := 49) (tgt := 53) hG dX12_type_49 (by decide) ?_
        exact jn53 1 i45 ((sR_l rfl)) hi48 h
  have jn30 : ∀  (ij30 : MI), okI ij30 → s30_X12_type p1 ij30 r Q → V Γ Δ 542 false ij30 r 0 0 Q0 30 [(0, .ref (sA Δ 504)), (1, .int (sJ p1))] [.ref (sA Δ 504)] := by
    intro ij30 hij30 h
    refine V.iconst (pc := 30) hG dX12_type_30 ?_
    exact jn31 0 ij30 ((sR_l rfl)) hij30 h
  refine V.aload_n (pc := 0) hG dX12_type_0 rfl 0 rfl ?_
  refine V.iconst (pc := 1) hG dX12_type_1 ?_
  refine V.putI (pc := 2) (ci := 14) (k := 0) (M := 49) (T := TX12) (o := 504) (kz := 0) hG a_504 a_504.n (by decide) hin_X12 rfl (by decide) (by decide) rfl kw_1692 rfl tyX12 tyX12_ok nmX12 rfl (ty := tyX12 0) (tyX12_ok 0 (by decide)) rfl rfl dX12_type_2 ?_
  refine V.aload_n (pc := 5) hG dX12_type_5 rfl 0 rfl ?_
  refine V.iload_n (pc := 6) hG dX12_type_6 rfl 1 rfl ?_
  refine V.bipush (pc := 7) hG dX12_type_7 (by decide) ?_
  refine V.bipush (pc := 9) hG dX12_type_9 (by decide) ?_
  refine V.callSi (pc := 11) (As := [.int (sJ p1), .int (sJ 48), .int (sJ 57)]) (stk := [.ref (sA Δ 504)]) hG (sm_X12_in l Δ hp1 ((sR_l rfl)) ((sR_l rfl)) ((okI_st hi ((sR_l rfl)))) hw h) mY_X12_in kw_1848 kw_1849 ⟨Nat.le_of_ble_eq_true rfl, Nat.le_of_ble_eq_true rfl, Nat.le_of_ble_eq_true rfl, Nat.le_of_ble_eq_true rfl⟩ rfl (Nat.le_of_ble_eq_true rfl) dX12_type_11 rfl (fun v59 i60 r61 hv62 hi63 hw64 hq65 => ?_)
  obtain ⟨e81, e82, h⟩ := hq65
  subst e81
  subst e82
  obtain ⟨f68, t67⟩ := h
  refine V.if_ne (pc := 14) (tgt := 30) hG hv62 dX12_type_14 (by decide) (fun c66 => ?_) (fun c66 => ?_)
  · have h := t67 c66
    clear t67 f68
    exact jn30 (st i 504 0 0) ((okI_st hi ((sR_l rfl)))) h
  · have h := f68 c66
    clear t67 f68
    refine V.ldcS (pc := 17) (k := 4) (tx := "abcdefghilMN=[]+-*&|^<>") hG (by decide) dX12_type_17 ?_
    refine V.iload_n (pc := 19) hG dX12_type_19 rfl 1 rfl ?_
    refine V.callVSi (pc := 20) (As := [.int (sJ p1)]) (stk := [.ref (sA Δ 504)]) hG (sm_J0_indexOf_0f7a4 l Δ (by decide) hp1 ((okI_st hi ((sR_l rfl)))) hw h) mY_J0_indexOf_0f7a4 kw_1852 kw_652 kw_653 (by decide) rfl ⟨Nat.le_of_ble_eq_true rfl, Nat.le_of_ble_eq_true rfl, Nat.le_of_ble_eq_true rfl, Nat.le_of_ble_eq_true rfl⟩ rfl (Nat.le_of_ble_eq_true rfl) dX12_type_20 rfl (fun v69 i70 r71 hv72 hi73 hw74 hq75 => ?_)
    obtain ⟨e79, e80, h⟩ := hq75
    subst e79
    subst e80
    obtain ⟨t77, f78⟩ := h
    refine V.if_ge (pc := 23) (tgt := 30) hG hv72 dX12_type_23 (by decide) (fun c76 => ?_) (fun c76 => ?_)
    · have h := t77 c76
      clear t77 f78
      exact jn30 (st i 504 0 0) ((okI_st hi ((sR_l rfl)))) h
    · have h := f78 c76
      clear t77 f78
      refine V.iconst (pc := 26) hG dX12_type_26 ?_
      refine V.goto (pc := 27) (tgt := 31) hG dX12_type_27 (by decide) ?_
      exact jn31 1 (st i 504 0 0) ((sR_l rfl)) ((okI_st hi ((sR_l rfl)))) h
set_option maxRecDepth 100000 in
set_option maxHeartbeats 4000000 in
theorem sm_X12_clear (l : Launch) (Δ : Wd) {i r : MI}   {Q : Int → MI → Prop} (hi : okI i) (hw : Wf r) (h : wp_X12_clear  i r Q) : Met l yX12_clear (Cond.code yX12_clear cX12_clear 2 (some .int) :: gW) (sRm 0 0) (sPc Δ [.ref (sA Δ 504)] i r) (sQi Δ (fun x i' r' => r = r' ∧ Q x i')) 0 0 (sFr Δ) := by
  refine Ct.i (ty := .int) (by decide) rfl (Nat.le_of_ble_eq_true rfl) (fun Γ Q0 hG fin => ?_)
  have hG : okG Γ Δ l (sRm 0 0) cX12_clear "SchedularyModel" 2 := hG
  show V Γ Δ 542 false i r 0 0 Q0 0 [(0, .ref (sA Δ 504))] []
  refine V.aload_n (pc := 0) hG dX12_clear_0 rfl 0 rfl ?_
  refine V.iconst (pc := 1) hG dX12_clear_1 ?_
  refine V.putI (pc := 2) (ci := 14) (k := 0) (M := 49) (T := TX12) (o := 504) (kz := 0) hG a_504 a_504.n (by decide) hin_X12 rfl (by decide) (by decide) rfl kw_1692 rfl tyX12 tyX12_ok nmX12 rfl (ty := tyX12 0) (tyX12_ok 0 (by decide)) rfl rfl dX12_clear_2 ?_
  refine V.aload_n (pc := 5) hG dX12_clear_5 rfl 0 rfl ?_
  refine V.getI (pc := 6) (ci := 14) (k := 1) (M := 49) (T := TX12) (o := 504) (kz := 1) hG a_504 a_504.n (by decide) hin_X12 rfl (by decide) (by decide) rfl kw_1693 rfl dX12_clear_6 ?_
  refine V.istore_n (pc := 9) (lv' := [(1, .int (sJ ((st i 504 0 0) 504 1))), (0, .ref (sA Δ 504))]) hG dX12_clear_9 rfl (by decide) rfl ?_
  refine V.aload_n (pc := 10) hG dX12_clear_10 rfl 1 rfl ?_
  refine V.iconst (pc := 11) hG dX12_clear_11 ?_
  refine V.putI (pc := 12) (ci := 14) (k := 1) (M := 49) (T := TX12) (o := 504) (kz := 1) hG a_504 a_504.n (by decide) hin_X12 rfl (by decide) (by decide) rfl kw_1693 rfl tyX12 tyX12_ok nmX12 rfl (ty := tyX12 1) (tyX12_ok 1 (by decide)) rfl rfl dX12_clear_12 ?_
  refine V.iload_n (pc := 15) hG dX12_clear_15 rfl 0 rfl ?_
  exact fin dX12_clear_16 (((okI_st hi ((sR_l rfl))) _ _)) rfl ((okI_st ((okI_st hi ((sR_l rfl)))) ((sR_l rfl)))) hw ⟨rfl, h⟩
set_option maxRecDepth 100000 in
set_option maxHeartbeats 4000000 in
theorem sm_X12_is (l : Launch) (Δ : Wd) {i r : MI} {p1 : Int} (hp1 : sR p1) {Q : Int → Prop} (hi : okI i) (hw : Wf r) (h : wp_X12_is p1 i r Q) : Met l yX12_is (Cond.code yX12_is cX12_is 2 (some .boolean) :: gW) (sRm 0 0) (sPc Δ [.ref (sA Δ 504), .int (sJ p1)] i r) (sQi Δ (fun x i' r' => i = i' ∧ r = r' ∧ Q x)) 0 0 (sFr Δ) := by
  refine Ct.i (ty := .boolean) (by decide) rfl (Nat.le_of_ble_eq_true rfl) (fun Γ Q0 hG fin => ?_)
  have hG : okG Γ Δ l (sRm 0 0) cX12_is "SchedularyModel" 2 := hG
  show V Γ Δ 542 false i r 0 0 Q0 0 [(0, .ref (sA Δ 504)), (1, .int (sJ p1))] []
  have jn29 : ∀ (k0j29 : Int), sR k0j29 → s29_X12_is k0j29 i r Q → V Γ Δ 542 false i r 0 0 Q0 29 [] [.int (sJ k0j29)] := by
    intro k0j29 hk0j29 h
    obtain ⟨g2, h⟩ := h
    exact fin dX12_is_29 hk0j29 (nar_z g2) hi hw ⟨rfl, rfl, h⟩
  have jn28 : s28_X12_is i r Q → V Γ Δ 542 false i r 0 0 Q0 28 [] [] := by
    intro h
    refine V.iconst (pc := 28) hG dX12_is_28 ?_
    exact jn29 0 ((sR_l rfl)) h
  refine V.aload_n (pc := 0) hG dX12_is_0 rfl 0 rfl ?_
  refine V.getI (pc := 1) (ci := 14) (k := 4) (M := 49) (T := TX12) (o := 504) (kz := 4) hG a_504 a_504.n (by decide) hin_X12 rfl (by decide) (by decide) rfl kw_1696 rfl dX12_is_1 ?_
  refine V.aload_n (pc := 4) hG dX12_is_4 rfl 0 rfl ?_
  refine V.getI (pc := 5) (ci := 14) (k := 1) (M := 49) (T := TX12) (o := 504) (kz := 1) hG a_504 a_504.n (by decide) hin_X12 rfl (by decide) (by decide) rfl kw_1693 rfl dX12_is_5 ?_
  obtain ⟨t4, f5⟩ := h
  refine V.icmp_ge (pc := 8) (tgt := 28) hG ((hi _ _)) ((hi _ _)) dX12_is_8 (by decide) (fun c3 => ?_) (fun c3 => ?_)
  · have h := t4 c3
    clear t4 f5
    refine V.pick [] rfl ?_
    exact jn28 h
  · have h := f5 c3
    clear t4 f5
    refine V.aload_n (pc := 11) hG dX12_is_11 rfl 0 rfl ?_
    refine V.getR (x := 505) (pc := 12) (ci := 14) (k := 2) (M := 49) (T := TX12) (o := 504) (kz := 2) hG a_504 a_504.n (by decide) hin_X12 rfl (by decide) (by decide) rfl kw_1694 rfl ((hw).1 (504, 2, 505) (by decide)) (by decide) dX12_is_12 ?_
    refine V.aload_n (pc := 15) hG dX12_is_15 rfl 0 rfl ?_
    refine V.getI (pc := 16) (ci := 14) (k := 4) (M := 49) (T := TX12) (o := 504) (kz := 4) hG a_504 a_504.n (by decide) hin_X12 rfl (by decide) (by decide) rfl kw_1696 rfl dX12_is_16 ?_
    obtain ⟨g6, h⟩ := h
    refine V.cald (pc := 19) (z := 24) (o := 505) hG a_505 a_505.n ((hi _ _)) g6 dX12_is_19 ?_
    refine V.iload_n (pc := 20) hG dX12_is_20 rfl 1 rfl ?_
    obtain ⟨f9, t8⟩ := h
    refine V.icmp_ne (pc := 21) (tgt := 28) hG ((hi _ _)) hp1 dX12_is_21 (by decide) (fun c7 => ?_) (fun c7 => ?_)
    · have h := t8 c7
      clear t8 f9
      refine V.pick [] rfl ?_
      exact jn28 h
    · have h := f9 c7
      clear t8 f9
      refine V.iconst (pc := 24) hG dX12_is_24 ?_
      refine V.goto (pc := 25) (tgt := 29) hG dX12_is_25 (by decide) ?_
      refine V.pick [] rfl ?_
      exact jn29 1 ((sR_l rfl)) h
set_option maxRecDepth 100000 in
set_option maxHeartbeats 4000000 in
theorem sm_X12_isDigit (l : Launch) (Δ : Wd) {i r : MI}   {Q : Int → Prop} (hi : okI i) (hw : Wf r) (h : wp_X12_isDigit  i r Q) : Met l yX12_isDigit (Cond.code yX12_isDigit cX12_isDigit 1 (some .boolean) :: gW) (sRm 1 22) (sPc Δ [.ref (sA Δ 504)] i r) (sQi Δ (fun x i' r' => i = i' ∧ r = r' ∧ Q x)) 0 0 (sFr Δ) := by
  refine Ct.i (ty := .boolean) (by decide) rfl (Nat.le_of_ble_eq_true rfl) (fun Γ Q0 hG fin => ?_)
  have hG : okG Γ Δ l (sRm 1 22) cX12_isDigit "SchedularyModel" 1 := hG
  show V Γ Δ 542 false i r 0 0 Q0 0 [(0, .ref (sA Δ 504))] []
  have jn35 : ∀ (k0j35 : Int), sR k0j35 → s35_X12_isDigit k0j35 i r Q → V Γ Δ 542 false i r 0 0 Q0 35 [] [.int (sJ k0j35)] := by
    intro k0j35 hk0j35 h
    obtain ⟨g2, h⟩ := h
    exact fin dX12_isDigit_35 hk0j35 (nar_z g2) hi hw ⟨rfl, rfl, h⟩
  have jn34 : s34_X12_isDigit i r Q → V Γ Δ 542 false i r 0 0 Q0 34 [] [] := by
    intro h
    refine V.iconst (pc := 34) hG dX12_isDigit_34 ?_
    exact jn35 0 ((sR_l rfl)) h
  refine V.aload_n (pc := 0) hG dX12_isDigit_0 rfl 0 rfl ?_
  refine V.getI (pc := 1) (ci := 14) (k := 4) (M := 49) (T := TX12) (o := 504) (kz := 4) hG a_504 a_504.n (by decide) hin_X12 rfl (by decide) (by decide) rfl kw_1696 rfl dX12_isDigit_1 ?_
  refine V.aload_n (pc := 4) hG dX12_isDigit_4 rfl 0 rfl ?_
  refine V.getI (pc := 5) (ci := 14) (k := 1) (M := 49) (T := TX12) (o := 504) (kz := 1) hG a_504 a_504.n (by decide) hin_X12 rfl (by decide) (by decide) rfl kw_1693 rfl dX12_isDigit_5 ?_
  obtain ⟨t4, f5⟩ := h
  refine V.icmp_ge (pc := 8) (tgt := 34) hG ((hi _ _)) ((hi _ _)) dX12_isDigit_8 (by decide) (fun c3 => ?_) (fun c3 => ?_)
  · have h := t4 c3
    clear t4 f5
    refine V.pick [] rfl ?_
    exact jn34 h
  · have h := f5 c3
    clear t4 f5
    refine V.aload_n (pc := 11) hG dX12_isDigit_11 rfl 0 rfl ?_
    refine V.getR (x := 505) (pc := 12) (ci := 14) (k := 2) (M := 49) (T := TX12) (o := 504) (kz := 2) hG a_504 a_504.n (by decide) hin_X12 rfl (by decide) (by decide) rfl kw_1694 rfl ((hw).1 (504, 2, 505) (by decide)) (by decide) dX12_isDigit_12 ?_
    refine V.aload_n (pc := 15) hG dX12_isDigit_15 rfl 0 rfl ?_
    refine V.getI (pc := 16) (ci := 14) (k := 4) (M := 49) (T := TX12) (o := 504) (kz := 4) hG a_504 a_504.n (by decide) hin_X12 rfl (by decide) (by decide) rfl kw_1696 rfl dX12_isDigit_16 ?_
    obtain ⟨g6, h⟩ := h
    refine V.cald (pc := 19) (z := 24) (o := 505) hG a_505 a_505.n ((hi _ _)) g6 dX12_isDigit_19 ?_
    refine V.bipush (pc := 20) hG dX12_isDigit_20 (by decide) ?_
    refine V.bipush (pc := 22) hG dX12_isDigit_22 (by decide) ?_
    refine V.callSi (pc := 24) (As := [.int (sJ (i 505 (i 504 4))), .int (sJ 48), .int (sJ 57)]) (stk := []) hG (sm_X12_in l Δ ((hi _ _)) ((sR_l rfl)) ((sR_l rfl)) hi hw h) mY_X12_in kw_1848 kw_1849 ⟨Nat.le_of_ble_eq_true rfl, Nat.le_of_ble_eq_true rfl, Nat.le_of_ble_eq_true rfl, Nat.le_of_ble_eq_true rfl⟩ rfl (Nat.le_of_ble_eq_true rfl) dX12_isDigit_24 rfl (fun v7 i8 r9 hv10 hi11 hw12 hq13 => ?_)
    obtain ⟨e17, e18, h⟩ := hq13
    subst e17
    subst e18
    obtain ⟨t15, f16⟩ := h
    refine V.if_eq (pc := 27) (tgt := 34) hG hv10 dX12_isDigit_27 (by decide) (fun c14 => ?_) (fun c14 => ?_)
    · have h := t15 c14
      clear t15 f16
      refine V.pick [] rfl ?_
      exact jn34 h
    · have h := f16 c14
      clear t15 f16
      refine V.iconst (pc := 30) hG dX12_isDigit_30 ?_
      refine V.goto (pc := 31) (tgt := 35) hG dX12_isDigit_31 (by decide) ?_
      refine V.pick [] rfl ?_
      exact jn35 1 ((sR_l rfl)) h
set_option maxRecDepth 100000 in
set_option maxHeartbeats 4000000 in
theorem sm_X12_wrong (l : Launch) (Δ : Wd) {i r : MI}   {Q : Int → MI → Prop} (hi : okI i) (hw : Wf r) (h : wp_X12_wrong  i r Q) : Met l yX12_wrong (Cond.code yX12_wrong cX12_wrong 1 (some .boolean) :: gW) (sRm 0 0) (sPc Δ [.ref (sA Δ 504)] i r) (sQi Δ (fun x i' r' => r = r' ∧ Q x i')) 0 0 (sFr Δ) := by
  refine Ct.i (ty := .boolean) (by decide) rfl (Nat.le_of_ble_eq_true rfl) (fun Γ Q0 hG fin => ?_)
  have hG : okG Γ Δ l (sRm 0 0) cX12_wrong "SchedularyModel" 1 := hG
  show V Γ Δ 542 false i r 0 0 Q0 0 [(0, .ref (sA Δ 504))] []
  have jn20 : ∀ (k1j20 : Int) (ij20 : MI), sR k1j20 → okI ij20 → s20_X12_wrong k1j20 ij20 r Q → V Γ Δ 542 false ij20 r 0 0 Q0 20 [] [.int (sJ k1j20), .ref (sA Δ 504)] := by
    intro k1j20 ij20 hk1j20 hij20 h
    refine V.putI (pc := 20) (ci := 14) (k := 5) (M := 49) (T := TX12) (o := 504) (kz := 5) hG a_504 a_504.n (by decide) hin_X12 rfl (by decide) (by decide) rfl kw_1697 rfl tyX12 tyX12_ok nmX12 rfl (ty := tyX12 5) (tyX12_ok 5 (by decide)) rfl rfl dX12_wrong_20 ?_
    refine V.iconst (pc := 23) hG dX12_wrong_23 ?_
    exact fin dX12_wrong_24 ((sR_l rfl)) (nar_z (by decide)) ((okI_st hij20 hk1j20)) hw ⟨rfl, h⟩
  refine V.aload_n (pc := 0) hG dX12_wrong_0 rfl 0 rfl ?_
  refine V.aload_n (pc := 1) hG dX12_wrong_1 rfl 0 rfl ?_
  refine V.getI (pc := 2) (ci := 14) (k := 5) (M := 49) (T := TX12) (o := 504) (kz := 5) hG a_504 a_504.n (by decide) hin_X12 rfl (by decide) (by decide) rfl kw_1697 rfl dX12_wrong_2 ?_
  refine V.iconst (pc := 5) hG dX12_wrong_5 ?_
  obtain ⟨f3, t2⟩ := h
  refine V.icmp_ne (pc := 6) (tgt := 16) hG ((hi _ _)) ((sR_l rfl)) dX12_wrong_6 (by decide) (fun c1 => ?_) (fun c1 => ?_)
  · have h := t2 c1
    clear t2 f3
    refine V.aload_n (pc := 16) hG dX12_wrong_16 rfl 0 rfl ?_
    refine V.getI (pc := 17) (ci := 14) (k := 5) (M := 49) (T := TX12) (o := 504) (kz := 5) hG a_504 a_504.n (by decide) hin_X12 rfl (by decide) (by decide) rfl kw_1697 rfl dX12_wrong_17 ?_
    refine V.pick [] rfl ?_
    exact jn20 (i 504 5) i ((hi _ _)) hi h
  · have h := f3 c1
    clear t2 f3
    refine V.aload_n (pc := 9) hG dX12_wrong_9 rfl 0 rfl ?_
    refine V.getI (pc := 10) (ci := 14) (k := 4) (M := 49) (T := TX12) (o := 504) (kz := 4) hG a_504 a_504.n (by decide) hin_X12 rfl (by decide) (by decide) rfl kw_1696 rfl dX12_wrong_10 ?_
    refine V.goto (pc := 13) (tgt := 20) hG dX12_wrong_13 (by decide) ?_
    refine V.pick [] rfl ?_
    exact jn20 (i 504 4) i ((hi _ _)) hi h
set_option maxRecDepth 100000 in
set_option maxHeartbeats 4000000 in
theorem sm_X12_eats (l : Launch) (Δ : Wd) {i r : MI} {p1 : Int} (hp1 : sR p1) {Q : Int → MI → Prop} (hi : okI i) (hw : Wf r) (h : wp_X12_eats p1 i r Q) : Met l yX12_eats (Cond.code yX12_eats cX12_eats 2 (some .boolean) :: gW) (sRm 1 21) (sPc Δ [.ref (sA Δ 504), .int (sJ p1)] i r) (sQi Δ (fun x i' r' => r = r' ∧ Q x i')) 0 0 (sFr Δ) := by
  refine Ct.i (ty := .boolean) (by decide) rfl (Nat.le_of_ble_eq_true rfl) (fun Γ Q0 hG fin => ?_)
  have hG : okG Γ Δ l (sRm 1 21) cX12_eats "SchedularyModel" 2 := hG
  show V Γ Δ 542 false i r 0 0 Q0 0 [(0, .ref (sA Δ 504)), (1, .int (sJ p1))] []
  refine V.aload_n (pc := 0) hG dX12_eats_0 rfl 0 rfl ?_
  refine V.iload_n (pc := 1) hG dX12_eats_1 rfl 1 rfl ?_
  refine V.callVi (pc := 2) (As := [.int (sJ p1)]) (stk := []) hG (sm_X12_is l Δ hp1 hi hw h) mY_X12_is kw_1873 kw_1875 kw_109 a_504 (by decide) (q := (RX12, TX12, 49)) rfl rfl ⟨Nat.le_of_ble_eq_true rfl, Nat.le_of_ble_eq_true rfl, Nat.le_of_ble_eq_true rfl, Nat.le_of_ble_eq_true rfl⟩ rfl (Nat.le_of_ble_eq_true rfl) dX12_eats_2 rfl (fun v1 i2 r3 hv4 hi5 hw6 hq7 => ?_)
  obtain ⟨e21, e22, h⟩ := hq7
  subst e21
  subst e22
  obtain ⟨f10, t9⟩ := h
  refine V.if_ne (pc := 5) (tgt := 13) hG hv4 dX12_eats_5 (by decide) (fun c8 => ?_) (fun c8 => ?_)
  · have h := t9 c8
    clear t9 f10
    refine V.aload_n (pc := 13) hG dX12_eats_13 rfl 0 rfl ?_
    refine V.dup (pc := 14) hG dX12_eats_14 rfl ?_
    refine V.getI (pc := 15) (ci := 14) (k := 4) (M := 49) (T := TX12) (o := 504) (kz := 4) hG a_504 a_504.n (by decide) hin_X12 rfl (by decide) (by decide) rfl kw_1696 rfl dX12_eats_15 ?_
    refine V.iconst (pc := 18) hG dX12_eats_18 ?_
    refine V.iadd (pc := 19) hG dX12_eats_19 ?_
    refine V.putI (pc := 20) (ci := 14) (k := 4) (M := 49) (T := TX12) (o := 504) (kz := 4) hG a_504 a_504.n (by decide) hin_X12 rfl (by decide) (by decide) rfl kw_1696 rfl tyX12 tyX12_ok nmX12 rfl (ty := tyX12 4) (tyX12_ok 4 (by decide)) rfl rfl dX12_eats_20 ?_
    refine V.iconst (pc := 23) hG dX12_eats_23 ?_
    exact fin dX12_eats_24 ((sR_l rfl)) (nar_z (by decide)) ((okI_st hi ((sR_wr _)))) hw ⟨rfl, h⟩
  · have h := f10 c8
    clear t9 f10
    refine V.aload_n (pc := 8) hG dX12_eats_8 rfl 0 rfl ?_
    refine V.callVi (pc := 9) (As := []) (stk := []) hG (sm_X12_wrong l Δ  hi hw h) mY_X12_wrong kw_1881 kw_1883 kw_111 a_504 (by decide) (q := (RX12, TX12, 49)) rfl rfl ⟨Nat.le_of_ble_eq_true rfl, Nat.le_of_ble_eq_true rfl, Nat.le_of_ble_eq_true rfl, Nat.le_of_ble_eq_true rfl⟩ rfl (Nat.le_of_ble_eq_true rfl) dX12_eats_9 rfl (fun v11 i12 r13 hv14 hi15 hw16 hq17 => ?_)
    obtain ⟨e20, h⟩ := hq17
    subst e20
    obtain ⟨g18, h⟩ := h
    exact fin dX12_eats_12 hv14 (nar_z g18) hi15 hw ⟨rfl, h⟩
set_option maxRecDepth 100000 in
set_option maxHeartbeats 4000000 in
theorem sm_X12_number (l : Launch) (Δ : Wd) {i r : MI} {p1 : Int} (hp1 : sR p1) {Q : Int → MI → Prop} (hi : okI i) (hw : Wf r) (h : wp_X12_number p1 i r Q) : Met l yX12_number (Cond.code yX12_number cX12_number 4 (some .int) :: gW) (sRm 2 42) (sPc Δ [.ref (sA Δ 504), .int (sJ p1)] i r) (sQi Δ (fun x i' r' => r = r' ∧ Q x i')) 0 0 (sFr Δ) := by
  refine Ct.i (ty := .int) (by decide) rfl (Nat.le_of_ble_eq_true rfl) (fun Γ Q0 hG fin => ?_)
  have hG : okG Γ Δ l (sRm 2 42) cX12_number "SchedularyModel" 4 := hG
  show V Γ Δ 542 false i r 0 0 Q0 0 [(0, .ref (sA Δ 504)), (1, .int (sJ p1))] []
  have jn50 : ∀ (x2j50 : Int) (ij50 : MI), sR x2j50 → okI ij50 → s50_X12_number x2j50 ij50 r Q → V Γ Δ 542 false ij50 r 0 0 Q0 50 [(2, .int (sJ x2j50))] [] := by
    intro x2j50 ij50 hx2j50 hij50 h
    refine V.iload_n (pc := 50) hG dX12_number_50 rfl 0 rfl ?_
    exact fin dX12_number_51 hx2j50 rfl hij50 hw ⟨rfl, h⟩
  refine V.iconst (pc := 0) hG dX12_number_0 ?_
  refine V.istore_n (pc := 1) (lv' := [(2, .int (sJ 0)), (0, .ref (sA Δ 504)), (1, .int (sJ p1))]) hG dX12_number_1 rfl (by decide) rfl ?_
  refine V.iconst (pc := 2) hG dX12_number_2 ?_
  refine V.istore_n (pc := 3) (lv' := [(3, .int (sJ 0)), (2, .int (sJ 0)), (0, .ref (sA Δ 504)), (1, .int (sJ p1))]) hG dX12_number_3 rfl (by decide) rfl ?_
  obtain ⟨n17, h⟩ := h
  have lp4 : ∀ (m4 : Nat) (x2_4 : Int) (x3_4 : Int) (i_4 : MI), sR x2_4 → sR x3_4 → okI i_4 → LoopP (b4_X12_number p1 r Q) m4 (x2_4, x3_4, i_4) → V Γ Δ 542 false i_4 r 0 0 Q0 4 [(0, .ref (sA Δ 504)), (1, .int (sJ p1)), (2, .int (sJ x2_4)), (3, .int (sJ x3_4))] [] := by
    intro m4
    induction m4 with
    | zero => intro x2_4 x3_4 i_4 hx2_4 hx3_4 hi_4 h; exact h.elim
    | succ m4 ih4 =>
      intro x2_4 x3_4 i_4 hx2_4 hx3_4 hi_4 h
      have h := LoopP_succ h
      refine V.iload_n (pc := 4) hG dX12_number_4 rfl 3 rfl ?_
      refine V.iload_n (pc := 5) hG dX12_number_5 rfl 1 rfl ?_
      obtain ⟨t19, f20⟩ := h
      refine V.icmp_ge (pc := 6) (tgt := 50) hG hx3_4 hp1 dX12_number_6 (by decide) (fun c18 => ?_) (fun c18 => ?_)
      · have h := t19 c18
        clear t19 f20
        refine V.pick [2] rfl ?_
        exact jn50 x2_4 i_4 hx2_4 hi_4 h
      · have h := f20 c18
        clear t19 f20
        refine V.aload_n (pc := 9) hG dX12_number_9 rfl 0 rfl ?_
        refine V.callVi (pc := 10) (As := []) (stk := []) hG (sm_X12_isDigit l Δ  hi_4 hw h) mY_X12_isDigit kw_1889 kw_1891 kw_113 a_504 (by decide) (q := (RX12, TX12, 49)) rfl rfl ⟨Nat.le_of_ble_eq_true rfl, Nat.le_of_ble_eq_true rfl, Nat.le_of_ble_eq_true rfl, Nat.le_of_ble_eq_true rfl⟩ rfl (Nat.le_of_ble_eq_true rfl) dX12_number_10 rfl (fun v21 i22 r23 hv24 hi25 hw26 hq27 => ?_)
        obtain ⟨e32, e33, h⟩ := hq27
        subst e32
        subst e33
        obtain ⟨t29, f30⟩ := h
        refine V.if_eq (pc := 13) (tgt := 50) hG hv24 dX12_number_13 (by decide) (fun c28 => ?_) (fun c28 => ?_)
        · have h := t29 c28
          clear t29 f30
          refine V.pick [2] rfl ?_
          exact jn50 x2_4 i_4 hx2_4 hi_4 h
        · have h := f30 c28
          clear t29 f30
          refine V.bipush (pc := 16) hG dX12_number_16 (by decide) ?_
          refine V.iload_n (pc := 18) hG dX12_number_18 rfl 2 rfl ?_
          refine V.imul (pc := 19) hG dX12_number_19 ?_
          refine V.aload_n (pc := 20) hG dX12_number_20 rfl 0 rfl ?_
          refine V.getR (x := 505) (pc := 21) (ci := 14) (k := 2) (M := 49) (T := TX12) (o := 504) (kz := 2) hG a_504 a_504.n (by decide) hin_X12 rfl (by decide) (by decide) rfl kw_1694 rfl ((hw).1 (504, 2, 505) (by decide)) (by decide) dX12_number_21 ?_
          refine V.aload_n (pc := 24) hG dX12_number_24 rfl 0 rfl ?_
          refine V.getI (pc := 25) (ci := 14) (k := 4) (M := 49) (T := TX12) (o := 504) (kz := 4) hG a_504 a_504.n (by decide) hin_X12 rfl (by decide) (by decide) rfl kw_1696 rfl dX12_number_25 ?_
          obtain ⟨g31, h⟩ := h
          refine V.cald (pc := 28) (z := 24) (o := 505) hG a_505 a_505.n ((hi_4 _ _)) g31 dX12_number_28 ?_
          refine V.iadd (pc := 29) hG dX12_number_29 ?_
          refine V.bipush (pc := 30) hG dX12_number_30 (by decide) ?_
          refine V.isub (pc := 32) hG dX12_number_32 ?_
          refine V.istore_n (pc := 33) (lv' := [(2, .int (sJ (wr (wr (wr (10 * x2_4) + i_4 505 (i_4 504 4)) - 48)))), (0, .ref (sA Δ 504)), (1, .int (sJ p1)), (3, .int (sJ x3_4))]) hG dX12_number_33 rfl (by decide) rfl ?_
          refine V.aload_n (pc := 34) hG dX12_number_34 rfl 1 rfl ?_
          refine V.dup (pc := 35) hG dX12_number_35 rfl ?_
          refine V.getI (pc := 36) (ci := 14) (k := 4) (M := 49) (T := TX12) (o := 504) (kz := 4) hG a_504 a_504.n (by decide) hin_X12 rfl (by decide) (by decide) rfl kw_1696 rfl dX12_number_36 ?_
          refine V.iconst (pc := 39) hG dX12_number_39 ?_
          refine V.iadd (pc := 40) hG dX12_number_40 ?_
          refine V.putI (pc := 41) (ci := 14) (k := 4) (M := 49) (T := TX12) (o := 504) (kz := 4) hG a_504 a_504.n (by decide) hin_X12 rfl (by decide) (by decide) rfl kw_1696 rfl tyX12 tyX12_ok nmX12 rfl (ty := tyX12 4) (tyX12_ok 4 (by decide)) rfl rfl dX12_number_41 ?_
          refine V.iinc (pc := 44) (lv' := [(3, .int (sJ (wr (x3_4 + 1)))), (2, .int (sJ (wr (wr (wr (10 * x2_4) + i_4 505 (i_4 504 4)) - 48)))), (0, .ref (sA Δ 504)), (1, .int (sJ p1))]) hG dX12_number_44 3 rfl (by decide) rfl ?_
          refine V.goto (pc := 47) (tgt := 4) hG dX12_number_47 (by decide) ?_
          refine V.pick [2, 3, 1, 0] rfl ?_
          exact ih4 (wr (wr (wr (10 * x2_4) + i_4 505 (i_4 504 4)) - 48)) (wr (x3_4 + 1)) (st i_4 504 4 (wr (i_4 504 4 + 1))) ((sR_wr _)) ((sR_wr _)) ((okI_st hi_4 ((sR_wr _)))) h
  refine V.pick [2, 3, 1, 0] rfl ?_
  exact lp4 n17 0 0 i ((sR_l rfl)) ((sR_l rfl)) hi h
set_option maxRecDepth 100000 in
set_option maxHeartbeats 4000000 in
theorem sm_X12_index (l : Launch) (Δ : Wd) {i r : MI} {p1 : Int} (hp1 : sR p1) {Q : Int → MI → Prop} (hi : okI i) (hw : Wf r) (h : wp_X12_index p1 i r Q) : Met l yX12_index (Cond.code yX12_index cX12_index 3 (some .boolean) :: gW) (sRm 3 65) (sPc Δ [.ref (sA Δ 504), .int (sJ p1)] i r) (sQi Δ (fun x i' r' => r = r' ∧ Q x i')) 0 0 (sFr Δ) := by
  refine Ct.i (ty := .boolean) (by decide) rfl (Nat.le_of_ble_eq_true rfl) (fun Γ Q0 hG fin => ?_)
  have hG : okG Γ Δ l (sRm 3 65) cX12_index "SchedularyModel" 3 := hG
  show V Γ Δ 542 false i r 0 0 Q0 0 [(0, .ref (sA Δ 504)), (1, .int (sJ p1))] []
  have jn143 : ∀  (ij143 : MI), okI ij143 → s143_X12_index ij143 r Q → V Γ Δ 542 false ij143 r 0 0 Q0 143 [(0, .ref (sA Δ 504))] [] := by
    intro ij143 hij143 h
    refine V.aload_n (pc := 143) hG dX12_index_143 rfl 0 rfl ?_
    refine V.bipush (pc := 144) hG dX12_index_144 (by decide) ?_
    refine V.callVi (pc := 146) (As := [.int (sJ 93)]) (stk := []) hG (sm_X12_eats l Δ ((sR_l rfl)) hij143 hw h) mY_X12_eats kw_1877 kw_1879 kw_110 a_504 (by decide) (q := (RX12, TX12, 49)) rfl rfl ⟨Nat.le_of_ble_eq_true rfl, Nat.le_of_ble_eq_true rfl, Nat.le_of_ble_eq_true rfl, Nat.le_of_ble_eq_true rfl⟩ rfl (Nat.le_of_ble_eq_true rfl) dX12_index_146 rfl (fun v11 i12 r13 hv14 hi15 hw16 hq17 => ?_)
    obtain ⟨e20, h⟩ := hq17
    subst e20
    obtain ⟨g18, h⟩ := h
    exact fin dX12_index_149 hv14 (nar_z g18) hi15 hw ⟨rfl, h⟩
  have jn67 : ∀ (k0j67 : Int) (ij67 : MI), sR k0j67 → okI ij67 → s67_X12_index p1 k0j67 ij67 r Q → V Γ Δ 542 false ij67 r 0 0 Q0 67 [(0, .ref (sA Δ 504)), (1, .int (sJ p1))] [.int (sJ k0j67)] := by
    intro k0j67 ij67 hk0j67 hij67 h
    refine V.istore_n (pc := 67) (lv' := [(2, .int (sJ k0j67)), (0, .ref (sA Δ 504)), (1, .int (sJ p1))]) hG dX12_index_67 rfl (by decide) rfl ?_
    refine V.aload_n (pc := 68) hG dX12_index_68 rfl 1 rfl ?_
    refine V.dup (pc := 69) hG dX12_index_69 rfl ?_
    refine V.getI (pc := 70) (ci := 14) (k := 4) (M := 49) (T := TX12) (o := 504) (kz := 4) hG a_504 a_504.n (by decide) hin_X12 rfl (by decide) (by decide) rfl kw_1696 rfl dX12_index_70 ?_
    refine V.iconst (pc := 73) hG dX12_index_73 ?_
    refine V.iadd (pc := 74) hG dX12_index_74 ?_
    refine V.putI (pc := 75) (ci := 14) (k := 4) (M := 49) (T := TX12) (o := 504) (kz := 4) hG a_504 a_504.n (by decide) hin_X12 rfl (by decide) (by decide) rfl kw_1696 rfl tyX12 tyX12_ok nmX12 rfl (ty := tyX12 4) (tyX12_ok 4 (by decide)) rfl rfl dX12_index_75 ?_
    refine V.aload_n (pc := 78) hG dX12_index_78 rfl 1 rfl ?_
    refine V.callVi (pc := 79) (As := []) (stk := []) hG (sm_X12_isDigit l Δ  ((okI_st hij67 ((sR_wr _)))) hw h) mY_X12_isDigit kw_1889 kw_1891 kw_113 a_504 (by decide) (q := (RX12, TX12, 49)) rfl rfl ⟨Nat.le_of_ble_eq_true rfl, Nat.le_of_ble_eq_true rfl, Nat.le_of_ble_eq_true rfl, Nat.le_of_ble_eq_true rfl⟩ rfl (Nat.le_of_ble_eq_true rfl) dX12_index_79 rfl (fun v53 i54 r55 hv56 hi57 hw58 hq59 => ?_)
    obtain ⟨e83, e84, h⟩ := hq59
    subst e83
    subst e84
    obtain ⟨f62, t61⟩ := h
    refine V.if_ne (pc := 82) (tgt := 90) hG hv56 dX12_index_82 (by decide) (fun c60 => ?_) (fun c60 => ?_)
    · have h := t61 c60
      clear t61 f62
      refine V.aload_n (pc := 90) hG dX12_index_90 rfl 1 rfl ?_
      refine V.getR (x := 506) (pc := 91) (ci := 14) (k := 3) (M := 49) (T := TX12) (o := 504) (kz := 3) hG a_504 a_504.n (by decide) hin_X12 rfl (by decide) (by decide) rfl kw_1695 rfl ((hw).1 (504, 3, 506) (by decide)) (by decide) dX12_index_91 ?_
      refine V.iload_n (pc := 94) hG dX12_index_94 rfl 2 rfl ?_
      refine V.iconst (pc := 95) hG dX12_index_95 ?_
      refine V.iadd (pc := 96) hG dX12_index_96 ?_
      refine V.iload_n (pc := 97) hG dX12_index_97 rfl 0 rfl ?_
      refine V.aload_n (pc := 98) hG dX12_index_98 rfl 1 rfl ?_
      refine V.iconst (pc := 99) hG dX12_index_99 ?_
      refine V.callVi (pc := 100) (As := [.int (sJ 1)]) (stk := [.int (sJ k0j67), .int (sJ (wr (p1 + 1))), .ref (sA Δ 506)]) hG (sm_X12_number l Δ ((sR_l rfl)) ((okI_st hij67 ((sR_wr _)))) hw h) mY_X12_number kw_1893 kw_1895 kw_114 a_504 (by decide) (q := (RX12, TX12, 49)) rfl rfl ⟨Nat.le_of_ble_eq_true rfl, Nat.le_of_ble_eq_true rfl, Nat.le_of_ble_eq_true rfl, Nat.le_of_ble_eq_true rfl⟩ rfl (Nat.le_of_ble_eq_true rfl) dX12_index_100 rfl (fun v63 i64 r65 hv66 hi67 hw68 hq69 => ?_)
      obtain ⟨e72, h⟩ := hq69
      subst e72
      refine V.imul (pc := 103) hG dX12_index_103 ?_
      obtain ⟨g70, h⟩ := h
      refine V.iast (pc := 104) (z := 13) (o := 506) hG a_506 a_506.n ((sR_wr _)) g70 dX12_index_104 ?_
      refine V.goto (pc := 105) (tgt := 143) hG dX12_index_105 (by decide) ?_
      refine V.pick [1] rfl ?_
      exact jn143 (st i64 506 (wr (p1 + 1)) (wr (k0j67 * v63))) ((okI_st hi67 ((sR_wr _)))) h
    · have h := f62 c60
      clear t61 f62
      refine V.aload_n (pc := 85) hG dX12_index_85 rfl 1 rfl ?_
      refine V.callVi (pc := 86) (As := []) (stk := []) hG (sm_X12_wrong l Δ  ((okI_st hij67 ((sR_wr _)))) hw h) mY_X12_wrong kw_1881 kw_1883 kw_111 a_504 (by decide) (q := (RX12, TX12, 49)) rfl rfl ⟨Nat.le_of_ble_eq_true rfl, Nat.le_of_ble_eq_true rfl, Nat.le_of_ble_eq_true rfl, Nat.le_of_ble_eq_true rfl⟩ rfl (Nat.le_of_ble_eq_true rfl) dX12_index_86 rfl (fun v73 i74 r75 hv76 hi77 hw78 hq79 => ?_)
      obtain ⟨e82, h⟩ := hq79
      subst e82
      obtain ⟨g80, h⟩ := h
      exact fin dX12_index_89 hv76 (nar_z g80) hi77 hw ⟨rfl, h⟩
  have jn53 : ∀  (ij53 : MI), okI ij53 → s53_X12_index p1 ij53 r Q → V Γ Δ 542 false ij53 r 0 0 Q0 53 [(0, .ref (sA Δ 504)), (1, .int (sJ p1))] [] := by
    intro ij53 hij53 h
    refine V.aload_n (pc := 53) hG dX12_index_53 rfl 0 rfl ?_
    refine V.bipush (pc := 54) hG dX12_index_54 (by decide) ?_
    refine V.callVi (pc := 56) (As := [.int (sJ 43)]) (stk := []) hG (sm_X12_is l Δ ((sR_l rfl)) hij53 hw h) mY_X12_is kw_1873 kw_1875 kw_109 a_504 (by decide) (q := (RX12, TX12, 49)) rfl rfl ⟨Nat.le_of_ble_eq_true rfl, Nat.le_of_ble_eq_true rfl, Nat.le_of_ble_eq_true rfl, Nat.le_of_ble_eq_true rfl⟩ rfl (Nat.le_of_ble_eq_true rfl) dX12_index_56 rfl (fun v97 i98 r99 hv100 hi101 hw102 hq103 => ?_)
    obtain ⟨e107, e108, h⟩ := hq103
    subst e107
    subst e108
    obtain ⟨t105, f106⟩ := h
    refine V.if_eq (pc := 59) (tgt := 66) hG hv100 dX12_index_59 (by decide) (fun c104 => ?_) (fun c104 => ?_)
    · have h := t105 c104
      clear t105 f106
      refine V.iconst (pc := 66) hG dX12_index_66 ?_
      exact jn67 (-1) ij53 ((sR_l rfl)) hij53 h
    · have h := f106 c104
      clear t105 f106
      refine V.iconst (pc := 62) hG dX12_index_62 ?_
      refine V.goto (pc := 63) (tgt := 67) hG dX12_index_63 (by decide) ?_
      exact jn67 1 ij53 ((sR_l rfl)) hij53 h
  refine V.aload_n (pc := 0) hG dX12_index_0 rfl 0 rfl ?_
  refine V.getR (x := 506) (pc := 1) (ci := 14) (k := 3) (M := 49) (T := TX12) (o := 504) (kz := 3) hG a_504 a_504.n (by decide) hin_X12 rfl (by decide) (by decide) rfl kw_1695 rfl ((hw).1 (504, 3, 506) (by decide)) (by decide) dX12_index_1 ?_
  refine V.iload_n (pc := 4) hG dX12_index_4 rfl 1 rfl ?_
  refine V.iconst (pc := 5) hG dX12_index_5 ?_
  refine V.iadd (pc := 6) hG dX12_index_6 ?_
  refine V.iconst (pc := 7) hG dX12_index_7 ?_
  obtain ⟨g109, h⟩ := h
  refine V.iast (pc := 8) (z := 13) (o := 506) hG a_506 a_506.n ((sR_wr _)) g109 dX12_index_8 ?_
  refine V.aload_n (pc := 9) hG dX12_index_9 rfl 0 rfl ?_
  refine V.bipush (pc := 10) hG dX12_index_10 (by decide) ?_
  refine V.callVi (pc := 12) (As := [.int (sJ 105)]) (stk := []) hG (sm_X12_is l Δ ((sR_l rfl)) ((okI_st hi ((sR_l rfl)))) hw h) mY_X12_is kw_1873 kw_1875 kw_109 a_504 (by decide) (q := (RX12, TX12, 49)) rfl rfl ⟨Nat.le_of_ble_eq_true rfl, Nat.le_of_ble_eq_true rfl, Nat.le_of_ble_eq_true rfl, Nat.le_of_ble_eq_true rfl⟩ rfl (Nat.le_of_ble_eq_true rfl) dX12_index_12 rfl (fun v110 i111 r112 hv113 hi114 hw115 hq116 => ?_)
  obtain ⟨e178, e179, h⟩ := hq116
  subst e178
  subst e179
  obtain ⟨t118, f119⟩ := h
  refine V.if_eq (pc := 15) (tgt := 108) hG hv113 dX12_index_15 (by decide) (fun c117 => ?_) (fun c117 => ?_)
  · have h := t118 c117
    clear t118 f119
    refine V.aload_n (pc := 108) hG dX12_index_108 rfl 0 rfl ?_
    refine V.callVi (pc := 109) (As := []) (stk := []) hG (sm_X12_isDigit l Δ  ((okI_st hi ((sR_l rfl)))) hw h) mY_X12_isDigit kw_1889 kw_1891 kw_113 a_504 (by decide) (q := (RX12, TX12, 49)) rfl rfl ⟨Nat.le_of_ble_eq_true rfl, Nat.le_of_ble_eq_true rfl, Nat.le_of_ble_eq_true rfl, Nat.le_of_ble_eq_true rfl⟩ rfl (Nat.le_of_ble_eq_true rfl) dX12_index_109 rfl (fun v120 i121 r122 hv123 hi124 hw125 hq126 => ?_)
    obtain ⟨e151, e152, h⟩ := hq126
    subst e151
    subst e152
    obtain ⟨t128, f129⟩ := h
    refine V.if_eq (pc := 112) (tgt := 138) hG hv123 dX12_index_112 (by decide) (fun c127 => ?_) (fun c127 => ?_)
    · have h := t128 c127
      clear t128 f129
      refine V.aload_n (pc := 138) hG dX12_index_138 rfl 0 rfl ?_
      refine V.callVi (pc := 139) (As := []) (stk := []) hG (sm_X12_wrong l Δ  ((okI_st hi ((sR_l rfl)))) hw h) mY_X12_wrong kw_1881 kw_1883 kw_111 a_504 (by decide) (q := (RX12, TX12, 49)) rfl rfl ⟨Nat.le_of_ble_eq_true rfl, Nat.le_of_ble_eq_true rfl, Nat.le_of_ble_eq_true rfl, Nat.le_of_ble_eq_true rfl⟩ rfl (Nat.le_of_ble_eq_true rfl) dX12_index_139 rfl (fun v130 i131 r132 hv133 hi134 hw135 hq136 => ?_)
      obtain ⟨e139, h⟩ := hq136
      subst e139
      obtain ⟨g137, h⟩ := h
      exact fin dX12_index_142 hv133 (nar_z g137) hi134 hw ⟨rfl, h⟩
    · have h := f129 c127
      clear t128 f129
      refine V.aload_n (pc := 115) hG dX12_index_115 rfl 0 rfl ?_
      refine V.getR (x := 506) (pc := 116) (ci := 14) (k := 3) (M := 49) (T := TX12) (o := 504) (kz := 3) hG a_504 a_504.n (by decide) hin_X12 rfl (by decide) (by decide) rfl kw_1695 rfl ((hw).1 (504, 3, 506) (by decide)) (by decide) dX12_index_116 ?_
      refine V.iload_n (pc := 119) hG dX12_index_119 rfl 1 rfl ?_
      refine V.iconst (pc := 120) hG dX12_index_120 ?_
      obtain ⟨g140, h⟩ := h
      refine V.iast (pc := 121) (z := 13) (o := 506) hG a_506 a_506.n hp1 g140 dX12_index_121 ?_
      refine V.aload_n (pc := 122) hG dX12_index_122 rfl 0 rfl ?_
      refine V.getR (x := 506) (pc := 123) (ci := 14) (k := 3) (M := 49) (T := TX12) (o := 504) (kz := 3) hG a_504 a_504.n (by decide) hin_X12 rfl (by decide) (by decide) rfl kw_1695 rfl ((hw).1 (504, 3, 506) (by decide)) (by decide) dX12_index_123 ?_
      refine V.iload_n (pc := 126) hG dX12_index_126 rfl 1 rfl ?_
      refine V.iconst (pc := 127) hG dX12_index_127 ?_
      refine V.iadd (pc := 128) hG dX12_index_128 ?_
      refine V.aload_n (pc := 129) hG dX12_index_129 rfl 0 rfl ?_
      refine V.iconst (pc := 130) hG dX12_index_130 ?_
      refine V.callVi (pc := 131) (As := [.int (sJ 2)]) (stk := [.int (sJ (wr (p1 + 1))), .ref (sA Δ 506)]) hG (sm_X12_number l Δ ((sR_l rfl)) ((okI_st ((okI_st hi ((sR_l rfl)))) ((sR_l rfl)))) hw h) mY_X12_number kw_1893 kw_1895 kw_114 a_504 (by decide) (q := (RX12, TX12, 49)) rfl rfl ⟨Nat.le_of_ble_eq_true rfl, Nat.le_of_ble_eq_true rfl, Nat.le_of_ble_eq_true rfl, Nat.le_of_ble_eq_true rfl⟩ rfl (Nat.le_of_ble_eq_true rfl) dX12_index_131 rfl (fun v141 i142 r143 hv144 hi145 hw146 hq147 => ?_)
      obtain ⟨e150, h⟩ := hq147
      subst e150
      obtain ⟨g148, h⟩ := h
      refine V.iast (pc := 134) (z := 13) (o := 506) hG a_506 a_506.n ((sR_wr _)) g148 dX12_index_134 ?_
      refine V.goto (pc := 135) (tgt := 143) hG dX12_index_135 (by decide) ?_
      refine V.pick [0] rfl ?_
      exact jn143 (st i142 506 (wr (p1 + 1)) v141) ((okI_st hi145 hv144)) h
  · have h := f119 c117
    clear t118 f119
    refine V.aload_n (pc := 18) hG dX12_index_18 rfl 0 rfl ?_
    refine V.dup (pc := 19) hG dX12_index_19 rfl ?_
    refine V.getI (pc := 20) (ci := 14) (k := 4) (M := 49) (T := TX12) (o := 504) (kz := 4) hG a_504 a_504.n (by decide) hin_X12 rfl (by decide) (by decide) rfl kw_1696 rfl dX12_index_20 ?_
    refine V.iconst (pc := 23) hG dX12_index_23 ?_
    refine V.iadd (pc := 24) hG dX12_index_24 ?_
    refine V.putI (pc := 25) (ci := 14) (k := 4) (M := 49) (T := TX12) (o := 504) (kz := 4) hG a_504 a_504.n (by decide) hin_X12 rfl (by decide) (by decide) rfl kw_1696 rfl tyX12 tyX12_ok nmX12 rfl (ty := tyX12 4) (tyX12_ok 4 (by decide)) rfl rfl dX12_index_25 ?_
    refine V.aload_n (pc := 28) hG dX12_index_28 rfl 0 rfl ?_
    refine V.getR (x := 506) (pc := 29) (ci := 14) (k := 3) (M := 49) (T := TX12) (o := 504) (kz := 3) hG a_504 a_504.n (by decide) hin_X12 rfl (by decide) (by decide) rfl kw_1695 rfl ((hw).1 (504, 3, 506) (by decide)) (by decide) dX12_index_29 ?_
    refine V.iload_n (pc := 32) hG dX12_index_32 rfl 1 rfl ?_
    refine V.iconst (pc := 33) hG dX12_index_33 ?_
    obtain ⟨g153, h⟩ := h
    refine V.iast (pc := 34) (z := 13) (o := 506) hG a_506 a_506.n hp1 g153 dX12_index_34 ?_
    refine V.aload_n (pc := 35) hG dX12_index_35 rfl 0 rfl ?_
    refine V.bipush (pc := 36) hG dX12_index_36 (by decide) ?_
    refine V.callVi (pc := 38) (As := [.int (sJ 43)]) (stk := []) hG (sm_X12_is l Δ ((sR_l rfl)) ((okI_st ((okI_st ((okI_st hi ((sR_l rfl)))) ((sR_wr _)))) ((sR_l rfl)))) hw h) mY_X12_is kw_1873 kw_1875 kw_109 a_504 (by decide) (q := (RX12, TX12, 49)) rfl rfl ⟨Nat.le_of_ble_eq_true rfl, Nat.le_of_ble_eq_true rfl, Nat.le_of_ble_eq_true rfl, Nat.le_of_ble_eq_true rfl⟩ rfl (Nat.le_of_ble_eq_true rfl) dX12_index_38 rfl (fun v154 i155 r156 hv157 hi158 hw159 hq160 => ?_)
    obtain ⟨e176, e177, h⟩ := hq160
    subst e176
    subst e177
    obtain ⟨f163, t162⟩ := h
    refine V.if_ne (pc := 41) (tgt := 53) hG hv157 dX12_index_41 (by decide) (fun c161 => ?_) (fun c161 => ?_)
    · have h := t162 c161
      clear t162 f163
      exact jn53 (st (st (st i 506 (wr (p1 + 1)) 0) 504 4 (wr ((st i 506 (wr (p1 + 1)) 0) 504 4 + 1))) 506 p1 1) ((okI_st ((okI_st ((okI_st hi ((sR_l rfl)))) ((sR_wr _)))) ((sR_l rfl)))) h
    · have h := f163 c161
      clear t162 f163
      refine V.aload_n (pc := 44) hG dX12_index_44 rfl 0 rfl ?_
      refine V.bipush (pc := 45) hG dX12_index_45 (by decide) ?_
      refine V.callVi (pc := 47) (As := [.int (sJ 45)]) (stk := []) hG (sm_X12_is l Δ ((sR_l rfl)) ((okI_st ((okI_st ((okI_st hi ((sR_l rfl)))) ((sR_wr _)))) ((sR_l rfl)))) hw h) mY_X12_is kw_1873 kw_1875 kw_109 a_504 (by decide) (q := (RX12, TX12, 49)) rfl rfl ⟨Nat.le_of_ble_eq_true rfl, Nat.le_of_ble_eq_true rfl, Nat.le_of_ble_eq_true rfl, Nat.le_of_ble_eq_true rfl⟩ rfl (Nat.le_of_ble_eq_true rfl) dX12_index_47 rfl (fun v164 i165 r166 hv167 hi168 hw169 hq170 => ?_)
      obtain ⟨e174, e175, h⟩ := hq170
      subst e174
      subst e175
      obtain ⟨t172, f173⟩ := h
      refine V.if_eq (pc := 50) (tgt := 143) hG hv167 dX12_index_50 (by decide) (fun c171 => ?_) (fun c171 => ?_)
      · have h := t172 c171
        clear t172 f173
        refine V.pick [0] rfl ?_
        exact jn143 (st (st (st i 506 (wr (p1 + 1)) 0) 504 4 (wr ((st i 506 (wr (p1 + 1)) 0) 504 4 + 1))) 506 p1 1) ((okI_st ((okI_st ((okI_st hi ((sR_l rfl)))) ((sR_wr _)))) ((sR_l rfl)))) h
      · have h := f173 c171
        clear t172 f173
        exact jn53 (st (st (st i 506 (wr (p1 + 1)) 0) 504 4 (wr ((st i 506 (wr (p1 + 1)) 0) 504 4 + 1))) 506 p1 1) ((okI_st ((okI_st ((okI_st hi ((sR_l rfl)))) ((sR_wr _)))) ((sR_l rfl)))) h
set_option maxRecDepth 100000 in
set_option maxHeartbeats 4000000 in
theorem sm_X12_part (l : Launch) (Δ : Wd) {i r : MI} {p1 : Int} {p2 : Int} (hp1 : sR p1) (hp2 : sR p2) {Q : Int → MI → Prop} (hi : okI i) (hw : Wf r) (h : wp_X12_part p1 p2 i r Q) : Met l yX12_part (Cond.code yX12_part cX12_part 3 (some .boolean) :: gW) (sRm 4 87) (sPc Δ [.ref (sA Δ 504), .int (sJ p1), .int (sJ p2)] i r) (sQi Δ (fun x i' r' => r = r' ∧ Q x i')) 0 0 (sFr Δ) := by
  refine Ct.i (ty := .boolean) (by decide) rfl (Nat.le_of_ble_eq_true rfl) (fun Γ Q0 hG fin => ?_)
  have hG : okG Γ Δ l (sRm 4 87) cX12_part "SchedularyModel" 3 := hG
  show V Γ Δ 542 false i r 0 0 Q0 0 [(0, .ref (sA Δ 504)), (1, .int (sJ p1)), (2, .int (sJ p2))] []
  have jn253 : ∀  (ij253 : MI), okI ij253 → s253_X12_part ij253 r Q → V Γ Δ 542 false ij253 r 0 0 Q0 253 [(0, .ref (sA Δ 504))] [] := by
    intro ij253 hij253 h
    refine V.aload_n (pc := 253) hG dX12_part_253 rfl 0 rfl ?_
    refine V.callVi (pc := 254) (As := []) (stk := []) hG (sm_X12_wrong l Δ  hij253 hw h) mY_X12_wrong kw_1881 kw_1883 kw_111 a_504 (by decide) (q := (RX12, TX12, 49)) rfl rfl ⟨Nat.le_of_ble_eq_true rfl, Nat.le_of_ble_eq_true rfl, Nat.le_of_ble_eq_true rfl, Nat.le_of_ble_eq_true rfl⟩ rfl (Nat.le_of_ble_eq_true rfl) dX12_part_254 rfl (fun v11 i12 r13 hv14 hi15 hw16 hq17 => ?_)
    obtain ⟨e20, h⟩ := hq17
    subst e20
    obtain ⟨g18, h⟩ := h
    exact fin dX12_part_257 hv14 (nar_z g18) hi15 hw ⟨rfl, h⟩
  have jn220 : ∀  (ij220 : MI), okI ij220 → s220_X12_part p1 p2 ij220 r Q → V Γ Δ 542 false ij220 r 0 0 Q0 220 [(0, .ref (sA Δ 504)), (1, .int (sJ p1)), (2, .int (sJ p2))] [] := by
    intro ij220 hij220 h
    refine V.iload_n (pc := 220) hG dX12_part_220 rfl 2 rfl ?_
    obtain ⟨f49, t48⟩ := h
    refine V.if_ne (pc := 221) (tgt := 253) hG hp2 dX12_part_221 (by decide) (fun c47 => ?_) (fun c47 => ?_)
    · have h := t48 c47
      clear t48 f49
      refine V.pick [0] rfl ?_
      exact jn253 ij220 hij220 h
    · have h := f49 c47
      clear t48 f49
      refine V.aload_n (pc := 224) hG dX12_part_224 rfl 0 rfl ?_
      refine V.callVi (pc := 225) (As := []) (stk := []) hG (sm_X12_isDigit l Δ  hij220 hw h) mY_X12_isDigit kw_1889 kw_1891 kw_113 a_504 (by decide) (q := (RX12, TX12, 49)) rfl rfl ⟨Nat.le_of_ble_eq_true rfl, Nat.le_of_ble_eq_true rfl, Nat.le_of_ble_eq_true rfl, Nat.le_of_ble_eq_true rfl⟩ rfl (Nat.le_of_ble_eq_true rfl) dX12_part_225 rfl (fun v50 i51 r52 hv53 hi54 hw55 hq56 => ?_)
      obtain ⟨e71, e72, h⟩ := hq56
      subst e71
      subst e72
      obtain ⟨t58, f59⟩ := h
      refine V.if_eq (pc := 228) (tgt := 253) hG hv53 dX12_part_228 (by decide) (fun c57 => ?_) (fun c57 => ?_)
      · have h := t58 c57
        clear t58 f59
        refine V.pick [0] rfl ?_
        exact jn253 ij220 hij220 h
      · have h := f59 c57
        clear t58 f59
        refine V.aload_n (pc := 231) hG dX12_part_231 rfl 0 rfl ?_
        refine V.getR (x := 506) (pc := 232) (ci := 14) (k := 3) (M := 49) (T := TX12) (o := 504) (kz := 3) hG a_504 a_504.n (by decide) hin_X12 rfl (by decide) (by decide) rfl kw_1695 rfl ((hw).1 (504, 3, 506) (by decide)) (by decide) dX12_part_232 ?_
        refine V.iload_n (pc := 235) hG dX12_part_235 rfl 1 rfl ?_
        refine V.iconst (pc := 236) hG dX12_part_236 ?_
        obtain ⟨g60, h⟩ := h
        refine V.iast (pc := 237) (z := 13) (o := 506) hG a_506 a_506.n hp1 g60 dX12_part_237 ?_
        refine V.aload_n (pc := 238) hG dX12_part_238 rfl 0 rfl ?_
        refine V.getR (x := 506) (pc := 239) (ci := 14) (k := 3) (M := 49) (T := TX12) (o := 504) (kz := 3) hG a_504 a_504.n (by decide) hin_X12 rfl (by decide) (by decide) rfl kw_1695 rfl ((hw).1 (504, 3, 506) (by decide)) (by decide) dX12_part_239 ?_
        refine V.iload_n (pc := 242) hG dX12_part_242 rfl 1 rfl ?_
        refine V.iconst (pc := 243) hG dX12_part_243 ?_
        refine V.iadd (pc := 244) hG dX12_part_244 ?_
        refine V.aload_n (pc := 245) hG dX12_part_245 rfl 0 rfl ?_
        refine V.iconst (pc := 246) hG dX12_part_246 ?_
        refine V.callVi (pc := 247) (As := [.int (sJ 2)]) (stk := [.int (sJ (wr (p1 + 1))), .ref (sA Δ 506)]) hG (sm_X12_number l Δ ((sR_l rfl)) ((okI_st hij220 ((sR_l rfl)))) hw h) mY_X12_number kw_1893 kw_1895 kw_114 a_504 (by decide) (q := (RX12, TX12, 49)) rfl rfl ⟨Nat.le_of_ble_eq_true rfl, Nat.le_of_ble_eq_true rfl, Nat.le_of_ble_eq_true rfl, Nat.le_of_ble_eq_true rfl⟩ rfl (Nat.le_of_ble_eq_true rfl) dX12_part_247 rfl (fun v61 i62 r63 hv64 hi65 hw66 hq67 => ?_)
        obtain ⟨e70, h⟩ := hq67
        subst e70
        obtain ⟨g68, h⟩ := h
        refine V.iast (pc := 250) (z := 13) (o := 506) hG a_506 a_506.n ((sR_wr _)) g68 dX12_part_250 ?_
        refine V.iconst (pc := 251) hG dX12_part_251 ?_
        exact fin dX12_part_252 ((sR_l rfl)) (nar_z (by decide)) ((okI_st hi65 hv64)) hw ⟨rfl, h⟩
  have jn163 : ∀ (k1j163 : Int) (ij163 : MI), sR k1j163 → okI ij163 → s163_X12_part p1 p2 k1j163 ij163 r Q → V Γ Δ 542 false ij163 r 0 0 Q0 163 [(0, .ref (sA Δ 504)), (1, .int (sJ p1)), (2, .int (sJ p2))] [.int (sJ k1j163), .ref (sA Δ 504)] := by
    intro k1j163 ij163 hk1j163 hij163 h
    refine V.callVi (pc := 163) (As := [.int (sJ k1j163)]) (stk := []) hG (sm_X12_is l Δ hk1j163 hij163 hw h) mY_X12_is kw_1873 kw_1875 kw_109 a_504 (by decide) (q := (RX12, TX12, 49)) rfl rfl ⟨Nat.le_of_ble_eq_true rfl, Nat.le_of_ble_eq_true rfl, Nat.le_of_ble_eq_true rfl, Nat.le_of_ble_eq_true rfl⟩ rfl (Nat.le_of_ble_eq_true rfl) dX12_part_163 rfl (fun v102 i103 r104 hv105 hi106 hw107 hq108 => ?_)
    obtain ⟨e129, e130, h⟩ := hq108
    subst e129
    subst e130
    obtain ⟨t110, f111⟩ := h
    refine V.if_eq (pc := 166) (tgt := 188) hG hv105 dX12_part_166 (by decide) (fun c109 => ?_) (fun c109 => ?_)
    · have h := t110 c109
      clear t110 f111
      refine V.iload_n (pc := 188) hG dX12_part_188 rfl 2 rfl ?_
      obtain ⟨f114, t113⟩ := h
      refine V.if_ne (pc := 189) (tgt := 220) hG hp2 dX12_part_189 (by decide) (fun c112 => ?_) (fun c112 => ?_)
      · have h := t113 c112
        clear t113 f114
        exact jn220 ij163 hij163 h
      · have h := f114 c112
        clear t113 f114
        refine V.aload_n (pc := 192) hG dX12_part_192 rfl 0 rfl ?_
        refine V.bipush (pc := 193) hG dX12_part_193 (by decide) ?_
        refine V.callVi (pc := 195) (As := [.int (sJ 105)]) (stk := []) hG (sm_X12_is l Δ ((sR_l rfl)) hij163 hw h) mY_X12_is kw_1873 kw_1875 kw_109 a_504 (by decide) (q := (RX12, TX12, 49)) rfl rfl ⟨Nat.le_of_ble_eq_true rfl, Nat.le_of_ble_eq_true rfl, Nat.le_of_ble_eq_true rfl, Nat.le_of_ble_eq_true rfl⟩ rfl (Nat.le_of_ble_eq_true rfl) dX12_part_195 rfl (fun v115 i116 r117 hv118 hi119 hw120 hq121 => ?_)
        obtain ⟨e126, e127, h⟩ := hq121
        subst e126
        subst e127
        obtain ⟨t123, f124⟩ := h
        refine V.if_eq (pc := 198) (tgt := 220) hG hv118 dX12_part_198 (by decide) (fun c122 => ?_) (fun c122 => ?_)
        · have h := t123 c122
          clear t123 f124
          exact jn220 ij163 hij163 h
        · have h := f124 c122
          clear t123 f124
          refine V.aload_n (pc := 201) hG dX12_part_201 rfl 0 rfl ?_
          refine V.getR (x := 506) (pc := 202) (ci := 14) (k := 3) (M := 49) (T := TX12) (o := 504) (kz := 3) hG a_504 a_504.n (by decide) hin_X12 rfl (by decide) (by decide) rfl kw_1695 rfl ((hw).1 (504, 3, 506) (by decide)) (by decide) dX12_part_202 ?_
          refine V.iload_n (pc := 205) hG dX12_part_205 rfl 1 rfl ?_
          refine V.iconst (pc := 206) hG dX12_part_206 ?_
          obtain ⟨g125, h⟩ := h
          refine V.iast (pc := 207) (z := 13) (o := 506) hG a_506 a_506.n hp1 g125 dX12_part_207 ?_
          refine V.aload_n (pc := 208) hG dX12_part_208 rfl 0 rfl ?_
          refine V.dup (pc := 209) hG dX12_part_209 rfl ?_
          refine V.getI (pc := 210) (ci := 14) (k := 4) (M := 49) (T := TX12) (o := 504) (kz := 4) hG a_504 a_504.n (by decide) hin_X12 rfl (by decide) (by decide) rfl kw_1696 rfl dX12_part_210 ?_
          refine V.iconst (pc := 213) hG dX12_part_213 ?_
          refine V.iadd (pc := 214) hG dX12_part_214 ?_
          refine V.putI (pc := 215) (ci := 14) (k := 4) (M := 49) (T := TX12) (o := 504) (kz := 4) hG a_504 a_504.n (by decide) hin_X12 rfl (by decide) (by decide) rfl kw_1696 rfl tyX12 tyX12_ok nmX12 rfl (ty := tyX12 4) (tyX12_ok 4 (by decide)) rfl rfl dX12_part_215 ?_
          refine V.iconst (pc := 218) hG dX12_part_218 ?_
          exact fin dX12_part_219 ((sR_l rfl)) (nar_z (by decide)) ((okI_st ((okI_st hij163 ((sR_l rfl)))) ((sR_wr _)))) hw ⟨rfl, h⟩
    · have h := f111 c109
      clear t110 f111
      refine V.aload_n (pc := 169) hG dX12_part_169 rfl 0 rfl ?_
      refine V.getR (x := 506) (pc := 170) (ci := 14) (k := 3) (M := 49) (T := TX12) (o := 504) (kz := 3) hG a_504 a_504.n (by decide) hin_X12 rfl (by decide) (by decide) rfl kw_1695 rfl ((hw).1 (504, 3, 506) (by decide)) (by decide) dX12_part_170 ?_
      refine V.iload_n (pc := 173) hG dX12_part_173 rfl 1 rfl ?_
      refine V.iconst (pc := 174) hG dX12_part_174 ?_
      obtain ⟨g128, h⟩ := h
      refine V.iast (pc := 175) (z := 13) (o := 506) hG a_506 a_506.n hp1 g128 dX12_part_175 ?_
      refine V.aload_n (pc := 176) hG dX12_part_176 rfl 0 rfl ?_
      refine V.dup (pc := 177) hG dX12_part_177 rfl ?_
      refine V.getI (pc := 178) (ci := 14) (k := 4) (M := 49) (T := TX12) (o := 504) (kz := 4) hG a_504 a_504.n (by decide) hin_X12 rfl (by decide) (by decide) rfl kw_1696 rfl dX12_part_178 ?_
      refine V.iconst (pc := 181) hG dX12_part_181 ?_
      refine V.iadd (pc := 182) hG dX12_part_182 ?_
      refine V.putI (pc := 183) (ci := 14) (k := 4) (M := 49) (T := TX12) (o := 504) (kz := 4) hG a_504 a_504.n (by decide) hin_X12 rfl (by decide) (by decide) rfl kw_1696 rfl tyX12 tyX12_ok nmX12 rfl (ty := tyX12 4) (tyX12_ok 4 (by decide)) rfl rfl dX12_part_183 ?_
      refine V.iconst (pc := 186) hG dX12_part_186 ?_
      exact fin dX12_part_187 ((sR_l rfl)) (nar_z (by decide)) ((okI_st ((okI_st hij163 ((sR_l rfl)))) ((sR_wr _)))) hw ⟨rfl, h⟩
  have jn150 : ∀ (k0j150 : Int) (ij150 : MI), sR k0j150 → okI ij150 → s150_X12_part k0j150 ij150 r Q → V Γ Δ 542 false ij150 r 0 0 Q0 150 [] [.int (sJ k0j150)] := by
    intro k0j150 ij150 hk0j150 hij150 h
    obtain ⟨g132, h⟩ := h
    exact fin dX12_part_150 hk0j150 (nar_z g132) hij150 hw ⟨rfl, h⟩
  have jn149 : ∀  (ij149 : MI), okI ij149 → s149_X12_part ij149 r Q → V Γ Δ 542 false ij149 r 0 0 Q0 149 [] [] := by
    intro ij149 hij149 h
    refine V.iconst (pc := 149) hG dX12_part_149 ?_
    exact jn150 0 ij149 ((sR_l rfl)) hij149 h
  have jn115 : ∀ (k1j115 : Int) (k2j115 : Int) (ij115 : MI), sR k1j115 → sR k2j115 → okI ij115 → s115_X12_part p1 k1j115 k2j115 ij115 r Q → V Γ Δ 542 false ij115 r 0 0 Q0 115 [(0, .ref (sA Δ 504)), (1, .int (sJ p1))] [.int (sJ k2j115), .int (sJ k1j115), .ref (sA Δ 506)] := by
    intro k1j115 k2j115 ij115 hk1j115 hk2j115 hij115 h
    obtain ⟨g158, h⟩ := h
    refine V.iast (pc := 115) (z := 13) (o := 506) hG a_506 a_506.n hk1j115 g158 dX12_part_115 ?_
    refine V.aload_n (pc := 116) hG dX12_part_116 rfl 0 rfl ?_
    refine V.dup (pc := 117) hG dX12_part_117 rfl ?_
    refine V.getI (pc := 118) (ci := 14) (k := 4) (M := 49) (T := TX12) (o := 504) (kz := 4) hG a_504 a_504.n (by decide) hin_X12 rfl (by decide) (by decide) rfl kw_1696 rfl dX12_part_118 ?_
    refine V.iconst (pc := 121) hG dX12_part_121 ?_
    refine V.iadd (pc := 122) hG dX12_part_122 ?_
    refine V.putI (pc := 123) (ci := 14) (k := 4) (M := 49) (T := TX12) (o := 504) (kz := 4) hG a_504 a_504.n (by decide) hin_X12 rfl (by decide) (by decide) rfl kw_1696 rfl tyX12 tyX12_ok nmX12 rfl (ty := tyX12 4) (tyX12_ok 4 (by decide)) rfl rfl dX12_part_123 ?_
    refine V.aload_n (pc := 126) hG dX12_part_126 rfl 0 rfl ?_
    refine V.bipush (pc := 127) hG dX12_part_127 (by decide) ?_
    refine V.callVi (pc := 129) (As := [.int (sJ 91)]) (stk := []) hG (sm_X12_eats l Δ ((sR_l rfl)) ((okI_st ((okI_st hij115 hk2j115)) ((sR_wr _)))) hw h) mY_X12_eats kw_1877 kw_1879 kw_110 a_504 (by decide) (q := (RX12, TX12, 49)) rfl rfl ⟨Nat.le_of_ble_eq_true rfl, Nat.le_of_ble_eq_true rfl, Nat.le_of_ble_eq_true rfl, Nat.le_of_ble_eq_true rfl⟩ rfl (Nat.le_of_ble_eq_true rfl) dX12_part_129 rfl (fun v159 i160 r161 hv162 hi163 hw164 hq165 => ?_)
    obtain ⟨e182, h⟩ := hq165
    subst e182
    obtain ⟨t167, f168⟩ := h
    refine V.if_eq (pc := 132) (tgt := 149) hG hv162 dX12_part_132 (by decide) (fun c166 => ?_) (fun c166 => ?_)
    · have h := t167 c166
      clear t167 f168
      refine V.pick [] rfl ?_
      exact jn149 i160 hi163 h
    · have h := f168 c166
      clear t167 f168
      refine V.aload_n (pc := 135) hG dX12_part_135 rfl 0 rfl ?_
      refine V.iload_n (pc := 136) hG dX12_part_136 rfl 1 rfl ?_
      refine V.iconst (pc := 137) hG dX12_part_137 ?_
      refine V.iadd (pc := 138) hG dX12_part_138 ?_
      refine V.callVi (pc := 139) (As := [.int (sJ (wr (p1 + 2)))]) (stk := []) hG (sm_X12_index l Δ ((sR_wr _)) hi163 hw h) mY_X12_index kw_1885 kw_1887 kw_112 a_504 (by decide) (q := (RX12, TX12, 49)) rfl rfl ⟨Nat.le_of_ble_eq_true rfl, Nat.le_of_ble_eq_true rfl, Nat.le_of_ble_eq_true rfl, Nat.le_of_ble_eq_true rfl⟩ rfl (Nat.le_of_ble_eq_true rfl) dX12_part_139 rfl (fun v169 i170 r171 hv172 hi173 hw174 hq175 => ?_)
      obtain ⟨e180, h⟩ := hq175
      subst e180
      obtain ⟨t177, f178⟩ := h
      refine V.if_eq (pc := 142) (tgt := 149) hG hv172 dX12_part_142 (by decide) (fun c176 => ?_) (fun c176 => ?_)
      · have h := t177 c176
        clear t177 f178
        refine V.pick [] rfl ?_
        exact jn149 i170 hi173 h
      · have h := f178 c176
        clear t177 f178
        refine V.iconst (pc := 145) hG dX12_part_145 ?_
        refine V.goto (pc := 146) (tgt := 150) hG dX12_part_146 (by decide) ?_
        refine V.pick [] rfl ?_
        exact jn150 1 i170 ((sR_l rfl)) hi173 h
  have jn96 : ∀  (ij96 : MI), okI ij96 → s96_X12_part p1 ij96 r Q → V Γ Δ 542 false ij96 r 0 0 Q0 96 [(0, .ref (sA Δ 504)), (1, .int (sJ p1))] [] := by
    intro ij96 hij96 h
    refine V.aload_n (pc := 96) hG dX12_part_96 rfl 0 rfl ?_
    refine V.getR (x := 506) (pc := 97) (ci := 14) (k := 3) (M := 49) (T := TX12) (o := 504) (kz := 3) hG a_504 a_504.n (by decide) hin_X12 rfl (by decide) (by decide) rfl kw_1695 rfl ((hw).1 (504, 3, 506) (by decide)) (by decide) dX12_part_97 ?_
    refine V.iload_n (pc := 100) hG dX12_part_100 rfl 1 rfl ?_
    refine V.aload_n (pc := 101) hG dX12_part_101 rfl 0 rfl ?_
    refine V.bipush (pc := 102) hG dX12_part_102 (by decide) ?_
    refine V.callVi (pc := 104) (As := [.int (sJ 77)]) (stk := [.int (sJ p1), .ref (sA Δ 506)]) hG (sm_X12_is l Δ ((sR_l rfl)) hij96 hw h) mY_X12_is kw_1873 kw_1875 kw_109 a_504 (by decide) (q := (RX12, TX12, 49)) rfl rfl ⟨Nat.le_of_ble_eq_true rfl, Nat.le_of_ble_eq_true rfl, Nat.le_of_ble_eq_true rfl, Nat.le_of_ble_eq_true rfl⟩ rfl (Nat.le_of_ble_eq_true rfl) dX12_part_104 rfl (fun v195 i196 r197 hv198 hi199 hw200 hq201 => ?_)
    obtain ⟨e205, e206, h⟩ := hq201
    subst e205
    subst e206
    obtain ⟨t203, f204⟩ := h
    refine V.if_eq (pc := 107) (tgt := 114) hG hv198 dX12_part_107 (by decide) (fun c202 => ?_) (fun c202 => ?_)
    · have h := t203 c202
      clear t203 f204
      refine V.iconst (pc := 114) hG dX12_part_114 ?_
      exact jn115 p1 4 ij96 hp1 ((sR_l rfl)) hij96 h
    · have h := f204 c202
      clear t203 f204
      refine V.iconst (pc := 110) hG dX12_part_110 ?_
      refine V.goto (pc := 111) (tgt := 115) hG dX12_part_111 (by decide) ?_
      exact jn115 p1 3 ij96 hp1 ((sR_l rfl)) hij96 h
  have jn78 : ∀  (ij78 : MI), okI ij78 → s78_X12_part p1 p2 ij78 r Q → V Γ Δ 542 false ij78 r 0 0 Q0 78 [(0, .ref (sA Δ 504)), (1, .int (sJ p1)), (2, .int (sJ p2))] [] := by
    intro ij78 hij78 h
    refine V.aload_n (pc := 78) hG dX12_part_78 rfl 0 rfl ?_
    refine V.bipush (pc := 79) hG dX12_part_79 (by decide) ?_
    refine V.callVi (pc := 81) (As := [.int (sJ 77)]) (stk := []) hG (sm_X12_is l Δ ((sR_l rfl)) hij78 hw h) mY_X12_is kw_1873 kw_1875 kw_109 a_504 (by decide) (q := (RX12, TX12, 49)) rfl rfl ⟨Nat.le_of_ble_eq_true rfl, Nat.le_of_ble_eq_true rfl, Nat.le_of_ble_eq_true rfl, Nat.le_of_ble_eq_true rfl⟩ rfl (Nat.le_of_ble_eq_true rfl) dX12_part_81 rfl (fun v234 i235 r236 hv237 hi238 hw239 hq240 => ?_)
    obtain ⟨e259, e260, h⟩ := hq240
    subst e259
    subst e260
    obtain ⟨f243, t242⟩ := h
    refine V.if_ne (pc := 84) (tgt := 96) hG hv237 dX12_part_84 (by decide) (fun c241 => ?_) (fun c241 => ?_)
    · have h := t242 c241
      clear t242 f243
      refine V.pick [0, 1] rfl ?_
      exact jn96 ij78 hij78 h
    · have h := f243 c241
      clear t242 f243
      refine V.aload_n (pc := 87) hG dX12_part_87 rfl 0 rfl ?_
      refine V.bipush (pc := 88) hG dX12_part_88 (by decide) ?_
      refine V.callVi (pc := 90) (As := [.int (sJ 78)]) (stk := []) hG (sm_X12_is l Δ ((sR_l rfl)) hij78 hw h) mY_X12_is kw_1873 kw_1875 kw_109 a_504 (by decide) (q := (RX12, TX12, 49)) rfl rfl ⟨Nat.le_of_ble_eq_true rfl, Nat.le_of_ble_eq_true rfl, Nat.le_of_ble_eq_true rfl, Nat.le_of_ble_eq_true rfl⟩ rfl (Nat.le_of_ble_eq_true rfl) dX12_part_90 rfl (fun v244 i245 r246 hv247 hi248 hw249 hq250 => ?_)
      obtain ⟨e257, e258, h⟩ := hq250
      subst e257
      subst e258
      obtain ⟨t252, f253⟩ := h
      refine V.if_eq (pc := 93) (tgt := 151) hG hv247 dX12_part_93 (by decide) (fun c251 => ?_) (fun c251 => ?_)
      · have h := t252 c251
        clear t252 f253
        refine V.aload_n (pc := 151) hG dX12_part_151 rfl 0 rfl ?_
        refine V.iload_n (pc := 152) hG dX12_part_152 rfl 2 rfl ?_
        obtain ⟨t255, f256⟩ := h
        refine V.if_eq (pc := 153) (tgt := 161) hG hp2 dX12_part_153 (by decide) (fun c254 => ?_) (fun c254 => ?_)
        · have h := t255 c254
          clear t255 f256
          refine V.bipush (pc := 161) hG dX12_part_161 (by decide) ?_
          exact jn163 60 ij78 ((sR_l rfl)) hij78 h
        · have h := f256 c254
          clear t255 f256
          refine V.bipush (pc := 156) hG dX12_part_156 (by decide) ?_
          refine V.goto (pc := 158) (tgt := 163) hG dX12_part_158 (by decide) ?_
          exact jn163 62 ij78 ((sR_l rfl)) hij78 h
      · have h := f253 c251
        clear t252 f253
        refine V.pick [0, 1] rfl ?_
        exact jn96 ij78 hij78 h
  refine V.aload_n (pc := 0) hG dX12_part_0 rfl 0 rfl ?_
  refine V.getR (x := 506) (pc := 1) (ci := 14) (k := 3) (M := 49) (T := TX12) (o := 504) (kz := 3) hG a_504 a_504.n (by decide) hin_X12 rfl (by decide) (by decide) rfl kw_1695 rfl ((hw).1 (504, 3, 506) (by decide)) (by decide) dX12_part_1 ?_
  refine V.iload_n (pc := 4) hG dX12_part_4 rfl 1 rfl ?_
  refine V.iconst (pc := 5) hG dX12_part_5 ?_
  refine V.iadd (pc := 6) hG dX12_part_6 ?_
  refine V.iconst (pc := 7) hG dX12_part_7 ?_
  obtain ⟨g261, h⟩ := h
  refine V.iast (pc := 8) (z := 13) (o := 506) hG a_506 a_506.n ((sR_wr _)) g261 dX12_part_8 ?_
  refine V.aload_n (pc := 9) hG dX12_part_9 rfl 0 rfl ?_
  refine V.getI (pc := 10) (ci := 14) (k := 4) (M := 49) (T := TX12) (o := 504) (kz := 4) hG a_504 a_504.n (by decide) hin_X12 rfl (by decide) (by decide) rfl kw_1696 rfl dX12_part_10 ?_
  refine V.aload_n (pc := 13) hG dX12_part_13 rfl 0 rfl ?_
  refine V.getI (pc := 14) (ci := 14) (k := 1) (M := 49) (T := TX12) (o := 504) (kz := 1) hG a_504 a_504.n (by decide) hin_X12 rfl (by decide) (by decide) rfl kw_1693 rfl dX12_part_14 ?_
  obtain ⟨t263, f264⟩ := h
  refine V.icmp_ge (pc := 17) (tgt := 78) hG (((okI_st hi ((sR_l rfl))) _ _)) (((okI_st hi ((sR_l rfl))) _ _)) dX12_part_17 (by decide) (fun c262 => ?_) (fun c262 => ?_)
  · have h := t263 c262
    clear t263 f264
    exact jn78 (st i 506 (wr (p1 + 1)) 0) ((okI_st hi ((sR_l rfl)))) h
  · have h := f264 c262
    clear t263 f264
    refine V.aload_n (pc := 20) hG dX12_part_20 rfl 0 rfl ?_
    refine V.getR (x := 505) (pc := 21) (ci := 14) (k := 2) (M := 49) (T := TX12) (o := 504) (kz := 2) hG a_504 a_504.n (by decide) hin_X12 rfl (by decide) (by decide) rfl kw_1694 rfl ((hw).1 (504, 2, 505) (by decide)) (by decide) dX12_part_21 ?_
    refine V.aload_n (pc := 24) hG dX12_part_24 rfl 0 rfl ?_
    refine V.getI (pc := 25) (ci := 14) (k := 4) (M := 49) (T := TX12) (o := 504) (kz := 4) hG a_504 a_504.n (by decide) hin_X12 rfl (by decide) (by decide) rfl kw_1696 rfl dX12_part_25 ?_
    obtain ⟨g265, h⟩ := h
    refine V.cald (pc := 28) (z := 24) (o := 505) hG a_505 a_505.n (((okI_st hi ((sR_l rfl))) _ _)) g265 dX12_part_28 ?_
    refine V.bipush (pc := 29) hG dX12_part_29 (by decide) ?_
    refine V.bipush (pc := 31) hG dX12_part_31 (by decide) ?_
    refine V.callSi (pc := 33) (As := [.int (sJ ((st i 506 (wr (p1 + 1)) 0) 505 ((st i 506 (wr (p1 + 1)) 0) 504 4))), .int (sJ 97), .int (sJ 104)]) (stk := []) hG (sm_X12_in l Δ (((okI_st hi ((sR_l rfl))) _ _)) ((sR_l rfl)) ((sR_l rfl)) ((okI_st hi ((sR_l rfl)))) hw h) mY_X12_in kw_1848 kw_1849 ⟨Nat.le_of_ble_eq_true rfl, Nat.le_of_ble_eq_true rfl, Nat.le_of_ble_eq_true rfl, Nat.le_of_ble_eq_true rfl⟩ rfl (Nat.le_of_ble_eq_true rfl) dX12_part_33 rfl (fun v266 i267 r268 hv269 hi270 hw271 hq272 => ?_)
    obtain ⟨e279, e280, h⟩ := hq272
    subst e279
    subst e280
    obtain ⟨t274, f275⟩ := h
    refine V.if_eq (pc := 36) (tgt := 78) hG hv269 dX12_part_36 (by decide) (fun c273 => ?_) (fun c273 => ?_)
    · have h := t274 c273
      clear t274 f275
      exact jn78 (st i 506 (wr (p1 + 1)) 0) ((okI_st hi ((sR_l rfl)))) h
    · have h := f275 c273
      clear t274 f275
      refine V.aload_n (pc := 39) hG dX12_part_39 rfl 0 rfl ?_
      refine V.getR (x := 506) (pc := 40) (ci := 14) (k := 3) (M := 49) (T := TX12) (o := 504) (kz := 3) hG a_504 a_504.n (by decide) hin_X12 rfl (by decide) (by decide) rfl kw_1695 rfl ((hw).1 (504, 3, 506) (by decide)) (by decide) dX12_part_40 ?_
      refine V.iload_n (pc := 43) hG dX12_part_43 rfl 1 rfl ?_
      refine V.iconst (pc := 44) hG dX12_part_44 ?_
      obtain ⟨g276, h⟩ := h
      refine V.iast (pc := 45) (z := 13) (o := 506) hG a_506 a_506.n hp1 g276 dX12_part_45 ?_
      refine V.aload_n (pc := 46) hG dX12_part_46 rfl 0 rfl ?_
      refine V.getR (x := 506) (pc := 47) (ci := 14) (k := 3) (M := 49) (T := TX12) (o := 504) (kz := 3) hG a_504 a_504.n (by decide) hin_X12 rfl (by decide) (by decide) rfl kw_1695 rfl ((hw).1 (504, 3, 506) (by decide)) (by decide) dX12_part_47 ?_
      refine V.iload_n (pc := 50) hG dX12_part_50 rfl 1 rfl ?_
      refine V.iconst (pc := 51) hG dX12_part_51 ?_
      refine V.iadd (pc := 52) hG dX12_part_52 ?_
      refine V.aload_n (pc := 53) hG dX12_part_53 rfl 0 rfl ?_
      refine V.getR (x := 505) (pc := 54) (ci := 14) (k := 2) (M := 49) (T := TX12) (o := 504) (kz := 2) hG a_504 a_504.n (by decide) hin_X12 rfl (by decide) (by decide) rfl kw_1694 rfl ((hw).1 (504, 2, 505) (by decide)) (by decide) dX12_part_54 ?_
      refine V.aload_n (pc := 57) hG dX12_part_57 rfl 0 rfl ?_
      refine V.getI (pc := 58) (ci := 14) (k := 4) (M := 49) (T := TX12) (o := 504) (kz := 4) hG a_504 a_504.n (by decide) hin_X12 rfl (by decide) (by decide) rfl kw_1696 rfl dX12_part_58 ?_
      obtain ⟨g277, h⟩ := h
      refine V.cald (pc := 61) (z := 24) (o := 505) hG a_505 a_505.n (((okI_st ((okI_st hi ((sR_l rfl)))) ((sR_l rfl))) _ _)) g277 dX12_part_61 ?_
      refine V.bipush (pc := 62) hG dX12_part_62 (by decide) ?_
      refine V.isub (pc := 64) hG dX12_part_64 ?_
      obtain ⟨g278, h⟩ := h
      refine V.iast (pc := 65) (z := 13) (o := 506) hG a_506 a_506.n ((sR_wr _)) g278 dX12_part_65 ?_
      refine V.aload_n (pc := 66) hG dX12_part_66 rfl 0 rfl ?_
      refine V.dup (pc := 67) hG dX12_part_67 rfl ?_
      refine V.getI (pc := 68) (ci := 14) (k := 4) (M := 49) (T := TX12) (o := 504) (kz := 4) hG a_504 a_504.n (by decide) hin_X12 rfl (by decide) (by decide) rfl kw_1696 rfl dX12_part_68 ?_
      refine V.iconst (pc := 71) hG dX12_part_71 ?_
      refine V.iadd (pc := 72) hG dX12_part_72 ?_
      refine V.putI (pc := 73) (ci := 14) (k := 4) (M := 49) (T := TX12) (o := 504) (kz := 4) hG a_504 a_504.n (by decide) hin_X12 rfl (by decide) (by decide) rfl kw_1696 rfl tyX12 tyX12_ok nmX12 rfl (ty := tyX12 4) (tyX12_ok 4 (by decide)) rfl rfl dX12_part_73 ?_
      refine V.iconst (pc := 76) hG dX12_part_76 ?_
      exact fin dX12_part_77 ((sR_l rfl)) (nar_z (by decide)) ((okI_st ((okI_st ((okI_st ((okI_st hi ((sR_l rfl)))) ((sR_l rfl)))) ((sR_wr _)))) ((sR_wr _)))) hw ⟨rfl, h⟩
