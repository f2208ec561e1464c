set_option maxRecDepth 100000 in
set_option maxHeartbeats 4000000 in
theorem sm_X12_build (l : Launch) (Δ : Wd) {i r : MI}   {Q : MI → Prop} (hi : okI i) (hw : Wf r) (h : wp_X12_build  i r Q) : Met l yX12_build (Cond.code yX12_build cX12_build 3 none :: gW) (sRm 3 72) (sPc Δ [.ref (sA Δ 504)] i r) (sQv Δ (fun i' r' => r = r' ∧ Q i')) 0 0 (sFr Δ) := by
  refine Ct.v (by decide) rfl (Nat.le_of_ble_eq_true rfl) (fun Γ Q0 hG fin => ?_)
  have hG : okG Γ Δ l (sRm 3 72) cX12_build "SchedularyModel" 3 := hG
  show V Γ Δ 542 false i r 0 0 Q0 0 [(0, .ref (sA Δ 504))] []
  refine V.aload_n (pc := 0) hG dX12_build_0 rfl 0 rfl ?_
  refine V.iconst (pc := 1) hG dX12_build_1 ?_
  refine V.putI (pc := 2) (ci := 14) (k := 21) (M := 49) (T := TX12) (o := 504) (kz := 21) hG a_504 a_504.n (by decide) hin_X12 rfl (by decide) (by decide) rfl kw_1713 rfl tyX12 tyX12_ok nmX12 rfl (ty := tyX12 21) (tyX12_ok 21 (by decide)) rfl rfl dX12_build_2 ?_
  refine V.aload_n (pc := 5) hG dX12_build_5 rfl 0 rfl ?_
  refine V.iconst (pc := 6) hG dX12_build_6 ?_
  refine V.putI (pc := 7) (ci := 14) (k := 30) (M := 49) (T := TX12) (o := 504) (kz := 30) hG a_504 a_504.n (by decide) hin_X12 rfl (by decide) (by decide) rfl kw_1722 rfl tyX12 tyX12_ok nmX12 rfl (ty := tyX12 30) (tyX12_ok 30 (by decide)) rfl rfl dX12_build_7 ?_
  refine V.iconst (pc := 10) hG dX12_build_10 ?_
  refine V.istore_n (pc := 11) (lv' := [(1, .int (sJ 0)), (0, .ref (sA Δ 504))]) hG dX12_build_11 rfl (by decide) rfl ?_
  obtain ⟨n437, h⟩ := h
  have lp12 : ∀ (m12 : Nat) (x1_12 : Int) (i_12 : MI), sR x1_12 → okI i_12 → LoopP (b12_X12_build r Q) m12 (x1_12, i_12) → V Γ Δ 542 false i_12 r 0 0 Q0 12 [(0, .ref (sA Δ 504)), (1, .int (sJ x1_12))] [] := by
    intro m12
    induction m12 with
    | zero => intro x1_12 i_12 hx1_12 hi_12 h; exact h.elim
    | succ m12 ih12 =>
      intro x1_12 i_12 hx1_12 hi_12 h
      have h := LoopP_succ h
      refine V.iload_n (pc := 12) hG dX12_build_12 rfl 1 rfl ?_
      refine V.aload_n (pc := 13) hG dX12_build_13 rfl 0 rfl ?_
      refine V.getI (pc := 14) (ci := 14) (k := 6) (M := 49) (T := TX12) (o := 504) (kz := 6) hG a_504 a_504.n (by decide) hin_X12 rfl (by decide) (by decide) rfl kw_1698 rfl dX12_build_14 ?_
      refine V.aload_n (pc := 17) hG dX12_build_17 rfl 0 rfl ?_
      refine V.getI (pc := 18) (ci := 14) (k := 10) (M := 49) (T := TX12) (o := 504) (kz := 10) hG a_504 a_504.n (by decide) hin_X12 rfl (by decide) (by decide) rfl kw_1702 rfl dX12_build_18 ?_
      refine V.imul (pc := 21) hG dX12_build_21 ?_
      obtain ⟨t439, f440⟩ := h
      refine V.icmp_ge (pc := 22) (tgt := 36) hG hx1_12 ((sR_wr _)) dX12_build_22 (by decide) (fun c438 => ?_) (fun c438 => ?_)
      · have h := t439 c438
        clear t439 f440
        refine V.iconst (pc := 36) hG dX12_build_36 ?_
        refine V.istore_n (pc := 37) (lv' := [(1, .int (sJ 0)), (0, .ref (sA Δ 504))]) hG dX12_build_37 rfl (by decide) rfl ?_
        obtain ⟨n441, h⟩ := h
        have lp38 : ∀ (m38 : Nat) (x1_38 : Int) (i_38 : MI), sR x1_38 → okI i_38 → LoopP (b38_X12_build r Q) m38 (x1_38, i_38) → V Γ Δ 542 false i_38 r 0 0 Q0 38 [(0, .ref (sA Δ 504)), (1, .int (sJ x1_38))] [] := by
          intro m38
          induction m38 with
          | zero => intro x1_38 i_38 hx1_38 hi_38 h; exact h.elim
          | succ m38 ih38 =>
            intro x1_38 i_38 hx1_38 hi_38 h
            have h := LoopP_succ h
            refine V.iload_n (pc := 38) hG dX12_build_38 rfl 1 rfl ?_
            refine V.aload_n (pc := 39) hG dX12_build_39 rfl 0 rfl ?_
            refine V.getI (pc := 40) (ci := 14) (k := 21) (M := 49) (T := TX12) (o := 504) (kz := 21) hG a_504 a_504.n (by decide) hin_X12 rfl (by decide) (by decide) rfl kw_1713 rfl dX12_build_40 ?_
            refine V.aload_n (pc := 43) hG dX12_build_43 rfl 0 rfl ?_
            refine V.getI (pc := 44) (ci := 14) (k := 21) (M := 49) (T := TX12) (o := 504) (kz := 21) hG a_504 a_504.n (by decide) hin_X12 rfl (by decide) (by decide) rfl kw_1713 rfl dX12_build_44 ?_
            refine V.imul (pc := 47) hG dX12_build_47 ?_
            obtain ⟨t443, f444⟩ := h
            refine V.icmp_ge (pc := 48) (tgt := 64) hG hx1_38 ((sR_wr _)) dX12_build_48 (by decide) (fun c442 => ?_) (fun c442 => ?_)
            · have h := t443 c442
              clear t443 f444
              refine V.iconst (pc := 64) hG dX12_build_64 ?_
              refine V.istore_n (pc := 65) (lv' := [(1, .int (sJ 0)), (0, .ref (sA Δ 504))]) hG dX12_build_65 rfl (by decide) rfl ?_
              obtain ⟨n445, h⟩ := h
              have lp66 : ∀ (m66 : Nat) (x1_66 : Int) (i_66 : MI), sR x1_66 → okI i_66 → LoopP (b66_X12_build r Q) m66 (x1_66, i_66) → V Γ Δ 542 false i_66 r 0 0 Q0 66 [(0, .ref (sA Δ 504)), (1, .int (sJ x1_66))] [] := by
                intro m66
                induction m66 with
                | zero => intro x1_66 i_66 hx1_66 hi_66 h; exact h.elim
                | succ m66 ih66 =>
                  intro x1_66 i_66 hx1_66 hi_66 h
                  have h := LoopP_succ h
                  have jn107 : ∀ (x1j107 : Int) (ij107 : MI), sR x1j107 → okI ij107 → s107_X12_build x1j107 ij107 r Q (LoopP (b66_X12_build r Q) m66) → V Γ Δ 542 false ij107 r 0 0 Q0 107 [(0, .ref (sA Δ 504)), (1, .int (sJ x1j107))] [] := by
                    intro x1j107 ij107 hx1j107 hij107 h
                    refine V.iconst (pc := 107) hG dX12_build_107 ?_
                    refine V.istore_n (pc := 108) (lv' := [(2, .int (sJ 0)), (0, .ref (sA Δ 504)), (1, .int (sJ x1j107))]) hG dX12_build_108 rfl (by decide) rfl ?_
                    obtain ⟨n494, h⟩ := h
                    have lp109 : ∀ (m109 : Nat) (x2_109 : Int) (i_109 : MI), sR x2_109 → okI i_109 → LoopP (b109_X12_build x1j107 r Q (LoopP (b66_X12_build r Q) m66)) m109 (x2_109, i_109) → V Γ Δ 542 false i_109 r 0 0 Q0 109 [(0, .ref (sA Δ 504)), (1, .int (sJ x1j107)), (2, .int (sJ x2_109))] [] := by
                      intro m109
                      induction m109 with
                      | zero => intro x2_109 i_109 hx2_109 hi_109 h; exact h.elim
                      | succ m109 ih109 =>
                        intro x2_109 i_109 hx2_109 hi_109 h
                        have h := LoopP_succ h
                        have jn142 : ∀ (x2j142 : Int) (ij142 : MI), sR x2j142 → okI ij142 → s142_X12_build x1j107 x2j142 ij142 r Q (LoopP (b66_X12_build r Q) m66) (LoopP (b109_X12_build x1j107 r Q (LoopP (b66_X12_build r Q) m66)) m109) → V Γ Δ 542 false ij142 r 0 0 Q0 142 [(0, .ref (sA Δ 504)), (1, .int (sJ x1j107)), (2, .int (sJ x2j142))] [] := by
                          intro x2j142 ij142 hx2j142 hij142 h
                          refine V.iinc (pc := 142) (lv' := [(2, .int (sJ (wr (x2j142 + 1)))), (0, .ref (sA Δ 504)), (1, .int (sJ x1j107))]) hG dX12_build_142 2 rfl (by decide) rfl ?_
                          refine V.goto (pc := 145) (tgt := 109) hG dX12_build_145 (by decide) ?_
                          refine V.pick [1, 2, 0] rfl ?_
                          exact ih109 (wr (x2j142 + 1)) ij142 ((sR_wr _)) hij142 h
                        refine V.iload_n (pc := 109) hG dX12_build_109 rfl 2 rfl ?_
                        refine V.bipush (pc := 110) hG dX12_build_110 (by decide) ?_
                        obtain ⟨t496, f497⟩ := h
                        refine V.icmp_ge (pc := 112) (tgt := 148) hG hx2_109 ((sR_l rfl)) dX12_build_112 (by decide) (fun c495 => ?_) (fun c495 => ?_)
                        · have h := t496 c495
                          clear t496 f497
                          refine V.iconst (pc := 148) hG dX12_build_148 ?_
                          refine V.istore_n (pc := 149) (lv' := [(2, .int (sJ 0)), (0, .ref (sA Δ 504)), (1, .int (sJ x1j107))]) hG dX12_build_149 rfl (by decide) rfl ?_
                          obtain ⟨n498, h⟩ := h
                          have lp150 : ∀ (m150 : Nat) (x2_150 : Int) (i_150 : MI), sR x2_150 → okI i_150 → LoopP (b150_X12_build x1j107 r Q (LoopP (b66_X12_build r Q) m66)) m150 (x2_150, i_150) → V Γ Δ 542 false i_150 r 0 0 Q0 150 [(0, .ref (sA Δ 504)), (1, .int (sJ x1j107)), (2, .int (sJ x2_150))] [] := by
                            intro m150
                            induction m150 with
                            | zero => intro x2_150 i_150 hx2_150 hi_150 h; exact h.elim
                            | succ m150 ih150 =>
                              intro x2_150 i_150 hx2_150 hi_150 h
                              have h := LoopP_succ h
                              refine V.iload_n (pc := 150) hG dX12_build_150 rfl 2 rfl ?_
                              refine V.aload_n (pc := 151) hG dX12_build_151 rfl 0 rfl ?_
                              refine V.getI (pc := 152) (ci := 14) (k := 21) (M := 49) (T := TX12) (o := 504) (kz := 21) hG a_504 a_504.n (by decide) hin_X12 rfl (by decide) (by decide) rfl kw_1713 rfl dX12_build_152 ?_
                              obtain ⟨t500, f501⟩ := h
                              refine V.icmp_ge (pc := 155) (tgt := 170) hG hx2_150 ((hi_150 _ _)) dX12_build_155 (by decide) (fun c499 => ?_) (fun c499 => ?_)
                              · have h := t500 c499
                                clear t500 f501
                                refine V.aload_n (pc := 170) hG dX12_build_170 rfl 0 rfl ?_
                                refine V.iload_n (pc := 171) hG dX12_build_171 rfl 1 rfl ?_
                                refine V.callVv (pc := 172) (As := [.int (sJ x1j107)]) (stk := []) hG (sm_X12_nextOfChannel l Δ hx1j107 hi_150 hw h) mY_X12_nextOfChannel kw_1968 kw_1970 kw_128 a_504 (by decide) (q := (RX12, TX12, 49)) rfl rfl ⟨Nat.le_of_ble_eq_true rfl, Nat.le_of_ble_eq_true rfl, Nat.le_of_ble_eq_true rfl, Nat.le_of_ble_eq_true rfl⟩ rfl (Nat.le_of_ble_eq_true rfl) dX12_build_172 rfl (fun i503 r504 hi506 hw507 hq508 => ?_)
                                obtain ⟨e510, h⟩ := hq508
                                subst e510
                                refine V.iinc (pc := 175) (lv' := [(1, .int (sJ (wr (x1j107 + 1)))), (0, .ref (sA Δ 504)), (2, .int (sJ x2_150))]) hG dX12_build_175 1 rfl (by decide) rfl ?_
                                refine V.goto (pc := 178) (tgt := 66) hG dX12_build_178 (by decide) ?_
                                refine V.pick [1, 0] rfl ?_
                                exact ih66 (wr (x1j107 + 1)) i503 ((sR_wr _)) hi506 h
                              · have h := f501 c499
                                clear t500 f501
                                refine V.aload_n (pc := 158) hG dX12_build_158 rfl 0 rfl ?_
                                refine V.iload_n (pc := 159) hG dX12_build_159 rfl 1 rfl ?_
                                refine V.iload_n (pc := 160) hG dX12_build_160 rfl 2 rfl ?_
                                refine V.callVv (pc := 161) (As := [.int (sJ x1j107), .int (sJ x2_150)]) (stk := []) hG (sm_X12_remembered l Δ hx1j107 hx2_150 hi_150 hw h) mY_X12_remembered kw_1964 kw_1966 kw_127 a_504 (by decide) (q := (RX12, TX12, 49)) rfl rfl ⟨Nat.le_of_ble_eq_true rfl, Nat.le_of_ble_eq_true rfl, Nat.le_of_ble_eq_true rfl, Nat.le_of_ble_eq_true rfl⟩ rfl (Nat.le_of_ble_eq_true rfl) dX12_build_161 rfl (fun i512 r513 hi515 hw516 hq517 => ?_)
                                obtain ⟨e519, h⟩ := hq517
                                subst e519
                                refine V.iinc (pc := 164) (lv' := [(2, .int (sJ (wr (x2_150 + 1)))), (0, .ref (sA Δ 504)), (1, .int (sJ x1j107))]) hG dX12_build_164 2 rfl (by decide) rfl ?_
                                refine V.goto (pc := 167) (tgt := 150) hG dX12_build_167 (by decide) ?_
                                refine V.pick [1, 2, 0] rfl ?_
                                exact ih150 (wr (x2_150 + 1)) i512 ((sR_wr _)) hi515 h
                          refine V.pick [1, 2, 0] rfl ?_
                          exact lp150 n498 0 i_109 ((sR_l rfl)) hi_109 h
                        · have h := f497 c495
                          clear t496 f497
                          refine V.aload_n (pc := 115) hG dX12_build_115 rfl 0 rfl ?_
                          refine V.getR (x := 518) (pc := 116) (ci := 14) (k := 25) (M := 49) (T := TX12) (o := 504) (kz := 25) hG a_504 a_504.n (by decide) hin_X12 rfl (by decide) (by decide) rfl kw_1717 rfl ((hw).1 (504, 25, 518) (by decide)) (by decide) dX12_build_116 ?_
                          refine V.iload_n (pc := 119) hG dX12_build_119 rfl 1 rfl ?_
                          obtain ⟨g520, h⟩ := h
                          refine V.iald (pc := 120) (z := 96) (o := 518) hG a_518 a_518.n hx1j107 g520 dX12_build_120 ?_
                          refine V.iload_n (pc := 121) hG dX12_build_121 rfl 2 rfl ?_
                          refine V.ishr (pc := 122) hG dX12_build_122 ?_
                          refine V.iconst (pc := 123) hG dX12_build_123 ?_
                          refine V.iand (pc := 124) hG dX12_build_124 ?_
                          refine V.iconst (pc := 125) hG dX12_build_125 ?_
                          obtain ⟨f523, t522⟩ := h
                          refine V.icmp_ne (pc := 126) (tgt := 142) hG ((sR_and _ _)) ((sR_l rfl)) dX12_build_126 (by decide) (fun c521 => ?_) (fun c521 => ?_)
                          · have h := t522 c521
                            clear t522 f523
                            exact jn142 x2_109 i_109 hx2_109 hi_109 h
                          · have h := f523 c521
                            clear t522 f523
                            refine V.aload_n (pc := 129) hG dX12_build_129 rfl 0 rfl ?_
                            refine V.iload_n (pc := 130) hG dX12_build_130 rfl 1 rfl ?_
                            refine V.iload_n (pc := 131) hG dX12_build_131 rfl 2 rfl ?_
                            refine V.callVv (pc := 132) (As := [.int (sJ x1j107), .int (sJ x2_109)]) (stk := []) hG (sm_X12_fromMaker l Δ hx1j107 hx2_109 hi_109 hw h) mY_X12_fromMaker kw_1960 kw_1962 kw_126 a_504 (by decide) (q := (RX12, TX12, 49)) rfl rfl ⟨Nat.le_of_ble_eq_true rfl, Nat.le_of_ble_eq_true rfl, Nat.le_of_ble_eq_true rfl, Nat.le_of_ble_eq_true rfl⟩ rfl (Nat.le_of_ble_eq_true rfl) dX12_build_132 rfl (fun i525 r526 hi528 hw529 hq530 => ?_)
                            obtain ⟨e541, h⟩ := hq530
                            subst e541
                            refine V.aload_n (pc := 135) hG dX12_build_135 rfl 0 rfl ?_
                            refine V.iload_n (pc := 136) hG dX12_build_136 rfl 1 rfl ?_
                            refine V.iload_n (pc := 137) hG dX12_build_137 rfl 2 rfl ?_
                            refine V.iconst (pc := 138) hG dX12_build_138 ?_
                            refine V.callVv (pc := 139) (As := [.int (sJ x1j107), .int (sJ x2_109), .int (sJ 1)]) (stk := []) hG (sm_X12_laterMakers l Δ hx1j107 hx2_109 ((sR_l rfl)) hi528 hw h) mY_X12_laterMakers kw_1956 kw_1958 kw_125 a_504 (by decide) (q := (RX12, TX12, 49)) rfl rfl ⟨Nat.le_of_ble_eq_true rfl, Nat.le_of_ble_eq_true rfl, Nat.le_of_ble_eq_true rfl, Nat.le_of_ble_eq_true rfl⟩ rfl (Nat.le_of_ble_eq_true rfl) dX12_build_139 rfl (fun i532 r533 hi535 hw536 hq537 => ?_)
                            obtain ⟨e539, h⟩ := hq537
                            subst e539
                            exact jn142 x2_109 i532 hx2_109 hi535 h
                    refine V.pick [1, 2, 0] rfl ?_
                    exact lp109 n494 0 ij107 ((sR_l rfl)) hij107 h
                  refine V.iload_n (pc := 66) hG dX12_build_66 rfl 1 rfl ?_
                  refine V.aload_n (pc := 67) hG dX12_build_67 rfl 0 rfl ?_
                  refine V.getI (pc := 68) (ci := 14) (k := 21) (M := 49) (T := TX12) (o := 504) (kz := 21) hG a_504 a_504.n (by decide) hin_X12 rfl (by decide) (by decide) rfl kw_1713 rfl dX12_build_68 ?_
                  obtain ⟨t543, f544⟩ := h
                  refine V.icmp_ge (pc := 71) (tgt := 181) hG hx1_66 ((hi_66 _ _)) dX12_build_71 (by decide) (fun c542 => ?_) (fun c542 => ?_)
                  · have h := t543 c542
                    clear t543 f544
                    exact fin dX12_build_181 hi_66 hw ⟨rfl, h⟩
                  · have h := f544 c542
                    clear t543 f544
                    refine V.aload_n (pc := 74) hG dX12_build_74 rfl 0 rfl ?_
                    refine V.iload_n (pc := 75) hG dX12_build_75 rfl 1 rfl ?_
                    refine V.callVv (pc := 76) (As := [.int (sJ x1_66)]) (stk := []) hG (sm_X12_within l Δ hx1_66 hi_66 hw h) mY_X12_within kw_1943 kw_1945 kw_122 a_504 (by decide) (q := (RX12, TX12, 49)) rfl rfl ⟨Nat.le_of_ble_eq_true rfl, Nat.le_of_ble_eq_true rfl, Nat.le_of_ble_eq_true rfl, Nat.le_of_ble_eq_true rfl⟩ rfl (Nat.le_of_ble_eq_true rfl) dX12_build_76 rfl (fun i546 r547 hi549 hw550 hq551 => ?_)
                    obtain ⟨e576, h⟩ := hq551
                    subst e576
                    refine V.aload_n (pc := 79) hG dX12_build_79 rfl 0 rfl ?_
                    refine V.getR (x := 519) (pc := 80) (ci := 14) (k := 26) (M := 49) (T := TX12) (o := 504) (kz := 26) hG a_504 a_504.n (by decide) hin_X12 rfl (by decide) (by decide) rfl kw_1718 rfl ((hw).1 (504, 26, 519) (by decide)) (by decide) dX12_build_80 ?_
                    refine V.iload_n (pc := 83) hG dX12_build_83 rfl 1 rfl ?_
                    obtain ⟨g552, h⟩ := h
                    refine V.iald (pc := 84) (z := 96) (o := 519) hG a_519 a_519.n hx1_66 g552 dX12_build_84 ?_
                    refine V.iconst (pc := 85) hG dX12_build_85 ?_
                    obtain ⟨t554, f555⟩ := h
                    refine V.icmp_eq (pc := 86) (tgt := 107) hG ((hi549 _ _)) ((sR_l rfl)) dX12_build_86 (by decide) (fun c553 => ?_) (fun c553 => ?_)
                    · have h := t554 c553
                      clear t554 f555
                      exact jn107 x1_66 i546 hx1_66 hi549 h
                    · have h := f555 c553
                      clear t554 f555
                      refine V.aload_n (pc := 89) hG dX12_build_89 rfl 0 rfl ?_
                      refine V.iload_n (pc := 90) hG dX12_build_90 rfl 1 rfl ?_
                      refine V.aload_n (pc := 91) hG dX12_build_91 rfl 0 rfl ?_
                      refine V.getR (x := 519) (pc := 92) (ci := 14) (k := 26) (M := 49) (T := TX12) (o := 504) (kz := 26) hG a_504 a_504.n (by decide) hin_X12 rfl (by decide) (by decide) rfl kw_1718 rfl ((hw).1 (504, 26, 519) (by decide)) (by decide) dX12_build_92 ?_
                      refine V.iload_n (pc := 95) hG dX12_build_95 rfl 1 rfl ?_
                      obtain ⟨g556, h⟩ := h
                      refine V.iald (pc := 96) (z := 96) (o := 519) hG a_519 a_519.n hx1_66 g556 dX12_build_96 ?_
                      refine V.iconst (pc := 97) hG dX12_build_97 ?_
                      refine V.aload_n (pc := 98) hG dX12_build_98 rfl 0 rfl ?_
                      refine V.iload_n (pc := 99) hG dX12_build_99 rfl 1 rfl ?_
                      refine V.callVi (pc := 100) (As := [.int (sJ x1_66)]) (stk := [.int (sJ 1), .int (sJ (i546 519 x1_66)), .int (sJ x1_66), .ref (sA Δ 504)]) hG (sm_X12_cyclesOf l Δ hx1_66 hi549 hw h) mY_X12_cyclesOf kw_1947 kw_1949 kw_123 a_504 (by decide) (q := (RX12, TX12, 49)) rfl rfl ⟨Nat.le_of_ble_eq_true rfl, Nat.le_of_ble_eq_true rfl, Nat.le_of_ble_eq_true rfl, Nat.le_of_ble_eq_true rfl⟩ rfl (Nat.le_of_ble_eq_true rfl) dX12_build_100 rfl (fun v557 i558 r559 hv560 hi561 hw562 hq563 => ?_)
                      obtain ⟨e573, e574, h⟩ := hq563
                      subst e573
                      subst e574
                      refine V.iadd (pc := 103) hG dX12_build_103 ?_
                      refine V.callVv (pc := 104) (As := [.int (sJ x1_66), .int (sJ (i546 519 x1_66)), .int (sJ (wr (1 + v557)))]) (stk := []) hG (sm_X12_laterMakers l Δ hx1_66 ((hi549 _ _)) ((sR_wr _)) hi549 hw h) mY_X12_laterMakers kw_1956 kw_1958 kw_125 a_504 (by decide) (q := (RX12, TX12, 49)) rfl rfl ⟨Nat.le_of_ble_eq_true rfl, Nat.le_of_ble_eq_true rfl, Nat.le_of_ble_eq_true rfl, Nat.le_of_ble_eq_true rfl⟩ rfl (Nat.le_of_ble_eq_true rfl) dX12_build_104 rfl (fun i565 r566 hi568 hw569 hq570 => ?_)
                      obtain ⟨e572, h⟩ := hq570
                      subst e572
                      exact jn107 x1_66 i565 hx1_66 hi568 h
              refine V.pick [1, 0] rfl ?_
              exact lp66 n445 0 i_38 ((sR_l rfl)) hi_38 h
            · have h := f444 c442
              clear t443 f444
              refine V.aload_n (pc := 51) hG dX12_build_51 rfl 0 rfl ?_
              refine V.getR (x := 528) (pc := 52) (ci := 14) (k := 36) (M := 49) (T := TX12) (o := 504) (kz := 36) hG a_504 a_504.n (by decide) hin_X12 rfl (by decide) (by decide) rfl kw_1728 rfl ((hw).1 (504, 36, 528) (by decide)) (by decide) dX12_build_52 ?_
              refine V.iload_n (pc := 55) hG dX12_build_55 rfl 1 rfl ?_
              refine V.iconst (pc := 56) hG dX12_build_56 ?_
              obtain ⟨g577, h⟩ := h
              refine V.iast (pc := 57) (z := 9216) (o := 528) hG a_528 a_528.n hx1_38 g577 dX12_build_57 ?_
              refine V.iinc (pc := 58) (lv' := [(1, .int (sJ (wr (x1_38 + 1)))), (0, .ref (sA Δ 504))]) hG dX12_build_58 1 rfl (by decide) rfl ?_
              refine V.goto (pc := 61) (tgt := 38) hG dX12_build_61 (by decide) ?_
              refine V.pick [1, 0] rfl ?_
              exact ih38 (wr (x1_38 + 1)) (st i_38 528 x1_38 (-1)) ((sR_wr _)) ((okI_st hi_38 ((sR_l rfl)))) h
        refine V.pick [1, 0] rfl ?_
        exact lp38 n441 0 i_12 ((sR_l rfl)) hi_12 h
      · have h := f440 c438
        clear t439 f440
        refine V.aload_n (pc := 25) hG dX12_build_25 rfl 0 rfl ?_
        refine V.iload_n (pc := 26) hG dX12_build_26 rfl 1 rfl ?_
        refine V.callVv (pc := 27) (As := [.int (sJ x1_12)]) (stk := []) hG (sm_X12_addStatement l Δ hx1_12 hi_12 hw h) mY_X12_addStatement kw_1914 kw_1916 kw_117 a_504 (by decide) (q := (RX12, TX12, 49)) rfl rfl ⟨Nat.le_of_ble_eq_true rfl, Nat.le_of_ble_eq_true rfl, Nat.le_of_ble_eq_true rfl, Nat.le_of_ble_eq_true rfl⟩ rfl (Nat.le_of_ble_eq_true rfl) dX12_build_27 rfl (fun i579 r580 hi582 hw583 hq584 => ?_)
        obtain ⟨e586, h⟩ := hq584
        subst e586
        refine V.iinc (pc := 30) (lv' := [(1, .int (sJ (wr (x1_12 + 1)))), (0, .ref (sA Δ 504))]) hG dX12_build_30 1 rfl (by decide) rfl ?_
        refine V.goto (pc := 33) (tgt := 12) hG dX12_build_33 (by decide) ?_
        refine V.pick [1, 0] rfl ?_
        exact ih12 (wr (x1_12 + 1)) i579 ((sR_wr _)) hi582 h
  refine V.pick [1, 0] rfl ?_
  exact lp12 n437 0 (st (st i 504 21 0) 504 30 0) ((sR_l rfl)) ((okI_st ((okI_st hi ((sR_l rfl)))) ((sR_l rfl)))) h
set_option maxRecDepth 100000 in
set_option maxHeartbeats 4000000 in
theorem sm_X12_replace (l : Launch) (Δ : Wd) {i r : MI} {p1 : Int} (hp1 : sR p1) {Q : Int → MI → Prop} (hi : okI i) (hw : Wf r) (h : wp_X12_replace p1 i r Q) : Met l yX12_replace (Cond.code yX12_replace cX12_replace 2 (some .int) :: gW) (sRm 6 129) (sPc Δ [.ref (sA Δ 504), .int (sJ p1)] i r) (sQi Δ (fun x i' r' => r = r' ∧ Q x i')) 0 0 (sFr Δ) := by
  refine Ct.i (ty := .int) (by decide) rfl (Nat.le_of_ble_eq_true rfl) (fun Γ Q0 hG fin => ?_)
  have hG : okG Γ Δ l (sRm 6 129) cX12_replace "SchedularyModel" 2 := hG
  show V Γ Δ 542 false i r 0 0 Q0 0 [(0, .ref (sA Δ 504)), (1, .int (sJ p1))] []
  have jn53 : ∀  (ij53 : MI), okI ij53 → s53_X12_replace ij53 r Q → V Γ Δ 542 false ij53 r 0 0 Q0 53 [] [] := by
    intro ij53 hij53 h
    refine V.iconst (pc := 53) hG dX12_replace_53 ?_
    exact fin dX12_replace_54 ((sR_l rfl)) rfl hij53 hw ⟨rfl, h⟩
  have jn46 : ∀ (k1j46 : Int) (ij46 : MI), sR k1j46 → okI ij46 → s46_X12_replace p1 k1j46 ij46 r Q → V Γ Δ 542 false ij46 r 0 0 Q0 46 [(0, .ref (sA Δ 504)), (1, .int (sJ p1))] [.int (sJ k1j46), .ref (sA Δ 504)] := by
    intro k1j46 ij46 hk1j46 hij46 h
    refine V.iconst (pc := 46) hG dX12_replace_46 ?_
    refine V.callVi (pc := 47) (As := [.int (sJ k1j46), .int (sJ 2)]) (stk := []) hG (sm_X12_fails l Δ hk1j46 ((sR_l rfl)) hij46 hw h) mY_X12_fails kw_1853 kw_1855 kw_106 a_504 (by decide) (q := (RX12, TX12, 49)) rfl rfl ⟨Nat.le_of_ble_eq_true rfl, Nat.le_of_ble_eq_true rfl, Nat.le_of_ble_eq_true rfl, Nat.le_of_ble_eq_true rfl⟩ rfl (Nat.le_of_ble_eq_true rfl) dX12_replace_47 rfl (fun v31 i32 r33 hv34 hi35 hw36 hq37 => ?_)
    obtain ⟨e60, h⟩ := hq37
    subst e60
    obtain ⟨t39, f40⟩ := h
    refine V.if_eq (pc := 50) (tgt := 55) hG hv34 dX12_replace_50 (by decide) (fun c38 => ?_) (fun c38 => ?_)
    · have h := t39 c38
      clear t39 f40
      refine V.aload_n (pc := 55) hG dX12_replace_55 rfl 0 rfl ?_
      refine V.iload_n (pc := 56) hG dX12_replace_56 rfl 1 rfl ?_
      refine V.callVv (pc := 57) (As := [.int (sJ p1)]) (stk := []) hG (sm_X12_keep l Δ hp1 hi35 hw h) mY_X12_keep kw_1902 kw_1904 kw_115 a_504 (by decide) (q := (RX12, TX12, 49)) rfl rfl ⟨Nat.le_of_ble_eq_true rfl, Nat.le_of_ble_eq_true rfl, Nat.le_of_ble_eq_true rfl, Nat.le_of_ble_eq_true rfl⟩ rfl (Nat.le_of_ble_eq_true rfl) dX12_replace_57 rfl (fun i42 r43 hi45 hw46 hq47 => ?_)
      obtain ⟨e58, h⟩ := hq47
      subst e58
      refine V.aload_n (pc := 60) hG dX12_replace_60 rfl 0 rfl ?_
      refine V.callVv (pc := 61) (As := []) (stk := []) hG (sm_X12_build l Δ  hi45 hw h) mY_X12_build kw_1910 kw_1912 kw_116 a_504 (by decide) (q := (RX12, TX12, 49)) rfl rfl ⟨Nat.le_of_ble_eq_true rfl, Nat.le_of_ble_eq_true rfl, Nat.le_of_ble_eq_true rfl, Nat.le_of_ble_eq_true rfl⟩ rfl (Nat.le_of_ble_eq_true rfl) dX12_replace_61 rfl (fun i49 r50 hi52 hw53 hq54 => ?_)
      obtain ⟨e56, h⟩ := hq54
      subst e56
      refine V.aload_n (pc := 64) hG dX12_replace_64 rfl 0 rfl ?_
      refine V.getI (pc := 65) (ci := 14) (k := 21) (M := 49) (T := TX12) (o := 504) (kz := 21) hG a_504 a_504.n (by decide) hin_X12 rfl (by decide) (by decide) rfl kw_1713 rfl dX12_replace_65 ?_
      exact fin dX12_replace_68 ((hi52 _ _)) rfl hi52 hw ⟨rfl, h⟩
    · have h := f40 c38
      clear t39 f40
      refine V.pick [] rfl ?_
      exact jn53 i32 hi35 h
  have jn25 : ∀ (k1j25 : Int) (ij25 : MI), sR k1j25 → okI ij25 → s25_X12_replace p1 k1j25 ij25 r Q → V Γ Δ 542 false ij25 r 0 0 Q0 25 [(0, .ref (sA Δ 504)), (1, .int (sJ p1))] [.int (sJ k1j25), .ref (sA Δ 504)] := by
    intro k1j25 ij25 hk1j25 hij25 h
    refine V.iconst (pc := 25) hG dX12_replace_25 ?_
    refine V.callVi (pc := 26) (As := [.int (sJ k1j25), .int (sJ 1)]) (stk := []) hG (sm_X12_fails l Δ hk1j25 ((sR_l rfl)) hij25 hw h) mY_X12_fails kw_1853 kw_1855 kw_106 a_504 (by decide) (q := (RX12, TX12, 49)) rfl rfl ⟨Nat.le_of_ble_eq_true rfl, Nat.le_of_ble_eq_true rfl, Nat.le_of_ble_eq_true rfl, Nat.le_of_ble_eq_true rfl⟩ rfl (Nat.le_of_ble_eq_true rfl) dX12_replace_26 rfl (fun v85 i86 r87 hv88 hi89 hw90 hq91 => ?_)
    obtain ⟨e108, h⟩ := hq91
    subst e108
    obtain ⟨f94, t93⟩ := h
    refine V.if_ne (pc := 29) (tgt := 53) hG hv88 dX12_replace_29 (by decide) (fun c92 => ?_) (fun c92 => ?_)
    · have h := t93 c92
      clear t93 f94
      refine V.pick [] rfl ?_
      exact jn53 i86 hi89 h
    · have h := f94 c92
      clear t93 f94
      refine V.aload_n (pc := 32) hG dX12_replace_32 rfl 0 rfl ?_
      refine V.aload_n (pc := 33) hG dX12_replace_33 rfl 0 rfl ?_
      refine V.callVi (pc := 34) (As := []) (stk := [.ref (sA Δ 504)]) hG (sm_X12_parse l Δ  hi89 hw h) mY_X12_parse kw_1865 kw_1867 kw_107 a_504 (by decide) (q := (RX12, TX12, 49)) rfl rfl ⟨Nat.le_of_ble_eq_true rfl, Nat.le_of_ble_eq_true rfl, Nat.le_of_ble_eq_true rfl, Nat.le_of_ble_eq_true rfl⟩ rfl (Nat.le_of_ble_eq_true rfl) dX12_replace_34 rfl (fun v95 i96 r97 hv98 hi99 hw100 hq101 => ?_)
      obtain ⟨e106, h⟩ := hq101
      subst e106
      refine V.iconst (pc := 37) hG dX12_replace_37 ?_
      obtain ⟨t103, f104⟩ := h
      refine V.icmp_eq (pc := 38) (tgt := 45) hG hv98 ((sR_l rfl)) dX12_replace_38 (by decide) (fun c102 => ?_) (fun c102 => ?_)
      · have h := t103 c102
        clear t103 f104
        refine V.iconst (pc := 45) hG dX12_replace_45 ?_
        exact jn46 0 i96 ((sR_l rfl)) hi99 h
      · have h := f104 c102
        clear t103 f104
        refine V.iconst (pc := 41) hG dX12_replace_41 ?_
        refine V.goto (pc := 42) (tgt := 46) hG dX12_replace_42 (by decide) ?_
        exact jn46 1 i96 ((sR_l rfl)) hi99 h
  refine V.aload_n (pc := 0) hG dX12_replace_0 rfl 0 rfl ?_
  refine V.iconst (pc := 1) hG dX12_replace_1 ?_
  refine V.putI (pc := 2) (ci := 14) (k := 0) (M := 49) (T := TX12) (o := 504) (kz := 0) hG a_504 a_504.n (by decide) hin_X12 rfl (by decide) (by decide) rfl kw_1692 rfl tyX12 tyX12_ok nmX12 rfl (ty := tyX12 0) (tyX12_ok 0 (by decide)) rfl rfl dX12_replace_2 ?_
  refine V.aload_n (pc := 5) hG dX12_replace_5 rfl 0 rfl ?_
  refine V.iload_n (pc := 6) hG dX12_replace_6 rfl 1 rfl ?_
  refine V.iconst (pc := 7) hG dX12_replace_7 ?_
  refine V.aload_n (pc := 8) hG dX12_replace_8 rfl 0 rfl ?_
  refine V.getI (pc := 9) (ci := 14) (k := 6) (M := 49) (T := TX12) (o := 504) (kz := 6) hG a_504 a_504.n (by decide) hin_X12 rfl (by decide) (by decide) rfl kw_1698 rfl dX12_replace_9 ?_
  refine V.iconst (pc := 12) hG dX12_replace_12 ?_
  refine V.isub (pc := 13) hG dX12_replace_13 ?_
  refine V.callSi (pc := 14) (As := [.int (sJ p1), .int (sJ 0), .int (sJ (wr ((st i 504 0 0) 504 6 - 1)))]) (stk := [.ref (sA Δ 504)]) hG (sm_X12_in l Δ hp1 ((sR_l rfl)) ((sR_wr _)) ((okI_st hi ((sR_l rfl)))) hw h) mY_X12_in kw_1848 kw_1849 ⟨Nat.le_of_ble_eq_true rfl, Nat.le_of_ble_eq_true rfl, Nat.le_of_ble_eq_true rfl, Nat.le_of_ble_eq_true rfl⟩ rfl (Nat.le_of_ble_eq_true rfl) dX12_replace_14 rfl (fun v109 i110 r111 hv112 hi113 hw114 hq115 => ?_)
  obtain ⟨e119, e120, h⟩ := hq115
  subst e119
  subst e120
  obtain ⟨f118, t117⟩ := h
  refine V.if_ne (pc := 17) (tgt := 24) hG hv112 dX12_replace_17 (by decide) (fun c116 => ?_) (fun c116 => ?_)
  · have h := t117 c116
    clear t117 f118
    refine V.iconst (pc := 24) hG dX12_replace_24 ?_
    exact jn25 0 (st i 504 0 0) ((sR_l rfl)) ((okI_st hi ((sR_l rfl)))) h
  · have h := f118 c116
    clear t117 f118
    refine V.iconst (pc := 20) hG dX12_replace_20 ?_
    refine V.goto (pc := 21) (tgt := 25) hG dX12_replace_21 (by decide) ?_
    exact jn25 1 (st i 504 0 0) ((sR_l rfl)) ((okI_st hi ((sR_l rfl)))) h
set_option maxRecDepth 100000 in
set_option maxHeartbeats 4000000 in
theorem sm_X12_setTurns (l : Launch) (Δ : Wd) {i r : MI} {p1 : Int} (hp1 : sR p1) {Q : Int → MI → Prop} (hi : okI i) (hw : Wf r) (h : wp_X12_setTurns p1 i r Q) : Met l yX12_setTurns (Cond.code yX12_setTurns cX12_setTurns 3 (some .int) :: gW) (sRm 1 22) (sPc Δ [.ref (sA Δ 504), .int (sJ p1)] i r) (sQi Δ (fun x i' r' => r = r' ∧ Q x i')) 0 0 (sFr Δ) := by
  refine Ct.i (ty := .int) (by decide) rfl (Nat.le_of_ble_eq_true rfl) (fun Γ Q0 hG fin => ?_)
  have hG : okG Γ Δ l (sRm 1 22) cX12_setTurns "SchedularyModel" 3 := hG
  show V Γ Δ 542 false i r 0 0 Q0 0 [(0, .ref (sA Δ 504)), (1, .int (sJ p1))] []
  have jn50 : ∀  (ij50 : MI), okI ij50 → s50_X12_setTurns ij50 r Q → V Γ Δ 542 false ij50 r 0 0 Q0 50 [] [] := by
    intro ij50 hij50 h
    refine V.iconst (pc := 50) hG dX12_setTurns_50 ?_
    exact fin dX12_setTurns_51 ((sR_l rfl)) rfl hij50 hw ⟨rfl, h⟩
  have jn43 : ∀ (k1j43 : Int) (ij43 : MI), sR k1j43 → okI ij43 → s43_X12_setTurns p1 k1j43 ij43 r Q → V Γ Δ 542 false ij43 r 0 0 Q0 43 [(0, .ref (sA Δ 504)), (1, .int (sJ p1))] [.int (sJ k1j43), .ref (sA Δ 504)] := by
    intro k1j43 ij43 hk1j43 hij43 h
    refine V.iconst (pc := 43) hG dX12_setTurns_43 ?_
    refine V.callVi (pc := 44) (As := [.int (sJ k1j43), .int (sJ 2)]) (stk := []) hG (sm_X12_fails l Δ hk1j43 ((sR_l rfl)) hij43 hw h) mY_X12_fails kw_1853 kw_1855 kw_106 a_504 (by decide) (q := (RX12, TX12, 49)) rfl rfl ⟨Nat.le_of_ble_eq_true rfl, Nat.le_of_ble_eq_true rfl, Nat.le_of_ble_eq_true rfl, Nat.le_of_ble_eq_true rfl⟩ rfl (Nat.le_of_ble_eq_true rfl) dX12_setTurns_44 rfl (fun v13 i14 r15 hv16 hi17 hw18 hq19 => ?_)
    obtain ⟨e24, h⟩ := hq19
    subst e24
    obtain ⟨t21, f22⟩ := h
    refine V.if_eq (pc := 47) (tgt := 52) hG hv16 dX12_setTurns_47 (by decide) (fun c20 => ?_) (fun c20 => ?_)
    · have h := t21 c20
      clear t21 f22
      refine V.aload_n (pc := 52) hG dX12_setTurns_52 rfl 0 rfl ?_
      refine V.getI (pc := 53) (ci := 14) (k := 8) (M := 49) (T := TX12) (o := 504) (kz := 8) hG a_504 a_504.n (by decide) hin_X12 rfl (by decide) (by decide) rfl kw_1700 rfl dX12_setTurns_53 ?_
      refine V.istore_n (pc := 56) (lv' := [(2, .int (sJ (i14 504 8))), (0, .ref (sA Δ 504)), (1, .int (sJ p1))]) hG dX12_setTurns_56 rfl (by decide) rfl ?_
      refine V.aload_n (pc := 57) hG dX12_setTurns_57 rfl 1 rfl ?_
      refine V.iload_n (pc := 58) hG dX12_setTurns_58 rfl 2 rfl ?_
      refine V.putI (pc := 59) (ci := 14) (k := 8) (M := 49) (T := TX12) (o := 504) (kz := 8) hG a_504 a_504.n (by decide) hin_X12 rfl (by decide) (by decide) rfl kw_1700 rfl tyX12 tyX12_ok nmX12 rfl (ty := tyX12 8) (tyX12_ok 8 (by decide)) rfl rfl dX12_setTurns_59 ?_
      refine V.iload_n (pc := 62) hG dX12_setTurns_62 rfl 0 rfl ?_
      exact fin dX12_setTurns_63 ((hi17 _ _)) rfl ((okI_st hi17 hp1)) hw ⟨rfl, h⟩
    · have h := f22 c20
      clear t21 f22
      refine V.pick [] rfl ?_
      exact jn50 i14 hi17 h
  have jn21 : ∀ (k1j21 : Int) (ij21 : MI), sR k1j21 → okI ij21 → s21_X12_setTurns p1 k1j21 ij21 r Q → V Γ Δ 542 false ij21 r 0 0 Q0 21 [(0, .ref (sA Δ 504)), (1, .int (sJ p1))] [.int (sJ k1j21), .ref (sA Δ 504)] := by
    intro k1j21 ij21 hk1j21 hij21 h
    refine V.iconst (pc := 21) hG dX12_setTurns_21 ?_
    refine V.callVi (pc := 22) (As := [.int (sJ k1j21), .int (sJ 1)]) (stk := []) hG (sm_X12_fails l Δ hk1j21 ((sR_l rfl)) hij21 hw h) mY_X12_fails kw_1853 kw_1855 kw_106 a_504 (by decide) (q := (RX12, TX12, 49)) rfl rfl ⟨Nat.le_of_ble_eq_true rfl, Nat.le_of_ble_eq_true rfl, Nat.le_of_ble_eq_true rfl, Nat.le_of_ble_eq_true rfl⟩ rfl (Nat.le_of_ble_eq_true rfl) dX12_setTurns_22 rfl (fun v41 i42 r43 hv44 hi45 hw46 hq47 => ?_)
    obtain ⟨e56, h⟩ := hq47
    subst e56
    obtain ⟨f50, t49⟩ := h
    refine V.if_ne (pc := 25) (tgt := 50) hG hv44 dX12_setTurns_25 (by decide) (fun c48 => ?_) (fun c48 => ?_)
    · have h := t49 c48
      clear t49 f50
      refine V.pick [] rfl ?_
      exact jn50 i42 hi45 h
    · have h := f50 c48
      clear t49 f50
      refine V.aload_n (pc := 28) hG dX12_setTurns_28 rfl 0 rfl ?_
      refine V.iload_n (pc := 29) hG dX12_setTurns_29 rfl 1 rfl ?_
      refine V.aload_n (pc := 30) hG dX12_setTurns_30 rfl 0 rfl ?_
      refine V.getI (pc := 31) (ci := 14) (k := 10) (M := 49) (T := TX12) (o := 504) (kz := 10) hG a_504 a_504.n (by decide) hin_X12 rfl (by decide) (by decide) rfl kw_1702 rfl dX12_setTurns_31 ?_
      obtain ⟨g51, h⟩ := h
      refine V.irem (pc := 34) hG hp1 ((hi45 _ _)) g51 dX12_setTurns_34 ?_
      obtain ⟨t53, f54⟩ := h
      refine V.if_eq (pc := 35) (tgt := 42) hG ((sR_tmod hp1)) dX12_setTurns_35 (by decide) (fun c52 => ?_) (fun c52 => ?_)
      · have h := t53 c52
        clear t53 f54
        refine V.iconst (pc := 42) hG dX12_setTurns_42 ?_
        exact jn43 0 i42 ((sR_l rfl)) hi45 h
      · have h := f54 c52
        clear t53 f54
        refine V.iconst (pc := 38) hG dX12_setTurns_38 ?_
        refine V.goto (pc := 39) (tgt := 43) hG dX12_setTurns_39 (by decide) ?_
        exact jn43 1 i42 ((sR_l rfl)) hi45 h
  refine V.aload_n (pc := 0) hG dX12_setTurns_0 rfl 0 rfl ?_
  refine V.iconst (pc := 1) hG dX12_setTurns_1 ?_
  refine V.putI (pc := 2) (ci := 14) (k := 0) (M := 49) (T := TX12) (o := 504) (kz := 0) hG a_504 a_504.n (by decide) hin_X12 rfl (by decide) (by decide) rfl kw_1692 rfl tyX12 tyX12_ok nmX12 rfl (ty := tyX12 0) (tyX12_ok 0 (by decide)) rfl rfl dX12_setTurns_2 ?_
  refine V.aload_n (pc := 5) hG dX12_setTurns_5 rfl 0 rfl ?_
  refine V.iload_n (pc := 6) hG dX12_setTurns_6 rfl 1 rfl ?_
  refine V.iconst (pc := 7) hG dX12_setTurns_7 ?_
  refine V.bipush (pc := 8) hG dX12_setTurns_8 (by decide) ?_
  refine V.callSi (pc := 10) (As := [.int (sJ p1), .int (sJ 1), .int (sJ 16)]) (stk := [.ref (sA Δ 504)]) hG (sm_X12_in l Δ hp1 ((sR_l rfl)) ((sR_l rfl)) ((okI_st hi ((sR_l rfl)))) hw h) mY_X12_in kw_1848 kw_1849 ⟨Nat.le_of_ble_eq_true rfl, Nat.le_of_ble_eq_true rfl, Nat.le_of_ble_eq_true rfl, Nat.le_of_ble_eq_true rfl⟩ rfl (Nat.le_of_ble_eq_true rfl) dX12_setTurns_10 rfl (fun v57 i58 r59 hv60 hi61 hw62 hq63 => ?_)
  obtain ⟨e67, e68, h⟩ := hq63
  subst e67
  subst e68
  obtain ⟨f66, t65⟩ := h
  refine V.if_ne (pc := 13) (tgt := 20) hG hv60 dX12_setTurns_13 (by decide) (fun c64 => ?_) (fun c64 => ?_)
  · have h := t65 c64
    clear t65 f66
    refine V.iconst (pc := 20) hG dX12_setTurns_20 ?_
    exact jn21 0 (st i 504 0 0) ((sR_l rfl)) ((okI_st hi ((sR_l rfl)))) h
  · have h := f66 c64
    clear t65 f66
    refine V.iconst (pc := 16) hG dX12_setTurns_16 ?_
    refine V.goto (pc := 17) (tgt := 21) hG dX12_setTurns_17 (by decide) ?_
    exact jn21 1 (st i 504 0 0) ((sR_l rfl)) ((okI_st hi ((sR_l rfl)))) h
set_option maxRecDepth 100000 in
set_option maxHeartbeats 4000000 in
theorem sm_X12_setBits (l : Launch) (Δ : Wd) {i r : MI} {p1 : Int} (hp1 : sR p1) {Q : Int → MI → Prop} (hi : okI i) (hw : Wf r) (h : wp_X12_setBits p1 i r Q) : Met l yX12_setBits (Cond.code yX12_setBits cX12_setBits 3 (some .int) :: gW) (sRm 1 22) (sPc Δ [.ref (sA Δ 504), .int (sJ p1)] i r) (sQi Δ (fun x i' r' => r = r' ∧ Q x i')) 0 0 (sFr Δ) := by
  refine Ct.i (ty := .int) (by decide) rfl (Nat.le_of_ble_eq_true rfl) (fun Γ Q0 hG fin => ?_)
  have hG : okG Γ Δ l (sRm 1 22) cX12_setBits "SchedularyModel" 3 := hG
  show V Γ Δ 542 false i r 0 0 Q0 0 [(0, .ref (sA Δ 504)), (1, .int (sJ p1))] []
  have jn21 : ∀ (k1j21 : Int) (ij21 : MI), sR k1j21 → okI ij21 → s21_X12_setBits p1 k1j21 ij21 r Q → V Γ Δ 542 false ij21 r 0 0 Q0 21 [(0, .ref (sA Δ 504)), (1, .int (sJ p1))] [.int (sJ k1j21), .ref (sA Δ 504)] := by
    intro k1j21 ij21 hk1j21 hij21 h
    refine V.iconst (pc := 21) hG dX12_setBits_21 ?_
    refine V.callVi (pc := 22) (As := [.int (sJ k1j21), .int (sJ 1)]) (stk := []) hG (sm_X12_fails l Δ hk1j21 ((sR_l rfl)) hij21 hw h) mY_X12_fails kw_1853 kw_1855 kw_106 a_504 (by decide) (q := (RX12, TX12, 49)) rfl rfl ⟨Nat.le_of_ble_eq_true rfl, Nat.le_of_ble_eq_true rfl, Nat.le_of_ble_eq_true rfl, Nat.le_of_ble_eq_true rfl⟩ rfl (Nat.le_of_ble_eq_true rfl) dX12_setBits_22 rfl (fun v13 i14 r15 hv16 hi17 hw18 hq19 => ?_)
    obtain ⟨e24, h⟩ := hq19
    subst e24
    obtain ⟨t21, f22⟩ := h
    refine V.if_eq (pc := 25) (tgt := 30) hG hv16 dX12_setBits_25 (by decide) (fun c20 => ?_) (fun c20 => ?_)
    · have h := t21 c20
      clear t21 f22
      refine V.aload_n (pc := 30) hG dX12_setBits_30 rfl 0 rfl ?_
      refine V.getI (pc := 31) (ci := 14) (k := 9) (M := 49) (T := TX12) (o := 504) (kz := 9) hG a_504 a_504.n (by decide) hin_X12 rfl (by decide) (by decide) rfl kw_1701 rfl dX12_setBits_31 ?_
      refine V.istore_n (pc := 34) (lv' := [(2, .int (sJ (i14 504 9))), (0, .ref (sA Δ 504)), (1, .int (sJ p1))]) hG dX12_setBits_34 rfl (by decide) rfl ?_
      refine V.aload_n (pc := 35) hG dX12_setBits_35 rfl 1 rfl ?_
      refine V.iload_n (pc := 36) hG dX12_setBits_36 rfl 2 rfl ?_
      refine V.putI (pc := 37) (ci := 14) (k := 9) (M := 49) (T := TX12) (o := 504) (kz := 9) hG a_504 a_504.n (by decide) hin_X12 rfl (by decide) (by decide) rfl kw_1701 rfl tyX12 tyX12_ok nmX12 rfl (ty := tyX12 9) (tyX12_ok 9 (by decide)) rfl rfl dX12_setBits_37 ?_
      refine V.iload_n (pc := 40) hG dX12_setBits_40 rfl 0 rfl ?_
      exact fin dX12_setBits_41 ((hi17 _ _)) rfl ((okI_st hi17 hp1)) hw ⟨rfl, h⟩
    · have h := f22 c20
      clear t21 f22
      refine V.iconst (pc := 28) hG dX12_setBits_28 ?_
      exact fin dX12_setBits_29 ((sR_l rfl)) rfl hi17 hw ⟨rfl, h⟩
  refine V.aload_n (pc := 0) hG dX12_setBits_0 rfl 0 rfl ?_
  refine V.iconst (pc := 1) hG dX12_setBits_1 ?_
  refine V.putI (pc := 2) (ci := 14) (k := 0) (M := 49) (T := TX12) (o := 504) (kz := 0) hG a_504 a_504.n (by decide) hin_X12 rfl (by decide) (by decide) rfl kw_1692 rfl tyX12 tyX12_ok nmX12 rfl (ty := tyX12 0) (tyX12_ok 0 (by decide)) rfl rfl dX12_setBits_2 ?_
  refine V.aload_n (pc := 5) hG dX12_setBits_5 rfl 0 rfl ?_
  refine V.iload_n (pc := 6) hG dX12_setBits_6 rfl 1 rfl ?_
  refine V.iconst (pc := 7) hG dX12_setBits_7 ?_
  refine V.bipush (pc := 8) hG dX12_setBits_8 (by decide) ?_
  refine V.callSi (pc := 10) (As := [.int (sJ p1), .int (sJ 1), .int (sJ 16)]) (stk := [.ref (sA Δ 504)]) hG (sm_X12_in l Δ hp1 ((sR_l rfl)) ((sR_l rfl)) ((okI_st hi ((sR_l rfl)))) hw h) mY_X12_in kw_1848 kw_1849 ⟨Nat.le_of_ble_eq_true rfl, Nat.le_of_ble_eq_true rfl, Nat.le_of_ble_eq_true rfl, Nat.le_of_ble_eq_true rfl⟩ rfl (Nat.le_of_ble_eq_true rfl) dX12_setBits_10 rfl (fun v25 i26 r27 hv28 hi29 hw30 hq31 => ?_)
  obtain ⟨e35, e36, h⟩ := hq31
  subst e35
  subst e36
  obtain ⟨f34, t33⟩ := h
  refine V.if_ne (pc := 13) (tgt := 20) hG hv28 dX12_setBits_13 (by decide) (fun c32 => ?_) (fun c32 => ?_)
  · have h := t33 c32
    clear t33 f34
    refine V.iconst (pc := 20) hG dX12_setBits_20 ?_
    exact jn21 0 (st i 504 0 0) ((sR_l rfl)) ((okI_st hi ((sR_l rfl)))) h
  · have h := f34 c32
    clear t33 f34
    refine V.iconst (pc := 16) hG dX12_setBits_16 ?_
    refine V.goto (pc := 17) (tgt := 21) hG dX12_setBits_17 (by decide) ?_
    exact jn21 1 (st i 504 0 0) ((sR_l rfl)) ((okI_st hi ((sR_l rfl)))) h
set_option maxRecDepth 100000 in
set_option maxHeartbeats 4000000 in
theorem sm_X12_unroll (l : Launch) (Δ : Wd) {i r : MI} {p1 : Int} (hp1 : sR p1) {Q : Int → MI → Prop} (hi : okI i) (hw : Wf r) (h : wp_X12_unroll p1 i r Q) : Met l yX12_unroll (Cond.code yX12_unroll cX12_unroll 2 (some .int) :: gW) (sRm 4 94) (sPc Δ [.ref (sA Δ 504), .int (sJ p1)] i r) (sQi Δ (fun x i' r' => r = r' ∧ Q x i')) 0 0 (sFr Δ) := by
  refine Ct.i (ty := .int) (by decide) rfl (Nat.le_of_ble_eq_true rfl) (fun Γ Q0 hG fin => ?_)
  have hG : okG Γ Δ l (sRm 4 94) cX12_unroll "SchedularyModel" 2 := hG
  show V Γ Δ 542 false i r 0 0 Q0 0 [(0, .ref (sA Δ 504)), (1, .int (sJ p1))] []
  have jn73 : ∀  (ij73 : MI), okI ij73 → s73_X12_unroll ij73 r Q → V Γ Δ 542 false ij73 r 0 0 Q0 73 [] [] := by
    intro ij73 hij73 h
    refine V.iconst (pc := 73) hG dX12_unroll_73 ?_
    exact fin dX12_unroll_74 ((sR_l rfl)) rfl hij73 hw ⟨rfl, h⟩
  have jn66 : ∀ (k1j66 : Int) (ij66 : MI), sR k1j66 → okI ij66 → s66_X12_unroll p1 k1j66 ij66 r Q → V Γ Δ 542 false ij66 r 0 0 Q0 66 [(0, .ref (sA Δ 504)), (1, .int (sJ p1))] [.int (sJ k1j66), .ref (sA Δ 504)] := by
    intro k1j66 ij66 hk1j66 hij66 h
    refine V.iconst (pc := 66) hG dX12_unroll_66 ?_
    refine V.callVi (pc := 67) (As := [.int (sJ k1j66), .int (sJ 3)]) (stk := []) hG (sm_X12_fails l Δ hk1j66 ((sR_l rfl)) hij66 hw h) mY_X12_fails kw_1853 kw_1855 kw_106 a_504 (by decide) (q := (RX12, TX12, 49)) rfl rfl ⟨Nat.le_of_ble_eq_true rfl, Nat.le_of_ble_eq_true rfl, Nat.le_of_ble_eq_true rfl, Nat.le_of_ble_eq_true rfl⟩ rfl (Nat.le_of_ble_eq_true rfl) dX12_unroll_67 rfl (fun v22 i23 r24 hv25 hi26 hw27 hq28 => ?_)
    obtain ⟨e42, h⟩ := hq28
    subst e42
    obtain ⟨t30, f31⟩ := h
    refine V.if_eq (pc := 70) (tgt := 75) hG hv25 dX12_unroll_70 (by decide) (fun c29 => ?_) (fun c29 => ?_)
    · have h := t30 c29
      clear t30 f31
      refine V.aload_n (pc := 75) hG dX12_unroll_75 rfl 0 rfl ?_
      refine V.iload_n (pc := 76) hG dX12_unroll_76 rfl 1 rfl ?_
      refine V.putI (pc := 77) (ci := 14) (k := 10) (M := 49) (T := TX12) (o := 504) (kz := 10) hG a_504 a_504.n (by decide) hin_X12 rfl (by decide) (by decide) rfl kw_1702 rfl tyX12 tyX12_ok nmX12 rfl (ty := tyX12 10) (tyX12_ok 10 (by decide)) rfl rfl dX12_unroll_77 ?_
      refine V.aload_n (pc := 80) hG dX12_unroll_80 rfl 0 rfl ?_
      refine V.callVv (pc := 81) (As := []) (stk := []) hG (sm_X12_build l Δ  ((okI_st hi26 hp1)) hw h) mY_X12_build kw_1910 kw_1912 kw_116 a_504 (by decide) (q := (RX12, TX12, 49)) rfl rfl ⟨Nat.le_of_ble_eq_true rfl, Nat.le_of_ble_eq_true rfl, Nat.le_of_ble_eq_true rfl, Nat.le_of_ble_eq_true rfl⟩ rfl (Nat.le_of_ble_eq_true rfl) dX12_unroll_81 rfl (fun i33 r34 hi36 hw37 hq38 => ?_)
      obtain ⟨e40, h⟩ := hq38
      subst e40
      refine V.aload_n (pc := 84) hG dX12_unroll_84 rfl 0 rfl ?_
      refine V.getI (pc := 85) (ci := 14) (k := 21) (M := 49) (T := TX12) (o := 504) (kz := 21) hG a_504 a_504.n (by decide) hin_X12 rfl (by decide) (by decide) rfl kw_1713 rfl dX12_unroll_85 ?_
      exact fin dX12_unroll_88 ((hi36 _ _)) rfl hi36 hw ⟨rfl, h⟩
    · have h := f31 c29
      clear t30 f31
      refine V.pick [] rfl ?_
      exact jn73 i23 hi26 h
  have jn42 : ∀ (k1j42 : Int) (ij42 : MI), sR k1j42 → okI ij42 → s42_X12_unroll p1 k1j42 ij42 r Q → V Γ Δ 542 false ij42 r 0 0 Q0 42 [(0, .ref (sA Δ 504)), (1, .int (sJ p1))] [.int (sJ k1j42), .ref (sA Δ 504)] := by
    intro k1j42 ij42 hk1j42 hij42 h
    refine V.iconst (pc := 42) hG dX12_unroll_42 ?_
    refine V.callVi (pc := 43) (As := [.int (sJ k1j42), .int (sJ 2)]) (stk := []) hG (sm_X12_fails l Δ hk1j42 ((sR_l rfl)) hij42 hw h) mY_X12_fails kw_1853 kw_1855 kw_106 a_504 (by decide) (q := (RX12, TX12, 49)) rfl rfl ⟨Nat.le_of_ble_eq_true rfl, Nat.le_of_ble_eq_true rfl, Nat.le_of_ble_eq_true rfl, Nat.le_of_ble_eq_true rfl⟩ rfl (Nat.le_of_ble_eq_true rfl) dX12_unroll_43 rfl (fun v58 i59 r60 hv61 hi62 hw63 hq64 => ?_)
    obtain ⟨e72, h⟩ := hq64
    subst e72
    obtain ⟨f67, t66⟩ := h
    refine V.if_ne (pc := 46) (tgt := 73) hG hv61 dX12_unroll_46 (by decide) (fun c65 => ?_) (fun c65 => ?_)
    · have h := t66 c65
      clear t66 f67
      refine V.pick [] rfl ?_
      exact jn73 i59 hi62 h
    · have h := f67 c65
      clear t66 f67
      refine V.aload_n (pc := 49) hG dX12_unroll_49 rfl 0 rfl ?_
      refine V.aload_n (pc := 50) hG dX12_unroll_50 rfl 0 rfl ?_
      refine V.getI (pc := 51) (ci := 14) (k := 6) (M := 49) (T := TX12) (o := 504) (kz := 6) hG a_504 a_504.n (by decide) hin_X12 rfl (by decide) (by decide) rfl kw_1698 rfl dX12_unroll_51 ?_
      refine V.iload_n (pc := 54) hG dX12_unroll_54 rfl 1 rfl ?_
      refine V.imul (pc := 55) hG dX12_unroll_55 ?_
      refine V.bipush (pc := 56) hG dX12_unroll_56 (by decide) ?_
      obtain ⟨t69, f70⟩ := h
      refine V.icmp_le (pc := 58) (tgt := 65) hG ((sR_wr _)) ((sR_l rfl)) dX12_unroll_58 (by decide) (fun c68 => ?_) (fun c68 => ?_)
      · have h := t69 c68
        clear t69 f70
        refine V.iconst (pc := 65) hG dX12_unroll_65 ?_
        exact jn66 0 i59 ((sR_l rfl)) hi62 h
      · have h := f70 c68
        clear t69 f70
        refine V.iconst (pc := 61) hG dX12_unroll_61 ?_
        refine V.goto (pc := 62) (tgt := 66) hG dX12_unroll_62 (by decide) ?_
        exact jn66 1 i59 ((sR_l rfl)) hi62 h
  have jn20 : ∀ (k1j20 : Int) (ij20 : MI), sR k1j20 → okI ij20 → s20_X12_unroll p1 k1j20 ij20 r Q → V Γ Δ 542 false ij20 r 0 0 Q0 20 [(0, .ref (sA Δ 504)), (1, .int (sJ p1))] [.int (sJ k1j20), .ref (sA Δ 504)] := by
    intro k1j20 ij20 hk1j20 hij20 h
    refine V.iconst (pc := 20) hG dX12_unroll_20 ?_
    refine V.callVi (pc := 21) (As := [.int (sJ k1j20), .int (sJ 1)]) (stk := []) hG (sm_X12_fails l Δ hk1j20 ((sR_l rfl)) hij20 hw h) mY_X12_fails kw_1853 kw_1855 kw_106 a_504 (by decide) (q := (RX12, TX12, 49)) rfl rfl ⟨Nat.le_of_ble_eq_true rfl, Nat.le_of_ble_eq_true rfl, Nat.le_of_ble_eq_true rfl, Nat.le_of_ble_eq_true rfl⟩ rfl (Nat.le_of_ble_eq_true rfl) dX12_unroll_21 rfl (fun v89 i90 r91 hv92 hi93 hw94 hq95 => ?_)
    obtain ⟨e104, h⟩ := hq95
    subst e104
    obtain ⟨f98, t97⟩ := h
    refine V.if_ne (pc := 24) (tgt := 73) hG hv92 dX12_unroll_24 (by decide) (fun c96 => ?_) (fun c96 => ?_)
    · have h := t97 c96
      clear t97 f98
      refine V.pick [] rfl ?_
      exact jn73 i90 hi93 h
    · have h := f98 c96
      clear t97 f98
      refine V.aload_n (pc := 27) hG dX12_unroll_27 rfl 0 rfl ?_
      refine V.aload_n (pc := 28) hG dX12_unroll_28 rfl 0 rfl ?_
      refine V.getI (pc := 29) (ci := 14) (k := 8) (M := 49) (T := TX12) (o := 504) (kz := 8) hG a_504 a_504.n (by decide) hin_X12 rfl (by decide) (by decide) rfl kw_1700 rfl dX12_unroll_29 ?_
      refine V.iload_n (pc := 32) hG dX12_unroll_32 rfl 1 rfl ?_
      obtain ⟨g99, h⟩ := h
      refine V.irem (pc := 33) hG ((hi93 _ _)) hp1 g99 dX12_unroll_33 ?_
      obtain ⟨t101, f102⟩ := h
      refine V.if_eq (pc := 34) (tgt := 41) hG ((sR_tmod ((hi93 _ _)))) dX12_unroll_34 (by decide) (fun c100 => ?_) (fun c100 => ?_)
      · have h := t101 c100
        clear t101 f102
        refine V.iconst (pc := 41) hG dX12_unroll_41 ?_
        exact jn42 0 i90 ((sR_l rfl)) hi93 h
      · have h := f102 c100
        clear t101 f102
        refine V.iconst (pc := 37) hG dX12_unroll_37 ?_
        refine V.goto (pc := 38) (tgt := 42) hG dX12_unroll_38 (by decide) ?_
        exact jn42 1 i90 ((sR_l rfl)) hi93 h
  refine V.aload_n (pc := 0) hG dX12_unroll_0 rfl 0 rfl ?_
  refine V.iconst (pc := 1) hG dX12_unroll_1 ?_
  refine V.putI (pc := 2) (ci := 14) (k := 0) (M := 49) (T := TX12) (o := 504) (kz := 0) hG a_504 a_504.n (by decide) hin_X12 rfl (by decide) (by decide) rfl kw_1692 rfl tyX12 tyX12_ok nmX12 rfl (ty := tyX12 0) (tyX12_ok 0 (by decide)) rfl rfl dX12_unroll_2 ?_
  refine V.aload_n (pc := 5) hG dX12_unroll_5 rfl 0 rfl ?_
  refine V.iload_n (pc := 6) hG dX12_unroll_6 rfl 1 rfl ?_
  refine V.iconst (pc := 7) hG dX12_unroll_7 ?_
  refine V.iconst (pc := 8) hG dX12_unroll_8 ?_
  refine V.callSi (pc := 9) (As := [.int (sJ p1), .int (sJ 1), .int (sJ 4)]) (stk := [.ref (sA Δ 504)]) hG (sm_X12_in l Δ hp1 ((sR_l rfl)) ((sR_l rfl)) ((okI_st hi ((sR_l rfl)))) hw h) mY_X12_in kw_1848 kw_1849 ⟨Nat.le_of_ble_eq_true rfl, Nat.le_of_ble_eq_true rfl, Nat.le_of_ble_eq_true rfl, Nat.le_of_ble_eq_true rfl⟩ rfl (Nat.le_of_ble_eq_true rfl) dX12_unroll_9 rfl (fun v105 i106 r107 hv108 hi109 hw110 hq111 => ?_)
  obtain ⟨e115, e116, h⟩ := hq111
  subst e115
  subst e116
  obtain ⟨f114, t113⟩ := h
  refine V.if_ne (pc := 12) (tgt := 19) hG hv108 dX12_unroll_12 (by decide) (fun c112 => ?_) (fun c112 => ?_)
  · have h := t113 c112
    clear t113 f114
    refine V.iconst (pc := 19) hG dX12_unroll_19 ?_
    exact jn20 0 (st i 504 0 0) ((sR_l rfl)) ((okI_st hi ((sR_l rfl)))) h
  · have h := f114 c112
    clear t113 f114
    refine V.iconst (pc := 15) hG dX12_unroll_15 ?_
    refine V.goto (pc := 16) (tgt := 20) hG dX12_unroll_16 (by decide) ?_
    exact jn20 1 (st i 504 0 0) ((sR_l rfl)) ((okI_st hi ((sR_l rfl)))) h
set_option maxRecDepth 100000 in
set_option maxHeartbeats 4000000 in
theorem sm_X12_input (l : Launch) (Δ : Wd) {i r : MI} {p1 : Int} (hp1 : sR p1) {Q : Int → MI → Prop} (hi : okI i) (hw : Wf r) (h : wp_X12_input p1 i r Q) : Met l yX12_input (Cond.code yX12_input cX12_input 2 (some .int) :: gW) (sRm 1 22) (sPc Δ [.ref (sA Δ 504), .int (sJ p1)] i r) (sQi Δ (fun x i' r' => r = r' ∧ Q x i')) 0 0 (sFr Δ) := by
  refine Ct.i (ty := .int) (by decide) rfl (Nat.le_of_ble_eq_true rfl) (fun Γ Q0 hG fin => ?_)
  have hG : okG Γ Δ l (sRm 1 22) cX12_input "SchedularyModel" 2 := hG
  show V Γ Δ 542 false i r 0 0 Q0 0 [(0, .ref (sA Δ 504)), (1, .int (sJ p1))] []
  have jn50 : ∀  (ij50 : MI), okI ij50 → s50_X12_input ij50 r Q → V Γ Δ 542 false ij50 r 0 0 Q0 50 [] [] := by
    intro ij50 hij50 h
    refine V.iconst (pc := 50) hG dX12_input_50 ?_
    exact fin dX12_input_51 ((sR_l rfl)) rfl hij50 hw ⟨rfl, h⟩
  have jn43 : ∀ (k1j43 : Int) (ij43 : MI), sR k1j43 → okI ij43 → s43_X12_input p1 k1j43 ij43 r Q → V Γ Δ 542 false ij43 r 0 0 Q0 43 [(0, .ref (sA Δ 504)), (1, .int (sJ p1))] [.int (sJ k1j43), .ref (sA Δ 504)] := by
    intro k1j43 ij43 hk1j43 hij43 h
    refine V.iconst (pc := 43) hG dX12_input_43 ?_
    refine V.callVi (pc := 44) (As := [.int (sJ k1j43), .int (sJ 2)]) (stk := []) hG (sm_X12_fails l Δ hk1j43 ((sR_l rfl)) hij43 hw h) mY_X12_fails kw_1853 kw_1855 kw_106 a_504 (by decide) (q := (RX12, TX12, 49)) rfl rfl ⟨Nat.le_of_ble_eq_true rfl, Nat.le_of_ble_eq_true rfl, Nat.le_of_ble_eq_true rfl, Nat.le_of_ble_eq_true rfl⟩ rfl (Nat.le_of_ble_eq_true rfl) dX12_input_44 rfl (fun v14 i15 r16 hv17 hi18 hw19 hq20 => ?_)
    obtain ⟨e26, h⟩ := hq20
    subst e26
    obtain ⟨t22, f23⟩ := h
    refine V.if_eq (pc := 47) (tgt := 52) hG hv17 dX12_input_47 (by decide) (fun c21 => ?_) (fun c21 => ?_)
    · have h := t22 c21
      clear t22 f23
      refine V.aload_n (pc := 52) hG dX12_input_52 rfl 0 rfl ?_
      refine V.getR (x := 508) (pc := 53) (ci := 14) (k := 12) (M := 49) (T := TX12) (o := 504) (kz := 12) hG a_504 a_504.n (by decide) hin_X12 rfl (by decide) (by decide) rfl kw_1704 rfl ((hw).1 (504, 12, 508) (by decide)) (by decide) dX12_input_53 ?_
      refine V.aload_n (pc := 56) hG dX12_input_56 rfl 0 rfl ?_
      refine V.getI (pc := 57) (ci := 14) (k := 11) (M := 49) (T := TX12) (o := 504) (kz := 11) hG a_504 a_504.n (by decide) hin_X12 rfl (by decide) (by decide) rfl kw_1703 rfl dX12_input_57 ?_
      refine V.iload_n (pc := 60) hG dX12_input_60 rfl 1 rfl ?_
      obtain ⟨g24, h⟩ := h
      refine V.iast (pc := 61) (z := 32) (o := 508) hG a_508 a_508.n ((hi18 _ _)) g24 dX12_input_61 ?_
      refine V.aload_n (pc := 62) hG dX12_input_62 rfl 0 rfl ?_
      refine V.dup (pc := 63) hG dX12_input_63 rfl ?_
      refine V.getI (pc := 64) (ci := 14) (k := 11) (M := 49) (T := TX12) (o := 504) (kz := 11) hG a_504 a_504.n (by decide) hin_X12 rfl (by decide) (by decide) rfl kw_1703 rfl dX12_input_64 ?_
      refine V.iconst (pc := 67) hG dX12_input_67 ?_
      refine V.iadd (pc := 68) hG dX12_input_68 ?_
      refine V.putI (pc := 69) (ci := 14) (k := 11) (M := 49) (T := TX12) (o := 504) (kz := 11) hG a_504 a_504.n (by decide) hin_X12 rfl (by decide) (by decide) rfl kw_1703 rfl tyX12 tyX12_ok nmX12 rfl (ty := tyX12 11) (tyX12_ok 11 (by decide)) rfl rfl dX12_input_69 ?_
      refine V.aload_n (pc := 72) hG dX12_input_72 rfl 0 rfl ?_
      refine V.getI (pc := 73) (ci := 14) (k := 11) (M := 49) (T := TX12) (o := 504) (kz := 11) hG a_504 a_504.n (by decide) hin_X12 rfl (by decide) (by decide) rfl kw_1703 rfl dX12_input_73 ?_
      exact fin dX12_input_76 (((okI_st ((okI_st hi18 hp1)) ((sR_wr _))) _ _)) rfl ((okI_st ((okI_st hi18 hp1)) ((sR_wr _)))) hw ⟨rfl, h⟩
    · have h := f23 c21
      clear t22 f23
      refine V.pick [] rfl ?_
      exact jn50 i15 hi18 h
  have jn21 : ∀ (k1j21 : Int) (ij21 : MI), sR k1j21 → okI ij21 → s21_X12_input p1 k1j21 ij21 r Q → V Γ Δ 542 false ij21 r 0 0 Q0 21 [(0, .ref (sA Δ 504)), (1, .int (sJ p1))] [.int (sJ k1j21), .ref (sA Δ 504)] := by
    intro k1j21 ij21 hk1j21 hij21 h
    refine V.iconst (pc := 21) hG dX12_input_21 ?_
    refine V.callVi (pc := 22) (As := [.int (sJ k1j21), .int (sJ 1)]) (stk := []) hG (sm_X12_fails l Δ hk1j21 ((sR_l rfl)) hij21 hw h) mY_X12_fails kw_1853 kw_1855 kw_106 a_504 (by decide) (q := (RX12, TX12, 49)) rfl rfl ⟨Nat.le_of_ble_eq_true rfl, Nat.le_of_ble_eq_true rfl, Nat.le_of_ble_eq_true rfl, Nat.le_of_ble_eq_true rfl⟩ rfl (Nat.le_of_ble_eq_true rfl) dX12_input_22 rfl (fun v42 i43 r44 hv45 hi46 hw47 hq48 => ?_)
    obtain ⟨e56, h⟩ := hq48
    subst e56
    obtain ⟨f51, t50⟩ := h
    refine V.if_ne (pc := 25) (tgt := 50) hG hv45 dX12_input_25 (by decide) (fun c49 => ?_) (fun c49 => ?_)
    · have h := t50 c49
      clear t50 f51
      refine V.pick [] rfl ?_
      exact jn50 i43 hi46 h
    · have h := f51 c49
      clear t50 f51
      refine V.aload_n (pc := 28) hG dX12_input_28 rfl 0 rfl ?_
      refine V.aload_n (pc := 29) hG dX12_input_29 rfl 0 rfl ?_
      refine V.getI (pc := 30) (ci := 14) (k := 11) (M := 49) (T := TX12) (o := 504) (kz := 11) hG a_504 a_504.n (by decide) hin_X12 rfl (by decide) (by decide) rfl kw_1703 rfl dX12_input_30 ?_
      refine V.bipush (pc := 33) hG dX12_input_33 (by decide) ?_
      obtain ⟨f54, t53⟩ := h
      refine V.icmp_ne (pc := 35) (tgt := 42) hG ((hi46 _ _)) ((sR_l rfl)) dX12_input_35 (by decide) (fun c52 => ?_) (fun c52 => ?_)
      · have h := t53 c52
        clear t53 f54
        refine V.iconst (pc := 42) hG dX12_input_42 ?_
        exact jn43 0 i43 ((sR_l rfl)) hi46 h
      · have h := f54 c52
        clear t53 f54
        refine V.iconst (pc := 38) hG dX12_input_38 ?_
        refine V.goto (pc := 39) (tgt := 43) hG dX12_input_39 (by decide) ?_
        exact jn43 1 i43 ((sR_l rfl)) hi46 h
  refine V.aload_n (pc := 0) hG dX12_input_0 rfl 0 rfl ?_
  refine V.iconst (pc := 1) hG dX12_input_1 ?_
  refine V.putI (pc := 2) (ci := 14) (k := 0) (M := 49) (T := TX12) (o := 504) (kz := 0) hG a_504 a_504.n (by decide) hin_X12 rfl (by decide) (by decide) rfl kw_1692 rfl tyX12 tyX12_ok nmX12 rfl (ty := tyX12 0) (tyX12_ok 0 (by decide)) rfl rfl dX12_input_2 ?_
  refine V.aload_n (pc := 5) hG dX12_input_5 rfl 0 rfl ?_
  refine V.iload_n (pc := 6) hG dX12_input_6 rfl 1 rfl ?_
  refine V.iconst (pc := 7) hG dX12_input_7 ?_
  refine V.ldc (pc := 8) (x := 65535) hG kw_1988 dX12_input_8 ?_
  refine V.callSi (pc := 10) (As := [.int (sJ p1), .int (sJ 0), .int (sJ 65535)]) (stk := [.ref (sA Δ 504)]) hG (sm_X12_in l Δ hp1 ((sR_l rfl)) ((sR_l rfl)) ((okI_st hi ((sR_l rfl)))) hw h) mY_X12_in kw_1848 kw_1849 ⟨Nat.le_of_ble_eq_true rfl, Nat.le_of_ble_eq_true rfl, Nat.le_of_ble_eq_true rfl, Nat.le_of_ble_eq_true rfl⟩ rfl (Nat.le_of_ble_eq_true rfl) dX12_input_10 rfl (fun v57 i58 r59 hv60 hi61 hw62 hq63 => ?_)
  obtain ⟨e67, e68, h⟩ := hq63
  subst e67
  subst e68
  obtain ⟨f66, t65⟩ := h
  refine V.if_ne (pc := 13) (tgt := 20) hG hv60 dX12_input_13 (by decide) (fun c64 => ?_) (fun c64 => ?_)
  · have h := t65 c64
    clear t65 f66
    refine V.iconst (pc := 20) hG dX12_input_20 ?_
    exact jn21 0 (st i 504 0 0) ((sR_l rfl)) ((okI_st hi ((sR_l rfl)))) h
  · have h := f66 c64
    clear t65 f66
    refine V.iconst (pc := 16) hG dX12_input_16 ?_
    refine V.goto (pc := 17) (tgt := 21) hG dX12_input_17 (by decide) ?_
    exact jn21 1 (st i 504 0 0) ((sR_l rfl)) ((okI_st hi ((sR_l rfl)))) h
set_option maxRecDepth 100000 in
set_option maxHeartbeats 4000000 in
theorem sm_X12_noMemory (l : Launch) (Δ : Wd) {i r : MI} {p0 : Int} {p1 : Int} (hp0 : sR p0) (hp1 : sR p1) {Q : Int → Prop} (hi : okI i) (hw : Wf r) (h : wp_X12_noMemory p0 p1 i r Q) : Met l yX12_noMemory (Cond.code yX12_noMemory cX12_noMemory 2 (some .boolean) :: gW) (sRm 1 22) (sPc Δ [.int (sJ p0), .int (sJ p1)] i r) (sQi Δ (fun x i' r' => i = i' ∧ r = r' ∧ Q x)) 0 0 (sFr Δ) := by
  refine Ct.i (ty := .boolean) (by decide) rfl (Nat.le_of_ble_eq_true rfl) (fun Γ Q0 hG fin => ?_)
  have hG : okG Γ Δ l (sRm 1 22) cX12_noMemory "SchedularyModel" 2 := hG
  show V Γ Δ 542 false i r 0 0 Q0 0 [(0, .int (sJ p0)), (1, .int (sJ p1))] []
  have jn27 : ∀ (k0j27 : Int), sR k0j27 → s27_X12_noMemory k0j27 i r Q → V Γ Δ 542 false i r 0 0 Q0 27 [] [.int (sJ k0j27)] := by
    intro k0j27 hk0j27 h
    obtain ⟨g2, h⟩ := h
    exact fin dX12_noMemory_27 hk0j27 (nar_z g2) hi hw ⟨rfl, rfl, h⟩
  have jn22 : s22_X12_noMemory i r Q → V Γ Δ 542 false i r 0 0 Q0 22 [] [] := by
    intro h
    refine V.iconst (pc := 22) hG dX12_noMemory_22 ?_
    refine V.goto (pc := 23) (tgt := 27) hG dX12_noMemory_23 (by decide) ?_
    exact jn27 1 ((sR_l rfl)) h
  have jn12 : s12_X12_noMemory p1 i r Q → V Γ Δ 542 false i r 0 0 Q0 12 [(1, .int (sJ p1))] [] := by
    intro h
    refine V.iload_n (pc := 12) hG dX12_noMemory_12 rfl 0 rfl ?_
    refine V.iconst (pc := 13) hG dX12_noMemory_13 ?_
    refine V.bipush (pc := 14) hG dX12_noMemory_14 (by decide) ?_
    refine V.callSi (pc := 16) (As := [.int (sJ p1), .int (sJ 0), .int (sJ 15)]) (stk := []) hG (sm_X12_in l Δ hp1 ((sR_l rfl)) ((sR_l rfl)) hi hw h) mY_X12_in kw_1848 kw_1849 ⟨Nat.le_of_ble_eq_true rfl, Nat.le_of_ble_eq_true rfl, Nat.le_of_ble_eq_true rfl, Nat.le_of_ble_eq_true rfl⟩ rfl (Nat.le_of_ble_eq_true rfl) dX12_noMemory_16 rfl (fun v15 i16 r17 hv18 hi19 hw20 hq21 => ?_)
    obtain ⟨e25, e26, h⟩ := hq21
    subst e25
    subst e26
    obtain ⟨f24, t23⟩ := h
    refine V.if_ne (pc := 19) (tgt := 26) hG hv18 dX12_noMemory_19 (by decide) (fun c22 => ?_) (fun c22 => ?_)
    · have h := t23 c22
      clear t23 f24
      refine V.iconst (pc := 26) hG dX12_noMemory_26 ?_
      refine V.pick [] rfl ?_
      exact jn27 0 ((sR_l rfl)) h
    · have h := f24 c22
      clear t23 f24
      refine V.pick [] rfl ?_
      exact jn22 h
  refine V.iload_n (pc := 0) hG dX12_noMemory_0 rfl 0 rfl ?_
  refine V.bipush (pc := 1) hG dX12_noMemory_1 (by decide) ?_
  obtain ⟨t28, f29⟩ := h
  refine V.icmp_eq (pc := 3) (tgt := 12) hG hp0 ((sR_l rfl)) dX12_noMemory_3 (by decide) (fun c27 => ?_) (fun c27 => ?_)
  · have h := t28 c27
    clear t28 f29
    refine V.pick [1] rfl ?_
    exact jn12 h
  · have h := f29 c27
    clear t28 f29
    refine V.iload_n (pc := 6) hG dX12_noMemory_6 rfl 0 rfl ?_
    refine V.bipush (pc := 7) hG dX12_noMemory_7 (by decide) ?_
    obtain ⟨f32, t31⟩ := h
    refine V.icmp_ne (pc := 9) (tgt := 22) hG hp0 ((sR_l rfl)) dX12_noMemory_9 (by decide) (fun c30 => ?_) (fun c30 => ?_)
    · have h := t31 c30
      clear t31 f32
      refine V.pick [] rfl ?_
      exact jn22 h
    · have h := f32 c30
      clear t31 f32
      refine V.pick [1] rfl ?_
      exact jn12 h
set_option maxRecDepth 100000 in
set_option maxHeartbeats 4000000 in
theorem sm_X12_cell (l : Launch) (Δ : Wd) {i r : MI} {p0 : Int} {p1 : Int} (hp0 : sR p0) (hp1 : sR p1) {Q : Int → Prop} (hi : okI i) (hw : Wf r) (h : wp_X12_cell p0 p1 i r Q) : Met l yX12_cell (Cond.code yX12_cell cX12_cell 2 (some .int) :: gW) (sRm 0 0) (sPc Δ [.int (sJ p0), .int (sJ p1)] i r) (sQi Δ (fun x i' r' => i = i' ∧ r = r' ∧ Q x)) 0 0 (sFr Δ) := by
  refine Ct.i (ty := .int) (by decide) rfl (Nat.le_of_ble_eq_true rfl) (fun Γ Q0 hG fin => ?_)
  have hG : okG Γ Δ l (sRm 0 0) cX12_cell "SchedularyModel" 2 := hG
  show V Γ Δ 542 false i r 0 0 Q0 0 [(0, .int (sJ p0)), (1, .int (sJ p1))] []
  have jn12 : ∀ (k0j12 : Int), sR k0j12 → s12_X12_cell p1 k0j12 i r Q → V Γ Δ 542 false i r 0 0 Q0 12 [(1, .int (sJ p1))] [.int (sJ k0j12)] := by
    intro k0j12 hk0j12 h
    refine V.iload_n (pc := 12) hG dX12_cell_12 rfl 0 rfl ?_
    refine V.iadd (pc := 13) hG dX12_cell_13 ?_
    exact fin dX12_cell_14 ((sR_wr _)) rfl hi hw ⟨rfl, rfl, h⟩
  refine V.iload_n (pc := 0) hG dX12_cell_0 rfl 0 rfl ?_
  refine V.bipush (pc := 1) hG dX12_cell_1 (by decide) ?_
  obtain ⟨f3, t2⟩ := h
  refine V.icmp_ne (pc := 3) (tgt := 10) hG hp0 ((sR_l rfl)) dX12_cell_3 (by decide) (fun c1 => ?_) (fun c1 => ?_)
  · have h := t2 c1
    clear t2 f3
    refine V.bipush (pc := 10) hG dX12_cell_10 (by decide) ?_
    refine V.pick [1] rfl ?_
    exact jn12 16 ((sR_l rfl)) h
  · have h := f3 c1
    clear t2 f3
    refine V.iconst (pc := 6) hG dX12_cell_6 ?_
    refine V.goto (pc := 7) (tgt := 12) hG dX12_cell_7 (by decide) ?_
    refine V.pick [1] rfl ?_
    exact jn12 0 ((sR_l rfl)) h
set_option maxRecDepth 100000 in
set_option maxHeartbeats 4000000 in
theorem sm_X12_setMemory (l : Launch) (Δ : Wd) {i r : MI} {p1 : Int} {p2 : Int} {p3 : Int} (hp1 : sR p1) (hp2 : sR p2) (hp3 : sR p3) {Q : Int → MI → Prop} (hi : okI i) (hw : Wf r) (h : wp_X12_setMemory p1 p2 p3 i r Q) : Met l yX12_setMemory (Cond.code yX12_setMemory cX12_setMemory 5 (some .int) :: gW) (sRm 2 43) (sPc Δ [.ref (sA Δ 504), .int (sJ p1), .int (sJ p2), .int (sJ p3)] i r) (sQi Δ (fun x i' r' => r = r' ∧ Q x i')) 0 0 (sFr Δ) := by
  refine Ct.i (ty := .int) (by decide) rfl (Nat.le_of_ble_eq_true rfl) (fun Γ Q0 hG fin => ?_)
  have hG : okG Γ Δ l (sRm 2 43) cX12_setMemory "SchedularyModel" 5 := hG
  show V Γ Δ 542 false i r 0 0 Q0 0 [(0, .ref (sA Δ 504)), (1, .int (sJ p1)), (2, .int (sJ p2)), (3, .int (sJ p3))] []
  have jn29 : ∀ (k1j29 : Int) (ij29 : MI), sR k1j29 → okI ij29 → s29_X12_setMemory p1 p2 p3 k1j29 ij29 r Q → V Γ Δ 542 false ij29 r 0 0 Q0 29 [(0, .ref (sA Δ 504)), (1, .int (sJ p1)), (2, .int (sJ p2)), (3, .int (sJ p3))] [.int (sJ k1j29), .ref (sA Δ 504)] := by
    intro k1j29 ij29 hk1j29 hij29 h
    refine V.iconst (pc := 29) hG dX12_setMemory_29 ?_
    refine V.callVi (pc := 30) (As := [.int (sJ k1j29), .int (sJ 1)]) (stk := []) hG (sm_X12_fails l Δ hk1j29 ((sR_l rfl)) hij29 hw h) mY_X12_fails kw_1853 kw_1855 kw_106 a_504 (by decide) (q := (RX12, TX12, 49)) rfl rfl ⟨Nat.le_of_ble_eq_true rfl, Nat.le_of_ble_eq_true rfl, Nat.le_of_ble_eq_true rfl, Nat.le_of_ble_eq_true rfl⟩ rfl (Nat.le_of_ble_eq_true rfl) dX12_setMemory_30 rfl (fun v33 i34 r35 hv36 hi37 hw38 hq39 => ?_)
    obtain ⟨e64, h⟩ := hq39
    subst e64
    obtain ⟨t41, f42⟩ := h
    refine V.if_eq (pc := 33) (tgt := 38) hG hv36 dX12_setMemory_33 (by decide) (fun c40 => ?_) (fun c40 => ?_)
    · have h := t41 c40
      clear t41 f42
      refine V.aload_n (pc := 38) hG dX12_setMemory_38 rfl 0 rfl ?_
      refine V.getR (x := 509) (pc := 39) (ci := 14) (k := 13) (M := 49) (T := TX12) (o := 504) (kz := 13) hG a_504 a_504.n (by decide) hin_X12 rfl (by decide) (by decide) rfl kw_1705 rfl ((hw).1 (504, 13, 509) (by decide)) (by decide) dX12_setMemory_39 ?_
      refine V.iload_n (pc := 42) hG dX12_setMemory_42 rfl 1 rfl ?_
      refine V.iload_n (pc := 43) hG dX12_setMemory_43 rfl 2 rfl ?_
      refine V.callSi (pc := 44) (As := [.int (sJ p1), .int (sJ p2)]) (stk := [.ref (sA Δ 509)]) hG (sm_X12_cell l Δ hp1 hp2 hi37 hw h) mY_X12_cell kw_1996 kw_1997 ⟨Nat.le_of_ble_eq_true rfl, Nat.le_of_ble_eq_true rfl, Nat.le_of_ble_eq_true rfl, Nat.le_of_ble_eq_true rfl⟩ rfl (Nat.le_of_ble_eq_true rfl) dX12_setMemory_44 rfl (fun v43 i44 r45 hv46 hi47 hw48 hq49 => ?_)
      obtain ⟨e61, e62, h⟩ := hq49
      subst e61
      subst e62
      obtain ⟨g50, h⟩ := h
      refine V.iald (pc := 47) (z := 32) (o := 509) hG a_509 a_509.n hv46 g50 dX12_setMemory_47 ?_
      refine V.istore (pc := 48) (lv' := [(4, .int (sJ (i34 509 v43))), (0, .ref (sA Δ 504)), (1, .int (sJ p1)), (2, .int (sJ p2)), (3, .int (sJ p3))]) hG dX12_setMemory_48 (by decide) rfl ?_
      refine V.aload_n (pc := 50) hG dX12_setMemory_50 rfl 1 rfl ?_
      refine V.getR (x := 509) (pc := 51) (ci := 14) (k := 13) (M := 49) (T := TX12) (o := 504) (kz := 13) hG a_504 a_504.n (by decide) hin_X12 rfl (by decide) (by decide) rfl kw_1705 rfl ((hw).1 (504, 13, 509) (by decide)) (by decide) dX12_setMemory_51 ?_
      refine V.iload_n (pc := 54) hG dX12_setMemory_54 rfl 2 rfl ?_
      refine V.iload_n (pc := 55) hG dX12_setMemory_55 rfl 3 rfl ?_
      refine V.callSi (pc := 56) (As := [.int (sJ p1), .int (sJ p2)]) (stk := [.ref (sA Δ 509)]) hG (sm_X12_cell l Δ hp1 hp2 hi37 hw h) mY_X12_cell kw_1996 kw_1997 ⟨Nat.le_of_ble_eq_true rfl, Nat.le_of_ble_eq_true rfl, Nat.le_of_ble_eq_true rfl, Nat.le_of_ble_eq_true rfl⟩ rfl (Nat.le_of_ble_eq_true rfl) dX12_setMemory_56 rfl (fun v51 i52 r53 hv54 hi55 hw56 hq57 => ?_)
      obtain ⟨e59, e60, h⟩ := hq57
      subst e59
      subst e60
      refine V.iload_n (pc := 59) hG dX12_setMemory_59 rfl 4 rfl ?_
      obtain ⟨g58, h⟩ := h
      refine V.iast (pc := 60) (z := 32) (o := 509) hG a_509 a_509.n hv54 g58 dX12_setMemory_60 ?_
      refine V.iload (pc := 61) hG dX12_setMemory_61 0 rfl ?_
      exact fin dX12_setMemory_63 ((hi37 _ _)) rfl ((okI_st hi37 hp3)) hw ⟨rfl, h⟩
    · have h := f42 c40
      clear t41 f42
      refine V.iconst (pc := 36) hG dX12_setMemory_36 ?_
      exact fin dX12_setMemory_37 ((sR_l rfl)) rfl hi37 hw ⟨rfl, h⟩
  have jn24 : ∀  (ij24 : MI), okI ij24 → s24_X12_setMemory p1 p2 p3 ij24 r Q → V Γ Δ 542 false ij24 r 0 0 Q0 24 [(0, .ref (sA Δ 504)), (1, .int (sJ p1)), (2, .int (sJ p2)), (3, .int (sJ p3))] [.ref (sA Δ 504)] := by
    intro ij24 hij24 h
    refine V.iconst (pc := 24) hG dX12_setMemory_24 ?_
    refine V.goto (pc := 25) (tgt := 29) hG dX12_setMemory_25 (by decide) ?_
    exact jn29 1 ij24 ((sR_l rfl)) hij24 h
  refine V.aload_n (pc := 0) hG dX12_setMemory_0 rfl 0 rfl ?_
  refine V.iconst (pc := 1) hG dX12_setMemory_1 ?_
  refine V.putI (pc := 2) (ci := 14) (k := 0) (M := 49) (T := TX12) (o := 504) (kz := 0) hG a_504 a_504.n (by decide) hin_X12 rfl (by decide) (by decide) rfl kw_1692 rfl tyX12 tyX12_ok nmX12 rfl (ty := tyX12 0) (tyX12_ok 0 (by decide)) rfl rfl dX12_setMemory_2 ?_
  refine V.aload_n (pc := 5) hG dX12_setMemory_5 rfl 0 rfl ?_
  refine V.iload_n (pc := 6) hG dX12_setMemory_6 rfl 1 rfl ?_
  refine V.iload_n (pc := 7) hG dX12_setMemory_7 rfl 2 rfl ?_
  refine V.callSi (pc := 8) (As := [.int (sJ p1), .int (sJ p2)]) (stk := [.ref (sA Δ 504)]) hG (sm_X12_noMemory l Δ hp1 hp2 ((okI_st hi ((sR_l rfl)))) hw h) mY_X12_noMemory kw_1993 kw_1994 ⟨Nat.le_of_ble_eq_true rfl, Nat.le_of_ble_eq_true rfl, Nat.le_of_ble_eq_true rfl, Nat.le_of_ble_eq_true rfl⟩ rfl (Nat.le_of_ble_eq_true rfl) dX12_setMemory_8 rfl (fun v65 i66 r67 hv68 hi69 hw70 hq71 => ?_)
  obtain ⟨e87, e88, h⟩ := hq71
  subst e87
  subst e88
  obtain ⟨f74, t73⟩ := h
  refine V.if_ne (pc := 11) (tgt := 24) hG hv68 dX12_setMemory_11 (by decide) (fun c72 => ?_) (fun c72 => ?_)
  · have h := t73 c72
    clear t73 f74
    exact jn24 (st i 504 0 0) ((okI_st hi ((sR_l rfl)))) h
  · have h := f74 c72
    clear t73 f74
    refine V.iload_n (pc := 14) hG dX12_setMemory_14 rfl 3 rfl ?_
    refine V.iconst (pc := 15) hG dX12_setMemory_15 ?_
    refine V.ldc (pc := 16) (x := 65535) hG kw_1988 dX12_setMemory_16 ?_
    refine V.callSi (pc := 18) (As := [.int (sJ p3), .int (sJ 0), .int (sJ 65535)]) (stk := [.ref (sA Δ 504)]) hG (sm_X12_in l Δ hp3 ((sR_l rfl)) ((sR_l rfl)) ((okI_st hi ((sR_l rfl)))) hw h) mY_X12_in kw_1848 kw_1849 ⟨Nat.le_of_ble_eq_true rfl, Nat.le_of_ble_eq_true rfl, Nat.le_of_ble_eq_true rfl, Nat.le_of_ble_eq_true rfl⟩ rfl (Nat.le_of_ble_eq_true rfl) dX12_setMemory_18 rfl (fun v75 i76 r77 hv78 hi79 hw80 hq81 => ?_)
    obtain ⟨e85, e86, h⟩ := hq81
    subst e85
    subst e86
    obtain ⟨f84, t83⟩ := h
    refine V.if_ne (pc := 21) (tgt := 28) hG hv78 dX12_setMemory_21 (by decide) (fun c82 => ?_) (fun c82 => ?_)
    · have h := t83 c82
      clear t83 f84
      refine V.iconst (pc := 28) hG dX12_setMemory_28 ?_
      exact jn29 0 (st i 504 0 0) ((sR_l rfl)) ((okI_st hi ((sR_l rfl)))) h
    · have h := f84 c82
      clear t83 f84
      exact jn24 (st i 504 0 0) ((okI_st hi ((sR_l rfl)))) h
set_option maxRecDepth 100000 in
set_option maxHeartbeats 4000000 in
theorem sm_X12_setUnits (l : Launch) (Δ : Wd) {i r : MI} {p1 : Int} {p2 : Int} (hp1 : sR p1) (hp2 : sR p2) {Q : Int → MI → Prop} (hi : okI i) (hw : Wf r) (h : wp_X12_setUnits p1 p2 i r Q) : Met l yX12_setUnits (Cond.code yX12_setUnits cX12_setUnits 4 (some .int) :: gW) (sRm 4 91) (sPc Δ [.ref (sA Δ 504), .int (sJ p1), .int (sJ p2)] i r) (sQi Δ (fun x i' r' => r = r' ∧ Q x i')) 0 0 (sFr Δ) := by
  refine Ct.i (ty := .int) (by decide) rfl (Nat.le_of_ble_eq_true rfl) (fun Γ Q0 hG fin => ?_)
  have hG : okG Γ Δ l (sRm 4 91) cX12_setUnits "SchedularyModel" 4 := hG
  show V Γ Δ 542 false i r 0 0 Q0 0 [(0, .ref (sA Δ 504)), (1, .int (sJ p1)), (2, .int (sJ p2))] []
  have jn64 : ∀  (ij64 : MI), okI ij64 → s64_X12_setUnits ij64 r Q → V Γ Δ 542 false ij64 r 0 0 Q0 64 [] [] := by
    intro ij64 hij64 h
    refine V.iconst (pc := 64) hG dX12_setUnits_64 ?_
    exact fin dX12_setUnits_65 ((sR_l rfl)) rfl hij64 hw ⟨rfl, h⟩
  have jn57 : ∀ (k1j57 : Int) (ij57 : MI), sR k1j57 → okI ij57 → s57_X12_setUnits p1 p2 k1j57 ij57 r Q → V Γ Δ 542 false ij57 r 0 0 Q0 57 [(0, .ref (sA Δ 504)), (1, .int (sJ p1)), (2, .int (sJ p2))] [.int (sJ k1j57), .ref (sA Δ 504)] := by
    intro k1j57 ij57 hk1j57 hij57 h
    refine V.iconst (pc := 57) hG dX12_setUnits_57 ?_
    refine V.callVi (pc := 58) (As := [.int (sJ k1j57), .int (sJ 2)]) (stk := []) hG (sm_X12_fails l Δ hk1j57 ((sR_l rfl)) hij57 hw h) mY_X12_fails kw_1853 kw_1855 kw_106 a_504 (by decide) (q := (RX12, TX12, 49)) rfl rfl ⟨Nat.le_of_ble_eq_true rfl, Nat.le_of_ble_eq_true rfl, Nat.le_of_ble_eq_true rfl, Nat.le_of_ble_eq_true rfl⟩ rfl (Nat.le_of_ble_eq_true rfl) dX12_setUnits_58 rfl (fun v33 i34 r35 hv36 hi37 hw38 hq39 => ?_)
    obtain ⟨e64, h⟩ := hq39
    subst e64
    obtain ⟨t41, f42⟩ := h
    refine V.if_eq (pc := 61) (tgt := 66) hG hv36 dX12_setUnits_61 (by decide) (fun c40 => ?_) (fun c40 => ?_)
    · have h := t41 c40
      clear t41 f42
      refine V.aload_n (pc := 66) hG dX12_setUnits_66 rfl 0 rfl ?_
      refine V.getR (x := 510) (pc := 67) (ci := 14) (k := 14) (M := 49) (T := TX12) (o := 504) (kz := 14) hG a_504 a_504.n (by decide) hin_X12 rfl (by decide) (by decide) rfl kw_1706 rfl ((hw).1 (504, 14, 510) (by decide)) (by decide) dX12_setUnits_67 ?_
      refine V.ldcS (pc := 70) (k := 3) (tx := "amgMN<>") hG (by decide) dX12_setUnits_70 ?_
      refine V.iload_n (pc := 72) hG dX12_setUnits_72 rfl 1 rfl ?_
      refine V.callVSi (pc := 73) (As := [.int (sJ p1)]) (stk := [.ref (sA Δ 510)]) hG (sm_J0_indexOf_0f7a4 l Δ (by decide) hp1 hi37 hw h) mY_J0_indexOf_0f7a4 kw_1852 kw_652 kw_653 (by decide) rfl ⟨Nat.le_of_ble_eq_true rfl, Nat.le_of_ble_eq_true rfl, Nat.le_of_ble_eq_true rfl, Nat.le_of_ble_eq_true rfl⟩ rfl (Nat.le_of_ble_eq_true rfl) dX12_setUnits_73 rfl (fun v43 i44 r45 hv46 hi47 hw48 hq49 => ?_)
      obtain ⟨e61, e62, h⟩ := hq49
      subst e61
      subst e62
      obtain ⟨g50, h⟩ := h
      refine V.iald (pc := 76) (z := 7) (o := 510) hG a_510 a_510.n hv46 g50 dX12_setUnits_76 ?_
      refine V.istore_n (pc := 77) (lv' := [(3, .int (sJ (i34 510 v43))), (0, .ref (sA Δ 504)), (1, .int (sJ p1)), (2, .int (sJ p2))]) hG dX12_setUnits_77 rfl (by decide) rfl ?_
      refine V.aload_n (pc := 78) hG dX12_setUnits_78 rfl 1 rfl ?_
      refine V.getR (x := 510) (pc := 79) (ci := 14) (k := 14) (M := 49) (T := TX12) (o := 504) (kz := 14) hG a_504 a_504.n (by decide) hin_X12 rfl (by decide) (by decide) rfl kw_1706 rfl ((hw).1 (504, 14, 510) (by decide)) (by decide) dX12_setUnits_79 ?_
      refine V.ldcS (pc := 82) (k := 3) (tx := "amgMN<>") hG (by decide) dX12_setUnits_82 ?_
      refine V.iload_n (pc := 84) hG dX12_setUnits_84 rfl 2 rfl ?_
      refine V.callVSi (pc := 85) (As := [.int (sJ p1)]) (stk := [.ref (sA Δ 510)]) hG (sm_J0_indexOf_0f7a4 l Δ (by decide) hp1 hi37 hw h) mY_J0_indexOf_0f7a4 kw_1852 kw_652 kw_653 (by decide) rfl ⟨Nat.le_of_ble_eq_true rfl, Nat.le_of_ble_eq_true rfl, Nat.le_of_ble_eq_true rfl, Nat.le_of_ble_eq_true rfl⟩ rfl (Nat.le_of_ble_eq_true rfl) dX12_setUnits_85 rfl (fun v51 i52 r53 hv54 hi55 hw56 hq57 => ?_)
      obtain ⟨e59, e60, h⟩ := hq57
      subst e59
      subst e60
      refine V.iload_n (pc := 88) hG dX12_setUnits_88 rfl 3 rfl ?_
      obtain ⟨g58, h⟩ := h
      refine V.iast (pc := 89) (z := 7) (o := 510) hG a_510 a_510.n hv54 g58 dX12_setUnits_89 ?_
      refine V.iload_n (pc := 90) hG dX12_setUnits_90 rfl 0 rfl ?_
      exact fin dX12_setUnits_91 ((hi37 _ _)) rfl ((okI_st hi37 hp2)) hw ⟨rfl, h⟩
    · have h := f42 c40
      clear t41 f42
      refine V.pick [] rfl ?_
      exact jn64 i34 hi37 h
  have jn56 : ∀  (ij56 : MI), okI ij56 → s56_X12_setUnits p1 p2 ij56 r Q → V Γ Δ 542 false ij56 r 0 0 Q0 56 [(0, .ref (sA Δ 504)), (1, .int (sJ p1)), (2, .int (sJ p2))] [.ref (sA Δ 504)] := by
    intro ij56 hij56 h
    refine V.iconst (pc := 56) hG dX12_setUnits_56 ?_
    exact jn57 0 ij56 ((sR_l rfl)) hij56 h
  have jn29 : ∀ (k1j29 : Int) (ij29 : MI), sR k1j29 → okI ij29 → s29_X12_setUnits p1 p2 k1j29 ij29 r Q → V Γ Δ 542 false ij29 r 0 0 Q0 29 [(0, .ref (sA Δ 504)), (1, .int (sJ p1)), (2, .int (sJ p2))] [.int (sJ k1j29), .ref (sA Δ 504)] := by
    intro k1j29 ij29 hk1j29 hij29 h
    refine V.iconst (pc := 29) hG dX12_setUnits_29 ?_
    refine V.callVi (pc := 30) (As := [.int (sJ k1j29), .int (sJ 1)]) (stk := []) hG (sm_X12_fails l Δ hk1j29 ((sR_l rfl)) hij29 hw h) mY_X12_fails kw_1853 kw_1855 kw_106 a_504 (by decide) (q := (RX12, TX12, 49)) rfl rfl ⟨Nat.le_of_ble_eq_true rfl, Nat.le_of_ble_eq_true rfl, Nat.le_of_ble_eq_true rfl, Nat.le_of_ble_eq_true rfl⟩ rfl (Nat.le_of_ble_eq_true rfl) dX12_setUnits_30 rfl (fun v92 i93 r94 hv95 hi96 hw97 hq98 => ?_)
    obtain ⟨e118, h⟩ := hq98
    subst e118
    obtain ⟨f101, t100⟩ := h
    refine V.if_ne (pc := 33) (tgt := 64) hG hv95 dX12_setUnits_33 (by decide) (fun c99 => ?_) (fun c99 => ?_)
    · have h := t100 c99
      clear t100 f101
      refine V.pick [] rfl ?_
      exact jn64 i93 hi96 h
    · have h := f101 c99
      clear t100 f101
      refine V.aload_n (pc := 36) hG dX12_setUnits_36 rfl 0 rfl ?_
      refine V.iload_n (pc := 37) hG dX12_setUnits_37 rfl 2 rfl ?_
      refine V.iconst (pc := 38) hG dX12_setUnits_38 ?_
      obtain ⟨t103, f104⟩ := h
      refine V.icmp_le (pc := 39) (tgt := 56) hG hp2 ((sR_l rfl)) dX12_setUnits_39 (by decide) (fun c102 => ?_) (fun c102 => ?_)
      · have h := t103 c102
        clear t103 f104
        exact jn56 i93 hi96 h
      · have h := f104 c102
        clear t103 f104
        refine V.ldcS (pc := 42) (k := 3) (tx := "amgMN<>") hG (by decide) dX12_setUnits_42 ?_
        refine V.iload_n (pc := 44) hG dX12_setUnits_44 rfl 1 rfl ?_
        refine V.callVSi (pc := 45) (As := [.int (sJ p1)]) (stk := [.ref (sA Δ 504)]) hG (sm_J0_indexOf_0f7a4 l Δ (by decide) hp1 hi96 hw h) mY_J0_indexOf_0f7a4 kw_1852 kw_652 kw_653 (by decide) rfl ⟨Nat.le_of_ble_eq_true rfl, Nat.le_of_ble_eq_true rfl, Nat.le_of_ble_eq_true rfl, Nat.le_of_ble_eq_true rfl⟩ rfl (Nat.le_of_ble_eq_true rfl) dX12_setUnits_45 rfl (fun v105 i106 r107 hv108 hi109 hw110 hq111 => ?_)
        obtain ⟨e115, e116, h⟩ := hq111
        subst e115
        subst e116
        refine V.iconst (pc := 48) hG dX12_setUnits_48 ?_
        obtain ⟨t113, f114⟩ := h
        refine V.icmp_le (pc := 49) (tgt := 56) hG hv108 ((sR_l rfl)) dX12_setUnits_49 (by decide) (fun c112 => ?_) (fun c112 => ?_)
        · have h := t113 c112
          clear t113 f114
          exact jn56 i93 hi96 h
        · have h := f114 c112
          clear t113 f114
          refine V.iconst (pc := 52) hG dX12_setUnits_52 ?_
          refine V.goto (pc := 53) (tgt := 57) hG dX12_setUnits_53 (by decide) ?_
          exact jn57 1 i93 ((sR_l rfl)) hi96 h
  have jn24 : ∀  (ij24 : MI), okI ij24 → s24_X12_setUnits p1 p2 ij24 r Q → V Γ Δ 542 false ij24 r 0 0 Q0 24 [(0, .ref (sA Δ 504)), (1, .int (sJ p1)), (2, .int (sJ p2))] [.ref (sA Δ 504)] := by
    intro ij24 hij24 h
    refine V.iconst (pc := 24) hG dX12_setUnits_24 ?_
    refine V.goto (pc := 25) (tgt := 29) hG dX12_setUnits_25 (by decide) ?_
    exact jn29 1 ij24 ((sR_l rfl)) hij24 h
  refine V.aload_n (pc := 0) hG dX12_setUnits_0 rfl 0 rfl ?_
  refine V.iconst (pc := 1) hG dX12_setUnits_1 ?_
  refine V.putI (pc := 2) (ci := 14) (k := 0) (M := 49) (T := TX12) (o := 504) (kz := 0) hG a_504 a_504.n (by decide) hin_X12 rfl (by decide) (by decide) rfl kw_1692 rfl tyX12 tyX12_ok nmX12 rfl (ty := tyX12 0) (tyX12_ok 0 (by decide)) rfl rfl dX12_setUnits_2 ?_
  refine V.aload_n (pc := 5) hG dX12_setUnits_5 rfl 0 rfl ?_
  refine V.ldcS (pc := 6) (k := 3) (tx := "amgMN<>") hG (by decide) dX12_setUnits_6 ?_
  refine V.iload_n (pc := 8) hG dX12_setUnits_8 rfl 1 rfl ?_
  refine V.callVSi (pc := 9) (As := [.int (sJ p1)]) (stk := [.ref (sA Δ 504)]) hG (sm_J0_indexOf_0f7a4 l Δ (by decide) hp1 ((okI_st hi ((sR_l rfl)))) hw h) mY_J0_indexOf_0f7a4 kw_1852 kw_652 kw_653 (by decide) rfl ⟨Nat.le_of_ble_eq_true rfl, Nat.le_of_ble_eq_true rfl, Nat.le_of_ble_eq_true rfl, Nat.le_of_ble_eq_true rfl⟩ rfl (Nat.le_of_ble_eq_true rfl) dX12_setUnits_9 rfl (fun v119 i120 r121 hv122 hi123 hw124 hq125 => ?_)
  obtain ⟨e141, e142, h⟩ := hq125
  subst e141
  subst e142
  obtain ⟨t127, f128⟩ := h
  refine V.if_lt (pc := 12) (tgt := 24) hG hv122 dX12_setUnits_12 (by decide) (fun c126 => ?_) (fun c126 => ?_)
  · have h := t127 c126
    clear t127 f128
    exact jn24 (st i 504 0 0) ((okI_st hi ((sR_l rfl)))) h
  · have h := f128 c126
    clear t127 f128
    refine V.iload_n (pc := 15) hG dX12_setUnits_15 rfl 2 rfl ?_
    refine V.iconst (pc := 16) hG dX12_setUnits_16 ?_
    refine V.iconst (pc := 17) hG dX12_setUnits_17 ?_
    refine V.callSi (pc := 18) (As := [.int (sJ p2), .int (sJ 1), .int (sJ 4)]) (stk := [.ref (sA Δ 504)]) hG (sm_X12_in l Δ hp2 ((sR_l rfl)) ((sR_l rfl)) ((okI_st hi ((sR_l rfl)))) hw h) mY_X12_in kw_1848 kw_1849 ⟨Nat.le_of_ble_eq_true rfl, Nat.le_of_ble_eq_true rfl, Nat.le_of_ble_eq_true rfl, Nat.le_of_ble_eq_true rfl⟩ rfl (Nat.le_of_ble_eq_true rfl) dX12_setUnits_18 rfl (fun v129 i130 r131 hv132 hi133 hw134 hq135 => ?_)
    obtain ⟨e139, e140, h⟩ := hq135
    subst e139
    subst e140
    obtain ⟨f138, t137⟩ := h
    refine V.if_ne (pc := 21) (tgt := 28) hG hv132 dX12_setUnits_21 (by decide) (fun c136 => ?_) (fun c136 => ?_)
    · have h := t137 c136
      clear t137 f138
      refine V.iconst (pc := 28) hG dX12_setUnits_28 ?_
      exact jn29 0 (st i 504 0 0) ((sR_l rfl)) ((okI_st hi ((sR_l rfl)))) h
    · have h := f138 c136
      clear t137 f138
      exact jn24 (st i 504 0 0) ((okI_st hi ((sR_l rfl)))) h
set_option maxRecDepth 100000 in
set_option maxHeartbeats 4000000 in
theorem sm_X12_setCycles (l : Launch) (Δ : Wd) {i r : MI} {p1 : Int} {p2 : Int} (hp1 : sR p1) (hp2 : sR p2) {Q : Int → MI → Prop} (hi : okI i) (hw : Wf r) (h : wp_X12_setCycles p1 p2 i r Q) : Met l yX12_setCycles (Cond.code yX12_setCycles cX12_setCycles 4 (some .int) :: gW) (sRm 4 91) (sPc Δ [.ref (sA Δ 504), .int (sJ p1), .int (sJ p2)] i r) (sQi Δ (fun x i' r' => r = r' ∧ Q x i')) 0 0 (sFr Δ) := by
  refine Ct.i (ty := .int) (by decide) rfl (Nat.le_of_ble_eq_true rfl) (fun Γ Q0 hG fin => ?_)
  have hG : okG Γ Δ l (sRm 4 91) cX12_setCycles "SchedularyModel" 4 := hG
  show V Γ Δ 542 false i r 0 0 Q0 0 [(0, .ref (sA Δ 504)), (1, .int (sJ p1)), (2, .int (sJ p2))] []
  have jn29 : ∀ (k1j29 : Int) (ij29 : MI), sR k1j29 → okI ij29 → s29_X12_setCycles p1 p2 k1j29 ij29 r Q → V Γ Δ 542 false ij29 r 0 0 Q0 29 [(0, .ref (sA Δ 504)), (1, .int (sJ p1)), (2, .int (sJ p2))] [.int (sJ k1j29), .ref (sA Δ 504)] := by
    intro k1j29 ij29 hk1j29 hij29 h
    refine V.iconst (pc := 29) hG dX12_setCycles_29 ?_
    refine V.callVi (pc := 30) (As := [.int (sJ k1j29), .int (sJ 1)]) (stk := []) hG (sm_X12_fails l Δ hk1j29 ((sR_l rfl)) hij29 hw h) mY_X12_fails kw_1853 kw_1855 kw_106 a_504 (by decide) (q := (RX12, TX12, 49)) rfl rfl ⟨Nat.le_of_ble_eq_true rfl, Nat.le_of_ble_eq_true rfl, Nat.le_of_ble_eq_true rfl, Nat.le_of_ble_eq_true rfl⟩ rfl (Nat.le_of_ble_eq_true rfl) dX12_setCycles_30 rfl (fun v33 i34 r35 hv36 hi37 hw38 hq39 => ?_)
    obtain ⟨e64, h⟩ := hq39
    subst e64
    obtain ⟨t41, f42⟩ := h
    refine V.if_eq (pc := 33) (tgt := 38) hG hv36 dX12_setCycles_33 (by decide) (fun c40 => ?_) (fun c40 => ?_)
    · have h := t41 c40
      clear t41 f42
      refine V.aload_n (pc := 38) hG dX12_setCycles_38 rfl 0 rfl ?_
      refine V.getR (x := 511) (pc := 39) (ci := 14) (k := 15) (M := 49) (T := TX12) (o := 504) (kz := 15) hG a_504 a_504.n (by decide) hin_X12 rfl (by decide) (by decide) rfl kw_1707 rfl ((hw).1 (504, 15, 511) (by decide)) (by decide) dX12_setCycles_39 ?_
      refine V.ldcS (pc := 42) (k := 3) (tx := "amgMN<>") hG (by decide) dX12_setCycles_42 ?_
      refine V.iload_n (pc := 44) hG dX12_setCycles_44 rfl 1 rfl ?_
      refine V.callVSi (pc := 45) (As := [.int (sJ p1)]) (stk := [.ref (sA Δ 511)]) hG (sm_J0_indexOf_0f7a4 l Δ (by decide) hp1 hi37 hw h) mY_J0_indexOf_0f7a4 kw_1852 kw_652 kw_653 (by decide) rfl ⟨Nat.le_of_ble_eq_true rfl, Nat.le_of_ble_eq_true rfl, Nat.le_of_ble_eq_true rfl, Nat.le_of_ble_eq_true rfl⟩ rfl (Nat.le_of_ble_eq_true rfl) dX12_setCycles_45 rfl (fun v43 i44 r45 hv46 hi47 hw48 hq49 => ?_)
      obtain ⟨e61, e62, h⟩ := hq49
      subst e61
      subst e62
      obtain ⟨g50, h⟩ := h
      refine V.iald (pc := 48) (z := 7) (o := 511) hG a_511 a_511.n hv46 g50 dX12_setCycles_48 ?_
      refine V.istore_n (pc := 49) (lv' := [(3, .int (sJ (i34 511 v43))), (0, .ref (sA Δ 504)), (1, .int (sJ p1)), (2, .int (sJ p2))]) hG dX12_setCycles_49 rfl (by decide) rfl ?_
      refine V.aload_n (pc := 50) hG dX12_setCycles_50 rfl 1 rfl ?_
      refine V.getR (x := 511) (pc := 51) (ci := 14) (k := 15) (M := 49) (T := TX12) (o := 504) (kz := 15) hG a_504 a_504.n (by decide) hin_X12 rfl (by decide) (by decide) rfl kw_1707 rfl ((hw).1 (504, 15, 511) (by decide)) (by decide) dX12_setCycles_51 ?_
      refine V.ldcS (pc := 54) (k := 3) (tx := "amgMN<>") hG (by decide) dX12_setCycles_54 ?_
      refine V.iload_n (pc := 56) hG dX12_setCycles_56 rfl 2 rfl ?_
      refine V.callVSi (pc := 57) (As := [.int (sJ p1)]) (stk := [.ref (sA Δ 511)]) hG (sm_J0_indexOf_0f7a4 l Δ (by decide) hp1 hi37 hw h) mY_J0_indexOf_0f7a4 kw_1852 kw_652 kw_653 (by decide) rfl ⟨Nat.le_of_ble_eq_true rfl, Nat.le_of_ble_eq_true rfl, Nat.le_of_ble_eq_true rfl, Nat.le_of_ble_eq_true rfl⟩ rfl (Nat.le_of_ble_eq_true rfl) dX12_setCycles_57 rfl (fun v51 i52 r53 hv54 hi55 hw56 hq57 => ?_)
      obtain ⟨e59, e60, h⟩ := hq57
      subst e59
      subst e60
      refine V.iload_n (pc := 60) hG dX12_setCycles_60 rfl 3 rfl ?_
      obtain ⟨g58, h⟩ := h
      refine V.iast (pc := 61) (z := 7) (o := 511) hG a_511 a_511.n hv54 g58 dX12_setCycles_61 ?_
      refine V.iload_n (pc := 62) hG dX12_setCycles_62 rfl 0 rfl ?_
      exact fin dX12_setCycles_63 ((hi37 _ _)) rfl ((okI_st hi37 hp2)) hw ⟨rfl, h⟩
    · have h := f42 c40
      clear t41 f42
      refine V.iconst (pc := 36) hG dX12_setCycles_36 ?_
      exact fin dX12_setCycles_37 ((sR_l rfl)) rfl hi37 hw ⟨rfl, h⟩
  have jn24 : ∀  (ij24 : MI), okI ij24 → s24_X12_setCycles p1 p2 ij24 r Q → V Γ Δ 542 false ij24 r 0 0 Q0 24 [(0, .ref (sA Δ 504)), (1, .int (sJ p1)), (2, .int (sJ p2))] [.ref (sA Δ 504)] := by
    intro ij24 hij24 h
    refine V.iconst (pc := 24) hG dX12_setCycles_24 ?_
    refine V.goto (pc := 25) (tgt := 29) hG dX12_setCycles_25 (by decide) ?_
    exact jn29 1 ij24 ((sR_l rfl)) hij24 h
  refine V.aload_n (pc := 0) hG dX12_setCycles_0 rfl 0 rfl ?_
  refine V.iconst (pc := 1) hG dX12_setCycles_1 ?_
  refine V.putI (pc := 2) (ci := 14) (k := 0) (M := 49) (T := TX12) (o := 504) (kz := 0) hG a_504 a_504.n (by decide) hin_X12 rfl (by decide) (by decide) rfl kw_1692 rfl tyX12 tyX12_ok nmX12 rfl (ty := tyX12 0) (tyX12_ok 0 (by decide)) rfl rfl dX12_setCycles_2 ?_
  refine V.aload_n (pc := 5) hG dX12_setCycles_5 rfl 0 rfl ?_
  refine V.ldcS (pc := 6) (k := 3) (tx := "amgMN<>") hG (by decide) dX12_setCycles_6 ?_
  refine V.iload_n (pc := 8) hG dX12_setCycles_8 rfl 1 rfl ?_
  refine V.callVSi (pc := 9) (As := [.int (sJ p1)]) (stk := [.ref (sA Δ 504)]) hG (sm_J0_indexOf_0f7a4 l Δ (by decide) hp1 ((okI_st hi ((sR_l rfl)))) hw h) mY_J0_indexOf_0f7a4 kw_1852 kw_652 kw_653 (by decide) rfl ⟨Nat.le_of_ble_eq_true rfl, Nat.le_of_ble_eq_true rfl, Nat.le_of_ble_eq_true rfl, Nat.le_of_ble_eq_true rfl⟩ rfl (Nat.le_of_ble_eq_true rfl) dX12_setCycles_9 rfl (fun v65 i66 r67 hv68 hi69 hw70 hq71 => ?_)
  obtain ⟨e87, e88, h⟩ := hq71
  subst e87
  subst e88
  obtain ⟨t73, f74⟩ := h
  refine V.if_lt (pc := 12) (tgt := 24) hG hv68 dX12_setCycles_12 (by decide) (fun c72 => ?_) (fun c72 => ?_)
  · have h := t73 c72
    clear t73 f74
    exact jn24 (st i 504 0 0) ((okI_st hi ((sR_l rfl)))) h
  · have h := f74 c72
    clear t73 f74
    refine V.iload_n (pc := 15) hG dX12_setCycles_15 rfl 2 rfl ?_
    refine V.iconst (pc := 16) hG dX12_setCycles_16 ?_
    refine V.iconst (pc := 17) hG dX12_setCycles_17 ?_
    refine V.callSi (pc := 18) (As := [.int (sJ p2), .int (sJ 1), .int (sJ 5)]) (stk := [.ref (sA Δ 504)]) hG (sm_X12_in l Δ hp2 ((sR_l rfl)) ((sR_l rfl)) ((okI_st hi ((sR_l rfl)))) hw h) mY_X12_in kw_1848 kw_1849 ⟨Nat.le_of_ble_eq_true rfl, Nat.le_of_ble_eq_true rfl, Nat.le_of_ble_eq_true rfl, Nat.le_of_ble_eq_true rfl⟩ rfl (Nat.le_of_ble_eq_true rfl) dX12_setCycles_18 rfl (fun v75 i76 r77 hv78 hi79 hw80 hq81 => ?_)
    obtain ⟨e85, e86, h⟩ := hq81
    subst e85
    subst e86
    obtain ⟨f84, t83⟩ := h
    refine V.if_ne (pc := 21) (tgt := 28) hG hv78 dX12_setCycles_21 (by decide) (fun c82 => ?_) (fun c82 => ?_)
    · have h := t83 c82
      clear t83 f84
      refine V.iconst (pc := 28) hG dX12_setCycles_28 ?_
      exact jn29 0 (st i 504 0 0) ((sR_l rfl)) ((okI_st hi ((sR_l rfl)))) h
    · have h := f84 c82
      clear t83 f84
      exact jn24 (st i 504 0 0) ((okI_st hi ((sR_l rfl)))) h
set_option maxRecDepth 100000 in
set_option maxHeartbeats 4000000 in
theorem sm_X12_begin (l : Launch) (Δ : Wd) {i r : MI}   {Q : MI → Prop} (hi : okI i) (hw : Wf r) (h : wp_X12_begin  i r Q) : Met l yX12_begin (Cond.code yX12_begin cX12_begin 2 none :: gW) (sRm 1 21) (sPc Δ [.ref (sA Δ 504)] i r) (sQv Δ (fun i' r' => r = r' ∧ Q i')) 0 0 (sFr Δ) := by
  refine Ct.v (by decide) rfl (Nat.le_of_ble_eq_true rfl) (fun Γ Q0 hG fin => ?_)
  have hG : okG Γ Δ l (sRm 1 21) cX12_begin "SchedularyModel" 2 := hG
  show V Γ Δ 542 false i r 0 0 Q0 0 [(0, .ref (sA Δ 504))] []
  refine V.iconst (pc := 0) hG dX12_begin_0 ?_
  refine V.istore_n (pc := 1) (lv' := [(1, .int (sJ 0)), (0, .ref (sA Δ 504))]) hG dX12_begin_1 rfl (by decide) rfl ?_
  obtain ⟨n34, h⟩ := h
  have lp2 : ∀ (m2 : Nat) (x1_2 : Int) (i_2 : MI), sR x1_2 → okI i_2 → LoopP (b2_X12_begin r Q) m2 (x1_2, i_2) → V Γ Δ 542 false i_2 r 0 0 Q0 2 [(0, .ref (sA Δ 504)), (1, .int (sJ x1_2))] [] := by
    intro m2
    induction m2 with
    | zero => intro x1_2 i_2 hx1_2 hi_2 h; exact h.elim
    | succ m2 ih2 =>
      intro x1_2 i_2 hx1_2 hi_2 h
      have h := LoopP_succ h
      refine V.iload_n (pc := 2) hG dX12_begin_2 rfl 1 rfl ?_
      refine V.bipush (pc := 3) hG dX12_begin_3 (by decide) ?_
      obtain ⟨t36, f37⟩ := h
      refine V.icmp_ge (pc := 5) (tgt := 21) hG hx1_2 ((sR_l rfl)) dX12_begin_5 (by decide) (fun c35 => ?_) (fun c35 => ?_)
      · have h := t36 c35
        clear t36 f37
        refine V.iconst (pc := 21) hG dX12_begin_21 ?_
        refine V.istore_n (pc := 22) (lv' := [(1, .int (sJ 0)), (0, .ref (sA Δ 504))]) hG dX12_begin_22 rfl (by decide) rfl ?_
        obtain ⟨n38, h⟩ := h
        have lp23 : ∀ (m23 : Nat) (x1_23 : Int) (i_23 : MI), sR x1_23 → okI i_23 → LoopP (b23_X12_begin r Q) m23 (x1_23, i_23) → V Γ Δ 542 false i_23 r 0 0 Q0 23 [(0, .ref (sA Δ 504)), (1, .int (sJ x1_23))] [] := by
          intro m23
          induction m23 with
          | zero => intro x1_23 i_23 hx1_23 hi_23 h; exact h.elim
          | succ m23 ih23 =>
            intro x1_23 i_23 hx1_23 hi_23 h
            have h := LoopP_succ h
            refine V.iload_n (pc := 23) hG dX12_begin_23 rfl 1 rfl ?_
            refine V.bipush (pc := 24) hG dX12_begin_24 (by decide) ?_
            obtain ⟨t40, f41⟩ := h
            refine V.icmp_ge (pc := 26) (tgt := 51) hG hx1_23 ((sR_l rfl)) dX12_begin_26 (by decide) (fun c39 => ?_) (fun c39 => ?_)
            · have h := t40 c39
              clear t40 f41
              refine V.aload_n (pc := 51) hG dX12_begin_51 rfl 0 rfl ?_
              refine V.iconst (pc := 52) hG dX12_begin_52 ?_
              refine V.putI (pc := 53) (ci := 14) (k := 19) (M := 49) (T := TX12) (o := 504) (kz := 19) hG a_504 a_504.n (by decide) hin_X12 rfl (by decide) (by decide) rfl kw_1711 rfl tyX12 tyX12_ok nmX12 rfl (ty := tyX12 19) (tyX12_ok 19 (by decide)) rfl rfl dX12_begin_53 ?_
              refine V.aload_n (pc := 56) hG dX12_begin_56 rfl 0 rfl ?_
              refine V.iconst (pc := 57) hG dX12_begin_57 ?_
              refine V.putI (pc := 58) (ci := 14) (k := 20) (M := 49) (T := TX12) (o := 504) (kz := 20) hG a_504 a_504.n (by decide) hin_X12 rfl (by decide) (by decide) rfl kw_1712 rfl tyX12 tyX12_ok nmX12 rfl (ty := tyX12 20) (tyX12_ok 20 (by decide)) rfl rfl dX12_begin_58 ?_
              exact fin dX12_begin_61 ((okI_st ((okI_st hi_23 ((sR_l rfl)))) ((sR_l rfl)))) hw ⟨rfl, h⟩
            · have h := f41 c39
              clear t40 f41
              refine V.aload_n (pc := 29) hG dX12_begin_29 rfl 0 rfl ?_
              refine V.getR (x := 513) (pc := 30) (ci := 14) (k := 17) (M := 49) (T := TX12) (o := 504) (kz := 17) hG a_504 a_504.n (by decide) hin_X12 rfl (by decide) (by decide) rfl kw_1709 rfl ((hw).1 (504, 17, 513) (by decide)) (by decide) dX12_begin_30 ?_
              refine V.iload_n (pc := 33) hG dX12_begin_33 rfl 1 rfl ?_
              refine V.aload_n (pc := 34) hG dX12_begin_34 rfl 0 rfl ?_
              refine V.aload_n (pc := 35) hG dX12_begin_35 rfl 0 rfl ?_
              refine V.getR (x := 509) (pc := 36) (ci := 14) (k := 13) (M := 49) (T := TX12) (o := 504) (kz := 13) hG a_504 a_504.n (by decide) hin_X12 rfl (by decide) (by decide) rfl kw_1705 rfl ((hw).1 (504, 13, 509) (by decide)) (by decide) dX12_begin_36 ?_
              refine V.iload_n (pc := 39) hG dX12_begin_39 rfl 1 rfl ?_
              obtain ⟨g42, h⟩ := h
              refine V.iald (pc := 40) (z := 32) (o := 509) hG a_509 a_509.n hx1_23 g42 dX12_begin_40 ?_
              refine V.callVi (pc := 41) (As := [.int (sJ (i_23 509 x1_23))]) (stk := [.int (sJ x1_23), .ref (sA Δ 513)]) hG (sm_X12_taken l Δ ((hi_23 _ _)) hi_23 hw h) mY_X12_taken kw_2020 kw_2022 kw_131 a_504 (by decide) (q := (RX12, TX12, 49)) rfl rfl ⟨Nat.le_of_ble_eq_true rfl, Nat.le_of_ble_eq_true rfl, Nat.le_of_ble_eq_true rfl, Nat.le_of_ble_eq_true rfl⟩ rfl (Nat.le_of_ble_eq_true rfl) dX12_begin_41 rfl (fun v43 i44 r45 hv46 hi47 hw48 hq49 => ?_)
              obtain ⟨e51, e52, h⟩ := hq49
              subst e51
              subst e52
              obtain ⟨g50, h⟩ := h
              refine V.iast (pc := 44) (z := 32) (o := 513) hG a_513 a_513.n hx1_23 g50 dX12_begin_44 ?_
              refine V.iinc (pc := 45) (lv' := [(1, .int (sJ (wr (x1_23 + 1)))), (0, .ref (sA Δ 504))]) hG dX12_begin_45 1 rfl (by decide) rfl ?_
              refine V.goto (pc := 48) (tgt := 23) hG dX12_begin_48 (by decide) ?_
              refine V.pick [1, 0] rfl ?_
              exact ih23 (wr (x1_23 + 1)) (st i_23 513 x1_23 v43) ((sR_wr _)) ((okI_st hi_23 hv46)) h
        refine V.pick [1, 0] rfl ?_
        exact lp23 n38 0 i_2 ((sR_l rfl)) hi_2 h
      · have h := f37 c35
        clear t36 f37
        refine V.aload_n (pc := 8) hG dX12_begin_8 rfl 0 rfl ?_
        refine V.getR (x := 512) (pc := 9) (ci := 14) (k := 16) (M := 49) (T := TX12) (o := 504) (kz := 16) hG a_504 a_504.n (by decide) hin_X12 rfl (by decide) (by decide) rfl kw_1708 rfl ((hw).1 (504, 16, 512) (by decide)) (by decide) dX12_begin_9 ?_
        refine V.iload_n (pc := 12) hG dX12_begin_12 rfl 1 rfl ?_
        refine V.iconst (pc := 13) hG dX12_begin_13 ?_
        obtain ⟨g53, h⟩ := h
        refine V.iast (pc := 14) (z := 8) (o := 512) hG a_512 a_512.n hx1_2 g53 dX12_begin_14 ?_
        refine V.iinc (pc := 15) (lv' := [(1, .int (sJ (wr (x1_2 + 1)))), (0, .ref (sA Δ 504))]) hG dX12_begin_15 1 rfl (by decide) rfl ?_
        refine V.goto (pc := 18) (tgt := 2) hG dX12_begin_18 (by decide) ?_
        refine V.pick [1, 0] rfl ?_
        exact ih2 (wr (x1_2 + 1)) (st i_2 512 x1_2 0) ((sR_wr _)) ((okI_st hi_2 ((sR_l rfl)))) h
  refine V.pick [1, 0] rfl ?_
  exact lp2 n34 0 i ((sR_l rfl)) hi h
set_option maxRecDepth 100000 in
set_option maxHeartbeats 4000000 in
theorem sm_X12_where (l : Launch) (Δ : Wd) {i r : MI} {p0 : Int} {p1 : Int} {p2 : Int} {p3 : Int} (hp0 : sR p0) (hp1 : sR p1) (hp2 : sR p2) (hp3 : sR p3) {Q : Int → Prop} (hi : okI i) (hw : Wf r) (h : wp_X12_where p0 p1 p2 p3 i r Q) : Met l yX12_where (Cond.code yX12_where cX12_where 5 (some .int) :: gW) (sRm 1 22) (sPc Δ [.int (sJ p0), .int (sJ p1), .int (sJ p2), .int (sJ p3)] i r) (sQi Δ (fun x i' r' => i = i' ∧ r = r' ∧ Q x)) 0 0 (sFr Δ) := by
  refine Ct.i (ty := .int) (by decide) rfl (Nat.le_of_ble_eq_true rfl) (fun Γ Q0 hG fin => ?_)
  have hG : okG Γ Δ l (sRm 1 22) cX12_where "SchedularyModel" 5 := hG
  show V Γ Δ 542 false i r 0 0 Q0 0 [(0, .int (sJ p0)), (1, .int (sJ p1)), (2, .int (sJ p2)), (3, .int (sJ p3))] []
  have jn43 : ∀ (k0j43 : Int), sR k0j43 → s43_X12_where k0j43 i r Q → V Γ Δ 542 false i r 0 0 Q0 43 [] [.int (sJ k0j43)] := by
    intro k0j43 hk0j43 h
    exact fin dX12_where_43 hk0j43 rfl hi hw ⟨rfl, rfl, h⟩
  have jn36 : ∀ (x4j36 : Int) (k0j36 : Int), sR x4j36 → sR k0j36 → s36_X12_where x4j36 k0j36 i r Q → V Γ Δ 542 false i r 0 0 Q0 36 [(4, .int (sJ x4j36))] [.int (sJ k0j36)] := by
    intro x4j36 k0j36 hx4j36 hk0j36 h
    refine V.iload (pc := 36) hG dX12_where_36 0 rfl ?_
    refine V.iadd (pc := 38) hG dX12_where_38 ?_
    refine V.goto (pc := 39) (tgt := 43) hG dX12_where_39 (by decide) ?_
    refine V.pick [] rfl ?_
    exact jn43 (wr (k0j36 + x4j36)) ((sR_wr _)) h
  have jn12 : ∀ (k0j12 : Int), sR k0j12 → s12_X12_where p0 k0j12 i r Q → V Γ Δ 542 false i r 0 0 Q0 12 [(0, .int (sJ p0))] [.int (sJ k0j12)] := by
    intro k0j12 hk0j12 h
    refine V.istore (pc := 12) (lv' := [(4, .int (sJ k0j12)), (0, .int (sJ p0))]) hG dX12_where_12 (by decide) rfl ?_
    refine V.iload (pc := 14) hG dX12_where_14 0 rfl ?_
    refine V.iconst (pc := 16) hG dX12_where_16 ?_
    refine V.bipush (pc := 17) hG dX12_where_17 (by decide) ?_
    refine V.callSi (pc := 19) (As := [.int (sJ k0j12), .int (sJ 0), .int (sJ 15)]) (stk := []) hG (sm_X12_in l Δ hk0j12 ((sR_l rfl)) ((sR_l rfl)) hi hw h) mY_X12_in kw_1848 kw_1849 ⟨Nat.le_of_ble_eq_true rfl, Nat.le_of_ble_eq_true rfl, Nat.le_of_ble_eq_true rfl, Nat.le_of_ble_eq_true rfl⟩ rfl (Nat.le_of_ble_eq_true rfl) dX12_where_19 rfl (fun v16 i17 r18 hv19 hi20 hw21 hq22 => ?_)
    obtain ⟨e29, e30, h⟩ := hq22
    subst e29
    subst e30
    obtain ⟨t24, f25⟩ := h
    refine V.if_eq (pc := 22) (tgt := 42) hG hv19 dX12_where_22 (by decide) (fun c23 => ?_) (fun c23 => ?_)
    · have h := t24 c23
      clear t24 f25
      refine V.iconst (pc := 42) hG dX12_where_42 ?_
      refine V.pick [] rfl ?_
      exact jn43 (-1) ((sR_l rfl)) h
    · have h := f25 c23
      clear t24 f25
      refine V.iload_n (pc := 25) hG dX12_where_25 rfl 1 rfl ?_
      refine V.iconst (pc := 26) hG dX12_where_26 ?_
      obtain ⟨f28, t27⟩ := h
      refine V.icmp_ne (pc := 27) (tgt := 34) hG hp0 ((sR_l rfl)) dX12_where_27 (by decide) (fun c26 => ?_) (fun c26 => ?_)
      · have h := t27 c26
        clear t27 f28
        refine V.bipush (pc := 34) hG dX12_where_34 (by decide) ?_
        refine V.pick [0] rfl ?_
        exact jn36 k0j12 16 hk0j12 ((sR_l rfl)) h
      · have h := f28 c26
        clear t27 f28
        refine V.iconst (pc := 30) hG dX12_where_30 ?_
        refine V.goto (pc := 31) (tgt := 36) hG dX12_where_31 (by decide) ?_
        refine V.pick [0] rfl ?_
        exact jn36 k0j12 0 hk0j12 ((sR_l rfl)) h
  refine V.iload_n (pc := 0) hG dX12_where_0 rfl 1 rfl ?_
  refine V.iconst (pc := 1) hG dX12_where_1 ?_
  obtain ⟨f33, t32⟩ := h
  refine V.icmp_ne (pc := 2) (tgt := 11) hG hp1 ((sR_l rfl)) dX12_where_2 (by decide) (fun c31 => ?_) (fun c31 => ?_)
  · have h := t32 c31
    clear t32 f33
    refine V.iload_n (pc := 11) hG dX12_where_11 rfl 2 rfl ?_
    refine V.pick [0] rfl ?_
    exact jn12 p2 hp2 h
  · have h := f33 c31
    clear t32 f33
    refine V.iload_n (pc := 5) hG dX12_where_5 rfl 3 rfl ?_
    refine V.iload_n (pc := 6) hG dX12_where_6 rfl 2 rfl ?_
    refine V.iadd (pc := 7) hG dX12_where_7 ?_
    refine V.goto (pc := 8) (tgt := 12) hG dX12_where_8 (by decide) ?_
    refine V.pick [0] rfl ?_
    exact jn12 (wr (p3 + p2)) ((sR_wr _)) h
set_option maxRecDepth 100000 in
set_option maxHeartbeats 4000000 in
theorem sm_X12_fromChannel (l : Launch) (Δ : Wd) {i r : MI}   {Q : Int → MI → Prop} (hi : okI i) (hw : Wf r) (h : wp_X12_fromChannel  i r Q) : Met l yX12_fromChannel (Cond.code yX12_fromChannel cX12_fromChannel 1 (some .int) :: gW) (sRm 1 21) (sPc Δ [.ref (sA Δ 504)] i r) (sQi Δ (fun x i' r' => r = r' ∧ Q x i')) 0 0 (sFr Δ) := by
  refine Ct.i (ty := .int) (by decide) rfl (Nat.le_of_ble_eq_true rfl) (fun Γ Q0 hG fin => ?_)
  have hG : okG Γ Δ l (sRm 1 21) cX12_fromChannel "SchedularyModel" 1 := hG
  show V Γ Δ 542 false i r 0 0 Q0 0 [(0, .ref (sA Δ 504))] []
  have jn40 : ∀ (k0j40 : Int) (ij40 : MI), sR k0j40 → okI ij40 → s40_X12_fromChannel k0j40 ij40 r Q → V Γ Δ 542 false ij40 r 0 0 Q0 40 [] [.int (sJ k0j40)] := by
    intro k0j40 ij40 hk0j40 hij40 h
    exact fin dX12_fromChannel_40 hk0j40 rfl hij40 hw ⟨rfl, h⟩
  refine V.aload_n (pc := 0) hG dX12_fromChannel_0 rfl 0 rfl ?_
  refine V.dup (pc := 1) hG dX12_fromChannel_1 rfl ?_
  refine V.getI (pc := 2) (ci := 14) (k := 20) (M := 49) (T := TX12) (o := 504) (kz := 20) hG a_504 a_504.n (by decide) hin_X12 rfl (by decide) (by decide) rfl kw_1712 rfl dX12_fromChannel_2 ?_
  refine V.iconst (pc := 5) hG dX12_fromChannel_5 ?_
  refine V.iadd (pc := 6) hG dX12_fromChannel_6 ?_
  refine V.putI (pc := 7) (ci := 14) (k := 20) (M := 49) (T := TX12) (o := 504) (kz := 20) hG a_504 a_504.n (by decide) hin_X12 rfl (by decide) (by decide) rfl kw_1712 rfl tyX12 tyX12_ok nmX12 rfl (ty := tyX12 20) (tyX12_ok 20 (by decide)) rfl rfl dX12_fromChannel_7 ?_
  refine V.aload_n (pc := 10) hG dX12_fromChannel_10 rfl 0 rfl ?_
  refine V.getI (pc := 11) (ci := 14) (k := 20) (M := 49) (T := TX12) (o := 504) (kz := 20) hG a_504 a_504.n (by decide) hin_X12 rfl (by decide) (by decide) rfl kw_1712 rfl dX12_fromChannel_11 ?_
  refine V.aload_n (pc := 14) hG dX12_fromChannel_14 rfl 0 rfl ?_
  refine V.getI (pc := 15) (ci := 14) (k := 11) (M := 49) (T := TX12) (o := 504) (kz := 11) hG a_504 a_504.n (by decide) hin_X12 rfl (by decide) (by decide) rfl kw_1703 rfl dX12_fromChannel_15 ?_
  obtain ⟨t2, f3⟩ := h
  refine V.icmp_gt (pc := 18) (tgt := 39) hG (((okI_st hi ((sR_wr _))) _ _)) (((okI_st hi ((sR_wr _))) _ _)) dX12_fromChannel_18 (by decide) (fun c1 => ?_) (fun c1 => ?_)
  · have h := t2 c1
    clear t2 f3
    refine V.iconst (pc := 39) hG dX12_fromChannel_39 ?_
    refine V.pick [] rfl ?_
    exact jn40 0 (st i 504 20 (wr (i 504 20 + 1))) ((sR_l rfl)) ((okI_st hi ((sR_wr _)))) h
  · have h := f3 c1
    clear t2 f3
    refine V.aload_n (pc := 21) hG dX12_fromChannel_21 rfl 0 rfl ?_
    refine V.aload_n (pc := 22) hG dX12_fromChannel_22 rfl 0 rfl ?_
    refine V.getR (x := 508) (pc := 23) (ci := 14) (k := 12) (M := 49) (T := TX12) (o := 504) (kz := 12) hG a_504 a_504.n (by decide) hin_X12 rfl (by decide) (by decide) rfl kw_1704 rfl ((hw).1 (504, 12, 508) (by decide)) (by decide) dX12_fromChannel_23 ?_
    refine V.aload_n (pc := 26) hG dX12_fromChannel_26 rfl 0 rfl ?_
    refine V.getI (pc := 27) (ci := 14) (k := 20) (M := 49) (T := TX12) (o := 504) (kz := 20) hG a_504 a_504.n (by decide) hin_X12 rfl (by decide) (by decide) rfl kw_1712 rfl dX12_fromChannel_27 ?_
    refine V.iconst (pc := 30) hG dX12_fromChannel_30 ?_
    refine V.isub (pc := 31) hG dX12_fromChannel_31 ?_
    obtain ⟨g4, h⟩ := h
    refine V.iald (pc := 32) (z := 32) (o := 508) hG a_508 a_508.n ((sR_wr _)) g4 dX12_fromChannel_32 ?_
    refine V.callVi (pc := 33) (As := [.int (sJ ((st i 504 20 (wr (i 504 20 + 1))) 508 (wr ((st i 504 20 (wr (i 504 20 + 1))) 504 20 - 1))))]) (stk := []) hG (sm_X12_taken l Δ (((okI_st hi ((sR_wr _))) _ _)) ((okI_st hi ((sR_wr _)))) hw h) mY_X12_taken kw_2020 kw_2022 kw_131 a_504 (by decide) (q := (RX12, TX12, 49)) rfl rfl ⟨Nat.le_of_ble_eq_true rfl, Nat.le_of_ble_eq_true rfl, Nat.le_of_ble_eq_true rfl, Nat.le_of_ble_eq_true rfl⟩ rfl (Nat.le_of_ble_eq_true rfl) dX12_fromChannel_33 rfl (fun v5 i6 r7 hv8 hi9 hw10 hq11 => ?_)
    obtain ⟨e12, e13, h⟩ := hq11
    subst e12
    subst e13
    refine V.goto (pc := 36) (tgt := 40) hG dX12_fromChannel_36 (by decide) ?_
    refine V.pick [] rfl ?_
    exact jn40 v5 (st i 504 20 (wr (i 504 20 + 1))) hv8 ((okI_st hi ((sR_wr _)))) h
set_option maxRecDepth 100000 in
set_option maxHeartbeats 4000000 in
theorem sm_X12_operand (l : Launch) (Δ : Wd) {i r : MI} {p1 : Int} {p2 : Int} (hp1 : sR p1) (hp2 : sR p2) {Q : Int → MI → Prop} (hi : okI i) (hw : Wf r) (h : wp_X12_operand p1 p2 i r Q) : Met l yX12_operand (Cond.code yX12_operand cX12_operand 5 (some .int) :: gW) (sRm 2 46) (sPc Δ [.ref (sA Δ 504), .int (sJ p1), .int (sJ p2)] i r) (sQi Δ (fun x i' r' => r = r' ∧ Q x i')) 0 0 (sFr Δ) := by
  refine Ct.i (ty := .int) (by decide) rfl (Nat.le_of_ble_eq_true rfl) (fun Γ Q0 hG fin => ?_)
  have hG : okG Γ Δ l (sRm 2 46) cX12_operand "SchedularyModel" 5 := hG
  show V Γ Δ 542 false i r 0 0 Q0 0 [(0, .ref (sA Δ 504)), (1, .int (sJ p1)), (2, .int (sJ p2))] []
  have jn126 : ∀ (k0j126 : Int) (ij126 : MI), sR k0j126 → okI ij126 → s126_X12_operand k0j126 ij126 r Q → V Γ Δ 542 false ij126 r 0 0 Q0 126 [] [.int (sJ k0j126)] := by
    intro k0j126 ij126 hk0j126 hij126 h
    exact fin dX12_operand_126 hk0j126 rfl hij126 hw ⟨rfl, h⟩
  have jn86 : ∀ (x3j86 : Int) (ij86 : MI), sR x3j86 → okI ij86 → s86_X12_operand p1 p2 x3j86 ij86 r Q → V Γ Δ 542 false ij86 r 0 0 Q0 86 [(0, .ref (sA Δ 504)), (1, .int (sJ p1)), (2, .int (sJ p2)), (3, .int (sJ x3j86))] [] := by
    intro x3j86 ij86 hx3j86 hij86 h
    refine V.iload_n (pc := 86) hG dX12_operand_86 rfl 3 rfl ?_
    refine V.aload_n (pc := 87) hG dX12_operand_87 rfl 0 rfl ?_
    refine V.getR (x := 507) (pc := 88) (ci := 14) (k := 7) (M := 49) (T := TX12) (o := 504) (kz := 7) hG a_504 a_504.n (by decide) hin_X12 rfl (by decide) (by decide) rfl kw_1699 rfl ((hw).1 (504, 7, 507) (by decide)) (by decide) dX12_operand_88 ?_
    refine V.iload_n (pc := 91) hG dX12_operand_91 rfl 1 rfl ?_
    refine V.iconst (pc := 92) hG dX12_operand_92 ?_
    refine V.iadd (pc := 93) hG dX12_operand_93 ?_
    obtain ⟨g16, h⟩ := h
    refine V.iald (pc := 94) (z := 156) (o := 507) hG a_507 a_507.n ((sR_wr _)) g16 dX12_operand_94 ?_
    refine V.aload_n (pc := 95) hG dX12_operand_95 rfl 0 rfl ?_
    refine V.getR (x := 507) (pc := 96) (ci := 14) (k := 7) (M := 49) (T := TX12) (o := 504) (kz := 7) hG a_504 a_504.n (by decide) hin_X12 rfl (by decide) (by decide) rfl kw_1699 rfl ((hw).1 (504, 7, 507) (by decide)) (by decide) dX12_operand_96 ?_
    refine V.iload_n (pc := 99) hG dX12_operand_99 rfl 1 rfl ?_
    refine V.iconst (pc := 100) hG dX12_operand_100 ?_
    refine V.iadd (pc := 101) hG dX12_operand_101 ?_
    obtain ⟨g17, h⟩ := h
    refine V.iald (pc := 102) (z := 156) (o := 507) hG a_507 a_507.n ((sR_wr _)) g17 dX12_operand_102 ?_
    refine V.iload_n (pc := 103) hG dX12_operand_103 rfl 2 rfl ?_
    refine V.callSi (pc := 104) (As := [.int (sJ x3j86), .int (sJ (ij86 507 (wr (p1 + 2)))), .int (sJ (ij86 507 (wr (p1 + 3)))), .int (sJ p2)]) (stk := []) hG (sm_X12_where l Δ hx3j86 ((hij86 _ _)) ((hij86 _ _)) hp2 hij86 hw h) mY_X12_where kw_2032 kw_2033 ⟨Nat.le_of_ble_eq_true rfl, Nat.le_of_ble_eq_true rfl, Nat.le_of_ble_eq_true rfl, Nat.le_of_ble_eq_true rfl⟩ rfl (Nat.le_of_ble_eq_true rfl) dX12_operand_104 rfl (fun v18 i19 r20 hv21 hi22 hw23 hq24 => ?_)
    obtain ⟨e29, e30, h⟩ := hq24
    subst e29
    subst e30
    refine V.istore (pc := 107) (lv' := [(4, .int (sJ v18)), (0, .ref (sA Δ 504)), (1, .int (sJ p1)), (2, .int (sJ p2)), (3, .int (sJ x3j86))]) hG dX12_operand_107 (by decide) rfl ?_
    refine V.iload (pc := 109) hG dX12_operand_109 0 rfl ?_
    refine V.iconst (pc := 111) hG dX12_operand_111 ?_
    obtain ⟨f27, t26⟩ := h
    refine V.icmp_ne (pc := 112) (tgt := 119) hG hv21 ((sR_l rfl)) dX12_operand_112 (by decide) (fun c25 => ?_) (fun c25 => ?_)
    · have h := t26 c25
      clear t26 f27
      refine V.aload_n (pc := 119) hG dX12_operand_119 rfl 1 rfl ?_
      refine V.getR (x := 513) (pc := 120) (ci := 14) (k := 17) (M := 49) (T := TX12) (o := 504) (kz := 17) hG a_504 a_504.n (by decide) hin_X12 rfl (by decide) (by decide) rfl kw_1709 rfl ((hw).1 (504, 17, 513) (by decide)) (by decide) dX12_operand_120 ?_
      refine V.iload (pc := 123) hG dX12_operand_123 0 rfl ?_
      obtain ⟨g28, h⟩ := h
      refine V.iald (pc := 125) (z := 32) (o := 513) hG a_513 a_513.n hv21 g28 dX12_operand_125 ?_
      refine V.pick [] rfl ?_
      exact jn126 (ij86 513 v18) ij86 ((hij86 _ _)) hij86 h
    · have h := f27 c25
      clear t26 f27
      refine V.iconst (pc := 115) hG dX12_operand_115 ?_
      refine V.goto (pc := 116) (tgt := 126) hG dX12_operand_116 (by decide) ?_
      refine V.pick [] rfl ?_
      exact jn126 0 ij86 ((sR_l rfl)) hij86 h
  refine V.aload_n (pc := 0) hG dX12_operand_0 rfl 0 rfl ?_
  refine V.getR (x := 507) (pc := 1) (ci := 14) (k := 7) (M := 49) (T := TX12) (o := 504) (kz := 7) hG a_504 a_504.n (by decide) hin_X12 rfl (by decide) (by decide) rfl kw_1699 rfl ((hw).1 (504, 7, 507) (by decide)) (by decide) dX12_operand_1 ?_
  refine V.iload_n (pc := 4) hG dX12_operand_4 rfl 1 rfl ?_
  obtain ⟨g31, h⟩ := h
  refine V.iald (pc := 5) (z := 156) (o := 507) hG a_507 a_507.n hp1 g31 dX12_operand_5 ?_
  refine V.istore_n (pc := 6) (lv' := [(3, .int (sJ (i 507 p1))), (0, .ref (sA Δ 504)), (1, .int (sJ p1)), (2, .int (sJ p2))]) hG dX12_operand_6 rfl (by decide) rfl ?_
  refine V.iload_n (pc := 7) hG dX12_operand_7 rfl 0 rfl ?_
  obtain ⟨t33, f34⟩ := h
  by_cases c32 : i 507 p1 = 0
  · have h := t33 c32
    clear t33 f34
    refine V.tableIn (pc := 8) (tgt := 48) (off := 40) hG ((hi _ _)) dX12_operand_8 (by omega) (by omega) (by rw [c32]; rfl) (by decide) ?_
    refine V.aload_n (pc := 48) hG dX12_operand_48 rfl 1 rfl ?_
    refine V.getR (x := 512) (pc := 49) (ci := 14) (k := 16) (M := 49) (T := TX12) (o := 504) (kz := 16) hG a_504 a_504.n (by decide) hin_X12 rfl (by decide) (by decide) rfl kw_1708 rfl ((hw).1 (504, 16, 512) (by decide)) (by decide) dX12_operand_49 ?_
    refine V.aload_n (pc := 52) hG dX12_operand_52 rfl 1 rfl ?_
    refine V.getR (x := 507) (pc := 53) (ci := 14) (k := 7) (M := 49) (T := TX12) (o := 504) (kz := 7) hG a_504 a_504.n (by decide) hin_X12 rfl (by decide) (by decide) rfl kw_1699 rfl ((hw).1 (504, 7, 507) (by decide)) (by decide) dX12_operand_53 ?_
    refine V.iload_n (pc := 56) hG dX12_operand_56 rfl 2 rfl ?_
    refine V.iconst (pc := 57) hG dX12_operand_57 ?_
    refine V.iadd (pc := 58) hG dX12_operand_58 ?_
    obtain ⟨g35, h⟩ := h
    refine V.iald (pc := 59) (z := 156) (o := 507) hG a_507 a_507.n ((sR_wr _)) g35 dX12_operand_59 ?_
    obtain ⟨g36, h⟩ := h
    refine V.iald (pc := 60) (z := 8) (o := 512) hG a_512 a_512.n ((hi _ _)) g36 dX12_operand_60 ?_
    exact fin dX12_operand_61 ((hi _ _)) rfl hi hw ⟨rfl, h⟩
  · have h := f34 c32
    clear t33 f34
    obtain ⟨t38, f39⟩ := h
    by_cases c37 : i 507 p1 = 1
    · have h := t38 c37
      clear t38 f39
      refine V.tableIn (pc := 8) (tgt := 62) (off := 54) hG ((hi _ _)) dX12_operand_8 (by omega) (by omega) (by rw [c37]; rfl) (by decide) ?_
      refine V.aload_n (pc := 62) hG dX12_operand_62 rfl 1 rfl ?_
      refine V.aload_n (pc := 63) hG dX12_operand_63 rfl 1 rfl ?_
      refine V.getR (x := 507) (pc := 64) (ci := 14) (k := 7) (M := 49) (T := TX12) (o := 504) (kz := 7) hG a_504 a_504.n (by decide) hin_X12 rfl (by decide) (by decide) rfl kw_1699 rfl ((hw).1 (504, 7, 507) (by decide)) (by decide) dX12_operand_64 ?_
      refine V.iload_n (pc := 67) hG dX12_operand_67 rfl 2 rfl ?_
      refine V.iconst (pc := 68) hG dX12_operand_68 ?_
      refine V.iadd (pc := 69) hG dX12_operand_69 ?_
      obtain ⟨g40, h⟩ := h
      refine V.iald (pc := 70) (z := 156) (o := 507) hG a_507 a_507.n ((sR_wr _)) g40 dX12_operand_70 ?_
      refine V.callVi (pc := 71) (As := [.int (sJ (i 507 (wr (p1 + 1))))]) (stk := []) hG (sm_X12_taken l Δ ((hi _ _)) hi hw h) mY_X12_taken kw_2020 kw_2022 kw_131 a_504 (by decide) (q := (RX12, TX12, 49)) rfl rfl ⟨Nat.le_of_ble_eq_true rfl, Nat.le_of_ble_eq_true rfl, Nat.le_of_ble_eq_true rfl, Nat.le_of_ble_eq_true rfl⟩ rfl (Nat.le_of_ble_eq_true rfl) dX12_operand_71 rfl (fun v41 i42 r43 hv44 hi45 hw46 hq47 => ?_)
      obtain ⟨e48, e49, h⟩ := hq47
      subst e48
      subst e49
      exact fin dX12_operand_74 hv44 rfl hi hw ⟨rfl, h⟩
    · have h := f39 c37
      clear t38 f39
      obtain ⟨t51, f52⟩ := h
      by_cases c50 : i 507 p1 = 2
      · have h := t51 c50
        clear t51 f52
        refine V.tableIn (pc := 8) (tgt := 75) (off := 67) hG ((hi _ _)) dX12_operand_8 (by omega) (by omega) (by rw [c50]; rfl) (by decide) ?_
        refine V.aload_n (pc := 75) hG dX12_operand_75 rfl 1 rfl ?_
        refine V.iload_n (pc := 76) hG dX12_operand_76 rfl 3 rfl ?_
        refine V.callVi (pc := 77) (As := [.int (sJ p2)]) (stk := []) hG (sm_X12_taken l Δ hp2 hi hw h) mY_X12_taken kw_2020 kw_2022 kw_131 a_504 (by decide) (q := (RX12, TX12, 49)) rfl rfl ⟨Nat.le_of_ble_eq_true rfl, Nat.le_of_ble_eq_true rfl, Nat.le_of_ble_eq_true rfl, Nat.le_of_ble_eq_true rfl⟩ rfl (Nat.le_of_ble_eq_true rfl) dX12_operand_77 rfl (fun v53 i54 r55 hv56 hi57 hw58 hq59 => ?_)
        obtain ⟨e60, e61, h⟩ := hq59
        subst e60
        subst e61
        exact fin dX12_operand_80 hv56 rfl hi hw ⟨rfl, h⟩
      · have h := f52 c50
        clear t51 f52
        obtain ⟨t63, f64⟩ := h
        by_cases c62 : i 507 p1 = 3
        · have h := t63 c62
          clear t63 f64
          refine V.tableIn (pc := 8) (tgt := 86) (off := 78) hG ((hi _ _)) dX12_operand_8 (by omega) (by omega) (by rw [c62]; rfl) (by decide) ?_
          refine V.pick [1, 2, 3, 0] rfl ?_
          exact jn86 (i 507 p1) i ((hi _ _)) hi h
        · have h := f64 c62
          clear t63 f64
          obtain ⟨t66, f67⟩ := h
          by_cases c65 : i 507 p1 = 4
          · have h := t66 c65
            clear t66 f67
            refine V.tableIn (pc := 8) (tgt := 86) (off := 78) hG ((hi _ _)) dX12_operand_8 (by omega) (by omega) (by rw [c65]; rfl) (by decide) ?_
            refine V.pick [1, 2, 3, 0] rfl ?_
            exact jn86 (i 507 p1) i ((hi _ _)) hi h
          · have h := f67 c65
            clear t66 f67
            obtain ⟨t69, f70⟩ := h
            by_cases c68 : i 507 p1 = 5
            · have h := t69 c68
              clear t69 f70
              refine V.tableIn (pc := 8) (tgt := 81) (off := 73) hG ((hi _ _)) dX12_operand_8 (by omega) (by omega) (by rw [c68]; rfl) (by decide) ?_
              refine V.aload_n (pc := 81) hG dX12_operand_81 rfl 1 rfl ?_
              refine V.callVi (pc := 82) (As := []) (stk := []) hG (sm_X12_fromChannel l Δ  hi hw h) mY_X12_fromChannel kw_2028 kw_2030 kw_133 a_504 (by decide) (q := (RX12, TX12, 49)) rfl rfl ⟨Nat.le_of_ble_eq_true rfl, Nat.le_of_ble_eq_true rfl, Nat.le_of_ble_eq_true rfl, Nat.le_of_ble_eq_true rfl⟩ rfl (Nat.le_of_ble_eq_true rfl) dX12_operand_82 rfl (fun v71 i72 r73 hv74 hi75 hw76 hq77 => ?_)
              obtain ⟨e79, h⟩ := hq77
              subst e79
              exact fin dX12_operand_85 hv74 rfl hi75 hw ⟨rfl, h⟩
            · have h := f70 c68
              clear t69 f70
              refine V.tableOut (pc := 8) (tgt := 86) hG ((hi _ _)) dX12_operand_8 (by omega) (by decide) ?_
              refine V.pick [1, 2, 3, 0] rfl ?_
              exact jn86 (i 507 p1) i ((hi _ _)) hi h
set_option maxRecDepth 100000 in
set_option maxHeartbeats 4000000 in
theorem sm_X12_operate (l : Launch) (Δ : Wd) {i r : MI} {p1 : Int} {p2 : Int} {p3 : Int} (hp1 : sR p1) (hp2 : sR p2) (hp3 : sR p3) {Q : Int → Prop} (hi : okI i) (hw : Wf r) (h : wp_X12_operate p1 p2 p3 i r Q) : Met l yX12_operate (Cond.code yX12_operate cX12_operate 4 (some .int) :: gW) (sRm 1 21) (sPc Δ [.ref (sA Δ 504), .int (sJ p1), .int (sJ p2), .int (sJ p3)] i r) (sQi Δ (fun x i' r' => i = i' ∧ r = r' ∧ Q x)) 0 0 (sFr Δ) := by
  refine Ct.i (ty := .int) (by decide) rfl (Nat.le_of_ble_eq_true rfl) (fun Γ Q0 hG fin => ?_)
  have hG : okG Γ Δ l (sRm 1 21) cX12_operate "SchedularyModel" 4 := hG
  show V Γ Δ 542 false i r 0 0 Q0 0 [(0, .ref (sA Δ 504)), (1, .int (sJ p1)), (2, .int (sJ p2)), (3, .int (sJ p3))] []
  have jn107 : ∀ (k1j107 : Int), sR k1j107 → s107_X12_operate k1j107 i r Q → V Γ Δ 542 false i r 0 0 Q0 107 [] [.int (sJ k1j107), .ref (sA Δ 504)] := by
    intro k1j107 hk1j107 h
    refine V.callVi (pc := 107) (As := [.int (sJ k1j107)]) (stk := []) hG (sm_X12_taken l Δ hk1j107 hi hw h) mY_X12_taken kw_2020 kw_2022 kw_131 a_504 (by decide) (q := (RX12, TX12, 49)) rfl rfl ⟨Nat.le_of_ble_eq_true rfl, Nat.le_of_ble_eq_true rfl, Nat.le_of_ble_eq_true rfl, Nat.le_of_ble_eq_true rfl⟩ rfl (Nat.le_of_ble_eq_true rfl) dX12_operate_107 rfl (fun v10 i11 r12 hv13 hi14 hw15 hq16 => ?_)
    obtain ⟨e17, e18, h⟩ := hq16
    subst e17
    subst e18
    exact fin dX12_operate_110 hv13 rfl hi hw ⟨rfl, rfl, h⟩
  refine V.iload_n (pc := 0) hG dX12_operate_0 rfl 1 rfl ?_
  obtain ⟨t20, f21⟩ := h
  by_cases c19 : p1 = 38
  · have h := t20 c19
    clear t20 f21
    refine V.lookup (pc := 1) (tgt := 84) (off := 83) hG hp1 dX12_operate_1 (by decide) (by rw [c19]; rfl) (by decide) ?_
    refine V.iload_n (pc := 84) hG dX12_operate_84 rfl 2 rfl ?_
    refine V.iload_n (pc := 85) hG dX12_operate_85 rfl 3 rfl ?_
    refine V.iand (pc := 86) hG dX12_operate_86 ?_
    exact fin dX12_operate_87 ((sR_and _ _)) rfl hi hw ⟨rfl, rfl, h⟩
  · have h := f21 c19
    clear t20 f21
    obtain ⟨t23, f24⟩ := h
    by_cases c22 : p1 = 42
    · have h := t23 c22
      clear t23 f24
      refine V.lookup (pc := 1) (tgt := 76) (off := 75) hG hp1 dX12_operate_1 (by decide) (by rw [c22]; rfl) (by decide) ?_
      refine V.aload_n (pc := 76) hG dX12_operate_76 rfl 0 rfl ?_
      refine V.iload_n (pc := 77) hG dX12_operate_77 rfl 2 rfl ?_
      refine V.iload_n (pc := 78) hG dX12_operate_78 rfl 3 rfl ?_
      refine V.imul (pc := 79) hG dX12_operate_79 ?_
      refine V.callVi (pc := 80) (As := [.int (sJ (wr (p2 * p3)))]) (stk := []) hG (sm_X12_taken l Δ ((sR_wr _)) hi hw h) mY_X12_taken kw_2020 kw_2022 kw_131 a_504 (by decide) (q := (RX12, TX12, 49)) rfl rfl ⟨Nat.le_of_ble_eq_true rfl, Nat.le_of_ble_eq_true rfl, Nat.le_of_ble_eq_true rfl, Nat.le_of_ble_eq_true rfl⟩ rfl (Nat.le_of_ble_eq_true rfl) dX12_operate_80 rfl (fun v25 i26 r27 hv28 hi29 hw30 hq31 => ?_)
      obtain ⟨e32, e33, h⟩ := hq31
      subst e32
      subst e33
      exact fin dX12_operate_83 hv28 rfl hi hw ⟨rfl, rfl, h⟩
    · have h := f24 c22
      clear t23 f24
      obtain ⟨t35, f36⟩ := h
      by_cases c34 : p1 = 43
      · have h := t35 c34
        clear t35 f36
        refine V.lookup (pc := 1) (tgt := 60) (off := 59) hG hp1 dX12_operate_1 (by decide) (by rw [c34]; rfl) (by decide) ?_
        refine V.aload_n (pc := 60) hG dX12_operate_60 rfl 0 rfl ?_
        refine V.iload_n (pc := 61) hG dX12_operate_61 rfl 2 rfl ?_
        refine V.iload_n (pc := 62) hG dX12_operate_62 rfl 3 rfl ?_
        refine V.iadd (pc := 63) hG dX12_operate_63 ?_
        refine V.callVi (pc := 64) (As := [.int (sJ (wr (p2 + p3)))]) (stk := []) hG (sm_X12_taken l Δ ((sR_wr _)) hi hw h) mY_X12_taken kw_2020 kw_2022 kw_131 a_504 (by decide) (q := (RX12, TX12, 49)) rfl rfl ⟨Nat.le_of_ble_eq_true rfl, Nat.le_of_ble_eq_true rfl, Nat.le_of_ble_eq_true rfl, Nat.le_of_ble_eq_true rfl⟩ rfl (Nat.le_of_ble_eq_true rfl) dX12_operate_64 rfl (fun v37 i38 r39 hv40 hi41 hw42 hq43 => ?_)
        obtain ⟨e44, e45, h⟩ := hq43
        subst e44
        subst e45
        exact fin dX12_operate_67 hv40 rfl hi hw ⟨rfl, rfl, h⟩
      · have h := f36 c34
        clear t35 f36
        obtain ⟨t47, f48⟩ := h
        by_cases c46 : p1 = 45
        · have h := t47 c46
          clear t47 f48
          refine V.lookup (pc := 1) (tgt := 68) (off := 67) hG hp1 dX12_operate_1 (by decide) (by rw [c46]; rfl) (by decide) ?_
          refine V.aload_n (pc := 68) hG dX12_operate_68 rfl 0 rfl ?_
          refine V.iload_n (pc := 69) hG dX12_operate_69 rfl 2 rfl ?_
          refine V.iload_n (pc := 70) hG dX12_operate_70 rfl 3 rfl ?_
          refine V.isub (pc := 71) hG dX12_operate_71 ?_
          refine V.callVi (pc := 72) (As := [.int (sJ (wr (p2 - p3)))]) (stk := []) hG (sm_X12_taken l Δ ((sR_wr _)) hi hw h) mY_X12_taken kw_2020 kw_2022 kw_131 a_504 (by decide) (q := (RX12, TX12, 49)) rfl rfl ⟨Nat.le_of_ble_eq_true rfl, Nat.le_of_ble_eq_true rfl, Nat.le_of_ble_eq_true rfl, Nat.le_of_ble_eq_true rfl⟩ rfl (Nat.le_of_ble_eq_true rfl) dX12_operate_72 rfl (fun v49 i50 r51 hv52 hi53 hw54 hq55 => ?_)
          obtain ⟨e56, e57, h⟩ := hq55
          subst e56
          subst e57
          exact fin dX12_operate_75 hv52 rfl hi hw ⟨rfl, rfl, h⟩
        · have h := f48 c46
          clear t47 f48
          obtain ⟨t59, f60⟩ := h
          by_cases c58 : p1 = 94
          · have h := t59 c58
            clear t59 f60
            refine V.lookup (pc := 1) (tgt := 92) (off := 91) hG hp1 dX12_operate_1 (by decide) (by rw [c58]; rfl) (by decide) ?_
            refine V.iload_n (pc := 92) hG dX12_operate_92 rfl 2 rfl ?_
            refine V.iload_n (pc := 93) hG dX12_operate_93 rfl 3 rfl ?_
            refine V.ixor (pc := 94) hG dX12_operate_94 ?_
            exact fin dX12_operate_95 ((sR_xor _ _)) rfl hi hw ⟨rfl, rfl, h⟩
          · have h := f60 c58
            clear t59 f60
            obtain ⟨t62, f63⟩ := h
            by_cases c61 : p1 = 124
            · have h := t62 c61
              clear t62 f63
              refine V.lookup (pc := 1) (tgt := 88) (off := 87) hG hp1 dX12_operate_1 (by decide) (by rw [c61]; rfl) (by decide) ?_
              refine V.iload_n (pc := 88) hG dX12_operate_88 rfl 2 rfl ?_
              refine V.iload_n (pc := 89) hG dX12_operate_89 rfl 3 rfl ?_
              refine V.ior (pc := 90) hG dX12_operate_90 ?_
              exact fin dX12_operate_91 ((sR_or _ _)) rfl hi hw ⟨rfl, rfl, h⟩
            · have h := f63 c61
              clear t62 f63
              refine V.lookup (pc := 1) (tgt := 96) (off := 95) hG hp1 dX12_operate_1 (by decide) (by simp [Op.lookupswitch.offset, (show ¬ (38 : Int) = p1 from fun q => c19 q.symm), (show ¬ (42 : Int) = p1 from fun q => c22 q.symm), (show ¬ (43 : Int) = p1 from fun q => c34 q.symm), (show ¬ (45 : Int) = p1 from fun q => c46 q.symm), (show ¬ (94 : Int) = p1 from fun q => c58 q.symm), (show ¬ (124 : Int) = p1 from fun q => c61 q.symm)]) (by decide) ?_
              refine V.aload_n (pc := 96) hG dX12_operate_96 rfl 0 rfl ?_
              refine V.iload_n (pc := 97) hG dX12_operate_97 rfl 2 rfl ?_
              refine V.iload_n (pc := 98) hG dX12_operate_98 rfl 3 rfl ?_
              obtain ⟨t65, f66⟩ := h
              refine V.icmp_ge (pc := 99) (tgt := 106) hG hp2 hp3 dX12_operate_99 (by decide) (fun c64 => ?_) (fun c64 => ?_)
              · have h := t65 c64
                clear t65 f66
                refine V.iconst (pc := 106) hG dX12_operate_106 ?_
                refine V.pick [] rfl ?_
                exact jn107 0 ((sR_l rfl)) h
              · have h := f66 c64
                clear t65 f66
                refine V.iconst (pc := 102) hG dX12_operate_102 ?_
                refine V.goto (pc := 103) (tgt := 107) hG dX12_operate_103 (by decide) ?_
                refine V.pick [] rfl ?_
                exact jn107 1 ((sR_l rfl)) h
set_option maxRecDepth 100000 in
set_option maxHeartbeats 4000000 in
theorem sm_X12_write (l : Launch) (Δ : Wd) {i r : MI} {p1 : Int} {p2 : Int} {p3 : Int} (hp1 : sR p1) (hp2 : sR p2) (hp3 : sR p3) {Q : MI → Prop} (hi : okI i) (hw : Wf r) (h : wp_X12_write p1 p2 p3 i r Q) : Met l yX12_write (Cond.code yX12_write cX12_write 7 none :: gW) (sRm 2 46) (sPc Δ [.ref (sA Δ 504), .int (sJ p1), .int (sJ p2), .int (sJ p3)] i r) (sQv Δ (fun i' r' => r = r' ∧ Q i')) 0 0 (sFr Δ) := by
  refine Ct.v (by decide) rfl (Nat.le_of_ble_eq_true rfl) (fun Γ Q0 hG fin => ?_)
  have hG : okG Γ Δ l (sRm 2 46) cX12_write "SchedularyModel" 7 := hG
  show V Γ Δ 542 false i r 0 0 Q0 0 [(0, .ref (sA Δ 504)), (1, .int (sJ p1)), (2, .int (sJ p2)), (3, .int (sJ p3))] []
  have jn107 : ∀  (ij107 : MI), okI ij107 → s107_X12_write ij107 r Q → V Γ Δ 542 false ij107 r 0 0 Q0 107 [] [] := by
    intro ij107 hij107 h
    exact fin dX12_write_107 hij107 hw ⟨rfl, h⟩
  refine V.bipush (pc := 0) hG dX12_write_0 (by decide) ?_
  refine V.iload_n (pc := 2) hG dX12_write_2 rfl 1 rfl ?_
  refine V.imul (pc := 3) hG dX12_write_3 ?_
  refine V.istore (pc := 4) (lv' := [(4, .int (sJ (wr (13 * p1)))), (0, .ref (sA Δ 504)), (1, .int (sJ p1)), (2, .int (sJ p2)), (3, .int (sJ p3))]) hG dX12_write_4 (by decide) rfl ?_
  refine V.aload_n (pc := 6) hG dX12_write_6 rfl 1 rfl ?_
  refine V.getR (x := 507) (pc := 7) (ci := 14) (k := 7) (M := 49) (T := TX12) (o := 504) (kz := 7) hG a_504 a_504.n (by decide) hin_X12 rfl (by decide) (by decide) rfl kw_1699 rfl ((hw).1 (504, 7, 507) (by decide)) (by decide) dX12_write_7 ?_
  refine V.iload (pc := 10) hG dX12_write_10 0 rfl ?_
  obtain ⟨g1, h⟩ := h
  refine V.iald (pc := 12) (z := 156) (o := 507) hG a_507 a_507.n ((sR_wr _)) g1 dX12_write_12 ?_
  refine V.istore (pc := 13) (lv' := [(5, .int (sJ (i 507 (wr (13 * p1))))), (4, .int (sJ (wr (13 * p1)))), (0, .ref (sA Δ 504)), (1, .int (sJ p1)), (2, .int (sJ p2)), (3, .int (sJ p3))]) hG dX12_write_13 (by decide) rfl ?_
  refine V.iload (pc := 15) hG dX12_write_15 0 rfl ?_
  obtain ⟨f4, t3⟩ := h
  refine V.if_ne (pc := 17) (tgt := 38) hG ((hi _ _)) dX12_write_17 (by decide) (fun c2 => ?_) (fun c2 => ?_)
  · have h := t3 c2
    clear t3 f4
    refine V.iload (pc := 38) hG dX12_write_38 0 rfl ?_
    refine V.iconst (pc := 40) hG dX12_write_40 ?_
    obtain ⟨f7, t6⟩ := h
    refine V.icmp_ne (pc := 41) (tgt := 67) hG ((hi _ _)) ((sR_l rfl)) dX12_write_41 (by decide) (fun c5 => ?_) (fun c5 => ?_)
    · have h := t6 c5
      clear t6 f7
      refine V.iload (pc := 67) hG dX12_write_67 0 rfl ?_
      refine V.aload_n (pc := 69) hG dX12_write_69 rfl 2 rfl ?_
      refine V.getR (x := 507) (pc := 70) (ci := 14) (k := 7) (M := 49) (T := TX12) (o := 504) (kz := 7) hG a_504 a_504.n (by decide) hin_X12 rfl (by decide) (by decide) rfl kw_1699 rfl ((hw).1 (504, 7, 507) (by decide)) (by decide) dX12_write_70 ?_
      refine V.iload (pc := 73) hG dX12_write_73 1 rfl ?_
      refine V.iconst (pc := 75) hG dX12_write_75 ?_
      refine V.iadd (pc := 76) hG dX12_write_76 ?_
      obtain ⟨g8, h⟩ := h
      refine V.iald (pc := 77) (z := 156) (o := 507) hG a_507 a_507.n ((sR_wr _)) g8 dX12_write_77 ?_
      refine V.aload_n (pc := 78) hG dX12_write_78 rfl 2 rfl ?_
      refine V.getR (x := 507) (pc := 79) (ci := 14) (k := 7) (M := 49) (T := TX12) (o := 504) (kz := 7) hG a_504 a_504.n (by decide) hin_X12 rfl (by decide) (by decide) rfl kw_1699 rfl ((hw).1 (504, 7, 507) (by decide)) (by decide) dX12_write_79 ?_
      refine V.iload (pc := 82) hG dX12_write_82 1 rfl ?_
      refine V.iconst (pc := 84) hG dX12_write_84 ?_
      refine V.iadd (pc := 85) hG dX12_write_85 ?_
      obtain ⟨g9, h⟩ := h
      refine V.iald (pc := 86) (z := 156) (o := 507) hG a_507 a_507.n ((sR_wr _)) g9 dX12_write_86 ?_
      refine V.iload_n (pc := 87) hG dX12_write_87 rfl 4 rfl ?_
      refine V.callSi (pc := 88) (As := [.int (sJ (i 507 (wr (13 * p1)))), .int (sJ (i 507 (wr (wr (13 * p1) + 2)))), .int (sJ (i 507 (wr (wr (13 * p1) + 3)))), .int (sJ p2)]) (stk := []) hG (sm_X12_where l Δ ((hi _ _)) ((hi _ _)) ((hi _ _)) hp2 hi hw h) mY_X12_where kw_2032 kw_2033 ⟨Nat.le_of_ble_eq_true rfl, Nat.le_of_ble_eq_true rfl, Nat.le_of_ble_eq_true rfl, Nat.le_of_ble_eq_true rfl⟩ rfl (Nat.le_of_ble_eq_true rfl) dX12_write_88 rfl (fun v10 i11 r12 hv13 hi14 hw15 hq16 => ?_)
      obtain ⟨e21, e22, h⟩ := hq16
      subst e21
      subst e22
      refine V.istore (pc := 91) (lv' := [(6, .int (sJ v10)), (5, .int (sJ (i 507 (wr (13 * p1))))), (4, .int (sJ (wr (13 * p1)))), (0, .ref (sA Δ 504)), (1, .int (sJ p1)), (2, .int (sJ p2)), (3, .int (sJ p3))]) hG dX12_write_91 (by decide) rfl ?_
      refine V.iload (pc := 93) hG dX12_write_93 0 rfl ?_
      refine V.iconst (pc := 95) hG dX12_write_95 ?_
      obtain ⟨t18, f19⟩ := h
      refine V.icmp_eq (pc := 96) (tgt := 107) hG hv13 ((sR_l rfl)) dX12_write_96 (by decide) (fun c17 => ?_) (fun c17 => ?_)
      · have h := t18 c17
        clear t18 f19
        refine V.pick [] rfl ?_
        exact jn107 i hi h
      · have h := f19 c17
        clear t18 f19
        refine V.aload_n (pc := 99) hG dX12_write_99 rfl 3 rfl ?_
        refine V.getR (x := 513) (pc := 100) (ci := 14) (k := 17) (M := 49) (T := TX12) (o := 504) (kz := 17) hG a_504 a_504.n (by decide) hin_X12 rfl (by decide) (by decide) rfl kw_1709 rfl ((hw).1 (504, 17, 513) (by decide)) (by decide) dX12_write_100 ?_
        refine V.iload (pc := 103) hG dX12_write_103 0 rfl ?_
        refine V.iload_n (pc := 105) hG dX12_write_105 rfl 6 rfl ?_
        obtain ⟨g20, h⟩ := h
        refine V.iast (pc := 106) (z := 32) (o := 513) hG a_513 a_513.n hv13 g20 dX12_write_106 ?_
        refine V.pick [] rfl ?_
        exact jn107 (st i 513 v10 p3) ((okI_st hi hp3)) h
    · have h := f7 c5
      clear t6 f7
      refine V.aload_n (pc := 44) hG dX12_write_44 rfl 2 rfl ?_
      refine V.getR (x := 514) (pc := 45) (ci := 14) (k := 18) (M := 49) (T := TX12) (o := 504) (kz := 18) hG a_504 a_504.n (by decide) hin_X12 rfl (by decide) (by decide) rfl kw_1710 rfl ((hw).1 (504, 18, 514) (by decide)) (by decide) dX12_write_45 ?_
      refine V.aload_n (pc := 48) hG dX12_write_48 rfl 2 rfl ?_
      refine V.getI (pc := 49) (ci := 14) (k := 19) (M := 49) (T := TX12) (o := 504) (kz := 19) hG a_504 a_504.n (by decide) hin_X12 rfl (by decide) (by decide) rfl kw_1711 rfl dX12_write_49 ?_
      refine V.iload_n (pc := 52) hG dX12_write_52 rfl 5 rfl ?_
      obtain ⟨g23, h⟩ := h
      refine V.iast (pc := 53) (z := 192) (o := 514) hG a_514 a_514.n ((hi _ _)) g23 dX12_write_53 ?_
      refine V.aload_n (pc := 54) hG dX12_write_54 rfl 2 rfl ?_
      refine V.dup (pc := 55) hG dX12_write_55 rfl ?_
      refine V.getI (pc := 56) (ci := 14) (k := 19) (M := 49) (T := TX12) (o := 504) (kz := 19) hG a_504 a_504.n (by decide) hin_X12 rfl (by decide) (by decide) rfl kw_1711 rfl dX12_write_56 ?_
      refine V.iconst (pc := 59) hG dX12_write_59 ?_
      refine V.iadd (pc := 60) hG dX12_write_60 ?_
      refine V.putI (pc := 61) (ci := 14) (k := 19) (M := 49) (T := TX12) (o := 504) (kz := 19) hG a_504 a_504.n (by decide) hin_X12 rfl (by decide) (by decide) rfl kw_1711 rfl tyX12 tyX12_ok nmX12 rfl (ty := tyX12 19) (tyX12_ok 19 (by decide)) rfl rfl dX12_write_61 ?_
      refine V.goto (pc := 64) (tgt := 107) hG dX12_write_64 (by decide) ?_
      refine V.pick [] rfl ?_
      exact jn107 (st (st i 514 (i 504 19) p3) 504 19 (wr ((st i 514 (i 504 19) p3) 504 19 + 1))) ((okI_st ((okI_st hi hp3)) ((sR_wr _)))) h
  · have h := f4 c2
    clear t3 f4
    refine V.aload_n (pc := 20) hG dX12_write_20 rfl 2 rfl ?_
    refine V.getR (x := 512) (pc := 21) (ci := 14) (k := 16) (M := 49) (T := TX12) (o := 504) (kz := 16) hG a_504 a_504.n (by decide) hin_X12 rfl (by decide) (by decide) rfl kw_1708 rfl ((hw).1 (504, 16, 512) (by decide)) (by decide) dX12_write_21 ?_
    refine V.aload_n (pc := 24) hG dX12_write_24 rfl 2 rfl ?_
    refine V.getR (x := 507) (pc := 25) (ci := 14) (k := 7) (M := 49) (T := TX12) (o := 504) (kz := 7) hG a_504 a_504.n (by decide) hin_X12 rfl (by decide) (by decide) rfl kw_1699 rfl ((hw).1 (504, 7, 507) (by decide)) (by decide) dX12_write_25 ?_
    refine V.iload (pc := 28) hG dX12_write_28 1 rfl ?_
    refine V.iconst (pc := 30) hG dX12_write_30 ?_
    refine V.iadd (pc := 31) hG dX12_write_31 ?_
    obtain ⟨g24, h⟩ := h
    refine V.iald (pc := 32) (z := 156) (o := 507) hG a_507 a_507.n ((sR_wr _)) g24 dX12_write_32 ?_
    refine V.iload_n (pc := 33) hG dX12_write_33 rfl 5 rfl ?_
    obtain ⟨g25, h⟩ := h
    refine V.iast (pc := 34) (z := 8) (o := 512) hG a_512 a_512.n ((hi _ _)) g25 dX12_write_34 ?_
    refine V.goto (pc := 35) (tgt := 107) hG dX12_write_35 (by decide) ?_
    refine V.pick [] rfl ?_
    exact jn107 (st i 512 (i 507 (wr (wr (13 * p1) + 1))) p3) ((okI_st hi hp3)) h
set_option maxRecDepth 100000 in
set_option maxHeartbeats 4000000 in
theorem sm_X12_perform (l : Launch) (Δ : Wd) {i r : MI}   {Q : MI → Prop} (hi : okI i) (hw : Wf r) (h : wp_X12_perform  i r Q) : Met l yX12_perform (Cond.code yX12_perform cX12_perform 5 none :: gW) (sRm 3 72) (sPc Δ [.ref (sA Δ 504)] i r) (sQv Δ (fun i' r' => r = r' ∧ Q i')) 0 0 (sFr Δ) := by
  refine Ct.v (by decide) rfl (Nat.le_of_ble_eq_true rfl) (fun Γ Q0 hG fin => ?_)
  have hG : okG Γ Δ l (sRm 3 72) cX12_perform "SchedularyModel" 5 := hG
  show V Γ Δ 542 false i r 0 0 Q0 0 [(0, .ref (sA Δ 504))] []
  refine V.aload_n (pc := 0) hG dX12_perform_0 rfl 0 rfl ?_
  refine V.callVv (pc := 1) (As := []) (stk := []) hG (sm_X12_begin l Δ  hi hw h) mY_X12_begin kw_2016 kw_2018 kw_130 a_504 (by decide) (q := (RX12, TX12, 49)) rfl rfl ⟨Nat.le_of_ble_eq_true rfl, Nat.le_of_ble_eq_true rfl, Nat.le_of_ble_eq_true rfl, Nat.le_of_ble_eq_true rfl⟩ rfl (Nat.le_of_ble_eq_true rfl) dX12_perform_1 rfl (fun i2 r3 hi5 hw6 hq7 => ?_)
  obtain ⟨e165, h⟩ := hq7
  subst e165
  refine V.iconst (pc := 4) hG dX12_perform_4 ?_
  refine V.istore_n (pc := 5) (lv' := [(1, .int (sJ 0)), (0, .ref (sA Δ 504))]) hG dX12_perform_5 rfl (by decide) rfl ?_
  obtain ⟨n107, h⟩ := h
  have lp6 : ∀ (m6 : Nat) (x1_6 : Int) (i_6 : MI), sR x1_6 → okI i_6 → LoopP (b6_X12_perform r Q) m6 (x1_6, i_6) → V Γ Δ 542 false i_6 r 0 0 Q0 6 [(0, .ref (sA Δ 504)), (1, .int (sJ x1_6))] [] := by
    intro m6
    induction m6 with
    | zero => intro x1_6 i_6 hx1_6 hi_6 h; exact h.elim
    | succ m6 ih6 =>
      intro x1_6 i_6 hx1_6 hi_6 h
      have h := LoopP_succ h
      refine V.iload_n (pc := 6) hG dX12_perform_6 rfl 1 rfl ?_
      refine V.aload_n (pc := 7) hG dX12_perform_7 rfl 0 rfl ?_
      refine V.getI (pc := 8) (ci := 14) (k := 8) (M := 49) (T := TX12) (o := 504) (kz := 8) hG a_504 a_504.n (by decide) hin_X12 rfl (by decide) (by decide) rfl kw_1700 rfl dX12_perform_8 ?_
      obtain ⟨t109, f110⟩ := h
      refine V.icmp_ge (pc := 11) (tgt := 96) hG hx1_6 ((hi_6 _ _)) dX12_perform_11 (by decide) (fun c108 => ?_) (fun c108 => ?_)
      · have h := t109 c108
        clear t109 f110
        exact fin dX12_perform_96 hi_6 hw ⟨rfl, h⟩
      · have h := f110 c108
        clear t109 f110
        refine V.iconst (pc := 14) hG dX12_perform_14 ?_
        refine V.istore_n (pc := 15) (lv' := [(2, .int (sJ 0)), (0, .ref (sA Δ 504)), (1, .int (sJ x1_6))]) hG dX12_perform_15 rfl (by decide) rfl ?_
        obtain ⟨n111, h⟩ := h
        have lp16 : ∀ (m16 : Nat) (x2_16 : Int) (i_16 : MI), sR x2_16 → okI i_16 → LoopP (b16_X12_perform x1_6 r Q (LoopP (b6_X12_perform r Q) m6)) m16 (x2_16, i_16) → V Γ Δ 542 false i_16 r 0 0 Q0 16 [(0, .ref (sA Δ 504)), (1, .int (sJ x1_6)), (2, .int (sJ x2_16))] [] := by
          intro m16
          induction m16 with
          | zero => intro x2_16 i_16 hx2_16 hi_16 h; exact h.elim
          | succ m16 ih16 =>
            intro x2_16 i_16 hx2_16 hi_16 h
            have h := LoopP_succ h
            have jn81 : ∀ (x2j81 : Int) (k1j81 : Int) (k2j81 : Int) (k3j81 : Int) (ij81 : MI), sR x2j81 → sR k1j81 → sR k2j81 → sR k3j81 → okI ij81 → s81_X12_perform x1_6 x2j81 k1j81 k2j81 k3j81 ij81 r Q (LoopP (b6_X12_perform r Q) m6) (LoopP (b16_X12_perform x1_6 r Q (LoopP (b6_X12_perform r Q) m6)) m16) → V Γ Δ 542 false ij81 r 0 0 Q0 81 [(0, .ref (sA Δ 504)), (1, .int (sJ x1_6)), (2, .int (sJ x2j81))] [.int (sJ k3j81), .int (sJ k2j81), .int (sJ k1j81), .ref (sA Δ 504)] := by
              intro x2j81 k1j81 k2j81 k3j81 ij81 hx2j81 hk1j81 hk2j81 hk3j81 hij81 h
              refine V.callVv (pc := 81) (As := [.int (sJ k1j81), .int (sJ k2j81), .int (sJ k3j81)]) (stk := []) hG (sm_X12_write l Δ hk1j81 hk2j81 hk3j81 hij81 hw h) mY_X12_write kw_2039 kw_2041 kw_135 a_504 (by decide) (q := (RX12, TX12, 49)) rfl rfl ⟨Nat.le_of_ble_eq_true rfl, Nat.le_of_ble_eq_true rfl, Nat.le_of_ble_eq_true rfl, Nat.le_of_ble_eq_true rfl⟩ rfl (Nat.le_of_ble_eq_true rfl) dX12_perform_81 rfl (fun i122 r123 hi125 hw126 hq127 => ?_)
              obtain ⟨e129, h⟩ := hq127
              subst e129
              refine V.iinc (pc := 84) (lv' := [(2, .int (sJ (wr (x2j81 + 1)))), (0, .ref (sA Δ 504)), (1, .int (sJ x1_6))]) hG dX12_perform_84 2 rfl (by decide) rfl ?_
              refine V.goto (pc := 87) (tgt := 16) hG dX12_perform_87 (by decide) ?_
              refine V.pick [1, 2, 0] rfl ?_
              exact ih16 (wr (x2j81 + 1)) i122 ((sR_wr _)) hi125 h
            refine V.iload_n (pc := 16) hG dX12_perform_16 rfl 2 rfl ?_
            refine V.aload_n (pc := 17) hG dX12_perform_17 rfl 0 rfl ?_
            refine V.getI (pc := 18) (ci := 14) (k := 6) (M := 49) (T := TX12) (o := 504) (kz := 6) hG a_504 a_504.n (by decide) hin_X12 rfl (by decide) (by decide) rfl kw_1698 rfl dX12_perform_18 ?_
            obtain ⟨t131, f132⟩ := h
            refine V.icmp_ge (pc := 21) (tgt := 90) hG hx2_16 ((hi_16 _ _)) dX12_perform_21 (by decide) (fun c130 => ?_) (fun c130 => ?_)
            · have h := t131 c130
              clear t131 f132
              refine V.iinc (pc := 90) (lv' := [(1, .int (sJ (wr (x1_6 + 1)))), (0, .ref (sA Δ 504)), (2, .int (sJ x2_16))]) hG dX12_perform_90 1 rfl (by decide) rfl ?_
              refine V.goto (pc := 93) (tgt := 6) hG dX12_perform_93 (by decide) ?_
              refine V.pick [1, 0] rfl ?_
              exact ih6 (wr (x1_6 + 1)) i_16 ((sR_wr _)) hi_16 h
            · have h := f132 c130
              clear t131 f132
              refine V.aload_n (pc := 24) hG dX12_perform_24 rfl 0 rfl ?_
              refine V.bipush (pc := 25) hG dX12_perform_25 (by decide) ?_
              refine V.iload_n (pc := 27) hG dX12_perform_27 rfl 2 rfl ?_
              refine V.imul (pc := 28) hG dX12_perform_28 ?_
              refine V.iconst (pc := 29) hG dX12_perform_29 ?_
              refine V.iadd (pc := 30) hG dX12_perform_30 ?_
              refine V.iload_n (pc := 31) hG dX12_perform_31 rfl 1 rfl ?_
              refine V.callVi (pc := 32) (As := [.int (sJ (wr (wr (13 * x2_16) + 4))), .int (sJ x1_6)]) (stk := []) hG (sm_X12_operand l Δ ((sR_wr _)) hx1_6 hi_16 hw h) mY_X12_operand kw_2024 kw_2026 kw_132 a_504 (by decide) (q := (RX12, TX12, 49)) rfl rfl ⟨Nat.le_of_ble_eq_true rfl, Nat.le_of_ble_eq_true rfl, Nat.le_of_ble_eq_true rfl, Nat.le_of_ble_eq_true rfl⟩ rfl (Nat.le_of_ble_eq_true rfl) dX12_perform_32 rfl (fun v133 i134 r135 hv136 hi137 hw138 hq139 => ?_)
              obtain ⟨e163, h⟩ := hq139
              subst e163
              refine V.istore_n (pc := 35) (lv' := [(3, .int (sJ v133)), (0, .ref (sA Δ 504)), (1, .int (sJ x1_6)), (2, .int (sJ x2_16))]) hG dX12_perform_35 rfl (by decide) rfl ?_
              refine V.aload_n (pc := 36) hG dX12_perform_36 rfl 1 rfl ?_
              refine V.getR (x := 507) (pc := 37) (ci := 14) (k := 7) (M := 49) (T := TX12) (o := 504) (kz := 7) hG a_504 a_504.n (by decide) hin_X12 rfl (by decide) (by decide) rfl kw_1699 rfl ((hw).1 (504, 7, 507) (by decide)) (by decide) dX12_perform_37 ?_
              refine V.bipush (pc := 40) hG dX12_perform_40 (by decide) ?_
              refine V.iload_n (pc := 42) hG dX12_perform_42 rfl 3 rfl ?_
              refine V.imul (pc := 43) hG dX12_perform_43 ?_
              refine V.bipush (pc := 44) hG dX12_perform_44 (by decide) ?_
              refine V.iadd (pc := 46) hG dX12_perform_46 ?_
              obtain ⟨g140, h⟩ := h
              refine V.iald (pc := 47) (z := 156) (o := 507) hG a_507 a_507.n ((sR_wr _)) g140 dX12_perform_47 ?_
              refine V.istore (pc := 48) (lv' := [(4, .int (sJ (i134 507 (wr (wr (13 * x2_16) + 12))))), (3, .int (sJ v133)), (0, .ref (sA Δ 504)), (1, .int (sJ x1_6)), (2, .int (sJ x2_16))]) hG dX12_perform_48 (by decide) rfl ?_
              refine V.aload_n (pc := 50) hG dX12_perform_50 rfl 2 rfl ?_
              refine V.iload_n (pc := 51) hG dX12_perform_51 rfl 4 rfl ?_
              refine V.iload_n (pc := 52) hG dX12_perform_52 rfl 3 rfl ?_
              refine V.iload (pc := 53) hG dX12_perform_53 0 rfl ?_
              obtain ⟨f143, t142⟩ := h
              refine V.if_ne (pc := 55) (tgt := 62) hG ((hi137 _ _)) dX12_perform_55 (by decide) (fun c141 => ?_) (fun c141 => ?_)
              · have h := t142 c141
                clear t142 f143
                refine V.aload_n (pc := 62) hG dX12_perform_62 rfl 2 rfl ?_
                refine V.iload (pc := 63) hG dX12_perform_63 0 rfl ?_
                refine V.iload_n (pc := 65) hG dX12_perform_65 rfl 1 rfl ?_
                refine V.aload_n (pc := 66) hG dX12_perform_66 rfl 2 rfl ?_
                refine V.bipush (pc := 67) hG dX12_perform_67 (by decide) ?_
                refine V.iload_n (pc := 69) hG dX12_perform_69 rfl 4 rfl ?_
                refine V.imul (pc := 70) hG dX12_perform_70 ?_
                refine V.bipush (pc := 71) hG dX12_perform_71 (by decide) ?_
                refine V.iadd (pc := 73) hG dX12_perform_73 ?_
                refine V.iload_n (pc := 74) hG dX12_perform_74 rfl 3 rfl ?_
                refine V.callVi (pc := 75) (As := [.int (sJ (wr (wr (13 * x2_16) + 8))), .int (sJ x1_6)]) (stk := [.int (sJ v133), .int (sJ (i134 507 (wr (wr (13 * x2_16) + 12)))), .ref (sA Δ 504), .int (sJ x1_6), .int (sJ x2_16), .ref (sA Δ 504)]) hG (sm_X12_operand l Δ ((sR_wr _)) hx1_6 hi137 hw h) mY_X12_operand kw_2024 kw_2026 kw_132 a_504 (by decide) (q := (RX12, TX12, 49)) rfl rfl ⟨Nat.le_of_ble_eq_true rfl, Nat.le_of_ble_eq_true rfl, Nat.le_of_ble_eq_true rfl, Nat.le_of_ble_eq_true rfl⟩ rfl (Nat.le_of_ble_eq_true rfl) dX12_perform_75 rfl (fun v144 i145 r146 hv147 hi148 hw149 hq150 => ?_)
                obtain ⟨e161, h⟩ := hq150
                subst e161
                refine V.callVi (pc := 78) (As := [.int (sJ (i134 507 (wr (wr (13 * x2_16) + 12)))), .int (sJ v133), .int (sJ v144)]) (stk := [.int (sJ x1_6), .int (sJ x2_16), .ref (sA Δ 504)]) hG (sm_X12_operate l Δ ((hi137 _ _)) hv136 hv147 hi148 hw h) mY_X12_operate kw_2035 kw_2037 kw_134 a_504 (by decide) (q := (RX12, TX12, 49)) rfl rfl ⟨Nat.le_of_ble_eq_true rfl, Nat.le_of_ble_eq_true rfl, Nat.le_of_ble_eq_true rfl, Nat.le_of_ble_eq_true rfl⟩ rfl (Nat.le_of_ble_eq_true rfl) dX12_perform_78 rfl (fun v151 i152 r153 hv154 hi155 hw156 hq157 => ?_)
                obtain ⟨e158, e159, h⟩ := hq157
                subst e158
                subst e159
                refine V.pick [2, 3, 4] rfl ?_
                exact jn81 x2_16 x2_16 x1_6 v151 i145 hx2_16 hx2_16 hx1_6 hv154 hi148 h
              · have h := f143 c141
                clear t142 f143
                refine V.iload_n (pc := 58) hG dX12_perform_58 rfl 1 rfl ?_
                refine V.goto (pc := 59) (tgt := 81) hG dX12_perform_59 (by decide) ?_
                refine V.pick [2, 3, 4] rfl ?_
                exact jn81 x2_16 x2_16 x1_6 v133 i134 hx2_16 hx2_16 hx1_6 hv136 hi137 h
        refine V.pick [1, 2, 0] rfl ?_
        exact lp16 n111 0 i_6 ((sR_l rfl)) hi_6 h
  refine V.pick [1, 0] rfl ?_
  exact lp6 n107 0 i2 ((sR_l rfl)) hi5 h
set_option maxRecDepth 100000 in
set_option maxHeartbeats 4000000 in
theorem sm_X12_outputs (l : Launch) (Δ : Wd) {i r : MI}   {Q : Int → MI → Prop} (hi : okI i) (hw : Wf r) (h : wp_X12_outputs  i r Q) : Met l yX12_outputs (Cond.code yX12_outputs cX12_outputs 1 (some .int) :: gW) (sRm 4 96) (sPc Δ [.ref (sA Δ 504)] i r) (sQi Δ (fun x i' r' => r = r' ∧ Q x i')) 0 0 (sFr Δ) := by
  refine Ct.i (ty := .int) (by decide) rfl (Nat.le_of_ble_eq_true rfl) (fun Γ Q0 hG fin => ?_)
  have hG : okG Γ Δ l (sRm 4 96) cX12_outputs "SchedularyModel" 1 := hG
  show V Γ Δ 542 false i r 0 0 Q0 0 [(0, .ref (sA Δ 504))] []
  refine V.aload_n (pc := 0) hG dX12_outputs_0 rfl 0 rfl ?_
  refine V.iconst (pc := 1) hG dX12_outputs_1 ?_
  refine V.putI (pc := 2) (ci := 14) (k := 0) (M := 49) (T := TX12) (o := 504) (kz := 0) hG a_504 a_504.n (by decide) hin_X12 rfl (by decide) (by decide) rfl kw_1692 rfl tyX12 tyX12_ok nmX12 rfl (ty := tyX12 0) (tyX12_ok 0 (by decide)) rfl rfl dX12_outputs_2 ?_
  refine V.aload_n (pc := 5) hG dX12_outputs_5 rfl 0 rfl ?_
  refine V.callVv (pc := 6) (As := []) (stk := []) hG (sm_X12_perform l Δ  ((okI_st hi ((sR_l rfl)))) hw h) mY_X12_perform kw_2012 kw_2014 kw_129 a_504 (by decide) (q := (RX12, TX12, 49)) rfl rfl ⟨Nat.le_of_ble_eq_true rfl, Nat.le_of_ble_eq_true rfl, Nat.le_of_ble_eq_true rfl, Nat.le_of_ble_eq_true rfl⟩ rfl (Nat.le_of_ble_eq_true rfl) dX12_outputs_6 rfl (fun i2 r3 hi5 hw6 hq7 => ?_)
  obtain ⟨e9, h⟩ := hq7
  subst e9
  refine V.aload_n (pc := 9) hG dX12_outputs_9 rfl 0 rfl ?_
  refine V.getI (pc := 10) (ci := 14) (k := 19) (M := 49) (T := TX12) (o := 504) (kz := 19) hG a_504 a_504.n (by decide) hin_X12 rfl (by decide) (by decide) rfl kw_1711 rfl dX12_outputs_10 ?_
  exact fin dX12_outputs_13 ((hi5 _ _)) rfl hi5 hw ⟨rfl, h⟩
set_option maxRecDepth 100000 in
set_option maxHeartbeats 4000000 in
theorem sm_X12_output (l : Launch) (Δ : Wd) {i r : MI} {p1 : Int} (hp1 : sR p1) {Q : Int → MI → Prop} (hi : okI i) (hw : Wf r) (h : wp_X12_output p1 i r Q) : Met l yX12_output (Cond.code yX12_output cX12_output 2 (some .int) :: gW) (sRm 4 96) (sPc Δ [.ref (sA Δ 504), .int (sJ p1)] i r) (sQi Δ (fun x i' r' => r = r' ∧ Q x i')) 0 0 (sFr Δ) := by
  refine Ct.i (ty := .int) (by decide) rfl (Nat.le_of_ble_eq_true rfl) (fun Γ Q0 hG fin => ?_)
  have hG : okG Γ Δ l (sRm 4 96) cX12_output "SchedularyModel" 2 := hG
  show V Γ Δ 542 false i r 0 0 Q0 0 [(0, .ref (sA Δ 504)), (1, .int (sJ p1))] []
  have jn46 : ∀ (k0j46 : Int) (ij46 : MI), sR k0j46 → okI ij46 → s46_X12_output k0j46 ij46 r Q → V Γ Δ 542 false ij46 r 0 0 Q0 46 [] [.int (sJ k0j46)] := by
    intro k0j46 ij46 hk0j46 hij46 h
    exact fin dX12_output_46 hk0j46 rfl hij46 hw ⟨rfl, h⟩
  have jn29 : ∀ (k1j29 : Int) (ij29 : MI), sR k1j29 → okI ij29 → s29_X12_output p1 k1j29 ij29 r Q → V Γ Δ 542 false ij29 r 0 0 Q0 29 [(0, .ref (sA Δ 504)), (1, .int (sJ p1))] [.int (sJ k1j29), .ref (sA Δ 504)] := by
    intro k1j29 ij29 hk1j29 hij29 h
    refine V.iconst (pc := 29) hG dX12_output_29 ?_
    refine V.callVi (pc := 30) (As := [.int (sJ k1j29), .int (sJ 1)]) (stk := []) hG (sm_X12_fails l Δ hk1j29 ((sR_l rfl)) hij29 hw h) mY_X12_fails kw_1853 kw_1855 kw_106 a_504 (by decide) (q := (RX12, TX12, 49)) rfl rfl ⟨Nat.le_of_ble_eq_true rfl, Nat.le_of_ble_eq_true rfl, Nat.le_of_ble_eq_true rfl, Nat.le_of_ble_eq_true rfl⟩ rfl (Nat.le_of_ble_eq_true rfl) dX12_output_30 rfl (fun v14 i15 r16 hv17 hi18 hw19 hq20 => ?_)
    obtain ⟨e26, h⟩ := hq20
    subst e26
    obtain ⟨t22, f23⟩ := h
    refine V.if_eq (pc := 33) (tgt := 40) hG hv17 dX12_output_33 (by decide) (fun c21 => ?_) (fun c21 => ?_)
    · have h := t22 c21
      clear t22 f23
      refine V.aload_n (pc := 40) hG dX12_output_40 rfl 0 rfl ?_
      refine V.getR (x := 514) (pc := 41) (ci := 14) (k := 18) (M := 49) (T := TX12) (o := 504) (kz := 18) hG a_504 a_504.n (by decide) hin_X12 rfl (by decide) (by decide) rfl kw_1710 rfl ((hw).1 (504, 18, 514) (by decide)) (by decide) dX12_output_41 ?_
      refine V.iload_n (pc := 44) hG dX12_output_44 rfl 1 rfl ?_
      obtain ⟨g24, h⟩ := h
      refine V.iald (pc := 45) (z := 192) (o := 514) hG a_514 a_514.n hp1 g24 dX12_output_45 ?_
      refine V.pick [] rfl ?_
      exact jn46 (i15 514 p1) i15 ((hi18 _ _)) hi18 h
    · have h := f23 c21
      clear t22 f23
      refine V.iconst (pc := 36) hG dX12_output_36 ?_
      refine V.goto (pc := 37) (tgt := 46) hG dX12_output_37 (by decide) ?_
      refine V.pick [] rfl ?_
      exact jn46 0 i15 ((sR_l rfl)) hi18 h
  refine V.aload_n (pc := 0) hG dX12_output_0 rfl 0 rfl ?_
  refine V.iconst (pc := 1) hG dX12_output_1 ?_
  refine V.putI (pc := 2) (ci := 14) (k := 0) (M := 49) (T := TX12) (o := 504) (kz := 0) hG a_504 a_504.n (by decide) hin_X12 rfl (by decide) (by decide) rfl kw_1692 rfl tyX12 tyX12_ok nmX12 rfl (ty := tyX12 0) (tyX12_ok 0 (by decide)) rfl rfl dX12_output_2 ?_
  refine V.aload_n (pc := 5) hG dX12_output_5 rfl 0 rfl ?_
  refine V.callVv (pc := 6) (As := []) (stk := []) hG (sm_X12_perform l Δ  ((okI_st hi ((sR_l rfl)))) hw h) mY_X12_perform kw_2012 kw_2014 kw_129 a_504 (by decide) (q := (RX12, TX12, 49)) rfl rfl ⟨Nat.le_of_ble_eq_true rfl, Nat.le_of_ble_eq_true rfl, Nat.le_of_ble_eq_true rfl, Nat.le_of_ble_eq_true rfl⟩ rfl (Nat.le_of_ble_eq_true rfl) dX12_output_6 rfl (fun i28 r29 hi31 hw32 hq33 => ?_)
  obtain ⟨e47, h⟩ := hq33
  subst e47
  refine V.aload_n (pc := 9) hG dX12_output_9 rfl 0 rfl ?_
  refine V.iload_n (pc := 10) hG dX12_output_10 rfl 1 rfl ?_
  refine V.iconst (pc := 11) hG dX12_output_11 ?_
  refine V.aload_n (pc := 12) hG dX12_output_12 rfl 0 rfl ?_
  refine V.getI (pc := 13) (ci := 14) (k := 19) (M := 49) (T := TX12) (o := 504) (kz := 19) hG a_504 a_504.n (by decide) hin_X12 rfl (by decide) (by decide) rfl kw_1711 rfl dX12_output_13 ?_
  refine V.iconst (pc := 16) hG dX12_output_16 ?_
  refine V.isub (pc := 17) hG dX12_output_17 ?_
  refine V.callSi (pc := 18) (As := [.int (sJ p1), .int (sJ 0), .int (sJ (wr (i28 504 19 - 1)))]) (stk := [.ref (sA Δ 504)]) hG (sm_X12_in l Δ hp1 ((sR_l rfl)) ((sR_wr _)) hi31 hw h) mY_X12_in kw_1848 kw_1849 ⟨Nat.le_of_ble_eq_true rfl, Nat.le_of_ble_eq_true rfl, Nat.le_of_ble_eq_true rfl, Nat.le_of_ble_eq_true rfl⟩ rfl (Nat.le_of_ble_eq_true rfl) dX12_output_18 rfl (fun v34 i35 r36 hv37 hi38 hw39 hq40 => ?_)
  obtain ⟨e44, e45, h⟩ := hq40
  subst e44
  subst e45
  obtain ⟨f43, t42⟩ := h
  refine V.if_ne (pc := 21) (tgt := 28) hG hv37 dX12_output_21 (by decide) (fun c41 => ?_) (fun c41 => ?_)
  · have h := t42 c41
    clear t42 f43
    refine V.iconst (pc := 28) hG dX12_output_28 ?_
    exact jn29 0 i28 ((sR_l rfl)) hi31 h
  · have h := f43 c41
    clear t42 f43
    refine V.iconst (pc := 24) hG dX12_output_24 ?_
    refine V.goto (pc := 25) (tgt := 29) hG dX12_output_25 (by decide) ?_
    exact jn29 1 i28 ((sR_l rfl)) hi31 h
set_option maxRecDepth 100000 in
set_option maxHeartbeats 4000000 in
theorem sm_X12_memoryAt (l : Launch) (Δ : Wd) {i r : MI} {p1 : Int} {p2 : Int} (hp1 : sR p1) (hp2 : sR p2) {Q : Int → MI → Prop} (hi : okI i) (hw : Wf r) (h : wp_X12_memoryAt p1 p2 i r Q) : Met l yX12_memoryAt (Cond.code yX12_memoryAt cX12_memoryAt 3 (some .int) :: gW) (sRm 4 96) (sPc Δ [.ref (sA Δ 504), .int (sJ p1), .int (sJ p2)] i r) (sQi Δ (fun x i' r' => r = r' ∧ Q x i')) 0 0 (sFr Δ) := by
  refine Ct.i (ty := .int) (by decide) rfl (Nat.le_of_ble_eq_true rfl) (fun Γ Q0 hG fin => ?_)
  have hG : okG Γ Δ l (sRm 4 96) cX12_memoryAt "SchedularyModel" 3 := hG
  show V Γ Δ 542 false i r 0 0 Q0 0 [(0, .ref (sA Δ 504)), (1, .int (sJ p1)), (2, .int (sJ p2))] []
  refine V.aload_n (pc := 0) hG dX12_memoryAt_0 rfl 0 rfl ?_
  refine V.iconst (pc := 1) hG dX12_memoryAt_1 ?_
  refine V.putI (pc := 2) (ci := 14) (k := 0) (M := 49) (T := TX12) (o := 504) (kz := 0) hG a_504 a_504.n (by decide) hin_X12 rfl (by decide) (by decide) rfl kw_1692 rfl tyX12 tyX12_ok nmX12 rfl (ty := tyX12 0) (tyX12_ok 0 (by decide)) rfl rfl dX12_memoryAt_2 ?_
  refine V.aload_n (pc := 5) hG dX12_memoryAt_5 rfl 0 rfl ?_
  refine V.iload_n (pc := 6) hG dX12_memoryAt_6 rfl 1 rfl ?_
  refine V.iload_n (pc := 7) hG dX12_memoryAt_7 rfl 2 rfl ?_
  refine V.callSi (pc := 8) (As := [.int (sJ p1), .int (sJ p2)]) (stk := [.ref (sA Δ 504)]) hG (sm_X12_noMemory l Δ hp1 hp2 ((okI_st hi ((sR_l rfl)))) hw h) mY_X12_noMemory kw_1993 kw_1994 ⟨Nat.le_of_ble_eq_true rfl, Nat.le_of_ble_eq_true rfl, Nat.le_of_ble_eq_true rfl, Nat.le_of_ble_eq_true rfl⟩ rfl (Nat.le_of_ble_eq_true rfl) dX12_memoryAt_8 rfl (fun v1 i2 r3 hv4 hi5 hw6 hq7 => ?_)
  obtain ⟨e39, e40, h⟩ := hq7
  subst e39
  subst e40
  refine V.iconst (pc := 11) hG dX12_memoryAt_11 ?_
  refine V.callVi (pc := 12) (As := [.int (sJ v1), .int (sJ 1)]) (stk := []) hG (sm_X12_fails l Δ hv4 ((sR_l rfl)) ((okI_st hi ((sR_l rfl)))) hw h) mY_X12_fails kw_1853 kw_1855 kw_106 a_504 (by decide) (q := (RX12, TX12, 49)) rfl rfl ⟨Nat.le_of_ble_eq_true rfl, Nat.le_of_ble_eq_true rfl, Nat.le_of_ble_eq_true rfl, Nat.le_of_ble_eq_true rfl⟩ rfl (Nat.le_of_ble_eq_true rfl) dX12_memoryAt_12 rfl (fun v8 i9 r10 hv11 hi12 hw13 hq14 => ?_)
  obtain ⟨e38, h⟩ := hq14
  subst e38
  obtain ⟨t16, f17⟩ := h
  refine V.if_eq (pc := 15) (tgt := 20) hG hv11 dX12_memoryAt_15 (by decide) (fun c15 => ?_) (fun c15 => ?_)
  · have h := t16 c15
    clear t16 f17
    refine V.aload_n (pc := 20) hG dX12_memoryAt_20 rfl 0 rfl ?_
    refine V.callVv (pc := 21) (As := []) (stk := []) hG (sm_X12_perform l Δ  hi12 hw h) mY_X12_perform kw_2012 kw_2014 kw_129 a_504 (by decide) (q := (RX12, TX12, 49)) rfl rfl ⟨Nat.le_of_ble_eq_true rfl, Nat.le_of_ble_eq_true rfl, Nat.le_of_ble_eq_true rfl, Nat.le_of_ble_eq_true rfl⟩ rfl (Nat.le_of_ble_eq_true rfl) dX12_memoryAt_21 rfl (fun i19 r20 hi22 hw23 hq24 => ?_)
    obtain ⟨e36, h⟩ := hq24
    subst e36
    refine V.aload_n (pc := 24) hG dX12_memoryAt_24 rfl 0 rfl ?_
    refine V.getR (x := 513) (pc := 25) (ci := 14) (k := 17) (M := 49) (T := TX12) (o := 504) (kz := 17) hG a_504 a_504.n (by decide) hin_X12 rfl (by decide) (by decide) rfl kw_1709 rfl ((hw).1 (504, 17, 513) (by decide)) (by decide) dX12_memoryAt_25 ?_
    refine V.iload_n (pc := 28) hG dX12_memoryAt_28 rfl 1 rfl ?_
    refine V.iload_n (pc := 29) hG dX12_memoryAt_29 rfl 2 rfl ?_
    refine V.callSi (pc := 30) (As := [.int (sJ p1), .int (sJ p2)]) (stk := [.ref (sA Δ 513)]) hG (sm_X12_cell l Δ hp1 hp2 hi22 hw h) mY_X12_cell kw_1996 kw_1997 ⟨Nat.le_of_ble_eq_true rfl, Nat.le_of_ble_eq_true rfl, Nat.le_of_ble_eq_true rfl, Nat.le_of_ble_eq_true rfl⟩ rfl (Nat.le_of_ble_eq_true rfl) dX12_memoryAt_30 rfl (fun v25 i26 r27 hv28 hi29 hw30 hq31 => ?_)
    obtain ⟨e33, e34, h⟩ := hq31
    subst e33
    subst e34
    obtain ⟨g32, h⟩ := h
    refine V.iald (pc := 33) (z := 32) (o := 513) hG a_513 a_513.n hv28 g32 dX12_memoryAt_33 ?_
    exact fin dX12_memoryAt_34 ((hi22 _ _)) rfl hi22 hw ⟨rfl, h⟩
  · have h := f17 c15
    clear t16 f17
    refine V.iconst (pc := 18) hG dX12_memoryAt_18 ?_
    exact fin dX12_memoryAt_19 ((sR_l rfl)) rfl hi12 hw ⟨rfl, h⟩
set_option maxRecDepth 100000 in
set_option maxHeartbeats 4000000 in
theorem sm_X12_register (l : Launch) (Δ : Wd) {i r : MI} {p1 : Int} (hp1 : sR p1) {Q : Int → MI → Prop} (hi : okI i) (hw : Wf r) (h : wp_X12_register p1 i r Q) : Met l yX12_register (Cond.code yX12_register cX12_register 2 (some .int) :: gW) (sRm 4 96) (sPc Δ [.ref (sA Δ 504), .int (sJ p1)] i r) (sQi Δ (fun x i' r' => r = r' ∧ Q x i')) 0 0 (sFr Δ) := by
  refine Ct.i (ty := .int) (by decide) rfl (Nat.le_of_ble_eq_true rfl) (fun Γ Q0 hG fin => ?_)
  have hG : okG Γ Δ l (sRm 4 96) cX12_register "SchedularyModel" 2 := hG
  show V Γ Δ 542 false i r 0 0 Q0 0 [(0, .ref (sA Δ 504)), (1, .int (sJ p1))] []
  have jn22 : ∀ (k1j22 : Int) (ij22 : MI), sR k1j22 → okI ij22 → s22_X12_register p1 k1j22 ij22 r Q → V Γ Δ 542 false ij22 r 0 0 Q0 22 [(0, .ref (sA Δ 504)), (1, .int (sJ p1))] [.int (sJ k1j22), .ref (sA Δ 504)] := by
    intro k1j22 ij22 hk1j22 hij22 h
    refine V.iconst (pc := 22) hG dX12_register_22 ?_
    refine V.callVi (pc := 23) (As := [.int (sJ k1j22), .int (sJ 1)]) (stk := []) hG (sm_X12_fails l Δ hk1j22 ((sR_l rfl)) hij22 hw h) mY_X12_fails kw_1853 kw_1855 kw_106 a_504 (by decide) (q := (RX12, TX12, 49)) rfl rfl ⟨Nat.le_of_ble_eq_true rfl, Nat.le_of_ble_eq_true rfl, Nat.le_of_ble_eq_true rfl, Nat.le_of_ble_eq_true rfl⟩ rfl (Nat.le_of_ble_eq_true rfl) dX12_register_23 rfl (fun v23 i24 r25 hv26 hi27 hw28 hq29 => ?_)
    obtain ⟨e44, h⟩ := hq29
    subst e44
    obtain ⟨t31, f32⟩ := h
    refine V.if_eq (pc := 26) (tgt := 31) hG hv26 dX12_register_26 (by decide) (fun c30 => ?_) (fun c30 => ?_)
    · have h := t31 c30
      clear t31 f32
      refine V.aload_n (pc := 31) hG dX12_register_31 rfl 0 rfl ?_
      refine V.callVv (pc := 32) (As := []) (stk := []) hG (sm_X12_perform l Δ  hi27 hw h) mY_X12_perform kw_2012 kw_2014 kw_129 a_504 (by decide) (q := (RX12, TX12, 49)) rfl rfl ⟨Nat.le_of_ble_eq_true rfl, Nat.le_of_ble_eq_true rfl, Nat.le_of_ble_eq_true rfl, Nat.le_of_ble_eq_true rfl⟩ rfl (Nat.le_of_ble_eq_true rfl) dX12_register_32 rfl (fun i34 r35 hi37 hw38 hq39 => ?_)
      obtain ⟨e42, h⟩ := hq39
      subst e42
      refine V.aload_n (pc := 35) hG dX12_register_35 rfl 0 rfl ?_
      refine V.getR (x := 512) (pc := 36) (ci := 14) (k := 16) (M := 49) (T := TX12) (o := 504) (kz := 16) hG a_504 a_504.n (by decide) hin_X12 rfl (by decide) (by decide) rfl kw_1708 rfl ((hw).1 (504, 16, 512) (by decide)) (by decide) dX12_register_36 ?_
      refine V.iload_n (pc := 39) hG dX12_register_39 rfl 1 rfl ?_
      refine V.bipush (pc := 40) hG dX12_register_40 (by decide) ?_
      refine V.isub (pc := 42) hG dX12_register_42 ?_
      obtain ⟨g40, h⟩ := h
      refine V.iald (pc := 43) (z := 8) (o := 512) hG a_512 a_512.n ((sR_wr _)) g40 dX12_register_43 ?_
      exact fin dX12_register_44 ((hi37 _ _)) rfl hi37 hw ⟨rfl, h⟩
    · have h := f32 c30
      clear t31 f32
      refine V.iconst (pc := 29) hG dX12_register_29 ?_
      exact fin dX12_register_30 ((sR_l rfl)) rfl hi27 hw ⟨rfl, h⟩
  refine V.aload_n (pc := 0) hG dX12_register_0 rfl 0 rfl ?_
  refine V.iconst (pc := 1) hG dX12_register_1 ?_
  refine V.putI (pc := 2) (ci := 14) (k := 0) (M := 49) (T := TX12) (o := 504) (kz := 0) hG a_504 a_504.n (by decide) hin_X12 rfl (by decide) (by decide) rfl kw_1692 rfl tyX12 tyX12_ok nmX12 rfl (ty := tyX12 0) (tyX12_ok 0 (by decide)) rfl rfl dX12_register_2 ?_
  refine V.aload_n (pc := 5) hG dX12_register_5 rfl 0 rfl ?_
  refine V.iload_n (pc := 6) hG dX12_register_6 rfl 1 rfl ?_
  refine V.bipush (pc := 7) hG dX12_register_7 (by decide) ?_
  refine V.bipush (pc := 9) hG dX12_register_9 (by decide) ?_
  refine V.callSi (pc := 11) (As := [.int (sJ p1), .int (sJ 97), .int (sJ 104)]) (stk := [.ref (sA Δ 504)]) hG (sm_X12_in l Δ hp1 ((sR_l rfl)) ((sR_l rfl)) ((okI_st hi ((sR_l rfl)))) hw h) mY_X12_in kw_1848 kw_1849 ⟨Nat.le_of_ble_eq_true rfl, Nat.le_of_ble_eq_true rfl, Nat.le_of_ble_eq_true rfl, Nat.le_of_ble_eq_true rfl⟩ rfl (Nat.le_of_ble_eq_true rfl) dX12_register_11 rfl (fun v45 i46 r47 hv48 hi49 hw50 hq51 => ?_)
  obtain ⟨e55, e56, h⟩ := hq51
  subst e55
  subst e56
  obtain ⟨f54, t53⟩ := h
  refine V.if_ne (pc := 14) (tgt := 21) hG hv48 dX12_register_14 (by decide) (fun c52 => ?_) (fun c52 => ?_)
  · have h := t53 c52
    clear t53 f54
    refine V.iconst (pc := 21) hG dX12_register_21 ?_
    exact jn22 0 (st i 504 0 0) ((sR_l rfl)) ((okI_st hi ((sR_l rfl)))) h
  · have h := f54 c52
    clear t53 f54
    refine V.iconst (pc := 17) hG dX12_register_17 ?_
    refine V.goto (pc := 18) (tgt := 22) hG dX12_register_18 (by decide) ?_
    exact jn22 1 (st i 504 0 0) ((sR_l rfl)) ((okI_st hi ((sR_l rfl)))) h
set_option maxRecDepth 100000 in
set_option maxHeartbeats 4000000 in
theorem sm_X12_taken_ (l : Launch) (Δ : Wd) {i r : MI}   {Q : Int → MI → Prop} (hi : okI i) (hw : Wf r) (h : wp_X12_taken_  i r Q) : Met l yX12_taken_ (Cond.code yX12_taken_ cX12_taken_ 1 (some .int) :: gW) (sRm 4 96) (sPc Δ [.ref (sA Δ 504)] i r) (sQi Δ (fun x i' r' => r = r' ∧ Q x i')) 0 0 (sFr Δ) := by
  refine Ct.i (ty := .int) (by decide) rfl (Nat.le_of_ble_eq_true rfl) (fun Γ Q0 hG fin => ?_)
  have hG : okG Γ Δ l (sRm 4 96) cX12_taken_ "SchedularyModel" 1 := hG
  show V Γ Δ 542 false i r 0 0 Q0 0 [(0, .ref (sA Δ 504))] []
  refine V.aload_n (pc := 0) hG dX12_taken__0 rfl 0 rfl ?_
  refine V.iconst (pc := 1) hG dX12_taken__1 ?_
  refine V.putI (pc := 2) (ci := 14) (k := 0) (M := 49) (T := TX12) (o := 504) (kz := 0) hG a_504 a_504.n (by decide) hin_X12 rfl (by decide) (by decide) rfl kw_1692 rfl tyX12 tyX12_ok nmX12 rfl (ty := tyX12 0) (tyX12_ok 0 (by decide)) rfl rfl dX12_taken__2 ?_
  refine V.aload_n (pc := 5) hG dX12_taken__5 rfl 0 rfl ?_
  refine V.callVv (pc := 6) (As := []) (stk := []) hG (sm_X12_perform l Δ  ((okI_st hi ((sR_l rfl)))) hw h) mY_X12_perform kw_2012 kw_2014 kw_129 a_504 (by decide) (q := (RX12, TX12, 49)) rfl rfl ⟨Nat.le_of_ble_eq_true rfl, Nat.le_of_ble_eq_true rfl, Nat.le_of_ble_eq_true rfl, Nat.le_of_ble_eq_true rfl⟩ rfl (Nat.le_of_ble_eq_true rfl) dX12_taken__6 rfl (fun i2 r3 hi5 hw6 hq7 => ?_)
  obtain ⟨e9, h⟩ := hq7
  subst e9
  refine V.aload_n (pc := 9) hG dX12_taken__9 rfl 0 rfl ?_
  refine V.getI (pc := 10) (ci := 14) (k := 20) (M := 49) (T := TX12) (o := 504) (kz := 20) hG a_504 a_504.n (by decide) hin_X12 rfl (by decide) (by decide) rfl kw_1712 rfl dX12_taken__10 ?_
  refine V.aload_n (pc := 13) hG dX12_taken__13 rfl 0 rfl ?_
  refine V.getI (pc := 14) (ci := 14) (k := 11) (M := 49) (T := TX12) (o := 504) (kz := 11) hG a_504 a_504.n (by decide) hin_X12 rfl (by decide) (by decide) rfl kw_1703 rfl dX12_taken__14 ?_
  refine V.mmin (pc := 17) hG ((hi5 _ _)) ((hi5 _ _)) kw_2059 kw_683 kw_173 kw_min ⟨Nat.le_of_ble_eq_true rfl, Nat.le_of_ble_eq_true rfl, Nat.le_of_ble_eq_true rfl, Nat.le_of_ble_eq_true rfl⟩ dX12_taken__17 ?_
  exact fin dX12_taken__20 ((sR_min ((hi5 _ _)) ((hi5 _ _)))) rfl hi5 hw ⟨rfl, h⟩
set_option maxRecDepth 100000 in
set_option maxHeartbeats 4000000 in
theorem sm_X12_nodes (l : Launch) (Δ : Wd) {i r : MI}   {Q : Int → MI → Prop} (hi : okI i) (hw : Wf r) (h : wp_X12_nodes  i r Q) : Met l yX12_nodes (Cond.code yX12_nodes cX12_nodes 1 (some .int) :: gW) (sRm 4 94) (sPc Δ [.ref (sA Δ 504)] i r) (sQi Δ (fun x i' r' => r = r' ∧ Q x i')) 0 0 (sFr Δ) := by
  refine Ct.i (ty := .int) (by decide) rfl (Nat.le_of_ble_eq_true rfl) (fun Γ Q0 hG fin => ?_)
  have hG : okG Γ Δ l (sRm 4 94) cX12_nodes "SchedularyModel" 1 := hG
  show V Γ Δ 542 false i r 0 0 Q0 0 [(0, .ref (sA Δ 504))] []
  refine V.aload_n (pc := 0) hG dX12_nodes_0 rfl 0 rfl ?_
  refine V.iconst (pc := 1) hG dX12_nodes_1 ?_
  refine V.putI (pc := 2) (ci := 14) (k := 0) (M := 49) (T := TX12) (o := 504) (kz := 0) hG a_504 a_504.n (by decide) hin_X12 rfl (by decide) (by decide) rfl kw_1692 rfl tyX12 tyX12_ok nmX12 rfl (ty := tyX12 0) (tyX12_ok 0 (by decide)) rfl rfl dX12_nodes_2 ?_
  refine V.aload_n (pc := 5) hG dX12_nodes_5 rfl 0 rfl ?_
  refine V.callVv (pc := 6) (As := []) (stk := []) hG (sm_X12_build l Δ  ((okI_st hi ((sR_l rfl)))) hw h) mY_X12_build kw_1910 kw_1912 kw_116 a_504 (by decide) (q := (RX12, TX12, 49)) rfl rfl ⟨Nat.le_of_ble_eq_true rfl, Nat.le_of_ble_eq_true rfl, Nat.le_of_ble_eq_true rfl, Nat.le_of_ble_eq_true rfl⟩ rfl (Nat.le_of_ble_eq_true rfl) dX12_nodes_6 rfl (fun i2 r3 hi5 hw6 hq7 => ?_)
  obtain ⟨e9, h⟩ := hq7
  subst e9
  refine V.aload_n (pc := 9) hG dX12_nodes_9 rfl 0 rfl ?_
  refine V.getI (pc := 10) (ci := 14) (k := 21) (M := 49) (T := TX12) (o := 504) (kz := 21) hG a_504 a_504.n (by decide) hin_X12 rfl (by decide) (by decide) rfl kw_1713 rfl dX12_nodes_10 ?_
  exact fin dX12_nodes_13 ((hi5 _ _)) rfl hi5 hw ⟨rfl, h⟩
