set_option maxRecDepth 100000 in
set_option maxHeartbeats 4000000 in
theorem sm_X2_isKept (l : Launch) (Δ : Wd) {i r : MI} {o2 : Int} {p3 : Int} {p4 : Int} (ho2 : isA o2 (20, 96)) (hp3 : sR p3) (hp4 : sR p4) {Q : Int → Prop} (hi : okI i) (hw : Wf r) (h : wp_X2_isKept o2 p3 p4 i r Q) : Met l yX2_isKept (Cond.code yX2_isKept cX2_isKept 9 (some .boolean) :: gW) (sRm 0 0) (sPc Δ [.ref (sA Δ 168), .ref (sA Δ 67), .ref (sA Δ o2), .int (sJ p3), .int (sJ p4)] i r) (sQi Δ (fun x i' r' => i = i' ∧ r = r' ∧ Q x)) 0 0 (sFr Δ) := by
  refine Ct.i (ty := .boolean) (by decide) rfl (Nat.le_of_ble_eq_true rfl) (fun Γ Q0 hG fin => ?_)
  have hG : okG Γ Δ l (sRm 0 0) cX2_isKept "Schedulary$Graph" 9 := hG
  show V Γ Δ 504 false i r 0 0 Q0 0 [(0, .ref (sA Δ 168)), (1, .ref (sA Δ 67)), (2, .ref (sA Δ o2)), (3, .int (sJ p3)), (4, .int (sJ p4))] []
  refine V.iconst (pc := 0) hG dX2_isKept_0 ?_
  refine V.istore (pc := 1) (lv' := [(5, .int (sJ 0)), (0, .ref (sA Δ 168)), (1, .ref (sA Δ 67)), (2, .ref (sA Δ o2)), (3, .int (sJ p3)), (4, .int (sJ p4))]) hG dX2_isKept_1 (by decide) rfl ?_
  obtain ⟨n41, h⟩ := h
  have lp3 : ∀ (m3 : Nat) (x5_3 : Int), sR x5_3 → LoopP (b3_X2_isKept o2 p3 p4 i r Q) m3 (x5_3) → V Γ Δ 504 false i r 0 0 Q0 3 [(0, .ref (sA Δ 168)), (1, .ref (sA Δ 67)), (2, .ref (sA Δ o2)), (3, .int (sJ p3)), (4, .int (sJ p4)), (5, .int (sJ x5_3))] [] := by
    intro m3
    induction m3 with
    | zero => intro x5_3 hx5_3 h; exact h.elim
    | succ m3 ih3 =>
      intro x5_3 hx5_3 h
      have h := LoopP_succ h
      refine V.iload (pc := 3) hG dX2_isKept_3 5 rfl ?_
      refine V.aload_n (pc := 5) hG dX2_isKept_5 rfl 1 rfl ?_
      refine V.getIN (pc := 6) (ci := 2) (k := 4) (M := 5) (T := TX0) (o := 67) (kz := 4) hG a_67 a_67.n (by decide) hin_X0 rfl (by decide) (by decide) rfl kw_367 rfl dX2_isKept_6 ?_
      obtain ⟨t43, f44⟩ := h
      refine V.icmp_ge (pc := 9) (tgt := 99) hG hx5_3 ((hi _ _)) dX2_isKept_9 (by decide) (fun c42 => ?_) (fun c42 => ?_)
      · have h := t43 c42
        clear t43 f44
        refine V.iconst (pc := 99) hG dX2_isKept_99 ?_
        exact fin dX2_isKept_100 ((sR_l rfl)) (nar_z (by decide)) hi hw ⟨rfl, rfl, h⟩
      · have h := f44 c42
        clear t43 f44
        refine V.iconst (pc := 12) hG dX2_isKept_12 ?_
        refine V.istore (pc := 13) (lv' := [(6, .int (sJ 0)), (0, .ref (sA Δ 168)), (1, .ref (sA Δ 67)), (2, .ref (sA Δ o2)), (3, .int (sJ p3)), (4, .int (sJ p4)), (5, .int (sJ x5_3))]) hG dX2_isKept_13 (by decide) rfl ?_
        obtain ⟨n45, h⟩ := h
        have lp15 : ∀ (m15 : Nat) (x6_15 : Int), sR x6_15 → LoopP (b15_X2_isKept o2 p3 p4 x5_3 i r Q (LoopP (b3_X2_isKept o2 p3 p4 i r Q) m3)) m15 (x6_15) → V Γ Δ 504 false i r 0 0 Q0 15 [(0, .ref (sA Δ 168)), (1, .ref (sA Δ 67)), (2, .ref (sA Δ o2)), (3, .int (sJ p3)), (4, .int (sJ p4)), (5, .int (sJ x5_3)), (6, .int (sJ x6_15))] [] := by
          intro m15
          induction m15 with
          | zero => intro x6_15 hx6_15 h; exact h.elim
          | succ m15 ih15 =>
            intro x6_15 hx6_15 h
            have h := LoopP_succ h
            have jn87 : ∀ (x6j87 : Int), sR x6j87 → s87_X2_isKept o2 p3 p4 x5_3 x6j87 i r Q (LoopP (b3_X2_isKept o2 p3 p4 i r Q) m3) (LoopP (b15_X2_isKept o2 p3 p4 x5_3 i r Q (LoopP (b3_X2_isKept o2 p3 p4 i r Q) m3)) m15) → V Γ Δ 504 false i r 0 0 Q0 87 [(0, .ref (sA Δ 168)), (1, .ref (sA Δ 67)), (2, .ref (sA Δ o2)), (3, .int (sJ p3)), (4, .int (sJ p4)), (5, .int (sJ x5_3)), (6, .int (sJ x6j87))] [] := by
              intro x6j87 hx6j87 h
              refine V.iinc (pc := 87) (lv' := [(6, .int (sJ (wr (x6j87 + 1)))), (0, .ref (sA Δ 168)), (1, .ref (sA Δ 67)), (2, .ref (sA Δ o2)), (3, .int (sJ p3)), (4, .int (sJ p4)), (5, .int (sJ x5_3))]) hG dX2_isKept_87 6 rfl (by decide) rfl ?_
              refine V.goto (pc := 90) (tgt := 15) hG dX2_isKept_90 (by decide) ?_
              refine V.pick [1, 2, 3, 4, 5, 6, 0] rfl ?_
              exact ih15 (wr (x6j87 + 1)) ((sR_wr _)) h
            refine V.iload (pc := 15) hG dX2_isKept_15 6 rfl ?_
            refine V.aload_n (pc := 17) hG dX2_isKept_17 rfl 0 rfl ?_
            refine V.getR (x := 460) (pc := 18) (ci := 4) (k := 3) (M := 5) (T := TX2) (o := 168) (kz := 3) hG a_168 a_168.n (by decide) hin_X2 rfl (by decide) (by decide) rfl kw_397 rfl ((hw).1 (168, 3, 460) (by decide)) (by decide) dX2_isKept_18 ?_
            refine V.iload (pc := 21) hG dX2_isKept_21 5 rfl ?_
            obtain ⟨g46, h⟩ := h
            refine V.iald (pc := 23) (z := 96) (o := 460) hG a_460 a_460.n hx5_3 g46 dX2_isKept_23 ?_
            obtain ⟨t48, f49⟩ := h
            refine V.icmp_ge (pc := 24) (tgt := 93) hG hx6_15 ((hi _ _)) dX2_isKept_24 (by decide) (fun c47 => ?_) (fun c47 => ?_)
            · have h := t48 c47
              clear t48 f49
              refine V.iinc (pc := 93) (lv' := [(5, .int (sJ (wr (x5_3 + 1)))), (0, .ref (sA Δ 168)), (1, .ref (sA Δ 67)), (2, .ref (sA Δ o2)), (3, .int (sJ p3)), (4, .int (sJ p4)), (6, .int (sJ x6_15))]) hG dX2_isKept_93 5 rfl (by decide) rfl ?_
              refine V.goto (pc := 96) (tgt := 3) hG dX2_isKept_96 (by decide) ?_
              refine V.pick [1, 2, 3, 4, 5, 0] rfl ?_
              exact ih3 (wr (x5_3 + 1)) ((sR_wr _)) h
            · have h := f49 c47
              clear t48 f49
              refine V.aload_n (pc := 27) hG dX2_isKept_27 rfl 0 rfl ?_
              refine V.getR (x := 266) (pc := 28) (ci := 4) (k := 1) (M := 5) (T := TX2) (o := 168) (kz := 1) hG a_168 a_168.n (by decide) hin_X2 rfl (by decide) (by decide) rfl kw_390 rfl ((hw).1 (168, 1, 266) (by decide)) (by decide) dX2_isKept_28 ?_
              refine V.iload (pc := 31) hG dX2_isKept_31 5 rfl ?_
              obtain ⟨g50, h⟩ := h
              refine V.aald (pc := 33) 7 (z := 96) (o := 266) (x := x5_3) (y := 267 + x5_3) hG a_266 a_266.n (by decide) hx5_3 g50 (hw.2.1 (266, 96, 267) (by decide) _ g50.1 g50.2) (by omega) dX2_isKept_33 ?_
              refine V.iload (pc := 34) hG dX2_isKept_34 6 rfl ?_
              obtain ⟨g51, h⟩ := h
              refine V.iald (pc := 36) (z := 100) (o := 267 + x5_3) hG (row_266 g50) ((row_266 g50)).n hx6_15 g51 dX2_isKept_36 ?_
              refine V.istore (pc := 37) (lv' := [(7, .int (sJ (i (267 + x5_3) x6_15))), (0, .ref (sA Δ 168)), (1, .ref (sA Δ 67)), (2, .ref (sA Δ o2)), (3, .int (sJ p3)), (4, .int (sJ p4)), (5, .int (sJ x5_3)), (6, .int (sJ x6_15))]) hG dX2_isKept_37 (by decide) rfl ?_
              refine V.aload_n (pc := 39) hG dX2_isKept_39 rfl 3 rfl ?_
              refine V.aload_n (pc := 40) hG dX2_isKept_40 rfl 1 rfl ?_
              refine V.getR (x := 169) (pc := 41) (ci := 4) (k := 0) (M := 5) (T := TX2) (o := 168) (kz := 0) hG a_168 a_168.n (by decide) hin_X2 rfl (by decide) (by decide) rfl kw_387 rfl ((hw).1 (168, 0, 169) (by decide)) (by decide) dX2_isKept_41 ?_
              refine V.iload (pc := 44) hG dX2_isKept_44 6 rfl ?_
              obtain ⟨g52, h⟩ := h
              refine V.aald (pc := 46) 7 (z := 96) (o := 169) (x := x5_3) (y := 170 + x5_3) hG a_169 a_169.n (by decide) hx5_3 g52 (hw.2.1 (169, 96, 170) (by decide) _ g52.1 g52.2) (by omega) dX2_isKept_46 ?_
              refine V.iload (pc := 47) hG dX2_isKept_47 7 rfl ?_
              obtain ⟨g53, h⟩ := h
              refine V.iald (pc := 49) (z := 100) (o := 170 + x5_3) hG (row_169 g52) ((row_169 g52)).n hx6_15 g53 dX2_isKept_49 ?_
              obtain ⟨g54, h⟩ := h
              refine V.iald (pc := 50) (z := 96) (o := o2) hG ho2 ho2.n ((hi _ _)) g54 dX2_isKept_50 ?_
              refine V.iload_n (pc := 51) hG dX2_isKept_51 rfl 4 rfl ?_
              refine V.iload (pc := 52) hG dX2_isKept_52 0 rfl ?_
              refine V.imul (pc := 54) hG dX2_isKept_54 ?_
              refine V.iadd (pc := 55) hG dX2_isKept_55 ?_
              refine V.aload_n (pc := 56) hG dX2_isKept_56 rfl 3 rfl ?_
              refine V.iload (pc := 57) hG dX2_isKept_57 6 rfl ?_
              obtain ⟨g55, h⟩ := h
              refine V.iald (pc := 59) (z := 96) (o := o2) hG ho2 ho2.n hx5_3 g55 dX2_isKept_59 ?_
              refine V.isub (pc := 60) hG dX2_isKept_60 ?_
              refine V.istore (pc := 61) (lv' := [(8, .int (sJ (wr (wr (i o2 (i (170 + x5_3) x6_15) + wr (p3 * i (267 + x5_3) x6_15)) - i o2 x5_3)))), (7, .int (sJ (i (267 + x5_3) x6_15))), (0, .ref (sA Δ 168)), (1, .ref (sA Δ 67)), (2, .ref (sA Δ o2)), (3, .int (sJ p3)), (4, .int (sJ p4)), (5, .int (sJ x5_3)), (6, .int (sJ x6_15))]) hG dX2_isKept_61 (by decide) rfl ?_
              refine V.iload (pc := 63) hG dX2_isKept_63 1 rfl ?_
              refine V.iload (pc := 65) hG dX2_isKept_65 6 rfl ?_
              obtain ⟨t57, f58⟩ := h
              refine V.icmp_gt (pc := 67) (tgt := 87) hG ((hi _ _)) hp4 dX2_isKept_67 (by decide) (fun c56 => ?_) (fun c56 => ?_)
              · have h := t57 c56
                clear t57 f58
                refine V.pick [2, 3, 4, 5, 6, 7, 8] rfl ?_
                exact jn87 x6_15 hx6_15 h
              · have h := f58 c56
                clear t57 f58
                refine V.iload (pc := 70) hG dX2_isKept_70 0 rfl ?_
                refine V.aload_n (pc := 72) hG dX2_isKept_72 rfl 2 rfl ?_
                refine V.getR (x := 363) (pc := 73) (ci := 4) (k := 2) (M := 5) (T := TX2) (o := 168) (kz := 2) hG a_168 a_168.n (by decide) hin_X2 rfl (by decide) (by decide) rfl kw_393 rfl ((hw).1 (168, 2, 363) (by decide)) (by decide) dX2_isKept_73 ?_
                refine V.iload (pc := 76) hG dX2_isKept_76 7 rfl ?_
                obtain ⟨g59, h⟩ := h
                refine V.aald (pc := 78) 7 (z := 96) (o := 363) (x := x5_3) (y := 364 + x5_3) hG a_363 a_363.n (by decide) hx5_3 g59 (hw.2.1 (363, 96, 364) (by decide) _ g59.1 g59.2) (by omega) dX2_isKept_78 ?_
                refine V.iload (pc := 79) hG dX2_isKept_79 8 rfl ?_
                obtain ⟨g60, h⟩ := h
                refine V.iald (pc := 81) (z := 100) (o := 364 + x5_3) hG (row_363 g59) ((row_363 g59)).n hx6_15 g60 dX2_isKept_81 ?_
                obtain ⟨t62, f63⟩ := h
                refine V.icmp_ge (pc := 82) (tgt := 87) hG ((sR_wr _)) ((hi _ _)) dX2_isKept_82 (by decide) (fun c61 => ?_) (fun c61 => ?_)
                · have h := t62 c61
                  clear t62 f63
                  refine V.pick [2, 3, 4, 5, 6, 7, 8] rfl ?_
                  exact jn87 x6_15 hx6_15 h
                · have h := f63 c61
                  clear t62 f63
                  refine V.iconst (pc := 85) hG dX2_isKept_85 ?_
                  exact fin dX2_isKept_86 ((sR_l rfl)) (nar_z (by decide)) hi hw ⟨rfl, rfl, h⟩
        refine V.pick [1, 2, 3, 4, 5, 6, 0] rfl ?_
        exact lp15 n45 0 ((sR_l rfl)) h
  refine V.pick [1, 2, 3, 4, 5, 0] rfl ?_
  exact lp3 n41 0 ((sR_l rfl)) h
set_option maxRecDepth 100000 in
set_option maxHeartbeats 4000000 in
theorem sm_X4_isKept (l : Launch) (Δ : Wd) {i r : MI}   {Q : Int → Prop} (hi : okI i) (hw : Wf r) (h : wp_X4_isKept  i r Q) : Met l yX4_isKept (Cond.code yX4_isKept cX4_isKept 3 (some .boolean) :: gW) (sRm 3 69) (sPc Δ [.ref (sA Δ 469), .ref (sA Δ 67), .ref (sA Δ 168)] i r) (sQi Δ (fun x i' r' => i = i' ∧ r = r' ∧ Q x)) 0 0 (sFr Δ) := by
  refine Ct.i (ty := .boolean) (by decide) rfl (Nat.le_of_ble_eq_true rfl) (fun Γ Q0 hG fin => ?_)
  have hG : okG Γ Δ l (sRm 3 69) cX4_isKept "Schedulary$Pace" 3 := hG
  show V Γ Δ 504 false i r 0 0 Q0 0 [(0, .ref (sA Δ 469)), (1, .ref (sA Δ 67)), (2, .ref (sA Δ 168))] []
  have jn38 : ∀ (k0j38 : Int), sR k0j38 → s38_X4_isKept k0j38 i r Q → V Γ Δ 504 false i r 0 0 Q0 38 [] [.int (sJ k0j38)] := by
    intro k0j38 hk0j38 h
    obtain ⟨g2, h⟩ := h
    exact fin dX4_isKept_38 hk0j38 (nar_z g2) hi hw ⟨rfl, rfl, h⟩
  have jn37 : s37_X4_isKept i r Q → V Γ Δ 504 false i r 0 0 Q0 37 [] [] := by
    intro h
    refine V.iconst (pc := 37) hG dX4_isKept_37 ?_
    exact jn38 0 ((sR_l rfl)) h
  refine V.aload_n (pc := 0) hG dX4_isKept_0 rfl 2 rfl ?_
  refine V.aload_n (pc := 1) hG dX4_isKept_1 rfl 1 rfl ?_
  refine V.aload_n (pc := 2) hG dX4_isKept_2 rfl 0 rfl ?_
  refine V.getR (x := 470) (pc := 3) (ci := 6) (k := 0) (M := 6) (T := TX4) (o := 469) (kz := 0) hG a_469 a_469.n (by decide) hin_X4 rfl (by decide) (by decide) rfl kw_451 rfl ((hw).1 (469, 0, 470) (by decide)) (by decide) dX4_isKept_3 ?_
  refine V.aload_n (pc := 6) hG dX4_isKept_6 rfl 0 rfl ?_
  refine V.getI (pc := 7) (ci := 6) (k := 5) (M := 6) (T := TX4) (o := 469) (kz := 5) hG a_469 a_469.n (by decide) hin_X4 rfl (by decide) (by decide) rfl kw_460 rfl dX4_isKept_7 ?_
  refine V.bipush (pc := 10) hG dX4_isKept_10 (by decide) ?_
  refine V.callVNi (pc := 12) (As := [.ref (sA Δ 67), .ref (sA Δ 470), .int (sJ (i 469 5)), .int (sJ 21)]) (stk := []) hG (sm_X2_isKept l Δ a_470 ((hi _ _)) ((sR_l rfl)) hi hw h) mY_X2_isKept kw_892 kw_873 kw_67 a_168 (by decide) (q := (RX2, TX2, 5)) rfl rfl ⟨Nat.le_of_ble_eq_true rfl, Nat.le_of_ble_eq_true rfl, Nat.le_of_ble_eq_true rfl, Nat.le_of_ble_eq_true rfl⟩ rfl (Nat.le_of_ble_eq_true rfl) dX4_isKept_12 rfl (fun v3 i4 r5 hv6 hi7 hw8 hq9 => ?_)
  obtain ⟨e25, e26, h⟩ := hq9
  subst e25
  subst e26
  obtain ⟨t11, f12⟩ := h
  refine V.if_eq (pc := 15) (tgt := 37) hG hv6 dX4_isKept_15 (by decide) (fun c10 => ?_) (fun c10 => ?_)
  · have h := t11 c10
    clear t11 f12
    refine V.pick [] rfl ?_
    exact jn37 h
  · have h := f12 c10
    clear t11 f12
    refine V.aload_n (pc := 18) hG dX4_isKept_18 rfl 1 rfl ?_
    refine V.aload_n (pc := 19) hG dX4_isKept_19 rfl 0 rfl ?_
    refine V.getR (x := 470) (pc := 20) (ci := 6) (k := 0) (M := 6) (T := TX4) (o := 469) (kz := 0) hG a_469 a_469.n (by decide) hin_X4 rfl (by decide) (by decide) rfl kw_451 rfl ((hw).1 (469, 0, 470) (by decide)) (by decide) dX4_isKept_20 ?_
    refine V.aload_n (pc := 23) hG dX4_isKept_23 rfl 0 rfl ?_
    refine V.getI (pc := 24) (ci := 6) (k := 5) (M := 6) (T := TX4) (o := 469) (kz := 5) hG a_469 a_469.n (by decide) hin_X4 rfl (by decide) (by decide) rfl kw_460 rfl dX4_isKept_24 ?_
    refine V.callVNi (pc := 27) (As := [.ref (sA Δ 470), .int (sJ (i 469 5))]) (stk := []) hG (sm_X0_areUnitsKept l Δ a_470 ((hi _ _)) hi hw h) mY_X0_areUnitsKept kw_893 kw_877 kw_68 a_67 (by decide) (q := (RX0, TX0, 5)) rfl rfl ⟨Nat.le_of_ble_eq_true rfl, Nat.le_of_ble_eq_true rfl, Nat.le_of_ble_eq_true rfl, Nat.le_of_ble_eq_true rfl⟩ rfl (Nat.le_of_ble_eq_true rfl) dX4_isKept_27 rfl (fun v13 i14 r15 hv16 hi17 hw18 hq19 => ?_)
    obtain ⟨e23, e24, h⟩ := hq19
    subst e23
    subst e24
    obtain ⟨t21, f22⟩ := h
    refine V.if_eq (pc := 30) (tgt := 37) hG hv16 dX4_isKept_30 (by decide) (fun c20 => ?_) (fun c20 => ?_)
    · have h := t21 c20
      clear t21 f22
      refine V.pick [] rfl ?_
      exact jn37 h
    · have h := f22 c20
      clear t21 f22
      refine V.iconst (pc := 33) hG dX4_isKept_33 ?_
      refine V.goto (pc := 34) (tgt := 38) hG dX4_isKept_34 (by decide) ?_
      refine V.pick [] rfl ?_
      exact jn38 1 ((sR_l rfl)) h
set_option maxRecDepth 100000 in
set_option maxHeartbeats 4000000 in
theorem sm_X9_areInOrder (l : Launch) (Δ : Wd) {i r : MI}   {Q : Int → Prop} (hi : okI i) (hw : Wf r) (h : wp_X9_areInOrder  i r Q) : Met l yX9_areInOrder (Cond.code yX9_areInOrder cX9_areInOrder 3 (some .boolean) :: gW) (sRm 0 0) (sPc Δ [.ref (sA Δ 461), .ref (sA Δ 67)] i r) (sQi Δ (fun x i' r' => i = i' ∧ r = r' ∧ Q x)) 0 0 (sFr Δ) := by
  refine Ct.i (ty := .boolean) (by decide) rfl (Nat.le_of_ble_eq_true rfl) (fun Γ Q0 hG fin => ?_)
  have hG : okG Γ Δ l (sRm 0 0) cX9_areInOrder "Schedulary$Steps" 3 := hG
  show V Γ Δ 504 false i r 0 0 Q0 0 [(0, .ref (sA Δ 461)), (1, .ref (sA Δ 67))] []
  refine V.iconst (pc := 0) hG dX9_areInOrder_0 ?_
  refine V.istore_n (pc := 1) (lv' := [(2, .int (sJ 0)), (0, .ref (sA Δ 461)), (1, .ref (sA Δ 67))]) hG dX9_areInOrder_1 rfl (by decide) rfl ?_
  obtain ⟨n9, h⟩ := h
  have lp2 : ∀ (m2 : Nat) (x2_2 : Int), sR x2_2 → LoopP (b2_X9_areInOrder i r Q) m2 (x2_2) → V Γ Δ 504 false i r 0 0 Q0 2 [(0, .ref (sA Δ 461)), (1, .ref (sA Δ 67)), (2, .int (sJ x2_2))] [] := by
    intro m2
    induction m2 with
    | zero => intro x2_2 hx2_2 h; exact h.elim
    | succ m2 ih2 =>
      intro x2_2 hx2_2 h
      have h := LoopP_succ h
      refine V.iload_n (pc := 2) hG dX9_areInOrder_2 rfl 2 rfl ?_
      refine V.aload_n (pc := 3) hG dX9_areInOrder_3 rfl 1 rfl ?_
      refine V.getIN (pc := 4) (ci := 2) (k := 4) (M := 5) (T := TX0) (o := 67) (kz := 4) hG a_67 a_67.n (by decide) hin_X0 rfl (by decide) (by decide) rfl kw_365 rfl dX9_areInOrder_4 ?_
      obtain ⟨t11, f12⟩ := h
      refine V.icmp_ge (pc := 7) (tgt := 33) hG hx2_2 ((hi _ _)) dX9_areInOrder_7 (by decide) (fun c10 => ?_) (fun c10 => ?_)
      · have h := t11 c10
        clear t11 f12
        refine V.iconst (pc := 33) hG dX9_areInOrder_33 ?_
        exact fin dX9_areInOrder_34 ((sR_l rfl)) (nar_z (by decide)) hi hw ⟨rfl, rfl, h⟩
      · have h := f12 c10
        clear t11 f12
        refine V.aload_n (pc := 10) hG dX9_areInOrder_10 rfl 0 rfl ?_
        refine V.getR (x := 463) (pc := 11) (ci := 11) (k := 1) (M := 7) (T := TX9) (o := 461) (kz := 1) hG a_461 a_461.n (by decide) hin_X9 rfl (by decide) (by decide) rfl kw_421 rfl ((hw).1 (461, 1, 463) (by decide)) (by decide) dX9_areInOrder_11 ?_
        refine V.iload_n (pc := 14) hG dX9_areInOrder_14 rfl 2 rfl ?_
        obtain ⟨g13, h⟩ := h
        refine V.iald (pc := 15) (z := 96) (o := 463) hG a_463 a_463.n hx2_2 g13 dX9_areInOrder_15 ?_
        refine V.aload_n (pc := 16) hG dX9_areInOrder_16 rfl 0 rfl ?_
        refine V.getR (x := 462) (pc := 17) (ci := 11) (k := 0) (M := 7) (T := TX9) (o := 461) (kz := 0) hG a_461 a_461.n (by decide) hin_X9 rfl (by decide) (by decide) rfl kw_419 rfl ((hw).1 (461, 0, 462) (by decide)) (by decide) dX9_areInOrder_17 ?_
        refine V.iload_n (pc := 20) hG dX9_areInOrder_20 rfl 2 rfl ?_
        obtain ⟨g14, h⟩ := h
        refine V.iald (pc := 21) (z := 96) (o := 462) hG a_462 a_462.n hx2_2 g14 dX9_areInOrder_21 ?_
        obtain ⟨t16, f17⟩ := h
        refine V.icmp_ge (pc := 22) (tgt := 27) hG ((hi _ _)) ((hi _ _)) dX9_areInOrder_22 (by decide) (fun c15 => ?_) (fun c15 => ?_)
        · have h := t16 c15
          clear t16 f17
          refine V.iinc (pc := 27) (lv' := [(2, .int (sJ (wr (x2_2 + 1)))), (0, .ref (sA Δ 461)), (1, .ref (sA Δ 67))]) hG dX9_areInOrder_27 2 rfl (by decide) rfl ?_
          refine V.goto (pc := 30) (tgt := 2) hG dX9_areInOrder_30 (by decide) ?_
          refine V.pick [1, 2, 0] rfl ?_
          exact ih2 (wr (x2_2 + 1)) ((sR_wr _)) h
        · have h := f17 c15
          clear t16 f17
          refine V.iconst (pc := 25) hG dX9_areInOrder_25 ?_
          exact fin dX9_areInOrder_26 ((sR_l rfl)) (nar_z (by decide)) hi hw ⟨rfl, rfl, h⟩
  refine V.pick [1, 2, 0] rfl ?_
  exact lp2 n9 0 ((sR_l rfl)) h
set_option maxRecDepth 100000 in
set_option maxHeartbeats 4000000 in
theorem sm_X9_areKept (l : Launch) (Δ : Wd) {i r : MI}   {Q : Int → Prop} (hi : okI i) (hw : Wf r) (h : wp_X9_areKept  i r Q) : Met l yX9_areKept (Cond.code yX9_areKept cX9_areKept 3 (some .boolean) :: gW) (sRm 3 69) (sPc Δ [.ref (sA Δ 461), .ref (sA Δ 67), .ref (sA Δ 168)] i r) (sQi Δ (fun x i' r' => i = i' ∧ r = r' ∧ Q x)) 0 0 (sFr Δ) := by
  refine Ct.i (ty := .boolean) (by decide) rfl (Nat.le_of_ble_eq_true rfl) (fun Γ Q0 hG fin => ?_)
  have hG : okG Γ Δ l (sRm 3 69) cX9_areKept "Schedulary$Steps" 3 := hG
  show V Γ Δ 504 false i r 0 0 Q0 0 [(0, .ref (sA Δ 461)), (1, .ref (sA Δ 67)), (2, .ref (sA Δ 168))] []
  have jn33 : ∀ (k0j33 : Int), sR k0j33 → s33_X9_areKept k0j33 i r Q → V Γ Δ 504 false i r 0 0 Q0 33 [] [.int (sJ k0j33)] := by
    intro k0j33 hk0j33 h
    obtain ⟨g2, h⟩ := h
    exact fin dX9_areKept_33 hk0j33 (nar_z g2) hi hw ⟨rfl, rfl, h⟩
  have jn32 : s32_X9_areKept i r Q → V Γ Δ 504 false i r 0 0 Q0 32 [] [] := by
    intro h
    refine V.iconst (pc := 32) hG dX9_areKept_32 ?_
    exact jn33 0 ((sR_l rfl)) h
  refine V.aload_n (pc := 0) hG dX9_areKept_0 rfl 2 rfl ?_
  refine V.aload_n (pc := 1) hG dX9_areKept_1 rfl 1 rfl ?_
  refine V.aload_n (pc := 2) hG dX9_areKept_2 rfl 0 rfl ?_
  refine V.getR (x := 464) (pc := 3) (ci := 11) (k := 2) (M := 7) (T := TX9) (o := 461) (kz := 2) hG a_461 a_461.n (by decide) hin_X9 rfl (by decide) (by decide) rfl kw_423 rfl ((hw).1 (461, 2, 464) (by decide)) (by decide) dX9_areKept_3 ?_
  refine V.iconst (pc := 6) hG dX9_areKept_6 ?_
  refine V.iconst (pc := 7) hG dX9_areKept_7 ?_
  refine V.callVNi (pc := 8) (As := [.ref (sA Δ 67), .ref (sA Δ 464), .int (sJ 0), .int (sJ 0)]) (stk := []) hG (sm_X2_isKept l Δ a_464 ((sR_l rfl)) ((sR_l rfl)) hi hw h) mY_X2_isKept kw_871 kw_873 kw_67 a_168 (by decide) (q := (RX2, TX2, 5)) rfl rfl ⟨Nat.le_of_ble_eq_true rfl, Nat.le_of_ble_eq_true rfl, Nat.le_of_ble_eq_true rfl, Nat.le_of_ble_eq_true rfl⟩ rfl (Nat.le_of_ble_eq_true rfl) dX9_areKept_8 rfl (fun v3 i4 r5 hv6 hi7 hw8 hq9 => ?_)
  obtain ⟨e25, e26, h⟩ := hq9
  subst e25
  subst e26
  obtain ⟨t11, f12⟩ := h
  refine V.if_eq (pc := 11) (tgt := 32) hG hv6 dX9_areKept_11 (by decide) (fun c10 => ?_) (fun c10 => ?_)
  · have h := t11 c10
    clear t11 f12
    refine V.pick [] rfl ?_
    exact jn32 h
  · have h := f12 c10
    clear t11 f12
    refine V.aload_n (pc := 14) hG dX9_areKept_14 rfl 1 rfl ?_
    refine V.aload_n (pc := 15) hG dX9_areKept_15 rfl 0 rfl ?_
    refine V.getR (x := 464) (pc := 16) (ci := 11) (k := 2) (M := 7) (T := TX9) (o := 461) (kz := 2) hG a_461 a_461.n (by decide) hin_X9 rfl (by decide) (by decide) rfl kw_423 rfl ((hw).1 (461, 2, 464) (by decide)) (by decide) dX9_areKept_16 ?_
    refine V.sipush (pc := 19) hG dX9_areKept_19 (by decide) ?_
    refine V.callVNi (pc := 22) (As := [.ref (sA Δ 464), .int (sJ 481)]) (stk := []) hG (sm_X0_areUnitsKept l Δ a_464 ((sR_l rfl)) hi hw h) mY_X0_areUnitsKept kw_875 kw_877 kw_68 a_67 (by decide) (q := (RX0, TX0, 5)) rfl rfl ⟨Nat.le_of_ble_eq_true rfl, Nat.le_of_ble_eq_true rfl, Nat.le_of_ble_eq_true rfl, Nat.le_of_ble_eq_true rfl⟩ rfl (Nat.le_of_ble_eq_true rfl) dX9_areKept_22 rfl (fun v13 i14 r15 hv16 hi17 hw18 hq19 => ?_)
    obtain ⟨e23, e24, h⟩ := hq19
    subst e23
    subst e24
    obtain ⟨t21, f22⟩ := h
    refine V.if_eq (pc := 25) (tgt := 32) hG hv16 dX9_areKept_25 (by decide) (fun c20 => ?_) (fun c20 => ?_)
    · have h := t21 c20
      clear t21 f22
      refine V.pick [] rfl ?_
      exact jn32 h
    · have h := f22 c20
      clear t21 f22
      refine V.iconst (pc := 28) hG dX9_areKept_28 ?_
      refine V.goto (pc := 29) (tgt := 33) hG dX9_areKept_29 (by decide) ?_
      refine V.pick [] rfl ?_
      exact jn33 1 ((sR_l rfl)) h
set_option maxRecDepth 100000 in
set_option maxHeartbeats 4000000 in
theorem sm_X11_isSound (l : Launch) (Δ : Wd) {i r : MI}   {Q : Int → MI → MI → Prop} (hi : okI i) (hw : Wf r) (h : wp_X11_isSound  i r Q) : Met l yX11_isSound (Cond.code yX11_isSound cX11_isSound 1 (some .boolean) :: gW) (sRm 6 145) (sPc Δ [.ref (sA Δ 0)] i r) (sQi Δ (Q)) 0 0 (sFr Δ) := by
  refine Ct.i (ty := .boolean) (by decide) rfl (Nat.le_of_ble_eq_true rfl) (fun Γ Q0 hG fin => ?_)
  have hG : okG Γ Δ l (sRm 6 145) cX11_isSound "Schedulary" 1 := hG
  show V Γ Δ 504 false i r 0 0 Q0 0 [(0, .ref (sA Δ 0))] []
  have jn81 : ∀ (k0j81 : Int) (ij81 : MI) (rj81 : MI), sR k0j81 → okI ij81 → Wf rj81 → s81_X11_isSound k0j81 ij81 rj81 Q → V Γ Δ 504 false ij81 rj81 0 0 Q0 81 [] [.int (sJ k0j81)] := by
    intro k0j81 ij81 rj81 hk0j81 hij81 hwj81 h
    obtain ⟨g2, h⟩ := h
    exact fin dX11_isSound_81 hk0j81 (nar_z g2) hij81 hwj81 h
  have jn80 : ∀  (ij80 : MI) (rj80 : MI), okI ij80 → Wf rj80 → s80_X11_isSound ij80 rj80 Q → V Γ Δ 504 false ij80 rj80 0 0 Q0 80 [] [] := by
    intro ij80 rj80 hij80 hwj80 h
    refine V.iconst (pc := 80) hG dX11_isSound_80 ?_
    exact jn81 0 ij80 rj80 ((sR_l rfl)) hij80 hwj80 h
  refine V.aload_n (pc := 0) hG dX11_isSound_0 rfl 0 rfl ?_
  refine V.callVv (pc := 1) (As := []) (stk := []) hG (sm_X11_carryOut l Δ  hi hw h) mY_X11_carryOut kw_561 kw_563 kw_0 a_0 (by decide) (q := (RX11, TX11, 11)) rfl rfl ⟨Nat.le_of_ble_eq_true rfl, Nat.le_of_ble_eq_true rfl, Nat.le_of_ble_eq_true rfl, Nat.le_of_ble_eq_true rfl⟩ rfl (Nat.le_of_ble_eq_true rfl) dX11_isSound_1 rfl (fun i4 r5 hi7 hw8 hq9 => ?_)
  obtain ⟨e68, h⟩ := hq9
  subst e68
  refine V.aload_n (pc := 4) hG dX11_isSound_4 rfl 0 rfl ?_
  refine V.iconst (pc := 5) hG dX11_isSound_5 ?_
  refine V.callVv (pc := 6) (As := [.int (sJ 5)]) (stk := []) hG (sm_X11_prepare l Δ ((sR_l rfl)) hi7 hw h) mY_X11_prepare kw_621 kw_623 kw_14 a_0 (by decide) (q := (RX11, TX11, 11)) rfl rfl ⟨Nat.le_of_ble_eq_true rfl, Nat.le_of_ble_eq_true rfl, Nat.le_of_ble_eq_true rfl, Nat.le_of_ble_eq_true rfl⟩ rfl (Nat.le_of_ble_eq_true rfl) dX11_isSound_6 rfl (fun i11 r12 hi14 hw15 hq16 => ?_)
  have h := hq16
  refine V.aload_n (pc := 9) hG dX11_isSound_9 rfl 0 rfl ?_
  refine V.getR (x := 461) (pc := 10) (ci := 13) (k := 5) (M := 11) (T := TX11) (o := 0) (kz := 5) hG a_0 a_0.n (by decide) hin_X11 rfl (by decide) (by decide) rfl kw_528 rfl ((hw15).1 (0, 5, 461) (by decide)) (by decide) dX11_isSound_10 ?_
  refine V.aload_n (pc := 13) hG dX11_isSound_13 rfl 0 rfl ?_
  refine V.getR (x := 67) (pc := 14) (ci := 13) (k := 3) (M := 11) (T := TX11) (o := 0) (kz := 3) hG a_0 a_0.n (by decide) hin_X11 rfl (by decide) (by decide) rfl kw_526 rfl ((hw15).1 (0, 3, 67) (by decide)) (by decide) dX11_isSound_14 ?_
  refine V.aload_n (pc := 17) hG dX11_isSound_17 rfl 0 rfl ?_
  refine V.getR (x := 168) (pc := 18) (ci := 13) (k := 4) (M := 11) (T := TX11) (o := 0) (kz := 4) hG a_0 a_0.n (by decide) hin_X11 rfl (by decide) (by decide) rfl kw_527 rfl ((hw15).1 (0, 4, 168) (by decide)) (by decide) dX11_isSound_18 ?_
  refine V.callVNi (pc := 21) (As := [.ref (sA Δ 67), .ref (sA Δ 168)]) (stk := []) hG (sm_X9_areKept l Δ  hi14 hw15 h) mY_X9_areKept kw_867 kw_869 kw_66 a_461 (by decide) (q := (RX9, TX9, 7)) rfl rfl ⟨Nat.le_of_ble_eq_true rfl, Nat.le_of_ble_eq_true rfl, Nat.le_of_ble_eq_true rfl, Nat.le_of_ble_eq_true rfl⟩ rfl (Nat.le_of_ble_eq_true rfl) dX11_isSound_21 rfl (fun v17 i18 r19 hv20 hi21 hw22 hq23 => ?_)
  obtain ⟨e63, e64, h⟩ := hq23
  subst e63
  subst e64
  obtain ⟨t25, f26⟩ := h
  refine V.if_eq (pc := 24) (tgt := 80) hG hv20 dX11_isSound_24 (by decide) (fun c24 => ?_) (fun c24 => ?_)
  · have h := t25 c24
    clear t25 f26
    refine V.pick [] rfl ?_
    exact jn80 i11 r12 hi14 hw15 h
  · have h := f26 c24
    clear t25 f26
    refine V.aload_n (pc := 27) hG dX11_isSound_27 rfl 0 rfl ?_
    refine V.getR (x := 461) (pc := 28) (ci := 13) (k := 5) (M := 11) (T := TX11) (o := 0) (kz := 5) hG a_0 a_0.n (by decide) hin_X11 rfl (by decide) (by decide) rfl kw_528 rfl ((hw15).1 (0, 5, 461) (by decide)) (by decide) dX11_isSound_28 ?_
    refine V.aload_n (pc := 31) hG dX11_isSound_31 rfl 0 rfl ?_
    refine V.getR (x := 67) (pc := 32) (ci := 13) (k := 3) (M := 11) (T := TX11) (o := 0) (kz := 3) hG a_0 a_0.n (by decide) hin_X11 rfl (by decide) (by decide) rfl kw_526 rfl ((hw15).1 (0, 3, 67) (by decide)) (by decide) dX11_isSound_32 ?_
    refine V.callVNi (pc := 35) (As := [.ref (sA Δ 67)]) (stk := []) hG (sm_X9_areInOrder l Δ  hi14 hw15 h) mY_X9_areInOrder kw_884 kw_886 kw_70 a_461 (by decide) (q := (RX9, TX9, 7)) rfl rfl ⟨Nat.le_of_ble_eq_true rfl, Nat.le_of_ble_eq_true rfl, Nat.le_of_ble_eq_true rfl, Nat.le_of_ble_eq_true rfl⟩ rfl (Nat.le_of_ble_eq_true rfl) dX11_isSound_35 rfl (fun v27 i28 r29 hv30 hi31 hw32 hq33 => ?_)
    obtain ⟨e61, e62, h⟩ := hq33
    subst e61
    subst e62
    obtain ⟨t35, f36⟩ := h
    refine V.if_eq (pc := 38) (tgt := 80) hG hv30 dX11_isSound_38 (by decide) (fun c34 => ?_) (fun c34 => ?_)
    · have h := t35 c34
      clear t35 f36
      refine V.pick [] rfl ?_
      exact jn80 i11 r12 hi14 hw15 h
    · have h := f36 c34
      clear t35 f36
      refine V.aload_n (pc := 41) hG dX11_isSound_41 rfl 0 rfl ?_
      refine V.getR (x := 469) (pc := 42) (ci := 13) (k := 6) (M := 11) (T := TX11) (o := 0) (kz := 6) hG a_0 a_0.n (by decide) hin_X11 rfl (by decide) (by decide) rfl kw_529 rfl ((hw15).1 (0, 6, 469) (by decide)) (by decide) dX11_isSound_42 ?_
      refine V.aload_n (pc := 45) hG dX11_isSound_45 rfl 0 rfl ?_
      refine V.getR (x := 67) (pc := 46) (ci := 13) (k := 3) (M := 11) (T := TX11) (o := 0) (kz := 3) hG a_0 a_0.n (by decide) hin_X11 rfl (by decide) (by decide) rfl kw_526 rfl ((hw15).1 (0, 3, 67) (by decide)) (by decide) dX11_isSound_46 ?_
      refine V.aload_n (pc := 49) hG dX11_isSound_49 rfl 0 rfl ?_
      refine V.getR (x := 168) (pc := 50) (ci := 13) (k := 4) (M := 11) (T := TX11) (o := 0) (kz := 4) hG a_0 a_0.n (by decide) hin_X11 rfl (by decide) (by decide) rfl kw_527 rfl ((hw15).1 (0, 4, 168) (by decide)) (by decide) dX11_isSound_50 ?_
      refine V.callVNi (pc := 53) (As := [.ref (sA Δ 67), .ref (sA Δ 168)]) (stk := []) hG (sm_X4_isKept l Δ  hi14 hw15 h) mY_X4_isKept kw_888 kw_890 kw_71 a_469 (by decide) (q := (RX4, TX4, 6)) rfl rfl ⟨Nat.le_of_ble_eq_true rfl, Nat.le_of_ble_eq_true rfl, Nat.le_of_ble_eq_true rfl, Nat.le_of_ble_eq_true rfl⟩ rfl (Nat.le_of_ble_eq_true rfl) dX11_isSound_53 rfl (fun v37 i38 r39 hv40 hi41 hw42 hq43 => ?_)
      obtain ⟨e59, e60, h⟩ := hq43
      subst e59
      subst e60
      obtain ⟨t45, f46⟩ := h
      refine V.if_eq (pc := 56) (tgt := 80) hG hv40 dX11_isSound_56 (by decide) (fun c44 => ?_) (fun c44 => ?_)
      · have h := t45 c44
        clear t45 f46
        refine V.pick [] rfl ?_
        exact jn80 i11 r12 hi14 hw15 h
      · have h := f46 c44
        clear t45 f46
        refine V.aload_n (pc := 59) hG dX11_isSound_59 rfl 0 rfl ?_
        refine V.getR (x := 61) (pc := 60) (ci := 13) (k := 2) (M := 11) (T := TX11) (o := 0) (kz := 2) hG a_0 a_0.n (by decide) hin_X11 rfl (by decide) (by decide) rfl kw_525 rfl ((hw15).1 (0, 2, 61) (by decide)) (by decide) dX11_isSound_60 ?_
        refine V.aload_n (pc := 63) hG dX11_isSound_63 rfl 0 rfl ?_
        refine V.getR (x := 480) (pc := 64) (ci := 13) (k := 7) (M := 11) (T := TX11) (o := 0) (kz := 7) hG a_0 a_0.n (by decide) hin_X11 rfl (by decide) (by decide) rfl kw_530 rfl ((hw15).1 (0, 7, 480) (by decide)) (by decide) dX11_isSound_64 ?_
        refine V.getRN (x := 481) (pc := 67) (ci := 3) (k := 0) (M := 2) (T := TX1) (o := 480) (kz := 0) hG a_480 a_480.n (by decide) hin_X1 rfl (by decide) (by decide) rfl kw_485 rfl ((hw15).1 (480, 0, 481) (by decide)) (by decide) dX11_isSound_67 ?_
        refine V.callVNi (pc := 70) (As := [.ref (sA Δ 481)]) (stk := []) hG (sm_X7_isLike l Δ sta_61 sta_481 hi14 hw15 h) mY_X7_isLike kw_894 kw_896 kw_72 a_61 (by decide) (q := (RX7, TX7, 5)) rfl rfl ⟨Nat.le_of_ble_eq_true rfl, Nat.le_of_ble_eq_true rfl, Nat.le_of_ble_eq_true rfl, Nat.le_of_ble_eq_true rfl⟩ rfl (Nat.le_of_ble_eq_true rfl) dX11_isSound_70 rfl (fun v47 i48 r49 hv50 hi51 hw52 hq53 => ?_)
        obtain ⟨e57, e58, h⟩ := hq53
        subst e57
        subst e58
        obtain ⟨t55, f56⟩ := h
        refine V.if_eq (pc := 73) (tgt := 80) hG hv50 dX11_isSound_73 (by decide) (fun c54 => ?_) (fun c54 => ?_)
        · have h := t55 c54
          clear t55 f56
          refine V.pick [] rfl ?_
          exact jn80 i11 r12 hi14 hw15 h
        · have h := f56 c54
          clear t55 f56
          refine V.iconst (pc := 76) hG dX11_isSound_76 ?_
          refine V.goto (pc := 77) (tgt := 81) hG dX11_isSound_77 (by decide) ?_
          refine V.pick [] rfl ?_
          exact jn81 1 i11 r12 ((sR_l rfl)) hi14 hw15 h
set_option maxRecDepth 100000 in
set_option maxHeartbeats 4000000 in
theorem sm_J3_checkFromToIndex_8c36e (l : Launch) (Δ : Wd) {i r : MI} {p0 : Int} {p1 : Int} {p2 : Int} {w3 : Value} (hp0 : sR p0) (hp1 : sR p1) (hp2 : sR p2) (hw3 : w3.category = 1) {Q : Int → Prop} (hi : okI i) (hw : Wf r) (h : wp_J3_checkFromToIndex_8c36e p0 p1 p2 i r Q) : Met l yJ3_checkFromToIndex_8c36e (Cond.code yJ3_checkFromToIndex_8c36e cJ3_checkFromToIndex_8c36e 4 (some .int) :: gW) (sRm 0 0) (sPc Δ [.int (sJ p0), .int (sJ p1), .int (sJ p2), w3] i r) (sQi Δ (fun x i' r' => i = i' ∧ r = r' ∧ Q x)) 0 0 (sFr Δ) := by
  refine Ct.i (ty := .int) (by decide) rfl (by simp only [lg_sl, List.flatMap_cons, List.flatMap_nil, hw3]; exact Nat.le_of_ble_eq_true rfl) (fun Γ Q0 hG fin => ?_)
  have hG : okG Γ Δ l (sRm 0 0) cJ3_checkFromToIndex_8c36e "jdk/internal/util/Preconditions" 4 := hG
  show V Γ Δ 504 false i r 0 0 Q0 0 [(0, .int (sJ p0)), (1, .int (sJ p1)), (2, .int (sJ p2)), (3, w3)] []
  have jn14 : s14_J3_checkFromToIndex_8c36e p0 p1 p2 i r Q → V Γ Δ 504 false i r 0 0 Q0 14 [(0, .int (sJ p0)), (1, .int (sJ p1)), (2, .int (sJ p2)), (3, w3)] [] := by
    intro h
    exact h.elim
  refine V.iload_n (pc := 0) hG dJ3_checkFromToIndex_8c36e_0 rfl 0 rfl ?_
  obtain ⟨t2, f3⟩ := h
  refine V.if_lt (pc := 1) (tgt := 14) hG hp0 dJ3_checkFromToIndex_8c36e_1 (by decide) (fun c1 => ?_) (fun c1 => ?_)
  · have h := t2 c1
    clear t2 f3
    exact jn14 h
  · have h := f3 c1
    clear t2 f3
    refine V.iload_n (pc := 4) hG dJ3_checkFromToIndex_8c36e_4 rfl 0 rfl ?_
    refine V.iload_n (pc := 5) hG dJ3_checkFromToIndex_8c36e_5 rfl 1 rfl ?_
    obtain ⟨t5, f6⟩ := h
    refine V.icmp_gt (pc := 6) (tgt := 14) hG hp0 hp1 dJ3_checkFromToIndex_8c36e_6 (by decide) (fun c4 => ?_) (fun c4 => ?_)
    · have h := t5 c4
      clear t5 f6
      exact jn14 h
    · have h := f6 c4
      clear t5 f6
      refine V.iload_n (pc := 9) hG dJ3_checkFromToIndex_8c36e_9 rfl 1 rfl ?_
      refine V.iload_n (pc := 10) hG dJ3_checkFromToIndex_8c36e_10 rfl 2 rfl ?_
      obtain ⟨t8, f9⟩ := h
      refine V.icmp_le (pc := 11) (tgt := 22) hG hp1 hp2 dJ3_checkFromToIndex_8c36e_11 (by decide) (fun c7 => ?_) (fun c7 => ?_)
      · have h := t8 c7
        clear t8 f9
        refine V.iload_n (pc := 22) hG dJ3_checkFromToIndex_8c36e_22 rfl 0 rfl ?_
        exact fin dJ3_checkFromToIndex_8c36e_23 hp0 rfl hi hw ⟨rfl, rfl, h⟩
      · have h := f9 c7
        clear t8 f9
        exact jn14 h
set_option maxRecDepth 100000 in
set_option maxHeartbeats 4000000 in
theorem sm_J0_checkBoundsBeginEnd_23922 (l : Launch) (Δ : Wd) {i r : MI} {p0 : Int} {p1 : Int} {p2 : Int} (hp0 : sR p0) (hp1 : sR p1) (hp2 : sR p2) {Q : Prop} (hi : okI i) (hw : Wf r) (h : wp_J0_checkBoundsBeginEnd_23922 p0 p1 p2 i r Q) : Met l yJ0_checkBoundsBeginEnd_23922 (Cond.code yJ0_checkBoundsBeginEnd_23922 cJ0_checkBoundsBeginEnd_23922 3 none :: gW) (sRm 1 23) (sPc Δ [.int (sJ p0), .int (sJ p1), .int (sJ p2)] i r) (sQv Δ (fun i' r' => i = i' ∧ r = r' ∧ Q)) 0 0 (sFr Δ) := by
  refine Ct.v (by decide) rfl (Nat.le_of_ble_eq_true rfl) (fun Γ Q0 hG fin => ?_)
  have hG : okG Γ Δ l (sRm 1 23) cJ0_checkBoundsBeginEnd_23922 "java/lang/String" 3 := hG
  show V Γ Δ 504 false i r 0 0 Q0 0 [(0, .int (sJ p0)), (1, .int (sJ p1)), (2, .int (sJ p2))] []
  refine V.iload_n (pc := 0) hG dJ0_checkBoundsBeginEnd_23922_0 rfl 0 rfl ?_
  refine V.iload_n (pc := 1) hG dJ0_checkBoundsBeginEnd_23922_1 rfl 1 rfl ?_
  refine V.iload_n (pc := 2) hG dJ0_checkBoundsBeginEnd_23922_2 rfl 2 rfl ?_
  refine V.sfmt (pc := 3) hG kw_1065 dJ0_checkBoundsBeginEnd_23922_3 (fun w1 hw1 => ?_)
  refine V.callSi (pc := 6) (As := [.int (sJ p0), .int (sJ p1), .int (sJ p2), w1]) (stk := []) hG (sm_J3_checkFromToIndex_8c36e l Δ hp0 hp1 hp2 hw1 hi hw h) mY_J3_checkFromToIndex_8c36e kw_1067 kw_1068 ⟨Nat.le_of_ble_eq_true rfl, Nat.le_of_ble_eq_true rfl, Nat.le_of_ble_eq_true rfl, Nat.le_of_ble_eq_true rfl⟩ rfl (Nat.le_of_ble_eq_true rfl) dJ0_checkBoundsBeginEnd_23922_6 rfl (fun v2 i3 r4 hv5 hi6 hw7 hq8 => ?_)
  obtain ⟨e9, e10, h⟩ := hq8
  subst e9
  subst e10
  refine V.pop (pc := 9) hG dJ0_checkBoundsBeginEnd_23922_9 rfl ?_
  exact fin dJ0_checkBoundsBeginEnd_23922_10 hi hw ⟨rfl, rfl, h⟩
set_option maxRecDepth 100000 in
set_option maxHeartbeats 4000000 in
theorem sm_J3_checkFromIndexSize_8c36e (l : Launch) (Δ : Wd) {i r : MI} {p0 : Int} {p1 : Int} {p2 : Int} {w3 : Value} (hp0 : sR p0) (hp1 : sR p1) (hp2 : sR p2) (hw3 : w3.category = 1) {Q : Int → Prop} (hi : okI i) (hw : Wf r) (h : wp_J3_checkFromIndexSize_8c36e p0 p1 p2 i r Q) : Met l yJ3_checkFromIndexSize_8c36e (Cond.code yJ3_checkFromIndexSize_8c36e cJ3_checkFromIndexSize_8c36e 4 (some .int) :: gW) (sRm 0 0) (sPc Δ [.int (sJ p0), .int (sJ p1), .int (sJ p2), w3] i r) (sQi Δ (fun x i' r' => i = i' ∧ r = r' ∧ Q x)) 0 0 (sFr Δ) := by
  refine Ct.i (ty := .int) (by decide) rfl (by simp only [lg_sl, List.flatMap_cons, List.flatMap_nil, hw3]; exact Nat.le_of_ble_eq_true rfl) (fun Γ Q0 hG fin => ?_)
  have hG : okG Γ Δ l (sRm 0 0) cJ3_checkFromIndexSize_8c36e "jdk/internal/util/Preconditions" 4 := hG
  show V Γ Δ 504 false i r 0 0 Q0 0 [(0, .int (sJ p0)), (1, .int (sJ p1)), (2, .int (sJ p2)), (3, w3)] []
  have jn15 : s15_J3_checkFromIndexSize_8c36e p0 p1 p2 i r Q → V Γ Δ 504 false i r 0 0 Q0 15 [(0, .int (sJ p0)), (1, .int (sJ p1)), (2, .int (sJ p2)), (3, w3)] [] := by
    intro h
    exact h.elim
  refine V.iload_n (pc := 0) hG dJ3_checkFromIndexSize_8c36e_0 rfl 2 rfl ?_
  refine V.iload_n (pc := 1) hG dJ3_checkFromIndexSize_8c36e_1 rfl 0 rfl ?_
  refine V.ior (pc := 2) hG dJ3_checkFromIndexSize_8c36e_2 ?_
  refine V.iload_n (pc := 3) hG dJ3_checkFromIndexSize_8c36e_3 rfl 1 rfl ?_
  refine V.ior (pc := 4) hG dJ3_checkFromIndexSize_8c36e_4 ?_
  obtain ⟨t2, f3⟩ := h
  refine V.if_lt (pc := 5) (tgt := 15) hG ((sR_or _ _)) dJ3_checkFromIndexSize_8c36e_5 (by decide) (fun c1 => ?_) (fun c1 => ?_)
  · have h := t2 c1
    clear t2 f3
    exact jn15 h
  · have h := f3 c1
    clear t2 f3
    refine V.iload_n (pc := 8) hG dJ3_checkFromIndexSize_8c36e_8 rfl 1 rfl ?_
    refine V.iload_n (pc := 9) hG dJ3_checkFromIndexSize_8c36e_9 rfl 2 rfl ?_
    refine V.iload_n (pc := 10) hG dJ3_checkFromIndexSize_8c36e_10 rfl 0 rfl ?_
    refine V.isub (pc := 11) hG dJ3_checkFromIndexSize_8c36e_11 ?_
    obtain ⟨t5, f6⟩ := h
    refine V.icmp_le (pc := 12) (tgt := 23) hG hp1 ((sR_wr _)) dJ3_checkFromIndexSize_8c36e_12 (by decide) (fun c4 => ?_) (fun c4 => ?_)
    · have h := t5 c4
      clear t5 f6
      refine V.iload_n (pc := 23) hG dJ3_checkFromIndexSize_8c36e_23 rfl 0 rfl ?_
      exact fin dJ3_checkFromIndexSize_8c36e_24 hp0 rfl hi hw ⟨rfl, rfl, h⟩
    · have h := f6 c4
      clear t5 f6
      exact jn15 h
set_option maxRecDepth 100000 in
set_option maxHeartbeats 4000000 in
theorem sm_J0_checkBoundsOffCount_cabcc (l : Launch) (Δ : Wd) {i r : MI} {p0 : Int} {p1 : Int} {p2 : Int} (hp0 : sR p0) (hp1 : sR p1) (hp2 : sR p2) {Q : Int → Prop} (hi : okI i) (hw : Wf r) (h : wp_J0_checkBoundsOffCount_cabcc p0 p1 p2 i r Q) : Met l yJ0_checkBoundsOffCount_cabcc (Cond.code yJ0_checkBoundsOffCount_cabcc cJ0_checkBoundsOffCount_cabcc 3 (some .int) :: gW) (sRm 1 23) (sPc Δ [.int (sJ p0), .int (sJ p1), .int (sJ p2)] i r) (sQi Δ (fun x i' r' => i = i' ∧ r = r' ∧ Q x)) 0 0 (sFr Δ) := by
  refine Ct.i (ty := .int) (by decide) rfl (Nat.le_of_ble_eq_true rfl) (fun Γ Q0 hG fin => ?_)
  have hG : okG Γ Δ l (sRm 1 23) cJ0_checkBoundsOffCount_cabcc "java/lang/String" 3 := hG
  show V Γ Δ 504 false i r 0 0 Q0 0 [(0, .int (sJ p0)), (1, .int (sJ p1)), (2, .int (sJ p2))] []
  refine V.iload_n (pc := 0) hG dJ0_checkBoundsOffCount_cabcc_0 rfl 0 rfl ?_
  refine V.iload_n (pc := 1) hG dJ0_checkBoundsOffCount_cabcc_1 rfl 1 rfl ?_
  refine V.iload_n (pc := 2) hG dJ0_checkBoundsOffCount_cabcc_2 rfl 2 rfl ?_
  refine V.sfmt (pc := 3) hG kw_1065 dJ0_checkBoundsOffCount_cabcc_3 (fun w1 hw1 => ?_)
  refine V.callSi (pc := 6) (As := [.int (sJ p0), .int (sJ p1), .int (sJ p2), w1]) (stk := []) hG (sm_J3_checkFromIndexSize_8c36e l Δ hp0 hp1 hp2 hw1 hi hw h) mY_J3_checkFromIndexSize_8c36e kw_1579 kw_1580 ⟨Nat.le_of_ble_eq_true rfl, Nat.le_of_ble_eq_true rfl, Nat.le_of_ble_eq_true rfl, Nat.le_of_ble_eq_true rfl⟩ rfl (Nat.le_of_ble_eq_true rfl) dJ0_checkBoundsOffCount_cabcc_6 rfl (fun v2 i3 r4 hv5 hi6 hw7 hq8 => ?_)
  obtain ⟨e9, e10, h⟩ := hq8
  subst e9
  subst e10
  exact fin dJ0_checkBoundsOffCount_cabcc_9 hv5 rfl hi hw ⟨rfl, rfl, h⟩
set_option maxRecDepth 100000 in
set_option maxHeartbeats 4000000 in
theorem sm_J1_inflate_0e8fd (l : Launch) (Δ : Wd) {i r : MI} {k0 : Nat} {p1 : Int} {k2 : Nat} {p3 : Int} {p4 : Int} (hk0 : k0 < 13) (hp1 : sR p1) (hk2 : k2 < 13) (hp3 : sR p3) (hp4 : sR p4) {Q : Prop} (hi : okI i) (hw : Wf r) (h : wp_J1_inflate_0e8fd k0 p1 k2 p3 p4 i r Q) : Met l yJ1_inflate_0e8fd (Cond.code yJ1_inflate_0e8fd cJ1_inflate_0e8fd 5 none :: gW) (sRm 0 0) (sPc Δ [.ref (aV Δ k0), .int (sJ p1), .ref (aV Δ k2), .int (sJ p3), .int (sJ p4)] i r) (sQv Δ (fun i' r' => i = i' ∧ r = r' ∧ Q)) 0 0 (sFr Δ) := by
  refine Ct.v (by decide) rfl (Nat.le_of_ble_eq_true rfl) (fun Γ Q0 hG fin => ?_)
  have hG : okG Γ Δ l (sRm 0 0) cJ1_inflate_0e8fd "java/lang/StringLatin1" 5 := hG
  show V Γ Δ 504 false i r 0 0 Q0 0 [(0, .ref (aV Δ k0)), (1, .int (sJ p1)), (2, .ref (aV Δ k2)), (3, .int (sJ p3)), (4, .int (sJ p4))] []
  refine V.aload_n (pc := 0) hG dJ1_inflate_0e8fd_0 rfl 0 rfl ?_
  refine V.iload_n (pc := 1) hG dJ1_inflate_0e8fd_1 rfl 1 rfl ?_
  refine V.aload_n (pc := 2) hG dJ1_inflate_0e8fd_2 rfl 2 rfl ?_
  refine V.iload_n (pc := 3) hG dJ1_inflate_0e8fd_3 rfl 3 rfl ?_
  refine V.iload (pc := 4) hG dJ1_inflate_0e8fd_4 4 rfl ?_
  exact h.elim
set_option maxRecDepth 100000 in
set_option maxHeartbeats 4000000 in
theorem sm_J1_canEncode_fc78d (l : Launch) (Δ : Wd) {i r : MI} {p0 : Int} (hp0 : sR p0) {Q : Int → Prop} (hi : okI i) (hw : Wf r) (h : wp_J1_canEncode_fc78d p0 i r Q) : Met l yJ1_canEncode_fc78d (Cond.code yJ1_canEncode_fc78d cJ1_canEncode_fc78d 1 (some .boolean) :: gW) (sRm 0 0) (sPc Δ [.int (sJ p0)] i r) (sQi Δ (fun x i' r' => i = i' ∧ r = r' ∧ Q x)) 0 0 (sFr Δ) := by
  refine Ct.i (ty := .boolean) (by decide) rfl (Nat.le_of_ble_eq_true rfl) (fun Γ Q0 hG fin => ?_)
  have hG : okG Γ Δ l (sRm 0 0) cJ1_canEncode_fc78d "java/lang/StringLatin1" 1 := hG
  show V Γ Δ 504 false i r 0 0 Q0 0 [(0, .int (sJ p0))] []
  have jn12 : ∀ (k0j12 : Int), sR k0j12 → s12_J1_canEncode_fc78d k0j12 i r Q → V Γ Δ 504 false i r 0 0 Q0 12 [] [.int (sJ k0j12)] := by
    intro k0j12 hk0j12 h
    obtain ⟨g2, h⟩ := h
    exact fin dJ1_canEncode_fc78d_12 hk0j12 (nar_z g2) hi hw ⟨rfl, rfl, h⟩
  refine V.iload_n (pc := 0) hG dJ1_canEncode_fc78d_0 rfl 0 rfl ?_
  refine V.sipush (pc := 1) hG dJ1_canEncode_fc78d_1 (by decide) ?_
  obtain ⟨t4, f5⟩ := h
  refine V.icmp_gt (pc := 4) (tgt := 11) hG hp0 ((sR_l rfl)) dJ1_canEncode_fc78d_4 (by decide) (fun c3 => ?_) (fun c3 => ?_)
  · have h := t4 c3
    clear t4 f5
    refine V.iconst (pc := 11) hG dJ1_canEncode_fc78d_11 ?_
    refine V.pick [] rfl ?_
    exact jn12 0 ((sR_l rfl)) h
  · have h := f5 c3
    clear t4 f5
    refine V.iconst (pc := 7) hG dJ1_canEncode_fc78d_7 ?_
    refine V.goto (pc := 8) (tgt := 12) hG dJ1_canEncode_fc78d_8 (by decide) ?_
    refine V.pick [] rfl ?_
    exact jn12 1 ((sR_l rfl)) h
