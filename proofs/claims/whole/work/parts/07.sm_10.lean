set_option maxRecDepth 100000 in
set_option maxHeartbeats 4000000 in
theorem sm_X12_done (l : Launch) (Δ : Wd) {i r : MI}   {Q : Int → MI → Prop} (hi : okI i) (hw : Wf r) (h : wp_X12_done  i r Q) : Met l yX12_done (Cond.code yX12_done cX12_done 1 (some .int) :: gW) (sRm 2 50) (sPc Δ [.ref (sA Δ 504)] i r) (sQi Δ (fun x i' r' => r = r' ∧ Q x i')) 0 0 (sFr Δ) := by
  refine Ct.i (ty := .int) (by decide) rfl (Nat.le_of_ble_eq_true rfl) (fun Γ Q0 hG fin => ?_)
  have hG : okG Γ Δ l (sRm 2 50) cX12_done "SchedularyModel" 1 := hG
  show V Γ Δ 542 false i r 0 0 Q0 0 [(0, .ref (sA Δ 504))] []
  refine V.aload_n (pc := 0) hG dX12_done_0 rfl 0 rfl ?_
  refine V.iconst (pc := 1) hG dX12_done_1 ?_
  refine V.putI (pc := 2) (ci := 14) (k := 0) (M := 49) (T := TX12) (o := 504) (kz := 0) hG a_504 a_504.n (by decide) hin_X12 rfl (by decide) (by decide) rfl kw_1692 rfl tyX12 tyX12_ok nmX12 rfl (ty := tyX12 0) (tyX12_ok 0 (by decide)) rfl rfl dX12_done_2 ?_
  refine V.aload_n (pc := 5) hG dX12_done_5 rfl 0 rfl ?_
  refine V.iconst (pc := 6) hG dX12_done_6 ?_
  refine V.callVi (pc := 7) (As := [.int (sJ 0)]) (stk := []) hG (sm_X12_goRound l Δ ((sR_l rfl)) ((okI_st hi ((sR_l rfl)))) hw h) mY_X12_goRound kw_2237 kw_2239 kw_155 a_504 (by decide) (q := (RX12, TX12, 49)) rfl rfl ⟨Nat.le_of_ble_eq_true rfl, Nat.le_of_ble_eq_true rfl, Nat.le_of_ble_eq_true rfl, Nat.le_of_ble_eq_true rfl⟩ rfl (Nat.le_of_ble_eq_true rfl) dX12_done_7 rfl (fun v1 i2 r3 hv4 hi5 hw6 hq7 => ?_)
  obtain ⟨e13, h⟩ := hq7
  subst e13
  refine V.pop (pc := 10) hG dX12_done_10 rfl ?_
  refine V.aload_n (pc := 11) hG dX12_done_11 rfl 0 rfl ?_
  refine V.getR (x := 538) (pc := 12) (ci := 14) (k := 46) (M := 49) (T := TX12) (o := 504) (kz := 46) hG a_504 a_504.n (by decide) hin_X12 rfl (by decide) (by decide) rfl kw_1738 rfl ((hw).1 (504, 46, 538) (by decide)) (by decide) dX12_done_12 ?_
  refine V.iconst (pc := 15) hG dX12_done_15 ?_
  refine V.iald (pc := 16) (z := 4) (o := 538) hG a_538 a_538.n ((sR_l rfl)) (by decide) dX12_done_16 ?_
  refine V.aload_n (pc := 17) hG dX12_done_17 rfl 0 rfl ?_
  refine V.getR (x := 538) (pc := 18) (ci := 14) (k := 46) (M := 49) (T := TX12) (o := 504) (kz := 46) hG a_504 a_504.n (by decide) hin_X12 rfl (by decide) (by decide) rfl kw_1738 rfl ((hw).1 (504, 46, 538) (by decide)) (by decide) dX12_done_18 ?_
  refine V.iconst (pc := 21) hG dX12_done_21 ?_
  refine V.iald (pc := 22) (z := 4) (o := 538) hG a_538 a_538.n ((sR_l rfl)) (by decide) dX12_done_22 ?_
  refine V.iadd (pc := 23) hG dX12_done_23 ?_
  refine V.aload_n (pc := 24) hG dX12_done_24 rfl 0 rfl ?_
  refine V.getR (x := 538) (pc := 25) (ci := 14) (k := 46) (M := 49) (T := TX12) (o := 504) (kz := 46) hG a_504 a_504.n (by decide) hin_X12 rfl (by decide) (by decide) rfl kw_1738 rfl ((hw).1 (504, 46, 538) (by decide)) (by decide) dX12_done_25 ?_
  refine V.iconst (pc := 28) hG dX12_done_28 ?_
  refine V.iald (pc := 29) (z := 4) (o := 538) hG a_538 a_538.n ((sR_l rfl)) (by decide) dX12_done_29 ?_
  refine V.iadd (pc := 30) hG dX12_done_30 ?_
  refine V.aload_n (pc := 31) hG dX12_done_31 rfl 0 rfl ?_
  refine V.getR (x := 538) (pc := 32) (ci := 14) (k := 46) (M := 49) (T := TX12) (o := 504) (kz := 46) hG a_504 a_504.n (by decide) hin_X12 rfl (by decide) (by decide) rfl kw_1738 rfl ((hw).1 (504, 46, 538) (by decide)) (by decide) dX12_done_32 ?_
  refine V.iconst (pc := 35) hG dX12_done_35 ?_
  refine V.iald (pc := 36) (z := 4) (o := 538) hG a_538 a_538.n ((sR_l rfl)) (by decide) dX12_done_36 ?_
  refine V.iadd (pc := 37) hG dX12_done_37 ?_
  exact fin dX12_done_38 ((sR_wr _)) rfl hi5 hw ⟨rfl, h⟩
set_option maxRecDepth 100000 in
set_option maxHeartbeats 4000000 in
theorem sm_X12_waitsFor (l : Launch) (Δ : Wd) {i r : MI} {p1 : Int} (hp1 : sR p1) {Q : Int → MI → Prop} (hi : okI i) (hw : Wf r) (h : wp_X12_waitsFor p1 i r Q) : Met l yX12_waitsFor (Cond.code yX12_waitsFor cX12_waitsFor 2 (some .int) :: gW) (sRm 2 50) (sPc Δ [.ref (sA Δ 504), .int (sJ p1)] i r) (sQi Δ (fun x i' r' => r = r' ∧ Q x i')) 0 0 (sFr Δ) := by
  refine Ct.i (ty := .int) (by decide) rfl (Nat.le_of_ble_eq_true rfl) (fun Γ Q0 hG fin => ?_)
  have hG : okG Γ Δ l (sRm 2 50) cX12_waitsFor "SchedularyModel" 2 := hG
  show V Γ Δ 542 false i r 0 0 Q0 0 [(0, .ref (sA Δ 504)), (1, .int (sJ p1))] []
  have jn72 : ∀ (k0j72 : Int) (ij72 : MI), sR k0j72 → okI ij72 → s72_X12_waitsFor k0j72 ij72 r Q → V Γ Δ 542 false ij72 r 0 0 Q0 72 [] [.int (sJ k0j72)] := by
    intro k0j72 ij72 hk0j72 hij72 h
    exact fin dX12_waitsFor_72 hk0j72 rfl hij72 hw ⟨rfl, h⟩
  have jn20 : ∀ (k1j20 : Int) (ij20 : MI), sR k1j20 → okI ij20 → s20_X12_waitsFor p1 k1j20 ij20 r Q → V Γ Δ 542 false ij20 r 0 0 Q0 20 [(0, .ref (sA Δ 504)), (1, .int (sJ p1))] [.int (sJ k1j20), .ref (sA Δ 504)] := by
    intro k1j20 ij20 hk1j20 hij20 h
    refine V.iconst (pc := 20) hG dX12_waitsFor_20 ?_
    refine V.callVi (pc := 21) (As := [.int (sJ k1j20), .int (sJ 1)]) (stk := []) hG (sm_X12_fails l Δ hk1j20 ((sR_l rfl)) hij20 hw h) mY_X12_fails kw_1853 kw_1855 kw_106 a_504 (by decide) (q := (RX12, TX12, 49)) rfl rfl ⟨Nat.le_of_ble_eq_true rfl, Nat.le_of_ble_eq_true rfl, Nat.le_of_ble_eq_true rfl, Nat.le_of_ble_eq_true rfl⟩ rfl (Nat.le_of_ble_eq_true rfl) dX12_waitsFor_21 rfl (fun v29 i30 r31 hv32 hi33 hw34 hq35 => ?_)
    obtain ⟨e56, h⟩ := hq35
    subst e56
    obtain ⟨t37, f38⟩ := h
    refine V.if_eq (pc := 24) (tgt := 29) hG hv32 dX12_waitsFor_24 (by decide) (fun c36 => ?_) (fun c36 => ?_)
    · have h := t37 c36
      clear t37 f38
      refine V.aload_n (pc := 29) hG dX12_waitsFor_29 rfl 0 rfl ?_
      refine V.iconst (pc := 30) hG dX12_waitsFor_30 ?_
      refine V.callVi (pc := 31) (As := [.int (sJ 0)]) (stk := []) hG (sm_X12_goRound l Δ ((sR_l rfl)) hi33 hw h) mY_X12_goRound kw_2237 kw_2239 kw_155 a_504 (by decide) (q := (RX12, TX12, 49)) rfl rfl ⟨Nat.le_of_ble_eq_true rfl, Nat.le_of_ble_eq_true rfl, Nat.le_of_ble_eq_true rfl, Nat.le_of_ble_eq_true rfl⟩ rfl (Nat.le_of_ble_eq_true rfl) dX12_waitsFor_31 rfl (fun v39 i40 r41 hv42 hi43 hw44 hq45 => ?_)
      obtain ⟨e54, h⟩ := hq45
      subst e54
      refine V.pop (pc := 34) hG dX12_waitsFor_34 rfl ?_
      refine V.aload_n (pc := 35) hG dX12_waitsFor_35 rfl 0 rfl ?_
      refine V.getR (x := 538) (pc := 36) (ci := 14) (k := 46) (M := 49) (T := TX12) (o := 504) (kz := 46) hG a_504 a_504.n (by decide) hin_X12 rfl (by decide) (by decide) rfl kw_1738 rfl ((hw).1 (504, 46, 538) (by decide)) (by decide) dX12_waitsFor_36 ?_
      refine V.iload_n (pc := 39) hG dX12_waitsFor_39 rfl 1 rfl ?_
      obtain ⟨g46, h⟩ := h
      refine V.iald (pc := 40) (z := 4) (o := 538) hG a_538 a_538.n hp1 g46 dX12_waitsFor_40 ?_
      refine V.aload_n (pc := 41) hG dX12_waitsFor_41 rfl 0 rfl ?_
      refine V.getR (x := 535) (pc := 42) (ci := 14) (k := 43) (M := 49) (T := TX12) (o := 504) (kz := 43) hG a_504 a_504.n (by decide) hin_X12 rfl (by decide) (by decide) rfl kw_1735 rfl ((hw).1 (504, 43, 535) (by decide)) (by decide) dX12_waitsFor_42 ?_
      refine V.iload_n (pc := 45) hG dX12_waitsFor_45 rfl 1 rfl ?_
      obtain ⟨g47, h⟩ := h
      refine V.iald (pc := 46) (z := 4) (o := 535) hG a_535 a_535.n hp1 g47 dX12_waitsFor_46 ?_
      obtain ⟨f50, t49⟩ := h
      refine V.icmp_ne (pc := 47) (tgt := 54) hG ((hi43 _ _)) ((hi43 _ _)) dX12_waitsFor_47 (by decide) (fun c48 => ?_) (fun c48 => ?_)
      · have h := t49 c48
        clear t49 f50
        refine V.aload_n (pc := 54) hG dX12_waitsFor_54 rfl 0 rfl ?_
        refine V.getR (x := 536) (pc := 55) (ci := 14) (k := 44) (M := 49) (T := TX12) (o := 504) (kz := 44) hG a_504 a_504.n (by decide) hin_X12 rfl (by decide) (by decide) rfl kw_1736 rfl ((hw).1 (504, 44, 536) (by decide)) (by decide) dX12_waitsFor_55 ?_
        refine V.bipush (pc := 58) hG dX12_waitsFor_58 (by decide) ?_
        refine V.iload_n (pc := 60) hG dX12_waitsFor_60 rfl 1 rfl ?_
        refine V.imul (pc := 61) hG dX12_waitsFor_61 ?_
        refine V.aload_n (pc := 62) hG dX12_waitsFor_62 rfl 0 rfl ?_
        refine V.getR (x := 538) (pc := 63) (ci := 14) (k := 46) (M := 49) (T := TX12) (o := 504) (kz := 46) hG a_504 a_504.n (by decide) hin_X12 rfl (by decide) (by decide) rfl kw_1738 rfl ((hw).1 (504, 46, 538) (by decide)) (by decide) dX12_waitsFor_63 ?_
        refine V.iload_n (pc := 66) hG dX12_waitsFor_66 rfl 1 rfl ?_
        obtain ⟨g51, h⟩ := h
        refine V.iald (pc := 67) (z := 4) (o := 538) hG a_538 a_538.n hp1 g51 dX12_waitsFor_67 ?_
        refine V.iadd (pc := 68) hG dX12_waitsFor_68 ?_
        obtain ⟨g52, h⟩ := h
        refine V.iald (pc := 69) (z := 64) (o := 536) hG a_536 a_536.n ((sR_wr _)) g52 dX12_waitsFor_69 ?_
        refine V.iconst (pc := 70) hG dX12_waitsFor_70 ?_
        refine V.idiv (pc := 71) hG ((hi43 _ _)) ((sR_l rfl)) (by decide) dX12_waitsFor_71 ?_
        refine V.pick [] rfl ?_
        exact jn72 (wr (Int.tdiv (i40 536 (wr (wr (16 * p1) + i40 538 p1))) 2)) i40 ((sR_wr _)) hi43 h
      · have h := f50 c48
        clear t49 f50
        refine V.iconst (pc := 50) hG dX12_waitsFor_50 ?_
        refine V.goto (pc := 51) (tgt := 72) hG dX12_waitsFor_51 (by decide) ?_
        refine V.pick [] rfl ?_
        exact jn72 (-1) i40 ((sR_l rfl)) hi43 h
    · have h := f38 c36
      clear t37 f38
      refine V.iconst (pc := 27) hG dX12_waitsFor_27 ?_
      exact fin dX12_waitsFor_28 ((sR_l rfl)) rfl hi33 hw ⟨rfl, h⟩
  refine V.aload_n (pc := 0) hG dX12_waitsFor_0 rfl 0 rfl ?_
  refine V.iconst (pc := 1) hG dX12_waitsFor_1 ?_
  refine V.putI (pc := 2) (ci := 14) (k := 0) (M := 49) (T := TX12) (o := 504) (kz := 0) hG a_504 a_504.n (by decide) hin_X12 rfl (by decide) (by decide) rfl kw_1692 rfl tyX12 tyX12_ok nmX12 rfl (ty := tyX12 0) (tyX12_ok 0 (by decide)) rfl rfl dX12_waitsFor_2 ?_
  refine V.aload_n (pc := 5) hG dX12_waitsFor_5 rfl 0 rfl ?_
  refine V.iload_n (pc := 6) hG dX12_waitsFor_6 rfl 1 rfl ?_
  refine V.iconst (pc := 7) hG dX12_waitsFor_7 ?_
  refine V.iconst (pc := 8) hG dX12_waitsFor_8 ?_
  refine V.callSi (pc := 9) (As := [.int (sJ p1), .int (sJ 0), .int (sJ 3)]) (stk := [.ref (sA Δ 504)]) hG (sm_X12_in l Δ hp1 ((sR_l rfl)) ((sR_l rfl)) ((okI_st hi ((sR_l rfl)))) hw h) mY_X12_in kw_1848 kw_1849 ⟨Nat.le_of_ble_eq_true rfl, Nat.le_of_ble_eq_true rfl, Nat.le_of_ble_eq_true rfl, Nat.le_of_ble_eq_true rfl⟩ rfl (Nat.le_of_ble_eq_true rfl) dX12_waitsFor_9 rfl (fun v57 i58 r59 hv60 hi61 hw62 hq63 => ?_)
  obtain ⟨e67, e68, h⟩ := hq63
  subst e67
  subst e68
  obtain ⟨f66, t65⟩ := h
  refine V.if_ne (pc := 12) (tgt := 19) hG hv60 dX12_waitsFor_12 (by decide) (fun c64 => ?_) (fun c64 => ?_)
  · have h := t65 c64
    clear t65 f66
    refine V.iconst (pc := 19) hG dX12_waitsFor_19 ?_
    exact jn20 0 (st i 504 0 0) ((sR_l rfl)) ((okI_st hi ((sR_l rfl)))) h
  · have h := f66 c64
    clear t65 f66
    refine V.iconst (pc := 15) hG dX12_waitsFor_15 ?_
    refine V.goto (pc := 16) (tgt := 20) hG dX12_waitsFor_16 (by decide) ?_
    exact jn20 1 (st i 504 0 0) ((sR_l rfl)) ((okI_st hi ((sR_l rfl)))) h
set_option maxRecDepth 100000 in
set_option maxHeartbeats 4000000 in
theorem sm_X12_areLocked (l : Launch) (Δ : Wd) {i r : MI}   {Q : Int → MI → Prop} (hi : okI i) (hw : Wf r) (h : wp_X12_areLocked  i r Q) : Met l yX12_areLocked (Cond.code yX12_areLocked cX12_areLocked 1 (some .boolean) :: gW) (sRm 2 50) (sPc Δ [.ref (sA Δ 504)] i r) (sQi Δ (fun x i' r' => r = r' ∧ Q x i')) 0 0 (sFr Δ) := by
  refine Ct.i (ty := .boolean) (by decide) rfl (Nat.le_of_ble_eq_true rfl) (fun Γ Q0 hG fin => ?_)
  have hG : okG Γ Δ l (sRm 2 50) cX12_areLocked "SchedularyModel" 1 := hG
  show V Γ Δ 542 false i r 0 0 Q0 0 [(0, .ref (sA Δ 504))] []
  refine V.aload_n (pc := 0) hG dX12_areLocked_0 rfl 0 rfl ?_
  refine V.iconst (pc := 1) hG dX12_areLocked_1 ?_
  refine V.putI (pc := 2) (ci := 14) (k := 0) (M := 49) (T := TX12) (o := 504) (kz := 0) hG a_504 a_504.n (by decide) hin_X12 rfl (by decide) (by decide) rfl kw_1692 rfl tyX12 tyX12_ok nmX12 rfl (ty := tyX12 0) (tyX12_ok 0 (by decide)) rfl rfl dX12_areLocked_2 ?_
  refine V.aload_n (pc := 5) hG dX12_areLocked_5 rfl 0 rfl ?_
  refine V.iconst (pc := 6) hG dX12_areLocked_6 ?_
  refine V.callVi (pc := 7) (As := [.int (sJ 0)]) (stk := []) hG (sm_X12_goRound l Δ ((sR_l rfl)) ((okI_st hi ((sR_l rfl)))) hw h) mY_X12_goRound kw_2237 kw_2239 kw_155 a_504 (by decide) (q := (RX12, TX12, 49)) rfl rfl ⟨Nat.le_of_ble_eq_true rfl, Nat.le_of_ble_eq_true rfl, Nat.le_of_ble_eq_true rfl, Nat.le_of_ble_eq_true rfl⟩ rfl (Nat.le_of_ble_eq_true rfl) dX12_areLocked_7 rfl (fun v1 i2 r3 hv4 hi5 hw6 hq7 => ?_)
  obtain ⟨e10, h⟩ := hq7
  subst e10
  obtain ⟨g8, h⟩ := h
  exact fin dX12_areLocked_10 hv4 (nar_z g8) hi5 hw ⟨rfl, h⟩
set_option maxRecDepth 100000 in
set_option maxHeartbeats 4000000 in
theorem sm_X12_leastDepth (l : Launch) (Δ : Wd) {i r : MI}   {Q : Int → MI → Prop} (hi : okI i) (hw : Wf r) (h : wp_X12_leastDepth  i r Q) : Met l yX12_leastDepth (Cond.code yX12_leastDepth cX12_leastDepth 2 (some .int) :: gW) (sRm 2 50) (sPc Δ [.ref (sA Δ 504)] i r) (sQi Δ (fun x i' r' => r = r' ∧ Q x i')) 0 0 (sFr Δ) := by
  refine Ct.i (ty := .int) (by decide) rfl (Nat.le_of_ble_eq_true rfl) (fun Γ Q0 hG fin => ?_)
  have hG : okG Γ Δ l (sRm 2 50) cX12_leastDepth "SchedularyModel" 2 := hG
  show V Γ Δ 542 false i r 0 0 Q0 0 [(0, .ref (sA Δ 504))] []
  refine V.aload_n (pc := 0) hG dX12_leastDepth_0 rfl 0 rfl ?_
  refine V.iconst (pc := 1) hG dX12_leastDepth_1 ?_
  refine V.putI (pc := 2) (ci := 14) (k := 0) (M := 49) (T := TX12) (o := 504) (kz := 0) hG a_504 a_504.n (by decide) hin_X12 rfl (by decide) (by decide) rfl kw_1692 rfl tyX12 tyX12_ok nmX12 rfl (ty := tyX12 0) (tyX12_ok 0 (by decide)) rfl rfl dX12_leastDepth_2 ?_
  refine V.iconst (pc := 5) hG dX12_leastDepth_5 ?_
  refine V.istore_n (pc := 6) (lv' := [(1, .int (sJ 1)), (0, .ref (sA Δ 504))]) hG dX12_leastDepth_6 rfl (by decide) rfl ?_
  obtain ⟨n16, h⟩ := h
  have lp7 : ∀ (m7 : Nat) (x1_7 : Int) (i_7 : MI), sR x1_7 → okI i_7 → LoopP (b7_X12_leastDepth r Q) m7 (x1_7, i_7) → V Γ Δ 542 false i_7 r 0 0 Q0 7 [(0, .ref (sA Δ 504)), (1, .int (sJ x1_7))] [] := by
    intro m7
    induction m7 with
    | zero => intro x1_7 i_7 hx1_7 hi_7 h; exact h.elim
    | succ m7 ih7 =>
      intro x1_7 i_7 hx1_7 hi_7 h
      have h := LoopP_succ h
      refine V.iload_n (pc := 7) hG dX12_leastDepth_7 rfl 1 rfl ?_
      refine V.bipush (pc := 8) hG dX12_leastDepth_8 (by decide) ?_
      obtain ⟨t18, f19⟩ := h
      refine V.icmp_gt (pc := 10) (tgt := 29) hG hx1_7 ((sR_l rfl)) dX12_leastDepth_10 (by decide) (fun c17 => ?_) (fun c17 => ?_)
      · have h := t18 c17
        clear t18 f19
        refine V.aload_n (pc := 29) hG dX12_leastDepth_29 rfl 0 rfl ?_
        refine V.iconst (pc := 30) hG dX12_leastDepth_30 ?_
        refine V.putI (pc := 31) (ci := 14) (k := 0) (M := 49) (T := TX12) (o := 504) (kz := 0) hG a_504 a_504.n (by decide) hin_X12 rfl (by decide) (by decide) rfl kw_1692 rfl tyX12 tyX12_ok nmX12 rfl (ty := tyX12 0) (tyX12_ok 0 (by decide)) rfl rfl dX12_leastDepth_31 ?_
        refine V.iconst (pc := 34) hG dX12_leastDepth_34 ?_
        exact fin dX12_leastDepth_35 ((sR_l rfl)) rfl ((okI_st hi_7 ((sR_l rfl)))) hw ⟨rfl, h⟩
      · have h := f19 c17
        clear t18 f19
        refine V.aload_n (pc := 13) hG dX12_leastDepth_13 rfl 0 rfl ?_
        refine V.iload_n (pc := 14) hG dX12_leastDepth_14 rfl 1 rfl ?_
        refine V.callVi (pc := 15) (As := [.int (sJ x1_7)]) (stk := []) hG (sm_X12_goRound l Δ hx1_7 hi_7 hw h) mY_X12_goRound kw_2237 kw_2239 kw_155 a_504 (by decide) (q := (RX12, TX12, 49)) rfl rfl ⟨Nat.le_of_ble_eq_true rfl, Nat.le_of_ble_eq_true rfl, Nat.le_of_ble_eq_true rfl, Nat.le_of_ble_eq_true rfl⟩ rfl (Nat.le_of_ble_eq_true rfl) dX12_leastDepth_15 rfl (fun v20 i21 r22 hv23 hi24 hw25 hq26 => ?_)
        obtain ⟨e31, h⟩ := hq26
        subst e31
        obtain ⟨f29, t28⟩ := h
        refine V.if_ne (pc := 18) (tgt := 23) hG hv23 dX12_leastDepth_18 (by decide) (fun c27 => ?_) (fun c27 => ?_)
        · have h := t28 c27
          clear t28 f29
          refine V.iinc (pc := 23) (lv' := [(1, .int (sJ (wr (x1_7 + 1)))), (0, .ref (sA Δ 504))]) hG dX12_leastDepth_23 1 rfl (by decide) rfl ?_
          refine V.goto (pc := 26) (tgt := 7) hG dX12_leastDepth_26 (by decide) ?_
          refine V.pick [1, 0] rfl ?_
          exact ih7 (wr (x1_7 + 1)) i21 ((sR_wr _)) hi24 h
        · have h := f29 c27
          clear t28 f29
          refine V.iload_n (pc := 21) hG dX12_leastDepth_21 rfl 1 rfl ?_
          exact fin dX12_leastDepth_22 hx1_7 rfl hi24 hw ⟨rfl, h⟩
  refine V.pick [1, 0] rfl ?_
  exact lp7 n16 1 (st i 504 0 0) ((sR_l rfl)) ((okI_st hi ((sR_l rfl)))) h
set_option maxRecDepth 100000 in
set_option maxHeartbeats 4000000 in
theorem sm_X12_checksum (l : Launch) (Δ : Wd) {i r : MI}   {Q : Int64 → MI → Prop} (hi : okI i) (hw : Wf r) (h : wp_X12_checksum  i r Q) : Met l yX12_checksum (Cond.code yX12_checksum cX12_checksum 4 (some .long) :: gW) (sRm 6 140) (sPc Δ [.ref (sA Δ 504)] i r) (sQl Δ (fun x i' r' => r = r' ∧ Q x i')) 0 0 (sFr Δ) := by
  refine Ct.l (by decide) rfl (Nat.le_of_ble_eq_true rfl) (fun Γ Q0 hG fin => ?_)
  have hG : okG Γ Δ l (sRm 6 140) cX12_checksum "SchedularyModel" 4 := hG
  show V Γ Δ 542 false i r 0 0 Q0 0 [(0, .ref (sA Δ 504))] []
  refine V.aload_n (pc := 0) hG dX12_checksum_0 rfl 0 rfl ?_
  refine V.iconst (pc := 1) hG dX12_checksum_1 ?_
  refine V.putI (pc := 2) (ci := 14) (k := 0) (M := 49) (T := TX12) (o := 504) (kz := 0) hG a_504 a_504.n (by decide) hin_X12 rfl (by decide) (by decide) rfl kw_1692 rfl tyX12 tyX12_ok nmX12 rfl (ty := tyX12 0) (tyX12_ok 0 (by decide)) rfl rfl dX12_checksum_2 ?_
  refine V.aload_n (pc := 5) hG dX12_checksum_5 rfl 0 rfl ?_
  refine V.callVv (pc := 6) (As := []) (stk := []) hG (sm_X12_list l Δ  ((okI_st hi ((sR_l rfl)))) hw h) mY_X12_list kw_2101 kw_2103 kw_138 a_504 (by decide) (q := (RX12, TX12, 49)) rfl rfl ⟨Nat.le_of_ble_eq_true rfl, Nat.le_of_ble_eq_true rfl, Nat.le_of_ble_eq_true rfl, Nat.le_of_ble_eq_true rfl⟩ rfl (Nat.le_of_ble_eq_true rfl) dX12_checksum_6 rfl (fun i2 r3 hi5 hw6 hq7 => ?_)
  obtain ⟨e29, h⟩ := hq7
  subst e29
  refine V.aload_n (pc := 9) hG dX12_checksum_9 rfl 0 rfl ?_
  refine V.callVi (pc := 10) (As := []) (stk := []) hG (sm_X12_placeAll l Δ  hi5 hw h) mY_X12_placeAll kw_2153 kw_2155 kw_145 a_504 (by decide) (q := (RX12, TX12, 49)) rfl rfl ⟨Nat.le_of_ble_eq_true rfl, Nat.le_of_ble_eq_true rfl, Nat.le_of_ble_eq_true rfl, Nat.le_of_ble_eq_true rfl⟩ rfl (Nat.le_of_ble_eq_true rfl) dX12_checksum_10 rfl (fun v8 i9 r10 hv11 hi12 hw13 hq14 => ?_)
  obtain ⟨e27, h⟩ := hq14
  subst e27
  refine V.pop (pc := 13) hG dX12_checksum_13 rfl ?_
  refine V.lconst (pc := 14) (x := 0) hG dX12_checksum_14 rfl ?_
  refine V.lstore_n (pc := 15) (lv' := [(1, .long 0), (0, .ref (sA Δ 504))]) hG dX12_checksum_15 rfl (by decide) rfl ?_
  refine V.iconst (pc := 16) hG dX12_checksum_16 ?_
  refine V.istore_n (pc := 17) (lv' := [(3, .int (sJ 0)), (1, .long 0), (0, .ref (sA Δ 504))]) hG dX12_checksum_17 rfl (by decide) rfl ?_
  obtain ⟨n20, h⟩ := h
  have lp18 : ∀ (m18 : Nat) (x1_18 : Int64) (x3_18 : Int), sR x3_18 → LoopP (b18_X12_checksum i9 r Q) m18 (x1_18, x3_18) → V Γ Δ 542 false i9 r 0 0 Q0 18 [(0, .ref (sA Δ 504)), (1, .long x1_18), (3, .int (sJ x3_18))] [] := by
    intro m18
    induction m18 with
    | zero => intro x1_18 x3_18 hx3_18 h; exact h.elim
    | succ m18 ih18 =>
      intro x1_18 x3_18 hx3_18 h
      have h := LoopP_succ h
      refine V.iload_n (pc := 18) hG dX12_checksum_18 rfl 2 rfl ?_
      refine V.aload_n (pc := 19) hG dX12_checksum_19 rfl 0 rfl ?_
      refine V.getI (pc := 20) (ci := 14) (k := 21) (M := 49) (T := TX12) (o := 504) (kz := 21) hG a_504 a_504.n (by decide) hin_X12 rfl (by decide) (by decide) rfl kw_1713 rfl dX12_checksum_20 ?_
      obtain ⟨t22, f23⟩ := h
      refine V.icmp_ge (pc := 23) (tgt := 57) hG hx3_18 ((hi12 _ _)) dX12_checksum_23 (by decide) (fun c21 => ?_) (fun c21 => ?_)
      · have h := t22 c21
        clear t22 f23
        refine V.lload_n (pc := 57) hG dX12_checksum_57 rfl 1 rfl ?_
        exact fin dX12_checksum_58 hi12 hw ⟨rfl, h⟩
      · have h := f23 c21
        clear t22 f23
        refine V.ldc2 (pc := 26) (x := 31) hG kw_2261 dX12_checksum_26 ?_
        refine V.lload_n (pc := 29) hG dX12_checksum_29 rfl 1 rfl ?_
        refine V.lmul (pc := 30) hG dX12_checksum_30 ?_
        refine V.aload_n (pc := 31) hG dX12_checksum_31 rfl 0 rfl ?_
        refine V.getR (x := 531) (pc := 32) (ci := 14) (k := 39) (M := 49) (T := TX12) (o := 504) (kz := 39) hG a_504 a_504.n (by decide) hin_X12 rfl (by decide) (by decide) rfl kw_1731 rfl ((hw).1 (504, 39, 531) (by decide)) (by decide) dX12_checksum_32 ?_
        refine V.iload_n (pc := 35) hG dX12_checksum_35 rfl 2 rfl ?_
        obtain ⟨g24, h⟩ := h
        refine V.iald (pc := 36) (z := 96) (o := 531) hG a_531 a_531.n hx3_18 g24 dX12_checksum_36 ?_
        refine V.i2l (pc := 37) hG dX12_checksum_37 ?_
        refine V.ladd (pc := 38) hG dX12_checksum_38 ?_
        refine V.bipush (pc := 39) hG dX12_checksum_39 (by decide) ?_
        refine V.aload_n (pc := 41) hG dX12_checksum_41 rfl 0 rfl ?_
        refine V.getR (x := 532) (pc := 42) (ci := 14) (k := 40) (M := 49) (T := TX12) (o := 504) (kz := 40) hG a_504 a_504.n (by decide) hin_X12 rfl (by decide) (by decide) rfl kw_1732 rfl ((hw).1 (504, 40, 532) (by decide)) (by decide) dX12_checksum_42 ?_
        refine V.iload_n (pc := 45) hG dX12_checksum_45 rfl 2 rfl ?_
        obtain ⟨g25, h⟩ := h
        refine V.iald (pc := 46) (z := 96) (o := 532) hG a_532 a_532.n hx3_18 g25 dX12_checksum_46 ?_
        refine V.imul (pc := 47) hG dX12_checksum_47 ?_
        refine V.i2l (pc := 48) hG dX12_checksum_48 ?_
        refine V.ladd (pc := 49) hG dX12_checksum_49 ?_
        refine V.lstore_n (pc := 50) (lv' := [(1, .long (((31 * x1_18) + ((sJ (i9 531 x3_18)).toInt64)) + ((sJ (wr (7 * i9 532 x3_18))).toInt64))), (0, .ref (sA Δ 504)), (3, .int (sJ x3_18))]) hG dX12_checksum_50 rfl (by decide) rfl ?_
        refine V.iinc (pc := 51) (lv' := [(3, .int (sJ (wr (x3_18 + 1)))), (1, .long (((31 * x1_18) + ((sJ (i9 531 x3_18)).toInt64)) + ((sJ (wr (7 * i9 532 x3_18))).toInt64))), (0, .ref (sA Δ 504))]) hG dX12_checksum_51 2 rfl (by decide) rfl ?_
        refine V.goto (pc := 54) (tgt := 18) hG dX12_checksum_54 (by decide) ?_
        refine V.pick [2, 1, 0] rfl ?_
        exact ih18 (((31 * x1_18) + ((sJ (i9 531 x3_18)).toInt64)) + ((sJ (wr (7 * i9 532 x3_18))).toInt64)) (wr (x3_18 + 1)) ((sR_wr _)) h
  refine V.pick [2, 1, 0] rfl ?_
  exact lp18 n20 0 0 ((sR_l rfl)) h
set_option maxRecDepth 100000 in
set_option maxHeartbeats 4000000 in
theorem sm_X12_isSound (l : Launch) (Δ : Wd) {i r : MI}   {Q : Int → MI → Prop} (hi : okI i) (hw : Wf r) (h : wp_X12_isSound  i r Q) : Met l yX12_isSound (Cond.code yX12_isSound cX12_isSound 1 (some .boolean) :: gW) (sRm 0 0) (sPc Δ [.ref (sA Δ 504)] i r) (sQi Δ (fun x i' r' => r = r' ∧ Q x i')) 0 0 (sFr Δ) := by
  refine Ct.i (ty := .boolean) (by decide) rfl (Nat.le_of_ble_eq_true rfl) (fun Γ Q0 hG fin => ?_)
  have hG : okG Γ Δ l (sRm 0 0) cX12_isSound "SchedularyModel" 1 := hG
  show V Γ Δ 542 false i r 0 0 Q0 0 [(0, .ref (sA Δ 504))] []
  refine V.aload_n (pc := 0) hG dX12_isSound_0 rfl 0 rfl ?_
  refine V.iconst (pc := 1) hG dX12_isSound_1 ?_
  refine V.putI (pc := 2) (ci := 14) (k := 0) (M := 49) (T := TX12) (o := 504) (kz := 0) hG a_504 a_504.n (by decide) hin_X12 rfl (by decide) (by decide) rfl kw_1692 rfl tyX12 tyX12_ok nmX12 rfl (ty := tyX12 0) (tyX12_ok 0 (by decide)) rfl rfl dX12_isSound_2 ?_
  refine V.iconst (pc := 5) hG dX12_isSound_5 ?_
  exact fin dX12_isSound_6 ((sR_l rfl)) (nar_z (by decide)) ((okI_st hi ((sR_l rfl)))) hw ⟨rfl, h⟩
set_option maxRecDepth 100000 in
set_option maxHeartbeats 4000000 in
theorem sm_J3_checkFromToIndex_8c36e (l : Launch) (Δ : Wd) {i r : MI} {p0 : Int} {p1 : Int} {p2 : Int} {w3 : Value} (hp0 : sR p0) (hp1 : sR p1) (hp2 : sR p2) (hw3 : w3.category = 1) {Q : Int → Prop} (hi : okI i) (hw : Wf r) (h : wp_J3_checkFromToIndex_8c36e p0 p1 p2 i r Q) : Met l yJ3_checkFromToIndex_8c36e (Cond.code yJ3_checkFromToIndex_8c36e cJ3_checkFromToIndex_8c36e 4 (some .int) :: gW) (sRm 0 0) (sPc Δ [.int (sJ p0), .int (sJ p1), .int (sJ p2), w3] i r) (sQi Δ (fun x i' r' => i = i' ∧ r = r' ∧ Q x)) 0 0 (sFr Δ) := by
  refine Ct.i (ty := .int) (by decide) rfl (by simp only [lg_sl, List.flatMap_cons, List.flatMap_nil, hw3]; exact Nat.le_of_ble_eq_true rfl) (fun Γ Q0 hG fin => ?_)
  have hG : okG Γ Δ l (sRm 0 0) cJ3_checkFromToIndex_8c36e "jdk/internal/util/Preconditions" 4 := hG
  show V Γ Δ 542 false i r 0 0 Q0 0 [(0, .int (sJ p0)), (1, .int (sJ p1)), (2, .int (sJ p2)), (3, w3)] []
  have jn14 : s14_J3_checkFromToIndex_8c36e p0 p1 p2 i r Q → V Γ Δ 542 false i r 0 0 Q0 14 [(0, .int (sJ p0)), (1, .int (sJ p1)), (2, .int (sJ p2)), (3, w3)] [] := by
    intro h
    exact h.elim
  refine V.iload_n (pc := 0) hG dJ3_checkFromToIndex_8c36e_0 rfl 0 rfl ?_
  obtain ⟨t2, f3⟩ := h
  refine V.if_lt (pc := 1) (tgt := 14) hG hp0 dJ3_checkFromToIndex_8c36e_1 (by decide) (fun c1 => ?_) (fun c1 => ?_)
  · have h := t2 c1
    clear t2 f3
    exact jn14 h
  · have h := f3 c1
    clear t2 f3
    refine V.iload_n (pc := 4) hG dJ3_checkFromToIndex_8c36e_4 rfl 0 rfl ?_
    refine V.iload_n (pc := 5) hG dJ3_checkFromToIndex_8c36e_5 rfl 1 rfl ?_
    obtain ⟨t5, f6⟩ := h
    refine V.icmp_gt (pc := 6) (tgt := 14) hG hp0 hp1 dJ3_checkFromToIndex_8c36e_6 (by decide) (fun c4 => ?_) (fun c4 => ?_)
    · have h := t5 c4
      clear t5 f6
      exact jn14 h
    · have h := f6 c4
      clear t5 f6
      refine V.iload_n (pc := 9) hG dJ3_checkFromToIndex_8c36e_9 rfl 1 rfl ?_
      refine V.iload_n (pc := 10) hG dJ3_checkFromToIndex_8c36e_10 rfl 2 rfl ?_
      obtain ⟨t8, f9⟩ := h
      refine V.icmp_le (pc := 11) (tgt := 22) hG hp1 hp2 dJ3_checkFromToIndex_8c36e_11 (by decide) (fun c7 => ?_) (fun c7 => ?_)
      · have h := t8 c7
        clear t8 f9
        refine V.iload_n (pc := 22) hG dJ3_checkFromToIndex_8c36e_22 rfl 0 rfl ?_
        exact fin dJ3_checkFromToIndex_8c36e_23 hp0 rfl hi hw ⟨rfl, rfl, h⟩
      · have h := f9 c7
        clear t8 f9
        exact jn14 h
set_option maxRecDepth 100000 in
set_option maxHeartbeats 4000000 in
theorem sm_J0_checkBoundsBeginEnd_23922 (l : Launch) (Δ : Wd) {i r : MI} {p0 : Int} {p1 : Int} {p2 : Int} (hp0 : sR p0) (hp1 : sR p1) (hp2 : sR p2) {Q : Prop} (hi : okI i) (hw : Wf r) (h : wp_J0_checkBoundsBeginEnd_23922 p0 p1 p2 i r Q) : Met l yJ0_checkBoundsBeginEnd_23922 (Cond.code yJ0_checkBoundsBeginEnd_23922 cJ0_checkBoundsBeginEnd_23922 3 none :: gW) (sRm 1 23) (sPc Δ [.int (sJ p0), .int (sJ p1), .int (sJ p2)] i r) (sQv Δ (fun i' r' => i = i' ∧ r = r' ∧ Q)) 0 0 (sFr Δ) := by
  refine Ct.v (by decide) rfl (Nat.le_of_ble_eq_true rfl) (fun Γ Q0 hG fin => ?_)
  have hG : okG Γ Δ l (sRm 1 23) cJ0_checkBoundsBeginEnd_23922 "java/lang/String" 3 := hG
  show V Γ Δ 542 false i r 0 0 Q0 0 [(0, .int (sJ p0)), (1, .int (sJ p1)), (2, .int (sJ p2))] []
  refine V.iload_n (pc := 0) hG dJ0_checkBoundsBeginEnd_23922_0 rfl 0 rfl ?_
  refine V.iload_n (pc := 1) hG dJ0_checkBoundsBeginEnd_23922_1 rfl 1 rfl ?_
  refine V.iload_n (pc := 2) hG dJ0_checkBoundsBeginEnd_23922_2 rfl 2 rfl ?_
  refine V.sfmt (pc := 3) hG kw_706 dJ0_checkBoundsBeginEnd_23922_3 (fun w1 hw1 => ?_)
  refine V.callSi (pc := 6) (As := [.int (sJ p0), .int (sJ p1), .int (sJ p2), w1]) (stk := []) hG (sm_J3_checkFromToIndex_8c36e l Δ hp0 hp1 hp2 hw1 hi hw h) mY_J3_checkFromToIndex_8c36e kw_708 kw_709 ⟨Nat.le_of_ble_eq_true rfl, Nat.le_of_ble_eq_true rfl, Nat.le_of_ble_eq_true rfl, Nat.le_of_ble_eq_true rfl⟩ rfl (Nat.le_of_ble_eq_true rfl) dJ0_checkBoundsBeginEnd_23922_6 rfl (fun v2 i3 r4 hv5 hi6 hw7 hq8 => ?_)
  obtain ⟨e9, e10, h⟩ := hq8
  subst e9
  subst e10
  refine V.pop (pc := 9) hG dJ0_checkBoundsBeginEnd_23922_9 rfl ?_
  exact fin dJ0_checkBoundsBeginEnd_23922_10 hi hw ⟨rfl, rfl, h⟩
