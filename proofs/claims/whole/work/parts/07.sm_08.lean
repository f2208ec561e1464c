set_option maxRecDepth 100000 in
set_option maxHeartbeats 4000000 in
theorem sm_X12_noNode (l : Launch) (Δ : Wd) {i r : MI} {p1 : Int} (hp1 : sR p1) {Q : Int → Prop} (hi : okI i) (hw : Wf r) (h : wp_X12_noNode p1 i r Q) : Met l yX12_noNode (Cond.code yX12_noNode cX12_noNode 2 (some .boolean) :: gW) (sRm 1 22) (sPc Δ [.ref (sA Δ 504), .int (sJ p1)] i r) (sQi Δ (fun x i' r' => i = i' ∧ r = r' ∧ Q x)) 0 0 (sFr Δ) := by
  refine Ct.i (ty := .boolean) (by decide) rfl (Nat.le_of_ble_eq_true rfl) (fun Γ Q0 hG fin => ?_)
  have hG : okG Γ Δ l (sRm 1 22) cX12_noNode "SchedularyModel" 2 := hG
  show V Γ Δ 542 false i r 0 0 Q0 0 [(0, .ref (sA Δ 504)), (1, .int (sJ p1))] []
  have jn19 : ∀ (k0j19 : Int), sR k0j19 → s19_X12_noNode k0j19 i r Q → V Γ Δ 542 false i r 0 0 Q0 19 [] [.int (sJ k0j19)] := by
    intro k0j19 hk0j19 h
    obtain ⟨g2, h⟩ := h
    exact fin dX12_noNode_19 hk0j19 (nar_z g2) hi hw ⟨rfl, rfl, h⟩
  refine V.iload_n (pc := 0) hG dX12_noNode_0 rfl 1 rfl ?_
  refine V.iconst (pc := 1) hG dX12_noNode_1 ?_
  refine V.aload_n (pc := 2) hG dX12_noNode_2 rfl 0 rfl ?_
  refine V.getI (pc := 3) (ci := 14) (k := 21) (M := 49) (T := TX12) (o := 504) (kz := 21) hG a_504 a_504.n (by decide) hin_X12 rfl (by decide) (by decide) rfl kw_1713 rfl dX12_noNode_3 ?_
  refine V.iconst (pc := 6) hG dX12_noNode_6 ?_
  refine V.isub (pc := 7) hG dX12_noNode_7 ?_
  refine V.callSi (pc := 8) (As := [.int (sJ p1), .int (sJ 0), .int (sJ (wr (i 504 21 - 1)))]) (stk := []) hG (sm_X12_in l Δ hp1 ((sR_l rfl)) ((sR_wr _)) hi hw h) mY_X12_in kw_1848 kw_1849 ⟨Nat.le_of_ble_eq_true rfl, Nat.le_of_ble_eq_true rfl, Nat.le_of_ble_eq_true rfl, Nat.le_of_ble_eq_true rfl⟩ rfl (Nat.le_of_ble_eq_true rfl) dX12_noNode_8 rfl (fun v3 i4 r5 hv6 hi7 hw8 hq9 => ?_)
  obtain ⟨e13, e14, h⟩ := hq9
  subst e13
  subst e14
  obtain ⟨f12, t11⟩ := h
  refine V.if_ne (pc := 11) (tgt := 18) hG hv6 dX12_noNode_11 (by decide) (fun c10 => ?_) (fun c10 => ?_)
  · have h := t11 c10
    clear t11 f12
    refine V.iconst (pc := 18) hG dX12_noNode_18 ?_
    refine V.pick [] rfl ?_
    exact jn19 0 ((sR_l rfl)) h
  · have h := f12 c10
    clear t11 f12
    refine V.iconst (pc := 14) hG dX12_noNode_14 ?_
    refine V.goto (pc := 15) (tgt := 19) hG dX12_noNode_15 (by decide) ?_
    refine V.pick [] rfl ?_
    exact jn19 1 ((sR_l rfl)) h
set_option maxRecDepth 100000 in
set_option maxHeartbeats 4000000 in
theorem sm_X12_kindOf (l : Launch) (Δ : Wd) {i r : MI} {p1 : Int} (hp1 : sR p1) {Q : Int → MI → Prop} (hi : okI i) (hw : Wf r) (h : wp_X12_kindOf p1 i r Q) : Met l yX12_kindOf (Cond.code yX12_kindOf cX12_kindOf 2 (some .char) :: gW) (sRm 4 94) (sPc Δ [.ref (sA Δ 504), .int (sJ p1)] i r) (sQi Δ (fun x i' r' => r = r' ∧ Q x i')) 0 0 (sFr Δ) := by
  refine Ct.i (ty := .char) (by decide) rfl (Nat.le_of_ble_eq_true rfl) (fun Γ Q0 hG fin => ?_)
  have hG : okG Γ Δ l (sRm 4 94) cX12_kindOf "SchedularyModel" 2 := hG
  show V Γ Δ 542 false i r 0 0 Q0 0 [(0, .ref (sA Δ 504)), (1, .int (sJ p1))] []
  have jn37 : ∀ (k0j37 : Int) (ij37 : MI), sR k0j37 → okI ij37 → s37_X12_kindOf k0j37 ij37 r Q → V Γ Δ 542 false ij37 r 0 0 Q0 37 [] [.int (sJ k0j37)] := by
    intro k0j37 ij37 hk0j37 hij37 h
    obtain ⟨g2, h⟩ := h
    exact fin dX12_kindOf_37 hk0j37 (nar_c g2) hij37 hw ⟨rfl, h⟩
  refine V.aload_n (pc := 0) hG dX12_kindOf_0 rfl 0 rfl ?_
  refine V.iconst (pc := 1) hG dX12_kindOf_1 ?_
  refine V.putI (pc := 2) (ci := 14) (k := 0) (M := 49) (T := TX12) (o := 504) (kz := 0) hG a_504 a_504.n (by decide) hin_X12 rfl (by decide) (by decide) rfl kw_1692 rfl tyX12 tyX12_ok nmX12 rfl (ty := tyX12 0) (tyX12_ok 0 (by decide)) rfl rfl dX12_kindOf_2 ?_
  refine V.aload_n (pc := 5) hG dX12_kindOf_5 rfl 0 rfl ?_
  refine V.callVv (pc := 6) (As := []) (stk := []) hG (sm_X12_build l Δ  ((okI_st hi ((sR_l rfl)))) hw h) mY_X12_build kw_1910 kw_1912 kw_116 a_504 (by decide) (q := (RX12, TX12, 49)) rfl rfl ⟨Nat.le_of_ble_eq_true rfl, Nat.le_of_ble_eq_true rfl, Nat.le_of_ble_eq_true rfl, Nat.le_of_ble_eq_true rfl⟩ rfl (Nat.le_of_ble_eq_true rfl) dX12_kindOf_6 rfl (fun i4 r5 hi7 hw8 hq9 => ?_)
  obtain ⟨e42, h⟩ := hq9
  subst e42
  refine V.aload_n (pc := 9) hG dX12_kindOf_9 rfl 0 rfl ?_
  refine V.aload_n (pc := 10) hG dX12_kindOf_10 rfl 0 rfl ?_
  refine V.iload_n (pc := 11) hG dX12_kindOf_11 rfl 1 rfl ?_
  refine V.callVi (pc := 12) (As := [.int (sJ p1)]) (stk := [.ref (sA Δ 504)]) hG (sm_X12_noNode l Δ hp1 hi7 hw h) mY_X12_noNode kw_2068 kw_2070 kw_136 a_504 (by decide) (q := (RX12, TX12, 49)) rfl rfl ⟨Nat.le_of_ble_eq_true rfl, Nat.le_of_ble_eq_true rfl, Nat.le_of_ble_eq_true rfl, Nat.le_of_ble_eq_true rfl⟩ rfl (Nat.le_of_ble_eq_true rfl) dX12_kindOf_12 rfl (fun v10 i11 r12 hv13 hi14 hw15 hq16 => ?_)
  obtain ⟨e39, e40, h⟩ := hq16
  subst e39
  subst e40
  refine V.iconst (pc := 15) hG dX12_kindOf_15 ?_
  refine V.callVi (pc := 16) (As := [.int (sJ v10), .int (sJ 1)]) (stk := []) hG (sm_X12_fails l Δ hv13 ((sR_l rfl)) hi7 hw h) mY_X12_fails kw_1853 kw_1855 kw_106 a_504 (by decide) (q := (RX12, TX12, 49)) rfl rfl ⟨Nat.le_of_ble_eq_true rfl, Nat.le_of_ble_eq_true rfl, Nat.le_of_ble_eq_true rfl, Nat.le_of_ble_eq_true rfl⟩ rfl (Nat.le_of_ble_eq_true rfl) dX12_kindOf_16 rfl (fun v17 i18 r19 hv20 hi21 hw22 hq23 => ?_)
  obtain ⟨e38, h⟩ := hq23
  subst e38
  obtain ⟨t25, f26⟩ := h
  refine V.if_eq (pc := 19) (tgt := 26) hG hv20 dX12_kindOf_19 (by decide) (fun c24 => ?_) (fun c24 => ?_)
  · have h := t25 c24
    clear t25 f26
    refine V.ldcS (pc := 26) (k := 3) (tx := "amgMN<>") hG (by decide) dX12_kindOf_26 ?_
    refine V.aload_n (pc := 28) hG dX12_kindOf_28 rfl 0 rfl ?_
    refine V.getR (x := 517) (pc := 29) (ci := 14) (k := 24) (M := 49) (T := TX12) (o := 504) (kz := 24) hG a_504 a_504.n (by decide) hin_X12 rfl (by decide) (by decide) rfl kw_1716 rfl ((hw).1 (504, 24, 517) (by decide)) (by decide) dX12_kindOf_29 ?_
    refine V.iload_n (pc := 32) hG dX12_kindOf_32 rfl 1 rfl ?_
    obtain ⟨g27, h⟩ := h
    refine V.iald (pc := 33) (z := 96) (o := 517) hG a_517 a_517.n hp1 g27 dX12_kindOf_33 ?_
    refine V.callVSi (pc := 34) (As := [.int (sJ (i18 517 p1))]) (stk := []) hG (sm_J0_charAt_5068e l Δ (by decide) ((hi21 _ _)) hi21 hw h) mY_J0_charAt_5068e kw_2072 kw_1129 kw_1130 (by decide) rfl ⟨Nat.le_of_ble_eq_true rfl, Nat.le_of_ble_eq_true rfl, Nat.le_of_ble_eq_true rfl, Nat.le_of_ble_eq_true rfl⟩ rfl (Nat.le_of_ble_eq_true rfl) dX12_kindOf_34 rfl (fun v28 i29 r30 hv31 hi32 hw33 hq34 => ?_)
    obtain ⟨e35, e36, h⟩ := hq34
    subst e35
    subst e36
    refine V.pick [] rfl ?_
    exact jn37 v28 i18 hv31 hi21 h
  · have h := f26 c24
    clear t25 f26
    refine V.iconst (pc := 22) hG dX12_kindOf_22 ?_
    refine V.goto (pc := 23) (tgt := 37) hG dX12_kindOf_23 (by decide) ?_
    refine V.pick [] rfl ?_
    exact jn37 0 i18 ((sR_l rfl)) hi21 h
set_option maxRecDepth 100000 in
set_option maxHeartbeats 4000000 in
theorem sm_X12_statementOf (l : Launch) (Δ : Wd) {i r : MI} {p1 : Int} (hp1 : sR p1) {Q : Int → MI → Prop} (hi : okI i) (hw : Wf r) (h : wp_X12_statementOf p1 i r Q) : Met l yX12_statementOf (Cond.code yX12_statementOf cX12_statementOf 2 (some .int) :: gW) (sRm 4 94) (sPc Δ [.ref (sA Δ 504), .int (sJ p1)] i r) (sQi Δ (fun x i' r' => r = r' ∧ Q x i')) 0 0 (sFr Δ) := by
  refine Ct.i (ty := .int) (by decide) rfl (Nat.le_of_ble_eq_true rfl) (fun Γ Q0 hG fin => ?_)
  have hG : okG Γ Δ l (sRm 4 94) cX12_statementOf "SchedularyModel" 2 := hG
  show V Γ Δ 542 false i r 0 0 Q0 0 [(0, .ref (sA Δ 504)), (1, .int (sJ p1))] []
  have jn32 : ∀ (k0j32 : Int) (ij32 : MI), sR k0j32 → okI ij32 → s32_X12_statementOf k0j32 ij32 r Q → V Γ Δ 542 false ij32 r 0 0 Q0 32 [] [.int (sJ k0j32)] := by
    intro k0j32 ij32 hk0j32 hij32 h
    exact fin dX12_statementOf_32 hk0j32 rfl hij32 hw ⟨rfl, h⟩
  refine V.aload_n (pc := 0) hG dX12_statementOf_0 rfl 0 rfl ?_
  refine V.iconst (pc := 1) hG dX12_statementOf_1 ?_
  refine V.putI (pc := 2) (ci := 14) (k := 0) (M := 49) (T := TX12) (o := 504) (kz := 0) hG a_504 a_504.n (by decide) hin_X12 rfl (by decide) (by decide) rfl kw_1692 rfl tyX12 tyX12_ok nmX12 rfl (ty := tyX12 0) (tyX12_ok 0 (by decide)) rfl rfl dX12_statementOf_2 ?_
  refine V.aload_n (pc := 5) hG dX12_statementOf_5 rfl 0 rfl ?_
  refine V.callVv (pc := 6) (As := []) (stk := []) hG (sm_X12_build l Δ  ((okI_st hi ((sR_l rfl)))) hw h) mY_X12_build kw_1910 kw_1912 kw_116 a_504 (by decide) (q := (RX12, TX12, 49)) rfl rfl ⟨Nat.le_of_ble_eq_true rfl, Nat.le_of_ble_eq_true rfl, Nat.le_of_ble_eq_true rfl, Nat.le_of_ble_eq_true rfl⟩ rfl (Nat.le_of_ble_eq_true rfl) dX12_statementOf_6 rfl (fun i2 r3 hi5 hw6 hq7 => ?_)
  obtain ⟨e31, h⟩ := hq7
  subst e31
  refine V.aload_n (pc := 9) hG dX12_statementOf_9 rfl 0 rfl ?_
  refine V.aload_n (pc := 10) hG dX12_statementOf_10 rfl 0 rfl ?_
  refine V.iload_n (pc := 11) hG dX12_statementOf_11 rfl 1 rfl ?_
  refine V.callVi (pc := 12) (As := [.int (sJ p1)]) (stk := [.ref (sA Δ 504)]) hG (sm_X12_noNode l Δ hp1 hi5 hw h) mY_X12_noNode kw_2068 kw_2070 kw_136 a_504 (by decide) (q := (RX12, TX12, 49)) rfl rfl ⟨Nat.le_of_ble_eq_true rfl, Nat.le_of_ble_eq_true rfl, Nat.le_of_ble_eq_true rfl, Nat.le_of_ble_eq_true rfl⟩ rfl (Nat.le_of_ble_eq_true rfl) dX12_statementOf_12 rfl (fun v8 i9 r10 hv11 hi12 hw13 hq14 => ?_)
  obtain ⟨e28, e29, h⟩ := hq14
  subst e28
  subst e29
  refine V.iconst (pc := 15) hG dX12_statementOf_15 ?_
  refine V.callVi (pc := 16) (As := [.int (sJ v8), .int (sJ 1)]) (stk := []) hG (sm_X12_fails l Δ hv11 ((sR_l rfl)) hi5 hw h) mY_X12_fails kw_1853 kw_1855 kw_106 a_504 (by decide) (q := (RX12, TX12, 49)) rfl rfl ⟨Nat.le_of_ble_eq_true rfl, Nat.le_of_ble_eq_true rfl, Nat.le_of_ble_eq_true rfl, Nat.le_of_ble_eq_true rfl⟩ rfl (Nat.le_of_ble_eq_true rfl) dX12_statementOf_16 rfl (fun v15 i16 r17 hv18 hi19 hw20 hq21 => ?_)
  obtain ⟨e27, h⟩ := hq21
  subst e27
  obtain ⟨t23, f24⟩ := h
  refine V.if_eq (pc := 19) (tgt := 26) hG hv18 dX12_statementOf_19 (by decide) (fun c22 => ?_) (fun c22 => ?_)
  · have h := t23 c22
    clear t23 f24
    refine V.aload_n (pc := 26) hG dX12_statementOf_26 rfl 0 rfl ?_
    refine V.getR (x := 515) (pc := 27) (ci := 14) (k := 22) (M := 49) (T := TX12) (o := 504) (kz := 22) hG a_504 a_504.n (by decide) hin_X12 rfl (by decide) (by decide) rfl kw_1714 rfl ((hw).1 (504, 22, 515) (by decide)) (by decide) dX12_statementOf_27 ?_
    refine V.iload_n (pc := 30) hG dX12_statementOf_30 rfl 1 rfl ?_
    obtain ⟨g25, h⟩ := h
    refine V.iald (pc := 31) (z := 96) (o := 515) hG a_515 a_515.n hp1 g25 dX12_statementOf_31 ?_
    refine V.pick [] rfl ?_
    exact jn32 (i16 515 p1) i16 ((hi19 _ _)) hi19 h
  · have h := f24 c22
    clear t23 f24
    refine V.iconst (pc := 22) hG dX12_statementOf_22 ?_
    refine V.goto (pc := 23) (tgt := 32) hG dX12_statementOf_23 (by decide) ?_
    refine V.pick [] rfl ?_
    exact jn32 0 i16 ((sR_l rfl)) hi19 h
set_option maxRecDepth 100000 in
set_option maxHeartbeats 4000000 in
theorem sm_X12_edges (l : Launch) (Δ : Wd) {i r : MI}   {Q : Int → MI → Prop} (hi : okI i) (hw : Wf r) (h : wp_X12_edges  i r Q) : Met l yX12_edges (Cond.code yX12_edges cX12_edges 1 (some .int) :: gW) (sRm 4 94) (sPc Δ [.ref (sA Δ 504)] i r) (sQi Δ (fun x i' r' => r = r' ∧ Q x i')) 0 0 (sFr Δ) := by
  refine Ct.i (ty := .int) (by decide) rfl (Nat.le_of_ble_eq_true rfl) (fun Γ Q0 hG fin => ?_)
  have hG : okG Γ Δ l (sRm 4 94) cX12_edges "SchedularyModel" 1 := hG
  show V Γ Δ 542 false i r 0 0 Q0 0 [(0, .ref (sA Δ 504))] []
  refine V.aload_n (pc := 0) hG dX12_edges_0 rfl 0 rfl ?_
  refine V.iconst (pc := 1) hG dX12_edges_1 ?_
  refine V.putI (pc := 2) (ci := 14) (k := 0) (M := 49) (T := TX12) (o := 504) (kz := 0) hG a_504 a_504.n (by decide) hin_X12 rfl (by decide) (by decide) rfl kw_1692 rfl tyX12 tyX12_ok nmX12 rfl (ty := tyX12 0) (tyX12_ok 0 (by decide)) rfl rfl dX12_edges_2 ?_
  refine V.aload_n (pc := 5) hG dX12_edges_5 rfl 0 rfl ?_
  refine V.callVv (pc := 6) (As := []) (stk := []) hG (sm_X12_build l Δ  ((okI_st hi ((sR_l rfl)))) hw h) mY_X12_build kw_1910 kw_1912 kw_116 a_504 (by decide) (q := (RX12, TX12, 49)) rfl rfl ⟨Nat.le_of_ble_eq_true rfl, Nat.le_of_ble_eq_true rfl, Nat.le_of_ble_eq_true rfl, Nat.le_of_ble_eq_true rfl⟩ rfl (Nat.le_of_ble_eq_true rfl) dX12_edges_6 rfl (fun i2 r3 hi5 hw6 hq7 => ?_)
  obtain ⟨e9, h⟩ := hq7
  subst e9
  refine V.aload_n (pc := 9) hG dX12_edges_9 rfl 0 rfl ?_
  refine V.getI (pc := 10) (ci := 14) (k := 30) (M := 49) (T := TX12) (o := 504) (kz := 30) hG a_504 a_504.n (by decide) hin_X12 rfl (by decide) (by decide) rfl kw_1722 rfl dX12_edges_10 ?_
  exact fin dX12_edges_13 ((hi5 _ _)) rfl hi5 hw ⟨rfl, h⟩
set_option maxRecDepth 100000 in
set_option maxHeartbeats 4000000 in
theorem sm_X12_weight (l : Launch) (Δ : Wd) {i r : MI} {p1 : Int} {p2 : Int} {p3 : Int} (hp1 : sR p1) (hp2 : sR p2) (hp3 : sR p3) {Q : Int → MI → Prop} (hi : okI i) (hw : Wf r) (h : wp_X12_weight p1 p2 p3 i r Q) : Met l yX12_weight (Cond.code yX12_weight cX12_weight 5 (some .int) :: gW) (sRm 4 94) (sPc Δ [.ref (sA Δ 504), .int (sJ p1), .int (sJ p2), .int (sJ p3)] i r) (sQi Δ (fun x i' r' => r = r' ∧ Q x i')) 0 0 (sFr Δ) := by
  refine Ct.i (ty := .int) (by decide) rfl (Nat.le_of_ble_eq_true rfl) (fun Γ Q0 hG fin => ?_)
  have hG : okG Γ Δ l (sRm 4 94) cX12_weight "SchedularyModel" 5 := hG
  show V Γ Δ 542 false i r 0 0 Q0 0 [(0, .ref (sA Δ 504)), (1, .int (sJ p1)), (2, .int (sJ p2)), (3, .int (sJ p3))] []
  have jn31 : ∀ (k1j31 : Int) (ij31 : MI), sR k1j31 → okI ij31 → s31_X12_weight p1 p2 p3 k1j31 ij31 r Q → V Γ Δ 542 false ij31 r 0 0 Q0 31 [(0, .ref (sA Δ 504)), (1, .int (sJ p1)), (2, .int (sJ p2)), (3, .int (sJ p3))] [.int (sJ k1j31), .ref (sA Δ 504)] := by
    intro k1j31 ij31 hk1j31 hij31 h
    refine V.iconst (pc := 31) hG dX12_weight_31 ?_
    refine V.callVi (pc := 32) (As := [.int (sJ k1j31), .int (sJ 1)]) (stk := []) hG (sm_X12_fails l Δ hk1j31 ((sR_l rfl)) hij31 hw h) mY_X12_fails kw_1853 kw_1855 kw_106 a_504 (by decide) (q := (RX12, TX12, 49)) rfl rfl ⟨Nat.le_of_ble_eq_true rfl, Nat.le_of_ble_eq_true rfl, Nat.le_of_ble_eq_true rfl, Nat.le_of_ble_eq_true rfl⟩ rfl (Nat.le_of_ble_eq_true rfl) dX12_weight_32 rfl (fun v33 i34 r35 hv36 hi37 hw38 hq39 => ?_)
    obtain ⟨e55, h⟩ := hq39
    subst e55
    obtain ⟨t41, f42⟩ := h
    refine V.if_eq (pc := 35) (tgt := 40) hG hv36 dX12_weight_35 (by decide) (fun c40 => ?_) (fun c40 => ?_)
    · have h := t41 c40
      clear t41 f42
      refine V.aload_n (pc := 40) hG dX12_weight_40 rfl 0 rfl ?_
      refine V.getR (x := 528) (pc := 41) (ci := 14) (k := 36) (M := 49) (T := TX12) (o := 504) (kz := 36) hG a_504 a_504.n (by decide) hin_X12 rfl (by decide) (by decide) rfl kw_1728 rfl ((hw).1 (504, 36, 528) (by decide)) (by decide) dX12_weight_41 ?_
      refine V.aload_n (pc := 44) hG dX12_weight_44 rfl 0 rfl ?_
      refine V.getI (pc := 45) (ci := 14) (k := 21) (M := 49) (T := TX12) (o := 504) (kz := 21) hG a_504 a_504.n (by decide) hin_X12 rfl (by decide) (by decide) rfl kw_1713 rfl dX12_weight_45 ?_
      refine V.iload_n (pc := 48) hG dX12_weight_48 rfl 1 rfl ?_
      refine V.imul (pc := 49) hG dX12_weight_49 ?_
      refine V.iload_n (pc := 50) hG dX12_weight_50 rfl 2 rfl ?_
      refine V.iadd (pc := 51) hG dX12_weight_51 ?_
      obtain ⟨g43, h⟩ := h
      refine V.iald (pc := 52) (z := 9216) (o := 528) hG a_528 a_528.n ((sR_wr _)) g43 dX12_weight_52 ?_
      refine V.istore (pc := 53) (lv' := [(4, .int (sJ (i34 528 (wr (wr (i34 504 21 * p1) + p2))))), (0, .ref (sA Δ 504)), (1, .int (sJ p1)), (2, .int (sJ p2)), (3, .int (sJ p3))]) hG dX12_weight_53 (by decide) rfl ?_
      obtain ⟨n44, h⟩ := h
      have lp55 : ∀ (m55 : Nat) (x4_55 : Int), sR x4_55 → LoopP (b55_X12_weight p3 i34 r Q) m55 (x4_55) → V Γ Δ 542 false i34 r 0 0 Q0 55 [(0, .ref (sA Δ 504)), (3, .int (sJ p3)), (4, .int (sJ x4_55))] [] := by
        intro m55
        induction m55 with
        | zero => intro x4_55 hx4_55 h; exact h.elim
        | succ m55 ih55 =>
          intro x4_55 hx4_55 h
          have h := LoopP_succ h
          refine V.iload (pc := 55) hG dX12_weight_55 2 rfl ?_
          refine V.iconst (pc := 57) hG dX12_weight_57 ?_
          obtain ⟨t46, f47⟩ := h
          refine V.icmp_eq (pc := 58) (tgt := 92) hG hx4_55 ((sR_l rfl)) dX12_weight_58 (by decide) (fun c45 => ?_) (fun c45 => ?_)
          · have h := t46 c45
            clear t46 f47
            refine V.aload_n (pc := 92) hG dX12_weight_92 rfl 0 rfl ?_
            refine V.iconst (pc := 93) hG dX12_weight_93 ?_
            refine V.putI (pc := 94) (ci := 14) (k := 0) (M := 49) (T := TX12) (o := 504) (kz := 0) hG a_504 a_504.n (by decide) hin_X12 rfl (by decide) (by decide) rfl kw_1692 rfl tyX12 tyX12_ok nmX12 rfl (ty := tyX12 0) (tyX12_ok 0 (by decide)) rfl rfl dX12_weight_94 ?_
            refine V.iconst (pc := 97) hG dX12_weight_97 ?_
            exact fin dX12_weight_98 ((sR_l rfl)) rfl ((okI_st hi37 ((sR_l rfl)))) hw ⟨rfl, h⟩
          · have h := f47 c45
            clear t46 f47
            refine V.aload_n (pc := 61) hG dX12_weight_61 rfl 0 rfl ?_
            refine V.getR (x := 525) (pc := 62) (ci := 14) (k := 33) (M := 49) (T := TX12) (o := 504) (kz := 33) hG a_504 a_504.n (by decide) hin_X12 rfl (by decide) (by decide) rfl kw_1725 rfl ((hw).1 (504, 33, 525) (by decide)) (by decide) dX12_weight_62 ?_
            refine V.iload (pc := 65) hG dX12_weight_65 2 rfl ?_
            obtain ⟨g48, h⟩ := h
            refine V.iald (pc := 67) (z := 20000) (o := 525) hG a_525 a_525.n hx4_55 g48 dX12_weight_67 ?_
            refine V.iload_n (pc := 68) hG dX12_weight_68 rfl 1 rfl ?_
            obtain ⟨f51, t50⟩ := h
            refine V.icmp_ne (pc := 69) (tgt := 80) hG ((hi37 _ _)) hp3 dX12_weight_69 (by decide) (fun c49 => ?_) (fun c49 => ?_)
            · have h := t50 c49
              clear t50 f51
              refine V.aload_n (pc := 80) hG dX12_weight_80 rfl 0 rfl ?_
              refine V.getR (x := 527) (pc := 81) (ci := 14) (k := 35) (M := 49) (T := TX12) (o := 504) (kz := 35) hG a_504 a_504.n (by decide) hin_X12 rfl (by decide) (by decide) rfl kw_1727 rfl ((hw).1 (504, 35, 527) (by decide)) (by decide) dX12_weight_81 ?_
              refine V.iload (pc := 84) hG dX12_weight_84 2 rfl ?_
              obtain ⟨g52, h⟩ := h
              refine V.iald (pc := 86) (z := 20000) (o := 527) hG a_527 a_527.n hx4_55 g52 dX12_weight_86 ?_
              refine V.istore (pc := 87) (lv' := [(4, .int (sJ (i34 527 x4_55))), (0, .ref (sA Δ 504)), (3, .int (sJ p3))]) hG dX12_weight_87 (by decide) rfl ?_
              refine V.goto (pc := 89) (tgt := 55) hG dX12_weight_89 (by decide) ?_
              refine V.pick [1, 2, 0] rfl ?_
              exact ih55 (i34 527 x4_55) ((hi37 _ _)) h
            · have h := f51 c49
              clear t50 f51
              refine V.aload_n (pc := 72) hG dX12_weight_72 rfl 0 rfl ?_
              refine V.getR (x := 526) (pc := 73) (ci := 14) (k := 34) (M := 49) (T := TX12) (o := 504) (kz := 34) hG a_504 a_504.n (by decide) hin_X12 rfl (by decide) (by decide) rfl kw_1726 rfl ((hw).1 (504, 34, 526) (by decide)) (by decide) dX12_weight_73 ?_
              refine V.iload (pc := 76) hG dX12_weight_76 2 rfl ?_
              obtain ⟨g53, h⟩ := h
              refine V.iald (pc := 78) (z := 20000) (o := 526) hG a_526 a_526.n hx4_55 g53 dX12_weight_78 ?_
              exact fin dX12_weight_79 ((hi37 _ _)) rfl hi37 hw ⟨rfl, h⟩
      refine V.pick [1, 4, 0] rfl ?_
      exact lp55 n44 (i34 528 (wr (wr (i34 504 21 * p1) + p2))) ((hi37 _ _)) h
    · have h := f42 c40
      clear t41 f42
      refine V.iconst (pc := 38) hG dX12_weight_38 ?_
      exact fin dX12_weight_39 ((sR_l rfl)) rfl hi37 hw ⟨rfl, h⟩
  have jn26 : ∀  (ij26 : MI), okI ij26 → s26_X12_weight p1 p2 p3 ij26 r Q → V Γ Δ 542 false ij26 r 0 0 Q0 26 [(0, .ref (sA Δ 504)), (1, .int (sJ p1)), (2, .int (sJ p2)), (3, .int (sJ p3))] [.ref (sA Δ 504)] := by
    intro ij26 hij26 h
    refine V.iconst (pc := 26) hG dX12_weight_26 ?_
    refine V.goto (pc := 27) (tgt := 31) hG dX12_weight_27 (by decide) ?_
    exact jn31 1 ij26 ((sR_l rfl)) hij26 h
  refine V.aload_n (pc := 0) hG dX12_weight_0 rfl 0 rfl ?_
  refine V.iconst (pc := 1) hG dX12_weight_1 ?_
  refine V.putI (pc := 2) (ci := 14) (k := 0) (M := 49) (T := TX12) (o := 504) (kz := 0) hG a_504 a_504.n (by decide) hin_X12 rfl (by decide) (by decide) rfl kw_1692 rfl tyX12 tyX12_ok nmX12 rfl (ty := tyX12 0) (tyX12_ok 0 (by decide)) rfl rfl dX12_weight_2 ?_
  refine V.aload_n (pc := 5) hG dX12_weight_5 rfl 0 rfl ?_
  refine V.callVv (pc := 6) (As := []) (stk := []) hG (sm_X12_build l Δ  ((okI_st hi ((sR_l rfl)))) hw h) mY_X12_build kw_1910 kw_1912 kw_116 a_504 (by decide) (q := (RX12, TX12, 49)) rfl rfl ⟨Nat.le_of_ble_eq_true rfl, Nat.le_of_ble_eq_true rfl, Nat.le_of_ble_eq_true rfl, Nat.le_of_ble_eq_true rfl⟩ rfl (Nat.le_of_ble_eq_true rfl) dX12_weight_6 rfl (fun i57 r58 hi60 hw61 hq62 => ?_)
  obtain ⟨e88, h⟩ := hq62
  subst e88
  refine V.aload_n (pc := 9) hG dX12_weight_9 rfl 0 rfl ?_
  refine V.aload_n (pc := 10) hG dX12_weight_10 rfl 0 rfl ?_
  refine V.iload_n (pc := 11) hG dX12_weight_11 rfl 1 rfl ?_
  refine V.callVi (pc := 12) (As := [.int (sJ p1)]) (stk := [.ref (sA Δ 504)]) hG (sm_X12_noNode l Δ hp1 hi60 hw h) mY_X12_noNode kw_2068 kw_2070 kw_136 a_504 (by decide) (q := (RX12, TX12, 49)) rfl rfl ⟨Nat.le_of_ble_eq_true rfl, Nat.le_of_ble_eq_true rfl, Nat.le_of_ble_eq_true rfl, Nat.le_of_ble_eq_true rfl⟩ rfl (Nat.le_of_ble_eq_true rfl) dX12_weight_12 rfl (fun v63 i64 r65 hv66 hi67 hw68 hq69 => ?_)
  obtain ⟨e85, e86, h⟩ := hq69
  subst e85
  subst e86
  obtain ⟨f72, t71⟩ := h
  refine V.if_ne (pc := 15) (tgt := 26) hG hv66 dX12_weight_15 (by decide) (fun c70 => ?_) (fun c70 => ?_)
  · have h := t71 c70
    clear t71 f72
    exact jn26 i57 hi60 h
  · have h := f72 c70
    clear t71 f72
    refine V.aload_n (pc := 18) hG dX12_weight_18 rfl 0 rfl ?_
    refine V.iload_n (pc := 19) hG dX12_weight_19 rfl 2 rfl ?_
    refine V.callVi (pc := 20) (As := [.int (sJ p2)]) (stk := [.ref (sA Δ 504)]) hG (sm_X12_noNode l Δ hp2 hi60 hw h) mY_X12_noNode kw_2068 kw_2070 kw_136 a_504 (by decide) (q := (RX12, TX12, 49)) rfl rfl ⟨Nat.le_of_ble_eq_true rfl, Nat.le_of_ble_eq_true rfl, Nat.le_of_ble_eq_true rfl, Nat.le_of_ble_eq_true rfl⟩ rfl (Nat.le_of_ble_eq_true rfl) dX12_weight_20 rfl (fun v73 i74 r75 hv76 hi77 hw78 hq79 => ?_)
    obtain ⟨e83, e84, h⟩ := hq79
    subst e83
    subst e84
    obtain ⟨t81, f82⟩ := h
    refine V.if_eq (pc := 23) (tgt := 30) hG hv76 dX12_weight_23 (by decide) (fun c80 => ?_) (fun c80 => ?_)
    · have h := t81 c80
      clear t81 f82
      refine V.iconst (pc := 30) hG dX12_weight_30 ?_
      exact jn31 0 i57 ((sR_l rfl)) hi60 h
    · have h := f82 c80
      clear t81 f82
      exact jn26 i57 hi60 h
set_option maxRecDepth 100000 in
set_option maxHeartbeats 4000000 in
theorem sm_X12_findSoon (l : Launch) (Δ : Wd) {i r : MI}   {Q : MI → Prop} (hi : okI i) (hw : Wf r) (h : wp_X12_findSoon  i r Q) : Met l yX12_findSoon (Cond.code yX12_findSoon cX12_findSoon 3 none :: gW) (sRm 4 94) (sPc Δ [.ref (sA Δ 504)] i r) (sQv Δ (fun i' r' => r = r' ∧ Q i')) 0 0 (sFr Δ) := by
  refine Ct.v (by decide) rfl (Nat.le_of_ble_eq_true rfl) (fun Γ Q0 hG fin => ?_)
  have hG : okG Γ Δ l (sRm 4 94) cX12_findSoon "SchedularyModel" 3 := hG
  show V Γ Δ 542 false i r 0 0 Q0 0 [(0, .ref (sA Δ 504))] []
  refine V.aload_n (pc := 0) hG dX12_findSoon_0 rfl 0 rfl ?_
  refine V.callVv (pc := 1) (As := []) (stk := []) hG (sm_X12_build l Δ  hi hw h) mY_X12_build kw_1910 kw_1912 kw_116 a_504 (by decide) (q := (RX12, TX12, 49)) rfl rfl ⟨Nat.le_of_ble_eq_true rfl, Nat.le_of_ble_eq_true rfl, Nat.le_of_ble_eq_true rfl, Nat.le_of_ble_eq_true rfl⟩ rfl (Nat.le_of_ble_eq_true rfl) dX12_findSoon_1 rfl (fun i2 r3 hi5 hw6 hq7 => ?_)
  obtain ⟨e206, h⟩ := hq7
  subst e206
  refine V.aload_n (pc := 4) hG dX12_findSoon_4 rfl 0 rfl ?_
  refine V.iconst (pc := 5) hG dX12_findSoon_5 ?_
  refine V.putI (pc := 6) (ci := 14) (k := 48) (M := 49) (T := TX12) (o := 504) (kz := 48) hG a_504 a_504.n (by decide) hin_X12 rfl (by decide) (by decide) rfl kw_1740 rfl tyX12 tyX12_ok nmX12 rfl (ty := tyX12 48) (tyX12_ok 48 (by decide)) rfl rfl dX12_findSoon_6 ?_
  refine V.iconst (pc := 9) hG dX12_findSoon_9 ?_
  refine V.istore_n (pc := 10) (lv' := [(1, .int (sJ 0)), (0, .ref (sA Δ 504))]) hG dX12_findSoon_10 rfl (by decide) rfl ?_
  obtain ⟨n142, h⟩ := h
  have lp11 : ∀ (m11 : Nat) (x1_11 : Int) (i_11 : MI), sR x1_11 → okI i_11 → LoopP (b11_X12_findSoon r Q) m11 (x1_11, i_11) → V Γ Δ 542 false i_11 r 0 0 Q0 11 [(0, .ref (sA Δ 504)), (1, .int (sJ x1_11))] [] := by
    intro m11
    induction m11 with
    | zero => intro x1_11 i_11 hx1_11 hi_11 h; exact h.elim
    | succ m11 ih11 =>
      intro x1_11 i_11 hx1_11 hi_11 h
      have h := LoopP_succ h
      refine V.iload_n (pc := 11) hG dX12_findSoon_11 rfl 1 rfl ?_
      refine V.aload_n (pc := 12) hG dX12_findSoon_12 rfl 0 rfl ?_
      refine V.getI (pc := 13) (ci := 14) (k := 21) (M := 49) (T := TX12) (o := 504) (kz := 21) hG a_504 a_504.n (by decide) hin_X12 rfl (by decide) (by decide) rfl kw_1713 rfl dX12_findSoon_13 ?_
      obtain ⟨t144, f145⟩ := h
      refine V.icmp_ge (pc := 16) (tgt := 123) hG hx1_11 ((hi_11 _ _)) dX12_findSoon_16 (by decide) (fun c143 => ?_) (fun c143 => ?_)
      · have h := t144 c143
        clear t144 f145
        refine V.aload_n (pc := 123) hG dX12_findSoon_123 rfl 0 rfl ?_
        refine V.getI (pc := 124) (ci := 14) (k := 21) (M := 49) (T := TX12) (o := 504) (kz := 21) hG a_504 a_504.n (by decide) hin_X12 rfl (by decide) (by decide) rfl kw_1713 rfl dX12_findSoon_124 ?_
        refine V.iconst (pc := 127) hG dX12_findSoon_127 ?_
        refine V.isub (pc := 128) hG dX12_findSoon_128 ?_
        refine V.istore_n (pc := 129) (lv' := [(1, .int (sJ (wr (i_11 504 21 - 1)))), (0, .ref (sA Δ 504))]) hG dX12_findSoon_129 rfl (by decide) rfl ?_
        obtain ⟨n146, h⟩ := h
        have lp130 : ∀ (m130 : Nat) (x1_130 : Int) (i_130 : MI), sR x1_130 → okI i_130 → LoopP (b130_X12_findSoon r Q) m130 (x1_130, i_130) → V Γ Δ 542 false i_130 r 0 0 Q0 130 [(0, .ref (sA Δ 504)), (1, .int (sJ x1_130))] [] := by
          intro m130
          induction m130 with
          | zero => intro x1_130 i_130 hx1_130 hi_130 h; exact h.elim
          | succ m130 ih130 =>
            intro x1_130 i_130 hx1_130 hi_130 h
            have h := LoopP_succ h
            refine V.iload_n (pc := 130) hG dX12_findSoon_130 rfl 1 rfl ?_
            obtain ⟨t148, f149⟩ := h
            refine V.if_lt (pc := 131) (tgt := 224) hG hx1_130 dX12_findSoon_131 (by decide) (fun c147 => ?_) (fun c147 => ?_)
            · have h := t148 c147
              clear t148 f149
              exact fin dX12_findSoon_224 hi_130 hw ⟨rfl, h⟩
            · have h := f149 c147
              clear t148 f149
              refine V.aload_n (pc := 134) hG dX12_findSoon_134 rfl 0 rfl ?_
              refine V.getR (x := 530) (pc := 135) (ci := 14) (k := 38) (M := 49) (T := TX12) (o := 504) (kz := 38) hG a_504 a_504.n (by decide) hin_X12 rfl (by decide) (by decide) rfl kw_1730 rfl ((hw).1 (504, 38, 530) (by decide)) (by decide) dX12_findSoon_135 ?_
              refine V.iload_n (pc := 138) hG dX12_findSoon_138 rfl 1 rfl ?_
              refine V.aload_n (pc := 139) hG dX12_findSoon_139 rfl 0 rfl ?_
              refine V.getI (pc := 140) (ci := 14) (k := 48) (M := 49) (T := TX12) (o := 504) (kz := 48) hG a_504 a_504.n (by decide) hin_X12 rfl (by decide) (by decide) rfl kw_1740 rfl dX12_findSoon_140 ?_
              refine V.aload_n (pc := 143) hG dX12_findSoon_143 rfl 0 rfl ?_
              refine V.iload_n (pc := 144) hG dX12_findSoon_144 rfl 1 rfl ?_
              refine V.callVi (pc := 145) (As := [.int (sJ x1_130)]) (stk := [.int (sJ (i_130 504 48)), .int (sJ x1_130), .ref (sA Δ 530)]) hG (sm_X12_cyclesOf l Δ hx1_130 hi_130 hw h) mY_X12_cyclesOf kw_1947 kw_1949 kw_123 a_504 (by decide) (q := (RX12, TX12, 49)) rfl rfl ⟨Nat.le_of_ble_eq_true rfl, Nat.le_of_ble_eq_true rfl, Nat.le_of_ble_eq_true rfl, Nat.le_of_ble_eq_true rfl⟩ rfl (Nat.le_of_ble_eq_true rfl) dX12_findSoon_145 rfl (fun v150 i151 r152 hv153 hi154 hw155 hq156 => ?_)
              obtain ⟨e175, e176, h⟩ := hq156
              subst e175
              subst e176
              refine V.isub (pc := 148) hG dX12_findSoon_148 ?_
              obtain ⟨g157, h⟩ := h
              refine V.iast (pc := 149) (z := 96) (o := 530) hG a_530 a_530.n hx1_130 g157 dX12_findSoon_149 ?_
              refine V.iconst (pc := 150) hG dX12_findSoon_150 ?_
              refine V.istore_n (pc := 151) (lv' := [(2, .int (sJ 0)), (0, .ref (sA Δ 504)), (1, .int (sJ x1_130))]) hG dX12_findSoon_151 rfl (by decide) rfl ?_
              obtain ⟨n158, h⟩ := h
              have lp152 : ∀ (m152 : Nat) (x2_152 : Int) (i_152 : MI), sR x2_152 → okI i_152 → LoopP (b152_X12_findSoon x1_130 r Q (LoopP (b130_X12_findSoon r Q) m130)) m152 (x2_152, i_152) → V Γ Δ 542 false i_152 r 0 0 Q0 152 [(0, .ref (sA Δ 504)), (1, .int (sJ x1_130)), (2, .int (sJ x2_152))] [] := by
                intro m152
                induction m152 with
                | zero => intro x2_152 i_152 hx2_152 hi_152 h; exact h.elim
                | succ m152 ih152 =>
                  intro x2_152 i_152 hx2_152 hi_152 h
                  have h := LoopP_succ h
                  have jn212 : ∀ (x2j212 : Int) (ij212 : MI), sR x2j212 → okI ij212 → s212_X12_findSoon x1_130 x2j212 ij212 r Q (LoopP (b130_X12_findSoon r Q) m130) (LoopP (b152_X12_findSoon x1_130 r Q (LoopP (b130_X12_findSoon r Q) m130)) m152) → V Γ Δ 542 false ij212 r 0 0 Q0 212 [(0, .ref (sA Δ 504)), (1, .int (sJ x1_130)), (2, .int (sJ x2j212))] [] := by
                    intro x2j212 ij212 hx2j212 hij212 h
                    refine V.iinc (pc := 212) (lv' := [(2, .int (sJ (wr (x2j212 + 1)))), (0, .ref (sA Δ 504)), (1, .int (sJ x1_130))]) hG dX12_findSoon_212 2 rfl (by decide) rfl ?_
                    refine V.goto (pc := 215) (tgt := 152) hG dX12_findSoon_215 (by decide) ?_
                    refine V.pick [1, 2, 0] rfl ?_
                    exact ih152 (wr (x2j212 + 1)) ij212 ((sR_wr _)) hij212 h
                  refine V.iload_n (pc := 152) hG dX12_findSoon_152 rfl 2 rfl ?_
                  refine V.aload_n (pc := 153) hG dX12_findSoon_153 rfl 0 rfl ?_
                  refine V.getI (pc := 154) (ci := 14) (k := 30) (M := 49) (T := TX12) (o := 504) (kz := 30) hG a_504 a_504.n (by decide) hin_X12 rfl (by decide) (by decide) rfl kw_1722 rfl dX12_findSoon_154 ?_
                  obtain ⟨t160, f161⟩ := h
                  refine V.icmp_ge (pc := 157) (tgt := 218) hG hx2_152 ((hi_152 _ _)) dX12_findSoon_157 (by decide) (fun c159 => ?_) (fun c159 => ?_)
                  · have h := t160 c159
                    clear t160 f161
                    refine V.iinc (pc := 218) (lv' := [(1, .int (sJ (wr (x1_130 + (-1))))), (0, .ref (sA Δ 504)), (2, .int (sJ x2_152))]) hG dX12_findSoon_218 1 rfl (by decide) rfl ?_
                    refine V.goto (pc := 221) (tgt := 130) hG dX12_findSoon_221 (by decide) ?_
                    refine V.pick [1, 0] rfl ?_
                    exact ih130 (wr (x1_130 + (-1))) i_152 ((sR_wr _)) hi_152 h
                  · have h := f161 c159
                    clear t160 f161
                    refine V.aload_n (pc := 160) hG dX12_findSoon_160 rfl 0 rfl ?_
                    refine V.getR (x := 523) (pc := 161) (ci := 14) (k := 31) (M := 49) (T := TX12) (o := 504) (kz := 31) hG a_504 a_504.n (by decide) hin_X12 rfl (by decide) (by decide) rfl kw_1723 rfl ((hw).1 (504, 31, 523) (by decide)) (by decide) dX12_findSoon_161 ?_
                    refine V.iload_n (pc := 164) hG dX12_findSoon_164 rfl 2 rfl ?_
                    obtain ⟨g162, h⟩ := h
                    refine V.iald (pc := 165) (z := 20000) (o := 523) hG a_523 a_523.n hx2_152 g162 dX12_findSoon_165 ?_
                    refine V.iload_n (pc := 166) hG dX12_findSoon_166 rfl 1 rfl ?_
                    obtain ⟨f165, t164⟩ := h
                    refine V.icmp_ne (pc := 167) (tgt := 212) hG ((hi_152 _ _)) hx1_130 dX12_findSoon_167 (by decide) (fun c163 => ?_) (fun c163 => ?_)
                    · have h := t164 c163
                      clear t164 f165
                      exact jn212 x2_152 i_152 hx2_152 hi_152 h
                    · have h := f165 c163
                      clear t164 f165
                      refine V.aload_n (pc := 170) hG dX12_findSoon_170 rfl 0 rfl ?_
                      refine V.getR (x := 525) (pc := 171) (ci := 14) (k := 33) (M := 49) (T := TX12) (o := 504) (kz := 33) hG a_504 a_504.n (by decide) hin_X12 rfl (by decide) (by decide) rfl kw_1725 rfl ((hw).1 (504, 33, 525) (by decide)) (by decide) dX12_findSoon_171 ?_
                      refine V.iload_n (pc := 174) hG dX12_findSoon_174 rfl 2 rfl ?_
                      obtain ⟨g166, h⟩ := h
                      refine V.iald (pc := 175) (z := 20000) (o := 525) hG a_525 a_525.n hx2_152 g166 dX12_findSoon_175 ?_
                      obtain ⟨f169, t168⟩ := h
                      refine V.if_ne (pc := 176) (tgt := 212) hG ((hi_152 _ _)) dX12_findSoon_176 (by decide) (fun c167 => ?_) (fun c167 => ?_)
                      · have h := t168 c167
                        clear t168 f169
                        exact jn212 x2_152 i_152 hx2_152 hi_152 h
                      · have h := f169 c167
                        clear t168 f169
                        refine V.aload_n (pc := 179) hG dX12_findSoon_179 rfl 0 rfl ?_
                        refine V.getR (x := 530) (pc := 180) (ci := 14) (k := 38) (M := 49) (T := TX12) (o := 504) (kz := 38) hG a_504 a_504.n (by decide) hin_X12 rfl (by decide) (by decide) rfl kw_1730 rfl ((hw).1 (504, 38, 530) (by decide)) (by decide) dX12_findSoon_180 ?_
                        refine V.iload_n (pc := 183) hG dX12_findSoon_183 rfl 1 rfl ?_
                        refine V.aload_n (pc := 184) hG dX12_findSoon_184 rfl 0 rfl ?_
                        refine V.getR (x := 530) (pc := 185) (ci := 14) (k := 38) (M := 49) (T := TX12) (o := 504) (kz := 38) hG a_504 a_504.n (by decide) hin_X12 rfl (by decide) (by decide) rfl kw_1730 rfl ((hw).1 (504, 38, 530) (by decide)) (by decide) dX12_findSoon_185 ?_
                        refine V.iload_n (pc := 188) hG dX12_findSoon_188 rfl 1 rfl ?_
                        obtain ⟨g170, h⟩ := h
                        refine V.iald (pc := 189) (z := 96) (o := 530) hG a_530 a_530.n hx1_130 g170 dX12_findSoon_189 ?_
                        refine V.aload_n (pc := 190) hG dX12_findSoon_190 rfl 0 rfl ?_
                        refine V.getR (x := 530) (pc := 191) (ci := 14) (k := 38) (M := 49) (T := TX12) (o := 504) (kz := 38) hG a_504 a_504.n (by decide) hin_X12 rfl (by decide) (by decide) rfl kw_1730 rfl ((hw).1 (504, 38, 530) (by decide)) (by decide) dX12_findSoon_191 ?_
                        refine V.aload_n (pc := 194) hG dX12_findSoon_194 rfl 0 rfl ?_
                        refine V.getR (x := 524) (pc := 195) (ci := 14) (k := 32) (M := 49) (T := TX12) (o := 504) (kz := 32) hG a_504 a_504.n (by decide) hin_X12 rfl (by decide) (by decide) rfl kw_1724 rfl ((hw).1 (504, 32, 524) (by decide)) (by decide) dX12_findSoon_195 ?_
                        refine V.iload_n (pc := 198) hG dX12_findSoon_198 rfl 2 rfl ?_
                        obtain ⟨g171, h⟩ := h
                        refine V.iald (pc := 199) (z := 20000) (o := 524) hG a_524 a_524.n hx2_152 g171 dX12_findSoon_199 ?_
                        obtain ⟨g172, h⟩ := h
                        refine V.iald (pc := 200) (z := 96) (o := 530) hG a_530 a_530.n ((hi_152 _ _)) g172 dX12_findSoon_200 ?_
                        refine V.aload_n (pc := 201) hG dX12_findSoon_201 rfl 0 rfl ?_
                        refine V.getR (x := 526) (pc := 202) (ci := 14) (k := 34) (M := 49) (T := TX12) (o := 504) (kz := 34) hG a_504 a_504.n (by decide) hin_X12 rfl (by decide) (by decide) rfl kw_1726 rfl ((hw).1 (504, 34, 526) (by decide)) (by decide) dX12_findSoon_202 ?_
                        refine V.iload_n (pc := 205) hG dX12_findSoon_205 rfl 2 rfl ?_
                        obtain ⟨g173, h⟩ := h
                        refine V.iald (pc := 206) (z := 20000) (o := 526) hG a_526 a_526.n hx2_152 g173 dX12_findSoon_206 ?_
                        refine V.isub (pc := 207) hG dX12_findSoon_207 ?_
                        refine V.mmin (pc := 208) hG ((hi_152 _ _)) ((sR_wr _)) kw_2059 kw_683 kw_173 kw_min ⟨Nat.le_of_ble_eq_true rfl, Nat.le_of_ble_eq_true rfl, Nat.le_of_ble_eq_true rfl, Nat.le_of_ble_eq_true rfl⟩ dX12_findSoon_208 ?_
                        obtain ⟨g174, h⟩ := h
                        refine V.iast (pc := 211) (z := 96) (o := 530) hG a_530 a_530.n hx1_130 g174 dX12_findSoon_211 ?_
                        exact jn212 x2_152 (st i_152 530 x1_130 (min (i_152 530 x1_130) (wr (i_152 530 (i_152 524 x2_152) - i_152 526 x2_152)))) hx2_152 ((okI_st hi_152 ((sR_min ((hi_152 _ _)) ((sR_wr _)))))) h
              refine V.pick [1, 2, 0] rfl ?_
              exact lp152 n158 0 (st i_130 530 x1_130 (wr (i_130 504 48 - v150))) ((sR_l rfl)) ((okI_st hi_130 ((sR_wr _)))) h
        refine V.pick [1, 0] rfl ?_
        exact lp130 n146 (wr (i_11 504 21 - 1)) i_11 ((sR_wr _)) hi_11 h
      · have h := f145 c143
        clear t144 f145
        refine V.aload_n (pc := 19) hG dX12_findSoon_19 rfl 0 rfl ?_
        refine V.getR (x := 529) (pc := 20) (ci := 14) (k := 37) (M := 49) (T := TX12) (o := 504) (kz := 37) hG a_504 a_504.n (by decide) hin_X12 rfl (by decide) (by decide) rfl kw_1729 rfl ((hw).1 (504, 37, 529) (by decide)) (by decide) dX12_findSoon_20 ?_
        refine V.iload_n (pc := 23) hG dX12_findSoon_23 rfl 1 rfl ?_
        refine V.iconst (pc := 24) hG dX12_findSoon_24 ?_
        obtain ⟨g177, h⟩ := h
        refine V.iast (pc := 25) (z := 96) (o := 529) hG a_529 a_529.n hx1_11 g177 dX12_findSoon_25 ?_
        refine V.iconst (pc := 26) hG dX12_findSoon_26 ?_
        refine V.istore_n (pc := 27) (lv' := [(2, .int (sJ 0)), (0, .ref (sA Δ 504)), (1, .int (sJ x1_11))]) hG dX12_findSoon_27 rfl (by decide) rfl ?_
        obtain ⟨n178, h⟩ := h
        have lp28 : ∀ (m28 : Nat) (x2_28 : Int) (i_28 : MI), sR x2_28 → okI i_28 → LoopP (b28_X12_findSoon x1_11 r Q (LoopP (b11_X12_findSoon r Q) m11)) m28 (x2_28, i_28) → V Γ Δ 542 false i_28 r 0 0 Q0 28 [(0, .ref (sA Δ 504)), (1, .int (sJ x1_11)), (2, .int (sJ x2_28))] [] := by
          intro m28
          induction m28 with
          | zero => intro x2_28 i_28 hx2_28 hi_28 h; exact h.elim
          | succ m28 ih28 =>
            intro x2_28 i_28 hx2_28 hi_28 h
            have h := LoopP_succ h
            have jn88 : ∀ (x2j88 : Int) (ij88 : MI), sR x2j88 → okI ij88 → s88_X12_findSoon x1_11 x2j88 ij88 r Q (LoopP (b11_X12_findSoon r Q) m11) (LoopP (b28_X12_findSoon x1_11 r Q (LoopP (b11_X12_findSoon r Q) m11)) m28) → V Γ Δ 542 false ij88 r 0 0 Q0 88 [(0, .ref (sA Δ 504)), (1, .int (sJ x1_11)), (2, .int (sJ x2j88))] [] := by
              intro x2j88 ij88 hx2j88 hij88 h
              refine V.iinc (pc := 88) (lv' := [(2, .int (sJ (wr (x2j88 + 1)))), (0, .ref (sA Δ 504)), (1, .int (sJ x1_11))]) hG dX12_findSoon_88 2 rfl (by decide) rfl ?_
              refine V.goto (pc := 91) (tgt := 28) hG dX12_findSoon_91 (by decide) ?_
              refine V.pick [1, 2, 0] rfl ?_
              exact ih28 (wr (x2j88 + 1)) ij88 ((sR_wr _)) hij88 h
            refine V.iload_n (pc := 28) hG dX12_findSoon_28 rfl 2 rfl ?_
            refine V.aload_n (pc := 29) hG dX12_findSoon_29 rfl 0 rfl ?_
            refine V.getI (pc := 30) (ci := 14) (k := 30) (M := 49) (T := TX12) (o := 504) (kz := 30) hG a_504 a_504.n (by decide) hin_X12 rfl (by decide) (by decide) rfl kw_1722 rfl dX12_findSoon_30 ?_
            obtain ⟨t180, f181⟩ := h
            refine V.icmp_ge (pc := 33) (tgt := 94) hG hx2_28 ((hi_28 _ _)) dX12_findSoon_33 (by decide) (fun c179 => ?_) (fun c179 => ?_)
            · have h := t180 c179
              clear t180 f181
              refine V.aload_n (pc := 94) hG dX12_findSoon_94 rfl 0 rfl ?_
              refine V.aload_n (pc := 95) hG dX12_findSoon_95 rfl 0 rfl ?_
              refine V.getI (pc := 96) (ci := 14) (k := 48) (M := 49) (T := TX12) (o := 504) (kz := 48) hG a_504 a_504.n (by decide) hin_X12 rfl (by decide) (by decide) rfl kw_1740 rfl dX12_findSoon_96 ?_
              refine V.aload_n (pc := 99) hG dX12_findSoon_99 rfl 0 rfl ?_
              refine V.getR (x := 529) (pc := 100) (ci := 14) (k := 37) (M := 49) (T := TX12) (o := 504) (kz := 37) hG a_504 a_504.n (by decide) hin_X12 rfl (by decide) (by decide) rfl kw_1729 rfl ((hw).1 (504, 37, 529) (by decide)) (by decide) dX12_findSoon_100 ?_
              refine V.iload_n (pc := 103) hG dX12_findSoon_103 rfl 1 rfl ?_
              obtain ⟨g182, h⟩ := h
              refine V.iald (pc := 104) (z := 96) (o := 529) hG a_529 a_529.n hx1_11 g182 dX12_findSoon_104 ?_
              refine V.aload_n (pc := 105) hG dX12_findSoon_105 rfl 0 rfl ?_
              refine V.iload_n (pc := 106) hG dX12_findSoon_106 rfl 1 rfl ?_
              refine V.callVi (pc := 107) (As := [.int (sJ x1_11)]) (stk := [.int (sJ (i_28 529 x1_11)), .int (sJ (i_28 504 48)), .ref (sA Δ 504)]) hG (sm_X12_cyclesOf l Δ hx1_11 hi_28 hw h) mY_X12_cyclesOf kw_1947 kw_1949 kw_123 a_504 (by decide) (q := (RX12, TX12, 49)) rfl rfl ⟨Nat.le_of_ble_eq_true rfl, Nat.le_of_ble_eq_true rfl, Nat.le_of_ble_eq_true rfl, Nat.le_of_ble_eq_true rfl⟩ rfl (Nat.le_of_ble_eq_true rfl) dX12_findSoon_107 rfl (fun v183 i184 r185 hv186 hi187 hw188 hq189 => ?_)
              obtain ⟨e190, e191, h⟩ := hq189
              subst e190
              subst e191
              refine V.iadd (pc := 110) hG dX12_findSoon_110 ?_
              refine V.mmax (pc := 111) hG ((hi_28 _ _)) ((sR_wr _)) kw_1955 kw_680 kw_173 kw_max ⟨Nat.le_of_ble_eq_true rfl, Nat.le_of_ble_eq_true rfl, Nat.le_of_ble_eq_true rfl, Nat.le_of_ble_eq_true rfl⟩ dX12_findSoon_111 ?_
              refine V.putI (pc := 114) (ci := 14) (k := 48) (M := 49) (T := TX12) (o := 504) (kz := 48) hG a_504 a_504.n (by decide) hin_X12 rfl (by decide) (by decide) rfl kw_1740 rfl tyX12 tyX12_ok nmX12 rfl (ty := tyX12 48) (tyX12_ok 48 (by decide)) rfl rfl dX12_findSoon_114 ?_
              refine V.iinc (pc := 117) (lv' := [(1, .int (sJ (wr (x1_11 + 1)))), (0, .ref (sA Δ 504)), (2, .int (sJ x2_28))]) hG dX12_findSoon_117 1 rfl (by decide) rfl ?_
              refine V.goto (pc := 120) (tgt := 11) hG dX12_findSoon_120 (by decide) ?_
              refine V.pick [1, 0] rfl ?_
              exact ih11 (wr (x1_11 + 1)) (st i_28 504 48 (max (i_28 504 48) (wr (i_28 529 x1_11 + v183)))) ((sR_wr _)) ((okI_st hi_28 ((sR_max ((hi_28 _ _)) ((sR_wr _)))))) h
            · have h := f181 c179
              clear t180 f181
              refine V.aload_n (pc := 36) hG dX12_findSoon_36 rfl 0 rfl ?_
              refine V.getR (x := 524) (pc := 37) (ci := 14) (k := 32) (M := 49) (T := TX12) (o := 504) (kz := 32) hG a_504 a_504.n (by decide) hin_X12 rfl (by decide) (by decide) rfl kw_1724 rfl ((hw).1 (504, 32, 524) (by decide)) (by decide) dX12_findSoon_37 ?_
              refine V.iload_n (pc := 40) hG dX12_findSoon_40 rfl 2 rfl ?_
              obtain ⟨g192, h⟩ := h
              refine V.iald (pc := 41) (z := 20000) (o := 524) hG a_524 a_524.n hx2_28 g192 dX12_findSoon_41 ?_
              refine V.iload_n (pc := 42) hG dX12_findSoon_42 rfl 1 rfl ?_
              obtain ⟨f195, t194⟩ := h
              refine V.icmp_ne (pc := 43) (tgt := 88) hG ((hi_28 _ _)) hx1_11 dX12_findSoon_43 (by decide) (fun c193 => ?_) (fun c193 => ?_)
              · have h := t194 c193
                clear t194 f195
                exact jn88 x2_28 i_28 hx2_28 hi_28 h
              · have h := f195 c193
                clear t194 f195
                refine V.aload_n (pc := 46) hG dX12_findSoon_46 rfl 0 rfl ?_
                refine V.getR (x := 525) (pc := 47) (ci := 14) (k := 33) (M := 49) (T := TX12) (o := 504) (kz := 33) hG a_504 a_504.n (by decide) hin_X12 rfl (by decide) (by decide) rfl kw_1725 rfl ((hw).1 (504, 33, 525) (by decide)) (by decide) dX12_findSoon_47 ?_
                refine V.iload_n (pc := 50) hG dX12_findSoon_50 rfl 2 rfl ?_
                obtain ⟨g196, h⟩ := h
                refine V.iald (pc := 51) (z := 20000) (o := 525) hG a_525 a_525.n hx2_28 g196 dX12_findSoon_51 ?_
                obtain ⟨f199, t198⟩ := h
                refine V.if_ne (pc := 52) (tgt := 88) hG ((hi_28 _ _)) dX12_findSoon_52 (by decide) (fun c197 => ?_) (fun c197 => ?_)
                · have h := t198 c197
                  clear t198 f199
                  exact jn88 x2_28 i_28 hx2_28 hi_28 h
                · have h := f199 c197
                  clear t198 f199
                  refine V.aload_n (pc := 55) hG dX12_findSoon_55 rfl 0 rfl ?_
                  refine V.getR (x := 529) (pc := 56) (ci := 14) (k := 37) (M := 49) (T := TX12) (o := 504) (kz := 37) hG a_504 a_504.n (by decide) hin_X12 rfl (by decide) (by decide) rfl kw_1729 rfl ((hw).1 (504, 37, 529) (by decide)) (by decide) dX12_findSoon_56 ?_
                  refine V.iload_n (pc := 59) hG dX12_findSoon_59 rfl 1 rfl ?_
                  refine V.aload_n (pc := 60) hG dX12_findSoon_60 rfl 0 rfl ?_
                  refine V.getR (x := 529) (pc := 61) (ci := 14) (k := 37) (M := 49) (T := TX12) (o := 504) (kz := 37) hG a_504 a_504.n (by decide) hin_X12 rfl (by decide) (by decide) rfl kw_1729 rfl ((hw).1 (504, 37, 529) (by decide)) (by decide) dX12_findSoon_61 ?_
                  refine V.iload_n (pc := 64) hG dX12_findSoon_64 rfl 1 rfl ?_
                  obtain ⟨g200, h⟩ := h
                  refine V.iald (pc := 65) (z := 96) (o := 529) hG a_529 a_529.n hx1_11 g200 dX12_findSoon_65 ?_
                  refine V.aload_n (pc := 66) hG dX12_findSoon_66 rfl 0 rfl ?_
                  refine V.getR (x := 529) (pc := 67) (ci := 14) (k := 37) (M := 49) (T := TX12) (o := 504) (kz := 37) hG a_504 a_504.n (by decide) hin_X12 rfl (by decide) (by decide) rfl kw_1729 rfl ((hw).1 (504, 37, 529) (by decide)) (by decide) dX12_findSoon_67 ?_
                  refine V.aload_n (pc := 70) hG dX12_findSoon_70 rfl 0 rfl ?_
                  refine V.getR (x := 523) (pc := 71) (ci := 14) (k := 31) (M := 49) (T := TX12) (o := 504) (kz := 31) hG a_504 a_504.n (by decide) hin_X12 rfl (by decide) (by decide) rfl kw_1723 rfl ((hw).1 (504, 31, 523) (by decide)) (by decide) dX12_findSoon_71 ?_
                  refine V.iload_n (pc := 74) hG dX12_findSoon_74 rfl 2 rfl ?_
                  obtain ⟨g201, h⟩ := h
                  refine V.iald (pc := 75) (z := 20000) (o := 523) hG a_523 a_523.n hx2_28 g201 dX12_findSoon_75 ?_
                  obtain ⟨g202, h⟩ := h
                  refine V.iald (pc := 76) (z := 96) (o := 529) hG a_529 a_529.n ((hi_28 _ _)) g202 dX12_findSoon_76 ?_
                  refine V.aload_n (pc := 77) hG dX12_findSoon_77 rfl 0 rfl ?_
                  refine V.getR (x := 526) (pc := 78) (ci := 14) (k := 34) (M := 49) (T := TX12) (o := 504) (kz := 34) hG a_504 a_504.n (by decide) hin_X12 rfl (by decide) (by decide) rfl kw_1726 rfl ((hw).1 (504, 34, 526) (by decide)) (by decide) dX12_findSoon_78 ?_
                  refine V.iload_n (pc := 81) hG dX12_findSoon_81 rfl 2 rfl ?_
                  obtain ⟨g203, h⟩ := h
                  refine V.iald (pc := 82) (z := 20000) (o := 526) hG a_526 a_526.n hx2_28 g203 dX12_findSoon_82 ?_
                  refine V.iadd (pc := 83) hG dX12_findSoon_83 ?_
                  refine V.mmax (pc := 84) hG ((hi_28 _ _)) ((sR_wr _)) kw_1955 kw_680 kw_173 kw_max ⟨Nat.le_of_ble_eq_true rfl, Nat.le_of_ble_eq_true rfl, Nat.le_of_ble_eq_true rfl, Nat.le_of_ble_eq_true rfl⟩ dX12_findSoon_84 ?_
                  obtain ⟨g204, h⟩ := h
                  refine V.iast (pc := 87) (z := 96) (o := 529) hG a_529 a_529.n hx1_11 g204 dX12_findSoon_87 ?_
                  exact jn88 x2_28 (st i_28 529 x1_11 (max (i_28 529 x1_11) (wr (i_28 529 (i_28 523 x2_28) + i_28 526 x2_28)))) hx2_28 ((okI_st hi_28 ((sR_max ((hi_28 _ _)) ((sR_wr _)))))) h
        refine V.pick [1, 2, 0] rfl ?_
        exact lp28 n178 0 (st i_11 529 x1_11 0) ((sR_l rfl)) ((okI_st hi_11 ((sR_l rfl)))) h
  refine V.pick [1, 0] rfl ?_
  exact lp11 n142 0 (st i2 504 48 0) ((sR_l rfl)) ((okI_st hi5 ((sR_l rfl)))) h
set_option maxRecDepth 100000 in
set_option maxHeartbeats 4000000 in
theorem sm_X12_canBegin (l : Launch) (Δ : Wd) {i r : MI} {p1 : Int} {p2 : Int} (hp1 : sR p1) (hp2 : sR p2) {Q : Int → Prop} (hi : okI i) (hw : Wf r) (h : wp_X12_canBegin p1 p2 i r Q) : Met l yX12_canBegin (Cond.code yX12_canBegin cX12_canBegin 6 (some .boolean) :: gW) (sRm 0 0) (sPc Δ [.ref (sA Δ 504), .int (sJ p1), .int (sJ p2)] i r) (sQi Δ (fun x i' r' => i = i' ∧ r = r' ∧ Q x)) 0 0 (sFr Δ) := by
  refine Ct.i (ty := .boolean) (by decide) rfl (Nat.le_of_ble_eq_true rfl) (fun Γ Q0 hG fin => ?_)
  have hG : okG Γ Δ l (sRm 0 0) cX12_canBegin "SchedularyModel" 6 := hG
  show V Γ Δ 542 false i r 0 0 Q0 0 [(0, .ref (sA Δ 504)), (1, .int (sJ p1)), (2, .int (sJ p2))] []
  have jn191 : ∀ (k0j191 : Int), sR k0j191 → s191_X12_canBegin k0j191 i r Q → V Γ Δ 542 false i r 0 0 Q0 191 [] [.int (sJ k0j191)] := by
    intro k0j191 hk0j191 h
    obtain ⟨g2, h⟩ := h
    exact fin dX12_canBegin_191 hk0j191 (nar_z g2) hi hw ⟨rfl, rfl, h⟩
  have jn190 : s190_X12_canBegin i r Q → V Γ Δ 542 false i r 0 0 Q0 190 [] [] := by
    intro h
    refine V.iconst (pc := 190) hG dX12_canBegin_190 ?_
    exact jn191 0 ((sR_l rfl)) h
  have jn166 : ∀ (x3j166 : Int) (x4j166 : Int), sR x3j166 → sR x4j166 → s166_X12_canBegin p1 x3j166 x4j166 i r Q → V Γ Δ 542 false i r 0 0 Q0 166 [(0, .ref (sA Δ 504)), (1, .int (sJ p1)), (3, .int (sJ x3j166)), (4, .int (sJ x4j166))] [] := by
    intro x3j166 x4j166 hx3j166 hx4j166 h
    refine V.iload_n (pc := 166) hG dX12_canBegin_166 rfl 2 rfl ?_
    obtain ⟨t12, f13⟩ := h
    refine V.if_eq (pc := 167) (tgt := 190) hG hx3j166 dX12_canBegin_167 (by decide) (fun c11 => ?_) (fun c11 => ?_)
    · have h := t12 c11
      clear t12 f13
      refine V.pick [] rfl ?_
      exact jn190 h
    · have h := f13 c11
      clear t12 f13
      refine V.iload (pc := 170) hG dX12_canBegin_170 3 rfl ?_
      refine V.aload_n (pc := 172) hG dX12_canBegin_172 rfl 0 rfl ?_
      refine V.getR (x := 510) (pc := 173) (ci := 14) (k := 14) (M := 49) (T := TX12) (o := 504) (kz := 14) hG a_504 a_504.n (by decide) hin_X12 rfl (by decide) (by decide) rfl kw_1706 rfl ((hw).1 (504, 14, 510) (by decide)) (by decide) dX12_canBegin_173 ?_
      refine V.aload_n (pc := 176) hG dX12_canBegin_176 rfl 0 rfl ?_
      refine V.getR (x := 517) (pc := 177) (ci := 14) (k := 24) (M := 49) (T := TX12) (o := 504) (kz := 24) hG a_504 a_504.n (by decide) hin_X12 rfl (by decide) (by decide) rfl kw_1716 rfl ((hw).1 (504, 24, 517) (by decide)) (by decide) dX12_canBegin_177 ?_
      refine V.iload_n (pc := 180) hG dX12_canBegin_180 rfl 1 rfl ?_
      obtain ⟨g14, h⟩ := h
      refine V.iald (pc := 181) (z := 96) (o := 517) hG a_517 a_517.n hp1 g14 dX12_canBegin_181 ?_
      obtain ⟨g15, h⟩ := h
      refine V.iald (pc := 182) (z := 7) (o := 510) hG a_510 a_510.n ((hi _ _)) g15 dX12_canBegin_182 ?_
      obtain ⟨t17, f18⟩ := h
      refine V.icmp_ge (pc := 183) (tgt := 190) hG hx4j166 ((hi _ _)) dX12_canBegin_183 (by decide) (fun c16 => ?_) (fun c16 => ?_)
      · have h := t17 c16
        clear t17 f18
        refine V.pick [] rfl ?_
        exact jn190 h
      · have h := f18 c16
        clear t17 f18
        refine V.iconst (pc := 186) hG dX12_canBegin_186 ?_
        refine V.goto (pc := 187) (tgt := 191) hG dX12_canBegin_187 (by decide) ?_
        refine V.pick [] rfl ?_
        exact jn191 1 ((sR_l rfl)) h
  have jn104 : ∀ (x3j104 : Int), sR x3j104 → s104_X12_canBegin p1 p2 x3j104 i r Q → V Γ Δ 542 false i r 0 0 Q0 104 [(0, .ref (sA Δ 504)), (1, .int (sJ p1)), (2, .int (sJ p2)), (3, .int (sJ x3j104))] [] := by
    intro x3j104 hx3j104 h
    refine V.iconst (pc := 104) hG dX12_canBegin_104 ?_
    refine V.istore (pc := 105) (lv' := [(4, .int (sJ 0)), (0, .ref (sA Δ 504)), (1, .int (sJ p1)), (2, .int (sJ p2)), (3, .int (sJ x3j104))]) hG dX12_canBegin_105 (by decide) rfl ?_
    refine V.iconst (pc := 107) hG dX12_canBegin_107 ?_
    refine V.istore (pc := 108) (lv' := [(5, .int (sJ 0)), (4, .int (sJ 0)), (0, .ref (sA Δ 504)), (1, .int (sJ p1)), (2, .int (sJ p2)), (3, .int (sJ x3j104))]) hG dX12_canBegin_108 (by decide) rfl ?_
    obtain ⟨n50, h⟩ := h
    have lp110 : ∀ (m110 : Nat) (x4_110 : Int) (x5_110 : Int), sR x4_110 → sR x5_110 → LoopP (b110_X12_canBegin p1 p2 x3j104 i r Q) m110 (x4_110, x5_110) → V Γ Δ 542 false i r 0 0 Q0 110 [(0, .ref (sA Δ 504)), (1, .int (sJ p1)), (2, .int (sJ p2)), (3, .int (sJ x3j104)), (4, .int (sJ x4_110)), (5, .int (sJ x5_110))] [] := by
      intro m110
      induction m110 with
      | zero => intro x4_110 x5_110 hx4_110 hx5_110 h; exact h.elim
      | succ m110 ih110 =>
        intro x4_110 x5_110 hx4_110 hx5_110 h
        have h := LoopP_succ h
        have jn157 : ∀ (x5j157 : Int) (k0j157 : Int) (k1j157 : Int), sR x5j157 → sR k0j157 → sR k1j157 → s157_X12_canBegin p1 p2 x3j104 x5j157 k0j157 k1j157 i r Q (LoopP (b110_X12_canBegin p1 p2 x3j104 i r Q) m110) → V Γ Δ 542 false i r 0 0 Q0 157 [(0, .ref (sA Δ 504)), (1, .int (sJ p1)), (2, .int (sJ p2)), (3, .int (sJ x3j104)), (5, .int (sJ x5j157))] [.int (sJ k1j157), .int (sJ k0j157)] := by
          intro x5j157 k0j157 k1j157 hx5j157 hk0j157 hk1j157 h
          refine V.iadd (pc := 157) hG dX12_canBegin_157 ?_
          refine V.istore (pc := 158) (lv' := [(4, .int (sJ (wr (k0j157 + k1j157)))), (0, .ref (sA Δ 504)), (1, .int (sJ p1)), (2, .int (sJ p2)), (3, .int (sJ x3j104)), (5, .int (sJ x5j157))]) hG dX12_canBegin_158 (by decide) rfl ?_
          refine V.iinc (pc := 160) (lv' := [(5, .int (sJ (wr (x5j157 + 1)))), (4, .int (sJ (wr (k0j157 + k1j157)))), (0, .ref (sA Δ 504)), (1, .int (sJ p1)), (2, .int (sJ p2)), (3, .int (sJ x3j104))]) hG dX12_canBegin_160 5 rfl (by decide) rfl ?_
          refine V.goto (pc := 163) (tgt := 110) hG dX12_canBegin_163 (by decide) ?_
          refine V.pick [2, 3, 4, 5, 1, 0] rfl ?_
          exact ih110 (wr (k0j157 + k1j157)) (wr (x5j157 + 1)) ((sR_wr _)) ((sR_wr _)) h
        have jn156 : ∀ (x5j156 : Int) (k0j156 : Int), sR x5j156 → sR k0j156 → s156_X12_canBegin p1 p2 x3j104 x5j156 k0j156 i r Q (LoopP (b110_X12_canBegin p1 p2 x3j104 i r Q) m110) → V Γ Δ 542 false i r 0 0 Q0 156 [(0, .ref (sA Δ 504)), (1, .int (sJ p1)), (2, .int (sJ p2)), (3, .int (sJ x3j104)), (5, .int (sJ x5j156))] [.int (sJ k0j156)] := by
          intro x5j156 k0j156 hx5j156 hk0j156 h
          refine V.iconst (pc := 156) hG dX12_canBegin_156 ?_
          exact jn157 x5j156 k0j156 0 hx5j156 hk0j156 ((sR_l rfl)) h
        refine V.iload (pc := 110) hG dX12_canBegin_110 5 rfl ?_
        refine V.aload_n (pc := 112) hG dX12_canBegin_112 rfl 0 rfl ?_
        refine V.getI (pc := 113) (ci := 14) (k := 21) (M := 49) (T := TX12) (o := 504) (kz := 21) hG a_504 a_504.n (by decide) hin_X12 rfl (by decide) (by decide) rfl kw_1713 rfl dX12_canBegin_113 ?_
        obtain ⟨t52, f53⟩ := h
        refine V.icmp_ge (pc := 116) (tgt := 166) hG hx5_110 ((hi _ _)) dX12_canBegin_116 (by decide) (fun c51 => ?_) (fun c51 => ?_)
        · have h := t52 c51
          clear t52 f53
          refine V.pick [0, 1, 3, 4] rfl ?_
          exact jn166 x3j104 x4_110 hx3j104 hx4_110 h
        · have h := f53 c51
          clear t52 f53
          refine V.iload_n (pc := 119) hG dX12_canBegin_119 rfl 3 rfl ?_
          obtain ⟨t55, f56⟩ := h
          refine V.if_eq (pc := 120) (tgt := 166) hG hx3j104 dX12_canBegin_120 (by decide) (fun c54 => ?_) (fun c54 => ?_)
          · have h := t55 c54
            clear t55 f56
            refine V.pick [0, 1, 3, 4] rfl ?_
            exact jn166 x3j104 x4_110 hx3j104 hx4_110 h
          · have h := f56 c54
            clear t55 f56
            refine V.iload (pc := 123) hG dX12_canBegin_123 4 rfl ?_
            refine V.aload_n (pc := 125) hG dX12_canBegin_125 rfl 0 rfl ?_
            refine V.getR (x := 517) (pc := 126) (ci := 14) (k := 24) (M := 49) (T := TX12) (o := 504) (kz := 24) hG a_504 a_504.n (by decide) hin_X12 rfl (by decide) (by decide) rfl kw_1716 rfl ((hw).1 (504, 24, 517) (by decide)) (by decide) dX12_canBegin_126 ?_
            refine V.iload (pc := 129) hG dX12_canBegin_129 5 rfl ?_
            obtain ⟨g57, h⟩ := h
            refine V.iald (pc := 131) (z := 96) (o := 517) hG a_517 a_517.n hx5_110 g57 dX12_canBegin_131 ?_
            refine V.aload_n (pc := 132) hG dX12_canBegin_132 rfl 0 rfl ?_
            refine V.getR (x := 517) (pc := 133) (ci := 14) (k := 24) (M := 49) (T := TX12) (o := 504) (kz := 24) hG a_504 a_504.n (by decide) hin_X12 rfl (by decide) (by decide) rfl kw_1716 rfl ((hw).1 (504, 24, 517) (by decide)) (by decide) dX12_canBegin_133 ?_
            refine V.iload_n (pc := 136) hG dX12_canBegin_136 rfl 1 rfl ?_
            obtain ⟨g58, h⟩ := h
            refine V.iald (pc := 137) (z := 96) (o := 517) hG a_517 a_517.n hp1 g58 dX12_canBegin_137 ?_
            obtain ⟨f61, t60⟩ := h
            refine V.icmp_ne (pc := 138) (tgt := 156) hG ((hi _ _)) ((hi _ _)) dX12_canBegin_138 (by decide) (fun c59 => ?_) (fun c59 => ?_)
            · have h := t60 c59
              clear t60 f61
              refine V.pick [0, 1, 2, 3, 5] rfl ?_
              exact jn156 x5_110 x4_110 hx5_110 hx4_110 h
            · have h := f61 c59
              clear t60 f61
              refine V.aload_n (pc := 141) hG dX12_canBegin_141 rfl 0 rfl ?_
              refine V.getR (x := 531) (pc := 142) (ci := 14) (k := 39) (M := 49) (T := TX12) (o := 504) (kz := 39) hG a_504 a_504.n (by decide) hin_X12 rfl (by decide) (by decide) rfl kw_1731 rfl ((hw).1 (504, 39, 531) (by decide)) (by decide) dX12_canBegin_142 ?_
              refine V.iload (pc := 145) hG dX12_canBegin_145 5 rfl ?_
              obtain ⟨g62, h⟩ := h
              refine V.iald (pc := 147) (z := 96) (o := 531) hG a_531 a_531.n hx5_110 g62 dX12_canBegin_147 ?_
              refine V.iload_n (pc := 148) hG dX12_canBegin_148 rfl 2 rfl ?_
              obtain ⟨f65, t64⟩ := h
              refine V.icmp_ne (pc := 149) (tgt := 156) hG ((hi _ _)) hp2 dX12_canBegin_149 (by decide) (fun c63 => ?_) (fun c63 => ?_)
              · have h := t64 c63
                clear t64 f65
                refine V.pick [0, 1, 2, 3, 5] rfl ?_
                exact jn156 x5_110 x4_110 hx5_110 hx4_110 h
              · have h := f65 c63
                clear t64 f65
                refine V.iconst (pc := 152) hG dX12_canBegin_152 ?_
                refine V.goto (pc := 153) (tgt := 157) hG dX12_canBegin_153 (by decide) ?_
                refine V.pick [0, 1, 2, 3, 5] rfl ?_
                exact jn157 x5_110 x4_110 1 hx5_110 hx4_110 ((sR_l rfl)) h
    refine V.pick [2, 3, 4, 5, 1, 0] rfl ?_
    exact lp110 n50 0 0 ((sR_l rfl)) ((sR_l rfl)) h
  have jn15 : ∀ (k0j15 : Int), sR k0j15 → s15_X12_canBegin p1 p2 k0j15 i r Q → V Γ Δ 542 false i r 0 0 Q0 15 [(0, .ref (sA Δ 504)), (1, .int (sJ p1)), (2, .int (sJ p2))] [.int (sJ k0j15)] := by
    intro k0j15 hk0j15 h
    refine V.istore_n (pc := 15) (lv' := [(3, .int (sJ k0j15)), (0, .ref (sA Δ 504)), (1, .int (sJ p1)), (2, .int (sJ p2))]) hG dX12_canBegin_15 rfl (by decide) rfl ?_
    refine V.iconst (pc := 16) hG dX12_canBegin_16 ?_
    refine V.istore (pc := 17) (lv' := [(4, .int (sJ 0)), (3, .int (sJ k0j15)), (0, .ref (sA Δ 504)), (1, .int (sJ p1)), (2, .int (sJ p2))]) hG dX12_canBegin_17 (by decide) rfl ?_
    obtain ⟨n115, h⟩ := h
    have lp19 : ∀ (m19 : Nat) (x3_19 : Int) (x4_19 : Int), sR x3_19 → sR x4_19 → LoopP (b19_X12_canBegin p1 p2 i r Q) m19 (x3_19, x4_19) → V Γ Δ 542 false i r 0 0 Q0 19 [(0, .ref (sA Δ 504)), (1, .int (sJ p1)), (2, .int (sJ p2)), (3, .int (sJ x3_19)), (4, .int (sJ x4_19))] [] := by
      intro m19
      induction m19 with
      | zero => intro x3_19 x4_19 hx3_19 hx4_19 h; exact h.elim
      | succ m19 ih19 =>
        intro x3_19 x4_19 hx3_19 hx4_19 h
        have h := LoopP_succ h
        have jn97 : ∀ (x4j97 : Int) (k0j97 : Int), sR x4j97 → sR k0j97 → s97_X12_canBegin p1 p2 x4j97 k0j97 i r Q (LoopP (b19_X12_canBegin p1 p2 i r Q) m19) → V Γ Δ 542 false i r 0 0 Q0 97 [(0, .ref (sA Δ 504)), (1, .int (sJ p1)), (2, .int (sJ p2)), (4, .int (sJ x4j97))] [.int (sJ k0j97)] := by
          intro x4j97 k0j97 hx4j97 hk0j97 h
          refine V.istore_n (pc := 97) (lv' := [(3, .int (sJ k0j97)), (0, .ref (sA Δ 504)), (1, .int (sJ p1)), (2, .int (sJ p2)), (4, .int (sJ x4j97))]) hG dX12_canBegin_97 rfl (by decide) rfl ?_
          refine V.iinc (pc := 98) (lv' := [(4, .int (sJ (wr (x4j97 + 1)))), (3, .int (sJ k0j97)), (0, .ref (sA Δ 504)), (1, .int (sJ p1)), (2, .int (sJ p2))]) hG dX12_canBegin_98 4 rfl (by decide) rfl ?_
          refine V.goto (pc := 101) (tgt := 19) hG dX12_canBegin_101 (by decide) ?_
          refine V.pick [2, 3, 4, 1, 0] rfl ?_
          exact ih19 k0j97 (wr (x4j97 + 1)) hk0j97 ((sR_wr _)) h
        have jn96 : ∀ (x4j96 : Int), sR x4j96 → s96_X12_canBegin p1 p2 x4j96 i r Q (LoopP (b19_X12_canBegin p1 p2 i r Q) m19) → V Γ Δ 542 false i r 0 0 Q0 96 [(0, .ref (sA Δ 504)), (1, .int (sJ p1)), (2, .int (sJ p2)), (4, .int (sJ x4j96))] [] := by
          intro x4j96 hx4j96 h
          refine V.iconst (pc := 96) hG dX12_canBegin_96 ?_
          exact jn97 x4j96 0 hx4j96 ((sR_l rfl)) h
        have jn92 : ∀ (x4j92 : Int), sR x4j92 → s92_X12_canBegin p1 p2 x4j92 i r Q (LoopP (b19_X12_canBegin p1 p2 i r Q) m19) → V Γ Δ 542 false i r 0 0 Q0 92 [(0, .ref (sA Δ 504)), (1, .int (sJ p1)), (2, .int (sJ p2)), (4, .int (sJ x4j92))] [] := by
          intro x4j92 hx4j92 h
          refine V.iconst (pc := 92) hG dX12_canBegin_92 ?_
          refine V.goto (pc := 93) (tgt := 97) hG dX12_canBegin_93 (by decide) ?_
          exact jn97 x4j92 1 hx4j92 ((sR_l rfl)) h
        refine V.iload (pc := 19) hG dX12_canBegin_19 4 rfl ?_
        refine V.aload_n (pc := 21) hG dX12_canBegin_21 rfl 0 rfl ?_
        refine V.getI (pc := 22) (ci := 14) (k := 30) (M := 49) (T := TX12) (o := 504) (kz := 30) hG a_504 a_504.n (by decide) hin_X12 rfl (by decide) (by decide) rfl kw_1722 rfl dX12_canBegin_22 ?_
        obtain ⟨t117, f118⟩ := h
        refine V.icmp_ge (pc := 25) (tgt := 104) hG hx4_19 ((hi _ _)) dX12_canBegin_25 (by decide) (fun c116 => ?_) (fun c116 => ?_)
        · have h := t117 c116
          clear t117 f118
          refine V.pick [0, 1, 2, 3] rfl ?_
          exact jn104 x3_19 hx3_19 h
        · have h := f118 c116
          clear t117 f118
          refine V.iload_n (pc := 28) hG dX12_canBegin_28 rfl 3 rfl ?_
          obtain ⟨t120, f121⟩ := h
          refine V.if_eq (pc := 29) (tgt := 104) hG hx3_19 dX12_canBegin_29 (by decide) (fun c119 => ?_) (fun c119 => ?_)
          · have h := t120 c119
            clear t120 f121
            refine V.pick [0, 1, 2, 3] rfl ?_
            exact jn104 x3_19 hx3_19 h
          · have h := f121 c119
            clear t120 f121
            refine V.aload_n (pc := 32) hG dX12_canBegin_32 rfl 0 rfl ?_
            refine V.getR (x := 523) (pc := 33) (ci := 14) (k := 31) (M := 49) (T := TX12) (o := 504) (kz := 31) hG a_504 a_504.n (by decide) hin_X12 rfl (by decide) (by decide) rfl kw_1723 rfl ((hw).1 (504, 31, 523) (by decide)) (by decide) dX12_canBegin_33 ?_
            refine V.iload (pc := 36) hG dX12_canBegin_36 4 rfl ?_
            obtain ⟨g122, h⟩ := h
            refine V.iald (pc := 38) (z := 20000) (o := 523) hG a_523 a_523.n hx4_19 g122 dX12_canBegin_38 ?_
            refine V.istore (pc := 39) (lv' := [(5, .int (sJ (i 523 x4_19))), (0, .ref (sA Δ 504)), (1, .int (sJ p1)), (2, .int (sJ p2)), (3, .int (sJ x3_19)), (4, .int (sJ x4_19))]) hG dX12_canBegin_39 (by decide) rfl ?_
            refine V.aload_n (pc := 41) hG dX12_canBegin_41 rfl 1 rfl ?_
            refine V.getR (x := 524) (pc := 42) (ci := 14) (k := 32) (M := 49) (T := TX12) (o := 504) (kz := 32) hG a_504 a_504.n (by decide) hin_X12 rfl (by decide) (by decide) rfl kw_1724 rfl ((hw).1 (504, 32, 524) (by decide)) (by decide) dX12_canBegin_42 ?_
            refine V.iload (pc := 45) hG dX12_canBegin_45 5 rfl ?_
            obtain ⟨g123, h⟩ := h
            refine V.iald (pc := 47) (z := 20000) (o := 524) hG a_524 a_524.n hx4_19 g123 dX12_canBegin_47 ?_
            refine V.iload_n (pc := 48) hG dX12_canBegin_48 rfl 2 rfl ?_
            obtain ⟨f126, t125⟩ := h
            refine V.icmp_ne (pc := 49) (tgt := 92) hG ((hi _ _)) hp1 dX12_canBegin_49 (by decide) (fun c124 => ?_) (fun c124 => ?_)
            · have h := t125 c124
              clear t125 f126
              refine V.pick [1, 2, 3, 5] rfl ?_
              exact jn92 x4_19 hx4_19 h
            · have h := f126 c124
              clear t125 f126
              refine V.aload_n (pc := 52) hG dX12_canBegin_52 rfl 1 rfl ?_
              refine V.getR (x := 525) (pc := 53) (ci := 14) (k := 33) (M := 49) (T := TX12) (o := 504) (kz := 33) hG a_504 a_504.n (by decide) hin_X12 rfl (by decide) (by decide) rfl kw_1725 rfl ((hw).1 (504, 33, 525) (by decide)) (by decide) dX12_canBegin_53 ?_
              refine V.iload (pc := 56) hG dX12_canBegin_56 5 rfl ?_
              obtain ⟨g127, h⟩ := h
              refine V.iald (pc := 58) (z := 20000) (o := 525) hG a_525 a_525.n hx4_19 g127 dX12_canBegin_58 ?_
              obtain ⟨f130, t129⟩ := h
              refine V.if_ne (pc := 59) (tgt := 92) hG ((hi _ _)) dX12_canBegin_59 (by decide) (fun c128 => ?_) (fun c128 => ?_)
              · have h := t129 c128
                clear t129 f130
                refine V.pick [1, 2, 3, 5] rfl ?_
                exact jn92 x4_19 hx4_19 h
              · have h := f130 c128
                clear t129 f130
                refine V.aload_n (pc := 62) hG dX12_canBegin_62 rfl 1 rfl ?_
                refine V.getR (x := 531) (pc := 63) (ci := 14) (k := 39) (M := 49) (T := TX12) (o := 504) (kz := 39) hG a_504 a_504.n (by decide) hin_X12 rfl (by decide) (by decide) rfl kw_1731 rfl ((hw).1 (504, 39, 531) (by decide)) (by decide) dX12_canBegin_63 ?_
                refine V.iload (pc := 66) hG dX12_canBegin_66 0 rfl ?_
                obtain ⟨g131, h⟩ := h
                refine V.iald (pc := 68) (z := 96) (o := 531) hG a_531 a_531.n ((hi _ _)) g131 dX12_canBegin_68 ?_
                refine V.iconst (pc := 69) hG dX12_canBegin_69 ?_
                obtain ⟨t133, f134⟩ := h
                refine V.icmp_eq (pc := 70) (tgt := 96) hG ((hi _ _)) ((sR_l rfl)) dX12_canBegin_70 (by decide) (fun c132 => ?_) (fun c132 => ?_)
                · have h := t133 c132
                  clear t133 f134
                  refine V.pick [1, 2, 3, 5] rfl ?_
                  exact jn96 x4_19 hx4_19 h
                · have h := f134 c132
                  clear t133 f134
                  refine V.aload_n (pc := 73) hG dX12_canBegin_73 rfl 1 rfl ?_
                  refine V.getR (x := 531) (pc := 74) (ci := 14) (k := 39) (M := 49) (T := TX12) (o := 504) (kz := 39) hG a_504 a_504.n (by decide) hin_X12 rfl (by decide) (by decide) rfl kw_1731 rfl ((hw).1 (504, 39, 531) (by decide)) (by decide) dX12_canBegin_74 ?_
                  refine V.iload (pc := 77) hG dX12_canBegin_77 0 rfl ?_
                  obtain ⟨g135, h⟩ := h
                  refine V.iald (pc := 79) (z := 96) (o := 531) hG a_531 a_531.n ((hi _ _)) g135 dX12_canBegin_79 ?_
                  refine V.aload_n (pc := 80) hG dX12_canBegin_80 rfl 1 rfl ?_
                  refine V.getR (x := 526) (pc := 81) (ci := 14) (k := 34) (M := 49) (T := TX12) (o := 504) (kz := 34) hG a_504 a_504.n (by decide) hin_X12 rfl (by decide) (by decide) rfl kw_1726 rfl ((hw).1 (504, 34, 526) (by decide)) (by decide) dX12_canBegin_81 ?_
                  refine V.iload (pc := 84) hG dX12_canBegin_84 5 rfl ?_
                  obtain ⟨g136, h⟩ := h
                  refine V.iald (pc := 86) (z := 20000) (o := 526) hG a_526 a_526.n hx4_19 g136 dX12_canBegin_86 ?_
                  refine V.iadd (pc := 87) hG dX12_canBegin_87 ?_
                  refine V.iload_n (pc := 88) hG dX12_canBegin_88 rfl 3 rfl ?_
                  obtain ⟨t138, f139⟩ := h
                  refine V.icmp_gt (pc := 89) (tgt := 96) hG ((sR_wr _)) hp2 dX12_canBegin_89 (by decide) (fun c137 => ?_) (fun c137 => ?_)
                  · have h := t138 c137
                    clear t138 f139
                    refine V.pick [1, 2, 3, 5] rfl ?_
                    exact jn96 x4_19 hx4_19 h
                  · have h := f139 c137
                    clear t138 f139
                    refine V.pick [1, 2, 3, 5] rfl ?_
                    exact jn92 x4_19 hx4_19 h
    refine V.pick [2, 3, 4, 1, 0] rfl ?_
    exact lp19 n115 k0j15 0 hk0j15 ((sR_l rfl)) h
  refine V.aload_n (pc := 0) hG dX12_canBegin_0 rfl 0 rfl ?_
  refine V.getR (x := 531) (pc := 1) (ci := 14) (k := 39) (M := 49) (T := TX12) (o := 504) (kz := 39) hG a_504 a_504.n (by decide) hin_X12 rfl (by decide) (by decide) rfl kw_1731 rfl ((hw).1 (504, 39, 531) (by decide)) (by decide) dX12_canBegin_1 ?_
  refine V.iload_n (pc := 4) hG dX12_canBegin_4 rfl 1 rfl ?_
  obtain ⟨g140, h⟩ := h
  refine V.iald (pc := 5) (z := 96) (o := 531) hG a_531 a_531.n hp1 g140 dX12_canBegin_5 ?_
  refine V.iconst (pc := 6) hG dX12_canBegin_6 ?_
  obtain ⟨f143, t142⟩ := h
  refine V.icmp_ne (pc := 7) (tgt := 14) hG ((hi _ _)) ((sR_l rfl)) dX12_canBegin_7 (by decide) (fun c141 => ?_) (fun c141 => ?_)
  · have h := t142 c141
    clear t142 f143
    refine V.iconst (pc := 14) hG dX12_canBegin_14 ?_
    exact jn15 0 ((sR_l rfl)) h
  · have h := f143 c141
    clear t142 f143
    refine V.iconst (pc := 10) hG dX12_canBegin_10 ?_
    refine V.goto (pc := 11) (tgt := 15) hG dX12_canBegin_11 (by decide) ?_
    exact jn15 1 ((sR_l rfl)) h
set_option maxRecDepth 100000 in
set_option maxHeartbeats 4000000 in
theorem sm_X12_list (l : Launch) (Δ : Wd) {i r : MI}   {Q : MI → Prop} (hi : okI i) (hw : Wf r) (h : wp_X12_list  i r Q) : Met l yX12_list (Cond.code yX12_list cX12_list 5 none :: gW) (sRm 5 116) (sPc Δ [.ref (sA Δ 504)] i r) (sQv Δ (fun i' r' => r = r' ∧ Q i')) 0 0 (sFr Δ) := by
  refine Ct.v (by decide) rfl (Nat.le_of_ble_eq_true rfl) (fun Γ Q0 hG fin => ?_)
  have hG : okG Γ Δ l (sRm 5 116) cX12_list "SchedularyModel" 5 := hG
  show V Γ Δ 542 false i r 0 0 Q0 0 [(0, .ref (sA Δ 504))] []
  refine V.aload_n (pc := 0) hG dX12_list_0 rfl 0 rfl ?_
  refine V.callVv (pc := 1) (As := []) (stk := []) hG (sm_X12_findSoon l Δ  hi hw h) mY_X12_findSoon kw_2089 kw_2091 kw_137 a_504 (by decide) (q := (RX12, TX12, 49)) rfl rfl ⟨Nat.le_of_ble_eq_true rfl, Nat.le_of_ble_eq_true rfl, Nat.le_of_ble_eq_true rfl, Nat.le_of_ble_eq_true rfl⟩ rfl (Nat.le_of_ble_eq_true rfl) dX12_list_1 rfl (fun i2 r3 hi5 hw6 hq7 => ?_)
  obtain ⟨e238, h⟩ := hq7
  subst e238
  refine V.iconst (pc := 4) hG dX12_list_4 ?_
  refine V.istore_n (pc := 5) (lv' := [(1, .int (sJ 0)), (0, .ref (sA Δ 504))]) hG dX12_list_5 rfl (by decide) rfl ?_
  obtain ⟨n182, h⟩ := h
  have lp6 : ∀ (m6 : Nat) (x1_6 : Int) (i_6 : MI), sR x1_6 → okI i_6 → LoopP (b6_X12_list r Q) m6 (x1_6, i_6) → V Γ Δ 542 false i_6 r 0 0 Q0 6 [(0, .ref (sA Δ 504)), (1, .int (sJ x1_6))] [] := by
    intro m6
    induction m6 with
    | zero => intro x1_6 i_6 hx1_6 hi_6 h; exact h.elim
    | succ m6 ih6 =>
      intro x1_6 i_6 hx1_6 hi_6 h
      have h := LoopP_succ h
      refine V.iload_n (pc := 6) hG dX12_list_6 rfl 1 rfl ?_
      refine V.aload_n (pc := 7) hG dX12_list_7 rfl 0 rfl ?_
      refine V.getI (pc := 8) (ci := 14) (k := 21) (M := 49) (T := TX12) (o := 504) (kz := 21) hG a_504 a_504.n (by decide) hin_X12 rfl (by decide) (by decide) rfl kw_1713 rfl dX12_list_8 ?_
      obtain ⟨t184, f185⟩ := h
      refine V.icmp_ge (pc := 11) (tgt := 27) hG hx1_6 ((hi_6 _ _)) dX12_list_11 (by decide) (fun c183 => ?_) (fun c183 => ?_)
      · have h := t184 c183
        clear t184 f185
        refine V.aload_n (pc := 27) hG dX12_list_27 rfl 0 rfl ?_
        refine V.getI (pc := 28) (ci := 14) (k := 21) (M := 49) (T := TX12) (o := 504) (kz := 21) hG a_504 a_504.n (by decide) hin_X12 rfl (by decide) (by decide) rfl kw_1713 rfl dX12_list_28 ?_
        refine V.istore_n (pc := 31) (lv' := [(1, .int (sJ (i_6 504 21))), (0, .ref (sA Δ 504))]) hG dX12_list_31 rfl (by decide) rfl ?_
        refine V.iconst (pc := 32) hG dX12_list_32 ?_
        refine V.istore_n (pc := 33) (lv' := [(2, .int (sJ 0)), (1, .int (sJ (i_6 504 21))), (0, .ref (sA Δ 504))]) hG dX12_list_33 rfl (by decide) rfl ?_
        obtain ⟨n186, h⟩ := h
        have lp34 : ∀ (m34 : Nat) (x1_34 : Int) (x2_34 : Int) (i_34 : MI), sR x1_34 → sR x2_34 → okI i_34 → LoopP (b34_X12_list r Q) m34 (x1_34, x2_34, i_34) → V Γ Δ 542 false i_34 r 0 0 Q0 34 [(0, .ref (sA Δ 504)), (1, .int (sJ x1_34)), (2, .int (sJ x2_34))] [] := by
          intro m34
          induction m34 with
          | zero => intro x1_34 x2_34 i_34 hx1_34 hx2_34 hi_34 h; exact h.elim
          | succ m34 ih34 =>
            intro x1_34 x2_34 i_34 hx1_34 hx2_34 hi_34 h
            have h := LoopP_succ h
            refine V.iload_n (pc := 34) hG dX12_list_34 rfl 1 rfl ?_
            obtain ⟨t188, f189⟩ := h
            refine V.if_le (pc := 35) (tgt := 127) hG hx1_34 dX12_list_35 (by decide) (fun c187 => ?_) (fun c187 => ?_)
            · have h := t188 c187
              clear t188 f189
              refine V.aload_n (pc := 127) hG dX12_list_127 rfl 0 rfl ?_
              refine V.iconst (pc := 128) hG dX12_list_128 ?_
              refine V.putI (pc := 129) (ci := 14) (k := 48) (M := 49) (T := TX12) (o := 504) (kz := 48) hG a_504 a_504.n (by decide) hin_X12 rfl (by decide) (by decide) rfl kw_1740 rfl tyX12 tyX12_ok nmX12 rfl (ty := tyX12 48) (tyX12_ok 48 (by decide)) rfl rfl dX12_list_129 ?_
              refine V.iconst (pc := 132) hG dX12_list_132 ?_
              refine V.istore_n (pc := 133) (lv' := [(2, .int (sJ 0)), (0, .ref (sA Δ 504)), (1, .int (sJ x1_34))]) hG dX12_list_133 rfl (by decide) rfl ?_
              obtain ⟨n190, h⟩ := h
              have lp134 : ∀ (m134 : Nat) (x2_134 : Int) (i_134 : MI), sR x2_134 → okI i_134 → LoopP (b134_X12_list r Q) m134 (x2_134, i_134) → V Γ Δ 542 false i_134 r 0 0 Q0 134 [(0, .ref (sA Δ 504)), (2, .int (sJ x2_134))] [] := by
                intro m134
                induction m134 with
                | zero => intro x2_134 i_134 hx2_134 hi_134 h; exact h.elim
                | succ m134 ih134 =>
                  intro x2_134 i_134 hx2_134 hi_134 h
                  have h := LoopP_succ h
                  refine V.iload_n (pc := 134) hG dX12_list_134 rfl 1 rfl ?_
                  refine V.aload_n (pc := 135) hG dX12_list_135 rfl 0 rfl ?_
                  refine V.getI (pc := 136) (ci := 14) (k := 21) (M := 49) (T := TX12) (o := 504) (kz := 21) hG a_504 a_504.n (by decide) hin_X12 rfl (by decide) (by decide) rfl kw_1713 rfl dX12_list_136 ?_
                  obtain ⟨t192, f193⟩ := h
                  refine V.icmp_ge (pc := 139) (tgt := 171) hG hx2_134 ((hi_134 _ _)) dX12_list_139 (by decide) (fun c191 => ?_) (fun c191 => ?_)
                  · have h := t192 c191
                    clear t192 f193
                    exact fin dX12_list_171 hi_134 hw ⟨rfl, h⟩
                  · have h := f193 c191
                    clear t192 f193
                    refine V.aload_n (pc := 142) hG dX12_list_142 rfl 0 rfl ?_
                    refine V.aload_n (pc := 143) hG dX12_list_143 rfl 0 rfl ?_
                    refine V.getI (pc := 144) (ci := 14) (k := 48) (M := 49) (T := TX12) (o := 504) (kz := 48) hG a_504 a_504.n (by decide) hin_X12 rfl (by decide) (by decide) rfl kw_1740 rfl dX12_list_144 ?_
                    refine V.aload_n (pc := 147) hG dX12_list_147 rfl 0 rfl ?_
                    refine V.getR (x := 531) (pc := 148) (ci := 14) (k := 39) (M := 49) (T := TX12) (o := 504) (kz := 39) hG a_504 a_504.n (by decide) hin_X12 rfl (by decide) (by decide) rfl kw_1731 rfl ((hw).1 (504, 39, 531) (by decide)) (by decide) dX12_list_148 ?_
                    refine V.iload_n (pc := 151) hG dX12_list_151 rfl 1 rfl ?_
                    obtain ⟨g194, h⟩ := h
                    refine V.iald (pc := 152) (z := 96) (o := 531) hG a_531 a_531.n hx2_134 g194 dX12_list_152 ?_
                    refine V.aload_n (pc := 153) hG dX12_list_153 rfl 0 rfl ?_
                    refine V.iload_n (pc := 154) hG dX12_list_154 rfl 1 rfl ?_
                    refine V.callVi (pc := 155) (As := [.int (sJ x2_134)]) (stk := [.int (sJ (i_134 531 x2_134)), .int (sJ (i_134 504 48)), .ref (sA Δ 504)]) hG (sm_X12_cyclesOf l Δ hx2_134 hi_134 hw h) mY_X12_cyclesOf kw_1947 kw_1949 kw_123 a_504 (by decide) (q := (RX12, TX12, 49)) rfl rfl ⟨Nat.le_of_ble_eq_true rfl, Nat.le_of_ble_eq_true rfl, Nat.le_of_ble_eq_true rfl, Nat.le_of_ble_eq_true rfl⟩ rfl (Nat.le_of_ble_eq_true rfl) dX12_list_155 rfl (fun v195 i196 r197 hv198 hi199 hw200 hq201 => ?_)
                    obtain ⟨e202, e203, h⟩ := hq201
                    subst e202
                    subst e203
                    refine V.iadd (pc := 158) hG dX12_list_158 ?_
                    refine V.mmax (pc := 159) hG ((hi_134 _ _)) ((sR_wr _)) kw_1955 kw_680 kw_173 kw_max ⟨Nat.le_of_ble_eq_true rfl, Nat.le_of_ble_eq_true rfl, Nat.le_of_ble_eq_true rfl, Nat.le_of_ble_eq_true rfl⟩ dX12_list_159 ?_
                    refine V.putI (pc := 162) (ci := 14) (k := 48) (M := 49) (T := TX12) (o := 504) (kz := 48) hG a_504 a_504.n (by decide) hin_X12 rfl (by decide) (by decide) rfl kw_1740 rfl tyX12 tyX12_ok nmX12 rfl (ty := tyX12 48) (tyX12_ok 48 (by decide)) rfl rfl dX12_list_162 ?_
                    refine V.iinc (pc := 165) (lv' := [(2, .int (sJ (wr (x2_134 + 1)))), (0, .ref (sA Δ 504))]) hG dX12_list_165 1 rfl (by decide) rfl ?_
                    refine V.goto (pc := 168) (tgt := 134) hG dX12_list_168 (by decide) ?_
                    refine V.pick [1, 0] rfl ?_
                    exact ih134 (wr (x2_134 + 1)) (st i_134 504 48 (max (i_134 504 48) (wr (i_134 531 x2_134 + v195)))) ((sR_wr _)) ((okI_st hi_134 ((sR_max ((hi_134 _ _)) ((sR_wr _)))))) h
              refine V.pick [1, 0] rfl ?_
              exact lp134 n190 0 (st i_34 504 48 0) ((sR_l rfl)) ((okI_st hi_34 ((sR_l rfl)))) h
            · have h := f189 c187
              clear t188 f189
              refine V.iconst (pc := 38) hG dX12_list_38 ?_
              refine V.istore_n (pc := 39) (lv' := [(3, .int (sJ 0)), (0, .ref (sA Δ 504)), (1, .int (sJ x1_34)), (2, .int (sJ x2_34))]) hG dX12_list_39 rfl (by decide) rfl ?_
              obtain ⟨n204, h⟩ := h
              have lp40 : ∀ (m40 : Nat) (x1_40 : Int) (x3_40 : Int) (i_40 : MI), sR x1_40 → sR x3_40 → okI i_40 → LoopP (b40_X12_list x2_34 r Q (LoopP (b34_X12_list r Q) m34)) m40 (x1_40, x3_40, i_40) → V Γ Δ 542 false i_40 r 0 0 Q0 40 [(0, .ref (sA Δ 504)), (1, .int (sJ x1_40)), (2, .int (sJ x2_34)), (3, .int (sJ x3_40))] [] := by
                intro m40
                induction m40 with
                | zero => intro x1_40 x3_40 i_40 hx1_40 hx3_40 hi_40 h; exact h.elim
                | succ m40 ih40 =>
                  intro x1_40 x3_40 i_40 hx1_40 hx3_40 hi_40 h
                  have h := LoopP_succ h
                  refine V.iload_n (pc := 40) hG dX12_list_40 rfl 3 rfl ?_
                  refine V.iconst (pc := 41) hG dX12_list_41 ?_
                  obtain ⟨t206, f207⟩ := h
                  refine V.icmp_eq (pc := 42) (tgt := 121) hG hx3_40 ((sR_l rfl)) dX12_list_42 (by decide) (fun c205 => ?_) (fun c205 => ?_)
                  · have h := t206 c205
                    clear t206 f207
                    refine V.iinc (pc := 121) (lv' := [(2, .int (sJ (wr (x2_34 + 1)))), (0, .ref (sA Δ 504)), (1, .int (sJ x1_40)), (3, .int (sJ x3_40))]) hG dX12_list_121 2 rfl (by decide) rfl ?_
                    refine V.goto (pc := 124) (tgt := 34) hG dX12_list_124 (by decide) ?_
                    refine V.pick [1, 2, 0] rfl ?_
                    exact ih34 x1_40 (wr (x2_34 + 1)) i_40 hx1_40 ((sR_wr _)) hi_40 h
                  · have h := f207 c205
                    clear t206 f207
                    refine V.iconst (pc := 45) hG dX12_list_45 ?_
                    refine V.istore_n (pc := 46) (lv' := [(3, .int (sJ (-1))), (0, .ref (sA Δ 504)), (1, .int (sJ x1_40)), (2, .int (sJ x2_34))]) hG dX12_list_46 rfl (by decide) rfl ?_
                    refine V.iconst (pc := 47) hG dX12_list_47 ?_
                    refine V.istore (pc := 48) (lv' := [(4, .int (sJ 0)), (3, .int (sJ (-1))), (0, .ref (sA Δ 504)), (1, .int (sJ x1_40)), (2, .int (sJ x2_34))]) hG dX12_list_48 (by decide) rfl ?_
                    obtain ⟨n208, h⟩ := h
                    have lp50 : ∀ (m50 : Nat) (x3_50 : Int) (x4_50 : Int), sR x3_50 → sR x4_50 → LoopP (b50_X12_list x1_40 x2_34 i_40 r Q (LoopP (b34_X12_list r Q) m34) (LoopP (b40_X12_list x2_34 r Q (LoopP (b34_X12_list r Q) m34)) m40)) m50 (x3_50, x4_50) → V Γ Δ 542 false i_40 r 0 0 Q0 50 [(0, .ref (sA Δ 504)), (1, .int (sJ x1_40)), (2, .int (sJ x2_34)), (3, .int (sJ x3_50)), (4, .int (sJ x4_50))] [] := by
                      intro m50
                      induction m50 with
                      | zero => intro x3_50 x4_50 hx3_50 hx4_50 h; exact h.elim
                      | succ m50 ih50 =>
                        intro x3_50 x4_50 hx3_50 hx4_50 h
                        have h := LoopP_succ h
                        have jn96 : ∀ (x4j96 : Int) (k0j96 : Int), sR x4j96 → sR k0j96 → s96_X12_list x1_40 x2_34 x4j96 k0j96 i_40 r Q (LoopP (b34_X12_list r Q) m34) (LoopP (b40_X12_list x2_34 r Q (LoopP (b34_X12_list r Q) m34)) m40) (LoopP (b50_X12_list x1_40 x2_34 i_40 r Q (LoopP (b34_X12_list r Q) m34) (LoopP (b40_X12_list x2_34 r Q (LoopP (b34_X12_list r Q) m34)) m40)) m50) → V Γ Δ 542 false i_40 r 0 0 Q0 96 [(0, .ref (sA Δ 504)), (1, .int (sJ x1_40)), (2, .int (sJ x2_34)), (4, .int (sJ x4j96))] [.int (sJ k0j96)] := by
                          intro x4j96 k0j96 hx4j96 hk0j96 h
                          refine V.istore_n (pc := 96) (lv' := [(3, .int (sJ k0j96)), (0, .ref (sA Δ 504)), (1, .int (sJ x1_40)), (2, .int (sJ x2_34)), (4, .int (sJ x4j96))]) hG dX12_list_96 rfl (by decide) rfl ?_
                          refine V.iinc (pc := 97) (lv' := [(4, .int (sJ (wr (x4j96 + 1)))), (3, .int (sJ k0j96)), (0, .ref (sA Δ 504)), (1, .int (sJ x1_40)), (2, .int (sJ x2_34))]) hG dX12_list_97 4 rfl (by decide) rfl ?_
                          refine V.goto (pc := 100) (tgt := 50) hG dX12_list_100 (by decide) ?_
                          refine V.pick [2, 3, 4, 1, 0] rfl ?_
                          exact ih50 k0j96 (wr (x4j96 + 1)) hk0j96 ((sR_wr _)) h
                        have jn95 : ∀ (x3j95 : Int) (x4j95 : Int), sR x3j95 → sR x4j95 → s95_X12_list x1_40 x2_34 x3j95 x4j95 i_40 r Q (LoopP (b34_X12_list r Q) m34) (LoopP (b40_X12_list x2_34 r Q (LoopP (b34_X12_list r Q) m34)) m40) (LoopP (b50_X12_list x1_40 x2_34 i_40 r Q (LoopP (b34_X12_list r Q) m34) (LoopP (b40_X12_list x2_34 r Q (LoopP (b34_X12_list r Q) m34)) m40)) m50) → V Γ Δ 542 false i_40 r 0 0 Q0 95 [(0, .ref (sA Δ 504)), (1, .int (sJ x1_40)), (2, .int (sJ x2_34)), (3, .int (sJ x3j95)), (4, .int (sJ x4j95))] [] := by
                          intro x3j95 x4j95 hx3j95 hx4j95 h
                          refine V.iload_n (pc := 95) hG dX12_list_95 rfl 3 rfl ?_
                          refine V.pick [0, 1, 2, 4] rfl ?_
                          exact jn96 x4j95 x3j95 hx4j95 hx3j95 h
                        have jn90 : ∀ (x4j90 : Int), sR x4j90 → s90_X12_list x1_40 x2_34 x4j90 i_40 r Q (LoopP (b34_X12_list r Q) m34) (LoopP (b40_X12_list x2_34 r Q (LoopP (b34_X12_list r Q) m34)) m40) (LoopP (b50_X12_list x1_40 x2_34 i_40 r Q (LoopP (b34_X12_list r Q) m34) (LoopP (b40_X12_list x2_34 r Q (LoopP (b34_X12_list r Q) m34)) m40)) m50) → V Γ Δ 542 false i_40 r 0 0 Q0 90 [(0, .ref (sA Δ 504)), (1, .int (sJ x1_40)), (2, .int (sJ x2_34)), (4, .int (sJ x4j90))] [] := by
                          intro x4j90 hx4j90 h
                          refine V.iload (pc := 90) hG dX12_list_90 3 rfl ?_
                          refine V.goto (pc := 92) (tgt := 96) hG dX12_list_92 (by decide) ?_
                          exact jn96 x4j90 x4j90 hx4j90 hx4j90 h
                        refine V.iload (pc := 50) hG dX12_list_50 4 rfl ?_
                        refine V.aload_n (pc := 52) hG dX12_list_52 rfl 0 rfl ?_
                        refine V.getI (pc := 53) (ci := 14) (k := 21) (M := 49) (T := TX12) (o := 504) (kz := 21) hG a_504 a_504.n (by decide) hin_X12 rfl (by decide) (by decide) rfl kw_1713 rfl dX12_list_53 ?_
                        obtain ⟨t210, f211⟩ := h
                        refine V.icmp_ge (pc := 56) (tgt := 103) hG hx4_50 ((hi_40 _ _)) dX12_list_56 (by decide) (fun c209 => ?_) (fun c209 => ?_)
                        · have h := t210 c209
                          clear t210 f211
                          refine V.iload_n (pc := 103) hG dX12_list_103 rfl 3 rfl ?_
                          refine V.iconst (pc := 104) hG dX12_list_104 ?_
                          obtain ⟨t213, f214⟩ := h
                          refine V.icmp_eq (pc := 105) (tgt := 40) hG hx3_50 ((sR_l rfl)) dX12_list_105 (by decide) (fun c212 => ?_) (fun c212 => ?_)
                          · have h := t213 c212
                            clear t213 f214
                            refine V.pick [0, 1, 2, 3] rfl ?_
                            exact ih40 x1_40 x3_50 i_40 hx1_40 hx3_50 hi_40 h
                          · have h := f214 c212
                            clear t213 f214
                            refine V.aload_n (pc := 108) hG dX12_list_108 rfl 0 rfl ?_
                            refine V.getR (x := 531) (pc := 109) (ci := 14) (k := 39) (M := 49) (T := TX12) (o := 504) (kz := 39) hG a_504 a_504.n (by decide) hin_X12 rfl (by decide) (by decide) rfl kw_1731 rfl ((hw).1 (504, 39, 531) (by decide)) (by decide) dX12_list_109 ?_
                            refine V.iload_n (pc := 112) hG dX12_list_112 rfl 3 rfl ?_
                            refine V.iload_n (pc := 113) hG dX12_list_113 rfl 2 rfl ?_
                            obtain ⟨g215, h⟩ := h
                            refine V.iast (pc := 114) (z := 96) (o := 531) hG a_531 a_531.n hx3_50 g215 dX12_list_114 ?_
                            refine V.iinc (pc := 115) (lv' := [(1, .int (sJ (wr (x1_40 + (-1))))), (0, .ref (sA Δ 504)), (2, .int (sJ x2_34)), (3, .int (sJ x3_50)), (4, .int (sJ x4_50))]) hG dX12_list_115 1 rfl (by decide) rfl ?_
                            refine V.goto (pc := 118) (tgt := 40) hG dX12_list_118 (by decide) ?_
                            refine V.pick [1, 0, 2, 3] rfl ?_
                            exact ih40 (wr (x1_40 + (-1))) x3_50 (st i_40 531 x3_50 x2_34) ((sR_wr _)) hx3_50 ((okI_st hi_40 hx2_34)) h
                        · have h := f211 c209
                          clear t210 f211
                          refine V.aload_n (pc := 59) hG dX12_list_59 rfl 0 rfl ?_
                          refine V.iload (pc := 60) hG dX12_list_60 4 rfl ?_
                          refine V.iload_n (pc := 62) hG dX12_list_62 rfl 2 rfl ?_
                          refine V.callVi (pc := 63) (As := [.int (sJ x4_50), .int (sJ x2_34)]) (stk := []) hG (sm_X12_canBegin l Δ hx4_50 hx2_34 hi_40 hw h) mY_X12_canBegin kw_2105 kw_2107 kw_139 a_504 (by decide) (q := (RX12, TX12, 49)) rfl rfl ⟨Nat.le_of_ble_eq_true rfl, Nat.le_of_ble_eq_true rfl, Nat.le_of_ble_eq_true rfl, Nat.le_of_ble_eq_true rfl⟩ rfl (Nat.le_of_ble_eq_true rfl) dX12_list_63 rfl (fun v216 i217 r218 hv219 hi220 hw221 hq222 => ?_)
                          obtain ⟨e234, e235, h⟩ := hq222
                          subst e234
                          subst e235
                          obtain ⟨t224, f225⟩ := h
                          refine V.if_eq (pc := 66) (tgt := 95) hG hv219 dX12_list_66 (by decide) (fun c223 => ?_) (fun c223 => ?_)
                          · have h := t224 c223
                            clear t224 f225
                            exact jn95 x3_50 x4_50 hx3_50 hx4_50 h
                          · have h := f225 c223
                            clear t224 f225
                            refine V.iload_n (pc := 69) hG dX12_list_69 rfl 3 rfl ?_
                            refine V.iconst (pc := 70) hG dX12_list_70 ?_
                            obtain ⟨t227, f228⟩ := h
                            refine V.icmp_eq (pc := 71) (tgt := 90) hG hx3_50 ((sR_l rfl)) dX12_list_71 (by decide) (fun c226 => ?_) (fun c226 => ?_)
                            · have h := t227 c226
                              clear t227 f228
                              refine V.pick [0, 1, 2, 4] rfl ?_
                              exact jn90 x4_50 hx4_50 h
                            · have h := f228 c226
                              clear t227 f228
                              refine V.aload_n (pc := 74) hG dX12_list_74 rfl 0 rfl ?_
                              refine V.getR (x := 530) (pc := 75) (ci := 14) (k := 38) (M := 49) (T := TX12) (o := 504) (kz := 38) hG a_504 a_504.n (by decide) hin_X12 rfl (by decide) (by decide) rfl kw_1730 rfl ((hw).1 (504, 38, 530) (by decide)) (by decide) dX12_list_75 ?_
                              refine V.iload (pc := 78) hG dX12_list_78 4 rfl ?_
                              obtain ⟨g229, h⟩ := h
                              refine V.iald (pc := 80) (z := 96) (o := 530) hG a_530 a_530.n hx4_50 g229 dX12_list_80 ?_
                              refine V.aload_n (pc := 81) hG dX12_list_81 rfl 0 rfl ?_
                              refine V.getR (x := 530) (pc := 82) (ci := 14) (k := 38) (M := 49) (T := TX12) (o := 504) (kz := 38) hG a_504 a_504.n (by decide) hin_X12 rfl (by decide) (by decide) rfl kw_1730 rfl ((hw).1 (504, 38, 530) (by decide)) (by decide) dX12_list_82 ?_
                              refine V.iload_n (pc := 85) hG dX12_list_85 rfl 3 rfl ?_
                              obtain ⟨g230, h⟩ := h
                              refine V.iald (pc := 86) (z := 96) (o := 530) hG a_530 a_530.n hx3_50 g230 dX12_list_86 ?_
                              obtain ⟨t232, f233⟩ := h
                              refine V.icmp_ge (pc := 87) (tgt := 95) hG ((hi_40 _ _)) ((hi_40 _ _)) dX12_list_87 (by decide) (fun c231 => ?_) (fun c231 => ?_)
                              · have h := t232 c231
                                clear t232 f233
                                exact jn95 x3_50 x4_50 hx3_50 hx4_50 h
                              · have h := f233 c231
                                clear t232 f233
                                refine V.pick [0, 1, 2, 4] rfl ?_
                                exact jn90 x4_50 hx4_50 h
                    refine V.pick [2, 3, 4, 1, 0] rfl ?_
                    exact lp50 n208 (-1) 0 ((sR_l rfl)) ((sR_l rfl)) h
              refine V.pick [1, 2, 3, 0] rfl ?_
              exact lp40 n204 x1_34 0 i_34 hx1_34 ((sR_l rfl)) hi_34 h
        refine V.pick [2, 1, 0] rfl ?_
        exact lp34 n186 (i_6 504 21) 0 i_6 ((hi_6 _ _)) ((sR_l rfl)) hi_6 h
      · have h := f185 c183
        clear t184 f185
        refine V.aload_n (pc := 14) hG dX12_list_14 rfl 0 rfl ?_
        refine V.getR (x := 531) (pc := 15) (ci := 14) (k := 39) (M := 49) (T := TX12) (o := 504) (kz := 39) hG a_504 a_504.n (by decide) hin_X12 rfl (by decide) (by decide) rfl kw_1731 rfl ((hw).1 (504, 39, 531) (by decide)) (by decide) dX12_list_15 ?_
        refine V.iload_n (pc := 18) hG dX12_list_18 rfl 1 rfl ?_
        refine V.iconst (pc := 19) hG dX12_list_19 ?_
        obtain ⟨g236, h⟩ := h
        refine V.iast (pc := 20) (z := 96) (o := 531) hG a_531 a_531.n hx1_6 g236 dX12_list_20 ?_
        refine V.iinc (pc := 21) (lv' := [(1, .int (sJ (wr (x1_6 + 1)))), (0, .ref (sA Δ 504))]) hG dX12_list_21 1 rfl (by decide) rfl ?_
        refine V.goto (pc := 24) (tgt := 6) hG dX12_list_24 (by decide) ?_
        refine V.pick [1, 0] rfl ?_
        exact ih6 (wr (x1_6 + 1)) (st i_6 531 x1_6 (-1)) ((sR_wr _)) ((okI_st hi_6 ((sR_l rfl)))) h
  refine V.pick [1, 0] rfl ?_
  exact lp6 n182 0 i2 ((sR_l rfl)) hi5 h
set_option maxRecDepth 100000 in
set_option maxHeartbeats 4000000 in
theorem sm_X12_soon (l : Launch) (Δ : Wd) {i r : MI} {p1 : Int} (hp1 : sR p1) {Q : Int → MI → Prop} (hi : okI i) (hw : Wf r) (h : wp_X12_soon p1 i r Q) : Met l yX12_soon (Cond.code yX12_soon cX12_soon 2 (some .int) :: gW) (sRm 5 116) (sPc Δ [.ref (sA Δ 504), .int (sJ p1)] i r) (sQi Δ (fun x i' r' => r = r' ∧ Q x i')) 0 0 (sFr Δ) := by
  refine Ct.i (ty := .int) (by decide) rfl (Nat.le_of_ble_eq_true rfl) (fun Γ Q0 hG fin => ?_)
  have hG : okG Γ Δ l (sRm 5 116) cX12_soon "SchedularyModel" 2 := hG
  show V Γ Δ 542 false i r 0 0 Q0 0 [(0, .ref (sA Δ 504)), (1, .int (sJ p1))] []
  have jn32 : ∀ (k0j32 : Int) (ij32 : MI), sR k0j32 → okI ij32 → s32_X12_soon k0j32 ij32 r Q → V Γ Δ 542 false ij32 r 0 0 Q0 32 [] [.int (sJ k0j32)] := by
    intro k0j32 ij32 hk0j32 hij32 h
    exact fin dX12_soon_32 hk0j32 rfl hij32 hw ⟨rfl, h⟩
  refine V.aload_n (pc := 0) hG dX12_soon_0 rfl 0 rfl ?_
  refine V.iconst (pc := 1) hG dX12_soon_1 ?_
  refine V.putI (pc := 2) (ci := 14) (k := 0) (M := 49) (T := TX12) (o := 504) (kz := 0) hG a_504 a_504.n (by decide) hin_X12 rfl (by decide) (by decide) rfl kw_1692 rfl tyX12 tyX12_ok nmX12 rfl (ty := tyX12 0) (tyX12_ok 0 (by decide)) rfl rfl dX12_soon_2 ?_
  refine V.aload_n (pc := 5) hG dX12_soon_5 rfl 0 rfl ?_
  refine V.callVv (pc := 6) (As := []) (stk := []) hG (sm_X12_findSoon l Δ  ((okI_st hi ((sR_l rfl)))) hw h) mY_X12_findSoon kw_2089 kw_2091 kw_137 a_504 (by decide) (q := (RX12, TX12, 49)) rfl rfl ⟨Nat.le_of_ble_eq_true rfl, Nat.le_of_ble_eq_true rfl, Nat.le_of_ble_eq_true rfl, Nat.le_of_ble_eq_true rfl⟩ rfl (Nat.le_of_ble_eq_true rfl) dX12_soon_6 rfl (fun i2 r3 hi5 hw6 hq7 => ?_)
  obtain ⟨e31, h⟩ := hq7
  subst e31
  refine V.aload_n (pc := 9) hG dX12_soon_9 rfl 0 rfl ?_
  refine V.aload_n (pc := 10) hG dX12_soon_10 rfl 0 rfl ?_
  refine V.iload_n (pc := 11) hG dX12_soon_11 rfl 1 rfl ?_
  refine V.callVi (pc := 12) (As := [.int (sJ p1)]) (stk := [.ref (sA Δ 504)]) hG (sm_X12_noNode l Δ hp1 hi5 hw h) mY_X12_noNode kw_2068 kw_2070 kw_136 a_504 (by decide) (q := (RX12, TX12, 49)) rfl rfl ⟨Nat.le_of_ble_eq_true rfl, Nat.le_of_ble_eq_true rfl, Nat.le_of_ble_eq_true rfl, Nat.le_of_ble_eq_true rfl⟩ rfl (Nat.le_of_ble_eq_true rfl) dX12_soon_12 rfl (fun v8 i9 r10 hv11 hi12 hw13 hq14 => ?_)
  obtain ⟨e28, e29, h⟩ := hq14
  subst e28
  subst e29
  refine V.iconst (pc := 15) hG dX12_soon_15 ?_
  refine V.callVi (pc := 16) (As := [.int (sJ v8), .int (sJ 1)]) (stk := []) hG (sm_X12_fails l Δ hv11 ((sR_l rfl)) hi5 hw h) mY_X12_fails kw_1853 kw_1855 kw_106 a_504 (by decide) (q := (RX12, TX12, 49)) rfl rfl ⟨Nat.le_of_ble_eq_true rfl, Nat.le_of_ble_eq_true rfl, Nat.le_of_ble_eq_true rfl, Nat.le_of_ble_eq_true rfl⟩ rfl (Nat.le_of_ble_eq_true rfl) dX12_soon_16 rfl (fun v15 i16 r17 hv18 hi19 hw20 hq21 => ?_)
  obtain ⟨e27, h⟩ := hq21
  subst e27
  obtain ⟨t23, f24⟩ := h
  refine V.if_eq (pc := 19) (tgt := 26) hG hv18 dX12_soon_19 (by decide) (fun c22 => ?_) (fun c22 => ?_)
  · have h := t23 c22
    clear t23 f24
    refine V.aload_n (pc := 26) hG dX12_soon_26 rfl 0 rfl ?_
    refine V.getR (x := 529) (pc := 27) (ci := 14) (k := 37) (M := 49) (T := TX12) (o := 504) (kz := 37) hG a_504 a_504.n (by decide) hin_X12 rfl (by decide) (by decide) rfl kw_1729 rfl ((hw).1 (504, 37, 529) (by decide)) (by decide) dX12_soon_27 ?_
    refine V.iload_n (pc := 30) hG dX12_soon_30 rfl 1 rfl ?_
    obtain ⟨g25, h⟩ := h
    refine V.iald (pc := 31) (z := 96) (o := 529) hG a_529 a_529.n hp1 g25 dX12_soon_31 ?_
    refine V.pick [] rfl ?_
    exact jn32 (i16 529 p1) i16 ((hi19 _ _)) hi19 h
  · have h := f24 c22
    clear t23 f24
    refine V.iconst (pc := 22) hG dX12_soon_22 ?_
    refine V.goto (pc := 23) (tgt := 32) hG dX12_soon_23 (by decide) ?_
    refine V.pick [] rfl ?_
    exact jn32 0 i16 ((sR_l rfl)) hi19 h
set_option maxRecDepth 100000 in
set_option maxHeartbeats 4000000 in
theorem sm_X12_late (l : Launch) (Δ : Wd) {i r : MI} {p1 : Int} (hp1 : sR p1) {Q : Int → MI → Prop} (hi : okI i) (hw : Wf r) (h : wp_X12_late p1 i r Q) : Met l yX12_late (Cond.code yX12_late cX12_late 2 (some .int) :: gW) (sRm 5 116) (sPc Δ [.ref (sA Δ 504), .int (sJ p1)] i r) (sQi Δ (fun x i' r' => r = r' ∧ Q x i')) 0 0 (sFr Δ) := by
  refine Ct.i (ty := .int) (by decide) rfl (Nat.le_of_ble_eq_true rfl) (fun Γ Q0 hG fin => ?_)
  have hG : okG Γ Δ l (sRm 5 116) cX12_late "SchedularyModel" 2 := hG
  show V Γ Δ 542 false i r 0 0 Q0 0 [(0, .ref (sA Δ 504)), (1, .int (sJ p1))] []
  have jn32 : ∀ (k0j32 : Int) (ij32 : MI), sR k0j32 → okI ij32 → s32_X12_late k0j32 ij32 r Q → V Γ Δ 542 false ij32 r 0 0 Q0 32 [] [.int (sJ k0j32)] := by
    intro k0j32 ij32 hk0j32 hij32 h
    exact fin dX12_late_32 hk0j32 rfl hij32 hw ⟨rfl, h⟩
  refine V.aload_n (pc := 0) hG dX12_late_0 rfl 0 rfl ?_
  refine V.iconst (pc := 1) hG dX12_late_1 ?_
  refine V.putI (pc := 2) (ci := 14) (k := 0) (M := 49) (T := TX12) (o := 504) (kz := 0) hG a_504 a_504.n (by decide) hin_X12 rfl (by decide) (by decide) rfl kw_1692 rfl tyX12 tyX12_ok nmX12 rfl (ty := tyX12 0) (tyX12_ok 0 (by decide)) rfl rfl dX12_late_2 ?_
  refine V.aload_n (pc := 5) hG dX12_late_5 rfl 0 rfl ?_
  refine V.callVv (pc := 6) (As := []) (stk := []) hG (sm_X12_findSoon l Δ  ((okI_st hi ((sR_l rfl)))) hw h) mY_X12_findSoon kw_2089 kw_2091 kw_137 a_504 (by decide) (q := (RX12, TX12, 49)) rfl rfl ⟨Nat.le_of_ble_eq_true rfl, Nat.le_of_ble_eq_true rfl, Nat.le_of_ble_eq_true rfl, Nat.le_of_ble_eq_true rfl⟩ rfl (Nat.le_of_ble_eq_true rfl) dX12_late_6 rfl (fun i2 r3 hi5 hw6 hq7 => ?_)
  obtain ⟨e31, h⟩ := hq7
  subst e31
  refine V.aload_n (pc := 9) hG dX12_late_9 rfl 0 rfl ?_
  refine V.aload_n (pc := 10) hG dX12_late_10 rfl 0 rfl ?_
  refine V.iload_n (pc := 11) hG dX12_late_11 rfl 1 rfl ?_
  refine V.callVi (pc := 12) (As := [.int (sJ p1)]) (stk := [.ref (sA Δ 504)]) hG (sm_X12_noNode l Δ hp1 hi5 hw h) mY_X12_noNode kw_2068 kw_2070 kw_136 a_504 (by decide) (q := (RX12, TX12, 49)) rfl rfl ⟨Nat.le_of_ble_eq_true rfl, Nat.le_of_ble_eq_true rfl, Nat.le_of_ble_eq_true rfl, Nat.le_of_ble_eq_true rfl⟩ rfl (Nat.le_of_ble_eq_true rfl) dX12_late_12 rfl (fun v8 i9 r10 hv11 hi12 hw13 hq14 => ?_)
  obtain ⟨e28, e29, h⟩ := hq14
  subst e28
  subst e29
  refine V.iconst (pc := 15) hG dX12_late_15 ?_
  refine V.callVi (pc := 16) (As := [.int (sJ v8), .int (sJ 1)]) (stk := []) hG (sm_X12_fails l Δ hv11 ((sR_l rfl)) hi5 hw h) mY_X12_fails kw_1853 kw_1855 kw_106 a_504 (by decide) (q := (RX12, TX12, 49)) rfl rfl ⟨Nat.le_of_ble_eq_true rfl, Nat.le_of_ble_eq_true rfl, Nat.le_of_ble_eq_true rfl, Nat.le_of_ble_eq_true rfl⟩ rfl (Nat.le_of_ble_eq_true rfl) dX12_late_16 rfl (fun v15 i16 r17 hv18 hi19 hw20 hq21 => ?_)
  obtain ⟨e27, h⟩ := hq21
  subst e27
  obtain ⟨t23, f24⟩ := h
  refine V.if_eq (pc := 19) (tgt := 26) hG hv18 dX12_late_19 (by decide) (fun c22 => ?_) (fun c22 => ?_)
  · have h := t23 c22
    clear t23 f24
    refine V.aload_n (pc := 26) hG dX12_late_26 rfl 0 rfl ?_
    refine V.getR (x := 530) (pc := 27) (ci := 14) (k := 38) (M := 49) (T := TX12) (o := 504) (kz := 38) hG a_504 a_504.n (by decide) hin_X12 rfl (by decide) (by decide) rfl kw_1730 rfl ((hw).1 (504, 38, 530) (by decide)) (by decide) dX12_late_27 ?_
    refine V.iload_n (pc := 30) hG dX12_late_30 rfl 1 rfl ?_
    obtain ⟨g25, h⟩ := h
    refine V.iald (pc := 31) (z := 96) (o := 530) hG a_530 a_530.n hp1 g25 dX12_late_31 ?_
    refine V.pick [] rfl ?_
    exact jn32 (i16 530 p1) i16 ((hi19 _ _)) hi19 h
  · have h := f24 c22
    clear t23 f24
    refine V.iconst (pc := 22) hG dX12_late_22 ?_
    refine V.goto (pc := 23) (tgt := 32) hG dX12_late_23 (by decide) ?_
    refine V.pick [] rfl ?_
    exact jn32 0 i16 ((sR_l rfl)) hi19 h
set_option maxRecDepth 100000 in
set_option maxHeartbeats 4000000 in
theorem sm_X12_step (l : Launch) (Δ : Wd) {i r : MI} {p1 : Int} (hp1 : sR p1) {Q : Int → MI → Prop} (hi : okI i) (hw : Wf r) (h : wp_X12_step p1 i r Q) : Met l yX12_step (Cond.code yX12_step cX12_step 2 (some .int) :: gW) (sRm 6 140) (sPc Δ [.ref (sA Δ 504), .int (sJ p1)] i r) (sQi Δ (fun x i' r' => r = r' ∧ Q x i')) 0 0 (sFr Δ) := by
  refine Ct.i (ty := .int) (by decide) rfl (Nat.le_of_ble_eq_true rfl) (fun Γ Q0 hG fin => ?_)
  have hG : okG Γ Δ l (sRm 6 140) cX12_step "SchedularyModel" 2 := hG
  show V Γ Δ 542 false i r 0 0 Q0 0 [(0, .ref (sA Δ 504)), (1, .int (sJ p1))] []
  have jn32 : ∀ (k0j32 : Int) (ij32 : MI), sR k0j32 → okI ij32 → s32_X12_step k0j32 ij32 r Q → V Γ Δ 542 false ij32 r 0 0 Q0 32 [] [.int (sJ k0j32)] := by
    intro k0j32 ij32 hk0j32 hij32 h
    exact fin dX12_step_32 hk0j32 rfl hij32 hw ⟨rfl, h⟩
  refine V.aload_n (pc := 0) hG dX12_step_0 rfl 0 rfl ?_
  refine V.iconst (pc := 1) hG dX12_step_1 ?_
  refine V.putI (pc := 2) (ci := 14) (k := 0) (M := 49) (T := TX12) (o := 504) (kz := 0) hG a_504 a_504.n (by decide) hin_X12 rfl (by decide) (by decide) rfl kw_1692 rfl tyX12 tyX12_ok nmX12 rfl (ty := tyX12 0) (tyX12_ok 0 (by decide)) rfl rfl dX12_step_2 ?_
  refine V.aload_n (pc := 5) hG dX12_step_5 rfl 0 rfl ?_
  refine V.callVv (pc := 6) (As := []) (stk := []) hG (sm_X12_list l Δ  ((okI_st hi ((sR_l rfl)))) hw h) mY_X12_list kw_2101 kw_2103 kw_138 a_504 (by decide) (q := (RX12, TX12, 49)) rfl rfl ⟨Nat.le_of_ble_eq_true rfl, Nat.le_of_ble_eq_true rfl, Nat.le_of_ble_eq_true rfl, Nat.le_of_ble_eq_true rfl⟩ rfl (Nat.le_of_ble_eq_true rfl) dX12_step_6 rfl (fun i2 r3 hi5 hw6 hq7 => ?_)
  obtain ⟨e31, h⟩ := hq7
  subst e31
  refine V.aload_n (pc := 9) hG dX12_step_9 rfl 0 rfl ?_
  refine V.aload_n (pc := 10) hG dX12_step_10 rfl 0 rfl ?_
  refine V.iload_n (pc := 11) hG dX12_step_11 rfl 1 rfl ?_
  refine V.callVi (pc := 12) (As := [.int (sJ p1)]) (stk := [.ref (sA Δ 504)]) hG (sm_X12_noNode l Δ hp1 hi5 hw h) mY_X12_noNode kw_2068 kw_2070 kw_136 a_504 (by decide) (q := (RX12, TX12, 49)) rfl rfl ⟨Nat.le_of_ble_eq_true rfl, Nat.le_of_ble_eq_true rfl, Nat.le_of_ble_eq_true rfl, Nat.le_of_ble_eq_true rfl⟩ rfl (Nat.le_of_ble_eq_true rfl) dX12_step_12 rfl (fun v8 i9 r10 hv11 hi12 hw13 hq14 => ?_)
  obtain ⟨e28, e29, h⟩ := hq14
  subst e28
  subst e29
  refine V.iconst (pc := 15) hG dX12_step_15 ?_
  refine V.callVi (pc := 16) (As := [.int (sJ v8), .int (sJ 1)]) (stk := []) hG (sm_X12_fails l Δ hv11 ((sR_l rfl)) hi5 hw h) mY_X12_fails kw_1853 kw_1855 kw_106 a_504 (by decide) (q := (RX12, TX12, 49)) rfl rfl ⟨Nat.le_of_ble_eq_true rfl, Nat.le_of_ble_eq_true rfl, Nat.le_of_ble_eq_true rfl, Nat.le_of_ble_eq_true rfl⟩ rfl (Nat.le_of_ble_eq_true rfl) dX12_step_16 rfl (fun v15 i16 r17 hv18 hi19 hw20 hq21 => ?_)
  obtain ⟨e27, h⟩ := hq21
  subst e27
  obtain ⟨t23, f24⟩ := h
  refine V.if_eq (pc := 19) (tgt := 26) hG hv18 dX12_step_19 (by decide) (fun c22 => ?_) (fun c22 => ?_)
  · have h := t23 c22
    clear t23 f24
    refine V.aload_n (pc := 26) hG dX12_step_26 rfl 0 rfl ?_
    refine V.getR (x := 531) (pc := 27) (ci := 14) (k := 39) (M := 49) (T := TX12) (o := 504) (kz := 39) hG a_504 a_504.n (by decide) hin_X12 rfl (by decide) (by decide) rfl kw_1731 rfl ((hw).1 (504, 39, 531) (by decide)) (by decide) dX12_step_27 ?_
    refine V.iload_n (pc := 30) hG dX12_step_30 rfl 1 rfl ?_
    obtain ⟨g25, h⟩ := h
    refine V.iald (pc := 31) (z := 96) (o := 531) hG a_531 a_531.n hp1 g25 dX12_step_31 ?_
    refine V.pick [] rfl ?_
    exact jn32 (i16 531 p1) i16 ((hi19 _ _)) hi19 h
  · have h := f24 c22
    clear t23 f24
    refine V.iconst (pc := 22) hG dX12_step_22 ?_
    refine V.goto (pc := 23) (tgt := 32) hG dX12_step_23 (by decide) ?_
    refine V.pick [] rfl ?_
    exact jn32 0 i16 ((sR_l rfl)) hi19 h
set_option maxRecDepth 100000 in
set_option maxHeartbeats 4000000 in
theorem sm_X12_length (l : Launch) (Δ : Wd) {i r : MI}   {Q : Int → MI → Prop} (hi : okI i) (hw : Wf r) (h : wp_X12_length  i r Q) : Met l yX12_length (Cond.code yX12_length cX12_length 1 (some .int) :: gW) (sRm 6 140) (sPc Δ [.ref (sA Δ 504)] i r) (sQi Δ (fun x i' r' => r = r' ∧ Q x i')) 0 0 (sFr Δ) := by
  refine Ct.i (ty := .int) (by decide) rfl (Nat.le_of_ble_eq_true rfl) (fun Γ Q0 hG fin => ?_)
  have hG : okG Γ Δ l (sRm 6 140) cX12_length "SchedularyModel" 1 := hG
  show V Γ Δ 542 false i r 0 0 Q0 0 [(0, .ref (sA Δ 504))] []
  refine V.aload_n (pc := 0) hG dX12_length_0 rfl 0 rfl ?_
  refine V.iconst (pc := 1) hG dX12_length_1 ?_
  refine V.putI (pc := 2) (ci := 14) (k := 0) (M := 49) (T := TX12) (o := 504) (kz := 0) hG a_504 a_504.n (by decide) hin_X12 rfl (by decide) (by decide) rfl kw_1692 rfl tyX12 tyX12_ok nmX12 rfl (ty := tyX12 0) (tyX12_ok 0 (by decide)) rfl rfl dX12_length_2 ?_
  refine V.aload_n (pc := 5) hG dX12_length_5 rfl 0 rfl ?_
  refine V.callVv (pc := 6) (As := []) (stk := []) hG (sm_X12_list l Δ  ((okI_st hi ((sR_l rfl)))) hw h) mY_X12_list kw_2101 kw_2103 kw_138 a_504 (by decide) (q := (RX12, TX12, 49)) rfl rfl ⟨Nat.le_of_ble_eq_true rfl, Nat.le_of_ble_eq_true rfl, Nat.le_of_ble_eq_true rfl, Nat.le_of_ble_eq_true rfl⟩ rfl (Nat.le_of_ble_eq_true rfl) dX12_length_6 rfl (fun i2 r3 hi5 hw6 hq7 => ?_)
  obtain ⟨e9, h⟩ := hq7
  subst e9
  refine V.aload_n (pc := 9) hG dX12_length_9 rfl 0 rfl ?_
  refine V.getI (pc := 10) (ci := 14) (k := 48) (M := 49) (T := TX12) (o := 504) (kz := 48) hG a_504 a_504.n (by decide) hin_X12 rfl (by decide) (by decide) rfl kw_1740 rfl dX12_length_10 ?_
  exact fin dX12_length_13 ((hi5 _ _)) rfl hi5 hw ⟨rfl, h⟩
set_option maxRecDepth 100000 in
set_option maxHeartbeats 4000000 in
theorem sm_X12_inStep (l : Launch) (Δ : Wd) {i r : MI} {p1 : Int} (hp1 : sR p1) {Q : Int → MI → Prop} (hi : okI i) (hw : Wf r) (h : wp_X12_inStep p1 i r Q) : Met l yX12_inStep (Cond.code yX12_inStep cX12_inStep 4 (some .int) :: gW) (sRm 6 140) (sPc Δ [.ref (sA Δ 504), .int (sJ p1)] i r) (sQi Δ (fun x i' r' => r = r' ∧ Q x i')) 0 0 (sFr Δ) := by
  refine Ct.i (ty := .int) (by decide) rfl (Nat.le_of_ble_eq_true rfl) (fun Γ Q0 hG fin => ?_)
  have hG : okG Γ Δ l (sRm 6 140) cX12_inStep "SchedularyModel" 4 := hG
  show V Γ Δ 542 false i r 0 0 Q0 0 [(0, .ref (sA Δ 504)), (1, .int (sJ p1))] []
  refine V.aload_n (pc := 0) hG dX12_inStep_0 rfl 0 rfl ?_
  refine V.iconst (pc := 1) hG dX12_inStep_1 ?_
  refine V.putI (pc := 2) (ci := 14) (k := 0) (M := 49) (T := TX12) (o := 504) (kz := 0) hG a_504 a_504.n (by decide) hin_X12 rfl (by decide) (by decide) rfl kw_1692 rfl tyX12 tyX12_ok nmX12 rfl (ty := tyX12 0) (tyX12_ok 0 (by decide)) rfl rfl dX12_inStep_2 ?_
  refine V.aload_n (pc := 5) hG dX12_inStep_5 rfl 0 rfl ?_
  refine V.callVv (pc := 6) (As := []) (stk := []) hG (sm_X12_list l Δ  ((okI_st hi ((sR_l rfl)))) hw h) mY_X12_list kw_2101 kw_2103 kw_138 a_504 (by decide) (q := (RX12, TX12, 49)) rfl rfl ⟨Nat.le_of_ble_eq_true rfl, Nat.le_of_ble_eq_true rfl, Nat.le_of_ble_eq_true rfl, Nat.le_of_ble_eq_true rfl⟩ rfl (Nat.le_of_ble_eq_true rfl) dX12_inStep_6 rfl (fun i2 r3 hi5 hw6 hq7 => ?_)
  obtain ⟨e24, h⟩ := hq7
  subst e24
  refine V.iconst (pc := 9) hG dX12_inStep_9 ?_
  refine V.istore_n (pc := 10) (lv' := [(2, .int (sJ 0)), (0, .ref (sA Δ 504)), (1, .int (sJ p1))]) hG dX12_inStep_10 rfl (by decide) rfl ?_
  refine V.iconst (pc := 11) hG dX12_inStep_11 ?_
  refine V.istore_n (pc := 12) (lv' := [(3, .int (sJ 0)), (2, .int (sJ 0)), (0, .ref (sA Δ 504)), (1, .int (sJ p1))]) hG dX12_inStep_12 rfl (by decide) rfl ?_
  obtain ⟨n15, h⟩ := h
  have lp13 : ∀ (m13 : Nat) (x2_13 : Int) (x3_13 : Int), sR x2_13 → sR x3_13 → LoopP (b13_X12_inStep p1 i2 r Q) m13 (x2_13, x3_13) → V Γ Δ 542 false i2 r 0 0 Q0 13 [(0, .ref (sA Δ 504)), (1, .int (sJ p1)), (2, .int (sJ x2_13)), (3, .int (sJ x3_13))] [] := by
    intro m13
    induction m13 with
    | zero => intro x2_13 x3_13 hx2_13 hx3_13 h; exact h.elim
    | succ m13 ih13 =>
      intro x2_13 x3_13 hx2_13 hx3_13 h
      have h := LoopP_succ h
      have jn37 : ∀ (x3j37 : Int) (k0j37 : Int) (k1j37 : Int), sR x3j37 → sR k0j37 → sR k1j37 → s37_X12_inStep p1 x3j37 k0j37 k1j37 i2 r Q (LoopP (b13_X12_inStep p1 i2 r Q) m13) → V Γ Δ 542 false i2 r 0 0 Q0 37 [(0, .ref (sA Δ 504)), (1, .int (sJ p1)), (3, .int (sJ x3j37))] [.int (sJ k1j37), .int (sJ k0j37)] := by
        intro x3j37 k0j37 k1j37 hx3j37 hk0j37 hk1j37 h
        refine V.iadd (pc := 37) hG dX12_inStep_37 ?_
        refine V.istore_n (pc := 38) (lv' := [(2, .int (sJ (wr (k0j37 + k1j37)))), (0, .ref (sA Δ 504)), (1, .int (sJ p1)), (3, .int (sJ x3j37))]) hG dX12_inStep_38 rfl (by decide) rfl ?_
        refine V.iinc (pc := 39) (lv' := [(3, .int (sJ (wr (x3j37 + 1)))), (2, .int (sJ (wr (k0j37 + k1j37)))), (0, .ref (sA Δ 504)), (1, .int (sJ p1))]) hG dX12_inStep_39 3 rfl (by decide) rfl ?_
        refine V.goto (pc := 42) (tgt := 13) hG dX12_inStep_42 (by decide) ?_
        refine V.pick [2, 3, 1, 0] rfl ?_
        exact ih13 (wr (k0j37 + k1j37)) (wr (x3j37 + 1)) ((sR_wr _)) ((sR_wr _)) h
      refine V.iload_n (pc := 13) hG dX12_inStep_13 rfl 3 rfl ?_
      refine V.aload_n (pc := 14) hG dX12_inStep_14 rfl 0 rfl ?_
      refine V.getI (pc := 15) (ci := 14) (k := 21) (M := 49) (T := TX12) (o := 504) (kz := 21) hG a_504 a_504.n (by decide) hin_X12 rfl (by decide) (by decide) rfl kw_1713 rfl dX12_inStep_15 ?_
      obtain ⟨t17, f18⟩ := h
      refine V.icmp_ge (pc := 18) (tgt := 45) hG hx3_13 ((hi5 _ _)) dX12_inStep_18 (by decide) (fun c16 => ?_) (fun c16 => ?_)
      · have h := t17 c16
        clear t17 f18
        refine V.iload_n (pc := 45) hG dX12_inStep_45 rfl 2 rfl ?_
        exact fin dX12_inStep_46 hx2_13 rfl hi5 hw ⟨rfl, h⟩
      · have h := f18 c16
        clear t17 f18
        refine V.iload_n (pc := 21) hG dX12_inStep_21 rfl 2 rfl ?_
        refine V.aload_n (pc := 22) hG dX12_inStep_22 rfl 0 rfl ?_
        refine V.getR (x := 531) (pc := 23) (ci := 14) (k := 39) (M := 49) (T := TX12) (o := 504) (kz := 39) hG a_504 a_504.n (by decide) hin_X12 rfl (by decide) (by decide) rfl kw_1731 rfl ((hw).1 (504, 39, 531) (by decide)) (by decide) dX12_inStep_23 ?_
        refine V.iload_n (pc := 26) hG dX12_inStep_26 rfl 3 rfl ?_
        obtain ⟨g19, h⟩ := h
        refine V.iald (pc := 27) (z := 96) (o := 531) hG a_531 a_531.n hx3_13 g19 dX12_inStep_27 ?_
        refine V.iload_n (pc := 28) hG dX12_inStep_28 rfl 1 rfl ?_
        obtain ⟨f22, t21⟩ := h
        refine V.icmp_ne (pc := 29) (tgt := 36) hG ((hi5 _ _)) hp1 dX12_inStep_29 (by decide) (fun c20 => ?_) (fun c20 => ?_)
        · have h := t21 c20
          clear t21 f22
          refine V.iconst (pc := 36) hG dX12_inStep_36 ?_
          refine V.pick [0, 1, 3] rfl ?_
          exact jn37 x3_13 x2_13 0 hx3_13 hx2_13 ((sR_l rfl)) h
        · have h := f22 c20
          clear t21 f22
          refine V.iconst (pc := 32) hG dX12_inStep_32 ?_
          refine V.goto (pc := 33) (tgt := 37) hG dX12_inStep_33 (by decide) ?_
          refine V.pick [0, 1, 3] rfl ?_
          exact jn37 x3_13 x2_13 1 hx3_13 hx2_13 ((sR_l rfl)) h
  refine V.pick [2, 3, 1, 0] rfl ?_
  exact lp13 n15 0 0 ((sR_l rfl)) ((sR_l rfl)) h
set_option maxRecDepth 100000 in
set_option maxHeartbeats 4000000 in
theorem sm_X12_lastUse (l : Launch) (Δ : Wd) {i r : MI} {p1 : Int} (hp1 : sR p1) {Q : Int → Prop} (hi : okI i) (hw : Wf r) (h : wp_X12_lastUse p1 i r Q) : Met l yX12_lastUse (Cond.code yX12_lastUse cX12_lastUse 9 (some .int) :: gW) (sRm 1 13) (sPc Δ [.ref (sA Δ 504), .int (sJ p1)] i r) (sQi Δ (fun x i' r' => i = i' ∧ r = r' ∧ Q x)) 0 0 (sFr Δ) := by
  refine Ct.i (ty := .int) (by decide) rfl (Nat.le_of_ble_eq_true rfl) (fun Γ Q0 hG fin => ?_)
  have hG : okG Γ Δ l (sRm 1 13) cX12_lastUse "SchedularyModel" 9 := hG
  show V Γ Δ 542 false i r 0 0 Q0 0 [(0, .ref (sA Δ 504)), (1, .int (sJ p1))] []
  refine V.iconst (pc := 0) hG dX12_lastUse_0 ?_
  refine V.istore_n (pc := 1) (lv' := [(2, .int (sJ (-1))), (0, .ref (sA Δ 504)), (1, .int (sJ p1))]) hG dX12_lastUse_1 rfl (by decide) rfl ?_
  refine V.iconst (pc := 2) hG dX12_lastUse_2 ?_
  refine V.istore_n (pc := 3) (lv' := [(3, .int (sJ 0)), (2, .int (sJ (-1))), (0, .ref (sA Δ 504)), (1, .int (sJ p1))]) hG dX12_lastUse_3 rfl (by decide) rfl ?_
  obtain ⟨n79, h⟩ := h
  have lp4 : ∀ (m4 : Nat) (x2_4 : Int) (x3_4 : Int), sR x2_4 → sR x3_4 → LoopP (b4_X12_lastUse p1 i r Q) m4 (x2_4, x3_4) → V Γ Δ 542 false i r 0 0 Q0 4 [(0, .ref (sA Δ 504)), (1, .int (sJ p1)), (2, .int (sJ x2_4)), (3, .int (sJ x3_4))] [] := by
    intro m4
    induction m4 with
    | zero => intro x2_4 x3_4 hx2_4 hx3_4 h; exact h.elim
    | succ m4 ih4 =>
      intro x2_4 x3_4 hx2_4 hx3_4 h
      have h := LoopP_succ h
      have jn212 : ∀ (x3j212 : Int) (k0j212 : Int), sR x3j212 → sR k0j212 → s212_X12_lastUse p1 x3j212 k0j212 i r Q (LoopP (b4_X12_lastUse p1 i r Q) m4) → V Γ Δ 542 false i r 0 0 Q0 212 [(0, .ref (sA Δ 504)), (1, .int (sJ p1)), (3, .int (sJ x3j212))] [.int (sJ k0j212)] := by
        intro x3j212 k0j212 hx3j212 hk0j212 h
        refine V.istore_n (pc := 212) (lv' := [(2, .int (sJ k0j212)), (0, .ref (sA Δ 504)), (1, .int (sJ p1)), (3, .int (sJ x3j212))]) hG dX12_lastUse_212 rfl (by decide) rfl ?_
        refine V.iinc (pc := 213) (lv' := [(3, .int (sJ (wr (x3j212 + 1)))), (2, .int (sJ k0j212)), (0, .ref (sA Δ 504)), (1, .int (sJ p1))]) hG dX12_lastUse_213 3 rfl (by decide) rfl ?_
        refine V.goto (pc := 216) (tgt := 4) hG dX12_lastUse_216 (by decide) ?_
        refine V.pick [2, 3, 1, 0] rfl ?_
        exact ih4 k0j212 (wr (x3j212 + 1)) hk0j212 ((sR_wr _)) h
      have jn173 : ∀ (x2j173 : Int) (x3j173 : Int) (x7j173 : Int) (k0j173 : Int), sR x2j173 → sR x3j173 → sR x7j173 → sR k0j173 → s173_X12_lastUse p1 x2j173 x3j173 x7j173 k0j173 i r Q (LoopP (b4_X12_lastUse p1 i r Q) m4) → V Γ Δ 542 false i r 0 0 Q0 173 [(0, .ref (sA Δ 504)), (1, .int (sJ p1)), (2, .int (sJ x2j173)), (3, .int (sJ x3j173)), (7, .int (sJ x7j173))] [.int (sJ k0j173)] := by
        intro x2j173 x3j173 x7j173 k0j173 hx2j173 hx3j173 hx7j173 hk0j173 h
        refine V.istore (pc := 173) (lv' := [(8, .int (sJ k0j173)), (0, .ref (sA Δ 504)), (1, .int (sJ p1)), (2, .int (sJ x2j173)), (3, .int (sJ x3j173)), (7, .int (sJ x7j173))]) hG dX12_lastUse_173 (by decide) rfl ?_
        refine V.iload (pc := 175) hG dX12_lastUse_175 5 rfl ?_
        obtain ⟨t88, f89⟩ := h
        refine V.if_eq (pc := 177) (tgt := 193) hG hx7j173 dX12_lastUse_177 (by decide) (fun c87 => ?_) (fun c87 => ?_)
        · have h := t88 c87
          clear t88 f89
          refine V.iload (pc := 193) hG dX12_lastUse_193 0 rfl ?_
          obtain ⟨t91, f92⟩ := h
          refine V.if_eq (pc := 195) (tgt := 211) hG hk0j173 dX12_lastUse_195 (by decide) (fun c90 => ?_) (fun c90 => ?_)
          · have h := t91 c90
            clear t91 f92
            refine V.iload_n (pc := 211) hG dX12_lastUse_211 rfl 3 rfl ?_
            refine V.pick [1, 2, 4] rfl ?_
            exact jn212 x3j173 x2j173 hx3j173 hx2j173 h
          · have h := f92 c90
            clear t91 f92
            refine V.iload_n (pc := 198) hG dX12_lastUse_198 rfl 3 rfl ?_
            refine V.aload_n (pc := 199) hG dX12_lastUse_199 rfl 1 rfl ?_
            refine V.getI (pc := 200) (ci := 14) (k := 48) (M := 49) (T := TX12) (o := 504) (kz := 48) hG a_504 a_504.n (by decide) hin_X12 rfl (by decide) (by decide) rfl kw_1740 rfl dX12_lastUse_200 ?_
            refine V.iconst (pc := 203) hG dX12_lastUse_203 ?_
            refine V.isub (pc := 204) hG dX12_lastUse_204 ?_
            refine V.mmax (pc := 205) hG hx2j173 ((sR_wr _)) kw_1955 kw_680 kw_173 kw_max ⟨Nat.le_of_ble_eq_true rfl, Nat.le_of_ble_eq_true rfl, Nat.le_of_ble_eq_true rfl, Nat.le_of_ble_eq_true rfl⟩ dX12_lastUse_205 ?_
            refine V.goto (pc := 208) (tgt := 212) hG dX12_lastUse_208 (by decide) ?_
            refine V.pick [1, 2, 4] rfl ?_
            exact jn212 x3j173 (max x2j173 (wr (i 504 48 - 1))) hx3j173 ((sR_max hx2j173 ((sR_wr _)))) h
        · have h := f89 c87
          clear t88 f89
          refine V.iload_n (pc := 180) hG dX12_lastUse_180 rfl 3 rfl ?_
          refine V.aload_n (pc := 181) hG dX12_lastUse_181 rfl 1 rfl ?_
          refine V.getR (x := 531) (pc := 182) (ci := 14) (k := 39) (M := 49) (T := TX12) (o := 504) (kz := 39) hG a_504 a_504.n (by decide) hin_X12 rfl (by decide) (by decide) rfl kw_1731 rfl ((hw).1 (504, 39, 531) (by decide)) (by decide) dX12_lastUse_182 ?_
          refine V.iload_n (pc := 185) hG dX12_lastUse_185 rfl 4 rfl ?_
          obtain ⟨g93, h⟩ := h
          refine V.iald (pc := 186) (z := 96) (o := 531) hG a_531 a_531.n hx3j173 g93 dX12_lastUse_186 ?_
          refine V.mmax (pc := 187) hG hx2j173 ((hi _ _)) kw_1955 kw_680 kw_173 kw_max ⟨Nat.le_of_ble_eq_true rfl, Nat.le_of_ble_eq_true rfl, Nat.le_of_ble_eq_true rfl, Nat.le_of_ble_eq_true rfl⟩ dX12_lastUse_187 ?_
          refine V.goto (pc := 190) (tgt := 212) hG dX12_lastUse_190 (by decide) ?_
          refine V.pick [1, 2, 4] rfl ?_
          exact jn212 x3j173 (max x2j173 (i 531 x3j173)) hx3j173 ((sR_max hx2j173 ((hi _ _)))) h
      have jn172 : ∀ (x2j172 : Int) (x3j172 : Int) (x7j172 : Int), sR x2j172 → sR x3j172 → sR x7j172 → s172_X12_lastUse p1 x2j172 x3j172 x7j172 i r Q (LoopP (b4_X12_lastUse p1 i r Q) m4) → V Γ Δ 542 false i r 0 0 Q0 172 [(0, .ref (sA Δ 504)), (1, .int (sJ p1)), (2, .int (sJ x2j172)), (3, .int (sJ x3j172)), (7, .int (sJ x7j172))] [] := by
        intro x2j172 x3j172 x7j172 hx2j172 hx3j172 hx7j172 h
        refine V.iconst (pc := 172) hG dX12_lastUse_172 ?_
        exact jn173 x2j172 x3j172 x7j172 0 hx2j172 hx3j172 hx7j172 ((sR_l rfl)) h
      have jn149 : ∀ (x2j149 : Int) (x3j149 : Int) (x4j149 : Int) (x5j149 : Int) (x6j149 : Int) (k0j149 : Int), sR x2j149 → sR x3j149 → sR x4j149 → sR x5j149 → sR x6j149 → sR k0j149 → s149_X12_lastUse p1 x2j149 x3j149 x4j149 x5j149 x6j149 k0j149 i r Q (LoopP (b4_X12_lastUse p1 i r Q) m4) → V Γ Δ 542 false i r 0 0 Q0 149 [(0, .ref (sA Δ 504)), (1, .int (sJ p1)), (2, .int (sJ x2j149)), (3, .int (sJ x3j149)), (4, .int (sJ x4j149)), (5, .int (sJ x5j149)), (6, .int (sJ x6j149))] [.int (sJ k0j149)] := by
        intro x2j149 x3j149 x4j149 x5j149 x6j149 k0j149 hx2j149 hx3j149 hx4j149 hx5j149 hx6j149 hk0j149 h
        refine V.istore (pc := 149) (lv' := [(7, .int (sJ k0j149)), (0, .ref (sA Δ 504)), (1, .int (sJ p1)), (2, .int (sJ x2j149)), (3, .int (sJ x3j149)), (4, .int (sJ x4j149)), (5, .int (sJ x5j149)), (6, .int (sJ x6j149))]) hG dX12_lastUse_149 (by decide) rfl ?_
        refine V.iload (pc := 151) hG dX12_lastUse_151 5 rfl ?_
        obtain ⟨t104, f105⟩ := h
        refine V.if_eq (pc := 153) (tgt := 172) hG hx4j149 dX12_lastUse_153 (by decide) (fun c103 => ?_) (fun c103 => ?_)
        · have h := t104 c103
          clear t104 f105
          refine V.pick [1, 2, 3, 4, 0] rfl ?_
          exact jn172 x2j149 x3j149 k0j149 hx2j149 hx3j149 hk0j149 h
        · have h := f105 c103
          clear t104 f105
          refine V.iload (pc := 156) hG dX12_lastUse_156 6 rfl ?_
          refine V.iconst (pc := 158) hG dX12_lastUse_158 ?_
          obtain ⟨f108, t107⟩ := h
          refine V.icmp_ne (pc := 159) (tgt := 172) hG hx5j149 ((sR_l rfl)) dX12_lastUse_159 (by decide) (fun c106 => ?_) (fun c106 => ?_)
          · have h := t107 c106
            clear t107 f108
            refine V.pick [1, 2, 3, 4, 0] rfl ?_
            exact jn172 x2j149 x3j149 k0j149 hx2j149 hx3j149 hk0j149 h
          · have h := f108 c106
            clear t107 f108
            refine V.iload (pc := 162) hG dX12_lastUse_162 7 rfl ?_
            refine V.iload_n (pc := 164) hG dX12_lastUse_164 rfl 2 rfl ?_
            obtain ⟨f111, t110⟩ := h
            refine V.icmp_ne (pc := 165) (tgt := 172) hG hx6j149 hp1 dX12_lastUse_165 (by decide) (fun c109 => ?_) (fun c109 => ?_)
            · have h := t110 c109
              clear t110 f111
              refine V.pick [1, 2, 3, 4, 0] rfl ?_
              exact jn172 x2j149 x3j149 k0j149 hx2j149 hx3j149 hk0j149 h
            · have h := f111 c109
              clear t110 f111
              refine V.iconst (pc := 168) hG dX12_lastUse_168 ?_
              refine V.goto (pc := 169) (tgt := 173) hG dX12_lastUse_169 (by decide) ?_
              refine V.pick [1, 2, 3, 4, 0] rfl ?_
              exact jn173 x2j149 x3j149 k0j149 1 hx2j149 hx3j149 hk0j149 ((sR_l rfl)) h
      have jn148 : ∀ (x2j148 : Int) (x3j148 : Int) (x4j148 : Int) (x5j148 : Int) (x6j148 : Int), sR x2j148 → sR x3j148 → sR x4j148 → sR x5j148 → sR x6j148 → s148_X12_lastUse p1 x2j148 x3j148 x4j148 x5j148 x6j148 i r Q (LoopP (b4_X12_lastUse p1 i r Q) m4) → V Γ Δ 542 false i r 0 0 Q0 148 [(0, .ref (sA Δ 504)), (1, .int (sJ p1)), (2, .int (sJ x2j148)), (3, .int (sJ x3j148)), (4, .int (sJ x4j148)), (5, .int (sJ x5j148)), (6, .int (sJ x6j148))] [] := by
        intro x2j148 x3j148 x4j148 x5j148 x6j148 hx2j148 hx3j148 hx4j148 hx5j148 hx6j148 h
        refine V.iconst (pc := 148) hG dX12_lastUse_148 ?_
        exact jn149 x2j148 x3j148 x4j148 x5j148 x6j148 0 hx2j148 hx3j148 hx4j148 hx5j148 hx6j148 ((sR_l rfl)) h
      have jn133 : ∀ (x2j133 : Int) (x3j133 : Int) (x4j133 : Int) (x5j133 : Int) (x6j133 : Int), sR x2j133 → sR x3j133 → sR x4j133 → sR x5j133 → sR x6j133 → s133_X12_lastUse p1 x2j133 x3j133 x4j133 x5j133 x6j133 i r Q (LoopP (b4_X12_lastUse p1 i r Q) m4) → V Γ Δ 542 false i r 0 0 Q0 133 [(0, .ref (sA Δ 504)), (1, .int (sJ p1)), (2, .int (sJ x2j133)), (3, .int (sJ x3j133)), (4, .int (sJ x4j133)), (5, .int (sJ x5j133)), (6, .int (sJ x6j133))] [] := by
        intro x2j133 x3j133 x4j133 x5j133 x6j133 hx2j133 hx3j133 hx4j133 hx5j133 hx6j133 h
        refine V.iload (pc := 133) hG dX12_lastUse_133 4 rfl ?_
        obtain ⟨t119, f120⟩ := h
        refine V.if_eq (pc := 135) (tgt := 148) hG hx4j133 dX12_lastUse_135 (by decide) (fun c118 => ?_) (fun c118 => ?_)
        · have h := t119 c118
          clear t119 f120
          exact jn148 x2j133 x3j133 x4j133 x5j133 x6j133 hx2j133 hx3j133 hx4j133 hx5j133 hx6j133 h
        · have h := f120 c118
          clear t119 f120
          refine V.iload (pc := 138) hG dX12_lastUse_138 5 rfl ?_
          refine V.iload_n (pc := 140) hG dX12_lastUse_140 rfl 1 rfl ?_
          obtain ⟨f123, t122⟩ := h
          refine V.icmp_ne (pc := 141) (tgt := 148) hG hx5j133 hp1 dX12_lastUse_141 (by decide) (fun c121 => ?_) (fun c121 => ?_)
          · have h := t122 c121
            clear t122 f123
            exact jn148 x2j133 x3j133 x4j133 x5j133 x6j133 hx2j133 hx3j133 hx4j133 hx5j133 hx6j133 h
          · have h := f123 c121
            clear t122 f123
            refine V.iconst (pc := 144) hG dX12_lastUse_144 ?_
            refine V.goto (pc := 145) (tgt := 149) hG dX12_lastUse_145 (by decide) ?_
            exact jn149 x2j133 x3j133 x4j133 x5j133 x6j133 1 hx2j133 hx3j133 hx4j133 hx5j133 hx6j133 ((sR_l rfl)) h
      have jn46 : ∀ (x2j46 : Int) (x3j46 : Int) (k0j46 : Int), sR x2j46 → sR x3j46 → sR k0j46 → s46_X12_lastUse p1 x2j46 x3j46 k0j46 i r Q (LoopP (b4_X12_lastUse p1 i r Q) m4) → V Γ Δ 542 false i r 0 0 Q0 46 [(0, .ref (sA Δ 504)), (1, .int (sJ p1)), (2, .int (sJ x2j46)), (3, .int (sJ x3j46))] [.int (sJ k0j46)] := by
        intro x2j46 x3j46 k0j46 hx2j46 hx3j46 hk0j46 h
        refine V.istore (pc := 46) (lv' := [(4, .int (sJ k0j46)), (0, .ref (sA Δ 504)), (1, .int (sJ p1)), (2, .int (sJ x2j46)), (3, .int (sJ x3j46))]) hG dX12_lastUse_46 (by decide) rfl ?_
        refine V.iconst (pc := 48) hG dX12_lastUse_48 ?_
        refine V.istore (pc := 49) (lv' := [(5, .int (sJ (-1))), (4, .int (sJ k0j46)), (0, .ref (sA Δ 504)), (1, .int (sJ p1)), (2, .int (sJ x2j46)), (3, .int (sJ x3j46))]) hG dX12_lastUse_49 (by decide) rfl ?_
        refine V.iconst (pc := 51) hG dX12_lastUse_51 ?_
        refine V.istore (pc := 52) (lv' := [(6, .int (sJ (-1))), (5, .int (sJ (-1))), (4, .int (sJ k0j46)), (0, .ref (sA Δ 504)), (1, .int (sJ p1)), (2, .int (sJ x2j46)), (3, .int (sJ x3j46))]) hG dX12_lastUse_52 (by decide) rfl ?_
        refine V.iconst (pc := 54) hG dX12_lastUse_54 ?_
        refine V.istore (pc := 55) (lv' := [(7, .int (sJ 0)), (6, .int (sJ (-1))), (5, .int (sJ (-1))), (4, .int (sJ k0j46)), (0, .ref (sA Δ 504)), (1, .int (sJ p1)), (2, .int (sJ x2j46)), (3, .int (sJ x3j46))]) hG dX12_lastUse_55 (by decide) rfl ?_
        obtain ⟨n149, h⟩ := h
        have lp57 : ∀ (m57 : Nat) (x5_57 : Int) (x6_57 : Int) (x7_57 : Int), sR x5_57 → sR x6_57 → sR x7_57 → LoopP (b57_X12_lastUse p1 x2j46 x3j46 k0j46 i r Q (LoopP (b4_X12_lastUse p1 i r Q) m4)) m57 (x5_57, x6_57, x7_57) → V Γ Δ 542 false i r 0 0 Q0 57 [(0, .ref (sA Δ 504)), (1, .int (sJ p1)), (2, .int (sJ x2j46)), (3, .int (sJ x3j46)), (4, .int (sJ k0j46)), (5, .int (sJ x5_57)), (6, .int (sJ x6_57)), (7, .int (sJ x7_57))] [] := by
          intro m57
          induction m57 with
          | zero => intro x5_57 x6_57 x7_57 hx5_57 hx6_57 hx7_57 h; exact h.elim
          | succ m57 ih57 =>
            intro x5_57 x6_57 x7_57 hx5_57 hx6_57 hx7_57 h
            have h := LoopP_succ h
            have jn125 : ∀ (x5j125 : Int) (x7j125 : Int) (k0j125 : Int), sR x5j125 → sR x7j125 → sR k0j125 → s125_X12_lastUse p1 x2j46 x3j46 k0j46 x5j125 x7j125 k0j125 i r Q (LoopP (b4_X12_lastUse p1 i r Q) m4) (LoopP (b57_X12_lastUse p1 x2j46 x3j46 k0j46 i r Q (LoopP (b4_X12_lastUse p1 i r Q) m4)) m57) → V Γ Δ 542 false i r 0 0 Q0 125 [(0, .ref (sA Δ 504)), (1, .int (sJ p1)), (2, .int (sJ x2j46)), (3, .int (sJ x3j46)), (4, .int (sJ k0j46)), (5, .int (sJ x5j125)), (7, .int (sJ x7j125))] [.int (sJ k0j125)] := by
              intro x5j125 x7j125 k0j125 hx5j125 hx7j125 hk0j125 h
              refine V.istore (pc := 125) (lv' := [(6, .int (sJ k0j125)), (0, .ref (sA Δ 504)), (1, .int (sJ p1)), (2, .int (sJ x2j46)), (3, .int (sJ x3j46)), (4, .int (sJ k0j46)), (5, .int (sJ x5j125)), (7, .int (sJ x7j125))]) hG dX12_lastUse_125 (by decide) rfl ?_
              refine V.iinc (pc := 127) (lv' := [(7, .int (sJ (wr (x7j125 + 1)))), (6, .int (sJ k0j125)), (0, .ref (sA Δ 504)), (1, .int (sJ p1)), (2, .int (sJ x2j46)), (3, .int (sJ x3j46)), (4, .int (sJ k0j46)), (5, .int (sJ x5j125))]) hG dX12_lastUse_127 7 rfl (by decide) rfl ?_
              refine V.goto (pc := 130) (tgt := 57) hG dX12_lastUse_130 (by decide) ?_
              refine V.pick [2, 3, 4, 5, 6, 7, 1, 0] rfl ?_
              exact ih57 x5j125 k0j125 (wr (x7j125 + 1)) hx5j125 hk0j125 ((sR_wr _)) h
            have jn100 : ∀ (x6j100 : Int) (x7j100 : Int) (k0j100 : Int), sR x6j100 → sR x7j100 → sR k0j100 → s100_X12_lastUse p1 x2j46 x3j46 k0j46 x6j100 x7j100 k0j100 i r Q (LoopP (b4_X12_lastUse p1 i r Q) m4) (LoopP (b57_X12_lastUse p1 x2j46 x3j46 k0j46 i r Q (LoopP (b4_X12_lastUse p1 i r Q) m4)) m57) → V Γ Δ 542 false i r 0 0 Q0 100 [(0, .ref (sA Δ 504)), (1, .int (sJ p1)), (2, .int (sJ x2j46)), (3, .int (sJ x3j46)), (4, .int (sJ k0j46)), (6, .int (sJ x6j100)), (7, .int (sJ x7j100))] [.int (sJ k0j100)] := by
              intro x6j100 x7j100 k0j100 hx6j100 hx7j100 hk0j100 h
              refine V.istore (pc := 100) (lv' := [(5, .int (sJ k0j100)), (0, .ref (sA Δ 504)), (1, .int (sJ p1)), (2, .int (sJ x2j46)), (3, .int (sJ x3j46)), (4, .int (sJ k0j46)), (6, .int (sJ x6j100)), (7, .int (sJ x7j100))]) hG dX12_lastUse_100 (by decide) rfl ?_
              refine V.aload_n (pc := 102) hG dX12_lastUse_102 rfl 1 rfl ?_
              refine V.getR (x := 519) (pc := 103) (ci := 14) (k := 26) (M := 49) (T := TX12) (o := 504) (kz := 26) hG a_504 a_504.n (by decide) hin_X12 rfl (by decide) (by decide) rfl kw_1718 rfl ((hw).1 (504, 26, 519) (by decide)) (by decide) dX12_lastUse_103 ?_
              refine V.iload (pc := 106) hG dX12_lastUse_106 7 rfl ?_
              obtain ⟨g155, h⟩ := h
              refine V.iald (pc := 108) (z := 96) (o := 519) hG a_519 a_519.n hx7j100 g155 dX12_lastUse_108 ?_
              refine V.aload_n (pc := 109) hG dX12_lastUse_109 rfl 1 rfl ?_
              refine V.getR (x := 519) (pc := 110) (ci := 14) (k := 26) (M := 49) (T := TX12) (o := 504) (kz := 26) hG a_504 a_504.n (by decide) hin_X12 rfl (by decide) (by decide) rfl kw_1718 rfl ((hw).1 (504, 26, 519) (by decide)) (by decide) dX12_lastUse_110 ?_
              refine V.iload_n (pc := 113) hG dX12_lastUse_113 rfl 2 rfl ?_
              obtain ⟨g156, h⟩ := h
              refine V.iald (pc := 114) (z := 96) (o := 519) hG a_519 a_519.n hp1 g156 dX12_lastUse_114 ?_
              obtain ⟨f159, t158⟩ := h
              refine V.icmp_ne (pc := 115) (tgt := 123) hG ((hi _ _)) ((hi _ _)) dX12_lastUse_115 (by decide) (fun c157 => ?_) (fun c157 => ?_)
              · have h := t158 c157
                clear t158 f159
                refine V.iload (pc := 123) hG dX12_lastUse_123 6 rfl ?_
                refine V.pick [1, 2, 3, 4, 5, 0, 7] rfl ?_
                exact jn125 k0j100 x7j100 x6j100 hk0j100 hx7j100 hx6j100 h
              · have h := f159 c157
                clear t158 f159
                refine V.iload (pc := 118) hG dX12_lastUse_118 7 rfl ?_
                refine V.goto (pc := 120) (tgt := 125) hG dX12_lastUse_120 (by decide) ?_
                refine V.pick [1, 2, 3, 4, 5, 0, 7] rfl ?_
                exact jn125 k0j100 x7j100 x7j100 hk0j100 hx7j100 hx7j100 h
            have jn98 : ∀ (x5j98 : Int) (x6j98 : Int) (x7j98 : Int), sR x5j98 → sR x6j98 → sR x7j98 → s98_X12_lastUse p1 x2j46 x3j46 k0j46 x5j98 x6j98 x7j98 i r Q (LoopP (b4_X12_lastUse p1 i r Q) m4) (LoopP (b57_X12_lastUse p1 x2j46 x3j46 k0j46 i r Q (LoopP (b4_X12_lastUse p1 i r Q) m4)) m57) → V Γ Δ 542 false i r 0 0 Q0 98 [(0, .ref (sA Δ 504)), (1, .int (sJ p1)), (2, .int (sJ x2j46)), (3, .int (sJ x3j46)), (4, .int (sJ k0j46)), (5, .int (sJ x5j98)), (6, .int (sJ x6j98)), (7, .int (sJ x7j98))] [] := by
              intro x5j98 x6j98 x7j98 hx5j98 hx6j98 hx7j98 h
              refine V.iload (pc := 98) hG dX12_lastUse_98 5 rfl ?_
              refine V.pick [0, 1, 2, 3, 4, 6, 7] rfl ?_
              exact jn100 x6j98 x7j98 x5j98 hx6j98 hx7j98 hx5j98 h
            refine V.iload (pc := 57) hG dX12_lastUse_57 7 rfl ?_
            refine V.aload_n (pc := 59) hG dX12_lastUse_59 rfl 0 rfl ?_
            refine V.getI (pc := 60) (ci := 14) (k := 21) (M := 49) (T := TX12) (o := 504) (kz := 21) hG a_504 a_504.n (by decide) hin_X12 rfl (by decide) (by decide) rfl kw_1713 rfl dX12_lastUse_60 ?_
            obtain ⟨t161, f162⟩ := h
            refine V.icmp_ge (pc := 63) (tgt := 133) hG hx7_57 ((hi _ _)) dX12_lastUse_63 (by decide) (fun c160 => ?_) (fun c160 => ?_)
            · have h := t161 c160
              clear t161 f162
              refine V.pick [0, 1, 2, 3, 4, 5, 6] rfl ?_
              exact jn133 x2j46 x3j46 k0j46 x5_57 x6_57 hx2j46 hx3j46 hk0j46 hx5_57 hx6_57 h
            · have h := f162 c160
              clear t161 f162
              refine V.iload (pc := 66) hG dX12_lastUse_66 4 rfl ?_
              obtain ⟨t164, f165⟩ := h
              refine V.if_eq (pc := 68) (tgt := 133) hG hk0j46 dX12_lastUse_68 (by decide) (fun c163 => ?_) (fun c163 => ?_)
              · have h := t164 c163
                clear t164 f165
                refine V.pick [0, 1, 2, 3, 4, 5, 6] rfl ?_
                exact jn133 x2j46 x3j46 k0j46 x5_57 x6_57 hx2j46 hx3j46 hk0j46 hx5_57 hx6_57 h
              · have h := f165 c163
                clear t164 f165
                refine V.aload_n (pc := 71) hG dX12_lastUse_71 rfl 0 rfl ?_
                refine V.getR (x := 519) (pc := 72) (ci := 14) (k := 26) (M := 49) (T := TX12) (o := 504) (kz := 26) hG a_504 a_504.n (by decide) hin_X12 rfl (by decide) (by decide) rfl kw_1718 rfl ((hw).1 (504, 26, 519) (by decide)) (by decide) dX12_lastUse_72 ?_
                refine V.iload (pc := 75) hG dX12_lastUse_75 7 rfl ?_
                obtain ⟨g166, h⟩ := h
                refine V.iald (pc := 77) (z := 96) (o := 519) hG a_519 a_519.n hx7_57 g166 dX12_lastUse_77 ?_
                refine V.aload_n (pc := 78) hG dX12_lastUse_78 rfl 0 rfl ?_
                refine V.getR (x := 519) (pc := 79) (ci := 14) (k := 26) (M := 49) (T := TX12) (o := 504) (kz := 26) hG a_504 a_504.n (by decide) hin_X12 rfl (by decide) (by decide) rfl kw_1718 rfl ((hw).1 (504, 26, 519) (by decide)) (by decide) dX12_lastUse_79 ?_
                refine V.iload_n (pc := 82) hG dX12_lastUse_82 rfl 1 rfl ?_
                obtain ⟨g167, h⟩ := h
                refine V.iald (pc := 83) (z := 96) (o := 519) hG a_519 a_519.n hp1 g167 dX12_lastUse_83 ?_
                obtain ⟨f170, t169⟩ := h
                refine V.icmp_ne (pc := 84) (tgt := 98) hG ((hi _ _)) ((hi _ _)) dX12_lastUse_84 (by decide) (fun c168 => ?_) (fun c168 => ?_)
                · have h := t169 c168
                  clear t169 f170
                  exact jn98 x5_57 x6_57 x7_57 hx5_57 hx6_57 hx7_57 h
                · have h := f170 c168
                  clear t169 f170
                  refine V.iload (pc := 87) hG dX12_lastUse_87 7 rfl ?_
                  refine V.iload_n (pc := 89) hG dX12_lastUse_89 rfl 3 rfl ?_
                  obtain ⟨t172, f173⟩ := h
                  refine V.icmp_ge (pc := 90) (tgt := 98) hG hx7_57 hx3j46 dX12_lastUse_90 (by decide) (fun c171 => ?_) (fun c171 => ?_)
                  · have h := t172 c171
                    clear t172 f173
                    exact jn98 x5_57 x6_57 x7_57 hx5_57 hx6_57 hx7_57 h
                  · have h := f173 c171
                    clear t172 f173
                    refine V.iload (pc := 93) hG dX12_lastUse_93 7 rfl ?_
                    refine V.goto (pc := 95) (tgt := 100) hG dX12_lastUse_95 (by decide) ?_
                    refine V.pick [0, 1, 2, 3, 4, 6, 7] rfl ?_
                    exact jn100 x6_57 x7_57 x7_57 hx6_57 hx7_57 hx7_57 h
        refine V.pick [4, 5, 6, 7, 3, 2, 1, 0] rfl ?_
        exact lp57 n149 (-1) (-1) 0 ((sR_l rfl)) ((sR_l rfl)) ((sR_l rfl)) h
      have jn45 : ∀ (x2j45 : Int) (x3j45 : Int), sR x2j45 → sR x3j45 → s45_X12_lastUse p1 x2j45 x3j45 i r Q (LoopP (b4_X12_lastUse p1 i r Q) m4) → V Γ Δ 542 false i r 0 0 Q0 45 [(0, .ref (sA Δ 504)), (1, .int (sJ p1)), (2, .int (sJ x2j45)), (3, .int (sJ x3j45))] [] := by
        intro x2j45 x3j45 hx2j45 hx3j45 h
        refine V.iconst (pc := 45) hG dX12_lastUse_45 ?_
        exact jn46 x2j45 x3j45 0 hx2j45 hx3j45 ((sR_l rfl)) h
      refine V.iload_n (pc := 4) hG dX12_lastUse_4 rfl 3 rfl ?_
      refine V.aload_n (pc := 5) hG dX12_lastUse_5 rfl 0 rfl ?_
      refine V.getI (pc := 6) (ci := 14) (k := 21) (M := 49) (T := TX12) (o := 504) (kz := 21) hG a_504 a_504.n (by decide) hin_X12 rfl (by decide) (by decide) rfl kw_1713 rfl dX12_lastUse_6 ?_
      obtain ⟨t175, f176⟩ := h
      refine V.icmp_ge (pc := 9) (tgt := 219) hG hx3_4 ((hi _ _)) dX12_lastUse_9 (by decide) (fun c174 => ?_) (fun c174 => ?_)
      · have h := t175 c174
        clear t175 f176
        refine V.iload_n (pc := 219) hG dX12_lastUse_219 rfl 2 rfl ?_
        exact fin dX12_lastUse_220 hx2_4 rfl hi hw ⟨rfl, rfl, h⟩
      · have h := f176 c174
        clear t175 f176
        refine V.aload_n (pc := 12) hG dX12_lastUse_12 rfl 0 rfl ?_
        refine V.getR (x := 519) (pc := 13) (ci := 14) (k := 26) (M := 49) (T := TX12) (o := 504) (kz := 26) hG a_504 a_504.n (by decide) hin_X12 rfl (by decide) (by decide) rfl kw_1718 rfl ((hw).1 (504, 26, 519) (by decide)) (by decide) dX12_lastUse_13 ?_
        refine V.iload_n (pc := 16) hG dX12_lastUse_16 rfl 1 rfl ?_
        obtain ⟨g177, h⟩ := h
        refine V.iald (pc := 17) (z := 96) (o := 519) hG a_519 a_519.n hp1 g177 dX12_lastUse_17 ?_
        refine V.iconst (pc := 18) hG dX12_lastUse_18 ?_
        obtain ⟨t179, f180⟩ := h
        refine V.icmp_eq (pc := 19) (tgt := 45) hG ((hi _ _)) ((sR_l rfl)) dX12_lastUse_19 (by decide) (fun c178 => ?_) (fun c178 => ?_)
        · have h := t179 c178
          clear t179 f180
          exact jn45 x2_4 x3_4 hx2_4 hx3_4 h
        · have h := f180 c178
          clear t179 f180
          refine V.aload_n (pc := 22) hG dX12_lastUse_22 rfl 0 rfl ?_
          refine V.getR (x := 518) (pc := 23) (ci := 14) (k := 25) (M := 49) (T := TX12) (o := 504) (kz := 25) hG a_504 a_504.n (by decide) hin_X12 rfl (by decide) (by decide) rfl kw_1717 rfl ((hw).1 (504, 25, 518) (by decide)) (by decide) dX12_lastUse_23 ?_
          refine V.iload_n (pc := 26) hG dX12_lastUse_26 rfl 3 rfl ?_
          obtain ⟨g181, h⟩ := h
          refine V.iald (pc := 27) (z := 96) (o := 518) hG a_518 a_518.n hx3_4 g181 dX12_lastUse_27 ?_
          refine V.aload_n (pc := 28) hG dX12_lastUse_28 rfl 0 rfl ?_
          refine V.getR (x := 519) (pc := 29) (ci := 14) (k := 26) (M := 49) (T := TX12) (o := 504) (kz := 26) hG a_504 a_504.n (by decide) hin_X12 rfl (by decide) (by decide) rfl kw_1718 rfl ((hw).1 (504, 26, 519) (by decide)) (by decide) dX12_lastUse_29 ?_
          refine V.iload_n (pc := 32) hG dX12_lastUse_32 rfl 1 rfl ?_
          obtain ⟨g182, h⟩ := h
          refine V.iald (pc := 33) (z := 96) (o := 519) hG a_519 a_519.n hp1 g182 dX12_lastUse_33 ?_
          refine V.ishr (pc := 34) hG dX12_lastUse_34 ?_
          refine V.iconst (pc := 35) hG dX12_lastUse_35 ?_
          refine V.iand (pc := 36) hG dX12_lastUse_36 ?_
          refine V.iconst (pc := 37) hG dX12_lastUse_37 ?_
          obtain ⟨f185, t184⟩ := h
          refine V.icmp_ne (pc := 38) (tgt := 45) hG ((sR_and _ _)) ((sR_l rfl)) dX12_lastUse_38 (by decide) (fun c183 => ?_) (fun c183 => ?_)
          · have h := t184 c183
            clear t184 f185
            exact jn45 x2_4 x3_4 hx2_4 hx3_4 h
          · have h := f185 c183
            clear t184 f185
            refine V.iconst (pc := 41) hG dX12_lastUse_41 ?_
            refine V.goto (pc := 42) (tgt := 46) hG dX12_lastUse_42 (by decide) ?_
            exact jn46 x2_4 x3_4 1 hx2_4 hx3_4 ((sR_l rfl)) h
  refine V.pick [2, 3, 1, 0] rfl ?_
  exact lp4 n79 (-1) 0 ((sR_l rfl)) ((sR_l rfl)) h
set_option maxRecDepth 100000 in
set_option maxHeartbeats 4000000 in
theorem sm_X12_waiting (l : Launch) (Δ : Wd) {i r : MI}   {Q : Int → MI → Prop} (hi : okI i) (hw : Wf r) (h : wp_X12_waiting  i r Q) : Met l yX12_waiting (Cond.code yX12_waiting cX12_waiting 5 (some .int) :: gW) (sRm 6 140) (sPc Δ [.ref (sA Δ 504)] i r) (sQi Δ (fun x i' r' => r = r' ∧ Q x i')) 0 0 (sFr Δ) := by
  refine Ct.i (ty := .int) (by decide) rfl (Nat.le_of_ble_eq_true rfl) (fun Γ Q0 hG fin => ?_)
  have hG : okG Γ Δ l (sRm 6 140) cX12_waiting "SchedularyModel" 5 := hG
  show V Γ Δ 542 false i r 0 0 Q0 0 [(0, .ref (sA Δ 504))] []
  refine V.aload_n (pc := 0) hG dX12_waiting_0 rfl 0 rfl ?_
  refine V.iconst (pc := 1) hG dX12_waiting_1 ?_
  refine V.putI (pc := 2) (ci := 14) (k := 0) (M := 49) (T := TX12) (o := 504) (kz := 0) hG a_504 a_504.n (by decide) hin_X12 rfl (by decide) (by decide) rfl kw_1692 rfl tyX12 tyX12_ok nmX12 rfl (ty := tyX12 0) (tyX12_ok 0 (by decide)) rfl rfl dX12_waiting_2 ?_
  refine V.aload_n (pc := 5) hG dX12_waiting_5 rfl 0 rfl ?_
  refine V.callVv (pc := 6) (As := []) (stk := []) hG (sm_X12_list l Δ  ((okI_st hi ((sR_l rfl)))) hw h) mY_X12_list kw_2101 kw_2103 kw_138 a_504 (by decide) (q := (RX12, TX12, 49)) rfl rfl ⟨Nat.le_of_ble_eq_true rfl, Nat.le_of_ble_eq_true rfl, Nat.le_of_ble_eq_true rfl, Nat.le_of_ble_eq_true rfl⟩ rfl (Nat.le_of_ble_eq_true rfl) dX12_waiting_6 rfl (fun i2 r3 hi5 hw6 hq7 => ?_)
  obtain ⟨e102, h⟩ := hq7
  subst e102
  refine V.iconst (pc := 9) hG dX12_waiting_9 ?_
  refine V.istore_n (pc := 10) (lv' := [(1, .int (sJ 0)), (0, .ref (sA Δ 504))]) hG dX12_waiting_10 rfl (by decide) rfl ?_
  refine V.iconst (pc := 11) hG dX12_waiting_11 ?_
  refine V.istore_n (pc := 12) (lv' := [(2, .int (sJ 0)), (1, .int (sJ 0)), (0, .ref (sA Δ 504))]) hG dX12_waiting_12 rfl (by decide) rfl ?_
  obtain ⟨n68, h⟩ := h
  have lp13 : ∀ (m13 : Nat) (x1_13 : Int) (x2_13 : Int), sR x1_13 → sR x2_13 → LoopP (b13_X12_waiting i2 r Q) m13 (x1_13, x2_13) → V Γ Δ 542 false i2 r 0 0 Q0 13 [(0, .ref (sA Δ 504)), (1, .int (sJ x1_13)), (2, .int (sJ x2_13))] [] := by
    intro m13
    induction m13 with
    | zero => intro x1_13 x2_13 hx1_13 hx2_13 h; exact h.elim
    | succ m13 ih13 =>
      intro x1_13 x2_13 hx1_13 hx2_13 h
      have h := LoopP_succ h
      refine V.iload_n (pc := 13) hG dX12_waiting_13 rfl 2 rfl ?_
      refine V.aload_n (pc := 14) hG dX12_waiting_14 rfl 0 rfl ?_
      refine V.getI (pc := 15) (ci := 14) (k := 48) (M := 49) (T := TX12) (o := 504) (kz := 48) hG a_504 a_504.n (by decide) hin_X12 rfl (by decide) (by decide) rfl kw_1740 rfl dX12_waiting_15 ?_
      obtain ⟨t70, f71⟩ := h
      refine V.icmp_ge (pc := 18) (tgt := 89) hG hx2_13 ((hi5 _ _)) dX12_waiting_18 (by decide) (fun c69 => ?_) (fun c69 => ?_)
      · have h := t70 c69
        clear t70 f71
        refine V.iload_n (pc := 89) hG dX12_waiting_89 rfl 1 rfl ?_
        exact fin dX12_waiting_90 hx1_13 rfl hi5 hw ⟨rfl, h⟩
      · have h := f71 c69
        clear t70 f71
        refine V.iconst (pc := 21) hG dX12_waiting_21 ?_
        refine V.istore_n (pc := 22) (lv' := [(3, .int (sJ 0)), (0, .ref (sA Δ 504)), (1, .int (sJ x1_13)), (2, .int (sJ x2_13))]) hG dX12_waiting_22 rfl (by decide) rfl ?_
        refine V.iconst (pc := 23) hG dX12_waiting_23 ?_
        refine V.istore (pc := 24) (lv' := [(4, .int (sJ 0)), (3, .int (sJ 0)), (0, .ref (sA Δ 504)), (1, .int (sJ x1_13)), (2, .int (sJ x2_13))]) hG dX12_waiting_24 (by decide) rfl ?_
        obtain ⟨n72, h⟩ := h
        have lp26 : ∀ (m26 : Nat) (x3_26 : Int) (x4_26 : Int), sR x3_26 → sR x4_26 → LoopP (b26_X12_waiting x1_13 x2_13 i2 r Q (LoopP (b13_X12_waiting i2 r Q) m13)) m26 (x3_26, x4_26) → V Γ Δ 542 false i2 r 0 0 Q0 26 [(0, .ref (sA Δ 504)), (1, .int (sJ x1_13)), (2, .int (sJ x2_13)), (3, .int (sJ x3_26)), (4, .int (sJ x4_26))] [] := by
          intro m26
          induction m26 with
          | zero => intro x3_26 x4_26 hx3_26 hx4_26 h; exact h.elim
          | succ m26 ih26 =>
            intro x3_26 x4_26 hx3_26 hx4_26 h
            have h := LoopP_succ h
            have jn69 : ∀ (x4j69 : Int) (k0j69 : Int) (k1j69 : Int), sR x4j69 → sR k0j69 → sR k1j69 → s69_X12_waiting x1_13 x2_13 x4j69 k0j69 k1j69 i2 r Q (LoopP (b13_X12_waiting i2 r Q) m13) (LoopP (b26_X12_waiting x1_13 x2_13 i2 r Q (LoopP (b13_X12_waiting i2 r Q) m13)) m26) → V Γ Δ 542 false i2 r 0 0 Q0 69 [(0, .ref (sA Δ 504)), (1, .int (sJ x1_13)), (2, .int (sJ x2_13)), (4, .int (sJ x4j69))] [.int (sJ k1j69), .int (sJ k0j69)] := by
              intro x4j69 k0j69 k1j69 hx4j69 hk0j69 hk1j69 h
              refine V.iadd (pc := 69) hG dX12_waiting_69 ?_
              refine V.istore_n (pc := 70) (lv' := [(3, .int (sJ (wr (k0j69 + k1j69)))), (0, .ref (sA Δ 504)), (1, .int (sJ x1_13)), (2, .int (sJ x2_13)), (4, .int (sJ x4j69))]) hG dX12_waiting_70 rfl (by decide) rfl ?_
              refine V.iinc (pc := 71) (lv' := [(4, .int (sJ (wr (x4j69 + 1)))), (3, .int (sJ (wr (k0j69 + k1j69)))), (0, .ref (sA Δ 504)), (1, .int (sJ x1_13)), (2, .int (sJ x2_13))]) hG dX12_waiting_71 4 rfl (by decide) rfl ?_
              refine V.goto (pc := 74) (tgt := 26) hG dX12_waiting_74 (by decide) ?_
              refine V.pick [2, 3, 4, 1, 0] rfl ?_
              exact ih26 (wr (k0j69 + k1j69)) (wr (x4j69 + 1)) ((sR_wr _)) ((sR_wr _)) h
            have jn68 : ∀ (x4j68 : Int) (k0j68 : Int), sR x4j68 → sR k0j68 → s68_X12_waiting x1_13 x2_13 x4j68 k0j68 i2 r Q (LoopP (b13_X12_waiting i2 r Q) m13) (LoopP (b26_X12_waiting x1_13 x2_13 i2 r Q (LoopP (b13_X12_waiting i2 r Q) m13)) m26) → V Γ Δ 542 false i2 r 0 0 Q0 68 [(0, .ref (sA Δ 504)), (1, .int (sJ x1_13)), (2, .int (sJ x2_13)), (4, .int (sJ x4j68))] [.int (sJ k0j68)] := by
              intro x4j68 k0j68 hx4j68 hk0j68 h
              refine V.iconst (pc := 68) hG dX12_waiting_68 ?_
              exact jn69 x4j68 k0j68 0 hx4j68 hk0j68 ((sR_l rfl)) h
            refine V.iload (pc := 26) hG dX12_waiting_26 4 rfl ?_
            refine V.aload_n (pc := 28) hG dX12_waiting_28 rfl 0 rfl ?_
            refine V.getI (pc := 29) (ci := 14) (k := 21) (M := 49) (T := TX12) (o := 504) (kz := 21) hG a_504 a_504.n (by decide) hin_X12 rfl (by decide) (by decide) rfl kw_1713 rfl dX12_waiting_29 ?_
            obtain ⟨t74, f75⟩ := h
            refine V.icmp_ge (pc := 32) (tgt := 77) hG hx4_26 ((hi5 _ _)) dX12_waiting_32 (by decide) (fun c73 => ?_) (fun c73 => ?_)
            · have h := t74 c73
              clear t74 f75
              refine V.iload_n (pc := 77) hG dX12_waiting_77 rfl 1 rfl ?_
              refine V.iload_n (pc := 78) hG dX12_waiting_78 rfl 3 rfl ?_
              refine V.mmax (pc := 79) hG hx1_13 hx3_26 kw_1955 kw_680 kw_173 kw_max ⟨Nat.le_of_ble_eq_true rfl, Nat.le_of_ble_eq_true rfl, Nat.le_of_ble_eq_true rfl, Nat.le_of_ble_eq_true rfl⟩ dX12_waiting_79 ?_
              refine V.istore_n (pc := 82) (lv' := [(1, .int (sJ (max x1_13 x3_26))), (0, .ref (sA Δ 504)), (2, .int (sJ x2_13)), (3, .int (sJ x3_26)), (4, .int (sJ x4_26))]) hG dX12_waiting_82 rfl (by decide) rfl ?_
              refine V.iinc (pc := 83) (lv' := [(2, .int (sJ (wr (x2_13 + 1)))), (1, .int (sJ (max x1_13 x3_26))), (0, .ref (sA Δ 504)), (3, .int (sJ x3_26)), (4, .int (sJ x4_26))]) hG dX12_waiting_83 2 rfl (by decide) rfl ?_
              refine V.goto (pc := 86) (tgt := 13) hG dX12_waiting_86 (by decide) ?_
              refine V.pick [2, 1, 0] rfl ?_
              exact ih13 (max x1_13 x3_26) (wr (x2_13 + 1)) ((sR_max hx1_13 hx3_26)) ((sR_wr _)) h
            · have h := f75 c73
              clear t74 f75
              refine V.iload_n (pc := 35) hG dX12_waiting_35 rfl 3 rfl ?_
              refine V.aload_n (pc := 36) hG dX12_waiting_36 rfl 0 rfl ?_
              refine V.getR (x := 531) (pc := 37) (ci := 14) (k := 39) (M := 49) (T := TX12) (o := 504) (kz := 39) hG a_504 a_504.n (by decide) hin_X12 rfl (by decide) (by decide) rfl kw_1731 rfl ((hw).1 (504, 39, 531) (by decide)) (by decide) dX12_waiting_37 ?_
              refine V.iload (pc := 40) hG dX12_waiting_40 4 rfl ?_
              obtain ⟨g76, h⟩ := h
              refine V.iald (pc := 42) (z := 96) (o := 531) hG a_531 a_531.n hx4_26 g76 dX12_waiting_42 ?_
              refine V.aload_n (pc := 43) hG dX12_waiting_43 rfl 0 rfl ?_
              refine V.iload (pc := 44) hG dX12_waiting_44 4 rfl ?_
              refine V.callVi (pc := 46) (As := [.int (sJ x4_26)]) (stk := [.int (sJ (i2 531 x4_26)), .int (sJ x3_26)]) hG (sm_X12_cyclesOf l Δ hx4_26 hi5 hw h) mY_X12_cyclesOf kw_1947 kw_1949 kw_123 a_504 (by decide) (q := (RX12, TX12, 49)) rfl rfl ⟨Nat.le_of_ble_eq_true rfl, Nat.le_of_ble_eq_true rfl, Nat.le_of_ble_eq_true rfl, Nat.le_of_ble_eq_true rfl⟩ rfl (Nat.le_of_ble_eq_true rfl) dX12_waiting_46 rfl (fun v77 i78 r79 hv80 hi81 hw82 hq83 => ?_)
              obtain ⟨e99, e100, h⟩ := hq83
              subst e99
              subst e100
              refine V.iadd (pc := 49) hG dX12_waiting_49 ?_
              refine V.iload_n (pc := 50) hG dX12_waiting_50 rfl 2 rfl ?_
              obtain ⟨t85, f86⟩ := h
              refine V.icmp_gt (pc := 51) (tgt := 68) hG ((sR_wr _)) hx2_13 dX12_waiting_51 (by decide) (fun c84 => ?_) (fun c84 => ?_)
              · have h := t85 c84
                clear t85 f86
                refine V.pick [0, 1, 2, 4] rfl ?_
                exact jn68 x4_26 x3_26 hx4_26 hx3_26 h
              · have h := f86 c84
                clear t85 f86
                refine V.iload_n (pc := 54) hG dX12_waiting_54 rfl 2 rfl ?_
                refine V.aload_n (pc := 55) hG dX12_waiting_55 rfl 0 rfl ?_
                refine V.iload (pc := 56) hG dX12_waiting_56 4 rfl ?_
                refine V.callVi (pc := 58) (As := [.int (sJ x4_26)]) (stk := [.int (sJ x2_13), .int (sJ x3_26)]) hG (sm_X12_lastUse l Δ hx4_26 hi5 hw h) mY_X12_lastUse kw_2121 kw_2123 kw_140 a_504 (by decide) (q := (RX12, TX12, 49)) rfl rfl ⟨Nat.le_of_ble_eq_true rfl, Nat.le_of_ble_eq_true rfl, Nat.le_of_ble_eq_true rfl, Nat.le_of_ble_eq_true rfl⟩ rfl (Nat.le_of_ble_eq_true rfl) dX12_waiting_58 rfl (fun v87 i88 r89 hv90 hi91 hw92 hq93 => ?_)
                obtain ⟨e97, e98, h⟩ := hq93
                subst e97
                subst e98
                obtain ⟨t95, f96⟩ := h
                refine V.icmp_gt (pc := 61) (tgt := 68) hG hx2_13 hv90 dX12_waiting_61 (by decide) (fun c94 => ?_) (fun c94 => ?_)
                · have h := t95 c94
                  clear t95 f96
                  refine V.pick [0, 1, 2, 4] rfl ?_
                  exact jn68 x4_26 x3_26 hx4_26 hx3_26 h
                · have h := f96 c94
                  clear t95 f96
                  refine V.iconst (pc := 64) hG dX12_waiting_64 ?_
                  refine V.goto (pc := 65) (tgt := 69) hG dX12_waiting_65 (by decide) ?_
                  refine V.pick [0, 1, 2, 4] rfl ?_
                  exact jn69 x4_26 x3_26 1 hx4_26 hx3_26 ((sR_l rfl)) h
        refine V.pick [2, 3, 4, 1, 0] rfl ?_
        exact lp26 n72 0 0 ((sR_l rfl)) ((sR_l rfl)) h
  refine V.pick [2, 1, 0] rfl ?_
  exact lp13 n68 0 0 ((sR_l rfl)) ((sR_l rfl)) h
set_option maxRecDepth 100000 in
set_option maxHeartbeats 4000000 in
theorem sm_X12_hasRing (l : Launch) (Δ : Wd) {i r : MI} {p1 : Int} (hp1 : sR p1) {Q : Int → MI → Prop} (hi : okI i) (hw : Wf r) (h : wp_X12_hasRing p1 i r Q) : Met l yX12_hasRing (Cond.code yX12_hasRing cX12_hasRing 6 (some .boolean) :: gW) (sRm 0 0) (sPc Δ [.ref (sA Δ 504), .int (sJ p1)] i r) (sQi Δ (fun x i' r' => r = r' ∧ Q x i')) 0 0 (sFr Δ) := by
  refine Ct.i (ty := .boolean) (by decide) rfl (Nat.le_of_ble_eq_true rfl) (fun Γ Q0 hG fin => ?_)
  have hG : okG Γ Δ l (sRm 0 0) cX12_hasRing "SchedularyModel" 6 := hG
  show V Γ Δ 542 false i r 0 0 Q0 0 [(0, .ref (sA Δ 504)), (1, .int (sJ p1))] []
  have jn130 : ∀ (x2j130 : Int) (ij130 : MI), sR x2j130 → okI ij130 → s130_X12_hasRing x2j130 ij130 r Q → V Γ Δ 542 false ij130 r 0 0 Q0 130 [(2, .int (sJ x2j130))] [] := by
    intro x2j130 ij130 hx2j130 hij130 h
    refine V.iload_n (pc := 130) hG dX12_hasRing_130 rfl 0 rfl ?_
    obtain ⟨g2, h⟩ := h
    exact fin dX12_hasRing_131 hx2j130 (nar_z g2) hij130 hw ⟨rfl, h⟩
  refine V.iconst (pc := 0) hG dX12_hasRing_0 ?_
  refine V.istore_n (pc := 1) (lv' := [(2, .int (sJ 0)), (0, .ref (sA Δ 504)), (1, .int (sJ p1))]) hG dX12_hasRing_1 rfl (by decide) rfl ?_
  obtain ⟨n64, h⟩ := h
  have lp2 : ∀ (m2 : Nat) (x2_2 : Int) (i_2 : MI), sR x2_2 → okI i_2 → LoopP (b2_X12_hasRing p1 r Q) m2 (x2_2, i_2) → V Γ Δ 542 false i_2 r 0 0 Q0 2 [(0, .ref (sA Δ 504)), (1, .int (sJ p1)), (2, .int (sJ x2_2))] [] := by
    intro m2
    induction m2 with
    | zero => intro x2_2 i_2 hx2_2 hi_2 h; exact h.elim
    | succ m2 ih2 =>
      intro x2_2 i_2 hx2_2 hi_2 h
      have h := LoopP_succ h
      refine V.iload_n (pc := 2) hG dX12_hasRing_2 rfl 2 rfl ?_
      refine V.aload_n (pc := 3) hG dX12_hasRing_3 rfl 0 rfl ?_
      refine V.getI (pc := 4) (ci := 14) (k := 21) (M := 49) (T := TX12) (o := 504) (kz := 21) hG a_504 a_504.n (by decide) hin_X12 rfl (by decide) (by decide) rfl kw_1713 rfl dX12_hasRing_4 ?_
      obtain ⟨t66, f67⟩ := h
      refine V.icmp_ge (pc := 7) (tgt := 23) hG hx2_2 ((hi_2 _ _)) dX12_hasRing_7 (by decide) (fun c65 => ?_) (fun c65 => ?_)
      · have h := t66 c65
        clear t66 f67
        refine V.iconst (pc := 23) hG dX12_hasRing_23 ?_
        refine V.istore_n (pc := 24) (lv' := [(2, .int (sJ 1)), (0, .ref (sA Δ 504)), (1, .int (sJ p1))]) hG dX12_hasRing_24 rfl (by decide) rfl ?_
        refine V.iconst (pc := 25) hG dX12_hasRing_25 ?_
        refine V.istore_n (pc := 26) (lv' := [(3, .int (sJ 0)), (2, .int (sJ 1)), (0, .ref (sA Δ 504)), (1, .int (sJ p1))]) hG dX12_hasRing_26 rfl (by decide) rfl ?_
        obtain ⟨n68, h⟩ := h
        have lp27 : ∀ (m27 : Nat) (x2_27 : Int) (x3_27 : Int) (i_27 : MI), sR x2_27 → sR x3_27 → okI i_27 → LoopP (b27_X12_hasRing p1 r Q) m27 (x2_27, x3_27, i_27) → V Γ Δ 542 false i_27 r 0 0 Q0 27 [(0, .ref (sA Δ 504)), (1, .int (sJ p1)), (2, .int (sJ x2_27)), (3, .int (sJ x3_27))] [] := by
          intro m27
          induction m27 with
          | zero => intro x2_27 x3_27 i_27 hx2_27 hx3_27 hi_27 h; exact h.elim
          | succ m27 ih27 =>
            intro x2_27 x3_27 i_27 hx2_27 hx3_27 hi_27 h
            have h := LoopP_succ h
            refine V.iload_n (pc := 27) hG dX12_hasRing_27 rfl 3 rfl ?_
            refine V.aload_n (pc := 28) hG dX12_hasRing_28 rfl 0 rfl ?_
            refine V.getI (pc := 29) (ci := 14) (k := 21) (M := 49) (T := TX12) (o := 504) (kz := 21) hG a_504 a_504.n (by decide) hin_X12 rfl (by decide) (by decide) rfl kw_1713 rfl dX12_hasRing_29 ?_
            obtain ⟨t70, f71⟩ := h
            refine V.icmp_gt (pc := 32) (tgt := 130) hG hx3_27 ((hi_27 _ _)) dX12_hasRing_32 (by decide) (fun c69 => ?_) (fun c69 => ?_)
            · have h := t70 c69
              clear t70 f71
              refine V.pick [2] rfl ?_
              exact jn130 x2_27 i_27 hx2_27 hi_27 h
            · have h := f71 c69
              clear t70 f71
              refine V.iload_n (pc := 35) hG dX12_hasRing_35 rfl 2 rfl ?_
              obtain ⟨t73, f74⟩ := h
              refine V.if_eq (pc := 36) (tgt := 130) hG hx2_27 dX12_hasRing_36 (by decide) (fun c72 => ?_) (fun c72 => ?_)
              · have h := t73 c72
                clear t73 f74
                refine V.pick [2] rfl ?_
                exact jn130 x2_27 i_27 hx2_27 hi_27 h
              · have h := f74 c72
                clear t73 f74
                refine V.iconst (pc := 39) hG dX12_hasRing_39 ?_
                refine V.istore_n (pc := 40) (lv' := [(2, .int (sJ 0)), (0, .ref (sA Δ 504)), (1, .int (sJ p1)), (3, .int (sJ x3_27))]) hG dX12_hasRing_40 rfl (by decide) rfl ?_
                refine V.iconst (pc := 41) hG dX12_hasRing_41 ?_
                refine V.istore (pc := 42) (lv' := [(4, .int (sJ 0)), (2, .int (sJ 0)), (0, .ref (sA Δ 504)), (1, .int (sJ p1)), (3, .int (sJ x3_27))]) hG dX12_hasRing_42 (by decide) rfl ?_
                obtain ⟨n75, h⟩ := h
                have lp44 : ∀ (m44 : Nat) (x2_44 : Int) (x4_44 : Int) (i_44 : MI), sR x2_44 → sR x4_44 → okI i_44 → LoopP (b44_X12_hasRing p1 x3_27 r Q (LoopP (b27_X12_hasRing p1 r Q) m27)) m44 (x2_44, x4_44, i_44) → V Γ Δ 542 false i_44 r 0 0 Q0 44 [(0, .ref (sA Δ 504)), (1, .int (sJ p1)), (2, .int (sJ x2_44)), (3, .int (sJ x3_27)), (4, .int (sJ x4_44))] [] := by
                  intro m44
                  induction m44 with
                  | zero => intro x2_44 x4_44 i_44 hx2_44 hx4_44 hi_44 h; exact h.elim
                  | succ m44 ih44 =>
                    intro x2_44 x4_44 i_44 hx2_44 hx4_44 hi_44 h
                    have h := LoopP_succ h
                    have jn118 : ∀ (x2j118 : Int) (x4j118 : Int) (ij118 : MI), sR x2j118 → sR x4j118 → okI ij118 → s118_X12_hasRing p1 x2j118 x3_27 x4j118 ij118 r Q (LoopP (b27_X12_hasRing p1 r Q) m27) (LoopP (b44_X12_hasRing p1 x3_27 r Q (LoopP (b27_X12_hasRing p1 r Q) m27)) m44) → V Γ Δ 542 false ij118 r 0 0 Q0 118 [(0, .ref (sA Δ 504)), (1, .int (sJ p1)), (2, .int (sJ x2j118)), (3, .int (sJ x3_27)), (4, .int (sJ x4j118))] [] := by
                      intro x2j118 x4j118 ij118 hx2j118 hx4j118 hij118 h
                      refine V.iinc (pc := 118) (lv' := [(4, .int (sJ (wr (x4j118 + 1)))), (0, .ref (sA Δ 504)), (1, .int (sJ p1)), (2, .int (sJ x2j118)), (3, .int (sJ x3_27))]) hG dX12_hasRing_118 4 rfl (by decide) rfl ?_
                      refine V.goto (pc := 121) (tgt := 44) hG dX12_hasRing_121 (by decide) ?_
                      refine V.pick [1, 2, 3, 4, 0] rfl ?_
                      exact ih44 x2j118 (wr (x4j118 + 1)) ij118 hx2j118 ((sR_wr _)) hij118 h
                    refine V.iload (pc := 44) hG dX12_hasRing_44 4 rfl ?_
                    refine V.aload_n (pc := 46) hG dX12_hasRing_46 rfl 0 rfl ?_
                    refine V.getI (pc := 47) (ci := 14) (k := 30) (M := 49) (T := TX12) (o := 504) (kz := 30) hG a_504 a_504.n (by decide) hin_X12 rfl (by decide) (by decide) rfl kw_1722 rfl dX12_hasRing_47 ?_
                    obtain ⟨t77, f78⟩ := h
                    refine V.icmp_ge (pc := 50) (tgt := 124) hG hx4_44 ((hi_44 _ _)) dX12_hasRing_50 (by decide) (fun c76 => ?_) (fun c76 => ?_)
                    · have h := t77 c76
                      clear t77 f78
                      refine V.iinc (pc := 124) (lv' := [(3, .int (sJ (wr (x3_27 + 1)))), (0, .ref (sA Δ 504)), (1, .int (sJ p1)), (2, .int (sJ x2_44)), (4, .int (sJ x4_44))]) hG dX12_hasRing_124 3 rfl (by decide) rfl ?_
                      refine V.goto (pc := 127) (tgt := 27) hG dX12_hasRing_127 (by decide) ?_
                      refine V.pick [1, 2, 3, 0] rfl ?_
                      exact ih27 x2_44 (wr (x3_27 + 1)) i_44 hx2_44 ((sR_wr _)) hi_44 h
                    · have h := f78 c76
                      clear t77 f78
                      refine V.aload_n (pc := 53) hG dX12_hasRing_53 rfl 0 rfl ?_
                      refine V.getR (x := 533) (pc := 54) (ci := 14) (k := 41) (M := 49) (T := TX12) (o := 504) (kz := 41) hG a_504 a_504.n (by decide) hin_X12 rfl (by decide) (by decide) rfl kw_1733 rfl ((hw).1 (504, 41, 533) (by decide)) (by decide) dX12_hasRing_54 ?_
                      refine V.aload_n (pc := 57) hG dX12_hasRing_57 rfl 0 rfl ?_
                      refine V.getR (x := 523) (pc := 58) (ci := 14) (k := 31) (M := 49) (T := TX12) (o := 504) (kz := 31) hG a_504 a_504.n (by decide) hin_X12 rfl (by decide) (by decide) rfl kw_1723 rfl ((hw).1 (504, 31, 523) (by decide)) (by decide) dX12_hasRing_58 ?_
                      refine V.iload (pc := 61) hG dX12_hasRing_61 4 rfl ?_
                      obtain ⟨g79, h⟩ := h
                      refine V.iald (pc := 63) (z := 20000) (o := 523) hG a_523 a_523.n hx4_44 g79 dX12_hasRing_63 ?_
                      obtain ⟨g80, h⟩ := h
                      refine V.iald (pc := 64) (z := 96) (o := 533) hG a_533 a_533.n ((hi_44 _ _)) g80 dX12_hasRing_64 ?_
                      refine V.aload_n (pc := 65) hG dX12_hasRing_65 rfl 0 rfl ?_
                      refine V.getR (x := 526) (pc := 66) (ci := 14) (k := 34) (M := 49) (T := TX12) (o := 504) (kz := 34) hG a_504 a_504.n (by decide) hin_X12 rfl (by decide) (by decide) rfl kw_1726 rfl ((hw).1 (504, 34, 526) (by decide)) (by decide) dX12_hasRing_66 ?_
                      refine V.iload (pc := 69) hG dX12_hasRing_69 4 rfl ?_
                      obtain ⟨g81, h⟩ := h
                      refine V.iald (pc := 71) (z := 20000) (o := 526) hG a_526 a_526.n hx4_44 g81 dX12_hasRing_71 ?_
                      refine V.iadd (pc := 72) hG dX12_hasRing_72 ?_
                      refine V.iload_n (pc := 73) hG dX12_hasRing_73 rfl 1 rfl ?_
                      refine V.aload_n (pc := 74) hG dX12_hasRing_74 rfl 0 rfl ?_
                      refine V.getR (x := 525) (pc := 75) (ci := 14) (k := 33) (M := 49) (T := TX12) (o := 504) (kz := 33) hG a_504 a_504.n (by decide) hin_X12 rfl (by decide) (by decide) rfl kw_1725 rfl ((hw).1 (504, 33, 525) (by decide)) (by decide) dX12_hasRing_75 ?_
                      refine V.iload (pc := 78) hG dX12_hasRing_78 4 rfl ?_
                      obtain ⟨g82, h⟩ := h
                      refine V.iald (pc := 80) (z := 20000) (o := 525) hG a_525 a_525.n hx4_44 g82 dX12_hasRing_80 ?_
                      refine V.imul (pc := 81) hG dX12_hasRing_81 ?_
                      refine V.isub (pc := 82) hG dX12_hasRing_82 ?_
                      refine V.istore (pc := 83) (lv' := [(5, .int (sJ (wr (wr (i_44 533 (i_44 523 x4_44) + i_44 526 x4_44) - wr (p1 * i_44 525 x4_44))))), (0, .ref (sA Δ 504)), (1, .int (sJ p1)), (2, .int (sJ x2_44)), (3, .int (sJ x3_27)), (4, .int (sJ x4_44))]) hG dX12_hasRing_83 (by decide) rfl ?_
                      refine V.iload (pc := 85) hG dX12_hasRing_85 0 rfl ?_
                      refine V.aload_n (pc := 87) hG dX12_hasRing_87 rfl 1 rfl ?_
                      refine V.getR (x := 533) (pc := 88) (ci := 14) (k := 41) (M := 49) (T := TX12) (o := 504) (kz := 41) hG a_504 a_504.n (by decide) hin_X12 rfl (by decide) (by decide) rfl kw_1733 rfl ((hw).1 (504, 41, 533) (by decide)) (by decide) dX12_hasRing_88 ?_
                      refine V.aload_n (pc := 91) hG dX12_hasRing_91 rfl 1 rfl ?_
                      refine V.getR (x := 524) (pc := 92) (ci := 14) (k := 32) (M := 49) (T := TX12) (o := 504) (kz := 32) hG a_504 a_504.n (by decide) hin_X12 rfl (by decide) (by decide) rfl kw_1724 rfl ((hw).1 (504, 32, 524) (by decide)) (by decide) dX12_hasRing_92 ?_
                      refine V.iload (pc := 95) hG dX12_hasRing_95 5 rfl ?_
                      obtain ⟨g83, h⟩ := h
                      refine V.iald (pc := 97) (z := 20000) (o := 524) hG a_524 a_524.n hx4_44 g83 dX12_hasRing_97 ?_
                      obtain ⟨g84, h⟩ := h
                      refine V.iald (pc := 98) (z := 96) (o := 533) hG a_533 a_533.n ((hi_44 _ _)) g84 dX12_hasRing_98 ?_
                      obtain ⟨t86, f87⟩ := h
                      refine V.icmp_le (pc := 99) (tgt := 118) hG ((sR_wr _)) ((hi_44 _ _)) dX12_hasRing_99 (by decide) (fun c85 => ?_) (fun c85 => ?_)
                      · have h := t86 c85
                        clear t86 f87
                        refine V.pick [1, 2, 3, 4, 5] rfl ?_
                        exact jn118 x2_44 x4_44 i_44 hx2_44 hx4_44 hi_44 h
                      · have h := f87 c85
                        clear t86 f87
                        refine V.aload_n (pc := 102) hG dX12_hasRing_102 rfl 1 rfl ?_
                        refine V.getR (x := 533) (pc := 103) (ci := 14) (k := 41) (M := 49) (T := TX12) (o := 504) (kz := 41) hG a_504 a_504.n (by decide) hin_X12 rfl (by decide) (by decide) rfl kw_1733 rfl ((hw).1 (504, 41, 533) (by decide)) (by decide) dX12_hasRing_103 ?_
                        refine V.aload_n (pc := 106) hG dX12_hasRing_106 rfl 1 rfl ?_
                        refine V.getR (x := 524) (pc := 107) (ci := 14) (k := 32) (M := 49) (T := TX12) (o := 504) (kz := 32) hG a_504 a_504.n (by decide) hin_X12 rfl (by decide) (by decide) rfl kw_1724 rfl ((hw).1 (504, 32, 524) (by decide)) (by decide) dX12_hasRing_107 ?_
                        refine V.iload (pc := 110) hG dX12_hasRing_110 5 rfl ?_
                        obtain ⟨g88, h⟩ := h
                        refine V.iald (pc := 112) (z := 20000) (o := 524) hG a_524 a_524.n hx4_44 g88 dX12_hasRing_112 ?_
                        refine V.iload (pc := 113) hG dX12_hasRing_113 0 rfl ?_
                        obtain ⟨g89, h⟩ := h
                        refine V.iast (pc := 115) (z := 96) (o := 533) hG a_533 a_533.n ((hi_44 _ _)) g89 dX12_hasRing_115 ?_
                        refine V.iconst (pc := 116) hG dX12_hasRing_116 ?_
                        refine V.istore_n (pc := 117) (lv' := [(2, .int (sJ 1)), (5, .int (sJ (wr (wr (i_44 533 (i_44 523 x4_44) + i_44 526 x4_44) - wr (p1 * i_44 525 x4_44))))), (0, .ref (sA Δ 504)), (1, .int (sJ p1)), (3, .int (sJ x3_27)), (4, .int (sJ x4_44))]) hG dX12_hasRing_117 rfl (by decide) rfl ?_
                        refine V.pick [2, 3, 0, 4, 5] rfl ?_
                        exact jn118 1 x4_44 (st i_44 533 (i_44 524 x4_44) (wr (wr (i_44 533 (i_44 523 x4_44) + i_44 526 x4_44) - wr (p1 * i_44 525 x4_44)))) ((sR_l rfl)) hx4_44 ((okI_st hi_44 ((sR_wr _)))) h
                refine V.pick [2, 3, 1, 4, 0] rfl ?_
                exact lp44 n75 0 0 i_27 ((sR_l rfl)) ((sR_l rfl)) hi_27 h
        refine V.pick [2, 3, 1, 0] rfl ?_
        exact lp27 n68 1 0 i_2 ((sR_l rfl)) ((sR_l rfl)) hi_2 h
      · have h := f67 c65
        clear t66 f67
        refine V.aload_n (pc := 10) hG dX12_hasRing_10 rfl 0 rfl ?_
        refine V.getR (x := 533) (pc := 11) (ci := 14) (k := 41) (M := 49) (T := TX12) (o := 504) (kz := 41) hG a_504 a_504.n (by decide) hin_X12 rfl (by decide) (by decide) rfl kw_1733 rfl ((hw).1 (504, 41, 533) (by decide)) (by decide) dX12_hasRing_11 ?_
        refine V.iload_n (pc := 14) hG dX12_hasRing_14 rfl 2 rfl ?_
        refine V.iconst (pc := 15) hG dX12_hasRing_15 ?_
        obtain ⟨g90, h⟩ := h
        refine V.iast (pc := 16) (z := 96) (o := 533) hG a_533 a_533.n hx2_2 g90 dX12_hasRing_16 ?_
        refine V.iinc (pc := 17) (lv' := [(2, .int (sJ (wr (x2_2 + 1)))), (0, .ref (sA Δ 504)), (1, .int (sJ p1))]) hG dX12_hasRing_17 2 rfl (by decide) rfl ?_
        refine V.goto (pc := 20) (tgt := 2) hG dX12_hasRing_20 (by decide) ?_
        refine V.pick [1, 2, 0] rfl ?_
        exact ih2 (wr (x2_2 + 1)) (st i_2 533 x2_2 0) ((sR_wr _)) ((okI_st hi_2 ((sR_l rfl)))) h
  refine V.pick [1, 2, 0] rfl ?_
  exact lp2 n64 0 i ((sR_l rfl)) hi h
