set_option maxRecDepth 100000 in
set_option maxHeartbeats 4000000 in
theorem sm_X11_nodes (l : Launch) (Δ : Wd) {i r : MI}   {Q : Int → MI → MI → Prop} (hi : okI i) (hw : Wf r) (h : wp_X11_nodes  i r Q) : Met l yX11_nodes (Cond.code yX11_nodes cX11_nodes 1 (some .int) :: gW) (sRm 6 145) (sPc Δ [.ref (sA Δ 0)] i r) (sQi Δ (Q)) 0 0 (sFr Δ) := by
  refine Ct.i (ty := .int) (by decide) rfl (Nat.le_of_ble_eq_true rfl) (fun Γ Q0 hG fin => ?_)
  have hG : okG Γ Δ l (sRm 6 145) cX11_nodes "Schedulary" 1 := hG
  show V Γ Δ 504 false i r 0 0 Q0 0 [(0, .ref (sA Δ 0))] []
  refine V.aload_n (pc := 0) hG dX11_nodes_0 rfl 0 rfl ?_
  refine V.iconst (pc := 1) hG dX11_nodes_1 ?_
  refine V.callVv (pc := 2) (As := [.int (sJ 1)]) (stk := []) hG (sm_X11_prepare l Δ ((sR_l rfl)) hi hw h) mY_X11_prepare kw_621 kw_623 kw_14 a_0 (by decide) (q := (RX11, TX11, 11)) rfl rfl ⟨Nat.le_of_ble_eq_true rfl, Nat.le_of_ble_eq_true rfl, Nat.le_of_ble_eq_true rfl, Nat.le_of_ble_eq_true rfl⟩ rfl (Nat.le_of_ble_eq_true rfl) dX11_nodes_2 rfl (fun i2 r3 hi5 hw6 hq7 => ?_)
  have h := hq7
  refine V.aload_n (pc := 5) hG dX11_nodes_5 rfl 0 rfl ?_
  refine V.getR (x := 67) (pc := 6) (ci := 13) (k := 3) (M := 11) (T := TX11) (o := 0) (kz := 3) hG a_0 a_0.n (by decide) hin_X11 rfl (by decide) (by decide) rfl kw_526 rfl ((hw6).1 (0, 3, 67) (by decide)) (by decide) dX11_nodes_6 ?_
  refine V.getIN (pc := 9) (ci := 2) (k := 4) (M := 5) (T := TX0) (o := 67) (kz := 4) hG a_67 a_67.n (by decide) hin_X0 rfl (by decide) (by decide) rfl kw_368 rfl dX11_nodes_9 ?_
  exact fin dX11_nodes_12 ((hi5 _ _)) rfl hi5 hw6 h
set_option maxRecDepth 100000 in
set_option maxHeartbeats 4000000 in
theorem sm_X11_checkNode (l : Launch) (Δ : Wd) {i r : MI} {p1 : Int} (hp1 : sR p1) {Q : Prop} {X : String → Prop} (hst : l.stackTraces = false) (hi : okI i) (hw : Wf r) (h : wp_X11_checkNode p1 i r Q X) : vx_Met l yX11_checkNode (Cond.code yX11_checkNode cX11_checkNode 2 none :: gW) (sRx 6 82 1 6) (sPc Δ [.ref (sA Δ 0), .int (sJ p1)] i r) (sQv Δ (fun i' r' => i = i' ∧ r = r' ∧ Q)) (sX Δ (fun E i' r' => i = i' ∧ r = r' ∧ X E)) 1 6 (sFr Δ) := by
  refine Cx.v (by decide) rfl (Nat.le_of_ble_eq_true rfl) hst (by decide) (by decide) (fun Γ Q0 hG fin xout xthr => ?_)
  have hG : okG Γ Δ l (sRx 6 82 1 6) cX11_checkNode "Schedulary" 2 := hG
  show V Γ Δ 504 false i r 0 0 Q0 0 [(0, .ref (sA Δ 0)), (1, .int (sJ p1))] []
  have jn15 : s15_X11_checkNode i r Q X → V Γ Δ 504 false i r 0 0 Q0 15 [] [] := by
    intro h
    exact xthr ⟨134, 386, 138, "no such node", by decide, kw_1204, kw_117, by decide, .inl th_138, dX11_checkNode_15, dX11_checkNode_18, Or.inr ⟨dX11_checkNode_19, dX11_checkNode_22, dX11_checkNode_25⟩⟩ (by decide) (by decide) hi hw ⟨rfl, rfl, h⟩
  refine V.iload_n (pc := 0) hG dX11_checkNode_0 rfl 1 rfl ?_
  obtain ⟨t2, f3⟩ := h
  refine V.if_lt (pc := 1) (tgt := 15) hG hp1 dX11_checkNode_1 (by decide) (fun c1 => ?_) (fun c1 => ?_)
  · have h := t2 c1
    clear t2 f3
    refine V.pick [] rfl ?_
    exact jn15 h
  · have h := f3 c1
    clear t2 f3
    refine V.iload_n (pc := 4) hG dX11_checkNode_4 rfl 1 rfl ?_
    refine V.aload_n (pc := 5) hG dX11_checkNode_5 rfl 0 rfl ?_
    refine V.getR (x := 67) (pc := 6) (ci := 13) (k := 3) (M := 11) (T := TX11) (o := 0) (kz := 3) hG a_0 a_0.n (by decide) hin_X11 rfl (by decide) (by decide) rfl kw_526 rfl ((hw).1 (0, 3, 67) (by decide)) (by decide) dX11_checkNode_6 ?_
    refine V.getIN (pc := 9) (ci := 2) (k := 4) (M := 5) (T := TX0) (o := 67) (kz := 4) hG a_67 a_67.n (by decide) hin_X0 rfl (by decide) (by decide) rfl kw_368 rfl dX11_checkNode_9 ?_
    obtain ⟨t5, f6⟩ := h
    refine V.icmp_lt (pc := 12) (tgt := 26) hG hp1 ((hi _ _)) dX11_checkNode_12 (by decide) (fun c4 => ?_) (fun c4 => ?_)
    · have h := t5 c4
      clear t5 f6
      exact fin dX11_checkNode_26 (by decide) (by decide) hi hw ⟨rfl, rfl, h⟩
    · have h := f6 c4
      clear t5 f6
      refine V.pick [] rfl ?_
      exact jn15 h
set_option maxRecDepth 100000 in
set_option maxHeartbeats 4000000 in
theorem sm_J3_checkIndex_8e157 (l : Launch) (Δ : Wd) {i r : MI} {p0 : Int} {p1 : Int} {w2 : Value} (hp0 : sR p0) (hp1 : sR p1) (hw2 : w2.category = 1) {Q : Int → Prop} (hi : okI i) (hw : Wf r) (h : wp_J3_checkIndex_8e157 p0 p1 i r Q) : Met l yJ3_checkIndex_8e157 (Cond.code yJ3_checkIndex_8e157 cJ3_checkIndex_8e157 3 (some .int) :: gW) (sRm 0 0) (sPc Δ [.int (sJ p0), .int (sJ p1), w2] i r) (sQi Δ (fun x i' r' => i = i' ∧ r = r' ∧ Q x)) 0 0 (sFr Δ) := by
  refine Ct.i (ty := .int) (by decide) rfl (by simp only [lg_sl, List.flatMap_cons, List.flatMap_nil, hw2]; exact Nat.le_of_ble_eq_true rfl) (fun Γ Q0 hG fin => ?_)
  have hG : okG Γ Δ l (sRm 0 0) cJ3_checkIndex_8e157 "jdk/internal/util/Preconditions" 3 := hG
  show V Γ Δ 504 false i r 0 0 Q0 0 [(0, .int (sJ p0)), (1, .int (sJ p1)), (2, w2)] []
  have jn9 : s9_J3_checkIndex_8e157 p0 p1 i r Q → V Γ Δ 504 false i r 0 0 Q0 9 [(0, .int (sJ p0)), (1, .int (sJ p1)), (2, w2)] [] := by
    intro h
    exact h.elim
  refine V.iload_n (pc := 0) hG dJ3_checkIndex_8e157_0 rfl 0 rfl ?_
  obtain ⟨t2, f3⟩ := h
  refine V.if_lt (pc := 1) (tgt := 9) hG hp0 dJ3_checkIndex_8e157_1 (by decide) (fun c1 => ?_) (fun c1 => ?_)
  · have h := t2 c1
    clear t2 f3
    exact jn9 h
  · have h := f3 c1
    clear t2 f3
    refine V.iload_n (pc := 4) hG dJ3_checkIndex_8e157_4 rfl 0 rfl ?_
    refine V.iload_n (pc := 5) hG dJ3_checkIndex_8e157_5 rfl 1 rfl ?_
    obtain ⟨t5, f6⟩ := h
    refine V.icmp_lt (pc := 6) (tgt := 16) hG hp0 hp1 dJ3_checkIndex_8e157_6 (by decide) (fun c4 => ?_) (fun c4 => ?_)
    · have h := t5 c4
      clear t5 f6
      refine V.iload_n (pc := 16) hG dJ3_checkIndex_8e157_16 rfl 0 rfl ?_
      exact fin dJ3_checkIndex_8e157_17 hp0 rfl hi hw ⟨rfl, rfl, h⟩
    · have h := f6 c4
      clear t5 f6
      exact jn9 h
set_option maxRecDepth 100000 in
set_option maxHeartbeats 4000000 in
theorem sm_J0_checkIndex_df160 (l : Launch) (Δ : Wd) {i r : MI} {p0 : Int} {p1 : Int} (hp0 : sR p0) (hp1 : sR p1) {Q : Prop} (hi : okI i) (hw : Wf r) (h : wp_J0_checkIndex_df160 p0 p1 i r Q) : Met l yJ0_checkIndex_df160 (Cond.code yJ0_checkIndex_df160 cJ0_checkIndex_df160 2 none :: gW) (sRm 1 22) (sPc Δ [.int (sJ p0), .int (sJ p1)] i r) (sQv Δ (fun i' r' => i = i' ∧ r = r' ∧ Q)) 0 0 (sFr Δ) := by
  refine Ct.v (by decide) rfl (Nat.le_of_ble_eq_true rfl) (fun Γ Q0 hG fin => ?_)
  have hG : okG Γ Δ l (sRm 1 22) cJ0_checkIndex_df160 "java/lang/String" 2 := hG
  show V Γ Δ 504 false i r 0 0 Q0 0 [(0, .int (sJ p0)), (1, .int (sJ p1))] []
  refine V.iload_n (pc := 0) hG dJ0_checkIndex_df160_0 rfl 0 rfl ?_
  refine V.iload_n (pc := 1) hG dJ0_checkIndex_df160_1 rfl 1 rfl ?_
  refine V.sfmt (pc := 2) hG kw_1065 dJ0_checkIndex_df160_2 (fun w1 hw1 => ?_)
  refine V.callSi (pc := 5) (As := [.int (sJ p0), .int (sJ p1), w1]) (stk := []) hG (sm_J3_checkIndex_8e157 l Δ hp0 hp1 hw1 hi hw h) mY_J3_checkIndex_8e157 kw_1358 kw_1359 ⟨Nat.le_of_ble_eq_true rfl, Nat.le_of_ble_eq_true rfl, Nat.le_of_ble_eq_true rfl, Nat.le_of_ble_eq_true rfl⟩ rfl (Nat.le_of_ble_eq_true rfl) dJ0_checkIndex_df160_5 rfl (fun v2 i3 r4 hv5 hi6 hw7 hq8 => ?_)
  obtain ⟨e9, e10, h⟩ := hq8
  subst e9
  subst e10
  refine V.pop (pc := 8) hG dJ0_checkIndex_df160_8 rfl ?_
  exact fin dJ0_checkIndex_df160_9 hi hw ⟨rfl, rfl, h⟩
set_option maxRecDepth 100000 in
set_option maxHeartbeats 4000000 in
theorem sm_J1_charAt_3b067 (l : Launch) (Δ : Wd) {i r : MI} {k0 : Nat} {p1 : Int} (hk0 : k0 < 13) (hp1 : sR p1) {Q : Int → Prop} (hi : okI i) (hw : Wf r) (h : wp_J1_charAt_3b067 k0 p1 i r Q) : Met l yJ1_charAt_3b067 (Cond.code yJ1_charAt_3b067 cJ1_charAt_3b067 2 (some .char) :: gW) (sRm 2 43) (sPc Δ [.ref (aV Δ k0), .int (sJ p1)] i r) (sQi Δ (fun x i' r' => i = i' ∧ r = r' ∧ Q x)) 0 0 (sFr Δ) := by
  refine Ct.i (ty := .char) (by decide) rfl (Nat.le_of_ble_eq_true rfl) (fun Γ Q0 hG fin => ?_)
  have hG : okG Γ Δ l (sRm 2 43) cJ1_charAt_3b067 "java/lang/StringLatin1" 2 := hG
  show V Γ Δ 504 false i r 0 0 Q0 0 [(0, .ref (aV Δ k0)), (1, .int (sJ p1))] []
  refine V.iload_n (pc := 0) hG dJ1_charAt_3b067_0 rfl 1 rfl ?_
  refine V.aload_n (pc := 1) hG dJ1_charAt_3b067_1 rfl 0 rfl ?_
  refine V.slen (pc := 2) (k := k0) hG hk0 dJ1_charAt_3b067_2 ?_
  refine V.callSv (pc := 3) (As := [.int (sJ p1), .int (sJ (lenS k0 : Int))]) (stk := []) hG (sm_J0_checkIndex_df160 l Δ hp1 ((sR_len hk0)) hi hw h) mY_J0_checkIndex_df160 kw_1355 kw_1356 ⟨Nat.le_of_ble_eq_true rfl, Nat.le_of_ble_eq_true rfl, Nat.le_of_ble_eq_true rfl, Nat.le_of_ble_eq_true rfl⟩ rfl (Nat.le_of_ble_eq_true rfl) dJ1_charAt_3b067_3 rfl (fun i2 r3 hi5 hw6 hq7 => ?_)
  obtain ⟨e10, e11, h⟩ := hq7
  subst e10
  subst e11
  refine V.aload_n (pc := 6) hG dJ1_charAt_3b067_6 rfl 0 rfl ?_
  refine V.iload_n (pc := 7) hG dJ1_charAt_3b067_7 rfl 1 rfl ?_
  obtain ⟨g8, h⟩ := h
  refine V.sbald (pc := 8) (k := k0) hG hk0 hp1 g8 dJ1_charAt_3b067_8 ?_
  refine V.sipush (pc := 9) hG dJ1_charAt_3b067_9 (by decide) ?_
  refine V.iand (pc := 12) hG dJ1_charAt_3b067_12 ?_
  refine V.i2c (pc := 13) hG ((sR_and _ _)) dJ1_charAt_3b067_13 ?_
  obtain ⟨g9, h⟩ := h
  exact fin dJ1_charAt_3b067_14 sR_c (nar_c g9) hi hw ⟨rfl, rfl, h⟩
set_option maxRecDepth 100000 in
set_option maxHeartbeats 4000000 in
theorem sm_J0_charAt_5068e (l : Launch) (Δ : Wd) {i r : MI} {k0 : Nat} {p1 : Int} (hk0 : k0 < 13) (hp1 : sR p1) {Q : Int → Prop} (hi : okI i) (hw : Wf r) (h : wp_J0_charAt_5068e k0 p1 i r Q) : Met l yJ0_charAt_5068e (Cond.code yJ0_charAt_5068e cJ0_charAt_5068e 2 (some .char) :: gW) (sRm 3 64) (sPc Δ [.ref (aK Δ k0), .int (sJ p1)] i r) (sQi Δ (fun x i' r' => i = i' ∧ r = r' ∧ Q x)) 0 0 (sFr Δ) := by
  refine Ct.i (ty := .char) (by decide) rfl (Nat.le_of_ble_eq_true rfl) (fun Γ Q0 hG fin => ?_)
  have hG : okG Γ Δ l (sRm 3 64) cJ0_charAt_5068e "java/lang/String" 2 := hG
  show V Γ Δ 504 false i r 0 0 Q0 0 [(0, .ref (aK Δ k0)), (1, .int (sJ p1))] []
  refine V.aload_n (pc := 0) hG dJ0_charAt_5068e_0 rfl 0 rfl ?_
  refine V.callVSi (pc := 1) (As := []) (stk := []) hG (sm_J0_isLatin1_aae02 l Δ hk0 hi hw h) mY_J0_isLatin1_aae02 kw_1022 kw_1023 kw_1024 hk0 rfl ⟨Nat.le_of_ble_eq_true rfl, Nat.le_of_ble_eq_true rfl, Nat.le_of_ble_eq_true rfl, Nat.le_of_ble_eq_true rfl⟩ rfl (Nat.le_of_ble_eq_true rfl) dJ0_charAt_5068e_1 rfl (fun v1 i2 r3 hv4 hi5 hw6 hq7 => ?_)
  obtain ⟨e21, e22, h⟩ := hq7
  subst e21
  subst e22
  obtain ⟨t9, f10⟩ := h
  refine V.if_eq (pc := 4) (tgt := 16) hG hv4 dJ0_charAt_5068e_4 (by decide) (fun c8 => ?_) (fun c8 => ?_)
  · have h := t9 c8
    clear t9 f10
    refine V.aload_n (pc := 16) hG dJ0_charAt_5068e_16 rfl 0 rfl ?_
    refine V.sval (pc := 17) (k := k0) hG hk0 kw_1455 dJ0_charAt_5068e_17 ?_
    refine V.iload_n (pc := 20) hG dJ0_charAt_5068e_20 rfl 1 rfl ?_
    exact h.elim
  · have h := f10 c8
    clear t9 f10
    refine V.aload_n (pc := 7) hG dJ0_charAt_5068e_7 rfl 0 rfl ?_
    refine V.sval (pc := 8) (k := k0) hG hk0 kw_1455 dJ0_charAt_5068e_8 ?_
    refine V.iload_n (pc := 11) hG dJ0_charAt_5068e_11 rfl 1 rfl ?_
    refine V.callSi (pc := 12) (As := [.ref (aV Δ k0), .int (sJ p1)]) (stk := []) hG (sm_J1_charAt_3b067 l Δ hk0 hp1 hi hw h) mY_J1_charAt_3b067 kw_1352 kw_1353 ⟨Nat.le_of_ble_eq_true rfl, Nat.le_of_ble_eq_true rfl, Nat.le_of_ble_eq_true rfl, Nat.le_of_ble_eq_true rfl⟩ rfl (Nat.le_of_ble_eq_true rfl) dJ0_charAt_5068e_12 rfl (fun v11 i12 r13 hv14 hi15 hw16 hq17 => ?_)
    obtain ⟨e19, e20, h⟩ := hq17
    subst e19
    subst e20
    obtain ⟨g18, h⟩ := h
    exact fin dJ0_charAt_5068e_15 hv14 (nar_c g18) hi hw ⟨rfl, rfl, h⟩
set_option maxRecDepth 100000 in
set_option maxHeartbeats 4000000 in
theorem sm_X11_kindOf (l : Launch) (Δ : Wd) {i r : MI} {p1 : Int} (hp1 : sR p1) {Q : Int → MI → MI → Prop} {X : String → MI → MI → Prop} (hst : l.stackTraces = false) (hi : okI i) (hw : Wf r) (h : wp_X11_kindOf p1 i r Q X) : vx_Met l yX11_kindOf (Cond.code yX11_kindOf cX11_kindOf 2 (some .char) :: gW) (sRx 7 145 1 6) (sPc Δ [.ref (sA Δ 0), .int (sJ p1)] i r) (sQi Δ (Q)) (sX Δ (X)) 1 6 (sFr Δ) := by
  refine Cx.i (ty := .char) (by decide) rfl (Nat.le_of_ble_eq_true rfl) hst (by decide) (by decide) (fun Γ Q0 hG fin xout xthr => ?_)
  have hG : okG Γ Δ l (sRx 7 145 1 6) cX11_kindOf "Schedulary" 2 := hG
  show V Γ Δ 504 false i r 0 0 Q0 0 [(0, .ref (sA Δ 0)), (1, .int (sJ p1))] []
  refine V.aload_n (pc := 0) hG dX11_kindOf_0 rfl 0 rfl ?_
  refine V.iconst (pc := 1) hG dX11_kindOf_1 ?_
  refine V.callVv (pc := 2) (As := [.int (sJ 1)]) (stk := []) hG (sm_X11_prepare l Δ ((sR_l rfl)) hi hw h) mY_X11_prepare kw_621 kw_623 kw_14 a_0 (by decide) (q := (RX11, TX11, 11)) rfl rfl ⟨Nat.le_of_ble_eq_true rfl, Nat.le_of_ble_eq_true rfl, Nat.le_of_ble_eq_true rfl, Nat.le_of_ble_eq_true rfl⟩ rfl (Nat.le_of_ble_eq_true rfl) dX11_kindOf_2 rfl (fun i2 r3 hi5 hw6 hq7 => ?_)
  have h := hq7
  refine V.aload_n (pc := 5) hG dX11_kindOf_5 rfl 0 rfl ?_
  refine V.iload_n (pc := 6) hG dX11_kindOf_6 rfl 1 rfl ?_
  refine V.xcallVv (pc := 7) (As := [.int (sJ p1)]) (stk := []) hG (sm_X11_checkNode l Δ hp1 hst hi5 hw6 h) mY_X11_checkNode kw_1343 kw_1345 kw_97 a_0 (by decide) (q := (RX11, TX11, 11)) rfl rfl ⟨Nat.le_of_ble_eq_true rfl, Nat.le_of_ble_eq_true rfl, Nat.le_of_ble_eq_true rfl, Nat.le_of_ble_eq_true rfl⟩ rfl (Nat.le_of_ble_eq_true rfl) dX11_kindOf_7 rfl (fun z37 z38 z39 z40 z41 z42 => ?_) (fun i9 r10 hi12 hw13 hq14 => ?_)
  · obtain ⟨e43, e44, h⟩ := z42
    subst e43
    subst e44
    exact xout (by decide) (by decide) hi5 hw6 h
  · obtain ⟨e45, e46, h⟩ := hq14
    subst e45
    subst e46
    refine V.ldcS (pc := 10) (k := 3) (tx := "amgMN<>") hG (by decide) dX11_kindOf_10 ?_
    refine V.aload_n (pc := 12) hG dX11_kindOf_12 rfl 0 rfl ?_
    refine V.getR (x := 67) (pc := 13) (ci := 13) (k := 3) (M := 11) (T := TX11) (o := 0) (kz := 3) hG a_0 a_0.n (by decide) hin_X11 rfl (by decide) (by decide) rfl kw_526 rfl ((hw6).1 (0, 3, 67) (by decide)) (by decide) dX11_kindOf_13 ?_
    refine V.getRN (x := 68) (pc := 16) (ci := 2) (k := 0) (M := 5) (T := TX0) (o := 67) (kz := 0) hG a_67 a_67.n (by decide) hin_X0 rfl (by decide) (by decide) rfl kw_354 rfl ((hw6).1 (67, 0, 68) (by decide)) (by decide) dX11_kindOf_16 ?_
    refine V.iload_n (pc := 19) hG dX11_kindOf_19 rfl 1 rfl ?_
    obtain ⟨g26, h⟩ := h
    refine V.aald (pc := 20) 6 (z := 96) (o := 68) (x := p1) (y := 72 + p1) hG a_68 a_68.n (by decide) hp1 g26 (hw6.2.1 (68, 96, 72) (by decide) _ g26.1 g26.2) (by omega) dX11_kindOf_20 ?_
    refine V.getIN (pc := 21) (ci := 5) (k := 3) (M := 13) (T := TX3) (o := 72 + p1) (kz := 3) hG (node_o g26.1 g26.2) ((node_o g26.1 g26.2)).n (by decide) hin_X3 rfl (by decide) (by decide) rfl kw_293 rfl dX11_kindOf_21 ?_
    refine V.callVSi (pc := 24) (As := [.int (sJ (i2 (72 + p1) 3))]) (stk := []) hG (sm_J0_charAt_5068e l Δ (by decide) ((hi5 _ _)) hi5 hw6 h) mY_J0_charAt_5068e kw_1348 kw_1349 kw_1350 (by decide) rfl ⟨Nat.le_of_ble_eq_true rfl, Nat.le_of_ble_eq_true rfl, Nat.le_of_ble_eq_true rfl, Nat.le_of_ble_eq_true rfl⟩ rfl (Nat.le_of_ble_eq_true rfl) dX11_kindOf_24 rfl (fun v27 i28 r29 hv30 hi31 hw32 hq33 => ?_)
    obtain ⟨e35, e36, h⟩ := hq33
    subst e35
    subst e36
    obtain ⟨g34, h⟩ := h
    exact fin dX11_kindOf_27 hv30 (nar_c g34) (by decide) (by decide) hi5 hw6 h
set_option maxRecDepth 100000 in
set_option maxHeartbeats 4000000 in
theorem sm_X11_statementOf (l : Launch) (Δ : Wd) {i r : MI} {p1 : Int} (hp1 : sR p1) {Q : Int → MI → MI → Prop} {X : String → MI → MI → Prop} (hst : l.stackTraces = false) (hi : okI i) (hw : Wf r) (h : wp_X11_statementOf p1 i r Q X) : vx_Met l yX11_statementOf (Cond.code yX11_statementOf cX11_statementOf 2 (some .int) :: gW) (sRx 7 145 1 6) (sPc Δ [.ref (sA Δ 0), .int (sJ p1)] i r) (sQi Δ (Q)) (sX Δ (X)) 1 6 (sFr Δ) := by
  refine Cx.i (ty := .int) (by decide) rfl (Nat.le_of_ble_eq_true rfl) hst (by decide) (by decide) (fun Γ Q0 hG fin xout xthr => ?_)
  have hG : okG Γ Δ l (sRx 7 145 1 6) cX11_statementOf "Schedulary" 2 := hG
  show V Γ Δ 504 false i r 0 0 Q0 0 [(0, .ref (sA Δ 0)), (1, .int (sJ p1))] []
  refine V.aload_n (pc := 0) hG dX11_statementOf_0 rfl 0 rfl ?_
  refine V.iconst (pc := 1) hG dX11_statementOf_1 ?_
  refine V.callVv (pc := 2) (As := [.int (sJ 1)]) (stk := []) hG (sm_X11_prepare l Δ ((sR_l rfl)) hi hw h) mY_X11_prepare kw_621 kw_623 kw_14 a_0 (by decide) (q := (RX11, TX11, 11)) rfl rfl ⟨Nat.le_of_ble_eq_true rfl, Nat.le_of_ble_eq_true rfl, Nat.le_of_ble_eq_true rfl, Nat.le_of_ble_eq_true rfl⟩ rfl (Nat.le_of_ble_eq_true rfl) dX11_statementOf_2 rfl (fun i2 r3 hi5 hw6 hq7 => ?_)
  have h := hq7
  refine V.aload_n (pc := 5) hG dX11_statementOf_5 rfl 0 rfl ?_
  refine V.iload_n (pc := 6) hG dX11_statementOf_6 rfl 1 rfl ?_
  refine V.xcallVv (pc := 7) (As := [.int (sJ p1)]) (stk := []) hG (sm_X11_checkNode l Δ hp1 hst hi5 hw6 h) mY_X11_checkNode kw_1343 kw_1345 kw_97 a_0 (by decide) (q := (RX11, TX11, 11)) rfl rfl ⟨Nat.le_of_ble_eq_true rfl, Nat.le_of_ble_eq_true rfl, Nat.le_of_ble_eq_true rfl, Nat.le_of_ble_eq_true rfl⟩ rfl (Nat.le_of_ble_eq_true rfl) dX11_statementOf_7 rfl (fun z17 z18 z19 z20 z21 z22 => ?_) (fun i9 r10 hi12 hw13 hq14 => ?_)
  · obtain ⟨e23, e24, h⟩ := z22
    subst e23
    subst e24
    exact xout (by decide) (by decide) hi5 hw6 h
  · obtain ⟨e25, e26, h⟩ := hq14
    subst e25
    subst e26
    refine V.aload_n (pc := 10) hG dX11_statementOf_10 rfl 0 rfl ?_
    refine V.getR (x := 67) (pc := 11) (ci := 13) (k := 3) (M := 11) (T := TX11) (o := 0) (kz := 3) hG a_0 a_0.n (by decide) hin_X11 rfl (by decide) (by decide) rfl kw_526 rfl ((hw6).1 (0, 3, 67) (by decide)) (by decide) dX11_statementOf_11 ?_
    refine V.getRN (x := 68) (pc := 14) (ci := 2) (k := 0) (M := 5) (T := TX0) (o := 67) (kz := 0) hG a_67 a_67.n (by decide) hin_X0 rfl (by decide) (by decide) rfl kw_354 rfl ((hw6).1 (67, 0, 68) (by decide)) (by decide) dX11_statementOf_14 ?_
    refine V.iload_n (pc := 17) hG dX11_statementOf_17 rfl 1 rfl ?_
    obtain ⟨g16, h⟩ := h
    refine V.aald (pc := 18) 6 (z := 96) (o := 68) (x := p1) (y := 72 + p1) hG a_68 a_68.n (by decide) hp1 g16 (hw6.2.1 (68, 96, 72) (by decide) _ g16.1 g16.2) (by omega) dX11_statementOf_18 ?_
    refine V.getIN (pc := 19) (ci := 5) (k := 1) (M := 13) (T := TX3) (o := 72 + p1) (kz := 1) hG (node_o g16.1 g16.2) ((node_o g16.1 g16.2)).n (by decide) hin_X3 rfl (by decide) (by decide) rfl kw_285 rfl dX11_statementOf_19 ?_
    exact fin dX11_statementOf_22 ((hi5 _ _)) rfl (by decide) (by decide) hi5 hw6 h
set_option maxRecDepth 100000 in
set_option maxHeartbeats 4000000 in
theorem sm_X11_edges (l : Launch) (Δ : Wd) {i r : MI}   {Q : Int → MI → MI → Prop} (hi : okI i) (hw : Wf r) (h : wp_X11_edges  i r Q) : Met l yX11_edges (Cond.code yX11_edges cX11_edges 1 (some .int) :: gW) (sRm 6 145) (sPc Δ [.ref (sA Δ 0)] i r) (sQi Δ (Q)) 0 0 (sFr Δ) := by
  refine Ct.i (ty := .int) (by decide) rfl (Nat.le_of_ble_eq_true rfl) (fun Γ Q0 hG fin => ?_)
  have hG : okG Γ Δ l (sRm 6 145) cX11_edges "Schedulary" 1 := hG
  show V Γ Δ 504 false i r 0 0 Q0 0 [(0, .ref (sA Δ 0))] []
  refine V.aload_n (pc := 0) hG dX11_edges_0 rfl 0 rfl ?_
  refine V.iconst (pc := 1) hG dX11_edges_1 ?_
  refine V.callVv (pc := 2) (As := [.int (sJ 2)]) (stk := []) hG (sm_X11_prepare l Δ ((sR_l rfl)) hi hw h) mY_X11_prepare kw_621 kw_623 kw_14 a_0 (by decide) (q := (RX11, TX11, 11)) rfl rfl ⟨Nat.le_of_ble_eq_true rfl, Nat.le_of_ble_eq_true rfl, Nat.le_of_ble_eq_true rfl, Nat.le_of_ble_eq_true rfl⟩ rfl (Nat.le_of_ble_eq_true rfl) dX11_edges_2 rfl (fun i2 r3 hi5 hw6 hq7 => ?_)
  have h := hq7
  refine V.aload_n (pc := 5) hG dX11_edges_5 rfl 0 rfl ?_
  refine V.getR (x := 168) (pc := 6) (ci := 13) (k := 4) (M := 11) (T := TX11) (o := 0) (kz := 4) hG a_0 a_0.n (by decide) hin_X11 rfl (by decide) (by decide) rfl kw_527 rfl ((hw6).1 (0, 4, 168) (by decide)) (by decide) dX11_edges_6 ?_
  refine V.getIN (pc := 9) (ci := 4) (k := 4) (M := 5) (T := TX2) (o := 168) (kz := 4) hG a_168 a_168.n (by decide) hin_X2 rfl (by decide) (by decide) rfl kw_401 rfl dX11_edges_9 ?_
  exact fin dX11_edges_12 ((hi5 _ _)) rfl hi5 hw6 h
set_option maxRecDepth 100000 in
set_option maxHeartbeats 4000000 in
theorem sm_X11_weight (l : Launch) (Δ : Wd) {i r : MI} {p1 : Int} {p2 : Int} {p3 : Int} (hp1 : sR p1) (hp2 : sR p2) (hp3 : sR p3) {Q : Int → MI → MI → Prop} {X : String → MI → MI → Prop} (hst : l.stackTraces = false) (hi : okI i) (hw : Wf r) (h : wp_X11_weight p1 p2 p3 i r Q X) : vx_Met l yX11_weight (Cond.code yX11_weight cX11_weight 5 (some .int) :: gW) (sRx 7 145 3 18) (sPc Δ [.ref (sA Δ 0), .int (sJ p1), .int (sJ p2), .int (sJ p3)] i r) (sQi Δ (Q)) (sX Δ (X)) 3 18 (sFr Δ) := by
  refine Cx.i (ty := .int) (by decide) rfl (Nat.le_of_ble_eq_true rfl) hst (by decide) (by decide) (fun Γ Q0 hG fin xout xthr => ?_)
  have hG : okG Γ Δ l (sRx 7 145 3 18) cX11_weight "Schedulary" 5 := hG
  show V Γ Δ 504 false i r 0 0 Q0 0 [(0, .ref (sA Δ 0)), (1, .int (sJ p1)), (2, .int (sJ p2)), (3, .int (sJ p3))] []
  refine V.aload_n (pc := 0) hG dX11_weight_0 rfl 0 rfl ?_
  refine V.iconst (pc := 1) hG dX11_weight_1 ?_
  refine V.callVv (pc := 2) (As := [.int (sJ 2)]) (stk := []) hG (sm_X11_prepare l Δ ((sR_l rfl)) hi hw h) mY_X11_prepare kw_621 kw_623 kw_14 a_0 (by decide) (q := (RX11, TX11, 11)) rfl rfl ⟨Nat.le_of_ble_eq_true rfl, Nat.le_of_ble_eq_true rfl, Nat.le_of_ble_eq_true rfl, Nat.le_of_ble_eq_true rfl⟩ rfl (Nat.le_of_ble_eq_true rfl) dX11_weight_2 rfl (fun i2 r3 hi5 hw6 hq7 => ?_)
  have h := hq7
  refine V.aload_n (pc := 5) hG dX11_weight_5 rfl 0 rfl ?_
  refine V.iload_n (pc := 6) hG dX11_weight_6 rfl 1 rfl ?_
  refine V.xcallVv (pc := 7) (As := [.int (sJ p1)]) (stk := []) hG (sm_X11_checkNode l Δ hp1 hst hi5 hw6 h) mY_X11_checkNode kw_1343 kw_1345 kw_97 a_0 (by decide) (q := (RX11, TX11, 11)) rfl rfl ⟨Nat.le_of_ble_eq_true rfl, Nat.le_of_ble_eq_true rfl, Nat.le_of_ble_eq_true rfl, Nat.le_of_ble_eq_true rfl⟩ rfl (Nat.le_of_ble_eq_true rfl) dX11_weight_7 rfl (fun z105 z106 z107 z108 z109 z110 => ?_) (fun i9 r10 hi12 hw13 hq14 => ?_)
  · obtain ⟨e111, e112, h⟩ := z110
    subst e111
    subst e112
    exact xout (by decide) (by decide) hi5 hw6 h
  · obtain ⟨e113, e114, h⟩ := hq14
    subst e113
    subst e114
    refine V.aload_n (pc := 10) hG dX11_weight_10 rfl 0 rfl ?_
    refine V.iload_n (pc := 11) hG dX11_weight_11 rfl 2 rfl ?_
    refine V.xcallVv (pc := 12) (As := [.int (sJ p2)]) (stk := []) hG (sm_X11_checkNode l Δ hp2 hst hi5 hw6 h) mY_X11_checkNode kw_1343 kw_1345 kw_97 a_0 (by decide) (q := (RX11, TX11, 11)) rfl rfl ⟨Nat.le_of_ble_eq_true rfl, Nat.le_of_ble_eq_true rfl, Nat.le_of_ble_eq_true rfl, Nat.le_of_ble_eq_true rfl⟩ rfl (Nat.le_of_ble_eq_true rfl) dX11_weight_12 rfl (fun z95 z96 z97 z98 z99 z100 => ?_) (fun i61 r62 hi64 hw65 hq66 => ?_)
    · obtain ⟨e101, e102, h⟩ := z100
      subst e101
      subst e102
      exact xout (by decide) (by decide) hi5 hw6 h
    · obtain ⟨e103, e104, h⟩ := hq66
      subst e103
      subst e104
      refine V.aload_n (pc := 15) hG dX11_weight_15 rfl 0 rfl ?_
      refine V.getR (x := 168) (pc := 16) (ci := 13) (k := 4) (M := 11) (T := TX11) (o := 0) (kz := 4) hG a_0 a_0.n (by decide) hin_X11 rfl (by decide) (by decide) rfl kw_527 rfl ((hw6).1 (0, 4, 168) (by decide)) (by decide) dX11_weight_16 ?_
      refine V.iload_n (pc := 19) hG dX11_weight_19 rfl 1 rfl ?_
      refine V.iload_n (pc := 20) hG dX11_weight_20 rfl 2 rfl ?_
      refine V.iload_n (pc := 21) hG dX11_weight_21 rfl 3 rfl ?_
      refine V.callVNi (pc := 22) (As := [.int (sJ p1), .int (sJ p2), .int (sJ p3)]) (stk := []) hG (sm_X2_find l Δ hp1 hp2 hp3 hi5 hw6 h) mY_X2_find kw_1376 kw_696 kw_31 a_168 (by decide) (q := (RX2, TX2, 5)) rfl rfl ⟨Nat.le_of_ble_eq_true rfl, Nat.le_of_ble_eq_true rfl, Nat.le_of_ble_eq_true rfl, Nat.le_of_ble_eq_true rfl⟩ rfl (Nat.le_of_ble_eq_true rfl) dX11_weight_22 rfl (fun v81 i82 r83 hv84 hi85 hw86 hq87 => ?_)
      obtain ⟨e93, e94, h⟩ := hq87
      subst e93
      subst e94
      refine V.istore (pc := 25) (lv' := [(4, .int (sJ v81)), (0, .ref (sA Δ 0)), (1, .int (sJ p1)), (2, .int (sJ p2)), (3, .int (sJ p3))]) hG dX11_weight_25 (by decide) rfl ?_
      refine V.iload (pc := 27) hG dX11_weight_27 0 rfl ?_
      refine V.iconst (pc := 29) hG dX11_weight_29 ?_
      obtain ⟨f90, t89⟩ := h
      refine V.icmp_ne (pc := 30) (tgt := 44) hG hv84 ((sR_l rfl)) dX11_weight_30 (by decide) (fun c88 => ?_) (fun c88 => ?_)
      · have h := t89 c88
        clear t89 f90
        refine V.aload_n (pc := 44) hG dX11_weight_44 rfl 1 rfl ?_
        refine V.getR (x := 168) (pc := 45) (ci := 13) (k := 4) (M := 11) (T := TX11) (o := 0) (kz := 4) hG a_0 a_0.n (by decide) hin_X11 rfl (by decide) (by decide) rfl kw_527 rfl ((hw6).1 (0, 4, 168) (by decide)) (by decide) dX11_weight_45 ?_
        refine V.getRN (x := 363) (pc := 48) (ci := 4) (k := 2) (M := 5) (T := TX2) (o := 168) (kz := 2) hG a_168 a_168.n (by decide) hin_X2 rfl (by decide) (by decide) rfl kw_396 rfl ((hw6).1 (168, 2, 363) (by decide)) (by decide) dX11_weight_48 ?_
        refine V.iload_n (pc := 51) hG dX11_weight_51 rfl 2 rfl ?_
        obtain ⟨g91, h⟩ := h
        refine V.aald (pc := 52) 7 (z := 96) (o := 363) (x := p1) (y := 364 + p1) hG a_363 a_363.n (by decide) hp1 g91 (hw6.2.1 (363, 96, 364) (by decide) _ g91.1 g91.2) (by omega) dX11_weight_52 ?_
        refine V.iload (pc := 53) hG dX11_weight_53 0 rfl ?_
        obtain ⟨g92, h⟩ := h
        refine V.iald (pc := 55) (z := 100) (o := 364 + p1) hG (row_363 g91) ((row_363 g91)).n hv84 g92 dX11_weight_55 ?_
        exact fin dX11_weight_56 ((hi5 _ _)) rfl (by decide) (by decide) hi5 hw6 h
      · have h := f90 c88
        clear t89 f90
        exact xthr ⟨265, 267, 269, "no such edge", by decide, kw_1377, kw_128, by decide, .inr ⟨13, nz13, nz13_d, th_269⟩, dX11_weight_33, dX11_weight_36, Or.inr ⟨dX11_weight_37, dX11_weight_40, dX11_weight_43⟩⟩ (by decide) (by decide) hi5 hw6 h
set_option maxRecDepth 100000 in
set_option maxHeartbeats 4000000 in
theorem sm_X11_soon (l : Launch) (Δ : Wd) {i r : MI} {p1 : Int} (hp1 : sR p1) {Q : Int → MI → MI → Prop} {X : String → MI → MI → Prop} (hst : l.stackTraces = false) (hi : okI i) (hw : Wf r) (h : wp_X11_soon p1 i r Q X) : vx_Met l yX11_soon (Cond.code yX11_soon cX11_soon 2 (some .int) :: gW) (sRx 7 145 1 6) (sPc Δ [.ref (sA Δ 0), .int (sJ p1)] i r) (sQi Δ (Q)) (sX Δ (X)) 1 6 (sFr Δ) := by
  refine Cx.i (ty := .int) (by decide) rfl (Nat.le_of_ble_eq_true rfl) hst (by decide) (by decide) (fun Γ Q0 hG fin xout xthr => ?_)
  have hG : okG Γ Δ l (sRx 7 145 1 6) cX11_soon "Schedulary" 2 := hG
  show V Γ Δ 504 false i r 0 0 Q0 0 [(0, .ref (sA Δ 0)), (1, .int (sJ p1))] []
  refine V.aload_n (pc := 0) hG dX11_soon_0 rfl 0 rfl ?_
  refine V.iconst (pc := 1) hG dX11_soon_1 ?_
  refine V.callVv (pc := 2) (As := [.int (sJ 3)]) (stk := []) hG (sm_X11_prepare l Δ ((sR_l rfl)) hi hw h) mY_X11_prepare kw_621 kw_623 kw_14 a_0 (by decide) (q := (RX11, TX11, 11)) rfl rfl ⟨Nat.le_of_ble_eq_true rfl, Nat.le_of_ble_eq_true rfl, Nat.le_of_ble_eq_true rfl, Nat.le_of_ble_eq_true rfl⟩ rfl (Nat.le_of_ble_eq_true rfl) dX11_soon_2 rfl (fun i2 r3 hi5 hw6 hq7 => ?_)
  have h := hq7
  refine V.aload_n (pc := 5) hG dX11_soon_5 rfl 0 rfl ?_
  refine V.iload_n (pc := 6) hG dX11_soon_6 rfl 1 rfl ?_
  refine V.xcallVv (pc := 7) (As := [.int (sJ p1)]) (stk := []) hG (sm_X11_checkNode l Δ hp1 hst hi5 hw6 h) mY_X11_checkNode kw_1343 kw_1345 kw_97 a_0 (by decide) (q := (RX11, TX11, 11)) rfl rfl ⟨Nat.le_of_ble_eq_true rfl, Nat.le_of_ble_eq_true rfl, Nat.le_of_ble_eq_true rfl, Nat.le_of_ble_eq_true rfl⟩ rfl (Nat.le_of_ble_eq_true rfl) dX11_soon_7 rfl (fun z17 z18 z19 z20 z21 z22 => ?_) (fun i9 r10 hi12 hw13 hq14 => ?_)
  · obtain ⟨e23, e24, h⟩ := z22
    subst e23
    subst e24
    exact xout (by decide) (by decide) hi5 hw6 h
  · obtain ⟨e25, e26, h⟩ := hq14
    subst e25
    subst e26
    refine V.aload_n (pc := 10) hG dX11_soon_10 rfl 0 rfl ?_
    refine V.getR (x := 461) (pc := 11) (ci := 13) (k := 5) (M := 11) (T := TX11) (o := 0) (kz := 5) hG a_0 a_0.n (by decide) hin_X11 rfl (by decide) (by decide) rfl kw_528 rfl ((hw6).1 (0, 5, 461) (by decide)) (by decide) dX11_soon_11 ?_
    refine V.getRN (x := 462) (pc := 14) (ci := 11) (k := 0) (M := 7) (T := TX9) (o := 461) (kz := 0) hG a_461 a_461.n (by decide) hin_X9 rfl (by decide) (by decide) rfl kw_420 rfl ((hw6).1 (461, 0, 462) (by decide)) (by decide) dX11_soon_14 ?_
    refine V.iload_n (pc := 17) hG dX11_soon_17 rfl 1 rfl ?_
    obtain ⟨g16, h⟩ := h
    refine V.iald (pc := 18) (z := 96) (o := 462) hG a_462 a_462.n hp1 g16 dX11_soon_18 ?_
    exact fin dX11_soon_19 ((hi5 _ _)) rfl (by decide) (by decide) hi5 hw6 h
set_option maxRecDepth 100000 in
set_option maxHeartbeats 4000000 in
theorem sm_X11_late (l : Launch) (Δ : Wd) {i r : MI} {p1 : Int} (hp1 : sR p1) {Q : Int → MI → MI → Prop} {X : String → MI → MI → Prop} (hst : l.stackTraces = false) (hi : okI i) (hw : Wf r) (h : wp_X11_late p1 i r Q X) : vx_Met l yX11_late (Cond.code yX11_late cX11_late 2 (some .int) :: gW) (sRx 7 145 1 6) (sPc Δ [.ref (sA Δ 0), .int (sJ p1)] i r) (sQi Δ (Q)) (sX Δ (X)) 1 6 (sFr Δ) := by
  refine Cx.i (ty := .int) (by decide) rfl (Nat.le_of_ble_eq_true rfl) hst (by decide) (by decide) (fun Γ Q0 hG fin xout xthr => ?_)
  have hG : okG Γ Δ l (sRx 7 145 1 6) cX11_late "Schedulary" 2 := hG
  show V Γ Δ 504 false i r 0 0 Q0 0 [(0, .ref (sA Δ 0)), (1, .int (sJ p1))] []
  refine V.aload_n (pc := 0) hG dX11_late_0 rfl 0 rfl ?_
  refine V.iconst (pc := 1) hG dX11_late_1 ?_
  refine V.callVv (pc := 2) (As := [.int (sJ 3)]) (stk := []) hG (sm_X11_prepare l Δ ((sR_l rfl)) hi hw h) mY_X11_prepare kw_621 kw_623 kw_14 a_0 (by decide) (q := (RX11, TX11, 11)) rfl rfl ⟨Nat.le_of_ble_eq_true rfl, Nat.le_of_ble_eq_true rfl, Nat.le_of_ble_eq_true rfl, Nat.le_of_ble_eq_true rfl⟩ rfl (Nat.le_of_ble_eq_true rfl) dX11_late_2 rfl (fun i2 r3 hi5 hw6 hq7 => ?_)
  have h := hq7
  refine V.aload_n (pc := 5) hG dX11_late_5 rfl 0 rfl ?_
  refine V.iload_n (pc := 6) hG dX11_late_6 rfl 1 rfl ?_
  refine V.xcallVv (pc := 7) (As := [.int (sJ p1)]) (stk := []) hG (sm_X11_checkNode l Δ hp1 hst hi5 hw6 h) mY_X11_checkNode kw_1343 kw_1345 kw_97 a_0 (by decide) (q := (RX11, TX11, 11)) rfl rfl ⟨Nat.le_of_ble_eq_true rfl, Nat.le_of_ble_eq_true rfl, Nat.le_of_ble_eq_true rfl, Nat.le_of_ble_eq_true rfl⟩ rfl (Nat.le_of_ble_eq_true rfl) dX11_late_7 rfl (fun z17 z18 z19 z20 z21 z22 => ?_) (fun i9 r10 hi12 hw13 hq14 => ?_)
  · obtain ⟨e23, e24, h⟩ := z22
    subst e23
    subst e24
    exact xout (by decide) (by decide) hi5 hw6 h
  · obtain ⟨e25, e26, h⟩ := hq14
    subst e25
    subst e26
    refine V.aload_n (pc := 10) hG dX11_late_10 rfl 0 rfl ?_
    refine V.getR (x := 461) (pc := 11) (ci := 13) (k := 5) (M := 11) (T := TX11) (o := 0) (kz := 5) hG a_0 a_0.n (by decide) hin_X11 rfl (by decide) (by decide) rfl kw_528 rfl ((hw6).1 (0, 5, 461) (by decide)) (by decide) dX11_late_11 ?_
    refine V.getRN (x := 463) (pc := 14) (ci := 11) (k := 1) (M := 7) (T := TX9) (o := 461) (kz := 1) hG a_461 a_461.n (by decide) hin_X9 rfl (by decide) (by decide) rfl kw_422 rfl ((hw6).1 (461, 1, 463) (by decide)) (by decide) dX11_late_14 ?_
    refine V.iload_n (pc := 17) hG dX11_late_17 rfl 1 rfl ?_
    obtain ⟨g16, h⟩ := h
    refine V.iald (pc := 18) (z := 96) (o := 463) hG a_463 a_463.n hp1 g16 dX11_late_18 ?_
    exact fin dX11_late_19 ((hi5 _ _)) rfl (by decide) (by decide) hi5 hw6 h
set_option maxRecDepth 100000 in
set_option maxHeartbeats 4000000 in
theorem sm_X11_step (l : Launch) (Δ : Wd) {i r : MI} {p1 : Int} (hp1 : sR p1) {Q : Int → MI → MI → Prop} {X : String → MI → MI → Prop} (hst : l.stackTraces = false) (hi : okI i) (hw : Wf r) (h : wp_X11_step p1 i r Q X) : vx_Met l yX11_step (Cond.code yX11_step cX11_step 2 (some .int) :: gW) (sRx 7 145 1 6) (sPc Δ [.ref (sA Δ 0), .int (sJ p1)] i r) (sQi Δ (Q)) (sX Δ (X)) 1 6 (sFr Δ) := by
  refine Cx.i (ty := .int) (by decide) rfl (Nat.le_of_ble_eq_true rfl) hst (by decide) (by decide) (fun Γ Q0 hG fin xout xthr => ?_)
  have hG : okG Γ Δ l (sRx 7 145 1 6) cX11_step "Schedulary" 2 := hG
  show V Γ Δ 504 false i r 0 0 Q0 0 [(0, .ref (sA Δ 0)), (1, .int (sJ p1))] []
  refine V.aload_n (pc := 0) hG dX11_step_0 rfl 0 rfl ?_
  refine V.iconst (pc := 1) hG dX11_step_1 ?_
  refine V.callVv (pc := 2) (As := [.int (sJ 3)]) (stk := []) hG (sm_X11_prepare l Δ ((sR_l rfl)) hi hw h) mY_X11_prepare kw_621 kw_623 kw_14 a_0 (by decide) (q := (RX11, TX11, 11)) rfl rfl ⟨Nat.le_of_ble_eq_true rfl, Nat.le_of_ble_eq_true rfl, Nat.le_of_ble_eq_true rfl, Nat.le_of_ble_eq_true rfl⟩ rfl (Nat.le_of_ble_eq_true rfl) dX11_step_2 rfl (fun i2 r3 hi5 hw6 hq7 => ?_)
  have h := hq7
  refine V.aload_n (pc := 5) hG dX11_step_5 rfl 0 rfl ?_
  refine V.iload_n (pc := 6) hG dX11_step_6 rfl 1 rfl ?_
  refine V.xcallVv (pc := 7) (As := [.int (sJ p1)]) (stk := []) hG (sm_X11_checkNode l Δ hp1 hst hi5 hw6 h) mY_X11_checkNode kw_1343 kw_1345 kw_97 a_0 (by decide) (q := (RX11, TX11, 11)) rfl rfl ⟨Nat.le_of_ble_eq_true rfl, Nat.le_of_ble_eq_true rfl, Nat.le_of_ble_eq_true rfl, Nat.le_of_ble_eq_true rfl⟩ rfl (Nat.le_of_ble_eq_true rfl) dX11_step_7 rfl (fun z17 z18 z19 z20 z21 z22 => ?_) (fun i9 r10 hi12 hw13 hq14 => ?_)
  · obtain ⟨e23, e24, h⟩ := z22
    subst e23
    subst e24
    exact xout (by decide) (by decide) hi5 hw6 h
  · obtain ⟨e25, e26, h⟩ := hq14
    subst e25
    subst e26
    refine V.aload_n (pc := 10) hG dX11_step_10 rfl 0 rfl ?_
    refine V.getR (x := 461) (pc := 11) (ci := 13) (k := 5) (M := 11) (T := TX11) (o := 0) (kz := 5) hG a_0 a_0.n (by decide) hin_X11 rfl (by decide) (by decide) rfl kw_528 rfl ((hw6).1 (0, 5, 461) (by decide)) (by decide) dX11_step_11 ?_
    refine V.getRN (x := 464) (pc := 14) (ci := 11) (k := 2) (M := 7) (T := TX9) (o := 461) (kz := 2) hG a_461 a_461.n (by decide) hin_X9 rfl (by decide) (by decide) rfl kw_424 rfl ((hw6).1 (461, 2, 464) (by decide)) (by decide) dX11_step_14 ?_
    refine V.iload_n (pc := 17) hG dX11_step_17 rfl 1 rfl ?_
    obtain ⟨g16, h⟩ := h
    refine V.iald (pc := 18) (z := 96) (o := 464) hG a_464 a_464.n hp1 g16 dX11_step_18 ?_
    exact fin dX11_step_19 ((hi5 _ _)) rfl (by decide) (by decide) hi5 hw6 h
set_option maxRecDepth 100000 in
set_option maxHeartbeats 4000000 in
theorem sm_X11_byRings (l : Launch) (Δ : Wd) {i r : MI}   {Q : Int → MI → MI → Prop} (hi : okI i) (hw : Wf r) (h : wp_X11_byRings  i r Q) : Met l yX11_byRings (Cond.code yX11_byRings cX11_byRings 1 (some .int) :: gW) (sRm 6 145) (sPc Δ [.ref (sA Δ 0)] i r) (sQi Δ (Q)) 0 0 (sFr Δ) := by
  refine Ct.i (ty := .int) (by decide) rfl (Nat.le_of_ble_eq_true rfl) (fun Γ Q0 hG fin => ?_)
  have hG : okG Γ Δ l (sRm 6 145) cX11_byRings "Schedulary" 1 := hG
  show V Γ Δ 504 false i r 0 0 Q0 0 [(0, .ref (sA Δ 0))] []
  refine V.aload_n (pc := 0) hG dX11_byRings_0 rfl 0 rfl ?_
  refine V.iconst (pc := 1) hG dX11_byRings_1 ?_
  refine V.callVv (pc := 2) (As := [.int (sJ 4)]) (stk := []) hG (sm_X11_prepare l Δ ((sR_l rfl)) hi hw h) mY_X11_prepare kw_621 kw_623 kw_14 a_0 (by decide) (q := (RX11, TX11, 11)) rfl rfl ⟨Nat.le_of_ble_eq_true rfl, Nat.le_of_ble_eq_true rfl, Nat.le_of_ble_eq_true rfl, Nat.le_of_ble_eq_true rfl⟩ rfl (Nat.le_of_ble_eq_true rfl) dX11_byRings_2 rfl (fun i2 r3 hi5 hw6 hq7 => ?_)
  have h := hq7
  refine V.aload_n (pc := 5) hG dX11_byRings_5 rfl 0 rfl ?_
  refine V.getR (x := 469) (pc := 6) (ci := 13) (k := 6) (M := 11) (T := TX11) (o := 0) (kz := 6) hG a_0 a_0.n (by decide) hin_X11 rfl (by decide) (by decide) rfl kw_529 rfl ((hw6).1 (0, 6, 469) (by decide)) (by decide) dX11_byRings_6 ?_
  refine V.getIN (pc := 9) (ci := 6) (k := 3) (M := 6) (T := TX4) (o := 469) (kz := 3) hG a_469 a_469.n (by decide) hin_X4 rfl (by decide) (by decide) rfl kw_457 rfl dX11_byRings_9 ?_
  exact fin dX11_byRings_12 ((hi5 _ _)) rfl hi5 hw6 h
set_option maxRecDepth 100000 in
set_option maxHeartbeats 4000000 in
theorem sm_X11_byUnits (l : Launch) (Δ : Wd) {i r : MI}   {Q : Int → MI → MI → Prop} (hi : okI i) (hw : Wf r) (h : wp_X11_byUnits  i r Q) : Met l yX11_byUnits (Cond.code yX11_byUnits cX11_byUnits 1 (some .int) :: gW) (sRm 6 145) (sPc Δ [.ref (sA Δ 0)] i r) (sQi Δ (Q)) 0 0 (sFr Δ) := by
  refine Ct.i (ty := .int) (by decide) rfl (Nat.le_of_ble_eq_true rfl) (fun Γ Q0 hG fin => ?_)
  have hG : okG Γ Δ l (sRm 6 145) cX11_byUnits "Schedulary" 1 := hG
  show V Γ Δ 504 false i r 0 0 Q0 0 [(0, .ref (sA Δ 0))] []
  refine V.aload_n (pc := 0) hG dX11_byUnits_0 rfl 0 rfl ?_
  refine V.iconst (pc := 1) hG dX11_byUnits_1 ?_
  refine V.callVv (pc := 2) (As := [.int (sJ 4)]) (stk := []) hG (sm_X11_prepare l Δ ((sR_l rfl)) hi hw h) mY_X11_prepare kw_621 kw_623 kw_14 a_0 (by decide) (q := (RX11, TX11, 11)) rfl rfl ⟨Nat.le_of_ble_eq_true rfl, Nat.le_of_ble_eq_true rfl, Nat.le_of_ble_eq_true rfl, Nat.le_of_ble_eq_true rfl⟩ rfl (Nat.le_of_ble_eq_true rfl) dX11_byUnits_2 rfl (fun i2 r3 hi5 hw6 hq7 => ?_)
  have h := hq7
  refine V.aload_n (pc := 5) hG dX11_byUnits_5 rfl 0 rfl ?_
  refine V.getR (x := 469) (pc := 6) (ci := 13) (k := 6) (M := 11) (T := TX11) (o := 0) (kz := 6) hG a_0 a_0.n (by decide) hin_X11 rfl (by decide) (by decide) rfl kw_529 rfl ((hw6).1 (0, 6, 469) (by decide)) (by decide) dX11_byUnits_6 ?_
  refine V.getIN (pc := 9) (ci := 6) (k := 4) (M := 6) (T := TX4) (o := 469) (kz := 4) hG a_469 a_469.n (by decide) hin_X4 rfl (by decide) (by decide) rfl kw_459 rfl dX11_byUnits_9 ?_
  exact fin dX11_byUnits_12 ((hi5 _ _)) rfl hi5 hw6 h
set_option maxRecDepth 100000 in
set_option maxHeartbeats 4000000 in
theorem sm_X11_interval (l : Launch) (Δ : Wd) {i r : MI}   {Q : Int → MI → MI → Prop} (hi : okI i) (hw : Wf r) (h : wp_X11_interval  i r Q) : Met l yX11_interval (Cond.code yX11_interval cX11_interval 1 (some .int) :: gW) (sRm 6 145) (sPc Δ [.ref (sA Δ 0)] i r) (sQi Δ (Q)) 0 0 (sFr Δ) := by
  refine Ct.i (ty := .int) (by decide) rfl (Nat.le_of_ble_eq_true rfl) (fun Γ Q0 hG fin => ?_)
  have hG : okG Γ Δ l (sRm 6 145) cX11_interval "Schedulary" 1 := hG
  show V Γ Δ 504 false i r 0 0 Q0 0 [(0, .ref (sA Δ 0))] []
  refine V.aload_n (pc := 0) hG dX11_interval_0 rfl 0 rfl ?_
  refine V.iconst (pc := 1) hG dX11_interval_1 ?_
  refine V.callVv (pc := 2) (As := [.int (sJ 4)]) (stk := []) hG (sm_X11_prepare l Δ ((sR_l rfl)) hi hw h) mY_X11_prepare kw_621 kw_623 kw_14 a_0 (by decide) (q := (RX11, TX11, 11)) rfl rfl ⟨Nat.le_of_ble_eq_true rfl, Nat.le_of_ble_eq_true rfl, Nat.le_of_ble_eq_true rfl, Nat.le_of_ble_eq_true rfl⟩ rfl (Nat.le_of_ble_eq_true rfl) dX11_interval_2 rfl (fun i2 r3 hi5 hw6 hq7 => ?_)
  have h := hq7
  refine V.aload_n (pc := 5) hG dX11_interval_5 rfl 0 rfl ?_
  refine V.getR (x := 469) (pc := 6) (ci := 13) (k := 6) (M := 11) (T := TX11) (o := 0) (kz := 6) hG a_0 a_0.n (by decide) hin_X11 rfl (by decide) (by decide) rfl kw_529 rfl ((hw6).1 (0, 6, 469) (by decide)) (by decide) dX11_interval_6 ?_
  refine V.getIN (pc := 9) (ci := 6) (k := 5) (M := 6) (T := TX4) (o := 469) (kz := 5) hG a_469 a_469.n (by decide) hin_X4 rfl (by decide) (by decide) rfl kw_462 rfl dX11_interval_9 ?_
  exact fin dX11_interval_12 ((hi5 _ _)) rfl hi5 hw6 h
set_option maxRecDepth 100000 in
set_option maxHeartbeats 4000000 in
theorem sm_X11_place (l : Launch) (Δ : Wd) {i r : MI} {p1 : Int} (hp1 : sR p1) {Q : Int → MI → MI → Prop} {X : String → MI → MI → Prop} (hst : l.stackTraces = false) (hi : okI i) (hw : Wf r) (h : wp_X11_place p1 i r Q X) : vx_Met l yX11_place (Cond.code yX11_place cX11_place 2 (some .int) :: gW) (sRx 7 145 1 6) (sPc Δ [.ref (sA Δ 0), .int (sJ p1)] i r) (sQi Δ (Q)) (sX Δ (X)) 1 6 (sFr Δ) := by
  refine Cx.i (ty := .int) (by decide) rfl (Nat.le_of_ble_eq_true rfl) hst (by decide) (by decide) (fun Γ Q0 hG fin xout xthr => ?_)
  have hG : okG Γ Δ l (sRx 7 145 1 6) cX11_place "Schedulary" 2 := hG
  show V Γ Δ 504 false i r 0 0 Q0 0 [(0, .ref (sA Δ 0)), (1, .int (sJ p1))] []
  refine V.aload_n (pc := 0) hG dX11_place_0 rfl 0 rfl ?_
  refine V.iconst (pc := 1) hG dX11_place_1 ?_
  refine V.callVv (pc := 2) (As := [.int (sJ 4)]) (stk := []) hG (sm_X11_prepare l Δ ((sR_l rfl)) hi hw h) mY_X11_prepare kw_621 kw_623 kw_14 a_0 (by decide) (q := (RX11, TX11, 11)) rfl rfl ⟨Nat.le_of_ble_eq_true rfl, Nat.le_of_ble_eq_true rfl, Nat.le_of_ble_eq_true rfl, Nat.le_of_ble_eq_true rfl⟩ rfl (Nat.le_of_ble_eq_true rfl) dX11_place_2 rfl (fun i2 r3 hi5 hw6 hq7 => ?_)
  have h := hq7
  refine V.aload_n (pc := 5) hG dX11_place_5 rfl 0 rfl ?_
  refine V.iload_n (pc := 6) hG dX11_place_6 rfl 1 rfl ?_
  refine V.xcallVv (pc := 7) (As := [.int (sJ p1)]) (stk := []) hG (sm_X11_checkNode l Δ hp1 hst hi5 hw6 h) mY_X11_checkNode kw_1343 kw_1345 kw_97 a_0 (by decide) (q := (RX11, TX11, 11)) rfl rfl ⟨Nat.le_of_ble_eq_true rfl, Nat.le_of_ble_eq_true rfl, Nat.le_of_ble_eq_true rfl, Nat.le_of_ble_eq_true rfl⟩ rfl (Nat.le_of_ble_eq_true rfl) dX11_place_7 rfl (fun z17 z18 z19 z20 z21 z22 => ?_) (fun i9 r10 hi12 hw13 hq14 => ?_)
  · obtain ⟨e23, e24, h⟩ := z22
    subst e23
    subst e24
    exact xout (by decide) (by decide) hi5 hw6 h
  · obtain ⟨e25, e26, h⟩ := hq14
    subst e25
    subst e26
    refine V.aload_n (pc := 10) hG dX11_place_10 rfl 0 rfl ?_
    refine V.getR (x := 469) (pc := 11) (ci := 13) (k := 6) (M := 11) (T := TX11) (o := 0) (kz := 6) hG a_0 a_0.n (by decide) hin_X11 rfl (by decide) (by decide) rfl kw_529 rfl ((hw6).1 (0, 6, 469) (by decide)) (by decide) dX11_place_11 ?_
    refine V.getRN (x := 470) (pc := 14) (ci := 6) (k := 0) (M := 6) (T := TX4) (o := 469) (kz := 0) hG a_469 a_469.n (by decide) hin_X4 rfl (by decide) (by decide) rfl kw_453 rfl ((hw6).1 (469, 0, 470) (by decide)) (by decide) dX11_place_14 ?_
    refine V.iload_n (pc := 17) hG dX11_place_17 rfl 1 rfl ?_
    obtain ⟨g16, h⟩ := h
    refine V.iald (pc := 18) (z := 96) (o := 470) hG a_470 a_470.n hp1 g16 dX11_place_18 ?_
    exact fin dX11_place_19 ((hi5 _ _)) rfl (by decide) (by decide) hi5 hw6 h
set_option maxRecDepth 100000 in
set_option maxHeartbeats 4000000 in
theorem sm_X11_circuitOutputs (l : Launch) (Δ : Wd) {i r : MI}   {Q : Int → MI → MI → Prop} (hi : okI i) (hw : Wf r) (h : wp_X11_circuitOutputs  i r Q) : Met l yX11_circuitOutputs (Cond.code yX11_circuitOutputs cX11_circuitOutputs 1 (some .int) :: gW) (sRm 6 145) (sPc Δ [.ref (sA Δ 0)] i r) (sQi Δ (Q)) 0 0 (sFr Δ) := by
  refine Ct.i (ty := .int) (by decide) rfl (Nat.le_of_ble_eq_true rfl) (fun Γ Q0 hG fin => ?_)
  have hG : okG Γ Δ l (sRm 6 145) cX11_circuitOutputs "Schedulary" 1 := hG
  show V Γ Δ 504 false i r 0 0 Q0 0 [(0, .ref (sA Δ 0))] []
  refine V.aload_n (pc := 0) hG dX11_circuitOutputs_0 rfl 0 rfl ?_
  refine V.iconst (pc := 1) hG dX11_circuitOutputs_1 ?_
  refine V.callVv (pc := 2) (As := [.int (sJ 5)]) (stk := []) hG (sm_X11_prepare l Δ ((sR_l rfl)) hi hw h) mY_X11_prepare kw_621 kw_623 kw_14 a_0 (by decide) (q := (RX11, TX11, 11)) rfl rfl ⟨Nat.le_of_ble_eq_true rfl, Nat.le_of_ble_eq_true rfl, Nat.le_of_ble_eq_true rfl, Nat.le_of_ble_eq_true rfl⟩ rfl (Nat.le_of_ble_eq_true rfl) dX11_circuitOutputs_2 rfl (fun i2 r3 hi5 hw6 hq7 => ?_)
  have h := hq7
  refine V.aload_n (pc := 5) hG dX11_circuitOutputs_5 rfl 0 rfl ?_
  refine V.getR (x := 480) (pc := 6) (ci := 13) (k := 7) (M := 11) (T := TX11) (o := 0) (kz := 7) hG a_0 a_0.n (by decide) hin_X11 rfl (by decide) (by decide) rfl kw_530 rfl ((hw6).1 (0, 7, 480) (by decide)) (by decide) dX11_circuitOutputs_6 ?_
  refine V.getRN (x := 481) (pc := 9) (ci := 3) (k := 0) (M := 2) (T := TX1) (o := 480) (kz := 0) hG a_480 a_480.n (by decide) hin_X1 rfl (by decide) (by decide) rfl kw_485 rfl ((hw6).1 (480, 0, 481) (by decide)) (by decide) dX11_circuitOutputs_9 ?_
  refine V.getIN (pc := 12) (ci := 9) (k := 3) (M := 5) (T := TX7) (o := 481) (kz := 3) hG a_481 a_481.n (by decide) hin_X7 rfl (by decide) (by decide) rfl kw_255 rfl dX11_circuitOutputs_12 ?_
  exact fin dX11_circuitOutputs_15 ((hi5 _ _)) rfl hi5 hw6 h
set_option maxRecDepth 100000 in
set_option maxHeartbeats 4000000 in
theorem sm_X11_circuitOutput (l : Launch) (Δ : Wd) {i r : MI} {p1 : Int} (hp1 : sR p1) {Q : Int → MI → MI → Prop} {X : String → MI → MI → Prop} (hst : l.stackTraces = false) (hi : okI i) (hw : Wf r) (h : wp_X11_circuitOutput p1 i r Q X) : vx_Met l yX11_circuitOutput (Cond.code yX11_circuitOutput cX11_circuitOutput 2 (some .int) :: gW) (sRx 6 145 1 6) (sPc Δ [.ref (sA Δ 0), .int (sJ p1)] i r) (sQi Δ (Q)) (sX Δ (X)) 1 6 (sFr Δ) := by
  refine Cx.i (ty := .int) (by decide) rfl (Nat.le_of_ble_eq_true rfl) hst (by decide) (by decide) (fun Γ Q0 hG fin xout xthr => ?_)
  have hG : okG Γ Δ l (sRx 6 145 1 6) cX11_circuitOutput "Schedulary" 2 := hG
  show V Γ Δ 504 false i r 0 0 Q0 0 [(0, .ref (sA Δ 0)), (1, .int (sJ p1))] []
  have jn23 : ∀  (ij23 : MI) (rj23 : MI), okI ij23 → Wf rj23 → s23_X11_circuitOutput ij23 rj23 Q X → V Γ Δ 504 false ij23 rj23 0 0 Q0 23 [] [] := by
    intro ij23 rj23 hij23 hwj23 h
    exact xthr ⟨134, 223, 138, "no such value", by decide, kw_1204, kw_117, by decide, .inl th_138, dX11_circuitOutput_23, dX11_circuitOutput_26, Or.inl ⟨dX11_circuitOutput_27, dX11_circuitOutput_29, dX11_circuitOutput_32⟩⟩ (by decide) (by decide) hij23 hwj23 h
  refine V.aload_n (pc := 0) hG dX11_circuitOutput_0 rfl 0 rfl ?_
  refine V.iconst (pc := 1) hG dX11_circuitOutput_1 ?_
  refine V.callVv (pc := 2) (As := [.int (sJ 5)]) (stk := []) hG (sm_X11_prepare l Δ ((sR_l rfl)) hi hw h) mY_X11_prepare kw_621 kw_623 kw_14 a_0 (by decide) (q := (RX11, TX11, 11)) rfl rfl ⟨Nat.le_of_ble_eq_true rfl, Nat.le_of_ble_eq_true rfl, Nat.le_of_ble_eq_true rfl, Nat.le_of_ble_eq_true rfl⟩ rfl (Nat.le_of_ble_eq_true rfl) dX11_circuitOutput_2 rfl (fun i2 r3 hi5 hw6 hq7 => ?_)
  have h := hq7
  refine V.iload_n (pc := 5) hG dX11_circuitOutput_5 rfl 1 rfl ?_
  obtain ⟨t9, f10⟩ := h
  refine V.if_lt (pc := 6) (tgt := 23) hG hp1 dX11_circuitOutput_6 (by decide) (fun c8 => ?_) (fun c8 => ?_)
  · have h := t9 c8
    clear t9 f10
    refine V.pick [] rfl ?_
    exact jn23 i2 r3 hi5 hw6 h
  · have h := f10 c8
    clear t9 f10
    refine V.iload_n (pc := 9) hG dX11_circuitOutput_9 rfl 1 rfl ?_
    refine V.aload_n (pc := 10) hG dX11_circuitOutput_10 rfl 0 rfl ?_
    refine V.getR (x := 480) (pc := 11) (ci := 13) (k := 7) (M := 11) (T := TX11) (o := 0) (kz := 7) hG a_0 a_0.n (by decide) hin_X11 rfl (by decide) (by decide) rfl kw_530 rfl ((hw6).1 (0, 7, 480) (by decide)) (by decide) dX11_circuitOutput_11 ?_
    refine V.getRN (x := 481) (pc := 14) (ci := 3) (k := 0) (M := 2) (T := TX1) (o := 480) (kz := 0) hG a_480 a_480.n (by decide) hin_X1 rfl (by decide) (by decide) rfl kw_485 rfl ((hw6).1 (480, 0, 481) (by decide)) (by decide) dX11_circuitOutput_14 ?_
    refine V.getIN (pc := 17) (ci := 9) (k := 3) (M := 5) (T := TX7) (o := 481) (kz := 3) hG a_481 a_481.n (by decide) hin_X7 rfl (by decide) (by decide) rfl kw_255 rfl dX11_circuitOutput_17 ?_
    obtain ⟨t12, f13⟩ := h
    refine V.icmp_lt (pc := 20) (tgt := 33) hG hp1 ((hi5 _ _)) dX11_circuitOutput_20 (by decide) (fun c11 => ?_) (fun c11 => ?_)
    · have h := t12 c11
      clear t12 f13
      refine V.aload_n (pc := 33) hG dX11_circuitOutput_33 rfl 0 rfl ?_
      refine V.getR (x := 480) (pc := 34) (ci := 13) (k := 7) (M := 11) (T := TX11) (o := 0) (kz := 7) hG a_0 a_0.n (by decide) hin_X11 rfl (by decide) (by decide) rfl kw_530 rfl ((hw6).1 (0, 7, 480) (by decide)) (by decide) dX11_circuitOutput_34 ?_
      refine V.getRN (x := 481) (pc := 37) (ci := 3) (k := 0) (M := 2) (T := TX1) (o := 480) (kz := 0) hG a_480 a_480.n (by decide) hin_X1 rfl (by decide) (by decide) rfl kw_485 rfl ((hw6).1 (480, 0, 481) (by decide)) (by decide) dX11_circuitOutput_37 ?_
      refine V.getRN (x := 481 + 5) (pc := 40) (ci := 9) (k := 2) (M := 5) (T := TX7) (o := 481) (kz := 2) hG a_481 a_481.n (by decide) hin_X7 rfl (by decide) (by decide) rfl kw_253 rfl ((hw6.2.2.2.1 _ sta_481).2.2.1) (by have := sta.pos (sta_481); omega) dX11_circuitOutput_40 ?_
      refine V.iload_n (pc := 43) hG dX11_circuitOutput_43 rfl 1 rfl ?_
      obtain ⟨g14, h⟩ := h
      refine V.iald (pc := 44) (z := 192) (o := 481 + 5) hG sta_481.out sta_481.out.n hp1 g14 dX11_circuitOutput_44 ?_
      exact fin dX11_circuitOutput_45 ((hi5 _ _)) rfl (by decide) (by decide) hi5 hw6 h
    · have h := f13 c11
      clear t12 f13
      refine V.pick [] rfl ?_
      exact jn23 i2 r3 hi5 hw6 h
set_option maxRecDepth 100000 in
set_option maxHeartbeats 4000000 in
theorem sm_X11_circuitMemory (l : Launch) (Δ : Wd) {i r : MI} {p1 : Int} {p2 : Int} (hp1 : sR p1) (hp2 : sR p2) {Q : Int → MI → MI → Prop} {X : String → MI → MI → Prop} (hst : l.stackTraces = false) (hi : okI i) (hw : Wf r) (h : wp_X11_circuitMemory p1 p2 i r Q X) : vx_Met l yX11_circuitMemory (Cond.code yX11_circuitMemory cX11_circuitMemory 3 (some .int) :: gW) (sRx 6 145 1 6) (sPc Δ [.ref (sA Δ 0), .int (sJ p1), .int (sJ p2)] i r) (sQi Δ (Q)) (sX Δ (X)) 1 6 (sFr Δ) := by
  refine Cx.i (ty := .int) (by decide) rfl (Nat.le_of_ble_eq_true rfl) hst (by decide) (by decide) (fun Γ Q0 hG fin xout xthr => ?_)
  have hG : okG Γ Δ l (sRx 6 145 1 6) cX11_circuitMemory "Schedulary" 3 := hG
  show V Γ Δ 504 false i r 0 0 Q0 0 [(0, .ref (sA Δ 0)), (1, .int (sJ p1)), (2, .int (sJ p2))] []
  refine V.iload_n (pc := 0) hG dX11_circuitMemory_0 rfl 1 rfl ?_
  refine V.iload_n (pc := 1) hG dX11_circuitMemory_1 rfl 2 rfl ?_
  refine V.callSi (pc := 2) (As := [.int (sJ p1), .int (sJ p2)]) (stk := []) hG (sm_X11_isPlace l Δ hp1 hp2 hi hw h) mY_X11_isPlace kw_1267 kw_1268 ⟨Nat.le_of_ble_eq_true rfl, Nat.le_of_ble_eq_true rfl, Nat.le_of_ble_eq_true rfl, Nat.le_of_ble_eq_true rfl⟩ rfl (Nat.le_of_ble_eq_true rfl) dX11_circuitMemory_2 rfl (fun v1 i2 r3 hv4 hi5 hw6 hq7 => ?_)
  obtain ⟨e38, e39, h⟩ := hq7
  subst e38
  subst e39
  obtain ⟨f10, t9⟩ := h
  refine V.if_ne (pc := 5) (tgt := 18) hG hv4 dX11_circuitMemory_5 (by decide) (fun c8 => ?_) (fun c8 => ?_)
  · have h := t9 c8
    clear t9 f10
    refine V.aload_n (pc := 18) hG dX11_circuitMemory_18 rfl 0 rfl ?_
    refine V.iconst (pc := 19) hG dX11_circuitMemory_19 ?_
    refine V.callVv (pc := 20) (As := [.int (sJ 5)]) (stk := []) hG (sm_X11_prepare l Δ ((sR_l rfl)) hi hw h) mY_X11_prepare kw_621 kw_623 kw_14 a_0 (by decide) (q := (RX11, TX11, 11)) rfl rfl ⟨Nat.le_of_ble_eq_true rfl, Nat.le_of_ble_eq_true rfl, Nat.le_of_ble_eq_true rfl, Nat.le_of_ble_eq_true rfl⟩ rfl (Nat.le_of_ble_eq_true rfl) dX11_circuitMemory_20 rfl (fun i12 r13 hi15 hw16 hq17 => ?_)
    have h := hq17
    refine V.aload_n (pc := 23) hG dX11_circuitMemory_23 rfl 0 rfl ?_
    refine V.getR (x := 480) (pc := 24) (ci := 13) (k := 7) (M := 11) (T := TX11) (o := 0) (kz := 7) hG a_0 a_0.n (by decide) hin_X11 rfl (by decide) (by decide) rfl kw_530 rfl ((hw16).1 (0, 7, 480) (by decide)) (by decide) dX11_circuitMemory_24 ?_
    refine V.getRN (x := 481) (pc := 27) (ci := 3) (k := 0) (M := 2) (T := TX1) (o := 480) (kz := 0) hG a_480 a_480.n (by decide) hin_X1 rfl (by decide) (by decide) rfl kw_485 rfl ((hw16).1 (480, 0, 481) (by decide)) (by decide) dX11_circuitMemory_27 ?_
    refine V.ldcS (pc := 30) (k := 2) (tx := "MN") hG (by decide) dX11_circuitMemory_30 ?_
    refine V.iload_n (pc := 32) hG dX11_circuitMemory_32 rfl 1 rfl ?_
    refine V.callVSi (pc := 33) (As := [.int (sJ p1)]) (stk := [.ref (sA Δ 481)]) hG (sm_J0_indexOf_0f7a4 l Δ (by decide) hp1 hi15 hw16 h) mY_J0_indexOf_0f7a4 kw_1014 kw_1015 kw_1016 (by decide) rfl ⟨Nat.le_of_ble_eq_true rfl, Nat.le_of_ble_eq_true rfl, Nat.le_of_ble_eq_true rfl, Nat.le_of_ble_eq_true rfl⟩ rfl (Nat.le_of_ble_eq_true rfl) dX11_circuitMemory_33 rfl (fun v18 i19 r20 hv21 hi22 hw23 hq24 => ?_)
    obtain ⟨e34, e35, h⟩ := hq24
    subst e34
    subst e35
    refine V.iload_n (pc := 36) hG dX11_circuitMemory_36 rfl 2 rfl ?_
    refine V.callVNi (pc := 37) (As := [.int (sJ v18), .int (sJ p2)]) (stk := []) hG (sm_X7_look l Δ sta_481 hv21 hp2 hi15 hw16 h) mY_X7_look kw_1333 kw_596 kw_8 a_481 (by decide) (q := (RX7, TX7, 5)) rfl rfl ⟨Nat.le_of_ble_eq_true rfl, Nat.le_of_ble_eq_true rfl, Nat.le_of_ble_eq_true rfl, Nat.le_of_ble_eq_true rfl⟩ rfl (Nat.le_of_ble_eq_true rfl) dX11_circuitMemory_37 rfl (fun v25 i26 r27 hv28 hi29 hw30 hq31 => ?_)
    obtain ⟨e32, e33, h⟩ := hq31
    subst e32
    subst e33
    exact fin dX11_circuitMemory_40 hv28 rfl (by decide) (by decide) hi15 hw16 h
  · have h := f10 c8
    clear t9 f10
    exact xthr ⟨88, 228, 92, "no such place", by decide, kw_1096, kw_125, by decide, .inl th_92, dX11_circuitMemory_8, dX11_circuitMemory_11, Or.inl ⟨dX11_circuitMemory_12, dX11_circuitMemory_14, dX11_circuitMemory_17⟩⟩ (by decide) (by decide) hi hw h
set_option maxRecDepth 100000 in
set_option maxHeartbeats 4000000 in
theorem sm_X7_hasMemoriesOf (l : Launch) (Δ : Wd) {i r : MI} {o0 : Int} {o1 : Int} (ho0 : sta o0) (ho1 : sta o1) {Q : Int → Prop} (hi : okI i) (hw : Wf r) (h : wp_X7_hasMemoriesOf o0 o1 i r Q) : Met l yX7_hasMemoriesOf (Cond.code yX7_hasMemoriesOf cX7_hasMemoriesOf 4 (some .boolean) :: gW) (sRm 0 0) (sPc Δ [.ref (sA Δ o0), .ref (sA Δ o1)] i r) (sQi Δ (fun x i' r' => i = i' ∧ r = r' ∧ Q x)) 0 0 (sFr Δ) := by
  refine Ct.i (ty := .boolean) (by decide) rfl (Nat.le_of_ble_eq_true rfl) (fun Γ Q0 hG fin => ?_)
  have hG : okG Γ Δ l (sRm 0 0) cX7_hasMemoriesOf "Schedulary$State" 4 := hG
  show V Γ Δ 504 false i r 0 0 Q0 0 [(0, .ref (sA Δ o0)), (1, .ref (sA Δ o1))] []
  refine V.iconst (pc := 0) hG dX7_hasMemoriesOf_0 ?_
  refine V.istore_n (pc := 1) (lv' := [(2, .int (sJ 0)), (0, .ref (sA Δ o0)), (1, .ref (sA Δ o1))]) hG dX7_hasMemoriesOf_1 rfl (by decide) rfl ?_
  obtain ⟨n25, h⟩ := h
  have lp2 : ∀ (m2 : Nat) (x2_2 : Int), sR x2_2 → LoopP (b2_X7_hasMemoriesOf o0 o1 i r Q) m2 (x2_2) → V Γ Δ 504 false i r 0 0 Q0 2 [(0, .ref (sA Δ o0)), (1, .ref (sA Δ o1)), (2, .int (sJ x2_2))] [] := by
    intro m2
    induction m2 with
    | zero => intro x2_2 hx2_2 h; exact h.elim
    | succ m2 ih2 =>
      intro x2_2 hx2_2 h
      have h := LoopP_succ h
      refine V.iload_n (pc := 2) hG dX7_hasMemoriesOf_2 rfl 2 rfl ?_
      refine V.iconst (pc := 3) hG dX7_hasMemoriesOf_3 ?_
      obtain ⟨t27, f28⟩ := h
      refine V.icmp_ge (pc := 4) (tgt := 48) hG hx2_2 ((sR_l rfl)) dX7_hasMemoriesOf_4 (by decide) (fun c26 => ?_) (fun c26 => ?_)
      · have h := t27 c26
        clear t27 f28
        refine V.iconst (pc := 48) hG dX7_hasMemoriesOf_48 ?_
        exact fin dX7_hasMemoriesOf_49 ((sR_l rfl)) (nar_z (by decide)) hi hw ⟨rfl, rfl, h⟩
      · have h := f28 c26
        clear t27 f28
        refine V.iconst (pc := 7) hG dX7_hasMemoriesOf_7 ?_
        refine V.istore_n (pc := 8) (lv' := [(3, .int (sJ 0)), (0, .ref (sA Δ o0)), (1, .ref (sA Δ o1)), (2, .int (sJ x2_2))]) hG dX7_hasMemoriesOf_8 rfl (by decide) rfl ?_
        obtain ⟨n29, h⟩ := h
        have lp9 : ∀ (m9 : Nat) (x3_9 : Int), sR x3_9 → LoopP (b9_X7_hasMemoriesOf o0 o1 x2_2 i r Q (LoopP (b2_X7_hasMemoriesOf o0 o1 i r Q) m2)) m9 (x3_9) → V Γ Δ 504 false i r 0 0 Q0 9 [(0, .ref (sA Δ o0)), (1, .ref (sA Δ o1)), (2, .int (sJ x2_2)), (3, .int (sJ x3_9))] [] := by
          intro m9
          induction m9 with
          | zero => intro x3_9 hx3_9 h; exact h.elim
          | succ m9 ih9 =>
            intro x3_9 hx3_9 h
            have h := LoopP_succ h
            refine V.iload_n (pc := 9) hG dX7_hasMemoriesOf_9 rfl 3 rfl ?_
            refine V.bipush (pc := 10) hG dX7_hasMemoriesOf_10 (by decide) ?_
            obtain ⟨t31, f32⟩ := h
            refine V.icmp_ge (pc := 12) (tgt := 42) hG hx3_9 ((sR_l rfl)) dX7_hasMemoriesOf_12 (by decide) (fun c30 => ?_) (fun c30 => ?_)
            · have h := t31 c30
              clear t31 f32
              refine V.iinc (pc := 42) (lv' := [(2, .int (sJ (wr (x2_2 + 1)))), (0, .ref (sA Δ o0)), (1, .ref (sA Δ o1)), (3, .int (sJ x3_9))]) hG dX7_hasMemoriesOf_42 2 rfl (by decide) rfl ?_
              refine V.goto (pc := 45) (tgt := 2) hG dX7_hasMemoriesOf_45 (by decide) ?_
              refine V.pick [1, 2, 0] rfl ?_
              exact ih2 (wr (x2_2 + 1)) ((sR_wr _)) h
            · have h := f32 c30
              clear t31 f32
              refine V.aload_n (pc := 15) hG dX7_hasMemoriesOf_15 rfl 0 rfl ?_
              refine V.getR (x := o0 + 2) (pc := 16) (ci := 9) (k := 1) (M := 5) (T := TX7) (o := o0) (kz := 1) hG ho0.o ho0.o.n (by decide) hin_X7 rfl (by decide) (by decide) rfl kw_251 rfl ((hw.2.2.2.1 _ ho0).2.1) (by have := sta.pos (ho0); omega) dX7_hasMemoriesOf_16 ?_
              refine V.iload_n (pc := 19) hG dX7_hasMemoriesOf_19 rfl 2 rfl ?_
              obtain ⟨g33, h⟩ := h
              refine V.aald (pc := 20) 7 (z := 2) (o := o0 + 2) (x := x2_2) (y := o0 + 3 + x2_2) hG ho0.mm ho0.mm.n (by decide) hx2_2 g33 (Wf.mem hw ho0 g33) (by have := sta.pos ho0; omega) dX7_hasMemoriesOf_20 ?_
              refine V.iload_n (pc := 21) hG dX7_hasMemoriesOf_21 rfl 3 rfl ?_
              obtain ⟨g34, h⟩ := h
              refine V.iald (pc := 22) (z := 16) (o := o0 + 3 + x2_2) hG (sta.row ho0 g33) ((sta.row ho0 g33)).n hx3_9 g34 dX7_hasMemoriesOf_22 ?_
              refine V.aload_n (pc := 23) hG dX7_hasMemoriesOf_23 rfl 1 rfl ?_
              refine V.getR (x := o1 + 2) (pc := 24) (ci := 9) (k := 1) (M := 5) (T := TX7) (o := o1) (kz := 1) hG ho1.o ho1.o.n (by decide) hin_X7 rfl (by decide) (by decide) rfl kw_251 rfl ((hw.2.2.2.1 _ ho1).2.1) (by have := sta.pos (ho1); omega) dX7_hasMemoriesOf_24 ?_
              refine V.iload_n (pc := 27) hG dX7_hasMemoriesOf_27 rfl 2 rfl ?_
              obtain ⟨g35, h⟩ := h
              refine V.aald (pc := 28) 7 (z := 2) (o := o1 + 2) (x := x2_2) (y := o1 + 3 + x2_2) hG ho1.mm ho1.mm.n (by decide) hx2_2 g35 (Wf.mem hw ho1 g35) (by have := sta.pos ho1; omega) dX7_hasMemoriesOf_28 ?_
              refine V.iload_n (pc := 29) hG dX7_hasMemoriesOf_29 rfl 3 rfl ?_
              obtain ⟨g36, h⟩ := h
              refine V.iald (pc := 30) (z := 16) (o := o1 + 3 + x2_2) hG (sta.row ho1 g35) ((sta.row ho1 g35)).n hx3_9 g36 dX7_hasMemoriesOf_30 ?_
              obtain ⟨t38, f39⟩ := h
              refine V.icmp_eq (pc := 31) (tgt := 36) hG ((hi _ _)) ((hi _ _)) dX7_hasMemoriesOf_31 (by decide) (fun c37 => ?_) (fun c37 => ?_)
              · have h := t38 c37
                clear t38 f39
                refine V.iinc (pc := 36) (lv' := [(3, .int (sJ (wr (x3_9 + 1)))), (0, .ref (sA Δ o0)), (1, .ref (sA Δ o1)), (2, .int (sJ x2_2))]) hG dX7_hasMemoriesOf_36 3 rfl (by decide) rfl ?_
                refine V.goto (pc := 39) (tgt := 9) hG dX7_hasMemoriesOf_39 (by decide) ?_
                refine V.pick [1, 2, 3, 0] rfl ?_
                exact ih9 (wr (x3_9 + 1)) ((sR_wr _)) h
              · have h := f39 c37
                clear t38 f39
                refine V.iconst (pc := 34) hG dX7_hasMemoriesOf_34 ?_
                exact fin dX7_hasMemoriesOf_35 ((sR_l rfl)) (nar_z (by decide)) hi hw ⟨rfl, rfl, h⟩
        refine V.pick [1, 2, 3, 0] rfl ?_
        exact lp9 n29 0 ((sR_l rfl)) h
  refine V.pick [1, 2, 0] rfl ?_
  exact lp2 n25 0 ((sR_l rfl)) h
set_option maxRecDepth 100000 in
set_option maxHeartbeats 4000000 in
theorem sm_X7_hasRegistersOf (l : Launch) (Δ : Wd) {i r : MI} {o0 : Int} {o1 : Int} (ho0 : sta o0) (ho1 : sta o1) {Q : Int → Prop} (hi : okI i) (hw : Wf r) (h : wp_X7_hasRegistersOf o0 o1 i r Q) : Met l yX7_hasRegistersOf (Cond.code yX7_hasRegistersOf cX7_hasRegistersOf 3 (some .boolean) :: gW) (sRm 0 0) (sPc Δ [.ref (sA Δ o0), .ref (sA Δ o1)] i r) (sQi Δ (fun x i' r' => i = i' ∧ r = r' ∧ Q x)) 0 0 (sFr Δ) := by
  refine Ct.i (ty := .boolean) (by decide) rfl (Nat.le_of_ble_eq_true rfl) (fun Γ Q0 hG fin => ?_)
  have hG : okG Γ Δ l (sRm 0 0) cX7_hasRegistersOf "Schedulary$State" 3 := hG
  show V Γ Δ 504 false i r 0 0 Q0 0 [(0, .ref (sA Δ o0)), (1, .ref (sA Δ o1))] []
  refine V.iconst (pc := 0) hG dX7_hasRegistersOf_0 ?_
  refine V.istore_n (pc := 1) (lv' := [(2, .int (sJ 0)), (0, .ref (sA Δ o0)), (1, .ref (sA Δ o1))]) hG dX7_hasRegistersOf_1 rfl (by decide) rfl ?_
  obtain ⟨n9, h⟩ := h
  have lp2 : ∀ (m2 : Nat) (x2_2 : Int), sR x2_2 → LoopP (b2_X7_hasRegistersOf o0 o1 i r Q) m2 (x2_2) → V Γ Δ 504 false i r 0 0 Q0 2 [(0, .ref (sA Δ o0)), (1, .ref (sA Δ o1)), (2, .int (sJ x2_2))] [] := by
    intro m2
    induction m2 with
    | zero => intro x2_2 hx2_2 h; exact h.elim
    | succ m2 ih2 =>
      intro x2_2 hx2_2 h
      have h := LoopP_succ h
      refine V.iload_n (pc := 2) hG dX7_hasRegistersOf_2 rfl 2 rfl ?_
      refine V.bipush (pc := 3) hG dX7_hasRegistersOf_3 (by decide) ?_
      obtain ⟨t11, f12⟩ := h
      refine V.icmp_ge (pc := 5) (tgt := 31) hG hx2_2 ((sR_l rfl)) dX7_hasRegistersOf_5 (by decide) (fun c10 => ?_) (fun c10 => ?_)
      · have h := t11 c10
        clear t11 f12
        refine V.iconst (pc := 31) hG dX7_hasRegistersOf_31 ?_
        exact fin dX7_hasRegistersOf_32 ((sR_l rfl)) (nar_z (by decide)) hi hw ⟨rfl, rfl, h⟩
      · have h := f12 c10
        clear t11 f12
        refine V.aload_n (pc := 8) hG dX7_hasRegistersOf_8 rfl 0 rfl ?_
        refine V.getR (x := o0 + 1) (pc := 9) (ci := 9) (k := 0) (M := 5) (T := TX7) (o := o0) (kz := 0) hG ho0.o ho0.o.n (by decide) hin_X7 rfl (by decide) (by decide) rfl kw_248 rfl ((hw.2.2.2.1 _ ho0).1) (by have := sta.pos (ho0); omega) dX7_hasRegistersOf_9 ?_
        refine V.iload_n (pc := 12) hG dX7_hasRegistersOf_12 rfl 2 rfl ?_
        obtain ⟨g13, h⟩ := h
        refine V.iald (pc := 13) (z := 8) (o := o0 + 1) hG ho0.r ho0.r.n hx2_2 g13 dX7_hasRegistersOf_13 ?_
        refine V.aload_n (pc := 14) hG dX7_hasRegistersOf_14 rfl 1 rfl ?_
        refine V.getR (x := o1 + 1) (pc := 15) (ci := 9) (k := 0) (M := 5) (T := TX7) (o := o1) (kz := 0) hG ho1.o ho1.o.n (by decide) hin_X7 rfl (by decide) (by decide) rfl kw_248 rfl ((hw.2.2.2.1 _ ho1).1) (by have := sta.pos (ho1); omega) dX7_hasRegistersOf_15 ?_
        refine V.iload_n (pc := 18) hG dX7_hasRegistersOf_18 rfl 2 rfl ?_
        obtain ⟨g14, h⟩ := h
        refine V.iald (pc := 19) (z := 8) (o := o1 + 1) hG ho1.r ho1.r.n hx2_2 g14 dX7_hasRegistersOf_19 ?_
        obtain ⟨t16, f17⟩ := h
        refine V.icmp_eq (pc := 20) (tgt := 25) hG ((hi _ _)) ((hi _ _)) dX7_hasRegistersOf_20 (by decide) (fun c15 => ?_) (fun c15 => ?_)
        · have h := t16 c15
          clear t16 f17
          refine V.iinc (pc := 25) (lv' := [(2, .int (sJ (wr (x2_2 + 1)))), (0, .ref (sA Δ o0)), (1, .ref (sA Δ o1))]) hG dX7_hasRegistersOf_25 2 rfl (by decide) rfl ?_
          refine V.goto (pc := 28) (tgt := 2) hG dX7_hasRegistersOf_28 (by decide) ?_
          refine V.pick [1, 2, 0] rfl ?_
          exact ih2 (wr (x2_2 + 1)) ((sR_wr _)) h
        · have h := f17 c15
          clear t16 f17
          refine V.iconst (pc := 23) hG dX7_hasRegistersOf_23 ?_
          exact fin dX7_hasRegistersOf_24 ((sR_l rfl)) (nar_z (by decide)) hi hw ⟨rfl, rfl, h⟩
  refine V.pick [1, 2, 0] rfl ?_
  exact lp2 n9 0 ((sR_l rfl)) h
set_option maxRecDepth 100000 in
set_option maxHeartbeats 4000000 in
theorem sm_X7_isLike (l : Launch) (Δ : Wd) {i r : MI} {o0 : Int} {o1 : Int} (ho0 : sta o0) (ho1 : sta o1) {Q : Int → Prop} (hi : okI i) (hw : Wf r) (h : wp_X7_isLike o0 o1 i r Q) : Met l yX7_isLike (Cond.code yX7_isLike cX7_isLike 3 (some .boolean) :: gW) (sRm 1 23) (sPc Δ [.ref (sA Δ o0), .ref (sA Δ o1)] i r) (sQi Δ (fun x i' r' => i = i' ∧ r = r' ∧ Q x)) 0 0 (sFr Δ) := by
  refine Ct.i (ty := .boolean) (by decide) rfl (Nat.le_of_ble_eq_true rfl) (fun Γ Q0 hG fin => ?_)
  have hG : okG Γ Δ l (sRm 1 23) cX7_isLike "Schedulary$State" 3 := hG
  show V Γ Δ 504 false i r 0 0 Q0 0 [(0, .ref (sA Δ o0)), (1, .ref (sA Δ o1))] []
  have jn67 : ∀ (k0j67 : Int), sR k0j67 → s67_X7_isLike k0j67 i r Q → V Γ Δ 504 false i r 0 0 Q0 67 [] [.int (sJ k0j67)] := by
    intro k0j67 hk0j67 h
    obtain ⟨g2, h⟩ := h
    exact fin dX7_isLike_67 hk0j67 (nar_z g2) hi hw ⟨rfl, rfl, h⟩
  have jn66 : s66_X7_isLike i r Q → V Γ Δ 504 false i r 0 0 Q0 66 [] [] := by
    intro h
    refine V.iconst (pc := 66) hG dX7_isLike_66 ?_
    exact jn67 0 ((sR_l rfl)) h
  refine V.aload_n (pc := 0) hG dX7_isLike_0 rfl 0 rfl ?_
  refine V.getI (pc := 1) (ci := 9) (k := 3) (M := 5) (T := TX7) (o := o0) (kz := 3) hG ho0.o ho0.o.n (by decide) hin_X7 rfl (by decide) (by decide) rfl kw_254 rfl dX7_isLike_1 ?_
  refine V.aload_n (pc := 4) hG dX7_isLike_4 rfl 1 rfl ?_
  refine V.getI (pc := 5) (ci := 9) (k := 3) (M := 5) (T := TX7) (o := o1) (kz := 3) hG ho1.o ho1.o.n (by decide) hin_X7 rfl (by decide) (by decide) rfl kw_254 rfl dX7_isLike_5 ?_
  obtain ⟨t4, f5⟩ := h
  refine V.icmp_eq (pc := 8) (tgt := 13) hG ((hi _ _)) ((hi _ _)) dX7_isLike_8 (by decide) (fun c3 => ?_) (fun c3 => ?_)
  · have h := t4 c3
    clear t4 f5
    refine V.iconst (pc := 13) hG dX7_isLike_13 ?_
    refine V.istore_n (pc := 14) (lv' := [(2, .int (sJ 0)), (0, .ref (sA Δ o0)), (1, .ref (sA Δ o1))]) hG dX7_isLike_14 rfl (by decide) rfl ?_
    obtain ⟨n38, h⟩ := h
    have lp15 : ∀ (m15 : Nat) (x2_15 : Int), sR x2_15 → LoopP (b15_X7_isLike o0 o1 i r Q) m15 (x2_15) → V Γ Δ 504 false i r 0 0 Q0 15 [(0, .ref (sA Δ o0)), (1, .ref (sA Δ o1)), (2, .int (sJ x2_15))] [] := by
      intro m15
      induction m15 with
      | zero => intro x2_15 hx2_15 h; exact h.elim
      | succ m15 ih15 =>
        intro x2_15 hx2_15 h
        have h := LoopP_succ h
        refine V.iload_n (pc := 15) hG dX7_isLike_15 rfl 2 rfl ?_
        refine V.aload_n (pc := 16) hG dX7_isLike_16 rfl 0 rfl ?_
        refine V.getI (pc := 17) (ci := 9) (k := 3) (M := 5) (T := TX7) (o := o0) (kz := 3) hG ho0.o ho0.o.n (by decide) hin_X7 rfl (by decide) (by decide) rfl kw_254 rfl dX7_isLike_17 ?_
        obtain ⟨t40, f41⟩ := h
        refine V.icmp_ge (pc := 20) (tgt := 46) hG hx2_15 ((hi _ _)) dX7_isLike_20 (by decide) (fun c39 => ?_) (fun c39 => ?_)
        · have h := t40 c39
          clear t40 f41
          refine V.aload_n (pc := 46) hG dX7_isLike_46 rfl 0 rfl ?_
          refine V.aload_n (pc := 47) hG dX7_isLike_47 rfl 1 rfl ?_
          refine V.callVi (pc := 48) (As := [.ref (sA Δ o1)]) (stk := []) hG (sm_X7_hasRegistersOf l Δ ho0 ho1 hi hw h) mY_X7_hasRegistersOf kw_898 kw_900 kw_73 ho0.o (by decide) (q := (RX7, TX7, 5)) rfl rfl ⟨Nat.le_of_ble_eq_true rfl, Nat.le_of_ble_eq_true rfl, Nat.le_of_ble_eq_true rfl, Nat.le_of_ble_eq_true rfl⟩ rfl (Nat.le_of_ble_eq_true rfl) dX7_isLike_48 rfl (fun v42 i43 r44 hv45 hi46 hw47 hq48 => ?_)
          obtain ⟨e64, e65, h⟩ := hq48
          subst e64
          subst e65
          obtain ⟨t50, f51⟩ := h
          refine V.if_eq (pc := 51) (tgt := 66) hG hv45 dX7_isLike_51 (by decide) (fun c49 => ?_) (fun c49 => ?_)
          · have h := t50 c49
            clear t50 f51
            refine V.pick [] rfl ?_
            exact jn66 h
          · have h := f51 c49
            clear t50 f51
            refine V.aload_n (pc := 54) hG dX7_isLike_54 rfl 0 rfl ?_
            refine V.aload_n (pc := 55) hG dX7_isLike_55 rfl 1 rfl ?_
            refine V.callVi (pc := 56) (As := [.ref (sA Δ o1)]) (stk := []) hG (sm_X7_hasMemoriesOf l Δ ho0 ho1 hi hw h) mY_X7_hasMemoriesOf kw_902 kw_904 kw_74 ho0.o (by decide) (q := (RX7, TX7, 5)) rfl rfl ⟨Nat.le_of_ble_eq_true rfl, Nat.le_of_ble_eq_true rfl, Nat.le_of_ble_eq_true rfl, Nat.le_of_ble_eq_true rfl⟩ rfl (Nat.le_of_ble_eq_true rfl) dX7_isLike_56 rfl (fun v52 i53 r54 hv55 hi56 hw57 hq58 => ?_)
            obtain ⟨e62, e63, h⟩ := hq58
            subst e62
            subst e63
            obtain ⟨t60, f61⟩ := h
            refine V.if_eq (pc := 59) (tgt := 66) hG hv55 dX7_isLike_59 (by decide) (fun c59 => ?_) (fun c59 => ?_)
            · have h := t60 c59
              clear t60 f61
              refine V.pick [] rfl ?_
              exact jn66 h
            · have h := f61 c59
              clear t60 f61
              refine V.iconst (pc := 62) hG dX7_isLike_62 ?_
              refine V.goto (pc := 63) (tgt := 67) hG dX7_isLike_63 (by decide) ?_
              refine V.pick [] rfl ?_
              exact jn67 1 ((sR_l rfl)) h
        · have h := f41 c39
          clear t40 f41
          refine V.aload_n (pc := 23) hG dX7_isLike_23 rfl 0 rfl ?_
          refine V.getR (x := o0 + 5) (pc := 24) (ci := 9) (k := 2) (M := 5) (T := TX7) (o := o0) (kz := 2) hG ho0.o ho0.o.n (by decide) hin_X7 rfl (by decide) (by decide) rfl kw_252 rfl ((hw.2.2.2.1 _ ho0).2.2.1) (by have := sta.pos (ho0); omega) dX7_isLike_24 ?_
          refine V.iload_n (pc := 27) hG dX7_isLike_27 rfl 2 rfl ?_
          obtain ⟨g66, h⟩ := h
          refine V.iald (pc := 28) (z := 192) (o := o0 + 5) hG ho0.out ho0.out.n hx2_15 g66 dX7_isLike_28 ?_
          refine V.aload_n (pc := 29) hG dX7_isLike_29 rfl 1 rfl ?_
          refine V.getR (x := o1 + 5) (pc := 30) (ci := 9) (k := 2) (M := 5) (T := TX7) (o := o1) (kz := 2) hG ho1.o ho1.o.n (by decide) hin_X7 rfl (by decide) (by decide) rfl kw_252 rfl ((hw.2.2.2.1 _ ho1).2.2.1) (by have := sta.pos (ho1); omega) dX7_isLike_30 ?_
          refine V.iload_n (pc := 33) hG dX7_isLike_33 rfl 2 rfl ?_
          obtain ⟨g67, h⟩ := h
          refine V.iald (pc := 34) (z := 192) (o := o1 + 5) hG ho1.out ho1.out.n hx2_15 g67 dX7_isLike_34 ?_
          obtain ⟨t69, f70⟩ := h
          refine V.icmp_eq (pc := 35) (tgt := 40) hG ((hi _ _)) ((hi _ _)) dX7_isLike_35 (by decide) (fun c68 => ?_) (fun c68 => ?_)
          · have h := t69 c68
            clear t69 f70
            refine V.iinc (pc := 40) (lv' := [(2, .int (sJ (wr (x2_15 + 1)))), (0, .ref (sA Δ o0)), (1, .ref (sA Δ o1))]) hG dX7_isLike_40 2 rfl (by decide) rfl ?_
            refine V.goto (pc := 43) (tgt := 15) hG dX7_isLike_43 (by decide) ?_
            refine V.pick [1, 2, 0] rfl ?_
            exact ih15 (wr (x2_15 + 1)) ((sR_wr _)) h
          · have h := f70 c68
            clear t69 f70
            refine V.iconst (pc := 38) hG dX7_isLike_38 ?_
            exact fin dX7_isLike_39 ((sR_l rfl)) (nar_z (by decide)) hi hw ⟨rfl, rfl, h⟩
    refine V.pick [1, 2, 0] rfl ?_
    exact lp15 n38 0 ((sR_l rfl)) h
  · have h := f5 c3
    clear t4 f5
    refine V.iconst (pc := 11) hG dX7_isLike_11 ?_
    exact fin dX7_isLike_12 ((sR_l rfl)) (nar_z (by decide)) hi hw ⟨rfl, rfl, h⟩
set_option maxRecDepth 100000 in
set_option maxHeartbeats 4000000 in
theorem sm_X11_isSame (l : Launch) (Δ : Wd) {i r : MI}   {Q : Int → MI → MI → Prop} (hi : okI i) (hw : Wf r) (h : wp_X11_isSame  i r Q) : Met l yX11_isSame (Cond.code yX11_isSame cX11_isSame 1 (some .boolean) :: gW) (sRm 6 145) (sPc Δ [.ref (sA Δ 0)] i r) (sQi Δ (Q)) 0 0 (sFr Δ) := by
  refine Ct.i (ty := .boolean) (by decide) rfl (Nat.le_of_ble_eq_true rfl) (fun Γ Q0 hG fin => ?_)
  have hG : okG Γ Δ l (sRm 6 145) cX11_isSame "Schedulary" 1 := hG
  show V Γ Δ 504 false i r 0 0 Q0 0 [(0, .ref (sA Δ 0))] []
  refine V.aload_n (pc := 0) hG dX11_isSame_0 rfl 0 rfl ?_
  refine V.callVv (pc := 1) (As := []) (stk := []) hG (sm_X11_carryOut l Δ  hi hw h) mY_X11_carryOut kw_561 kw_563 kw_0 a_0 (by decide) (q := (RX11, TX11, 11)) rfl rfl ⟨Nat.le_of_ble_eq_true rfl, Nat.le_of_ble_eq_true rfl, Nat.le_of_ble_eq_true rfl, Nat.le_of_ble_eq_true rfl⟩ rfl (Nat.le_of_ble_eq_true rfl) dX11_isSame_1 rfl (fun i2 r3 hi5 hw6 hq7 => ?_)
  obtain ⟨e28, h⟩ := hq7
  subst e28
  refine V.aload_n (pc := 4) hG dX11_isSame_4 rfl 0 rfl ?_
  refine V.iconst (pc := 5) hG dX11_isSame_5 ?_
  refine V.callVv (pc := 6) (As := [.int (sJ 5)]) (stk := []) hG (sm_X11_prepare l Δ ((sR_l rfl)) hi5 hw h) mY_X11_prepare kw_621 kw_623 kw_14 a_0 (by decide) (q := (RX11, TX11, 11)) rfl rfl ⟨Nat.le_of_ble_eq_true rfl, Nat.le_of_ble_eq_true rfl, Nat.le_of_ble_eq_true rfl, Nat.le_of_ble_eq_true rfl⟩ rfl (Nat.le_of_ble_eq_true rfl) dX11_isSame_6 rfl (fun i9 r10 hi12 hw13 hq14 => ?_)
  have h := hq14
  refine V.aload_n (pc := 9) hG dX11_isSame_9 rfl 0 rfl ?_
  refine V.getR (x := 61) (pc := 10) (ci := 13) (k := 2) (M := 11) (T := TX11) (o := 0) (kz := 2) hG a_0 a_0.n (by decide) hin_X11 rfl (by decide) (by decide) rfl kw_525 rfl ((hw13).1 (0, 2, 61) (by decide)) (by decide) dX11_isSame_10 ?_
  refine V.aload_n (pc := 13) hG dX11_isSame_13 rfl 0 rfl ?_
  refine V.getR (x := 480) (pc := 14) (ci := 13) (k := 7) (M := 11) (T := TX11) (o := 0) (kz := 7) hG a_0 a_0.n (by decide) hin_X11 rfl (by decide) (by decide) rfl kw_530 rfl ((hw13).1 (0, 7, 480) (by decide)) (by decide) dX11_isSame_14 ?_
  refine V.getRN (x := 481) (pc := 17) (ci := 3) (k := 0) (M := 2) (T := TX1) (o := 480) (kz := 0) hG a_480 a_480.n (by decide) hin_X1 rfl (by decide) (by decide) rfl kw_485 rfl ((hw13).1 (480, 0, 481) (by decide)) (by decide) dX11_isSame_17 ?_
  refine V.callVNi (pc := 20) (As := [.ref (sA Δ 481)]) (stk := []) hG (sm_X7_isLike l Δ sta_61 sta_481 hi12 hw13 h) mY_X7_isLike kw_894 kw_896 kw_72 a_61 (by decide) (q := (RX7, TX7, 5)) rfl rfl ⟨Nat.le_of_ble_eq_true rfl, Nat.le_of_ble_eq_true rfl, Nat.le_of_ble_eq_true rfl, Nat.le_of_ble_eq_true rfl⟩ rfl (Nat.le_of_ble_eq_true rfl) dX11_isSame_20 rfl (fun v15 i16 r17 hv18 hi19 hw20 hq21 => ?_)
  obtain ⟨e23, e24, h⟩ := hq21
  subst e23
  subst e24
  obtain ⟨g22, h⟩ := h
  exact fin dX11_isSame_23 hv18 (nar_z g22) hi12 hw13 h
set_option maxRecDepth 100000 in
set_option maxHeartbeats 4000000 in
theorem sm_X5_append (l : Launch) (Δ : Wd) {i r : MI} {p1 : Int} {p2 : Int} {p3 : Int} (hp1 : sR p1) (hp2 : sR p2) (hp3 : sR p3) {Q : Int → MI → Prop} (hi : okI i) (hw : Wf r) (h : wp_X5_append p1 p2 p3 i r Q) : Met l yX5_append (Cond.code yX5_append cX5_append 5 (some .int) :: gW) (sRm 0 0) (sPc Δ [.ref (sA Δ 488), .int (sJ p1), .int (sJ p2), .int (sJ p3)] i r) (sQi Δ (fun x i' r' => r = r' ∧ Q x i')) 0 0 (sFr Δ) := by
  refine Ct.i (ty := .int) (by decide) rfl (Nat.le_of_ble_eq_true rfl) (fun Γ Q0 hG fin => ?_)
  have hG : okG Γ Δ l (sRm 0 0) cX5_append "Schedulary$Processes" 5 := hG
  show V Γ Δ 504 false i r 0 0 Q0 0 [(0, .ref (sA Δ 488)), (1, .int (sJ p1)), (2, .int (sJ p2)), (3, .int (sJ p3))] []
  have jn53 : ∀  (ij53 : MI), okI ij53 → s53_X5_append p1 ij53 r Q → V Γ Δ 504 false ij53 r 0 0 Q0 53 [(0, .ref (sA Δ 488)), (1, .int (sJ p1))] [] := by
    intro ij53 hij53 h
    refine V.aload_n (pc := 53) hG dX5_append_53 rfl 0 rfl ?_
    refine V.getR (x := 499) (pc := 54) (ci := 7) (k := 2) (M := 7) (T := TX5) (o := 488) (kz := 2) hG a_488 a_488.n (by decide) hin_X5 rfl (by decide) (by decide) rfl kw_501 rfl ((hw).1 (488, 2, 499) (by decide)) (by decide) dX5_append_54 ?_
    refine V.iload_n (pc := 57) hG dX5_append_57 rfl 1 rfl ?_
    obtain ⟨g2, h⟩ := h
    refine V.iald (pc := 58) (z := 4) (o := 499) hG a_499 a_499.n hp1 g2 dX5_append_58 ?_
    exact fin dX5_append_59 ((hij53 _ _)) rfl hij53 hw ⟨rfl, h⟩
  have jn42 : ∀ (x4j42 : Int) (k0j42 : Int) (k1j42 : Int) (k2j42 : Int) (ij42 : MI), sR x4j42 → isA k0j42 (20, 16) → sR k1j42 → sR k2j42 → okI ij42 → s42_X5_append p1 x4j42 k0j42 k1j42 k2j42 ij42 r Q → V Γ Δ 504 false ij42 r 0 0 Q0 42 [(0, .ref (sA Δ 488)), (1, .int (sJ p1)), (4, .int (sJ x4j42))] [.int (sJ k2j42), .int (sJ k1j42), .ref (sA Δ k0j42)] := by
    intro x4j42 k0j42 k1j42 k2j42 ij42 hx4j42 hk0j42 hk1j42 hk2j42 hij42 h
    obtain ⟨g5, h⟩ := h
    refine V.iast (pc := 42) (z := 16) (o := k0j42) hG hk0j42 hk0j42.n hk1j42 g5 dX5_append_42 ?_
    refine V.aload_n (pc := 43) hG dX5_append_43 rfl 0 rfl ?_
    refine V.getR (x := 499) (pc := 44) (ci := 7) (k := 2) (M := 7) (T := TX5) (o := 488) (kz := 2) hG a_488 a_488.n (by decide) hin_X5 rfl (by decide) (by decide) rfl kw_501 rfl ((hw).1 (488, 2, 499) (by decide)) (by decide) dX5_append_44 ?_
    refine V.iload_n (pc := 47) hG dX5_append_47 rfl 1 rfl ?_
    refine V.iload (pc := 48) hG dX5_append_48 2 rfl ?_
    refine V.iconst (pc := 50) hG dX5_append_50 ?_
    refine V.iadd (pc := 51) hG dX5_append_51 ?_
    obtain ⟨g6, h⟩ := h
    refine V.iast (pc := 52) (z := 4) (o := 499) hG a_499 a_499.n hp1 g6 dX5_append_52 ?_
    refine V.pick [0, 1] rfl ?_
    exact jn53 (st (st ij42 k0j42 k1j42 k2j42) 499 p1 (wr (x4j42 + 1))) ((okI_st ((okI_st hij42 hk2j42)) ((sR_wr _)))) h
  refine V.aload_n (pc := 0) hG dX5_append_0 rfl 0 rfl ?_
  refine V.getR (x := 499) (pc := 1) (ci := 7) (k := 2) (M := 7) (T := TX5) (o := 488) (kz := 2) hG a_488 a_488.n (by decide) hin_X5 rfl (by decide) (by decide) rfl kw_501 rfl ((hw).1 (488, 2, 499) (by decide)) (by decide) dX5_append_1 ?_
  refine V.iload_n (pc := 4) hG dX5_append_4 rfl 1 rfl ?_
  obtain ⟨g7, h⟩ := h
  refine V.iald (pc := 5) (z := 4) (o := 499) hG a_499 a_499.n hp1 g7 dX5_append_5 ?_
  refine V.istore (pc := 6) (lv' := [(4, .int (sJ (i 499 p1))), (0, .ref (sA Δ 488)), (1, .int (sJ p1)), (2, .int (sJ p2)), (3, .int (sJ p3))]) hG dX5_append_6 (by decide) rfl ?_
  refine V.iload (pc := 8) hG dX5_append_8 0 rfl ?_
  refine V.bipush (pc := 10) hG dX5_append_10 (by decide) ?_
  obtain ⟨t9, f10⟩ := h
  refine V.icmp_ge (pc := 12) (tgt := 53) hG ((hi _ _)) ((sR_l rfl)) dX5_append_12 (by decide) (fun c8 => ?_) (fun c8 => ?_)
  · have h := t9 c8
    clear t9 f10
    refine V.pick [1, 2] rfl ?_
    exact jn53 i hi h
  · have h := f10 c8
    clear t9 f10
    refine V.aload_n (pc := 15) hG dX5_append_15 rfl 1 rfl ?_
    refine V.getR (x := 489) (pc := 16) (ci := 7) (k := 0) (M := 7) (T := TX5) (o := 488) (kz := 0) hG a_488 a_488.n (by decide) hin_X5 rfl (by decide) (by decide) rfl kw_499 rfl ((hw).1 (488, 0, 489) (by decide)) (by decide) dX5_append_16 ?_
    refine V.iload_n (pc := 19) hG dX5_append_19 rfl 2 rfl ?_
    obtain ⟨g11, h⟩ := h
    refine V.aald (pc := 20) 7 (z := 4) (o := 489) (x := p1) (y := 490 + p1) hG a_489 a_489.n (by decide) hp1 g11 (hw.2.1 (489, 4, 490) (by decide) _ g11.1 g11.2) (by omega) dX5_append_20 ?_
    refine V.iload (pc := 21) hG dX5_append_21 0 rfl ?_
    refine V.iload_n (pc := 23) hG dX5_append_23 rfl 3 rfl ?_
    obtain ⟨g12, h⟩ := h
    refine V.iast (pc := 24) (z := 16) (o := 490 + p1) hG (row_489 g11) ((row_489 g11)).n ((hi _ _)) g12 dX5_append_24 ?_
    refine V.aload_n (pc := 25) hG dX5_append_25 rfl 1 rfl ?_
    refine V.getR (x := 494) (pc := 26) (ci := 7) (k := 1) (M := 7) (T := TX5) (o := 488) (kz := 1) hG a_488 a_488.n (by decide) hin_X5 rfl (by decide) (by decide) rfl kw_500 rfl ((hw).1 (488, 1, 494) (by decide)) (by decide) dX5_append_26 ?_
    refine V.iload_n (pc := 29) hG dX5_append_29 rfl 2 rfl ?_
    obtain ⟨g13, h⟩ := h
    refine V.aald (pc := 30) 7 (z := 4) (o := 494) (x := p1) (y := 495 + p1) hG a_494 a_494.n (by decide) hp1 g13 (hw.2.1 (494, 4, 495) (by decide) _ g13.1 g13.2) (by omega) dX5_append_30 ?_
    refine V.iload (pc := 31) hG dX5_append_31 0 rfl ?_
    refine V.iload_n (pc := 33) hG dX5_append_33 rfl 4 rfl ?_
    obtain ⟨t15, f16⟩ := h
    refine V.if_eq (pc := 34) (tgt := 41) hG hp3 dX5_append_34 (by decide) (fun c14 => ?_) (fun c14 => ?_)
    · have h := t15 c14
      clear t15 f16
      refine V.iconst (pc := 41) hG dX5_append_41 ?_
      refine V.pick [1, 2, 0] rfl ?_
      exact jn42 (i 499 p1) (495 + p1) (i 499 p1) (-1) (st i (490 + p1) (i 499 p1) p2) ((hi _ _)) ((row_494 g13)) ((hi _ _)) ((sR_l rfl)) ((okI_st hi hp2)) h
    · have h := f16 c14
      clear t15 f16
      refine V.iconst (pc := 37) hG dX5_append_37 ?_
      refine V.goto (pc := 38) (tgt := 42) hG dX5_append_38 (by decide) ?_
      refine V.pick [1, 2, 0] rfl ?_
      exact jn42 (i 499 p1) (495 + p1) (i 499 p1) 1 (st i (490 + p1) (i 499 p1) p2) ((hi _ _)) ((row_494 g13)) ((hi _ _)) ((sR_l rfl)) ((okI_st hi hp2)) h
set_option maxRecDepth 100000 in
set_option maxHeartbeats 4000000 in
theorem sm_X11_action (l : Launch) (Δ : Wd) {i r : MI} {p1 : Int} {p2 : Int} {p3 : Int} (hp1 : sR p1) (hp2 : sR p2) (hp3 : sR p3) {Q : Int → MI → Prop} {X : String → MI → Prop} (hst : l.stackTraces = false) (hi : okI i) (hw : Wf r) (h : wp_X11_action p1 p2 p3 i r Q X) : vx_Met l yX11_action (Cond.code yX11_action cX11_action 4 (some .int) :: gW) (sRx 6 82 1 6) (sPc Δ [.ref (sA Δ 0), .int (sJ p1), .int (sJ p2), .int (sJ p3)] i r) (sQi Δ (fun x i' r' => r = r' ∧ Q x i')) (sX Δ (fun E i' r' => r = r' ∧ X E i')) 1 6 (sFr Δ) := by
  refine Cx.i (ty := .int) (by decide) rfl (Nat.le_of_ble_eq_true rfl) hst (by decide) (by decide) (fun Γ Q0 hG fin xout xthr => ?_)
  have hG : okG Γ Δ l (sRx 6 82 1 6) cX11_action "Schedulary" 4 := hG
  show V Γ Δ 504 false i r 0 0 Q0 0 [(0, .ref (sA Δ 0)), (1, .int (sJ p1)), (2, .int (sJ p2)), (3, .int (sJ p3))] []
  have jn18 : ∀  (ij18 : MI), okI ij18 → s18_X11_action ij18 r Q X → V Γ Δ 504 false ij18 r 0 0 Q0 18 [] [] := by
    intro ij18 hij18 h
    exact xthr ⟨88, 326, 92, "no such process or channel", by decide, kw_1096, kw_125, by decide, .inl th_92, dX11_action_18, dX11_action_21, Or.inr ⟨dX11_action_22, dX11_action_25, dX11_action_28⟩⟩ (by decide) (by decide) hij18 hw ⟨rfl, h⟩
  refine V.iload_n (pc := 0) hG dX11_action_0 rfl 1 rfl ?_
  refine V.iconst (pc := 1) hG dX11_action_1 ?_
  refine V.iconst (pc := 2) hG dX11_action_2 ?_
  refine V.callSi (pc := 3) (As := [.int (sJ p1), .int (sJ 0), .int (sJ 3)]) (stk := []) hG (sm_X11_isWithin l Δ hp1 ((sR_l rfl)) ((sR_l rfl)) hi hw h) mY_X11_isWithin kw_1221 kw_826 ⟨Nat.le_of_ble_eq_true rfl, Nat.le_of_ble_eq_true rfl, Nat.le_of_ble_eq_true rfl, Nat.le_of_ble_eq_true rfl⟩ rfl (Nat.le_of_ble_eq_true rfl) dX11_action_3 rfl (fun v1 i2 r3 hv4 hi5 hw6 hq7 => ?_)
  obtain ⟨e36, e37, h⟩ := hq7
  subst e36
  subst e37
  obtain ⟨t9, f10⟩ := h
  refine V.if_eq (pc := 6) (tgt := 18) hG hv4 dX11_action_6 (by decide) (fun c8 => ?_) (fun c8 => ?_)
  · have h := t9 c8
    clear t9 f10
    refine V.pick [] rfl ?_
    exact jn18 i hi h
  · have h := f10 c8
    clear t9 f10
    refine V.iload_n (pc := 9) hG dX11_action_9 rfl 2 rfl ?_
    refine V.iconst (pc := 10) hG dX11_action_10 ?_
    refine V.iconst (pc := 11) hG dX11_action_11 ?_
    refine V.callSi (pc := 12) (As := [.int (sJ p2), .int (sJ 0), .int (sJ 3)]) (stk := []) hG (sm_X11_isWithin l Δ hp2 ((sR_l rfl)) ((sR_l rfl)) hi hw h) mY_X11_isWithin kw_1221 kw_826 ⟨Nat.le_of_ble_eq_true rfl, Nat.le_of_ble_eq_true rfl, Nat.le_of_ble_eq_true rfl, Nat.le_of_ble_eq_true rfl⟩ rfl (Nat.le_of_ble_eq_true rfl) dX11_action_12 rfl (fun v11 i12 r13 hv14 hi15 hw16 hq17 => ?_)
    obtain ⟨e34, e35, h⟩ := hq17
    subst e34
    subst e35
    obtain ⟨f20, t19⟩ := h
    refine V.if_ne (pc := 15) (tgt := 29) hG hv14 dX11_action_15 (by decide) (fun c18 => ?_) (fun c18 => ?_)
    · have h := t19 c18
      clear t19 f20
      refine V.aload_n (pc := 29) hG dX11_action_29 rfl 0 rfl ?_
      refine V.getR (x := 488) (pc := 30) (ci := 13) (k := 8) (M := 11) (T := TX11) (o := 0) (kz := 8) hG a_0 a_0.n (by decide) hin_X11 rfl (by decide) (by decide) rfl kw_531 rfl ((hw).1 (0, 8, 488) (by decide)) (by decide) dX11_action_30 ?_
      refine V.getRN (x := 499) (pc := 33) (ci := 7) (k := 2) (M := 7) (T := TX5) (o := 488) (kz := 2) hG a_488 a_488.n (by decide) hin_X5 rfl (by decide) (by decide) rfl kw_502 rfl ((hw).1 (488, 2, 499) (by decide)) (by decide) dX11_action_33 ?_
      refine V.iload_n (pc := 36) hG dX11_action_36 rfl 1 rfl ?_
      obtain ⟨g21, h⟩ := h
      refine V.iald (pc := 37) (z := 4) (o := 499) hG a_499 a_499.n hp1 g21 dX11_action_37 ?_
      refine V.bipush (pc := 38) hG dX11_action_38 (by decide) ?_
      obtain ⟨t23, f24⟩ := h
      refine V.icmp_lt (pc := 40) (tgt := 54) hG ((hi _ _)) ((sR_l rfl)) dX11_action_40 (by decide) (fun c22 => ?_) (fun c22 => ?_)
      · have h := t23 c22
        clear t23 f24
        refine V.aload_n (pc := 54) hG dX11_action_54 rfl 0 rfl ?_
        refine V.getR (x := 488) (pc := 55) (ci := 13) (k := 8) (M := 11) (T := TX11) (o := 0) (kz := 8) hG a_0 a_0.n (by decide) hin_X11 rfl (by decide) (by decide) rfl kw_531 rfl ((hw).1 (0, 8, 488) (by decide)) (by decide) dX11_action_55 ?_
        refine V.iload_n (pc := 58) hG dX11_action_58 rfl 1 rfl ?_
        refine V.iload_n (pc := 59) hG dX11_action_59 rfl 2 rfl ?_
        refine V.iload_n (pc := 60) hG dX11_action_60 rfl 3 rfl ?_
        refine V.callVNi (pc := 61) (As := [.int (sJ p1), .int (sJ p2), .int (sJ p3)]) (stk := []) hG (sm_X5_append l Δ hp1 hp2 hp3 hi hw h) mY_X5_append kw_1290 kw_1292 kw_92 a_488 (by decide) (q := (RX5, TX5, 7)) rfl rfl ⟨Nat.le_of_ble_eq_true rfl, Nat.le_of_ble_eq_true rfl, Nat.le_of_ble_eq_true rfl, Nat.le_of_ble_eq_true rfl⟩ rfl (Nat.le_of_ble_eq_true rfl) dX11_action_61 rfl (fun v25 i26 r27 hv28 hi29 hw30 hq31 => ?_)
        obtain ⟨e33, h⟩ := hq31
        subst e33
        exact fin dX11_action_64 hv28 rfl (by decide) (by decide) hi29 hw ⟨rfl, h⟩
      · have h := f24 c22
        clear t23 f24
        exact xthr ⟨98, 331, 102, "too many actions", by decide, kw_1112, kw_126, by decide, .inl th_102, dX11_action_43, dX11_action_46, Or.inr ⟨dX11_action_47, dX11_action_50, dX11_action_53⟩⟩ (by decide) (by decide) hi hw ⟨rfl, h⟩
    · have h := f20 c18
      clear t19 f20
      refine V.pick [] rfl ?_
      exact jn18 i hi h
set_option maxRecDepth 100000 in
set_option maxHeartbeats 4000000 in
theorem sm_X11_setDepth (l : Launch) (Δ : Wd) {i r : MI} {p1 : Int} {p2 : Int} (hp1 : sR p1) (hp2 : sR p2) {Q : Int → MI → Prop} {X : String → MI → Prop} (hst : l.stackTraces = false) (hi : okI i) (hw : Wf r) (h : wp_X11_setDepth p1 p2 i r Q X) : vx_Met l yX11_setDepth (Cond.code yX11_setDepth cX11_setDepth 4 (some .int) :: gW) (sRx 6 82 1 6) (sPc Δ [.ref (sA Δ 0), .int (sJ p1), .int (sJ p2)] i r) (sQi Δ (fun x i' r' => r = r' ∧ Q x i')) (sX Δ (fun E i' r' => r = r' ∧ X E i')) 1 6 (sFr Δ) := by
  refine Cx.i (ty := .int) (by decide) rfl (Nat.le_of_ble_eq_true rfl) hst (by decide) (by decide) (fun Γ Q0 hG fin xout xthr => ?_)
  have hG : okG Γ Δ l (sRx 6 82 1 6) cX11_setDepth "Schedulary" 4 := hG
  show V Γ Δ 504 false i r 0 0 Q0 0 [(0, .ref (sA Δ 0)), (1, .int (sJ p1)), (2, .int (sJ p2))] []
  have jn19 : ∀  (ij19 : MI), okI ij19 → s19_X11_setDepth ij19 r Q X → V Γ Δ 504 false ij19 r 0 0 Q0 19 [] [] := by
    intro ij19 hij19 h
    exact xthr ⟨88, 336, 92, "no such channel, or not 1 to 16 deep", by decide, kw_1096, kw_125, by decide, .inl th_92, dX11_setDepth_19, dX11_setDepth_22, Or.inr ⟨dX11_setDepth_23, dX11_setDepth_26, dX11_setDepth_29⟩⟩ (by decide) (by decide) hij19 hw ⟨rfl, h⟩
  refine V.iload_n (pc := 0) hG dX11_setDepth_0 rfl 1 rfl ?_
  refine V.iconst (pc := 1) hG dX11_setDepth_1 ?_
  refine V.iconst (pc := 2) hG dX11_setDepth_2 ?_
  refine V.callSi (pc := 3) (As := [.int (sJ p1), .int (sJ 0), .int (sJ 3)]) (stk := []) hG (sm_X11_isWithin l Δ hp1 ((sR_l rfl)) ((sR_l rfl)) hi hw h) mY_X11_isWithin kw_1221 kw_826 ⟨Nat.le_of_ble_eq_true rfl, Nat.le_of_ble_eq_true rfl, Nat.le_of_ble_eq_true rfl, Nat.le_of_ble_eq_true rfl⟩ rfl (Nat.le_of_ble_eq_true rfl) dX11_setDepth_3 rfl (fun v1 i2 r3 hv4 hi5 hw6 hq7 => ?_)
  obtain ⟨e25, e26, h⟩ := hq7
  subst e25
  subst e26
  obtain ⟨t9, f10⟩ := h
  refine V.if_eq (pc := 6) (tgt := 19) hG hv4 dX11_setDepth_6 (by decide) (fun c8 => ?_) (fun c8 => ?_)
  · have h := t9 c8
    clear t9 f10
    refine V.pick [] rfl ?_
    exact jn19 i hi h
  · have h := f10 c8
    clear t9 f10
    refine V.iload_n (pc := 9) hG dX11_setDepth_9 rfl 2 rfl ?_
    refine V.iconst (pc := 10) hG dX11_setDepth_10 ?_
    refine V.bipush (pc := 11) hG dX11_setDepth_11 (by decide) ?_
    refine V.callSi (pc := 13) (As := [.int (sJ p2), .int (sJ 1), .int (sJ 16)]) (stk := []) hG (sm_X11_isWithin l Δ hp2 ((sR_l rfl)) ((sR_l rfl)) hi hw h) mY_X11_isWithin kw_1221 kw_826 ⟨Nat.le_of_ble_eq_true rfl, Nat.le_of_ble_eq_true rfl, Nat.le_of_ble_eq_true rfl, Nat.le_of_ble_eq_true rfl⟩ rfl (Nat.le_of_ble_eq_true rfl) dX11_setDepth_13 rfl (fun v11 i12 r13 hv14 hi15 hw16 hq17 => ?_)
    obtain ⟨e23, e24, h⟩ := hq17
    subst e23
    subst e24
    obtain ⟨f20, t19⟩ := h
    refine V.if_ne (pc := 16) (tgt := 30) hG hv14 dX11_setDepth_16 (by decide) (fun c18 => ?_) (fun c18 => ?_)
    · have h := t19 c18
      clear t19 f20
      refine V.aload_n (pc := 30) hG dX11_setDepth_30 rfl 0 rfl ?_
      refine V.getR (x := 488) (pc := 31) (ci := 13) (k := 8) (M := 11) (T := TX11) (o := 0) (kz := 8) hG a_0 a_0.n (by decide) hin_X11 rfl (by decide) (by decide) rfl kw_531 rfl ((hw).1 (0, 8, 488) (by decide)) (by decide) dX11_setDepth_31 ?_
      refine V.getRN (x := 500) (pc := 34) (ci := 7) (k := 3) (M := 7) (T := TX5) (o := 488) (kz := 3) hG a_488 a_488.n (by decide) hin_X5 rfl (by decide) (by decide) rfl kw_504 rfl ((hw).1 (488, 3, 500) (by decide)) (by decide) dX11_setDepth_34 ?_
      refine V.iload_n (pc := 37) hG dX11_setDepth_37 rfl 1 rfl ?_
      obtain ⟨g21, h⟩ := h
      refine V.iald (pc := 38) (z := 4) (o := 500) hG a_500 a_500.n hp1 g21 dX11_setDepth_38 ?_
      refine V.istore_n (pc := 39) (lv' := [(3, .int (sJ (i 500 p1))), (0, .ref (sA Δ 0)), (1, .int (sJ p1)), (2, .int (sJ p2))]) hG dX11_setDepth_39 rfl (by decide) rfl ?_
      refine V.aload_n (pc := 40) hG dX11_setDepth_40 rfl 1 rfl ?_
      refine V.getR (x := 488) (pc := 41) (ci := 13) (k := 8) (M := 11) (T := TX11) (o := 0) (kz := 8) hG a_0 a_0.n (by decide) hin_X11 rfl (by decide) (by decide) rfl kw_531 rfl ((hw).1 (0, 8, 488) (by decide)) (by decide) dX11_setDepth_41 ?_
      refine V.getRN (x := 500) (pc := 44) (ci := 7) (k := 3) (M := 7) (T := TX5) (o := 488) (kz := 3) hG a_488 a_488.n (by decide) hin_X5 rfl (by decide) (by decide) rfl kw_504 rfl ((hw).1 (488, 3, 500) (by decide)) (by decide) dX11_setDepth_44 ?_
      refine V.iload_n (pc := 47) hG dX11_setDepth_47 rfl 2 rfl ?_
      refine V.iload_n (pc := 48) hG dX11_setDepth_48 rfl 3 rfl ?_
      obtain ⟨g22, h⟩ := h
      refine V.iast (pc := 49) (z := 4) (o := 500) hG a_500 a_500.n hp1 g22 dX11_setDepth_49 ?_
      refine V.iload_n (pc := 50) hG dX11_setDepth_50 rfl 0 rfl ?_
      exact fin dX11_setDepth_51 ((hi _ _)) rfl (by decide) (by decide) ((okI_st hi hp2)) hw ⟨rfl, h⟩
    · have h := f20 c18
      clear t19 f20
      refine V.pick [] rfl ?_
      exact jn19 i hi h
set_option maxRecDepth 100000 in
set_option maxHeartbeats 4000000 in
theorem sm_X5_countDone (l : Launch) (Δ : Wd) {i r : MI}   {Q : Int → Prop} (hi : okI i) (hw : Wf r) (h : wp_X5_countDone  i r Q) : Met l yX5_countDone (Cond.code yX5_countDone cX5_countDone 3 (some .int) :: gW) (sRm 0 0) (sPc Δ [.ref (sA Δ 488)] i r) (sQi Δ (fun x i' r' => i = i' ∧ r = r' ∧ Q x)) 0 0 (sFr Δ) := by
  refine Ct.i (ty := .int) (by decide) rfl (Nat.le_of_ble_eq_true rfl) (fun Γ Q0 hG fin => ?_)
  have hG : okG Γ Δ l (sRm 0 0) cX5_countDone "Schedulary$Processes" 3 := hG
  show V Γ Δ 504 false i r 0 0 Q0 0 [(0, .ref (sA Δ 488))] []
  refine V.iconst (pc := 0) hG dX5_countDone_0 ?_
  refine V.istore_n (pc := 1) (lv' := [(1, .int (sJ 0)), (0, .ref (sA Δ 488))]) hG dX5_countDone_1 rfl (by decide) rfl ?_
  refine V.iconst (pc := 2) hG dX5_countDone_2 ?_
  refine V.istore_n (pc := 3) (lv' := [(2, .int (sJ 0)), (1, .int (sJ 0)), (0, .ref (sA Δ 488))]) hG dX5_countDone_3 rfl (by decide) rfl ?_
  obtain ⟨n5, h⟩ := h
  have lp4 : ∀ (m4 : Nat) (x1_4 : Int) (x2_4 : Int), sR x1_4 → sR x2_4 → LoopP (b4_X5_countDone i r Q) m4 (x1_4, x2_4) → V Γ Δ 504 false i r 0 0 Q0 4 [(0, .ref (sA Δ 488)), (1, .int (sJ x1_4)), (2, .int (sJ x2_4))] [] := by
    intro m4
    induction m4 with
    | zero => intro x1_4 x2_4 hx1_4 hx2_4 h; exact h.elim
    | succ m4 ih4 =>
      intro x1_4 x2_4 hx1_4 hx2_4 h
      have h := LoopP_succ h
      refine V.iload_n (pc := 4) hG dX5_countDone_4 rfl 2 rfl ?_
      refine V.iconst (pc := 5) hG dX5_countDone_5 ?_
      obtain ⟨t7, f8⟩ := h
      refine V.icmp_ge (pc := 6) (tgt := 24) hG hx2_4 ((sR_l rfl)) dX5_countDone_6 (by decide) (fun c6 => ?_) (fun c6 => ?_)
      · have h := t7 c6
        clear t7 f8
        refine V.iload_n (pc := 24) hG dX5_countDone_24 rfl 1 rfl ?_
        exact fin dX5_countDone_25 hx1_4 rfl hi hw ⟨rfl, rfl, h⟩
      · have h := f8 c6
        clear t7 f8
        refine V.iload_n (pc := 9) hG dX5_countDone_9 rfl 1 rfl ?_
        refine V.aload_n (pc := 10) hG dX5_countDone_10 rfl 0 rfl ?_
        refine V.getR (x := 503) (pc := 11) (ci := 7) (k := 6) (M := 7) (T := TX5) (o := 488) (kz := 6) hG a_488 a_488.n (by decide) hin_X5 rfl (by decide) (by decide) rfl kw_507 rfl ((hw).1 (488, 6, 503) (by decide)) (by decide) dX5_countDone_11 ?_
        refine V.iload_n (pc := 14) hG dX5_countDone_14 rfl 2 rfl ?_
        obtain ⟨g9, h⟩ := h
        refine V.iald (pc := 15) (z := 4) (o := 503) hG a_503 a_503.n hx2_4 g9 dX5_countDone_15 ?_
        refine V.iadd (pc := 16) hG dX5_countDone_16 ?_
        refine V.istore_n (pc := 17) (lv' := [(1, .int (sJ (wr (x1_4 + i 503 x2_4)))), (0, .ref (sA Δ 488)), (2, .int (sJ x2_4))]) hG dX5_countDone_17 rfl (by decide) rfl ?_
        refine V.iinc (pc := 18) (lv' := [(2, .int (sJ (wr (x2_4 + 1)))), (1, .int (sJ (wr (x1_4 + i 503 x2_4)))), (0, .ref (sA Δ 488))]) hG dX5_countDone_18 2 rfl (by decide) rfl ?_
        refine V.goto (pc := 21) (tgt := 4) hG dX5_countDone_21 (by decide) ?_
        refine V.pick [2, 1, 0] rfl ?_
        exact ih4 (wr (x1_4 + i 503 x2_4)) (wr (x2_4 + 1)) ((sR_wr _)) ((sR_wr _)) h
  refine V.pick [2, 1, 0] rfl ?_
  exact lp4 n5 0 0 ((sR_l rfl)) ((sR_l rfl)) h
set_option maxRecDepth 100000 in
set_option maxHeartbeats 4000000 in
theorem sm_X5_goOn (l : Launch) (Δ : Wd) {i r : MI} {p1 : Int} (hp1 : sR p1) {Q : MI → Prop} (hi : okI i) (hw : Wf r) (h : wp_X5_goOn p1 i r Q) : Met l yX5_goOn (Cond.code yX5_goOn cX5_goOn 5 none :: gW) (sRm 0 0) (sPc Δ [.ref (sA Δ 488), .int (sJ p1)] i r) (sQv Δ (fun i' r' => r = r' ∧ Q i')) 0 0 (sFr Δ) := by
  refine Ct.v (by decide) rfl (Nat.le_of_ble_eq_true rfl) (fun Γ Q0 hG fin => ?_)
  have hG : okG Γ Δ l (sRm 0 0) cX5_goOn "Schedulary$Processes" 5 := hG
  show V Γ Δ 504 false i r 0 0 Q0 0 [(0, .ref (sA Δ 488)), (1, .int (sJ p1))] []
  have jn59 : ∀  (ij59 : MI), okI ij59 → s59_X5_goOn ij59 r Q → V Γ Δ 504 false ij59 r 0 0 Q0 59 [] [] := by
    intro ij59 hij59 h
    exact fin dX5_goOn_59 hij59 hw ⟨rfl, h⟩
  refine V.aload_n (pc := 0) hG dX5_goOn_0 rfl 0 rfl ?_
  refine V.getR (x := 503) (pc := 1) (ci := 7) (k := 6) (M := 7) (T := TX5) (o := 488) (kz := 6) hG a_488 a_488.n (by decide) hin_X5 rfl (by decide) (by decide) rfl kw_507 rfl ((hw).1 (488, 6, 503) (by decide)) (by decide) dX5_goOn_1 ?_
  refine V.iload_n (pc := 4) hG dX5_goOn_4 rfl 1 rfl ?_
  obtain ⟨g1, h⟩ := h
  refine V.iald (pc := 5) (z := 4) (o := 503) hG a_503 a_503.n hp1 g1 dX5_goOn_5 ?_
  refine V.istore_n (pc := 6) (lv' := [(2, .int (sJ (i 503 p1))), (0, .ref (sA Δ 488)), (1, .int (sJ p1))]) hG dX5_goOn_6 rfl (by decide) rfl ?_
  obtain ⟨n20, h⟩ := h
  have lp7 : ∀ (m7 : Nat) (x2_7 : Int) (i_7 : MI), sR x2_7 → okI i_7 → LoopP (b7_X5_goOn p1 r Q) m7 (x2_7, i_7) → V Γ Δ 504 false i_7 r 0 0 Q0 7 [(0, .ref (sA Δ 488)), (1, .int (sJ p1)), (2, .int (sJ x2_7))] [] := by
    intro m7
    induction m7 with
    | zero => intro x2_7 i_7 hx2_7 hi_7 h; exact h.elim
    | succ m7 ih7 =>
      intro x2_7 i_7 hx2_7 hi_7 h
      have h := LoopP_succ h
      refine V.iload_n (pc := 7) hG dX5_goOn_7 rfl 2 rfl ?_
      refine V.aload_n (pc := 8) hG dX5_goOn_8 rfl 0 rfl ?_
      refine V.getR (x := 499) (pc := 9) (ci := 7) (k := 2) (M := 7) (T := TX5) (o := 488) (kz := 2) hG a_488 a_488.n (by decide) hin_X5 rfl (by decide) (by decide) rfl kw_501 rfl ((hw).1 (488, 2, 499) (by decide)) (by decide) dX5_goOn_9 ?_
      refine V.iload_n (pc := 12) hG dX5_goOn_12 rfl 1 rfl ?_
      obtain ⟨g21, h⟩ := h
      refine V.iald (pc := 13) (z := 4) (o := 499) hG a_499 a_499.n hp1 g21 dX5_goOn_13 ?_
      obtain ⟨t23, f24⟩ := h
      refine V.icmp_ge (pc := 14) (tgt := 83) hG hx2_7 ((hi_7 _ _)) dX5_goOn_14 (by decide) (fun c22 => ?_) (fun c22 => ?_)
      · have h := t23 c22
        clear t23 f24
        exact fin dX5_goOn_83 hi_7 hw ⟨rfl, h⟩
      · have h := f24 c22
        clear t23 f24
        refine V.aload_n (pc := 17) hG dX5_goOn_17 rfl 0 rfl ?_
        refine V.getR (x := 489) (pc := 18) (ci := 7) (k := 0) (M := 7) (T := TX5) (o := 488) (kz := 0) hG a_488 a_488.n (by decide) hin_X5 rfl (by decide) (by decide) rfl kw_499 rfl ((hw).1 (488, 0, 489) (by decide)) (by decide) dX5_goOn_18 ?_
        refine V.iload_n (pc := 21) hG dX5_goOn_21 rfl 1 rfl ?_
        obtain ⟨g25, h⟩ := h
        refine V.aald (pc := 22) 7 (z := 4) (o := 489) (x := p1) (y := 490 + p1) hG a_489 a_489.n (by decide) hp1 g25 (hw.2.1 (489, 4, 490) (by decide) _ g25.1 g25.2) (by omega) dX5_goOn_22 ?_
        refine V.iload_n (pc := 23) hG dX5_goOn_23 rfl 2 rfl ?_
        obtain ⟨g26, h⟩ := h
        refine V.iald (pc := 24) (z := 16) (o := 490 + p1) hG (row_489 g25) ((row_489 g25)).n hx2_7 g26 dX5_goOn_24 ?_
        refine V.istore_n (pc := 25) (lv' := [(3, .int (sJ (i_7 (490 + p1) x2_7))), (0, .ref (sA Δ 488)), (1, .int (sJ p1)), (2, .int (sJ x2_7))]) hG dX5_goOn_25 rfl (by decide) rfl ?_
        refine V.aload_n (pc := 26) hG dX5_goOn_26 rfl 1 rfl ?_
        refine V.getR (x := 502) (pc := 27) (ci := 7) (k := 5) (M := 7) (T := TX5) (o := 488) (kz := 5) hG a_488 a_488.n (by decide) hin_X5 rfl (by decide) (by decide) rfl kw_506 rfl ((hw).1 (488, 5, 502) (by decide)) (by decide) dX5_goOn_27 ?_
        refine V.iload_n (pc := 30) hG dX5_goOn_30 rfl 0 rfl ?_
        obtain ⟨g27, h⟩ := h
        refine V.iald (pc := 31) (z := 4) (o := 502) hG a_502 a_502.n ((hi_7 _ _)) g27 dX5_goOn_31 ?_
        refine V.aload_n (pc := 32) hG dX5_goOn_32 rfl 1 rfl ?_
        refine V.getR (x := 494) (pc := 33) (ci := 7) (k := 1) (M := 7) (T := TX5) (o := 488) (kz := 1) hG a_488 a_488.n (by decide) hin_X5 rfl (by decide) (by decide) rfl kw_500 rfl ((hw).1 (488, 1, 494) (by decide)) (by decide) dX5_goOn_33 ?_
        refine V.iload_n (pc := 36) hG dX5_goOn_36 rfl 2 rfl ?_
        obtain ⟨g28, h⟩ := h
        refine V.aald (pc := 37) 7 (z := 4) (o := 494) (x := p1) (y := 495 + p1) hG a_494 a_494.n (by decide) hp1 g28 (hw.2.1 (494, 4, 495) (by decide) _ g28.1 g28.2) (by omega) dX5_goOn_37 ?_
        refine V.iload_n (pc := 38) hG dX5_goOn_38 rfl 3 rfl ?_
        obtain ⟨g29, h⟩ := h
        refine V.iald (pc := 39) (z := 16) (o := 495 + p1) hG (row_494 g28) ((row_494 g28)).n hx2_7 g29 dX5_goOn_39 ?_
        refine V.iadd (pc := 40) hG dX5_goOn_40 ?_
        refine V.istore (pc := 41) (lv' := [(4, .int (sJ (wr (i_7 502 (i_7 (490 + p1) x2_7) + i_7 (495 + p1) x2_7)))), (3, .int (sJ (i_7 (490 + p1) x2_7))), (0, .ref (sA Δ 488)), (1, .int (sJ p1)), (2, .int (sJ x2_7))]) hG dX5_goOn_41 (by decide) rfl ?_
        refine V.iload (pc := 43) hG dX5_goOn_43 0 rfl ?_
        obtain ⟨t31, f32⟩ := h
        refine V.if_lt (pc := 45) (tgt := 59) hG ((sR_wr _)) dX5_goOn_45 (by decide) (fun c30 => ?_) (fun c30 => ?_)
        · have h := t31 c30
          clear t31 f32
          refine V.pick [] rfl ?_
          exact jn59 i_7 hi_7 h
        · have h := f32 c30
          clear t31 f32
          refine V.iload (pc := 48) hG dX5_goOn_48 0 rfl ?_
          refine V.aload_n (pc := 50) hG dX5_goOn_50 rfl 2 rfl ?_
          refine V.getR (x := 501) (pc := 51) (ci := 7) (k := 4) (M := 7) (T := TX5) (o := 488) (kz := 4) hG a_488 a_488.n (by decide) hin_X5 rfl (by decide) (by decide) rfl kw_505 rfl ((hw).1 (488, 4, 501) (by decide)) (by decide) dX5_goOn_51 ?_
          refine V.iload_n (pc := 54) hG dX5_goOn_54 rfl 1 rfl ?_
          obtain ⟨g33, h⟩ := h
          refine V.iald (pc := 55) (z := 4) (o := 501) hG a_501 a_501.n ((hi_7 _ _)) g33 dX5_goOn_55 ?_
          obtain ⟨t35, f36⟩ := h
          refine V.icmp_le (pc := 56) (tgt := 60) hG ((sR_wr _)) ((hi_7 _ _)) dX5_goOn_56 (by decide) (fun c34 => ?_) (fun c34 => ?_)
          · have h := t35 c34
            clear t35 f36
            refine V.aload_n (pc := 60) hG dX5_goOn_60 rfl 2 rfl ?_
            refine V.getR (x := 502) (pc := 61) (ci := 7) (k := 5) (M := 7) (T := TX5) (o := 488) (kz := 5) hG a_488 a_488.n (by decide) hin_X5 rfl (by decide) (by decide) rfl kw_506 rfl ((hw).1 (488, 5, 502) (by decide)) (by decide) dX5_goOn_61 ?_
            refine V.iload_n (pc := 64) hG dX5_goOn_64 rfl 1 rfl ?_
            refine V.iload (pc := 65) hG dX5_goOn_65 0 rfl ?_
            obtain ⟨g37, h⟩ := h
            refine V.iast (pc := 67) (z := 4) (o := 502) hG a_502 a_502.n ((hi_7 _ _)) g37 dX5_goOn_67 ?_
            refine V.aload_n (pc := 68) hG dX5_goOn_68 rfl 2 rfl ?_
            refine V.getR (x := 503) (pc := 69) (ci := 7) (k := 6) (M := 7) (T := TX5) (o := 488) (kz := 6) hG a_488 a_488.n (by decide) hin_X5 rfl (by decide) (by decide) rfl kw_507 rfl ((hw).1 (488, 6, 503) (by decide)) (by decide) dX5_goOn_69 ?_
            refine V.iload_n (pc := 72) hG dX5_goOn_72 rfl 3 rfl ?_
            refine V.iload_n (pc := 73) hG dX5_goOn_73 rfl 4 rfl ?_
            refine V.iconst (pc := 74) hG dX5_goOn_74 ?_
            refine V.iadd (pc := 75) hG dX5_goOn_75 ?_
            obtain ⟨g38, h⟩ := h
            refine V.iast (pc := 76) (z := 4) (o := 503) hG a_503 a_503.n hp1 g38 dX5_goOn_76 ?_
            refine V.iinc (pc := 77) (lv' := [(2, .int (sJ (wr (x2_7 + 1)))), (4, .int (sJ (wr (i_7 502 (i_7 (490 + p1) x2_7) + i_7 (495 + p1) x2_7)))), (3, .int (sJ (i_7 (490 + p1) x2_7))), (0, .ref (sA Δ 488)), (1, .int (sJ p1))]) hG dX5_goOn_77 4 rfl (by decide) rfl ?_
            refine V.goto (pc := 80) (tgt := 7) hG dX5_goOn_80 (by decide) ?_
            refine V.pick [3, 4, 0] rfl ?_
            exact ih7 (wr (x2_7 + 1)) (st (st i_7 502 (i_7 (490 + p1) x2_7) (wr (i_7 502 (i_7 (490 + p1) x2_7) + i_7 (495 + p1) x2_7))) 503 p1 (wr (x2_7 + 1))) ((sR_wr _)) ((okI_st ((okI_st hi_7 ((sR_wr _)))) ((sR_wr _)))) h
          · have h := f36 c34
            clear t35 f36
            refine V.pick [] rfl ?_
            exact jn59 i_7 hi_7 h
  refine V.pick [1, 2, 0] rfl ?_
  exact lp7 n20 (i 503 p1) i ((hi _ _)) hi h
set_option maxRecDepth 100000 in
set_option maxHeartbeats 4000000 in
theorem sm_X5_go (l : Launch) (Δ : Wd) {i r : MI}   {Q : MI → Prop} (hi : okI i) (hw : Wf r) (h : wp_X5_go  i r Q) : Met l yX5_go (Cond.code yX5_go cX5_go 5 none :: gW) (sRm 1 24) (sPc Δ [.ref (sA Δ 488)] i r) (sQv Δ (fun i' r' => r = r' ∧ Q i')) 0 0 (sFr Δ) := by
  refine Ct.v (by decide) rfl (Nat.le_of_ble_eq_true rfl) (fun Γ Q0 hG fin => ?_)
  have hG : okG Γ Δ l (sRm 1 24) cX5_go "Schedulary$Processes" 5 := hG
  show V Γ Δ 504 false i r 0 0 Q0 0 [(0, .ref (sA Δ 488))] []
  have jn109 : ∀  (ij109 : MI), okI ij109 → s109_X5_go ij109 r Q → V Γ Δ 504 false ij109 r 0 0 Q0 109 [] [] := by
    intro ij109 hij109 h
    exact fin dX5_go_109 hij109 hw ⟨rfl, h⟩
  refine V.iconst (pc := 0) hG dX5_go_0 ?_
  refine V.istore_n (pc := 1) (lv' := [(1, .int (sJ 0)), (0, .ref (sA Δ 488))]) hG dX5_go_1 rfl (by decide) rfl ?_
  obtain ⟨n117, h⟩ := h
  have lp2 : ∀ (m2 : Nat) (x1_2 : Int) (i_2 : MI), sR x1_2 → okI i_2 → LoopP (b2_X5_go r Q) m2 (x1_2, i_2) → V Γ Δ 504 false i_2 r 0 0 Q0 2 [(0, .ref (sA Δ 488)), (1, .int (sJ x1_2))] [] := by
    intro m2
    induction m2 with
    | zero => intro x1_2 i_2 hx1_2 hi_2 h; exact h.elim
    | succ m2 ih2 =>
      intro x1_2 i_2 hx1_2 hi_2 h
      have h := LoopP_succ h
      refine V.iload_n (pc := 2) hG dX5_go_2 rfl 1 rfl ?_
      refine V.iconst (pc := 3) hG dX5_go_3 ?_
      obtain ⟨t119, f120⟩ := h
      refine V.icmp_ge (pc := 4) (tgt := 20) hG hx1_2 ((sR_l rfl)) dX5_go_4 (by decide) (fun c118 => ?_) (fun c118 => ?_)
      · have h := t119 c118
        clear t119 f120
        refine V.iconst (pc := 20) hG dX5_go_20 ?_
        refine V.istore_n (pc := 21) (lv' := [(1, .int (sJ 0)), (0, .ref (sA Δ 488))]) hG dX5_go_21 rfl (by decide) rfl ?_
        obtain ⟨n121, h⟩ := h
        have lp22 : ∀ (m22 : Nat) (x1_22 : Int) (i_22 : MI), sR x1_22 → okI i_22 → LoopP (b22_X5_go r Q) m22 (x1_22, i_22) → V Γ Δ 504 false i_22 r 0 0 Q0 22 [(0, .ref (sA Δ 488)), (1, .int (sJ x1_22))] [] := by
          intro m22
          induction m22 with
          | zero => intro x1_22 i_22 hx1_22 hi_22 h; exact h.elim
          | succ m22 ih22 =>
            intro x1_22 i_22 hx1_22 hi_22 h
            have h := LoopP_succ h
            refine V.iload_n (pc := 22) hG dX5_go_22 rfl 1 rfl ?_
            refine V.iconst (pc := 23) hG dX5_go_23 ?_
            obtain ⟨t123, f124⟩ := h
            refine V.icmp_ge (pc := 24) (tgt := 40) hG hx1_22 ((sR_l rfl)) dX5_go_24 (by decide) (fun c122 => ?_) (fun c122 => ?_)
            · have h := t123 c122
              clear t123 f124
              refine V.iconst (pc := 40) hG dX5_go_40 ?_
              refine V.istore_n (pc := 41) (lv' := [(1, .int (sJ 1)), (0, .ref (sA Δ 488))]) hG dX5_go_41 rfl (by decide) rfl ?_
              refine V.iconst (pc := 42) hG dX5_go_42 ?_
              refine V.istore_n (pc := 43) (lv' := [(2, .int (sJ 0)), (1, .int (sJ 1)), (0, .ref (sA Δ 488))]) hG dX5_go_43 rfl (by decide) rfl ?_
              obtain ⟨n125, h⟩ := h
              have lp44 : ∀ (m44 : Nat) (x1_44 : Int) (x2_44 : Int) (i_44 : MI), sR x1_44 → sR x2_44 → okI i_44 → LoopP (b44_X5_go r Q) m44 (x1_44, x2_44, i_44) → V Γ Δ 504 false i_44 r 0 0 Q0 44 [(0, .ref (sA Δ 488)), (1, .int (sJ x1_44)), (2, .int (sJ x2_44))] [] := by
                intro m44
                induction m44 with
                | zero => intro x1_44 x2_44 i_44 hx1_44 hx2_44 hi_44 h; exact h.elim
                | succ m44 ih44 =>
                  intro x1_44 x2_44 i_44 hx1_44 hx2_44 hi_44 h
                  have h := LoopP_succ h
                  refine V.iload_n (pc := 44) hG dX5_go_44 rfl 2 rfl ?_
                  refine V.bipush (pc := 45) hG dX5_go_45 (by decide) ?_
                  obtain ⟨t127, f128⟩ := h
                  refine V.icmp_gt (pc := 47) (tgt := 109) hG hx2_44 ((sR_l rfl)) dX5_go_47 (by decide) (fun c126 => ?_) (fun c126 => ?_)
                  · have h := t127 c126
                    clear t127 f128
                    refine V.pick [] rfl ?_
                    exact jn109 i_44 hi_44 h
                  · have h := f128 c126
                    clear t127 f128
                    refine V.iload_n (pc := 50) hG dX5_go_50 rfl 1 rfl ?_
                    obtain ⟨t130, f131⟩ := h
                    refine V.if_eq (pc := 51) (tgt := 109) hG hx1_44 dX5_go_51 (by decide) (fun c129 => ?_) (fun c129 => ?_)
                    · have h := t130 c129
                      clear t130 f131
                      refine V.pick [] rfl ?_
                      exact jn109 i_44 hi_44 h
                    · have h := f131 c129
                      clear t130 f131
                      refine V.iconst (pc := 54) hG dX5_go_54 ?_
                      refine V.istore_n (pc := 55) (lv' := [(1, .int (sJ 0)), (0, .ref (sA Δ 488)), (2, .int (sJ x2_44))]) hG dX5_go_55 rfl (by decide) rfl ?_
                      refine V.iconst (pc := 56) hG dX5_go_56 ?_
                      refine V.istore_n (pc := 57) (lv' := [(3, .int (sJ 0)), (1, .int (sJ 0)), (0, .ref (sA Δ 488)), (2, .int (sJ x2_44))]) hG dX5_go_57 rfl (by decide) rfl ?_
                      obtain ⟨n132, h⟩ := h
                      have lp58 : ∀ (m58 : Nat) (x1_58 : Int) (x3_58 : Int) (i_58 : MI), sR x1_58 → sR x3_58 → okI i_58 → LoopP (b58_X5_go x2_44 r Q (LoopP (b44_X5_go r Q) m44)) m58 (x1_58, x3_58, i_58) → V Γ Δ 504 false i_58 r 0 0 Q0 58 [(0, .ref (sA Δ 488)), (1, .int (sJ x1_58)), (2, .int (sJ x2_44)), (3, .int (sJ x3_58))] [] := by
                        intro m58
                        induction m58 with
                        | zero => intro x1_58 x3_58 i_58 hx1_58 hx3_58 hi_58 h; exact h.elim
                        | succ m58 ih58 =>
                          intro x1_58 x3_58 i_58 hx1_58 hx3_58 hi_58 h
                          have h := LoopP_succ h
                          have jn96 : ∀ (x3j96 : Int) (k0j96 : Int) (ij96 : MI), sR x3j96 → sR k0j96 → okI ij96 → s96_X5_go x2_44 x3j96 k0j96 ij96 r Q (LoopP (b44_X5_go r Q) m44) (LoopP (b58_X5_go x2_44 r Q (LoopP (b44_X5_go r Q) m44)) m58) → V Γ Δ 504 false ij96 r 0 0 Q0 96 [(0, .ref (sA Δ 488)), (2, .int (sJ x2_44)), (3, .int (sJ x3j96))] [.int (sJ k0j96)] := by
                            intro x3j96 k0j96 ij96 hx3j96 hk0j96 hij96 h
                            refine V.istore_n (pc := 96) (lv' := [(1, .int (sJ k0j96)), (0, .ref (sA Δ 488)), (2, .int (sJ x2_44)), (3, .int (sJ x3j96))]) hG dX5_go_96 rfl (by decide) rfl ?_
                            refine V.iinc (pc := 97) (lv' := [(3, .int (sJ (wr (x3j96 + 1)))), (1, .int (sJ k0j96)), (0, .ref (sA Δ 488)), (2, .int (sJ x2_44))]) hG dX5_go_97 3 rfl (by decide) rfl ?_
                            refine V.goto (pc := 100) (tgt := 58) hG dX5_go_100 (by decide) ?_
                            refine V.pick [2, 1, 3, 0] rfl ?_
                            exact ih58 k0j96 (wr (x3j96 + 1)) ij96 hk0j96 ((sR_wr _)) hij96 h
                          have jn91 : ∀ (x3j91 : Int) (ij91 : MI), sR x3j91 → okI ij91 → s91_X5_go x2_44 x3j91 ij91 r Q (LoopP (b44_X5_go r Q) m44) (LoopP (b58_X5_go x2_44 r Q (LoopP (b44_X5_go r Q) m44)) m58) → V Γ Δ 504 false ij91 r 0 0 Q0 91 [(0, .ref (sA Δ 488)), (2, .int (sJ x2_44)), (3, .int (sJ x3j91))] [] := by
                            intro x3j91 ij91 hx3j91 hij91 h
                            refine V.iconst (pc := 91) hG dX5_go_91 ?_
                            refine V.goto (pc := 92) (tgt := 96) hG dX5_go_92 (by decide) ?_
                            exact jn96 x3j91 1 ij91 hx3j91 ((sR_l rfl)) hij91 h
                          refine V.iload_n (pc := 58) hG dX5_go_58 rfl 3 rfl ?_
                          refine V.iconst (pc := 59) hG dX5_go_59 ?_
                          obtain ⟨t134, f135⟩ := h
                          refine V.icmp_ge (pc := 60) (tgt := 103) hG hx3_58 ((sR_l rfl)) dX5_go_60 (by decide) (fun c133 => ?_) (fun c133 => ?_)
                          · have h := t134 c133
                            clear t134 f135
                            refine V.iinc (pc := 103) (lv' := [(2, .int (sJ (wr (x2_44 + 1)))), (0, .ref (sA Δ 488)), (1, .int (sJ x1_58)), (3, .int (sJ x3_58))]) hG dX5_go_103 2 rfl (by decide) rfl ?_
                            refine V.goto (pc := 106) (tgt := 44) hG dX5_go_106 (by decide) ?_
                            refine V.pick [1, 2, 0] rfl ?_
                            exact ih44 x1_58 (wr (x2_44 + 1)) i_58 hx1_58 ((sR_wr _)) hi_58 h
                          · have h := f135 c133
                            clear t134 f135
                            refine V.aload_n (pc := 63) hG dX5_go_63 rfl 0 rfl ?_
                            refine V.getR (x := 503) (pc := 64) (ci := 7) (k := 6) (M := 7) (T := TX5) (o := 488) (kz := 6) hG a_488 a_488.n (by decide) hin_X5 rfl (by decide) (by decide) rfl kw_507 rfl ((hw).1 (488, 6, 503) (by decide)) (by decide) dX5_go_64 ?_
                            refine V.iload_n (pc := 67) hG dX5_go_67 rfl 3 rfl ?_
                            obtain ⟨g136, h⟩ := h
                            refine V.iald (pc := 68) (z := 4) (o := 503) hG a_503 a_503.n hx3_58 g136 dX5_go_68 ?_
                            refine V.istore (pc := 69) (lv' := [(4, .int (sJ (i_58 503 x3_58))), (0, .ref (sA Δ 488)), (1, .int (sJ x1_58)), (2, .int (sJ x2_44)), (3, .int (sJ x3_58))]) hG dX5_go_69 (by decide) rfl ?_
                            refine V.aload_n (pc := 71) hG dX5_go_71 rfl 1 rfl ?_
                            refine V.iload_n (pc := 72) hG dX5_go_72 rfl 4 rfl ?_
                            refine V.callVv (pc := 73) (As := [.int (sJ x3_58)]) (stk := []) hG (sm_X5_goOn l Δ hx3_58 hi_58 hw h) mY_X5_goOn kw_1312 kw_1314 kw_95 a_488 (by decide) (q := (RX5, TX5, 7)) rfl rfl ⟨Nat.le_of_ble_eq_true rfl, Nat.le_of_ble_eq_true rfl, Nat.le_of_ble_eq_true rfl, Nat.le_of_ble_eq_true rfl⟩ rfl (Nat.le_of_ble_eq_true rfl) dX5_go_73 rfl (fun i138 r139 hi141 hw142 hq143 => ?_)
                            obtain ⟨e152, h⟩ := hq143
                            subst e152
                            refine V.iload_n (pc := 76) hG dX5_go_76 rfl 2 rfl ?_
                            obtain ⟨f146, t145⟩ := h
                            refine V.if_ne (pc := 77) (tgt := 91) hG hx1_58 dX5_go_77 (by decide) (fun c144 => ?_) (fun c144 => ?_)
                            · have h := t145 c144
                              clear t145 f146
                              refine V.pick [1, 3, 4] rfl ?_
                              exact jn91 x3_58 i138 hx3_58 hi141 h
                            · have h := f146 c144
                              clear t145 f146
                              refine V.aload_n (pc := 80) hG dX5_go_80 rfl 1 rfl ?_
                              refine V.getR (x := 503) (pc := 81) (ci := 7) (k := 6) (M := 7) (T := TX5) (o := 488) (kz := 6) hG a_488 a_488.n (by decide) hin_X5 rfl (by decide) (by decide) rfl kw_507 rfl ((hw).1 (488, 6, 503) (by decide)) (by decide) dX5_go_81 ?_
                              refine V.iload_n (pc := 84) hG dX5_go_84 rfl 4 rfl ?_
                              obtain ⟨g147, h⟩ := h
                              refine V.iald (pc := 85) (z := 4) (o := 503) hG a_503 a_503.n hx3_58 g147 dX5_go_85 ?_
                              refine V.iload (pc := 86) hG dX5_go_86 0 rfl ?_
                              obtain ⟨t149, f150⟩ := h
                              refine V.icmp_le (pc := 88) (tgt := 95) hG ((hi141 _ _)) ((hi_58 _ _)) dX5_go_88 (by decide) (fun c148 => ?_) (fun c148 => ?_)
                              · have h := t149 c148
                                clear t149 f150
                                refine V.iconst (pc := 95) hG dX5_go_95 ?_
                                refine V.pick [1, 3, 4] rfl ?_
                                exact jn96 x3_58 0 i138 hx3_58 ((sR_l rfl)) hi141 h
                              · have h := f150 c148
                                clear t149 f150
                                refine V.pick [1, 3, 4] rfl ?_
                                exact jn91 x3_58 i138 hx3_58 hi141 h
                      refine V.pick [2, 1, 3, 0] rfl ?_
                      exact lp58 n132 0 0 i_44 ((sR_l rfl)) ((sR_l rfl)) hi_44 h
              refine V.pick [2, 1, 0] rfl ?_
              exact lp44 n125 1 0 i_22 ((sR_l rfl)) ((sR_l rfl)) hi_22 h
            · have h := f124 c122
              clear t123 f124
              refine V.aload_n (pc := 27) hG dX5_go_27 rfl 0 rfl ?_
              refine V.getR (x := 503) (pc := 28) (ci := 7) (k := 6) (M := 7) (T := TX5) (o := 488) (kz := 6) hG a_488 a_488.n (by decide) hin_X5 rfl (by decide) (by decide) rfl kw_507 rfl ((hw).1 (488, 6, 503) (by decide)) (by decide) dX5_go_28 ?_
              refine V.iload_n (pc := 31) hG dX5_go_31 rfl 1 rfl ?_
              refine V.iconst (pc := 32) hG dX5_go_32 ?_
              obtain ⟨g153, h⟩ := h
              refine V.iast (pc := 33) (z := 4) (o := 503) hG a_503 a_503.n hx1_22 g153 dX5_go_33 ?_
              refine V.iinc (pc := 34) (lv' := [(1, .int (sJ (wr (x1_22 + 1)))), (0, .ref (sA Δ 488))]) hG dX5_go_34 1 rfl (by decide) rfl ?_
              refine V.goto (pc := 37) (tgt := 22) hG dX5_go_37 (by decide) ?_
              refine V.pick [1, 0] rfl ?_
              exact ih22 (wr (x1_22 + 1)) (st i_22 503 x1_22 0) ((sR_wr _)) ((okI_st hi_22 ((sR_l rfl)))) h
        refine V.pick [1, 0] rfl ?_
        exact lp22 n121 0 i_2 ((sR_l rfl)) hi_2 h
      · have h := f120 c118
        clear t119 f120
        refine V.aload_n (pc := 7) hG dX5_go_7 rfl 0 rfl ?_
        refine V.getR (x := 502) (pc := 8) (ci := 7) (k := 5) (M := 7) (T := TX5) (o := 488) (kz := 5) hG a_488 a_488.n (by decide) hin_X5 rfl (by decide) (by decide) rfl kw_506 rfl ((hw).1 (488, 5, 502) (by decide)) (by decide) dX5_go_8 ?_
        refine V.iload_n (pc := 11) hG dX5_go_11 rfl 1 rfl ?_
        refine V.iconst (pc := 12) hG dX5_go_12 ?_
        obtain ⟨g154, h⟩ := h
        refine V.iast (pc := 13) (z := 4) (o := 502) hG a_502 a_502.n hx1_2 g154 dX5_go_13 ?_
        refine V.iinc (pc := 14) (lv' := [(1, .int (sJ (wr (x1_2 + 1)))), (0, .ref (sA Δ 488))]) hG dX5_go_14 1 rfl (by decide) rfl ?_
        refine V.goto (pc := 17) (tgt := 2) hG dX5_go_17 (by decide) ?_
        refine V.pick [1, 0] rfl ?_
        exact ih2 (wr (x1_2 + 1)) (st i_2 502 x1_2 0) ((sR_wr _)) ((okI_st hi_2 ((sR_l rfl)))) h
  refine V.pick [1, 0] rfl ?_
  exact lp2 n117 0 i ((sR_l rfl)) hi h
set_option maxRecDepth 100000 in
set_option maxHeartbeats 4000000 in
theorem sm_X5_goWithTheirDepths (l : Launch) (Δ : Wd) {i r : MI}   {Q : MI → Prop} (hi : okI i) (hw : Wf r) (h : wp_X5_goWithTheirDepths  i r Q) : Met l yX5_goWithTheirDepths (Cond.code yX5_goWithTheirDepths cX5_goWithTheirDepths 2 none :: gW) (sRm 2 48) (sPc Δ [.ref (sA Δ 488)] i r) (sQv Δ (fun i' r' => r = r' ∧ Q i')) 0 0 (sFr Δ) := by
  refine Ct.v (by decide) rfl (Nat.le_of_ble_eq_true rfl) (fun Γ Q0 hG fin => ?_)
  have hG : okG Γ Δ l (sRm 2 48) cX5_goWithTheirDepths "Schedulary$Processes" 2 := hG
  show V Γ Δ 504 false i r 0 0 Q0 0 [(0, .ref (sA Δ 488))] []
  refine V.iconst (pc := 0) hG dX5_goWithTheirDepths_0 ?_
  refine V.istore_n (pc := 1) (lv' := [(1, .int (sJ 0)), (0, .ref (sA Δ 488))]) hG dX5_goWithTheirDepths_1 rfl (by decide) rfl ?_
  obtain ⟨n15, h⟩ := h
  have lp2 : ∀ (m2 : Nat) (x1_2 : Int) (i_2 : MI), sR x1_2 → okI i_2 → LoopP (b2_X5_goWithTheirDepths r Q) m2 (x1_2, i_2) → V Γ Δ 504 false i_2 r 0 0 Q0 2 [(0, .ref (sA Δ 488)), (1, .int (sJ x1_2))] [] := by
    intro m2
    induction m2 with
    | zero => intro x1_2 i_2 hx1_2 hi_2 h; exact h.elim
    | succ m2 ih2 =>
      intro x1_2 i_2 hx1_2 hi_2 h
      have h := LoopP_succ h
      refine V.iload_n (pc := 2) hG dX5_goWithTheirDepths_2 rfl 1 rfl ?_
      refine V.iconst (pc := 3) hG dX5_goWithTheirDepths_3 ?_
      obtain ⟨t17, f18⟩ := h
      refine V.icmp_ge (pc := 4) (tgt := 25) hG hx1_2 ((sR_l rfl)) dX5_goWithTheirDepths_4 (by decide) (fun c16 => ?_) (fun c16 => ?_)
      · have h := t17 c16
        clear t17 f18
        refine V.aload_n (pc := 25) hG dX5_goWithTheirDepths_25 rfl 0 rfl ?_
        refine V.callVv (pc := 26) (As := []) (stk := []) hG (sm_X5_go l Δ  hi_2 hw h) mY_X5_go kw_1308 kw_1310 kw_94 a_488 (by decide) (q := (RX5, TX5, 7)) rfl rfl ⟨Nat.le_of_ble_eq_true rfl, Nat.le_of_ble_eq_true rfl, Nat.le_of_ble_eq_true rfl, Nat.le_of_ble_eq_true rfl⟩ rfl (Nat.le_of_ble_eq_true rfl) dX5_goWithTheirDepths_26 rfl (fun i20 r21 hi23 hw24 hq25 => ?_)
        obtain ⟨e27, h⟩ := hq25
        subst e27
        exact fin dX5_goWithTheirDepths_29 hi23 hw ⟨rfl, h⟩
      · have h := f18 c16
        clear t17 f18
        refine V.aload_n (pc := 7) hG dX5_goWithTheirDepths_7 rfl 0 rfl ?_
        refine V.getR (x := 501) (pc := 8) (ci := 7) (k := 4) (M := 7) (T := TX5) (o := 488) (kz := 4) hG a_488 a_488.n (by decide) hin_X5 rfl (by decide) (by decide) rfl kw_505 rfl ((hw).1 (488, 4, 501) (by decide)) (by decide) dX5_goWithTheirDepths_8 ?_
        refine V.iload_n (pc := 11) hG dX5_goWithTheirDepths_11 rfl 1 rfl ?_
        refine V.aload_n (pc := 12) hG dX5_goWithTheirDepths_12 rfl 0 rfl ?_
        refine V.getR (x := 500) (pc := 13) (ci := 7) (k := 3) (M := 7) (T := TX5) (o := 488) (kz := 3) hG a_488 a_488.n (by decide) hin_X5 rfl (by decide) (by decide) rfl kw_503 rfl ((hw).1 (488, 3, 500) (by decide)) (by decide) dX5_goWithTheirDepths_13 ?_
        refine V.iload_n (pc := 16) hG dX5_goWithTheirDepths_16 rfl 1 rfl ?_
        obtain ⟨g28, h⟩ := h
        refine V.iald (pc := 17) (z := 4) (o := 500) hG a_500 a_500.n hx1_2 g28 dX5_goWithTheirDepths_17 ?_
        obtain ⟨g29, h⟩ := h
        refine V.iast (pc := 18) (z := 4) (o := 501) hG a_501 a_501.n hx1_2 g29 dX5_goWithTheirDepths_18 ?_
        refine V.iinc (pc := 19) (lv' := [(1, .int (sJ (wr (x1_2 + 1)))), (0, .ref (sA Δ 488))]) hG dX5_goWithTheirDepths_19 1 rfl (by decide) rfl ?_
        refine V.goto (pc := 22) (tgt := 2) hG dX5_goWithTheirDepths_22 (by decide) ?_
        refine V.pick [1, 0] rfl ?_
        exact ih2 (wr (x1_2 + 1)) (st i_2 501 x1_2 (i_2 500 x1_2)) ((sR_wr _)) ((okI_st hi_2 ((hi_2 _ _)))) h
  refine V.pick [1, 0] rfl ?_
  exact lp2 n15 0 i ((sR_l rfl)) hi h
set_option maxRecDepth 100000 in
set_option maxHeartbeats 4000000 in
theorem sm_X11_done (l : Launch) (Δ : Wd) {i r : MI}   {Q : Int → MI → Prop} (hi : okI i) (hw : Wf r) (h : wp_X11_done  i r Q) : Met l yX11_done (Cond.code yX11_done cX11_done 1 (some .int) :: gW) (sRm 3 69) (sPc Δ [.ref (sA Δ 0)] i r) (sQi Δ (fun x i' r' => r = r' ∧ Q x i')) 0 0 (sFr Δ) := by
  refine Ct.i (ty := .int) (by decide) rfl (Nat.le_of_ble_eq_true rfl) (fun Γ Q0 hG fin => ?_)
  have hG : okG Γ Δ l (sRm 3 69) cX11_done "Schedulary" 1 := hG
  show V Γ Δ 504 false i r 0 0 Q0 0 [(0, .ref (sA Δ 0))] []
  refine V.aload_n (pc := 0) hG dX11_done_0 rfl 0 rfl ?_
  refine V.getR (x := 488) (pc := 1) (ci := 13) (k := 8) (M := 11) (T := TX11) (o := 0) (kz := 8) hG a_0 a_0.n (by decide) hin_X11 rfl (by decide) (by decide) rfl kw_531 rfl ((hw).1 (0, 8, 488) (by decide)) (by decide) dX11_done_1 ?_
  refine V.callVNv (pc := 4) (As := []) (stk := []) hG (sm_X5_goWithTheirDepths l Δ  hi hw h) mY_X5_goWithTheirDepths kw_1304 kw_1306 kw_93 a_488 (by decide) (q := (RX5, TX5, 7)) rfl rfl ⟨Nat.le_of_ble_eq_true rfl, Nat.le_of_ble_eq_true rfl, Nat.le_of_ble_eq_true rfl, Nat.le_of_ble_eq_true rfl⟩ rfl (Nat.le_of_ble_eq_true rfl) dX11_done_4 rfl (fun i2 r3 hi5 hw6 hq7 => ?_)
  obtain ⟨e18, h⟩ := hq7
  subst e18
  refine V.aload_n (pc := 7) hG dX11_done_7 rfl 0 rfl ?_
  refine V.getR (x := 488) (pc := 8) (ci := 13) (k := 8) (M := 11) (T := TX11) (o := 0) (kz := 8) hG a_0 a_0.n (by decide) hin_X11 rfl (by decide) (by decide) rfl kw_531 rfl ((hw).1 (0, 8, 488) (by decide)) (by decide) dX11_done_8 ?_
  refine V.callVNi (pc := 11) (As := []) (stk := []) hG (sm_X5_countDone l Δ  hi5 hw h) mY_X5_countDone kw_1786 kw_1788 kw_100 a_488 (by decide) (q := (RX5, TX5, 7)) rfl rfl ⟨Nat.le_of_ble_eq_true rfl, Nat.le_of_ble_eq_true rfl, Nat.le_of_ble_eq_true rfl, Nat.le_of_ble_eq_true rfl⟩ rfl (Nat.le_of_ble_eq_true rfl) dX11_done_11 rfl (fun v8 i9 r10 hv11 hi12 hw13 hq14 => ?_)
  obtain ⟨e15, e16, h⟩ := hq14
  subst e15
  subst e16
  exact fin dX11_done_14 hv11 rfl hi5 hw ⟨rfl, h⟩
set_option maxRecDepth 100000 in
set_option maxHeartbeats 4000000 in
theorem sm_X5_nextChannel (l : Launch) (Δ : Wd) {i r : MI} {p1 : Int} (hp1 : sR p1) {Q : Int → Prop} (hi : okI i) (hw : Wf r) (h : wp_X5_nextChannel p1 i r Q) : Met l yX5_nextChannel (Cond.code yX5_nextChannel cX5_nextChannel 3 (some .int) :: gW) (sRm 0 0) (sPc Δ [.ref (sA Δ 488), .int (sJ p1)] i r) (sQi Δ (fun x i' r' => i = i' ∧ r = r' ∧ Q x)) 0 0 (sFr Δ) := by
  refine Ct.i (ty := .int) (by decide) rfl (Nat.le_of_ble_eq_true rfl) (fun Γ Q0 hG fin => ?_)
  have hG : okG Γ Δ l (sRm 0 0) cX5_nextChannel "Schedulary$Processes" 3 := hG
  show V Γ Δ 504 false i r 0 0 Q0 0 [(0, .ref (sA Δ 488)), (1, .int (sJ p1))] []
  have jn29 : ∀ (k0j29 : Int), sR k0j29 → s29_X5_nextChannel k0j29 i r Q → V Γ Δ 504 false i r 0 0 Q0 29 [] [.int (sJ k0j29)] := by
    intro k0j29 hk0j29 h
    exact fin dX5_nextChannel_29 hk0j29 rfl hi hw ⟨rfl, rfl, h⟩
  refine V.aload_n (pc := 0) hG dX5_nextChannel_0 rfl 0 rfl ?_
  refine V.getR (x := 503) (pc := 1) (ci := 7) (k := 6) (M := 7) (T := TX5) (o := 488) (kz := 6) hG a_488 a_488.n (by decide) hin_X5 rfl (by decide) (by decide) rfl kw_507 rfl ((hw).1 (488, 6, 503) (by decide)) (by decide) dX5_nextChannel_1 ?_
  refine V.iload_n (pc := 4) hG dX5_nextChannel_4 rfl 1 rfl ?_
  obtain ⟨g1, h⟩ := h
  refine V.iald (pc := 5) (z := 4) (o := 503) hG a_503 a_503.n hp1 g1 dX5_nextChannel_5 ?_
  refine V.istore_n (pc := 6) (lv' := [(2, .int (sJ (i 503 p1))), (0, .ref (sA Δ 488)), (1, .int (sJ p1))]) hG dX5_nextChannel_6 rfl (by decide) rfl ?_
  refine V.iload_n (pc := 7) hG dX5_nextChannel_7 rfl 0 rfl ?_
  refine V.aload_n (pc := 8) hG dX5_nextChannel_8 rfl 1 rfl ?_
  refine V.getR (x := 499) (pc := 9) (ci := 7) (k := 2) (M := 7) (T := TX5) (o := 488) (kz := 2) hG a_488 a_488.n (by decide) hin_X5 rfl (by decide) (by decide) rfl kw_501 rfl ((hw).1 (488, 2, 499) (by decide)) (by decide) dX5_nextChannel_9 ?_
  refine V.iload_n (pc := 12) hG dX5_nextChannel_12 rfl 2 rfl ?_
  obtain ⟨g2, h⟩ := h
  refine V.iald (pc := 13) (z := 4) (o := 499) hG a_499 a_499.n hp1 g2 dX5_nextChannel_13 ?_
  obtain ⟨t4, f5⟩ := h
  refine V.icmp_ge (pc := 14) (tgt := 28) hG ((hi _ _)) ((hi _ _)) dX5_nextChannel_14 (by decide) (fun c3 => ?_) (fun c3 => ?_)
  · have h := t4 c3
    clear t4 f5
    refine V.iconst (pc := 28) hG dX5_nextChannel_28 ?_
    refine V.pick [] rfl ?_
    exact jn29 (-1) ((sR_l rfl)) h
  · have h := f5 c3
    clear t4 f5
    refine V.aload_n (pc := 17) hG dX5_nextChannel_17 rfl 1 rfl ?_
    refine V.getR (x := 489) (pc := 18) (ci := 7) (k := 0) (M := 7) (T := TX5) (o := 488) (kz := 0) hG a_488 a_488.n (by decide) hin_X5 rfl (by decide) (by decide) rfl kw_499 rfl ((hw).1 (488, 0, 489) (by decide)) (by decide) dX5_nextChannel_18 ?_
    refine V.iload_n (pc := 21) hG dX5_nextChannel_21 rfl 2 rfl ?_
    obtain ⟨g6, h⟩ := h
    refine V.aald (pc := 22) 7 (z := 4) (o := 489) (x := p1) (y := 490 + p1) hG a_489 a_489.n (by decide) hp1 g6 (hw.2.1 (489, 4, 490) (by decide) _ g6.1 g6.2) (by omega) dX5_nextChannel_22 ?_
    refine V.iload_n (pc := 23) hG dX5_nextChannel_23 rfl 0 rfl ?_
    obtain ⟨g7, h⟩ := h
    refine V.iald (pc := 24) (z := 16) (o := 490 + p1) hG (row_489 g6) ((row_489 g6)).n ((hi _ _)) g7 dX5_nextChannel_24 ?_
    refine V.goto (pc := 25) (tgt := 29) hG dX5_nextChannel_25 (by decide) ?_
    refine V.pick [] rfl ?_
    exact jn29 (i (490 + p1) (i 503 p1)) ((hi _ _)) h
set_option maxRecDepth 100000 in
set_option maxHeartbeats 4000000 in
theorem sm_X11_waitsFor (l : Launch) (Δ : Wd) {i r : MI} {p1 : Int} (hp1 : sR p1) {Q : Int → MI → Prop} {X : String → MI → Prop} (hst : l.stackTraces = false) (hi : okI i) (hw : Wf r) (h : wp_X11_waitsFor p1 i r Q X) : vx_Met l yX11_waitsFor (Cond.code yX11_waitsFor cX11_waitsFor 2 (some .int) :: gW) (sRx 6 82 1 6) (sPc Δ [.ref (sA Δ 0), .int (sJ p1)] i r) (sQi Δ (fun x i' r' => r = r' ∧ Q x i')) (sX Δ (fun E i' r' => r = r' ∧ X E i')) 1 6 (sFr Δ) := by
  refine Cx.i (ty := .int) (by decide) rfl (Nat.le_of_ble_eq_true rfl) hst (by decide) (by decide) (fun Γ Q0 hG fin xout xthr => ?_)
  have hG : okG Γ Δ l (sRx 6 82 1 6) cX11_waitsFor "Schedulary" 2 := hG
  show V Γ Δ 504 false i r 0 0 Q0 0 [(0, .ref (sA Δ 0)), (1, .int (sJ p1))] []
  refine V.iload_n (pc := 0) hG dX11_waitsFor_0 rfl 1 rfl ?_
  refine V.iconst (pc := 1) hG dX11_waitsFor_1 ?_
  refine V.iconst (pc := 2) hG dX11_waitsFor_2 ?_
  refine V.callSi (pc := 3) (As := [.int (sJ p1), .int (sJ 0), .int (sJ 3)]) (stk := []) hG (sm_X11_isWithin l Δ hp1 ((sR_l rfl)) ((sR_l rfl)) hi hw h) mY_X11_isWithin kw_1221 kw_826 ⟨Nat.le_of_ble_eq_true rfl, Nat.le_of_ble_eq_true rfl, Nat.le_of_ble_eq_true rfl, Nat.le_of_ble_eq_true rfl⟩ rfl (Nat.le_of_ble_eq_true rfl) dX11_waitsFor_3 rfl (fun v1 i2 r3 hv4 hi5 hw6 hq7 => ?_)
  obtain ⟨e29, e30, h⟩ := hq7
  subst e29
  subst e30
  obtain ⟨f10, t9⟩ := h
  refine V.if_ne (pc := 6) (tgt := 20) hG hv4 dX11_waitsFor_6 (by decide) (fun c8 => ?_) (fun c8 => ?_)
  · have h := t9 c8
    clear t9 f10
    refine V.aload_n (pc := 20) hG dX11_waitsFor_20 rfl 0 rfl ?_
    refine V.getR (x := 488) (pc := 21) (ci := 13) (k := 8) (M := 11) (T := TX11) (o := 0) (kz := 8) hG a_0 a_0.n (by decide) hin_X11 rfl (by decide) (by decide) rfl kw_531 rfl ((hw).1 (0, 8, 488) (by decide)) (by decide) dX11_waitsFor_21 ?_
    refine V.callVNv (pc := 24) (As := []) (stk := []) hG (sm_X5_goWithTheirDepths l Δ  hi hw h) mY_X5_goWithTheirDepths kw_1304 kw_1306 kw_93 a_488 (by decide) (q := (RX5, TX5, 7)) rfl rfl ⟨Nat.le_of_ble_eq_true rfl, Nat.le_of_ble_eq_true rfl, Nat.le_of_ble_eq_true rfl, Nat.le_of_ble_eq_true rfl⟩ rfl (Nat.le_of_ble_eq_true rfl) dX11_waitsFor_24 rfl (fun i12 r13 hi15 hw16 hq17 => ?_)
    obtain ⟨e28, h⟩ := hq17
    subst e28
    refine V.aload_n (pc := 27) hG dX11_waitsFor_27 rfl 0 rfl ?_
    refine V.getR (x := 488) (pc := 28) (ci := 13) (k := 8) (M := 11) (T := TX11) (o := 0) (kz := 8) hG a_0 a_0.n (by decide) hin_X11 rfl (by decide) (by decide) rfl kw_531 rfl ((hw).1 (0, 8, 488) (by decide)) (by decide) dX11_waitsFor_28 ?_
    refine V.iload_n (pc := 31) hG dX11_waitsFor_31 rfl 1 rfl ?_
    refine V.callVNi (pc := 32) (As := [.int (sJ p1)]) (stk := []) hG (sm_X5_nextChannel l Δ hp1 hi15 hw h) mY_X5_nextChannel kw_1316 kw_1318 kw_96 a_488 (by decide) (q := (RX5, TX5, 7)) rfl rfl ⟨Nat.le_of_ble_eq_true rfl, Nat.le_of_ble_eq_true rfl, Nat.le_of_ble_eq_true rfl, Nat.le_of_ble_eq_true rfl⟩ rfl (Nat.le_of_ble_eq_true rfl) dX11_waitsFor_32 rfl (fun v18 i19 r20 hv21 hi22 hw23 hq24 => ?_)
    obtain ⟨e25, e26, h⟩ := hq24
    subst e25
    subst e26
    exact fin dX11_waitsFor_35 hv21 rfl (by decide) (by decide) hi15 hw ⟨rfl, h⟩
  · have h := f10 c8
    clear t9 f10
    exact xthr ⟨88, 347, 92, "no such process", by decide, kw_1096, kw_125, by decide, .inl th_92, dX11_waitsFor_9, dX11_waitsFor_12, Or.inr ⟨dX11_waitsFor_13, dX11_waitsFor_16, dX11_waitsFor_19⟩⟩ (by decide) (by decide) hi hw ⟨rfl, h⟩
set_option maxRecDepth 100000 in
set_option maxHeartbeats 4000000 in
theorem sm_X5_isSomeLeft (l : Launch) (Δ : Wd) {i r : MI}   {Q : Int → Prop} (hi : okI i) (hw : Wf r) (h : wp_X5_isSomeLeft  i r Q) : Met l yX5_isSomeLeft (Cond.code yX5_isSomeLeft cX5_isSomeLeft 2 (some .boolean) :: gW) (sRm 0 0) (sPc Δ [.ref (sA Δ 488)] i r) (sQi Δ (fun x i' r' => i = i' ∧ r = r' ∧ Q x)) 0 0 (sFr Δ) := by
  refine Ct.i (ty := .boolean) (by decide) rfl (Nat.le_of_ble_eq_true rfl) (fun Γ Q0 hG fin => ?_)
  have hG : okG Γ Δ l (sRm 0 0) cX5_isSomeLeft "Schedulary$Processes" 2 := hG
  show V Γ Δ 504 false i r 0 0 Q0 0 [(0, .ref (sA Δ 488))] []
  refine V.iconst (pc := 0) hG dX5_isSomeLeft_0 ?_
  refine V.istore_n (pc := 1) (lv' := [(1, .int (sJ 0)), (0, .ref (sA Δ 488))]) hG dX5_isSomeLeft_1 rfl (by decide) rfl ?_
  obtain ⟨n9, h⟩ := h
  have lp2 : ∀ (m2 : Nat) (x1_2 : Int), sR x1_2 → LoopP (b2_X5_isSomeLeft i r Q) m2 (x1_2) → V Γ Δ 504 false i r 0 0 Q0 2 [(0, .ref (sA Δ 488)), (1, .int (sJ x1_2))] [] := by
    intro m2
    induction m2 with
    | zero => intro x1_2 hx1_2 h; exact h.elim
    | succ m2 ih2 =>
      intro x1_2 hx1_2 h
      have h := LoopP_succ h
      refine V.iload_n (pc := 2) hG dX5_isSomeLeft_2 rfl 1 rfl ?_
      refine V.iconst (pc := 3) hG dX5_isSomeLeft_3 ?_
      obtain ⟨t11, f12⟩ := h
      refine V.icmp_ge (pc := 4) (tgt := 30) hG hx1_2 ((sR_l rfl)) dX5_isSomeLeft_4 (by decide) (fun c10 => ?_) (fun c10 => ?_)
      · have h := t11 c10
        clear t11 f12
        refine V.iconst (pc := 30) hG dX5_isSomeLeft_30 ?_
        exact fin dX5_isSomeLeft_31 ((sR_l rfl)) (nar_z (by decide)) hi hw ⟨rfl, rfl, h⟩
      · have h := f12 c10
        clear t11 f12
        refine V.aload_n (pc := 7) hG dX5_isSomeLeft_7 rfl 0 rfl ?_
        refine V.getR (x := 503) (pc := 8) (ci := 7) (k := 6) (M := 7) (T := TX5) (o := 488) (kz := 6) hG a_488 a_488.n (by decide) hin_X5 rfl (by decide) (by decide) rfl kw_507 rfl ((hw).1 (488, 6, 503) (by decide)) (by decide) dX5_isSomeLeft_8 ?_
        refine V.iload_n (pc := 11) hG dX5_isSomeLeft_11 rfl 1 rfl ?_
        obtain ⟨g13, h⟩ := h
        refine V.iald (pc := 12) (z := 4) (o := 503) hG a_503 a_503.n hx1_2 g13 dX5_isSomeLeft_12 ?_
        refine V.aload_n (pc := 13) hG dX5_isSomeLeft_13 rfl 0 rfl ?_
        refine V.getR (x := 499) (pc := 14) (ci := 7) (k := 2) (M := 7) (T := TX5) (o := 488) (kz := 2) hG a_488 a_488.n (by decide) hin_X5 rfl (by decide) (by decide) rfl kw_501 rfl ((hw).1 (488, 2, 499) (by decide)) (by decide) dX5_isSomeLeft_14 ?_
        refine V.iload_n (pc := 17) hG dX5_isSomeLeft_17 rfl 1 rfl ?_
        obtain ⟨g14, h⟩ := h
        refine V.iald (pc := 18) (z := 4) (o := 499) hG a_499 a_499.n hx1_2 g14 dX5_isSomeLeft_18 ?_
        obtain ⟨t16, f17⟩ := h
        refine V.icmp_ge (pc := 19) (tgt := 24) hG ((hi _ _)) ((hi _ _)) dX5_isSomeLeft_19 (by decide) (fun c15 => ?_) (fun c15 => ?_)
        · have h := t16 c15
          clear t16 f17
          refine V.iinc (pc := 24) (lv' := [(1, .int (sJ (wr (x1_2 + 1)))), (0, .ref (sA Δ 488))]) hG dX5_isSomeLeft_24 1 rfl (by decide) rfl ?_
          refine V.goto (pc := 27) (tgt := 2) hG dX5_isSomeLeft_27 (by decide) ?_
          refine V.pick [1, 0] rfl ?_
          exact ih2 (wr (x1_2 + 1)) ((sR_wr _)) h
        · have h := f17 c15
          clear t16 f17
          refine V.iconst (pc := 22) hG dX5_isSomeLeft_22 ?_
          exact fin dX5_isSomeLeft_23 ((sR_l rfl)) (nar_z (by decide)) hi hw ⟨rfl, rfl, h⟩
  refine V.pick [1, 0] rfl ?_
  exact lp2 n9 0 ((sR_l rfl)) h
set_option maxRecDepth 100000 in
set_option maxHeartbeats 4000000 in
theorem sm_X11_areLocked (l : Launch) (Δ : Wd) {i r : MI}   {Q : Int → MI → Prop} (hi : okI i) (hw : Wf r) (h : wp_X11_areLocked  i r Q) : Met l yX11_areLocked (Cond.code yX11_areLocked cX11_areLocked 1 (some .boolean) :: gW) (sRm 3 69) (sPc Δ [.ref (sA Δ 0)] i r) (sQi Δ (fun x i' r' => r = r' ∧ Q x i')) 0 0 (sFr Δ) := by
  refine Ct.i (ty := .boolean) (by decide) rfl (Nat.le_of_ble_eq_true rfl) (fun Γ Q0 hG fin => ?_)
  have hG : okG Γ Δ l (sRm 3 69) cX11_areLocked "Schedulary" 1 := hG
  show V Γ Δ 504 false i r 0 0 Q0 0 [(0, .ref (sA Δ 0))] []
  refine V.aload_n (pc := 0) hG dX11_areLocked_0 rfl 0 rfl ?_
  refine V.getR (x := 488) (pc := 1) (ci := 13) (k := 8) (M := 11) (T := TX11) (o := 0) (kz := 8) hG a_0 a_0.n (by decide) hin_X11 rfl (by decide) (by decide) rfl kw_531 rfl ((hw).1 (0, 8, 488) (by decide)) (by decide) dX11_areLocked_1 ?_
  refine V.callVNv (pc := 4) (As := []) (stk := []) hG (sm_X5_goWithTheirDepths l Δ  hi hw h) mY_X5_goWithTheirDepths kw_1304 kw_1306 kw_93 a_488 (by decide) (q := (RX5, TX5, 7)) rfl rfl ⟨Nat.le_of_ble_eq_true rfl, Nat.le_of_ble_eq_true rfl, Nat.le_of_ble_eq_true rfl, Nat.le_of_ble_eq_true rfl⟩ rfl (Nat.le_of_ble_eq_true rfl) dX11_areLocked_4 rfl (fun i2 r3 hi5 hw6 hq7 => ?_)
  obtain ⟨e19, h⟩ := hq7
  subst e19
  refine V.aload_n (pc := 7) hG dX11_areLocked_7 rfl 0 rfl ?_
  refine V.getR (x := 488) (pc := 8) (ci := 13) (k := 8) (M := 11) (T := TX11) (o := 0) (kz := 8) hG a_0 a_0.n (by decide) hin_X11 rfl (by decide) (by decide) rfl kw_531 rfl ((hw).1 (0, 8, 488) (by decide)) (by decide) dX11_areLocked_8 ?_
  refine V.callVNi (pc := 11) (As := []) (stk := []) hG (sm_X5_isSomeLeft l Δ  hi5 hw h) mY_X5_isSomeLeft kw_1781 kw_1427 kw_99 a_488 (by decide) (q := (RX5, TX5, 7)) rfl rfl ⟨Nat.le_of_ble_eq_true rfl, Nat.le_of_ble_eq_true rfl, Nat.le_of_ble_eq_true rfl, Nat.le_of_ble_eq_true rfl⟩ rfl (Nat.le_of_ble_eq_true rfl) dX11_areLocked_11 rfl (fun v8 i9 r10 hv11 hi12 hw13 hq14 => ?_)
  obtain ⟨e16, e17, h⟩ := hq14
  subst e16
  subst e17
  obtain ⟨g15, h⟩ := h
  exact fin dX11_areLocked_14 hv11 (nar_z g15) hi5 hw ⟨rfl, h⟩
set_option maxRecDepth 100000 in
set_option maxHeartbeats 4000000 in
theorem sm_X5_findLeastDepth (l : Launch) (Δ : Wd) {i r : MI}   {Q : Int → MI → Prop} (hi : okI i) (hw : Wf r) (h : wp_X5_findLeastDepth  i r Q) : Met l yX5_findLeastDepth (Cond.code yX5_findLeastDepth cX5_findLeastDepth 3 (some .int) :: gW) (sRm 2 48) (sPc Δ [.ref (sA Δ 488)] i r) (sQi Δ (fun x i' r' => r = r' ∧ Q x i')) 0 0 (sFr Δ) := by
  refine Ct.i (ty := .int) (by decide) rfl (Nat.le_of_ble_eq_true rfl) (fun Γ Q0 hG fin => ?_)
  have hG : okG Γ Δ l (sRm 2 48) cX5_findLeastDepth "Schedulary$Processes" 3 := hG
  show V Γ Δ 504 false i r 0 0 Q0 0 [(0, .ref (sA Δ 488))] []
  refine V.iconst (pc := 0) hG dX5_findLeastDepth_0 ?_
  refine V.istore_n (pc := 1) (lv' := [(1, .int (sJ 1)), (0, .ref (sA Δ 488))]) hG dX5_findLeastDepth_1 rfl (by decide) rfl ?_
  obtain ⟨n55, h⟩ := h
  have lp2 : ∀ (m2 : Nat) (x1_2 : Int) (i_2 : MI), sR x1_2 → okI i_2 → LoopP (b2_X5_findLeastDepth r Q) m2 (x1_2, i_2) → V Γ Δ 504 false i_2 r 0 0 Q0 2 [(0, .ref (sA Δ 488)), (1, .int (sJ x1_2))] [] := by
    intro m2
    induction m2 with
    | zero => intro x1_2 i_2 hx1_2 hi_2 h; exact h.elim
    | succ m2 ih2 =>
      intro x1_2 i_2 hx1_2 hi_2 h
      have h := LoopP_succ h
      refine V.iload_n (pc := 2) hG dX5_findLeastDepth_2 rfl 1 rfl ?_
      refine V.bipush (pc := 3) hG dX5_findLeastDepth_3 (by decide) ?_
      obtain ⟨t57, f58⟩ := h
      refine V.icmp_gt (pc := 5) (tgt := 47) hG hx1_2 ((sR_l rfl)) dX5_findLeastDepth_5 (by decide) (fun c56 => ?_) (fun c56 => ?_)
      · have h := t57 c56
        clear t57 f58
        refine V.iconst (pc := 47) hG dX5_findLeastDepth_47 ?_
        exact fin dX5_findLeastDepth_48 ((sR_l rfl)) rfl hi_2 hw ⟨rfl, h⟩
      · have h := f58 c56
        clear t57 f58
        refine V.iconst (pc := 8) hG dX5_findLeastDepth_8 ?_
        refine V.istore_n (pc := 9) (lv' := [(2, .int (sJ 0)), (0, .ref (sA Δ 488)), (1, .int (sJ x1_2))]) hG dX5_findLeastDepth_9 rfl (by decide) rfl ?_
        obtain ⟨n59, h⟩ := h
        have lp10 : ∀ (m10 : Nat) (x2_10 : Int) (i_10 : MI), sR x2_10 → okI i_10 → LoopP (b10_X5_findLeastDepth x1_2 r Q (LoopP (b2_X5_findLeastDepth r Q) m2)) m10 (x2_10, i_10) → V Γ Δ 504 false i_10 r 0 0 Q0 10 [(0, .ref (sA Δ 488)), (1, .int (sJ x1_2)), (2, .int (sJ x2_10))] [] := by
          intro m10
          induction m10 with
          | zero => intro x2_10 i_10 hx2_10 hi_10 h; exact h.elim
          | succ m10 ih10 =>
            intro x2_10 i_10 hx2_10 hi_10 h
            have h := LoopP_succ h
            refine V.iload_n (pc := 10) hG dX5_findLeastDepth_10 rfl 2 rfl ?_
            refine V.iconst (pc := 11) hG dX5_findLeastDepth_11 ?_
            obtain ⟨t61, f62⟩ := h
            refine V.icmp_ge (pc := 12) (tgt := 28) hG hx2_10 ((sR_l rfl)) dX5_findLeastDepth_12 (by decide) (fun c60 => ?_) (fun c60 => ?_)
            · have h := t61 c60
              clear t61 f62
              refine V.aload_n (pc := 28) hG dX5_findLeastDepth_28 rfl 0 rfl ?_
              refine V.callVv (pc := 29) (As := []) (stk := []) hG (sm_X5_go l Δ  hi_10 hw h) mY_X5_go kw_1308 kw_1310 kw_94 a_488 (by decide) (q := (RX5, TX5, 7)) rfl rfl ⟨Nat.le_of_ble_eq_true rfl, Nat.le_of_ble_eq_true rfl, Nat.le_of_ble_eq_true rfl, Nat.le_of_ble_eq_true rfl⟩ rfl (Nat.le_of_ble_eq_true rfl) dX5_findLeastDepth_29 rfl (fun i64 r65 hi67 hw68 hq69 => ?_)
              obtain ⟨e83, h⟩ := hq69
              subst e83
              refine V.aload_n (pc := 32) hG dX5_findLeastDepth_32 rfl 0 rfl ?_
              refine V.callVi (pc := 33) (As := []) (stk := []) hG (sm_X5_isSomeLeft l Δ  hi67 hw h) mY_X5_isSomeLeft kw_1425 kw_1427 kw_99 a_488 (by decide) (q := (RX5, TX5, 7)) rfl rfl ⟨Nat.le_of_ble_eq_true rfl, Nat.le_of_ble_eq_true rfl, Nat.le_of_ble_eq_true rfl, Nat.le_of_ble_eq_true rfl⟩ rfl (Nat.le_of_ble_eq_true rfl) dX5_findLeastDepth_33 rfl (fun v70 i71 r72 hv73 hi74 hw75 hq76 => ?_)
              obtain ⟨e80, e81, h⟩ := hq76
              subst e80
              subst e81
              obtain ⟨f79, t78⟩ := h
              refine V.if_ne (pc := 36) (tgt := 41) hG hv73 dX5_findLeastDepth_36 (by decide) (fun c77 => ?_) (fun c77 => ?_)
              · have h := t78 c77
                clear t78 f79
                refine V.iinc (pc := 41) (lv' := [(1, .int (sJ (wr (x1_2 + 1)))), (0, .ref (sA Δ 488)), (2, .int (sJ x2_10))]) hG dX5_findLeastDepth_41 1 rfl (by decide) rfl ?_
                refine V.goto (pc := 44) (tgt := 2) hG dX5_findLeastDepth_44 (by decide) ?_
                refine V.pick [1, 0] rfl ?_
                exact ih2 (wr (x1_2 + 1)) i64 ((sR_wr _)) hi67 h
              · have h := f79 c77
                clear t78 f79
                refine V.iload_n (pc := 39) hG dX5_findLeastDepth_39 rfl 1 rfl ?_
                exact fin dX5_findLeastDepth_40 hx1_2 rfl hi67 hw ⟨rfl, h⟩
            · have h := f62 c60
              clear t61 f62
              refine V.aload_n (pc := 15) hG dX5_findLeastDepth_15 rfl 0 rfl ?_
              refine V.getR (x := 501) (pc := 16) (ci := 7) (k := 4) (M := 7) (T := TX5) (o := 488) (kz := 4) hG a_488 a_488.n (by decide) hin_X5 rfl (by decide) (by decide) rfl kw_505 rfl ((hw).1 (488, 4, 501) (by decide)) (by decide) dX5_findLeastDepth_16 ?_
              refine V.iload_n (pc := 19) hG dX5_findLeastDepth_19 rfl 2 rfl ?_
              refine V.iload_n (pc := 20) hG dX5_findLeastDepth_20 rfl 1 rfl ?_
              obtain ⟨g84, h⟩ := h
              refine V.iast (pc := 21) (z := 4) (o := 501) hG a_501 a_501.n hx2_10 g84 dX5_findLeastDepth_21 ?_
              refine V.iinc (pc := 22) (lv' := [(2, .int (sJ (wr (x2_10 + 1)))), (0, .ref (sA Δ 488)), (1, .int (sJ x1_2))]) hG dX5_findLeastDepth_22 2 rfl (by decide) rfl ?_
              refine V.goto (pc := 25) (tgt := 10) hG dX5_findLeastDepth_25 (by decide) ?_
              refine V.pick [1, 2, 0] rfl ?_
              exact ih10 (wr (x2_10 + 1)) (st i_10 501 x2_10 x1_2) ((sR_wr _)) ((okI_st hi_10 hx1_2)) h
        refine V.pick [1, 2, 0] rfl ?_
        exact lp10 n59 0 i_2 ((sR_l rfl)) hi_2 h
  refine V.pick [1, 0] rfl ?_
  exact lp2 n55 1 i ((sR_l rfl)) hi h
set_option maxRecDepth 100000 in
set_option maxHeartbeats 4000000 in
theorem sm_X11_leastDepth (l : Launch) (Δ : Wd) {i r : MI}   {Q : Int → MI → Prop} {X : String → MI → Prop} (hst : l.stackTraces = false) (hi : okI i) (hw : Wf r) (h : wp_X11_leastDepth  i r Q X) : vx_Met l yX11_leastDepth (Cond.code yX11_leastDepth cX11_leastDepth 2 (some .int) :: gW) (sRx 6 82 1 6) (sPc Δ [.ref (sA Δ 0)] i r) (sQi Δ (fun x i' r' => r = r' ∧ Q x i')) (sX Δ (fun E i' r' => r = r' ∧ X E i')) 1 6 (sFr Δ) := by
  refine Cx.i (ty := .int) (by decide) rfl (Nat.le_of_ble_eq_true rfl) hst (by decide) (by decide) (fun Γ Q0 hG fin xout xthr => ?_)
  have hG : okG Γ Δ l (sRx 6 82 1 6) cX11_leastDepth "Schedulary" 2 := hG
  show V Γ Δ 504 false i r 0 0 Q0 0 [(0, .ref (sA Δ 0))] []
  refine V.aload_n (pc := 0) hG dX11_leastDepth_0 rfl 0 rfl ?_
  refine V.getR (x := 488) (pc := 1) (ci := 13) (k := 8) (M := 11) (T := TX11) (o := 0) (kz := 8) hG a_0 a_0.n (by decide) hin_X11 rfl (by decide) (by decide) rfl kw_531 rfl ((hw).1 (0, 8, 488) (by decide)) (by decide) dX11_leastDepth_1 ?_
  refine V.callVNi (pc := 4) (As := []) (stk := []) hG (sm_X5_findLeastDepth l Δ  hi hw h) mY_X5_findLeastDepth kw_1421 kw_1423 kw_98 a_488 (by decide) (q := (RX5, TX5, 7)) rfl rfl ⟨Nat.le_of_ble_eq_true rfl, Nat.le_of_ble_eq_true rfl, Nat.le_of_ble_eq_true rfl, Nat.le_of_ble_eq_true rfl⟩ rfl (Nat.le_of_ble_eq_true rfl) dX11_leastDepth_4 rfl (fun v1 i2 r3 hv4 hi5 hw6 hq7 => ?_)
  obtain ⟨e12, h⟩ := hq7
  subst e12
  refine V.istore_n (pc := 7) (lv' := [(1, .int (sJ v1)), (0, .ref (sA Δ 0))]) hG dX11_leastDepth_7 rfl (by decide) rfl ?_
  refine V.iload_n (pc := 8) hG dX11_leastDepth_8 rfl 0 rfl ?_
  refine V.iconst (pc := 9) hG dX11_leastDepth_9 ?_
  obtain ⟨f10, t9⟩ := h
  refine V.icmp_ne (pc := 10) (tgt := 24) hG hv4 ((sR_l rfl)) dX11_leastDepth_10 (by decide) (fun c8 => ?_) (fun c8 => ?_)
  · have h := t9 c8
    clear t9 f10
    refine V.iload_n (pc := 24) hG dX11_leastDepth_24 rfl 0 rfl ?_
    exact fin dX11_leastDepth_25 hv4 rfl (by decide) (by decide) hi5 hw ⟨rfl, h⟩
  · have h := f10 c8
    clear t9 f10
    exact xthr ⟨265, 359, 269, "locked by 16, too", by decide, kw_1377, kw_128, by decide, .inr ⟨13, nz13, nz13_d, th_269⟩, dX11_leastDepth_13, dX11_leastDepth_16, Or.inr ⟨dX11_leastDepth_17, dX11_leastDepth_20, dX11_leastDepth_23⟩⟩ (by decide) (by decide) hi5 hw ⟨rfl, h⟩
set_option maxRecDepth 100000 in
set_option maxHeartbeats 4000000 in
theorem sm_X11_busyShare (l : Launch) (Δ : Wd) {i r : MI} {p1 : Int} (hp1 : sR p1) {Q : UInt32 → MI → MI → Prop} {X : String → MI → MI → Prop} (hst : l.stackTraces = false) (hi : okI i) (hw : Wf r) (h : wp_X11_busyShare p1 i r Q X) : vx_Met l yX11_busyShare (Cond.code yX11_busyShare cX11_busyShare 4 (some .float) :: gW) (sRx 6 145 1 6) (sPc Δ [.ref (sA Δ 0), .int (sJ p1)] i r) (sQf Δ (Q)) (sX Δ (X)) 1 6 (sFr Δ) := by
  refine Cx.f (by decide) rfl (Nat.le_of_ble_eq_true rfl) hst (by decide) (by decide) (fun Γ Q0 hG fin xout xthr => ?_)
  have hG : okG Γ Δ l (sRx 6 145 1 6) cX11_busyShare "Schedulary" 4 := hG
  show V Γ Δ 504 false i r 0 0 Q0 0 [(0, .ref (sA Δ 0)), (1, .int (sJ p1))] []
  have jn67 : ∀ (k0j67 : UInt32) (ij67 : MI) (rj67 : MI), okI ij67 → Wf rj67 → s67_X11_busyShare k0j67 ij67 rj67 Q X → V Γ Δ 504 false ij67 rj67 0 0 Q0 67 [] [.float k0j67] := by
    intro k0j67 ij67 rj67 hij67 hwj67 h
    exact fin dX11_busyShare_67 (by decide) (by decide) hij67 hwj67 h
  refine V.ldcS (pc := 0) (k := 3) (tx := "amgMN<>") hG (by decide) dX11_busyShare_0 ?_
  refine V.iload_n (pc := 2) hG dX11_busyShare_2 rfl 1 rfl ?_
  refine V.callVSi (pc := 3) (As := [.int (sJ p1)]) (stk := []) hG (sm_J0_indexOf_0f7a4 l Δ (by decide) hp1 hi hw h) mY_J0_indexOf_0f7a4 kw_1014 kw_1015 kw_1016 (by decide) rfl ⟨Nat.le_of_ble_eq_true rfl, Nat.le_of_ble_eq_true rfl, Nat.le_of_ble_eq_true rfl, Nat.le_of_ble_eq_true rfl⟩ rfl (Nat.le_of_ble_eq_true rfl) dX11_busyShare_3 rfl (fun v1 i2 r3 hv4 hi5 hw6 hq7 => ?_)
  obtain ⟨e26, e27, h⟩ := hq7
  subst e26
  subst e27
  refine V.istore_n (pc := 6) (lv' := [(2, .int (sJ v1)), (0, .ref (sA Δ 0)), (1, .int (sJ p1))]) hG dX11_busyShare_6 rfl (by decide) rfl ?_
  refine V.iload_n (pc := 7) hG dX11_busyShare_7 rfl 0 rfl ?_
  obtain ⟨t9, f10⟩ := h
  refine V.if_ge (pc := 8) (tgt := 22) hG hv4 dX11_busyShare_8 (by decide) (fun c8 => ?_) (fun c8 => ?_)
  · have h := t9 c8
    clear t9 f10
    refine V.aload_n (pc := 22) hG dX11_busyShare_22 rfl 1 rfl ?_
    refine V.iconst (pc := 23) hG dX11_busyShare_23 ?_
    refine V.callVv (pc := 24) (As := [.int (sJ 4)]) (stk := []) hG (sm_X11_prepare l Δ ((sR_l rfl)) hi hw h) mY_X11_prepare kw_621 kw_623 kw_14 a_0 (by decide) (q := (RX11, TX11, 11)) rfl rfl ⟨Nat.le_of_ble_eq_true rfl, Nat.le_of_ble_eq_true rfl, Nat.le_of_ble_eq_true rfl, Nat.le_of_ble_eq_true rfl⟩ rfl (Nat.le_of_ble_eq_true rfl) dX11_busyShare_24 rfl (fun i12 r13 hi15 hw16 hq17 => ?_)
    have h := hq17
    refine V.aload_n (pc := 27) hG dX11_busyShare_27 rfl 1 rfl ?_
    refine V.getR (x := 67) (pc := 28) (ci := 13) (k := 3) (M := 11) (T := TX11) (o := 0) (kz := 3) hG a_0 a_0.n (by decide) hin_X11 rfl (by decide) (by decide) rfl kw_526 rfl ((hw16).1 (0, 3, 67) (by decide)) (by decide) dX11_busyShare_28 ?_
    refine V.getRN (x := 69) (pc := 31) (ci := 2) (k := 1) (M := 5) (T := TX0) (o := 67) (kz := 1) hG a_67 a_67.n (by decide) hin_X0 rfl (by decide) (by decide) rfl kw_358 rfl ((hw16).1 (67, 1, 69) (by decide)) (by decide) dX11_busyShare_31 ?_
    refine V.iload_n (pc := 34) hG dX11_busyShare_34 rfl 0 rfl ?_
    obtain ⟨g18, h⟩ := h
    refine V.iald (pc := 35) (z := 7) (o := 69) hG a_69 a_69.n hv4 g18 dX11_busyShare_35 ?_
    refine V.aload_n (pc := 36) hG dX11_busyShare_36 rfl 1 rfl ?_
    refine V.getR (x := 469) (pc := 37) (ci := 13) (k := 6) (M := 11) (T := TX11) (o := 0) (kz := 6) hG a_0 a_0.n (by decide) hin_X11 rfl (by decide) (by decide) rfl kw_529 rfl ((hw16).1 (0, 6, 469) (by decide)) (by decide) dX11_busyShare_37 ?_
    refine V.getIN (pc := 40) (ci := 6) (k := 5) (M := 6) (T := TX4) (o := 469) (kz := 5) hG a_469 a_469.n (by decide) hin_X4 rfl (by decide) (by decide) rfl kw_462 rfl dX11_busyShare_40 ?_
    refine V.imul (pc := 43) hG dX11_busyShare_43 ?_
    refine V.istore_n (pc := 44) (lv' := [(3, .int (sJ (wr (i12 69 v1 * i12 469 5)))), (2, .int (sJ v1)), (0, .ref (sA Δ 0)), (1, .int (sJ p1))]) hG dX11_busyShare_44 rfl (by decide) rfl ?_
    refine V.iload_n (pc := 45) hG dX11_busyShare_45 rfl 0 rfl ?_
    refine V.iconst (pc := 46) hG dX11_busyShare_46 ?_
    obtain ⟨t20, f21⟩ := h
    refine V.icmp_ge (pc := 47) (tgt := 54) hG ((sR_wr _)) ((sR_l rfl)) dX11_busyShare_47 (by decide) (fun c19 => ?_) (fun c19 => ?_)
    · have h := t20 c19
      clear t20 f21
      refine V.aload_n (pc := 54) hG dX11_busyShare_54 rfl 2 rfl ?_
      refine V.getR (x := 67) (pc := 55) (ci := 13) (k := 3) (M := 11) (T := TX11) (o := 0) (kz := 3) hG a_0 a_0.n (by decide) hin_X11 rfl (by decide) (by decide) rfl kw_526 rfl ((hw16).1 (0, 3, 67) (by decide)) (by decide) dX11_busyShare_55 ?_
      refine V.getRN (x := 71) (pc := 58) (ci := 2) (k := 3) (M := 5) (T := TX0) (o := 67) (kz := 3) hG a_67 a_67.n (by decide) hin_X0 rfl (by decide) (by decide) rfl kw_362 rfl ((hw16).1 (67, 3, 71) (by decide)) (by decide) dX11_busyShare_58 ?_
      refine V.iload_n (pc := 61) hG dX11_busyShare_61 rfl 1 rfl ?_
      obtain ⟨g22, h⟩ := h
      refine V.iald (pc := 62) (z := 7) (o := 71) hG a_71 a_71.n hv4 g22 dX11_busyShare_62 ?_
      refine V.i2f (pc := 63) hG dX11_busyShare_63 ?_
      refine V.iload_n (pc := 64) hG dX11_busyShare_64 rfl 0 rfl ?_
      refine V.i2f (pc := 65) hG dX11_busyShare_65 ?_
      obtain ⟨g23, h⟩ := h
      refine V.fdiv (pc := 66) hG (fdiv_ok ((sR_wr _)) g23) dX11_busyShare_66 ?_
      refine V.pick [] rfl ?_
      exact jn67 (FP.fdiv (FP.i2f (sJ (i12 71 v1))) (FP.i2f (sJ (wr (i12 69 v1 * i12 469 5))))) i12 r13 hi15 hw16 h
    · have h := f21 c19
      clear t20 f21
      refine V.fconst0 (pc := 50) hG dX11_busyShare_50 ?_
      refine V.goto (pc := 51) (tgt := 67) hG dX11_busyShare_51 (by decide) ?_
      refine V.pick [] rfl ?_
      exact jn67 FP.fconst0 i12 r13 hi15 hw16 h
  · have h := f10 c8
    clear t9 f10
    exact xthr ⟨88, 365, 92, "no such kind", by decide, kw_1096, kw_125, by decide, .inl th_92, dX11_busyShare_11, dX11_busyShare_14, Or.inr ⟨dX11_busyShare_15, dX11_busyShare_18, dX11_busyShare_21⟩⟩ (by decide) (by decide) hi hw h
set_option maxRecDepth 100000 in
set_option maxHeartbeats 4000000 in
theorem sm_X0_countTogether (l : Launch) (Δ : Wd) {i r : MI} {o1 : Int} {p2 : Int} {p3 : Int} (ho1 : isA o1 (20, 96)) (hp2 : sR p2) (hp3 : sR p3) {Q : Int → Prop} (hi : okI i) (hw : Wf r) (h : wp_X0_countTogether o1 p2 p3 i r Q) : Met l yX0_countTogether (Cond.code yX0_countTogether cX0_countTogether 6 (some .int) :: gW) (sRm 1 21) (sPc Δ [.ref (sA Δ 67), .ref (sA Δ o1), .int (sJ p2), .int (sJ p3)] i r) (sQi Δ (fun x i' r' => i = i' ∧ r = r' ∧ Q x)) 0 0 (sFr Δ) := by
  refine Ct.i (ty := .int) (by decide) rfl (Nat.le_of_ble_eq_true rfl) (fun Γ Q0 hG fin => ?_)
  have hG : okG Γ Δ l (sRm 1 21) cX0_countTogether "Schedulary$Body" 6 := hG
  show V Γ Δ 504 false i r 0 0 Q0 0 [(0, .ref (sA Δ 67)), (1, .ref (sA Δ o1)), (2, .int (sJ p2)), (3, .int (sJ p3))] []
  refine V.iconst (pc := 0) hG dX0_countTogether_0 ?_
  refine V.istore (pc := 1) (lv' := [(4, .int (sJ 0)), (0, .ref (sA Δ 67)), (1, .ref (sA Δ o1)), (2, .int (sJ p2)), (3, .int (sJ p3))]) hG dX0_countTogether_1 (by decide) rfl ?_
  refine V.iconst (pc := 3) hG dX0_countTogether_3 ?_
  refine V.istore (pc := 4) (lv' := [(5, .int (sJ 0)), (4, .int (sJ 0)), (0, .ref (sA Δ 67)), (1, .ref (sA Δ o1)), (2, .int (sJ p2)), (3, .int (sJ p3))]) hG dX0_countTogether_4 (by decide) rfl ?_
  obtain ⟨n23, h⟩ := h
  have lp6 : ∀ (m6 : Nat) (x4_6 : Int) (x5_6 : Int), sR x4_6 → sR x5_6 → LoopP (b6_X0_countTogether o1 p2 p3 i r Q) m6 (x4_6, x5_6) → V Γ Δ 504 false i r 0 0 Q0 6 [(0, .ref (sA Δ 67)), (1, .ref (sA Δ o1)), (2, .int (sJ p2)), (3, .int (sJ p3)), (4, .int (sJ x4_6)), (5, .int (sJ x5_6))] [] := by
    intro m6
    induction m6 with
    | zero => intro x4_6 x5_6 hx4_6 hx5_6 h; exact h.elim
    | succ m6 ih6 =>
      intro x4_6 x5_6 hx4_6 hx5_6 h
      have h := LoopP_succ h
      have jn55 : ∀ (x4j55 : Int) (x5j55 : Int), sR x4j55 → sR x5j55 → s55_X0_countTogether o1 p2 p3 x4j55 x5j55 i r Q (LoopP (b6_X0_countTogether o1 p2 p3 i r Q) m6) → V Γ Δ 504 false i r 0 0 Q0 55 [(0, .ref (sA Δ 67)), (1, .ref (sA Δ o1)), (2, .int (sJ p2)), (3, .int (sJ p3)), (4, .int (sJ x4j55)), (5, .int (sJ x5j55))] [] := by
        intro x4j55 x5j55 hx4j55 hx5j55 h
        refine V.iinc (pc := 55) (lv' := [(5, .int (sJ (wr (x5j55 + 1)))), (0, .ref (sA Δ 67)), (1, .ref (sA Δ o1)), (2, .int (sJ p2)), (3, .int (sJ p3)), (4, .int (sJ x4j55))]) hG dX0_countTogether_55 5 rfl (by decide) rfl ?_
        refine V.goto (pc := 58) (tgt := 6) hG dX0_countTogether_58 (by decide) ?_
        refine V.pick [1, 2, 3, 4, 5, 0] rfl ?_
        exact ih6 x4j55 (wr (x5j55 + 1)) hx4j55 ((sR_wr _)) h
      refine V.iload (pc := 6) hG dX0_countTogether_6 5 rfl ?_
      refine V.aload_n (pc := 8) hG dX0_countTogether_8 rfl 0 rfl ?_
      refine V.getI (pc := 9) (ci := 2) (k := 4) (M := 5) (T := TX0) (o := 67) (kz := 4) hG a_67 a_67.n (by decide) hin_X0 rfl (by decide) (by decide) rfl kw_363 rfl dX0_countTogether_9 ?_
      obtain ⟨t25, f26⟩ := h
      refine V.icmp_ge (pc := 12) (tgt := 61) hG hx5_6 ((hi _ _)) dX0_countTogether_12 (by decide) (fun c24 => ?_) (fun c24 => ?_)
      · have h := t25 c24
        clear t25 f26
        refine V.iload (pc := 61) hG dX0_countTogether_61 4 rfl ?_
        exact fin dX0_countTogether_63 hx4_6 rfl hi hw ⟨rfl, rfl, h⟩
      · have h := f26 c24
        clear t25 f26
        refine V.aload_n (pc := 15) hG dX0_countTogether_15 rfl 0 rfl ?_
        refine V.getR (x := 68) (pc := 16) (ci := 2) (k := 0) (M := 5) (T := TX0) (o := 67) (kz := 0) hG a_67 a_67.n (by decide) hin_X0 rfl (by decide) (by decide) rfl kw_349 rfl ((hw).1 (67, 0, 68) (by decide)) (by decide) dX0_countTogether_16 ?_
        refine V.iload (pc := 19) hG dX0_countTogether_19 5 rfl ?_
        obtain ⟨g27, h⟩ := h
        refine V.aald (pc := 21) 6 (z := 96) (o := 68) (x := x5_6) (y := 72 + x5_6) hG a_68 a_68.n (by decide) hx5_6 g27 (hw.2.1 (68, 96, 72) (by decide) _ g27.1 g27.2) (by omega) dX0_countTogether_21 ?_
        refine V.getIN (pc := 22) (ci := 5) (k := 3) (M := 13) (T := TX3) (o := 72 + x5_6) (kz := 3) hG (node_o g27.1 g27.2) ((node_o g27.1 g27.2)).n (by decide) hin_X3 rfl (by decide) (by decide) rfl kw_289 rfl dX0_countTogether_22 ?_
        refine V.aload_n (pc := 25) hG dX0_countTogether_25 rfl 0 rfl ?_
        refine V.getR (x := 68) (pc := 26) (ci := 2) (k := 0) (M := 5) (T := TX0) (o := 67) (kz := 0) hG a_67 a_67.n (by decide) hin_X0 rfl (by decide) (by decide) rfl kw_349 rfl ((hw).1 (67, 0, 68) (by decide)) (by decide) dX0_countTogether_26 ?_
        refine V.iload_n (pc := 29) hG dX0_countTogether_29 rfl 3 rfl ?_
        obtain ⟨g28, h⟩ := h
        refine V.aald (pc := 30) 6 (z := 96) (o := 68) (x := p3) (y := 72 + p3) hG a_68 a_68.n (by decide) hp3 g28 (hw.2.1 (68, 96, 72) (by decide) _ g28.1 g28.2) (by omega) dX0_countTogether_30 ?_
        refine V.getIN (pc := 31) (ci := 5) (k := 3) (M := 13) (T := TX3) (o := 72 + p3) (kz := 3) hG (node_o g28.1 g28.2) ((node_o g28.1 g28.2)).n (by decide) hin_X3 rfl (by decide) (by decide) rfl kw_289 rfl dX0_countTogether_31 ?_
        obtain ⟨f31, t30⟩ := h
        refine V.icmp_ne (pc := 34) (tgt := 55) hG ((hi _ _)) ((hi _ _)) dX0_countTogether_34 (by decide) (fun c29 => ?_) (fun c29 => ?_)
        · have h := t30 c29
          clear t30 f31
          exact jn55 x4_6 x5_6 hx4_6 hx5_6 h
        · have h := f31 c29
          clear t30 f31
          refine V.aload_n (pc := 37) hG dX0_countTogether_37 rfl 1 rfl ?_
          refine V.iload (pc := 38) hG dX0_countTogether_38 5 rfl ?_
          obtain ⟨g32, h⟩ := h
          refine V.iald (pc := 40) (z := 96) (o := o1) hG ho1 ho1.n hx5_6 g32 dX0_countTogether_40 ?_
          refine V.aload_n (pc := 41) hG dX0_countTogether_41 rfl 1 rfl ?_
          refine V.iload_n (pc := 42) hG dX0_countTogether_42 rfl 3 rfl ?_
          obtain ⟨g33, h⟩ := h
          refine V.iald (pc := 43) (z := 96) (o := o1) hG ho1 ho1.n hp3 g33 dX0_countTogether_43 ?_
          refine V.isub (pc := 44) hG dX0_countTogether_44 ?_
          refine V.iload_n (pc := 45) hG dX0_countTogether_45 rfl 2 rfl ?_
          refine V.callSNi (pc := 46) (As := [.int (sJ (wr (i o1 x5_6 - i o1 p3))), .int (sJ p2)]) (stk := []) hG (sm_X11_isDivided l Δ ((sR_wr _)) hp2 hi hw h) mY_X11_isDivided kw_883 kw_737 ⟨Nat.le_of_ble_eq_true rfl, Nat.le_of_ble_eq_true rfl, Nat.le_of_ble_eq_true rfl, Nat.le_of_ble_eq_true rfl⟩ rfl (Nat.le_of_ble_eq_true rfl) dX0_countTogether_46 rfl (fun v34 i35 r36 hv37 hi38 hw39 hq40 => ?_)
          obtain ⟨e44, e45, h⟩ := hq40
          subst e44
          subst e45
          obtain ⟨t42, f43⟩ := h
          refine V.if_eq (pc := 49) (tgt := 55) hG hv37 dX0_countTogether_49 (by decide) (fun c41 => ?_) (fun c41 => ?_)
          · have h := t42 c41
            clear t42 f43
            exact jn55 x4_6 x5_6 hx4_6 hx5_6 h
          · have h := f43 c41
            clear t42 f43
            refine V.iinc (pc := 52) (lv' := [(4, .int (sJ (wr (x4_6 + 1)))), (0, .ref (sA Δ 67)), (1, .ref (sA Δ o1)), (2, .int (sJ p2)), (3, .int (sJ p3)), (5, .int (sJ x5_6))]) hG dX0_countTogether_52 4 rfl (by decide) rfl ?_
            refine V.pick [1, 2, 3, 4, 0, 5] rfl ?_
            exact jn55 (wr (x4_6 + 1)) x5_6 ((sR_wr _)) hx5_6 h
  refine V.pick [2, 3, 4, 5, 1, 0] rfl ?_
  exact lp6 n23 0 0 ((sR_l rfl)) ((sR_l rfl)) h
set_option maxRecDepth 100000 in
set_option maxHeartbeats 4000000 in
theorem sm_X0_areUnitsKept (l : Launch) (Δ : Wd) {i r : MI} {o1 : Int} {p2 : Int} (ho1 : isA o1 (20, 96)) (hp2 : sR p2) {Q : Int → Prop} (hi : okI i) (hw : Wf r) (h : wp_X0_areUnitsKept o1 p2 i r Q) : Met l yX0_areUnitsKept (Cond.code yX0_areUnitsKept cX0_areUnitsKept 4 (some .boolean) :: gW) (sRm 2 46) (sPc Δ [.ref (sA Δ 67), .ref (sA Δ o1), .int (sJ p2)] i r) (sQi Δ (fun x i' r' => i = i' ∧ r = r' ∧ Q x)) 0 0 (sFr Δ) := by
  refine Ct.i (ty := .boolean) (by decide) rfl (Nat.le_of_ble_eq_true rfl) (fun Γ Q0 hG fin => ?_)
  have hG : okG Γ Δ l (sRm 2 46) cX0_areUnitsKept "Schedulary$Body" 4 := hG
  show V Γ Δ 504 false i r 0 0 Q0 0 [(0, .ref (sA Δ 67)), (1, .ref (sA Δ o1)), (2, .int (sJ p2))] []
  refine V.iconst (pc := 0) hG dX0_areUnitsKept_0 ?_
  refine V.istore_n (pc := 1) (lv' := [(3, .int (sJ 0)), (0, .ref (sA Δ 67)), (1, .ref (sA Δ o1)), (2, .int (sJ p2))]) hG dX0_areUnitsKept_1 rfl (by decide) rfl ?_
  obtain ⟨n18, h⟩ := h
  have lp2 : ∀ (m2 : Nat) (x3_2 : Int), sR x3_2 → LoopP (b2_X0_areUnitsKept o1 p2 i r Q) m2 (x3_2) → V Γ Δ 504 false i r 0 0 Q0 2 [(0, .ref (sA Δ 67)), (1, .ref (sA Δ o1)), (2, .int (sJ p2)), (3, .int (sJ x3_2))] [] := by
    intro m2
    induction m2 with
    | zero => intro x3_2 hx3_2 h; exact h.elim
    | succ m2 ih2 =>
      intro x3_2 hx3_2 h
      have h := LoopP_succ h
      refine V.iload_n (pc := 2) hG dX0_areUnitsKept_2 rfl 3 rfl ?_
      refine V.aload_n (pc := 3) hG dX0_areUnitsKept_3 rfl 0 rfl ?_
      refine V.getI (pc := 4) (ci := 2) (k := 4) (M := 5) (T := TX0) (o := 67) (kz := 4) hG a_67 a_67.n (by decide) hin_X0 rfl (by decide) (by decide) rfl kw_363 rfl dX0_areUnitsKept_4 ?_
      obtain ⟨t20, f21⟩ := h
      refine V.icmp_ge (pc := 7) (tgt := 42) hG hx3_2 ((hi _ _)) dX0_areUnitsKept_7 (by decide) (fun c19 => ?_) (fun c19 => ?_)
      · have h := t20 c19
        clear t20 f21
        refine V.iconst (pc := 42) hG dX0_areUnitsKept_42 ?_
        exact fin dX0_areUnitsKept_43 ((sR_l rfl)) (nar_z (by decide)) hi hw ⟨rfl, rfl, h⟩
      · have h := f21 c19
        clear t20 f21
        refine V.aload_n (pc := 10) hG dX0_areUnitsKept_10 rfl 0 rfl ?_
        refine V.aload_n (pc := 11) hG dX0_areUnitsKept_11 rfl 1 rfl ?_
        refine V.iload_n (pc := 12) hG dX0_areUnitsKept_12 rfl 2 rfl ?_
        refine V.iload_n (pc := 13) hG dX0_areUnitsKept_13 rfl 3 rfl ?_
        refine V.callVi (pc := 14) (As := [.ref (sA Δ o1), .int (sJ p2), .int (sJ x3_2)]) (stk := []) hG (sm_X0_countTogether l Δ ho1 hp2 hx3_2 hi hw h) mY_X0_countTogether kw_879 kw_881 kw_69 a_67 (by decide) (q := (RX0, TX0, 5)) rfl rfl ⟨Nat.le_of_ble_eq_true rfl, Nat.le_of_ble_eq_true rfl, Nat.le_of_ble_eq_true rfl, Nat.le_of_ble_eq_true rfl⟩ rfl (Nat.le_of_ble_eq_true rfl) dX0_areUnitsKept_14 rfl (fun v22 i23 r24 hv25 hi26 hw27 hq28 => ?_)
        obtain ⟨e34, e35, h⟩ := hq28
        subst e34
        subst e35
        refine V.aload_n (pc := 17) hG dX0_areUnitsKept_17 rfl 0 rfl ?_
        refine V.getR (x := 69) (pc := 18) (ci := 2) (k := 1) (M := 5) (T := TX0) (o := 67) (kz := 1) hG a_67 a_67.n (by decide) hin_X0 rfl (by decide) (by decide) rfl kw_355 rfl ((hw).1 (67, 1, 69) (by decide)) (by decide) dX0_areUnitsKept_18 ?_
        refine V.aload_n (pc := 21) hG dX0_areUnitsKept_21 rfl 0 rfl ?_
        refine V.getR (x := 68) (pc := 22) (ci := 2) (k := 0) (M := 5) (T := TX0) (o := 67) (kz := 0) hG a_67 a_67.n (by decide) hin_X0 rfl (by decide) (by decide) rfl kw_349 rfl ((hw).1 (67, 0, 68) (by decide)) (by decide) dX0_areUnitsKept_22 ?_
        refine V.iload_n (pc := 25) hG dX0_areUnitsKept_25 rfl 3 rfl ?_
        obtain ⟨g29, h⟩ := h
        refine V.aald (pc := 26) 6 (z := 96) (o := 68) (x := x3_2) (y := 72 + x3_2) hG a_68 a_68.n (by decide) hx3_2 g29 (hw.2.1 (68, 96, 72) (by decide) _ g29.1 g29.2) (by omega) dX0_areUnitsKept_26 ?_
        refine V.getIN (pc := 27) (ci := 5) (k := 3) (M := 13) (T := TX3) (o := 72 + x3_2) (kz := 3) hG (node_o g29.1 g29.2) ((node_o g29.1 g29.2)).n (by decide) hin_X3 rfl (by decide) (by decide) rfl kw_289 rfl dX0_areUnitsKept_27 ?_
        obtain ⟨g30, h⟩ := h
        refine V.iald (pc := 30) (z := 7) (o := 69) hG a_69 a_69.n ((hi _ _)) g30 dX0_areUnitsKept_30 ?_
        obtain ⟨t32, f33⟩ := h
        refine V.icmp_le (pc := 31) (tgt := 36) hG hv25 ((hi _ _)) dX0_areUnitsKept_31 (by decide) (fun c31 => ?_) (fun c31 => ?_)
        · have h := t32 c31
          clear t32 f33
          refine V.iinc (pc := 36) (lv' := [(3, .int (sJ (wr (x3_2 + 1)))), (0, .ref (sA Δ 67)), (1, .ref (sA Δ o1)), (2, .int (sJ p2))]) hG dX0_areUnitsKept_36 3 rfl (by decide) rfl ?_
          refine V.goto (pc := 39) (tgt := 2) hG dX0_areUnitsKept_39 (by decide) ?_
          refine V.pick [1, 2, 3, 0] rfl ?_
          exact ih2 (wr (x3_2 + 1)) ((sR_wr _)) h
        · have h := f33 c31
          clear t32 f33
          refine V.iconst (pc := 34) hG dX0_areUnitsKept_34 ?_
          exact fin dX0_areUnitsKept_35 ((sR_l rfl)) (nar_z (by decide)) hi hw ⟨rfl, rfl, h⟩
  refine V.pick [1, 2, 3, 0] rfl ?_
  exact lp2 n18 0 ((sR_l rfl)) h
