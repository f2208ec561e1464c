set_option maxRecDepth 100000 in
set_option maxHeartbeats 4000000 in
theorem sm_X11_taken (l : Launch) (Δ : Wd) {i r : MI}   {Q : Int → MI → Prop} (hi : okI i) (hw : Wf r) (h : wp_X11_taken  i r Q) : Met l yX11_taken (Cond.code yX11_taken cX11_taken 1 (some .int) :: gW) (sRm 6 136) (sPc Δ [.ref (sA Δ 0)] i r) (sQi Δ (fun x i' r' => r = r' ∧ Q x i')) 0 0 (sFr Δ) := by
  refine Ct.i (ty := .int) (by decide) rfl (Nat.le_of_ble_eq_true rfl) (fun Γ Q0 hG fin => ?_)
  have hG : okG Γ Δ l (sRm 6 136) cX11_taken "Schedulary" 1 := hG
  show V Γ Δ 542 false i r 0 0 Q0 0 [(0, .ref (sA Δ 0))] []
  refine V.aload_n (pc := 0) hG dX11_taken_0 rfl 0 rfl ?_
  refine V.callVv (pc := 1) (As := []) (stk := []) hG (sm_X11_carryOut l Δ  hi hw h) mY_X11_carryOut kw_762 kw_764 kw_12 a_0 (by decide) (q := (RX11, TX11, 11)) rfl rfl ⟨Nat.le_of_ble_eq_true rfl, Nat.le_of_ble_eq_true rfl, Nat.le_of_ble_eq_true rfl, Nat.le_of_ble_eq_true rfl⟩ rfl (Nat.le_of_ble_eq_true rfl) dX11_taken_1 rfl (fun i2 r3 hi5 hw6 hq7 => ?_)
  obtain ⟨e9, h⟩ := hq7
  subst e9
  refine V.aload_n (pc := 4) hG dX11_taken_4 rfl 0 rfl ?_
  refine V.getR (x := 61) (pc := 5) (ci := 13) (k := 2) (M := 11) (T := TX11) (o := 0) (kz := 2) hG a_0 a_0.n (by decide) hin_X11 rfl (by decide) (by decide) rfl kw_578 rfl ((hw).1 (0, 2, 61) (by decide)) (by decide) dX11_taken_5 ?_
  refine V.getIN (pc := 8) (ci := 9) (k := 4) (M := 5) (T := TX7) (o := 61) (kz := 4) hG a_61 a_61.n (by decide) hin_X7 rfl (by decide) (by decide) rfl kw_309 rfl dX11_taken_8 ?_
  exact fin dX11_taken_11 ((hi5 _ _)) rfl hi5 hw ⟨rfl, h⟩
set_option maxRecDepth 100000 in
set_option maxHeartbeats 4000000 in
theorem sm_X11_nodes (l : Launch) (Δ : Wd) {i r : MI}   {Q : Int → MI → MI → Prop} (hi : okI i) (hw : Wf r) (h : wp_X11_nodes  i r Q) : Met l yX11_nodes (Cond.code yX11_nodes cX11_nodes 1 (some .int) :: gW) (sRm 6 145) (sPc Δ [.ref (sA Δ 0)] i r) (sQi Δ (Q)) 0 0 (sFr Δ) := by
  refine Ct.i (ty := .int) (by decide) rfl (Nat.le_of_ble_eq_true rfl) (fun Γ Q0 hG fin => ?_)
  have hG : okG Γ Δ l (sRm 6 145) cX11_nodes "Schedulary" 1 := hG
  show V Γ Δ 542 false i r 0 0 Q0 0 [(0, .ref (sA Δ 0))] []
  refine V.aload_n (pc := 0) hG dX11_nodes_0 rfl 0 rfl ?_
  refine V.iconst (pc := 1) hG dX11_nodes_1 ?_
  refine V.callVv (pc := 2) (As := [.int (sJ 1)]) (stk := []) hG (sm_X11_prepare l Δ ((sR_l rfl)) hi hw h) mY_X11_prepare kw_830 kw_832 kw_26 a_0 (by decide) (q := (RX11, TX11, 11)) rfl rfl ⟨Nat.le_of_ble_eq_true rfl, Nat.le_of_ble_eq_true rfl, Nat.le_of_ble_eq_true rfl, Nat.le_of_ble_eq_true rfl⟩ rfl (Nat.le_of_ble_eq_true rfl) dX11_nodes_2 rfl (fun i2 r3 hi5 hw6 hq7 => ?_)
  have h := hq7
  refine V.aload_n (pc := 5) hG dX11_nodes_5 rfl 0 rfl ?_
  refine V.getR (x := 67) (pc := 6) (ci := 13) (k := 3) (M := 11) (T := TX11) (o := 0) (kz := 3) hG a_0 a_0.n (by decide) hin_X11 rfl (by decide) (by decide) rfl kw_579 rfl ((hw6).1 (0, 3, 67) (by decide)) (by decide) dX11_nodes_6 ?_
  refine V.getIN (pc := 9) (ci := 2) (k := 4) (M := 5) (T := TX0) (o := 67) (kz := 4) hG a_67 a_67.n (by decide) hin_X0 rfl (by decide) (by decide) rfl kw_421 rfl dX11_nodes_9 ?_
  exact fin dX11_nodes_12 ((hi5 _ _)) rfl hi5 hw6 h
set_option maxRecDepth 100000 in
set_option maxHeartbeats 4000000 in
theorem sm_X11_checkNode (l : Launch) (Δ : Wd) {i r : MI} {p1 : Int} (hp1 : sR p1) {Q : Prop} {X : String → Prop} (hst : l.stackTraces = false) (hi : okI i) (hw : Wf r) (h : wp_X11_checkNode p1 i r Q X) : vx_Met l yX11_checkNode (Cond.code yX11_checkNode cX11_checkNode 2 none :: gW) (sRx 6 82 1 6) (sPc Δ [.ref (sA Δ 0), .int (sJ p1)] i r) (sQv Δ (fun i' r' => i = i' ∧ r = r' ∧ Q)) (sX Δ (fun E i' r' => i = i' ∧ r = r' ∧ X E)) 1 6 (sFr Δ) := by
  refine Cx.v (by decide) rfl (Nat.le_of_ble_eq_true rfl) hst (by decide) (by decide) (fun Γ Q0 hG fin xout xthr => ?_)
  have hG : okG Γ Δ l (sRx 6 82 1 6) cX11_checkNode "Schedulary" 2 := hG
  show V Γ Δ 542 false i r 0 0 Q0 0 [(0, .ref (sA Δ 0)), (1, .int (sJ p1))] []
  have jn15 : s15_X11_checkNode i r Q X → V Γ Δ 542 false i r 0 0 Q0 15 [] [] := by
    intro h
    exact xthr ⟨134, 386, 138, "no such node", by decide, kw_1394, kw_182, by decide, .inl th_138, dX11_checkNode_15, dX11_checkNode_18, Or.inr ⟨dX11_checkNode_19, dX11_checkNode_22, dX11_checkNode_25⟩⟩ (by decide) (by decide) hi hw ⟨rfl, rfl, h⟩
  refine V.iload_n (pc := 0) hG dX11_checkNode_0 rfl 1 rfl ?_
  obtain ⟨t2, f3⟩ := h
  refine V.if_lt (pc := 1) (tgt := 15) hG hp1 dX11_checkNode_1 (by decide) (fun c1 => ?_) (fun c1 => ?_)
  · have h := t2 c1
    clear t2 f3
    refine V.pick [] rfl ?_
    exact jn15 h
  · have h := f3 c1
    clear t2 f3
    refine V.iload_n (pc := 4) hG dX11_checkNode_4 rfl 1 rfl ?_
    refine V.aload_n (pc := 5) hG dX11_checkNode_5 rfl 0 rfl ?_
    refine V.getR (x := 67) (pc := 6) (ci := 13) (k := 3) (M := 11) (T := TX11) (o := 0) (kz := 3) hG a_0 a_0.n (by decide) hin_X11 rfl (by decide) (by decide) rfl kw_579 rfl ((hw).1 (0, 3, 67) (by decide)) (by decide) dX11_checkNode_6 ?_
    refine V.getIN (pc := 9) (ci := 2) (k := 4) (M := 5) (T := TX0) (o := 67) (kz := 4) hG a_67 a_67.n (by decide) hin_X0 rfl (by decide) (by decide) rfl kw_421 rfl dX11_checkNode_9 ?_
    obtain ⟨t5, f6⟩ := h
    refine V.icmp_lt (pc := 12) (tgt := 26) hG hp1 ((hi _ _)) dX11_checkNode_12 (by decide) (fun c4 => ?_) (fun c4 => ?_)
    · have h := t5 c4
      clear t5 f6
      exact fin dX11_checkNode_26 (by decide) (by decide) hi hw ⟨rfl, rfl, h⟩
    · have h := f6 c4
      clear t5 f6
      refine V.pick [] rfl ?_
      exact jn15 h
set_option maxRecDepth 100000 in
set_option maxHeartbeats 4000000 in
theorem sm_J3_checkIndex_8e157 (l : Launch) (Δ : Wd) {i r : MI} {p0 : Int} {p1 : Int} {w2 : Value} (hp0 : sR p0) (hp1 : sR p1) (hw2 : w2.category = 1) {Q : Int → Prop} (hi : okI i) (hw : Wf r) (h : wp_J3_checkIndex_8e157 p0 p1 i r Q) : Met l yJ3_checkIndex_8e157 (Cond.code yJ3_checkIndex_8e157 cJ3_checkIndex_8e157 3 (some .int) :: gW) (sRm 0 0) (sPc Δ [.int (sJ p0), .int (sJ p1), w2] i r) (sQi Δ (fun x i' r' => i = i' ∧ r = r' ∧ Q x)) 0 0 (sFr Δ) := by
  refine Ct.i (ty := .int) (by decide) rfl (by simp only [lg_sl, List.flatMap_cons, List.flatMap_nil, hw2]; exact Nat.le_of_ble_eq_true rfl) (fun Γ Q0 hG fin => ?_)
  have hG : okG Γ Δ l (sRm 0 0) cJ3_checkIndex_8e157 "jdk/internal/util/Preconditions" 3 := hG
  show V Γ Δ 542 false i r 0 0 Q0 0 [(0, .int (sJ p0)), (1, .int (sJ p1)), (2, w2)] []
  have jn9 : s9_J3_checkIndex_8e157 p0 p1 i r Q → V Γ Δ 542 false i r 0 0 Q0 9 [(0, .int (sJ p0)), (1, .int (sJ p1)), (2, w2)] [] := by
    intro h
    exact h.elim
  refine V.iload_n (pc := 0) hG dJ3_checkIndex_8e157_0 rfl 0 rfl ?_
  obtain ⟨t2, f3⟩ := h
  refine V.if_lt (pc := 1) (tgt := 9) hG hp0 dJ3_checkIndex_8e157_1 (by decide) (fun c1 => ?_) (fun c1 => ?_)
  · have h := t2 c1
    clear t2 f3
    exact jn9 h
  · have h := f3 c1
    clear t2 f3
    refine V.iload_n (pc := 4) hG dJ3_checkIndex_8e157_4 rfl 0 rfl ?_
    refine V.iload_n (pc := 5) hG dJ3_checkIndex_8e157_5 rfl 1 rfl ?_
    obtain ⟨t5, f6⟩ := h
    refine V.icmp_lt (pc := 6) (tgt := 16) hG hp0 hp1 dJ3_checkIndex_8e157_6 (by decide) (fun c4 => ?_) (fun c4 => ?_)
    · have h := t5 c4
      clear t5 f6
      refine V.iload_n (pc := 16) hG dJ3_checkIndex_8e157_16 rfl 0 rfl ?_
      exact fin dJ3_checkIndex_8e157_17 hp0 rfl hi hw ⟨rfl, rfl, h⟩
    · have h := f6 c4
      clear t5 f6
      exact jn9 h
set_option maxRecDepth 100000 in
set_option maxHeartbeats 4000000 in
theorem sm_J0_checkIndex_df160 (l : Launch) (Δ : Wd) {i r : MI} {p0 : Int} {p1 : Int} (hp0 : sR p0) (hp1 : sR p1) {Q : Prop} (hi : okI i) (hw : Wf r) (h : wp_J0_checkIndex_df160 p0 p1 i r Q) : Met l yJ0_checkIndex_df160 (Cond.code yJ0_checkIndex_df160 cJ0_checkIndex_df160 2 none :: gW) (sRm 1 22) (sPc Δ [.int (sJ p0), .int (sJ p1)] i r) (sQv Δ (fun i' r' => i = i' ∧ r = r' ∧ Q)) 0 0 (sFr Δ) := by
  refine Ct.v (by decide) rfl (Nat.le_of_ble_eq_true rfl) (fun Γ Q0 hG fin => ?_)
  have hG : okG Γ Δ l (sRm 1 22) cJ0_checkIndex_df160 "java/lang/String" 2 := hG
  show V Γ Δ 542 false i r 0 0 Q0 0 [(0, .int (sJ p0)), (1, .int (sJ p1))] []
  refine V.iload_n (pc := 0) hG dJ0_checkIndex_df160_0 rfl 0 rfl ?_
  refine V.iload_n (pc := 1) hG dJ0_checkIndex_df160_1 rfl 1 rfl ?_
  refine V.sfmt (pc := 2) hG kw_706 dJ0_checkIndex_df160_2 (fun w1 hw1 => ?_)
  refine V.callSi (pc := 5) (As := [.int (sJ p0), .int (sJ p1), w1]) (stk := []) hG (sm_J3_checkIndex_8e157 l Δ hp0 hp1 hw1 hi hw h) mY_J3_checkIndex_8e157 kw_1138 kw_1139 ⟨Nat.le_of_ble_eq_true rfl, Nat.le_of_ble_eq_true rfl, Nat.le_of_ble_eq_true rfl, Nat.le_of_ble_eq_true rfl⟩ rfl (Nat.le_of_ble_eq_true rfl) dJ0_checkIndex_df160_5 rfl (fun v2 i3 r4 hv5 hi6 hw7 hq8 => ?_)
  obtain ⟨e9, e10, h⟩ := hq8
  subst e9
  subst e10
  refine V.pop (pc := 8) hG dJ0_checkIndex_df160_8 rfl ?_
  exact fin dJ0_checkIndex_df160_9 hi hw ⟨rfl, rfl, h⟩
set_option maxRecDepth 100000 in
set_option maxHeartbeats 4000000 in
theorem sm_J1_charAt_3b067 (l : Launch) (Δ : Wd) {i r : MI} {k0 : Nat} {p1 : Int} (hk0 : k0 < 5) (hp1 : sR p1) {Q : Int → Prop} (hi : okI i) (hw : Wf r) (h : wp_J1_charAt_3b067 k0 p1 i r Q) : Met l yJ1_charAt_3b067 (Cond.code yJ1_charAt_3b067 cJ1_charAt_3b067 2 (some .char) :: gW) (sRm 2 43) (sPc Δ [.ref (aV Δ k0), .int (sJ p1)] i r) (sQi Δ (fun x i' r' => i = i' ∧ r = r' ∧ Q x)) 0 0 (sFr Δ) := by
  refine Ct.i (ty := .char) (by decide) rfl (Nat.le_of_ble_eq_true rfl) (fun Γ Q0 hG fin => ?_)
  have hG : okG Γ Δ l (sRm 2 43) cJ1_charAt_3b067 "java/lang/StringLatin1" 2 := hG
  show V Γ Δ 542 false i r 0 0 Q0 0 [(0, .ref (aV Δ k0)), (1, .int (sJ p1))] []
  refine V.iload_n (pc := 0) hG dJ1_charAt_3b067_0 rfl 1 rfl ?_
  refine V.aload_n (pc := 1) hG dJ1_charAt_3b067_1 rfl 0 rfl ?_
  refine V.slen (pc := 2) (k := k0) hG hk0 dJ1_charAt_3b067_2 ?_
  refine V.callSv (pc := 3) (As := [.int (sJ p1), .int (sJ (lenS k0 : Int))]) (stk := []) hG (sm_J0_checkIndex_df160 l Δ hp1 ((sR_len hk0)) hi hw h) mY_J0_checkIndex_df160 kw_1135 kw_1136 ⟨Nat.le_of_ble_eq_true rfl, Nat.le_of_ble_eq_true rfl, Nat.le_of_ble_eq_true rfl, Nat.le_of_ble_eq_true rfl⟩ rfl (Nat.le_of_ble_eq_true rfl) dJ1_charAt_3b067_3 rfl (fun i2 r3 hi5 hw6 hq7 => ?_)
  obtain ⟨e10, e11, h⟩ := hq7
  subst e10
  subst e11
  refine V.aload_n (pc := 6) hG dJ1_charAt_3b067_6 rfl 0 rfl ?_
  refine V.iload_n (pc := 7) hG dJ1_charAt_3b067_7 rfl 1 rfl ?_
  obtain ⟨g8, h⟩ := h
  refine V.sbald (pc := 8) (k := k0) hG hk0 hp1 g8 dJ1_charAt_3b067_8 ?_
  refine V.sipush (pc := 9) hG dJ1_charAt_3b067_9 (by decide) ?_
  refine V.iand (pc := 12) hG dJ1_charAt_3b067_12 ?_
  refine V.i2c (pc := 13) hG ((sR_and _ _)) dJ1_charAt_3b067_13 ?_
  obtain ⟨g9, h⟩ := h
  exact fin dJ1_charAt_3b067_14 sR_c (nar_c g9) hi hw ⟨rfl, rfl, h⟩
set_option maxRecDepth 100000 in
set_option maxHeartbeats 4000000 in
theorem sm_J0_charAt_5068e (l : Launch) (Δ : Wd) {i r : MI} {k0 : Nat} {p1 : Int} (hk0 : k0 < 5) (hp1 : sR p1) {Q : Int → Prop} (hi : okI i) (hw : Wf r) (h : wp_J0_charAt_5068e k0 p1 i r Q) : Met l yJ0_charAt_5068e (Cond.code yJ0_charAt_5068e cJ0_charAt_5068e 2 (some .char) :: gW) (sRm 3 64) (sPc Δ [.ref (aK Δ k0), .int (sJ p1)] i r) (sQi Δ (fun x i' r' => i = i' ∧ r = r' ∧ Q x)) 0 0 (sFr Δ) := by
  refine Ct.i (ty := .char) (by decide) rfl (Nat.le_of_ble_eq_true rfl) (fun Γ Q0 hG fin => ?_)
  have hG : okG Γ Δ l (sRm 3 64) cJ0_charAt_5068e "java/lang/String" 2 := hG
  show V Γ Δ 542 false i r 0 0 Q0 0 [(0, .ref (aK Δ k0)), (1, .int (sJ p1))] []
  refine V.aload_n (pc := 0) hG dJ0_charAt_5068e_0 rfl 0 rfl ?_
  refine V.callVSi (pc := 1) (As := []) (stk := []) hG (sm_J0_isLatin1_aae02 l Δ hk0 hi hw h) mY_J0_isLatin1_aae02 kw_659 kw_660 kw_661 hk0 rfl ⟨Nat.le_of_ble_eq_true rfl, Nat.le_of_ble_eq_true rfl, Nat.le_of_ble_eq_true rfl, Nat.le_of_ble_eq_true rfl⟩ rfl (Nat.le_of_ble_eq_true rfl) dJ0_charAt_5068e_1 rfl (fun v1 i2 r3 hv4 hi5 hw6 hq7 => ?_)
  obtain ⟨e21, e22, h⟩ := hq7
  subst e21
  subst e22
  obtain ⟨t9, f10⟩ := h
  refine V.if_eq (pc := 4) (tgt := 16) hG hv4 dJ0_charAt_5068e_4 (by decide) (fun c8 => ?_) (fun c8 => ?_)
  · have h := t9 c8
    clear t9 f10
    refine V.aload_n (pc := 16) hG dJ0_charAt_5068e_16 rfl 0 rfl ?_
    refine V.sval (pc := 17) (k := k0) hG hk0 kw_2301 dJ0_charAt_5068e_17 ?_
    refine V.iload_n (pc := 20) hG dJ0_charAt_5068e_20 rfl 1 rfl ?_
    exact h.elim
  · have h := f10 c8
    clear t9 f10
    refine V.aload_n (pc := 7) hG dJ0_charAt_5068e_7 rfl 0 rfl ?_
    refine V.sval (pc := 8) (k := k0) hG hk0 kw_2301 dJ0_charAt_5068e_8 ?_
    refine V.iload_n (pc := 11) hG dJ0_charAt_5068e_11 rfl 1 rfl ?_
    refine V.callSi (pc := 12) (As := [.ref (aV Δ k0), .int (sJ p1)]) (stk := []) hG (sm_J1_charAt_3b067 l Δ hk0 hp1 hi hw h) mY_J1_charAt_3b067 kw_1132 kw_1133 ⟨Nat.le_of_ble_eq_true rfl, Nat.le_of_ble_eq_true rfl, Nat.le_of_ble_eq_true rfl, Nat.le_of_ble_eq_true rfl⟩ rfl (Nat.le_of_ble_eq_true rfl) dJ0_charAt_5068e_12 rfl (fun v11 i12 r13 hv14 hi15 hw16 hq17 => ?_)
    obtain ⟨e19, e20, h⟩ := hq17
    subst e19
    subst e20
    obtain ⟨g18, h⟩ := h
    exact fin dJ0_charAt_5068e_15 hv14 (nar_c g18) hi hw ⟨rfl, rfl, h⟩
set_option maxRecDepth 100000 in
set_option maxHeartbeats 4000000 in
theorem sm_X11_kindOf (l : Launch) (Δ : Wd) {i r : MI} {p1 : Int} (hp1 : sR p1) {Q : Int → MI → MI → Prop} {X : String → MI → MI → Prop} (hst : l.stackTraces = false) (hi : okI i) (hw : Wf r) (h : wp_X11_kindOf p1 i r Q X) : vx_Met l yX11_kindOf (Cond.code yX11_kindOf cX11_kindOf 2 (some .char) :: gW) (sRx 7 145 1 6) (sPc Δ [.ref (sA Δ 0), .int (sJ p1)] i r) (sQi Δ (Q)) (sX Δ (X)) 1 6 (sFr Δ) := by
  refine Cx.i (ty := .char) (by decide) rfl (Nat.le_of_ble_eq_true rfl) hst (by decide) (by decide) (fun Γ Q0 hG fin xout xthr => ?_)
  have hG : okG Γ Δ l (sRx 7 145 1 6) cX11_kindOf "Schedulary" 2 := hG
  show V Γ Δ 542 false i r 0 0 Q0 0 [(0, .ref (sA Δ 0)), (1, .int (sJ p1))] []
  refine V.aload_n (pc := 0) hG dX11_kindOf_0 rfl 0 rfl ?_
  refine V.iconst (pc := 1) hG dX11_kindOf_1 ?_
  refine V.callVv (pc := 2) (As := [.int (sJ 1)]) (stk := []) hG (sm_X11_prepare l Δ ((sR_l rfl)) hi hw h) mY_X11_prepare kw_830 kw_832 kw_26 a_0 (by decide) (q := (RX11, TX11, 11)) rfl rfl ⟨Nat.le_of_ble_eq_true rfl, Nat.le_of_ble_eq_true rfl, Nat.le_of_ble_eq_true rfl, Nat.le_of_ble_eq_true rfl⟩ rfl (Nat.le_of_ble_eq_true rfl) dX11_kindOf_2 rfl (fun i2 r3 hi5 hw6 hq7 => ?_)
  have h := hq7
  refine V.aload_n (pc := 5) hG dX11_kindOf_5 rfl 0 rfl ?_
  refine V.iload_n (pc := 6) hG dX11_kindOf_6 rfl 1 rfl ?_
  refine V.xcallVv (pc := 7) (As := [.int (sJ p1)]) (stk := []) hG (sm_X11_checkNode l Δ hp1 hst hi5 hw6 h) mY_X11_checkNode kw_1528 kw_1530 kw_102 a_0 (by decide) (q := (RX11, TX11, 11)) rfl rfl ⟨Nat.le_of_ble_eq_true rfl, Nat.le_of_ble_eq_true rfl, Nat.le_of_ble_eq_true rfl, Nat.le_of_ble_eq_true rfl⟩ rfl (Nat.le_of_ble_eq_true rfl) dX11_kindOf_7 rfl (fun z37 z38 z39 z40 z41 z42 => ?_) (fun i9 r10 hi12 hw13 hq14 => ?_)
  · obtain ⟨e43, e44, h⟩ := z42
    subst e43
    subst e44
    exact xout (by decide) (by decide) hi5 hw6 h
  · obtain ⟨e45, e46, h⟩ := hq14
    subst e45
    subst e46
    refine V.ldcS (pc := 10) (k := 3) (tx := "amgMN<>") hG (by decide) dX11_kindOf_10 ?_
    refine V.aload_n (pc := 12) hG dX11_kindOf_12 rfl 0 rfl ?_
    refine V.getR (x := 67) (pc := 13) (ci := 13) (k := 3) (M := 11) (T := TX11) (o := 0) (kz := 3) hG a_0 a_0.n (by decide) hin_X11 rfl (by decide) (by decide) rfl kw_579 rfl ((hw6).1 (0, 3, 67) (by decide)) (by decide) dX11_kindOf_13 ?_
    refine V.getRN (x := 68) (pc := 16) (ci := 2) (k := 0) (M := 5) (T := TX0) (o := 67) (kz := 0) hG a_67 a_67.n (by decide) hin_X0 rfl (by decide) (by decide) rfl kw_407 rfl ((hw6).1 (67, 0, 68) (by decide)) (by decide) dX11_kindOf_16 ?_
    refine V.iload_n (pc := 19) hG dX11_kindOf_19 rfl 1 rfl ?_
    obtain ⟨g26, h⟩ := h
    refine V.aald (pc := 20) 6 (z := 96) (o := 68) (x := p1) (y := 72 + p1) hG a_68 a_68.n (by decide) hp1 g26 (hw6.2.1 (68, 96, 72) (by decide) _ g26.1 g26.2) (by omega) dX11_kindOf_20 ?_
    refine V.getIN (pc := 21) (ci := 5) (k := 3) (M := 13) (T := TX3) (o := 72 + p1) (kz := 3) hG (node_o g26.1 g26.2) ((node_o g26.1 g26.2)).n (by decide) hin_X3 rfl (by decide) (by decide) rfl kw_345 rfl dX11_kindOf_21 ?_
    refine V.callVSi (pc := 24) (As := [.int (sJ (i2 (72 + p1) 3))]) (stk := []) hG (sm_J0_charAt_5068e l Δ (by decide) ((hi5 _ _)) hi5 hw6 h) mY_J0_charAt_5068e kw_1533 kw_1129 kw_1130 (by decide) rfl ⟨Nat.le_of_ble_eq_true rfl, Nat.le_of_ble_eq_true rfl, Nat.le_of_ble_eq_true rfl, Nat.le_of_ble_eq_true rfl⟩ rfl (Nat.le_of_ble_eq_true rfl) dX11_kindOf_24 rfl (fun v27 i28 r29 hv30 hi31 hw32 hq33 => ?_)
    obtain ⟨e35, e36, h⟩ := hq33
    subst e35
    subst e36
    obtain ⟨g34, h⟩ := h
    exact fin dX11_kindOf_27 hv30 (nar_c g34) (by decide) (by decide) hi5 hw6 h
set_option maxRecDepth 100000 in
set_option maxHeartbeats 4000000 in
theorem sm_X11_statementOf (l : Launch) (Δ : Wd) {i r : MI} {p1 : Int} (hp1 : sR p1) {Q : Int → MI → MI → Prop} {X : String → MI → MI → Prop} (hst : l.stackTraces = false) (hi : okI i) (hw : Wf r) (h : wp_X11_statementOf p1 i r Q X) : vx_Met l yX11_statementOf (Cond.code yX11_statementOf cX11_statementOf 2 (some .int) :: gW) (sRx 7 145 1 6) (sPc Δ [.ref (sA Δ 0), .int (sJ p1)] i r) (sQi Δ (Q)) (sX Δ (X)) 1 6 (sFr Δ) := by
  refine Cx.i (ty := .int) (by decide) rfl (Nat.le_of_ble_eq_true rfl) hst (by decide) (by decide) (fun Γ Q0 hG fin xout xthr => ?_)
  have hG : okG Γ Δ l (sRx 7 145 1 6) cX11_statementOf "Schedulary" 2 := hG
  show V Γ Δ 542 false i r 0 0 Q0 0 [(0, .ref (sA Δ 0)), (1, .int (sJ p1))] []
  refine V.aload_n (pc := 0) hG dX11_statementOf_0 rfl 0 rfl ?_
  refine V.iconst (pc := 1) hG dX11_statementOf_1 ?_
  refine V.callVv (pc := 2) (As := [.int (sJ 1)]) (stk := []) hG (sm_X11_prepare l Δ ((sR_l rfl)) hi hw h) mY_X11_prepare kw_830 kw_832 kw_26 a_0 (by decide) (q := (RX11, TX11, 11)) rfl rfl ⟨Nat.le_of_ble_eq_true rfl, Nat.le_of_ble_eq_true rfl, Nat.le_of_ble_eq_true rfl, Nat.le_of_ble_eq_true rfl⟩ rfl (Nat.le_of_ble_eq_true rfl) dX11_statementOf_2 rfl (fun i2 r3 hi5 hw6 hq7 => ?_)
  have h := hq7
  refine V.aload_n (pc := 5) hG dX11_statementOf_5 rfl 0 rfl ?_
  refine V.iload_n (pc := 6) hG dX11_statementOf_6 rfl 1 rfl ?_
  refine V.xcallVv (pc := 7) (As := [.int (sJ p1)]) (stk := []) hG (sm_X11_checkNode l Δ hp1 hst hi5 hw6 h) mY_X11_checkNode kw_1528 kw_1530 kw_102 a_0 (by decide) (q := (RX11, TX11, 11)) rfl rfl ⟨Nat.le_of_ble_eq_true rfl, Nat.le_of_ble_eq_true rfl, Nat.le_of_ble_eq_true rfl, Nat.le_of_ble_eq_true rfl⟩ rfl (Nat.le_of_ble_eq_true rfl) dX11_statementOf_7 rfl (fun z17 z18 z19 z20 z21 z22 => ?_) (fun i9 r10 hi12 hw13 hq14 => ?_)
  · obtain ⟨e23, e24, h⟩ := z22
    subst e23
    subst e24
    exact xout (by decide) (by decide) hi5 hw6 h
  · obtain ⟨e25, e26, h⟩ := hq14
    subst e25
    subst e26
    refine V.aload_n (pc := 10) hG dX11_statementOf_10 rfl 0 rfl ?_
    refine V.getR (x := 67) (pc := 11) (ci := 13) (k := 3) (M := 11) (T := TX11) (o := 0) (kz := 3) hG a_0 a_0.n (by decide) hin_X11 rfl (by decide) (by decide) rfl kw_579 rfl ((hw6).1 (0, 3, 67) (by decide)) (by decide) dX11_statementOf_11 ?_
    refine V.getRN (x := 68) (pc := 14) (ci := 2) (k := 0) (M := 5) (T := TX0) (o := 67) (kz := 0) hG a_67 a_67.n (by decide) hin_X0 rfl (by decide) (by decide) rfl kw_407 rfl ((hw6).1 (67, 0, 68) (by decide)) (by decide) dX11_statementOf_14 ?_
    refine V.iload_n (pc := 17) hG dX11_statementOf_17 rfl 1 rfl ?_
    obtain ⟨g16, h⟩ := h
    refine V.aald (pc := 18) 6 (z := 96) (o := 68) (x := p1) (y := 72 + p1) hG a_68 a_68.n (by decide) hp1 g16 (hw6.2.1 (68, 96, 72) (by decide) _ g16.1 g16.2) (by omega) dX11_statementOf_18 ?_
    refine V.getIN (pc := 19) (ci := 5) (k := 1) (M := 13) (T := TX3) (o := 72 + p1) (kz := 1) hG (node_o g16.1 g16.2) ((node_o g16.1 g16.2)).n (by decide) hin_X3 rfl (by decide) (by decide) rfl kw_337 rfl dX11_statementOf_19 ?_
    exact fin dX11_statementOf_22 ((hi5 _ _)) rfl (by decide) (by decide) hi5 hw6 h
set_option maxRecDepth 100000 in
set_option maxHeartbeats 4000000 in
theorem sm_X11_edges (l : Launch) (Δ : Wd) {i r : MI}   {Q : Int → MI → MI → Prop} (hi : okI i) (hw : Wf r) (h : wp_X11_edges  i r Q) : Met l yX11_edges (Cond.code yX11_edges cX11_edges 1 (some .int) :: gW) (sRm 6 145) (sPc Δ [.ref (sA Δ 0)] i r) (sQi Δ (Q)) 0 0 (sFr Δ) := by
  refine Ct.i (ty := .int) (by decide) rfl (Nat.le_of_ble_eq_true rfl) (fun Γ Q0 hG fin => ?_)
  have hG : okG Γ Δ l (sRm 6 145) cX11_edges "Schedulary" 1 := hG
  show V Γ Δ 542 false i r 0 0 Q0 0 [(0, .ref (sA Δ 0))] []
  refine V.aload_n (pc := 0) hG dX11_edges_0 rfl 0 rfl ?_
  refine V.iconst (pc := 1) hG dX11_edges_1 ?_
  refine V.callVv (pc := 2) (As := [.int (sJ 2)]) (stk := []) hG (sm_X11_prepare l Δ ((sR_l rfl)) hi hw h) mY_X11_prepare kw_830 kw_832 kw_26 a_0 (by decide) (q := (RX11, TX11, 11)) rfl rfl ⟨Nat.le_of_ble_eq_true rfl, Nat.le_of_ble_eq_true rfl, Nat.le_of_ble_eq_true rfl, Nat.le_of_ble_eq_true rfl⟩ rfl (Nat.le_of_ble_eq_true rfl) dX11_edges_2 rfl (fun i2 r3 hi5 hw6 hq7 => ?_)
  have h := hq7
  refine V.aload_n (pc := 5) hG dX11_edges_5 rfl 0 rfl ?_
  refine V.getR (x := 168) (pc := 6) (ci := 13) (k := 4) (M := 11) (T := TX11) (o := 0) (kz := 4) hG a_0 a_0.n (by decide) hin_X11 rfl (by decide) (by decide) rfl kw_580 rfl ((hw6).1 (0, 4, 168) (by decide)) (by decide) dX11_edges_6 ?_
  refine V.getIN (pc := 9) (ci := 4) (k := 4) (M := 5) (T := TX2) (o := 168) (kz := 4) hG a_168 a_168.n (by decide) hin_X2 rfl (by decide) (by decide) rfl kw_454 rfl dX11_edges_9 ?_
  exact fin dX11_edges_12 ((hi5 _ _)) rfl hi5 hw6 h
set_option maxRecDepth 100000 in
set_option maxHeartbeats 4000000 in
theorem sm_X11_weight (l : Launch) (Δ : Wd) {i r : MI} {p1 : Int} {p2 : Int} {p3 : Int} (hp1 : sR p1) (hp2 : sR p2) (hp3 : sR p3) {Q : Int → MI → MI → Prop} {X : String → MI → MI → Prop} (hst : l.stackTraces = false) (hi : okI i) (hw : Wf r) (h : wp_X11_weight p1 p2 p3 i r Q X) : vx_Met l yX11_weight (Cond.code yX11_weight cX11_weight 5 (some .int) :: gW) (sRx 7 145 3 18) (sPc Δ [.ref (sA Δ 0), .int (sJ p1), .int (sJ p2), .int (sJ p3)] i r) (sQi Δ (Q)) (sX Δ (X)) 3 18 (sFr Δ) := by
  refine Cx.i (ty := .int) (by decide) rfl (Nat.le_of_ble_eq_true rfl) hst (by decide) (by decide) (fun Γ Q0 hG fin xout xthr => ?_)
  have hG : okG Γ Δ l (sRx 7 145 3 18) cX11_weight "Schedulary" 5 := hG
  show V Γ Δ 542 false i r 0 0 Q0 0 [(0, .ref (sA Δ 0)), (1, .int (sJ p1)), (2, .int (sJ p2)), (3, .int (sJ p3))] []
  refine V.aload_n (pc := 0) hG dX11_weight_0 rfl 0 rfl ?_
  refine V.iconst (pc := 1) hG dX11_weight_1 ?_
  refine V.callVv (pc := 2) (As := [.int (sJ 2)]) (stk := []) hG (sm_X11_prepare l Δ ((sR_l rfl)) hi hw h) mY_X11_prepare kw_830 kw_832 kw_26 a_0 (by decide) (q := (RX11, TX11, 11)) rfl rfl ⟨Nat.le_of_ble_eq_true rfl, Nat.le_of_ble_eq_true rfl, Nat.le_of_ble_eq_true rfl, Nat.le_of_ble_eq_true rfl⟩ rfl (Nat.le_of_ble_eq_true rfl) dX11_weight_2 rfl (fun i2 r3 hi5 hw6 hq7 => ?_)
  have h := hq7
  refine V.aload_n (pc := 5) hG dX11_weight_5 rfl 0 rfl ?_
  refine V.iload_n (pc := 6) hG dX11_weight_6 rfl 1 rfl ?_
  refine V.xcallVv (pc := 7) (As := [.int (sJ p1)]) (stk := []) hG (sm_X11_checkNode l Δ hp1 hst hi5 hw6 h) mY_X11_checkNode kw_1528 kw_1530 kw_102 a_0 (by decide) (q := (RX11, TX11, 11)) rfl rfl ⟨Nat.le_of_ble_eq_true rfl, Nat.le_of_ble_eq_true rfl, Nat.le_of_ble_eq_true rfl, Nat.le_of_ble_eq_true rfl⟩ rfl (Nat.le_of_ble_eq_true rfl) dX11_weight_7 rfl (fun z105 z106 z107 z108 z109 z110 => ?_) (fun i9 r10 hi12 hw13 hq14 => ?_)
  · obtain ⟨e111, e112, h⟩ := z110
    subst e111
    subst e112
    exact xout (by decide) (by decide) hi5 hw6 h
  · obtain ⟨e113, e114, h⟩ := hq14
    subst e113
    subst e114
    refine V.aload_n (pc := 10) hG dX11_weight_10 rfl 0 rfl ?_
    refine V.iload_n (pc := 11) hG dX11_weight_11 rfl 2 rfl ?_
    refine V.xcallVv (pc := 12) (As := [.int (sJ p2)]) (stk := []) hG (sm_X11_checkNode l Δ hp2 hst hi5 hw6 h) mY_X11_checkNode kw_1528 kw_1530 kw_102 a_0 (by decide) (q := (RX11, TX11, 11)) rfl rfl ⟨Nat.le_of_ble_eq_true rfl, Nat.le_of_ble_eq_true rfl, Nat.le_of_ble_eq_true rfl, Nat.le_of_ble_eq_true rfl⟩ rfl (Nat.le_of_ble_eq_true rfl) dX11_weight_12 rfl (fun z95 z96 z97 z98 z99 z100 => ?_) (fun i61 r62 hi64 hw65 hq66 => ?_)
    · obtain ⟨e101, e102, h⟩ := z100
      subst e101
      subst e102
      exact xout (by decide) (by decide) hi5 hw6 h
    · obtain ⟨e103, e104, h⟩ := hq66
      subst e103
      subst e104
      refine V.aload_n (pc := 15) hG dX11_weight_15 rfl 0 rfl ?_
      refine V.getR (x := 168) (pc := 16) (ci := 13) (k := 4) (M := 11) (T := TX11) (o := 0) (kz := 4) hG a_0 a_0.n (by decide) hin_X11 rfl (by decide) (by decide) rfl kw_580 rfl ((hw6).1 (0, 4, 168) (by decide)) (by decide) dX11_weight_16 ?_
      refine V.iload_n (pc := 19) hG dX11_weight_19 rfl 1 rfl ?_
      refine V.iload_n (pc := 20) hG dX11_weight_20 rfl 2 rfl ?_
      refine V.iload_n (pc := 21) hG dX11_weight_21 rfl 3 rfl ?_
      refine V.callVNi (pc := 22) (As := [.int (sJ p1), .int (sJ p2), .int (sJ p3)]) (stk := []) hG (sm_X2_find l Δ hp1 hp2 hp3 hi5 hw6 h) mY_X2_find kw_1549 kw_903 kw_43 a_168 (by decide) (q := (RX2, TX2, 5)) rfl rfl ⟨Nat.le_of_ble_eq_true rfl, Nat.le_of_ble_eq_true rfl, Nat.le_of_ble_eq_true rfl, Nat.le_of_ble_eq_true rfl⟩ rfl (Nat.le_of_ble_eq_true rfl) dX11_weight_22 rfl (fun v81 i82 r83 hv84 hi85 hw86 hq87 => ?_)
      obtain ⟨e93, e94, h⟩ := hq87
      subst e93
      subst e94
      refine V.istore (pc := 25) (lv' := [(4, .int (sJ v81)), (0, .ref (sA Δ 0)), (1, .int (sJ p1)), (2, .int (sJ p2)), (3, .int (sJ p3))]) hG dX11_weight_25 (by decide) rfl ?_
      refine V.iload (pc := 27) hG dX11_weight_27 0 rfl ?_
      refine V.iconst (pc := 29) hG dX11_weight_29 ?_
      obtain ⟨f90, t89⟩ := h
      refine V.icmp_ne (pc := 30) (tgt := 44) hG hv84 ((sR_l rfl)) dX11_weight_30 (by decide) (fun c88 => ?_) (fun c88 => ?_)
      · have h := t89 c88
        clear t89 f90
        refine V.aload_n (pc := 44) hG dX11_weight_44 rfl 1 rfl ?_
        refine V.getR (x := 168) (pc := 45) (ci := 13) (k := 4) (M := 11) (T := TX11) (o := 0) (kz := 4) hG a_0 a_0.n (by decide) hin_X11 rfl (by decide) (by decide) rfl kw_580 rfl ((hw6).1 (0, 4, 168) (by decide)) (by decide) dX11_weight_45 ?_
        refine V.getRN (x := 363) (pc := 48) (ci := 4) (k := 2) (M := 5) (T := TX2) (o := 168) (kz := 2) hG a_168 a_168.n (by decide) hin_X2 rfl (by decide) (by decide) rfl kw_449 rfl ((hw6).1 (168, 2, 363) (by decide)) (by decide) dX11_weight_48 ?_
        refine V.iload_n (pc := 51) hG dX11_weight_51 rfl 2 rfl ?_
        obtain ⟨g91, h⟩ := h
        refine V.aald (pc := 52) 7 (z := 96) (o := 363) (x := p1) (y := 364 + p1) hG a_363 a_363.n (by decide) hp1 g91 (hw6.2.1 (363, 96, 364) (by decide) _ g91.1 g91.2) (by omega) dX11_weight_52 ?_
        refine V.iload (pc := 53) hG dX11_weight_53 0 rfl ?_
        obtain ⟨g92, h⟩ := h
        refine V.iald (pc := 55) (z := 100) (o := 364 + p1) hG (row_363 g91) ((row_363 g91)).n hv84 g92 dX11_weight_55 ?_
        exact fin dX11_weight_56 ((hi5 _ _)) rfl (by decide) (by decide) hi5 hw6 h
      · have h := f90 c88
        clear t89 f90
        exact xthr ⟨265, 267, 269, "no such edge", by decide, kw_1550, kw_185, by decide, .inr ⟨13, nz13, nz13_d, th_269⟩, dX11_weight_33, dX11_weight_36, Or.inr ⟨dX11_weight_37, dX11_weight_40, dX11_weight_43⟩⟩ (by decide) (by decide) hi5 hw6 h
set_option maxRecDepth 100000 in
set_option maxHeartbeats 4000000 in
theorem sm_X11_soon (l : Launch) (Δ : Wd) {i r : MI} {p1 : Int} (hp1 : sR p1) {Q : Int → MI → MI → Prop} {X : String → MI → MI → Prop} (hst : l.stackTraces = false) (hi : okI i) (hw : Wf r) (h : wp_X11_soon p1 i r Q X) : vx_Met l yX11_soon (Cond.code yX11_soon cX11_soon 2 (some .int) :: gW) (sRx 7 145 1 6) (sPc Δ [.ref (sA Δ 0), .int (sJ p1)] i r) (sQi Δ (Q)) (sX Δ (X)) 1 6 (sFr Δ) := by
  refine Cx.i (ty := .int) (by decide) rfl (Nat.le_of_ble_eq_true rfl) hst (by decide) (by decide) (fun Γ Q0 hG fin xout xthr => ?_)
  have hG : okG Γ Δ l (sRx 7 145 1 6) cX11_soon "Schedulary" 2 := hG
  show V Γ Δ 542 false i r 0 0 Q0 0 [(0, .ref (sA Δ 0)), (1, .int (sJ p1))] []
  refine V.aload_n (pc := 0) hG dX11_soon_0 rfl 0 rfl ?_
  refine V.iconst (pc := 1) hG dX11_soon_1 ?_
  refine V.callVv (pc := 2) (As := [.int (sJ 3)]) (stk := []) hG (sm_X11_prepare l Δ ((sR_l rfl)) hi hw h) mY_X11_prepare kw_830 kw_832 kw_26 a_0 (by decide) (q := (RX11, TX11, 11)) rfl rfl ⟨Nat.le_of_ble_eq_true rfl, Nat.le_of_ble_eq_true rfl, Nat.le_of_ble_eq_true rfl, Nat.le_of_ble_eq_true rfl⟩ rfl (Nat.le_of_ble_eq_true rfl) dX11_soon_2 rfl (fun i2 r3 hi5 hw6 hq7 => ?_)
  have h := hq7
  refine V.aload_n (pc := 5) hG dX11_soon_5 rfl 0 rfl ?_
  refine V.iload_n (pc := 6) hG dX11_soon_6 rfl 1 rfl ?_
  refine V.xcallVv (pc := 7) (As := [.int (sJ p1)]) (stk := []) hG (sm_X11_checkNode l Δ hp1 hst hi5 hw6 h) mY_X11_checkNode kw_1528 kw_1530 kw_102 a_0 (by decide) (q := (RX11, TX11, 11)) rfl rfl ⟨Nat.le_of_ble_eq_true rfl, Nat.le_of_ble_eq_true rfl, Nat.le_of_ble_eq_true rfl, Nat.le_of_ble_eq_true rfl⟩ rfl (Nat.le_of_ble_eq_true rfl) dX11_soon_7 rfl (fun z17 z18 z19 z20 z21 z22 => ?_) (fun i9 r10 hi12 hw13 hq14 => ?_)
  · obtain ⟨e23, e24, h⟩ := z22
    subst e23
    subst e24
    exact xout (by decide) (by decide) hi5 hw6 h
  · obtain ⟨e25, e26, h⟩ := hq14
    subst e25
    subst e26
    refine V.aload_n (pc := 10) hG dX11_soon_10 rfl 0 rfl ?_
    refine V.getR (x := 461) (pc := 11) (ci := 13) (k := 5) (M := 11) (T := TX11) (o := 0) (kz := 5) hG a_0 a_0.n (by decide) hin_X11 rfl (by decide) (by decide) rfl kw_581 rfl ((hw6).1 (0, 5, 461) (by decide)) (by decide) dX11_soon_11 ?_
    refine V.getRN (x := 462) (pc := 14) (ci := 11) (k := 0) (M := 7) (T := TX9) (o := 461) (kz := 0) hG a_461 a_461.n (by decide) hin_X9 rfl (by decide) (by decide) rfl kw_473 rfl ((hw6).1 (461, 0, 462) (by decide)) (by decide) dX11_soon_14 ?_
    refine V.iload_n (pc := 17) hG dX11_soon_17 rfl 1 rfl ?_
    obtain ⟨g16, h⟩ := h
    refine V.iald (pc := 18) (z := 96) (o := 462) hG a_462 a_462.n hp1 g16 dX11_soon_18 ?_
    exact fin dX11_soon_19 ((hi5 _ _)) rfl (by decide) (by decide) hi5 hw6 h
set_option maxRecDepth 100000 in
set_option maxHeartbeats 4000000 in
theorem sm_X11_late (l : Launch) (Δ : Wd) {i r : MI} {p1 : Int} (hp1 : sR p1) {Q : Int → MI → MI → Prop} {X : String → MI → MI → Prop} (hst : l.stackTraces = false) (hi : okI i) (hw : Wf r) (h : wp_X11_late p1 i r Q X) : vx_Met l yX11_late (Cond.code yX11_late cX11_late 2 (some .int) :: gW) (sRx 7 145 1 6) (sPc Δ [.ref (sA Δ 0), .int (sJ p1)] i r) (sQi Δ (Q)) (sX Δ (X)) 1 6 (sFr Δ) := by
  refine Cx.i (ty := .int) (by decide) rfl (Nat.le_of_ble_eq_true rfl) hst (by decide) (by decide) (fun Γ Q0 hG fin xout xthr => ?_)
  have hG : okG Γ Δ l (sRx 7 145 1 6) cX11_late "Schedulary" 2 := hG
  show V Γ Δ 542 false i r 0 0 Q0 0 [(0, .ref (sA Δ 0)), (1, .int (sJ p1))] []
  refine V.aload_n (pc := 0) hG dX11_late_0 rfl 0 rfl ?_
  refine V.iconst (pc := 1) hG dX11_late_1 ?_
  refine V.callVv (pc := 2) (As := [.int (sJ 3)]) (stk := []) hG (sm_X11_prepare l Δ ((sR_l rfl)) hi hw h) mY_X11_prepare kw_830 kw_832 kw_26 a_0 (by decide) (q := (RX11, TX11, 11)) rfl rfl ⟨Nat.le_of_ble_eq_true rfl, Nat.le_of_ble_eq_true rfl, Nat.le_of_ble_eq_true rfl, Nat.le_of_ble_eq_true rfl⟩ rfl (Nat.le_of_ble_eq_true rfl) dX11_late_2 rfl (fun i2 r3 hi5 hw6 hq7 => ?_)
  have h := hq7
  refine V.aload_n (pc := 5) hG dX11_late_5 rfl 0 rfl ?_
  refine V.iload_n (pc := 6) hG dX11_late_6 rfl 1 rfl ?_
  refine V.xcallVv (pc := 7) (As := [.int (sJ p1)]) (stk := []) hG (sm_X11_checkNode l Δ hp1 hst hi5 hw6 h) mY_X11_checkNode kw_1528 kw_1530 kw_102 a_0 (by decide) (q := (RX11, TX11, 11)) rfl rfl ⟨Nat.le_of_ble_eq_true rfl, Nat.le_of_ble_eq_true rfl, Nat.le_of_ble_eq_true rfl, Nat.le_of_ble_eq_true rfl⟩ rfl (Nat.le_of_ble_eq_true rfl) dX11_late_7 rfl (fun z17 z18 z19 z20 z21 z22 => ?_) (fun i9 r10 hi12 hw13 hq14 => ?_)
  · obtain ⟨e23, e24, h⟩ := z22
    subst e23
    subst e24
    exact xout (by decide) (by decide) hi5 hw6 h
  · obtain ⟨e25, e26, h⟩ := hq14
    subst e25
    subst e26
    refine V.aload_n (pc := 10) hG dX11_late_10 rfl 0 rfl ?_
    refine V.getR (x := 461) (pc := 11) (ci := 13) (k := 5) (M := 11) (T := TX11) (o := 0) (kz := 5) hG a_0 a_0.n (by decide) hin_X11 rfl (by decide) (by decide) rfl kw_581 rfl ((hw6).1 (0, 5, 461) (by decide)) (by decide) dX11_late_11 ?_
    refine V.getRN (x := 463) (pc := 14) (ci := 11) (k := 1) (M := 7) (T := TX9) (o := 461) (kz := 1) hG a_461 a_461.n (by decide) hin_X9 rfl (by decide) (by decide) rfl kw_475 rfl ((hw6).1 (461, 1, 463) (by decide)) (by decide) dX11_late_14 ?_
    refine V.iload_n (pc := 17) hG dX11_late_17 rfl 1 rfl ?_
    obtain ⟨g16, h⟩ := h
    refine V.iald (pc := 18) (z := 96) (o := 463) hG a_463 a_463.n hp1 g16 dX11_late_18 ?_
    exact fin dX11_late_19 ((hi5 _ _)) rfl (by decide) (by decide) hi5 hw6 h
set_option maxRecDepth 100000 in
set_option maxHeartbeats 4000000 in
theorem sm_X11_step (l : Launch) (Δ : Wd) {i r : MI} {p1 : Int} (hp1 : sR p1) {Q : Int → MI → MI → Prop} {X : String → MI → MI → Prop} (hst : l.stackTraces = false) (hi : okI i) (hw : Wf r) (h : wp_X11_step p1 i r Q X) : vx_Met l yX11_step (Cond.code yX11_step cX11_step 2 (some .int) :: gW) (sRx 7 145 1 6) (sPc Δ [.ref (sA Δ 0), .int (sJ p1)] i r) (sQi Δ (Q)) (sX Δ (X)) 1 6 (sFr Δ) := by
  refine Cx.i (ty := .int) (by decide) rfl (Nat.le_of_ble_eq_true rfl) hst (by decide) (by decide) (fun Γ Q0 hG fin xout xthr => ?_)
  have hG : okG Γ Δ l (sRx 7 145 1 6) cX11_step "Schedulary" 2 := hG
  show V Γ Δ 542 false i r 0 0 Q0 0 [(0, .ref (sA Δ 0)), (1, .int (sJ p1))] []
  refine V.aload_n (pc := 0) hG dX11_step_0 rfl 0 rfl ?_
  refine V.iconst (pc := 1) hG dX11_step_1 ?_
  refine V.callVv (pc := 2) (As := [.int (sJ 3)]) (stk := []) hG (sm_X11_prepare l Δ ((sR_l rfl)) hi hw h) mY_X11_prepare kw_830 kw_832 kw_26 a_0 (by decide) (q := (RX11, TX11, 11)) rfl rfl ⟨Nat.le_of_ble_eq_true rfl, Nat.le_of_ble_eq_true rfl, Nat.le_of_ble_eq_true rfl, Nat.le_of_ble_eq_true rfl⟩ rfl (Nat.le_of_ble_eq_true rfl) dX11_step_2 rfl (fun i2 r3 hi5 hw6 hq7 => ?_)
  have h := hq7
  refine V.aload_n (pc := 5) hG dX11_step_5 rfl 0 rfl ?_
  refine V.iload_n (pc := 6) hG dX11_step_6 rfl 1 rfl ?_
  refine V.xcallVv (pc := 7) (As := [.int (sJ p1)]) (stk := []) hG (sm_X11_checkNode l Δ hp1 hst hi5 hw6 h) mY_X11_checkNode kw_1528 kw_1530 kw_102 a_0 (by decide) (q := (RX11, TX11, 11)) rfl rfl ⟨Nat.le_of_ble_eq_true rfl, Nat.le_of_ble_eq_true rfl, Nat.le_of_ble_eq_true rfl, Nat.le_of_ble_eq_true rfl⟩ rfl (Nat.le_of_ble_eq_true rfl) dX11_step_7 rfl (fun z17 z18 z19 z20 z21 z22 => ?_) (fun i9 r10 hi12 hw13 hq14 => ?_)
  · obtain ⟨e23, e24, h⟩ := z22
    subst e23
    subst e24
    exact xout (by decide) (by decide) hi5 hw6 h
  · obtain ⟨e25, e26, h⟩ := hq14
    subst e25
    subst e26
    refine V.aload_n (pc := 10) hG dX11_step_10 rfl 0 rfl ?_
    refine V.getR (x := 461) (pc := 11) (ci := 13) (k := 5) (M := 11) (T := TX11) (o := 0) (kz := 5) hG a_0 a_0.n (by decide) hin_X11 rfl (by decide) (by decide) rfl kw_581 rfl ((hw6).1 (0, 5, 461) (by decide)) (by decide) dX11_step_11 ?_
    refine V.getRN (x := 464) (pc := 14) (ci := 11) (k := 2) (M := 7) (T := TX9) (o := 461) (kz := 2) hG a_461 a_461.n (by decide) hin_X9 rfl (by decide) (by decide) rfl kw_477 rfl ((hw6).1 (461, 2, 464) (by decide)) (by decide) dX11_step_14 ?_
    refine V.iload_n (pc := 17) hG dX11_step_17 rfl 1 rfl ?_
    obtain ⟨g16, h⟩ := h
    refine V.iald (pc := 18) (z := 96) (o := 464) hG a_464 a_464.n hp1 g16 dX11_step_18 ?_
    exact fin dX11_step_19 ((hi5 _ _)) rfl (by decide) (by decide) hi5 hw6 h
set_option maxRecDepth 100000 in
set_option maxHeartbeats 4000000 in
theorem sm_X11_length (l : Launch) (Δ : Wd) {i r : MI}   {Q : Int → MI → MI → Prop} (hi : okI i) (hw : Wf r) (h : wp_X11_length  i r Q) : Met l yX11_length (Cond.code yX11_length cX11_length 1 (some .int) :: gW) (sRm 6 145) (sPc Δ [.ref (sA Δ 0)] i r) (sQi Δ (Q)) 0 0 (sFr Δ) := by
  refine Ct.i (ty := .int) (by decide) rfl (Nat.le_of_ble_eq_true rfl) (fun Γ Q0 hG fin => ?_)
  have hG : okG Γ Δ l (sRm 6 145) cX11_length "Schedulary" 1 := hG
  show V Γ Δ 542 false i r 0 0 Q0 0 [(0, .ref (sA Δ 0))] []
  refine V.aload_n (pc := 0) hG dX11_length_0 rfl 0 rfl ?_
  refine V.iconst (pc := 1) hG dX11_length_1 ?_
  refine V.callVv (pc := 2) (As := [.int (sJ 3)]) (stk := []) hG (sm_X11_prepare l Δ ((sR_l rfl)) hi hw h) mY_X11_prepare kw_830 kw_832 kw_26 a_0 (by decide) (q := (RX11, TX11, 11)) rfl rfl ⟨Nat.le_of_ble_eq_true rfl, Nat.le_of_ble_eq_true rfl, Nat.le_of_ble_eq_true rfl, Nat.le_of_ble_eq_true rfl⟩ rfl (Nat.le_of_ble_eq_true rfl) dX11_length_2 rfl (fun i2 r3 hi5 hw6 hq7 => ?_)
  have h := hq7
  refine V.aload_n (pc := 5) hG dX11_length_5 rfl 0 rfl ?_
  refine V.getR (x := 67) (pc := 6) (ci := 13) (k := 3) (M := 11) (T := TX11) (o := 0) (kz := 3) hG a_0 a_0.n (by decide) hin_X11 rfl (by decide) (by decide) rfl kw_579 rfl ((hw6).1 (0, 3, 67) (by decide)) (by decide) dX11_length_6 ?_
  refine V.aload_n (pc := 9) hG dX11_length_9 rfl 0 rfl ?_
  refine V.getR (x := 461) (pc := 10) (ci := 13) (k := 5) (M := 11) (T := TX11) (o := 0) (kz := 5) hG a_0 a_0.n (by decide) hin_X11 rfl (by decide) (by decide) rfl kw_581 rfl ((hw6).1 (0, 5, 461) (by decide)) (by decide) dX11_length_10 ?_
  refine V.getRN (x := 464) (pc := 13) (ci := 11) (k := 2) (M := 7) (T := TX9) (o := 461) (kz := 2) hG a_461 a_461.n (by decide) hin_X9 rfl (by decide) (by decide) rfl kw_477 rfl ((hw6).1 (461, 2, 464) (by decide)) (by decide) dX11_length_13 ?_
  refine V.callVNi (pc := 16) (As := [.ref (sA Δ 464)]) (stk := []) hG (sm_X0_endOf l Δ a_464 hi5 hw6 h) mY_X0_endOf kw_1080 kw_963 kw_56 a_67 (by decide) (q := (RX0, TX0, 5)) rfl rfl ⟨Nat.le_of_ble_eq_true rfl, Nat.le_of_ble_eq_true rfl, Nat.le_of_ble_eq_true rfl, Nat.le_of_ble_eq_true rfl⟩ rfl (Nat.le_of_ble_eq_true rfl) dX11_length_16 rfl (fun v8 i9 r10 hv11 hi12 hw13 hq14 => ?_)
  obtain ⟨e15, e16, h⟩ := hq14
  subst e15
  subst e16
  exact fin dX11_length_19 hv11 rfl hi5 hw6 h
set_option maxRecDepth 100000 in
set_option maxHeartbeats 4000000 in
theorem sm_X9_countIn (l : Launch) (Δ : Wd) {i r : MI} {p2 : Int} (hp2 : sR p2) {Q : Int → Prop} (hi : okI i) (hw : Wf r) (h : wp_X9_countIn p2 i r Q) : Met l yX9_countIn (Cond.code yX9_countIn cX9_countIn 5 (some .int) :: gW) (sRm 0 0) (sPc Δ [.ref (sA Δ 461), .ref (sA Δ 67), .int (sJ p2)] i r) (sQi Δ (fun x i' r' => i = i' ∧ r = r' ∧ Q x)) 0 0 (sFr Δ) := by
  refine Ct.i (ty := .int) (by decide) rfl (Nat.le_of_ble_eq_true rfl) (fun Γ Q0 hG fin => ?_)
  have hG : okG Γ Δ l (sRm 0 0) cX9_countIn "Schedulary$Steps" 5 := hG
  show V Γ Δ 542 false i r 0 0 Q0 0 [(0, .ref (sA Δ 461)), (1, .ref (sA Δ 67)), (2, .int (sJ p2))] []
  refine V.iconst (pc := 0) hG dX9_countIn_0 ?_
  refine V.istore_n (pc := 1) (lv' := [(3, .int (sJ 0)), (0, .ref (sA Δ 461)), (1, .ref (sA Δ 67)), (2, .int (sJ p2))]) hG dX9_countIn_1 rfl (by decide) rfl ?_
  refine V.iconst (pc := 2) hG dX9_countIn_2 ?_
  refine V.istore (pc := 3) (lv' := [(4, .int (sJ 0)), (3, .int (sJ 0)), (0, .ref (sA Δ 461)), (1, .ref (sA Δ 67)), (2, .int (sJ p2))]) hG dX9_countIn_3 (by decide) rfl ?_
  obtain ⟨n8, h⟩ := h
  have lp5 : ∀ (m5 : Nat) (x3_5 : Int) (x4_5 : Int), sR x3_5 → sR x4_5 → LoopP (b5_X9_countIn p2 i r Q) m5 (x3_5, x4_5) → V Γ Δ 542 false i r 0 0 Q0 5 [(0, .ref (sA Δ 461)), (1, .ref (sA Δ 67)), (2, .int (sJ p2)), (3, .int (sJ x3_5)), (4, .int (sJ x4_5))] [] := by
    intro m5
    induction m5 with
    | zero => intro x3_5 x4_5 hx3_5 hx4_5 h; exact h.elim
    | succ m5 ih5 =>
      intro x3_5 x4_5 hx3_5 hx4_5 h
      have h := LoopP_succ h
      have jn28 : ∀ (x3j28 : Int) (x4j28 : Int), sR x3j28 → sR x4j28 → s28_X9_countIn p2 x3j28 x4j28 i r Q (LoopP (b5_X9_countIn p2 i r Q) m5) → V Γ Δ 542 false i r 0 0 Q0 28 [(0, .ref (sA Δ 461)), (1, .ref (sA Δ 67)), (2, .int (sJ p2)), (3, .int (sJ x3j28)), (4, .int (sJ x4j28))] [] := by
        intro x3j28 x4j28 hx3j28 hx4j28 h
        refine V.iinc (pc := 28) (lv' := [(4, .int (sJ (wr (x4j28 + 1)))), (0, .ref (sA Δ 461)), (1, .ref (sA Δ 67)), (2, .int (sJ p2)), (3, .int (sJ x3j28))]) hG dX9_countIn_28 4 rfl (by decide) rfl ?_
        refine V.goto (pc := 31) (tgt := 5) hG dX9_countIn_31 (by decide) ?_
        refine V.pick [1, 2, 3, 4, 0] rfl ?_
        exact ih5 x3j28 (wr (x4j28 + 1)) hx3j28 ((sR_wr _)) h
      refine V.iload (pc := 5) hG dX9_countIn_5 4 rfl ?_
      refine V.aload_n (pc := 7) hG dX9_countIn_7 rfl 1 rfl ?_
      refine V.getIN (pc := 8) (ci := 2) (k := 4) (M := 5) (T := TX0) (o := 67) (kz := 4) hG a_67 a_67.n (by decide) hin_X0 rfl (by decide) (by decide) rfl kw_418 rfl dX9_countIn_8 ?_
      obtain ⟨t10, f11⟩ := h
      refine V.icmp_ge (pc := 11) (tgt := 34) hG hx4_5 ((hi _ _)) dX9_countIn_11 (by decide) (fun c9 => ?_) (fun c9 => ?_)
      · have h := t10 c9
        clear t10 f11
        refine V.iload_n (pc := 34) hG dX9_countIn_34 rfl 3 rfl ?_
        exact fin dX9_countIn_35 hx3_5 rfl hi hw ⟨rfl, rfl, h⟩
      · have h := f11 c9
        clear t10 f11
        refine V.aload_n (pc := 14) hG dX9_countIn_14 rfl 0 rfl ?_
        refine V.getR (x := 464) (pc := 15) (ci := 11) (k := 2) (M := 7) (T := TX9) (o := 461) (kz := 2) hG a_461 a_461.n (by decide) hin_X9 rfl (by decide) (by decide) rfl kw_476 rfl ((hw).1 (461, 2, 464) (by decide)) (by decide) dX9_countIn_15 ?_
        refine V.iload (pc := 18) hG dX9_countIn_18 4 rfl ?_
        obtain ⟨g12, h⟩ := h
        refine V.iald (pc := 20) (z := 96) (o := 464) hG a_464 a_464.n hx4_5 g12 dX9_countIn_20 ?_
        refine V.iload_n (pc := 21) hG dX9_countIn_21 rfl 2 rfl ?_
        obtain ⟨f15, t14⟩ := h
        refine V.icmp_ne (pc := 22) (tgt := 28) hG ((hi _ _)) hp2 dX9_countIn_22 (by decide) (fun c13 => ?_) (fun c13 => ?_)
        · have h := t14 c13
          clear t14 f15
          exact jn28 x3_5 x4_5 hx3_5 hx4_5 h
        · have h := f15 c13
          clear t14 f15
          refine V.iinc (pc := 25) (lv' := [(3, .int (sJ (wr (x3_5 + 1)))), (0, .ref (sA Δ 461)), (1, .ref (sA Δ 67)), (2, .int (sJ p2)), (4, .int (sJ x4_5))]) hG dX9_countIn_25 3 rfl (by decide) rfl ?_
          refine V.pick [1, 2, 3, 0, 4] rfl ?_
          exact jn28 (wr (x3_5 + 1)) x4_5 ((sR_wr _)) hx4_5 h
  refine V.pick [2, 3, 4, 1, 0] rfl ?_
  exact lp5 n8 0 0 ((sR_l rfl)) ((sR_l rfl)) h
set_option maxRecDepth 100000 in
set_option maxHeartbeats 4000000 in
theorem sm_X11_inStep (l : Launch) (Δ : Wd) {i r : MI} {p1 : Int} (hp1 : sR p1) {Q : Int → MI → MI → Prop} (hi : okI i) (hw : Wf r) (h : wp_X11_inStep p1 i r Q) : Met l yX11_inStep (Cond.code yX11_inStep cX11_inStep 2 (some .int) :: gW) (sRm 6 145) (sPc Δ [.ref (sA Δ 0), .int (sJ p1)] i r) (sQi Δ (Q)) 0 0 (sFr Δ) := by
  refine Ct.i (ty := .int) (by decide) rfl (Nat.le_of_ble_eq_true rfl) (fun Γ Q0 hG fin => ?_)
  have hG : okG Γ Δ l (sRm 6 145) cX11_inStep "Schedulary" 2 := hG
  show V Γ Δ 542 false i r 0 0 Q0 0 [(0, .ref (sA Δ 0)), (1, .int (sJ p1))] []
  refine V.aload_n (pc := 0) hG dX11_inStep_0 rfl 0 rfl ?_
  refine V.iconst (pc := 1) hG dX11_inStep_1 ?_
  refine V.callVv (pc := 2) (As := [.int (sJ 3)]) (stk := []) hG (sm_X11_prepare l Δ ((sR_l rfl)) hi hw h) mY_X11_prepare kw_830 kw_832 kw_26 a_0 (by decide) (q := (RX11, TX11, 11)) rfl rfl ⟨Nat.le_of_ble_eq_true rfl, Nat.le_of_ble_eq_true rfl, Nat.le_of_ble_eq_true rfl, Nat.le_of_ble_eq_true rfl⟩ rfl (Nat.le_of_ble_eq_true rfl) dX11_inStep_2 rfl (fun i2 r3 hi5 hw6 hq7 => ?_)
  have h := hq7
  refine V.aload_n (pc := 5) hG dX11_inStep_5 rfl 0 rfl ?_
  refine V.getR (x := 461) (pc := 6) (ci := 13) (k := 5) (M := 11) (T := TX11) (o := 0) (kz := 5) hG a_0 a_0.n (by decide) hin_X11 rfl (by decide) (by decide) rfl kw_581 rfl ((hw6).1 (0, 5, 461) (by decide)) (by decide) dX11_inStep_6 ?_
  refine V.aload_n (pc := 9) hG dX11_inStep_9 rfl 0 rfl ?_
  refine V.getR (x := 67) (pc := 10) (ci := 13) (k := 3) (M := 11) (T := TX11) (o := 0) (kz := 3) hG a_0 a_0.n (by decide) hin_X11 rfl (by decide) (by decide) rfl kw_579 rfl ((hw6).1 (0, 3, 67) (by decide)) (by decide) dX11_inStep_10 ?_
  refine V.iload_n (pc := 13) hG dX11_inStep_13 rfl 1 rfl ?_
  refine V.callVNi (pc := 14) (As := [.ref (sA Δ 67), .int (sJ p1)]) (stk := []) hG (sm_X9_countIn l Δ hp1 hi5 hw6 h) mY_X9_countIn kw_1085 kw_1087 kw_78 a_461 (by decide) (q := (RX9, TX9, 7)) rfl rfl ⟨Nat.le_of_ble_eq_true rfl, Nat.le_of_ble_eq_true rfl, Nat.le_of_ble_eq_true rfl, Nat.le_of_ble_eq_true rfl⟩ rfl (Nat.le_of_ble_eq_true rfl) dX11_inStep_14 rfl (fun v8 i9 r10 hv11 hi12 hw13 hq14 => ?_)
  obtain ⟨e15, e16, h⟩ := hq14
  subst e15
  subst e16
  exact fin dX11_inStep_17 hv11 rfl hi5 hw6 h
set_option maxRecDepth 100000 in
set_option maxHeartbeats 4000000 in
theorem sm_X9_lastUse (l : Launch) (Δ : Wd) {i r : MI} {p1 : Int} {p2 : Int} {p4 : Int} (hp1 : sR p1) (hp2 : sR p2) (hp4 : sR p4) {Q : Int → Prop} (hi : okI i) (hw : Wf r) (h : wp_X9_lastUse p1 p2 p4 i r Q) : Met l yX9_lastUse (Cond.code yX9_lastUse cX9_lastUse 9 (some .int) :: gW) (sRm 1 23) (sPc Δ [.ref (sA Δ 461), .int (sJ p1), .int (sJ p2), .ref (sA Δ 67), .int (sJ p4)] i r) (sQi Δ (fun x i' r' => i = i' ∧ r = r' ∧ Q x)) 0 0 (sFr Δ) := by
  refine Ct.i (ty := .int) (by decide) rfl (Nat.le_of_ble_eq_true rfl) (fun Γ Q0 hG fin => ?_)
  have hG : okG Γ Δ l (sRm 1 23) cX9_lastUse "Schedulary$Steps" 9 := hG
  show V Γ Δ 542 false i r 0 0 Q0 0 [(0, .ref (sA Δ 461)), (1, .int (sJ p1)), (2, .int (sJ p2)), (3, .ref (sA Δ 67)), (4, .int (sJ p4))] []
  have jn72 : ∀ (x5j72 : Int) (x6j72 : Int), sR x5j72 → sR x6j72 → s72_X9_lastUse p2 p4 x5j72 x6j72 i r Q → V Γ Δ 542 false i r 0 0 Q0 72 [(2, .int (sJ p2)), (3, .ref (sA Δ 67)), (4, .int (sJ p4)), (5, .int (sJ x5j72)), (6, .int (sJ x6j72))] [] := by
    intro x5j72 x6j72 hx5j72 hx6j72 h
    refine V.iload (pc := 72) hG dX9_lastUse_72 3 rfl ?_
    refine V.iconst (pc := 74) hG dX9_lastUse_74 ?_
    obtain ⟨t47, f48⟩ := h
    refine V.icmp_eq (pc := 75) (tgt := 81) hG hx5j72 ((sR_l rfl)) dX9_lastUse_75 (by decide) (fun c46 => ?_) (fun c46 => ?_)
    · have h := t47 c46
      clear t47 f48
      refine V.aload_n (pc := 81) hG dX9_lastUse_81 rfl 1 rfl ?_
      refine V.iload_n (pc := 82) hG dX9_lastUse_82 rfl 0 rfl ?_
      refine V.iconst (pc := 83) hG dX9_lastUse_83 ?_
      refine V.callVNi (pc := 84) (As := [.int (sJ p2), .int (sJ (-1))]) (stk := []) hG (sm_X0_nextMakerBehind l Δ hp2 ((sR_l rfl)) hi hw h) mY_X0_nextMakerBehind kw_1105 kw_912 kw_45 a_67 (by decide) (q := (RX0, TX0, 5)) rfl rfl ⟨Nat.le_of_ble_eq_true rfl, Nat.le_of_ble_eq_true rfl, Nat.le_of_ble_eq_true rfl, Nat.le_of_ble_eq_true rfl⟩ rfl (Nat.le_of_ble_eq_true rfl) dX9_lastUse_84 rfl (fun v49 i50 r51 hv52 hi53 hw54 hq55 => ?_)
      obtain ⟨e73, e74, h⟩ := hq55
      subst e73
      subst e74
      refine V.istore (pc := 87) (lv' := [(7, .int (sJ v49)), (2, .int (sJ p2)), (3, .ref (sA Δ 67)), (4, .int (sJ p4)), (5, .int (sJ x5j72)), (6, .int (sJ x6j72))]) hG dX9_lastUse_87 (by decide) rfl ?_
      refine V.iconst (pc := 89) hG dX9_lastUse_89 ?_
      refine V.istore (pc := 90) (lv' := [(8, .int (sJ 0)), (7, .int (sJ v49)), (2, .int (sJ p2)), (3, .ref (sA Δ 67)), (4, .int (sJ p4)), (5, .int (sJ x5j72)), (6, .int (sJ x6j72))]) hG dX9_lastUse_90 (by decide) rfl ?_
      obtain ⟨n56, h⟩ := h
      have lp92 : ∀ (m92 : Nat) (x8_92 : Int), sR x8_92 → LoopP (b92_X9_lastUse p2 p4 x6j72 v49 i r Q) m92 (x8_92) → V Γ Δ 542 false i r 0 0 Q0 92 [(2, .int (sJ p2)), (3, .ref (sA Δ 67)), (4, .int (sJ p4)), (6, .int (sJ x6j72)), (7, .int (sJ v49)), (8, .int (sJ x8_92))] [] := by
        intro m92
        induction m92 with
        | zero => intro x8_92 hx8_92 h; exact h.elim
        | succ m92 ih92 =>
          intro x8_92 hx8_92 h
          have h := LoopP_succ h
          refine V.iload (pc := 92) hG dX9_lastUse_92 5 rfl ?_
          refine V.iload (pc := 94) hG dX9_lastUse_94 4 rfl ?_
          obtain ⟨t58, f59⟩ := h
          refine V.icmp_gt (pc := 96) (tgt := 124) hG hx8_92 hv52 dX9_lastUse_96 (by decide) (fun c57 => ?_) (fun c57 => ?_)
          · have h := t58 c57
            clear t58 f59
            refine V.iload (pc := 124) hG dX9_lastUse_124 3 rfl ?_
            exact fin dX9_lastUse_126 hx6j72 rfl hi hw ⟨rfl, rfl, h⟩
          · have h := f59 c57
            clear t58 f59
            refine V.aload_n (pc := 99) hG dX9_lastUse_99 rfl 1 rfl ?_
            refine V.getRN (x := 68) (pc := 100) (ci := 2) (k := 0) (M := 5) (T := TX0) (o := 67) (kz := 0) hG a_67 a_67.n (by decide) hin_X0 rfl (by decide) (by decide) rfl kw_406 rfl ((hw).1 (67, 0, 68) (by decide)) (by decide) dX9_lastUse_100 ?_
            refine V.iload (pc := 103) hG dX9_lastUse_103 5 rfl ?_
            obtain ⟨g60, h⟩ := h
            refine V.aald (pc := 105) 6 (z := 96) (o := 68) (x := x8_92) (y := 72 + x8_92) hG a_68 a_68.n (by decide) hx8_92 g60 (hw.2.1 (68, 96, 72) (by decide) _ g60.1 g60.2) (by omega) dX9_lastUse_105 ?_
            refine V.iload_n (pc := 106) hG dX9_lastUse_106 rfl 0 rfl ?_
            refine V.callVNi (pc := 107) (As := [.int (sJ p2)]) (stk := []) hG (sm_X3_isUsing l Δ ((node_o g60.1 g60.2)) hp2 hi hw h) mY_X3_isUsing kw_1106 kw_916 kw_46 (node_o g60.1 g60.2) (by decide) (q := (RX3, TX3, 13)) rfl rfl ⟨Nat.le_of_ble_eq_true rfl, Nat.le_of_ble_eq_true rfl, Nat.le_of_ble_eq_true rfl, Nat.le_of_ble_eq_true rfl⟩ rfl (Nat.le_of_ble_eq_true rfl) dX9_lastUse_107 rfl (fun v61 i62 r63 hv64 hi65 hw66 hq67 => ?_)
            obtain ⟨e71, e72, h⟩ := hq67
            subst e71
            subst e72
            obtain ⟨t69, f70⟩ := h
            refine V.if_eq (pc := 110) (tgt := 118) hG hv64 dX9_lastUse_110 (by decide) (fun c68 => ?_) (fun c68 => ?_)
            · have h := t69 c68
              clear t69 f70
              refine V.iinc (pc := 118) (lv' := [(8, .int (sJ (wr (x8_92 + 1)))), (2, .int (sJ p2)), (3, .ref (sA Δ 67)), (4, .int (sJ p4)), (6, .int (sJ x6j72)), (7, .int (sJ v49))]) hG dX9_lastUse_118 5 rfl (by decide) rfl ?_
              refine V.goto (pc := 121) (tgt := 92) hG dX9_lastUse_121 (by decide) ?_
              refine V.pick [1, 2, 3, 4, 5, 0] rfl ?_
              exact ih92 (wr (x8_92 + 1)) ((sR_wr _)) h
            · have h := f70 c68
              clear t69 f70
              refine V.iload (pc := 113) hG dX9_lastUse_113 2 rfl ?_
              refine V.iconst (pc := 115) hG dX9_lastUse_115 ?_
              refine V.isub (pc := 116) hG dX9_lastUse_116 ?_
              exact fin dX9_lastUse_117 ((sR_wr _)) rfl hi hw ⟨rfl, rfl, h⟩
      refine V.pick [2, 3, 4, 6, 1, 0] rfl ?_
      exact lp92 n56 0 ((sR_l rfl)) h
    · have h := f48 c46
      clear t47 f48
      refine V.iload (pc := 78) hG dX9_lastUse_78 4 rfl ?_
      exact fin dX9_lastUse_80 hx6j72 rfl hi hw ⟨rfl, rfl, h⟩
  refine V.aload_n (pc := 0) hG dX9_lastUse_0 rfl 3 rfl ?_
  refine V.iload_n (pc := 1) hG dX9_lastUse_1 rfl 2 rfl ?_
  refine V.iload_n (pc := 2) hG dX9_lastUse_2 rfl 1 rfl ?_
  refine V.callVNi (pc := 3) (As := [.int (sJ p2), .int (sJ p1)]) (stk := []) hG (sm_X0_nextMakerBehind l Δ hp2 hp1 hi hw h) mY_X0_nextMakerBehind kw_1105 kw_912 kw_45 a_67 (by decide) (q := (RX0, TX0, 5)) rfl rfl ⟨Nat.le_of_ble_eq_true rfl, Nat.le_of_ble_eq_true rfl, Nat.le_of_ble_eq_true rfl, Nat.le_of_ble_eq_true rfl⟩ rfl (Nat.le_of_ble_eq_true rfl) dX9_lastUse_3 rfl (fun v75 i76 r77 hv78 hi79 hw80 hq81 => ?_)
  obtain ⟨e143, e144, h⟩ := hq81
  subst e143
  subst e144
  refine V.istore (pc := 6) (lv' := [(5, .int (sJ v75)), (0, .ref (sA Δ 461)), (1, .int (sJ p1)), (2, .int (sJ p2)), (3, .ref (sA Δ 67)), (4, .int (sJ p4))]) hG dX9_lastUse_6 (by decide) rfl ?_
  refine V.iconst (pc := 8) hG dX9_lastUse_8 ?_
  refine V.istore (pc := 9) (lv' := [(6, .int (sJ (-1))), (5, .int (sJ v75)), (0, .ref (sA Δ 461)), (1, .int (sJ p1)), (2, .int (sJ p2)), (3, .ref (sA Δ 67)), (4, .int (sJ p4))]) hG dX9_lastUse_9 (by decide) rfl ?_
  refine V.iload_n (pc := 11) hG dX9_lastUse_11 rfl 3 rfl ?_
  refine V.iconst (pc := 12) hG dX9_lastUse_12 ?_
  refine V.iadd (pc := 13) hG dX9_lastUse_13 ?_
  refine V.istore (pc := 14) (lv' := [(7, .int (sJ (wr (p1 + 1)))), (6, .int (sJ (-1))), (5, .int (sJ v75)), (0, .ref (sA Δ 461)), (1, .int (sJ p1)), (2, .int (sJ p2)), (3, .ref (sA Δ 67)), (4, .int (sJ p4))]) hG dX9_lastUse_14 (by decide) rfl ?_
  obtain ⟨n105, h⟩ := h
  have lp16 : ∀ (m16 : Nat) (x6_16 : Int) (x7_16 : Int), sR x6_16 → sR x7_16 → LoopP (b16_X9_lastUse p2 p4 v75 i r Q) m16 (x6_16, x7_16) → V Γ Δ 542 false i r 0 0 Q0 16 [(0, .ref (sA Δ 461)), (2, .int (sJ p2)), (3, .ref (sA Δ 67)), (4, .int (sJ p4)), (5, .int (sJ v75)), (6, .int (sJ x6_16)), (7, .int (sJ x7_16))] [] := by
    intro m16
    induction m16 with
    | zero => intro x6_16 x7_16 hx6_16 hx7_16 h; exact h.elim
    | succ m16 ih16 =>
      intro x6_16 x7_16 hx6_16 hx7_16 h
      have h := LoopP_succ h
      have jn66 : ∀ (x6j66 : Int) (x7j66 : Int), sR x6j66 → sR x7j66 → s66_X9_lastUse p2 p4 v75 x6j66 x7j66 i r Q (LoopP (b16_X9_lastUse p2 p4 v75 i r Q) m16) → V Γ Δ 542 false i r 0 0 Q0 66 [(0, .ref (sA Δ 461)), (2, .int (sJ p2)), (3, .ref (sA Δ 67)), (4, .int (sJ p4)), (5, .int (sJ v75)), (6, .int (sJ x6j66)), (7, .int (sJ x7j66))] [] := by
        intro x6j66 x7j66 hx6j66 hx7j66 h
        refine V.iinc (pc := 66) (lv' := [(7, .int (sJ (wr (x7j66 + 1)))), (0, .ref (sA Δ 461)), (2, .int (sJ p2)), (3, .ref (sA Δ 67)), (4, .int (sJ p4)), (5, .int (sJ v75)), (6, .int (sJ x6j66))]) hG dX9_lastUse_66 6 rfl (by decide) rfl ?_
        refine V.goto (pc := 69) (tgt := 16) hG dX9_lastUse_69 (by decide) ?_
        refine V.pick [1, 2, 3, 4, 5, 6, 0] rfl ?_
        exact ih16 x6j66 (wr (x7j66 + 1)) hx6j66 ((sR_wr _)) h
      have jn38 : ∀ (x6j38 : Int) (x7j38 : Int), sR x6j38 → sR x7j38 → s38_X9_lastUse p2 p4 v75 x6j38 x7j38 i r Q (LoopP (b16_X9_lastUse p2 p4 v75 i r Q) m16) → V Γ Δ 542 false i r 0 0 Q0 38 [(0, .ref (sA Δ 461)), (2, .int (sJ p2)), (3, .ref (sA Δ 67)), (4, .int (sJ p4)), (5, .int (sJ v75)), (6, .int (sJ x6j38)), (7, .int (sJ x7j38))] [] := by
        intro x6j38 x7j38 hx6j38 hx7j38 h
        refine V.aload_n (pc := 38) hG dX9_lastUse_38 rfl 2 rfl ?_
        refine V.getRN (x := 68) (pc := 39) (ci := 2) (k := 0) (M := 5) (T := TX0) (o := 67) (kz := 0) hG a_67 a_67.n (by decide) hin_X0 rfl (by decide) (by decide) rfl kw_406 rfl ((hw).1 (67, 0, 68) (by decide)) (by decide) dX9_lastUse_39 ?_
        refine V.iload (pc := 42) hG dX9_lastUse_42 6 rfl ?_
        obtain ⟨g120, h⟩ := h
        refine V.aald (pc := 44) 6 (z := 96) (o := 68) (x := x7j38) (y := 72 + x7j38) hG a_68 a_68.n (by decide) hx7j38 g120 (hw.2.1 (68, 96, 72) (by decide) _ g120.1 g120.2) (by omega) dX9_lastUse_44 ?_
        refine V.iload_n (pc := 45) hG dX9_lastUse_45 rfl 1 rfl ?_
        refine V.callVNi (pc := 46) (As := [.int (sJ p2)]) (stk := []) hG (sm_X3_isUsing l Δ ((node_o g120.1 g120.2)) hp2 hi hw h) mY_X3_isUsing kw_1106 kw_916 kw_46 (node_o g120.1 g120.2) (by decide) (q := (RX3, TX3, 13)) rfl rfl ⟨Nat.le_of_ble_eq_true rfl, Nat.le_of_ble_eq_true rfl, Nat.le_of_ble_eq_true rfl, Nat.le_of_ble_eq_true rfl⟩ rfl (Nat.le_of_ble_eq_true rfl) dX9_lastUse_46 rfl (fun v121 i122 r123 hv124 hi125 hw126 hq127 => ?_)
        obtain ⟨e132, e133, h⟩ := hq127
        subst e132
        subst e133
        obtain ⟨t129, f130⟩ := h
        refine V.if_eq (pc := 49) (tgt := 66) hG hv124 dX9_lastUse_49 (by decide) (fun c128 => ?_) (fun c128 => ?_)
        · have h := t129 c128
          clear t129 f130
          exact jn66 x6j38 x7j38 hx6j38 hx7j38 h
        · have h := f130 c128
          clear t129 f130
          refine V.iload (pc := 52) hG dX9_lastUse_52 5 rfl ?_
          refine V.aload_n (pc := 54) hG dX9_lastUse_54 rfl 0 rfl ?_
          refine V.getR (x := 464) (pc := 55) (ci := 11) (k := 2) (M := 7) (T := TX9) (o := 461) (kz := 2) hG a_461 a_461.n (by decide) hin_X9 rfl (by decide) (by decide) rfl kw_476 rfl ((hw).1 (461, 2, 464) (by decide)) (by decide) dX9_lastUse_55 ?_
          refine V.iload (pc := 58) hG dX9_lastUse_58 6 rfl ?_
          obtain ⟨g131, h⟩ := h
          refine V.iald (pc := 60) (z := 96) (o := 464) hG a_464 a_464.n hx7j38 g131 dX9_lastUse_60 ?_
          refine V.mmax (pc := 61) hG hx6j38 ((hi _ _)) kw_956 kw_680 kw_173 kw_max ⟨Nat.le_of_ble_eq_true rfl, Nat.le_of_ble_eq_true rfl, Nat.le_of_ble_eq_true rfl, Nat.le_of_ble_eq_true rfl⟩ dX9_lastUse_61 ?_
          refine V.istore (pc := 64) (lv' := [(6, .int (sJ (max x6j38 (i 464 x7j38)))), (0, .ref (sA Δ 461)), (2, .int (sJ p2)), (3, .ref (sA Δ 67)), (4, .int (sJ p4)), (5, .int (sJ v75)), (7, .int (sJ x7j38))]) hG dX9_lastUse_64 (by decide) rfl ?_
          refine V.pick [1, 2, 3, 4, 5, 0, 6] rfl ?_
          exact jn66 (max x6j38 (i 464 x7j38)) x7j38 ((sR_max hx6j38 ((hi _ _)))) hx7j38 h
      refine V.iload (pc := 16) hG dX9_lastUse_16 6 rfl ?_
      refine V.aload_n (pc := 18) hG dX9_lastUse_18 rfl 2 rfl ?_
      refine V.getIN (pc := 19) (ci := 2) (k := 4) (M := 5) (T := TX0) (o := 67) (kz := 4) hG a_67 a_67.n (by decide) hin_X0 rfl (by decide) (by decide) rfl kw_418 rfl dX9_lastUse_19 ?_
      obtain ⟨t135, f136⟩ := h
      refine V.icmp_ge (pc := 22) (tgt := 72) hG hx7_16 ((hi _ _)) dX9_lastUse_22 (by decide) (fun c134 => ?_) (fun c134 => ?_)
      · have h := t135 c134
        clear t135 f136
        refine V.pick [1, 2, 3, 4, 5] rfl ?_
        exact jn72 v75 x6_16 hv78 hx6_16 h
      · have h := f136 c134
        clear t135 f136
        refine V.iload (pc := 25) hG dX9_lastUse_25 4 rfl ?_
        refine V.iconst (pc := 27) hG dX9_lastUse_27 ?_
        obtain ⟨t138, f139⟩ := h
        refine V.icmp_eq (pc := 28) (tgt := 38) hG hv78 ((sR_l rfl)) dX9_lastUse_28 (by decide) (fun c137 => ?_) (fun c137 => ?_)
        · have h := t138 c137
          clear t138 f139
          exact jn38 x6_16 x7_16 hx6_16 hx7_16 h
        · have h := f139 c137
          clear t138 f139
          refine V.iload (pc := 31) hG dX9_lastUse_31 6 rfl ?_
          refine V.iload (pc := 33) hG dX9_lastUse_33 4 rfl ?_
          obtain ⟨t141, f142⟩ := h
          refine V.icmp_gt (pc := 35) (tgt := 72) hG hx7_16 hv78 dX9_lastUse_35 (by decide) (fun c140 => ?_) (fun c140 => ?_)
          · have h := t141 c140
            clear t141 f142
            refine V.pick [1, 2, 3, 4, 5] rfl ?_
            exact jn72 v75 x6_16 hv78 hx6_16 h
          · have h := f142 c140
            clear t141 f142
            exact jn38 x6_16 x7_16 hx6_16 hx7_16 h
  refine V.pick [3, 5, 6, 7, 2, 1, 0] rfl ?_
  exact lp16 n105 (-1) (wr (p1 + 1)) ((sR_l rfl)) ((sR_wr _)) h
set_option maxRecDepth 100000 in
set_option maxHeartbeats 4000000 in
theorem sm_X9_waitFor (l : Launch) (Δ : Wd) {i r : MI} {p1 : Int} {p3 : Int} (hp1 : sR p1) (hp3 : sR p3) {Q : MI → Prop} (hi : okI i) (hw : Wf r) (h : wp_X9_waitFor p1 p3 i r Q) : Met l yX9_waitFor (Cond.code yX9_waitFor cX9_waitFor 7 none :: gW) (sRm 2 51) (sPc Δ [.ref (sA Δ 461), .int (sJ p1), .ref (sA Δ 67), .int (sJ p3)] i r) (sQv Δ (fun i' r' => r = r' ∧ Q i')) 0 0 (sFr Δ) := by
  refine Ct.v (by decide) rfl (Nat.le_of_ble_eq_true rfl) (fun Γ Q0 hG fin => ?_)
  have hG : okG Γ Δ l (sRm 2 51) cX9_waitFor "Schedulary$Steps" 7 := hG
  show V Γ Δ 542 false i r 0 0 Q0 0 [(0, .ref (sA Δ 461)), (1, .int (sJ p1)), (2, .ref (sA Δ 67)), (3, .int (sJ p3))] []
  refine V.aload_n (pc := 0) hG dX9_waitFor_0 rfl 2 rfl ?_
  refine V.getRN (x := 68) (pc := 1) (ci := 2) (k := 0) (M := 5) (T := TX0) (o := 67) (kz := 0) hG a_67 a_67.n (by decide) hin_X0 rfl (by decide) (by decide) rfl kw_406 rfl ((hw).1 (67, 0, 68) (by decide)) (by decide) dX9_waitFor_1 ?_
  refine V.iload_n (pc := 4) hG dX9_waitFor_4 rfl 1 rfl ?_
  obtain ⟨g1, h⟩ := h
  refine V.aald (pc := 5) 6 (z := 96) (o := 68) (x := p1) (y := 72 + p1) hG a_68 a_68.n (by decide) hp1 g1 (hw.2.1 (68, 96, 72) (by decide) _ g1.1 g1.2) (by omega) dX9_waitFor_5 ?_
  refine V.getIN (pc := 6) (ci := 5) (k := 8) (M := 13) (T := TX3) (o := 72 + p1) (kz := 8) hG (node_o g1.1 g1.2) ((node_o g1.1 g1.2)).n (by decide) hin_X3 rfl (by decide) (by decide) rfl kw_363 rfl dX9_waitFor_6 ?_
  refine V.istore (pc := 9) (lv' := [(4, .int (sJ (i (72 + p1) 8))), (0, .ref (sA Δ 461)), (1, .int (sJ p1)), (2, .ref (sA Δ 67)), (3, .int (sJ p3))]) hG dX9_waitFor_9 (by decide) rfl ?_
  refine V.aload_n (pc := 11) hG dX9_waitFor_11 rfl 1 rfl ?_
  refine V.iload_n (pc := 12) hG dX9_waitFor_12 rfl 2 rfl ?_
  refine V.iload (pc := 13) hG dX9_waitFor_13 0 rfl ?_
  refine V.aload_n (pc := 15) hG dX9_waitFor_15 rfl 3 rfl ?_
  refine V.iload_n (pc := 16) hG dX9_waitFor_16 rfl 4 rfl ?_
  refine V.callVi (pc := 17) (As := [.int (sJ p1), .int (sJ (i (72 + p1) 8)), .ref (sA Δ 67), .int (sJ p3)]) (stk := []) hG (sm_X9_lastUse l Δ hp1 ((hi _ _)) hp3 hi hw h) mY_X9_lastUse kw_1101 kw_1103 kw_81 a_461 (by decide) (q := (RX9, TX9, 7)) rfl rfl ⟨Nat.le_of_ble_eq_true rfl, Nat.le_of_ble_eq_true rfl, Nat.le_of_ble_eq_true rfl, Nat.le_of_ble_eq_true rfl⟩ rfl (Nat.le_of_ble_eq_true rfl) dX9_waitFor_17 rfl (fun v2 i3 r4 hv5 hi6 hw7 hq8 => ?_)
  obtain ⟨e30, e31, h⟩ := hq8
  subst e30
  subst e31
  refine V.iload_n (pc := 20) hG dX9_waitFor_20 rfl 4 rfl ?_
  refine V.iconst (pc := 21) hG dX9_waitFor_21 ?_
  refine V.isub (pc := 22) hG dX9_waitFor_22 ?_
  refine V.mmin (pc := 23) hG hv5 ((sR_wr _)) kw_968 kw_683 kw_173 kw_min ⟨Nat.le_of_ble_eq_true rfl, Nat.le_of_ble_eq_true rfl, Nat.le_of_ble_eq_true rfl, Nat.le_of_ble_eq_true rfl⟩ dX9_waitFor_23 ?_
  refine V.istore (pc := 26) (lv' := [(5, .int (sJ (min v2 (wr (p3 - 1))))), (4, .int (sJ (i (72 + p1) 8))), (0, .ref (sA Δ 461)), (1, .int (sJ p1)), (2, .ref (sA Δ 67)), (3, .int (sJ p3))]) hG dX9_waitFor_26 (by decide) rfl ?_
  refine V.aload_n (pc := 28) hG dX9_waitFor_28 rfl 2 rfl ?_
  refine V.getR (x := 464) (pc := 29) (ci := 11) (k := 2) (M := 7) (T := TX9) (o := 461) (kz := 2) hG a_461 a_461.n (by decide) hin_X9 rfl (by decide) (by decide) rfl kw_476 rfl ((hw).1 (461, 2, 464) (by decide)) (by decide) dX9_waitFor_29 ?_
  refine V.iload_n (pc := 32) hG dX9_waitFor_32 rfl 3 rfl ?_
  obtain ⟨g9, h⟩ := h
  refine V.iald (pc := 33) (z := 96) (o := 464) hG a_464 a_464.n hp1 g9 dX9_waitFor_33 ?_
  refine V.aload_n (pc := 34) hG dX9_waitFor_34 rfl 4 rfl ?_
  refine V.iload_n (pc := 35) hG dX9_waitFor_35 rfl 3 rfl ?_
  refine V.callVNi (pc := 36) (As := [.int (sJ p1)]) (stk := [.int (sJ (i 464 p1))]) hG (sm_X0_cyclesOf l Δ hp1 hi hw h) mY_X0_cyclesOf kw_967 kw_895 kw_41 a_67 (by decide) (q := (RX0, TX0, 5)) rfl rfl ⟨Nat.le_of_ble_eq_true rfl, Nat.le_of_ble_eq_true rfl, Nat.le_of_ble_eq_true rfl, Nat.le_of_ble_eq_true rfl⟩ rfl (Nat.le_of_ble_eq_true rfl) dX9_waitFor_36 rfl (fun v10 i11 r12 hv13 hi14 hw15 hq16 => ?_)
  obtain ⟨e28, e29, h⟩ := hq16
  subst e28
  subst e29
  refine V.iadd (pc := 39) hG dX9_waitFor_39 ?_
  refine V.istore (pc := 40) (lv' := [(6, .int (sJ (wr (i 464 p1 + v10)))), (5, .int (sJ (min v2 (wr (p3 - 1))))), (4, .int (sJ (i (72 + p1) 8))), (0, .ref (sA Δ 461)), (1, .int (sJ p1)), (2, .ref (sA Δ 67)), (3, .int (sJ p3))]) hG dX9_waitFor_40 (by decide) rfl ?_
  obtain ⟨n22, h⟩ := h
  have lp42 : ∀ (m42 : Nat) (x6_42 : Int) (i_42 : MI), sR x6_42 → okI i_42 → LoopP (b42_X9_waitFor (min v2 (wr (p3 - 1))) r Q) m42 (x6_42, i_42) → V Γ Δ 542 false i_42 r 0 0 Q0 42 [(0, .ref (sA Δ 461)), (5, .int (sJ (min v2 (wr (p3 - 1))))), (6, .int (sJ x6_42))] [] := by
    intro m42
    induction m42 with
    | zero => intro x6_42 i_42 hx6_42 hi_42 h; exact h.elim
    | succ m42 ih42 =>
      intro x6_42 i_42 hx6_42 hi_42 h
      have h := LoopP_succ h
      refine V.iload (pc := 42) hG dX9_waitFor_42 2 rfl ?_
      refine V.iload (pc := 44) hG dX9_waitFor_44 1 rfl ?_
      obtain ⟨t24, f25⟩ := h
      refine V.icmp_gt (pc := 46) (tgt := 66) hG hx6_42 ((sR_min hv5 ((sR_wr _)))) dX9_waitFor_46 (by decide) (fun c23 => ?_) (fun c23 => ?_)
      · have h := t24 c23
        clear t24 f25
        exact fin dX9_waitFor_66 hi_42 hw ⟨rfl, h⟩
      · have h := f25 c23
        clear t24 f25
        refine V.aload_n (pc := 49) hG dX9_waitFor_49 rfl 0 rfl ?_
        refine V.getR (x := 468) (pc := 50) (ci := 11) (k := 6) (M := 7) (T := TX9) (o := 461) (kz := 6) hG a_461 a_461.n (by decide) hin_X9 rfl (by decide) (by decide) rfl kw_481 rfl ((hw).1 (461, 6, 468) (by decide)) (by decide) dX9_waitFor_50 ?_
        refine V.iload (pc := 53) hG dX9_waitFor_53 2 rfl ?_
        refine V.dup2 (pc := 55) hG dX9_waitFor_55 rfl rfl ?_
        obtain ⟨g26, h⟩ := h
        refine V.iald (pc := 56) (z := 481) (o := 468) hG a_468 a_468.n hx6_42 g26 dX9_waitFor_56 ?_
        refine V.iconst (pc := 57) hG dX9_waitFor_57 ?_
        refine V.iadd (pc := 58) hG dX9_waitFor_58 ?_
        obtain ⟨g27, h⟩ := h
        refine V.iast (pc := 59) (z := 481) (o := 468) hG a_468 a_468.n hx6_42 g27 dX9_waitFor_59 ?_
        refine V.iinc (pc := 60) (lv' := [(6, .int (sJ (wr (x6_42 + 1)))), (0, .ref (sA Δ 461)), (5, .int (sJ (min v2 (wr (p3 - 1)))))]) hG dX9_waitFor_60 2 rfl (by decide) rfl ?_
        refine V.goto (pc := 63) (tgt := 42) hG dX9_waitFor_63 (by decide) ?_
        refine V.pick [1, 2, 0] rfl ?_
        exact ih42 (wr (x6_42 + 1)) (st i_42 468 x6_42 (wr (i_42 468 x6_42 + 1))) ((sR_wr _)) ((okI_st hi_42 ((sR_wr _)))) h
  refine V.pick [3, 1, 0] rfl ?_
  exact lp42 n22 (wr (i 464 p1 + v10)) i ((sR_wr _)) hi h
set_option maxRecDepth 100000 in
set_option maxHeartbeats 4000000 in
theorem sm_X9_mostWaiting (l : Launch) (Δ : Wd) {i r : MI}   {Q : Int → MI → Prop} (hi : okI i) (hw : Wf r) (h : wp_X9_mostWaiting  i r Q) : Met l yX9_mostWaiting (Cond.code yX9_mostWaiting cX9_mostWaiting 5 (some .int) :: gW) (sRm 3 77) (sPc Δ [.ref (sA Δ 461), .ref (sA Δ 67)] i r) (sQi Δ (fun x i' r' => r = r' ∧ Q x i')) 0 0 (sFr Δ) := by
  refine Ct.i (ty := .int) (by decide) rfl (Nat.le_of_ble_eq_true rfl) (fun Γ Q0 hG fin => ?_)
  have hG : okG Γ Δ l (sRm 3 77) cX9_mostWaiting "Schedulary$Steps" 5 := hG
  show V Γ Δ 542 false i r 0 0 Q0 0 [(0, .ref (sA Δ 461)), (1, .ref (sA Δ 67))] []
  refine V.aload_n (pc := 0) hG dX9_mostWaiting_0 rfl 1 rfl ?_
  refine V.aload_n (pc := 1) hG dX9_mostWaiting_1 rfl 0 rfl ?_
  refine V.getR (x := 464) (pc := 2) (ci := 11) (k := 2) (M := 7) (T := TX9) (o := 461) (kz := 2) hG a_461 a_461.n (by decide) hin_X9 rfl (by decide) (by decide) rfl kw_476 rfl ((hw).1 (461, 2, 464) (by decide)) (by decide) dX9_mostWaiting_2 ?_
  refine V.callVNi (pc := 5) (As := [.ref (sA Δ 464)]) (stk := []) hG (sm_X0_endOf l Δ a_464 hi hw h) mY_X0_endOf kw_961 kw_963 kw_56 a_67 (by decide) (q := (RX0, TX0, 5)) rfl rfl ⟨Nat.le_of_ble_eq_true rfl, Nat.le_of_ble_eq_true rfl, Nat.le_of_ble_eq_true rfl, Nat.le_of_ble_eq_true rfl⟩ rfl (Nat.le_of_ble_eq_true rfl) dX9_mostWaiting_5 rfl (fun v1 i2 r3 hv4 hi5 hw6 hq7 => ?_)
  obtain ⟨e86, e87, h⟩ := hq7
  subst e86
  subst e87
  refine V.sipush (pc := 8) hG dX9_mostWaiting_8 (by decide) ?_
  refine V.mmin (pc := 11) hG hv4 ((sR_l rfl)) kw_968 kw_683 kw_173 kw_min ⟨Nat.le_of_ble_eq_true rfl, Nat.le_of_ble_eq_true rfl, Nat.le_of_ble_eq_true rfl, Nat.le_of_ble_eq_true rfl⟩ dX9_mostWaiting_11 ?_
  refine V.istore_n (pc := 14) (lv' := [(2, .int (sJ (min v1 481))), (0, .ref (sA Δ 461)), (1, .ref (sA Δ 67))]) hG dX9_mostWaiting_14 rfl (by decide) rfl ?_
  refine V.iconst (pc := 15) hG dX9_mostWaiting_15 ?_
  refine V.istore_n (pc := 16) (lv' := [(3, .int (sJ 0)), (2, .int (sJ (min v1 481))), (0, .ref (sA Δ 461)), (1, .ref (sA Δ 67))]) hG dX9_mostWaiting_16 rfl (by decide) rfl ?_
  obtain ⟨n59, h⟩ := h
  have lp17 : ∀ (m17 : Nat) (x3_17 : Int) (i_17 : MI), sR x3_17 → okI i_17 → LoopP (b17_X9_mostWaiting (min v1 481) r Q) m17 (x3_17, i_17) → V Γ Δ 542 false i_17 r 0 0 Q0 17 [(0, .ref (sA Δ 461)), (1, .ref (sA Δ 67)), (2, .int (sJ (min v1 481))), (3, .int (sJ x3_17))] [] := by
    intro m17
    induction m17 with
    | zero => intro x3_17 i_17 hx3_17 hi_17 h; exact h.elim
    | succ m17 ih17 =>
      intro x3_17 i_17 hx3_17 hi_17 h
      have h := LoopP_succ h
      refine V.iload_n (pc := 17) hG dX9_mostWaiting_17 rfl 3 rfl ?_
      refine V.iload_n (pc := 18) hG dX9_mostWaiting_18 rfl 2 rfl ?_
      obtain ⟨t61, f62⟩ := h
      refine V.icmp_ge (pc := 19) (tgt := 35) hG hx3_17 ((sR_min hv4 ((sR_l rfl)))) dX9_mostWaiting_19 (by decide) (fun c60 => ?_) (fun c60 => ?_)
      · have h := t61 c60
        clear t61 f62
        refine V.iconst (pc := 35) hG dX9_mostWaiting_35 ?_
        refine V.istore_n (pc := 36) (lv' := [(3, .int (sJ 0)), (0, .ref (sA Δ 461)), (1, .ref (sA Δ 67)), (2, .int (sJ (min v1 481)))]) hG dX9_mostWaiting_36 rfl (by decide) rfl ?_
        obtain ⟨n63, h⟩ := h
        have lp37 : ∀ (m37 : Nat) (x3_37 : Int) (i_37 : MI), sR x3_37 → okI i_37 → LoopP (b37_X9_mostWaiting (min v1 481) r Q) m37 (x3_37, i_37) → V Γ Δ 542 false i_37 r 0 0 Q0 37 [(0, .ref (sA Δ 461)), (1, .ref (sA Δ 67)), (2, .int (sJ (min v1 481))), (3, .int (sJ x3_37))] [] := by
          intro m37
          induction m37 with
          | zero => intro x3_37 i_37 hx3_37 hi_37 h; exact h.elim
          | succ m37 ih37 =>
            intro x3_37 i_37 hx3_37 hi_37 h
            have h := LoopP_succ h
            have jn65 : ∀ (x3j65 : Int) (ij65 : MI), sR x3j65 → okI ij65 → s65_X9_mostWaiting (min v1 481) x3j65 ij65 r Q (LoopP (b37_X9_mostWaiting (min v1 481) r Q) m37) → V Γ Δ 542 false ij65 r 0 0 Q0 65 [(0, .ref (sA Δ 461)), (1, .ref (sA Δ 67)), (2, .int (sJ (min v1 481))), (3, .int (sJ x3j65))] [] := by
              intro x3j65 ij65 hx3j65 hij65 h
              refine V.iinc (pc := 65) (lv' := [(3, .int (sJ (wr (x3j65 + 1)))), (0, .ref (sA Δ 461)), (1, .ref (sA Δ 67)), (2, .int (sJ (min v1 481)))]) hG dX9_mostWaiting_65 3 rfl (by decide) rfl ?_
              refine V.goto (pc := 68) (tgt := 37) hG dX9_mostWaiting_68 (by decide) ?_
              refine V.pick [1, 2, 3, 0] rfl ?_
              exact ih37 (wr (x3j65 + 1)) ij65 ((sR_wr _)) hij65 h
            refine V.iload_n (pc := 37) hG dX9_mostWaiting_37 rfl 3 rfl ?_
            refine V.aload_n (pc := 38) hG dX9_mostWaiting_38 rfl 1 rfl ?_
            refine V.getIN (pc := 39) (ci := 2) (k := 4) (M := 5) (T := TX0) (o := 67) (kz := 4) hG a_67 a_67.n (by decide) hin_X0 rfl (by decide) (by decide) rfl kw_418 rfl dX9_mostWaiting_39 ?_
            obtain ⟨t65, f66⟩ := h
            refine V.icmp_ge (pc := 42) (tgt := 71) hG hx3_37 ((hi_37 _ _)) dX9_mostWaiting_42 (by decide) (fun c64 => ?_) (fun c64 => ?_)
            · have h := t65 c64
              clear t65 f66
              refine V.iconst (pc := 71) hG dX9_mostWaiting_71 ?_
              refine V.istore_n (pc := 72) (lv' := [(3, .int (sJ 0)), (0, .ref (sA Δ 461)), (1, .ref (sA Δ 67)), (2, .int (sJ (min v1 481)))]) hG dX9_mostWaiting_72 rfl (by decide) rfl ?_
              refine V.iconst (pc := 73) hG dX9_mostWaiting_73 ?_
              refine V.istore (pc := 74) (lv' := [(4, .int (sJ 0)), (3, .int (sJ 0)), (0, .ref (sA Δ 461)), (1, .ref (sA Δ 67)), (2, .int (sJ (min v1 481)))]) hG dX9_mostWaiting_74 (by decide) rfl ?_
              obtain ⟨n67, h⟩ := h
              have lp76 : ∀ (m76 : Nat) (x3_76 : Int) (x4_76 : Int), sR x3_76 → sR x4_76 → LoopP (b76_X9_mostWaiting (min v1 481) i_37 r Q) m76 (x3_76, x4_76) → V Γ Δ 542 false i_37 r 0 0 Q0 76 [(0, .ref (sA Δ 461)), (2, .int (sJ (min v1 481))), (3, .int (sJ x3_76)), (4, .int (sJ x4_76))] [] := by
                intro m76
                induction m76 with
                | zero => intro x3_76 x4_76 hx3_76 hx4_76 h; exact h.elim
                | succ m76 ih76 =>
                  intro x3_76 x4_76 hx3_76 hx4_76 h
                  have h := LoopP_succ h
                  refine V.iload (pc := 76) hG dX9_mostWaiting_76 3 rfl ?_
                  refine V.iload_n (pc := 78) hG dX9_mostWaiting_78 rfl 1 rfl ?_
                  obtain ⟨t69, f70⟩ := h
                  refine V.icmp_ge (pc := 79) (tgt := 100) hG hx4_76 ((sR_min hv4 ((sR_l rfl)))) dX9_mostWaiting_79 (by decide) (fun c68 => ?_) (fun c68 => ?_)
                  · have h := t69 c68
                    clear t69 f70
                    refine V.iload_n (pc := 100) hG dX9_mostWaiting_100 rfl 2 rfl ?_
                    exact fin dX9_mostWaiting_101 hx3_76 rfl hi_37 hw ⟨rfl, h⟩
                  · have h := f70 c68
                    clear t69 f70
                    refine V.iload_n (pc := 82) hG dX9_mostWaiting_82 rfl 2 rfl ?_
                    refine V.aload_n (pc := 83) hG dX9_mostWaiting_83 rfl 0 rfl ?_
                    refine V.getR (x := 468) (pc := 84) (ci := 11) (k := 6) (M := 7) (T := TX9) (o := 461) (kz := 6) hG a_461 a_461.n (by decide) hin_X9 rfl (by decide) (by decide) rfl kw_481 rfl ((hw).1 (461, 6, 468) (by decide)) (by decide) dX9_mostWaiting_84 ?_
                    refine V.iload (pc := 87) hG dX9_mostWaiting_87 3 rfl ?_
                    obtain ⟨g71, h⟩ := h
                    refine V.iald (pc := 89) (z := 481) (o := 468) hG a_468 a_468.n hx4_76 g71 dX9_mostWaiting_89 ?_
                    refine V.mmax (pc := 90) hG hx3_76 ((hi_37 _ _)) kw_956 kw_680 kw_173 kw_max ⟨Nat.le_of_ble_eq_true rfl, Nat.le_of_ble_eq_true rfl, Nat.le_of_ble_eq_true rfl, Nat.le_of_ble_eq_true rfl⟩ dX9_mostWaiting_90 ?_
                    refine V.istore_n (pc := 93) (lv' := [(3, .int (sJ (max x3_76 (i_37 468 x4_76)))), (0, .ref (sA Δ 461)), (2, .int (sJ (min v1 481))), (4, .int (sJ x4_76))]) hG dX9_mostWaiting_93 rfl (by decide) rfl ?_
                    refine V.iinc (pc := 94) (lv' := [(4, .int (sJ (wr (x4_76 + 1)))), (3, .int (sJ (max x3_76 (i_37 468 x4_76)))), (0, .ref (sA Δ 461)), (2, .int (sJ (min v1 481)))]) hG dX9_mostWaiting_94 3 rfl (by decide) rfl ?_
                    refine V.goto (pc := 97) (tgt := 76) hG dX9_mostWaiting_97 (by decide) ?_
                    refine V.pick [2, 3, 1, 0] rfl ?_
                    exact ih76 (max x3_76 (i_37 468 x4_76)) (wr (x4_76 + 1)) ((sR_max hx3_76 ((hi_37 _ _)))) ((sR_wr _)) h
              refine V.pick [2, 4, 1, 0] rfl ?_
              exact lp76 n67 0 0 ((sR_l rfl)) ((sR_l rfl)) h
            · have h := f66 c64
              clear t65 f66
              refine V.aload_n (pc := 45) hG dX9_mostWaiting_45 rfl 1 rfl ?_
              refine V.getRN (x := 68) (pc := 46) (ci := 2) (k := 0) (M := 5) (T := TX0) (o := 67) (kz := 0) hG a_67 a_67.n (by decide) hin_X0 rfl (by decide) (by decide) rfl kw_406 rfl ((hw).1 (67, 0, 68) (by decide)) (by decide) dX9_mostWaiting_46 ?_
              refine V.iload_n (pc := 49) hG dX9_mostWaiting_49 rfl 3 rfl ?_
              obtain ⟨g72, h⟩ := h
              refine V.aald (pc := 50) 6 (z := 96) (o := 68) (x := x3_37) (y := 72 + x3_37) hG a_68 a_68.n (by decide) hx3_37 g72 (hw.2.1 (68, 96, 72) (by decide) _ g72.1 g72.2) (by omega) dX9_mostWaiting_50 ?_
              refine V.getIN (pc := 51) (ci := 5) (k := 8) (M := 13) (T := TX3) (o := 72 + x3_37) (kz := 8) hG (node_o g72.1 g72.2) ((node_o g72.1 g72.2)).n (by decide) hin_X3 rfl (by decide) (by decide) rfl kw_363 rfl dX9_mostWaiting_51 ?_
              refine V.iconst (pc := 54) hG dX9_mostWaiting_54 ?_
              obtain ⟨t74, f75⟩ := h
              refine V.icmp_eq (pc := 55) (tgt := 65) hG ((hi_37 _ _)) ((sR_l rfl)) dX9_mostWaiting_55 (by decide) (fun c73 => ?_) (fun c73 => ?_)
              · have h := t74 c73
                clear t74 f75
                exact jn65 x3_37 i_37 hx3_37 hi_37 h
              · have h := f75 c73
                clear t74 f75
                refine V.aload_n (pc := 58) hG dX9_mostWaiting_58 rfl 0 rfl ?_
                refine V.iload_n (pc := 59) hG dX9_mostWaiting_59 rfl 3 rfl ?_
                refine V.aload_n (pc := 60) hG dX9_mostWaiting_60 rfl 1 rfl ?_
                refine V.iload_n (pc := 61) hG dX9_mostWaiting_61 rfl 2 rfl ?_
                refine V.callVv (pc := 62) (As := [.int (sJ x3_37), .ref (sA Δ 67), .int (sJ (min v1 481))]) (stk := []) hG (sm_X9_waitFor l Δ hx3_37 ((sR_min hv4 ((sR_l rfl)))) hi_37 hw h) mY_X9_waitFor kw_1097 kw_1099 kw_80 a_461 (by decide) (q := (RX9, TX9, 7)) rfl rfl ⟨Nat.le_of_ble_eq_true rfl, Nat.le_of_ble_eq_true rfl, Nat.le_of_ble_eq_true rfl, Nat.le_of_ble_eq_true rfl⟩ rfl (Nat.le_of_ble_eq_true rfl) dX9_mostWaiting_62 rfl (fun i77 r78 hi80 hw81 hq82 => ?_)
                obtain ⟨e84, h⟩ := hq82
                subst e84
                exact jn65 x3_37 i77 hx3_37 hi80 h
        refine V.pick [1, 2, 3, 0] rfl ?_
        exact lp37 n63 0 i_17 ((sR_l rfl)) hi_17 h
      · have h := f62 c60
        clear t61 f62
        refine V.aload_n (pc := 22) hG dX9_mostWaiting_22 rfl 0 rfl ?_
        refine V.getR (x := 468) (pc := 23) (ci := 11) (k := 6) (M := 7) (T := TX9) (o := 461) (kz := 6) hG a_461 a_461.n (by decide) hin_X9 rfl (by decide) (by decide) rfl kw_481 rfl ((hw).1 (461, 6, 468) (by decide)) (by decide) dX9_mostWaiting_23 ?_
        refine V.iload_n (pc := 26) hG dX9_mostWaiting_26 rfl 3 rfl ?_
        refine V.iconst (pc := 27) hG dX9_mostWaiting_27 ?_
        obtain ⟨g85, h⟩ := h
        refine V.iast (pc := 28) (z := 481) (o := 468) hG a_468 a_468.n hx3_17 g85 dX9_mostWaiting_28 ?_
        refine V.iinc (pc := 29) (lv' := [(3, .int (sJ (wr (x3_17 + 1)))), (0, .ref (sA Δ 461)), (1, .ref (sA Δ 67)), (2, .int (sJ (min v1 481)))]) hG dX9_mostWaiting_29 3 rfl (by decide) rfl ?_
        refine V.goto (pc := 32) (tgt := 17) hG dX9_mostWaiting_32 (by decide) ?_
        refine V.pick [1, 2, 3, 0] rfl ?_
        exact ih17 (wr (x3_17 + 1)) (st i_17 468 x3_17 0) ((sR_wr _)) ((okI_st hi_17 ((sR_l rfl)))) h
  refine V.pick [2, 3, 1, 0] rfl ?_
  exact lp17 n59 0 i ((sR_l rfl)) hi h
set_option maxRecDepth 100000 in
set_option maxHeartbeats 4000000 in
theorem sm_X11_waiting (l : Launch) (Δ : Wd) {i r : MI}   {Q : Int → MI → MI → Prop} (hi : okI i) (hw : Wf r) (h : wp_X11_waiting  i r Q) : Met l yX11_waiting (Cond.code yX11_waiting cX11_waiting 1 (some .int) :: gW) (sRm 6 145) (sPc Δ [.ref (sA Δ 0)] i r) (sQi Δ (Q)) 0 0 (sFr Δ) := by
  refine Ct.i (ty := .int) (by decide) rfl (Nat.le_of_ble_eq_true rfl) (fun Γ Q0 hG fin => ?_)
  have hG : okG Γ Δ l (sRm 6 145) cX11_waiting "Schedulary" 1 := hG
  show V Γ Δ 542 false i r 0 0 Q0 0 [(0, .ref (sA Δ 0))] []
  refine V.aload_n (pc := 0) hG dX11_waiting_0 rfl 0 rfl ?_
  refine V.iconst (pc := 1) hG dX11_waiting_1 ?_
  refine V.callVv (pc := 2) (As := [.int (sJ 3)]) (stk := []) hG (sm_X11_prepare l Δ ((sR_l rfl)) hi hw h) mY_X11_prepare kw_830 kw_832 kw_26 a_0 (by decide) (q := (RX11, TX11, 11)) rfl rfl ⟨Nat.le_of_ble_eq_true rfl, Nat.le_of_ble_eq_true rfl, Nat.le_of_ble_eq_true rfl, Nat.le_of_ble_eq_true rfl⟩ rfl (Nat.le_of_ble_eq_true rfl) dX11_waiting_2 rfl (fun i2 r3 hi5 hw6 hq7 => ?_)
  have h := hq7
  refine V.aload_n (pc := 5) hG dX11_waiting_5 rfl 0 rfl ?_
  refine V.getR (x := 461) (pc := 6) (ci := 13) (k := 5) (M := 11) (T := TX11) (o := 0) (kz := 5) hG a_0 a_0.n (by decide) hin_X11 rfl (by decide) (by decide) rfl kw_581 rfl ((hw6).1 (0, 5, 461) (by decide)) (by decide) dX11_waiting_6 ?_
  refine V.aload_n (pc := 9) hG dX11_waiting_9 rfl 0 rfl ?_
  refine V.getR (x := 67) (pc := 10) (ci := 13) (k := 3) (M := 11) (T := TX11) (o := 0) (kz := 3) hG a_0 a_0.n (by decide) hin_X11 rfl (by decide) (by decide) rfl kw_579 rfl ((hw6).1 (0, 3, 67) (by decide)) (by decide) dX11_waiting_10 ?_
  refine V.callVNi (pc := 13) (As := [.ref (sA Δ 67)]) (stk := []) hG (sm_X9_mostWaiting l Δ  hi5 hw6 h) mY_X9_mostWaiting kw_1093 kw_1095 kw_79 a_461 (by decide) (q := (RX9, TX9, 7)) rfl rfl ⟨Nat.le_of_ble_eq_true rfl, Nat.le_of_ble_eq_true rfl, Nat.le_of_ble_eq_true rfl, Nat.le_of_ble_eq_true rfl⟩ rfl (Nat.le_of_ble_eq_true rfl) dX11_waiting_13 rfl (fun v8 i9 r10 hv11 hi12 hw13 hq14 => ?_)
  obtain ⟨e16, h⟩ := hq14
  subst e16
  exact fin dX11_waiting_16 hv11 rfl hi12 hw6 h
set_option maxRecDepth 100000 in
set_option maxHeartbeats 4000000 in
theorem sm_X11_byRings (l : Launch) (Δ : Wd) {i r : MI}   {Q : Int → MI → MI → Prop} (hi : okI i) (hw : Wf r) (h : wp_X11_byRings  i r Q) : Met l yX11_byRings (Cond.code yX11_byRings cX11_byRings 1 (some .int) :: gW) (sRm 6 145) (sPc Δ [.ref (sA Δ 0)] i r) (sQi Δ (Q)) 0 0 (sFr Δ) := by
  refine Ct.i (ty := .int) (by decide) rfl (Nat.le_of_ble_eq_true rfl) (fun Γ Q0 hG fin => ?_)
  have hG : okG Γ Δ l (sRm 6 145) cX11_byRings "Schedulary" 1 := hG
  show V Γ Δ 542 false i r 0 0 Q0 0 [(0, .ref (sA Δ 0))] []
  refine V.aload_n (pc := 0) hG dX11_byRings_0 rfl 0 rfl ?_
  refine V.iconst (pc := 1) hG dX11_byRings_1 ?_
  refine V.callVv (pc := 2) (As := [.int (sJ 4)]) (stk := []) hG (sm_X11_prepare l Δ ((sR_l rfl)) hi hw h) mY_X11_prepare kw_830 kw_832 kw_26 a_0 (by decide) (q := (RX11, TX11, 11)) rfl rfl ⟨Nat.le_of_ble_eq_true rfl, Nat.le_of_ble_eq_true rfl, Nat.le_of_ble_eq_true rfl, Nat.le_of_ble_eq_true rfl⟩ rfl (Nat.le_of_ble_eq_true rfl) dX11_byRings_2 rfl (fun i2 r3 hi5 hw6 hq7 => ?_)
  have h := hq7
  refine V.aload_n (pc := 5) hG dX11_byRings_5 rfl 0 rfl ?_
  refine V.getR (x := 469) (pc := 6) (ci := 13) (k := 6) (M := 11) (T := TX11) (o := 0) (kz := 6) hG a_0 a_0.n (by decide) hin_X11 rfl (by decide) (by decide) rfl kw_582 rfl ((hw6).1 (0, 6, 469) (by decide)) (by decide) dX11_byRings_6 ?_
  refine V.getIN (pc := 9) (ci := 6) (k := 3) (M := 6) (T := TX4) (o := 469) (kz := 3) hG a_469 a_469.n (by decide) hin_X4 rfl (by decide) (by decide) rfl kw_510 rfl dX11_byRings_9 ?_
  exact fin dX11_byRings_12 ((hi5 _ _)) rfl hi5 hw6 h
set_option maxRecDepth 100000 in
set_option maxHeartbeats 4000000 in
theorem sm_X11_byUnits (l : Launch) (Δ : Wd) {i r : MI}   {Q : Int → MI → MI → Prop} (hi : okI i) (hw : Wf r) (h : wp_X11_byUnits  i r Q) : Met l yX11_byUnits (Cond.code yX11_byUnits cX11_byUnits 1 (some .int) :: gW) (sRm 6 145) (sPc Δ [.ref (sA Δ 0)] i r) (sQi Δ (Q)) 0 0 (sFr Δ) := by
  refine Ct.i (ty := .int) (by decide) rfl (Nat.le_of_ble_eq_true rfl) (fun Γ Q0 hG fin => ?_)
  have hG : okG Γ Δ l (sRm 6 145) cX11_byUnits "Schedulary" 1 := hG
  show V Γ Δ 542 false i r 0 0 Q0 0 [(0, .ref (sA Δ 0))] []
  refine V.aload_n (pc := 0) hG dX11_byUnits_0 rfl 0 rfl ?_
  refine V.iconst (pc := 1) hG dX11_byUnits_1 ?_
  refine V.callVv (pc := 2) (As := [.int (sJ 4)]) (stk := []) hG (sm_X11_prepare l Δ ((sR_l rfl)) hi hw h) mY_X11_prepare kw_830 kw_832 kw_26 a_0 (by decide) (q := (RX11, TX11, 11)) rfl rfl ⟨Nat.le_of_ble_eq_true rfl, Nat.le_of_ble_eq_true rfl, Nat.le_of_ble_eq_true rfl, Nat.le_of_ble_eq_true rfl⟩ rfl (Nat.le_of_ble_eq_true rfl) dX11_byUnits_2 rfl (fun i2 r3 hi5 hw6 hq7 => ?_)
  have h := hq7
  refine V.aload_n (pc := 5) hG dX11_byUnits_5 rfl 0 rfl ?_
  refine V.getR (x := 469) (pc := 6) (ci := 13) (k := 6) (M := 11) (T := TX11) (o := 0) (kz := 6) hG a_0 a_0.n (by decide) hin_X11 rfl (by decide) (by decide) rfl kw_582 rfl ((hw6).1 (0, 6, 469) (by decide)) (by decide) dX11_byUnits_6 ?_
  refine V.getIN (pc := 9) (ci := 6) (k := 4) (M := 6) (T := TX4) (o := 469) (kz := 4) hG a_469 a_469.n (by decide) hin_X4 rfl (by decide) (by decide) rfl kw_512 rfl dX11_byUnits_9 ?_
  exact fin dX11_byUnits_12 ((hi5 _ _)) rfl hi5 hw6 h
set_option maxRecDepth 100000 in
set_option maxHeartbeats 4000000 in
theorem sm_X11_interval (l : Launch) (Δ : Wd) {i r : MI}   {Q : Int → MI → MI → Prop} (hi : okI i) (hw : Wf r) (h : wp_X11_interval  i r Q) : Met l yX11_interval (Cond.code yX11_interval cX11_interval 1 (some .int) :: gW) (sRm 6 145) (sPc Δ [.ref (sA Δ 0)] i r) (sQi Δ (Q)) 0 0 (sFr Δ) := by
  refine Ct.i (ty := .int) (by decide) rfl (Nat.le_of_ble_eq_true rfl) (fun Γ Q0 hG fin => ?_)
  have hG : okG Γ Δ l (sRm 6 145) cX11_interval "Schedulary" 1 := hG
  show V Γ Δ 542 false i r 0 0 Q0 0 [(0, .ref (sA Δ 0))] []
  refine V.aload_n (pc := 0) hG dX11_interval_0 rfl 0 rfl ?_
  refine V.iconst (pc := 1) hG dX11_interval_1 ?_
  refine V.callVv (pc := 2) (As := [.int (sJ 4)]) (stk := []) hG (sm_X11_prepare l Δ ((sR_l rfl)) hi hw h) mY_X11_prepare kw_830 kw_832 kw_26 a_0 (by decide) (q := (RX11, TX11, 11)) rfl rfl ⟨Nat.le_of_ble_eq_true rfl, Nat.le_of_ble_eq_true rfl, Nat.le_of_ble_eq_true rfl, Nat.le_of_ble_eq_true rfl⟩ rfl (Nat.le_of_ble_eq_true rfl) dX11_interval_2 rfl (fun i2 r3 hi5 hw6 hq7 => ?_)
  have h := hq7
  refine V.aload_n (pc := 5) hG dX11_interval_5 rfl 0 rfl ?_
  refine V.getR (x := 469) (pc := 6) (ci := 13) (k := 6) (M := 11) (T := TX11) (o := 0) (kz := 6) hG a_0 a_0.n (by decide) hin_X11 rfl (by decide) (by decide) rfl kw_582 rfl ((hw6).1 (0, 6, 469) (by decide)) (by decide) dX11_interval_6 ?_
  refine V.getIN (pc := 9) (ci := 6) (k := 5) (M := 6) (T := TX4) (o := 469) (kz := 5) hG a_469 a_469.n (by decide) hin_X4 rfl (by decide) (by decide) rfl kw_515 rfl dX11_interval_9 ?_
  exact fin dX11_interval_12 ((hi5 _ _)) rfl hi5 hw6 h
set_option maxRecDepth 100000 in
set_option maxHeartbeats 4000000 in
theorem sm_X4_findBinding (l : Launch) (Δ : Wd) {i r : MI}   {Q : Int → Prop} (hi : okI i) (hw : Wf r) (h : wp_X4_findBinding  i r Q) : Met l yX4_findBinding (Cond.code yX4_findBinding cX4_findBinding 3 (some .char) :: gW) (sRm 4 85) (sPc Δ [.ref (sA Δ 469), .ref (sA Δ 67)] i r) (sQi Δ (fun x i' r' => i = i' ∧ r = r' ∧ Q x)) 0 0 (sFr Δ) := by
  refine Ct.i (ty := .char) (by decide) rfl (Nat.le_of_ble_eq_true rfl) (fun Γ Q0 hG fin => ?_)
  have hG : okG Γ Δ l (sRm 4 85) cX4_findBinding "Schedulary$Pace" 3 := hG
  show V Γ Δ 542 false i r 0 0 Q0 0 [(0, .ref (sA Δ 469)), (1, .ref (sA Δ 67))] []
  have jn25 : s25_X4_findBinding i r Q → V Γ Δ 542 false i r 0 0 Q0 25 [] [] := by
    intro h
    refine V.bipush (pc := 25) hG dX4_findBinding_25 (by decide) ?_
    exact fin dX4_findBinding_27 ((sR_l rfl)) (nar_c (by decide)) hi hw ⟨rfl, rfl, h⟩
  refine V.aload_n (pc := 0) hG dX4_findBinding_0 rfl 1 rfl ?_
  refine V.getIN (pc := 1) (ci := 2) (k := 4) (M := 5) (T := TX0) (o := 67) (kz := 4) hG a_67 a_67.n (by decide) hin_X0 rfl (by decide) (by decide) rfl kw_419 rfl dX4_findBinding_1 ?_
  obtain ⟨t2, f3⟩ := h
  refine V.if_eq (pc := 4) (tgt := 25) hG ((hi _ _)) dX4_findBinding_4 (by decide) (fun c1 => ?_) (fun c1 => ?_)
  · have h := t2 c1
    clear t2 f3
    refine V.pick [] rfl ?_
    exact jn25 h
  · have h := f3 c1
    clear t2 f3
    refine V.aload_n (pc := 7) hG dX4_findBinding_7 rfl 0 rfl ?_
    refine V.getI (pc := 8) (ci := 6) (k := 5) (M := 6) (T := TX4) (o := 469) (kz := 5) hG a_469 a_469.n (by decide) hin_X4 rfl (by decide) (by decide) rfl kw_513 rfl dX4_findBinding_8 ?_
    refine V.aload_n (pc := 11) hG dX4_findBinding_11 rfl 0 rfl ?_
    refine V.getI (pc := 12) (ci := 6) (k := 3) (M := 6) (T := TX4) (o := 469) (kz := 3) hG a_469 a_469.n (by decide) hin_X4 rfl (by decide) (by decide) rfl kw_509 rfl dX4_findBinding_12 ?_
    refine V.aload_n (pc := 15) hG dX4_findBinding_15 rfl 0 rfl ?_
    refine V.getI (pc := 16) (ci := 6) (k := 4) (M := 6) (T := TX4) (o := 469) (kz := 4) hG a_469 a_469.n (by decide) hin_X4 rfl (by decide) (by decide) rfl kw_511 rfl dX4_findBinding_16 ?_
    refine V.mmax (pc := 19) hG ((hi _ _)) ((hi _ _)) kw_1001 kw_680 kw_173 kw_max ⟨Nat.le_of_ble_eq_true rfl, Nat.le_of_ble_eq_true rfl, Nat.le_of_ble_eq_true rfl, Nat.le_of_ble_eq_true rfl⟩ dX4_findBinding_19 ?_
    obtain ⟨t5, f6⟩ := h
    refine V.icmp_le (pc := 22) (tgt := 28) hG ((hi _ _)) ((sR_max ((hi _ _)) ((hi _ _)))) dX4_findBinding_22 (by decide) (fun c4 => ?_) (fun c4 => ?_)
    · have h := t5 c4
      clear t5 f6
      refine V.aload_n (pc := 28) hG dX4_findBinding_28 rfl 0 rfl ?_
      refine V.getI (pc := 29) (ci := 6) (k := 3) (M := 6) (T := TX4) (o := 469) (kz := 3) hG a_469 a_469.n (by decide) hin_X4 rfl (by decide) (by decide) rfl kw_509 rfl dX4_findBinding_29 ?_
      refine V.aload_n (pc := 32) hG dX4_findBinding_32 rfl 0 rfl ?_
      refine V.getI (pc := 33) (ci := 6) (k := 4) (M := 6) (T := TX4) (o := 469) (kz := 4) hG a_469 a_469.n (by decide) hin_X4 rfl (by decide) (by decide) rfl kw_511 rfl dX4_findBinding_33 ?_
      obtain ⟨t8, f9⟩ := h
      refine V.icmp_le (pc := 36) (tgt := 42) hG ((hi _ _)) ((hi _ _)) dX4_findBinding_36 (by decide) (fun c7 => ?_) (fun c7 => ?_)
      · have h := t8 c7
        clear t8 f9
        refine V.iconst (pc := 42) hG dX4_findBinding_42 ?_
        refine V.istore_n (pc := 43) (lv' := [(2, .int (sJ 0)), (0, .ref (sA Δ 469)), (1, .ref (sA Δ 67))]) hG dX4_findBinding_43 rfl (by decide) rfl ?_
        obtain ⟨n35, h⟩ := h
        have lp44 : ∀ (m44 : Nat) (x2_44 : Int), sR x2_44 → LoopP (b44_X4_findBinding i r Q) m44 (x2_44) → V Γ Δ 542 false i r 0 0 Q0 44 [(0, .ref (sA Δ 469)), (1, .ref (sA Δ 67)), (2, .int (sJ x2_44))] [] := by
          intro m44
          induction m44 with
          | zero => intro x2_44 hx2_44 h; exact h.elim
          | succ m44 ih44 =>
            intro x2_44 hx2_44 h
            have h := LoopP_succ h
            refine V.iload_n (pc := 44) hG dX4_findBinding_44 rfl 2 rfl ?_
            refine V.bipush (pc := 45) hG dX4_findBinding_45 (by decide) ?_
            obtain ⟨t37, f38⟩ := h
            refine V.icmp_ge (pc := 47) (tgt := 75) hG hx2_44 ((sR_l rfl)) dX4_findBinding_47 (by decide) (fun c36 => ?_) (fun c36 => ?_)
            · have h := t37 c36
              clear t37 f38
              refine V.bipush (pc := 75) hG dX4_findBinding_75 (by decide) ?_
              exact fin dX4_findBinding_77 ((sR_l rfl)) (nar_c (by decide)) hi hw ⟨rfl, rfl, h⟩
            · have h := f38 c36
              clear t37 f38
              refine V.aload_n (pc := 50) hG dX4_findBinding_50 rfl 1 rfl ?_
              refine V.iload_n (pc := 51) hG dX4_findBinding_51 rfl 2 rfl ?_
              refine V.callVNi (pc := 52) (As := [.int (sJ x2_44)]) (stk := []) hG (sm_X0_leastIntervalOf l Δ hx2_44 hi hw h) mY_X0_leastIntervalOf kw_1013 kw_1015 kw_67 a_67 (by decide) (q := (RX0, TX0, 5)) rfl rfl ⟨Nat.le_of_ble_eq_true rfl, Nat.le_of_ble_eq_true rfl, Nat.le_of_ble_eq_true rfl, Nat.le_of_ble_eq_true rfl⟩ rfl (Nat.le_of_ble_eq_true rfl) dX4_findBinding_52 rfl (fun v39 i40 r41 hv42 hi43 hw44 hq45 => ?_)
              obtain ⟨e59, e60, h⟩ := hq45
              subst e59
              subst e60
              refine V.aload_n (pc := 55) hG dX4_findBinding_55 rfl 0 rfl ?_
              refine V.getI (pc := 56) (ci := 6) (k := 4) (M := 6) (T := TX4) (o := 469) (kz := 4) hG a_469 a_469.n (by decide) hin_X4 rfl (by decide) (by decide) rfl kw_511 rfl dX4_findBinding_56 ?_
              obtain ⟨f48, t47⟩ := h
              refine V.icmp_ne (pc := 59) (tgt := 69) hG hv42 ((hi _ _)) dX4_findBinding_59 (by decide) (fun c46 => ?_) (fun c46 => ?_)
              · have h := t47 c46
                clear t47 f48
                refine V.iinc (pc := 69) (lv' := [(2, .int (sJ (wr (x2_44 + 1)))), (0, .ref (sA Δ 469)), (1, .ref (sA Δ 67))]) hG dX4_findBinding_69 2 rfl (by decide) rfl ?_
                refine V.goto (pc := 72) (tgt := 44) hG dX4_findBinding_72 (by decide) ?_
                refine V.pick [1, 2, 0] rfl ?_
                exact ih44 (wr (x2_44 + 1)) ((sR_wr _)) h
              · have h := f48 c46
                clear t47 f48
                refine V.ldcS (pc := 62) (k := 3) (tx := "amgMN<>") hG (by decide) dX4_findBinding_62 ?_
                refine V.iload_n (pc := 64) hG dX4_findBinding_64 rfl 2 rfl ?_
                refine V.callVSi (pc := 65) (As := [.int (sJ x2_44)]) (stk := []) hG (sm_J0_charAt_5068e l Δ (by decide) hx2_44 hi hw h) mY_J0_charAt_5068e kw_1128 kw_1129 kw_1130 (by decide) rfl ⟨Nat.le_of_ble_eq_true rfl, Nat.le_of_ble_eq_true rfl, Nat.le_of_ble_eq_true rfl, Nat.le_of_ble_eq_true rfl⟩ rfl (Nat.le_of_ble_eq_true rfl) dX4_findBinding_65 rfl (fun v49 i50 r51 hv52 hi53 hw54 hq55 => ?_)
                obtain ⟨e57, e58, h⟩ := hq55
                subst e57
                subst e58
                obtain ⟨g56, h⟩ := h
                exact fin dX4_findBinding_68 hv52 (nar_c g56) hi hw ⟨rfl, rfl, h⟩
        refine V.pick [1, 2, 0] rfl ?_
        exact lp44 n35 0 ((sR_l rfl)) h
      · have h := f9 c7
        clear t8 f9
        refine V.bipush (pc := 39) hG dX4_findBinding_39 (by decide) ?_
        exact fin dX4_findBinding_41 ((sR_l rfl)) (nar_c (by decide)) hi hw ⟨rfl, rfl, h⟩
    · have h := f6 c4
      clear t5 f6
      refine V.pick [] rfl ?_
      exact jn25 h
set_option maxRecDepth 100000 in
set_option maxHeartbeats 4000000 in
theorem sm_X11_binds (l : Launch) (Δ : Wd) {i r : MI}   {Q : Int → MI → MI → Prop} (hi : okI i) (hw : Wf r) (h : wp_X11_binds  i r Q) : Met l yX11_binds (Cond.code yX11_binds cX11_binds 1 (some .char) :: gW) (sRm 6 145) (sPc Δ [.ref (sA Δ 0)] i r) (sQi Δ (Q)) 0 0 (sFr Δ) := by
  refine Ct.i (ty := .char) (by decide) rfl (Nat.le_of_ble_eq_true rfl) (fun Γ Q0 hG fin => ?_)
  have hG : okG Γ Δ l (sRm 6 145) cX11_binds "Schedulary" 1 := hG
  show V Γ Δ 542 false i r 0 0 Q0 0 [(0, .ref (sA Δ 0))] []
  refine V.aload_n (pc := 0) hG dX11_binds_0 rfl 0 rfl ?_
  refine V.iconst (pc := 1) hG dX11_binds_1 ?_
  refine V.callVv (pc := 2) (As := [.int (sJ 4)]) (stk := []) hG (sm_X11_prepare l Δ ((sR_l rfl)) hi hw h) mY_X11_prepare kw_830 kw_832 kw_26 a_0 (by decide) (q := (RX11, TX11, 11)) rfl rfl ⟨Nat.le_of_ble_eq_true rfl, Nat.le_of_ble_eq_true rfl, Nat.le_of_ble_eq_true rfl, Nat.le_of_ble_eq_true rfl⟩ rfl (Nat.le_of_ble_eq_true rfl) dX11_binds_2 rfl (fun i2 r3 hi5 hw6 hq7 => ?_)
  have h := hq7
  refine V.aload_n (pc := 5) hG dX11_binds_5 rfl 0 rfl ?_
  refine V.getR (x := 469) (pc := 6) (ci := 13) (k := 6) (M := 11) (T := TX11) (o := 0) (kz := 6) hG a_0 a_0.n (by decide) hin_X11 rfl (by decide) (by decide) rfl kw_582 rfl ((hw6).1 (0, 6, 469) (by decide)) (by decide) dX11_binds_6 ?_
  refine V.aload_n (pc := 9) hG dX11_binds_9 rfl 0 rfl ?_
  refine V.getR (x := 67) (pc := 10) (ci := 13) (k := 3) (M := 11) (T := TX11) (o := 0) (kz := 3) hG a_0 a_0.n (by decide) hin_X11 rfl (by decide) (by decide) rfl kw_579 rfl ((hw6).1 (0, 3, 67) (by decide)) (by decide) dX11_binds_10 ?_
  refine V.callVNi (pc := 13) (As := [.ref (sA Δ 67)]) (stk := []) hG (sm_X4_findBinding l Δ  hi5 hw6 h) mY_X4_findBinding kw_1123 kw_1125 kw_82 a_469 (by decide) (q := (RX4, TX4, 6)) rfl rfl ⟨Nat.le_of_ble_eq_true rfl, Nat.le_of_ble_eq_true rfl, Nat.le_of_ble_eq_true rfl, Nat.le_of_ble_eq_true rfl⟩ rfl (Nat.le_of_ble_eq_true rfl) dX11_binds_13 rfl (fun v8 i9 r10 hv11 hi12 hw13 hq14 => ?_)
  obtain ⟨e16, e17, h⟩ := hq14
  subst e16
  subst e17
  obtain ⟨g15, h⟩ := h
  exact fin dX11_binds_16 hv11 (nar_c g15) hi5 hw6 h
set_option maxRecDepth 100000 in
set_option maxHeartbeats 4000000 in
theorem sm_X11_place (l : Launch) (Δ : Wd) {i r : MI} {p1 : Int} (hp1 : sR p1) {Q : Int → MI → MI → Prop} {X : String → MI → MI → Prop} (hst : l.stackTraces = false) (hi : okI i) (hw : Wf r) (h : wp_X11_place p1 i r Q X) : vx_Met l yX11_place (Cond.code yX11_place cX11_place 2 (some .int) :: gW) (sRx 7 145 1 6) (sPc Δ [.ref (sA Δ 0), .int (sJ p1)] i r) (sQi Δ (Q)) (sX Δ (X)) 1 6 (sFr Δ) := by
  refine Cx.i (ty := .int) (by decide) rfl (Nat.le_of_ble_eq_true rfl) hst (by decide) (by decide) (fun Γ Q0 hG fin xout xthr => ?_)
  have hG : okG Γ Δ l (sRx 7 145 1 6) cX11_place "Schedulary" 2 := hG
  show V Γ Δ 542 false i r 0 0 Q0 0 [(0, .ref (sA Δ 0)), (1, .int (sJ p1))] []
  refine V.aload_n (pc := 0) hG dX11_place_0 rfl 0 rfl ?_
  refine V.iconst (pc := 1) hG dX11_place_1 ?_
  refine V.callVv (pc := 2) (As := [.int (sJ 4)]) (stk := []) hG (sm_X11_prepare l Δ ((sR_l rfl)) hi hw h) mY_X11_prepare kw_830 kw_832 kw_26 a_0 (by decide) (q := (RX11, TX11, 11)) rfl rfl ⟨Nat.le_of_ble_eq_true rfl, Nat.le_of_ble_eq_true rfl, Nat.le_of_ble_eq_true rfl, Nat.le_of_ble_eq_true rfl⟩ rfl (Nat.le_of_ble_eq_true rfl) dX11_place_2 rfl (fun i2 r3 hi5 hw6 hq7 => ?_)
  have h := hq7
  refine V.aload_n (pc := 5) hG dX11_place_5 rfl 0 rfl ?_
  refine V.iload_n (pc := 6) hG dX11_place_6 rfl 1 rfl ?_
  refine V.xcallVv (pc := 7) (As := [.int (sJ p1)]) (stk := []) hG (sm_X11_checkNode l Δ hp1 hst hi5 hw6 h) mY_X11_checkNode kw_1528 kw_1530 kw_102 a_0 (by decide) (q := (RX11, TX11, 11)) rfl rfl ⟨Nat.le_of_ble_eq_true rfl, Nat.le_of_ble_eq_true rfl, Nat.le_of_ble_eq_true rfl, Nat.le_of_ble_eq_true rfl⟩ rfl (Nat.le_of_ble_eq_true rfl) dX11_place_7 rfl (fun z17 z18 z19 z20 z21 z22 => ?_) (fun i9 r10 hi12 hw13 hq14 => ?_)
  · obtain ⟨e23, e24, h⟩ := z22
    subst e23
    subst e24
    exact xout (by decide) (by decide) hi5 hw6 h
  · obtain ⟨e25, e26, h⟩ := hq14
    subst e25
    subst e26
    refine V.aload_n (pc := 10) hG dX11_place_10 rfl 0 rfl ?_
    refine V.getR (x := 469) (pc := 11) (ci := 13) (k := 6) (M := 11) (T := TX11) (o := 0) (kz := 6) hG a_0 a_0.n (by decide) hin_X11 rfl (by decide) (by decide) rfl kw_582 rfl ((hw6).1 (0, 6, 469) (by decide)) (by decide) dX11_place_11 ?_
    refine V.getRN (x := 470) (pc := 14) (ci := 6) (k := 0) (M := 6) (T := TX4) (o := 469) (kz := 0) hG a_469 a_469.n (by decide) hin_X4 rfl (by decide) (by decide) rfl kw_506 rfl ((hw6).1 (469, 0, 470) (by decide)) (by decide) dX11_place_14 ?_
    refine V.iload_n (pc := 17) hG dX11_place_17 rfl 1 rfl ?_
    obtain ⟨g16, h⟩ := h
    refine V.iald (pc := 18) (z := 96) (o := 470) hG a_470 a_470.n hp1 g16 dX11_place_18 ?_
    exact fin dX11_place_19 ((hi5 _ _)) rfl (by decide) (by decide) hi5 hw6 h
set_option maxRecDepth 100000 in
set_option maxHeartbeats 4000000 in
theorem sm_X11_cycles (l : Launch) (Δ : Wd) {i r : MI}   {Q : Int → MI → MI → Prop} (hi : okI i) (hw : Wf r) (h : wp_X11_cycles  i r Q) : Met l yX11_cycles (Cond.code yX11_cycles cX11_cycles 1 (some .int) :: gW) (sRm 6 145) (sPc Δ [.ref (sA Δ 0)] i r) (sQi Δ (Q)) 0 0 (sFr Δ) := by
  refine Ct.i (ty := .int) (by decide) rfl (Nat.le_of_ble_eq_true rfl) (fun Γ Q0 hG fin => ?_)
  have hG : okG Γ Δ l (sRm 6 145) cX11_cycles "Schedulary" 1 := hG
  show V Γ Δ 542 false i r 0 0 Q0 0 [(0, .ref (sA Δ 0))] []
  refine V.aload_n (pc := 0) hG dX11_cycles_0 rfl 0 rfl ?_
  refine V.iconst (pc := 1) hG dX11_cycles_1 ?_
  refine V.callVv (pc := 2) (As := [.int (sJ 4)]) (stk := []) hG (sm_X11_prepare l Δ ((sR_l rfl)) hi hw h) mY_X11_prepare kw_830 kw_832 kw_26 a_0 (by decide) (q := (RX11, TX11, 11)) rfl rfl ⟨Nat.le_of_ble_eq_true rfl, Nat.le_of_ble_eq_true rfl, Nat.le_of_ble_eq_true rfl, Nat.le_of_ble_eq_true rfl⟩ rfl (Nat.le_of_ble_eq_true rfl) dX11_cycles_2 rfl (fun i2 r3 hi5 hw6 hq7 => ?_)
  have h := hq7
  refine V.aload_n (pc := 5) hG dX11_cycles_5 rfl 0 rfl ?_
  refine V.getR (x := 469) (pc := 6) (ci := 13) (k := 6) (M := 11) (T := TX11) (o := 0) (kz := 6) hG a_0 a_0.n (by decide) hin_X11 rfl (by decide) (by decide) rfl kw_582 rfl ((hw6).1 (0, 6, 469) (by decide)) (by decide) dX11_cycles_6 ?_
  refine V.aload_n (pc := 9) hG dX11_cycles_9 rfl 0 rfl ?_
  refine V.getR (x := 67) (pc := 10) (ci := 13) (k := 3) (M := 11) (T := TX11) (o := 0) (kz := 3) hG a_0 a_0.n (by decide) hin_X11 rfl (by decide) (by decide) rfl kw_579 rfl ((hw6).1 (0, 3, 67) (by decide)) (by decide) dX11_cycles_10 ?_
  refine V.aload_n (pc := 13) hG dX11_cycles_13 rfl 0 rfl ?_
  refine V.getR (x := 3) (pc := 14) (ci := 13) (k := 1) (M := 11) (T := TX11) (o := 0) (kz := 1) hG a_0 a_0.n (by decide) hin_X11 rfl (by decide) (by decide) rfl kw_577 rfl ((hw6).1 (0, 1, 3) (by decide)) (by decide) dX11_cycles_14 ?_
  refine V.callVNi (pc := 17) (As := []) (stk := [.ref (sA Δ 67), .ref (sA Δ 469)]) hG (sm_X6_bodyTurns l Δ  hi5 hw6 h) mY_X6_bodyTurns kw_1152 kw_1044 kw_73 a_3 (by decide) (q := (RX6, TX6, 9)) rfl rfl ⟨Nat.le_of_ble_eq_true rfl, Nat.le_of_ble_eq_true rfl, Nat.le_of_ble_eq_true rfl, Nat.le_of_ble_eq_true rfl⟩ rfl (Nat.le_of_ble_eq_true rfl) dX11_cycles_17 rfl (fun v8 i9 r10 hv11 hi12 hw13 hq14 => ?_)
  obtain ⟨e24, e25, h⟩ := hq14
  subst e24
  subst e25
  refine V.callVNi (pc := 20) (As := [.ref (sA Δ 67), .int (sJ v8)]) (stk := []) hG (sm_X4_countCycles l Δ hv11 hi5 hw6 h) mY_X4_countCycles kw_1153 kw_1048 kw_74 a_469 (by decide) (q := (RX4, TX4, 6)) rfl rfl ⟨Nat.le_of_ble_eq_true rfl, Nat.le_of_ble_eq_true rfl, Nat.le_of_ble_eq_true rfl, Nat.le_of_ble_eq_true rfl⟩ rfl (Nat.le_of_ble_eq_true rfl) dX11_cycles_20 rfl (fun v15 i16 r17 hv18 hi19 hw20 hq21 => ?_)
  obtain ⟨e22, e23, h⟩ := hq21
  subst e22
  subst e23
  exact fin dX11_cycles_23 hv18 rfl hi5 hw6 h
set_option maxRecDepth 100000 in
set_option maxHeartbeats 4000000 in
theorem sm_X11_oneByOne (l : Launch) (Δ : Wd) {i r : MI}   {Q : Int → MI → MI → Prop} (hi : okI i) (hw : Wf r) (h : wp_X11_oneByOne  i r Q) : Met l yX11_oneByOne (Cond.code yX11_oneByOne cX11_oneByOne 1 (some .int) :: gW) (sRm 6 145) (sPc Δ [.ref (sA Δ 0)] i r) (sQi Δ (Q)) 0 0 (sFr Δ) := by
  refine Ct.i (ty := .int) (by decide) rfl (Nat.le_of_ble_eq_true rfl) (fun Γ Q0 hG fin => ?_)
  have hG : okG Γ Δ l (sRm 6 145) cX11_oneByOne "Schedulary" 1 := hG
  show V Γ Δ 542 false i r 0 0 Q0 0 [(0, .ref (sA Δ 0))] []
  refine V.aload_n (pc := 0) hG dX11_oneByOne_0 rfl 0 rfl ?_
  refine V.iconst (pc := 1) hG dX11_oneByOne_1 ?_
  refine V.callVv (pc := 2) (As := [.int (sJ 1)]) (stk := []) hG (sm_X11_prepare l Δ ((sR_l rfl)) hi hw h) mY_X11_prepare kw_830 kw_832 kw_26 a_0 (by decide) (q := (RX11, TX11, 11)) rfl rfl ⟨Nat.le_of_ble_eq_true rfl, Nat.le_of_ble_eq_true rfl, Nat.le_of_ble_eq_true rfl, Nat.le_of_ble_eq_true rfl⟩ rfl (Nat.le_of_ble_eq_true rfl) dX11_oneByOne_2 rfl (fun i2 r3 hi5 hw6 hq7 => ?_)
  have h := hq7
  refine V.aload_n (pc := 5) hG dX11_oneByOne_5 rfl 0 rfl ?_
  refine V.getR (x := 67) (pc := 6) (ci := 13) (k := 3) (M := 11) (T := TX11) (o := 0) (kz := 3) hG a_0 a_0.n (by decide) hin_X11 rfl (by decide) (by decide) rfl kw_579 rfl ((hw6).1 (0, 3, 67) (by decide)) (by decide) dX11_oneByOne_6 ?_
  refine V.callVNi (pc := 9) (As := []) (stk := []) hG (sm_X0_sumOfCycles l Δ  hi5 hw6 h) mY_X0_sumOfCycles kw_1158 kw_999 kw_64 a_67 (by decide) (q := (RX0, TX0, 5)) rfl rfl ⟨Nat.le_of_ble_eq_true rfl, Nat.le_of_ble_eq_true rfl, Nat.le_of_ble_eq_true rfl, Nat.le_of_ble_eq_true rfl⟩ rfl (Nat.le_of_ble_eq_true rfl) dX11_oneByOne_9 rfl (fun v8 i9 r10 hv11 hi12 hw13 hq14 => ?_)
  obtain ⟨e24, e25, h⟩ := hq14
  subst e24
  subst e25
  refine V.aload_n (pc := 12) hG dX11_oneByOne_12 rfl 0 rfl ?_
  refine V.getR (x := 3) (pc := 13) (ci := 13) (k := 1) (M := 11) (T := TX11) (o := 0) (kz := 1) hG a_0 a_0.n (by decide) hin_X11 rfl (by decide) (by decide) rfl kw_577 rfl ((hw6).1 (0, 1, 3) (by decide)) (by decide) dX11_oneByOne_13 ?_
  refine V.callVNi (pc := 16) (As := []) (stk := [.int (sJ v8)]) hG (sm_X6_bodyTurns l Δ  hi5 hw6 h) mY_X6_bodyTurns kw_1152 kw_1044 kw_73 a_3 (by decide) (q := (RX6, TX6, 9)) rfl rfl ⟨Nat.le_of_ble_eq_true rfl, Nat.le_of_ble_eq_true rfl, Nat.le_of_ble_eq_true rfl, Nat.le_of_ble_eq_true rfl⟩ rfl (Nat.le_of_ble_eq_true rfl) dX11_oneByOne_16 rfl (fun v15 i16 r17 hv18 hi19 hw20 hq21 => ?_)
  obtain ⟨e22, e23, h⟩ := hq21
  subst e22
  subst e23
  refine V.imul (pc := 19) hG dX11_oneByOne_19 ?_
  exact fin dX11_oneByOne_20 ((sR_wr _)) rfl hi5 hw6 h
set_option maxRecDepth 100000 in
set_option maxHeartbeats 4000000 in
theorem sm_X11_circuitOutputs (l : Launch) (Δ : Wd) {i r : MI}   {Q : Int → MI → MI → Prop} (hi : okI i) (hw : Wf r) (h : wp_X11_circuitOutputs  i r Q) : Met l yX11_circuitOutputs (Cond.code yX11_circuitOutputs cX11_circuitOutputs 1 (some .int) :: gW) (sRm 6 145) (sPc Δ [.ref (sA Δ 0)] i r) (sQi Δ (Q)) 0 0 (sFr Δ) := by
  refine Ct.i (ty := .int) (by decide) rfl (Nat.le_of_ble_eq_true rfl) (fun Γ Q0 hG fin => ?_)
  have hG : okG Γ Δ l (sRm 6 145) cX11_circuitOutputs "Schedulary" 1 := hG
  show V Γ Δ 542 false i r 0 0 Q0 0 [(0, .ref (sA Δ 0))] []
  refine V.aload_n (pc := 0) hG dX11_circuitOutputs_0 rfl 0 rfl ?_
  refine V.iconst (pc := 1) hG dX11_circuitOutputs_1 ?_
  refine V.callVv (pc := 2) (As := [.int (sJ 5)]) (stk := []) hG (sm_X11_prepare l Δ ((sR_l rfl)) hi hw h) mY_X11_prepare kw_830 kw_832 kw_26 a_0 (by decide) (q := (RX11, TX11, 11)) rfl rfl ⟨Nat.le_of_ble_eq_true rfl, Nat.le_of_ble_eq_true rfl, Nat.le_of_ble_eq_true rfl, Nat.le_of_ble_eq_true rfl⟩ rfl (Nat.le_of_ble_eq_true rfl) dX11_circuitOutputs_2 rfl (fun i2 r3 hi5 hw6 hq7 => ?_)
  have h := hq7
  refine V.aload_n (pc := 5) hG dX11_circuitOutputs_5 rfl 0 rfl ?_
  refine V.getR (x := 480) (pc := 6) (ci := 13) (k := 7) (M := 11) (T := TX11) (o := 0) (kz := 7) hG a_0 a_0.n (by decide) hin_X11 rfl (by decide) (by decide) rfl kw_583 rfl ((hw6).1 (0, 7, 480) (by decide)) (by decide) dX11_circuitOutputs_6 ?_
  refine V.getRN (x := 481) (pc := 9) (ci := 3) (k := 0) (M := 2) (T := TX1) (o := 480) (kz := 0) hG a_480 a_480.n (by decide) hin_X1 rfl (by decide) (by decide) rfl kw_538 rfl ((hw6).1 (480, 0, 481) (by decide)) (by decide) dX11_circuitOutputs_9 ?_
  refine V.getIN (pc := 12) (ci := 9) (k := 3) (M := 5) (T := TX7) (o := 481) (kz := 3) hG a_481 a_481.n (by decide) hin_X7 rfl (by decide) (by decide) rfl kw_306 rfl dX11_circuitOutputs_12 ?_
  exact fin dX11_circuitOutputs_15 ((hi5 _ _)) rfl hi5 hw6 h
set_option maxRecDepth 100000 in
set_option maxHeartbeats 4000000 in
theorem sm_X11_circuitOutput (l : Launch) (Δ : Wd) {i r : MI} {p1 : Int} (hp1 : sR p1) {Q : Int → MI → MI → Prop} {X : String → MI → MI → Prop} (hst : l.stackTraces = false) (hi : okI i) (hw : Wf r) (h : wp_X11_circuitOutput p1 i r Q X) : vx_Met l yX11_circuitOutput (Cond.code yX11_circuitOutput cX11_circuitOutput 2 (some .int) :: gW) (sRx 6 145 1 6) (sPc Δ [.ref (sA Δ 0), .int (sJ p1)] i r) (sQi Δ (Q)) (sX Δ (X)) 1 6 (sFr Δ) := by
  refine Cx.i (ty := .int) (by decide) rfl (Nat.le_of_ble_eq_true rfl) hst (by decide) (by decide) (fun Γ Q0 hG fin xout xthr => ?_)
  have hG : okG Γ Δ l (sRx 6 145 1 6) cX11_circuitOutput "Schedulary" 2 := hG
  show V Γ Δ 542 false i r 0 0 Q0 0 [(0, .ref (sA Δ 0)), (1, .int (sJ p1))] []
  have jn23 : ∀  (ij23 : MI) (rj23 : MI), okI ij23 → Wf rj23 → s23_X11_circuitOutput ij23 rj23 Q X → V Γ Δ 542 false ij23 rj23 0 0 Q0 23 [] [] := by
    intro ij23 rj23 hij23 hwj23 h
    exact xthr ⟨134, 223, 138, "no such value", by decide, kw_1394, kw_182, by decide, .inl th_138, dX11_circuitOutput_23, dX11_circuitOutput_26, Or.inl ⟨dX11_circuitOutput_27, dX11_circuitOutput_29, dX11_circuitOutput_32⟩⟩ (by decide) (by decide) hij23 hwj23 h
  refine V.aload_n (pc := 0) hG dX11_circuitOutput_0 rfl 0 rfl ?_
  refine V.iconst (pc := 1) hG dX11_circuitOutput_1 ?_
  refine V.callVv (pc := 2) (As := [.int (sJ 5)]) (stk := []) hG (sm_X11_prepare l Δ ((sR_l rfl)) hi hw h) mY_X11_prepare kw_830 kw_832 kw_26 a_0 (by decide) (q := (RX11, TX11, 11)) rfl rfl ⟨Nat.le_of_ble_eq_true rfl, Nat.le_of_ble_eq_true rfl, Nat.le_of_ble_eq_true rfl, Nat.le_of_ble_eq_true rfl⟩ rfl (Nat.le_of_ble_eq_true rfl) dX11_circuitOutput_2 rfl (fun i2 r3 hi5 hw6 hq7 => ?_)
  have h := hq7
  refine V.iload_n (pc := 5) hG dX11_circuitOutput_5 rfl 1 rfl ?_
  obtain ⟨t9, f10⟩ := h
  refine V.if_lt (pc := 6) (tgt := 23) hG hp1 dX11_circuitOutput_6 (by decide) (fun c8 => ?_) (fun c8 => ?_)
  · have h := t9 c8
    clear t9 f10
    refine V.pick [] rfl ?_
    exact jn23 i2 r3 hi5 hw6 h
  · have h := f10 c8
    clear t9 f10
    refine V.iload_n (pc := 9) hG dX11_circuitOutput_9 rfl 1 rfl ?_
    refine V.aload_n (pc := 10) hG dX11_circuitOutput_10 rfl 0 rfl ?_
    refine V.getR (x := 480) (pc := 11) (ci := 13) (k := 7) (M := 11) (T := TX11) (o := 0) (kz := 7) hG a_0 a_0.n (by decide) hin_X11 rfl (by decide) (by decide) rfl kw_583 rfl ((hw6).1 (0, 7, 480) (by decide)) (by decide) dX11_circuitOutput_11 ?_
    refine V.getRN (x := 481) (pc := 14) (ci := 3) (k := 0) (M := 2) (T := TX1) (o := 480) (kz := 0) hG a_480 a_480.n (by decide) hin_X1 rfl (by decide) (by decide) rfl kw_538 rfl ((hw6).1 (480, 0, 481) (by decide)) (by decide) dX11_circuitOutput_14 ?_
    refine V.getIN (pc := 17) (ci := 9) (k := 3) (M := 5) (T := TX7) (o := 481) (kz := 3) hG a_481 a_481.n (by decide) hin_X7 rfl (by decide) (by decide) rfl kw_306 rfl dX11_circuitOutput_17 ?_
    obtain ⟨t12, f13⟩ := h
    refine V.icmp_lt (pc := 20) (tgt := 33) hG hp1 ((hi5 _ _)) dX11_circuitOutput_20 (by decide) (fun c11 => ?_) (fun c11 => ?_)
    · have h := t12 c11
      clear t12 f13
      refine V.aload_n (pc := 33) hG dX11_circuitOutput_33 rfl 0 rfl ?_
      refine V.getR (x := 480) (pc := 34) (ci := 13) (k := 7) (M := 11) (T := TX11) (o := 0) (kz := 7) hG a_0 a_0.n (by decide) hin_X11 rfl (by decide) (by decide) rfl kw_583 rfl ((hw6).1 (0, 7, 480) (by decide)) (by decide) dX11_circuitOutput_34 ?_
      refine V.getRN (x := 481) (pc := 37) (ci := 3) (k := 0) (M := 2) (T := TX1) (o := 480) (kz := 0) hG a_480 a_480.n (by decide) hin_X1 rfl (by decide) (by decide) rfl kw_538 rfl ((hw6).1 (480, 0, 481) (by decide)) (by decide) dX11_circuitOutput_37 ?_
      refine V.getRN (x := 481 + 5) (pc := 40) (ci := 9) (k := 2) (M := 5) (T := TX7) (o := 481) (kz := 2) hG a_481 a_481.n (by decide) hin_X7 rfl (by decide) (by decide) rfl kw_304 rfl ((hw6.2.2.2.1 _ sta_481).2.2.1) (by have := sta.pos (sta_481); omega) dX11_circuitOutput_40 ?_
      refine V.iload_n (pc := 43) hG dX11_circuitOutput_43 rfl 1 rfl ?_
      obtain ⟨g14, h⟩ := h
      refine V.iald (pc := 44) (z := 192) (o := 481 + 5) hG sta_481.out sta_481.out.n hp1 g14 dX11_circuitOutput_44 ?_
      exact fin dX11_circuitOutput_45 ((hi5 _ _)) rfl (by decide) (by decide) hi5 hw6 h
    · have h := f13 c11
      clear t12 f13
      refine V.pick [] rfl ?_
      exact jn23 i2 r3 hi5 hw6 h
set_option maxRecDepth 100000 in
set_option maxHeartbeats 4000000 in
theorem sm_X11_circuitMemory (l : Launch) (Δ : Wd) {i r : MI} {p1 : Int} {p2 : Int} (hp1 : sR p1) (hp2 : sR p2) {Q : Int → MI → MI → Prop} {X : String → MI → MI → Prop} (hst : l.stackTraces = false) (hi : okI i) (hw : Wf r) (h : wp_X11_circuitMemory p1 p2 i r Q X) : vx_Met l yX11_circuitMemory (Cond.code yX11_circuitMemory cX11_circuitMemory 3 (some .int) :: gW) (sRx 6 145 1 6) (sPc Δ [.ref (sA Δ 0), .int (sJ p1), .int (sJ p2)] i r) (sQi Δ (Q)) (sX Δ (X)) 1 6 (sFr Δ) := by
  refine Cx.i (ty := .int) (by decide) rfl (Nat.le_of_ble_eq_true rfl) hst (by decide) (by decide) (fun Γ Q0 hG fin xout xthr => ?_)
  have hG : okG Γ Δ l (sRx 6 145 1 6) cX11_circuitMemory "Schedulary" 3 := hG
  show V Γ Δ 542 false i r 0 0 Q0 0 [(0, .ref (sA Δ 0)), (1, .int (sJ p1)), (2, .int (sJ p2))] []
  refine V.iload_n (pc := 0) hG dX11_circuitMemory_0 rfl 1 rfl ?_
  refine V.iload_n (pc := 1) hG dX11_circuitMemory_1 rfl 2 rfl ?_
  refine V.callSi (pc := 2) (As := [.int (sJ p1), .int (sJ p2)]) (stk := []) hG (sm_X11_isPlace l Δ hp1 hp2 hi hw h) mY_X11_isPlace kw_1473 kw_1474 ⟨Nat.le_of_ble_eq_true rfl, Nat.le_of_ble_eq_true rfl, Nat.le_of_ble_eq_true rfl, Nat.le_of_ble_eq_true rfl⟩ rfl (Nat.le_of_ble_eq_true rfl) dX11_circuitMemory_2 rfl (fun v1 i2 r3 hv4 hi5 hw6 hq7 => ?_)
  obtain ⟨e38, e39, h⟩ := hq7
  subst e38
  subst e39
  obtain ⟨f10, t9⟩ := h
  refine V.if_ne (pc := 5) (tgt := 18) hG hv4 dX11_circuitMemory_5 (by decide) (fun c8 => ?_) (fun c8 => ?_)
  · have h := t9 c8
    clear t9 f10
    refine V.aload_n (pc := 18) hG dX11_circuitMemory_18 rfl 0 rfl ?_
    refine V.iconst (pc := 19) hG dX11_circuitMemory_19 ?_
    refine V.callVv (pc := 20) (As := [.int (sJ 5)]) (stk := []) hG (sm_X11_prepare l Δ ((sR_l rfl)) hi hw h) mY_X11_prepare kw_830 kw_832 kw_26 a_0 (by decide) (q := (RX11, TX11, 11)) rfl rfl ⟨Nat.le_of_ble_eq_true rfl, Nat.le_of_ble_eq_true rfl, Nat.le_of_ble_eq_true rfl, Nat.le_of_ble_eq_true rfl⟩ rfl (Nat.le_of_ble_eq_true rfl) dX11_circuitMemory_20 rfl (fun i12 r13 hi15 hw16 hq17 => ?_)
    have h := hq17
    refine V.aload_n (pc := 23) hG dX11_circuitMemory_23 rfl 0 rfl ?_
    refine V.getR (x := 480) (pc := 24) (ci := 13) (k := 7) (M := 11) (T := TX11) (o := 0) (kz := 7) hG a_0 a_0.n (by decide) hin_X11 rfl (by decide) (by decide) rfl kw_583 rfl ((hw16).1 (0, 7, 480) (by decide)) (by decide) dX11_circuitMemory_24 ?_
    refine V.getRN (x := 481) (pc := 27) (ci := 3) (k := 0) (M := 2) (T := TX1) (o := 480) (kz := 0) hG a_480 a_480.n (by decide) hin_X1 rfl (by decide) (by decide) rfl kw_538 rfl ((hw16).1 (480, 0, 481) (by decide)) (by decide) dX11_circuitMemory_27 ?_
    refine V.ldcS (pc := 30) (k := 2) (tx := "MN") hG (by decide) dX11_circuitMemory_30 ?_
    refine V.iload_n (pc := 32) hG dX11_circuitMemory_32 rfl 1 rfl ?_
    refine V.callVSi (pc := 33) (As := [.int (sJ p1)]) (stk := [.ref (sA Δ 481)]) hG (sm_J0_indexOf_0f7a4 l Δ (by decide) hp1 hi15 hw16 h) mY_J0_indexOf_0f7a4 kw_1254 kw_652 kw_653 (by decide) rfl ⟨Nat.le_of_ble_eq_true rfl, Nat.le_of_ble_eq_true rfl, Nat.le_of_ble_eq_true rfl, Nat.le_of_ble_eq_true rfl⟩ rfl (Nat.le_of_ble_eq_true rfl) dX11_circuitMemory_33 rfl (fun v18 i19 r20 hv21 hi22 hw23 hq24 => ?_)
    obtain ⟨e34, e35, h⟩ := hq24
    subst e34
    subst e35
    refine V.iload_n (pc := 36) hG dX11_circuitMemory_36 rfl 2 rfl ?_
    refine V.callVNi (pc := 37) (As := [.int (sJ v18), .int (sJ p2)]) (stk := []) hG (sm_X7_look l Δ sta_481 hv21 hp2 hi15 hw16 h) mY_X7_look kw_1512 kw_797 kw_20 a_481 (by decide) (q := (RX7, TX7, 5)) rfl rfl ⟨Nat.le_of_ble_eq_true rfl, Nat.le_of_ble_eq_true rfl, Nat.le_of_ble_eq_true rfl, Nat.le_of_ble_eq_true rfl⟩ rfl (Nat.le_of_ble_eq_true rfl) dX11_circuitMemory_37 rfl (fun v25 i26 r27 hv28 hi29 hw30 hq31 => ?_)
    obtain ⟨e32, e33, h⟩ := hq31
    subst e32
    subst e33
    exact fin dX11_circuitMemory_40 hv28 rfl (by decide) (by decide) hi15 hw16 h
  · have h := f10 c8
    clear t9 f10
    exact xthr ⟨88, 228, 92, "no such place", by decide, kw_1255, kw_180, by decide, .inl th_92, dX11_circuitMemory_8, dX11_circuitMemory_11, Or.inl ⟨dX11_circuitMemory_12, dX11_circuitMemory_14, dX11_circuitMemory_17⟩⟩ (by decide) (by decide) hi hw h
set_option maxRecDepth 100000 in
set_option maxHeartbeats 4000000 in
theorem sm_X7_hasMemoriesOf (l : Launch) (Δ : Wd) {i r : MI} {o0 : Int} {o1 : Int} (ho0 : sta o0) (ho1 : sta o1) {Q : Int → Prop} (hi : okI i) (hw : Wf r) (h : wp_X7_hasMemoriesOf o0 o1 i r Q) : Met l yX7_hasMemoriesOf (Cond.code yX7_hasMemoriesOf cX7_hasMemoriesOf 4 (some .boolean) :: gW) (sRm 0 0) (sPc Δ [.ref (sA Δ o0), .ref (sA Δ o1)] i r) (sQi Δ (fun x i' r' => i = i' ∧ r = r' ∧ Q x)) 0 0 (sFr Δ) := by
  refine Ct.i (ty := .boolean) (by decide) rfl (Nat.le_of_ble_eq_true rfl) (fun Γ Q0 hG fin => ?_)
  have hG : okG Γ Δ l (sRm 0 0) cX7_hasMemoriesOf "Schedulary$State" 4 := hG
  show V Γ Δ 542 false i r 0 0 Q0 0 [(0, .ref (sA Δ o0)), (1, .ref (sA Δ o1))] []
  refine V.iconst (pc := 0) hG dX7_hasMemoriesOf_0 ?_
  refine V.istore_n (pc := 1) (lv' := [(2, .int (sJ 0)), (0, .ref (sA Δ o0)), (1, .ref (sA Δ o1))]) hG dX7_hasMemoriesOf_1 rfl (by decide) rfl ?_
  obtain ⟨n25, h⟩ := h
  have lp2 : ∀ (m2 : Nat) (x2_2 : Int), sR x2_2 → LoopP (b2_X7_hasMemoriesOf o0 o1 i r Q) m2 (x2_2) → V Γ Δ 542 false i r 0 0 Q0 2 [(0, .ref (sA Δ o0)), (1, .ref (sA Δ o1)), (2, .int (sJ x2_2))] [] := by
    intro m2
    induction m2 with
    | zero => intro x2_2 hx2_2 h; exact h.elim
    | succ m2 ih2 =>
      intro x2_2 hx2_2 h
      have h := LoopP_succ h
      refine V.iload_n (pc := 2) hG dX7_hasMemoriesOf_2 rfl 2 rfl ?_
      refine V.iconst (pc := 3) hG dX7_hasMemoriesOf_3 ?_
      obtain ⟨t27, f28⟩ := h
      refine V.icmp_ge (pc := 4) (tgt := 48) hG hx2_2 ((sR_l rfl)) dX7_hasMemoriesOf_4 (by decide) (fun c26 => ?_) (fun c26 => ?_)
      · have h := t27 c26
        clear t27 f28
        refine V.iconst (pc := 48) hG dX7_hasMemoriesOf_48 ?_
        exact fin dX7_hasMemoriesOf_49 ((sR_l rfl)) (nar_z (by decide)) hi hw ⟨rfl, rfl, h⟩
      · have h := f28 c26
        clear t27 f28
        refine V.iconst (pc := 7) hG dX7_hasMemoriesOf_7 ?_
        refine V.istore_n (pc := 8) (lv' := [(3, .int (sJ 0)), (0, .ref (sA Δ o0)), (1, .ref (sA Δ o1)), (2, .int (sJ x2_2))]) hG dX7_hasMemoriesOf_8 rfl (by decide) rfl ?_
        obtain ⟨n29, h⟩ := h
        have lp9 : ∀ (m9 : Nat) (x3_9 : Int), sR x3_9 → LoopP (b9_X7_hasMemoriesOf o0 o1 x2_2 i r Q (LoopP (b2_X7_hasMemoriesOf o0 o1 i r Q) m2)) m9 (x3_9) → V Γ Δ 542 false i r 0 0 Q0 9 [(0, .ref (sA Δ o0)), (1, .ref (sA Δ o1)), (2, .int (sJ x2_2)), (3, .int (sJ x3_9))] [] := by
          intro m9
          induction m9 with
          | zero => intro x3_9 hx3_9 h; exact h.elim
          | succ m9 ih9 =>
            intro x3_9 hx3_9 h
            have h := LoopP_succ h
            refine V.iload_n (pc := 9) hG dX7_hasMemoriesOf_9 rfl 3 rfl ?_
            refine V.bipush (pc := 10) hG dX7_hasMemoriesOf_10 (by decide) ?_
            obtain ⟨t31, f32⟩ := h
            refine V.icmp_ge (pc := 12) (tgt := 42) hG hx3_9 ((sR_l rfl)) dX7_hasMemoriesOf_12 (by decide) (fun c30 => ?_) (fun c30 => ?_)
            · have h := t31 c30
              clear t31 f32
              refine V.iinc (pc := 42) (lv' := [(2, .int (sJ (wr (x2_2 + 1)))), (0, .ref (sA Δ o0)), (1, .ref (sA Δ o1)), (3, .int (sJ x3_9))]) hG dX7_hasMemoriesOf_42 2 rfl (by decide) rfl ?_
              refine V.goto (pc := 45) (tgt := 2) hG dX7_hasMemoriesOf_45 (by decide) ?_
              refine V.pick [1, 2, 0] rfl ?_
              exact ih2 (wr (x2_2 + 1)) ((sR_wr _)) h
            · have h := f32 c30
              clear t31 f32
              refine V.aload_n (pc := 15) hG dX7_hasMemoriesOf_15 rfl 0 rfl ?_
              refine V.getR (x := o0 + 2) (pc := 16) (ci := 9) (k := 1) (M := 5) (T := TX7) (o := o0) (kz := 1) hG ho0.o ho0.o.n (by decide) hin_X7 rfl (by decide) (by decide) rfl kw_302 rfl ((hw.2.2.2.1 _ ho0).2.1) (by have := sta.pos (ho0); omega) dX7_hasMemoriesOf_16 ?_
              refine V.iload_n (pc := 19) hG dX7_hasMemoriesOf_19 rfl 2 rfl ?_
              obtain ⟨g33, h⟩ := h
              refine V.aald (pc := 20) 7 (z := 2) (o := o0 + 2) (x := x2_2) (y := o0 + 3 + x2_2) hG ho0.mm ho0.mm.n (by decide) hx2_2 g33 (Wf.mem hw ho0 g33) (by have := sta.pos ho0; omega) dX7_hasMemoriesOf_20 ?_
              refine V.iload_n (pc := 21) hG dX7_hasMemoriesOf_21 rfl 3 rfl ?_
              obtain ⟨g34, h⟩ := h
              refine V.iald (pc := 22) (z := 16) (o := o0 + 3 + x2_2) hG (sta.row ho0 g33) ((sta.row ho0 g33)).n hx3_9 g34 dX7_hasMemoriesOf_22 ?_
              refine V.aload_n (pc := 23) hG dX7_hasMemoriesOf_23 rfl 1 rfl ?_
              refine V.getR (x := o1 + 2) (pc := 24) (ci := 9) (k := 1) (M := 5) (T := TX7) (o := o1) (kz := 1) hG ho1.o ho1.o.n (by decide) hin_X7 rfl (by decide) (by decide) rfl kw_302 rfl ((hw.2.2.2.1 _ ho1).2.1) (by have := sta.pos (ho1); omega) dX7_hasMemoriesOf_24 ?_
              refine V.iload_n (pc := 27) hG dX7_hasMemoriesOf_27 rfl 2 rfl ?_
              obtain ⟨g35, h⟩ := h
              refine V.aald (pc := 28) 7 (z := 2) (o := o1 + 2) (x := x2_2) (y := o1 + 3 + x2_2) hG ho1.mm ho1.mm.n (by decide) hx2_2 g35 (Wf.mem hw ho1 g35) (by have := sta.pos ho1; omega) dX7_hasMemoriesOf_28 ?_
              refine V.iload_n (pc := 29) hG dX7_hasMemoriesOf_29 rfl 3 rfl ?_
              obtain ⟨g36, h⟩ := h
              refine V.iald (pc := 30) (z := 16) (o := o1 + 3 + x2_2) hG (sta.row ho1 g35) ((sta.row ho1 g35)).n hx3_9 g36 dX7_hasMemoriesOf_30 ?_
              obtain ⟨t38, f39⟩ := h
              refine V.icmp_eq (pc := 31) (tgt := 36) hG ((hi _ _)) ((hi _ _)) dX7_hasMemoriesOf_31 (by decide) (fun c37 => ?_) (fun c37 => ?_)
              · have h := t38 c37
                clear t38 f39
                refine V.iinc (pc := 36) (lv' := [(3, .int (sJ (wr (x3_9 + 1)))), (0, .ref (sA Δ o0)), (1, .ref (sA Δ o1)), (2, .int (sJ x2_2))]) hG dX7_hasMemoriesOf_36 3 rfl (by decide) rfl ?_
                refine V.goto (pc := 39) (tgt := 9) hG dX7_hasMemoriesOf_39 (by decide) ?_
                refine V.pick [1, 2, 3, 0] rfl ?_
                exact ih9 (wr (x3_9 + 1)) ((sR_wr _)) h
              · have h := f39 c37
                clear t38 f39
                refine V.iconst (pc := 34) hG dX7_hasMemoriesOf_34 ?_
                exact fin dX7_hasMemoriesOf_35 ((sR_l rfl)) (nar_z (by decide)) hi hw ⟨rfl, rfl, h⟩
        refine V.pick [1, 2, 3, 0] rfl ?_
        exact lp9 n29 0 ((sR_l rfl)) h
  refine V.pick [1, 2, 0] rfl ?_
  exact lp2 n25 0 ((sR_l rfl)) h
set_option maxRecDepth 100000 in
set_option maxHeartbeats 4000000 in
theorem sm_X7_hasRegistersOf (l : Launch) (Δ : Wd) {i r : MI} {o0 : Int} {o1 : Int} (ho0 : sta o0) (ho1 : sta o1) {Q : Int → Prop} (hi : okI i) (hw : Wf r) (h : wp_X7_hasRegistersOf o0 o1 i r Q) : Met l yX7_hasRegistersOf (Cond.code yX7_hasRegistersOf cX7_hasRegistersOf 3 (some .boolean) :: gW) (sRm 0 0) (sPc Δ [.ref (sA Δ o0), .ref (sA Δ o1)] i r) (sQi Δ (fun x i' r' => i = i' ∧ r = r' ∧ Q x)) 0 0 (sFr Δ) := by
  refine Ct.i (ty := .boolean) (by decide) rfl (Nat.le_of_ble_eq_true rfl) (fun Γ Q0 hG fin => ?_)
  have hG : okG Γ Δ l (sRm 0 0) cX7_hasRegistersOf "Schedulary$State" 3 := hG
  show V Γ Δ 542 false i r 0 0 Q0 0 [(0, .ref (sA Δ o0)), (1, .ref (sA Δ o1))] []
  refine V.iconst (pc := 0) hG dX7_hasRegistersOf_0 ?_
  refine V.istore_n (pc := 1) (lv' := [(2, .int (sJ 0)), (0, .ref (sA Δ o0)), (1, .ref (sA Δ o1))]) hG dX7_hasRegistersOf_1 rfl (by decide) rfl ?_
  obtain ⟨n9, h⟩ := h
  have lp2 : ∀ (m2 : Nat) (x2_2 : Int), sR x2_2 → LoopP (b2_X7_hasRegistersOf o0 o1 i r Q) m2 (x2_2) → V Γ Δ 542 false i r 0 0 Q0 2 [(0, .ref (sA Δ o0)), (1, .ref (sA Δ o1)), (2, .int (sJ x2_2))] [] := by
    intro m2
    induction m2 with
    | zero => intro x2_2 hx2_2 h; exact h.elim
    | succ m2 ih2 =>
      intro x2_2 hx2_2 h
      have h := LoopP_succ h
      refine V.iload_n (pc := 2) hG dX7_hasRegistersOf_2 rfl 2 rfl ?_
      refine V.bipush (pc := 3) hG dX7_hasRegistersOf_3 (by decide) ?_
      obtain ⟨t11, f12⟩ := h
      refine V.icmp_ge (pc := 5) (tgt := 31) hG hx2_2 ((sR_l rfl)) dX7_hasRegistersOf_5 (by decide) (fun c10 => ?_) (fun c10 => ?_)
      · have h := t11 c10
        clear t11 f12
        refine V.iconst (pc := 31) hG dX7_hasRegistersOf_31 ?_
        exact fin dX7_hasRegistersOf_32 ((sR_l rfl)) (nar_z (by decide)) hi hw ⟨rfl, rfl, h⟩
      · have h := f12 c10
        clear t11 f12
        refine V.aload_n (pc := 8) hG dX7_hasRegistersOf_8 rfl 0 rfl ?_
        refine V.getR (x := o0 + 1) (pc := 9) (ci := 9) (k := 0) (M := 5) (T := TX7) (o := o0) (kz := 0) hG ho0.o ho0.o.n (by decide) hin_X7 rfl (by decide) (by decide) rfl kw_299 rfl ((hw.2.2.2.1 _ ho0).1) (by have := sta.pos (ho0); omega) dX7_hasRegistersOf_9 ?_
        refine V.iload_n (pc := 12) hG dX7_hasRegistersOf_12 rfl 2 rfl ?_
        obtain ⟨g13, h⟩ := h
        refine V.iald (pc := 13) (z := 8) (o := o0 + 1) hG ho0.r ho0.r.n hx2_2 g13 dX7_hasRegistersOf_13 ?_
        refine V.aload_n (pc := 14) hG dX7_hasRegistersOf_14 rfl 1 rfl ?_
        refine V.getR (x := o1 + 1) (pc := 15) (ci := 9) (k := 0) (M := 5) (T := TX7) (o := o1) (kz := 0) hG ho1.o ho1.o.n (by decide) hin_X7 rfl (by decide) (by decide) rfl kw_299 rfl ((hw.2.2.2.1 _ ho1).1) (by have := sta.pos (ho1); omega) dX7_hasRegistersOf_15 ?_
        refine V.iload_n (pc := 18) hG dX7_hasRegistersOf_18 rfl 2 rfl ?_
        obtain ⟨g14, h⟩ := h
        refine V.iald (pc := 19) (z := 8) (o := o1 + 1) hG ho1.r ho1.r.n hx2_2 g14 dX7_hasRegistersOf_19 ?_
        obtain ⟨t16, f17⟩ := h
        refine V.icmp_eq (pc := 20) (tgt := 25) hG ((hi _ _)) ((hi _ _)) dX7_hasRegistersOf_20 (by decide) (fun c15 => ?_) (fun c15 => ?_)
        · have h := t16 c15
          clear t16 f17
          refine V.iinc (pc := 25) (lv' := [(2, .int (sJ (wr (x2_2 + 1)))), (0, .ref (sA Δ o0)), (1, .ref (sA Δ o1))]) hG dX7_hasRegistersOf_25 2 rfl (by decide) rfl ?_
          refine V.goto (pc := 28) (tgt := 2) hG dX7_hasRegistersOf_28 (by decide) ?_
          refine V.pick [1, 2, 0] rfl ?_
          exact ih2 (wr (x2_2 + 1)) ((sR_wr _)) h
        · have h := f17 c15
          clear t16 f17
          refine V.iconst (pc := 23) hG dX7_hasRegistersOf_23 ?_
          exact fin dX7_hasRegistersOf_24 ((sR_l rfl)) (nar_z (by decide)) hi hw ⟨rfl, rfl, h⟩
  refine V.pick [1, 2, 0] rfl ?_
  exact lp2 n9 0 ((sR_l rfl)) h
set_option maxRecDepth 100000 in
set_option maxHeartbeats 4000000 in
theorem sm_X7_isLike (l : Launch) (Δ : Wd) {i r : MI} {o0 : Int} {o1 : Int} (ho0 : sta o0) (ho1 : sta o1) {Q : Int → Prop} (hi : okI i) (hw : Wf r) (h : wp_X7_isLike o0 o1 i r Q) : Met l yX7_isLike (Cond.code yX7_isLike cX7_isLike 3 (some .boolean) :: gW) (sRm 1 23) (sPc Δ [.ref (sA Δ o0), .ref (sA Δ o1)] i r) (sQi Δ (fun x i' r' => i = i' ∧ r = r' ∧ Q x)) 0 0 (sFr Δ) := by
  refine Ct.i (ty := .boolean) (by decide) rfl (Nat.le_of_ble_eq_true rfl) (fun Γ Q0 hG fin => ?_)
  have hG : okG Γ Δ l (sRm 1 23) cX7_isLike "Schedulary$State" 3 := hG
  show V Γ Δ 542 false i r 0 0 Q0 0 [(0, .ref (sA Δ o0)), (1, .ref (sA Δ o1))] []
  have jn67 : ∀ (k0j67 : Int), sR k0j67 → s67_X7_isLike k0j67 i r Q → V Γ Δ 542 false i r 0 0 Q0 67 [] [.int (sJ k0j67)] := by
    intro k0j67 hk0j67 h
    obtain ⟨g2, h⟩ := h
    exact fin dX7_isLike_67 hk0j67 (nar_z g2) hi hw ⟨rfl, rfl, h⟩
  have jn66 : s66_X7_isLike i r Q → V Γ Δ 542 false i r 0 0 Q0 66 [] [] := by
    intro h
    refine V.iconst (pc := 66) hG dX7_isLike_66 ?_
    exact jn67 0 ((sR_l rfl)) h
  refine V.aload_n (pc := 0) hG dX7_isLike_0 rfl 0 rfl ?_
  refine V.getI (pc := 1) (ci := 9) (k := 3) (M := 5) (T := TX7) (o := o0) (kz := 3) hG ho0.o ho0.o.n (by decide) hin_X7 rfl (by decide) (by decide) rfl kw_305 rfl dX7_isLike_1 ?_
  refine V.aload_n (pc := 4) hG dX7_isLike_4 rfl 1 rfl ?_
  refine V.getI (pc := 5) (ci := 9) (k := 3) (M := 5) (T := TX7) (o := o1) (kz := 3) hG ho1.o ho1.o.n (by decide) hin_X7 rfl (by decide) (by decide) rfl kw_305 rfl dX7_isLike_5 ?_
  obtain ⟨t4, f5⟩ := h
  refine V.icmp_eq (pc := 8) (tgt := 13) hG ((hi _ _)) ((hi _ _)) dX7_isLike_8 (by decide) (fun c3 => ?_) (fun c3 => ?_)
  · have h := t4 c3
    clear t4 f5
    refine V.iconst (pc := 13) hG dX7_isLike_13 ?_
    refine V.istore_n (pc := 14) (lv' := [(2, .int (sJ 0)), (0, .ref (sA Δ o0)), (1, .ref (sA Δ o1))]) hG dX7_isLike_14 rfl (by decide) rfl ?_
    obtain ⟨n38, h⟩ := h
    have lp15 : ∀ (m15 : Nat) (x2_15 : Int), sR x2_15 → LoopP (b15_X7_isLike o0 o1 i r Q) m15 (x2_15) → V Γ Δ 542 false i r 0 0 Q0 15 [(0, .ref (sA Δ o0)), (1, .ref (sA Δ o1)), (2, .int (sJ x2_15))] [] := by
      intro m15
      induction m15 with
      | zero => intro x2_15 hx2_15 h; exact h.elim
      | succ m15 ih15 =>
        intro x2_15 hx2_15 h
        have h := LoopP_succ h
        refine V.iload_n (pc := 15) hG dX7_isLike_15 rfl 2 rfl ?_
        refine V.aload_n (pc := 16) hG dX7_isLike_16 rfl 0 rfl ?_
        refine V.getI (pc := 17) (ci := 9) (k := 3) (M := 5) (T := TX7) (o := o0) (kz := 3) hG ho0.o ho0.o.n (by decide) hin_X7 rfl (by decide) (by decide) rfl kw_305 rfl dX7_isLike_17 ?_
        obtain ⟨t40, f41⟩ := h
        refine V.icmp_ge (pc := 20) (tgt := 46) hG hx2_15 ((hi _ _)) dX7_isLike_20 (by decide) (fun c39 => ?_) (fun c39 => ?_)
        · have h := t40 c39
          clear t40 f41
          refine V.aload_n (pc := 46) hG dX7_isLike_46 rfl 0 rfl ?_
          refine V.aload_n (pc := 47) hG dX7_isLike_47 rfl 1 rfl ?_
          refine V.callVi (pc := 48) (As := [.ref (sA Δ o1)]) (stk := []) hG (sm_X7_hasRegistersOf l Δ ho0 ho1 hi hw h) mY_X7_hasRegistersOf kw_1171 kw_1173 kw_84 ho0.o (by decide) (q := (RX7, TX7, 5)) rfl rfl ⟨Nat.le_of_ble_eq_true rfl, Nat.le_of_ble_eq_true rfl, Nat.le_of_ble_eq_true rfl, Nat.le_of_ble_eq_true rfl⟩ rfl (Nat.le_of_ble_eq_true rfl) dX7_isLike_48 rfl (fun v42 i43 r44 hv45 hi46 hw47 hq48 => ?_)
          obtain ⟨e64, e65, h⟩ := hq48
          subst e64
          subst e65
          obtain ⟨t50, f51⟩ := h
          refine V.if_eq (pc := 51) (tgt := 66) hG hv45 dX7_isLike_51 (by decide) (fun c49 => ?_) (fun c49 => ?_)
          · have h := t50 c49
            clear t50 f51
            refine V.pick [] rfl ?_
            exact jn66 h
          · have h := f51 c49
            clear t50 f51
            refine V.aload_n (pc := 54) hG dX7_isLike_54 rfl 0 rfl ?_
            refine V.aload_n (pc := 55) hG dX7_isLike_55 rfl 1 rfl ?_
            refine V.callVi (pc := 56) (As := [.ref (sA Δ o1)]) (stk := []) hG (sm_X7_hasMemoriesOf l Δ ho0 ho1 hi hw h) mY_X7_hasMemoriesOf kw_1175 kw_1177 kw_85 ho0.o (by decide) (q := (RX7, TX7, 5)) rfl rfl ⟨Nat.le_of_ble_eq_true rfl, Nat.le_of_ble_eq_true rfl, Nat.le_of_ble_eq_true rfl, Nat.le_of_ble_eq_true rfl⟩ rfl (Nat.le_of_ble_eq_true rfl) dX7_isLike_56 rfl (fun v52 i53 r54 hv55 hi56 hw57 hq58 => ?_)
            obtain ⟨e62, e63, h⟩ := hq58
            subst e62
            subst e63
            obtain ⟨t60, f61⟩ := h
            refine V.if_eq (pc := 59) (tgt := 66) hG hv55 dX7_isLike_59 (by decide) (fun c59 => ?_) (fun c59 => ?_)
            · have h := t60 c59
              clear t60 f61
              refine V.pick [] rfl ?_
              exact jn66 h
            · have h := f61 c59
              clear t60 f61
              refine V.iconst (pc := 62) hG dX7_isLike_62 ?_
              refine V.goto (pc := 63) (tgt := 67) hG dX7_isLike_63 (by decide) ?_
              refine V.pick [] rfl ?_
              exact jn67 1 ((sR_l rfl)) h
        · have h := f41 c39
          clear t40 f41
          refine V.aload_n (pc := 23) hG dX7_isLike_23 rfl 0 rfl ?_
          refine V.getR (x := o0 + 5) (pc := 24) (ci := 9) (k := 2) (M := 5) (T := TX7) (o := o0) (kz := 2) hG ho0.o ho0.o.n (by decide) hin_X7 rfl (by decide) (by decide) rfl kw_303 rfl ((hw.2.2.2.1 _ ho0).2.2.1) (by have := sta.pos (ho0); omega) dX7_isLike_24 ?_
          refine V.iload_n (pc := 27) hG dX7_isLike_27 rfl 2 rfl ?_
          obtain ⟨g66, h⟩ := h
          refine V.iald (pc := 28) (z := 192) (o := o0 + 5) hG ho0.out ho0.out.n hx2_15 g66 dX7_isLike_28 ?_
          refine V.aload_n (pc := 29) hG dX7_isLike_29 rfl 1 rfl ?_
          refine V.getR (x := o1 + 5) (pc := 30) (ci := 9) (k := 2) (M := 5) (T := TX7) (o := o1) (kz := 2) hG ho1.o ho1.o.n (by decide) hin_X7 rfl (by decide) (by decide) rfl kw_303 rfl ((hw.2.2.2.1 _ ho1).2.2.1) (by have := sta.pos (ho1); omega) dX7_isLike_30 ?_
          refine V.iload_n (pc := 33) hG dX7_isLike_33 rfl 2 rfl ?_
          obtain ⟨g67, h⟩ := h
          refine V.iald (pc := 34) (z := 192) (o := o1 + 5) hG ho1.out ho1.out.n hx2_15 g67 dX7_isLike_34 ?_
          obtain ⟨t69, f70⟩ := h
          refine V.icmp_eq (pc := 35) (tgt := 40) hG ((hi _ _)) ((hi _ _)) dX7_isLike_35 (by decide) (fun c68 => ?_) (fun c68 => ?_)
          · have h := t69 c68
            clear t69 f70
            refine V.iinc (pc := 40) (lv' := [(2, .int (sJ (wr (x2_15 + 1)))), (0, .ref (sA Δ o0)), (1, .ref (sA Δ o1))]) hG dX7_isLike_40 2 rfl (by decide) rfl ?_
            refine V.goto (pc := 43) (tgt := 15) hG dX7_isLike_43 (by decide) ?_
            refine V.pick [1, 2, 0] rfl ?_
            exact ih15 (wr (x2_15 + 1)) ((sR_wr _)) h
          · have h := f70 c68
            clear t69 f70
            refine V.iconst (pc := 38) hG dX7_isLike_38 ?_
            exact fin dX7_isLike_39 ((sR_l rfl)) (nar_z (by decide)) hi hw ⟨rfl, rfl, h⟩
    refine V.pick [1, 2, 0] rfl ?_
    exact lp15 n38 0 ((sR_l rfl)) h
  · have h := f5 c3
    clear t4 f5
    refine V.iconst (pc := 11) hG dX7_isLike_11 ?_
    exact fin dX7_isLike_12 ((sR_l rfl)) (nar_z (by decide)) hi hw ⟨rfl, rfl, h⟩
set_option maxRecDepth 100000 in
set_option maxHeartbeats 4000000 in
theorem sm_X11_isSame (l : Launch) (Δ : Wd) {i r : MI}   {Q : Int → MI → MI → Prop} (hi : okI i) (hw : Wf r) (h : wp_X11_isSame  i r Q) : Met l yX11_isSame (Cond.code yX11_isSame cX11_isSame 1 (some .boolean) :: gW) (sRm 6 145) (sPc Δ [.ref (sA Δ 0)] i r) (sQi Δ (Q)) 0 0 (sFr Δ) := by
  refine Ct.i (ty := .boolean) (by decide) rfl (Nat.le_of_ble_eq_true rfl) (fun Γ Q0 hG fin => ?_)
  have hG : okG Γ Δ l (sRm 6 145) cX11_isSame "Schedulary" 1 := hG
  show V Γ Δ 542 false i r 0 0 Q0 0 [(0, .ref (sA Δ 0))] []
  refine V.aload_n (pc := 0) hG dX11_isSame_0 rfl 0 rfl ?_
  refine V.callVv (pc := 1) (As := []) (stk := []) hG (sm_X11_carryOut l Δ  hi hw h) mY_X11_carryOut kw_762 kw_764 kw_12 a_0 (by decide) (q := (RX11, TX11, 11)) rfl rfl ⟨Nat.le_of_ble_eq_true rfl, Nat.le_of_ble_eq_true rfl, Nat.le_of_ble_eq_true rfl, Nat.le_of_ble_eq_true rfl⟩ rfl (Nat.le_of_ble_eq_true rfl) dX11_isSame_1 rfl (fun i2 r3 hi5 hw6 hq7 => ?_)
  obtain ⟨e28, h⟩ := hq7
  subst e28
  refine V.aload_n (pc := 4) hG dX11_isSame_4 rfl 0 rfl ?_
  refine V.iconst (pc := 5) hG dX11_isSame_5 ?_
  refine V.callVv (pc := 6) (As := [.int (sJ 5)]) (stk := []) hG (sm_X11_prepare l Δ ((sR_l rfl)) hi5 hw h) mY_X11_prepare kw_830 kw_832 kw_26 a_0 (by decide) (q := (RX11, TX11, 11)) rfl rfl ⟨Nat.le_of_ble_eq_true rfl, Nat.le_of_ble_eq_true rfl, Nat.le_of_ble_eq_true rfl, Nat.le_of_ble_eq_true rfl⟩ rfl (Nat.le_of_ble_eq_true rfl) dX11_isSame_6 rfl (fun i9 r10 hi12 hw13 hq14 => ?_)
  have h := hq14
  refine V.aload_n (pc := 9) hG dX11_isSame_9 rfl 0 rfl ?_
  refine V.getR (x := 61) (pc := 10) (ci := 13) (k := 2) (M := 11) (T := TX11) (o := 0) (kz := 2) hG a_0 a_0.n (by decide) hin_X11 rfl (by decide) (by decide) rfl kw_578 rfl ((hw13).1 (0, 2, 61) (by decide)) (by decide) dX11_isSame_10 ?_
  refine V.aload_n (pc := 13) hG dX11_isSame_13 rfl 0 rfl ?_
  refine V.getR (x := 480) (pc := 14) (ci := 13) (k := 7) (M := 11) (T := TX11) (o := 0) (kz := 7) hG a_0 a_0.n (by decide) hin_X11 rfl (by decide) (by decide) rfl kw_583 rfl ((hw13).1 (0, 7, 480) (by decide)) (by decide) dX11_isSame_14 ?_
  refine V.getRN (x := 481) (pc := 17) (ci := 3) (k := 0) (M := 2) (T := TX1) (o := 480) (kz := 0) hG a_480 a_480.n (by decide) hin_X1 rfl (by decide) (by decide) rfl kw_538 rfl ((hw13).1 (480, 0, 481) (by decide)) (by decide) dX11_isSame_17 ?_
  refine V.callVNi (pc := 20) (As := [.ref (sA Δ 481)]) (stk := []) hG (sm_X7_isLike l Δ sta_61 sta_481 hi12 hw13 h) mY_X7_isLike kw_1167 kw_1169 kw_83 a_61 (by decide) (q := (RX7, TX7, 5)) rfl rfl ⟨Nat.le_of_ble_eq_true rfl, Nat.le_of_ble_eq_true rfl, Nat.le_of_ble_eq_true rfl, Nat.le_of_ble_eq_true rfl⟩ rfl (Nat.le_of_ble_eq_true rfl) dX11_isSame_20 rfl (fun v15 i16 r17 hv18 hi19 hw20 hq21 => ?_)
  obtain ⟨e23, e24, h⟩ := hq21
  subst e23
  subst e24
  obtain ⟨g22, h⟩ := h
  exact fin dX11_isSame_23 hv18 (nar_z g22) hi12 hw13 h
set_option maxRecDepth 100000 in
set_option maxHeartbeats 4000000 in
theorem sm_X5_append (l : Launch) (Δ : Wd) {i r : MI} {p1 : Int} {p2 : Int} {p3 : Int} (hp1 : sR p1) (hp2 : sR p2) (hp3 : sR p3) {Q : Int → MI → Prop} (hi : okI i) (hw : Wf r) (h : wp_X5_append p1 p2 p3 i r Q) : Met l yX5_append (Cond.code yX5_append cX5_append 5 (some .int) :: gW) (sRm 0 0) (sPc Δ [.ref (sA Δ 488), .int (sJ p1), .int (sJ p2), .int (sJ p3)] i r) (sQi Δ (fun x i' r' => r = r' ∧ Q x i')) 0 0 (sFr Δ) := by
  refine Ct.i (ty := .int) (by decide) rfl (Nat.le_of_ble_eq_true rfl) (fun Γ Q0 hG fin => ?_)
  have hG : okG Γ Δ l (sRm 0 0) cX5_append "Schedulary$Processes" 5 := hG
  show V Γ Δ 542 false i r 0 0 Q0 0 [(0, .ref (sA Δ 488)), (1, .int (sJ p1)), (2, .int (sJ p2)), (3, .int (sJ p3))] []
  have jn53 : ∀  (ij53 : MI), okI ij53 → s53_X5_append p1 ij53 r Q → V Γ Δ 542 false ij53 r 0 0 Q0 53 [(0, .ref (sA Δ 488)), (1, .int (sJ p1))] [] := by
    intro ij53 hij53 h
    refine V.aload_n (pc := 53) hG dX5_append_53 rfl 0 rfl ?_
    refine V.getR (x := 499) (pc := 54) (ci := 7) (k := 2) (M := 7) (T := TX5) (o := 488) (kz := 2) hG a_488 a_488.n (by decide) hin_X5 rfl (by decide) (by decide) rfl kw_554 rfl ((hw).1 (488, 2, 499) (by decide)) (by decide) dX5_append_54 ?_
    refine V.iload_n (pc := 57) hG dX5_append_57 rfl 1 rfl ?_
    obtain ⟨g2, h⟩ := h
    refine V.iald (pc := 58) (z := 4) (o := 499) hG a_499 a_499.n hp1 g2 dX5_append_58 ?_
    exact fin dX5_append_59 ((hij53 _ _)) rfl hij53 hw ⟨rfl, h⟩
  have jn42 : ∀ (x4j42 : Int) (k0j42 : Int) (k1j42 : Int) (k2j42 : Int) (ij42 : MI), sR x4j42 → isA k0j42 (20, 16) → sR k1j42 → sR k2j42 → okI ij42 → s42_X5_append p1 x4j42 k0j42 k1j42 k2j42 ij42 r Q → V Γ Δ 542 false ij42 r 0 0 Q0 42 [(0, .ref (sA Δ 488)), (1, .int (sJ p1)), (4, .int (sJ x4j42))] [.int (sJ k2j42), .int (sJ k1j42), .ref (sA Δ k0j42)] := by
    intro x4j42 k0j42 k1j42 k2j42 ij42 hx4j42 hk0j42 hk1j42 hk2j42 hij42 h
    obtain ⟨g5, h⟩ := h
    refine V.iast (pc := 42) (z := 16) (o := k0j42) hG hk0j42 hk0j42.n hk1j42 g5 dX5_append_42 ?_
    refine V.aload_n (pc := 43) hG dX5_append_43 rfl 0 rfl ?_
    refine V.getR (x := 499) (pc := 44) (ci := 7) (k := 2) (M := 7) (T := TX5) (o := 488) (kz := 2) hG a_488 a_488.n (by decide) hin_X5 rfl (by decide) (by decide) rfl kw_554 rfl ((hw).1 (488, 2, 499) (by decide)) (by decide) dX5_append_44 ?_
    refine V.iload_n (pc := 47) hG dX5_append_47 rfl 1 rfl ?_
    refine V.iload (pc := 48) hG dX5_append_48 2 rfl ?_
    refine V.iconst (pc := 50) hG dX5_append_50 ?_
    refine V.iadd (pc := 51) hG dX5_append_51 ?_
    obtain ⟨g6, h⟩ := h
    refine V.iast (pc := 52) (z := 4) (o := 499) hG a_499 a_499.n hp1 g6 dX5_append_52 ?_
    refine V.pick [0, 1] rfl ?_
    exact jn53 (st (st ij42 k0j42 k1j42 k2j42) 499 p1 (wr (x4j42 + 1))) ((okI_st ((okI_st hij42 hk2j42)) ((sR_wr _)))) h
  refine V.aload_n (pc := 0) hG dX5_append_0 rfl 0 rfl ?_
  refine V.getR (x := 499) (pc := 1) (ci := 7) (k := 2) (M := 7) (T := TX5) (o := 488) (kz := 2) hG a_488 a_488.n (by decide) hin_X5 rfl (by decide) (by decide) rfl kw_554 rfl ((hw).1 (488, 2, 499) (by decide)) (by decide) dX5_append_1 ?_
  refine V.iload_n (pc := 4) hG dX5_append_4 rfl 1 rfl ?_
  obtain ⟨g7, h⟩ := h
  refine V.iald (pc := 5) (z := 4) (o := 499) hG a_499 a_499.n hp1 g7 dX5_append_5 ?_
  refine V.istore (pc := 6) (lv' := [(4, .int (sJ (i 499 p1))), (0, .ref (sA Δ 488)), (1, .int (sJ p1)), (2, .int (sJ p2)), (3, .int (sJ p3))]) hG dX5_append_6 (by decide) rfl ?_
  refine V.iload (pc := 8) hG dX5_append_8 0 rfl ?_
  refine V.bipush (pc := 10) hG dX5_append_10 (by decide) ?_
  obtain ⟨t9, f10⟩ := h
  refine V.icmp_ge (pc := 12) (tgt := 53) hG ((hi _ _)) ((sR_l rfl)) dX5_append_12 (by decide) (fun c8 => ?_) (fun c8 => ?_)
  · have h := t9 c8
    clear t9 f10
    refine V.pick [1, 2] rfl ?_
    exact jn53 i hi h
  · have h := f10 c8
    clear t9 f10
    refine V.aload_n (pc := 15) hG dX5_append_15 rfl 1 rfl ?_
    refine V.getR (x := 489) (pc := 16) (ci := 7) (k := 0) (M := 7) (T := TX5) (o := 488) (kz := 0) hG a_488 a_488.n (by decide) hin_X5 rfl (by decide) (by decide) rfl kw_552 rfl ((hw).1 (488, 0, 489) (by decide)) (by decide) dX5_append_16 ?_
    refine V.iload_n (pc := 19) hG dX5_append_19 rfl 2 rfl ?_
    obtain ⟨g11, h⟩ := h
    refine V.aald (pc := 20) 7 (z := 4) (o := 489) (x := p1) (y := 490 + p1) hG a_489 a_489.n (by decide) hp1 g11 (hw.2.1 (489, 4, 490) (by decide) _ g11.1 g11.2) (by omega) dX5_append_20 ?_
    refine V.iload (pc := 21) hG dX5_append_21 0 rfl ?_
    refine V.iload_n (pc := 23) hG dX5_append_23 rfl 3 rfl ?_
    obtain ⟨g12, h⟩ := h
    refine V.iast (pc := 24) (z := 16) (o := 490 + p1) hG (row_489 g11) ((row_489 g11)).n ((hi _ _)) g12 dX5_append_24 ?_
    refine V.aload_n (pc := 25) hG dX5_append_25 rfl 1 rfl ?_
    refine V.getR (x := 494) (pc := 26) (ci := 7) (k := 1) (M := 7) (T := TX5) (o := 488) (kz := 1) hG a_488 a_488.n (by decide) hin_X5 rfl (by decide) (by decide) rfl kw_553 rfl ((hw).1 (488, 1, 494) (by decide)) (by decide) dX5_append_26 ?_
    refine V.iload_n (pc := 29) hG dX5_append_29 rfl 2 rfl ?_
    obtain ⟨g13, h⟩ := h
    refine V.aald (pc := 30) 7 (z := 4) (o := 494) (x := p1) (y := 495 + p1) hG a_494 a_494.n (by decide) hp1 g13 (hw.2.1 (494, 4, 495) (by decide) _ g13.1 g13.2) (by omega) dX5_append_30 ?_
    refine V.iload (pc := 31) hG dX5_append_31 0 rfl ?_
    refine V.iload_n (pc := 33) hG dX5_append_33 rfl 4 rfl ?_
    obtain ⟨t15, f16⟩ := h
    refine V.if_eq (pc := 34) (tgt := 41) hG hp3 dX5_append_34 (by decide) (fun c14 => ?_) (fun c14 => ?_)
    · have h := t15 c14
      clear t15 f16
      refine V.iconst (pc := 41) hG dX5_append_41 ?_
      refine V.pick [1, 2, 0] rfl ?_
      exact jn42 (i 499 p1) (495 + p1) (i 499 p1) (-1) (st i (490 + p1) (i 499 p1) p2) ((hi _ _)) ((row_494 g13)) ((hi _ _)) ((sR_l rfl)) ((okI_st hi hp2)) h
    · have h := f16 c14
      clear t15 f16
      refine V.iconst (pc := 37) hG dX5_append_37 ?_
      refine V.goto (pc := 38) (tgt := 42) hG dX5_append_38 (by decide) ?_
      refine V.pick [1, 2, 0] rfl ?_
      exact jn42 (i 499 p1) (495 + p1) (i 499 p1) 1 (st i (490 + p1) (i 499 p1) p2) ((hi _ _)) ((row_494 g13)) ((hi _ _)) ((sR_l rfl)) ((okI_st hi hp2)) h
set_option maxRecDepth 100000 in
set_option maxHeartbeats 4000000 in
theorem sm_X11_action (l : Launch) (Δ : Wd) {i r : MI} {p1 : Int} {p2 : Int} {p3 : Int} (hp1 : sR p1) (hp2 : sR p2) (hp3 : sR p3) {Q : Int → MI → Prop} {X : String → MI → Prop} (hst : l.stackTraces = false) (hi : okI i) (hw : Wf r) (h : wp_X11_action p1 p2 p3 i r Q X) : vx_Met l yX11_action (Cond.code yX11_action cX11_action 4 (some .int) :: gW) (sRx 6 82 1 6) (sPc Δ [.ref (sA Δ 0), .int (sJ p1), .int (sJ p2), .int (sJ p3)] i r) (sQi Δ (fun x i' r' => r = r' ∧ Q x i')) (sX Δ (fun E i' r' => r = r' ∧ X E i')) 1 6 (sFr Δ) := by
  refine Cx.i (ty := .int) (by decide) rfl (Nat.le_of_ble_eq_true rfl) hst (by decide) (by decide) (fun Γ Q0 hG fin xout xthr => ?_)
  have hG : okG Γ Δ l (sRx 6 82 1 6) cX11_action "Schedulary" 4 := hG
  show V Γ Δ 542 false i r 0 0 Q0 0 [(0, .ref (sA Δ 0)), (1, .int (sJ p1)), (2, .int (sJ p2)), (3, .int (sJ p3))] []
  have jn18 : ∀  (ij18 : MI), okI ij18 → s18_X11_action ij18 r Q X → V Γ Δ 542 false ij18 r 0 0 Q0 18 [] [] := by
    intro ij18 hij18 h
    exact xthr ⟨88, 326, 92, "no such process or channel", by decide, kw_1255, kw_180, by decide, .inl th_92, dX11_action_18, dX11_action_21, Or.inr ⟨dX11_action_22, dX11_action_25, dX11_action_28⟩⟩ (by decide) (by decide) hij18 hw ⟨rfl, h⟩
  refine V.iload_n (pc := 0) hG dX11_action_0 rfl 1 rfl ?_
  refine V.iconst (pc := 1) hG dX11_action_1 ?_
  refine V.iconst (pc := 2) hG dX11_action_2 ?_
  refine V.callSi (pc := 3) (As := [.int (sJ p1), .int (sJ 0), .int (sJ 3)]) (stk := []) hG (sm_X11_isWithin l Δ hp1 ((sR_l rfl)) ((sR_l rfl)) hi hw h) mY_X11_isWithin kw_1415 kw_1031 ⟨Nat.le_of_ble_eq_true rfl, Nat.le_of_ble_eq_true rfl, Nat.le_of_ble_eq_true rfl, Nat.le_of_ble_eq_true rfl⟩ rfl (Nat.le_of_ble_eq_true rfl) dX11_action_3 rfl (fun v1 i2 r3 hv4 hi5 hw6 hq7 => ?_)
  obtain ⟨e36, e37, h⟩ := hq7
  subst e36
  subst e37
  obtain ⟨t9, f10⟩ := h
  refine V.if_eq (pc := 6) (tgt := 18) hG hv4 dX11_action_6 (by decide) (fun c8 => ?_) (fun c8 => ?_)
  · have h := t9 c8
    clear t9 f10
    refine V.pick [] rfl ?_
    exact jn18 i hi h
  · have h := f10 c8
    clear t9 f10
    refine V.iload_n (pc := 9) hG dX11_action_9 rfl 2 rfl ?_
    refine V.iconst (pc := 10) hG dX11_action_10 ?_
    refine V.iconst (pc := 11) hG dX11_action_11 ?_
    refine V.callSi (pc := 12) (As := [.int (sJ p2), .int (sJ 0), .int (sJ 3)]) (stk := []) hG (sm_X11_isWithin l Δ hp2 ((sR_l rfl)) ((sR_l rfl)) hi hw h) mY_X11_isWithin kw_1415 kw_1031 ⟨Nat.le_of_ble_eq_true rfl, Nat.le_of_ble_eq_true rfl, Nat.le_of_ble_eq_true rfl, Nat.le_of_ble_eq_true rfl⟩ rfl (Nat.le_of_ble_eq_true rfl) dX11_action_12 rfl (fun v11 i12 r13 hv14 hi15 hw16 hq17 => ?_)
    obtain ⟨e34, e35, h⟩ := hq17
    subst e34
    subst e35
    obtain ⟨f20, t19⟩ := h
    refine V.if_ne (pc := 15) (tgt := 29) hG hv14 dX11_action_15 (by decide) (fun c18 => ?_) (fun c18 => ?_)
    · have h := t19 c18
      clear t19 f20
      refine V.aload_n (pc := 29) hG dX11_action_29 rfl 0 rfl ?_
      refine V.getR (x := 488) (pc := 30) (ci := 13) (k := 8) (M := 11) (T := TX11) (o := 0) (kz := 8) hG a_0 a_0.n (by decide) hin_X11 rfl (by decide) (by decide) rfl kw_584 rfl ((hw).1 (0, 8, 488) (by decide)) (by decide) dX11_action_30 ?_
      refine V.getRN (x := 499) (pc := 33) (ci := 7) (k := 2) (M := 7) (T := TX5) (o := 488) (kz := 2) hG a_488 a_488.n (by decide) hin_X5 rfl (by decide) (by decide) rfl kw_555 rfl ((hw).1 (488, 2, 499) (by decide)) (by decide) dX11_action_33 ?_
      refine V.iload_n (pc := 36) hG dX11_action_36 rfl 1 rfl ?_
      obtain ⟨g21, h⟩ := h
      refine V.iald (pc := 37) (z := 4) (o := 499) hG a_499 a_499.n hp1 g21 dX11_action_37 ?_
      refine V.bipush (pc := 38) hG dX11_action_38 (by decide) ?_
      obtain ⟨t23, f24⟩ := h
      refine V.icmp_lt (pc := 40) (tgt := 54) hG ((hi _ _)) ((sR_l rfl)) dX11_action_40 (by decide) (fun c22 => ?_) (fun c22 => ?_)
      · have h := t23 c22
        clear t23 f24
        refine V.aload_n (pc := 54) hG dX11_action_54 rfl 0 rfl ?_
        refine V.getR (x := 488) (pc := 55) (ci := 13) (k := 8) (M := 11) (T := TX11) (o := 0) (kz := 8) hG a_0 a_0.n (by decide) hin_X11 rfl (by decide) (by decide) rfl kw_584 rfl ((hw).1 (0, 8, 488) (by decide)) (by decide) dX11_action_55 ?_
        refine V.iload_n (pc := 58) hG dX11_action_58 rfl 1 rfl ?_
        refine V.iload_n (pc := 59) hG dX11_action_59 rfl 2 rfl ?_
        refine V.iload_n (pc := 60) hG dX11_action_60 rfl 3 rfl ?_
        refine V.callVNi (pc := 61) (As := [.int (sJ p1), .int (sJ p2), .int (sJ p3)]) (stk := []) hG (sm_X5_append l Δ hp1 hp2 hp3 hi hw h) mY_X5_append kw_1617 kw_1619 kw_103 a_488 (by decide) (q := (RX5, TX5, 7)) rfl rfl ⟨Nat.le_of_ble_eq_true rfl, Nat.le_of_ble_eq_true rfl, Nat.le_of_ble_eq_true rfl, Nat.le_of_ble_eq_true rfl⟩ rfl (Nat.le_of_ble_eq_true rfl) dX11_action_61 rfl (fun v25 i26 r27 hv28 hi29 hw30 hq31 => ?_)
        obtain ⟨e33, h⟩ := hq31
        subst e33
        exact fin dX11_action_64 hv28 rfl (by decide) (by decide) hi29 hw ⟨rfl, h⟩
      · have h := f24 c22
        clear t23 f24
        exact xthr ⟨98, 331, 102, "too many actions", by decide, kw_1326, kw_181, by decide, .inl th_102, dX11_action_43, dX11_action_46, Or.inr ⟨dX11_action_47, dX11_action_50, dX11_action_53⟩⟩ (by decide) (by decide) hi hw ⟨rfl, h⟩
    · have h := f20 c18
      clear t19 f20
      refine V.pick [] rfl ?_
      exact jn18 i hi h
set_option maxRecDepth 100000 in
set_option maxHeartbeats 4000000 in
theorem sm_X11_setDepth (l : Launch) (Δ : Wd) {i r : MI} {p1 : Int} {p2 : Int} (hp1 : sR p1) (hp2 : sR p2) {Q : Int → MI → Prop} {X : String → MI → Prop} (hst : l.stackTraces = false) (hi : okI i) (hw : Wf r) (h : wp_X11_setDepth p1 p2 i r Q X) : vx_Met l yX11_setDepth (Cond.code yX11_setDepth cX11_setDepth 4 (some .int) :: gW) (sRx 6 82 1 6) (sPc Δ [.ref (sA Δ 0), .int (sJ p1), .int (sJ p2)] i r) (sQi Δ (fun x i' r' => r = r' ∧ Q x i')) (sX Δ (fun E i' r' => r = r' ∧ X E i')) 1 6 (sFr Δ) := by
  refine Cx.i (ty := .int) (by decide) rfl (Nat.le_of_ble_eq_true rfl) hst (by decide) (by decide) (fun Γ Q0 hG fin xout xthr => ?_)
  have hG : okG Γ Δ l (sRx 6 82 1 6) cX11_setDepth "Schedulary" 4 := hG
  show V Γ Δ 542 false i r 0 0 Q0 0 [(0, .ref (sA Δ 0)), (1, .int (sJ p1)), (2, .int (sJ p2))] []
  have jn19 : ∀  (ij19 : MI), okI ij19 → s19_X11_setDepth ij19 r Q X → V Γ Δ 542 false ij19 r 0 0 Q0 19 [] [] := by
    intro ij19 hij19 h
    exact xthr ⟨88, 336, 92, "no such channel, or not 1 to 16 deep", by decide, kw_1255, kw_180, by decide, .inl th_92, dX11_setDepth_19, dX11_setDepth_22, Or.inr ⟨dX11_setDepth_23, dX11_setDepth_26, dX11_setDepth_29⟩⟩ (by decide) (by decide) hij19 hw ⟨rfl, h⟩
  refine V.iload_n (pc := 0) hG dX11_setDepth_0 rfl 1 rfl ?_
  refine V.iconst (pc := 1) hG dX11_setDepth_1 ?_
  refine V.iconst (pc := 2) hG dX11_setDepth_2 ?_
  refine V.callSi (pc := 3) (As := [.int (sJ p1), .int (sJ 0), .int (sJ 3)]) (stk := []) hG (sm_X11_isWithin l Δ hp1 ((sR_l rfl)) ((sR_l rfl)) hi hw h) mY_X11_isWithin kw_1415 kw_1031 ⟨Nat.le_of_ble_eq_true rfl, Nat.le_of_ble_eq_true rfl, Nat.le_of_ble_eq_true rfl, Nat.le_of_ble_eq_true rfl⟩ rfl (Nat.le_of_ble_eq_true rfl) dX11_setDepth_3 rfl (fun v1 i2 r3 hv4 hi5 hw6 hq7 => ?_)
  obtain ⟨e25, e26, h⟩ := hq7
  subst e25
  subst e26
  obtain ⟨t9, f10⟩ := h
  refine V.if_eq (pc := 6) (tgt := 19) hG hv4 dX11_setDepth_6 (by decide) (fun c8 => ?_) (fun c8 => ?_)
  · have h := t9 c8
    clear t9 f10
    refine V.pick [] rfl ?_
    exact jn19 i hi h
  · have h := f10 c8
    clear t9 f10
    refine V.iload_n (pc := 9) hG dX11_setDepth_9 rfl 2 rfl ?_
    refine V.iconst (pc := 10) hG dX11_setDepth_10 ?_
    refine V.bipush (pc := 11) hG dX11_setDepth_11 (by decide) ?_
    refine V.callSi (pc := 13) (As := [.int (sJ p2), .int (sJ 1), .int (sJ 16)]) (stk := []) hG (sm_X11_isWithin l Δ hp2 ((sR_l rfl)) ((sR_l rfl)) hi hw h) mY_X11_isWithin kw_1415 kw_1031 ⟨Nat.le_of_ble_eq_true rfl, Nat.le_of_ble_eq_true rfl, Nat.le_of_ble_eq_true rfl, Nat.le_of_ble_eq_true rfl⟩ rfl (Nat.le_of_ble_eq_true rfl) dX11_setDepth_13 rfl (fun v11 i12 r13 hv14 hi15 hw16 hq17 => ?_)
    obtain ⟨e23, e24, h⟩ := hq17
    subst e23
    subst e24
    obtain ⟨f20, t19⟩ := h
    refine V.if_ne (pc := 16) (tgt := 30) hG hv14 dX11_setDepth_16 (by decide) (fun c18 => ?_) (fun c18 => ?_)
    · have h := t19 c18
      clear t19 f20
      refine V.aload_n (pc := 30) hG dX11_setDepth_30 rfl 0 rfl ?_
      refine V.getR (x := 488) (pc := 31) (ci := 13) (k := 8) (M := 11) (T := TX11) (o := 0) (kz := 8) hG a_0 a_0.n (by decide) hin_X11 rfl (by decide) (by decide) rfl kw_584 rfl ((hw).1 (0, 8, 488) (by decide)) (by decide) dX11_setDepth_31 ?_
      refine V.getRN (x := 500) (pc := 34) (ci := 7) (k := 3) (M := 7) (T := TX5) (o := 488) (kz := 3) hG a_488 a_488.n (by decide) hin_X5 rfl (by decide) (by decide) rfl kw_557 rfl ((hw).1 (488, 3, 500) (by decide)) (by decide) dX11_setDepth_34 ?_
      refine V.iload_n (pc := 37) hG dX11_setDepth_37 rfl 1 rfl ?_
      obtain ⟨g21, h⟩ := h
      refine V.iald (pc := 38) (z := 4) (o := 500) hG a_500 a_500.n hp1 g21 dX11_setDepth_38 ?_
      refine V.istore_n (pc := 39) (lv' := [(3, .int (sJ (i 500 p1))), (0, .ref (sA Δ 0)), (1, .int (sJ p1)), (2, .int (sJ p2))]) hG dX11_setDepth_39 rfl (by decide) rfl ?_
      refine V.aload_n (pc := 40) hG dX11_setDepth_40 rfl 1 rfl ?_
      refine V.getR (x := 488) (pc := 41) (ci := 13) (k := 8) (M := 11) (T := TX11) (o := 0) (kz := 8) hG a_0 a_0.n (by decide) hin_X11 rfl (by decide) (by decide) rfl kw_584 rfl ((hw).1 (0, 8, 488) (by decide)) (by decide) dX11_setDepth_41 ?_
      refine V.getRN (x := 500) (pc := 44) (ci := 7) (k := 3) (M := 7) (T := TX5) (o := 488) (kz := 3) hG a_488 a_488.n (by decide) hin_X5 rfl (by decide) (by decide) rfl kw_557 rfl ((hw).1 (488, 3, 500) (by decide)) (by decide) dX11_setDepth_44 ?_
      refine V.iload_n (pc := 47) hG dX11_setDepth_47 rfl 2 rfl ?_
      refine V.iload_n (pc := 48) hG dX11_setDepth_48 rfl 3 rfl ?_
      obtain ⟨g22, h⟩ := h
      refine V.iast (pc := 49) (z := 4) (o := 500) hG a_500 a_500.n hp1 g22 dX11_setDepth_49 ?_
      refine V.iload_n (pc := 50) hG dX11_setDepth_50 rfl 0 rfl ?_
      exact fin dX11_setDepth_51 ((hi _ _)) rfl (by decide) (by decide) ((okI_st hi hp2)) hw ⟨rfl, h⟩
    · have h := f20 c18
      clear t19 f20
      refine V.pick [] rfl ?_
      exact jn19 i hi h
set_option maxRecDepth 100000 in
set_option maxHeartbeats 4000000 in
theorem sm_X5_countDone (l : Launch) (Δ : Wd) {i r : MI}   {Q : Int → Prop} (hi : okI i) (hw : Wf r) (h : wp_X5_countDone  i r Q) : Met l yX5_countDone (Cond.code yX5_countDone cX5_countDone 3 (some .int) :: gW) (sRm 0 0) (sPc Δ [.ref (sA Δ 488)] i r) (sQi Δ (fun x i' r' => i = i' ∧ r = r' ∧ Q x)) 0 0 (sFr Δ) := by
  refine Ct.i (ty := .int) (by decide) rfl (Nat.le_of_ble_eq_true rfl) (fun Γ Q0 hG fin => ?_)
  have hG : okG Γ Δ l (sRm 0 0) cX5_countDone "Schedulary$Processes" 3 := hG
  show V Γ Δ 542 false i r 0 0 Q0 0 [(0, .ref (sA Δ 488))] []
  refine V.iconst (pc := 0) hG dX5_countDone_0 ?_
  refine V.istore_n (pc := 1) (lv' := [(1, .int (sJ 0)), (0, .ref (sA Δ 488))]) hG dX5_countDone_1 rfl (by decide) rfl ?_
  refine V.iconst (pc := 2) hG dX5_countDone_2 ?_
  refine V.istore_n (pc := 3) (lv' := [(2, .int (sJ 0)), (1, .int (sJ 0)), (0, .ref (sA Δ 488))]) hG dX5_countDone_3 rfl (by decide) rfl ?_
  obtain ⟨n5, h⟩ := h
  have lp4 : ∀ (m4 : Nat) (x1_4 : Int) (x2_4 : Int), sR x1_4 → sR x2_4 → LoopP (b4_X5_countDone i r Q) m4 (x1_4, x2_4) → V Γ Δ 542 false i r 0 0 Q0 4 [(0, .ref (sA Δ 488)), (1, .int (sJ x1_4)), (2, .int (sJ x2_4))] [] := by
    intro m4
    induction m4 with
    | zero => intro x1_4 x2_4 hx1_4 hx2_4 h; exact h.elim
    | succ m4 ih4 =>
      intro x1_4 x2_4 hx1_4 hx2_4 h
      have h := LoopP_succ h
      refine V.iload_n (pc := 4) hG dX5_countDone_4 rfl 2 rfl ?_
      refine V.iconst (pc := 5) hG dX5_countDone_5 ?_
      obtain ⟨t7, f8⟩ := h
      refine V.icmp_ge (pc := 6) (tgt := 24) hG hx2_4 ((sR_l rfl)) dX5_countDone_6 (by decide) (fun c6 => ?_) (fun c6 => ?_)
      · have h := t7 c6
        clear t7 f8
        refine V.iload_n (pc := 24) hG dX5_countDone_24 rfl 1 rfl ?_
        exact fin dX5_countDone_25 hx1_4 rfl hi hw ⟨rfl, rfl, h⟩
      · have h := f8 c6
        clear t7 f8
        refine V.iload_n (pc := 9) hG dX5_countDone_9 rfl 1 rfl ?_
        refine V.aload_n (pc := 10) hG dX5_countDone_10 rfl 0 rfl ?_
        refine V.getR (x := 503) (pc := 11) (ci := 7) (k := 6) (M := 7) (T := TX5) (o := 488) (kz := 6) hG a_488 a_488.n (by decide) hin_X5 rfl (by decide) (by decide) rfl kw_560 rfl ((hw).1 (488, 6, 503) (by decide)) (by decide) dX5_countDone_11 ?_
        refine V.iload_n (pc := 14) hG dX5_countDone_14 rfl 2 rfl ?_
        obtain ⟨g9, h⟩ := h
        refine V.iald (pc := 15) (z := 4) (o := 503) hG a_503 a_503.n hx2_4 g9 dX5_countDone_15 ?_
        refine V.iadd (pc := 16) hG dX5_countDone_16 ?_
        refine V.istore_n (pc := 17) (lv' := [(1, .int (sJ (wr (x1_4 + i 503 x2_4)))), (0, .ref (sA Δ 488)), (2, .int (sJ x2_4))]) hG dX5_countDone_17 rfl (by decide) rfl ?_
        refine V.iinc (pc := 18) (lv' := [(2, .int (sJ (wr (x2_4 + 1)))), (1, .int (sJ (wr (x1_4 + i 503 x2_4)))), (0, .ref (sA Δ 488))]) hG dX5_countDone_18 2 rfl (by decide) rfl ?_
        refine V.goto (pc := 21) (tgt := 4) hG dX5_countDone_21 (by decide) ?_
        refine V.pick [2, 1, 0] rfl ?_
        exact ih4 (wr (x1_4 + i 503 x2_4)) (wr (x2_4 + 1)) ((sR_wr _)) ((sR_wr _)) h
  refine V.pick [2, 1, 0] rfl ?_
  exact lp4 n5 0 0 ((sR_l rfl)) ((sR_l rfl)) h
set_option maxRecDepth 100000 in
set_option maxHeartbeats 4000000 in
theorem sm_X5_goOn (l : Launch) (Δ : Wd) {i r : MI} {p1 : Int} (hp1 : sR p1) {Q : MI → Prop} (hi : okI i) (hw : Wf r) (h : wp_X5_goOn p1 i r Q) : Met l yX5_goOn (Cond.code yX5_goOn cX5_goOn 5 none :: gW) (sRm 0 0) (sPc Δ [.ref (sA Δ 488), .int (sJ p1)] i r) (sQv Δ (fun i' r' => r = r' ∧ Q i')) 0 0 (sFr Δ) := by
  refine Ct.v (by decide) rfl (Nat.le_of_ble_eq_true rfl) (fun Γ Q0 hG fin => ?_)
  have hG : okG Γ Δ l (sRm 0 0) cX5_goOn "Schedulary$Processes" 5 := hG
  show V Γ Δ 542 false i r 0 0 Q0 0 [(0, .ref (sA Δ 488)), (1, .int (sJ p1))] []
  have jn59 : ∀  (ij59 : MI), okI ij59 → s59_X5_goOn ij59 r Q → V Γ Δ 542 false ij59 r 0 0 Q0 59 [] [] := by
    intro ij59 hij59 h
    exact fin dX5_goOn_59 hij59 hw ⟨rfl, h⟩
  refine V.aload_n (pc := 0) hG dX5_goOn_0 rfl 0 rfl ?_
  refine V.getR (x := 503) (pc := 1) (ci := 7) (k := 6) (M := 7) (T := TX5) (o := 488) (kz := 6) hG a_488 a_488.n (by decide) hin_X5 rfl (by decide) (by decide) rfl kw_560 rfl ((hw).1 (488, 6, 503) (by decide)) (by decide) dX5_goOn_1 ?_
  refine V.iload_n (pc := 4) hG dX5_goOn_4 rfl 1 rfl ?_
  obtain ⟨g1, h⟩ := h
  refine V.iald (pc := 5) (z := 4) (o := 503) hG a_503 a_503.n hp1 g1 dX5_goOn_5 ?_
  refine V.istore_n (pc := 6) (lv' := [(2, .int (sJ (i 503 p1))), (0, .ref (sA Δ 488)), (1, .int (sJ p1))]) hG dX5_goOn_6 rfl (by decide) rfl ?_
  obtain ⟨n20, h⟩ := h
  have lp7 : ∀ (m7 : Nat) (x2_7 : Int) (i_7 : MI), sR x2_7 → okI i_7 → LoopP (b7_X5_goOn p1 r Q) m7 (x2_7, i_7) → V Γ Δ 542 false i_7 r 0 0 Q0 7 [(0, .ref (sA Δ 488)), (1, .int (sJ p1)), (2, .int (sJ x2_7))] [] := by
    intro m7
    induction m7 with
    | zero => intro x2_7 i_7 hx2_7 hi_7 h; exact h.elim
    | succ m7 ih7 =>
      intro x2_7 i_7 hx2_7 hi_7 h
      have h := LoopP_succ h
      refine V.iload_n (pc := 7) hG dX5_goOn_7 rfl 2 rfl ?_
      refine V.aload_n (pc := 8) hG dX5_goOn_8 rfl 0 rfl ?_
      refine V.getR (x := 499) (pc := 9) (ci := 7) (k := 2) (M := 7) (T := TX5) (o := 488) (kz := 2) hG a_488 a_488.n (by decide) hin_X5 rfl (by decide) (by decide) rfl kw_554 rfl ((hw).1 (488, 2, 499) (by decide)) (by decide) dX5_goOn_9 ?_
      refine V.iload_n (pc := 12) hG dX5_goOn_12 rfl 1 rfl ?_
      obtain ⟨g21, h⟩ := h
      refine V.iald (pc := 13) (z := 4) (o := 499) hG a_499 a_499.n hp1 g21 dX5_goOn_13 ?_
      obtain ⟨t23, f24⟩ := h
      refine V.icmp_ge (pc := 14) (tgt := 83) hG hx2_7 ((hi_7 _ _)) dX5_goOn_14 (by decide) (fun c22 => ?_) (fun c22 => ?_)
      · have h := t23 c22
        clear t23 f24
        exact fin dX5_goOn_83 hi_7 hw ⟨rfl, h⟩
      · have h := f24 c22
        clear t23 f24
        refine V.aload_n (pc := 17) hG dX5_goOn_17 rfl 0 rfl ?_
        refine V.getR (x := 489) (pc := 18) (ci := 7) (k := 0) (M := 7) (T := TX5) (o := 488) (kz := 0) hG a_488 a_488.n (by decide) hin_X5 rfl (by decide) (by decide) rfl kw_552 rfl ((hw).1 (488, 0, 489) (by decide)) (by decide) dX5_goOn_18 ?_
        refine V.iload_n (pc := 21) hG dX5_goOn_21 rfl 1 rfl ?_
        obtain ⟨g25, h⟩ := h
        refine V.aald (pc := 22) 7 (z := 4) (o := 489) (x := p1) (y := 490 + p1) hG a_489 a_489.n (by decide) hp1 g25 (hw.2.1 (489, 4, 490) (by decide) _ g25.1 g25.2) (by omega) dX5_goOn_22 ?_
        refine V.iload_n (pc := 23) hG dX5_goOn_23 rfl 2 rfl ?_
        obtain ⟨g26, h⟩ := h
        refine V.iald (pc := 24) (z := 16) (o := 490 + p1) hG (row_489 g25) ((row_489 g25)).n hx2_7 g26 dX5_goOn_24 ?_
        refine V.istore_n (pc := 25) (lv' := [(3, .int (sJ (i_7 (490 + p1) x2_7))), (0, .ref (sA Δ 488)), (1, .int (sJ p1)), (2, .int (sJ x2_7))]) hG dX5_goOn_25 rfl (by decide) rfl ?_
        refine V.aload_n (pc := 26) hG dX5_goOn_26 rfl 1 rfl ?_
        refine V.getR (x := 502) (pc := 27) (ci := 7) (k := 5) (M := 7) (T := TX5) (o := 488) (kz := 5) hG a_488 a_488.n (by decide) hin_X5 rfl (by decide) (by decide) rfl kw_559 rfl ((hw).1 (488, 5, 502) (by decide)) (by decide) dX5_goOn_27 ?_
        refine V.iload_n (pc := 30) hG dX5_goOn_30 rfl 0 rfl ?_
        obtain ⟨g27, h⟩ := h
        refine V.iald (pc := 31) (z := 4) (o := 502) hG a_502 a_502.n ((hi_7 _ _)) g27 dX5_goOn_31 ?_
        refine V.aload_n (pc := 32) hG dX5_goOn_32 rfl 1 rfl ?_
        refine V.getR (x := 494) (pc := 33) (ci := 7) (k := 1) (M := 7) (T := TX5) (o := 488) (kz := 1) hG a_488 a_488.n (by decide) hin_X5 rfl (by decide) (by decide) rfl kw_553 rfl ((hw).1 (488, 1, 494) (by decide)) (by decide) dX5_goOn_33 ?_
        refine V.iload_n (pc := 36) hG dX5_goOn_36 rfl 2 rfl ?_
        obtain ⟨g28, h⟩ := h
        refine V.aald (pc := 37) 7 (z := 4) (o := 494) (x := p1) (y := 495 + p1) hG a_494 a_494.n (by decide) hp1 g28 (hw.2.1 (494, 4, 495) (by decide) _ g28.1 g28.2) (by omega) dX5_goOn_37 ?_
        refine V.iload_n (pc := 38) hG dX5_goOn_38 rfl 3 rfl ?_
        obtain ⟨g29, h⟩ := h
        refine V.iald (pc := 39) (z := 16) (o := 495 + p1) hG (row_494 g28) ((row_494 g28)).n hx2_7 g29 dX5_goOn_39 ?_
        refine V.iadd (pc := 40) hG dX5_goOn_40 ?_
        refine V.istore (pc := 41) (lv' := [(4, .int (sJ (wr (i_7 502 (i_7 (490 + p1) x2_7) + i_7 (495 + p1) x2_7)))), (3, .int (sJ (i_7 (490 + p1) x2_7))), (0, .ref (sA Δ 488)), (1, .int (sJ p1)), (2, .int (sJ x2_7))]) hG dX5_goOn_41 (by decide) rfl ?_
        refine V.iload (pc := 43) hG dX5_goOn_43 0 rfl ?_
        obtain ⟨t31, f32⟩ := h
        refine V.if_lt (pc := 45) (tgt := 59) hG ((sR_wr _)) dX5_goOn_45 (by decide) (fun c30 => ?_) (fun c30 => ?_)
        · have h := t31 c30
          clear t31 f32
          refine V.pick [] rfl ?_
          exact jn59 i_7 hi_7 h
        · have h := f32 c30
          clear t31 f32
          refine V.iload (pc := 48) hG dX5_goOn_48 0 rfl ?_
          refine V.aload_n (pc := 50) hG dX5_goOn_50 rfl 2 rfl ?_
          refine V.getR (x := 501) (pc := 51) (ci := 7) (k := 4) (M := 7) (T := TX5) (o := 488) (kz := 4) hG a_488 a_488.n (by decide) hin_X5 rfl (by decide) (by decide) rfl kw_558 rfl ((hw).1 (488, 4, 501) (by decide)) (by decide) dX5_goOn_51 ?_
          refine V.iload_n (pc := 54) hG dX5_goOn_54 rfl 1 rfl ?_
          obtain ⟨g33, h⟩ := h
          refine V.iald (pc := 55) (z := 4) (o := 501) hG a_501 a_501.n ((hi_7 _ _)) g33 dX5_goOn_55 ?_
          obtain ⟨t35, f36⟩ := h
          refine V.icmp_le (pc := 56) (tgt := 60) hG ((sR_wr _)) ((hi_7 _ _)) dX5_goOn_56 (by decide) (fun c34 => ?_) (fun c34 => ?_)
          · have h := t35 c34
            clear t35 f36
            refine V.aload_n (pc := 60) hG dX5_goOn_60 rfl 2 rfl ?_
            refine V.getR (x := 502) (pc := 61) (ci := 7) (k := 5) (M := 7) (T := TX5) (o := 488) (kz := 5) hG a_488 a_488.n (by decide) hin_X5 rfl (by decide) (by decide) rfl kw_559 rfl ((hw).1 (488, 5, 502) (by decide)) (by decide) dX5_goOn_61 ?_
            refine V.iload_n (pc := 64) hG dX5_goOn_64 rfl 1 rfl ?_
            refine V.iload (pc := 65) hG dX5_goOn_65 0 rfl ?_
            obtain ⟨g37, h⟩ := h
            refine V.iast (pc := 67) (z := 4) (o := 502) hG a_502 a_502.n ((hi_7 _ _)) g37 dX5_goOn_67 ?_
            refine V.aload_n (pc := 68) hG dX5_goOn_68 rfl 2 rfl ?_
            refine V.getR (x := 503) (pc := 69) (ci := 7) (k := 6) (M := 7) (T := TX5) (o := 488) (kz := 6) hG a_488 a_488.n (by decide) hin_X5 rfl (by decide) (by decide) rfl kw_560 rfl ((hw).1 (488, 6, 503) (by decide)) (by decide) dX5_goOn_69 ?_
            refine V.iload_n (pc := 72) hG dX5_goOn_72 rfl 3 rfl ?_
            refine V.iload_n (pc := 73) hG dX5_goOn_73 rfl 4 rfl ?_
            refine V.iconst (pc := 74) hG dX5_goOn_74 ?_
            refine V.iadd (pc := 75) hG dX5_goOn_75 ?_
            obtain ⟨g38, h⟩ := h
            refine V.iast (pc := 76) (z := 4) (o := 503) hG a_503 a_503.n hp1 g38 dX5_goOn_76 ?_
            refine V.iinc (pc := 77) (lv' := [(2, .int (sJ (wr (x2_7 + 1)))), (4, .int (sJ (wr (i_7 502 (i_7 (490 + p1) x2_7) + i_7 (495 + p1) x2_7)))), (3, .int (sJ (i_7 (490 + p1) x2_7))), (0, .ref (sA Δ 488)), (1, .int (sJ p1))]) hG dX5_goOn_77 4 rfl (by decide) rfl ?_
            refine V.goto (pc := 80) (tgt := 7) hG dX5_goOn_80 (by decide) ?_
            refine V.pick [3, 4, 0] rfl ?_
            exact ih7 (wr (x2_7 + 1)) (st (st i_7 502 (i_7 (490 + p1) x2_7) (wr (i_7 502 (i_7 (490 + p1) x2_7) + i_7 (495 + p1) x2_7))) 503 p1 (wr (x2_7 + 1))) ((sR_wr _)) ((okI_st ((okI_st hi_7 ((sR_wr _)))) ((sR_wr _)))) h
          · have h := f36 c34
            clear t35 f36
            refine V.pick [] rfl ?_
            exact jn59 i_7 hi_7 h
  refine V.pick [1, 2, 0] rfl ?_
  exact lp7 n20 (i 503 p1) i ((hi _ _)) hi h
