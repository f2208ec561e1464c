set_option maxRecDepth 100000 in
set_option maxHeartbeats 4000000 in
theorem sm_X0_nextMakerBehind (l : Launch) (Δ : Wd) {i r : MI} {p1 : Int} {p2 : Int} (hp1 : sR p1) (hp2 : sR p2) {Q : Int → Prop} (hi : okI i) (hw : Wf r) (h : wp_X0_nextMakerBehind p1 p2 i r Q) : Met l yX0_nextMakerBehind (Cond.code yX0_nextMakerBehind cX0_nextMakerBehind 4 (some .int) :: gW) (sRm 0 0) (sPc Δ [.ref (sA Δ 67), .int (sJ p1), .int (sJ p2)] i r) (sQi Δ (fun x i' r' => i = i' ∧ r = r' ∧ Q x)) 0 0 (sFr Δ) := by
  refine Ct.i (ty := .int) (by decide) rfl (Nat.le_of_ble_eq_true rfl) (fun Γ Q0 hG fin => ?_)
  have hG : okG Γ Δ l (sRm 0 0) cX0_nextMakerBehind "Schedulary$Body" 4 := hG
  show V Γ Δ 504 false i r 0 0 Q0 0 [(0, .ref (sA Δ 67)), (1, .int (sJ p1)), (2, .int (sJ p2))] []
  refine V.iload_n (pc := 0) hG dX0_nextMakerBehind_0 rfl 2 rfl ?_
  refine V.iconst (pc := 1) hG dX0_nextMakerBehind_1 ?_
  refine V.iadd (pc := 2) hG dX0_nextMakerBehind_2 ?_
  refine V.istore_n (pc := 3) (lv' := [(3, .int (sJ (wr (p2 + 1)))), (0, .ref (sA Δ 67)), (1, .int (sJ p1)), (2, .int (sJ p2))]) hG dX0_nextMakerBehind_3 rfl (by decide) rfl ?_
  obtain ⟨n8, h⟩ := h
  have lp4 : ∀ (m4 : Nat) (x3_4 : Int), sR x3_4 → LoopP (b4_X0_nextMakerBehind p1 i r Q) m4 (x3_4) → V Γ Δ 504 false i r 0 0 Q0 4 [(0, .ref (sA Δ 67)), (1, .int (sJ p1)), (3, .int (sJ x3_4))] [] := by
    intro m4
    induction m4 with
    | zero => intro x3_4 hx3_4 h; exact h.elim
    | succ m4 ih4 =>
      intro x3_4 hx3_4 h
      have h := LoopP_succ h
      refine V.iload_n (pc := 4) hG dX0_nextMakerBehind_4 rfl 2 rfl ?_
      refine V.aload_n (pc := 5) hG dX0_nextMakerBehind_5 rfl 0 rfl ?_
      refine V.getI (pc := 6) (ci := 2) (k := 4) (M := 5) (T := TX0) (o := 67) (kz := 4) hG a_67 a_67.n (by decide) hin_X0 rfl (by decide) (by decide) rfl kw_363 rfl dX0_nextMakerBehind_6 ?_
      obtain ⟨t10, f11⟩ := h
      refine V.icmp_ge (pc := 9) (tgt := 33) hG hx3_4 ((hi _ _)) dX0_nextMakerBehind_9 (by decide) (fun c9 => ?_) (fun c9 => ?_)
      · have h := t10 c9
        clear t10 f11
        refine V.iconst (pc := 33) hG dX0_nextMakerBehind_33 ?_
        exact fin dX0_nextMakerBehind_34 ((sR_l rfl)) rfl hi hw ⟨rfl, rfl, h⟩
      · have h := f11 c9
        clear t10 f11
        refine V.aload_n (pc := 12) hG dX0_nextMakerBehind_12 rfl 0 rfl ?_
        refine V.getR (x := 68) (pc := 13) (ci := 2) (k := 0) (M := 5) (T := TX0) (o := 67) (kz := 0) hG a_67 a_67.n (by decide) hin_X0 rfl (by decide) (by decide) rfl kw_349 rfl ((hw).1 (67, 0, 68) (by decide)) (by decide) dX0_nextMakerBehind_13 ?_
        refine V.iload_n (pc := 16) hG dX0_nextMakerBehind_16 rfl 2 rfl ?_
        obtain ⟨g12, h⟩ := h
        refine V.aald (pc := 17) 6 (z := 96) (o := 68) (x := x3_4) (y := 72 + x3_4) hG a_68 a_68.n (by decide) hx3_4 g12 (hw.2.1 (68, 96, 72) (by decide) _ g12.1 g12.2) (by omega) dX0_nextMakerBehind_17 ?_
        refine V.getIN (pc := 18) (ci := 5) (k := 8) (M := 13) (T := TX3) (o := 72 + x3_4) (kz := 8) hG (node_o g12.1 g12.2) ((node_o g12.1 g12.2)).n (by decide) hin_X3 rfl (by decide) (by decide) rfl kw_308 rfl dX0_nextMakerBehind_18 ?_
        refine V.iload_n (pc := 21) hG dX0_nextMakerBehind_21 rfl 1 rfl ?_
        obtain ⟨f15, t14⟩ := h
        refine V.icmp_ne (pc := 22) (tgt := 27) hG ((hi _ _)) hp1 dX0_nextMakerBehind_22 (by decide) (fun c13 => ?_) (fun c13 => ?_)
        · have h := t14 c13
          clear t14 f15
          refine V.iinc (pc := 27) (lv' := [(3, .int (sJ (wr (x3_4 + 1)))), (0, .ref (sA Δ 67)), (1, .int (sJ p1))]) hG dX0_nextMakerBehind_27 2 rfl (by decide) rfl ?_
          refine V.goto (pc := 30) (tgt := 4) hG dX0_nextMakerBehind_30 (by decide) ?_
          refine V.pick [1, 2, 0] rfl ?_
          exact ih4 (wr (x3_4 + 1)) ((sR_wr _)) h
        · have h := f15 c13
          clear t14 f15
          refine V.iload_n (pc := 25) hG dX0_nextMakerBehind_25 rfl 2 rfl ?_
          exact fin dX0_nextMakerBehind_26 hx3_4 rfl hi hw ⟨rfl, rfl, h⟩
  refine V.pick [1, 2, 0] rfl ?_
  exact lp4 n8 (wr (p2 + 1)) ((sR_wr _)) h
set_option maxRecDepth 100000 in
set_option maxHeartbeats 4000000 in
theorem sm_X0_lastMakerAhead (l : Launch) (Δ : Wd) {i r : MI} {p1 : Int} {p2 : Int} (hp1 : sR p1) (hp2 : sR p2) {Q : Int → Prop} (hi : okI i) (hw : Wf r) (h : wp_X0_lastMakerAhead p1 p2 i r Q) : Met l yX0_lastMakerAhead (Cond.code yX0_lastMakerAhead cX0_lastMakerAhead 4 (some .int) :: gW) (sRm 0 0) (sPc Δ [.ref (sA Δ 67), .int (sJ p1), .int (sJ p2)] i r) (sQi Δ (fun x i' r' => i = i' ∧ r = r' ∧ Q x)) 0 0 (sFr Δ) := by
  refine Ct.i (ty := .int) (by decide) rfl (Nat.le_of_ble_eq_true rfl) (fun Γ Q0 hG fin => ?_)
  have hG : okG Γ Δ l (sRm 0 0) cX0_lastMakerAhead "Schedulary$Body" 4 := hG
  show V Γ Δ 504 false i r 0 0 Q0 0 [(0, .ref (sA Δ 67)), (1, .int (sJ p1)), (2, .int (sJ p2))] []
  refine V.iload_n (pc := 0) hG dX0_lastMakerAhead_0 rfl 2 rfl ?_
  refine V.iconst (pc := 1) hG dX0_lastMakerAhead_1 ?_
  refine V.isub (pc := 2) hG dX0_lastMakerAhead_2 ?_
  refine V.istore_n (pc := 3) (lv' := [(3, .int (sJ (wr (p2 - 1)))), (0, .ref (sA Δ 67)), (1, .int (sJ p1)), (2, .int (sJ p2))]) hG dX0_lastMakerAhead_3 rfl (by decide) rfl ?_
  obtain ⟨n8, h⟩ := h
  have lp4 : ∀ (m4 : Nat) (x3_4 : Int), sR x3_4 → LoopP (b4_X0_lastMakerAhead p1 i r Q) m4 (x3_4) → V Γ Δ 504 false i r 0 0 Q0 4 [(0, .ref (sA Δ 67)), (1, .int (sJ p1)), (3, .int (sJ x3_4))] [] := by
    intro m4
    induction m4 with
    | zero => intro x3_4 hx3_4 h; exact h.elim
    | succ m4 ih4 =>
      intro x3_4 hx3_4 h
      have h := LoopP_succ h
      refine V.iload_n (pc := 4) hG dX0_lastMakerAhead_4 rfl 2 rfl ?_
      obtain ⟨t10, f11⟩ := h
      refine V.if_lt (pc := 5) (tgt := 29) hG hx3_4 dX0_lastMakerAhead_5 (by decide) (fun c9 => ?_) (fun c9 => ?_)
      · have h := t10 c9
        clear t10 f11
        refine V.iconst (pc := 29) hG dX0_lastMakerAhead_29 ?_
        exact fin dX0_lastMakerAhead_30 ((sR_l rfl)) rfl hi hw ⟨rfl, rfl, h⟩
      · have h := f11 c9
        clear t10 f11
        refine V.aload_n (pc := 8) hG dX0_lastMakerAhead_8 rfl 0 rfl ?_
        refine V.getR (x := 68) (pc := 9) (ci := 2) (k := 0) (M := 5) (T := TX0) (o := 67) (kz := 0) hG a_67 a_67.n (by decide) hin_X0 rfl (by decide) (by decide) rfl kw_349 rfl ((hw).1 (67, 0, 68) (by decide)) (by decide) dX0_lastMakerAhead_9 ?_
        refine V.iload_n (pc := 12) hG dX0_lastMakerAhead_12 rfl 2 rfl ?_
        obtain ⟨g12, h⟩ := h
        refine V.aald (pc := 13) 6 (z := 96) (o := 68) (x := x3_4) (y := 72 + x3_4) hG a_68 a_68.n (by decide) hx3_4 g12 (hw.2.1 (68, 96, 72) (by decide) _ g12.1 g12.2) (by omega) dX0_lastMakerAhead_13 ?_
        refine V.getIN (pc := 14) (ci := 5) (k := 8) (M := 13) (T := TX3) (o := 72 + x3_4) (kz := 8) hG (node_o g12.1 g12.2) ((node_o g12.1 g12.2)).n (by decide) hin_X3 rfl (by decide) (by decide) rfl kw_308 rfl dX0_lastMakerAhead_14 ?_
        refine V.iload_n (pc := 17) hG dX0_lastMakerAhead_17 rfl 1 rfl ?_
        obtain ⟨f15, t14⟩ := h
        refine V.icmp_ne (pc := 18) (tgt := 23) hG ((hi _ _)) hp1 dX0_lastMakerAhead_18 (by decide) (fun c13 => ?_) (fun c13 => ?_)
        · have h := t14 c13
          clear t14 f15
          refine V.iinc (pc := 23) (lv' := [(3, .int (sJ (wr (x3_4 + (-1))))), (0, .ref (sA Δ 67)), (1, .int (sJ p1))]) hG dX0_lastMakerAhead_23 2 rfl (by decide) rfl ?_
          refine V.goto (pc := 26) (tgt := 4) hG dX0_lastMakerAhead_26 (by decide) ?_
          refine V.pick [1, 2, 0] rfl ?_
          exact ih4 (wr (x3_4 + (-1))) ((sR_wr _)) h
        · have h := f15 c13
          clear t14 f15
          refine V.iload_n (pc := 21) hG dX0_lastMakerAhead_21 rfl 2 rfl ?_
          exact fin dX0_lastMakerAhead_22 hx3_4 rfl hi hw ⟨rfl, rfl, h⟩
  refine V.pick [1, 2, 0] rfl ?_
  exact lp4 n8 (wr (p2 - 1)) ((sR_wr _)) h
set_option maxRecDepth 100000 in
set_option maxHeartbeats 4000000 in
theorem sm_X2_joinMakerAhead (l : Launch) (Δ : Wd) {i r : MI} {p2 : Int} {p3 : Int} (hp2 : sR p2) (hp3 : sR p3) {Q : MI → Prop} (hi : okI i) (hw : Wf r) (h : wp_X2_joinMakerAhead p2 p3 i r Q) : Met l yX2_joinMakerAhead (Cond.code yX2_joinMakerAhead cX2_joinMakerAhead 6 none :: gW) (sRm 2 49) (sPc Δ [.ref (sA Δ 168), .ref (sA Δ 67), .int (sJ p2), .int (sJ p3)] i r) (sQv Δ (fun i' r' => r = r' ∧ Q i')) 0 0 (sFr Δ) := by
  refine Ct.v (by decide) rfl (Nat.le_of_ble_eq_true rfl) (fun Γ Q0 hG fin => ?_)
  have hG : okG Γ Δ l (sRm 2 49) cX2_joinMakerAhead "Schedulary$Graph" 6 := hG
  show V Γ Δ 504 false i r 0 0 Q0 0 [(0, .ref (sA Δ 168)), (1, .ref (sA Δ 67)), (2, .int (sJ p2)), (3, .int (sJ p3))] []
  have jn52 : ∀  (ij52 : MI), okI ij52 → s52_X2_joinMakerAhead ij52 r Q → V Γ Δ 504 false ij52 r 0 0 Q0 52 [] [] := by
    intro ij52 hij52 h
    exact fin dX2_joinMakerAhead_52 hij52 hw ⟨rfl, h⟩
  have jn31 : ∀ (x4j31 : Int) (x5j31 : Int) (ij31 : MI), sR x4j31 → sR x5j31 → okI ij31 → s31_X2_joinMakerAhead p3 x4j31 x5j31 ij31 r Q → V Γ Δ 504 false ij31 r 0 0 Q0 31 [(0, .ref (sA Δ 168)), (1, .ref (sA Δ 67)), (3, .int (sJ p3)), (4, .int (sJ x4j31)), (5, .int (sJ x5j31))] [] := by
    intro x4j31 x5j31 ij31 hx4j31 hx5j31 hij31 h
    refine V.iload (pc := 31) hG dX2_joinMakerAhead_31 4 rfl ?_
    refine V.iconst (pc := 33) hG dX2_joinMakerAhead_33 ?_
    obtain ⟨t23, f24⟩ := h
    refine V.icmp_eq (pc := 34) (tgt := 52) hG hx5j31 ((sR_l rfl)) dX2_joinMakerAhead_34 (by decide) (fun c22 => ?_) (fun c22 => ?_)
    · have h := t23 c22
      clear t23 f24
      refine V.pick [] rfl ?_
      exact jn52 ij31 hij31 h
    · have h := f24 c22
      clear t23 f24
      refine V.aload_n (pc := 37) hG dX2_joinMakerAhead_37 rfl 0 rfl ?_
      refine V.iload (pc := 38) hG dX2_joinMakerAhead_38 4 rfl ?_
      refine V.iload_n (pc := 40) hG dX2_joinMakerAhead_40 rfl 2 rfl ?_
      refine V.iload (pc := 41) hG dX2_joinMakerAhead_41 3 rfl ?_
      refine V.aload_n (pc := 43) hG dX2_joinMakerAhead_43 rfl 1 rfl ?_
      refine V.iload (pc := 44) hG dX2_joinMakerAhead_44 4 rfl ?_
      refine V.callVNi (pc := 46) (As := [.int (sJ x5j31)]) (stk := [.int (sJ x4j31), .int (sJ p3), .int (sJ x5j31), .ref (sA Δ 168)]) hG (sm_X0_cyclesOf l Δ hx5j31 hij31 hw h) mY_X0_cyclesOf kw_686 kw_688 kw_29 a_67 (by decide) (q := (RX0, TX0, 5)) rfl rfl ⟨Nat.le_of_ble_eq_true rfl, Nat.le_of_ble_eq_true rfl, Nat.le_of_ble_eq_true rfl, Nat.le_of_ble_eq_true rfl⟩ rfl (Nat.le_of_ble_eq_true rfl) dX2_joinMakerAhead_46 rfl (fun v25 i26 r27 hv28 hi29 hw30 hq31 => ?_)
      obtain ⟨e41, e42, h⟩ := hq31
      subst e41
      subst e42
      refine V.callVv (pc := 49) (As := [.int (sJ x5j31), .int (sJ p3), .int (sJ x4j31), .int (sJ v25)]) (stk := []) hG (sm_X2_put l Δ hx5j31 hp3 hx4j31 hv28 hij31 hw h) mY_X2_put kw_690 kw_692 kw_30 a_168 (by decide) (q := (RX2, TX2, 5)) rfl rfl ⟨Nat.le_of_ble_eq_true rfl, Nat.le_of_ble_eq_true rfl, Nat.le_of_ble_eq_true rfl, Nat.le_of_ble_eq_true rfl⟩ rfl (Nat.le_of_ble_eq_true rfl) dX2_joinMakerAhead_49 rfl (fun i33 r34 hi36 hw37 hq38 => ?_)
      obtain ⟨e40, h⟩ := hq38
      subst e40
      refine V.pick [] rfl ?_
      exact jn52 i33 hi36 h
  refine V.iconst (pc := 0) hG dX2_joinMakerAhead_0 ?_
  refine V.istore (pc := 1) (lv' := [(4, .int (sJ 0)), (0, .ref (sA Δ 168)), (1, .ref (sA Δ 67)), (2, .int (sJ p2)), (3, .int (sJ p3))]) hG dX2_joinMakerAhead_1 (by decide) rfl ?_
  refine V.aload_n (pc := 3) hG dX2_joinMakerAhead_3 rfl 2 rfl ?_
  refine V.iload_n (pc := 4) hG dX2_joinMakerAhead_4 rfl 3 rfl ?_
  refine V.iload_n (pc := 5) hG dX2_joinMakerAhead_5 rfl 4 rfl ?_
  refine V.callVNi (pc := 6) (As := [.int (sJ p2), .int (sJ p3)]) (stk := []) hG (sm_X0_lastMakerAhead l Δ hp2 hp3 hi hw h) mY_X0_lastMakerAhead kw_717 kw_719 kw_36 a_67 (by decide) (q := (RX0, TX0, 5)) rfl rfl ⟨Nat.le_of_ble_eq_true rfl, Nat.le_of_ble_eq_true rfl, Nat.le_of_ble_eq_true rfl, Nat.le_of_ble_eq_true rfl⟩ rfl (Nat.le_of_ble_eq_true rfl) dX2_joinMakerAhead_6 rfl (fun v43 i44 r45 hv46 hi47 hw48 hq49 => ?_)
  obtain ⟨e62, e63, h⟩ := hq49
  subst e62
  subst e63
  refine V.istore (pc := 9) (lv' := [(5, .int (sJ v43)), (4, .int (sJ 0)), (0, .ref (sA Δ 168)), (1, .ref (sA Δ 67)), (2, .int (sJ p2)), (3, .int (sJ p3))]) hG dX2_joinMakerAhead_9 (by decide) rfl ?_
  refine V.iload (pc := 11) hG dX2_joinMakerAhead_11 0 rfl ?_
  refine V.iconst (pc := 13) hG dX2_joinMakerAhead_13 ?_
  obtain ⟨f52, t51⟩ := h
  refine V.icmp_ne (pc := 14) (tgt := 31) hG hv46 ((sR_l rfl)) dX2_joinMakerAhead_14 (by decide) (fun c50 => ?_) (fun c50 => ?_)
  · have h := t51 c50
    clear t51 f52
    refine V.pick [2, 3, 5, 1, 0] rfl ?_
    exact jn31 0 v43 i ((sR_l rfl)) hv46 hi h
  · have h := f52 c50
    clear t51 f52
    refine V.iconst (pc := 17) hG dX2_joinMakerAhead_17 ?_
    refine V.istore (pc := 18) (lv' := [(4, .int (sJ 1)), (5, .int (sJ v43)), (0, .ref (sA Δ 168)), (1, .ref (sA Δ 67)), (2, .int (sJ p2)), (3, .int (sJ p3))]) hG dX2_joinMakerAhead_18 (by decide) rfl ?_
    refine V.aload_n (pc := 20) hG dX2_joinMakerAhead_20 rfl 3 rfl ?_
    refine V.iload_n (pc := 21) hG dX2_joinMakerAhead_21 rfl 4 rfl ?_
    refine V.aload_n (pc := 22) hG dX2_joinMakerAhead_22 rfl 3 rfl ?_
    refine V.getIN (pc := 23) (ci := 2) (k := 4) (M := 5) (T := TX0) (o := 67) (kz := 4) hG a_67 a_67.n (by decide) hin_X0 rfl (by decide) (by decide) rfl kw_367 rfl dX2_joinMakerAhead_23 ?_
    refine V.callVNi (pc := 26) (As := [.int (sJ p2), .int (sJ (i 67 4))]) (stk := []) hG (sm_X0_lastMakerAhead l Δ hp2 ((hi _ _)) hi hw h) mY_X0_lastMakerAhead kw_717 kw_719 kw_36 a_67 (by decide) (q := (RX0, TX0, 5)) rfl rfl ⟨Nat.le_of_ble_eq_true rfl, Nat.le_of_ble_eq_true rfl, Nat.le_of_ble_eq_true rfl, Nat.le_of_ble_eq_true rfl⟩ rfl (Nat.le_of_ble_eq_true rfl) dX2_joinMakerAhead_26 rfl (fun v53 i54 r55 hv56 hi57 hw58 hq59 => ?_)
    obtain ⟨e60, e61, h⟩ := hq59
    subst e60
    subst e61
    refine V.istore (pc := 29) (lv' := [(5, .int (sJ v53)), (4, .int (sJ 1)), (0, .ref (sA Δ 168)), (1, .ref (sA Δ 67)), (2, .int (sJ p2)), (3, .int (sJ p3))]) hG dX2_joinMakerAhead_29 (by decide) rfl ?_
    refine V.pick [2, 3, 5, 1, 0] rfl ?_
    exact jn31 1 v53 i ((sR_l rfl)) hv56 hi h
set_option maxRecDepth 100000 in
set_option maxHeartbeats 4000000 in
theorem sm_X3_isUsing (l : Launch) (Δ : Wd) {i r : MI} {o0 : Int} {p1 : Int} (ho0 : isA o0 (5, 0)) (hp1 : sR p1) {Q : Int → Prop} (hi : okI i) (hw : Wf r) (h : wp_X3_isUsing o0 p1 i r Q) : Met l yX3_isUsing (Cond.code yX3_isUsing cX3_isUsing 2 (some .boolean) :: gW) (sRm 0 0) (sPc Δ [.ref (sA Δ o0), .int (sJ p1)] i r) (sQi Δ (fun x i' r' => i = i' ∧ r = r' ∧ Q x)) 0 0 (sFr Δ) := by
  refine Ct.i (ty := .boolean) (by decide) rfl (Nat.le_of_ble_eq_true rfl) (fun Γ Q0 hG fin => ?_)
  have hG : okG Γ Δ l (sRm 0 0) cX3_isUsing "Schedulary$Node" 2 := hG
  show V Γ Δ 504 false i r 0 0 Q0 0 [(0, .ref (sA Δ o0)), (1, .int (sJ p1))] []
  have jn16 : ∀ (k0j16 : Int), sR k0j16 → s16_X3_isUsing k0j16 i r Q → V Γ Δ 504 false i r 0 0 Q0 16 [] [.int (sJ k0j16)] := by
    intro k0j16 hk0j16 h
    obtain ⟨g2, h⟩ := h
    exact fin dX3_isUsing_16 hk0j16 (nar_z g2) hi hw ⟨rfl, rfl, h⟩
  refine V.aload_n (pc := 0) hG dX3_isUsing_0 rfl 0 rfl ?_
  refine V.getI (pc := 1) (ci := 5) (k := 7) (M := 13) (T := TX3) (o := o0) (kz := 7) hG ho0 ho0.n (by decide) hin_X3 rfl (by decide) (by decide) rfl kw_305 rfl dX3_isUsing_1 ?_
  refine V.iconst (pc := 4) hG dX3_isUsing_4 ?_
  refine V.iload_n (pc := 5) hG dX3_isUsing_5 rfl 1 rfl ?_
  refine V.ishl (pc := 6) hG dX3_isUsing_6 ?_
  refine V.iand (pc := 7) hG dX3_isUsing_7 ?_
  obtain ⟨t4, f5⟩ := h
  refine V.if_eq (pc := 8) (tgt := 15) hG ((sR_and _ _)) dX3_isUsing_8 (by decide) (fun c3 => ?_) (fun c3 => ?_)
  · have h := t4 c3
    clear t4 f5
    refine V.iconst (pc := 15) hG dX3_isUsing_15 ?_
    refine V.pick [] rfl ?_
    exact jn16 0 ((sR_l rfl)) h
  · have h := f5 c3
    clear t4 f5
    refine V.iconst (pc := 11) hG dX3_isUsing_11 ?_
    refine V.goto (pc := 12) (tgt := 16) hG dX3_isUsing_12 (by decide) ?_
    refine V.pick [] rfl ?_
    exact jn16 1 ((sR_l rfl)) h
set_option maxRecDepth 100000 in
set_option maxHeartbeats 4000000 in
theorem sm_X2_joinMakerBehind (l : Launch) (Δ : Wd) {i r : MI} {p2 : Int} {p3 : Int} (hp2 : sR p2) (hp3 : sR p3) {Q : MI → Prop} (hi : okI i) (hw : Wf r) (h : wp_X2_joinMakerBehind p2 p3 i r Q) : Met l yX2_joinMakerBehind (Cond.code yX2_joinMakerBehind cX2_joinMakerBehind 7 none :: gW) (sRm 2 49) (sPc Δ [.ref (sA Δ 168), .ref (sA Δ 67), .int (sJ p2), .int (sJ p3)] i r) (sQv Δ (fun i' r' => r = r' ∧ Q i')) 0 0 (sFr Δ) := by
  refine Ct.v (by decide) rfl (Nat.le_of_ble_eq_true rfl) (fun Γ Q0 hG fin => ?_)
  have hG : okG Γ Δ l (sRm 2 49) cX2_joinMakerBehind "Schedulary$Graph" 7 := hG
  show V Γ Δ 504 false i r 0 0 Q0 0 [(0, .ref (sA Δ 168)), (1, .ref (sA Δ 67)), (2, .int (sJ p2)), (3, .int (sJ p3))] []
  have jn105 : ∀  (ij105 : MI), okI ij105 → s105_X2_joinMakerBehind ij105 r Q → V Γ Δ 504 false ij105 r 0 0 Q0 105 [] [] := by
    intro ij105 hij105 h
    exact fin dX2_joinMakerBehind_105 hij105 hw ⟨rfl, h⟩
  have jn75 : ∀ (x4j75 : Int) (x5j75 : Int) (x6j75 : Int) (ij75 : MI), sR x4j75 → sR x5j75 → sR x6j75 → okI ij75 → s75_X2_joinMakerBehind p2 p3 x4j75 x5j75 x6j75 ij75 r Q → V Γ Δ 504 false ij75 r 0 0 Q0 75 [(0, .ref (sA Δ 168)), (1, .ref (sA Δ 67)), (2, .int (sJ p2)), (3, .int (sJ p3)), (4, .int (sJ x4j75)), (5, .int (sJ x5j75)), (6, .int (sJ x6j75))] [] := by
    intro x4j75 x5j75 x6j75 ij75 hx4j75 hx5j75 hx6j75 hij75 h
    refine V.aload_n (pc := 75) hG dX2_joinMakerBehind_75 rfl 1 rfl ?_
    refine V.getRN (x := 68) (pc := 76) (ci := 2) (k := 0) (M := 5) (T := TX0) (o := 67) (kz := 0) hG a_67 a_67.n (by decide) hin_X0 rfl (by decide) (by decide) rfl kw_351 rfl ((hw).1 (67, 0, 68) (by decide)) (by decide) dX2_joinMakerBehind_76 ?_
    refine V.iload_n (pc := 79) hG dX2_joinMakerBehind_79 rfl 3 rfl ?_
    obtain ⟨g23, h⟩ := h
    refine V.aald (pc := 80) 6 (z := 96) (o := 68) (x := p3) (y := 72 + p3) hG a_68 a_68.n (by decide) hp3 g23 (hw.2.1 (68, 96, 72) (by decide) _ g23.1 g23.2) (by omega) dX2_joinMakerBehind_80 ?_
    refine V.getIN (pc := 81) (ci := 5) (k := 8) (M := 13) (T := TX3) (o := 72 + p3) (kz := 8) hG (node_o g23.1 g23.2) ((node_o g23.1 g23.2)).n (by decide) hin_X3 rfl (by decide) (by decide) rfl kw_310 rfl dX2_joinMakerBehind_81 ?_
    refine V.iload_n (pc := 84) hG dX2_joinMakerBehind_84 rfl 2 rfl ?_
    obtain ⟨f26, t25⟩ := h
    refine V.icmp_ne (pc := 85) (tgt := 105) hG ((hij75 _ _)) hp2 dX2_joinMakerBehind_85 (by decide) (fun c24 => ?_) (fun c24 => ?_)
    · have h := t25 c24
      clear t25 f26
      refine V.pick [] rfl ?_
      exact jn105 ij75 hij75 h
    · have h := f26 c24
      clear t25 f26
      refine V.aload_n (pc := 88) hG dX2_joinMakerBehind_88 rfl 0 rfl ?_
      refine V.iload_n (pc := 89) hG dX2_joinMakerBehind_89 rfl 3 rfl ?_
      refine V.iload (pc := 90) hG dX2_joinMakerBehind_90 5 rfl ?_
      refine V.iload (pc := 92) hG dX2_joinMakerBehind_92 4 rfl ?_
      refine V.iload (pc := 94) hG dX2_joinMakerBehind_94 6 rfl ?_
      refine V.aload_n (pc := 96) hG dX2_joinMakerBehind_96 rfl 1 rfl ?_
      refine V.iload_n (pc := 97) hG dX2_joinMakerBehind_97 rfl 3 rfl ?_
      refine V.callVNi (pc := 98) (As := [.int (sJ p3)]) (stk := [.int (sJ x6j75), .int (sJ x4j75), .int (sJ x5j75), .int (sJ p3), .ref (sA Δ 168)]) hG (sm_X0_cyclesOf l Δ hp3 hij75 hw h) mY_X0_cyclesOf kw_686 kw_688 kw_29 a_67 (by decide) (q := (RX0, TX0, 5)) rfl rfl ⟨Nat.le_of_ble_eq_true rfl, Nat.le_of_ble_eq_true rfl, Nat.le_of_ble_eq_true rfl, Nat.le_of_ble_eq_true rfl⟩ rfl (Nat.le_of_ble_eq_true rfl) dX2_joinMakerBehind_98 rfl (fun v27 i28 r29 hv30 hi31 hw32 hq33 => ?_)
      obtain ⟨e43, e44, h⟩ := hq33
      subst e43
      subst e44
      refine V.iadd (pc := 101) hG dX2_joinMakerBehind_101 ?_
      refine V.callVv (pc := 102) (As := [.int (sJ p3), .int (sJ x5j75), .int (sJ x4j75), .int (sJ (wr (x6j75 + v27)))]) (stk := []) hG (sm_X2_put l Δ hp3 hx5j75 hx4j75 ((sR_wr _)) hij75 hw h) mY_X2_put kw_690 kw_692 kw_30 a_168 (by decide) (q := (RX2, TX2, 5)) rfl rfl ⟨Nat.le_of_ble_eq_true rfl, Nat.le_of_ble_eq_true rfl, Nat.le_of_ble_eq_true rfl, Nat.le_of_ble_eq_true rfl⟩ rfl (Nat.le_of_ble_eq_true rfl) dX2_joinMakerBehind_102 rfl (fun i35 r36 hi38 hw39 hq40 => ?_)
      obtain ⟨e42, h⟩ := hq40
      subst e42
      refine V.pick [] rfl ?_
      exact jn105 i35 hi38 h
  have jn40 : ∀  (ij40 : MI), okI ij40 → s40_X2_joinMakerBehind ij40 r Q → V Γ Δ 504 false ij40 r 0 0 Q0 40 [] [] := by
    intro ij40 hij40 h
    exact fin dX2_joinMakerBehind_40 hij40 hw ⟨rfl, h⟩
  have jn28 : ∀ (x4j28 : Int) (x5j28 : Int) (ij28 : MI), sR x4j28 → sR x5j28 → okI ij28 → s28_X2_joinMakerBehind p2 p3 x4j28 x5j28 ij28 r Q → V Γ Δ 504 false ij28 r 0 0 Q0 28 [(0, .ref (sA Δ 168)), (1, .ref (sA Δ 67)), (2, .int (sJ p2)), (3, .int (sJ p3)), (4, .int (sJ x4j28)), (5, .int (sJ x5j28))] [] := by
    intro x4j28 x5j28 ij28 hx4j28 hx5j28 hij28 h
    refine V.iload (pc := 28) hG dX2_joinMakerBehind_28 5 rfl ?_
    refine V.iconst (pc := 30) hG dX2_joinMakerBehind_30 ?_
    obtain ⟨t83, f84⟩ := h
    refine V.icmp_eq (pc := 31) (tgt := 40) hG hx5j28 ((sR_l rfl)) dX2_joinMakerBehind_31 (by decide) (fun c82 => ?_) (fun c82 => ?_)
    · have h := t83 c82
      clear t83 f84
      refine V.pick [] rfl ?_
      exact jn40 ij28 hij28 h
    · have h := f84 c82
      clear t83 f84
      refine V.iload (pc := 34) hG dX2_joinMakerBehind_34 5 rfl ?_
      refine V.iload_n (pc := 36) hG dX2_joinMakerBehind_36 rfl 3 rfl ?_
      obtain ⟨f87, t86⟩ := h
      refine V.icmp_ne (pc := 37) (tgt := 41) hG hx5j28 hp3 dX2_joinMakerBehind_37 (by decide) (fun c85 => ?_) (fun c85 => ?_)
      · have h := t86 c85
        clear t86 f87
        refine V.iconst (pc := 41) hG dX2_joinMakerBehind_41 ?_
        refine V.aload_n (pc := 42) hG dX2_joinMakerBehind_42 rfl 1 rfl ?_
        refine V.iload (pc := 43) hG dX2_joinMakerBehind_43 5 rfl ?_
        refine V.callVNi (pc := 45) (As := [.int (sJ x5j28)]) (stk := [.int (sJ 1)]) hG (sm_X0_cyclesOf l Δ hx5j28 hij28 hw h) mY_X0_cyclesOf kw_686 kw_688 kw_29 a_67 (by decide) (q := (RX0, TX0, 5)) rfl rfl ⟨Nat.le_of_ble_eq_true rfl, Nat.le_of_ble_eq_true rfl, Nat.le_of_ble_eq_true rfl, Nat.le_of_ble_eq_true rfl⟩ rfl (Nat.le_of_ble_eq_true rfl) dX2_joinMakerBehind_45 rfl (fun v88 i89 r90 hv91 hi92 hw93 hq94 => ?_)
        obtain ⟨e117, e118, h⟩ := hq94
        subst e117
        subst e118
        refine V.isub (pc := 48) hG dX2_joinMakerBehind_48 ?_
        refine V.istore (pc := 49) (lv' := [(6, .int (sJ (wr (1 - v88)))), (0, .ref (sA Δ 168)), (1, .ref (sA Δ 67)), (2, .int (sJ p2)), (3, .int (sJ p3)), (4, .int (sJ x4j28)), (5, .int (sJ x5j28))]) hG dX2_joinMakerBehind_49 (by decide) rfl ?_
        refine V.aload_n (pc := 51) hG dX2_joinMakerBehind_51 rfl 2 rfl ?_
        refine V.getRN (x := 68) (pc := 52) (ci := 2) (k := 0) (M := 5) (T := TX0) (o := 67) (kz := 0) hG a_67 a_67.n (by decide) hin_X0 rfl (by decide) (by decide) rfl kw_351 rfl ((hw).1 (67, 0, 68) (by decide)) (by decide) dX2_joinMakerBehind_52 ?_
        refine V.iload_n (pc := 55) hG dX2_joinMakerBehind_55 rfl 4 rfl ?_
        obtain ⟨g95, h⟩ := h
        refine V.aald (pc := 56) 6 (z := 96) (o := 68) (x := p3) (y := 72 + p3) hG a_68 a_68.n (by decide) hp3 g95 (hw.2.1 (68, 96, 72) (by decide) _ g95.1 g95.2) (by omega) dX2_joinMakerBehind_56 ?_
        refine V.iload_n (pc := 57) hG dX2_joinMakerBehind_57 rfl 3 rfl ?_
        refine V.callVNi (pc := 58) (As := [.int (sJ p2)]) (stk := []) hG (sm_X3_isUsing l Δ ((node_o g95.1 g95.2)) hp2 hij28 hw h) mY_X3_isUsing kw_709 kw_711 kw_34 (node_o g95.1 g95.2) (by decide) (q := (RX3, TX3, 13)) rfl rfl ⟨Nat.le_of_ble_eq_true rfl, Nat.le_of_ble_eq_true rfl, Nat.le_of_ble_eq_true rfl, Nat.le_of_ble_eq_true rfl⟩ rfl (Nat.le_of_ble_eq_true rfl) dX2_joinMakerBehind_58 rfl (fun v96 i97 r98 hv99 hi100 hw101 hq102 => ?_)
        obtain ⟨e115, e116, h⟩ := hq102
        subst e115
        subst e116
        obtain ⟨t104, f105⟩ := h
        refine V.if_eq (pc := 61) (tgt := 75) hG hv99 dX2_joinMakerBehind_61 (by decide) (fun c103 => ?_) (fun c103 => ?_)
        · have h := t104 c103
          clear t104 f105
          refine V.pick [1, 2, 3, 4, 5, 6, 0] rfl ?_
          exact jn75 x4j28 x5j28 (wr (1 - v88)) ij28 hx4j28 hx5j28 ((sR_wr _)) hij28 h
        · have h := f105 c103
          clear t104 f105
          refine V.aload_n (pc := 64) hG dX2_joinMakerBehind_64 rfl 1 rfl ?_
          refine V.iload_n (pc := 65) hG dX2_joinMakerBehind_65 rfl 4 rfl ?_
          refine V.iload (pc := 66) hG dX2_joinMakerBehind_66 6 rfl ?_
          refine V.iload (pc := 68) hG dX2_joinMakerBehind_68 5 rfl ?_
          refine V.iload (pc := 70) hG dX2_joinMakerBehind_70 0 rfl ?_
          refine V.callVv (pc := 72) (As := [.int (sJ p3), .int (sJ x5j28), .int (sJ x4j28), .int (sJ (wr (1 - v88)))]) (stk := []) hG (sm_X2_put l Δ hp3 hx5j28 hx4j28 ((sR_wr _)) hij28 hw h) mY_X2_put kw_690 kw_692 kw_30 a_168 (by decide) (q := (RX2, TX2, 5)) rfl rfl ⟨Nat.le_of_ble_eq_true rfl, Nat.le_of_ble_eq_true rfl, Nat.le_of_ble_eq_true rfl, Nat.le_of_ble_eq_true rfl⟩ rfl (Nat.le_of_ble_eq_true rfl) dX2_joinMakerBehind_72 rfl (fun i107 r108 hi110 hw111 hq112 => ?_)
          obtain ⟨e114, h⟩ := hq112
          subst e114
          refine V.pick [1, 2, 3, 4, 5, 6, 0] rfl ?_
          exact jn75 x4j28 x5j28 (wr (1 - v88)) i107 hx4j28 hx5j28 ((sR_wr _)) hi110 h
      · have h := f87 c85
        clear t86 f87
        refine V.pick [] rfl ?_
        exact jn40 ij28 hij28 h
  refine V.iconst (pc := 0) hG dX2_joinMakerBehind_0 ?_
  refine V.istore (pc := 1) (lv' := [(4, .int (sJ 0)), (0, .ref (sA Δ 168)), (1, .ref (sA Δ 67)), (2, .int (sJ p2)), (3, .int (sJ p3))]) hG dX2_joinMakerBehind_1 (by decide) rfl ?_
  refine V.aload_n (pc := 3) hG dX2_joinMakerBehind_3 rfl 2 rfl ?_
  refine V.iload_n (pc := 4) hG dX2_joinMakerBehind_4 rfl 3 rfl ?_
  refine V.iload_n (pc := 5) hG dX2_joinMakerBehind_5 rfl 4 rfl ?_
  refine V.callVNi (pc := 6) (As := [.int (sJ p2), .int (sJ p3)]) (stk := []) hG (sm_X0_nextMakerBehind l Δ hp2 hp3 hi hw h) mY_X0_nextMakerBehind kw_705 kw_707 kw_33 a_67 (by decide) (q := (RX0, TX0, 5)) rfl rfl ⟨Nat.le_of_ble_eq_true rfl, Nat.le_of_ble_eq_true rfl, Nat.le_of_ble_eq_true rfl, Nat.le_of_ble_eq_true rfl⟩ rfl (Nat.le_of_ble_eq_true rfl) dX2_joinMakerBehind_6 rfl (fun v119 i120 r121 hv122 hi123 hw124 hq125 => ?_)
  obtain ⟨e138, e139, h⟩ := hq125
  subst e138
  subst e139
  refine V.istore (pc := 9) (lv' := [(5, .int (sJ v119)), (4, .int (sJ 0)), (0, .ref (sA Δ 168)), (1, .ref (sA Δ 67)), (2, .int (sJ p2)), (3, .int (sJ p3))]) hG dX2_joinMakerBehind_9 (by decide) rfl ?_
  refine V.iload (pc := 11) hG dX2_joinMakerBehind_11 0 rfl ?_
  refine V.iconst (pc := 13) hG dX2_joinMakerBehind_13 ?_
  obtain ⟨f128, t127⟩ := h
  refine V.icmp_ne (pc := 14) (tgt := 28) hG hv122 ((sR_l rfl)) dX2_joinMakerBehind_14 (by decide) (fun c126 => ?_) (fun c126 => ?_)
  · have h := t127 c126
    clear t127 f128
    refine V.pick [2, 3, 4, 5, 1, 0] rfl ?_
    exact jn28 0 v119 i ((sR_l rfl)) hv122 hi h
  · have h := f128 c126
    clear t127 f128
    refine V.iconst (pc := 17) hG dX2_joinMakerBehind_17 ?_
    refine V.istore (pc := 18) (lv' := [(4, .int (sJ 1)), (5, .int (sJ v119)), (0, .ref (sA Δ 168)), (1, .ref (sA Δ 67)), (2, .int (sJ p2)), (3, .int (sJ p3))]) hG dX2_joinMakerBehind_18 (by decide) rfl ?_
    refine V.aload_n (pc := 20) hG dX2_joinMakerBehind_20 rfl 3 rfl ?_
    refine V.iload_n (pc := 21) hG dX2_joinMakerBehind_21 rfl 4 rfl ?_
    refine V.iconst (pc := 22) hG dX2_joinMakerBehind_22 ?_
    refine V.callVNi (pc := 23) (As := [.int (sJ p2), .int (sJ (-1))]) (stk := []) hG (sm_X0_nextMakerBehind l Δ hp2 ((sR_l rfl)) hi hw h) mY_X0_nextMakerBehind kw_705 kw_707 kw_33 a_67 (by decide) (q := (RX0, TX0, 5)) rfl rfl ⟨Nat.le_of_ble_eq_true rfl, Nat.le_of_ble_eq_true rfl, Nat.le_of_ble_eq_true rfl, Nat.le_of_ble_eq_true rfl⟩ rfl (Nat.le_of_ble_eq_true rfl) dX2_joinMakerBehind_23 rfl (fun v129 i130 r131 hv132 hi133 hw134 hq135 => ?_)
    obtain ⟨e136, e137, h⟩ := hq135
    subst e136
    subst e137
    refine V.istore (pc := 26) (lv' := [(5, .int (sJ v129)), (4, .int (sJ 1)), (0, .ref (sA Δ 168)), (1, .ref (sA Δ 67)), (2, .int (sJ p2)), (3, .int (sJ p3))]) hG dX2_joinMakerBehind_26 (by decide) rfl ?_
    refine V.pick [2, 3, 4, 5, 1, 0] rfl ?_
    exact jn28 1 v129 i ((sR_l rfl)) hv132 hi h
set_option maxRecDepth 100000 in
set_option maxHeartbeats 4000000 in
theorem sm_X2_joinRegister (l : Launch) (Δ : Wd) {i r : MI} {p2 : Int} (hp2 : sR p2) {Q : MI → Prop} (hi : okI i) (hw : Wf r) (h : wp_X2_joinRegister p2 i r Q) : Met l yX2_joinRegister (Cond.code yX2_joinRegister cX2_joinRegister 6 none :: gW) (sRm 3 75) (sPc Δ [.ref (sA Δ 168), .ref (sA Δ 67), .int (sJ p2)] i r) (sQv Δ (fun i' r' => r = r' ∧ Q i')) 0 0 (sFr Δ) := by
  refine Ct.v (by decide) rfl (Nat.le_of_ble_eq_true rfl) (fun Γ Q0 hG fin => ?_)
  have hG : okG Γ Δ l (sRm 3 75) cX2_joinRegister "Schedulary$Graph" 6 := hG
  show V Γ Δ 504 false i r 0 0 Q0 0 [(0, .ref (sA Δ 168)), (1, .ref (sA Δ 67)), (2, .int (sJ p2))] []
  refine V.aload_n (pc := 0) hG dX2_joinRegister_0 rfl 1 rfl ?_
  refine V.iload_n (pc := 1) hG dX2_joinRegister_1 rfl 2 rfl ?_
  refine V.iconst (pc := 2) hG dX2_joinRegister_2 ?_
  refine V.callVNi (pc := 3) (As := [.int (sJ p2), .int (sJ (-1))]) (stk := []) hG (sm_X0_nextMakerBehind l Δ hp2 ((sR_l rfl)) hi hw h) mY_X0_nextMakerBehind kw_705 kw_707 kw_33 a_67 (by decide) (q := (RX0, TX0, 5)) rfl rfl ⟨Nat.le_of_ble_eq_true rfl, Nat.le_of_ble_eq_true rfl, Nat.le_of_ble_eq_true rfl, Nat.le_of_ble_eq_true rfl⟩ rfl (Nat.le_of_ble_eq_true rfl) dX2_joinRegister_3 rfl (fun v1 i2 r3 hv4 hi5 hw6 hq7 => ?_)
  obtain ⟨e127, e128, h⟩ := hq7
  subst e127
  subst e128
  refine V.iconst (pc := 6) hG dX2_joinRegister_6 ?_
  obtain ⟨f10, t9⟩ := h
  refine V.icmp_ne (pc := 7) (tgt := 11) hG hv4 ((sR_l rfl)) dX2_joinRegister_7 (by decide) (fun c8 => ?_) (fun c8 => ?_)
  · have h := t9 c8
    clear t9 f10
    refine V.iconst (pc := 11) hG dX2_joinRegister_11 ?_
    refine V.istore_n (pc := 12) (lv' := [(3, .int (sJ 0)), (0, .ref (sA Δ 168)), (1, .ref (sA Δ 67)), (2, .int (sJ p2))]) hG dX2_joinRegister_12 rfl (by decide) rfl ?_
    obtain ⟨n55, h⟩ := h
    have lp13 : ∀ (m13 : Nat) (x3_13 : Int) (i_13 : MI), sR x3_13 → okI i_13 → LoopP (b13_X2_joinRegister p2 r Q) m13 (x3_13, i_13) → V Γ Δ 504 false i_13 r 0 0 Q0 13 [(0, .ref (sA Δ 168)), (1, .ref (sA Δ 67)), (2, .int (sJ p2)), (3, .int (sJ x3_13))] [] := by
      intro m13
      induction m13 with
      | zero => intro x3_13 i_13 hx3_13 hi_13 h; exact h.elim
      | succ m13 ih13 =>
        intro x3_13 i_13 hx3_13 hi_13 h
        have h := LoopP_succ h
        have jn82 : ∀ (x3j82 : Int) (ij82 : MI), sR x3j82 → okI ij82 → s82_X2_joinRegister p2 x3j82 ij82 r Q (LoopP (b13_X2_joinRegister p2 r Q) m13) → V Γ Δ 504 false ij82 r 0 0 Q0 82 [(0, .ref (sA Δ 168)), (1, .ref (sA Δ 67)), (2, .int (sJ p2)), (3, .int (sJ x3j82))] [] := by
          intro x3j82 ij82 hx3j82 hij82 h
          refine V.iinc (pc := 82) (lv' := [(3, .int (sJ (wr (x3j82 + 1)))), (0, .ref (sA Δ 168)), (1, .ref (sA Δ 67)), (2, .int (sJ p2))]) hG dX2_joinRegister_82 3 rfl (by decide) rfl ?_
          refine V.goto (pc := 85) (tgt := 13) hG dX2_joinRegister_85 (by decide) ?_
          refine V.pick [1, 2, 3, 0] rfl ?_
          exact ih13 (wr (x3j82 + 1)) ij82 ((sR_wr _)) hij82 h
        have jn75 : ∀ (x3j75 : Int) (ij75 : MI), sR x3j75 → okI ij75 → s75_X2_joinRegister p2 x3j75 ij75 r Q (LoopP (b13_X2_joinRegister p2 r Q) m13) → V Γ Δ 504 false ij75 r 0 0 Q0 75 [(0, .ref (sA Δ 168)), (1, .ref (sA Δ 67)), (2, .int (sJ p2)), (3, .int (sJ x3j75))] [] := by
          intro x3j75 ij75 hx3j75 hij75 h
          refine V.aload_n (pc := 75) hG dX2_joinRegister_75 rfl 0 rfl ?_
          refine V.aload_n (pc := 76) hG dX2_joinRegister_76 rfl 1 rfl ?_
          refine V.iload_n (pc := 77) hG dX2_joinRegister_77 rfl 2 rfl ?_
          refine V.iload_n (pc := 78) hG dX2_joinRegister_78 rfl 3 rfl ?_
          refine V.callVv (pc := 79) (As := [.ref (sA Δ 67), .int (sJ p2), .int (sJ x3j75)]) (stk := []) hG (sm_X2_joinMakerBehind l Δ hp2 hx3j75 hij75 hw h) mY_X2_joinMakerBehind kw_721 kw_723 kw_37 a_168 (by decide) (q := (RX2, TX2, 5)) rfl rfl ⟨Nat.le_of_ble_eq_true rfl, Nat.le_of_ble_eq_true rfl, Nat.le_of_ble_eq_true rfl, Nat.le_of_ble_eq_true rfl⟩ rfl (Nat.le_of_ble_eq_true rfl) dX2_joinRegister_79 rfl (fun i66 r67 hi69 hw70 hq71 => ?_)
          obtain ⟨e73, h⟩ := hq71
          subst e73
          exact jn82 x3j75 i66 hx3j75 hi69 h
        have jn65 : ∀ (x3j65 : Int) (x4j65 : Int) (x5j65 : Int) (ij65 : MI), sR x3j65 → sR x4j65 → sR x5j65 → okI ij65 → s65_X2_joinRegister p2 x3j65 x4j65 x5j65 ij65 r Q (LoopP (b13_X2_joinRegister p2 r Q) m13) → V Γ Δ 504 false ij65 r 0 0 Q0 65 [(0, .ref (sA Δ 168)), (1, .ref (sA Δ 67)), (2, .int (sJ p2)), (3, .int (sJ x3j65)), (4, .int (sJ x4j65)), (5, .int (sJ x5j65))] [] := by
          intro x3j65 x4j65 x5j65 ij65 hx3j65 hx4j65 hx5j65 hij65 h
          refine V.iload (pc := 65) hG dX2_joinRegister_65 4 rfl ?_
          obtain ⟨f82, t81⟩ := h
          refine V.if_ne (pc := 67) (tgt := 75) hG hx4j65 dX2_joinRegister_67 (by decide) (fun c80 => ?_) (fun c80 => ?_)
          · have h := t81 c80
            clear t81 f82
            refine V.pick [0, 1, 2, 3] rfl ?_
            exact jn75 x3j65 ij65 hx3j65 hij65 h
          · have h := f82 c80
            clear t81 f82
            refine V.iload (pc := 70) hG dX2_joinRegister_70 5 rfl ?_
            obtain ⟨t84, f85⟩ := h
            refine V.if_eq (pc := 72) (tgt := 82) hG hx5j65 dX2_joinRegister_72 (by decide) (fun c83 => ?_) (fun c83 => ?_)
            · have h := t84 c83
              clear t84 f85
              refine V.pick [0, 1, 2, 3] rfl ?_
              exact jn82 x3j65 ij65 hx3j65 hij65 h
            · have h := f85 c83
              clear t84 f85
              refine V.pick [0, 1, 2, 3] rfl ?_
              exact jn75 x3j65 ij65 hx3j65 hij65 h
        have jn51 : ∀ (x3j51 : Int) (x4j51 : Int) (k0j51 : Int) (ij51 : MI), sR x3j51 → sR x4j51 → sR k0j51 → okI ij51 → s51_X2_joinRegister p2 x3j51 x4j51 k0j51 ij51 r Q (LoopP (b13_X2_joinRegister p2 r Q) m13) → V Γ Δ 504 false ij51 r 0 0 Q0 51 [(0, .ref (sA Δ 168)), (1, .ref (sA Δ 67)), (2, .int (sJ p2)), (3, .int (sJ x3j51)), (4, .int (sJ x4j51))] [.int (sJ k0j51)] := by
          intro x3j51 x4j51 k0j51 ij51 hx3j51 hx4j51 hk0j51 hij51 h
          refine V.istore (pc := 51) (lv' := [(5, .int (sJ k0j51)), (0, .ref (sA Δ 168)), (1, .ref (sA Δ 67)), (2, .int (sJ p2)), (3, .int (sJ x3j51)), (4, .int (sJ x4j51))]) hG dX2_joinRegister_51 (by decide) rfl ?_
          refine V.iload (pc := 53) hG dX2_joinRegister_53 5 rfl ?_
          obtain ⟨t99, f100⟩ := h
          refine V.if_eq (pc := 55) (tgt := 65) hG hx4j51 dX2_joinRegister_55 (by decide) (fun c98 => ?_) (fun c98 => ?_)
          · have h := t99 c98
            clear t99 f100
            refine V.pick [1, 2, 3, 4, 5, 0] rfl ?_
            exact jn65 x3j51 x4j51 k0j51 ij51 hx3j51 hx4j51 hk0j51 hij51 h
          · have h := f100 c98
            clear t99 f100
            refine V.aload_n (pc := 58) hG dX2_joinRegister_58 rfl 1 rfl ?_
            refine V.aload_n (pc := 59) hG dX2_joinRegister_59 rfl 2 rfl ?_
            refine V.iload_n (pc := 60) hG dX2_joinRegister_60 rfl 3 rfl ?_
            refine V.iload_n (pc := 61) hG dX2_joinRegister_61 rfl 4 rfl ?_
            refine V.callVv (pc := 62) (As := [.ref (sA Δ 67), .int (sJ p2), .int (sJ x3j51)]) (stk := []) hG (sm_X2_joinMakerAhead l Δ hp2 hx3j51 hij51 hw h) mY_X2_joinMakerAhead kw_713 kw_715 kw_35 a_168 (by decide) (q := (RX2, TX2, 5)) rfl rfl ⟨Nat.le_of_ble_eq_true rfl, Nat.le_of_ble_eq_true rfl, Nat.le_of_ble_eq_true rfl, Nat.le_of_ble_eq_true rfl⟩ rfl (Nat.le_of_ble_eq_true rfl) dX2_joinRegister_62 rfl (fun i102 r103 hi105 hw106 hq107 => ?_)
            obtain ⟨e109, h⟩ := hq107
            subst e109
            refine V.pick [1, 2, 3, 4, 5, 0] rfl ?_
            exact jn65 x3j51 x4j51 k0j51 i102 hx3j51 hx4j51 hk0j51 hi105 h
        refine V.iload_n (pc := 13) hG dX2_joinRegister_13 rfl 3 rfl ?_
        refine V.aload_n (pc := 14) hG dX2_joinRegister_14 rfl 1 rfl ?_
        refine V.getIN (pc := 15) (ci := 2) (k := 4) (M := 5) (T := TX0) (o := 67) (kz := 4) hG a_67 a_67.n (by decide) hin_X0 rfl (by decide) (by decide) rfl kw_367 rfl dX2_joinRegister_15 ?_
        obtain ⟨t111, f112⟩ := h
        refine V.icmp_ge (pc := 18) (tgt := 88) hG hx3_13 ((hi_13 _ _)) dX2_joinRegister_18 (by decide) (fun c110 => ?_) (fun c110 => ?_)
        · have h := t111 c110
          clear t111 f112
          exact fin dX2_joinRegister_88 hi_13 hw ⟨rfl, h⟩
        · have h := f112 c110
          clear t111 f112
          refine V.aload_n (pc := 21) hG dX2_joinRegister_21 rfl 1 rfl ?_
          refine V.getRN (x := 68) (pc := 22) (ci := 2) (k := 0) (M := 5) (T := TX0) (o := 67) (kz := 0) hG a_67 a_67.n (by decide) hin_X0 rfl (by decide) (by decide) rfl kw_351 rfl ((hw).1 (67, 0, 68) (by decide)) (by decide) dX2_joinRegister_22 ?_
          refine V.iload_n (pc := 25) hG dX2_joinRegister_25 rfl 3 rfl ?_
          obtain ⟨g113, h⟩ := h
          refine V.aald (pc := 26) 6 (z := 96) (o := 68) (x := x3_13) (y := 72 + x3_13) hG a_68 a_68.n (by decide) hx3_13 g113 (hw.2.1 (68, 96, 72) (by decide) _ g113.1 g113.2) (by omega) dX2_joinRegister_26 ?_
          refine V.iload_n (pc := 27) hG dX2_joinRegister_27 rfl 2 rfl ?_
          refine V.callVNi (pc := 28) (As := [.int (sJ p2)]) (stk := []) hG (sm_X3_isUsing l Δ ((node_o g113.1 g113.2)) hp2 hi_13 hw h) mY_X3_isUsing kw_709 kw_711 kw_34 (node_o g113.1 g113.2) (by decide) (q := (RX3, TX3, 13)) rfl rfl ⟨Nat.le_of_ble_eq_true rfl, Nat.le_of_ble_eq_true rfl, Nat.le_of_ble_eq_true rfl, Nat.le_of_ble_eq_true rfl⟩ rfl (Nat.le_of_ble_eq_true rfl) dX2_joinRegister_28 rfl (fun v114 i115 r116 hv117 hi118 hw119 hq120 => ?_)
          obtain ⟨e125, e126, h⟩ := hq120
          subst e125
          subst e126
          refine V.istore (pc := 31) (lv' := [(4, .int (sJ v114)), (0, .ref (sA Δ 168)), (1, .ref (sA Δ 67)), (2, .int (sJ p2)), (3, .int (sJ x3_13))]) hG dX2_joinRegister_31 (by decide) rfl ?_
          refine V.aload_n (pc := 33) hG dX2_joinRegister_33 rfl 2 rfl ?_
          refine V.getRN (x := 68) (pc := 34) (ci := 2) (k := 0) (M := 5) (T := TX0) (o := 67) (kz := 0) hG a_67 a_67.n (by decide) hin_X0 rfl (by decide) (by decide) rfl kw_351 rfl ((hw).1 (67, 0, 68) (by decide)) (by decide) dX2_joinRegister_34 ?_
          refine V.iload_n (pc := 37) hG dX2_joinRegister_37 rfl 4 rfl ?_
          obtain ⟨g121, h⟩ := h
          refine V.aald (pc := 38) 6 (z := 96) (o := 68) (x := x3_13) (y := 72 + x3_13) hG a_68 a_68.n (by decide) hx3_13 g121 (hw.2.1 (68, 96, 72) (by decide) _ g121.1 g121.2) (by omega) dX2_joinRegister_38 ?_
          refine V.getIN (pc := 39) (ci := 5) (k := 8) (M := 13) (T := TX3) (o := 72 + x3_13) (kz := 8) hG (node_o g121.1 g121.2) ((node_o g121.1 g121.2)).n (by decide) hin_X3 rfl (by decide) (by decide) rfl kw_310 rfl dX2_joinRegister_39 ?_
          refine V.iload_n (pc := 42) hG dX2_joinRegister_42 rfl 3 rfl ?_
          obtain ⟨f124, t123⟩ := h
          refine V.icmp_ne (pc := 43) (tgt := 50) hG ((hi_13 _ _)) hp2 dX2_joinRegister_43 (by decide) (fun c122 => ?_) (fun c122 => ?_)
          · have h := t123 c122
            clear t123 f124
            refine V.iconst (pc := 50) hG dX2_joinRegister_50 ?_
            refine V.pick [1, 2, 3, 4, 0] rfl ?_
            exact jn51 x3_13 v114 0 i_13 hx3_13 hv117 ((sR_l rfl)) hi_13 h
          · have h := f124 c122
            clear t123 f124
            refine V.iconst (pc := 46) hG dX2_joinRegister_46 ?_
            refine V.goto (pc := 47) (tgt := 51) hG dX2_joinRegister_47 (by decide) ?_
            refine V.pick [1, 2, 3, 4, 0] rfl ?_
            exact jn51 x3_13 v114 1 i_13 hx3_13 hv117 ((sR_l rfl)) hi_13 h
    refine V.pick [1, 2, 3, 0] rfl ?_
    exact lp13 n55 0 i ((sR_l rfl)) hi h
  · have h := f10 c8
    clear t9 f10
    exact fin dX2_joinRegister_10 hi hw ⟨rfl, h⟩
set_option maxRecDepth 100000 in
set_option maxHeartbeats 4000000 in
theorem sm_X2_joinGiver (l : Launch) (Δ : Wd) {i r : MI} {p2 : Int} {p3 : Int} (hp2 : sR p2) (hp3 : sR p3) {Q : MI → Prop} (hi : okI i) (hw : Wf r) (h : wp_X2_joinGiver p2 p3 i r Q) : Met l yX2_joinGiver (Cond.code yX2_joinGiver cX2_joinGiver 4 none :: gW) (sRm 2 49) (sPc Δ [.ref (sA Δ 168), .ref (sA Δ 67), .int (sJ p2), .int (sJ p3)] i r) (sQv Δ (fun i' r' => r = r' ∧ Q i')) 0 0 (sFr Δ) := by
  refine Ct.v (by decide) rfl (Nat.le_of_ble_eq_true rfl) (fun Γ Q0 hG fin => ?_)
  have hG : okG Γ Δ l (sRm 2 49) cX2_joinGiver "Schedulary$Graph" 4 := hG
  show V Γ Δ 504 false i r 0 0 Q0 0 [(0, .ref (sA Δ 168)), (1, .ref (sA Δ 67)), (2, .int (sJ p2)), (3, .int (sJ p3))] []
  have jn17 : ∀  (ij17 : MI), okI ij17 → s17_X2_joinGiver ij17 r Q → V Γ Δ 504 false ij17 r 0 0 Q0 17 [] [] := by
    intro ij17 hij17 h
    exact fin dX2_joinGiver_17 hij17 hw ⟨rfl, h⟩
  refine V.iload_n (pc := 0) hG dX2_joinGiver_0 rfl 2 rfl ?_
  refine V.iconst (pc := 1) hG dX2_joinGiver_1 ?_
  obtain ⟨t2, f3⟩ := h
  refine V.icmp_eq (pc := 2) (tgt := 17) hG hp2 ((sR_l rfl)) dX2_joinGiver_2 (by decide) (fun c1 => ?_) (fun c1 => ?_)
  · have h := t2 c1
    clear t2 f3
    refine V.pick [] rfl ?_
    exact jn17 i hi h
  · have h := f3 c1
    clear t2 f3
    refine V.aload_n (pc := 5) hG dX2_joinGiver_5 rfl 0 rfl ?_
    refine V.iload_n (pc := 6) hG dX2_joinGiver_6 rfl 2 rfl ?_
    refine V.iload_n (pc := 7) hG dX2_joinGiver_7 rfl 3 rfl ?_
    refine V.iconst (pc := 8) hG dX2_joinGiver_8 ?_
    refine V.aload_n (pc := 9) hG dX2_joinGiver_9 rfl 1 rfl ?_
    refine V.iload_n (pc := 10) hG dX2_joinGiver_10 rfl 2 rfl ?_
    refine V.callVNi (pc := 11) (As := [.int (sJ p2)]) (stk := [.int (sJ 0), .int (sJ p3), .int (sJ p2), .ref (sA Δ 168)]) hG (sm_X0_cyclesOf l Δ hp2 hi hw h) mY_X0_cyclesOf kw_686 kw_688 kw_29 a_67 (by decide) (q := (RX0, TX0, 5)) rfl rfl ⟨Nat.le_of_ble_eq_true rfl, Nat.le_of_ble_eq_true rfl, Nat.le_of_ble_eq_true rfl, Nat.le_of_ble_eq_true rfl⟩ rfl (Nat.le_of_ble_eq_true rfl) dX2_joinGiver_11 rfl (fun v4 i5 r6 hv7 hi8 hw9 hq10 => ?_)
    obtain ⟨e20, e21, h⟩ := hq10
    subst e20
    subst e21
    refine V.callVv (pc := 14) (As := [.int (sJ p2), .int (sJ p3), .int (sJ 0), .int (sJ v4)]) (stk := []) hG (sm_X2_put l Δ hp2 hp3 ((sR_l rfl)) hv7 hi hw h) mY_X2_put kw_690 kw_692 kw_30 a_168 (by decide) (q := (RX2, TX2, 5)) rfl rfl ⟨Nat.le_of_ble_eq_true rfl, Nat.le_of_ble_eq_true rfl, Nat.le_of_ble_eq_true rfl, Nat.le_of_ble_eq_true rfl⟩ rfl (Nat.le_of_ble_eq_true rfl) dX2_joinGiver_14 rfl (fun i12 r13 hi15 hw16 hq17 => ?_)
    obtain ⟨e19, h⟩ := hq17
    subst e19
    refine V.pick [] rfl ?_
    exact jn17 i12 hi15 h
set_option maxRecDepth 100000 in
set_option maxHeartbeats 4000000 in
theorem sm_X2_joinWithinStatements (l : Launch) (Δ : Wd) {i r : MI}   {Q : MI → Prop} (hi : okI i) (hw : Wf r) (h : wp_X2_joinWithinStatements  i r Q) : Met l yX2_joinWithinStatements (Cond.code yX2_joinWithinStatements cX2_joinWithinStatements 3 none :: gW) (sRm 3 72) (sPc Δ [.ref (sA Δ 168), .ref (sA Δ 67)] i r) (sQv Δ (fun i' r' => r = r' ∧ Q i')) 0 0 (sFr Δ) := by
  refine Ct.v (by decide) rfl (Nat.le_of_ble_eq_true rfl) (fun Γ Q0 hG fin => ?_)
  have hG : okG Γ Δ l (sRm 3 72) cX2_joinWithinStatements "Schedulary$Graph" 3 := hG
  show V Γ Δ 504 false i r 0 0 Q0 0 [(0, .ref (sA Δ 168)), (1, .ref (sA Δ 67))] []
  refine V.iconst (pc := 0) hG dX2_joinWithinStatements_0 ?_
  refine V.istore_n (pc := 1) (lv' := [(2, .int (sJ 0)), (0, .ref (sA Δ 168)), (1, .ref (sA Δ 67))]) hG dX2_joinWithinStatements_1 rfl (by decide) rfl ?_
  obtain ⟨n24, h⟩ := h
  have lp2 : ∀ (m2 : Nat) (x2_2 : Int) (i_2 : MI), sR x2_2 → okI i_2 → LoopP (b2_X2_joinWithinStatements r Q) m2 (x2_2, i_2) → V Γ Δ 504 false i_2 r 0 0 Q0 2 [(0, .ref (sA Δ 168)), (1, .ref (sA Δ 67)), (2, .int (sJ x2_2))] [] := by
    intro m2
    induction m2 with
    | zero => intro x2_2 i_2 hx2_2 hi_2 h; exact h.elim
    | succ m2 ih2 =>
      intro x2_2 i_2 hx2_2 hi_2 h
      have h := LoopP_succ h
      refine V.iload_n (pc := 2) hG dX2_joinWithinStatements_2 rfl 2 rfl ?_
      refine V.aload_n (pc := 3) hG dX2_joinWithinStatements_3 rfl 1 rfl ?_
      refine V.getIN (pc := 4) (ci := 2) (k := 4) (M := 5) (T := TX0) (o := 67) (kz := 4) hG a_67 a_67.n (by decide) hin_X0 rfl (by decide) (by decide) rfl kw_367 rfl dX2_joinWithinStatements_4 ?_
      obtain ⟨t26, f27⟩ := h
      refine V.icmp_ge (pc := 7) (tgt := 46) hG hx2_2 ((hi_2 _ _)) dX2_joinWithinStatements_7 (by decide) (fun c25 => ?_) (fun c25 => ?_)
      · have h := t26 c25
        clear t26 f27
        exact fin dX2_joinWithinStatements_46 hi_2 hw ⟨rfl, h⟩
      · have h := f27 c25
        clear t26 f27
        refine V.aload_n (pc := 10) hG dX2_joinWithinStatements_10 rfl 0 rfl ?_
        refine V.aload_n (pc := 11) hG dX2_joinWithinStatements_11 rfl 1 rfl ?_
        refine V.aload_n (pc := 12) hG dX2_joinWithinStatements_12 rfl 1 rfl ?_
        refine V.getRN (x := 68) (pc := 13) (ci := 2) (k := 0) (M := 5) (T := TX0) (o := 67) (kz := 0) hG a_67 a_67.n (by decide) hin_X0 rfl (by decide) (by decide) rfl kw_351 rfl ((hw).1 (67, 0, 68) (by decide)) (by decide) dX2_joinWithinStatements_13 ?_
        refine V.iload_n (pc := 16) hG dX2_joinWithinStatements_16 rfl 2 rfl ?_
        obtain ⟨g28, h⟩ := h
        refine V.aald (pc := 17) 6 (z := 96) (o := 68) (x := x2_2) (y := 72 + x2_2) hG a_68 a_68.n (by decide) hx2_2 g28 (hw.2.1 (68, 96, 72) (by decide) _ g28.1 g28.2) (by omega) dX2_joinWithinStatements_17 ?_
        refine V.getIN (pc := 18) (ci := 5) (k := 5) (M := 13) (T := TX3) (o := 72 + x2_2) (kz := 5) hG (node_o g28.1 g28.2) ((node_o g28.1 g28.2)).n (by decide) hin_X3 rfl (by decide) (by decide) rfl kw_299 rfl dX2_joinWithinStatements_18 ?_
        refine V.iload_n (pc := 21) hG dX2_joinWithinStatements_21 rfl 2 rfl ?_
        refine V.callVv (pc := 22) (As := [.ref (sA Δ 67), .int (sJ (i_2 (72 + x2_2) 5)), .int (sJ x2_2)]) (stk := []) hG (sm_X2_joinGiver l Δ ((hi_2 _ _)) hx2_2 hi_2 hw h) mY_X2_joinGiver kw_682 kw_684 kw_28 a_168 (by decide) (q := (RX2, TX2, 5)) rfl rfl ⟨Nat.le_of_ble_eq_true rfl, Nat.le_of_ble_eq_true rfl, Nat.le_of_ble_eq_true rfl, Nat.le_of_ble_eq_true rfl⟩ rfl (Nat.le_of_ble_eq_true rfl) dX2_joinWithinStatements_22 rfl (fun i30 r31 hi33 hw34 hq35 => ?_)
        obtain ⟨e47, h⟩ := hq35
        subst e47
        refine V.aload_n (pc := 25) hG dX2_joinWithinStatements_25 rfl 0 rfl ?_
        refine V.aload_n (pc := 26) hG dX2_joinWithinStatements_26 rfl 1 rfl ?_
        refine V.aload_n (pc := 27) hG dX2_joinWithinStatements_27 rfl 1 rfl ?_
        refine V.getRN (x := 68) (pc := 28) (ci := 2) (k := 0) (M := 5) (T := TX0) (o := 67) (kz := 0) hG a_67 a_67.n (by decide) hin_X0 rfl (by decide) (by decide) rfl kw_351 rfl ((hw).1 (67, 0, 68) (by decide)) (by decide) dX2_joinWithinStatements_28 ?_
        refine V.iload_n (pc := 31) hG dX2_joinWithinStatements_31 rfl 2 rfl ?_
        obtain ⟨g36, h⟩ := h
        refine V.aald (pc := 32) 6 (z := 96) (o := 68) (x := x2_2) (y := 72 + x2_2) hG a_68 a_68.n (by decide) hx2_2 g36 (hw.2.1 (68, 96, 72) (by decide) _ g36.1 g36.2) (by omega) dX2_joinWithinStatements_32 ?_
        refine V.getIN (pc := 33) (ci := 5) (k := 6) (M := 13) (T := TX3) (o := 72 + x2_2) (kz := 6) hG (node_o g36.1 g36.2) ((node_o g36.1 g36.2)).n (by decide) hin_X3 rfl (by decide) (by decide) rfl kw_303 rfl dX2_joinWithinStatements_33 ?_
        refine V.iload_n (pc := 36) hG dX2_joinWithinStatements_36 rfl 2 rfl ?_
        refine V.callVv (pc := 37) (As := [.ref (sA Δ 67), .int (sJ (i30 (72 + x2_2) 6)), .int (sJ x2_2)]) (stk := []) hG (sm_X2_joinGiver l Δ ((hi33 _ _)) hx2_2 hi33 hw h) mY_X2_joinGiver kw_682 kw_684 kw_28 a_168 (by decide) (q := (RX2, TX2, 5)) rfl rfl ⟨Nat.le_of_ble_eq_true rfl, Nat.le_of_ble_eq_true rfl, Nat.le_of_ble_eq_true rfl, Nat.le_of_ble_eq_true rfl⟩ rfl (Nat.le_of_ble_eq_true rfl) dX2_joinWithinStatements_37 rfl (fun i38 r39 hi41 hw42 hq43 => ?_)
        obtain ⟨e45, h⟩ := hq43
        subst e45
        refine V.iinc (pc := 40) (lv' := [(2, .int (sJ (wr (x2_2 + 1)))), (0, .ref (sA Δ 168)), (1, .ref (sA Δ 67))]) hG dX2_joinWithinStatements_40 2 rfl (by decide) rfl ?_
        refine V.goto (pc := 43) (tgt := 2) hG dX2_joinWithinStatements_43 (by decide) ?_
        refine V.pick [1, 2, 0] rfl ?_
        exact ih2 (wr (x2_2 + 1)) i38 ((sR_wr _)) hi41 h
  refine V.pick [1, 2, 0] rfl ?_
  exact lp2 n24 0 i ((sR_l rfl)) hi h
set_option maxRecDepth 100000 in
set_option maxHeartbeats 4000000 in
theorem sm_X2_join (l : Launch) (Δ : Wd) {i r : MI} {p2 : Int} (hp2 : sR p2) {Q : MI → Prop} (hi : okI i) (hw : Wf r) (h : wp_X2_join p2 i r Q) : Met l yX2_join (Cond.code yX2_join cX2_join 4 none :: gW) (sRm 4 101) (sPc Δ [.ref (sA Δ 168), .ref (sA Δ 67), .int (sJ p2)] i r) (sQv Δ (fun i' r' => r = r' ∧ Q i')) 0 0 (sFr Δ) := by
  refine Ct.v (by decide) rfl (Nat.le_of_ble_eq_true rfl) (fun Γ Q0 hG fin => ?_)
  have hG : okG Γ Δ l (sRm 4 101) cX2_join "Schedulary$Graph" 4 := hG
  show V Γ Δ 504 false i r 0 0 Q0 0 [(0, .ref (sA Δ 168)), (1, .ref (sA Δ 67)), (2, .int (sJ p2))] []
  refine V.aload_n (pc := 0) hG dX2_join_0 rfl 0 rfl ?_
  refine V.iconst (pc := 1) hG dX2_join_1 ?_
  refine V.putI (pc := 2) (ci := 4) (k := 4) (M := 5) (T := TX2) (o := 168) (kz := 4) hG a_168 a_168.n (by decide) hin_X2 rfl (by decide) (by decide) rfl kw_400 rfl tyX2 tyX2_ok nmX2 rfl (ty := tyX2 4) (tyX2_ok 4 (by decide)) rfl rfl dX2_join_2 ?_
  refine V.iconst (pc := 5) hG dX2_join_5 ?_
  refine V.istore_n (pc := 6) (lv' := [(3, .int (sJ 0)), (0, .ref (sA Δ 168)), (1, .ref (sA Δ 67)), (2, .int (sJ p2))]) hG dX2_join_6 rfl (by decide) rfl ?_
  obtain ⟨n131, h⟩ := h
  have lp7 : ∀ (m7 : Nat) (x3_7 : Int) (i_7 : MI), sR x3_7 → okI i_7 → LoopP (b7_X2_join p2 r Q) m7 (x3_7, i_7) → V Γ Δ 504 false i_7 r 0 0 Q0 7 [(0, .ref (sA Δ 168)), (1, .ref (sA Δ 67)), (2, .int (sJ p2)), (3, .int (sJ x3_7))] [] := by
    intro m7
    induction m7 with
    | zero => intro x3_7 i_7 hx3_7 hi_7 h; exact h.elim
    | succ m7 ih7 =>
      intro x3_7 i_7 hx3_7 hi_7 h
      have h := LoopP_succ h
      refine V.iload_n (pc := 7) hG dX2_join_7 rfl 3 rfl ?_
      refine V.bipush (pc := 8) hG dX2_join_8 (by decide) ?_
      obtain ⟨t133, f134⟩ := h
      refine V.icmp_ge (pc := 10) (tgt := 26) hG hx3_7 ((sR_l rfl)) dX2_join_10 (by decide) (fun c132 => ?_) (fun c132 => ?_)
      · have h := t133 c132
        clear t133 f134
        refine V.aload_n (pc := 26) hG dX2_join_26 rfl 0 rfl ?_
        refine V.aload_n (pc := 27) hG dX2_join_27 rfl 1 rfl ?_
        refine V.callVv (pc := 28) (As := [.ref (sA Δ 67)]) (stk := []) hG (sm_X2_joinWithinStatements l Δ  hi_7 hw h) mY_X2_joinWithinStatements kw_678 kw_680 kw_27 a_168 (by decide) (q := (RX2, TX2, 5)) rfl rfl ⟨Nat.le_of_ble_eq_true rfl, Nat.le_of_ble_eq_true rfl, Nat.le_of_ble_eq_true rfl, Nat.le_of_ble_eq_true rfl⟩ rfl (Nat.le_of_ble_eq_true rfl) dX2_join_28 rfl (fun i136 r137 hi139 hw140 hq141 => ?_)
        obtain ⟨e187, h⟩ := hq141
        subst e187
        refine V.iconst (pc := 31) hG dX2_join_31 ?_
        refine V.istore_n (pc := 32) (lv' := [(3, .int (sJ 0)), (0, .ref (sA Δ 168)), (1, .ref (sA Δ 67)), (2, .int (sJ p2))]) hG dX2_join_32 rfl (by decide) rfl ?_
        obtain ⟨n142, h⟩ := h
        have lp33 : ∀ (m33 : Nat) (x3_33 : Int) (i_33 : MI), sR x3_33 → okI i_33 → LoopP (b33_X2_join p2 r Q) m33 (x3_33, i_33) → V Γ Δ 504 false i_33 r 0 0 Q0 33 [(0, .ref (sA Δ 168)), (1, .ref (sA Δ 67)), (2, .int (sJ p2)), (3, .int (sJ x3_33))] [] := by
          intro m33
          induction m33 with
          | zero => intro x3_33 i_33 hx3_33 hi_33 h; exact h.elim
          | succ m33 ih33 =>
            intro x3_33 i_33 hx3_33 hi_33 h
            have h := LoopP_succ h
            refine V.iload_n (pc := 33) hG dX2_join_33 rfl 3 rfl ?_
            refine V.bipush (pc := 34) hG dX2_join_34 (by decide) ?_
            obtain ⟨t144, f145⟩ := h
            refine V.icmp_ge (pc := 36) (tgt := 51) hG hx3_33 ((sR_l rfl)) dX2_join_36 (by decide) (fun c143 => ?_) (fun c143 => ?_)
            · have h := t144 c143
              clear t144 f145
              refine V.iconst (pc := 51) hG dX2_join_51 ?_
              refine V.istore_n (pc := 52) (lv' := [(3, .int (sJ 0)), (0, .ref (sA Δ 168)), (1, .ref (sA Δ 67)), (2, .int (sJ p2))]) hG dX2_join_52 rfl (by decide) rfl ?_
              obtain ⟨n146, h⟩ := h
              have lp53 : ∀ (m53 : Nat) (x3_53 : Int) (i_53 : MI), sR x3_53 → okI i_53 → LoopP (b53_X2_join p2 r Q) m53 (x3_53, i_53) → V Γ Δ 504 false i_53 r 0 0 Q0 53 [(0, .ref (sA Δ 168)), (1, .ref (sA Δ 67)), (2, .int (sJ p2)), (3, .int (sJ x3_53))] [] := by
                intro m53
                induction m53 with
                | zero => intro x3_53 i_53 hx3_53 hi_53 h; exact h.elim
                | succ m53 ih53 =>
                  intro x3_53 i_53 hx3_53 hi_53 h
                  have h := LoopP_succ h
                  refine V.iload_n (pc := 53) hG dX2_join_53 rfl 3 rfl ?_
                  refine V.iconst (pc := 54) hG dX2_join_54 ?_
                  obtain ⟨t148, f149⟩ := h
                  refine V.icmp_ge (pc := 55) (tgt := 73) hG hx3_53 ((sR_l rfl)) dX2_join_55 (by decide) (fun c147 => ?_) (fun c147 => ?_)
                  · have h := t148 c147
                    clear t148 f149
                    refine V.aload_n (pc := 73) hG dX2_join_73 rfl 0 rfl ?_
                    refine V.aload_n (pc := 74) hG dX2_join_74 rfl 1 rfl ?_
                    refine V.iconst (pc := 75) hG dX2_join_75 ?_
                    refine V.callVv (pc := 76) (As := [.ref (sA Δ 67), .int (sJ 5)]) (stk := []) hG (sm_X2_joinChannel l Δ ((sR_l rfl)) hi_53 hw h) mY_X2_joinChannel kw_739 kw_741 kw_40 a_168 (by decide) (q := (RX2, TX2, 5)) rfl rfl ⟨Nat.le_of_ble_eq_true rfl, Nat.le_of_ble_eq_true rfl, Nat.le_of_ble_eq_true rfl, Nat.le_of_ble_eq_true rfl⟩ rfl (Nat.le_of_ble_eq_true rfl) dX2_join_76 rfl (fun i151 r152 hi154 hw155 hq156 => ?_)
                    obtain ⟨e167, h⟩ := hq156
                    subst e167
                    refine V.aload_n (pc := 79) hG dX2_join_79 rfl 0 rfl ?_
                    refine V.aload_n (pc := 80) hG dX2_join_80 rfl 1 rfl ?_
                    refine V.bipush (pc := 81) hG dX2_join_81 (by decide) ?_
                    refine V.callVv (pc := 83) (As := [.ref (sA Δ 67), .int (sJ 6)]) (stk := []) hG (sm_X2_joinChannel l Δ ((sR_l rfl)) hi154 hw h) mY_X2_joinChannel kw_739 kw_741 kw_40 a_168 (by decide) (q := (RX2, TX2, 5)) rfl rfl ⟨Nat.le_of_ble_eq_true rfl, Nat.le_of_ble_eq_true rfl, Nat.le_of_ble_eq_true rfl, Nat.le_of_ble_eq_true rfl⟩ rfl (Nat.le_of_ble_eq_true rfl) dX2_join_83 rfl (fun i158 r159 hi161 hw162 hq163 => ?_)
                    obtain ⟨e165, h⟩ := hq163
                    subst e165
                    exact fin dX2_join_86 hi161 hw ⟨rfl, h⟩
                  · have h := f149 c147
                    clear t148 f149
                    refine V.aload_n (pc := 58) hG dX2_join_58 rfl 0 rfl ?_
                    refine V.aload_n (pc := 59) hG dX2_join_59 rfl 1 rfl ?_
                    refine V.iconst (pc := 60) hG dX2_join_60 ?_
                    refine V.iload_n (pc := 61) hG dX2_join_61 rfl 3 rfl ?_
                    refine V.iadd (pc := 62) hG dX2_join_62 ?_
                    refine V.iload_n (pc := 63) hG dX2_join_63 rfl 2 rfl ?_
                    refine V.callVv (pc := 64) (As := [.ref (sA Δ 67), .int (sJ (wr (3 + x3_53))), .int (sJ p2)]) (stk := []) hG (sm_X2_joinMemory l Δ ((sR_wr _)) hp2 hi_53 hw h) mY_X2_joinMemory kw_725 kw_727 kw_38 a_168 (by decide) (q := (RX2, TX2, 5)) rfl rfl ⟨Nat.le_of_ble_eq_true rfl, Nat.le_of_ble_eq_true rfl, Nat.le_of_ble_eq_true rfl, Nat.le_of_ble_eq_true rfl⟩ rfl (Nat.le_of_ble_eq_true rfl) dX2_join_64 rfl (fun i169 r170 hi172 hw173 hq174 => ?_)
                    obtain ⟨e176, h⟩ := hq174
                    subst e176
                    refine V.iinc (pc := 67) (lv' := [(3, .int (sJ (wr (x3_53 + 1)))), (0, .ref (sA Δ 168)), (1, .ref (sA Δ 67)), (2, .int (sJ p2))]) hG dX2_join_67 3 rfl (by decide) rfl ?_
                    refine V.goto (pc := 70) (tgt := 53) hG dX2_join_70 (by decide) ?_
                    refine V.pick [1, 2, 3, 0] rfl ?_
                    exact ih53 (wr (x3_53 + 1)) i169 ((sR_wr _)) hi172 h
              refine V.pick [1, 2, 3, 0] rfl ?_
              exact lp53 n146 0 i_33 ((sR_l rfl)) hi_33 h
            · have h := f145 c143
              clear t144 f145
              refine V.aload_n (pc := 39) hG dX2_join_39 rfl 0 rfl ?_
              refine V.aload_n (pc := 40) hG dX2_join_40 rfl 1 rfl ?_
              refine V.iload_n (pc := 41) hG dX2_join_41 rfl 3 rfl ?_
              refine V.callVv (pc := 42) (As := [.ref (sA Δ 67), .int (sJ x3_33)]) (stk := []) hG (sm_X2_joinRegister l Δ hx3_33 hi_33 hw h) mY_X2_joinRegister kw_701 kw_703 kw_32 a_168 (by decide) (q := (RX2, TX2, 5)) rfl rfl ⟨Nat.le_of_ble_eq_true rfl, Nat.le_of_ble_eq_true rfl, Nat.le_of_ble_eq_true rfl, Nat.le_of_ble_eq_true rfl⟩ rfl (Nat.le_of_ble_eq_true rfl) dX2_join_42 rfl (fun i178 r179 hi181 hw182 hq183 => ?_)
              obtain ⟨e185, h⟩ := hq183
              subst e185
              refine V.iinc (pc := 45) (lv' := [(3, .int (sJ (wr (x3_33 + 1)))), (0, .ref (sA Δ 168)), (1, .ref (sA Δ 67)), (2, .int (sJ p2))]) hG dX2_join_45 3 rfl (by decide) rfl ?_
              refine V.goto (pc := 48) (tgt := 33) hG dX2_join_48 (by decide) ?_
              refine V.pick [1, 2, 3, 0] rfl ?_
              exact ih33 (wr (x3_33 + 1)) i178 ((sR_wr _)) hi181 h
        refine V.pick [1, 2, 3, 0] rfl ?_
        exact lp33 n142 0 i136 ((sR_l rfl)) hi139 h
      · have h := f134 c132
        clear t133 f134
        refine V.aload_n (pc := 13) hG dX2_join_13 rfl 0 rfl ?_
        refine V.getR (x := 460) (pc := 14) (ci := 4) (k := 3) (M := 5) (T := TX2) (o := 168) (kz := 3) hG a_168 a_168.n (by decide) hin_X2 rfl (by decide) (by decide) rfl kw_397 rfl ((hw).1 (168, 3, 460) (by decide)) (by decide) dX2_join_14 ?_
        refine V.iload_n (pc := 17) hG dX2_join_17 rfl 3 rfl ?_
        refine V.iconst (pc := 18) hG dX2_join_18 ?_
        obtain ⟨g188, h⟩ := h
        refine V.iast (pc := 19) (z := 96) (o := 460) hG a_460 a_460.n hx3_7 g188 dX2_join_19 ?_
        refine V.iinc (pc := 20) (lv' := [(3, .int (sJ (wr (x3_7 + 1)))), (0, .ref (sA Δ 168)), (1, .ref (sA Δ 67)), (2, .int (sJ p2))]) hG dX2_join_20 3 rfl (by decide) rfl ?_
        refine V.goto (pc := 23) (tgt := 7) hG dX2_join_23 (by decide) ?_
        refine V.pick [1, 2, 3, 0] rfl ?_
        exact ih7 (wr (x3_7 + 1)) (st i_7 460 x3_7 0) ((sR_wr _)) ((okI_st hi_7 ((sR_l rfl)))) h
  refine V.pick [1, 2, 3, 0] rfl ?_
  exact lp7 n131 0 (st i 168 4 0) ((sR_l rfl)) ((okI_st hi ((sR_l rfl)))) h
set_option maxRecDepth 100000 in
set_option maxHeartbeats 4000000 in
theorem sm_X0_sumOfCycles (l : Launch) (Δ : Wd) {i r : MI}   {Q : Int → Prop} (hi : okI i) (hw : Wf r) (h : wp_X0_sumOfCycles  i r Q) : Met l yX0_sumOfCycles (Cond.code yX0_sumOfCycles cX0_sumOfCycles 3 (some .int) :: gW) (sRm 1 21) (sPc Δ [.ref (sA Δ 67)] i r) (sQi Δ (fun x i' r' => i = i' ∧ r = r' ∧ Q x)) 0 0 (sFr Δ) := by
  refine Ct.i (ty := .int) (by decide) rfl (Nat.le_of_ble_eq_true rfl) (fun Γ Q0 hG fin => ?_)
  have hG : okG Γ Δ l (sRm 1 21) cX0_sumOfCycles "Schedulary$Body" 3 := hG
  show V Γ Δ 504 false i r 0 0 Q0 0 [(0, .ref (sA Δ 67))] []
  refine V.iconst (pc := 0) hG dX0_sumOfCycles_0 ?_
  refine V.istore_n (pc := 1) (lv' := [(1, .int (sJ 0)), (0, .ref (sA Δ 67))]) hG dX0_sumOfCycles_1 rfl (by decide) rfl ?_
  refine V.iconst (pc := 2) hG dX0_sumOfCycles_2 ?_
  refine V.istore_n (pc := 3) (lv' := [(2, .int (sJ 0)), (1, .int (sJ 0)), (0, .ref (sA Δ 67))]) hG dX0_sumOfCycles_3 rfl (by decide) rfl ?_
  obtain ⟨n13, h⟩ := h
  have lp4 : ∀ (m4 : Nat) (x1_4 : Int) (x2_4 : Int), sR x1_4 → sR x2_4 → LoopP (b4_X0_sumOfCycles i r Q) m4 (x1_4, x2_4) → V Γ Δ 504 false i r 0 0 Q0 4 [(0, .ref (sA Δ 67)), (1, .int (sJ x1_4)), (2, .int (sJ x2_4))] [] := by
    intro m4
    induction m4 with
    | zero => intro x1_4 x2_4 hx1_4 hx2_4 h; exact h.elim
    | succ m4 ih4 =>
      intro x1_4 x2_4 hx1_4 hx2_4 h
      have h := LoopP_succ h
      refine V.iload_n (pc := 4) hG dX0_sumOfCycles_4 rfl 2 rfl ?_
      refine V.aload_n (pc := 5) hG dX0_sumOfCycles_5 rfl 0 rfl ?_
      refine V.getI (pc := 6) (ci := 2) (k := 4) (M := 5) (T := TX0) (o := 67) (kz := 4) hG a_67 a_67.n (by decide) hin_X0 rfl (by decide) (by decide) rfl kw_363 rfl dX0_sumOfCycles_6 ?_
      obtain ⟨t15, f16⟩ := h
      refine V.icmp_ge (pc := 9) (tgt := 26) hG hx2_4 ((hi _ _)) dX0_sumOfCycles_9 (by decide) (fun c14 => ?_) (fun c14 => ?_)
      · have h := t15 c14
        clear t15 f16
        refine V.iload_n (pc := 26) hG dX0_sumOfCycles_26 rfl 1 rfl ?_
        exact fin dX0_sumOfCycles_27 hx1_4 rfl hi hw ⟨rfl, rfl, h⟩
      · have h := f16 c14
        clear t15 f16
        refine V.iload_n (pc := 12) hG dX0_sumOfCycles_12 rfl 1 rfl ?_
        refine V.aload_n (pc := 13) hG dX0_sumOfCycles_13 rfl 0 rfl ?_
        refine V.iload_n (pc := 14) hG dX0_sumOfCycles_14 rfl 2 rfl ?_
        refine V.callVi (pc := 15) (As := [.int (sJ x2_4)]) (stk := [.int (sJ x1_4)]) hG (sm_X0_cyclesOf l Δ hx2_4 hi hw h) mY_X0_cyclesOf kw_760 kw_688 kw_29 a_67 (by decide) (q := (RX0, TX0, 5)) rfl rfl ⟨Nat.le_of_ble_eq_true rfl, Nat.le_of_ble_eq_true rfl, Nat.le_of_ble_eq_true rfl, Nat.le_of_ble_eq_true rfl⟩ rfl (Nat.le_of_ble_eq_true rfl) dX0_sumOfCycles_15 rfl (fun v17 i18 r19 hv20 hi21 hw22 hq23 => ?_)
        obtain ⟨e24, e25, h⟩ := hq23
        subst e24
        subst e25
        refine V.iadd (pc := 18) hG dX0_sumOfCycles_18 ?_
        refine V.istore_n (pc := 19) (lv' := [(1, .int (sJ (wr (x1_4 + v17)))), (0, .ref (sA Δ 67)), (2, .int (sJ x2_4))]) hG dX0_sumOfCycles_19 rfl (by decide) rfl ?_
        refine V.iinc (pc := 20) (lv' := [(2, .int (sJ (wr (x2_4 + 1)))), (1, .int (sJ (wr (x1_4 + v17)))), (0, .ref (sA Δ 67))]) hG dX0_sumOfCycles_20 2 rfl (by decide) rfl ?_
        refine V.goto (pc := 23) (tgt := 4) hG dX0_sumOfCycles_23 (by decide) ?_
        refine V.pick [2, 1, 0] rfl ?_
        exact ih4 (wr (x1_4 + v17)) (wr (x2_4 + 1)) ((sR_wr _)) ((sR_wr _)) h
  refine V.pick [2, 1, 0] rfl ?_
  exact lp4 n13 0 0 ((sR_l rfl)) ((sR_l rfl)) h
set_option maxRecDepth 100000 in
set_option maxHeartbeats 4000000 in
theorem sm_X4_pushAll (l : Launch) (Δ : Wd) {i r : MI} {p3 : Int} (hp3 : sR p3) {Q : Int → MI → Prop} (hi : okI i) (hw : Wf r) (h : wp_X4_pushAll p3 i r Q) : Met l yX4_pushAll (Cond.code yX4_pushAll cX4_pushAll 9 (some .int) :: gW) (sRm 1 13) (sPc Δ [.ref (sA Δ 469), .ref (sA Δ 67), .ref (sA Δ 168), .int (sJ p3)] i r) (sQi Δ (fun x i' r' => r = r' ∧ Q x i')) 0 0 (sFr Δ) := by
  refine Ct.i (ty := .int) (by decide) rfl (Nat.le_of_ble_eq_true rfl) (fun Γ Q0 hG fin => ?_)
  have hG : okG Γ Δ l (sRm 1 13) cX4_pushAll "Schedulary$Pace" 9 := hG
  show V Γ Δ 504 false i r 0 0 Q0 0 [(0, .ref (sA Δ 469)), (1, .ref (sA Δ 67)), (2, .ref (sA Δ 168)), (3, .int (sJ p3))] []
  refine V.iconst (pc := 0) hG dX4_pushAll_0 ?_
  refine V.istore (pc := 1) (lv' := [(4, .int (sJ (-1))), (0, .ref (sA Δ 469)), (1, .ref (sA Δ 67)), (2, .ref (sA Δ 168)), (3, .int (sJ p3))]) hG dX4_pushAll_1 (by decide) rfl ?_
  refine V.iconst (pc := 3) hG dX4_pushAll_3 ?_
  refine V.istore (pc := 4) (lv' := [(5, .int (sJ 0)), (4, .int (sJ (-1))), (0, .ref (sA Δ 469)), (1, .ref (sA Δ 67)), (2, .ref (sA Δ 168)), (3, .int (sJ p3))]) hG dX4_pushAll_4 (by decide) rfl ?_
  obtain ⟨n37, h⟩ := h
  have lp6 : ∀ (m6 : Nat) (x4_6 : Int) (x5_6 : Int) (i_6 : MI), sR x4_6 → sR x5_6 → okI i_6 → LoopP (b6_X4_pushAll p3 r Q) m6 (x4_6, x5_6, i_6) → V Γ Δ 504 false i_6 r 0 0 Q0 6 [(0, .ref (sA Δ 469)), (1, .ref (sA Δ 67)), (2, .ref (sA Δ 168)), (3, .int (sJ p3)), (4, .int (sJ x4_6)), (5, .int (sJ x5_6))] [] := by
    intro m6
    induction m6 with
    | zero => intro x4_6 x5_6 i_6 hx4_6 hx5_6 hi_6 h; exact h.elim
    | succ m6 ih6 =>
      intro x4_6 x5_6 i_6 hx4_6 hx5_6 hi_6 h
      have h := LoopP_succ h
      refine V.iload (pc := 6) hG dX4_pushAll_6 5 rfl ?_
      refine V.aload_n (pc := 8) hG dX4_pushAll_8 rfl 1 rfl ?_
      refine V.getIN (pc := 9) (ci := 2) (k := 4) (M := 5) (T := TX0) (o := 67) (kz := 4) hG a_67 a_67.n (by decide) hin_X0 rfl (by decide) (by decide) rfl kw_366 rfl dX4_pushAll_9 ?_
      obtain ⟨t39, f40⟩ := h
      refine V.icmp_ge (pc := 12) (tgt := 117) hG hx5_6 ((hi_6 _ _)) dX4_pushAll_12 (by decide) (fun c38 => ?_) (fun c38 => ?_)
      · have h := t39 c38
        clear t39 f40
        refine V.iload (pc := 117) hG dX4_pushAll_117 4 rfl ?_
        exact fin dX4_pushAll_119 hx4_6 rfl hi_6 hw ⟨rfl, h⟩
      · have h := f40 c38
        clear t39 f40
        refine V.iconst (pc := 15) hG dX4_pushAll_15 ?_
        refine V.istore (pc := 16) (lv' := [(6, .int (sJ 0)), (0, .ref (sA Δ 469)), (1, .ref (sA Δ 67)), (2, .ref (sA Δ 168)), (3, .int (sJ p3)), (4, .int (sJ x4_6)), (5, .int (sJ x5_6))]) hG dX4_pushAll_16 (by decide) rfl ?_
        obtain ⟨n41, h⟩ := h
        have lp18 : ∀ (m18 : Nat) (x4_18 : Int) (x6_18 : Int) (i_18 : MI), sR x4_18 → sR x6_18 → okI i_18 → LoopP (b18_X4_pushAll p3 x5_6 r Q (LoopP (b6_X4_pushAll p3 r Q) m6)) m18 (x4_18, x6_18, i_18) → V Γ Δ 504 false i_18 r 0 0 Q0 18 [(0, .ref (sA Δ 469)), (1, .ref (sA Δ 67)), (2, .ref (sA Δ 168)), (3, .int (sJ p3)), (4, .int (sJ x4_18)), (5, .int (sJ x5_6)), (6, .int (sJ x6_18))] [] := by
          intro m18
          induction m18 with
          | zero => intro x4_18 x6_18 i_18 hx4_18 hx6_18 hi_18 h; exact h.elim
          | succ m18 ih18 =>
            intro x4_18 x6_18 i_18 hx4_18 hx6_18 hi_18 h
            have h := LoopP_succ h
            have jn105 : ∀ (x4j105 : Int) (x6j105 : Int) (ij105 : MI), sR x4j105 → sR x6j105 → okI ij105 → s105_X4_pushAll p3 x4j105 x5_6 x6j105 ij105 r Q (LoopP (b6_X4_pushAll p3 r Q) m6) (LoopP (b18_X4_pushAll p3 x5_6 r Q (LoopP (b6_X4_pushAll p3 r Q) m6)) m18) → V Γ Δ 504 false ij105 r 0 0 Q0 105 [(0, .ref (sA Δ 469)), (1, .ref (sA Δ 67)), (2, .ref (sA Δ 168)), (3, .int (sJ p3)), (4, .int (sJ x4j105)), (5, .int (sJ x5_6)), (6, .int (sJ x6j105))] [] := by
              intro x4j105 x6j105 ij105 hx4j105 hx6j105 hij105 h
              refine V.iinc (pc := 105) (lv' := [(6, .int (sJ (wr (x6j105 + 1)))), (0, .ref (sA Δ 469)), (1, .ref (sA Δ 67)), (2, .ref (sA Δ 168)), (3, .int (sJ p3)), (4, .int (sJ x4j105)), (5, .int (sJ x5_6))]) hG dX4_pushAll_105 6 rfl (by decide) rfl ?_
              refine V.goto (pc := 108) (tgt := 18) hG dX4_pushAll_108 (by decide) ?_
              refine V.pick [1, 2, 3, 4, 5, 6, 0] rfl ?_
              exact ih18 x4j105 (wr (x6j105 + 1)) ij105 hx4j105 ((sR_wr _)) hij105 h
            refine V.iload (pc := 18) hG dX4_pushAll_18 6 rfl ?_
            refine V.aload_n (pc := 20) hG dX4_pushAll_20 rfl 2 rfl ?_
            refine V.getRN (x := 460) (pc := 21) (ci := 4) (k := 3) (M := 5) (T := TX2) (o := 168) (kz := 3) hG a_168 a_168.n (by decide) hin_X2 rfl (by decide) (by decide) rfl kw_399 rfl ((hw).1 (168, 3, 460) (by decide)) (by decide) dX4_pushAll_21 ?_
            refine V.iload (pc := 24) hG dX4_pushAll_24 5 rfl ?_
            obtain ⟨g42, h⟩ := h
            refine V.iald (pc := 26) (z := 96) (o := 460) hG a_460 a_460.n hx5_6 g42 dX4_pushAll_26 ?_
            obtain ⟨t44, f45⟩ := h
            refine V.icmp_ge (pc := 27) (tgt := 111) hG hx6_18 ((hi_18 _ _)) dX4_pushAll_27 (by decide) (fun c43 => ?_) (fun c43 => ?_)
            · have h := t44 c43
              clear t44 f45
              refine V.iinc (pc := 111) (lv' := [(5, .int (sJ (wr (x5_6 + 1)))), (0, .ref (sA Δ 469)), (1, .ref (sA Δ 67)), (2, .ref (sA Δ 168)), (3, .int (sJ p3)), (4, .int (sJ x4_18)), (6, .int (sJ x6_18))]) hG dX4_pushAll_111 5 rfl (by decide) rfl ?_
              refine V.goto (pc := 114) (tgt := 6) hG dX4_pushAll_114 (by decide) ?_
              refine V.pick [1, 2, 3, 4, 5, 0] rfl ?_
              exact ih6 x4_18 (wr (x5_6 + 1)) i_18 hx4_18 ((sR_wr _)) hi_18 h
            · have h := f45 c43
              clear t44 f45
              refine V.aload_n (pc := 30) hG dX4_pushAll_30 rfl 2 rfl ?_
              refine V.getRN (x := 169) (pc := 31) (ci := 4) (k := 0) (M := 5) (T := TX2) (o := 168) (kz := 0) hG a_168 a_168.n (by decide) hin_X2 rfl (by decide) (by decide) rfl kw_389 rfl ((hw).1 (168, 0, 169) (by decide)) (by decide) dX4_pushAll_31 ?_
              refine V.iload (pc := 34) hG dX4_pushAll_34 5 rfl ?_
              obtain ⟨g46, h⟩ := h
              refine V.aald (pc := 36) 7 (z := 96) (o := 169) (x := x5_6) (y := 170 + x5_6) hG a_169 a_169.n (by decide) hx5_6 g46 (hw.2.1 (169, 96, 170) (by decide) _ g46.1 g46.2) (by omega) dX4_pushAll_36 ?_
              refine V.iload (pc := 37) hG dX4_pushAll_37 6 rfl ?_
              obtain ⟨g47, h⟩ := h
              refine V.iald (pc := 39) (z := 100) (o := 170 + x5_6) hG (row_169 g46) ((row_169 g46)).n hx6_18 g47 dX4_pushAll_39 ?_
              refine V.istore (pc := 40) (lv' := [(7, .int (sJ (i_18 (170 + x5_6) x6_18))), (0, .ref (sA Δ 469)), (1, .ref (sA Δ 67)), (2, .ref (sA Δ 168)), (3, .int (sJ p3)), (4, .int (sJ x4_18)), (5, .int (sJ x5_6)), (6, .int (sJ x6_18))]) hG dX4_pushAll_40 (by decide) rfl ?_
              refine V.aload_n (pc := 42) hG dX4_pushAll_42 rfl 1 rfl ?_
              refine V.getR (x := 471) (pc := 43) (ci := 6) (k := 1) (M := 6) (T := TX4) (o := 469) (kz := 1) hG a_469 a_469.n (by decide) hin_X4 rfl (by decide) (by decide) rfl kw_454 rfl ((hw).1 (469, 1, 471) (by decide)) (by decide) dX4_pushAll_43 ?_
              refine V.iload (pc := 46) hG dX4_pushAll_46 6 rfl ?_
              obtain ⟨g48, h⟩ := h
              refine V.iald (pc := 48) (z := 96) (o := 471) hG a_471 a_471.n hx5_6 g48 dX4_pushAll_48 ?_
              refine V.aload_n (pc := 49) hG dX4_pushAll_49 rfl 3 rfl ?_
              refine V.getRN (x := 363) (pc := 50) (ci := 4) (k := 2) (M := 5) (T := TX2) (o := 168) (kz := 2) hG a_168 a_168.n (by decide) hin_X2 rfl (by decide) (by decide) rfl kw_395 rfl ((hw).1 (168, 2, 363) (by decide)) (by decide) dX4_pushAll_50 ?_
              refine V.iload (pc := 53) hG dX4_pushAll_53 6 rfl ?_
              obtain ⟨g49, h⟩ := h
              refine V.aald (pc := 55) 7 (z := 96) (o := 363) (x := x5_6) (y := 364 + x5_6) hG a_363 a_363.n (by decide) hx5_6 g49 (hw.2.1 (363, 96, 364) (by decide) _ g49.1 g49.2) (by omega) dX4_pushAll_55 ?_
              refine V.iload (pc := 56) hG dX4_pushAll_56 7 rfl ?_
              obtain ⟨g50, h⟩ := h
              refine V.iald (pc := 58) (z := 100) (o := 364 + x5_6) hG (row_363 g49) ((row_363 g49)).n hx6_18 g50 dX4_pushAll_58 ?_
              refine V.iadd (pc := 59) hG dX4_pushAll_59 ?_
              refine V.iload_n (pc := 60) hG dX4_pushAll_60 rfl 4 rfl ?_
              refine V.aload_n (pc := 61) hG dX4_pushAll_61 rfl 3 rfl ?_
              refine V.getRN (x := 266) (pc := 62) (ci := 4) (k := 1) (M := 5) (T := TX2) (o := 168) (kz := 1) hG a_168 a_168.n (by decide) hin_X2 rfl (by decide) (by decide) rfl kw_392 rfl ((hw).1 (168, 1, 266) (by decide)) (by decide) dX4_pushAll_62 ?_
              refine V.iload (pc := 65) hG dX4_pushAll_65 6 rfl ?_
              obtain ⟨g51, h⟩ := h
              refine V.aald (pc := 67) 7 (z := 96) (o := 266) (x := x5_6) (y := 267 + x5_6) hG a_266 a_266.n (by decide) hx5_6 g51 (hw.2.1 (266, 96, 267) (by decide) _ g51.1 g51.2) (by omega) dX4_pushAll_67 ?_
              refine V.iload (pc := 68) hG dX4_pushAll_68 7 rfl ?_
              obtain ⟨g52, h⟩ := h
              refine V.iald (pc := 70) (z := 100) (o := 267 + x5_6) hG (row_266 g51) ((row_266 g51)).n hx6_18 g52 dX4_pushAll_70 ?_
              refine V.imul (pc := 71) hG dX4_pushAll_71 ?_
              refine V.isub (pc := 72) hG dX4_pushAll_72 ?_
              refine V.istore (pc := 73) (lv' := [(8, .int (sJ (wr (wr (i_18 471 x5_6 + i_18 (364 + x5_6) x6_18) - wr (p3 * i_18 (267 + x5_6) x6_18))))), (7, .int (sJ (i_18 (170 + x5_6) x6_18))), (0, .ref (sA Δ 469)), (1, .ref (sA Δ 67)), (2, .ref (sA Δ 168)), (3, .int (sJ p3)), (4, .int (sJ x4_18)), (5, .int (sJ x5_6)), (6, .int (sJ x6_18))]) hG dX4_pushAll_73 (by decide) rfl ?_
              refine V.iload (pc := 75) hG dX4_pushAll_75 0 rfl ?_
              refine V.aload_n (pc := 77) hG dX4_pushAll_77 rfl 2 rfl ?_
              refine V.getR (x := 471) (pc := 78) (ci := 6) (k := 1) (M := 6) (T := TX4) (o := 469) (kz := 1) hG a_469 a_469.n (by decide) hin_X4 rfl (by decide) (by decide) rfl kw_454 rfl ((hw).1 (469, 1, 471) (by decide)) (by decide) dX4_pushAll_78 ?_
              refine V.iload (pc := 81) hG dX4_pushAll_81 1 rfl ?_
              obtain ⟨g53, h⟩ := h
              refine V.iald (pc := 83) (z := 96) (o := 471) hG a_471 a_471.n ((hi_18 _ _)) g53 dX4_pushAll_83 ?_
              obtain ⟨t55, f56⟩ := h
              refine V.icmp_le (pc := 84) (tgt := 105) hG ((sR_wr _)) ((hi_18 _ _)) dX4_pushAll_84 (by decide) (fun c54 => ?_) (fun c54 => ?_)
              · have h := t55 c54
                clear t55 f56
                refine V.pick [2, 3, 4, 5, 6, 7, 8] rfl ?_
                exact jn105 x4_18 x6_18 i_18 hx4_18 hx6_18 hi_18 h
              · have h := f56 c54
                clear t55 f56
                refine V.aload_n (pc := 87) hG dX4_pushAll_87 rfl 2 rfl ?_
                refine V.getR (x := 471) (pc := 88) (ci := 6) (k := 1) (M := 6) (T := TX4) (o := 469) (kz := 1) hG a_469 a_469.n (by decide) hin_X4 rfl (by decide) (by decide) rfl kw_454 rfl ((hw).1 (469, 1, 471) (by decide)) (by decide) dX4_pushAll_88 ?_
                refine V.iload (pc := 91) hG dX4_pushAll_91 1 rfl ?_
                refine V.iload (pc := 93) hG dX4_pushAll_93 0 rfl ?_
                obtain ⟨g57, h⟩ := h
                refine V.iast (pc := 95) (z := 96) (o := 471) hG a_471 a_471.n ((hi_18 _ _)) g57 dX4_pushAll_95 ?_
                refine V.iload (pc := 96) hG dX4_pushAll_96 6 rfl ?_
                refine V.iload (pc := 98) hG dX4_pushAll_98 0 rfl ?_
                refine V.mmax (pc := 100) hG hx4_18 ((sR_wr _)) kw_796 kw_699 kw_121 kw_max ⟨Nat.le_of_ble_eq_true rfl, Nat.le_of_ble_eq_true rfl, Nat.le_of_ble_eq_true rfl, Nat.le_of_ble_eq_true rfl⟩ dX4_pushAll_100 ?_
                refine V.istore (pc := 103) (lv' := [(4, .int (sJ (max x4_18 (wr (wr (i_18 471 x5_6 + i_18 (364 + x5_6) x6_18) - wr (p3 * i_18 (267 + x5_6) x6_18)))))), (8, .int (sJ (wr (wr (i_18 471 x5_6 + i_18 (364 + x5_6) x6_18) - wr (p3 * i_18 (267 + x5_6) x6_18))))), (7, .int (sJ (i_18 (170 + x5_6) x6_18))), (0, .ref (sA Δ 469)), (1, .ref (sA Δ 67)), (2, .ref (sA Δ 168)), (3, .int (sJ p3)), (5, .int (sJ x5_6)), (6, .int (sJ x6_18))]) hG dX4_pushAll_103 (by decide) rfl ?_
                refine V.pick [3, 4, 5, 6, 0, 7, 8] rfl ?_
                exact jn105 (max x4_18 (wr (wr (i_18 471 x5_6 + i_18 (364 + x5_6) x6_18) - wr (p3 * i_18 (267 + x5_6) x6_18)))) x6_18 (st i_18 471 (i_18 (170 + x5_6) x6_18) (wr (wr (i_18 471 x5_6 + i_18 (364 + x5_6) x6_18) - wr (p3 * i_18 (267 + x5_6) x6_18)))) ((sR_max hx4_18 ((sR_wr _)))) hx6_18 ((okI_st hi_18 ((sR_wr _)))) h
        refine V.pick [1, 2, 3, 4, 5, 6, 0] rfl ?_
        exact lp18 n41 x4_6 0 i_6 hx4_6 ((sR_l rfl)) hi_6 h
  refine V.pick [2, 3, 4, 5, 1, 0] rfl ?_
  exact lp6 n37 (-1) 0 i ((sR_l rfl)) ((sR_l rfl)) hi h
set_option maxRecDepth 100000 in
set_option maxHeartbeats 4000000 in
theorem sm_X4_isAllowedByRings (l : Launch) (Δ : Wd) {i r : MI} {p3 : Int} (hp3 : sR p3) {Q : Int → MI → Prop} (hi : okI i) (hw : Wf r) (h : wp_X4_isAllowedByRings p3 i r Q) : Met l yX4_isAllowedByRings (Cond.code yX4_isAllowedByRings cX4_isAllowedByRings 7 (some .boolean) :: gW) (sRm 2 43) (sPc Δ [.ref (sA Δ 469), .ref (sA Δ 67), .ref (sA Δ 168), .int (sJ p3)] i r) (sQi Δ (fun x i' r' => r = r' ∧ Q x i')) 0 0 (sFr Δ) := by
  refine Ct.i (ty := .boolean) (by decide) rfl (Nat.le_of_ble_eq_true rfl) (fun Γ Q0 hG fin => ?_)
  have hG : okG Γ Δ l (sRm 2 43) cX4_isAllowedByRings "Schedulary$Pace" 7 := hG
  show V Γ Δ 504 false i r 0 0 Q0 0 [(0, .ref (sA Δ 469)), (1, .ref (sA Δ 67)), (2, .ref (sA Δ 168)), (3, .int (sJ p3))] []
  refine V.iconst (pc := 0) hG dX4_isAllowedByRings_0 ?_
  refine V.istore (pc := 1) (lv' := [(4, .int (sJ 0)), (0, .ref (sA Δ 469)), (1, .ref (sA Δ 67)), (2, .ref (sA Δ 168)), (3, .int (sJ p3))]) hG dX4_isAllowedByRings_1 (by decide) rfl ?_
  obtain ⟨n51, h⟩ := h
  have lp3 : ∀ (m3 : Nat) (x4_3 : Int) (i_3 : MI), sR x4_3 → okI i_3 → LoopP (b3_X4_isAllowedByRings p3 r Q) m3 (x4_3, i_3) → V Γ Δ 504 false i_3 r 0 0 Q0 3 [(0, .ref (sA Δ 469)), (1, .ref (sA Δ 67)), (2, .ref (sA Δ 168)), (3, .int (sJ p3)), (4, .int (sJ x4_3))] [] := by
    intro m3
    induction m3 with
    | zero => intro x4_3 i_3 hx4_3 hi_3 h; exact h.elim
    | succ m3 ih3 =>
      intro x4_3 i_3 hx4_3 hi_3 h
      have h := LoopP_succ h
      refine V.iload (pc := 3) hG dX4_isAllowedByRings_3 4 rfl ?_
      refine V.aload_n (pc := 5) hG dX4_isAllowedByRings_5 rfl 1 rfl ?_
      refine V.getIN (pc := 6) (ci := 2) (k := 4) (M := 5) (T := TX0) (o := 67) (kz := 4) hG a_67 a_67.n (by decide) hin_X0 rfl (by decide) (by decide) rfl kw_366 rfl dX4_isAllowedByRings_6 ?_
      obtain ⟨t53, f54⟩ := h
      refine V.icmp_ge (pc := 9) (tgt := 26) hG hx4_3 ((hi_3 _ _)) dX4_isAllowedByRings_9 (by decide) (fun c52 => ?_) (fun c52 => ?_)
      · have h := t53 c52
        clear t53 f54
        refine V.aload_n (pc := 26) hG dX4_isAllowedByRings_26 rfl 1 rfl ?_
        refine V.callVNi (pc := 27) (As := []) (stk := []) hG (sm_X0_sumOfCycles l Δ  hi_3 hw h) mY_X0_sumOfCycles kw_792 kw_794 kw_52 a_67 (by decide) (q := (RX0, TX0, 5)) rfl rfl ⟨Nat.le_of_ble_eq_true rfl, Nat.le_of_ble_eq_true rfl, Nat.le_of_ble_eq_true rfl, Nat.le_of_ble_eq_true rfl⟩ rfl (Nat.le_of_ble_eq_true rfl) dX4_isAllowedByRings_27 rfl (fun v55 i56 r57 hv58 hi59 hw60 hq61 => ?_)
        obtain ⟨e81, e82, h⟩ := hq61
        subst e81
        subst e82
        refine V.istore (pc := 30) (lv' := [(4, .int (sJ v55)), (0, .ref (sA Δ 469)), (1, .ref (sA Δ 67)), (2, .ref (sA Δ 168)), (3, .int (sJ p3))]) hG dX4_isAllowedByRings_30 (by decide) rfl ?_
        refine V.iconst (pc := 32) hG dX4_isAllowedByRings_32 ?_
        refine V.istore (pc := 33) (lv' := [(5, .int (sJ 0)), (4, .int (sJ v55)), (0, .ref (sA Δ 469)), (1, .ref (sA Δ 67)), (2, .ref (sA Δ 168)), (3, .int (sJ p3))]) hG dX4_isAllowedByRings_33 (by decide) rfl ?_
        obtain ⟨n62, h⟩ := h
        have lp35 : ∀ (m35 : Nat) (x5_35 : Int) (i_35 : MI), sR x5_35 → okI i_35 → LoopP (b35_X4_isAllowedByRings p3 v55 r Q) m35 (x5_35, i_35) → V Γ Δ 504 false i_35 r 0 0 Q0 35 [(0, .ref (sA Δ 469)), (1, .ref (sA Δ 67)), (2, .ref (sA Δ 168)), (3, .int (sJ p3)), (4, .int (sJ v55)), (5, .int (sJ x5_35))] [] := by
          intro m35
          induction m35 with
          | zero => intro x5_35 i_35 hx5_35 hi_35 h; exact h.elim
          | succ m35 ih35 =>
            intro x5_35 i_35 hx5_35 hi_35 h
            have h := LoopP_succ h
            refine V.iload (pc := 35) hG dX4_isAllowedByRings_35 5 rfl ?_
            refine V.aload_n (pc := 37) hG dX4_isAllowedByRings_37 rfl 1 rfl ?_
            refine V.getIN (pc := 38) (ci := 2) (k := 4) (M := 5) (T := TX0) (o := 67) (kz := 4) hG a_67 a_67.n (by decide) hin_X0 rfl (by decide) (by decide) rfl kw_366 rfl dX4_isAllowedByRings_38 ?_
            obtain ⟨t64, f65⟩ := h
            refine V.icmp_gt (pc := 41) (tgt := 76) hG hx5_35 ((hi_35 _ _)) dX4_isAllowedByRings_41 (by decide) (fun c63 => ?_) (fun c63 => ?_)
            · have h := t64 c63
              clear t64 f65
              refine V.iconst (pc := 76) hG dX4_isAllowedByRings_76 ?_
              exact fin dX4_isAllowedByRings_77 ((sR_l rfl)) (nar_z (by decide)) hi_35 hw ⟨rfl, h⟩
            · have h := f65 c63
              clear t64 f65
              refine V.aload_n (pc := 44) hG dX4_isAllowedByRings_44 rfl 0 rfl ?_
              refine V.aload_n (pc := 45) hG dX4_isAllowedByRings_45 rfl 1 rfl ?_
              refine V.aload_n (pc := 46) hG dX4_isAllowedByRings_46 rfl 2 rfl ?_
              refine V.iload_n (pc := 47) hG dX4_isAllowedByRings_47 rfl 3 rfl ?_
              refine V.callVi (pc := 48) (As := [.ref (sA Δ 67), .ref (sA Δ 168), .int (sJ p3)]) (stk := []) hG (sm_X4_pushAll l Δ hp3 hi_35 hw h) mY_X4_pushAll kw_801 kw_803 kw_54 a_469 (by decide) (q := (RX4, TX4, 6)) rfl rfl ⟨Nat.le_of_ble_eq_true rfl, Nat.le_of_ble_eq_true rfl, Nat.le_of_ble_eq_true rfl, Nat.le_of_ble_eq_true rfl⟩ rfl (Nat.le_of_ble_eq_true rfl) dX4_isAllowedByRings_48 rfl (fun v66 i67 r68 hv69 hi70 hw71 hq72 => ?_)
              obtain ⟨e80, h⟩ := hq72
              subst e80
              refine V.istore (pc := 51) (lv' := [(6, .int (sJ v66)), (0, .ref (sA Δ 469)), (1, .ref (sA Δ 67)), (2, .ref (sA Δ 168)), (3, .int (sJ p3)), (4, .int (sJ v55)), (5, .int (sJ x5_35))]) hG dX4_isAllowedByRings_51 (by decide) rfl ?_
              refine V.iload (pc := 53) hG dX4_isAllowedByRings_53 0 rfl ?_
              refine V.iconst (pc := 55) hG dX4_isAllowedByRings_55 ?_
              obtain ⟨f75, t74⟩ := h
              refine V.icmp_ne (pc := 56) (tgt := 61) hG hv69 ((sR_l rfl)) dX4_isAllowedByRings_56 (by decide) (fun c73 => ?_) (fun c73 => ?_)
              · have h := t74 c73
                clear t74 f75
                refine V.iload (pc := 61) hG dX4_isAllowedByRings_61 0 rfl ?_
                refine V.iload (pc := 63) hG dX4_isAllowedByRings_63 5 rfl ?_
                obtain ⟨t77, f78⟩ := h
                refine V.icmp_le (pc := 65) (tgt := 70) hG hv69 hv58 dX4_isAllowedByRings_65 (by decide) (fun c76 => ?_) (fun c76 => ?_)
                · have h := t77 c76
                  clear t77 f78
                  refine V.iinc (pc := 70) (lv' := [(5, .int (sJ (wr (x5_35 + 1)))), (6, .int (sJ v66)), (0, .ref (sA Δ 469)), (1, .ref (sA Δ 67)), (2, .ref (sA Δ 168)), (3, .int (sJ p3)), (4, .int (sJ v55))]) hG dX4_isAllowedByRings_70 6 rfl (by decide) rfl ?_
                  refine V.goto (pc := 73) (tgt := 35) hG dX4_isAllowedByRings_73 (by decide) ?_
                  refine V.pick [2, 3, 4, 5, 6, 0] rfl ?_
                  exact ih35 (wr (x5_35 + 1)) i67 ((sR_wr _)) hi70 h
                · have h := f78 c76
                  clear t77 f78
                  refine V.iconst (pc := 68) hG dX4_isAllowedByRings_68 ?_
                  exact fin dX4_isAllowedByRings_69 ((sR_l rfl)) (nar_z (by decide)) hi70 hw ⟨rfl, h⟩
              · have h := f75 c73
                clear t74 f75
                refine V.iconst (pc := 59) hG dX4_isAllowedByRings_59 ?_
                exact fin dX4_isAllowedByRings_60 ((sR_l rfl)) (nar_z (by decide)) hi70 hw ⟨rfl, h⟩
        refine V.pick [2, 3, 4, 5, 1, 0] rfl ?_
        exact lp35 n62 0 i_3 ((sR_l rfl)) hi_3 h
      · have h := f54 c52
        clear t53 f54
        refine V.aload_n (pc := 12) hG dX4_isAllowedByRings_12 rfl 0 rfl ?_
        refine V.getR (x := 471) (pc := 13) (ci := 6) (k := 1) (M := 6) (T := TX4) (o := 469) (kz := 1) hG a_469 a_469.n (by decide) hin_X4 rfl (by decide) (by decide) rfl kw_454 rfl ((hw).1 (469, 1, 471) (by decide)) (by decide) dX4_isAllowedByRings_13 ?_
        refine V.iload (pc := 16) hG dX4_isAllowedByRings_16 4 rfl ?_
        refine V.iconst (pc := 18) hG dX4_isAllowedByRings_18 ?_
        obtain ⟨g83, h⟩ := h
        refine V.iast (pc := 19) (z := 96) (o := 471) hG a_471 a_471.n hx4_3 g83 dX4_isAllowedByRings_19 ?_
        refine V.iinc (pc := 20) (lv' := [(4, .int (sJ (wr (x4_3 + 1)))), (0, .ref (sA Δ 469)), (1, .ref (sA Δ 67)), (2, .ref (sA Δ 168)), (3, .int (sJ p3))]) hG dX4_isAllowedByRings_20 4 rfl (by decide) rfl ?_
        refine V.goto (pc := 23) (tgt := 3) hG dX4_isAllowedByRings_23 (by decide) ?_
        refine V.pick [1, 2, 3, 4, 0] rfl ?_
        exact ih3 (wr (x4_3 + 1)) (st i_3 471 x4_3 0) ((sR_wr _)) ((okI_st hi_3 ((sR_l rfl)))) h
  refine V.pick [1, 2, 3, 4, 0] rfl ?_
  exact lp3 n51 0 i ((sR_l rfl)) hi h
set_option maxRecDepth 100000 in
set_option maxHeartbeats 4000000 in
theorem sm_X4_findByRings (l : Launch) (Δ : Wd) {i r : MI}   {Q : Int → MI → Prop} (hi : okI i) (hw : Wf r) (h : wp_X4_findByRings  i r Q) : Met l yX4_findByRings (Cond.code yX4_findByRings cX4_findByRings 7 (some .int) :: gW) (sRm 3 69) (sPc Δ [.ref (sA Δ 469), .ref (sA Δ 67), .ref (sA Δ 168)] i r) (sQi Δ (fun x i' r' => r = r' ∧ Q x i')) 0 0 (sFr Δ) := by
  refine Ct.i (ty := .int) (by decide) rfl (Nat.le_of_ble_eq_true rfl) (fun Γ Q0 hG fin => ?_)
  have hG : okG Γ Δ l (sRm 3 69) cX4_findByRings "Schedulary$Pace" 7 := hG
  show V Γ Δ 504 false i r 0 0 Q0 0 [(0, .ref (sA Δ 469)), (1, .ref (sA Δ 67)), (2, .ref (sA Δ 168))] []
  have jn66 : ∀ (x3j66 : Int) (ij66 : MI), sR x3j66 → okI ij66 → s66_X4_findByRings x3j66 ij66 r Q → V Γ Δ 504 false ij66 r 0 0 Q0 66 [(3, .int (sJ x3j66))] [] := by
    intro x3j66 ij66 hx3j66 hij66 h
    refine V.iload_n (pc := 66) hG dX4_findByRings_66 rfl 0 rfl ?_
    exact fin dX4_findByRings_67 hx3j66 rfl hij66 hw ⟨rfl, h⟩
  refine V.iconst (pc := 0) hG dX4_findByRings_0 ?_
  refine V.istore_n (pc := 1) (lv' := [(3, .int (sJ 1)), (0, .ref (sA Δ 469)), (1, .ref (sA Δ 67)), (2, .ref (sA Δ 168))]) hG dX4_findByRings_1 rfl (by decide) rfl ?_
  refine V.iconst (pc := 2) hG dX4_findByRings_2 ?_
  refine V.aload_n (pc := 3) hG dX4_findByRings_3 rfl 2 rfl ?_
  refine V.callVNi (pc := 4) (As := []) (stk := [.int (sJ 1)]) hG (sm_X0_sumOfCycles l Δ  hi hw h) mY_X0_sumOfCycles kw_792 kw_794 kw_52 a_67 (by decide) (q := (RX0, TX0, 5)) rfl rfl ⟨Nat.le_of_ble_eq_true rfl, Nat.le_of_ble_eq_true rfl, Nat.le_of_ble_eq_true rfl, Nat.le_of_ble_eq_true rfl⟩ rfl (Nat.le_of_ble_eq_true rfl) dX4_findByRings_4 rfl (fun v1 i2 r3 hv4 hi5 hw6 hq7 => ?_)
  obtain ⟨e45, e46, h⟩ := hq7
  subst e45
  subst e46
  refine V.mmax (pc := 7) hG ((sR_l rfl)) hv4 kw_796 kw_699 kw_121 kw_max ⟨Nat.le_of_ble_eq_true rfl, Nat.le_of_ble_eq_true rfl, Nat.le_of_ble_eq_true rfl, Nat.le_of_ble_eq_true rfl⟩ dX4_findByRings_7 ?_
  refine V.istore (pc := 10) (lv' := [(4, .int (sJ (max 1 v1))), (3, .int (sJ 1)), (0, .ref (sA Δ 469)), (1, .ref (sA Δ 67)), (2, .ref (sA Δ 168))]) hG dX4_findByRings_10 (by decide) rfl ?_
  refine V.iconst (pc := 12) hG dX4_findByRings_12 ?_
  refine V.istore (pc := 13) (lv' := [(5, .int (sJ 0)), (4, .int (sJ (max 1 v1))), (3, .int (sJ 1)), (0, .ref (sA Δ 469)), (1, .ref (sA Δ 67)), (2, .ref (sA Δ 168))]) hG dX4_findByRings_13 (by decide) rfl ?_
  obtain ⟨n26, h⟩ := h
  have lp15 : ∀ (m15 : Nat) (x3_15 : Int) (x4_15 : Int) (x5_15 : Int) (i_15 : MI), sR x3_15 → sR x4_15 → sR x5_15 → okI i_15 → LoopP (b15_X4_findByRings r Q) m15 (x3_15, x4_15, x5_15, i_15) → V Γ Δ 504 false i_15 r 0 0 Q0 15 [(0, .ref (sA Δ 469)), (1, .ref (sA Δ 67)), (2, .ref (sA Δ 168)), (3, .int (sJ x3_15)), (4, .int (sJ x4_15)), (5, .int (sJ x5_15))] [] := by
    intro m15
    induction m15 with
    | zero => intro x3_15 x4_15 x5_15 i_15 hx3_15 hx4_15 hx5_15 hi_15 h; exact h.elim
    | succ m15 ih15 =>
      intro x3_15 x4_15 x5_15 i_15 hx3_15 hx4_15 hx5_15 hi_15 h
      have h := LoopP_succ h
      have jn60 : ∀ (x3j60 : Int) (x4j60 : Int) (x5j60 : Int) (ij60 : MI), sR x3j60 → sR x4j60 → sR x5j60 → okI ij60 → s60_X4_findByRings x3j60 x4j60 x5j60 ij60 r Q (LoopP (b15_X4_findByRings r Q) m15) → V Γ Δ 504 false ij60 r 0 0 Q0 60 [(0, .ref (sA Δ 469)), (1, .ref (sA Δ 67)), (2, .ref (sA Δ 168)), (3, .int (sJ x3j60)), (4, .int (sJ x4j60)), (5, .int (sJ x5j60))] [] := by
        intro x3j60 x4j60 x5j60 ij60 hx3j60 hx4j60 hx5j60 hij60 h
        refine V.iinc (pc := 60) (lv' := [(5, .int (sJ (wr (x5j60 + 1)))), (0, .ref (sA Δ 469)), (1, .ref (sA Δ 67)), (2, .ref (sA Δ 168)), (3, .int (sJ x3j60)), (4, .int (sJ x4j60))]) hG dX4_findByRings_60 5 rfl (by decide) rfl ?_
        refine V.goto (pc := 63) (tgt := 15) hG dX4_findByRings_63 (by decide) ?_
        refine V.pick [1, 2, 3, 4, 5, 0] rfl ?_
        exact ih15 x3j60 x4j60 (wr (x5j60 + 1)) ij60 hx3j60 hx4j60 ((sR_wr _)) hij60 h
      refine V.iload (pc := 15) hG dX4_findByRings_15 5 rfl ?_
      refine V.sipush (pc := 17) hG dX4_findByRings_17 (by decide) ?_
      obtain ⟨t28, f29⟩ := h
      refine V.icmp_ge (pc := 20) (tgt := 66) hG hx5_15 ((sR_l rfl)) dX4_findByRings_20 (by decide) (fun c27 => ?_) (fun c27 => ?_)
      · have h := t28 c27
        clear t28 f29
        refine V.pick [3] rfl ?_
        exact jn66 x3_15 i_15 hx3_15 hi_15 h
      · have h := f29 c27
        clear t28 f29
        refine V.iload_n (pc := 23) hG dX4_findByRings_23 rfl 3 rfl ?_
        refine V.iload (pc := 24) hG dX4_findByRings_24 4 rfl ?_
        obtain ⟨t31, f32⟩ := h
        refine V.icmp_ge (pc := 26) (tgt := 66) hG hx3_15 hx4_15 dX4_findByRings_26 (by decide) (fun c30 => ?_) (fun c30 => ?_)
        · have h := t31 c30
          clear t31 f32
          refine V.pick [3] rfl ?_
          exact jn66 x3_15 i_15 hx3_15 hi_15 h
        · have h := f32 c30
          clear t31 f32
          refine V.iload_n (pc := 29) hG dX4_findByRings_29 rfl 3 rfl ?_
          refine V.iload (pc := 30) hG dX4_findByRings_30 4 rfl ?_
          refine V.iadd (pc := 32) hG dX4_findByRings_32 ?_
          refine V.iconst (pc := 33) hG dX4_findByRings_33 ?_
          refine V.idiv (pc := 34) hG ((sR_wr _)) ((sR_l rfl)) (by decide) dX4_findByRings_34 ?_
          refine V.istore (pc := 35) (lv' := [(6, .int (sJ (wr (Int.tdiv (wr (x3_15 + x4_15)) 2)))), (0, .ref (sA Δ 469)), (1, .ref (sA Δ 67)), (2, .ref (sA Δ 168)), (3, .int (sJ x3_15)), (4, .int (sJ x4_15)), (5, .int (sJ x5_15))]) hG dX4_findByRings_35 (by decide) rfl ?_
          refine V.aload_n (pc := 37) hG dX4_findByRings_37 rfl 1 rfl ?_
          refine V.aload_n (pc := 38) hG dX4_findByRings_38 rfl 2 rfl ?_
          refine V.aload_n (pc := 39) hG dX4_findByRings_39 rfl 3 rfl ?_
          refine V.iload (pc := 40) hG dX4_findByRings_40 0 rfl ?_
          refine V.callVi (pc := 42) (As := [.ref (sA Δ 67), .ref (sA Δ 168), .int (sJ (wr (Int.tdiv (wr (x3_15 + x4_15)) 2)))]) (stk := []) hG (sm_X4_isAllowedByRings l Δ ((sR_wr _)) hi_15 hw h) mY_X4_isAllowedByRings kw_797 kw_799 kw_53 a_469 (by decide) (q := (RX4, TX4, 6)) rfl rfl ⟨Nat.le_of_ble_eq_true rfl, Nat.le_of_ble_eq_true rfl, Nat.le_of_ble_eq_true rfl, Nat.le_of_ble_eq_true rfl⟩ rfl (Nat.le_of_ble_eq_true rfl) dX4_findByRings_42 rfl (fun v33 i34 r35 hv36 hi37 hw38 hq39 => ?_)
          obtain ⟨e44, h⟩ := hq39
          subst e44
          obtain ⟨t41, f42⟩ := h
          refine V.if_eq (pc := 45) (tgt := 55) hG hv36 dX4_findByRings_45 (by decide) (fun c40 => ?_) (fun c40 => ?_)
          · have h := t41 c40
            clear t41 f42
            refine V.iload (pc := 55) hG dX4_findByRings_55 0 rfl ?_
            refine V.iconst (pc := 57) hG dX4_findByRings_57 ?_
            refine V.iadd (pc := 58) hG dX4_findByRings_58 ?_
            refine V.istore_n (pc := 59) (lv' := [(3, .int (sJ (wr (wr (Int.tdiv (wr (x3_15 + x4_15)) 2) + 1)))), (6, .int (sJ (wr (Int.tdiv (wr (x3_15 + x4_15)) 2)))), (0, .ref (sA Δ 469)), (1, .ref (sA Δ 67)), (2, .ref (sA Δ 168)), (4, .int (sJ x4_15)), (5, .int (sJ x5_15))]) hG dX4_findByRings_59 rfl (by decide) rfl ?_
            refine V.pick [2, 3, 4, 0, 5, 6] rfl ?_
            exact jn60 (wr (wr (Int.tdiv (wr (x3_15 + x4_15)) 2) + 1)) x4_15 x5_15 i34 ((sR_wr _)) hx4_15 hx5_15 hi37 h
          · have h := f42 c40
            clear t41 f42
            refine V.iload (pc := 48) hG dX4_findByRings_48 0 rfl ?_
            refine V.istore (pc := 50) (lv' := [(4, .int (sJ (wr (Int.tdiv (wr (x3_15 + x4_15)) 2)))), (6, .int (sJ (wr (Int.tdiv (wr (x3_15 + x4_15)) 2)))), (0, .ref (sA Δ 469)), (1, .ref (sA Δ 67)), (2, .ref (sA Δ 168)), (3, .int (sJ x3_15)), (5, .int (sJ x5_15))]) hG dX4_findByRings_50 (by decide) rfl ?_
            refine V.goto (pc := 52) (tgt := 60) hG dX4_findByRings_52 (by decide) ?_
            refine V.pick [2, 3, 4, 5, 0, 6] rfl ?_
            exact jn60 x3_15 (wr (Int.tdiv (wr (x3_15 + x4_15)) 2)) x5_15 i34 hx3_15 ((sR_wr _)) hx5_15 hi37 h
  refine V.pick [3, 4, 5, 2, 1, 0] rfl ?_
  exact lp15 n26 1 (max 1 v1) 0 i ((sR_l rfl)) ((sR_max ((sR_l rfl)) hv4)) ((sR_l rfl)) hi h
set_option maxRecDepth 100000 in
set_option maxHeartbeats 4000000 in
theorem sm_X0_leastIntervalOf (l : Launch) (Δ : Wd) {i r : MI} {p1 : Int} (hp1 : sR p1) {Q : Int → Prop} (hi : okI i) (hw : Wf r) (h : wp_X0_leastIntervalOf p1 i r Q) : Met l yX0_leastIntervalOf (Cond.code yX0_leastIntervalOf cX0_leastIntervalOf 3 (some .int) :: gW) (sRm 0 0) (sPc Δ [.ref (sA Δ 67), .int (sJ p1)] i r) (sQi Δ (fun x i' r' => i = i' ∧ r = r' ∧ Q x)) 0 0 (sFr Δ) := by
  refine Ct.i (ty := .int) (by decide) rfl (Nat.le_of_ble_eq_true rfl) (fun Γ Q0 hG fin => ?_)
  have hG : okG Γ Δ l (sRm 0 0) cX0_leastIntervalOf "Schedulary$Body" 3 := hG
  show V Γ Δ 504 false i r 0 0 Q0 0 [(0, .ref (sA Δ 67)), (1, .int (sJ p1))] []
  have jn28 : ∀ (k0j28 : Int), sR k0j28 → s28_X0_leastIntervalOf k0j28 i r Q → V Γ Δ 504 false i r 0 0 Q0 28 [] [.int (sJ k0j28)] := by
    intro k0j28 hk0j28 h
    exact fin dX0_leastIntervalOf_28 hk0j28 rfl hi hw ⟨rfl, rfl, h⟩
  refine V.aload_n (pc := 0) hG dX0_leastIntervalOf_0 rfl 0 rfl ?_
  refine V.getR (x := 69) (pc := 1) (ci := 2) (k := 1) (M := 5) (T := TX0) (o := 67) (kz := 1) hG a_67 a_67.n (by decide) hin_X0 rfl (by decide) (by decide) rfl kw_355 rfl ((hw).1 (67, 1, 69) (by decide)) (by decide) dX0_leastIntervalOf_1 ?_
  refine V.iload_n (pc := 4) hG dX0_leastIntervalOf_4 rfl 1 rfl ?_
  obtain ⟨g1, h⟩ := h
  refine V.iald (pc := 5) (z := 7) (o := 69) hG a_69 a_69.n hp1 g1 dX0_leastIntervalOf_5 ?_
  refine V.istore_n (pc := 6) (lv' := [(2, .int (sJ (i 69 p1))), (0, .ref (sA Δ 67)), (1, .int (sJ p1))]) hG dX0_leastIntervalOf_6 rfl (by decide) rfl ?_
  refine V.iload_n (pc := 7) hG dX0_leastIntervalOf_7 rfl 0 rfl ?_
  refine V.iconst (pc := 8) hG dX0_leastIntervalOf_8 ?_
  obtain ⟨t3, f4⟩ := h
  refine V.icmp_ge (pc := 9) (tgt := 16) hG ((hi _ _)) ((sR_l rfl)) dX0_leastIntervalOf_9 (by decide) (fun c2 => ?_) (fun c2 => ?_)
  · have h := t3 c2
    clear t3 f4
    refine V.aload_n (pc := 16) hG dX0_leastIntervalOf_16 rfl 1 rfl ?_
    refine V.getR (x := 71) (pc := 17) (ci := 2) (k := 3) (M := 5) (T := TX0) (o := 67) (kz := 3) hG a_67 a_67.n (by decide) hin_X0 rfl (by decide) (by decide) rfl kw_361 rfl ((hw).1 (67, 3, 71) (by decide)) (by decide) dX0_leastIntervalOf_17 ?_
    refine V.iload_n (pc := 20) hG dX0_leastIntervalOf_20 rfl 2 rfl ?_
    obtain ⟨g5, h⟩ := h
    refine V.iald (pc := 21) (z := 7) (o := 71) hG a_71 a_71.n hp1 g5 dX0_leastIntervalOf_21 ?_
    refine V.iload_n (pc := 22) hG dX0_leastIntervalOf_22 rfl 0 rfl ?_
    refine V.iadd (pc := 23) hG dX0_leastIntervalOf_23 ?_
    refine V.iconst (pc := 24) hG dX0_leastIntervalOf_24 ?_
    refine V.isub (pc := 25) hG dX0_leastIntervalOf_25 ?_
    refine V.iload_n (pc := 26) hG dX0_leastIntervalOf_26 rfl 0 rfl ?_
    obtain ⟨g6, h⟩ := h
    refine V.idiv (pc := 27) hG ((sR_wr _)) ((hi _ _)) g6 dX0_leastIntervalOf_27 ?_
    refine V.pick [] rfl ?_
    exact jn28 (wr (Int.tdiv (wr (wr (i 71 p1 + i 69 p1) - 1)) (i 69 p1))) ((sR_wr _)) h
  · have h := f4 c2
    clear t3 f4
    refine V.iconst (pc := 12) hG dX0_leastIntervalOf_12 ?_
    refine V.goto (pc := 13) (tgt := 28) hG dX0_leastIntervalOf_13 (by decide) ?_
    refine V.pick [] rfl ?_
    exact jn28 0 ((sR_l rfl)) h
set_option maxRecDepth 100000 in
set_option maxHeartbeats 4000000 in
theorem sm_X4_findByUnits (l : Launch) (Δ : Wd) {i r : MI}   {Q : Int → Prop} (hi : okI i) (hw : Wf r) (h : wp_X4_findByUnits  i r Q) : Met l yX4_findByUnits (Cond.code yX4_findByUnits cX4_findByUnits 3 (some .int) :: gW) (sRm 1 22) (sPc Δ [.ref (sA Δ 67)] i r) (sQi Δ (fun x i' r' => i = i' ∧ r = r' ∧ Q x)) 0 0 (sFr Δ) := by
  refine Ct.i (ty := .int) (by decide) rfl (Nat.le_of_ble_eq_true rfl) (fun Γ Q0 hG fin => ?_)
  have hG : okG Γ Δ l (sRm 1 22) cX4_findByUnits "Schedulary$Pace" 3 := hG
  show V Γ Δ 504 false i r 0 0 Q0 0 [(0, .ref (sA Δ 67))] []
  refine V.iconst (pc := 0) hG dX4_findByUnits_0 ?_
  refine V.istore_n (pc := 1) (lv' := [(1, .int (sJ 1)), (0, .ref (sA Δ 67))]) hG dX4_findByUnits_1 rfl (by decide) rfl ?_
  refine V.iconst (pc := 2) hG dX4_findByUnits_2 ?_
  refine V.istore_n (pc := 3) (lv' := [(2, .int (sJ 0)), (1, .int (sJ 1)), (0, .ref (sA Δ 67))]) hG dX4_findByUnits_3 rfl (by decide) rfl ?_
  obtain ⟨n13, h⟩ := h
  have lp4 : ∀ (m4 : Nat) (x1_4 : Int) (x2_4 : Int), sR x1_4 → sR x2_4 → LoopP (b4_X4_findByUnits i r Q) m4 (x1_4, x2_4) → V Γ Δ 504 false i r 0 0 Q0 4 [(0, .ref (sA Δ 67)), (1, .int (sJ x1_4)), (2, .int (sJ x2_4))] [] := by
    intro m4
    induction m4 with
    | zero => intro x1_4 x2_4 hx1_4 hx2_4 h; exact h.elim
    | succ m4 ih4 =>
      intro x1_4 x2_4 hx1_4 hx2_4 h
      have h := LoopP_succ h
      refine V.iload_n (pc := 4) hG dX4_findByUnits_4 rfl 2 rfl ?_
      refine V.bipush (pc := 5) hG dX4_findByUnits_5 (by decide) ?_
      obtain ⟨t15, f16⟩ := h
      refine V.icmp_ge (pc := 7) (tgt := 26) hG hx2_4 ((sR_l rfl)) dX4_findByUnits_7 (by decide) (fun c14 => ?_) (fun c14 => ?_)
      · have h := t15 c14
        clear t15 f16
        refine V.iload_n (pc := 26) hG dX4_findByUnits_26 rfl 1 rfl ?_
        exact fin dX4_findByUnits_27 hx1_4 rfl hi hw ⟨rfl, rfl, h⟩
      · have h := f16 c14
        clear t15 f16
        refine V.iload_n (pc := 10) hG dX4_findByUnits_10 rfl 1 rfl ?_
        refine V.aload_n (pc := 11) hG dX4_findByUnits_11 rfl 0 rfl ?_
        refine V.iload_n (pc := 12) hG dX4_findByUnits_12 rfl 2 rfl ?_
        refine V.callVNi (pc := 13) (As := [.int (sJ x2_4)]) (stk := [.int (sJ x1_4)]) hG (sm_X0_leastIntervalOf l Δ hx2_4 hi hw h) mY_X0_leastIntervalOf kw_808 kw_810 kw_55 a_67 (by decide) (q := (RX0, TX0, 5)) rfl rfl ⟨Nat.le_of_ble_eq_true rfl, Nat.le_of_ble_eq_true rfl, Nat.le_of_ble_eq_true rfl, Nat.le_of_ble_eq_true rfl⟩ rfl (Nat.le_of_ble_eq_true rfl) dX4_findByUnits_13 rfl (fun v17 i18 r19 hv20 hi21 hw22 hq23 => ?_)
        obtain ⟨e24, e25, h⟩ := hq23
        subst e24
        subst e25
        refine V.mmax (pc := 16) hG hx1_4 hv20 kw_796 kw_699 kw_121 kw_max ⟨Nat.le_of_ble_eq_true rfl, Nat.le_of_ble_eq_true rfl, Nat.le_of_ble_eq_true rfl, Nat.le_of_ble_eq_true rfl⟩ dX4_findByUnits_16 ?_
        refine V.istore_n (pc := 19) (lv' := [(1, .int (sJ (max x1_4 v17))), (0, .ref (sA Δ 67)), (2, .int (sJ x2_4))]) hG dX4_findByUnits_19 rfl (by decide) rfl ?_
        refine V.iinc (pc := 20) (lv' := [(2, .int (sJ (wr (x2_4 + 1)))), (1, .int (sJ (max x1_4 v17))), (0, .ref (sA Δ 67))]) hG dX4_findByUnits_20 2 rfl (by decide) rfl ?_
        refine V.goto (pc := 23) (tgt := 4) hG dX4_findByUnits_23 (by decide) ?_
        refine V.pick [2, 1, 0] rfl ?_
        exact ih4 (max x1_4 v17) (wr (x2_4 + 1)) ((sR_max hx1_4 hv20)) ((sR_wr _)) h
  refine V.pick [2, 1, 0] rfl ?_
  exact lp4 n13 1 0 ((sR_l rfl)) ((sR_l rfl)) h
set_option maxRecDepth 100000 in
set_option maxHeartbeats 4000000 in
theorem sm_X11_isWithin (l : Launch) (Δ : Wd) {i r : MI} {p0 : Int} {p1 : Int} {p2 : Int} (hp0 : sR p0) (hp1 : sR p1) (hp2 : sR p2) {Q : Int → Prop} (hi : okI i) (hw : Wf r) (h : wp_X11_isWithin p0 p1 p2 i r Q) : Met l yX11_isWithin (Cond.code yX11_isWithin cX11_isWithin 3 (some .boolean) :: gW) (sRm 0 0) (sPc Δ [.int (sJ p0), .int (sJ p1), .int (sJ p2)] i r) (sQi Δ (fun x i' r' => i = i' ∧ r = r' ∧ Q x)) 0 0 (sFr Δ) := by
  refine Ct.i (ty := .boolean) (by decide) rfl (Nat.le_of_ble_eq_true rfl) (fun Γ Q0 hG fin => ?_)
  have hG : okG Γ Δ l (sRm 0 0) cX11_isWithin "Schedulary" 3 := hG
  show V Γ Δ 504 false i r 0 0 Q0 0 [(0, .int (sJ p0)), (1, .int (sJ p1)), (2, .int (sJ p2))] []
  have jn15 : ∀ (k0j15 : Int), sR k0j15 → s15_X11_isWithin k0j15 i r Q → V Γ Δ 504 false i r 0 0 Q0 15 [] [.int (sJ k0j15)] := by
    intro k0j15 hk0j15 h
    obtain ⟨g2, h⟩ := h
    exact fin dX11_isWithin_15 hk0j15 (nar_z g2) hi hw ⟨rfl, rfl, h⟩
  have jn14 : s14_X11_isWithin i r Q → V Γ Δ 504 false i r 0 0 Q0 14 [] [] := by
    intro h
    refine V.iconst (pc := 14) hG dX11_isWithin_14 ?_
    exact jn15 0 ((sR_l rfl)) h
  refine V.iload_n (pc := 0) hG dX11_isWithin_0 rfl 0 rfl ?_
  refine V.iload_n (pc := 1) hG dX11_isWithin_1 rfl 1 rfl ?_
  obtain ⟨t4, f5⟩ := h
  refine V.icmp_lt (pc := 2) (tgt := 14) hG hp0 hp1 dX11_isWithin_2 (by decide) (fun c3 => ?_) (fun c3 => ?_)
  · have h := t4 c3
    clear t4 f5
    refine V.pick [] rfl ?_
    exact jn14 h
  · have h := f5 c3
    clear t4 f5
    refine V.iload_n (pc := 5) hG dX11_isWithin_5 rfl 0 rfl ?_
    refine V.iload_n (pc := 6) hG dX11_isWithin_6 rfl 2 rfl ?_
    obtain ⟨t7, f8⟩ := h
    refine V.icmp_gt (pc := 7) (tgt := 14) hG hp0 hp2 dX11_isWithin_7 (by decide) (fun c6 => ?_) (fun c6 => ?_)
    · have h := t7 c6
      clear t7 f8
      refine V.pick [] rfl ?_
      exact jn14 h
    · have h := f8 c6
      clear t7 f8
      refine V.iconst (pc := 10) hG dX11_isWithin_10 ?_
      refine V.goto (pc := 11) (tgt := 15) hG dX11_isWithin_11 (by decide) ?_
      refine V.pick [] rfl ?_
      exact jn15 1 ((sR_l rfl)) h
set_option maxRecDepth 100000 in
set_option maxHeartbeats 4000000 in
theorem sm_X4_restOf (l : Launch) (Δ : Wd) {i r : MI} {p1 : Int} (hp1 : sR p1) {Q : Int → Prop} (hi : okI i) (hw : Wf r) (h : wp_X4_restOf p1 i r Q) : Met l yX4_restOf (Cond.code yX4_restOf cX4_restOf 3 (some .int) :: gW) (sRm 1 22) (sPc Δ [.ref (sA Δ 469), .int (sJ p1)] i r) (sQi Δ (fun x i' r' => i = i' ∧ r = r' ∧ Q x)) 0 0 (sFr Δ) := by
  refine Ct.i (ty := .int) (by decide) rfl (Nat.le_of_ble_eq_true rfl) (fun Γ Q0 hG fin => ?_)
  have hG : okG Γ Δ l (sRm 1 22) cX4_restOf "Schedulary$Pace" 3 := hG
  show V Γ Δ 504 false i r 0 0 Q0 0 [(0, .ref (sA Δ 469)), (1, .int (sJ p1))] []
  have jn34 : ∀ (k0j34 : Int), sR k0j34 → s34_X4_restOf k0j34 i r Q → V Γ Δ 504 false i r 0 0 Q0 34 [] [.int (sJ k0j34)] := by
    intro k0j34 hk0j34 h
    exact fin dX4_restOf_34 hk0j34 rfl hi hw ⟨rfl, rfl, h⟩
  have jn17 : ∀ (k0j17 : Int), sR k0j17 → s17_X4_restOf k0j17 i r Q → V Γ Δ 504 false i r 0 0 Q0 17 [] [.int (sJ k0j17)] := by
    intro k0j17 hk0j17 h
    refine V.istore_n (pc := 17) (lv' := [(2, .int (sJ k0j17))]) hG dX4_restOf_17 rfl (by decide) rfl ?_
    refine V.iload_n (pc := 18) hG dX4_restOf_18 rfl 0 rfl ?_
    refine V.iconst (pc := 19) hG dX4_restOf_19 ?_
    refine V.sipush (pc := 20) hG dX4_restOf_20 (by decide) ?_
    refine V.callSNi (pc := 23) (As := [.int (sJ k0j17), .int (sJ 0), .int (sJ 480)]) (stk := []) hG (sm_X11_isWithin l Δ hk0j17 ((sR_l rfl)) ((sR_l rfl)) hi hw h) mY_X11_isWithin kw_825 kw_826 ⟨Nat.le_of_ble_eq_true rfl, Nat.le_of_ble_eq_true rfl, Nat.le_of_ble_eq_true rfl, Nat.le_of_ble_eq_true rfl⟩ rfl (Nat.le_of_ble_eq_true rfl) dX4_restOf_23 rfl (fun v13 i14 r15 hv16 hi17 hw18 hq19 => ?_)
    obtain ⟨e23, e24, h⟩ := hq19
    subst e23
    subst e24
    obtain ⟨t21, f22⟩ := h
    refine V.if_eq (pc := 26) (tgt := 33) hG hv16 dX4_restOf_26 (by decide) (fun c20 => ?_) (fun c20 => ?_)
    · have h := t21 c20
      clear t21 f22
      refine V.iconst (pc := 33) hG dX4_restOf_33 ?_
      refine V.pick [] rfl ?_
      exact jn34 0 ((sR_l rfl)) h
    · have h := f22 c20
      clear t21 f22
      refine V.iload_n (pc := 29) hG dX4_restOf_29 rfl 0 rfl ?_
      refine V.goto (pc := 30) (tgt := 34) hG dX4_restOf_30 (by decide) ?_
      refine V.pick [] rfl ?_
      exact jn34 k0j17 hk0j17 h
  refine V.aload_n (pc := 0) hG dX4_restOf_0 rfl 0 rfl ?_
  refine V.getI (pc := 1) (ci := 6) (k := 5) (M := 6) (T := TX4) (o := 469) (kz := 5) hG a_469 a_469.n (by decide) hin_X4 rfl (by decide) (by decide) rfl kw_460 rfl dX4_restOf_1 ?_
  obtain ⟨t26, f27⟩ := h
  refine V.if_le (pc := 4) (tgt := 16) hG ((hi _ _)) dX4_restOf_4 (by decide) (fun c25 => ?_) (fun c25 => ?_)
  · have h := t26 c25
    clear t26 f27
    refine V.iconst (pc := 16) hG dX4_restOf_16 ?_
    refine V.pick [] rfl ?_
    exact jn17 0 ((sR_l rfl)) h
  · have h := f27 c25
    clear t26 f27
    refine V.iload_n (pc := 7) hG dX4_restOf_7 rfl 1 rfl ?_
    refine V.aload_n (pc := 8) hG dX4_restOf_8 rfl 0 rfl ?_
    refine V.getI (pc := 9) (ci := 6) (k := 5) (M := 6) (T := TX4) (o := 469) (kz := 5) hG a_469 a_469.n (by decide) hin_X4 rfl (by decide) (by decide) rfl kw_460 rfl dX4_restOf_9 ?_
    obtain ⟨g28, h⟩ := h
    refine V.irem (pc := 12) hG hp1 ((hi _ _)) g28 dX4_restOf_12 ?_
    refine V.goto (pc := 13) (tgt := 17) hG dX4_restOf_13 (by decide) ?_
    refine V.pick [] rfl ?_
    exact jn17 (Int.tmod p1 (i 469 5)) ((sR_tmod hp1)) h
set_option maxRecDepth 100000 in
set_option maxHeartbeats 4000000 in
theorem sm_X4_findStep (l : Launch) (Δ : Wd) {i r : MI} {p2 : Int} {p3 : Int} {p4 : Int} (hp2 : sR p2) (hp3 : sR p3) (hp4 : sR p4) {Q : Int → Prop} (hi : okI i) (hw : Wf r) (h : wp_X4_findStep p2 p3 p4 i r Q) : Met l yX4_findStep (Cond.code yX4_findStep cX4_findStep 10 (some .int) :: gW) (sRm 2 44) (sPc Δ [.ref (sA Δ 469), .ref (sA Δ 168), .int (sJ p2), .int (sJ p3), .int (sJ p4)] i r) (sQi Δ (fun x i' r' => i = i' ∧ r = r' ∧ Q x)) 0 0 (sFr Δ) := by
  refine Ct.i (ty := .int) (by decide) rfl (Nat.le_of_ble_eq_true rfl) (fun Γ Q0 hG fin => ?_)
  have hG : okG Γ Δ l (sRm 2 44) cX4_findStep "Schedulary$Pace" 10 := hG
  show V Γ Δ 504 false i r 0 0 Q0 0 [(0, .ref (sA Δ 469)), (1, .ref (sA Δ 168)), (2, .int (sJ p2)), (3, .int (sJ p3)), (4, .int (sJ p4))] []
  refine V.aload_n (pc := 0) hG dX4_findStep_0 rfl 0 rfl ?_
  refine V.getR (x := 471) (pc := 1) (ci := 6) (k := 1) (M := 6) (T := TX4) (o := 469) (kz := 1) hG a_469 a_469.n (by decide) hin_X4 rfl (by decide) (by decide) rfl kw_454 rfl ((hw).1 (469, 1, 471) (by decide)) (by decide) dX4_findStep_1 ?_
  refine V.iload_n (pc := 4) hG dX4_findStep_4 rfl 2 rfl ?_
  obtain ⟨g1, h⟩ := h
  refine V.iald (pc := 5) (z := 96) (o := 471) hG a_471 a_471.n hp2 g1 dX4_findStep_5 ?_
  refine V.istore (pc := 6) (lv' := [(5, .int (sJ (i 471 p2))), (0, .ref (sA Δ 469)), (1, .ref (sA Δ 168)), (2, .int (sJ p2)), (3, .int (sJ p3)), (4, .int (sJ p4))]) hG dX4_findStep_6 (by decide) rfl ?_
  refine V.iload (pc := 8) hG dX4_findStep_8 0 rfl ?_
  refine V.aload_n (pc := 10) hG dX4_findStep_10 rfl 1 rfl ?_
  refine V.getI (pc := 11) (ci := 6) (k := 5) (M := 6) (T := TX4) (o := 469) (kz := 5) hG a_469 a_469.n (by decide) hin_X4 rfl (by decide) (by decide) rfl kw_460 rfl dX4_findStep_11 ?_
  refine V.iadd (pc := 14) hG dX4_findStep_14 ?_
  refine V.iconst (pc := 15) hG dX4_findStep_15 ?_
  refine V.isub (pc := 16) hG dX4_findStep_16 ?_
  refine V.istore (pc := 17) (lv' := [(6, .int (sJ (wr (wr (i 471 p2 + i 469 5) - 1)))), (5, .int (sJ (i 471 p2))), (0, .ref (sA Δ 469)), (1, .ref (sA Δ 168)), (2, .int (sJ p2)), (3, .int (sJ p3)), (4, .int (sJ p4))]) hG dX4_findStep_17 (by decide) rfl ?_
  refine V.iconst (pc := 19) hG dX4_findStep_19 ?_
  refine V.istore (pc := 20) (lv' := [(7, .int (sJ 0)), (6, .int (sJ (wr (wr (i 471 p2 + i 469 5) - 1)))), (5, .int (sJ (i 471 p2))), (0, .ref (sA Δ 469)), (1, .ref (sA Δ 168)), (2, .int (sJ p2)), (3, .int (sJ p3)), (4, .int (sJ p4))]) hG dX4_findStep_20 (by decide) rfl ?_
  obtain ⟨n51, h⟩ := h
  have lp22 : ∀ (m22 : Nat) (x6_22 : Int) (x7_22 : Int), sR x6_22 → sR x7_22 → LoopP (b22_X4_findStep p2 p3 p4 (i 471 p2) i r Q) m22 (x6_22, x7_22) → V Γ Δ 504 false i r 0 0 Q0 22 [(0, .ref (sA Δ 469)), (1, .ref (sA Δ 168)), (2, .int (sJ p2)), (3, .int (sJ p3)), (4, .int (sJ p4)), (5, .int (sJ (i 471 p2))), (6, .int (sJ x6_22)), (7, .int (sJ x7_22))] [] := by
    intro m22
    induction m22 with
    | zero => intro x6_22 x7_22 hx6_22 hx7_22 h; exact h.elim
    | succ m22 ih22 =>
      intro x6_22 x7_22 hx6_22 hx7_22 h
      have h := LoopP_succ h
      have jn93 : ∀ (x6j93 : Int) (x7j93 : Int), sR x6j93 → sR x7j93 → s93_X4_findStep p2 p3 p4 (i 471 p2) x6j93 x7j93 i r Q (LoopP (b22_X4_findStep p2 p3 p4 (i 471 p2) i r Q) m22) → V Γ Δ 504 false i r 0 0 Q0 93 [(0, .ref (sA Δ 469)), (1, .ref (sA Δ 168)), (2, .int (sJ p2)), (3, .int (sJ p3)), (4, .int (sJ p4)), (5, .int (sJ (i 471 p2))), (6, .int (sJ x6j93)), (7, .int (sJ x7j93))] [] := by
        intro x6j93 x7j93 hx6j93 hx7j93 h
        refine V.iinc (pc := 93) (lv' := [(7, .int (sJ (wr (x7j93 + 1)))), (0, .ref (sA Δ 469)), (1, .ref (sA Δ 168)), (2, .int (sJ p2)), (3, .int (sJ p3)), (4, .int (sJ p4)), (5, .int (sJ (i 471 p2))), (6, .int (sJ x6j93))]) hG dX4_findStep_93 7 rfl (by decide) rfl ?_
        refine V.goto (pc := 96) (tgt := 22) hG dX4_findStep_96 (by decide) ?_
        refine V.pick [1, 2, 3, 4, 5, 6, 7, 0] rfl ?_
        exact ih22 x6j93 (wr (x7j93 + 1)) hx6j93 ((sR_wr _)) h
      refine V.iload (pc := 22) hG dX4_findStep_22 7 rfl ?_
      refine V.aload_n (pc := 24) hG dX4_findStep_24 rfl 1 rfl ?_
      refine V.getRN (x := 460) (pc := 25) (ci := 4) (k := 3) (M := 5) (T := TX2) (o := 168) (kz := 3) hG a_168 a_168.n (by decide) hin_X2 rfl (by decide) (by decide) rfl kw_399 rfl ((hw).1 (168, 3, 460) (by decide)) (by decide) dX4_findStep_25 ?_
      refine V.iload_n (pc := 28) hG dX4_findStep_28 rfl 2 rfl ?_
      obtain ⟨g52, h⟩ := h
      refine V.iald (pc := 29) (z := 96) (o := 460) hG a_460 a_460.n hp2 g52 dX4_findStep_29 ?_
      obtain ⟨t54, f55⟩ := h
      refine V.icmp_ge (pc := 30) (tgt := 99) hG hx7_22 ((hi _ _)) dX4_findStep_30 (by decide) (fun c53 => ?_) (fun c53 => ?_)
      · have h := t54 c53
        clear t54 f55
        refine V.iload (pc := 99) hG dX4_findStep_99 5 rfl ?_
        refine V.istore (pc := 101) (lv' := [(7, .int (sJ (i 471 p2))), (0, .ref (sA Δ 469)), (1, .ref (sA Δ 168)), (2, .int (sJ p2)), (3, .int (sJ p3)), (4, .int (sJ p4)), (5, .int (sJ (i 471 p2))), (6, .int (sJ x6_22))]) hG dX4_findStep_101 (by decide) rfl ?_
        obtain ⟨n56, h⟩ := h
        have lp103 : ∀ (m103 : Nat) (x7_103 : Int), sR x7_103 → LoopP (b103_X4_findStep p3 p4 x6_22 i r Q) m103 (x7_103) → V Γ Δ 504 false i r 0 0 Q0 103 [(0, .ref (sA Δ 469)), (3, .int (sJ p3)), (4, .int (sJ p4)), (6, .int (sJ x6_22)), (7, .int (sJ x7_103))] [] := by
          intro m103
          induction m103 with
          | zero => intro x7_103 hx7_103 h; exact h.elim
          | succ m103 ih103 =>
            intro x7_103 hx7_103 h
            have h := LoopP_succ h
            refine V.iload (pc := 103) hG dX4_findStep_103 4 rfl ?_
            refine V.iload (pc := 105) hG dX4_findStep_105 3 rfl ?_
            obtain ⟨t58, f59⟩ := h
            refine V.icmp_gt (pc := 107) (tgt := 137) hG hx7_103 hx6_22 dX4_findStep_107 (by decide) (fun c57 => ?_) (fun c57 => ?_)
            · have h := t58 c57
              clear t58 f59
              refine V.iconst (pc := 137) hG dX4_findStep_137 ?_
              exact fin dX4_findStep_138 ((sR_l rfl)) rfl hi hw ⟨rfl, rfl, h⟩
            · have h := f59 c57
              clear t58 f59
              refine V.aload_n (pc := 110) hG dX4_findStep_110 rfl 0 rfl ?_
              refine V.getR (x := 472) (pc := 111) (ci := 6) (k := 2) (M := 6) (T := TX4) (o := 469) (kz := 2) hG a_469 a_469.n (by decide) hin_X4 rfl (by decide) (by decide) rfl kw_455 rfl ((hw).1 (469, 2, 472) (by decide)) (by decide) dX4_findStep_111 ?_
              refine V.iload_n (pc := 114) hG dX4_findStep_114 rfl 1 rfl ?_
              obtain ⟨g60, h⟩ := h
              refine V.aald (pc := 115) 7 (z := 7) (o := 472) (x := p3) (y := 473 + p3) hG a_472 a_472.n (by decide) hp3 g60 (hw.2.1 (472, 7, 473) (by decide) _ g60.1 g60.2) (by omega) dX4_findStep_115 ?_
              refine V.aload_n (pc := 116) hG dX4_findStep_116 rfl 0 rfl ?_
              refine V.iload (pc := 117) hG dX4_findStep_117 4 rfl ?_
              refine V.callVi (pc := 119) (As := [.int (sJ x7_103)]) (stk := [.ref (sA Δ (473 + p3))]) hG (sm_X4_restOf l Δ hx7_103 hi hw h) mY_X4_restOf kw_821 kw_823 kw_58 a_469 (by decide) (q := (RX4, TX4, 6)) rfl rfl ⟨Nat.le_of_ble_eq_true rfl, Nat.le_of_ble_eq_true rfl, Nat.le_of_ble_eq_true rfl, Nat.le_of_ble_eq_true rfl⟩ rfl (Nat.le_of_ble_eq_true rfl) dX4_findStep_119 rfl (fun v61 i62 r63 hv64 hi65 hw66 hq67 => ?_)
              obtain ⟨e72, e73, h⟩ := hq67
              subst e72
              subst e73
              obtain ⟨g68, h⟩ := h
              refine V.iald (pc := 122) (z := 481) (o := 473 + p3) hG (row_472 g60) ((row_472 g60)).n hv64 g68 dX4_findStep_122 ?_
              refine V.iload (pc := 123) hG dX4_findStep_123 2 rfl ?_
              obtain ⟨t70, f71⟩ := h
              refine V.icmp_ge (pc := 125) (tgt := 131) hG ((hi _ _)) hp4 dX4_findStep_125 (by decide) (fun c69 => ?_) (fun c69 => ?_)
              · have h := t70 c69
                clear t70 f71
                refine V.iinc (pc := 131) (lv' := [(7, .int (sJ (wr (x7_103 + 1)))), (0, .ref (sA Δ 469)), (3, .int (sJ p3)), (4, .int (sJ p4)), (6, .int (sJ x6_22))]) hG dX4_findStep_131 4 rfl (by decide) rfl ?_
                refine V.goto (pc := 134) (tgt := 103) hG dX4_findStep_134 (by decide) ?_
                refine V.pick [1, 2, 3, 4, 0] rfl ?_
                exact ih103 (wr (x7_103 + 1)) ((sR_wr _)) h
              · have h := f71 c69
                clear t70 f71
                refine V.iload (pc := 128) hG dX4_findStep_128 4 rfl ?_
                exact fin dX4_findStep_130 hx7_103 rfl hi hw ⟨rfl, rfl, h⟩
        refine V.pick [1, 4, 5, 7, 0] rfl ?_
        exact lp103 n56 (i 471 p2) ((hi _ _)) h
      · have h := f55 c53
        clear t54 f55
        refine V.aload_n (pc := 33) hG dX4_findStep_33 rfl 1 rfl ?_
        refine V.getRN (x := 169) (pc := 34) (ci := 4) (k := 0) (M := 5) (T := TX2) (o := 168) (kz := 0) hG a_168 a_168.n (by decide) hin_X2 rfl (by decide) (by decide) rfl kw_389 rfl ((hw).1 (168, 0, 169) (by decide)) (by decide) dX4_findStep_34 ?_
        refine V.iload_n (pc := 37) hG dX4_findStep_37 rfl 2 rfl ?_
        obtain ⟨g74, h⟩ := h
        refine V.aald (pc := 38) 7 (z := 96) (o := 169) (x := p2) (y := 170 + p2) hG a_169 a_169.n (by decide) hp2 g74 (hw.2.1 (169, 96, 170) (by decide) _ g74.1 g74.2) (by omega) dX4_findStep_38 ?_
        refine V.iload (pc := 39) hG dX4_findStep_39 7 rfl ?_
        obtain ⟨g75, h⟩ := h
        refine V.iald (pc := 41) (z := 100) (o := 170 + p2) hG (row_169 g74) ((row_169 g74)).n hx7_22 g75 dX4_findStep_41 ?_
        refine V.istore (pc := 42) (lv' := [(8, .int (sJ (i (170 + p2) x7_22))), (0, .ref (sA Δ 469)), (1, .ref (sA Δ 168)), (2, .int (sJ p2)), (3, .int (sJ p3)), (4, .int (sJ p4)), (5, .int (sJ (i 471 p2))), (6, .int (sJ x6_22)), (7, .int (sJ x7_22))]) hG dX4_findStep_42 (by decide) rfl ?_
        refine V.iload (pc := 44) hG dX4_findStep_44 0 rfl ?_
        refine V.iload_n (pc := 46) hG dX4_findStep_46 rfl 3 rfl ?_
        obtain ⟨t77, f78⟩ := h
        refine V.icmp_ge (pc := 47) (tgt := 93) hG ((hi _ _)) hp2 dX4_findStep_47 (by decide) (fun c76 => ?_) (fun c76 => ?_)
        · have h := t77 c76
          clear t77 f78
          refine V.pick [1, 2, 3, 4, 5, 6, 7, 8] rfl ?_
          exact jn93 x6_22 x7_22 hx6_22 hx7_22 h
        · have h := f78 c76
          clear t77 f78
          refine V.aload_n (pc := 50) hG dX4_findStep_50 rfl 1 rfl ?_
          refine V.getR (x := 470) (pc := 51) (ci := 6) (k := 0) (M := 6) (T := TX4) (o := 469) (kz := 0) hG a_469 a_469.n (by decide) hin_X4 rfl (by decide) (by decide) rfl kw_451 rfl ((hw).1 (469, 0, 470) (by decide)) (by decide) dX4_findStep_51 ?_
          refine V.iload (pc := 54) hG dX4_findStep_54 0 rfl ?_
          obtain ⟨g79, h⟩ := h
          refine V.iald (pc := 56) (z := 96) (o := 470) hG a_470 a_470.n ((hi _ _)) g79 dX4_findStep_56 ?_
          refine V.aload_n (pc := 57) hG dX4_findStep_57 rfl 1 rfl ?_
          refine V.getI (pc := 58) (ci := 6) (k := 5) (M := 6) (T := TX4) (o := 469) (kz := 5) hG a_469 a_469.n (by decide) hin_X4 rfl (by decide) (by decide) rfl kw_460 rfl dX4_findStep_58 ?_
          refine V.aload_n (pc := 61) hG dX4_findStep_61 rfl 2 rfl ?_
          refine V.getRN (x := 266) (pc := 62) (ci := 4) (k := 1) (M := 5) (T := TX2) (o := 168) (kz := 1) hG a_168 a_168.n (by decide) hin_X2 rfl (by decide) (by decide) rfl kw_392 rfl ((hw).1 (168, 1, 266) (by decide)) (by decide) dX4_findStep_62 ?_
          refine V.iload_n (pc := 65) hG dX4_findStep_65 rfl 3 rfl ?_
          obtain ⟨g80, h⟩ := h
          refine V.aald (pc := 66) 7 (z := 96) (o := 266) (x := p2) (y := 267 + p2) hG a_266 a_266.n (by decide) hp2 g80 (hw.2.1 (266, 96, 267) (by decide) _ g80.1 g80.2) (by omega) dX4_findStep_66 ?_
          refine V.iload (pc := 67) hG dX4_findStep_67 8 rfl ?_
          obtain ⟨g81, h⟩ := h
          refine V.iald (pc := 69) (z := 100) (o := 267 + p2) hG (row_266 g80) ((row_266 g80)).n hx7_22 g81 dX4_findStep_69 ?_
          refine V.imul (pc := 70) hG dX4_findStep_70 ?_
          refine V.iadd (pc := 71) hG dX4_findStep_71 ?_
          refine V.istore (pc := 72) (lv' := [(9, .int (sJ (wr (i 470 (i (170 + p2) x7_22) + wr (i 469 5 * i (267 + p2) x7_22))))), (8, .int (sJ (i (170 + p2) x7_22))), (0, .ref (sA Δ 469)), (1, .ref (sA Δ 168)), (2, .int (sJ p2)), (3, .int (sJ p3)), (4, .int (sJ p4)), (5, .int (sJ (i 471 p2))), (6, .int (sJ x6_22)), (7, .int (sJ x7_22))]) hG dX4_findStep_72 (by decide) rfl ?_
          refine V.iload (pc := 74) hG dX4_findStep_74 8 rfl ?_
          refine V.iload (pc := 76) hG dX4_findStep_76 0 rfl ?_
          refine V.aload_n (pc := 78) hG dX4_findStep_78 rfl 3 rfl ?_
          refine V.getRN (x := 363) (pc := 79) (ci := 4) (k := 2) (M := 5) (T := TX2) (o := 168) (kz := 2) hG a_168 a_168.n (by decide) hin_X2 rfl (by decide) (by decide) rfl kw_395 rfl ((hw).1 (168, 2, 363) (by decide)) (by decide) dX4_findStep_79 ?_
          refine V.iload_n (pc := 82) hG dX4_findStep_82 rfl 4 rfl ?_
          obtain ⟨g82, h⟩ := h
          refine V.aald (pc := 83) 7 (z := 96) (o := 363) (x := p2) (y := 364 + p2) hG a_363 a_363.n (by decide) hp2 g82 (hw.2.1 (363, 96, 364) (by decide) _ g82.1 g82.2) (by omega) dX4_findStep_83 ?_
          refine V.iload (pc := 84) hG dX4_findStep_84 9 rfl ?_
          obtain ⟨g83, h⟩ := h
          refine V.iald (pc := 86) (z := 100) (o := 364 + p2) hG (row_363 g82) ((row_363 g82)).n hx7_22 g83 dX4_findStep_86 ?_
          refine V.isub (pc := 87) hG dX4_findStep_87 ?_
          refine V.mmin (pc := 88) hG hx6_22 ((sR_wr _)) kw_820 kw_646 kw_121 kw_min ⟨Nat.le_of_ble_eq_true rfl, Nat.le_of_ble_eq_true rfl, Nat.le_of_ble_eq_true rfl, Nat.le_of_ble_eq_true rfl⟩ dX4_findStep_88 ?_
          refine V.istore (pc := 91) (lv' := [(6, .int (sJ (min x6_22 (wr (wr (i 470 (i (170 + p2) x7_22) + wr (i 469 5 * i (267 + p2) x7_22)) - i (364 + p2) x7_22))))), (9, .int (sJ (wr (i 470 (i (170 + p2) x7_22) + wr (i 469 5 * i (267 + p2) x7_22))))), (8, .int (sJ (i (170 + p2) x7_22))), (0, .ref (sA Δ 469)), (1, .ref (sA Δ 168)), (2, .int (sJ p2)), (3, .int (sJ p3)), (4, .int (sJ p4)), (5, .int (sJ (i 471 p2))), (7, .int (sJ x7_22))]) hG dX4_findStep_91 (by decide) rfl ?_
          refine V.pick [3, 4, 5, 6, 7, 8, 0, 9] rfl ?_
          exact jn93 (min x6_22 (wr (wr (i 470 (i (170 + p2) x7_22) + wr (i 469 5 * i (267 + p2) x7_22)) - i (364 + p2) x7_22))) x7_22 ((sR_min hx6_22 ((sR_wr _)))) hx7_22 h
  refine V.pick [3, 4, 5, 6, 7, 2, 1, 0] rfl ?_
  exact lp22 n51 (wr (wr (i 471 p2 + i 469 5) - 1)) 0 ((sR_wr _)) ((sR_l rfl)) h
set_option maxRecDepth 100000 in
set_option maxHeartbeats 4000000 in
theorem sm_X4_placeAt (l : Launch) (Δ : Wd) {i r : MI} {p2 : Int} {p3 : Int} {p4 : Int} (hp2 : sR p2) (hp3 : sR p3) (hp4 : sR p4) {Q : MI → Prop} (hi : okI i) (hw : Wf r) (h : wp_X4_placeAt p2 p3 p4 i r Q) : Met l yX4_placeAt (Cond.code yX4_placeAt cX4_placeAt 8 none :: gW) (sRm 2 44) (sPc Δ [.ref (sA Δ 469), .ref (sA Δ 168), .int (sJ p2), .int (sJ p3), .int (sJ p4)] i r) (sQv Δ (fun i' r' => r = r' ∧ Q i')) 0 0 (sFr Δ) := by
  refine Ct.v (by decide) rfl (Nat.le_of_ble_eq_true rfl) (fun Γ Q0 hG fin => ?_)
  have hG : okG Γ Δ l (sRm 2 44) cX4_placeAt "Schedulary$Pace" 8 := hG
  show V Γ Δ 504 false i r 0 0 Q0 0 [(0, .ref (sA Δ 469)), (1, .ref (sA Δ 168)), (2, .int (sJ p2)), (3, .int (sJ p3)), (4, .int (sJ p4))] []
  refine V.aload_n (pc := 0) hG dX4_placeAt_0 rfl 0 rfl ?_
  refine V.getR (x := 470) (pc := 1) (ci := 6) (k := 0) (M := 6) (T := TX4) (o := 469) (kz := 0) hG a_469 a_469.n (by decide) hin_X4 rfl (by decide) (by decide) rfl kw_451 rfl ((hw).1 (469, 0, 470) (by decide)) (by decide) dX4_placeAt_1 ?_
  refine V.iload_n (pc := 4) hG dX4_placeAt_4 rfl 2 rfl ?_
  refine V.iload (pc := 5) hG dX4_placeAt_5 4 rfl ?_
  obtain ⟨g1, h⟩ := h
  refine V.iast (pc := 7) (z := 96) (o := 470) hG a_470 a_470.n hp2 g1 dX4_placeAt_7 ?_
  refine V.aload_n (pc := 8) hG dX4_placeAt_8 rfl 0 rfl ?_
  refine V.getR (x := 472) (pc := 9) (ci := 6) (k := 2) (M := 6) (T := TX4) (o := 469) (kz := 2) hG a_469 a_469.n (by decide) hin_X4 rfl (by decide) (by decide) rfl kw_455 rfl ((hw).1 (469, 2, 472) (by decide)) (by decide) dX4_placeAt_9 ?_
  refine V.iload_n (pc := 12) hG dX4_placeAt_12 rfl 3 rfl ?_
  obtain ⟨g2, h⟩ := h
  refine V.aald (pc := 13) 7 (z := 7) (o := 472) (x := p3) (y := 473 + p3) hG a_472 a_472.n (by decide) hp3 g2 (hw.2.1 (472, 7, 473) (by decide) _ g2.1 g2.2) (by omega) dX4_placeAt_13 ?_
  refine V.aload_n (pc := 14) hG dX4_placeAt_14 rfl 0 rfl ?_
  refine V.iload (pc := 15) hG dX4_placeAt_15 4 rfl ?_
  refine V.callVi (pc := 17) (As := [.int (sJ p4)]) (stk := [.ref (sA Δ (473 + p3))]) hG (sm_X4_restOf l Δ hp4 ((okI_st hi hp4)) hw h) mY_X4_restOf kw_821 kw_823 kw_58 a_469 (by decide) (q := (RX4, TX4, 6)) rfl rfl ⟨Nat.le_of_ble_eq_true rfl, Nat.le_of_ble_eq_true rfl, Nat.le_of_ble_eq_true rfl, Nat.le_of_ble_eq_true rfl⟩ rfl (Nat.le_of_ble_eq_true rfl) dX4_placeAt_17 rfl (fun v3 i4 r5 hv6 hi7 hw8 hq9 => ?_)
  obtain ⟨e37, e38, h⟩ := hq9
  subst e37
  subst e38
  refine V.dup2 (pc := 20) hG dX4_placeAt_20 rfl rfl ?_
  obtain ⟨g10, h⟩ := h
  refine V.iald (pc := 21) (z := 481) (o := 473 + p3) hG (row_472 g2) ((row_472 g2)).n hv6 g10 dX4_placeAt_21 ?_
  refine V.iconst (pc := 22) hG dX4_placeAt_22 ?_
  refine V.iadd (pc := 23) hG dX4_placeAt_23 ?_
  obtain ⟨g11, h⟩ := h
  refine V.iast (pc := 24) (z := 481) (o := 473 + p3) hG (row_472 g2) ((row_472 g2)).n hv6 g11 dX4_placeAt_24 ?_
  refine V.iconst (pc := 25) hG dX4_placeAt_25 ?_
  refine V.istore (pc := 26) (lv' := [(5, .int (sJ 0)), (0, .ref (sA Δ 469)), (1, .ref (sA Δ 168)), (2, .int (sJ p2)), (3, .int (sJ p3)), (4, .int (sJ p4))]) hG dX4_placeAt_26 (by decide) rfl ?_
  obtain ⟨n24, h⟩ := h
  have lp28 : ∀ (m28 : Nat) (x5_28 : Int) (i_28 : MI), sR x5_28 → okI i_28 → LoopP (b28_X4_placeAt p2 p4 r Q) m28 (x5_28, i_28) → V Γ Δ 504 false i_28 r 0 0 Q0 28 [(0, .ref (sA Δ 469)), (1, .ref (sA Δ 168)), (2, .int (sJ p2)), (4, .int (sJ p4)), (5, .int (sJ x5_28))] [] := by
    intro m28
    induction m28 with
    | zero => intro x5_28 i_28 hx5_28 hi_28 h; exact h.elim
    | succ m28 ih28 =>
      intro x5_28 i_28 hx5_28 hi_28 h
      have h := LoopP_succ h
      refine V.iload (pc := 28) hG dX4_placeAt_28 4 rfl ?_
      refine V.aload_n (pc := 30) hG dX4_placeAt_30 rfl 1 rfl ?_
      refine V.getRN (x := 460) (pc := 31) (ci := 4) (k := 3) (M := 5) (T := TX2) (o := 168) (kz := 3) hG a_168 a_168.n (by decide) hin_X2 rfl (by decide) (by decide) rfl kw_399 rfl ((hw).1 (168, 3, 460) (by decide)) (by decide) dX4_placeAt_31 ?_
      refine V.iload_n (pc := 34) hG dX4_placeAt_34 rfl 2 rfl ?_
      obtain ⟨g25, h⟩ := h
      refine V.iald (pc := 35) (z := 96) (o := 460) hG a_460 a_460.n hp2 g25 dX4_placeAt_35 ?_
      obtain ⟨t27, f28⟩ := h
      refine V.icmp_ge (pc := 36) (tgt := 104) hG hx5_28 ((hi_28 _ _)) dX4_placeAt_36 (by decide) (fun c26 => ?_) (fun c26 => ?_)
      · have h := t27 c26
        clear t27 f28
        exact fin dX4_placeAt_104 hi_28 hw ⟨rfl, h⟩
      · have h := f28 c26
        clear t27 f28
        refine V.aload_n (pc := 39) hG dX4_placeAt_39 rfl 1 rfl ?_
        refine V.getRN (x := 169) (pc := 40) (ci := 4) (k := 0) (M := 5) (T := TX2) (o := 168) (kz := 0) hG a_168 a_168.n (by decide) hin_X2 rfl (by decide) (by decide) rfl kw_389 rfl ((hw).1 (168, 0, 169) (by decide)) (by decide) dX4_placeAt_40 ?_
        refine V.iload_n (pc := 43) hG dX4_placeAt_43 rfl 2 rfl ?_
        obtain ⟨g29, h⟩ := h
        refine V.aald (pc := 44) 7 (z := 96) (o := 169) (x := p2) (y := 170 + p2) hG a_169 a_169.n (by decide) hp2 g29 (hw.2.1 (169, 96, 170) (by decide) _ g29.1 g29.2) (by omega) dX4_placeAt_44 ?_
        refine V.iload (pc := 45) hG dX4_placeAt_45 4 rfl ?_
        obtain ⟨g30, h⟩ := h
        refine V.iald (pc := 47) (z := 100) (o := 170 + p2) hG (row_169 g29) ((row_169 g29)).n hx5_28 g30 dX4_placeAt_47 ?_
        refine V.istore (pc := 48) (lv' := [(6, .int (sJ (i_28 (170 + p2) x5_28))), (0, .ref (sA Δ 469)), (1, .ref (sA Δ 168)), (2, .int (sJ p2)), (4, .int (sJ p4)), (5, .int (sJ x5_28))]) hG dX4_placeAt_48 (by decide) rfl ?_
        refine V.iload (pc := 50) hG dX4_placeAt_50 4 rfl ?_
        refine V.aload_n (pc := 52) hG dX4_placeAt_52 rfl 2 rfl ?_
        refine V.getRN (x := 363) (pc := 53) (ci := 4) (k := 2) (M := 5) (T := TX2) (o := 168) (kz := 2) hG a_168 a_168.n (by decide) hin_X2 rfl (by decide) (by decide) rfl kw_395 rfl ((hw).1 (168, 2, 363) (by decide)) (by decide) dX4_placeAt_53 ?_
        refine V.iload_n (pc := 56) hG dX4_placeAt_56 rfl 3 rfl ?_
        obtain ⟨g31, h⟩ := h
        refine V.aald (pc := 57) 7 (z := 96) (o := 363) (x := p2) (y := 364 + p2) hG a_363 a_363.n (by decide) hp2 g31 (hw.2.1 (363, 96, 364) (by decide) _ g31.1 g31.2) (by omega) dX4_placeAt_57 ?_
        refine V.iload (pc := 58) hG dX4_placeAt_58 5 rfl ?_
        obtain ⟨g32, h⟩ := h
        refine V.iald (pc := 60) (z := 100) (o := 364 + p2) hG (row_363 g31) ((row_363 g31)).n hx5_28 g32 dX4_placeAt_60 ?_
        refine V.iadd (pc := 61) hG dX4_placeAt_61 ?_
        refine V.aload_n (pc := 62) hG dX4_placeAt_62 rfl 1 rfl ?_
        refine V.getI (pc := 63) (ci := 6) (k := 5) (M := 6) (T := TX4) (o := 469) (kz := 5) hG a_469 a_469.n (by decide) hin_X4 rfl (by decide) (by decide) rfl kw_460 rfl dX4_placeAt_63 ?_
        refine V.aload_n (pc := 66) hG dX4_placeAt_66 rfl 2 rfl ?_
        refine V.getRN (x := 266) (pc := 67) (ci := 4) (k := 1) (M := 5) (T := TX2) (o := 168) (kz := 1) hG a_168 a_168.n (by decide) hin_X2 rfl (by decide) (by decide) rfl kw_392 rfl ((hw).1 (168, 1, 266) (by decide)) (by decide) dX4_placeAt_67 ?_
        refine V.iload_n (pc := 70) hG dX4_placeAt_70 rfl 3 rfl ?_
        obtain ⟨g33, h⟩ := h
        refine V.aald (pc := 71) 7 (z := 96) (o := 266) (x := p2) (y := 267 + p2) hG a_266 a_266.n (by decide) hp2 g33 (hw.2.1 (266, 96, 267) (by decide) _ g33.1 g33.2) (by omega) dX4_placeAt_71 ?_
        refine V.iload (pc := 72) hG dX4_placeAt_72 5 rfl ?_
        obtain ⟨g34, h⟩ := h
        refine V.iald (pc := 74) (z := 100) (o := 267 + p2) hG (row_266 g33) ((row_266 g33)).n hx5_28 g34 dX4_placeAt_74 ?_
        refine V.imul (pc := 75) hG dX4_placeAt_75 ?_
        refine V.isub (pc := 76) hG dX4_placeAt_76 ?_
        refine V.istore (pc := 77) (lv' := [(7, .int (sJ (wr (wr (p4 + i_28 (364 + p2) x5_28) - wr (i_28 469 5 * i_28 (267 + p2) x5_28))))), (6, .int (sJ (i_28 (170 + p2) x5_28))), (0, .ref (sA Δ 469)), (1, .ref (sA Δ 168)), (2, .int (sJ p2)), (4, .int (sJ p4)), (5, .int (sJ x5_28))]) hG dX4_placeAt_77 (by decide) rfl ?_
        refine V.aload_n (pc := 79) hG dX4_placeAt_79 rfl 2 rfl ?_
        refine V.getR (x := 471) (pc := 80) (ci := 6) (k := 1) (M := 6) (T := TX4) (o := 469) (kz := 1) hG a_469 a_469.n (by decide) hin_X4 rfl (by decide) (by decide) rfl kw_454 rfl ((hw).1 (469, 1, 471) (by decide)) (by decide) dX4_placeAt_80 ?_
        refine V.iload (pc := 83) hG dX4_placeAt_83 1 rfl ?_
        refine V.aload_n (pc := 85) hG dX4_placeAt_85 rfl 2 rfl ?_
        refine V.getR (x := 471) (pc := 86) (ci := 6) (k := 1) (M := 6) (T := TX4) (o := 469) (kz := 1) hG a_469 a_469.n (by decide) hin_X4 rfl (by decide) (by decide) rfl kw_454 rfl ((hw).1 (469, 1, 471) (by decide)) (by decide) dX4_placeAt_86 ?_
        refine V.iload (pc := 89) hG dX4_placeAt_89 1 rfl ?_
        obtain ⟨g35, h⟩ := h
        refine V.iald (pc := 91) (z := 96) (o := 471) hG a_471 a_471.n ((hi_28 _ _)) g35 dX4_placeAt_91 ?_
        refine V.iload (pc := 92) hG dX4_placeAt_92 0 rfl ?_
        refine V.mmax (pc := 94) hG ((hi_28 _ _)) ((sR_wr _)) kw_796 kw_699 kw_121 kw_max ⟨Nat.le_of_ble_eq_true rfl, Nat.le_of_ble_eq_true rfl, Nat.le_of_ble_eq_true rfl, Nat.le_of_ble_eq_true rfl⟩ dX4_placeAt_94 ?_
        obtain ⟨g36, h⟩ := h
        refine V.iast (pc := 97) (z := 96) (o := 471) hG a_471 a_471.n ((hi_28 _ _)) g36 dX4_placeAt_97 ?_
        refine V.iinc (pc := 98) (lv' := [(5, .int (sJ (wr (x5_28 + 1)))), (7, .int (sJ (wr (wr (p4 + i_28 (364 + p2) x5_28) - wr (i_28 469 5 * i_28 (267 + p2) x5_28))))), (6, .int (sJ (i_28 (170 + p2) x5_28))), (0, .ref (sA Δ 469)), (1, .ref (sA Δ 168)), (2, .int (sJ p2)), (4, .int (sJ p4))]) hG dX4_placeAt_98 6 rfl (by decide) rfl ?_
        refine V.goto (pc := 101) (tgt := 28) hG dX4_placeAt_101 (by decide) ?_
        refine V.pick [3, 4, 5, 6, 0] rfl ?_
        exact ih28 (wr (x5_28 + 1)) (st i_28 471 (i_28 (170 + p2) x5_28) (max (i_28 471 (i_28 (170 + p2) x5_28)) (wr (wr (p4 + i_28 (364 + p2) x5_28) - wr (i_28 469 5 * i_28 (267 + p2) x5_28))))) ((sR_wr _)) ((okI_st hi_28 ((sR_max ((hi_28 _ _)) ((sR_wr _)))))) h
  refine V.pick [1, 2, 3, 5, 0] rfl ?_
  exact lp28 n24 0 (st (st i 470 p2 p4) (473 + p3) v3 (wr ((st i 470 p2 p4) (473 + p3) v3 + 1))) ((sR_l rfl)) ((okI_st ((okI_st hi hp4)) ((sR_wr _)))) h
set_option maxRecDepth 100000 in
set_option maxHeartbeats 4000000 in
theorem sm_X4_placeAll (l : Launch) (Δ : Wd) {i r : MI}   {Q : Int → MI → Prop} (hi : okI i) (hw : Wf r) (h : wp_X4_placeAll  i r Q) : Met l yX4_placeAll (Cond.code yX4_placeAll cX4_placeAll 6 (some .boolean) :: gW) (sRm 3 73) (sPc Δ [.ref (sA Δ 469), .ref (sA Δ 67), .ref (sA Δ 168)] i r) (sQi Δ (fun x i' r' => r = r' ∧ Q x i')) 0 0 (sFr Δ) := by
  refine Ct.i (ty := .boolean) (by decide) rfl (Nat.le_of_ble_eq_true rfl) (fun Γ Q0 hG fin => ?_)
  have hG : okG Γ Δ l (sRm 3 73) cX4_placeAll "Schedulary$Pace" 6 := hG
  show V Γ Δ 504 false i r 0 0 Q0 0 [(0, .ref (sA Δ 469)), (1, .ref (sA Δ 67)), (2, .ref (sA Δ 168))] []
  refine V.iconst (pc := 0) hG dX4_placeAll_0 ?_
  refine V.istore_n (pc := 1) (lv' := [(3, .int (sJ 0)), (0, .ref (sA Δ 469)), (1, .ref (sA Δ 67)), (2, .ref (sA Δ 168))]) hG dX4_placeAll_1 rfl (by decide) rfl ?_
  obtain ⟨n110, h⟩ := h
  have lp2 : ∀ (m2 : Nat) (x3_2 : Int) (i_2 : MI), sR x3_2 → okI i_2 → LoopP (b2_X4_placeAll r Q) m2 (x3_2, i_2) → V Γ Δ 504 false i_2 r 0 0 Q0 2 [(0, .ref (sA Δ 469)), (1, .ref (sA Δ 67)), (2, .ref (sA Δ 168)), (3, .int (sJ x3_2))] [] := by
    intro m2
    induction m2 with
    | zero => intro x3_2 i_2 hx3_2 hi_2 h; exact h.elim
    | succ m2 ih2 =>
      intro x3_2 i_2 hx3_2 hi_2 h
      have h := LoopP_succ h
      have jn44 : ∀ (x3j44 : Int) (ij44 : MI), sR x3j44 → okI ij44 → s44_X4_placeAll x3j44 ij44 r Q (LoopP (b2_X4_placeAll r Q) m2) → V Γ Δ 504 false ij44 r 0 0 Q0 44 [(0, .ref (sA Δ 469)), (1, .ref (sA Δ 67)), (2, .ref (sA Δ 168)), (3, .int (sJ x3j44))] [] := by
        intro x3j44 ij44 hx3j44 hij44 h
        refine V.iinc (pc := 44) (lv' := [(3, .int (sJ (wr (x3j44 + 1)))), (0, .ref (sA Δ 469)), (1, .ref (sA Δ 67)), (2, .ref (sA Δ 168))]) hG dX4_placeAll_44 3 rfl (by decide) rfl ?_
        refine V.goto (pc := 47) (tgt := 2) hG dX4_placeAll_47 (by decide) ?_
        refine V.pick [1, 2, 3, 0] rfl ?_
        exact ih2 (wr (x3j44 + 1)) ij44 ((sR_wr _)) hij44 h
      refine V.iload_n (pc := 2) hG dX4_placeAll_2 rfl 3 rfl ?_
      refine V.bipush (pc := 3) hG dX4_placeAll_3 (by decide) ?_
      obtain ⟨t112, f113⟩ := h
      refine V.icmp_ge (pc := 5) (tgt := 50) hG hx3_2 ((sR_l rfl)) dX4_placeAll_5 (by decide) (fun c111 => ?_) (fun c111 => ?_)
      · have h := t112 c111
        clear t112 f113
        refine V.iconst (pc := 50) hG dX4_placeAll_50 ?_
        refine V.istore_n (pc := 51) (lv' := [(3, .int (sJ 0)), (0, .ref (sA Δ 469)), (1, .ref (sA Δ 67)), (2, .ref (sA Δ 168))]) hG dX4_placeAll_51 rfl (by decide) rfl ?_
        obtain ⟨n114, h⟩ := h
        have lp52 : ∀ (m52 : Nat) (x3_52 : Int) (i_52 : MI), sR x3_52 → okI i_52 → LoopP (b52_X4_placeAll r Q) m52 (x3_52, i_52) → V Γ Δ 504 false i_52 r 0 0 Q0 52 [(0, .ref (sA Δ 469)), (1, .ref (sA Δ 67)), (2, .ref (sA Δ 168)), (3, .int (sJ x3_52))] [] := by
          intro m52
          induction m52 with
          | zero => intro x3_52 i_52 hx3_52 hi_52 h; exact h.elim
          | succ m52 ih52 =>
            intro x3_52 i_52 hx3_52 hi_52 h
            have h := LoopP_succ h
            refine V.iload_n (pc := 52) hG dX4_placeAll_52 rfl 3 rfl ?_
            refine V.aload_n (pc := 53) hG dX4_placeAll_53 rfl 1 rfl ?_
            refine V.getIN (pc := 54) (ci := 2) (k := 4) (M := 5) (T := TX0) (o := 67) (kz := 4) hG a_67 a_67.n (by decide) hin_X0 rfl (by decide) (by decide) rfl kw_366 rfl dX4_placeAll_54 ?_
            obtain ⟨t116, f117⟩ := h
            refine V.icmp_ge (pc := 57) (tgt := 73) hG hx3_52 ((hi_52 _ _)) dX4_placeAll_57 (by decide) (fun c115 => ?_) (fun c115 => ?_)
            · have h := t116 c115
              clear t116 f117
              refine V.iconst (pc := 73) hG dX4_placeAll_73 ?_
              refine V.istore_n (pc := 74) (lv' := [(3, .int (sJ 0)), (0, .ref (sA Δ 469)), (1, .ref (sA Δ 67)), (2, .ref (sA Δ 168))]) hG dX4_placeAll_74 rfl (by decide) rfl ?_
              obtain ⟨n118, h⟩ := h
              have lp75 : ∀ (m75 : Nat) (x3_75 : Int) (i_75 : MI), sR x3_75 → okI i_75 → LoopP (b75_X4_placeAll r Q) m75 (x3_75, i_75) → V Γ Δ 504 false i_75 r 0 0 Q0 75 [(0, .ref (sA Δ 469)), (1, .ref (sA Δ 67)), (2, .ref (sA Δ 168)), (3, .int (sJ x3_75))] [] := by
                intro m75
                induction m75 with
                | zero => intro x3_75 i_75 hx3_75 hi_75 h; exact h.elim
                | succ m75 ih75 =>
                  intro x3_75 i_75 hx3_75 hi_75 h
                  have h := LoopP_succ h
                  refine V.iload_n (pc := 75) hG dX4_placeAll_75 rfl 3 rfl ?_
                  refine V.aload_n (pc := 76) hG dX4_placeAll_76 rfl 1 rfl ?_
                  refine V.getIN (pc := 77) (ci := 2) (k := 4) (M := 5) (T := TX0) (o := 67) (kz := 4) hG a_67 a_67.n (by decide) hin_X0 rfl (by decide) (by decide) rfl kw_366 rfl dX4_placeAll_77 ?_
                  obtain ⟨t120, f121⟩ := h
                  refine V.icmp_ge (pc := 80) (tgt := 135) hG hx3_75 ((hi_75 _ _)) dX4_placeAll_80 (by decide) (fun c119 => ?_) (fun c119 => ?_)
                  · have h := t120 c119
                    clear t120 f121
                    refine V.iconst (pc := 135) hG dX4_placeAll_135 ?_
                    exact fin dX4_placeAll_136 ((sR_l rfl)) (nar_z (by decide)) hi_75 hw ⟨rfl, h⟩
                  · have h := f121 c119
                    clear t120 f121
                    refine V.aload_n (pc := 83) hG dX4_placeAll_83 rfl 1 rfl ?_
                    refine V.getRN (x := 68) (pc := 84) (ci := 2) (k := 0) (M := 5) (T := TX0) (o := 67) (kz := 0) hG a_67 a_67.n (by decide) hin_X0 rfl (by decide) (by decide) rfl kw_352 rfl ((hw).1 (67, 0, 68) (by decide)) (by decide) dX4_placeAll_84 ?_
                    refine V.iload_n (pc := 87) hG dX4_placeAll_87 rfl 3 rfl ?_
                    obtain ⟨g122, h⟩ := h
                    refine V.aald (pc := 88) 6 (z := 96) (o := 68) (x := x3_75) (y := 72 + x3_75) hG a_68 a_68.n (by decide) hx3_75 g122 (hw.2.1 (68, 96, 72) (by decide) _ g122.1 g122.2) (by omega) dX4_placeAll_88 ?_
                    refine V.getIN (pc := 89) (ci := 5) (k := 3) (M := 13) (T := TX3) (o := 72 + x3_75) (kz := 3) hG (node_o g122.1 g122.2) ((node_o g122.1 g122.2)).n (by decide) hin_X3 rfl (by decide) (by decide) rfl kw_290 rfl dX4_placeAll_89 ?_
                    refine V.istore (pc := 92) (lv' := [(4, .int (sJ (i_75 (72 + x3_75) 3))), (0, .ref (sA Δ 469)), (1, .ref (sA Δ 67)), (2, .ref (sA Δ 168)), (3, .int (sJ x3_75))]) hG dX4_placeAll_92 (by decide) rfl ?_
                    refine V.aload_n (pc := 94) hG dX4_placeAll_94 rfl 1 rfl ?_
                    refine V.aload_n (pc := 95) hG dX4_placeAll_95 rfl 3 rfl ?_
                    refine V.iload_n (pc := 96) hG dX4_placeAll_96 rfl 4 rfl ?_
                    refine V.iload (pc := 97) hG dX4_placeAll_97 0 rfl ?_
                    refine V.aload_n (pc := 99) hG dX4_placeAll_99 rfl 2 rfl ?_
                    refine V.getRN (x := 69) (pc := 100) (ci := 2) (k := 1) (M := 5) (T := TX0) (o := 67) (kz := 1) hG a_67 a_67.n (by decide) hin_X0 rfl (by decide) (by decide) rfl kw_356 rfl ((hw).1 (67, 1, 69) (by decide)) (by decide) dX4_placeAll_100 ?_
                    refine V.iload (pc := 103) hG dX4_placeAll_103 0 rfl ?_
                    obtain ⟨g123, h⟩ := h
                    refine V.iald (pc := 105) (z := 7) (o := 69) hG a_69 a_69.n ((hi_75 _ _)) g123 dX4_placeAll_105 ?_
                    refine V.callVi (pc := 106) (As := [.ref (sA Δ 168), .int (sJ x3_75), .int (sJ (i_75 (72 + x3_75) 3)), .int (sJ (i_75 69 (i_75 (72 + x3_75) 3)))]) (stk := []) hG (sm_X4_findStep l Δ hx3_75 ((hi_75 _ _)) ((hi_75 _ _)) hi_75 hw h) mY_X4_findStep kw_816 kw_818 kw_57 a_469 (by decide) (q := (RX4, TX4, 6)) rfl rfl ⟨Nat.le_of_ble_eq_true rfl, Nat.le_of_ble_eq_true rfl, Nat.le_of_ble_eq_true rfl, Nat.le_of_ble_eq_true rfl⟩ rfl (Nat.le_of_ble_eq_true rfl) dX4_placeAll_106 rfl (fun v124 i125 r126 hv127 hi128 hw129 hq130 => ?_)
                    obtain ⟨e143, e144, h⟩ := hq130
                    subst e143
                    subst e144
                    refine V.istore (pc := 109) (lv' := [(5, .int (sJ v124)), (4, .int (sJ (i_75 (72 + x3_75) 3))), (0, .ref (sA Δ 469)), (1, .ref (sA Δ 67)), (2, .ref (sA Δ 168)), (3, .int (sJ x3_75))]) hG dX4_placeAll_109 (by decide) rfl ?_
                    refine V.iload (pc := 111) hG dX4_placeAll_111 0 rfl ?_
                    refine V.iconst (pc := 113) hG dX4_placeAll_113 ?_
                    obtain ⟨f133, t132⟩ := h
                    refine V.icmp_ne (pc := 114) (tgt := 119) hG hv127 ((sR_l rfl)) dX4_placeAll_114 (by decide) (fun c131 => ?_) (fun c131 => ?_)
                    · have h := t132 c131
                      clear t132 f133
                      refine V.aload_n (pc := 119) hG dX4_placeAll_119 rfl 2 rfl ?_
                      refine V.aload_n (pc := 120) hG dX4_placeAll_120 rfl 4 rfl ?_
                      refine V.iload_n (pc := 121) hG dX4_placeAll_121 rfl 5 rfl ?_
                      refine V.iload (pc := 122) hG dX4_placeAll_122 1 rfl ?_
                      refine V.iload (pc := 124) hG dX4_placeAll_124 0 rfl ?_
                      refine V.callVv (pc := 126) (As := [.ref (sA Δ 168), .int (sJ x3_75), .int (sJ (i_75 (72 + x3_75) 3)), .int (sJ v124)]) (stk := []) hG (sm_X4_placeAt l Δ hx3_75 ((hi_75 _ _)) hv127 hi_75 hw h) mY_X4_placeAt kw_828 kw_830 kw_59 a_469 (by decide) (q := (RX4, TX4, 6)) rfl rfl ⟨Nat.le_of_ble_eq_true rfl, Nat.le_of_ble_eq_true rfl, Nat.le_of_ble_eq_true rfl, Nat.le_of_ble_eq_true rfl⟩ rfl (Nat.le_of_ble_eq_true rfl) dX4_placeAll_126 rfl (fun i135 r136 hi138 hw139 hq140 => ?_)
                      obtain ⟨e142, h⟩ := hq140
                      subst e142
                      refine V.iinc (pc := 129) (lv' := [(3, .int (sJ (wr (x3_75 + 1)))), (5, .int (sJ v124)), (4, .int (sJ (i_75 (72 + x3_75) 3))), (0, .ref (sA Δ 469)), (1, .ref (sA Δ 67)), (2, .ref (sA Δ 168))]) hG dX4_placeAll_129 5 rfl (by decide) rfl ?_
                      refine V.goto (pc := 132) (tgt := 75) hG dX4_placeAll_132 (by decide) ?_
                      refine V.pick [3, 4, 5, 0] rfl ?_
                      exact ih75 (wr (x3_75 + 1)) i135 ((sR_wr _)) hi138 h
                    · have h := f133 c131
                      clear t132 f133
                      refine V.iconst (pc := 117) hG dX4_placeAll_117 ?_
                      exact fin dX4_placeAll_118 ((sR_l rfl)) (nar_z (by decide)) hi_75 hw ⟨rfl, h⟩
              refine V.pick [1, 2, 3, 0] rfl ?_
              exact lp75 n118 0 i_52 ((sR_l rfl)) hi_52 h
            · have h := f117 c115
              clear t116 f117
              refine V.aload_n (pc := 60) hG dX4_placeAll_60 rfl 0 rfl ?_
              refine V.getR (x := 471) (pc := 61) (ci := 6) (k := 1) (M := 6) (T := TX4) (o := 469) (kz := 1) hG a_469 a_469.n (by decide) hin_X4 rfl (by decide) (by decide) rfl kw_454 rfl ((hw).1 (469, 1, 471) (by decide)) (by decide) dX4_placeAll_61 ?_
              refine V.iload_n (pc := 64) hG dX4_placeAll_64 rfl 3 rfl ?_
              refine V.iconst (pc := 65) hG dX4_placeAll_65 ?_
              obtain ⟨g145, h⟩ := h
              refine V.iast (pc := 66) (z := 96) (o := 471) hG a_471 a_471.n hx3_52 g145 dX4_placeAll_66 ?_
              refine V.iinc (pc := 67) (lv' := [(3, .int (sJ (wr (x3_52 + 1)))), (0, .ref (sA Δ 469)), (1, .ref (sA Δ 67)), (2, .ref (sA Δ 168))]) hG dX4_placeAll_67 3 rfl (by decide) rfl ?_
              refine V.goto (pc := 70) (tgt := 52) hG dX4_placeAll_70 (by decide) ?_
              refine V.pick [1, 2, 3, 0] rfl ?_
              exact ih52 (wr (x3_52 + 1)) (st i_52 471 x3_52 0) ((sR_wr _)) ((okI_st hi_52 ((sR_l rfl)))) h
        refine V.pick [1, 2, 3, 0] rfl ?_
        exact lp52 n114 0 i_2 ((sR_l rfl)) hi_2 h
      · have h := f113 c111
        clear t112 f113
        refine V.iconst (pc := 8) hG dX4_placeAll_8 ?_
        refine V.istore (pc := 9) (lv' := [(4, .int (sJ 0)), (0, .ref (sA Δ 469)), (1, .ref (sA Δ 67)), (2, .ref (sA Δ 168)), (3, .int (sJ x3_2))]) hG dX4_placeAll_9 (by decide) rfl ?_
        obtain ⟨n146, h⟩ := h
        have lp11 : ∀ (m11 : Nat) (x4_11 : Int) (i_11 : MI), sR x4_11 → okI i_11 → LoopP (b11_X4_placeAll x3_2 r Q (LoopP (b2_X4_placeAll r Q) m2)) m11 (x4_11, i_11) → V Γ Δ 504 false i_11 r 0 0 Q0 11 [(0, .ref (sA Δ 469)), (1, .ref (sA Δ 67)), (2, .ref (sA Δ 168)), (3, .int (sJ x3_2)), (4, .int (sJ x4_11))] [] := by
          intro m11
          induction m11 with
          | zero => intro x4_11 i_11 hx4_11 hi_11 h; exact h.elim
          | succ m11 ih11 =>
            intro x4_11 i_11 hx4_11 hi_11 h
            have h := LoopP_succ h
            refine V.iload (pc := 11) hG dX4_placeAll_11 4 rfl ?_
            refine V.aload_n (pc := 13) hG dX4_placeAll_13 rfl 0 rfl ?_
            refine V.getI (pc := 14) (ci := 6) (k := 5) (M := 6) (T := TX4) (o := 469) (kz := 5) hG a_469 a_469.n (by decide) hin_X4 rfl (by decide) (by decide) rfl kw_460 rfl dX4_placeAll_14 ?_
            obtain ⟨t148, f149⟩ := h
            refine V.icmp_ge (pc := 17) (tgt := 44) hG hx4_11 ((hi_11 _ _)) dX4_placeAll_17 (by decide) (fun c147 => ?_) (fun c147 => ?_)
            · have h := t148 c147
              clear t148 f149
              refine V.pick [0, 1, 2, 3] rfl ?_
              exact jn44 x3_2 i_11 hx3_2 hi_11 h
            · have h := f149 c147
              clear t148 f149
              refine V.iload (pc := 20) hG dX4_placeAll_20 4 rfl ?_
              refine V.sipush (pc := 22) hG dX4_placeAll_22 (by decide) ?_
              obtain ⟨t151, f152⟩ := h
              refine V.icmp_ge (pc := 25) (tgt := 44) hG hx4_11 ((sR_l rfl)) dX4_placeAll_25 (by decide) (fun c150 => ?_) (fun c150 => ?_)
              · have h := t151 c150
                clear t151 f152
                refine V.pick [0, 1, 2, 3] rfl ?_
                exact jn44 x3_2 i_11 hx3_2 hi_11 h
              · have h := f152 c150
                clear t151 f152
                refine V.aload_n (pc := 28) hG dX4_placeAll_28 rfl 0 rfl ?_
                refine V.getR (x := 472) (pc := 29) (ci := 6) (k := 2) (M := 6) (T := TX4) (o := 469) (kz := 2) hG a_469 a_469.n (by decide) hin_X4 rfl (by decide) (by decide) rfl kw_455 rfl ((hw).1 (469, 2, 472) (by decide)) (by decide) dX4_placeAll_29 ?_
                refine V.iload_n (pc := 32) hG dX4_placeAll_32 rfl 3 rfl ?_
                obtain ⟨g153, h⟩ := h
                refine V.aald (pc := 33) 7 (z := 7) (o := 472) (x := x3_2) (y := 473 + x3_2) hG a_472 a_472.n (by decide) hx3_2 g153 (hw.2.1 (472, 7, 473) (by decide) _ g153.1 g153.2) (by omega) dX4_placeAll_33 ?_
                refine V.iload (pc := 34) hG dX4_placeAll_34 4 rfl ?_
                refine V.iconst (pc := 36) hG dX4_placeAll_36 ?_
                obtain ⟨g154, h⟩ := h
                refine V.iast (pc := 37) (z := 481) (o := 473 + x3_2) hG (row_472 g153) ((row_472 g153)).n hx4_11 g154 dX4_placeAll_37 ?_
                refine V.iinc (pc := 38) (lv' := [(4, .int (sJ (wr (x4_11 + 1)))), (0, .ref (sA Δ 469)), (1, .ref (sA Δ 67)), (2, .ref (sA Δ 168)), (3, .int (sJ x3_2))]) hG dX4_placeAll_38 4 rfl (by decide) rfl ?_
                refine V.goto (pc := 41) (tgt := 11) hG dX4_placeAll_41 (by decide) ?_
                refine V.pick [1, 2, 3, 4, 0] rfl ?_
                exact ih11 (wr (x4_11 + 1)) (st i_11 (473 + x3_2) x4_11 0) ((sR_wr _)) ((okI_st hi_11 ((sR_l rfl)))) h
        refine V.pick [1, 2, 3, 4, 0] rfl ?_
        exact lp11 n146 0 i_2 ((sR_l rfl)) hi_2 h
  refine V.pick [1, 2, 3, 0] rfl ?_
  exact lp2 n110 0 i ((sR_l rfl)) hi h
set_option maxRecDepth 100000 in
set_option maxHeartbeats 4000000 in
theorem sm_X4_find (l : Launch) (Δ : Wd) {i r : MI}   {Q : MI → Prop} (hi : okI i) (hw : Wf r) (h : wp_X4_find  i r Q) : Met l yX4_find (Cond.code yX4_find cX4_find 6 none :: gW) (sRm 4 98) (sPc Δ [.ref (sA Δ 469), .ref (sA Δ 67), .ref (sA Δ 168)] i r) (sQv Δ (fun i' r' => r = r' ∧ Q i')) 0 0 (sFr Δ) := by
  refine Ct.v (by decide) rfl (Nat.le_of_ble_eq_true rfl) (fun Γ Q0 hG fin => ?_)
  have hG : okG Γ Δ l (sRm 4 98) cX4_find "Schedulary$Pace" 6 := hG
  show V Γ Δ 504 false i r 0 0 Q0 0 [(0, .ref (sA Δ 469)), (1, .ref (sA Δ 67)), (2, .ref (sA Δ 168))] []
  have jn84 : ∀  (ij84 : MI), okI ij84 → s84_X4_find ij84 r Q → V Γ Δ 504 false ij84 r 0 0 Q0 84 [] [] := by
    intro ij84 hij84 h
    exact fin dX4_find_84 hij84 hw ⟨rfl, h⟩
  refine V.aload_n (pc := 0) hG dX4_find_0 rfl 0 rfl ?_
  refine V.aload_n (pc := 1) hG dX4_find_1 rfl 0 rfl ?_
  refine V.aload_n (pc := 2) hG dX4_find_2 rfl 1 rfl ?_
  refine V.aload_n (pc := 3) hG dX4_find_3 rfl 2 rfl ?_
  refine V.callVi (pc := 4) (As := [.ref (sA Δ 67), .ref (sA Δ 168)]) (stk := [.ref (sA Δ 469)]) hG (sm_X4_findByRings l Δ  hi hw h) mY_X4_findByRings kw_788 kw_790 kw_51 a_469 (by decide) (q := (RX4, TX4, 6)) rfl rfl ⟨Nat.le_of_ble_eq_true rfl, Nat.le_of_ble_eq_true rfl, Nat.le_of_ble_eq_true rfl, Nat.le_of_ble_eq_true rfl⟩ rfl (Nat.le_of_ble_eq_true rfl) dX4_find_4 rfl (fun v1 i2 r3 hv4 hi5 hw6 hq7 => ?_)
  obtain ⟨e67, h⟩ := hq7
  subst e67
  refine V.putI (pc := 7) (ci := 6) (k := 3) (M := 6) (T := TX4) (o := 469) (kz := 3) hG a_469 a_469.n (by decide) hin_X4 rfl (by decide) (by decide) rfl kw_456 rfl tyX4 tyX4_ok nmX4 rfl (ty := tyX4 3) (tyX4_ok 3 (by decide)) rfl rfl dX4_find_7 ?_
  refine V.aload_n (pc := 10) hG dX4_find_10 rfl 0 rfl ?_
  refine V.aload_n (pc := 11) hG dX4_find_11 rfl 1 rfl ?_
  refine V.callSi (pc := 12) (As := [.ref (sA Δ 67)]) (stk := [.ref (sA Δ 469)]) hG (sm_X4_findByUnits l Δ  ((okI_st hi5 hv4)) hw h) mY_X4_findByUnits kw_805 kw_806 ⟨Nat.le_of_ble_eq_true rfl, Nat.le_of_ble_eq_true rfl, Nat.le_of_ble_eq_true rfl, Nat.le_of_ble_eq_true rfl⟩ rfl (Nat.le_of_ble_eq_true rfl) dX4_find_12 rfl (fun v8 i9 r10 hv11 hi12 hw13 hq14 => ?_)
  obtain ⟨e64, e65, h⟩ := hq14
  subst e64
  subst e65
  refine V.putI (pc := 15) (ci := 6) (k := 4) (M := 6) (T := TX4) (o := 469) (kz := 4) hG a_469 a_469.n (by decide) hin_X4 rfl (by decide) (by decide) rfl kw_458 rfl tyX4 tyX4_ok nmX4 rfl (ty := tyX4 4) (tyX4_ok 4 (by decide)) rfl rfl dX4_find_15 ?_
  refine V.aload_n (pc := 18) hG dX4_find_18 rfl 0 rfl ?_
  refine V.aload_n (pc := 19) hG dX4_find_19 rfl 0 rfl ?_
  refine V.getI (pc := 20) (ci := 6) (k := 3) (M := 6) (T := TX4) (o := 469) (kz := 3) hG a_469 a_469.n (by decide) hin_X4 rfl (by decide) (by decide) rfl kw_456 rfl dX4_find_20 ?_
  refine V.aload_n (pc := 23) hG dX4_find_23 rfl 0 rfl ?_
  refine V.getI (pc := 24) (ci := 6) (k := 4) (M := 6) (T := TX4) (o := 469) (kz := 4) hG a_469 a_469.n (by decide) hin_X4 rfl (by decide) (by decide) rfl kw_458 rfl dX4_find_24 ?_
  refine V.mmax (pc := 27) hG (((okI_st ((okI_st hi5 hv4)) hv11) _ _)) (((okI_st ((okI_st hi5 hv4)) hv11) _ _)) kw_796 kw_699 kw_121 kw_max ⟨Nat.le_of_ble_eq_true rfl, Nat.le_of_ble_eq_true rfl, Nat.le_of_ble_eq_true rfl, Nat.le_of_ble_eq_true rfl⟩ dX4_find_27 ?_
  refine V.putI (pc := 30) (ci := 6) (k := 5) (M := 6) (T := TX4) (o := 469) (kz := 5) hG a_469 a_469.n (by decide) hin_X4 rfl (by decide) (by decide) rfl kw_460 rfl tyX4 tyX4_ok nmX4 rfl (ty := tyX4 5) (tyX4_ok 5 (by decide)) rfl rfl dX4_find_30 ?_
  refine V.aload_n (pc := 33) hG dX4_find_33 rfl 0 rfl ?_
  refine V.aload_n (pc := 34) hG dX4_find_34 rfl 1 rfl ?_
  refine V.aload_n (pc := 35) hG dX4_find_35 rfl 2 rfl ?_
  refine V.callVi (pc := 36) (As := [.ref (sA Δ 67), .ref (sA Δ 168)]) (stk := []) hG (sm_X4_placeAll l Δ  ((okI_st ((okI_st ((okI_st hi5 hv4)) hv11)) ((sR_max (((okI_st ((okI_st hi5 hv4)) hv11) _ _)) (((okI_st ((okI_st hi5 hv4)) hv11) _ _)))))) hw h) mY_X4_placeAll kw_812 kw_814 kw_56 a_469 (by decide) (q := (RX4, TX4, 6)) rfl rfl ⟨Nat.le_of_ble_eq_true rfl, Nat.le_of_ble_eq_true rfl, Nat.le_of_ble_eq_true rfl, Nat.le_of_ble_eq_true rfl⟩ rfl (Nat.le_of_ble_eq_true rfl) dX4_find_36 rfl (fun v15 i16 r17 hv18 hi19 hw20 hq21 => ?_)
  obtain ⟨e63, h⟩ := hq21
  subst e63
  refine V.istore_n (pc := 39) (lv' := [(3, .int (sJ v15)), (0, .ref (sA Δ 469)), (1, .ref (sA Δ 67)), (2, .ref (sA Δ 168))]) hG dX4_find_39 rfl (by decide) rfl ?_
  refine V.aload_n (pc := 40) hG dX4_find_40 rfl 2 rfl ?_
  refine V.callVNi (pc := 41) (As := []) (stk := []) hG (sm_X0_sumOfCycles l Δ  hi19 hw h) mY_X0_sumOfCycles kw_792 kw_794 kw_52 a_67 (by decide) (q := (RX0, TX0, 5)) rfl rfl ⟨Nat.le_of_ble_eq_true rfl, Nat.le_of_ble_eq_true rfl, Nat.le_of_ble_eq_true rfl, Nat.le_of_ble_eq_true rfl⟩ rfl (Nat.le_of_ble_eq_true rfl) dX4_find_41 rfl (fun v22 i23 r24 hv25 hi26 hw27 hq28 => ?_)
  obtain ⟨e60, e61, h⟩ := hq28
  subst e60
  subst e61
  refine V.istore (pc := 44) (lv' := [(4, .int (sJ v22)), (3, .int (sJ v15)), (0, .ref (sA Δ 469)), (1, .ref (sA Δ 67)), (2, .ref (sA Δ 168))]) hG dX4_find_44 (by decide) rfl ?_
  refine V.aload_n (pc := 46) hG dX4_find_46 rfl 2 rfl ?_
  refine V.getI (pc := 47) (ci := 6) (k := 5) (M := 6) (T := TX4) (o := 469) (kz := 5) hG a_469 a_469.n (by decide) hin_X4 rfl (by decide) (by decide) rfl kw_460 rfl dX4_find_47 ?_
  refine V.iconst (pc := 50) hG dX4_find_50 ?_
  refine V.iadd (pc := 51) hG dX4_find_51 ?_
  refine V.istore (pc := 52) (lv' := [(5, .int (sJ (wr (i16 469 5 + 1)))), (4, .int (sJ v22)), (3, .int (sJ v15)), (0, .ref (sA Δ 469)), (1, .ref (sA Δ 67)), (2, .ref (sA Δ 168))]) hG dX4_find_52 (by decide) rfl ?_
  obtain ⟨n44, h⟩ := h
  have lp54 : ∀ (m54 : Nat) (x3_54 : Int) (x5_54 : Int) (i_54 : MI), sR x3_54 → sR x5_54 → okI i_54 → LoopP (b54_X4_find v22 r Q) m54 (x3_54, x5_54, i_54) → V Γ Δ 504 false i_54 r 0 0 Q0 54 [(0, .ref (sA Δ 469)), (1, .ref (sA Δ 67)), (2, .ref (sA Δ 168)), (3, .int (sJ x3_54)), (4, .int (sJ v22)), (5, .int (sJ x5_54))] [] := by
    intro m54
    induction m54 with
    | zero => intro x3_54 x5_54 i_54 hx3_54 hx5_54 hi_54 h; exact h.elim
    | succ m54 ih54 =>
      intro x3_54 x5_54 i_54 hx3_54 hx5_54 hi_54 h
      have h := LoopP_succ h
      refine V.iload (pc := 54) hG dX4_find_54 5 rfl ?_
      refine V.iload (pc := 56) hG dX4_find_56 4 rfl ?_
      obtain ⟨t46, f47⟩ := h
      refine V.icmp_gt (pc := 58) (tgt := 84) hG hx5_54 hv25 dX4_find_58 (by decide) (fun c45 => ?_) (fun c45 => ?_)
      · have h := t46 c45
        clear t46 f47
        refine V.pick [] rfl ?_
        exact jn84 i_54 hi_54 h
      · have h := f47 c45
        clear t46 f47
        refine V.iload_n (pc := 61) hG dX4_find_61 rfl 3 rfl ?_
        obtain ⟨f50, t49⟩ := h
        refine V.if_ne (pc := 62) (tgt := 84) hG hx3_54 dX4_find_62 (by decide) (fun c48 => ?_) (fun c48 => ?_)
        · have h := t49 c48
          clear t49 f50
          refine V.pick [] rfl ?_
          exact jn84 i_54 hi_54 h
        · have h := f50 c48
          clear t49 f50
          refine V.aload_n (pc := 65) hG dX4_find_65 rfl 0 rfl ?_
          refine V.iload (pc := 66) hG dX4_find_66 5 rfl ?_
          refine V.putI (pc := 68) (ci := 6) (k := 5) (M := 6) (T := TX4) (o := 469) (kz := 5) hG a_469 a_469.n (by decide) hin_X4 rfl (by decide) (by decide) rfl kw_460 rfl tyX4 tyX4_ok nmX4 rfl (ty := tyX4 5) (tyX4_ok 5 (by decide)) rfl rfl dX4_find_68 ?_
          refine V.aload_n (pc := 71) hG dX4_find_71 rfl 0 rfl ?_
          refine V.aload_n (pc := 72) hG dX4_find_72 rfl 1 rfl ?_
          refine V.aload_n (pc := 73) hG dX4_find_73 rfl 2 rfl ?_
          refine V.callVi (pc := 74) (As := [.ref (sA Δ 67), .ref (sA Δ 168)]) (stk := []) hG (sm_X4_placeAll l Δ  ((okI_st hi_54 hx5_54)) hw h) mY_X4_placeAll kw_812 kw_814 kw_56 a_469 (by decide) (q := (RX4, TX4, 6)) rfl rfl ⟨Nat.le_of_ble_eq_true rfl, Nat.le_of_ble_eq_true rfl, Nat.le_of_ble_eq_true rfl, Nat.le_of_ble_eq_true rfl⟩ rfl (Nat.le_of_ble_eq_true rfl) dX4_find_74 rfl (fun v51 i52 r53 hv54 hi55 hw56 hq57 => ?_)
          obtain ⟨e59, h⟩ := hq57
          subst e59
          refine V.istore_n (pc := 77) (lv' := [(3, .int (sJ v51)), (0, .ref (sA Δ 469)), (1, .ref (sA Δ 67)), (2, .ref (sA Δ 168)), (4, .int (sJ v22)), (5, .int (sJ x5_54))]) hG dX4_find_77 rfl (by decide) rfl ?_
          refine V.iinc (pc := 78) (lv' := [(5, .int (sJ (wr (x5_54 + 1)))), (3, .int (sJ v51)), (0, .ref (sA Δ 469)), (1, .ref (sA Δ 67)), (2, .ref (sA Δ 168)), (4, .int (sJ v22))]) hG dX4_find_78 5 rfl (by decide) rfl ?_
          refine V.goto (pc := 81) (tgt := 54) hG dX4_find_81 (by decide) ?_
          refine V.pick [2, 3, 4, 1, 5, 0] rfl ?_
          exact ih54 v51 (wr (x5_54 + 1)) i52 hv54 ((sR_wr _)) hi55 h
  refine V.pick [3, 4, 5, 2, 1, 0] rfl ?_
  exact lp54 n44 v15 (wr (i16 469 5 + 1)) i16 hv18 ((sR_wr _)) hi19 h
set_option maxRecDepth 100000 in
set_option maxHeartbeats 4000000 in
theorem sm_X9_beginAt (l : Launch) (Δ : Wd) {i r : MI} {p3 : Int} {p4 : Int} (hp3 : sR p3) (hp4 : sR p4) {Q : MI → Prop} (hi : okI i) (hw : Wf r) (h : wp_X9_beginAt p3 p4 i r Q) : Met l yX9_beginAt (Cond.code yX9_beginAt cX9_beginAt 7 none :: gW) (sRm 1 15) (sPc Δ [.ref (sA Δ 461), .ref (sA Δ 67), .ref (sA Δ 168), .int (sJ p3), .int (sJ p4)] i r) (sQv Δ (fun i' r' => r = r' ∧ Q i')) 0 0 (sFr Δ) := by
  refine Ct.v (by decide) rfl (Nat.le_of_ble_eq_true rfl) (fun Γ Q0 hG fin => ?_)
  have hG : okG Γ Δ l (sRm 1 15) cX9_beginAt "Schedulary$Steps" 7 := hG
  show V Γ Δ 504 false i r 0 0 Q0 0 [(0, .ref (sA Δ 461)), (1, .ref (sA Δ 67)), (2, .ref (sA Δ 168)), (3, .int (sJ p3)), (4, .int (sJ p4))] []
  refine V.aload_n (pc := 0) hG dX9_beginAt_0 rfl 0 rfl ?_
  refine V.getR (x := 464) (pc := 1) (ci := 11) (k := 2) (M := 7) (T := TX9) (o := 461) (kz := 2) hG a_461 a_461.n (by decide) hin_X9 rfl (by decide) (by decide) rfl kw_423 rfl ((hw).1 (461, 2, 464) (by decide)) (by decide) dX9_beginAt_1 ?_
  refine V.iload_n (pc := 4) hG dX9_beginAt_4 rfl 3 rfl ?_
  refine V.iload (pc := 5) hG dX9_beginAt_5 4 rfl ?_
  obtain ⟨g1, h⟩ := h
  refine V.iast (pc := 7) (z := 96) (o := 464) hG a_464 a_464.n hp3 g1 dX9_beginAt_7 ?_
  refine V.aload_n (pc := 8) hG dX9_beginAt_8 rfl 0 rfl ?_
  refine V.getR (x := 467) (pc := 9) (ci := 11) (k := 5) (M := 7) (T := TX9) (o := 461) (kz := 5) hG a_461 a_461.n (by decide) hin_X9 rfl (by decide) (by decide) rfl kw_427 rfl ((hw).1 (461, 5, 467) (by decide)) (by decide) dX9_beginAt_9 ?_
  refine V.aload_n (pc := 12) hG dX9_beginAt_12 rfl 1 rfl ?_
  refine V.getRN (x := 68) (pc := 13) (ci := 2) (k := 0) (M := 5) (T := TX0) (o := 67) (kz := 0) hG a_67 a_67.n (by decide) hin_X0 rfl (by decide) (by decide) rfl kw_353 rfl ((hw).1 (67, 0, 68) (by decide)) (by decide) dX9_beginAt_13 ?_
  refine V.iload_n (pc := 16) hG dX9_beginAt_16 rfl 3 rfl ?_
  obtain ⟨g2, h⟩ := h
  refine V.aald (pc := 17) 6 (z := 96) (o := 68) (x := p3) (y := 72 + p3) hG a_68 a_68.n (by decide) hp3 g2 (hw.2.1 (68, 96, 72) (by decide) _ g2.1 g2.2) (by omega) dX9_beginAt_17 ?_
  refine V.getIN (pc := 18) (ci := 5) (k := 3) (M := 13) (T := TX3) (o := 72 + p3) (kz := 3) hG (node_o g2.1 g2.2) ((node_o g2.1 g2.2)).n (by decide) hin_X3 rfl (by decide) (by decide) rfl kw_291 rfl dX9_beginAt_18 ?_
  refine V.dup2 (pc := 21) hG dX9_beginAt_21 rfl rfl ?_
  obtain ⟨g3, h⟩ := h
  refine V.iald (pc := 22) (z := 7) (o := 467) hG a_467 a_467.n (((okI_st hi hp4) _ _)) g3 dX9_beginAt_22 ?_
  refine V.iconst (pc := 23) hG dX9_beginAt_23 ?_
  refine V.iadd (pc := 24) hG dX9_beginAt_24 ?_
  obtain ⟨g4, h⟩ := h
  refine V.iast (pc := 25) (z := 7) (o := 467) hG a_467 a_467.n (((okI_st hi hp4) _ _)) g4 dX9_beginAt_25 ?_
  refine V.iconst (pc := 26) hG dX9_beginAt_26 ?_
  refine V.istore (pc := 27) (lv' := [(5, .int (sJ 0)), (0, .ref (sA Δ 461)), (1, .ref (sA Δ 67)), (2, .ref (sA Δ 168)), (3, .int (sJ p3)), (4, .int (sJ p4))]) hG dX9_beginAt_27 (by decide) rfl ?_
  obtain ⟨n22, h⟩ := h
  have lp29 : ∀ (m29 : Nat) (x5_29 : Int) (i_29 : MI), sR x5_29 → okI i_29 → LoopP (b29_X9_beginAt p3 p4 r Q) m29 (x5_29, i_29) → V Γ Δ 504 false i_29 r 0 0 Q0 29 [(0, .ref (sA Δ 461)), (2, .ref (sA Δ 168)), (3, .int (sJ p3)), (4, .int (sJ p4)), (5, .int (sJ x5_29))] [] := by
    intro m29
    induction m29 with
    | zero => intro x5_29 i_29 hx5_29 hi_29 h; exact h.elim
    | succ m29 ih29 =>
      intro x5_29 i_29 hx5_29 hi_29 h
      have h := LoopP_succ h
      have jn103 : ∀ (x5j103 : Int) (ij103 : MI), sR x5j103 → okI ij103 → s103_X9_beginAt p3 p4 x5j103 ij103 r Q (LoopP (b29_X9_beginAt p3 p4 r Q) m29) → V Γ Δ 504 false ij103 r 0 0 Q0 103 [(0, .ref (sA Δ 461)), (2, .ref (sA Δ 168)), (3, .int (sJ p3)), (4, .int (sJ p4)), (5, .int (sJ x5j103))] [] := by
        intro x5j103 ij103 hx5j103 hij103 h
        refine V.iinc (pc := 103) (lv' := [(5, .int (sJ (wr (x5j103 + 1)))), (0, .ref (sA Δ 461)), (2, .ref (sA Δ 168)), (3, .int (sJ p3)), (4, .int (sJ p4))]) hG dX9_beginAt_103 4 rfl (by decide) rfl ?_
        refine V.goto (pc := 106) (tgt := 29) hG dX9_beginAt_106 (by decide) ?_
        refine V.pick [1, 2, 3, 4, 0] rfl ?_
        exact ih29 (wr (x5j103 + 1)) ij103 ((sR_wr _)) hij103 h
      refine V.iload (pc := 29) hG dX9_beginAt_29 4 rfl ?_
      refine V.aload_n (pc := 31) hG dX9_beginAt_31 rfl 1 rfl ?_
      refine V.getRN (x := 460) (pc := 32) (ci := 4) (k := 3) (M := 5) (T := TX2) (o := 168) (kz := 3) hG a_168 a_168.n (by decide) hin_X2 rfl (by decide) (by decide) rfl kw_398 rfl ((hw).1 (168, 3, 460) (by decide)) (by decide) dX9_beginAt_32 ?_
      refine V.iload_n (pc := 35) hG dX9_beginAt_35 rfl 2 rfl ?_
      obtain ⟨g23, h⟩ := h
      refine V.iald (pc := 36) (z := 96) (o := 460) hG a_460 a_460.n hp3 g23 dX9_beginAt_36 ?_
      obtain ⟨t25, f26⟩ := h
      refine V.icmp_ge (pc := 37) (tgt := 109) hG hx5_29 ((hi_29 _ _)) dX9_beginAt_37 (by decide) (fun c24 => ?_) (fun c24 => ?_)
      · have h := t25 c24
        clear t25 f26
        exact fin dX9_beginAt_109 hi_29 hw ⟨rfl, h⟩
      · have h := f26 c24
        clear t25 f26
        refine V.aload_n (pc := 40) hG dX9_beginAt_40 rfl 1 rfl ?_
        refine V.getRN (x := 266) (pc := 41) (ci := 4) (k := 1) (M := 5) (T := TX2) (o := 168) (kz := 1) hG a_168 a_168.n (by decide) hin_X2 rfl (by decide) (by decide) rfl kw_391 rfl ((hw).1 (168, 1, 266) (by decide)) (by decide) dX9_beginAt_41 ?_
        refine V.iload_n (pc := 44) hG dX9_beginAt_44 rfl 2 rfl ?_
        obtain ⟨g27, h⟩ := h
        refine V.aald (pc := 45) 7 (z := 96) (o := 266) (x := p3) (y := 267 + p3) hG a_266 a_266.n (by decide) hp3 g27 (hw.2.1 (266, 96, 267) (by decide) _ g27.1 g27.2) (by omega) dX9_beginAt_45 ?_
        refine V.iload (pc := 46) hG dX9_beginAt_46 4 rfl ?_
        obtain ⟨g28, h⟩ := h
        refine V.iald (pc := 48) (z := 100) (o := 267 + p3) hG (row_266 g27) ((row_266 g27)).n hx5_29 g28 dX9_beginAt_48 ?_
        obtain ⟨f31, t30⟩ := h
        refine V.if_ne (pc := 49) (tgt := 103) hG ((hi_29 _ _)) dX9_beginAt_49 (by decide) (fun c29 => ?_) (fun c29 => ?_)
        · have h := t30 c29
          clear t30 f31
          exact jn103 x5_29 i_29 hx5_29 hi_29 h
        · have h := f31 c29
          clear t30 f31
          refine V.aload_n (pc := 52) hG dX9_beginAt_52 rfl 1 rfl ?_
          refine V.getRN (x := 169) (pc := 53) (ci := 4) (k := 0) (M := 5) (T := TX2) (o := 168) (kz := 0) hG a_168 a_168.n (by decide) hin_X2 rfl (by decide) (by decide) rfl kw_388 rfl ((hw).1 (168, 0, 169) (by decide)) (by decide) dX9_beginAt_53 ?_
          refine V.iload_n (pc := 56) hG dX9_beginAt_56 rfl 2 rfl ?_
          obtain ⟨g32, h⟩ := h
          refine V.aald (pc := 57) 7 (z := 96) (o := 169) (x := p3) (y := 170 + p3) hG a_169 a_169.n (by decide) hp3 g32 (hw.2.1 (169, 96, 170) (by decide) _ g32.1 g32.2) (by omega) dX9_beginAt_57 ?_
          refine V.iload (pc := 58) hG dX9_beginAt_58 4 rfl ?_
          obtain ⟨g33, h⟩ := h
          refine V.iald (pc := 60) (z := 100) (o := 170 + p3) hG (row_169 g32) ((row_169 g32)).n hx5_29 g33 dX9_beginAt_60 ?_
          refine V.istore (pc := 61) (lv' := [(6, .int (sJ (i_29 (170 + p3) x5_29))), (0, .ref (sA Δ 461)), (2, .ref (sA Δ 168)), (3, .int (sJ p3)), (4, .int (sJ p4)), (5, .int (sJ x5_29))]) hG dX9_beginAt_61 (by decide) rfl ?_
          refine V.aload_n (pc := 63) hG dX9_beginAt_63 rfl 1 rfl ?_
          refine V.getR (x := 466) (pc := 64) (ci := 11) (k := 4) (M := 7) (T := TX9) (o := 461) (kz := 4) hG a_461 a_461.n (by decide) hin_X9 rfl (by decide) (by decide) rfl kw_426 rfl ((hw).1 (461, 4, 466) (by decide)) (by decide) dX9_beginAt_64 ?_
          refine V.iload (pc := 67) hG dX9_beginAt_67 0 rfl ?_
          refine V.dup2 (pc := 69) hG dX9_beginAt_69 rfl rfl ?_
          obtain ⟨g34, h⟩ := h
          refine V.iald (pc := 70) (z := 96) (o := 466) hG a_466 a_466.n ((hi_29 _ _)) g34 dX9_beginAt_70 ?_
          refine V.iconst (pc := 71) hG dX9_beginAt_71 ?_
          refine V.isub (pc := 72) hG dX9_beginAt_72 ?_
          obtain ⟨g35, h⟩ := h
          refine V.iast (pc := 73) (z := 96) (o := 466) hG a_466 a_466.n ((hi_29 _ _)) g35 dX9_beginAt_73 ?_
          refine V.aload_n (pc := 74) hG dX9_beginAt_74 rfl 1 rfl ?_
          refine V.getR (x := 465) (pc := 75) (ci := 11) (k := 3) (M := 7) (T := TX9) (o := 461) (kz := 3) hG a_461 a_461.n (by decide) hin_X9 rfl (by decide) (by decide) rfl kw_425 rfl ((hw).1 (461, 3, 465) (by decide)) (by decide) dX9_beginAt_75 ?_
          refine V.iload (pc := 78) hG dX9_beginAt_78 0 rfl ?_
          refine V.aload_n (pc := 80) hG dX9_beginAt_80 rfl 1 rfl ?_
          refine V.getR (x := 465) (pc := 81) (ci := 11) (k := 3) (M := 7) (T := TX9) (o := 461) (kz := 3) hG a_461 a_461.n (by decide) hin_X9 rfl (by decide) (by decide) rfl kw_425 rfl ((hw).1 (461, 3, 465) (by decide)) (by decide) dX9_beginAt_81 ?_
          refine V.iload (pc := 84) hG dX9_beginAt_84 0 rfl ?_
          obtain ⟨g36, h⟩ := h
          refine V.iald (pc := 86) (z := 96) (o := 465) hG a_465 a_465.n ((hi_29 _ _)) g36 dX9_beginAt_86 ?_
          refine V.iload (pc := 87) hG dX9_beginAt_87 4 rfl ?_
          refine V.aload_n (pc := 89) hG dX9_beginAt_89 rfl 2 rfl ?_
          refine V.getRN (x := 363) (pc := 90) (ci := 4) (k := 2) (M := 5) (T := TX2) (o := 168) (kz := 2) hG a_168 a_168.n (by decide) hin_X2 rfl (by decide) (by decide) rfl kw_394 rfl ((hw).1 (168, 2, 363) (by decide)) (by decide) dX9_beginAt_90 ?_
          refine V.iload_n (pc := 93) hG dX9_beginAt_93 rfl 3 rfl ?_
          obtain ⟨g37, h⟩ := h
          refine V.aald (pc := 94) 7 (z := 96) (o := 363) (x := p3) (y := 364 + p3) hG a_363 a_363.n (by decide) hp3 g37 (hw.2.1 (363, 96, 364) (by decide) _ g37.1 g37.2) (by omega) dX9_beginAt_94 ?_
          refine V.iload (pc := 95) hG dX9_beginAt_95 5 rfl ?_
          obtain ⟨g38, h⟩ := h
          refine V.iald (pc := 97) (z := 100) (o := 364 + p3) hG (row_363 g37) ((row_363 g37)).n hx5_29 g38 dX9_beginAt_97 ?_
          refine V.iadd (pc := 98) hG dX9_beginAt_98 ?_
          refine V.mmax (pc := 99) hG (((okI_st hi_29 ((sR_wr _))) _ _)) ((sR_wr _)) kw_751 kw_699 kw_121 kw_max ⟨Nat.le_of_ble_eq_true rfl, Nat.le_of_ble_eq_true rfl, Nat.le_of_ble_eq_true rfl, Nat.le_of_ble_eq_true rfl⟩ dX9_beginAt_99 ?_
          obtain ⟨g39, h⟩ := h
          refine V.iast (pc := 102) (z := 96) (o := 465) hG a_465 a_465.n ((hi_29 _ _)) g39 dX9_beginAt_102 ?_
          refine V.pick [1, 2, 3, 4, 5] rfl ?_
          exact jn103 x5_29 (st (st i_29 466 (i_29 (170 + p3) x5_29) (wr (i_29 466 (i_29 (170 + p3) x5_29) - 1))) 465 (i_29 (170 + p3) x5_29) (max ((st i_29 466 (i_29 (170 + p3) x5_29) (wr (i_29 466 (i_29 (170 + p3) x5_29) - 1))) 465 (i_29 (170 + p3) x5_29)) (wr (p4 + (st i_29 466 (i_29 (170 + p3) x5_29) (wr (i_29 466 (i_29 (170 + p3) x5_29) - 1))) (364 + p3) x5_29)))) hx5_29 ((okI_st ((okI_st hi_29 ((sR_wr _)))) ((sR_max (((okI_st hi_29 ((sR_wr _))) _ _)) ((sR_wr _)))))) h
  refine V.pick [1, 3, 4, 5, 0] rfl ?_
  exact lp29 n22 0 (st (st i 464 p3 p4) 467 ((st i 464 p3 p4) (72 + p3) 3) (wr ((st i 464 p3 p4) 467 ((st i 464 p3 p4) (72 + p3) 3) + 1))) ((sR_l rfl)) ((okI_st ((okI_st hi hp4)) ((sR_wr _)))) h
