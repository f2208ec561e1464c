set_option maxRecDepth 100000 in
set_option maxHeartbeats 4000000 in
theorem sm_X12_rings (l : Launch) (Δ : Wd) {i r : MI}   {Q : Int → MI → Prop} (hi : okI i) (hw : Wf r) (h : wp_X12_rings  i r Q) : Met l yX12_rings (Cond.code yX12_rings cX12_rings 2 (some .int) :: gW) (sRm 1 25) (sPc Δ [.ref (sA Δ 504)] i r) (sQi Δ (fun x i' r' => r = r' ∧ Q x i')) 0 0 (sFr Δ) := by
  refine Ct.i (ty := .int) (by decide) rfl (Nat.le_of_ble_eq_true rfl) (fun Γ Q0 hG fin => ?_)
  have hG : okG Γ Δ l (sRm 1 25) cX12_rings "SchedularyModel" 2 := hG
  show V Γ Δ 542 false i r 0 0 Q0 0 [(0, .ref (sA Δ 504))] []
  refine V.iconst (pc := 0) hG dX12_rings_0 ?_
  refine V.istore_n (pc := 1) (lv' := [(1, .int (sJ 1)), (0, .ref (sA Δ 504))]) hG dX12_rings_1 rfl (by decide) rfl ?_
  obtain ⟨n13, h⟩ := h
  have lp2 : ∀ (m2 : Nat) (x1_2 : Int) (i_2 : MI), sR x1_2 → okI i_2 → LoopP (b2_X12_rings r Q) m2 (x1_2, i_2) → V Γ Δ 542 false i_2 r 0 0 Q0 2 [(0, .ref (sA Δ 504)), (1, .int (sJ x1_2))] [] := by
    intro m2
    induction m2 with
    | zero => intro x1_2 i_2 hx1_2 hi_2 h; exact h.elim
    | succ m2 ih2 =>
      intro x1_2 i_2 hx1_2 hi_2 h
      have h := LoopP_succ h
      simp only [b2_X12_rings] at h
      refine V.aload_n (pc := 2) hG dX12_rings_2 rfl 0 rfl ?_
      refine V.iload_n (pc := 3) hG dX12_rings_3 rfl 1 rfl ?_
      refine V.callVi (pc := 4) (As := [.int (sJ x1_2)]) (stk := []) hG (sm_X12_hasRing l Δ hx1_2 hi_2 hw h) mY_X12_hasRing kw_2133 kw_2135 kw_142 a_504 (by decide) (q := (RX12, TX12, 49)) rfl rfl ⟨Nat.le_of_ble_eq_true rfl, Nat.le_of_ble_eq_true rfl, Nat.le_of_ble_eq_true rfl, Nat.le_of_ble_eq_true rfl⟩ rfl (Nat.le_of_ble_eq_true rfl) dX12_rings_4 rfl (fun v14 i15 r16 hv17 hi18 hw19 hq20 => ?_)
      obtain ⟨e25, h⟩ := hq20
      subst e25
      obtain ⟨t22, f23⟩ := h
      refine V.if_eq (pc := 7) (tgt := 16) hG hv17 dX12_rings_7 (by decide) (fun c21 => ?_) (fun c21 => ?_)
      · have h := t22 c21
        clear t22 f23
        refine V.iload_n (pc := 16) hG dX12_rings_16 rfl 1 rfl ?_
        exact fin dX12_rings_17 hx1_2 rfl hi18 hw ⟨rfl, h⟩
      · have h := f23 c21
        clear t22 f23
        refine V.iinc (pc := 10) (lv' := [(1, .int (sJ (wr (x1_2 + 1)))), (0, .ref (sA Δ 504))]) hG dX12_rings_10 1 rfl (by decide) rfl ?_
        refine V.goto (pc := 13) (tgt := 2) hG dX12_rings_13 (by decide) ?_
        refine V.pick [1, 0] rfl ?_
        exact ih2 (wr (x1_2 + 1)) i15 ((sR_wr _)) hi18 h
  refine V.pick [1, 0] rfl ?_
  exact lp2 n13 1 i ((sR_l rfl)) hi h
set_option maxRecDepth 100000 in
set_option maxHeartbeats 4000000 in
theorem sm_X12_needs (l : Launch) (Δ : Wd) {i r : MI} {p1 : Int} (hp1 : sR p1) {Q : Int → Prop} (hi : okI i) (hw : Wf r) (h : wp_X12_needs p1 i r Q) : Met l yX12_needs (Cond.code yX12_needs cX12_needs 4 (some .int) :: gW) (sRm 0 0) (sPc Δ [.ref (sA Δ 504), .int (sJ p1)] i r) (sQi Δ (fun x i' r' => i = i' ∧ r = r' ∧ Q x)) 0 0 (sFr Δ) := by
  refine Ct.i (ty := .int) (by decide) rfl (Nat.le_of_ble_eq_true rfl) (fun Γ Q0 hG fin => ?_)
  have hG : okG Γ Δ l (sRm 0 0) cX12_needs "SchedularyModel" 4 := hG
  show V Γ Δ 542 false i r 0 0 Q0 0 [(0, .ref (sA Δ 504)), (1, .int (sJ p1))] []
  refine V.iconst (pc := 0) hG dX12_needs_0 ?_
  refine V.istore_n (pc := 1) (lv' := [(2, .int (sJ 0)), (0, .ref (sA Δ 504)), (1, .int (sJ p1))]) hG dX12_needs_1 rfl (by decide) rfl ?_
  refine V.iconst (pc := 2) hG dX12_needs_2 ?_
  refine V.istore_n (pc := 3) (lv' := [(3, .int (sJ 0)), (2, .int (sJ 0)), (0, .ref (sA Δ 504)), (1, .int (sJ p1))]) hG dX12_needs_3 rfl (by decide) rfl ?_
  obtain ⟨n11, h⟩ := h
  have lp4 : ∀ (m4 : Nat) (x2_4 : Int) (x3_4 : Int), sR x2_4 → sR x3_4 → LoopP (b4_X12_needs p1 i r Q) m4 (x2_4, x3_4) → V Γ Δ 542 false i r 0 0 Q0 4 [(0, .ref (sA Δ 504)), (1, .int (sJ p1)), (2, .int (sJ x2_4)), (3, .int (sJ x3_4))] [] := by
    intro m4
    induction m4 with
    | zero => intro x2_4 x3_4 hx2_4 hx3_4 h; exact h.elim
    | succ m4 ih4 =>
      intro x2_4 x3_4 hx2_4 hx3_4 h
      have h := LoopP_succ h
      have jn28 : ∀ (x3j28 : Int) (k0j28 : Int) (k1j28 : Int), sR x3j28 → sR k0j28 → sR k1j28 → s28_X12_needs p1 x3j28 k0j28 k1j28 i r Q (LoopP (b4_X12_needs p1 i r Q) m4) → V Γ Δ 542 false i r 0 0 Q0 28 [(0, .ref (sA Δ 504)), (1, .int (sJ p1)), (3, .int (sJ x3j28))] [.int (sJ k1j28), .int (sJ k0j28)] := by
        intro x3j28 k0j28 k1j28 hx3j28 hk0j28 hk1j28 h
        refine V.iadd (pc := 28) hG dX12_needs_28 ?_
        refine V.istore_n (pc := 29) (lv' := [(2, .int (sJ (wr (k0j28 + k1j28)))), (0, .ref (sA Δ 504)), (1, .int (sJ p1)), (3, .int (sJ x3j28))]) hG dX12_needs_29 rfl (by decide) rfl ?_
        refine V.iinc (pc := 30) (lv' := [(3, .int (sJ (wr (x3j28 + 1)))), (2, .int (sJ (wr (k0j28 + k1j28)))), (0, .ref (sA Δ 504)), (1, .int (sJ p1))]) hG dX12_needs_30 3 rfl (by decide) rfl ?_
        refine V.goto (pc := 33) (tgt := 4) hG dX12_needs_33 (by decide) ?_
        refine V.pick [2, 3, 1, 0] rfl ?_
        exact ih4 (wr (k0j28 + k1j28)) (wr (x3j28 + 1)) ((sR_wr _)) ((sR_wr _)) h
      refine V.iload_n (pc := 4) hG dX12_needs_4 rfl 3 rfl ?_
      refine V.aload_n (pc := 5) hG dX12_needs_5 rfl 0 rfl ?_
      refine V.getI (pc := 6) (ci := 14) (k := 21) (M := 49) (T := TX12) (o := 504) (kz := 21) hG a_504 a_504.n (by decide) hin_X12 rfl (by decide) (by decide) rfl kw_1713 rfl dX12_needs_6 ?_
      obtain ⟨t13, f14⟩ := h
      refine V.icmp_ge (pc := 9) (tgt := 36) hG hx3_4 ((hi _ _)) dX12_needs_9 (by decide) (fun c12 => ?_) (fun c12 => ?_)
      · have h := t13 c12
        clear t13 f14
        refine V.iload_n (pc := 36) hG dX12_needs_36 rfl 2 rfl ?_
        refine V.aload_n (pc := 37) hG dX12_needs_37 rfl 0 rfl ?_
        refine V.getR (x := 510) (pc := 38) (ci := 14) (k := 14) (M := 49) (T := TX12) (o := 504) (kz := 14) hG a_504 a_504.n (by decide) hin_X12 rfl (by decide) (by decide) rfl kw_1706 rfl ((hw).1 (504, 14, 510) (by decide)) (by decide) dX12_needs_38 ?_
        refine V.iload_n (pc := 41) hG dX12_needs_41 rfl 1 rfl ?_
        obtain ⟨g15, h⟩ := h
        refine V.iald (pc := 42) (z := 7) (o := 510) hG a_510 a_510.n hp1 g15 dX12_needs_42 ?_
        refine V.iadd (pc := 43) hG dX12_needs_43 ?_
        refine V.iconst (pc := 44) hG dX12_needs_44 ?_
        refine V.isub (pc := 45) hG dX12_needs_45 ?_
        refine V.aload_n (pc := 46) hG dX12_needs_46 rfl 0 rfl ?_
        refine V.getR (x := 510) (pc := 47) (ci := 14) (k := 14) (M := 49) (T := TX12) (o := 504) (kz := 14) hG a_504 a_504.n (by decide) hin_X12 rfl (by decide) (by decide) rfl kw_1706 rfl ((hw).1 (504, 14, 510) (by decide)) (by decide) dX12_needs_47 ?_
        refine V.iload_n (pc := 50) hG dX12_needs_50 rfl 1 rfl ?_
        obtain ⟨g16, h⟩ := h
        refine V.iald (pc := 51) (z := 7) (o := 510) hG a_510 a_510.n hp1 g16 dX12_needs_51 ?_
        obtain ⟨g17, h⟩ := h
        refine V.idiv (pc := 52) hG ((sR_wr _)) ((hi _ _)) g17 dX12_needs_52 ?_
        exact fin dX12_needs_53 ((sR_wr _)) rfl hi hw ⟨rfl, rfl, h⟩
      · have h := f14 c12
        clear t13 f14
        refine V.iload_n (pc := 12) hG dX12_needs_12 rfl 2 rfl ?_
        refine V.aload_n (pc := 13) hG dX12_needs_13 rfl 0 rfl ?_
        refine V.getR (x := 517) (pc := 14) (ci := 14) (k := 24) (M := 49) (T := TX12) (o := 504) (kz := 24) hG a_504 a_504.n (by decide) hin_X12 rfl (by decide) (by decide) rfl kw_1716 rfl ((hw).1 (504, 24, 517) (by decide)) (by decide) dX12_needs_14 ?_
        refine V.iload_n (pc := 17) hG dX12_needs_17 rfl 3 rfl ?_
        obtain ⟨g18, h⟩ := h
        refine V.iald (pc := 18) (z := 96) (o := 517) hG a_517 a_517.n hx3_4 g18 dX12_needs_18 ?_
        refine V.iload_n (pc := 19) hG dX12_needs_19 rfl 1 rfl ?_
        obtain ⟨f21, t20⟩ := h
        refine V.icmp_ne (pc := 20) (tgt := 27) hG ((hi _ _)) hp1 dX12_needs_20 (by decide) (fun c19 => ?_) (fun c19 => ?_)
        · have h := t20 c19
          clear t20 f21
          refine V.iconst (pc := 27) hG dX12_needs_27 ?_
          refine V.pick [0, 1, 3] rfl ?_
          exact jn28 x3_4 x2_4 0 hx3_4 hx2_4 ((sR_l rfl)) h
        · have h := f21 c19
          clear t20 f21
          refine V.iconst (pc := 23) hG dX12_needs_23 ?_
          refine V.goto (pc := 24) (tgt := 28) hG dX12_needs_24 (by decide) ?_
          refine V.pick [0, 1, 3] rfl ?_
          exact jn28 x3_4 x2_4 1 hx3_4 hx2_4 ((sR_l rfl)) h
  refine V.pick [2, 3, 1, 0] rfl ?_
  exact lp4 n11 0 0 ((sR_l rfl)) ((sR_l rfl)) h
set_option maxRecDepth 100000 in
set_option maxHeartbeats 4000000 in
theorem sm_X12_byAllUnits (l : Launch) (Δ : Wd) {i r : MI}   {Q : Int → Prop} (hi : okI i) (hw : Wf r) (h : wp_X12_byAllUnits  i r Q) : Met l yX12_byAllUnits (Cond.code yX12_byAllUnits cX12_byAllUnits 3 (some .int) :: gW) (sRm 1 23) (sPc Δ [.ref (sA Δ 504)] i r) (sQi Δ (fun x i' r' => i = i' ∧ r = r' ∧ Q x)) 0 0 (sFr Δ) := by
  refine Ct.i (ty := .int) (by decide) rfl (Nat.le_of_ble_eq_true rfl) (fun Γ Q0 hG fin => ?_)
  have hG : okG Γ Δ l (sRm 1 23) cX12_byAllUnits "SchedularyModel" 3 := hG
  show V Γ Δ 542 false i r 0 0 Q0 0 [(0, .ref (sA Δ 504))] []
  refine V.iconst (pc := 0) hG dX12_byAllUnits_0 ?_
  refine V.istore_n (pc := 1) (lv' := [(1, .int (sJ 1)), (0, .ref (sA Δ 504))]) hG dX12_byAllUnits_1 rfl (by decide) rfl ?_
  refine V.iconst (pc := 2) hG dX12_byAllUnits_2 ?_
  refine V.istore_n (pc := 3) (lv' := [(2, .int (sJ 0)), (1, .int (sJ 1)), (0, .ref (sA Δ 504))]) hG dX12_byAllUnits_3 rfl (by decide) rfl ?_
  obtain ⟨n13, h⟩ := h
  have lp4 : ∀ (m4 : Nat) (x1_4 : Int) (x2_4 : Int), sR x1_4 → sR x2_4 → LoopP (b4_X12_byAllUnits i r Q) m4 (x1_4, x2_4) → V Γ Δ 542 false i r 0 0 Q0 4 [(0, .ref (sA Δ 504)), (1, .int (sJ x1_4)), (2, .int (sJ x2_4))] [] := by
    intro m4
    induction m4 with
    | zero => intro x1_4 x2_4 hx1_4 hx2_4 h; exact h.elim
    | succ m4 ih4 =>
      intro x1_4 x2_4 hx1_4 hx2_4 h
      have h := LoopP_succ h
      refine V.iload_n (pc := 4) hG dX12_byAllUnits_4 rfl 2 rfl ?_
      refine V.bipush (pc := 5) hG dX12_byAllUnits_5 (by decide) ?_
      obtain ⟨t15, f16⟩ := h
      refine V.icmp_ge (pc := 7) (tgt := 26) hG hx2_4 ((sR_l rfl)) dX12_byAllUnits_7 (by decide) (fun c14 => ?_) (fun c14 => ?_)
      · have h := t15 c14
        clear t15 f16
        refine V.iload_n (pc := 26) hG dX12_byAllUnits_26 rfl 1 rfl ?_
        exact fin dX12_byAllUnits_27 hx1_4 rfl hi hw ⟨rfl, rfl, h⟩
      · have h := f16 c14
        clear t15 f16
        refine V.iload_n (pc := 10) hG dX12_byAllUnits_10 rfl 1 rfl ?_
        refine V.aload_n (pc := 11) hG dX12_byAllUnits_11 rfl 0 rfl ?_
        refine V.iload_n (pc := 12) hG dX12_byAllUnits_12 rfl 2 rfl ?_
        refine V.callVi (pc := 13) (As := [.int (sJ x2_4)]) (stk := [.int (sJ x1_4)]) hG (sm_X12_needs l Δ hx2_4 hi hw h) mY_X12_needs kw_2145 kw_2147 kw_144 a_504 (by decide) (q := (RX12, TX12, 49)) rfl rfl ⟨Nat.le_of_ble_eq_true rfl, Nat.le_of_ble_eq_true rfl, Nat.le_of_ble_eq_true rfl, Nat.le_of_ble_eq_true rfl⟩ rfl (Nat.le_of_ble_eq_true rfl) dX12_byAllUnits_13 rfl (fun v17 i18 r19 hv20 hi21 hw22 hq23 => ?_)
        obtain ⟨e24, e25, h⟩ := hq23
        subst e24
        subst e25
        refine V.mmax (pc := 16) hG hx1_4 hv20 kw_1955 kw_680 kw_173 kw_max ⟨Nat.le_of_ble_eq_true rfl, Nat.le_of_ble_eq_true rfl, Nat.le_of_ble_eq_true rfl, Nat.le_of_ble_eq_true rfl⟩ dX12_byAllUnits_16 ?_
        refine V.istore_n (pc := 19) (lv' := [(1, .int (sJ (max x1_4 v17))), (0, .ref (sA Δ 504)), (2, .int (sJ x2_4))]) hG dX12_byAllUnits_19 rfl (by decide) rfl ?_
        refine V.iinc (pc := 20) (lv' := [(2, .int (sJ (wr (x2_4 + 1)))), (1, .int (sJ (max x1_4 v17))), (0, .ref (sA Δ 504))]) hG dX12_byAllUnits_20 2 rfl (by decide) rfl ?_
        refine V.goto (pc := 23) (tgt := 4) hG dX12_byAllUnits_23 (by decide) ?_
        refine V.pick [2, 1, 0] rfl ?_
        exact ih4 (max x1_4 v17) (wr (x2_4 + 1)) ((sR_max hx1_4 hv20)) ((sR_wr _)) h
  refine V.pick [2, 1, 0] rfl ?_
  exact lp4 n13 1 0 ((sR_l rfl)) ((sR_l rfl)) h
set_option maxRecDepth 100000 in
set_option maxHeartbeats 4000000 in
theorem sm_X12_isFree (l : Launch) (Δ : Wd) {i r : MI} {p1 : Int} {p2 : Int} {p3 : Int} (hp1 : sR p1) (hp2 : sR p2) (hp3 : sR p3) {Q : Int → Prop} (hi : okI i) (hw : Wf r) (h : wp_X12_isFree p1 p2 p3 i r Q) : Met l yX12_isFree (Cond.code yX12_isFree cX12_isFree 8 (some .boolean) :: gW) (sRm 0 0) (sPc Δ [.ref (sA Δ 504), .int (sJ p1), .int (sJ p2), .int (sJ p3)] i r) (sQi Δ (fun x i' r' => i = i' ∧ r = r' ∧ Q x)) 0 0 (sFr Δ) := by
  refine Ct.i (ty := .boolean) (by decide) rfl (Nat.le_of_ble_eq_true rfl) (fun Γ Q0 hG fin => ?_)
  have hG : okG Γ Δ l (sRm 0 0) cX12_isFree "SchedularyModel" 8 := hG
  show V Γ Δ 542 false i r 0 0 Q0 0 [(0, .ref (sA Δ 504)), (1, .int (sJ p1)), (2, .int (sJ p2)), (3, .int (sJ p3))] []
  have jn186 : ∀ (k0j186 : Int), sR k0j186 → s186_X12_isFree k0j186 i r Q → V Γ Δ 542 false i r 0 0 Q0 186 [] [.int (sJ k0j186)] := by
    intro k0j186 hk0j186 h
    obtain ⟨g2, h⟩ := h
    exact fin dX12_isFree_186 hk0j186 (nar_z g2) hi hw ⟨rfl, rfl, h⟩
  have jn185 : s185_X12_isFree i r Q → V Γ Δ 542 false i r 0 0 Q0 185 [] [] := by
    intro h
    refine V.iconst (pc := 185) hG dX12_isFree_185 ?_
    exact jn186 0 ((sR_l rfl)) h
  refine V.iconst (pc := 0) hG dX12_isFree_0 ?_
  refine V.istore (pc := 1) (lv' := [(4, .int (sJ 0)), (0, .ref (sA Δ 504)), (1, .int (sJ p1)), (2, .int (sJ p2)), (3, .int (sJ p3))]) hG dX12_isFree_1 (by decide) rfl ?_
  refine V.iconst (pc := 3) hG dX12_isFree_3 ?_
  refine V.istore (pc := 4) (lv' := [(5, .int (sJ 1)), (4, .int (sJ 0)), (0, .ref (sA Δ 504)), (1, .int (sJ p1)), (2, .int (sJ p2)), (3, .int (sJ p3))]) hG dX12_isFree_4 (by decide) rfl ?_
  refine V.iconst (pc := 6) hG dX12_isFree_6 ?_
  refine V.istore (pc := 7) (lv' := [(6, .int (sJ 0)), (5, .int (sJ 1)), (4, .int (sJ 0)), (0, .ref (sA Δ 504)), (1, .int (sJ p1)), (2, .int (sJ p2)), (3, .int (sJ p3))]) hG dX12_isFree_7 (by decide) rfl ?_
  obtain ⟨n95, h⟩ := h
  have lp9 : ∀ (m9 : Nat) (x4_9 : Int) (x6_9 : Int), sR x4_9 → sR x6_9 → LoopP (b9_X12_isFree p1 p2 p3 1 i r Q) m9 (x4_9, x6_9) → V Γ Δ 542 false i r 0 0 Q0 9 [(0, .ref (sA Δ 504)), (1, .int (sJ p1)), (2, .int (sJ p2)), (3, .int (sJ p3)), (4, .int (sJ x4_9)), (5, .int (sJ 1)), (6, .int (sJ x6_9))] [] := by
    intro m9
    induction m9 with
    | zero => intro x4_9 x6_9 hx4_9 hx6_9 h; exact h.elim
    | succ m9 ih9 =>
      intro x4_9 x6_9 hx4_9 hx6_9 h
      have h := LoopP_succ h
      have jn53 : ∀ (x6j53 : Int) (k0j53 : Int) (k1j53 : Int), sR x6j53 → sR k0j53 → sR k1j53 → s53_X12_isFree p1 p2 p3 1 x6j53 k0j53 k1j53 i r Q (LoopP (b9_X12_isFree p1 p2 p3 1 i r Q) m9) → V Γ Δ 542 false i r 0 0 Q0 53 [(0, .ref (sA Δ 504)), (1, .int (sJ p1)), (2, .int (sJ p2)), (3, .int (sJ p3)), (5, .int (sJ 1)), (6, .int (sJ x6j53))] [.int (sJ k1j53), .int (sJ k0j53)] := by
        intro x6j53 k0j53 k1j53 hx6j53 hk0j53 hk1j53 h
        refine V.iadd (pc := 53) hG dX12_isFree_53 ?_
        refine V.istore (pc := 54) (lv' := [(4, .int (sJ (wr (k0j53 + k1j53)))), (0, .ref (sA Δ 504)), (1, .int (sJ p1)), (2, .int (sJ p2)), (3, .int (sJ p3)), (5, .int (sJ 1)), (6, .int (sJ x6j53))]) hG dX12_isFree_54 (by decide) rfl ?_
        refine V.iinc (pc := 56) (lv' := [(6, .int (sJ (wr (x6j53 + 1)))), (4, .int (sJ (wr (k0j53 + k1j53)))), (0, .ref (sA Δ 504)), (1, .int (sJ p1)), (2, .int (sJ p2)), (3, .int (sJ p3)), (5, .int (sJ 1))]) hG dX12_isFree_56 6 rfl (by decide) rfl ?_
        refine V.goto (pc := 59) (tgt := 9) hG dX12_isFree_59 (by decide) ?_
        refine V.pick [2, 3, 4, 5, 1, 6, 0] rfl ?_
        exact ih9 (wr (k0j53 + k1j53)) (wr (x6j53 + 1)) ((sR_wr _)) ((sR_wr _)) h
      have jn52 : ∀ (x6j52 : Int) (k0j52 : Int), sR x6j52 → sR k0j52 → s52_X12_isFree p1 p2 p3 1 x6j52 k0j52 i r Q (LoopP (b9_X12_isFree p1 p2 p3 1 i r Q) m9) → V Γ Δ 542 false i r 0 0 Q0 52 [(0, .ref (sA Δ 504)), (1, .int (sJ p1)), (2, .int (sJ p2)), (3, .int (sJ p3)), (5, .int (sJ 1)), (6, .int (sJ x6j52))] [.int (sJ k0j52)] := by
        intro x6j52 k0j52 hx6j52 hk0j52 h
        refine V.iconst (pc := 52) hG dX12_isFree_52 ?_
        exact jn53 x6j52 k0j52 0 hx6j52 hk0j52 ((sR_l rfl)) h
      refine V.iload (pc := 9) hG dX12_isFree_9 6 rfl ?_
      refine V.iload_n (pc := 11) hG dX12_isFree_11 rfl 1 rfl ?_
      obtain ⟨t97, f98⟩ := h
      refine V.icmp_ge (pc := 12) (tgt := 62) hG hx6_9 hp1 dX12_isFree_12 (by decide) (fun c96 => ?_) (fun c96 => ?_)
      · have h := t97 c96
        clear t97 f98
        refine V.iconst (pc := 62) hG dX12_isFree_62 ?_
        refine V.istore (pc := 63) (lv' := [(6, .int (sJ 0)), (0, .ref (sA Δ 504)), (1, .int (sJ p1)), (2, .int (sJ p2)), (3, .int (sJ p3)), (4, .int (sJ x4_9)), (5, .int (sJ 1))]) hG dX12_isFree_63 (by decide) rfl ?_
        obtain ⟨n99, h⟩ := h
        have lp65 : ∀ (m65 : Nat) (x5_65 : Int) (x6_65 : Int), sR x5_65 → sR x6_65 → LoopP (b65_X12_isFree p1 p2 p3 x4_9 i r Q) m65 (x5_65, x6_65) → V Γ Δ 542 false i r 0 0 Q0 65 [(0, .ref (sA Δ 504)), (1, .int (sJ p1)), (2, .int (sJ p2)), (3, .int (sJ p3)), (4, .int (sJ x4_9)), (5, .int (sJ x5_65)), (6, .int (sJ x6_65))] [] := by
          intro m65
          induction m65 with
          | zero => intro x5_65 x6_65 hx5_65 hx6_65 h; exact h.elim
          | succ m65 ih65 =>
            intro x5_65 x6_65 hx5_65 hx6_65 h
            have h := LoopP_succ h
            have jn152 : ∀ (x6j152 : Int) (k0j152 : Int), sR x6j152 → sR k0j152 → s152_X12_isFree p1 p2 p3 x4_9 x6j152 k0j152 i r Q (LoopP (b65_X12_isFree p1 p2 p3 x4_9 i r Q) m65) → V Γ Δ 542 false i r 0 0 Q0 152 [(0, .ref (sA Δ 504)), (1, .int (sJ p1)), (2, .int (sJ p2)), (3, .int (sJ p3)), (4, .int (sJ x4_9)), (6, .int (sJ x6j152))] [.int (sJ k0j152)] := by
              intro x6j152 k0j152 hx6j152 hk0j152 h
              refine V.istore (pc := 152) (lv' := [(5, .int (sJ k0j152)), (0, .ref (sA Δ 504)), (1, .int (sJ p1)), (2, .int (sJ p2)), (3, .int (sJ p3)), (4, .int (sJ x4_9)), (6, .int (sJ x6j152))]) hG dX12_isFree_152 (by decide) rfl ?_
              refine V.iinc (pc := 154) (lv' := [(6, .int (sJ (wr (x6j152 + 1)))), (5, .int (sJ k0j152)), (0, .ref (sA Δ 504)), (1, .int (sJ p1)), (2, .int (sJ p2)), (3, .int (sJ p3)), (4, .int (sJ x4_9))]) hG dX12_isFree_154 6 rfl (by decide) rfl ?_
              refine V.goto (pc := 157) (tgt := 65) hG dX12_isFree_157 (by decide) ?_
              refine V.pick [2, 3, 4, 5, 6, 1, 0] rfl ?_
              exact ih65 k0j152 (wr (x6j152 + 1)) hk0j152 ((sR_wr _)) h
            have jn151 : ∀ (x6j151 : Int), sR x6j151 → s151_X12_isFree p1 p2 p3 x4_9 x6j151 i r Q (LoopP (b65_X12_isFree p1 p2 p3 x4_9 i r Q) m65) → V Γ Δ 542 false i r 0 0 Q0 151 [(0, .ref (sA Δ 504)), (1, .int (sJ p1)), (2, .int (sJ p2)), (3, .int (sJ p3)), (4, .int (sJ x4_9)), (6, .int (sJ x6j151))] [] := by
              intro x6j151 hx6j151 h
              refine V.iconst (pc := 151) hG dX12_isFree_151 ?_
              exact jn152 x6j151 0 hx6j151 ((sR_l rfl)) h
            have jn147 : ∀ (x6j147 : Int), sR x6j147 → s147_X12_isFree p1 p2 p3 x4_9 x6j147 i r Q (LoopP (b65_X12_isFree p1 p2 p3 x4_9 i r Q) m65) → V Γ Δ 542 false i r 0 0 Q0 147 [(0, .ref (sA Δ 504)), (1, .int (sJ p1)), (2, .int (sJ p2)), (3, .int (sJ p3)), (4, .int (sJ x4_9)), (6, .int (sJ x6j147))] [] := by
              intro x6j147 hx6j147 h
              refine V.iconst (pc := 147) hG dX12_isFree_147 ?_
              refine V.goto (pc := 148) (tgt := 152) hG dX12_isFree_148 (by decide) ?_
              exact jn152 x6j147 1 hx6j147 ((sR_l rfl)) h
            have jn101 : ∀ (x5j101 : Int) (x6j101 : Int) (k0j101 : Int), sR x5j101 → sR x6j101 → sR k0j101 → s101_X12_isFree p1 p2 p3 x4_9 x5j101 x6j101 k0j101 i r Q (LoopP (b65_X12_isFree p1 p2 p3 x4_9 i r Q) m65) → V Γ Δ 542 false i r 0 0 Q0 101 [(0, .ref (sA Δ 504)), (1, .int (sJ p1)), (2, .int (sJ p2)), (3, .int (sJ p3)), (4, .int (sJ x4_9)), (5, .int (sJ x5j101)), (6, .int (sJ x6j101))] [.int (sJ k0j101)] := by
              intro x5j101 x6j101 k0j101 hx5j101 hx6j101 hk0j101 h
              refine V.istore (pc := 101) (lv' := [(7, .int (sJ k0j101)), (0, .ref (sA Δ 504)), (1, .int (sJ p1)), (2, .int (sJ p2)), (3, .int (sJ p3)), (4, .int (sJ x4_9)), (5, .int (sJ x5j101)), (6, .int (sJ x6j101))]) hG dX12_isFree_101 (by decide) rfl ?_
              refine V.iload (pc := 103) hG dX12_isFree_103 6 rfl ?_
              obtain ⟨t114, f115⟩ := h
              refine V.if_eq (pc := 105) (tgt := 151) hG hx5j101 dX12_isFree_105 (by decide) (fun c113 => ?_) (fun c113 => ?_)
              · have h := t114 c113
                clear t114 f115
                refine V.pick [1, 2, 3, 4, 5, 7] rfl ?_
                exact jn151 x6j101 hx6j101 h
              · have h := f115 c113
                clear t114 f115
                refine V.iload (pc := 108) hG dX12_isFree_108 0 rfl ?_
                obtain ⟨t117, f118⟩ := h
                refine V.if_eq (pc := 110) (tgt := 147) hG hk0j101 dX12_isFree_110 (by decide) (fun c116 => ?_) (fun c116 => ?_)
                · have h := t117 c116
                  clear t117 f118
                  refine V.pick [1, 2, 3, 4, 5, 7] rfl ?_
                  exact jn147 x6j101 hx6j101 h
                · have h := f118 c116
                  clear t117 f118
                  refine V.iload_n (pc := 113) hG dX12_isFree_113 rfl 3 rfl ?_
                  refine V.aload_n (pc := 114) hG dX12_isFree_114 rfl 1 rfl ?_
                  refine V.getR (x := 526) (pc := 115) (ci := 14) (k := 34) (M := 49) (T := TX12) (o := 504) (kz := 34) hG a_504 a_504.n (by decide) hin_X12 rfl (by decide) (by decide) rfl kw_1726 rfl ((hw).1 (504, 34, 526) (by decide)) (by decide) dX12_isFree_115 ?_
                  refine V.iload (pc := 118) hG dX12_isFree_118 7 rfl ?_
                  obtain ⟨g119, h⟩ := h
                  refine V.iald (pc := 120) (z := 20000) (o := 526) hG a_526 a_526.n hx6j101 g119 dX12_isFree_120 ?_
                  refine V.iadd (pc := 121) hG dX12_isFree_121 ?_
                  refine V.iload_n (pc := 122) hG dX12_isFree_122 rfl 4 rfl ?_
                  refine V.aload_n (pc := 123) hG dX12_isFree_123 rfl 1 rfl ?_
                  refine V.getR (x := 525) (pc := 124) (ci := 14) (k := 33) (M := 49) (T := TX12) (o := 504) (kz := 33) hG a_504 a_504.n (by decide) hin_X12 rfl (by decide) (by decide) rfl kw_1725 rfl ((hw).1 (504, 33, 525) (by decide)) (by decide) dX12_isFree_124 ?_
                  refine V.iload (pc := 127) hG dX12_isFree_127 7 rfl ?_
                  obtain ⟨g120, h⟩ := h
                  refine V.iald (pc := 129) (z := 20000) (o := 525) hG a_525 a_525.n hx6j101 g120 dX12_isFree_129 ?_
                  refine V.imul (pc := 130) hG dX12_isFree_130 ?_
                  refine V.isub (pc := 131) hG dX12_isFree_131 ?_
                  refine V.aload_n (pc := 132) hG dX12_isFree_132 rfl 1 rfl ?_
                  refine V.getR (x := 532) (pc := 133) (ci := 14) (k := 40) (M := 49) (T := TX12) (o := 504) (kz := 40) hG a_504 a_504.n (by decide) hin_X12 rfl (by decide) (by decide) rfl kw_1732 rfl ((hw).1 (504, 40, 532) (by decide)) (by decide) dX12_isFree_133 ?_
                  refine V.aload_n (pc := 136) hG dX12_isFree_136 rfl 1 rfl ?_
                  refine V.getR (x := 524) (pc := 137) (ci := 14) (k := 32) (M := 49) (T := TX12) (o := 504) (kz := 32) hG a_504 a_504.n (by decide) hin_X12 rfl (by decide) (by decide) rfl kw_1724 rfl ((hw).1 (504, 32, 524) (by decide)) (by decide) dX12_isFree_137 ?_
                  refine V.iload (pc := 140) hG dX12_isFree_140 7 rfl ?_
                  obtain ⟨g121, h⟩ := h
                  refine V.iald (pc := 142) (z := 20000) (o := 524) hG a_524 a_524.n hx6j101 g121 dX12_isFree_142 ?_
                  obtain ⟨g122, h⟩ := h
                  refine V.iald (pc := 143) (z := 96) (o := 532) hG a_532 a_532.n ((hi _ _)) g122 dX12_isFree_143 ?_
                  obtain ⟨t124, f125⟩ := h
                  refine V.icmp_gt (pc := 144) (tgt := 151) hG ((sR_wr _)) ((hi _ _)) dX12_isFree_144 (by decide) (fun c123 => ?_) (fun c123 => ?_)
                  · have h := t124 c123
                    clear t124 f125
                    refine V.pick [1, 2, 3, 4, 5, 7] rfl ?_
                    exact jn151 x6j101 hx6j101 h
                  · have h := f125 c123
                    clear t124 f125
                    refine V.pick [1, 2, 3, 4, 5, 7] rfl ?_
                    exact jn147 x6j101 hx6j101 h
            have jn100 : ∀ (x5j100 : Int) (x6j100 : Int), sR x5j100 → sR x6j100 → s100_X12_isFree p1 p2 p3 x4_9 x5j100 x6j100 i r Q (LoopP (b65_X12_isFree p1 p2 p3 x4_9 i r Q) m65) → V Γ Δ 542 false i r 0 0 Q0 100 [(0, .ref (sA Δ 504)), (1, .int (sJ p1)), (2, .int (sJ p2)), (3, .int (sJ p3)), (4, .int (sJ x4_9)), (5, .int (sJ x5j100)), (6, .int (sJ x6j100))] [] := by
              intro x5j100 x6j100 hx5j100 hx6j100 h
              refine V.iconst (pc := 100) hG dX12_isFree_100 ?_
              exact jn101 x5j100 x6j100 0 hx5j100 hx6j100 ((sR_l rfl)) h
            refine V.iload (pc := 65) hG dX12_isFree_65 6 rfl ?_
            refine V.aload_n (pc := 67) hG dX12_isFree_67 rfl 0 rfl ?_
            refine V.getI (pc := 68) (ci := 14) (k := 30) (M := 49) (T := TX12) (o := 504) (kz := 30) hG a_504 a_504.n (by decide) hin_X12 rfl (by decide) (by decide) rfl kw_1722 rfl dX12_isFree_68 ?_
            obtain ⟨t127, f128⟩ := h
            refine V.icmp_ge (pc := 71) (tgt := 160) hG hx6_65 ((hi _ _)) dX12_isFree_71 (by decide) (fun c126 => ?_) (fun c126 => ?_)
            · have h := t127 c126
              clear t127 f128
              refine V.iload (pc := 160) hG dX12_isFree_160 5 rfl ?_
              obtain ⟨t130, f131⟩ := h
              refine V.if_eq (pc := 162) (tgt := 185) hG hx5_65 dX12_isFree_162 (by decide) (fun c129 => ?_) (fun c129 => ?_)
              · have h := t130 c129
                clear t130 f131
                refine V.pick [] rfl ?_
                exact jn185 h
              · have h := f131 c129
                clear t130 f131
                refine V.iload (pc := 165) hG dX12_isFree_165 4 rfl ?_
                refine V.aload_n (pc := 167) hG dX12_isFree_167 rfl 0 rfl ?_
                refine V.getR (x := 510) (pc := 168) (ci := 14) (k := 14) (M := 49) (T := TX12) (o := 504) (kz := 14) hG a_504 a_504.n (by decide) hin_X12 rfl (by decide) (by decide) rfl kw_1706 rfl ((hw).1 (504, 14, 510) (by decide)) (by decide) dX12_isFree_168 ?_
                refine V.aload_n (pc := 171) hG dX12_isFree_171 rfl 0 rfl ?_
                refine V.getR (x := 517) (pc := 172) (ci := 14) (k := 24) (M := 49) (T := TX12) (o := 504) (kz := 24) hG a_504 a_504.n (by decide) hin_X12 rfl (by decide) (by decide) rfl kw_1716 rfl ((hw).1 (504, 24, 517) (by decide)) (by decide) dX12_isFree_172 ?_
                refine V.iload_n (pc := 175) hG dX12_isFree_175 rfl 1 rfl ?_
                obtain ⟨g132, h⟩ := h
                refine V.iald (pc := 176) (z := 96) (o := 517) hG a_517 a_517.n hp1 g132 dX12_isFree_176 ?_
                obtain ⟨g133, h⟩ := h
                refine V.iald (pc := 177) (z := 7) (o := 510) hG a_510 a_510.n ((hi _ _)) g133 dX12_isFree_177 ?_
                obtain ⟨t135, f136⟩ := h
                refine V.icmp_ge (pc := 178) (tgt := 185) hG hx4_9 ((hi _ _)) dX12_isFree_178 (by decide) (fun c134 => ?_) (fun c134 => ?_)
                · have h := t135 c134
                  clear t135 f136
                  refine V.pick [] rfl ?_
                  exact jn185 h
                · have h := f136 c134
                  clear t135 f136
                  refine V.iconst (pc := 181) hG dX12_isFree_181 ?_
                  refine V.goto (pc := 182) (tgt := 186) hG dX12_isFree_182 (by decide) ?_
                  refine V.pick [] rfl ?_
                  exact jn186 1 ((sR_l rfl)) h
            · have h := f128 c126
              clear t127 f128
              refine V.aload_n (pc := 74) hG dX12_isFree_74 rfl 0 rfl ?_
              refine V.getR (x := 523) (pc := 75) (ci := 14) (k := 31) (M := 49) (T := TX12) (o := 504) (kz := 31) hG a_504 a_504.n (by decide) hin_X12 rfl (by decide) (by decide) rfl kw_1723 rfl ((hw).1 (504, 31, 523) (by decide)) (by decide) dX12_isFree_75 ?_
              refine V.iload (pc := 78) hG dX12_isFree_78 6 rfl ?_
              obtain ⟨g137, h⟩ := h
              refine V.iald (pc := 80) (z := 20000) (o := 523) hG a_523 a_523.n hx6_65 g137 dX12_isFree_80 ?_
              refine V.iload_n (pc := 81) hG dX12_isFree_81 rfl 1 rfl ?_
              obtain ⟨f140, t139⟩ := h
              refine V.icmp_ne (pc := 82) (tgt := 100) hG ((hi _ _)) hp1 dX12_isFree_82 (by decide) (fun c138 => ?_) (fun c138 => ?_)
              · have h := t139 c138
                clear t139 f140
                exact jn100 x5_65 x6_65 hx5_65 hx6_65 h
              · have h := f140 c138
                clear t139 f140
                refine V.aload_n (pc := 85) hG dX12_isFree_85 rfl 0 rfl ?_
                refine V.getR (x := 524) (pc := 86) (ci := 14) (k := 32) (M := 49) (T := TX12) (o := 504) (kz := 32) hG a_504 a_504.n (by decide) hin_X12 rfl (by decide) (by decide) rfl kw_1724 rfl ((hw).1 (504, 32, 524) (by decide)) (by decide) dX12_isFree_86 ?_
                refine V.iload (pc := 89) hG dX12_isFree_89 6 rfl ?_
                obtain ⟨g141, h⟩ := h
                refine V.iald (pc := 91) (z := 20000) (o := 524) hG a_524 a_524.n hx6_65 g141 dX12_isFree_91 ?_
                refine V.iload_n (pc := 92) hG dX12_isFree_92 rfl 1 rfl ?_
                obtain ⟨t143, f144⟩ := h
                refine V.icmp_ge (pc := 93) (tgt := 100) hG ((hi _ _)) hp1 dX12_isFree_93 (by decide) (fun c142 => ?_) (fun c142 => ?_)
                · have h := t143 c142
                  clear t143 f144
                  exact jn100 x5_65 x6_65 hx5_65 hx6_65 h
                · have h := f144 c142
                  clear t143 f144
                  refine V.iconst (pc := 96) hG dX12_isFree_96 ?_
                  refine V.goto (pc := 97) (tgt := 101) hG dX12_isFree_97 (by decide) ?_
                  exact jn101 x5_65 x6_65 1 hx5_65 hx6_65 ((sR_l rfl)) h
        refine V.pick [1, 2, 3, 4, 5, 6, 0] rfl ?_
        exact lp65 n99 1 0 ((sR_l rfl)) ((sR_l rfl)) h
      · have h := f98 c96
        clear t97 f98
        refine V.iload (pc := 15) hG dX12_isFree_15 4 rfl ?_
        refine V.aload_n (pc := 17) hG dX12_isFree_17 rfl 0 rfl ?_
        refine V.getR (x := 517) (pc := 18) (ci := 14) (k := 24) (M := 49) (T := TX12) (o := 504) (kz := 24) hG a_504 a_504.n (by decide) hin_X12 rfl (by decide) (by decide) rfl kw_1716 rfl ((hw).1 (504, 24, 517) (by decide)) (by decide) dX12_isFree_18 ?_
        refine V.iload (pc := 21) hG dX12_isFree_21 6 rfl ?_
        obtain ⟨g145, h⟩ := h
        refine V.iald (pc := 23) (z := 96) (o := 517) hG a_517 a_517.n hx6_9 g145 dX12_isFree_23 ?_
        refine V.aload_n (pc := 24) hG dX12_isFree_24 rfl 0 rfl ?_
        refine V.getR (x := 517) (pc := 25) (ci := 14) (k := 24) (M := 49) (T := TX12) (o := 504) (kz := 24) hG a_504 a_504.n (by decide) hin_X12 rfl (by decide) (by decide) rfl kw_1716 rfl ((hw).1 (504, 24, 517) (by decide)) (by decide) dX12_isFree_25 ?_
        refine V.iload_n (pc := 28) hG dX12_isFree_28 rfl 1 rfl ?_
        obtain ⟨g146, h⟩ := h
        refine V.iald (pc := 29) (z := 96) (o := 517) hG a_517 a_517.n hp1 g146 dX12_isFree_29 ?_
        obtain ⟨f149, t148⟩ := h
        refine V.icmp_ne (pc := 30) (tgt := 52) hG ((hi _ _)) ((hi _ _)) dX12_isFree_30 (by decide) (fun c147 => ?_) (fun c147 => ?_)
        · have h := t148 c147
          clear t148 f149
          refine V.pick [0, 1, 2, 3, 5, 6] rfl ?_
          exact jn52 x6_9 x4_9 hx6_9 hx4_9 h
        · have h := f149 c147
          clear t148 f149
          refine V.aload_n (pc := 33) hG dX12_isFree_33 rfl 0 rfl ?_
          refine V.getR (x := 532) (pc := 34) (ci := 14) (k := 40) (M := 49) (T := TX12) (o := 504) (kz := 40) hG a_504 a_504.n (by decide) hin_X12 rfl (by decide) (by decide) rfl kw_1732 rfl ((hw).1 (504, 40, 532) (by decide)) (by decide) dX12_isFree_34 ?_
          refine V.iload (pc := 37) hG dX12_isFree_37 6 rfl ?_
          obtain ⟨g150, h⟩ := h
          refine V.iald (pc := 39) (z := 96) (o := 532) hG a_532 a_532.n hx6_9 g150 dX12_isFree_39 ?_
          refine V.iload_n (pc := 40) hG dX12_isFree_40 rfl 3 rfl ?_
          obtain ⟨g151, h⟩ := h
          refine V.irem (pc := 41) hG ((hi _ _)) hp3 g151 dX12_isFree_41 ?_
          refine V.iload_n (pc := 42) hG dX12_isFree_42 rfl 2 rfl ?_
          refine V.iload_n (pc := 43) hG dX12_isFree_43 rfl 3 rfl ?_
          obtain ⟨g152, h⟩ := h
          refine V.irem (pc := 44) hG hp2 hp3 g152 dX12_isFree_44 ?_
          obtain ⟨f155, t154⟩ := h
          refine V.icmp_ne (pc := 45) (tgt := 52) hG ((sR_tmod ((hi _ _)))) ((sR_tmod hp2)) dX12_isFree_45 (by decide) (fun c153 => ?_) (fun c153 => ?_)
          · have h := t154 c153
            clear t154 f155
            refine V.pick [0, 1, 2, 3, 5, 6] rfl ?_
            exact jn52 x6_9 x4_9 hx6_9 hx4_9 h
          · have h := f155 c153
            clear t154 f155
            refine V.iconst (pc := 48) hG dX12_isFree_48 ?_
            refine V.goto (pc := 49) (tgt := 53) hG dX12_isFree_49 (by decide) ?_
            refine V.pick [0, 1, 2, 3, 5, 6] rfl ?_
            exact jn53 x6_9 x4_9 1 hx6_9 hx4_9 ((sR_l rfl)) h
  refine V.pick [3, 4, 5, 6, 2, 1, 0] rfl ?_
  exact lp9 n95 0 0 ((sR_l rfl)) ((sR_l rfl)) h
set_option maxRecDepth 100000 in
set_option maxHeartbeats 4000000 in
theorem sm_X12_canPlace (l : Launch) (Δ : Wd) {i r : MI} {p1 : Int} (hp1 : sR p1) {Q : Int → MI → Prop} (hi : okI i) (hw : Wf r) (h : wp_X12_canPlace p1 i r Q) : Met l yX12_canPlace (Cond.code yX12_canPlace cX12_canPlace 6 (some .boolean) :: gW) (sRm 1 27) (sPc Δ [.ref (sA Δ 504), .int (sJ p1)] i r) (sQi Δ (fun x i' r' => r = r' ∧ Q x i')) 0 0 (sFr Δ) := by
  refine Ct.i (ty := .boolean) (by decide) rfl (Nat.le_of_ble_eq_true rfl) (fun Γ Q0 hG fin => ?_)
  have hG : okG Γ Δ l (sRm 1 27) cX12_canPlace "SchedularyModel" 6 := hG
  show V Γ Δ 542 false i r 0 0 Q0 0 [(0, .ref (sA Δ 504)), (1, .int (sJ p1))] []
  refine V.iconst (pc := 0) hG dX12_canPlace_0 ?_
  refine V.istore_n (pc := 1) (lv' := [(2, .int (sJ 0)), (0, .ref (sA Δ 504)), (1, .int (sJ p1))]) hG dX12_canPlace_1 rfl (by decide) rfl ?_
  obtain ⟨n99, h⟩ := h
  have lp2 : ∀ (m2 : Nat) (x2_2 : Int) (i_2 : MI), sR x2_2 → okI i_2 → LoopP (b2_X12_canPlace p1 r Q) m2 (x2_2, i_2) → V Γ Δ 542 false i_2 r 0 0 Q0 2 [(0, .ref (sA Δ 504)), (1, .int (sJ p1)), (2, .int (sJ x2_2))] [] := by
    intro m2
    induction m2 with
    | zero => intro x2_2 i_2 hx2_2 hi_2 h; exact h.elim
    | succ m2 ih2 =>
      intro x2_2 i_2 hx2_2 hi_2 h
      have h := LoopP_succ h
      have jn131 : ∀ (x2j131 : Int) (x3j131 : Int) (x4j131 : Int) (ij131 : MI), sR x2j131 → sR x3j131 → sR x4j131 → okI ij131 → s131_X12_canPlace p1 x2j131 x3j131 x4j131 ij131 r Q (LoopP (b2_X12_canPlace p1 r Q) m2) → V Γ Δ 542 false ij131 r 0 0 Q0 131 [(0, .ref (sA Δ 504)), (1, .int (sJ p1)), (2, .int (sJ x2j131)), (3, .int (sJ x3j131)), (4, .int (sJ x4j131))] [] := by
        intro x2j131 x3j131 x4j131 ij131 hx2j131 hx3j131 hx4j131 hij131 h
        refine V.iload (pc := 131) hG dX12_canPlace_131 4 rfl ?_
        refine V.iload_n (pc := 133) hG dX12_canPlace_133 rfl 3 rfl ?_
        refine V.iload_n (pc := 134) hG dX12_canPlace_134 rfl 1 rfl ?_
        refine V.iadd (pc := 135) hG dX12_canPlace_135 ?_
        obtain ⟨f106, t105⟩ := h
        refine V.icmp_ne (pc := 136) (tgt := 141) hG hx4j131 ((sR_wr _)) dX12_canPlace_136 (by decide) (fun c104 => ?_) (fun c104 => ?_)
        · have h := t105 c104
          clear t105 f106
          refine V.aload_n (pc := 141) hG dX12_canPlace_141 rfl 0 rfl ?_
          refine V.getR (x := 532) (pc := 142) (ci := 14) (k := 40) (M := 49) (T := TX12) (o := 504) (kz := 40) hG a_504 a_504.n (by decide) hin_X12 rfl (by decide) (by decide) rfl kw_1732 rfl ((hw).1 (504, 40, 532) (by decide)) (by decide) dX12_canPlace_142 ?_
          refine V.iload_n (pc := 145) hG dX12_canPlace_145 rfl 2 rfl ?_
          refine V.iload (pc := 146) hG dX12_canPlace_146 4 rfl ?_
          obtain ⟨g107, h⟩ := h
          refine V.iast (pc := 148) (z := 96) (o := 532) hG a_532 a_532.n hx2j131 g107 dX12_canPlace_148 ?_
          refine V.iinc (pc := 149) (lv' := [(2, .int (sJ (wr (x2j131 + 1)))), (0, .ref (sA Δ 504)), (1, .int (sJ p1)), (3, .int (sJ x3j131)), (4, .int (sJ x4j131))]) hG dX12_canPlace_149 2 rfl (by decide) rfl ?_
          refine V.goto (pc := 152) (tgt := 2) hG dX12_canPlace_152 (by decide) ?_
          refine V.pick [1, 2, 0] rfl ?_
          exact ih2 (wr (x2j131 + 1)) (st ij131 532 x2j131 x4j131) ((sR_wr _)) ((okI_st hij131 hx4j131)) h
        · have h := f106 c104
          clear t105 f106
          refine V.iconst (pc := 139) hG dX12_canPlace_139 ?_
          exact fin dX12_canPlace_140 ((sR_l rfl)) (nar_z (by decide)) hij131 hw ⟨rfl, h⟩
      refine V.iload_n (pc := 2) hG dX12_canPlace_2 rfl 2 rfl ?_
      refine V.aload_n (pc := 3) hG dX12_canPlace_3 rfl 0 rfl ?_
      refine V.getI (pc := 4) (ci := 14) (k := 21) (M := 49) (T := TX12) (o := 504) (kz := 21) hG a_504 a_504.n (by decide) hin_X12 rfl (by decide) (by decide) rfl kw_1713 rfl dX12_canPlace_4 ?_
      obtain ⟨t109, f110⟩ := h
      refine V.icmp_ge (pc := 7) (tgt := 155) hG hx2_2 ((hi_2 _ _)) dX12_canPlace_7 (by decide) (fun c108 => ?_) (fun c108 => ?_)
      · have h := t109 c108
        clear t109 f110
        refine V.iconst (pc := 155) hG dX12_canPlace_155 ?_
        exact fin dX12_canPlace_156 ((sR_l rfl)) (nar_z (by decide)) hi_2 hw ⟨rfl, h⟩
      · have h := f110 c108
        clear t109 f110
        refine V.iconst (pc := 10) hG dX12_canPlace_10 ?_
        refine V.istore_n (pc := 11) (lv' := [(3, .int (sJ 0)), (0, .ref (sA Δ 504)), (1, .int (sJ p1)), (2, .int (sJ x2_2))]) hG dX12_canPlace_11 rfl (by decide) rfl ?_
        refine V.iconst (pc := 12) hG dX12_canPlace_12 ?_
        refine V.istore (pc := 13) (lv' := [(4, .int (sJ 0)), (3, .int (sJ 0)), (0, .ref (sA Δ 504)), (1, .int (sJ p1)), (2, .int (sJ x2_2))]) hG dX12_canPlace_13 (by decide) rfl ?_
        obtain ⟨n111, h⟩ := h
        have lp15 : ∀ (m15 : Nat) (x3_15 : Int) (x4_15 : Int), sR x3_15 → sR x4_15 → LoopP (b15_X12_canPlace p1 x2_2 i_2 r Q (LoopP (b2_X12_canPlace p1 r Q) m2)) m15 (x3_15, x4_15) → V Γ Δ 542 false i_2 r 0 0 Q0 15 [(0, .ref (sA Δ 504)), (1, .int (sJ p1)), (2, .int (sJ x2_2)), (3, .int (sJ x3_15)), (4, .int (sJ x4_15))] [] := by
          intro m15
          induction m15 with
          | zero => intro x3_15 x4_15 hx3_15 hx4_15 h; exact h.elim
          | succ m15 ih15 =>
            intro x3_15 x4_15 hx3_15 hx4_15 h
            have h := LoopP_succ h
            have jn96 : ∀ (x4j96 : Int) (k0j96 : Int), sR x4j96 → sR k0j96 → s96_X12_canPlace p1 x2_2 x4j96 k0j96 i_2 r Q (LoopP (b2_X12_canPlace p1 r Q) m2) (LoopP (b15_X12_canPlace p1 x2_2 i_2 r Q (LoopP (b2_X12_canPlace p1 r Q) m2)) m15) → V Γ Δ 542 false i_2 r 0 0 Q0 96 [(0, .ref (sA Δ 504)), (1, .int (sJ p1)), (2, .int (sJ x2_2)), (4, .int (sJ x4j96))] [.int (sJ k0j96)] := by
              intro x4j96 k0j96 hx4j96 hk0j96 h
              refine V.istore_n (pc := 96) (lv' := [(3, .int (sJ k0j96)), (0, .ref (sA Δ 504)), (1, .int (sJ p1)), (2, .int (sJ x2_2)), (4, .int (sJ x4j96))]) hG dX12_canPlace_96 rfl (by decide) rfl ?_
              refine V.iinc (pc := 97) (lv' := [(4, .int (sJ (wr (x4j96 + 1)))), (3, .int (sJ k0j96)), (0, .ref (sA Δ 504)), (1, .int (sJ p1)), (2, .int (sJ x2_2))]) hG dX12_canPlace_97 4 rfl (by decide) rfl ?_
              refine V.goto (pc := 100) (tgt := 15) hG dX12_canPlace_100 (by decide) ?_
              refine V.pick [2, 3, 4, 1, 0] rfl ?_
              exact ih15 k0j96 (wr (x4j96 + 1)) hk0j96 ((sR_wr _)) h
            have jn51 : ∀ (x3j51 : Int) (x4j51 : Int) (k0j51 : Int), sR x3j51 → sR x4j51 → sR k0j51 → s51_X12_canPlace p1 x2_2 x3j51 x4j51 k0j51 i_2 r Q (LoopP (b2_X12_canPlace p1 r Q) m2) (LoopP (b15_X12_canPlace p1 x2_2 i_2 r Q (LoopP (b2_X12_canPlace p1 r Q) m2)) m15) → V Γ Δ 542 false i_2 r 0 0 Q0 51 [(0, .ref (sA Δ 504)), (1, .int (sJ p1)), (2, .int (sJ x2_2)), (3, .int (sJ x3j51)), (4, .int (sJ x4j51))] [.int (sJ k0j51)] := by
              intro x3j51 x4j51 k0j51 hx3j51 hx4j51 hk0j51 h
              refine V.istore (pc := 51) (lv' := [(5, .int (sJ k0j51)), (0, .ref (sA Δ 504)), (1, .int (sJ p1)), (2, .int (sJ x2_2)), (3, .int (sJ x3j51)), (4, .int (sJ x4j51))]) hG dX12_canPlace_51 (by decide) rfl ?_
              refine V.iload (pc := 53) hG dX12_canPlace_53 0 rfl ?_
              obtain ⟨t120, f121⟩ := h
              refine V.if_eq (pc := 55) (tgt := 95) hG hk0j51 dX12_canPlace_55 (by decide) (fun c119 => ?_) (fun c119 => ?_)
              · have h := t120 c119
                clear t120 f121
                refine V.iload_n (pc := 95) hG dX12_canPlace_95 rfl 4 rfl ?_
                refine V.pick [1, 2, 3, 5] rfl ?_
                exact jn96 x4j51 x3j51 hx4j51 hx3j51 h
              · have h := f121 c119
                clear t120 f121
                refine V.iload_n (pc := 58) hG dX12_canPlace_58 rfl 4 rfl ?_
                refine V.aload_n (pc := 59) hG dX12_canPlace_59 rfl 1 rfl ?_
                refine V.getR (x := 532) (pc := 60) (ci := 14) (k := 40) (M := 49) (T := TX12) (o := 504) (kz := 40) hG a_504 a_504.n (by decide) hin_X12 rfl (by decide) (by decide) rfl kw_1732 rfl ((hw).1 (504, 40, 532) (by decide)) (by decide) dX12_canPlace_60 ?_
                refine V.aload_n (pc := 63) hG dX12_canPlace_63 rfl 1 rfl ?_
                refine V.getR (x := 523) (pc := 64) (ci := 14) (k := 31) (M := 49) (T := TX12) (o := 504) (kz := 31) hG a_504 a_504.n (by decide) hin_X12 rfl (by decide) (by decide) rfl kw_1723 rfl ((hw).1 (504, 31, 523) (by decide)) (by decide) dX12_canPlace_64 ?_
                refine V.iload (pc := 67) hG dX12_canPlace_67 5 rfl ?_
                obtain ⟨g122, h⟩ := h
                refine V.iald (pc := 69) (z := 20000) (o := 523) hG a_523 a_523.n hx4j51 g122 dX12_canPlace_69 ?_
                obtain ⟨g123, h⟩ := h
                refine V.iald (pc := 70) (z := 96) (o := 532) hG a_532 a_532.n ((hi_2 _ _)) g123 dX12_canPlace_70 ?_
                refine V.aload_n (pc := 71) hG dX12_canPlace_71 rfl 1 rfl ?_
                refine V.getR (x := 526) (pc := 72) (ci := 14) (k := 34) (M := 49) (T := TX12) (o := 504) (kz := 34) hG a_504 a_504.n (by decide) hin_X12 rfl (by decide) (by decide) rfl kw_1726 rfl ((hw).1 (504, 34, 526) (by decide)) (by decide) dX12_canPlace_72 ?_
                refine V.iload (pc := 75) hG dX12_canPlace_75 5 rfl ?_
                obtain ⟨g124, h⟩ := h
                refine V.iald (pc := 77) (z := 20000) (o := 526) hG a_526 a_526.n hx4j51 g124 dX12_canPlace_77 ?_
                refine V.iadd (pc := 78) hG dX12_canPlace_78 ?_
                refine V.iload_n (pc := 79) hG dX12_canPlace_79 rfl 2 rfl ?_
                refine V.aload_n (pc := 80) hG dX12_canPlace_80 rfl 1 rfl ?_
                refine V.getR (x := 525) (pc := 81) (ci := 14) (k := 33) (M := 49) (T := TX12) (o := 504) (kz := 33) hG a_504 a_504.n (by decide) hin_X12 rfl (by decide) (by decide) rfl kw_1725 rfl ((hw).1 (504, 33, 525) (by decide)) (by decide) dX12_canPlace_81 ?_
                refine V.iload (pc := 84) hG dX12_canPlace_84 5 rfl ?_
                obtain ⟨g125, h⟩ := h
                refine V.iald (pc := 86) (z := 20000) (o := 525) hG a_525 a_525.n hx4j51 g125 dX12_canPlace_86 ?_
                refine V.imul (pc := 87) hG dX12_canPlace_87 ?_
                refine V.isub (pc := 88) hG dX12_canPlace_88 ?_
                refine V.mmax (pc := 89) hG hx3j51 ((sR_wr _)) kw_1955 kw_680 kw_173 kw_max ⟨Nat.le_of_ble_eq_true rfl, Nat.le_of_ble_eq_true rfl, Nat.le_of_ble_eq_true rfl, Nat.le_of_ble_eq_true rfl⟩ dX12_canPlace_89 ?_
                refine V.goto (pc := 92) (tgt := 96) hG dX12_canPlace_92 (by decide) ?_
                refine V.pick [1, 2, 3, 5] rfl ?_
                exact jn96 x4j51 (max x3j51 (wr (wr (i_2 532 (i_2 523 x4j51) + i_2 526 x4j51) - wr (p1 * i_2 525 x4j51)))) hx4j51 ((sR_max hx3j51 ((sR_wr _)))) h
            have jn50 : ∀ (x3j50 : Int) (x4j50 : Int), sR x3j50 → sR x4j50 → s50_X12_canPlace p1 x2_2 x3j50 x4j50 i_2 r Q (LoopP (b2_X12_canPlace p1 r Q) m2) (LoopP (b15_X12_canPlace p1 x2_2 i_2 r Q (LoopP (b2_X12_canPlace p1 r Q) m2)) m15) → V Γ Δ 542 false i_2 r 0 0 Q0 50 [(0, .ref (sA Δ 504)), (1, .int (sJ p1)), (2, .int (sJ x2_2)), (3, .int (sJ x3j50)), (4, .int (sJ x4j50))] [] := by
              intro x3j50 x4j50 hx3j50 hx4j50 h
              refine V.iconst (pc := 50) hG dX12_canPlace_50 ?_
              exact jn51 x3j50 x4j50 0 hx3j50 hx4j50 ((sR_l rfl)) h
            refine V.iload (pc := 15) hG dX12_canPlace_15 4 rfl ?_
            refine V.aload_n (pc := 17) hG dX12_canPlace_17 rfl 0 rfl ?_
            refine V.getI (pc := 18) (ci := 14) (k := 30) (M := 49) (T := TX12) (o := 504) (kz := 30) hG a_504 a_504.n (by decide) hin_X12 rfl (by decide) (by decide) rfl kw_1722 rfl dX12_canPlace_18 ?_
            obtain ⟨t127, f128⟩ := h
            refine V.icmp_ge (pc := 21) (tgt := 103) hG hx4_15 ((hi_2 _ _)) dX12_canPlace_21 (by decide) (fun c126 => ?_) (fun c126 => ?_)
            · have h := t127 c126
              clear t127 f128
              refine V.iload_n (pc := 103) hG dX12_canPlace_103 rfl 3 rfl ?_
              refine V.istore (pc := 104) (lv' := [(4, .int (sJ x3_15)), (0, .ref (sA Δ 504)), (1, .int (sJ p1)), (2, .int (sJ x2_2)), (3, .int (sJ x3_15))]) hG dX12_canPlace_104 (by decide) rfl ?_
              obtain ⟨n129, h⟩ := h
              have lp106 : ∀ (m106 : Nat) (x4_106 : Int), sR x4_106 → LoopP (b106_X12_canPlace p1 x2_2 x3_15 i_2 r Q (LoopP (b2_X12_canPlace p1 r Q) m2)) m106 (x4_106) → V Γ Δ 542 false i_2 r 0 0 Q0 106 [(0, .ref (sA Δ 504)), (1, .int (sJ p1)), (2, .int (sJ x2_2)), (3, .int (sJ x3_15)), (4, .int (sJ x4_106))] [] := by
                intro m106
                induction m106 with
                | zero => intro x4_106 hx4_106 h; exact h.elim
                | succ m106 ih106 =>
                  intro x4_106 hx4_106 h
                  have h := LoopP_succ h
                  refine V.iload (pc := 106) hG dX12_canPlace_106 4 rfl ?_
                  refine V.iload_n (pc := 108) hG dX12_canPlace_108 rfl 3 rfl ?_
                  refine V.iload_n (pc := 109) hG dX12_canPlace_109 rfl 1 rfl ?_
                  refine V.iadd (pc := 110) hG dX12_canPlace_110 ?_
                  obtain ⟨t131, f132⟩ := h
                  refine V.icmp_ge (pc := 111) (tgt := 131) hG hx4_106 ((sR_wr _)) dX12_canPlace_111 (by decide) (fun c130 => ?_) (fun c130 => ?_)
                  · have h := t131 c130
                    clear t131 f132
                    exact jn131 x2_2 x3_15 x4_106 i_2 hx2_2 hx3_15 hx4_106 hi_2 h
                  · have h := f132 c130
                    clear t131 f132
                    refine V.aload_n (pc := 114) hG dX12_canPlace_114 rfl 0 rfl ?_
                    refine V.iload_n (pc := 115) hG dX12_canPlace_115 rfl 2 rfl ?_
                    refine V.iload (pc := 116) hG dX12_canPlace_116 4 rfl ?_
                    refine V.iload_n (pc := 118) hG dX12_canPlace_118 rfl 1 rfl ?_
                    refine V.callVi (pc := 119) (As := [.int (sJ x2_2), .int (sJ x4_106), .int (sJ p1)]) (stk := []) hG (sm_X12_isFree l Δ hx2_2 hx4_106 hp1 hi_2 hw h) mY_X12_isFree kw_2161 kw_2163 kw_147 a_504 (by decide) (q := (RX12, TX12, 49)) rfl rfl ⟨Nat.le_of_ble_eq_true rfl, Nat.le_of_ble_eq_true rfl, Nat.le_of_ble_eq_true rfl, Nat.le_of_ble_eq_true rfl⟩ rfl (Nat.le_of_ble_eq_true rfl) dX12_canPlace_119 rfl (fun v133 i134 r135 hv136 hi137 hw138 hq139 => ?_)
                    obtain ⟨e143, e144, h⟩ := hq139
                    subst e143
                    subst e144
                    obtain ⟨f142, t141⟩ := h
                    refine V.if_ne (pc := 122) (tgt := 131) hG hv136 dX12_canPlace_122 (by decide) (fun c140 => ?_) (fun c140 => ?_)
                    · have h := t141 c140
                      clear t141 f142
                      exact jn131 x2_2 x3_15 x4_106 i_2 hx2_2 hx3_15 hx4_106 hi_2 h
                    · have h := f142 c140
                      clear t141 f142
                      refine V.iinc (pc := 125) (lv' := [(4, .int (sJ (wr (x4_106 + 1)))), (0, .ref (sA Δ 504)), (1, .int (sJ p1)), (2, .int (sJ x2_2)), (3, .int (sJ x3_15))]) hG dX12_canPlace_125 4 rfl (by decide) rfl ?_
                      refine V.goto (pc := 128) (tgt := 106) hG dX12_canPlace_128 (by decide) ?_
                      refine V.pick [1, 2, 3, 4, 0] rfl ?_
                      exact ih106 (wr (x4_106 + 1)) ((sR_wr _)) h
              refine V.pick [1, 2, 3, 4, 0] rfl ?_
              exact lp106 n129 x3_15 hx3_15 h
            · have h := f128 c126
              clear t127 f128
              refine V.aload_n (pc := 24) hG dX12_canPlace_24 rfl 0 rfl ?_
              refine V.getR (x := 524) (pc := 25) (ci := 14) (k := 32) (M := 49) (T := TX12) (o := 504) (kz := 32) hG a_504 a_504.n (by decide) hin_X12 rfl (by decide) (by decide) rfl kw_1724 rfl ((hw).1 (504, 32, 524) (by decide)) (by decide) dX12_canPlace_25 ?_
              refine V.iload (pc := 28) hG dX12_canPlace_28 4 rfl ?_
              obtain ⟨g145, h⟩ := h
              refine V.iald (pc := 30) (z := 20000) (o := 524) hG a_524 a_524.n hx4_15 g145 dX12_canPlace_30 ?_
              refine V.iload_n (pc := 31) hG dX12_canPlace_31 rfl 2 rfl ?_
              obtain ⟨f148, t147⟩ := h
              refine V.icmp_ne (pc := 32) (tgt := 50) hG ((hi_2 _ _)) hx2_2 dX12_canPlace_32 (by decide) (fun c146 => ?_) (fun c146 => ?_)
              · have h := t147 c146
                clear t147 f148
                exact jn50 x3_15 x4_15 hx3_15 hx4_15 h
              · have h := f148 c146
                clear t147 f148
                refine V.aload_n (pc := 35) hG dX12_canPlace_35 rfl 0 rfl ?_
                refine V.getR (x := 523) (pc := 36) (ci := 14) (k := 31) (M := 49) (T := TX12) (o := 504) (kz := 31) hG a_504 a_504.n (by decide) hin_X12 rfl (by decide) (by decide) rfl kw_1723 rfl ((hw).1 (504, 31, 523) (by decide)) (by decide) dX12_canPlace_36 ?_
                refine V.iload (pc := 39) hG dX12_canPlace_39 4 rfl ?_
                obtain ⟨g149, h⟩ := h
                refine V.iald (pc := 41) (z := 20000) (o := 523) hG a_523 a_523.n hx4_15 g149 dX12_canPlace_41 ?_
                refine V.iload_n (pc := 42) hG dX12_canPlace_42 rfl 2 rfl ?_
                obtain ⟨t151, f152⟩ := h
                refine V.icmp_ge (pc := 43) (tgt := 50) hG ((hi_2 _ _)) hx2_2 dX12_canPlace_43 (by decide) (fun c150 => ?_) (fun c150 => ?_)
                · have h := t151 c150
                  clear t151 f152
                  exact jn50 x3_15 x4_15 hx3_15 hx4_15 h
                · have h := f152 c150
                  clear t151 f152
                  refine V.iconst (pc := 46) hG dX12_canPlace_46 ?_
                  refine V.goto (pc := 47) (tgt := 51) hG dX12_canPlace_47 (by decide) ?_
                  exact jn51 x3_15 x4_15 1 hx3_15 hx4_15 ((sR_l rfl)) h
        refine V.pick [2, 3, 4, 1, 0] rfl ?_
        exact lp15 n111 0 0 ((sR_l rfl)) ((sR_l rfl)) h
  refine V.pick [1, 2, 0] rfl ?_
  exact lp2 n99 0 i ((sR_l rfl)) hi h
set_option maxRecDepth 100000 in
set_option maxHeartbeats 4000000 in
theorem sm_X12_placeAll (l : Launch) (Δ : Wd) {i r : MI}   {Q : Int → MI → Prop} (hi : okI i) (hw : Wf r) (h : wp_X12_placeAll  i r Q) : Met l yX12_placeAll (Cond.code yX12_placeAll cX12_placeAll 2 (some .int) :: gW) (sRm 4 94) (sPc Δ [.ref (sA Δ 504)] i r) (sQi Δ (fun x i' r' => r = r' ∧ Q x i')) 0 0 (sFr Δ) := by
  refine Ct.i (ty := .int) (by decide) rfl (Nat.le_of_ble_eq_true rfl) (fun Γ Q0 hG fin => ?_)
  have hG : okG Γ Δ l (sRm 4 94) cX12_placeAll "SchedularyModel" 2 := hG
  show V Γ Δ 542 false i r 0 0 Q0 0 [(0, .ref (sA Δ 504))] []
  refine V.aload_n (pc := 0) hG dX12_placeAll_0 rfl 0 rfl ?_
  refine V.callVv (pc := 1) (As := []) (stk := []) hG (sm_X12_build l Δ  hi hw h) mY_X12_build kw_1910 kw_1912 kw_116 a_504 (by decide) (q := (RX12, TX12, 49)) rfl rfl ⟨Nat.le_of_ble_eq_true rfl, Nat.le_of_ble_eq_true rfl, Nat.le_of_ble_eq_true rfl, Nat.le_of_ble_eq_true rfl⟩ rfl (Nat.le_of_ble_eq_true rfl) dX12_placeAll_1 rfl (fun i2 r3 hi5 hw6 hq7 => ?_)
  obtain ⟨e52, h⟩ := hq7
  subst e52
  refine V.aload_n (pc := 4) hG dX12_placeAll_4 rfl 0 rfl ?_
  refine V.callVi (pc := 5) (As := []) (stk := []) hG (sm_X12_rings l Δ  hi5 hw h) mY_X12_rings kw_2129 kw_2131 kw_141 a_504 (by decide) (q := (RX12, TX12, 49)) rfl rfl ⟨Nat.le_of_ble_eq_true rfl, Nat.le_of_ble_eq_true rfl, Nat.le_of_ble_eq_true rfl, Nat.le_of_ble_eq_true rfl⟩ rfl (Nat.le_of_ble_eq_true rfl) dX12_placeAll_5 rfl (fun v8 i9 r10 hv11 hi12 hw13 hq14 => ?_)
  obtain ⟨e50, h⟩ := hq14
  subst e50
  refine V.aload_n (pc := 8) hG dX12_placeAll_8 rfl 0 rfl ?_
  refine V.callVi (pc := 9) (As := []) (stk := [.int (sJ v8)]) hG (sm_X12_byAllUnits l Δ  hi12 hw h) mY_X12_byAllUnits kw_2141 kw_2143 kw_143 a_504 (by decide) (q := (RX12, TX12, 49)) rfl rfl ⟨Nat.le_of_ble_eq_true rfl, Nat.le_of_ble_eq_true rfl, Nat.le_of_ble_eq_true rfl, Nat.le_of_ble_eq_true rfl⟩ rfl (Nat.le_of_ble_eq_true rfl) dX12_placeAll_9 rfl (fun v15 i16 r17 hv18 hi19 hw20 hq21 => ?_)
  obtain ⟨e47, e48, h⟩ := hq21
  subst e47
  subst e48
  refine V.mmax (pc := 12) hG hv11 hv18 kw_1955 kw_680 kw_173 kw_max ⟨Nat.le_of_ble_eq_true rfl, Nat.le_of_ble_eq_true rfl, Nat.le_of_ble_eq_true rfl, Nat.le_of_ble_eq_true rfl⟩ dX12_placeAll_12 ?_
  refine V.istore_n (pc := 15) (lv' := [(1, .int (sJ (max v8 v15))), (0, .ref (sA Δ 504))]) hG dX12_placeAll_15 rfl (by decide) rfl ?_
  obtain ⟨n34, h⟩ := h
  have lp16 : ∀ (m16 : Nat) (x1_16 : Int) (i_16 : MI), sR x1_16 → okI i_16 → LoopP (b16_X12_placeAll r Q) m16 (x1_16, i_16) → V Γ Δ 542 false i_16 r 0 0 Q0 16 [(0, .ref (sA Δ 504)), (1, .int (sJ x1_16))] [] := by
    intro m16
    induction m16 with
    | zero => intro x1_16 i_16 hx1_16 hi_16 h; exact h.elim
    | succ m16 ih16 =>
      intro x1_16 i_16 hx1_16 hi_16 h
      have h := LoopP_succ h
      simp only [b16_X12_placeAll] at h
      refine V.aload_n (pc := 16) hG dX12_placeAll_16 rfl 0 rfl ?_
      refine V.iload_n (pc := 17) hG dX12_placeAll_17 rfl 1 rfl ?_
      refine V.callVi (pc := 18) (As := [.int (sJ x1_16)]) (stk := []) hG (sm_X12_canPlace l Δ hx1_16 hi_16 hw h) mY_X12_canPlace kw_2157 kw_2159 kw_146 a_504 (by decide) (q := (RX12, TX12, 49)) rfl rfl ⟨Nat.le_of_ble_eq_true rfl, Nat.le_of_ble_eq_true rfl, Nat.le_of_ble_eq_true rfl, Nat.le_of_ble_eq_true rfl⟩ rfl (Nat.le_of_ble_eq_true rfl) dX12_placeAll_18 rfl (fun v35 i36 r37 hv38 hi39 hw40 hq41 => ?_)
      obtain ⟨e46, h⟩ := hq41
      subst e46
      obtain ⟨f44, t43⟩ := h
      refine V.if_ne (pc := 21) (tgt := 30) hG hv38 dX12_placeAll_21 (by decide) (fun c42 => ?_) (fun c42 => ?_)
      · have h := t43 c42
        clear t43 f44
        refine V.iload_n (pc := 30) hG dX12_placeAll_30 rfl 1 rfl ?_
        exact fin dX12_placeAll_31 hx1_16 rfl hi39 hw ⟨rfl, h⟩
      · have h := f44 c42
        clear t43 f44
        refine V.iinc (pc := 24) (lv' := [(1, .int (sJ (wr (x1_16 + 1)))), (0, .ref (sA Δ 504))]) hG dX12_placeAll_24 1 rfl (by decide) rfl ?_
        refine V.goto (pc := 27) (tgt := 16) hG dX12_placeAll_27 (by decide) ?_
        refine V.pick [1, 0] rfl ?_
        exact ih16 (wr (x1_16 + 1)) i36 ((sR_wr _)) hi39 h
  refine V.pick [1, 0] rfl ?_
  exact lp16 n34 (max v8 v15) i9 ((sR_max hv11 hv18)) hi12 h
set_option maxRecDepth 100000 in
set_option maxHeartbeats 4000000 in
theorem sm_X12_byRings (l : Launch) (Δ : Wd) {i r : MI}   {Q : Int → MI → Prop} (hi : okI i) (hw : Wf r) (h : wp_X12_byRings  i r Q) : Met l yX12_byRings (Cond.code yX12_byRings cX12_byRings 1 (some .int) :: gW) (sRm 4 94) (sPc Δ [.ref (sA Δ 504)] i r) (sQi Δ (fun x i' r' => r = r' ∧ Q x i')) 0 0 (sFr Δ) := by
  refine Ct.i (ty := .int) (by decide) rfl (Nat.le_of_ble_eq_true rfl) (fun Γ Q0 hG fin => ?_)
  have hG : okG Γ Δ l (sRm 4 94) cX12_byRings "SchedularyModel" 1 := hG
  show V Γ Δ 542 false i r 0 0 Q0 0 [(0, .ref (sA Δ 504))] []
  refine V.aload_n (pc := 0) hG dX12_byRings_0 rfl 0 rfl ?_
  refine V.iconst (pc := 1) hG dX12_byRings_1 ?_
  refine V.putI (pc := 2) (ci := 14) (k := 0) (M := 49) (T := TX12) (o := 504) (kz := 0) hG a_504 a_504.n (by decide) hin_X12 rfl (by decide) (by decide) rfl kw_1692 rfl tyX12 tyX12_ok nmX12 rfl (ty := tyX12 0) (tyX12_ok 0 (by decide)) rfl rfl dX12_byRings_2 ?_
  refine V.aload_n (pc := 5) hG dX12_byRings_5 rfl 0 rfl ?_
  refine V.callVv (pc := 6) (As := []) (stk := []) hG (sm_X12_build l Δ  ((okI_st hi ((sR_l rfl)))) hw h) mY_X12_build kw_1910 kw_1912 kw_116 a_504 (by decide) (q := (RX12, TX12, 49)) rfl rfl ⟨Nat.le_of_ble_eq_true rfl, Nat.le_of_ble_eq_true rfl, Nat.le_of_ble_eq_true rfl, Nat.le_of_ble_eq_true rfl⟩ rfl (Nat.le_of_ble_eq_true rfl) dX12_byRings_6 rfl (fun i2 r3 hi5 hw6 hq7 => ?_)
  obtain ⟨e18, h⟩ := hq7
  subst e18
  refine V.aload_n (pc := 9) hG dX12_byRings_9 rfl 0 rfl ?_
  refine V.callVi (pc := 10) (As := []) (stk := []) hG (sm_X12_rings l Δ  hi5 hw h) mY_X12_rings kw_2129 kw_2131 kw_141 a_504 (by decide) (q := (RX12, TX12, 49)) rfl rfl ⟨Nat.le_of_ble_eq_true rfl, Nat.le_of_ble_eq_true rfl, Nat.le_of_ble_eq_true rfl, Nat.le_of_ble_eq_true rfl⟩ rfl (Nat.le_of_ble_eq_true rfl) dX12_byRings_10 rfl (fun v8 i9 r10 hv11 hi12 hw13 hq14 => ?_)
  obtain ⟨e16, h⟩ := hq14
  subst e16
  exact fin dX12_byRings_13 hv11 rfl hi12 hw ⟨rfl, h⟩
set_option maxRecDepth 100000 in
set_option maxHeartbeats 4000000 in
theorem sm_X12_byUnits (l : Launch) (Δ : Wd) {i r : MI}   {Q : Int → MI → Prop} (hi : okI i) (hw : Wf r) (h : wp_X12_byUnits  i r Q) : Met l yX12_byUnits (Cond.code yX12_byUnits cX12_byUnits 1 (some .int) :: gW) (sRm 4 94) (sPc Δ [.ref (sA Δ 504)] i r) (sQi Δ (fun x i' r' => r = r' ∧ Q x i')) 0 0 (sFr Δ) := by
  refine Ct.i (ty := .int) (by decide) rfl (Nat.le_of_ble_eq_true rfl) (fun Γ Q0 hG fin => ?_)
  have hG : okG Γ Δ l (sRm 4 94) cX12_byUnits "SchedularyModel" 1 := hG
  show V Γ Δ 542 false i r 0 0 Q0 0 [(0, .ref (sA Δ 504))] []
  refine V.aload_n (pc := 0) hG dX12_byUnits_0 rfl 0 rfl ?_
  refine V.iconst (pc := 1) hG dX12_byUnits_1 ?_
  refine V.putI (pc := 2) (ci := 14) (k := 0) (M := 49) (T := TX12) (o := 504) (kz := 0) hG a_504 a_504.n (by decide) hin_X12 rfl (by decide) (by decide) rfl kw_1692 rfl tyX12 tyX12_ok nmX12 rfl (ty := tyX12 0) (tyX12_ok 0 (by decide)) rfl rfl dX12_byUnits_2 ?_
  refine V.aload_n (pc := 5) hG dX12_byUnits_5 rfl 0 rfl ?_
  refine V.callVv (pc := 6) (As := []) (stk := []) hG (sm_X12_build l Δ  ((okI_st hi ((sR_l rfl)))) hw h) mY_X12_build kw_1910 kw_1912 kw_116 a_504 (by decide) (q := (RX12, TX12, 49)) rfl rfl ⟨Nat.le_of_ble_eq_true rfl, Nat.le_of_ble_eq_true rfl, Nat.le_of_ble_eq_true rfl, Nat.le_of_ble_eq_true rfl⟩ rfl (Nat.le_of_ble_eq_true rfl) dX12_byUnits_6 rfl (fun i2 r3 hi5 hw6 hq7 => ?_)
  obtain ⟨e18, h⟩ := hq7
  subst e18
  refine V.aload_n (pc := 9) hG dX12_byUnits_9 rfl 0 rfl ?_
  refine V.callVi (pc := 10) (As := []) (stk := []) hG (sm_X12_byAllUnits l Δ  hi5 hw h) mY_X12_byAllUnits kw_2141 kw_2143 kw_143 a_504 (by decide) (q := (RX12, TX12, 49)) rfl rfl ⟨Nat.le_of_ble_eq_true rfl, Nat.le_of_ble_eq_true rfl, Nat.le_of_ble_eq_true rfl, Nat.le_of_ble_eq_true rfl⟩ rfl (Nat.le_of_ble_eq_true rfl) dX12_byUnits_10 rfl (fun v8 i9 r10 hv11 hi12 hw13 hq14 => ?_)
  obtain ⟨e15, e16, h⟩ := hq14
  subst e15
  subst e16
  exact fin dX12_byUnits_13 hv11 rfl hi5 hw ⟨rfl, h⟩
set_option maxRecDepth 100000 in
set_option maxHeartbeats 4000000 in
theorem sm_X12_interval (l : Launch) (Δ : Wd) {i r : MI}   {Q : Int → MI → Prop} (hi : okI i) (hw : Wf r) (h : wp_X12_interval  i r Q) : Met l yX12_interval (Cond.code yX12_interval cX12_interval 1 (some .int) :: gW) (sRm 5 115) (sPc Δ [.ref (sA Δ 504)] i r) (sQi Δ (fun x i' r' => r = r' ∧ Q x i')) 0 0 (sFr Δ) := by
  refine Ct.i (ty := .int) (by decide) rfl (Nat.le_of_ble_eq_true rfl) (fun Γ Q0 hG fin => ?_)
  have hG : okG Γ Δ l (sRm 5 115) cX12_interval "SchedularyModel" 1 := hG
  show V Γ Δ 542 false i r 0 0 Q0 0 [(0, .ref (sA Δ 504))] []
  refine V.aload_n (pc := 0) hG dX12_interval_0 rfl 0 rfl ?_
  refine V.iconst (pc := 1) hG dX12_interval_1 ?_
  refine V.putI (pc := 2) (ci := 14) (k := 0) (M := 49) (T := TX12) (o := 504) (kz := 0) hG a_504 a_504.n (by decide) hin_X12 rfl (by decide) (by decide) rfl kw_1692 rfl tyX12 tyX12_ok nmX12 rfl (ty := tyX12 0) (tyX12_ok 0 (by decide)) rfl rfl dX12_interval_2 ?_
  refine V.aload_n (pc := 5) hG dX12_interval_5 rfl 0 rfl ?_
  refine V.callVi (pc := 6) (As := []) (stk := []) hG (sm_X12_placeAll l Δ  ((okI_st hi ((sR_l rfl)))) hw h) mY_X12_placeAll kw_2153 kw_2155 kw_145 a_504 (by decide) (q := (RX12, TX12, 49)) rfl rfl ⟨Nat.le_of_ble_eq_true rfl, Nat.le_of_ble_eq_true rfl, Nat.le_of_ble_eq_true rfl, Nat.le_of_ble_eq_true rfl⟩ rfl (Nat.le_of_ble_eq_true rfl) dX12_interval_6 rfl (fun v1 i2 r3 hv4 hi5 hw6 hq7 => ?_)
  obtain ⟨e9, h⟩ := hq7
  subst e9
  exact fin dX12_interval_9 hv4 rfl hi5 hw ⟨rfl, h⟩
set_option maxRecDepth 100000 in
set_option maxHeartbeats 4000000 in
theorem sm_X12_binds (l : Launch) (Δ : Wd) {i r : MI}   {Q : Int → MI → Prop} (hi : okI i) (hw : Wf r) (h : wp_X12_binds  i r Q) : Met l yX12_binds (Cond.code yX12_binds cX12_binds 4 (some .char) :: gW) (sRm 5 115) (sPc Δ [.ref (sA Δ 504)] i r) (sQi Δ (fun x i' r' => r = r' ∧ Q x i')) 0 0 (sFr Δ) := by
  refine Ct.i (ty := .char) (by decide) rfl (Nat.le_of_ble_eq_true rfl) (fun Γ Q0 hG fin => ?_)
  have hG : okG Γ Δ l (sRm 5 115) cX12_binds "SchedularyModel" 4 := hG
  show V Γ Δ 542 false i r 0 0 Q0 0 [(0, .ref (sA Δ 504))] []
  have jn41 : ∀ (x1j41 : Int) (ij41 : MI), sR x1j41 → okI ij41 → s41_X12_binds x1j41 ij41 r Q → V Γ Δ 542 false ij41 r 0 0 Q0 41 [(0, .ref (sA Δ 504)), (1, .int (sJ x1j41))] [] := by
    intro x1j41 ij41 hx1j41 hij41 h
    refine V.iconst (pc := 41) hG dX12_binds_41 ?_
    refine V.istore_n (pc := 42) (lv' := [(3, .int (sJ 0)), (0, .ref (sA Δ 504)), (1, .int (sJ x1j41))]) hG dX12_binds_42 rfl (by decide) rfl ?_
    obtain ⟨n52, h⟩ := h
    have lp43 : ∀ (m43 : Nat) (x3_43 : Int), sR x3_43 → LoopP (b43_X12_binds x1j41 ij41 r Q) m43 (x3_43) → V Γ Δ 542 false ij41 r 0 0 Q0 43 [(0, .ref (sA Δ 504)), (1, .int (sJ x1j41)), (3, .int (sJ x3_43))] [] := by
      intro m43
      induction m43 with
      | zero => intro x3_43 hx3_43 h; exact h.elim
      | succ m43 ih43 =>
        intro x3_43 hx3_43 h
        have h := LoopP_succ h
        refine V.iload_n (pc := 43) hG dX12_binds_43 rfl 2 rfl ?_
        refine V.bipush (pc := 44) hG dX12_binds_44 (by decide) ?_
        obtain ⟨t54, f55⟩ := h
        refine V.icmp_ge (pc := 46) (tgt := 71) hG hx3_43 ((sR_l rfl)) dX12_binds_46 (by decide) (fun c53 => ?_) (fun c53 => ?_)
        · have h := t54 c53
          clear t54 f55
          refine V.bipush (pc := 71) hG dX12_binds_71 (by decide) ?_
          exact fin dX12_binds_73 ((sR_l rfl)) (nar_c (by decide)) hij41 hw ⟨rfl, h⟩
        · have h := f55 c53
          clear t54 f55
          refine V.aload_n (pc := 49) hG dX12_binds_49 rfl 0 rfl ?_
          refine V.iload_n (pc := 50) hG dX12_binds_50 rfl 2 rfl ?_
          refine V.callVi (pc := 51) (As := [.int (sJ x3_43)]) (stk := []) hG (sm_X12_needs l Δ hx3_43 hij41 hw h) mY_X12_needs kw_2145 kw_2147 kw_144 a_504 (by decide) (q := (RX12, TX12, 49)) rfl rfl ⟨Nat.le_of_ble_eq_true rfl, Nat.le_of_ble_eq_true rfl, Nat.le_of_ble_eq_true rfl, Nat.le_of_ble_eq_true rfl⟩ rfl (Nat.le_of_ble_eq_true rfl) dX12_binds_51 rfl (fun v56 i57 r58 hv59 hi60 hw61 hq62 => ?_)
          obtain ⟨e76, e77, h⟩ := hq62
          subst e76
          subst e77
          refine V.iload_n (pc := 54) hG dX12_binds_54 rfl 1 rfl ?_
          obtain ⟨f65, t64⟩ := h
          refine V.icmp_ne (pc := 55) (tgt := 65) hG hv59 hx1j41 dX12_binds_55 (by decide) (fun c63 => ?_) (fun c63 => ?_)
          · have h := t64 c63
            clear t64 f65
            refine V.iinc (pc := 65) (lv' := [(3, .int (sJ (wr (x3_43 + 1)))), (0, .ref (sA Δ 504)), (1, .int (sJ x1j41))]) hG dX12_binds_65 2 rfl (by decide) rfl ?_
            refine V.goto (pc := 68) (tgt := 43) hG dX12_binds_68 (by decide) ?_
            refine V.pick [1, 2, 0] rfl ?_
            exact ih43 (wr (x3_43 + 1)) ((sR_wr _)) h
          · have h := f65 c63
            clear t64 f65
            refine V.ldcS (pc := 58) (k := 3) (tx := "amgMN<>") hG (by decide) dX12_binds_58 ?_
            refine V.iload_n (pc := 60) hG dX12_binds_60 rfl 2 rfl ?_
            refine V.callVSi (pc := 61) (As := [.int (sJ x3_43)]) (stk := []) hG (sm_J0_charAt_5068e l Δ (by decide) hx3_43 hij41 hw h) mY_J0_charAt_5068e kw_2072 kw_1129 kw_1130 (by decide) rfl ⟨Nat.le_of_ble_eq_true rfl, Nat.le_of_ble_eq_true rfl, Nat.le_of_ble_eq_true rfl, Nat.le_of_ble_eq_true rfl⟩ rfl (Nat.le_of_ble_eq_true rfl) dX12_binds_61 rfl (fun v66 i67 r68 hv69 hi70 hw71 hq72 => ?_)
            obtain ⟨e74, e75, h⟩ := hq72
            subst e74
            subst e75
            obtain ⟨g73, h⟩ := h
            exact fin dX12_binds_64 hv69 (nar_c g73) hij41 hw ⟨rfl, h⟩
    refine V.pick [1, 2, 0] rfl ?_
    exact lp43 n52 0 ((sR_l rfl)) h
  refine V.aload_n (pc := 0) hG dX12_binds_0 rfl 0 rfl ?_
  refine V.iconst (pc := 1) hG dX12_binds_1 ?_
  refine V.putI (pc := 2) (ci := 14) (k := 0) (M := 49) (T := TX12) (o := 504) (kz := 0) hG a_504 a_504.n (by decide) hin_X12 rfl (by decide) (by decide) rfl kw_1692 rfl tyX12 tyX12_ok nmX12 rfl (ty := tyX12 0) (tyX12_ok 0 (by decide)) rfl rfl dX12_binds_2 ?_
  refine V.aload_n (pc := 5) hG dX12_binds_5 rfl 0 rfl ?_
  refine V.callVi (pc := 6) (As := []) (stk := []) hG (sm_X12_placeAll l Δ  ((okI_st hi ((sR_l rfl)))) hw h) mY_X12_placeAll kw_2153 kw_2155 kw_145 a_504 (by decide) (q := (RX12, TX12, 49)) rfl rfl ⟨Nat.le_of_ble_eq_true rfl, Nat.le_of_ble_eq_true rfl, Nat.le_of_ble_eq_true rfl, Nat.le_of_ble_eq_true rfl⟩ rfl (Nat.le_of_ble_eq_true rfl) dX12_binds_6 rfl (fun v78 i79 r80 hv81 hi82 hw83 hq84 => ?_)
  obtain ⟨e113, h⟩ := hq84
  subst e113
  refine V.istore_n (pc := 9) (lv' := [(1, .int (sJ v78)), (0, .ref (sA Δ 504))]) hG dX12_binds_9 rfl (by decide) rfl ?_
  refine V.aload_n (pc := 10) hG dX12_binds_10 rfl 1 rfl ?_
  refine V.callVi (pc := 11) (As := []) (stk := []) hG (sm_X12_byAllUnits l Δ  hi82 hw h) mY_X12_byAllUnits kw_2141 kw_2143 kw_143 a_504 (by decide) (q := (RX12, TX12, 49)) rfl rfl ⟨Nat.le_of_ble_eq_true rfl, Nat.le_of_ble_eq_true rfl, Nat.le_of_ble_eq_true rfl, Nat.le_of_ble_eq_true rfl⟩ rfl (Nat.le_of_ble_eq_true rfl) dX12_binds_11 rfl (fun v85 i86 r87 hv88 hi89 hw90 hq91 => ?_)
  obtain ⟨e110, e111, h⟩ := hq91
  subst e110
  subst e111
  refine V.istore_n (pc := 14) (lv' := [(2, .int (sJ v85)), (1, .int (sJ v78)), (0, .ref (sA Δ 504))]) hG dX12_binds_14 rfl (by decide) rfl ?_
  refine V.aload_n (pc := 15) hG dX12_binds_15 rfl 2 rfl ?_
  refine V.getI (pc := 16) (ci := 14) (k := 21) (M := 49) (T := TX12) (o := 504) (kz := 21) hG a_504 a_504.n (by decide) hin_X12 rfl (by decide) (by decide) rfl kw_1713 rfl dX12_binds_16 ?_
  obtain ⟨f94, t93⟩ := h
  refine V.if_ne (pc := 19) (tgt := 25) hG ((hi82 _ _)) dX12_binds_19 (by decide) (fun c92 => ?_) (fun c92 => ?_)
  · have h := t93 c92
    clear t93 f94
    refine V.iload_n (pc := 25) hG dX12_binds_25 rfl 1 rfl ?_
    refine V.aload_n (pc := 26) hG dX12_binds_26 rfl 2 rfl ?_
    refine V.callVi (pc := 27) (As := []) (stk := [.int (sJ v78)]) hG (sm_X12_rings l Δ  hi82 hw h) mY_X12_rings kw_2129 kw_2131 kw_141 a_504 (by decide) (q := (RX12, TX12, 49)) rfl rfl ⟨Nat.le_of_ble_eq_true rfl, Nat.le_of_ble_eq_true rfl, Nat.le_of_ble_eq_true rfl, Nat.le_of_ble_eq_true rfl⟩ rfl (Nat.le_of_ble_eq_true rfl) dX12_binds_27 rfl (fun v95 i96 r97 hv98 hi99 hw100 hq101 => ?_)
    obtain ⟨e109, h⟩ := hq101
    subst e109
    obtain ⟨f104, t103⟩ := h
    refine V.icmp_ne (pc := 30) (tgt := 41) hG hv81 hv98 dX12_binds_30 (by decide) (fun c102 => ?_) (fun c102 => ?_)
    · have h := t103 c102
      clear t103 f104
      refine V.pick [2, 1] rfl ?_
      exact jn41 v78 i96 hv81 hi99 h
    · have h := f104 c102
      clear t103 f104
      refine V.iload_n (pc := 33) hG dX12_binds_33 rfl 0 rfl ?_
      refine V.iload_n (pc := 34) hG dX12_binds_34 rfl 1 rfl ?_
      obtain ⟨t106, f107⟩ := h
      refine V.icmp_ge (pc := 35) (tgt := 41) hG hv88 hv81 dX12_binds_35 (by decide) (fun c105 => ?_) (fun c105 => ?_)
      · have h := t106 c105
        clear t106 f107
        refine V.pick [2, 1] rfl ?_
        exact jn41 v78 i96 hv81 hi99 h
      · have h := f107 c105
        clear t106 f107
        refine V.bipush (pc := 38) hG dX12_binds_38 (by decide) ?_
        exact fin dX12_binds_40 ((sR_l rfl)) (nar_c (by decide)) hi99 hw ⟨rfl, h⟩
  · have h := f94 c92
    clear t93 f94
    refine V.bipush (pc := 22) hG dX12_binds_22 (by decide) ?_
    exact fin dX12_binds_24 ((sR_l rfl)) (nar_c (by decide)) hi82 hw ⟨rfl, h⟩
set_option maxRecDepth 100000 in
set_option maxHeartbeats 4000000 in
theorem sm_X12_place (l : Launch) (Δ : Wd) {i r : MI} {p1 : Int} (hp1 : sR p1) {Q : Int → MI → Prop} (hi : okI i) (hw : Wf r) (h : wp_X12_place p1 i r Q) : Met l yX12_place (Cond.code yX12_place cX12_place 2 (some .int) :: gW) (sRm 5 115) (sPc Δ [.ref (sA Δ 504), .int (sJ p1)] i r) (sQi Δ (fun x i' r' => r = r' ∧ Q x i')) 0 0 (sFr Δ) := by
  refine Ct.i (ty := .int) (by decide) rfl (Nat.le_of_ble_eq_true rfl) (fun Γ Q0 hG fin => ?_)
  have hG : okG Γ Δ l (sRm 5 115) cX12_place "SchedularyModel" 2 := hG
  show V Γ Δ 542 false i r 0 0 Q0 0 [(0, .ref (sA Δ 504)), (1, .int (sJ p1))] []
  have jn33 : ∀ (k0j33 : Int) (ij33 : MI), sR k0j33 → okI ij33 → s33_X12_place k0j33 ij33 r Q → V Γ Δ 542 false ij33 r 0 0 Q0 33 [] [.int (sJ k0j33)] := by
    intro k0j33 ij33 hk0j33 hij33 h
    exact fin dX12_place_33 hk0j33 rfl hij33 hw ⟨rfl, h⟩
  refine V.aload_n (pc := 0) hG dX12_place_0 rfl 0 rfl ?_
  refine V.iconst (pc := 1) hG dX12_place_1 ?_
  refine V.putI (pc := 2) (ci := 14) (k := 0) (M := 49) (T := TX12) (o := 504) (kz := 0) hG a_504 a_504.n (by decide) hin_X12 rfl (by decide) (by decide) rfl kw_1692 rfl tyX12 tyX12_ok nmX12 rfl (ty := tyX12 0) (tyX12_ok 0 (by decide)) rfl rfl dX12_place_2 ?_
  refine V.aload_n (pc := 5) hG dX12_place_5 rfl 0 rfl ?_
  refine V.callVi (pc := 6) (As := []) (stk := []) hG (sm_X12_placeAll l Δ  ((okI_st hi ((sR_l rfl)))) hw h) mY_X12_placeAll kw_2153 kw_2155 kw_145 a_504 (by decide) (q := (RX12, TX12, 49)) rfl rfl ⟨Nat.le_of_ble_eq_true rfl, Nat.le_of_ble_eq_true rfl, Nat.le_of_ble_eq_true rfl, Nat.le_of_ble_eq_true rfl⟩ rfl (Nat.le_of_ble_eq_true rfl) dX12_place_6 rfl (fun v1 i2 r3 hv4 hi5 hw6 hq7 => ?_)
  obtain ⟨e31, h⟩ := hq7
  subst e31
  refine V.pop (pc := 9) hG dX12_place_9 rfl ?_
  refine V.aload_n (pc := 10) hG dX12_place_10 rfl 0 rfl ?_
  refine V.aload_n (pc := 11) hG dX12_place_11 rfl 0 rfl ?_
  refine V.iload_n (pc := 12) hG dX12_place_12 rfl 1 rfl ?_
  refine V.callVi (pc := 13) (As := [.int (sJ p1)]) (stk := [.ref (sA Δ 504)]) hG (sm_X12_noNode l Δ hp1 hi5 hw h) mY_X12_noNode kw_2068 kw_2070 kw_136 a_504 (by decide) (q := (RX12, TX12, 49)) rfl rfl ⟨Nat.le_of_ble_eq_true rfl, Nat.le_of_ble_eq_true rfl, Nat.le_of_ble_eq_true rfl, Nat.le_of_ble_eq_true rfl⟩ rfl (Nat.le_of_ble_eq_true rfl) dX12_place_13 rfl (fun v8 i9 r10 hv11 hi12 hw13 hq14 => ?_)
  obtain ⟨e28, e29, h⟩ := hq14
  subst e28
  subst e29
  refine V.iconst (pc := 16) hG dX12_place_16 ?_
  refine V.callVi (pc := 17) (As := [.int (sJ v8), .int (sJ 1)]) (stk := []) hG (sm_X12_fails l Δ hv11 ((sR_l rfl)) hi5 hw h) mY_X12_fails kw_1853 kw_1855 kw_106 a_504 (by decide) (q := (RX12, TX12, 49)) rfl rfl ⟨Nat.le_of_ble_eq_true rfl, Nat.le_of_ble_eq_true rfl, Nat.le_of_ble_eq_true rfl, Nat.le_of_ble_eq_true rfl⟩ rfl (Nat.le_of_ble_eq_true rfl) dX12_place_17 rfl (fun v15 i16 r17 hv18 hi19 hw20 hq21 => ?_)
  obtain ⟨e27, h⟩ := hq21
  subst e27
  obtain ⟨t23, f24⟩ := h
  refine V.if_eq (pc := 20) (tgt := 27) hG hv18 dX12_place_20 (by decide) (fun c22 => ?_) (fun c22 => ?_)
  · have h := t23 c22
    clear t23 f24
    refine V.aload_n (pc := 27) hG dX12_place_27 rfl 0 rfl ?_
    refine V.getR (x := 532) (pc := 28) (ci := 14) (k := 40) (M := 49) (T := TX12) (o := 504) (kz := 40) hG a_504 a_504.n (by decide) hin_X12 rfl (by decide) (by decide) rfl kw_1732 rfl ((hw).1 (504, 40, 532) (by decide)) (by decide) dX12_place_28 ?_
    refine V.iload_n (pc := 31) hG dX12_place_31 rfl 1 rfl ?_
    obtain ⟨g25, h⟩ := h
    refine V.iald (pc := 32) (z := 96) (o := 532) hG a_532 a_532.n hp1 g25 dX12_place_32 ?_
    refine V.pick [] rfl ?_
    exact jn33 (i16 532 p1) i16 ((hi19 _ _)) hi19 h
  · have h := f24 c22
    clear t23 f24
    refine V.iconst (pc := 23) hG dX12_place_23 ?_
    refine V.goto (pc := 24) (tgt := 33) hG dX12_place_24 (by decide) ?_
    refine V.pick [] rfl ?_
    exact jn33 0 i16 ((sR_l rfl)) hi19 h
set_option maxRecDepth 100000 in
set_option maxHeartbeats 4000000 in
theorem sm_X12_longest (l : Launch) (Δ : Wd) {i r : MI}   {Q : Int → Prop} (hi : okI i) (hw : Wf r) (h : wp_X12_longest  i r Q) : Met l yX12_longest (Cond.code yX12_longest cX12_longest 3 (some .int) :: gW) (sRm 1 21) (sPc Δ [.ref (sA Δ 504)] i r) (sQi Δ (fun x i' r' => i = i' ∧ r = r' ∧ Q x)) 0 0 (sFr Δ) := by
  refine Ct.i (ty := .int) (by decide) rfl (Nat.le_of_ble_eq_true rfl) (fun Γ Q0 hG fin => ?_)
  have hG : okG Γ Δ l (sRm 1 21) cX12_longest "SchedularyModel" 3 := hG
  show V Γ Δ 542 false i r 0 0 Q0 0 [(0, .ref (sA Δ 504))] []
  refine V.iconst (pc := 0) hG dX12_longest_0 ?_
  refine V.istore_n (pc := 1) (lv' := [(1, .int (sJ 0)), (0, .ref (sA Δ 504))]) hG dX12_longest_1 rfl (by decide) rfl ?_
  refine V.iconst (pc := 2) hG dX12_longest_2 ?_
  refine V.istore_n (pc := 3) (lv' := [(2, .int (sJ 0)), (1, .int (sJ 0)), (0, .ref (sA Δ 504))]) hG dX12_longest_3 rfl (by decide) rfl ?_
  obtain ⟨n14, h⟩ := h
  have lp4 : ∀ (m4 : Nat) (x1_4 : Int) (x2_4 : Int), sR x1_4 → sR x2_4 → LoopP (b4_X12_longest i r Q) m4 (x1_4, x2_4) → V Γ Δ 542 false i r 0 0 Q0 4 [(0, .ref (sA Δ 504)), (1, .int (sJ x1_4)), (2, .int (sJ x2_4))] [] := by
    intro m4
    induction m4 with
    | zero => intro x1_4 x2_4 hx1_4 hx2_4 h; exact h.elim
    | succ m4 ih4 =>
      intro x1_4 x2_4 hx1_4 hx2_4 h
      have h := LoopP_succ h
      refine V.iload_n (pc := 4) hG dX12_longest_4 rfl 2 rfl ?_
      refine V.aload_n (pc := 5) hG dX12_longest_5 rfl 0 rfl ?_
      refine V.getI (pc := 6) (ci := 14) (k := 21) (M := 49) (T := TX12) (o := 504) (kz := 21) hG a_504 a_504.n (by decide) hin_X12 rfl (by decide) (by decide) rfl kw_1713 rfl dX12_longest_6 ?_
      obtain ⟨t16, f17⟩ := h
      refine V.icmp_ge (pc := 9) (tgt := 35) hG hx2_4 ((hi _ _)) dX12_longest_9 (by decide) (fun c15 => ?_) (fun c15 => ?_)
      · have h := t16 c15
        clear t16 f17
        refine V.iload_n (pc := 35) hG dX12_longest_35 rfl 1 rfl ?_
        exact fin dX12_longest_36 hx1_4 rfl hi hw ⟨rfl, rfl, h⟩
      · have h := f17 c15
        clear t16 f17
        refine V.iload_n (pc := 12) hG dX12_longest_12 rfl 1 rfl ?_
        refine V.aload_n (pc := 13) hG dX12_longest_13 rfl 0 rfl ?_
        refine V.getR (x := 532) (pc := 14) (ci := 14) (k := 40) (M := 49) (T := TX12) (o := 504) (kz := 40) hG a_504 a_504.n (by decide) hin_X12 rfl (by decide) (by decide) rfl kw_1732 rfl ((hw).1 (504, 40, 532) (by decide)) (by decide) dX12_longest_14 ?_
        refine V.iload_n (pc := 17) hG dX12_longest_17 rfl 2 rfl ?_
        obtain ⟨g18, h⟩ := h
        refine V.iald (pc := 18) (z := 96) (o := 532) hG a_532 a_532.n hx2_4 g18 dX12_longest_18 ?_
        refine V.aload_n (pc := 19) hG dX12_longest_19 rfl 0 rfl ?_
        refine V.iload_n (pc := 20) hG dX12_longest_20 rfl 2 rfl ?_
        refine V.callVi (pc := 21) (As := [.int (sJ x2_4)]) (stk := [.int (sJ (i 532 x2_4)), .int (sJ x1_4)]) hG (sm_X12_cyclesOf l Δ hx2_4 hi hw h) mY_X12_cyclesOf kw_1947 kw_1949 kw_123 a_504 (by decide) (q := (RX12, TX12, 49)) rfl rfl ⟨Nat.le_of_ble_eq_true rfl, Nat.le_of_ble_eq_true rfl, Nat.le_of_ble_eq_true rfl, Nat.le_of_ble_eq_true rfl⟩ rfl (Nat.le_of_ble_eq_true rfl) dX12_longest_21 rfl (fun v19 i20 r21 hv22 hi23 hw24 hq25 => ?_)
        obtain ⟨e26, e27, h⟩ := hq25
        subst e26
        subst e27
        refine V.iadd (pc := 24) hG dX12_longest_24 ?_
        refine V.mmax (pc := 25) hG hx1_4 ((sR_wr _)) kw_1955 kw_680 kw_173 kw_max ⟨Nat.le_of_ble_eq_true rfl, Nat.le_of_ble_eq_true rfl, Nat.le_of_ble_eq_true rfl, Nat.le_of_ble_eq_true rfl⟩ dX12_longest_25 ?_
        refine V.istore_n (pc := 28) (lv' := [(1, .int (sJ (max x1_4 (wr (i 532 x2_4 + v19))))), (0, .ref (sA Δ 504)), (2, .int (sJ x2_4))]) hG dX12_longest_28 rfl (by decide) rfl ?_
        refine V.iinc (pc := 29) (lv' := [(2, .int (sJ (wr (x2_4 + 1)))), (1, .int (sJ (max x1_4 (wr (i 532 x2_4 + v19))))), (0, .ref (sA Δ 504))]) hG dX12_longest_29 2 rfl (by decide) rfl ?_
        refine V.goto (pc := 32) (tgt := 4) hG dX12_longest_32 (by decide) ?_
        refine V.pick [2, 1, 0] rfl ?_
        exact ih4 (max x1_4 (wr (i 532 x2_4 + v19))) (wr (x2_4 + 1)) ((sR_max hx1_4 ((sR_wr _)))) ((sR_wr _)) h
  refine V.pick [2, 1, 0] rfl ?_
  exact lp4 n14 0 0 ((sR_l rfl)) ((sR_l rfl)) h
set_option maxRecDepth 100000 in
set_option maxHeartbeats 4000000 in
theorem sm_X12_cycles (l : Launch) (Δ : Wd) {i r : MI}   {Q : Int → MI → Prop} (hi : okI i) (hw : Wf r) (h : wp_X12_cycles  i r Q) : Met l yX12_cycles (Cond.code yX12_cycles cX12_cycles 2 (some .int) :: gW) (sRm 5 115) (sPc Δ [.ref (sA Δ 504)] i r) (sQi Δ (fun x i' r' => r = r' ∧ Q x i')) 0 0 (sFr Δ) := by
  refine Ct.i (ty := .int) (by decide) rfl (Nat.le_of_ble_eq_true rfl) (fun Γ Q0 hG fin => ?_)
  have hG : okG Γ Δ l (sRm 5 115) cX12_cycles "SchedularyModel" 2 := hG
  show V Γ Δ 542 false i r 0 0 Q0 0 [(0, .ref (sA Δ 504))] []
  have jn39 : ∀ (k0j39 : Int) (ij39 : MI), sR k0j39 → okI ij39 → s39_X12_cycles k0j39 ij39 r Q → V Γ Δ 542 false ij39 r 0 0 Q0 39 [] [.int (sJ k0j39)] := by
    intro k0j39 ij39 hk0j39 hij39 h
    exact fin dX12_cycles_39 hk0j39 rfl hij39 hw ⟨rfl, h⟩
  refine V.aload_n (pc := 0) hG dX12_cycles_0 rfl 0 rfl ?_
  refine V.iconst (pc := 1) hG dX12_cycles_1 ?_
  refine V.putI (pc := 2) (ci := 14) (k := 0) (M := 49) (T := TX12) (o := 504) (kz := 0) hG a_504 a_504.n (by decide) hin_X12 rfl (by decide) (by decide) rfl kw_1692 rfl tyX12 tyX12_ok nmX12 rfl (ty := tyX12 0) (tyX12_ok 0 (by decide)) rfl rfl dX12_cycles_2 ?_
  refine V.aload_n (pc := 5) hG dX12_cycles_5 rfl 0 rfl ?_
  refine V.callVi (pc := 6) (As := []) (stk := []) hG (sm_X12_placeAll l Δ  ((okI_st hi ((sR_l rfl)))) hw h) mY_X12_placeAll kw_2153 kw_2155 kw_145 a_504 (by decide) (q := (RX12, TX12, 49)) rfl rfl ⟨Nat.le_of_ble_eq_true rfl, Nat.le_of_ble_eq_true rfl, Nat.le_of_ble_eq_true rfl, Nat.le_of_ble_eq_true rfl⟩ rfl (Nat.le_of_ble_eq_true rfl) dX12_cycles_6 rfl (fun v1 i2 r3 hv4 hi5 hw6 hq7 => ?_)
  obtain ⟨e22, h⟩ := hq7
  subst e22
  refine V.istore_n (pc := 9) (lv' := [(1, .int (sJ v1)), (0, .ref (sA Δ 504))]) hG dX12_cycles_9 rfl (by decide) rfl ?_
  refine V.aload_n (pc := 10) hG dX12_cycles_10 rfl 1 rfl ?_
  refine V.getI (pc := 11) (ci := 14) (k := 21) (M := 49) (T := TX12) (o := 504) (kz := 21) hG a_504 a_504.n (by decide) hin_X12 rfl (by decide) (by decide) rfl kw_1713 rfl dX12_cycles_11 ?_
  obtain ⟨f10, t9⟩ := h
  refine V.if_ne (pc := 14) (tgt := 21) hG ((hi5 _ _)) dX12_cycles_14 (by decide) (fun c8 => ?_) (fun c8 => ?_)
  · have h := t9 c8
    clear t9 f10
    refine V.aload_n (pc := 21) hG dX12_cycles_21 rfl 1 rfl ?_
    refine V.callVi (pc := 22) (As := []) (stk := []) hG (sm_X12_longest l Δ  hi5 hw h) mY_X12_longest kw_2177 kw_2179 kw_148 a_504 (by decide) (q := (RX12, TX12, 49)) rfl rfl ⟨Nat.le_of_ble_eq_true rfl, Nat.le_of_ble_eq_true rfl, Nat.le_of_ble_eq_true rfl, Nat.le_of_ble_eq_true rfl⟩ rfl (Nat.le_of_ble_eq_true rfl) dX12_cycles_22 rfl (fun v11 i12 r13 hv14 hi15 hw16 hq17 => ?_)
    obtain ⟨e19, e20, h⟩ := hq17
    subst e19
    subst e20
    refine V.iload_n (pc := 25) hG dX12_cycles_25 rfl 0 rfl ?_
    refine V.aload_n (pc := 26) hG dX12_cycles_26 rfl 1 rfl ?_
    refine V.getI (pc := 27) (ci := 14) (k := 8) (M := 49) (T := TX12) (o := 504) (kz := 8) hG a_504 a_504.n (by decide) hin_X12 rfl (by decide) (by decide) rfl kw_1700 rfl dX12_cycles_27 ?_
    refine V.aload_n (pc := 30) hG dX12_cycles_30 rfl 1 rfl ?_
    refine V.getI (pc := 31) (ci := 14) (k := 10) (M := 49) (T := TX12) (o := 504) (kz := 10) hG a_504 a_504.n (by decide) hin_X12 rfl (by decide) (by decide) rfl kw_1702 rfl dX12_cycles_31 ?_
    obtain ⟨g18, h⟩ := h
    refine V.idiv (pc := 34) hG ((hi5 _ _)) ((hi5 _ _)) g18 dX12_cycles_34 ?_
    refine V.iconst (pc := 35) hG dX12_cycles_35 ?_
    refine V.isub (pc := 36) hG dX12_cycles_36 ?_
    refine V.imul (pc := 37) hG dX12_cycles_37 ?_
    refine V.iadd (pc := 38) hG dX12_cycles_38 ?_
    refine V.pick [] rfl ?_
    exact jn39 (wr (v11 + wr (v1 * wr (wr (Int.tdiv (i2 504 8) (i2 504 10)) - 1)))) i2 ((sR_wr _)) hi5 h
  · have h := f10 c8
    clear t9 f10
    refine V.iconst (pc := 17) hG dX12_cycles_17 ?_
    refine V.goto (pc := 18) (tgt := 39) hG dX12_cycles_18 (by decide) ?_
    refine V.pick [] rfl ?_
    exact jn39 0 i2 ((sR_l rfl)) hi5 h
set_option maxRecDepth 100000 in
set_option maxHeartbeats 4000000 in
theorem sm_X12_oneByOne (l : Launch) (Δ : Wd) {i r : MI}   {Q : Int → MI → Prop} (hi : okI i) (hw : Wf r) (h : wp_X12_oneByOne  i r Q) : Met l yX12_oneByOne (Cond.code yX12_oneByOne cX12_oneByOne 3 (some .int) :: gW) (sRm 4 94) (sPc Δ [.ref (sA Δ 504)] i r) (sQi Δ (fun x i' r' => r = r' ∧ Q x i')) 0 0 (sFr Δ) := by
  refine Ct.i (ty := .int) (by decide) rfl (Nat.le_of_ble_eq_true rfl) (fun Γ Q0 hG fin => ?_)
  have hG : okG Γ Δ l (sRm 4 94) cX12_oneByOne "SchedularyModel" 3 := hG
  show V Γ Δ 542 false i r 0 0 Q0 0 [(0, .ref (sA Δ 504))] []
  refine V.aload_n (pc := 0) hG dX12_oneByOne_0 rfl 0 rfl ?_
  refine V.iconst (pc := 1) hG dX12_oneByOne_1 ?_
  refine V.putI (pc := 2) (ci := 14) (k := 0) (M := 49) (T := TX12) (o := 504) (kz := 0) hG a_504 a_504.n (by decide) hin_X12 rfl (by decide) (by decide) rfl kw_1692 rfl tyX12 tyX12_ok nmX12 rfl (ty := tyX12 0) (tyX12_ok 0 (by decide)) rfl rfl dX12_oneByOne_2 ?_
  refine V.aload_n (pc := 5) hG dX12_oneByOne_5 rfl 0 rfl ?_
  refine V.callVv (pc := 6) (As := []) (stk := []) hG (sm_X12_build l Δ  ((okI_st hi ((sR_l rfl)))) hw h) mY_X12_build kw_1910 kw_1912 kw_116 a_504 (by decide) (q := (RX12, TX12, 49)) rfl rfl ⟨Nat.le_of_ble_eq_true rfl, Nat.le_of_ble_eq_true rfl, Nat.le_of_ble_eq_true rfl, Nat.le_of_ble_eq_true rfl⟩ rfl (Nat.le_of_ble_eq_true rfl) dX12_oneByOne_6 rfl (fun i2 r3 hi5 hw6 hq7 => ?_)
  obtain ⟨e36, h⟩ := hq7
  subst e36
  refine V.iconst (pc := 9) hG dX12_oneByOne_9 ?_
  refine V.istore_n (pc := 10) (lv' := [(1, .int (sJ 0)), (0, .ref (sA Δ 504))]) hG dX12_oneByOne_10 rfl (by decide) rfl ?_
  refine V.iconst (pc := 11) hG dX12_oneByOne_11 ?_
  refine V.istore_n (pc := 12) (lv' := [(2, .int (sJ 0)), (1, .int (sJ 0)), (0, .ref (sA Δ 504))]) hG dX12_oneByOne_12 rfl (by decide) rfl ?_
  obtain ⟨n21, h⟩ := h
  have lp13 : ∀ (m13 : Nat) (x1_13 : Int) (x2_13 : Int), sR x1_13 → sR x2_13 → LoopP (b13_X12_oneByOne i2 r Q) m13 (x1_13, x2_13) → V Γ Δ 542 false i2 r 0 0 Q0 13 [(0, .ref (sA Δ 504)), (1, .int (sJ x1_13)), (2, .int (sJ x2_13))] [] := by
    intro m13
    induction m13 with
    | zero => intro x1_13 x2_13 hx1_13 hx2_13 h; exact h.elim
    | succ m13 ih13 =>
      intro x1_13 x2_13 hx1_13 hx2_13 h
      have h := LoopP_succ h
      refine V.iload_n (pc := 13) hG dX12_oneByOne_13 rfl 2 rfl ?_
      refine V.aload_n (pc := 14) hG dX12_oneByOne_14 rfl 0 rfl ?_
      refine V.getI (pc := 15) (ci := 14) (k := 21) (M := 49) (T := TX12) (o := 504) (kz := 21) hG a_504 a_504.n (by decide) hin_X12 rfl (by decide) (by decide) rfl kw_1713 rfl dX12_oneByOne_15 ?_
      obtain ⟨t23, f24⟩ := h
      refine V.icmp_ge (pc := 18) (tgt := 35) hG hx2_13 ((hi5 _ _)) dX12_oneByOne_18 (by decide) (fun c22 => ?_) (fun c22 => ?_)
      · have h := t23 c22
        clear t23 f24
        refine V.aload_n (pc := 35) hG dX12_oneByOne_35 rfl 0 rfl ?_
        refine V.getI (pc := 36) (ci := 14) (k := 8) (M := 49) (T := TX12) (o := 504) (kz := 8) hG a_504 a_504.n (by decide) hin_X12 rfl (by decide) (by decide) rfl kw_1700 rfl dX12_oneByOne_36 ?_
        refine V.aload_n (pc := 39) hG dX12_oneByOne_39 rfl 0 rfl ?_
        refine V.getI (pc := 40) (ci := 14) (k := 10) (M := 49) (T := TX12) (o := 504) (kz := 10) hG a_504 a_504.n (by decide) hin_X12 rfl (by decide) (by decide) rfl kw_1702 rfl dX12_oneByOne_40 ?_
        obtain ⟨g25, h⟩ := h
        refine V.idiv (pc := 43) hG ((hi5 _ _)) ((hi5 _ _)) g25 dX12_oneByOne_43 ?_
        refine V.iload_n (pc := 44) hG dX12_oneByOne_44 rfl 1 rfl ?_
        refine V.imul (pc := 45) hG dX12_oneByOne_45 ?_
        exact fin dX12_oneByOne_46 ((sR_wr _)) rfl hi5 hw ⟨rfl, h⟩
      · have h := f24 c22
        clear t23 f24
        refine V.iload_n (pc := 21) hG dX12_oneByOne_21 rfl 1 rfl ?_
        refine V.aload_n (pc := 22) hG dX12_oneByOne_22 rfl 0 rfl ?_
        refine V.iload_n (pc := 23) hG dX12_oneByOne_23 rfl 2 rfl ?_
        refine V.callVi (pc := 24) (As := [.int (sJ x2_13)]) (stk := [.int (sJ x1_13)]) hG (sm_X12_cyclesOf l Δ hx2_13 hi5 hw h) mY_X12_cyclesOf kw_1947 kw_1949 kw_123 a_504 (by decide) (q := (RX12, TX12, 49)) rfl rfl ⟨Nat.le_of_ble_eq_true rfl, Nat.le_of_ble_eq_true rfl, Nat.le_of_ble_eq_true rfl, Nat.le_of_ble_eq_true rfl⟩ rfl (Nat.le_of_ble_eq_true rfl) dX12_oneByOne_24 rfl (fun v26 i27 r28 hv29 hi30 hw31 hq32 => ?_)
        obtain ⟨e33, e34, h⟩ := hq32
        subst e33
        subst e34
        refine V.iadd (pc := 27) hG dX12_oneByOne_27 ?_
        refine V.istore_n (pc := 28) (lv' := [(1, .int (sJ (wr (x1_13 + v26)))), (0, .ref (sA Δ 504)), (2, .int (sJ x2_13))]) hG dX12_oneByOne_28 rfl (by decide) rfl ?_
        refine V.iinc (pc := 29) (lv' := [(2, .int (sJ (wr (x2_13 + 1)))), (1, .int (sJ (wr (x1_13 + v26)))), (0, .ref (sA Δ 504))]) hG dX12_oneByOne_29 2 rfl (by decide) rfl ?_
        refine V.goto (pc := 32) (tgt := 13) hG dX12_oneByOne_32 (by decide) ?_
        refine V.pick [2, 1, 0] rfl ?_
        exact ih13 (wr (x1_13 + v26)) (wr (x2_13 + 1)) ((sR_wr _)) ((sR_wr _)) h
  refine V.pick [2, 1, 0] rfl ?_
  exact lp13 n21 0 0 ((sR_l rfl)) ((sR_l rfl)) h
set_option maxRecDepth 100000 in
set_option maxHeartbeats 4000000 in
theorem sm_X12_turnAt (l : Launch) (Δ : Wd) {i r : MI} {p1 : Int} {p2 : Int} {p3 : Int} (hp1 : sR p1) (hp2 : sR p2) (hp3 : sR p3) {Q : Int → Prop} (hi : okI i) (hw : Wf r) (h : wp_X12_turnAt p1 p2 p3 i r Q) : Met l yX12_turnAt (Cond.code yX12_turnAt cX12_turnAt 5 (some .int) :: gW) (sRm 0 0) (sPc Δ [.ref (sA Δ 504), .int (sJ p1), .int (sJ p2), .int (sJ p3)] i r) (sQi Δ (fun x i' r' => i = i' ∧ r = r' ∧ Q x)) 0 0 (sFr Δ) := by
  refine Ct.i (ty := .int) (by decide) rfl (Nat.le_of_ble_eq_true rfl) (fun Γ Q0 hG fin => ?_)
  have hG : okG Γ Δ l (sRm 0 0) cX12_turnAt "SchedularyModel" 5 := hG
  show V Γ Δ 542 false i r 0 0 Q0 0 [(0, .ref (sA Δ 504)), (1, .int (sJ p1)), (2, .int (sJ p2)), (3, .int (sJ p3))] []
  have jn41 : ∀ (k0j41 : Int), sR k0j41 → s41_X12_turnAt k0j41 i r Q → V Γ Δ 542 false i r 0 0 Q0 41 [] [.int (sJ k0j41)] := by
    intro k0j41 hk0j41 h
    exact fin dX12_turnAt_41 hk0j41 rfl hi hw ⟨rfl, rfl, h⟩
  have jn40 : s40_X12_turnAt i r Q → V Γ Δ 542 false i r 0 0 Q0 40 [] [] := by
    intro h
    refine V.iconst (pc := 40) hG dX12_turnAt_40 ?_
    exact jn41 (-1) ((sR_l rfl)) h
  refine V.iload_n (pc := 0) hG dX12_turnAt_0 rfl 1 rfl ?_
  refine V.iload_n (pc := 1) hG dX12_turnAt_1 rfl 2 rfl ?_
  refine V.isub (pc := 2) hG dX12_turnAt_2 ?_
  refine V.istore (pc := 3) (lv' := [(4, .int (sJ (wr (p1 - p2)))), (0, .ref (sA Δ 504)), (1, .int (sJ p1)), (2, .int (sJ p2)), (3, .int (sJ p3))]) hG dX12_turnAt_3 (by decide) rfl ?_
  refine V.iload (pc := 5) hG dX12_turnAt_5 0 rfl ?_
  obtain ⟨t2, f3⟩ := h
  refine V.if_lt (pc := 7) (tgt := 40) hG ((sR_wr _)) dX12_turnAt_7 (by decide) (fun c1 => ?_) (fun c1 => ?_)
  · have h := t2 c1
    clear t2 f3
    refine V.pick [] rfl ?_
    exact jn40 h
  · have h := f3 c1
    clear t2 f3
    refine V.iload (pc := 10) hG dX12_turnAt_10 0 rfl ?_
    refine V.iload_n (pc := 12) hG dX12_turnAt_12 rfl 4 rfl ?_
    obtain ⟨g4, h⟩ := h
    refine V.irem (pc := 13) hG ((sR_wr _)) hp3 g4 dX12_turnAt_13 ?_
    obtain ⟨f7, t6⟩ := h
    refine V.if_ne (pc := 14) (tgt := 40) hG ((sR_tmod ((sR_wr _)))) dX12_turnAt_14 (by decide) (fun c5 => ?_) (fun c5 => ?_)
    · have h := t6 c5
      clear t6 f7
      refine V.pick [] rfl ?_
      exact jn40 h
    · have h := f7 c5
      clear t6 f7
      refine V.iload (pc := 17) hG dX12_turnAt_17 0 rfl ?_
      refine V.iload_n (pc := 19) hG dX12_turnAt_19 rfl 4 rfl ?_
      obtain ⟨g8, h⟩ := h
      refine V.idiv (pc := 20) hG ((sR_wr _)) hp3 g8 dX12_turnAt_20 ?_
      refine V.aload_n (pc := 21) hG dX12_turnAt_21 rfl 1 rfl ?_
      refine V.getI (pc := 22) (ci := 14) (k := 8) (M := 49) (T := TX12) (o := 504) (kz := 8) hG a_504 a_504.n (by decide) hin_X12 rfl (by decide) (by decide) rfl kw_1700 rfl dX12_turnAt_22 ?_
      refine V.aload_n (pc := 25) hG dX12_turnAt_25 rfl 1 rfl ?_
      refine V.getI (pc := 26) (ci := 14) (k := 10) (M := 49) (T := TX12) (o := 504) (kz := 10) hG a_504 a_504.n (by decide) hin_X12 rfl (by decide) (by decide) rfl kw_1702 rfl dX12_turnAt_26 ?_
      obtain ⟨g9, h⟩ := h
      refine V.idiv (pc := 29) hG ((hi _ _)) ((hi _ _)) g9 dX12_turnAt_29 ?_
      obtain ⟨t11, f12⟩ := h
      refine V.icmp_ge (pc := 30) (tgt := 40) hG ((sR_wr _)) ((sR_wr _)) dX12_turnAt_30 (by decide) (fun c10 => ?_) (fun c10 => ?_)
      · have h := t11 c10
        clear t11 f12
        refine V.pick [] rfl ?_
        exact jn40 h
      · have h := f12 c10
        clear t11 f12
        refine V.iload (pc := 33) hG dX12_turnAt_33 0 rfl ?_
        refine V.iload_n (pc := 35) hG dX12_turnAt_35 rfl 4 rfl ?_
        obtain ⟨g13, h⟩ := h
        refine V.idiv (pc := 36) hG ((sR_wr _)) hp3 g13 dX12_turnAt_36 ?_
        refine V.goto (pc := 37) (tgt := 41) hG dX12_turnAt_37 (by decide) ?_
        refine V.pick [] rfl ?_
        exact jn41 (wr (Int.tdiv (wr (p1 - p2)) p3)) ((sR_wr _)) h
set_option maxRecDepth 100000 in
set_option maxHeartbeats 4000000 in
theorem sm_X12_loopTurn (l : Launch) (Δ : Wd) {i r : MI} {p1 : Int} {p2 : Int} (hp1 : sR p1) (hp2 : sR p2) {Q : Int → Prop} (hi : okI i) (hw : Wf r) (h : wp_X12_loopTurn p1 p2 i r Q) : Met l yX12_loopTurn (Cond.code yX12_loopTurn cX12_loopTurn 3 (some .int) :: gW) (sRm 0 0) (sPc Δ [.ref (sA Δ 504), .int (sJ p1), .int (sJ p2)] i r) (sQi Δ (fun x i' r' => i = i' ∧ r = r' ∧ Q x)) 0 0 (sFr Δ) := by
  refine Ct.i (ty := .int) (by decide) rfl (Nat.le_of_ble_eq_true rfl) (fun Γ Q0 hG fin => ?_)
  have hG : okG Γ Δ l (sRm 0 0) cX12_loopTurn "SchedularyModel" 3 := hG
  show V Γ Δ 542 false i r 0 0 Q0 0 [(0, .ref (sA Δ 504)), (1, .int (sJ p1)), (2, .int (sJ p2))] []
  refine V.aload_n (pc := 0) hG dX12_loopTurn_0 rfl 0 rfl ?_
  refine V.getI (pc := 1) (ci := 14) (k := 10) (M := 49) (T := TX12) (o := 504) (kz := 10) hG a_504 a_504.n (by decide) hin_X12 rfl (by decide) (by decide) rfl kw_1702 rfl dX12_loopTurn_1 ?_
  refine V.iload_n (pc := 4) hG dX12_loopTurn_4 rfl 2 rfl ?_
  refine V.imul (pc := 5) hG dX12_loopTurn_5 ?_
  refine V.aload_n (pc := 6) hG dX12_loopTurn_6 rfl 0 rfl ?_
  refine V.getR (x := 515) (pc := 7) (ci := 14) (k := 22) (M := 49) (T := TX12) (o := 504) (kz := 22) hG a_504 a_504.n (by decide) hin_X12 rfl (by decide) (by decide) rfl kw_1714 rfl ((hw).1 (504, 22, 515) (by decide)) (by decide) dX12_loopTurn_7 ?_
  refine V.iload_n (pc := 10) hG dX12_loopTurn_10 rfl 1 rfl ?_
  obtain ⟨g1, h⟩ := h
  refine V.iald (pc := 11) (z := 96) (o := 515) hG a_515 a_515.n hp1 g1 dX12_loopTurn_11 ?_
  refine V.aload_n (pc := 12) hG dX12_loopTurn_12 rfl 0 rfl ?_
  refine V.getI (pc := 13) (ci := 14) (k := 6) (M := 49) (T := TX12) (o := 504) (kz := 6) hG a_504 a_504.n (by decide) hin_X12 rfl (by decide) (by decide) rfl kw_1698 rfl dX12_loopTurn_13 ?_
  obtain ⟨g2, h⟩ := h
  refine V.idiv (pc := 16) hG ((hi _ _)) ((hi _ _)) g2 dX12_loopTurn_16 ?_
  refine V.iadd (pc := 17) hG dX12_loopTurn_17 ?_
  exact fin dX12_loopTurn_18 ((sR_wr _)) rfl hi hw ⟨rfl, rfl, h⟩
set_option maxRecDepth 100000 in
set_option maxHeartbeats 4000000 in
theorem sm_X12_given (l : Launch) (Δ : Wd) {i r : MI} {p1 : Int} {p2 : Int} {p3 : Int} (hp1 : sR p1) (hp2 : sR p2) (hp3 : sR p3) {Q : Int → MI → Prop} (hi : okI i) (hw : Wf r) (h : wp_X12_given p1 p2 p3 i r Q) : Met l yX12_given (Cond.code yX12_given cX12_given 6 (some .int) :: gW) (sRm 3 70) (sPc Δ [.ref (sA Δ 504), .int (sJ p1), .int (sJ p2), .int (sJ p3)] i r) (sQi Δ (fun x i' r' => r = r' ∧ Q x i')) 0 0 (sFr Δ) := by
  refine Ct.i (ty := .int) (by decide) rfl (Nat.le_of_ble_eq_true rfl) (fun Γ Q0 hG fin => ?_)
  have hG : okG Γ Δ l (sRm 3 70) cX12_given "SchedularyModel" 6 := hG
  show V Γ Δ 542 false i r 0 0 Q0 0 [(0, .ref (sA Δ 504)), (1, .int (sJ p1)), (2, .int (sJ p2)), (3, .int (sJ p3))] []
  refine V.bipush (pc := 0) hG dX12_given_0 (by decide) ?_
  refine V.aload_n (pc := 2) hG dX12_given_2 rfl 0 rfl ?_
  refine V.getR (x := 515) (pc := 3) (ci := 14) (k := 22) (M := 49) (T := TX12) (o := 504) (kz := 22) hG a_504 a_504.n (by decide) hin_X12 rfl (by decide) (by decide) rfl kw_1714 rfl ((hw).1 (504, 22, 515) (by decide)) (by decide) dX12_given_3 ?_
  refine V.iload_n (pc := 6) hG dX12_given_6 rfl 1 rfl ?_
  obtain ⟨g1, h⟩ := h
  refine V.iald (pc := 7) (z := 96) (o := 515) hG a_515 a_515.n hp1 g1 dX12_given_7 ?_
  refine V.aload_n (pc := 8) hG dX12_given_8 rfl 0 rfl ?_
  refine V.getI (pc := 9) (ci := 14) (k := 6) (M := 49) (T := TX12) (o := 504) (kz := 6) hG a_504 a_504.n (by decide) hin_X12 rfl (by decide) (by decide) rfl kw_1698 rfl dX12_given_9 ?_
  obtain ⟨g2, h⟩ := h
  refine V.irem (pc := 12) hG ((hi _ _)) ((hi _ _)) g2 dX12_given_12 ?_
  refine V.imul (pc := 13) hG dX12_given_13 ?_
  refine V.iconst (pc := 14) hG dX12_given_14 ?_
  refine V.iadd (pc := 15) hG dX12_given_15 ?_
  refine V.iconst (pc := 16) hG dX12_given_16 ?_
  refine V.iload_n (pc := 17) hG dX12_given_17 rfl 2 rfl ?_
  refine V.imul (pc := 18) hG dX12_given_18 ?_
  refine V.iadd (pc := 19) hG dX12_given_19 ?_
  refine V.istore (pc := 20) (lv' := [(4, .int (sJ (wr (wr (wr (13 * Int.tmod (i 515 p1) (i 504 6)) + 4) + wr (4 * p2))))), (0, .ref (sA Δ 504)), (1, .int (sJ p1)), (2, .int (sJ p2)), (3, .int (sJ p3))]) hG dX12_given_20 (by decide) rfl ?_
  refine V.aload_n (pc := 22) hG dX12_given_22 rfl 1 rfl ?_
  refine V.getR (x := 507) (pc := 23) (ci := 14) (k := 7) (M := 49) (T := TX12) (o := 504) (kz := 7) hG a_504 a_504.n (by decide) hin_X12 rfl (by decide) (by decide) rfl kw_1699 rfl ((hw).1 (504, 7, 507) (by decide)) (by decide) dX12_given_23 ?_
  refine V.iload (pc := 26) hG dX12_given_26 0 rfl ?_
  obtain ⟨g3, h⟩ := h
  refine V.iald (pc := 28) (z := 156) (o := 507) hG a_507 a_507.n ((sR_wr _)) g3 dX12_given_28 ?_
  refine V.callSi (pc := 29) (As := [.int (sJ (i 507 (wr (wr (wr (13 * Int.tmod (i 515 p1) (i 504 6)) + 4) + wr (4 * p2)))))]) (stk := []) hG (sm_X12_isRead l Δ ((hi _ _)) hi hw h) mY_X12_isRead kw_1922 kw_1923 ⟨Nat.le_of_ble_eq_true rfl, Nat.le_of_ble_eq_true rfl, Nat.le_of_ble_eq_true rfl, Nat.le_of_ble_eq_true rfl⟩ rfl (Nat.le_of_ble_eq_true rfl) dX12_given_29 rfl (fun v4 i5 r6 hv7 hi8 hw9 hq10 => ?_)
  obtain ⟨e53, e54, h⟩ := hq10
  subst e53
  subst e54
  obtain ⟨f13, t12⟩ := h
  refine V.if_ne (pc := 32) (tgt := 48) hG hv7 dX12_given_32 (by decide) (fun c11 => ?_) (fun c11 => ?_)
  · have h := t12 c11
    clear t12 f13
    refine V.iload_n (pc := 48) hG dX12_given_48 rfl 2 rfl ?_
    refine V.istore (pc := 49) (lv' := [(5, .int (sJ p1)), (4, .int (sJ (wr (wr (wr (13 * Int.tmod (i 515 p1) (i 504 6)) + 4) + wr (4 * p2))))), (0, .ref (sA Δ 504)), (1, .int (sJ p1)), (2, .int (sJ p2)), (3, .int (sJ p3))]) hG dX12_given_49 (by decide) rfl ?_
    obtain ⟨n24, h⟩ := h
    have lp51 : ∀ (m51 : Nat) (x5_51 : Int), sR x5_51 → LoopP (b51_X12_given p1 p2 p3 i r Q) m51 (x5_51) → V Γ Δ 542 false i r 0 0 Q0 51 [(0, .ref (sA Δ 504)), (1, .int (sJ p1)), (2, .int (sJ p2)), (3, .int (sJ p3)), (5, .int (sJ x5_51))] [] := by
      intro m51
      induction m51 with
      | zero => intro x5_51 hx5_51 h; exact h.elim
      | succ m51 ih51 =>
        intro x5_51 hx5_51 h
        have h := LoopP_succ h
        have jn78 : ∀ (x5j78 : Int), sR x5j78 → s78_X12_given p1 p2 p3 x5j78 i r Q (LoopP (b51_X12_given p1 p2 p3 i r Q) m51) → V Γ Δ 542 false i r 0 0 Q0 78 [(0, .ref (sA Δ 504)), (1, .int (sJ p1)), (2, .int (sJ p2)), (3, .int (sJ p3)), (5, .int (sJ x5j78))] [] := by
          intro x5j78 hx5j78 h
          refine V.iinc (pc := 78) (lv' := [(5, .int (sJ (wr (x5j78 + (-1))))), (0, .ref (sA Δ 504)), (1, .int (sJ p1)), (2, .int (sJ p2)), (3, .int (sJ p3))]) hG dX12_given_78 4 rfl (by decide) rfl ?_
          refine V.goto (pc := 81) (tgt := 51) hG dX12_given_81 (by decide) ?_
          refine V.pick [1, 2, 3, 4, 0] rfl ?_
          exact ih51 (wr (x5j78 + (-1))) ((sR_wr _)) h
        refine V.aload_n (pc := 51) hG dX12_given_51 rfl 0 rfl ?_
        refine V.getR (x := 516) (pc := 52) (ci := 14) (k := 23) (M := 49) (T := TX12) (o := 504) (kz := 23) hG a_504 a_504.n (by decide) hin_X12 rfl (by decide) (by decide) rfl kw_1715 rfl ((hw).1 (504, 23, 516) (by decide)) (by decide) dX12_given_52 ?_
        refine V.iload (pc := 55) hG dX12_given_55 4 rfl ?_
        obtain ⟨g25, h⟩ := h
        refine V.iald (pc := 57) (z := 96) (o := 516) hG a_516 a_516.n hx5_51 g25 dX12_given_57 ?_
        refine V.iload_n (pc := 58) hG dX12_given_58 rfl 2 rfl ?_
        obtain ⟨f28, t27⟩ := h
        refine V.icmp_ne (pc := 59) (tgt := 78) hG ((hi _ _)) hp2 dX12_given_59 (by decide) (fun c26 => ?_) (fun c26 => ?_)
        · have h := t27 c26
          clear t27 f28
          exact jn78 x5_51 hx5_51 h
        · have h := f28 c26
          clear t27 f28
          refine V.aload_n (pc := 62) hG dX12_given_62 rfl 0 rfl ?_
          refine V.getR (x := 515) (pc := 63) (ci := 14) (k := 22) (M := 49) (T := TX12) (o := 504) (kz := 22) hG a_504 a_504.n (by decide) hin_X12 rfl (by decide) (by decide) rfl kw_1714 rfl ((hw).1 (504, 22, 515) (by decide)) (by decide) dX12_given_63 ?_
          refine V.iload (pc := 66) hG dX12_given_66 4 rfl ?_
          obtain ⟨g29, h⟩ := h
          refine V.iald (pc := 68) (z := 96) (o := 515) hG a_515 a_515.n hx5_51 g29 dX12_given_68 ?_
          refine V.aload_n (pc := 69) hG dX12_given_69 rfl 0 rfl ?_
          refine V.getR (x := 515) (pc := 70) (ci := 14) (k := 22) (M := 49) (T := TX12) (o := 504) (kz := 22) hG a_504 a_504.n (by decide) hin_X12 rfl (by decide) (by decide) rfl kw_1714 rfl ((hw).1 (504, 22, 515) (by decide)) (by decide) dX12_given_70 ?_
          refine V.iload_n (pc := 73) hG dX12_given_73 rfl 1 rfl ?_
          obtain ⟨g30, h⟩ := h
          refine V.iald (pc := 74) (z := 96) (o := 515) hG a_515 a_515.n hp1 g30 dX12_given_74 ?_
          obtain ⟨t32, f33⟩ := h
          refine V.icmp_eq (pc := 75) (tgt := 84) hG ((hi _ _)) ((hi _ _)) dX12_given_75 (by decide) (fun c31 => ?_) (fun c31 => ?_)
          · have h := t32 c31
            clear t32 f33
            refine V.aload_n (pc := 84) hG dX12_given_84 rfl 0 rfl ?_
            refine V.getR (x := 534) (pc := 85) (ci := 14) (k := 42) (M := 49) (T := TX12) (o := 504) (kz := 42) hG a_504 a_504.n (by decide) hin_X12 rfl (by decide) (by decide) rfl kw_1734 rfl ((hw).1 (504, 42, 534) (by decide)) (by decide) dX12_given_85 ?_
            refine V.bipush (pc := 88) hG dX12_given_88 (by decide) ?_
            refine V.iload_n (pc := 90) hG dX12_given_90 rfl 3 rfl ?_
            refine V.imul (pc := 91) hG dX12_given_91 ?_
            refine V.iload (pc := 92) hG dX12_given_92 4 rfl ?_
            refine V.iadd (pc := 94) hG dX12_given_94 ?_
            obtain ⟨g34, h⟩ := h
            refine V.iald (pc := 95) (z := 1536) (o := 534) hG a_534 a_534.n ((sR_wr _)) g34 dX12_given_95 ?_
            exact fin dX12_given_96 ((hi _ _)) rfl hi hw ⟨rfl, h⟩
          · have h := f33 c31
            clear t32 f33
            exact jn78 x5_51 hx5_51 h
    refine V.pick [2, 3, 4, 5, 0] rfl ?_
    exact lp51 n24 p1 hp1 h
  · have h := f13 c11
    clear t12 f13
    refine V.aload_n (pc := 35) hG dX12_given_35 rfl 1 rfl ?_
    refine V.iload (pc := 36) hG dX12_given_36 0 rfl ?_
    refine V.aload_n (pc := 38) hG dX12_given_38 rfl 1 rfl ?_
    refine V.iload_n (pc := 39) hG dX12_given_39 rfl 2 rfl ?_
    refine V.iload_n (pc := 40) hG dX12_given_40 rfl 4 rfl ?_
    refine V.callVi (pc := 41) (As := [.int (sJ p1), .int (sJ p3)]) (stk := [.int (sJ (wr (wr (wr (13 * Int.tmod (i 515 p1) (i 504 6)) + 4) + wr (4 * p2)))), .ref (sA Δ 504)]) hG (sm_X12_loopTurn l Δ hp1 hp3 hi hw h) mY_X12_loopTurn kw_2201 kw_2203 kw_152 a_504 (by decide) (q := (RX12, TX12, 49)) rfl rfl ⟨Nat.le_of_ble_eq_true rfl, Nat.le_of_ble_eq_true rfl, Nat.le_of_ble_eq_true rfl, Nat.le_of_ble_eq_true rfl⟩ rfl (Nat.le_of_ble_eq_true rfl) dX12_given_41 rfl (fun v35 i36 r37 hv38 hi39 hw40 hq41 => ?_)
    obtain ⟨e51, e52, h⟩ := hq41
    subst e51
    subst e52
    refine V.callVi (pc := 44) (As := [.int (sJ (wr (wr (wr (13 * Int.tmod (i 515 p1) (i 504 6)) + 4) + wr (4 * p2)))), .int (sJ v35)]) (stk := []) hG (sm_X12_operand l Δ ((sR_wr _)) hv38 hi hw h) mY_X12_operand kw_2024 kw_2026 kw_132 a_504 (by decide) (q := (RX12, TX12, 49)) rfl rfl ⟨Nat.le_of_ble_eq_true rfl, Nat.le_of_ble_eq_true rfl, Nat.le_of_ble_eq_true rfl, Nat.le_of_ble_eq_true rfl⟩ rfl (Nat.le_of_ble_eq_true rfl) dX12_given_44 rfl (fun v42 i43 r44 hv45 hi46 hw47 hq48 => ?_)
    obtain ⟨e50, h⟩ := hq48
    subst e50
    exact fin dX12_given_47 hv45 rfl hi46 hw ⟨rfl, h⟩
set_option maxRecDepth 100000 in
set_option maxHeartbeats 4000000 in
theorem sm_X12_valueOf (l : Launch) (Δ : Wd) {i r : MI} {p1 : Int} {p2 : Int} (hp1 : sR p1) (hp2 : sR p2) {Q : Int → MI → Prop} (hi : okI i) (hw : Wf r) (h : wp_X12_valueOf p1 p2 i r Q) : Met l yX12_valueOf (Cond.code yX12_valueOf cX12_valueOf 5 (some .int) :: gW) (sRm 4 95) (sPc Δ [.ref (sA Δ 504), .int (sJ p1), .int (sJ p2)] i r) (sQi Δ (fun x i' r' => r = r' ∧ Q x i')) 0 0 (sFr Δ) := by
  refine Ct.i (ty := .int) (by decide) rfl (Nat.le_of_ble_eq_true rfl) (fun Γ Q0 hG fin => ?_)
  have hG : okG Γ Δ l (sRm 4 95) cX12_valueOf "SchedularyModel" 5 := hG
  show V Γ Δ 542 false i r 0 0 Q0 0 [(0, .ref (sA Δ 504)), (1, .int (sJ p1)), (2, .int (sJ p2))] []
  have jn138 : ∀ (k0j138 : Int) (ij138 : MI), sR k0j138 → okI ij138 → s138_X12_valueOf k0j138 ij138 r Q → V Γ Δ 542 false ij138 r 0 0 Q0 138 [] [.int (sJ k0j138)] := by
    intro k0j138 ij138 hk0j138 hij138 h
    exact fin dX12_valueOf_138 hk0j138 rfl hij138 hw ⟨rfl, h⟩
  refine V.bipush (pc := 0) hG dX12_valueOf_0 (by decide) ?_
  refine V.aload_n (pc := 2) hG dX12_valueOf_2 rfl 0 rfl ?_
  refine V.getR (x := 515) (pc := 3) (ci := 14) (k := 22) (M := 49) (T := TX12) (o := 504) (kz := 22) hG a_504 a_504.n (by decide) hin_X12 rfl (by decide) (by decide) rfl kw_1714 rfl ((hw).1 (504, 22, 515) (by decide)) (by decide) dX12_valueOf_3 ?_
  refine V.iload_n (pc := 6) hG dX12_valueOf_6 rfl 1 rfl ?_
  obtain ⟨g1, h⟩ := h
  refine V.iald (pc := 7) (z := 96) (o := 515) hG a_515 a_515.n hp1 g1 dX12_valueOf_7 ?_
  refine V.aload_n (pc := 8) hG dX12_valueOf_8 rfl 0 rfl ?_
  refine V.getI (pc := 9) (ci := 14) (k := 6) (M := 49) (T := TX12) (o := 504) (kz := 6) hG a_504 a_504.n (by decide) hin_X12 rfl (by decide) (by decide) rfl kw_1698 rfl dX12_valueOf_9 ?_
  obtain ⟨g2, h⟩ := h
  refine V.irem (pc := 12) hG ((hi _ _)) ((hi _ _)) g2 dX12_valueOf_12 ?_
  refine V.imul (pc := 13) hG dX12_valueOf_13 ?_
  refine V.istore_n (pc := 14) (lv' := [(3, .int (sJ (wr (13 * Int.tmod (i 515 p1) (i 504 6))))), (0, .ref (sA Δ 504)), (1, .int (sJ p1)), (2, .int (sJ p2))]) hG dX12_valueOf_14 rfl (by decide) rfl ?_
  refine V.aload_n (pc := 15) hG dX12_valueOf_15 rfl 1 rfl ?_
  refine V.getR (x := 507) (pc := 16) (ci := 14) (k := 7) (M := 49) (T := TX12) (o := 504) (kz := 7) hG a_504 a_504.n (by decide) hin_X12 rfl (by decide) (by decide) rfl kw_1699 rfl ((hw).1 (504, 7, 507) (by decide)) (by decide) dX12_valueOf_16 ?_
  refine V.iload_n (pc := 19) hG dX12_valueOf_19 rfl 0 rfl ?_
  refine V.bipush (pc := 20) hG dX12_valueOf_20 (by decide) ?_
  refine V.iadd (pc := 22) hG dX12_valueOf_22 ?_
  obtain ⟨g3, h⟩ := h
  refine V.iald (pc := 23) (z := 156) (o := 507) hG a_507 a_507.n ((sR_wr _)) g3 dX12_valueOf_23 ?_
  refine V.istore (pc := 24) (lv' := [(4, .int (sJ (i 507 (wr (wr (13 * Int.tmod (i 515 p1) (i 504 6)) + 12))))), (3, .int (sJ (wr (13 * Int.tmod (i 515 p1) (i 504 6))))), (0, .ref (sA Δ 504)), (1, .int (sJ p1)), (2, .int (sJ p2))]) hG dX12_valueOf_24 (by decide) rfl ?_
  refine V.aload_n (pc := 26) hG dX12_valueOf_26 rfl 2 rfl ?_
  refine V.getR (x := 516) (pc := 27) (ci := 14) (k := 23) (M := 49) (T := TX12) (o := 504) (kz := 23) hG a_504 a_504.n (by decide) hin_X12 rfl (by decide) (by decide) rfl kw_1715 rfl ((hw).1 (504, 23, 516) (by decide)) (by decide) dX12_valueOf_27 ?_
  refine V.iload_n (pc := 30) hG dX12_valueOf_30 rfl 3 rfl ?_
  obtain ⟨g4, h⟩ := h
  refine V.iald (pc := 31) (z := 96) (o := 516) hG a_516 a_516.n hp1 g4 dX12_valueOf_31 ?_
  obtain ⟨t6, f7⟩ := h
  by_cases c5 : i 516 p1 = 0
  · have h := t6 c5
    clear t6 f7
    refine V.tableIn (pc := 32) (tgt := 60) (off := 28) hG ((hi _ _)) dX12_valueOf_32 (by omega) (by omega) (by rw [c5]; rfl) (by decide) ?_
    refine V.aload_n (pc := 60) hG dX12_valueOf_60 rfl 2 rfl ?_
    refine V.iload_n (pc := 61) hG dX12_valueOf_61 rfl 1 rfl ?_
    refine V.iconst (pc := 62) hG dX12_valueOf_62 ?_
    refine V.iadd (pc := 63) hG dX12_valueOf_63 ?_
    refine V.aload_n (pc := 64) hG dX12_valueOf_64 rfl 2 rfl ?_
    refine V.iload_n (pc := 65) hG dX12_valueOf_65 rfl 3 rfl ?_
    refine V.iload_n (pc := 66) hG dX12_valueOf_66 rfl 4 rfl ?_
    refine V.callVi (pc := 67) (As := [.int (sJ p1), .int (sJ p2)]) (stk := [.int (sJ (wr (wr (13 * Int.tmod (i 515 p1) (i 504 6)) + 4))), .ref (sA Δ 504)]) hG (sm_X12_loopTurn l Δ hp1 hp2 hi hw h) mY_X12_loopTurn kw_2201 kw_2203 kw_152 a_504 (by decide) (q := (RX12, TX12, 49)) rfl rfl ⟨Nat.le_of_ble_eq_true rfl, Nat.le_of_ble_eq_true rfl, Nat.le_of_ble_eq_true rfl, Nat.le_of_ble_eq_true rfl⟩ rfl (Nat.le_of_ble_eq_true rfl) dX12_valueOf_67 rfl (fun v8 i9 r10 hv11 hi12 hw13 hq14 => ?_)
    obtain ⟨e24, e25, h⟩ := hq14
    subst e24
    subst e25
    refine V.callVi (pc := 70) (As := [.int (sJ (wr (wr (13 * Int.tmod (i 515 p1) (i 504 6)) + 4))), .int (sJ v8)]) (stk := []) hG (sm_X12_operand l Δ ((sR_wr _)) hv11 hi hw h) mY_X12_operand kw_2024 kw_2026 kw_132 a_504 (by decide) (q := (RX12, TX12, 49)) rfl rfl ⟨Nat.le_of_ble_eq_true rfl, Nat.le_of_ble_eq_true rfl, Nat.le_of_ble_eq_true rfl, Nat.le_of_ble_eq_true rfl⟩ rfl (Nat.le_of_ble_eq_true rfl) dX12_valueOf_70 rfl (fun v15 i16 r17 hv18 hi19 hw20 hq21 => ?_)
    obtain ⟨e23, h⟩ := hq21
    subst e23
    exact fin dX12_valueOf_73 hv18 rfl hi19 hw ⟨rfl, h⟩
  · have h := f7 c5
    clear t6 f7
    obtain ⟨t27, f28⟩ := h
    by_cases c26 : i 516 p1 = 1
    · have h := t27 c26
      clear t27 f28
      refine V.tableIn (pc := 32) (tgt := 74) (off := 42) hG ((hi _ _)) dX12_valueOf_32 (by omega) (by omega) (by rw [c26]; rfl) (by decide) ?_
      refine V.aload_n (pc := 74) hG dX12_valueOf_74 rfl 2 rfl ?_
      refine V.iload_n (pc := 75) hG dX12_valueOf_75 rfl 1 rfl ?_
      refine V.bipush (pc := 76) hG dX12_valueOf_76 (by decide) ?_
      refine V.iadd (pc := 78) hG dX12_valueOf_78 ?_
      refine V.aload_n (pc := 79) hG dX12_valueOf_79 rfl 2 rfl ?_
      refine V.iload_n (pc := 80) hG dX12_valueOf_80 rfl 3 rfl ?_
      refine V.iload_n (pc := 81) hG dX12_valueOf_81 rfl 4 rfl ?_
      refine V.callVi (pc := 82) (As := [.int (sJ p1), .int (sJ p2)]) (stk := [.int (sJ (wr (wr (13 * Int.tmod (i 515 p1) (i 504 6)) + 8))), .ref (sA Δ 504)]) hG (sm_X12_loopTurn l Δ hp1 hp2 hi hw h) mY_X12_loopTurn kw_2201 kw_2203 kw_152 a_504 (by decide) (q := (RX12, TX12, 49)) rfl rfl ⟨Nat.le_of_ble_eq_true rfl, Nat.le_of_ble_eq_true rfl, Nat.le_of_ble_eq_true rfl, Nat.le_of_ble_eq_true rfl⟩ rfl (Nat.le_of_ble_eq_true rfl) dX12_valueOf_82 rfl (fun v29 i30 r31 hv32 hi33 hw34 hq35 => ?_)
      obtain ⟨e45, e46, h⟩ := hq35
      subst e45
      subst e46
      refine V.callVi (pc := 85) (As := [.int (sJ (wr (wr (13 * Int.tmod (i 515 p1) (i 504 6)) + 8))), .int (sJ v29)]) (stk := []) hG (sm_X12_operand l Δ ((sR_wr _)) hv32 hi hw h) mY_X12_operand kw_2024 kw_2026 kw_132 a_504 (by decide) (q := (RX12, TX12, 49)) rfl rfl ⟨Nat.le_of_ble_eq_true rfl, Nat.le_of_ble_eq_true rfl, Nat.le_of_ble_eq_true rfl, Nat.le_of_ble_eq_true rfl⟩ rfl (Nat.le_of_ble_eq_true rfl) dX12_valueOf_85 rfl (fun v36 i37 r38 hv39 hi40 hw41 hq42 => ?_)
      obtain ⟨e44, h⟩ := hq42
      subst e44
      exact fin dX12_valueOf_88 hv39 rfl hi40 hw ⟨rfl, h⟩
    · have h := f28 c26
      clear t27 f28
      obtain ⟨t48, f49⟩ := h
      by_cases c47 : i 516 p1 = 2
      · have h := t48 c47
        clear t48 f49
        refine V.tableIn (pc := 32) (tgt := 89) (off := 57) hG ((hi _ _)) dX12_valueOf_32 (by omega) (by omega) (by rw [c47]; rfl) (by decide) ?_
        refine V.aload_n (pc := 89) hG dX12_valueOf_89 rfl 2 rfl ?_
        refine V.iload (pc := 90) hG dX12_valueOf_90 0 rfl ?_
        refine V.aload_n (pc := 92) hG dX12_valueOf_92 rfl 2 rfl ?_
        refine V.iload_n (pc := 93) hG dX12_valueOf_93 rfl 3 rfl ?_
        refine V.iconst (pc := 94) hG dX12_valueOf_94 ?_
        refine V.iload_n (pc := 95) hG dX12_valueOf_95 rfl 4 rfl ?_
        refine V.callVi (pc := 96) (As := [.int (sJ p1), .int (sJ 0), .int (sJ p2)]) (stk := [.int (sJ (i 507 (wr (wr (13 * Int.tmod (i 515 p1) (i 504 6)) + 12)))), .ref (sA Δ 504)]) hG (sm_X12_given l Δ hp1 ((sR_l rfl)) hp2 hi hw h) mY_X12_given kw_2209 kw_2211 kw_154 a_504 (by decide) (q := (RX12, TX12, 49)) rfl rfl ⟨Nat.le_of_ble_eq_true rfl, Nat.le_of_ble_eq_true rfl, Nat.le_of_ble_eq_true rfl, Nat.le_of_ble_eq_true rfl⟩ rfl (Nat.le_of_ble_eq_true rfl) dX12_valueOf_96 rfl (fun v50 i51 r52 hv53 hi54 hw55 hq56 => ?_)
        obtain ⟨e76, h⟩ := hq56
        subst e76
        refine V.aload_n (pc := 99) hG dX12_valueOf_99 rfl 2 rfl ?_
        refine V.iload_n (pc := 100) hG dX12_valueOf_100 rfl 3 rfl ?_
        refine V.iconst (pc := 101) hG dX12_valueOf_101 ?_
        refine V.iload_n (pc := 102) hG dX12_valueOf_102 rfl 4 rfl ?_
        refine V.callVi (pc := 103) (As := [.int (sJ p1), .int (sJ 1), .int (sJ p2)]) (stk := [.int (sJ v50), .int (sJ (i 507 (wr (wr (13 * Int.tmod (i 515 p1) (i 504 6)) + 12)))), .ref (sA Δ 504)]) hG (sm_X12_given l Δ hp1 ((sR_l rfl)) hp2 hi54 hw h) mY_X12_given kw_2209 kw_2211 kw_154 a_504 (by decide) (q := (RX12, TX12, 49)) rfl rfl ⟨Nat.le_of_ble_eq_true rfl, Nat.le_of_ble_eq_true rfl, Nat.le_of_ble_eq_true rfl, Nat.le_of_ble_eq_true rfl⟩ rfl (Nat.le_of_ble_eq_true rfl) dX12_valueOf_103 rfl (fun v57 i58 r59 hv60 hi61 hw62 hq63 => ?_)
        obtain ⟨e74, h⟩ := hq63
        subst e74
        refine V.callVi (pc := 106) (As := [.int (sJ (i 507 (wr (wr (13 * Int.tmod (i 515 p1) (i 504 6)) + 12)))), .int (sJ v50), .int (sJ v57)]) (stk := []) hG (sm_X12_operate l Δ ((hi _ _)) hv53 hv60 hi61 hw h) mY_X12_operate kw_2035 kw_2037 kw_134 a_504 (by decide) (q := (RX12, TX12, 49)) rfl rfl ⟨Nat.le_of_ble_eq_true rfl, Nat.le_of_ble_eq_true rfl, Nat.le_of_ble_eq_true rfl, Nat.le_of_ble_eq_true rfl⟩ rfl (Nat.le_of_ble_eq_true rfl) dX12_valueOf_106 rfl (fun v64 i65 r66 hv67 hi68 hw69 hq70 => ?_)
        obtain ⟨e71, e72, h⟩ := hq70
        subst e71
        subst e72
        exact fin dX12_valueOf_109 hv67 rfl hi61 hw ⟨rfl, h⟩
      · have h := f49 c47
        clear t48 f49
        refine V.tableOut (pc := 32) (tgt := 110) hG ((hi _ _)) dX12_valueOf_32 (by omega) (by decide) ?_
        refine V.iload (pc := 110) hG dX12_valueOf_110 0 rfl ?_
        obtain ⟨f79, t78⟩ := h
        refine V.if_ne (pc := 112) (tgt := 125) hG ((hi _ _)) dX12_valueOf_112 (by decide) (fun c77 => ?_) (fun c77 => ?_)
        · have h := t78 c77
          clear t78 f79
          refine V.aload_n (pc := 125) hG dX12_valueOf_125 rfl 2 rfl ?_
          refine V.getR (x := 534) (pc := 126) (ci := 14) (k := 42) (M := 49) (T := TX12) (o := 504) (kz := 42) hG a_504 a_504.n (by decide) hin_X12 rfl (by decide) (by decide) rfl kw_1734 rfl ((hw).1 (504, 42, 534) (by decide)) (by decide) dX12_valueOf_126 ?_
          refine V.bipush (pc := 129) hG dX12_valueOf_129 (by decide) ?_
          refine V.iload_n (pc := 131) hG dX12_valueOf_131 rfl 4 rfl ?_
          refine V.imul (pc := 132) hG dX12_valueOf_132 ?_
          refine V.iload_n (pc := 133) hG dX12_valueOf_133 rfl 3 rfl ?_
          refine V.iadd (pc := 134) hG dX12_valueOf_134 ?_
          refine V.iconst (pc := 135) hG dX12_valueOf_135 ?_
          refine V.isub (pc := 136) hG dX12_valueOf_136 ?_
          obtain ⟨g80, h⟩ := h
          refine V.iald (pc := 137) (z := 1536) (o := 534) hG a_534 a_534.n ((sR_wr _)) g80 dX12_valueOf_137 ?_
          refine V.pick [] rfl ?_
          exact jn138 (i 534 (wr (wr (wr (96 * p2) + p1) - 1))) i ((hi _ _)) hi h
        · have h := f79 c77
          clear t78 f79
          refine V.aload_n (pc := 115) hG dX12_valueOf_115 rfl 2 rfl ?_
          refine V.iload_n (pc := 116) hG dX12_valueOf_116 rfl 3 rfl ?_
          refine V.iconst (pc := 117) hG dX12_valueOf_117 ?_
          refine V.iload_n (pc := 118) hG dX12_valueOf_118 rfl 4 rfl ?_
          refine V.callVi (pc := 119) (As := [.int (sJ p1), .int (sJ 0), .int (sJ p2)]) (stk := []) hG (sm_X12_given l Δ hp1 ((sR_l rfl)) hp2 hi hw h) mY_X12_given kw_2209 kw_2211 kw_154 a_504 (by decide) (q := (RX12, TX12, 49)) rfl rfl ⟨Nat.le_of_ble_eq_true rfl, Nat.le_of_ble_eq_true rfl, Nat.le_of_ble_eq_true rfl, Nat.le_of_ble_eq_true rfl⟩ rfl (Nat.le_of_ble_eq_true rfl) dX12_valueOf_119 rfl (fun v81 i82 r83 hv84 hi85 hw86 hq87 => ?_)
          obtain ⟨e89, h⟩ := hq87
          subst e89
          refine V.goto (pc := 122) (tgt := 138) hG dX12_valueOf_122 (by decide) ?_
          refine V.pick [] rfl ?_
          exact jn138 v81 i82 hv84 hi85 h
set_option maxRecDepth 100000 in
set_option maxHeartbeats 4000000 in
theorem sm_X12_isLastOf (l : Launch) (Δ : Wd) {i r : MI} {p1 : Int} (hp1 : sR p1) {Q : Int → Prop} (hi : okI i) (hw : Wf r) (h : wp_X12_isLastOf p1 i r Q) : Met l yX12_isLastOf (Cond.code yX12_isLastOf cX12_isLastOf 2 (some .boolean) :: gW) (sRm 0 0) (sPc Δ [.ref (sA Δ 504), .int (sJ p1)] i r) (sQi Δ (fun x i' r' => i = i' ∧ r = r' ∧ Q x)) 0 0 (sFr Δ) := by
  refine Ct.i (ty := .boolean) (by decide) rfl (Nat.le_of_ble_eq_true rfl) (fun Γ Q0 hG fin => ?_)
  have hG : okG Γ Δ l (sRm 0 0) cX12_isLastOf "SchedularyModel" 2 := hG
  show V Γ Δ 542 false i r 0 0 Q0 0 [(0, .ref (sA Δ 504)), (1, .int (sJ p1))] []
  have jn32 : ∀ (k0j32 : Int), sR k0j32 → s32_X12_isLastOf k0j32 i r Q → V Γ Δ 542 false i r 0 0 Q0 32 [] [.int (sJ k0j32)] := by
    intro k0j32 hk0j32 h
    obtain ⟨g2, h⟩ := h
    exact fin dX12_isLastOf_32 hk0j32 (nar_z g2) hi hw ⟨rfl, rfl, h⟩
  have jn27 : s27_X12_isLastOf i r Q → V Γ Δ 542 false i r 0 0 Q0 27 [] [] := by
    intro h
    refine V.iconst (pc := 27) hG dX12_isLastOf_27 ?_
    refine V.goto (pc := 28) (tgt := 32) hG dX12_isLastOf_28 (by decide) ?_
    exact jn32 1 ((sR_l rfl)) h
  refine V.iload_n (pc := 0) hG dX12_isLastOf_0 rfl 1 rfl ?_
  refine V.iconst (pc := 1) hG dX12_isLastOf_1 ?_
  refine V.iadd (pc := 2) hG dX12_isLastOf_2 ?_
  refine V.aload_n (pc := 3) hG dX12_isLastOf_3 rfl 0 rfl ?_
  refine V.getI (pc := 4) (ci := 14) (k := 21) (M := 49) (T := TX12) (o := 504) (kz := 21) hG a_504 a_504.n (by decide) hin_X12 rfl (by decide) (by decide) rfl kw_1713 rfl dX12_isLastOf_4 ?_
  obtain ⟨t4, f5⟩ := h
  refine V.icmp_eq (pc := 7) (tgt := 27) hG ((sR_wr _)) ((hi _ _)) dX12_isLastOf_7 (by decide) (fun c3 => ?_) (fun c3 => ?_)
  · have h := t4 c3
    clear t4 f5
    refine V.pick [] rfl ?_
    exact jn27 h
  · have h := f5 c3
    clear t4 f5
    refine V.aload_n (pc := 10) hG dX12_isLastOf_10 rfl 0 rfl ?_
    refine V.getR (x := 515) (pc := 11) (ci := 14) (k := 22) (M := 49) (T := TX12) (o := 504) (kz := 22) hG a_504 a_504.n (by decide) hin_X12 rfl (by decide) (by decide) rfl kw_1714 rfl ((hw).1 (504, 22, 515) (by decide)) (by decide) dX12_isLastOf_11 ?_
    refine V.iload_n (pc := 14) hG dX12_isLastOf_14 rfl 1 rfl ?_
    refine V.iconst (pc := 15) hG dX12_isLastOf_15 ?_
    refine V.iadd (pc := 16) hG dX12_isLastOf_16 ?_
    obtain ⟨g6, h⟩ := h
    refine V.iald (pc := 17) (z := 96) (o := 515) hG a_515 a_515.n ((sR_wr _)) g6 dX12_isLastOf_17 ?_
    refine V.aload_n (pc := 18) hG dX12_isLastOf_18 rfl 0 rfl ?_
    refine V.getR (x := 515) (pc := 19) (ci := 14) (k := 22) (M := 49) (T := TX12) (o := 504) (kz := 22) hG a_504 a_504.n (by decide) hin_X12 rfl (by decide) (by decide) rfl kw_1714 rfl ((hw).1 (504, 22, 515) (by decide)) (by decide) dX12_isLastOf_19 ?_
    refine V.iload_n (pc := 22) hG dX12_isLastOf_22 rfl 1 rfl ?_
    obtain ⟨g7, h⟩ := h
    refine V.iald (pc := 23) (z := 96) (o := 515) hG a_515 a_515.n hp1 g7 dX12_isLastOf_23 ?_
    obtain ⟨t9, f10⟩ := h
    refine V.icmp_eq (pc := 24) (tgt := 31) hG ((hi _ _)) ((hi _ _)) dX12_isLastOf_24 (by decide) (fun c8 => ?_) (fun c8 => ?_)
    · have h := t9 c8
      clear t9 f10
      refine V.iconst (pc := 31) hG dX12_isLastOf_31 ?_
      refine V.pick [] rfl ?_
      exact jn32 0 ((sR_l rfl)) h
    · have h := f10 c8
      clear t9 f10
      refine V.pick [] rfl ?_
      exact jn27 h
set_option maxRecDepth 100000 in
set_option maxHeartbeats 4000000 in
theorem sm_X12_flow (l : Launch) (Δ : Wd) {i r : MI}   {Q : MI → Prop} (hi : okI i) (hw : Wf r) (h : wp_X12_flow  i r Q) : Met l yX12_flow (Cond.code yX12_flow cX12_flow 6 none :: gW) (sRm 5 119) (sPc Δ [.ref (sA Δ 504)] i r) (sQv Δ (fun i' r' => r = r' ∧ Q i')) 0 0 (sFr Δ) := by
  refine Ct.v (by decide) rfl (Nat.le_of_ble_eq_true rfl) (fun Γ Q0 hG fin => ?_)
  have hG : okG Γ Δ l (sRm 5 119) cX12_flow "SchedularyModel" 6 := hG
  show V Γ Δ 542 false i r 0 0 Q0 0 [(0, .ref (sA Δ 504))] []
  have jn34 : ∀ (x1j34 : Int) (k0j34 : Int) (ij34 : MI), sR x1j34 → sR k0j34 → okI ij34 → s34_X12_flow x1j34 k0j34 ij34 r Q → V Γ Δ 542 false ij34 r 0 0 Q0 34 [(0, .ref (sA Δ 504)), (1, .int (sJ x1j34))] [.int (sJ k0j34)] := by
    intro x1j34 k0j34 ij34 hx1j34 hk0j34 hij34 h
    refine V.istore_n (pc := 34) (lv' := [(2, .int (sJ k0j34)), (0, .ref (sA Δ 504)), (1, .int (sJ x1j34))]) hG dX12_flow_34 rfl (by decide) rfl ?_
    refine V.aload_n (pc := 35) hG dX12_flow_35 rfl 1 rfl ?_
    refine V.callVv (pc := 36) (As := []) (stk := []) hG (sm_X12_begin l Δ  hij34 hw h) mY_X12_begin kw_2016 kw_2018 kw_130 a_504 (by decide) (q := (RX12, TX12, 49)) rfl rfl ⟨Nat.le_of_ble_eq_true rfl, Nat.le_of_ble_eq_true rfl, Nat.le_of_ble_eq_true rfl, Nat.le_of_ble_eq_true rfl⟩ rfl (Nat.le_of_ble_eq_true rfl) dX12_flow_36 rfl (fun i301 r302 hi304 hw305 hq306 => ?_)
    obtain ⟨e398, h⟩ := hq306
    subst e398
    refine V.iconst (pc := 39) hG dX12_flow_39 ?_
    refine V.istore_n (pc := 40) (lv' := [(3, .int (sJ 0)), (2, .int (sJ k0j34)), (0, .ref (sA Δ 504)), (1, .int (sJ x1j34))]) hG dX12_flow_40 rfl (by decide) rfl ?_
    obtain ⟨n307, h⟩ := h
    have lp41 : ∀ (m41 : Nat) (x3_41 : Int) (i_41 : MI), sR x3_41 → okI i_41 → LoopP (b41_X12_flow x1j34 k0j34 r Q) m41 (x3_41, i_41) → V Γ Δ 542 false i_41 r 0 0 Q0 41 [(0, .ref (sA Δ 504)), (1, .int (sJ x1j34)), (2, .int (sJ k0j34)), (3, .int (sJ x3_41))] [] := by
      intro m41
      induction m41 with
      | zero => intro x3_41 i_41 hx3_41 hi_41 h; exact h.elim
      | succ m41 ih41 =>
        intro x3_41 i_41 hx3_41 hi_41 h
        have h := LoopP_succ h
        refine V.iload_n (pc := 41) hG dX12_flow_41 rfl 3 rfl ?_
        refine V.iload_n (pc := 42) hG dX12_flow_42 rfl 2 rfl ?_
        obtain ⟨t309, f310⟩ := h
        refine V.icmp_gt (pc := 43) (tgt := 204) hG hx3_41 hk0j34 dX12_flow_43 (by decide) (fun c308 => ?_) (fun c308 => ?_)
        · have h := t309 c308
          clear t309 f310
          exact fin dX12_flow_204 hi_41 hw ⟨rfl, h⟩
        · have h := f310 c308
          clear t309 f310
          refine V.iconst (pc := 46) hG dX12_flow_46 ?_
          refine V.istore (pc := 47) (lv' := [(4, .int (sJ 0)), (0, .ref (sA Δ 504)), (1, .int (sJ x1j34)), (2, .int (sJ k0j34)), (3, .int (sJ x3_41))]) hG dX12_flow_47 (by decide) rfl ?_
          obtain ⟨n311, h⟩ := h
          have lp49 : ∀ (m49 : Nat) (x4_49 : Int) (i_49 : MI), sR x4_49 → okI i_49 → LoopP (b49_X12_flow x1j34 k0j34 x3_41 r Q (LoopP (b41_X12_flow x1j34 k0j34 r Q) m41)) m49 (x4_49, i_49) → V Γ Δ 542 false i_49 r 0 0 Q0 49 [(0, .ref (sA Δ 504)), (1, .int (sJ x1j34)), (2, .int (sJ k0j34)), (3, .int (sJ x3_41)), (4, .int (sJ x4_49))] [] := by
            intro m49
            induction m49 with
            | zero => intro x4_49 i_49 hx4_49 hi_49 h; exact h.elim
            | succ m49 ih49 =>
              intro x4_49 i_49 hx4_49 hi_49 h
              have h := LoopP_succ h
              have jn132 : ∀ (x4j132 : Int) (ij132 : MI), sR x4j132 → okI ij132 → s132_X12_flow x1j34 k0j34 x3_41 x4j132 ij132 r Q (LoopP (b41_X12_flow x1j34 k0j34 r Q) m41) (LoopP (b49_X12_flow x1j34 k0j34 x3_41 r Q (LoopP (b41_X12_flow x1j34 k0j34 r Q) m41)) m49) → V Γ Δ 542 false ij132 r 0 0 Q0 132 [(0, .ref (sA Δ 504)), (1, .int (sJ x1j34)), (2, .int (sJ k0j34)), (3, .int (sJ x3_41)), (4, .int (sJ x4j132))] [] := by
                intro x4j132 ij132 hx4j132 hij132 h
                refine V.iinc (pc := 132) (lv' := [(4, .int (sJ (wr (x4j132 + 1)))), (0, .ref (sA Δ 504)), (1, .int (sJ x1j34)), (2, .int (sJ k0j34)), (3, .int (sJ x3_41))]) hG dX12_flow_132 4 rfl (by decide) rfl ?_
                refine V.goto (pc := 135) (tgt := 49) hG dX12_flow_135 (by decide) ?_
                refine V.pick [1, 2, 3, 4, 0] rfl ?_
                exact ih49 (wr (x4j132 + 1)) ij132 ((sR_wr _)) hij132 h
              refine V.iload (pc := 49) hG dX12_flow_49 4 rfl ?_
              refine V.aload_n (pc := 51) hG dX12_flow_51 rfl 0 rfl ?_
              refine V.getI (pc := 52) (ci := 14) (k := 21) (M := 49) (T := TX12) (o := 504) (kz := 21) hG a_504 a_504.n (by decide) hin_X12 rfl (by decide) (by decide) rfl kw_1713 rfl dX12_flow_52 ?_
              obtain ⟨t313, f314⟩ := h
              refine V.icmp_ge (pc := 55) (tgt := 138) hG hx4_49 ((hi_49 _ _)) dX12_flow_55 (by decide) (fun c312 => ?_) (fun c312 => ?_)
              · have h := t313 c312
                clear t313 f314
                refine V.iconst (pc := 138) hG dX12_flow_138 ?_
                refine V.istore (pc := 139) (lv' := [(4, .int (sJ 0)), (0, .ref (sA Δ 504)), (1, .int (sJ x1j34)), (2, .int (sJ k0j34)), (3, .int (sJ x3_41))]) hG dX12_flow_139 (by decide) rfl ?_
                obtain ⟨n315, h⟩ := h
                have lp141 : ∀ (m141 : Nat) (x4_141 : Int) (i_141 : MI), sR x4_141 → okI i_141 → LoopP (b141_X12_flow x1j34 k0j34 x3_41 r Q (LoopP (b41_X12_flow x1j34 k0j34 r Q) m41)) m141 (x4_141, i_141) → V Γ Δ 542 false i_141 r 0 0 Q0 141 [(0, .ref (sA Δ 504)), (1, .int (sJ x1j34)), (2, .int (sJ k0j34)), (3, .int (sJ x3_41)), (4, .int (sJ x4_141))] [] := by
                  intro m141
                  induction m141 with
                  | zero => intro x4_141 i_141 hx4_141 hi_141 h; exact h.elim
                  | succ m141 ih141 =>
                    intro x4_141 i_141 hx4_141 hi_141 h
                    have h := LoopP_succ h
                    have jn192 : ∀ (x4j192 : Int) (ij192 : MI), sR x4j192 → okI ij192 → s192_X12_flow x1j34 k0j34 x3_41 x4j192 ij192 r Q (LoopP (b41_X12_flow x1j34 k0j34 r Q) m41) (LoopP (b141_X12_flow x1j34 k0j34 x3_41 r Q (LoopP (b41_X12_flow x1j34 k0j34 r Q) m41)) m141) → V Γ Δ 542 false ij192 r 0 0 Q0 192 [(0, .ref (sA Δ 504)), (1, .int (sJ x1j34)), (2, .int (sJ k0j34)), (3, .int (sJ x3_41)), (4, .int (sJ x4j192))] [] := by
                      intro x4j192 ij192 hx4j192 hij192 h
                      refine V.iinc (pc := 192) (lv' := [(4, .int (sJ (wr (x4j192 + 1)))), (0, .ref (sA Δ 504)), (1, .int (sJ x1j34)), (2, .int (sJ k0j34)), (3, .int (sJ x3_41))]) hG dX12_flow_192 4 rfl (by decide) rfl ?_
                      refine V.goto (pc := 195) (tgt := 141) hG dX12_flow_195 (by decide) ?_
                      refine V.pick [1, 2, 3, 4, 0] rfl ?_
                      exact ih141 (wr (x4j192 + 1)) ij192 ((sR_wr _)) hij192 h
                    refine V.iload (pc := 141) hG dX12_flow_141 4 rfl ?_
                    refine V.aload_n (pc := 143) hG dX12_flow_143 rfl 0 rfl ?_
                    refine V.getI (pc := 144) (ci := 14) (k := 21) (M := 49) (T := TX12) (o := 504) (kz := 21) hG a_504 a_504.n (by decide) hin_X12 rfl (by decide) (by decide) rfl kw_1713 rfl dX12_flow_144 ?_
                    obtain ⟨t317, f318⟩ := h
                    refine V.icmp_ge (pc := 147) (tgt := 198) hG hx4_141 ((hi_141 _ _)) dX12_flow_147 (by decide) (fun c316 => ?_) (fun c316 => ?_)
                    · have h := t317 c316
                      clear t317 f318
                      refine V.iinc (pc := 198) (lv' := [(3, .int (sJ (wr (x3_41 + 1)))), (0, .ref (sA Δ 504)), (1, .int (sJ x1j34)), (2, .int (sJ k0j34)), (4, .int (sJ x4_141))]) hG dX12_flow_198 3 rfl (by decide) rfl ?_
                      refine V.goto (pc := 201) (tgt := 41) hG dX12_flow_201 (by decide) ?_
                      refine V.pick [1, 2, 3, 0] rfl ?_
                      exact ih41 (wr (x3_41 + 1)) i_141 ((sR_wr _)) hi_141 h
                    · have h := f318 c316
                      clear t317 f318
                      refine V.aload_n (pc := 150) hG dX12_flow_150 rfl 0 rfl ?_
                      refine V.iload_n (pc := 151) hG dX12_flow_151 rfl 3 rfl ?_
                      refine V.aload_n (pc := 152) hG dX12_flow_152 rfl 0 rfl ?_
                      refine V.getR (x := 532) (pc := 153) (ci := 14) (k := 40) (M := 49) (T := TX12) (o := 504) (kz := 40) hG a_504 a_504.n (by decide) hin_X12 rfl (by decide) (by decide) rfl kw_1732 rfl ((hw).1 (504, 40, 532) (by decide)) (by decide) dX12_flow_153 ?_
                      refine V.iload (pc := 156) hG dX12_flow_156 4 rfl ?_
                      obtain ⟨g319, h⟩ := h
                      refine V.iald (pc := 158) (z := 96) (o := 532) hG a_532 a_532.n hx4_141 g319 dX12_flow_158 ?_
                      refine V.iload_n (pc := 159) hG dX12_flow_159 rfl 1 rfl ?_
                      refine V.callVi (pc := 160) (As := [.int (sJ x3_41), .int (sJ (i_141 532 x4_141)), .int (sJ x1j34)]) (stk := []) hG (sm_X12_turnAt l Δ hx3_41 ((hi_141 _ _)) hx1j34 hi_141 hw h) mY_X12_turnAt kw_2193 kw_2195 kw_150 a_504 (by decide) (q := (RX12, TX12, 49)) rfl rfl ⟨Nat.le_of_ble_eq_true rfl, Nat.le_of_ble_eq_true rfl, Nat.le_of_ble_eq_true rfl, Nat.le_of_ble_eq_true rfl⟩ rfl (Nat.le_of_ble_eq_true rfl) dX12_flow_160 rfl (fun v320 i321 r322 hv323 hi324 hw325 hq326 => ?_)
                      obtain ⟨e340, e341, h⟩ := hq326
                      subst e340
                      subst e341
                      refine V.istore (pc := 163) (lv' := [(5, .int (sJ v320)), (0, .ref (sA Δ 504)), (1, .int (sJ x1j34)), (2, .int (sJ k0j34)), (3, .int (sJ x3_41)), (4, .int (sJ x4_141))]) hG dX12_flow_163 (by decide) rfl ?_
                      refine V.iload (pc := 165) hG dX12_flow_165 0 rfl ?_
                      refine V.iconst (pc := 167) hG dX12_flow_167 ?_
                      obtain ⟨t328, f329⟩ := h
                      refine V.icmp_eq (pc := 168) (tgt := 192) hG hv323 ((sR_l rfl)) dX12_flow_168 (by decide) (fun c327 => ?_) (fun c327 => ?_)
                      · have h := t328 c327
                        clear t328 f329
                        refine V.pick [1, 2, 3, 4, 5] rfl ?_
                        exact jn192 x4_141 i_141 hx4_141 hi_141 h
                      · have h := f329 c327
                        clear t328 f329
                        refine V.aload_n (pc := 171) hG dX12_flow_171 rfl 1 rfl ?_
                        refine V.getR (x := 534) (pc := 172) (ci := 14) (k := 42) (M := 49) (T := TX12) (o := 504) (kz := 42) hG a_504 a_504.n (by decide) hin_X12 rfl (by decide) (by decide) rfl kw_1734 rfl ((hw).1 (504, 42, 534) (by decide)) (by decide) dX12_flow_172 ?_
                        refine V.bipush (pc := 175) hG dX12_flow_175 (by decide) ?_
                        refine V.iload (pc := 177) hG dX12_flow_177 0 rfl ?_
                        refine V.imul (pc := 179) hG dX12_flow_179 ?_
                        refine V.iload (pc := 180) hG dX12_flow_180 5 rfl ?_
                        refine V.iadd (pc := 182) hG dX12_flow_182 ?_
                        refine V.aload_n (pc := 183) hG dX12_flow_183 rfl 1 rfl ?_
                        refine V.iload (pc := 184) hG dX12_flow_184 5 rfl ?_
                        refine V.iload (pc := 186) hG dX12_flow_186 0 rfl ?_
                        refine V.callVi (pc := 188) (As := [.int (sJ x4_141), .int (sJ v320)]) (stk := [.int (sJ (wr (wr (96 * v320) + x4_141))), .ref (sA Δ 534)]) hG (sm_X12_valueOf l Δ hx4_141 hv323 hi_141 hw h) mY_X12_valueOf kw_2205 kw_2207 kw_153 a_504 (by decide) (q := (RX12, TX12, 49)) rfl rfl ⟨Nat.le_of_ble_eq_true rfl, Nat.le_of_ble_eq_true rfl, Nat.le_of_ble_eq_true rfl, Nat.le_of_ble_eq_true rfl⟩ rfl (Nat.le_of_ble_eq_true rfl) dX12_flow_188 rfl (fun v330 i331 r332 hv333 hi334 hw335 hq336 => ?_)
                        obtain ⟨e339, h⟩ := hq336
                        subst e339
                        obtain ⟨g337, h⟩ := h
                        refine V.iast (pc := 191) (z := 1536) (o := 534) hG a_534 a_534.n ((sR_wr _)) g337 dX12_flow_191 ?_
                        refine V.pick [1, 2, 3, 4, 5] rfl ?_
                        exact jn192 x4_141 (st i331 534 (wr (wr (96 * v320) + x4_141)) v330) hx4_141 ((okI_st hi334 hv333)) h
                refine V.pick [1, 2, 3, 4, 0] rfl ?_
                exact lp141 n315 0 i_49 ((sR_l rfl)) hi_49 h
              · have h := f314 c312
                clear t313 f314
                refine V.aload_n (pc := 58) hG dX12_flow_58 rfl 0 rfl ?_
                refine V.iload_n (pc := 59) hG dX12_flow_59 rfl 3 rfl ?_
                refine V.aload_n (pc := 60) hG dX12_flow_60 rfl 0 rfl ?_
                refine V.getR (x := 532) (pc := 61) (ci := 14) (k := 40) (M := 49) (T := TX12) (o := 504) (kz := 40) hG a_504 a_504.n (by decide) hin_X12 rfl (by decide) (by decide) rfl kw_1732 rfl ((hw).1 (504, 40, 532) (by decide)) (by decide) dX12_flow_61 ?_
                refine V.iload (pc := 64) hG dX12_flow_64 4 rfl ?_
                obtain ⟨g342, h⟩ := h
                refine V.iald (pc := 66) (z := 96) (o := 532) hG a_532 a_532.n hx4_49 g342 dX12_flow_66 ?_
                refine V.aload_n (pc := 67) hG dX12_flow_67 rfl 0 rfl ?_
                refine V.iload (pc := 68) hG dX12_flow_68 4 rfl ?_
                refine V.callVi (pc := 70) (As := [.int (sJ x4_49)]) (stk := [.int (sJ (i_49 532 x4_49)), .int (sJ x3_41), .ref (sA Δ 504)]) hG (sm_X12_cyclesOf l Δ hx4_49 hi_49 hw h) mY_X12_cyclesOf kw_1947 kw_1949 kw_123 a_504 (by decide) (q := (RX12, TX12, 49)) rfl rfl ⟨Nat.le_of_ble_eq_true rfl, Nat.le_of_ble_eq_true rfl, Nat.le_of_ble_eq_true rfl, Nat.le_of_ble_eq_true rfl⟩ rfl (Nat.le_of_ble_eq_true rfl) dX12_flow_70 rfl (fun v343 i344 r345 hv346 hi347 hw348 hq349 => ?_)
                obtain ⟨e395, e396, h⟩ := hq349
                subst e395
                subst e396
                refine V.iadd (pc := 73) hG dX12_flow_73 ?_
                refine V.iload_n (pc := 74) hG dX12_flow_74 rfl 1 rfl ?_
                refine V.callVi (pc := 75) (As := [.int (sJ x3_41), .int (sJ (wr (i_49 532 x4_49 + v343))), .int (sJ x1j34)]) (stk := []) hG (sm_X12_turnAt l Δ hx3_41 ((sR_wr _)) hx1j34 hi_49 hw h) mY_X12_turnAt kw_2193 kw_2195 kw_150 a_504 (by decide) (q := (RX12, TX12, 49)) rfl rfl ⟨Nat.le_of_ble_eq_true rfl, Nat.le_of_ble_eq_true rfl, Nat.le_of_ble_eq_true rfl, Nat.le_of_ble_eq_true rfl⟩ rfl (Nat.le_of_ble_eq_true rfl) dX12_flow_75 rfl (fun v350 i351 r352 hv353 hi354 hw355 hq356 => ?_)
                obtain ⟨e393, e394, h⟩ := hq356
                subst e393
                subst e394
                refine V.istore (pc := 78) (lv' := [(5, .int (sJ v350)), (0, .ref (sA Δ 504)), (1, .int (sJ x1j34)), (2, .int (sJ k0j34)), (3, .int (sJ x3_41)), (4, .int (sJ x4_49))]) hG dX12_flow_78 (by decide) rfl ?_
                refine V.iload (pc := 80) hG dX12_flow_80 0 rfl ?_
                refine V.iconst (pc := 82) hG dX12_flow_82 ?_
                obtain ⟨t358, f359⟩ := h
                refine V.icmp_eq (pc := 83) (tgt := 132) hG hv353 ((sR_l rfl)) dX12_flow_83 (by decide) (fun c357 => ?_) (fun c357 => ?_)
                · have h := t358 c357
                  clear t358 f359
                  refine V.pick [1, 2, 3, 4, 5] rfl ?_
                  exact jn132 x4_49 i_49 hx4_49 hi_49 h
                · have h := f359 c357
                  clear t358 f359
                  refine V.aload_n (pc := 86) hG dX12_flow_86 rfl 1 rfl ?_
                  refine V.iload (pc := 87) hG dX12_flow_87 5 rfl ?_
                  refine V.callVi (pc := 89) (As := [.int (sJ x4_49)]) (stk := []) hG (sm_X12_isLastOf l Δ hx4_49 hi_49 hw h) mY_X12_isLastOf kw_2197 kw_2199 kw_151 a_504 (by decide) (q := (RX12, TX12, 49)) rfl rfl ⟨Nat.le_of_ble_eq_true rfl, Nat.le_of_ble_eq_true rfl, Nat.le_of_ble_eq_true rfl, Nat.le_of_ble_eq_true rfl⟩ rfl (Nat.le_of_ble_eq_true rfl) dX12_flow_89 rfl (fun v360 i361 r362 hv363 hi364 hw365 hq366 => ?_)
                  obtain ⟨e391, e392, h⟩ := hq366
                  subst e391
                  subst e392
                  obtain ⟨t368, f369⟩ := h
                  refine V.if_eq (pc := 92) (tgt := 132) hG hv363 dX12_flow_92 (by decide) (fun c367 => ?_) (fun c367 => ?_)
                  · have h := t368 c367
                    clear t368 f369
                    refine V.pick [1, 2, 3, 4, 5] rfl ?_
                    exact jn132 x4_49 i_49 hx4_49 hi_49 h
                  · have h := f369 c367
                    clear t368 f369
                    refine V.aload_n (pc := 95) hG dX12_flow_95 rfl 1 rfl ?_
                    refine V.aload_n (pc := 96) hG dX12_flow_96 rfl 1 rfl ?_
                    refine V.getR (x := 515) (pc := 97) (ci := 14) (k := 22) (M := 49) (T := TX12) (o := 504) (kz := 22) hG a_504 a_504.n (by decide) hin_X12 rfl (by decide) (by decide) rfl kw_1714 rfl ((hw).1 (504, 22, 515) (by decide)) (by decide) dX12_flow_97 ?_
                    refine V.iload (pc := 100) hG dX12_flow_100 5 rfl ?_
                    obtain ⟨g370, h⟩ := h
                    refine V.iald (pc := 102) (z := 96) (o := 515) hG a_515 a_515.n hx4_49 g370 dX12_flow_102 ?_
                    refine V.aload_n (pc := 103) hG dX12_flow_103 rfl 1 rfl ?_
                    refine V.getI (pc := 104) (ci := 14) (k := 6) (M := 49) (T := TX12) (o := 504) (kz := 6) hG a_504 a_504.n (by decide) hin_X12 rfl (by decide) (by decide) rfl kw_1698 rfl dX12_flow_104 ?_
                    obtain ⟨g371, h⟩ := h
                    refine V.irem (pc := 107) hG ((hi_49 _ _)) ((hi_49 _ _)) g371 dX12_flow_107 ?_
                    refine V.aload_n (pc := 108) hG dX12_flow_108 rfl 1 rfl ?_
                    refine V.iload (pc := 109) hG dX12_flow_109 5 rfl ?_
                    refine V.iload (pc := 111) hG dX12_flow_111 0 rfl ?_
                    refine V.callVi (pc := 113) (As := [.int (sJ x4_49), .int (sJ v350)]) (stk := [.int (sJ (Int.tmod (i_49 515 x4_49) (i_49 504 6))), .ref (sA Δ 504)]) hG (sm_X12_loopTurn l Δ hx4_49 hv353 hi_49 hw h) mY_X12_loopTurn kw_2201 kw_2203 kw_152 a_504 (by decide) (q := (RX12, TX12, 49)) rfl rfl ⟨Nat.le_of_ble_eq_true rfl, Nat.le_of_ble_eq_true rfl, Nat.le_of_ble_eq_true rfl, Nat.le_of_ble_eq_true rfl⟩ rfl (Nat.le_of_ble_eq_true rfl) dX12_flow_113 rfl (fun v372 i373 r374 hv375 hi376 hw377 hq378 => ?_)
                    obtain ⟨e389, e390, h⟩ := hq378
                    subst e389
                    subst e390
                    refine V.aload_n (pc := 116) hG dX12_flow_116 rfl 1 rfl ?_
                    refine V.getR (x := 534) (pc := 117) (ci := 14) (k := 42) (M := 49) (T := TX12) (o := 504) (kz := 42) hG a_504 a_504.n (by decide) hin_X12 rfl (by decide) (by decide) rfl kw_1734 rfl ((hw).1 (504, 42, 534) (by decide)) (by decide) dX12_flow_117 ?_
                    refine V.bipush (pc := 120) hG dX12_flow_120 (by decide) ?_
                    refine V.iload (pc := 122) hG dX12_flow_122 0 rfl ?_
                    refine V.imul (pc := 124) hG dX12_flow_124 ?_
                    refine V.iload (pc := 125) hG dX12_flow_125 5 rfl ?_
                    refine V.iadd (pc := 127) hG dX12_flow_127 ?_
                    obtain ⟨g379, h⟩ := h
                    refine V.iald (pc := 128) (z := 1536) (o := 534) hG a_534 a_534.n ((sR_wr _)) g379 dX12_flow_128 ?_
                    refine V.callVv (pc := 129) (As := [.int (sJ (Int.tmod (i_49 515 x4_49) (i_49 504 6))), .int (sJ v372), .int (sJ (i_49 534 (wr (wr (96 * v350) + x4_49))))]) (stk := []) hG (sm_X12_write l Δ ((sR_tmod ((hi_49 _ _)))) hv375 ((hi_49 _ _)) hi_49 hw h) mY_X12_write kw_2039 kw_2041 kw_135 a_504 (by decide) (q := (RX12, TX12, 49)) rfl rfl ⟨Nat.le_of_ble_eq_true rfl, Nat.le_of_ble_eq_true rfl, Nat.le_of_ble_eq_true rfl, Nat.le_of_ble_eq_true rfl⟩ rfl (Nat.le_of_ble_eq_true rfl) dX12_flow_129 rfl (fun i381 r382 hi384 hw385 hq386 => ?_)
                    obtain ⟨e388, h⟩ := hq386
                    subst e388
                    refine V.pick [1, 2, 3, 4, 5] rfl ?_
                    exact jn132 x4_49 i381 hx4_49 hi384 h
          refine V.pick [1, 2, 3, 4, 0] rfl ?_
          exact lp49 n311 0 i_41 ((sR_l rfl)) hi_41 h
    refine V.pick [2, 3, 1, 0] rfl ?_
    exact lp41 n307 0 i301 ((sR_l rfl)) hi304 h
  refine V.aload_n (pc := 0) hG dX12_flow_0 rfl 0 rfl ?_
  refine V.callVi (pc := 1) (As := []) (stk := []) hG (sm_X12_placeAll l Δ  hi hw h) mY_X12_placeAll kw_2153 kw_2155 kw_145 a_504 (by decide) (q := (RX12, TX12, 49)) rfl rfl ⟨Nat.le_of_ble_eq_true rfl, Nat.le_of_ble_eq_true rfl, Nat.le_of_ble_eq_true rfl, Nat.le_of_ble_eq_true rfl⟩ rfl (Nat.le_of_ble_eq_true rfl) dX12_flow_1 rfl (fun v399 i400 r401 hv402 hi403 hw404 hq405 => ?_)
  obtain ⟨e420, h⟩ := hq405
  subst e420
  refine V.istore_n (pc := 4) (lv' := [(1, .int (sJ v399)), (0, .ref (sA Δ 504))]) hG dX12_flow_4 rfl (by decide) rfl ?_
  refine V.aload_n (pc := 5) hG dX12_flow_5 rfl 1 rfl ?_
  refine V.getI (pc := 6) (ci := 14) (k := 21) (M := 49) (T := TX12) (o := 504) (kz := 21) hG a_504 a_504.n (by decide) hin_X12 rfl (by decide) (by decide) rfl kw_1713 rfl dX12_flow_6 ?_
  obtain ⟨f408, t407⟩ := h
  refine V.if_ne (pc := 9) (tgt := 16) hG ((hi403 _ _)) dX12_flow_9 (by decide) (fun c406 => ?_) (fun c406 => ?_)
  · have h := t407 c406
    clear t407 f408
    refine V.aload_n (pc := 16) hG dX12_flow_16 rfl 1 rfl ?_
    refine V.callVi (pc := 17) (As := []) (stk := []) hG (sm_X12_longest l Δ  hi403 hw h) mY_X12_longest kw_2177 kw_2179 kw_148 a_504 (by decide) (q := (RX12, TX12, 49)) rfl rfl ⟨Nat.le_of_ble_eq_true rfl, Nat.le_of_ble_eq_true rfl, Nat.le_of_ble_eq_true rfl, Nat.le_of_ble_eq_true rfl⟩ rfl (Nat.le_of_ble_eq_true rfl) dX12_flow_17 rfl (fun v409 i410 r411 hv412 hi413 hw414 hq415 => ?_)
    obtain ⟨e417, e418, h⟩ := hq415
    subst e417
    subst e418
    refine V.iload_n (pc := 20) hG dX12_flow_20 rfl 0 rfl ?_
    refine V.aload_n (pc := 21) hG dX12_flow_21 rfl 1 rfl ?_
    refine V.getI (pc := 22) (ci := 14) (k := 8) (M := 49) (T := TX12) (o := 504) (kz := 8) hG a_504 a_504.n (by decide) hin_X12 rfl (by decide) (by decide) rfl kw_1700 rfl dX12_flow_22 ?_
    refine V.aload_n (pc := 25) hG dX12_flow_25 rfl 1 rfl ?_
    refine V.getI (pc := 26) (ci := 14) (k := 10) (M := 49) (T := TX12) (o := 504) (kz := 10) hG a_504 a_504.n (by decide) hin_X12 rfl (by decide) (by decide) rfl kw_1702 rfl dX12_flow_26 ?_
    obtain ⟨g416, h⟩ := h
    refine V.idiv (pc := 29) hG ((hi403 _ _)) ((hi403 _ _)) g416 dX12_flow_29 ?_
    refine V.iconst (pc := 30) hG dX12_flow_30 ?_
    refine V.isub (pc := 31) hG dX12_flow_31 ?_
    refine V.imul (pc := 32) hG dX12_flow_32 ?_
    refine V.iadd (pc := 33) hG dX12_flow_33 ?_
    refine V.pick [1, 0] rfl ?_
    exact jn34 v399 (wr (v409 + wr (v399 * wr (wr (Int.tdiv (i400 504 8) (i400 504 10)) - 1)))) i400 hv402 ((sR_wr _)) hi403 h
  · have h := f408 c406
    clear t407 f408
    refine V.iconst (pc := 12) hG dX12_flow_12 ?_
    refine V.goto (pc := 13) (tgt := 34) hG dX12_flow_13 (by decide) ?_
    refine V.pick [1, 0] rfl ?_
    exact jn34 v399 0 i400 hv402 ((sR_l rfl)) hi403 h
set_option maxRecDepth 100000 in
set_option maxHeartbeats 4000000 in
theorem sm_X12_circuitOutputs (l : Launch) (Δ : Wd) {i r : MI}   {Q : Int → MI → Prop} (hi : okI i) (hw : Wf r) (h : wp_X12_circuitOutputs  i r Q) : Met l yX12_circuitOutputs (Cond.code yX12_circuitOutputs cX12_circuitOutputs 1 (some .int) :: gW) (sRm 6 144) (sPc Δ [.ref (sA Δ 504)] i r) (sQi Δ (fun x i' r' => r = r' ∧ Q x i')) 0 0 (sFr Δ) := by
  refine Ct.i (ty := .int) (by decide) rfl (Nat.le_of_ble_eq_true rfl) (fun Γ Q0 hG fin => ?_)
  have hG : okG Γ Δ l (sRm 6 144) cX12_circuitOutputs "SchedularyModel" 1 := hG
  show V Γ Δ 542 false i r 0 0 Q0 0 [(0, .ref (sA Δ 504))] []
  refine V.aload_n (pc := 0) hG dX12_circuitOutputs_0 rfl 0 rfl ?_
  refine V.iconst (pc := 1) hG dX12_circuitOutputs_1 ?_
  refine V.putI (pc := 2) (ci := 14) (k := 0) (M := 49) (T := TX12) (o := 504) (kz := 0) hG a_504 a_504.n (by decide) hin_X12 rfl (by decide) (by decide) rfl kw_1692 rfl tyX12 tyX12_ok nmX12 rfl (ty := tyX12 0) (tyX12_ok 0 (by decide)) rfl rfl dX12_circuitOutputs_2 ?_
  refine V.aload_n (pc := 5) hG dX12_circuitOutputs_5 rfl 0 rfl ?_
  refine V.callVv (pc := 6) (As := []) (stk := []) hG (sm_X12_flow l Δ  ((okI_st hi ((sR_l rfl)))) hw h) mY_X12_flow kw_2189 kw_2191 kw_149 a_504 (by decide) (q := (RX12, TX12, 49)) rfl rfl ⟨Nat.le_of_ble_eq_true rfl, Nat.le_of_ble_eq_true rfl, Nat.le_of_ble_eq_true rfl, Nat.le_of_ble_eq_true rfl⟩ rfl (Nat.le_of_ble_eq_true rfl) dX12_circuitOutputs_6 rfl (fun i2 r3 hi5 hw6 hq7 => ?_)
  obtain ⟨e9, h⟩ := hq7
  subst e9
  refine V.aload_n (pc := 9) hG dX12_circuitOutputs_9 rfl 0 rfl ?_
  refine V.getI (pc := 10) (ci := 14) (k := 19) (M := 49) (T := TX12) (o := 504) (kz := 19) hG a_504 a_504.n (by decide) hin_X12 rfl (by decide) (by decide) rfl kw_1711 rfl dX12_circuitOutputs_10 ?_
  exact fin dX12_circuitOutputs_13 ((hi5 _ _)) rfl hi5 hw ⟨rfl, h⟩
set_option maxRecDepth 100000 in
set_option maxHeartbeats 4000000 in
theorem sm_X12_circuitOutput (l : Launch) (Δ : Wd) {i r : MI} {p1 : Int} (hp1 : sR p1) {Q : Int → MI → Prop} (hi : okI i) (hw : Wf r) (h : wp_X12_circuitOutput p1 i r Q) : Met l yX12_circuitOutput (Cond.code yX12_circuitOutput cX12_circuitOutput 2 (some .int) :: gW) (sRm 6 144) (sPc Δ [.ref (sA Δ 504), .int (sJ p1)] i r) (sQi Δ (fun x i' r' => r = r' ∧ Q x i')) 0 0 (sFr Δ) := by
  refine Ct.i (ty := .int) (by decide) rfl (Nat.le_of_ble_eq_true rfl) (fun Γ Q0 hG fin => ?_)
  have hG : okG Γ Δ l (sRm 6 144) cX12_circuitOutput "SchedularyModel" 2 := hG
  show V Γ Δ 542 false i r 0 0 Q0 0 [(0, .ref (sA Δ 504)), (1, .int (sJ p1))] []
  have jn46 : ∀ (k0j46 : Int) (ij46 : MI), sR k0j46 → okI ij46 → s46_X12_circuitOutput k0j46 ij46 r Q → V Γ Δ 542 false ij46 r 0 0 Q0 46 [] [.int (sJ k0j46)] := by
    intro k0j46 ij46 hk0j46 hij46 h
    exact fin dX12_circuitOutput_46 hk0j46 rfl hij46 hw ⟨rfl, h⟩
  have jn29 : ∀ (k1j29 : Int) (ij29 : MI), sR k1j29 → okI ij29 → s29_X12_circuitOutput p1 k1j29 ij29 r Q → V Γ Δ 542 false ij29 r 0 0 Q0 29 [(0, .ref (sA Δ 504)), (1, .int (sJ p1))] [.int (sJ k1j29), .ref (sA Δ 504)] := by
    intro k1j29 ij29 hk1j29 hij29 h
    refine V.iconst (pc := 29) hG dX12_circuitOutput_29 ?_
    refine V.callVi (pc := 30) (As := [.int (sJ k1j29), .int (sJ 1)]) (stk := []) hG (sm_X12_fails l Δ hk1j29 ((sR_l rfl)) hij29 hw h) mY_X12_fails kw_1853 kw_1855 kw_106 a_504 (by decide) (q := (RX12, TX12, 49)) rfl rfl ⟨Nat.le_of_ble_eq_true rfl, Nat.le_of_ble_eq_true rfl, Nat.le_of_ble_eq_true rfl, Nat.le_of_ble_eq_true rfl⟩ rfl (Nat.le_of_ble_eq_true rfl) dX12_circuitOutput_30 rfl (fun v14 i15 r16 hv17 hi18 hw19 hq20 => ?_)
    obtain ⟨e26, h⟩ := hq20
    subst e26
    obtain ⟨t22, f23⟩ := h
    refine V.if_eq (pc := 33) (tgt := 40) hG hv17 dX12_circuitOutput_33 (by decide) (fun c21 => ?_) (fun c21 => ?_)
    · have h := t22 c21
      clear t22 f23
      refine V.aload_n (pc := 40) hG dX12_circuitOutput_40 rfl 0 rfl ?_
      refine V.getR (x := 514) (pc := 41) (ci := 14) (k := 18) (M := 49) (T := TX12) (o := 504) (kz := 18) hG a_504 a_504.n (by decide) hin_X12 rfl (by decide) (by decide) rfl kw_1710 rfl ((hw).1 (504, 18, 514) (by decide)) (by decide) dX12_circuitOutput_41 ?_
      refine V.iload_n (pc := 44) hG dX12_circuitOutput_44 rfl 1 rfl ?_
      obtain ⟨g24, h⟩ := h
      refine V.iald (pc := 45) (z := 192) (o := 514) hG a_514 a_514.n hp1 g24 dX12_circuitOutput_45 ?_
      refine V.pick [] rfl ?_
      exact jn46 (i15 514 p1) i15 ((hi18 _ _)) hi18 h
    · have h := f23 c21
      clear t22 f23
      refine V.iconst (pc := 36) hG dX12_circuitOutput_36 ?_
      refine V.goto (pc := 37) (tgt := 46) hG dX12_circuitOutput_37 (by decide) ?_
      refine V.pick [] rfl ?_
      exact jn46 0 i15 ((sR_l rfl)) hi18 h
  refine V.aload_n (pc := 0) hG dX12_circuitOutput_0 rfl 0 rfl ?_
  refine V.iconst (pc := 1) hG dX12_circuitOutput_1 ?_
  refine V.putI (pc := 2) (ci := 14) (k := 0) (M := 49) (T := TX12) (o := 504) (kz := 0) hG a_504 a_504.n (by decide) hin_X12 rfl (by decide) (by decide) rfl kw_1692 rfl tyX12 tyX12_ok nmX12 rfl (ty := tyX12 0) (tyX12_ok 0 (by decide)) rfl rfl dX12_circuitOutput_2 ?_
  refine V.aload_n (pc := 5) hG dX12_circuitOutput_5 rfl 0 rfl ?_
  refine V.callVv (pc := 6) (As := []) (stk := []) hG (sm_X12_flow l Δ  ((okI_st hi ((sR_l rfl)))) hw h) mY_X12_flow kw_2189 kw_2191 kw_149 a_504 (by decide) (q := (RX12, TX12, 49)) rfl rfl ⟨Nat.le_of_ble_eq_true rfl, Nat.le_of_ble_eq_true rfl, Nat.le_of_ble_eq_true rfl, Nat.le_of_ble_eq_true rfl⟩ rfl (Nat.le_of_ble_eq_true rfl) dX12_circuitOutput_6 rfl (fun i28 r29 hi31 hw32 hq33 => ?_)
  obtain ⟨e47, h⟩ := hq33
  subst e47
  refine V.aload_n (pc := 9) hG dX12_circuitOutput_9 rfl 0 rfl ?_
  refine V.iload_n (pc := 10) hG dX12_circuitOutput_10 rfl 1 rfl ?_
  refine V.iconst (pc := 11) hG dX12_circuitOutput_11 ?_
  refine V.aload_n (pc := 12) hG dX12_circuitOutput_12 rfl 0 rfl ?_
  refine V.getI (pc := 13) (ci := 14) (k := 19) (M := 49) (T := TX12) (o := 504) (kz := 19) hG a_504 a_504.n (by decide) hin_X12 rfl (by decide) (by decide) rfl kw_1711 rfl dX12_circuitOutput_13 ?_
  refine V.iconst (pc := 16) hG dX12_circuitOutput_16 ?_
  refine V.isub (pc := 17) hG dX12_circuitOutput_17 ?_
  refine V.callSi (pc := 18) (As := [.int (sJ p1), .int (sJ 0), .int (sJ (wr (i28 504 19 - 1)))]) (stk := [.ref (sA Δ 504)]) hG (sm_X12_in l Δ hp1 ((sR_l rfl)) ((sR_wr _)) hi31 hw h) mY_X12_in kw_1848 kw_1849 ⟨Nat.le_of_ble_eq_true rfl, Nat.le_of_ble_eq_true rfl, Nat.le_of_ble_eq_true rfl, Nat.le_of_ble_eq_true rfl⟩ rfl (Nat.le_of_ble_eq_true rfl) dX12_circuitOutput_18 rfl (fun v34 i35 r36 hv37 hi38 hw39 hq40 => ?_)
  obtain ⟨e44, e45, h⟩ := hq40
  subst e44
  subst e45
  obtain ⟨f43, t42⟩ := h
  refine V.if_ne (pc := 21) (tgt := 28) hG hv37 dX12_circuitOutput_21 (by decide) (fun c41 => ?_) (fun c41 => ?_)
  · have h := t42 c41
    clear t42 f43
    refine V.iconst (pc := 28) hG dX12_circuitOutput_28 ?_
    exact jn29 0 i28 ((sR_l rfl)) hi31 h
  · have h := f43 c41
    clear t42 f43
    refine V.iconst (pc := 24) hG dX12_circuitOutput_24 ?_
    refine V.goto (pc := 25) (tgt := 29) hG dX12_circuitOutput_25 (by decide) ?_
    exact jn29 1 i28 ((sR_l rfl)) hi31 h
set_option maxRecDepth 100000 in
set_option maxHeartbeats 4000000 in
theorem sm_X12_circuitMemory (l : Launch) (Δ : Wd) {i r : MI} {p1 : Int} {p2 : Int} (hp1 : sR p1) (hp2 : sR p2) {Q : Int → MI → Prop} (hi : okI i) (hw : Wf r) (h : wp_X12_circuitMemory p1 p2 i r Q) : Met l yX12_circuitMemory (Cond.code yX12_circuitMemory cX12_circuitMemory 3 (some .int) :: gW) (sRm 6 144) (sPc Δ [.ref (sA Δ 504), .int (sJ p1), .int (sJ p2)] i r) (sQi Δ (fun x i' r' => r = r' ∧ Q x i')) 0 0 (sFr Δ) := by
  refine Ct.i (ty := .int) (by decide) rfl (Nat.le_of_ble_eq_true rfl) (fun Γ Q0 hG fin => ?_)
  have hG : okG Γ Δ l (sRm 6 144) cX12_circuitMemory "SchedularyModel" 3 := hG
  show V Γ Δ 542 false i r 0 0 Q0 0 [(0, .ref (sA Δ 504)), (1, .int (sJ p1)), (2, .int (sJ p2))] []
  refine V.aload_n (pc := 0) hG dX12_circuitMemory_0 rfl 0 rfl ?_
  refine V.iconst (pc := 1) hG dX12_circuitMemory_1 ?_
  refine V.putI (pc := 2) (ci := 14) (k := 0) (M := 49) (T := TX12) (o := 504) (kz := 0) hG a_504 a_504.n (by decide) hin_X12 rfl (by decide) (by decide) rfl kw_1692 rfl tyX12 tyX12_ok nmX12 rfl (ty := tyX12 0) (tyX12_ok 0 (by decide)) rfl rfl dX12_circuitMemory_2 ?_
  refine V.aload_n (pc := 5) hG dX12_circuitMemory_5 rfl 0 rfl ?_
  refine V.iload_n (pc := 6) hG dX12_circuitMemory_6 rfl 1 rfl ?_
  refine V.iload_n (pc := 7) hG dX12_circuitMemory_7 rfl 2 rfl ?_
  refine V.callSi (pc := 8) (As := [.int (sJ p1), .int (sJ p2)]) (stk := [.ref (sA Δ 504)]) hG (sm_X12_noMemory l Δ hp1 hp2 ((okI_st hi ((sR_l rfl)))) hw h) mY_X12_noMemory kw_1993 kw_1994 ⟨Nat.le_of_ble_eq_true rfl, Nat.le_of_ble_eq_true rfl, Nat.le_of_ble_eq_true rfl, Nat.le_of_ble_eq_true rfl⟩ rfl (Nat.le_of_ble_eq_true rfl) dX12_circuitMemory_8 rfl (fun v1 i2 r3 hv4 hi5 hw6 hq7 => ?_)
  obtain ⟨e39, e40, h⟩ := hq7
  subst e39
  subst e40
  refine V.iconst (pc := 11) hG dX12_circuitMemory_11 ?_
  refine V.callVi (pc := 12) (As := [.int (sJ v1), .int (sJ 1)]) (stk := []) hG (sm_X12_fails l Δ hv4 ((sR_l rfl)) ((okI_st hi ((sR_l rfl)))) hw h) mY_X12_fails kw_1853 kw_1855 kw_106 a_504 (by decide) (q := (RX12, TX12, 49)) rfl rfl ⟨Nat.le_of_ble_eq_true rfl, Nat.le_of_ble_eq_true rfl, Nat.le_of_ble_eq_true rfl, Nat.le_of_ble_eq_true rfl⟩ rfl (Nat.le_of_ble_eq_true rfl) dX12_circuitMemory_12 rfl (fun v8 i9 r10 hv11 hi12 hw13 hq14 => ?_)
  obtain ⟨e38, h⟩ := hq14
  subst e38
  obtain ⟨t16, f17⟩ := h
  refine V.if_eq (pc := 15) (tgt := 20) hG hv11 dX12_circuitMemory_15 (by decide) (fun c15 => ?_) (fun c15 => ?_)
  · have h := t16 c15
    clear t16 f17
    refine V.aload_n (pc := 20) hG dX12_circuitMemory_20 rfl 0 rfl ?_
    refine V.callVv (pc := 21) (As := []) (stk := []) hG (sm_X12_flow l Δ  hi12 hw h) mY_X12_flow kw_2189 kw_2191 kw_149 a_504 (by decide) (q := (RX12, TX12, 49)) rfl rfl ⟨Nat.le_of_ble_eq_true rfl, Nat.le_of_ble_eq_true rfl, Nat.le_of_ble_eq_true rfl, Nat.le_of_ble_eq_true rfl⟩ rfl (Nat.le_of_ble_eq_true rfl) dX12_circuitMemory_21 rfl (fun i19 r20 hi22 hw23 hq24 => ?_)
    obtain ⟨e36, h⟩ := hq24
    subst e36
    refine V.aload_n (pc := 24) hG dX12_circuitMemory_24 rfl 0 rfl ?_
    refine V.getR (x := 513) (pc := 25) (ci := 14) (k := 17) (M := 49) (T := TX12) (o := 504) (kz := 17) hG a_504 a_504.n (by decide) hin_X12 rfl (by decide) (by decide) rfl kw_1709 rfl ((hw).1 (504, 17, 513) (by decide)) (by decide) dX12_circuitMemory_25 ?_
    refine V.iload_n (pc := 28) hG dX12_circuitMemory_28 rfl 1 rfl ?_
    refine V.iload_n (pc := 29) hG dX12_circuitMemory_29 rfl 2 rfl ?_
    refine V.callSi (pc := 30) (As := [.int (sJ p1), .int (sJ p2)]) (stk := [.ref (sA Δ 513)]) hG (sm_X12_cell l Δ hp1 hp2 hi22 hw h) mY_X12_cell kw_1996 kw_1997 ⟨Nat.le_of_ble_eq_true rfl, Nat.le_of_ble_eq_true rfl, Nat.le_of_ble_eq_true rfl, Nat.le_of_ble_eq_true rfl⟩ rfl (Nat.le_of_ble_eq_true rfl) dX12_circuitMemory_30 rfl (fun v25 i26 r27 hv28 hi29 hw30 hq31 => ?_)
    obtain ⟨e33, e34, h⟩ := hq31
    subst e33
    subst e34
    obtain ⟨g32, h⟩ := h
    refine V.iald (pc := 33) (z := 32) (o := 513) hG a_513 a_513.n hv28 g32 dX12_circuitMemory_33 ?_
    exact fin dX12_circuitMemory_34 ((hi22 _ _)) rfl hi22 hw ⟨rfl, h⟩
  · have h := f17 c15
    clear t16 f17
    refine V.iconst (pc := 18) hG dX12_circuitMemory_18 ?_
    exact fin dX12_circuitMemory_19 ((sR_l rfl)) rfl hi12 hw ⟨rfl, h⟩
set_option maxRecDepth 100000 in
set_option maxHeartbeats 4000000 in
theorem sm_X12_isSame (l : Launch) (Δ : Wd) {i r : MI}   {Q : Int → MI → Prop} (hi : okI i) (hw : Wf r) (h : wp_X12_isSame  i r Q) : Met l yX12_isSame (Cond.code yX12_isSame cX12_isSame 1 (some .boolean) :: gW) (sRm 0 0) (sPc Δ [.ref (sA Δ 504)] i r) (sQi Δ (fun x i' r' => r = r' ∧ Q x i')) 0 0 (sFr Δ) := by
  refine Ct.i (ty := .boolean) (by decide) rfl (Nat.le_of_ble_eq_true rfl) (fun Γ Q0 hG fin => ?_)
  have hG : okG Γ Δ l (sRm 0 0) cX12_isSame "SchedularyModel" 1 := hG
  show V Γ Δ 542 false i r 0 0 Q0 0 [(0, .ref (sA Δ 504))] []
  refine V.aload_n (pc := 0) hG dX12_isSame_0 rfl 0 rfl ?_
  refine V.iconst (pc := 1) hG dX12_isSame_1 ?_
  refine V.putI (pc := 2) (ci := 14) (k := 0) (M := 49) (T := TX12) (o := 504) (kz := 0) hG a_504 a_504.n (by decide) hin_X12 rfl (by decide) (by decide) rfl kw_1692 rfl tyX12 tyX12_ok nmX12 rfl (ty := tyX12 0) (tyX12_ok 0 (by decide)) rfl rfl dX12_isSame_2 ?_
  refine V.iconst (pc := 5) hG dX12_isSame_5 ?_
  exact fin dX12_isSame_6 ((sR_l rfl)) (nar_z (by decide)) ((okI_st hi ((sR_l rfl)))) hw ⟨rfl, h⟩
set_option maxRecDepth 100000 in
set_option maxHeartbeats 4000000 in
theorem sm_X12_action (l : Launch) (Δ : Wd) {i r : MI} {p1 : Int} {p2 : Int} {p3 : Int} (hp1 : sR p1) (hp2 : sR p2) (hp3 : sR p3) {Q : Int → MI → Prop} (hi : okI i) (hw : Wf r) (h : wp_X12_action p1 p2 p3 i r Q) : Met l yX12_action (Cond.code yX12_action cX12_action 4 (some .int) :: gW) (sRm 1 22) (sPc Δ [.ref (sA Δ 504), .int (sJ p1), .int (sJ p2), .int (sJ p3)] i r) (sQi Δ (fun x i' r' => r = r' ∧ Q x i')) 0 0 (sFr Δ) := by
  refine Ct.i (ty := .int) (by decide) rfl (Nat.le_of_ble_eq_true rfl) (fun Γ Q0 hG fin => ?_)
  have hG : okG Γ Δ l (sRm 1 22) cX12_action "SchedularyModel" 4 := hG
  show V Γ Δ 542 false i r 0 0 Q0 0 [(0, .ref (sA Δ 504)), (1, .int (sJ p1)), (2, .int (sJ p2)), (3, .int (sJ p3))] []
  have jn89 : ∀ (k1j89 : Int) (k2j89 : Int) (k3j89 : Int) (ij89 : MI), sR k1j89 → sR k2j89 → sR k3j89 → okI ij89 → s89_X12_action p1 k1j89 k2j89 k3j89 ij89 r Q → V Γ Δ 542 false ij89 r 0 0 Q0 89 [(0, .ref (sA Δ 504)), (1, .int (sJ p1))] [.int (sJ k3j89), .int (sJ k2j89), .int (sJ k1j89), .ref (sA Δ 536)] := by
    intro k1j89 k2j89 k3j89 ij89 hk1j89 hk2j89 hk3j89 hij89 h
    refine V.iadd (pc := 89) hG dX12_action_89 ?_
    obtain ⟨g5, h⟩ := h
    refine V.iast (pc := 90) (z := 64) (o := 536) hG a_536 a_536.n hk1j89 g5 dX12_action_90 ?_
    refine V.aload_n (pc := 91) hG dX12_action_91 rfl 0 rfl ?_
    refine V.getR (x := 535) (pc := 92) (ci := 14) (k := 43) (M := 49) (T := TX12) (o := 504) (kz := 43) hG a_504 a_504.n (by decide) hin_X12 rfl (by decide) (by decide) rfl kw_1735 rfl ((hw).1 (504, 43, 535) (by decide)) (by decide) dX12_action_92 ?_
    refine V.iload_n (pc := 95) hG dX12_action_95 rfl 1 rfl ?_
    refine V.dup2 (pc := 96) hG dX12_action_96 rfl rfl ?_
    obtain ⟨g6, h⟩ := h
    refine V.iald (pc := 97) (z := 4) (o := 535) hG a_535 a_535.n hp1 g6 dX12_action_97 ?_
    refine V.iconst (pc := 98) hG dX12_action_98 ?_
    refine V.iadd (pc := 99) hG dX12_action_99 ?_
    obtain ⟨g7, h⟩ := h
    refine V.iast (pc := 100) (z := 4) (o := 535) hG a_535 a_535.n hp1 g7 dX12_action_100 ?_
    refine V.aload_n (pc := 101) hG dX12_action_101 rfl 0 rfl ?_
    refine V.getR (x := 535) (pc := 102) (ci := 14) (k := 43) (M := 49) (T := TX12) (o := 504) (kz := 43) hG a_504 a_504.n (by decide) hin_X12 rfl (by decide) (by decide) rfl kw_1735 rfl ((hw).1 (504, 43, 535) (by decide)) (by decide) dX12_action_102 ?_
    refine V.iload_n (pc := 105) hG dX12_action_105 rfl 1 rfl ?_
    obtain ⟨g8, h⟩ := h
    refine V.iald (pc := 106) (z := 4) (o := 535) hG a_535 a_535.n hp1 g8 dX12_action_106 ?_
    exact fin dX12_action_107 (((okI_st ((okI_st hij89 ((sR_wr _)))) ((sR_wr _))) _ _)) rfl ((okI_st ((okI_st hij89 ((sR_wr _)))) ((sR_wr _)))) hw ⟨rfl, h⟩
  have jn60 : ∀  (ij60 : MI), okI ij60 → s60_X12_action ij60 r Q → V Γ Δ 542 false ij60 r 0 0 Q0 60 [] [] := by
    intro ij60 hij60 h
    refine V.iconst (pc := 60) hG dX12_action_60 ?_
    exact fin dX12_action_61 ((sR_l rfl)) rfl hij60 hw ⟨rfl, h⟩
  have jn53 : ∀ (k1j53 : Int) (ij53 : MI), sR k1j53 → okI ij53 → s53_X12_action p1 p2 p3 k1j53 ij53 r Q → V Γ Δ 542 false ij53 r 0 0 Q0 53 [(0, .ref (sA Δ 504)), (1, .int (sJ p1)), (2, .int (sJ p2)), (3, .int (sJ p3))] [.int (sJ k1j53), .ref (sA Δ 504)] := by
    intro k1j53 ij53 hk1j53 hij53 h
    refine V.iconst (pc := 53) hG dX12_action_53 ?_
    refine V.callVi (pc := 54) (As := [.int (sJ k1j53), .int (sJ 2)]) (stk := []) hG (sm_X12_fails l Δ hk1j53 ((sR_l rfl)) hij53 hw h) mY_X12_fails kw_1853 kw_1855 kw_106 a_504 (by decide) (q := (RX12, TX12, 49)) rfl rfl ⟨Nat.le_of_ble_eq_true rfl, Nat.le_of_ble_eq_true rfl, Nat.le_of_ble_eq_true rfl, Nat.le_of_ble_eq_true rfl⟩ rfl (Nat.le_of_ble_eq_true rfl) dX12_action_54 rfl (fun v25 i26 r27 hv28 hi29 hw30 hq31 => ?_)
    obtain ⟨e40, h⟩ := hq31
    subst e40
    obtain ⟨t33, f34⟩ := h
    refine V.if_eq (pc := 57) (tgt := 62) hG hv28 dX12_action_57 (by decide) (fun c32 => ?_) (fun c32 => ?_)
    · have h := t33 c32
      clear t33 f34
      refine V.aload_n (pc := 62) hG dX12_action_62 rfl 0 rfl ?_
      refine V.getR (x := 536) (pc := 63) (ci := 14) (k := 44) (M := 49) (T := TX12) (o := 504) (kz := 44) hG a_504 a_504.n (by decide) hin_X12 rfl (by decide) (by decide) rfl kw_1736 rfl ((hw).1 (504, 44, 536) (by decide)) (by decide) dX12_action_63 ?_
      refine V.bipush (pc := 66) hG dX12_action_66 (by decide) ?_
      refine V.iload_n (pc := 68) hG dX12_action_68 rfl 1 rfl ?_
      refine V.imul (pc := 69) hG dX12_action_69 ?_
      refine V.aload_n (pc := 70) hG dX12_action_70 rfl 0 rfl ?_
      refine V.getR (x := 535) (pc := 71) (ci := 14) (k := 43) (M := 49) (T := TX12) (o := 504) (kz := 43) hG a_504 a_504.n (by decide) hin_X12 rfl (by decide) (by decide) rfl kw_1735 rfl ((hw).1 (504, 43, 535) (by decide)) (by decide) dX12_action_71 ?_
      refine V.iload_n (pc := 74) hG dX12_action_74 rfl 1 rfl ?_
      obtain ⟨g35, h⟩ := h
      refine V.iald (pc := 75) (z := 4) (o := 535) hG a_535 a_535.n hp1 g35 dX12_action_75 ?_
      refine V.iadd (pc := 76) hG dX12_action_76 ?_
      refine V.iconst (pc := 77) hG dX12_action_77 ?_
      refine V.iload_n (pc := 78) hG dX12_action_78 rfl 2 rfl ?_
      refine V.imul (pc := 79) hG dX12_action_79 ?_
      refine V.iload_n (pc := 80) hG dX12_action_80 rfl 3 rfl ?_
      obtain ⟨t37, f38⟩ := h
      refine V.if_eq (pc := 81) (tgt := 88) hG hp3 dX12_action_81 (by decide) (fun c36 => ?_) (fun c36 => ?_)
      · have h := t37 c36
        clear t37 f38
        refine V.iconst (pc := 88) hG dX12_action_88 ?_
        refine V.pick [0, 1] rfl ?_
        exact jn89 (wr (wr (16 * p1) + i26 535 p1)) (wr (2 * p2)) 0 i26 ((sR_wr _)) ((sR_wr _)) ((sR_l rfl)) hi29 h
      · have h := f38 c36
        clear t37 f38
        refine V.iconst (pc := 84) hG dX12_action_84 ?_
        refine V.goto (pc := 85) (tgt := 89) hG dX12_action_85 (by decide) ?_
        refine V.pick [0, 1] rfl ?_
        exact jn89 (wr (wr (16 * p1) + i26 535 p1)) (wr (2 * p2)) 1 i26 ((sR_wr _)) ((sR_wr _)) ((sR_l rfl)) hi29 h
    · have h := f34 c32
      clear t33 f34
      refine V.pick [] rfl ?_
      exact jn60 i26 hi29 h
  have jn29 : ∀ (k1j29 : Int) (ij29 : MI), sR k1j29 → okI ij29 → s29_X12_action p1 p2 p3 k1j29 ij29 r Q → V Γ Δ 542 false ij29 r 0 0 Q0 29 [(0, .ref (sA Δ 504)), (1, .int (sJ p1)), (2, .int (sJ p2)), (3, .int (sJ p3))] [.int (sJ k1j29), .ref (sA Δ 504)] := by
    intro k1j29 ij29 hk1j29 hij29 h
    refine V.iconst (pc := 29) hG dX12_action_29 ?_
    refine V.callVi (pc := 30) (As := [.int (sJ k1j29), .int (sJ 1)]) (stk := []) hG (sm_X12_fails l Δ hk1j29 ((sR_l rfl)) hij29 hw h) mY_X12_fails kw_1853 kw_1855 kw_106 a_504 (by decide) (q := (RX12, TX12, 49)) rfl rfl ⟨Nat.le_of_ble_eq_true rfl, Nat.le_of_ble_eq_true rfl, Nat.le_of_ble_eq_true rfl, Nat.le_of_ble_eq_true rfl⟩ rfl (Nat.le_of_ble_eq_true rfl) dX12_action_30 rfl (fun v57 i58 r59 hv60 hi61 hw62 hq63 => ?_)
    obtain ⟨e72, h⟩ := hq63
    subst e72
    obtain ⟨f66, t65⟩ := h
    refine V.if_ne (pc := 33) (tgt := 60) hG hv60 dX12_action_33 (by decide) (fun c64 => ?_) (fun c64 => ?_)
    · have h := t65 c64
      clear t65 f66
      refine V.pick [] rfl ?_
      exact jn60 i58 hi61 h
    · have h := f66 c64
      clear t65 f66
      refine V.aload_n (pc := 36) hG dX12_action_36 rfl 0 rfl ?_
      refine V.aload_n (pc := 37) hG dX12_action_37 rfl 0 rfl ?_
      refine V.getR (x := 535) (pc := 38) (ci := 14) (k := 43) (M := 49) (T := TX12) (o := 504) (kz := 43) hG a_504 a_504.n (by decide) hin_X12 rfl (by decide) (by decide) rfl kw_1735 rfl ((hw).1 (504, 43, 535) (by decide)) (by decide) dX12_action_38 ?_
      refine V.iload_n (pc := 41) hG dX12_action_41 rfl 1 rfl ?_
      obtain ⟨g67, h⟩ := h
      refine V.iald (pc := 42) (z := 4) (o := 535) hG a_535 a_535.n hp1 g67 dX12_action_42 ?_
      refine V.bipush (pc := 43) hG dX12_action_43 (by decide) ?_
      obtain ⟨f70, t69⟩ := h
      refine V.icmp_ne (pc := 45) (tgt := 52) hG ((hi61 _ _)) ((sR_l rfl)) dX12_action_45 (by decide) (fun c68 => ?_) (fun c68 => ?_)
      · have h := t69 c68
        clear t69 f70
        refine V.iconst (pc := 52) hG dX12_action_52 ?_
        exact jn53 0 i58 ((sR_l rfl)) hi61 h
      · have h := f70 c68
        clear t69 f70
        refine V.iconst (pc := 48) hG dX12_action_48 ?_
        refine V.goto (pc := 49) (tgt := 53) hG dX12_action_49 (by decide) ?_
        exact jn53 1 i58 ((sR_l rfl)) hi61 h
  have jn24 : ∀  (ij24 : MI), okI ij24 → s24_X12_action p1 p2 p3 ij24 r Q → V Γ Δ 542 false ij24 r 0 0 Q0 24 [(0, .ref (sA Δ 504)), (1, .int (sJ p1)), (2, .int (sJ p2)), (3, .int (sJ p3))] [.ref (sA Δ 504)] := by
    intro ij24 hij24 h
    refine V.iconst (pc := 24) hG dX12_action_24 ?_
    refine V.goto (pc := 25) (tgt := 29) hG dX12_action_25 (by decide) ?_
    exact jn29 1 ij24 ((sR_l rfl)) hij24 h
  refine V.aload_n (pc := 0) hG dX12_action_0 rfl 0 rfl ?_
  refine V.iconst (pc := 1) hG dX12_action_1 ?_
  refine V.putI (pc := 2) (ci := 14) (k := 0) (M := 49) (T := TX12) (o := 504) (kz := 0) hG a_504 a_504.n (by decide) hin_X12 rfl (by decide) (by decide) rfl kw_1692 rfl tyX12 tyX12_ok nmX12 rfl (ty := tyX12 0) (tyX12_ok 0 (by decide)) rfl rfl dX12_action_2 ?_
  refine V.aload_n (pc := 5) hG dX12_action_5 rfl 0 rfl ?_
  refine V.iload_n (pc := 6) hG dX12_action_6 rfl 1 rfl ?_
  refine V.iconst (pc := 7) hG dX12_action_7 ?_
  refine V.iconst (pc := 8) hG dX12_action_8 ?_
  refine V.callSi (pc := 9) (As := [.int (sJ p1), .int (sJ 0), .int (sJ 3)]) (stk := [.ref (sA Δ 504)]) hG (sm_X12_in l Δ hp1 ((sR_l rfl)) ((sR_l rfl)) ((okI_st hi ((sR_l rfl)))) hw h) mY_X12_in kw_1848 kw_1849 ⟨Nat.le_of_ble_eq_true rfl, Nat.le_of_ble_eq_true rfl, Nat.le_of_ble_eq_true rfl, Nat.le_of_ble_eq_true rfl⟩ rfl (Nat.le_of_ble_eq_true rfl) dX12_action_9 rfl (fun v73 i74 r75 hv76 hi77 hw78 hq79 => ?_)
  obtain ⟨e95, e96, h⟩ := hq79
  subst e95
  subst e96
  obtain ⟨t81, f82⟩ := h
  refine V.if_eq (pc := 12) (tgt := 24) hG hv76 dX12_action_12 (by decide) (fun c80 => ?_) (fun c80 => ?_)
  · have h := t81 c80
    clear t81 f82
    exact jn24 (st i 504 0 0) ((okI_st hi ((sR_l rfl)))) h
  · have h := f82 c80
    clear t81 f82
    refine V.iload_n (pc := 15) hG dX12_action_15 rfl 2 rfl ?_
    refine V.iconst (pc := 16) hG dX12_action_16 ?_
    refine V.iconst (pc := 17) hG dX12_action_17 ?_
    refine V.callSi (pc := 18) (As := [.int (sJ p2), .int (sJ 0), .int (sJ 3)]) (stk := [.ref (sA Δ 504)]) hG (sm_X12_in l Δ hp2 ((sR_l rfl)) ((sR_l rfl)) ((okI_st hi ((sR_l rfl)))) hw h) mY_X12_in kw_1848 kw_1849 ⟨Nat.le_of_ble_eq_true rfl, Nat.le_of_ble_eq_true rfl, Nat.le_of_ble_eq_true rfl, Nat.le_of_ble_eq_true rfl⟩ rfl (Nat.le_of_ble_eq_true rfl) dX12_action_18 rfl (fun v83 i84 r85 hv86 hi87 hw88 hq89 => ?_)
    obtain ⟨e93, e94, h⟩ := hq89
    subst e93
    subst e94
    obtain ⟨f92, t91⟩ := h
    refine V.if_ne (pc := 21) (tgt := 28) hG hv86 dX12_action_21 (by decide) (fun c90 => ?_) (fun c90 => ?_)
    · have h := t91 c90
      clear t91 f92
      refine V.iconst (pc := 28) hG dX12_action_28 ?_
      exact jn29 0 (st i 504 0 0) ((sR_l rfl)) ((okI_st hi ((sR_l rfl)))) h
    · have h := f92 c90
      clear t91 f92
      exact jn24 (st i 504 0 0) ((okI_st hi ((sR_l rfl)))) h
