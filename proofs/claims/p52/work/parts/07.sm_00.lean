set_option maxRecDepth 100000 in
set_option maxHeartbeats 4000000 in
theorem sm_X10_append (l : Launch) (Δ : Wd) {i r : MI} {p1 : Int} (hp1 : sR p1) {Q : MI → Prop} (hi : okI i) (hw : Wf r) (h : wp_X10_append p1 i r Q) : Met l yX10_append (Cond.code yX10_append cX10_append 2 none :: gW) (sRm 0 0) (sPc Δ [.ref (sA Δ 1), .int (sJ p1)] i r) (sQv Δ (fun i' r' => r = r' ∧ Q i')) 0 0 (sFr Δ) := by
  refine Ct.v (by decide) rfl (Nat.le_of_ble_eq_true rfl) (fun Γ Q0 hG fin => ?_)
  have hG : okG Γ Δ l (sRm 0 0) cX10_append "Schedulary$Text" 2 := hG
  show V Γ Δ 504 false i r 0 0 Q0 0 [(0, .ref (sA Δ 1)), (1, .int (sJ p1))] []
  have jn29 : ∀  (ij29 : MI), okI ij29 → s29_X10_append ij29 r Q → V Γ Δ 504 false ij29 r 0 0 Q0 29 [] [] := by
    intro ij29 hij29 h
    exact fin dX10_append_29 hij29 hw ⟨rfl, h⟩
  refine V.aload_n (pc := 0) hG dX10_append_0 rfl 0 rfl ?_
  refine V.getI (pc := 1) (ci := 12) (k := 1) (M := 3) (T := TX10) (o := 1) (kz := 1) hG a_1 a_1.n (by decide) hin_X10 rfl (by decide) (by decide) rfl kw_151 rfl dX10_append_1 ?_
  refine V.bipush (pc := 4) hG dX10_append_4 (by decide) ?_
  obtain ⟨t2, f3⟩ := h
  refine V.icmp_ge (pc := 6) (tgt := 29) hG ((hi _ _)) ((sR_l rfl)) dX10_append_6 (by decide) (fun c1 => ?_) (fun c1 => ?_)
  · have h := t2 c1
    clear t2 f3
    refine V.pick [] rfl ?_
    exact jn29 i hi h
  · have h := f3 c1
    clear t2 f3
    refine V.aload_n (pc := 9) hG dX10_append_9 rfl 0 rfl ?_
    refine V.getR (x := 2) (pc := 10) (ci := 12) (k := 0) (M := 3) (T := TX10) (o := 1) (kz := 0) hG a_1 a_1.n (by decide) hin_X10 rfl (by decide) (by decide) rfl kw_150 rfl ((hw).1 (1, 0, 2) (by decide)) (by decide) dX10_append_10 ?_
    refine V.aload_n (pc := 13) hG dX10_append_13 rfl 0 rfl ?_
    refine V.getI (pc := 14) (ci := 12) (k := 1) (M := 3) (T := TX10) (o := 1) (kz := 1) hG a_1 a_1.n (by decide) hin_X10 rfl (by decide) (by decide) rfl kw_151 rfl dX10_append_14 ?_
    refine V.iload_n (pc := 17) hG dX10_append_17 rfl 1 rfl ?_
    obtain ⟨g4, h⟩ := h
    obtain ⟨g5, h⟩ := h
    refine V.cast (pc := 18) (z := 24) (o := 2) hG a_2 a_2.n ((hi _ _)) g4 (vnar_c g5) dX10_append_18 ?_
    refine V.aload_n (pc := 19) hG dX10_append_19 rfl 0 rfl ?_
    refine V.dup (pc := 20) hG dX10_append_20 rfl ?_
    refine V.getI (pc := 21) (ci := 12) (k := 1) (M := 3) (T := TX10) (o := 1) (kz := 1) hG a_1 a_1.n (by decide) hin_X10 rfl (by decide) (by decide) rfl kw_151 rfl dX10_append_21 ?_
    refine V.iconst (pc := 24) hG dX10_append_24 ?_
    refine V.iadd (pc := 25) hG dX10_append_25 ?_
    refine V.putI (pc := 26) (ci := 12) (k := 1) (M := 3) (T := TX10) (o := 1) (kz := 1) hG a_1 a_1.n (by decide) hin_X10 rfl (by decide) (by decide) rfl kw_151 rfl tyX10 tyX10_ok nmX10 rfl (ty := tyX10 1) (tyX10_ok 1 (by decide)) rfl rfl dX10_append_26 ?_
    refine V.pick [] rfl ?_
    exact jn29 (st (st i 2 (i 1 1) p1) 1 1 (wr ((st i 2 (i 1 1) p1) 1 1 + 1))) ((okI_st ((okI_st hi hp1)) ((sR_wr _)))) h
set_option maxRecDepth 100000 in
set_option maxHeartbeats 4000000 in
theorem sm_J0_isLatin1_aae02 (l : Launch) (Δ : Wd) {i r : MI} {k0 : Nat} (hk0 : k0 < 13) {Q : Int → Prop} (hi : okI i) (hw : Wf r) (h : wp_J0_isLatin1_aae02 k0 i r Q) : Met l yJ0_isLatin1_aae02 (Cond.code yJ0_isLatin1_aae02 cJ0_isLatin1_aae02 1 (some .boolean) :: gW) (sRm 0 0) (sPc Δ [.ref (aK Δ k0)] i r) (sQi Δ (fun x i' r' => i = i' ∧ r = r' ∧ Q x)) 0 0 (sFr Δ) := by
  refine Ct.i (ty := .boolean) (by decide) rfl (Nat.le_of_ble_eq_true rfl) (fun Γ Q0 hG fin => ?_)
  have hG : okG Γ Δ l (sRm 0 0) cJ0_isLatin1_aae02 "java/lang/String" 1 := hG
  show V Γ Δ 504 false i r 0 0 Q0 0 [(0, .ref (aK Δ k0))] []
  have jn18 : ∀ (k0j18 : Int), sR k0j18 → s18_J0_isLatin1_aae02 k0j18 i r Q → V Γ Δ 504 false i r 0 0 Q0 18 [] [.int (sJ k0j18)] := by
    intro k0j18 hk0j18 h
    obtain ⟨g2, h⟩ := h
    exact fin dJ0_isLatin1_aae02_18 hk0j18 (nar_z g2) hi hw ⟨rfl, rfl, h⟩
  have jn17 : s17_J0_isLatin1_aae02 i r Q → V Γ Δ 504 false i r 0 0 Q0 17 [] [] := by
    intro h
    refine V.iconst (pc := 17) hG dJ0_isLatin1_aae02_17 ?_
    exact jn18 0 ((sR_l rfl)) h
  refine V.scs (pc := 0) hG kw_1026 dJ0_isLatin1_aae02_0 ?_
  obtain ⟨t4, f5⟩ := h
  refine V.if_eq (pc := 3) (tgt := 17) hG ((sR_l rfl)) dJ0_isLatin1_aae02_3 (by decide) (fun c3 => ?_) (fun c3 => ?_)
  · have h := t4 c3
    clear t4 f5
    refine V.pick [] rfl ?_
    exact jn17 h
  · have h := f5 c3
    clear t4 f5
    refine V.aload_n (pc := 6) hG dJ0_isLatin1_aae02_6 rfl 0 rfl ?_
    refine V.scoder (pc := 7) (k := k0) hG hk0 kw_1456 dJ0_isLatin1_aae02_7 ?_
    obtain ⟨f8, t7⟩ := h
    refine V.if_ne (pc := 10) (tgt := 17) hG ((sR_l rfl)) dJ0_isLatin1_aae02_10 (by decide) (fun c6 => ?_) (fun c6 => ?_)
    · have h := t7 c6
      clear t7 f8
      refine V.pick [] rfl ?_
      exact jn17 h
    · have h := f8 c6
      clear t7 f8
      refine V.iconst (pc := 13) hG dJ0_isLatin1_aae02_13 ?_
      refine V.goto (pc := 14) (tgt := 18) hG dJ0_isLatin1_aae02_14 (by decide) ?_
      refine V.pick [] rfl ?_
      exact jn18 1 ((sR_l rfl)) h
set_option maxRecDepth 100000 in
set_option maxHeartbeats 4000000 in
theorem sm_J0_coder_7d493 (l : Launch) (Δ : Wd) {i r : MI} {k0 : Nat} (hk0 : k0 < 13) {Q : Int → Prop} (hi : okI i) (hw : Wf r) (h : wp_J0_coder_7d493 k0 i r Q) : Met l yJ0_coder_7d493 (Cond.code yJ0_coder_7d493 cJ0_coder_7d493 1 (some .byte) :: gW) (sRm 0 0) (sPc Δ [.ref (aK Δ k0)] i r) (sQi Δ (fun x i' r' => i = i' ∧ r = r' ∧ Q x)) 0 0 (sFr Δ) := by
  refine Ct.i (ty := .byte) (by decide) rfl (Nat.le_of_ble_eq_true rfl) (fun Γ Q0 hG fin => ?_)
  have hG : okG Γ Δ l (sRm 0 0) cJ0_coder_7d493 "java/lang/String" 1 := hG
  show V Γ Δ 504 false i r 0 0 Q0 0 [(0, .ref (aK Δ k0))] []
  have jn14 : ∀ (k0j14 : Int), sR k0j14 → s14_J0_coder_7d493 k0j14 i r Q → V Γ Δ 504 false i r 0 0 Q0 14 [] [.int (sJ k0j14)] := by
    intro k0j14 hk0j14 h
    obtain ⟨g2, h⟩ := h
    exact fin dJ0_coder_7d493_14 hk0j14 (nar_b g2) hi hw ⟨rfl, rfl, h⟩
  refine V.scs (pc := 0) hG kw_1026 dJ0_coder_7d493_0 ?_
  obtain ⟨t4, f5⟩ := h
  refine V.if_eq (pc := 3) (tgt := 13) hG ((sR_l rfl)) dJ0_coder_7d493_3 (by decide) (fun c3 => ?_) (fun c3 => ?_)
  · have h := t4 c3
    clear t4 f5
    refine V.iconst (pc := 13) hG dJ0_coder_7d493_13 ?_
    refine V.pick [] rfl ?_
    exact jn14 1 ((sR_l rfl)) h
  · have h := f5 c3
    clear t4 f5
    refine V.aload_n (pc := 6) hG dJ0_coder_7d493_6 rfl 0 rfl ?_
    refine V.scoder (pc := 7) (k := k0) hG hk0 kw_1456 dJ0_coder_7d493_7 ?_
    refine V.goto (pc := 10) (tgt := 14) hG dJ0_coder_7d493_10 (by decide) ?_
    refine V.pick [] rfl ?_
    exact jn14 0 ((sR_l rfl)) h
set_option maxRecDepth 100000 in
set_option maxHeartbeats 4000000 in
theorem sm_J0_length_8abf5 (l : Launch) (Δ : Wd) {i r : MI} {k0 : Nat} (hk0 : k0 < 13) {Q : Int → Prop} (hi : okI i) (hw : Wf r) (h : wp_J0_length_8abf5 k0 i r Q) : Met l yJ0_length_8abf5 (Cond.code yJ0_length_8abf5 cJ0_length_8abf5 1 (some .int) :: gW) (sRm 1 20) (sPc Δ [.ref (aK Δ k0)] i r) (sQi Δ (fun x i' r' => i = i' ∧ r = r' ∧ Q x)) 0 0 (sFr Δ) := by
  refine Ct.i (ty := .int) (by decide) rfl (Nat.le_of_ble_eq_true rfl) (fun Γ Q0 hG fin => ?_)
  have hG : okG Γ Δ l (sRm 1 20) cJ0_length_8abf5 "java/lang/String" 1 := hG
  show V Γ Δ 504 false i r 0 0 Q0 0 [(0, .ref (aK Δ k0))] []
  refine V.aload_n (pc := 0) hG dJ0_length_8abf5_0 rfl 0 rfl ?_
  refine V.sval (pc := 1) (k := k0) hG hk0 kw_1455 dJ0_length_8abf5_1 ?_
  refine V.slen (pc := 4) (k := k0) hG hk0 dJ0_length_8abf5_4 ?_
  refine V.aload_n (pc := 5) hG dJ0_length_8abf5_5 rfl 0 rfl ?_
  refine V.callVSi (pc := 6) (As := []) (stk := [.int (sJ (lenS k0 : Int))]) hG (sm_J0_coder_7d493 l Δ hk0 hi hw h) mY_J0_coder_7d493 kw_1032 kw_1033 kw_1034 hk0 rfl ⟨Nat.le_of_ble_eq_true rfl, Nat.le_of_ble_eq_true rfl, Nat.le_of_ble_eq_true rfl, Nat.le_of_ble_eq_true rfl⟩ rfl (Nat.le_of_ble_eq_true rfl) dJ0_length_8abf5_6 rfl (fun v1 i2 r3 hv4 hi5 hw6 hq7 => ?_)
  obtain ⟨e8, e9, h⟩ := hq7
  subst e8
  subst e9
  refine V.ishr (pc := 9) hG dJ0_length_8abf5_9 ?_
  exact fin dJ0_length_8abf5_10 ((sR_shr _ _)) rfl hi hw ⟨rfl, rfl, h⟩
set_option maxRecDepth 100000 in
set_option maxHeartbeats 4000000 in
theorem sm_J1_canEncode_9a6ad (l : Launch) (Δ : Wd) {i r : MI} {p0 : Int} (hp0 : sR p0) {Q : Int → Prop} (hi : okI i) (hw : Wf r) (h : wp_J1_canEncode_9a6ad p0 i r Q) : Met l yJ1_canEncode_9a6ad (Cond.code yJ1_canEncode_9a6ad cJ1_canEncode_9a6ad 1 (some .boolean) :: gW) (sRm 0 0) (sPc Δ [.int (sJ p0)] i r) (sQi Δ (fun x i' r' => i = i' ∧ r = r' ∧ Q x)) 0 0 (sFr Δ) := by
  refine Ct.i (ty := .boolean) (by decide) rfl (Nat.le_of_ble_eq_true rfl) (fun Γ Q0 hG fin => ?_)
  have hG : okG Γ Δ l (sRm 0 0) cJ1_canEncode_9a6ad "java/lang/StringLatin1" 1 := hG
  show V Γ Δ 504 false i r 0 0 Q0 0 [(0, .int (sJ p0))] []
  have jn16 : ∀ (k0j16 : Int), sR k0j16 → s16_J1_canEncode_9a6ad k0j16 i r Q → V Γ Δ 504 false i r 0 0 Q0 16 [] [.int (sJ k0j16)] := by
    intro k0j16 hk0j16 h
    obtain ⟨g2, h⟩ := h
    exact fin dJ1_canEncode_9a6ad_16 hk0j16 (nar_z g2) hi hw ⟨rfl, rfl, h⟩
  have jn15 : s15_J1_canEncode_9a6ad i r Q → V Γ Δ 504 false i r 0 0 Q0 15 [] [] := by
    intro h
    refine V.iconst (pc := 15) hG dJ1_canEncode_9a6ad_15 ?_
    exact jn16 0 ((sR_l rfl)) h
  refine V.iload_n (pc := 0) hG dJ1_canEncode_9a6ad_0 rfl 0 rfl ?_
  obtain ⟨t4, f5⟩ := h
  refine V.if_lt (pc := 1) (tgt := 15) hG hp0 dJ1_canEncode_9a6ad_1 (by decide) (fun c3 => ?_) (fun c3 => ?_)
  · have h := t4 c3
    clear t4 f5
    refine V.pick [] rfl ?_
    exact jn15 h
  · have h := f5 c3
    clear t4 f5
    refine V.iload_n (pc := 4) hG dJ1_canEncode_9a6ad_4 rfl 0 rfl ?_
    refine V.sipush (pc := 5) hG dJ1_canEncode_9a6ad_5 (by decide) ?_
    obtain ⟨t7, f8⟩ := h
    refine V.icmp_gt (pc := 8) (tgt := 15) hG hp0 ((sR_l rfl)) dJ1_canEncode_9a6ad_8 (by decide) (fun c6 => ?_) (fun c6 => ?_)
    · have h := t7 c6
      clear t7 f8
      refine V.pick [] rfl ?_
      exact jn15 h
    · have h := f8 c6
      clear t7 f8
      refine V.iconst (pc := 11) hG dJ1_canEncode_9a6ad_11 ?_
      refine V.goto (pc := 12) (tgt := 16) hG dJ1_canEncode_9a6ad_12 (by decide) ?_
      refine V.pick [] rfl ?_
      exact jn16 1 ((sR_l rfl)) h
set_option maxRecDepth 100000 in
set_option maxHeartbeats 4000000 in
theorem sm_J1_indexOfChar_4cfef (l : Launch) (Δ : Wd) {i r : MI} {k0 : Nat} {p1 : Int} {p2 : Int} {p3 : Int} (hk0 : k0 < 13) (hp1 : sR p1) (hp2 : sR p2) (hp3 : sR p3) {Q : Int → Prop} (hi : okI i) (hw : Wf r) (h : wp_J1_indexOfChar_4cfef k0 p1 p2 p3 i r Q) : Met l yJ1_indexOfChar_4cfef (Cond.code yJ1_indexOfChar_4cfef cJ1_indexOfChar_4cfef 6 (some .int) :: gW) (sRm 0 0) (sPc Δ [.ref (aV Δ k0), .int (sJ p1), .int (sJ p2), .int (sJ p3)] i r) (sQi Δ (fun x i' r' => i = i' ∧ r = r' ∧ Q x)) 0 0 (sFr Δ) := by
  refine Ct.i (ty := .int) (by decide) rfl (Nat.le_of_ble_eq_true rfl) (fun Γ Q0 hG fin => ?_)
  have hG : okG Γ Δ l (sRm 0 0) cJ1_indexOfChar_4cfef "java/lang/StringLatin1" 6 := hG
  show V Γ Δ 504 false i r 0 0 Q0 0 [(0, .ref (aV Δ k0)), (1, .int (sJ p1)), (2, .int (sJ p2)), (3, .int (sJ p3))] []
  refine V.iload_n (pc := 0) hG dJ1_indexOfChar_4cfef_0 rfl 1 rfl ?_
  refine V.i2b (pc := 1) hG dJ1_indexOfChar_4cfef_1 ?_
  refine V.istore (pc := 2) (lv' := [(4, .int (sJ ((sJ p1).toInt8.toInt32.toInt))), (0, .ref (aV Δ k0)), (1, .int (sJ p1)), (2, .int (sJ p2)), (3, .int (sJ p3))]) hG dJ1_indexOfChar_4cfef_2 (by decide) rfl ?_
  refine V.iload_n (pc := 4) hG dJ1_indexOfChar_4cfef_4 rfl 3 rfl ?_
  refine V.istore (pc := 5) (lv' := [(5, .int (sJ p2)), (4, .int (sJ ((sJ p1).toInt8.toInt32.toInt))), (0, .ref (aV Δ k0)), (1, .int (sJ p1)), (2, .int (sJ p2)), (3, .int (sJ p3))]) hG dJ1_indexOfChar_4cfef_5 (by decide) rfl ?_
  obtain ⟨n8, h⟩ := h
  have lp7 : ∀ (m7 : Nat) (x5_7 : Int), sR x5_7 → LoopP (b7_J1_indexOfChar_4cfef k0 p3 ((sJ p1).toInt8.toInt32.toInt) i r Q) m7 (x5_7) → V Γ Δ 504 false i r 0 0 Q0 7 [(0, .ref (aV Δ k0)), (3, .int (sJ p3)), (4, .int (sJ ((sJ p1).toInt8.toInt32.toInt))), (5, .int (sJ x5_7))] [] := by
    intro m7
    induction m7 with
    | zero => intro x5_7 hx5_7 h; exact h.elim
    | succ m7 ih7 =>
      intro x5_7 hx5_7 h
      have h := LoopP_succ h
      refine V.iload (pc := 7) hG dJ1_indexOfChar_4cfef_7 3 rfl ?_
      refine V.iload_n (pc := 9) hG dJ1_indexOfChar_4cfef_9 rfl 1 rfl ?_
      obtain ⟨t10, f11⟩ := h
      refine V.icmp_ge (pc := 10) (tgt := 31) hG hx5_7 hp3 dJ1_indexOfChar_4cfef_10 (by decide) (fun c9 => ?_) (fun c9 => ?_)
      · have h := t10 c9
        clear t10 f11
        refine V.iconst (pc := 31) hG dJ1_indexOfChar_4cfef_31 ?_
        exact fin dJ1_indexOfChar_4cfef_32 ((sR_l rfl)) rfl hi hw ⟨rfl, rfl, h⟩
      · have h := f11 c9
        clear t10 f11
        refine V.aload_n (pc := 13) hG dJ1_indexOfChar_4cfef_13 rfl 0 rfl ?_
        refine V.iload (pc := 14) hG dJ1_indexOfChar_4cfef_14 3 rfl ?_
        obtain ⟨g12, h⟩ := h
        refine V.sbald (pc := 16) (k := k0) hG hk0 hx5_7 g12 dJ1_indexOfChar_4cfef_16 ?_
        refine V.iload (pc := 17) hG dJ1_indexOfChar_4cfef_17 2 rfl ?_
        obtain ⟨f15, t14⟩ := h
        refine V.icmp_ne (pc := 19) (tgt := 25) hG ((sR_of _)) ((sR_of _)) dJ1_indexOfChar_4cfef_19 (by decide) (fun c13 => ?_) (fun c13 => ?_)
        · have h := t14 c13
          clear t14 f15
          refine V.iinc (pc := 25) (lv' := [(5, .int (sJ (wr (x5_7 + 1)))), (0, .ref (aV Δ k0)), (3, .int (sJ p3)), (4, .int (sJ ((sJ p1).toInt8.toInt32.toInt)))]) hG dJ1_indexOfChar_4cfef_25 3 rfl (by decide) rfl ?_
          refine V.goto (pc := 28) (tgt := 7) hG dJ1_indexOfChar_4cfef_28 (by decide) ?_
          refine V.pick [1, 2, 3, 0] rfl ?_
          exact ih7 (wr (x5_7 + 1)) ((sR_wr _)) h
        · have h := f15 c13
          clear t14 f15
          refine V.iload (pc := 22) hG dJ1_indexOfChar_4cfef_22 3 rfl ?_
          exact fin dJ1_indexOfChar_4cfef_24 hx5_7 rfl hi hw ⟨rfl, rfl, h⟩
  refine V.pick [2, 5, 1, 0] rfl ?_
  exact lp7 n8 p2 hp2 h
set_option maxRecDepth 100000 in
set_option maxHeartbeats 4000000 in
theorem sm_J1_indexOf_4cfef (l : Launch) (Δ : Wd) {i r : MI} {k0 : Nat} {p1 : Int} {p2 : Int} {p3 : Int} (hk0 : k0 < 13) (hp1 : sR p1) (hp2 : sR p2) (hp3 : sR p3) {Q : Int → Prop} (hi : okI i) (hw : Wf r) (h : wp_J1_indexOf_4cfef k0 p1 p2 p3 i r Q) : Met l yJ1_indexOf_4cfef (Cond.code yJ1_indexOf_4cfef cJ1_indexOf_4cfef 4 (some .int) :: gW) (sRm 1 25) (sPc Δ [.ref (aV Δ k0), .int (sJ p1), .int (sJ p2), .int (sJ p3)] i r) (sQi Δ (fun x i' r' => i = i' ∧ r = r' ∧ Q x)) 0 0 (sFr Δ) := by
  refine Ct.i (ty := .int) (by decide) rfl (Nat.le_of_ble_eq_true rfl) (fun Γ Q0 hG fin => ?_)
  have hG : okG Γ Δ l (sRm 1 25) cJ1_indexOf_4cfef "java/lang/StringLatin1" 4 := hG
  show V Γ Δ 504 false i r 0 0 Q0 0 [(0, .ref (aV Δ k0)), (1, .int (sJ p1)), (2, .int (sJ p2)), (3, .int (sJ p3))] []
  refine V.iload_n (pc := 0) hG dJ1_indexOf_4cfef_0 rfl 1 rfl ?_
  refine V.callSi (pc := 1) (As := [.int (sJ p1)]) (stk := []) hG (sm_J1_canEncode_9a6ad l Δ hp1 hi hw h) mY_J1_canEncode_9a6ad kw_1039 kw_1040 ⟨Nat.le_of_ble_eq_true rfl, Nat.le_of_ble_eq_true rfl, Nat.le_of_ble_eq_true rfl, Nat.le_of_ble_eq_true rfl⟩ rfl (Nat.le_of_ble_eq_true rfl) dJ1_indexOf_4cfef_1 rfl (fun v1 i2 r3 hv4 hi5 hw6 hq7 => ?_)
  obtain ⟨e23, e24, h⟩ := hq7
  subst e23
  subst e24
  obtain ⟨f10, t9⟩ := h
  refine V.if_ne (pc := 4) (tgt := 9) hG hv4 dJ1_indexOf_4cfef_4 (by decide) (fun c8 => ?_) (fun c8 => ?_)
  · have h := t9 c8
    clear t9 f10
    refine V.iload_n (pc := 9) hG dJ1_indexOf_4cfef_9 rfl 2 rfl ?_
    refine V.iconst (pc := 10) hG dJ1_indexOf_4cfef_10 ?_
    refine V.mmax (pc := 11) hG hp2 ((sR_l rfl)) kw_1042 kw_699 kw_121 kw_max ⟨Nat.le_of_ble_eq_true rfl, Nat.le_of_ble_eq_true rfl, Nat.le_of_ble_eq_true rfl, Nat.le_of_ble_eq_true rfl⟩ dJ1_indexOf_4cfef_11 ?_
    refine V.istore_n (pc := 14) (lv' := [(2, .int (sJ (max p2 0))), (0, .ref (aV Δ k0)), (1, .int (sJ p1)), (3, .int (sJ p3))]) hG dJ1_indexOf_4cfef_14 rfl (by decide) rfl ?_
    refine V.iload_n (pc := 15) hG dJ1_indexOf_4cfef_15 rfl 3 rfl ?_
    refine V.aload_n (pc := 16) hG dJ1_indexOf_4cfef_16 rfl 1 rfl ?_
    refine V.slen (pc := 17) (k := k0) hG hk0 dJ1_indexOf_4cfef_17 ?_
    refine V.mmin (pc := 18) hG hp3 ((sR_len hk0)) kw_1043 kw_646 kw_121 kw_min ⟨Nat.le_of_ble_eq_true rfl, Nat.le_of_ble_eq_true rfl, Nat.le_of_ble_eq_true rfl, Nat.le_of_ble_eq_true rfl⟩ dJ1_indexOf_4cfef_18 ?_
    refine V.istore_n (pc := 21) (lv' := [(3, .int (sJ (min p3 (lenS k0 : Int)))), (2, .int (sJ (max p2 0))), (0, .ref (aV Δ k0)), (1, .int (sJ p1))]) hG dJ1_indexOf_4cfef_21 rfl (by decide) rfl ?_
    refine V.iload_n (pc := 22) hG dJ1_indexOf_4cfef_22 rfl 1 rfl ?_
    refine V.iload_n (pc := 23) hG dJ1_indexOf_4cfef_23 rfl 0 rfl ?_
    obtain ⟨t12, f13⟩ := h
    refine V.icmp_lt (pc := 24) (tgt := 29) hG ((sR_max hp2 ((sR_l rfl)))) ((sR_min hp3 ((sR_len hk0)))) dJ1_indexOf_4cfef_24 (by decide) (fun c11 => ?_) (fun c11 => ?_)
    · have h := t12 c11
      clear t12 f13
      refine V.aload_n (pc := 29) hG dJ1_indexOf_4cfef_29 rfl 2 rfl ?_
      refine V.iload_n (pc := 30) hG dJ1_indexOf_4cfef_30 rfl 3 rfl ?_
      refine V.iload_n (pc := 31) hG dJ1_indexOf_4cfef_31 rfl 1 rfl ?_
      refine V.iload_n (pc := 32) hG dJ1_indexOf_4cfef_32 rfl 0 rfl ?_
      refine V.callSi (pc := 33) (As := [.ref (aV Δ k0), .int (sJ p1), .int (sJ (max p2 0)), .int (sJ (min p3 (lenS k0 : Int)))]) (stk := []) hG (sm_J1_indexOfChar_4cfef l Δ hk0 hp1 ((sR_max hp2 ((sR_l rfl)))) ((sR_min hp3 ((sR_len hk0)))) hi hw h) mY_J1_indexOfChar_4cfef kw_1044 kw_1045 ⟨Nat.le_of_ble_eq_true rfl, Nat.le_of_ble_eq_true rfl, Nat.le_of_ble_eq_true rfl, Nat.le_of_ble_eq_true rfl⟩ rfl (Nat.le_of_ble_eq_true rfl) dJ1_indexOf_4cfef_33 rfl (fun v14 i15 r16 hv17 hi18 hw19 hq20 => ?_)
      obtain ⟨e21, e22, h⟩ := hq20
      subst e21
      subst e22
      exact fin dJ1_indexOf_4cfef_36 hv17 rfl hi hw ⟨rfl, rfl, h⟩
    · have h := f13 c11
      clear t12 f13
      refine V.iconst (pc := 27) hG dJ1_indexOf_4cfef_27 ?_
      exact fin dJ1_indexOf_4cfef_28 ((sR_l rfl)) rfl hi hw ⟨rfl, rfl, h⟩
  · have h := f10 c8
    clear t9 f10
    refine V.iconst (pc := 7) hG dJ1_indexOf_4cfef_7 ?_
    exact fin dJ1_indexOf_4cfef_8 ((sR_l rfl)) rfl hi hw ⟨rfl, rfl, h⟩
set_option maxRecDepth 100000 in
set_option maxHeartbeats 4000000 in
theorem sm_J0_indexOf_7cf53 (l : Launch) (Δ : Wd) {i r : MI} {k0 : Nat} {p1 : Int} {p2 : Int} (hk0 : k0 < 13) (hp1 : sR p1) (hp2 : sR p2) {Q : Int → Prop} (hi : okI i) (hw : Wf r) (h : wp_J0_indexOf_7cf53 k0 p1 p2 i r Q) : Met l yJ0_indexOf_7cf53 (Cond.code yJ0_indexOf_7cf53 cJ0_indexOf_7cf53 3 (some .int) :: gW) (sRm 2 48) (sPc Δ [.ref (aK Δ k0), .int (sJ p1), .int (sJ p2)] i r) (sQi Δ (fun x i' r' => i = i' ∧ r = r' ∧ Q x)) 0 0 (sFr Δ) := by
  refine Ct.i (ty := .int) (by decide) rfl (Nat.le_of_ble_eq_true rfl) (fun Γ Q0 hG fin => ?_)
  have hG : okG Γ Δ l (sRm 2 48) cJ0_indexOf_7cf53 "java/lang/String" 3 := hG
  show V Γ Δ 504 false i r 0 0 Q0 0 [(0, .ref (aK Δ k0)), (1, .int (sJ p1)), (2, .int (sJ p2))] []
  have jn36 : ∀ (k0j36 : Int), sR k0j36 → s36_J0_indexOf_7cf53 k0j36 i r Q → V Γ Δ 504 false i r 0 0 Q0 36 [] [.int (sJ k0j36)] := by
    intro k0j36 hk0j36 h
    exact fin dJ0_indexOf_7cf53_36 hk0j36 rfl hi hw ⟨rfl, rfl, h⟩
  refine V.aload_n (pc := 0) hG dJ0_indexOf_7cf53_0 rfl 0 rfl ?_
  refine V.callVSi (pc := 1) (As := []) (stk := []) hG (sm_J0_isLatin1_aae02 l Δ hk0 hi hw h) mY_J0_isLatin1_aae02 kw_1022 kw_1023 kw_1024 hk0 rfl ⟨Nat.le_of_ble_eq_true rfl, Nat.le_of_ble_eq_true rfl, Nat.le_of_ble_eq_true rfl, Nat.le_of_ble_eq_true rfl⟩ rfl (Nat.le_of_ble_eq_true rfl) dJ0_indexOf_7cf53_1 rfl (fun v1 i2 r3 hv4 hi5 hw6 hq7 => ?_)
  obtain ⟨e38, e39, h⟩ := hq7
  subst e38
  subst e39
  obtain ⟨t9, f10⟩ := h
  refine V.if_eq (pc := 4) (tgt := 23) hG hv4 dJ0_indexOf_7cf53_4 (by decide) (fun c8 => ?_) (fun c8 => ?_)
  · have h := t9 c8
    clear t9 f10
    refine V.aload_n (pc := 23) hG dJ0_indexOf_7cf53_23 rfl 0 rfl ?_
    refine V.sval (pc := 24) (k := k0) hG hk0 kw_1455 dJ0_indexOf_7cf53_24 ?_
    refine V.iload_n (pc := 27) hG dJ0_indexOf_7cf53_27 rfl 1 rfl ?_
    refine V.iload_n (pc := 28) hG dJ0_indexOf_7cf53_28 rfl 2 rfl ?_
    refine V.aload_n (pc := 29) hG dJ0_indexOf_7cf53_29 rfl 0 rfl ?_
    refine V.callVSi (pc := 30) (As := []) (stk := [.int (sJ p2), .int (sJ p1), .ref (aV Δ k0)]) hG (sm_J0_length_8abf5 l Δ hk0 hi hw h) mY_J0_length_8abf5 kw_1028 kw_1029 kw_1030 hk0 rfl ⟨Nat.le_of_ble_eq_true rfl, Nat.le_of_ble_eq_true rfl, Nat.le_of_ble_eq_true rfl, Nat.le_of_ble_eq_true rfl⟩ rfl (Nat.le_of_ble_eq_true rfl) dJ0_indexOf_7cf53_30 rfl (fun v11 i12 r13 hv14 hi15 hw16 hq17 => ?_)
    obtain ⟨e18, e19, h⟩ := hq17
    subst e18
    subst e19
    exact h.elim
  · have h := f10 c8
    clear t9 f10
    refine V.aload_n (pc := 7) hG dJ0_indexOf_7cf53_7 rfl 0 rfl ?_
    refine V.sval (pc := 8) (k := k0) hG hk0 kw_1455 dJ0_indexOf_7cf53_8 ?_
    refine V.iload_n (pc := 11) hG dJ0_indexOf_7cf53_11 rfl 1 rfl ?_
    refine V.iload_n (pc := 12) hG dJ0_indexOf_7cf53_12 rfl 2 rfl ?_
    refine V.aload_n (pc := 13) hG dJ0_indexOf_7cf53_13 rfl 0 rfl ?_
    refine V.callVSi (pc := 14) (As := []) (stk := [.int (sJ p2), .int (sJ p1), .ref (aV Δ k0)]) hG (sm_J0_length_8abf5 l Δ hk0 hi hw h) mY_J0_length_8abf5 kw_1028 kw_1029 kw_1030 hk0 rfl ⟨Nat.le_of_ble_eq_true rfl, Nat.le_of_ble_eq_true rfl, Nat.le_of_ble_eq_true rfl, Nat.le_of_ble_eq_true rfl⟩ rfl (Nat.le_of_ble_eq_true rfl) dJ0_indexOf_7cf53_14 rfl (fun v20 i21 r22 hv23 hi24 hw25 hq26 => ?_)
    obtain ⟨e36, e37, h⟩ := hq26
    subst e36
    subst e37
    refine V.callSi (pc := 17) (As := [.ref (aV Δ k0), .int (sJ p1), .int (sJ p2), .int (sJ v20)]) (stk := []) hG (sm_J1_indexOf_4cfef l Δ hk0 hp1 hp2 hv23 hi hw h) mY_J1_indexOf_4cfef kw_1036 kw_1037 ⟨Nat.le_of_ble_eq_true rfl, Nat.le_of_ble_eq_true rfl, Nat.le_of_ble_eq_true rfl, Nat.le_of_ble_eq_true rfl⟩ rfl (Nat.le_of_ble_eq_true rfl) dJ0_indexOf_7cf53_17 rfl (fun v27 i28 r29 hv30 hi31 hw32 hq33 => ?_)
    obtain ⟨e34, e35, h⟩ := hq33
    subst e34
    subst e35
    refine V.goto (pc := 20) (tgt := 36) hG dJ0_indexOf_7cf53_20 (by decide) ?_
    refine V.pick [] rfl ?_
    exact jn36 v27 hv30 h
set_option maxRecDepth 100000 in
set_option maxHeartbeats 4000000 in
theorem sm_J0_indexOf_0f7a4 (l : Launch) (Δ : Wd) {i r : MI} {k0 : Nat} {p1 : Int} (hk0 : k0 < 13) (hp1 : sR p1) {Q : Int → Prop} (hi : okI i) (hw : Wf r) (h : wp_J0_indexOf_0f7a4 k0 p1 i r Q) : Met l yJ0_indexOf_0f7a4 (Cond.code yJ0_indexOf_0f7a4 cJ0_indexOf_0f7a4 2 (some .int) :: gW) (sRm 3 70) (sPc Δ [.ref (aK Δ k0), .int (sJ p1)] i r) (sQi Δ (fun x i' r' => i = i' ∧ r = r' ∧ Q x)) 0 0 (sFr Δ) := by
  refine Ct.i (ty := .int) (by decide) rfl (Nat.le_of_ble_eq_true rfl) (fun Γ Q0 hG fin => ?_)
  have hG : okG Γ Δ l (sRm 3 70) cJ0_indexOf_0f7a4 "java/lang/String" 2 := hG
  show V Γ Δ 504 false i r 0 0 Q0 0 [(0, .ref (aK Δ k0)), (1, .int (sJ p1))] []
  refine V.aload_n (pc := 0) hG dJ0_indexOf_0f7a4_0 rfl 0 rfl ?_
  refine V.iload_n (pc := 1) hG dJ0_indexOf_0f7a4_1 rfl 1 rfl ?_
  refine V.iconst (pc := 2) hG dJ0_indexOf_0f7a4_2 ?_
  refine V.callVSi (pc := 3) (As := [.int (sJ p1), .int (sJ 0)]) (stk := []) hG (sm_J0_indexOf_7cf53 l Δ hk0 hp1 ((sR_l rfl)) hi hw h) mY_J0_indexOf_7cf53 kw_1018 kw_1019 kw_1020 hk0 rfl ⟨Nat.le_of_ble_eq_true rfl, Nat.le_of_ble_eq_true rfl, Nat.le_of_ble_eq_true rfl, Nat.le_of_ble_eq_true rfl⟩ rfl (Nat.le_of_ble_eq_true rfl) dJ0_indexOf_0f7a4_3 rfl (fun v1 i2 r3 hv4 hi5 hw6 hq7 => ?_)
  obtain ⟨e8, e9, h⟩ := hq7
  subst e8
  subst e9
  exact fin dJ0_indexOf_0f7a4_6 hv4 rfl hi hw ⟨rfl, rfl, h⟩
set_option maxRecDepth 100000 in
set_option maxHeartbeats 4000000 in
theorem sm_X11_type (l : Launch) (Δ : Wd) {i r : MI} {p1 : Int} (hp1 : sR p1) {Q : Int → MI → Prop} {X : String → MI → Prop} (hst : l.stackTraces = false) (hi : okI i) (hw : Wf r) (h : wp_X11_type p1 i r Q X) : vx_Met l yX11_type (Cond.code yX11_type cX11_type 2 (some .int) :: gW) (sRx 6 91 1 6) (sPc Δ [.ref (sA Δ 0), .int (sJ p1)] i r) (sQi Δ (fun x i' r' => r = r' ∧ Q x i')) (sX Δ (fun E i' r' => r = r' ∧ X E i')) 1 6 (sFr Δ) := by
  refine Cx.i (ty := .int) (by decide) rfl (Nat.le_of_ble_eq_true rfl) hst (by decide) (by decide) (fun Γ Q0 hG fin xout xthr => ?_)
  have hG : okG Γ Δ l (sRx 6 91 1 6) cX11_type "Schedulary" 2 := hG
  show V Γ Δ 504 false i r 0 0 Q0 0 [(0, .ref (sA Δ 0)), (1, .int (sJ p1))] []
  refine V.ldcS (pc := 0) (k := 0) (tx := "0123456789abcdefghilMN=[]+-*&|^<>") hG (by decide) dX11_type_0 ?_
  refine V.iload_n (pc := 2) hG dX11_type_2 rfl 1 rfl ?_
  refine V.callVSi (pc := 3) (As := [.int (sJ p1)]) (stk := []) hG (sm_J0_indexOf_0f7a4 l Δ (by decide) hp1 hi hw h) mY_J0_indexOf_0f7a4 kw_1014 kw_1015 kw_1016 (by decide) rfl ⟨Nat.le_of_ble_eq_true rfl, Nat.le_of_ble_eq_true rfl, Nat.le_of_ble_eq_true rfl, Nat.le_of_ble_eq_true rfl⟩ rfl (Nat.le_of_ble_eq_true rfl) dX11_type_3 rfl (fun v1 i2 r3 hv4 hi5 hw6 hq7 => ?_)
  obtain ⟨e23, e24, h⟩ := hq7
  subst e23
  subst e24
  obtain ⟨t9, f10⟩ := h
  refine V.if_ge (pc := 6) (tgt := 19) hG hv4 dX11_type_6 (by decide) (fun c8 => ?_) (fun c8 => ?_)
  · have h := t9 c8
    clear t9 f10
    refine V.aload_n (pc := 19) hG dX11_type_19 rfl 0 rfl ?_
    refine V.getR (x := 1) (pc := 20) (ci := 13) (k := 0) (M := 11) (T := TX11) (o := 0) (kz := 0) hG a_0 a_0.n (by decide) hin_X11 rfl (by decide) (by decide) rfl kw_523 rfl ((hw).1 (0, 0, 1) (by decide)) (by decide) dX11_type_20 ?_
    refine V.getIN (pc := 23) (ci := 12) (k := 1) (M := 3) (T := TX10) (o := 1) (kz := 1) hG a_1 a_1.n (by decide) hin_X10 rfl (by decide) (by decide) rfl kw_152 rfl dX11_type_23 ?_
    refine V.bipush (pc := 26) hG dX11_type_26 (by decide) ?_
    obtain ⟨t12, f13⟩ := h
    refine V.icmp_lt (pc := 28) (tgt := 41) hG ((hi _ _)) ((sR_l rfl)) dX11_type_28 (by decide) (fun c11 => ?_) (fun c11 => ?_)
    · have h := t12 c11
      clear t12 f13
      refine V.aload_n (pc := 41) hG dX11_type_41 rfl 0 rfl ?_
      refine V.getR (x := 1) (pc := 42) (ci := 13) (k := 0) (M := 11) (T := TX11) (o := 0) (kz := 0) hG a_0 a_0.n (by decide) hin_X11 rfl (by decide) (by decide) rfl kw_523 rfl ((hw).1 (0, 0, 1) (by decide)) (by decide) dX11_type_42 ?_
      refine V.iload_n (pc := 45) hG dX11_type_45 rfl 1 rfl ?_
      refine V.callVNv (pc := 46) (As := [.int (sJ p1)]) (stk := []) hG (sm_X10_append l Δ hp1 hi hw h) mY_X10_append kw_1128 kw_1130 kw_76 a_1 (by decide) (q := (RX10, TX10, 3)) rfl rfl ⟨Nat.le_of_ble_eq_true rfl, Nat.le_of_ble_eq_true rfl, Nat.le_of_ble_eq_true rfl, Nat.le_of_ble_eq_true rfl⟩ rfl (Nat.le_of_ble_eq_true rfl) dX11_type_46 rfl (fun i15 r16 hi18 hw19 hq20 => ?_)
      obtain ⟨e22, h⟩ := hq20
      subst e22
      refine V.aload_n (pc := 49) hG dX11_type_49 rfl 0 rfl ?_
      refine V.getR (x := 1) (pc := 50) (ci := 13) (k := 0) (M := 11) (T := TX11) (o := 0) (kz := 0) hG a_0 a_0.n (by decide) hin_X11 rfl (by decide) (by decide) rfl kw_523 rfl ((hw).1 (0, 0, 1) (by decide)) (by decide) dX11_type_50 ?_
      refine V.getIN (pc := 53) (ci := 12) (k := 1) (M := 3) (T := TX10) (o := 1) (kz := 1) hG a_1 a_1.n (by decide) hin_X10 rfl (by decide) (by decide) rfl kw_152 rfl dX11_type_53 ?_
      exact fin dX11_type_56 ((hi18 _ _)) rfl (by decide) (by decide) hi18 hw ⟨rfl, h⟩
    · have h := f13 c11
      clear t12 f13
      exact xthr ⟨98, 100, 102, "the buffer is full", by decide, kw_1112, kw_126, by decide, .inl th_102, dX11_type_31, dX11_type_34, Or.inl ⟨dX11_type_35, dX11_type_37, dX11_type_40⟩⟩ (by decide) (by decide) hi hw ⟨rfl, h⟩
  · have h := f10 c8
    clear t9 f10
    exact xthr ⟨88, 90, 92, "no sign of a statement", by decide, kw_1096, kw_125, by decide, .inl th_92, dX11_type_9, dX11_type_12, Or.inl ⟨dX11_type_13, dX11_type_15, dX11_type_18⟩⟩ (by decide) (by decide) hi hw ⟨rfl, h⟩
set_option maxRecDepth 100000 in
set_option maxHeartbeats 4000000 in
theorem sm_X10_empty (l : Launch) (Δ : Wd) {i r : MI}   {Q : Int → MI → Prop} (hi : okI i) (hw : Wf r) (h : wp_X10_empty  i r Q) : Met l yX10_empty (Cond.code yX10_empty cX10_empty 2 (some .int) :: gW) (sRm 0 0) (sPc Δ [.ref (sA Δ 1)] i r) (sQi Δ (fun x i' r' => r = r' ∧ Q x i')) 0 0 (sFr Δ) := by
  refine Ct.i (ty := .int) (by decide) rfl (Nat.le_of_ble_eq_true rfl) (fun Γ Q0 hG fin => ?_)
  have hG : okG Γ Δ l (sRm 0 0) cX10_empty "Schedulary$Text" 2 := hG
  show V Γ Δ 504 false i r 0 0 Q0 0 [(0, .ref (sA Δ 1))] []
  refine V.aload_n (pc := 0) hG dX10_empty_0 rfl 0 rfl ?_
  refine V.getI (pc := 1) (ci := 12) (k := 1) (M := 3) (T := TX10) (o := 1) (kz := 1) hG a_1 a_1.n (by decide) hin_X10 rfl (by decide) (by decide) rfl kw_151 rfl dX10_empty_1 ?_
  refine V.istore_n (pc := 4) (lv' := [(1, .int (sJ (i 1 1))), (0, .ref (sA Δ 1))]) hG dX10_empty_4 rfl (by decide) rfl ?_
  refine V.aload_n (pc := 5) hG dX10_empty_5 rfl 1 rfl ?_
  refine V.iconst (pc := 6) hG dX10_empty_6 ?_
  refine V.putI (pc := 7) (ci := 12) (k := 1) (M := 3) (T := TX10) (o := 1) (kz := 1) hG a_1 a_1.n (by decide) hin_X10 rfl (by decide) (by decide) rfl kw_151 rfl tyX10 tyX10_ok nmX10 rfl (ty := tyX10 1) (tyX10_ok 1 (by decide)) rfl rfl dX10_empty_7 ?_
  refine V.iload_n (pc := 10) hG dX10_empty_10 rfl 0 rfl ?_
  exact fin dX10_empty_11 ((hi _ _)) rfl ((okI_st hi ((sR_l rfl)))) hw ⟨rfl, h⟩
set_option maxRecDepth 100000 in
set_option maxHeartbeats 4000000 in
theorem sm_X11_clear (l : Launch) (Δ : Wd) {i r : MI}   {Q : Int → MI → Prop} (hi : okI i) (hw : Wf r) (h : wp_X11_clear  i r Q) : Met l yX11_clear (Cond.code yX11_clear cX11_clear 1 (some .int) :: gW) (sRm 1 21) (sPc Δ [.ref (sA Δ 0)] i r) (sQi Δ (fun x i' r' => r = r' ∧ Q x i')) 0 0 (sFr Δ) := by
  refine Ct.i (ty := .int) (by decide) rfl (Nat.le_of_ble_eq_true rfl) (fun Γ Q0 hG fin => ?_)
  have hG : okG Γ Δ l (sRm 1 21) cX11_clear "Schedulary" 1 := hG
  show V Γ Δ 504 false i r 0 0 Q0 0 [(0, .ref (sA Δ 0))] []
  refine V.aload_n (pc := 0) hG dX11_clear_0 rfl 0 rfl ?_
  refine V.getR (x := 1) (pc := 1) (ci := 13) (k := 0) (M := 11) (T := TX11) (o := 0) (kz := 0) hG a_0 a_0.n (by decide) hin_X11 rfl (by decide) (by decide) rfl kw_523 rfl ((hw).1 (0, 0, 1) (by decide)) (by decide) dX11_clear_1 ?_
  refine V.callVNi (pc := 4) (As := []) (stk := []) hG (sm_X10_empty l Δ  hi hw h) mY_X10_empty kw_1192 kw_1194 kw_89 a_1 (by decide) (q := (RX10, TX10, 3)) rfl rfl ⟨Nat.le_of_ble_eq_true rfl, Nat.le_of_ble_eq_true rfl, Nat.le_of_ble_eq_true rfl, Nat.le_of_ble_eq_true rfl⟩ rfl (Nat.le_of_ble_eq_true rfl) dX11_clear_4 rfl (fun v1 i2 r3 hv4 hi5 hw6 hq7 => ?_)
  obtain ⟨e9, h⟩ := hq7
  subst e9
  exact fin dX11_clear_7 hv4 rfl hi5 hw ⟨rfl, h⟩
set_option maxRecDepth 100000 in
set_option maxHeartbeats 4000000 in
theorem sm_X11_changeBody (l : Launch) (Δ : Wd) {i r : MI}   {Q : MI → Prop} (hi : okI i) (hw : Wf r) (h : wp_X11_changeBody  i r Q) : Met l yX11_changeBody (Cond.code yX11_changeBody cX11_changeBody 1 none :: gW) (sRm 0 0) (sPc Δ [.ref (sA Δ 0)] i r) (sQv Δ (fun i' r' => r = r' ∧ Q i')) 0 0 (sFr Δ) := by
  refine Ct.v (by decide) rfl (Nat.le_of_ble_eq_true rfl) (fun Γ Q0 hG fin => ?_)
  have hG : okG Γ Δ l (sRm 0 0) cX11_changeBody "Schedulary" 1 := hG
  show V Γ Δ 504 false i r 0 0 Q0 0 [(0, .ref (sA Δ 0))] []
  refine V.aload_n (pc := 0) hG dX11_changeBody_0 rfl 0 rfl ?_
  refine V.iconst (pc := 1) hG dX11_changeBody_1 ?_
  refine V.putI (pc := 2) (ci := 13) (k := 9) (M := 11) (T := TX11) (o := 0) (kz := 9) hG a_0 a_0.n (by decide) hin_X11 rfl (by decide) (by decide) rfl kw_532 rfl tyX11 tyX11_ok nmX11 rfl (ty := tyX11 9) (tyX11_ok 9 (by decide)) rfl rfl dX11_changeBody_2 ?_
  refine V.aload_n (pc := 5) hG dX11_changeBody_5 rfl 0 rfl ?_
  refine V.iconst (pc := 6) hG dX11_changeBody_6 ?_
  refine V.putI (pc := 7) (ci := 13) (k := 10) (M := 11) (T := TX11) (o := 0) (kz := 10) hG a_0 a_0.n (by decide) hin_X11 rfl (by decide) (by decide) rfl kw_533 rfl tyX11 tyX11_ok nmX11 rfl (ty := tyX11 10) (tyX11_ok 10 (by decide)) (nar_z (by decide)) (fit_z (by decide)) dX11_changeBody_7 ?_
  exact fin dX11_changeBody_10 ((okI_st ((okI_st hi ((sR_l rfl)))) ((sR_l rfl)))) hw ⟨rfl, h⟩
set_option maxRecDepth 100000 in
set_option maxHeartbeats 4000000 in
theorem sm_X6_useSpare (l : Launch) (Δ : Wd) {i r : MI} {p1 : Int} (hp1 : sR p1) {Q : MI → MI → Prop} (hi : okI i) (hw : Wf r) (h : wp_X6_useSpare p1 i r Q) : Met l yX6_useSpare (Cond.code yX6_useSpare cX6_useSpare 3 none :: gW) (sRm 0 0) (sPc Δ [.ref (sA Δ 3), .int (sJ p1)] i r) (sQv Δ (Q)) 0 0 (sFr Δ) := by
  refine Ct.v (by decide) rfl (Nat.le_of_ble_eq_true rfl) (fun Γ Q0 hG fin => ?_)
  have hG : okG Γ Δ l (sRm 0 0) cX6_useSpare "Schedulary$Program" 3 := hG
  show V Γ Δ 504 false i r 0 0 Q0 0 [(0, .ref (sA Δ 3)), (1, .int (sJ p1))] []
  refine V.aload_n (pc := 0) hG dX6_useSpare_0 rfl 0 rfl ?_
  refine V.getR (x := 4) (pc := 1) (ci := 8) (k := 0) (M := 9) (T := TX6) (o := 3) (kz := 0) hG a_3 a_3.n (by decide) hin_X6 rfl (by decide) (by decide) rfl kw_200 rfl ((hw).1 (3, 0, 4) (by decide)) (by decide) dX6_useSpare_1 ?_
  refine V.iload_n (pc := 4) hG dX6_useSpare_4 rfl 1 rfl ?_
  obtain ⟨g1, h⟩ := h
  refine V.aald (pc := 5) 5 (z := 12) (o := 4) (x := p1) (y := r 4 p1) hG a_4 a_4.n (by decide) hp1 g1 rfl (Wf.sts hw g1).z dX6_useSpare_5 ?_
  refine V.astore_n (pc := 6) (lv' := [(2, .ref (sA Δ (r 4 p1))), (0, .ref (sA Δ 3)), (1, .int (sJ p1))]) hG dX6_useSpare_6 rfl (by decide) rfl ?_
  refine V.aload_n (pc := 7) hG dX6_useSpare_7 rfl 1 rfl ?_
  refine V.getR (x := 4) (pc := 8) (ci := 8) (k := 0) (M := 9) (T := TX6) (o := 3) (kz := 0) hG a_3 a_3.n (by decide) hin_X6 rfl (by decide) (by decide) rfl kw_200 rfl ((hw).1 (3, 0, 4) (by decide)) (by decide) dX6_useSpare_8 ?_
  refine V.iload_n (pc := 11) hG dX6_useSpare_11 rfl 2 rfl ?_
  refine V.aload_n (pc := 12) hG dX6_useSpare_12 rfl 1 rfl ?_
  refine V.getR (x := (r 3 3)) (pc := 13) (ci := 8) (k := 3) (M := 9) (T := TX6) (o := 3) (kz := 3) hG a_3 a_3.n (by decide) hin_X6 rfl (by decide) (by decide) rfl kw_207 rfl rfl ((hw).sp).z dX6_useSpare_13 ?_
  obtain ⟨g2, h⟩ := h
  refine V.aast (pc := 16) 5 10 (q := (RX8, TX8, 4)) hG a_4 a_4.n (by decide) rfl ((hw).sp).o (((hw).sp).o).n (by decide) rfl hp1 g2 ((hw).sp).z dX6_useSpare_16 ?_
  refine V.aload_n (pc := 17) hG dX6_useSpare_17 rfl 1 rfl ?_
  refine V.aload_n (pc := 18) hG dX6_useSpare_18 rfl 0 rfl ?_
  refine V.putR (pc := 19) (ci := 8) (k := 3) (M := 9) (T := TX6) (o := 3) (kz := 3) hG a_3 a_3.n (by decide) hin_X6 rfl (by decide) (by decide) rfl kw_207 rfl tyX6 tyX6_ok nmX6 rfl (ty := tyX6 3) (tyX6_ok 3 (by decide)) ((Wf.sts hw g1)).z (fun _ => rfl) (fun _ => rfl) dX6_useSpare_19 ?_
  exact fin dX6_useSpare_22 hi ((Wf.spare ((Wf.stst hw ((hw).sp))) ((Wf.sts hw g1)))) h
set_option maxRecDepth 100000 in
set_option maxHeartbeats 4000000 in
theorem sm_X8_forget (l : Launch) (Δ : Wd) {i r : MI} {o0 : Int} (ho0 : stm o0) {Q : MI → Prop} (hi : okI i) (hw : Wf r) (h : wp_X8_forget o0 i r Q) : Met l yX8_forget (Cond.code yX8_forget cX8_forget 2 none :: gW) (sRm 0 0) (sPc Δ [.ref (sA Δ o0)] i r) (sQv Δ (fun i' r' => r = r' ∧ Q i')) 0 0 (sFr Δ) := by
  refine Ct.v (by decide) rfl (Nat.le_of_ble_eq_true rfl) (fun Γ Q0 hG fin => ?_)
  have hG : okG Γ Δ l (sRm 0 0) cX8_forget "Schedulary$Statement" 2 := hG
  show V Γ Δ 504 false i r 0 0 Q0 0 [(0, .ref (sA Δ o0))] []
  refine V.iconst (pc := 0) hG dX8_forget_0 ?_
  refine V.istore_n (pc := 1) (lv' := [(1, .int (sJ 0)), (0, .ref (sA Δ o0))]) hG dX8_forget_1 rfl (by decide) rfl ?_
  obtain ⟨n7, h⟩ := h
  have lp2 : ∀ (m2 : Nat) (x1_2 : Int) (i_2 : MI), sR x1_2 → okI i_2 → LoopP (b2_X8_forget o0 r Q) m2 (x1_2, i_2) → V Γ Δ 504 false i_2 r 0 0 Q0 2 [(0, .ref (sA Δ o0)), (1, .int (sJ x1_2))] [] := by
    intro m2
    induction m2 with
    | zero => intro x1_2 i_2 hx1_2 hi_2 h; exact h.elim
    | succ m2 ih2 =>
      intro x1_2 i_2 hx1_2 hi_2 h
      have h := LoopP_succ h
      refine V.iload_n (pc := 2) hG dX8_forget_2 rfl 1 rfl ?_
      refine V.iconst (pc := 3) hG dX8_forget_3 ?_
      obtain ⟨t9, f10⟩ := h
      refine V.icmp_ge (pc := 4) (tgt := 34) hG hx1_2 ((sR_l rfl)) dX8_forget_4 (by decide) (fun c8 => ?_) (fun c8 => ?_)
      · have h := t9 c8
        clear t9 f10
        refine V.aload_n (pc := 34) hG dX8_forget_34 rfl 0 rfl ?_
        refine V.bipush (pc := 35) hG dX8_forget_35 (by decide) ?_
        refine V.putI (pc := 37) (ci := 10) (k := 3) (M := 4) (T := TX8) (o := o0) (kz := 3) hG ho0.o ho0.o.n (by decide) hin_X8 rfl (by decide) (by decide) rfl kw_187 rfl tyX8 tyX8_ok nmX8 rfl (ty := tyX8 3) (tyX8_ok 3 (by decide)) (nar_c (by decide)) (fit_c (by decide)) dX8_forget_37 ?_
        exact fin dX8_forget_40 ((okI_st hi_2 ((sR_l rfl)))) hw ⟨rfl, h⟩
      · have h := f10 c8
        clear t9 f10
        refine V.aload_n (pc := 7) hG dX8_forget_7 rfl 0 rfl ?_
        refine V.getR (x := o0 + 1) (pc := 8) (ci := 10) (k := 0) (M := 4) (T := TX8) (o := o0) (kz := 0) hG ho0.o ho0.o.n (by decide) hin_X8 rfl (by decide) (by decide) rfl kw_177 rfl ((hw.2.2.1 _ ho0).1) (by have := (ho0).1; omega) dX8_forget_8 ?_
        refine V.iload_n (pc := 11) hG dX8_forget_11 rfl 1 rfl ?_
        refine V.iconst (pc := 12) hG dX8_forget_12 ?_
        obtain ⟨g11, h⟩ := h
        refine V.iast (pc := 13) (z := 3) (o := o0 + 1) hG ho0.f ho0.f.n hx1_2 g11 dX8_forget_13 ?_
        refine V.aload_n (pc := 14) hG dX8_forget_14 rfl 0 rfl ?_
        refine V.getR (x := o0 + 2) (pc := 15) (ci := 10) (k := 1) (M := 4) (T := TX8) (o := o0) (kz := 1) hG ho0.o ho0.o.n (by decide) hin_X8 rfl (by decide) (by decide) rfl kw_181 rfl ((hw.2.2.1 _ ho0).2.1) (by have := (ho0).1; omega) dX8_forget_15 ?_
        refine V.iload_n (pc := 18) hG dX8_forget_18 rfl 1 rfl ?_
        refine V.iconst (pc := 19) hG dX8_forget_19 ?_
        obtain ⟨g12, h⟩ := h
        refine V.iast (pc := 20) (z := 3) (o := o0 + 2) hG ho0.m ho0.m.n hx1_2 g12 dX8_forget_20 ?_
        refine V.aload_n (pc := 21) hG dX8_forget_21 rfl 0 rfl ?_
        refine V.getR (x := o0 + 3) (pc := 22) (ci := 10) (k := 2) (M := 4) (T := TX8) (o := o0) (kz := 2) hG ho0.o ho0.o.n (by decide) hin_X8 rfl (by decide) (by decide) rfl kw_184 rfl ((hw.2.2.1 _ ho0).2.2) (by have := (ho0).1; omega) dX8_forget_22 ?_
        refine V.iload_n (pc := 25) hG dX8_forget_25 rfl 1 rfl ?_
        refine V.iconst (pc := 26) hG dX8_forget_26 ?_
        obtain ⟨g13, h⟩ := h
        refine V.zast (pc := 27) (z := 3) (o := o0 + 3) hG ho0.t ho0.t.n hx1_2 g13 (vnar_z (by decide)) dX8_forget_27 ?_
        refine V.iinc (pc := 28) (lv' := [(1, .int (sJ (wr (x1_2 + 1)))), (0, .ref (sA Δ o0))]) hG dX8_forget_28 1 rfl (by decide) rfl ?_
        refine V.goto (pc := 31) (tgt := 2) hG dX8_forget_31 (by decide) ?_
        refine V.pick [1, 0] rfl ?_
        exact ih2 (wr (x1_2 + 1)) (st (st (st i_2 (o0 + 1) x1_2 (-1)) (o0 + 2) x1_2 0) (o0 + 3) x1_2 0) ((sR_wr _)) ((okI_st ((okI_st ((okI_st hi_2 ((sR_l rfl)))) ((sR_l rfl)))) ((sR_l rfl)))) h
  refine V.pick [1, 0] rfl ?_
  exact lp2 n7 0 i ((sR_l rfl)) hi h
set_option maxRecDepth 100000 in
set_option maxHeartbeats 4000000 in
theorem sm_X10_isDigit (l : Launch) (Δ : Wd) {i r : MI} {p0 : Int} (hp0 : sR p0) {Q : Int → Prop} (hi : okI i) (hw : Wf r) (h : wp_X10_isDigit p0 i r Q) : Met l yX10_isDigit (Cond.code yX10_isDigit cX10_isDigit 1 (some .boolean) :: gW) (sRm 0 0) (sPc Δ [.int (sJ p0)] i r) (sQi Δ (fun x i' r' => i = i' ∧ r = r' ∧ Q x)) 0 0 (sFr Δ) := by
  refine Ct.i (ty := .boolean) (by decide) rfl (Nat.le_of_ble_eq_true rfl) (fun Γ Q0 hG fin => ?_)
  have hG : okG Γ Δ l (sRm 0 0) cX10_isDigit "Schedulary$Text" 1 := hG
  show V Γ Δ 504 false i r 0 0 Q0 0 [(0, .int (sJ p0))] []
  have jn17 : ∀ (k0j17 : Int), sR k0j17 → s17_X10_isDigit k0j17 i r Q → V Γ Δ 504 false i r 0 0 Q0 17 [] [.int (sJ k0j17)] := by
    intro k0j17 hk0j17 h
    obtain ⟨g2, h⟩ := h
    exact fin dX10_isDigit_17 hk0j17 (nar_z g2) hi hw ⟨rfl, rfl, h⟩
  have jn16 : s16_X10_isDigit i r Q → V Γ Δ 504 false i r 0 0 Q0 16 [] [] := by
    intro h
    refine V.iconst (pc := 16) hG dX10_isDigit_16 ?_
    exact jn17 0 ((sR_l rfl)) h
  refine V.iload_n (pc := 0) hG dX10_isDigit_0 rfl 0 rfl ?_
  refine V.bipush (pc := 1) hG dX10_isDigit_1 (by decide) ?_
  obtain ⟨t4, f5⟩ := h
  refine V.icmp_lt (pc := 3) (tgt := 16) hG hp0 ((sR_l rfl)) dX10_isDigit_3 (by decide) (fun c3 => ?_) (fun c3 => ?_)
  · have h := t4 c3
    clear t4 f5
    refine V.pick [] rfl ?_
    exact jn16 h
  · have h := f5 c3
    clear t4 f5
    refine V.iload_n (pc := 6) hG dX10_isDigit_6 rfl 0 rfl ?_
    refine V.bipush (pc := 7) hG dX10_isDigit_7 (by decide) ?_
    obtain ⟨t7, f8⟩ := h
    refine V.icmp_gt (pc := 9) (tgt := 16) hG hp0 ((sR_l rfl)) dX10_isDigit_9 (by decide) (fun c6 => ?_) (fun c6 => ?_)
    · have h := t7 c6
      clear t7 f8
      refine V.pick [] rfl ?_
      exact jn16 h
    · have h := f8 c6
      clear t7 f8
      refine V.iconst (pc := 12) hG dX10_isDigit_12 ?_
      refine V.goto (pc := 13) (tgt := 17) hG dX10_isDigit_13 (by decide) ?_
      refine V.pick [] rfl ?_
      exact jn17 1 ((sR_l rfl)) h
set_option maxRecDepth 100000 in
set_option maxHeartbeats 4000000 in
theorem sm_X10_next (l : Launch) (Δ : Wd) {i r : MI}   {Q : Int → Prop} (hi : okI i) (hw : Wf r) (h : wp_X10_next  i r Q) : Met l yX10_next (Cond.code yX10_next cX10_next 1 (some .char) :: gW) (sRm 0 0) (sPc Δ [.ref (sA Δ 1)] i r) (sQi Δ (fun x i' r' => i = i' ∧ r = r' ∧ Q x)) 0 0 (sFr Δ) := by
  refine Ct.i (ty := .char) (by decide) rfl (Nat.le_of_ble_eq_true rfl) (fun Γ Q0 hG fin => ?_)
  have hG : okG Γ Δ l (sRm 0 0) cX10_next "Schedulary$Text" 1 := hG
  show V Γ Δ 504 false i r 0 0 Q0 0 [(0, .ref (sA Δ 1))] []
  have jn25 : ∀ (k0j25 : Int), sR k0j25 → s25_X10_next k0j25 i r Q → V Γ Δ 504 false i r 0 0 Q0 25 [] [.int (sJ k0j25)] := by
    intro k0j25 hk0j25 h
    obtain ⟨g2, h⟩ := h
    exact fin dX10_next_25 hk0j25 (nar_c g2) hi hw ⟨rfl, rfl, h⟩
  refine V.aload_n (pc := 0) hG dX10_next_0 rfl 0 rfl ?_
  refine V.getI (pc := 1) (ci := 12) (k := 2) (M := 3) (T := TX10) (o := 1) (kz := 2) hG a_1 a_1.n (by decide) hin_X10 rfl (by decide) (by decide) rfl kw_153 rfl dX10_next_1 ?_
  refine V.aload_n (pc := 4) hG dX10_next_4 rfl 0 rfl ?_
  refine V.getI (pc := 5) (ci := 12) (k := 1) (M := 3) (T := TX10) (o := 1) (kz := 1) hG a_1 a_1.n (by decide) hin_X10 rfl (by decide) (by decide) rfl kw_151 rfl dX10_next_5 ?_
  obtain ⟨t4, f5⟩ := h
  refine V.icmp_ge (pc := 8) (tgt := 23) hG ((hi _ _)) ((hi _ _)) dX10_next_8 (by decide) (fun c3 => ?_) (fun c3 => ?_)
  · have h := t4 c3
    clear t4 f5
    refine V.bipush (pc := 23) hG dX10_next_23 (by decide) ?_
    refine V.pick [] rfl ?_
    exact jn25 32 ((sR_l rfl)) h
  · have h := f5 c3
    clear t4 f5
    refine V.aload_n (pc := 11) hG dX10_next_11 rfl 0 rfl ?_
    refine V.getR (x := 2) (pc := 12) (ci := 12) (k := 0) (M := 3) (T := TX10) (o := 1) (kz := 0) hG a_1 a_1.n (by decide) hin_X10 rfl (by decide) (by decide) rfl kw_150 rfl ((hw).1 (1, 0, 2) (by decide)) (by decide) dX10_next_12 ?_
    refine V.aload_n (pc := 15) hG dX10_next_15 rfl 0 rfl ?_
    refine V.getI (pc := 16) (ci := 12) (k := 2) (M := 3) (T := TX10) (o := 1) (kz := 2) hG a_1 a_1.n (by decide) hin_X10 rfl (by decide) (by decide) rfl kw_153 rfl dX10_next_16 ?_
    obtain ⟨g6, h⟩ := h
    refine V.cald (pc := 19) (z := 24) (o := 2) hG a_2 a_2.n ((hi _ _)) g6 dX10_next_19 ?_
    refine V.goto (pc := 20) (tgt := 25) hG dX10_next_20 (by decide) ?_
    refine V.pick [] rfl ?_
    exact jn25 (i 2 (i 1 2)) ((hi _ _)) h
set_option maxRecDepth 100000 in
set_option maxHeartbeats 4000000 in
theorem sm_X10_readNumber (l : Launch) (Δ : Wd) {i r : MI} {p1 : Int} (hp1 : sR p1) {Q : Int → MI → Prop} (hi : okI i) (hw : Wf r) (h : wp_X10_readNumber p1 i r Q) : Met l yX10_readNumber (Cond.code yX10_readNumber cX10_readNumber 4 (some .int) :: gW) (sRm 1 20) (sPc Δ [.ref (sA Δ 1), .int (sJ p1)] i r) (sQi Δ (fun x i' r' => r = r' ∧ Q x i')) 0 0 (sFr Δ) := by
  refine Ct.i (ty := .int) (by decide) rfl (Nat.le_of_ble_eq_true rfl) (fun Γ Q0 hG fin => ?_)
  have hG : okG Γ Δ l (sRm 1 20) cX10_readNumber "Schedulary$Text" 4 := hG
  show V Γ Δ 504 false i r 0 0 Q0 0 [(0, .ref (sA Δ 1)), (1, .int (sJ p1))] []
  have jn48 : ∀ (x2j48 : Int) (ij48 : MI), sR x2j48 → okI ij48 → s48_X10_readNumber x2j48 ij48 r Q → V Γ Δ 504 false ij48 r 0 0 Q0 48 [(2, .int (sJ x2j48))] [] := by
    intro x2j48 ij48 hx2j48 hij48 h
    refine V.iload_n (pc := 48) hG dX10_readNumber_48 rfl 0 rfl ?_
    exact fin dX10_readNumber_49 hx2j48 rfl hij48 hw ⟨rfl, h⟩
  refine V.iconst (pc := 0) hG dX10_readNumber_0 ?_
  refine V.istore_n (pc := 1) (lv' := [(2, .int (sJ 0)), (0, .ref (sA Δ 1)), (1, .int (sJ p1))]) hG dX10_readNumber_1 rfl (by decide) rfl ?_
  refine V.iconst (pc := 2) hG dX10_readNumber_2 ?_
  refine V.istore_n (pc := 3) (lv' := [(3, .int (sJ 0)), (2, .int (sJ 0)), (0, .ref (sA Δ 1)), (1, .int (sJ p1))]) hG dX10_readNumber_3 rfl (by decide) rfl ?_
  obtain ⟨n34, h⟩ := h
  have lp4 : ∀ (m4 : Nat) (x2_4 : Int) (x3_4 : Int) (i_4 : MI), sR x2_4 → sR x3_4 → okI i_4 → LoopP (b4_X10_readNumber p1 r Q) m4 (x2_4, x3_4, i_4) → V Γ Δ 504 false i_4 r 0 0 Q0 4 [(0, .ref (sA Δ 1)), (1, .int (sJ p1)), (2, .int (sJ x2_4)), (3, .int (sJ x3_4))] [] := by
    intro m4
    induction m4 with
    | zero => intro x2_4 x3_4 i_4 hx2_4 hx3_4 hi_4 h; exact h.elim
    | succ m4 ih4 =>
      intro x2_4 x3_4 i_4 hx2_4 hx3_4 hi_4 h
      have h := LoopP_succ h
      refine V.iload_n (pc := 4) hG dX10_readNumber_4 rfl 3 rfl ?_
      refine V.iload_n (pc := 5) hG dX10_readNumber_5 rfl 1 rfl ?_
      obtain ⟨t36, f37⟩ := h
      refine V.icmp_ge (pc := 6) (tgt := 48) hG hx3_4 hp1 dX10_readNumber_6 (by decide) (fun c35 => ?_) (fun c35 => ?_)
      · have h := t36 c35
        clear t36 f37
        refine V.pick [2] rfl ?_
        exact jn48 x2_4 i_4 hx2_4 hi_4 h
      · have h := f37 c35
        clear t36 f37
        refine V.aload_n (pc := 9) hG dX10_readNumber_9 rfl 0 rfl ?_
        refine V.callVi (pc := 10) (As := []) (stk := []) hG (sm_X10_next l Δ  hi_4 hw h) mY_X10_next kw_1152 kw_1154 kw_81 a_1 (by decide) (q := (RX10, TX10, 3)) rfl rfl ⟨Nat.le_of_ble_eq_true rfl, Nat.le_of_ble_eq_true rfl, Nat.le_of_ble_eq_true rfl, Nat.le_of_ble_eq_true rfl⟩ rfl (Nat.le_of_ble_eq_true rfl) dX10_readNumber_10 rfl (fun v38 i39 r40 hv41 hi42 hw43 hq44 => ?_)
        obtain ⟨e66, e67, h⟩ := hq44
        subst e66
        subst e67
        refine V.callSi (pc := 13) (As := [.int (sJ v38)]) (stk := []) hG (sm_X10_isDigit l Δ hv41 hi_4 hw h) mY_X10_isDigit kw_1170 kw_1171 ⟨Nat.le_of_ble_eq_true rfl, Nat.le_of_ble_eq_true rfl, Nat.le_of_ble_eq_true rfl, Nat.le_of_ble_eq_true rfl⟩ rfl (Nat.le_of_ble_eq_true rfl) dX10_readNumber_13 rfl (fun v45 i46 r47 hv48 hi49 hw50 hq51 => ?_)
        obtain ⟨e64, e65, h⟩ := hq51
        subst e64
        subst e65
        obtain ⟨t53, f54⟩ := h
        refine V.if_eq (pc := 16) (tgt := 48) hG hv48 dX10_readNumber_16 (by decide) (fun c52 => ?_) (fun c52 => ?_)
        · have h := t53 c52
          clear t53 f54
          refine V.pick [2] rfl ?_
          exact jn48 x2_4 i_4 hx2_4 hi_4 h
        · have h := f54 c52
          clear t53 f54
          refine V.iload_n (pc := 19) hG dX10_readNumber_19 rfl 2 rfl ?_
          refine V.bipush (pc := 20) hG dX10_readNumber_20 (by decide) ?_
          refine V.imul (pc := 22) hG dX10_readNumber_22 ?_
          refine V.aload_n (pc := 23) hG dX10_readNumber_23 rfl 0 rfl ?_
          refine V.callVi (pc := 24) (As := []) (stk := [.int (sJ (wr (x2_4 * 10)))]) hG (sm_X10_next l Δ  hi_4 hw h) mY_X10_next kw_1152 kw_1154 kw_81 a_1 (by decide) (q := (RX10, TX10, 3)) rfl rfl ⟨Nat.le_of_ble_eq_true rfl, Nat.le_of_ble_eq_true rfl, Nat.le_of_ble_eq_true rfl, Nat.le_of_ble_eq_true rfl⟩ rfl (Nat.le_of_ble_eq_true rfl) dX10_readNumber_24 rfl (fun v55 i56 r57 hv58 hi59 hw60 hq61 => ?_)
          obtain ⟨e62, e63, h⟩ := hq61
          subst e62
          subst e63
          refine V.iadd (pc := 27) hG dX10_readNumber_27 ?_
          refine V.bipush (pc := 28) hG dX10_readNumber_28 (by decide) ?_
          refine V.isub (pc := 30) hG dX10_readNumber_30 ?_
          refine V.istore_n (pc := 31) (lv' := [(2, .int (sJ (wr (wr (wr (x2_4 * 10) + v55) - 48)))), (0, .ref (sA Δ 1)), (1, .int (sJ p1)), (3, .int (sJ x3_4))]) hG dX10_readNumber_31 rfl (by decide) rfl ?_
          refine V.aload_n (pc := 32) hG dX10_readNumber_32 rfl 1 rfl ?_
          refine V.dup (pc := 33) hG dX10_readNumber_33 rfl ?_
          refine V.getI (pc := 34) (ci := 12) (k := 2) (M := 3) (T := TX10) (o := 1) (kz := 2) hG a_1 a_1.n (by decide) hin_X10 rfl (by decide) (by decide) rfl kw_153 rfl dX10_readNumber_34 ?_
          refine V.iconst (pc := 37) hG dX10_readNumber_37 ?_
          refine V.iadd (pc := 38) hG dX10_readNumber_38 ?_
          refine V.putI (pc := 39) (ci := 12) (k := 2) (M := 3) (T := TX10) (o := 1) (kz := 2) hG a_1 a_1.n (by decide) hin_X10 rfl (by decide) (by decide) rfl kw_153 rfl tyX10 tyX10_ok nmX10 rfl (ty := tyX10 2) (tyX10_ok 2 (by decide)) rfl rfl dX10_readNumber_39 ?_
          refine V.iinc (pc := 42) (lv' := [(3, .int (sJ (wr (x3_4 + 1)))), (2, .int (sJ (wr (wr (wr (x2_4 * 10) + v55) - 48)))), (0, .ref (sA Δ 1)), (1, .int (sJ p1))]) hG dX10_readNumber_42 3 rfl (by decide) rfl ?_
          refine V.goto (pc := 45) (tgt := 4) hG dX10_readNumber_45 (by decide) ?_
          refine V.pick [2, 3, 1, 0] rfl ?_
          exact ih4 (wr (wr (wr (x2_4 * 10) + v55) - 48)) (wr (x3_4 + 1)) (st i_4 1 2 (wr (i_4 1 2 + 1))) ((sR_wr _)) ((sR_wr _)) ((okI_st hi_4 ((sR_wr _)))) h
  refine V.pick [2, 3, 1, 0] rfl ?_
  exact lp4 n34 0 0 i ((sR_l rfl)) ((sR_l rfl)) hi h
set_option maxRecDepth 100000 in
set_option maxHeartbeats 4000000 in
theorem sm_X10_readSign (l : Launch) (Δ : Wd) {i r : MI} {p1 : Int} (hp1 : sR p1) {Q : Int → MI → Prop} (hi : okI i) (hw : Wf r) (h : wp_X10_readSign p1 i r Q) : Met l yX10_readSign (Cond.code yX10_readSign cX10_readSign 2 (some .boolean) :: gW) (sRm 1 20) (sPc Δ [.ref (sA Δ 1), .int (sJ p1)] i r) (sQi Δ (fun x i' r' => r = r' ∧ Q x i')) 0 0 (sFr Δ) := by
  refine Ct.i (ty := .boolean) (by decide) rfl (Nat.le_of_ble_eq_true rfl) (fun Γ Q0 hG fin => ?_)
  have hG : okG Γ Δ l (sRm 1 20) cX10_readSign "Schedulary$Text" 2 := hG
  show V Γ Δ 504 false i r 0 0 Q0 0 [(0, .ref (sA Δ 1)), (1, .int (sJ p1))] []
  refine V.aload_n (pc := 0) hG dX10_readSign_0 rfl 0 rfl ?_
  refine V.callVi (pc := 1) (As := []) (stk := []) hG (sm_X10_next l Δ  hi hw h) mY_X10_next kw_1152 kw_1154 kw_81 a_1 (by decide) (q := (RX10, TX10, 3)) rfl rfl ⟨Nat.le_of_ble_eq_true rfl, Nat.le_of_ble_eq_true rfl, Nat.le_of_ble_eq_true rfl, Nat.le_of_ble_eq_true rfl⟩ rfl (Nat.le_of_ble_eq_true rfl) dX10_readSign_1 rfl (fun v1 i2 r3 hv4 hi5 hw6 hq7 => ?_)
  obtain ⟨e11, e12, h⟩ := hq7
  subst e11
  subst e12
  refine V.iload_n (pc := 4) hG dX10_readSign_4 rfl 1 rfl ?_
  obtain ⟨t9, f10⟩ := h
  refine V.icmp_eq (pc := 5) (tgt := 10) hG hv4 hp1 dX10_readSign_5 (by decide) (fun c8 => ?_) (fun c8 => ?_)
  · have h := t9 c8
    clear t9 f10
    refine V.aload_n (pc := 10) hG dX10_readSign_10 rfl 0 rfl ?_
    refine V.dup (pc := 11) hG dX10_readSign_11 rfl ?_
    refine V.getI (pc := 12) (ci := 12) (k := 2) (M := 3) (T := TX10) (o := 1) (kz := 2) hG a_1 a_1.n (by decide) hin_X10 rfl (by decide) (by decide) rfl kw_153 rfl dX10_readSign_12 ?_
    refine V.iconst (pc := 15) hG dX10_readSign_15 ?_
    refine V.iadd (pc := 16) hG dX10_readSign_16 ?_
    refine V.putI (pc := 17) (ci := 12) (k := 2) (M := 3) (T := TX10) (o := 1) (kz := 2) hG a_1 a_1.n (by decide) hin_X10 rfl (by decide) (by decide) rfl kw_153 rfl tyX10 tyX10_ok nmX10 rfl (ty := tyX10 2) (tyX10_ok 2 (by decide)) rfl rfl dX10_readSign_17 ?_
    refine V.iconst (pc := 20) hG dX10_readSign_20 ?_
    exact fin dX10_readSign_21 ((sR_l rfl)) (nar_z (by decide)) ((okI_st hi ((sR_wr _)))) hw ⟨rfl, h⟩
  · have h := f10 c8
    clear t9 f10
    refine V.iconst (pc := 8) hG dX10_readSign_8 ?_
    exact fin dX10_readSign_9 ((sR_l rfl)) (nar_z (by decide)) hi hw ⟨rfl, h⟩
set_option maxRecDepth 100000 in
set_option maxHeartbeats 4000000 in
theorem sm_X10_readIndex (l : Launch) (Δ : Wd) {i r : MI} {o1 : Int} {p2 : Int} (ho1 : stm o1) (hp2 : sR p2) {Q : Int → MI → Prop} (hi : okI i) (hw : Wf r) (h : wp_X10_readIndex o1 p2 i r Q) : Met l yX10_readIndex (Cond.code yX10_readIndex cX10_readIndex 6 (some .boolean) :: gW) (sRm 2 43) (sPc Δ [.ref (sA Δ 1), .ref (sA Δ o1), .int (sJ p2)] i r) (sQi Δ (fun x i' r' => r = r' ∧ Q x i')) 0 0 (sFr Δ) := by
  refine Ct.i (ty := .boolean) (by decide) rfl (Nat.le_of_ble_eq_true rfl) (fun Γ Q0 hG fin => ?_)
  have hG : okG Γ Δ l (sRm 2 43) cX10_readIndex "Schedulary$Text" 6 := hG
  show V Γ Δ 504 false i r 0 0 Q0 0 [(0, .ref (sA Δ 1)), (1, .ref (sA Δ o1)), (2, .int (sJ p2))] []
  have jn99 : ∀ (k0j99 : Int) (k1j99 : Int) (k2j99 : Int) (ij99 : MI), isA k0j99 (20, 3) → sR k1j99 → sR k2j99 → okI ij99 → s99_X10_readIndex k0j99 k1j99 k2j99 ij99 r Q → V Γ Δ 504 false ij99 r 0 0 Q0 99 [] [.int (sJ k2j99), .int (sJ k1j99), .ref (sA Δ k0j99)] := by
    intro k0j99 k1j99 k2j99 ij99 hk0j99 hk1j99 hk2j99 hij99 h
    obtain ⟨g2, h⟩ := h
    refine V.iast (pc := 99) (z := 3) (o := k0j99) hG hk0j99 hk0j99.n hk1j99 g2 dX10_readIndex_99 ?_
    refine V.iconst (pc := 100) hG dX10_readIndex_100 ?_
    exact fin dX10_readIndex_101 ((sR_l rfl)) (nar_z (by decide)) ((okI_st hij99 hk2j99)) hw ⟨rfl, h⟩
  have jn76 : ∀ (x4j76 : Int) (k1j76 : Int) (ij76 : MI), sR x4j76 → sR k1j76 → okI ij76 → s76_X10_readIndex o1 p2 x4j76 k1j76 ij76 r Q → V Γ Δ 504 false ij76 r 0 0 Q0 76 [(1, .ref (sA Δ o1)), (2, .int (sJ p2)), (4, .int (sJ x4j76))] [.int (sJ k1j76), .ref (sA Δ 1)] := by
    intro x4j76 k1j76 ij76 hx4j76 hk1j76 hij76 h
    refine V.callVi (pc := 76) (As := [.int (sJ k1j76)]) (stk := []) hG (sm_X10_readNumber l Δ hk1j76 hij76 hw h) mY_X10_readNumber kw_1173 kw_1175 kw_85 a_1 (by decide) (q := (RX10, TX10, 3)) rfl rfl ⟨Nat.le_of_ble_eq_true rfl, Nat.le_of_ble_eq_true rfl, Nat.le_of_ble_eq_true rfl, Nat.le_of_ble_eq_true rfl⟩ rfl (Nat.le_of_ble_eq_true rfl) dX10_readIndex_76 rfl (fun v15 i16 r17 hv18 hi19 hw20 hq21 => ?_)
    obtain ⟨e26, h⟩ := hq21
    subst e26
    refine V.istore (pc := 79) (lv' := [(5, .int (sJ v15)), (1, .ref (sA Δ o1)), (2, .int (sJ p2)), (4, .int (sJ x4j76))]) hG dX10_readIndex_79 (by decide) rfl ?_
    refine V.aload_n (pc := 81) hG dX10_readIndex_81 rfl 1 rfl ?_
    refine V.getRN (x := o1 + 2) (pc := 82) (ci := 10) (k := 1) (M := 4) (T := TX8) (o := o1) (kz := 1) hG ho1.o ho1.o.n (by decide) hin_X8 rfl (by decide) (by decide) rfl kw_183 rfl ((hw.2.2.1 _ ho1).2.1) (by have := (ho1).1; omega) dX10_readIndex_82 ?_
    refine V.iload_n (pc := 85) hG dX10_readIndex_85 rfl 2 rfl ?_
    refine V.iload (pc := 86) hG dX10_readIndex_86 3 rfl ?_
    obtain ⟨t23, f24⟩ := h
    refine V.if_eq (pc := 88) (tgt := 97) hG hx4j76 dX10_readIndex_88 (by decide) (fun c22 => ?_) (fun c22 => ?_)
    · have h := t23 c22
      clear t23 f24
      refine V.iload (pc := 97) hG dX10_readIndex_97 0 rfl ?_
      refine V.pick [] rfl ?_
      exact jn99 (o1 + 2) p2 v15 i16 ho1.m hp2 hv18 hi19 h
    · have h := f24 c22
      clear t23 f24
      refine V.iload (pc := 91) hG dX10_readIndex_91 0 rfl ?_
      refine V.ineg (pc := 93) hG dX10_readIndex_93 ?_
      refine V.goto (pc := 94) (tgt := 99) hG dX10_readIndex_94 (by decide) ?_
      refine V.pick [] rfl ?_
      exact jn99 (o1 + 2) p2 (wr (-v15)) i16 ho1.m hp2 ((sR_wr _)) hi19 h
  have jn54 : ∀ (x3j54 : Int) (x4j54 : Int) (ij54 : MI), sR x3j54 → sR x4j54 → okI ij54 → s54_X10_readIndex o1 p2 x3j54 x4j54 ij54 r Q → V Γ Δ 504 false ij54 r 0 0 Q0 54 [(0, .ref (sA Δ 1)), (1, .ref (sA Δ o1)), (2, .int (sJ p2)), (3, .int (sJ x3j54)), (4, .int (sJ x4j54))] [] := by
    intro x3j54 x4j54 ij54 hx3j54 hx4j54 hij54 h
    refine V.aload_n (pc := 54) hG dX10_readIndex_54 rfl 0 rfl ?_
    refine V.callVi (pc := 55) (As := []) (stk := []) hG (sm_X10_next l Δ  hij54 hw h) mY_X10_next kw_1152 kw_1154 kw_81 a_1 (by decide) (q := (RX10, TX10, 3)) rfl rfl ⟨Nat.le_of_ble_eq_true rfl, Nat.le_of_ble_eq_true rfl, Nat.le_of_ble_eq_true rfl, Nat.le_of_ble_eq_true rfl⟩ rfl (Nat.le_of_ble_eq_true rfl) dX10_readIndex_55 rfl (fun v51 i52 r53 hv54 hi55 hw56 hq57 => ?_)
    obtain ⟨e73, e74, h⟩ := hq57
    subst e73
    subst e74
    refine V.callSi (pc := 58) (As := [.int (sJ v51)]) (stk := []) hG (sm_X10_isDigit l Δ hv54 hij54 hw h) mY_X10_isDigit kw_1170 kw_1171 ⟨Nat.le_of_ble_eq_true rfl, Nat.le_of_ble_eq_true rfl, Nat.le_of_ble_eq_true rfl, Nat.le_of_ble_eq_true rfl⟩ rfl (Nat.le_of_ble_eq_true rfl) dX10_readIndex_58 rfl (fun v58 i59 r60 hv61 hi62 hw63 hq64 => ?_)
    obtain ⟨e71, e72, h⟩ := hq64
    subst e71
    subst e72
    obtain ⟨f67, t66⟩ := h
    refine V.if_ne (pc := 61) (tgt := 66) hG hv61 dX10_readIndex_61 (by decide) (fun c65 => ?_) (fun c65 => ?_)
    · have h := t66 c65
      clear t66 f67
      refine V.aload_n (pc := 66) hG dX10_readIndex_66 rfl 0 rfl ?_
      refine V.iload_n (pc := 67) hG dX10_readIndex_67 rfl 3 rfl ?_
      obtain ⟨t69, f70⟩ := h
      refine V.if_eq (pc := 68) (tgt := 75) hG hx3j54 dX10_readIndex_68 (by decide) (fun c68 => ?_) (fun c68 => ?_)
      · have h := t69 c68
        clear t69 f70
        refine V.iconst (pc := 75) hG dX10_readIndex_75 ?_
        refine V.pick [1, 2, 4] rfl ?_
        exact jn76 x4j54 2 ij54 hx4j54 ((sR_l rfl)) hij54 h
      · have h := f70 c68
        clear t69 f70
        refine V.iconst (pc := 71) hG dX10_readIndex_71 ?_
        refine V.goto (pc := 72) (tgt := 76) hG dX10_readIndex_72 (by decide) ?_
        refine V.pick [1, 2, 4] rfl ?_
        exact jn76 x4j54 1 ij54 hx4j54 ((sR_l rfl)) hij54 h
    · have h := f67 c65
      clear t66 f67
      refine V.iconst (pc := 64) hG dX10_readIndex_64 ?_
      exact fin dX10_readIndex_65 ((sR_l rfl)) (nar_z (by decide)) hij54 hw ⟨rfl, h⟩
  have jn32 : ∀ (x3j32 : Int) (k0j32 : Int) (ij32 : MI), sR x3j32 → sR k0j32 → okI ij32 → s32_X10_readIndex o1 p2 x3j32 k0j32 ij32 r Q → V Γ Δ 504 false ij32 r 0 0 Q0 32 [(0, .ref (sA Δ 1)), (1, .ref (sA Δ o1)), (2, .int (sJ p2)), (3, .int (sJ x3j32))] [.int (sJ k0j32)] := by
    intro x3j32 k0j32 ij32 hx3j32 hk0j32 hij32 h
    refine V.istore (pc := 32) (lv' := [(4, .int (sJ k0j32)), (0, .ref (sA Δ 1)), (1, .ref (sA Δ o1)), (2, .int (sJ p2)), (3, .int (sJ x3j32))]) hG dX10_readIndex_32 (by decide) rfl ?_
    refine V.iload_n (pc := 34) hG dX10_readIndex_34 rfl 4 rfl ?_
    obtain ⟨t94, f95⟩ := h
    refine V.if_eq (pc := 35) (tgt := 54) hG hx3j32 dX10_readIndex_35 (by decide) (fun c93 => ?_) (fun c93 => ?_)
    · have h := t94 c93
      clear t94 f95
      refine V.pick [1, 2, 3, 4, 0] rfl ?_
      exact jn54 x3j32 k0j32 ij32 hx3j32 hk0j32 hij32 h
    · have h := f95 c93
      clear t94 f95
      refine V.iload (pc := 38) hG dX10_readIndex_38 0 rfl ?_
      obtain ⟨f98, t97⟩ := h
      refine V.if_ne (pc := 40) (tgt := 54) hG hk0j32 dX10_readIndex_40 (by decide) (fun c96 => ?_) (fun c96 => ?_)
      · have h := t97 c96
        clear t97 f98
        refine V.pick [1, 2, 3, 4, 0] rfl ?_
        exact jn54 x3j32 k0j32 ij32 hx3j32 hk0j32 hij32 h
      · have h := f98 c96
        clear t97 f98
        refine V.aload_n (pc := 43) hG dX10_readIndex_43 rfl 1 rfl ?_
        refine V.bipush (pc := 44) hG dX10_readIndex_44 (by decide) ?_
        refine V.callVi (pc := 46) (As := [.int (sJ 43)]) (stk := []) hG (sm_X10_readSign l Δ ((sR_l rfl)) hij32 hw h) mY_X10_readSign kw_1148 kw_1150 kw_80 a_1 (by decide) (q := (RX10, TX10, 3)) rfl rfl ⟨Nat.le_of_ble_eq_true rfl, Nat.le_of_ble_eq_true rfl, Nat.le_of_ble_eq_true rfl, Nat.le_of_ble_eq_true rfl⟩ rfl (Nat.le_of_ble_eq_true rfl) dX10_readIndex_46 rfl (fun v99 i100 r101 hv102 hi103 hw104 hq105 => ?_)
        obtain ⟨e110, h⟩ := hq105
        subst e110
        obtain ⟨f108, t107⟩ := h
        refine V.if_ne (pc := 49) (tgt := 54) hG hv102 dX10_readIndex_49 (by decide) (fun c106 => ?_) (fun c106 => ?_)
        · have h := t107 c106
          clear t107 f108
          refine V.pick [1, 2, 3, 4, 0] rfl ?_
          exact jn54 x3j32 k0j32 i100 hx3j32 hk0j32 hi103 h
        · have h := f108 c106
          clear t107 f108
          refine V.iconst (pc := 52) hG dX10_readIndex_52 ?_
          exact fin dX10_readIndex_53 ((sR_l rfl)) (nar_z (by decide)) hi103 hw ⟨rfl, h⟩
  have jn31 : ∀ (x3j31 : Int) (ij31 : MI), sR x3j31 → okI ij31 → s31_X10_readIndex o1 p2 x3j31 ij31 r Q → V Γ Δ 504 false ij31 r 0 0 Q0 31 [(0, .ref (sA Δ 1)), (1, .ref (sA Δ o1)), (2, .int (sJ p2)), (3, .int (sJ x3j31))] [] := by
    intro x3j31 ij31 hx3j31 hij31 h
    refine V.iconst (pc := 31) hG dX10_readIndex_31 ?_
    exact jn32 x3j31 0 ij31 hx3j31 ((sR_l rfl)) hij31 h
  refine V.aload_n (pc := 0) hG dX10_readIndex_0 rfl 0 rfl ?_
  refine V.bipush (pc := 1) hG dX10_readIndex_1 (by decide) ?_
  refine V.callVi (pc := 3) (As := [.int (sJ 105)]) (stk := []) hG (sm_X10_readSign l Δ ((sR_l rfl)) hi hw h) mY_X10_readSign kw_1148 kw_1150 kw_80 a_1 (by decide) (q := (RX10, TX10, 3)) rfl rfl ⟨Nat.le_of_ble_eq_true rfl, Nat.le_of_ble_eq_true rfl, Nat.le_of_ble_eq_true rfl, Nat.le_of_ble_eq_true rfl⟩ rfl (Nat.le_of_ble_eq_true rfl) dX10_readIndex_3 rfl (fun v111 i112 r113 hv114 hi115 hw116 hq117 => ?_)
  obtain ⟨e136, h⟩ := hq117
  subst e136
  refine V.istore_n (pc := 6) (lv' := [(3, .int (sJ v111)), (0, .ref (sA Δ 1)), (1, .ref (sA Δ o1)), (2, .int (sJ p2))]) hG dX10_readIndex_6 rfl (by decide) rfl ?_
  refine V.aload_n (pc := 7) hG dX10_readIndex_7 rfl 2 rfl ?_
  refine V.getRN (x := o1 + 3) (pc := 8) (ci := 10) (k := 2) (M := 4) (T := TX8) (o := o1) (kz := 2) hG ho1.o ho1.o.n (by decide) hin_X8 rfl (by decide) (by decide) rfl kw_186 rfl ((hw.2.2.1 _ ho1).2.2) (by have := (ho1).1; omega) dX10_readIndex_8 ?_
  refine V.iload_n (pc := 11) hG dX10_readIndex_11 rfl 3 rfl ?_
  refine V.iload_n (pc := 12) hG dX10_readIndex_12 rfl 0 rfl ?_
  obtain ⟨g118, h⟩ := h
  obtain ⟨g119, h⟩ := h
  refine V.zast (pc := 13) (z := 3) (o := o1 + 3) hG ho1.t ho1.t.n hp2 g118 (vnar_z g119) dX10_readIndex_13 ?_
  refine V.iload_n (pc := 14) hG dX10_readIndex_14 rfl 0 rfl ?_
  obtain ⟨t121, f122⟩ := h
  refine V.if_eq (pc := 15) (tgt := 31) hG hv114 dX10_readIndex_15 (by decide) (fun c120 => ?_) (fun c120 => ?_)
  · have h := t121 c120
    clear t121 f122
    refine V.pick [1, 2, 3, 0] rfl ?_
    exact jn31 v111 (st i112 (o1 + 3) p2 v111) hv114 ((okI_st hi115 hv114)) h
  · have h := f122 c120
    clear t121 f122
    refine V.aload_n (pc := 18) hG dX10_readIndex_18 rfl 1 rfl ?_
    refine V.bipush (pc := 19) hG dX10_readIndex_19 (by decide) ?_
    refine V.callVi (pc := 21) (As := [.int (sJ 45)]) (stk := []) hG (sm_X10_readSign l Δ ((sR_l rfl)) ((okI_st hi115 hv114)) hw h) mY_X10_readSign kw_1148 kw_1150 kw_80 a_1 (by decide) (q := (RX10, TX10, 3)) rfl rfl ⟨Nat.le_of_ble_eq_true rfl, Nat.le_of_ble_eq_true rfl, Nat.le_of_ble_eq_true rfl, Nat.le_of_ble_eq_true rfl⟩ rfl (Nat.le_of_ble_eq_true rfl) dX10_readIndex_21 rfl (fun v123 i124 r125 hv126 hi127 hw128 hq129 => ?_)
    obtain ⟨e134, h⟩ := hq129
    subst e134
    obtain ⟨t131, f132⟩ := h
    refine V.if_eq (pc := 24) (tgt := 31) hG hv126 dX10_readIndex_24 (by decide) (fun c130 => ?_) (fun c130 => ?_)
    · have h := t131 c130
      clear t131 f132
      refine V.pick [1, 2, 3, 0] rfl ?_
      exact jn31 v111 i124 hv114 hi127 h
    · have h := f132 c130
      clear t131 f132
      refine V.iconst (pc := 27) hG dX10_readIndex_27 ?_
      refine V.goto (pc := 28) (tgt := 32) hG dX10_readIndex_28 (by decide) ?_
      refine V.pick [1, 2, 3, 0] rfl ?_
      exact jn32 v111 1 i124 hv114 ((sR_l rfl)) hi127 h
set_option maxRecDepth 100000 in
set_option maxHeartbeats 4000000 in
theorem sm_X10_readPlace (l : Launch) (Δ : Wd) {i r : MI} {o1 : Int} {p2 : Int} (ho1 : stm o1) (hp2 : sR p2) {Q : Int → MI → Prop} (hi : okI i) (hw : Wf r) (h : wp_X10_readPlace o1 p2 i r Q) : Met l yX10_readPlace (Cond.code yX10_readPlace cX10_readPlace 4 (some .boolean) :: gW) (sRm 4 91) (sPc Δ [.ref (sA Δ 1), .ref (sA Δ o1), .int (sJ p2)] i r) (sQi Δ (fun x i' r' => r = r' ∧ Q x i')) 0 0 (sFr Δ) := by
  refine Ct.i (ty := .boolean) (by decide) rfl (Nat.le_of_ble_eq_true rfl) (fun Γ Q0 hG fin => ?_)
  have hG : okG Γ Δ l (sRm 4 91) cX10_readPlace "Schedulary$Text" 4 := hG
  show V Γ Δ 504 false i r 0 0 Q0 0 [(0, .ref (sA Δ 1)), (1, .ref (sA Δ o1)), (2, .int (sJ p2))] []
  have jn67 : ∀ (k0j67 : Int) (ij67 : MI), sR k0j67 → okI ij67 → s67_X10_readPlace k0j67 ij67 r Q → V Γ Δ 504 false ij67 r 0 0 Q0 67 [] [.int (sJ k0j67)] := by
    intro k0j67 ij67 hk0j67 hij67 h
    obtain ⟨g2, h⟩ := h
    exact fin dX10_readPlace_67 hk0j67 (nar_z g2) hij67 hw ⟨rfl, h⟩
  have jn66 : ∀  (ij66 : MI), okI ij66 → s66_X10_readPlace ij66 r Q → V Γ Δ 504 false ij66 r 0 0 Q0 66 [] [] := by
    intro ij66 hij66 h
    refine V.iconst (pc := 66) hG dX10_readPlace_66 ?_
    exact jn67 0 ij66 ((sR_l rfl)) hij66 h
  refine V.ldcS (pc := 0) (k := 2) (tx := "MN") hG (by decide) dX10_readPlace_0 ?_
  refine V.aload_n (pc := 2) hG dX10_readPlace_2 rfl 0 rfl ?_
  refine V.callVi (pc := 3) (As := []) (stk := [.ref (aK Δ 2)]) hG (sm_X10_next l Δ  hi hw h) mY_X10_next kw_1152 kw_1154 kw_81 a_1 (by decide) (q := (RX10, TX10, 3)) rfl rfl ⟨Nat.le_of_ble_eq_true rfl, Nat.le_of_ble_eq_true rfl, Nat.le_of_ble_eq_true rfl, Nat.le_of_ble_eq_true rfl⟩ rfl (Nat.le_of_ble_eq_true rfl) dX10_readPlace_3 rfl (fun v3 i4 r5 hv6 hi7 hw8 hq9 => ?_)
  obtain ⟨e59, e60, h⟩ := hq9
  subst e59
  subst e60
  refine V.callVSi (pc := 6) (As := [.int (sJ v3)]) (stk := []) hG (sm_J0_indexOf_0f7a4 l Δ (by decide) hv6 hi hw h) mY_J0_indexOf_0f7a4 kw_1165 kw_1015 kw_1016 (by decide) rfl ⟨Nat.le_of_ble_eq_true rfl, Nat.le_of_ble_eq_true rfl, Nat.le_of_ble_eq_true rfl, Nat.le_of_ble_eq_true rfl⟩ rfl (Nat.le_of_ble_eq_true rfl) dX10_readPlace_6 rfl (fun v10 i11 r12 hv13 hi14 hw15 hq16 => ?_)
  obtain ⟨e57, e58, h⟩ := hq16
  subst e57
  subst e58
  refine V.istore_n (pc := 9) (lv' := [(3, .int (sJ v10)), (0, .ref (sA Δ 1)), (1, .ref (sA Δ o1)), (2, .int (sJ p2))]) hG dX10_readPlace_9 rfl (by decide) rfl ?_
  refine V.iload_n (pc := 10) hG dX10_readPlace_10 rfl 0 rfl ?_
  obtain ⟨t18, f19⟩ := h
  refine V.if_ge (pc := 11) (tgt := 16) hG hv13 dX10_readPlace_11 (by decide) (fun c17 => ?_) (fun c17 => ?_)
  · have h := t18 c17
    clear t18 f19
    refine V.aload_n (pc := 16) hG dX10_readPlace_16 rfl 1 rfl ?_
    refine V.dup (pc := 17) hG dX10_readPlace_17 rfl ?_
    refine V.getI (pc := 18) (ci := 12) (k := 2) (M := 3) (T := TX10) (o := 1) (kz := 2) hG a_1 a_1.n (by decide) hin_X10 rfl (by decide) (by decide) rfl kw_153 rfl dX10_readPlace_18 ?_
    refine V.iconst (pc := 21) hG dX10_readPlace_21 ?_
    refine V.iadd (pc := 22) hG dX10_readPlace_22 ?_
    refine V.putI (pc := 23) (ci := 12) (k := 2) (M := 3) (T := TX10) (o := 1) (kz := 2) hG a_1 a_1.n (by decide) hin_X10 rfl (by decide) (by decide) rfl kw_153 rfl tyX10 tyX10_ok nmX10 rfl (ty := tyX10 2) (tyX10_ok 2 (by decide)) rfl rfl dX10_readPlace_23 ?_
    refine V.aload_n (pc := 26) hG dX10_readPlace_26 rfl 2 rfl ?_
    refine V.getRN (x := o1 + 1) (pc := 27) (ci := 10) (k := 0) (M := 4) (T := TX8) (o := o1) (kz := 0) hG ho1.o ho1.o.n (by decide) hin_X8 rfl (by decide) (by decide) rfl kw_180 rfl ((hw.2.2.1 _ ho1).1) (by have := (ho1).1; omega) dX10_readPlace_27 ?_
    refine V.iload_n (pc := 30) hG dX10_readPlace_30 rfl 3 rfl ?_
    refine V.iconst (pc := 31) hG dX10_readPlace_31 ?_
    refine V.iload_n (pc := 32) hG dX10_readPlace_32 rfl 0 rfl ?_
    refine V.iadd (pc := 33) hG dX10_readPlace_33 ?_
    obtain ⟨g20, h⟩ := h
    refine V.iast (pc := 34) (z := 3) (o := o1 + 1) hG ho1.f ho1.f.n hp2 g20 dX10_readPlace_34 ?_
    refine V.aload_n (pc := 35) hG dX10_readPlace_35 rfl 1 rfl ?_
    refine V.bipush (pc := 36) hG dX10_readPlace_36 (by decide) ?_
    refine V.callVi (pc := 38) (As := [.int (sJ 91)]) (stk := []) hG (sm_X10_readSign l Δ ((sR_l rfl)) ((okI_st ((okI_st hi ((sR_wr _)))) ((sR_wr _)))) hw h) mY_X10_readSign kw_1148 kw_1150 kw_80 a_1 (by decide) (q := (RX10, TX10, 3)) rfl rfl ⟨Nat.le_of_ble_eq_true rfl, Nat.le_of_ble_eq_true rfl, Nat.le_of_ble_eq_true rfl, Nat.le_of_ble_eq_true rfl⟩ rfl (Nat.le_of_ble_eq_true rfl) dX10_readPlace_38 rfl (fun v21 i22 r23 hv24 hi25 hw26 hq27 => ?_)
    obtain ⟨e56, h⟩ := hq27
    subst e56
    obtain ⟨t29, f30⟩ := h
    refine V.if_eq (pc := 41) (tgt := 66) hG hv24 dX10_readPlace_41 (by decide) (fun c28 => ?_) (fun c28 => ?_)
    · have h := t29 c28
      clear t29 f30
      refine V.pick [] rfl ?_
      exact jn66 i22 hi25 h
    · have h := f30 c28
      clear t29 f30
      refine V.aload_n (pc := 44) hG dX10_readPlace_44 rfl 1 rfl ?_
      refine V.aload_n (pc := 45) hG dX10_readPlace_45 rfl 2 rfl ?_
      refine V.iload_n (pc := 46) hG dX10_readPlace_46 rfl 3 rfl ?_
      refine V.callVi (pc := 47) (As := [.ref (sA Δ o1), .int (sJ p2)]) (stk := []) hG (sm_X10_readIndex l Δ ho1 hp2 hi25 hw h) mY_X10_readIndex kw_1166 kw_1168 kw_84 a_1 (by decide) (q := (RX10, TX10, 3)) rfl rfl ⟨Nat.le_of_ble_eq_true rfl, Nat.le_of_ble_eq_true rfl, Nat.le_of_ble_eq_true rfl, Nat.le_of_ble_eq_true rfl⟩ rfl (Nat.le_of_ble_eq_true rfl) dX10_readPlace_47 rfl (fun v31 i32 r33 hv34 hi35 hw36 hq37 => ?_)
      obtain ⟨e54, h⟩ := hq37
      subst e54
      obtain ⟨t39, f40⟩ := h
      refine V.if_eq (pc := 50) (tgt := 66) hG hv34 dX10_readPlace_50 (by decide) (fun c38 => ?_) (fun c38 => ?_)
      · have h := t39 c38
        clear t39 f40
        refine V.pick [] rfl ?_
        exact jn66 i32 hi35 h
      · have h := f40 c38
        clear t39 f40
        refine V.aload_n (pc := 53) hG dX10_readPlace_53 rfl 1 rfl ?_
        refine V.bipush (pc := 54) hG dX10_readPlace_54 (by decide) ?_
        refine V.callVi (pc := 56) (As := [.int (sJ 93)]) (stk := []) hG (sm_X10_readSign l Δ ((sR_l rfl)) hi35 hw h) mY_X10_readSign kw_1148 kw_1150 kw_80 a_1 (by decide) (q := (RX10, TX10, 3)) rfl rfl ⟨Nat.le_of_ble_eq_true rfl, Nat.le_of_ble_eq_true rfl, Nat.le_of_ble_eq_true rfl, Nat.le_of_ble_eq_true rfl⟩ rfl (Nat.le_of_ble_eq_true rfl) dX10_readPlace_56 rfl (fun v41 i42 r43 hv44 hi45 hw46 hq47 => ?_)
        obtain ⟨e52, h⟩ := hq47
        subst e52
        obtain ⟨t49, f50⟩ := h
        refine V.if_eq (pc := 59) (tgt := 66) hG hv44 dX10_readPlace_59 (by decide) (fun c48 => ?_) (fun c48 => ?_)
        · have h := t49 c48
          clear t49 f50
          refine V.pick [] rfl ?_
          exact jn66 i42 hi45 h
        · have h := f50 c48
          clear t49 f50
          refine V.iconst (pc := 62) hG dX10_readPlace_62 ?_
          refine V.goto (pc := 63) (tgt := 67) hG dX10_readPlace_63 (by decide) ?_
          refine V.pick [] rfl ?_
          exact jn67 1 i42 ((sR_l rfl)) hi45 h
  · have h := f19 c17
    clear t18 f19
    refine V.iconst (pc := 14) hG dX10_readPlace_14 ?_
    exact fin dX10_readPlace_15 ((sR_l rfl)) (nar_z (by decide)) hi hw ⟨rfl, h⟩
set_option maxRecDepth 100000 in
set_option maxHeartbeats 4000000 in
theorem sm_X10_readRegister (l : Launch) (Δ : Wd) {i r : MI} {o1 : Int} {p2 : Int} (ho1 : stm o1) (hp2 : sR p2) {Q : Int → MI → Prop} (hi : okI i) (hw : Wf r) (h : wp_X10_readRegister o1 p2 i r Q) : Met l yX10_readRegister (Cond.code yX10_readRegister cX10_readRegister 4 (some .boolean) :: gW) (sRm 1 20) (sPc Δ [.ref (sA Δ 1), .ref (sA Δ o1), .int (sJ p2)] i r) (sQi Δ (fun x i' r' => r = r' ∧ Q x i')) 0 0 (sFr Δ) := by
  refine Ct.i (ty := .boolean) (by decide) rfl (Nat.le_of_ble_eq_true rfl) (fun Γ Q0 hG fin => ?_)
  have hG : okG Γ Δ l (sRm 1 20) cX10_readRegister "Schedulary$Text" 4 := hG
  show V Γ Δ 504 false i r 0 0 Q0 0 [(0, .ref (sA Δ 1)), (1, .ref (sA Δ o1)), (2, .int (sJ p2))] []
  have jn17 : ∀  (ij17 : MI), okI ij17 → s17_X10_readRegister ij17 r Q → V Γ Δ 504 false ij17 r 0 0 Q0 17 [] [] := by
    intro ij17 hij17 h
    refine V.iconst (pc := 17) hG dX10_readRegister_17 ?_
    exact fin dX10_readRegister_18 ((sR_l rfl)) (nar_z (by decide)) hij17 hw ⟨rfl, h⟩
  refine V.aload_n (pc := 0) hG dX10_readRegister_0 rfl 0 rfl ?_
  refine V.callVi (pc := 1) (As := []) (stk := []) hG (sm_X10_next l Δ  hi hw h) mY_X10_next kw_1152 kw_1154 kw_81 a_1 (by decide) (q := (RX10, TX10, 3)) rfl rfl ⟨Nat.le_of_ble_eq_true rfl, Nat.le_of_ble_eq_true rfl, Nat.le_of_ble_eq_true rfl, Nat.le_of_ble_eq_true rfl⟩ rfl (Nat.le_of_ble_eq_true rfl) dX10_readRegister_1 rfl (fun v1 i2 r3 hv4 hi5 hw6 hq7 => ?_)
  obtain ⟨e16, e17, h⟩ := hq7
  subst e16
  subst e17
  refine V.istore_n (pc := 4) (lv' := [(3, .int (sJ v1)), (0, .ref (sA Δ 1)), (1, .ref (sA Δ o1)), (2, .int (sJ p2))]) hG dX10_readRegister_4 rfl (by decide) rfl ?_
  refine V.iload_n (pc := 5) hG dX10_readRegister_5 rfl 0 rfl ?_
  refine V.bipush (pc := 6) hG dX10_readRegister_6 (by decide) ?_
  obtain ⟨t9, f10⟩ := h
  refine V.icmp_lt (pc := 8) (tgt := 17) hG hv4 ((sR_l rfl)) dX10_readRegister_8 (by decide) (fun c8 => ?_) (fun c8 => ?_)
  · have h := t9 c8
    clear t9 f10
    refine V.pick [] rfl ?_
    exact jn17 i hi h
  · have h := f10 c8
    clear t9 f10
    refine V.iload_n (pc := 11) hG dX10_readRegister_11 rfl 0 rfl ?_
    refine V.bipush (pc := 12) hG dX10_readRegister_12 (by decide) ?_
    obtain ⟨t12, f13⟩ := h
    refine V.icmp_le (pc := 14) (tgt := 19) hG hv4 ((sR_l rfl)) dX10_readRegister_14 (by decide) (fun c11 => ?_) (fun c11 => ?_)
    · have h := t12 c11
      clear t12 f13
      refine V.aload_n (pc := 19) hG dX10_readRegister_19 rfl 1 rfl ?_
      refine V.dup (pc := 20) hG dX10_readRegister_20 rfl ?_
      refine V.getI (pc := 21) (ci := 12) (k := 2) (M := 3) (T := TX10) (o := 1) (kz := 2) hG a_1 a_1.n (by decide) hin_X10 rfl (by decide) (by decide) rfl kw_153 rfl dX10_readRegister_21 ?_
      refine V.iconst (pc := 24) hG dX10_readRegister_24 ?_
      refine V.iadd (pc := 25) hG dX10_readRegister_25 ?_
      refine V.putI (pc := 26) (ci := 12) (k := 2) (M := 3) (T := TX10) (o := 1) (kz := 2) hG a_1 a_1.n (by decide) hin_X10 rfl (by decide) (by decide) rfl kw_153 rfl tyX10 tyX10_ok nmX10 rfl (ty := tyX10 2) (tyX10_ok 2 (by decide)) rfl rfl dX10_readRegister_26 ?_
      refine V.aload_n (pc := 29) hG dX10_readRegister_29 rfl 2 rfl ?_
      refine V.getRN (x := o1 + 1) (pc := 30) (ci := 10) (k := 0) (M := 4) (T := TX8) (o := o1) (kz := 0) hG ho1.o ho1.o.n (by decide) hin_X8 rfl (by decide) (by decide) rfl kw_180 rfl ((hw.2.2.1 _ ho1).1) (by have := (ho1).1; omega) dX10_readRegister_30 ?_
      refine V.iload_n (pc := 33) hG dX10_readRegister_33 rfl 3 rfl ?_
      refine V.iconst (pc := 34) hG dX10_readRegister_34 ?_
      obtain ⟨g14, h⟩ := h
      refine V.iast (pc := 35) (z := 3) (o := o1 + 1) hG ho1.f ho1.f.n hp2 g14 dX10_readRegister_35 ?_
      refine V.aload_n (pc := 36) hG dX10_readRegister_36 rfl 2 rfl ?_
      refine V.getRN (x := o1 + 2) (pc := 37) (ci := 10) (k := 1) (M := 4) (T := TX8) (o := o1) (kz := 1) hG ho1.o ho1.o.n (by decide) hin_X8 rfl (by decide) (by decide) rfl kw_183 rfl ((hw.2.2.1 _ ho1).2.1) (by have := (ho1).1; omega) dX10_readRegister_37 ?_
      refine V.iload_n (pc := 40) hG dX10_readRegister_40 rfl 3 rfl ?_
      refine V.iload_n (pc := 41) hG dX10_readRegister_41 rfl 0 rfl ?_
      refine V.bipush (pc := 42) hG dX10_readRegister_42 (by decide) ?_
      refine V.isub (pc := 44) hG dX10_readRegister_44 ?_
      obtain ⟨g15, h⟩ := h
      refine V.iast (pc := 45) (z := 3) (o := o1 + 2) hG ho1.m ho1.m.n hp2 g15 dX10_readRegister_45 ?_
      refine V.iconst (pc := 46) hG dX10_readRegister_46 ?_
      exact fin dX10_readRegister_47 ((sR_l rfl)) (nar_z (by decide)) ((okI_st ((okI_st ((okI_st hi ((sR_wr _)))) ((sR_l rfl)))) ((sR_wr _)))) hw ⟨rfl, h⟩
    · have h := f13 c11
      clear t12 f13
      refine V.pick [] rfl ?_
      exact jn17 i hi h
set_option maxRecDepth 100000 in
set_option maxHeartbeats 4000000 in
theorem sm_X10_readOperand (l : Launch) (Δ : Wd) {i r : MI} {o1 : Int} {p2 : Int} (ho1 : stm o1) (hp2 : sR p2) {Q : Int → MI → Prop} (hi : okI i) (hw : Wf r) (h : wp_X10_readOperand o1 p2 i r Q) : Met l yX10_readOperand (Cond.code yX10_readOperand cX10_readOperand 3 (some .boolean) :: gW) (sRm 5 114) (sPc Δ [.ref (sA Δ 1), .ref (sA Δ o1), .int (sJ p2)] i r) (sQi Δ (fun x i' r' => r = r' ∧ Q x i')) 0 0 (sFr Δ) := by
  refine Ct.i (ty := .boolean) (by decide) rfl (Nat.le_of_ble_eq_true rfl) (fun Γ Q0 hG fin => ?_)
  have hG : okG Γ Δ l (sRm 5 114) cX10_readOperand "Schedulary$Text" 3 := hG
  show V Γ Δ 504 false i r 0 0 Q0 0 [(0, .ref (sA Δ 1)), (1, .ref (sA Δ o1)), (2, .int (sJ p2))] []
  have jn89 : ∀ (k0j89 : Int) (ij89 : MI), sR k0j89 → okI ij89 → s89_X10_readOperand k0j89 ij89 r Q → V Γ Δ 504 false ij89 r 0 0 Q0 89 [] [.int (sJ k0j89)] := by
    intro k0j89 ij89 hk0j89 hij89 h
    obtain ⟨g2, h⟩ := h
    exact fin dX10_readOperand_89 hk0j89 (nar_z g2) hij89 hw ⟨rfl, h⟩
  have jn84 : ∀  (ij84 : MI), okI ij84 → s84_X10_readOperand ij84 r Q → V Γ Δ 504 false ij84 r 0 0 Q0 84 [] [] := by
    intro ij84 hij84 h
    refine V.iconst (pc := 84) hG dX10_readOperand_84 ?_
    refine V.goto (pc := 85) (tgt := 89) hG dX10_readOperand_85 (by decide) ?_
    exact jn89 1 ij84 ((sR_l rfl)) hij84 h
  refine V.aload_n (pc := 0) hG dX10_readOperand_0 rfl 0 rfl ?_
  refine V.bipush (pc := 1) hG dX10_readOperand_1 (by decide) ?_
  refine V.callVi (pc := 3) (As := [.int (sJ 60)]) (stk := []) hG (sm_X10_readSign l Δ ((sR_l rfl)) hi hw h) mY_X10_readSign kw_1148 kw_1150 kw_80 a_1 (by decide) (q := (RX10, TX10, 3)) rfl rfl ⟨Nat.le_of_ble_eq_true rfl, Nat.le_of_ble_eq_true rfl, Nat.le_of_ble_eq_true rfl, Nat.le_of_ble_eq_true rfl⟩ rfl (Nat.le_of_ble_eq_true rfl) dX10_readOperand_3 rfl (fun v3 i4 r5 hv6 hi7 hw8 hq9 => ?_)
  obtain ⟨e84, h⟩ := hq9
  subst e84
  obtain ⟨t11, f12⟩ := h
  refine V.if_eq (pc := 6) (tgt := 18) hG hv6 dX10_readOperand_6 (by decide) (fun c10 => ?_) (fun c10 => ?_)
  · have h := t11 c10
    clear t11 f12
    refine V.aload_n (pc := 18) hG dX10_readOperand_18 rfl 0 rfl ?_
    refine V.bipush (pc := 19) hG dX10_readOperand_19 (by decide) ?_
    refine V.callVi (pc := 21) (As := [.int (sJ 105)]) (stk := []) hG (sm_X10_readSign l Δ ((sR_l rfl)) hi7 hw h) mY_X10_readSign kw_1148 kw_1150 kw_80 a_1 (by decide) (q := (RX10, TX10, 3)) rfl rfl ⟨Nat.le_of_ble_eq_true rfl, Nat.le_of_ble_eq_true rfl, Nat.le_of_ble_eq_true rfl, Nat.le_of_ble_eq_true rfl⟩ rfl (Nat.le_of_ble_eq_true rfl) dX10_readOperand_21 rfl (fun v13 i14 r15 hv16 hi17 hw18 hq19 => ?_)
    obtain ⟨e81, h⟩ := hq19
    subst e81
    obtain ⟨t21, f22⟩ := h
    refine V.if_eq (pc := 24) (tgt := 36) hG hv16 dX10_readOperand_24 (by decide) (fun c20 => ?_) (fun c20 => ?_)
    · have h := t21 c20
      clear t21 f22
      refine V.aload_n (pc := 36) hG dX10_readOperand_36 rfl 0 rfl ?_
      refine V.callVi (pc := 37) (As := []) (stk := []) hG (sm_X10_next l Δ  hi17 hw h) mY_X10_next kw_1152 kw_1154 kw_81 a_1 (by decide) (q := (RX10, TX10, 3)) rfl rfl ⟨Nat.le_of_ble_eq_true rfl, Nat.le_of_ble_eq_true rfl, Nat.le_of_ble_eq_true rfl, Nat.le_of_ble_eq_true rfl⟩ rfl (Nat.le_of_ble_eq_true rfl) dX10_readOperand_37 rfl (fun v23 i24 r25 hv26 hi27 hw28 hq29 => ?_)
      obtain ⟨e77, e78, h⟩ := hq29
      subst e77
      subst e78
      refine V.callSi (pc := 40) (As := [.int (sJ v23)]) (stk := []) hG (sm_X10_isDigit l Δ hv26 hi17 hw h) mY_X10_isDigit kw_1170 kw_1171 ⟨Nat.le_of_ble_eq_true rfl, Nat.le_of_ble_eq_true rfl, Nat.le_of_ble_eq_true rfl, Nat.le_of_ble_eq_true rfl⟩ rfl (Nat.le_of_ble_eq_true rfl) dX10_readOperand_40 rfl (fun v30 i31 r32 hv33 hi34 hw35 hq36 => ?_)
      obtain ⟨e75, e76, h⟩ := hq36
      subst e75
      subst e76
      obtain ⟨t38, f39⟩ := h
      refine V.if_eq (pc := 43) (tgt := 66) hG hv33 dX10_readOperand_43 (by decide) (fun c37 => ?_) (fun c37 => ?_)
      · have h := t38 c37
        clear t38 f39
        refine V.aload_n (pc := 66) hG dX10_readOperand_66 rfl 0 rfl ?_
        refine V.aload_n (pc := 67) hG dX10_readOperand_67 rfl 1 rfl ?_
        refine V.iload_n (pc := 68) hG dX10_readOperand_68 rfl 2 rfl ?_
        refine V.callVi (pc := 69) (As := [.ref (sA Δ o1), .int (sJ p2)]) (stk := []) hG (sm_X10_readRegister l Δ ho1 hp2 hi17 hw h) mY_X10_readRegister kw_1156 kw_1158 kw_82 a_1 (by decide) (q := (RX10, TX10, 3)) rfl rfl ⟨Nat.le_of_ble_eq_true rfl, Nat.le_of_ble_eq_true rfl, Nat.le_of_ble_eq_true rfl, Nat.le_of_ble_eq_true rfl⟩ rfl (Nat.le_of_ble_eq_true rfl) dX10_readOperand_69 rfl (fun v40 i41 r42 hv43 hi44 hw45 hq46 => ?_)
        obtain ⟨e63, h⟩ := hq46
        subst e63
        obtain ⟨f49, t48⟩ := h
        refine V.if_ne (pc := 72) (tgt := 84) hG hv43 dX10_readOperand_72 (by decide) (fun c47 => ?_) (fun c47 => ?_)
        · have h := t48 c47
          clear t48 f49
          refine V.pick [] rfl ?_
          exact jn84 i41 hi44 h
        · have h := f49 c47
          clear t48 f49
          refine V.aload_n (pc := 75) hG dX10_readOperand_75 rfl 0 rfl ?_
          refine V.aload_n (pc := 76) hG dX10_readOperand_76 rfl 1 rfl ?_
          refine V.iload_n (pc := 77) hG dX10_readOperand_77 rfl 2 rfl ?_
          refine V.callVi (pc := 78) (As := [.ref (sA Δ o1), .int (sJ p2)]) (stk := []) hG (sm_X10_readPlace l Δ ho1 hp2 hi44 hw h) mY_X10_readPlace kw_1160 kw_1162 kw_83 a_1 (by decide) (q := (RX10, TX10, 3)) rfl rfl ⟨Nat.le_of_ble_eq_true rfl, Nat.le_of_ble_eq_true rfl, Nat.le_of_ble_eq_true rfl, Nat.le_of_ble_eq_true rfl⟩ rfl (Nat.le_of_ble_eq_true rfl) dX10_readOperand_78 rfl (fun v50 i51 r52 hv53 hi54 hw55 hq56 => ?_)
          obtain ⟨e61, h⟩ := hq56
          subst e61
          obtain ⟨t58, f59⟩ := h
          refine V.if_eq (pc := 81) (tgt := 88) hG hv53 dX10_readOperand_81 (by decide) (fun c57 => ?_) (fun c57 => ?_)
          · have h := t58 c57
            clear t58 f59
            refine V.iconst (pc := 88) hG dX10_readOperand_88 ?_
            refine V.pick [] rfl ?_
            exact jn89 0 i51 ((sR_l rfl)) hi54 h
          · have h := f59 c57
            clear t58 f59
            refine V.pick [] rfl ?_
            exact jn84 i51 hi54 h
      · have h := f39 c37
        clear t38 f39
        refine V.aload_n (pc := 46) hG dX10_readOperand_46 rfl 1 rfl ?_
        refine V.getRN (x := o1 + 1) (pc := 47) (ci := 10) (k := 0) (M := 4) (T := TX8) (o := o1) (kz := 0) hG ho1.o ho1.o.n (by decide) hin_X8 rfl (by decide) (by decide) rfl kw_180 rfl ((hw.2.2.1 _ ho1).1) (by have := (ho1).1; omega) dX10_readOperand_47 ?_
        refine V.iload_n (pc := 50) hG dX10_readOperand_50 rfl 2 rfl ?_
        refine V.iconst (pc := 51) hG dX10_readOperand_51 ?_
        obtain ⟨g64, h⟩ := h
        refine V.iast (pc := 52) (z := 3) (o := o1 + 1) hG ho1.f ho1.f.n hp2 g64 dX10_readOperand_52 ?_
        refine V.aload_n (pc := 53) hG dX10_readOperand_53 rfl 1 rfl ?_
        refine V.getRN (x := o1 + 2) (pc := 54) (ci := 10) (k := 1) (M := 4) (T := TX8) (o := o1) (kz := 1) hG ho1.o ho1.o.n (by decide) hin_X8 rfl (by decide) (by decide) rfl kw_183 rfl ((hw.2.2.1 _ ho1).2.1) (by have := (ho1).1; omega) dX10_readOperand_54 ?_
        refine V.iload_n (pc := 57) hG dX10_readOperand_57 rfl 2 rfl ?_
        refine V.aload_n (pc := 58) hG dX10_readOperand_58 rfl 0 rfl ?_
        refine V.iconst (pc := 59) hG dX10_readOperand_59 ?_
        refine V.callVi (pc := 60) (As := [.int (sJ 2)]) (stk := [.int (sJ p2), .ref (sA Δ (o1 + 2))]) hG (sm_X10_readNumber l Δ ((sR_l rfl)) ((okI_st hi17 ((sR_l rfl)))) hw h) mY_X10_readNumber kw_1173 kw_1175 kw_85 a_1 (by decide) (q := (RX10, TX10, 3)) rfl rfl ⟨Nat.le_of_ble_eq_true rfl, Nat.le_of_ble_eq_true rfl, Nat.le_of_ble_eq_true rfl, Nat.le_of_ble_eq_true rfl⟩ rfl (Nat.le_of_ble_eq_true rfl) dX10_readOperand_60 rfl (fun v65 i66 r67 hv68 hi69 hw70 hq71 => ?_)
        obtain ⟨e74, h⟩ := hq71
        subst e74
        obtain ⟨g72, h⟩ := h
        refine V.iast (pc := 63) (z := 3) (o := o1 + 2) hG ho1.m ho1.m.n hp2 g72 dX10_readOperand_63 ?_
        refine V.iconst (pc := 64) hG dX10_readOperand_64 ?_
        exact fin dX10_readOperand_65 ((sR_l rfl)) (nar_z (by decide)) ((okI_st hi69 hv68)) hw ⟨rfl, h⟩
    · have h := f22 c20
      clear t21 f22
      refine V.aload_n (pc := 27) hG dX10_readOperand_27 rfl 1 rfl ?_
      refine V.getRN (x := o1 + 1) (pc := 28) (ci := 10) (k := 0) (M := 4) (T := TX8) (o := o1) (kz := 0) hG ho1.o ho1.o.n (by decide) hin_X8 rfl (by decide) (by decide) rfl kw_180 rfl ((hw.2.2.1 _ ho1).1) (by have := (ho1).1; omega) dX10_readOperand_28 ?_
      refine V.iload_n (pc := 31) hG dX10_readOperand_31 rfl 2 rfl ?_
      refine V.iconst (pc := 32) hG dX10_readOperand_32 ?_
      obtain ⟨g79, h⟩ := h
      refine V.iast (pc := 33) (z := 3) (o := o1 + 1) hG ho1.f ho1.f.n hp2 g79 dX10_readOperand_33 ?_
      refine V.iconst (pc := 34) hG dX10_readOperand_34 ?_
      exact fin dX10_readOperand_35 ((sR_l rfl)) (nar_z (by decide)) ((okI_st hi17 ((sR_l rfl)))) hw ⟨rfl, h⟩
  · have h := f12 c10
    clear t11 f12
    refine V.aload_n (pc := 9) hG dX10_readOperand_9 rfl 1 rfl ?_
    refine V.getRN (x := o1 + 1) (pc := 10) (ci := 10) (k := 0) (M := 4) (T := TX8) (o := o1) (kz := 0) hG ho1.o ho1.o.n (by decide) hin_X8 rfl (by decide) (by decide) rfl kw_180 rfl ((hw.2.2.1 _ ho1).1) (by have := (ho1).1; omega) dX10_readOperand_10 ?_
    refine V.iload_n (pc := 13) hG dX10_readOperand_13 rfl 2 rfl ?_
    refine V.iconst (pc := 14) hG dX10_readOperand_14 ?_
    obtain ⟨g82, h⟩ := h
    refine V.iast (pc := 15) (z := 3) (o := o1 + 1) hG ho1.f ho1.f.n hp2 g82 dX10_readOperand_15 ?_
    refine V.iconst (pc := 16) hG dX10_readOperand_16 ?_
    exact fin dX10_readOperand_17 ((sR_l rfl)) (nar_z (by decide)) ((okI_st hi7 ((sR_l rfl)))) hw ⟨rfl, h⟩
set_option maxRecDepth 100000 in
set_option maxHeartbeats 4000000 in
theorem sm_X10_readOperation (l : Launch) (Δ : Wd) {i r : MI} {o1 : Int} (ho1 : stm o1) {Q : Int → MI → Prop} (hi : okI i) (hw : Wf r) (h : wp_X10_readOperation o1 i r Q) : Met l yX10_readOperation (Cond.code yX10_readOperation cX10_readOperation 2 (some .boolean) :: gW) (sRm 4 91) (sPc Δ [.ref (sA Δ 1), .ref (sA Δ o1)] i r) (sQi Δ (fun x i' r' => r = r' ∧ Q x i')) 0 0 (sFr Δ) := by
  refine Ct.i (ty := .boolean) (by decide) rfl (Nat.le_of_ble_eq_true rfl) (fun Γ Q0 hG fin => ?_)
  have hG : okG Γ Δ l (sRm 4 91) cX10_readOperation "Schedulary$Text" 2 := hG
  show V Γ Δ 504 false i r 0 0 Q0 0 [(0, .ref (sA Δ 1)), (1, .ref (sA Δ o1))] []
  refine V.ldcS (pc := 0) (k := 1) (tx := "+-*&|^l") hG (by decide) dX10_readOperation_0 ?_
  refine V.aload_n (pc := 2) hG dX10_readOperation_2 rfl 0 rfl ?_
  refine V.callVi (pc := 3) (As := []) (stk := [.ref (aK Δ 1)]) hG (sm_X10_next l Δ  hi hw h) mY_X10_next kw_1152 kw_1154 kw_81 a_1 (by decide) (q := (RX10, TX10, 3)) rfl rfl ⟨Nat.le_of_ble_eq_true rfl, Nat.le_of_ble_eq_true rfl, Nat.le_of_ble_eq_true rfl, Nat.le_of_ble_eq_true rfl⟩ rfl (Nat.le_of_ble_eq_true rfl) dX10_readOperation_3 rfl (fun v1 i2 r3 hv4 hi5 hw6 hq7 => ?_)
  obtain ⟨e30, e31, h⟩ := hq7
  subst e30
  subst e31
  refine V.callVSi (pc := 6) (As := [.int (sJ v1)]) (stk := []) hG (sm_J0_indexOf_0f7a4 l Δ (by decide) hv4 hi hw h) mY_J0_indexOf_0f7a4 kw_1165 kw_1015 kw_1016 (by decide) rfl ⟨Nat.le_of_ble_eq_true rfl, Nat.le_of_ble_eq_true rfl, Nat.le_of_ble_eq_true rfl, Nat.le_of_ble_eq_true rfl⟩ rfl (Nat.le_of_ble_eq_true rfl) dX10_readOperation_6 rfl (fun v8 i9 r10 hv11 hi12 hw13 hq14 => ?_)
  obtain ⟨e28, e29, h⟩ := hq14
  subst e28
  subst e29
  obtain ⟨t16, f17⟩ := h
  refine V.if_ge (pc := 9) (tgt := 14) hG hv11 dX10_readOperation_9 (by decide) (fun c15 => ?_) (fun c15 => ?_)
  · have h := t16 c15
    clear t16 f17
    refine V.aload_n (pc := 14) hG dX10_readOperation_14 rfl 1 rfl ?_
    refine V.aload_n (pc := 15) hG dX10_readOperation_15 rfl 0 rfl ?_
    refine V.callVi (pc := 16) (As := []) (stk := [.ref (sA Δ o1)]) hG (sm_X10_next l Δ  hi hw h) mY_X10_next kw_1152 kw_1154 kw_81 a_1 (by decide) (q := (RX10, TX10, 3)) rfl rfl ⟨Nat.le_of_ble_eq_true rfl, Nat.le_of_ble_eq_true rfl, Nat.le_of_ble_eq_true rfl, Nat.le_of_ble_eq_true rfl⟩ rfl (Nat.le_of_ble_eq_true rfl) dX10_readOperation_16 rfl (fun v18 i19 r20 hv21 hi22 hw23 hq24 => ?_)
    obtain ⟨e26, e27, h⟩ := hq24
    subst e26
    subst e27
    obtain ⟨g25, h⟩ := h
    refine V.putIN (pc := 19) (ci := 10) (k := 3) (M := 4) (T := TX8) (o := o1) (kz := 3) hG ho1.o ho1.o.n (by decide) hin_X8 rfl (by decide) (by decide) rfl kw_188 rfl tyX8 tyX8_ok nmX8 rfl (ty := tyX8 3) (tyX8_ok 3 (by decide)) (nar_c g25) (fit_c g25) dX10_readOperation_19 ?_
    refine V.aload_n (pc := 22) hG dX10_readOperation_22 rfl 0 rfl ?_
    refine V.dup (pc := 23) hG dX10_readOperation_23 rfl ?_
    refine V.getI (pc := 24) (ci := 12) (k := 2) (M := 3) (T := TX10) (o := 1) (kz := 2) hG a_1 a_1.n (by decide) hin_X10 rfl (by decide) (by decide) rfl kw_153 rfl dX10_readOperation_24 ?_
    refine V.iconst (pc := 27) hG dX10_readOperation_27 ?_
    refine V.iadd (pc := 28) hG dX10_readOperation_28 ?_
    refine V.putI (pc := 29) (ci := 12) (k := 2) (M := 3) (T := TX10) (o := 1) (kz := 2) hG a_1 a_1.n (by decide) hin_X10 rfl (by decide) (by decide) rfl kw_153 rfl tyX10 tyX10_ok nmX10 rfl (ty := tyX10 2) (tyX10_ok 2 (by decide)) rfl rfl dX10_readOperation_29 ?_
    refine V.iconst (pc := 32) hG dX10_readOperation_32 ?_
    exact fin dX10_readOperation_33 ((sR_l rfl)) (nar_z (by decide)) ((okI_st ((okI_st hi hv21)) ((sR_wr _)))) hw ⟨rfl, h⟩
  · have h := f17 c15
    clear t16 f17
    refine V.iconst (pc := 12) hG dX10_readOperation_12 ?_
    exact fin dX10_readOperation_13 ((sR_l rfl)) (nar_z (by decide)) hi hw ⟨rfl, h⟩
set_option maxRecDepth 100000 in
set_option maxHeartbeats 4000000 in
theorem sm_X10_readTarget (l : Launch) (Δ : Wd) {i r : MI} {o1 : Int} (ho1 : stm o1) {Q : Int → MI → Prop} (hi : okI i) (hw : Wf r) (h : wp_X10_readTarget o1 i r Q) : Met l yX10_readTarget (Cond.code yX10_readTarget cX10_readTarget 2 (some .boolean) :: gW) (sRm 5 114) (sPc Δ [.ref (sA Δ 1), .ref (sA Δ o1)] i r) (sQi Δ (fun x i' r' => r = r' ∧ Q x i')) 0 0 (sFr Δ) := by
  refine Ct.i (ty := .boolean) (by decide) rfl (Nat.le_of_ble_eq_true rfl) (fun Γ Q0 hG fin => ?_)
  have hG : okG Γ Δ l (sRm 5 114) cX10_readTarget "Schedulary$Text" 2 := hG
  show V Γ Δ 504 false i r 0 0 Q0 0 [(0, .ref (sA Δ 1)), (1, .ref (sA Δ o1))] []
  have jn42 : ∀ (k0j42 : Int) (ij42 : MI), sR k0j42 → okI ij42 → s42_X10_readTarget k0j42 ij42 r Q → V Γ Δ 504 false ij42 r 0 0 Q0 42 [] [.int (sJ k0j42)] := by
    intro k0j42 ij42 hk0j42 hij42 h
    obtain ⟨g2, h⟩ := h
    exact fin dX10_readTarget_42 hk0j42 (nar_z g2) hij42 hw ⟨rfl, h⟩
  have jn37 : ∀  (ij37 : MI), okI ij37 → s37_X10_readTarget ij37 r Q → V Γ Δ 504 false ij37 r 0 0 Q0 37 [] [] := by
    intro ij37 hij37 h
    refine V.iconst (pc := 37) hG dX10_readTarget_37 ?_
    refine V.goto (pc := 38) (tgt := 42) hG dX10_readTarget_38 (by decide) ?_
    exact jn42 1 ij37 ((sR_l rfl)) hij37 h
  refine V.aload_n (pc := 0) hG dX10_readTarget_0 rfl 0 rfl ?_
  refine V.bipush (pc := 1) hG dX10_readTarget_1 (by decide) ?_
  refine V.callVi (pc := 3) (As := [.int (sJ 62)]) (stk := []) hG (sm_X10_readSign l Δ ((sR_l rfl)) hi hw h) mY_X10_readSign kw_1148 kw_1150 kw_80 a_1 (by decide) (q := (RX10, TX10, 3)) rfl rfl ⟨Nat.le_of_ble_eq_true rfl, Nat.le_of_ble_eq_true rfl, Nat.le_of_ble_eq_true rfl, Nat.le_of_ble_eq_true rfl⟩ rfl (Nat.le_of_ble_eq_true rfl) dX10_readTarget_3 rfl (fun v3 i4 r5 hv6 hi7 hw8 hq9 => ?_)
  obtain ⟨e38, h⟩ := hq9
  subst e38
  obtain ⟨t11, f12⟩ := h
  refine V.if_eq (pc := 6) (tgt := 19) hG hv6 dX10_readTarget_6 (by decide) (fun c10 => ?_) (fun c10 => ?_)
  · have h := t11 c10
    clear t11 f12
    refine V.aload_n (pc := 19) hG dX10_readTarget_19 rfl 0 rfl ?_
    refine V.aload_n (pc := 20) hG dX10_readTarget_20 rfl 1 rfl ?_
    refine V.iconst (pc := 21) hG dX10_readTarget_21 ?_
    refine V.callVi (pc := 22) (As := [.ref (sA Δ o1), .int (sJ 0)]) (stk := []) hG (sm_X10_readRegister l Δ ho1 ((sR_l rfl)) hi7 hw h) mY_X10_readRegister kw_1156 kw_1158 kw_82 a_1 (by decide) (q := (RX10, TX10, 3)) rfl rfl ⟨Nat.le_of_ble_eq_true rfl, Nat.le_of_ble_eq_true rfl, Nat.le_of_ble_eq_true rfl, Nat.le_of_ble_eq_true rfl⟩ rfl (Nat.le_of_ble_eq_true rfl) dX10_readTarget_22 rfl (fun v13 i14 r15 hv16 hi17 hw18 hq19 => ?_)
    obtain ⟨e36, h⟩ := hq19
    subst e36
    obtain ⟨f22, t21⟩ := h
    refine V.if_ne (pc := 25) (tgt := 37) hG hv16 dX10_readTarget_25 (by decide) (fun c20 => ?_) (fun c20 => ?_)
    · have h := t21 c20
      clear t21 f22
      refine V.pick [] rfl ?_
      exact jn37 i14 hi17 h
    · have h := f22 c20
      clear t21 f22
      refine V.aload_n (pc := 28) hG dX10_readTarget_28 rfl 0 rfl ?_
      refine V.aload_n (pc := 29) hG dX10_readTarget_29 rfl 1 rfl ?_
      refine V.iconst (pc := 30) hG dX10_readTarget_30 ?_
      refine V.callVi (pc := 31) (As := [.ref (sA Δ o1), .int (sJ 0)]) (stk := []) hG (sm_X10_readPlace l Δ ho1 ((sR_l rfl)) hi17 hw h) mY_X10_readPlace kw_1160 kw_1162 kw_83 a_1 (by decide) (q := (RX10, TX10, 3)) rfl rfl ⟨Nat.le_of_ble_eq_true rfl, Nat.le_of_ble_eq_true rfl, Nat.le_of_ble_eq_true rfl, Nat.le_of_ble_eq_true rfl⟩ rfl (Nat.le_of_ble_eq_true rfl) dX10_readTarget_31 rfl (fun v23 i24 r25 hv26 hi27 hw28 hq29 => ?_)
      obtain ⟨e34, h⟩ := hq29
      subst e34
      obtain ⟨t31, f32⟩ := h
      refine V.if_eq (pc := 34) (tgt := 41) hG hv26 dX10_readTarget_34 (by decide) (fun c30 => ?_) (fun c30 => ?_)
      · have h := t31 c30
        clear t31 f32
        refine V.iconst (pc := 41) hG dX10_readTarget_41 ?_
        refine V.pick [] rfl ?_
        exact jn42 0 i24 ((sR_l rfl)) hi27 h
      · have h := f32 c30
        clear t31 f32
        refine V.pick [] rfl ?_
        exact jn37 i24 hi27 h
  · have h := f12 c10
    clear t11 f12
    refine V.aload_n (pc := 9) hG dX10_readTarget_9 rfl 1 rfl ?_
    refine V.getRN (x := o1 + 1) (pc := 10) (ci := 10) (k := 0) (M := 4) (T := TX8) (o := o1) (kz := 0) hG ho1.o ho1.o.n (by decide) hin_X8 rfl (by decide) (by decide) rfl kw_180 rfl ((hw.2.2.1 _ ho1).1) (by have := (ho1).1; omega) dX10_readTarget_10 ?_
    refine V.iconst (pc := 13) hG dX10_readTarget_13 ?_
    refine V.bipush (pc := 14) hG dX10_readTarget_14 (by decide) ?_
    refine V.iast (pc := 16) (z := 3) (o := o1 + 1) hG ho1.f ho1.f.n ((sR_l rfl)) (by decide) dX10_readTarget_16 ?_
    refine V.iconst (pc := 17) hG dX10_readTarget_17 ?_
    exact fin dX10_readTarget_18 ((sR_l rfl)) (nar_z (by decide)) ((okI_st hi7 ((sR_l rfl)))) hw ⟨rfl, h⟩
set_option maxRecDepth 100000 in
set_option maxHeartbeats 4000000 in
theorem sm_X10_readInto (l : Launch) (Δ : Wd) {i r : MI} {o1 : Int} (ho1 : stm o1) {Q : Int → MI → Prop} (hi : okI i) (hw : Wf r) (h : wp_X10_readInto o1 i r Q) : Met l yX10_readInto (Cond.code yX10_readInto cX10_readInto 3 (some .int) :: gW) (sRm 6 136) (sPc Δ [.ref (sA Δ 1), .ref (sA Δ o1)] i r) (sQi Δ (fun x i' r' => r = r' ∧ Q x i')) 0 0 (sFr Δ) := by
  refine Ct.i (ty := .int) (by decide) rfl (Nat.le_of_ble_eq_true rfl) (fun Γ Q0 hG fin => ?_)
  have hG : okG Γ Δ l (sRm 6 136) cX10_readInto "Schedulary$Text" 3 := hG
  show V Γ Δ 504 false i r 0 0 Q0 0 [(0, .ref (sA Δ 1)), (1, .ref (sA Δ o1))] []
  have jn92 : ∀ (k0j92 : Int) (ij92 : MI), sR k0j92 → okI ij92 → s92_X10_readInto k0j92 ij92 r Q → V Γ Δ 504 false ij92 r 0 0 Q0 92 [] [.int (sJ k0j92)] := by
    intro k0j92 ij92 hk0j92 hij92 h
    exact fin dX10_readInto_92 hk0j92 rfl hij92 hw ⟨rfl, h⟩
  have jn79 : ∀ (k0j79 : Int) (ij79 : MI), sR k0j79 → okI ij79 → s79_X10_readInto k0j79 ij79 r Q → V Γ Δ 504 false ij79 r 0 0 Q0 79 [(0, .ref (sA Δ 1))] [.int (sJ k0j79)] := by
    intro k0j79 ij79 hk0j79 hij79 h
    refine V.istore_n (pc := 79) (lv' := [(2, .int (sJ k0j79)), (0, .ref (sA Δ 1))]) hG dX10_readInto_79 rfl (by decide) rfl ?_
    refine V.iload_n (pc := 80) hG dX10_readInto_80 rfl 0 rfl ?_
    obtain ⟨t5, f6⟩ := h
    refine V.if_eq (pc := 81) (tgt := 88) hG hk0j79 dX10_readInto_81 (by decide) (fun c4 => ?_) (fun c4 => ?_)
    · have h := t5 c4
      clear t5 f6
      refine V.aload_n (pc := 88) hG dX10_readInto_88 rfl 1 rfl ?_
      refine V.getI (pc := 89) (ci := 12) (k := 2) (M := 3) (T := TX10) (o := 1) (kz := 2) hG a_1 a_1.n (by decide) hin_X10 rfl (by decide) (by decide) rfl kw_153 rfl dX10_readInto_89 ?_
      refine V.pick [] rfl ?_
      exact jn92 (ij79 1 2) ij79 ((hij79 _ _)) hij79 h
    · have h := f6 c4
      clear t5 f6
      refine V.iconst (pc := 84) hG dX10_readInto_84 ?_
      refine V.goto (pc := 85) (tgt := 92) hG dX10_readInto_85 (by decide) ?_
      refine V.pick [] rfl ?_
      exact jn92 (-1) ij79 ((sR_l rfl)) hij79 h
  have jn78 : ∀  (ij78 : MI), okI ij78 → s78_X10_readInto ij78 r Q → V Γ Δ 504 false ij78 r 0 0 Q0 78 [(0, .ref (sA Δ 1))] [] := by
    intro ij78 hij78 h
    refine V.iconst (pc := 78) hG dX10_readInto_78 ?_
    exact jn79 0 ij78 ((sR_l rfl)) hij78 h
  have jn74 : ∀  (ij74 : MI), okI ij74 → s74_X10_readInto ij74 r Q → V Γ Δ 504 false ij74 r 0 0 Q0 74 [(0, .ref (sA Δ 1))] [] := by
    intro ij74 hij74 h
    refine V.iconst (pc := 74) hG dX10_readInto_74 ?_
    refine V.goto (pc := 75) (tgt := 79) hG dX10_readInto_75 (by decide) ?_
    exact jn79 1 ij74 ((sR_l rfl)) hij74 h
  refine V.aload_n (pc := 0) hG dX10_readInto_0 rfl 0 rfl ?_
  refine V.iconst (pc := 1) hG dX10_readInto_1 ?_
  refine V.putI (pc := 2) (ci := 12) (k := 2) (M := 3) (T := TX10) (o := 1) (kz := 2) hG a_1 a_1.n (by decide) hin_X10 rfl (by decide) (by decide) rfl kw_153 rfl tyX10 tyX10_ok nmX10 rfl (ty := tyX10 2) (tyX10_ok 2 (by decide)) rfl rfl dX10_readInto_2 ?_
  refine V.aload_n (pc := 5) hG dX10_readInto_5 rfl 1 rfl ?_
  refine V.callVNv (pc := 6) (As := []) (stk := []) hG (sm_X8_forget l Δ ho1 ((okI_st hi ((sR_l rfl)))) hw h) mY_X8_forget kw_1140 kw_1142 kw_78 ho1.o (by decide) (q := (RX8, TX8, 4)) rfl rfl ⟨Nat.le_of_ble_eq_true rfl, Nat.le_of_ble_eq_true rfl, Nat.le_of_ble_eq_true rfl, Nat.le_of_ble_eq_true rfl⟩ rfl (Nat.le_of_ble_eq_true rfl) dX10_readInto_6 rfl (fun i8 r9 hi11 hw12 hq13 => ?_)
  obtain ⟨e81, h⟩ := hq13
  subst e81
  refine V.aload_n (pc := 9) hG dX10_readInto_9 rfl 0 rfl ?_
  refine V.aload_n (pc := 10) hG dX10_readInto_10 rfl 1 rfl ?_
  refine V.callVi (pc := 11) (As := [.ref (sA Δ o1)]) (stk := []) hG (sm_X10_readTarget l Δ ho1 hi11 hw h) mY_X10_readTarget kw_1144 kw_1146 kw_79 a_1 (by decide) (q := (RX10, TX10, 3)) rfl rfl ⟨Nat.le_of_ble_eq_true rfl, Nat.le_of_ble_eq_true rfl, Nat.le_of_ble_eq_true rfl, Nat.le_of_ble_eq_true rfl⟩ rfl (Nat.le_of_ble_eq_true rfl) dX10_readInto_11 rfl (fun v14 i15 r16 hv17 hi18 hw19 hq20 => ?_)
  obtain ⟨e79, h⟩ := hq20
  subst e79
  obtain ⟨t22, f23⟩ := h
  refine V.if_eq (pc := 14) (tgt := 78) hG hv17 dX10_readInto_14 (by decide) (fun c21 => ?_) (fun c21 => ?_)
  · have h := t22 c21
    clear t22 f23
    refine V.pick [0] rfl ?_
    exact jn78 i15 hi18 h
  · have h := f23 c21
    clear t22 f23
    refine V.aload_n (pc := 17) hG dX10_readInto_17 rfl 0 rfl ?_
    refine V.bipush (pc := 18) hG dX10_readInto_18 (by decide) ?_
    refine V.callVi (pc := 20) (As := [.int (sJ 61)]) (stk := []) hG (sm_X10_readSign l Δ ((sR_l rfl)) hi18 hw h) mY_X10_readSign kw_1148 kw_1150 kw_80 a_1 (by decide) (q := (RX10, TX10, 3)) rfl rfl ⟨Nat.le_of_ble_eq_true rfl, Nat.le_of_ble_eq_true rfl, Nat.le_of_ble_eq_true rfl, Nat.le_of_ble_eq_true rfl⟩ rfl (Nat.le_of_ble_eq_true rfl) dX10_readInto_20 rfl (fun v24 i25 r26 hv27 hi28 hw29 hq30 => ?_)
    obtain ⟨e77, h⟩ := hq30
    subst e77
    obtain ⟨t32, f33⟩ := h
    refine V.if_eq (pc := 23) (tgt := 78) hG hv27 dX10_readInto_23 (by decide) (fun c31 => ?_) (fun c31 => ?_)
    · have h := t32 c31
      clear t32 f33
      refine V.pick [0] rfl ?_
      exact jn78 i25 hi28 h
    · have h := f33 c31
      clear t32 f33
      refine V.aload_n (pc := 26) hG dX10_readInto_26 rfl 0 rfl ?_
      refine V.aload_n (pc := 27) hG dX10_readInto_27 rfl 1 rfl ?_
      refine V.iconst (pc := 28) hG dX10_readInto_28 ?_
      refine V.callVi (pc := 29) (As := [.ref (sA Δ o1), .int (sJ 1)]) (stk := []) hG (sm_X10_readOperand l Δ ho1 ((sR_l rfl)) hi28 hw h) mY_X10_readOperand kw_1177 kw_1179 kw_86 a_1 (by decide) (q := (RX10, TX10, 3)) rfl rfl ⟨Nat.le_of_ble_eq_true rfl, Nat.le_of_ble_eq_true rfl, Nat.le_of_ble_eq_true rfl, Nat.le_of_ble_eq_true rfl⟩ rfl (Nat.le_of_ble_eq_true rfl) dX10_readInto_29 rfl (fun v34 i35 r36 hv37 hi38 hw39 hq40 => ?_)
      obtain ⟨e75, h⟩ := hq40
      subst e75
      obtain ⟨t42, f43⟩ := h
      refine V.if_eq (pc := 32) (tgt := 78) hG hv37 dX10_readInto_32 (by decide) (fun c41 => ?_) (fun c41 => ?_)
      · have h := t42 c41
        clear t42 f43
        refine V.pick [0] rfl ?_
        exact jn78 i35 hi38 h
      · have h := f43 c41
        clear t42 f43
        refine V.aload_n (pc := 35) hG dX10_readInto_35 rfl 0 rfl ?_
        refine V.getI (pc := 36) (ci := 12) (k := 2) (M := 3) (T := TX10) (o := 1) (kz := 2) hG a_1 a_1.n (by decide) hin_X10 rfl (by decide) (by decide) rfl kw_153 rfl dX10_readInto_36 ?_
        refine V.aload_n (pc := 39) hG dX10_readInto_39 rfl 0 rfl ?_
        refine V.getI (pc := 40) (ci := 12) (k := 1) (M := 3) (T := TX10) (o := 1) (kz := 1) hG a_1 a_1.n (by decide) hin_X10 rfl (by decide) (by decide) rfl kw_151 rfl dX10_readInto_40 ?_
        obtain ⟨t45, f46⟩ := h
        refine V.icmp_eq (pc := 43) (tgt := 74) hG ((hi38 _ _)) ((hi38 _ _)) dX10_readInto_43 (by decide) (fun c44 => ?_) (fun c44 => ?_)
        · have h := t45 c44
          clear t45 f46
          refine V.pick [0] rfl ?_
          exact jn74 i35 hi38 h
        · have h := f46 c44
          clear t45 f46
          refine V.aload_n (pc := 46) hG dX10_readInto_46 rfl 0 rfl ?_
          refine V.aload_n (pc := 47) hG dX10_readInto_47 rfl 1 rfl ?_
          refine V.callVi (pc := 48) (As := [.ref (sA Δ o1)]) (stk := []) hG (sm_X10_readOperation l Δ ho1 hi38 hw h) mY_X10_readOperation kw_1181 kw_1183 kw_87 a_1 (by decide) (q := (RX10, TX10, 3)) rfl rfl ⟨Nat.le_of_ble_eq_true rfl, Nat.le_of_ble_eq_true rfl, Nat.le_of_ble_eq_true rfl, Nat.le_of_ble_eq_true rfl⟩ rfl (Nat.le_of_ble_eq_true rfl) dX10_readInto_48 rfl (fun v47 i48 r49 hv50 hi51 hw52 hq53 => ?_)
          obtain ⟨e73, h⟩ := hq53
          subst e73
          obtain ⟨t55, f56⟩ := h
          refine V.if_eq (pc := 51) (tgt := 78) hG hv50 dX10_readInto_51 (by decide) (fun c54 => ?_) (fun c54 => ?_)
          · have h := t55 c54
            clear t55 f56
            refine V.pick [0] rfl ?_
            exact jn78 i48 hi51 h
          · have h := f56 c54
            clear t55 f56
            refine V.aload_n (pc := 54) hG dX10_readInto_54 rfl 0 rfl ?_
            refine V.aload_n (pc := 55) hG dX10_readInto_55 rfl 1 rfl ?_
            refine V.iconst (pc := 56) hG dX10_readInto_56 ?_
            refine V.callVi (pc := 57) (As := [.ref (sA Δ o1), .int (sJ 2)]) (stk := []) hG (sm_X10_readOperand l Δ ho1 ((sR_l rfl)) hi51 hw h) mY_X10_readOperand kw_1177 kw_1179 kw_86 a_1 (by decide) (q := (RX10, TX10, 3)) rfl rfl ⟨Nat.le_of_ble_eq_true rfl, Nat.le_of_ble_eq_true rfl, Nat.le_of_ble_eq_true rfl, Nat.le_of_ble_eq_true rfl⟩ rfl (Nat.le_of_ble_eq_true rfl) dX10_readInto_57 rfl (fun v57 i58 r59 hv60 hi61 hw62 hq63 => ?_)
            obtain ⟨e71, h⟩ := hq63
            subst e71
            obtain ⟨t65, f66⟩ := h
            refine V.if_eq (pc := 60) (tgt := 78) hG hv60 dX10_readInto_60 (by decide) (fun c64 => ?_) (fun c64 => ?_)
            · have h := t65 c64
              clear t65 f66
              refine V.pick [0] rfl ?_
              exact jn78 i58 hi61 h
            · have h := f66 c64
              clear t65 f66
              refine V.aload_n (pc := 63) hG dX10_readInto_63 rfl 0 rfl ?_
              refine V.getI (pc := 64) (ci := 12) (k := 2) (M := 3) (T := TX10) (o := 1) (kz := 2) hG a_1 a_1.n (by decide) hin_X10 rfl (by decide) (by decide) rfl kw_153 rfl dX10_readInto_64 ?_
              refine V.aload_n (pc := 67) hG dX10_readInto_67 rfl 0 rfl ?_
              refine V.getI (pc := 68) (ci := 12) (k := 1) (M := 3) (T := TX10) (o := 1) (kz := 1) hG a_1 a_1.n (by decide) hin_X10 rfl (by decide) (by decide) rfl kw_151 rfl dX10_readInto_68 ?_
              obtain ⟨f69, t68⟩ := h
              refine V.icmp_ne (pc := 71) (tgt := 78) hG ((hi61 _ _)) ((hi61 _ _)) dX10_readInto_71 (by decide) (fun c67 => ?_) (fun c67 => ?_)
              · have h := t68 c67
                clear t68 f69
                refine V.pick [0] rfl ?_
                exact jn78 i58 hi61 h
              · have h := f69 c67
                clear t68 f69
                refine V.pick [0] rfl ?_
                exact jn74 i58 hi61 h
set_option maxRecDepth 100000 in
set_option maxHeartbeats 4000000 in
theorem sm_X11_add (l : Launch) (Δ : Wd) {i r : MI}   {Q : Int → MI → MI → Prop} {X : String → MI → MI → Prop} (hst : l.stackTraces = false) (hi : okI i) (hw : Wf r) (h : wp_X11_add  i r Q X) : vx_Met l yX11_add (Cond.code yX11_add cX11_add 2 (some .int) :: gW) (sRx 7 158 1 6) (sPc Δ [.ref (sA Δ 0)] i r) (sQi Δ (Q)) (sX Δ (X)) 1 6 (sFr Δ) := by
  refine Cx.i (ty := .int) (by decide) rfl (Nat.le_of_ble_eq_true rfl) hst (by decide) (by decide) (fun Γ Q0 hG fin xout xthr => ?_)
  have hG : okG Γ Δ l (sRx 7 158 1 6) cX11_add "Schedulary" 2 := hG
  show V Γ Δ 504 false i r 0 0 Q0 0 [(0, .ref (sA Δ 0))] []
  have jn58 : ∀  (ij58 : MI) (rj58 : MI), okI ij58 → Wf rj58 → s58_X11_add ij58 rj58 Q X → V Γ Δ 504 false ij58 rj58 0 0 Q0 58 [] [] := by
    intro ij58 rj58 hij58 hwj58 h
    exact xthr ⟨98, 125, 102, "too many statements", by decide, kw_1112, kw_126, by decide, .inl th_102, dX11_add_58, dX11_add_61, Or.inl ⟨dX11_add_62, dX11_add_64, dX11_add_67⟩⟩ (by decide) (by decide) hij58 hwj58 h
  refine V.aload_n (pc := 0) hG dX11_add_0 rfl 0 rfl ?_
  refine V.getR (x := 1) (pc := 1) (ci := 13) (k := 0) (M := 11) (T := TX11) (o := 0) (kz := 0) hG a_0 a_0.n (by decide) hin_X11 rfl (by decide) (by decide) rfl kw_523 rfl ((hw).1 (0, 0, 1) (by decide)) (by decide) dX11_add_1 ?_
  refine V.aload_n (pc := 4) hG dX11_add_4 rfl 0 rfl ?_
  refine V.getR (x := 3) (pc := 5) (ci := 13) (k := 1) (M := 11) (T := TX11) (o := 0) (kz := 1) hG a_0 a_0.n (by decide) hin_X11 rfl (by decide) (by decide) rfl kw_524 rfl ((hw).1 (0, 1, 3) (by decide)) (by decide) dX11_add_5 ?_
  refine V.getRN (x := (r 3 3)) (pc := 8) (ci := 8) (k := 3) (M := 9) (T := TX6) (o := 3) (kz := 3) hG a_3 a_3.n (by decide) hin_X6 rfl (by decide) (by decide) rfl kw_208 rfl rfl ((hw).sp).z dX11_add_8 ?_
  refine V.callVNi (pc := 11) (As := [.ref (sA Δ (r 3 3))]) (stk := []) hG (sm_X10_readInto l Δ ((hw).sp) hi hw h) mY_X10_readInto kw_1136 kw_1138 kw_77 a_1 (by decide) (q := (RX10, TX10, 3)) rfl rfl ⟨Nat.le_of_ble_eq_true rfl, Nat.le_of_ble_eq_true rfl, Nat.le_of_ble_eq_true rfl, Nat.le_of_ble_eq_true rfl⟩ rfl (Nat.le_of_ble_eq_true rfl) dX11_add_11 rfl (fun v1 i2 r3 hv4 hi5 hw6 hq7 => ?_)
  obtain ⟨e45, h⟩ := hq7
  subst e45
  refine V.iconst (pc := 14) hG dX11_add_14 ?_
  obtain ⟨t9, f10⟩ := h
  refine V.icmp_eq (pc := 15) (tgt := 28) hG hv4 ((sR_l rfl)) dX11_add_15 (by decide) (fun c8 => ?_) (fun c8 => ?_)
  · have h := t9 c8
    clear t9 f10
    refine V.aload_n (pc := 28) hG dX11_add_28 rfl 0 rfl ?_
    refine V.getR (x := 3) (pc := 29) (ci := 13) (k := 1) (M := 11) (T := TX11) (o := 0) (kz := 1) hG a_0 a_0.n (by decide) hin_X11 rfl (by decide) (by decide) rfl kw_524 rfl ((hw).1 (0, 1, 3) (by decide)) (by decide) dX11_add_29 ?_
    refine V.getIN (pc := 32) (ci := 8) (k := 4) (M := 9) (T := TX6) (o := 3) (kz := 4) hG a_3 a_3.n (by decide) hin_X6 rfl (by decide) (by decide) rfl kw_211 rfl dX11_add_32 ?_
    refine V.iconst (pc := 35) hG dX11_add_35 ?_
    refine V.iadd (pc := 36) hG dX11_add_36 ?_
    refine V.istore_n (pc := 37) (lv' := [(1, .int (sJ (wr (i2 3 4 + 1)))), (0, .ref (sA Δ 0))]) hG dX11_add_37 rfl (by decide) rfl ?_
    refine V.iload_n (pc := 38) hG dX11_add_38 rfl 0 rfl ?_
    refine V.bipush (pc := 39) hG dX11_add_39 (by decide) ?_
    obtain ⟨t12, f13⟩ := h
    refine V.icmp_gt (pc := 41) (tgt := 58) hG ((sR_wr _)) ((sR_l rfl)) dX11_add_41 (by decide) (fun c11 => ?_) (fun c11 => ?_)
    · have h := t12 c11
      clear t12 f13
      refine V.pick [] rfl ?_
      exact jn58 i2 r hi5 hw h
    · have h := f13 c11
      clear t12 f13
      refine V.iload_n (pc := 44) hG dX11_add_44 rfl 0 rfl ?_
      refine V.aload_n (pc := 45) hG dX11_add_45 rfl 1 rfl ?_
      refine V.getR (x := 3) (pc := 46) (ci := 13) (k := 1) (M := 11) (T := TX11) (o := 0) (kz := 1) hG a_0 a_0.n (by decide) hin_X11 rfl (by decide) (by decide) rfl kw_524 rfl ((hw).1 (0, 1, 3) (by decide)) (by decide) dX11_add_46 ?_
      refine V.getIN (pc := 49) (ci := 8) (k := 8) (M := 9) (T := TX6) (o := 3) (kz := 8) hG a_3 a_3.n (by decide) hin_X6 rfl (by decide) (by decide) rfl kw_221 rfl dX11_add_49 ?_
      refine V.imul (pc := 52) hG dX11_add_52 ?_
      refine V.bipush (pc := 53) hG dX11_add_53 (by decide) ?_
      obtain ⟨t15, f16⟩ := h
      refine V.icmp_le (pc := 55) (tgt := 68) hG ((sR_wr _)) ((sR_l rfl)) dX11_add_55 (by decide) (fun c14 => ?_) (fun c14 => ?_)
      · have h := t15 c14
        clear t15 f16
        refine V.aload_n (pc := 68) hG dX11_add_68 rfl 1 rfl ?_
        refine V.getR (x := 3) (pc := 69) (ci := 13) (k := 1) (M := 11) (T := TX11) (o := 0) (kz := 1) hG a_0 a_0.n (by decide) hin_X11 rfl (by decide) (by decide) rfl kw_524 rfl ((hw).1 (0, 1, 3) (by decide)) (by decide) dX11_add_69 ?_
        refine V.iload_n (pc := 72) hG dX11_add_72 rfl 0 rfl ?_
        refine V.putIN (pc := 73) (ci := 8) (k := 4) (M := 9) (T := TX6) (o := 3) (kz := 4) hG a_3 a_3.n (by decide) hin_X6 rfl (by decide) (by decide) rfl kw_211 rfl tyX6 tyX6_ok nmX6 rfl (ty := tyX6 4) (tyX6_ok 4 (by decide)) rfl rfl dX11_add_73 ?_
        refine V.aload_n (pc := 76) hG dX11_add_76 rfl 1 rfl ?_
        refine V.getR (x := 3) (pc := 77) (ci := 13) (k := 1) (M := 11) (T := TX11) (o := 0) (kz := 1) hG a_0 a_0.n (by decide) hin_X11 rfl (by decide) (by decide) rfl kw_524 rfl ((hw).1 (0, 1, 3) (by decide)) (by decide) dX11_add_77 ?_
        refine V.iload_n (pc := 80) hG dX11_add_80 rfl 0 rfl ?_
        refine V.iconst (pc := 81) hG dX11_add_81 ?_
        refine V.isub (pc := 82) hG dX11_add_82 ?_
        refine V.callVNv (pc := 83) (As := [.int (sJ (wr (wr (i2 3 4 + 1) - 1)))]) (stk := []) hG (sm_X6_useSpare l Δ ((sR_wr _)) ((okI_st hi5 ((sR_wr _)))) hw h) mY_X6_useSpare kw_1188 kw_1190 kw_88 a_3 (by decide) (q := (RX6, TX6, 9)) rfl rfl ⟨Nat.le_of_ble_eq_true rfl, Nat.le_of_ble_eq_true rfl, Nat.le_of_ble_eq_true rfl, Nat.le_of_ble_eq_true rfl⟩ rfl (Nat.le_of_ble_eq_true rfl) dX11_add_83 rfl (fun i18 r19 hi21 hw22 hq23 => ?_)
        have h := hq23
        refine V.aload_n (pc := 86) hG dX11_add_86 rfl 1 rfl ?_
        refine V.getR (x := 1) (pc := 87) (ci := 13) (k := 0) (M := 11) (T := TX11) (o := 0) (kz := 0) hG a_0 a_0.n (by decide) hin_X11 rfl (by decide) (by decide) rfl kw_523 rfl ((hw22).1 (0, 0, 1) (by decide)) (by decide) dX11_add_87 ?_
        refine V.callVNi (pc := 90) (As := []) (stk := []) hG (sm_X10_empty l Δ  hi21 hw22 h) mY_X10_empty kw_1192 kw_1194 kw_89 a_1 (by decide) (q := (RX10, TX10, 3)) rfl rfl ⟨Nat.le_of_ble_eq_true rfl, Nat.le_of_ble_eq_true rfl, Nat.le_of_ble_eq_true rfl, Nat.le_of_ble_eq_true rfl⟩ rfl (Nat.le_of_ble_eq_true rfl) dX11_add_90 rfl (fun v24 i25 r26 hv27 hi28 hw29 hq30 => ?_)
        obtain ⟨e41, h⟩ := hq30
        subst e41
        refine V.pop (pc := 93) hG dX11_add_93 rfl ?_
        refine V.aload_n (pc := 94) hG dX11_add_94 rfl 1 rfl ?_
        refine V.callVv (pc := 95) (As := []) (stk := []) hG (sm_X11_changeBody l Δ  hi28 hw22 h) mY_X11_changeBody kw_1196 kw_1198 kw_90 a_0 (by decide) (q := (RX11, TX11, 11)) rfl rfl ⟨Nat.le_of_ble_eq_true rfl, Nat.le_of_ble_eq_true rfl, Nat.le_of_ble_eq_true rfl, Nat.le_of_ble_eq_true rfl⟩ rfl (Nat.le_of_ble_eq_true rfl) dX11_add_95 rfl (fun i32 r33 hi35 hw36 hq37 => ?_)
        obtain ⟨e39, h⟩ := hq37
        subst e39
        refine V.iload_n (pc := 98) hG dX11_add_98 rfl 0 rfl ?_
        exact fin dX11_add_99 ((sR_wr _)) rfl (by decide) (by decide) hi35 hw22 h
      · have h := f16 c14
        clear t15 f16
        refine V.pick [] rfl ?_
        exact jn58 i2 r hi5 hw h
  · have h := f10 c8
    clear t9 f10
    exact xthr ⟨88, 119, 92, "no statement", by decide, kw_1096, kw_125, by decide, .inl th_92, dX11_add_18, dX11_add_21, Or.inl ⟨dX11_add_22, dX11_add_24, dX11_add_27⟩⟩ (by decide) (by decide) hi5 hw h
set_option maxRecDepth 100000 in
set_option maxHeartbeats 4000000 in
theorem sm_X3_set (l : Launch) (Δ : Wd) {i r : MI} {o0 : Int} {o1 : Int} {p2 : Int} {p3 : Int} {p4 : Int} (ho0 : isA o0 (5, 0)) (ho1 : stm o1) (hp2 : sR p2) (hp3 : sR p3) (hp4 : sR p4) {Q : MI → MI → Prop} (hi : okI i) (hw : Wf r) (h : wp_X3_set o0 o1 p2 p3 p4 i r Q) : Met l yX3_set (Cond.code yX3_set cX3_set 5 none :: gW) (sRm 0 0) (sPc Δ [.ref (sA Δ o0), .ref (sA Δ o1), .int (sJ p2), .int (sJ p3), .int (sJ p4)] i r) (sQv Δ (Q)) 0 0 (sFr Δ) := by
  refine Ct.v (by decide) rfl (Nat.le_of_ble_eq_true rfl) (fun Γ Q0 hG fin => ?_)
  have hG : okG Γ Δ l (sRm 0 0) cX3_set "Schedulary$Node" 5 := hG
  show V Γ Δ 504 false i r 0 0 Q0 0 [(0, .ref (sA Δ o0)), (1, .ref (sA Δ o1)), (2, .int (sJ p2)), (3, .int (sJ p3)), (4, .int (sJ p4))] []
  refine V.aload_n (pc := 0) hG dX3_set_0 rfl 0 rfl ?_
  refine V.aload_n (pc := 1) hG dX3_set_1 rfl 1 rfl ?_
  refine V.putR (pc := 2) (ci := 5) (k := 0) (M := 13) (T := TX3) (o := o0) (kz := 0) hG ho0 ho0.n (by decide) hin_X3 rfl (by decide) (by decide) rfl kw_282 rfl tyX3 tyX3_ok nmX3 rfl (ty := tyX3 0) (tyX3_ok 0 (by decide)) ho1.z (fun _ => rfl) (fun _ => rfl) dX3_set_2 ?_
  refine V.aload_n (pc := 5) hG dX3_set_5 rfl 0 rfl ?_
  refine V.iload_n (pc := 6) hG dX3_set_6 rfl 2 rfl ?_
  refine V.putI (pc := 7) (ci := 5) (k := 1) (M := 13) (T := TX3) (o := o0) (kz := 1) hG ho0 ho0.n (by decide) hin_X3 rfl (by decide) (by decide) rfl kw_284 rfl tyX3 tyX3_ok nmX3 rfl (ty := tyX3 1) (tyX3_ok 1 (by decide)) rfl rfl dX3_set_7 ?_
  refine V.aload_n (pc := 10) hG dX3_set_10 rfl 0 rfl ?_
  refine V.iload_n (pc := 11) hG dX3_set_11 rfl 3 rfl ?_
  refine V.putI (pc := 12) (ci := 5) (k := 2) (M := 13) (T := TX3) (o := o0) (kz := 2) hG ho0 ho0.n (by decide) hin_X3 rfl (by decide) (by decide) rfl kw_286 rfl tyX3 tyX3_ok nmX3 rfl (ty := tyX3 2) (tyX3_ok 2 (by decide)) rfl rfl dX3_set_12 ?_
  refine V.aload_n (pc := 15) hG dX3_set_15 rfl 0 rfl ?_
  refine V.iload (pc := 16) hG dX3_set_16 4 rfl ?_
  refine V.putI (pc := 18) (ci := 5) (k := 3) (M := 13) (T := TX3) (o := o0) (kz := 3) hG ho0 ho0.n (by decide) hin_X3 rfl (by decide) (by decide) rfl kw_288 rfl tyX3 tyX3_ok nmX3 rfl (ty := tyX3 3) (tyX3_ok 3 (by decide)) rfl rfl dX3_set_18 ?_
  refine V.aload_n (pc := 21) hG dX3_set_21 rfl 0 rfl ?_
  refine V.iconst (pc := 22) hG dX3_set_22 ?_
  refine V.putI (pc := 23) (ci := 5) (k := 4) (M := 13) (T := TX3) (o := o0) (kz := 4) hG ho0 ho0.n (by decide) hin_X3 rfl (by decide) (by decide) rfl kw_294 rfl tyX3 tyX3_ok nmX3 rfl (ty := tyX3 4) (tyX3_ok 4 (by decide)) rfl rfl dX3_set_23 ?_
  refine V.aload_n (pc := 26) hG dX3_set_26 rfl 0 rfl ?_
  refine V.iconst (pc := 27) hG dX3_set_27 ?_
  refine V.putI (pc := 28) (ci := 5) (k := 5) (M := 13) (T := TX3) (o := o0) (kz := 5) hG ho0 ho0.n (by decide) hin_X3 rfl (by decide) (by decide) rfl kw_297 rfl tyX3 tyX3_ok nmX3 rfl (ty := tyX3 5) (tyX3_ok 5 (by decide)) rfl rfl dX3_set_28 ?_
  refine V.aload_n (pc := 31) hG dX3_set_31 rfl 0 rfl ?_
  refine V.iconst (pc := 32) hG dX3_set_32 ?_
  refine V.putI (pc := 33) (ci := 5) (k := 6) (M := 13) (T := TX3) (o := o0) (kz := 6) hG ho0 ho0.n (by decide) hin_X3 rfl (by decide) (by decide) rfl kw_301 rfl tyX3 tyX3_ok nmX3 rfl (ty := tyX3 6) (tyX3_ok 6 (by decide)) rfl rfl dX3_set_33 ?_
  refine V.aload_n (pc := 36) hG dX3_set_36 rfl 0 rfl ?_
  refine V.iconst (pc := 37) hG dX3_set_37 ?_
  refine V.putI (pc := 38) (ci := 5) (k := 7) (M := 13) (T := TX3) (o := o0) (kz := 7) hG ho0 ho0.n (by decide) hin_X3 rfl (by decide) (by decide) rfl kw_305 rfl tyX3 tyX3_ok nmX3 rfl (ty := tyX3 7) (tyX3_ok 7 (by decide)) rfl rfl dX3_set_38 ?_
  refine V.aload_n (pc := 41) hG dX3_set_41 rfl 0 rfl ?_
  refine V.iconst (pc := 42) hG dX3_set_42 ?_
  refine V.putI (pc := 43) (ci := 5) (k := 8) (M := 13) (T := TX3) (o := o0) (kz := 8) hG ho0 ho0.n (by decide) hin_X3 rfl (by decide) (by decide) rfl kw_307 rfl tyX3 tyX3_ok nmX3 rfl (ty := tyX3 8) (tyX3_ok 8 (by decide)) rfl rfl dX3_set_43 ?_
  refine V.aload_n (pc := 46) hG dX3_set_46 rfl 0 rfl ?_
  refine V.iconst (pc := 47) hG dX3_set_47 ?_
  refine V.putI (pc := 48) (ci := 5) (k := 9) (M := 13) (T := TX3) (o := o0) (kz := 9) hG ho0 ho0.n (by decide) hin_X3 rfl (by decide) (by decide) rfl kw_311 rfl tyX3 tyX3_ok nmX3 rfl (ty := tyX3 9) (tyX3_ok 9 (by decide)) rfl rfl dX3_set_48 ?_
  refine V.aload_n (pc := 51) hG dX3_set_51 rfl 0 rfl ?_
  refine V.iconst (pc := 52) hG dX3_set_52 ?_
  refine V.putI (pc := 53) (ci := 5) (k := 10) (M := 13) (T := TX3) (o := o0) (kz := 10) hG ho0 ho0.n (by decide) hin_X3 rfl (by decide) (by decide) rfl kw_313 rfl tyX3 tyX3_ok nmX3 rfl (ty := tyX3 10) (tyX3_ok 10 (by decide)) (nar_z (by decide)) (fit_z (by decide)) dX3_set_53 ?_
  refine V.aload_n (pc := 56) hG dX3_set_56 rfl 0 rfl ?_
  refine V.iconst (pc := 57) hG dX3_set_57 ?_
  refine V.putI (pc := 58) (ci := 5) (k := 11) (M := 13) (T := TX3) (o := o0) (kz := 11) hG ho0 ho0.n (by decide) hin_X3 rfl (by decide) (by decide) rfl kw_315 rfl tyX3 tyX3_ok nmX3 rfl (ty := tyX3 11) (tyX3_ok 11 (by decide)) (nar_z (by decide)) (fit_z (by decide)) dX3_set_58 ?_
  refine V.aload_n (pc := 61) hG dX3_set_61 rfl 0 rfl ?_
  refine V.iconst (pc := 62) hG dX3_set_62 ?_
  refine V.putI (pc := 63) (ci := 5) (k := 12) (M := 13) (T := TX3) (o := o0) (kz := 12) hG ho0 ho0.n (by decide) hin_X3 rfl (by decide) (by decide) rfl kw_318 rfl tyX3 tyX3_ok nmX3 rfl (ty := tyX3 12) (tyX3_ok 12 (by decide)) (nar_z (by decide)) (fit_z (by decide)) dX3_set_63 ?_
  exact fin dX3_set_66 ((okI_st ((okI_st ((okI_st ((okI_st ((okI_st ((okI_st ((okI_st ((okI_st ((okI_st ((okI_st ((okI_st ((okI_st hi hp2)) hp3)) hp4)) ((sR_l rfl)))) ((sR_l rfl)))) ((sR_l rfl)))) ((sR_l rfl)))) ((sR_l rfl)))) ((sR_l rfl)))) ((sR_l rfl)))) ((sR_l rfl)))) ((sR_l rfl)))) ((Wf.source hw ho0 ho1)) h
set_option maxRecDepth 100000 in
set_option maxHeartbeats 4000000 in
theorem sm_X0_append (l : Launch) (Δ : Wd) {i r : MI} {o1 : Int} {p2 : Int} {p3 : Int} {p4 : Int} (ho1 : stm o1) (hp2 : sR p2) (hp3 : sR p3) (hp4 : sR p4) {Q : Int → MI → MI → Prop} (hi : okI i) (hw : Wf r) (h : wp_X0_append o1 p2 p3 p4 i r Q) : Met l yX0_append (Cond.code yX0_append cX0_append 6 (some .int) :: gW) (sRm 1 24) (sPc Δ [.ref (sA Δ 67), .ref (sA Δ o1), .int (sJ p2), .int (sJ p3), .int (sJ p4)] i r) (sQi Δ (Q)) 0 0 (sFr Δ) := by
  refine Ct.i (ty := .int) (by decide) rfl (Nat.le_of_ble_eq_true rfl) (fun Γ Q0 hG fin => ?_)
  have hG : okG Γ Δ l (sRm 1 24) cX0_append "Schedulary$Body" 6 := hG
  show V Γ Δ 504 false i r 0 0 Q0 0 [(0, .ref (sA Δ 67)), (1, .ref (sA Δ o1)), (2, .int (sJ p2)), (3, .int (sJ p3)), (4, .int (sJ p4))] []
  refine V.aload_n (pc := 0) hG dX0_append_0 rfl 0 rfl ?_
  refine V.getI (pc := 1) (ci := 2) (k := 4) (M := 5) (T := TX0) (o := 67) (kz := 4) hG a_67 a_67.n (by decide) hin_X0 rfl (by decide) (by decide) rfl kw_363 rfl dX0_append_1 ?_
  refine V.bipush (pc := 4) hG dX0_append_4 (by decide) ?_
  refine V.mmin (pc := 6) hG ((hi _ _)) ((sR_l rfl)) kw_645 kw_646 kw_121 kw_min ⟨Nat.le_of_ble_eq_true rfl, Nat.le_of_ble_eq_true rfl, Nat.le_of_ble_eq_true rfl, Nat.le_of_ble_eq_true rfl⟩ dX0_append_6 ?_
  refine V.istore (pc := 9) (lv' := [(5, .int (sJ (min (i 67 4) 95))), (0, .ref (sA Δ 67)), (1, .ref (sA Δ o1)), (2, .int (sJ p2)), (3, .int (sJ p3)), (4, .int (sJ p4))]) hG dX0_append_9 (by decide) rfl ?_
  refine V.aload_n (pc := 11) hG dX0_append_11 rfl 1 rfl ?_
  refine V.getR (x := 68) (pc := 12) (ci := 2) (k := 0) (M := 5) (T := TX0) (o := 67) (kz := 0) hG a_67 a_67.n (by decide) hin_X0 rfl (by decide) (by decide) rfl kw_349 rfl ((hw).1 (67, 0, 68) (by decide)) (by decide) dX0_append_12 ?_
  refine V.iload (pc := 15) hG dX0_append_15 0 rfl ?_
  obtain ⟨g1, h⟩ := h
  refine V.aald (pc := 17) 6 (z := 96) (o := 68) (x := min (i 67 4) 95) (y := 72 + min (i 67 4) 95) hG a_68 a_68.n (by decide) ((sR_min ((hi _ _)) ((sR_l rfl)))) g1 (hw.2.1 (68, 96, 72) (by decide) _ g1.1 g1.2) (by omega) dX0_append_17 ?_
  refine V.aload_n (pc := 18) hG dX0_append_18 rfl 2 rfl ?_
  refine V.iload_n (pc := 19) hG dX0_append_19 rfl 3 rfl ?_
  refine V.iload_n (pc := 20) hG dX0_append_20 rfl 4 rfl ?_
  refine V.iload (pc := 21) hG dX0_append_21 5 rfl ?_
  refine V.callVNv (pc := 23) (As := [.ref (sA Δ o1), .int (sJ p2), .int (sJ p3), .int (sJ p4)]) (stk := []) hG (sm_X3_set l Δ ((node_o g1.1 g1.2)) ho1 hp2 hp3 hp4 hi hw h) mY_X3_set kw_648 kw_650 kw_20 (node_o g1.1 g1.2) (by decide) (q := (RX3, TX3, 13)) rfl rfl ⟨Nat.le_of_ble_eq_true rfl, Nat.le_of_ble_eq_true rfl, Nat.le_of_ble_eq_true rfl, Nat.le_of_ble_eq_true rfl⟩ rfl (Nat.le_of_ble_eq_true rfl) dX0_append_23 rfl (fun i3 r4 hi6 hw7 hq8 => ?_)
  have h := hq8
  refine V.aload_n (pc := 26) hG dX0_append_26 rfl 1 rfl ?_
  refine V.getR (x := 71) (pc := 27) (ci := 2) (k := 3) (M := 5) (T := TX0) (o := 67) (kz := 3) hG a_67 a_67.n (by decide) hin_X0 rfl (by decide) (by decide) rfl kw_361 rfl ((hw7).1 (67, 3, 71) (by decide)) (by decide) dX0_append_27 ?_
  refine V.iload (pc := 30) hG dX0_append_30 5 rfl ?_
  refine V.dup2 (pc := 32) hG dX0_append_32 rfl rfl ?_
  obtain ⟨g9, h⟩ := h
  refine V.iald (pc := 33) (z := 7) (o := 71) hG a_71 a_71.n hp4 g9 dX0_append_33 ?_
  refine V.iconst (pc := 34) hG dX0_append_34 ?_
  refine V.iadd (pc := 35) hG dX0_append_35 ?_
  obtain ⟨g10, h⟩ := h
  refine V.iast (pc := 36) (z := 7) (o := 71) hG a_71 a_71.n hp4 g10 dX0_append_36 ?_
  refine V.aload_n (pc := 37) hG dX0_append_37 rfl 1 rfl ?_
  refine V.iload (pc := 38) hG dX0_append_38 0 rfl ?_
  refine V.iconst (pc := 40) hG dX0_append_40 ?_
  refine V.iadd (pc := 41) hG dX0_append_41 ?_
  refine V.putI (pc := 42) (ci := 2) (k := 4) (M := 5) (T := TX0) (o := 67) (kz := 4) hG a_67 a_67.n (by decide) hin_X0 rfl (by decide) (by decide) rfl kw_363 rfl tyX0 tyX0_ok nmX0 rfl (ty := tyX0 4) (tyX0_ok 4 (by decide)) rfl rfl dX0_append_42 ?_
  refine V.iload (pc := 45) hG dX0_append_45 0 rfl ?_
  exact fin dX0_append_47 ((sR_min ((hi _ _)) ((sR_l rfl)))) rfl ((okI_st ((okI_st hi6 ((sR_wr _)))) ((sR_wr _)))) hw7 h
set_option maxRecDepth 100000 in
set_option maxHeartbeats 4000000 in
theorem sm_X8_placeOf (l : Launch) (Δ : Wd) {i r : MI} {o0 : Int} {p1 : Int} {p2 : Int} (ho0 : stm o0) (hp1 : sR p1) (hp2 : sR p2) {Q : Int → Prop} (hi : okI i) (hw : Wf r) (h : wp_X8_placeOf o0 p1 p2 i r Q) : Met l yX8_placeOf (Cond.code yX8_placeOf cX8_placeOf 3 (some .int) :: gW) (sRm 0 0) (sPc Δ [.ref (sA Δ o0), .int (sJ p1), .int (sJ p2)] i r) (sQi Δ (fun x i' r' => i = i' ∧ r = r' ∧ Q x)) 0 0 (sFr Δ) := by
  refine Ct.i (ty := .int) (by decide) rfl (Nat.le_of_ble_eq_true rfl) (fun Γ Q0 hG fin => ?_)
  have hG : okG Γ Δ l (sRm 0 0) cX8_placeOf "Schedulary$Statement" 3 := hG
  show V Γ Δ 504 false i r 0 0 Q0 0 [(0, .ref (sA Δ o0)), (1, .int (sJ p1)), (2, .int (sJ p2))] []
  have jn26 : ∀ (k0j26 : Int), sR k0j26 → s26_X8_placeOf k0j26 i r Q → V Γ Δ 504 false i r 0 0 Q0 26 [] [.int (sJ k0j26)] := by
    intro k0j26 hk0j26 h
    exact fin dX8_placeOf_26 hk0j26 rfl hi hw ⟨rfl, rfl, h⟩
  refine V.aload_n (pc := 0) hG dX8_placeOf_0 rfl 0 rfl ?_
  refine V.getR (x := o0 + 3) (pc := 1) (ci := 10) (k := 2) (M := 4) (T := TX8) (o := o0) (kz := 2) hG ho0.o ho0.o.n (by decide) hin_X8 rfl (by decide) (by decide) rfl kw_184 rfl ((hw.2.2.1 _ ho0).2.2) (by have := (ho0).1; omega) dX8_placeOf_1 ?_
  refine V.iload_n (pc := 4) hG dX8_placeOf_4 rfl 1 rfl ?_
  obtain ⟨g1, h⟩ := h
  refine V.zald (pc := 5) (z := 3) (o := o0 + 3) hG ho0.t ho0.t.n hp1 g1 dX8_placeOf_5 ?_
  obtain ⟨t3, f4⟩ := h
  refine V.if_eq (pc := 6) (tgt := 20) hG ((hi _ _)) dX8_placeOf_6 (by decide) (fun c2 => ?_) (fun c2 => ?_)
  · have h := t3 c2
    clear t3 f4
    refine V.aload_n (pc := 20) hG dX8_placeOf_20 rfl 0 rfl ?_
    refine V.getR (x := o0 + 2) (pc := 21) (ci := 10) (k := 1) (M := 4) (T := TX8) (o := o0) (kz := 1) hG ho0.o ho0.o.n (by decide) hin_X8 rfl (by decide) (by decide) rfl kw_181 rfl ((hw.2.2.1 _ ho0).2.1) (by have := (ho0).1; omega) dX8_placeOf_21 ?_
    refine V.iload_n (pc := 24) hG dX8_placeOf_24 rfl 1 rfl ?_
    obtain ⟨g5, h⟩ := h
    refine V.iald (pc := 25) (z := 3) (o := o0 + 2) hG ho0.m ho0.m.n hp1 g5 dX8_placeOf_25 ?_
    refine V.pick [] rfl ?_
    exact jn26 (i (o0 + 2) p1) ((hi _ _)) h
  · have h := f4 c2
    clear t3 f4
    refine V.iload_n (pc := 9) hG dX8_placeOf_9 rfl 2 rfl ?_
    refine V.aload_n (pc := 10) hG dX8_placeOf_10 rfl 0 rfl ?_
    refine V.getR (x := o0 + 2) (pc := 11) (ci := 10) (k := 1) (M := 4) (T := TX8) (o := o0) (kz := 1) hG ho0.o ho0.o.n (by decide) hin_X8 rfl (by decide) (by decide) rfl kw_181 rfl ((hw.2.2.1 _ ho0).2.1) (by have := (ho0).1; omega) dX8_placeOf_11 ?_
    refine V.iload_n (pc := 14) hG dX8_placeOf_14 rfl 1 rfl ?_
    obtain ⟨g6, h⟩ := h
    refine V.iald (pc := 15) (z := 3) (o := o0 + 2) hG ho0.m ho0.m.n hp1 g6 dX8_placeOf_15 ?_
    refine V.iadd (pc := 16) hG dX8_placeOf_16 ?_
    refine V.goto (pc := 17) (tgt := 26) hG dX8_placeOf_17 (by decide) ?_
    refine V.pick [] rfl ?_
    exact jn26 (wr (p2 + i (o0 + 2) p1)) ((sR_wr _)) h
set_option maxRecDepth 100000 in
set_option maxHeartbeats 4000000 in
theorem sm_X3_setPlace (l : Launch) (Δ : Wd) {i r : MI} {o0 : Int} {p1 : Int} (ho0 : isA o0 (5, 0)) (hp1 : sR p1) {Q : MI → Prop} (hi : okI i) (hw : Wf r) (h : wp_X3_setPlace o0 p1 i r Q) : Met l yX3_setPlace (Cond.code yX3_setPlace cX3_setPlace 2 none :: gW) (sRm 1 22) (sPc Δ [.ref (sA Δ o0), .int (sJ p1)] i r) (sQv Δ (fun i' r' => r = r' ∧ Q i')) 0 0 (sFr Δ) := by
  refine Ct.v (by decide) rfl (Nat.le_of_ble_eq_true rfl) (fun Γ Q0 hG fin => ?_)
  have hG : okG Γ Δ l (sRm 1 22) cX3_setPlace "Schedulary$Node" 2 := hG
  show V Γ Δ 504 false i r 0 0 Q0 0 [(0, .ref (sA Δ o0)), (1, .int (sJ p1))] []
  refine V.aload_n (pc := 0) hG dX3_setPlace_0 rfl 0 rfl ?_
  refine V.aload_n (pc := 1) hG dX3_setPlace_1 rfl 0 rfl ?_
  obtain ⟨g1, h⟩ := h
  refine V.getR (x := r o0 0) (pc := 2) (ci := 5) (k := 0) (M := 13) (T := TX3) (o := o0) (kz := 0) hG ho0 ho0.n (by decide) hin_X3 rfl (by decide) (by decide) rfl kw_282 rfl rfl g1 dX3_setPlace_2 ?_
  refine V.iload_n (pc := 5) hG dX3_setPlace_5 rfl 1 rfl ?_
  refine V.aload_n (pc := 6) hG dX3_setPlace_6 rfl 0 rfl ?_
  refine V.getI (pc := 7) (ci := 5) (k := 2) (M := 13) (T := TX3) (o := o0) (kz := 2) hG ho0 ho0.n (by decide) hin_X3 rfl (by decide) (by decide) rfl kw_286 rfl dX3_setPlace_7 ?_
  refine V.callVNi (pc := 10) (As := [.int (sJ p1), .int (sJ (i o0 2))]) (stk := [.ref (sA Δ o0)]) hG (sm_X8_placeOf l Δ ((Wf.src hw ho0 g1)) hp1 ((hi _ _)) hi hw h) mY_X8_placeOf kw_656 kw_592 kw_7 ((Wf.src hw ho0 g1)).o (by decide) (q := (RX8, TX8, 4)) rfl rfl ⟨Nat.le_of_ble_eq_true rfl, Nat.le_of_ble_eq_true rfl, Nat.le_of_ble_eq_true rfl, Nat.le_of_ble_eq_true rfl⟩ rfl (Nat.le_of_ble_eq_true rfl) dX3_setPlace_10 rfl (fun v2 i3 r4 hv5 hi6 hw7 hq8 => ?_)
  obtain ⟨e12, e13, h⟩ := hq8
  subst e12
  subst e13
  refine V.putI (pc := 13) (ci := 5) (k := 9) (M := 13) (T := TX3) (o := o0) (kz := 9) hG ho0 ho0.n (by decide) hin_X3 rfl (by decide) (by decide) rfl kw_311 rfl tyX3 tyX3_ok nmX3 rfl (ty := tyX3 9) (tyX3_ok 9 (by decide)) rfl rfl dX3_setPlace_13 ?_
  refine V.aload_n (pc := 16) hG dX3_setPlace_16 rfl 0 rfl ?_
  refine V.aload_n (pc := 17) hG dX3_setPlace_17 rfl 0 rfl ?_
  obtain ⟨g9, h⟩ := h
  refine V.getR (x := r o0 0) (pc := 18) (ci := 5) (k := 0) (M := 13) (T := TX3) (o := o0) (kz := 0) hG ho0 ho0.n (by decide) hin_X3 rfl (by decide) (by decide) rfl kw_282 rfl rfl g9 dX3_setPlace_18 ?_
  refine V.getRN (x := r o0 0 + 3) (pc := 21) (ci := 10) (k := 2) (M := 4) (T := TX8) (o := r o0 0) (kz := 2) hG ((Wf.src hw ho0 g9)).o (((Wf.src hw ho0 g9)).o).n (by decide) hin_X8 rfl (by decide) (by decide) rfl kw_185 rfl ((hw.2.2.1 _ ((Wf.src hw ho0 g9))).2.2) (by have := ((Wf.src hw ho0 g9)).1; omega) dX3_setPlace_21 ?_
  refine V.iload_n (pc := 24) hG dX3_setPlace_24 rfl 1 rfl ?_
  obtain ⟨g10, h⟩ := h
  refine V.zald (pc := 25) (z := 3) (o := r o0 0 + 3) hG ((Wf.src hw ho0 g9)).t (((Wf.src hw ho0 g9)).t).n hp1 g10 dX3_setPlace_25 ?_
  obtain ⟨g11, h⟩ := h
  refine V.putI (pc := 26) (ci := 5) (k := 10) (M := 13) (T := TX3) (o := o0) (kz := 10) hG ho0 ho0.n (by decide) hin_X3 rfl (by decide) (by decide) rfl kw_313 rfl tyX3 tyX3_ok nmX3 rfl (ty := tyX3 10) (tyX3_ok 10 (by decide)) (nar_z g11) (fit_z g11) dX3_setPlace_26 ?_
  exact fin dX3_setPlace_29 ((okI_st ((okI_st hi hv5)) (((okI_st hi hv5) _ _)))) hw ⟨rfl, h⟩
set_option maxRecDepth 100000 in
set_option maxHeartbeats 4000000 in
theorem sm_X8_isReading (l : Launch) (Δ : Wd) {i r : MI} {o0 : Int} {p1 : Int} (ho0 : stm o0) (hp1 : sR p1) {Q : Int → Prop} (hi : okI i) (hw : Wf r) (h : wp_X8_isReading o0 p1 i r Q) : Met l yX8_isReading (Cond.code yX8_isReading cX8_isReading 2 (some .boolean) :: gW) (sRm 0 0) (sPc Δ [.ref (sA Δ o0), .int (sJ p1)] i r) (sQi Δ (fun x i' r' => i = i' ∧ r = r' ∧ Q x)) 0 0 (sFr Δ) := by
  refine Ct.i (ty := .boolean) (by decide) rfl (Nat.le_of_ble_eq_true rfl) (fun Γ Q0 hG fin => ?_)
  have hG : okG Γ Δ l (sRm 0 0) cX8_isReading "Schedulary$Statement" 2 := hG
  show V Γ Δ 504 false i r 0 0 Q0 0 [(0, .ref (sA Δ o0)), (1, .int (sJ p1))] []
  have jn25 : ∀ (k0j25 : Int), sR k0j25 → s25_X8_isReading k0j25 i r Q → V Γ Δ 504 false i r 0 0 Q0 25 [] [.int (sJ k0j25)] := by
    intro k0j25 hk0j25 h
    obtain ⟨g2, h⟩ := h
    exact fin dX8_isReading_25 hk0j25 (nar_z g2) hi hw ⟨rfl, rfl, h⟩
  have jn24 : s24_X8_isReading i r Q → V Γ Δ 504 false i r 0 0 Q0 24 [] [] := by
    intro h
    refine V.iconst (pc := 24) hG dX8_isReading_24 ?_
    exact jn25 0 ((sR_l rfl)) h
  refine V.aload_n (pc := 0) hG dX8_isReading_0 rfl 0 rfl ?_
  refine V.getR (x := o0 + 1) (pc := 1) (ci := 10) (k := 0) (M := 4) (T := TX8) (o := o0) (kz := 0) hG ho0.o ho0.o.n (by decide) hin_X8 rfl (by decide) (by decide) rfl kw_177 rfl ((hw.2.2.1 _ ho0).1) (by have := (ho0).1; omega) dX8_isReading_1 ?_
  refine V.iload_n (pc := 4) hG dX8_isReading_4 rfl 1 rfl ?_
  obtain ⟨g3, h⟩ := h
  refine V.iald (pc := 5) (z := 3) (o := o0 + 1) hG ho0.f ho0.f.n hp1 g3 dX8_isReading_5 ?_
  refine V.iconst (pc := 6) hG dX8_isReading_6 ?_
  obtain ⟨t5, f6⟩ := h
  refine V.icmp_lt (pc := 7) (tgt := 24) hG ((hi _ _)) ((sR_l rfl)) dX8_isReading_7 (by decide) (fun c4 => ?_) (fun c4 => ?_)
  · have h := t5 c4
    clear t5 f6
    refine V.pick [] rfl ?_
    exact jn24 h
  · have h := f6 c4
    clear t5 f6
    refine V.aload_n (pc := 10) hG dX8_isReading_10 rfl 0 rfl ?_
    refine V.getR (x := o0 + 1) (pc := 11) (ci := 10) (k := 0) (M := 4) (T := TX8) (o := o0) (kz := 0) hG ho0.o ho0.o.n (by decide) hin_X8 rfl (by decide) (by decide) rfl kw_177 rfl ((hw.2.2.1 _ ho0).1) (by have := (ho0).1; omega) dX8_isReading_11 ?_
    refine V.iload_n (pc := 14) hG dX8_isReading_14 rfl 1 rfl ?_
    obtain ⟨g7, h⟩ := h
    refine V.iald (pc := 15) (z := 3) (o := o0 + 1) hG ho0.f ho0.f.n hp1 g7 dX8_isReading_15 ?_
    refine V.iconst (pc := 16) hG dX8_isReading_16 ?_
    obtain ⟨t9, f10⟩ := h
    refine V.icmp_gt (pc := 17) (tgt := 24) hG ((hi _ _)) ((sR_l rfl)) dX8_isReading_17 (by decide) (fun c8 => ?_) (fun c8 => ?_)
    · have h := t9 c8
      clear t9 f10
      refine V.pick [] rfl ?_
      exact jn24 h
    · have h := f10 c8
      clear t9 f10
      refine V.iconst (pc := 20) hG dX8_isReading_20 ?_
      refine V.goto (pc := 21) (tgt := 25) hG dX8_isReading_21 (by decide) ?_
      refine V.pick [] rfl ?_
      exact jn25 1 ((sR_l rfl)) h
set_option maxRecDepth 100000 in
set_option maxHeartbeats 4000000 in
theorem sm_X0_appendReading (l : Launch) (Δ : Wd) {i r : MI} {o1 : Int} {p2 : Int} {p3 : Int} {p4 : Int} (ho1 : stm o1) (hp2 : sR p2) (hp3 : sR p3) (hp4 : sR p4) {Q : Int → MI → MI → Prop} (hi : okI i) (hw : Wf r) (h : wp_X0_appendReading o1 p2 p3 p4 i r Q) : Met l yX0_appendReading (Cond.code yX0_appendReading cX0_appendReading 6 (some .int) :: gW) (sRm 2 49) (sPc Δ [.ref (sA Δ 67), .ref (sA Δ o1), .int (sJ p2), .int (sJ p3), .int (sJ p4)] i r) (sQi Δ (Q)) 0 0 (sFr Δ) := by
  refine Ct.i (ty := .int) (by decide) rfl (Nat.le_of_ble_eq_true rfl) (fun Γ Q0 hG fin => ?_)
  have hG : okG Γ Δ l (sRm 2 49) cX0_appendReading "Schedulary$Body" 6 := hG
  show V Γ Δ 504 false i r 0 0 Q0 0 [(0, .ref (sA Δ 67)), (1, .ref (sA Δ o1)), (2, .int (sJ p2)), (3, .int (sJ p3)), (4, .int (sJ p4))] []
  refine V.aload_n (pc := 0) hG dX0_appendReading_0 rfl 1 rfl ?_
  refine V.iload (pc := 1) hG dX0_appendReading_1 4 rfl ?_
  refine V.callVNi (pc := 3) (As := [.int (sJ p4)]) (stk := []) hG (sm_X8_isReading l Δ ho1 hp4 hi hw h) mY_X8_isReading kw_637 kw_639 kw_18 ho1.o (by decide) (q := (RX8, TX8, 4)) rfl rfl ⟨Nat.le_of_ble_eq_true rfl, Nat.le_of_ble_eq_true rfl, Nat.le_of_ble_eq_true rfl, Nat.le_of_ble_eq_true rfl⟩ rfl (Nat.le_of_ble_eq_true rfl) dX0_appendReading_3 rfl (fun v1 i2 r3 hv4 hi5 hw6 hq7 => ?_)
  obtain ⟨e32, e33, h⟩ := hq7
  subst e32
  subst e33
  obtain ⟨f10, t9⟩ := h
  refine V.if_ne (pc := 6) (tgt := 11) hG hv4 dX0_appendReading_6 (by decide) (fun c8 => ?_) (fun c8 => ?_)
  · have h := t9 c8
    clear t9 f10
    refine V.aload_n (pc := 11) hG dX0_appendReading_11 rfl 0 rfl ?_
    refine V.aload_n (pc := 12) hG dX0_appendReading_12 rfl 1 rfl ?_
    refine V.iload_n (pc := 13) hG dX0_appendReading_13 rfl 2 rfl ?_
    refine V.iload_n (pc := 14) hG dX0_appendReading_14 rfl 3 rfl ?_
    refine V.aload_n (pc := 15) hG dX0_appendReading_15 rfl 1 rfl ?_
    refine V.getRN (x := o1 + 1) (pc := 16) (ci := 10) (k := 0) (M := 4) (T := TX8) (o := o1) (kz := 0) hG ho1.o ho1.o.n (by decide) hin_X8 rfl (by decide) (by decide) rfl kw_178 rfl ((hw.2.2.1 _ ho1).1) (by have := (ho1).1; omega) dX0_appendReading_16 ?_
    refine V.iload (pc := 19) hG dX0_appendReading_19 4 rfl ?_
    obtain ⟨g11, h⟩ := h
    refine V.iald (pc := 21) (z := 3) (o := o1 + 1) hG ho1.f ho1.f.n hp4 g11 dX0_appendReading_21 ?_
    refine V.callVi (pc := 22) (As := [.ref (sA Δ o1), .int (sJ p2), .int (sJ p3), .int (sJ (i (o1 + 1) p4))]) (stk := []) hG (sm_X0_append l Δ ho1 hp2 hp3 ((hi _ _)) hi hw h) mY_X0_append kw_641 kw_643 kw_19 a_67 (by decide) (q := (RX0, TX0, 5)) rfl rfl ⟨Nat.le_of_ble_eq_true rfl, Nat.le_of_ble_eq_true rfl, Nat.le_of_ble_eq_true rfl, Nat.le_of_ble_eq_true rfl⟩ rfl (Nat.le_of_ble_eq_true rfl) dX0_appendReading_22 rfl (fun v12 i13 r14 hv15 hi16 hw17 hq18 => ?_)
    have h := hq18
    refine V.istore (pc := 25) (lv' := [(5, .int (sJ v12)), (0, .ref (sA Δ 67)), (1, .ref (sA Δ o1)), (2, .int (sJ p2)), (3, .int (sJ p3)), (4, .int (sJ p4))]) hG dX0_appendReading_25 (by decide) rfl ?_
    refine V.aload_n (pc := 27) hG dX0_appendReading_27 rfl 1 rfl ?_
    refine V.getR (x := 68) (pc := 28) (ci := 2) (k := 0) (M := 5) (T := TX0) (o := 67) (kz := 0) hG a_67 a_67.n (by decide) hin_X0 rfl (by decide) (by decide) rfl kw_349 rfl ((hw17).1 (67, 0, 68) (by decide)) (by decide) dX0_appendReading_28 ?_
    refine V.iload (pc := 31) hG dX0_appendReading_31 0 rfl ?_
    obtain ⟨g19, h⟩ := h
    refine V.aald (pc := 33) 6 (z := 96) (o := 68) (x := v12) (y := 72 + v12) hG a_68 a_68.n (by decide) hv15 g19 (hw17.2.1 (68, 96, 72) (by decide) _ g19.1 g19.2) (by omega) dX0_appendReading_33 ?_
    refine V.iload (pc := 34) hG dX0_appendReading_34 5 rfl ?_
    refine V.putIN (pc := 36) (ci := 5) (k := 4) (M := 13) (T := TX3) (o := 72 + v12) (kz := 4) hG (node_o g19.1 g19.2) ((node_o g19.1 g19.2)).n (by decide) hin_X3 rfl (by decide) (by decide) rfl kw_295 rfl tyX3 tyX3_ok nmX3 rfl (ty := tyX3 4) (tyX3_ok 4 (by decide)) rfl rfl dX0_appendReading_36 ?_
    refine V.aload_n (pc := 39) hG dX0_appendReading_39 rfl 1 rfl ?_
    refine V.getR (x := 68) (pc := 40) (ci := 2) (k := 0) (M := 5) (T := TX0) (o := 67) (kz := 0) hG a_67 a_67.n (by decide) hin_X0 rfl (by decide) (by decide) rfl kw_349 rfl ((hw17).1 (67, 0, 68) (by decide)) (by decide) dX0_appendReading_40 ?_
    refine V.iload (pc := 43) hG dX0_appendReading_43 0 rfl ?_
    obtain ⟨g20, h⟩ := h
    refine V.aald (pc := 45) 6 (z := 96) (o := 68) (x := v12) (y := 72 + v12) hG a_68 a_68.n (by decide) hv15 g20 (hw17.2.1 (68, 96, 72) (by decide) _ g20.1 g20.2) (by omega) dX0_appendReading_45 ?_
    refine V.iload (pc := 46) hG dX0_appendReading_46 5 rfl ?_
    refine V.callVNv (pc := 48) (As := [.int (sJ p4)]) (stk := []) hG (sm_X3_setPlace l Δ ((node_o g20.1 g20.2)) hp4 ((okI_st hi16 hp4)) hw17 h) mY_X3_setPlace kw_652 kw_654 kw_21 (node_o g20.1 g20.2) (by decide) (q := (RX3, TX3, 13)) rfl rfl ⟨Nat.le_of_ble_eq_true rfl, Nat.le_of_ble_eq_true rfl, Nat.le_of_ble_eq_true rfl, Nat.le_of_ble_eq_true rfl⟩ rfl (Nat.le_of_ble_eq_true rfl) dX0_appendReading_48 rfl (fun i22 r23 hi25 hw26 hq27 => ?_)
    obtain ⟨e29, h⟩ := hq27
    subst e29
    refine V.iload (pc := 51) hG dX0_appendReading_51 0 rfl ?_
    exact fin dX0_appendReading_53 hv15 rfl hi25 hw17 h
  · have h := f10 c8
    clear t9 f10
    refine V.iconst (pc := 9) hG dX0_appendReading_9 ?_
    exact fin dX0_appendReading_10 ((sR_l rfl)) rfl hi hw h
set_option maxRecDepth 100000 in
set_option maxHeartbeats 4000000 in
theorem sm_X8_maskOfRegister (l : Launch) (Δ : Wd) {i r : MI} {o0 : Int} {p1 : Int} (ho0 : stm o0) (hp1 : sR p1) {Q : Int → Prop} (hi : okI i) (hw : Wf r) (h : wp_X8_maskOfRegister o0 p1 i r Q) : Met l yX8_maskOfRegister (Cond.code yX8_maskOfRegister cX8_maskOfRegister 2 (some .int) :: gW) (sRm 0 0) (sPc Δ [.ref (sA Δ o0), .int (sJ p1)] i r) (sQi Δ (fun x i' r' => i = i' ∧ r = r' ∧ Q x)) 0 0 (sFr Δ) := by
  refine Ct.i (ty := .int) (by decide) rfl (Nat.le_of_ble_eq_true rfl) (fun Γ Q0 hG fin => ?_)
  have hG : okG Γ Δ l (sRm 0 0) cX8_maskOfRegister "Schedulary$Statement" 2 := hG
  show V Γ Δ 504 false i r 0 0 Q0 0 [(0, .ref (sA Δ o0)), (1, .int (sJ p1))] []
  have jn21 : ∀ (k0j21 : Int), sR k0j21 → s21_X8_maskOfRegister k0j21 i r Q → V Γ Δ 504 false i r 0 0 Q0 21 [] [.int (sJ k0j21)] := by
    intro k0j21 hk0j21 h
    exact fin dX8_maskOfRegister_21 hk0j21 rfl hi hw ⟨rfl, rfl, h⟩
  refine V.aload_n (pc := 0) hG dX8_maskOfRegister_0 rfl 0 rfl ?_
  refine V.getR (x := o0 + 1) (pc := 1) (ci := 10) (k := 0) (M := 4) (T := TX8) (o := o0) (kz := 0) hG ho0.o ho0.o.n (by decide) hin_X8 rfl (by decide) (by decide) rfl kw_177 rfl ((hw.2.2.1 _ ho0).1) (by have := (ho0).1; omega) dX8_maskOfRegister_1 ?_
  refine V.iload_n (pc := 4) hG dX8_maskOfRegister_4 rfl 1 rfl ?_
  obtain ⟨g1, h⟩ := h
  refine V.iald (pc := 5) (z := 3) (o := o0 + 1) hG ho0.f ho0.f.n hp1 g1 dX8_maskOfRegister_5 ?_
  obtain ⟨f4, t3⟩ := h
  refine V.if_ne (pc := 6) (tgt := 20) hG ((hi _ _)) dX8_maskOfRegister_6 (by decide) (fun c2 => ?_) (fun c2 => ?_)
  · have h := t3 c2
    clear t3 f4
    refine V.iconst (pc := 20) hG dX8_maskOfRegister_20 ?_
    refine V.pick [] rfl ?_
    exact jn21 0 ((sR_l rfl)) h
  · have h := f4 c2
    clear t3 f4
    refine V.iconst (pc := 9) hG dX8_maskOfRegister_9 ?_
    refine V.aload_n (pc := 10) hG dX8_maskOfRegister_10 rfl 0 rfl ?_
    refine V.getR (x := o0 + 2) (pc := 11) (ci := 10) (k := 1) (M := 4) (T := TX8) (o := o0) (kz := 1) hG ho0.o ho0.o.n (by decide) hin_X8 rfl (by decide) (by decide) rfl kw_181 rfl ((hw.2.2.1 _ ho0).2.1) (by have := (ho0).1; omega) dX8_maskOfRegister_11 ?_
    refine V.iload_n (pc := 14) hG dX8_maskOfRegister_14 rfl 1 rfl ?_
    obtain ⟨g5, h⟩ := h
    refine V.iald (pc := 15) (z := 3) (o := o0 + 2) hG ho0.m ho0.m.n hp1 g5 dX8_maskOfRegister_15 ?_
    refine V.ishl (pc := 16) hG dX8_maskOfRegister_16 ?_
    refine V.goto (pc := 17) (tgt := 21) hG dX8_maskOfRegister_17 (by decide) ?_
    refine V.pick [] rfl ?_
    exact jn21 (iShl 1 (i (o0 + 2) p1)) ((sR_shl _ _)) h
set_option maxRecDepth 100000 in
set_option maxHeartbeats 4000000 in
theorem sm_X0_appendWriting (l : Launch) (Δ : Wd) {i r : MI} {o1 : Int} {p2 : Int} {p3 : Int} {p4 : Int} (ho1 : stm o1) (hp2 : sR p2) (hp3 : sR p3) (hp4 : sR p4) {Q : MI → MI → Prop} (hi : okI i) (hw : Wf r) (h : wp_X0_appendWriting o1 p2 p3 p4 i r Q) : Met l yX0_appendWriting (Cond.code yX0_appendWriting cX0_appendWriting 6 none :: gW) (sRm 2 49) (sPc Δ [.ref (sA Δ 67), .ref (sA Δ o1), .int (sJ p2), .int (sJ p3), .int (sJ p4)] i r) (sQv Δ (Q)) 0 0 (sFr Δ) := by
  refine Ct.v (by decide) rfl (Nat.le_of_ble_eq_true rfl) (fun Γ Q0 hG fin => ?_)
  have hG : okG Γ Δ l (sRm 2 49) cX0_appendWriting "Schedulary$Body" 6 := hG
  show V Γ Δ 504 false i r 0 0 Q0 0 [(0, .ref (sA Δ 67)), (1, .ref (sA Δ o1)), (2, .int (sJ p2)), (3, .int (sJ p3)), (4, .int (sJ p4))] []
  have jn71 : ∀ (k0j71 : Int) (k1j71 : Int) (ij71 : MI) (rj71 : MI), isA k0j71 (5, 0) → sR k1j71 → okI ij71 → Wf rj71 → s71_X0_appendWriting k0j71 k1j71 ij71 rj71 Q → V Γ Δ 504 false ij71 rj71 0 0 Q0 71 [] [.int (sJ k1j71), .ref (sA Δ k0j71)] := by
    intro k0j71 k1j71 ij71 rj71 hk0j71 hk1j71 hij71 hwj71 h
    refine V.putIN (pc := 71) (ci := 5) (k := 7) (M := 13) (T := TX3) (o := k0j71) (kz := 7) hG hk0j71 hk0j71.n (by decide) hin_X3 rfl (by decide) (by decide) rfl kw_306 rfl tyX3 tyX3_ok nmX3 rfl (ty := tyX3 7) (tyX3_ok 7 (by decide)) rfl rfl dX0_appendWriting_71 ?_
    exact fin dX0_appendWriting_74 ((okI_st hij71 hk1j71)) hwj71 h
  refine V.aload_n (pc := 0) hG dX0_appendWriting_0 rfl 0 rfl ?_
  refine V.aload_n (pc := 1) hG dX0_appendWriting_1 rfl 1 rfl ?_
  refine V.iload_n (pc := 2) hG dX0_appendWriting_2 rfl 2 rfl ?_
  refine V.iload_n (pc := 3) hG dX0_appendWriting_3 rfl 3 rfl ?_
  refine V.aload_n (pc := 4) hG dX0_appendWriting_4 rfl 1 rfl ?_
  refine V.getRN (x := o1 + 1) (pc := 5) (ci := 10) (k := 0) (M := 4) (T := TX8) (o := o1) (kz := 0) hG ho1.o ho1.o.n (by decide) hin_X8 rfl (by decide) (by decide) rfl kw_178 rfl ((hw.2.2.1 _ ho1).1) (by have := (ho1).1; omega) dX0_appendWriting_5 ?_
  refine V.iconst (pc := 8) hG dX0_appendWriting_8 ?_
  refine V.iald (pc := 9) (z := 3) (o := o1 + 1) hG ho1.f ho1.f.n ((sR_l rfl)) (by decide) dX0_appendWriting_9 ?_
  refine V.callVi (pc := 10) (As := [.ref (sA Δ o1), .int (sJ p2), .int (sJ p3), .int (sJ (i (o1 + 1) 0))]) (stk := []) hG (sm_X0_append l Δ ho1 hp2 hp3 ((hi _ _)) hi hw h) mY_X0_append kw_641 kw_643 kw_19 a_67 (by decide) (q := (RX0, TX0, 5)) rfl rfl ⟨Nat.le_of_ble_eq_true rfl, Nat.le_of_ble_eq_true rfl, Nat.le_of_ble_eq_true rfl, Nat.le_of_ble_eq_true rfl⟩ rfl (Nat.le_of_ble_eq_true rfl) dX0_appendWriting_10 rfl (fun v2 i3 r4 hv5 hi6 hw7 hq8 => ?_)
  have h := hq8
  refine V.istore (pc := 13) (lv' := [(5, .int (sJ v2)), (0, .ref (sA Δ 67)), (1, .ref (sA Δ o1)), (2, .int (sJ p2)), (3, .int (sJ p3)), (4, .int (sJ p4))]) hG dX0_appendWriting_13 (by decide) rfl ?_
  refine V.aload_n (pc := 15) hG dX0_appendWriting_15 rfl 1 rfl ?_
  refine V.getR (x := 68) (pc := 16) (ci := 2) (k := 0) (M := 5) (T := TX0) (o := 67) (kz := 0) hG a_67 a_67.n (by decide) hin_X0 rfl (by decide) (by decide) rfl kw_349 rfl ((hw7).1 (67, 0, 68) (by decide)) (by decide) dX0_appendWriting_16 ?_
  refine V.iload (pc := 19) hG dX0_appendWriting_19 0 rfl ?_
  obtain ⟨g9, h⟩ := h
  refine V.aald (pc := 21) 6 (z := 96) (o := 68) (x := v2) (y := 72 + v2) hG a_68 a_68.n (by decide) hv5 g9 (hw7.2.1 (68, 96, 72) (by decide) _ g9.1 g9.2) (by omega) dX0_appendWriting_21 ?_
  refine V.iconst (pc := 22) hG dX0_appendWriting_22 ?_
  refine V.putIN (pc := 23) (ci := 5) (k := 12) (M := 13) (T := TX3) (o := 72 + v2) (kz := 12) hG (node_o g9.1 g9.2) ((node_o g9.1 g9.2)).n (by decide) hin_X3 rfl (by decide) (by decide) rfl kw_320 rfl tyX3 tyX3_ok nmX3 rfl (ty := tyX3 12) (tyX3_ok 12 (by decide)) (nar_z (by decide)) (fit_z (by decide)) dX0_appendWriting_23 ?_
  refine V.aload_n (pc := 26) hG dX0_appendWriting_26 rfl 1 rfl ?_
  refine V.getR (x := 68) (pc := 27) (ci := 2) (k := 0) (M := 5) (T := TX0) (o := 67) (kz := 0) hG a_67 a_67.n (by decide) hin_X0 rfl (by decide) (by decide) rfl kw_349 rfl ((hw7).1 (67, 0, 68) (by decide)) (by decide) dX0_appendWriting_27 ?_
  refine V.iload (pc := 30) hG dX0_appendWriting_30 0 rfl ?_
  obtain ⟨g10, h⟩ := h
  refine V.aald (pc := 32) 6 (z := 96) (o := 68) (x := v2) (y := 72 + v2) hG a_68 a_68.n (by decide) hv5 g10 (hw7.2.1 (68, 96, 72) (by decide) _ g10.1 g10.2) (by omega) dX0_appendWriting_32 ?_
  refine V.iconst (pc := 33) hG dX0_appendWriting_33 ?_
  refine V.callVNv (pc := 34) (As := [.int (sJ 0)]) (stk := []) hG (sm_X3_setPlace l Δ ((node_o g10.1 g10.2)) ((sR_l rfl)) ((okI_st hi6 ((sR_l rfl)))) hw7 h) mY_X3_setPlace kw_652 kw_654 kw_21 (node_o g10.1 g10.2) (by decide) (q := (RX3, TX3, 13)) rfl rfl ⟨Nat.le_of_ble_eq_true rfl, Nat.le_of_ble_eq_true rfl, Nat.le_of_ble_eq_true rfl, Nat.le_of_ble_eq_true rfl⟩ rfl (Nat.le_of_ble_eq_true rfl) dX0_appendWriting_34 rfl (fun i12 r13 hi15 hw16 hq17 => ?_)
  obtain ⟨e33, h⟩ := hq17
  subst e33
  refine V.aload_n (pc := 37) hG dX0_appendWriting_37 rfl 1 rfl ?_
  refine V.getR (x := 68) (pc := 38) (ci := 2) (k := 0) (M := 5) (T := TX0) (o := 67) (kz := 0) hG a_67 a_67.n (by decide) hin_X0 rfl (by decide) (by decide) rfl kw_349 rfl ((hw7).1 (67, 0, 68) (by decide)) (by decide) dX0_appendWriting_38 ?_
  refine V.iload (pc := 41) hG dX0_appendWriting_41 0 rfl ?_
  obtain ⟨g18, h⟩ := h
  refine V.aald (pc := 43) 6 (z := 96) (o := 68) (x := v2) (y := 72 + v2) hG a_68 a_68.n (by decide) hv5 g18 (hw7.2.1 (68, 96, 72) (by decide) _ g18.1 g18.2) (by omega) dX0_appendWriting_43 ?_
  refine V.iload (pc := 44) hG dX0_appendWriting_44 5 rfl ?_
  refine V.putIN (pc := 46) (ci := 5) (k := 5) (M := 13) (T := TX3) (o := 72 + v2) (kz := 5) hG (node_o g18.1 g18.2) ((node_o g18.1 g18.2)).n (by decide) hin_X3 rfl (by decide) (by decide) rfl kw_298 rfl tyX3 tyX3_ok nmX3 rfl (ty := tyX3 5) (tyX3_ok 5 (by decide)) rfl rfl dX0_appendWriting_46 ?_
  refine V.aload_n (pc := 49) hG dX0_appendWriting_49 rfl 1 rfl ?_
  refine V.getR (x := 68) (pc := 50) (ci := 2) (k := 0) (M := 5) (T := TX0) (o := 67) (kz := 0) hG a_67 a_67.n (by decide) hin_X0 rfl (by decide) (by decide) rfl kw_349 rfl ((hw7).1 (67, 0, 68) (by decide)) (by decide) dX0_appendWriting_50 ?_
  refine V.iload (pc := 53) hG dX0_appendWriting_53 0 rfl ?_
  obtain ⟨g19, h⟩ := h
  refine V.aald (pc := 55) 6 (z := 96) (o := 68) (x := v2) (y := 72 + v2) hG a_68 a_68.n (by decide) hv5 g19 (hw7.2.1 (68, 96, 72) (by decide) _ g19.1 g19.2) (by omega) dX0_appendWriting_55 ?_
  refine V.iload (pc := 56) hG dX0_appendWriting_56 5 rfl ?_
  refine V.iconst (pc := 58) hG dX0_appendWriting_58 ?_
  obtain ⟨f22, t21⟩ := h
  refine V.icmp_ne (pc := 59) (tgt := 70) hG hp4 ((sR_l rfl)) dX0_appendWriting_59 (by decide) (fun c20 => ?_) (fun c20 => ?_)
  · have h := t21 c20
    clear t21 f22
    refine V.iconst (pc := 70) hG dX0_appendWriting_70 ?_
    refine V.pick [] rfl ?_
    exact jn71 (72 + v2) 0 (st i12 (72 + v2) 5 p4) r4 ((node_o g19.1 g19.2)) ((sR_l rfl)) ((okI_st hi15 hp4)) hw7 h
  · have h := f22 c20
    clear t21 f22
    refine V.aload_n (pc := 62) hG dX0_appendWriting_62 rfl 2 rfl ?_
    refine V.iconst (pc := 63) hG dX0_appendWriting_63 ?_
    refine V.callVNi (pc := 64) (As := [.int (sJ 1)]) (stk := [.ref (sA Δ (72 + v2))]) hG (sm_X8_maskOfRegister l Δ ho1 ((sR_l rfl)) ((okI_st hi15 hp4)) hw7 h) mY_X8_maskOfRegister kw_666 kw_668 kw_24 ho1.o (by decide) (q := (RX8, TX8, 4)) rfl rfl ⟨Nat.le_of_ble_eq_true rfl, Nat.le_of_ble_eq_true rfl, Nat.le_of_ble_eq_true rfl, Nat.le_of_ble_eq_true rfl⟩ rfl (Nat.le_of_ble_eq_true rfl) dX0_appendWriting_64 rfl (fun v23 i24 r25 hv26 hi27 hw28 hq29 => ?_)
    obtain ⟨e30, e31, h⟩ := hq29
    subst e30
    subst e31
    refine V.goto (pc := 67) (tgt := 71) hG dX0_appendWriting_67 (by decide) ?_
    refine V.pick [] rfl ?_
    exact jn71 (72 + v2) v23 (st i12 (72 + v2) 5 p4) r4 ((node_o g19.1 g19.2)) hv26 ((okI_st hi15 hp4)) hw7 h
set_option maxRecDepth 100000 in
set_option maxHeartbeats 4000000 in
theorem sm_X8_hasOperation (l : Launch) (Δ : Wd) {i r : MI} {o0 : Int} (ho0 : stm o0) {Q : Int → Prop} (hi : okI i) (hw : Wf r) (h : wp_X8_hasOperation o0 i r Q) : Met l yX8_hasOperation (Cond.code yX8_hasOperation cX8_hasOperation 1 (some .boolean) :: gW) (sRm 0 0) (sPc Δ [.ref (sA Δ o0)] i r) (sQi Δ (fun x i' r' => i = i' ∧ r = r' ∧ Q x)) 0 0 (sFr Δ) := by
  refine Ct.i (ty := .boolean) (by decide) rfl (Nat.le_of_ble_eq_true rfl) (fun Γ Q0 hG fin => ?_)
  have hG : okG Γ Δ l (sRm 0 0) cX8_hasOperation "Schedulary$Statement" 1 := hG
  show V Γ Δ 504 false i r 0 0 Q0 0 [(0, .ref (sA Δ o0))] []
  have jn14 : ∀ (k0j14 : Int), sR k0j14 → s14_X8_hasOperation k0j14 i r Q → V Γ Δ 504 false i r 0 0 Q0 14 [] [.int (sJ k0j14)] := by
    intro k0j14 hk0j14 h
    obtain ⟨g2, h⟩ := h
    exact fin dX8_hasOperation_14 hk0j14 (nar_z g2) hi hw ⟨rfl, rfl, h⟩
  refine V.aload_n (pc := 0) hG dX8_hasOperation_0 rfl 0 rfl ?_
  refine V.getI (pc := 1) (ci := 10) (k := 3) (M := 4) (T := TX8) (o := o0) (kz := 3) hG ho0.o ho0.o.n (by decide) hin_X8 rfl (by decide) (by decide) rfl kw_187 rfl dX8_hasOperation_1 ?_
  refine V.bipush (pc := 4) hG dX8_hasOperation_4 (by decide) ?_
  obtain ⟨t4, f5⟩ := h
  refine V.icmp_eq (pc := 6) (tgt := 13) hG ((hi _ _)) ((sR_l rfl)) dX8_hasOperation_6 (by decide) (fun c3 => ?_) (fun c3 => ?_)
  · have h := t4 c3
    clear t4 f5
    refine V.iconst (pc := 13) hG dX8_hasOperation_13 ?_
    refine V.pick [] rfl ?_
    exact jn14 0 ((sR_l rfl)) h
  · have h := f5 c3
    clear t4 f5
    refine V.iconst (pc := 9) hG dX8_hasOperation_9 ?_
    refine V.goto (pc := 10) (tgt := 14) hG dX8_hasOperation_10 (by decide) ?_
    refine V.pick [] rfl ?_
    exact jn14 1 ((sR_l rfl)) h
set_option maxRecDepth 100000 in
set_option maxHeartbeats 4000000 in
theorem sm_X8_kindOfOperation (l : Launch) (Δ : Wd) {i r : MI} {o0 : Int} (ho0 : stm o0) {Q : Int → Prop} (hi : okI i) (hw : Wf r) (h : wp_X8_kindOfOperation o0 i r Q) : Met l yX8_kindOfOperation (Cond.code yX8_kindOfOperation cX8_kindOfOperation 1 (some .int) :: gW) (sRm 0 0) (sPc Δ [.ref (sA Δ o0)] i r) (sQi Δ (fun x i' r' => i = i' ∧ r = r' ∧ Q x)) 0 0 (sFr Δ) := by
  refine Ct.i (ty := .int) (by decide) rfl (Nat.le_of_ble_eq_true rfl) (fun Γ Q0 hG fin => ?_)
  have hG : okG Γ Δ l (sRm 0 0) cX8_kindOfOperation "Schedulary$Statement" 1 := hG
  show V Γ Δ 504 false i r 0 0 Q0 0 [(0, .ref (sA Δ o0))] []
  have jn48 : s48_X8_kindOfOperation i r Q → V Γ Δ 504 false i r 0 0 Q0 48 [] [] := by
    intro h
    refine V.iconst (pc := 48) hG dX8_kindOfOperation_48 ?_
    exact fin dX8_kindOfOperation_49 ((sR_l rfl)) rfl hi hw ⟨rfl, rfl, h⟩
  refine V.aload_n (pc := 0) hG dX8_kindOfOperation_0 rfl 0 rfl ?_
  refine V.getI (pc := 1) (ci := 10) (k := 3) (M := 4) (T := TX8) (o := o0) (kz := 3) hG ho0.o ho0.o.n (by decide) hin_X8 rfl (by decide) (by decide) rfl kw_187 rfl dX8_kindOfOperation_1 ?_
  obtain ⟨t2, f3⟩ := h
  by_cases c1 : i o0 3 = 42
  · have h := t2 c1
    clear t2 f3
    refine V.lookup (pc := 4) (tgt := 50) (off := 46) hG ((hi _ _)) dX8_kindOfOperation_4 (by decide) (by rw [c1]; rfl) (by decide) ?_
    refine V.iconst (pc := 50) hG dX8_kindOfOperation_50 ?_
    exact fin dX8_kindOfOperation_51 ((sR_l rfl)) rfl hi hw ⟨rfl, rfl, h⟩
  · have h := f3 c1
    clear t2 f3
    obtain ⟨t5, f6⟩ := h
    by_cases c4 : i o0 3 = 43
    · have h := t5 c4
      clear t5 f6
      refine V.lookup (pc := 4) (tgt := 48) (off := 44) hG ((hi _ _)) dX8_kindOfOperation_4 (by decide) (by rw [c4]; rfl) (by decide) ?_
      refine V.pick [] rfl ?_
      exact jn48 h
    · have h := f6 c4
      clear t5 f6
      obtain ⟨t8, f9⟩ := h
      by_cases c7 : i o0 3 = 45
      · have h := t8 c7
        clear t8 f9
        refine V.lookup (pc := 4) (tgt := 48) (off := 44) hG ((hi _ _)) dX8_kindOfOperation_4 (by decide) (by rw [c7]; rfl) (by decide) ?_
        refine V.pick [] rfl ?_
        exact jn48 h
      · have h := f9 c7
        clear t8 f9
        obtain ⟨t11, f12⟩ := h
        by_cases c10 : i o0 3 = 108
        · have h := t11 c10
          clear t11 f12
          refine V.lookup (pc := 4) (tgt := 48) (off := 44) hG ((hi _ _)) dX8_kindOfOperation_4 (by decide) (by rw [c10]; rfl) (by decide) ?_
          refine V.pick [] rfl ?_
          exact jn48 h
        · have h := f12 c10
          clear t11 f12
          refine V.lookup (pc := 4) (tgt := 52) (off := 48) hG ((hi _ _)) dX8_kindOfOperation_4 (by decide) (by simp [Op.lookupswitch.offset, (show ¬ (42 : Int) = i o0 3 from fun q => c1 q.symm), (show ¬ (43 : Int) = i o0 3 from fun q => c4 q.symm), (show ¬ (45 : Int) = i o0 3 from fun q => c7 q.symm), (show ¬ (108 : Int) = i o0 3 from fun q => c10 q.symm)]) (by decide) ?_
          refine V.iconst (pc := 52) hG dX8_kindOfOperation_52 ?_
          exact fin dX8_kindOfOperation_53 ((sR_l rfl)) rfl hi hw ⟨rfl, rfl, h⟩
set_option maxRecDepth 100000 in
set_option maxHeartbeats 4000000 in
theorem sm_X8_registerIn (l : Launch) (Δ : Wd) {i r : MI} {o0 : Int} {p1 : Int} (ho0 : stm o0) (hp1 : sR p1) {Q : Int → Prop} (hi : okI i) (hw : Wf r) (h : wp_X8_registerIn o0 p1 i r Q) : Met l yX8_registerIn (Cond.code yX8_registerIn cX8_registerIn 2 (some .int) :: gW) (sRm 0 0) (sPc Δ [.ref (sA Δ o0), .int (sJ p1)] i r) (sQi Δ (fun x i' r' => i = i' ∧ r = r' ∧ Q x)) 0 0 (sFr Δ) := by
  refine Ct.i (ty := .int) (by decide) rfl (Nat.le_of_ble_eq_true rfl) (fun Γ Q0 hG fin => ?_)
  have hG : okG Γ Δ l (sRm 0 0) cX8_registerIn "Schedulary$Statement" 2 := hG
  show V Γ Δ 504 false i r 0 0 Q0 0 [(0, .ref (sA Δ o0)), (1, .int (sJ p1))] []
  have jn19 : ∀ (k0j19 : Int), sR k0j19 → s19_X8_registerIn k0j19 i r Q → V Γ Δ 504 false i r 0 0 Q0 19 [] [.int (sJ k0j19)] := by
    intro k0j19 hk0j19 h
    exact fin dX8_registerIn_19 hk0j19 rfl hi hw ⟨rfl, rfl, h⟩
  refine V.aload_n (pc := 0) hG dX8_registerIn_0 rfl 0 rfl ?_
  refine V.getR (x := o0 + 1) (pc := 1) (ci := 10) (k := 0) (M := 4) (T := TX8) (o := o0) (kz := 0) hG ho0.o ho0.o.n (by decide) hin_X8 rfl (by decide) (by decide) rfl kw_177 rfl ((hw.2.2.1 _ ho0).1) (by have := (ho0).1; omega) dX8_registerIn_1 ?_
  refine V.iload_n (pc := 4) hG dX8_registerIn_4 rfl 1 rfl ?_
  obtain ⟨g1, h⟩ := h
  refine V.iald (pc := 5) (z := 3) (o := o0 + 1) hG ho0.f ho0.f.n hp1 g1 dX8_registerIn_5 ?_
  obtain ⟨f4, t3⟩ := h
  refine V.if_ne (pc := 6) (tgt := 18) hG ((hi _ _)) dX8_registerIn_6 (by decide) (fun c2 => ?_) (fun c2 => ?_)
  · have h := t3 c2
    clear t3 f4
    refine V.iconst (pc := 18) hG dX8_registerIn_18 ?_
    refine V.pick [] rfl ?_
    exact jn19 (-1) ((sR_l rfl)) h
  · have h := f4 c2
    clear t3 f4
    refine V.aload_n (pc := 9) hG dX8_registerIn_9 rfl 0 rfl ?_
    refine V.getR (x := o0 + 2) (pc := 10) (ci := 10) (k := 1) (M := 4) (T := TX8) (o := o0) (kz := 1) hG ho0.o ho0.o.n (by decide) hin_X8 rfl (by decide) (by decide) rfl kw_181 rfl ((hw.2.2.1 _ ho0).2.1) (by have := (ho0).1; omega) dX8_registerIn_10 ?_
    refine V.iload_n (pc := 13) hG dX8_registerIn_13 rfl 1 rfl ?_
    obtain ⟨g5, h⟩ := h
    refine V.iald (pc := 14) (z := 3) (o := o0 + 2) hG ho0.m ho0.m.n hp1 g5 dX8_registerIn_14 ?_
    refine V.goto (pc := 15) (tgt := 19) hG dX8_registerIn_15 (by decide) ?_
    refine V.pick [] rfl ?_
    exact jn19 (i (o0 + 2) p1) ((hi _ _)) h
set_option maxRecDepth 100000 in
set_option maxHeartbeats 4000000 in
theorem sm_X0_numberOne (l : Launch) (Δ : Wd) {i r : MI} {o1 : Int} {p2 : Int} {p3 : Int} (ho1 : stm o1) (hp2 : sR p2) (hp3 : sR p3) {Q : MI → MI → Prop} (hi : okI i) (hw : Wf r) (h : wp_X0_numberOne o1 p2 p3 i r Q) : Met l yX0_numberOne (Cond.code yX0_numberOne cX0_numberOne 8 none :: gW) (sRm 3 74) (sPc Δ [.ref (sA Δ 67), .ref (sA Δ o1), .int (sJ p2), .int (sJ p3)] i r) (sQv Δ (Q)) 0 0 (sFr Δ) := by
  refine Ct.v (by decide) rfl (Nat.le_of_ble_eq_true rfl) (fun Γ Q0 hG fin => ?_)
  have hG : okG Γ Δ l (sRm 3 74) cX0_numberOne "Schedulary$Body" 8 := hG
  show V Γ Δ 504 false i r 0 0 Q0 0 [(0, .ref (sA Δ 67)), (1, .ref (sA Δ o1)), (2, .int (sJ p2)), (3, .int (sJ p3))] []
  have jn183 : ∀  (ij183 : MI) (rj183 : MI), okI ij183 → Wf rj183 → s183_X0_numberOne ij183 rj183 Q → V Γ Δ 504 false ij183 rj183 0 0 Q0 183 [] [] := by
    intro ij183 rj183 hij183 hwj183 h
    exact fin dX0_numberOne_183 hij183 hwj183 h
  have jn147 : ∀ (x6j147 : Int) (x7j147 : Int) (ij147 : MI) (rj147 : MI), sR x6j147 → sR x7j147 → okI ij147 → Wf rj147 → s147_X0_numberOne o1 p2 p3 x6j147 x7j147 ij147 rj147 Q → V Γ Δ 504 false ij147 rj147 0 0 Q0 147 [(0, .ref (sA Δ 67)), (1, .ref (sA Δ o1)), (2, .int (sJ p2)), (3, .int (sJ p3)), (6, .int (sJ x6j147)), (7, .int (sJ x7j147))] [] := by
    intro x6j147 x7j147 ij147 rj147 hx6j147 hx7j147 hij147 hwj147 h
    refine V.iload (pc := 147) hG dX0_numberOne_147 4 rfl ?_
    refine V.iconst (pc := 149) hG dX0_numberOne_149 ?_
    obtain ⟨f19, t18⟩ := h
    refine V.icmp_ne (pc := 150) (tgt := 165) hG hx6j147 ((sR_l rfl)) dX0_numberOne_150 (by decide) (fun c17 => ?_) (fun c17 => ?_)
    · have h := t18 c17
      clear t18 f19
      refine V.iload (pc := 165) hG dX0_numberOne_165 5 rfl ?_
      refine V.iconst (pc := 167) hG dX0_numberOne_167 ?_
      obtain ⟨t21, f22⟩ := h
      refine V.icmp_eq (pc := 168) (tgt := 183) hG hx7j147 ((sR_l rfl)) dX0_numberOne_168 (by decide) (fun c20 => ?_) (fun c20 => ?_)
      · have h := t21 c20
        clear t21 f22
        refine V.pick [] rfl ?_
        exact jn183 ij147 rj147 hij147 hwj147 h
      · have h := f22 c20
        clear t21 f22
        refine V.aload_n (pc := 171) hG dX0_numberOne_171 rfl 0 rfl ?_
        refine V.getR (x := 68) (pc := 172) (ci := 2) (k := 0) (M := 5) (T := TX0) (o := 67) (kz := 0) hG a_67 a_67.n (by decide) hin_X0 rfl (by decide) (by decide) rfl kw_349 rfl ((hwj147).1 (67, 0, 68) (by decide)) (by decide) dX0_numberOne_172 ?_
        refine V.iload (pc := 175) hG dX0_numberOne_175 5 rfl ?_
        obtain ⟨g23, h⟩ := h
        refine V.aald (pc := 177) 6 (z := 96) (o := 68) (x := x7j147) (y := 72 + x7j147) hG a_68 a_68.n (by decide) hx7j147 g23 (hwj147.2.1 (68, 96, 72) (by decide) _ g23.1 g23.2) (by omega) dX0_numberOne_177 ?_
        refine V.iload (pc := 178) hG dX0_numberOne_178 4 rfl ?_
        refine V.putIN (pc := 180) (ci := 5) (k := 8) (M := 13) (T := TX3) (o := 72 + x7j147) (kz := 8) hG (node_o g23.1 g23.2) ((node_o g23.1 g23.2)).n (by decide) hin_X3 rfl (by decide) (by decide) rfl kw_308 rfl tyX3 tyX3_ok nmX3 rfl (ty := tyX3 8) (tyX3_ok 8 (by decide)) rfl rfl dX0_numberOne_180 ?_
        refine V.pick [] rfl ?_
        exact jn183 (st ij147 (72 + x7j147) 8 x6j147) rj147 ((okI_st hij147 hx6j147)) hwj147 h
    · have h := f19 c17
      clear t18 f19
      refine V.aload_n (pc := 153) hG dX0_numberOne_153 rfl 0 rfl ?_
      refine V.aload_n (pc := 154) hG dX0_numberOne_154 rfl 1 rfl ?_
      refine V.iload_n (pc := 155) hG dX0_numberOne_155 rfl 2 rfl ?_
      refine V.iload_n (pc := 156) hG dX0_numberOne_156 rfl 3 rfl ?_
      refine V.iload (pc := 157) hG dX0_numberOne_157 5 rfl ?_
      refine V.callVv (pc := 159) (As := [.ref (sA Δ o1), .int (sJ p2), .int (sJ p3), .int (sJ x7j147)]) (stk := []) hG (sm_X0_appendWriting l Δ ho1 hp2 hp3 hx7j147 hij147 hwj147 h) mY_X0_appendWriting kw_670 kw_672 kw_25 a_67 (by decide) (q := (RX0, TX0, 5)) rfl rfl ⟨Nat.le_of_ble_eq_true rfl, Nat.le_of_ble_eq_true rfl, Nat.le_of_ble_eq_true rfl, Nat.le_of_ble_eq_true rfl⟩ rfl (Nat.le_of_ble_eq_true rfl) dX0_numberOne_159 rfl (fun i25 r26 hi28 hw29 hq30 => ?_)
      have h := hq30
      refine V.goto (pc := 162) (tgt := 183) hG dX0_numberOne_162 (by decide) ?_
      refine V.pick [] rfl ?_
      exact jn183 i25 r26 hi28 hw29 h
  refine V.aload_n (pc := 0) hG dX0_numberOne_0 rfl 0 rfl ?_
  refine V.aload_n (pc := 1) hG dX0_numberOne_1 rfl 1 rfl ?_
  refine V.iload_n (pc := 2) hG dX0_numberOne_2 rfl 2 rfl ?_
  refine V.iload_n (pc := 3) hG dX0_numberOne_3 rfl 3 rfl ?_
  refine V.iconst (pc := 4) hG dX0_numberOne_4 ?_
  refine V.callVi (pc := 5) (As := [.ref (sA Δ o1), .int (sJ p2), .int (sJ p3), .int (sJ 1)]) (stk := []) hG (sm_X0_appendReading l Δ ho1 hp2 hp3 ((sR_l rfl)) hi hw h) mY_X0_appendReading kw_633 kw_635 kw_17 a_67 (by decide) (q := (RX0, TX0, 5)) rfl rfl ⟨Nat.le_of_ble_eq_true rfl, Nat.le_of_ble_eq_true rfl, Nat.le_of_ble_eq_true rfl, Nat.le_of_ble_eq_true rfl⟩ rfl (Nat.le_of_ble_eq_true rfl) dX0_numberOne_5 rfl (fun v33 i34 r35 hv36 hi37 hw38 hq39 => ?_)
  have h := hq39
  refine V.istore (pc := 8) (lv' := [(4, .int (sJ v33)), (0, .ref (sA Δ 67)), (1, .ref (sA Δ o1)), (2, .int (sJ p2)), (3, .int (sJ p3))]) hG dX0_numberOne_8 (by decide) rfl ?_
  refine V.aload_n (pc := 10) hG dX0_numberOne_10 rfl 1 rfl ?_
  refine V.aload_n (pc := 11) hG dX0_numberOne_11 rfl 2 rfl ?_
  refine V.iload_n (pc := 12) hG dX0_numberOne_12 rfl 3 rfl ?_
  refine V.iload_n (pc := 13) hG dX0_numberOne_13 rfl 4 rfl ?_
  refine V.iconst (pc := 14) hG dX0_numberOne_14 ?_
  refine V.callVi (pc := 15) (As := [.ref (sA Δ o1), .int (sJ p2), .int (sJ p3), .int (sJ 2)]) (stk := []) hG (sm_X0_appendReading l Δ ho1 hp2 hp3 ((sR_l rfl)) hi37 hw38 h) mY_X0_appendReading kw_633 kw_635 kw_17 a_67 (by decide) (q := (RX0, TX0, 5)) rfl rfl ⟨Nat.le_of_ble_eq_true rfl, Nat.le_of_ble_eq_true rfl, Nat.le_of_ble_eq_true rfl, Nat.le_of_ble_eq_true rfl⟩ rfl (Nat.le_of_ble_eq_true rfl) dX0_numberOne_15 rfl (fun v40 i41 r42 hv43 hi44 hw45 hq46 => ?_)
  have h := hq46
  refine V.istore (pc := 18) (lv' := [(5, .int (sJ v40)), (4, .int (sJ v33)), (0, .ref (sA Δ 67)), (1, .ref (sA Δ o1)), (2, .int (sJ p2)), (3, .int (sJ p3))]) hG dX0_numberOne_18 (by decide) rfl ?_
  refine V.aload_n (pc := 20) hG dX0_numberOne_20 rfl 3 rfl ?_
  refine V.iconst (pc := 21) hG dX0_numberOne_21 ?_
  refine V.callVNi (pc := 22) (As := [.int (sJ 0)]) (stk := []) hG (sm_X8_registerIn l Δ ho1 ((sR_l rfl)) hi44 hw45 h) mY_X8_registerIn kw_657 kw_659 kw_22 ho1.o (by decide) (q := (RX8, TX8, 4)) rfl rfl ⟨Nat.le_of_ble_eq_true rfl, Nat.le_of_ble_eq_true rfl, Nat.le_of_ble_eq_true rfl, Nat.le_of_ble_eq_true rfl⟩ rfl (Nat.le_of_ble_eq_true rfl) dX0_numberOne_22 rfl (fun v47 i48 r49 hv50 hi51 hw52 hq53 => ?_)
  obtain ⟨e131, e132, h⟩ := hq53
  subst e131
  subst e132
  refine V.istore (pc := 25) (lv' := [(6, .int (sJ v47)), (5, .int (sJ v40)), (4, .int (sJ v33)), (0, .ref (sA Δ 67)), (1, .ref (sA Δ o1)), (2, .int (sJ p2)), (3, .int (sJ p3))]) hG dX0_numberOne_25 (by decide) rfl ?_
  refine V.iload (pc := 27) hG dX0_numberOne_27 2 rfl ?_
  refine V.istore (pc := 29) (lv' := [(7, .int (sJ v33)), (6, .int (sJ v47)), (5, .int (sJ v40)), (4, .int (sJ v33)), (0, .ref (sA Δ 67)), (1, .ref (sA Δ o1)), (2, .int (sJ p2)), (3, .int (sJ p3))]) hG dX0_numberOne_29 (by decide) rfl ?_
  refine V.aload_n (pc := 31) hG dX0_numberOne_31 rfl 5 rfl ?_
  refine V.callVNi (pc := 32) (As := []) (stk := []) hG (sm_X8_hasOperation l Δ ho1 hi44 hw45 h) mY_X8_hasOperation kw_661 kw_603 kw_9 ho1.o (by decide) (q := (RX8, TX8, 4)) rfl rfl ⟨Nat.le_of_ble_eq_true rfl, Nat.le_of_ble_eq_true rfl, Nat.le_of_ble_eq_true rfl, Nat.le_of_ble_eq_true rfl⟩ rfl (Nat.le_of_ble_eq_true rfl) dX0_numberOne_32 rfl (fun v54 i55 r56 hv57 hi58 hw59 hq60 => ?_)
  obtain ⟨e129, e130, h⟩ := hq60
  subst e129
  subst e130
  obtain ⟨t62, f63⟩ := h
  refine V.if_eq (pc := 35) (tgt := 110) hG hv57 dX0_numberOne_35 (by decide) (fun c61 => ?_) (fun c61 => ?_)
  · have h := t62 c61
    clear t62 f63
    refine V.iload (pc := 110) hG dX0_numberOne_110 3 rfl ?_
    refine V.iconst (pc := 112) hG dX0_numberOne_112 ?_
    obtain ⟨f66, t65⟩ := h
    refine V.icmp_ne (pc := 113) (tgt := 147) hG hv36 ((sR_l rfl)) dX0_numberOne_113 (by decide) (fun c64 => ?_) (fun c64 => ?_)
    · have h := t65 c64
      clear t65 f66
      refine V.pick [4, 5, 6, 7, 1, 0] rfl ?_
      exact jn147 v47 v33 i41 r42 hv50 hv36 hi44 hw45 h
    · have h := f66 c64
      clear t65 f66
      refine V.iload (pc := 116) hG dX0_numberOne_116 1 rfl ?_
      refine V.iconst (pc := 118) hG dX0_numberOne_118 ?_
      obtain ⟨t68, f69⟩ := h
      refine V.icmp_eq (pc := 119) (tgt := 147) hG hv50 ((sR_l rfl)) dX0_numberOne_119 (by decide) (fun c67 => ?_) (fun c67 => ?_)
      · have h := t68 c67
        clear t68 f69
        refine V.pick [4, 5, 6, 7, 1, 0] rfl ?_
        exact jn147 v47 v33 i41 r42 hv50 hv36 hi44 hw45 h
      · have h := f69 c67
        clear t68 f69
        refine V.aload_n (pc := 122) hG dX0_numberOne_122 rfl 4 rfl ?_
        refine V.aload_n (pc := 123) hG dX0_numberOne_123 rfl 5 rfl ?_
        refine V.iload_n (pc := 124) hG dX0_numberOne_124 rfl 6 rfl ?_
        refine V.iload_n (pc := 125) hG dX0_numberOne_125 rfl 7 rfl ?_
        refine V.iconst (pc := 126) hG dX0_numberOne_126 ?_
        refine V.callVi (pc := 127) (As := [.ref (sA Δ o1), .int (sJ p2), .int (sJ p3), .int (sJ 2)]) (stk := []) hG (sm_X0_append l Δ ho1 hp2 hp3 ((sR_l rfl)) hi44 hw45 h) mY_X0_append kw_641 kw_643 kw_19 a_67 (by decide) (q := (RX0, TX0, 5)) rfl rfl ⟨Nat.le_of_ble_eq_true rfl, Nat.le_of_ble_eq_true rfl, Nat.le_of_ble_eq_true rfl, Nat.le_of_ble_eq_true rfl⟩ rfl (Nat.le_of_ble_eq_true rfl) dX0_numberOne_127 rfl (fun v70 i71 r72 hv73 hi74 hw75 hq76 => ?_)
        have h := hq76
        refine V.istore (pc := 130) (lv' := [(7, .int (sJ v70)), (6, .int (sJ v47)), (5, .int (sJ v40)), (4, .int (sJ v33)), (0, .ref (sA Δ 67)), (1, .ref (sA Δ o1)), (2, .int (sJ p2)), (3, .int (sJ p3))]) hG dX0_numberOne_130 (by decide) rfl ?_
        refine V.aload_n (pc := 132) hG dX0_numberOne_132 rfl 4 rfl ?_
        refine V.getR (x := 68) (pc := 133) (ci := 2) (k := 0) (M := 5) (T := TX0) (o := 67) (kz := 0) hG a_67 a_67.n (by decide) hin_X0 rfl (by decide) (by decide) rfl kw_349 rfl ((hw75).1 (67, 0, 68) (by decide)) (by decide) dX0_numberOne_133 ?_
        refine V.iload (pc := 136) hG dX0_numberOne_136 0 rfl ?_
        obtain ⟨g77, h⟩ := h
        refine V.aald (pc := 138) 6 (z := 96) (o := 68) (x := v70) (y := 72 + v70) hG a_68 a_68.n (by decide) hv73 g77 (hw75.2.1 (68, 96, 72) (by decide) _ g77.1 g77.2) (by omega) dX0_numberOne_138 ?_
        refine V.aload_n (pc := 139) hG dX0_numberOne_139 rfl 5 rfl ?_
        refine V.iconst (pc := 140) hG dX0_numberOne_140 ?_
        refine V.callVNi (pc := 141) (As := [.int (sJ 1)]) (stk := [.ref (sA Δ (72 + v70))]) hG (sm_X8_maskOfRegister l Δ ho1 ((sR_l rfl)) hi74 hw75 h) mY_X8_maskOfRegister kw_666 kw_668 kw_24 ho1.o (by decide) (q := (RX8, TX8, 4)) rfl rfl ⟨Nat.le_of_ble_eq_true rfl, Nat.le_of_ble_eq_true rfl, Nat.le_of_ble_eq_true rfl, Nat.le_of_ble_eq_true rfl⟩ rfl (Nat.le_of_ble_eq_true rfl) dX0_numberOne_141 rfl (fun v78 i79 r80 hv81 hi82 hw83 hq84 => ?_)
        obtain ⟨e85, e86, h⟩ := hq84
        subst e85
        subst e86
        refine V.putIN (pc := 144) (ci := 5) (k := 7) (M := 13) (T := TX3) (o := 72 + v70) (kz := 7) hG (node_o g77.1 g77.2) ((node_o g77.1 g77.2)).n (by decide) hin_X3 rfl (by decide) (by decide) rfl kw_306 rfl tyX3 tyX3_ok nmX3 rfl (ty := tyX3 7) (tyX3_ok 7 (by decide)) rfl rfl dX0_numberOne_144 ?_
        refine V.pick [4, 5, 6, 7, 1, 0] rfl ?_
        exact jn147 v47 v70 (st i71 (72 + v70) 7 v78) r72 hv50 hv73 ((okI_st hi74 hv81)) hw75 h
  · have h := f63 c61
    clear t62 f63
    refine V.aload_n (pc := 38) hG dX0_numberOne_38 rfl 4 rfl ?_
    refine V.aload_n (pc := 39) hG dX0_numberOne_39 rfl 5 rfl ?_
    refine V.iload_n (pc := 40) hG dX0_numberOne_40 rfl 6 rfl ?_
    refine V.iload_n (pc := 41) hG dX0_numberOne_41 rfl 7 rfl ?_
    refine V.aload_n (pc := 42) hG dX0_numberOne_42 rfl 5 rfl ?_
    refine V.callVNi (pc := 43) (As := []) (stk := [.int (sJ p3), .int (sJ p2), .ref (sA Δ o1), .ref (sA Δ 67)]) hG (sm_X8_kindOfOperation l Δ ho1 hi44 hw45 h) mY_X8_kindOfOperation kw_662 kw_664 kw_23 ho1.o (by decide) (q := (RX8, TX8, 4)) rfl rfl ⟨Nat.le_of_ble_eq_true rfl, Nat.le_of_ble_eq_true rfl, Nat.le_of_ble_eq_true rfl, Nat.le_of_ble_eq_true rfl⟩ rfl (Nat.le_of_ble_eq_true rfl) dX0_numberOne_43 rfl (fun v89 i90 r91 hv92 hi93 hw94 hq95 => ?_)
    obtain ⟨e127, e128, h⟩ := hq95
    subst e127
    subst e128
    refine V.callVi (pc := 46) (As := [.ref (sA Δ o1), .int (sJ p2), .int (sJ p3), .int (sJ v89)]) (stk := []) hG (sm_X0_append l Δ ho1 hp2 hp3 hv92 hi44 hw45 h) mY_X0_append kw_641 kw_643 kw_19 a_67 (by decide) (q := (RX0, TX0, 5)) rfl rfl ⟨Nat.le_of_ble_eq_true rfl, Nat.le_of_ble_eq_true rfl, Nat.le_of_ble_eq_true rfl, Nat.le_of_ble_eq_true rfl⟩ rfl (Nat.le_of_ble_eq_true rfl) dX0_numberOne_46 rfl (fun v96 i97 r98 hv99 hi100 hw101 hq102 => ?_)
    have h := hq102
    refine V.istore (pc := 49) (lv' := [(7, .int (sJ v96)), (6, .int (sJ v47)), (5, .int (sJ v40)), (4, .int (sJ v33)), (0, .ref (sA Δ 67)), (1, .ref (sA Δ o1)), (2, .int (sJ p2)), (3, .int (sJ p3))]) hG dX0_numberOne_49 (by decide) rfl ?_
    refine V.aload_n (pc := 51) hG dX0_numberOne_51 rfl 4 rfl ?_
    refine V.getR (x := 68) (pc := 52) (ci := 2) (k := 0) (M := 5) (T := TX0) (o := 67) (kz := 0) hG a_67 a_67.n (by decide) hin_X0 rfl (by decide) (by decide) rfl kw_349 rfl ((hw101).1 (67, 0, 68) (by decide)) (by decide) dX0_numberOne_52 ?_
    refine V.iload (pc := 55) hG dX0_numberOne_55 0 rfl ?_
    obtain ⟨g103, h⟩ := h
    refine V.aald (pc := 57) 6 (z := 96) (o := 68) (x := v96) (y := 72 + v96) hG a_68 a_68.n (by decide) hv99 g103 (hw101.2.1 (68, 96, 72) (by decide) _ g103.1 g103.2) (by omega) dX0_numberOne_57 ?_
    refine V.iconst (pc := 58) hG dX0_numberOne_58 ?_
    refine V.putIN (pc := 59) (ci := 5) (k := 11) (M := 13) (T := TX3) (o := 72 + v96) (kz := 11) hG (node_o g103.1 g103.2) ((node_o g103.1 g103.2)).n (by decide) hin_X3 rfl (by decide) (by decide) rfl kw_316 rfl tyX3 tyX3_ok nmX3 rfl (ty := tyX3 11) (tyX3_ok 11 (by decide)) (nar_z (by decide)) (fit_z (by decide)) dX0_numberOne_59 ?_
    refine V.aload_n (pc := 62) hG dX0_numberOne_62 rfl 4 rfl ?_
    refine V.getR (x := 68) (pc := 63) (ci := 2) (k := 0) (M := 5) (T := TX0) (o := 67) (kz := 0) hG a_67 a_67.n (by decide) hin_X0 rfl (by decide) (by decide) rfl kw_349 rfl ((hw101).1 (67, 0, 68) (by decide)) (by decide) dX0_numberOne_63 ?_
    refine V.iload (pc := 66) hG dX0_numberOne_66 0 rfl ?_
    obtain ⟨g104, h⟩ := h
    refine V.aald (pc := 68) 6 (z := 96) (o := 68) (x := v96) (y := 72 + v96) hG a_68 a_68.n (by decide) hv99 g104 (hw101.2.1 (68, 96, 72) (by decide) _ g104.1 g104.2) (by omega) dX0_numberOne_68 ?_
    refine V.iload (pc := 69) hG dX0_numberOne_69 3 rfl ?_
    refine V.putIN (pc := 71) (ci := 5) (k := 5) (M := 13) (T := TX3) (o := 72 + v96) (kz := 5) hG (node_o g104.1 g104.2) ((node_o g104.1 g104.2)).n (by decide) hin_X3 rfl (by decide) (by decide) rfl kw_298 rfl tyX3 tyX3_ok nmX3 rfl (ty := tyX3 5) (tyX3_ok 5 (by decide)) rfl rfl dX0_numberOne_71 ?_
    refine V.aload_n (pc := 74) hG dX0_numberOne_74 rfl 4 rfl ?_
    refine V.getR (x := 68) (pc := 75) (ci := 2) (k := 0) (M := 5) (T := TX0) (o := 67) (kz := 0) hG a_67 a_67.n (by decide) hin_X0 rfl (by decide) (by decide) rfl kw_349 rfl ((hw101).1 (67, 0, 68) (by decide)) (by decide) dX0_numberOne_75 ?_
    refine V.iload (pc := 78) hG dX0_numberOne_78 0 rfl ?_
    obtain ⟨g105, h⟩ := h
    refine V.aald (pc := 80) 6 (z := 96) (o := 68) (x := v96) (y := 72 + v96) hG a_68 a_68.n (by decide) hv99 g105 (hw101.2.1 (68, 96, 72) (by decide) _ g105.1 g105.2) (by omega) dX0_numberOne_80 ?_
    refine V.iload (pc := 81) hG dX0_numberOne_81 2 rfl ?_
    refine V.putIN (pc := 83) (ci := 5) (k := 6) (M := 13) (T := TX3) (o := 72 + v96) (kz := 6) hG (node_o g105.1 g105.2) ((node_o g105.1 g105.2)).n (by decide) hin_X3 rfl (by decide) (by decide) rfl kw_302 rfl tyX3 tyX3_ok nmX3 rfl (ty := tyX3 6) (tyX3_ok 6 (by decide)) rfl rfl dX0_numberOne_83 ?_
    refine V.aload_n (pc := 86) hG dX0_numberOne_86 rfl 4 rfl ?_
    refine V.getR (x := 68) (pc := 87) (ci := 2) (k := 0) (M := 5) (T := TX0) (o := 67) (kz := 0) hG a_67 a_67.n (by decide) hin_X0 rfl (by decide) (by decide) rfl kw_349 rfl ((hw101).1 (67, 0, 68) (by decide)) (by decide) dX0_numberOne_87 ?_
    refine V.iload (pc := 90) hG dX0_numberOne_90 0 rfl ?_
    obtain ⟨g106, h⟩ := h
    refine V.aald (pc := 92) 6 (z := 96) (o := 68) (x := v96) (y := 72 + v96) hG a_68 a_68.n (by decide) hv99 g106 (hw101.2.1 (68, 96, 72) (by decide) _ g106.1 g106.2) (by omega) dX0_numberOne_92 ?_
    refine V.aload_n (pc := 93) hG dX0_numberOne_93 rfl 5 rfl ?_
    refine V.iconst (pc := 94) hG dX0_numberOne_94 ?_
    refine V.callVNi (pc := 95) (As := [.int (sJ 1)]) (stk := [.ref (sA Δ (72 + v96))]) hG (sm_X8_maskOfRegister l Δ ho1 ((sR_l rfl)) ((okI_st ((okI_st ((okI_st hi100 ((sR_l rfl)))) hv36)) hv43)) hw101 h) mY_X8_maskOfRegister kw_666 kw_668 kw_24 ho1.o (by decide) (q := (RX8, TX8, 4)) rfl rfl ⟨Nat.le_of_ble_eq_true rfl, Nat.le_of_ble_eq_true rfl, Nat.le_of_ble_eq_true rfl, Nat.le_of_ble_eq_true rfl⟩ rfl (Nat.le_of_ble_eq_true rfl) dX0_numberOne_95 rfl (fun v107 i108 r109 hv110 hi111 hw112 hq113 => ?_)
    obtain ⟨e123, e124, h⟩ := hq113
    subst e123
    subst e124
    refine V.aload_n (pc := 98) hG dX0_numberOne_98 rfl 5 rfl ?_
    refine V.iconst (pc := 99) hG dX0_numberOne_99 ?_
    refine V.callVNi (pc := 100) (As := [.int (sJ 2)]) (stk := [.int (sJ v107), .ref (sA Δ (72 + v96))]) hG (sm_X8_maskOfRegister l Δ ho1 ((sR_l rfl)) ((okI_st ((okI_st ((okI_st hi100 ((sR_l rfl)))) hv36)) hv43)) hw101 h) mY_X8_maskOfRegister kw_666 kw_668 kw_24 ho1.o (by decide) (q := (RX8, TX8, 4)) rfl rfl ⟨Nat.le_of_ble_eq_true rfl, Nat.le_of_ble_eq_true rfl, Nat.le_of_ble_eq_true rfl, Nat.le_of_ble_eq_true rfl⟩ rfl (Nat.le_of_ble_eq_true rfl) dX0_numberOne_100 rfl (fun v114 i115 r116 hv117 hi118 hw119 hq120 => ?_)
    obtain ⟨e121, e122, h⟩ := hq120
    subst e121
    subst e122
    refine V.ior (pc := 103) hG dX0_numberOne_103 ?_
    refine V.putIN (pc := 104) (ci := 5) (k := 7) (M := 13) (T := TX3) (o := 72 + v96) (kz := 7) hG (node_o g106.1 g106.2) ((node_o g106.1 g106.2)).n (by decide) hin_X3 rfl (by decide) (by decide) rfl kw_306 rfl tyX3 tyX3_ok nmX3 rfl (ty := tyX3 7) (tyX3_ok 7 (by decide)) rfl rfl dX0_numberOne_104 ?_
    refine V.goto (pc := 107) (tgt := 147) hG dX0_numberOne_107 (by decide) ?_
    refine V.pick [4, 5, 6, 7, 1, 0] rfl ?_
    exact jn147 v47 v96 (st (st (st (st i97 (72 + v96) 11 1) (72 + v96) 5 v33) (72 + v96) 6 v40) (72 + v96) 7 (iOr v107 v114)) r98 hv50 hv99 ((okI_st ((okI_st ((okI_st ((okI_st hi100 ((sR_l rfl)))) hv36)) hv43)) ((sR_or _ _)))) hw101 h
