set_option maxRecDepth 100000 in
set_option maxHeartbeats 4000000 in
theorem sm_X12_length (l : Launch) (Δ : Wd) {i r : MI}   {Q : Int → MI → Prop} (hi : okI i) (hw : Wf r) (h : wp_X12_length  i r Q) : Met l yX12_length (Cond.code yX12_length cX12_length 1 (some .int) :: gW) (sRm 6 140) (sPc Δ [.ref (sA Δ 504)] i r) (sQi Δ (fun x i' r' => r = r' ∧ Q x i')) 0 0 (sFr Δ) := by
  refine Ct.i (ty := .int) (by decide) rfl (Nat.le_of_ble_eq_true rfl) (fun Γ Q0 hG fin => ?_)
  have hG : okG Γ Δ l (sRm 6 140) cX12_length "SchedularyModel" 1 := hG
  show V Γ Δ 542 false i r 0 0 Q0 0 [(0, .ref (sA Δ 504))] []
  refine V.aload_n (pc := 0) hG dX12_length_0 rfl 0 rfl ?_
  refine V.iconst (pc := 1) hG dX12_length_1 ?_
  refine V.putI (pc := 2) (ci := 14) (k := 0) (M := 49) (T := TX12) (o := 504) (kz := 0) hG a_504 a_504.n (by decide) hin_X12 rfl (by decide) (by decide) rfl kw_1692 rfl tyX12 tyX12_ok nmX12 rfl (ty := tyX12 0) (tyX12_ok 0 (by decide)) rfl rfl dX12_length_2 ?_
  refine V.aload_n (pc := 5) hG dX12_length_5 rfl 0 rfl ?_
  refine V.callVv (pc := 6) (As := []) (stk := []) hG (sm_X12_list l Δ  ((okI_st hi ((sR_l rfl)))) hw h) mY_X12_list kw_2101 kw_2103 kw_138 a_504 (by decide) (q := (RX12, TX12, 49)) rfl rfl ⟨Nat.le_of_ble_eq_true rfl, Nat.le_of_ble_eq_true rfl, Nat.le_of_ble_eq_true rfl, Nat.le_of_ble_eq_true rfl⟩ rfl (Nat.le_of_ble_eq_true rfl) dX12_length_6 rfl (fun i2 r3 hi5 hw6 hq7 => ?_)
  obtain ⟨e9, h⟩ := hq7
  subst e9
  refine V.aload_n (pc := 9) hG dX12_length_9 rfl 0 rfl ?_
  refine V.getI (pc := 10) (ci := 14) (k := 48) (M := 49) (T := TX12) (o := 504) (kz := 48) hG a_504 a_504.n (by decide) hin_X12 rfl (by decide) (by decide) rfl kw_1740 rfl dX12_length_10 ?_
  exact fin dX12_length_13 ((hi5 _ _)) rfl hi5 hw ⟨rfl, h⟩
set_option maxRecDepth 100000 in
set_option maxHeartbeats 4000000 in
theorem sm_X12_inStep (l : Launch) (Δ : Wd) {i r : MI} {p1 : Int} (hp1 : sR p1) {Q : Int → MI → Prop} (hi : okI i) (hw : Wf r) (h : wp_X12_inStep p1 i r Q) : Met l yX12_inStep (Cond.code yX12_inStep cX12_inStep 4 (some .int) :: gW) (sRm 6 140) (sPc Δ [.ref (sA Δ 504), .int (sJ p1)] i r) (sQi Δ (fun x i' r' => r = r' ∧ Q x i')) 0 0 (sFr Δ) := by
  refine Ct.i (ty := .int) (by decide) rfl (Nat.le_of_ble_eq_true rfl) (fun Γ Q0 hG fin => ?_)
  have hG : okG Γ Δ l (sRm 6 140) cX12_inStep "SchedularyModel" 4 := hG
  show V Γ Δ 542 false i r 0 0 Q0 0 [(0, .ref (sA Δ 504)), (1, .int (sJ p1))] []
  refine V.aload_n (pc := 0) hG dX12_inStep_0 rfl 0 rfl ?_
  refine V.iconst (pc := 1) hG dX12_inStep_1 ?_
  refine V.putI (pc := 2) (ci := 14) (k := 0) (M := 49) (T := TX12) (o := 504) (kz := 0) hG a_504 a_504.n (by decide) hin_X12 rfl (by decide) (by decide) rfl kw_1692 rfl tyX12 tyX12_ok nmX12 rfl (ty := tyX12 0) (tyX12_ok 0 (by decide)) rfl rfl dX12_inStep_2 ?_
  refine V.aload_n (pc := 5) hG dX12_inStep_5 rfl 0 rfl ?_
  refine V.callVv (pc := 6) (As := []) (stk := []) hG (sm_X12_list l Δ  ((okI_st hi ((sR_l rfl)))) hw h) mY_X12_list kw_2101 kw_2103 kw_138 a_504 (by decide) (q := (RX12, TX12, 49)) rfl rfl ⟨Nat.le_of_ble_eq_true rfl, Nat.le_of_ble_eq_true rfl, Nat.le_of_ble_eq_true rfl, Nat.le_of_ble_eq_true rfl⟩ rfl (Nat.le_of_ble_eq_true rfl) dX12_inStep_6 rfl (fun i2 r3 hi5 hw6 hq7 => ?_)
  obtain ⟨e24, h⟩ := hq7
  subst e24
  refine V.iconst (pc := 9) hG dX12_inStep_9 ?_
  refine V.istore_n (pc := 10) (lv' := [(2, .int (sJ 0)), (0, .ref (sA Δ 504)), (1, .int (sJ p1))]) hG dX12_inStep_10 rfl (by decide) rfl ?_
  refine V.iconst (pc := 11) hG dX12_inStep_11 ?_
  refine V.istore_n (pc := 12) (lv' := [(3, .int (sJ 0)), (2, .int (sJ 0)), (0, .ref (sA Δ 504)), (1, .int (sJ p1))]) hG dX12_inStep_12 rfl (by decide) rfl ?_
  obtain ⟨n15, h⟩ := h
  have lp13 : ∀ (m13 : Nat) (x2_13 : Int) (x3_13 : Int), sR x2_13 → sR x3_13 → LoopP (b13_X12_inStep p1 i2 r Q) m13 (x2_13, x3_13) → V Γ Δ 542 false i2 r 0 0 Q0 13 [(0, .ref (sA Δ 504)), (1, .int (sJ p1)), (2, .int (sJ x2_13)), (3, .int (sJ x3_13))] [] := by
    intro m13
    induction m13 with
    | zero => intro x2_13 x3_13 hx2_13 hx3_13 h; exact h.elim
    | succ m13 ih13 =>
      intro x2_13 x3_13 hx2_13 hx3_13 h
      have h := LoopP_succ h
      have jn37 : ∀ (x3j37 : Int) (k0j37 : Int) (k1j37 : Int), sR x3j37 → sR k0j37 → sR k1j37 → s37_X12_inStep p1 x3j37 k0j37 k1j37 i2 r Q (LoopP (b13_X12_inStep p1 i2 r Q) m13) → V Γ Δ 542 false i2 r 0 0 Q0 37 [(0, .ref (sA Δ 504)), (1, .int (sJ p1)), (3, .int (sJ x3j37))] [.int (sJ k1j37), .int (sJ k0j37)] := by
        intro x3j37 k0j37 k1j37 hx3j37 hk0j37 hk1j37 h
        refine V.iadd (pc := 37) hG dX12_inStep_37 ?_
        refine V.istore_n (pc := 38) (lv' := [(2, .int (sJ (wr (k0j37 + k1j37)))), (0, .ref (sA Δ 504)), (1, .int (sJ p1)), (3, .int (sJ x3j37))]) hG dX12_inStep_38 rfl (by decide) rfl ?_
        refine V.iinc (pc := 39) (lv' := [(3, .int (sJ (wr (x3j37 + 1)))), (2, .int (sJ (wr (k0j37 + k1j37)))), (0, .ref (sA Δ 504)), (1, .int (sJ p1))]) hG dX12_inStep_39 3 rfl (by decide) rfl ?_
        refine V.goto (pc := 42) (tgt := 13) hG dX12_inStep_42 (by decide) ?_
        refine V.pick [2, 3, 1, 0] rfl ?_
        exact ih13 (wr (k0j37 + k1j37)) (wr (x3j37 + 1)) ((sR_wr _)) ((sR_wr _)) h
      refine V.iload_n (pc := 13) hG dX12_inStep_13 rfl 3 rfl ?_
      refine V.aload_n (pc := 14) hG dX12_inStep_14 rfl 0 rfl ?_
      refine V.getI (pc := 15) (ci := 14) (k := 21) (M := 49) (T := TX12) (o := 504) (kz := 21) hG a_504 a_504.n (by decide) hin_X12 rfl (by decide) (by decide) rfl kw_1713 rfl dX12_inStep_15 ?_
      obtain ⟨t17, f18⟩ := h
      refine V.icmp_ge (pc := 18) (tgt := 45) hG hx3_13 ((hi5 _ _)) dX12_inStep_18 (by decide) (fun c16 => ?_) (fun c16 => ?_)
      · have h := t17 c16
        clear t17 f18
        refine V.iload_n (pc := 45) hG dX12_inStep_45 rfl 2 rfl ?_
        exact fin dX12_inStep_46 hx2_13 rfl hi5 hw ⟨rfl, h⟩
      · have h := f18 c16
        clear t17 f18
        refine V.iload_n (pc := 21) hG dX12_inStep_21 rfl 2 rfl ?_
        refine V.aload_n (pc := 22) hG dX12_inStep_22 rfl 0 rfl ?_
        refine V.getR (x := 531) (pc := 23) (ci := 14) (k := 39) (M := 49) (T := TX12) (o := 504) (kz := 39) hG a_504 a_504.n (by decide) hin_X12 rfl (by decide) (by decide) rfl kw_1731 rfl ((hw).1 (504, 39, 531) (by decide)) (by decide) dX12_inStep_23 ?_
        refine V.iload_n (pc := 26) hG dX12_inStep_26 rfl 3 rfl ?_
        obtain ⟨g19, h⟩ := h
        refine V.iald (pc := 27) (z := 96) (o := 531) hG a_531 a_531.n hx3_13 g19 dX12_inStep_27 ?_
        refine V.iload_n (pc := 28) hG dX12_inStep_28 rfl 1 rfl ?_
        obtain ⟨f22, t21⟩ := h
        refine V.icmp_ne (pc := 29) (tgt := 36) hG ((hi5 _ _)) hp1 dX12_inStep_29 (by decide) (fun c20 => ?_) (fun c20 => ?_)
        · have h := t21 c20
          clear t21 f22
          refine V.iconst (pc := 36) hG dX12_inStep_36 ?_
          refine V.pick [0, 1, 3] rfl ?_
          exact jn37 x3_13 x2_13 0 hx3_13 hx2_13 ((sR_l rfl)) h
        · have h := f22 c20
          clear t21 f22
          refine V.iconst (pc := 32) hG dX12_inStep_32 ?_
          refine V.goto (pc := 33) (tgt := 37) hG dX12_inStep_33 (by decide) ?_
          refine V.pick [0, 1, 3] rfl ?_
          exact jn37 x3_13 x2_13 1 hx3_13 hx2_13 ((sR_l rfl)) h
  refine V.pick [2, 3, 1, 0] rfl ?_
  exact lp13 n15 0 0 ((sR_l rfl)) ((sR_l rfl)) h
set_option maxRecDepth 100000 in
set_option maxHeartbeats 4000000 in
theorem sm_X12_lastUse (l : Launch) (Δ : Wd) {i r : MI} {p1 : Int} (hp1 : sR p1) {Q : Int → Prop} (hi : okI i) (hw : Wf r) (h : wp_X12_lastUse p1 i r Q) : Met l yX12_lastUse (Cond.code yX12_lastUse cX12_lastUse 9 (some .int) :: gW) (sRm 1 13) (sPc Δ [.ref (sA Δ 504), .int (sJ p1)] i r) (sQi Δ (fun x i' r' => i = i' ∧ r = r' ∧ Q x)) 0 0 (sFr Δ) := by
  refine Ct.i (ty := .int) (by decide) rfl (Nat.le_of_ble_eq_true rfl) (fun Γ Q0 hG fin => ?_)
  have hG : okG Γ Δ l (sRm 1 13) cX12_lastUse "SchedularyModel" 9 := hG
  show V Γ Δ 542 false i r 0 0 Q0 0 [(0, .ref (sA Δ 504)), (1, .int (sJ p1))] []
  refine V.iconst (pc := 0) hG dX12_lastUse_0 ?_
  refine V.istore_n (pc := 1) (lv' := [(2, .int (sJ (-1))), (0, .ref (sA Δ 504)), (1, .int (sJ p1))]) hG dX12_lastUse_1 rfl (by decide) rfl ?_
  refine V.iconst (pc := 2) hG dX12_lastUse_2 ?_
  refine V.istore_n (pc := 3) (lv' := [(3, .int (sJ 0)), (2, .int (sJ (-1))), (0, .ref (sA Δ 504)), (1, .int (sJ p1))]) hG dX12_lastUse_3 rfl (by decide) rfl ?_
  obtain ⟨n79, h⟩ := h
  have lp4 : ∀ (m4 : Nat) (x2_4 : Int) (x3_4 : Int), sR x2_4 → sR x3_4 → LoopP (b4_X12_lastUse p1 i r Q) m4 (x2_4, x3_4) → V Γ Δ 542 false i r 0 0 Q0 4 [(0, .ref (sA Δ 504)), (1, .int (sJ p1)), (2, .int (sJ x2_4)), (3, .int (sJ x3_4))] [] := by
    intro m4
    induction m4 with
    | zero => intro x2_4 x3_4 hx2_4 hx3_4 h; exact h.elim
    | succ m4 ih4 =>
      intro x2_4 x3_4 hx2_4 hx3_4 h
      have h := LoopP_succ h
      have jn212 : ∀ (x3j212 : Int) (k0j212 : Int), sR x3j212 → sR k0j212 → s212_X12_lastUse p1 x3j212 k0j212 i r Q (LoopP (b4_X12_lastUse p1 i r Q) m4) → V Γ Δ 542 false i r 0 0 Q0 212 [(0, .ref (sA Δ 504)), (1, .int (sJ p1)), (3, .int (sJ x3j212))] [.int (sJ k0j212)] := by
        intro x3j212 k0j212 hx3j212 hk0j212 h
        refine V.istore_n (pc := 212) (lv' := [(2, .int (sJ k0j212)), (0, .ref (sA Δ 504)), (1, .int (sJ p1)), (3, .int (sJ x3j212))]) hG dX12_lastUse_212 rfl (by decide) rfl ?_
        refine V.iinc (pc := 213) (lv' := [(3, .int (sJ (wr (x3j212 + 1)))), (2, .int (sJ k0j212)), (0, .ref (sA Δ 504)), (1, .int (sJ p1))]) hG dX12_lastUse_213 3 rfl (by decide) rfl ?_
        refine V.goto (pc := 216) (tgt := 4) hG dX12_lastUse_216 (by decide) ?_
        refine V.pick [2, 3, 1, 0] rfl ?_
        exact ih4 k0j212 (wr (x3j212 + 1)) hk0j212 ((sR_wr _)) h
      have jn173 : ∀ (x2j173 : Int) (x3j173 : Int) (x7j173 : Int) (k0j173 : Int), sR x2j173 → sR x3j173 → sR x7j173 → sR k0j173 → s173_X12_lastUse p1 x2j173 x3j173 x7j173 k0j173 i r Q (LoopP (b4_X12_lastUse p1 i r Q) m4) → V Γ Δ 542 false i r 0 0 Q0 173 [(0, .ref (sA Δ 504)), (1, .int (sJ p1)), (2, .int (sJ x2j173)), (3, .int (sJ x3j173)), (7, .int (sJ x7j173))] [.int (sJ k0j173)] := by
        intro x2j173 x3j173 x7j173 k0j173 hx2j173 hx3j173 hx7j173 hk0j173 h
        refine V.istore (pc := 173) (lv' := [(8, .int (sJ k0j173)), (0, .ref (sA Δ 504)), (1, .int (sJ p1)), (2, .int (sJ x2j173)), (3, .int (sJ x3j173)), (7, .int (sJ x7j173))]) hG dX12_lastUse_173 (by decide) rfl ?_
        refine V.iload (pc := 175) hG dX12_lastUse_175 5 rfl ?_
        obtain ⟨t88, f89⟩ := h
        refine V.if_eq (pc := 177) (tgt := 193) hG hx7j173 dX12_lastUse_177 (by decide) (fun c87 => ?_) (fun c87 => ?_)
        · have h := t88 c87
          clear t88 f89
          refine V.iload (pc := 193) hG dX12_lastUse_193 0 rfl ?_
          obtain ⟨t91, f92⟩ := h
          refine V.if_eq (pc := 195) (tgt := 211) hG hk0j173 dX12_lastUse_195 (by decide) (fun c90 => ?_) (fun c90 => ?_)
          · have h := t91 c90
            clear t91 f92
            refine V.iload_n (pc := 211) hG dX12_lastUse_211 rfl 3 rfl ?_
            refine V.pick [1, 2, 4] rfl ?_
            exact jn212 x3j173 x2j173 hx3j173 hx2j173 h
          · have h := f92 c90
            clear t91 f92
            refine V.iload_n (pc := 198) hG dX12_lastUse_198 rfl 3 rfl ?_
            refine V.aload_n (pc := 199) hG dX12_lastUse_199 rfl 1 rfl ?_
            refine V.getI (pc := 200) (ci := 14) (k := 48) (M := 49) (T := TX12) (o := 504) (kz := 48) hG a_504 a_504.n (by decide) hin_X12 rfl (by decide) (by decide) rfl kw_1740 rfl dX12_lastUse_200 ?_
            refine V.iconst (pc := 203) hG dX12_lastUse_203 ?_
            refine V.isub (pc := 204) hG dX12_lastUse_204 ?_
            refine V.mmax (pc := 205) hG hx2j173 ((sR_wr _)) kw_1955 kw_680 kw_173 kw_max ⟨Nat.le_of_ble_eq_true rfl, Nat.le_of_ble_eq_true rfl, Nat.le_of_ble_eq_true rfl, Nat.le_of_ble_eq_true rfl⟩ dX12_lastUse_205 ?_
            refine V.goto (pc := 208) (tgt := 212) hG dX12_lastUse_208 (by decide) ?_
            refine V.pick [1, 2, 4] rfl ?_
            exact jn212 x3j173 (max x2j173 (wr (i 504 48 - 1))) hx3j173 ((sR_max hx2j173 ((sR_wr _)))) h
        · have h := f89 c87
          clear t88 f89
          refine V.iload_n (pc := 180) hG dX12_lastUse_180 rfl 3 rfl ?_
          refine V.aload_n (pc := 181) hG dX12_lastUse_181 rfl 1 rfl ?_
          refine V.getR (x := 531) (pc := 182) (ci := 14) (k := 39) (M := 49) (T := TX12) (o := 504) (kz := 39) hG a_504 a_504.n (by decide) hin_X12 rfl (by decide) (by decide) rfl kw_1731 rfl ((hw).1 (504, 39, 531) (by decide)) (by decide) dX12_lastUse_182 ?_
          refine V.iload_n (pc := 185) hG dX12_lastUse_185 rfl 4 rfl ?_
          obtain ⟨g93, h⟩ := h
          refine V.iald (pc := 186) (z := 96) (o := 531) hG a_531 a_531.n hx3j173 g93 dX12_lastUse_186 ?_
          refine V.mmax (pc := 187) hG hx2j173 ((hi _ _)) kw_1955 kw_680 kw_173 kw_max ⟨Nat.le_of_ble_eq_true rfl, Nat.le_of_ble_eq_true rfl, Nat.le_of_ble_eq_true rfl, Nat.le_of_ble_eq_true rfl⟩ dX12_lastUse_187 ?_
          refine V.goto (pc := 190) (tgt := 212) hG dX12_lastUse_190 (by decide) ?_
          refine V.pick [1, 2, 4] rfl ?_
          exact jn212 x3j173 (max x2j173 (i 531 x3j173)) hx3j173 ((sR_max hx2j173 ((hi _ _)))) h
      have jn172 : ∀ (x2j172 : Int) (x3j172 : Int) (x7j172 : Int), sR x2j172 → sR x3j172 → sR x7j172 → s172_X12_lastUse p1 x2j172 x3j172 x7j172 i r Q (LoopP (b4_X12_lastUse p1 i r Q) m4) → V Γ Δ 542 false i r 0 0 Q0 172 [(0, .ref (sA Δ 504)), (1, .int (sJ p1)), (2, .int (sJ x2j172)), (3, .int (sJ x3j172)), (7, .int (sJ x7j172))] [] := by
        intro x2j172 x3j172 x7j172 hx2j172 hx3j172 hx7j172 h
        refine V.iconst (pc := 172) hG dX12_lastUse_172 ?_
        exact jn173 x2j172 x3j172 x7j172 0 hx2j172 hx3j172 hx7j172 ((sR_l rfl)) h
      have jn149 : ∀ (x2j149 : Int) (x3j149 : Int) (x4j149 : Int) (x5j149 : Int) (x6j149 : Int) (k0j149 : Int), sR x2j149 → sR x3j149 → sR x4j149 → sR x5j149 → sR x6j149 → sR k0j149 → s149_X12_lastUse p1 x2j149 x3j149 x4j149 x5j149 x6j149 k0j149 i r Q (LoopP (b4_X12_lastUse p1 i r Q) m4) → V Γ Δ 542 false i r 0 0 Q0 149 [(0, .ref (sA Δ 504)), (1, .int (sJ p1)), (2, .int (sJ x2j149)), (3, .int (sJ x3j149)), (4, .int (sJ x4j149)), (5, .int (sJ x5j149)), (6, .int (sJ x6j149))] [.int (sJ k0j149)] := by
        intro x2j149 x3j149 x4j149 x5j149 x6j149 k0j149 hx2j149 hx3j149 hx4j149 hx5j149 hx6j149 hk0j149 h
        refine V.istore (pc := 149) (lv' := [(7, .int (sJ k0j149)), (0, .ref (sA Δ 504)), (1, .int (sJ p1)), (2, .int (sJ x2j149)), (3, .int (sJ x3j149)), (4, .int (sJ x4j149)), (5, .int (sJ x5j149)), (6, .int (sJ x6j149))]) hG dX12_lastUse_149 (by decide) rfl ?_
        refine V.iload (pc := 151) hG dX12_lastUse_151 5 rfl ?_
        obtain ⟨t104, f105⟩ := h
        refine V.if_eq (pc := 153) (tgt := 172) hG hx4j149 dX12_lastUse_153 (by decide) (fun c103 => ?_) (fun c103 => ?_)
        · have h := t104 c103
          clear t104 f105
          refine V.pick [1, 2, 3, 4, 0] rfl ?_
          exact jn172 x2j149 x3j149 k0j149 hx2j149 hx3j149 hk0j149 h
        · have h := f105 c103
          clear t104 f105
          refine V.iload (pc := 156) hG dX12_lastUse_156 6 rfl ?_
          refine V.iconst (pc := 158) hG dX12_lastUse_158 ?_
          obtain ⟨f108, t107⟩ := h
          refine V.icmp_ne (pc := 159) (tgt := 172) hG hx5j149 ((sR_l rfl)) dX12_lastUse_159 (by decide) (fun c106 => ?_) (fun c106 => ?_)
          · have h := t107 c106
            clear t107 f108
            refine V.pick [1, 2, 3, 4, 0] rfl ?_
            exact jn172 x2j149 x3j149 k0j149 hx2j149 hx3j149 hk0j149 h
          · have h := f108 c106
            clear t107 f108
            refine V.iload (pc := 162) hG dX12_lastUse_162 7 rfl ?_
            refine V.iload_n (pc := 164) hG dX12_lastUse_164 rfl 2 rfl ?_
            obtain ⟨f111, t110⟩ := h
            refine V.icmp_ne (pc := 165) (tgt := 172) hG hx6j149 hp1 dX12_lastUse_165 (by decide) (fun c109 => ?_) (fun c109 => ?_)
            · have h := t110 c109
              clear t110 f111
              refine V.pick [1, 2, 3, 4, 0] rfl ?_
              exact jn172 x2j149 x3j149 k0j149 hx2j149 hx3j149 hk0j149 h
            · have h := f111 c109
              clear t110 f111
              refine V.iconst (pc := 168) hG dX12_lastUse_168 ?_
              refine V.goto (pc := 169) (tgt := 173) hG dX12_lastUse_169 (by decide) ?_
              refine V.pick [1, 2, 3, 4, 0] rfl ?_
              exact jn173 x2j149 x3j149 k0j149 1 hx2j149 hx3j149 hk0j149 ((sR_l rfl)) h
      have jn148 : ∀ (x2j148 : Int) (x3j148 : Int) (x4j148 : Int) (x5j148 : Int) (x6j148 : Int), sR x2j148 → sR x3j148 → sR x4j148 → sR x5j148 → sR x6j148 → s148_X12_lastUse p1 x2j148 x3j148 x4j148 x5j148 x6j148 i r Q (LoopP (b4_X12_lastUse p1 i r Q) m4) → V Γ Δ 542 false i r 0 0 Q0 148 [(0, .ref (sA Δ 504)), (1, .int (sJ p1)), (2, .int (sJ x2j148)), (3, .int (sJ x3j148)), (4, .int (sJ x4j148)), (5, .int (sJ x5j148)), (6, .int (sJ x6j148))] [] := by
        intro x2j148 x3j148 x4j148 x5j148 x6j148 hx2j148 hx3j148 hx4j148 hx5j148 hx6j148 h
        refine V.iconst (pc := 148) hG dX12_lastUse_148 ?_
        exact jn149 x2j148 x3j148 x4j148 x5j148 x6j148 0 hx2j148 hx3j148 hx4j148 hx5j148 hx6j148 ((sR_l rfl)) h
      have jn133 : ∀ (x2j133 : Int) (x3j133 : Int) (x4j133 : Int) (x5j133 : Int) (x6j133 : Int), sR x2j133 → sR x3j133 → sR x4j133 → sR x5j133 → sR x6j133 → s133_X12_lastUse p1 x2j133 x3j133 x4j133 x5j133 x6j133 i r Q (LoopP (b4_X12_lastUse p1 i r Q) m4) → V Γ Δ 542 false i r 0 0 Q0 133 [(0, .ref (sA Δ 504)), (1, .int (sJ p1)), (2, .int (sJ x2j133)), (3, .int (sJ x3j133)), (4, .int (sJ x4j133)), (5, .int (sJ x5j133)), (6, .int (sJ x6j133))] [] := by
        intro x2j133 x3j133 x4j133 x5j133 x6j133 hx2j133 hx3j133 hx4j133 hx5j133 hx6j133 h
        refine V.iload (pc := 133) hG dX12_lastUse_133 4 rfl ?_
        obtain ⟨t119, f120⟩ := h
        refine V.if_eq (pc := 135) (tgt := 148) hG hx4j133 dX12_lastUse_135 (by decide) (fun c118 => ?_) (fun c118 => ?_)
        · have h := t119 c118
          clear t119 f120
          exact jn148 x2j133 x3j133 x4j133 x5j133 x6j133 hx2j133 hx3j133 hx4j133 hx5j133 hx6j133 h
        · have h := f120 c118
          clear t119 f120
          refine V.iload (pc := 138) hG dX12_lastUse_138 5 rfl ?_
          refine V.iload_n (pc := 140) hG dX12_lastUse_140 rfl 1 rfl ?_
          obtain ⟨f123, t122⟩ := h
          refine V.icmp_ne (pc := 141) (tgt := 148) hG hx5j133 hp1 dX12_lastUse_141 (by decide) (fun c121 => ?_) (fun c121 => ?_)
          · have h := t122 c121
            clear t122 f123
            exact jn148 x2j133 x3j133 x4j133 x5j133 x6j133 hx2j133 hx3j133 hx4j133 hx5j133 hx6j133 h
          · have h := f123 c121
            clear t122 f123
            refine V.iconst (pc := 144) hG dX12_lastUse_144 ?_
            refine V.goto (pc := 145) (tgt := 149) hG dX12_lastUse_145 (by decide) ?_
            exact jn149 x2j133 x3j133 x4j133 x5j133 x6j133 1 hx2j133 hx3j133 hx4j133 hx5j133 hx6j133 ((sR_l rfl)) h
      have jn46 : ∀ (x2j46 : Int) (x3j46 : Int) (k0j46 : Int), sR x2j46 → sR x3j46 → sR k0j46 → s46_X12_lastUse p1 x2j46 x3j46 k0j46 i r Q (LoopP (b4_X12_lastUse p1 i r Q) m4) → V Γ Δ 542 false i r 0 0 Q0 46 [(0, .ref (sA Δ 504)), (1, .int (sJ p1)), (2, .int (sJ x2j46)), (3, .int (sJ x3j46))] [.int (sJ k0j46)] := by
        intro x2j46 x3j46 k0j46 hx2j46 hx3j46 hk0j46 h
        refine V.istore (pc := 46) (lv' := [(4, .int (sJ k0j46)), (0, .ref (sA Δ 504)), (1, .int (sJ p1)), (2, .int (sJ x2j46)), (3, .int (sJ x3j46))]) hG dX12_lastUse_46 (by decide) rfl ?_
        refine V.iconst (pc := 48) hG dX12_lastUse_48 ?_
        refine V.istore (pc := 49) (lv' := [(5, .int (sJ (-1))), (4, .int (sJ k0j46)), (0, .ref (sA Δ 504)), (1, .int (sJ p1)), (2, .int (sJ x2j46)), (3, .int (sJ x3j46))]) hG dX12_lastUse_49 (by decide) rfl ?_
        refine V.iconst (pc := 51) hG dX12_lastUse_51 ?_
        refine V.istore (pc := 52) (lv' := [(6, .int (sJ (-1))), (5, .int (sJ (-1))), (4, .int (sJ k0j46)), (0, .ref (sA Δ 504)), (1, .int (sJ p1)), (2, .int (sJ x2j46)), (3, .int (sJ x3j46))]) hG dX12_lastUse_52 (by decide) rfl ?_
        refine V.iconst (pc := 54) hG dX12_lastUse_54 ?_
        refine V.istore (pc := 55) (lv' := [(7, .int (sJ 0)), (6, .int (sJ (-1))), (5, .int (sJ (-1))), (4, .int (sJ k0j46)), (0, .ref (sA Δ 504)), (1, .int (sJ p1)), (2, .int (sJ x2j46)), (3, .int (sJ x3j46))]) hG dX12_lastUse_55 (by decide) rfl ?_
        obtain ⟨n149, h⟩ := h
        have lp57 : ∀ (m57 : Nat) (x5_57 : Int) (x6_57 : Int) (x7_57 : Int), sR x5_57 → sR x6_57 → sR x7_57 → LoopP (b57_X12_lastUse p1 x2j46 x3j46 k0j46 i r Q (LoopP (b4_X12_lastUse p1 i r Q) m4)) m57 (x5_57, x6_57, x7_57) → V Γ Δ 542 false i r 0 0 Q0 57 [(0, .ref (sA Δ 504)), (1, .int (sJ p1)), (2, .int (sJ x2j46)), (3, .int (sJ x3j46)), (4, .int (sJ k0j46)), (5, .int (sJ x5_57)), (6, .int (sJ x6_57)), (7, .int (sJ x7_57))] [] := by
          intro m57
          induction m57 with
          | zero => intro x5_57 x6_57 x7_57 hx5_57 hx6_57 hx7_57 h; exact h.elim
          | succ m57 ih57 =>
            intro x5_57 x6_57 x7_57 hx5_57 hx6_57 hx7_57 h
            have h := LoopP_succ h
            have jn125 : ∀ (x5j125 : Int) (x7j125 : Int) (k0j125 : Int), sR x5j125 → sR x7j125 → sR k0j125 → s125_X12_lastUse p1 x2j46 x3j46 k0j46 x5j125 x7j125 k0j125 i r Q (LoopP (b4_X12_lastUse p1 i r Q) m4) (LoopP (b57_X12_lastUse p1 x2j46 x3j46 k0j46 i r Q (LoopP (b4_X12_lastUse p1 i r Q) m4)) m57) → V Γ Δ 542 false i r 0 0 Q0 125 [(0, .ref (sA Δ 504)), (1, .int (sJ p1)), (2, .int (sJ x2j46)), (3, .int (sJ x3j46)), (4, .int (sJ k0j46)), (5, .int (sJ x5j125)), (7, .int (sJ x7j125))] [.int (sJ k0j125)] := by
              intro x5j125 x7j125 k0j125 hx5j125 hx7j125 hk0j125 h
              refine V.istore (pc := 125) (lv' := [(6, .int (sJ k0j125)), (0, .ref (sA Δ 504)), (1, .int (sJ p1)), (2, .int (sJ x2j46)), (3, .int (sJ x3j46)), (4, .int (sJ k0j46)), (5, .int (sJ x5j125)), (7, .int (sJ x7j125))]) hG dX12_lastUse_125 (by decide) rfl ?_
              refine V.iinc (pc := 127) (lv' := [(7, .int (sJ (wr (x7j125 + 1)))), (6, .int (sJ k0j125)), (0, .ref (sA Δ 504)), (1, .int (sJ p1)), (2, .int (sJ x2j46)), (3, .int (sJ x3j46)), (4, .int (sJ k0j46)), (5, .int (sJ x5j125))]) hG dX12_lastUse_127 7 rfl (by decide) rfl ?_
              refine V.goto (pc := 130) (tgt := 57) hG dX12_lastUse_130 (by decide) ?_
              refine V.pick [2, 3, 4, 5, 6, 7, 1, 0] rfl ?_
              exact ih57 x5j125 k0j125 (wr (x7j125 + 1)) hx5j125 hk0j125 ((sR_wr _)) h
            have jn100 : ∀ (x6j100 : Int) (x7j100 : Int) (k0j100 : Int), sR x6j100 → sR x7j100 → sR k0j100 → s100_X12_lastUse p1 x2j46 x3j46 k0j46 x6j100 x7j100 k0j100 i r Q (LoopP (b4_X12_lastUse p1 i r Q) m4) (LoopP (b57_X12_lastUse p1 x2j46 x3j46 k0j46 i r Q (LoopP (b4_X12_lastUse p1 i r Q) m4)) m57) → V Γ Δ 542 false i r 0 0 Q0 100 [(0, .ref (sA Δ 504)), (1, .int (sJ p1)), (2, .int (sJ x2j46)), (3, .int (sJ x3j46)), (4, .int (sJ k0j46)), (6, .int (sJ x6j100)), (7, .int (sJ x7j100))] [.int (sJ k0j100)] := by
              intro x6j100 x7j100 k0j100 hx6j100 hx7j100 hk0j100 h
              refine V.istore (pc := 100) (lv' := [(5, .int (sJ k0j100)), (0, .ref (sA Δ 504)), (1, .int (sJ p1)), (2, .int (sJ x2j46)), (3, .int (sJ x3j46)), (4, .int (sJ k0j46)), (6, .int (sJ x6j100)), (7, .int (sJ x7j100))]) hG dX12_lastUse_100 (by decide) rfl ?_
              refine V.aload_n (pc := 102) hG dX12_lastUse_102 rfl 1 rfl ?_
              refine V.getR (x := 519) (pc := 103) (ci := 14) (k := 26) (M := 49) (T := TX12) (o := 504) (kz := 26) hG a_504 a_504.n (by decide) hin_X12 rfl (by decide) (by decide) rfl kw_1718 rfl ((hw).1 (504, 26, 519) (by decide)) (by decide) dX12_lastUse_103 ?_
              refine V.iload (pc := 106) hG dX12_lastUse_106 7 rfl ?_
              obtain ⟨g155, h⟩ := h
              refine V.iald (pc := 108) (z := 96) (o := 519) hG a_519 a_519.n hx7j100 g155 dX12_lastUse_108 ?_
              refine V.aload_n (pc := 109) hG dX12_lastUse_109 rfl 1 rfl ?_
              refine V.getR (x := 519) (pc := 110) (ci := 14) (k := 26) (M := 49) (T := TX12) (o := 504) (kz := 26) hG a_504 a_504.n (by decide) hin_X12 rfl (by decide) (by decide) rfl kw_1718 rfl ((hw).1 (504, 26, 519) (by decide)) (by decide) dX12_lastUse_110 ?_
              refine V.iload_n (pc := 113) hG dX12_lastUse_113 rfl 2 rfl ?_
              obtain ⟨g156, h⟩ := h
              refine V.iald (pc := 114) (z := 96) (o := 519) hG a_519 a_519.n hp1 g156 dX12_lastUse_114 ?_
              obtain ⟨f159, t158⟩ := h
              refine V.icmp_ne (pc := 115) (tgt := 123) hG ((hi _ _)) ((hi _ _)) dX12_lastUse_115 (by decide) (fun c157 => ?_) (fun c157 => ?_)
              · have h := t158 c157
                clear t158 f159
                refine V.iload (pc := 123) hG dX12_lastUse_123 6 rfl ?_
                refine V.pick [1, 2, 3, 4, 5, 0, 7] rfl ?_
                exact jn125 k0j100 x7j100 x6j100 hk0j100 hx7j100 hx6j100 h
              · have h := f159 c157
                clear t158 f159
                refine V.iload (pc := 118) hG dX12_lastUse_118 7 rfl ?_
                refine V.goto (pc := 120) (tgt := 125) hG dX12_lastUse_120 (by decide) ?_
                refine V.pick [1, 2, 3, 4, 5, 0, 7] rfl ?_
                exact jn125 k0j100 x7j100 x7j100 hk0j100 hx7j100 hx7j100 h
            have jn98 : ∀ (x5j98 : Int) (x6j98 : Int) (x7j98 : Int), sR x5j98 → sR x6j98 → sR x7j98 → s98_X12_lastUse p1 x2j46 x3j46 k0j46 x5j98 x6j98 x7j98 i r Q (LoopP (b4_X12_lastUse p1 i r Q) m4) (LoopP (b57_X12_lastUse p1 x2j46 x3j46 k0j46 i r Q (LoopP (b4_X12_lastUse p1 i r Q) m4)) m57) → V Γ Δ 542 false i r 0 0 Q0 98 [(0, .ref (sA Δ 504)), (1, .int (sJ p1)), (2, .int (sJ x2j46)), (3, .int (sJ x3j46)), (4, .int (sJ k0j46)), (5, .int (sJ x5j98)), (6, .int (sJ x6j98)), (7, .int (sJ x7j98))] [] := by
              intro x5j98 x6j98 x7j98 hx5j98 hx6j98 hx7j98 h
              refine V.iload (pc := 98) hG dX12_lastUse_98 5 rfl ?_
              refine V.pick [0, 1, 2, 3, 4, 6, 7] rfl ?_
              exact jn100 x6j98 x7j98 x5j98 hx6j98 hx7j98 hx5j98 h
            refine V.iload (pc := 57) hG dX12_lastUse_57 7 rfl ?_
            refine V.aload_n (pc := 59) hG dX12_lastUse_59 rfl 0 rfl ?_
            refine V.getI (pc := 60) (ci := 14) (k := 21) (M := 49) (T := TX12) (o := 504) (kz := 21) hG a_504 a_504.n (by decide) hin_X12 rfl (by decide) (by decide) rfl kw_1713 rfl dX12_lastUse_60 ?_
            obtain ⟨t161, f162⟩ := h
            refine V.icmp_ge (pc := 63) (tgt := 133) hG hx7_57 ((hi _ _)) dX12_lastUse_63 (by decide) (fun c160 => ?_) (fun c160 => ?_)
            · have h := t161 c160
              clear t161 f162
              refine V.pick [0, 1, 2, 3, 4, 5, 6] rfl ?_
              exact jn133 x2j46 x3j46 k0j46 x5_57 x6_57 hx2j46 hx3j46 hk0j46 hx5_57 hx6_57 h
            · have h := f162 c160
              clear t161 f162
              refine V.iload (pc := 66) hG dX12_lastUse_66 4 rfl ?_
              obtain ⟨t164, f165⟩ := h
              refine V.if_eq (pc := 68) (tgt := 133) hG hk0j46 dX12_lastUse_68 (by decide) (fun c163 => ?_) (fun c163 => ?_)
              · have h := t164 c163
                clear t164 f165
                refine V.pick [0, 1, 2, 3, 4, 5, 6] rfl ?_
                exact jn133 x2j46 x3j46 k0j46 x5_57 x6_57 hx2j46 hx3j46 hk0j46 hx5_57 hx6_57 h
              · have h := f165 c163
                clear t164 f165
                refine V.aload_n (pc := 71) hG dX12_lastUse_71 rfl 0 rfl ?_
                refine V.getR (x := 519) (pc := 72) (ci := 14) (k := 26) (M := 49) (T := TX12) (o := 504) (kz := 26) hG a_504 a_504.n (by decide) hin_X12 rfl (by decide) (by decide) rfl kw_1718 rfl ((hw).1 (504, 26, 519) (by decide)) (by decide) dX12_lastUse_72 ?_
                refine V.iload (pc := 75) hG dX12_lastUse_75 7 rfl ?_
                obtain ⟨g166, h⟩ := h
                refine V.iald (pc := 77) (z := 96) (o := 519) hG a_519 a_519.n hx7_57 g166 dX12_lastUse_77 ?_
                refine V.aload_n (pc := 78) hG dX12_lastUse_78 rfl 0 rfl ?_
                refine V.getR (x := 519) (pc := 79) (ci := 14) (k := 26) (M := 49) (T := TX12) (o := 504) (kz := 26) hG a_504 a_504.n (by decide) hin_X12 rfl (by decide) (by decide) rfl kw_1718 rfl ((hw).1 (504, 26, 519) (by decide)) (by decide) dX12_lastUse_79 ?_
                refine V.iload_n (pc := 82) hG dX12_lastUse_82 rfl 1 rfl ?_
                obtain ⟨g167, h⟩ := h
                refine V.iald (pc := 83) (z := 96) (o := 519) hG a_519 a_519.n hp1 g167 dX12_lastUse_83 ?_
                obtain ⟨f170, t169⟩ := h
                refine V.icmp_ne (pc := 84) (tgt := 98) hG ((hi _ _)) ((hi _ _)) dX12_lastUse_84 (by decide) (fun c168 => ?_) (fun c168 => ?_)
                · have h := t169 c168
                  clear t169 f170
                  exact jn98 x5_57 x6_57 x7_57 hx5_57 hx6_57 hx7_57 h
                · have h := f170 c168
                  clear t169 f170
                  refine V.iload (pc := 87) hG dX12_lastUse_87 7 rfl ?_
                  refine V.iload_n (pc := 89) hG dX12_lastUse_89 rfl 3 rfl ?_
                  obtain ⟨t172, f173⟩ := h
                  refine V.icmp_ge (pc := 90) (tgt := 98) hG hx7_57 hx3j46 dX12_lastUse_90 (by decide) (fun c171 => ?_) (fun c171 => ?_)
                  · have h := t172 c171
                    clear t172 f173
                    exact jn98 x5_57 x6_57 x7_57 hx5_57 hx6_57 hx7_57 h
                  · have h := f173 c171
                    clear t172 f173
                    refine V.iload (pc := 93) hG dX12_lastUse_93 7 rfl ?_
                    refine V.goto (pc := 95) (tgt := 100) hG dX12_lastUse_95 (by decide) ?_
                    refine V.pick [0, 1, 2, 3, 4, 6, 7] rfl ?_
                    exact jn100 x6_57 x7_57 x7_57 hx6_57 hx7_57 hx7_57 h
        refine V.pick [4, 5, 6, 7, 3, 2, 1, 0] rfl ?_
        exact lp57 n149 (-1) (-1) 0 ((sR_l rfl)) ((sR_l rfl)) ((sR_l rfl)) h
      have jn45 : ∀ (x2j45 : Int) (x3j45 : Int), sR x2j45 → sR x3j45 → s45_X12_lastUse p1 x2j45 x3j45 i r Q (LoopP (b4_X12_lastUse p1 i r Q) m4) → V Γ Δ 542 false i r 0 0 Q0 45 [(0, .ref (sA Δ 504)), (1, .int (sJ p1)), (2, .int (sJ x2j45)), (3, .int (sJ x3j45))] [] := by
        intro x2j45 x3j45 hx2j45 hx3j45 h
        refine V.iconst (pc := 45) hG dX12_lastUse_45 ?_
        exact jn46 x2j45 x3j45 0 hx2j45 hx3j45 ((sR_l rfl)) h
      refine V.iload_n (pc := 4) hG dX12_lastUse_4 rfl 3 rfl ?_
      refine V.aload_n (pc := 5) hG dX12_lastUse_5 rfl 0 rfl ?_
      refine V.getI (pc := 6) (ci := 14) (k := 21) (M := 49) (T := TX12) (o := 504) (kz := 21) hG a_504 a_504.n (by decide) hin_X12 rfl (by decide) (by decide) rfl kw_1713 rfl dX12_lastUse_6 ?_
      obtain ⟨t175, f176⟩ := h
      refine V.icmp_ge (pc := 9) (tgt := 219) hG hx3_4 ((hi _ _)) dX12_lastUse_9 (by decide) (fun c174 => ?_) (fun c174 => ?_)
      · have h := t175 c174
        clear t175 f176
        refine V.iload_n (pc := 219) hG dX12_lastUse_219 rfl 2 rfl ?_
        exact fin dX12_lastUse_220 hx2_4 rfl hi hw ⟨rfl, rfl, h⟩
      · have h := f176 c174
        clear t175 f176
        refine V.aload_n (pc := 12) hG dX12_lastUse_12 rfl 0 rfl ?_
        refine V.getR (x := 519) (pc := 13) (ci := 14) (k := 26) (M := 49) (T := TX12) (o := 504) (kz := 26) hG a_504 a_504.n (by decide) hin_X12 rfl (by decide) (by decide) rfl kw_1718 rfl ((hw).1 (504, 26, 519) (by decide)) (by decide) dX12_lastUse_13 ?_
        refine V.iload_n (pc := 16) hG dX12_lastUse_16 rfl 1 rfl ?_
        obtain ⟨g177, h⟩ := h
        refine V.iald (pc := 17) (z := 96) (o := 519) hG a_519 a_519.n hp1 g177 dX12_lastUse_17 ?_
        refine V.iconst (pc := 18) hG dX12_lastUse_18 ?_
        obtain ⟨t179, f180⟩ := h
        refine V.icmp_eq (pc := 19) (tgt := 45) hG ((hi _ _)) ((sR_l rfl)) dX12_lastUse_19 (by decide) (fun c178 => ?_) (fun c178 => ?_)
        · have h := t179 c178
          clear t179 f180
          exact jn45 x2_4 x3_4 hx2_4 hx3_4 h
        · have h := f180 c178
          clear t179 f180
          refine V.aload_n (pc := 22) hG dX12_lastUse_22 rfl 0 rfl ?_
          refine V.getR (x := 518) (pc := 23) (ci := 14) (k := 25) (M := 49) (T := TX12) (o := 504) (kz := 25) hG a_504 a_504.n (by decide) hin_X12 rfl (by decide) (by decide) rfl kw_1717 rfl ((hw).1 (504, 25, 518) (by decide)) (by decide) dX12_lastUse_23 ?_
          refine V.iload_n (pc := 26) hG dX12_lastUse_26 rfl 3 rfl ?_
          obtain ⟨g181, h⟩ := h
          refine V.iald (pc := 27) (z := 96) (o := 518) hG a_518 a_518.n hx3_4 g181 dX12_lastUse_27 ?_
          refine V.aload_n (pc := 28) hG dX12_lastUse_28 rfl 0 rfl ?_
          refine V.getR (x := 519) (pc := 29) (ci := 14) (k := 26) (M := 49) (T := TX12) (o := 504) (kz := 26) hG a_504 a_504.n (by decide) hin_X12 rfl (by decide) (by decide) rfl kw_1718 rfl ((hw).1 (504, 26, 519) (by decide)) (by decide) dX12_lastUse_29 ?_
          refine V.iload_n (pc := 32) hG dX12_lastUse_32 rfl 1 rfl ?_
          obtain ⟨g182, h⟩ := h
          refine V.iald (pc := 33) (z := 96) (o := 519) hG a_519 a_519.n hp1 g182 dX12_lastUse_33 ?_
          refine V.ishr (pc := 34) hG dX12_lastUse_34 ?_
          refine V.iconst (pc := 35) hG dX12_lastUse_35 ?_
          refine V.iand (pc := 36) hG dX12_lastUse_36 ?_
          refine V.iconst (pc := 37) hG dX12_lastUse_37 ?_
          obtain ⟨f185, t184⟩ := h
          refine V.icmp_ne (pc := 38) (tgt := 45) hG ((sR_and _ _)) ((sR_l rfl)) dX12_lastUse_38 (by decide) (fun c183 => ?_) (fun c183 => ?_)
          · have h := t184 c183
            clear t184 f185
            exact jn45 x2_4 x3_4 hx2_4 hx3_4 h
          · have h := f185 c183
            clear t184 f185
            refine V.iconst (pc := 41) hG dX12_lastUse_41 ?_
            refine V.goto (pc := 42) (tgt := 46) hG dX12_lastUse_42 (by decide) ?_
            exact jn46 x2_4 x3_4 1 hx2_4 hx3_4 ((sR_l rfl)) h
  refine V.pick [2, 3, 1, 0] rfl ?_
  exact lp4 n79 (-1) 0 ((sR_l rfl)) ((sR_l rfl)) h
set_option maxRecDepth 100000 in
set_option maxHeartbeats 4000000 in
theorem sm_X12_waiting (l : Launch) (Δ : Wd) {i r : MI}   {Q : Int → MI → Prop} (hi : okI i) (hw : Wf r) (h : wp_X12_waiting  i r Q) : Met l yX12_waiting (Cond.code yX12_waiting cX12_waiting 5 (some .int) :: gW) (sRm 6 140) (sPc Δ [.ref (sA Δ 504)] i r) (sQi Δ (fun x i' r' => r = r' ∧ Q x i')) 0 0 (sFr Δ) := by
  refine Ct.i (ty := .int) (by decide) rfl (Nat.le_of_ble_eq_true rfl) (fun Γ Q0 hG fin => ?_)
  have hG : okG Γ Δ l (sRm 6 140) cX12_waiting "SchedularyModel" 5 := hG
  show V Γ Δ 542 false i r 0 0 Q0 0 [(0, .ref (sA Δ 504))] []
  refine V.aload_n (pc := 0) hG dX12_waiting_0 rfl 0 rfl ?_
  refine V.iconst (pc := 1) hG dX12_waiting_1 ?_
  refine V.putI (pc := 2) (ci := 14) (k := 0) (M := 49) (T := TX12) (o := 504) (kz := 0) hG a_504 a_504.n (by decide) hin_X12 rfl (by decide) (by decide) rfl kw_1692 rfl tyX12 tyX12_ok nmX12 rfl (ty := tyX12 0) (tyX12_ok 0 (by decide)) rfl rfl dX12_waiting_2 ?_
  refine V.aload_n (pc := 5) hG dX12_waiting_5 rfl 0 rfl ?_
  refine V.callVv (pc := 6) (As := []) (stk := []) hG (sm_X12_list l Δ  ((okI_st hi ((sR_l rfl)))) hw h) mY_X12_list kw_2101 kw_2103 kw_138 a_504 (by decide) (q := (RX12, TX12, 49)) rfl rfl ⟨Nat.le_of_ble_eq_true rfl, Nat.le_of_ble_eq_true rfl, Nat.le_of_ble_eq_true rfl, Nat.le_of_ble_eq_true rfl⟩ rfl (Nat.le_of_ble_eq_true rfl) dX12_waiting_6 rfl (fun i2 r3 hi5 hw6 hq7 => ?_)
  obtain ⟨e102, h⟩ := hq7
  subst e102
  refine V.iconst (pc := 9) hG dX12_waiting_9 ?_
  refine V.istore_n (pc := 10) (lv' := [(1, .int (sJ 0)), (0, .ref (sA Δ 504))]) hG dX12_waiting_10 rfl (by decide) rfl ?_
  refine V.iconst (pc := 11) hG dX12_waiting_11 ?_
  refine V.istore_n (pc := 12) (lv' := [(2, .int (sJ 0)), (1, .int (sJ 0)), (0, .ref (sA Δ 504))]) hG dX12_waiting_12 rfl (by decide) rfl ?_
  obtain ⟨n68, h⟩ := h
  have lp13 : ∀ (m13 : Nat) (x1_13 : Int) (x2_13 : Int), sR x1_13 → sR x2_13 → LoopP (b13_X12_waiting i2 r Q) m13 (x1_13, x2_13) → V Γ Δ 542 false i2 r 0 0 Q0 13 [(0, .ref (sA Δ 504)), (1, .int (sJ x1_13)), (2, .int (sJ x2_13))] [] := by
    intro m13
    induction m13 with
    | zero => intro x1_13 x2_13 hx1_13 hx2_13 h; exact h.elim
    | succ m13 ih13 =>
      intro x1_13 x2_13 hx1_13 hx2_13 h
      have h := LoopP_succ h
      refine V.iload_n (pc := 13) hG dX12_waiting_13 rfl 2 rfl ?_
      refine V.aload_n (pc := 14) hG dX12_waiting_14 rfl 0 rfl ?_
      refine V.getI (pc := 15) (ci := 14) (k := 48) (M := 49) (T := TX12) (o := 504) (kz := 48) hG a_504 a_504.n (by decide) hin_X12 rfl (by decide) (by decide) rfl kw_1740 rfl dX12_waiting_15 ?_
      obtain ⟨t70, f71⟩ := h
      refine V.icmp_ge (pc := 18) (tgt := 89) hG hx2_13 ((hi5 _ _)) dX12_waiting_18 (by decide) (fun c69 => ?_) (fun c69 => ?_)
      · have h := t70 c69
        clear t70 f71
        refine V.iload_n (pc := 89) hG dX12_waiting_89 rfl 1 rfl ?_
        exact fin dX12_waiting_90 hx1_13 rfl hi5 hw ⟨rfl, h⟩
      · have h := f71 c69
        clear t70 f71
        refine V.iconst (pc := 21) hG dX12_waiting_21 ?_
        refine V.istore_n (pc := 22) (lv' := [(3, .int (sJ 0)), (0, .ref (sA Δ 504)), (1, .int (sJ x1_13)), (2, .int (sJ x2_13))]) hG dX12_waiting_22 rfl (by decide) rfl ?_
        refine V.iconst (pc := 23) hG dX12_waiting_23 ?_
        refine V.istore (pc := 24) (lv' := [(4, .int (sJ 0)), (3, .int (sJ 0)), (0, .ref (sA Δ 504)), (1, .int (sJ x1_13)), (2, .int (sJ x2_13))]) hG dX12_waiting_24 (by decide) rfl ?_
        obtain ⟨n72, h⟩ := h
        have lp26 : ∀ (m26 : Nat) (x3_26 : Int) (x4_26 : Int), sR x3_26 → sR x4_26 → LoopP (b26_X12_waiting x1_13 x2_13 i2 r Q (LoopP (b13_X12_waiting i2 r Q) m13)) m26 (x3_26, x4_26) → V Γ Δ 542 false i2 r 0 0 Q0 26 [(0, .ref (sA Δ 504)), (1, .int (sJ x1_13)), (2, .int (sJ x2_13)), (3, .int (sJ x3_26)), (4, .int (sJ x4_26))] [] := by
          intro m26
          induction m26 with
          | zero => intro x3_26 x4_26 hx3_26 hx4_26 h; exact h.elim
          | succ m26 ih26 =>
            intro x3_26 x4_26 hx3_26 hx4_26 h
            have h := LoopP_succ h
            have jn69 : ∀ (x4j69 : Int) (k0j69 : Int) (k1j69 : Int), sR x4j69 → sR k0j69 → sR k1j69 → s69_X12_waiting x1_13 x2_13 x4j69 k0j69 k1j69 i2 r Q (LoopP (b13_X12_waiting i2 r Q) m13) (LoopP (b26_X12_waiting x1_13 x2_13 i2 r Q (LoopP (b13_X12_waiting i2 r Q) m13)) m26) → V Γ Δ 542 false i2 r 0 0 Q0 69 [(0, .ref (sA Δ 504)), (1, .int (sJ x1_13)), (2, .int (sJ x2_13)), (4, .int (sJ x4j69))] [.int (sJ k1j69), .int (sJ k0j69)] := by
              intro x4j69 k0j69 k1j69 hx4j69 hk0j69 hk1j69 h
              refine V.iadd (pc := 69) hG dX12_waiting_69 ?_
              refine V.istore_n (pc := 70) (lv' := [(3, .int (sJ (wr (k0j69 + k1j69)))), (0, .ref (sA Δ 504)), (1, .int (sJ x1_13)), (2, .int (sJ x2_13)), (4, .int (sJ x4j69))]) hG dX12_waiting_70 rfl (by decide) rfl ?_
              refine V.iinc (pc := 71) (lv' := [(4, .int (sJ (wr (x4j69 + 1)))), (3, .int (sJ (wr (k0j69 + k1j69)))), (0, .ref (sA Δ 504)), (1, .int (sJ x1_13)), (2, .int (sJ x2_13))]) hG dX12_waiting_71 4 rfl (by decide) rfl ?_
              refine V.goto (pc := 74) (tgt := 26) hG dX12_waiting_74 (by decide) ?_
              refine V.pick [2, 3, 4, 1, 0] rfl ?_
              exact ih26 (wr (k0j69 + k1j69)) (wr (x4j69 + 1)) ((sR_wr _)) ((sR_wr _)) h
            have jn68 : ∀ (x4j68 : Int) (k0j68 : Int), sR x4j68 → sR k0j68 → s68_X12_waiting x1_13 x2_13 x4j68 k0j68 i2 r Q (LoopP (b13_X12_waiting i2 r Q) m13) (LoopP (b26_X12_waiting x1_13 x2_13 i2 r Q (LoopP (b13_X12_waiting i2 r Q) m13)) m26) → V Γ Δ 542 false i2 r 0 0 Q0 68 [(0, .ref (sA Δ 504)), (1, .int (sJ x1_13)), (2, .int (sJ x2_13)), (4, .int (sJ x4j68))] [.int (sJ k0j68)] := by
              intro x4j68 k0j68 hx4j68 hk0j68 h
              refine V.iconst (pc := 68) hG dX12_waiting_68 ?_
              exact jn69 x4j68 k0j68 0 hx4j68 hk0j68 ((sR_l rfl)) h
            refine V.iload (pc := 26) hG dX12_waiting_26 4 rfl ?_
            refine V.aload_n (pc := 28) hG dX12_waiting_28 rfl 0 rfl ?_
            refine V.getI (pc := 29) (ci := 14) (k := 21) (M := 49) (T := TX12) (o := 504) (kz := 21) hG a_504 a_504.n (by decide) hin_X12 rfl (by decide) (by decide) rfl kw_1713 rfl dX12_waiting_29 ?_
            obtain ⟨t74, f75⟩ := h
            refine V.icmp_ge (pc := 32) (tgt := 77) hG hx4_26 ((hi5 _ _)) dX12_waiting_32 (by decide) (fun c73 => ?_) (fun c73 => ?_)
            · have h := t74 c73
              clear t74 f75
              refine V.iload_n (pc := 77) hG dX12_waiting_77 rfl 1 rfl ?_
              refine V.iload_n (pc := 78) hG dX12_waiting_78 rfl 3 rfl ?_
              refine V.mmax (pc := 79) hG hx1_13 hx3_26 kw_1955 kw_680 kw_173 kw_max ⟨Nat.le_of_ble_eq_true rfl, Nat.le_of_ble_eq_true rfl, Nat.le_of_ble_eq_true rfl, Nat.le_of_ble_eq_true rfl⟩ dX12_waiting_79 ?_
              refine V.istore_n (pc := 82) (lv' := [(1, .int (sJ (max x1_13 x3_26))), (0, .ref (sA Δ 504)), (2, .int (sJ x2_13)), (3, .int (sJ x3_26)), (4, .int (sJ x4_26))]) hG dX12_waiting_82 rfl (by decide) rfl ?_
              refine V.iinc (pc := 83) (lv' := [(2, .int (sJ (wr (x2_13 + 1)))), (1, .int (sJ (max x1_13 x3_26))), (0, .ref (sA Δ 504)), (3, .int (sJ x3_26)), (4, .int (sJ x4_26))]) hG dX12_waiting_83 2 rfl (by decide) rfl ?_
              refine V.goto (pc := 86) (tgt := 13) hG dX12_waiting_86 (by decide) ?_
              refine V.pick [2, 1, 0] rfl ?_
              exact ih13 (max x1_13 x3_26) (wr (x2_13 + 1)) ((sR_max hx1_13 hx3_26)) ((sR_wr _)) h
            · have h := f75 c73
              clear t74 f75
              refine V.iload_n (pc := 35) hG dX12_waiting_35 rfl 3 rfl ?_
              refine V.aload_n (pc := 36) hG dX12_waiting_36 rfl 0 rfl ?_
              refine V.getR (x := 531) (pc := 37) (ci := 14) (k := 39) (M := 49) (T := TX12) (o := 504) (kz := 39) hG a_504 a_504.n (by decide) hin_X12 rfl (by decide) (by decide) rfl kw_1731 rfl ((hw).1 (504, 39, 531) (by decide)) (by decide) dX12_waiting_37 ?_
              refine V.iload (pc := 40) hG dX12_waiting_40 4 rfl ?_
              obtain ⟨g76, h⟩ := h
              refine V.iald (pc := 42) (z := 96) (o := 531) hG a_531 a_531.n hx4_26 g76 dX12_waiting_42 ?_
              refine V.aload_n (pc := 43) hG dX12_waiting_43 rfl 0 rfl ?_
              refine V.iload (pc := 44) hG dX12_waiting_44 4 rfl ?_
              refine V.callVi (pc := 46) (As := [.int (sJ x4_26)]) (stk := [.int (sJ (i2 531 x4_26)), .int (sJ x3_26)]) hG (sm_X12_cyclesOf l Δ hx4_26 hi5 hw h) mY_X12_cyclesOf kw_1947 kw_1949 kw_123 a_504 (by decide) (q := (RX12, TX12, 49)) rfl rfl ⟨Nat.le_of_ble_eq_true rfl, Nat.le_of_ble_eq_true rfl, Nat.le_of_ble_eq_true rfl, Nat.le_of_ble_eq_true rfl⟩ rfl (Nat.le_of_ble_eq_true rfl) dX12_waiting_46 rfl (fun v77 i78 r79 hv80 hi81 hw82 hq83 => ?_)
              obtain ⟨e99, e100, h⟩ := hq83
              subst e99
              subst e100
              refine V.iadd (pc := 49) hG dX12_waiting_49 ?_
              refine V.iload_n (pc := 50) hG dX12_waiting_50 rfl 2 rfl ?_
              obtain ⟨t85, f86⟩ := h
              refine V.icmp_gt (pc := 51) (tgt := 68) hG ((sR_wr _)) hx2_13 dX12_waiting_51 (by decide) (fun c84 => ?_) (fun c84 => ?_)
              · have h := t85 c84
                clear t85 f86
                refine V.pick [0, 1, 2, 4] rfl ?_
                exact jn68 x4_26 x3_26 hx4_26 hx3_26 h
              · have h := f86 c84
                clear t85 f86
                refine V.iload_n (pc := 54) hG dX12_waiting_54 rfl 2 rfl ?_
                refine V.aload_n (pc := 55) hG dX12_waiting_55 rfl 0 rfl ?_
                refine V.iload (pc := 56) hG dX12_waiting_56 4 rfl ?_
                refine V.callVi (pc := 58) (As := [.int (sJ x4_26)]) (stk := [.int (sJ x2_13), .int (sJ x3_26)]) hG (sm_X12_lastUse l Δ hx4_26 hi5 hw h) mY_X12_lastUse kw_2121 kw_2123 kw_140 a_504 (by decide) (q := (RX12, TX12, 49)) rfl rfl ⟨Nat.le_of_ble_eq_true rfl, Nat.le_of_ble_eq_true rfl, Nat.le_of_ble_eq_true rfl, Nat.le_of_ble_eq_true rfl⟩ rfl (Nat.le_of_ble_eq_true rfl) dX12_waiting_58 rfl (fun v87 i88 r89 hv90 hi91 hw92 hq93 => ?_)
                obtain ⟨e97, e98, h⟩ := hq93
                subst e97
                subst e98
                obtain ⟨t95, f96⟩ := h
                refine V.icmp_gt (pc := 61) (tgt := 68) hG hx2_13 hv90 dX12_waiting_61 (by decide) (fun c94 => ?_) (fun c94 => ?_)
                · have h := t95 c94
                  clear t95 f96
                  refine V.pick [0, 1, 2, 4] rfl ?_
                  exact jn68 x4_26 x3_26 hx4_26 hx3_26 h
                · have h := f96 c94
                  clear t95 f96
                  refine V.iconst (pc := 64) hG dX12_waiting_64 ?_
                  refine V.goto (pc := 65) (tgt := 69) hG dX12_waiting_65 (by decide) ?_
                  refine V.pick [0, 1, 2, 4] rfl ?_
                  exact jn69 x4_26 x3_26 1 hx4_26 hx3_26 ((sR_l rfl)) h
        refine V.pick [2, 3, 4, 1, 0] rfl ?_
        exact lp26 n72 0 0 ((sR_l rfl)) ((sR_l rfl)) h
  refine V.pick [2, 1, 0] rfl ?_
  exact lp13 n68 0 0 ((sR_l rfl)) ((sR_l rfl)) h
set_option maxRecDepth 100000 in
set_option maxHeartbeats 4000000 in
theorem sm_X12_hasRing (l : Launch) (Δ : Wd) {i r : MI} {p1 : Int} (hp1 : sR p1) {Q : Int → MI → Prop} (hi : okI i) (hw : Wf r) (h : wp_X12_hasRing p1 i r Q) : Met l yX12_hasRing (Cond.code yX12_hasRing cX12_hasRing 6 (some .boolean) :: gW) (sRm 0 0) (sPc Δ [.ref (sA Δ 504), .int (sJ p1)] i r) (sQi Δ (fun x i' r' => r = r' ∧ Q x i')) 0 0 (sFr Δ) := by
  refine Ct.i (ty := .boolean) (by decide) rfl (Nat.le_of_ble_eq_true rfl) (fun Γ Q0 hG fin => ?_)
  have hG : okG Γ Δ l (sRm 0 0) cX12_hasRing "SchedularyModel" 6 := hG
  show V Γ Δ 542 false i r 0 0 Q0 0 [(0, .ref (sA Δ 504)), (1, .int (sJ p1))] []
  have jn130 : ∀ (x2j130 : Int) (ij130 : MI), sR x2j130 → okI ij130 → s130_X12_hasRing x2j130 ij130 r Q → V Γ Δ 542 false ij130 r 0 0 Q0 130 [(2, .int (sJ x2j130))] [] := by
    intro x2j130 ij130 hx2j130 hij130 h
    refine V.iload_n (pc := 130) hG dX12_hasRing_130 rfl 0 rfl ?_
    obtain ⟨g2, h⟩ := h
    exact fin dX12_hasRing_131 hx2j130 (nar_z g2) hij130 hw ⟨rfl, h⟩
  refine V.iconst (pc := 0) hG dX12_hasRing_0 ?_
  refine V.istore_n (pc := 1) (lv' := [(2, .int (sJ 0)), (0, .ref (sA Δ 504)), (1, .int (sJ p1))]) hG dX12_hasRing_1 rfl (by decide) rfl ?_
  obtain ⟨n64, h⟩ := h
  have lp2 : ∀ (m2 : Nat) (x2_2 : Int) (i_2 : MI), sR x2_2 → okI i_2 → LoopP (b2_X12_hasRing p1 r Q) m2 (x2_2, i_2) → V Γ Δ 542 false i_2 r 0 0 Q0 2 [(0, .ref (sA Δ 504)), (1, .int (sJ p1)), (2, .int (sJ x2_2))] [] := by
    intro m2
    induction m2 with
    | zero => intro x2_2 i_2 hx2_2 hi_2 h; exact h.elim
    | succ m2 ih2 =>
      intro x2_2 i_2 hx2_2 hi_2 h
      have h := LoopP_succ h
      refine V.iload_n (pc := 2) hG dX12_hasRing_2 rfl 2 rfl ?_
      refine V.aload_n (pc := 3) hG dX12_hasRing_3 rfl 0 rfl ?_
      refine V.getI (pc := 4) (ci := 14) (k := 21) (M := 49) (T := TX12) (o := 504) (kz := 21) hG a_504 a_504.n (by decide) hin_X12 rfl (by decide) (by decide) rfl kw_1713 rfl dX12_hasRing_4 ?_
      obtain ⟨t66, f67⟩ := h
      refine V.icmp_ge (pc := 7) (tgt := 23) hG hx2_2 ((hi_2 _ _)) dX12_hasRing_7 (by decide) (fun c65 => ?_) (fun c65 => ?_)
      · have h := t66 c65
        clear t66 f67
        refine V.iconst (pc := 23) hG dX12_hasRing_23 ?_
        refine V.istore_n (pc := 24) (lv' := [(2, .int (sJ 1)), (0, .ref (sA Δ 504)), (1, .int (sJ p1))]) hG dX12_hasRing_24 rfl (by decide) rfl ?_
        refine V.iconst (pc := 25) hG dX12_hasRing_25 ?_
        refine V.istore_n (pc := 26) (lv' := [(3, .int (sJ 0)), (2, .int (sJ 1)), (0, .ref (sA Δ 504)), (1, .int (sJ p1))]) hG dX12_hasRing_26 rfl (by decide) rfl ?_
        obtain ⟨n68, h⟩ := h
        have lp27 : ∀ (m27 : Nat) (x2_27 : Int) (x3_27 : Int) (i_27 : MI), sR x2_27 → sR x3_27 → okI i_27 → LoopP (b27_X12_hasRing p1 r Q) m27 (x2_27, x3_27, i_27) → V Γ Δ 542 false i_27 r 0 0 Q0 27 [(0, .ref (sA Δ 504)), (1, .int (sJ p1)), (2, .int (sJ x2_27)), (3, .int (sJ x3_27))] [] := by
          intro m27
          induction m27 with
          | zero => intro x2_27 x3_27 i_27 hx2_27 hx3_27 hi_27 h; exact h.elim
          | succ m27 ih27 =>
            intro x2_27 x3_27 i_27 hx2_27 hx3_27 hi_27 h
            have h := LoopP_succ h
            refine V.iload_n (pc := 27) hG dX12_hasRing_27 rfl 3 rfl ?_
            refine V.aload_n (pc := 28) hG dX12_hasRing_28 rfl 0 rfl ?_
            refine V.getI (pc := 29) (ci := 14) (k := 21) (M := 49) (T := TX12) (o := 504) (kz := 21) hG a_504 a_504.n (by decide) hin_X12 rfl (by decide) (by decide) rfl kw_1713 rfl dX12_hasRing_29 ?_
            obtain ⟨t70, f71⟩ := h
            refine V.icmp_gt (pc := 32) (tgt := 130) hG hx3_27 ((hi_27 _ _)) dX12_hasRing_32 (by decide) (fun c69 => ?_) (fun c69 => ?_)
            · have h := t70 c69
              clear t70 f71
              refine V.pick [2] rfl ?_
              exact jn130 x2_27 i_27 hx2_27 hi_27 h
            · have h := f71 c69
              clear t70 f71
              refine V.iload_n (pc := 35) hG dX12_hasRing_35 rfl 2 rfl ?_
              obtain ⟨t73, f74⟩ := h
              refine V.if_eq (pc := 36) (tgt := 130) hG hx2_27 dX12_hasRing_36 (by decide) (fun c72 => ?_) (fun c72 => ?_)
              · have h := t73 c72
                clear t73 f74
                refine V.pick [2] rfl ?_
                exact jn130 x2_27 i_27 hx2_27 hi_27 h
              · have h := f74 c72
                clear t73 f74
                refine V.iconst (pc := 39) hG dX12_hasRing_39 ?_
                refine V.istore_n (pc := 40) (lv' := [(2, .int (sJ 0)), (0, .ref (sA Δ 504)), (1, .int (sJ p1)), (3, .int (sJ x3_27))]) hG dX12_hasRing_40 rfl (by decide) rfl ?_
                refine V.iconst (pc := 41) hG dX12_hasRing_41 ?_
                refine V.istore (pc := 42) (lv' := [(4, .int (sJ 0)), (2, .int (sJ 0)), (0, .ref (sA Δ 504)), (1, .int (sJ p1)), (3, .int (sJ x3_27))]) hG dX12_hasRing_42 (by decide) rfl ?_
                obtain ⟨n75, h⟩ := h
                have lp44 : ∀ (m44 : Nat) (x2_44 : Int) (x4_44 : Int) (i_44 : MI), sR x2_44 → sR x4_44 → okI i_44 → LoopP (b44_X12_hasRing p1 x3_27 r Q (LoopP (b27_X12_hasRing p1 r Q) m27)) m44 (x2_44, x4_44, i_44) → V Γ Δ 542 false i_44 r 0 0 Q0 44 [(0, .ref (sA Δ 504)), (1, .int (sJ p1)), (2, .int (sJ x2_44)), (3, .int (sJ x3_27)), (4, .int (sJ x4_44))] [] := by
                  intro m44
                  induction m44 with
                  | zero => intro x2_44 x4_44 i_44 hx2_44 hx4_44 hi_44 h; exact h.elim
                  | succ m44 ih44 =>
                    intro x2_44 x4_44 i_44 hx2_44 hx4_44 hi_44 h
                    have h := LoopP_succ h
                    have jn118 : ∀ (x2j118 : Int) (x4j118 : Int) (ij118 : MI), sR x2j118 → sR x4j118 → okI ij118 → s118_X12_hasRing p1 x2j118 x3_27 x4j118 ij118 r Q (LoopP (b27_X12_hasRing p1 r Q) m27) (LoopP (b44_X12_hasRing p1 x3_27 r Q (LoopP (b27_X12_hasRing p1 r Q) m27)) m44) → V Γ Δ 542 false ij118 r 0 0 Q0 118 [(0, .ref (sA Δ 504)), (1, .int (sJ p1)), (2, .int (sJ x2j118)), (3, .int (sJ x3_27)), (4, .int (sJ x4j118))] [] := by
                      intro x2j118 x4j118 ij118 hx2j118 hx4j118 hij118 h
                      refine V.iinc (pc := 118) (lv' := [(4, .int (sJ (wr (x4j118 + 1)))), (0, .ref (sA Δ 504)), (1, .int (sJ p1)), (2, .int (sJ x2j118)), (3, .int (sJ x3_27))]) hG dX12_hasRing_118 4 rfl (by decide) rfl ?_
                      refine V.goto (pc := 121) (tgt := 44) hG dX12_hasRing_121 (by decide) ?_
                      refine V.pick [1, 2, 3, 4, 0] rfl ?_
                      exact ih44 x2j118 (wr (x4j118 + 1)) ij118 hx2j118 ((sR_wr _)) hij118 h
                    refine V.iload (pc := 44) hG dX12_hasRing_44 4 rfl ?_
                    refine V.aload_n (pc := 46) hG dX12_hasRing_46 rfl 0 rfl ?_
                    refine V.getI (pc := 47) (ci := 14) (k := 30) (M := 49) (T := TX12) (o := 504) (kz := 30) hG a_504 a_504.n (by decide) hin_X12 rfl (by decide) (by decide) rfl kw_1722 rfl dX12_hasRing_47 ?_
                    obtain ⟨t77, f78⟩ := h
                    refine V.icmp_ge (pc := 50) (tgt := 124) hG hx4_44 ((hi_44 _ _)) dX12_hasRing_50 (by decide) (fun c76 => ?_) (fun c76 => ?_)
                    · have h := t77 c76
                      clear t77 f78
                      refine V.iinc (pc := 124) (lv' := [(3, .int (sJ (wr (x3_27 + 1)))), (0, .ref (sA Δ 504)), (1, .int (sJ p1)), (2, .int (sJ x2_44)), (4, .int (sJ x4_44))]) hG dX12_hasRing_124 3 rfl (by decide) rfl ?_
                      refine V.goto (pc := 127) (tgt := 27) hG dX12_hasRing_127 (by decide) ?_
                      refine V.pick [1, 2, 3, 0] rfl ?_
                      exact ih27 x2_44 (wr (x3_27 + 1)) i_44 hx2_44 ((sR_wr _)) hi_44 h
                    · have h := f78 c76
                      clear t77 f78
                      refine V.aload_n (pc := 53) hG dX12_hasRing_53 rfl 0 rfl ?_
                      refine V.getR (x := 533) (pc := 54) (ci := 14) (k := 41) (M := 49) (T := TX12) (o := 504) (kz := 41) hG a_504 a_504.n (by decide) hin_X12 rfl (by decide) (by decide) rfl kw_1733 rfl ((hw).1 (504, 41, 533) (by decide)) (by decide) dX12_hasRing_54 ?_
                      refine V.aload_n (pc := 57) hG dX12_hasRing_57 rfl 0 rfl ?_
                      refine V.getR (x := 523) (pc := 58) (ci := 14) (k := 31) (M := 49) (T := TX12) (o := 504) (kz := 31) hG a_504 a_504.n (by decide) hin_X12 rfl (by decide) (by decide) rfl kw_1723 rfl ((hw).1 (504, 31, 523) (by decide)) (by decide) dX12_hasRing_58 ?_
                      refine V.iload (pc := 61) hG dX12_hasRing_61 4 rfl ?_
                      obtain ⟨g79, h⟩ := h
                      refine V.iald (pc := 63) (z := 20000) (o := 523) hG a_523 a_523.n hx4_44 g79 dX12_hasRing_63 ?_
                      obtain ⟨g80, h⟩ := h
                      refine V.iald (pc := 64) (z := 96) (o := 533) hG a_533 a_533.n ((hi_44 _ _)) g80 dX12_hasRing_64 ?_
                      refine V.aload_n (pc := 65) hG dX12_hasRing_65 rfl 0 rfl ?_
                      refine V.getR (x := 526) (pc := 66) (ci := 14) (k := 34) (M := 49) (T := TX12) (o := 504) (kz := 34) hG a_504 a_504.n (by decide) hin_X12 rfl (by decide) (by decide) rfl kw_1726 rfl ((hw).1 (504, 34, 526) (by decide)) (by decide) dX12_hasRing_66 ?_
                      refine V.iload (pc := 69) hG dX12_hasRing_69 4 rfl ?_
                      obtain ⟨g81, h⟩ := h
                      refine V.iald (pc := 71) (z := 20000) (o := 526) hG a_526 a_526.n hx4_44 g81 dX12_hasRing_71 ?_
                      refine V.iadd (pc := 72) hG dX12_hasRing_72 ?_
                      refine V.iload_n (pc := 73) hG dX12_hasRing_73 rfl 1 rfl ?_
                      refine V.aload_n (pc := 74) hG dX12_hasRing_74 rfl 0 rfl ?_
                      refine V.getR (x := 525) (pc := 75) (ci := 14) (k := 33) (M := 49) (T := TX12) (o := 504) (kz := 33) hG a_504 a_504.n (by decide) hin_X12 rfl (by decide) (by decide) rfl kw_1725 rfl ((hw).1 (504, 33, 525) (by decide)) (by decide) dX12_hasRing_75 ?_
                      refine V.iload (pc := 78) hG dX12_hasRing_78 4 rfl ?_
                      obtain ⟨g82, h⟩ := h
                      refine V.iald (pc := 80) (z := 20000) (o := 525) hG a_525 a_525.n hx4_44 g82 dX12_hasRing_80 ?_
                      refine V.imul (pc := 81) hG dX12_hasRing_81 ?_
                      refine V.isub (pc := 82) hG dX12_hasRing_82 ?_
                      refine V.istore (pc := 83) (lv' := [(5, .int (sJ (wr (wr (i_44 533 (i_44 523 x4_44) + i_44 526 x4_44) - wr (p1 * i_44 525 x4_44))))), (0, .ref (sA Δ 504)), (1, .int (sJ p1)), (2, .int (sJ x2_44)), (3, .int (sJ x3_27)), (4, .int (sJ x4_44))]) hG dX12_hasRing_83 (by decide) rfl ?_
                      refine V.iload (pc := 85) hG dX12_hasRing_85 0 rfl ?_
                      refine V.aload_n (pc := 87) hG dX12_hasRing_87 rfl 1 rfl ?_
                      refine V.getR (x := 533) (pc := 88) (ci := 14) (k := 41) (M := 49) (T := TX12) (o := 504) (kz := 41) hG a_504 a_504.n (by decide) hin_X12 rfl (by decide) (by decide) rfl kw_1733 rfl ((hw).1 (504, 41, 533) (by decide)) (by decide) dX12_hasRing_88 ?_
                      refine V.aload_n (pc := 91) hG dX12_hasRing_91 rfl 1 rfl ?_
                      refine V.getR (x := 524) (pc := 92) (ci := 14) (k := 32) (M := 49) (T := TX12) (o := 504) (kz := 32) hG a_504 a_504.n (by decide) hin_X12 rfl (by decide) (by decide) rfl kw_1724 rfl ((hw).1 (504, 32, 524) (by decide)) (by decide) dX12_hasRing_92 ?_
                      refine V.iload (pc := 95) hG dX12_hasRing_95 5 rfl ?_
                      obtain ⟨g83, h⟩ := h
                      refine V.iald (pc := 97) (z := 20000) (o := 524) hG a_524 a_524.n hx4_44 g83 dX12_hasRing_97 ?_
                      obtain ⟨g84, h⟩ := h
                      refine V.iald (pc := 98) (z := 96) (o := 533) hG a_533 a_533.n ((hi_44 _ _)) g84 dX12_hasRing_98 ?_
                      obtain ⟨t86, f87⟩ := h
                      refine V.icmp_le (pc := 99) (tgt := 118) hG ((sR_wr _)) ((hi_44 _ _)) dX12_hasRing_99 (by decide) (fun c85 => ?_) (fun c85 => ?_)
                      · have h := t86 c85
                        clear t86 f87
                        refine V.pick [1, 2, 3, 4, 5] rfl ?_
                        exact jn118 x2_44 x4_44 i_44 hx2_44 hx4_44 hi_44 h
                      · have h := f87 c85
                        clear t86 f87
                        refine V.aload_n (pc := 102) hG dX12_hasRing_102 rfl 1 rfl ?_
                        refine V.getR (x := 533) (pc := 103) (ci := 14) (k := 41) (M := 49) (T := TX12) (o := 504) (kz := 41) hG a_504 a_504.n (by decide) hin_X12 rfl (by decide) (by decide) rfl kw_1733 rfl ((hw).1 (504, 41, 533) (by decide)) (by decide) dX12_hasRing_103 ?_
                        refine V.aload_n (pc := 106) hG dX12_hasRing_106 rfl 1 rfl ?_
                        refine V.getR (x := 524) (pc := 107) (ci := 14) (k := 32) (M := 49) (T := TX12) (o := 504) (kz := 32) hG a_504 a_504.n (by decide) hin_X12 rfl (by decide) (by decide) rfl kw_1724 rfl ((hw).1 (504, 32, 524) (by decide)) (by decide) dX12_hasRing_107 ?_
                        refine V.iload (pc := 110) hG dX12_hasRing_110 5 rfl ?_
                        obtain ⟨g88, h⟩ := h
                        refine V.iald (pc := 112) (z := 20000) (o := 524) hG a_524 a_524.n hx4_44 g88 dX12_hasRing_112 ?_
                        refine V.iload (pc := 113) hG dX12_hasRing_113 0 rfl ?_
                        obtain ⟨g89, h⟩ := h
                        refine V.iast (pc := 115) (z := 96) (o := 533) hG a_533 a_533.n ((hi_44 _ _)) g89 dX12_hasRing_115 ?_
                        refine V.iconst (pc := 116) hG dX12_hasRing_116 ?_
                        refine V.istore_n (pc := 117) (lv' := [(2, .int (sJ 1)), (5, .int (sJ (wr (wr (i_44 533 (i_44 523 x4_44) + i_44 526 x4_44) - wr (p1 * i_44 525 x4_44))))), (0, .ref (sA Δ 504)), (1, .int (sJ p1)), (3, .int (sJ x3_27)), (4, .int (sJ x4_44))]) hG dX12_hasRing_117 rfl (by decide) rfl ?_
                        refine V.pick [2, 3, 0, 4, 5] rfl ?_
                        exact jn118 1 x4_44 (st i_44 533 (i_44 524 x4_44) (wr (wr (i_44 533 (i_44 523 x4_44) + i_44 526 x4_44) - wr (p1 * i_44 525 x4_44)))) ((sR_l rfl)) hx4_44 ((okI_st hi_44 ((sR_wr _)))) h
                refine V.pick [2, 3, 1, 4, 0] rfl ?_
                exact lp44 n75 0 0 i_27 ((sR_l rfl)) ((sR_l rfl)) hi_27 h
        refine V.pick [2, 3, 1, 0] rfl ?_
        exact lp27 n68 1 0 i_2 ((sR_l rfl)) ((sR_l rfl)) hi_2 h
      · have h := f67 c65
        clear t66 f67
        refine V.aload_n (pc := 10) hG dX12_hasRing_10 rfl 0 rfl ?_
        refine V.getR (x := 533) (pc := 11) (ci := 14) (k := 41) (M := 49) (T := TX12) (o := 504) (kz := 41) hG a_504 a_504.n (by decide) hin_X12 rfl (by decide) (by decide) rfl kw_1733 rfl ((hw).1 (504, 41, 533) (by decide)) (by decide) dX12_hasRing_11 ?_
        refine V.iload_n (pc := 14) hG dX12_hasRing_14 rfl 2 rfl ?_
        refine V.iconst (pc := 15) hG dX12_hasRing_15 ?_
        obtain ⟨g90, h⟩ := h
        refine V.iast (pc := 16) (z := 96) (o := 533) hG a_533 a_533.n hx2_2 g90 dX12_hasRing_16 ?_
        refine V.iinc (pc := 17) (lv' := [(2, .int (sJ (wr (x2_2 + 1)))), (0, .ref (sA Δ 504)), (1, .int (sJ p1))]) hG dX12_hasRing_17 2 rfl (by decide) rfl ?_
        refine V.goto (pc := 20) (tgt := 2) hG dX12_hasRing_20 (by decide) ?_
        refine V.pick [1, 2, 0] rfl ?_
        exact ih2 (wr (x2_2 + 1)) (st i_2 533 x2_2 0) ((sR_wr _)) ((okI_st hi_2 ((sR_l rfl)))) h
  refine V.pick [1, 2, 0] rfl ?_
  exact lp2 n64 0 i ((sR_l rfl)) hi h
set_option maxRecDepth 100000 in
set_option maxHeartbeats 4000000 in
theorem sm_X12_rings (l : Launch) (Δ : Wd) {i r : MI}   {Q : Int → MI → Prop} (hi : okI i) (hw : Wf r) (h : wp_X12_rings  i r Q) : Met l yX12_rings (Cond.code yX12_rings cX12_rings 2 (some .int) :: gW) (sRm 1 25) (sPc Δ [.ref (sA Δ 504)] i r) (sQi Δ (fun x i' r' => r = r' ∧ Q x i')) 0 0 (sFr Δ) := by
  refine Ct.i (ty := .int) (by decide) rfl (Nat.le_of_ble_eq_true rfl) (fun Γ Q0 hG fin => ?_)
  have hG : okG Γ Δ l (sRm 1 25) cX12_rings "SchedularyModel" 2 := hG
  show V Γ Δ 542 false i r 0 0 Q0 0 [(0, .ref (sA Δ 504))] []
  refine V.iconst (pc := 0) hG dX12_rings_0 ?_
  refine V.istore_n (pc := 1) (lv' := [(1, .int (sJ 1)), (0, .ref (sA Δ 504))]) hG dX12_rings_1 rfl (by decide) rfl ?_
  obtain ⟨n13, h⟩ := h
  have lp2 : ∀ (m2 : Nat) (x1_2 : Int) (i_2 : MI), sR x1_2 → okI i_2 → LoopP (b2_X12_rings r Q) m2 (x1_2, i_2) → V Γ Δ 542 false i_2 r 0 0 Q0 2 [(0, .ref (sA Δ 504)), (1, .int (sJ x1_2))] [] := by
    intro m2
    induction m2 with
    | zero => intro x1_2 i_2 hx1_2 hi_2 h; exact h.elim
    | succ m2 ih2 =>
      intro x1_2 i_2 hx1_2 hi_2 h
      have h := LoopP_succ h
      simp only [b2_X12_rings] at h
      refine V.aload_n (pc := 2) hG dX12_rings_2 rfl 0 rfl ?_
      refine V.iload_n (pc := 3) hG dX12_rings_3 rfl 1 rfl ?_
      refine V.callVi (pc := 4) (As := [.int (sJ x1_2)]) (stk := []) hG (sm_X12_hasRing l Δ hx1_2 hi_2 hw h) mY_X12_hasRing kw_2133 kw_2135 kw_142 a_504 (by decide) (q := (RX12, TX12, 49)) rfl rfl ⟨Nat.le_of_ble_eq_true rfl, Nat.le_of_ble_eq_true rfl, Nat.le_of_ble_eq_true rfl, Nat.le_of_ble_eq_true rfl⟩ rfl (Nat.le_of_ble_eq_true rfl) dX12_rings_4 rfl (fun v14 i15 r16 hv17 hi18 hw19 hq20 => ?_)
      obtain ⟨e25, h⟩ := hq20
      subst e25
      obtain ⟨t22, f23⟩ := h
      refine V.if_eq (pc := 7) (tgt := 16) hG hv17 dX12_rings_7 (by decide) (fun c21 => ?_) (fun c21 => ?_)
      · have h := t22 c21
        clear t22 f23
        refine V.iload_n (pc := 16) hG dX12_rings_16 rfl 1 rfl ?_
        exact fin dX12_rings_17 hx1_2 rfl hi18 hw ⟨rfl, h⟩
      · have h := f23 c21
        clear t22 f23
        refine V.iinc (pc := 10) (lv' := [(1, .int (sJ (wr (x1_2 + 1)))), (0, .ref (sA Δ 504))]) hG dX12_rings_10 1 rfl (by decide) rfl ?_
        refine V.goto (pc := 13) (tgt := 2) hG dX12_rings_13 (by decide) ?_
        refine V.pick [1, 0] rfl ?_
        exact ih2 (wr (x1_2 + 1)) i15 ((sR_wr _)) hi18 h
  refine V.pick [1, 0] rfl ?_
  exact lp2 n13 1 i ((sR_l rfl)) hi h
set_option maxRecDepth 100000 in
set_option maxHeartbeats 4000000 in
theorem sm_X12_needs (l : Launch) (Δ : Wd) {i r : MI} {p1 : Int} (hp1 : sR p1) {Q : Int → Prop} (hi : okI i) (hw : Wf r) (h : wp_X12_needs p1 i r Q) : Met l yX12_needs (Cond.code yX12_needs cX12_needs 4 (some .int) :: gW) (sRm 0 0) (sPc Δ [.ref (sA Δ 504), .int (sJ p1)] i r) (sQi Δ (fun x i' r' => i = i' ∧ r = r' ∧ Q x)) 0 0 (sFr Δ) := by
  refine Ct.i (ty := .int) (by decide) rfl (Nat.le_of_ble_eq_true rfl) (fun Γ Q0 hG fin => ?_)
  have hG : okG Γ Δ l (sRm 0 0) cX12_needs "SchedularyModel" 4 := hG
  show V Γ Δ 542 false i r 0 0 Q0 0 [(0, .ref (sA Δ 504)), (1, .int (sJ p1))] []
  refine V.iconst (pc := 0) hG dX12_needs_0 ?_
  refine V.istore_n (pc := 1) (lv' := [(2, .int (sJ 0)), (0, .ref (sA Δ 504)), (1, .int (sJ p1))]) hG dX12_needs_1 rfl (by decide) rfl ?_
  refine V.iconst (pc := 2) hG dX12_needs_2 ?_
  refine V.istore_n (pc := 3) (lv' := [(3, .int (sJ 0)), (2, .int (sJ 0)), (0, .ref (sA Δ 504)), (1, .int (sJ p1))]) hG dX12_needs_3 rfl (by decide) rfl ?_
  obtain ⟨n11, h⟩ := h
  have lp4 : ∀ (m4 : Nat) (x2_4 : Int) (x3_4 : Int), sR x2_4 → sR x3_4 → LoopP (b4_X12_needs p1 i r Q) m4 (x2_4, x3_4) → V Γ Δ 542 false i r 0 0 Q0 4 [(0, .ref (sA Δ 504)), (1, .int (sJ p1)), (2, .int (sJ x2_4)), (3, .int (sJ x3_4))] [] := by
    intro m4
    induction m4 with
    | zero => intro x2_4 x3_4 hx2_4 hx3_4 h; exact h.elim
    | succ m4 ih4 =>
      intro x2_4 x3_4 hx2_4 hx3_4 h
      have h := LoopP_succ h
      have jn28 : ∀ (x3j28 : Int) (k0j28 : Int) (k1j28 : Int), sR x3j28 → sR k0j28 → sR k1j28 → s28_X12_needs p1 x3j28 k0j28 k1j28 i r Q (LoopP (b4_X12_needs p1 i r Q) m4) → V Γ Δ 542 false i r 0 0 Q0 28 [(0, .ref (sA Δ 504)), (1, .int (sJ p1)), (3, .int (sJ x3j28))] [.int (sJ k1j28), .int (sJ k0j28)] := by
        intro x3j28 k0j28 k1j28 hx3j28 hk0j28 hk1j28 h
        refine V.iadd (pc := 28) hG dX12_needs_28 ?_
        refine V.istore_n (pc := 29) (lv' := [(2, .int (sJ (wr (k0j28 + k1j28)))), (0, .ref (sA Δ 504)), (1, .int (sJ p1)), (3, .int (sJ x3j28))]) hG dX12_needs_29 rfl (by decide) rfl ?_
        refine V.iinc (pc := 30) (lv' := [(3, .int (sJ (wr (x3j28 + 1)))), (2, .int (sJ (wr (k0j28 + k1j28)))), (0, .ref (sA Δ 504)), (1, .int (sJ p1))]) hG dX12_needs_30 3 rfl (by decide) rfl ?_
        refine V.goto (pc := 33) (tgt := 4) hG dX12_needs_33 (by decide) ?_
        refine V.pick [2, 3, 1, 0] rfl ?_
        exact ih4 (wr (k0j28 + k1j28)) (wr (x3j28 + 1)) ((sR_wr _)) ((sR_wr _)) h
      refine V.iload_n (pc := 4) hG dX12_needs_4 rfl 3 rfl ?_
      refine V.aload_n (pc := 5) hG dX12_needs_5 rfl 0 rfl ?_
      refine V.getI (pc := 6) (ci := 14) (k := 21) (M := 49) (T := TX12) (o := 504) (kz := 21) hG a_504 a_504.n (by decide) hin_X12 rfl (by decide) (by decide) rfl kw_1713 rfl dX12_needs_6 ?_
      obtain ⟨t13, f14⟩ := h
      refine V.icmp_ge (pc := 9) (tgt := 36) hG hx3_4 ((hi _ _)) dX12_needs_9 (by decide) (fun c12 => ?_) (fun c12 => ?_)
      · have h := t13 c12
        clear t13 f14
        refine V.iload_n (pc := 36) hG dX12_needs_36 rfl 2 rfl ?_
        refine V.aload_n (pc := 37) hG dX12_needs_37 rfl 0 rfl ?_
        refine V.getR (x := 510) (pc := 38) (ci := 14) (k := 14) (M := 49) (T := TX12) (o := 504) (kz := 14) hG a_504 a_504.n (by decide) hin_X12 rfl (by decide) (by decide) rfl kw_1706 rfl ((hw).1 (504, 14, 510) (by decide)) (by decide) dX12_needs_38 ?_
        refine V.iload_n (pc := 41) hG dX12_needs_41 rfl 1 rfl ?_
        obtain ⟨g15, h⟩ := h
        refine V.iald (pc := 42) (z := 7) (o := 510) hG a_510 a_510.n hp1 g15 dX12_needs_42 ?_
        refine V.iadd (pc := 43) hG dX12_needs_43 ?_
        refine V.iconst (pc := 44) hG dX12_needs_44 ?_
        refine V.isub (pc := 45) hG dX12_needs_45 ?_
        refine V.aload_n (pc := 46) hG dX12_needs_46 rfl 0 rfl ?_
        refine V.getR (x := 510) (pc := 47) (ci := 14) (k := 14) (M := 49) (T := TX12) (o := 504) (kz := 14) hG a_504 a_504.n (by decide) hin_X12 rfl (by decide) (by decide) rfl kw_1706 rfl ((hw).1 (504, 14, 510) (by decide)) (by decide) dX12_needs_47 ?_
        refine V.iload_n (pc := 50) hG dX12_needs_50 rfl 1 rfl ?_
        obtain ⟨g16, h⟩ := h
        refine V.iald (pc := 51) (z := 7) (o := 510) hG a_510 a_510.n hp1 g16 dX12_needs_51 ?_
        obtain ⟨g17, h⟩ := h
        refine V.idiv (pc := 52) hG ((sR_wr _)) ((hi _ _)) g17 dX12_needs_52 ?_
        exact fin dX12_needs_53 ((sR_wr _)) rfl hi hw ⟨rfl, rfl, h⟩
      · have h := f14 c12
        clear t13 f14
        refine V.iload_n (pc := 12) hG dX12_needs_12 rfl 2 rfl ?_
        refine V.aload_n (pc := 13) hG dX12_needs_13 rfl 0 rfl ?_
        refine V.getR (x := 517) (pc := 14) (ci := 14) (k := 24) (M := 49) (T := TX12) (o := 504) (kz := 24) hG a_504 a_504.n (by decide) hin_X12 rfl (by decide) (by decide) rfl kw_1716 rfl ((hw).1 (504, 24, 517) (by decide)) (by decide) dX12_needs_14 ?_
        refine V.iload_n (pc := 17) hG dX12_needs_17 rfl 3 rfl ?_
        obtain ⟨g18, h⟩ := h
        refine V.iald (pc := 18) (z := 96) (o := 517) hG a_517 a_517.n hx3_4 g18 dX12_needs_18 ?_
        refine V.iload_n (pc := 19) hG dX12_needs_19 rfl 1 rfl ?_
        obtain ⟨f21, t20⟩ := h
        refine V.icmp_ne (pc := 20) (tgt := 27) hG ((hi _ _)) hp1 dX12_needs_20 (by decide) (fun c19 => ?_) (fun c19 => ?_)
        · have h := t20 c19
          clear t20 f21
          refine V.iconst (pc := 27) hG dX12_needs_27 ?_
          refine V.pick [0, 1, 3] rfl ?_
          exact jn28 x3_4 x2_4 0 hx3_4 hx2_4 ((sR_l rfl)) h
        · have h := f21 c19
          clear t20 f21
          refine V.iconst (pc := 23) hG dX12_needs_23 ?_
          refine V.goto (pc := 24) (tgt := 28) hG dX12_needs_24 (by decide) ?_
          refine V.pick [0, 1, 3] rfl ?_
          exact jn28 x3_4 x2_4 1 hx3_4 hx2_4 ((sR_l rfl)) h
  refine V.pick [2, 3, 1, 0] rfl ?_
  exact lp4 n11 0 0 ((sR_l rfl)) ((sR_l rfl)) h
set_option maxRecDepth 100000 in
set_option maxHeartbeats 4000000 in
theorem sm_X12_byAllUnits (l : Launch) (Δ : Wd) {i r : MI}   {Q : Int → Prop} (hi : okI i) (hw : Wf r) (h : wp_X12_byAllUnits  i r Q) : Met l yX12_byAllUnits (Cond.code yX12_byAllUnits cX12_byAllUnits 3 (some .int) :: gW) (sRm 1 23) (sPc Δ [.ref (sA Δ 504)] i r) (sQi Δ (fun x i' r' => i = i' ∧ r = r' ∧ Q x)) 0 0 (sFr Δ) := by
  refine Ct.i (ty := .int) (by decide) rfl (Nat.le_of_ble_eq_true rfl) (fun Γ Q0 hG fin => ?_)
  have hG : okG Γ Δ l (sRm 1 23) cX12_byAllUnits "SchedularyModel" 3 := hG
  show V Γ Δ 542 false i r 0 0 Q0 0 [(0, .ref (sA Δ 504))] []
  refine V.iconst (pc := 0) hG dX12_byAllUnits_0 ?_
  refine V.istore_n (pc := 1) (lv' := [(1, .int (sJ 1)), (0, .ref (sA Δ 504))]) hG dX12_byAllUnits_1 rfl (by decide) rfl ?_
  refine V.iconst (pc := 2) hG dX12_byAllUnits_2 ?_
  refine V.istore_n (pc := 3) (lv' := [(2, .int (sJ 0)), (1, .int (sJ 1)), (0, .ref (sA Δ 504))]) hG dX12_byAllUnits_3 rfl (by decide) rfl ?_
  obtain ⟨n13, h⟩ := h
  have lp4 : ∀ (m4 : Nat) (x1_4 : Int) (x2_4 : Int), sR x1_4 → sR x2_4 → LoopP (b4_X12_byAllUnits i r Q) m4 (x1_4, x2_4) → V Γ Δ 542 false i r 0 0 Q0 4 [(0, .ref (sA Δ 504)), (1, .int (sJ x1_4)), (2, .int (sJ x2_4))] [] := by
    intro m4
    induction m4 with
    | zero => intro x1_4 x2_4 hx1_4 hx2_4 h; exact h.elim
    | succ m4 ih4 =>
      intro x1_4 x2_4 hx1_4 hx2_4 h
      have h := LoopP_succ h
      refine V.iload_n (pc := 4) hG dX12_byAllUnits_4 rfl 2 rfl ?_
      refine V.bipush (pc := 5) hG dX12_byAllUnits_5 (by decide) ?_
      obtain ⟨t15, f16⟩ := h
      refine V.icmp_ge (pc := 7) (tgt := 26) hG hx2_4 ((sR_l rfl)) dX12_byAllUnits_7 (by decide) (fun c14 => ?_) (fun c14 => ?_)
      · have h := t15 c14
        clear t15 f16
        refine V.iload_n (pc := 26) hG dX12_byAllUnits_26 rfl 1 rfl ?_
        exact fin dX12_byAllUnits_27 hx1_4 rfl hi hw ⟨rfl, rfl, h⟩
      · have h := f16 c14
        clear t15 f16
        refine V.iload_n (pc := 10) hG dX12_byAllUnits_10 rfl 1 rfl ?_
        refine V.aload_n (pc := 11) hG dX12_byAllUnits_11 rfl 0 rfl ?_
        refine V.iload_n (pc := 12) hG dX12_byAllUnits_12 rfl 2 rfl ?_
        refine V.callVi (pc := 13) (As := [.int (sJ x2_4)]) (stk := [.int (sJ x1_4)]) hG (sm_X12_needs l Δ hx2_4 hi hw h) mY_X12_needs kw_2145 kw_2147 kw_144 a_504 (by decide) (q := (RX12, TX12, 49)) rfl rfl ⟨Nat.le_of_ble_eq_true rfl, Nat.le_of_ble_eq_true rfl, Nat.le_of_ble_eq_true rfl, Nat.le_of_ble_eq_true rfl⟩ rfl (Nat.le_of_ble_eq_true rfl) dX12_byAllUnits_13 rfl (fun v17 i18 r19 hv20 hi21 hw22 hq23 => ?_)
        obtain ⟨e24, e25, h⟩ := hq23
        subst e24
        subst e25
        refine V.mmax (pc := 16) hG hx1_4 hv20 kw_1955 kw_680 kw_173 kw_max ⟨Nat.le_of_ble_eq_true rfl, Nat.le_of_ble_eq_true rfl, Nat.le_of_ble_eq_true rfl, Nat.le_of_ble_eq_true rfl⟩ dX12_byAllUnits_16 ?_
        refine V.istore_n (pc := 19) (lv' := [(1, .int (sJ (max x1_4 v17))), (0, .ref (sA Δ 504)), (2, .int (sJ x2_4))]) hG dX12_byAllUnits_19 rfl (by decide) rfl ?_
        refine V.iinc (pc := 20) (lv' := [(2, .int (sJ (wr (x2_4 + 1)))), (1, .int (sJ (max x1_4 v17))), (0, .ref (sA Δ 504))]) hG dX12_byAllUnits_20 2 rfl (by decide) rfl ?_
        refine V.goto (pc := 23) (tgt := 4) hG dX12_byAllUnits_23 (by decide) ?_
        refine V.pick [2, 1, 0] rfl ?_
        exact ih4 (max x1_4 v17) (wr (x2_4 + 1)) ((sR_max hx1_4 hv20)) ((sR_wr _)) h
  refine V.pick [2, 1, 0] rfl ?_
  exact lp4 n13 1 0 ((sR_l rfl)) ((sR_l rfl)) h
set_option maxRecDepth 100000 in
set_option maxHeartbeats 4000000 in
theorem sm_X12_isFree (l : Launch) (Δ : Wd) {i r : MI} {p1 : Int} {p2 : Int} {p3 : Int} (hp1 : sR p1) (hp2 : sR p2) (hp3 : sR p3) {Q : Int → Prop} (hi : okI i) (hw : Wf r) (h : wp_X12_isFree p1 p2 p3 i r Q) : Met l yX12_isFree (Cond.code yX12_isFree cX12_isFree 8 (some .boolean) :: gW) (sRm 0 0) (sPc Δ [.ref (sA Δ 504), .int (sJ p1), .int (sJ p2), .int (sJ p3)] i r) (sQi Δ (fun x i' r' => i = i' ∧ r = r' ∧ Q x)) 0 0 (sFr Δ) := by
  refine Ct.i (ty := .boolean) (by decide) rfl (Nat.le_of_ble_eq_true rfl) (fun Γ Q0 hG fin => ?_)
  have hG : okG Γ Δ l (sRm 0 0) cX12_isFree "SchedularyModel" 8 := hG
  show V Γ Δ 542 false i r 0 0 Q0 0 [(0, .ref (sA Δ 504)), (1, .int (sJ p1)), (2, .int (sJ p2)), (3, .int (sJ p3))] []
  have jn186 : ∀ (k0j186 : Int), sR k0j186 → s186_X12_isFree k0j186 i r Q → V Γ Δ 542 false i r 0 0 Q0 186 [] [.int (sJ k0j186)] := by
    intro k0j186 hk0j186 h
    obtain ⟨g2, h⟩ := h
    exact fin dX12_isFree_186 hk0j186 (nar_z g2) hi hw ⟨rfl, rfl, h⟩
  have jn185 : s185_X12_isFree i r Q → V Γ Δ 542 false i r 0 0 Q0 185 [] [] := by
    intro h
    refine V.iconst (pc := 185) hG dX12_isFree_185 ?_
    exact jn186 0 ((sR_l rfl)) h
  refine V.iconst (pc := 0) hG dX12_isFree_0 ?_
  refine V.istore (pc := 1) (lv' := [(4, .int (sJ 0)), (0, .ref (sA Δ 504)), (1, .int (sJ p1)), (2, .int (sJ p2)), (3, .int (sJ p3))]) hG dX12_isFree_1 (by decide) rfl ?_
  refine V.iconst (pc := 3) hG dX12_isFree_3 ?_
  refine V.istore (pc := 4) (lv' := [(5, .int (sJ 1)), (4, .int (sJ 0)), (0, .ref (sA Δ 504)), (1, .int (sJ p1)), (2, .int (sJ p2)), (3, .int (sJ p3))]) hG dX12_isFree_4 (by decide) rfl ?_
  refine V.iconst (pc := 6) hG dX12_isFree_6 ?_
  refine V.istore (pc := 7) (lv' := [(6, .int (sJ 0)), (5, .int (sJ 1)), (4, .int (sJ 0)), (0, .ref (sA Δ 504)), (1, .int (sJ p1)), (2, .int (sJ p2)), (3, .int (sJ p3))]) hG dX12_isFree_7 (by decide) rfl ?_
  obtain ⟨n95, h⟩ := h
  have lp9 : ∀ (m9 : Nat) (x4_9 : Int) (x6_9 : Int), sR x4_9 → sR x6_9 → LoopP (b9_X12_isFree p1 p2 p3 1 i r Q) m9 (x4_9, x6_9) → V Γ Δ 542 false i r 0 0 Q0 9 [(0, .ref (sA Δ 504)), (1, .int (sJ p1)), (2, .int (sJ p2)), (3, .int (sJ p3)), (4, .int (sJ x4_9)), (5, .int (sJ 1)), (6, .int (sJ x6_9))] [] := by
    intro m9
    induction m9 with
    | zero => intro x4_9 x6_9 hx4_9 hx6_9 h; exact h.elim
    | succ m9 ih9 =>
      intro x4_9 x6_9 hx4_9 hx6_9 h
      have h := LoopP_succ h
      have jn53 : ∀ (x6j53 : Int) (k0j53 : Int) (k1j53 : Int), sR x6j53 → sR k0j53 → sR k1j53 → s53_X12_isFree p1 p2 p3 1 x6j53 k0j53 k1j53 i r Q (LoopP (b9_X12_isFree p1 p2 p3 1 i r Q) m9) → V Γ Δ 542 false i r 0 0 Q0 53 [(0, .ref (sA Δ 504)), (1, .int (sJ p1)), (2, .int (sJ p2)), (3, .int (sJ p3)), (5, .int (sJ 1)), (6, .int (sJ x6j53))] [.int (sJ k1j53), .int (sJ k0j53)] := by
        intro x6j53 k0j53 k1j53 hx6j53 hk0j53 hk1j53 h
        refine V.iadd (pc := 53) hG dX12_isFree_53 ?_
        refine V.istore (pc := 54) (lv' := [(4, .int (sJ (wr (k0j53 + k1j53)))), (0, .ref (sA Δ 504)), (1, .int (sJ p1)), (2, .int (sJ p2)), (3, .int (sJ p3)), (5, .int (sJ 1)), (6, .int (sJ x6j53))]) hG dX12_isFree_54 (by decide) rfl ?_
        refine V.iinc (pc := 56) (lv' := [(6, .int (sJ (wr (x6j53 + 1)))), (4, .int (sJ (wr (k0j53 + k1j53)))), (0, .ref (sA Δ 504)), (1, .int (sJ p1)), (2, .int (sJ p2)), (3, .int (sJ p3)), (5, .int (sJ 1))]) hG dX12_isFree_56 6 rfl (by decide) rfl ?_
        refine V.goto (pc := 59) (tgt := 9) hG dX12_isFree_59 (by decide) ?_
        refine V.pick [2, 3, 4, 5, 1, 6, 0] rfl ?_
        exact ih9 (wr (k0j53 + k1j53)) (wr (x6j53 + 1)) ((sR_wr _)) ((sR_wr _)) h
      have jn52 : ∀ (x6j52 : Int) (k0j52 : Int), sR x6j52 → sR k0j52 → s52_X12_isFree p1 p2 p3 1 x6j52 k0j52 i r Q (LoopP (b9_X12_isFree p1 p2 p3 1 i r Q) m9) → V Γ Δ 542 false i r 0 0 Q0 52 [(0, .ref (sA Δ 504)), (1, .int (sJ p1)), (2, .int (sJ p2)), (3, .int (sJ p3)), (5, .int (sJ 1)), (6, .int (sJ x6j52))] [.int (sJ k0j52)] := by
        intro x6j52 k0j52 hx6j52 hk0j52 h
        refine V.iconst (pc := 52) hG dX12_isFree_52 ?_
        exact jn53 x6j52 k0j52 0 hx6j52 hk0j52 ((sR_l rfl)) h
      refine V.iload (pc := 9) hG dX12_isFree_9 6 rfl ?_
      refine V.iload_n (pc := 11) hG dX12_isFree_11 rfl 1 rfl ?_
      obtain ⟨t97, f98⟩ := h
      refine V.icmp_ge (pc := 12) (tgt := 62) hG hx6_9 hp1 dX12_isFree_12 (by decide) (fun c96 => ?_) (fun c96 => ?_)
      · have h := t97 c96
        clear t97 f98
        refine V.iconst (pc := 62) hG dX12_isFree_62 ?_
        refine V.istore (pc := 63) (lv' := [(6, .int (sJ 0)), (0, .ref (sA Δ 504)), (1, .int (sJ p1)), (2, .int (sJ p2)), (3, .int (sJ p3)), (4, .int (sJ x4_9)), (5, .int (sJ 1))]) hG dX12_isFree_63 (by decide) rfl ?_
        obtain ⟨n99, h⟩ := h
        have lp65 : ∀ (m65 : Nat) (x5_65 : Int) (x6_65 : Int), sR x5_65 → sR x6_65 → LoopP (b65_X12_isFree p1 p2 p3 x4_9 i r Q) m65 (x5_65, x6_65) → V Γ Δ 542 false i r 0 0 Q0 65 [(0, .ref (sA Δ 504)), (1, .int (sJ p1)), (2, .int (sJ p2)), (3, .int (sJ p3)), (4, .int (sJ x4_9)), (5, .int (sJ x5_65)), (6, .int (sJ x6_65))] [] := by
          intro m65
          induction m65 with
          | zero => intro x5_65 x6_65 hx5_65 hx6_65 h; exact h.elim
          | succ m65 ih65 =>
            intro x5_65 x6_65 hx5_65 hx6_65 h
            have h := LoopP_succ h
            have jn152 : ∀ (x6j152 : Int) (k0j152 : Int), sR x6j152 → sR k0j152 → s152_X12_isFree p1 p2 p3 x4_9 x6j152 k0j152 i r Q (LoopP (b65_X12_isFree p1 p2 p3 x4_9 i r Q) m65) → V Γ Δ 542 false i r 0 0 Q0 152 [(0, .ref (sA Δ 504)), (1, .int (sJ p1)), (2, .int (sJ p2)), (3, .int (sJ p3)), (4, .int (sJ x4_9)), (6, .int (sJ x6j152))] [.int (sJ k0j152)] := by
              intro x6j152 k0j152 hx6j152 hk0j152 h
              refine V.istore (pc := 152) (lv' := [(5, .int (sJ k0j152)), (0, .ref (sA Δ 504)), (1, .int (sJ p1)), (2, .int (sJ p2)), (3, .int (sJ p3)), (4, .int (sJ x4_9)), (6, .int (sJ x6j152))]) hG dX12_isFree_152 (by decide) rfl ?_
              refine V.iinc (pc := 154) (lv' := [(6, .int (sJ (wr (x6j152 + 1)))), (5, .int (sJ k0j152)), (0, .ref (sA Δ 504)), (1, .int (sJ p1)), (2, .int (sJ p2)), (3, .int (sJ p3)), (4, .int (sJ x4_9))]) hG dX12_isFree_154 6 rfl (by decide) rfl ?_
              refine V.goto (pc := 157) (tgt := 65) hG dX12_isFree_157 (by decide) ?_
              refine V.pick [2, 3, 4, 5, 6, 1, 0] rfl ?_
              exact ih65 k0j152 (wr (x6j152 + 1)) hk0j152 ((sR_wr _)) h
            have jn151 : ∀ (x6j151 : Int), sR x6j151 → s151_X12_isFree p1 p2 p3 x4_9 x6j151 i r Q (LoopP (b65_X12_isFree p1 p2 p3 x4_9 i r Q) m65) → V Γ Δ 542 false i r 0 0 Q0 151 [(0, .ref (sA Δ 504)), (1, .int (sJ p1)), (2, .int (sJ p2)), (3, .int (sJ p3)), (4, .int (sJ x4_9)), (6, .int (sJ x6j151))] [] := by
              intro x6j151 hx6j151 h
              refine V.iconst (pc := 151) hG dX12_isFree_151 ?_
              exact jn152 x6j151 0 hx6j151 ((sR_l rfl)) h
            have jn147 : ∀ (x6j147 : Int), sR x6j147 → s147_X12_isFree p1 p2 p3 x4_9 x6j147 i r Q (LoopP (b65_X12_isFree p1 p2 p3 x4_9 i r Q) m65) → V Γ Δ 542 false i r 0 0 Q0 147 [(0, .ref (sA Δ 504)), (1, .int (sJ p1)), (2, .int (sJ p2)), (3, .int (sJ p3)), (4, .int (sJ x4_9)), (6, .int (sJ x6j147))] [] := by
              intro x6j147 hx6j147 h
              refine V.iconst (pc := 147) hG dX12_isFree_147 ?_
              refine V.goto (pc := 148) (tgt := 152) hG dX12_isFree_148 (by decide) ?_
              exact jn152 x6j147 1 hx6j147 ((sR_l rfl)) h
            have jn101 : ∀ (x5j101 : Int) (x6j101 : Int) (k0j101 : Int), sR x5j101 → sR x6j101 → sR k0j101 → s101_X12_isFree p1 p2 p3 x4_9 x5j101 x6j101 k0j101 i r Q (LoopP (b65_X12_isFree p1 p2 p3 x4_9 i r Q) m65) → V Γ Δ 542 false i r 0 0 Q0 101 [(0, .ref (sA Δ 504)), (1, .int (sJ p1)), (2, .int (sJ p2)), (3, .int (sJ p3)), (4, .int (sJ x4_9)), (5, .int (sJ x5j101)), (6, .int (sJ x6j101))] [.int (sJ k0j101)] := by
              intro x5j101 x6j101 k0j101 hx5j101 hx6j101 hk0j101 h
              refine V.istore (pc := 101) (lv' := [(7, .int (sJ k0j101)), (0, .ref (sA Δ 504)), (1, .int (sJ p1)), (2, .int (sJ p2)), (3, .int (sJ p3)), (4, .int (sJ x4_9)), (5, .int (sJ x5j101)), (6, .int (sJ x6j101))]) hG dX12_isFree_101 (by decide) rfl ?_
              refine V.iload (pc := 103) hG dX12_isFree_103 6 rfl ?_
              obtain ⟨t114, f115⟩ := h
              refine V.if_eq (pc := 105) (tgt := 151) hG hx5j101 dX12_isFree_105 (by decide) (fun c113 => ?_) (fun c113 => ?_)
              · have h := t114 c113
                clear t114 f115
                refine V.pick [1, 2, 3, 4, 5, 7] rfl ?_
                exact jn151 x6j101 hx6j101 h
              · have h := f115 c113
                clear t114 f115
                refine V.iload (pc := 108) hG dX12_isFree_108 0 rfl ?_
                obtain ⟨t117, f118⟩ := h
                refine V.if_eq (pc := 110) (tgt := 147) hG hk0j101 dX12_isFree_110 (by decide) (fun c116 => ?_) (fun c116 => ?_)
                · have h := t117 c116
                  clear t117 f118
                  refine V.pick [1, 2, 3, 4, 5, 7] rfl ?_
                  exact jn147 x6j101 hx6j101 h
                · have h := f118 c116
                  clear t117 f118
                  refine V.iload_n (pc := 113) hG dX12_isFree_113 rfl 3 rfl ?_
                  refine V.aload_n (pc := 114) hG dX12_isFree_114 rfl 1 rfl ?_
                  refine V.getR (x := 526) (pc := 115) (ci := 14) (k := 34) (M := 49) (T := TX12) (o := 504) (kz := 34) hG a_504 a_504.n (by decide) hin_X12 rfl (by decide) (by decide) rfl kw_1726 rfl ((hw).1 (504, 34, 526) (by decide)) (by decide) dX12_isFree_115 ?_
                  refine V.iload (pc := 118) hG dX12_isFree_118 7 rfl ?_
                  obtain ⟨g119, h⟩ := h
                  refine V.iald (pc := 120) (z := 20000) (o := 526) hG a_526 a_526.n hx6j101 g119 dX12_isFree_120 ?_
                  refine V.iadd (pc := 121) hG dX12_isFree_121 ?_
                  refine V.iload_n (pc := 122) hG dX12_isFree_122 rfl 4 rfl ?_
                  refine V.aload_n (pc := 123) hG dX12_isFree_123 rfl 1 rfl ?_
                  refine V.getR (x := 525) (pc := 124) (ci := 14) (k := 33) (M := 49) (T := TX12) (o := 504) (kz := 33) hG a_504 a_504.n (by decide) hin_X12 rfl (by decide) (by decide) rfl kw_1725 rfl ((hw).1 (504, 33, 525) (by decide)) (by decide) dX12_isFree_124 ?_
                  refine V.iload (pc := 127) hG dX12_isFree_127 7 rfl ?_
                  obtain ⟨g120, h⟩ := h
                  refine V.iald (pc := 129) (z := 20000) (o := 525) hG a_525 a_525.n hx6j101 g120 dX12_isFree_129 ?_
                  refine V.imul (pc := 130) hG dX12_isFree_130 ?_
                  refine V.isub (pc := 131) hG dX12_isFree_131 ?_
                  refine V.aload_n (pc := 132) hG dX12_isFree_132 rfl 1 rfl ?_
                  refine V.getR (x := 532) (pc := 133) (ci := 14) (k := 40) (M := 49) (T := TX12) (o := 504) (kz := 40) hG a_504 a_504.n (by decide) hin_X12 rfl (by decide) (by decide) rfl kw_1732 rfl ((hw).1 (504, 40, 532) (by decide)) (by decide) dX12_isFree_133 ?_
                  refine V.aload_n (pc := 136) hG dX12_isFree_136 rfl 1 rfl ?_
                  refine V.getR (x := 524) (pc := 137) (ci := 14) (k := 32) (M := 49) (T := TX12) (o := 504) (kz := 32) hG a_504 a_504.n (by decide) hin_X12 rfl (by decide) (by decide) rfl kw_1724 rfl ((hw).1 (504, 32, 524) (by decide)) (by decide) dX12_isFree_137 ?_
                  refine V.iload (pc := 140) hG dX12_isFree_140 7 rfl ?_
                  obtain ⟨g121, h⟩ := h
                  refine V.iald (pc := 142) (z := 20000) (o := 524) hG a_524 a_524.n hx6j101 g121 dX12_isFree_142 ?_
                  obtain ⟨g122, h⟩ := h
                  refine V.iald (pc := 143) (z := 96) (o := 532) hG a_532 a_532.n ((hi _ _)) g122 dX12_isFree_143 ?_
                  obtain ⟨t124, f125⟩ := h
                  refine V.icmp_gt (pc := 144) (tgt := 151) hG ((sR_wr _)) ((hi _ _)) dX12_isFree_144 (by decide) (fun c123 => ?_) (fun c123 => ?_)
                  · have h := t124 c123
                    clear t124 f125
                    refine V.pick [1, 2, 3, 4, 5, 7] rfl ?_
                    exact jn151 x6j101 hx6j101 h
                  · have h := f125 c123
                    clear t124 f125
                    refine V.pick [1, 2, 3, 4, 5, 7] rfl ?_
                    exact jn147 x6j101 hx6j101 h
            have jn100 : ∀ (x5j100 : Int) (x6j100 : Int), sR x5j100 → sR x6j100 → s100_X12_isFree p1 p2 p3 x4_9 x5j100 x6j100 i r Q (LoopP (b65_X12_isFree p1 p2 p3 x4_9 i r Q) m65) → V Γ Δ 542 false i r 0 0 Q0 100 [(0, .ref (sA Δ 504)), (1, .int (sJ p1)), (2, .int (sJ p2)), (3, .int (sJ p3)), (4, .int (sJ x4_9)), (5, .int (sJ x5j100)), (6, .int (sJ x6j100))] [] := by
              intro x5j100 x6j100 hx5j100 hx6j100 h
              refine V.iconst (pc := 100) hG dX12_isFree_100 ?_
              exact jn101 x5j100 x6j100 0 hx5j100 hx6j100 ((sR_l rfl)) h
            refine V.iload (pc := 65) hG dX12_isFree_65 6 rfl ?_
            refine V.aload_n (pc := 67) hG dX12_isFree_67 rfl 0 rfl ?_
            refine V.getI (pc := 68) (ci := 14) (k := 30) (M := 49) (T := TX12) (o := 504) (kz := 30) hG a_504 a_504.n (by decide) hin_X12 rfl (by decide) (by decide) rfl kw_1722 rfl dX12_isFree_68 ?_
            obtain ⟨t127, f128⟩ := h
            refine V.icmp_ge (pc := 71) (tgt := 160) hG hx6_65 ((hi _ _)) dX12_isFree_71 (by decide) (fun c126 => ?_) (fun c126 => ?_)
            · have h := t127 c126
              clear t127 f128
              refine V.iload (pc := 160) hG dX12_isFree_160 5 rfl ?_
              obtain ⟨t130, f131⟩ := h
              refine V.if_eq (pc := 162) (tgt := 185) hG hx5_65 dX12_isFree_162 (by decide) (fun c129 => ?_) (fun c129 => ?_)
              · have h := t130 c129
                clear t130 f131
                refine V.pick [] rfl ?_
                exact jn185 h
              · have h := f131 c129
                clear t130 f131
                refine V.iload (pc := 165) hG dX12_isFree_165 4 rfl ?_
                refine V.aload_n (pc := 167) hG dX12_isFree_167 rfl 0 rfl ?_
                refine V.getR (x := 510) (pc := 168) (ci := 14) (k := 14) (M := 49) (T := TX12) (o := 504) (kz := 14) hG a_504 a_504.n (by decide) hin_X12 rfl (by decide) (by decide) rfl kw_1706 rfl ((hw).1 (504, 14, 510) (by decide)) (by decide) dX12_isFree_168 ?_
                refine V.aload_n (pc := 171) hG dX12_isFree_171 rfl 0 rfl ?_
                refine V.getR (x := 517) (pc := 172) (ci := 14) (k := 24) (M := 49) (T := TX12) (o := 504) (kz := 24) hG a_504 a_504.n (by decide) hin_X12 rfl (by decide) (by decide) rfl kw_1716 rfl ((hw).1 (504, 24, 517) (by decide)) (by decide) dX12_isFree_172 ?_
                refine V.iload_n (pc := 175) hG dX12_isFree_175 rfl 1 rfl ?_
                obtain ⟨g132, h⟩ := h
                refine V.iald (pc := 176) (z := 96) (o := 517) hG a_517 a_517.n hp1 g132 dX12_isFree_176 ?_
                obtain ⟨g133, h⟩ := h
                refine V.iald (pc := 177) (z := 7) (o := 510) hG a_510 a_510.n ((hi _ _)) g133 dX12_isFree_177 ?_
                obtain ⟨t135, f136⟩ := h
                refine V.icmp_ge (pc := 178) (tgt := 185) hG hx4_9 ((hi _ _)) dX12_isFree_178 (by decide) (fun c134 => ?_) (fun c134 => ?_)
                · have h := t135 c134
                  clear t135 f136
                  refine V.pick [] rfl ?_
                  exact jn185 h
                · have h := f136 c134
                  clear t135 f136
                  refine V.iconst (pc := 181) hG dX12_isFree_181 ?_
                  refine V.goto (pc := 182) (tgt := 186) hG dX12_isFree_182 (by decide) ?_
                  refine V.pick [] rfl ?_
                  exact jn186 1 ((sR_l rfl)) h
            · have h := f128 c126
              clear t127 f128
              refine V.aload_n (pc := 74) hG dX12_isFree_74 rfl 0 rfl ?_
              refine V.getR (x := 523) (pc := 75) (ci := 14) (k := 31) (M := 49) (T := TX12) (o := 504) (kz := 31) hG a_504 a_504.n (by decide) hin_X12 rfl (by decide) (by decide) rfl kw_1723 rfl ((hw).1 (504, 31, 523) (by decide)) (by decide) dX12_isFree_75 ?_
              refine V.iload (pc := 78) hG dX12_isFree_78 6 rfl ?_
              obtain ⟨g137, h⟩ := h
              refine V.iald (pc := 80) (z := 20000) (o := 523) hG a_523 a_523.n hx6_65 g137 dX12_isFree_80 ?_
              refine V.iload_n (pc := 81) hG dX12_isFree_81 rfl 1 rfl ?_
              obtain ⟨f140, t139⟩ := h
              refine V.icmp_ne (pc := 82) (tgt := 100) hG ((hi _ _)) hp1 dX12_isFree_82 (by decide) (fun c138 => ?_) (fun c138 => ?_)
              · have h := t139 c138
                clear t139 f140
                exact jn100 x5_65 x6_65 hx5_65 hx6_65 h
              · have h := f140 c138
                clear t139 f140
                refine V.aload_n (pc := 85) hG dX12_isFree_85 rfl 0 rfl ?_
                refine V.getR (x := 524) (pc := 86) (ci := 14) (k := 32) (M := 49) (T := TX12) (o := 504) (kz := 32) hG a_504 a_504.n (by decide) hin_X12 rfl (by decide) (by decide) rfl kw_1724 rfl ((hw).1 (504, 32, 524) (by decide)) (by decide) dX12_isFree_86 ?_
                refine V.iload (pc := 89) hG dX12_isFree_89 6 rfl ?_
                obtain ⟨g141, h⟩ := h
                refine V.iald (pc := 91) (z := 20000) (o := 524) hG a_524 a_524.n hx6_65 g141 dX12_isFree_91 ?_
                refine V.iload_n (pc := 92) hG dX12_isFree_92 rfl 1 rfl ?_
                obtain ⟨t143, f144⟩ := h
                refine V.icmp_ge (pc := 93) (tgt := 100) hG ((hi _ _)) hp1 dX12_isFree_93 (by decide) (fun c142 => ?_) (fun c142 => ?_)
                · have h := t143 c142
                  clear t143 f144
                  exact jn100 x5_65 x6_65 hx5_65 hx6_65 h
                · have h := f144 c142
                  clear t143 f144
                  refine V.iconst (pc := 96) hG dX12_isFree_96 ?_
                  refine V.goto (pc := 97) (tgt := 101) hG dX12_isFree_97 (by decide) ?_
                  exact jn101 x5_65 x6_65 1 hx5_65 hx6_65 ((sR_l rfl)) h
        refine V.pick [1, 2, 3, 4, 5, 6, 0] rfl ?_
        exact lp65 n99 1 0 ((sR_l rfl)) ((sR_l rfl)) h
      · have h := f98 c96
        clear t97 f98
        refine V.iload (pc := 15) hG dX12_isFree_15 4 rfl ?_
        refine V.aload_n (pc := 17) hG dX12_isFree_17 rfl 0 rfl ?_
        refine V.getR (x := 517) (pc := 18) (ci := 14) (k := 24) (M := 49) (T := TX12) (o := 504) (kz := 24) hG a_504 a_504.n (by decide) hin_X12 rfl (by decide) (by decide) rfl kw_1716 rfl ((hw).1 (504, 24, 517) (by decide)) (by decide) dX12_isFree_18 ?_
        refine V.iload (pc := 21) hG dX12_isFree_21 6 rfl ?_
        obtain ⟨g145, h⟩ := h
        refine V.iald (pc := 23) (z := 96) (o := 517) hG a_517 a_517.n hx6_9 g145 dX12_isFree_23 ?_
        refine V.aload_n (pc := 24) hG dX12_isFree_24 rfl 0 rfl ?_
        refine V.getR (x := 517) (pc := 25) (ci := 14) (k := 24) (M := 49) (T := TX12) (o := 504) (kz := 24) hG a_504 a_504.n (by decide) hin_X12 rfl (by decide) (by decide) rfl kw_1716 rfl ((hw).1 (504, 24, 517) (by decide)) (by decide) dX12_isFree_25 ?_
        refine V.iload_n (pc := 28) hG dX12_isFree_28 rfl 1 rfl ?_
        obtain ⟨g146, h⟩ := h
        refine V.iald (pc := 29) (z := 96) (o := 517) hG a_517 a_517.n hp1 g146 dX12_isFree_29 ?_
        obtain ⟨f149, t148⟩ := h
        refine V.icmp_ne (pc := 30) (tgt := 52) hG ((hi _ _)) ((hi _ _)) dX12_isFree_30 (by decide) (fun c147 => ?_) (fun c147 => ?_)
        · have h := t148 c147
          clear t148 f149
          refine V.pick [0, 1, 2, 3, 5, 6] rfl ?_
          exact jn52 x6_9 x4_9 hx6_9 hx4_9 h
        · have h := f149 c147
          clear t148 f149
          refine V.aload_n (pc := 33) hG dX12_isFree_33 rfl 0 rfl ?_
          refine V.getR (x := 532) (pc := 34) (ci := 14) (k := 40) (M := 49) (T := TX12) (o := 504) (kz := 40) hG a_504 a_504.n (by decide) hin_X12 rfl (by decide) (by decide) rfl kw_1732 rfl ((hw).1 (504, 40, 532) (by decide)) (by decide) dX12_isFree_34 ?_
          refine V.iload (pc := 37) hG dX12_isFree_37 6 rfl ?_
          obtain ⟨g150, h⟩ := h
          refine V.iald (pc := 39) (z := 96) (o := 532) hG a_532 a_532.n hx6_9 g150 dX12_isFree_39 ?_
          refine V.iload_n (pc := 40) hG dX12_isFree_40 rfl 3 rfl ?_
          obtain ⟨g151, h⟩ := h
          refine V.irem (pc := 41) hG ((hi _ _)) hp3 g151 dX12_isFree_41 ?_
          refine V.iload_n (pc := 42) hG dX12_isFree_42 rfl 2 rfl ?_
          refine V.iload_n (pc := 43) hG dX12_isFree_43 rfl 3 rfl ?_
          obtain ⟨g152, h⟩ := h
          refine V.irem (pc := 44) hG hp2 hp3 g152 dX12_isFree_44 ?_
          obtain ⟨f155, t154⟩ := h
          refine V.icmp_ne (pc := 45) (tgt := 52) hG ((sR_tmod ((hi _ _)))) ((sR_tmod hp2)) dX12_isFree_45 (by decide) (fun c153 => ?_) (fun c153 => ?_)
          · have h := t154 c153
            clear t154 f155
            refine V.pick [0, 1, 2, 3, 5, 6] rfl ?_
            exact jn52 x6_9 x4_9 hx6_9 hx4_9 h
          · have h := f155 c153
            clear t154 f155
            refine V.iconst (pc := 48) hG dX12_isFree_48 ?_
            refine V.goto (pc := 49) (tgt := 53) hG dX12_isFree_49 (by decide) ?_
            refine V.pick [0, 1, 2, 3, 5, 6] rfl ?_
            exact jn53 x6_9 x4_9 1 hx6_9 hx4_9 ((sR_l rfl)) h
  refine V.pick [3, 4, 5, 6, 2, 1, 0] rfl ?_
  exact lp9 n95 0 0 ((sR_l rfl)) ((sR_l rfl)) h
set_option maxRecDepth 100000 in
set_option maxHeartbeats 4000000 in
theorem sm_X12_canPlace (l : Launch) (Δ : Wd) {i r : MI} {p1 : Int} (hp1 : sR p1) {Q : Int → MI → Prop} (hi : okI i) (hw : Wf r) (h : wp_X12_canPlace p1 i r Q) : Met l yX12_canPlace (Cond.code yX12_canPlace cX12_canPlace 6 (some .boolean) :: gW) (sRm 1 27) (sPc Δ [.ref (sA Δ 504), .int (sJ p1)] i r) (sQi Δ (fun x i' r' => r = r' ∧ Q x i')) 0 0 (sFr Δ) := by
  refine Ct.i (ty := .boolean) (by decide) rfl (Nat.le_of_ble_eq_true rfl) (fun Γ Q0 hG fin => ?_)
  have hG : okG Γ Δ l (sRm 1 27) cX12_canPlace "SchedularyModel" 6 := hG
  show V Γ Δ 542 false i r 0 0 Q0 0 [(0, .ref (sA Δ 504)), (1, .int (sJ p1))] []
  refine V.iconst (pc := 0) hG dX12_canPlace_0 ?_
  refine V.istore_n (pc := 1) (lv' := [(2, .int (sJ 0)), (0, .ref (sA Δ 504)), (1, .int (sJ p1))]) hG dX12_canPlace_1 rfl (by decide) rfl ?_
  obtain ⟨n99, h⟩ := h
  have lp2 : ∀ (m2 : Nat) (x2_2 : Int) (i_2 : MI), sR x2_2 → okI i_2 → LoopP (b2_X12_canPlace p1 r Q) m2 (x2_2, i_2) → V Γ Δ 542 false i_2 r 0 0 Q0 2 [(0, .ref (sA Δ 504)), (1, .int (sJ p1)), (2, .int (sJ x2_2))] [] := by
    intro m2
    induction m2 with
    | zero => intro x2_2 i_2 hx2_2 hi_2 h; exact h.elim
    | succ m2 ih2 =>
      intro x2_2 i_2 hx2_2 hi_2 h
      have h := LoopP_succ h
      have jn131 : ∀ (x2j131 : Int) (x3j131 : Int) (x4j131 : Int) (ij131 : MI), sR x2j131 → sR x3j131 → sR x4j131 → okI ij131 → s131_X12_canPlace p1 x2j131 x3j131 x4j131 ij131 r Q (LoopP (b2_X12_canPlace p1 r Q) m2) → V Γ Δ 542 false ij131 r 0 0 Q0 131 [(0, .ref (sA Δ 504)), (1, .int (sJ p1)), (2, .int (sJ x2j131)), (3, .int (sJ x3j131)), (4, .int (sJ x4j131))] [] := by
        intro x2j131 x3j131 x4j131 ij131 hx2j131 hx3j131 hx4j131 hij131 h
        refine V.iload (pc := 131) hG dX12_canPlace_131 4 rfl ?_
        refine V.iload_n (pc := 133) hG dX12_canPlace_133 rfl 3 rfl ?_
        refine V.iload_n (pc := 134) hG dX12_canPlace_134 rfl 1 rfl ?_
        refine V.iadd (pc := 135) hG dX12_canPlace_135 ?_
        obtain ⟨f106, t105⟩ := h
        refine V.icmp_ne (pc := 136) (tgt := 141) hG hx4j131 ((sR_wr _)) dX12_canPlace_136 (by decide) (fun c104 => ?_) (fun c104 => ?_)
        · have h := t105 c104
          clear t105 f106
          refine V.aload_n (pc := 141) hG dX12_canPlace_141 rfl 0 rfl ?_
          refine V.getR (x := 532) (pc := 142) (ci := 14) (k := 40) (M := 49) (T := TX12) (o := 504) (kz := 40) hG a_504 a_504.n (by decide) hin_X12 rfl (by decide) (by decide) rfl kw_1732 rfl ((hw).1 (504, 40, 532) (by decide)) (by decide) dX12_canPlace_142 ?_
          refine V.iload_n (pc := 145) hG dX12_canPlace_145 rfl 2 rfl ?_
          refine V.iload (pc := 146) hG dX12_canPlace_146 4 rfl ?_
          obtain ⟨g107, h⟩ := h
          refine V.iast (pc := 148) (z := 96) (o := 532) hG a_532 a_532.n hx2j131 g107 dX12_canPlace_148 ?_
          refine V.iinc (pc := 149) (lv' := [(2, .int (sJ (wr (x2j131 + 1)))), (0, .ref (sA Δ 504)), (1, .int (sJ p1)), (3, .int (sJ x3j131)), (4, .int (sJ x4j131))]) hG dX12_canPlace_149 2 rfl (by decide) rfl ?_
          refine V.goto (pc := 152) (tgt := 2) hG dX12_canPlace_152 (by decide) ?_
          refine V.pick [1, 2, 0] rfl ?_
          exact ih2 (wr (x2j131 + 1)) (st ij131 532 x2j131 x4j131) ((sR_wr _)) ((okI_st hij131 hx4j131)) h
        · have h := f106 c104
          clear t105 f106
          refine V.iconst (pc := 139) hG dX12_canPlace_139 ?_
          exact fin dX12_canPlace_140 ((sR_l rfl)) (nar_z (by decide)) hij131 hw ⟨rfl, h⟩
      refine V.iload_n (pc := 2) hG dX12_canPlace_2 rfl 2 rfl ?_
      refine V.aload_n (pc := 3) hG dX12_canPlace_3 rfl 0 rfl ?_
      refine V.getI (pc := 4) (ci := 14) (k := 21) (M := 49) (T := TX12) (o := 504) (kz := 21) hG a_504 a_504.n (by decide) hin_X12 rfl (by decide) (by decide) rfl kw_1713 rfl dX12_canPlace_4 ?_
      obtain ⟨t109, f110⟩ := h
      refine V.icmp_ge (pc := 7) (tgt := 155) hG hx2_2 ((hi_2 _ _)) dX12_canPlace_7 (by decide) (fun c108 => ?_) (fun c108 => ?_)
      · have h := t109 c108
        clear t109 f110
        refine V.iconst (pc := 155) hG dX12_canPlace_155 ?_
        exact fin dX12_canPlace_156 ((sR_l rfl)) (nar_z (by decide)) hi_2 hw ⟨rfl, h⟩
      · have h := f110 c108
        clear t109 f110
        refine V.iconst (pc := 10) hG dX12_canPlace_10 ?_
        refine V.istore_n (pc := 11) (lv' := [(3, .int (sJ 0)), (0, .ref (sA Δ 504)), (1, .int (sJ p1)), (2, .int (sJ x2_2))]) hG dX12_canPlace_11 rfl (by decide) rfl ?_
        refine V.iconst (pc := 12) hG dX12_canPlace_12 ?_
        refine V.istore (pc := 13) (lv' := [(4, .int (sJ 0)), (3, .int (sJ 0)), (0, .ref (sA Δ 504)), (1, .int (sJ p1)), (2, .int (sJ x2_2))]) hG dX12_canPlace_13 (by decide) rfl ?_
        obtain ⟨n111, h⟩ := h
        have lp15 : ∀ (m15 : Nat) (x3_15 : Int) (x4_15 : Int), sR x3_15 → sR x4_15 → LoopP (b15_X12_canPlace p1 x2_2 i_2 r Q (LoopP (b2_X12_canPlace p1 r Q) m2)) m15 (x3_15, x4_15) → V Γ Δ 542 false i_2 r 0 0 Q0 15 [(0, .ref (sA Δ 504)), (1, .int (sJ p1)), (2, .int (sJ x2_2)), (3, .int (sJ x3_15)), (4, .int (sJ x4_15))] [] := by
          intro m15
          induction m15 with
          | zero => intro x3_15 x4_15 hx3_15 hx4_15 h; exact h.elim
          | succ m15 ih15 =>
            intro x3_15 x4_15 hx3_15 hx4_15 h
            have h := LoopP_succ h
            have jn96 : ∀ (x4j96 : Int) (k0j96 : Int), sR x4j96 → sR k0j96 → s96_X12_canPlace p1 x2_2 x4j96 k0j96 i_2 r Q (LoopP (b2_X12_canPlace p1 r Q) m2) (LoopP (b15_X12_canPlace p1 x2_2 i_2 r Q (LoopP (b2_X12_canPlace p1 r Q) m2)) m15) → V Γ Δ 542 false i_2 r 0 0 Q0 96 [(0, .ref (sA Δ 504)), (1, .int (sJ p1)), (2, .int (sJ x2_2)), (4, .int (sJ x4j96))] [.int (sJ k0j96)] := by
              intro x4j96 k0j96 hx4j96 hk0j96 h
              refine V.istore_n (pc := 96) (lv' := [(3, .int (sJ k0j96)), (0, .ref (sA Δ 504)), (1, .int (sJ p1)), (2, .int (sJ x2_2)), (4, .int (sJ x4j96))]) hG dX12_canPlace_96 rfl (by decide) rfl ?_
              refine V.iinc (pc := 97) (lv' := [(4, .int (sJ (wr (x4j96 + 1)))), (3, .int (sJ k0j96)), (0, .ref (sA Δ 504)), (1, .int (sJ p1)), (2, .int (sJ x2_2))]) hG dX12_canPlace_97 4 rfl (by decide) rfl ?_
              refine V.goto (pc := 100) (tgt := 15) hG dX12_canPlace_100 (by decide) ?_
              refine V.pick [2, 3, 4, 1, 0] rfl ?_
              exact ih15 k0j96 (wr (x4j96 + 1)) hk0j96 ((sR_wr _)) h
            have jn51 : ∀ (x3j51 : Int) (x4j51 : Int) (k0j51 : Int), sR x3j51 → sR x4j51 → sR k0j51 → s51_X12_canPlace p1 x2_2 x3j51 x4j51 k0j51 i_2 r Q (LoopP (b2_X12_canPlace p1 r Q) m2) (LoopP (b15_X12_canPlace p1 x2_2 i_2 r Q (LoopP (b2_X12_canPlace p1 r Q) m2)) m15) → V Γ Δ 542 false i_2 r 0 0 Q0 51 [(0, .ref (sA Δ 504)), (1, .int (sJ p1)), (2, .int (sJ x2_2)), (3, .int (sJ x3j51)), (4, .int (sJ x4j51))] [.int (sJ k0j51)] := by
              intro x3j51 x4j51 k0j51 hx3j51 hx4j51 hk0j51 h
              refine V.istore (pc := 51) (lv' := [(5, .int (sJ k0j51)), (0, .ref (sA Δ 504)), (1, .int (sJ p1)), (2, .int (sJ x2_2)), (3, .int (sJ x3j51)), (4, .int (sJ x4j51))]) hG dX12_canPlace_51 (by decide) rfl ?_
              refine V.iload (pc := 53) hG dX12_canPlace_53 0 rfl ?_
              obtain ⟨t120, f121⟩ := h
              refine V.if_eq (pc := 55) (tgt := 95) hG hk0j51 dX12_canPlace_55 (by decide) (fun c119 => ?_) (fun c119 => ?_)
              · have h := t120 c119
                clear t120 f121
                refine V.iload_n (pc := 95) hG dX12_canPlace_95 rfl 4 rfl ?_
                refine V.pick [1, 2, 3, 5] rfl ?_
                exact jn96 x4j51 x3j51 hx4j51 hx3j51 h
              · have h := f121 c119
                clear t120 f121
                refine V.iload_n (pc := 58) hG dX12_canPlace_58 rfl 4 rfl ?_
                refine V.aload_n (pc := 59) hG dX12_canPlace_59 rfl 1 rfl ?_
                refine V.getR (x := 532) (pc := 60) (ci := 14) (k := 40) (M := 49) (T := TX12) (o := 504) (kz := 40) hG a_504 a_504.n (by decide) hin_X12 rfl (by decide) (by decide) rfl kw_1732 rfl ((hw).1 (504, 40, 532) (by decide)) (by decide) dX12_canPlace_60 ?_
                refine V.aload_n (pc := 63) hG dX12_canPlace_63 rfl 1 rfl ?_
                refine V.getR (x := 523) (pc := 64) (ci := 14) (k := 31) (M := 49) (T := TX12) (o := 504) (kz := 31) hG a_504 a_504.n (by decide) hin_X12 rfl (by decide) (by decide) rfl kw_1723 rfl ((hw).1 (504, 31, 523) (by decide)) (by decide) dX12_canPlace_64 ?_
                refine V.iload (pc := 67) hG dX12_canPlace_67 5 rfl ?_
                obtain ⟨g122, h⟩ := h
                refine V.iald (pc := 69) (z := 20000) (o := 523) hG a_523 a_523.n hx4j51 g122 dX12_canPlace_69 ?_
                obtain ⟨g123, h⟩ := h
                refine V.iald (pc := 70) (z := 96) (o := 532) hG a_532 a_532.n ((hi_2 _ _)) g123 dX12_canPlace_70 ?_
                refine V.aload_n (pc := 71) hG dX12_canPlace_71 rfl 1 rfl ?_
                refine V.getR (x := 526) (pc := 72) (ci := 14) (k := 34) (M := 49) (T := TX12) (o := 504) (kz := 34) hG a_504 a_504.n (by decide) hin_X12 rfl (by decide) (by decide) rfl kw_1726 rfl ((hw).1 (504, 34, 526) (by decide)) (by decide) dX12_canPlace_72 ?_
                refine V.iload (pc := 75) hG dX12_canPlace_75 5 rfl ?_
                obtain ⟨g124, h⟩ := h
                refine V.iald (pc := 77) (z := 20000) (o := 526) hG a_526 a_526.n hx4j51 g124 dX12_canPlace_77 ?_
                refine V.iadd (pc := 78) hG dX12_canPlace_78 ?_
                refine V.iload_n (pc := 79) hG dX12_canPlace_79 rfl 2 rfl ?_
                refine V.aload_n (pc := 80) hG dX12_canPlace_80 rfl 1 rfl ?_
                refine V.getR (x := 525) (pc := 81) (ci := 14) (k := 33) (M := 49) (T := TX12) (o := 504) (kz := 33) hG a_504 a_504.n (by decide) hin_X12 rfl (by decide) (by decide) rfl kw_1725 rfl ((hw).1 (504, 33, 525) (by decide)) (by decide) dX12_canPlace_81 ?_
                refine V.iload (pc := 84) hG dX12_canPlace_84 5 rfl ?_
                obtain ⟨g125, h⟩ := h
                refine V.iald (pc := 86) (z := 20000) (o := 525) hG a_525 a_525.n hx4j51 g125 dX12_canPlace_86 ?_
                refine V.imul (pc := 87) hG dX12_canPlace_87 ?_
                refine V.isub (pc := 88) hG dX12_canPlace_88 ?_
                refine V.mmax (pc := 89) hG hx3j51 ((sR_wr _)) kw_1955 kw_680 kw_173 kw_max ⟨Nat.le_of_ble_eq_true rfl, Nat.le_of_ble_eq_true rfl, Nat.le_of_ble_eq_true rfl, Nat.le_of_ble_eq_true rfl⟩ dX12_canPlace_89 ?_
                refine V.goto (pc := 92) (tgt := 96) hG dX12_canPlace_92 (by decide) ?_
                refine V.pick [1, 2, 3, 5] rfl ?_
                exact jn96 x4j51 (max x3j51 (wr (wr (i_2 532 (i_2 523 x4j51) + i_2 526 x4j51) - wr (p1 * i_2 525 x4j51)))) hx4j51 ((sR_max hx3j51 ((sR_wr _)))) h
            have jn50 : ∀ (x3j50 : Int) (x4j50 : Int), sR x3j50 → sR x4j50 → s50_X12_canPlace p1 x2_2 x3j50 x4j50 i_2 r Q (LoopP (b2_X12_canPlace p1 r Q) m2) (LoopP (b15_X12_canPlace p1 x2_2 i_2 r Q (LoopP (b2_X12_canPlace p1 r Q) m2)) m15) → V Γ Δ 542 false i_2 r 0 0 Q0 50 [(0, .ref (sA Δ 504)), (1, .int (sJ p1)), (2, .int (sJ x2_2)), (3, .int (sJ x3j50)), (4, .int (sJ x4j50))] [] := by
              intro x3j50 x4j50 hx3j50 hx4j50 h
              refine V.iconst (pc := 50) hG dX12_canPlace_50 ?_
              exact jn51 x3j50 x4j50 0 hx3j50 hx4j50 ((sR_l rfl)) h
            refine V.iload (pc := 15) hG dX12_canPlace_15 4 rfl ?_
            refine V.aload_n (pc := 17) hG dX12_canPlace_17 rfl 0 rfl ?_
            refine V.getI (pc := 18) (ci := 14) (k := 30) (M := 49) (T := TX12) (o := 504) (kz := 30) hG a_504 a_504.n (by decide) hin_X12 rfl (by decide) (by decide) rfl kw_1722 rfl dX12_canPlace_18 ?_
            obtain ⟨t127, f128⟩ := h
            refine V.icmp_ge (pc := 21) (tgt := 103) hG hx4_15 ((hi_2 _ _)) dX12_canPlace_21 (by decide) (fun c126 => ?_) (fun c126 => ?_)
            · have h := t127 c126
              clear t127 f128
              refine V.iload_n (pc := 103) hG dX12_canPlace_103 rfl 3 rfl ?_
              refine V.istore (pc := 104) (lv' := [(4, .int (sJ x3_15)), (0, .ref (sA Δ 504)), (1, .int (sJ p1)), (2, .int (sJ x2_2)), (3, .int (sJ x3_15))]) hG dX12_canPlace_104 (by decide) rfl ?_
              obtain ⟨n129, h⟩ := h
              have lp106 : ∀ (m106 : Nat) (x4_106 : Int), sR x4_106 → LoopP (b106_X12_canPlace p1 x2_2 x3_15 i_2 r Q (LoopP (b2_X12_canPlace p1 r Q) m2)) m106 (x4_106) → V Γ Δ 542 false i_2 r 0 0 Q0 106 [(0, .ref (sA Δ 504)), (1, .int (sJ p1)), (2, .int (sJ x2_2)), (3, .int (sJ x3_15)), (4, .int (sJ x4_106))] [] := by
                intro m106
                induction m106 with
                | zero => intro x4_106 hx4_106 h; exact h.elim
                | succ m106 ih106 =>
                  intro x4_106 hx4_106 h
                  have h := LoopP_succ h
                  refine V.iload (pc := 106) hG dX12_canPlace_106 4 rfl ?_
                  refine V.iload_n (pc := 108) hG dX12_canPlace_108 rfl 3 rfl ?_
                  refine V.iload_n (pc := 109) hG dX12_canPlace_109 rfl 1 rfl ?_
                  refine V.iadd (pc := 110) hG dX12_canPlace_110 ?_
                  obtain ⟨t131, f132⟩ := h
                  refine V.icmp_ge (pc := 111) (tgt := 131) hG hx4_106 ((sR_wr _)) dX12_canPlace_111 (by decide) (fun c130 => ?_) (fun c130 => ?_)
                  · have h := t131 c130
                    clear t131 f132
                    exact jn131 x2_2 x3_15 x4_106 i_2 hx2_2 hx3_15 hx4_106 hi_2 h
                  · have h := f132 c130
                    clear t131 f132
                    refine V.aload_n (pc := 114) hG dX12_canPlace_114 rfl 0 rfl ?_
                    refine V.iload_n (pc := 115) hG dX12_canPlace_115 rfl 2 rfl ?_
                    refine V.iload (pc := 116) hG dX12_canPlace_116 4 rfl ?_
                    refine V.iload_n (pc := 118) hG dX12_canPlace_118 rfl 1 rfl ?_
                    refine V.callVi (pc := 119) (As := [.int (sJ x2_2), .int (sJ x4_106), .int (sJ p1)]) (stk := []) hG (sm_X12_isFree l Δ hx2_2 hx4_106 hp1 hi_2 hw h) mY_X12_isFree kw_2161 kw_2163 kw_147 a_504 (by decide) (q := (RX12, TX12, 49)) rfl rfl ⟨Nat.le_of_ble_eq_true rfl, Nat.le_of_ble_eq_true rfl, Nat.le_of_ble_eq_true rfl, Nat.le_of_ble_eq_true rfl⟩ rfl (Nat.le_of_ble_eq_true rfl) dX12_canPlace_119 rfl (fun v133 i134 r135 hv136 hi137 hw138 hq139 => ?_)
                    obtain ⟨e143, e144, h⟩ := hq139
                    subst e143
                    subst e144
                    obtain ⟨f142, t141⟩ := h
                    refine V.if_ne (pc := 122) (tgt := 131) hG hv136 dX12_canPlace_122 (by decide) (fun c140 => ?_) (fun c140 => ?_)
                    · have h := t141 c140
                      clear t141 f142
                      exact jn131 x2_2 x3_15 x4_106 i_2 hx2_2 hx3_15 hx4_106 hi_2 h
                    · have h := f142 c140
                      clear t141 f142
                      refine V.iinc (pc := 125) (lv' := [(4, .int (sJ (wr (x4_106 + 1)))), (0, .ref (sA Δ 504)), (1, .int (sJ p1)), (2, .int (sJ x2_2)), (3, .int (sJ x3_15))]) hG dX12_canPlace_125 4 rfl (by decide) rfl ?_
                      refine V.goto (pc := 128) (tgt := 106) hG dX12_canPlace_128 (by decide) ?_
                      refine V.pick [1, 2, 3, 4, 0] rfl ?_
                      exact ih106 (wr (x4_106 + 1)) ((sR_wr _)) h
              refine V.pick [1, 2, 3, 4, 0] rfl ?_
              exact lp106 n129 x3_15 hx3_15 h
            · have h := f128 c126
              clear t127 f128
              refine V.aload_n (pc := 24) hG dX12_canPlace_24 rfl 0 rfl ?_
              refine V.getR (x := 524) (pc := 25) (ci := 14) (k := 32) (M := 49) (T := TX12) (o := 504) (kz := 32) hG a_504 a_504.n (by decide) hin_X12 rfl (by decide) (by decide) rfl kw_1724 rfl ((hw).1 (504, 32, 524) (by decide)) (by decide) dX12_canPlace_25 ?_
              refine V.iload (pc := 28) hG dX12_canPlace_28 4 rfl ?_
              obtain ⟨g145, h⟩ := h
              refine V.iald (pc := 30) (z := 20000) (o := 524) hG a_524 a_524.n hx4_15 g145 dX12_canPlace_30 ?_
              refine V.iload_n (pc := 31) hG dX12_canPlace_31 rfl 2 rfl ?_
              obtain ⟨f148, t147⟩ := h
              refine V.icmp_ne (pc := 32) (tgt := 50) hG ((hi_2 _ _)) hx2_2 dX12_canPlace_32 (by decide) (fun c146 => ?_) (fun c146 => ?_)
              · have h := t147 c146
                clear t147 f148
                exact jn50 x3_15 x4_15 hx3_15 hx4_15 h
              · have h := f148 c146
                clear t147 f148
                refine V.aload_n (pc := 35) hG dX12_canPlace_35 rfl 0 rfl ?_
                refine V.getR (x := 523) (pc := 36) (ci := 14) (k := 31) (M := 49) (T := TX12) (o := 504) (kz := 31) hG a_504 a_504.n (by decide) hin_X12 rfl (by decide) (by decide) rfl kw_1723 rfl ((hw).1 (504, 31, 523) (by decide)) (by decide) dX12_canPlace_36 ?_
                refine V.iload (pc := 39) hG dX12_canPlace_39 4 rfl ?_
                obtain ⟨g149, h⟩ := h
                refine V.iald (pc := 41) (z := 20000) (o := 523) hG a_523 a_523.n hx4_15 g149 dX12_canPlace_41 ?_
                refine V.iload_n (pc := 42) hG dX12_canPlace_42 rfl 2 rfl ?_
                obtain ⟨t151, f152⟩ := h
                refine V.icmp_ge (pc := 43) (tgt := 50) hG ((hi_2 _ _)) hx2_2 dX12_canPlace_43 (by decide) (fun c150 => ?_) (fun c150 => ?_)
                · have h := t151 c150
                  clear t151 f152
                  exact jn50 x3_15 x4_15 hx3_15 hx4_15 h
                · have h := f152 c150
                  clear t151 f152
                  refine V.iconst (pc := 46) hG dX12_canPlace_46 ?_
                  refine V.goto (pc := 47) (tgt := 51) hG dX12_canPlace_47 (by decide) ?_
                  exact jn51 x3_15 x4_15 1 hx3_15 hx4_15 ((sR_l rfl)) h
        refine V.pick [2, 3, 4, 1, 0] rfl ?_
        exact lp15 n111 0 0 ((sR_l rfl)) ((sR_l rfl)) h
  refine V.pick [1, 2, 0] rfl ?_
  exact lp2 n99 0 i ((sR_l rfl)) hi h
set_option maxRecDepth 100000 in
set_option maxHeartbeats 4000000 in
theorem sm_X12_placeAll (l : Launch) (Δ : Wd) {i r : MI}   {Q : Int → MI → Prop} (hi : okI i) (hw : Wf r) (h : wp_X12_placeAll  i r Q) : Met l yX12_placeAll (Cond.code yX12_placeAll cX12_placeAll 2 (some .int) :: gW) (sRm 4 94) (sPc Δ [.ref (sA Δ 504)] i r) (sQi Δ (fun x i' r' => r = r' ∧ Q x i')) 0 0 (sFr Δ) := by
  refine Ct.i (ty := .int) (by decide) rfl (Nat.le_of_ble_eq_true rfl) (fun Γ Q0 hG fin => ?_)
  have hG : okG Γ Δ l (sRm 4 94) cX12_placeAll "SchedularyModel" 2 := hG
  show V Γ Δ 542 false i r 0 0 Q0 0 [(0, .ref (sA Δ 504))] []
  refine V.aload_n (pc := 0) hG dX12_placeAll_0 rfl 0 rfl ?_
  refine V.callVv (pc := 1) (As := []) (stk := []) hG (sm_X12_build l Δ  hi hw h) mY_X12_build kw_1910 kw_1912 kw_116 a_504 (by decide) (q := (RX12, TX12, 49)) rfl rfl ⟨Nat.le_of_ble_eq_true rfl, Nat.le_of_ble_eq_true rfl, Nat.le_of_ble_eq_true rfl, Nat.le_of_ble_eq_true rfl⟩ rfl (Nat.le_of_ble_eq_true rfl) dX12_placeAll_1 rfl (fun i2 r3 hi5 hw6 hq7 => ?_)
  obtain ⟨e52, h⟩ := hq7
  subst e52
  refine V.aload_n (pc := 4) hG dX12_placeAll_4 rfl 0 rfl ?_
  refine V.callVi (pc := 5) (As := []) (stk := []) hG (sm_X12_rings l Δ  hi5 hw h) mY_X12_rings kw_2129 kw_2131 kw_141 a_504 (by decide) (q := (RX12, TX12, 49)) rfl rfl ⟨Nat.le_of_ble_eq_true rfl, Nat.le_of_ble_eq_true rfl, Nat.le_of_ble_eq_true rfl, Nat.le_of_ble_eq_true rfl⟩ rfl (Nat.le_of_ble_eq_true rfl) dX12_placeAll_5 rfl (fun v8 i9 r10 hv11 hi12 hw13 hq14 => ?_)
  obtain ⟨e50, h⟩ := hq14
  subst e50
  refine V.aload_n (pc := 8) hG dX12_placeAll_8 rfl 0 rfl ?_
  refine V.callVi (pc := 9) (As := []) (stk := [.int (sJ v8)]) hG (sm_X12_byAllUnits l Δ  hi12 hw h) mY_X12_byAllUnits kw_2141 kw_2143 kw_143 a_504 (by decide) (q := (RX12, TX12, 49)) rfl rfl ⟨Nat.le_of_ble_eq_true rfl, Nat.le_of_ble_eq_true rfl, Nat.le_of_ble_eq_true rfl, Nat.le_of_ble_eq_true rfl⟩ rfl (Nat.le_of_ble_eq_true rfl) dX12_placeAll_9 rfl (fun v15 i16 r17 hv18 hi19 hw20 hq21 => ?_)
  obtain ⟨e47, e48, h⟩ := hq21
  subst e47
  subst e48
  refine V.mmax (pc := 12) hG hv11 hv18 kw_1955 kw_680 kw_173 kw_max ⟨Nat.le_of_ble_eq_true rfl, Nat.le_of_ble_eq_true rfl, Nat.le_of_ble_eq_true rfl, Nat.le_of_ble_eq_true rfl⟩ dX12_placeAll_12 ?_
  refine V.istore_n (pc := 15) (lv' := [(1, .int (sJ (max v8 v15))), (0, .ref (sA Δ 504))]) hG dX12_placeAll_15 rfl (by decide) rfl ?_
  obtain ⟨n34, h⟩ := h
  have lp16 : ∀ (m16 : Nat) (x1_16 : Int) (i_16 : MI), sR x1_16 → okI i_16 → LoopP (b16_X12_placeAll r Q) m16 (x1_16, i_16) → V Γ Δ 542 false i_16 r 0 0 Q0 16 [(0, .ref (sA Δ 504)), (1, .int (sJ x1_16))] [] := by
    intro m16
    induction m16 with
    | zero => intro x1_16 i_16 hx1_16 hi_16 h; exact h.elim
    | succ m16 ih16 =>
      intro x1_16 i_16 hx1_16 hi_16 h
      have h := LoopP_succ h
      simp only [b16_X12_placeAll] at h
      refine V.aload_n (pc := 16) hG dX12_placeAll_16 rfl 0 rfl ?_
      refine V.iload_n (pc := 17) hG dX12_placeAll_17 rfl 1 rfl ?_
      refine V.callVi (pc := 18) (As := [.int (sJ x1_16)]) (stk := []) hG (sm_X12_canPlace l Δ hx1_16 hi_16 hw h) mY_X12_canPlace kw_2157 kw_2159 kw_146 a_504 (by decide) (q := (RX12, TX12, 49)) rfl rfl ⟨Nat.le_of_ble_eq_true rfl, Nat.le_of_ble_eq_true rfl, Nat.le_of_ble_eq_true rfl, Nat.le_of_ble_eq_true rfl⟩ rfl (Nat.le_of_ble_eq_true rfl) dX12_placeAll_18 rfl (fun v35 i36 r37 hv38 hi39 hw40 hq41 => ?_)
      obtain ⟨e46, h⟩ := hq41
      subst e46
      obtain ⟨f44, t43⟩ := h
      refine V.if_ne (pc := 21) (tgt := 30) hG hv38 dX12_placeAll_21 (by decide) (fun c42 => ?_) (fun c42 => ?_)
      · have h := t43 c42
        clear t43 f44
        refine V.iload_n (pc := 30) hG dX12_placeAll_30 rfl 1 rfl ?_
        exact fin dX12_placeAll_31 hx1_16 rfl hi39 hw ⟨rfl, h⟩
      · have h := f44 c42
        clear t43 f44
        refine V.iinc (pc := 24) (lv' := [(1, .int (sJ (wr (x1_16 + 1)))), (0, .ref (sA Δ 504))]) hG dX12_placeAll_24 1 rfl (by decide) rfl ?_
        refine V.goto (pc := 27) (tgt := 16) hG dX12_placeAll_27 (by decide) ?_
        refine V.pick [1, 0] rfl ?_
        exact ih16 (wr (x1_16 + 1)) i36 ((sR_wr _)) hi39 h
  refine V.pick [1, 0] rfl ?_
  exact lp16 n34 (max v8 v15) i9 ((sR_max hv11 hv18)) hi12 h
set_option maxRecDepth 100000 in
set_option maxHeartbeats 4000000 in
theorem sm_X12_byRings (l : Launch) (Δ : Wd) {i r : MI}   {Q : Int → MI → Prop} (hi : okI i) (hw : Wf r) (h : wp_X12_byRings  i r Q) : Met l yX12_byRings (Cond.code yX12_byRings cX12_byRings 1 (some .int) :: gW) (sRm 4 94) (sPc Δ [.ref (sA Δ 504)] i r) (sQi Δ (fun x i' r' => r = r' ∧ Q x i')) 0 0 (sFr Δ) := by
  refine Ct.i (ty := .int) (by decide) rfl (Nat.le_of_ble_eq_true rfl) (fun Γ Q0 hG fin => ?_)
  have hG : okG Γ Δ l (sRm 4 94) cX12_byRings "SchedularyModel" 1 := hG
  show V Γ Δ 542 false i r 0 0 Q0 0 [(0, .ref (sA Δ 504))] []
  refine V.aload_n (pc := 0) hG dX12_byRings_0 rfl 0 rfl ?_
  refine V.iconst (pc := 1) hG dX12_byRings_1 ?_
  refine V.putI (pc := 2) (ci := 14) (k := 0) (M := 49) (T := TX12) (o := 504) (kz := 0) hG a_504 a_504.n (by decide) hin_X12 rfl (by decide) (by decide) rfl kw_1692 rfl tyX12 tyX12_ok nmX12 rfl (ty := tyX12 0) (tyX12_ok 0 (by decide)) rfl rfl dX12_byRings_2 ?_
  refine V.aload_n (pc := 5) hG dX12_byRings_5 rfl 0 rfl ?_
  refine V.callVv (pc := 6) (As := []) (stk := []) hG (sm_X12_build l Δ  ((okI_st hi ((sR_l rfl)))) hw h) mY_X12_build kw_1910 kw_1912 kw_116 a_504 (by decide) (q := (RX12, TX12, 49)) rfl rfl ⟨Nat.le_of_ble_eq_true rfl, Nat.le_of_ble_eq_true rfl, Nat.le_of_ble_eq_true rfl, Nat.le_of_ble_eq_true rfl⟩ rfl (Nat.le_of_ble_eq_true rfl) dX12_byRings_6 rfl (fun i2 r3 hi5 hw6 hq7 => ?_)
  obtain ⟨e18, h⟩ := hq7
  subst e18
  refine V.aload_n (pc := 9) hG dX12_byRings_9 rfl 0 rfl ?_
  refine V.callVi (pc := 10) (As := []) (stk := []) hG (sm_X12_rings l Δ  hi5 hw h) mY_X12_rings kw_2129 kw_2131 kw_141 a_504 (by decide) (q := (RX12, TX12, 49)) rfl rfl ⟨Nat.le_of_ble_eq_true rfl, Nat.le_of_ble_eq_true rfl, Nat.le_of_ble_eq_true rfl, Nat.le_of_ble_eq_true rfl⟩ rfl (Nat.le_of_ble_eq_true rfl) dX12_byRings_10 rfl (fun v8 i9 r10 hv11 hi12 hw13 hq14 => ?_)
  obtain ⟨e16, h⟩ := hq14
  subst e16
  exact fin dX12_byRings_13 hv11 rfl hi12 hw ⟨rfl, h⟩
set_option maxRecDepth 100000 in
set_option maxHeartbeats 4000000 in
theorem sm_X12_byUnits (l : Launch) (Δ : Wd) {i r : MI}   {Q : Int → MI → Prop} (hi : okI i) (hw : Wf r) (h : wp_X12_byUnits  i r Q) : Met l yX12_byUnits (Cond.code yX12_byUnits cX12_byUnits 1 (some .int) :: gW) (sRm 4 94) (sPc Δ [.ref (sA Δ 504)] i r) (sQi Δ (fun x i' r' => r = r' ∧ Q x i')) 0 0 (sFr Δ) := by
  refine Ct.i (ty := .int) (by decide) rfl (Nat.le_of_ble_eq_true rfl) (fun Γ Q0 hG fin => ?_)
  have hG : okG Γ Δ l (sRm 4 94) cX12_byUnits "SchedularyModel" 1 := hG
  show V Γ Δ 542 false i r 0 0 Q0 0 [(0, .ref (sA Δ 504))] []
  refine V.aload_n (pc := 0) hG dX12_byUnits_0 rfl 0 rfl ?_
  refine V.iconst (pc := 1) hG dX12_byUnits_1 ?_
  refine V.putI (pc := 2) (ci := 14) (k := 0) (M := 49) (T := TX12) (o := 504) (kz := 0) hG a_504 a_504.n (by decide) hin_X12 rfl (by decide) (by decide) rfl kw_1692 rfl tyX12 tyX12_ok nmX12 rfl (ty := tyX12 0) (tyX12_ok 0 (by decide)) rfl rfl dX12_byUnits_2 ?_
  refine V.aload_n (pc := 5) hG dX12_byUnits_5 rfl 0 rfl ?_
  refine V.callVv (pc := 6) (As := []) (stk := []) hG (sm_X12_build l Δ  ((okI_st hi ((sR_l rfl)))) hw h) mY_X12_build kw_1910 kw_1912 kw_116 a_504 (by decide) (q := (RX12, TX12, 49)) rfl rfl ⟨Nat.le_of_ble_eq_true rfl, Nat.le_of_ble_eq_true rfl, Nat.le_of_ble_eq_true rfl, Nat.le_of_ble_eq_true rfl⟩ rfl (Nat.le_of_ble_eq_true rfl) dX12_byUnits_6 rfl (fun i2 r3 hi5 hw6 hq7 => ?_)
  obtain ⟨e18, h⟩ := hq7
  subst e18
  refine V.aload_n (pc := 9) hG dX12_byUnits_9 rfl 0 rfl ?_
  refine V.callVi (pc := 10) (As := []) (stk := []) hG (sm_X12_byAllUnits l Δ  hi5 hw h) mY_X12_byAllUnits kw_2141 kw_2143 kw_143 a_504 (by decide) (q := (RX12, TX12, 49)) rfl rfl ⟨Nat.le_of_ble_eq_true rfl, Nat.le_of_ble_eq_true rfl, Nat.le_of_ble_eq_true rfl, Nat.le_of_ble_eq_true rfl⟩ rfl (Nat.le_of_ble_eq_true rfl) dX12_byUnits_10 rfl (fun v8 i9 r10 hv11 hi12 hw13 hq14 => ?_)
  obtain ⟨e15, e16, h⟩ := hq14
  subst e15
  subst e16
  exact fin dX12_byUnits_13 hv11 rfl hi5 hw ⟨rfl, h⟩
set_option maxRecDepth 100000 in
set_option maxHeartbeats 4000000 in
theorem sm_X12_interval (l : Launch) (Δ : Wd) {i r : MI}   {Q : Int → MI → Prop} (hi : okI i) (hw : Wf r) (h : wp_X12_interval  i r Q) : Met l yX12_interval (Cond.code yX12_interval cX12_interval 1 (some .int) :: gW) (sRm 5 115) (sPc Δ [.ref (sA Δ 504)] i r) (sQi Δ (fun x i' r' => r = r' ∧ Q x i')) 0 0 (sFr Δ) := by
  refine Ct.i (ty := .int) (by decide) rfl (Nat.le_of_ble_eq_true rfl) (fun Γ Q0 hG fin => ?_)
  have hG : okG Γ Δ l (sRm 5 115) cX12_interval "SchedularyModel" 1 := hG
  show V Γ Δ 542 false i r 0 0 Q0 0 [(0, .ref (sA Δ 504))] []
  refine V.aload_n (pc := 0) hG dX12_interval_0 rfl 0 rfl ?_
  refine V.iconst (pc := 1) hG dX12_interval_1 ?_
  refine V.putI (pc := 2) (ci := 14) (k := 0) (M := 49) (T := TX12) (o := 504) (kz := 0) hG a_504 a_504.n (by decide) hin_X12 rfl (by decide) (by decide) rfl kw_1692 rfl tyX12 tyX12_ok nmX12 rfl (ty := tyX12 0) (tyX12_ok 0 (by decide)) rfl rfl dX12_interval_2 ?_
  refine V.aload_n (pc := 5) hG dX12_interval_5 rfl 0 rfl ?_
  refine V.callVi (pc := 6) (As := []) (stk := []) hG (sm_X12_placeAll l Δ  ((okI_st hi ((sR_l rfl)))) hw h) mY_X12_placeAll kw_2153 kw_2155 kw_145 a_504 (by decide) (q := (RX12, TX12, 49)) rfl rfl ⟨Nat.le_of_ble_eq_true rfl, Nat.le_of_ble_eq_true rfl, Nat.le_of_ble_eq_true rfl, Nat.le_of_ble_eq_true rfl⟩ rfl (Nat.le_of_ble_eq_true rfl) dX12_interval_6 rfl (fun v1 i2 r3 hv4 hi5 hw6 hq7 => ?_)
  obtain ⟨e9, h⟩ := hq7
  subst e9
  exact fin dX12_interval_9 hv4 rfl hi5 hw ⟨rfl, h⟩
set_option maxRecDepth 100000 in
set_option maxHeartbeats 4000000 in
theorem sm_X12_place (l : Launch) (Δ : Wd) {i r : MI} {p1 : Int} (hp1 : sR p1) {Q : Int → MI → Prop} (hi : okI i) (hw : Wf r) (h : wp_X12_place p1 i r Q) : Met l yX12_place (Cond.code yX12_place cX12_place 2 (some .int) :: gW) (sRm 5 115) (sPc Δ [.ref (sA Δ 504), .int (sJ p1)] i r) (sQi Δ (fun x i' r' => r = r' ∧ Q x i')) 0 0 (sFr Δ) := by
  refine Ct.i (ty := .int) (by decide) rfl (Nat.le_of_ble_eq_true rfl) (fun Γ Q0 hG fin => ?_)
  have hG : okG Γ Δ l (sRm 5 115) cX12_place "SchedularyModel" 2 := hG
  show V Γ Δ 542 false i r 0 0 Q0 0 [(0, .ref (sA Δ 504)), (1, .int (sJ p1))] []
  have jn33 : ∀ (k0j33 : Int) (ij33 : MI), sR k0j33 → okI ij33 → s33_X12_place k0j33 ij33 r Q → V Γ Δ 542 false ij33 r 0 0 Q0 33 [] [.int (sJ k0j33)] := by
    intro k0j33 ij33 hk0j33 hij33 h
    exact fin dX12_place_33 hk0j33 rfl hij33 hw ⟨rfl, h⟩
  refine V.aload_n (pc := 0) hG dX12_place_0 rfl 0 rfl ?_
  refine V.iconst (pc := 1) hG dX12_place_1 ?_
  refine V.putI (pc := 2) (ci := 14) (k := 0) (M := 49) (T := TX12) (o := 504) (kz := 0) hG a_504 a_504.n (by decide) hin_X12 rfl (by decide) (by decide) rfl kw_1692 rfl tyX12 tyX12_ok nmX12 rfl (ty := tyX12 0) (tyX12_ok 0 (by decide)) rfl rfl dX12_place_2 ?_
  refine V.aload_n (pc := 5) hG dX12_place_5 rfl 0 rfl ?_
  refine V.callVi (pc := 6) (As := []) (stk := []) hG (sm_X12_placeAll l Δ  ((okI_st hi ((sR_l rfl)))) hw h) mY_X12_placeAll kw_2153 kw_2155 kw_145 a_504 (by decide) (q := (RX12, TX12, 49)) rfl rfl ⟨Nat.le_of_ble_eq_true rfl, Nat.le_of_ble_eq_true rfl, Nat.le_of_ble_eq_true rfl, Nat.le_of_ble_eq_true rfl⟩ rfl (Nat.le_of_ble_eq_true rfl) dX12_place_6 rfl (fun v1 i2 r3 hv4 hi5 hw6 hq7 => ?_)
  obtain ⟨e31, h⟩ := hq7
  subst e31
  refine V.pop (pc := 9) hG dX12_place_9 rfl ?_
  refine V.aload_n (pc := 10) hG dX12_place_10 rfl 0 rfl ?_
  refine V.aload_n (pc := 11) hG dX12_place_11 rfl 0 rfl ?_
  refine V.iload_n (pc := 12) hG dX12_place_12 rfl 1 rfl ?_
  refine V.callVi (pc := 13) (As := [.int (sJ p1)]) (stk := [.ref (sA Δ 504)]) hG (sm_X12_noNode l Δ hp1 hi5 hw h) mY_X12_noNode kw_2068 kw_2070 kw_136 a_504 (by decide) (q := (RX12, TX12, 49)) rfl rfl ⟨Nat.le_of_ble_eq_true rfl, Nat.le_of_ble_eq_true rfl, Nat.le_of_ble_eq_true rfl, Nat.le_of_ble_eq_true rfl⟩ rfl (Nat.le_of_ble_eq_true rfl) dX12_place_13 rfl (fun v8 i9 r10 hv11 hi12 hw13 hq14 => ?_)
  obtain ⟨e28, e29, h⟩ := hq14
  subst e28
  subst e29
  refine V.iconst (pc := 16) hG dX12_place_16 ?_
  refine V.callVi (pc := 17) (As := [.int (sJ v8), .int (sJ 1)]) (stk := []) hG (sm_X12_fails l Δ hv11 ((sR_l rfl)) hi5 hw h) mY_X12_fails kw_1853 kw_1855 kw_106 a_504 (by decide) (q := (RX12, TX12, 49)) rfl rfl ⟨Nat.le_of_ble_eq_true rfl, Nat.le_of_ble_eq_true rfl, Nat.le_of_ble_eq_true rfl, Nat.le_of_ble_eq_true rfl⟩ rfl (Nat.le_of_ble_eq_true rfl) dX12_place_17 rfl (fun v15 i16 r17 hv18 hi19 hw20 hq21 => ?_)
  obtain ⟨e27, h⟩ := hq21
  subst e27
  obtain ⟨t23, f24⟩ := h
  refine V.if_eq (pc := 20) (tgt := 27) hG hv18 dX12_place_20 (by decide) (fun c22 => ?_) (fun c22 => ?_)
  · have h := t23 c22
    clear t23 f24
    refine V.aload_n (pc := 27) hG dX12_place_27 rfl 0 rfl ?_
    refine V.getR (x := 532) (pc := 28) (ci := 14) (k := 40) (M := 49) (T := TX12) (o := 504) (kz := 40) hG a_504 a_504.n (by decide) hin_X12 rfl (by decide) (by decide) rfl kw_1732 rfl ((hw).1 (504, 40, 532) (by decide)) (by decide) dX12_place_28 ?_
    refine V.iload_n (pc := 31) hG dX12_place_31 rfl 1 rfl ?_
    obtain ⟨g25, h⟩ := h
    refine V.iald (pc := 32) (z := 96) (o := 532) hG a_532 a_532.n hp1 g25 dX12_place_32 ?_
    refine V.pick [] rfl ?_
    exact jn33 (i16 532 p1) i16 ((hi19 _ _)) hi19 h
  · have h := f24 c22
    clear t23 f24
    refine V.iconst (pc := 23) hG dX12_place_23 ?_
    refine V.goto (pc := 24) (tgt := 33) hG dX12_place_24 (by decide) ?_
    refine V.pick [] rfl ?_
    exact jn33 0 i16 ((sR_l rfl)) hi19 h
set_option maxRecDepth 100000 in
set_option maxHeartbeats 4000000 in
theorem sm_X12_longest (l : Launch) (Δ : Wd) {i r : MI}   {Q : Int → Prop} (hi : okI i) (hw : Wf r) (h : wp_X12_longest  i r Q) : Met l yX12_longest (Cond.code yX12_longest cX12_longest 3 (some .int) :: gW) (sRm 1 21) (sPc Δ [.ref (sA Δ 504)] i r) (sQi Δ (fun x i' r' => i = i' ∧ r = r' ∧ Q x)) 0 0 (sFr Δ) := by
  refine Ct.i (ty := .int) (by decide) rfl (Nat.le_of_ble_eq_true rfl) (fun Γ Q0 hG fin => ?_)
  have hG : okG Γ Δ l (sRm 1 21) cX12_longest "SchedularyModel" 3 := hG
  show V Γ Δ 542 false i r 0 0 Q0 0 [(0, .ref (sA Δ 504))] []
  refine V.iconst (pc := 0) hG dX12_longest_0 ?_
  refine V.istore_n (pc := 1) (lv' := [(1, .int (sJ 0)), (0, .ref (sA Δ 504))]) hG dX12_longest_1 rfl (by decide) rfl ?_
  refine V.iconst (pc := 2) hG dX12_longest_2 ?_
  refine V.istore_n (pc := 3) (lv' := [(2, .int (sJ 0)), (1, .int (sJ 0)), (0, .ref (sA Δ 504))]) hG dX12_longest_3 rfl (by decide) rfl ?_
  obtain ⟨n14, h⟩ := h
  have lp4 : ∀ (m4 : Nat) (x1_4 : Int) (x2_4 : Int), sR x1_4 → sR x2_4 → LoopP (b4_X12_longest i r Q) m4 (x1_4, x2_4) → V Γ Δ 542 false i r 0 0 Q0 4 [(0, .ref (sA Δ 504)), (1, .int (sJ x1_4)), (2, .int (sJ x2_4))] [] := by
    intro m4
    induction m4 with
    | zero => intro x1_4 x2_4 hx1_4 hx2_4 h; exact h.elim
    | succ m4 ih4 =>
      intro x1_4 x2_4 hx1_4 hx2_4 h
      have h := LoopP_succ h
      refine V.iload_n (pc := 4) hG dX12_longest_4 rfl 2 rfl ?_
      refine V.aload_n (pc := 5) hG dX12_longest_5 rfl 0 rfl ?_
      refine V.getI (pc := 6) (ci := 14) (k := 21) (M := 49) (T := TX12) (o := 504) (kz := 21) hG a_504 a_504.n (by decide) hin_X12 rfl (by decide) (by decide) rfl kw_1713 rfl dX12_longest_6 ?_
      obtain ⟨t16, f17⟩ := h
      refine V.icmp_ge (pc := 9) (tgt := 35) hG hx2_4 ((hi _ _)) dX12_longest_9 (by decide) (fun c15 => ?_) (fun c15 => ?_)
      · have h := t16 c15
        clear t16 f17
        refine V.iload_n (pc := 35) hG dX12_longest_35 rfl 1 rfl ?_
        exact fin dX12_longest_36 hx1_4 rfl hi hw ⟨rfl, rfl, h⟩
      · have h := f17 c15
        clear t16 f17
        refine V.iload_n (pc := 12) hG dX12_longest_12 rfl 1 rfl ?_
        refine V.aload_n (pc := 13) hG dX12_longest_13 rfl 0 rfl ?_
        refine V.getR (x := 532) (pc := 14) (ci := 14) (k := 40) (M := 49) (T := TX12) (o := 504) (kz := 40) hG a_504 a_504.n (by decide) hin_X12 rfl (by decide) (by decide) rfl kw_1732 rfl ((hw).1 (504, 40, 532) (by decide)) (by decide) dX12_longest_14 ?_
        refine V.iload_n (pc := 17) hG dX12_longest_17 rfl 2 rfl ?_
        obtain ⟨g18, h⟩ := h
        refine V.iald (pc := 18) (z := 96) (o := 532) hG a_532 a_532.n hx2_4 g18 dX12_longest_18 ?_
        refine V.aload_n (pc := 19) hG dX12_longest_19 rfl 0 rfl ?_
        refine V.iload_n (pc := 20) hG dX12_longest_20 rfl 2 rfl ?_
        refine V.callVi (pc := 21) (As := [.int (sJ x2_4)]) (stk := [.int (sJ (i 532 x2_4)), .int (sJ x1_4)]) hG (sm_X12_cyclesOf l Δ hx2_4 hi hw h) mY_X12_cyclesOf kw_1947 kw_1949 kw_123 a_504 (by decide) (q := (RX12, TX12, 49)) rfl rfl ⟨Nat.le_of_ble_eq_true rfl, Nat.le_of_ble_eq_true rfl, Nat.le_of_ble_eq_true rfl, Nat.le_of_ble_eq_true rfl⟩ rfl (Nat.le_of_ble_eq_true rfl) dX12_longest_21 rfl (fun v19 i20 r21 hv22 hi23 hw24 hq25 => ?_)
        obtain ⟨e26, e27, h⟩ := hq25
        subst e26
        subst e27
        refine V.iadd (pc := 24) hG dX12_longest_24 ?_
        refine V.mmax (pc := 25) hG hx1_4 ((sR_wr _)) kw_1955 kw_680 kw_173 kw_max ⟨Nat.le_of_ble_eq_true rfl, Nat.le_of_ble_eq_true rfl, Nat.le_of_ble_eq_true rfl, Nat.le_of_ble_eq_true rfl⟩ dX12_longest_25 ?_
        refine V.istore_n (pc := 28) (lv' := [(1, .int (sJ (max x1_4 (wr (i 532 x2_4 + v19))))), (0, .ref (sA Δ 504)), (2, .int (sJ x2_4))]) hG dX12_longest_28 rfl (by decide) rfl ?_
        refine V.iinc (pc := 29) (lv' := [(2, .int (sJ (wr (x2_4 + 1)))), (1, .int (sJ (max x1_4 (wr (i 532 x2_4 + v19))))), (0, .ref (sA Δ 504))]) hG dX12_longest_29 2 rfl (by decide) rfl ?_
        refine V.goto (pc := 32) (tgt := 4) hG dX12_longest_32 (by decide) ?_
        refine V.pick [2, 1, 0] rfl ?_
        exact ih4 (max x1_4 (wr (i 532 x2_4 + v19))) (wr (x2_4 + 1)) ((sR_max hx1_4 ((sR_wr _)))) ((sR_wr _)) h
  refine V.pick [2, 1, 0] rfl ?_
  exact lp4 n14 0 0 ((sR_l rfl)) ((sR_l rfl)) h
set_option maxRecDepth 100000 in
set_option maxHeartbeats 4000000 in
theorem sm_X12_cycles (l : Launch) (Δ : Wd) {i r : MI}   {Q : Int → MI → Prop} (hi : okI i) (hw : Wf r) (h : wp_X12_cycles  i r Q) : Met l yX12_cycles (Cond.code yX12_cycles cX12_cycles 2 (some .int) :: gW) (sRm 5 115) (sPc Δ [.ref (sA Δ 504)] i r) (sQi Δ (fun x i' r' => r = r' ∧ Q x i')) 0 0 (sFr Δ) := by
  refine Ct.i (ty := .int) (by decide) rfl (Nat.le_of_ble_eq_true rfl) (fun Γ Q0 hG fin => ?_)
  have hG : okG Γ Δ l (sRm 5 115) cX12_cycles "SchedularyModel" 2 := hG
  show V Γ Δ 542 false i r 0 0 Q0 0 [(0, .ref (sA Δ 504))] []
  have jn39 : ∀ (k0j39 : Int) (ij39 : MI), sR k0j39 → okI ij39 → s39_X12_cycles k0j39 ij39 r Q → V Γ Δ 542 false ij39 r 0 0 Q0 39 [] [.int (sJ k0j39)] := by
    intro k0j39 ij39 hk0j39 hij39 h
    exact fin dX12_cycles_39 hk0j39 rfl hij39 hw ⟨rfl, h⟩
  refine V.aload_n (pc := 0) hG dX12_cycles_0 rfl 0 rfl ?_
  refine V.iconst (pc := 1) hG dX12_cycles_1 ?_
  refine V.putI (pc := 2) (ci := 14) (k := 0) (M := 49) (T := TX12) (o := 504) (kz := 0) hG a_504 a_504.n (by decide) hin_X12 rfl (by decide) (by decide) rfl kw_1692 rfl tyX12 tyX12_ok nmX12 rfl (ty := tyX12 0) (tyX12_ok 0 (by decide)) rfl rfl dX12_cycles_2 ?_
  refine V.aload_n (pc := 5) hG dX12_cycles_5 rfl 0 rfl ?_
  refine V.callVi (pc := 6) (As := []) (stk := []) hG (sm_X12_placeAll l Δ  ((okI_st hi ((sR_l rfl)))) hw h) mY_X12_placeAll kw_2153 kw_2155 kw_145 a_504 (by decide) (q := (RX12, TX12, 49)) rfl rfl ⟨Nat.le_of_ble_eq_true rfl, Nat.le_of_ble_eq_true rfl, Nat.le_of_ble_eq_true rfl, Nat.le_of_ble_eq_true rfl⟩ rfl (Nat.le_of_ble_eq_true rfl) dX12_cycles_6 rfl (fun v1 i2 r3 hv4 hi5 hw6 hq7 => ?_)
  obtain ⟨e22, h⟩ := hq7
  subst e22
  refine V.istore_n (pc := 9) (lv' := [(1, .int (sJ v1)), (0, .ref (sA Δ 504))]) hG dX12_cycles_9 rfl (by decide) rfl ?_
  refine V.aload_n (pc := 10) hG dX12_cycles_10 rfl 1 rfl ?_
  refine V.getI (pc := 11) (ci := 14) (k := 21) (M := 49) (T := TX12) (o := 504) (kz := 21) hG a_504 a_504.n (by decide) hin_X12 rfl (by decide) (by decide) rfl kw_1713 rfl dX12_cycles_11 ?_
  obtain ⟨f10, t9⟩ := h
  refine V.if_ne (pc := 14) (tgt := 21) hG ((hi5 _ _)) dX12_cycles_14 (by decide) (fun c8 => ?_) (fun c8 => ?_)
  · have h := t9 c8
    clear t9 f10
    refine V.aload_n (pc := 21) hG dX12_cycles_21 rfl 1 rfl ?_
    refine V.callVi (pc := 22) (As := []) (stk := []) hG (sm_X12_longest l Δ  hi5 hw h) mY_X12_longest kw_2177 kw_2179 kw_148 a_504 (by decide) (q := (RX12, TX12, 49)) rfl rfl ⟨Nat.le_of_ble_eq_true rfl, Nat.le_of_ble_eq_true rfl, Nat.le_of_ble_eq_true rfl, Nat.le_of_ble_eq_true rfl⟩ rfl (Nat.le_of_ble_eq_true rfl) dX12_cycles_22 rfl (fun v11 i12 r13 hv14 hi15 hw16 hq17 => ?_)
    obtain ⟨e19, e20, h⟩ := hq17
    subst e19
    subst e20
    refine V.iload_n (pc := 25) hG dX12_cycles_25 rfl 0 rfl ?_
    refine V.aload_n (pc := 26) hG dX12_cycles_26 rfl 1 rfl ?_
    refine V.getI (pc := 27) (ci := 14) (k := 8) (M := 49) (T := TX12) (o := 504) (kz := 8) hG a_504 a_504.n (by decide) hin_X12 rfl (by decide) (by decide) rfl kw_1700 rfl dX12_cycles_27 ?_
    refine V.aload_n (pc := 30) hG dX12_cycles_30 rfl 1 rfl ?_
    refine V.getI (pc := 31) (ci := 14) (k := 10) (M := 49) (T := TX12) (o := 504) (kz := 10) hG a_504 a_504.n (by decide) hin_X12 rfl (by decide) (by decide) rfl kw_1702 rfl dX12_cycles_31 ?_
    obtain ⟨g18, h⟩ := h
    refine V.idiv (pc := 34) hG ((hi5 _ _)) ((hi5 _ _)) g18 dX12_cycles_34 ?_
    refine V.iconst (pc := 35) hG dX12_cycles_35 ?_
    refine V.isub (pc := 36) hG dX12_cycles_36 ?_
    refine V.imul (pc := 37) hG dX12_cycles_37 ?_
    refine V.iadd (pc := 38) hG dX12_cycles_38 ?_
    refine V.pick [] rfl ?_
    exact jn39 (wr (v11 + wr (v1 * wr (wr (Int.tdiv (i2 504 8) (i2 504 10)) - 1)))) i2 ((sR_wr _)) hi5 h
  · have h := f10 c8
    clear t9 f10
    refine V.iconst (pc := 17) hG dX12_cycles_17 ?_
    refine V.goto (pc := 18) (tgt := 39) hG dX12_cycles_18 (by decide) ?_
    refine V.pick [] rfl ?_
    exact jn39 0 i2 ((sR_l rfl)) hi5 h
set_option maxRecDepth 100000 in
set_option maxHeartbeats 4000000 in
theorem sm_X12_oneByOne (l : Launch) (Δ : Wd) {i r : MI}   {Q : Int → MI → Prop} (hi : okI i) (hw : Wf r) (h : wp_X12_oneByOne  i r Q) : Met l yX12_oneByOne (Cond.code yX12_oneByOne cX12_oneByOne 3 (some .int) :: gW) (sRm 4 94) (sPc Δ [.ref (sA Δ 504)] i r) (sQi Δ (fun x i' r' => r = r' ∧ Q x i')) 0 0 (sFr Δ) := by
  refine Ct.i (ty := .int) (by decide) rfl (Nat.le_of_ble_eq_true rfl) (fun Γ Q0 hG fin => ?_)
  have hG : okG Γ Δ l (sRm 4 94) cX12_oneByOne "SchedularyModel" 3 := hG
  show V Γ Δ 542 false i r 0 0 Q0 0 [(0, .ref (sA Δ 504))] []
  refine V.aload_n (pc := 0) hG dX12_oneByOne_0 rfl 0 rfl ?_
  refine V.iconst (pc := 1) hG dX12_oneByOne_1 ?_
  refine V.putI (pc := 2) (ci := 14) (k := 0) (M := 49) (T := TX12) (o := 504) (kz := 0) hG a_504 a_504.n (by decide) hin_X12 rfl (by decide) (by decide) rfl kw_1692 rfl tyX12 tyX12_ok nmX12 rfl (ty := tyX12 0) (tyX12_ok 0 (by decide)) rfl rfl dX12_oneByOne_2 ?_
  refine V.aload_n (pc := 5) hG dX12_oneByOne_5 rfl 0 rfl ?_
  refine V.callVv (pc := 6) (As := []) (stk := []) hG (sm_X12_build l Δ  ((okI_st hi ((sR_l rfl)))) hw h) mY_X12_build kw_1910 kw_1912 kw_116 a_504 (by decide) (q := (RX12, TX12, 49)) rfl rfl ⟨Nat.le_of_ble_eq_true rfl, Nat.le_of_ble_eq_true rfl, Nat.le_of_ble_eq_true rfl, Nat.le_of_ble_eq_true rfl⟩ rfl (Nat.le_of_ble_eq_true rfl) dX12_oneByOne_6 rfl (fun i2 r3 hi5 hw6 hq7 => ?_)
  obtain ⟨e36, h⟩ := hq7
  subst e36
  refine V.iconst (pc := 9) hG dX12_oneByOne_9 ?_
  refine V.istore_n (pc := 10) (lv' := [(1, .int (sJ 0)), (0, .ref (sA Δ 504))]) hG dX12_oneByOne_10 rfl (by decide) rfl ?_
  refine V.iconst (pc := 11) hG dX12_oneByOne_11 ?_
  refine V.istore_n (pc := 12) (lv' := [(2, .int (sJ 0)), (1, .int (sJ 0)), (0, .ref (sA Δ 504))]) hG dX12_oneByOne_12 rfl (by decide) rfl ?_
  obtain ⟨n21, h⟩ := h
  have lp13 : ∀ (m13 : Nat) (x1_13 : Int) (x2_13 : Int), sR x1_13 → sR x2_13 → LoopP (b13_X12_oneByOne i2 r Q) m13 (x1_13, x2_13) → V Γ Δ 542 false i2 r 0 0 Q0 13 [(0, .ref (sA Δ 504)), (1, .int (sJ x1_13)), (2, .int (sJ x2_13))] [] := by
    intro m13
    induction m13 with
    | zero => intro x1_13 x2_13 hx1_13 hx2_13 h; exact h.elim
    | succ m13 ih13 =>
      intro x1_13 x2_13 hx1_13 hx2_13 h
      have h := LoopP_succ h
      refine V.iload_n (pc := 13) hG dX12_oneByOne_13 rfl 2 rfl ?_
      refine V.aload_n (pc := 14) hG dX12_oneByOne_14 rfl 0 rfl ?_
      refine V.getI (pc := 15) (ci := 14) (k := 21) (M := 49) (T := TX12) (o := 504) (kz := 21) hG a_504 a_504.n (by decide) hin_X12 rfl (by decide) (by decide) rfl kw_1713 rfl dX12_oneByOne_15 ?_
      obtain ⟨t23, f24⟩ := h
      refine V.icmp_ge (pc := 18) (tgt := 35) hG hx2_13 ((hi5 _ _)) dX12_oneByOne_18 (by decide) (fun c22 => ?_) (fun c22 => ?_)
      · have h := t23 c22
        clear t23 f24
        refine V.aload_n (pc := 35) hG dX12_oneByOne_35 rfl 0 rfl ?_
        refine V.getI (pc := 36) (ci := 14) (k := 8) (M := 49) (T := TX12) (o := 504) (kz := 8) hG a_504 a_504.n (by decide) hin_X12 rfl (by decide) (by decide) rfl kw_1700 rfl dX12_oneByOne_36 ?_
        refine V.aload_n (pc := 39) hG dX12_oneByOne_39 rfl 0 rfl ?_
        refine V.getI (pc := 40) (ci := 14) (k := 10) (M := 49) (T := TX12) (o := 504) (kz := 10) hG a_504 a_504.n (by decide) hin_X12 rfl (by decide) (by decide) rfl kw_1702 rfl dX12_oneByOne_40 ?_
        obtain ⟨g25, h⟩ := h
        refine V.idiv (pc := 43) hG ((hi5 _ _)) ((hi5 _ _)) g25 dX12_oneByOne_43 ?_
        refine V.iload_n (pc := 44) hG dX12_oneByOne_44 rfl 1 rfl ?_
        refine V.imul (pc := 45) hG dX12_oneByOne_45 ?_
        exact fin dX12_oneByOne_46 ((sR_wr _)) rfl hi5 hw ⟨rfl, h⟩
      · have h := f24 c22
        clear t23 f24
        refine V.iload_n (pc := 21) hG dX12_oneByOne_21 rfl 1 rfl ?_
        refine V.aload_n (pc := 22) hG dX12_oneByOne_22 rfl 0 rfl ?_
        refine V.iload_n (pc := 23) hG dX12_oneByOne_23 rfl 2 rfl ?_
        refine V.callVi (pc := 24) (As := [.int (sJ x2_13)]) (stk := [.int (sJ x1_13)]) hG (sm_X12_cyclesOf l Δ hx2_13 hi5 hw h) mY_X12_cyclesOf kw_1947 kw_1949 kw_123 a_504 (by decide) (q := (RX12, TX12, 49)) rfl rfl ⟨Nat.le_of_ble_eq_true rfl, Nat.le_of_ble_eq_true rfl, Nat.le_of_ble_eq_true rfl, Nat.le_of_ble_eq_true rfl⟩ rfl (Nat.le_of_ble_eq_true rfl) dX12_oneByOne_24 rfl (fun v26 i27 r28 hv29 hi30 hw31 hq32 => ?_)
        obtain ⟨e33, e34, h⟩ := hq32
        subst e33
        subst e34
        refine V.iadd (pc := 27) hG dX12_oneByOne_27 ?_
        refine V.istore_n (pc := 28) (lv' := [(1, .int (sJ (wr (x1_13 + v26)))), (0, .ref (sA Δ 504)), (2, .int (sJ x2_13))]) hG dX12_oneByOne_28 rfl (by decide) rfl ?_
        refine V.iinc (pc := 29) (lv' := [(2, .int (sJ (wr (x2_13 + 1)))), (1, .int (sJ (wr (x1_13 + v26)))), (0, .ref (sA Δ 504))]) hG dX12_oneByOne_29 2 rfl (by decide) rfl ?_
        refine V.goto (pc := 32) (tgt := 13) hG dX12_oneByOne_32 (by decide) ?_
        refine V.pick [2, 1, 0] rfl ?_
        exact ih13 (wr (x1_13 + v26)) (wr (x2_13 + 1)) ((sR_wr _)) ((sR_wr _)) h
  refine V.pick [2, 1, 0] rfl ?_
  exact lp13 n21 0 0 ((sR_l rfl)) ((sR_l rfl)) h
set_option maxRecDepth 100000 in
set_option maxHeartbeats 4000000 in
theorem sm_X12_turnAt (l : Launch) (Δ : Wd) {i r : MI} {p1 : Int} {p2 : Int} {p3 : Int} (hp1 : sR p1) (hp2 : sR p2) (hp3 : sR p3) {Q : Int → Prop} (hi : okI i) (hw : Wf r) (h : wp_X12_turnAt p1 p2 p3 i r Q) : Met l yX12_turnAt (Cond.code yX12_turnAt cX12_turnAt 5 (some .int) :: gW) (sRm 0 0) (sPc Δ [.ref (sA Δ 504), .int (sJ p1), .int (sJ p2), .int (sJ p3)] i r) (sQi Δ (fun x i' r' => i = i' ∧ r = r' ∧ Q x)) 0 0 (sFr Δ) := by
  refine Ct.i (ty := .int) (by decide) rfl (Nat.le_of_ble_eq_true rfl) (fun Γ Q0 hG fin => ?_)
  have hG : okG Γ Δ l (sRm 0 0) cX12_turnAt "SchedularyModel" 5 := hG
  show V Γ Δ 542 false i r 0 0 Q0 0 [(0, .ref (sA Δ 504)), (1, .int (sJ p1)), (2, .int (sJ p2)), (3, .int (sJ p3))] []
  have jn41 : ∀ (k0j41 : Int), sR k0j41 → s41_X12_turnAt k0j41 i r Q → V Γ Δ 542 false i r 0 0 Q0 41 [] [.int (sJ k0j41)] := by
    intro k0j41 hk0j41 h
    exact fin dX12_turnAt_41 hk0j41 rfl hi hw ⟨rfl, rfl, h⟩
  have jn40 : s40_X12_turnAt i r Q → V Γ Δ 542 false i r 0 0 Q0 40 [] [] := by
    intro h
    refine V.iconst (pc := 40) hG dX12_turnAt_40 ?_
    exact jn41 (-1) ((sR_l rfl)) h
  refine V.iload_n (pc := 0) hG dX12_turnAt_0 rfl 1 rfl ?_
  refine V.iload_n (pc := 1) hG dX12_turnAt_1 rfl 2 rfl ?_
  refine V.isub (pc := 2) hG dX12_turnAt_2 ?_
  refine V.istore (pc := 3) (lv' := [(4, .int (sJ (wr (p1 - p2)))), (0, .ref (sA Δ 504)), (1, .int (sJ p1)), (2, .int (sJ p2)), (3, .int (sJ p3))]) hG dX12_turnAt_3 (by decide) rfl ?_
  refine V.iload (pc := 5) hG dX12_turnAt_5 0 rfl ?_
  obtain ⟨t2, f3⟩ := h
  refine V.if_lt (pc := 7) (tgt := 40) hG ((sR_wr _)) dX12_turnAt_7 (by decide) (fun c1 => ?_) (fun c1 => ?_)
  · have h := t2 c1
    clear t2 f3
    refine V.pick [] rfl ?_
    exact jn40 h
  · have h := f3 c1
    clear t2 f3
    refine V.iload (pc := 10) hG dX12_turnAt_10 0 rfl ?_
    refine V.iload_n (pc := 12) hG dX12_turnAt_12 rfl 4 rfl ?_
    obtain ⟨g4, h⟩ := h
    refine V.irem (pc := 13) hG ((sR_wr _)) hp3 g4 dX12_turnAt_13 ?_
    obtain ⟨f7, t6⟩ := h
    refine V.if_ne (pc := 14) (tgt := 40) hG ((sR_tmod ((sR_wr _)))) dX12_turnAt_14 (by decide) (fun c5 => ?_) (fun c5 => ?_)
    · have h := t6 c5
      clear t6 f7
      refine V.pick [] rfl ?_
      exact jn40 h
    · have h := f7 c5
      clear t6 f7
      refine V.iload (pc := 17) hG dX12_turnAt_17 0 rfl ?_
      refine V.iload_n (pc := 19) hG dX12_turnAt_19 rfl 4 rfl ?_
      obtain ⟨g8, h⟩ := h
      refine V.idiv (pc := 20) hG ((sR_wr _)) hp3 g8 dX12_turnAt_20 ?_
      refine V.aload_n (pc := 21) hG dX12_turnAt_21 rfl 1 rfl ?_
      refine V.getI (pc := 22) (ci := 14) (k := 8) (M := 49) (T := TX12) (o := 504) (kz := 8) hG a_504 a_504.n (by decide) hin_X12 rfl (by decide) (by decide) rfl kw_1700 rfl dX12_turnAt_22 ?_
      refine V.aload_n (pc := 25) hG dX12_turnAt_25 rfl 1 rfl ?_
      refine V.getI (pc := 26) (ci := 14) (k := 10) (M := 49) (T := TX12) (o := 504) (kz := 10) hG a_504 a_504.n (by decide) hin_X12 rfl (by decide) (by decide) rfl kw_1702 rfl dX12_turnAt_26 ?_
      obtain ⟨g9, h⟩ := h
      refine V.idiv (pc := 29) hG ((hi _ _)) ((hi _ _)) g9 dX12_turnAt_29 ?_
      obtain ⟨t11, f12⟩ := h
      refine V.icmp_ge (pc := 30) (tgt := 40) hG ((sR_wr _)) ((sR_wr _)) dX12_turnAt_30 (by decide) (fun c10 => ?_) (fun c10 => ?_)
      · have h := t11 c10
        clear t11 f12
        refine V.pick [] rfl ?_
        exact jn40 h
      · have h := f12 c10
        clear t11 f12
        refine V.iload (pc := 33) hG dX12_turnAt_33 0 rfl ?_
        refine V.iload_n (pc := 35) hG dX12_turnAt_35 rfl 4 rfl ?_
        obtain ⟨g13, h⟩ := h
        refine V.idiv (pc := 36) hG ((sR_wr _)) hp3 g13 dX12_turnAt_36 ?_
        refine V.goto (pc := 37) (tgt := 41) hG dX12_turnAt_37 (by decide) ?_
        refine V.pick [] rfl ?_
        exact jn41 (wr (Int.tdiv (wr (p1 - p2)) p3)) ((sR_wr _)) h
set_option maxRecDepth 100000 in
set_option maxHeartbeats 4000000 in
theorem sm_X12_loopTurn (l : Launch) (Δ : Wd) {i r : MI} {p1 : Int} {p2 : Int} (hp1 : sR p1) (hp2 : sR p2) {Q : Int → Prop} (hi : okI i) (hw : Wf r) (h : wp_X12_loopTurn p1 p2 i r Q) : Met l yX12_loopTurn (Cond.code yX12_loopTurn cX12_loopTurn 3 (some .int) :: gW) (sRm 0 0) (sPc Δ [.ref (sA Δ 504), .int (sJ p1), .int (sJ p2)] i r) (sQi Δ (fun x i' r' => i = i' ∧ r = r' ∧ Q x)) 0 0 (sFr Δ) := by
  refine Ct.i (ty := .int) (by decide) rfl (Nat.le_of_ble_eq_true rfl) (fun Γ Q0 hG fin => ?_)
  have hG : okG Γ Δ l (sRm 0 0) cX12_loopTurn "SchedularyModel" 3 := hG
  show V Γ Δ 542 false i r 0 0 Q0 0 [(0, .ref (sA Δ 504)), (1, .int (sJ p1)), (2, .int (sJ p2))] []
  refine V.aload_n (pc := 0) hG dX12_loopTurn_0 rfl 0 rfl ?_
  refine V.getI (pc := 1) (ci := 14) (k := 10) (M := 49) (T := TX12) (o := 504) (kz := 10) hG a_504 a_504.n (by decide) hin_X12 rfl (by decide) (by decide) rfl kw_1702 rfl dX12_loopTurn_1 ?_
  refine V.iload_n (pc := 4) hG dX12_loopTurn_4 rfl 2 rfl ?_
  refine V.imul (pc := 5) hG dX12_loopTurn_5 ?_
  refine V.aload_n (pc := 6) hG dX12_loopTurn_6 rfl 0 rfl ?_
  refine V.getR (x := 515) (pc := 7) (ci := 14) (k := 22) (M := 49) (T := TX12) (o := 504) (kz := 22) hG a_504 a_504.n (by decide) hin_X12 rfl (by decide) (by decide) rfl kw_1714 rfl ((hw).1 (504, 22, 515) (by decide)) (by decide) dX12_loopTurn_7 ?_
  refine V.iload_n (pc := 10) hG dX12_loopTurn_10 rfl 1 rfl ?_
  obtain ⟨g1, h⟩ := h
  refine V.iald (pc := 11) (z := 96) (o := 515) hG a_515 a_515.n hp1 g1 dX12_loopTurn_11 ?_
  refine V.aload_n (pc := 12) hG dX12_loopTurn_12 rfl 0 rfl ?_
  refine V.getI (pc := 13) (ci := 14) (k := 6) (M := 49) (T := TX12) (o := 504) (kz := 6) hG a_504 a_504.n (by decide) hin_X12 rfl (by decide) (by decide) rfl kw_1698 rfl dX12_loopTurn_13 ?_
  obtain ⟨g2, h⟩ := h
  refine V.idiv (pc := 16) hG ((hi _ _)) ((hi _ _)) g2 dX12_loopTurn_16 ?_
  refine V.iadd (pc := 17) hG dX12_loopTurn_17 ?_
  exact fin dX12_loopTurn_18 ((sR_wr _)) rfl hi hw ⟨rfl, rfl, h⟩
set_option maxRecDepth 100000 in
set_option maxHeartbeats 4000000 in
theorem sm_X12_given (l : Launch) (Δ : Wd) {i r : MI} {p1 : Int} {p2 : Int} {p3 : Int} (hp1 : sR p1) (hp2 : sR p2) (hp3 : sR p3) {Q : Int → MI → Prop} (hi : okI i) (hw : Wf r) (h : wp_X12_given p1 p2 p3 i r Q) : Met l yX12_given (Cond.code yX12_given cX12_given 6 (some .int) :: gW) (sRm 3 70) (sPc Δ [.ref (sA Δ 504), .int (sJ p1), .int (sJ p2), .int (sJ p3)] i r) (sQi Δ (fun x i' r' => r = r' ∧ Q x i')) 0 0 (sFr Δ) := by
  refine Ct.i (ty := .int) (by decide) rfl (Nat.le_of_ble_eq_true rfl) (fun Γ Q0 hG fin => ?_)
  have hG : okG Γ Δ l (sRm 3 70) cX12_given "SchedularyModel" 6 := hG
  show V Γ Δ 542 false i r 0 0 Q0 0 [(0, .ref (sA Δ 504)), (1, .int (sJ p1)), (2, .int (sJ p2)), (3, .int (sJ p3))] []
  refine V.bipush (pc := 0) hG dX12_given_0 (by decide) ?_
  refine V.aload_n (pc := 2) hG dX12_given_2 rfl 0 rfl ?_
  refine V.getR (x := 515) (pc := 3) (ci := 14) (k := 22) (M := 49) (T := TX12) (o := 504) (kz := 22) hG a_504 a_504.n (by decide) hin_X12 rfl (by decide) (by decide) rfl kw_1714 rfl ((hw).1 (504, 22, 515) (by decide)) (by decide) dX12_given_3 ?_
  refine V.iload_n (pc := 6) hG dX12_given_6 rfl 1 rfl ?_
  obtain ⟨g1, h⟩ := h
  refine V.iald (pc := 7) (z := 96) (o := 515) hG a_515 a_515.n hp1 g1 dX12_given_7 ?_
  refine V.aload_n (pc := 8) hG dX12_given_8 rfl 0 rfl ?_
  refine V.getI (pc := 9) (ci := 14) (k := 6) (M := 49) (T := TX12) (o := 504) (kz := 6) hG a_504 a_504.n (by decide) hin_X12 rfl (by decide) (by decide) rfl kw_1698 rfl dX12_given_9 ?_
  obtain ⟨g2, h⟩ := h
  refine V.irem (pc := 12) hG ((hi _ _)) ((hi _ _)) g2 dX12_given_12 ?_
  refine V.imul (pc := 13) hG dX12_given_13 ?_
  refine V.iconst (pc := 14) hG dX12_given_14 ?_
  refine V.iadd (pc := 15) hG dX12_given_15 ?_
  refine V.iconst (pc := 16) hG dX12_given_16 ?_
  refine V.iload_n (pc := 17) hG dX12_given_17 rfl 2 rfl ?_
  refine V.imul (pc := 18) hG dX12_given_18 ?_
  refine V.iadd (pc := 19) hG dX12_given_19 ?_
  refine V.istore (pc := 20) (lv' := [(4, .int (sJ (wr (wr (wr (13 * Int.tmod (i 515 p1) (i 504 6)) + 4) + wr (4 * p2))))), (0, .ref (sA Δ 504)), (1, .int (sJ p1)), (2, .int (sJ p2)), (3, .int (sJ p3))]) hG dX12_given_20 (by decide) rfl ?_
  refine V.aload_n (pc := 22) hG dX12_given_22 rfl 1 rfl ?_
  refine V.getR (x := 507) (pc := 23) (ci := 14) (k := 7) (M := 49) (T := TX12) (o := 504) (kz := 7) hG a_504 a_504.n (by decide) hin_X12 rfl (by decide) (by decide) rfl kw_1699 rfl ((hw).1 (504, 7, 507) (by decide)) (by decide) dX12_given_23 ?_
  refine V.iload (pc := 26) hG dX12_given_26 0 rfl ?_
  obtain ⟨g3, h⟩ := h
  refine V.iald (pc := 28) (z := 156) (o := 507) hG a_507 a_507.n ((sR_wr _)) g3 dX12_given_28 ?_
  refine V.callSi (pc := 29) (As := [.int (sJ (i 507 (wr (wr (wr (13 * Int.tmod (i 515 p1) (i 504 6)) + 4) + wr (4 * p2)))))]) (stk := []) hG (sm_X12_isRead l Δ ((hi _ _)) hi hw h) mY_X12_isRead kw_1922 kw_1923 rfl ⟨Nat.le_of_ble_eq_true rfl, Nat.le_of_ble_eq_true rfl, Nat.le_of_ble_eq_true rfl, Nat.le_of_ble_eq_true rfl⟩ rfl (Nat.le_of_ble_eq_true rfl) dX12_given_29 rfl (fun v4 i5 r6 hv7 hi8 hw9 hq10 => ?_)
  obtain ⟨e53, e54, h⟩ := hq10
  subst e53
  subst e54
  obtain ⟨f13, t12⟩ := h
  refine V.if_ne (pc := 32) (tgt := 48) hG hv7 dX12_given_32 (by decide) (fun c11 => ?_) (fun c11 => ?_)
  · have h := t12 c11
    clear t12 f13
    refine V.iload_n (pc := 48) hG dX12_given_48 rfl 2 rfl ?_
    refine V.istore (pc := 49) (lv' := [(5, .int (sJ p1)), (4, .int (sJ (wr (wr (wr (13 * Int.tmod (i 515 p1) (i 504 6)) + 4) + wr (4 * p2))))), (0, .ref (sA Δ 504)), (1, .int (sJ p1)), (2, .int (sJ p2)), (3, .int (sJ p3))]) hG dX12_given_49 (by decide) rfl ?_
    obtain ⟨n24, h⟩ := h
    have lp51 : ∀ (m51 : Nat) (x5_51 : Int), sR x5_51 → LoopP (b51_X12_given p1 p2 p3 i r Q) m51 (x5_51) → V Γ Δ 542 false i r 0 0 Q0 51 [(0, .ref (sA Δ 504)), (1, .int (sJ p1)), (2, .int (sJ p2)), (3, .int (sJ p3)), (5, .int (sJ x5_51))] [] := by
      intro m51
      induction m51 with
      | zero => intro x5_51 hx5_51 h; exact h.elim
      | succ m51 ih51 =>
        intro x5_51 hx5_51 h
        have h := LoopP_succ h
        have jn78 : ∀ (x5j78 : Int), sR x5j78 → s78_X12_given p1 p2 p3 x5j78 i r Q (LoopP (b51_X12_given p1 p2 p3 i r Q) m51) → V Γ Δ 542 false i r 0 0 Q0 78 [(0, .ref (sA Δ 504)), (1, .int (sJ p1)), (2, .int (sJ p2)), (3, .int (sJ p3)), (5, .int (sJ x5j78))] [] := by
          intro x5j78 hx5j78 h
          refine V.iinc (pc := 78) (lv' := [(5, .int (sJ (wr (x5j78 + (-1))))), (0, .ref (sA Δ 504)), (1, .int (sJ p1)), (2, .int (sJ p2)), (3, .int (sJ p3))]) hG dX12_given_78 4 rfl (by decide) rfl ?_
          refine V.goto (pc := 81) (tgt := 51) hG dX12_given_81 (by decide) ?_
          refine V.pick [1, 2, 3, 4, 0] rfl ?_
          exact ih51 (wr (x5j78 + (-1))) ((sR_wr _)) h
        refine V.aload_n (pc := 51) hG dX12_given_51 rfl 0 rfl ?_
        refine V.getR (x := 516) (pc := 52) (ci := 14) (k := 23) (M := 49) (T := TX12) (o := 504) (kz := 23) hG a_504 a_504.n (by decide) hin_X12 rfl (by decide) (by decide) rfl kw_1715 rfl ((hw).1 (504, 23, 516) (by decide)) (by decide) dX12_given_52 ?_
        refine V.iload (pc := 55) hG dX12_given_55 4 rfl ?_
        obtain ⟨g25, h⟩ := h
        refine V.iald (pc := 57) (z := 96) (o := 516) hG a_516 a_516.n hx5_51 g25 dX12_given_57 ?_
        refine V.iload_n (pc := 58) hG dX12_given_58 rfl 2 rfl ?_
        obtain ⟨f28, t27⟩ := h
        refine V.icmp_ne (pc := 59) (tgt := 78) hG ((hi _ _)) hp2 dX12_given_59 (by decide) (fun c26 => ?_) (fun c26 => ?_)
        · have h := t27 c26
          clear t27 f28
          exact jn78 x5_51 hx5_51 h
        · have h := f28 c26
          clear t27 f28
          refine V.aload_n (pc := 62) hG dX12_given_62 rfl 0 rfl ?_
          refine V.getR (x := 515) (pc := 63) (ci := 14) (k := 22) (M := 49) (T := TX12) (o := 504) (kz := 22) hG a_504 a_504.n (by decide) hin_X12 rfl (by decide) (by decide) rfl kw_1714 rfl ((hw).1 (504, 22, 515) (by decide)) (by decide) dX12_given_63 ?_
          refine V.iload (pc := 66) hG dX12_given_66 4 rfl ?_
          obtain ⟨g29, h⟩ := h
          refine V.iald (pc := 68) (z := 96) (o := 515) hG a_515 a_515.n hx5_51 g29 dX12_given_68 ?_
          refine V.aload_n (pc := 69) hG dX12_given_69 rfl 0 rfl ?_
          refine V.getR (x := 515) (pc := 70) (ci := 14) (k := 22) (M := 49) (T := TX12) (o := 504) (kz := 22) hG a_504 a_504.n (by decide) hin_X12 rfl (by decide) (by decide) rfl kw_1714 rfl ((hw).1 (504, 22, 515) (by decide)) (by decide) dX12_given_70 ?_
          refine V.iload_n (pc := 73) hG dX12_given_73 rfl 1 rfl ?_
          obtain ⟨g30, h⟩ := h
          refine V.iald (pc := 74) (z := 96) (o := 515) hG a_515 a_515.n hp1 g30 dX12_given_74 ?_
          obtain ⟨t32, f33⟩ := h
          refine V.icmp_eq (pc := 75) (tgt := 84) hG ((hi _ _)) ((hi _ _)) dX12_given_75 (by decide) (fun c31 => ?_) (fun c31 => ?_)
          · have h := t32 c31
            clear t32 f33
            refine V.aload_n (pc := 84) hG dX12_given_84 rfl 0 rfl ?_
            refine V.getR (x := 534) (pc := 85) (ci := 14) (k := 42) (M := 49) (T := TX12) (o := 504) (kz := 42) hG a_504 a_504.n (by decide) hin_X12 rfl (by decide) (by decide) rfl kw_1734 rfl ((hw).1 (504, 42, 534) (by decide)) (by decide) dX12_given_85 ?_
            refine V.bipush (pc := 88) hG dX12_given_88 (by decide) ?_
            refine V.iload_n (pc := 90) hG dX12_given_90 rfl 3 rfl ?_
            refine V.imul (pc := 91) hG dX12_given_91 ?_
            refine V.iload (pc := 92) hG dX12_given_92 4 rfl ?_
            refine V.iadd (pc := 94) hG dX12_given_94 ?_
            obtain ⟨g34, h⟩ := h
            refine V.iald (pc := 95) (z := 1536) (o := 534) hG a_534 a_534.n ((sR_wr _)) g34 dX12_given_95 ?_
            exact fin dX12_given_96 ((hi _ _)) rfl hi hw ⟨rfl, h⟩
          · have h := f33 c31
            clear t32 f33
            exact jn78 x5_51 hx5_51 h
    refine V.pick [2, 3, 4, 5, 0] rfl ?_
    exact lp51 n24 p1 hp1 h
  · have h := f13 c11
    clear t12 f13
    refine V.aload_n (pc := 35) hG dX12_given_35 rfl 1 rfl ?_
    refine V.iload (pc := 36) hG dX12_given_36 0 rfl ?_
    refine V.aload_n (pc := 38) hG dX12_given_38 rfl 1 rfl ?_
    refine V.iload_n (pc := 39) hG dX12_given_39 rfl 2 rfl ?_
    refine V.iload_n (pc := 40) hG dX12_given_40 rfl 4 rfl ?_
    refine V.callVi (pc := 41) (As := [.int (sJ p1), .int (sJ p3)]) (stk := [.int (sJ (wr (wr (wr (13 * Int.tmod (i 515 p1) (i 504 6)) + 4) + wr (4 * p2)))), .ref (sA Δ 504)]) hG (sm_X12_loopTurn l Δ hp1 hp3 hi hw h) mY_X12_loopTurn kw_2201 kw_2203 kw_152 a_504 (by decide) (q := (RX12, TX12, 49)) rfl rfl ⟨Nat.le_of_ble_eq_true rfl, Nat.le_of_ble_eq_true rfl, Nat.le_of_ble_eq_true rfl, Nat.le_of_ble_eq_true rfl⟩ rfl (Nat.le_of_ble_eq_true rfl) dX12_given_41 rfl (fun v35 i36 r37 hv38 hi39 hw40 hq41 => ?_)
    obtain ⟨e51, e52, h⟩ := hq41
    subst e51
    subst e52
    refine V.callVi (pc := 44) (As := [.int (sJ (wr (wr (wr (13 * Int.tmod (i 515 p1) (i 504 6)) + 4) + wr (4 * p2)))), .int (sJ v35)]) (stk := []) hG (sm_X12_operand l Δ ((sR_wr _)) hv38 hi hw h) mY_X12_operand kw_2024 kw_2026 kw_132 a_504 (by decide) (q := (RX12, TX12, 49)) rfl rfl ⟨Nat.le_of_ble_eq_true rfl, Nat.le_of_ble_eq_true rfl, Nat.le_of_ble_eq_true rfl, Nat.le_of_ble_eq_true rfl⟩ rfl (Nat.le_of_ble_eq_true rfl) dX12_given_44 rfl (fun v42 i43 r44 hv45 hi46 hw47 hq48 => ?_)
    obtain ⟨e50, h⟩ := hq48
    subst e50
    exact fin dX12_given_47 hv45 rfl hi46 hw ⟨rfl, h⟩
set_option maxRecDepth 100000 in
set_option maxHeartbeats 4000000 in
theorem sm_X12_valueOf (l : Launch) (Δ : Wd) {i r : MI} {p1 : Int} {p2 : Int} (hp1 : sR p1) (hp2 : sR p2) {Q : Int → MI → Prop} (hi : okI i) (hw : Wf r) (h : wp_X12_valueOf p1 p2 i r Q) : Met l yX12_valueOf (Cond.code yX12_valueOf cX12_valueOf 5 (some .int) :: gW) (sRm 4 95) (sPc Δ [.ref (sA Δ 504), .int (sJ p1), .int (sJ p2)] i r) (sQi Δ (fun x i' r' => r = r' ∧ Q x i')) 0 0 (sFr Δ) := by
  refine Ct.i (ty := .int) (by decide) rfl (Nat.le_of_ble_eq_true rfl) (fun Γ Q0 hG fin => ?_)
  have hG : okG Γ Δ l (sRm 4 95) cX12_valueOf "SchedularyModel" 5 := hG
  show V Γ Δ 542 false i r 0 0 Q0 0 [(0, .ref (sA Δ 504)), (1, .int (sJ p1)), (2, .int (sJ p2))] []
  have jn138 : ∀ (k0j138 : Int) (ij138 : MI), sR k0j138 → okI ij138 → s138_X12_valueOf k0j138 ij138 r Q → V Γ Δ 542 false ij138 r 0 0 Q0 138 [] [.int (sJ k0j138)] := by
    intro k0j138 ij138 hk0j138 hij138 h
    exact fin dX12_valueOf_138 hk0j138 rfl hij138 hw ⟨rfl, h⟩
  refine V.bipush (pc := 0) hG dX12_valueOf_0 (by decide) ?_
  refine V.aload_n (pc := 2) hG dX12_valueOf_2 rfl 0 rfl ?_
  refine V.getR (x := 515) (pc := 3) (ci := 14) (k := 22) (M := 49) (T := TX12) (o := 504) (kz := 22) hG a_504 a_504.n (by decide) hin_X12 rfl (by decide) (by decide) rfl kw_1714 rfl ((hw).1 (504, 22, 515) (by decide)) (by decide) dX12_valueOf_3 ?_
  refine V.iload_n (pc := 6) hG dX12_valueOf_6 rfl 1 rfl ?_
  obtain ⟨g1, h⟩ := h
  refine V.iald (pc := 7) (z := 96) (o := 515) hG a_515 a_515.n hp1 g1 dX12_valueOf_7 ?_
  refine V.aload_n (pc := 8) hG dX12_valueOf_8 rfl 0 rfl ?_
  refine V.getI (pc := 9) (ci := 14) (k := 6) (M := 49) (T := TX12) (o := 504) (kz := 6) hG a_504 a_504.n (by decide) hin_X12 rfl (by decide) (by decide) rfl kw_1698 rfl dX12_valueOf_9 ?_
  obtain ⟨g2, h⟩ := h
  refine V.irem (pc := 12) hG ((hi _ _)) ((hi _ _)) g2 dX12_valueOf_12 ?_
  refine V.imul (pc := 13) hG dX12_valueOf_13 ?_
  refine V.istore_n (pc := 14) (lv' := [(3, .int (sJ (wr (13 * Int.tmod (i 515 p1) (i 504 6))))), (0, .ref (sA Δ 504)), (1, .int (sJ p1)), (2, .int (sJ p2))]) hG dX12_valueOf_14 rfl (by decide) rfl ?_
  refine V.aload_n (pc := 15) hG dX12_valueOf_15 rfl 1 rfl ?_
  refine V.getR (x := 507) (pc := 16) (ci := 14) (k := 7) (M := 49) (T := TX12) (o := 504) (kz := 7) hG a_504 a_504.n (by decide) hin_X12 rfl (by decide) (by decide) rfl kw_1699 rfl ((hw).1 (504, 7, 507) (by decide)) (by decide) dX12_valueOf_16 ?_
  refine V.iload_n (pc := 19) hG dX12_valueOf_19 rfl 0 rfl ?_
  refine V.bipush (pc := 20) hG dX12_valueOf_20 (by decide) ?_
  refine V.iadd (pc := 22) hG dX12_valueOf_22 ?_
  obtain ⟨g3, h⟩ := h
  refine V.iald (pc := 23) (z := 156) (o := 507) hG a_507 a_507.n ((sR_wr _)) g3 dX12_valueOf_23 ?_
  refine V.istore (pc := 24) (lv' := [(4, .int (sJ (i 507 (wr (wr (13 * Int.tmod (i 515 p1) (i 504 6)) + 12))))), (3, .int (sJ (wr (13 * Int.tmod (i 515 p1) (i 504 6))))), (0, .ref (sA Δ 504)), (1, .int (sJ p1)), (2, .int (sJ p2))]) hG dX12_valueOf_24 (by decide) rfl ?_
  refine V.aload_n (pc := 26) hG dX12_valueOf_26 rfl 2 rfl ?_
  refine V.getR (x := 516) (pc := 27) (ci := 14) (k := 23) (M := 49) (T := TX12) (o := 504) (kz := 23) hG a_504 a_504.n (by decide) hin_X12 rfl (by decide) (by decide) rfl kw_1715 rfl ((hw).1 (504, 23, 516) (by decide)) (by decide) dX12_valueOf_27 ?_
  refine V.iload_n (pc := 30) hG dX12_valueOf_30 rfl 3 rfl ?_
  obtain ⟨g4, h⟩ := h
  refine V.iald (pc := 31) (z := 96) (o := 516) hG a_516 a_516.n hp1 g4 dX12_valueOf_31 ?_
  obtain ⟨t6, f7⟩ := h
  by_cases c5 : i 516 p1 = 0
  · have h := t6 c5
    clear t6 f7
    refine V.tableIn (pc := 32) (tgt := 60) (off := 28) hG ((hi _ _)) dX12_valueOf_32 (by omega) (by omega) (by rw [c5]; rfl) (by decide) ?_
    refine V.aload_n (pc := 60) hG dX12_valueOf_60 rfl 2 rfl ?_
    refine V.iload_n (pc := 61) hG dX12_valueOf_61 rfl 1 rfl ?_
    refine V.iconst (pc := 62) hG dX12_valueOf_62 ?_
    refine V.iadd (pc := 63) hG dX12_valueOf_63 ?_
    refine V.aload_n (pc := 64) hG dX12_valueOf_64 rfl 2 rfl ?_
    refine V.iload_n (pc := 65) hG dX12_valueOf_65 rfl 3 rfl ?_
    refine V.iload_n (pc := 66) hG dX12_valueOf_66 rfl 4 rfl ?_
    refine V.callVi (pc := 67) (As := [.int (sJ p1), .int (sJ p2)]) (stk := [.int (sJ (wr (wr (13 * Int.tmod (i 515 p1) (i 504 6)) + 4))), .ref (sA Δ 504)]) hG (sm_X12_loopTurn l Δ hp1 hp2 hi hw h) mY_X12_loopTurn kw_2201 kw_2203 kw_152 a_504 (by decide) (q := (RX12, TX12, 49)) rfl rfl ⟨Nat.le_of_ble_eq_true rfl, Nat.le_of_ble_eq_true rfl, Nat.le_of_ble_eq_true rfl, Nat.le_of_ble_eq_true rfl⟩ rfl (Nat.le_of_ble_eq_true rfl) dX12_valueOf_67 rfl (fun v8 i9 r10 hv11 hi12 hw13 hq14 => ?_)
    obtain ⟨e24, e25, h⟩ := hq14
    subst e24
    subst e25
    refine V.callVi (pc := 70) (As := [.int (sJ (wr (wr (13 * Int.tmod (i 515 p1) (i 504 6)) + 4))), .int (sJ v8)]) (stk := []) hG (sm_X12_operand l Δ ((sR_wr _)) hv11 hi hw h) mY_X12_operand kw_2024 kw_2026 kw_132 a_504 (by decide) (q := (RX12, TX12, 49)) rfl rfl ⟨Nat.le_of_ble_eq_true rfl, Nat.le_of_ble_eq_true rfl, Nat.le_of_ble_eq_true rfl, Nat.le_of_ble_eq_true rfl⟩ rfl (Nat.le_of_ble_eq_true rfl) dX12_valueOf_70 rfl (fun v15 i16 r17 hv18 hi19 hw20 hq21 => ?_)
    obtain ⟨e23, h⟩ := hq21
    subst e23
    exact fin dX12_valueOf_73 hv18 rfl hi19 hw ⟨rfl, h⟩
  · have h := f7 c5
    clear t6 f7
    obtain ⟨t27, f28⟩ := h
    by_cases c26 : i 516 p1 = 1
    · have h := t27 c26
      clear t27 f28
      refine V.tableIn (pc := 32) (tgt := 74) (off := 42) hG ((hi _ _)) dX12_valueOf_32 (by omega) (by omega) (by rw [c26]; rfl) (by decide) ?_
      refine V.aload_n (pc := 74) hG dX12_valueOf_74 rfl 2 rfl ?_
      refine V.iload_n (pc := 75) hG dX12_valueOf_75 rfl 1 rfl ?_
      refine V.bipush (pc := 76) hG dX12_valueOf_76 (by decide) ?_
      refine V.iadd (pc := 78) hG dX12_valueOf_78 ?_
      refine V.aload_n (pc := 79) hG dX12_valueOf_79 rfl 2 rfl ?_
      refine V.iload_n (pc := 80) hG dX12_valueOf_80 rfl 3 rfl ?_
      refine V.iload_n (pc := 81) hG dX12_valueOf_81 rfl 4 rfl ?_
      refine V.callVi (pc := 82) (As := [.int (sJ p1), .int (sJ p2)]) (stk := [.int (sJ (wr (wr (13 * Int.tmod (i 515 p1) (i 504 6)) + 8))), .ref (sA Δ 504)]) hG (sm_X12_loopTurn l Δ hp1 hp2 hi hw h) mY_X12_loopTurn kw_2201 kw_2203 kw_152 a_504 (by decide) (q := (RX12, TX12, 49)) rfl rfl ⟨Nat.le_of_ble_eq_true rfl, Nat.le_of_ble_eq_true rfl, Nat.le_of_ble_eq_true rfl, Nat.le_of_ble_eq_true rfl⟩ rfl (Nat.le_of_ble_eq_true rfl) dX12_valueOf_82 rfl (fun v29 i30 r31 hv32 hi33 hw34 hq35 => ?_)
      obtain ⟨e45, e46, h⟩ := hq35
      subst e45
      subst e46
      refine V.callVi (pc := 85) (As := [.int (sJ (wr (wr (13 * Int.tmod (i 515 p1) (i 504 6)) + 8))), .int (sJ v29)]) (stk := []) hG (sm_X12_operand l Δ ((sR_wr _)) hv32 hi hw h) mY_X12_operand kw_2024 kw_2026 kw_132 a_504 (by decide) (q := (RX12, TX12, 49)) rfl rfl ⟨Nat.le_of_ble_eq_true rfl, Nat.le_of_ble_eq_true rfl, Nat.le_of_ble_eq_true rfl, Nat.le_of_ble_eq_true rfl⟩ rfl (Nat.le_of_ble_eq_true rfl) dX12_valueOf_85 rfl (fun v36 i37 r38 hv39 hi40 hw41 hq42 => ?_)
      obtain ⟨e44, h⟩ := hq42
      subst e44
      exact fin dX12_valueOf_88 hv39 rfl hi40 hw ⟨rfl, h⟩
    · have h := f28 c26
      clear t27 f28
      obtain ⟨t48, f49⟩ := h
      by_cases c47 : i 516 p1 = 2
      · have h := t48 c47
        clear t48 f49
        refine V.tableIn (pc := 32) (tgt := 89) (off := 57) hG ((hi _ _)) dX12_valueOf_32 (by omega) (by omega) (by rw [c47]; rfl) (by decide) ?_
        refine V.aload_n (pc := 89) hG dX12_valueOf_89 rfl 2 rfl ?_
        refine V.iload (pc := 90) hG dX12_valueOf_90 0 rfl ?_
        refine V.aload_n (pc := 92) hG dX12_valueOf_92 rfl 2 rfl ?_
        refine V.iload_n (pc := 93) hG dX12_valueOf_93 rfl 3 rfl ?_
        refine V.iconst (pc := 94) hG dX12_valueOf_94 ?_
        refine V.iload_n (pc := 95) hG dX12_valueOf_95 rfl 4 rfl ?_
        refine V.callVi (pc := 96) (As := [.int (sJ p1), .int (sJ 0), .int (sJ p2)]) (stk := [.int (sJ (i 507 (wr (wr (13 * Int.tmod (i 515 p1) (i 504 6)) + 12)))), .ref (sA Δ 504)]) hG (sm_X12_given l Δ hp1 ((sR_l rfl)) hp2 hi hw h) mY_X12_given kw_2209 kw_2211 kw_154 a_504 (by decide) (q := (RX12, TX12, 49)) rfl rfl ⟨Nat.le_of_ble_eq_true rfl, Nat.le_of_ble_eq_true rfl, Nat.le_of_ble_eq_true rfl, Nat.le_of_ble_eq_true rfl⟩ rfl (Nat.le_of_ble_eq_true rfl) dX12_valueOf_96 rfl (fun v50 i51 r52 hv53 hi54 hw55 hq56 => ?_)
        obtain ⟨e76, h⟩ := hq56
        subst e76
        refine V.aload_n (pc := 99) hG dX12_valueOf_99 rfl 2 rfl ?_
        refine V.iload_n (pc := 100) hG dX12_valueOf_100 rfl 3 rfl ?_
        refine V.iconst (pc := 101) hG dX12_valueOf_101 ?_
        refine V.iload_n (pc := 102) hG dX12_valueOf_102 rfl 4 rfl ?_
        refine V.callVi (pc := 103) (As := [.int (sJ p1), .int (sJ 1), .int (sJ p2)]) (stk := [.int (sJ v50), .int (sJ (i 507 (wr (wr (13 * Int.tmod (i 515 p1) (i 504 6)) + 12)))), .ref (sA Δ 504)]) hG (sm_X12_given l Δ hp1 ((sR_l rfl)) hp2 hi54 hw h) mY_X12_given kw_2209 kw_2211 kw_154 a_504 (by decide) (q := (RX12, TX12, 49)) rfl rfl ⟨Nat.le_of_ble_eq_true rfl, Nat.le_of_ble_eq_true rfl, Nat.le_of_ble_eq_true rfl, Nat.le_of_ble_eq_true rfl⟩ rfl (Nat.le_of_ble_eq_true rfl) dX12_valueOf_103 rfl (fun v57 i58 r59 hv60 hi61 hw62 hq63 => ?_)
        obtain ⟨e74, h⟩ := hq63
        subst e74
        refine V.callVi (pc := 106) (As := [.int (sJ (i 507 (wr (wr (13 * Int.tmod (i 515 p1) (i 504 6)) + 12)))), .int (sJ v50), .int (sJ v57)]) (stk := []) hG (sm_X12_operate l Δ ((hi _ _)) hv53 hv60 hi61 hw h) mY_X12_operate kw_2035 kw_2037 kw_134 a_504 (by decide) (q := (RX12, TX12, 49)) rfl rfl ⟨Nat.le_of_ble_eq_true rfl, Nat.le_of_ble_eq_true rfl, Nat.le_of_ble_eq_true rfl, Nat.le_of_ble_eq_true rfl⟩ rfl (Nat.le_of_ble_eq_true rfl) dX12_valueOf_106 rfl (fun v64 i65 r66 hv67 hi68 hw69 hq70 => ?_)
        obtain ⟨e71, e72, h⟩ := hq70
        subst e71
        subst e72
        exact fin dX12_valueOf_109 hv67 rfl hi61 hw ⟨rfl, h⟩
      · have h := f49 c47
        clear t48 f49
        refine V.tableOut (pc := 32) (tgt := 110) hG ((hi _ _)) dX12_valueOf_32 (by omega) (by decide) ?_
        refine V.iload (pc := 110) hG dX12_valueOf_110 0 rfl ?_
        obtain ⟨f79, t78⟩ := h
        refine V.if_ne (pc := 112) (tgt := 125) hG ((hi _ _)) dX12_valueOf_112 (by decide) (fun c77 => ?_) (fun c77 => ?_)
        · have h := t78 c77
          clear t78 f79
          refine V.aload_n (pc := 125) hG dX12_valueOf_125 rfl 2 rfl ?_
          refine V.getR (x := 534) (pc := 126) (ci := 14) (k := 42) (M := 49) (T := TX12) (o := 504) (kz := 42) hG a_504 a_504.n (by decide) hin_X12 rfl (by decide) (by decide) rfl kw_1734 rfl ((hw).1 (504, 42, 534) (by decide)) (by decide) dX12_valueOf_126 ?_
          refine V.bipush (pc := 129) hG dX12_valueOf_129 (by decide) ?_
          refine V.iload_n (pc := 131) hG dX12_valueOf_131 rfl 4 rfl ?_
          refine V.imul (pc := 132) hG dX12_valueOf_132 ?_
          refine V.iload_n (pc := 133) hG dX12_valueOf_133 rfl 3 rfl ?_
          refine V.iadd (pc := 134) hG dX12_valueOf_134 ?_
          refine V.iconst (pc := 135) hG dX12_valueOf_135 ?_
          refine V.isub (pc := 136) hG dX12_valueOf_136 ?_
          obtain ⟨g80, h⟩ := h
          refine V.iald (pc := 137) (z := 1536) (o := 534) hG a_534 a_534.n ((sR_wr _)) g80 dX12_valueOf_137 ?_
          refine V.pick [] rfl ?_
          exact jn138 (i 534 (wr (wr (wr (96 * p2) + p1) - 1))) i ((hi _ _)) hi h
        · have h := f79 c77
          clear t78 f79
          refine V.aload_n (pc := 115) hG dX12_valueOf_115 rfl 2 rfl ?_
          refine V.iload_n (pc := 116) hG dX12_valueOf_116 rfl 3 rfl ?_
          refine V.iconst (pc := 117) hG dX12_valueOf_117 ?_
          refine V.iload_n (pc := 118) hG dX12_valueOf_118 rfl 4 rfl ?_
          refine V.callVi (pc := 119) (As := [.int (sJ p1), .int (sJ 0), .int (sJ p2)]) (stk := []) hG (sm_X12_given l Δ hp1 ((sR_l rfl)) hp2 hi hw h) mY_X12_given kw_2209 kw_2211 kw_154 a_504 (by decide) (q := (RX12, TX12, 49)) rfl rfl ⟨Nat.le_of_ble_eq_true rfl, Nat.le_of_ble_eq_true rfl, Nat.le_of_ble_eq_true rfl, Nat.le_of_ble_eq_true rfl⟩ rfl (Nat.le_of_ble_eq_true rfl) dX12_valueOf_119 rfl (fun v81 i82 r83 hv84 hi85 hw86 hq87 => ?_)
          obtain ⟨e89, h⟩ := hq87
          subst e89
          refine V.goto (pc := 122) (tgt := 138) hG dX12_valueOf_122 (by decide) ?_
          refine V.pick [] rfl ?_
          exact jn138 v81 i82 hv84 hi85 h
