set_option maxRecDepth 100000 in
set_option maxHeartbeats 4000000 in
theorem sm_X12_isLastOf (l : Launch) (Δ : Wd) {i r : MI} {p1 : Int} (hp1 : sR p1) {Q : Int → Prop} (hi : okI i) (hw : Wf r) (h : wp_X12_isLastOf p1 i r Q) : Met l yX12_isLastOf (Cond.code yX12_isLastOf cX12_isLastOf 2 (some .boolean) :: gW) (sRm 0 0) (sPc Δ [.ref (sA Δ 504), .int (sJ p1)] i r) (sQi Δ (fun x i' r' => i = i' ∧ r = r' ∧ Q x)) 0 0 (sFr Δ) := by
  refine Ct.i (ty := .boolean) (by decide) rfl (Nat.le_of_ble_eq_true rfl) (fun Γ Q0 hG fin => ?_)
  have hG : okG Γ Δ l (sRm 0 0) cX12_isLastOf "SchedularyModel" 2 := hG
  show V Γ Δ 542 false i r 0 0 Q0 0 [(0, .ref (sA Δ 504)), (1, .int (sJ p1))] []
  have jn32 : ∀ (k0j32 : Int), sR k0j32 → s32_X12_isLastOf k0j32 i r Q → V Γ Δ 542 false i r 0 0 Q0 32 [] [.int (sJ k0j32)] := by
    intro k0j32 hk0j32 h
    obtain ⟨g2, h⟩ := h
    exact fin dX12_isLastOf_32 hk0j32 (nar_z g2) hi hw ⟨rfl, rfl, h⟩
  have jn27 : s27_X12_isLastOf i r Q → V Γ Δ 542 false i r 0 0 Q0 27 [] [] := by
    intro h
    refine V.iconst (pc := 27) hG dX12_isLastOf_27 ?_
    refine V.goto (pc := 28) (tgt := 32) hG dX12_isLastOf_28 (by decide) ?_
    exact jn32 1 ((sR_l rfl)) h
  refine V.iload_n (pc := 0) hG dX12_isLastOf_0 rfl 1 rfl ?_
  refine V.iconst (pc := 1) hG dX12_isLastOf_1 ?_
  refine V.iadd (pc := 2) hG dX12_isLastOf_2 ?_
  refine V.aload_n (pc := 3) hG dX12_isLastOf_3 rfl 0 rfl ?_
  refine V.getI (pc := 4) (ci := 14) (k := 21) (M := 49) (T := TX12) (o := 504) (kz := 21) hG a_504 a_504.n (by decide) hin_X12 rfl (by decide) (by decide) rfl kw_1713 rfl dX12_isLastOf_4 ?_
  obtain ⟨t4, f5⟩ := h
  refine V.icmp_eq (pc := 7) (tgt := 27) hG ((sR_wr _)) ((hi _ _)) dX12_isLastOf_7 (by decide) (fun c3 => ?_) (fun c3 => ?_)
  · have h := t4 c3
    clear t4 f5
    refine V.pick [] rfl ?_
    exact jn27 h
  · have h := f5 c3
    clear t4 f5
    refine V.aload_n (pc := 10) hG dX12_isLastOf_10 rfl 0 rfl ?_
    refine V.getR (x := 515) (pc := 11) (ci := 14) (k := 22) (M := 49) (T := TX12) (o := 504) (kz := 22) hG a_504 a_504.n (by decide) hin_X12 rfl (by decide) (by decide) rfl kw_1714 rfl ((hw).1 (504, 22, 515) (by decide)) (by decide) dX12_isLastOf_11 ?_
    refine V.iload_n (pc := 14) hG dX12_isLastOf_14 rfl 1 rfl ?_
    refine V.iconst (pc := 15) hG dX12_isLastOf_15 ?_
    refine V.iadd (pc := 16) hG dX12_isLastOf_16 ?_
    obtain ⟨g6, h⟩ := h
    refine V.iald (pc := 17) (z := 96) (o := 515) hG a_515 a_515.n ((sR_wr _)) g6 dX12_isLastOf_17 ?_
    refine V.aload_n (pc := 18) hG dX12_isLastOf_18 rfl 0 rfl ?_
    refine V.getR (x := 515) (pc := 19) (ci := 14) (k := 22) (M := 49) (T := TX12) (o := 504) (kz := 22) hG a_504 a_504.n (by decide) hin_X12 rfl (by decide) (by decide) rfl kw_1714 rfl ((hw).1 (504, 22, 515) (by decide)) (by decide) dX12_isLastOf_19 ?_
    refine V.iload_n (pc := 22) hG dX12_isLastOf_22 rfl 1 rfl ?_
    obtain ⟨g7, h⟩ := h
    refine V.iald (pc := 23) (z := 96) (o := 515) hG a_515 a_515.n hp1 g7 dX12_isLastOf_23 ?_
    obtain ⟨t9, f10⟩ := h
    refine V.icmp_eq (pc := 24) (tgt := 31) hG ((hi _ _)) ((hi _ _)) dX12_isLastOf_24 (by decide) (fun c8 => ?_) (fun c8 => ?_)
    · have h := t9 c8
      clear t9 f10
      refine V.iconst (pc := 31) hG dX12_isLastOf_31 ?_
      refine V.pick [] rfl ?_
      exact jn32 0 ((sR_l rfl)) h
    · have h := f10 c8
      clear t9 f10
      refine V.pick [] rfl ?_
      exact jn27 h
set_option maxRecDepth 100000 in
set_option maxHeartbeats 4000000 in
theorem sm_X12_flow (l : Launch) (Δ : Wd) {i r : MI}   {Q : MI → Prop} (hi : okI i) (hw : Wf r) (h : wp_X12_flow  i r Q) : Met l yX12_flow (Cond.code yX12_flow cX12_flow 6 none :: gW) (sRm 5 119) (sPc Δ [.ref (sA Δ 504)] i r) (sQv Δ (fun i' r' => r = r' ∧ Q i')) 0 0 (sFr Δ) := by
  refine Ct.v (by decide) rfl (Nat.le_of_ble_eq_true rfl) (fun Γ Q0 hG fin => ?_)
  have hG : okG Γ Δ l (sRm 5 119) cX12_flow "SchedularyModel" 6 := hG
  show V Γ Δ 542 false i r 0 0 Q0 0 [(0, .ref (sA Δ 504))] []
  have jn34 : ∀ (x1j34 : Int) (k0j34 : Int) (ij34 : MI), sR x1j34 → sR k0j34 → okI ij34 → s34_X12_flow x1j34 k0j34 ij34 r Q → V Γ Δ 542 false ij34 r 0 0 Q0 34 [(0, .ref (sA Δ 504)), (1, .int (sJ x1j34))] [.int (sJ k0j34)] := by
    intro x1j34 k0j34 ij34 hx1j34 hk0j34 hij34 h
    refine V.istore_n (pc := 34) (lv' := [(2, .int (sJ k0j34)), (0, .ref (sA Δ 504)), (1, .int (sJ x1j34))]) hG dX12_flow_34 rfl (by decide) rfl ?_
    refine V.aload_n (pc := 35) hG dX12_flow_35 rfl 1 rfl ?_
    refine V.callVv (pc := 36) (As := []) (stk := []) hG (sm_X12_begin l Δ  hij34 hw h) mY_X12_begin kw_2016 kw_2018 kw_130 a_504 (by decide) (q := (RX12, TX12, 49)) rfl rfl ⟨Nat.le_of_ble_eq_true rfl, Nat.le_of_ble_eq_true rfl, Nat.le_of_ble_eq_true rfl, Nat.le_of_ble_eq_true rfl⟩ rfl (Nat.le_of_ble_eq_true rfl) dX12_flow_36 rfl (fun i301 r302 hi304 hw305 hq306 => ?_)
    obtain ⟨e398, h⟩ := hq306
    subst e398
    refine V.iconst (pc := 39) hG dX12_flow_39 ?_
    refine V.istore_n (pc := 40) (lv' := [(3, .int (sJ 0)), (2, .int (sJ k0j34)), (0, .ref (sA Δ 504)), (1, .int (sJ x1j34))]) hG dX12_flow_40 rfl (by decide) rfl ?_
    obtain ⟨n307, h⟩ := h
    have lp41 : ∀ (m41 : Nat) (x3_41 : Int) (i_41 : MI), sR x3_41 → okI i_41 → LoopP (b41_X12_flow x1j34 k0j34 r Q) m41 (x3_41, i_41) → V Γ Δ 542 false i_41 r 0 0 Q0 41 [(0, .ref (sA Δ 504)), (1, .int (sJ x1j34)), (2, .int (sJ k0j34)), (3, .int (sJ x3_41))] [] := by
      intro m41
      induction m41 with
      | zero => intro x3_41 i_41 hx3_41 hi_41 h; exact h.elim
      | succ m41 ih41 =>
        intro x3_41 i_41 hx3_41 hi_41 h
        have h := LoopP_succ h
        refine V.iload_n (pc := 41) hG dX12_flow_41 rfl 3 rfl ?_
        refine V.iload_n (pc := 42) hG dX12_flow_42 rfl 2 rfl ?_
        obtain ⟨t309, f310⟩ := h
        refine V.icmp_gt (pc := 43) (tgt := 204) hG hx3_41 hk0j34 dX12_flow_43 (by decide) (fun c308 => ?_) (fun c308 => ?_)
        · have h := t309 c308
          clear t309 f310
          exact fin dX12_flow_204 hi_41 hw ⟨rfl, h⟩
        · have h := f310 c308
          clear t309 f310
          refine V.iconst (pc := 46) hG dX12_flow_46 ?_
          refine V.istore (pc := 47) (lv' := [(4, .int (sJ 0)), (0, .ref (sA Δ 504)), (1, .int (sJ x1j34)), (2, .int (sJ k0j34)), (3, .int (sJ x3_41))]) hG dX12_flow_47 (by decide) rfl ?_
          obtain ⟨n311, h⟩ := h
          have lp49 : ∀ (m49 : Nat) (x4_49 : Int) (i_49 : MI), sR x4_49 → okI i_49 → LoopP (b49_X12_flow x1j34 k0j34 x3_41 r Q (LoopP (b41_X12_flow x1j34 k0j34 r Q) m41)) m49 (x4_49, i_49) → V Γ Δ 542 false i_49 r 0 0 Q0 49 [(0, .ref (sA Δ 504)), (1, .int (sJ x1j34)), (2, .int (sJ k0j34)), (3, .int (sJ x3_41)), (4, .int (sJ x4_49))] [] := by
            intro m49
            induction m49 with
            | zero => intro x4_49 i_49 hx4_49 hi_49 h; exact h.elim
            | succ m49 ih49 =>
              intro x4_49 i_49 hx4_49 hi_49 h
              have h := LoopP_succ h
              have jn132 : ∀ (x4j132 : Int) (ij132 : MI), sR x4j132 → okI ij132 → s132_X12_flow x1j34 k0j34 x3_41 x4j132 ij132 r Q (LoopP (b41_X12_flow x1j34 k0j34 r Q) m41) (LoopP (b49_X12_flow x1j34 k0j34 x3_41 r Q (LoopP (b41_X12_flow x1j34 k0j34 r Q) m41)) m49) → V Γ Δ 542 false ij132 r 0 0 Q0 132 [(0, .ref (sA Δ 504)), (1, .int (sJ x1j34)), (2, .int (sJ k0j34)), (3, .int (sJ x3_41)), (4, .int (sJ x4j132))] [] := by
                intro x4j132 ij132 hx4j132 hij132 h
                refine V.iinc (pc := 132) (lv' := [(4, .int (sJ (wr (x4j132 + 1)))), (0, .ref (sA Δ 504)), (1, .int (sJ x1j34)), (2, .int (sJ k0j34)), (3, .int (sJ x3_41))]) hG dX12_flow_132 4 rfl (by decide) rfl ?_
                refine V.goto (pc := 135) (tgt := 49) hG dX12_flow_135 (by decide) ?_
                refine V.pick [1, 2, 3, 4, 0] rfl ?_
                exact ih49 (wr (x4j132 + 1)) ij132 ((sR_wr _)) hij132 h
              refine V.iload (pc := 49) hG dX12_flow_49 4 rfl ?_
              refine V.aload_n (pc := 51) hG dX12_flow_51 rfl 0 rfl ?_
              refine V.getI (pc := 52) (ci := 14) (k := 21) (M := 49) (T := TX12) (o := 504) (kz := 21) hG a_504 a_504.n (by decide) hin_X12 rfl (by decide) (by decide) rfl kw_1713 rfl dX12_flow_52 ?_
              obtain ⟨t313, f314⟩ := h
              refine V.icmp_ge (pc := 55) (tgt := 138) hG hx4_49 ((hi_49 _ _)) dX12_flow_55 (by decide) (fun c312 => ?_) (fun c312 => ?_)
              · have h := t313 c312
                clear t313 f314
                refine V.iconst (pc := 138) hG dX12_flow_138 ?_
                refine V.istore (pc := 139) (lv' := [(4, .int (sJ 0)), (0, .ref (sA Δ 504)), (1, .int (sJ x1j34)), (2, .int (sJ k0j34)), (3, .int (sJ x3_41))]) hG dX12_flow_139 (by decide) rfl ?_
                obtain ⟨n315, h⟩ := h
                have lp141 : ∀ (m141 : Nat) (x4_141 : Int) (i_141 : MI), sR x4_141 → okI i_141 → LoopP (b141_X12_flow x1j34 k0j34 x3_41 r Q (LoopP (b41_X12_flow x1j34 k0j34 r Q) m41)) m141 (x4_141, i_141) → V Γ Δ 542 false i_141 r 0 0 Q0 141 [(0, .ref (sA Δ 504)), (1, .int (sJ x1j34)), (2, .int (sJ k0j34)), (3, .int (sJ x3_41)), (4, .int (sJ x4_141))] [] := by
                  intro m141
                  induction m141 with
                  | zero => intro x4_141 i_141 hx4_141 hi_141 h; exact h.elim
                  | succ m141 ih141 =>
                    intro x4_141 i_141 hx4_141 hi_141 h
                    have h := LoopP_succ h
                    have jn192 : ∀ (x4j192 : Int) (ij192 : MI), sR x4j192 → okI ij192 → s192_X12_flow x1j34 k0j34 x3_41 x4j192 ij192 r Q (LoopP (b41_X12_flow x1j34 k0j34 r Q) m41) (LoopP (b141_X12_flow x1j34 k0j34 x3_41 r Q (LoopP (b41_X12_flow x1j34 k0j34 r Q) m41)) m141) → V Γ Δ 542 false ij192 r 0 0 Q0 192 [(0, .ref (sA Δ 504)), (1, .int (sJ x1j34)), (2, .int (sJ k0j34)), (3, .int (sJ x3_41)), (4, .int (sJ x4j192))] [] := by
                      intro x4j192 ij192 hx4j192 hij192 h
                      refine V.iinc (pc := 192) (lv' := [(4, .int (sJ (wr (x4j192 + 1)))), (0, .ref (sA Δ 504)), (1, .int (sJ x1j34)), (2, .int (sJ k0j34)), (3, .int (sJ x3_41))]) hG dX12_flow_192 4 rfl (by decide) rfl ?_
                      refine V.goto (pc := 195) (tgt := 141) hG dX12_flow_195 (by decide) ?_
                      refine V.pick [1, 2, 3, 4, 0] rfl ?_
                      exact ih141 (wr (x4j192 + 1)) ij192 ((sR_wr _)) hij192 h
                    refine V.iload (pc := 141) hG dX12_flow_141 4 rfl ?_
                    refine V.aload_n (pc := 143) hG dX12_flow_143 rfl 0 rfl ?_
                    refine V.getI (pc := 144) (ci := 14) (k := 21) (M := 49) (T := TX12) (o := 504) (kz := 21) hG a_504 a_504.n (by decide) hin_X12 rfl (by decide) (by decide) rfl kw_1713 rfl dX12_flow_144 ?_
                    obtain ⟨t317, f318⟩ := h
                    refine V.icmp_ge (pc := 147) (tgt := 198) hG hx4_141 ((hi_141 _ _)) dX12_flow_147 (by decide) (fun c316 => ?_) (fun c316 => ?_)
                    · have h := t317 c316
                      clear t317 f318
                      refine V.iinc (pc := 198) (lv' := [(3, .int (sJ (wr (x3_41 + 1)))), (0, .ref (sA Δ 504)), (1, .int (sJ x1j34)), (2, .int (sJ k0j34)), (4, .int (sJ x4_141))]) hG dX12_flow_198 3 rfl (by decide) rfl ?_
                      refine V.goto (pc := 201) (tgt := 41) hG dX12_flow_201 (by decide) ?_
                      refine V.pick [1, 2, 3, 0] rfl ?_
                      exact ih41 (wr (x3_41 + 1)) i_141 ((sR_wr _)) hi_141 h
                    · have h := f318 c316
                      clear t317 f318
                      refine V.aload_n (pc := 150) hG dX12_flow_150 rfl 0 rfl ?_
                      refine V.iload_n (pc := 151) hG dX12_flow_151 rfl 3 rfl ?_
                      refine V.aload_n (pc := 152) hG dX12_flow_152 rfl 0 rfl ?_
                      refine V.getR (x := 532) (pc := 153) (ci := 14) (k := 40) (M := 49) (T := TX12) (o := 504) (kz := 40) hG a_504 a_504.n (by decide) hin_X12 rfl (by decide) (by decide) rfl kw_1732 rfl ((hw).1 (504, 40, 532) (by decide)) (by decide) dX12_flow_153 ?_
                      refine V.iload (pc := 156) hG dX12_flow_156 4 rfl ?_
                      obtain ⟨g319, h⟩ := h
                      refine V.iald (pc := 158) (z := 96) (o := 532) hG a_532 a_532.n hx4_141 g319 dX12_flow_158 ?_
                      refine V.iload_n (pc := 159) hG dX12_flow_159 rfl 1 rfl ?_
                      refine V.callVi (pc := 160) (As := [.int (sJ x3_41), .int (sJ (i_141 532 x4_141)), .int (sJ x1j34)]) (stk := []) hG (sm_X12_turnAt l Δ hx3_41 ((hi_141 _ _)) hx1j34 hi_141 hw h) mY_X12_turnAt kw_2193 kw_2195 kw_150 a_504 (by decide) (q := (RX12, TX12, 49)) rfl rfl ⟨Nat.le_of_ble_eq_true rfl, Nat.le_of_ble_eq_true rfl, Nat.le_of_ble_eq_true rfl, Nat.le_of_ble_eq_true rfl⟩ rfl (Nat.le_of_ble_eq_true rfl) dX12_flow_160 rfl (fun v320 i321 r322 hv323 hi324 hw325 hq326 => ?_)
                      obtain ⟨e340, e341, h⟩ := hq326
                      subst e340
                      subst e341
                      refine V.istore (pc := 163) (lv' := [(5, .int (sJ v320)), (0, .ref (sA Δ 504)), (1, .int (sJ x1j34)), (2, .int (sJ k0j34)), (3, .int (sJ x3_41)), (4, .int (sJ x4_141))]) hG dX12_flow_163 (by decide) rfl ?_
                      refine V.iload (pc := 165) hG dX12_flow_165 0 rfl ?_
                      refine V.iconst (pc := 167) hG dX12_flow_167 ?_
                      obtain ⟨t328, f329⟩ := h
                      refine V.icmp_eq (pc := 168) (tgt := 192) hG hv323 ((sR_l rfl)) dX12_flow_168 (by decide) (fun c327 => ?_) (fun c327 => ?_)
                      · have h := t328 c327
                        clear t328 f329
                        refine V.pick [1, 2, 3, 4, 5] rfl ?_
                        exact jn192 x4_141 i_141 hx4_141 hi_141 h
                      · have h := f329 c327
                        clear t328 f329
                        refine V.aload_n (pc := 171) hG dX12_flow_171 rfl 1 rfl ?_
                        refine V.getR (x := 534) (pc := 172) (ci := 14) (k := 42) (M := 49) (T := TX12) (o := 504) (kz := 42) hG a_504 a_504.n (by decide) hin_X12 rfl (by decide) (by decide) rfl kw_1734 rfl ((hw).1 (504, 42, 534) (by decide)) (by decide) dX12_flow_172 ?_
                        refine V.bipush (pc := 175) hG dX12_flow_175 (by decide) ?_
                        refine V.iload (pc := 177) hG dX12_flow_177 0 rfl ?_
                        refine V.imul (pc := 179) hG dX12_flow_179 ?_
                        refine V.iload (pc := 180) hG dX12_flow_180 5 rfl ?_
                        refine V.iadd (pc := 182) hG dX12_flow_182 ?_
                        refine V.aload_n (pc := 183) hG dX12_flow_183 rfl 1 rfl ?_
                        refine V.iload (pc := 184) hG dX12_flow_184 5 rfl ?_
                        refine V.iload (pc := 186) hG dX12_flow_186 0 rfl ?_
                        refine V.callVi (pc := 188) (As := [.int (sJ x4_141), .int (sJ v320)]) (stk := [.int (sJ (wr (wr (96 * v320) + x4_141))), .ref (sA Δ 534)]) hG (sm_X12_valueOf l Δ hx4_141 hv323 hi_141 hw h) mY_X12_valueOf kw_2205 kw_2207 kw_153 a_504 (by decide) (q := (RX12, TX12, 49)) rfl rfl ⟨Nat.le_of_ble_eq_true rfl, Nat.le_of_ble_eq_true rfl, Nat.le_of_ble_eq_true rfl, Nat.le_of_ble_eq_true rfl⟩ rfl (Nat.le_of_ble_eq_true rfl) dX12_flow_188 rfl (fun v330 i331 r332 hv333 hi334 hw335 hq336 => ?_)
                        obtain ⟨e339, h⟩ := hq336
                        subst e339
                        obtain ⟨g337, h⟩ := h
                        refine V.iast (pc := 191) (z := 1536) (o := 534) hG a_534 a_534.n ((sR_wr _)) g337 dX12_flow_191 ?_
                        refine V.pick [1, 2, 3, 4, 5] rfl ?_
                        exact jn192 x4_141 (st i331 534 (wr (wr (96 * v320) + x4_141)) v330) hx4_141 ((okI_st hi334 hv333)) h
                refine V.pick [1, 2, 3, 4, 0] rfl ?_
                exact lp141 n315 0 i_49 ((sR_l rfl)) hi_49 h
              · have h := f314 c312
                clear t313 f314
                refine V.aload_n (pc := 58) hG dX12_flow_58 rfl 0 rfl ?_
                refine V.iload_n (pc := 59) hG dX12_flow_59 rfl 3 rfl ?_
                refine V.aload_n (pc := 60) hG dX12_flow_60 rfl 0 rfl ?_
                refine V.getR (x := 532) (pc := 61) (ci := 14) (k := 40) (M := 49) (T := TX12) (o := 504) (kz := 40) hG a_504 a_504.n (by decide) hin_X12 rfl (by decide) (by decide) rfl kw_1732 rfl ((hw).1 (504, 40, 532) (by decide)) (by decide) dX12_flow_61 ?_
                refine V.iload (pc := 64) hG dX12_flow_64 4 rfl ?_
                obtain ⟨g342, h⟩ := h
                refine V.iald (pc := 66) (z := 96) (o := 532) hG a_532 a_532.n hx4_49 g342 dX12_flow_66 ?_
                refine V.aload_n (pc := 67) hG dX12_flow_67 rfl 0 rfl ?_
                refine V.iload (pc := 68) hG dX12_flow_68 4 rfl ?_
                refine V.callVi (pc := 70) (As := [.int (sJ x4_49)]) (stk := [.int (sJ (i_49 532 x4_49)), .int (sJ x3_41), .ref (sA Δ 504)]) hG (sm_X12_cyclesOf l Δ hx4_49 hi_49 hw h) mY_X12_cyclesOf kw_1947 kw_1949 kw_123 a_504 (by decide) (q := (RX12, TX12, 49)) rfl rfl ⟨Nat.le_of_ble_eq_true rfl, Nat.le_of_ble_eq_true rfl, Nat.le_of_ble_eq_true rfl, Nat.le_of_ble_eq_true rfl⟩ rfl (Nat.le_of_ble_eq_true rfl) dX12_flow_70 rfl (fun v343 i344 r345 hv346 hi347 hw348 hq349 => ?_)
                obtain ⟨e395, e396, h⟩ := hq349
                subst e395
                subst e396
                refine V.iadd (pc := 73) hG dX12_flow_73 ?_
                refine V.iload_n (pc := 74) hG dX12_flow_74 rfl 1 rfl ?_
                refine V.callVi (pc := 75) (As := [.int (sJ x3_41), .int (sJ (wr (i_49 532 x4_49 + v343))), .int (sJ x1j34)]) (stk := []) hG (sm_X12_turnAt l Δ hx3_41 ((sR_wr _)) hx1j34 hi_49 hw h) mY_X12_turnAt kw_2193 kw_2195 kw_150 a_504 (by decide) (q := (RX12, TX12, 49)) rfl rfl ⟨Nat.le_of_ble_eq_true rfl, Nat.le_of_ble_eq_true rfl, Nat.le_of_ble_eq_true rfl, Nat.le_of_ble_eq_true rfl⟩ rfl (Nat.le_of_ble_eq_true rfl) dX12_flow_75 rfl (fun v350 i351 r352 hv353 hi354 hw355 hq356 => ?_)
                obtain ⟨e393, e394, h⟩ := hq356
                subst e393
                subst e394
                refine V.istore (pc := 78) (lv' := [(5, .int (sJ v350)), (0, .ref (sA Δ 504)), (1, .int (sJ x1j34)), (2, .int (sJ k0j34)), (3, .int (sJ x3_41)), (4, .int (sJ x4_49))]) hG dX12_flow_78 (by decide) rfl ?_
                refine V.iload (pc := 80) hG dX12_flow_80 0 rfl ?_
                refine V.iconst (pc := 82) hG dX12_flow_82 ?_
                obtain ⟨t358, f359⟩ := h
                refine V.icmp_eq (pc := 83) (tgt := 132) hG hv353 ((sR_l rfl)) dX12_flow_83 (by decide) (fun c357 => ?_) (fun c357 => ?_)
                · have h := t358 c357
                  clear t358 f359
                  refine V.pick [1, 2, 3, 4, 5] rfl ?_
                  exact jn132 x4_49 i_49 hx4_49 hi_49 h
                · have h := f359 c357
                  clear t358 f359
                  refine V.aload_n (pc := 86) hG dX12_flow_86 rfl 1 rfl ?_
                  refine V.iload (pc := 87) hG dX12_flow_87 5 rfl ?_
                  refine V.callVi (pc := 89) (As := [.int (sJ x4_49)]) (stk := []) hG (sm_X12_isLastOf l Δ hx4_49 hi_49 hw h) mY_X12_isLastOf kw_2197 kw_2199 kw_151 a_504 (by decide) (q := (RX12, TX12, 49)) rfl rfl ⟨Nat.le_of_ble_eq_true rfl, Nat.le_of_ble_eq_true rfl, Nat.le_of_ble_eq_true rfl, Nat.le_of_ble_eq_true rfl⟩ rfl (Nat.le_of_ble_eq_true rfl) dX12_flow_89 rfl (fun v360 i361 r362 hv363 hi364 hw365 hq366 => ?_)
                  obtain ⟨e391, e392, h⟩ := hq366
                  subst e391
                  subst e392
                  obtain ⟨t368, f369⟩ := h
                  refine V.if_eq (pc := 92) (tgt := 132) hG hv363 dX12_flow_92 (by decide) (fun c367 => ?_) (fun c367 => ?_)
                  · have h := t368 c367
                    clear t368 f369
                    refine V.pick [1, 2, 3, 4, 5] rfl ?_
                    exact jn132 x4_49 i_49 hx4_49 hi_49 h
                  · have h := f369 c367
                    clear t368 f369
                    refine V.aload_n (pc := 95) hG dX12_flow_95 rfl 1 rfl ?_
                    refine V.aload_n (pc := 96) hG dX12_flow_96 rfl 1 rfl ?_
                    refine V.getR (x := 515) (pc := 97) (ci := 14) (k := 22) (M := 49) (T := TX12) (o := 504) (kz := 22) hG a_504 a_504.n (by decide) hin_X12 rfl (by decide) (by decide) rfl kw_1714 rfl ((hw).1 (504, 22, 515) (by decide)) (by decide) dX12_flow_97 ?_
                    refine V.iload (pc := 100) hG dX12_flow_100 5 rfl ?_
                    obtain ⟨g370, h⟩ := h
                    refine V.iald (pc := 102) (z := 96) (o := 515) hG a_515 a_515.n hx4_49 g370 dX12_flow_102 ?_
                    refine V.aload_n (pc := 103) hG dX12_flow_103 rfl 1 rfl ?_
                    refine V.getI (pc := 104) (ci := 14) (k := 6) (M := 49) (T := TX12) (o := 504) (kz := 6) hG a_504 a_504.n (by decide) hin_X12 rfl (by decide) (by decide) rfl kw_1698 rfl dX12_flow_104 ?_
                    obtain ⟨g371, h⟩ := h
                    refine V.irem (pc := 107) hG ((hi_49 _ _)) ((hi_49 _ _)) g371 dX12_flow_107 ?_
                    refine V.aload_n (pc := 108) hG dX12_flow_108 rfl 1 rfl ?_
                    refine V.iload (pc := 109) hG dX12_flow_109 5 rfl ?_
                    refine V.iload (pc := 111) hG dX12_flow_111 0 rfl ?_
                    refine V.callVi (pc := 113) (As := [.int (sJ x4_49), .int (sJ v350)]) (stk := [.int (sJ (Int.tmod (i_49 515 x4_49) (i_49 504 6))), .ref (sA Δ 504)]) hG (sm_X12_loopTurn l Δ hx4_49 hv353 hi_49 hw h) mY_X12_loopTurn kw_2201 kw_2203 kw_152 a_504 (by decide) (q := (RX12, TX12, 49)) rfl rfl ⟨Nat.le_of_ble_eq_true rfl, Nat.le_of_ble_eq_true rfl, Nat.le_of_ble_eq_true rfl, Nat.le_of_ble_eq_true rfl⟩ rfl (Nat.le_of_ble_eq_true rfl) dX12_flow_113 rfl (fun v372 i373 r374 hv375 hi376 hw377 hq378 => ?_)
                    obtain ⟨e389, e390, h⟩ := hq378
                    subst e389
                    subst e390
                    refine V.aload_n (pc := 116) hG dX12_flow_116 rfl 1 rfl ?_
                    refine V.getR (x := 534) (pc := 117) (ci := 14) (k := 42) (M := 49) (T := TX12) (o := 504) (kz := 42) hG a_504 a_504.n (by decide) hin_X12 rfl (by decide) (by decide) rfl kw_1734 rfl ((hw).1 (504, 42, 534) (by decide)) (by decide) dX12_flow_117 ?_
                    refine V.bipush (pc := 120) hG dX12_flow_120 (by decide) ?_
                    refine V.iload (pc := 122) hG dX12_flow_122 0 rfl ?_
                    refine V.imul (pc := 124) hG dX12_flow_124 ?_
                    refine V.iload (pc := 125) hG dX12_flow_125 5 rfl ?_
                    refine V.iadd (pc := 127) hG dX12_flow_127 ?_
                    obtain ⟨g379, h⟩ := h
                    refine V.iald (pc := 128) (z := 1536) (o := 534) hG a_534 a_534.n ((sR_wr _)) g379 dX12_flow_128 ?_
                    refine V.callVv (pc := 129) (As := [.int (sJ (Int.tmod (i_49 515 x4_49) (i_49 504 6))), .int (sJ v372), .int (sJ (i_49 534 (wr (wr (96 * v350) + x4_49))))]) (stk := []) hG (sm_X12_write l Δ ((sR_tmod ((hi_49 _ _)))) hv375 ((hi_49 _ _)) hi_49 hw h) mY_X12_write kw_2039 kw_2041 kw_135 a_504 (by decide) (q := (RX12, TX12, 49)) rfl rfl ⟨Nat.le_of_ble_eq_true rfl, Nat.le_of_ble_eq_true rfl, Nat.le_of_ble_eq_true rfl, Nat.le_of_ble_eq_true rfl⟩ rfl (Nat.le_of_ble_eq_true rfl) dX12_flow_129 rfl (fun i381 r382 hi384 hw385 hq386 => ?_)
                    obtain ⟨e388, h⟩ := hq386
                    subst e388
                    refine V.pick [1, 2, 3, 4, 5] rfl ?_
                    exact jn132 x4_49 i381 hx4_49 hi384 h
          refine V.pick [1, 2, 3, 4, 0] rfl ?_
          exact lp49 n311 0 i_41 ((sR_l rfl)) hi_41 h
    refine V.pick [2, 3, 1, 0] rfl ?_
    exact lp41 n307 0 i301 ((sR_l rfl)) hi304 h
  refine V.aload_n (pc := 0) hG dX12_flow_0 rfl 0 rfl ?_
  refine V.callVi (pc := 1) (As := []) (stk := []) hG (sm_X12_placeAll l Δ  hi hw h) mY_X12_placeAll kw_2153 kw_2155 kw_145 a_504 (by decide) (q := (RX12, TX12, 49)) rfl rfl ⟨Nat.le_of_ble_eq_true rfl, Nat.le_of_ble_eq_true rfl, Nat.le_of_ble_eq_true rfl, Nat.le_of_ble_eq_true rfl⟩ rfl (Nat.le_of_ble_eq_true rfl) dX12_flow_1 rfl (fun v399 i400 r401 hv402 hi403 hw404 hq405 => ?_)
  obtain ⟨e420, h⟩ := hq405
  subst e420
  refine V.istore_n (pc := 4) (lv' := [(1, .int (sJ v399)), (0, .ref (sA Δ 504))]) hG dX12_flow_4 rfl (by decide) rfl ?_
  refine V.aload_n (pc := 5) hG dX12_flow_5 rfl 1 rfl ?_
  refine V.getI (pc := 6) (ci := 14) (k := 21) (M := 49) (T := TX12) (o := 504) (kz := 21) hG a_504 a_504.n (by decide) hin_X12 rfl (by decide) (by decide) rfl kw_1713 rfl dX12_flow_6 ?_
  obtain ⟨f408, t407⟩ := h
  refine V.if_ne (pc := 9) (tgt := 16) hG ((hi403 _ _)) dX12_flow_9 (by decide) (fun c406 => ?_) (fun c406 => ?_)
  · have h := t407 c406
    clear t407 f408
    refine V.aload_n (pc := 16) hG dX12_flow_16 rfl 1 rfl ?_
    refine V.callVi (pc := 17) (As := []) (stk := []) hG (sm_X12_longest l Δ  hi403 hw h) mY_X12_longest kw_2177 kw_2179 kw_148 a_504 (by decide) (q := (RX12, TX12, 49)) rfl rfl ⟨Nat.le_of_ble_eq_true rfl, Nat.le_of_ble_eq_true rfl, Nat.le_of_ble_eq_true rfl, Nat.le_of_ble_eq_true rfl⟩ rfl (Nat.le_of_ble_eq_true rfl) dX12_flow_17 rfl (fun v409 i410 r411 hv412 hi413 hw414 hq415 => ?_)
    obtain ⟨e417, e418, h⟩ := hq415
    subst e417
    subst e418
    refine V.iload_n (pc := 20) hG dX12_flow_20 rfl 0 rfl ?_
    refine V.aload_n (pc := 21) hG dX12_flow_21 rfl 1 rfl ?_
    refine V.getI (pc := 22) (ci := 14) (k := 8) (M := 49) (T := TX12) (o := 504) (kz := 8) hG a_504 a_504.n (by decide) hin_X12 rfl (by decide) (by decide) rfl kw_1700 rfl dX12_flow_22 ?_
    refine V.aload_n (pc := 25) hG dX12_flow_25 rfl 1 rfl ?_
    refine V.getI (pc := 26) (ci := 14) (k := 10) (M := 49) (T := TX12) (o := 504) (kz := 10) hG a_504 a_504.n (by decide) hin_X12 rfl (by decide) (by decide) rfl kw_1702 rfl dX12_flow_26 ?_
    obtain ⟨g416, h⟩ := h
    refine V.idiv (pc := 29) hG ((hi403 _ _)) ((hi403 _ _)) g416 dX12_flow_29 ?_
    refine V.iconst (pc := 30) hG dX12_flow_30 ?_
    refine V.isub (pc := 31) hG dX12_flow_31 ?_
    refine V.imul (pc := 32) hG dX12_flow_32 ?_
    refine V.iadd (pc := 33) hG dX12_flow_33 ?_
    refine V.pick [1, 0] rfl ?_
    exact jn34 v399 (wr (v409 + wr (v399 * wr (wr (Int.tdiv (i400 504 8) (i400 504 10)) - 1)))) i400 hv402 ((sR_wr _)) hi403 h
  · have h := f408 c406
    clear t407 f408
    refine V.iconst (pc := 12) hG dX12_flow_12 ?_
    refine V.goto (pc := 13) (tgt := 34) hG dX12_flow_13 (by decide) ?_
    refine V.pick [1, 0] rfl ?_
    exact jn34 v399 0 i400 hv402 ((sR_l rfl)) hi403 h
set_option maxRecDepth 100000 in
set_option maxHeartbeats 4000000 in
theorem sm_X12_circuitOutputs (l : Launch) (Δ : Wd) {i r : MI}   {Q : Int → MI → Prop} (hi : okI i) (hw : Wf r) (h : wp_X12_circuitOutputs  i r Q) : Met l yX12_circuitOutputs (Cond.code yX12_circuitOutputs cX12_circuitOutputs 1 (some .int) :: gW) (sRm 6 144) (sPc Δ [.ref (sA Δ 504)] i r) (sQi Δ (fun x i' r' => r = r' ∧ Q x i')) 0 0 (sFr Δ) := by
  refine Ct.i (ty := .int) (by decide) rfl (Nat.le_of_ble_eq_true rfl) (fun Γ Q0 hG fin => ?_)
  have hG : okG Γ Δ l (sRm 6 144) cX12_circuitOutputs "SchedularyModel" 1 := hG
  show V Γ Δ 542 false i r 0 0 Q0 0 [(0, .ref (sA Δ 504))] []
  refine V.aload_n (pc := 0) hG dX12_circuitOutputs_0 rfl 0 rfl ?_
  refine V.iconst (pc := 1) hG dX12_circuitOutputs_1 ?_
  refine V.putI (pc := 2) (ci := 14) (k := 0) (M := 49) (T := TX12) (o := 504) (kz := 0) hG a_504 a_504.n (by decide) hin_X12 rfl (by decide) (by decide) rfl kw_1692 rfl tyX12 tyX12_ok nmX12 rfl (ty := tyX12 0) (tyX12_ok 0 (by decide)) rfl rfl dX12_circuitOutputs_2 ?_
  refine V.aload_n (pc := 5) hG dX12_circuitOutputs_5 rfl 0 rfl ?_
  refine V.callVv (pc := 6) (As := []) (stk := []) hG (sm_X12_flow l Δ  ((okI_st hi ((sR_l rfl)))) hw h) mY_X12_flow kw_2189 kw_2191 kw_149 a_504 (by decide) (q := (RX12, TX12, 49)) rfl rfl ⟨Nat.le_of_ble_eq_true rfl, Nat.le_of_ble_eq_true rfl, Nat.le_of_ble_eq_true rfl, Nat.le_of_ble_eq_true rfl⟩ rfl (Nat.le_of_ble_eq_true rfl) dX12_circuitOutputs_6 rfl (fun i2 r3 hi5 hw6 hq7 => ?_)
  obtain ⟨e9, h⟩ := hq7
  subst e9
  refine V.aload_n (pc := 9) hG dX12_circuitOutputs_9 rfl 0 rfl ?_
  refine V.getI (pc := 10) (ci := 14) (k := 19) (M := 49) (T := TX12) (o := 504) (kz := 19) hG a_504 a_504.n (by decide) hin_X12 rfl (by decide) (by decide) rfl kw_1711 rfl dX12_circuitOutputs_10 ?_
  exact fin dX12_circuitOutputs_13 ((hi5 _ _)) rfl hi5 hw ⟨rfl, h⟩
set_option maxRecDepth 100000 in
set_option maxHeartbeats 4000000 in
theorem sm_X12_circuitOutput (l : Launch) (Δ : Wd) {i r : MI} {p1 : Int} (hp1 : sR p1) {Q : Int → MI → Prop} (hi : okI i) (hw : Wf r) (h : wp_X12_circuitOutput p1 i r Q) : Met l yX12_circuitOutput (Cond.code yX12_circuitOutput cX12_circuitOutput 2 (some .int) :: gW) (sRm 6 144) (sPc Δ [.ref (sA Δ 504), .int (sJ p1)] i r) (sQi Δ (fun x i' r' => r = r' ∧ Q x i')) 0 0 (sFr Δ) := by
  refine Ct.i (ty := .int) (by decide) rfl (Nat.le_of_ble_eq_true rfl) (fun Γ Q0 hG fin => ?_)
  have hG : okG Γ Δ l (sRm 6 144) cX12_circuitOutput "SchedularyModel" 2 := hG
  show V Γ Δ 542 false i r 0 0 Q0 0 [(0, .ref (sA Δ 504)), (1, .int (sJ p1))] []
  have jn46 : ∀ (k0j46 : Int) (ij46 : MI), sR k0j46 → okI ij46 → s46_X12_circuitOutput k0j46 ij46 r Q → V Γ Δ 542 false ij46 r 0 0 Q0 46 [] [.int (sJ k0j46)] := by
    intro k0j46 ij46 hk0j46 hij46 h
    exact fin dX12_circuitOutput_46 hk0j46 rfl hij46 hw ⟨rfl, h⟩
  have jn29 : ∀ (k1j29 : Int) (ij29 : MI), sR k1j29 → okI ij29 → s29_X12_circuitOutput p1 k1j29 ij29 r Q → V Γ Δ 542 false ij29 r 0 0 Q0 29 [(0, .ref (sA Δ 504)), (1, .int (sJ p1))] [.int (sJ k1j29), .ref (sA Δ 504)] := by
    intro k1j29 ij29 hk1j29 hij29 h
    refine V.iconst (pc := 29) hG dX12_circuitOutput_29 ?_
    refine V.callVi (pc := 30) (As := [.int (sJ k1j29), .int (sJ 1)]) (stk := []) hG (sm_X12_fails l Δ hk1j29 ((sR_l rfl)) hij29 hw h) mY_X12_fails kw_1853 kw_1855 kw_106 a_504 (by decide) (q := (RX12, TX12, 49)) rfl rfl ⟨Nat.le_of_ble_eq_true rfl, Nat.le_of_ble_eq_true rfl, Nat.le_of_ble_eq_true rfl, Nat.le_of_ble_eq_true rfl⟩ rfl (Nat.le_of_ble_eq_true rfl) dX12_circuitOutput_30 rfl (fun v14 i15 r16 hv17 hi18 hw19 hq20 => ?_)
    obtain ⟨e26, h⟩ := hq20
    subst e26
    obtain ⟨t22, f23⟩ := h
    refine V.if_eq (pc := 33) (tgt := 40) hG hv17 dX12_circuitOutput_33 (by decide) (fun c21 => ?_) (fun c21 => ?_)
    · have h := t22 c21
      clear t22 f23
      refine V.aload_n (pc := 40) hG dX12_circuitOutput_40 rfl 0 rfl ?_
      refine V.getR (x := 514) (pc := 41) (ci := 14) (k := 18) (M := 49) (T := TX12) (o := 504) (kz := 18) hG a_504 a_504.n (by decide) hin_X12 rfl (by decide) (by decide) rfl kw_1710 rfl ((hw).1 (504, 18, 514) (by decide)) (by decide) dX12_circuitOutput_41 ?_
      refine V.iload_n (pc := 44) hG dX12_circuitOutput_44 rfl 1 rfl ?_
      obtain ⟨g24, h⟩ := h
      refine V.iald (pc := 45) (z := 192) (o := 514) hG a_514 a_514.n hp1 g24 dX12_circuitOutput_45 ?_
      refine V.pick [] rfl ?_
      exact jn46 (i15 514 p1) i15 ((hi18 _ _)) hi18 h
    · have h := f23 c21
      clear t22 f23
      refine V.iconst (pc := 36) hG dX12_circuitOutput_36 ?_
      refine V.goto (pc := 37) (tgt := 46) hG dX12_circuitOutput_37 (by decide) ?_
      refine V.pick [] rfl ?_
      exact jn46 0 i15 ((sR_l rfl)) hi18 h
  refine V.aload_n (pc := 0) hG dX12_circuitOutput_0 rfl 0 rfl ?_
  refine V.iconst (pc := 1) hG dX12_circuitOutput_1 ?_
  refine V.putI (pc := 2) (ci := 14) (k := 0) (M := 49) (T := TX12) (o := 504) (kz := 0) hG a_504 a_504.n (by decide) hin_X12 rfl (by decide) (by decide) rfl kw_1692 rfl tyX12 tyX12_ok nmX12 rfl (ty := tyX12 0) (tyX12_ok 0 (by decide)) rfl rfl dX12_circuitOutput_2 ?_
  refine V.aload_n (pc := 5) hG dX12_circuitOutput_5 rfl 0 rfl ?_
  refine V.callVv (pc := 6) (As := []) (stk := []) hG (sm_X12_flow l Δ  ((okI_st hi ((sR_l rfl)))) hw h) mY_X12_flow kw_2189 kw_2191 kw_149 a_504 (by decide) (q := (RX12, TX12, 49)) rfl rfl ⟨Nat.le_of_ble_eq_true rfl, Nat.le_of_ble_eq_true rfl, Nat.le_of_ble_eq_true rfl, Nat.le_of_ble_eq_true rfl⟩ rfl (Nat.le_of_ble_eq_true rfl) dX12_circuitOutput_6 rfl (fun i28 r29 hi31 hw32 hq33 => ?_)
  obtain ⟨e47, h⟩ := hq33
  subst e47
  refine V.aload_n (pc := 9) hG dX12_circuitOutput_9 rfl 0 rfl ?_
  refine V.iload_n (pc := 10) hG dX12_circuitOutput_10 rfl 1 rfl ?_
  refine V.iconst (pc := 11) hG dX12_circuitOutput_11 ?_
  refine V.aload_n (pc := 12) hG dX12_circuitOutput_12 rfl 0 rfl ?_
  refine V.getI (pc := 13) (ci := 14) (k := 19) (M := 49) (T := TX12) (o := 504) (kz := 19) hG a_504 a_504.n (by decide) hin_X12 rfl (by decide) (by decide) rfl kw_1711 rfl dX12_circuitOutput_13 ?_
  refine V.iconst (pc := 16) hG dX12_circuitOutput_16 ?_
  refine V.isub (pc := 17) hG dX12_circuitOutput_17 ?_
  refine V.callSi (pc := 18) (As := [.int (sJ p1), .int (sJ 0), .int (sJ (wr (i28 504 19 - 1)))]) (stk := [.ref (sA Δ 504)]) hG (sm_X12_in l Δ hp1 ((sR_l rfl)) ((sR_wr _)) hi31 hw h) mY_X12_in kw_1848 kw_1849 rfl ⟨Nat.le_of_ble_eq_true rfl, Nat.le_of_ble_eq_true rfl, Nat.le_of_ble_eq_true rfl, Nat.le_of_ble_eq_true rfl⟩ rfl (Nat.le_of_ble_eq_true rfl) dX12_circuitOutput_18 rfl (fun v34 i35 r36 hv37 hi38 hw39 hq40 => ?_)
  obtain ⟨e44, e45, h⟩ := hq40
  subst e44
  subst e45
  obtain ⟨f43, t42⟩ := h
  refine V.if_ne (pc := 21) (tgt := 28) hG hv37 dX12_circuitOutput_21 (by decide) (fun c41 => ?_) (fun c41 => ?_)
  · have h := t42 c41
    clear t42 f43
    refine V.iconst (pc := 28) hG dX12_circuitOutput_28 ?_
    exact jn29 0 i28 ((sR_l rfl)) hi31 h
  · have h := f43 c41
    clear t42 f43
    refine V.iconst (pc := 24) hG dX12_circuitOutput_24 ?_
    refine V.goto (pc := 25) (tgt := 29) hG dX12_circuitOutput_25 (by decide) ?_
    exact jn29 1 i28 ((sR_l rfl)) hi31 h
set_option maxRecDepth 100000 in
set_option maxHeartbeats 4000000 in
theorem sm_X12_circuitMemory (l : Launch) (Δ : Wd) {i r : MI} {p1 : Int} {p2 : Int} (hp1 : sR p1) (hp2 : sR p2) {Q : Int → MI → Prop} (hi : okI i) (hw : Wf r) (h : wp_X12_circuitMemory p1 p2 i r Q) : Met l yX12_circuitMemory (Cond.code yX12_circuitMemory cX12_circuitMemory 3 (some .int) :: gW) (sRm 6 144) (sPc Δ [.ref (sA Δ 504), .int (sJ p1), .int (sJ p2)] i r) (sQi Δ (fun x i' r' => r = r' ∧ Q x i')) 0 0 (sFr Δ) := by
  refine Ct.i (ty := .int) (by decide) rfl (Nat.le_of_ble_eq_true rfl) (fun Γ Q0 hG fin => ?_)
  have hG : okG Γ Δ l (sRm 6 144) cX12_circuitMemory "SchedularyModel" 3 := hG
  show V Γ Δ 542 false i r 0 0 Q0 0 [(0, .ref (sA Δ 504)), (1, .int (sJ p1)), (2, .int (sJ p2))] []
  refine V.aload_n (pc := 0) hG dX12_circuitMemory_0 rfl 0 rfl ?_
  refine V.iconst (pc := 1) hG dX12_circuitMemory_1 ?_
  refine V.putI (pc := 2) (ci := 14) (k := 0) (M := 49) (T := TX12) (o := 504) (kz := 0) hG a_504 a_504.n (by decide) hin_X12 rfl (by decide) (by decide) rfl kw_1692 rfl tyX12 tyX12_ok nmX12 rfl (ty := tyX12 0) (tyX12_ok 0 (by decide)) rfl rfl dX12_circuitMemory_2 ?_
  refine V.aload_n (pc := 5) hG dX12_circuitMemory_5 rfl 0 rfl ?_
  refine V.iload_n (pc := 6) hG dX12_circuitMemory_6 rfl 1 rfl ?_
  refine V.iload_n (pc := 7) hG dX12_circuitMemory_7 rfl 2 rfl ?_
  refine V.callSi (pc := 8) (As := [.int (sJ p1), .int (sJ p2)]) (stk := [.ref (sA Δ 504)]) hG (sm_X12_noMemory l Δ hp1 hp2 ((okI_st hi ((sR_l rfl)))) hw h) mY_X12_noMemory kw_1993 kw_1994 rfl ⟨Nat.le_of_ble_eq_true rfl, Nat.le_of_ble_eq_true rfl, Nat.le_of_ble_eq_true rfl, Nat.le_of_ble_eq_true rfl⟩ rfl (Nat.le_of_ble_eq_true rfl) dX12_circuitMemory_8 rfl (fun v1 i2 r3 hv4 hi5 hw6 hq7 => ?_)
  obtain ⟨e39, e40, h⟩ := hq7
  subst e39
  subst e40
  refine V.iconst (pc := 11) hG dX12_circuitMemory_11 ?_
  refine V.callVi (pc := 12) (As := [.int (sJ v1), .int (sJ 1)]) (stk := []) hG (sm_X12_fails l Δ hv4 ((sR_l rfl)) ((okI_st hi ((sR_l rfl)))) hw h) mY_X12_fails kw_1853 kw_1855 kw_106 a_504 (by decide) (q := (RX12, TX12, 49)) rfl rfl ⟨Nat.le_of_ble_eq_true rfl, Nat.le_of_ble_eq_true rfl, Nat.le_of_ble_eq_true rfl, Nat.le_of_ble_eq_true rfl⟩ rfl (Nat.le_of_ble_eq_true rfl) dX12_circuitMemory_12 rfl (fun v8 i9 r10 hv11 hi12 hw13 hq14 => ?_)
  obtain ⟨e38, h⟩ := hq14
  subst e38
  obtain ⟨t16, f17⟩ := h
  refine V.if_eq (pc := 15) (tgt := 20) hG hv11 dX12_circuitMemory_15 (by decide) (fun c15 => ?_) (fun c15 => ?_)
  · have h := t16 c15
    clear t16 f17
    refine V.aload_n (pc := 20) hG dX12_circuitMemory_20 rfl 0 rfl ?_
    refine V.callVv (pc := 21) (As := []) (stk := []) hG (sm_X12_flow l Δ  hi12 hw h) mY_X12_flow kw_2189 kw_2191 kw_149 a_504 (by decide) (q := (RX12, TX12, 49)) rfl rfl ⟨Nat.le_of_ble_eq_true rfl, Nat.le_of_ble_eq_true rfl, Nat.le_of_ble_eq_true rfl, Nat.le_of_ble_eq_true rfl⟩ rfl (Nat.le_of_ble_eq_true rfl) dX12_circuitMemory_21 rfl (fun i19 r20 hi22 hw23 hq24 => ?_)
    obtain ⟨e36, h⟩ := hq24
    subst e36
    refine V.aload_n (pc := 24) hG dX12_circuitMemory_24 rfl 0 rfl ?_
    refine V.getR (x := 513) (pc := 25) (ci := 14) (k := 17) (M := 49) (T := TX12) (o := 504) (kz := 17) hG a_504 a_504.n (by decide) hin_X12 rfl (by decide) (by decide) rfl kw_1709 rfl ((hw).1 (504, 17, 513) (by decide)) (by decide) dX12_circuitMemory_25 ?_
    refine V.iload_n (pc := 28) hG dX12_circuitMemory_28 rfl 1 rfl ?_
    refine V.iload_n (pc := 29) hG dX12_circuitMemory_29 rfl 2 rfl ?_
    refine V.callSi (pc := 30) (As := [.int (sJ p1), .int (sJ p2)]) (stk := [.ref (sA Δ 513)]) hG (sm_X12_cell l Δ hp1 hp2 hi22 hw h) mY_X12_cell kw_1996 kw_1997 rfl ⟨Nat.le_of_ble_eq_true rfl, Nat.le_of_ble_eq_true rfl, Nat.le_of_ble_eq_true rfl, Nat.le_of_ble_eq_true rfl⟩ rfl (Nat.le_of_ble_eq_true rfl) dX12_circuitMemory_30 rfl (fun v25 i26 r27 hv28 hi29 hw30 hq31 => ?_)
    obtain ⟨e33, e34, h⟩ := hq31
    subst e33
    subst e34
    obtain ⟨g32, h⟩ := h
    refine V.iald (pc := 33) (z := 32) (o := 513) hG a_513 a_513.n hv28 g32 dX12_circuitMemory_33 ?_
    exact fin dX12_circuitMemory_34 ((hi22 _ _)) rfl hi22 hw ⟨rfl, h⟩
  · have h := f17 c15
    clear t16 f17
    refine V.iconst (pc := 18) hG dX12_circuitMemory_18 ?_
    exact fin dX12_circuitMemory_19 ((sR_l rfl)) rfl hi12 hw ⟨rfl, h⟩
set_option maxRecDepth 100000 in
set_option maxHeartbeats 4000000 in
theorem sm_X12_isSame (l : Launch) (Δ : Wd) {i r : MI}   {Q : Int → MI → Prop} (hi : okI i) (hw : Wf r) (h : wp_X12_isSame  i r Q) : Met l yX12_isSame (Cond.code yX12_isSame cX12_isSame 1 (some .boolean) :: gW) (sRm 0 0) (sPc Δ [.ref (sA Δ 504)] i r) (sQi Δ (fun x i' r' => r = r' ∧ Q x i')) 0 0 (sFr Δ) := by
  refine Ct.i (ty := .boolean) (by decide) rfl (Nat.le_of_ble_eq_true rfl) (fun Γ Q0 hG fin => ?_)
  have hG : okG Γ Δ l (sRm 0 0) cX12_isSame "SchedularyModel" 1 := hG
  show V Γ Δ 542 false i r 0 0 Q0 0 [(0, .ref (sA Δ 504))] []
  refine V.aload_n (pc := 0) hG dX12_isSame_0 rfl 0 rfl ?_
  refine V.iconst (pc := 1) hG dX12_isSame_1 ?_
  refine V.putI (pc := 2) (ci := 14) (k := 0) (M := 49) (T := TX12) (o := 504) (kz := 0) hG a_504 a_504.n (by decide) hin_X12 rfl (by decide) (by decide) rfl kw_1692 rfl tyX12 tyX12_ok nmX12 rfl (ty := tyX12 0) (tyX12_ok 0 (by decide)) rfl rfl dX12_isSame_2 ?_
  refine V.iconst (pc := 5) hG dX12_isSame_5 ?_
  exact fin dX12_isSame_6 ((sR_l rfl)) (nar_z (by decide)) ((okI_st hi ((sR_l rfl)))) hw ⟨rfl, h⟩
set_option maxRecDepth 100000 in
set_option maxHeartbeats 4000000 in
theorem sm_X12_action (l : Launch) (Δ : Wd) {i r : MI} {p1 : Int} {p2 : Int} {p3 : Int} (hp1 : sR p1) (hp2 : sR p2) (hp3 : sR p3) {Q : Int → MI → Prop} (hi : okI i) (hw : Wf r) (h : wp_X12_action p1 p2 p3 i r Q) : Met l yX12_action (Cond.code yX12_action cX12_action 4 (some .int) :: gW) (sRm 1 22) (sPc Δ [.ref (sA Δ 504), .int (sJ p1), .int (sJ p2), .int (sJ p3)] i r) (sQi Δ (fun x i' r' => r = r' ∧ Q x i')) 0 0 (sFr Δ) := by
  refine Ct.i (ty := .int) (by decide) rfl (Nat.le_of_ble_eq_true rfl) (fun Γ Q0 hG fin => ?_)
  have hG : okG Γ Δ l (sRm 1 22) cX12_action "SchedularyModel" 4 := hG
  show V Γ Δ 542 false i r 0 0 Q0 0 [(0, .ref (sA Δ 504)), (1, .int (sJ p1)), (2, .int (sJ p2)), (3, .int (sJ p3))] []
  have jn89 : ∀ (k1j89 : Int) (k2j89 : Int) (k3j89 : Int) (ij89 : MI), sR k1j89 → sR k2j89 → sR k3j89 → okI ij89 → s89_X12_action p1 k1j89 k2j89 k3j89 ij89 r Q → V Γ Δ 542 false ij89 r 0 0 Q0 89 [(0, .ref (sA Δ 504)), (1, .int (sJ p1))] [.int (sJ k3j89), .int (sJ k2j89), .int (sJ k1j89), .ref (sA Δ 536)] := by
    intro k1j89 k2j89 k3j89 ij89 hk1j89 hk2j89 hk3j89 hij89 h
    refine V.iadd (pc := 89) hG dX12_action_89 ?_
    obtain ⟨g5, h⟩ := h
    refine V.iast (pc := 90) (z := 64) (o := 536) hG a_536 a_536.n hk1j89 g5 dX12_action_90 ?_
    refine V.aload_n (pc := 91) hG dX12_action_91 rfl 0 rfl ?_
    refine V.getR (x := 535) (pc := 92) (ci := 14) (k := 43) (M := 49) (T := TX12) (o := 504) (kz := 43) hG a_504 a_504.n (by decide) hin_X12 rfl (by decide) (by decide) rfl kw_1735 rfl ((hw).1 (504, 43, 535) (by decide)) (by decide) dX12_action_92 ?_
    refine V.iload_n (pc := 95) hG dX12_action_95 rfl 1 rfl ?_
    refine V.dup2 (pc := 96) hG dX12_action_96 rfl rfl ?_
    obtain ⟨g6, h⟩ := h
    refine V.iald (pc := 97) (z := 4) (o := 535) hG a_535 a_535.n hp1 g6 dX12_action_97 ?_
    refine V.iconst (pc := 98) hG dX12_action_98 ?_
    refine V.iadd (pc := 99) hG dX12_action_99 ?_
    obtain ⟨g7, h⟩ := h
    refine V.iast (pc := 100) (z := 4) (o := 535) hG a_535 a_535.n hp1 g7 dX12_action_100 ?_
    refine V.aload_n (pc := 101) hG dX12_action_101 rfl 0 rfl ?_
    refine V.getR (x := 535) (pc := 102) (ci := 14) (k := 43) (M := 49) (T := TX12) (o := 504) (kz := 43) hG a_504 a_504.n (by decide) hin_X12 rfl (by decide) (by decide) rfl kw_1735 rfl ((hw).1 (504, 43, 535) (by decide)) (by decide) dX12_action_102 ?_
    refine V.iload_n (pc := 105) hG dX12_action_105 rfl 1 rfl ?_
    obtain ⟨g8, h⟩ := h
    refine V.iald (pc := 106) (z := 4) (o := 535) hG a_535 a_535.n hp1 g8 dX12_action_106 ?_
    exact fin dX12_action_107 (((okI_st ((okI_st hij89 ((sR_wr _)))) ((sR_wr _))) _ _)) rfl ((okI_st ((okI_st hij89 ((sR_wr _)))) ((sR_wr _)))) hw ⟨rfl, h⟩
  have jn60 : ∀  (ij60 : MI), okI ij60 → s60_X12_action ij60 r Q → V Γ Δ 542 false ij60 r 0 0 Q0 60 [] [] := by
    intro ij60 hij60 h
    refine V.iconst (pc := 60) hG dX12_action_60 ?_
    exact fin dX12_action_61 ((sR_l rfl)) rfl hij60 hw ⟨rfl, h⟩
  have jn53 : ∀ (k1j53 : Int) (ij53 : MI), sR k1j53 → okI ij53 → s53_X12_action p1 p2 p3 k1j53 ij53 r Q → V Γ Δ 542 false ij53 r 0 0 Q0 53 [(0, .ref (sA Δ 504)), (1, .int (sJ p1)), (2, .int (sJ p2)), (3, .int (sJ p3))] [.int (sJ k1j53), .ref (sA Δ 504)] := by
    intro k1j53 ij53 hk1j53 hij53 h
    refine V.iconst (pc := 53) hG dX12_action_53 ?_
    refine V.callVi (pc := 54) (As := [.int (sJ k1j53), .int (sJ 2)]) (stk := []) hG (sm_X12_fails l Δ hk1j53 ((sR_l rfl)) hij53 hw h) mY_X12_fails kw_1853 kw_1855 kw_106 a_504 (by decide) (q := (RX12, TX12, 49)) rfl rfl ⟨Nat.le_of_ble_eq_true rfl, Nat.le_of_ble_eq_true rfl, Nat.le_of_ble_eq_true rfl, Nat.le_of_ble_eq_true rfl⟩ rfl (Nat.le_of_ble_eq_true rfl) dX12_action_54 rfl (fun v25 i26 r27 hv28 hi29 hw30 hq31 => ?_)
    obtain ⟨e40, h⟩ := hq31
    subst e40
    obtain ⟨t33, f34⟩ := h
    refine V.if_eq (pc := 57) (tgt := 62) hG hv28 dX12_action_57 (by decide) (fun c32 => ?_) (fun c32 => ?_)
    · have h := t33 c32
      clear t33 f34
      refine V.aload_n (pc := 62) hG dX12_action_62 rfl 0 rfl ?_
      refine V.getR (x := 536) (pc := 63) (ci := 14) (k := 44) (M := 49) (T := TX12) (o := 504) (kz := 44) hG a_504 a_504.n (by decide) hin_X12 rfl (by decide) (by decide) rfl kw_1736 rfl ((hw).1 (504, 44, 536) (by decide)) (by decide) dX12_action_63 ?_
      refine V.bipush (pc := 66) hG dX12_action_66 (by decide) ?_
      refine V.iload_n (pc := 68) hG dX12_action_68 rfl 1 rfl ?_
      refine V.imul (pc := 69) hG dX12_action_69 ?_
      refine V.aload_n (pc := 70) hG dX12_action_70 rfl 0 rfl ?_
      refine V.getR (x := 535) (pc := 71) (ci := 14) (k := 43) (M := 49) (T := TX12) (o := 504) (kz := 43) hG a_504 a_504.n (by decide) hin_X12 rfl (by decide) (by decide) rfl kw_1735 rfl ((hw).1 (504, 43, 535) (by decide)) (by decide) dX12_action_71 ?_
      refine V.iload_n (pc := 74) hG dX12_action_74 rfl 1 rfl ?_
      obtain ⟨g35, h⟩ := h
      refine V.iald (pc := 75) (z := 4) (o := 535) hG a_535 a_535.n hp1 g35 dX12_action_75 ?_
      refine V.iadd (pc := 76) hG dX12_action_76 ?_
      refine V.iconst (pc := 77) hG dX12_action_77 ?_
      refine V.iload_n (pc := 78) hG dX12_action_78 rfl 2 rfl ?_
      refine V.imul (pc := 79) hG dX12_action_79 ?_
      refine V.iload_n (pc := 80) hG dX12_action_80 rfl 3 rfl ?_
      obtain ⟨t37, f38⟩ := h
      refine V.if_eq (pc := 81) (tgt := 88) hG hp3 dX12_action_81 (by decide) (fun c36 => ?_) (fun c36 => ?_)
      · have h := t37 c36
        clear t37 f38
        refine V.iconst (pc := 88) hG dX12_action_88 ?_
        refine V.pick [0, 1] rfl ?_
        exact jn89 (wr (wr (16 * p1) + i26 535 p1)) (wr (2 * p2)) 0 i26 ((sR_wr _)) ((sR_wr _)) ((sR_l rfl)) hi29 h
      · have h := f38 c36
        clear t37 f38
        refine V.iconst (pc := 84) hG dX12_action_84 ?_
        refine V.goto (pc := 85) (tgt := 89) hG dX12_action_85 (by decide) ?_
        refine V.pick [0, 1] rfl ?_
        exact jn89 (wr (wr (16 * p1) + i26 535 p1)) (wr (2 * p2)) 1 i26 ((sR_wr _)) ((sR_wr _)) ((sR_l rfl)) hi29 h
    · have h := f34 c32
      clear t33 f34
      refine V.pick [] rfl ?_
      exact jn60 i26 hi29 h
  have jn29 : ∀ (k1j29 : Int) (ij29 : MI), sR k1j29 → okI ij29 → s29_X12_action p1 p2 p3 k1j29 ij29 r Q → V Γ Δ 542 false ij29 r 0 0 Q0 29 [(0, .ref (sA Δ 504)), (1, .int (sJ p1)), (2, .int (sJ p2)), (3, .int (sJ p3))] [.int (sJ k1j29), .ref (sA Δ 504)] := by
    intro k1j29 ij29 hk1j29 hij29 h
    refine V.iconst (pc := 29) hG dX12_action_29 ?_
    refine V.callVi (pc := 30) (As := [.int (sJ k1j29), .int (sJ 1)]) (stk := []) hG (sm_X12_fails l Δ hk1j29 ((sR_l rfl)) hij29 hw h) mY_X12_fails kw_1853 kw_1855 kw_106 a_504 (by decide) (q := (RX12, TX12, 49)) rfl rfl ⟨Nat.le_of_ble_eq_true rfl, Nat.le_of_ble_eq_true rfl, Nat.le_of_ble_eq_true rfl, Nat.le_of_ble_eq_true rfl⟩ rfl (Nat.le_of_ble_eq_true rfl) dX12_action_30 rfl (fun v57 i58 r59 hv60 hi61 hw62 hq63 => ?_)
    obtain ⟨e72, h⟩ := hq63
    subst e72
    obtain ⟨f66, t65⟩ := h
    refine V.if_ne (pc := 33) (tgt := 60) hG hv60 dX12_action_33 (by decide) (fun c64 => ?_) (fun c64 => ?_)
    · have h := t65 c64
      clear t65 f66
      refine V.pick [] rfl ?_
      exact jn60 i58 hi61 h
    · have h := f66 c64
      clear t65 f66
      refine V.aload_n (pc := 36) hG dX12_action_36 rfl 0 rfl ?_
      refine V.aload_n (pc := 37) hG dX12_action_37 rfl 0 rfl ?_
      refine V.getR (x := 535) (pc := 38) (ci := 14) (k := 43) (M := 49) (T := TX12) (o := 504) (kz := 43) hG a_504 a_504.n (by decide) hin_X12 rfl (by decide) (by decide) rfl kw_1735 rfl ((hw).1 (504, 43, 535) (by decide)) (by decide) dX12_action_38 ?_
      refine V.iload_n (pc := 41) hG dX12_action_41 rfl 1 rfl ?_
      obtain ⟨g67, h⟩ := h
      refine V.iald (pc := 42) (z := 4) (o := 535) hG a_535 a_535.n hp1 g67 dX12_action_42 ?_
      refine V.bipush (pc := 43) hG dX12_action_43 (by decide) ?_
      obtain ⟨f70, t69⟩ := h
      refine V.icmp_ne (pc := 45) (tgt := 52) hG ((hi61 _ _)) ((sR_l rfl)) dX12_action_45 (by decide) (fun c68 => ?_) (fun c68 => ?_)
      · have h := t69 c68
        clear t69 f70
        refine V.iconst (pc := 52) hG dX12_action_52 ?_
        exact jn53 0 i58 ((sR_l rfl)) hi61 h
      · have h := f70 c68
        clear t69 f70
        refine V.iconst (pc := 48) hG dX12_action_48 ?_
        refine V.goto (pc := 49) (tgt := 53) hG dX12_action_49 (by decide) ?_
        exact jn53 1 i58 ((sR_l rfl)) hi61 h
  have jn24 : ∀  (ij24 : MI), okI ij24 → s24_X12_action p1 p2 p3 ij24 r Q → V Γ Δ 542 false ij24 r 0 0 Q0 24 [(0, .ref (sA Δ 504)), (1, .int (sJ p1)), (2, .int (sJ p2)), (3, .int (sJ p3))] [.ref (sA Δ 504)] := by
    intro ij24 hij24 h
    refine V.iconst (pc := 24) hG dX12_action_24 ?_
    refine V.goto (pc := 25) (tgt := 29) hG dX12_action_25 (by decide) ?_
    exact jn29 1 ij24 ((sR_l rfl)) hij24 h
  refine V.aload_n (pc := 0) hG dX12_action_0 rfl 0 rfl ?_
  refine V.iconst (pc := 1) hG dX12_action_1 ?_
  refine V.putI (pc := 2) (ci := 14) (k := 0) (M := 49) (T := TX12) (o := 504) (kz := 0) hG a_504 a_504.n (by decide) hin_X12 rfl (by decide) (by decide) rfl kw_1692 rfl tyX12 tyX12_ok nmX12 rfl (ty := tyX12 0) (tyX12_ok 0 (by decide)) rfl rfl dX12_action_2 ?_
  refine V.aload_n (pc := 5) hG dX12_action_5 rfl 0 rfl ?_
  refine V.iload_n (pc := 6) hG dX12_action_6 rfl 1 rfl ?_
  refine V.iconst (pc := 7) hG dX12_action_7 ?_
  refine V.iconst (pc := 8) hG dX12_action_8 ?_
  refine V.callSi (pc := 9) (As := [.int (sJ p1), .int (sJ 0), .int (sJ 3)]) (stk := [.ref (sA Δ 504)]) hG (sm_X12_in l Δ hp1 ((sR_l rfl)) ((sR_l rfl)) ((okI_st hi ((sR_l rfl)))) hw h) mY_X12_in kw_1848 kw_1849 rfl ⟨Nat.le_of_ble_eq_true rfl, Nat.le_of_ble_eq_true rfl, Nat.le_of_ble_eq_true rfl, Nat.le_of_ble_eq_true rfl⟩ rfl (Nat.le_of_ble_eq_true rfl) dX12_action_9 rfl (fun v73 i74 r75 hv76 hi77 hw78 hq79 => ?_)
  obtain ⟨e95, e96, h⟩ := hq79
  subst e95
  subst e96
  obtain ⟨t81, f82⟩ := h
  refine V.if_eq (pc := 12) (tgt := 24) hG hv76 dX12_action_12 (by decide) (fun c80 => ?_) (fun c80 => ?_)
  · have h := t81 c80
    clear t81 f82
    exact jn24 (st i 504 0 0) ((okI_st hi ((sR_l rfl)))) h
  · have h := f82 c80
    clear t81 f82
    refine V.iload_n (pc := 15) hG dX12_action_15 rfl 2 rfl ?_
    refine V.iconst (pc := 16) hG dX12_action_16 ?_
    refine V.iconst (pc := 17) hG dX12_action_17 ?_
    refine V.callSi (pc := 18) (As := [.int (sJ p2), .int (sJ 0), .int (sJ 3)]) (stk := [.ref (sA Δ 504)]) hG (sm_X12_in l Δ hp2 ((sR_l rfl)) ((sR_l rfl)) ((okI_st hi ((sR_l rfl)))) hw h) mY_X12_in kw_1848 kw_1849 rfl ⟨Nat.le_of_ble_eq_true rfl, Nat.le_of_ble_eq_true rfl, Nat.le_of_ble_eq_true rfl, Nat.le_of_ble_eq_true rfl⟩ rfl (Nat.le_of_ble_eq_true rfl) dX12_action_18 rfl (fun v83 i84 r85 hv86 hi87 hw88 hq89 => ?_)
    obtain ⟨e93, e94, h⟩ := hq89
    subst e93
    subst e94
    obtain ⟨f92, t91⟩ := h
    refine V.if_ne (pc := 21) (tgt := 28) hG hv86 dX12_action_21 (by decide) (fun c90 => ?_) (fun c90 => ?_)
    · have h := t91 c90
      clear t91 f92
      refine V.iconst (pc := 28) hG dX12_action_28 ?_
      exact jn29 0 (st i 504 0 0) ((sR_l rfl)) ((okI_st hi ((sR_l rfl)))) h
    · have h := f92 c90
      clear t91 f92
      exact jn24 (st i 504 0 0) ((okI_st hi ((sR_l rfl)))) h
set_option maxRecDepth 100000 in
set_option maxHeartbeats 4000000 in
theorem sm_X12_setDepth (l : Launch) (Δ : Wd) {i r : MI} {p1 : Int} {p2 : Int} (hp1 : sR p1) (hp2 : sR p2) {Q : Int → MI → Prop} (hi : okI i) (hw : Wf r) (h : wp_X12_setDepth p1 p2 i r Q) : Met l yX12_setDepth (Cond.code yX12_setDepth cX12_setDepth 4 (some .int) :: gW) (sRm 1 22) (sPc Δ [.ref (sA Δ 504), .int (sJ p1), .int (sJ p2)] i r) (sQi Δ (fun x i' r' => r = r' ∧ Q x i')) 0 0 (sFr Δ) := by
  refine Ct.i (ty := .int) (by decide) rfl (Nat.le_of_ble_eq_true rfl) (fun Γ Q0 hG fin => ?_)
  have hG : okG Γ Δ l (sRm 1 22) cX12_setDepth "SchedularyModel" 4 := hG
  show V Γ Δ 542 false i r 0 0 Q0 0 [(0, .ref (sA Δ 504)), (1, .int (sJ p1)), (2, .int (sJ p2))] []
  have jn30 : ∀ (k1j30 : Int) (ij30 : MI), sR k1j30 → okI ij30 → s30_X12_setDepth p1 p2 k1j30 ij30 r Q → V Γ Δ 542 false ij30 r 0 0 Q0 30 [(0, .ref (sA Δ 504)), (1, .int (sJ p1)), (2, .int (sJ p2))] [.int (sJ k1j30), .ref (sA Δ 504)] := by
    intro k1j30 ij30 hk1j30 hij30 h
    refine V.iconst (pc := 30) hG dX12_setDepth_30 ?_
    refine V.callVi (pc := 31) (As := [.int (sJ k1j30), .int (sJ 1)]) (stk := []) hG (sm_X12_fails l Δ hk1j30 ((sR_l rfl)) hij30 hw h) mY_X12_fails kw_1853 kw_1855 kw_106 a_504 (by decide) (q := (RX12, TX12, 49)) rfl rfl ⟨Nat.le_of_ble_eq_true rfl, Nat.le_of_ble_eq_true rfl, Nat.le_of_ble_eq_true rfl, Nat.le_of_ble_eq_true rfl⟩ rfl (Nat.le_of_ble_eq_true rfl) dX12_setDepth_31 rfl (fun v15 i16 r17 hv18 hi19 hw20 hq21 => ?_)
    obtain ⟨e28, h⟩ := hq21
    subst e28
    obtain ⟨t23, f24⟩ := h
    refine V.if_eq (pc := 34) (tgt := 39) hG hv18 dX12_setDepth_34 (by decide) (fun c22 => ?_) (fun c22 => ?_)
    · have h := t23 c22
      clear t23 f24
      refine V.aload_n (pc := 39) hG dX12_setDepth_39 rfl 0 rfl ?_
      refine V.getR (x := 537) (pc := 40) (ci := 14) (k := 45) (M := 49) (T := TX12) (o := 504) (kz := 45) hG a_504 a_504.n (by decide) hin_X12 rfl (by decide) (by decide) rfl kw_1737 rfl ((hw).1 (504, 45, 537) (by decide)) (by decide) dX12_setDepth_40 ?_
      refine V.iload_n (pc := 43) hG dX12_setDepth_43 rfl 1 rfl ?_
      obtain ⟨g25, h⟩ := h
      refine V.iald (pc := 44) (z := 4) (o := 537) hG a_537 a_537.n hp1 g25 dX12_setDepth_44 ?_
      refine V.istore_n (pc := 45) (lv' := [(3, .int (sJ (i16 537 p1))), (0, .ref (sA Δ 504)), (1, .int (sJ p1)), (2, .int (sJ p2))]) hG dX12_setDepth_45 rfl (by decide) rfl ?_
      refine V.aload_n (pc := 46) hG dX12_setDepth_46 rfl 1 rfl ?_
      refine V.getR (x := 537) (pc := 47) (ci := 14) (k := 45) (M := 49) (T := TX12) (o := 504) (kz := 45) hG a_504 a_504.n (by decide) hin_X12 rfl (by decide) (by decide) rfl kw_1737 rfl ((hw).1 (504, 45, 537) (by decide)) (by decide) dX12_setDepth_47 ?_
      refine V.iload_n (pc := 50) hG dX12_setDepth_50 rfl 2 rfl ?_
      refine V.iload_n (pc := 51) hG dX12_setDepth_51 rfl 3 rfl ?_
      obtain ⟨g26, h⟩ := h
      refine V.iast (pc := 52) (z := 4) (o := 537) hG a_537 a_537.n hp1 g26 dX12_setDepth_52 ?_
      refine V.iload_n (pc := 53) hG dX12_setDepth_53 rfl 0 rfl ?_
      exact fin dX12_setDepth_54 ((hi19 _ _)) rfl ((okI_st hi19 hp2)) hw ⟨rfl, h⟩
    · have h := f24 c22
      clear t23 f24
      refine V.iconst (pc := 37) hG dX12_setDepth_37 ?_
      exact fin dX12_setDepth_38 ((sR_l rfl)) rfl hi19 hw ⟨rfl, h⟩
  have jn25 : ∀  (ij25 : MI), okI ij25 → s25_X12_setDepth p1 p2 ij25 r Q → V Γ Δ 542 false ij25 r 0 0 Q0 25 [(0, .ref (sA Δ 504)), (1, .int (sJ p1)), (2, .int (sJ p2))] [.ref (sA Δ 504)] := by
    intro ij25 hij25 h
    refine V.iconst (pc := 25) hG dX12_setDepth_25 ?_
    refine V.goto (pc := 26) (tgt := 30) hG dX12_setDepth_26 (by decide) ?_
    exact jn30 1 ij25 ((sR_l rfl)) hij25 h
  refine V.aload_n (pc := 0) hG dX12_setDepth_0 rfl 0 rfl ?_
  refine V.iconst (pc := 1) hG dX12_setDepth_1 ?_
  refine V.putI (pc := 2) (ci := 14) (k := 0) (M := 49) (T := TX12) (o := 504) (kz := 0) hG a_504 a_504.n (by decide) hin_X12 rfl (by decide) (by decide) rfl kw_1692 rfl tyX12 tyX12_ok nmX12 rfl (ty := tyX12 0) (tyX12_ok 0 (by decide)) rfl rfl dX12_setDepth_2 ?_
  refine V.aload_n (pc := 5) hG dX12_setDepth_5 rfl 0 rfl ?_
  refine V.iload_n (pc := 6) hG dX12_setDepth_6 rfl 1 rfl ?_
  refine V.iconst (pc := 7) hG dX12_setDepth_7 ?_
  refine V.iconst (pc := 8) hG dX12_setDepth_8 ?_
  refine V.callSi (pc := 9) (As := [.int (sJ p1), .int (sJ 0), .int (sJ 3)]) (stk := [.ref (sA Δ 504)]) hG (sm_X12_in l Δ hp1 ((sR_l rfl)) ((sR_l rfl)) ((okI_st hi ((sR_l rfl)))) hw h) mY_X12_in kw_1848 kw_1849 rfl ⟨Nat.le_of_ble_eq_true rfl, Nat.le_of_ble_eq_true rfl, Nat.le_of_ble_eq_true rfl, Nat.le_of_ble_eq_true rfl⟩ rfl (Nat.le_of_ble_eq_true rfl) dX12_setDepth_9 rfl (fun v29 i30 r31 hv32 hi33 hw34 hq35 => ?_)
  obtain ⟨e51, e52, h⟩ := hq35
  subst e51
  subst e52
  obtain ⟨t37, f38⟩ := h
  refine V.if_eq (pc := 12) (tgt := 25) hG hv32 dX12_setDepth_12 (by decide) (fun c36 => ?_) (fun c36 => ?_)
  · have h := t37 c36
    clear t37 f38
    exact jn25 (st i 504 0 0) ((okI_st hi ((sR_l rfl)))) h
  · have h := f38 c36
    clear t37 f38
    refine V.iload_n (pc := 15) hG dX12_setDepth_15 rfl 2 rfl ?_
    refine V.iconst (pc := 16) hG dX12_setDepth_16 ?_
    refine V.bipush (pc := 17) hG dX12_setDepth_17 (by decide) ?_
    refine V.callSi (pc := 19) (As := [.int (sJ p2), .int (sJ 1), .int (sJ 16)]) (stk := [.ref (sA Δ 504)]) hG (sm_X12_in l Δ hp2 ((sR_l rfl)) ((sR_l rfl)) ((okI_st hi ((sR_l rfl)))) hw h) mY_X12_in kw_1848 kw_1849 rfl ⟨Nat.le_of_ble_eq_true rfl, Nat.le_of_ble_eq_true rfl, Nat.le_of_ble_eq_true rfl, Nat.le_of_ble_eq_true rfl⟩ rfl (Nat.le_of_ble_eq_true rfl) dX12_setDepth_19 rfl (fun v39 i40 r41 hv42 hi43 hw44 hq45 => ?_)
    obtain ⟨e49, e50, h⟩ := hq45
    subst e49
    subst e50
    obtain ⟨f48, t47⟩ := h
    refine V.if_ne (pc := 22) (tgt := 29) hG hv42 dX12_setDepth_22 (by decide) (fun c46 => ?_) (fun c46 => ?_)
    · have h := t47 c46
      clear t47 f48
      refine V.iconst (pc := 29) hG dX12_setDepth_29 ?_
      exact jn30 0 (st i 504 0 0) ((sR_l rfl)) ((okI_st hi ((sR_l rfl)))) h
    · have h := f48 c46
      clear t47 f48
      exact jn25 (st i 504 0 0) ((okI_st hi ((sR_l rfl)))) h
set_option maxRecDepth 100000 in
set_option maxHeartbeats 4000000 in
theorem sm_X12_acts (l : Launch) (Δ : Wd) {i r : MI} {p1 : Int} {p2 : Int} (hp1 : sR p1) (hp2 : sR p2) {Q : Int → MI → Prop} (hi : okI i) (hw : Wf r) (h : wp_X12_acts p1 p2 i r Q) : Met l yX12_acts (Cond.code yX12_acts cX12_acts 7 (some .boolean) :: gW) (sRm 0 0) (sPc Δ [.ref (sA Δ 504), .int (sJ p1), .int (sJ p2)] i r) (sQi Δ (fun x i' r' => r = r' ∧ Q x i')) 0 0 (sFr Δ) := by
  refine Ct.i (ty := .boolean) (by decide) rfl (Nat.le_of_ble_eq_true rfl) (fun Γ Q0 hG fin => ?_)
  have hG : okG Γ Δ l (sRm 0 0) cX12_acts "SchedularyModel" 7 := hG
  show V Γ Δ 542 false i r 0 0 Q0 0 [(0, .ref (sA Δ 504)), (1, .int (sJ p1)), (2, .int (sJ p2))] []
  have jn143 : ∀ (x6j143 : Int) (ij143 : MI), sR x6j143 → okI ij143 → s143_X12_acts x6j143 ij143 r Q → V Γ Δ 542 false ij143 r 0 0 Q0 143 [(6, .int (sJ x6j143))] [] := by
    intro x6j143 ij143 hx6j143 hij143 h
    refine V.iload (pc := 143) hG dX12_acts_143 0 rfl ?_
    obtain ⟨g2, h⟩ := h
    exact fin dX12_acts_145 hx6j143 (nar_z g2) hij143 hw ⟨rfl, h⟩
  have jn131 : ∀ (x6j131 : Int) (k1j131 : Int) (k2j131 : Int) (k3j131 : Int) (ij131 : MI), sR x6j131 → sR k1j131 → sR k2j131 → sR k3j131 → okI ij131 → s131_X12_acts p1 x6j131 k1j131 k2j131 k3j131 ij131 r Q → V Γ Δ 542 false ij131 r 0 0 Q0 131 [(0, .ref (sA Δ 504)), (1, .int (sJ p1)), (6, .int (sJ x6j131))] [.int (sJ k3j131), .int (sJ k2j131), .int (sJ k1j131), .ref (sA Δ 539)] := by
    intro x6j131 k1j131 k2j131 k3j131 ij131 hx6j131 hk1j131 hk2j131 hk3j131 hij131 h
    refine V.iadd (pc := 131) hG dX12_acts_131 ?_
    obtain ⟨g6, h⟩ := h
    refine V.iast (pc := 132) (z := 4) (o := 539) hG a_539 a_539.n hk1j131 g6 dX12_acts_132 ?_
    refine V.aload_n (pc := 133) hG dX12_acts_133 rfl 0 rfl ?_
    refine V.getR (x := 538) (pc := 134) (ci := 14) (k := 46) (M := 49) (T := TX12) (o := 504) (kz := 46) hG a_504 a_504.n (by decide) hin_X12 rfl (by decide) (by decide) rfl kw_1738 rfl ((hw).1 (504, 46, 538) (by decide)) (by decide) dX12_acts_134 ?_
    refine V.iload_n (pc := 137) hG dX12_acts_137 rfl 1 rfl ?_
    refine V.dup2 (pc := 138) hG dX12_acts_138 rfl rfl ?_
    obtain ⟨g7, h⟩ := h
    refine V.iald (pc := 139) (z := 4) (o := 538) hG a_538 a_538.n hp1 g7 dX12_acts_139 ?_
    refine V.iconst (pc := 140) hG dX12_acts_140 ?_
    refine V.iadd (pc := 141) hG dX12_acts_141 ?_
    obtain ⟨g8, h⟩ := h
    refine V.iast (pc := 142) (z := 4) (o := 538) hG a_538 a_538.n hp1 g8 dX12_acts_142 ?_
    refine V.pick [2] rfl ?_
    exact jn143 x6j131 (st (st ij131 539 k1j131 (wr (k2j131 + k3j131))) 538 p1 (wr ((st ij131 539 k1j131 (wr (k2j131 + k3j131))) 538 p1 + 1))) hx6j131 ((okI_st ((okI_st hij131 ((sR_wr _)))) ((sR_wr _)))) h
  have jn106 : ∀ (x4j106 : Int) (x5j106 : Int) (k0j106 : Int) (ij106 : MI), sR x4j106 → sR x5j106 → sR k0j106 → okI ij106 → s106_X12_acts p1 x4j106 x5j106 k0j106 ij106 r Q → V Γ Δ 542 false ij106 r 0 0 Q0 106 [(0, .ref (sA Δ 504)), (1, .int (sJ p1)), (4, .int (sJ x4j106)), (5, .int (sJ x5j106))] [.int (sJ k0j106)] := by
    intro x4j106 x5j106 k0j106 ij106 hx4j106 hx5j106 hk0j106 hij106 h
    refine V.istore (pc := 106) (lv' := [(6, .int (sJ k0j106)), (0, .ref (sA Δ 504)), (1, .int (sJ p1)), (4, .int (sJ x4j106)), (5, .int (sJ x5j106))]) hG dX12_acts_106 (by decide) rfl ?_
    refine V.iload (pc := 108) hG dX12_acts_108 0 rfl ?_
    obtain ⟨t17, f18⟩ := h
    refine V.if_eq (pc := 110) (tgt := 143) hG hk0j106 dX12_acts_110 (by decide) (fun c16 => ?_) (fun c16 => ?_)
    · have h := t17 c16
      clear t17 f18
      refine V.pick [0] rfl ?_
      exact jn143 k0j106 ij106 hk0j106 hij106 h
    · have h := f18 c16
      clear t17 f18
      refine V.aload_n (pc := 113) hG dX12_acts_113 rfl 1 rfl ?_
      refine V.getR (x := 539) (pc := 114) (ci := 14) (k := 47) (M := 49) (T := TX12) (o := 504) (kz := 47) hG a_504 a_504.n (by decide) hin_X12 rfl (by decide) (by decide) rfl kw_1739 rfl ((hw).1 (504, 47, 539) (by decide)) (by decide) dX12_acts_114 ?_
      refine V.iload (pc := 117) hG dX12_acts_117 3 rfl ?_
      refine V.dup2 (pc := 119) hG dX12_acts_119 rfl rfl ?_
      obtain ⟨g19, h⟩ := h
      refine V.iald (pc := 120) (z := 4) (o := 539) hG a_539 a_539.n hx4j106 g19 dX12_acts_120 ?_
      refine V.iload (pc := 121) hG dX12_acts_121 4 rfl ?_
      obtain ⟨t21, f22⟩ := h
      refine V.if_eq (pc := 123) (tgt := 130) hG hx5j106 dX12_acts_123 (by decide) (fun c20 => ?_) (fun c20 => ?_)
      · have h := t21 c20
        clear t21 f22
        refine V.iconst (pc := 130) hG dX12_acts_130 ?_
        refine V.pick [1, 2, 0] rfl ?_
        exact jn131 k0j106 x4j106 (ij106 539 x4j106) (-1) ij106 hk0j106 hx4j106 ((hij106 _ _)) ((sR_l rfl)) hij106 h
      · have h := f22 c20
        clear t21 f22
        refine V.iconst (pc := 126) hG dX12_acts_126 ?_
        refine V.goto (pc := 127) (tgt := 131) hG dX12_acts_127 (by decide) ?_
        refine V.pick [1, 2, 0] rfl ?_
        exact jn131 k0j106 x4j106 (ij106 539 x4j106) 1 ij106 hk0j106 hx4j106 ((hij106 _ _)) ((sR_l rfl)) hij106 h
  have jn80 : ∀ (x4j80 : Int) (x5j80 : Int) (k0j80 : Int) (k1j80 : Int) (ij80 : MI), sR x4j80 → sR x5j80 → sR k0j80 → sR k1j80 → okI ij80 → s80_X12_acts p1 x4j80 x5j80 k0j80 k1j80 ij80 r Q → V Γ Δ 542 false ij80 r 0 0 Q0 80 [(0, .ref (sA Δ 504)), (1, .int (sJ p1)), (4, .int (sJ x4j80)), (5, .int (sJ x5j80))] [.int (sJ k1j80), .int (sJ k0j80)] := by
    intro x4j80 x5j80 k0j80 k1j80 ij80 hx4j80 hx5j80 hk0j80 hk1j80 hij80 h
    obtain ⟨t27, f28⟩ := h
    refine V.icmp_ge (pc := 80) (tgt := 87) hG hk0j80 hk1j80 dX12_acts_80 (by decide) (fun c26 => ?_) (fun c26 => ?_)
    · have h := t27 c26
      clear t27 f28
      refine V.iconst (pc := 87) hG dX12_acts_87 ?_
      refine V.goto (pc := 88) (tgt := 106) hG dX12_acts_88 (by decide) ?_
      exact jn106 x4j80 x5j80 0 ij80 hx4j80 hx5j80 ((sR_l rfl)) hij80 h
    · have h := f28 c26
      clear t27 f28
      refine V.iconst (pc := 83) hG dX12_acts_83 ?_
      refine V.goto (pc := 84) (tgt := 106) hG dX12_acts_84 (by decide) ?_
      exact jn106 x4j80 x5j80 1 ij80 hx4j80 hx5j80 ((sR_l rfl)) hij80 h
  have jn51 : ∀ (x4j51 : Int) (k0j51 : Int) (ij51 : MI), sR x4j51 → sR k0j51 → okI ij51 → s51_X12_acts p1 p2 x4j51 k0j51 ij51 r Q → V Γ Δ 542 false ij51 r 0 0 Q0 51 [(0, .ref (sA Δ 504)), (1, .int (sJ p1)), (2, .int (sJ p2)), (4, .int (sJ x4j51))] [.int (sJ k0j51)] := by
    intro x4j51 k0j51 ij51 hx4j51 hk0j51 hij51 h
    refine V.istore (pc := 51) (lv' := [(5, .int (sJ k0j51)), (0, .ref (sA Δ 504)), (1, .int (sJ p1)), (2, .int (sJ p2)), (4, .int (sJ x4j51))]) hG dX12_acts_51 (by decide) rfl ?_
    refine V.iload (pc := 53) hG dX12_acts_53 0 rfl ?_
    obtain ⟨t42, f43⟩ := h
    refine V.if_eq (pc := 55) (tgt := 91) hG hk0j51 dX12_acts_55 (by decide) (fun c41 => ?_) (fun c41 => ?_)
    · have h := t42 c41
      clear t42 f43
      refine V.aload_n (pc := 91) hG dX12_acts_91 rfl 1 rfl ?_
      refine V.getR (x := 539) (pc := 92) (ci := 14) (k := 47) (M := 49) (T := TX12) (o := 504) (kz := 47) hG a_504 a_504.n (by decide) hin_X12 rfl (by decide) (by decide) rfl kw_1739 rfl ((hw).1 (504, 47, 539) (by decide)) (by decide) dX12_acts_92 ?_
      refine V.iload (pc := 95) hG dX12_acts_95 4 rfl ?_
      obtain ⟨g44, h⟩ := h
      refine V.iald (pc := 97) (z := 4) (o := 539) hG a_539 a_539.n hx4j51 g44 dX12_acts_97 ?_
      obtain ⟨t46, f47⟩ := h
      refine V.if_le (pc := 98) (tgt := 105) hG ((hij51 _ _)) dX12_acts_98 (by decide) (fun c45 => ?_) (fun c45 => ?_)
      · have h := t46 c45
        clear t46 f47
        refine V.iconst (pc := 105) hG dX12_acts_105 ?_
        refine V.pick [1, 2, 4, 0] rfl ?_
        exact jn106 x4j51 k0j51 0 ij51 hx4j51 hk0j51 ((sR_l rfl)) hij51 h
      · have h := f47 c45
        clear t46 f47
        refine V.iconst (pc := 101) hG dX12_acts_101 ?_
        refine V.goto (pc := 102) (tgt := 106) hG dX12_acts_102 (by decide) ?_
        refine V.pick [1, 2, 4, 0] rfl ?_
        exact jn106 x4j51 k0j51 1 ij51 hx4j51 hk0j51 ((sR_l rfl)) hij51 h
    · have h := f43 c41
      clear t42 f43
      refine V.aload_n (pc := 58) hG dX12_acts_58 rfl 1 rfl ?_
      refine V.getR (x := 539) (pc := 59) (ci := 14) (k := 47) (M := 49) (T := TX12) (o := 504) (kz := 47) hG a_504 a_504.n (by decide) hin_X12 rfl (by decide) (by decide) rfl kw_1739 rfl ((hw).1 (504, 47, 539) (by decide)) (by decide) dX12_acts_59 ?_
      refine V.iload (pc := 62) hG dX12_acts_62 4 rfl ?_
      obtain ⟨g48, h⟩ := h
      refine V.iald (pc := 64) (z := 4) (o := 539) hG a_539 a_539.n hx4j51 g48 dX12_acts_64 ?_
      refine V.iload_n (pc := 65) hG dX12_acts_65 rfl 3 rfl ?_
      obtain ⟨f51, t50⟩ := h
      refine V.if_ne (pc := 66) (tgt := 79) hG hp2 dX12_acts_66 (by decide) (fun c49 => ?_) (fun c49 => ?_)
      · have h := t50 c49
        clear t50 f51
        refine V.iload_n (pc := 79) hG dX12_acts_79 rfl 3 rfl ?_
        refine V.pick [1, 2, 4, 0] rfl ?_
        exact jn80 x4j51 k0j51 (ij51 539 x4j51) p2 ij51 hx4j51 hk0j51 ((hij51 _ _)) hp2 hij51 h
      · have h := f51 c49
        clear t50 f51
        refine V.aload_n (pc := 69) hG dX12_acts_69 rfl 1 rfl ?_
        refine V.getR (x := 537) (pc := 70) (ci := 14) (k := 45) (M := 49) (T := TX12) (o := 504) (kz := 45) hG a_504 a_504.n (by decide) hin_X12 rfl (by decide) (by decide) rfl kw_1737 rfl ((hw).1 (504, 45, 537) (by decide)) (by decide) dX12_acts_70 ?_
        refine V.iload (pc := 73) hG dX12_acts_73 4 rfl ?_
        obtain ⟨g52, h⟩ := h
        refine V.iald (pc := 75) (z := 4) (o := 537) hG a_537 a_537.n hx4j51 g52 dX12_acts_75 ?_
        refine V.goto (pc := 76) (tgt := 80) hG dX12_acts_76 (by decide) ?_
        refine V.pick [1, 2, 4, 0] rfl ?_
        exact jn80 x4j51 k0j51 (ij51 539 x4j51) (ij51 537 x4j51) ij51 hx4j51 hk0j51 ((hij51 _ _)) ((hij51 _ _)) hij51 h
  refine V.aload_n (pc := 0) hG dX12_acts_0 rfl 0 rfl ?_
  refine V.getR (x := 538) (pc := 1) (ci := 14) (k := 46) (M := 49) (T := TX12) (o := 504) (kz := 46) hG a_504 a_504.n (by decide) hin_X12 rfl (by decide) (by decide) rfl kw_1738 rfl ((hw).1 (504, 46, 538) (by decide)) (by decide) dX12_acts_1 ?_
  refine V.iload_n (pc := 4) hG dX12_acts_4 rfl 1 rfl ?_
  obtain ⟨g53, h⟩ := h
  refine V.iald (pc := 5) (z := 4) (o := 538) hG a_538 a_538.n hp1 g53 dX12_acts_5 ?_
  refine V.aload_n (pc := 6) hG dX12_acts_6 rfl 0 rfl ?_
  refine V.getR (x := 535) (pc := 7) (ci := 14) (k := 43) (M := 49) (T := TX12) (o := 504) (kz := 43) hG a_504 a_504.n (by decide) hin_X12 rfl (by decide) (by decide) rfl kw_1735 rfl ((hw).1 (504, 43, 535) (by decide)) (by decide) dX12_acts_7 ?_
  refine V.iload_n (pc := 10) hG dX12_acts_10 rfl 1 rfl ?_
  obtain ⟨g54, h⟩ := h
  refine V.iald (pc := 11) (z := 4) (o := 535) hG a_535 a_535.n hp1 g54 dX12_acts_11 ?_
  obtain ⟨f57, t56⟩ := h
  refine V.icmp_ne (pc := 12) (tgt := 17) hG ((hi _ _)) ((hi _ _)) dX12_acts_12 (by decide) (fun c55 => ?_) (fun c55 => ?_)
  · have h := t56 c55
    clear t56 f57
    refine V.aload_n (pc := 17) hG dX12_acts_17 rfl 0 rfl ?_
    refine V.getR (x := 536) (pc := 18) (ci := 14) (k := 44) (M := 49) (T := TX12) (o := 504) (kz := 44) hG a_504 a_504.n (by decide) hin_X12 rfl (by decide) (by decide) rfl kw_1736 rfl ((hw).1 (504, 44, 536) (by decide)) (by decide) dX12_acts_18 ?_
    refine V.bipush (pc := 21) hG dX12_acts_21 (by decide) ?_
    refine V.iload_n (pc := 23) hG dX12_acts_23 rfl 1 rfl ?_
    refine V.imul (pc := 24) hG dX12_acts_24 ?_
    refine V.aload_n (pc := 25) hG dX12_acts_25 rfl 0 rfl ?_
    refine V.getR (x := 538) (pc := 26) (ci := 14) (k := 46) (M := 49) (T := TX12) (o := 504) (kz := 46) hG a_504 a_504.n (by decide) hin_X12 rfl (by decide) (by decide) rfl kw_1738 rfl ((hw).1 (504, 46, 538) (by decide)) (by decide) dX12_acts_26 ?_
    refine V.iload_n (pc := 29) hG dX12_acts_29 rfl 1 rfl ?_
    obtain ⟨g58, h⟩ := h
    refine V.iald (pc := 30) (z := 4) (o := 538) hG a_538 a_538.n hp1 g58 dX12_acts_30 ?_
    refine V.iadd (pc := 31) hG dX12_acts_31 ?_
    obtain ⟨g59, h⟩ := h
    refine V.iald (pc := 32) (z := 64) (o := 536) hG a_536 a_536.n ((sR_wr _)) g59 dX12_acts_32 ?_
    refine V.istore_n (pc := 33) (lv' := [(3, .int (sJ (i 536 (wr (wr (16 * p1) + i 538 p1))))), (0, .ref (sA Δ 504)), (1, .int (sJ p1)), (2, .int (sJ p2))]) hG dX12_acts_33 rfl (by decide) rfl ?_
    refine V.iload_n (pc := 34) hG dX12_acts_34 rfl 0 rfl ?_
    refine V.iconst (pc := 35) hG dX12_acts_35 ?_
    refine V.idiv (pc := 36) hG ((hi _ _)) ((sR_l rfl)) (by decide) dX12_acts_36 ?_
    refine V.istore (pc := 37) (lv' := [(4, .int (sJ (wr (Int.tdiv (i 536 (wr (wr (16 * p1) + i 538 p1))) 2)))), (3, .int (sJ (i 536 (wr (wr (16 * p1) + i 538 p1))))), (0, .ref (sA Δ 504)), (1, .int (sJ p1)), (2, .int (sJ p2))]) hG dX12_acts_37 (by decide) rfl ?_
    refine V.iload_n (pc := 39) hG dX12_acts_39 rfl 1 rfl ?_
    refine V.iconst (pc := 40) hG dX12_acts_40 ?_
    refine V.irem (pc := 41) hG ((hi _ _)) ((sR_l rfl)) (by decide) dX12_acts_41 ?_
    refine V.iconst (pc := 42) hG dX12_acts_42 ?_
    obtain ⟨f62, t61⟩ := h
    refine V.icmp_ne (pc := 43) (tgt := 50) hG ((sR_tmod ((hi _ _)))) ((sR_l rfl)) dX12_acts_43 (by decide) (fun c60 => ?_) (fun c60 => ?_)
    · have h := t61 c60
      clear t61 f62
      refine V.iconst (pc := 50) hG dX12_acts_50 ?_
      refine V.pick [2, 3, 4, 0] rfl ?_
      exact jn51 (wr (Int.tdiv (i 536 (wr (wr (16 * p1) + i 538 p1))) 2)) 0 i ((sR_wr _)) ((sR_l rfl)) hi h
    · have h := f62 c60
      clear t61 f62
      refine V.iconst (pc := 46) hG dX12_acts_46 ?_
      refine V.goto (pc := 47) (tgt := 51) hG dX12_acts_47 (by decide) ?_
      refine V.pick [2, 3, 4, 0] rfl ?_
      exact jn51 (wr (Int.tdiv (i 536 (wr (wr (16 * p1) + i 538 p1))) 2)) 1 i ((sR_wr _)) ((sR_l rfl)) hi h
  · have h := f57 c55
    clear t56 f57
    refine V.iconst (pc := 15) hG dX12_acts_15 ?_
    exact fin dX12_acts_16 ((sR_l rfl)) (nar_z (by decide)) hi hw ⟨rfl, h⟩
set_option maxRecDepth 100000 in
set_option maxHeartbeats 4000000 in
theorem sm_X12_goRound (l : Launch) (Δ : Wd) {i r : MI} {p1 : Int} (hp1 : sR p1) {Q : Int → MI → Prop} (hi : okI i) (hw : Wf r) (h : wp_X12_goRound p1 i r Q) : Met l yX12_goRound (Cond.code yX12_goRound cX12_goRound 5 (some .boolean) :: gW) (sRm 1 26) (sPc Δ [.ref (sA Δ 504), .int (sJ p1)] i r) (sQi Δ (fun x i' r' => r = r' ∧ Q x i')) 0 0 (sFr Δ) := by
  refine Ct.i (ty := .boolean) (by decide) rfl (Nat.le_of_ble_eq_true rfl) (fun Γ Q0 hG fin => ?_)
  have hG : okG Γ Δ l (sRm 1 26) cX12_goRound "SchedularyModel" 5 := hG
  show V Γ Δ 542 false i r 0 0 Q0 0 [(0, .ref (sA Δ 504)), (1, .int (sJ p1))] []
  refine V.iconst (pc := 0) hG dX12_goRound_0 ?_
  refine V.istore_n (pc := 1) (lv' := [(2, .int (sJ 0)), (0, .ref (sA Δ 504)), (1, .int (sJ p1))]) hG dX12_goRound_1 rfl (by decide) rfl ?_
  obtain ⟨n113, h⟩ := h
  have lp2 : ∀ (m2 : Nat) (x2_2 : Int) (i_2 : MI), sR x2_2 → okI i_2 → LoopP (b2_X12_goRound p1 r Q) m2 (x2_2, i_2) → V Γ Δ 542 false i_2 r 0 0 Q0 2 [(0, .ref (sA Δ 504)), (1, .int (sJ p1)), (2, .int (sJ x2_2))] [] := by
    intro m2
    induction m2 with
    | zero => intro x2_2 i_2 hx2_2 hi_2 h; exact h.elim
    | succ m2 ih2 =>
      intro x2_2 i_2 hx2_2 hi_2 h
      have h := LoopP_succ h
      refine V.iload_n (pc := 2) hG dX12_goRound_2 rfl 2 rfl ?_
      refine V.iconst (pc := 3) hG dX12_goRound_3 ?_
      obtain ⟨t115, f116⟩ := h
      refine V.icmp_ge (pc := 4) (tgt := 27) hG hx2_2 ((sR_l rfl)) dX12_goRound_4 (by decide) (fun c114 => ?_) (fun c114 => ?_)
      · have h := t115 c114
        clear t115 f116
        refine V.iconst (pc := 27) hG dX12_goRound_27 ?_
        refine V.istore_n (pc := 28) (lv' := [(2, .int (sJ 1)), (0, .ref (sA Δ 504)), (1, .int (sJ p1))]) hG dX12_goRound_28 rfl (by decide) rfl ?_
        obtain ⟨n117, h⟩ := h
        have lp29 : ∀ (m29 : Nat) (x2_29 : Int) (i_29 : MI), sR x2_29 → okI i_29 → LoopP (b29_X12_goRound p1 r Q) m29 (x2_29, i_29) → V Γ Δ 542 false i_29 r 0 0 Q0 29 [(0, .ref (sA Δ 504)), (1, .int (sJ p1)), (2, .int (sJ x2_29))] [] := by
          intro m29
          induction m29 with
          | zero => intro x2_29 i_29 hx2_29 hi_29 h; exact h.elim
          | succ m29 ih29 =>
            intro x2_29 i_29 hx2_29 hi_29 h
            have h := LoopP_succ h
            refine V.iload_n (pc := 29) hG dX12_goRound_29 rfl 2 rfl ?_
            obtain ⟨t119, f120⟩ := h
            refine V.if_eq (pc := 30) (tgt := 65) hG hx2_29 dX12_goRound_30 (by decide) (fun c118 => ?_) (fun c118 => ?_)
            · have h := t119 c118
              clear t119 f120
              refine V.iconst (pc := 65) hG dX12_goRound_65 ?_
              refine V.istore_n (pc := 66) (lv' := [(3, .int (sJ 0)), (0, .ref (sA Δ 504)), (1, .int (sJ p1)), (2, .int (sJ x2_29))]) hG dX12_goRound_66 rfl (by decide) rfl ?_
              refine V.iconst (pc := 67) hG dX12_goRound_67 ?_
              refine V.istore (pc := 68) (lv' := [(4, .int (sJ 0)), (3, .int (sJ 0)), (0, .ref (sA Δ 504)), (1, .int (sJ p1)), (2, .int (sJ x2_29))]) hG dX12_goRound_68 (by decide) rfl ?_
              obtain ⟨n121, h⟩ := h
              have lp70 : ∀ (m70 : Nat) (x3_70 : Int) (x4_70 : Int), sR x3_70 → sR x4_70 → LoopP (b70_X12_goRound i_29 r Q) m70 (x3_70, x4_70) → V Γ Δ 542 false i_29 r 0 0 Q0 70 [(0, .ref (sA Δ 504)), (3, .int (sJ x3_70)), (4, .int (sJ x4_70))] [] := by
                intro m70
                induction m70 with
                | zero => intro x3_70 x4_70 hx3_70 hx4_70 h; exact h.elim
                | succ m70 ih70 =>
                  intro x3_70 x4_70 hx3_70 hx4_70 h
                  have h := LoopP_succ h
                  have jn102 : ∀ (x4j102 : Int) (k0j102 : Int), sR x4j102 → sR k0j102 → s102_X12_goRound x4j102 k0j102 i_29 r Q (LoopP (b70_X12_goRound i_29 r Q) m70) → V Γ Δ 542 false i_29 r 0 0 Q0 102 [(0, .ref (sA Δ 504)), (4, .int (sJ x4j102))] [.int (sJ k0j102)] := by
                    intro x4j102 k0j102 hx4j102 hk0j102 h
                    refine V.istore_n (pc := 102) (lv' := [(3, .int (sJ k0j102)), (0, .ref (sA Δ 504)), (4, .int (sJ x4j102))]) hG dX12_goRound_102 rfl (by decide) rfl ?_
                    refine V.iinc (pc := 103) (lv' := [(4, .int (sJ (wr (x4j102 + 1)))), (3, .int (sJ k0j102)), (0, .ref (sA Δ 504))]) hG dX12_goRound_103 2 rfl (by decide) rfl ?_
                    refine V.goto (pc := 106) (tgt := 70) hG dX12_goRound_106 (by decide) ?_
                    refine V.pick [2, 1, 0] rfl ?_
                    exact ih70 k0j102 (wr (x4j102 + 1)) hk0j102 ((sR_wr _)) h
                  have jn97 : ∀ (x4j97 : Int), sR x4j97 → s97_X12_goRound x4j97 i_29 r Q (LoopP (b70_X12_goRound i_29 r Q) m70) → V Γ Δ 542 false i_29 r 0 0 Q0 97 [(0, .ref (sA Δ 504)), (4, .int (sJ x4j97))] [] := by
                    intro x4j97 hx4j97 h
                    refine V.iconst (pc := 97) hG dX12_goRound_97 ?_
                    refine V.goto (pc := 98) (tgt := 102) hG dX12_goRound_98 (by decide) ?_
                    exact jn102 x4j97 1 hx4j97 ((sR_l rfl)) h
                  refine V.iload (pc := 70) hG dX12_goRound_70 2 rfl ?_
                  refine V.iconst (pc := 72) hG dX12_goRound_72 ?_
                  obtain ⟨t123, f124⟩ := h
                  refine V.icmp_ge (pc := 73) (tgt := 109) hG hx4_70 ((sR_l rfl)) dX12_goRound_73 (by decide) (fun c122 => ?_) (fun c122 => ?_)
                  · have h := t123 c122
                    clear t123 f124
                    refine V.iload_n (pc := 109) hG dX12_goRound_109 rfl 1 rfl ?_
                    obtain ⟨g125, h⟩ := h
                    exact fin dX12_goRound_110 hx3_70 (nar_z g125) hi_29 hw ⟨rfl, h⟩
                  · have h := f124 c122
                    clear t123 f124
                    refine V.iload_n (pc := 76) hG dX12_goRound_76 rfl 1 rfl ?_
                    obtain ⟨f128, t127⟩ := h
                    refine V.if_ne (pc := 77) (tgt := 97) hG hx3_70 dX12_goRound_77 (by decide) (fun c126 => ?_) (fun c126 => ?_)
                    · have h := t127 c126
                      clear t127 f128
                      refine V.pick [0, 2] rfl ?_
                      exact jn97 x4_70 hx4_70 h
                    · have h := f128 c126
                      clear t127 f128
                      refine V.aload_n (pc := 80) hG dX12_goRound_80 rfl 0 rfl ?_
                      refine V.getR (x := 538) (pc := 81) (ci := 14) (k := 46) (M := 49) (T := TX12) (o := 504) (kz := 46) hG a_504 a_504.n (by decide) hin_X12 rfl (by decide) (by decide) rfl kw_1738 rfl ((hw).1 (504, 46, 538) (by decide)) (by decide) dX12_goRound_81 ?_
                      refine V.iload (pc := 84) hG dX12_goRound_84 2 rfl ?_
                      obtain ⟨g129, h⟩ := h
                      refine V.iald (pc := 86) (z := 4) (o := 538) hG a_538 a_538.n hx4_70 g129 dX12_goRound_86 ?_
                      refine V.aload_n (pc := 87) hG dX12_goRound_87 rfl 0 rfl ?_
                      refine V.getR (x := 535) (pc := 88) (ci := 14) (k := 43) (M := 49) (T := TX12) (o := 504) (kz := 43) hG a_504 a_504.n (by decide) hin_X12 rfl (by decide) (by decide) rfl kw_1735 rfl ((hw).1 (504, 43, 535) (by decide)) (by decide) dX12_goRound_88 ?_
                      refine V.iload (pc := 91) hG dX12_goRound_91 2 rfl ?_
                      obtain ⟨g130, h⟩ := h
                      refine V.iald (pc := 93) (z := 4) (o := 535) hG a_535 a_535.n hx4_70 g130 dX12_goRound_93 ?_
                      obtain ⟨t132, f133⟩ := h
                      refine V.icmp_ge (pc := 94) (tgt := 101) hG ((hi_29 _ _)) ((hi_29 _ _)) dX12_goRound_94 (by decide) (fun c131 => ?_) (fun c131 => ?_)
                      · have h := t132 c131
                        clear t132 f133
                        refine V.iconst (pc := 101) hG dX12_goRound_101 ?_
                        refine V.pick [0, 2] rfl ?_
                        exact jn102 x4_70 0 hx4_70 ((sR_l rfl)) h
                      · have h := f133 c131
                        clear t132 f133
                        refine V.pick [0, 2] rfl ?_
                        exact jn97 x4_70 hx4_70 h
              refine V.pick [2, 1, 0] rfl ?_
              exact lp70 n121 0 0 ((sR_l rfl)) ((sR_l rfl)) h
            · have h := f120 c118
              clear t119 f120
              refine V.iconst (pc := 33) hG dX12_goRound_33 ?_
              refine V.istore_n (pc := 34) (lv' := [(2, .int (sJ 0)), (0, .ref (sA Δ 504)), (1, .int (sJ p1))]) hG dX12_goRound_34 rfl (by decide) rfl ?_
              refine V.iconst (pc := 35) hG dX12_goRound_35 ?_
              refine V.istore_n (pc := 36) (lv' := [(3, .int (sJ 0)), (2, .int (sJ 0)), (0, .ref (sA Δ 504)), (1, .int (sJ p1))]) hG dX12_goRound_36 rfl (by decide) rfl ?_
              obtain ⟨n134, h⟩ := h
              have lp37 : ∀ (m37 : Nat) (x2_37 : Int) (x3_37 : Int) (i_37 : MI), sR x2_37 → sR x3_37 → okI i_37 → LoopP (b37_X12_goRound p1 r Q (LoopP (b29_X12_goRound p1 r Q) m29)) m37 (x2_37, x3_37, i_37) → V Γ Δ 542 false i_37 r 0 0 Q0 37 [(0, .ref (sA Δ 504)), (1, .int (sJ p1)), (2, .int (sJ x2_37)), (3, .int (sJ x3_37))] [] := by
                intro m37
                induction m37 with
                | zero => intro x2_37 x3_37 i_37 hx2_37 hx3_37 hi_37 h; exact h.elim
                | succ m37 ih37 =>
                  intro x2_37 x3_37 i_37 hx2_37 hx3_37 hi_37 h
                  have h := LoopP_succ h
                  refine V.iload_n (pc := 37) hG dX12_goRound_37 rfl 3 rfl ?_
                  refine V.iconst (pc := 38) hG dX12_goRound_38 ?_
                  obtain ⟨t136, f137⟩ := h
                  refine V.icmp_ge (pc := 39) (tgt := 62) hG hx3_37 ((sR_l rfl)) dX12_goRound_39 (by decide) (fun c135 => ?_) (fun c135 => ?_)
                  · have h := t136 c135
                    clear t136 f137
                    refine V.goto (pc := 62) (tgt := 29) hG dX12_goRound_62 (by decide) ?_
                    refine V.pick [0, 1, 2] rfl ?_
                    exact ih29 x2_37 i_37 hx2_37 hi_37 h
                  · have h := f137 c135
                    clear t136 f137
                    obtain ⟨n138, h⟩ := h
                    have lp42 : ∀ (m42 : Nat) (x2_42 : Int) (i_42 : MI), sR x2_42 → okI i_42 → LoopP (b42_X12_goRound p1 x3_37 r Q (LoopP (b29_X12_goRound p1 r Q) m29) (LoopP (b37_X12_goRound p1 r Q (LoopP (b29_X12_goRound p1 r Q) m29)) m37)) m42 (x2_42, i_42) → V Γ Δ 542 false i_42 r 0 0 Q0 42 [(0, .ref (sA Δ 504)), (1, .int (sJ p1)), (2, .int (sJ x2_42)), (3, .int (sJ x3_37))] [] := by
                      intro m42
                      induction m42 with
                      | zero => intro x2_42 i_42 hx2_42 hi_42 h; exact h.elim
                      | succ m42 ih42 =>
                        intro x2_42 i_42 hx2_42 hi_42 h
                        have h := LoopP_succ h
                        simp only [b42_X12_goRound] at h
                        refine V.aload_n (pc := 42) hG dX12_goRound_42 rfl 0 rfl ?_
                        refine V.iload_n (pc := 43) hG dX12_goRound_43 rfl 3 rfl ?_
                        refine V.iload_n (pc := 44) hG dX12_goRound_44 rfl 1 rfl ?_
                        refine V.callVi (pc := 45) (As := [.int (sJ x3_37), .int (sJ p1)]) (stk := []) hG (sm_X12_acts l Δ hx3_37 hp1 hi_42 hw h) mY_X12_acts kw_2241 kw_2243 kw_156 a_504 (by decide) (q := (RX12, TX12, 49)) rfl rfl ⟨Nat.le_of_ble_eq_true rfl, Nat.le_of_ble_eq_true rfl, Nat.le_of_ble_eq_true rfl, Nat.le_of_ble_eq_true rfl⟩ rfl (Nat.le_of_ble_eq_true rfl) dX12_goRound_45 rfl (fun v139 i140 r141 hv142 hi143 hw144 hq145 => ?_)
                        obtain ⟨e150, h⟩ := hq145
                        subst e150
                        obtain ⟨t147, f148⟩ := h
                        refine V.if_eq (pc := 48) (tgt := 56) hG hv142 dX12_goRound_48 (by decide) (fun c146 => ?_) (fun c146 => ?_)
                        · have h := t147 c146
                          clear t147 f148
                          refine V.iinc (pc := 56) (lv' := [(3, .int (sJ (wr (x3_37 + 1)))), (0, .ref (sA Δ 504)), (1, .int (sJ p1)), (2, .int (sJ x2_42))]) hG dX12_goRound_56 3 rfl (by decide) rfl ?_
                          refine V.goto (pc := 59) (tgt := 37) hG dX12_goRound_59 (by decide) ?_
                          refine V.pick [1, 2, 3, 0] rfl ?_
                          exact ih37 x2_42 (wr (x3_37 + 1)) i140 hx2_42 ((sR_wr _)) hi143 h
                        · have h := f148 c146
                          clear t147 f148
                          refine V.iconst (pc := 51) hG dX12_goRound_51 ?_
                          refine V.istore_n (pc := 52) (lv' := [(2, .int (sJ 1)), (0, .ref (sA Δ 504)), (1, .int (sJ p1)), (3, .int (sJ x3_37))]) hG dX12_goRound_52 rfl (by decide) rfl ?_
                          refine V.goto (pc := 53) (tgt := 42) hG dX12_goRound_53 (by decide) ?_
                          refine V.pick [1, 2, 0, 3] rfl ?_
                          exact ih42 1 i140 ((sR_l rfl)) hi143 h
                    exact lp42 n138 x2_37 i_37 hx2_37 hi_37 h
              refine V.pick [2, 3, 1, 0] rfl ?_
              exact lp37 n134 0 0 i_29 ((sR_l rfl)) ((sR_l rfl)) hi_29 h
        refine V.pick [1, 2, 0] rfl ?_
        exact lp29 n117 1 i_2 ((sR_l rfl)) hi_2 h
      · have h := f116 c114
        clear t115 f116
        refine V.aload_n (pc := 7) hG dX12_goRound_7 rfl 0 rfl ?_
        refine V.getR (x := 538) (pc := 8) (ci := 14) (k := 46) (M := 49) (T := TX12) (o := 504) (kz := 46) hG a_504 a_504.n (by decide) hin_X12 rfl (by decide) (by decide) rfl kw_1738 rfl ((hw).1 (504, 46, 538) (by decide)) (by decide) dX12_goRound_8 ?_
        refine V.iload_n (pc := 11) hG dX12_goRound_11 rfl 2 rfl ?_
        refine V.iconst (pc := 12) hG dX12_goRound_12 ?_
        obtain ⟨g151, h⟩ := h
        refine V.iast (pc := 13) (z := 4) (o := 538) hG a_538 a_538.n hx2_2 g151 dX12_goRound_13 ?_
        refine V.aload_n (pc := 14) hG dX12_goRound_14 rfl 0 rfl ?_
        refine V.getR (x := 539) (pc := 15) (ci := 14) (k := 47) (M := 49) (T := TX12) (o := 504) (kz := 47) hG a_504 a_504.n (by decide) hin_X12 rfl (by decide) (by decide) rfl kw_1739 rfl ((hw).1 (504, 47, 539) (by decide)) (by decide) dX12_goRound_15 ?_
        refine V.iload_n (pc := 18) hG dX12_goRound_18 rfl 2 rfl ?_
        refine V.iconst (pc := 19) hG dX12_goRound_19 ?_
        obtain ⟨g152, h⟩ := h
        refine V.iast (pc := 20) (z := 4) (o := 539) hG a_539 a_539.n hx2_2 g152 dX12_goRound_20 ?_
        refine V.iinc (pc := 21) (lv' := [(2, .int (sJ (wr (x2_2 + 1)))), (0, .ref (sA Δ 504)), (1, .int (sJ p1))]) hG dX12_goRound_21 2 rfl (by decide) rfl ?_
        refine V.goto (pc := 24) (tgt := 2) hG dX12_goRound_24 (by decide) ?_
        refine V.pick [1, 2, 0] rfl ?_
        exact ih2 (wr (x2_2 + 1)) (st (st i_2 538 x2_2 0) 539 x2_2 0) ((sR_wr _)) ((okI_st ((okI_st hi_2 ((sR_l rfl)))) ((sR_l rfl)))) h
  refine V.pick [1, 2, 0] rfl ?_
  exact lp2 n113 0 i ((sR_l rfl)) hi h
set_option maxRecDepth 100000 in
set_option maxHeartbeats 4000000 in
theorem sm_X12_done (l : Launch) (Δ : Wd) {i r : MI}   {Q : Int → MI → Prop} (hi : okI i) (hw : Wf r) (h : wp_X12_done  i r Q) : Met l yX12_done (Cond.code yX12_done cX12_done 1 (some .int) :: gW) (sRm 2 50) (sPc Δ [.ref (sA Δ 504)] i r) (sQi Δ (fun x i' r' => r = r' ∧ Q x i')) 0 0 (sFr Δ) := by
  refine Ct.i (ty := .int) (by decide) rfl (Nat.le_of_ble_eq_true rfl) (fun Γ Q0 hG fin => ?_)
  have hG : okG Γ Δ l (sRm 2 50) cX12_done "SchedularyModel" 1 := hG
  show V Γ Δ 542 false i r 0 0 Q0 0 [(0, .ref (sA Δ 504))] []
  refine V.aload_n (pc := 0) hG dX12_done_0 rfl 0 rfl ?_
  refine V.iconst (pc := 1) hG dX12_done_1 ?_
  refine V.putI (pc := 2) (ci := 14) (k := 0) (M := 49) (T := TX12) (o := 504) (kz := 0) hG a_504 a_504.n (by decide) hin_X12 rfl (by decide) (by decide) rfl kw_1692 rfl tyX12 tyX12_ok nmX12 rfl (ty := tyX12 0) (tyX12_ok 0 (by decide)) rfl rfl dX12_done_2 ?_
  refine V.aload_n (pc := 5) hG dX12_done_5 rfl 0 rfl ?_
  refine V.iconst (pc := 6) hG dX12_done_6 ?_
  refine V.callVi (pc := 7) (As := [.int (sJ 0)]) (stk := []) hG (sm_X12_goRound l Δ ((sR_l rfl)) ((okI_st hi ((sR_l rfl)))) hw h) mY_X12_goRound kw_2237 kw_2239 kw_155 a_504 (by decide) (q := (RX12, TX12, 49)) rfl rfl ⟨Nat.le_of_ble_eq_true rfl, Nat.le_of_ble_eq_true rfl, Nat.le_of_ble_eq_true rfl, Nat.le_of_ble_eq_true rfl⟩ rfl (Nat.le_of_ble_eq_true rfl) dX12_done_7 rfl (fun v1 i2 r3 hv4 hi5 hw6 hq7 => ?_)
  obtain ⟨e13, h⟩ := hq7
  subst e13
  refine V.pop (pc := 10) hG dX12_done_10 rfl ?_
  refine V.aload_n (pc := 11) hG dX12_done_11 rfl 0 rfl ?_
  refine V.getR (x := 538) (pc := 12) (ci := 14) (k := 46) (M := 49) (T := TX12) (o := 504) (kz := 46) hG a_504 a_504.n (by decide) hin_X12 rfl (by decide) (by decide) rfl kw_1738 rfl ((hw).1 (504, 46, 538) (by decide)) (by decide) dX12_done_12 ?_
  refine V.iconst (pc := 15) hG dX12_done_15 ?_
  refine V.iald (pc := 16) (z := 4) (o := 538) hG a_538 a_538.n ((sR_l rfl)) (by decide) dX12_done_16 ?_
  refine V.aload_n (pc := 17) hG dX12_done_17 rfl 0 rfl ?_
  refine V.getR (x := 538) (pc := 18) (ci := 14) (k := 46) (M := 49) (T := TX12) (o := 504) (kz := 46) hG a_504 a_504.n (by decide) hin_X12 rfl (by decide) (by decide) rfl kw_1738 rfl ((hw).1 (504, 46, 538) (by decide)) (by decide) dX12_done_18 ?_
  refine V.iconst (pc := 21) hG dX12_done_21 ?_
  refine V.iald (pc := 22) (z := 4) (o := 538) hG a_538 a_538.n ((sR_l rfl)) (by decide) dX12_done_22 ?_
  refine V.iadd (pc := 23) hG dX12_done_23 ?_
  refine V.aload_n (pc := 24) hG dX12_done_24 rfl 0 rfl ?_
  refine V.getR (x := 538) (pc := 25) (ci := 14) (k := 46) (M := 49) (T := TX12) (o := 504) (kz := 46) hG a_504 a_504.n (by decide) hin_X12 rfl (by decide) (by decide) rfl kw_1738 rfl ((hw).1 (504, 46, 538) (by decide)) (by decide) dX12_done_25 ?_
  refine V.iconst (pc := 28) hG dX12_done_28 ?_
  refine V.iald (pc := 29) (z := 4) (o := 538) hG a_538 a_538.n ((sR_l rfl)) (by decide) dX12_done_29 ?_
  refine V.iadd (pc := 30) hG dX12_done_30 ?_
  refine V.aload_n (pc := 31) hG dX12_done_31 rfl 0 rfl ?_
  refine V.getR (x := 538) (pc := 32) (ci := 14) (k := 46) (M := 49) (T := TX12) (o := 504) (kz := 46) hG a_504 a_504.n (by decide) hin_X12 rfl (by decide) (by decide) rfl kw_1738 rfl ((hw).1 (504, 46, 538) (by decide)) (by decide) dX12_done_32 ?_
  refine V.iconst (pc := 35) hG dX12_done_35 ?_
  refine V.iald (pc := 36) (z := 4) (o := 538) hG a_538 a_538.n ((sR_l rfl)) (by decide) dX12_done_36 ?_
  refine V.iadd (pc := 37) hG dX12_done_37 ?_
  exact fin dX12_done_38 ((sR_wr _)) rfl hi5 hw ⟨rfl, h⟩
set_option maxRecDepth 100000 in
set_option maxHeartbeats 4000000 in
theorem sm_X12_waitsFor (l : Launch) (Δ : Wd) {i r : MI} {p1 : Int} (hp1 : sR p1) {Q : Int → MI → Prop} (hi : okI i) (hw : Wf r) (h : wp_X12_waitsFor p1 i r Q) : Met l yX12_waitsFor (Cond.code yX12_waitsFor cX12_waitsFor 2 (some .int) :: gW) (sRm 2 50) (sPc Δ [.ref (sA Δ 504), .int (sJ p1)] i r) (sQi Δ (fun x i' r' => r = r' ∧ Q x i')) 0 0 (sFr Δ) := by
  refine Ct.i (ty := .int) (by decide) rfl (Nat.le_of_ble_eq_true rfl) (fun Γ Q0 hG fin => ?_)
  have hG : okG Γ Δ l (sRm 2 50) cX12_waitsFor "SchedularyModel" 2 := hG
  show V Γ Δ 542 false i r 0 0 Q0 0 [(0, .ref (sA Δ 504)), (1, .int (sJ p1))] []
  have jn72 : ∀ (k0j72 : Int) (ij72 : MI), sR k0j72 → okI ij72 → s72_X12_waitsFor k0j72 ij72 r Q → V Γ Δ 542 false ij72 r 0 0 Q0 72 [] [.int (sJ k0j72)] := by
    intro k0j72 ij72 hk0j72 hij72 h
    exact fin dX12_waitsFor_72 hk0j72 rfl hij72 hw ⟨rfl, h⟩
  have jn20 : ∀ (k1j20 : Int) (ij20 : MI), sR k1j20 → okI ij20 → s20_X12_waitsFor p1 k1j20 ij20 r Q → V Γ Δ 542 false ij20 r 0 0 Q0 20 [(0, .ref (sA Δ 504)), (1, .int (sJ p1))] [.int (sJ k1j20), .ref (sA Δ 504)] := by
    intro k1j20 ij20 hk1j20 hij20 h
    refine V.iconst (pc := 20) hG dX12_waitsFor_20 ?_
    refine V.callVi (pc := 21) (As := [.int (sJ k1j20), .int (sJ 1)]) (stk := []) hG (sm_X12_fails l Δ hk1j20 ((sR_l rfl)) hij20 hw h) mY_X12_fails kw_1853 kw_1855 kw_106 a_504 (by decide) (q := (RX12, TX12, 49)) rfl rfl ⟨Nat.le_of_ble_eq_true rfl, Nat.le_of_ble_eq_true rfl, Nat.le_of_ble_eq_true rfl, Nat.le_of_ble_eq_true rfl⟩ rfl (Nat.le_of_ble_eq_true rfl) dX12_waitsFor_21 rfl (fun v29 i30 r31 hv32 hi33 hw34 hq35 => ?_)
    obtain ⟨e56, h⟩ := hq35
    subst e56
    obtain ⟨t37, f38⟩ := h
    refine V.if_eq (pc := 24) (tgt := 29) hG hv32 dX12_waitsFor_24 (by decide) (fun c36 => ?_) (fun c36 => ?_)
    · have h := t37 c36
      clear t37 f38
      refine V.aload_n (pc := 29) hG dX12_waitsFor_29 rfl 0 rfl ?_
      refine V.iconst (pc := 30) hG dX12_waitsFor_30 ?_
      refine V.callVi (pc := 31) (As := [.int (sJ 0)]) (stk := []) hG (sm_X12_goRound l Δ ((sR_l rfl)) hi33 hw h) mY_X12_goRound kw_2237 kw_2239 kw_155 a_504 (by decide) (q := (RX12, TX12, 49)) rfl rfl ⟨Nat.le_of_ble_eq_true rfl, Nat.le_of_ble_eq_true rfl, Nat.le_of_ble_eq_true rfl, Nat.le_of_ble_eq_true rfl⟩ rfl (Nat.le_of_ble_eq_true rfl) dX12_waitsFor_31 rfl (fun v39 i40 r41 hv42 hi43 hw44 hq45 => ?_)
      obtain ⟨e54, h⟩ := hq45
      subst e54
      refine V.pop (pc := 34) hG dX12_waitsFor_34 rfl ?_
      refine V.aload_n (pc := 35) hG dX12_waitsFor_35 rfl 0 rfl ?_
      refine V.getR (x := 538) (pc := 36) (ci := 14) (k := 46) (M := 49) (T := TX12) (o := 504) (kz := 46) hG a_504 a_504.n (by decide) hin_X12 rfl (by decide) (by decide) rfl kw_1738 rfl ((hw).1 (504, 46, 538) (by decide)) (by decide) dX12_waitsFor_36 ?_
      refine V.iload_n (pc := 39) hG dX12_waitsFor_39 rfl 1 rfl ?_
      obtain ⟨g46, h⟩ := h
      refine V.iald (pc := 40) (z := 4) (o := 538) hG a_538 a_538.n hp1 g46 dX12_waitsFor_40 ?_
      refine V.aload_n (pc := 41) hG dX12_waitsFor_41 rfl 0 rfl ?_
      refine V.getR (x := 535) (pc := 42) (ci := 14) (k := 43) (M := 49) (T := TX12) (o := 504) (kz := 43) hG a_504 a_504.n (by decide) hin_X12 rfl (by decide) (by decide) rfl kw_1735 rfl ((hw).1 (504, 43, 535) (by decide)) (by decide) dX12_waitsFor_42 ?_
      refine V.iload_n (pc := 45) hG dX12_waitsFor_45 rfl 1 rfl ?_
      obtain ⟨g47, h⟩ := h
      refine V.iald (pc := 46) (z := 4) (o := 535) hG a_535 a_535.n hp1 g47 dX12_waitsFor_46 ?_
      obtain ⟨f50, t49⟩ := h
      refine V.icmp_ne (pc := 47) (tgt := 54) hG ((hi43 _ _)) ((hi43 _ _)) dX12_waitsFor_47 (by decide) (fun c48 => ?_) (fun c48 => ?_)
      · have h := t49 c48
        clear t49 f50
        refine V.aload_n (pc := 54) hG dX12_waitsFor_54 rfl 0 rfl ?_
        refine V.getR (x := 536) (pc := 55) (ci := 14) (k := 44) (M := 49) (T := TX12) (o := 504) (kz := 44) hG a_504 a_504.n (by decide) hin_X12 rfl (by decide) (by decide) rfl kw_1736 rfl ((hw).1 (504, 44, 536) (by decide)) (by decide) dX12_waitsFor_55 ?_
        refine V.bipush (pc := 58) hG dX12_waitsFor_58 (by decide) ?_
        refine V.iload_n (pc := 60) hG dX12_waitsFor_60 rfl 1 rfl ?_
        refine V.imul (pc := 61) hG dX12_waitsFor_61 ?_
        refine V.aload_n (pc := 62) hG dX12_waitsFor_62 rfl 0 rfl ?_
        refine V.getR (x := 538) (pc := 63) (ci := 14) (k := 46) (M := 49) (T := TX12) (o := 504) (kz := 46) hG a_504 a_504.n (by decide) hin_X12 rfl (by decide) (by decide) rfl kw_1738 rfl ((hw).1 (504, 46, 538) (by decide)) (by decide) dX12_waitsFor_63 ?_
        refine V.iload_n (pc := 66) hG dX12_waitsFor_66 rfl 1 rfl ?_
        obtain ⟨g51, h⟩ := h
        refine V.iald (pc := 67) (z := 4) (o := 538) hG a_538 a_538.n hp1 g51 dX12_waitsFor_67 ?_
        refine V.iadd (pc := 68) hG dX12_waitsFor_68 ?_
        obtain ⟨g52, h⟩ := h
        refine V.iald (pc := 69) (z := 64) (o := 536) hG a_536 a_536.n ((sR_wr _)) g52 dX12_waitsFor_69 ?_
        refine V.iconst (pc := 70) hG dX12_waitsFor_70 ?_
        refine V.idiv (pc := 71) hG ((hi43 _ _)) ((sR_l rfl)) (by decide) dX12_waitsFor_71 ?_
        refine V.pick [] rfl ?_
        exact jn72 (wr (Int.tdiv (i40 536 (wr (wr (16 * p1) + i40 538 p1))) 2)) i40 ((sR_wr _)) hi43 h
      · have h := f50 c48
        clear t49 f50
        refine V.iconst (pc := 50) hG dX12_waitsFor_50 ?_
        refine V.goto (pc := 51) (tgt := 72) hG dX12_waitsFor_51 (by decide) ?_
        refine V.pick [] rfl ?_
        exact jn72 (-1) i40 ((sR_l rfl)) hi43 h
    · have h := f38 c36
      clear t37 f38
      refine V.iconst (pc := 27) hG dX12_waitsFor_27 ?_
      exact fin dX12_waitsFor_28 ((sR_l rfl)) rfl hi33 hw ⟨rfl, h⟩
  refine V.aload_n (pc := 0) hG dX12_waitsFor_0 rfl 0 rfl ?_
  refine V.iconst (pc := 1) hG dX12_waitsFor_1 ?_
  refine V.putI (pc := 2) (ci := 14) (k := 0) (M := 49) (T := TX12) (o := 504) (kz := 0) hG a_504 a_504.n (by decide) hin_X12 rfl (by decide) (by decide) rfl kw_1692 rfl tyX12 tyX12_ok nmX12 rfl (ty := tyX12 0) (tyX12_ok 0 (by decide)) rfl rfl dX12_waitsFor_2 ?_
  refine V.aload_n (pc := 5) hG dX12_waitsFor_5 rfl 0 rfl ?_
  refine V.iload_n (pc := 6) hG dX12_waitsFor_6 rfl 1 rfl ?_
  refine V.iconst (pc := 7) hG dX12_waitsFor_7 ?_
  refine V.iconst (pc := 8) hG dX12_waitsFor_8 ?_
  refine V.callSi (pc := 9) (As := [.int (sJ p1), .int (sJ 0), .int (sJ 3)]) (stk := [.ref (sA Δ 504)]) hG (sm_X12_in l Δ hp1 ((sR_l rfl)) ((sR_l rfl)) ((okI_st hi ((sR_l rfl)))) hw h) mY_X12_in kw_1848 kw_1849 rfl ⟨Nat.le_of_ble_eq_true rfl, Nat.le_of_ble_eq_true rfl, Nat.le_of_ble_eq_true rfl, Nat.le_of_ble_eq_true rfl⟩ rfl (Nat.le_of_ble_eq_true rfl) dX12_waitsFor_9 rfl (fun v57 i58 r59 hv60 hi61 hw62 hq63 => ?_)
  obtain ⟨e67, e68, h⟩ := hq63
  subst e67
  subst e68
  obtain ⟨f66, t65⟩ := h
  refine V.if_ne (pc := 12) (tgt := 19) hG hv60 dX12_waitsFor_12 (by decide) (fun c64 => ?_) (fun c64 => ?_)
  · have h := t65 c64
    clear t65 f66
    refine V.iconst (pc := 19) hG dX12_waitsFor_19 ?_
    exact jn20 0 (st i 504 0 0) ((sR_l rfl)) ((okI_st hi ((sR_l rfl)))) h
  · have h := f66 c64
    clear t65 f66
    refine V.iconst (pc := 15) hG dX12_waitsFor_15 ?_
    refine V.goto (pc := 16) (tgt := 20) hG dX12_waitsFor_16 (by decide) ?_
    exact jn20 1 (st i 504 0 0) ((sR_l rfl)) ((okI_st hi ((sR_l rfl)))) h
set_option maxRecDepth 100000 in
set_option maxHeartbeats 4000000 in
theorem sm_X12_areLocked (l : Launch) (Δ : Wd) {i r : MI}   {Q : Int → MI → Prop} (hi : okI i) (hw : Wf r) (h : wp_X12_areLocked  i r Q) : Met l yX12_areLocked (Cond.code yX12_areLocked cX12_areLocked 1 (some .boolean) :: gW) (sRm 2 50) (sPc Δ [.ref (sA Δ 504)] i r) (sQi Δ (fun x i' r' => r = r' ∧ Q x i')) 0 0 (sFr Δ) := by
  refine Ct.i (ty := .boolean) (by decide) rfl (Nat.le_of_ble_eq_true rfl) (fun Γ Q0 hG fin => ?_)
  have hG : okG Γ Δ l (sRm 2 50) cX12_areLocked "SchedularyModel" 1 := hG
  show V Γ Δ 542 false i r 0 0 Q0 0 [(0, .ref (sA Δ 504))] []
  refine V.aload_n (pc := 0) hG dX12_areLocked_0 rfl 0 rfl ?_
  refine V.iconst (pc := 1) hG dX12_areLocked_1 ?_
  refine V.putI (pc := 2) (ci := 14) (k := 0) (M := 49) (T := TX12) (o := 504) (kz := 0) hG a_504 a_504.n (by decide) hin_X12 rfl (by decide) (by decide) rfl kw_1692 rfl tyX12 tyX12_ok nmX12 rfl (ty := tyX12 0) (tyX12_ok 0 (by decide)) rfl rfl dX12_areLocked_2 ?_
  refine V.aload_n (pc := 5) hG dX12_areLocked_5 rfl 0 rfl ?_
  refine V.iconst (pc := 6) hG dX12_areLocked_6 ?_
  refine V.callVi (pc := 7) (As := [.int (sJ 0)]) (stk := []) hG (sm_X12_goRound l Δ ((sR_l rfl)) ((okI_st hi ((sR_l rfl)))) hw h) mY_X12_goRound kw_2237 kw_2239 kw_155 a_504 (by decide) (q := (RX12, TX12, 49)) rfl rfl ⟨Nat.le_of_ble_eq_true rfl, Nat.le_of_ble_eq_true rfl, Nat.le_of_ble_eq_true rfl, Nat.le_of_ble_eq_true rfl⟩ rfl (Nat.le_of_ble_eq_true rfl) dX12_areLocked_7 rfl (fun v1 i2 r3 hv4 hi5 hw6 hq7 => ?_)
  obtain ⟨e10, h⟩ := hq7
  subst e10
  obtain ⟨g8, h⟩ := h
  exact fin dX12_areLocked_10 hv4 (nar_z g8) hi5 hw ⟨rfl, h⟩
set_option maxRecDepth 100000 in
set_option maxHeartbeats 4000000 in
theorem sm_X12_leastDepth (l : Launch) (Δ : Wd) {i r : MI}   {Q : Int → MI → Prop} (hi : okI i) (hw : Wf r) (h : wp_X12_leastDepth  i r Q) : Met l yX12_leastDepth (Cond.code yX12_leastDepth cX12_leastDepth 2 (some .int) :: gW) (sRm 2 50) (sPc Δ [.ref (sA Δ 504)] i r) (sQi Δ (fun x i' r' => r = r' ∧ Q x i')) 0 0 (sFr Δ) := by
  refine Ct.i (ty := .int) (by decide) rfl (Nat.le_of_ble_eq_true rfl) (fun Γ Q0 hG fin => ?_)
  have hG : okG Γ Δ l (sRm 2 50) cX12_leastDepth "SchedularyModel" 2 := hG
  show V Γ Δ 542 false i r 0 0 Q0 0 [(0, .ref (sA Δ 504))] []
  refine V.aload_n (pc := 0) hG dX12_leastDepth_0 rfl 0 rfl ?_
  refine V.iconst (pc := 1) hG dX12_leastDepth_1 ?_
  refine V.putI (pc := 2) (ci := 14) (k := 0) (M := 49) (T := TX12) (o := 504) (kz := 0) hG a_504 a_504.n (by decide) hin_X12 rfl (by decide) (by decide) rfl kw_1692 rfl tyX12 tyX12_ok nmX12 rfl (ty := tyX12 0) (tyX12_ok 0 (by decide)) rfl rfl dX12_leastDepth_2 ?_
  refine V.iconst (pc := 5) hG dX12_leastDepth_5 ?_
  refine V.istore_n (pc := 6) (lv' := [(1, .int (sJ 1)), (0, .ref (sA Δ 504))]) hG dX12_leastDepth_6 rfl (by decide) rfl ?_
  obtain ⟨n16, h⟩ := h
  have lp7 : ∀ (m7 : Nat) (x1_7 : Int) (i_7 : MI), sR x1_7 → okI i_7 → LoopP (b7_X12_leastDepth r Q) m7 (x1_7, i_7) → V Γ Δ 542 false i_7 r 0 0 Q0 7 [(0, .ref (sA Δ 504)), (1, .int (sJ x1_7))] [] := by
    intro m7
    induction m7 with
    | zero => intro x1_7 i_7 hx1_7 hi_7 h; exact h.elim
    | succ m7 ih7 =>
      intro x1_7 i_7 hx1_7 hi_7 h
      have h := LoopP_succ h
      refine V.iload_n (pc := 7) hG dX12_leastDepth_7 rfl 1 rfl ?_
      refine V.bipush (pc := 8) hG dX12_leastDepth_8 (by decide) ?_
      obtain ⟨t18, f19⟩ := h
      refine V.icmp_gt (pc := 10) (tgt := 29) hG hx1_7 ((sR_l rfl)) dX12_leastDepth_10 (by decide) (fun c17 => ?_) (fun c17 => ?_)
      · have h := t18 c17
        clear t18 f19
        refine V.aload_n (pc := 29) hG dX12_leastDepth_29 rfl 0 rfl ?_
        refine V.iconst (pc := 30) hG dX12_leastDepth_30 ?_
        refine V.putI (pc := 31) (ci := 14) (k := 0) (M := 49) (T := TX12) (o := 504) (kz := 0) hG a_504 a_504.n (by decide) hin_X12 rfl (by decide) (by decide) rfl kw_1692 rfl tyX12 tyX12_ok nmX12 rfl (ty := tyX12 0) (tyX12_ok 0 (by decide)) rfl rfl dX12_leastDepth_31 ?_
        refine V.iconst (pc := 34) hG dX12_leastDepth_34 ?_
        exact fin dX12_leastDepth_35 ((sR_l rfl)) rfl ((okI_st hi_7 ((sR_l rfl)))) hw ⟨rfl, h⟩
      · have h := f19 c17
        clear t18 f19
        refine V.aload_n (pc := 13) hG dX12_leastDepth_13 rfl 0 rfl ?_
        refine V.iload_n (pc := 14) hG dX12_leastDepth_14 rfl 1 rfl ?_
        refine V.callVi (pc := 15) (As := [.int (sJ x1_7)]) (stk := []) hG (sm_X12_goRound l Δ hx1_7 hi_7 hw h) mY_X12_goRound kw_2237 kw_2239 kw_155 a_504 (by decide) (q := (RX12, TX12, 49)) rfl rfl ⟨Nat.le_of_ble_eq_true rfl, Nat.le_of_ble_eq_true rfl, Nat.le_of_ble_eq_true rfl, Nat.le_of_ble_eq_true rfl⟩ rfl (Nat.le_of_ble_eq_true rfl) dX12_leastDepth_15 rfl (fun v20 i21 r22 hv23 hi24 hw25 hq26 => ?_)
        obtain ⟨e31, h⟩ := hq26
        subst e31
        obtain ⟨f29, t28⟩ := h
        refine V.if_ne (pc := 18) (tgt := 23) hG hv23 dX12_leastDepth_18 (by decide) (fun c27 => ?_) (fun c27 => ?_)
        · have h := t28 c27
          clear t28 f29
          refine V.iinc (pc := 23) (lv' := [(1, .int (sJ (wr (x1_7 + 1)))), (0, .ref (sA Δ 504))]) hG dX12_leastDepth_23 1 rfl (by decide) rfl ?_
          refine V.goto (pc := 26) (tgt := 7) hG dX12_leastDepth_26 (by decide) ?_
          refine V.pick [1, 0] rfl ?_
          exact ih7 (wr (x1_7 + 1)) i21 ((sR_wr _)) hi24 h
        · have h := f29 c27
          clear t28 f29
          refine V.iload_n (pc := 21) hG dX12_leastDepth_21 rfl 1 rfl ?_
          exact fin dX12_leastDepth_22 hx1_7 rfl hi24 hw ⟨rfl, h⟩
  refine V.pick [1, 0] rfl ?_
  exact lp7 n16 1 (st i 504 0 0) ((sR_l rfl)) ((okI_st hi ((sR_l rfl)))) h
set_option maxRecDepth 100000 in
set_option maxHeartbeats 4000000 in
theorem sm_X12_isSound (l : Launch) (Δ : Wd) {i r : MI}   {Q : Int → MI → Prop} (hi : okI i) (hw : Wf r) (h : wp_X12_isSound  i r Q) : Met l yX12_isSound (Cond.code yX12_isSound cX12_isSound 1 (some .boolean) :: gW) (sRm 0 0) (sPc Δ [.ref (sA Δ 504)] i r) (sQi Δ (fun x i' r' => r = r' ∧ Q x i')) 0 0 (sFr Δ) := by
  refine Ct.i (ty := .boolean) (by decide) rfl (Nat.le_of_ble_eq_true rfl) (fun Γ Q0 hG fin => ?_)
  have hG : okG Γ Δ l (sRm 0 0) cX12_isSound "SchedularyModel" 1 := hG
  show V Γ Δ 542 false i r 0 0 Q0 0 [(0, .ref (sA Δ 504))] []
  refine V.aload_n (pc := 0) hG dX12_isSound_0 rfl 0 rfl ?_
  refine V.iconst (pc := 1) hG dX12_isSound_1 ?_
  refine V.putI (pc := 2) (ci := 14) (k := 0) (M := 49) (T := TX12) (o := 504) (kz := 0) hG a_504 a_504.n (by decide) hin_X12 rfl (by decide) (by decide) rfl kw_1692 rfl tyX12 tyX12_ok nmX12 rfl (ty := tyX12 0) (tyX12_ok 0 (by decide)) rfl rfl dX12_isSound_2 ?_
  refine V.iconst (pc := 5) hG dX12_isSound_5 ?_
  exact fin dX12_isSound_6 ((sR_l rfl)) (nar_z (by decide)) ((okI_st hi ((sR_l rfl)))) hw ⟨rfl, h⟩
