set_option maxRecDepth 100000 in
set_option maxHeartbeats 4000000 in
theorem sm_L_isWritten (l : Launch) (Δ : Wd) {i r : MI} {b1 L1 : Nat} {xs1 : Int → Int}  (hE1 : EA Δ b1 L1 xs1) (hTD : TD Δ) (hnb : nb Δ) {Q : Int → MI → MI → Prop} (hst : l.stackTraces = false) (hi : okI i) (hw : Wf r) (h : wp_L_isWritten i r L1 xs1 Q) : Met l yL_isWritten (Cond.code yL_isWritten cL_isWritten 6 (some .boolean) :: gW) (sRx 21 624 6000 36000) (sPc Δ [.ref (sA Δ 0), .ref b1] i r) (sQi Δ (Q)) 6000 36000 (sFr Δ) := by
  refine Cm.i (ty := .boolean) (by decide) rfl (Nat.le_of_ble_eq_true rfl) (fun Γ Q0 hG fin => ?_)
  have hG : okG Γ Δ l (sRx 21 624 6000 36000) cL_isWritten "SchedularyLaw" 6 := hG
  show V Γ Δ 504 false i r 0 (6 * 0) Q0 0 [(0, .ref (sA Δ 0)), (1, .ref b1)] []
  have jn320 : ∀ (k0j320 : Int) (ij320 : MI) (rj320 : MI) (kj320 : Nat), sR k0j320 → okI ij320 → Wf rj320 → s320_L_isWritten k0j320 ij320 rj320 kj320 L1 xs1 Q → V Γ Δ 504 false ij320 rj320 kj320 (6 * kj320) Q0 320 [] [.int (sJ k0j320)] := by
    intro k0j320 ij320 rj320 kj320 hk0j320 hij320 hwj320 h
    obtain ⟨hk4, h⟩ := h
    obtain ⟨g3, h⟩ := h
    exact fin dL_isWritten_320 hk0j320 (nar_z g3) hk4 (Nat.mul_le_mul_left 6 hk4) hij320 hwj320 h
  have jn319 : ∀  (ij319 : MI) (rj319 : MI) (kj319 : Nat), okI ij319 → Wf rj319 → s319_L_isWritten ij319 rj319 kj319 L1 xs1 Q → V Γ Δ 504 false ij319 rj319 kj319 (6 * kj319) Q0 319 [] [] := by
    intro ij319 rj319 kj319 hij319 hwj319 h
    refine V.iconst (pc := 319) hG dL_isWritten_319 ?_
    exact jn320 0 ij319 rj319 kj319 ((sR_l rfl)) hij319 hwj319 h
  have jn47 : ∀ (x2j47 : Int) (k0j47 : Int) (ij47 : MI) (rj47 : MI) (kj47 : Nat), sR x2j47 → sR k0j47 → okI ij47 → Wf rj47 → s47_L_isWritten x2j47 k0j47 ij47 rj47 kj47 L1 xs1 Q → V Γ Δ 504 false ij47 rj47 kj47 (6 * kj47) Q0 47 [(0, .ref (sA Δ 0)), (1, .ref b1), (2, .int (sJ x2j47))] [.int (sJ k0j47)] := by
    intro x2j47 k0j47 ij47 rj47 kj47 hx2j47 hk0j47 hij47 hwj47 h
    refine V.istore_n (pc := 47) (lv' := [(3, .int (sJ k0j47)), (0, .ref (sA Δ 0)), (1, .ref b1), (2, .int (sJ x2j47))]) hG dL_isWritten_47 rfl (by decide) rfl ?_
    refine V.iconst (pc := 48) hG dL_isWritten_48 ?_
    refine V.istore (pc := 49) (lv' := [(4, .int (sJ 0)), (3, .int (sJ k0j47)), (0, .ref (sA Δ 0)), (1, .ref b1), (2, .int (sJ x2j47))]) hG dL_isWritten_49 (by decide) rfl ?_
    obtain ⟨n724, h⟩ := h
    have lp51 : ∀ (m51 : Nat) (x3_51 : Int) (x4_51 : Int) (i_51 : MI) (r_51 : MI) (k_51 : Nat), sR x3_51 → sR x4_51 → okI i_51 → Wf r_51 → LoopP (b51_L_isWritten x2j47 L1 xs1 Q) m51 (x3_51, x4_51, i_51, r_51, k_51) → V Γ Δ 504 false i_51 r_51 k_51 (6 * k_51) Q0 51 [(0, .ref (sA Δ 0)), (1, .ref b1), (2, .int (sJ x2j47)), (3, .int (sJ x3_51)), (4, .int (sJ x4_51))] [] := by
      intro m51
      induction m51 with
      | zero => intro x3_51 x4_51 i_51 r_51 k_51 hx3_51 hx4_51 hi_51 hw_51 h; exact h.elim
      | succ m51 ih51 =>
        intro x3_51 x4_51 i_51 r_51 k_51 hx3_51 hx4_51 hi_51 hw_51 h
        have h := LoopP_succ h
        have jn89 : ∀ (x4j89 : Int) (k0j89 : Int) (ij89 : MI) (rj89 : MI) (kj89 : Nat), sR x4j89 → sR k0j89 → okI ij89 → Wf rj89 → s89_L_isWritten x2j47 x4j89 k0j89 ij89 rj89 kj89 L1 xs1 Q (LoopP (b51_L_isWritten x2j47 L1 xs1 Q) m51) → V Γ Δ 504 false ij89 rj89 kj89 (6 * kj89) Q0 89 [(0, .ref (sA Δ 0)), (1, .ref b1), (2, .int (sJ x2j47)), (4, .int (sJ x4j89))] [.int (sJ k0j89)] := by
          intro x4j89 k0j89 ij89 rj89 kj89 hx4j89 hk0j89 hij89 hwj89 h
          refine V.istore_n (pc := 89) (lv' := [(3, .int (sJ k0j89)), (0, .ref (sA Δ 0)), (1, .ref b1), (2, .int (sJ x2j47)), (4, .int (sJ x4j89))]) hG dL_isWritten_89 rfl (by decide) rfl ?_
          refine V.iinc (pc := 90) (lv' := [(4, .int (sJ (wr (x4j89 + 1)))), (3, .int (sJ k0j89)), (0, .ref (sA Δ 0)), (1, .ref b1), (2, .int (sJ x2j47))]) hG dL_isWritten_90 4 rfl (by decide) rfl ?_
          refine V.goto (pc := 93) (tgt := 51) hG dL_isWritten_93 (by decide) ?_
          refine V.pick [2, 3, 4, 1, 0] rfl ?_
          exact ih51 k0j89 (wr (x4j89 + 1)) ij89 rj89 kj89 hk0j89 ((sR_wr _)) hij89 hwj89 h
        have jn88 : ∀ (x4j88 : Int) (ij88 : MI) (rj88 : MI) (kj88 : Nat), sR x4j88 → okI ij88 → Wf rj88 → s88_L_isWritten x2j47 x4j88 ij88 rj88 kj88 L1 xs1 Q (LoopP (b51_L_isWritten x2j47 L1 xs1 Q) m51) → V Γ Δ 504 false ij88 rj88 kj88 (6 * kj88) Q0 88 [(0, .ref (sA Δ 0)), (1, .ref b1), (2, .int (sJ x2j47)), (4, .int (sJ x4j88))] [] := by
          intro x4j88 ij88 rj88 kj88 hx4j88 hij88 hwj88 h
          refine V.iconst (pc := 88) hG dL_isWritten_88 ?_
          exact jn89 x4j88 0 ij88 rj88 kj88 hx4j88 ((sR_l rfl)) hij88 hwj88 h
        refine V.iload (pc := 51) hG dL_isWritten_51 4 rfl ?_
        refine V.iload_n (pc := 53) hG dL_isWritten_53 rfl 2 rfl ?_
        obtain ⟨t726, f727⟩ := h
        refine V.icmp_ge (pc := 54) (tgt := 96) hG hx4_51 hx2j47 dL_isWritten_54 (by decide) (fun c725 => ?_) (fun c725 => ?_)
        · have h := t726 c725
          clear t726 f727
          refine V.iconst (pc := 96) hG dL_isWritten_96 ?_
          refine V.istore (pc := 97) (lv' := [(4, .int (sJ 0)), (0, .ref (sA Δ 0)), (1, .ref b1), (2, .int (sJ x2j47)), (3, .int (sJ x3_51))]) hG dL_isWritten_97 (by decide) rfl ?_
          obtain ⟨n728, h⟩ := h
          have lp99 : ∀ (m99 : Nat) (x3_99 : Int) (x4_99 : Int) (i_99 : MI) (r_99 : MI) (k_99 : Nat), sR x3_99 → sR x4_99 → okI i_99 → Wf r_99 → LoopP (b99_L_isWritten L1 xs1 Q) m99 (x3_99, x4_99, i_99, r_99, k_99) → V Γ Δ 504 false i_99 r_99 k_99 (6 * k_99) Q0 99 [(0, .ref (sA Δ 0)), (1, .ref b1), (3, .int (sJ x3_99)), (4, .int (sJ x4_99))] [] := by
            intro m99
            induction m99 with
            | zero => intro x3_99 x4_99 i_99 r_99 k_99 hx3_99 hx4_99 hi_99 hw_99 h; exact h.elim
            | succ m99 ih99 =>
              intro x3_99 x4_99 i_99 r_99 k_99 hx3_99 hx4_99 hi_99 hw_99 h
              have h := LoopP_succ h
              have jn177 : ∀ (x4j177 : Int) (k0j177 : Int) (ij177 : MI) (rj177 : MI) (kj177 : Nat), sR x4j177 → sR k0j177 → okI ij177 → Wf rj177 → s177_L_isWritten x4j177 k0j177 ij177 rj177 kj177 L1 xs1 Q (LoopP (b99_L_isWritten L1 xs1 Q) m99) → V Γ Δ 504 false ij177 rj177 kj177 (6 * kj177) Q0 177 [(0, .ref (sA Δ 0)), (1, .ref b1), (4, .int (sJ x4j177))] [.int (sJ k0j177)] := by
                intro x4j177 k0j177 ij177 rj177 kj177 hx4j177 hk0j177 hij177 hwj177 h
                refine V.istore_n (pc := 177) (lv' := [(3, .int (sJ k0j177)), (0, .ref (sA Δ 0)), (1, .ref b1), (4, .int (sJ x4j177))]) hG dL_isWritten_177 rfl (by decide) rfl ?_
                refine V.iinc (pc := 178) (lv' := [(4, .int (sJ (wr (x4j177 + 1)))), (3, .int (sJ k0j177)), (0, .ref (sA Δ 0)), (1, .ref b1)]) hG dL_isWritten_178 3 rfl (by decide) rfl ?_
                refine V.goto (pc := 181) (tgt := 99) hG dL_isWritten_181 (by decide) ?_
                refine V.pick [2, 3, 1, 0] rfl ?_
                exact ih99 k0j177 (wr (x4j177 + 1)) ij177 rj177 kj177 hk0j177 ((sR_wr _)) hij177 hwj177 h
              have jn176 : ∀ (x4j176 : Int) (ij176 : MI) (rj176 : MI) (kj176 : Nat), sR x4j176 → okI ij176 → Wf rj176 → s176_L_isWritten x4j176 ij176 rj176 kj176 L1 xs1 Q (LoopP (b99_L_isWritten L1 xs1 Q) m99) → V Γ Δ 504 false ij176 rj176 kj176 (6 * kj176) Q0 176 [(0, .ref (sA Δ 0)), (1, .ref b1), (4, .int (sJ x4j176))] [] := by
                intro x4j176 ij176 rj176 kj176 hx4j176 hij176 hwj176 h
                refine V.iconst (pc := 176) hG dL_isWritten_176 ?_
                exact jn177 x4j176 0 ij176 rj176 kj176 hx4j176 ((sR_l rfl)) hij176 hwj176 h
              have jn172 : ∀ (x4j172 : Int) (ij172 : MI) (rj172 : MI) (kj172 : Nat), sR x4j172 → okI ij172 → Wf rj172 → s172_L_isWritten x4j172 ij172 rj172 kj172 L1 xs1 Q (LoopP (b99_L_isWritten L1 xs1 Q) m99) → V Γ Δ 504 false ij172 rj172 kj172 (6 * kj172) Q0 172 [(0, .ref (sA Δ 0)), (1, .ref b1), (4, .int (sJ x4j172))] [] := by
                intro x4j172 ij172 rj172 kj172 hx4j172 hij172 hwj172 h
                refine V.iconst (pc := 172) hG dL_isWritten_172 ?_
                refine V.goto (pc := 173) (tgt := 177) hG dL_isWritten_173 (by decide) ?_
                exact jn177 x4j172 1 ij172 rj172 kj172 hx4j172 ((sR_l rfl)) hij172 hwj172 h
              refine V.iload (pc := 99) hG dL_isWritten_99 3 rfl ?_
              refine V.bipush (pc := 101) hG dL_isWritten_101 (by decide) ?_
              obtain ⟨t730, f731⟩ := h
              refine V.icmp_ge (pc := 103) (tgt := 184) hG hx4_99 ((sR_l rfl)) dL_isWritten_103 (by decide) (fun c729 => ?_) (fun c729 => ?_)
              · have h := t730 c729
                clear t730 f731
                refine V.iconst (pc := 184) hG dL_isWritten_184 ?_
                refine V.istore (pc := 185) (lv' := [(4, .int (sJ 0)), (0, .ref (sA Δ 0)), (1, .ref b1), (3, .int (sJ x3_99))]) hG dL_isWritten_185 (by decide) rfl ?_
                obtain ⟨n732, h⟩ := h
                have lp187 : ∀ (m187 : Nat) (x4_187 : Int) (i_187 : MI) (r_187 : MI) (k_187 : Nat), sR x4_187 → okI i_187 → Wf r_187 → LoopP (b187_L_isWritten x3_99 L1 xs1 Q) m187 (x4_187, i_187, r_187, k_187) → V Γ Δ 504 false i_187 r_187 k_187 (6 * k_187) Q0 187 [(0, .ref (sA Δ 0)), (1, .ref b1), (3, .int (sJ x3_99)), (4, .int (sJ x4_187))] [] := by
                  intro m187
                  induction m187 with
                  | zero => intro x4_187 i_187 r_187 k_187 hx4_187 hi_187 hw_187 h; exact h.elim
                  | succ m187 ih187 =>
                    intro x4_187 i_187 r_187 k_187 hx4_187 hi_187 hw_187 h
                    have h := LoopP_succ h
                    refine V.iload (pc := 187) hG dL_isWritten_187 3 rfl ?_
                    refine V.iconst (pc := 189) hG dL_isWritten_189 ?_
                    obtain ⟨t734, f735⟩ := h
                    refine V.icmp_ge (pc := 190) (tgt := 285) hG hx4_187 ((sR_l rfl)) dL_isWritten_190 (by decide) (fun c733 => ?_) (fun c733 => ?_)
                    · have h := t734 c733
                      clear t734 f735
                      refine V.iconst (pc := 285) hG dL_isWritten_285 ?_
                      refine V.aload_n (pc := 286) hG dL_isWritten_286 rfl 1 rfl ?_
                      refine V.bipush (pc := 287) hG dL_isWritten_287 (by decide) ?_
                      refine V.iconst (pc := 289) hG dL_isWritten_289 ?_
                      obtain ⟨hk743, h⟩ := h
                      refine V.callSi (pc := 290) (As := [.ref b1, .int (sJ 16), .int (sJ 3)]) (stk := [.int (sJ 1)]) hG (sm_L_pick l Δ hE1 ((sR_l rfl)) ((sR_l rfl)) hi_187 hw_187 h) mY_L_pick kw_909 kw_910 ⟨Nat.le_of_ble_eq_true rfl, Nat.le_of_ble_eq_true rfl, by show _ ≤ 6000; omega, by show _ ≤ 36000; omega⟩ rfl (Nat.le_of_ble_eq_true rfl) dL_isWritten_290 rfl (fun v736 i737 r738 hv739 hi740 hw741 hq742 => ?_)
                      obtain ⟨e744, e745, h⟩ := hq742
                      subst e744
                      subst e745
                      refine V.iadd (pc := 293) hG dL_isWritten_293 ?_
                      refine V.istore (pc := 294) (lv' := [(4, .int (sJ (wr (1 + v736)))), (0, .ref (sA Δ 0)), (1, .ref b1), (3, .int (sJ x3_99))]) hG dL_isWritten_294 (by decide) rfl ?_
                      refine V.iload_n (pc := 296) hG dL_isWritten_296 rfl 3 rfl ?_
                      obtain ⟨t747, f748⟩ := h
                      refine V.if_eq (pc := 297) (tgt := 319) hG hx3_99 dL_isWritten_297 (by decide) (fun c746 => ?_) (fun c746 => ?_)
                      · have h := t747 c746
                        clear t747 f748
                        refine V.pick [] rfl ?_
                        exact jn319 i_187 r_187 k_187 hi_187 hw_187 h
                      · have h := f748 c746
                        clear t747 f748
                        refine V.aload_n (pc := 300) hG dL_isWritten_300 rfl 1 rfl ?_
                        refine V.iconst (pc := 301) hG dL_isWritten_301 ?_
                        refine V.iload (pc := 302) hG dL_isWritten_302 0 rfl ?_
                        refine V.iconst (pc := 304) hG dL_isWritten_304 ?_
                        obtain ⟨hk756, h⟩ := h
                        refine V.mcallSi (pc := 305) (As := [.ref (sA Δ 0), .int (sJ 5), .int (sJ (wr (1 + v736))), .int (sJ 0)]) (stk := []) hG (sm_L_ask l Δ ((sR_l rfl)) ((sR_wr _)) ((sR_l rfl)) hst hi_187 hw_187 h) mY_L_ask kw_917 kw_918 ⟨Nat.le_of_ble_eq_true rfl, Nat.le_of_ble_eq_true rfl, by show _ ≤ 6000; omega, by show _ ≤ 36000; omega⟩ rfl (Nat.le_of_ble_eq_true rfl) dL_isWritten_305 rfl (fun v749 i750 r751 hv752 hi753 hw754 hq755 => ?_)
                        have h := hq755
                        refine V.ks (kc2 := (k_187 + 3)) (sl2 := 6 * (k_187 + 3)) (by omega) (by omega) ?_
                        refine V.aload_n (pc := 308) hG dL_isWritten_308 rfl 1 rfl ?_
                        obtain ⟨hk771, h⟩ := h
                        refine V.callVi (pc := 309) (As := []) (stk := [.int (sJ v749)]) hG (sm_X11_nodes l Δ  hi753 hw754 h) mY_X11_nodes kw_1716 kw_1717 kw_1718 a_0 (by decide) (q := (RX11, TX11, 11)) rfl rfl ⟨Nat.le_of_ble_eq_true rfl, Nat.le_of_ble_eq_true rfl, hk771, Nat.mul_le_mul_left 6 hk771⟩ rfl (Nat.le_of_ble_eq_true rfl) dL_isWritten_309 rfl (fun v759 i760 r761 hv762 hi763 hw764 hq765 => ?_)
                        have h := hq765
                        obtain ⟨f768, t767⟩ := h
                        refine V.icmp_ne (pc := 312) (tgt := 319) hG hv752 hv762 dL_isWritten_312 (by decide) (fun c766 => ?_) (fun c766 => ?_)
                        · have h := t767 c766
                          clear t767 f768
                          refine V.pick [] rfl ?_
                          exact jn319 i760 r761 (k_187 + 3) hi763 hw764 h
                        · have h := f768 c766
                          clear t767 f768
                          refine V.iconst (pc := 315) hG dL_isWritten_315 ?_
                          refine V.goto (pc := 316) (tgt := 320) hG dL_isWritten_316 (by decide) ?_
                          refine V.pick [] rfl ?_
                          exact jn320 1 i760 r761 (k_187 + 3) ((sR_l rfl)) hi763 hw764 h
                    · have h := f735 c733
                      clear t734 f735
                      refine V.aload_n (pc := 193) hG dL_isWritten_193 rfl 0 rfl ?_
                      refine V.bipush (pc := 194) hG dL_isWritten_194 (by decide) ?_
                      refine V.aload_n (pc := 196) hG dL_isWritten_196 rfl 1 rfl ?_
                      refine V.sipush (pc := 197) hG dL_isWritten_197 (by decide) ?_
                      refine V.iload (pc := 200) hG dL_isWritten_200 3 rfl ?_
                      refine V.iadd (pc := 202) hG dL_isWritten_202 ?_
                      refine V.ldc (pc := 203) (x := 65536) hG kw_1715 dL_isWritten_203 ?_
                      obtain ⟨hk779, h⟩ := h
                      refine V.callSi (pc := 205) (As := [.ref b1, .int (sJ (wr (140 + x4_187))), .int (sJ 65536)]) (stk := [.int (sJ 6), .ref (sA Δ 0)]) hG (sm_L_pick l Δ hE1 ((sR_wr _)) ((sR_l rfl)) hi_187 hw_187 h) mY_L_pick kw_909 kw_910 ⟨Nat.le_of_ble_eq_true rfl, Nat.le_of_ble_eq_true rfl, by show _ ≤ 6000; omega, by show _ ≤ 36000; omega⟩ rfl (Nat.le_of_ble_eq_true rfl) dL_isWritten_205 rfl (fun v772 i773 r774 hv775 hi776 hw777 hq778 => ?_)
                      obtain ⟨e780, e781, h⟩ := hq778
                      subst e780
                      subst e781
                      refine V.iconst (pc := 208) hG dL_isWritten_208 ?_
                      obtain ⟨hk789, h⟩ := h
                      refine V.mcallSi (pc := 209) (As := [.ref (sA Δ 0), .int (sJ 6), .int (sJ v772), .int (sJ 0)]) (stk := []) hG (sm_L_ask l Δ ((sR_l rfl)) hv775 ((sR_l rfl)) hst hi_187 hw_187 h) mY_L_ask kw_917 kw_918 ⟨Nat.le_of_ble_eq_true rfl, Nat.le_of_ble_eq_true rfl, by show _ ≤ 6000; omega, by show _ ≤ 36000; omega⟩ rfl (Nat.le_of_ble_eq_true rfl) dL_isWritten_209 rfl (fun v782 i783 r784 hv785 hi786 hw787 hq788 => ?_)
                      have h := hq788
                      refine V.ks (kc2 := (k_187 + 3)) (sl2 := 6 * (k_187 + 3)) (by omega) (by omega) ?_
                      refine V.pop (pc := 212) hG dL_isWritten_212 rfl ?_
                      refine V.aload_n (pc := 213) hG dL_isWritten_213 rfl 0 rfl ?_
                      refine V.bipush (pc := 214) hG dL_isWritten_214 (by decide) ?_
                      refine V.bipush (pc := 216) hG dL_isWritten_216 (by decide) ?_
                      refine V.aload_n (pc := 218) hG dL_isWritten_218 rfl 1 rfl ?_
                      refine V.sipush (pc := 219) hG dL_isWritten_219 (by decide) ?_
                      refine V.iload (pc := 222) hG dL_isWritten_222 3 rfl ?_
                      refine V.iadd (pc := 224) hG dL_isWritten_224 ?_
                      refine V.bipush (pc := 225) hG dL_isWritten_225 (by decide) ?_
                      obtain ⟨hk799, h⟩ := h
                      refine V.callSi (pc := 227) (As := [.ref b1, .int (sJ (wr (150 + x4_187))), .int (sJ 16)]) (stk := [.int (sJ 77), .int (sJ 7), .ref (sA Δ 0)]) hG (sm_L_pick l Δ hE1 ((sR_wr _)) ((sR_l rfl)) hi786 hw787 h) mY_L_pick kw_909 kw_910 ⟨Nat.le_of_ble_eq_true rfl, Nat.le_of_ble_eq_true rfl, by show _ ≤ 6000; omega, by show _ ≤ 36000; omega⟩ rfl (Nat.le_of_ble_eq_true rfl) dL_isWritten_227 rfl (fun v792 i793 r794 hv795 hi796 hw797 hq798 => ?_)
                      obtain ⟨e800, e801, h⟩ := hq798
                      subst e800
                      subst e801
                      refine V.aload_n (pc := 230) hG dL_isWritten_230 rfl 1 rfl ?_
                      refine V.sipush (pc := 231) hG dL_isWritten_231 (by decide) ?_
                      refine V.iload (pc := 234) hG dL_isWritten_234 3 rfl ?_
                      refine V.iadd (pc := 236) hG dL_isWritten_236 ?_
                      refine V.ldc (pc := 237) (x := 65536) hG kw_1715 dL_isWritten_237 ?_
                      obtain ⟨hk809, h⟩ := h
                      refine V.callSi (pc := 239) (As := [.ref b1, .int (sJ (wr (160 + x4_187))), .int (sJ 65536)]) (stk := [.int (sJ v792), .int (sJ 77), .int (sJ 7), .ref (sA Δ 0)]) hG (sm_L_pick l Δ hE1 ((sR_wr _)) ((sR_l rfl)) hi786 hw787 h) mY_L_pick kw_909 kw_910 ⟨Nat.le_of_ble_eq_true rfl, Nat.le_of_ble_eq_true rfl, by show _ ≤ 6000; omega, by show _ ≤ 36000; omega⟩ rfl (Nat.le_of_ble_eq_true rfl) dL_isWritten_239 rfl (fun v802 i803 r804 hv805 hi806 hw807 hq808 => ?_)
                      obtain ⟨e810, e811, h⟩ := hq808
                      subst e810
                      subst e811
                      obtain ⟨hk819, h⟩ := h
                      refine V.callSWi (pc := 242) (na := 5) (As := [.ref (sA Δ 0), .int (sJ 7), .int (sJ 77), .int (sJ v792), .int (sJ v802)]) (stk := []) hG (sm_L_deed l Δ ((sR_l rfl)) ((sR_l rfl)) hv795 hv805 hst hi786 hw787 h) kw_101 kl_L_deed ⟨by decide, by decide⟩ (by decide +kernel) kw_920 kw_921 ⟨Nat.le_of_ble_eq_true rfl, Nat.le_of_ble_eq_true rfl, by show _ ≤ 6000; omega, by show _ ≤ 36000; omega⟩ rfl (Nat.le_of_ble_eq_true rfl) dL_isWritten_242 rfl (fun v812 i813 r814 hv815 hi816 hw817 hq818 => ?_)
                      have h := hq818
                      refine V.ks (kc2 := ((k_187 + 3) + 3)) (sl2 := 6 * ((k_187 + 3) + 3)) (by omega) (by omega) ?_
                      refine V.pop (pc := 245) hG dL_isWritten_245 rfl ?_
                      refine V.aload_n (pc := 246) hG dL_isWritten_246 rfl 0 rfl ?_
                      refine V.bipush (pc := 247) hG dL_isWritten_247 (by decide) ?_
                      refine V.bipush (pc := 249) hG dL_isWritten_249 (by decide) ?_
                      refine V.aload_n (pc := 251) hG dL_isWritten_251 rfl 1 rfl ?_
                      refine V.sipush (pc := 252) hG dL_isWritten_252 (by decide) ?_
                      refine V.iload (pc := 255) hG dL_isWritten_255 3 rfl ?_
                      refine V.iadd (pc := 257) hG dL_isWritten_257 ?_
                      refine V.bipush (pc := 258) hG dL_isWritten_258 (by decide) ?_
                      obtain ⟨hk829, h⟩ := h
                      refine V.callSi (pc := 260) (As := [.ref b1, .int (sJ (wr (170 + x4_187))), .int (sJ 16)]) (stk := [.int (sJ 78), .int (sJ 7), .ref (sA Δ 0)]) hG (sm_L_pick l Δ hE1 ((sR_wr _)) ((sR_l rfl)) hi816 hw817 h) mY_L_pick kw_909 kw_910 ⟨Nat.le_of_ble_eq_true rfl, Nat.le_of_ble_eq_true rfl, by show _ ≤ 6000; omega, by show _ ≤ 36000; omega⟩ rfl (Nat.le_of_ble_eq_true rfl) dL_isWritten_260 rfl (fun v822 i823 r824 hv825 hi826 hw827 hq828 => ?_)
                      obtain ⟨e830, e831, h⟩ := hq828
                      subst e830
                      subst e831
                      refine V.aload_n (pc := 263) hG dL_isWritten_263 rfl 1 rfl ?_
                      refine V.sipush (pc := 264) hG dL_isWritten_264 (by decide) ?_
                      refine V.iload (pc := 267) hG dL_isWritten_267 3 rfl ?_
                      refine V.iadd (pc := 269) hG dL_isWritten_269 ?_
                      refine V.ldc (pc := 270) (x := 65536) hG kw_1715 dL_isWritten_270 ?_
                      obtain ⟨hk839, h⟩ := h
                      refine V.callSi (pc := 272) (As := [.ref b1, .int (sJ (wr (180 + x4_187))), .int (sJ 65536)]) (stk := [.int (sJ v822), .int (sJ 78), .int (sJ 7), .ref (sA Δ 0)]) hG (sm_L_pick l Δ hE1 ((sR_wr _)) ((sR_l rfl)) hi816 hw817 h) mY_L_pick kw_909 kw_910 ⟨Nat.le_of_ble_eq_true rfl, Nat.le_of_ble_eq_true rfl, by show _ ≤ 6000; omega, by show _ ≤ 36000; omega⟩ rfl (Nat.le_of_ble_eq_true rfl) dL_isWritten_272 rfl (fun v832 i833 r834 hv835 hi836 hw837 hq838 => ?_)
                      obtain ⟨e840, e841, h⟩ := hq838
                      subst e840
                      subst e841
                      obtain ⟨hk849, h⟩ := h
                      refine V.callSWi (pc := 275) (na := 5) (As := [.ref (sA Δ 0), .int (sJ 7), .int (sJ 78), .int (sJ v822), .int (sJ v832)]) (stk := []) hG (sm_L_deed l Δ ((sR_l rfl)) ((sR_l rfl)) hv825 hv835 hst hi816 hw817 h) kw_101 kl_L_deed ⟨by decide, by decide⟩ (by decide +kernel) kw_920 kw_921 ⟨Nat.le_of_ble_eq_true rfl, Nat.le_of_ble_eq_true rfl, by show _ ≤ 6000; omega, by show _ ≤ 36000; omega⟩ rfl (Nat.le_of_ble_eq_true rfl) dL_isWritten_275 rfl (fun v842 i843 r844 hv845 hi846 hw847 hq848 => ?_)
                      have h := hq848
                      refine V.ks (kc2 := (((k_187 + 3) + 3) + 3)) (sl2 := 6 * (((k_187 + 3) + 3) + 3)) (by omega) (by omega) ?_
                      refine V.pop (pc := 278) hG dL_isWritten_278 rfl ?_
                      refine V.iinc (pc := 279) (lv' := [(4, .int (sJ (wr (x4_187 + 1)))), (0, .ref (sA Δ 0)), (1, .ref b1), (3, .int (sJ x3_99))]) hG dL_isWritten_279 3 rfl (by decide) rfl ?_
                      refine V.goto (pc := 282) (tgt := 187) hG dL_isWritten_282 (by decide) ?_
                      refine V.pick [1, 2, 3, 0] rfl ?_
                      exact ih187 (wr (x4_187 + 1)) i843 r844 (((k_187 + 3) + 3) + 3) ((sR_wr _)) hi846 hw847 h
                refine V.pick [1, 2, 3, 0] rfl ?_
                exact lp187 n732 0 i_99 r_99 k_99 ((sR_l rfl)) hi_99 hw_99 h
              · have h := f731 c729
                clear t730 f731
                refine V.ldcS (pc := 106) (k := 3) (tx := "amgMN<>") hG (by decide) dL_isWritten_106 ?_
                refine V.iload (pc := 108) hG dL_isWritten_108 3 rfl ?_
                obtain ⟨hk913, h⟩ := h
                refine V.callVSi (pc := 110) (As := [.int (sJ x4_99)]) (stk := []) hG (sm_J0_charAt_5068e l Δ (by decide) hx4_99 hi_99 hw_99 h) mY_J0_charAt_5068e kw_1691 kw_1349 kw_1350 (by decide) rfl ⟨Nat.le_of_ble_eq_true rfl, Nat.le_of_ble_eq_true rfl, hk913, Nat.mul_le_mul_left 6 hk913⟩ rfl (Nat.le_of_ble_eq_true rfl) dL_isWritten_110 rfl (fun v852 i853 r854 hv855 hi856 hw857 hq858 => ?_)
                obtain ⟨e911, e912, h⟩ := hq858
                subst e911
                subst e912
                refine V.istore (pc := 113) (lv' := [(5, .int (sJ v852)), (0, .ref (sA Δ 0)), (1, .ref b1), (3, .int (sJ x3_99)), (4, .int (sJ x4_99))]) hG dL_isWritten_113 (by decide) rfl ?_
                refine V.iload_n (pc := 115) hG dL_isWritten_115 rfl 3 rfl ?_
                obtain ⟨t860, f861⟩ := h
                refine V.if_eq (pc := 116) (tgt := 176) hG hx3_99 dL_isWritten_116 (by decide) (fun c859 => ?_) (fun c859 => ?_)
                · have h := t860 c859
                  clear t860 f861
                  refine V.pick [1, 2, 4] rfl ?_
                  exact jn176 x4_99 i_99 r_99 k_99 hx4_99 hi_99 hw_99 h
                · have h := f861 c859
                  clear t860 f861
                  refine V.aload_n (pc := 119) hG dL_isWritten_119 rfl 1 rfl ?_
                  refine V.bipush (pc := 120) hG dL_isWritten_120 (by decide) ?_
                  refine V.iload (pc := 122) hG dL_isWritten_122 0 rfl ?_
                  refine V.iconst (pc := 124) hG dL_isWritten_124 ?_
                  refine V.aload_n (pc := 125) hG dL_isWritten_125 rfl 2 rfl ?_
                  refine V.iconst (pc := 126) hG dL_isWritten_126 ?_
                  refine V.iload (pc := 127) hG dL_isWritten_127 4 rfl ?_
                  refine V.iadd (pc := 129) hG dL_isWritten_129 ?_
                  refine V.iconst (pc := 130) hG dL_isWritten_130 ?_
                  obtain ⟨hk869, h⟩ := h
                  refine V.callSi (pc := 131) (As := [.ref b1, .int (sJ (wr (2 + x4_99))), .int (sJ 3)]) (stk := [.int (sJ 1), .int (sJ v852), .int (sJ 9), .ref (sA Δ 0)]) hG (sm_L_pick l Δ hE1 ((sR_wr _)) ((sR_l rfl)) hi_99 hw_99 h) mY_L_pick kw_909 kw_910 ⟨Nat.le_of_ble_eq_true rfl, Nat.le_of_ble_eq_true rfl, by show _ ≤ 6000; omega, by show _ ≤ 36000; omega⟩ rfl (Nat.le_of_ble_eq_true rfl) dL_isWritten_131 rfl (fun v862 i863 r864 hv865 hi866 hw867 hq868 => ?_)
                  obtain ⟨e870, e871, h⟩ := hq868
                  subst e870
                  subst e871
                  refine V.iadd (pc := 134) hG dL_isWritten_134 ?_
                  obtain ⟨hk879, h⟩ := h
                  refine V.mcallSi (pc := 135) (As := [.ref (sA Δ 0), .int (sJ 9), .int (sJ v852), .int (sJ (wr (1 + v862)))]) (stk := []) hG (sm_L_ask l Δ ((sR_l rfl)) hv855 ((sR_wr _)) hst hi_99 hw_99 h) mY_L_ask kw_917 kw_918 ⟨Nat.le_of_ble_eq_true rfl, Nat.le_of_ble_eq_true rfl, by show _ ≤ 6000; omega, by show _ ≤ 36000; omega⟩ rfl (Nat.le_of_ble_eq_true rfl) dL_isWritten_135 rfl (fun v872 i873 r874 hv875 hi876 hw877 hq878 => ?_)
                  have h := hq878
                  refine V.ks (kc2 := (k_99 + 3)) (sl2 := 6 * (k_99 + 3)) (by omega) (by omega) ?_
                  refine V.iconst (pc := 138) hG dL_isWritten_138 ?_
                  obtain ⟨f884, t883⟩ := h
                  refine V.icmp_ne (pc := 139) (tgt := 176) hG hv875 ((sR_l rfl)) dL_isWritten_139 (by decide) (fun c882 => ?_) (fun c882 => ?_)
                  · have h := t883 c882
                    clear t883 f884
                    refine V.pick [1, 2, 4] rfl ?_
                    exact jn176 x4_99 i873 r874 (k_99 + 3) hx4_99 hi876 hw877 h
                  · have h := f884 c882
                    clear t883 f884
                    refine V.iload (pc := 142) hG dL_isWritten_142 4 rfl ?_
                    refine V.iconst (pc := 144) hG dL_isWritten_144 ?_
                    obtain ⟨t886, f887⟩ := h
                    refine V.icmp_gt (pc := 145) (tgt := 172) hG hx4_99 ((sR_l rfl)) dL_isWritten_145 (by decide) (fun c885 => ?_) (fun c885 => ?_)
                    · have h := t886 c885
                      clear t886 f887
                      refine V.pick [1, 2, 4] rfl ?_
                      exact jn172 x4_99 i873 r874 (k_99 + 3) hx4_99 hi876 hw877 h
                    · have h := f887 c885
                      clear t886 f887
                      refine V.aload_n (pc := 148) hG dL_isWritten_148 rfl 1 rfl ?_
                      refine V.bipush (pc := 149) hG dL_isWritten_149 (by decide) ?_
                      refine V.iload (pc := 151) hG dL_isWritten_151 0 rfl ?_
                      refine V.iconst (pc := 153) hG dL_isWritten_153 ?_
                      refine V.aload_n (pc := 154) hG dL_isWritten_154 rfl 2 rfl ?_
                      refine V.bipush (pc := 155) hG dL_isWritten_155 (by decide) ?_
                      refine V.iload (pc := 157) hG dL_isWritten_157 4 rfl ?_
                      refine V.iadd (pc := 159) hG dL_isWritten_159 ?_
                      refine V.iconst (pc := 160) hG dL_isWritten_160 ?_
                      obtain ⟨hk895, h⟩ := h
                      refine V.callSi (pc := 161) (As := [.ref b1, .int (sJ (wr (9 + x4_99))), .int (sJ 2)]) (stk := [.int (sJ 1), .int (sJ v852), .int (sJ 8), .ref (sA Δ 0)]) hG (sm_L_pick l Δ hE1 ((sR_wr _)) ((sR_l rfl)) hi876 hw877 h) mY_L_pick kw_909 kw_910 ⟨Nat.le_of_ble_eq_true rfl, Nat.le_of_ble_eq_true rfl, by show _ ≤ 6000; omega, by show _ ≤ 36000; omega⟩ rfl (Nat.le_of_ble_eq_true rfl) dL_isWritten_161 rfl (fun v888 i889 r890 hv891 hi892 hw893 hq894 => ?_)
                      obtain ⟨e896, e897, h⟩ := hq894
                      subst e896
                      subst e897
                      refine V.iadd (pc := 164) hG dL_isWritten_164 ?_
                      obtain ⟨hk905, h⟩ := h
                      refine V.mcallSi (pc := 165) (As := [.ref (sA Δ 0), .int (sJ 8), .int (sJ v852), .int (sJ (wr (1 + v888)))]) (stk := []) hG (sm_L_ask l Δ ((sR_l rfl)) hv855 ((sR_wr _)) hst hi876 hw877 h) mY_L_ask kw_917 kw_918 ⟨Nat.le_of_ble_eq_true rfl, Nat.le_of_ble_eq_true rfl, by show _ ≤ 6000; omega, by show _ ≤ 36000; omega⟩ rfl (Nat.le_of_ble_eq_true rfl) dL_isWritten_165 rfl (fun v898 i899 r900 hv901 hi902 hw903 hq904 => ?_)
                      have h := hq904
                      refine V.ks (kc2 := ((k_99 + 3) + 3)) (sl2 := 6 * ((k_99 + 3) + 3)) (by omega) (by omega) ?_
                      refine V.iconst (pc := 168) hG dL_isWritten_168 ?_
                      obtain ⟨f910, t909⟩ := h
                      refine V.icmp_ne (pc := 169) (tgt := 176) hG hv901 ((sR_l rfl)) dL_isWritten_169 (by decide) (fun c908 => ?_) (fun c908 => ?_)
                      · have h := t909 c908
                        clear t909 f910
                        refine V.pick [1, 2, 4] rfl ?_
                        exact jn176 x4_99 i899 r900 ((k_99 + 3) + 3) hx4_99 hi902 hw903 h
                      · have h := f910 c908
                        clear t909 f910
                        refine V.pick [1, 2, 4] rfl ?_
                        exact jn172 x4_99 i899 r900 ((k_99 + 3) + 3) hx4_99 hi902 hw903 h
          refine V.pick [1, 2, 4, 0] rfl ?_
          exact lp99 n728 x3_51 0 i_51 r_51 k_51 hx3_51 ((sR_l rfl)) hi_51 hw_51 h
        · have h := f727 c725
          clear t726 f727
          refine V.iload_n (pc := 57) hG dL_isWritten_57 rfl 3 rfl ?_
          obtain ⟨t915, f916⟩ := h
          refine V.if_eq (pc := 58) (tgt := 88) hG hx3_51 dL_isWritten_58 (by decide) (fun c914 => ?_) (fun c914 => ?_)
          · have h := t915 c914
            clear t915 f916
            refine V.pick [0, 1, 2, 4] rfl ?_
            exact jn88 x4_51 i_51 r_51 k_51 hx4_51 hi_51 hw_51 h
          · have h := f916 c914
            clear t915 f916
            refine V.aload_n (pc := 61) hG dL_isWritten_61 rfl 0 rfl ?_
            refine V.aload_n (pc := 62) hG dL_isWritten_62 rfl 1 rfl ?_
            refine V.bipush (pc := 63) hG dL_isWritten_63 (by decide) ?_
            refine V.bipush (pc := 65) hG dL_isWritten_65 (by decide) ?_
            refine V.iload (pc := 67) hG dL_isWritten_67 4 rfl ?_
            refine V.imul (pc := 69) hG dL_isWritten_69 ?_
            refine V.iadd (pc := 70) hG dL_isWritten_70 ?_
            obtain ⟨hk924, g928, g929, h⟩ := h
            refine V.callStm (pc := 71) (stk := [.ref (sA Δ 0)]) hG hE1 hTD hnb ⟨g928, g929⟩ mY_L_statement kw_1435 kw_1436 ⟨Nat.le_of_ble_eq_true rfl, Nat.le_of_ble_eq_true rfl, by show _ ≤ 6000; omega, by show _ ≤ 36000; omega⟩ (Nat.le_of_ble_eq_true rfl) dL_isWritten_71 (fun a930 w931 => ?_)
            refine V.mcallSi (pc := 74) (Δ := eAnd Δ (SK (sFr Δ) (sS0 Δ) a930 w931 (stmT L1 xs1 (wr (20 + wr (20 * x4_51)))).length (lstF (stmT L1 xs1 (wr (20 + wr (20 * x4_51))))))) (As := [.ref (sA Δ 0), .ref a930]) (stk := []) (hG.and stab.SK) (sm_L_add l (eAnd Δ (SK (sFr Δ) (sS0 Δ) a930 w931 (stmT L1 xs1 (wr (20 + wr (20 * x4_51)))).length (lstF (stmT L1 xs1 (wr (20 + wr (20 * x4_51))))))) (ES.mk (lstF_ok (stmT_ok _ _ _)) (stmT_len _ _ _)) hst hi_51 hw_51 h) mY_L_add kw_1703 kw_1704 ⟨Nat.le_of_ble_eq_true rfl, Nat.le_of_ble_eq_true rfl, by show _ ≤ 6000; omega, by show _ ≤ 36000; omega⟩ rfl (Nat.le_of_ble_eq_true rfl) dL_isWritten_74 rfl (fun v917 i918 r919 hv920 hi921 hw922 hq923 => ?_)
            refine V.drop ?_
            refine V.ks (kc2 := k_51 + 690) (sl2 := 6 * (k_51 + 690)) (by omega) (by omega) ?_
            have h := hq923
            refine V.iload (pc := 77) hG dL_isWritten_77 4 rfl ?_
            refine V.iconst (pc := 79) hG dL_isWritten_79 ?_
            refine V.iadd (pc := 80) hG dL_isWritten_80 ?_
            obtain ⟨f927, t926⟩ := h
            refine V.icmp_ne (pc := 81) (tgt := 88) hG hv920 ((sR_wr _)) dL_isWritten_81 (by decide) (fun c925 => ?_) (fun c925 => ?_)
            · have h := t926 c925
              clear t926 f927
              refine V.pick [0, 1, 2, 4] rfl ?_
              exact jn88 x4_51 i918 r919 (k_51 + 690) hx4_51 hi921 hw922 h
            · have h := f927 c925
              clear t926 f927
              refine V.iconst (pc := 84) hG dL_isWritten_84 ?_
              refine V.goto (pc := 85) (tgt := 89) hG dL_isWritten_85 (by decide) ?_
              refine V.pick [0, 1, 2, 4] rfl ?_
              exact jn89 x4_51 1 i918 r919 (k_51 + 690) hx4_51 ((sR_l rfl)) hi921 hw922 h
    refine V.pick [2, 3, 4, 1, 0] rfl ?_
    exact lp51 n724 k0j47 0 ij47 rj47 kj47 hk0j47 ((sR_l rfl)) hij47 hwj47 h
  have jn46 : ∀ (x2j46 : Int) (ij46 : MI) (rj46 : MI) (kj46 : Nat), sR x2j46 → okI ij46 → Wf rj46 → s46_L_isWritten x2j46 ij46 rj46 kj46 L1 xs1 Q → V Γ Δ 504 false ij46 rj46 kj46 (6 * kj46) Q0 46 [(0, .ref (sA Δ 0)), (1, .ref b1), (2, .int (sJ x2j46))] [] := by
    intro x2j46 ij46 rj46 kj46 hx2j46 hij46 hwj46 h
    refine V.iconst (pc := 46) hG dL_isWritten_46 ?_
    exact jn47 x2j46 0 ij46 rj46 kj46 hx2j46 ((sR_l rfl)) hij46 hwj46 h
  refine V.iconst (pc := 0) hG dL_isWritten_0 ?_
  refine V.aload_n (pc := 1) hG dL_isWritten_1 rfl 1 rfl ?_
  refine V.iconst (pc := 2) hG dL_isWritten_2 ?_
  refine V.iconst (pc := 3) hG dL_isWritten_3 ?_
  obtain ⟨hk939, h⟩ := h
  refine V.callSi (pc := 4) (As := [.ref b1, .int (sJ 0), .int (sJ 4)]) (stk := [.int (sJ 2)]) hG (sm_L_pick l Δ hE1 ((sR_l rfl)) ((sR_l rfl)) hi hw h) mY_L_pick kw_909 kw_910 ⟨Nat.le_of_ble_eq_true rfl, Nat.le_of_ble_eq_true rfl, by show _ ≤ 6000; omega, by show _ ≤ 36000; omega⟩ rfl (Nat.le_of_ble_eq_true rfl) dL_isWritten_4 rfl (fun v932 i933 r934 hv935 hi936 hw937 hq938 => ?_)
  obtain ⟨e940, e941, h⟩ := hq938
  subst e940
  subst e941
  refine V.iadd (pc := 7) hG dL_isWritten_7 ?_
  refine V.istore_n (pc := 8) (lv' := [(2, .int (sJ (wr (2 + v932)))), (0, .ref (sA Δ 0)), (1, .ref b1)]) hG dL_isWritten_8 rfl (by decide) rfl ?_
  refine V.aload_n (pc := 9) hG dL_isWritten_9 rfl 1 rfl ?_
  refine V.iconst (pc := 10) hG dL_isWritten_10 ?_
  refine V.bipush (pc := 11) hG dL_isWritten_11 (by decide) ?_
  refine V.iconst (pc := 13) hG dL_isWritten_13 ?_
  obtain ⟨hk949, h⟩ := h
  refine V.mcallSi (pc := 14) (As := [.ref (sA Δ 0), .int (sJ 3), .int (sJ 6), .int (sJ 0)]) (stk := []) hG (sm_L_ask l Δ ((sR_l rfl)) ((sR_l rfl)) ((sR_l rfl)) hst hi hw h) mY_L_ask kw_917 kw_918 ⟨Nat.le_of_ble_eq_true rfl, Nat.le_of_ble_eq_true rfl, by show _ ≤ 6000; omega, by show _ ≤ 36000; omega⟩ rfl (Nat.le_of_ble_eq_true rfl) dL_isWritten_14 rfl (fun v942 i943 r944 hv945 hi946 hw947 hq948 => ?_)
  have h := hq948
  refine V.ks (kc2 := (0 + 3)) (sl2 := 6 * (0 + 3)) (by omega) (by omega) ?_
  refine V.bipush (pc := 17) hG dL_isWritten_17 (by decide) ?_
  obtain ⟨f954, t953⟩ := h
  refine V.icmp_ne (pc := 19) (tgt := 46) hG hv945 ((sR_l rfl)) dL_isWritten_19 (by decide) (fun c952 => ?_) (fun c952 => ?_)
  · have h := t953 c952
    clear t953 f954
    refine V.pick [1, 2, 0] rfl ?_
    exact jn46 (wr (2 + v932)) i943 r944 (0 + 3) ((sR_wr _)) hi946 hw947 h
  · have h := f954 c952
    clear t953 f954
    refine V.aload_n (pc := 22) hG dL_isWritten_22 rfl 1 rfl ?_
    refine V.iconst (pc := 23) hG dL_isWritten_23 ?_
    refine V.iconst (pc := 24) hG dL_isWritten_24 ?_
    refine V.aload_n (pc := 25) hG dL_isWritten_25 rfl 2 rfl ?_
    refine V.iconst (pc := 26) hG dL_isWritten_26 ?_
    refine V.bipush (pc := 27) hG dL_isWritten_27 (by decide) ?_
    obtain ⟨hk962, h⟩ := h
    refine V.callSi (pc := 29) (As := [.ref b1, .int (sJ 1), .int (sJ 12)]) (stk := [.int (sJ 1), .int (sJ 4), .ref (sA Δ 0)]) hG (sm_L_pick l Δ hE1 ((sR_l rfl)) ((sR_l rfl)) hi946 hw947 h) mY_L_pick kw_909 kw_910 ⟨Nat.le_of_ble_eq_true rfl, Nat.le_of_ble_eq_true rfl, by show _ ≤ 6000; omega, by show _ ≤ 36000; omega⟩ rfl (Nat.le_of_ble_eq_true rfl) dL_isWritten_29 rfl (fun v955 i956 r957 hv958 hi959 hw960 hq961 => ?_)
    obtain ⟨e963, e964, h⟩ := hq961
    subst e963
    subst e964
    refine V.iadd (pc := 32) hG dL_isWritten_32 ?_
    refine V.iconst (pc := 33) hG dL_isWritten_33 ?_
    obtain ⟨hk972, h⟩ := h
    refine V.mcallSi (pc := 34) (As := [.ref (sA Δ 0), .int (sJ 4), .int (sJ (wr (1 + v955))), .int (sJ 0)]) (stk := []) hG (sm_L_ask l Δ ((sR_l rfl)) ((sR_wr _)) ((sR_l rfl)) hst hi946 hw947 h) mY_L_ask kw_917 kw_918 ⟨Nat.le_of_ble_eq_true rfl, Nat.le_of_ble_eq_true rfl, by show _ ≤ 6000; omega, by show _ ≤ 36000; omega⟩ rfl (Nat.le_of_ble_eq_true rfl) dL_isWritten_34 rfl (fun v965 i966 r967 hv968 hi969 hw970 hq971 => ?_)
    have h := hq971
    refine V.ks (kc2 := ((0 + 3) + 3)) (sl2 := 6 * ((0 + 3) + 3)) (by omega) (by omega) ?_
    refine V.bipush (pc := 37) hG dL_isWritten_37 (by decide) ?_
    obtain ⟨f977, t976⟩ := h
    refine V.icmp_ne (pc := 39) (tgt := 46) hG hv968 ((sR_l rfl)) dL_isWritten_39 (by decide) (fun c975 => ?_) (fun c975 => ?_)
    · have h := t976 c975
      clear t976 f977
      refine V.pick [1, 2, 0] rfl ?_
      exact jn46 (wr (2 + v932)) i966 r967 ((0 + 3) + 3) ((sR_wr _)) hi969 hw970 h
    · have h := f977 c975
      clear t976 f977
      refine V.iconst (pc := 42) hG dL_isWritten_42 ?_
      refine V.goto (pc := 43) (tgt := 47) hG dL_isWritten_43 (by decide) ?_
      refine V.pick [1, 2, 0] rfl ?_
      exact jn47 (wr (2 + v932)) 1 i966 r967 ((0 + 3) + 3) ((sR_wr _)) ((sR_l rfl)) hi969 hw970 h
set_option maxRecDepth 100000 in
set_option maxHeartbeats 4000000 in
theorem sm_LK {l : Launch} {Γ : Cx} {Δ : Wd} {R : Room} {Q0 : State → Prop} {i r : MI} {b2 L2 : Nat} {xs2 : Int → Int} {b3 L3 : Nat} {xs3 : Int → Int} {b4 L4 : Nat} {xs4 : Int → Int} {b5 L5 : Nat} {xs5 : Int → Int} {p1 : Int} (hE2 : EA Δ b2 L2 xs2) (hE3 : EA Δ b3 L3 xs3) (hE4 : EA Δ b4 L4 xs4) (hE5 : EA Δ b5 L5 xs5) (hp1 : sR p1) {Q : Int → MI → MI → Prop} (hst : l.stackTraces = false) (hR : 30 ≤ R.frames ∧ 1000 ≤ R.locals ∧ 270000 ≤ R.cells ∧ 1620000 ≤ R.slots) (hG : okG Γ Δ l R cL_areKept "SchedularyLaw" 13)
    (fin : ∀ {pc : Nat} {lv : List (Nat × Value)} {x : Int} {i' r' : MI} {kc sl : Nat}, decode cL_areKept pc = .ok (.ireturn, 1) → sR x → narrow .boolean (.int (sJ x)) = .int (sJ x) → kc ≤ 270000 → sl ≤ 1620000 → okI i' → Wf r' → Q x i' r' → V Γ Δ 504 false i' r' kc sl Q0 pc lv [.int (sJ x)])
    (hi : okI i) (hw : Wf r) (h : wp_LK p1 i r L2 xs2 L3 xs3 L4 xs4 L5 xs5 Q) : V Γ Δ 504 false i r 1600 (6 * 1600) Q0 35 [(0, .ref (sA Δ 0)), (1, .int (sJ p1)), (2, .ref b2), (3, .ref b3), (4, .ref b4), (5, .ref b5)] [] := by
  have jn308 : ∀ (k0j308 : Int) (ij308 : MI) (rj308 : MI) (kj308 : Nat), sR k0j308 → okI ij308 → Wf rj308 → s308_LK k0j308 ij308 rj308 kj308 L2 xs2 L3 xs3 L4 xs4 L5 xs5 Q → V Γ Δ 504 false ij308 rj308 kj308 (6 * kj308) Q0 308 [] [.int (sJ k0j308)] := by
    intro k0j308 ij308 rj308 kj308 hk0j308 hij308 hwj308 h
    obtain ⟨hk4, h⟩ := h
    obtain ⟨g3, h⟩ := h
    exact fin dL_areKept_308 hk0j308 (nar_z g3) hk4 (Nat.mul_le_mul_left 6 hk4) hij308 hwj308 h
  have jn307 : ∀  (ij307 : MI) (rj307 : MI) (kj307 : Nat), okI ij307 → Wf rj307 → s307_LK ij307 rj307 kj307 L2 xs2 L3 xs3 L4 xs4 L5 xs5 Q → V Γ Δ 504 false ij307 rj307 kj307 (6 * kj307) Q0 307 [] [] := by
    intro ij307 rj307 kj307 hij307 hwj307 h
    refine V.iconst (pc := 307) hG dL_areKept_307 ?_
    exact jn308 0 ij307 rj307 kj307 ((sR_l rfl)) hij307 hwj307 h
  have jn258 : ∀ (x6j258 : Int) (x7j258 : Int) (x8j258 : Int) (ij258 : MI) (rj258 : MI) (kj258 : Nat), sR x6j258 → sR x7j258 → sR x8j258 → okI ij258 → Wf rj258 → s258_LK x6j258 x7j258 x8j258 ij258 rj258 kj258 L2 xs2 L3 xs3 L4 xs4 L5 xs5 Q → V Γ Δ 504 false ij258 rj258 kj258 (6 * kj258) Q0 258 [(0, .ref (sA Δ 0)), (4, .ref b4), (5, .ref b5), (6, .int (sJ x6j258)), (7, .int (sJ x7j258)), (8, .int (sJ x8j258))] [] := by
    intro x6j258 x7j258 x8j258 ij258 rj258 kj258 hx6j258 hx7j258 hx8j258 hij258 hwj258 h
    refine V.iload (pc := 258) hG dL_areKept_258 5 rfl ?_
    obtain ⟨t61, f62⟩ := h
    refine V.if_eq (pc := 260) (tgt := 307) hG hx8j258 dL_areKept_260 (by decide) (fun c60 => ?_) (fun c60 => ?_)
    · have h := t61 c60
      clear t61 f62
      refine V.pick [] rfl ?_
      exact jn307 ij258 rj258 kj258 hij258 hwj258 h
    · have h := f62 c60
      clear t61 f62
      refine V.iload (pc := 263) hG dL_areKept_263 4 rfl ?_
      refine V.aload_n (pc := 265) hG dL_areKept_265 rfl 0 rfl ?_
      obtain ⟨hk114, h⟩ := h
      refine V.callVi (pc := 266) (As := []) (stk := [.int (sJ x7j258)]) hG (sm_X11_edges l Δ  hij258 hwj258 h) mY_X11_edges kw_1745 kw_1746 kw_1747 a_0 (by decide) (q := (RX11, TX11, 11)) rfl rfl ⟨Nat.le_trans (Nat.le_of_ble_eq_true rfl) hR.1, Nat.le_trans (Nat.le_of_ble_eq_true rfl) hR.2.1, Nat.le_trans hk114 hR.2.2.1, Nat.le_trans (Nat.mul_le_mul_left 6 hk114) hR.2.2.2⟩ rfl (Nat.le_of_ble_eq_true rfl) dL_areKept_266 rfl (fun v63 i64 r65 hv66 hi67 hw68 hq69 => ?_)
      have h := hq69
      obtain ⟨f72, t71⟩ := h
      refine V.icmp_ne (pc := 269) (tgt := 307) hG hx7j258 hv66 dL_areKept_269 (by decide) (fun c70 => ?_) (fun c70 => ?_)
      · have h := t71 c70
        clear t71 f72
        refine V.pick [] rfl ?_
        exact jn307 i64 r65 kj258 hi67 hw68 h
      · have h := f72 c70
        clear t71 f72
        refine V.aload_n (pc := 272) hG dL_areKept_272 rfl 0 rfl ?_
        refine V.aload (pc := 273) hG dL_areKept_273 1 rfl ?_
        refine V.aload (pc := 275) hG dL_areKept_275 2 rfl ?_
        refine V.iload (pc := 277) hG dL_areKept_277 3 rfl ?_
        obtain ⟨hk80, h⟩ := h
        refine V.mcallSi (pc := 279) (As := [.ref (sA Δ 0), .ref b4, .ref b5, .int (sJ x6j258)]) (stk := []) hG (sm_L_areUnits l Δ hE4 hE5 hx6j258 hst hi67 hw68 h) mY_L_areUnits kw_1749 kw_1750 ⟨Nat.le_trans (Nat.le_of_ble_eq_true rfl) hR.1, Nat.le_trans (Nat.le_of_ble_eq_true rfl) hR.2.1, Nat.le_trans (by omega) hR.2.2.1, Nat.le_trans (by omega) hR.2.2.2⟩ rfl (Nat.le_of_ble_eq_true rfl) dL_areKept_279 rfl (fun v73 i74 r75 hv76 hi77 hw78 hq79 => ?_)
        have h := hq79
        refine V.ks (kc2 := (kj258 + 160000)) (sl2 := 6 * (kj258 + 160000)) (by omega) (by omega) ?_
        obtain ⟨t84, f85⟩ := h
        refine V.if_eq (pc := 282) (tgt := 307) hG hv76 dL_areKept_282 (by decide) (fun c83 => ?_) (fun c83 => ?_)
        · have h := t84 c83
          clear t84 f85
          refine V.pick [] rfl ?_
          exact jn307 i74 r75 (kj258 + 160000) hi77 hw78 h
        · have h := f85 c83
          clear t84 f85
          refine V.iload (pc := 285) hG dL_areKept_285 3 rfl ?_
          refine V.aload_n (pc := 287) hG dL_areKept_287 rfl 0 rfl ?_
          obtain ⟨hk111, h⟩ := h
          refine V.callVi (pc := 288) (As := []) (stk := [.int (sJ x6j258)]) hG (sm_X11_byRings l Δ  hi77 hw78 h) mY_X11_byRings kw_1767 kw_1768 kw_1769 a_0 (by decide) (q := (RX11, TX11, 11)) rfl rfl ⟨Nat.le_trans (Nat.le_of_ble_eq_true rfl) hR.1, Nat.le_trans (Nat.le_of_ble_eq_true rfl) hR.2.1, Nat.le_trans hk111 hR.2.2.1, Nat.le_trans (Nat.mul_le_mul_left 6 hk111) hR.2.2.2⟩ rfl (Nat.le_of_ble_eq_true rfl) dL_areKept_288 rfl (fun v86 i87 r88 hv89 hi90 hw91 hq92 => ?_)
          have h := hq92
          obtain ⟨t94, f95⟩ := h
          refine V.icmp_lt (pc := 291) (tgt := 307) hG hx6j258 hv89 dL_areKept_291 (by decide) (fun c93 => ?_) (fun c93 => ?_)
          · have h := t94 c93
            clear t94 f95
            refine V.pick [] rfl ?_
            exact jn307 i87 r88 (kj258 + 160000) hi90 hw91 h
          · have h := f95 c93
            clear t94 f95
            refine V.iload (pc := 294) hG dL_areKept_294 3 rfl ?_
            refine V.aload_n (pc := 296) hG dL_areKept_296 rfl 0 rfl ?_
            obtain ⟨hk108, h⟩ := h
            refine V.callVi (pc := 297) (As := []) (stk := [.int (sJ x6j258)]) hG (sm_X11_byUnits l Δ  hi90 hw91 h) mY_X11_byUnits kw_1763 kw_1764 kw_1765 a_0 (by decide) (q := (RX11, TX11, 11)) rfl rfl ⟨Nat.le_trans (Nat.le_of_ble_eq_true rfl) hR.1, Nat.le_trans (Nat.le_of_ble_eq_true rfl) hR.2.1, Nat.le_trans hk108 hR.2.2.1, Nat.le_trans (Nat.mul_le_mul_left 6 hk108) hR.2.2.2⟩ rfl (Nat.le_of_ble_eq_true rfl) dL_areKept_297 rfl (fun v96 i97 r98 hv99 hi100 hw101 hq102 => ?_)
            have h := hq102
            obtain ⟨t104, f105⟩ := h
            refine V.icmp_lt (pc := 300) (tgt := 307) hG hx6j258 hv99 dL_areKept_300 (by decide) (fun c103 => ?_) (fun c103 => ?_)
            · have h := t104 c103
              clear t104 f105
              refine V.pick [] rfl ?_
              exact jn307 i97 r98 (kj258 + 160000) hi100 hw101 h
            · have h := f105 c103
              clear t104 f105
              refine V.iconst (pc := 303) hG dL_areKept_303 ?_
              refine V.goto (pc := 304) (tgt := 308) hG dL_areKept_304 (by decide) ?_
              refine V.pick [] rfl ?_
              exact jn308 1 i97 r98 (kj258 + 160000) ((sR_l rfl)) hi100 hw101 h
  refine V.aload_n (pc := 35) hG dL_areKept_35 rfl 0 rfl ?_
  obtain ⟨hk499, h⟩ := h
  refine V.callVi (pc := 36) (As := []) (stk := []) hG (sm_X11_interval l Δ  hi hw h) mY_X11_interval kw_1741 kw_1742 kw_1743 a_0 (by decide) (q := (RX11, TX11, 11)) rfl rfl ⟨Nat.le_trans (Nat.le_of_ble_eq_true rfl) hR.1, Nat.le_trans (Nat.le_of_ble_eq_true rfl) hR.2.1, Nat.le_trans hk499 hR.2.2.1, Nat.le_trans (Nat.mul_le_mul_left 6 hk499) hR.2.2.2⟩ rfl (Nat.le_of_ble_eq_true rfl) dL_areKept_36 rfl (fun v115 i116 r117 hv118 hi119 hw120 hq121 => ?_)
  have h := hq121
  refine V.istore (pc := 39) (lv' := [(6, .int (sJ v115)), (0, .ref (sA Δ 0)), (1, .int (sJ p1)), (2, .ref b2), (3, .ref b3), (4, .ref b4), (5, .ref b5)]) hG dL_areKept_39 (by decide) rfl ?_
  refine V.iconst (pc := 41) hG dL_areKept_41 ?_
  refine V.istore (pc := 42) (lv' := [(7, .int (sJ 0)), (6, .int (sJ v115)), (0, .ref (sA Δ 0)), (1, .int (sJ p1)), (2, .ref b2), (3, .ref b3), (4, .ref b4), (5, .ref b5)]) hG dL_areKept_42 (by decide) rfl ?_
  refine V.iconst (pc := 44) hG dL_areKept_44 ?_
  refine V.istore (pc := 45) (lv' := [(8, .int (sJ 1)), (7, .int (sJ 0)), (6, .int (sJ v115)), (0, .ref (sA Δ 0)), (1, .int (sJ p1)), (2, .ref b2), (3, .ref b3), (4, .ref b4), (5, .ref b5)]) hG dL_areKept_45 (by decide) rfl ?_
  refine V.iconst (pc := 47) hG dL_areKept_47 ?_
  refine V.istore (pc := 48) (lv' := [(9, .int (sJ 0)), (8, .int (sJ 1)), (7, .int (sJ 0)), (6, .int (sJ v115)), (0, .ref (sA Δ 0)), (1, .int (sJ p1)), (2, .ref b2), (3, .ref b3), (4, .ref b4), (5, .ref b5)]) hG dL_areKept_48 (by decide) rfl ?_
  obtain ⟨n331, h⟩ := h
  have lp50 : ∀ (m50 : Nat) (x7_50 : Int) (x8_50 : Int) (x9_50 : Int) (i_50 : MI) (r_50 : MI) (k_50 : Nat), sR x7_50 → sR x8_50 → sR x9_50 → okI i_50 → Wf r_50 → LoopP (b50_LK p1 v115 L2 xs2 L3 xs3 L4 xs4 L5 xs5 Q) m50 (x7_50, x8_50, x9_50, i_50, r_50, k_50) → V Γ Δ 504 false i_50 r_50 k_50 (6 * k_50) Q0 50 [(0, .ref (sA Δ 0)), (1, .int (sJ p1)), (2, .ref b2), (3, .ref b3), (4, .ref b4), (5, .ref b5), (6, .int (sJ v115)), (7, .int (sJ x7_50)), (8, .int (sJ x8_50)), (9, .int (sJ x9_50))] [] := by
    intro m50
    induction m50 with
    | zero => intro x7_50 x8_50 x9_50 i_50 r_50 k_50 hx7_50 hx8_50 hx9_50 hi_50 hw_50 h; exact h.elim
    | succ m50 ih50 =>
      intro x7_50 x8_50 x9_50 i_50 r_50 k_50 hx7_50 hx8_50 hx9_50 hi_50 hw_50 h
      have h := LoopP_succ h
      have jn100 : ∀ (x7j100 : Int) (x9j100 : Int) (k0j100 : Int) (ij100 : MI) (rj100 : MI) (kj100 : Nat), sR x7j100 → sR x9j100 → sR k0j100 → okI ij100 → Wf rj100 → s100_LK p1 v115 x7j100 x9j100 k0j100 ij100 rj100 kj100 L2 xs2 L3 xs3 L4 xs4 L5 xs5 Q (LoopP (b50_LK p1 v115 L2 xs2 L3 xs3 L4 xs4 L5 xs5 Q) m50) → V Γ Δ 504 false ij100 rj100 kj100 (6 * kj100) Q0 100 [(0, .ref (sA Δ 0)), (1, .int (sJ p1)), (2, .ref b2), (3, .ref b3), (4, .ref b4), (5, .ref b5), (6, .int (sJ v115)), (7, .int (sJ x7j100)), (9, .int (sJ x9j100))] [.int (sJ k0j100)] := by
        intro x7j100 x9j100 k0j100 ij100 rj100 kj100 hx7j100 hx9j100 hk0j100 hij100 hwj100 h
        refine V.istore (pc := 100) (lv' := [(8, .int (sJ k0j100)), (0, .ref (sA Δ 0)), (1, .int (sJ p1)), (2, .ref b2), (3, .ref b3), (4, .ref b4), (5, .ref b5), (6, .int (sJ v115)), (7, .int (sJ x7j100)), (9, .int (sJ x9j100))]) hG dL_areKept_100 (by decide) rfl ?_
        refine V.iconst (pc := 102) hG dL_areKept_102 ?_
        refine V.istore (pc := 103) (lv' := [(10, .int (sJ 0)), (8, .int (sJ k0j100)), (0, .ref (sA Δ 0)), (1, .int (sJ p1)), (2, .ref b2), (3, .ref b3), (4, .ref b4), (5, .ref b5), (6, .int (sJ v115)), (7, .int (sJ x7j100)), (9, .int (sJ x9j100))]) hG dL_areKept_103 (by decide) rfl ?_
        obtain ⟨n403, h⟩ := h
        have lp105 : ∀ (m105 : Nat) (x7_105 : Int) (x8_105 : Int) (x10_105 : Int) (i_105 : MI) (r_105 : MI) (k_105 : Nat), sR x7_105 → sR x8_105 → sR x10_105 → okI i_105 → Wf r_105 → LoopP (b105_LK p1 v115 x9j100 L2 xs2 L3 xs3 L4 xs4 L5 xs5 Q (LoopP (b50_LK p1 v115 L2 xs2 L3 xs3 L4 xs4 L5 xs5 Q) m50)) m105 (x7_105, x8_105, x10_105, i_105, r_105, k_105) → V Γ Δ 504 false i_105 r_105 k_105 (6 * k_105) Q0 105 [(0, .ref (sA Δ 0)), (1, .int (sJ p1)), (2, .ref b2), (3, .ref b3), (4, .ref b4), (5, .ref b5), (6, .int (sJ v115)), (7, .int (sJ x7_105)), (8, .int (sJ x8_105)), (9, .int (sJ x9j100)), (10, .int (sJ x10_105))] [] := by
          intro m105
          induction m105 with
          | zero => intro x7_105 x8_105 x10_105 i_105 r_105 k_105 hx7_105 hx8_105 hx10_105 hi_105 hw_105 h; exact h.elim
          | succ m105 ih105 =>
            intro x7_105 x8_105 x10_105 i_105 r_105 k_105 hx7_105 hx8_105 hx10_105 hi_105 hw_105 h
            have h := LoopP_succ h
            refine V.iload (pc := 105) hG dL_areKept_105 10 rfl ?_
            refine V.iload_n (pc := 107) hG dL_areKept_107 rfl 1 rfl ?_
            obtain ⟨t405, f406⟩ := h
            refine V.icmp_ge (pc := 108) (tgt := 252) hG hx10_105 hp1 dL_areKept_108 (by decide) (fun c404 => ?_) (fun c404 => ?_)
            · have h := t405 c404
              clear t405 f406
              refine V.iinc (pc := 252) (lv' := [(9, .int (sJ (wr (x9j100 + 1)))), (0, .ref (sA Δ 0)), (1, .int (sJ p1)), (2, .ref b2), (3, .ref b3), (4, .ref b4), (5, .ref b5), (6, .int (sJ v115)), (7, .int (sJ x7_105)), (8, .int (sJ x8_105)), (10, .int (sJ x10_105))]) hG dL_areKept_252 9 rfl (by decide) rfl ?_
              refine V.goto (pc := 255) (tgt := 50) hG dL_areKept_255 (by decide) ?_
              refine V.pick [1, 2, 3, 4, 5, 6, 7, 8, 9, 0] rfl ?_
              exact ih50 x7_105 x8_105 (wr (x9j100 + 1)) i_105 r_105 k_105 hx7_105 hx8_105 ((sR_wr _)) hi_105 hw_105 h
            · have h := f406 c404
              clear t405 f406
              refine V.iconst (pc := 111) hG dL_areKept_111 ?_
              refine V.istore (pc := 112) (lv' := [(11, .int (sJ 0)), (0, .ref (sA Δ 0)), (1, .int (sJ p1)), (2, .ref b2), (3, .ref b3), (4, .ref b4), (5, .ref b5), (6, .int (sJ v115)), (7, .int (sJ x7_105)), (8, .int (sJ x8_105)), (9, .int (sJ x9j100)), (10, .int (sJ x10_105))]) hG dL_areKept_112 (by decide) rfl ?_
              obtain ⟨n407, h⟩ := h
              have lp114 : ∀ (m114 : Nat) (x7_114 : Int) (x8_114 : Int) (x11_114 : Int) (i_114 : MI) (r_114 : MI) (k_114 : Nat), sR x7_114 → sR x8_114 → sR x11_114 → okI i_114 → Wf r_114 → LoopP (b114_LK p1 v115 x9j100 x10_105 L2 xs2 L3 xs3 L4 xs4 L5 xs5 Q (LoopP (b50_LK p1 v115 L2 xs2 L3 xs3 L4 xs4 L5 xs5 Q) m50) (LoopP (b105_LK p1 v115 x9j100 L2 xs2 L3 xs3 L4 xs4 L5 xs5 Q (LoopP (b50_LK p1 v115 L2 xs2 L3 xs3 L4 xs4 L5 xs5 Q) m50)) m105)) m114 (x7_114, x8_114, x11_114, i_114, r_114, k_114) → V Γ Δ 504 false i_114 r_114 k_114 (6 * k_114) Q0 114 [(0, .ref (sA Δ 0)), (1, .int (sJ p1)), (2, .ref b2), (3, .ref b3), (4, .ref b4), (5, .ref b5), (6, .int (sJ v115)), (7, .int (sJ x7_114)), (8, .int (sJ x8_114)), (9, .int (sJ x9j100)), (10, .int (sJ x10_105)), (11, .int (sJ x11_114))] [] := by
                intro m114
                induction m114 with
                | zero => intro x7_114 x8_114 x11_114 i_114 r_114 k_114 hx7_114 hx8_114 hx11_114 hi_114 hw_114 h; exact h.elim
                | succ m114 ih114 =>
                  intro x7_114 x8_114 x11_114 i_114 r_114 k_114 hx7_114 hx8_114 hx11_114 hi_114 hw_114 h
                  have h := LoopP_succ h
                  have jn240 : ∀ (x7j240 : Int) (x8j240 : Int) (x11j240 : Int) (ij240 : MI) (rj240 : MI) (kj240 : Nat), sR x7j240 → sR x8j240 → sR x11j240 → okI ij240 → Wf rj240 → s240_LK p1 v115 x7j240 x8j240 x9j100 x10_105 x11j240 ij240 rj240 kj240 L2 xs2 L3 xs3 L4 xs4 L5 xs5 Q (LoopP (b50_LK p1 v115 L2 xs2 L3 xs3 L4 xs4 L5 xs5 Q) m50) (LoopP (b105_LK p1 v115 x9j100 L2 xs2 L3 xs3 L4 xs4 L5 xs5 Q (LoopP (b50_LK p1 v115 L2 xs2 L3 xs3 L4 xs4 L5 xs5 Q) m50)) m105) (LoopP (b114_LK p1 v115 x9j100 x10_105 L2 xs2 L3 xs3 L4 xs4 L5 xs5 Q (LoopP (b50_LK p1 v115 L2 xs2 L3 xs3 L4 xs4 L5 xs5 Q) m50) (LoopP (b105_LK p1 v115 x9j100 L2 xs2 L3 xs3 L4 xs4 L5 xs5 Q (LoopP (b50_LK p1 v115 L2 xs2 L3 xs3 L4 xs4 L5 xs5 Q) m50)) m105)) m114) → V Γ Δ 504 false ij240 rj240 kj240 (6 * kj240) Q0 240 [(0, .ref (sA Δ 0)), (1, .int (sJ p1)), (2, .ref b2), (3, .ref b3), (4, .ref b4), (5, .ref b5), (6, .int (sJ v115)), (7, .int (sJ x7j240)), (8, .int (sJ x8j240)), (9, .int (sJ x9j100)), (10, .int (sJ x10_105)), (11, .int (sJ x11j240))] [] := by
                    intro x7j240 x8j240 x11j240 ij240 rj240 kj240 hx7j240 hx8j240 hx11j240 hij240 hwj240 h
                    refine V.iinc (pc := 240) (lv' := [(11, .int (sJ (wr (x11j240 + 1)))), (0, .ref (sA Δ 0)), (1, .int (sJ p1)), (2, .ref b2), (3, .ref b3), (4, .ref b4), (5, .ref b5), (6, .int (sJ v115)), (7, .int (sJ x7j240)), (8, .int (sJ x8j240)), (9, .int (sJ x9j100)), (10, .int (sJ x10_105))]) hG dL_areKept_240 11 rfl (by decide) rfl ?_
                    refine V.goto (pc := 243) (tgt := 114) hG dL_areKept_243 (by decide) ?_
                    refine V.pick [1, 2, 3, 4, 5, 6, 7, 8, 9, 10, 11, 0] rfl ?_
                    exact ih114 x7j240 x8j240 (wr (x11j240 + 1)) ij240 rj240 kj240 hx7j240 hx8j240 ((sR_wr _)) hij240 hwj240 h
                  have jn238 : ∀ (x7j238 : Int) (x11j238 : Int) (k0j238 : Int) (ij238 : MI) (rj238 : MI) (kj238 : Nat), sR x7j238 → sR x11j238 → sR k0j238 → okI ij238 → Wf rj238 → s238_LK p1 v115 x7j238 x9j100 x10_105 x11j238 k0j238 ij238 rj238 kj238 L2 xs2 L3 xs3 L4 xs4 L5 xs5 Q (LoopP (b50_LK p1 v115 L2 xs2 L3 xs3 L4 xs4 L5 xs5 Q) m50) (LoopP (b105_LK p1 v115 x9j100 L2 xs2 L3 xs3 L4 xs4 L5 xs5 Q (LoopP (b50_LK p1 v115 L2 xs2 L3 xs3 L4 xs4 L5 xs5 Q) m50)) m105) (LoopP (b114_LK p1 v115 x9j100 x10_105 L2 xs2 L3 xs3 L4 xs4 L5 xs5 Q (LoopP (b50_LK p1 v115 L2 xs2 L3 xs3 L4 xs4 L5 xs5 Q) m50) (LoopP (b105_LK p1 v115 x9j100 L2 xs2 L3 xs3 L4 xs4 L5 xs5 Q (LoopP (b50_LK p1 v115 L2 xs2 L3 xs3 L4 xs4 L5 xs5 Q) m50)) m105)) m114) → V Γ Δ 504 false ij238 rj238 kj238 (6 * kj238) Q0 238 [(0, .ref (sA Δ 0)), (1, .int (sJ p1)), (2, .ref b2), (3, .ref b3), (4, .ref b4), (5, .ref b5), (6, .int (sJ v115)), (7, .int (sJ x7j238)), (9, .int (sJ x9j100)), (10, .int (sJ x10_105)), (11, .int (sJ x11j238))] [.int (sJ k0j238)] := by
                    intro x7j238 x11j238 k0j238 ij238 rj238 kj238 hx7j238 hx11j238 hk0j238 hij238 hwj238 h
                    refine V.istore (pc := 238) (lv' := [(8, .int (sJ k0j238)), (0, .ref (sA Δ 0)), (1, .int (sJ p1)), (2, .ref b2), (3, .ref b3), (4, .ref b4), (5, .ref b5), (6, .int (sJ v115)), (7, .int (sJ x7j238)), (9, .int (sJ x9j100)), (10, .int (sJ x10_105)), (11, .int (sJ x11j238))]) hG dL_areKept_238 (by decide) rfl ?_
                    refine V.pick [1, 2, 3, 4, 5, 6, 7, 8, 0, 9, 10, 11] rfl ?_
                    exact jn240 x7j238 k0j238 x11j238 ij238 rj238 kj238 hx7j238 hk0j238 hx11j238 hij238 hwj238 h
                  have jn237 : ∀ (x7j237 : Int) (x11j237 : Int) (ij237 : MI) (rj237 : MI) (kj237 : Nat), sR x7j237 → sR x11j237 → okI ij237 → Wf rj237 → s237_LK p1 v115 x7j237 x9j100 x10_105 x11j237 ij237 rj237 kj237 L2 xs2 L3 xs3 L4 xs4 L5 xs5 Q (LoopP (b50_LK p1 v115 L2 xs2 L3 xs3 L4 xs4 L5 xs5 Q) m50) (LoopP (b105_LK p1 v115 x9j100 L2 xs2 L3 xs3 L4 xs4 L5 xs5 Q (LoopP (b50_LK p1 v115 L2 xs2 L3 xs3 L4 xs4 L5 xs5 Q) m50)) m105) (LoopP (b114_LK p1 v115 x9j100 x10_105 L2 xs2 L3 xs3 L4 xs4 L5 xs5 Q (LoopP (b50_LK p1 v115 L2 xs2 L3 xs3 L4 xs4 L5 xs5 Q) m50) (LoopP (b105_LK p1 v115 x9j100 L2 xs2 L3 xs3 L4 xs4 L5 xs5 Q (LoopP (b50_LK p1 v115 L2 xs2 L3 xs3 L4 xs4 L5 xs5 Q) m50)) m105)) m114) → V Γ Δ 504 false ij237 rj237 kj237 (6 * kj237) Q0 237 [(0, .ref (sA Δ 0)), (1, .int (sJ p1)), (2, .ref b2), (3, .ref b3), (4, .ref b4), (5, .ref b5), (6, .int (sJ v115)), (7, .int (sJ x7j237)), (9, .int (sJ x9j100)), (10, .int (sJ x10_105)), (11, .int (sJ x11j237))] [] := by
                    intro x7j237 x11j237 ij237 rj237 kj237 hx7j237 hx11j237 hij237 hwj237 h
                    refine V.iconst (pc := 237) hG dL_areKept_237 ?_
                    exact jn238 x7j237 x11j237 0 ij237 rj237 kj237 hx7j237 hx11j237 ((sR_l rfl)) hij237 hwj237 h
                  have jn233 : ∀ (x7j233 : Int) (x11j233 : Int) (ij233 : MI) (rj233 : MI) (kj233 : Nat), sR x7j233 → sR x11j233 → okI ij233 → Wf rj233 → s233_LK p1 v115 x7j233 x9j100 x10_105 x11j233 ij233 rj233 kj233 L2 xs2 L3 xs3 L4 xs4 L5 xs5 Q (LoopP (b50_LK p1 v115 L2 xs2 L3 xs3 L4 xs4 L5 xs5 Q) m50) (LoopP (b105_LK p1 v115 x9j100 L2 xs2 L3 xs3 L4 xs4 L5 xs5 Q (LoopP (b50_LK p1 v115 L2 xs2 L3 xs3 L4 xs4 L5 xs5 Q) m50)) m105) (LoopP (b114_LK p1 v115 x9j100 x10_105 L2 xs2 L3 xs3 L4 xs4 L5 xs5 Q (LoopP (b50_LK p1 v115 L2 xs2 L3 xs3 L4 xs4 L5 xs5 Q) m50) (LoopP (b105_LK p1 v115 x9j100 L2 xs2 L3 xs3 L4 xs4 L5 xs5 Q (LoopP (b50_LK p1 v115 L2 xs2 L3 xs3 L4 xs4 L5 xs5 Q) m50)) m105)) m114) → V Γ Δ 504 false ij233 rj233 kj233 (6 * kj233) Q0 233 [(0, .ref (sA Δ 0)), (1, .int (sJ p1)), (2, .ref b2), (3, .ref b3), (4, .ref b4), (5, .ref b5), (6, .int (sJ v115)), (7, .int (sJ x7j233)), (9, .int (sJ x9j100)), (10, .int (sJ x10_105)), (11, .int (sJ x11j233))] [] := by
                    intro x7j233 x11j233 ij233 rj233 kj233 hx7j233 hx11j233 hij233 hwj233 h
                    refine V.iconst (pc := 233) hG dL_areKept_233 ?_
                    refine V.goto (pc := 234) (tgt := 238) hG dL_areKept_234 (by decide) ?_
                    exact jn238 x7j233 x11j233 1 ij233 rj233 kj233 hx7j233 hx11j233 ((sR_l rfl)) hij233 hwj233 h
                  have jn177 : ∀ (x7j177 : Int) (x11j177 : Int) (x12j177 : Int) (k0j177 : Int) (ij177 : MI) (rj177 : MI) (kj177 : Nat), sR x7j177 → sR x11j177 → sR x12j177 → sR k0j177 → okI ij177 → Wf rj177 → s177_LK p1 v115 x7j177 x9j100 x10_105 x11j177 x12j177 k0j177 ij177 rj177 kj177 L2 xs2 L3 xs3 L4 xs4 L5 xs5 Q (LoopP (b50_LK p1 v115 L2 xs2 L3 xs3 L4 xs4 L5 xs5 Q) m50) (LoopP (b105_LK p1 v115 x9j100 L2 xs2 L3 xs3 L4 xs4 L5 xs5 Q (LoopP (b50_LK p1 v115 L2 xs2 L3 xs3 L4 xs4 L5 xs5 Q) m50)) m105) (LoopP (b114_LK p1 v115 x9j100 x10_105 L2 xs2 L3 xs3 L4 xs4 L5 xs5 Q (LoopP (b50_LK p1 v115 L2 xs2 L3 xs3 L4 xs4 L5 xs5 Q) m50) (LoopP (b105_LK p1 v115 x9j100 L2 xs2 L3 xs3 L4 xs4 L5 xs5 Q (LoopP (b50_LK p1 v115 L2 xs2 L3 xs3 L4 xs4 L5 xs5 Q) m50)) m105)) m114) → V Γ Δ 504 false ij177 rj177 kj177 (6 * kj177) Q0 177 [(0, .ref (sA Δ 0)), (1, .int (sJ p1)), (2, .ref b2), (3, .ref b3), (4, .ref b4), (5, .ref b5), (6, .int (sJ v115)), (7, .int (sJ x7j177)), (9, .int (sJ x9j100)), (10, .int (sJ x10_105)), (11, .int (sJ x11j177)), (12, .int (sJ x12j177))] [.int (sJ k0j177)] := by
                    intro x7j177 x11j177 x12j177 k0j177 ij177 rj177 kj177 hx7j177 hx11j177 hx12j177 hk0j177 hij177 hwj177 h
                    refine V.istore (pc := 177) (lv' := [(8, .int (sJ k0j177)), (0, .ref (sA Δ 0)), (1, .int (sJ p1)), (2, .ref b2), (3, .ref b3), (4, .ref b4), (5, .ref b5), (6, .int (sJ v115)), (7, .int (sJ x7j177)), (9, .int (sJ x9j100)), (10, .int (sJ x10_105)), (11, .int (sJ x11j177)), (12, .int (sJ x12j177))]) hG dL_areKept_177 (by decide) rfl ?_
                    refine V.iload (pc := 179) hG dL_areKept_179 0 rfl ?_
                    obtain ⟨t430, f431⟩ := h
                    refine V.if_eq (pc := 181) (tgt := 237) hG hk0j177 dL_areKept_181 (by decide) (fun c429 => ?_) (fun c429 => ?_)
                    · have h := t430 c429
                      clear t430 f431
                      refine V.pick [1, 2, 3, 4, 5, 6, 7, 8, 9, 10, 11] rfl ?_
                      exact jn237 x7j177 x11j177 ij177 rj177 kj177 hx7j177 hx11j177 hij177 hwj177 h
                    · have h := f431 c429
                      clear t430 f431
                      refine V.iload (pc := 184) hG dL_areKept_184 11 rfl ?_
                      obtain ⟨t433, f434⟩ := h
                      refine V.if_gt (pc := 186) (tgt := 233) hG hx11j177 dL_areKept_186 (by decide) (fun c432 => ?_) (fun c432 => ?_)
                      · have h := t433 c432
                        clear t433 f434
                        refine V.pick [1, 2, 3, 4, 5, 6, 7, 8, 9, 10, 11] rfl ?_
                        exact jn233 x7j177 x11j177 ij177 rj177 kj177 hx7j177 hx11j177 hij177 hwj177 h
                      · have h := f434 c432
                        clear t433 f434
                        refine V.aload_n (pc := 189) hG dL_areKept_189 rfl 3 rfl ?_
                        refine V.iload (pc := 190) hG dL_areKept_190 10 rfl ?_
                        obtain ⟨g435, h⟩ := h
                        refine V.eald (pc := 192) hG hE2 hx10_105 g435 dL_areKept_192 ?_
                        refine V.aload_n (pc := 193) hG dL_areKept_193 rfl 3 rfl ?_
                        refine V.iload (pc := 194) hG dL_areKept_194 9 rfl ?_
                        obtain ⟨g436, h⟩ := h
                        refine V.eald (pc := 196) hG hE2 hx9j100 g436 dL_areKept_196 ?_
                        refine V.iload (pc := 197) hG dL_areKept_197 12 rfl ?_
                        refine V.iadd (pc := 199) hG dL_areKept_199 ?_
                        obtain ⟨t438, f439⟩ := h
                        refine V.icmp_lt (pc := 200) (tgt := 237) hG ((hE2.2.1 _)) ((sR_wr _)) dL_areKept_200 (by decide) (fun c437 => ?_) (fun c437 => ?_)
                        · have h := t438 c437
                          clear t438 f439
                          refine V.pick [1, 2, 3, 4, 5, 6, 7, 8, 9, 10, 11] rfl ?_
                          exact jn237 x7j177 x11j177 ij177 rj177 kj177 hx7j177 hx11j177 hij177 hwj177 h
                        · have h := f439 c437
                          clear t438 f439
                          refine V.aload_n (pc := 203) hG dL_areKept_203 rfl 4 rfl ?_
                          refine V.iload (pc := 204) hG dL_areKept_204 10 rfl ?_
                          obtain ⟨g440, h⟩ := h
                          refine V.eald (pc := 206) hG hE3 hx10_105 g440 dL_areKept_206 ?_
                          refine V.aload_n (pc := 207) hG dL_areKept_207 rfl 4 rfl ?_
                          refine V.iload (pc := 208) hG dL_areKept_208 9 rfl ?_
                          obtain ⟨g441, h⟩ := h
                          refine V.eald (pc := 210) hG hE3 hx9j100 g441 dL_areKept_210 ?_
                          refine V.iload (pc := 211) hG dL_areKept_211 12 rfl ?_
                          refine V.iadd (pc := 213) hG dL_areKept_213 ?_
                          obtain ⟨t443, f444⟩ := h
                          refine V.icmp_lt (pc := 214) (tgt := 237) hG ((hE3.2.1 _)) ((sR_wr _)) dL_areKept_214 (by decide) (fun c442 => ?_) (fun c442 => ?_)
                          · have h := t443 c442
                            clear t443 f444
                            refine V.pick [1, 2, 3, 4, 5, 6, 7, 8, 9, 10, 11] rfl ?_
                            exact jn237 x7j177 x11j177 ij177 rj177 kj177 hx7j177 hx11j177 hij177 hwj177 h
                          · have h := f444 c442
                            clear t443 f444
                            refine V.aload (pc := 217) hG dL_areKept_217 5 rfl ?_
                            refine V.iload (pc := 219) hG dL_areKept_219 10 rfl ?_
                            obtain ⟨g445, h⟩ := h
                            refine V.eald (pc := 221) hG hE4 hx10_105 g445 dL_areKept_221 ?_
                            refine V.aload (pc := 222) hG dL_areKept_222 5 rfl ?_
                            refine V.iload (pc := 224) hG dL_areKept_224 9 rfl ?_
                            obtain ⟨g446, h⟩ := h
                            refine V.eald (pc := 226) hG hE4 hx9j100 g446 dL_areKept_226 ?_
                            refine V.iload (pc := 227) hG dL_areKept_227 12 rfl ?_
                            refine V.iadd (pc := 229) hG dL_areKept_229 ?_
                            obtain ⟨t448, f449⟩ := h
                            refine V.icmp_lt (pc := 230) (tgt := 237) hG ((hE4.2.1 _)) ((sR_wr _)) dL_areKept_230 (by decide) (fun c447 => ?_) (fun c447 => ?_)
                            · have h := t448 c447
                              clear t448 f449
                              refine V.pick [1, 2, 3, 4, 5, 6, 7, 8, 9, 10, 11] rfl ?_
                              exact jn237 x7j177 x11j177 ij177 rj177 kj177 hx7j177 hx11j177 hij177 hwj177 h
                            · have h := f449 c447
                              clear t448 f449
                              refine V.pick [1, 2, 3, 4, 5, 6, 7, 8, 9, 10, 11] rfl ?_
                              exact jn233 x7j177 x11j177 ij177 rj177 kj177 hx7j177 hx11j177 hij177 hwj177 h
                  have jn176 : ∀ (x7j176 : Int) (x11j176 : Int) (x12j176 : Int) (ij176 : MI) (rj176 : MI) (kj176 : Nat), sR x7j176 → sR x11j176 → sR x12j176 → okI ij176 → Wf rj176 → s176_LK p1 v115 x7j176 x9j100 x10_105 x11j176 x12j176 ij176 rj176 kj176 L2 xs2 L3 xs3 L4 xs4 L5 xs5 Q (LoopP (b50_LK p1 v115 L2 xs2 L3 xs3 L4 xs4 L5 xs5 Q) m50) (LoopP (b105_LK p1 v115 x9j100 L2 xs2 L3 xs3 L4 xs4 L5 xs5 Q (LoopP (b50_LK p1 v115 L2 xs2 L3 xs3 L4 xs4 L5 xs5 Q) m50)) m105) (LoopP (b114_LK p1 v115 x9j100 x10_105 L2 xs2 L3 xs3 L4 xs4 L5 xs5 Q (LoopP (b50_LK p1 v115 L2 xs2 L3 xs3 L4 xs4 L5 xs5 Q) m50) (LoopP (b105_LK p1 v115 x9j100 L2 xs2 L3 xs3 L4 xs4 L5 xs5 Q (LoopP (b50_LK p1 v115 L2 xs2 L3 xs3 L4 xs4 L5 xs5 Q) m50)) m105)) m114) → V Γ Δ 504 false ij176 rj176 kj176 (6 * kj176) Q0 176 [(0, .ref (sA Δ 0)), (1, .int (sJ p1)), (2, .ref b2), (3, .ref b3), (4, .ref b4), (5, .ref b5), (6, .int (sJ v115)), (7, .int (sJ x7j176)), (9, .int (sJ x9j100)), (10, .int (sJ x10_105)), (11, .int (sJ x11j176)), (12, .int (sJ x12j176))] [] := by
                    intro x7j176 x11j176 x12j176 ij176 rj176 kj176 hx7j176 hx11j176 hx12j176 hij176 hwj176 h
                    refine V.iconst (pc := 176) hG dL_areKept_176 ?_
                    exact jn177 x7j176 x11j176 x12j176 0 ij176 rj176 kj176 hx7j176 hx11j176 hx12j176 ((sR_l rfl)) hij176 hwj176 h
                  refine V.iload (pc := 114) hG dL_areKept_114 11 rfl ?_
                  refine V.bipush (pc := 116) hG dL_areKept_116 (by decide) ?_
                  obtain ⟨t451, f452⟩ := h
                  refine V.icmp_ge (pc := 118) (tgt := 246) hG hx11_114 ((sR_l rfl)) dL_areKept_118 (by decide) (fun c450 => ?_) (fun c450 => ?_)
                  · have h := t451 c450
                    clear t451 f452
                    refine V.iinc (pc := 246) (lv' := [(10, .int (sJ (wr (x10_105 + 1)))), (0, .ref (sA Δ 0)), (1, .int (sJ p1)), (2, .ref b2), (3, .ref b3), (4, .ref b4), (5, .ref b5), (6, .int (sJ v115)), (7, .int (sJ x7_114)), (8, .int (sJ x8_114)), (9, .int (sJ x9j100)), (11, .int (sJ x11_114))]) hG dL_areKept_246 10 rfl (by decide) rfl ?_
                    refine V.goto (pc := 249) (tgt := 105) hG dL_areKept_249 (by decide) ?_
                    refine V.pick [1, 2, 3, 4, 5, 6, 7, 8, 9, 10, 0] rfl ?_
                    exact ih105 x7_114 x8_114 (wr (x10_105 + 1)) i_114 r_114 k_114 hx7_114 hx8_114 ((sR_wr _)) hi_114 hw_114 h
                  · have h := f452 c450
                    clear t451 f452
                    refine V.aload_n (pc := 121) hG dL_areKept_121 rfl 0 rfl ?_
                    refine V.bipush (pc := 122) hG dL_areKept_122 (by decide) ?_
                    refine V.iload (pc := 124) hG dL_areKept_124 9 rfl ?_
                    refine V.iload (pc := 126) hG dL_areKept_126 10 rfl ?_
                    refine V.iload (pc := 128) hG dL_areKept_128 11 rfl ?_
                    obtain ⟨hk460, h⟩ := h
                    refine V.callSWi (pc := 130) (na := 5) (As := [.ref (sA Δ 0), .int (sJ 25), .int (sJ x9j100), .int (sJ x10_105), .int (sJ x11_114)]) (stk := []) hG (sm_L_deed l Δ ((sR_l rfl)) hx9j100 hx10_105 hx11_114 hst hi_114 hw_114 h) kw_101 kl_L_deed ⟨by decide, by decide⟩ (by decide +kernel) kw_920 kw_921 ⟨Nat.le_trans (Nat.le_of_ble_eq_true rfl) hR.1, Nat.le_trans (Nat.le_of_ble_eq_true rfl) hR.2.1, Nat.le_trans (by omega) hR.2.2.1, Nat.le_trans (by omega) hR.2.2.2⟩ rfl (Nat.le_of_ble_eq_true rfl) dL_areKept_130 rfl (fun v453 i454 r455 hv456 hi457 hw458 hq459 => ?_)
                    have h := hq459
                    refine V.ks (kc2 := (k_114 + 3)) (sl2 := 6 * (k_114 + 3)) (by omega) (by omega) ?_
                    refine V.istore (pc := 133) (lv' := [(12, .int (sJ v453)), (0, .ref (sA Δ 0)), (1, .int (sJ p1)), (2, .ref b2), (3, .ref b3), (4, .ref b4), (5, .ref b5), (6, .int (sJ v115)), (7, .int (sJ x7_114)), (8, .int (sJ x8_114)), (9, .int (sJ x9j100)), (10, .int (sJ x10_105)), (11, .int (sJ x11_114))]) hG dL_areKept_133 (by decide) rfl ?_
                    refine V.iload (pc := 135) hG dL_areKept_135 0 rfl ?_
                    refine V.ldc (pc := 137) (x := (-200005)) hG kw_1433 dL_areKept_137 ?_
                    obtain ⟨t464, f465⟩ := h
                    refine V.icmp_eq (pc := 139) (tgt := 240) hG hv456 ((sR_l rfl)) dL_areKept_139 (by decide) (fun c463 => ?_) (fun c463 => ?_)
                    · have h := t464 c463
                      clear t464 f465
                      refine V.pick [1, 2, 3, 4, 5, 6, 7, 8, 9, 10, 11, 12] rfl ?_
                      exact jn240 x7_114 x8_114 x11_114 i454 r455 (k_114 + 3) hx7_114 hx8_114 hx11_114 hi457 hw458 h
                    · have h := f465 c463
                      clear t464 f465
                      refine V.iinc (pc := 142) (lv' := [(7, .int (sJ (wr (x7_114 + 1)))), (12, .int (sJ v453)), (0, .ref (sA Δ 0)), (1, .int (sJ p1)), (2, .ref b2), (3, .ref b3), (4, .ref b4), (5, .ref b5), (6, .int (sJ v115)), (8, .int (sJ x8_114)), (9, .int (sJ x9j100)), (10, .int (sJ x10_105)), (11, .int (sJ x11_114))]) hG dL_areKept_142 8 rfl (by decide) rfl ?_
                      refine V.iload (pc := 145) hG dL_areKept_145 9 rfl ?_
                      obtain ⟨t467, f468⟩ := h
                      refine V.if_eq (pc := 147) (tgt := 176) hG hx8_114 dL_areKept_147 (by decide) (fun c466 => ?_) (fun c466 => ?_)
                      · have h := t467 c466
                        clear t467 f468
                        refine V.pick [2, 3, 4, 5, 6, 7, 8, 0, 10, 11, 12, 1] rfl ?_
                        exact jn176 (wr (x7_114 + 1)) x11_114 v453 i454 r455 (k_114 + 3) ((sR_wr _)) hx11_114 hv456 hi457 hw458 h
                      · have h := f468 c466
                        clear t467 f468
                        refine V.aload (pc := 150) hG dL_areKept_150 7 rfl ?_
                        refine V.iload (pc := 152) hG dL_areKept_152 11 rfl ?_
                        obtain ⟨g469, h⟩ := h
                        refine V.eald (pc := 154) hG hE5 hx10_105 g469 dL_areKept_154 ?_
                        refine V.aload (pc := 155) hG dL_areKept_155 7 rfl ?_
                        refine V.iload (pc := 157) hG dL_areKept_157 10 rfl ?_
                        obtain ⟨g470, h⟩ := h
                        refine V.eald (pc := 159) hG hE5 hx9j100 g470 dL_areKept_159 ?_
                        refine V.iload (pc := 160) hG dL_areKept_160 1 rfl ?_
                        refine V.iadd (pc := 162) hG dL_areKept_162 ?_
                        refine V.iload (pc := 163) hG dL_areKept_163 8 rfl ?_
                        refine V.iload (pc := 165) hG dL_areKept_165 12 rfl ?_
                        refine V.imul (pc := 167) hG dL_areKept_167 ?_
                        refine V.isub (pc := 168) hG dL_areKept_168 ?_
                        obtain ⟨t472, f473⟩ := h
                        refine V.icmp_lt (pc := 169) (tgt := 176) hG ((hE5.2.1 _)) ((sR_wr _)) dL_areKept_169 (by decide) (fun c471 => ?_) (fun c471 => ?_)
                        · have h := t472 c471
                          clear t472 f473
                          refine V.pick [2, 3, 4, 5, 6, 7, 8, 0, 10, 11, 12, 1] rfl ?_
                          exact jn176 (wr (x7_114 + 1)) x11_114 v453 i454 r455 (k_114 + 3) ((sR_wr _)) hx11_114 hv456 hi457 hw458 h
                        · have h := f473 c471
                          clear t472 f473
                          refine V.iconst (pc := 172) hG dL_areKept_172 ?_
                          refine V.goto (pc := 173) (tgt := 177) hG dL_areKept_173 (by decide) ?_
                          refine V.pick [2, 3, 4, 5, 6, 7, 8, 0, 10, 11, 12, 1] rfl ?_
                          exact jn177 (wr (x7_114 + 1)) x11_114 v453 1 i454 r455 (k_114 + 3) ((sR_wr _)) hx11_114 hv456 ((sR_l rfl)) hi457 hw458 h
              refine V.pick [1, 2, 3, 4, 5, 6, 7, 8, 9, 10, 11, 0] rfl ?_
              exact lp114 n407 x7_105 x8_105 0 i_105 r_105 k_105 hx7_105 hx8_105 ((sR_l rfl)) hi_105 hw_105 h
        refine V.pick [2, 3, 4, 5, 6, 7, 8, 9, 1, 10, 0] rfl ?_
        exact lp105 n403 x7j100 k0j100 0 ij100 rj100 kj100 hx7j100 hk0j100 ((sR_l rfl)) hij100 hwj100 h
      have jn99 : ∀ (x7j99 : Int) (x9j99 : Int) (ij99 : MI) (rj99 : MI) (kj99 : Nat), sR x7j99 → sR x9j99 → okI ij99 → Wf rj99 → s99_LK p1 v115 x7j99 x9j99 ij99 rj99 kj99 L2 xs2 L3 xs3 L4 xs4 L5 xs5 Q (LoopP (b50_LK p1 v115 L2 xs2 L3 xs3 L4 xs4 L5 xs5 Q) m50) → V Γ Δ 504 false ij99 rj99 kj99 (6 * kj99) Q0 99 [(0, .ref (sA Δ 0)), (1, .int (sJ p1)), (2, .ref b2), (3, .ref b3), (4, .ref b4), (5, .ref b5), (6, .int (sJ v115)), (7, .int (sJ x7j99)), (9, .int (sJ x9j99))] [] := by
        intro x7j99 x9j99 ij99 rj99 kj99 hx7j99 hx9j99 hij99 hwj99 h
        refine V.iconst (pc := 99) hG dL_areKept_99 ?_
        exact jn100 x7j99 x9j99 0 ij99 rj99 kj99 hx7j99 hx9j99 ((sR_l rfl)) hij99 hwj99 h
      refine V.iload (pc := 50) hG dL_areKept_50 9 rfl ?_
      refine V.iload_n (pc := 52) hG dL_areKept_52 rfl 1 rfl ?_
      obtain ⟨t475, f476⟩ := h
      refine V.icmp_ge (pc := 53) (tgt := 258) hG hx9_50 hp1 dL_areKept_53 (by decide) (fun c474 => ?_) (fun c474 => ?_)
      · have h := t475 c474
        clear t475 f476
        refine V.pick [0, 4, 5, 6, 7, 8] rfl ?_
        exact jn258 v115 x7_50 x8_50 i_50 r_50 k_50 hv118 hx7_50 hx8_50 hi_50 hw_50 h
      · have h := f476 c474
        clear t475 f476
        refine V.iload (pc := 56) hG dL_areKept_56 8 rfl ?_
        obtain ⟨t478, f479⟩ := h
        refine V.if_eq (pc := 58) (tgt := 258) hG hx8_50 dL_areKept_58 (by decide) (fun c477 => ?_) (fun c477 => ?_)
        · have h := t478 c477
          clear t478 f479
          refine V.pick [0, 4, 5, 6, 7, 8] rfl ?_
          exact jn258 v115 x7_50 x8_50 i_50 r_50 k_50 hv118 hx7_50 hx8_50 hi_50 hw_50 h
        · have h := f479 c477
          clear t478 f479
          refine V.aload_n (pc := 61) hG dL_areKept_61 rfl 2 rfl ?_
          refine V.iload (pc := 62) hG dL_areKept_62 9 rfl ?_
          obtain ⟨g480, h⟩ := h
          refine V.eald (pc := 64) hG hE2 hx9_50 g480 dL_areKept_64 ?_
          refine V.aload_n (pc := 65) hG dL_areKept_65 rfl 3 rfl ?_
          refine V.iload (pc := 66) hG dL_areKept_66 9 rfl ?_
          obtain ⟨g481, h⟩ := h
          refine V.eald (pc := 68) hG hE3 hx9_50 g481 dL_areKept_68 ?_
          obtain ⟨t483, f484⟩ := h
          refine V.icmp_gt (pc := 69) (tgt := 99) hG ((hE2.2.1 _)) ((hE3.2.1 _)) dL_areKept_69 (by decide) (fun c482 => ?_) (fun c482 => ?_)
          · have h := t483 c482
            clear t483 f484
            refine V.pick [0, 1, 2, 3, 4, 5, 6, 7, 9] rfl ?_
            exact jn99 x7_50 x9_50 i_50 r_50 k_50 hx7_50 hx9_50 hi_50 hw_50 h
          · have h := f484 c482
            clear t483 f484
            refine V.aload_n (pc := 72) hG dL_areKept_72 rfl 2 rfl ?_
            refine V.iload (pc := 73) hG dL_areKept_73 9 rfl ?_
            obtain ⟨g485, h⟩ := h
            refine V.eald (pc := 75) hG hE2 hx9_50 g485 dL_areKept_75 ?_
            obtain ⟨t487, f488⟩ := h
            refine V.if_lt (pc := 76) (tgt := 99) hG ((hE2.2.1 _)) dL_areKept_76 (by decide) (fun c486 => ?_) (fun c486 => ?_)
            · have h := t487 c486
              clear t487 f488
              refine V.pick [0, 1, 2, 3, 4, 5, 6, 7, 9] rfl ?_
              exact jn99 x7_50 x9_50 i_50 r_50 k_50 hx7_50 hx9_50 hi_50 hw_50 h
            · have h := f488 c486
              clear t487 f488
              refine V.aload (pc := 79) hG dL_areKept_79 4 rfl ?_
              refine V.iload (pc := 81) hG dL_areKept_81 9 rfl ?_
              obtain ⟨g489, h⟩ := h
              refine V.eald (pc := 83) hG hE4 hx9_50 g489 dL_areKept_83 ?_
              obtain ⟨t491, f492⟩ := h
              refine V.if_lt (pc := 84) (tgt := 99) hG ((hE4.2.1 _)) dL_areKept_84 (by decide) (fun c490 => ?_) (fun c490 => ?_)
              · have h := t491 c490
                clear t491 f492
                refine V.pick [0, 1, 2, 3, 4, 5, 6, 7, 9] rfl ?_
                exact jn99 x7_50 x9_50 i_50 r_50 k_50 hx7_50 hx9_50 hi_50 hw_50 h
              · have h := f492 c490
                clear t491 f492
                refine V.aload (pc := 87) hG dL_areKept_87 5 rfl ?_
                refine V.iload (pc := 89) hG dL_areKept_89 9 rfl ?_
                obtain ⟨g493, h⟩ := h
                refine V.eald (pc := 91) hG hE5 hx9_50 g493 dL_areKept_91 ?_
                obtain ⟨t495, f496⟩ := h
                refine V.if_lt (pc := 92) (tgt := 99) hG ((hE5.2.1 _)) dL_areKept_92 (by decide) (fun c494 => ?_) (fun c494 => ?_)
                · have h := t495 c494
                  clear t495 f496
                  refine V.pick [0, 1, 2, 3, 4, 5, 6, 7, 9] rfl ?_
                  exact jn99 x7_50 x9_50 i_50 r_50 k_50 hx7_50 hx9_50 hi_50 hw_50 h
                · have h := f496 c494
                  clear t495 f496
                  refine V.iconst (pc := 95) hG dL_areKept_95 ?_
                  refine V.goto (pc := 96) (tgt := 100) hG dL_areKept_96 (by decide) ?_
                  refine V.pick [0, 1, 2, 3, 4, 5, 6, 7, 9] rfl ?_
                  exact jn100 x7_50 x9_50 1 i_50 r_50 k_50 hx7_50 hx9_50 ((sR_l rfl)) hi_50 hw_50 h
  refine V.pick [4, 5, 6, 7, 8, 9, 3, 2, 1, 0] rfl ?_
  exact lp50 n331 0 1 0 i116 r117 1600 ((sR_l rfl)) ((sR_l rfl)) ((sR_l rfl)) hi119 hw120 h
set_option maxRecDepth 100000 in
set_option maxHeartbeats 4000000 in
theorem sm_LP {l : Launch} {Γ : Cx} {Δ : Wd} {R : Room} {Q0 : State → Prop} {i r : MI} {b0 L0 : Nat} {xs0 : Int → Int} {p1 : Int} (hE0 : EA Δ b0 L0 xs0) (hp1 : sR p1) {Q : Int → MI → MI → Prop} (hst : l.stackTraces = false) (hR : 30 ≤ R.frames ∧ 1000 ≤ R.locals ∧ 6500 ≤ R.cells ∧ 39000 ≤ R.slots) (hG : okG Γ Δ l R cL_areProcesses "SchedularyLaw" 9)
    (fin : ∀ {pc : Nat} {lv : List (Nat × Value)} {x : Int} {i' r' : MI} {kc sl : Nat}, decode cL_areProcesses pc = .ok (.ireturn, 1) → sR x → narrow .boolean (.int (sJ x)) = .int (sJ x) → kc ≤ 6500 → sl ≤ 39000 → okI i' → Wf r' → Q x i' r' → V Γ Δ 504 false i' r' kc sl Q0 pc lv [.int (sJ x)])
    (hi : okI i) (hw : Wf r) (h : wp_LP p1 i r L0 xs0 Q) : V Γ Δ 504 false i r 6270 (6 * 6270) Q0 8 [(0, .ref b0), (1, .int (sJ p1)), (2, .ref (sA Δ 0))] [] := by
  have jn299 : ∀ (k0j299 : Int) (ij299 : MI) (rj299 : MI) (kj299 : Nat), sR k0j299 → okI ij299 → Wf rj299 → s299_LP k0j299 ij299 rj299 kj299 L0 xs0 Q → V Γ Δ 504 false ij299 rj299 kj299 (6 * kj299) Q0 299 [] [.int (sJ k0j299)] := by
    intro k0j299 ij299 rj299 kj299 hk0j299 hij299 hwj299 h
    obtain ⟨hk4, h⟩ := h
    obtain ⟨g3, h⟩ := h
    exact fin dL_areProcesses_299 hk0j299 (nar_z g3) hk4 (Nat.mul_le_mul_left 6 hk4) hij299 hwj299 h
  have jn298 : ∀  (ij298 : MI) (rj298 : MI) (kj298 : Nat), okI ij298 → Wf rj298 → s298_LP ij298 rj298 kj298 L0 xs0 Q → V Γ Δ 504 false ij298 rj298 kj298 (6 * kj298) Q0 298 [] [] := by
    intro ij298 rj298 kj298 hij298 hwj298 h
    refine V.iconst (pc := 298) hG dL_areProcesses_298 ?_
    exact jn299 0 ij298 rj298 kj298 ((sR_l rfl)) hij298 hwj298 h
  have jn287 : ∀ (k0j287 : Int) (ij287 : MI) (rj287 : MI) (kj287 : Nat), sR k0j287 → okI ij287 → Wf rj287 → s287_LP k0j287 ij287 rj287 kj287 L0 xs0 Q → V Γ Δ 504 false ij287 rj287 kj287 (6 * kj287) Q0 287 [(2, .ref (sA Δ 0))] [.int (sJ k0j287)] := by
    intro k0j287 ij287 rj287 kj287 hk0j287 hij287 hwj287 h
    refine V.aload_n (pc := 287) hG dL_areProcesses_287 rfl 0 rfl ?_
    obtain ⟨hk30, h⟩ := h
    refine V.callVi (pc := 288) (As := []) (stk := [.int (sJ k0j287)]) hG (sm_X11_areLocked l Δ  hij287 hwj287 h) mY_X11_areLocked kw_1777 kw_1778 kw_1779 a_0 (by decide) (q := (RX11, TX11, 11)) rfl rfl ⟨Nat.le_trans (Nat.le_of_ble_eq_true rfl) hR.1, Nat.le_trans (Nat.le_of_ble_eq_true rfl) hR.2.1, Nat.le_trans hk30 hR.2.2.1, Nat.le_trans (Nat.mul_le_mul_left 6 hk30) hR.2.2.2⟩ rfl (Nat.le_of_ble_eq_true rfl) dL_areProcesses_288 rfl (fun v18 i19 r20 hv21 hi22 hw23 hq24 => ?_)
    obtain ⟨e29, h⟩ := hq24
    subst e29
    obtain ⟨f27, t26⟩ := h
    refine V.icmp_ne (pc := 291) (tgt := 298) hG hk0j287 hv21 dL_areProcesses_291 (by decide) (fun c25 => ?_) (fun c25 => ?_)
    · have h := t26 c25
      clear t26 f27
      refine V.pick [] rfl ?_
      exact jn298 i19 rj287 kj287 hi22 hwj287 h
    · have h := f27 c25
      clear t26 f27
      refine V.iconst (pc := 294) hG dL_areProcesses_294 ?_
      refine V.goto (pc := 295) (tgt := 299) hG dL_areProcesses_295 (by decide) ?_
      refine V.pick [] rfl ?_
      exact jn299 1 i19 rj287 kj287 ((sR_l rfl)) hi22 hwj287 h
  have jn228 : ∀ (x6j228 : Int) (ij228 : MI) (rj228 : MI) (kj228 : Nat), sR x6j228 → okI ij228 → Wf rj228 → s228_LP x6j228 ij228 rj228 kj228 L0 xs0 Q → V Γ Δ 504 false ij228 rj228 kj228 (6 * kj228) Q0 228 [(2, .ref (sA Δ 0)), (6, .int (sJ x6j228))] [] := by
    intro x6j228 ij228 rj228 kj228 hx6j228 hij228 hwj228 h
    refine V.iconst (pc := 228) hG dL_areProcesses_228 ?_
    refine V.istore (pc := 229) (lv' := [(7, .int (sJ 0)), (2, .ref (sA Δ 0)), (6, .int (sJ x6j228))]) hG dL_areProcesses_229 (by decide) rfl ?_
    refine V.iconst (pc := 231) hG dL_areProcesses_231 ?_
    refine V.istore (pc := 232) (lv' := [(8, .int (sJ 0)), (7, .int (sJ 0)), (2, .ref (sA Δ 0)), (6, .int (sJ x6j228))]) hG dL_areProcesses_232 (by decide) rfl ?_
    obtain ⟨n106, h⟩ := h
    have lp234 : ∀ (m234 : Nat) (x7_234 : Int) (x8_234 : Int) (i_234 : MI) (r_234 : MI) (k_234 : Nat), sR x7_234 → sR x8_234 → okI i_234 → Wf r_234 → LoopP (b234_LP x6j228 L0 xs0 Q) m234 (x7_234, x8_234, i_234, r_234, k_234) → V Γ Δ 504 false i_234 r_234 k_234 (6 * k_234) Q0 234 [(2, .ref (sA Δ 0)), (6, .int (sJ x6j228)), (7, .int (sJ x7_234)), (8, .int (sJ x8_234))] [] := by
      intro m234
      induction m234 with
      | zero => intro x7_234 x8_234 i_234 r_234 k_234 hx7_234 hx8_234 hi_234 hw_234 h; exact h.elim
      | succ m234 ih234 =>
        intro x7_234 x8_234 i_234 r_234 k_234 hx7_234 hx8_234 hi_234 hw_234 h
        have h := LoopP_succ h
        have jn260 : ∀ (x8j260 : Int) (k0j260 : Int) (k1j260 : Int) (ij260 : MI) (rj260 : MI) (kj260 : Nat), sR x8j260 → sR k0j260 → sR k1j260 → okI ij260 → Wf rj260 → s260_LP x6j228 x8j260 k0j260 k1j260 ij260 rj260 kj260 L0 xs0 Q (LoopP (b234_LP x6j228 L0 xs0 Q) m234) → V Γ Δ 504 false ij260 rj260 kj260 (6 * kj260) Q0 260 [(2, .ref (sA Δ 0)), (6, .int (sJ x6j228)), (8, .int (sJ x8j260))] [.int (sJ k1j260), .int (sJ k0j260)] := by
          intro x8j260 k0j260 k1j260 ij260 rj260 kj260 hx8j260 hk0j260 hk1j260 hij260 hwj260 h
          obtain ⟨hk124, h⟩ := h
          refine V.callSi (pc := 260) (As := [.int (sJ k1j260)]) (stk := [.int (sJ k0j260)]) hG (sm_L_told l Δ hk1j260 hij260 hwj260 h) mY_L_told kw_1755 kw_1756 ⟨Nat.le_trans (Nat.le_of_ble_eq_true rfl) hR.1, Nat.le_trans (Nat.le_of_ble_eq_true rfl) hR.2.1, Nat.le_trans (by omega) hR.2.2.1, Nat.le_trans (by omega) hR.2.2.2⟩ rfl (Nat.le_of_ble_eq_true rfl) dL_areProcesses_260 rfl (fun v117 i118 r119 hv120 hi121 hw122 hq123 => ?_)
          obtain ⟨e125, e126, h⟩ := hq123
          subst e125
          subst e126
          refine V.iadd (pc := 263) hG dL_areProcesses_263 ?_
          refine V.istore (pc := 264) (lv' := [(7, .int (sJ (wr (k0j260 + v117)))), (2, .ref (sA Δ 0)), (6, .int (sJ x6j228)), (8, .int (sJ x8j260))]) hG dL_areProcesses_264 (by decide) rfl ?_
          refine V.iinc (pc := 266) (lv' := [(8, .int (sJ (wr (x8j260 + 1)))), (7, .int (sJ (wr (k0j260 + v117)))), (2, .ref (sA Δ 0)), (6, .int (sJ x6j228))]) hG dL_areProcesses_266 3 rfl (by decide) rfl ?_
          refine V.goto (pc := 269) (tgt := 234) hG dL_areProcesses_269 (by decide) ?_
          refine V.pick [2, 3, 1, 0] rfl ?_
          exact ih234 (wr (k0j260 + v117)) (wr (x8j260 + 1)) ij260 rj260 kj260 ((sR_wr _)) ((sR_wr _)) hij260 hwj260 h
        refine V.iload (pc := 234) hG dL_areProcesses_234 3 rfl ?_
        refine V.iconst (pc := 236) hG dL_areProcesses_236 ?_
        obtain ⟨t128, f129⟩ := h
        refine V.icmp_ge (pc := 237) (tgt := 272) hG hx8_234 ((sR_l rfl)) dL_areProcesses_237 (by decide) (fun c127 => ?_) (fun c127 => ?_)
        · have h := t128 c127
          clear t128 f129
          refine V.iload (pc := 272) hG dL_areProcesses_272 1 rfl ?_
          obtain ⟨t131, f132⟩ := h
          refine V.if_eq (pc := 274) (tgt := 298) hG hx6j228 dL_areProcesses_274 (by decide) (fun c130 => ?_) (fun c130 => ?_)
          · have h := t131 c130
            clear t131 f132
            refine V.pick [] rfl ?_
            exact jn298 i_234 r_234 k_234 hi_234 hw_234 h
          · have h := f132 c130
            clear t131 f132
            refine V.iload (pc := 277) hG dL_areProcesses_277 2 rfl ?_
            obtain ⟨t134, f135⟩ := h
            refine V.if_le (pc := 279) (tgt := 286) hG hx7_234 dL_areProcesses_279 (by decide) (fun c133 => ?_) (fun c133 => ?_)
            · have h := t134 c133
              clear t134 f135
              refine V.iconst (pc := 286) hG dL_areProcesses_286 ?_
              refine V.pick [0] rfl ?_
              exact jn287 0 i_234 r_234 k_234 ((sR_l rfl)) hi_234 hw_234 h
            · have h := f135 c133
              clear t134 f135
              refine V.iconst (pc := 282) hG dL_areProcesses_282 ?_
              refine V.goto (pc := 283) (tgt := 287) hG dL_areProcesses_283 (by decide) ?_
              refine V.pick [0] rfl ?_
              exact jn287 1 i_234 r_234 k_234 ((sR_l rfl)) hi_234 hw_234 h
        · have h := f129 c127
          clear t128 f129
          refine V.iload (pc := 240) hG dL_areProcesses_240 2 rfl ?_
          refine V.aload_n (pc := 242) hG dL_areProcesses_242 rfl 0 rfl ?_
          refine V.bipush (pc := 243) hG dL_areProcesses_243 (by decide) ?_
          refine V.iload (pc := 245) hG dL_areProcesses_245 3 rfl ?_
          refine V.iconst (pc := 247) hG dL_areProcesses_247 ?_
          obtain ⟨hk143, h⟩ := h
          refine V.mcallSi (pc := 248) (As := [.ref (sA Δ 0), .int (sJ 12), .int (sJ x8_234), .int (sJ 0)]) (stk := [.int (sJ x7_234)]) hG (sm_L_ask l Δ ((sR_l rfl)) hx8_234 ((sR_l rfl)) hst hi_234 hw_234 h) mY_L_ask kw_917 kw_918 ⟨Nat.le_trans (Nat.le_of_ble_eq_true rfl) hR.1, Nat.le_trans (Nat.le_of_ble_eq_true rfl) hR.2.1, Nat.le_trans (by omega) hR.2.2.1, Nat.le_trans (by omega) hR.2.2.2⟩ rfl (Nat.le_of_ble_eq_true rfl) dL_areProcesses_248 rfl (fun v136 i137 r138 hv139 hi140 hw141 hq142 => ?_)
          have h := hq142
          refine V.ks (kc2 := (k_234 + 3)) (sl2 := 6 * (k_234 + 3)) (by omega) (by omega) ?_
          refine V.iconst (pc := 251) hG dL_areProcesses_251 ?_
          obtain ⟨t147, f148⟩ := h
          refine V.icmp_eq (pc := 252) (tgt := 259) hG hv139 ((sR_l rfl)) dL_areProcesses_252 (by decide) (fun c146 => ?_) (fun c146 => ?_)
          · have h := t147 c146
            clear t147 f148
            refine V.iconst (pc := 259) hG dL_areProcesses_259 ?_
            refine V.pick [0, 1, 3] rfl ?_
            exact jn260 x8_234 x7_234 0 i137 r138 (k_234 + 3) hx8_234 hx7_234 ((sR_l rfl)) hi140 hw141 h
          · have h := f148 c146
            clear t147 f148
            refine V.iconst (pc := 255) hG dL_areProcesses_255 ?_
            refine V.goto (pc := 256) (tgt := 260) hG dL_areProcesses_256 (by decide) ?_
            refine V.pick [0, 1, 3] rfl ?_
            exact jn260 x8_234 x7_234 1 i137 r138 (k_234 + 3) hx8_234 hx7_234 ((sR_l rfl)) hi140 hw141 h
    refine V.pick [2, 3, 1, 0] rfl ?_
    exact lp234 n106 0 0 ij228 rj228 kj228 ((sR_l rfl)) ((sR_l rfl)) hij228 hwj228 h
  have jn226 : ∀ (k0j226 : Int) (ij226 : MI) (rj226 : MI) (kj226 : Nat), sR k0j226 → okI ij226 → Wf rj226 → s226_LP k0j226 ij226 rj226 kj226 L0 xs0 Q → V Γ Δ 504 false ij226 rj226 kj226 (6 * kj226) Q0 226 [(2, .ref (sA Δ 0))] [.int (sJ k0j226)] := by
    intro k0j226 ij226 rj226 kj226 hk0j226 hij226 hwj226 h
    refine V.istore (pc := 226) (lv' := [(6, .int (sJ k0j226)), (2, .ref (sA Δ 0))]) hG dL_areProcesses_226 (by decide) rfl ?_
    refine V.pick [1, 0] rfl ?_
    exact jn228 k0j226 ij226 rj226 kj226 hk0j226 hij226 hwj226 h
  have jn225 : ∀  (ij225 : MI) (rj225 : MI) (kj225 : Nat), okI ij225 → Wf rj225 → s225_LP ij225 rj225 kj225 L0 xs0 Q → V Γ Δ 504 false ij225 rj225 kj225 (6 * kj225) Q0 225 [(2, .ref (sA Δ 0))] [] := by
    intro ij225 rj225 kj225 hij225 hwj225 h
    refine V.iconst (pc := 225) hG dL_areProcesses_225 ?_
    exact jn226 0 ij225 rj225 kj225 ((sR_l rfl)) hij225 hwj225 h
  have jn181 : ∀ (x4j181 : Int) (x5j181 : Int) (k0j181 : Int) (ij181 : MI) (rj181 : MI) (kj181 : Nat), sR x4j181 → sR x5j181 → sR k0j181 → okI ij181 → Wf rj181 → s181_LP x4j181 x5j181 k0j181 ij181 rj181 kj181 L0 xs0 Q → V Γ Δ 504 false ij181 rj181 kj181 (6 * kj181) Q0 181 [(2, .ref (sA Δ 0)), (4, .int (sJ x4j181)), (5, .int (sJ x5j181))] [.int (sJ k0j181)] := by
    intro x4j181 x5j181 k0j181 ij181 rj181 kj181 hx4j181 hx5j181 hk0j181 hij181 hwj181 h
    refine V.istore (pc := 181) (lv' := [(6, .int (sJ k0j181)), (2, .ref (sA Δ 0)), (4, .int (sJ x4j181)), (5, .int (sJ x5j181))]) hG dL_areProcesses_181 (by decide) rfl ?_
    refine V.iload (pc := 183) hG dL_areProcesses_183 3 rfl ?_
    refine V.iconst (pc := 185) hG dL_areProcesses_185 ?_
    obtain ⟨t195, f196⟩ := h
    refine V.icmp_le (pc := 186) (tgt := 228) hG hx5j181 ((sR_l rfl)) dL_areProcesses_186 (by decide) (fun c194 => ?_) (fun c194 => ?_)
    · have h := t195 c194
      clear t195 f196
      refine V.pick [1, 0] rfl ?_
      exact jn228 k0j181 ij181 rj181 kj181 hk0j181 hij181 hwj181 h
    · have h := f196 c194
      clear t195 f196
      refine V.iload (pc := 189) hG dL_areProcesses_189 0 rfl ?_
      obtain ⟨t198, f199⟩ := h
      refine V.if_eq (pc := 191) (tgt := 225) hG hk0j181 dL_areProcesses_191 (by decide) (fun c197 => ?_) (fun c197 => ?_)
      · have h := t198 c197
        clear t198 f199
        refine V.pick [1] rfl ?_
        exact jn225 ij181 rj181 kj181 hij181 hwj181 h
      · have h := f199 c197
        clear t198 f199
        refine V.aload_n (pc := 194) hG dL_areProcesses_194 rfl 1 rfl ?_
        refine V.iload (pc := 195) hG dL_areProcesses_195 3 rfl ?_
        refine V.iconst (pc := 197) hG dL_areProcesses_197 ?_
        refine V.isub (pc := 198) hG dL_areProcesses_198 ?_
        obtain ⟨hk207, h⟩ := h
        refine V.mcallSi (pc := 199) (As := [.ref (sA Δ 0), .int (sJ (wr (x5j181 - 1)))]) (stk := []) hG (sm_L_depths l Δ ((sR_wr _)) hst hij181 hwj181 h) mY_L_depths kw_1774 kw_1775 ⟨Nat.le_trans (Nat.le_of_ble_eq_true rfl) hR.1, Nat.le_trans (Nat.le_of_ble_eq_true rfl) hR.2.1, Nat.le_trans (by omega) hR.2.2.1, Nat.le_trans (by omega) hR.2.2.2⟩ rfl (Nat.le_of_ble_eq_true rfl) dL_areProcesses_199 rfl (fun v200 i201 r202 hv203 hi204 hw205 hq206 => ?_)
        have h := hq206
        refine V.ks (kc2 := (kj181 + 12)) (sl2 := 6 * (kj181 + 12)) (by omega) (by omega) ?_
        obtain ⟨t211, f212⟩ := h
        refine V.if_eq (pc := 202) (tgt := 225) hG hv203 dL_areProcesses_202 (by decide) (fun c210 => ?_) (fun c210 => ?_)
        · have h := t211 c210
          clear t211 f212
          refine V.pick [1] rfl ?_
          exact jn225 i201 r202 (kj181 + 12) hi204 hw205 h
        · have h := f212 c210
          clear t211 f212
          refine V.aload_n (pc := 205) hG dL_areProcesses_205 rfl 1 rfl ?_
          obtain ⟨hk238, h⟩ := h
          refine V.callVi (pc := 206) (As := []) (stk := []) hG (sm_X11_areLocked l Δ  hi204 hw205 h) mY_X11_areLocked kw_1777 kw_1778 kw_1779 a_0 (by decide) (q := (RX11, TX11, 11)) rfl rfl ⟨Nat.le_trans (Nat.le_of_ble_eq_true rfl) hR.1, Nat.le_trans (Nat.le_of_ble_eq_true rfl) hR.2.1, Nat.le_trans hk238 hR.2.2.1, Nat.le_trans (Nat.mul_le_mul_left 6 hk238) hR.2.2.2⟩ rfl (Nat.le_of_ble_eq_true rfl) dL_areProcesses_206 rfl (fun v213 i214 r215 hv216 hi217 hw218 hq219 => ?_)
          obtain ⟨e237, h⟩ := hq219
          subst e237
          obtain ⟨t221, f222⟩ := h
          refine V.if_eq (pc := 209) (tgt := 225) hG hv216 dL_areProcesses_209 (by decide) (fun c220 => ?_) (fun c220 => ?_)
          · have h := t221 c220
            clear t221 f222
            refine V.pick [1] rfl ?_
            exact jn225 i214 r202 (kj181 + 12) hi217 hw205 h
          · have h := f222 c220
            clear t221 f222
            refine V.aload_n (pc := 212) hG dL_areProcesses_212 rfl 1 rfl ?_
            obtain ⟨hk235, h⟩ := h
            refine V.callVi (pc := 213) (As := []) (stk := []) hG (sm_X11_done l Δ  hi217 hw205 h) mY_X11_done kw_1782 kw_1783 kw_1784 a_0 (by decide) (q := (RX11, TX11, 11)) rfl rfl ⟨Nat.le_trans (Nat.le_of_ble_eq_true rfl) hR.1, Nat.le_trans (Nat.le_of_ble_eq_true rfl) hR.2.1, Nat.le_trans hk235 hR.2.2.1, Nat.le_trans (Nat.mul_le_mul_left 6 hk235) hR.2.2.2⟩ rfl (Nat.le_of_ble_eq_true rfl) dL_areProcesses_213 rfl (fun v223 i224 r225 hv226 hi227 hw228 hq229 => ?_)
            obtain ⟨e234, h⟩ := hq229
            subst e234
            refine V.iload (pc := 216) hG dL_areProcesses_216 2 rfl ?_
            obtain ⟨t231, f232⟩ := h
            refine V.icmp_ge (pc := 218) (tgt := 225) hG hv226 hx4j181 dL_areProcesses_218 (by decide) (fun c230 => ?_) (fun c230 => ?_)
            · have h := t231 c230
              clear t231 f232
              refine V.pick [1] rfl ?_
              exact jn225 i224 r202 (kj181 + 12) hi227 hw205 h
            · have h := f232 c230
              clear t231 f232
              refine V.iconst (pc := 221) hG dL_areProcesses_221 ?_
              refine V.goto (pc := 222) (tgt := 226) hG dL_areProcesses_222 (by decide) ?_
              refine V.pick [1] rfl ?_
              exact jn226 1 i224 r202 (kj181 + 12) ((sR_l rfl)) hi227 hw205 h
  have jn180 : ∀ (x4j180 : Int) (x5j180 : Int) (ij180 : MI) (rj180 : MI) (kj180 : Nat), sR x4j180 → sR x5j180 → okI ij180 → Wf rj180 → s180_LP x4j180 x5j180 ij180 rj180 kj180 L0 xs0 Q → V Γ Δ 504 false ij180 rj180 kj180 (6 * kj180) Q0 180 [(2, .ref (sA Δ 0)), (4, .int (sJ x4j180)), (5, .int (sJ x5j180))] [] := by
    intro x4j180 x5j180 ij180 rj180 kj180 hx4j180 hx5j180 hij180 hwj180 h
    refine V.iconst (pc := 180) hG dL_areProcesses_180 ?_
    exact jn181 x4j180 x5j180 0 ij180 rj180 kj180 hx4j180 hx5j180 ((sR_l rfl)) hij180 hwj180 h
  have jn173 : ∀ (x4j173 : Int) (x5j173 : Int) (k0j173 : Int) (k1j173 : Int) (ij173 : MI) (rj173 : MI) (kj173 : Nat), sR x4j173 → sR x5j173 → sR k0j173 → sR k1j173 → okI ij173 → Wf rj173 → s173_LP x4j173 x5j173 k0j173 k1j173 ij173 rj173 kj173 L0 xs0 Q → V Γ Δ 504 false ij173 rj173 kj173 (6 * kj173) Q0 173 [(2, .ref (sA Δ 0)), (4, .int (sJ x4j173)), (5, .int (sJ x5j173))] [.int (sJ k1j173), .int (sJ k0j173)] := by
    intro x4j173 x5j173 k0j173 k1j173 ij173 rj173 kj173 hx4j173 hx5j173 hk0j173 hk1j173 hij173 hwj173 h
    obtain ⟨f244, t243⟩ := h
    refine V.icmp_ne (pc := 173) (tgt := 180) hG hk0j173 hk1j173 dL_areProcesses_173 (by decide) (fun c242 => ?_) (fun c242 => ?_)
    · have h := t243 c242
      clear t243 f244
      exact jn180 x4j173 x5j173 ij173 rj173 kj173 hx4j173 hx5j173 hij173 hwj173 h
    · have h := f244 c242
      clear t243 f244
      refine V.iconst (pc := 176) hG dL_areProcesses_176 ?_
      refine V.goto (pc := 177) (tgt := 181) hG dL_areProcesses_177 (by decide) ?_
      exact jn181 x4j173 x5j173 1 ij173 rj173 kj173 hx4j173 hx5j173 ((sR_l rfl)) hij173 hwj173 h
  have jn161 : ∀ (x4j161 : Int) (x5j161 : Int) (k0j161 : Int) (ij161 : MI) (rj161 : MI) (kj161 : Nat), sR x4j161 → sR x5j161 → sR k0j161 → okI ij161 → Wf rj161 → s161_LP x4j161 x5j161 k0j161 ij161 rj161 kj161 L0 xs0 Q → V Γ Δ 504 false ij161 rj161 kj161 (6 * kj161) Q0 161 [(2, .ref (sA Δ 0)), (4, .int (sJ x4j161)), (5, .int (sJ x5j161))] [.int (sJ k0j161)] := by
    intro x4j161 x5j161 k0j161 ij161 rj161 kj161 hx4j161 hx5j161 hk0j161 hij161 hwj161 h
    refine V.iload (pc := 161) hG dL_areProcesses_161 2 rfl ?_
    refine V.ldc (pc := 163) (x := (-200005)) hG kw_1433 dL_areProcesses_163 ?_
    obtain ⟨t249, f250⟩ := h
    refine V.icmp_eq (pc := 165) (tgt := 172) hG hx5j161 ((sR_l rfl)) dL_areProcesses_165 (by decide) (fun c248 => ?_) (fun c248 => ?_)
    · have h := t249 c248
      clear t249 f250
      refine V.iconst (pc := 172) hG dL_areProcesses_172 ?_
      exact jn173 x4j161 x5j161 k0j161 0 ij161 rj161 kj161 hx4j161 hx5j161 hk0j161 ((sR_l rfl)) hij161 hwj161 h
    · have h := f250 c248
      clear t249 f250
      refine V.iconst (pc := 168) hG dL_areProcesses_168 ?_
      refine V.goto (pc := 169) (tgt := 173) hG dL_areProcesses_169 (by decide) ?_
      exact jn173 x4j161 x5j161 k0j161 1 ij161 rj161 kj161 hx4j161 hx5j161 hk0j161 ((sR_l rfl)) hij161 hwj161 h
  have jn144 : ∀ (x4j144 : Int) (x5j144 : Int) (k0j144 : Int) (k1j144 : Int) (ij144 : MI) (rj144 : MI) (kj144 : Nat), sR x4j144 → sR x5j144 → sR k0j144 → sR k1j144 → okI ij144 → Wf rj144 → s144_LP x4j144 x5j144 k0j144 k1j144 ij144 rj144 kj144 L0 xs0 Q → V Γ Δ 504 false ij144 rj144 kj144 (6 * kj144) Q0 144 [(2, .ref (sA Δ 0)), (4, .int (sJ x4j144)), (5, .int (sJ x5j144))] [.int (sJ k1j144), .int (sJ k0j144)] := by
    intro x4j144 x5j144 k0j144 k1j144 ij144 rj144 kj144 hx4j144 hx5j144 hk0j144 hk1j144 hij144 hwj144 h
    obtain ⟨f269, t268⟩ := h
    refine V.icmp_ne (pc := 144) (tgt := 180) hG hk0j144 hk1j144 dL_areProcesses_144 (by decide) (fun c267 => ?_) (fun c267 => ?_)
    · have h := t268 c267
      clear t268 f269
      exact jn180 x4j144 x5j144 ij144 rj144 kj144 hx4j144 hx5j144 hij144 hwj144 h
    · have h := f269 c267
      clear t268 f269
      refine V.aload_n (pc := 147) hG dL_areProcesses_147 rfl 0 rfl ?_
      obtain ⟨hk282, h⟩ := h
      refine V.callVi (pc := 148) (As := []) (stk := []) hG (sm_X11_done l Δ  hij144 hwj144 h) mY_X11_done kw_1782 kw_1783 kw_1784 a_0 (by decide) (q := (RX11, TX11, 11)) rfl rfl ⟨Nat.le_trans (Nat.le_of_ble_eq_true rfl) hR.1, Nat.le_trans (Nat.le_of_ble_eq_true rfl) hR.2.1, Nat.le_trans hk282 hR.2.2.1, Nat.le_trans (Nat.mul_le_mul_left 6 hk282) hR.2.2.2⟩ rfl (Nat.le_of_ble_eq_true rfl) dL_areProcesses_148 rfl (fun v270 i271 r272 hv273 hi274 hw275 hq276 => ?_)
      obtain ⟨e281, h⟩ := hq276
      subst e281
      refine V.iload (pc := 151) hG dL_areProcesses_151 1 rfl ?_
      obtain ⟨f279, t278⟩ := h
      refine V.icmp_ne (pc := 153) (tgt := 160) hG hv273 hx4j144 dL_areProcesses_153 (by decide) (fun c277 => ?_) (fun c277 => ?_)
      · have h := t278 c277
        clear t278 f279
        refine V.iconst (pc := 160) hG dL_areProcesses_160 ?_
        exact jn161 x4j144 x5j144 0 i271 rj144 kj144 hx4j144 hx5j144 ((sR_l rfl)) hi274 hwj144 h
      · have h := f279 c277
        clear t278 f279
        refine V.iconst (pc := 156) hG dL_areProcesses_156 ?_
        refine V.goto (pc := 157) (tgt := 161) hG dL_areProcesses_157 (by decide) ?_
        exact jn161 x4j144 x5j144 1 i271 rj144 kj144 hx4j144 hx5j144 ((sR_l rfl)) hi274 hwj144 h
  have jn122 : ∀ (x4j122 : Int) (x5j122 : Int) (k1j122 : Int) (ij122 : MI) (rj122 : MI) (kj122 : Nat), sR x4j122 → sR x5j122 → sR k1j122 → okI ij122 → Wf rj122 → s122_LP x4j122 x5j122 k1j122 ij122 rj122 kj122 L0 xs0 Q → V Γ Δ 504 false ij122 rj122 kj122 (6 * kj122) Q0 122 [(2, .ref (sA Δ 0)), (4, .int (sJ x4j122)), (5, .int (sJ x5j122))] [.int (sJ k1j122), .ref (sA Δ 0)] := by
    intro x4j122 x5j122 k1j122 ij122 rj122 kj122 hx4j122 hx5j122 hk1j122 hij122 hwj122 h
    obtain ⟨hk316, h⟩ := h
    refine V.mcallSi (pc := 122) (As := [.ref (sA Δ 0), .int (sJ k1j122)]) (stk := []) hG (sm_L_depths l Δ hk1j122 hst hij122 hwj122 h) mY_L_depths kw_1774 kw_1775 ⟨Nat.le_trans (Nat.le_of_ble_eq_true rfl) hR.1, Nat.le_trans (Nat.le_of_ble_eq_true rfl) hR.2.1, Nat.le_trans (by omega) hR.2.2.1, Nat.le_trans (by omega) hR.2.2.2⟩ rfl (Nat.le_of_ble_eq_true rfl) dL_areProcesses_122 rfl (fun v309 i310 r311 hv312 hi313 hw314 hq315 => ?_)
    have h := hq315
    refine V.ks (kc2 := (kj122 + 12)) (sl2 := 6 * (kj122 + 12)) (by omega) (by omega) ?_
    obtain ⟨t320, f321⟩ := h
    refine V.if_eq (pc := 125) (tgt := 180) hG hv312 dL_areProcesses_125 (by decide) (fun c319 => ?_) (fun c319 => ?_)
    · have h := t320 c319
      clear t320 f321
      exact jn180 x4j122 x5j122 i310 r311 (kj122 + 12) hx4j122 hx5j122 hi313 hw314 h
    · have h := f321 c319
      clear t320 f321
      refine V.aload_n (pc := 128) hG dL_areProcesses_128 rfl 0 rfl ?_
      obtain ⟨hk334, h⟩ := h
      refine V.callVi (pc := 129) (As := []) (stk := []) hG (sm_X11_areLocked l Δ  hi313 hw314 h) mY_X11_areLocked kw_1777 kw_1778 kw_1779 a_0 (by decide) (q := (RX11, TX11, 11)) rfl rfl ⟨Nat.le_trans (Nat.le_of_ble_eq_true rfl) hR.1, Nat.le_trans (Nat.le_of_ble_eq_true rfl) hR.2.1, Nat.le_trans hk334 hR.2.2.1, Nat.le_trans (Nat.mul_le_mul_left 6 hk334) hR.2.2.2⟩ rfl (Nat.le_of_ble_eq_true rfl) dL_areProcesses_129 rfl (fun v322 i323 r324 hv325 hi326 hw327 hq328 => ?_)
      obtain ⟨e333, h⟩ := hq328
      subst e333
      refine V.iload (pc := 132) hG dL_areProcesses_132 2 rfl ?_
      refine V.ldc (pc := 134) (x := (-200005)) hG kw_1433 dL_areProcesses_134 ?_
      obtain ⟨f331, t330⟩ := h
      refine V.icmp_ne (pc := 136) (tgt := 143) hG hx5j122 ((sR_l rfl)) dL_areProcesses_136 (by decide) (fun c329 => ?_) (fun c329 => ?_)
      · have h := t330 c329
        clear t330 f331
        refine V.iconst (pc := 143) hG dL_areProcesses_143 ?_
        exact jn144 x4j122 x5j122 v322 0 i323 r311 (kj122 + 12) hx4j122 hx5j122 hv325 ((sR_l rfl)) hi326 hw314 h
      · have h := f331 c329
        clear t330 f331
        refine V.iconst (pc := 139) hG dL_areProcesses_139 ?_
        refine V.goto (pc := 140) (tgt := 144) hG dL_areProcesses_140 (by decide) ?_
        exact jn144 x4j122 x5j122 v322 1 i323 r311 (kj122 + 12) hx4j122 hx5j122 hv325 ((sR_l rfl)) hi326 hw314 h
  refine V.iconst (pc := 8) hG dL_areProcesses_8 ?_
  refine V.aload_n (pc := 9) hG dL_areProcesses_9 rfl 0 rfl ?_
  refine V.iload_n (pc := 10) hG dL_areProcesses_10 rfl 1 rfl ?_
  refine V.bipush (pc := 11) hG dL_areProcesses_11 (by decide) ?_
  obtain ⟨hk342, h⟩ := h
  refine V.callSi (pc := 13) (As := [.ref b0, .int (sJ p1), .int (sJ 24)]) (stk := [.int (sJ 4)]) hG (sm_L_pick l Δ hE0 hp1 ((sR_l rfl)) hi hw h) mY_L_pick kw_909 kw_910 ⟨Nat.le_trans (Nat.le_of_ble_eq_true rfl) hR.1, Nat.le_trans (Nat.le_of_ble_eq_true rfl) hR.2.1, Nat.le_trans (by omega) hR.2.2.1, Nat.le_trans (by omega) hR.2.2.2⟩ rfl (Nat.le_of_ble_eq_true rfl) dL_areProcesses_13 rfl (fun v335 i336 r337 hv338 hi339 hw340 hq341 => ?_)
  obtain ⟨e343, e344, h⟩ := hq341
  subst e343
  subst e344
  refine V.iadd (pc := 16) hG dL_areProcesses_16 ?_
  refine V.istore_n (pc := 17) (lv' := [(3, .int (sJ (wr (4 + v335)))), (0, .ref b0), (1, .int (sJ p1)), (2, .ref (sA Δ 0))]) hG dL_areProcesses_17 rfl (by decide) rfl ?_
  refine V.iconst (pc := 18) hG dL_areProcesses_18 ?_
  refine V.istore (pc := 19) (lv' := [(4, .int (sJ 0)), (3, .int (sJ (wr (4 + v335)))), (0, .ref b0), (1, .int (sJ p1)), (2, .ref (sA Δ 0))]) hG dL_areProcesses_19 (by decide) rfl ?_
  refine V.iconst (pc := 21) hG dL_areProcesses_21 ?_
  refine V.istore (pc := 22) (lv' := [(5, .int (sJ 0)), (4, .int (sJ 0)), (3, .int (sJ (wr (4 + v335)))), (0, .ref b0), (1, .int (sJ p1)), (2, .ref (sA Δ 0))]) hG dL_areProcesses_22 (by decide) rfl ?_
  obtain ⟨n414, h⟩ := h
  have lp24 : ∀ (m24 : Nat) (x4_24 : Int) (x5_24 : Int) (i_24 : MI) (r_24 : MI) (k_24 : Nat), sR x4_24 → sR x5_24 → okI i_24 → Wf r_24 → LoopP (b24_LP p1 (wr (4 + v335)) L0 xs0 Q) m24 (x4_24, x5_24, i_24, r_24, k_24) → V Γ Δ 504 false i_24 r_24 k_24 (6 * k_24) Q0 24 [(0, .ref b0), (1, .int (sJ p1)), (2, .ref (sA Δ 0)), (3, .int (sJ (wr (4 + v335)))), (4, .int (sJ x4_24)), (5, .int (sJ x5_24))] [] := by
    intro m24
    induction m24 with
    | zero => intro x4_24 x5_24 i_24 r_24 k_24 hx4_24 hx5_24 hi_24 hw_24 h; exact h.elim
    | succ m24 ih24 =>
      intro x4_24 x5_24 i_24 r_24 k_24 hx4_24 hx5_24 hi_24 hw_24 h
      have h := LoopP_succ h
      have jn85 : ∀ (x5j85 : Int) (k0j85 : Int) (k1j85 : Int) (ij85 : MI) (rj85 : MI) (kj85 : Nat), sR x5j85 → sR k0j85 → sR k1j85 → okI ij85 → Wf rj85 → s85_LP p1 (wr (4 + v335)) x5j85 k0j85 k1j85 ij85 rj85 kj85 L0 xs0 Q (LoopP (b24_LP p1 (wr (4 + v335)) L0 xs0 Q) m24) → V Γ Δ 504 false ij85 rj85 kj85 (6 * kj85) Q0 85 [(0, .ref b0), (1, .int (sJ p1)), (2, .ref (sA Δ 0)), (3, .int (sJ (wr (4 + v335)))), (5, .int (sJ x5j85))] [.int (sJ k1j85), .int (sJ k0j85)] := by
        intro x5j85 k0j85 k1j85 ij85 rj85 kj85 hx5j85 hk0j85 hk1j85 hij85 hwj85 h
        obtain ⟨hk432, h⟩ := h
        refine V.callSi (pc := 85) (As := [.int (sJ k1j85)]) (stk := [.int (sJ k0j85)]) hG (sm_L_told l Δ hk1j85 hij85 hwj85 h) mY_L_told kw_1755 kw_1756 ⟨Nat.le_trans (Nat.le_of_ble_eq_true rfl) hR.1, Nat.le_trans (Nat.le_of_ble_eq_true rfl) hR.2.1, Nat.le_trans (by omega) hR.2.2.1, Nat.le_trans (by omega) hR.2.2.2⟩ rfl (Nat.le_of_ble_eq_true rfl) dL_areProcesses_85 rfl (fun v425 i426 r427 hv428 hi429 hw430 hq431 => ?_)
        obtain ⟨e433, e434, h⟩ := hq431
        subst e433
        subst e434
        refine V.iadd (pc := 88) hG dL_areProcesses_88 ?_
        refine V.istore (pc := 89) (lv' := [(4, .int (sJ (wr (k0j85 + v425)))), (0, .ref b0), (1, .int (sJ p1)), (2, .ref (sA Δ 0)), (3, .int (sJ (wr (4 + v335)))), (5, .int (sJ x5j85))]) hG dL_areProcesses_89 (by decide) rfl ?_
        refine V.iinc (pc := 91) (lv' := [(5, .int (sJ (wr (x5j85 + 1)))), (4, .int (sJ (wr (k0j85 + v425)))), (0, .ref b0), (1, .int (sJ p1)), (2, .ref (sA Δ 0)), (3, .int (sJ (wr (4 + v335))))]) hG dL_areProcesses_91 5 rfl (by decide) rfl ?_
        refine V.goto (pc := 94) (tgt := 24) hG dL_areProcesses_94 (by decide) ?_
        refine V.pick [2, 3, 4, 5, 1, 0] rfl ?_
        exact ih24 (wr (k0j85 + v425)) (wr (x5j85 + 1)) ij85 rj85 kj85 ((sR_wr _)) ((sR_wr _)) hij85 hwj85 h
      refine V.iload (pc := 24) hG dL_areProcesses_24 5 rfl ?_
      refine V.iload_n (pc := 26) hG dL_areProcesses_26 rfl 3 rfl ?_
      obtain ⟨t436, f437⟩ := h
      refine V.icmp_ge (pc := 27) (tgt := 97) hG hx5_24 ((sR_wr _)) dL_areProcesses_27 (by decide) (fun c435 => ?_) (fun c435 => ?_)
      · have h := t436 c435
        clear t436 f437
        refine V.aload_n (pc := 97) hG dL_areProcesses_97 rfl 2 rfl ?_
        refine V.bipush (pc := 98) hG dL_areProcesses_98 (by decide) ?_
        refine V.iconst (pc := 100) hG dL_areProcesses_100 ?_
        refine V.iconst (pc := 101) hG dL_areProcesses_101 ?_
        obtain ⟨hk445, h⟩ := h
        refine V.mcallSi (pc := 102) (As := [.ref (sA Δ 0), .int (sJ 32), .int (sJ 0), .int (sJ 0)]) (stk := []) hG (sm_L_ask l Δ ((sR_l rfl)) ((sR_l rfl)) ((sR_l rfl)) hst hi_24 hw_24 h) mY_L_ask kw_917 kw_918 ⟨Nat.le_trans (Nat.le_of_ble_eq_true rfl) hR.1, Nat.le_trans (Nat.le_of_ble_eq_true rfl) hR.2.1, Nat.le_trans (by omega) hR.2.2.1, Nat.le_trans (by omega) hR.2.2.2⟩ rfl (Nat.le_of_ble_eq_true rfl) dL_areProcesses_102 rfl (fun v438 i439 r440 hv441 hi442 hw443 hq444 => ?_)
        have h := hq444
        refine V.ks (kc2 := (k_24 + 3)) (sl2 := 6 * (k_24 + 3)) (by omega) (by omega) ?_
        refine V.istore (pc := 105) (lv' := [(5, .int (sJ v438)), (0, .ref b0), (1, .int (sJ p1)), (2, .ref (sA Δ 0)), (3, .int (sJ (wr (4 + v335)))), (4, .int (sJ x4_24))]) hG dL_areProcesses_105 (by decide) rfl ?_
        refine V.aload_n (pc := 107) hG dL_areProcesses_107 rfl 3 rfl ?_
        refine V.iload (pc := 108) hG dL_areProcesses_108 0 rfl ?_
        refine V.ldc (pc := 110) (x := (-200005)) hG kw_1433 dL_areProcesses_110 ?_
        obtain ⟨f450, t449⟩ := h
        refine V.icmp_ne (pc := 112) (tgt := 120) hG hv441 ((sR_l rfl)) dL_areProcesses_112 (by decide) (fun c448 => ?_) (fun c448 => ?_)
        · have h := t449 c448
          clear t449 f450
          refine V.iload (pc := 120) hG dL_areProcesses_120 0 rfl ?_
          refine V.pick [3, 5, 0] rfl ?_
          exact jn122 x4_24 v438 v438 i439 r440 (k_24 + 3) hx4_24 hv441 hv441 hi442 hw443 h
        · have h := f450 c448
          clear t449 f450
          refine V.bipush (pc := 115) hG dL_areProcesses_115 (by decide) ?_
          refine V.goto (pc := 117) (tgt := 122) hG dL_areProcesses_117 (by decide) ?_
          refine V.pick [3, 5, 0] rfl ?_
          exact jn122 x4_24 v438 16 i439 r440 (k_24 + 3) hx4_24 hv441 ((sR_l rfl)) hi442 hw443 h
      · have h := f437 c435
        clear t436 f437
        refine V.iload (pc := 30) hG dL_areProcesses_30 4 rfl ?_
        refine V.aload_n (pc := 32) hG dL_areProcesses_32 rfl 2 rfl ?_
        refine V.bipush (pc := 33) hG dL_areProcesses_33 (by decide) ?_
        refine V.aload_n (pc := 35) hG dL_areProcesses_35 rfl 0 rfl ?_
        refine V.iload_n (pc := 36) hG dL_areProcesses_36 rfl 1 rfl ?_
        refine V.iconst (pc := 37) hG dL_areProcesses_37 ?_
        refine V.iadd (pc := 38) hG dL_areProcesses_38 ?_
        refine V.iconst (pc := 39) hG dL_areProcesses_39 ?_
        refine V.iload (pc := 40) hG dL_areProcesses_40 5 rfl ?_
        refine V.imul (pc := 42) hG dL_areProcesses_42 ?_
        refine V.iadd (pc := 43) hG dL_areProcesses_43 ?_
        refine V.iconst (pc := 44) hG dL_areProcesses_44 ?_
        obtain ⟨hk458, h⟩ := h
        refine V.callSi (pc := 45) (As := [.ref b0, .int (sJ (wr (wr (p1 + 1) + wr (3 * x5_24)))), .int (sJ 4)]) (stk := [.int (sJ 10), .ref (sA Δ 0), .int (sJ x4_24)]) hG (sm_L_pick l Δ hE0 ((sR_wr _)) ((sR_l rfl)) hi_24 hw_24 h) mY_L_pick kw_909 kw_910 ⟨Nat.le_trans (Nat.le_of_ble_eq_true rfl) hR.1, Nat.le_trans (Nat.le_of_ble_eq_true rfl) hR.2.1, Nat.le_trans (by omega) hR.2.2.1, Nat.le_trans (by omega) hR.2.2.2⟩ rfl (Nat.le_of_ble_eq_true rfl) dL_areProcesses_45 rfl (fun v451 i452 r453 hv454 hi455 hw456 hq457 => ?_)
        obtain ⟨e459, e460, h⟩ := hq457
        subst e459
        subst e460
        refine V.aload_n (pc := 48) hG dL_areProcesses_48 rfl 0 rfl ?_
        refine V.iload_n (pc := 49) hG dL_areProcesses_49 rfl 1 rfl ?_
        refine V.iconst (pc := 50) hG dL_areProcesses_50 ?_
        refine V.iadd (pc := 51) hG dL_areProcesses_51 ?_
        refine V.iconst (pc := 52) hG dL_areProcesses_52 ?_
        refine V.iload (pc := 53) hG dL_areProcesses_53 5 rfl ?_
        refine V.imul (pc := 55) hG dL_areProcesses_55 ?_
        refine V.iadd (pc := 56) hG dL_areProcesses_56 ?_
        refine V.iconst (pc := 57) hG dL_areProcesses_57 ?_
        obtain ⟨hk468, h⟩ := h
        refine V.callSi (pc := 58) (As := [.ref b0, .int (sJ (wr (wr (p1 + 2) + wr (3 * x5_24)))), .int (sJ 2)]) (stk := [.int (sJ v451), .int (sJ 10), .ref (sA Δ 0), .int (sJ x4_24)]) hG (sm_L_pick l Δ hE0 ((sR_wr _)) ((sR_l rfl)) hi_24 hw_24 h) mY_L_pick kw_909 kw_910 ⟨Nat.le_trans (Nat.le_of_ble_eq_true rfl) hR.1, Nat.le_trans (Nat.le_of_ble_eq_true rfl) hR.2.1, Nat.le_trans (by omega) hR.2.2.1, Nat.le_trans (by omega) hR.2.2.2⟩ rfl (Nat.le_of_ble_eq_true rfl) dL_areProcesses_58 rfl (fun v461 i462 r463 hv464 hi465 hw466 hq467 => ?_)
        obtain ⟨e469, e470, h⟩ := hq467
        subst e469
        subst e470
        refine V.aload_n (pc := 61) hG dL_areProcesses_61 rfl 0 rfl ?_
        refine V.iload_n (pc := 62) hG dL_areProcesses_62 rfl 1 rfl ?_
        refine V.iconst (pc := 63) hG dL_areProcesses_63 ?_
        refine V.iadd (pc := 64) hG dL_areProcesses_64 ?_
        refine V.iconst (pc := 65) hG dL_areProcesses_65 ?_
        refine V.iload (pc := 66) hG dL_areProcesses_66 5 rfl ?_
        refine V.imul (pc := 68) hG dL_areProcesses_68 ?_
        refine V.iadd (pc := 69) hG dL_areProcesses_69 ?_
        refine V.iconst (pc := 70) hG dL_areProcesses_70 ?_
        obtain ⟨hk478, h⟩ := h
        refine V.callSi (pc := 71) (As := [.ref b0, .int (sJ (wr (wr (p1 + 3) + wr (3 * x5_24)))), .int (sJ 2)]) (stk := [.int (sJ v461), .int (sJ v451), .int (sJ 10), .ref (sA Δ 0), .int (sJ x4_24)]) hG (sm_L_pick l Δ hE0 ((sR_wr _)) ((sR_l rfl)) hi_24 hw_24 h) mY_L_pick kw_909 kw_910 ⟨Nat.le_trans (Nat.le_of_ble_eq_true rfl) hR.1, Nat.le_trans (Nat.le_of_ble_eq_true rfl) hR.2.1, Nat.le_trans (by omega) hR.2.2.1, Nat.le_trans (by omega) hR.2.2.2⟩ rfl (Nat.le_of_ble_eq_true rfl) dL_areProcesses_71 rfl (fun v471 i472 r473 hv474 hi475 hw476 hq477 => ?_)
        obtain ⟨e479, e480, h⟩ := hq477
        subst e479
        subst e480
        obtain ⟨hk488, h⟩ := h
        refine V.callSWi (pc := 74) (na := 5) (As := [.ref (sA Δ 0), .int (sJ 10), .int (sJ v451), .int (sJ v461), .int (sJ v471)]) (stk := [.int (sJ x4_24)]) hG (sm_L_deed l Δ ((sR_l rfl)) hv454 hv464 hv474 hst hi_24 hw_24 h) kw_101 kl_L_deed ⟨by decide, by decide⟩ (by decide +kernel) kw_920 kw_921 ⟨Nat.le_trans (Nat.le_of_ble_eq_true rfl) hR.1, Nat.le_trans (Nat.le_of_ble_eq_true rfl) hR.2.1, Nat.le_trans (by omega) hR.2.2.1, Nat.le_trans (by omega) hR.2.2.2⟩ rfl (Nat.le_of_ble_eq_true rfl) dL_areProcesses_74 rfl (fun v481 i482 r483 hv484 hi485 hw486 hq487 => ?_)
        have h := hq487
        refine V.ks (kc2 := (k_24 + 3)) (sl2 := 6 * (k_24 + 3)) (by omega) (by omega) ?_
        obtain ⟨t492, f493⟩ := h
        refine V.if_le (pc := 77) (tgt := 84) hG hv484 dL_areProcesses_77 (by decide) (fun c491 => ?_) (fun c491 => ?_)
        · have h := t492 c491
          clear t492 f493
          refine V.iconst (pc := 84) hG dL_areProcesses_84 ?_
          refine V.pick [0, 1, 2, 3, 5] rfl ?_
          exact jn85 x5_24 x4_24 0 i482 r483 (k_24 + 3) hx5_24 hx4_24 ((sR_l rfl)) hi485 hw486 h
        · have h := f493 c491
          clear t492 f493
          refine V.iconst (pc := 80) hG dL_areProcesses_80 ?_
          refine V.goto (pc := 81) (tgt := 85) hG dL_areProcesses_81 (by decide) ?_
          refine V.pick [0, 1, 2, 3, 5] rfl ?_
          exact jn85 x5_24 x4_24 1 i482 r483 (k_24 + 3) hx5_24 hx4_24 ((sR_l rfl)) hi485 hw486 h
  refine V.pick [3, 4, 5, 2, 1, 0] rfl ?_
  exact lp24 n414 0 0 i r 6270 ((sR_l rfl)) ((sR_l rfl)) hi hw h
