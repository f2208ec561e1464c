set_option maxRecDepth 100000 in
set_option maxHeartbeats 4000000 in
theorem sm_LL {l : Launch} {Γ : Cx} {Δ : Wd} {R : Room} {Q0 : State → Prop} {i r : MI} {b0 L0 : Nat} {xs0 : Int → Int} (hE0 : EA Δ b0 L0 xs0) (hTD : TD Δ) (hnb : nb Δ) {Q : Int → MI → MI → Prop} (hst : l.stackTraces = false) (hR : 60 ≤ R.frames ∧ 2000 ≤ R.locals ∧ 300000 ≤ R.cells ∧ 1800000 ≤ R.slots) (hG : okG Γ Δ l R cL_law "SchedularyLaw" 2)
    (fin : ∀ {pc : Nat} {lv : List (Nat × Value)} {x : Int} {i' r' : MI} {kc sl : Nat}, decode cL_law pc = .ok (.ireturn, 1) → sR x → narrow .boolean (.int (sJ x)) = .int (sJ x) → kc ≤ 300000 → sl ≤ 1800000 → okI i' → Wf r' → Q x i' r' → V Γ Δ 504 false i' r' kc sl Q0 pc lv [.int (sJ x)])
    (hi : okI i) (hw : Wf r) (h : wp_LL i r L0 xs0 Q) : V Γ Δ 504 false i r 6270 (6 * 6270) Q0 8 [(0, .ref b0), (1, .ref (sA Δ 0))] [] := by
  have jn52 : ∀ (k0j52 : Int) (ij52 : MI) (rj52 : MI) (kj52 : Nat), sR k0j52 → okI ij52 → Wf rj52 → s52_LL k0j52 ij52 rj52 kj52 L0 xs0 Q → V Γ Δ 504 false ij52 rj52 kj52 (6 * kj52) Q0 52 [] [.int (sJ k0j52)] := by
    intro k0j52 ij52 rj52 kj52 hk0j52 hij52 hwj52 h
    obtain ⟨hk4, h⟩ := h
    obtain ⟨g3, h⟩ := h
    exact fin dL_law_52 hk0j52 (nar_z g3) hk4 (Nat.mul_le_mul_left 6 hk4) hij52 hwj52 h
  have jn51 : ∀  (ij51 : MI) (rj51 : MI) (kj51 : Nat), okI ij51 → Wf rj51 → s51_LL ij51 rj51 kj51 L0 xs0 Q → V Γ Δ 504 false ij51 rj51 kj51 (6 * kj51) Q0 51 [] [] := by
    intro ij51 rj51 kj51 hij51 hwj51 h
    refine V.iconst (pc := 51) hG dL_law_51 ?_
    exact jn52 0 ij51 rj51 kj51 ((sR_l rfl)) hij51 hwj51 h
  refine V.aload_n (pc := 8) hG dL_law_8 rfl 1 rfl ?_
  refine V.aload_n (pc := 9) hG dL_law_9 rfl 0 rfl ?_
  obtain ⟨hk12, h⟩ := h
  refine V.mcallSi (pc := 10) (As := [.ref (sA Δ 0), .ref b0]) (stk := []) hG (sm_L_isWritten l Δ hE0 hTD hnb hst hi hw h) mY_L_isWritten kw_906 kw_907 ⟨Nat.le_trans (Nat.le_of_ble_eq_true rfl) hR.1, Nat.le_trans (Nat.le_of_ble_eq_true rfl) hR.2.1, Nat.le_trans (by omega) hR.2.2.1, Nat.le_trans (by omega) hR.2.2.2⟩ rfl (Nat.le_of_ble_eq_true rfl) dL_law_10 rfl (fun v5 i6 r7 hv8 hi9 hw10 hq11 => ?_)
  have h := hq11
  refine V.ks (kc2 := (6270 + 6000)) (sl2 := 6 * (6270 + 6000)) (by omega) (by omega) ?_
  obtain ⟨t16, f17⟩ := h
  refine V.if_eq (pc := 13) (tgt := 51) hG hv8 dL_law_13 (by decide) (fun c15 => ?_) (fun c15 => ?_)
  · have h := t16 c15
    clear t16 f17
    refine V.pick [] rfl ?_
    exact jn51 i6 r7 (6270 + 6000) hi9 hw10 h
  · have h := f17 c15
    clear t16 f17
    refine V.aload_n (pc := 16) hG dL_law_16 rfl 1 rfl ?_
    obtain ⟨hk25, h⟩ := h
    refine V.mcallSi (pc := 17) (As := [.ref (sA Δ 0)]) (stk := []) hG (sm_L_isSame l Δ  hst hi9 hw10 h) mY_L_isSame kw_1720 kw_1721 ⟨Nat.le_trans (Nat.le_of_ble_eq_true rfl) hR.1, Nat.le_trans (Nat.le_of_ble_eq_true rfl) hR.2.1, Nat.le_trans (by omega) hR.2.2.1, Nat.le_trans (by omega) hR.2.2.2⟩ rfl (Nat.le_of_ble_eq_true rfl) dL_law_17 rfl (fun v18 i19 r20 hv21 hi22 hw23 hq24 => ?_)
    have h := hq24
    refine V.ks (kc2 := ((6270 + 6000) + 1500)) (sl2 := 6 * ((6270 + 6000) + 1500)) (by omega) (by omega) ?_
    obtain ⟨t29, f30⟩ := h
    refine V.if_eq (pc := 20) (tgt := 51) hG hv21 dL_law_20 (by decide) (fun c28 => ?_) (fun c28 => ?_)
    · have h := t29 c28
      clear t29 f30
      refine V.pick [] rfl ?_
      exact jn51 i19 r20 ((6270 + 6000) + 1500) hi22 hw23 h
    · have h := f30 c28
      clear t29 f30
      refine V.aload_n (pc := 23) hG dL_law_23 rfl 1 rfl ?_
      obtain ⟨hk38, h⟩ := h
      refine V.mcallSi (pc := 24) (As := [.ref (sA Δ 0)]) (stk := []) hG (sm_L_areKept l Δ hnb hst hi22 hw23 h) mY_L_areKept kw_1735 kw_1736 ⟨Nat.le_trans (Nat.le_of_ble_eq_true rfl) hR.1, Nat.le_trans (Nat.le_of_ble_eq_true rfl) hR.2.1, Nat.le_trans (by omega) hR.2.2.1, Nat.le_trans (by omega) hR.2.2.2⟩ rfl (Nat.le_of_ble_eq_true rfl) dL_law_24 rfl (fun v31 i32 r33 hv34 hi35 hw36 hq37 => ?_)
      have h := hq37
      refine V.ks (kc2 := (((6270 + 6000) + 1500) + 270000)) (sl2 := 6 * (((6270 + 6000) + 1500) + 270000)) (by omega) (by omega) ?_
      obtain ⟨t42, f43⟩ := h
      refine V.if_eq (pc := 27) (tgt := 51) hG hv34 dL_law_27 (by decide) (fun c41 => ?_) (fun c41 => ?_)
      · have h := t42 c41
        clear t42 f43
        refine V.pick [] rfl ?_
        exact jn51 i32 r33 (((6270 + 6000) + 1500) + 270000) hi35 hw36 h
      · have h := f43 c41
        clear t42 f43
        refine V.aload_n (pc := 30) hG dL_law_30 rfl 0 rfl ?_
        refine V.sipush (pc := 31) hG dL_law_31 (by decide) ?_
        obtain ⟨hk51, h⟩ := h
        refine V.mcallSi (pc := 34) (As := [.ref b0, .int (sJ 200)]) (stk := []) hG (sm_L_areProcesses l Δ hE0 ((sR_l rfl)) hst hi35 hw36 h) mY_L_areProcesses kw_1771 kw_1772 ⟨Nat.le_trans (Nat.le_of_ble_eq_true rfl) hR.1, Nat.le_trans (Nat.le_of_ble_eq_true rfl) hR.2.1, Nat.le_trans (by omega) hR.2.2.1, Nat.le_trans (by omega) hR.2.2.2⟩ rfl (Nat.le_of_ble_eq_true rfl) dL_law_34 rfl (fun v44 i45 r46 hv47 hi48 hw49 hq50 => ?_)
        have h := hq50
        refine V.ks (kc2 := ((((6270 + 6000) + 1500) + 270000) + 6500)) (sl2 := 6 * ((((6270 + 6000) + 1500) + 270000) + 6500)) (by omega) (by omega) ?_
        obtain ⟨t55, f56⟩ := h
        refine V.if_eq (pc := 37) (tgt := 51) hG hv47 dL_law_37 (by decide) (fun c54 => ?_) (fun c54 => ?_)
        · have h := t55 c54
          clear t55 f56
          refine V.pick [] rfl ?_
          exact jn51 i45 r46 ((((6270 + 6000) + 1500) + 270000) + 6500) hi48 hw49 h
        · have h := f56 c54
          clear t55 f56
          refine V.aload_n (pc := 40) hG dL_law_40 rfl 1 rfl ?_
          obtain ⟨hk69, h⟩ := h
          refine V.callVi (pc := 41) (As := []) (stk := []) hG (sm_X11_isSound l Δ  hi48 hw49 h) mY_X11_isSound kw_557 kw_558 kw_559 a_0 (by decide) (q := (RX11, TX11, 11)) rfl rfl ⟨Nat.le_trans (Nat.le_of_ble_eq_true rfl) hR.1, Nat.le_trans (Nat.le_of_ble_eq_true rfl) hR.2.1, Nat.le_trans hk69 hR.2.2.1, Nat.le_trans (Nat.mul_le_mul_left 6 hk69) hR.2.2.2⟩ rfl (Nat.le_of_ble_eq_true rfl) dL_law_41 rfl (fun v57 i58 r59 hv60 hi61 hw62 hq63 => ?_)
          have h := hq63
          obtain ⟨t65, f66⟩ := h
          refine V.if_eq (pc := 44) (tgt := 51) hG hv60 dL_law_44 (by decide) (fun c64 => ?_) (fun c64 => ?_)
          · have h := t65 c64
            clear t65 f66
            refine V.pick [] rfl ?_
            exact jn51 i58 r59 ((((6270 + 6000) + 1500) + 270000) + 6500) hi61 hw62 h
          · have h := f66 c64
            clear t65 f66
            refine V.iconst (pc := 47) hG dL_law_47 ?_
            refine V.goto (pc := 48) (tgt := 52) hG dL_law_48 (by decide) ?_
            refine V.pick [] rfl ?_
            exact jn52 1 i58 r59 ((((6270 + 6000) + 1500) + 270000) + 6500) ((sR_l rfl)) hi61 hw62 h
