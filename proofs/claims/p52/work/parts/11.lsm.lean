set_option maxRecDepth 100000 in
set_option maxHeartbeats 4000000 in
theorem sm_L_cell (l : Launch) (Δ : Wd) {i r : MI} {b0 L0 : Nat} {xs0 : Int → Int} {p1 : Int} (hE0 : EA Δ b0 L0 xs0) (hp1 : sR p1) {Q : Int → Prop} (hi : okI i) (hw : Wf r) (h : wp_L_cell p1 i r L0 xs0 Q) : Met l yL_cell (Cond.code yL_cell cL_cell 3 (some .int) :: gW) (sRm 0 0) (sPc Δ [.ref b0, .int (sJ p1)] i r) (sQi Δ (fun x i' r' => i = i' ∧ r = r' ∧ Q x)) 0 0 (sFr Δ) := by
  refine Ct.i (ty := .int) (by decide) rfl (Nat.le_of_ble_eq_true rfl) (fun Γ Q0 hG fin => ?_)
  have hG : okG Γ Δ l (sRm 0 0) cL_cell "SchedularyLaw" 3 := hG
  show V Γ Δ 504 false i r 0 0 Q0 0 [(0, .ref b0), (1, .int (sJ p1))] []
  have jn15 : ∀ (k0j15 : Int) (k1j15 : Int), sR k0j15 → sR k1j15 → s15_L_cell p1 k0j15 k1j15 i r L0 xs0 Q → V Γ Δ 504 false i r 0 0 Q0 15 [(1, .int (sJ p1))] [.int (sJ k1j15), .int (sJ k0j15)] := by
    intro k0j15 k1j15 hk0j15 hk1j15 h
    refine V.sipush (pc := 15) hG dL_cell_15 (by decide) ?_
    refine V.iload_n (pc := 18) hG dL_cell_18 rfl 0 rfl ?_
    refine V.imul (pc := 19) hG dL_cell_19 ?_
    refine V.iadd (pc := 20) hG dL_cell_20 ?_
    refine V.imul (pc := 21) hG dL_cell_21 ?_
    refine V.sipush (pc := 22) hG dL_cell_22 (by decide) ?_
    refine V.iadd (pc := 25) hG dL_cell_25 ?_
    refine V.istore_n (pc := 26) (lv' := [(2, .int (sJ (wr (wr (k0j15 * wr (k1j15 + wr (1009 * p1))) + 12345)))), (1, .int (sJ p1))]) hG dL_cell_26 rfl (by decide) rfl ?_
    refine V.iload_n (pc := 27) hG dL_cell_27 rfl 0 rfl ?_
    refine V.iload_n (pc := 28) hG dL_cell_28 rfl 0 rfl ?_
    refine V.bipush (pc := 29) hG dL_cell_29 (by decide) ?_
    refine V.iushr (pc := 31) hG dL_cell_31 ?_
    refine V.ixor (pc := 32) hG dL_cell_32 ?_
    refine V.ldc (pc := 33) (x := 1103515245) hG kw_916 dL_cell_33 ?_
    refine V.imul (pc := 35) hG dL_cell_35 ?_
    refine V.istore_n (pc := 36) (lv' := [(2, .int (sJ (wr (iXor (wr (wr (k0j15 * wr (k1j15 + wr (1009 * p1))) + 12345)) (iUshr (wr (wr (k0j15 * wr (k1j15 + wr (1009 * p1))) + 12345)) 13) * 1103515245)))), (1, .int (sJ p1))]) hG dL_cell_36 rfl (by decide) rfl ?_
    refine V.iload_n (pc := 37) hG dL_cell_37 rfl 0 rfl ?_
    refine V.iload_n (pc := 38) hG dL_cell_38 rfl 0 rfl ?_
    refine V.bipush (pc := 39) hG dL_cell_39 (by decide) ?_
    refine V.iushr (pc := 41) hG dL_cell_41 ?_
    refine V.ixor (pc := 42) hG dL_cell_42 ?_
    exact fin dL_cell_43 ((sR_xor _ _)) rfl hi hw ⟨rfl, rfl, h⟩
  refine V.ldc (pc := 0) (x := 69069) hG kw_915 dL_cell_0 ?_
  refine V.iload_n (pc := 2) hG dL_cell_2 rfl 1 rfl ?_
  refine V.aload_n (pc := 3) hG dL_cell_3 rfl 0 rfl ?_
  refine V.ealen (pc := 4) hG hE0 dL_cell_4 ?_
  obtain ⟨t2, f3⟩ := h
  refine V.icmp_ge (pc := 5) (tgt := 14) hG hp1 ((sR_nat hE0.2.2)) dL_cell_5 (by decide) (fun c1 => ?_) (fun c1 => ?_)
  · have h := t2 c1
    clear t2 f3
    refine V.iconst (pc := 14) hG dL_cell_14 ?_
    refine V.pick [1] rfl ?_
    exact jn15 69069 0 ((sR_l rfl)) ((sR_l rfl)) h
  · have h := f3 c1
    clear t2 f3
    refine V.aload_n (pc := 8) hG dL_cell_8 rfl 0 rfl ?_
    refine V.iload_n (pc := 9) hG dL_cell_9 rfl 1 rfl ?_
    obtain ⟨g4, h⟩ := h
    refine V.eald (pc := 10) hG hE0 hp1 g4 dL_cell_10 ?_
    refine V.goto (pc := 11) (tgt := 15) hG dL_cell_11 (by decide) ?_
    refine V.pick [1] rfl ?_
    exact jn15 69069 (xs0 p1) ((sR_l rfl)) ((hE0.2.1 _)) h
set_option maxRecDepth 100000 in
set_option maxHeartbeats 4000000 in
theorem sm_L_pick (l : Launch) (Δ : Wd) {i r : MI} {b0 L0 : Nat} {xs0 : Int → Int} {p1 : Int} {p2 : Int} (hE0 : EA Δ b0 L0 xs0) (hp1 : sR p1) (hp2 : sR p2) {Q : Int → Prop} (hi : okI i) (hw : Wf r) (h : wp_L_pick p1 p2 i r L0 xs0 Q) : Met l yL_pick (Cond.code yL_pick cL_pick 3 (some .int) :: gW) (sRm 1 22) (sPc Δ [.ref b0, .int (sJ p1), .int (sJ p2)] i r) (sQi Δ (fun x i' r' => i = i' ∧ r = r' ∧ Q x)) 0 0 (sFr Δ) := by
  refine Ct.i (ty := .int) (by decide) rfl (Nat.le_of_ble_eq_true rfl) (fun Γ Q0 hG fin => ?_)
  have hG : okG Γ Δ l (sRm 1 22) cL_pick "SchedularyLaw" 3 := hG
  show V Γ Δ 504 false i r 0 0 Q0 0 [(0, .ref b0), (1, .int (sJ p1)), (2, .int (sJ p2))] []
  refine V.aload_n (pc := 0) hG dL_pick_0 rfl 0 rfl ?_
  refine V.iload_n (pc := 1) hG dL_pick_1 rfl 1 rfl ?_
  refine V.callSi (pc := 2) (As := [.ref b0, .int (sJ p1)]) (stk := []) hG (sm_L_cell l Δ hE0 hp1 hi hw h) mY_L_cell kw_912 kw_913 ⟨Nat.le_of_ble_eq_true rfl, Nat.le_of_ble_eq_true rfl, Nat.le_of_ble_eq_true rfl, Nat.le_of_ble_eq_true rfl⟩ rfl (Nat.le_of_ble_eq_true rfl) dL_pick_2 rfl (fun v1 i2 r3 hv4 hi5 hw6 hq7 => ?_)
  obtain ⟨e9, e10, h⟩ := hq7
  subst e9
  subst e10
  refine V.bipush (pc := 5) hG dL_pick_5 (by decide) ?_
  refine V.iushr (pc := 7) hG dL_pick_7 ?_
  refine V.iload_n (pc := 8) hG dL_pick_8 rfl 2 rfl ?_
  obtain ⟨g11, h⟩ := h
  refine V.irem (pc := 9) hG ((sR_ushr _ _)) hp2 g11 dL_pick_9 ?_
  exact fin dL_pick_10 ((sR_tmod ((sR_ushr _ _)))) rfl hi hw ⟨rfl, rfl, h⟩
set_option maxRecDepth 100000 in
set_option maxHeartbeats 4000000 in
theorem sm_L_told (l : Launch) (Δ : Wd) {i r : MI} {p0 : Int} (hp0 : sR p0) {Q : Int → Prop} (hi : okI i) (hw : Wf r) (h : wp_L_told p0 i r Q) : Met l yL_told (Cond.code yL_told cL_told 1 (some .int) :: gW) (sRm 0 0) (sPc Δ [.int (sJ p0)] i r) (sQi Δ (fun x i' r' => i = i' ∧ r = r' ∧ Q x)) 0 0 (sFr Δ) := by
  refine Ct.i (ty := .int) (by decide) rfl (Nat.le_of_ble_eq_true rfl) (fun Γ Q0 hG fin => ?_)
  have hG : okG Γ Δ l (sRm 0 0) cL_told "SchedularyLaw" 1 := hG
  show V Γ Δ 504 false i r 0 0 Q0 0 [(0, .int (sJ p0))] []
  have jn9 : ∀ (k0j9 : Int), sR k0j9 → s9_L_told k0j9 i r Q → V Γ Δ 504 false i r 0 0 Q0 9 [] [.int (sJ k0j9)] := by
    intro k0j9 hk0j9 h
    exact fin dL_told_9 hk0j9 rfl hi hw ⟨rfl, rfl, h⟩
  refine V.iload_n (pc := 0) hG dL_told_0 rfl 0 rfl ?_
  obtain ⟨t2, f3⟩ := h
  refine V.if_eq (pc := 1) (tgt := 8) hG hp0 dL_told_1 (by decide) (fun c1 => ?_) (fun c1 => ?_)
  · have h := t2 c1
    clear t2 f3
    refine V.iconst (pc := 8) hG dL_told_8 ?_
    refine V.pick [] rfl ?_
    exact jn9 0 ((sR_l rfl)) h
  · have h := f3 c1
    clear t2 f3
    refine V.iconst (pc := 4) hG dL_told_4 ?_
    refine V.goto (pc := 5) (tgt := 9) hG dL_told_5 (by decide) ?_
    refine V.pick [] rfl ?_
    exact jn9 1 ((sR_l rfl)) h
set_option maxRecDepth 100000 in
set_option maxHeartbeats 4000000 in
theorem sm_L_done (l : Launch) (Δ : Wd) {i r : MI} {p1 : Int} {p2 : Int} {p3 : Int} {p4 : Int} (hp1 : sR p1) (hp2 : sR p2) (hp3 : sR p3) (hp4 : sR p4) {Q : Int → MI → MI → Prop} {X : String → MI → MI → Prop} (hst : l.stackTraces = false) (hi : okI i) (hw : Wf r) (h : wp_L_done p1 p2 p3 p4 i r Q X) : vx_Met l yL_done (Cond.code yL_done cL_done 5 (some .int) :: gW) (sRx 8 179 1 6) (sPc Δ [.ref (sA Δ 0), .int (sJ p1), .int (sJ p2), .int (sJ p3), .int (sJ p4)] i r) (sQi Δ (Q)) (sX Δ (X)) 1 6 (sFr Δ) := by
  refine Cx.i (ty := .int) (by decide) rfl (Nat.le_of_ble_eq_true rfl) hst (by decide) (by decide) (fun Γ Q0 hG fin xout xthr => ?_)
  have hG : okG Γ Δ l (sRx 8 179 1 6) cL_done "SchedularyLaw" 5 := hG
  show V Γ Δ 504 false i r 0 0 Q0 0 [(0, .ref (sA Δ 0)), (1, .int (sJ p1)), (2, .int (sJ p2)), (3, .int (sJ p3)), (4, .int (sJ p4))] []
  have jn146 : ∀ (k1j146 : Int) (k2j146 : Int) (k3j146 : Int) (ij146 : MI) (rj146 : MI), sR k1j146 → sR k2j146 → sR k3j146 → okI ij146 → Wf rj146 → s146_L_done k1j146 k2j146 k3j146 ij146 rj146 Q X → V Γ Δ 504 false ij146 rj146 0 0 Q0 146 [] [.int (sJ k3j146), .int (sJ k2j146), .int (sJ k1j146), .ref (sA Δ 0)] := by
    intro k1j146 k2j146 k3j146 ij146 rj146 hk1j146 hk2j146 hk3j146 hij146 hwj146 h
    refine V.xcallVi (pc := 146) (As := [.int (sJ k1j146), .int (sJ k2j146), .int (sJ k3j146)]) (stk := []) hG (sm_X11_action l Δ hk1j146 hk2j146 hk3j146 hst hij146 hwj146 h) mY_X11_action kw_1284 kw_1285 kw_1286 a_0 (by decide) (q := (RX11, TX11, 11)) rfl rfl ⟨Nat.le_of_ble_eq_true rfl, Nat.le_of_ble_eq_true rfl, Nat.le_of_ble_eq_true rfl, Nat.le_of_ble_eq_true rfl⟩ rfl (Nat.le_of_ble_eq_true rfl) dL_done_146 rfl (fun z25 z26 z27 z28 z29 z30 => ?_) (fun v18 i19 r20 hv21 hi22 hw23 hq24 => ?_)
    · obtain ⟨e31, h⟩ := z30
      subst e31
      exact xout (by decide) (by decide) z28 hwj146 h
    · obtain ⟨e34, h⟩ := hq24
      subst e34
      exact fin dL_done_149 hv21 rfl (by decide) (by decide) hi22 hwj146 h
  refine V.iload_n (pc := 0) hG dL_done_0 rfl 1 rfl ?_
  obtain ⟨t36, f37⟩ := h
  by_cases c35 : p1 = 0
  · have h := t36 c35
    clear t36 f37
    refine V.tableIn (pc := 1) (tgt := 64) (off := 63) hG hp1 dL_done_1 (by omega) (by omega) (by rw [c35]; rfl) (by decide) ?_
    refine V.aload_n (pc := 64) hG dL_done_64 rfl 0 rfl ?_
    refine V.iload_n (pc := 65) hG dL_done_65 rfl 2 rfl ?_
    refine V.i2c (pc := 66) hG hp2 dL_done_66 ?_
    refine V.xcallVi (pc := 67) (As := [.int (sJ ((p2) % 65536))]) (stk := []) hG (sm_X11_type l Δ sR_c hst hi hw h) mY_X11_type kw_1009 kw_1010 kw_1011 a_0 (by decide) (q := (RX11, TX11, 11)) rfl rfl ⟨Nat.le_of_ble_eq_true rfl, Nat.le_of_ble_eq_true rfl, Nat.le_of_ble_eq_true rfl, Nat.le_of_ble_eq_true rfl⟩ rfl (Nat.le_of_ble_eq_true rfl) dL_done_67 rfl (fun z45 z46 z47 z48 z49 z50 => ?_) (fun v38 i39 r40 hv41 hi42 hw43 hq44 => ?_)
    · obtain ⟨e51, h⟩ := z50
      subst e51
      exact xout (by decide) (by decide) z48 hw h
    · obtain ⟨e54, h⟩ := hq44
      subst e54
      exact fin dL_done_70 hv41 rfl (by decide) (by decide) hi42 hw h
  · have h := f37 c35
    clear t36 f37
    obtain ⟨t56, f57⟩ := h
    by_cases c55 : p1 = 1
    · have h := t56 c55
      clear t56 f57
      refine V.tableIn (pc := 1) (tgt := 71) (off := 70) hG hp1 dL_done_1 (by omega) (by omega) (by rw [c55]; rfl) (by decide) ?_
      refine V.aload_n (pc := 71) hG dL_done_71 rfl 0 rfl ?_
      refine V.xcallVi (pc := 72) (As := []) (stk := []) hG (sm_X11_add l Δ  hst hi hw h) mY_X11_add kw_1132 kw_1133 kw_1134 a_0 (by decide) (q := (RX11, TX11, 11)) rfl rfl ⟨Nat.le_of_ble_eq_true rfl, Nat.le_of_ble_eq_true rfl, Nat.le_of_ble_eq_true rfl, Nat.le_of_ble_eq_true rfl⟩ rfl (Nat.le_of_ble_eq_true rfl) dL_done_72 rfl (fun z65 z66 z67 z68 z69 z70 => ?_) (fun v58 i59 r60 hv61 hi62 hw63 hq64 => ?_)
      · have h := z70
        exact xout (by decide) (by decide) z68 z69 h
      · have h := hq64
        exact fin dL_done_75 hv61 rfl (by decide) (by decide) hi62 hw63 h
    · have h := f57 c55
      clear t56 f57
      obtain ⟨t76, f77⟩ := h
      by_cases c75 : p1 = 2
      · have h := t76 c75
        clear t76 f77
        refine V.tableIn (pc := 1) (tgt := 76) (off := 75) hG hp1 dL_done_1 (by omega) (by omega) (by rw [c75]; rfl) (by decide) ?_
        refine V.aload_n (pc := 76) hG dL_done_76 rfl 0 rfl ?_
        refine V.iload_n (pc := 77) hG dL_done_77 rfl 2 rfl ?_
        refine V.xcallVi (pc := 78) (As := [.int (sJ p2)]) (stk := []) hG (sm_X11_replace l Δ hp2 hst hi hw h) mY_X11_replace kw_1200 kw_1201 kw_1202 a_0 (by decide) (q := (RX11, TX11, 11)) rfl rfl ⟨Nat.le_of_ble_eq_true rfl, Nat.le_of_ble_eq_true rfl, Nat.le_of_ble_eq_true rfl, Nat.le_of_ble_eq_true rfl⟩ rfl (Nat.le_of_ble_eq_true rfl) dL_done_78 rfl (fun z85 z86 z87 z88 z89 z90 => ?_) (fun v78 i79 r80 hv81 hi82 hw83 hq84 => ?_)
        · have h := z90
          exact xout (by decide) (by decide) z88 z89 h
        · have h := hq84
          exact fin dL_done_81 hv81 rfl (by decide) (by decide) hi82 hw83 h
      · have h := f77 c75
        clear t76 f77
        obtain ⟨t96, f97⟩ := h
        by_cases c95 : p1 = 3
        · have h := t96 c95
          clear t96 f97
          refine V.tableIn (pc := 1) (tgt := 82) (off := 81) hG hp1 dL_done_1 (by omega) (by omega) (by rw [c95]; rfl) (by decide) ?_
          refine V.aload_n (pc := 82) hG dL_done_82 rfl 0 rfl ?_
          refine V.iload_n (pc := 83) hG dL_done_83 rfl 2 rfl ?_
          refine V.xcallVi (pc := 84) (As := [.int (sJ p2)]) (stk := []) hG (sm_X11_setTurns l Δ hp2 hst hi hw h) mY_X11_setTurns kw_1217 kw_1218 kw_1219 a_0 (by decide) (q := (RX11, TX11, 11)) rfl rfl ⟨Nat.le_of_ble_eq_true rfl, Nat.le_of_ble_eq_true rfl, Nat.le_of_ble_eq_true rfl, Nat.le_of_ble_eq_true rfl⟩ rfl (Nat.le_of_ble_eq_true rfl) dL_done_84 rfl (fun z105 z106 z107 z108 z109 z110 => ?_) (fun v98 i99 r100 hv101 hi102 hw103 hq104 => ?_)
          · obtain ⟨e111, h⟩ := z110
            subst e111
            exact xout (by decide) (by decide) z108 hw h
          · obtain ⟨e114, h⟩ := hq104
            subst e114
            exact fin dL_done_87 hv101 rfl (by decide) (by decide) hi102 hw h
        · have h := f97 c95
          clear t96 f97
          obtain ⟨t116, f117⟩ := h
          by_cases c115 : p1 = 4
          · have h := t116 c115
            clear t116 f117
            refine V.tableIn (pc := 1) (tgt := 88) (off := 87) hG hp1 dL_done_1 (by omega) (by omega) (by rw [c115]; rfl) (by decide) ?_
            refine V.aload_n (pc := 88) hG dL_done_88 rfl 0 rfl ?_
            refine V.iload_n (pc := 89) hG dL_done_89 rfl 2 rfl ?_
            refine V.xcallVi (pc := 90) (As := [.int (sJ p2)]) (stk := []) hG (sm_X11_setBits l Δ hp2 hst hi hw h) mY_X11_setBits kw_1245 kw_1246 kw_1247 a_0 (by decide) (q := (RX11, TX11, 11)) rfl rfl ⟨Nat.le_of_ble_eq_true rfl, Nat.le_of_ble_eq_true rfl, Nat.le_of_ble_eq_true rfl, Nat.le_of_ble_eq_true rfl⟩ rfl (Nat.le_of_ble_eq_true rfl) dL_done_90 rfl (fun z125 z126 z127 z128 z129 z130 => ?_) (fun v118 i119 r120 hv121 hi122 hw123 hq124 => ?_)
            · obtain ⟨e131, h⟩ := z130
              subst e131
              exact xout (by decide) (by decide) z128 hw h
            · obtain ⟨e134, h⟩ := hq124
              subst e134
              exact fin dL_done_93 hv121 rfl (by decide) (by decide) hi122 hw h
          · have h := f117 c115
            clear t116 f117
            obtain ⟨t136, f137⟩ := h
            by_cases c135 : p1 = 5
            · have h := t136 c135
              clear t136 f137
              refine V.tableIn (pc := 1) (tgt := 94) (off := 93) hG hp1 dL_done_1 (by omega) (by omega) (by rw [c135]; rfl) (by decide) ?_
              refine V.aload_n (pc := 94) hG dL_done_94 rfl 0 rfl ?_
              refine V.iload_n (pc := 95) hG dL_done_95 rfl 2 rfl ?_
              refine V.xcallVi (pc := 96) (As := [.int (sJ p2)]) (stk := []) hG (sm_X11_unroll l Δ hp2 hst hi hw h) mY_X11_unroll kw_1250 kw_1251 kw_1252 a_0 (by decide) (q := (RX11, TX11, 11)) rfl rfl ⟨Nat.le_of_ble_eq_true rfl, Nat.le_of_ble_eq_true rfl, Nat.le_of_ble_eq_true rfl, Nat.le_of_ble_eq_true rfl⟩ rfl (Nat.le_of_ble_eq_true rfl) dL_done_96 rfl (fun z145 z146 z147 z148 z149 z150 => ?_) (fun v138 i139 r140 hv141 hi142 hw143 hq144 => ?_)
              · have h := z150
                exact xout (by decide) (by decide) z148 z149 h
              · have h := hq144
                exact fin dL_done_99 hv141 rfl (by decide) (by decide) hi142 hw143 h
            · have h := f137 c135
              clear t136 f137
              obtain ⟨t156, f157⟩ := h
              by_cases c155 : p1 = 6
              · have h := t156 c155
                clear t156 f157
                refine V.tableIn (pc := 1) (tgt := 100) (off := 99) hG hp1 dL_done_1 (by omega) (by omega) (by rw [c155]; rfl) (by decide) ?_
                refine V.aload_n (pc := 100) hG dL_done_100 rfl 0 rfl ?_
                refine V.iload_n (pc := 101) hG dL_done_101 rfl 2 rfl ?_
                refine V.xcallVi (pc := 102) (As := [.int (sJ p2)]) (stk := []) hG (sm_X11_input l Δ hp2 hst hi hw h) mY_X11_input kw_1256 kw_1257 kw_1258 a_0 (by decide) (q := (RX11, TX11, 11)) rfl rfl ⟨Nat.le_of_ble_eq_true rfl, Nat.le_of_ble_eq_true rfl, Nat.le_of_ble_eq_true rfl, Nat.le_of_ble_eq_true rfl⟩ rfl (Nat.le_of_ble_eq_true rfl) dL_done_102 rfl (fun z165 z166 z167 z168 z169 z170 => ?_) (fun v158 i159 r160 hv161 hi162 hw163 hq164 => ?_)
                · obtain ⟨e171, h⟩ := z170
                  subst e171
                  exact xout (by decide) (by decide) z168 hw h
                · obtain ⟨e174, h⟩ := hq164
                  subst e174
                  exact fin dL_done_105 hv161 rfl (by decide) (by decide) hi162 hw h
              · have h := f157 c155
                clear t156 f157
                obtain ⟨t176, f177⟩ := h
                by_cases c175 : p1 = 7
                · have h := t176 c175
                  clear t176 f177
                  refine V.tableIn (pc := 1) (tgt := 106) (off := 105) hG hp1 dL_done_1 (by omega) (by omega) (by rw [c175]; rfl) (by decide) ?_
                  refine V.aload_n (pc := 106) hG dL_done_106 rfl 0 rfl ?_
                  refine V.iload_n (pc := 107) hG dL_done_107 rfl 2 rfl ?_
                  refine V.i2c (pc := 108) hG hp2 dL_done_108 ?_
                  refine V.iload_n (pc := 109) hG dL_done_109 rfl 3 rfl ?_
                  refine V.iload (pc := 110) hG dL_done_110 4 rfl ?_
                  refine V.xcallVi (pc := 112) (As := [.int (sJ ((p2) % 65536)), .int (sJ p3), .int (sJ p4)]) (stk := []) hG (sm_X11_setMemory l Δ sR_c hp3 hp4 hst hi hw h) mY_X11_setMemory kw_1263 kw_1264 kw_1265 a_0 (by decide) (q := (RX11, TX11, 11)) rfl rfl ⟨Nat.le_of_ble_eq_true rfl, Nat.le_of_ble_eq_true rfl, Nat.le_of_ble_eq_true rfl, Nat.le_of_ble_eq_true rfl⟩ rfl (Nat.le_of_ble_eq_true rfl) dL_done_112 rfl (fun z185 z186 z187 z188 z189 z190 => ?_) (fun v178 i179 r180 hv181 hi182 hw183 hq184 => ?_)
                  · obtain ⟨e191, h⟩ := z190
                    subst e191
                    exact xout (by decide) (by decide) z188 hw h
                  · obtain ⟨e194, h⟩ := hq184
                    subst e194
                    exact fin dL_done_115 hv181 rfl (by decide) (by decide) hi182 hw h
                · have h := f177 c175
                  clear t176 f177
                  obtain ⟨t196, f197⟩ := h
                  by_cases c195 : p1 = 8
                  · have h := t196 c195
                    clear t196 f197
                    refine V.tableIn (pc := 1) (tgt := 116) (off := 115) hG hp1 dL_done_1 (by omega) (by omega) (by rw [c195]; rfl) (by decide) ?_
                    refine V.aload_n (pc := 116) hG dL_done_116 rfl 0 rfl ?_
                    refine V.iload_n (pc := 117) hG dL_done_117 rfl 2 rfl ?_
                    refine V.i2c (pc := 118) hG hp2 dL_done_118 ?_
                    refine V.iload_n (pc := 119) hG dL_done_119 rfl 3 rfl ?_
                    refine V.xcallVi (pc := 120) (As := [.int (sJ ((p2) % 65536)), .int (sJ p3)]) (stk := []) hG (sm_X11_setUnits l Δ sR_c hp3 hst hi hw h) mY_X11_setUnits kw_1272 kw_1273 kw_1274 a_0 (by decide) (q := (RX11, TX11, 11)) rfl rfl ⟨Nat.le_of_ble_eq_true rfl, Nat.le_of_ble_eq_true rfl, Nat.le_of_ble_eq_true rfl, Nat.le_of_ble_eq_true rfl⟩ rfl (Nat.le_of_ble_eq_true rfl) dL_done_120 rfl (fun z205 z206 z207 z208 z209 z210 => ?_) (fun v198 i199 r200 hv201 hi202 hw203 hq204 => ?_)
                    · obtain ⟨e211, h⟩ := z210
                      subst e211
                      exact xout (by decide) (by decide) z208 hw h
                    · obtain ⟨e214, h⟩ := hq204
                      subst e214
                      exact fin dL_done_123 hv201 rfl (by decide) (by decide) hi202 hw h
                  · have h := f197 c195
                    clear t196 f197
                    obtain ⟨t216, f217⟩ := h
                    by_cases c215 : p1 = 9
                    · have h := t216 c215
                      clear t216 f217
                      refine V.tableIn (pc := 1) (tgt := 124) (off := 123) hG hp1 dL_done_1 (by omega) (by omega) (by rw [c215]; rfl) (by decide) ?_
                      refine V.aload_n (pc := 124) hG dL_done_124 rfl 0 rfl ?_
                      refine V.iload_n (pc := 125) hG dL_done_125 rfl 2 rfl ?_
                      refine V.i2c (pc := 126) hG hp2 dL_done_126 ?_
                      refine V.iload_n (pc := 127) hG dL_done_127 rfl 3 rfl ?_
                      refine V.xcallVi (pc := 128) (As := [.int (sJ ((p2) % 65536)), .int (sJ p3)]) (stk := []) hG (sm_X11_setCycles l Δ sR_c hp3 hst hi hw h) mY_X11_setCycles kw_1279 kw_1280 kw_1281 a_0 (by decide) (q := (RX11, TX11, 11)) rfl rfl ⟨Nat.le_of_ble_eq_true rfl, Nat.le_of_ble_eq_true rfl, Nat.le_of_ble_eq_true rfl, Nat.le_of_ble_eq_true rfl⟩ rfl (Nat.le_of_ble_eq_true rfl) dL_done_128 rfl (fun z225 z226 z227 z228 z229 z230 => ?_) (fun v218 i219 r220 hv221 hi222 hw223 hq224 => ?_)
                      · obtain ⟨e231, h⟩ := z230
                        subst e231
                        exact xout (by decide) (by decide) z228 hw h
                      · obtain ⟨e234, h⟩ := hq224
                        subst e234
                        exact fin dL_done_131 hv221 rfl (by decide) (by decide) hi222 hw h
                    · have h := f217 c215
                      clear t216 f217
                      obtain ⟨t236, f237⟩ := h
                      by_cases c235 : p1 = 10
                      · have h := t236 c235
                        clear t236 f237
                        refine V.tableIn (pc := 1) (tgt := 132) (off := 131) hG hp1 dL_done_1 (by omega) (by omega) (by rw [c235]; rfl) (by decide) ?_
                        refine V.aload_n (pc := 132) hG dL_done_132 rfl 0 rfl ?_
                        refine V.iload_n (pc := 133) hG dL_done_133 rfl 2 rfl ?_
                        refine V.iload_n (pc := 134) hG dL_done_134 rfl 3 rfl ?_
                        refine V.iload (pc := 135) hG dL_done_135 4 rfl ?_
                        refine V.iconst (pc := 137) hG dL_done_137 ?_
                        obtain ⟨f240, t239⟩ := h
                        refine V.icmp_ne (pc := 138) (tgt := 145) hG hp4 ((sR_l rfl)) dL_done_138 (by decide) (fun c238 => ?_) (fun c238 => ?_)
                        · have h := t239 c238
                          clear t239 f240
                          refine V.iconst (pc := 145) hG dL_done_145 ?_
                          refine V.pick [] rfl ?_
                          exact jn146 p2 p3 0 i r hp2 hp3 ((sR_l rfl)) hi hw h
                        · have h := f240 c238
                          clear t239 f240
                          refine V.iconst (pc := 141) hG dL_done_141 ?_
                          refine V.goto (pc := 142) (tgt := 146) hG dL_done_142 (by decide) ?_
                          refine V.pick [] rfl ?_
                          exact jn146 p2 p3 1 i r hp2 hp3 ((sR_l rfl)) hi hw h
                      · have h := f237 c235
                        clear t236 f237
                        obtain ⟨t242, f243⟩ := h
                        by_cases c241 : p1 = 11
                        · have h := t242 c241
                          clear t242 f243
                          refine V.tableIn (pc := 1) (tgt := 150) (off := 149) hG hp1 dL_done_1 (by omega) (by omega) (by rw [c241]; rfl) (by decide) ?_
                          refine V.aload_n (pc := 150) hG dL_done_150 rfl 0 rfl ?_
                          refine V.iload_n (pc := 151) hG dL_done_151 rfl 2 rfl ?_
                          refine V.iload_n (pc := 152) hG dL_done_152 rfl 3 rfl ?_
                          refine V.xcallVi (pc := 153) (As := [.int (sJ p2), .int (sJ p3)]) (stk := []) hG (sm_X11_setDepth l Δ hp2 hp3 hst hi hw h) mY_X11_setDepth kw_1294 kw_1295 kw_1296 a_0 (by decide) (q := (RX11, TX11, 11)) rfl rfl ⟨Nat.le_of_ble_eq_true rfl, Nat.le_of_ble_eq_true rfl, Nat.le_of_ble_eq_true rfl, Nat.le_of_ble_eq_true rfl⟩ rfl (Nat.le_of_ble_eq_true rfl) dL_done_153 rfl (fun z251 z252 z253 z254 z255 z256 => ?_) (fun v244 i245 r246 hv247 hi248 hw249 hq250 => ?_)
                          · obtain ⟨e257, h⟩ := z256
                            subst e257
                            exact xout (by decide) (by decide) z254 hw h
                          · obtain ⟨e260, h⟩ := hq250
                            subst e260
                            exact fin dL_done_156 hv247 rfl (by decide) (by decide) hi248 hw h
                        · have h := f243 c241
                          clear t242 f243
                          refine V.tableOut (pc := 1) (tgt := 157) hG hp1 dL_done_1 (by omega) (by decide) ?_
                          refine V.aload_n (pc := 157) hG dL_done_157 rfl 0 rfl ?_
                          refine V.iload_n (pc := 158) hG dL_done_158 rfl 2 rfl ?_
                          refine V.xcallVi (pc := 159) (As := [.int (sJ p2)]) (stk := []) hG (sm_X11_waitsFor l Δ hp2 hst hi hw h) mY_X11_waitsFor kw_1299 kw_1300 kw_1301 a_0 (by decide) (q := (RX11, TX11, 11)) rfl rfl ⟨Nat.le_of_ble_eq_true rfl, Nat.le_of_ble_eq_true rfl, Nat.le_of_ble_eq_true rfl, Nat.le_of_ble_eq_true rfl⟩ rfl (Nat.le_of_ble_eq_true rfl) dL_done_159 rfl (fun z268 z269 z270 z271 z272 z273 => ?_) (fun v261 i262 r263 hv264 hi265 hw266 hq267 => ?_)
                          · obtain ⟨e274, h⟩ := z273
                            subst e274
                            exact xout (by decide) (by decide) z271 hw h
                          · obtain ⟨e277, h⟩ := hq267
                            subst e277
                            exact fin dL_done_162 hv264 rfl (by decide) (by decide) hi265 hw h
set_option maxRecDepth 100000 in
set_option maxHeartbeats 4000000 in
theorem sm_L_asked (l : Launch) (Δ : Wd) {i r : MI} {p1 : Int} {p2 : Int} {p3 : Int} {p4 : Int} (hp1 : sR p1) (hp2 : sR p2) (hp3 : sR p3) (hp4 : sR p4) {Q : Int → MI → MI → Prop} {X : String → MI → MI → Prop} (hst : l.stackTraces = false) (hi : okI i) (hw : Wf r) (h : wp_L_asked p1 p2 p3 p4 i r Q X) : vx_Met l yL_asked (Cond.code yL_asked cL_asked 5 (some .int) :: gW) (sRx 8 169 3 18) (sPc Δ [.ref (sA Δ 0), .int (sJ p1), .int (sJ p2), .int (sJ p3), .int (sJ p4)] i r) (sQi Δ (Q)) (sX Δ (X)) 3 18 (sFr Δ) := by
  refine Cx.i (ty := .int) (by decide) rfl (Nat.le_of_ble_eq_true rfl) hst (by decide) (by decide) (fun Γ Q0 hG fin xout xthr => ?_)
  have hG : okG Γ Δ l (sRx 8 169 3 18) cL_asked "SchedularyLaw" 5 := hG
  show V Γ Δ 504 false i r 0 0 Q0 0 [(0, .ref (sA Δ 0)), (1, .int (sJ p1)), (2, .int (sJ p2)), (3, .int (sJ p3)), (4, .int (sJ p4))] []
  refine V.iload_n (pc := 0) hG dL_asked_0 rfl 1 rfl ?_
  obtain ⟨t2, f3⟩ := h
  by_cases c1 : p1 = 20
  · have h := t2 c1
    clear t2 f3
    refine V.tableIn (pc := 1) (tgt := 64) (off := 63) hG hp1 dL_asked_1 (by omega) (by omega) (by rw [c1]; rfl) (by decide) ?_
    refine V.aload_n (pc := 64) hG dL_asked_64 rfl 0 rfl ?_
    refine V.iload_n (pc := 65) hG dL_asked_65 rfl 2 rfl ?_
    refine V.xcallVi (pc := 66) (As := [.int (sJ p2)]) (stk := []) hG (sm_X11_output l Δ hp2 hst hi hw h) mY_X11_output kw_1323 kw_1324 kw_1325 a_0 (by decide) (q := (RX11, TX11, 11)) rfl rfl ⟨Nat.le_of_ble_eq_true rfl, Nat.le_of_ble_eq_true rfl, Nat.le_of_ble_eq_true rfl, Nat.le_of_ble_eq_true rfl⟩ rfl (Nat.le_of_ble_eq_true rfl) dL_asked_66 rfl (fun z11 z12 z13 z14 z15 z16 => ?_) (fun v4 i5 r6 hv7 hi8 hw9 hq10 => ?_)
    · obtain ⟨e17, h⟩ := z16
      subst e17
      exact xout (by decide) (by decide) z14 hw h
    · obtain ⟨e20, h⟩ := hq10
      subst e20
      exact fin dL_asked_69 hv7 rfl (by decide) (by decide) hi8 hw h
  · have h := f3 c1
    clear t2 f3
    obtain ⟨t22, f23⟩ := h
    by_cases c21 : p1 = 21
    · have h := t22 c21
      clear t22 f23
      refine V.tableIn (pc := 1) (tgt := 70) (off := 69) hG hp1 dL_asked_1 (by omega) (by omega) (by rw [c21]; rfl) (by decide) ?_
      refine V.aload_n (pc := 70) hG dL_asked_70 rfl 0 rfl ?_
      refine V.iload_n (pc := 71) hG dL_asked_71 rfl 2 rfl ?_
      refine V.i2c (pc := 72) hG hp2 dL_asked_72 ?_
      refine V.iload_n (pc := 73) hG dL_asked_73 rfl 3 rfl ?_
      refine V.xcallVi (pc := 74) (As := [.int (sJ ((p2) % 65536)), .int (sJ p3)]) (stk := []) hG (sm_X11_memoryAt l Δ sR_c hp3 hst hi hw h) mY_X11_memoryAt kw_1328 kw_1329 kw_1330 a_0 (by decide) (q := (RX11, TX11, 11)) rfl rfl ⟨Nat.le_of_ble_eq_true rfl, Nat.le_of_ble_eq_true rfl, Nat.le_of_ble_eq_true rfl, Nat.le_of_ble_eq_true rfl⟩ rfl (Nat.le_of_ble_eq_true rfl) dL_asked_74 rfl (fun z31 z32 z33 z34 z35 z36 => ?_) (fun v24 i25 r26 hv27 hi28 hw29 hq30 => ?_)
      · obtain ⟨e37, h⟩ := z36
        subst e37
        exact xout (by decide) (by decide) z34 hw h
      · obtain ⟨e40, h⟩ := hq30
        subst e40
        exact fin dL_asked_77 hv27 rfl (by decide) (by decide) hi28 hw h
    · have h := f23 c21
      clear t22 f23
      obtain ⟨t42, f43⟩ := h
      by_cases c41 : p1 = 22
      · have h := t42 c41
        clear t42 f43
        refine V.tableIn (pc := 1) (tgt := 78) (off := 77) hG hp1 dL_asked_1 (by omega) (by omega) (by rw [c41]; rfl) (by decide) ?_
        refine V.aload_n (pc := 78) hG dL_asked_78 rfl 0 rfl ?_
        refine V.iload_n (pc := 79) hG dL_asked_79 rfl 2 rfl ?_
        refine V.i2c (pc := 80) hG hp2 dL_asked_80 ?_
        refine V.xcallVi (pc := 81) (As := [.int (sJ ((p2) % 65536))]) (stk := []) hG (sm_X11_register l Δ sR_c hst hi hw h) mY_X11_register kw_1334 kw_1335 kw_1336 a_0 (by decide) (q := (RX11, TX11, 11)) rfl rfl ⟨Nat.le_of_ble_eq_true rfl, Nat.le_of_ble_eq_true rfl, Nat.le_of_ble_eq_true rfl, Nat.le_of_ble_eq_true rfl⟩ rfl (Nat.le_of_ble_eq_true rfl) dL_asked_81 rfl (fun z51 z52 z53 z54 z55 z56 => ?_) (fun v44 i45 r46 hv47 hi48 hw49 hq50 => ?_)
        · obtain ⟨e57, h⟩ := z56
          subst e57
          exact xout (by decide) (by decide) z54 hw h
        · obtain ⟨e60, h⟩ := hq50
          subst e60
          exact fin dL_asked_84 hv47 rfl (by decide) (by decide) hi48 hw h
      · have h := f43 c41
        clear t42 f43
        obtain ⟨t62, f63⟩ := h
        by_cases c61 : p1 = 23
        · have h := t62 c61
          clear t62 f63
          refine V.tableIn (pc := 1) (tgt := 85) (off := 84) hG hp1 dL_asked_1 (by omega) (by omega) (by rw [c61]; rfl) (by decide) ?_
          refine V.aload_n (pc := 85) hG dL_asked_85 rfl 0 rfl ?_
          refine V.iload_n (pc := 86) hG dL_asked_86 rfl 2 rfl ?_
          refine V.xcallVi (pc := 87) (As := [.int (sJ p2)]) (stk := []) hG (sm_X11_kindOf l Δ hp2 hst hi hw h) mY_X11_kindOf kw_1339 kw_1340 kw_1341 a_0 (by decide) (q := (RX11, TX11, 11)) rfl rfl ⟨Nat.le_of_ble_eq_true rfl, Nat.le_of_ble_eq_true rfl, Nat.le_of_ble_eq_true rfl, Nat.le_of_ble_eq_true rfl⟩ rfl (Nat.le_of_ble_eq_true rfl) dL_asked_87 rfl (fun z71 z72 z73 z74 z75 z76 => ?_) (fun v64 i65 r66 hv67 hi68 hw69 hq70 => ?_)
          · have h := z76
            exact xout (by decide) (by decide) z74 z75 h
          · have h := hq70
            exact fin dL_asked_90 hv67 rfl (by decide) (by decide) hi68 hw69 h
        · have h := f63 c61
          clear t62 f63
          obtain ⟨t82, f83⟩ := h
          by_cases c81 : p1 = 24
          · have h := t82 c81
            clear t82 f83
            refine V.tableIn (pc := 1) (tgt := 91) (off := 90) hG hp1 dL_asked_1 (by omega) (by omega) (by rw [c81]; rfl) (by decide) ?_
            refine V.aload_n (pc := 91) hG dL_asked_91 rfl 0 rfl ?_
            refine V.iload_n (pc := 92) hG dL_asked_92 rfl 2 rfl ?_
            refine V.xcallVi (pc := 93) (As := [.int (sJ p2)]) (stk := []) hG (sm_X11_statementOf l Δ hp2 hst hi hw h) mY_X11_statementOf kw_1368 kw_1369 kw_1370 a_0 (by decide) (q := (RX11, TX11, 11)) rfl rfl ⟨Nat.le_of_ble_eq_true rfl, Nat.le_of_ble_eq_true rfl, Nat.le_of_ble_eq_true rfl, Nat.le_of_ble_eq_true rfl⟩ rfl (Nat.le_of_ble_eq_true rfl) dL_asked_93 rfl (fun z91 z92 z93 z94 z95 z96 => ?_) (fun v84 i85 r86 hv87 hi88 hw89 hq90 => ?_)
            · have h := z96
              exact xout (by decide) (by decide) z94 z95 h
            · have h := hq90
              exact fin dL_asked_96 hv87 rfl (by decide) (by decide) hi88 hw89 h
          · have h := f83 c81
            clear t82 f83
            obtain ⟨t102, f103⟩ := h
            by_cases c101 : p1 = 25
            · have h := t102 c101
              clear t102 f103
              refine V.tableIn (pc := 1) (tgt := 97) (off := 96) hG hp1 dL_asked_1 (by omega) (by omega) (by rw [c101]; rfl) (by decide) ?_
              refine V.aload_n (pc := 97) hG dL_asked_97 rfl 0 rfl ?_
              refine V.iload_n (pc := 98) hG dL_asked_98 rfl 2 rfl ?_
              refine V.iload_n (pc := 99) hG dL_asked_99 rfl 3 rfl ?_
              refine V.iload (pc := 100) hG dL_asked_100 4 rfl ?_
              refine V.xcallVi (pc := 102) (As := [.int (sJ p2), .int (sJ p3), .int (sJ p4)]) (stk := []) hG (sm_X11_weight l Δ hp2 hp3 hp4 hst hi hw h) mY_X11_weight kw_1372 kw_1373 kw_1374 a_0 (by decide) (q := (RX11, TX11, 11)) rfl rfl ⟨Nat.le_of_ble_eq_true rfl, Nat.le_of_ble_eq_true rfl, Nat.le_of_ble_eq_true rfl, Nat.le_of_ble_eq_true rfl⟩ rfl (Nat.le_of_ble_eq_true rfl) dL_asked_102 rfl (fun z111 z112 z113 z114 z115 z116 => ?_) (fun v104 i105 r106 hv107 hi108 hw109 hq110 => ?_)
              · have h := z116
                exact xout (by decide) (by decide) z114 z115 h
              · have h := hq110
                exact fin dL_asked_105 hv107 rfl (by decide) (by decide) hi108 hw109 h
            · have h := f103 c101
              clear t102 f103
              obtain ⟨t122, f123⟩ := h
              by_cases c121 : p1 = 26
              · have h := t122 c121
                clear t122 f123
                refine V.tableIn (pc := 1) (tgt := 106) (off := 105) hG hp1 dL_asked_1 (by omega) (by omega) (by rw [c121]; rfl) (by decide) ?_
                refine V.aload_n (pc := 106) hG dL_asked_106 rfl 0 rfl ?_
                refine V.iload_n (pc := 107) hG dL_asked_107 rfl 2 rfl ?_
                refine V.xcallVi (pc := 108) (As := [.int (sJ p2)]) (stk := []) hG (sm_X11_soon l Δ hp2 hst hi hw h) mY_X11_soon kw_1393 kw_1394 kw_1395 a_0 (by decide) (q := (RX11, TX11, 11)) rfl rfl ⟨Nat.le_of_ble_eq_true rfl, Nat.le_of_ble_eq_true rfl, Nat.le_of_ble_eq_true rfl, Nat.le_of_ble_eq_true rfl⟩ rfl (Nat.le_of_ble_eq_true rfl) dL_asked_108 rfl (fun z131 z132 z133 z134 z135 z136 => ?_) (fun v124 i125 r126 hv127 hi128 hw129 hq130 => ?_)
                · have h := z136
                  exact xout (by decide) (by decide) z134 z135 h
                · have h := hq130
                  exact fin dL_asked_111 hv127 rfl (by decide) (by decide) hi128 hw129 h
              · have h := f123 c121
                clear t122 f123
                obtain ⟨t142, f143⟩ := h
                by_cases c141 : p1 = 27
                · have h := t142 c141
                  clear t142 f143
                  refine V.tableIn (pc := 1) (tgt := 112) (off := 111) hG hp1 dL_asked_1 (by omega) (by omega) (by rw [c141]; rfl) (by decide) ?_
                  refine V.aload_n (pc := 112) hG dL_asked_112 rfl 0 rfl ?_
                  refine V.iload_n (pc := 113) hG dL_asked_113 rfl 2 rfl ?_
                  refine V.xcallVi (pc := 114) (As := [.int (sJ p2)]) (stk := []) hG (sm_X11_late l Δ hp2 hst hi hw h) mY_X11_late kw_1397 kw_1398 kw_1399 a_0 (by decide) (q := (RX11, TX11, 11)) rfl rfl ⟨Nat.le_of_ble_eq_true rfl, Nat.le_of_ble_eq_true rfl, Nat.le_of_ble_eq_true rfl, Nat.le_of_ble_eq_true rfl⟩ rfl (Nat.le_of_ble_eq_true rfl) dL_asked_114 rfl (fun z151 z152 z153 z154 z155 z156 => ?_) (fun v144 i145 r146 hv147 hi148 hw149 hq150 => ?_)
                  · have h := z156
                    exact xout (by decide) (by decide) z154 z155 h
                  · have h := hq150
                    exact fin dL_asked_117 hv147 rfl (by decide) (by decide) hi148 hw149 h
                · have h := f143 c141
                  clear t142 f143
                  obtain ⟨t162, f163⟩ := h
                  by_cases c161 : p1 = 28
                  · have h := t162 c161
                    clear t162 f163
                    refine V.tableIn (pc := 1) (tgt := 118) (off := 117) hG hp1 dL_asked_1 (by omega) (by omega) (by rw [c161]; rfl) (by decide) ?_
                    refine V.aload_n (pc := 118) hG dL_asked_118 rfl 0 rfl ?_
                    refine V.iload_n (pc := 119) hG dL_asked_119 rfl 2 rfl ?_
                    refine V.xcallVi (pc := 120) (As := [.int (sJ p2)]) (stk := []) hG (sm_X11_step l Δ hp2 hst hi hw h) mY_X11_step kw_1401 kw_1402 kw_1403 a_0 (by decide) (q := (RX11, TX11, 11)) rfl rfl ⟨Nat.le_of_ble_eq_true rfl, Nat.le_of_ble_eq_true rfl, Nat.le_of_ble_eq_true rfl, Nat.le_of_ble_eq_true rfl⟩ rfl (Nat.le_of_ble_eq_true rfl) dL_asked_120 rfl (fun z171 z172 z173 z174 z175 z176 => ?_) (fun v164 i165 r166 hv167 hi168 hw169 hq170 => ?_)
                    · have h := z176
                      exact xout (by decide) (by decide) z174 z175 h
                    · have h := hq170
                      exact fin dL_asked_123 hv167 rfl (by decide) (by decide) hi168 hw169 h
                  · have h := f163 c161
                    clear t162 f163
                    obtain ⟨t182, f183⟩ := h
                    by_cases c181 : p1 = 29
                    · have h := t182 c181
                      clear t182 f183
                      refine V.tableIn (pc := 1) (tgt := 124) (off := 123) hG hp1 dL_asked_1 (by omega) (by omega) (by rw [c181]; rfl) (by decide) ?_
                      refine V.aload_n (pc := 124) hG dL_asked_124 rfl 0 rfl ?_
                      refine V.iload_n (pc := 125) hG dL_asked_125 rfl 2 rfl ?_
                      refine V.xcallVi (pc := 126) (As := [.int (sJ p2)]) (stk := []) hG (sm_X11_place l Δ hp2 hst hi hw h) mY_X11_place kw_1405 kw_1406 kw_1407 a_0 (by decide) (q := (RX11, TX11, 11)) rfl rfl ⟨Nat.le_of_ble_eq_true rfl, Nat.le_of_ble_eq_true rfl, Nat.le_of_ble_eq_true rfl, Nat.le_of_ble_eq_true rfl⟩ rfl (Nat.le_of_ble_eq_true rfl) dL_asked_126 rfl (fun z191 z192 z193 z194 z195 z196 => ?_) (fun v184 i185 r186 hv187 hi188 hw189 hq190 => ?_)
                      · have h := z196
                        exact xout (by decide) (by decide) z194 z195 h
                      · have h := hq190
                        exact fin dL_asked_129 hv187 rfl (by decide) (by decide) hi188 hw189 h
                    · have h := f183 c181
                      clear t182 f183
                      obtain ⟨t202, f203⟩ := h
                      by_cases c201 : p1 = 30
                      · have h := t202 c201
                        clear t202 f203
                        refine V.tableIn (pc := 1) (tgt := 130) (off := 129) hG hp1 dL_asked_1 (by omega) (by omega) (by rw [c201]; rfl) (by decide) ?_
                        refine V.aload_n (pc := 130) hG dL_asked_130 rfl 0 rfl ?_
                        refine V.iload_n (pc := 131) hG dL_asked_131 rfl 2 rfl ?_
                        refine V.xcallVi (pc := 132) (As := [.int (sJ p2)]) (stk := []) hG (sm_X11_circuitOutput l Δ hp2 hst hi hw h) mY_X11_circuitOutput kw_1409 kw_1410 kw_1411 a_0 (by decide) (q := (RX11, TX11, 11)) rfl rfl ⟨Nat.le_of_ble_eq_true rfl, Nat.le_of_ble_eq_true rfl, Nat.le_of_ble_eq_true rfl, Nat.le_of_ble_eq_true rfl⟩ rfl (Nat.le_of_ble_eq_true rfl) dL_asked_132 rfl (fun z211 z212 z213 z214 z215 z216 => ?_) (fun v204 i205 r206 hv207 hi208 hw209 hq210 => ?_)
                        · have h := z216
                          exact xout (by decide) (by decide) z214 z215 h
                        · have h := hq210
                          exact fin dL_asked_135 hv207 rfl (by decide) (by decide) hi208 hw209 h
                      · have h := f203 c201
                        clear t202 f203
                        obtain ⟨t222, f223⟩ := h
                        by_cases c221 : p1 = 31
                        · have h := t222 c221
                          clear t222 f223
                          refine V.tableIn (pc := 1) (tgt := 136) (off := 135) hG hp1 dL_asked_1 (by omega) (by omega) (by rw [c221]; rfl) (by decide) ?_
                          refine V.aload_n (pc := 136) hG dL_asked_136 rfl 0 rfl ?_
                          refine V.iload_n (pc := 137) hG dL_asked_137 rfl 2 rfl ?_
                          refine V.i2c (pc := 138) hG hp2 dL_asked_138 ?_
                          refine V.iload_n (pc := 139) hG dL_asked_139 rfl 3 rfl ?_
                          refine V.xcallVi (pc := 140) (As := [.int (sJ ((p2) % 65536)), .int (sJ p3)]) (stk := []) hG (sm_X11_circuitMemory l Δ sR_c hp3 hst hi hw h) mY_X11_circuitMemory kw_1413 kw_1414 kw_1415 a_0 (by decide) (q := (RX11, TX11, 11)) rfl rfl ⟨Nat.le_of_ble_eq_true rfl, Nat.le_of_ble_eq_true rfl, Nat.le_of_ble_eq_true rfl, Nat.le_of_ble_eq_true rfl⟩ rfl (Nat.le_of_ble_eq_true rfl) dL_asked_140 rfl (fun z231 z232 z233 z234 z235 z236 => ?_) (fun v224 i225 r226 hv227 hi228 hw229 hq230 => ?_)
                          · have h := z236
                            exact xout (by decide) (by decide) z234 z235 h
                          · have h := hq230
                            exact fin dL_asked_143 hv227 rfl (by decide) (by decide) hi228 hw229 h
                        · have h := f223 c221
                          clear t222 f223
                          refine V.tableOut (pc := 1) (tgt := 144) hG hp1 dL_asked_1 (by omega) (by decide) ?_
                          refine V.aload_n (pc := 144) hG dL_asked_144 rfl 0 rfl ?_
                          refine V.xcallVi (pc := 145) (As := []) (stk := []) hG (sm_X11_leastDepth l Δ  hst hi hw h) mY_X11_leastDepth kw_1417 kw_1418 kw_1419 a_0 (by decide) (q := (RX11, TX11, 11)) rfl rfl ⟨Nat.le_of_ble_eq_true rfl, Nat.le_of_ble_eq_true rfl, Nat.le_of_ble_eq_true rfl, Nat.le_of_ble_eq_true rfl⟩ rfl (Nat.le_of_ble_eq_true rfl) dL_asked_145 rfl (fun z248 z249 z250 z251 z252 z253 => ?_) (fun v241 i242 r243 hv244 hi245 hw246 hq247 => ?_)
                          · obtain ⟨e254, h⟩ := z253
                            subst e254
                            exact xout (by decide) (by decide) z251 hw h
                          · obtain ⟨e257, h⟩ := hq247
                            subst e257
                            exact fin dL_asked_148 hv244 rfl (by decide) (by decide) hi245 hw h
set_option maxRecDepth 100000 in
set_option maxHeartbeats 4000000 in
theorem sm_L_deed (l : Launch) (Δ : Wd) {i r : MI} {p1 : Int} {p2 : Int} {p3 : Int} {p4 : Int} (hp1 : sR p1) (hp2 : sR p2) (hp3 : sR p3) (hp4 : sR p4) {Q : Int → MI → MI → Prop} (hst : l.stackTraces = false) (hi : okI i) (hw : Wf r) (h : wp_L_deed p1 p2 p3 p4 i r Q) : Met l yL_deed (Cond.codeWith yL_deed cL_deed 6 (some .int) [(0, 27, 28, 111), (0, 27, 33, 114), (0, 27, 38, 117), (0, 27, 43, 120), (0, 27, 48, 123)] :: gW) (sRx 9 203 3 18) (sPc Δ [.ref (sA Δ 0), .int (sJ p1), .int (sJ p2), .int (sJ p3), .int (sJ p4)] i r) (sQi Δ (Q)) 3 18 (sFr Δ) := by
  refine Cw.i (by decide) rfl (Nat.le_of_ble_eq_true rfl) (fun Γ Q0 hG hT fin => ?_)
  have hG : okG Γ Δ l (sRx 9 203 3 18) cL_deed "SchedularyLaw" 6 := hG
  show V Γ Δ 504 false i r 0 0 Q0 0 [(0, .ref (sA Δ 0)), (1, .int (sJ p1)), (2, .int (sJ p2)), (3, .int (sJ p3)), (4, .int (sJ p4))] []
  have jn27 : ∀ (k0j27 : Int) (ij27 : MI) (rj27 : MI), sR k0j27 → okI ij27 → Wf rj27 → s27_L_deed k0j27 ij27 rj27 Q → V Γ Δ 504 false ij27 rj27 3 18 Q0 27 [] [.int (sJ k0j27)] := by
    intro k0j27 ij27 rj27 hk0j27 hij27 hwj27 h
    exact fin dL_deed_27 hk0j27  (by decide) (by decide) hij27 hwj27 h
  refine V.iload_n (pc := 0) hG dL_deed_0 rfl 1 rfl ?_
  refine V.bipush (pc := 1) hG dL_deed_1 (by decide) ?_
  obtain ⟨t2, f3⟩ := h
  refine V.icmp_ge (pc := 3) (tgt := 18) hG hp1 ((sR_l rfl)) dL_deed_3 (by decide) (fun c1 => ?_) (fun c1 => ?_)
  · have h := t2 c1
    clear t2 f3
    refine V.aload_n (pc := 18) hG dL_deed_18 rfl 0 rfl ?_
    refine V.iload_n (pc := 19) hG dL_deed_19 rfl 1 rfl ?_
    refine V.iload_n (pc := 20) hG dL_deed_20 rfl 2 rfl ?_
    refine V.iload_n (pc := 21) hG dL_deed_21 rfl 3 rfl ?_
    refine V.iload (pc := 22) hG dL_deed_22 4 rfl ?_
    refine V.xcallSi (pc := 24) (As := [.ref (sA Δ 0), .int (sJ p1), .int (sJ p2), .int (sJ p3), .int (sJ p4)]) (stk := []) hG (sm_L_asked l Δ hp1 hp2 hp3 hp4 hst hi hw h) mY_L_asked kw_1320 kw_1321 ⟨Nat.le_of_ble_eq_true rfl, Nat.le_of_ble_eq_true rfl, Nat.le_of_ble_eq_true rfl, Nat.le_of_ble_eq_true rfl⟩ rfl (Nat.le_of_ble_eq_true rfl) dL_deed_24 rfl (fun z19 z14 z15 z16 z17 z18 => ?_) (fun v4 i5 r6 hv7 hi8 hw9 hq10 => ?_)
    · have h := z18
      rcases h with ⟨rfl, h⟩ | ⟨rfl, h⟩ | ⟨rfl, h⟩ | ⟨rfl, h⟩ | ⟨rfl, h⟩
      · refine V.catch (hh := [(0, 27, 28, 111), (0, 27, 33, 114), (0, 27, 38, 117), (0, 27, 43, 120), (0, 27, 48, 123)]) (pre := []) (x := (0, 27, 28, 111)) (suf := [(0, 27, 33, 114), (0, 27, 38, 117), (0, 27, 43, 120), (0, 27, 48, 123)]) (name := "java/lang/IndexOutOfBoundsException") hG hT rfl (fun z hz => by cases hz) (by decide) (by decide) kw_923 kw_1206 (fun q20 => ?_)
        refine V.astore (pc := 28) (lv' := [(5, .ref q20), (0, .ref (sA Δ 0)), (1, .int (sJ p1)), (2, .int (sJ p2)), (3, .int (sJ p3)), (4, .int (sJ p4))]) hG dL_deed_28 (by decide) rfl ?_
        refine V.ldc (pc := 30) (x := (-200001)) hG kw_1430 dL_deed_30 ?_
        exact fin dL_deed_32 ((sR_l rfl))  (by decide) (by decide) z16 z17 h
      · refine V.catch (hh := [(0, 27, 28, 111), (0, 27, 33, 114), (0, 27, 38, 117), (0, 27, 43, 120), (0, 27, 48, 123)]) (pre := [(0, 27, 28, 111)]) (x := (0, 27, 33, 114)) (suf := [(0, 27, 38, 117), (0, 27, 43, 120), (0, 27, 48, 123)]) (name := "java/lang/IllegalArgumentException") hG hT rfl (fun z hz => by simp only [List.mem_cons, List.not_mem_nil, or_false] at hz; rcases hz with rfl; exact ⟨"java/lang/IndexOutOfBoundsException", by decide, kw_923, by decide⟩) (by decide) (by decide) kw_1002 kw_1098 (fun q21 => ?_)
        refine V.astore (pc := 33) (lv' := [(5, .ref q21), (0, .ref (sA Δ 0)), (1, .int (sJ p1)), (2, .int (sJ p2)), (3, .int (sJ p3)), (4, .int (sJ p4))]) hG dL_deed_33 (by decide) rfl ?_
        refine V.ldc (pc := 35) (x := (-200002)) hG kw_1431 dL_deed_35 ?_
        exact fin dL_deed_37 ((sR_l rfl))  (by decide) (by decide) z16 z17 h
      · refine V.catch (hh := [(0, 27, 28, 111), (0, 27, 33, 114), (0, 27, 38, 117), (0, 27, 43, 120), (0, 27, 48, 123)]) (pre := [(0, 27, 28, 111), (0, 27, 33, 114)]) (x := (0, 27, 38, 117)) (suf := [(0, 27, 43, 120), (0, 27, 48, 123)]) (name := "java/lang/UnsupportedOperationException") hG hT rfl (fun z hz => by simp only [List.mem_cons, List.not_mem_nil, or_false] at hz; rcases hz with rfl | rfl; exact ⟨"java/lang/IndexOutOfBoundsException", by decide, kw_923, by decide⟩; exact ⟨"java/lang/IllegalArgumentException", by decide, kw_1002, by decide⟩) (by decide) (by decide) kw_1003 kw_1226 (fun q22 => ?_)
        refine V.astore (pc := 38) (lv' := [(5, .ref q22), (0, .ref (sA Δ 0)), (1, .int (sJ p1)), (2, .int (sJ p2)), (3, .int (sJ p3)), (4, .int (sJ p4))]) hG dL_deed_38 (by decide) rfl ?_
        refine V.ldc (pc := 40) (x := (-200004)) hG kw_1432 dL_deed_40 ?_
        exact fin dL_deed_42 ((sR_l rfl))  (by decide) (by decide) z16 z17 h
      · refine V.catch (hh := [(0, 27, 28, 111), (0, 27, 33, 114), (0, 27, 38, 117), (0, 27, 43, 120), (0, 27, 48, 123)]) (pre := [(0, 27, 28, 111), (0, 27, 33, 114), (0, 27, 38, 117)]) (x := (0, 27, 43, 120)) (suf := [(0, 27, 48, 123)]) (name := "java/util/NoSuchElementException") hG hT rfl (fun z hz => by simp only [List.mem_cons, List.not_mem_nil, or_false] at hz; rcases hz with rfl | rfl | rfl; exact ⟨"java/lang/IndexOutOfBoundsException", by decide, kw_923, by decide⟩; exact ⟨"java/lang/IllegalArgumentException", by decide, kw_1002, by decide⟩; exact ⟨"java/lang/UnsupportedOperationException", by decide, kw_1003, by decide⟩) (by decide) (by decide) kw_1004 kw_1379 (fun q23 => ?_)
        refine V.astore (pc := 43) (lv' := [(5, .ref q23), (0, .ref (sA Δ 0)), (1, .int (sJ p1)), (2, .int (sJ p2)), (3, .int (sJ p3)), (4, .int (sJ p4))]) hG dL_deed_43 (by decide) rfl ?_
        refine V.ldc (pc := 45) (x := (-200005)) hG kw_1433 dL_deed_45 ?_
        exact fin dL_deed_47 ((sR_l rfl))  (by decide) (by decide) z16 z17 h
      · refine V.catch (hh := [(0, 27, 28, 111), (0, 27, 33, 114), (0, 27, 38, 117), (0, 27, 43, 120), (0, 27, 48, 123)]) (pre := [(0, 27, 28, 111), (0, 27, 33, 114), (0, 27, 38, 117), (0, 27, 43, 120)]) (x := (0, 27, 48, 123)) (suf := []) (name := "java/lang/IllegalStateException") hG hT rfl (fun z hz => by simp only [List.mem_cons, List.not_mem_nil, or_false] at hz; rcases hz with rfl | rfl | rfl | rfl; exact ⟨"java/lang/IndexOutOfBoundsException", by decide, kw_923, by decide⟩; exact ⟨"java/lang/IllegalArgumentException", by decide, kw_1002, by decide⟩; exact ⟨"java/lang/UnsupportedOperationException", by decide, kw_1003, by decide⟩; exact ⟨"java/util/NoSuchElementException", by decide, kw_1004, by decide⟩) (by decide) (by decide) kw_1005 kw_1114 (fun q24 => ?_)
        refine V.astore (pc := 48) (lv' := [(5, .ref q24), (0, .ref (sA Δ 0)), (1, .int (sJ p1)), (2, .int (sJ p2)), (3, .int (sJ p3)), (4, .int (sJ p4))]) hG dL_deed_48 (by decide) rfl ?_
        refine V.ldc (pc := 50) (x := (-200003)) hG kw_1434 dL_deed_50 ?_
        exact fin dL_deed_52 ((sR_l rfl))  (by decide) (by decide) z16 z17 h
    · have h := hq10
      refine V.ks (kc2 := 3) (sl2 := 18) (by decide) (by decide) ?_
      refine V.pick [] rfl ?_
      exact jn27 v4 i5 r6 hv7 hi8 hw9 h
  · have h := f3 c1
    clear t2 f3
    refine V.aload_n (pc := 6) hG dL_deed_6 rfl 0 rfl ?_
    refine V.iload_n (pc := 7) hG dL_deed_7 rfl 1 rfl ?_
    refine V.iload_n (pc := 8) hG dL_deed_8 rfl 2 rfl ?_
    refine V.iload_n (pc := 9) hG dL_deed_9 rfl 3 rfl ?_
    refine V.iload (pc := 10) hG dL_deed_10 4 rfl ?_
    refine V.xcallSi (pc := 12) (As := [.ref (sA Δ 0), .int (sJ p1), .int (sJ p2), .int (sJ p3), .int (sJ p4)]) (stk := []) hG (sm_L_done l Δ hp1 hp2 hp3 hp4 hst hi hw h) mY_L_done kw_1006 kw_1007 ⟨Nat.le_of_ble_eq_true rfl, Nat.le_of_ble_eq_true rfl, Nat.le_of_ble_eq_true rfl, Nat.le_of_ble_eq_true rfl⟩ rfl (Nat.le_of_ble_eq_true rfl) dL_deed_12 rfl (fun z40 z35 z36 z37 z38 z39 => ?_) (fun v25 i26 r27 hv28 hi29 hw30 hq31 => ?_)
    · have h := z39
      rcases h with ⟨rfl, h⟩ | ⟨rfl, h⟩ | ⟨rfl, h⟩ | ⟨rfl, h⟩ | ⟨rfl, h⟩
      · refine V.catch (hh := [(0, 27, 28, 111), (0, 27, 33, 114), (0, 27, 38, 117), (0, 27, 43, 120), (0, 27, 48, 123)]) (pre := []) (x := (0, 27, 28, 111)) (suf := [(0, 27, 33, 114), (0, 27, 38, 117), (0, 27, 43, 120), (0, 27, 48, 123)]) (name := "java/lang/IndexOutOfBoundsException") hG hT rfl (fun z hz => by cases hz) (by decide) (by decide) kw_923 kw_1206 (fun q41 => ?_)
        refine V.astore (pc := 28) (lv' := [(5, .ref q41), (0, .ref (sA Δ 0)), (1, .int (sJ p1)), (2, .int (sJ p2)), (3, .int (sJ p3)), (4, .int (sJ p4))]) hG dL_deed_28 (by decide) rfl ?_
        refine V.ldc (pc := 30) (x := (-200001)) hG kw_1430 dL_deed_30 ?_
        exact fin dL_deed_32 ((sR_l rfl))  (by decide) (by decide) z37 z38 h
      · refine V.catch (hh := [(0, 27, 28, 111), (0, 27, 33, 114), (0, 27, 38, 117), (0, 27, 43, 120), (0, 27, 48, 123)]) (pre := [(0, 27, 28, 111)]) (x := (0, 27, 33, 114)) (suf := [(0, 27, 38, 117), (0, 27, 43, 120), (0, 27, 48, 123)]) (name := "java/lang/IllegalArgumentException") hG hT rfl (fun z hz => by simp only [List.mem_cons, List.not_mem_nil, or_false] at hz; rcases hz with rfl; exact ⟨"java/lang/IndexOutOfBoundsException", by decide, kw_923, by decide⟩) (by decide) (by decide) kw_1002 kw_1098 (fun q42 => ?_)
        refine V.astore (pc := 33) (lv' := [(5, .ref q42), (0, .ref (sA Δ 0)), (1, .int (sJ p1)), (2, .int (sJ p2)), (3, .int (sJ p3)), (4, .int (sJ p4))]) hG dL_deed_33 (by decide) rfl ?_
        refine V.ldc (pc := 35) (x := (-200002)) hG kw_1431 dL_deed_35 ?_
        exact fin dL_deed_37 ((sR_l rfl))  (by decide) (by decide) z37 z38 h
      · refine V.catch (hh := [(0, 27, 28, 111), (0, 27, 33, 114), (0, 27, 38, 117), (0, 27, 43, 120), (0, 27, 48, 123)]) (pre := [(0, 27, 28, 111), (0, 27, 33, 114)]) (x := (0, 27, 38, 117)) (suf := [(0, 27, 43, 120), (0, 27, 48, 123)]) (name := "java/lang/UnsupportedOperationException") hG hT rfl (fun z hz => by simp only [List.mem_cons, List.not_mem_nil, or_false] at hz; rcases hz with rfl | rfl; exact ⟨"java/lang/IndexOutOfBoundsException", by decide, kw_923, by decide⟩; exact ⟨"java/lang/IllegalArgumentException", by decide, kw_1002, by decide⟩) (by decide) (by decide) kw_1003 kw_1226 (fun q43 => ?_)
        refine V.astore (pc := 38) (lv' := [(5, .ref q43), (0, .ref (sA Δ 0)), (1, .int (sJ p1)), (2, .int (sJ p2)), (3, .int (sJ p3)), (4, .int (sJ p4))]) hG dL_deed_38 (by decide) rfl ?_
        refine V.ldc (pc := 40) (x := (-200004)) hG kw_1432 dL_deed_40 ?_
        exact fin dL_deed_42 ((sR_l rfl))  (by decide) (by decide) z37 z38 h
      · refine V.catch (hh := [(0, 27, 28, 111), (0, 27, 33, 114), (0, 27, 38, 117), (0, 27, 43, 120), (0, 27, 48, 123)]) (pre := [(0, 27, 28, 111), (0, 27, 33, 114), (0, 27, 38, 117)]) (x := (0, 27, 43, 120)) (suf := [(0, 27, 48, 123)]) (name := "java/util/NoSuchElementException") hG hT rfl (fun z hz => by simp only [List.mem_cons, List.not_mem_nil, or_false] at hz; rcases hz with rfl | rfl | rfl; exact ⟨"java/lang/IndexOutOfBoundsException", by decide, kw_923, by decide⟩; exact ⟨"java/lang/IllegalArgumentException", by decide, kw_1002, by decide⟩; exact ⟨"java/lang/UnsupportedOperationException", by decide, kw_1003, by decide⟩) (by decide) (by decide) kw_1004 kw_1379 (fun q44 => ?_)
        refine V.astore (pc := 43) (lv' := [(5, .ref q44), (0, .ref (sA Δ 0)), (1, .int (sJ p1)), (2, .int (sJ p2)), (3, .int (sJ p3)), (4, .int (sJ p4))]) hG dL_deed_43 (by decide) rfl ?_
        refine V.ldc (pc := 45) (x := (-200005)) hG kw_1433 dL_deed_45 ?_
        exact fin dL_deed_47 ((sR_l rfl))  (by decide) (by decide) z37 z38 h
      · refine V.catch (hh := [(0, 27, 28, 111), (0, 27, 33, 114), (0, 27, 38, 117), (0, 27, 43, 120), (0, 27, 48, 123)]) (pre := [(0, 27, 28, 111), (0, 27, 33, 114), (0, 27, 38, 117), (0, 27, 43, 120)]) (x := (0, 27, 48, 123)) (suf := []) (name := "java/lang/IllegalStateException") hG hT rfl (fun z hz => by simp only [List.mem_cons, List.not_mem_nil, or_false] at hz; rcases hz with rfl | rfl | rfl | rfl; exact ⟨"java/lang/IndexOutOfBoundsException", by decide, kw_923, by decide⟩; exact ⟨"java/lang/IllegalArgumentException", by decide, kw_1002, by decide⟩; exact ⟨"java/lang/UnsupportedOperationException", by decide, kw_1003, by decide⟩; exact ⟨"java/util/NoSuchElementException", by decide, kw_1004, by decide⟩) (by decide) (by decide) kw_1005 kw_1114 (fun q45 => ?_)
        refine V.astore (pc := 48) (lv' := [(5, .ref q45), (0, .ref (sA Δ 0)), (1, .int (sJ p1)), (2, .int (sJ p2)), (3, .int (sJ p3)), (4, .int (sJ p4))]) hG dL_deed_48 (by decide) rfl ?_
        refine V.ldc (pc := 50) (x := (-200003)) hG kw_1434 dL_deed_50 ?_
        exact fin dL_deed_52 ((sR_l rfl))  (by decide) (by decide) z37 z38 h
    · have h := hq31
      refine V.ks (kc2 := 3) (sl2 := 18) (by decide) (by decide) ?_
      refine V.goto (pc := 15) (tgt := 27) hG dL_deed_15 (by decide) ?_
      refine V.pick [] rfl ?_
      exact jn27 v25 i26 r27 hv28 hi29 hw30 h
set_option maxRecDepth 100000 in
set_option maxHeartbeats 4000000 in
theorem sm_L_ask (l : Launch) (Δ : Wd) {i r : MI} {p1 : Int} {p2 : Int} {p3 : Int} (hp1 : sR p1) (hp2 : sR p2) (hp3 : sR p3) {Q : Int → MI → MI → Prop} (hst : l.stackTraces = false) (hi : okI i) (hw : Wf r) (h : wp_L_ask p1 p2 p3 i r Q) : Met l yL_ask (Cond.code yL_ask cL_ask 4 (some .int) :: gW) (sRx 10 228 3 18) (sPc Δ [.ref (sA Δ 0), .int (sJ p1), .int (sJ p2), .int (sJ p3)] i r) (sQi Δ (Q)) 3 18 (sFr Δ) := by
  refine Cm.i (ty := .int) (by decide) rfl (Nat.le_of_ble_eq_true rfl) (fun Γ Q0 hG fin => ?_)
  have hG : okG Γ Δ l (sRx 10 228 3 18) cL_ask "SchedularyLaw" 4 := hG
  show V Γ Δ 504 false i r 0 (6 * 0) Q0 0 [(0, .ref (sA Δ 0)), (1, .int (sJ p1)), (2, .int (sJ p2)), (3, .int (sJ p3))] []
  refine V.aload_n (pc := 0) hG dL_ask_0 rfl 0 rfl ?_
  refine V.iload_n (pc := 1) hG dL_ask_1 rfl 1 rfl ?_
  refine V.iload_n (pc := 2) hG dL_ask_2 rfl 2 rfl ?_
  refine V.iload_n (pc := 3) hG dL_ask_3 rfl 3 rfl ?_
  refine V.iconst (pc := 4) hG dL_ask_4 ?_
  obtain ⟨hk8, h⟩ := h
  refine V.callSWi (pc := 5) (na := 5) (As := [.ref (sA Δ 0), .int (sJ p1), .int (sJ p2), .int (sJ p3), .int (sJ 0)]) (stk := []) hG (sm_L_deed l Δ hp1 hp2 hp3 ((sR_l rfl)) hst hi hw h) kw_101 kl_L_deed ⟨by decide, by decide⟩ (by decide +kernel) kw_920 kw_921 ⟨Nat.le_of_ble_eq_true rfl, Nat.le_of_ble_eq_true rfl, by show _ ≤ 3; omega, by show _ ≤ 18; omega⟩ rfl (Nat.le_of_ble_eq_true rfl) dL_ask_5 rfl (fun v1 i2 r3 hv4 hi5 hw6 hq7 => ?_)
  have h := hq7
  refine V.ks (kc2 := (0 + 3)) (sl2 := 6 * (0 + 3)) (by omega) (by omega) ?_
  obtain ⟨hk11, h⟩ := h
  exact fin dL_ask_8 hv4 rfl hk11 (Nat.mul_le_mul_left 6 hk11) hi5 hw6 h
set_option maxRecDepth 100000 in
set_option maxHeartbeats 4000000 in
theorem sm_J0_coder_7d493ZZ (l : Launch) (Δ : Wd) {i r : MI} {a0 v0 n0 : Nat} {f0 : Int → Int}  (hE0 : ES Δ a0 v0 n0 f0) {Q : Int → Prop} (hi : okI i) (hw : Wf r) (h : wp_J0_coder_7d493ZZ i r n0 f0 Q) : Met l yJ0_coder_7d493 (Cond.code yJ0_coder_7d493 cJ0_coder_7d493 1 (some .byte) :: gW) (sRm 0 0) (sPc Δ [.ref a0] i r) (sQi Δ (fun x i' r' => i = i' ∧ r = r' ∧ Q x)) 0 0 (sFr Δ) := by
  refine Ct.i (ty := .byte) (by decide) rfl (Nat.le_of_ble_eq_true rfl) (fun Γ Q0 hG fin => ?_)
  have hG : okG Γ Δ l (sRm 0 0) cJ0_coder_7d493 "java/lang/String" 1 := hG
  show V Γ Δ 504 false i r 0 0 Q0 0 [(0, .ref a0)] []
  have jn14 : ∀ (k0j14 : Int), sR k0j14 → s14_J0_coder_7d493ZZ k0j14 i r n0 f0 Q → V Γ Δ 504 false i r 0 0 Q0 14 [] [.int (sJ k0j14)] := by
    intro k0j14 hk0j14 h
    obtain ⟨g2, h⟩ := h
    exact fin dJ0_coder_7d493_14 hk0j14 (nar_b g2) hi hw ⟨rfl, rfl, h⟩
  refine V.scs (pc := 0) hG kw_1026 dJ0_coder_7d493_0 ?_
  obtain ⟨t4, f5⟩ := h
  refine V.if_eq (pc := 3) (tgt := 13) hG ((sR_l rfl)) dJ0_coder_7d493_3 (by decide) (fun c3 => ?_) (fun c3 => ?_)
  · have h := t4 c3
    clear t4 f5
    refine V.iconst (pc := 13) hG dJ0_coder_7d493_13 ?_
    refine V.pick [] rfl ?_
    exact jn14 1 ((sR_l rfl)) h
  · have h := f5 c3
    clear t4 f5
    refine V.aload_n (pc := 6) hG dJ0_coder_7d493_6 rfl 0 rfl ?_
    refine V.escoder (pc := 7) hG hE0 kw_1456 dJ0_coder_7d493_7 ?_
    refine V.goto (pc := 10) (tgt := 14) hG dJ0_coder_7d493_10 (by decide) ?_
    refine V.pick [] rfl ?_
    exact jn14 0 ((sR_l rfl)) h
set_option maxRecDepth 100000 in
set_option maxHeartbeats 4000000 in
theorem sm_J0_length_8abf5ZZ (l : Launch) (Δ : Wd) {i r : MI} {a0 v0 n0 : Nat} {f0 : Int → Int}  (hE0 : ES Δ a0 v0 n0 f0) {Q : Int → Prop} (hi : okI i) (hw : Wf r) (h : wp_J0_length_8abf5ZZ i r n0 f0 Q) : Met l yJ0_length_8abf5 (Cond.code yJ0_length_8abf5 cJ0_length_8abf5 1 (some .int) :: gW) (sRm 1 20) (sPc Δ [.ref a0] i r) (sQi Δ (fun x i' r' => i = i' ∧ r = r' ∧ Q x)) 0 0 (sFr Δ) := by
  refine Ct.i (ty := .int) (by decide) rfl (Nat.le_of_ble_eq_true rfl) (fun Γ Q0 hG fin => ?_)
  have hG : okG Γ Δ l (sRm 1 20) cJ0_length_8abf5 "java/lang/String" 1 := hG
  show V Γ Δ 504 false i r 0 0 Q0 0 [(0, .ref a0)] []
  refine V.aload_n (pc := 0) hG dJ0_length_8abf5_0 rfl 0 rfl ?_
  refine V.esval (pc := 1) hG hE0 kw_1455 dJ0_length_8abf5_1 ?_
  refine V.eslen (pc := 4) hG hE0 dJ0_length_8abf5_4 ?_
  refine V.aload_n (pc := 5) hG dJ0_length_8abf5_5 rfl 0 rfl ?_
  refine V.callVDi (pc := 6) (As := []) (stk := [.int (sJ (n0 : Int))]) hG (sm_J0_coder_7d493ZZ l Δ hE0 hi hw h) mY_J0_coder_7d493 kw_1032 kw_1033 kw_1034 hE0 rfl ⟨Nat.le_of_ble_eq_true rfl, Nat.le_of_ble_eq_true rfl, Nat.le_of_ble_eq_true rfl, Nat.le_of_ble_eq_true rfl⟩ rfl (Nat.le_of_ble_eq_true rfl) dJ0_length_8abf5_6 rfl (fun v1 i2 r3 hv4 hi5 hw6 hq7 => ?_)
  obtain ⟨e8, e9, h⟩ := hq7
  subst e8
  subst e9
  refine V.ishr (pc := 9) hG dJ0_length_8abf5_9 ?_
  exact fin dJ0_length_8abf5_10 ((sR_shr _ _)) rfl hi hw ⟨rfl, rfl, h⟩
set_option maxRecDepth 100000 in
set_option maxHeartbeats 4000000 in
theorem sm_J0_isLatin1_aae02ZZ (l : Launch) (Δ : Wd) {i r : MI} {a0 v0 n0 : Nat} {f0 : Int → Int}  (hE0 : ES Δ a0 v0 n0 f0) {Q : Int → Prop} (hi : okI i) (hw : Wf r) (h : wp_J0_isLatin1_aae02ZZ i r n0 f0 Q) : Met l yJ0_isLatin1_aae02 (Cond.code yJ0_isLatin1_aae02 cJ0_isLatin1_aae02 1 (some .boolean) :: gW) (sRm 0 0) (sPc Δ [.ref a0] i r) (sQi Δ (fun x i' r' => i = i' ∧ r = r' ∧ Q x)) 0 0 (sFr Δ) := by
  refine Ct.i (ty := .boolean) (by decide) rfl (Nat.le_of_ble_eq_true rfl) (fun Γ Q0 hG fin => ?_)
  have hG : okG Γ Δ l (sRm 0 0) cJ0_isLatin1_aae02 "java/lang/String" 1 := hG
  show V Γ Δ 504 false i r 0 0 Q0 0 [(0, .ref a0)] []
  have jn18 : ∀ (k0j18 : Int), sR k0j18 → s18_J0_isLatin1_aae02ZZ k0j18 i r n0 f0 Q → V Γ Δ 504 false i r 0 0 Q0 18 [] [.int (sJ k0j18)] := by
    intro k0j18 hk0j18 h
    obtain ⟨g2, h⟩ := h
    exact fin dJ0_isLatin1_aae02_18 hk0j18 (nar_z g2) hi hw ⟨rfl, rfl, h⟩
  have jn17 : s17_J0_isLatin1_aae02ZZ i r n0 f0 Q → V Γ Δ 504 false i r 0 0 Q0 17 [] [] := by
    intro h
    refine V.iconst (pc := 17) hG dJ0_isLatin1_aae02_17 ?_
    exact jn18 0 ((sR_l rfl)) h
  refine V.scs (pc := 0) hG kw_1026 dJ0_isLatin1_aae02_0 ?_
  obtain ⟨t4, f5⟩ := h
  refine V.if_eq (pc := 3) (tgt := 17) hG ((sR_l rfl)) dJ0_isLatin1_aae02_3 (by decide) (fun c3 => ?_) (fun c3 => ?_)
  · have h := t4 c3
    clear t4 f5
    refine V.pick [] rfl ?_
    exact jn17 h
  · have h := f5 c3
    clear t4 f5
    refine V.aload_n (pc := 6) hG dJ0_isLatin1_aae02_6 rfl 0 rfl ?_
    refine V.escoder (pc := 7) hG hE0 kw_1456 dJ0_isLatin1_aae02_7 ?_
    obtain ⟨f8, t7⟩ := h
    refine V.if_ne (pc := 10) (tgt := 17) hG ((sR_l rfl)) dJ0_isLatin1_aae02_10 (by decide) (fun c6 => ?_) (fun c6 => ?_)
    · have h := t7 c6
      clear t7 f8
      refine V.pick [] rfl ?_
      exact jn17 h
    · have h := f8 c6
      clear t7 f8
      refine V.iconst (pc := 13) hG dJ0_isLatin1_aae02_13 ?_
      refine V.goto (pc := 14) (tgt := 18) hG dJ0_isLatin1_aae02_14 (by decide) ?_
      refine V.pick [] rfl ?_
      exact jn18 1 ((sR_l rfl)) h
set_option maxRecDepth 100000 in
set_option maxHeartbeats 4000000 in
theorem sm_J1_charAt_3b067ZZ (l : Launch) (Δ : Wd) {i r : MI} {a0 v0 n0 : Nat} {f0 : Int → Int} {p1 : Int} (hE0 : ES Δ a0 v0 n0 f0) (hp1 : sR p1) {Q : Int → Prop} (hi : okI i) (hw : Wf r) (h : wp_J1_charAt_3b067ZZ p1 i r n0 f0 Q) : Met l yJ1_charAt_3b067 (Cond.code yJ1_charAt_3b067 cJ1_charAt_3b067 2 (some .char) :: gW) (sRm 2 43) (sPc Δ [.ref v0, .int (sJ p1)] i r) (sQi Δ (fun x i' r' => i = i' ∧ r = r' ∧ Q x)) 0 0 (sFr Δ) := by
  refine Ct.i (ty := .char) (by decide) rfl (Nat.le_of_ble_eq_true rfl) (fun Γ Q0 hG fin => ?_)
  have hG : okG Γ Δ l (sRm 2 43) cJ1_charAt_3b067 "java/lang/StringLatin1" 2 := hG
  show V Γ Δ 504 false i r 0 0 Q0 0 [(0, .ref v0), (1, .int (sJ p1))] []
  refine V.iload_n (pc := 0) hG dJ1_charAt_3b067_0 rfl 1 rfl ?_
  refine V.aload_n (pc := 1) hG dJ1_charAt_3b067_1 rfl 0 rfl ?_
  refine V.eslen (pc := 2) hG hE0 dJ1_charAt_3b067_2 ?_
  refine V.callSv (pc := 3) (As := [.int (sJ p1), .int (sJ (n0 : Int))]) (stk := []) hG (sm_J0_checkIndex_df160 l Δ hp1 ((sR_nat hE0.2.2)) hi hw h) mY_J0_checkIndex_df160 kw_1355 kw_1356 ⟨Nat.le_of_ble_eq_true rfl, Nat.le_of_ble_eq_true rfl, Nat.le_of_ble_eq_true rfl, Nat.le_of_ble_eq_true rfl⟩ rfl (Nat.le_of_ble_eq_true rfl) dJ1_charAt_3b067_3 rfl (fun i2 r3 hi5 hw6 hq7 => ?_)
  obtain ⟨e10, e11, h⟩ := hq7
  subst e10
  subst e11
  refine V.aload_n (pc := 6) hG dJ1_charAt_3b067_6 rfl 0 rfl ?_
  refine V.iload_n (pc := 7) hG dJ1_charAt_3b067_7 rfl 1 rfl ?_
  obtain ⟨g8, h⟩ := h
  refine V.esbald (pc := 8) hG hE0 hp1 g8 dJ1_charAt_3b067_8 ?_
  refine V.sipush (pc := 9) hG dJ1_charAt_3b067_9 (by decide) ?_
  refine V.iand (pc := 12) hG dJ1_charAt_3b067_12 ?_
  refine V.i2c (pc := 13) hG ((sR_and _ _)) dJ1_charAt_3b067_13 ?_
  obtain ⟨g9, h⟩ := h
  exact fin dJ1_charAt_3b067_14 sR_c (nar_c g9) hi hw ⟨rfl, rfl, h⟩
set_option maxRecDepth 100000 in
set_option maxHeartbeats 4000000 in
theorem sm_J0_charAt_5068eZZ (l : Launch) (Δ : Wd) {i r : MI} {a0 v0 n0 : Nat} {f0 : Int → Int} {p1 : Int} (hE0 : ES Δ a0 v0 n0 f0) (hp1 : sR p1) {Q : Int → Prop} (hi : okI i) (hw : Wf r) (h : wp_J0_charAt_5068eZZ p1 i r n0 f0 Q) : Met l yJ0_charAt_5068e (Cond.code yJ0_charAt_5068e cJ0_charAt_5068e 2 (some .char) :: gW) (sRm 3 64) (sPc Δ [.ref a0, .int (sJ p1)] i r) (sQi Δ (fun x i' r' => i = i' ∧ r = r' ∧ Q x)) 0 0 (sFr Δ) := by
  refine Ct.i (ty := .char) (by decide) rfl (Nat.le_of_ble_eq_true rfl) (fun Γ Q0 hG fin => ?_)
  have hG : okG Γ Δ l (sRm 3 64) cJ0_charAt_5068e "java/lang/String" 2 := hG
  show V Γ Δ 504 false i r 0 0 Q0 0 [(0, .ref a0), (1, .int (sJ p1))] []
  refine V.aload_n (pc := 0) hG dJ0_charAt_5068e_0 rfl 0 rfl ?_
  refine V.callVDi (pc := 1) (As := []) (stk := []) hG (sm_J0_isLatin1_aae02ZZ l Δ hE0 hi hw h) mY_J0_isLatin1_aae02 kw_1022 kw_1023 kw_1024 hE0 rfl ⟨Nat.le_of_ble_eq_true rfl, Nat.le_of_ble_eq_true rfl, Nat.le_of_ble_eq_true rfl, Nat.le_of_ble_eq_true rfl⟩ rfl (Nat.le_of_ble_eq_true rfl) dJ0_charAt_5068e_1 rfl (fun v1 i2 r3 hv4 hi5 hw6 hq7 => ?_)
  obtain ⟨e8, e9, h⟩ := hq7
  subst e8
  subst e9
  obtain ⟨t11, f12⟩ := h
  refine V.if_eq (pc := 4) (tgt := 16) hG hv4 dJ0_charAt_5068e_4 (by decide) (fun c10 => ?_) (fun c10 => ?_)
  · have h := t11 c10
    clear t11 f12
    refine V.aload_n (pc := 16) hG dJ0_charAt_5068e_16 rfl 0 rfl ?_
    refine V.esval (pc := 17) hG hE0 kw_1455 dJ0_charAt_5068e_17 ?_
    refine V.iload_n (pc := 20) hG dJ0_charAt_5068e_20 rfl 1 rfl ?_
    exact h.elim
  · have h := f12 c10
    clear t11 f12
    refine V.aload_n (pc := 7) hG dJ0_charAt_5068e_7 rfl 0 rfl ?_
    refine V.esval (pc := 8) hG hE0 kw_1455 dJ0_charAt_5068e_8 ?_
    refine V.iload_n (pc := 11) hG dJ0_charAt_5068e_11 rfl 1 rfl ?_
    refine V.callSi (pc := 12) (As := [.ref v0, .int (sJ p1)]) (stk := []) hG (sm_J1_charAt_3b067ZZ l Δ hE0 hp1 hi hw h) mY_J1_charAt_3b067 kw_1352 kw_1353 ⟨Nat.le_of_ble_eq_true rfl, Nat.le_of_ble_eq_true rfl, Nat.le_of_ble_eq_true rfl, Nat.le_of_ble_eq_true rfl⟩ rfl (Nat.le_of_ble_eq_true rfl) dJ0_charAt_5068e_12 rfl (fun v13 i14 r15 hv16 hi17 hw18 hq19 => ?_)
    obtain ⟨e20, e21, h⟩ := hq19
    subst e20
    subst e21
    obtain ⟨g22, h⟩ := h
    exact fin dJ0_charAt_5068e_15 hv16 (nar_c g22) hi hw ⟨rfl, rfl, h⟩
set_option maxRecDepth 100000 in
set_option maxHeartbeats 4000000 in
theorem sm_L_type (l : Launch) (Δ : Wd) {i r : MI} {a0 v0 n0 : Nat} {f0 : Int → Int}  (hE0 : ES Δ a0 v0 n0 f0) {Q : MI → MI → Prop} (hst : l.stackTraces = false) (hi : okI i) (hw : Wf r) (h : wp_L_type i r n0 f0 Q) : Met l yL_type (Cond.code yL_type cL_type 3 none :: gW) (sRx 11 251 80 480) (sPc Δ [.ref (sA Δ 0), .ref a0] i r) (sQv Δ (Q)) 80 480 (sFr Δ) := by
  refine Cm.v (by decide) rfl (Nat.le_of_ble_eq_true rfl) (fun Γ Q0 hG fin => ?_)
  have hG : okG Γ Δ l (sRx 11 251 80 480) cL_type "SchedularyLaw" 3 := hG
  show V Γ Δ 504 false i r 0 (6 * 0) Q0 0 [(0, .ref (sA Δ 0)), (1, .ref a0)] []
  refine V.iconst (pc := 0) hG dL_type_0 ?_
  refine V.istore_n (pc := 1) (lv' := [(2, .int (sJ 0)), (0, .ref (sA Δ 0)), (1, .ref a0)]) hG dL_type_1 rfl (by decide) rfl ?_
  obtain ⟨n35, h⟩ := h
  have lp2 : ∀ (m2 : Nat) (x2_2 : Int) (i_2 : MI) (r_2 : MI) (k_2 : Nat), sR x2_2 → okI i_2 → Wf r_2 → LoopP (b2_L_type n0 f0 Q) m2 (x2_2, i_2, r_2, k_2) → V Γ Δ 504 false i_2 r_2 k_2 (6 * k_2) Q0 2 [(0, .ref (sA Δ 0)), (1, .ref a0), (2, .int (sJ x2_2))] [] := by
    intro m2
    induction m2 with
    | zero => intro x2_2 i_2 r_2 k_2 hx2_2 hi_2 hw_2 h; exact h.elim
    | succ m2 ih2 =>
      intro x2_2 i_2 r_2 k_2 hx2_2 hi_2 hw_2 h
      have h := LoopP_succ h
      simp only [b2_L_type] at h
      refine V.iload_n (pc := 2) hG dL_type_2 rfl 2 rfl ?_
      refine V.aload_n (pc := 3) hG dL_type_3 rfl 1 rfl ?_
      obtain ⟨hk69, h⟩ := h
      refine V.callVDi (pc := 4) (As := []) (stk := [.int (sJ x2_2)]) hG (sm_J0_length_8abf5ZZ l Δ hE0 hi_2 hw_2 h) mY_J0_length_8abf5 kw_1713 kw_1029 kw_1030 hE0 rfl ⟨Nat.le_of_ble_eq_true rfl, Nat.le_of_ble_eq_true rfl, hk69, Nat.mul_le_mul_left 6 hk69⟩ rfl (Nat.le_of_ble_eq_true rfl) dL_type_4 rfl (fun v36 i37 r38 hv39 hi40 hw41 hq42 => ?_)
      obtain ⟨e43, e44, h⟩ := hq42
      subst e43
      subst e44
      obtain ⟨t46, f47⟩ := h
      refine V.icmp_ge (pc := 7) (tgt := 28) hG hx2_2 hv39 dL_type_7 (by decide) (fun c45 => ?_) (fun c45 => ?_)
      · have h := t46 c45
        clear t46 f47
        obtain ⟨hk48, h⟩ := h
        exact fin dL_type_28 hk48 (Nat.mul_le_mul_left 6 hk48) hi_2 hw_2 h
      · have h := f47 c45
        clear t46 f47
        refine V.aload_n (pc := 10) hG dL_type_10 rfl 0 rfl ?_
        refine V.iconst (pc := 11) hG dL_type_11 ?_
        refine V.aload_n (pc := 12) hG dL_type_12 rfl 1 rfl ?_
        refine V.iload_n (pc := 13) hG dL_type_13 rfl 2 rfl ?_
        obtain ⟨hk68, h⟩ := h
        refine V.callVDi (pc := 14) (As := [.int (sJ x2_2)]) (stk := [.int (sJ 0), .ref (sA Δ 0)]) hG (sm_J0_charAt_5068eZZ l Δ hE0 hx2_2 hi_2 hw_2 h) mY_J0_charAt_5068e kw_1691 kw_1349 kw_1350 hE0 rfl ⟨Nat.le_of_ble_eq_true rfl, Nat.le_of_ble_eq_true rfl, hk68, Nat.mul_le_mul_left 6 hk68⟩ rfl (Nat.le_of_ble_eq_true rfl) dL_type_14 rfl (fun v49 i50 r51 hv52 hi53 hw54 hq55 => ?_)
        obtain ⟨e56, e57, h⟩ := hq55
        subst e56
        subst e57
        refine V.iconst (pc := 17) hG dL_type_17 ?_
        obtain ⟨hk65, h⟩ := h
        refine V.mcallSi (pc := 18) (As := [.ref (sA Δ 0), .int (sJ 0), .int (sJ v49), .int (sJ 0)]) (stk := []) hG (sm_L_ask l Δ ((sR_l rfl)) hv52 ((sR_l rfl)) hst hi_2 hw_2 h) mY_L_ask kw_917 kw_918 ⟨Nat.le_of_ble_eq_true rfl, Nat.le_of_ble_eq_true rfl, by show _ ≤ 80; omega, by show _ ≤ 480; omega⟩ rfl (Nat.le_of_ble_eq_true rfl) dL_type_18 rfl (fun v58 i59 r60 hv61 hi62 hw63 hq64 => ?_)
        have h := hq64
        refine V.ks (kc2 := (k_2 + 3)) (sl2 := 6 * (k_2 + 3)) (by omega) (by omega) ?_
        refine V.pop (pc := 21) hG dL_type_21 rfl ?_
        refine V.iinc (pc := 22) (lv' := [(2, .int (sJ (wr (x2_2 + 1)))), (0, .ref (sA Δ 0)), (1, .ref a0)]) hG dL_type_22 2 rfl (by decide) rfl ?_
        refine V.goto (pc := 25) (tgt := 2) hG dL_type_25 (by decide) ?_
        refine V.pick [1, 2, 0] rfl ?_
        exact ih2 (wr (x2_2 + 1)) i59 r60 (k_2 + 3) ((sR_wr _)) hi62 hw63 h
  refine V.pick [1, 2, 0] rfl ?_
  exact lp2 n35 0 i r 0 ((sR_l rfl)) hi hw h
set_option maxRecDepth 100000 in
set_option maxHeartbeats 4000000 in
theorem sm_L_add (l : Launch) (Δ : Wd) {i r : MI} {a0 v0 n0 : Nat} {f0 : Int → Int}  (hE0 : ES Δ a0 v0 n0 f0) {Q : Int → MI → MI → Prop} (hst : l.stackTraces = false) (hi : okI i) (hw : Wf r) (h : wp_L_add i r n0 f0 Q) : Met l yL_add (Cond.code yL_add cL_add 2 (some .int) :: gW) (sRx 12 273 90 540) (sPc Δ [.ref (sA Δ 0), .ref a0] i r) (sQi Δ (Q)) 90 540 (sFr Δ) := by
  refine Cm.i (ty := .int) (by decide) rfl (Nat.le_of_ble_eq_true rfl) (fun Γ Q0 hG fin => ?_)
  have hG : okG Γ Δ l (sRx 12 273 90 540) cL_add "SchedularyLaw" 2 := hG
  show V Γ Δ 504 false i r 0 (6 * 0) Q0 0 [(0, .ref (sA Δ 0)), (1, .ref a0)] []
  refine V.aload_n (pc := 0) hG dL_add_0 rfl 0 rfl ?_
  obtain ⟨hk31, h⟩ := h
  refine V.callVi (pc := 1) (As := []) (stk := []) hG (sm_X11_clear l Δ  hi hw h) mY_X11_clear kw_1706 kw_1707 kw_1708 a_0 (by decide) (q := (RX11, TX11, 11)) rfl rfl ⟨Nat.le_of_ble_eq_true rfl, Nat.le_of_ble_eq_true rfl, hk31, Nat.mul_le_mul_left 6 hk31⟩ rfl (Nat.le_of_ble_eq_true rfl) dL_add_1 rfl (fun v1 i2 r3 hv4 hi5 hw6 hq7 => ?_)
  obtain ⟨e30, h⟩ := hq7
  subst e30
  refine V.pop (pc := 4) hG dL_add_4 rfl ?_
  refine V.aload_n (pc := 5) hG dL_add_5 rfl 0 rfl ?_
  refine V.aload_n (pc := 6) hG dL_add_6 rfl 1 rfl ?_
  obtain ⟨hk15, h⟩ := h
  refine V.mcallSv (pc := 7) (As := [.ref (sA Δ 0), .ref a0]) (stk := []) hG (sm_L_type l Δ hE0 hst hi5 hw h) mY_L_type kw_1710 kw_1711 ⟨Nat.le_of_ble_eq_true rfl, Nat.le_of_ble_eq_true rfl, by show _ ≤ 90; omega, by show _ ≤ 540; omega⟩ rfl (Nat.le_of_ble_eq_true rfl) dL_add_7 rfl (fun i9 r10 hi12 hw13 hq14 => ?_)
  have h := hq14
  refine V.ks (kc2 := (0 + 80)) (sl2 := 6 * (0 + 80)) (by omega) (by omega) ?_
  refine V.aload_n (pc := 10) hG dL_add_10 rfl 0 rfl ?_
  refine V.iconst (pc := 11) hG dL_add_11 ?_
  refine V.iconst (pc := 12) hG dL_add_12 ?_
  refine V.iconst (pc := 13) hG dL_add_13 ?_
  obtain ⟨hk25, h⟩ := h
  refine V.mcallSi (pc := 14) (As := [.ref (sA Δ 0), .int (sJ 1), .int (sJ 0), .int (sJ 0)]) (stk := []) hG (sm_L_ask l Δ ((sR_l rfl)) ((sR_l rfl)) ((sR_l rfl)) hst hi12 hw13 h) mY_L_ask kw_917 kw_918 ⟨Nat.le_of_ble_eq_true rfl, Nat.le_of_ble_eq_true rfl, by show _ ≤ 90; omega, by show _ ≤ 540; omega⟩ rfl (Nat.le_of_ble_eq_true rfl) dL_add_14 rfl (fun v18 i19 r20 hv21 hi22 hw23 hq24 => ?_)
  have h := hq24
  refine V.ks (kc2 := ((0 + 80) + 3)) (sl2 := 6 * ((0 + 80) + 3)) (by omega) (by omega) ?_
  obtain ⟨hk28, h⟩ := h
  exact fin dL_add_17 hv21 rfl hk28 (Nat.mul_le_mul_left 6 hk28) hi22 hw23 h
set_option maxRecDepth 100000 in
set_option maxHeartbeats 4000000 in
theorem sm_L_isSame (l : Launch) (Δ : Wd) {i r : MI}   {Q : Int → MI → MI → Prop} (hst : l.stackTraces = false) (hi : okI i) (hw : Wf r) (h : wp_L_isSame i r Q) : Met l yL_isSame (Cond.code yL_isSame cL_isSame 4 (some .boolean) :: gW) (sRx 11 251 1500 9000) (sPc Δ [.ref (sA Δ 0)] i r) (sQi Δ (Q)) 1500 9000 (sFr Δ) := by
  refine Cm.i (ty := .boolean) (by decide) rfl (Nat.le_of_ble_eq_true rfl) (fun Γ Q0 hG fin => ?_)
  have hG : okG Γ Δ l (sRx 11 251 1500 9000) cL_isSame "SchedularyLaw" 4 := hG
  show V Γ Δ 504 false i r 0 (6 * 0) Q0 0 [(0, .ref (sA Δ 0))] []
  have jn160 : ∀ (x2j160 : Int) (ij160 : MI) (rj160 : MI) (kj160 : Nat), sR x2j160 → okI ij160 → Wf rj160 → s160_L_isSame x2j160 ij160 rj160 kj160 Q → V Γ Δ 504 false ij160 rj160 kj160 (6 * kj160) Q0 160 [(2, .int (sJ x2j160))] [] := by
    intro x2j160 ij160 rj160 kj160 hx2j160 hij160 hwj160 h
    refine V.iload_n (pc := 160) hG dL_isSame_160 rfl 0 rfl ?_
    obtain ⟨hk4, h⟩ := h
    obtain ⟨g3, h⟩ := h
    exact fin dL_isSame_161 hx2j160 (nar_z g3) hk4 (Nat.mul_le_mul_left 6 hk4) hij160 hwj160 h
  have jn94 : ∀ (x2j94 : Int) (ij94 : MI) (rj94 : MI) (kj94 : Nat), sR x2j94 → okI ij94 → Wf rj94 → s94_L_isSame x2j94 ij94 rj94 kj94 Q → V Γ Δ 504 false ij94 rj94 kj94 (6 * kj94) Q0 94 [(0, .ref (sA Δ 0)), (2, .int (sJ x2j94))] [] := by
    intro x2j94 ij94 rj94 kj94 hx2j94 hij94 hwj94 h
    refine V.iconst (pc := 94) hG dL_isSame_94 ?_
    refine V.istore_n (pc := 95) (lv' := [(3, .int (sJ 0)), (0, .ref (sA Δ 0)), (2, .int (sJ x2j94))]) hG dL_isSame_95 rfl (by decide) rfl ?_
    obtain ⟨n110, h⟩ := h
    have lp96 : ∀ (m96 : Nat) (x2_96 : Int) (x3_96 : Int) (i_96 : MI) (r_96 : MI) (k_96 : Nat), sR x2_96 → sR x3_96 → okI i_96 → Wf r_96 → LoopP (b96_L_isSame Q) m96 (x2_96, x3_96, i_96, r_96, k_96) → V Γ Δ 504 false i_96 r_96 k_96 (6 * k_96) Q0 96 [(0, .ref (sA Δ 0)), (2, .int (sJ x2_96)), (3, .int (sJ x3_96))] [] := by
      intro m96
      induction m96 with
      | zero => intro x2_96 x3_96 i_96 r_96 k_96 hx2_96 hx3_96 hi_96 hw_96 h; exact h.elim
      | succ m96 ih96 =>
        intro x2_96 x3_96 i_96 r_96 k_96 hx2_96 hx3_96 hi_96 hw_96 h
        have h := LoopP_succ h
        have jn153 : ∀ (x3j153 : Int) (k0j153 : Int) (ij153 : MI) (rj153 : MI) (kj153 : Nat), sR x3j153 → sR k0j153 → okI ij153 → Wf rj153 → s153_L_isSame x3j153 k0j153 ij153 rj153 kj153 Q (LoopP (b96_L_isSame Q) m96) → V Γ Δ 504 false ij153 rj153 kj153 (6 * kj153) Q0 153 [(0, .ref (sA Δ 0)), (3, .int (sJ x3j153))] [.int (sJ k0j153)] := by
          intro x3j153 k0j153 ij153 rj153 kj153 hx3j153 hk0j153 hij153 hwj153 h
          refine V.istore_n (pc := 153) (lv' := [(2, .int (sJ k0j153)), (0, .ref (sA Δ 0)), (3, .int (sJ x3j153))]) hG dL_isSame_153 rfl (by decide) rfl ?_
          refine V.iinc (pc := 154) (lv' := [(3, .int (sJ (wr (x3j153 + 1)))), (2, .int (sJ k0j153)), (0, .ref (sA Δ 0))]) hG dL_isSame_154 2 rfl (by decide) rfl ?_
          refine V.goto (pc := 157) (tgt := 96) hG dL_isSame_157 (by decide) ?_
          refine V.pick [2, 1, 0] rfl ?_
          exact ih96 k0j153 (wr (x3j153 + 1)) ij153 rj153 kj153 hk0j153 ((sR_wr _)) hij153 hwj153 h
        have jn152 : ∀ (x3j152 : Int) (ij152 : MI) (rj152 : MI) (kj152 : Nat), sR x3j152 → okI ij152 → Wf rj152 → s152_L_isSame x3j152 ij152 rj152 kj152 Q (LoopP (b96_L_isSame Q) m96) → V Γ Δ 504 false ij152 rj152 kj152 (6 * kj152) Q0 152 [(0, .ref (sA Δ 0)), (3, .int (sJ x3j152))] [] := by
          intro x3j152 ij152 rj152 kj152 hx3j152 hij152 hwj152 h
          refine V.iconst (pc := 152) hG dL_isSame_152 ?_
          exact jn153 x3j152 0 ij152 rj152 kj152 hx3j152 ((sR_l rfl)) hij152 hwj152 h
        refine V.iload_n (pc := 96) hG dL_isSame_96 rfl 2 rfl ?_
        refine V.bipush (pc := 97) hG dL_isSame_97 (by decide) ?_
        obtain ⟨t112, f113⟩ := h
        refine V.icmp_ge (pc := 99) (tgt := 160) hG hx3_96 ((sR_l rfl)) dL_isSame_99 (by decide) (fun c111 => ?_) (fun c111 => ?_)
        · have h := t112 c111
          clear t112 f113
          refine V.pick [1] rfl ?_
          exact jn160 x2_96 i_96 r_96 k_96 hx2_96 hi_96 hw_96 h
        · have h := f113 c111
          clear t112 f113
          refine V.iload_n (pc := 102) hG dL_isSame_102 rfl 1 rfl ?_
          obtain ⟨t115, f116⟩ := h
          refine V.if_eq (pc := 103) (tgt := 160) hG hx2_96 dL_isSame_103 (by decide) (fun c114 => ?_) (fun c114 => ?_)
          · have h := t115 c114
            clear t115 f116
            refine V.pick [1] rfl ?_
            exact jn160 x2_96 i_96 r_96 k_96 hx2_96 hi_96 hw_96 h
          · have h := f116 c114
            clear t115 f116
            refine V.aload_n (pc := 106) hG dL_isSame_106 rfl 0 rfl ?_
            refine V.bipush (pc := 107) hG dL_isSame_107 (by decide) ?_
            refine V.bipush (pc := 109) hG dL_isSame_109 (by decide) ?_
            refine V.iload_n (pc := 111) hG dL_isSame_111 rfl 2 rfl ?_
            obtain ⟨hk124, h⟩ := h
            refine V.mcallSi (pc := 112) (As := [.ref (sA Δ 0), .int (sJ 21), .int (sJ 77), .int (sJ x3_96)]) (stk := []) hG (sm_L_ask l Δ ((sR_l rfl)) ((sR_l rfl)) hx3_96 hst hi_96 hw_96 h) mY_L_ask kw_917 kw_918 ⟨Nat.le_of_ble_eq_true rfl, Nat.le_of_ble_eq_true rfl, by show _ ≤ 1500; omega, by show _ ≤ 9000; omega⟩ rfl (Nat.le_of_ble_eq_true rfl) dL_isSame_112 rfl (fun v117 i118 r119 hv120 hi121 hw122 hq123 => ?_)
            have h := hq123
            refine V.ks (kc2 := (k_96 + 3)) (sl2 := 6 * (k_96 + 3)) (by omega) (by omega) ?_
            refine V.aload_n (pc := 115) hG dL_isSame_115 rfl 0 rfl ?_
            refine V.bipush (pc := 116) hG dL_isSame_116 (by decide) ?_
            refine V.bipush (pc := 118) hG dL_isSame_118 (by decide) ?_
            refine V.iload_n (pc := 120) hG dL_isSame_120 rfl 2 rfl ?_
            obtain ⟨hk134, h⟩ := h
            refine V.mcallSi (pc := 121) (As := [.ref (sA Δ 0), .int (sJ 31), .int (sJ 77), .int (sJ x3_96)]) (stk := [.int (sJ v117)]) hG (sm_L_ask l Δ ((sR_l rfl)) ((sR_l rfl)) hx3_96 hst hi121 hw122 h) mY_L_ask kw_917 kw_918 ⟨Nat.le_of_ble_eq_true rfl, Nat.le_of_ble_eq_true rfl, by show _ ≤ 1500; omega, by show _ ≤ 9000; omega⟩ rfl (Nat.le_of_ble_eq_true rfl) dL_isSame_121 rfl (fun v127 i128 r129 hv130 hi131 hw132 hq133 => ?_)
            have h := hq133
            refine V.ks (kc2 := ((k_96 + 3) + 3)) (sl2 := 6 * ((k_96 + 3) + 3)) (by omega) (by omega) ?_
            obtain ⟨f139, t138⟩ := h
            refine V.icmp_ne (pc := 124) (tgt := 152) hG hv120 hv130 dL_isSame_124 (by decide) (fun c137 => ?_) (fun c137 => ?_)
            · have h := t138 c137
              clear t138 f139
              refine V.pick [0, 2] rfl ?_
              exact jn152 x3_96 i128 r129 ((k_96 + 3) + 3) hx3_96 hi131 hw132 h
            · have h := f139 c137
              clear t138 f139
              refine V.aload_n (pc := 127) hG dL_isSame_127 rfl 0 rfl ?_
              refine V.bipush (pc := 128) hG dL_isSame_128 (by decide) ?_
              refine V.bipush (pc := 130) hG dL_isSame_130 (by decide) ?_
              refine V.iload_n (pc := 132) hG dL_isSame_132 rfl 2 rfl ?_
              obtain ⟨hk147, h⟩ := h
              refine V.mcallSi (pc := 133) (As := [.ref (sA Δ 0), .int (sJ 21), .int (sJ 78), .int (sJ x3_96)]) (stk := []) hG (sm_L_ask l Δ ((sR_l rfl)) ((sR_l rfl)) hx3_96 hst hi131 hw132 h) mY_L_ask kw_917 kw_918 ⟨Nat.le_of_ble_eq_true rfl, Nat.le_of_ble_eq_true rfl, by show _ ≤ 1500; omega, by show _ ≤ 9000; omega⟩ rfl (Nat.le_of_ble_eq_true rfl) dL_isSame_133 rfl (fun v140 i141 r142 hv143 hi144 hw145 hq146 => ?_)
              have h := hq146
              refine V.ks (kc2 := (((k_96 + 3) + 3) + 3)) (sl2 := 6 * (((k_96 + 3) + 3) + 3)) (by omega) (by omega) ?_
              refine V.aload_n (pc := 136) hG dL_isSame_136 rfl 0 rfl ?_
              refine V.bipush (pc := 137) hG dL_isSame_137 (by decide) ?_
              refine V.bipush (pc := 139) hG dL_isSame_139 (by decide) ?_
              refine V.iload_n (pc := 141) hG dL_isSame_141 rfl 2 rfl ?_
              obtain ⟨hk157, h⟩ := h
              refine V.mcallSi (pc := 142) (As := [.ref (sA Δ 0), .int (sJ 31), .int (sJ 78), .int (sJ x3_96)]) (stk := [.int (sJ v140)]) hG (sm_L_ask l Δ ((sR_l rfl)) ((sR_l rfl)) hx3_96 hst hi144 hw145 h) mY_L_ask kw_917 kw_918 ⟨Nat.le_of_ble_eq_true rfl, Nat.le_of_ble_eq_true rfl, by show _ ≤ 1500; omega, by show _ ≤ 9000; omega⟩ rfl (Nat.le_of_ble_eq_true rfl) dL_isSame_142 rfl (fun v150 i151 r152 hv153 hi154 hw155 hq156 => ?_)
              have h := hq156
              refine V.ks (kc2 := ((((k_96 + 3) + 3) + 3) + 3)) (sl2 := 6 * ((((k_96 + 3) + 3) + 3) + 3)) (by omega) (by omega) ?_
              obtain ⟨f162, t161⟩ := h
              refine V.icmp_ne (pc := 145) (tgt := 152) hG hv143 hv153 dL_isSame_145 (by decide) (fun c160 => ?_) (fun c160 => ?_)
              · have h := t161 c160
                clear t161 f162
                refine V.pick [0, 2] rfl ?_
                exact jn152 x3_96 i151 r152 ((((k_96 + 3) + 3) + 3) + 3) hx3_96 hi154 hw155 h
              · have h := f162 c160
                clear t161 f162
                refine V.iconst (pc := 148) hG dL_isSame_148 ?_
                refine V.goto (pc := 149) (tgt := 153) hG dL_isSame_149 (by decide) ?_
                refine V.pick [0, 2] rfl ?_
                exact jn153 x3_96 1 i151 r152 ((((k_96 + 3) + 3) + 3) + 3) hx3_96 ((sR_l rfl)) hi154 hw155 h
    refine V.pick [1, 2, 0] rfl ?_
    exact lp96 n110 x2j94 0 ij94 rj94 kj94 hx2j94 ((sR_l rfl)) hij94 hwj94 h
  have jn51 : ∀ (x1j51 : Int) (k0j51 : Int) (ij51 : MI) (rj51 : MI) (kj51 : Nat), sR x1j51 → sR k0j51 → okI ij51 → Wf rj51 → s51_L_isSame x1j51 k0j51 ij51 rj51 kj51 Q → V Γ Δ 504 false ij51 rj51 kj51 (6 * kj51) Q0 51 [(0, .ref (sA Δ 0)), (1, .int (sJ x1j51))] [.int (sJ k0j51)] := by
    intro x1j51 k0j51 ij51 rj51 kj51 hx1j51 hk0j51 hij51 hwj51 h
    refine V.istore_n (pc := 51) (lv' := [(2, .int (sJ k0j51)), (0, .ref (sA Δ 0)), (1, .int (sJ x1j51))]) hG dL_isSame_51 rfl (by decide) rfl ?_
    refine V.iconst (pc := 52) hG dL_isSame_52 ?_
    refine V.istore_n (pc := 53) (lv' := [(3, .int (sJ 0)), (2, .int (sJ k0j51)), (0, .ref (sA Δ 0)), (1, .int (sJ x1j51))]) hG dL_isSame_53 rfl (by decide) rfl ?_
    obtain ⟨n222, h⟩ := h
    have lp54 : ∀ (m54 : Nat) (x2_54 : Int) (x3_54 : Int) (i_54 : MI) (r_54 : MI) (k_54 : Nat), sR x2_54 → sR x3_54 → okI i_54 → Wf r_54 → LoopP (b54_L_isSame x1j51 Q) m54 (x2_54, x3_54, i_54, r_54, k_54) → V Γ Δ 504 false i_54 r_54 k_54 (6 * k_54) Q0 54 [(0, .ref (sA Δ 0)), (1, .int (sJ x1j51)), (2, .int (sJ x2_54)), (3, .int (sJ x3_54))] [] := by
      intro m54
      induction m54 with
      | zero => intro x2_54 x3_54 i_54 r_54 k_54 hx2_54 hx3_54 hi_54 hw_54 h; exact h.elim
      | succ m54 ih54 =>
        intro x2_54 x3_54 i_54 r_54 k_54 hx2_54 hx3_54 hi_54 hw_54 h
        have h := LoopP_succ h
        have jn87 : ∀ (x3j87 : Int) (k0j87 : Int) (ij87 : MI) (rj87 : MI) (kj87 : Nat), sR x3j87 → sR k0j87 → okI ij87 → Wf rj87 → s87_L_isSame x1j51 x3j87 k0j87 ij87 rj87 kj87 Q (LoopP (b54_L_isSame x1j51 Q) m54) → V Γ Δ 504 false ij87 rj87 kj87 (6 * kj87) Q0 87 [(0, .ref (sA Δ 0)), (1, .int (sJ x1j51)), (3, .int (sJ x3j87))] [.int (sJ k0j87)] := by
          intro x3j87 k0j87 ij87 rj87 kj87 hx3j87 hk0j87 hij87 hwj87 h
          refine V.istore_n (pc := 87) (lv' := [(2, .int (sJ k0j87)), (0, .ref (sA Δ 0)), (1, .int (sJ x1j51)), (3, .int (sJ x3j87))]) hG dL_isSame_87 rfl (by decide) rfl ?_
          refine V.iinc (pc := 88) (lv' := [(3, .int (sJ (wr (x3j87 + 1)))), (2, .int (sJ k0j87)), (0, .ref (sA Δ 0)), (1, .int (sJ x1j51))]) hG dL_isSame_88 3 rfl (by decide) rfl ?_
          refine V.goto (pc := 91) (tgt := 54) hG dL_isSame_91 (by decide) ?_
          refine V.pick [2, 3, 1, 0] rfl ?_
          exact ih54 k0j87 (wr (x3j87 + 1)) ij87 rj87 kj87 hk0j87 ((sR_wr _)) hij87 hwj87 h
        refine V.iload_n (pc := 54) hG dL_isSame_54 rfl 3 rfl ?_
        refine V.iload_n (pc := 55) hG dL_isSame_55 rfl 1 rfl ?_
        obtain ⟨t224, f225⟩ := h
        refine V.icmp_ge (pc := 56) (tgt := 94) hG hx3_54 hx1j51 dL_isSame_56 (by decide) (fun c223 => ?_) (fun c223 => ?_)
        · have h := t224 c223
          clear t224 f225
          refine V.pick [0, 2] rfl ?_
          exact jn94 x2_54 i_54 r_54 k_54 hx2_54 hi_54 hw_54 h
        · have h := f225 c223
          clear t224 f225
          refine V.iload_n (pc := 59) hG dL_isSame_59 rfl 2 rfl ?_
          obtain ⟨t227, f228⟩ := h
          refine V.if_eq (pc := 60) (tgt := 94) hG hx2_54 dL_isSame_60 (by decide) (fun c226 => ?_) (fun c226 => ?_)
          · have h := t227 c226
            clear t227 f228
            refine V.pick [0, 2] rfl ?_
            exact jn94 x2_54 i_54 r_54 k_54 hx2_54 hi_54 hw_54 h
          · have h := f228 c226
            clear t227 f228
            refine V.aload_n (pc := 63) hG dL_isSame_63 rfl 0 rfl ?_
            refine V.bipush (pc := 64) hG dL_isSame_64 (by decide) ?_
            refine V.iload_n (pc := 66) hG dL_isSame_66 rfl 3 rfl ?_
            refine V.iconst (pc := 67) hG dL_isSame_67 ?_
            obtain ⟨hk236, h⟩ := h
            refine V.mcallSi (pc := 68) (As := [.ref (sA Δ 0), .int (sJ 20), .int (sJ x3_54), .int (sJ 0)]) (stk := []) hG (sm_L_ask l Δ ((sR_l rfl)) hx3_54 ((sR_l rfl)) hst hi_54 hw_54 h) mY_L_ask kw_917 kw_918 ⟨Nat.le_of_ble_eq_true rfl, Nat.le_of_ble_eq_true rfl, by show _ ≤ 1500; omega, by show _ ≤ 9000; omega⟩ rfl (Nat.le_of_ble_eq_true rfl) dL_isSame_68 rfl (fun v229 i230 r231 hv232 hi233 hw234 hq235 => ?_)
            have h := hq235
            refine V.ks (kc2 := (k_54 + 3)) (sl2 := 6 * (k_54 + 3)) (by omega) (by omega) ?_
            refine V.aload_n (pc := 71) hG dL_isSame_71 rfl 0 rfl ?_
            refine V.bipush (pc := 72) hG dL_isSame_72 (by decide) ?_
            refine V.iload_n (pc := 74) hG dL_isSame_74 rfl 3 rfl ?_
            refine V.iconst (pc := 75) hG dL_isSame_75 ?_
            obtain ⟨hk246, h⟩ := h
            refine V.mcallSi (pc := 76) (As := [.ref (sA Δ 0), .int (sJ 30), .int (sJ x3_54), .int (sJ 0)]) (stk := [.int (sJ v229)]) hG (sm_L_ask l Δ ((sR_l rfl)) hx3_54 ((sR_l rfl)) hst hi233 hw234 h) mY_L_ask kw_917 kw_918 ⟨Nat.le_of_ble_eq_true rfl, Nat.le_of_ble_eq_true rfl, by show _ ≤ 1500; omega, by show _ ≤ 9000; omega⟩ rfl (Nat.le_of_ble_eq_true rfl) dL_isSame_76 rfl (fun v239 i240 r241 hv242 hi243 hw244 hq245 => ?_)
            have h := hq245
            refine V.ks (kc2 := ((k_54 + 3) + 3)) (sl2 := 6 * ((k_54 + 3) + 3)) (by omega) (by omega) ?_
            obtain ⟨f251, t250⟩ := h
            refine V.icmp_ne (pc := 79) (tgt := 86) hG hv232 hv242 dL_isSame_79 (by decide) (fun c249 => ?_) (fun c249 => ?_)
            · have h := t250 c249
              clear t250 f251
              refine V.iconst (pc := 86) hG dL_isSame_86 ?_
              refine V.pick [0, 1, 3] rfl ?_
              exact jn87 x3_54 0 i240 r241 ((k_54 + 3) + 3) hx3_54 ((sR_l rfl)) hi243 hw244 h
            · have h := f251 c249
              clear t250 f251
              refine V.iconst (pc := 82) hG dL_isSame_82 ?_
              refine V.goto (pc := 83) (tgt := 87) hG dL_isSame_83 (by decide) ?_
              refine V.pick [0, 1, 3] rfl ?_
              exact jn87 x3_54 1 i240 r241 ((k_54 + 3) + 3) hx3_54 ((sR_l rfl)) hi243 hw244 h
    refine V.pick [2, 3, 1, 0] rfl ?_
    exact lp54 n222 k0j51 0 ij51 rj51 kj51 hk0j51 ((sR_l rfl)) hij51 hwj51 h
  have jn50 : ∀ (x1j50 : Int) (ij50 : MI) (rj50 : MI) (kj50 : Nat), sR x1j50 → okI ij50 → Wf rj50 → s50_L_isSame x1j50 ij50 rj50 kj50 Q → V Γ Δ 504 false ij50 rj50 kj50 (6 * kj50) Q0 50 [(0, .ref (sA Δ 0)), (1, .int (sJ x1j50))] [] := by
    intro x1j50 ij50 rj50 kj50 hx1j50 hij50 hwj50 h
    refine V.iconst (pc := 50) hG dL_isSame_50 ?_
    exact jn51 x1j50 0 ij50 rj50 kj50 hx1j50 ((sR_l rfl)) hij50 hwj50 h
  refine V.aload_n (pc := 0) hG dL_isSame_0 rfl 0 rfl ?_
  obtain ⟨hk313, h⟩ := h
  refine V.callVi (pc := 1) (As := []) (stk := []) hG (sm_X11_outputs l Δ  hi hw h) mY_X11_outputs kw_1723 kw_1724 kw_1725 a_0 (by decide) (q := (RX11, TX11, 11)) rfl rfl ⟨Nat.le_of_ble_eq_true rfl, Nat.le_of_ble_eq_true rfl, hk313, Nat.mul_le_mul_left 6 hk313⟩ rfl (Nat.le_of_ble_eq_true rfl) dL_isSame_1 rfl (fun v252 i253 r254 hv255 hi256 hw257 hq258 => ?_)
  obtain ⟨e312, h⟩ := hq258
  subst e312
  refine V.istore_n (pc := 4) (lv' := [(1, .int (sJ v252)), (0, .ref (sA Δ 0))]) hG dL_isSame_4 rfl (by decide) rfl ?_
  refine V.aload_n (pc := 5) hG dL_isSame_5 rfl 1 rfl ?_
  obtain ⟨hk310, h⟩ := h
  refine V.callVi (pc := 6) (As := []) (stk := []) hG (sm_X11_isSame l Δ  hi256 hw h) mY_X11_isSame kw_1727 kw_1728 kw_1729 a_0 (by decide) (q := (RX11, TX11, 11)) rfl rfl ⟨Nat.le_of_ble_eq_true rfl, Nat.le_of_ble_eq_true rfl, hk310, Nat.mul_le_mul_left 6 hk310⟩ rfl (Nat.le_of_ble_eq_true rfl) dL_isSame_6 rfl (fun v259 i260 r261 hv262 hi263 hw264 hq265 => ?_)
  have h := hq265
  obtain ⟨t267, f268⟩ := h
  refine V.if_eq (pc := 9) (tgt := 50) hG hv262 dL_isSame_9 (by decide) (fun c266 => ?_) (fun c266 => ?_)
  · have h := t267 c266
    clear t267 f268
    refine V.pick [1, 0] rfl ?_
    exact jn50 v252 i260 r261 0 hv255 hi263 hw264 h
  · have h := f268 c266
    clear t267 f268
    refine V.aload_n (pc := 12) hG dL_isSame_12 rfl 1 rfl ?_
    obtain ⟨hk307, h⟩ := h
    refine V.callVi (pc := 13) (As := []) (stk := []) hG (sm_X11_circuitOutputs l Δ  hi263 hw264 h) mY_X11_circuitOutputs kw_1731 kw_1732 kw_1733 a_0 (by decide) (q := (RX11, TX11, 11)) rfl rfl ⟨Nat.le_of_ble_eq_true rfl, Nat.le_of_ble_eq_true rfl, hk307, Nat.mul_le_mul_left 6 hk307⟩ rfl (Nat.le_of_ble_eq_true rfl) dL_isSame_13 rfl (fun v269 i270 r271 hv272 hi273 hw274 hq275 => ?_)
    have h := hq275
    refine V.iload_n (pc := 16) hG dL_isSame_16 rfl 0 rfl ?_
    obtain ⟨f278, t277⟩ := h
    refine V.icmp_ne (pc := 17) (tgt := 50) hG hv272 hv255 dL_isSame_17 (by decide) (fun c276 => ?_) (fun c276 => ?_)
    · have h := t277 c276
      clear t277 f278
      refine V.pick [1, 0] rfl ?_
      exact jn50 v252 i270 r271 0 hv255 hi273 hw274 h
    · have h := f278 c276
      clear t277 f278
      refine V.aload_n (pc := 20) hG dL_isSame_20 rfl 1 rfl ?_
      refine V.bipush (pc := 21) hG dL_isSame_21 (by decide) ?_
      refine V.iload_n (pc := 23) hG dL_isSame_23 rfl 0 rfl ?_
      refine V.iconst (pc := 24) hG dL_isSame_24 ?_
      obtain ⟨hk286, h⟩ := h
      refine V.mcallSi (pc := 25) (As := [.ref (sA Δ 0), .int (sJ 20), .int (sJ v252), .int (sJ 0)]) (stk := []) hG (sm_L_ask l Δ ((sR_l rfl)) hv255 ((sR_l rfl)) hst hi273 hw274 h) mY_L_ask kw_917 kw_918 ⟨Nat.le_of_ble_eq_true rfl, Nat.le_of_ble_eq_true rfl, by show _ ≤ 1500; omega, by show _ ≤ 9000; omega⟩ rfl (Nat.le_of_ble_eq_true rfl) dL_isSame_25 rfl (fun v279 i280 r281 hv282 hi283 hw284 hq285 => ?_)
      have h := hq285
      refine V.ks (kc2 := (0 + 3)) (sl2 := 6 * (0 + 3)) (by omega) (by omega) ?_
      refine V.ldc (pc := 28) (x := (-200001)) hG kw_1430 dL_isSame_28 ?_
      obtain ⟨f291, t290⟩ := h
      refine V.icmp_ne (pc := 30) (tgt := 50) hG hv282 ((sR_l rfl)) dL_isSame_30 (by decide) (fun c289 => ?_) (fun c289 => ?_)
      · have h := t290 c289
        clear t290 f291
        refine V.pick [1, 0] rfl ?_
        exact jn50 v252 i280 r281 (0 + 3) hv255 hi283 hw284 h
      · have h := f291 c289
        clear t290 f291
        refine V.aload_n (pc := 33) hG dL_isSame_33 rfl 1 rfl ?_
        refine V.bipush (pc := 34) hG dL_isSame_34 (by decide) ?_
        refine V.iload_n (pc := 36) hG dL_isSame_36 rfl 0 rfl ?_
        refine V.iconst (pc := 37) hG dL_isSame_37 ?_
        obtain ⟨hk299, h⟩ := h
        refine V.mcallSi (pc := 38) (As := [.ref (sA Δ 0), .int (sJ 30), .int (sJ v252), .int (sJ 0)]) (stk := []) hG (sm_L_ask l Δ ((sR_l rfl)) hv255 ((sR_l rfl)) hst hi283 hw284 h) mY_L_ask kw_917 kw_918 ⟨Nat.le_of_ble_eq_true rfl, Nat.le_of_ble_eq_true rfl, by show _ ≤ 1500; omega, by show _ ≤ 9000; omega⟩ rfl (Nat.le_of_ble_eq_true rfl) dL_isSame_38 rfl (fun v292 i293 r294 hv295 hi296 hw297 hq298 => ?_)
        have h := hq298
        refine V.ks (kc2 := ((0 + 3) + 3)) (sl2 := 6 * ((0 + 3) + 3)) (by omega) (by omega) ?_
        refine V.ldc (pc := 41) (x := (-200001)) hG kw_1430 dL_isSame_41 ?_
        obtain ⟨f304, t303⟩ := h
        refine V.icmp_ne (pc := 43) (tgt := 50) hG hv295 ((sR_l rfl)) dL_isSame_43 (by decide) (fun c302 => ?_) (fun c302 => ?_)
        · have h := t303 c302
          clear t303 f304
          refine V.pick [1, 0] rfl ?_
          exact jn50 v252 i293 r294 ((0 + 3) + 3) hv255 hi296 hw297 h
        · have h := f304 c302
          clear t303 f304
          refine V.iconst (pc := 46) hG dL_isSame_46 ?_
          refine V.goto (pc := 47) (tgt := 51) hG dL_isSame_47 (by decide) ?_
          refine V.pick [1, 0] rfl ?_
          exact jn51 v252 1 i293 r294 ((0 + 3) + 3) hv255 ((sR_l rfl)) hi296 hw297 h
set_option maxRecDepth 100000 in
set_option maxHeartbeats 4000000 in
theorem sm_L_units (l : Launch) (Δ : Wd) {i r : MI} {p1 : Int} (hp1 : sR p1) {Q : Int → MI → MI → Prop} (hst : l.stackTraces = false) (hi : okI i) (hw : Wf r) (h : wp_L_units p1 i r Q) : Met l yL_units (Cond.code yL_units cL_units 3 (some .int) :: gW) (sRx 11 251 6 36) (sPc Δ [.ref (sA Δ 0), .int (sJ p1)] i r) (sQi Δ (Q)) 6 36 (sFr Δ) := by
  refine Cm.i (ty := .int) (by decide) rfl (Nat.le_of_ble_eq_true rfl) (fun Γ Q0 hG fin => ?_)
  have hG : okG Γ Δ l (sRx 11 251 6 36) cL_units "SchedularyLaw" 3 := hG
  show V Γ Δ 504 false i r 0 (6 * 0) Q0 0 [(0, .ref (sA Δ 0)), (1, .int (sJ p1))] []
  refine V.aload_n (pc := 0) hG dL_units_0 rfl 0 rfl ?_
  refine V.bipush (pc := 1) hG dL_units_1 (by decide) ?_
  refine V.iload_n (pc := 3) hG dL_units_3 rfl 1 rfl ?_
  refine V.iconst (pc := 4) hG dL_units_4 ?_
  obtain ⟨hk8, h⟩ := h
  refine V.mcallSi (pc := 5) (As := [.ref (sA Δ 0), .int (sJ 8), .int (sJ p1), .int (sJ 1)]) (stk := []) hG (sm_L_ask l Δ ((sR_l rfl)) hp1 ((sR_l rfl)) hst hi hw h) mY_L_ask kw_917 kw_918 ⟨Nat.le_of_ble_eq_true rfl, Nat.le_of_ble_eq_true rfl, by show _ ≤ 6; omega, by show _ ≤ 36; omega⟩ rfl (Nat.le_of_ble_eq_true rfl) dL_units_5 rfl (fun v1 i2 r3 hv4 hi5 hw6 hq7 => ?_)
  have h := hq7
  refine V.ks (kc2 := (0 + 3)) (sl2 := 6 * (0 + 3)) (by omega) (by omega) ?_
  refine V.istore_n (pc := 8) (lv' := [(2, .int (sJ v1)), (0, .ref (sA Δ 0)), (1, .int (sJ p1))]) hG dL_units_8 rfl (by decide) rfl ?_
  refine V.aload_n (pc := 9) hG dL_units_9 rfl 1 rfl ?_
  refine V.bipush (pc := 10) hG dL_units_10 (by decide) ?_
  refine V.iload_n (pc := 12) hG dL_units_12 rfl 2 rfl ?_
  refine V.iload_n (pc := 13) hG dL_units_13 rfl 0 rfl ?_
  obtain ⟨hk18, h⟩ := h
  refine V.mcallSi (pc := 14) (As := [.ref (sA Δ 0), .int (sJ 8), .int (sJ p1), .int (sJ v1)]) (stk := []) hG (sm_L_ask l Δ ((sR_l rfl)) hp1 hv4 hst hi5 hw6 h) mY_L_ask kw_917 kw_918 ⟨Nat.le_of_ble_eq_true rfl, Nat.le_of_ble_eq_true rfl, by show _ ≤ 6; omega, by show _ ≤ 36; omega⟩ rfl (Nat.le_of_ble_eq_true rfl) dL_units_14 rfl (fun v11 i12 r13 hv14 hi15 hw16 hq17 => ?_)
  have h := hq17
  refine V.ks (kc2 := ((0 + 3) + 3)) (sl2 := 6 * ((0 + 3) + 3)) (by omega) (by omega) ?_
  refine V.pop (pc := 17) hG dL_units_17 rfl ?_
  refine V.iload_n (pc := 18) hG dL_units_18 rfl 0 rfl ?_
  obtain ⟨hk21, h⟩ := h
  exact fin dL_units_19 hv4 rfl hk21 (Nat.mul_le_mul_left 6 hk21) hi15 hw16 h
set_option maxRecDepth 100000 in
set_option maxHeartbeats 4000000 in
theorem sm_L_depths (l : Launch) (Δ : Wd) {i r : MI} {p1 : Int} (hp1 : sR p1) {Q : Int → MI → MI → Prop} (hst : l.stackTraces = false) (hi : okI i) (hw : Wf r) (h : wp_L_depths p1 i r Q) : Met l yL_depths (Cond.code yL_depths cL_depths 4 (some .boolean) :: gW) (sRx 11 251 12 72) (sPc Δ [.ref (sA Δ 0), .int (sJ p1)] i r) (sQi Δ (Q)) 12 72 (sFr Δ) := by
  refine Cm.i (ty := .boolean) (by decide) rfl (Nat.le_of_ble_eq_true rfl) (fun Γ Q0 hG fin => ?_)
  have hG : okG Γ Δ l (sRx 11 251 12 72) cL_depths "SchedularyLaw" 4 := hG
  show V Γ Δ 504 false i r 0 (6 * 0) Q0 0 [(0, .ref (sA Δ 0)), (1, .int (sJ p1))] []
  refine V.iconst (pc := 0) hG dL_depths_0 ?_
  refine V.istore_n (pc := 1) (lv' := [(2, .int (sJ 1)), (0, .ref (sA Δ 0)), (1, .int (sJ p1))]) hG dL_depths_1 rfl (by decide) rfl ?_
  refine V.iconst (pc := 2) hG dL_depths_2 ?_
  refine V.istore_n (pc := 3) (lv' := [(3, .int (sJ 0)), (2, .int (sJ 1)), (0, .ref (sA Δ 0)), (1, .int (sJ p1))]) hG dL_depths_3 rfl (by decide) rfl ?_
  obtain ⟨n22, h⟩ := h
  have lp4 : ∀ (m4 : Nat) (x2_4 : Int) (x3_4 : Int) (i_4 : MI) (r_4 : MI) (k_4 : Nat), sR x2_4 → sR x3_4 → okI i_4 → Wf r_4 → LoopP (b4_L_depths p1 Q) m4 (x2_4, x3_4, i_4, r_4, k_4) → V Γ Δ 504 false i_4 r_4 k_4 (6 * k_4) Q0 4 [(0, .ref (sA Δ 0)), (1, .int (sJ p1)), (2, .int (sJ x2_4)), (3, .int (sJ x3_4))] [] := by
    intro m4
    induction m4 with
    | zero => intro x2_4 x3_4 i_4 r_4 k_4 hx2_4 hx3_4 hi_4 hw_4 h; exact h.elim
    | succ m4 ih4 =>
      intro x2_4 x3_4 i_4 r_4 k_4 hx2_4 hx3_4 hi_4 hw_4 h
      have h := LoopP_succ h
      have jn29 : ∀ (x3j29 : Int) (k0j29 : Int) (ij29 : MI) (rj29 : MI) (kj29 : Nat), sR x3j29 → sR k0j29 → okI ij29 → Wf rj29 → s29_L_depths p1 x3j29 k0j29 ij29 rj29 kj29 Q (LoopP (b4_L_depths p1 Q) m4) → V Γ Δ 504 false ij29 rj29 kj29 (6 * kj29) Q0 29 [(0, .ref (sA Δ 0)), (1, .int (sJ p1)), (3, .int (sJ x3j29))] [.int (sJ k0j29)] := by
        intro x3j29 k0j29 ij29 rj29 kj29 hx3j29 hk0j29 hij29 hwj29 h
        refine V.istore_n (pc := 29) (lv' := [(2, .int (sJ k0j29)), (0, .ref (sA Δ 0)), (1, .int (sJ p1)), (3, .int (sJ x3j29))]) hG dL_depths_29 rfl (by decide) rfl ?_
        refine V.iinc (pc := 30) (lv' := [(3, .int (sJ (wr (x3j29 + 1)))), (2, .int (sJ k0j29)), (0, .ref (sA Δ 0)), (1, .int (sJ p1))]) hG dL_depths_30 3 rfl (by decide) rfl ?_
        refine V.goto (pc := 33) (tgt := 4) hG dL_depths_33 (by decide) ?_
        refine V.pick [2, 3, 1, 0] rfl ?_
        exact ih4 k0j29 (wr (x3j29 + 1)) ij29 rj29 kj29 hk0j29 ((sR_wr _)) hij29 hwj29 h
      have jn28 : ∀ (x3j28 : Int) (ij28 : MI) (rj28 : MI) (kj28 : Nat), sR x3j28 → okI ij28 → Wf rj28 → s28_L_depths p1 x3j28 ij28 rj28 kj28 Q (LoopP (b4_L_depths p1 Q) m4) → V Γ Δ 504 false ij28 rj28 kj28 (6 * kj28) Q0 28 [(0, .ref (sA Δ 0)), (1, .int (sJ p1)), (3, .int (sJ x3j28))] [] := by
        intro x3j28 ij28 rj28 kj28 hx3j28 hij28 hwj28 h
        refine V.iconst (pc := 28) hG dL_depths_28 ?_
        exact jn29 x3j28 0 ij28 rj28 kj28 hx3j28 ((sR_l rfl)) hij28 hwj28 h
      refine V.iload_n (pc := 4) hG dL_depths_4 rfl 3 rfl ?_
      refine V.iconst (pc := 5) hG dL_depths_5 ?_
      obtain ⟨t24, f25⟩ := h
      refine V.icmp_ge (pc := 6) (tgt := 36) hG hx3_4 ((sR_l rfl)) dL_depths_6 (by decide) (fun c23 => ?_) (fun c23 => ?_)
      · have h := t24 c23
        clear t24 f25
        refine V.iload_n (pc := 36) hG dL_depths_36 rfl 2 rfl ?_
        obtain ⟨hk27, h⟩ := h
        obtain ⟨g26, h⟩ := h
        exact fin dL_depths_37 hx2_4 (nar_z g26) hk27 (Nat.mul_le_mul_left 6 hk27) hi_4 hw_4 h
      · have h := f25 c23
        clear t24 f25
        refine V.iload_n (pc := 9) hG dL_depths_9 rfl 2 rfl ?_
        obtain ⟨t29, f30⟩ := h
        refine V.if_eq (pc := 10) (tgt := 28) hG hx2_4 dL_depths_10 (by decide) (fun c28 => ?_) (fun c28 => ?_)
        · have h := t29 c28
          clear t29 f30
          refine V.pick [0, 1, 3] rfl ?_
          exact jn28 x3_4 i_4 r_4 k_4 hx3_4 hi_4 hw_4 h
        · have h := f30 c28
          clear t29 f30
          refine V.aload_n (pc := 13) hG dL_depths_13 rfl 0 rfl ?_
          refine V.bipush (pc := 14) hG dL_depths_14 (by decide) ?_
          refine V.iload_n (pc := 16) hG dL_depths_16 rfl 3 rfl ?_
          refine V.iload_n (pc := 17) hG dL_depths_17 rfl 1 rfl ?_
          obtain ⟨hk38, h⟩ := h
          refine V.mcallSi (pc := 18) (As := [.ref (sA Δ 0), .int (sJ 11), .int (sJ x3_4), .int (sJ p1)]) (stk := []) hG (sm_L_ask l Δ ((sR_l rfl)) hx3_4 hp1 hst hi_4 hw_4 h) mY_L_ask kw_917 kw_918 ⟨Nat.le_of_ble_eq_true rfl, Nat.le_of_ble_eq_true rfl, by show _ ≤ 12; omega, by show _ ≤ 72; omega⟩ rfl (Nat.le_of_ble_eq_true rfl) dL_depths_18 rfl (fun v31 i32 r33 hv34 hi35 hw36 hq37 => ?_)
          have h := hq37
          refine V.ks (kc2 := (k_4 + 3)) (sl2 := 6 * (k_4 + 3)) (by omega) (by omega) ?_
          obtain ⟨t42, f43⟩ := h
          refine V.if_le (pc := 21) (tgt := 28) hG hv34 dL_depths_21 (by decide) (fun c41 => ?_) (fun c41 => ?_)
          · have h := t42 c41
            clear t42 f43
            refine V.pick [0, 1, 3] rfl ?_
            exact jn28 x3_4 i32 r33 (k_4 + 3) hx3_4 hi35 hw36 h
          · have h := f43 c41
            clear t42 f43
            refine V.iconst (pc := 24) hG dL_depths_24 ?_
            refine V.goto (pc := 25) (tgt := 29) hG dL_depths_25 (by decide) ?_
            refine V.pick [0, 1, 3] rfl ?_
            exact jn29 x3_4 1 i32 r33 (k_4 + 3) hx3_4 ((sR_l rfl)) hi35 hw36 h
  refine V.pick [2, 3, 1, 0] rfl ?_
  exact lp4 n22 1 0 i r 0 ((sR_l rfl)) ((sR_l rfl)) hi hw h
set_option maxRecDepth 100000 in
set_option maxHeartbeats 4000000 in
theorem sm_L_areUnits (l : Launch) (Δ : Wd) {i r : MI} {b1 L1 : Nat} {xs1 : Int → Int} {b2 L2 : Nat} {xs2 : Int → Int} {p3 : Int} (hE1 : EA Δ b1 L1 xs1) (hE2 : EA Δ b2 L2 xs2) (hp3 : sR p3) {Q : Int → MI → MI → Prop} (hst : l.stackTraces = false) (hi : okI i) (hw : Wf r) (h : wp_L_areUnits p3 i r L1 xs1 L2 xs2 Q) : Met l yL_areUnits (Cond.code yL_areUnits cL_areUnits 14 (some .boolean) :: gW) (sRx 12 273 160000 960000) (sPc Δ [.ref (sA Δ 0), .ref b1, .ref b2, .int (sJ p3)] i r) (sQi Δ (Q)) 160000 960000 (sFr Δ) := by
  refine Cm.i (ty := .boolean) (by decide) rfl (Nat.le_of_ble_eq_true rfl) (fun Γ Q0 hG fin => ?_)
  have hG : okG Γ Δ l (sRx 12 273 160000 960000) cL_areUnits "SchedularyLaw" 14 := hG
  show V Γ Δ 504 false i r 0 (6 * 0) Q0 0 [(0, .ref (sA Δ 0)), (1, .ref b1), (2, .ref b2), (3, .int (sJ p3))] []
  refine V.iconst (pc := 0) hG dL_areUnits_0 ?_
  refine V.istore (pc := 1) (lv' := [(4, .int (sJ 1)), (0, .ref (sA Δ 0)), (1, .ref b1), (2, .ref b2), (3, .int (sJ p3))]) hG dL_areUnits_1 (by decide) rfl ?_
  refine V.iconst (pc := 3) hG dL_areUnits_3 ?_
  refine V.istore (pc := 4) (lv' := [(5, .int (sJ 0)), (4, .int (sJ 1)), (0, .ref (sA Δ 0)), (1, .ref b1), (2, .ref b2), (3, .int (sJ p3))]) hG dL_areUnits_4 (by decide) rfl ?_
  obtain ⟨n522, h⟩ := h
  have lp6 : ∀ (m6 : Nat) (x4_6 : Int) (x5_6 : Int) (i_6 : MI) (r_6 : MI) (k_6 : Nat), sR x4_6 → sR x5_6 → okI i_6 → Wf r_6 → LoopP (b6_L_areUnits p3 L1 xs1 L2 xs2 Q) m6 (x4_6, x5_6, i_6, r_6, k_6) → V Γ Δ 504 false i_6 r_6 k_6 (6 * k_6) Q0 6 [(0, .ref (sA Δ 0)), (1, .ref b1), (2, .ref b2), (3, .int (sJ p3)), (4, .int (sJ x4_6)), (5, .int (sJ x5_6))] [] := by
    intro m6
    induction m6 with
    | zero => intro x4_6 x5_6 i_6 r_6 k_6 hx4_6 hx5_6 hi_6 hw_6 h; exact h.elim
    | succ m6 ih6 =>
      intro x4_6 x5_6 i_6 r_6 k_6 hx4_6 hx5_6 hi_6 hw_6 h
      have h := LoopP_succ h
      have jn267 : ∀ (x5j267 : Int) (k0j267 : Int) (ij267 : MI) (rj267 : MI) (kj267 : Nat), sR x5j267 → sR k0j267 → okI ij267 → Wf rj267 → s267_L_areUnits p3 x5j267 k0j267 ij267 rj267 kj267 L1 xs1 L2 xs2 Q (LoopP (b6_L_areUnits p3 L1 xs1 L2 xs2 Q) m6) → V Γ Δ 504 false ij267 rj267 kj267 (6 * kj267) Q0 267 [(0, .ref (sA Δ 0)), (1, .ref b1), (2, .ref b2), (3, .int (sJ p3)), (5, .int (sJ x5j267))] [.int (sJ k0j267)] := by
        intro x5j267 k0j267 ij267 rj267 kj267 hx5j267 hk0j267 hij267 hwj267 h
        refine V.istore (pc := 267) (lv' := [(4, .int (sJ k0j267)), (0, .ref (sA Δ 0)), (1, .ref b1), (2, .ref b2), (3, .int (sJ p3)), (5, .int (sJ x5j267))]) hG dL_areUnits_267 (by decide) rfl ?_
        refine V.iinc (pc := 269) (lv' := [(5, .int (sJ (wr (x5j267 + 1)))), (4, .int (sJ k0j267)), (0, .ref (sA Δ 0)), (1, .ref b1), (2, .ref b2), (3, .int (sJ p3))]) hG dL_areUnits_269 5 rfl (by decide) rfl ?_
        refine V.goto (pc := 272) (tgt := 6) hG dL_areUnits_272 (by decide) ?_
        refine V.pick [2, 3, 4, 5, 1, 0] rfl ?_
        exact ih6 k0j267 (wr (x5j267 + 1)) ij267 rj267 kj267 hk0j267 ((sR_wr _)) hij267 hwj267 h
      have jn266 : ∀ (x5j266 : Int) (ij266 : MI) (rj266 : MI) (kj266 : Nat), sR x5j266 → okI ij266 → Wf rj266 → s266_L_areUnits p3 x5j266 ij266 rj266 kj266 L1 xs1 L2 xs2 Q (LoopP (b6_L_areUnits p3 L1 xs1 L2 xs2 Q) m6) → V Γ Δ 504 false ij266 rj266 kj266 (6 * kj266) Q0 266 [(0, .ref (sA Δ 0)), (1, .ref b1), (2, .ref b2), (3, .int (sJ p3)), (5, .int (sJ x5j266))] [] := by
        intro x5j266 ij266 rj266 kj266 hx5j266 hij266 hwj266 h
        refine V.iconst (pc := 266) hG dL_areUnits_266 ?_
        exact jn267 x5j266 0 ij266 rj266 kj266 hx5j266 ((sR_l rfl)) hij266 hwj266 h
      refine V.iload (pc := 6) hG dL_areUnits_6 5 rfl ?_
      refine V.bipush (pc := 8) hG dL_areUnits_8 (by decide) ?_
      obtain ⟨t524, f525⟩ := h
      refine V.icmp_ge (pc := 10) (tgt := 275) hG hx5_6 ((sR_l rfl)) dL_areUnits_10 (by decide) (fun c523 => ?_) (fun c523 => ?_)
      · have h := t524 c523
        clear t524 f525
        refine V.iload (pc := 275) hG dL_areUnits_275 4 rfl ?_
        obtain ⟨hk527, h⟩ := h
        obtain ⟨g526, h⟩ := h
        exact fin dL_areUnits_277 hx4_6 (nar_z g526) hk527 (Nat.mul_le_mul_left 6 hk527) hi_6 hw_6 h
      · have h := f525 c523
        clear t524 f525
        refine V.ldcS (pc := 13) (k := 3) (tx := "amgMN<>") hG (by decide) dL_areUnits_13 ?_
        refine V.iload (pc := 15) hG dL_areUnits_15 5 rfl ?_
        obtain ⟨hk769, h⟩ := h
        refine V.callVSi (pc := 17) (As := [.int (sJ x5_6)]) (stk := []) hG (sm_J0_charAt_5068e l Δ (by decide) hx5_6 hi_6 hw_6 h) mY_J0_charAt_5068e kw_1691 kw_1349 kw_1350 (by decide) rfl ⟨Nat.le_of_ble_eq_true rfl, Nat.le_of_ble_eq_true rfl, hk769, Nat.mul_le_mul_left 6 hk769⟩ rfl (Nat.le_of_ble_eq_true rfl) dL_areUnits_17 rfl (fun v528 i529 r530 hv531 hi532 hw533 hq534 => ?_)
        obtain ⟨e767, e768, h⟩ := hq534
        subst e767
        subst e768
        refine V.istore (pc := 20) (lv' := [(6, .int (sJ v528)), (0, .ref (sA Δ 0)), (1, .ref b1), (2, .ref b2), (3, .int (sJ p3)), (4, .int (sJ x4_6)), (5, .int (sJ x5_6))]) hG dL_areUnits_20 (by decide) rfl ?_
        refine V.aload_n (pc := 22) hG dL_areUnits_22 rfl 1 rfl ?_
        refine V.iload (pc := 23) hG dL_areUnits_23 0 rfl ?_
        obtain ⟨hk542, h⟩ := h
        refine V.mcallSi (pc := 25) (As := [.ref (sA Δ 0), .int (sJ v528)]) (stk := []) hG (sm_L_units l Δ hv531 hst hi_6 hw_6 h) mY_L_units kw_1752 kw_1753 ⟨Nat.le_of_ble_eq_true rfl, Nat.le_of_ble_eq_true rfl, by show _ ≤ 160000; omega, by show _ ≤ 960000; omega⟩ rfl (Nat.le_of_ble_eq_true rfl) dL_areUnits_25 rfl (fun v535 i536 r537 hv538 hi539 hw540 hq541 => ?_)
        have h := hq541
        refine V.ks (kc2 := (k_6 + 6)) (sl2 := 6 * (k_6 + 6)) (by omega) (by omega) ?_
        refine V.istore (pc := 28) (lv' := [(7, .int (sJ v535)), (6, .int (sJ v528)), (0, .ref (sA Δ 0)), (1, .ref b1), (2, .ref b2), (3, .int (sJ p3)), (4, .int (sJ x4_6)), (5, .int (sJ x5_6))]) hG dL_areUnits_28 (by decide) rfl ?_
        refine V.iconst (pc := 30) hG dL_areUnits_30 ?_
        refine V.istore (pc := 31) (lv' := [(8, .int (sJ 0)), (7, .int (sJ v535)), (6, .int (sJ v528)), (0, .ref (sA Δ 0)), (1, .ref b1), (2, .ref b2), (3, .int (sJ p3)), (4, .int (sJ x4_6)), (5, .int (sJ x5_6))]) hG dL_areUnits_31 (by decide) rfl ?_
        refine V.iconst (pc := 33) hG dL_areUnits_33 ?_
        refine V.istore (pc := 34) (lv' := [(9, .int (sJ 0)), (8, .int (sJ 0)), (7, .int (sJ v535)), (6, .int (sJ v528)), (0, .ref (sA Δ 0)), (1, .ref b1), (2, .ref b2), (3, .int (sJ p3)), (4, .int (sJ x4_6)), (5, .int (sJ x5_6))]) hG dL_areUnits_34 (by decide) rfl ?_
        obtain ⟨n545, h⟩ := h
        have lp36 : ∀ (m36 : Nat) (x4_36 : Int) (x8_36 : Int) (x9_36 : Int) (i_36 : MI) (r_36 : MI) (k_36 : Nat), sR x4_36 → sR x8_36 → sR x9_36 → okI i_36 → Wf r_36 → LoopP (b36_L_areUnits p3 x5_6 v528 v535 L1 xs1 L2 xs2 Q (LoopP (b6_L_areUnits p3 L1 xs1 L2 xs2 Q) m6)) m36 (x4_36, x8_36, x9_36, i_36, r_36, k_36) → V Γ Δ 504 false i_36 r_36 k_36 (6 * k_36) Q0 36 [(0, .ref (sA Δ 0)), (1, .ref b1), (2, .ref b2), (3, .int (sJ p3)), (4, .int (sJ x4_36)), (5, .int (sJ x5_6)), (6, .int (sJ v528)), (7, .int (sJ v535)), (8, .int (sJ x8_36)), (9, .int (sJ x9_36))] [] := by
          intro m36
          induction m36 with
          | zero => intro x4_36 x8_36 x9_36 i_36 r_36 k_36 hx4_36 hx8_36 hx9_36 hi_36 hw_36 h; exact h.elim
          | succ m36 ih36 =>
            intro x4_36 x8_36 x9_36 i_36 r_36 k_36 hx4_36 hx8_36 hx9_36 hi_36 hw_36 h
            have h := LoopP_succ h
            have jn209 : ∀ (x4j209 : Int) (x9j209 : Int) (k0j209 : Int) (k1j209 : Int) (ij209 : MI) (rj209 : MI) (kj209 : Nat), sR x4j209 → sR x9j209 → sR k0j209 → sR k1j209 → okI ij209 → Wf rj209 → s209_L_areUnits p3 x4j209 x5_6 v528 v535 x9j209 k0j209 k1j209 ij209 rj209 kj209 L1 xs1 L2 xs2 Q (LoopP (b6_L_areUnits p3 L1 xs1 L2 xs2 Q) m6) (LoopP (b36_L_areUnits p3 x5_6 v528 v535 L1 xs1 L2 xs2 Q (LoopP (b6_L_areUnits p3 L1 xs1 L2 xs2 Q) m6)) m36) → V Γ Δ 504 false ij209 rj209 kj209 (6 * kj209) Q0 209 [(0, .ref (sA Δ 0)), (1, .ref b1), (2, .ref b2), (3, .int (sJ p3)), (4, .int (sJ x4j209)), (5, .int (sJ x5_6)), (6, .int (sJ v528)), (7, .int (sJ v535)), (9, .int (sJ x9j209))] [.int (sJ k1j209), .int (sJ k0j209)] := by
              intro x4j209 x9j209 k0j209 k1j209 ij209 rj209 kj209 hx4j209 hx9j209 hk0j209 hk1j209 hij209 hwj209 h
              obtain ⟨hk563, h⟩ := h
              refine V.callSi (pc := 209) (As := [.int (sJ k1j209)]) (stk := [.int (sJ k0j209)]) hG (sm_L_told l Δ hk1j209 hij209 hwj209 h) mY_L_told kw_1755 kw_1756 ⟨Nat.le_of_ble_eq_true rfl, Nat.le_of_ble_eq_true rfl, by show _ ≤ 160000; omega, by show _ ≤ 960000; omega⟩ rfl (Nat.le_of_ble_eq_true rfl) dL_areUnits_209 rfl (fun v556 i557 r558 hv559 hi560 hw561 hq562 => ?_)
              obtain ⟨e564, e565, h⟩ := hq562
              subst e564
              subst e565
              refine V.iadd (pc := 212) hG dL_areUnits_212 ?_
              refine V.istore (pc := 213) (lv' := [(8, .int (sJ (wr (k0j209 + v556)))), (0, .ref (sA Δ 0)), (1, .ref b1), (2, .ref b2), (3, .int (sJ p3)), (4, .int (sJ x4j209)), (5, .int (sJ x5_6)), (6, .int (sJ v528)), (7, .int (sJ v535)), (9, .int (sJ x9j209))]) hG dL_areUnits_213 (by decide) rfl ?_
              refine V.iinc (pc := 215) (lv' := [(9, .int (sJ (wr (x9j209 + 1)))), (8, .int (sJ (wr (k0j209 + v556)))), (0, .ref (sA Δ 0)), (1, .ref b1), (2, .ref b2), (3, .int (sJ p3)), (4, .int (sJ x4j209)), (5, .int (sJ x5_6)), (6, .int (sJ v528)), (7, .int (sJ v535))]) hG dL_areUnits_215 9 rfl (by decide) rfl ?_
              refine V.goto (pc := 218) (tgt := 36) hG dL_areUnits_218 (by decide) ?_
              refine V.pick [2, 3, 4, 5, 6, 7, 8, 9, 1, 0] rfl ?_
              exact ih36 x4j209 (wr (k0j209 + v556)) (wr (x9j209 + 1)) ij209 rj209 kj209 hx4j209 ((sR_wr _)) ((sR_wr _)) hij209 hwj209 h
            have jn186 : ∀ (x8j186 : Int) (x9j186 : Int) (k0j186 : Int) (ij186 : MI) (rj186 : MI) (kj186 : Nat), sR x8j186 → sR x9j186 → sR k0j186 → okI ij186 → Wf rj186 → s186_L_areUnits p3 x5_6 v528 v535 x8j186 x9j186 k0j186 ij186 rj186 kj186 L1 xs1 L2 xs2 Q (LoopP (b6_L_areUnits p3 L1 xs1 L2 xs2 Q) m6) (LoopP (b36_L_areUnits p3 x5_6 v528 v535 L1 xs1 L2 xs2 Q (LoopP (b6_L_areUnits p3 L1 xs1 L2 xs2 Q) m6)) m36) → V Γ Δ 504 false ij186 rj186 kj186 (6 * kj186) Q0 186 [(0, .ref (sA Δ 0)), (1, .ref b1), (2, .ref b2), (3, .int (sJ p3)), (5, .int (sJ x5_6)), (6, .int (sJ v528)), (7, .int (sJ v535)), (8, .int (sJ x8j186)), (9, .int (sJ x9j186))] [.int (sJ k0j186)] := by
              intro x8j186 x9j186 k0j186 ij186 rj186 kj186 hx8j186 hx9j186 hk0j186 hij186 hwj186 h
              refine V.istore (pc := 186) (lv' := [(4, .int (sJ k0j186)), (0, .ref (sA Δ 0)), (1, .ref b1), (2, .ref b2), (3, .int (sJ p3)), (5, .int (sJ x5_6)), (6, .int (sJ v528)), (7, .int (sJ v535)), (8, .int (sJ x8j186)), (9, .int (sJ x9j186))]) hG dL_areUnits_186 (by decide) rfl ?_
              refine V.iload (pc := 188) hG dL_areUnits_188 8 rfl ?_
              refine V.aload_n (pc := 190) hG dL_areUnits_190 rfl 1 rfl ?_
              refine V.bipush (pc := 191) hG dL_areUnits_191 (by decide) ?_
              refine V.iload (pc := 193) hG dL_areUnits_193 9 rfl ?_
              refine V.iconst (pc := 195) hG dL_areUnits_195 ?_
              obtain ⟨hk586, h⟩ := h
              refine V.mcallSi (pc := 196) (As := [.ref (sA Δ 0), .int (sJ 23), .int (sJ x9j186), .int (sJ 0)]) (stk := [.int (sJ x8j186)]) hG (sm_L_ask l Δ ((sR_l rfl)) hx9j186 ((sR_l rfl)) hst hij186 hwj186 h) mY_L_ask kw_917 kw_918 ⟨Nat.le_of_ble_eq_true rfl, Nat.le_of_ble_eq_true rfl, by show _ ≤ 160000; omega, by show _ ≤ 960000; omega⟩ rfl (Nat.le_of_ble_eq_true rfl) dL_areUnits_196 rfl (fun v579 i580 r581 hv582 hi583 hw584 hq585 => ?_)
              have h := hq585
              refine V.ks (kc2 := (kj186 + 3)) (sl2 := 6 * (kj186 + 3)) (by omega) (by omega) ?_
              refine V.iload (pc := 199) hG dL_areUnits_199 6 rfl ?_
              obtain ⟨f591, t590⟩ := h
              refine V.icmp_ne (pc := 201) (tgt := 208) hG hv582 hv531 dL_areUnits_201 (by decide) (fun c589 => ?_) (fun c589 => ?_)
              · have h := t590 c589
                clear t590 f591
                refine V.iconst (pc := 208) hG dL_areUnits_208 ?_
                refine V.pick [1, 2, 3, 4, 0, 5, 6, 7, 9] rfl ?_
                exact jn209 k0j186 x9j186 x8j186 0 i580 r581 (kj186 + 3) hk0j186 hx9j186 hx8j186 ((sR_l rfl)) hi583 hw584 h
              · have h := f591 c589
                clear t590 f591
                refine V.iconst (pc := 204) hG dL_areUnits_204 ?_
                refine V.goto (pc := 205) (tgt := 209) hG dL_areUnits_205 (by decide) ?_
                refine V.pick [1, 2, 3, 4, 0, 5, 6, 7, 9] rfl ?_
                exact jn209 k0j186 x9j186 x8j186 1 i580 r581 (kj186 + 3) hk0j186 hx9j186 hx8j186 ((sR_l rfl)) hi583 hw584 h
            have jn185 : ∀ (x8j185 : Int) (x9j185 : Int) (ij185 : MI) (rj185 : MI) (kj185 : Nat), sR x8j185 → sR x9j185 → okI ij185 → Wf rj185 → s185_L_areUnits p3 x5_6 v528 v535 x8j185 x9j185 ij185 rj185 kj185 L1 xs1 L2 xs2 Q (LoopP (b6_L_areUnits p3 L1 xs1 L2 xs2 Q) m6) (LoopP (b36_L_areUnits p3 x5_6 v528 v535 L1 xs1 L2 xs2 Q (LoopP (b6_L_areUnits p3 L1 xs1 L2 xs2 Q) m6)) m36) → V Γ Δ 504 false ij185 rj185 kj185 (6 * kj185) Q0 185 [(0, .ref (sA Δ 0)), (1, .ref b1), (2, .ref b2), (3, .int (sJ p3)), (5, .int (sJ x5_6)), (6, .int (sJ v528)), (7, .int (sJ v535)), (8, .int (sJ x8j185)), (9, .int (sJ x9j185))] [] := by
              intro x8j185 x9j185 ij185 rj185 kj185 hx8j185 hx9j185 hij185 hwj185 h
              refine V.iconst (pc := 185) hG dL_areUnits_185 ?_
              exact jn186 x8j185 x9j185 0 ij185 rj185 kj185 hx8j185 hx9j185 ((sR_l rfl)) hij185 hwj185 h
            refine V.iload (pc := 36) hG dL_areUnits_36 9 rfl ?_
            refine V.aload_n (pc := 38) hG dL_areUnits_38 rfl 1 rfl ?_
            refine V.ealen (pc := 39) hG hE1 dL_areUnits_39 ?_
            obtain ⟨t593, f594⟩ := h
            refine V.icmp_ge (pc := 40) (tgt := 221) hG hx9_36 ((sR_nat hE1.2.2)) dL_areUnits_40 (by decide) (fun c592 => ?_) (fun c592 => ?_)
            · have h := t593 c592
              clear t593 f594
              refine V.iload (pc := 221) hG dL_areUnits_221 4 rfl ?_
              obtain ⟨t596, f597⟩ := h
              refine V.if_eq (pc := 223) (tgt := 266) hG hx4_36 dL_areUnits_223 (by decide) (fun c595 => ?_) (fun c595 => ?_)
              · have h := t596 c595
                clear t596 f597
                refine V.pick [0, 1, 2, 3, 5] rfl ?_
                exact jn266 x5_6 i_36 r_36 k_36 hx5_6 hi_36 hw_36 h
              · have h := f597 c595
                clear t596 f597
                refine V.aload_n (pc := 226) hG dL_areUnits_226 rfl 0 rfl ?_
                refine V.iload (pc := 227) hG dL_areUnits_227 6 rfl ?_
                obtain ⟨hk651, h⟩ := h
                refine V.xcallVf (pc := 229) (As := [.int (sJ v528)]) (stk := []) hG (sm_X11_busyShare l Δ hv531 hst hi_36 hw_36 h) mY_X11_busyShare kw_1758 kw_1759 kw_1760 a_0 (by decide) (q := (RX11, TX11, 11)) rfl rfl ⟨Nat.le_of_ble_eq_true rfl, Nat.le_of_ble_eq_true rfl, by show _ ≤ 160000; omega, by show _ ≤ 960000; omega⟩ rfl (Nat.le_of_ble_eq_true rfl) dL_areUnits_229 rfl (fun z641 z642 z643 z644 z645 z646 => ?_) (fun v598 i599 r600 hi602 hw603 hq604 => ?_)
                · have h := z646
                  exact h.elim
                · have h := hq604
                  refine V.ks (kc2 := (k_36 + 1)) (sl2 := 6 * (k_36 + 1)) (by omega) (by omega) ?_
                  refine V.iload (pc := 232) hG dL_areUnits_232 8 rfl ?_
                  refine V.i2f (pc := 234) hG dL_areUnits_234 ?_
                  refine V.iload (pc := 235) hG dL_areUnits_235 7 rfl ?_
                  refine V.iload_n (pc := 237) hG dL_areUnits_237 rfl 3 rfl ?_
                  refine V.imul (pc := 238) hG dL_areUnits_238 ?_
                  refine V.i2f (pc := 239) hG dL_areUnits_239 ?_
                  obtain ⟨g623, h⟩ := h
                  refine V.fdiv (pc := 240) hG (fdiv_ok ((sR_wr _)) g623) dL_areUnits_240 ?_
                  refine V.fcmp (pc := 241) hG dL_areUnits_241 ?_
                  obtain ⟨f626, t625⟩ := h
                  refine V.if_ne (pc := 242) (tgt := 266) hG ((sR_of _)) dL_areUnits_242 (by decide) (fun c624 => ?_) (fun c624 => ?_)
                  · have h := t625 c624
                    clear t625 f626
                    refine V.pick [0, 1, 2, 3, 5] rfl ?_
                    exact jn266 x5_6 i599 r600 (k_36 + 1) hx5_6 hi602 hw603 h
                  · have h := f626 c624
                    clear t625 f626
                    refine V.aload_n (pc := 245) hG dL_areUnits_245 rfl 0 rfl ?_
                    obtain ⟨hk640, h⟩ := h
                    refine V.callVi (pc := 246) (As := []) (stk := []) hG (sm_X11_byUnits l Δ  hi602 hw603 h) mY_X11_byUnits kw_1763 kw_1764 kw_1765 a_0 (by decide) (q := (RX11, TX11, 11)) rfl rfl ⟨Nat.le_of_ble_eq_true rfl, Nat.le_of_ble_eq_true rfl, hk640, Nat.mul_le_mul_left 6 hk640⟩ rfl (Nat.le_of_ble_eq_true rfl) dL_areUnits_246 rfl (fun v627 i628 r629 hv630 hi631 hw632 hq633 => ?_)
                    have h := hq633
                    refine V.iload (pc := 249) hG dL_areUnits_249 8 rfl ?_
                    refine V.iload (pc := 251) hG dL_areUnits_251 7 rfl ?_
                    refine V.iadd (pc := 253) hG dL_areUnits_253 ?_
                    refine V.iconst (pc := 254) hG dL_areUnits_254 ?_
                    refine V.isub (pc := 255) hG dL_areUnits_255 ?_
                    refine V.iload (pc := 256) hG dL_areUnits_256 7 rfl ?_
                    obtain ⟨g634, h⟩ := h
                    refine V.idiv (pc := 258) hG ((sR_wr _)) hv538 g634 dL_areUnits_258 ?_
                    obtain ⟨t636, f637⟩ := h
                    refine V.icmp_lt (pc := 259) (tgt := 266) hG hv630 ((sR_wr _)) dL_areUnits_259 (by decide) (fun c635 => ?_) (fun c635 => ?_)
                    · have h := t636 c635
                      clear t636 f637
                      refine V.pick [0, 1, 2, 3, 5] rfl ?_
                      exact jn266 x5_6 i628 r629 (k_36 + 1) hx5_6 hi631 hw632 h
                    · have h := f637 c635
                      clear t636 f637
                      refine V.iconst (pc := 262) hG dL_areUnits_262 ?_
                      refine V.goto (pc := 263) (tgt := 267) hG dL_areUnits_263 (by decide) ?_
                      refine V.pick [0, 1, 2, 3, 5] rfl ?_
                      exact jn267 x5_6 1 i628 r629 (k_36 + 1) hx5_6 ((sR_l rfl)) hi631 hw632 h
            · have h := f594 c592
              clear t593 f594
              refine V.iconst (pc := 43) hG dL_areUnits_43 ?_
              refine V.istore (pc := 44) (lv' := [(10, .int (sJ 0)), (0, .ref (sA Δ 0)), (1, .ref b1), (2, .ref b2), (3, .int (sJ p3)), (4, .int (sJ x4_36)), (5, .int (sJ x5_6)), (6, .int (sJ v528)), (7, .int (sJ v535)), (8, .int (sJ x8_36)), (9, .int (sJ x9_36))]) hG dL_areUnits_44 (by decide) rfl ?_
              refine V.iconst (pc := 46) hG dL_areUnits_46 ?_
              refine V.istore (pc := 47) (lv' := [(11, .int (sJ 0)), (10, .int (sJ 0)), (0, .ref (sA Δ 0)), (1, .ref b1), (2, .ref b2), (3, .int (sJ p3)), (4, .int (sJ x4_36)), (5, .int (sJ x5_6)), (6, .int (sJ v528)), (7, .int (sJ v535)), (8, .int (sJ x8_36)), (9, .int (sJ x9_36))]) hG dL_areUnits_47 (by decide) rfl ?_
              refine V.iconst (pc := 49) hG dL_areUnits_49 ?_
              refine V.istore (pc := 50) (lv' := [(12, .int (sJ 0)), (11, .int (sJ 0)), (10, .int (sJ 0)), (0, .ref (sA Δ 0)), (1, .ref b1), (2, .ref b2), (3, .int (sJ p3)), (4, .int (sJ x4_36)), (5, .int (sJ x5_6)), (6, .int (sJ v528)), (7, .int (sJ v535)), (8, .int (sJ x8_36)), (9, .int (sJ x9_36))]) hG dL_areUnits_50 (by decide) rfl ?_
              obtain ⟨n652, h⟩ := h
              have lp52 : ∀ (m52 : Nat) (x10_52 : Int) (x11_52 : Int) (x12_52 : Int) (i_52 : MI) (r_52 : MI) (k_52 : Nat), sR x10_52 → sR x11_52 → sR x12_52 → okI i_52 → Wf r_52 → LoopP (b52_L_areUnits p3 x4_36 x5_6 v528 v535 x8_36 x9_36 L1 xs1 L2 xs2 Q (LoopP (b6_L_areUnits p3 L1 xs1 L2 xs2 Q) m6) (LoopP (b36_L_areUnits p3 x5_6 v528 v535 L1 xs1 L2 xs2 Q (LoopP (b6_L_areUnits p3 L1 xs1 L2 xs2 Q) m6)) m36)) m52 (x10_52, x11_52, x12_52, i_52, r_52, k_52) → V Γ Δ 504 false i_52 r_52 k_52 (6 * k_52) Q0 52 [(0, .ref (sA Δ 0)), (1, .ref b1), (2, .ref b2), (3, .int (sJ p3)), (4, .int (sJ x4_36)), (5, .int (sJ x5_6)), (6, .int (sJ v528)), (7, .int (sJ v535)), (8, .int (sJ x8_36)), (9, .int (sJ x9_36)), (10, .int (sJ x10_52)), (11, .int (sJ x11_52)), (12, .int (sJ x12_52))] [] := by
                intro m52
                induction m52 with
                | zero => intro x10_52 x11_52 x12_52 i_52 r_52 k_52 hx10_52 hx11_52 hx12_52 hi_52 hw_52 h; exact h.elim
                | succ m52 ih52 =>
                  intro x10_52 x11_52 x12_52 i_52 r_52 k_52 hx10_52 hx11_52 hx12_52 hi_52 hw_52 h
                  have h := LoopP_succ h
                  have jn150 : ∀ (x10j150 : Int) (x12j150 : Int) (k0j150 : Int) (k1j150 : Int) (ij150 : MI) (rj150 : MI) (kj150 : Nat), sR x10j150 → sR x12j150 → sR k0j150 → sR k1j150 → okI ij150 → Wf rj150 → s150_L_areUnits p3 x4_36 x5_6 v528 v535 x8_36 x9_36 x10j150 x12j150 k0j150 k1j150 ij150 rj150 kj150 L1 xs1 L2 xs2 Q (LoopP (b6_L_areUnits p3 L1 xs1 L2 xs2 Q) m6) (LoopP (b36_L_areUnits p3 x5_6 v528 v535 L1 xs1 L2 xs2 Q (LoopP (b6_L_areUnits p3 L1 xs1 L2 xs2 Q) m6)) m36) (LoopP (b52_L_areUnits p3 x4_36 x5_6 v528 v535 x8_36 x9_36 L1 xs1 L2 xs2 Q (LoopP (b6_L_areUnits p3 L1 xs1 L2 xs2 Q) m6) (LoopP (b36_L_areUnits p3 x5_6 v528 v535 L1 xs1 L2 xs2 Q (LoopP (b6_L_areUnits p3 L1 xs1 L2 xs2 Q) m6)) m36)) m52) → V Γ Δ 504 false ij150 rj150 kj150 (6 * kj150) Q0 150 [(0, .ref (sA Δ 0)), (1, .ref b1), (2, .ref b2), (3, .int (sJ p3)), (4, .int (sJ x4_36)), (5, .int (sJ x5_6)), (6, .int (sJ v528)), (7, .int (sJ v535)), (8, .int (sJ x8_36)), (9, .int (sJ x9_36)), (10, .int (sJ x10j150)), (12, .int (sJ x12j150))] [.int (sJ k1j150), .int (sJ k0j150)] := by
                    intro x10j150 x12j150 k0j150 k1j150 ij150 rj150 kj150 hx10j150 hx12j150 hk0j150 hk1j150 hij150 hwj150 h
                    obtain ⟨hk670, h⟩ := h
                    refine V.callSi (pc := 150) (As := [.int (sJ k1j150)]) (stk := [.int (sJ k0j150)]) hG (sm_L_told l Δ hk1j150 hij150 hwj150 h) mY_L_told kw_1755 kw_1756 ⟨Nat.le_of_ble_eq_true rfl, Nat.le_of_ble_eq_true rfl, by show _ ≤ 160000; omega, by show _ ≤ 960000; omega⟩ rfl (Nat.le_of_ble_eq_true rfl) dL_areUnits_150 rfl (fun v663 i664 r665 hv666 hi667 hw668 hq669 => ?_)
                    obtain ⟨e671, e672, h⟩ := hq669
                    subst e671
                    subst e672
                    refine V.iadd (pc := 153) hG dL_areUnits_153 ?_
                    refine V.istore (pc := 154) (lv' := [(11, .int (sJ (wr (k0j150 + v663)))), (0, .ref (sA Δ 0)), (1, .ref b1), (2, .ref b2), (3, .int (sJ p3)), (4, .int (sJ x4_36)), (5, .int (sJ x5_6)), (6, .int (sJ v528)), (7, .int (sJ v535)), (8, .int (sJ x8_36)), (9, .int (sJ x9_36)), (10, .int (sJ x10j150)), (12, .int (sJ x12j150))]) hG dL_areUnits_154 (by decide) rfl ?_
                    refine V.iinc (pc := 156) (lv' := [(12, .int (sJ (wr (x12j150 + 1)))), (11, .int (sJ (wr (k0j150 + v663)))), (0, .ref (sA Δ 0)), (1, .ref b1), (2, .ref b2), (3, .int (sJ p3)), (4, .int (sJ x4_36)), (5, .int (sJ x5_6)), (6, .int (sJ v528)), (7, .int (sJ v535)), (8, .int (sJ x8_36)), (9, .int (sJ x9_36)), (10, .int (sJ x10j150))]) hG dL_areUnits_156 12 rfl (by decide) rfl ?_
                    refine V.goto (pc := 159) (tgt := 52) hG dL_areUnits_159 (by decide) ?_
                    refine V.pick [2, 3, 4, 5, 6, 7, 8, 9, 10, 11, 12, 1, 0] rfl ?_
                    exact ih52 x10j150 (wr (k0j150 + v663)) (wr (x12j150 + 1)) ij150 rj150 kj150 hx10j150 ((sR_wr _)) ((sR_wr _)) hij150 hwj150 h
                  have jn149 : ∀ (x10j149 : Int) (x12j149 : Int) (k0j149 : Int) (ij149 : MI) (rj149 : MI) (kj149 : Nat), sR x10j149 → sR x12j149 → sR k0j149 → okI ij149 → Wf rj149 → s149_L_areUnits p3 x4_36 x5_6 v528 v535 x8_36 x9_36 x10j149 x12j149 k0j149 ij149 rj149 kj149 L1 xs1 L2 xs2 Q (LoopP (b6_L_areUnits p3 L1 xs1 L2 xs2 Q) m6) (LoopP (b36_L_areUnits p3 x5_6 v528 v535 L1 xs1 L2 xs2 Q (LoopP (b6_L_areUnits p3 L1 xs1 L2 xs2 Q) m6)) m36) (LoopP (b52_L_areUnits p3 x4_36 x5_6 v528 v535 x8_36 x9_36 L1 xs1 L2 xs2 Q (LoopP (b6_L_areUnits p3 L1 xs1 L2 xs2 Q) m6) (LoopP (b36_L_areUnits p3 x5_6 v528 v535 L1 xs1 L2 xs2 Q (LoopP (b6_L_areUnits p3 L1 xs1 L2 xs2 Q) m6)) m36)) m52) → V Γ Δ 504 false ij149 rj149 kj149 (6 * kj149) Q0 149 [(0, .ref (sA Δ 0)), (1, .ref b1), (2, .ref b2), (3, .int (sJ p3)), (4, .int (sJ x4_36)), (5, .int (sJ x5_6)), (6, .int (sJ v528)), (7, .int (sJ v535)), (8, .int (sJ x8_36)), (9, .int (sJ x9_36)), (10, .int (sJ x10j149)), (12, .int (sJ x12j149))] [.int (sJ k0j149)] := by
                    intro x10j149 x12j149 k0j149 ij149 rj149 kj149 hx10j149 hx12j149 hk0j149 hij149 hwj149 h
                    refine V.iconst (pc := 149) hG dL_areUnits_149 ?_
                    exact jn150 x10j149 x12j149 k0j149 0 ij149 rj149 kj149 hx10j149 hx12j149 hk0j149 ((sR_l rfl)) hij149 hwj149 h
                  have jn117 : ∀ (x11j117 : Int) (x12j117 : Int) (x13j117 : Int) (k0j117 : Int) (k1j117 : Int) (ij117 : MI) (rj117 : MI) (kj117 : Nat), sR x11j117 → sR x12j117 → sR x13j117 → sR k0j117 → sR k1j117 → okI ij117 → Wf rj117 → s117_L_areUnits p3 x4_36 x5_6 v528 v535 x8_36 x9_36 x11j117 x12j117 x13j117 k0j117 k1j117 ij117 rj117 kj117 L1 xs1 L2 xs2 Q (LoopP (b6_L_areUnits p3 L1 xs1 L2 xs2 Q) m6) (LoopP (b36_L_areUnits p3 x5_6 v528 v535 L1 xs1 L2 xs2 Q (LoopP (b6_L_areUnits p3 L1 xs1 L2 xs2 Q) m6)) m36) (LoopP (b52_L_areUnits p3 x4_36 x5_6 v528 v535 x8_36 x9_36 L1 xs1 L2 xs2 Q (LoopP (b6_L_areUnits p3 L1 xs1 L2 xs2 Q) m6) (LoopP (b36_L_areUnits p3 x5_6 v528 v535 L1 xs1 L2 xs2 Q (LoopP (b6_L_areUnits p3 L1 xs1 L2 xs2 Q) m6)) m36)) m52) → V Γ Δ 504 false ij117 rj117 kj117 (6 * kj117) Q0 117 [(0, .ref (sA Δ 0)), (1, .ref b1), (2, .ref b2), (3, .int (sJ p3)), (4, .int (sJ x4_36)), (5, .int (sJ x5_6)), (6, .int (sJ v528)), (7, .int (sJ v535)), (8, .int (sJ x8_36)), (9, .int (sJ x9_36)), (11, .int (sJ x11j117)), (12, .int (sJ x12j117)), (13, .int (sJ x13j117))] [.int (sJ k1j117), .int (sJ k0j117)] := by
                    intro x11j117 x12j117 x13j117 k0j117 k1j117 ij117 rj117 kj117 hx11j117 hx12j117 hx13j117 hk0j117 hk1j117 hij117 hwj117 h
                    obtain ⟨hk700, h⟩ := h
                    refine V.callSi (pc := 117) (As := [.int (sJ k1j117)]) (stk := [.int (sJ k0j117)]) hG (sm_L_told l Δ hk1j117 hij117 hwj117 h) mY_L_told kw_1755 kw_1756 ⟨Nat.le_of_ble_eq_true rfl, Nat.le_of_ble_eq_true rfl, by show _ ≤ 160000; omega, by show _ ≤ 960000; omega⟩ rfl (Nat.le_of_ble_eq_true rfl) dL_areUnits_117 rfl (fun v693 i694 r695 hv696 hi697 hw698 hq699 => ?_)
                    obtain ⟨e701, e702, h⟩ := hq699
                    subst e701
                    subst e702
                    refine V.iadd (pc := 120) hG dL_areUnits_120 ?_
                    refine V.istore (pc := 121) (lv' := [(10, .int (sJ (wr (k0j117 + v693)))), (0, .ref (sA Δ 0)), (1, .ref b1), (2, .ref b2), (3, .int (sJ p3)), (4, .int (sJ x4_36)), (5, .int (sJ x5_6)), (6, .int (sJ v528)), (7, .int (sJ v535)), (8, .int (sJ x8_36)), (9, .int (sJ x9_36)), (11, .int (sJ x11j117)), (12, .int (sJ x12j117)), (13, .int (sJ x13j117))]) hG dL_areUnits_121 (by decide) rfl ?_
                    refine V.iload (pc := 123) hG dL_areUnits_123 11 rfl ?_
                    refine V.iload (pc := 125) hG dL_areUnits_125 13 rfl ?_
                    obtain ⟨t704, f705⟩ := h
                    refine V.if_eq (pc := 127) (tgt := 149) hG hx13j117 dL_areUnits_127 (by decide) (fun c703 => ?_) (fun c703 => ?_)
                    · have h := t704 c703
                      clear t704 f705
                      refine V.pick [1, 2, 3, 4, 5, 6, 7, 8, 9, 10, 0, 12] rfl ?_
                      exact jn149 (wr (k0j117 + v693)) x12j117 x11j117 ij117 rj117 kj117 ((sR_wr _)) hx12j117 hx11j117 hij117 hwj117 h
                    · have h := f705 c703
                      clear t704 f705
                      refine V.aload_n (pc := 130) hG dL_areUnits_130 rfl 3 rfl ?_
                      refine V.iload (pc := 131) hG dL_areUnits_131 10 rfl ?_
                      obtain ⟨g706, h⟩ := h
                      refine V.eald (pc := 133) hG hE2 hx9_36 g706 dL_areUnits_133 ?_
                      refine V.iload_n (pc := 134) hG dL_areUnits_134 rfl 4 rfl ?_
                      obtain ⟨g707, h⟩ := h
                      refine V.irem (pc := 135) hG ((hE2.2.1 _)) hp3 g707 dL_areUnits_135 ?_
                      refine V.aload_n (pc := 136) hG dL_areUnits_136 rfl 3 rfl ?_
                      refine V.iload (pc := 137) hG dL_areUnits_137 12 rfl ?_
                      obtain ⟨g708, h⟩ := h
                      refine V.eald (pc := 139) hG hE2 hx12j117 g708 dL_areUnits_139 ?_
                      refine V.iload_n (pc := 140) hG dL_areUnits_140 rfl 4 rfl ?_
                      obtain ⟨g709, h⟩ := h
                      refine V.irem (pc := 141) hG ((hE2.2.1 _)) hp3 g709 dL_areUnits_141 ?_
                      obtain ⟨f712, t711⟩ := h
                      refine V.icmp_ne (pc := 142) (tgt := 149) hG ((sR_tmod ((hE2.2.1 _)))) ((sR_tmod ((hE2.2.1 _)))) dL_areUnits_142 (by decide) (fun c710 => ?_) (fun c710 => ?_)
                      · have h := t711 c710
                        clear t711 f712
                        refine V.pick [1, 2, 3, 4, 5, 6, 7, 8, 9, 10, 0, 12] rfl ?_
                        exact jn149 (wr (k0j117 + v693)) x12j117 x11j117 ij117 rj117 kj117 ((sR_wr _)) hx12j117 hx11j117 hij117 hwj117 h
                      · have h := f712 c710
                        clear t711 f712
                        refine V.iconst (pc := 145) hG dL_areUnits_145 ?_
                        refine V.goto (pc := 146) (tgt := 150) hG dL_areUnits_146 (by decide) ?_
                        refine V.pick [1, 2, 3, 4, 5, 6, 7, 8, 9, 10, 0, 12] rfl ?_
                        exact jn150 (wr (k0j117 + v693)) x12j117 x11j117 1 ij117 rj117 kj117 ((sR_wr _)) hx12j117 hx11j117 ((sR_l rfl)) hij117 hwj117 h
                  have jn116 : ∀ (x11j116 : Int) (x12j116 : Int) (x13j116 : Int) (k0j116 : Int) (ij116 : MI) (rj116 : MI) (kj116 : Nat), sR x11j116 → sR x12j116 → sR x13j116 → sR k0j116 → okI ij116 → Wf rj116 → s116_L_areUnits p3 x4_36 x5_6 v528 v535 x8_36 x9_36 x11j116 x12j116 x13j116 k0j116 ij116 rj116 kj116 L1 xs1 L2 xs2 Q (LoopP (b6_L_areUnits p3 L1 xs1 L2 xs2 Q) m6) (LoopP (b36_L_areUnits p3 x5_6 v528 v535 L1 xs1 L2 xs2 Q (LoopP (b6_L_areUnits p3 L1 xs1 L2 xs2 Q) m6)) m36) (LoopP (b52_L_areUnits p3 x4_36 x5_6 v528 v535 x8_36 x9_36 L1 xs1 L2 xs2 Q (LoopP (b6_L_areUnits p3 L1 xs1 L2 xs2 Q) m6) (LoopP (b36_L_areUnits p3 x5_6 v528 v535 L1 xs1 L2 xs2 Q (LoopP (b6_L_areUnits p3 L1 xs1 L2 xs2 Q) m6)) m36)) m52) → V Γ Δ 504 false ij116 rj116 kj116 (6 * kj116) Q0 116 [(0, .ref (sA Δ 0)), (1, .ref b1), (2, .ref b2), (3, .int (sJ p3)), (4, .int (sJ x4_36)), (5, .int (sJ x5_6)), (6, .int (sJ v528)), (7, .int (sJ v535)), (8, .int (sJ x8_36)), (9, .int (sJ x9_36)), (11, .int (sJ x11j116)), (12, .int (sJ x12j116)), (13, .int (sJ x13j116))] [.int (sJ k0j116)] := by
                    intro x11j116 x12j116 x13j116 k0j116 ij116 rj116 kj116 hx11j116 hx12j116 hx13j116 hk0j116 hij116 hwj116 h
                    refine V.iconst (pc := 116) hG dL_areUnits_116 ?_
                    exact jn117 x11j116 x12j116 x13j116 k0j116 0 ij116 rj116 kj116 hx11j116 hx12j116 hx13j116 hk0j116 ((sR_l rfl)) hij116 hwj116 h
                  have jn92 : ∀ (x10j92 : Int) (x11j92 : Int) (x12j92 : Int) (k0j92 : Int) (ij92 : MI) (rj92 : MI) (kj92 : Nat), sR x10j92 → sR x11j92 → sR x12j92 → sR k0j92 → okI ij92 → Wf rj92 → s92_L_areUnits p3 x4_36 x5_6 v528 v535 x8_36 x9_36 x10j92 x11j92 x12j92 k0j92 ij92 rj92 kj92 L1 xs1 L2 xs2 Q (LoopP (b6_L_areUnits p3 L1 xs1 L2 xs2 Q) m6) (LoopP (b36_L_areUnits p3 x5_6 v528 v535 L1 xs1 L2 xs2 Q (LoopP (b6_L_areUnits p3 L1 xs1 L2 xs2 Q) m6)) m36) (LoopP (b52_L_areUnits p3 x4_36 x5_6 v528 v535 x8_36 x9_36 L1 xs1 L2 xs2 Q (LoopP (b6_L_areUnits p3 L1 xs1 L2 xs2 Q) m6) (LoopP (b36_L_areUnits p3 x5_6 v528 v535 L1 xs1 L2 xs2 Q (LoopP (b6_L_areUnits p3 L1 xs1 L2 xs2 Q) m6)) m36)) m52) → V Γ Δ 504 false ij92 rj92 kj92 (6 * kj92) Q0 92 [(0, .ref (sA Δ 0)), (1, .ref b1), (2, .ref b2), (3, .int (sJ p3)), (4, .int (sJ x4_36)), (5, .int (sJ x5_6)), (6, .int (sJ v528)), (7, .int (sJ v535)), (8, .int (sJ x8_36)), (9, .int (sJ x9_36)), (10, .int (sJ x10j92)), (11, .int (sJ x11j92)), (12, .int (sJ x12j92))] [.int (sJ k0j92)] := by
                    intro x10j92 x11j92 x12j92 k0j92 ij92 rj92 kj92 hx10j92 hx11j92 hx12j92 hk0j92 hij92 hwj92 h
                    refine V.istore (pc := 92) (lv' := [(13, .int (sJ k0j92)), (0, .ref (sA Δ 0)), (1, .ref b1), (2, .ref b2), (3, .int (sJ p3)), (4, .int (sJ x4_36)), (5, .int (sJ x5_6)), (6, .int (sJ v528)), (7, .int (sJ v535)), (8, .int (sJ x8_36)), (9, .int (sJ x9_36)), (10, .int (sJ x10j92)), (11, .int (sJ x11j92)), (12, .int (sJ x12j92))]) hG dL_areUnits_92 (by decide) rfl ?_
                    refine V.iload (pc := 94) hG dL_areUnits_94 11 rfl ?_
                    refine V.iload (pc := 96) hG dL_areUnits_96 0 rfl ?_
                    obtain ⟨t722, f723⟩ := h
                    refine V.if_eq (pc := 98) (tgt := 116) hG hk0j92 dL_areUnits_98 (by decide) (fun c721 => ?_) (fun c721 => ?_)
                    · have h := t722 c721
                      clear t722 f723
                      refine V.pick [1, 2, 3, 4, 5, 6, 7, 8, 9, 10, 12, 13, 0] rfl ?_
                      exact jn116 x11j92 x12j92 k0j92 x10j92 ij92 rj92 kj92 hx11j92 hx12j92 hk0j92 hx10j92 hij92 hwj92 h
                    · have h := f723 c721
                      clear t722 f723
                      refine V.aload_n (pc := 101) hG dL_areUnits_101 rfl 2 rfl ?_
                      refine V.iload (pc := 102) hG dL_areUnits_102 10 rfl ?_
                      obtain ⟨g724, h⟩ := h
                      refine V.eald (pc := 104) hG hE1 hx9_36 g724 dL_areUnits_104 ?_
                      refine V.aload_n (pc := 105) hG dL_areUnits_105 rfl 2 rfl ?_
                      refine V.iload (pc := 106) hG dL_areUnits_106 13 rfl ?_
                      obtain ⟨g725, h⟩ := h
                      refine V.eald (pc := 108) hG hE1 hx12j92 g725 dL_areUnits_108 ?_
                      obtain ⟨f728, t727⟩ := h
                      refine V.icmp_ne (pc := 109) (tgt := 116) hG ((hE1.2.1 _)) ((hE1.2.1 _)) dL_areUnits_109 (by decide) (fun c726 => ?_) (fun c726 => ?_)
                      · have h := t727 c726
                        clear t727 f728
                        refine V.pick [1, 2, 3, 4, 5, 6, 7, 8, 9, 10, 12, 13, 0] rfl ?_
                        exact jn116 x11j92 x12j92 k0j92 x10j92 ij92 rj92 kj92 hx11j92 hx12j92 hk0j92 hx10j92 hij92 hwj92 h
                      · have h := f728 c726
                        clear t727 f728
                        refine V.iconst (pc := 112) hG dL_areUnits_112 ?_
                        refine V.goto (pc := 113) (tgt := 117) hG dL_areUnits_113 (by decide) ?_
                        refine V.pick [1, 2, 3, 4, 5, 6, 7, 8, 9, 10, 12, 13, 0] rfl ?_
                        exact jn117 x11j92 x12j92 k0j92 x10j92 1 ij92 rj92 kj92 hx11j92 hx12j92 hk0j92 hx10j92 ((sR_l rfl)) hij92 hwj92 h
                  have jn91 : ∀ (x10j91 : Int) (x11j91 : Int) (x12j91 : Int) (ij91 : MI) (rj91 : MI) (kj91 : Nat), sR x10j91 → sR x11j91 → sR x12j91 → okI ij91 → Wf rj91 → s91_L_areUnits p3 x4_36 x5_6 v528 v535 x8_36 x9_36 x10j91 x11j91 x12j91 ij91 rj91 kj91 L1 xs1 L2 xs2 Q (LoopP (b6_L_areUnits p3 L1 xs1 L2 xs2 Q) m6) (LoopP (b36_L_areUnits p3 x5_6 v528 v535 L1 xs1 L2 xs2 Q (LoopP (b6_L_areUnits p3 L1 xs1 L2 xs2 Q) m6)) m36) (LoopP (b52_L_areUnits p3 x4_36 x5_6 v528 v535 x8_36 x9_36 L1 xs1 L2 xs2 Q (LoopP (b6_L_areUnits p3 L1 xs1 L2 xs2 Q) m6) (LoopP (b36_L_areUnits p3 x5_6 v528 v535 L1 xs1 L2 xs2 Q (LoopP (b6_L_areUnits p3 L1 xs1 L2 xs2 Q) m6)) m36)) m52) → V Γ Δ 504 false ij91 rj91 kj91 (6 * kj91) Q0 91 [(0, .ref (sA Δ 0)), (1, .ref b1), (2, .ref b2), (3, .int (sJ p3)), (4, .int (sJ x4_36)), (5, .int (sJ x5_6)), (6, .int (sJ v528)), (7, .int (sJ v535)), (8, .int (sJ x8_36)), (9, .int (sJ x9_36)), (10, .int (sJ x10j91)), (11, .int (sJ x11j91)), (12, .int (sJ x12j91))] [] := by
                    intro x10j91 x11j91 x12j91 ij91 rj91 kj91 hx10j91 hx11j91 hx12j91 hij91 hwj91 h
                    refine V.iconst (pc := 91) hG dL_areUnits_91 ?_
                    exact jn92 x10j91 x11j91 x12j91 0 ij91 rj91 kj91 hx10j91 hx11j91 hx12j91 ((sR_l rfl)) hij91 hwj91 h
                  refine V.iload (pc := 52) hG dL_areUnits_52 12 rfl ?_
                  refine V.aload_n (pc := 54) hG dL_areUnits_54 rfl 1 rfl ?_
                  refine V.ealen (pc := 55) hG hE1 dL_areUnits_55 ?_
                  obtain ⟨t730, f731⟩ := h
                  refine V.icmp_ge (pc := 56) (tgt := 162) hG hx12_52 ((sR_nat hE1.2.2)) dL_areUnits_56 (by decide) (fun c729 => ?_) (fun c729 => ?_)
                  · have h := t730 c729
                    clear t730 f731
                    refine V.iload (pc := 162) hG dL_areUnits_162 4 rfl ?_
                    obtain ⟨t733, f734⟩ := h
                    refine V.if_eq (pc := 164) (tgt := 185) hG hx4_36 dL_areUnits_164 (by decide) (fun c732 => ?_) (fun c732 => ?_)
                    · have h := t733 c732
                      clear t733 f734
                      refine V.pick [0, 1, 2, 3, 5, 6, 7, 8, 9] rfl ?_
                      exact jn185 x8_36 x9_36 i_52 r_52 k_52 hx8_36 hx9_36 hi_52 hw_52 h
                    · have h := f734 c732
                      clear t733 f734
                      refine V.iload (pc := 167) hG dL_areUnits_167 10 rfl ?_
                      refine V.iload (pc := 169) hG dL_areUnits_169 7 rfl ?_
                      obtain ⟨t736, f737⟩ := h
                      refine V.icmp_gt (pc := 171) (tgt := 185) hG hx10_52 hv538 dL_areUnits_171 (by decide) (fun c735 => ?_) (fun c735 => ?_)
                      · have h := t736 c735
                        clear t736 f737
                        refine V.pick [0, 1, 2, 3, 5, 6, 7, 8, 9] rfl ?_
                        exact jn185 x8_36 x9_36 i_52 r_52 k_52 hx8_36 hx9_36 hi_52 hw_52 h
                      · have h := f737 c735
                        clear t736 f737
                        refine V.iload (pc := 174) hG dL_areUnits_174 11 rfl ?_
                        refine V.iload (pc := 176) hG dL_areUnits_176 7 rfl ?_
                        obtain ⟨t739, f740⟩ := h
                        refine V.icmp_gt (pc := 178) (tgt := 185) hG hx11_52 hv538 dL_areUnits_178 (by decide) (fun c738 => ?_) (fun c738 => ?_)
                        · have h := t739 c738
                          clear t739 f740
                          refine V.pick [0, 1, 2, 3, 5, 6, 7, 8, 9] rfl ?_
                          exact jn185 x8_36 x9_36 i_52 r_52 k_52 hx8_36 hx9_36 hi_52 hw_52 h
                        · have h := f740 c738
                          clear t739 f740
                          refine V.iconst (pc := 181) hG dL_areUnits_181 ?_
                          refine V.goto (pc := 182) (tgt := 186) hG dL_areUnits_182 (by decide) ?_
                          refine V.pick [0, 1, 2, 3, 5, 6, 7, 8, 9] rfl ?_
                          exact jn186 x8_36 x9_36 1 i_52 r_52 k_52 hx8_36 hx9_36 ((sR_l rfl)) hi_52 hw_52 h
                  · have h := f731 c729
                    clear t730 f731
                    refine V.aload_n (pc := 59) hG dL_areUnits_59 rfl 0 rfl ?_
                    refine V.bipush (pc := 60) hG dL_areUnits_60 (by decide) ?_
                    refine V.iload (pc := 62) hG dL_areUnits_62 9 rfl ?_
                    refine V.iconst (pc := 64) hG dL_areUnits_64 ?_
                    obtain ⟨hk748, h⟩ := h
                    refine V.mcallSi (pc := 65) (As := [.ref (sA Δ 0), .int (sJ 23), .int (sJ x9_36), .int (sJ 0)]) (stk := []) hG (sm_L_ask l Δ ((sR_l rfl)) hx9_36 ((sR_l rfl)) hst hi_52 hw_52 h) mY_L_ask kw_917 kw_918 ⟨Nat.le_of_ble_eq_true rfl, Nat.le_of_ble_eq_true rfl, by show _ ≤ 160000; omega, by show _ ≤ 960000; omega⟩ rfl (Nat.le_of_ble_eq_true rfl) dL_areUnits_65 rfl (fun v741 i742 r743 hv744 hi745 hw746 hq747 => ?_)
                    have h := hq747
                    refine V.ks (kc2 := (k_52 + 3)) (sl2 := 6 * (k_52 + 3)) (by omega) (by omega) ?_
                    refine V.iload (pc := 68) hG dL_areUnits_68 6 rfl ?_
                    obtain ⟨f753, t752⟩ := h
                    refine V.icmp_ne (pc := 70) (tgt := 91) hG hv744 hv531 dL_areUnits_70 (by decide) (fun c751 => ?_) (fun c751 => ?_)
                    · have h := t752 c751
                      clear t752 f753
                      exact jn91 x10_52 x11_52 x12_52 i742 r743 (k_52 + 3) hx10_52 hx11_52 hx12_52 hi745 hw746 h
                    · have h := f753 c751
                      clear t752 f753
                      refine V.aload_n (pc := 73) hG dL_areUnits_73 rfl 0 rfl ?_
                      refine V.bipush (pc := 74) hG dL_areUnits_74 (by decide) ?_
                      refine V.iload (pc := 76) hG dL_areUnits_76 12 rfl ?_
                      refine V.iconst (pc := 78) hG dL_areUnits_78 ?_
                      obtain ⟨hk761, h⟩ := h
                      refine V.mcallSi (pc := 79) (As := [.ref (sA Δ 0), .int (sJ 23), .int (sJ x12_52), .int (sJ 0)]) (stk := []) hG (sm_L_ask l Δ ((sR_l rfl)) hx12_52 ((sR_l rfl)) hst hi745 hw746 h) mY_L_ask kw_917 kw_918 ⟨Nat.le_of_ble_eq_true rfl, Nat.le_of_ble_eq_true rfl, by show _ ≤ 160000; omega, by show _ ≤ 960000; omega⟩ rfl (Nat.le_of_ble_eq_true rfl) dL_areUnits_79 rfl (fun v754 i755 r756 hv757 hi758 hw759 hq760 => ?_)
                      have h := hq760
                      refine V.ks (kc2 := ((k_52 + 3) + 3)) (sl2 := 6 * ((k_52 + 3) + 3)) (by omega) (by omega) ?_
                      refine V.iload (pc := 82) hG dL_areUnits_82 6 rfl ?_
                      obtain ⟨f766, t765⟩ := h
                      refine V.icmp_ne (pc := 84) (tgt := 91) hG hv757 hv531 dL_areUnits_84 (by decide) (fun c764 => ?_) (fun c764 => ?_)
                      · have h := t765 c764
                        clear t765 f766
                        exact jn91 x10_52 x11_52 x12_52 i755 r756 ((k_52 + 3) + 3) hx10_52 hx11_52 hx12_52 hi758 hw759 h
                      · have h := f766 c764
                        clear t765 f766
                        refine V.iconst (pc := 87) hG dL_areUnits_87 ?_
                        refine V.goto (pc := 88) (tgt := 92) hG dL_areUnits_88 (by decide) ?_
                        exact jn92 x10_52 x11_52 x12_52 1 i755 r756 ((k_52 + 3) + 3) hx10_52 hx11_52 hx12_52 ((sR_l rfl)) hi758 hw759 h
              refine V.pick [3, 4, 5, 6, 7, 8, 9, 10, 11, 12, 2, 1, 0] rfl ?_
              exact lp52 n652 0 0 0 i_36 r_36 k_36 ((sR_l rfl)) ((sR_l rfl)) ((sR_l rfl)) hi_36 hw_36 h
        refine V.pick [4, 5, 6, 7, 8, 9, 3, 2, 1, 0] rfl ?_
        exact lp36 n545 x4_6 0 0 i536 r537 (k_6 + 6) hx4_6 ((sR_l rfl)) ((sR_l rfl)) hi539 hw540 h
  refine V.pick [2, 3, 4, 5, 1, 0] rfl ?_
  exact lp6 n522 1 0 i r 0 ((sR_l rfl)) ((sR_l rfl)) hi hw h
