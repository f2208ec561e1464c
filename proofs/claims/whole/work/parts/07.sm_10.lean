set_option maxRecDepth 100000 in
set_option maxHeartbeats 4000000 in
theorem sm_X12_setDepth (l : Launch) (Δ : Wd) {i r : MI} {p1 : Int} {p2 : Int} (hp1 : sR p1) (hp2 : sR p2) {Q : Int → MI → Prop} (hi : okI i) (hw : Wf r) (h : wp_X12_setDepth p1 p2 i r Q) : Met l yX12_setDepth (Cond.code yX12_setDepth cX12_setDepth 4 (some .int) :: gW) (sRm 1 22) (sPc Δ [.ref (sA Δ 504), .int (sJ p1), .int (sJ p2)] i r) (sQi Δ (fun x i' r' => r = r' ∧ Q x i')) 0 0 (sFr Δ) := by
  refine Ct.i (ty := .int) (by decide) rfl (Nat.le_of_ble_eq_true rfl) (fun Γ Q0 hG fin => ?_)
  have hG : okG Γ Δ l (sRm 1 22) cX12_setDepth "SchedularyModel" 4 := hG
  show V Γ Δ 542 false i r 0 0 Q0 0 [(0, .ref (sA Δ 504)), (1, .int (sJ p1)), (2, .int (sJ p2))] []
  have jn30 : ∀ (k1j30 : Int) (ij30 : MI), sR k1j30 → okI ij30 → s30_X12_setDepth p1 p2 k1j30 ij30 r Q → V Γ Δ 542 false ij30 r 0 0 Q0 30 [(0, .ref (sA Δ 504)), (1, .int (sJ p1)), (2, .int (sJ p2))] [.int (sJ k1j30), .ref (sA Δ 504)] := by
    intro k1j30 ij30 hk1j30 hij30 h
    refine V.iconst (pc := 30) hG dX12_setDepth_30 ?_
    refine V.callVi (pc := 31) (As := [.int (sJ k1j30), .int (sJ 1)]) (stk := []) hG (sm_X12_fails l Δ hk1j30 ((sR_l rfl)) hij30 hw h) mY_X12_fails kw_1853 kw_1855 kw_106 a_504 (by decide) (q := (RX12, TX12, 49)) rfl rfl ⟨Nat.le_of_ble_eq_true rfl, Nat.le_of_ble_eq_true rfl, Nat.le_of_ble_eq_true rfl, Nat.le_of_ble_eq_true rfl⟩ rfl (Nat.le_of_ble_eq_true rfl) dX12_setDepth_31 rfl (fun v15 i16 r17 hv18 hi19 hw20 hq21 => ?_)
    obtain ⟨e28, h⟩ := hq21
    subst e28
    obtain ⟨t23, f24⟩ := h
    refine V.if_eq (pc := 34) (tgt := 39) hG hv18 dX12_setDepth_34 (by decide) (fun c22 => ?_) (fun c22 => ?_)
    · have h := t23 c22
      clear t23 f24
      refine V.aload_n (pc := 39) hG dX12_setDepth_39 rfl 0 rfl ?_
      refine V.getR (x := 537) (pc := 40) (ci := 14) (k := 45) (M := 49) (T := TX12) (o := 504) (kz := 45) hG a_504 a_504.n (by decide) hin_X12 rfl (by decide) (by decide) rfl kw_1737 rfl ((hw).1 (504, 45, 537) (by decide)) (by decide) dX12_setDepth_40 ?_
      refine V.iload_n (pc := 43) hG dX12_setDepth_43 rfl 1 rfl ?_
      obtain ⟨g25, h⟩ := h
      refine V.iald (pc := 44) (z := 4) (o := 537) hG a_537 a_537.n hp1 g25 dX12_setDepth_44 ?_
      refine V.istore_n (pc := 45) (lv' := [(3, .int (sJ (i16 537 p1))), (0, .ref (sA Δ 504)), (1, .int (sJ p1)), (2, .int (sJ p2))]) hG dX12_setDepth_45 rfl (by decide) rfl ?_
      refine V.aload_n (pc := 46) hG dX12_setDepth_46 rfl 1 rfl ?_
      refine V.getR (x := 537) (pc := 47) (ci := 14) (k := 45) (M := 49) (T := TX12) (o := 504) (kz := 45) hG a_504 a_504.n (by decide) hin_X12 rfl (by decide) (by decide) rfl kw_1737 rfl ((hw).1 (504, 45, 537) (by decide)) (by decide) dX12_setDepth_47 ?_
      refine V.iload_n (pc := 50) hG dX12_setDepth_50 rfl 2 rfl ?_
      refine V.iload_n (pc := 51) hG dX12_setDepth_51 rfl 3 rfl ?_
      obtain ⟨g26, h⟩ := h
      refine V.iast (pc := 52) (z := 4) (o := 537) hG a_537 a_537.n hp1 g26 dX12_setDepth_52 ?_
      refine V.iload_n (pc := 53) hG dX12_setDepth_53 rfl 0 rfl ?_
      exact fin dX12_setDepth_54 ((hi19 _ _)) rfl ((okI_st hi19 hp2)) hw ⟨rfl, h⟩
    · have h := f24 c22
      clear t23 f24
      refine V.iconst (pc := 37) hG dX12_setDepth_37 ?_
      exact fin dX12_setDepth_38 ((sR_l rfl)) rfl hi19 hw ⟨rfl, h⟩
  have jn25 : ∀  (ij25 : MI), okI ij25 → s25_X12_setDepth p1 p2 ij25 r Q → V Γ Δ 542 false ij25 r 0 0 Q0 25 [(0, .ref (sA Δ 504)), (1, .int (sJ p1)), (2, .int (sJ p2))] [.ref (sA Δ 504)] := by
    intro ij25 hij25 h
    refine V.iconst (pc := 25) hG dX12_setDepth_25 ?_
    refine V.goto (pc := 26) (tgt := 30) hG dX12_setDepth_26 (by decide) ?_
    exact jn30 1 ij25 ((sR_l rfl)) hij25 h
  refine V.aload_n (pc := 0) hG dX12_setDepth_0 rfl 0 rfl ?_
  refine V.iconst (pc := 1) hG dX12_setDepth_1 ?_
  refine V.putI (pc := 2) (ci := 14) (k := 0) (M := 49) (T := TX12) (o := 504) (kz := 0) hG a_504 a_504.n (by decide) hin_X12 rfl (by decide) (by decide) rfl kw_1692 rfl tyX12 tyX12_ok nmX12 rfl (ty := tyX12 0) (tyX12_ok 0 (by decide)) rfl rfl dX12_setDepth_2 ?_
  refine V.aload_n (pc := 5) hG dX12_setDepth_5 rfl 0 rfl ?_
  refine V.iload_n (pc := 6) hG dX12_setDepth_6 rfl 1 rfl ?_
  refine V.iconst (pc := 7) hG dX12_setDepth_7 ?_
  refine V.iconst (pc := 8) hG dX12_setDepth_8 ?_
  refine V.callSi (pc := 9) (As := [.int (sJ p1), .int (sJ 0), .int (sJ 3)]) (stk := [.ref (sA Δ 504)]) hG (sm_X12_in l Δ hp1 ((sR_l rfl)) ((sR_l rfl)) ((okI_st hi ((sR_l rfl)))) hw h) mY_X12_in kw_1848 kw_1849 ⟨Nat.le_of_ble_eq_true rfl, Nat.le_of_ble_eq_true rfl, Nat.le_of_ble_eq_true rfl, Nat.le_of_ble_eq_true rfl⟩ rfl (Nat.le_of_ble_eq_true rfl) dX12_setDepth_9 rfl (fun v29 i30 r31 hv32 hi33 hw34 hq35 => ?_)
  obtain ⟨e51, e52, h⟩ := hq35
  subst e51
  subst e52
  obtain ⟨t37, f38⟩ := h
  refine V.if_eq (pc := 12) (tgt := 25) hG hv32 dX12_setDepth_12 (by decide) (fun c36 => ?_) (fun c36 => ?_)
  · have h := t37 c36
    clear t37 f38
    exact jn25 (st i 504 0 0) ((okI_st hi ((sR_l rfl)))) h
  · have h := f38 c36
    clear t37 f38
    refine V.iload_n (pc := 15) hG dX12_setDepth_15 rfl 2 rfl ?_
    refine V.iconst (pc := 16) hG dX12_setDepth_16 ?_
    refine V.bipush (pc := 17) hG dX12_setDepth_17 (by decide) ?_
    refine V.callSi (pc := 19) (As := [.int (sJ p2), .int (sJ 1), .int (sJ 16)]) (stk := [.ref (sA Δ 504)]) hG (sm_X12_in l Δ hp2 ((sR_l rfl)) ((sR_l rfl)) ((okI_st hi ((sR_l rfl)))) hw h) mY_X12_in kw_1848 kw_1849 ⟨Nat.le_of_ble_eq_true rfl, Nat.le_of_ble_eq_true rfl, Nat.le_of_ble_eq_true rfl, Nat.le_of_ble_eq_true rfl⟩ rfl (Nat.le_of_ble_eq_true rfl) dX12_setDepth_19 rfl (fun v39 i40 r41 hv42 hi43 hw44 hq45 => ?_)
    obtain ⟨e49, e50, h⟩ := hq45
    subst e49
    subst e50
    obtain ⟨f48, t47⟩ := h
    refine V.if_ne (pc := 22) (tgt := 29) hG hv42 dX12_setDepth_22 (by decide) (fun c46 => ?_) (fun c46 => ?_)
    · have h := t47 c46
      clear t47 f48
      refine V.iconst (pc := 29) hG dX12_setDepth_29 ?_
      exact jn30 0 (st i 504 0 0) ((sR_l rfl)) ((okI_st hi ((sR_l rfl)))) h
    · have h := f48 c46
      clear t47 f48
      exact jn25 (st i 504 0 0) ((okI_st hi ((sR_l rfl)))) h
set_option maxRecDepth 100000 in
set_option maxHeartbeats 4000000 in
theorem sm_X12_acts (l : Launch) (Δ : Wd) {i r : MI} {p1 : Int} {p2 : Int} (hp1 : sR p1) (hp2 : sR p2) {Q : Int → MI → Prop} (hi : okI i) (hw : Wf r) (h : wp_X12_acts p1 p2 i r Q) : Met l yX12_acts (Cond.code yX12_acts cX12_acts 7 (some .boolean) :: gW) (sRm 0 0) (sPc Δ [.ref (sA Δ 504), .int (sJ p1), .int (sJ p2)] i r) (sQi Δ (fun x i' r' => r = r' ∧ Q x i')) 0 0 (sFr Δ) := by
  refine Ct.i (ty := .boolean) (by decide) rfl (Nat.le_of_ble_eq_true rfl) (fun Γ Q0 hG fin => ?_)
  have hG : okG Γ Δ l (sRm 0 0) cX12_acts "SchedularyModel" 7 := hG
  show V Γ Δ 542 false i r 0 0 Q0 0 [(0, .ref (sA Δ 504)), (1, .int (sJ p1)), (2, .int (sJ p2))] []
  have jn143 : ∀ (x6j143 : Int) (ij143 : MI), sR x6j143 → okI ij143 → s143_X12_acts x6j143 ij143 r Q → V Γ Δ 542 false ij143 r 0 0 Q0 143 [(6, .int (sJ x6j143))] [] := by
    intro x6j143 ij143 hx6j143 hij143 h
    refine V.iload (pc := 143) hG dX12_acts_143 0 rfl ?_
    obtain ⟨g2, h⟩ := h
    exact fin dX12_acts_145 hx6j143 (nar_z g2) hij143 hw ⟨rfl, h⟩
  have jn131 : ∀ (x6j131 : Int) (k1j131 : Int) (k2j131 : Int) (k3j131 : Int) (ij131 : MI), sR x6j131 → sR k1j131 → sR k2j131 → sR k3j131 → okI ij131 → s131_X12_acts p1 x6j131 k1j131 k2j131 k3j131 ij131 r Q → V Γ Δ 542 false ij131 r 0 0 Q0 131 [(0, .ref (sA Δ 504)), (1, .int (sJ p1)), (6, .int (sJ x6j131))] [.int (sJ k3j131), .int (sJ k2j131), .int (sJ k1j131), .ref (sA Δ 539)] := by
    intro x6j131 k1j131 k2j131 k3j131 ij131 hx6j131 hk1j131 hk2j131 hk3j131 hij131 h
    refine V.iadd (pc := 131) hG dX12_acts_131 ?_
    obtain ⟨g6, h⟩ := h
    refine V.iast (pc := 132) (z := 4) (o := 539) hG a_539 a_539.n hk1j131 g6 dX12_acts_132 ?_
    refine V.aload_n (pc := 133) hG dX12_acts_133 rfl 0 rfl ?_
    refine V.getR (x := 538) (pc := 134) (ci := 14) (k := 46) (M := 49) (T := TX12) (o := 504) (kz := 46) hG a_504 a_504.n (by decide) hin_X12 rfl (by decide) (by decide) rfl kw_1738 rfl ((hw).1 (504, 46, 538) (by decide)) (by decide) dX12_acts_134 ?_
    refine V.iload_n (pc := 137) hG dX12_acts_137 rfl 1 rfl ?_
    refine V.dup2 (pc := 138) hG dX12_acts_138 rfl rfl ?_
    obtain ⟨g7, h⟩ := h
    refine V.iald (pc := 139) (z := 4) (o := 538) hG a_538 a_538.n hp1 g7 dX12_acts_139 ?_
    refine V.iconst (pc := 140) hG dX12_acts_140 ?_
    refine V.iadd (pc := 141) hG dX12_acts_141 ?_
    obtain ⟨g8, h⟩ := h
    refine V.iast (pc := 142) (z := 4) (o := 538) hG a_538 a_538.n hp1 g8 dX12_acts_142 ?_
    refine V.pick [2] rfl ?_
    exact jn143 x6j131 (st (st ij131 539 k1j131 (wr (k2j131 + k3j131))) 538 p1 (wr ((st ij131 539 k1j131 (wr (k2j131 + k3j131))) 538 p1 + 1))) hx6j131 ((okI_st ((okI_st hij131 ((sR_wr _)))) ((sR_wr _)))) h
  have jn106 : ∀ (x4j106 : Int) (x5j106 : Int) (k0j106 : Int) (ij106 : MI), sR x4j106 → sR x5j106 → sR k0j106 → okI ij106 → s106_X12_acts p1 x4j106 x5j106 k0j106 ij106 r Q → V Γ Δ 542 false ij106 r 0 0 Q0 106 [(0, .ref (sA Δ 504)), (1, .int (sJ p1)), (4, .int (sJ x4j106)), (5, .int (sJ x5j106))] [.int (sJ k0j106)] := by
    intro x4j106 x5j106 k0j106 ij106 hx4j106 hx5j106 hk0j106 hij106 h
    refine V.istore (pc := 106) (lv' := [(6, .int (sJ k0j106)), (0, .ref (sA Δ 504)), (1, .int (sJ p1)), (4, .int (sJ x4j106)), (5, .int (sJ x5j106))]) hG dX12_acts_106 (by decide) rfl ?_
    refine V.iload (pc := 108) hG dX12_acts_108 0 rfl ?_
    obtain ⟨t17, f18⟩ := h
    refine V.if_eq (pc := 110) (tgt := 143) hG hk0j106 dX12_acts_110 (by decide) (fun c16 => ?_) (fun c16 => ?_)
    · have h := t17 c16
      clear t17 f18
      refine V.pick [0] rfl ?_
      exact jn143 k0j106 ij106 hk0j106 hij106 h
    · have h := f18 c16
      clear t17 f18
      refine V.aload_n (pc := 113) hG dX12_acts_113 rfl 1 rfl ?_
      refine V.getR (x := 539) (pc := 114) (ci := 14) (k := 47) (M := 49) (T := TX12) (o := 504) (kz := 47) hG a_504 a_504.n (by decide) hin_X12 rfl (by decide) (by decide) rfl kw_1739 rfl ((hw).1 (504, 47, 539) (by decide)) (by decide) dX12_acts_114 ?_
      refine V.iload (pc := 117) hG dX12_acts_117 3 rfl ?_
      refine V.dup2 (pc := 119) hG dX12_acts_119 rfl rfl ?_
      obtain ⟨g19, h⟩ := h
      refine V.iald (pc := 120) (z := 4) (o := 539) hG a_539 a_539.n hx4j106 g19 dX12_acts_120 ?_
      refine V.iload (pc := 121) hG dX12_acts_121 4 rfl ?_
      obtain ⟨t21, f22⟩ := h
      refine V.if_eq (pc := 123) (tgt := 130) hG hx5j106 dX12_acts_123 (by decide) (fun c20 => ?_) (fun c20 => ?_)
      · have h := t21 c20
        clear t21 f22
        refine V.iconst (pc := 130) hG dX12_acts_130 ?_
        refine V.pick [1, 2, 0] rfl ?_
        exact jn131 k0j106 x4j106 (ij106 539 x4j106) (-1) ij106 hk0j106 hx4j106 ((hij106 _ _)) ((sR_l rfl)) hij106 h
      · have h := f22 c20
        clear t21 f22
        refine V.iconst (pc := 126) hG dX12_acts_126 ?_
        refine V.goto (pc := 127) (tgt := 131) hG dX12_acts_127 (by decide) ?_
        refine V.pick [1, 2, 0] rfl ?_
        exact jn131 k0j106 x4j106 (ij106 539 x4j106) 1 ij106 hk0j106 hx4j106 ((hij106 _ _)) ((sR_l rfl)) hij106 h
  have jn80 : ∀ (x4j80 : Int) (x5j80 : Int) (k0j80 : Int) (k1j80 : Int) (ij80 : MI), sR x4j80 → sR x5j80 → sR k0j80 → sR k1j80 → okI ij80 → s80_X12_acts p1 x4j80 x5j80 k0j80 k1j80 ij80 r Q → V Γ Δ 542 false ij80 r 0 0 Q0 80 [(0, .ref (sA Δ 504)), (1, .int (sJ p1)), (4, .int (sJ x4j80)), (5, .int (sJ x5j80))] [.int (sJ k1j80), .int (sJ k0j80)] := by
    intro x4j80 x5j80 k0j80 k1j80 ij80 hx4j80 hx5j80 hk0j80 hk1j80 hij80 h
    obtain ⟨t27, f28⟩ := h
    refine V.icmp_ge (pc := 80) (tgt := 87) hG hk0j80 hk1j80 dX12_acts_80 (by decide) (fun c26 => ?_) (fun c26 => ?_)
    · have h := t27 c26
      clear t27 f28
      refine V.iconst (pc := 87) hG dX12_acts_87 ?_
      refine V.goto (pc := 88) (tgt := 106) hG dX12_acts_88 (by decide) ?_
      exact jn106 x4j80 x5j80 0 ij80 hx4j80 hx5j80 ((sR_l rfl)) hij80 h
    · have h := f28 c26
      clear t27 f28
      refine V.iconst (pc := 83) hG dX12_acts_83 ?_
      refine V.goto (pc := 84) (tgt := 106) hG dX12_acts_84 (by decide) ?_
      exact jn106 x4j80 x5j80 1 ij80 hx4j80 hx5j80 ((sR_l rfl)) hij80 h
  have jn51 : ∀ (x4j51 : Int) (k0j51 : Int) (ij51 : MI), sR x4j51 → sR k0j51 → okI ij51 → s51_X12_acts p1 p2 x4j51 k0j51 ij51 r Q → V Γ Δ 542 false ij51 r 0 0 Q0 51 [(0, .ref (sA Δ 504)), (1, .int (sJ p1)), (2, .int (sJ p2)), (4, .int (sJ x4j51))] [.int (sJ k0j51)] := by
    intro x4j51 k0j51 ij51 hx4j51 hk0j51 hij51 h
    refine V.istore (pc := 51) (lv' := [(5, .int (sJ k0j51)), (0, .ref (sA Δ 504)), (1, .int (sJ p1)), (2, .int (sJ p2)), (4, .int (sJ x4j51))]) hG dX12_acts_51 (by decide) rfl ?_
    refine V.iload (pc := 53) hG dX12_acts_53 0 rfl ?_
    obtain ⟨t42, f43⟩ := h
    refine V.if_eq (pc := 55) (tgt := 91) hG hk0j51 dX12_acts_55 (by decide) (fun c41 => ?_) (fun c41 => ?_)
    · have h := t42 c41
      clear t42 f43
      refine V.aload_n (pc := 91) hG dX12_acts_91 rfl 1 rfl ?_
      refine V.getR (x := 539) (pc := 92) (ci := 14) (k := 47) (M := 49) (T := TX12) (o := 504) (kz := 47) hG a_504 a_504.n (by decide) hin_X12 rfl (by decide) (by decide) rfl kw_1739 rfl ((hw).1 (504, 47, 539) (by decide)) (by decide) dX12_acts_92 ?_
      refine V.iload (pc := 95) hG dX12_acts_95 4 rfl ?_
      obtain ⟨g44, h⟩ := h
      refine V.iald (pc := 97) (z := 4) (o := 539) hG a_539 a_539.n hx4j51 g44 dX12_acts_97 ?_
      obtain ⟨t46, f47⟩ := h
      refine V.if_le (pc := 98) (tgt := 105) hG ((hij51 _ _)) dX12_acts_98 (by decide) (fun c45 => ?_) (fun c45 => ?_)
      · have h := t46 c45
        clear t46 f47
        refine V.iconst (pc := 105) hG dX12_acts_105 ?_
        refine V.pick [1, 2, 4, 0] rfl ?_
        exact jn106 x4j51 k0j51 0 ij51 hx4j51 hk0j51 ((sR_l rfl)) hij51 h
      · have h := f47 c45
        clear t46 f47
        refine V.iconst (pc := 101) hG dX12_acts_101 ?_
        refine V.goto (pc := 102) (tgt := 106) hG dX12_acts_102 (by decide) ?_
        refine V.pick [1, 2, 4, 0] rfl ?_
        exact jn106 x4j51 k0j51 1 ij51 hx4j51 hk0j51 ((sR_l rfl)) hij51 h
    · have h := f43 c41
      clear t42 f43
      refine V.aload_n (pc := 58) hG dX12_acts_58 rfl 1 rfl ?_
      refine V.getR (x := 539) (pc := 59) (ci := 14) (k := 47) (M := 49) (T := TX12) (o := 504) (kz := 47) hG a_504 a_504.n (by decide) hin_X12 rfl (by decide) (by decide) rfl kw_1739 rfl ((hw).1 (504, 47, 539) (by decide)) (by decide) dX12_acts_59 ?_
      refine V.iload (pc := 62) hG dX12_acts_62 4 rfl ?_
      obtain ⟨g48, h⟩ := h
      refine V.iald (pc := 64) (z := 4) (o := 539) hG a_539 a_539.n hx4j51 g48 dX12_acts_64 ?_
      refine V.iload_n (pc := 65) hG dX12_acts_65 rfl 3 rfl ?_
      obtain ⟨f51, t50⟩ := h
      refine V.if_ne (pc := 66) (tgt := 79) hG hp2 dX12_acts_66 (by decide) (fun c49 => ?_) (fun c49 => ?_)
      · have h := t50 c49
        clear t50 f51
        refine V.iload_n (pc := 79) hG dX12_acts_79 rfl 3 rfl ?_
        refine V.pick [1, 2, 4, 0] rfl ?_
        exact jn80 x4j51 k0j51 (ij51 539 x4j51) p2 ij51 hx4j51 hk0j51 ((hij51 _ _)) hp2 hij51 h
      · have h := f51 c49
        clear t50 f51
        refine V.aload_n (pc := 69) hG dX12_acts_69 rfl 1 rfl ?_
        refine V.getR (x := 537) (pc := 70) (ci := 14) (k := 45) (M := 49) (T := TX12) (o := 504) (kz := 45) hG a_504 a_504.n (by decide) hin_X12 rfl (by decide) (by decide) rfl kw_1737 rfl ((hw).1 (504, 45, 537) (by decide)) (by decide) dX12_acts_70 ?_
        refine V.iload (pc := 73) hG dX12_acts_73 4 rfl ?_
        obtain ⟨g52, h⟩ := h
        refine V.iald (pc := 75) (z := 4) (o := 537) hG a_537 a_537.n hx4j51 g52 dX12_acts_75 ?_
        refine V.goto (pc := 76) (tgt := 80) hG dX12_acts_76 (by decide) ?_
        refine V.pick [1, 2, 4, 0] rfl ?_
        exact jn80 x4j51 k0j51 (ij51 539 x4j51) (ij51 537 x4j51) ij51 hx4j51 hk0j51 ((hij51 _ _)) ((hij51 _ _)) hij51 h
  refine V.aload_n (pc := 0) hG dX12_acts_0 rfl 0 rfl ?_
  refine V.getR (x := 538) (pc := 1) (ci := 14) (k := 46) (M := 49) (T := TX12) (o := 504) (kz := 46) hG a_504 a_504.n (by decide) hin_X12 rfl (by decide) (by decide) rfl kw_1738 rfl ((hw).1 (504, 46, 538) (by decide)) (by decide) dX12_acts_1 ?_
  refine V.iload_n (pc := 4) hG dX12_acts_4 rfl 1 rfl ?_
  obtain ⟨g53, h⟩ := h
  refine V.iald (pc := 5) (z := 4) (o := 538) hG a_538 a_538.n hp1 g53 dX12_acts_5 ?_
  refine V.aload_n (pc := 6) hG dX12_acts_6 rfl 0 rfl ?_
  refine V.getR (x := 535) (pc := 7) (ci := 14) (k := 43) (M := 49) (T := TX12) (o := 504) (kz := 43) hG a_504 a_504.n (by decide) hin_X12 rfl (by decide) (by decide) rfl kw_1735 rfl ((hw).1 (504, 43, 535) (by decide)) (by decide) dX12_acts_7 ?_
  refine V.iload_n (pc := 10) hG dX12_acts_10 rfl 1 rfl ?_
  obtain ⟨g54, h⟩ := h
  refine V.iald (pc := 11) (z := 4) (o := 535) hG a_535 a_535.n hp1 g54 dX12_acts_11 ?_
  obtain ⟨f57, t56⟩ := h
  refine V.icmp_ne (pc := 12) (tgt := 17) hG ((hi _ _)) ((hi _ _)) dX12_acts_12 (by decide) (fun c55 => ?_) (fun c55 => ?_)
  · have h := t56 c55
    clear t56 f57
    refine V.aload_n (pc := 17) hG dX12_acts_17 rfl 0 rfl ?_
    refine V.getR (x := 536) (pc := 18) (ci := 14) (k := 44) (M := 49) (T := TX12) (o := 504) (kz := 44) hG a_504 a_504.n (by decide) hin_X12 rfl (by decide) (by decide) rfl kw_1736 rfl ((hw).1 (504, 44, 536) (by decide)) (by decide) dX12_acts_18 ?_
    refine V.bipush (pc := 21) hG dX12_acts_21 (by decide) ?_
    refine V.iload_n (pc := 23) hG dX12_acts_23 rfl 1 rfl ?_
    refine V.imul (pc := 24) hG dX12_acts_24 ?_
    refine V.aload_n (pc := 25) hG dX12_acts_25 rfl 0 rfl ?_
    refine V.getR (x := 538) (pc := 26) (ci := 14) (k := 46) (M := 49) (T := TX12) (o := 504) (kz := 46) hG a_504 a_504.n (by decide) hin_X12 rfl (by decide) (by decide) rfl kw_1738 rfl ((hw).1 (504, 46, 538) (by decide)) (by decide) dX12_acts_26 ?_
    refine V.iload_n (pc := 29) hG dX12_acts_29 rfl 1 rfl ?_
    obtain ⟨g58, h⟩ := h
    refine V.iald (pc := 30) (z := 4) (o := 538) hG a_538 a_538.n hp1 g58 dX12_acts_30 ?_
    refine V.iadd (pc := 31) hG dX12_acts_31 ?_
    obtain ⟨g59, h⟩ := h
    refine V.iald (pc := 32) (z := 64) (o := 536) hG a_536 a_536.n ((sR_wr _)) g59 dX12_acts_32 ?_
    refine V.istore_n (pc := 33) (lv' := [(3, .int (sJ (i 536 (wr (wr (16 * p1) + i 538 p1))))), (0, .ref (sA Δ 504)), (1, .int (sJ p1)), (2, .int (sJ p2))]) hG dX12_acts_33 rfl (by decide) rfl ?_
    refine V.iload_n (pc := 34) hG dX12_acts_34 rfl 0 rfl ?_
    refine V.iconst (pc := 35) hG dX12_acts_35 ?_
    refine V.idiv (pc := 36) hG ((hi _ _)) ((sR_l rfl)) (by decide) dX12_acts_36 ?_
    refine V.istore (pc := 37) (lv' := [(4, .int (sJ (wr (Int.tdiv (i 536 (wr (wr (16 * p1) + i 538 p1))) 2)))), (3, .int (sJ (i 536 (wr (wr (16 * p1) + i 538 p1))))), (0, .ref (sA Δ 504)), (1, .int (sJ p1)), (2, .int (sJ p2))]) hG dX12_acts_37 (by decide) rfl ?_
    refine V.iload_n (pc := 39) hG dX12_acts_39 rfl 1 rfl ?_
    refine V.iconst (pc := 40) hG dX12_acts_40 ?_
    refine V.irem (pc := 41) hG ((hi _ _)) ((sR_l rfl)) (by decide) dX12_acts_41 ?_
    refine V.iconst (pc := 42) hG dX12_acts_42 ?_
    obtain ⟨f62, t61⟩ := h
    refine V.icmp_ne (pc := 43) (tgt := 50) hG ((sR_tmod ((hi _ _)))) ((sR_l rfl)) dX12_acts_43 (by decide) (fun c60 => ?_) (fun c60 => ?_)
    · have h := t61 c60
      clear t61 f62
      refine V.iconst (pc := 50) hG dX12_acts_50 ?_
      refine V.pick [2, 3, 4, 0] rfl ?_
      exact jn51 (wr (Int.tdiv (i 536 (wr (wr (16 * p1) + i 538 p1))) 2)) 0 i ((sR_wr _)) ((sR_l rfl)) hi h
    · have h := f62 c60
      clear t61 f62
      refine V.iconst (pc := 46) hG dX12_acts_46 ?_
      refine V.goto (pc := 47) (tgt := 51) hG dX12_acts_47 (by decide) ?_
      refine V.pick [2, 3, 4, 0] rfl ?_
      exact jn51 (wr (Int.tdiv (i 536 (wr (wr (16 * p1) + i 538 p1))) 2)) 1 i ((sR_wr _)) ((sR_l rfl)) hi h
  · have h := f57 c55
    clear t56 f57
    refine V.iconst (pc := 15) hG dX12_acts_15 ?_
    exact fin dX12_acts_16 ((sR_l rfl)) (nar_z (by decide)) hi hw ⟨rfl, h⟩
set_option maxRecDepth 100000 in
set_option maxHeartbeats 4000000 in
theorem sm_X12_goRound (l : Launch) (Δ : Wd) {i r : MI} {p1 : Int} (hp1 : sR p1) {Q : Int → MI → Prop} (hi : okI i) (hw : Wf r) (h : wp_X12_goRound p1 i r Q) : Met l yX12_goRound (Cond.code yX12_goRound cX12_goRound 5 (some .boolean) :: gW) (sRm 1 26) (sPc Δ [.ref (sA Δ 504), .int (sJ p1)] i r) (sQi Δ (fun x i' r' => r = r' ∧ Q x i')) 0 0 (sFr Δ) := by
  refine Ct.i (ty := .boolean) (by decide) rfl (Nat.le_of_ble_eq_true rfl) (fun Γ Q0 hG fin => ?_)
  have hG : okG Γ Δ l (sRm 1 26) cX12_goRound "SchedularyModel" 5 := hG
  show V Γ Δ 542 false i r 0 0 Q0 0 [(0, .ref (sA Δ 504)), (1, .int (sJ p1))] []
  refine V.iconst (pc := 0) hG dX12_goRound_0 ?_
  refine V.istore_n (pc := 1) (lv' := [(2, .int (sJ 0)), (0, .ref (sA Δ 504)), (1, .int (sJ p1))]) hG dX12_goRound_1 rfl (by decide) rfl ?_
  obtain ⟨n113, h⟩ := h
  have lp2 : ∀ (m2 : Nat) (x2_2 : Int) (i_2 : MI), sR x2_2 → okI i_2 → LoopP (b2_X12_goRound p1 r Q) m2 (x2_2, i_2) → V Γ Δ 542 false i_2 r 0 0 Q0 2 [(0, .ref (sA Δ 504)), (1, .int (sJ p1)), (2, .int (sJ x2_2))] [] := by
    intro m2
    induction m2 with
    | zero => intro x2_2 i_2 hx2_2 hi_2 h; exact h.elim
    | succ m2 ih2 =>
      intro x2_2 i_2 hx2_2 hi_2 h
      have h := LoopP_succ h
      refine V.iload_n (pc := 2) hG dX12_goRound_2 rfl 2 rfl ?_
      refine V.iconst (pc := 3) hG dX12_goRound_3 ?_
      obtain ⟨t115, f116⟩ := h
      refine V.icmp_ge (pc := 4) (tgt := 27) hG hx2_2 ((sR_l rfl)) dX12_goRound_4 (by decide) (fun c114 => ?_) (fun c114 => ?_)
      · have h := t115 c114
        clear t115 f116
        refine V.iconst (pc := 27) hG dX12_goRound_27 ?_
        refine V.istore_n (pc := 28) (lv' := [(2, .int (sJ 1)), (0, .ref (sA Δ 504)), (1, .int (sJ p1))]) hG dX12_goRound_28 rfl (by decide) rfl ?_
        obtain ⟨n117, h⟩ := h
        have lp29 : ∀ (m29 : Nat) (x2_29 : Int) (i_29 : MI), sR x2_29 → okI i_29 → LoopP (b29_X12_goRound p1 r Q) m29 (x2_29, i_29) → V Γ Δ 542 false i_29 r 0 0 Q0 29 [(0, .ref (sA Δ 504)), (1, .int (sJ p1)), (2, .int (sJ x2_29))] [] := by
          intro m29
          induction m29 with
          | zero => intro x2_29 i_29 hx2_29 hi_29 h; exact h.elim
          | succ m29 ih29 =>
            intro x2_29 i_29 hx2_29 hi_29 h
            have h := LoopP_succ h
            refine V.iload_n (pc := 29) hG dX12_goRound_29 rfl 2 rfl ?_
            obtain ⟨t119, f120⟩ := h
            refine V.if_eq (pc := 30) (tgt := 65) hG hx2_29 dX12_goRound_30 (by decide) (fun c118 => ?_) (fun c118 => ?_)
            · have h := t119 c118
              clear t119 f120
              refine V.iconst (pc := 65) hG dX12_goRound_65 ?_
              refine V.istore_n (pc := 66) (lv' := [(3, .int (sJ 0)), (0, .ref (sA Δ 504)), (1, .int (sJ p1)), (2, .int (sJ x2_29))]) hG dX12_goRound_66 rfl (by decide) rfl ?_
              refine V.iconst (pc := 67) hG dX12_goRound_67 ?_
              refine V.istore (pc := 68) (lv' := [(4, .int (sJ 0)), (3, .int (sJ 0)), (0, .ref (sA Δ 504)), (1, .int (sJ p1)), (2, .int (sJ x2_29))]) hG dX12_goRound_68 (by decide) rfl ?_
              obtain ⟨n121, h⟩ := h
              have lp70 : ∀ (m70 : Nat) (x3_70 : Int) (x4_70 : Int), sR x3_70 → sR x4_70 → LoopP (b70_X12_goRound i_29 r Q) m70 (x3_70, x4_70) → V Γ Δ 542 false i_29 r 0 0 Q0 70 [(0, .ref (sA Δ 504)), (3, .int (sJ x3_70)), (4, .int (sJ x4_70))] [] := by
                intro m70
                induction m70 with
                | zero => intro x3_70 x4_70 hx3_70 hx4_70 h; exact h.elim
                | succ m70 ih70 =>
                  intro x3_70 x4_70 hx3_70 hx4_70 h
                  have h := LoopP_succ h
                  have jn102 : ∀ (x4j102 : Int) (k0j102 : Int), sR x4j102 → sR k0j102 → s102_X12_goRound x4j102 k0j102 i_29 r Q (LoopP (b70_X12_goRound i_29 r Q) m70) → V Γ Δ 542 false i_29 r 0 0 Q0 102 [(0, .ref (sA Δ 504)), (4, .int (sJ x4j102))] [.int (sJ k0j102)] := by
                    intro x4j102 k0j102 hx4j102 hk0j102 h
                    refine V.istore_n (pc := 102) (lv' := [(3, .int (sJ k0j102)), (0, .ref (sA Δ 504)), (4, .int (sJ x4j102))]) hG dX12_goRound_102 rfl (by decide) rfl ?_
                    refine V.iinc (pc := 103) (lv' := [(4, .int (sJ (wr (x4j102 + 1)))), (3, .int (sJ k0j102)), (0, .ref (sA Δ 504))]) hG dX12_goRound_103 2 rfl (by decide) rfl ?_
                    refine V.goto (pc := 106) (tgt := 70) hG dX12_goRound_106 (by decide) ?_
                    refine V.pick [2, 1, 0] rfl ?_
                    exact ih70 k0j102 (wr (x4j102 + 1)) hk0j102 ((sR_wr _)) h
                  have jn97 : ∀ (x4j97 : Int), sR x4j97 → s97_X12_goRound x4j97 i_29 r Q (LoopP (b70_X12_goRound i_29 r Q) m70) → V Γ Δ 542 false i_29 r 0 0 Q0 97 [(0, .ref (sA Δ 504)), (4, .int (sJ x4j97))] [] := by
                    intro x4j97 hx4j97 h
                    refine V.iconst (pc := 97) hG dX12_goRound_97 ?_
                    refine V.goto (pc := 98) (tgt := 102) hG dX12_goRound_98 (by decide) ?_
                    exact jn102 x4j97 1 hx4j97 ((sR_l rfl)) h
                  refine V.iload (pc := 70) hG dX12_goRound_70 2 rfl ?_
                  refine V.iconst (pc := 72) hG dX12_goRound_72 ?_
                  obtain ⟨t123, f124⟩ := h
                  refine V.icmp_ge (pc := 73) (tgt := 109) hG hx4_70 ((sR_l rfl)) dX12_goRound_73 (by decide) (fun c122 => ?_) (fun c122 => ?_)
                  · have h := t123 c122
                    clear t123 f124
                    refine V.iload_n (pc := 109) hG dX12_goRound_109 rfl 1 rfl ?_
                    obtain ⟨g125, h⟩ := h
                    exact fin dX12_goRound_110 hx3_70 (nar_z g125) hi_29 hw ⟨rfl, h⟩
                  · have h := f124 c122
                    clear t123 f124
                    refine V.iload_n (pc := 76) hG dX12_goRound_76 rfl 1 rfl ?_
                    obtain ⟨f128, t127⟩ := h
                    refine V.if_ne (pc := 77) (tgt := 97) hG hx3_70 dX12_goRound_77 (by decide) (fun c126 => ?_) (fun c126 => ?_)
                    · have h := t127 c126
                      clear t127 f128
                      refine V.pick [0, 2] rfl ?_
                      exact jn97 x4_70 hx4_70 h
                    · have h := f128 c126
                      clear t127 f128
                      refine V.aload_n (pc := 80) hG dX12_goRound_80 rfl 0 rfl ?_
                      refine V.getR (x := 538) (pc := 81) (ci := 14) (k := 46) (M := 49) (T := TX12) (o := 504) (kz := 46) hG a_504 a_504.n (by decide) hin_X12 rfl (by decide) (by decide) rfl kw_1738 rfl ((hw).1 (504, 46, 538) (by decide)) (by decide) dX12_goRound_81 ?_
                      refine V.iload (pc := 84) hG dX12_goRound_84 2 rfl ?_
                      obtain ⟨g129, h⟩ := h
                      refine V.iald (pc := 86) (z := 4) (o := 538) hG a_538 a_538.n hx4_70 g129 dX12_goRound_86 ?_
                      refine V.aload_n (pc := 87) hG dX12_goRound_87 rfl 0 rfl ?_
                      refine V.getR (x := 535) (pc := 88) (ci := 14) (k := 43) (M := 49) (T := TX12) (o := 504) (kz := 43) hG a_504 a_504.n (by decide) hin_X12 rfl (by decide) (by decide) rfl kw_1735 rfl ((hw).1 (504, 43, 535) (by decide)) (by decide) dX12_goRound_88 ?_
                      refine V.iload (pc := 91) hG dX12_goRound_91 2 rfl ?_
                      obtain ⟨g130, h⟩ := h
                      refine V.iald (pc := 93) (z := 4) (o := 535) hG a_535 a_535.n hx4_70 g130 dX12_goRound_93 ?_
                      obtain ⟨t132, f133⟩ := h
                      refine V.icmp_ge (pc := 94) (tgt := 101) hG ((hi_29 _ _)) ((hi_29 _ _)) dX12_goRound_94 (by decide) (fun c131 => ?_) (fun c131 => ?_)
                      · have h := t132 c131
                        clear t132 f133
                        refine V.iconst (pc := 101) hG dX12_goRound_101 ?_
                        refine V.pick [0, 2] rfl ?_
                        exact jn102 x4_70 0 hx4_70 ((sR_l rfl)) h
                      · have h := f133 c131
                        clear t132 f133
                        refine V.pick [0, 2] rfl ?_
                        exact jn97 x4_70 hx4_70 h
              refine V.pick [2, 1, 0] rfl ?_
              exact lp70 n121 0 0 ((sR_l rfl)) ((sR_l rfl)) h
            · have h := f120 c118
              clear t119 f120
              refine V.iconst (pc := 33) hG dX12_goRound_33 ?_
              refine V.istore_n (pc := 34) (lv' := [(2, .int (sJ 0)), (0, .ref (sA Δ 504)), (1, .int (sJ p1))]) hG dX12_goRound_34 rfl (by decide) rfl ?_
              refine V.iconst (pc := 35) hG dX12_goRound_35 ?_
              refine V.istore_n (pc := 36) (lv' := [(3, .int (sJ 0)), (2, .int (sJ 0)), (0, .ref (sA Δ 504)), (1, .int (sJ p1))]) hG dX12_goRound_36 rfl (by decide) rfl ?_
              obtain ⟨n134, h⟩ := h
              have lp37 : ∀ (m37 : Nat) (x2_37 : Int) (x3_37 : Int) (i_37 : MI), sR x2_37 → sR x3_37 → okI i_37 → LoopP (b37_X12_goRound p1 r Q (LoopP (b29_X12_goRound p1 r Q) m29)) m37 (x2_37, x3_37, i_37) → V Γ Δ 542 false i_37 r 0 0 Q0 37 [(0, .ref (sA Δ 504)), (1, .int (sJ p1)), (2, .int (sJ x2_37)), (3, .int (sJ x3_37))] [] := by
                intro m37
                induction m37 with
                | zero => intro x2_37 x3_37 i_37 hx2_37 hx3_37 hi_37 h; exact h.elim
                | succ m37 ih37 =>
                  intro x2_37 x3_37 i_37 hx2_37 hx3_37 hi_37 h
                  have h := LoopP_succ h
                  refine V.iload_n (pc := 37) hG dX12_goRound_37 rfl 3 rfl ?_
                  refine V.iconst (pc := 38) hG dX12_goRound_38 ?_
                  obtain ⟨t136, f137⟩ := h
                  refine V.icmp_ge (pc := 39) (tgt := 62) hG hx3_37 ((sR_l rfl)) dX12_goRound_39 (by decide) (fun c135 => ?_) (fun c135 => ?_)
                  · have h := t136 c135
                    clear t136 f137
                    refine V.goto (pc := 62) (tgt := 29) hG dX12_goRound_62 (by decide) ?_
                    refine V.pick [0, 1, 2] rfl ?_
                    exact ih29 x2_37 i_37 hx2_37 hi_37 h
                  · have h := f137 c135
                    clear t136 f137
                    obtain ⟨n138, h⟩ := h
                    have lp42 : ∀ (m42 : Nat) (x2_42 : Int) (i_42 : MI), sR x2_42 → okI i_42 → LoopP (b42_X12_goRound p1 x3_37 r Q (LoopP (b29_X12_goRound p1 r Q) m29) (LoopP (b37_X12_goRound p1 r Q (LoopP (b29_X12_goRound p1 r Q) m29)) m37)) m42 (x2_42, i_42) → V Γ Δ 542 false i_42 r 0 0 Q0 42 [(0, .ref (sA Δ 504)), (1, .int (sJ p1)), (2, .int (sJ x2_42)), (3, .int (sJ x3_37))] [] := by
                      intro m42
                      induction m42 with
                      | zero => intro x2_42 i_42 hx2_42 hi_42 h; exact h.elim
                      | succ m42 ih42 =>
                        intro x2_42 i_42 hx2_42 hi_42 h
                        have h := LoopP_succ h
                        simp only [b42_X12_goRound] at h
                        refine V.aload_n (pc := 42) hG dX12_goRound_42 rfl 0 rfl ?_
                        refine V.iload_n (pc := 43) hG dX12_goRound_43 rfl 3 rfl ?_
                        refine V.iload_n (pc := 44) hG dX12_goRound_44 rfl 1 rfl ?_
                        refine V.callVi (pc := 45) (As := [.int (sJ x3_37), .int (sJ p1)]) (stk := []) hG (sm_X12_acts l Δ hx3_37 hp1 hi_42 hw h) mY_X12_acts kw_2241 kw_2243 kw_156 a_504 (by decide) (q := (RX12, TX12, 49)) rfl rfl ⟨Nat.le_of_ble_eq_true rfl, Nat.le_of_ble_eq_true rfl, Nat.le_of_ble_eq_true rfl, Nat.le_of_ble_eq_true rfl⟩ rfl (Nat.le_of_ble_eq_true rfl) dX12_goRound_45 rfl (fun v139 i140 r141 hv142 hi143 hw144 hq145 => ?_)
                        obtain ⟨e150, h⟩ := hq145
                        subst e150
                        obtain ⟨t147, f148⟩ := h
                        refine V.if_eq (pc := 48) (tgt := 56) hG hv142 dX12_goRound_48 (by decide) (fun c146 => ?_) (fun c146 => ?_)
                        · have h := t147 c146
                          clear t147 f148
                          refine V.iinc (pc := 56) (lv' := [(3, .int (sJ (wr (x3_37 + 1)))), (0, .ref (sA Δ 504)), (1, .int (sJ p1)), (2, .int (sJ x2_42))]) hG dX12_goRound_56 3 rfl (by decide) rfl ?_
                          refine V.goto (pc := 59) (tgt := 37) hG dX12_goRound_59 (by decide) ?_
                          refine V.pick [1, 2, 3, 0] rfl ?_
                          exact ih37 x2_42 (wr (x3_37 + 1)) i140 hx2_42 ((sR_wr _)) hi143 h
                        · have h := f148 c146
                          clear t147 f148
                          refine V.iconst (pc := 51) hG dX12_goRound_51 ?_
                          refine V.istore_n (pc := 52) (lv' := [(2, .int (sJ 1)), (0, .ref (sA Δ 504)), (1, .int (sJ p1)), (3, .int (sJ x3_37))]) hG dX12_goRound_52 rfl (by decide) rfl ?_
                          refine V.goto (pc := 53) (tgt := 42) hG dX12_goRound_53 (by decide) ?_
                          refine V.pick [1, 2, 0, 3] rfl ?_
                          exact ih42 1 i140 ((sR_l rfl)) hi143 h
                    exact lp42 n138 x2_37 i_37 hx2_37 hi_37 h
              refine V.pick [2, 3, 1, 0] rfl ?_
              exact lp37 n134 0 0 i_29 ((sR_l rfl)) ((sR_l rfl)) hi_29 h
        refine V.pick [1, 2, 0] rfl ?_
        exact lp29 n117 1 i_2 ((sR_l rfl)) hi_2 h
      · have h := f116 c114
        clear t115 f116
        refine V.aload_n (pc := 7) hG dX12_goRound_7 rfl 0 rfl ?_
        refine V.getR (x := 538) (pc := 8) (ci := 14) (k := 46) (M := 49) (T := TX12) (o := 504) (kz := 46) hG a_504 a_504.n (by decide) hin_X12 rfl (by decide) (by decide) rfl kw_1738 rfl ((hw).1 (504, 46, 538) (by decide)) (by decide) dX12_goRound_8 ?_
        refine V.iload_n (pc := 11) hG dX12_goRound_11 rfl 2 rfl ?_
        refine V.iconst (pc := 12) hG dX12_goRound_12 ?_
        obtain ⟨g151, h⟩ := h
        refine V.iast (pc := 13) (z := 4) (o := 538) hG a_538 a_538.n hx2_2 g151 dX12_goRound_13 ?_
        refine V.aload_n (pc := 14) hG dX12_goRound_14 rfl 0 rfl ?_
        refine V.getR (x := 539) (pc := 15) (ci := 14) (k := 47) (M := 49) (T := TX12) (o := 504) (kz := 47) hG a_504 a_504.n (by decide) hin_X12 rfl (by decide) (by decide) rfl kw_1739 rfl ((hw).1 (504, 47, 539) (by decide)) (by decide) dX12_goRound_15 ?_
        refine V.iload_n (pc := 18) hG dX12_goRound_18 rfl 2 rfl ?_
        refine V.iconst (pc := 19) hG dX12_goRound_19 ?_
        obtain ⟨g152, h⟩ := h
        refine V.iast (pc := 20) (z := 4) (o := 539) hG a_539 a_539.n hx2_2 g152 dX12_goRound_20 ?_
        refine V.iinc (pc := 21) (lv' := [(2, .int (sJ (wr (x2_2 + 1)))), (0, .ref (sA Δ 504)), (1, .int (sJ p1))]) hG dX12_goRound_21 2 rfl (by decide) rfl ?_
        refine V.goto (pc := 24) (tgt := 2) hG dX12_goRound_24 (by decide) ?_
        refine V.pick [1, 2, 0] rfl ?_
        exact ih2 (wr (x2_2 + 1)) (st (st i_2 538 x2_2 0) 539 x2_2 0) ((sR_wr _)) ((okI_st ((okI_st hi_2 ((sR_l rfl)))) ((sR_l rfl)))) h
  refine V.pick [1, 2, 0] rfl ?_
  exact lp2 n113 0 i ((sR_l rfl)) hi h
set_option maxRecDepth 100000 in
set_option maxHeartbeats 4000000 in
theorem sm_X12_done (l : Launch) (Δ : Wd) {i r : MI}   {Q : Int → MI → Prop} (hi : okI i) (hw : Wf r) (h : wp_X12_done  i r Q) : Met l yX12_done (Cond.code yX12_done cX12_done 1 (some .int) :: gW) (sRm 2 50) (sPc Δ [.ref (sA Δ 504)] i r) (sQi Δ (fun x i' r' => r = r' ∧ Q x i')) 0 0 (sFr Δ) := by
  refine Ct.i (ty := .int) (by decide) rfl (Nat.le_of_ble_eq_true rfl) (fun Γ Q0 hG fin => ?_)
  have hG : okG Γ Δ l (sRm 2 50) cX12_done "SchedularyModel" 1 := hG
  show V Γ Δ 542 false i r 0 0 Q0 0 [(0, .ref (sA Δ 504))] []
  refine V.aload_n (pc := 0) hG dX12_done_0 rfl 0 rfl ?_
  refine V.iconst (pc := 1) hG dX12_done_1 ?_
  refine V.putI (pc := 2) (ci := 14) (k := 0) (M := 49) (T := TX12) (o := 504) (kz := 0) hG a_504 a_504.n (by decide) hin_X12 rfl (by decide) (by decide) rfl kw_1692 rfl tyX12 tyX12_ok nmX12 rfl (ty := tyX12 0) (tyX12_ok 0 (by decide)) rfl rfl dX12_done_2 ?_
  refine V.aload_n (pc := 5) hG dX12_done_5 rfl 0 rfl ?_
  refine V.iconst (pc := 6) hG dX12_done_6 ?_
  refine V.callVi (pc := 7) (As := [.int (sJ 0)]) (stk := []) hG (sm_X12_goRound l Δ ((sR_l rfl)) ((okI_st hi ((sR_l rfl)))) hw h) mY_X12_goRound kw_2237 kw_2239 kw_155 a_504 (by decide) (q := (RX12, TX12, 49)) rfl rfl ⟨Nat.le_of_ble_eq_true rfl, Nat.le_of_ble_eq_true rfl, Nat.le_of_ble_eq_true rfl, Nat.le_of_ble_eq_true rfl⟩ rfl (Nat.le_of_ble_eq_true rfl) dX12_done_7 rfl (fun v1 i2 r3 hv4 hi5 hw6 hq7 => ?_)
  obtain ⟨e13, h⟩ := hq7
  subst e13
  refine V.pop (pc := 10) hG dX12_done_10 rfl ?_
  refine V.aload_n (pc := 11) hG dX12_done_11 rfl 0 rfl ?_
  refine V.getR (x := 538) (pc := 12) (ci := 14) (k := 46) (M := 49) (T := TX12) (o := 504) (kz := 46) hG a_504 a_504.n (by decide) hin_X12 rfl (by decide) (by decide) rfl kw_1738 rfl ((hw).1 (504, 46, 538) (by decide)) (by decide) dX12_done_12 ?_
  refine V.iconst (pc := 15) hG dX12_done_15 ?_
  refine V.iald (pc := 16) (z := 4) (o := 538) hG a_538 a_538.n ((sR_l rfl)) (by decide) dX12_done_16 ?_
  refine V.aload_n (pc := 17) hG dX12_done_17 rfl 0 rfl ?_
  refine V.getR (x := 538) (pc := 18) (ci := 14) (k := 46) (M := 49) (T := TX12) (o := 504) (kz := 46) hG a_504 a_504.n (by decide) hin_X12 rfl (by decide) (by decide) rfl kw_1738 rfl ((hw).1 (504, 46, 538) (by decide)) (by decide) dX12_done_18 ?_
  refine V.iconst (pc := 21) hG dX12_done_21 ?_
  refine V.iald (pc := 22) (z := 4) (o := 538) hG a_538 a_538.n ((sR_l rfl)) (by decide) dX12_done_22 ?_
  refine V.iadd (pc := 23) hG dX12_done_23 ?_
  refine V.aload_n (pc := 24) hG dX12_done_24 rfl 0 rfl ?_
  refine V.getR (x := 538) (pc := 25) (ci := 14) (k := 46) (M := 49) (T := TX12) (o := 504) (kz := 46) hG a_504 a_504.n (by decide) hin_X12 rfl (by decide) (by decide) rfl kw_1738 rfl ((hw).1 (504, 46, 538) (by decide)) (by decide) dX12_done_25 ?_
  refine V.iconst (pc := 28) hG dX12_done_28 ?_
  refine V.iald (pc := 29) (z := 4) (o := 538) hG a_538 a_538.n ((sR_l rfl)) (by decide) dX12_done_29 ?_
  refine V.iadd (pc := 30) hG dX12_done_30 ?_
  refine V.aload_n (pc := 31) hG dX12_done_31 rfl 0 rfl ?_
  refine V.getR (x := 538) (pc := 32) (ci := 14) (k := 46) (M := 49) (T := TX12) (o := 504) (kz := 46) hG a_504 a_504.n (by decide) hin_X12 rfl (by decide) (by decide) rfl kw_1738 rfl ((hw).1 (504, 46, 538) (by decide)) (by decide) dX12_done_32 ?_
  refine V.iconst (pc := 35) hG dX12_done_35 ?_
  refine V.iald (pc := 36) (z := 4) (o := 538) hG a_538 a_538.n ((sR_l rfl)) (by decide) dX12_done_36 ?_
  refine V.iadd (pc := 37) hG dX12_done_37 ?_
  exact fin dX12_done_38 ((sR_wr _)) rfl hi5 hw ⟨rfl, h⟩
set_option maxRecDepth 100000 in
set_option maxHeartbeats 4000000 in
theorem sm_X12_waitsFor (l : Launch) (Δ : Wd) {i r : MI} {p1 : Int} (hp1 : sR p1) {Q : Int → MI → Prop} (hi : okI i) (hw : Wf r) (h : wp_X12_waitsFor p1 i r Q) : Met l yX12_waitsFor (Cond.code yX12_waitsFor cX12_waitsFor 2 (some .int) :: gW) (sRm 2 50) (sPc Δ [.ref (sA Δ 504), .int (sJ p1)] i r) (sQi Δ (fun x i' r' => r = r' ∧ Q x i')) 0 0 (sFr Δ) := by
  refine Ct.i (ty := .int) (by decide) rfl (Nat.le_of_ble_eq_true rfl) (fun Γ Q0 hG fin => ?_)
  have hG : okG Γ Δ l (sRm 2 50) cX12_waitsFor "SchedularyModel" 2 := hG
  show V Γ Δ 542 false i r 0 0 Q0 0 [(0, .ref (sA Δ 504)), (1, .int (sJ p1))] []
  have jn72 : ∀ (k0j72 : Int) (ij72 : MI), sR k0j72 → okI ij72 → s72_X12_waitsFor k0j72 ij72 r Q → V Γ Δ 542 false ij72 r 0 0 Q0 72 [] [.int (sJ k0j72)] := by
    intro k0j72 ij72 hk0j72 hij72 h
    exact fin dX12_waitsFor_72 hk0j72 rfl hij72 hw ⟨rfl, h⟩
  have jn20 : ∀ (k1j20 : Int) (ij20 : MI), sR k1j20 → okI ij20 → s20_X12_waitsFor p1 k1j20 ij20 r Q → V Γ Δ 542 false ij20 r 0 0 Q0 20 [(0, .ref (sA Δ 504)), (1, .int (sJ p1))] [.int (sJ k1j20), .ref (sA Δ 504)] := by
    intro k1j20 ij20 hk1j20 hij20 h
    refine V.iconst (pc := 20) hG dX12_waitsFor_20 ?_
    refine V.callVi (pc := 21) (As := [.int (sJ k1j20), .int (sJ 1)]) (stk := []) hG (sm_X12_fails l Δ hk1j20 ((sR_l rfl)) hij20 hw h) mY_X12_fails kw_1853 kw_1855 kw_106 a_504 (by decide) (q := (RX12, TX12, 49)) rfl rfl ⟨Nat.le_of_ble_eq_true rfl, Nat.le_of_ble_eq_true rfl, Nat.le_of_ble_eq_true rfl, Nat.le_of_ble_eq_true rfl⟩ rfl (Nat.le_of_ble_eq_true rfl) dX12_waitsFor_21 rfl (fun v29 i30 r31 hv32 hi33 hw34 hq35 => ?_)
    obtain ⟨e56, h⟩ := hq35
    subst e56
    obtain ⟨t37, f38⟩ := h
    refine V.if_eq (pc := 24) (tgt := 29) hG hv32 dX12_waitsFor_24 (by decide) (fun c36 => ?_) (fun c36 => ?_)
    · have h := t37 c36
      clear t37 f38
      refine V.aload_n (pc := 29) hG dX12_waitsFor_29 rfl 0 rfl ?_
      refine V.iconst (pc := 30) hG dX12_waitsFor_30 ?_
      refine V.callVi (pc := 31) (As := [.int (sJ 0)]) (stk := []) hG (sm_X12_goRound l Δ ((sR_l rfl)) hi33 hw h) mY_X12_goRound kw_2237 kw_2239 kw_155 a_504 (by decide) (q := (RX12, TX12, 49)) rfl rfl ⟨Nat.le_of_ble_eq_true rfl, Nat.le_of_ble_eq_true rfl, Nat.le_of_ble_eq_true rfl, Nat.le_of_ble_eq_true rfl⟩ rfl (Nat.le_of_ble_eq_true rfl) dX12_waitsFor_31 rfl (fun v39 i40 r41 hv42 hi43 hw44 hq45 => ?_)
      obtain ⟨e54, h⟩ := hq45
      subst e54
      refine V.pop (pc := 34) hG dX12_waitsFor_34 rfl ?_
      refine V.aload_n (pc := 35) hG dX12_waitsFor_35 rfl 0 rfl ?_
      refine V.getR (x := 538) (pc := 36) (ci := 14) (k := 46) (M := 49) (T := TX12) (o := 504) (kz := 46) hG a_504 a_504.n (by decide) hin_X12 rfl (by decide) (by decide) rfl kw_1738 rfl ((hw).1 (504, 46, 538) (by decide)) (by decide) dX12_waitsFor_36 ?_
      refine V.iload_n (pc := 39) hG dX12_waitsFor_39 rfl 1 rfl ?_
      obtain ⟨g46, h⟩ := h
      refine V.iald (pc := 40) (z := 4) (o := 538) hG a_538 a_538.n hp1 g46 dX12_waitsFor_40 ?_
      refine V.aload_n (pc := 41) hG dX12_waitsFor_41 rfl 0 rfl ?_
      refine V.getR (x := 535) (pc := 42) (ci := 14) (k := 43) (M := 49) (T := TX12) (o := 504) (kz := 43) hG a_504 a_504.n (by decide) hin_X12 rfl (by decide) (by decide) rfl kw_1735 rfl ((hw).1 (504, 43, 535) (by decide)) (by decide) dX12_waitsFor_42 ?_
      refine V.iload_n (pc := 45) hG dX12_waitsFor_45 rfl 1 rfl ?_
      obtain ⟨g47, h⟩ := h
      refine V.iald (pc := 46) (z := 4) (o := 535) hG a_535 a_535.n hp1 g47 dX12_waitsFor_46 ?_
      obtain ⟨f50, t49⟩ := h
      refine V.icmp_ne (pc := 47) (tgt := 54) hG ((hi43 _ _)) ((hi43 _ _)) dX12_waitsFor_47 (by decide) (fun c48 => ?_) (fun c48 => ?_)
      · have h := t49 c48
        clear t49 f50
        refine V.aload_n (pc := 54) hG dX12_waitsFor_54 rfl 0 rfl ?_
        refine V.getR (x := 536) (pc := 55) (ci := 14) (k := 44) (M := 49) (T := TX12) (o := 504) (kz := 44) hG a_504 a_504.n (by decide) hin_X12 rfl (by decide) (by decide) rfl kw_1736 rfl ((hw).1 (504, 44, 536) (by decide)) (by decide) dX12_waitsFor_55 ?_
        refine V.bipush (pc := 58) hG dX12_waitsFor_58 (by decide) ?_
        refine V.iload_n (pc := 60) hG dX12_waitsFor_60 rfl 1 rfl ?_
        refine V.imul (pc := 61) hG dX12_waitsFor_61 ?_
        refine V.aload_n (pc := 62) hG dX12_waitsFor_62 rfl 0 rfl ?_
        refine V.getR (x := 538) (pc := 63) (ci := 14) (k := 46) (M := 49) (T := TX12) (o := 504) (kz := 46) hG a_504 a_504.n (by decide) hin_X12 rfl (by decide) (by decide) rfl kw_1738 rfl ((hw).1 (504, 46, 538) (by decide)) (by decide) dX12_waitsFor_63 ?_
        refine V.iload_n (pc := 66) hG dX12_waitsFor_66 rfl 1 rfl ?_
        obtain ⟨g51, h⟩ := h
        refine V.iald (pc := 67) (z := 4) (o := 538) hG a_538 a_538.n hp1 g51 dX12_waitsFor_67 ?_
        refine V.iadd (pc := 68) hG dX12_waitsFor_68 ?_
        obtain ⟨g52, h⟩ := h
        refine V.iald (pc := 69) (z := 64) (o := 536) hG a_536 a_536.n ((sR_wr _)) g52 dX12_waitsFor_69 ?_
        refine V.iconst (pc := 70) hG dX12_waitsFor_70 ?_
        refine V.idiv (pc := 71) hG ((hi43 _ _)) ((sR_l rfl)) (by decide) dX12_waitsFor_71 ?_
        refine V.pick [] rfl ?_
        exact jn72 (wr (Int.tdiv (i40 536 (wr (wr (16 * p1) + i40 538 p1))) 2)) i40 ((sR_wr _)) hi43 h
      · have h := f50 c48
        clear t49 f50
        refine V.iconst (pc := 50) hG dX12_waitsFor_50 ?_
        refine V.goto (pc := 51) (tgt := 72) hG dX12_waitsFor_51 (by decide) ?_
        refine V.pick [] rfl ?_
        exact jn72 (-1) i40 ((sR_l rfl)) hi43 h
    · have h := f38 c36
      clear t37 f38
      refine V.iconst (pc := 27) hG dX12_waitsFor_27 ?_
      exact fin dX12_waitsFor_28 ((sR_l rfl)) rfl hi33 hw ⟨rfl, h⟩
  refine V.aload_n (pc := 0) hG dX12_waitsFor_0 rfl 0 rfl ?_
  refine V.iconst (pc := 1) hG dX12_waitsFor_1 ?_
  refine V.putI (pc := 2) (ci := 14) (k := 0) (M := 49) (T := TX12) (o := 504) (kz := 0) hG a_504 a_504.n (by decide) hin_X12 rfl (by decide) (by decide) rfl kw_1692 rfl tyX12 tyX12_ok nmX12 rfl (ty := tyX12 0) (tyX12_ok 0 (by decide)) rfl rfl dX12_waitsFor_2 ?_
  refine V.aload_n (pc := 5) hG dX12_waitsFor_5 rfl 0 rfl ?_
  refine V.iload_n (pc := 6) hG dX12_waitsFor_6 rfl 1 rfl ?_
  refine V.iconst (pc := 7) hG dX12_waitsFor_7 ?_
  refine V.iconst (pc := 8) hG dX12_waitsFor_8 ?_
  refine V.callSi (pc := 9) (As := [.int (sJ p1), .int (sJ 0), .int (sJ 3)]) (stk := [.ref (sA Δ 504)]) hG (sm_X12_in l Δ hp1 ((sR_l rfl)) ((sR_l rfl)) ((okI_st hi ((sR_l rfl)))) hw h) mY_X12_in kw_1848 kw_1849 ⟨Nat.le_of_ble_eq_true rfl, Nat.le_of_ble_eq_true rfl, Nat.le_of_ble_eq_true rfl, Nat.le_of_ble_eq_true rfl⟩ rfl (Nat.le_of_ble_eq_true rfl) dX12_waitsFor_9 rfl (fun v57 i58 r59 hv60 hi61 hw62 hq63 => ?_)
  obtain ⟨e67, e68, h⟩ := hq63
  subst e67
  subst e68
  obtain ⟨f66, t65⟩ := h
  refine V.if_ne (pc := 12) (tgt := 19) hG hv60 dX12_waitsFor_12 (by decide) (fun c64 => ?_) (fun c64 => ?_)
  · have h := t65 c64
    clear t65 f66
    refine V.iconst (pc := 19) hG dX12_waitsFor_19 ?_
    exact jn20 0 (st i 504 0 0) ((sR_l rfl)) ((okI_st hi ((sR_l rfl)))) h
  · have h := f66 c64
    clear t65 f66
    refine V.iconst (pc := 15) hG dX12_waitsFor_15 ?_
    refine V.goto (pc := 16) (tgt := 20) hG dX12_waitsFor_16 (by decide) ?_
    exact jn20 1 (st i 504 0 0) ((sR_l rfl)) ((okI_st hi ((sR_l rfl)))) h
set_option maxRecDepth 100000 in
set_option maxHeartbeats 4000000 in
theorem sm_X12_areLocked (l : Launch) (Δ : Wd) {i r : MI}   {Q : Int → MI → Prop} (hi : okI i) (hw : Wf r) (h : wp_X12_areLocked  i r Q) : Met l yX12_areLocked (Cond.code yX12_areLocked cX12_areLocked 1 (some .boolean) :: gW) (sRm 2 50) (sPc Δ [.ref (sA Δ 504)] i r) (sQi Δ (fun x i' r' => r = r' ∧ Q x i')) 0 0 (sFr Δ) := by
  refine Ct.i (ty := .boolean) (by decide) rfl (Nat.le_of_ble_eq_true rfl) (fun Γ Q0 hG fin => ?_)
  have hG : okG Γ Δ l (sRm 2 50) cX12_areLocked "SchedularyModel" 1 := hG
  show V Γ Δ 542 false i r 0 0 Q0 0 [(0, .ref (sA Δ 504))] []
  refine V.aload_n (pc := 0) hG dX12_areLocked_0 rfl 0 rfl ?_
  refine V.iconst (pc := 1) hG dX12_areLocked_1 ?_
  refine V.putI (pc := 2) (ci := 14) (k := 0) (M := 49) (T := TX12) (o := 504) (kz := 0) hG a_504 a_504.n (by decide) hin_X12 rfl (by decide) (by decide) rfl kw_1692 rfl tyX12 tyX12_ok nmX12 rfl (ty := tyX12 0) (tyX12_ok 0 (by decide)) rfl rfl dX12_areLocked_2 ?_
  refine V.aload_n (pc := 5) hG dX12_areLocked_5 rfl 0 rfl ?_
  refine V.iconst (pc := 6) hG dX12_areLocked_6 ?_
  refine V.callVi (pc := 7) (As := [.int (sJ 0)]) (stk := []) hG (sm_X12_goRound l Δ ((sR_l rfl)) ((okI_st hi ((sR_l rfl)))) hw h) mY_X12_goRound kw_2237 kw_2239 kw_155 a_504 (by decide) (q := (RX12, TX12, 49)) rfl rfl ⟨Nat.le_of_ble_eq_true rfl, Nat.le_of_ble_eq_true rfl, Nat.le_of_ble_eq_true rfl, Nat.le_of_ble_eq_true rfl⟩ rfl (Nat.le_of_ble_eq_true rfl) dX12_areLocked_7 rfl (fun v1 i2 r3 hv4 hi5 hw6 hq7 => ?_)
  obtain ⟨e10, h⟩ := hq7
  subst e10
  obtain ⟨g8, h⟩ := h
  exact fin dX12_areLocked_10 hv4 (nar_z g8) hi5 hw ⟨rfl, h⟩
set_option maxRecDepth 100000 in
set_option maxHeartbeats 4000000 in
theorem sm_X12_leastDepth (l : Launch) (Δ : Wd) {i r : MI}   {Q : Int → MI → Prop} (hi : okI i) (hw : Wf r) (h : wp_X12_leastDepth  i r Q) : Met l yX12_leastDepth (Cond.code yX12_leastDepth cX12_leastDepth 2 (some .int) :: gW) (sRm 2 50) (sPc Δ [.ref (sA Δ 504)] i r) (sQi Δ (fun x i' r' => r = r' ∧ Q x i')) 0 0 (sFr Δ) := by
  refine Ct.i (ty := .int) (by decide) rfl (Nat.le_of_ble_eq_true rfl) (fun Γ Q0 hG fin => ?_)
  have hG : okG Γ Δ l (sRm 2 50) cX12_leastDepth "SchedularyModel" 2 := hG
  show V Γ Δ 542 false i r 0 0 Q0 0 [(0, .ref (sA Δ 504))] []
  refine V.aload_n (pc := 0) hG dX12_leastDepth_0 rfl 0 rfl ?_
  refine V.iconst (pc := 1) hG dX12_leastDepth_1 ?_
  refine V.putI (pc := 2) (ci := 14) (k := 0) (M := 49) (T := TX12) (o := 504) (kz := 0) hG a_504 a_504.n (by decide) hin_X12 rfl (by decide) (by decide) rfl kw_1692 rfl tyX12 tyX12_ok nmX12 rfl (ty := tyX12 0) (tyX12_ok 0 (by decide)) rfl rfl dX12_leastDepth_2 ?_
  refine V.iconst (pc := 5) hG dX12_leastDepth_5 ?_
  refine V.istore_n (pc := 6) (lv' := [(1, .int (sJ 1)), (0, .ref (sA Δ 504))]) hG dX12_leastDepth_6 rfl (by decide) rfl ?_
  obtain ⟨n16, h⟩ := h
  have lp7 : ∀ (m7 : Nat) (x1_7 : Int) (i_7 : MI), sR x1_7 → okI i_7 → LoopP (b7_X12_leastDepth r Q) m7 (x1_7, i_7) → V Γ Δ 542 false i_7 r 0 0 Q0 7 [(0, .ref (sA Δ 504)), (1, .int (sJ x1_7))] [] := by
    intro m7
    induction m7 with
    | zero => intro x1_7 i_7 hx1_7 hi_7 h; exact h.elim
    | succ m7 ih7 =>
      intro x1_7 i_7 hx1_7 hi_7 h
      have h := LoopP_succ h
      refine V.iload_n (pc := 7) hG dX12_leastDepth_7 rfl 1 rfl ?_
      refine V.bipush (pc := 8) hG dX12_leastDepth_8 (by decide) ?_
      obtain ⟨t18, f19⟩ := h
      refine V.icmp_gt (pc := 10) (tgt := 29) hG hx1_7 ((sR_l rfl)) dX12_leastDepth_10 (by decide) (fun c17 => ?_) (fun c17 => ?_)
      · have h := t18 c17
        clear t18 f19
        refine V.aload_n (pc := 29) hG dX12_leastDepth_29 rfl 0 rfl ?_
        refine V.iconst (pc := 30) hG dX12_leastDepth_30 ?_
        refine V.putI (pc := 31) (ci := 14) (k := 0) (M := 49) (T := TX12) (o := 504) (kz := 0) hG a_504 a_504.n (by decide) hin_X12 rfl (by decide) (by decide) rfl kw_1692 rfl tyX12 tyX12_ok nmX12 rfl (ty := tyX12 0) (tyX12_ok 0 (by decide)) rfl rfl dX12_leastDepth_31 ?_
        refine V.iconst (pc := 34) hG dX12_leastDepth_34 ?_
        exact fin dX12_leastDepth_35 ((sR_l rfl)) rfl ((okI_st hi_7 ((sR_l rfl)))) hw ⟨rfl, h⟩
      · have h := f19 c17
        clear t18 f19
        refine V.aload_n (pc := 13) hG dX12_leastDepth_13 rfl 0 rfl ?_
        refine V.iload_n (pc := 14) hG dX12_leastDepth_14 rfl 1 rfl ?_
        refine V.callVi (pc := 15) (As := [.int (sJ x1_7)]) (stk := []) hG (sm_X12_goRound l Δ hx1_7 hi_7 hw h) mY_X12_goRound kw_2237 kw_2239 kw_155 a_504 (by decide) (q := (RX12, TX12, 49)) rfl rfl ⟨Nat.le_of_ble_eq_true rfl, Nat.le_of_ble_eq_true rfl, Nat.le_of_ble_eq_true rfl, Nat.le_of_ble_eq_true rfl⟩ rfl (Nat.le_of_ble_eq_true rfl) dX12_leastDepth_15 rfl (fun v20 i21 r22 hv23 hi24 hw25 hq26 => ?_)
        obtain ⟨e31, h⟩ := hq26
        subst e31
        obtain ⟨f29, t28⟩ := h
        refine V.if_ne (pc := 18) (tgt := 23) hG hv23 dX12_leastDepth_18 (by decide) (fun c27 => ?_) (fun c27 => ?_)
        · have h := t28 c27
          clear t28 f29
          refine V.iinc (pc := 23) (lv' := [(1, .int (sJ (wr (x1_7 + 1)))), (0, .ref (sA Δ 504))]) hG dX12_leastDepth_23 1 rfl (by decide) rfl ?_
          refine V.goto (pc := 26) (tgt := 7) hG dX12_leastDepth_26 (by decide) ?_
          refine V.pick [1, 0] rfl ?_
          exact ih7 (wr (x1_7 + 1)) i21 ((sR_wr _)) hi24 h
        · have h := f29 c27
          clear t28 f29
          refine V.iload_n (pc := 21) hG dX12_leastDepth_21 rfl 1 rfl ?_
          exact fin dX12_leastDepth_22 hx1_7 rfl hi24 hw ⟨rfl, h⟩
  refine V.pick [1, 0] rfl ?_
  exact lp7 n16 1 (st i 504 0 0) ((sR_l rfl)) ((okI_st hi ((sR_l rfl)))) h
set_option maxRecDepth 100000 in
set_option maxHeartbeats 4000000 in
theorem sm_X12_checksum (l : Launch) (Δ : Wd) {i r : MI}   {Q : Int64 → MI → Prop} (hi : okI i) (hw : Wf r) (h : wp_X12_checksum  i r Q) : Met l yX12_checksum (Cond.code yX12_checksum cX12_checksum 4 (some .long) :: gW) (sRm 6 140) (sPc Δ [.ref (sA Δ 504)] i r) (sQl Δ (fun x i' r' => r = r' ∧ Q x i')) 0 0 (sFr Δ) := by
  refine Ct.l (by decide) rfl (Nat.le_of_ble_eq_true rfl) (fun Γ Q0 hG fin => ?_)
  have hG : okG Γ Δ l (sRm 6 140) cX12_checksum "SchedularyModel" 4 := hG
  show V Γ Δ 542 false i r 0 0 Q0 0 [(0, .ref (sA Δ 504))] []
  refine V.aload_n (pc := 0) hG dX12_checksum_0 rfl 0 rfl ?_
  refine V.iconst (pc := 1) hG dX12_checksum_1 ?_
  refine V.putI (pc := 2) (ci := 14) (k := 0) (M := 49) (T := TX12) (o := 504) (kz := 0) hG a_504 a_504.n (by decide) hin_X12 rfl (by decide) (by decide) rfl kw_1692 rfl tyX12 tyX12_ok nmX12 rfl (ty := tyX12 0) (tyX12_ok 0 (by decide)) rfl rfl dX12_checksum_2 ?_
  refine V.aload_n (pc := 5) hG dX12_checksum_5 rfl 0 rfl ?_
  refine V.callVv (pc := 6) (As := []) (stk := []) hG (sm_X12_list l Δ  ((okI_st hi ((sR_l rfl)))) hw h) mY_X12_list kw_2101 kw_2103 kw_138 a_504 (by decide) (q := (RX12, TX12, 49)) rfl rfl ⟨Nat.le_of_ble_eq_true rfl, Nat.le_of_ble_eq_true rfl, Nat.le_of_ble_eq_true rfl, Nat.le_of_ble_eq_true rfl⟩ rfl (Nat.le_of_ble_eq_true rfl) dX12_checksum_6 rfl (fun i2 r3 hi5 hw6 hq7 => ?_)
  obtain ⟨e29, h⟩ := hq7
  subst e29
  refine V.aload_n (pc := 9) hG dX12_checksum_9 rfl 0 rfl ?_
  refine V.callVi (pc := 10) (As := []) (stk := []) hG (sm_X12_placeAll l Δ  hi5 hw h) mY_X12_placeAll kw_2153 kw_2155 kw_145 a_504 (by decide) (q := (RX12, TX12, 49)) rfl rfl ⟨Nat.le_of_ble_eq_true rfl, Nat.le_of_ble_eq_true rfl, Nat.le_of_ble_eq_true rfl, Nat.le_of_ble_eq_true rfl⟩ rfl (Nat.le_of_ble_eq_true rfl) dX12_checksum_10 rfl (fun v8 i9 r10 hv11 hi12 hw13 hq14 => ?_)
  obtain ⟨e27, h⟩ := hq14
  subst e27
  refine V.pop (pc := 13) hG dX12_checksum_13 rfl ?_
  refine V.lconst (pc := 14) (x := 0) hG dX12_checksum_14 rfl ?_
  refine V.lstore_n (pc := 15) (lv' := [(1, .long 0), (0, .ref (sA Δ 504))]) hG dX12_checksum_15 rfl (by decide) rfl ?_
  refine V.iconst (pc := 16) hG dX12_checksum_16 ?_
  refine V.istore_n (pc := 17) (lv' := [(3, .int (sJ 0)), (1, .long 0), (0, .ref (sA Δ 504))]) hG dX12_checksum_17 rfl (by decide) rfl ?_
  obtain ⟨n20, h⟩ := h
  have lp18 : ∀ (m18 : Nat) (x1_18 : Int64) (x3_18 : Int), sR x3_18 → LoopP (b18_X12_checksum i9 r Q) m18 (x1_18, x3_18) → V Γ Δ 542 false i9 r 0 0 Q0 18 [(0, .ref (sA Δ 504)), (1, .long x1_18), (3, .int (sJ x3_18))] [] := by
    intro m18
    induction m18 with
    | zero => intro x1_18 x3_18 hx3_18 h; exact h.elim
    | succ m18 ih18 =>
      intro x1_18 x3_18 hx3_18 h
      have h := LoopP_succ h
      refine V.iload_n (pc := 18) hG dX12_checksum_18 rfl 2 rfl ?_
      refine V.aload_n (pc := 19) hG dX12_checksum_19 rfl 0 rfl ?_
      refine V.getI (pc := 20) (ci := 14) (k := 21) (M := 49) (T := TX12) (o := 504) (kz := 21) hG a_504 a_504.n (by decide) hin_X12 rfl (by decide) (by decide) rfl kw_1713 rfl dX12_checksum_20 ?_
      obtain ⟨t22, f23⟩ := h
      refine V.icmp_ge (pc := 23) (tgt := 57) hG hx3_18 ((hi12 _ _)) dX12_checksum_23 (by decide) (fun c21 => ?_) (fun c21 => ?_)
      · have h := t22 c21
        clear t22 f23
        refine V.lload_n (pc := 57) hG dX12_checksum_57 rfl 1 rfl ?_
        exact fin dX12_checksum_58 hi12 hw ⟨rfl, h⟩
      · have h := f23 c21
        clear t22 f23
        refine V.ldc2 (pc := 26) (x := 31) hG kw_2261 dX12_checksum_26 ?_
        refine V.lload_n (pc := 29) hG dX12_checksum_29 rfl 1 rfl ?_
        refine V.lmul (pc := 30) hG dX12_checksum_30 ?_
        refine V.aload_n (pc := 31) hG dX12_checksum_31 rfl 0 rfl ?_
        refine V.getR (x := 531) (pc := 32) (ci := 14) (k := 39) (M := 49) (T := TX12) (o := 504) (kz := 39) hG a_504 a_504.n (by decide) hin_X12 rfl (by decide) (by decide) rfl kw_1731 rfl ((hw).1 (504, 39, 531) (by decide)) (by decide) dX12_checksum_32 ?_
        refine V.iload_n (pc := 35) hG dX12_checksum_35 rfl 2 rfl ?_
        obtain ⟨g24, h⟩ := h
        refine V.iald (pc := 36) (z := 96) (o := 531) hG a_531 a_531.n hx3_18 g24 dX12_checksum_36 ?_
        refine V.i2l (pc := 37) hG dX12_checksum_37 ?_
        refine V.ladd (pc := 38) hG dX12_checksum_38 ?_
        refine V.bipush (pc := 39) hG dX12_checksum_39 (by decide) ?_
        refine V.aload_n (pc := 41) hG dX12_checksum_41 rfl 0 rfl ?_
        refine V.getR (x := 532) (pc := 42) (ci := 14) (k := 40) (M := 49) (T := TX12) (o := 504) (kz := 40) hG a_504 a_504.n (by decide) hin_X12 rfl (by decide) (by decide) rfl kw_1732 rfl ((hw).1 (504, 40, 532) (by decide)) (by decide) dX12_checksum_42 ?_
        refine V.iload_n (pc := 45) hG dX12_checksum_45 rfl 2 rfl ?_
        obtain ⟨g25, h⟩ := h
        refine V.iald (pc := 46) (z := 96) (o := 532) hG a_532 a_532.n hx3_18 g25 dX12_checksum_46 ?_
        refine V.imul (pc := 47) hG dX12_checksum_47 ?_
        refine V.i2l (pc := 48) hG dX12_checksum_48 ?_
        refine V.ladd (pc := 49) hG dX12_checksum_49 ?_
        refine V.lstore_n (pc := 50) (lv' := [(1, .long (((31 * x1_18) + ((sJ (i9 531 x3_18)).toInt64)) + ((sJ (wr (7 * i9 532 x3_18))).toInt64))), (0, .ref (sA Δ 504)), (3, .int (sJ x3_18))]) hG dX12_checksum_50 rfl (by decide) rfl ?_
        refine V.iinc (pc := 51) (lv' := [(3, .int (sJ (wr (x3_18 + 1)))), (1, .long (((31 * x1_18) + ((sJ (i9 531 x3_18)).toInt64)) + ((sJ (wr (7 * i9 532 x3_18))).toInt64))), (0, .ref (sA Δ 504))]) hG dX12_checksum_51 2 rfl (by decide) rfl ?_
        refine V.goto (pc := 54) (tgt := 18) hG dX12_checksum_54 (by decide) ?_
        refine V.pick [2, 1, 0] rfl ?_
        exact ih18 (((31 * x1_18) + ((sJ (i9 531 x3_18)).toInt64)) + ((sJ (wr (7 * i9 532 x3_18))).toInt64)) (wr (x3_18 + 1)) ((sR_wr _)) h
  refine V.pick [2, 1, 0] rfl ?_
  exact lp18 n20 0 0 ((sR_l rfl)) h
set_option maxRecDepth 100000 in
set_option maxHeartbeats 4000000 in
theorem sm_X12_busyShare (l : Launch) (Δ : Wd) {i r : MI} {p1 : Int} (hp1 : sR p1) {Q : UInt32 → MI → Prop} (hi : okI i) (hw : Wf r) (h : wp_X12_busyShare p1 i r Q) : Met l yX12_busyShare (Cond.code yX12_busyShare cX12_busyShare 6 (some .float) :: gW) (sRm 5 115) (sPc Δ [.ref (sA Δ 504), .int (sJ p1)] i r) (sQf Δ (fun x i' r' => r = r' ∧ Q x i')) 0 0 (sFr Δ) := by
  refine Ct.f (by decide) rfl (Nat.le_of_ble_eq_true rfl) (fun Γ Q0 hG fin => ?_)
  have hG : okG Γ Δ l (sRm 5 115) cX12_busyShare "SchedularyModel" 6 := hG
  show V Γ Δ 542 false i r 0 0 Q0 0 [(0, .ref (sA Δ 504)), (1, .int (sJ p1))] []
  have jn22 : ∀ (x2j22 : Int) (k1j22 : Int) (ij22 : MI), sR x2j22 → sR k1j22 → okI ij22 → s22_X12_busyShare x2j22 k1j22 ij22 r Q → V Γ Δ 542 false ij22 r 0 0 Q0 22 [(0, .ref (sA Δ 504)), (2, .int (sJ x2j22))] [.int (sJ k1j22), .ref (sA Δ 504)] := by
    intro x2j22 k1j22 ij22 hx2j22 hk1j22 hij22 h
    refine V.iconst (pc := 22) hG dX12_busyShare_22 ?_
    refine V.callVi (pc := 23) (As := [.int (sJ k1j22), .int (sJ 1)]) (stk := []) hG (sm_X12_fails l Δ hk1j22 ((sR_l rfl)) hij22 hw h) mY_X12_fails kw_1853 kw_1855 kw_106 a_504 (by decide) (q := (RX12, TX12, 49)) rfl rfl ⟨Nat.le_of_ble_eq_true rfl, Nat.le_of_ble_eq_true rfl, Nat.le_of_ble_eq_true rfl, Nat.le_of_ble_eq_true rfl⟩ rfl (Nat.le_of_ble_eq_true rfl) dX12_busyShare_23 rfl (fun v41 i42 r43 hv44 hi45 hw46 hq47 => ?_)
    obtain ⟨e71, h⟩ := hq47
    subst e71
    obtain ⟨t49, f50⟩ := h
    refine V.if_eq (pc := 26) (tgt := 31) hG hv44 dX12_busyShare_26 (by decide) (fun c48 => ?_) (fun c48 => ?_)
    · have h := t49 c48
      clear t49 f50
      refine V.aload_n (pc := 31) hG dX12_busyShare_31 rfl 0 rfl ?_
      refine V.callVi (pc := 32) (As := []) (stk := []) hG (sm_X12_placeAll l Δ  hi45 hw h) mY_X12_placeAll kw_2153 kw_2155 kw_145 a_504 (by decide) (q := (RX12, TX12, 49)) rfl rfl ⟨Nat.le_of_ble_eq_true rfl, Nat.le_of_ble_eq_true rfl, Nat.le_of_ble_eq_true rfl, Nat.le_of_ble_eq_true rfl⟩ rfl (Nat.le_of_ble_eq_true rfl) dX12_busyShare_32 rfl (fun v51 i52 r53 hv54 hi55 hw56 hq57 => ?_)
      obtain ⟨e69, h⟩ := hq57
      subst e69
      refine V.istore_n (pc := 35) (lv' := [(3, .int (sJ v51)), (0, .ref (sA Δ 504)), (2, .int (sJ x2j22))]) hG dX12_busyShare_35 rfl (by decide) rfl ?_
      refine V.iconst (pc := 36) hG dX12_busyShare_36 ?_
      refine V.istore (pc := 37) (lv' := [(4, .int (sJ 0)), (3, .int (sJ v51)), (0, .ref (sA Δ 504)), (2, .int (sJ x2j22))]) hG dX12_busyShare_37 (by decide) rfl ?_
      refine V.iconst (pc := 39) hG dX12_busyShare_39 ?_
      refine V.istore (pc := 40) (lv' := [(5, .int (sJ 0)), (4, .int (sJ 0)), (3, .int (sJ v51)), (0, .ref (sA Δ 504)), (2, .int (sJ x2j22))]) hG dX12_busyShare_40 (by decide) rfl ?_
      obtain ⟨n58, h⟩ := h
      have lp42 : ∀ (m42 : Nat) (x4_42 : Int) (x5_42 : Int), sR x4_42 → sR x5_42 → LoopP (b42_X12_busyShare x2j22 v51 i52 r Q) m42 (x4_42, x5_42) → V Γ Δ 542 false i52 r 0 0 Q0 42 [(0, .ref (sA Δ 504)), (2, .int (sJ x2j22)), (3, .int (sJ v51)), (4, .int (sJ x4_42)), (5, .int (sJ x5_42))] [] := by
        intro m42
        induction m42 with
        | zero => intro x4_42 x5_42 hx4_42 hx5_42 h; exact h.elim
        | succ m42 ih42 =>
          intro x4_42 x5_42 hx4_42 hx5_42 h
          have h := LoopP_succ h
          have jn69 : ∀ (x5j69 : Int) (k0j69 : Int) (k1j69 : Int), sR x5j69 → sR k0j69 → sR k1j69 → s69_X12_busyShare x2j22 v51 x5j69 k0j69 k1j69 i52 r Q (LoopP (b42_X12_busyShare x2j22 v51 i52 r Q) m42) → V Γ Δ 542 false i52 r 0 0 Q0 69 [(0, .ref (sA Δ 504)), (2, .int (sJ x2j22)), (3, .int (sJ v51)), (5, .int (sJ x5j69))] [.int (sJ k1j69), .int (sJ k0j69)] := by
            intro x5j69 k0j69 k1j69 hx5j69 hk0j69 hk1j69 h
            refine V.iadd (pc := 69) hG dX12_busyShare_69 ?_
            refine V.istore (pc := 70) (lv' := [(4, .int (sJ (wr (k0j69 + k1j69)))), (0, .ref (sA Δ 504)), (2, .int (sJ x2j22)), (3, .int (sJ v51)), (5, .int (sJ x5j69))]) hG dX12_busyShare_70 (by decide) rfl ?_
            refine V.iinc (pc := 72) (lv' := [(5, .int (sJ (wr (x5j69 + 1)))), (4, .int (sJ (wr (k0j69 + k1j69)))), (0, .ref (sA Δ 504)), (2, .int (sJ x2j22)), (3, .int (sJ v51))]) hG dX12_busyShare_72 4 rfl (by decide) rfl ?_
            refine V.goto (pc := 75) (tgt := 42) hG dX12_busyShare_75 (by decide) ?_
            refine V.pick [2, 3, 4, 1, 0] rfl ?_
            exact ih42 (wr (k0j69 + k1j69)) (wr (x5j69 + 1)) ((sR_wr _)) ((sR_wr _)) h
          refine V.iload (pc := 42) hG dX12_busyShare_42 4 rfl ?_
          refine V.aload_n (pc := 44) hG dX12_busyShare_44 rfl 0 rfl ?_
          refine V.getI (pc := 45) (ci := 14) (k := 21) (M := 49) (T := TX12) (o := 504) (kz := 21) hG a_504 a_504.n (by decide) hin_X12 rfl (by decide) (by decide) rfl kw_1713 rfl dX12_busyShare_45 ?_
          obtain ⟨t60, f61⟩ := h
          refine V.icmp_ge (pc := 48) (tgt := 78) hG hx5_42 ((hi55 _ _)) dX12_busyShare_48 (by decide) (fun c59 => ?_) (fun c59 => ?_)
          · have h := t60 c59
            clear t60 f61
            refine V.iload (pc := 78) hG dX12_busyShare_78 3 rfl ?_
            refine V.i2f (pc := 80) hG dX12_busyShare_80 ?_
            refine V.aload_n (pc := 81) hG dX12_busyShare_81 rfl 0 rfl ?_
            refine V.getR (x := 510) (pc := 82) (ci := 14) (k := 14) (M := 49) (T := TX12) (o := 504) (kz := 14) hG a_504 a_504.n (by decide) hin_X12 rfl (by decide) (by decide) rfl kw_1706 rfl ((hw).1 (504, 14, 510) (by decide)) (by decide) dX12_busyShare_82 ?_
            refine V.iload_n (pc := 85) hG dX12_busyShare_85 rfl 1 rfl ?_
            obtain ⟨g62, h⟩ := h
            refine V.iald (pc := 86) (z := 7) (o := 510) hG a_510 a_510.n hx2j22 g62 dX12_busyShare_86 ?_
            refine V.iload_n (pc := 87) hG dX12_busyShare_87 rfl 2 rfl ?_
            refine V.imul (pc := 88) hG dX12_busyShare_88 ?_
            refine V.i2f (pc := 89) hG dX12_busyShare_89 ?_
            obtain ⟨g63, h⟩ := h
            refine V.fdiv (pc := 90) hG (fdiv_ok ((sR_wr _)) g63) dX12_busyShare_90 ?_
            exact fin dX12_busyShare_91 hi55 hw ⟨rfl, h⟩
          · have h := f61 c59
            clear t60 f61
            refine V.iload (pc := 51) hG dX12_busyShare_51 3 rfl ?_
            refine V.aload_n (pc := 53) hG dX12_busyShare_53 rfl 0 rfl ?_
            refine V.getR (x := 517) (pc := 54) (ci := 14) (k := 24) (M := 49) (T := TX12) (o := 504) (kz := 24) hG a_504 a_504.n (by decide) hin_X12 rfl (by decide) (by decide) rfl kw_1716 rfl ((hw).1 (504, 24, 517) (by decide)) (by decide) dX12_busyShare_54 ?_
            refine V.iload (pc := 57) hG dX12_busyShare_57 4 rfl ?_
            obtain ⟨g64, h⟩ := h
            refine V.iald (pc := 59) (z := 96) (o := 517) hG a_517 a_517.n hx5_42 g64 dX12_busyShare_59 ?_
            refine V.iload_n (pc := 60) hG dX12_busyShare_60 rfl 1 rfl ?_
            obtain ⟨f67, t66⟩ := h
            refine V.icmp_ne (pc := 61) (tgt := 68) hG ((hi55 _ _)) hx2j22 dX12_busyShare_61 (by decide) (fun c65 => ?_) (fun c65 => ?_)
            · have h := t66 c65
              clear t66 f67
              refine V.iconst (pc := 68) hG dX12_busyShare_68 ?_
              refine V.pick [0, 1, 2, 4] rfl ?_
              exact jn69 x5_42 x4_42 0 hx5_42 hx4_42 ((sR_l rfl)) h
            · have h := f67 c65
              clear t66 f67
              refine V.iconst (pc := 64) hG dX12_busyShare_64 ?_
              refine V.goto (pc := 65) (tgt := 69) hG dX12_busyShare_65 (by decide) ?_
              refine V.pick [0, 1, 2, 4] rfl ?_
              exact jn69 x5_42 x4_42 1 hx5_42 hx4_42 ((sR_l rfl)) h
      refine V.pick [3, 4, 2, 1, 0] rfl ?_
      exact lp42 n58 0 0 ((sR_l rfl)) ((sR_l rfl)) h
    · have h := f50 c48
      clear t49 f50
      refine V.fconst0 (pc := 29) hG dX12_busyShare_29 ?_
      exact fin dX12_busyShare_30 hi45 hw ⟨rfl, h⟩
  refine V.aload_n (pc := 0) hG dX12_busyShare_0 rfl 0 rfl ?_
  refine V.iconst (pc := 1) hG dX12_busyShare_1 ?_
  refine V.putI (pc := 2) (ci := 14) (k := 0) (M := 49) (T := TX12) (o := 504) (kz := 0) hG a_504 a_504.n (by decide) hin_X12 rfl (by decide) (by decide) rfl kw_1692 rfl tyX12 tyX12_ok nmX12 rfl (ty := tyX12 0) (tyX12_ok 0 (by decide)) rfl rfl dX12_busyShare_2 ?_
  refine V.ldcS (pc := 5) (k := 3) (tx := "amgMN<>") hG (by decide) dX12_busyShare_5 ?_
  refine V.iload_n (pc := 7) hG dX12_busyShare_7 rfl 1 rfl ?_
  refine V.callVSi (pc := 8) (As := [.int (sJ p1)]) (stk := []) hG (sm_J0_indexOf_0f7a4 l Δ (by decide) hp1 ((okI_st hi ((sR_l rfl)))) hw h) mY_J0_indexOf_0f7a4 kw_1852 kw_652 kw_653 (by decide) rfl ⟨Nat.le_of_ble_eq_true rfl, Nat.le_of_ble_eq_true rfl, Nat.le_of_ble_eq_true rfl, Nat.le_of_ble_eq_true rfl⟩ rfl (Nat.le_of_ble_eq_true rfl) dX12_busyShare_8 rfl (fun v72 i73 r74 hv75 hi76 hw77 hq78 => ?_)
  obtain ⟨e82, e83, h⟩ := hq78
  subst e82
  subst e83
  refine V.istore_n (pc := 11) (lv' := [(2, .int (sJ v72)), (0, .ref (sA Δ 504)), (1, .int (sJ p1))]) hG dX12_busyShare_11 rfl (by decide) rfl ?_
  refine V.aload_n (pc := 12) hG dX12_busyShare_12 rfl 1 rfl ?_
  refine V.iload_n (pc := 13) hG dX12_busyShare_13 rfl 0 rfl ?_
  obtain ⟨t80, f81⟩ := h
  refine V.if_ge (pc := 14) (tgt := 21) hG hv75 dX12_busyShare_14 (by decide) (fun c79 => ?_) (fun c79 => ?_)
  · have h := t80 c79
    clear t80 f81
    refine V.iconst (pc := 21) hG dX12_busyShare_21 ?_
    refine V.pick [1, 0] rfl ?_
    exact jn22 v72 0 (st i 504 0 0) hv75 ((sR_l rfl)) ((okI_st hi ((sR_l rfl)))) h
  · have h := f81 c79
    clear t80 f81
    refine V.iconst (pc := 17) hG dX12_busyShare_17 ?_
    refine V.goto (pc := 18) (tgt := 22) hG dX12_busyShare_18 (by decide) ?_
    refine V.pick [1, 0] rfl ?_
    exact jn22 v72 1 (st i 504 0 0) hv75 ((sR_l rfl)) ((okI_st hi ((sR_l rfl)))) h
set_option maxRecDepth 100000 in
set_option maxHeartbeats 4000000 in
theorem sm_X12_meanStep (l : Launch) (Δ : Wd) {i r : MI}   {Q : UInt64 → MI → Prop} (hi : okI i) (hw : Wf r) (h : wp_X12_meanStep  i r Q) : Met l yX12_meanStep (Cond.code yX12_meanStep cX12_meanStep 3 (some .double) :: gW) (sRm 6 140) (sPc Δ [.ref (sA Δ 504)] i r) (sQd Δ (fun x i' r' => r = r' ∧ Q x i')) 0 0 (sFr Δ) := by
  refine Ct.d (by decide) rfl (Nat.le_of_ble_eq_true rfl) (fun Γ Q0 hG fin => ?_)
  have hG : okG Γ Δ l (sRm 6 140) cX12_meanStep "SchedularyModel" 3 := hG
  show V Γ Δ 542 false i r 0 0 Q0 0 [(0, .ref (sA Δ 504))] []
  have jn68 : ∀ (k0j68 : UInt64) (ij68 : MI), okI ij68 → s68_X12_meanStep k0j68 ij68 r Q → V Γ Δ 542 false ij68 r 0 0 Q0 68 [] [.double k0j68] := by
    intro k0j68 ij68 hij68 h
    exact fin dX12_meanStep_68 hij68 hw ⟨rfl, h⟩
  have jn49 : ∀ (x1j49 : Int) (k1j49 : Int) (ij49 : MI), sR x1j49 → sR k1j49 → okI ij49 → s49_X12_meanStep x1j49 k1j49 ij49 r Q → V Γ Δ 542 false ij49 r 0 0 Q0 49 [(0, .ref (sA Δ 504)), (1, .int (sJ x1j49))] [.int (sJ k1j49), .ref (sA Δ 504)] := by
    intro x1j49 k1j49 ij49 hx1j49 hk1j49 hij49 h
    refine V.iconst (pc := 49) hG dX12_meanStep_49 ?_
    refine V.callVi (pc := 50) (As := [.int (sJ k1j49), .int (sJ 1)]) (stk := []) hG (sm_X12_fails l Δ hk1j49 ((sR_l rfl)) hij49 hw h) mY_X12_fails kw_1853 kw_1855 kw_106 a_504 (by decide) (q := (RX12, TX12, 49)) rfl rfl ⟨Nat.le_of_ble_eq_true rfl, Nat.le_of_ble_eq_true rfl, Nat.le_of_ble_eq_true rfl, Nat.le_of_ble_eq_true rfl⟩ rfl (Nat.le_of_ble_eq_true rfl) dX12_meanStep_50 rfl (fun v14 i15 r16 hv17 hi18 hw19 hq20 => ?_)
    obtain ⟨e26, h⟩ := hq20
    subst e26
    obtain ⟨t22, f23⟩ := h
    refine V.if_eq (pc := 53) (tgt := 60) hG hv17 dX12_meanStep_53 (by decide) (fun c21 => ?_) (fun c21 => ?_)
    · have h := t22 c21
      clear t22 f23
      refine V.iload_n (pc := 60) hG dX12_meanStep_60 rfl 1 rfl ?_
      refine V.i2d (pc := 61) hG dX12_meanStep_61 ?_
      refine V.aload_n (pc := 62) hG dX12_meanStep_62 rfl 0 rfl ?_
      refine V.getI (pc := 63) (ci := 14) (k := 21) (M := 49) (T := TX12) (o := 504) (kz := 21) hG a_504 a_504.n (by decide) hin_X12 rfl (by decide) (by decide) rfl kw_1713 rfl dX12_meanStep_63 ?_
      refine V.i2d (pc := 66) hG dX12_meanStep_66 ?_
      obtain ⟨g24, h⟩ := h
      refine V.ddiv (pc := 67) hG (ddiv_ok ((hi18 _ _)) g24) dX12_meanStep_67 ?_
      refine V.pick [] rfl ?_
      exact jn68 (FP.ddiv (FP.i2d (sJ x1j49)) (FP.i2d (sJ (i15 504 21)))) i15 hi18 h
    · have h := f23 c21
      clear t22 f23
      refine V.dconst0 (pc := 56) hG dX12_meanStep_56 ?_
      refine V.goto (pc := 57) (tgt := 68) hG dX12_meanStep_57 (by decide) ?_
      refine V.pick [] rfl ?_
      exact jn68 FP.dconst0 i15 hi18 h
  refine V.aload_n (pc := 0) hG dX12_meanStep_0 rfl 0 rfl ?_
  refine V.iconst (pc := 1) hG dX12_meanStep_1 ?_
  refine V.putI (pc := 2) (ci := 14) (k := 0) (M := 49) (T := TX12) (o := 504) (kz := 0) hG a_504 a_504.n (by decide) hin_X12 rfl (by decide) (by decide) rfl kw_1692 rfl tyX12 tyX12_ok nmX12 rfl (ty := tyX12 0) (tyX12_ok 0 (by decide)) rfl rfl dX12_meanStep_2 ?_
  refine V.aload_n (pc := 5) hG dX12_meanStep_5 rfl 0 rfl ?_
  refine V.callVv (pc := 6) (As := []) (stk := []) hG (sm_X12_list l Δ  ((okI_st hi ((sR_l rfl)))) hw h) mY_X12_list kw_2101 kw_2103 kw_138 a_504 (by decide) (q := (RX12, TX12, 49)) rfl rfl ⟨Nat.le_of_ble_eq_true rfl, Nat.le_of_ble_eq_true rfl, Nat.le_of_ble_eq_true rfl, Nat.le_of_ble_eq_true rfl⟩ rfl (Nat.le_of_ble_eq_true rfl) dX12_meanStep_6 rfl (fun i28 r29 hi31 hw32 hq33 => ?_)
  obtain ⟨e50, h⟩ := hq33
  subst e50
  refine V.iconst (pc := 9) hG dX12_meanStep_9 ?_
  refine V.istore_n (pc := 10) (lv' := [(1, .int (sJ 0)), (0, .ref (sA Δ 504))]) hG dX12_meanStep_10 rfl (by decide) rfl ?_
  refine V.iconst (pc := 11) hG dX12_meanStep_11 ?_
  refine V.istore_n (pc := 12) (lv' := [(2, .int (sJ 0)), (1, .int (sJ 0)), (0, .ref (sA Δ 504))]) hG dX12_meanStep_12 rfl (by decide) rfl ?_
  obtain ⟨n41, h⟩ := h
  have lp13 : ∀ (m13 : Nat) (x1_13 : Int) (x2_13 : Int), sR x1_13 → sR x2_13 → LoopP (b13_X12_meanStep i28 r Q) m13 (x1_13, x2_13) → V Γ Δ 542 false i28 r 0 0 Q0 13 [(0, .ref (sA Δ 504)), (1, .int (sJ x1_13)), (2, .int (sJ x2_13))] [] := by
    intro m13
    induction m13 with
    | zero => intro x1_13 x2_13 hx1_13 hx2_13 h; exact h.elim
    | succ m13 ih13 =>
      intro x1_13 x2_13 hx1_13 hx2_13 h
      have h := LoopP_succ h
      refine V.iload_n (pc := 13) hG dX12_meanStep_13 rfl 2 rfl ?_
      refine V.aload_n (pc := 14) hG dX12_meanStep_14 rfl 0 rfl ?_
      refine V.getI (pc := 15) (ci := 14) (k := 21) (M := 49) (T := TX12) (o := 504) (kz := 21) hG a_504 a_504.n (by decide) hin_X12 rfl (by decide) (by decide) rfl kw_1713 rfl dX12_meanStep_15 ?_
      obtain ⟨t43, f44⟩ := h
      refine V.icmp_ge (pc := 18) (tgt := 36) hG hx2_13 ((hi31 _ _)) dX12_meanStep_18 (by decide) (fun c42 => ?_) (fun c42 => ?_)
      · have h := t43 c42
        clear t43 f44
        refine V.aload_n (pc := 36) hG dX12_meanStep_36 rfl 0 rfl ?_
        refine V.aload_n (pc := 37) hG dX12_meanStep_37 rfl 0 rfl ?_
        refine V.getI (pc := 38) (ci := 14) (k := 21) (M := 49) (T := TX12) (o := 504) (kz := 21) hG a_504 a_504.n (by decide) hin_X12 rfl (by decide) (by decide) rfl kw_1713 rfl dX12_meanStep_38 ?_
        obtain ⟨f47, t46⟩ := h
        refine V.if_ne (pc := 41) (tgt := 48) hG ((hi31 _ _)) dX12_meanStep_41 (by decide) (fun c45 => ?_) (fun c45 => ?_)
        · have h := t46 c45
          clear t46 f47
          refine V.iconst (pc := 48) hG dX12_meanStep_48 ?_
          refine V.pick [0, 1] rfl ?_
          exact jn49 x1_13 0 i28 hx1_13 ((sR_l rfl)) hi31 h
        · have h := f47 c45
          clear t46 f47
          refine V.iconst (pc := 44) hG dX12_meanStep_44 ?_
          refine V.goto (pc := 45) (tgt := 49) hG dX12_meanStep_45 (by decide) ?_
          refine V.pick [0, 1] rfl ?_
          exact jn49 x1_13 1 i28 hx1_13 ((sR_l rfl)) hi31 h
      · have h := f44 c42
        clear t43 f44
        refine V.iload_n (pc := 21) hG dX12_meanStep_21 rfl 1 rfl ?_
        refine V.aload_n (pc := 22) hG dX12_meanStep_22 rfl 0 rfl ?_
        refine V.getR (x := 531) (pc := 23) (ci := 14) (k := 39) (M := 49) (T := TX12) (o := 504) (kz := 39) hG a_504 a_504.n (by decide) hin_X12 rfl (by decide) (by decide) rfl kw_1731 rfl ((hw).1 (504, 39, 531) (by decide)) (by decide) dX12_meanStep_23 ?_
        refine V.iload_n (pc := 26) hG dX12_meanStep_26 rfl 2 rfl ?_
        obtain ⟨g48, h⟩ := h
        refine V.iald (pc := 27) (z := 96) (o := 531) hG a_531 a_531.n hx2_13 g48 dX12_meanStep_27 ?_
        refine V.iadd (pc := 28) hG dX12_meanStep_28 ?_
        refine V.istore_n (pc := 29) (lv' := [(1, .int (sJ (wr (x1_13 + i28 531 x2_13)))), (0, .ref (sA Δ 504)), (2, .int (sJ x2_13))]) hG dX12_meanStep_29 rfl (by decide) rfl ?_
        refine V.iinc (pc := 30) (lv' := [(2, .int (sJ (wr (x2_13 + 1)))), (1, .int (sJ (wr (x1_13 + i28 531 x2_13)))), (0, .ref (sA Δ 504))]) hG dX12_meanStep_30 2 rfl (by decide) rfl ?_
        refine V.goto (pc := 33) (tgt := 13) hG dX12_meanStep_33 (by decide) ?_
        refine V.pick [2, 1, 0] rfl ?_
        exact ih13 (wr (x1_13 + i28 531 x2_13)) (wr (x2_13 + 1)) ((sR_wr _)) ((sR_wr _)) h
  refine V.pick [2, 1, 0] rfl ?_
  exact lp13 n41 0 0 ((sR_l rfl)) ((sR_l rfl)) h
set_option maxRecDepth 100000 in
set_option maxHeartbeats 4000000 in
theorem sm_X12_isSound (l : Launch) (Δ : Wd) {i r : MI}   {Q : Int → MI → Prop} (hi : okI i) (hw : Wf r) (h : wp_X12_isSound  i r Q) : Met l yX12_isSound (Cond.code yX12_isSound cX12_isSound 1 (some .boolean) :: gW) (sRm 0 0) (sPc Δ [.ref (sA Δ 504)] i r) (sQi Δ (fun x i' r' => r = r' ∧ Q x i')) 0 0 (sFr Δ) := by
  refine Ct.i (ty := .boolean) (by decide) rfl (Nat.le_of_ble_eq_true rfl) (fun Γ Q0 hG fin => ?_)
  have hG : okG Γ Δ l (sRm 0 0) cX12_isSound "SchedularyModel" 1 := hG
  show V Γ Δ 542 false i r 0 0 Q0 0 [(0, .ref (sA Δ 504))] []
  refine V.aload_n (pc := 0) hG dX12_isSound_0 rfl 0 rfl ?_
  refine V.iconst (pc := 1) hG dX12_isSound_1 ?_
  refine V.putI (pc := 2) (ci := 14) (k := 0) (M := 49) (T := TX12) (o := 504) (kz := 0) hG a_504 a_504.n (by decide) hin_X12 rfl (by decide) (by decide) rfl kw_1692 rfl tyX12 tyX12_ok nmX12 rfl (ty := tyX12 0) (tyX12_ok 0 (by decide)) rfl rfl dX12_isSound_2 ?_
  refine V.iconst (pc := 5) hG dX12_isSound_5 ?_
  exact fin dX12_isSound_6 ((sR_l rfl)) (nar_z (by decide)) ((okI_st hi ((sR_l rfl)))) hw ⟨rfl, h⟩
set_option maxRecDepth 100000 in
set_option maxHeartbeats 4000000 in
theorem sm_L_type (l : Launch) (Δ : Wd) {i r : MI} {p1 : Int} (hp1 : sR p1) {Q : Int → MI → Prop} (hst : l.stackTraces = false) (hi : okI i) (hw : Wf r) (h : wp_L_type p1 i r Q) : Met l yL_type (Cond.codeWith yL_type cL_type 4 (some .int) [(0, 9, 12, 13), (0, 9, 15, 15)] :: gW) (sRx 7 112 1 6) (sPc Δ [.ref (sA Δ 0), .int (sJ p1), .ref (sA Δ 540)] i r) (sQi Δ (fun x i' r' => r = r' ∧ Q x i')) 1 6 (sFr Δ) := by
  refine Cw.i (by decide) rfl (Nat.le_of_ble_eq_true rfl) (fun Γ Q0 hG hT fin => ?_)
  have hG : okG Γ Δ l (sRx 7 112 1 6) cL_type "SchedularyLaw" 4 := hG
  show V Γ Δ 542 false i r 0 0 Q0 0 [(0, .ref (sA Δ 0)), (1, .int (sJ p1)), (2, .ref (sA Δ 540))] []
  refine V.aload_n (pc := 0) hG dL_type_0 rfl 2 rfl ?_
  refine V.iconst (pc := 1) hG dL_type_1 ?_
  refine V.aload_n (pc := 2) hG dL_type_2 rfl 0 rfl ?_
  refine V.iload_n (pc := 3) hG dL_type_3 rfl 1 rfl ?_
  refine V.xcallVi (pc := 4) (As := [.int (sJ p1)]) (stk := [.int (sJ 0), .ref (sA Δ 540)]) hG (sm_X11_type l Δ hp1 hst hi hw h) mY_X11_type kw_1249 kw_1250 kw_1251 a_0 (by decide) (q := (RX11, TX11, 11)) rfl rfl ⟨Nat.le_of_ble_eq_true rfl, Nat.le_of_ble_eq_true rfl, Nat.le_of_ble_eq_true rfl, Nat.le_of_ble_eq_true rfl⟩ rfl (Nat.le_of_ble_eq_true rfl) dL_type_4 rfl (fun z8 z9 z10 z11 z12 z13 => ?_) (fun v1 i2 r3 hv4 hi5 hw6 hq7 => ?_)
  · obtain ⟨e14, h⟩ := z13
    subst e14
    rcases h with ⟨rfl, h⟩ | ⟨rfl, h⟩
    · refine V.catch (hh := [(0, 9, 12, 13), (0, 9, 15, 15)]) (pre := []) (x := (0, 9, 12, 13)) (suf := [(0, 9, 15, 15)]) (name := "java/lang/IllegalArgumentException") hG hT rfl (fun z hz => by cases hz) (by decide) (by decide) kw_1247 kw_1257 (fun q16 => ?_)
      refine V.astore_n (pc := 12) (lv' := [(3, .ref q16), (0, .ref (sA Δ 0)), (1, .int (sJ p1)), (2, .ref (sA Δ 540))]) hG dL_type_12 rfl (by decide) rfl ?_
      refine V.iconst (pc := 13) hG dL_type_13 ?_
      exact fin dL_type_14 ((sR_l rfl))  (by decide) (by decide) z11 hw ⟨rfl, h⟩
    · refine V.catch (hh := [(0, 9, 12, 13), (0, 9, 15, 15)]) (pre := [(0, 9, 12, 13)]) (x := (0, 9, 15, 15)) (suf := []) (name := "java/lang/IllegalStateException") hG hT rfl (fun z hz => by simp only [List.mem_cons, List.not_mem_nil, or_false] at hz; rcases hz with rfl; exact ⟨"java/lang/IllegalArgumentException", by decide, kw_1247, by decide⟩) (by decide) (by decide) kw_1248 kw_1328 (fun q17 => ?_)
      refine V.astore_n (pc := 15) (lv' := [(3, .ref q17), (0, .ref (sA Δ 0)), (1, .int (sJ p1)), (2, .ref (sA Δ 540))]) hG dL_type_15 rfl (by decide) rfl ?_
      refine V.iconst (pc := 16) hG dL_type_16 ?_
      exact fin dL_type_17 ((sR_l rfl))  (by decide) (by decide) z11 hw ⟨rfl, h⟩
  · obtain ⟨e19, h⟩ := hq7
    subst e19
    refine V.i2l (pc := 7) hG dL_type_7 ?_
    refine V.last0 (pc := 8) (o := 540) hG a_540 a_540.n (by decide) dL_type_8 ?_
    refine V.goto (pc := 9) (tgt := 18) hG dL_type_9 (by decide) ?_
    refine V.iconst (pc := 18) hG dL_type_18 ?_
    exact fin dL_type_19 ((sR_l rfl))  (by decide) (by decide) ((okI_st (okI_st hi5 (sR_jLo _)) (sR_jHi _))) hw ⟨rfl, h⟩
set_option maxRecDepth 100000 in
set_option maxHeartbeats 4000000 in
theorem sm_L_add (l : Launch) (Δ : Wd) {i r : MI}   {Q : Int → MI → MI → Prop} (hst : l.stackTraces = false) (hi : okI i) (hw : Wf r) (h : wp_L_add  i r Q) : Met l yL_add (Cond.codeWith yL_add cL_add 3 (some .int) [(0, 8, 11, 13), (0, 8, 14, 15)] :: gW) (sRx 8 179 1 6) (sPc Δ [.ref (sA Δ 0), .ref (sA Δ 540)] i r) (sQi Δ (Q)) 1 6 (sFr Δ) := by
  refine Cw.i (by decide) rfl (Nat.le_of_ble_eq_true rfl) (fun Γ Q0 hG hT fin => ?_)
  have hG : okG Γ Δ l (sRx 8 179 1 6) cL_add "SchedularyLaw" 3 := hG
  show V Γ Δ 542 false i r 0 0 Q0 0 [(0, .ref (sA Δ 0)), (1, .ref (sA Δ 540))] []
  refine V.aload_n (pc := 0) hG dL_add_0 rfl 1 rfl ?_
  refine V.iconst (pc := 1) hG dL_add_1 ?_
  refine V.aload_n (pc := 2) hG dL_add_2 rfl 0 rfl ?_
  refine V.xcallVi (pc := 3) (As := []) (stk := [.int (sJ 0), .ref (sA Δ 540)]) hG (sm_X11_add l Δ  hst hi hw h) mY_X11_add kw_1349 kw_1350 kw_1351 a_0 (by decide) (q := (RX11, TX11, 11)) rfl rfl ⟨Nat.le_of_ble_eq_true rfl, Nat.le_of_ble_eq_true rfl, Nat.le_of_ble_eq_true rfl, Nat.le_of_ble_eq_true rfl⟩ rfl (Nat.le_of_ble_eq_true rfl) dL_add_3 rfl (fun z8 z9 z10 z11 z12 z13 => ?_) (fun v1 i2 r3 hv4 hi5 hw6 hq7 => ?_)
  · have h := z13
    rcases h with ⟨rfl, h⟩ | ⟨rfl, h⟩
    · refine V.catch (hh := [(0, 8, 11, 13), (0, 8, 14, 15)]) (pre := []) (x := (0, 8, 11, 13)) (suf := [(0, 8, 14, 15)]) (name := "java/lang/IllegalArgumentException") hG hT rfl (fun z hz => by cases hz) (by decide) (by decide) kw_1247 kw_1257 (fun q16 => ?_)
      refine V.astore_n (pc := 11) (lv' := [(2, .ref q16), (0, .ref (sA Δ 0)), (1, .ref (sA Δ 540))]) hG dL_add_11 rfl (by decide) rfl ?_
      refine V.iconst (pc := 12) hG dL_add_12 ?_
      exact fin dL_add_13 ((sR_l rfl))  (by decide) (by decide) z11 z12 h
    · refine V.catch (hh := [(0, 8, 11, 13), (0, 8, 14, 15)]) (pre := [(0, 8, 11, 13)]) (x := (0, 8, 14, 15)) (suf := []) (name := "java/lang/IllegalStateException") hG hT rfl (fun z hz => by simp only [List.mem_cons, List.not_mem_nil, or_false] at hz; rcases hz with rfl; exact ⟨"java/lang/IllegalArgumentException", by decide, kw_1247, by decide⟩) (by decide) (by decide) kw_1248 kw_1328 (fun q17 => ?_)
      refine V.astore_n (pc := 14) (lv' := [(2, .ref q17), (0, .ref (sA Δ 0)), (1, .ref (sA Δ 540))]) hG dL_add_14 rfl (by decide) rfl ?_
      refine V.iconst (pc := 15) hG dL_add_15 ?_
      exact fin dL_add_16 ((sR_l rfl))  (by decide) (by decide) z11 z12 h
  · have h := hq7
    refine V.i2l (pc := 6) hG dL_add_6 ?_
    refine V.last0 (pc := 7) (o := 540) hG a_540 a_540.n (by decide) dL_add_7 ?_
    refine V.goto (pc := 8) (tgt := 17) hG dL_add_8 (by decide) ?_
    refine V.iconst (pc := 17) hG dL_add_17 ?_
    exact fin dL_add_18 ((sR_l rfl))  (by decide) (by decide) ((okI_st (okI_st hi5 (sR_jLo _)) (sR_jHi _))) hw6 h
set_option maxRecDepth 100000 in
set_option maxHeartbeats 4000000 in
theorem sm_L_replace (l : Launch) (Δ : Wd) {i r : MI} {p1 : Int} (hp1 : sR p1) {Q : Int → MI → MI → Prop} (hst : l.stackTraces = false) (hi : okI i) (hw : Wf r) (h : wp_L_replace p1 i r Q) : Met l yL_replace (Cond.codeWith yL_replace cL_replace 4 (some .int) [(0, 9, 12, 25), (0, 9, 15, 13)] :: gW) (sRx 8 179 1 6) (sPc Δ [.ref (sA Δ 0), .int (sJ p1), .ref (sA Δ 540)] i r) (sQi Δ (Q)) 1 6 (sFr Δ) := by
  refine Cw.i (by decide) rfl (Nat.le_of_ble_eq_true rfl) (fun Γ Q0 hG hT fin => ?_)
  have hG : okG Γ Δ l (sRx 8 179 1 6) cL_replace "SchedularyLaw" 4 := hG
  show V Γ Δ 542 false i r 0 0 Q0 0 [(0, .ref (sA Δ 0)), (1, .int (sJ p1)), (2, .ref (sA Δ 540))] []
  refine V.aload_n (pc := 0) hG dL_replace_0 rfl 2 rfl ?_
  refine V.iconst (pc := 1) hG dL_replace_1 ?_
  refine V.aload_n (pc := 2) hG dL_replace_2 rfl 0 rfl ?_
  refine V.iload_n (pc := 3) hG dL_replace_3 rfl 1 rfl ?_
  refine V.xcallVi (pc := 4) (As := [.int (sJ p1)]) (stk := [.int (sJ 0), .ref (sA Δ 540)]) hG (sm_X11_replace l Δ hp1 hst hi hw h) mY_X11_replace kw_1390 kw_1391 kw_1392 a_0 (by decide) (q := (RX11, TX11, 11)) rfl rfl ⟨Nat.le_of_ble_eq_true rfl, Nat.le_of_ble_eq_true rfl, Nat.le_of_ble_eq_true rfl, Nat.le_of_ble_eq_true rfl⟩ rfl (Nat.le_of_ble_eq_true rfl) dL_replace_4 rfl (fun z8 z9 z10 z11 z12 z13 => ?_) (fun v1 i2 r3 hv4 hi5 hw6 hq7 => ?_)
  · have h := z13
    rcases h with ⟨rfl, h⟩ | ⟨rfl, h⟩
    · refine V.catch (hh := [(0, 9, 12, 25), (0, 9, 15, 13)]) (pre := []) (x := (0, 9, 12, 25)) (suf := [(0, 9, 15, 13)]) (name := "java/lang/IndexOutOfBoundsException") hG hT rfl (fun z hz => by cases hz) (by decide) (by decide) kw_1366 kw_1396 (fun q16 => ?_)
      refine V.astore_n (pc := 12) (lv' := [(3, .ref q16), (0, .ref (sA Δ 0)), (1, .int (sJ p1)), (2, .ref (sA Δ 540))]) hG dL_replace_12 rfl (by decide) rfl ?_
      refine V.iconst (pc := 13) hG dL_replace_13 ?_
      exact fin dL_replace_14 ((sR_l rfl))  (by decide) (by decide) z11 z12 h
    · refine V.catch (hh := [(0, 9, 12, 25), (0, 9, 15, 13)]) (pre := [(0, 9, 12, 25)]) (x := (0, 9, 15, 13)) (suf := []) (name := "java/lang/IllegalArgumentException") hG hT rfl (fun z hz => by simp only [List.mem_cons, List.not_mem_nil, or_false] at hz; rcases hz with rfl; exact ⟨"java/lang/IndexOutOfBoundsException", by decide, kw_1366, by decide⟩) (by decide) (by decide) kw_1247 kw_1257 (fun q17 => ?_)
      refine V.astore_n (pc := 15) (lv' := [(3, .ref q17), (0, .ref (sA Δ 0)), (1, .int (sJ p1)), (2, .ref (sA Δ 540))]) hG dL_replace_15 rfl (by decide) rfl ?_
      refine V.iconst (pc := 16) hG dL_replace_16 ?_
      exact fin dL_replace_17 ((sR_l rfl))  (by decide) (by decide) z11 z12 h
  · have h := hq7
    refine V.i2l (pc := 7) hG dL_replace_7 ?_
    refine V.last0 (pc := 8) (o := 540) hG a_540 a_540.n (by decide) dL_replace_8 ?_
    refine V.goto (pc := 9) (tgt := 18) hG dL_replace_9 (by decide) ?_
    refine V.iconst (pc := 18) hG dL_replace_18 ?_
    exact fin dL_replace_19 ((sR_l rfl))  (by decide) (by decide) ((okI_st (okI_st hi5 (sR_jLo _)) (sR_jHi _))) hw6 h
set_option maxRecDepth 100000 in
set_option maxHeartbeats 4000000 in
theorem sm_L_setTurns (l : Launch) (Δ : Wd) {i r : MI} {p1 : Int} (hp1 : sR p1) {Q : Int → MI → Prop} (hst : l.stackTraces = false) (hi : okI i) (hw : Wf r) (h : wp_L_setTurns p1 i r Q) : Met l yL_setTurns (Cond.codeWith yL_setTurns cL_setTurns 4 (some .int) [(0, 9, 12, 13), (0, 9, 15, 30)] :: gW) (sRx 7 104 1 6) (sPc Δ [.ref (sA Δ 0), .int (sJ p1), .ref (sA Δ 540)] i r) (sQi Δ (fun x i' r' => r = r' ∧ Q x i')) 1 6 (sFr Δ) := by
  refine Cw.i (by decide) rfl (Nat.le_of_ble_eq_true rfl) (fun Γ Q0 hG hT fin => ?_)
  have hG : okG Γ Δ l (sRx 7 104 1 6) cL_setTurns "SchedularyLaw" 4 := hG
  show V Γ Δ 542 false i r 0 0 Q0 0 [(0, .ref (sA Δ 0)), (1, .int (sJ p1)), (2, .ref (sA Δ 540))] []
  refine V.aload_n (pc := 0) hG dL_setTurns_0 rfl 2 rfl ?_
  refine V.iconst (pc := 1) hG dL_setTurns_1 ?_
  refine V.aload_n (pc := 2) hG dL_setTurns_2 rfl 0 rfl ?_
  refine V.iload_n (pc := 3) hG dL_setTurns_3 rfl 1 rfl ?_
  refine V.xcallVi (pc := 4) (As := [.int (sJ p1)]) (stk := [.int (sJ 0), .ref (sA Δ 540)]) hG (sm_X11_setTurns l Δ hp1 hst hi hw h) mY_X11_setTurns kw_1411 kw_1412 kw_1413 a_0 (by decide) (q := (RX11, TX11, 11)) rfl rfl ⟨Nat.le_of_ble_eq_true rfl, Nat.le_of_ble_eq_true rfl, Nat.le_of_ble_eq_true rfl, Nat.le_of_ble_eq_true rfl⟩ rfl (Nat.le_of_ble_eq_true rfl) dL_setTurns_4 rfl (fun z8 z9 z10 z11 z12 z13 => ?_) (fun v1 i2 r3 hv4 hi5 hw6 hq7 => ?_)
  · obtain ⟨e14, h⟩ := z13
    subst e14
    rcases h with ⟨rfl, h⟩ | ⟨rfl, h⟩
    · refine V.catch (hh := [(0, 9, 12, 13), (0, 9, 15, 30)]) (pre := []) (x := (0, 9, 12, 13)) (suf := [(0, 9, 15, 30)]) (name := "java/lang/IllegalArgumentException") hG hT rfl (fun z hz => by cases hz) (by decide) (by decide) kw_1247 kw_1257 (fun q16 => ?_)
      refine V.astore_n (pc := 12) (lv' := [(3, .ref q16), (0, .ref (sA Δ 0)), (1, .int (sJ p1)), (2, .ref (sA Δ 540))]) hG dL_setTurns_12 rfl (by decide) rfl ?_
      refine V.iconst (pc := 13) hG dL_setTurns_13 ?_
      exact fin dL_setTurns_14 ((sR_l rfl))  (by decide) (by decide) z11 hw ⟨rfl, h⟩
    · refine V.catch (hh := [(0, 9, 12, 13), (0, 9, 15, 30)]) (pre := [(0, 9, 12, 13)]) (x := (0, 9, 15, 30)) (suf := []) (name := "java/lang/UnsupportedOperationException") hG hT rfl (fun z hz => by simp only [List.mem_cons, List.not_mem_nil, or_false] at hz; rcases hz with rfl; exact ⟨"java/lang/IllegalArgumentException", by decide, kw_1247, by decide⟩) (by decide) (by decide) kw_1410 kw_1420 (fun q17 => ?_)
      refine V.astore_n (pc := 15) (lv' := [(3, .ref q17), (0, .ref (sA Δ 0)), (1, .int (sJ p1)), (2, .ref (sA Δ 540))]) hG dL_setTurns_15 rfl (by decide) rfl ?_
      refine V.iconst (pc := 16) hG dL_setTurns_16 ?_
      exact fin dL_setTurns_17 ((sR_l rfl))  (by decide) (by decide) z11 hw ⟨rfl, h⟩
  · obtain ⟨e19, h⟩ := hq7
    subst e19
    refine V.i2l (pc := 7) hG dL_setTurns_7 ?_
    refine V.last0 (pc := 8) (o := 540) hG a_540 a_540.n (by decide) dL_setTurns_8 ?_
    refine V.goto (pc := 9) (tgt := 18) hG dL_setTurns_9 (by decide) ?_
    refine V.iconst (pc := 18) hG dL_setTurns_18 ?_
    exact fin dL_setTurns_19 ((sR_l rfl))  (by decide) (by decide) ((okI_st (okI_st hi5 (sR_jLo _)) (sR_jHi _))) hw ⟨rfl, h⟩
set_option maxRecDepth 100000 in
set_option maxHeartbeats 4000000 in
theorem sm_L_setBits (l : Launch) (Δ : Wd) {i r : MI} {p1 : Int} (hp1 : sR p1) {Q : Int → MI → Prop} (hst : l.stackTraces = false) (hi : okI i) (hw : Wf r) (h : wp_L_setBits p1 i r Q) : Met l yL_setBits (Cond.codeWith yL_setBits cL_setBits 4 (some .int) [(0, 9, 12, 13)] :: gW) (sRx 7 104 1 6) (sPc Δ [.ref (sA Δ 0), .int (sJ p1), .ref (sA Δ 540)] i r) (sQi Δ (fun x i' r' => r = r' ∧ Q x i')) 1 6 (sFr Δ) := by
  refine Cw.i (by decide) rfl (Nat.le_of_ble_eq_true rfl) (fun Γ Q0 hG hT fin => ?_)
  have hG : okG Γ Δ l (sRx 7 104 1 6) cL_setBits "SchedularyLaw" 4 := hG
  show V Γ Δ 542 false i r 0 0 Q0 0 [(0, .ref (sA Δ 0)), (1, .int (sJ p1)), (2, .ref (sA Δ 540))] []
  refine V.aload_n (pc := 0) hG dL_setBits_0 rfl 2 rfl ?_
  refine V.iconst (pc := 1) hG dL_setBits_1 ?_
  refine V.aload_n (pc := 2) hG dL_setBits_2 rfl 0 rfl ?_
  refine V.iload_n (pc := 3) hG dL_setBits_3 rfl 1 rfl ?_
  refine V.xcallVi (pc := 4) (As := [.int (sJ p1)]) (stk := [.int (sJ 0), .ref (sA Δ 540)]) hG (sm_X11_setBits l Δ hp1 hst hi hw h) mY_X11_setBits kw_1442 kw_1443 kw_1444 a_0 (by decide) (q := (RX11, TX11, 11)) rfl rfl ⟨Nat.le_of_ble_eq_true rfl, Nat.le_of_ble_eq_true rfl, Nat.le_of_ble_eq_true rfl, Nat.le_of_ble_eq_true rfl⟩ rfl (Nat.le_of_ble_eq_true rfl) dL_setBits_4 rfl (fun z8 z9 z10 z11 z12 z13 => ?_) (fun v1 i2 r3 hv4 hi5 hw6 hq7 => ?_)
  · obtain ⟨e14, h⟩ := z13
    subst e14
    rcases h with ⟨rfl, h⟩
    refine V.catch (hh := [(0, 9, 12, 13)]) (pre := []) (x := (0, 9, 12, 13)) (suf := []) (name := "java/lang/IllegalArgumentException") hG hT rfl (fun z hz => by cases hz) (by decide) (by decide) kw_1247 kw_1257 (fun q16 => ?_)
    refine V.astore_n (pc := 12) (lv' := [(3, .ref q16), (0, .ref (sA Δ 0)), (1, .int (sJ p1)), (2, .ref (sA Δ 540))]) hG dL_setBits_12 rfl (by decide) rfl ?_
    refine V.iconst (pc := 13) hG dL_setBits_13 ?_
    exact fin dL_setBits_14 ((sR_l rfl))  (by decide) (by decide) z11 hw ⟨rfl, h⟩
  · obtain ⟨e18, h⟩ := hq7
    subst e18
    refine V.i2l (pc := 7) hG dL_setBits_7 ?_
    refine V.last0 (pc := 8) (o := 540) hG a_540 a_540.n (by decide) dL_setBits_8 ?_
    refine V.goto (pc := 9) (tgt := 15) hG dL_setBits_9 (by decide) ?_
    refine V.iconst (pc := 15) hG dL_setBits_15 ?_
    exact fin dL_setBits_16 ((sR_l rfl))  (by decide) (by decide) ((okI_st (okI_st hi5 (sR_jLo _)) (sR_jHi _))) hw ⟨rfl, h⟩
set_option maxRecDepth 100000 in
set_option maxHeartbeats 4000000 in
theorem sm_L_unroll (l : Launch) (Δ : Wd) {i r : MI} {p1 : Int} (hp1 : sR p1) {Q : Int → MI → MI → Prop} (hst : l.stackTraces = false) (hi : okI i) (hw : Wf r) (h : wp_L_unroll p1 i r Q) : Met l yL_unroll (Cond.codeWith yL_unroll cL_unroll 4 (some .int) [(0, 9, 12, 13), (0, 9, 15, 30), (0, 9, 18, 15)] :: gW) (sRx 7 166 1 6) (sPc Δ [.ref (sA Δ 0), .int (sJ p1), .ref (sA Δ 540)] i r) (sQi Δ (Q)) 1 6 (sFr Δ) := by
  refine Cw.i (by decide) rfl (Nat.le_of_ble_eq_true rfl) (fun Γ Q0 hG hT fin => ?_)
  have hG : okG Γ Δ l (sRx 7 166 1 6) cL_unroll "SchedularyLaw" 4 := hG
  show V Γ Δ 542 false i r 0 0 Q0 0 [(0, .ref (sA Δ 0)), (1, .int (sJ p1)), (2, .ref (sA Δ 540))] []
  refine V.aload_n (pc := 0) hG dL_unroll_0 rfl 2 rfl ?_
  refine V.iconst (pc := 1) hG dL_unroll_1 ?_
  refine V.aload_n (pc := 2) hG dL_unroll_2 rfl 0 rfl ?_
  refine V.iload_n (pc := 3) hG dL_unroll_3 rfl 1 rfl ?_
  refine V.xcallVi (pc := 4) (As := [.int (sJ p1)]) (stk := [.int (sJ 0), .ref (sA Δ 540)]) hG (sm_X11_unroll l Δ hp1 hst hi hw h) mY_X11_unroll kw_1450 kw_1451 kw_1452 a_0 (by decide) (q := (RX11, TX11, 11)) rfl rfl ⟨Nat.le_of_ble_eq_true rfl, Nat.le_of_ble_eq_true rfl, Nat.le_of_ble_eq_true rfl, Nat.le_of_ble_eq_true rfl⟩ rfl (Nat.le_of_ble_eq_true rfl) dL_unroll_4 rfl (fun z8 z9 z10 z11 z12 z13 => ?_) (fun v1 i2 r3 hv4 hi5 hw6 hq7 => ?_)
  · have h := z13
    rcases h with ⟨rfl, h⟩ | ⟨rfl, h⟩ | ⟨rfl, h⟩
    · refine V.catch (hh := [(0, 9, 12, 13), (0, 9, 15, 30), (0, 9, 18, 15)]) (pre := []) (x := (0, 9, 12, 13)) (suf := [(0, 9, 15, 30), (0, 9, 18, 15)]) (name := "java/lang/IllegalArgumentException") hG hT rfl (fun z hz => by cases hz) (by decide) (by decide) kw_1247 kw_1257 (fun q16 => ?_)
      refine V.astore_n (pc := 12) (lv' := [(3, .ref q16), (0, .ref (sA Δ 0)), (1, .int (sJ p1)), (2, .ref (sA Δ 540))]) hG dL_unroll_12 rfl (by decide) rfl ?_
      refine V.iconst (pc := 13) hG dL_unroll_13 ?_
      exact fin dL_unroll_14 ((sR_l rfl))  (by decide) (by decide) z11 z12 h
    · refine V.catch (hh := [(0, 9, 12, 13), (0, 9, 15, 30), (0, 9, 18, 15)]) (pre := [(0, 9, 12, 13)]) (x := (0, 9, 15, 30)) (suf := [(0, 9, 18, 15)]) (name := "java/lang/UnsupportedOperationException") hG hT rfl (fun z hz => by simp only [List.mem_cons, List.not_mem_nil, or_false] at hz; rcases hz with rfl; exact ⟨"java/lang/IllegalArgumentException", by decide, kw_1247, by decide⟩) (by decide) (by decide) kw_1410 kw_1420 (fun q17 => ?_)
      refine V.astore_n (pc := 15) (lv' := [(3, .ref q17), (0, .ref (sA Δ 0)), (1, .int (sJ p1)), (2, .ref (sA Δ 540))]) hG dL_unroll_15 rfl (by decide) rfl ?_
      refine V.iconst (pc := 16) hG dL_unroll_16 ?_
      exact fin dL_unroll_17 ((sR_l rfl))  (by decide) (by decide) z11 z12 h
    · refine V.catch (hh := [(0, 9, 12, 13), (0, 9, 15, 30), (0, 9, 18, 15)]) (pre := [(0, 9, 12, 13), (0, 9, 15, 30)]) (x := (0, 9, 18, 15)) (suf := []) (name := "java/lang/IllegalStateException") hG hT rfl (fun z hz => by simp only [List.mem_cons, List.not_mem_nil, or_false] at hz; rcases hz with rfl | rfl; exact ⟨"java/lang/IllegalArgumentException", by decide, kw_1247, by decide⟩; exact ⟨"java/lang/UnsupportedOperationException", by decide, kw_1410, by decide⟩) (by decide) (by decide) kw_1248 kw_1328 (fun q18 => ?_)
      refine V.astore_n (pc := 18) (lv' := [(3, .ref q18), (0, .ref (sA Δ 0)), (1, .int (sJ p1)), (2, .ref (sA Δ 540))]) hG dL_unroll_18 rfl (by decide) rfl ?_
      refine V.iconst (pc := 19) hG dL_unroll_19 ?_
      exact fin dL_unroll_20 ((sR_l rfl))  (by decide) (by decide) z11 z12 h
  · have h := hq7
    refine V.i2l (pc := 7) hG dL_unroll_7 ?_
    refine V.last0 (pc := 8) (o := 540) hG a_540 a_540.n (by decide) dL_unroll_8 ?_
    refine V.goto (pc := 9) (tgt := 21) hG dL_unroll_9 (by decide) ?_
    refine V.iconst (pc := 21) hG dL_unroll_21 ?_
    exact fin dL_unroll_22 ((sR_l rfl))  (by decide) (by decide) ((okI_st (okI_st hi5 (sR_jLo _)) (sR_jHi _))) hw6 h
set_option maxRecDepth 100000 in
set_option maxHeartbeats 4000000 in
theorem sm_L_input (l : Launch) (Δ : Wd) {i r : MI} {p1 : Int} (hp1 : sR p1) {Q : Int → MI → Prop} (hst : l.stackTraces = false) (hi : okI i) (hw : Wf r) (h : wp_L_input p1 i r Q) : Met l yL_input (Cond.codeWith yL_input cL_input 4 (some .int) [(0, 9, 12, 13), (0, 9, 15, 15)] :: gW) (sRx 7 103 1 6) (sPc Δ [.ref (sA Δ 0), .int (sJ p1), .ref (sA Δ 540)] i r) (sQi Δ (fun x i' r' => r = r' ∧ Q x i')) 1 6 (sFr Δ) := by
  refine Cw.i (by decide) rfl (Nat.le_of_ble_eq_true rfl) (fun Γ Q0 hG hT fin => ?_)
  have hG : okG Γ Δ l (sRx 7 103 1 6) cL_input "SchedularyLaw" 4 := hG
  show V Γ Δ 542 false i r 0 0 Q0 0 [(0, .ref (sA Δ 0)), (1, .int (sJ p1)), (2, .ref (sA Δ 540))] []
  refine V.aload_n (pc := 0) hG dL_input_0 rfl 2 rfl ?_
  refine V.iconst (pc := 1) hG dL_input_1 ?_
  refine V.aload_n (pc := 2) hG dL_input_2 rfl 0 rfl ?_
  refine V.iload_n (pc := 3) hG dL_input_3 rfl 1 rfl ?_
  refine V.xcallVi (pc := 4) (As := [.int (sJ p1)]) (stk := [.int (sJ 0), .ref (sA Δ 540)]) hG (sm_X11_input l Δ hp1 hst hi hw h) mY_X11_input kw_1459 kw_1460 kw_1461 a_0 (by decide) (q := (RX11, TX11, 11)) rfl rfl ⟨Nat.le_of_ble_eq_true rfl, Nat.le_of_ble_eq_true rfl, Nat.le_of_ble_eq_true rfl, Nat.le_of_ble_eq_true rfl⟩ rfl (Nat.le_of_ble_eq_true rfl) dL_input_4 rfl (fun z8 z9 z10 z11 z12 z13 => ?_) (fun v1 i2 r3 hv4 hi5 hw6 hq7 => ?_)
  · obtain ⟨e14, h⟩ := z13
    subst e14
    rcases h with ⟨rfl, h⟩ | ⟨rfl, h⟩
    · refine V.catch (hh := [(0, 9, 12, 13), (0, 9, 15, 15)]) (pre := []) (x := (0, 9, 12, 13)) (suf := [(0, 9, 15, 15)]) (name := "java/lang/IllegalArgumentException") hG hT rfl (fun z hz => by cases hz) (by decide) (by decide) kw_1247 kw_1257 (fun q16 => ?_)
      refine V.astore_n (pc := 12) (lv' := [(3, .ref q16), (0, .ref (sA Δ 0)), (1, .int (sJ p1)), (2, .ref (sA Δ 540))]) hG dL_input_12 rfl (by decide) rfl ?_
      refine V.iconst (pc := 13) hG dL_input_13 ?_
      exact fin dL_input_14 ((sR_l rfl))  (by decide) (by decide) z11 hw ⟨rfl, h⟩
    · refine V.catch (hh := [(0, 9, 12, 13), (0, 9, 15, 15)]) (pre := [(0, 9, 12, 13)]) (x := (0, 9, 15, 15)) (suf := []) (name := "java/lang/IllegalStateException") hG hT rfl (fun z hz => by simp only [List.mem_cons, List.not_mem_nil, or_false] at hz; rcases hz with rfl; exact ⟨"java/lang/IllegalArgumentException", by decide, kw_1247, by decide⟩) (by decide) (by decide) kw_1248 kw_1328 (fun q17 => ?_)
      refine V.astore_n (pc := 15) (lv' := [(3, .ref q17), (0, .ref (sA Δ 0)), (1, .int (sJ p1)), (2, .ref (sA Δ 540))]) hG dL_input_15 rfl (by decide) rfl ?_
      refine V.iconst (pc := 16) hG dL_input_16 ?_
      exact fin dL_input_17 ((sR_l rfl))  (by decide) (by decide) z11 hw ⟨rfl, h⟩
  · obtain ⟨e19, h⟩ := hq7
    subst e19
    refine V.i2l (pc := 7) hG dL_input_7 ?_
    refine V.last0 (pc := 8) (o := 540) hG a_540 a_540.n (by decide) dL_input_8 ?_
    refine V.goto (pc := 9) (tgt := 18) hG dL_input_9 (by decide) ?_
    refine V.iconst (pc := 18) hG dL_input_18 ?_
    exact fin dL_input_19 ((sR_l rfl))  (by decide) (by decide) ((okI_st (okI_st hi5 (sR_jLo _)) (sR_jHi _))) hw ⟨rfl, h⟩
set_option maxRecDepth 100000 in
set_option maxHeartbeats 4000000 in
theorem sm_L_setMemory (l : Launch) (Δ : Wd) {i r : MI} {p1 : Int} {p2 : Int} {p3 : Int} (hp1 : sR p1) (hp2 : sR p2) (hp3 : sR p3) {Q : Int → MI → Prop} (hst : l.stackTraces = false) (hi : okI i) (hw : Wf r) (h : wp_L_setMemory p1 p2 p3 i r Q) : Met l yL_setMemory (Cond.codeWith yL_setMemory cL_setMemory 6 (some .int) [(0, 12, 15, 13)] :: gW) (sRx 7 137 1 6) (sPc Δ [.ref (sA Δ 0), .int (sJ p1), .int (sJ p2), .int (sJ p3), .ref (sA Δ 540)] i r) (sQi Δ (fun x i' r' => r = r' ∧ Q x i')) 1 6 (sFr Δ) := by
  refine Cw.i (by decide) rfl (Nat.le_of_ble_eq_true rfl) (fun Γ Q0 hG hT fin => ?_)
  have hG : okG Γ Δ l (sRx 7 137 1 6) cL_setMemory "SchedularyLaw" 6 := hG
  show V Γ Δ 542 false i r 0 0 Q0 0 [(0, .ref (sA Δ 0)), (1, .int (sJ p1)), (2, .int (sJ p2)), (3, .int (sJ p3)), (4, .ref (sA Δ 540))] []
  refine V.aload (pc := 0) hG dL_setMemory_0 4 rfl ?_
  refine V.iconst (pc := 2) hG dL_setMemory_2 ?_
  refine V.aload_n (pc := 3) hG dL_setMemory_3 rfl 0 rfl ?_
  refine V.iload_n (pc := 4) hG dL_setMemory_4 rfl 1 rfl ?_
  refine V.iload_n (pc := 5) hG dL_setMemory_5 rfl 2 rfl ?_
  refine V.iload_n (pc := 6) hG dL_setMemory_6 rfl 3 rfl ?_
  refine V.xcallVi (pc := 7) (As := [.int (sJ p1), .int (sJ p2), .int (sJ p3)]) (stk := [.int (sJ 0), .ref (sA Δ 540)]) hG (sm_X11_setMemory l Δ hp1 hp2 hp3 hst hi hw h) mY_X11_setMemory kw_1469 kw_1470 kw_1471 a_0 (by decide) (q := (RX11, TX11, 11)) rfl rfl ⟨Nat.le_of_ble_eq_true rfl, Nat.le_of_ble_eq_true rfl, Nat.le_of_ble_eq_true rfl, Nat.le_of_ble_eq_true rfl⟩ rfl (Nat.le_of_ble_eq_true rfl) dL_setMemory_7 rfl (fun z8 z9 z10 z11 z12 z13 => ?_) (fun v1 i2 r3 hv4 hi5 hw6 hq7 => ?_)
  · obtain ⟨e14, h⟩ := z13
    subst e14
    rcases h with ⟨rfl, h⟩
    refine V.catch (hh := [(0, 12, 15, 13)]) (pre := []) (x := (0, 12, 15, 13)) (suf := []) (name := "java/lang/IllegalArgumentException") hG hT rfl (fun z hz => by cases hz) (by decide) (by decide) kw_1247 kw_1257 (fun q16 => ?_)
    refine V.astore (pc := 15) (lv' := [(5, .ref q16), (0, .ref (sA Δ 0)), (1, .int (sJ p1)), (2, .int (sJ p2)), (3, .int (sJ p3)), (4, .ref (sA Δ 540))]) hG dL_setMemory_15 (by decide) rfl ?_
    refine V.iconst (pc := 17) hG dL_setMemory_17 ?_
    exact fin dL_setMemory_18 ((sR_l rfl))  (by decide) (by decide) z11 hw ⟨rfl, h⟩
  · obtain ⟨e18, h⟩ := hq7
    subst e18
    refine V.i2l (pc := 10) hG dL_setMemory_10 ?_
    refine V.last0 (pc := 11) (o := 540) hG a_540 a_540.n (by decide) dL_setMemory_11 ?_
    refine V.goto (pc := 12) (tgt := 19) hG dL_setMemory_12 (by decide) ?_
    refine V.iconst (pc := 19) hG dL_setMemory_19 ?_
    exact fin dL_setMemory_20 ((sR_l rfl))  (by decide) (by decide) ((okI_st (okI_st hi5 (sR_jLo _)) (sR_jHi _))) hw ⟨rfl, h⟩
set_option maxRecDepth 100000 in
set_option maxHeartbeats 4000000 in
theorem sm_L_setUnits (l : Launch) (Δ : Wd) {i r : MI} {p1 : Int} {p2 : Int} (hp1 : sR p1) (hp2 : sR p2) {Q : Int → MI → Prop} (hst : l.stackTraces = false) (hi : okI i) (hw : Wf r) (h : wp_L_setUnits p1 p2 i r Q) : Met l yL_setUnits (Cond.codeWith yL_setUnits cL_setUnits 5 (some .int) [(0, 10, 13, 13), (0, 10, 17, 30)] :: gW) (sRx 7 115 1 6) (sPc Δ [.ref (sA Δ 0), .int (sJ p1), .int (sJ p2), .ref (sA Δ 540)] i r) (sQi Δ (fun x i' r' => r = r' ∧ Q x i')) 1 6 (sFr Δ) := by
  refine Cw.i (by decide) rfl (Nat.le_of_ble_eq_true rfl) (fun Γ Q0 hG hT fin => ?_)
  have hG : okG Γ Δ l (sRx 7 115 1 6) cL_setUnits "SchedularyLaw" 5 := hG
  show V Γ Δ 542 false i r 0 0 Q0 0 [(0, .ref (sA Δ 0)), (1, .int (sJ p1)), (2, .int (sJ p2)), (3, .ref (sA Δ 540))] []
  refine V.aload_n (pc := 0) hG dL_setUnits_0 rfl 3 rfl ?_
  refine V.iconst (pc := 1) hG dL_setUnits_1 ?_
  refine V.aload_n (pc := 2) hG dL_setUnits_2 rfl 0 rfl ?_
  refine V.iload_n (pc := 3) hG dL_setUnits_3 rfl 1 rfl ?_
  refine V.iload_n (pc := 4) hG dL_setUnits_4 rfl 2 rfl ?_
  refine V.xcallVi (pc := 5) (As := [.int (sJ p1), .int (sJ p2)]) (stk := [.int (sJ 0), .ref (sA Δ 540)]) hG (sm_X11_setUnits l Δ hp1 hp2 hst hi hw h) mY_X11_setUnits kw_1481 kw_1482 kw_1483 a_0 (by decide) (q := (RX11, TX11, 11)) rfl rfl ⟨Nat.le_of_ble_eq_true rfl, Nat.le_of_ble_eq_true rfl, Nat.le_of_ble_eq_true rfl, Nat.le_of_ble_eq_true rfl⟩ rfl (Nat.le_of_ble_eq_true rfl) dL_setUnits_5 rfl (fun z8 z9 z10 z11 z12 z13 => ?_) (fun v1 i2 r3 hv4 hi5 hw6 hq7 => ?_)
  · obtain ⟨e14, h⟩ := z13
    subst e14
    rcases h with ⟨rfl, h⟩ | ⟨rfl, h⟩
    · refine V.catch (hh := [(0, 10, 13, 13), (0, 10, 17, 30)]) (pre := []) (x := (0, 10, 13, 13)) (suf := [(0, 10, 17, 30)]) (name := "java/lang/IllegalArgumentException") hG hT rfl (fun z hz => by cases hz) (by decide) (by decide) kw_1247 kw_1257 (fun q16 => ?_)
      refine V.astore (pc := 13) (lv' := [(4, .ref q16), (0, .ref (sA Δ 0)), (1, .int (sJ p1)), (2, .int (sJ p2)), (3, .ref (sA Δ 540))]) hG dL_setUnits_13 (by decide) rfl ?_
      refine V.iconst (pc := 15) hG dL_setUnits_15 ?_
      exact fin dL_setUnits_16 ((sR_l rfl))  (by decide) (by decide) z11 hw ⟨rfl, h⟩
    · refine V.catch (hh := [(0, 10, 13, 13), (0, 10, 17, 30)]) (pre := [(0, 10, 13, 13)]) (x := (0, 10, 17, 30)) (suf := []) (name := "java/lang/UnsupportedOperationException") hG hT rfl (fun z hz => by simp only [List.mem_cons, List.not_mem_nil, or_false] at hz; rcases hz with rfl; exact ⟨"java/lang/IllegalArgumentException", by decide, kw_1247, by decide⟩) (by decide) (by decide) kw_1410 kw_1420 (fun q17 => ?_)
      refine V.astore (pc := 17) (lv' := [(4, .ref q17), (0, .ref (sA Δ 0)), (1, .int (sJ p1)), (2, .int (sJ p2)), (3, .ref (sA Δ 540))]) hG dL_setUnits_17 (by decide) rfl ?_
      refine V.iconst (pc := 19) hG dL_setUnits_19 ?_
      exact fin dL_setUnits_20 ((sR_l rfl))  (by decide) (by decide) z11 hw ⟨rfl, h⟩
  · obtain ⟨e19, h⟩ := hq7
    subst e19
    refine V.i2l (pc := 8) hG dL_setUnits_8 ?_
    refine V.last0 (pc := 9) (o := 540) hG a_540 a_540.n (by decide) dL_setUnits_9 ?_
    refine V.goto (pc := 10) (tgt := 21) hG dL_setUnits_10 (by decide) ?_
    refine V.iconst (pc := 21) hG dL_setUnits_21 ?_
    exact fin dL_setUnits_22 ((sR_l rfl))  (by decide) (by decide) ((okI_st (okI_st hi5 (sR_jLo _)) (sR_jHi _))) hw ⟨rfl, h⟩
set_option maxRecDepth 100000 in
set_option maxHeartbeats 4000000 in
theorem sm_L_setCycles (l : Launch) (Δ : Wd) {i r : MI} {p1 : Int} {p2 : Int} (hp1 : sR p1) (hp2 : sR p2) {Q : Int → MI → Prop} (hst : l.stackTraces = false) (hi : okI i) (hw : Wf r) (h : wp_L_setCycles p1 p2 i r Q) : Met l yL_setCycles (Cond.codeWith yL_setCycles cL_setCycles 5 (some .int) [(0, 10, 13, 13)] :: gW) (sRx 7 115 1 6) (sPc Δ [.ref (sA Δ 0), .int (sJ p1), .int (sJ p2), .ref (sA Δ 540)] i r) (sQi Δ (fun x i' r' => r = r' ∧ Q x i')) 1 6 (sFr Δ) := by
  refine Cw.i (by decide) rfl (Nat.le_of_ble_eq_true rfl) (fun Γ Q0 hG hT fin => ?_)
  have hG : okG Γ Δ l (sRx 7 115 1 6) cL_setCycles "SchedularyLaw" 5 := hG
  show V Γ Δ 542 false i r 0 0 Q0 0 [(0, .ref (sA Δ 0)), (1, .int (sJ p1)), (2, .int (sJ p2)), (3, .ref (sA Δ 540))] []
  refine V.aload_n (pc := 0) hG dL_setCycles_0 rfl 3 rfl ?_
  refine V.iconst (pc := 1) hG dL_setCycles_1 ?_
  refine V.aload_n (pc := 2) hG dL_setCycles_2 rfl 0 rfl ?_
  refine V.iload_n (pc := 3) hG dL_setCycles_3 rfl 1 rfl ?_
  refine V.iload_n (pc := 4) hG dL_setCycles_4 rfl 2 rfl ?_
  refine V.xcallVi (pc := 5) (As := [.int (sJ p1), .int (sJ p2)]) (stk := [.int (sJ 0), .ref (sA Δ 540)]) hG (sm_X11_setCycles l Δ hp1 hp2 hst hi hw h) mY_X11_setCycles kw_1491 kw_1492 kw_1493 a_0 (by decide) (q := (RX11, TX11, 11)) rfl rfl ⟨Nat.le_of_ble_eq_true rfl, Nat.le_of_ble_eq_true rfl, Nat.le_of_ble_eq_true rfl, Nat.le_of_ble_eq_true rfl⟩ rfl (Nat.le_of_ble_eq_true rfl) dL_setCycles_5 rfl (fun z8 z9 z10 z11 z12 z13 => ?_) (fun v1 i2 r3 hv4 hi5 hw6 hq7 => ?_)
  · obtain ⟨e14, h⟩ := z13
    subst e14
    rcases h with ⟨rfl, h⟩
    refine V.catch (hh := [(0, 10, 13, 13)]) (pre := []) (x := (0, 10, 13, 13)) (suf := []) (name := "java/lang/IllegalArgumentException") hG hT rfl (fun z hz => by cases hz) (by decide) (by decide) kw_1247 kw_1257 (fun q16 => ?_)
    refine V.astore (pc := 13) (lv' := [(4, .ref q16), (0, .ref (sA Δ 0)), (1, .int (sJ p1)), (2, .int (sJ p2)), (3, .ref (sA Δ 540))]) hG dL_setCycles_13 (by decide) rfl ?_
    refine V.iconst (pc := 15) hG dL_setCycles_15 ?_
    exact fin dL_setCycles_16 ((sR_l rfl))  (by decide) (by decide) z11 hw ⟨rfl, h⟩
  · obtain ⟨e18, h⟩ := hq7
    subst e18
    refine V.i2l (pc := 8) hG dL_setCycles_8 ?_
    refine V.last0 (pc := 9) (o := 540) hG a_540 a_540.n (by decide) dL_setCycles_9 ?_
    refine V.goto (pc := 10) (tgt := 17) hG dL_setCycles_10 (by decide) ?_
    refine V.iconst (pc := 17) hG dL_setCycles_17 ?_
    exact fin dL_setCycles_18 ((sR_l rfl))  (by decide) (by decide) ((okI_st (okI_st hi5 (sR_jLo _)) (sR_jHi _))) hw ⟨rfl, h⟩
set_option maxRecDepth 100000 in
set_option maxHeartbeats 4000000 in
theorem sm_L_output (l : Launch) (Δ : Wd) {i r : MI} {p1 : Int} (hp1 : sR p1) {Q : Int → MI → Prop} (hst : l.stackTraces = false) (hi : okI i) (hw : Wf r) (h : wp_L_output p1 i r Q) : Met l yL_output (Cond.codeWith yL_output cL_output 4 (some .int) [(0, 9, 12, 25)] :: gW) (sRx 7 157 1 6) (sPc Δ [.ref (sA Δ 0), .int (sJ p1), .ref (sA Δ 540)] i r) (sQi Δ (fun x i' r' => r = r' ∧ Q x i')) 1 6 (sFr Δ) := by
  refine Cw.i (by decide) rfl (Nat.le_of_ble_eq_true rfl) (fun Γ Q0 hG hT fin => ?_)
  have hG : okG Γ Δ l (sRx 7 157 1 6) cL_output "SchedularyLaw" 4 := hG
  show V Γ Δ 542 false i r 0 0 Q0 0 [(0, .ref (sA Δ 0)), (1, .int (sJ p1)), (2, .ref (sA Δ 540))] []
  refine V.aload_n (pc := 0) hG dL_output_0 rfl 2 rfl ?_
  refine V.iconst (pc := 1) hG dL_output_1 ?_
  refine V.aload_n (pc := 2) hG dL_output_2 rfl 0 rfl ?_
  refine V.iload_n (pc := 3) hG dL_output_3 rfl 1 rfl ?_
  refine V.xcallVi (pc := 4) (As := [.int (sJ p1)]) (stk := [.int (sJ 0), .ref (sA Δ 540)]) hG (sm_X11_output l Δ hp1 hst hi hw h) mY_X11_output kw_1499 kw_1500 kw_1501 a_0 (by decide) (q := (RX11, TX11, 11)) rfl rfl ⟨Nat.le_of_ble_eq_true rfl, Nat.le_of_ble_eq_true rfl, Nat.le_of_ble_eq_true rfl, Nat.le_of_ble_eq_true rfl⟩ rfl (Nat.le_of_ble_eq_true rfl) dL_output_4 rfl (fun z8 z9 z10 z11 z12 z13 => ?_) (fun v1 i2 r3 hv4 hi5 hw6 hq7 => ?_)
  · obtain ⟨e14, h⟩ := z13
    subst e14
    rcases h with ⟨rfl, h⟩
    refine V.catch (hh := [(0, 9, 12, 25)]) (pre := []) (x := (0, 9, 12, 25)) (suf := []) (name := "java/lang/IndexOutOfBoundsException") hG hT rfl (fun z hz => by cases hz) (by decide) (by decide) kw_1366 kw_1396 (fun q16 => ?_)
    refine V.astore_n (pc := 12) (lv' := [(3, .ref q16), (0, .ref (sA Δ 0)), (1, .int (sJ p1)), (2, .ref (sA Δ 540))]) hG dL_output_12 rfl (by decide) rfl ?_
    refine V.iconst (pc := 13) hG dL_output_13 ?_
    exact fin dL_output_14 ((sR_l rfl))  (by decide) (by decide) z11 hw ⟨rfl, h⟩
  · obtain ⟨e18, h⟩ := hq7
    subst e18
    refine V.i2l (pc := 7) hG dL_output_7 ?_
    refine V.last0 (pc := 8) (o := 540) hG a_540 a_540.n (by decide) dL_output_8 ?_
    refine V.goto (pc := 9) (tgt := 15) hG dL_output_9 (by decide) ?_
    refine V.iconst (pc := 15) hG dL_output_15 ?_
    exact fin dL_output_16 ((sR_l rfl))  (by decide) (by decide) ((okI_st (okI_st hi5 (sR_jLo _)) (sR_jHi _))) hw ⟨rfl, h⟩
set_option maxRecDepth 100000 in
set_option maxHeartbeats 4000000 in
theorem sm_L_memoryAt (l : Launch) (Δ : Wd) {i r : MI} {p1 : Int} {p2 : Int} (hp1 : sR p1) (hp2 : sR p2) {Q : Int → MI → Prop} (hst : l.stackTraces = false) (hi : okI i) (hw : Wf r) (h : wp_L_memoryAt p1 p2 i r Q) : Met l yL_memoryAt (Cond.codeWith yL_memoryAt cL_memoryAt 5 (some .int) [(0, 10, 13, 13)] :: gW) (sRx 7 158 1 6) (sPc Δ [.ref (sA Δ 0), .int (sJ p1), .int (sJ p2), .ref (sA Δ 540)] i r) (sQi Δ (fun x i' r' => r = r' ∧ Q x i')) 1 6 (sFr Δ) := by
  refine Cw.i (by decide) rfl (Nat.le_of_ble_eq_true rfl) (fun Γ Q0 hG hT fin => ?_)
  have hG : okG Γ Δ l (sRx 7 158 1 6) cL_memoryAt "SchedularyLaw" 5 := hG
  show V Γ Δ 542 false i r 0 0 Q0 0 [(0, .ref (sA Δ 0)), (1, .int (sJ p1)), (2, .int (sJ p2)), (3, .ref (sA Δ 540))] []
  refine V.aload_n (pc := 0) hG dL_memoryAt_0 rfl 3 rfl ?_
  refine V.iconst (pc := 1) hG dL_memoryAt_1 ?_
  refine V.aload_n (pc := 2) hG dL_memoryAt_2 rfl 0 rfl ?_
  refine V.iload_n (pc := 3) hG dL_memoryAt_3 rfl 1 rfl ?_
  refine V.iload_n (pc := 4) hG dL_memoryAt_4 rfl 2 rfl ?_
  refine V.xcallVi (pc := 5) (As := [.int (sJ p1), .int (sJ p2)]) (stk := [.int (sJ 0), .ref (sA Δ 540)]) hG (sm_X11_memoryAt l Δ hp1 hp2 hst hi hw h) mY_X11_memoryAt kw_1507 kw_1508 kw_1509 a_0 (by decide) (q := (RX11, TX11, 11)) rfl rfl ⟨Nat.le_of_ble_eq_true rfl, Nat.le_of_ble_eq_true rfl, Nat.le_of_ble_eq_true rfl, Nat.le_of_ble_eq_true rfl⟩ rfl (Nat.le_of_ble_eq_true rfl) dL_memoryAt_5 rfl (fun z8 z9 z10 z11 z12 z13 => ?_) (fun v1 i2 r3 hv4 hi5 hw6 hq7 => ?_)
  · obtain ⟨e14, h⟩ := z13
    subst e14
    rcases h with ⟨rfl, h⟩
    refine V.catch (hh := [(0, 10, 13, 13)]) (pre := []) (x := (0, 10, 13, 13)) (suf := []) (name := "java/lang/IllegalArgumentException") hG hT rfl (fun z hz => by cases hz) (by decide) (by decide) kw_1247 kw_1257 (fun q16 => ?_)
    refine V.astore (pc := 13) (lv' := [(4, .ref q16), (0, .ref (sA Δ 0)), (1, .int (sJ p1)), (2, .int (sJ p2)), (3, .ref (sA Δ 540))]) hG dL_memoryAt_13 (by decide) rfl ?_
    refine V.iconst (pc := 15) hG dL_memoryAt_15 ?_
    exact fin dL_memoryAt_16 ((sR_l rfl))  (by decide) (by decide) z11 hw ⟨rfl, h⟩
  · obtain ⟨e18, h⟩ := hq7
    subst e18
    refine V.i2l (pc := 8) hG dL_memoryAt_8 ?_
    refine V.last0 (pc := 9) (o := 540) hG a_540 a_540.n (by decide) dL_memoryAt_9 ?_
    refine V.goto (pc := 10) (tgt := 17) hG dL_memoryAt_10 (by decide) ?_
    refine V.iconst (pc := 17) hG dL_memoryAt_17 ?_
    exact fin dL_memoryAt_18 ((sR_l rfl))  (by decide) (by decide) ((okI_st (okI_st hi5 (sR_jLo _)) (sR_jHi _))) hw ⟨rfl, h⟩
set_option maxRecDepth 100000 in
set_option maxHeartbeats 4000000 in
theorem sm_L_register (l : Launch) (Δ : Wd) {i r : MI} {p1 : Int} (hp1 : sR p1) {Q : Int → MI → Prop} (hst : l.stackTraces = false) (hi : okI i) (hw : Wf r) (h : wp_L_register p1 i r Q) : Met l yL_register (Cond.codeWith yL_register cL_register 4 (some .int) [(0, 9, 12, 13)] :: gW) (sRx 7 157 1 6) (sPc Δ [.ref (sA Δ 0), .int (sJ p1), .ref (sA Δ 540)] i r) (sQi Δ (fun x i' r' => r = r' ∧ Q x i')) 1 6 (sFr Δ) := by
  refine Cw.i (by decide) rfl (Nat.le_of_ble_eq_true rfl) (fun Γ Q0 hG hT fin => ?_)
  have hG : okG Γ Δ l (sRx 7 157 1 6) cL_register "SchedularyLaw" 4 := hG
  show V Γ Δ 542 false i r 0 0 Q0 0 [(0, .ref (sA Δ 0)), (1, .int (sJ p1)), (2, .ref (sA Δ 540))] []
  refine V.aload_n (pc := 0) hG dL_register_0 rfl 2 rfl ?_
  refine V.iconst (pc := 1) hG dL_register_1 ?_
  refine V.aload_n (pc := 2) hG dL_register_2 rfl 0 rfl ?_
  refine V.iload_n (pc := 3) hG dL_register_3 rfl 1 rfl ?_
  refine V.xcallVi (pc := 4) (As := [.int (sJ p1)]) (stk := [.int (sJ 0), .ref (sA Δ 540)]) hG (sm_X11_register l Δ hp1 hst hi hw h) mY_X11_register kw_1516 kw_1517 kw_1518 a_0 (by decide) (q := (RX11, TX11, 11)) rfl rfl ⟨Nat.le_of_ble_eq_true rfl, Nat.le_of_ble_eq_true rfl, Nat.le_of_ble_eq_true rfl, Nat.le_of_ble_eq_true rfl⟩ rfl (Nat.le_of_ble_eq_true rfl) dL_register_4 rfl (fun z8 z9 z10 z11 z12 z13 => ?_) (fun v1 i2 r3 hv4 hi5 hw6 hq7 => ?_)
  · obtain ⟨e14, h⟩ := z13
    subst e14
    rcases h with ⟨rfl, h⟩
    refine V.catch (hh := [(0, 9, 12, 13)]) (pre := []) (x := (0, 9, 12, 13)) (suf := []) (name := "java/lang/IllegalArgumentException") hG hT rfl (fun z hz => by cases hz) (by decide) (by decide) kw_1247 kw_1257 (fun q16 => ?_)
    refine V.astore_n (pc := 12) (lv' := [(3, .ref q16), (0, .ref (sA Δ 0)), (1, .int (sJ p1)), (2, .ref (sA Δ 540))]) hG dL_register_12 rfl (by decide) rfl ?_
    refine V.iconst (pc := 13) hG dL_register_13 ?_
    exact fin dL_register_14 ((sR_l rfl))  (by decide) (by decide) z11 hw ⟨rfl, h⟩
  · obtain ⟨e18, h⟩ := hq7
    subst e18
    refine V.i2l (pc := 7) hG dL_register_7 ?_
    refine V.last0 (pc := 8) (o := 540) hG a_540 a_540.n (by decide) dL_register_8 ?_
    refine V.goto (pc := 9) (tgt := 15) hG dL_register_9 (by decide) ?_
    refine V.iconst (pc := 15) hG dL_register_15 ?_
    exact fin dL_register_16 ((sR_l rfl))  (by decide) (by decide) ((okI_st (okI_st hi5 (sR_jLo _)) (sR_jHi _))) hw ⟨rfl, h⟩
set_option maxRecDepth 100000 in
set_option maxHeartbeats 4000000 in
theorem sm_L_kindOf (l : Launch) (Δ : Wd) {i r : MI} {p1 : Int} (hp1 : sR p1) {Q : Int → MI → MI → Prop} (hst : l.stackTraces = false) (hi : okI i) (hw : Wf r) (h : wp_L_kindOf p1 i r Q) : Met l yL_kindOf (Cond.codeWith yL_kindOf cL_kindOf 4 (some .int) [(0, 9, 12, 25)] :: gW) (sRx 8 166 1 6) (sPc Δ [.ref (sA Δ 0), .int (sJ p1), .ref (sA Δ 540)] i r) (sQi Δ (Q)) 1 6 (sFr Δ) := by
  refine Cw.i (by decide) rfl (Nat.le_of_ble_eq_true rfl) (fun Γ Q0 hG hT fin => ?_)
  have hG : okG Γ Δ l (sRx 8 166 1 6) cL_kindOf "SchedularyLaw" 4 := hG
  show V Γ Δ 542 false i r 0 0 Q0 0 [(0, .ref (sA Δ 0)), (1, .int (sJ p1)), (2, .ref (sA Δ 540))] []
  refine V.aload_n (pc := 0) hG dL_kindOf_0 rfl 2 rfl ?_
  refine V.iconst (pc := 1) hG dL_kindOf_1 ?_
  refine V.aload_n (pc := 2) hG dL_kindOf_2 rfl 0 rfl ?_
  refine V.iload_n (pc := 3) hG dL_kindOf_3 rfl 1 rfl ?_
  refine V.xcallVi (pc := 4) (As := [.int (sJ p1)]) (stk := [.int (sJ 0), .ref (sA Δ 540)]) hG (sm_X11_kindOf l Δ hp1 hst hi hw h) mY_X11_kindOf kw_1524 kw_1525 kw_1526 a_0 (by decide) (q := (RX11, TX11, 11)) rfl rfl ⟨Nat.le_of_ble_eq_true rfl, Nat.le_of_ble_eq_true rfl, Nat.le_of_ble_eq_true rfl, Nat.le_of_ble_eq_true rfl⟩ rfl (Nat.le_of_ble_eq_true rfl) dL_kindOf_4 rfl (fun z8 z9 z10 z11 z12 z13 => ?_) (fun v1 i2 r3 hv4 hi5 hw6 hq7 => ?_)
  · have h := z13
    rcases h with ⟨rfl, h⟩
    refine V.catch (hh := [(0, 9, 12, 25)]) (pre := []) (x := (0, 9, 12, 25)) (suf := []) (name := "java/lang/IndexOutOfBoundsException") hG hT rfl (fun z hz => by cases hz) (by decide) (by decide) kw_1366 kw_1396 (fun q16 => ?_)
    refine V.astore_n (pc := 12) (lv' := [(3, .ref q16), (0, .ref (sA Δ 0)), (1, .int (sJ p1)), (2, .ref (sA Δ 540))]) hG dL_kindOf_12 rfl (by decide) rfl ?_
    refine V.iconst (pc := 13) hG dL_kindOf_13 ?_
    exact fin dL_kindOf_14 ((sR_l rfl))  (by decide) (by decide) z11 z12 h
  · have h := hq7
    refine V.i2l (pc := 7) hG dL_kindOf_7 ?_
    refine V.last0 (pc := 8) (o := 540) hG a_540 a_540.n (by decide) dL_kindOf_8 ?_
    refine V.goto (pc := 9) (tgt := 15) hG dL_kindOf_9 (by decide) ?_
    refine V.iconst (pc := 15) hG dL_kindOf_15 ?_
    exact fin dL_kindOf_16 ((sR_l rfl))  (by decide) (by decide) ((okI_st (okI_st hi5 (sR_jLo _)) (sR_jHi _))) hw6 h
set_option maxRecDepth 100000 in
set_option maxHeartbeats 4000000 in
theorem sm_L_statementOf (l : Launch) (Δ : Wd) {i r : MI} {p1 : Int} (hp1 : sR p1) {Q : Int → MI → MI → Prop} (hst : l.stackTraces = false) (hi : okI i) (hw : Wf r) (h : wp_L_statementOf p1 i r Q) : Met l yL_statementOf (Cond.codeWith yL_statementOf cL_statementOf 4 (some .int) [(0, 9, 12, 25)] :: gW) (sRx 8 166 1 6) (sPc Δ [.ref (sA Δ 0), .int (sJ p1), .ref (sA Δ 540)] i r) (sQi Δ (Q)) 1 6 (sFr Δ) := by
  refine Cw.i (by decide) rfl (Nat.le_of_ble_eq_true rfl) (fun Γ Q0 hG hT fin => ?_)
  have hG : okG Γ Δ l (sRx 8 166 1 6) cL_statementOf "SchedularyLaw" 4 := hG
  show V Γ Δ 542 false i r 0 0 Q0 0 [(0, .ref (sA Δ 0)), (1, .int (sJ p1)), (2, .ref (sA Δ 540))] []
  refine V.aload_n (pc := 0) hG dL_statementOf_0 rfl 2 rfl ?_
  refine V.iconst (pc := 1) hG dL_statementOf_1 ?_
  refine V.aload_n (pc := 2) hG dL_statementOf_2 rfl 0 rfl ?_
  refine V.iload_n (pc := 3) hG dL_statementOf_3 rfl 1 rfl ?_
  refine V.xcallVi (pc := 4) (As := [.int (sJ p1)]) (stk := [.int (sJ 0), .ref (sA Δ 540)]) hG (sm_X11_statementOf l Δ hp1 hst hi hw h) mY_X11_statementOf kw_1537 kw_1538 kw_1539 a_0 (by decide) (q := (RX11, TX11, 11)) rfl rfl ⟨Nat.le_of_ble_eq_true rfl, Nat.le_of_ble_eq_true rfl, Nat.le_of_ble_eq_true rfl, Nat.le_of_ble_eq_true rfl⟩ rfl (Nat.le_of_ble_eq_true rfl) dL_statementOf_4 rfl (fun z8 z9 z10 z11 z12 z13 => ?_) (fun v1 i2 r3 hv4 hi5 hw6 hq7 => ?_)
  · have h := z13
    rcases h with ⟨rfl, h⟩
    refine V.catch (hh := [(0, 9, 12, 25)]) (pre := []) (x := (0, 9, 12, 25)) (suf := []) (name := "java/lang/IndexOutOfBoundsException") hG hT rfl (fun z hz => by cases hz) (by decide) (by decide) kw_1366 kw_1396 (fun q16 => ?_)
    refine V.astore_n (pc := 12) (lv' := [(3, .ref q16), (0, .ref (sA Δ 0)), (1, .int (sJ p1)), (2, .ref (sA Δ 540))]) hG dL_statementOf_12 rfl (by decide) rfl ?_
    refine V.iconst (pc := 13) hG dL_statementOf_13 ?_
    exact fin dL_statementOf_14 ((sR_l rfl))  (by decide) (by decide) z11 z12 h
  · have h := hq7
    refine V.i2l (pc := 7) hG dL_statementOf_7 ?_
    refine V.last0 (pc := 8) (o := 540) hG a_540 a_540.n (by decide) dL_statementOf_8 ?_
    refine V.goto (pc := 9) (tgt := 15) hG dL_statementOf_9 (by decide) ?_
    refine V.iconst (pc := 15) hG dL_statementOf_15 ?_
    exact fin dL_statementOf_16 ((sR_l rfl))  (by decide) (by decide) ((okI_st (okI_st hi5 (sR_jLo _)) (sR_jHi _))) hw6 h
set_option maxRecDepth 100000 in
set_option maxHeartbeats 4000000 in
theorem sm_L_weight (l : Launch) (Δ : Wd) {i r : MI} {p1 : Int} {p2 : Int} {p3 : Int} (hp1 : sR p1) (hp2 : sR p2) (hp3 : sR p3) {Q : Int → MI → MI → Prop} (hst : l.stackTraces = false) (hi : okI i) (hw : Wf r) (h : wp_L_weight p1 p2 p3 i r Q) : Met l yL_weight (Cond.codeWith yL_weight cL_weight 6 (some .int) [(0, 12, 15, 25), (0, 12, 19, 72)] :: gW) (sRx 8 169 3 18) (sPc Δ [.ref (sA Δ 0), .int (sJ p1), .int (sJ p2), .int (sJ p3), .ref (sA Δ 540)] i r) (sQi Δ (Q)) 3 18 (sFr Δ) := by
  refine Cw.i (by decide) rfl (Nat.le_of_ble_eq_true rfl) (fun Γ Q0 hG hT fin => ?_)
  have hG : okG Γ Δ l (sRx 8 169 3 18) cL_weight "SchedularyLaw" 6 := hG
  show V Γ Δ 542 false i r 0 0 Q0 0 [(0, .ref (sA Δ 0)), (1, .int (sJ p1)), (2, .int (sJ p2)), (3, .int (sJ p3)), (4, .ref (sA Δ 540))] []
  refine V.aload (pc := 0) hG dL_weight_0 4 rfl ?_
  refine V.iconst (pc := 2) hG dL_weight_2 ?_
  refine V.aload_n (pc := 3) hG dL_weight_3 rfl 0 rfl ?_
  refine V.iload_n (pc := 4) hG dL_weight_4 rfl 1 rfl ?_
  refine V.iload_n (pc := 5) hG dL_weight_5 rfl 2 rfl ?_
  refine V.iload_n (pc := 6) hG dL_weight_6 rfl 3 rfl ?_
  refine V.xcallVi (pc := 7) (As := [.int (sJ p1), .int (sJ p2), .int (sJ p3)]) (stk := [.int (sJ 0), .ref (sA Δ 540)]) hG (sm_X11_weight l Δ hp1 hp2 hp3 hst hi hw h) mY_X11_weight kw_1545 kw_1546 kw_1547 a_0 (by decide) (q := (RX11, TX11, 11)) rfl rfl ⟨Nat.le_of_ble_eq_true rfl, Nat.le_of_ble_eq_true rfl, Nat.le_of_ble_eq_true rfl, Nat.le_of_ble_eq_true rfl⟩ rfl (Nat.le_of_ble_eq_true rfl) dL_weight_7 rfl (fun z8 z9 z10 z11 z12 z13 => ?_) (fun v1 i2 r3 hv4 hi5 hw6 hq7 => ?_)
  · have h := z13
    rcases h with ⟨rfl, h⟩ | ⟨rfl, h⟩
    · refine V.catch (hh := [(0, 12, 15, 25), (0, 12, 19, 72)]) (pre := []) (x := (0, 12, 15, 25)) (suf := [(0, 12, 19, 72)]) (name := "java/lang/IndexOutOfBoundsException") hG hT rfl (fun z hz => by cases hz) (by decide) (by decide) kw_1366 kw_1396 (fun q16 => ?_)
      refine V.astore (pc := 15) (lv' := [(5, .ref q16), (0, .ref (sA Δ 0)), (1, .int (sJ p1)), (2, .int (sJ p2)), (3, .int (sJ p3)), (4, .ref (sA Δ 540))]) hG dL_weight_15 (by decide) rfl ?_
      refine V.iconst (pc := 17) hG dL_weight_17 ?_
      exact fin dL_weight_18 ((sR_l rfl))  (by decide) (by decide) z11 z12 h
    · refine V.catch (hh := [(0, 12, 15, 25), (0, 12, 19, 72)]) (pre := [(0, 12, 15, 25)]) (x := (0, 12, 19, 72)) (suf := []) (name := "java/util/NoSuchElementException") hG hT rfl (fun z hz => by simp only [List.mem_cons, List.not_mem_nil, or_false] at hz; rcases hz with rfl; exact ⟨"java/lang/IndexOutOfBoundsException", by decide, kw_1366, by decide⟩) (by decide) (by decide) kw_1544 kw_1552 (fun q17 => ?_)
      refine V.astore (pc := 19) (lv' := [(5, .ref q17), (0, .ref (sA Δ 0)), (1, .int (sJ p1)), (2, .int (sJ p2)), (3, .int (sJ p3)), (4, .ref (sA Δ 540))]) hG dL_weight_19 (by decide) rfl ?_
      refine V.iconst (pc := 21) hG dL_weight_21 ?_
      exact fin dL_weight_22 ((sR_l rfl))  (by decide) (by decide) z11 z12 h
  · have h := hq7
    refine V.i2l (pc := 10) hG dL_weight_10 ?_
    refine V.last0 (pc := 11) (o := 540) hG a_540 a_540.n (by decide) dL_weight_11 ?_
    refine V.goto (pc := 12) (tgt := 23) hG dL_weight_12 (by decide) ?_
    refine V.iconst (pc := 23) hG dL_weight_23 ?_
    exact fin dL_weight_24 ((sR_l rfl))  (by decide) (by decide) ((okI_st (okI_st hi5 (sR_jLo _)) (sR_jHi _))) hw6 h
set_option maxRecDepth 100000 in
set_option maxHeartbeats 4000000 in
theorem sm_L_soon (l : Launch) (Δ : Wd) {i r : MI} {p1 : Int} (hp1 : sR p1) {Q : Int → MI → MI → Prop} (hst : l.stackTraces = false) (hi : okI i) (hw : Wf r) (h : wp_L_soon p1 i r Q) : Met l yL_soon (Cond.codeWith yL_soon cL_soon 4 (some .int) [(0, 9, 12, 25)] :: gW) (sRx 8 166 1 6) (sPc Δ [.ref (sA Δ 0), .int (sJ p1), .ref (sA Δ 540)] i r) (sQi Δ (Q)) 1 6 (sFr Δ) := by
  refine Cw.i (by decide) rfl (Nat.le_of_ble_eq_true rfl) (fun Γ Q0 hG hT fin => ?_)
  have hG : okG Γ Δ l (sRx 8 166 1 6) cL_soon "SchedularyLaw" 4 := hG
  show V Γ Δ 542 false i r 0 0 Q0 0 [(0, .ref (sA Δ 0)), (1, .int (sJ p1)), (2, .ref (sA Δ 540))] []
  refine V.aload_n (pc := 0) hG dL_soon_0 rfl 2 rfl ?_
  refine V.iconst (pc := 1) hG dL_soon_1 ?_
  refine V.aload_n (pc := 2) hG dL_soon_2 rfl 0 rfl ?_
  refine V.iload_n (pc := 3) hG dL_soon_3 rfl 1 rfl ?_
  refine V.xcallVi (pc := 4) (As := [.int (sJ p1)]) (stk := [.int (sJ 0), .ref (sA Δ 540)]) hG (sm_X11_soon l Δ hp1 hst hi hw h) mY_X11_soon kw_1569 kw_1570 kw_1571 a_0 (by decide) (q := (RX11, TX11, 11)) rfl rfl ⟨Nat.le_of_ble_eq_true rfl, Nat.le_of_ble_eq_true rfl, Nat.le_of_ble_eq_true rfl, Nat.le_of_ble_eq_true rfl⟩ rfl (Nat.le_of_ble_eq_true rfl) dL_soon_4 rfl (fun z8 z9 z10 z11 z12 z13 => ?_) (fun v1 i2 r3 hv4 hi5 hw6 hq7 => ?_)
  · have h := z13
    rcases h with ⟨rfl, h⟩
    refine V.catch (hh := [(0, 9, 12, 25)]) (pre := []) (x := (0, 9, 12, 25)) (suf := []) (name := "java/lang/IndexOutOfBoundsException") hG hT rfl (fun z hz => by cases hz) (by decide) (by decide) kw_1366 kw_1396 (fun q16 => ?_)
    refine V.astore_n (pc := 12) (lv' := [(3, .ref q16), (0, .ref (sA Δ 0)), (1, .int (sJ p1)), (2, .ref (sA Δ 540))]) hG dL_soon_12 rfl (by decide) rfl ?_
    refine V.iconst (pc := 13) hG dL_soon_13 ?_
    exact fin dL_soon_14 ((sR_l rfl))  (by decide) (by decide) z11 z12 h
  · have h := hq7
    refine V.i2l (pc := 7) hG dL_soon_7 ?_
    refine V.last0 (pc := 8) (o := 540) hG a_540 a_540.n (by decide) dL_soon_8 ?_
    refine V.goto (pc := 9) (tgt := 15) hG dL_soon_9 (by decide) ?_
    refine V.iconst (pc := 15) hG dL_soon_15 ?_
    exact fin dL_soon_16 ((sR_l rfl))  (by decide) (by decide) ((okI_st (okI_st hi5 (sR_jLo _)) (sR_jHi _))) hw6 h
set_option maxRecDepth 100000 in
set_option maxHeartbeats 4000000 in
theorem sm_L_late (l : Launch) (Δ : Wd) {i r : MI} {p1 : Int} (hp1 : sR p1) {Q : Int → MI → MI → Prop} (hst : l.stackTraces = false) (hi : okI i) (hw : Wf r) (h : wp_L_late p1 i r Q) : Met l yL_late (Cond.codeWith yL_late cL_late 4 (some .int) [(0, 9, 12, 25)] :: gW) (sRx 8 166 1 6) (sPc Δ [.ref (sA Δ 0), .int (sJ p1), .ref (sA Δ 540)] i r) (sQi Δ (Q)) 1 6 (sFr Δ) := by
  refine Cw.i (by decide) rfl (Nat.le_of_ble_eq_true rfl) (fun Γ Q0 hG hT fin => ?_)
  have hG : okG Γ Δ l (sRx 8 166 1 6) cL_late "SchedularyLaw" 4 := hG
  show V Γ Δ 542 false i r 0 0 Q0 0 [(0, .ref (sA Δ 0)), (1, .int (sJ p1)), (2, .ref (sA Δ 540))] []
  refine V.aload_n (pc := 0) hG dL_late_0 rfl 2 rfl ?_
  refine V.iconst (pc := 1) hG dL_late_1 ?_
  refine V.aload_n (pc := 2) hG dL_late_2 rfl 0 rfl ?_
  refine V.iload_n (pc := 3) hG dL_late_3 rfl 1 rfl ?_
  refine V.xcallVi (pc := 4) (As := [.int (sJ p1)]) (stk := [.int (sJ 0), .ref (sA Δ 540)]) hG (sm_X11_late l Δ hp1 hst hi hw h) mY_X11_late kw_1576 kw_1577 kw_1578 a_0 (by decide) (q := (RX11, TX11, 11)) rfl rfl ⟨Nat.le_of_ble_eq_true rfl, Nat.le_of_ble_eq_true rfl, Nat.le_of_ble_eq_true rfl, Nat.le_of_ble_eq_true rfl⟩ rfl (Nat.le_of_ble_eq_true rfl) dL_late_4 rfl (fun z8 z9 z10 z11 z12 z13 => ?_) (fun v1 i2 r3 hv4 hi5 hw6 hq7 => ?_)
  · have h := z13
    rcases h with ⟨rfl, h⟩
    refine V.catch (hh := [(0, 9, 12, 25)]) (pre := []) (x := (0, 9, 12, 25)) (suf := []) (name := "java/lang/IndexOutOfBoundsException") hG hT rfl (fun z hz => by cases hz) (by decide) (by decide) kw_1366 kw_1396 (fun q16 => ?_)
    refine V.astore_n (pc := 12) (lv' := [(3, .ref q16), (0, .ref (sA Δ 0)), (1, .int (sJ p1)), (2, .ref (sA Δ 540))]) hG dL_late_12 rfl (by decide) rfl ?_
    refine V.iconst (pc := 13) hG dL_late_13 ?_
    exact fin dL_late_14 ((sR_l rfl))  (by decide) (by decide) z11 z12 h
  · have h := hq7
    refine V.i2l (pc := 7) hG dL_late_7 ?_
    refine V.last0 (pc := 8) (o := 540) hG a_540 a_540.n (by decide) dL_late_8 ?_
    refine V.goto (pc := 9) (tgt := 15) hG dL_late_9 (by decide) ?_
    refine V.iconst (pc := 15) hG dL_late_15 ?_
    exact fin dL_late_16 ((sR_l rfl))  (by decide) (by decide) ((okI_st (okI_st hi5 (sR_jLo _)) (sR_jHi _))) hw6 h
set_option maxRecDepth 100000 in
set_option maxHeartbeats 4000000 in
theorem sm_L_step (l : Launch) (Δ : Wd) {i r : MI} {p1 : Int} (hp1 : sR p1) {Q : Int → MI → MI → Prop} (hst : l.stackTraces = false) (hi : okI i) (hw : Wf r) (h : wp_L_step p1 i r Q) : Met l yL_step (Cond.codeWith yL_step cL_step 4 (some .int) [(0, 9, 12, 25)] :: gW) (sRx 8 166 1 6) (sPc Δ [.ref (sA Δ 0), .int (sJ p1), .ref (sA Δ 540)] i r) (sQi Δ (Q)) 1 6 (sFr Δ) := by
  refine Cw.i (by decide) rfl (Nat.le_of_ble_eq_true rfl) (fun Γ Q0 hG hT fin => ?_)
  have hG : okG Γ Δ l (sRx 8 166 1 6) cL_step "SchedularyLaw" 4 := hG
  show V Γ Δ 542 false i r 0 0 Q0 0 [(0, .ref (sA Δ 0)), (1, .int (sJ p1)), (2, .ref (sA Δ 540))] []
  refine V.aload_n (pc := 0) hG dL_step_0 rfl 2 rfl ?_
  refine V.iconst (pc := 1) hG dL_step_1 ?_
  refine V.aload_n (pc := 2) hG dL_step_2 rfl 0 rfl ?_
  refine V.iload_n (pc := 3) hG dL_step_3 rfl 1 rfl ?_
  refine V.xcallVi (pc := 4) (As := [.int (sJ p1)]) (stk := [.int (sJ 0), .ref (sA Δ 540)]) hG (sm_X11_step l Δ hp1 hst hi hw h) mY_X11_step kw_1583 kw_1584 kw_1585 a_0 (by decide) (q := (RX11, TX11, 11)) rfl rfl ⟨Nat.le_of_ble_eq_true rfl, Nat.le_of_ble_eq_true rfl, Nat.le_of_ble_eq_true rfl, Nat.le_of_ble_eq_true rfl⟩ rfl (Nat.le_of_ble_eq_true rfl) dL_step_4 rfl (fun z8 z9 z10 z11 z12 z13 => ?_) (fun v1 i2 r3 hv4 hi5 hw6 hq7 => ?_)
  · have h := z13
    rcases h with ⟨rfl, h⟩
    refine V.catch (hh := [(0, 9, 12, 25)]) (pre := []) (x := (0, 9, 12, 25)) (suf := []) (name := "java/lang/IndexOutOfBoundsException") hG hT rfl (fun z hz => by cases hz) (by decide) (by decide) kw_1366 kw_1396 (fun q16 => ?_)
    refine V.astore_n (pc := 12) (lv' := [(3, .ref q16), (0, .ref (sA Δ 0)), (1, .int (sJ p1)), (2, .ref (sA Δ 540))]) hG dL_step_12 rfl (by decide) rfl ?_
    refine V.iconst (pc := 13) hG dL_step_13 ?_
    exact fin dL_step_14 ((sR_l rfl))  (by decide) (by decide) z11 z12 h
  · have h := hq7
    refine V.i2l (pc := 7) hG dL_step_7 ?_
    refine V.last0 (pc := 8) (o := 540) hG a_540 a_540.n (by decide) dL_step_8 ?_
    refine V.goto (pc := 9) (tgt := 15) hG dL_step_9 (by decide) ?_
    refine V.iconst (pc := 15) hG dL_step_15 ?_
    exact fin dL_step_16 ((sR_l rfl))  (by decide) (by decide) ((okI_st (okI_st hi5 (sR_jLo _)) (sR_jHi _))) hw6 h
set_option maxRecDepth 100000 in
set_option maxHeartbeats 4000000 in
theorem sm_L_place (l : Launch) (Δ : Wd) {i r : MI} {p1 : Int} (hp1 : sR p1) {Q : Int → MI → MI → Prop} (hst : l.stackTraces = false) (hi : okI i) (hw : Wf r) (h : wp_L_place p1 i r Q) : Met l yL_place (Cond.codeWith yL_place cL_place 4 (some .int) [(0, 9, 12, 25)] :: gW) (sRx 8 166 1 6) (sPc Δ [.ref (sA Δ 0), .int (sJ p1), .ref (sA Δ 540)] i r) (sQi Δ (Q)) 1 6 (sFr Δ) := by
  refine Cw.i (by decide) rfl (Nat.le_of_ble_eq_true rfl) (fun Γ Q0 hG hT fin => ?_)
  have hG : okG Γ Δ l (sRx 8 166 1 6) cL_place "SchedularyLaw" 4 := hG
  show V Γ Δ 542 false i r 0 0 Q0 0 [(0, .ref (sA Δ 0)), (1, .int (sJ p1)), (2, .ref (sA Δ 540))] []
  refine V.aload_n (pc := 0) hG dL_place_0 rfl 2 rfl ?_
  refine V.iconst (pc := 1) hG dL_place_1 ?_
  refine V.aload_n (pc := 2) hG dL_place_2 rfl 0 rfl ?_
  refine V.iload_n (pc := 3) hG dL_place_3 rfl 1 rfl ?_
  refine V.xcallVi (pc := 4) (As := [.int (sJ p1)]) (stk := [.int (sJ 0), .ref (sA Δ 540)]) hG (sm_X11_place l Δ hp1 hst hi hw h) mY_X11_place kw_1590 kw_1591 kw_1592 a_0 (by decide) (q := (RX11, TX11, 11)) rfl rfl ⟨Nat.le_of_ble_eq_true rfl, Nat.le_of_ble_eq_true rfl, Nat.le_of_ble_eq_true rfl, Nat.le_of_ble_eq_true rfl⟩ rfl (Nat.le_of_ble_eq_true rfl) dL_place_4 rfl (fun z8 z9 z10 z11 z12 z13 => ?_) (fun v1 i2 r3 hv4 hi5 hw6 hq7 => ?_)
  · have h := z13
    rcases h with ⟨rfl, h⟩
    refine V.catch (hh := [(0, 9, 12, 25)]) (pre := []) (x := (0, 9, 12, 25)) (suf := []) (name := "java/lang/IndexOutOfBoundsException") hG hT rfl (fun z hz => by cases hz) (by decide) (by decide) kw_1366 kw_1396 (fun q16 => ?_)
    refine V.astore_n (pc := 12) (lv' := [(3, .ref q16), (0, .ref (sA Δ 0)), (1, .int (sJ p1)), (2, .ref (sA Δ 540))]) hG dL_place_12 rfl (by decide) rfl ?_
    refine V.iconst (pc := 13) hG dL_place_13 ?_
    exact fin dL_place_14 ((sR_l rfl))  (by decide) (by decide) z11 z12 h
  · have h := hq7
    refine V.i2l (pc := 7) hG dL_place_7 ?_
    refine V.last0 (pc := 8) (o := 540) hG a_540 a_540.n (by decide) dL_place_8 ?_
    refine V.goto (pc := 9) (tgt := 15) hG dL_place_9 (by decide) ?_
    refine V.iconst (pc := 15) hG dL_place_15 ?_
    exact fin dL_place_16 ((sR_l rfl))  (by decide) (by decide) ((okI_st (okI_st hi5 (sR_jLo _)) (sR_jHi _))) hw6 h
set_option maxRecDepth 100000 in
set_option maxHeartbeats 4000000 in
theorem sm_L_circuitOutput (l : Launch) (Δ : Wd) {i r : MI} {p1 : Int} (hp1 : sR p1) {Q : Int → MI → MI → Prop} (hst : l.stackTraces = false) (hi : okI i) (hw : Wf r) (h : wp_L_circuitOutput p1 i r Q) : Met l yL_circuitOutput (Cond.codeWith yL_circuitOutput cL_circuitOutput 4 (some .int) [(0, 9, 12, 25)] :: gW) (sRx 7 166 1 6) (sPc Δ [.ref (sA Δ 0), .int (sJ p1), .ref (sA Δ 540)] i r) (sQi Δ (Q)) 1 6 (sFr Δ) := by
  refine Cw.i (by decide) rfl (Nat.le_of_ble_eq_true rfl) (fun Γ Q0 hG hT fin => ?_)
  have hG : okG Γ Δ l (sRx 7 166 1 6) cL_circuitOutput "SchedularyLaw" 4 := hG
  show V Γ Δ 542 false i r 0 0 Q0 0 [(0, .ref (sA Δ 0)), (1, .int (sJ p1)), (2, .ref (sA Δ 540))] []
  refine V.aload_n (pc := 0) hG dL_circuitOutput_0 rfl 2 rfl ?_
  refine V.iconst (pc := 1) hG dL_circuitOutput_1 ?_
  refine V.aload_n (pc := 2) hG dL_circuitOutput_2 rfl 0 rfl ?_
  refine V.iload_n (pc := 3) hG dL_circuitOutput_3 rfl 1 rfl ?_
  refine V.xcallVi (pc := 4) (As := [.int (sJ p1)]) (stk := [.int (sJ 0), .ref (sA Δ 540)]) hG (sm_X11_circuitOutput l Δ hp1 hst hi hw h) mY_X11_circuitOutput kw_1597 kw_1598 kw_1599 a_0 (by decide) (q := (RX11, TX11, 11)) rfl rfl ⟨Nat.le_of_ble_eq_true rfl, Nat.le_of_ble_eq_true rfl, Nat.le_of_ble_eq_true rfl, Nat.le_of_ble_eq_true rfl⟩ rfl (Nat.le_of_ble_eq_true rfl) dL_circuitOutput_4 rfl (fun z8 z9 z10 z11 z12 z13 => ?_) (fun v1 i2 r3 hv4 hi5 hw6 hq7 => ?_)
  · have h := z13
    rcases h with ⟨rfl, h⟩
    refine V.catch (hh := [(0, 9, 12, 25)]) (pre := []) (x := (0, 9, 12, 25)) (suf := []) (name := "java/lang/IndexOutOfBoundsException") hG hT rfl (fun z hz => by cases hz) (by decide) (by decide) kw_1366 kw_1396 (fun q16 => ?_)
    refine V.astore_n (pc := 12) (lv' := [(3, .ref q16), (0, .ref (sA Δ 0)), (1, .int (sJ p1)), (2, .ref (sA Δ 540))]) hG dL_circuitOutput_12 rfl (by decide) rfl ?_
    refine V.iconst (pc := 13) hG dL_circuitOutput_13 ?_
    exact fin dL_circuitOutput_14 ((sR_l rfl))  (by decide) (by decide) z11 z12 h
  · have h := hq7
    refine V.i2l (pc := 7) hG dL_circuitOutput_7 ?_
    refine V.last0 (pc := 8) (o := 540) hG a_540 a_540.n (by decide) dL_circuitOutput_8 ?_
    refine V.goto (pc := 9) (tgt := 15) hG dL_circuitOutput_9 (by decide) ?_
    refine V.iconst (pc := 15) hG dL_circuitOutput_15 ?_
    exact fin dL_circuitOutput_16 ((sR_l rfl))  (by decide) (by decide) ((okI_st (okI_st hi5 (sR_jLo _)) (sR_jHi _))) hw6 h
set_option maxRecDepth 100000 in
set_option maxHeartbeats 4000000 in
theorem sm_L_circuitMemory (l : Launch) (Δ : Wd) {i r : MI} {p1 : Int} {p2 : Int} (hp1 : sR p1) (hp2 : sR p2) {Q : Int → MI → MI → Prop} (hst : l.stackTraces = false) (hi : okI i) (hw : Wf r) (h : wp_L_circuitMemory p1 p2 i r Q) : Met l yL_circuitMemory (Cond.codeWith yL_circuitMemory cL_circuitMemory 5 (some .int) [(0, 10, 13, 13)] :: gW) (sRx 7 167 1 6) (sPc Δ [.ref (sA Δ 0), .int (sJ p1), .int (sJ p2), .ref (sA Δ 540)] i r) (sQi Δ (Q)) 1 6 (sFr Δ) := by
  refine Cw.i (by decide) rfl (Nat.le_of_ble_eq_true rfl) (fun Γ Q0 hG hT fin => ?_)
  have hG : okG Γ Δ l (sRx 7 167 1 6) cL_circuitMemory "SchedularyLaw" 5 := hG
  show V Γ Δ 542 false i r 0 0 Q0 0 [(0, .ref (sA Δ 0)), (1, .int (sJ p1)), (2, .int (sJ p2)), (3, .ref (sA Δ 540))] []
  refine V.aload_n (pc := 0) hG dL_circuitMemory_0 rfl 3 rfl ?_
  refine V.iconst (pc := 1) hG dL_circuitMemory_1 ?_
  refine V.aload_n (pc := 2) hG dL_circuitMemory_2 rfl 0 rfl ?_
  refine V.iload_n (pc := 3) hG dL_circuitMemory_3 rfl 1 rfl ?_
  refine V.iload_n (pc := 4) hG dL_circuitMemory_4 rfl 2 rfl ?_
  refine V.xcallVi (pc := 5) (As := [.int (sJ p1), .int (sJ p2)]) (stk := [.int (sJ 0), .ref (sA Δ 540)]) hG (sm_X11_circuitMemory l Δ hp1 hp2 hst hi hw h) mY_X11_circuitMemory kw_1604 kw_1605 kw_1606 a_0 (by decide) (q := (RX11, TX11, 11)) rfl rfl ⟨Nat.le_of_ble_eq_true rfl, Nat.le_of_ble_eq_true rfl, Nat.le_of_ble_eq_true rfl, Nat.le_of_ble_eq_true rfl⟩ rfl (Nat.le_of_ble_eq_true rfl) dL_circuitMemory_5 rfl (fun z8 z9 z10 z11 z12 z13 => ?_) (fun v1 i2 r3 hv4 hi5 hw6 hq7 => ?_)
  · have h := z13
    rcases h with ⟨rfl, h⟩
    refine V.catch (hh := [(0, 10, 13, 13)]) (pre := []) (x := (0, 10, 13, 13)) (suf := []) (name := "java/lang/IllegalArgumentException") hG hT rfl (fun z hz => by cases hz) (by decide) (by decide) kw_1247 kw_1257 (fun q16 => ?_)
    refine V.astore (pc := 13) (lv' := [(4, .ref q16), (0, .ref (sA Δ 0)), (1, .int (sJ p1)), (2, .int (sJ p2)), (3, .ref (sA Δ 540))]) hG dL_circuitMemory_13 (by decide) rfl ?_
    refine V.iconst (pc := 15) hG dL_circuitMemory_15 ?_
    exact fin dL_circuitMemory_16 ((sR_l rfl))  (by decide) (by decide) z11 z12 h
  · have h := hq7
    refine V.i2l (pc := 8) hG dL_circuitMemory_8 ?_
    refine V.last0 (pc := 9) (o := 540) hG a_540 a_540.n (by decide) dL_circuitMemory_9 ?_
    refine V.goto (pc := 10) (tgt := 17) hG dL_circuitMemory_10 (by decide) ?_
    refine V.iconst (pc := 17) hG dL_circuitMemory_17 ?_
    exact fin dL_circuitMemory_18 ((sR_l rfl))  (by decide) (by decide) ((okI_st (okI_st hi5 (sR_jLo _)) (sR_jHi _))) hw6 h
set_option maxRecDepth 100000 in
set_option maxHeartbeats 4000000 in
theorem sm_L_action (l : Launch) (Δ : Wd) {i r : MI} {p1 : Int} {p2 : Int} {p3 : Int} (hp1 : sR p1) (hp2 : sR p2) (hp3 : sR p3) {Q : Int → MI → Prop} (hst : l.stackTraces = false) (hi : okI i) (hw : Wf r) (h : wp_L_action p1 p2 p3 i r Q) : Met l yL_action (Cond.codeWith yL_action cL_action 6 (some .int) [(0, 12, 15, 13), (0, 12, 19, 15)] :: gW) (sRx 7 105 1 6) (sPc Δ [.ref (sA Δ 0), .int (sJ p1), .int (sJ p2), .int (sJ p3), .ref (sA Δ 540)] i r) (sQi Δ (fun x i' r' => r = r' ∧ Q x i')) 1 6 (sFr Δ) := by
  refine Cw.i (by decide) rfl (Nat.le_of_ble_eq_true rfl) (fun Γ Q0 hG hT fin => ?_)
  have hG : okG Γ Δ l (sRx 7 105 1 6) cL_action "SchedularyLaw" 6 := hG
  show V Γ Δ 542 false i r 0 0 Q0 0 [(0, .ref (sA Δ 0)), (1, .int (sJ p1)), (2, .int (sJ p2)), (3, .int (sJ p3)), (4, .ref (sA Δ 540))] []
  refine V.aload (pc := 0) hG dL_action_0 4 rfl ?_
  refine V.iconst (pc := 2) hG dL_action_2 ?_
  refine V.aload_n (pc := 3) hG dL_action_3 rfl 0 rfl ?_
  refine V.iload_n (pc := 4) hG dL_action_4 rfl 1 rfl ?_
  refine V.iload_n (pc := 5) hG dL_action_5 rfl 2 rfl ?_
  refine V.iload_n (pc := 6) hG dL_action_6 rfl 3 rfl ?_
  refine V.xcallVi (pc := 7) (As := [.int (sJ p1), .int (sJ p2), .int (sJ p3)]) (stk := [.int (sJ 0), .ref (sA Δ 540)]) hG (sm_X11_action l Δ hp1 hp2 hp3 hst hi hw h) mY_X11_action kw_1611 kw_1612 kw_1613 a_0 (by decide) (q := (RX11, TX11, 11)) rfl rfl ⟨Nat.le_of_ble_eq_true rfl, Nat.le_of_ble_eq_true rfl, Nat.le_of_ble_eq_true rfl, Nat.le_of_ble_eq_true rfl⟩ rfl (Nat.le_of_ble_eq_true rfl) dL_action_7 rfl (fun z8 z9 z10 z11 z12 z13 => ?_) (fun v1 i2 r3 hv4 hi5 hw6 hq7 => ?_)
  · obtain ⟨e14, h⟩ := z13
    subst e14
    rcases h with ⟨rfl, h⟩ | ⟨rfl, h⟩
    · refine V.catch (hh := [(0, 12, 15, 13), (0, 12, 19, 15)]) (pre := []) (x := (0, 12, 15, 13)) (suf := [(0, 12, 19, 15)]) (name := "java/lang/IllegalArgumentException") hG hT rfl (fun z hz => by cases hz) (by decide) (by decide) kw_1247 kw_1257 (fun q16 => ?_)
      refine V.astore (pc := 15) (lv' := [(5, .ref q16), (0, .ref (sA Δ 0)), (1, .int (sJ p1)), (2, .int (sJ p2)), (3, .int (sJ p3)), (4, .ref (sA Δ 540))]) hG dL_action_15 (by decide) rfl ?_
      refine V.iconst (pc := 17) hG dL_action_17 ?_
      exact fin dL_action_18 ((sR_l rfl))  (by decide) (by decide) z11 hw ⟨rfl, h⟩
    · refine V.catch (hh := [(0, 12, 15, 13), (0, 12, 19, 15)]) (pre := [(0, 12, 15, 13)]) (x := (0, 12, 19, 15)) (suf := []) (name := "java/lang/IllegalStateException") hG hT rfl (fun z hz => by simp only [List.mem_cons, List.not_mem_nil, or_false] at hz; rcases hz with rfl; exact ⟨"java/lang/IllegalArgumentException", by decide, kw_1247, by decide⟩) (by decide) (by decide) kw_1248 kw_1328 (fun q17 => ?_)
      refine V.astore (pc := 19) (lv' := [(5, .ref q17), (0, .ref (sA Δ 0)), (1, .int (sJ p1)), (2, .int (sJ p2)), (3, .int (sJ p3)), (4, .ref (sA Δ 540))]) hG dL_action_19 (by decide) rfl ?_
      refine V.iconst (pc := 21) hG dL_action_21 ?_
      exact fin dL_action_22 ((sR_l rfl))  (by decide) (by decide) z11 hw ⟨rfl, h⟩
  · obtain ⟨e19, h⟩ := hq7
    subst e19
    refine V.i2l (pc := 10) hG dL_action_10 ?_
    refine V.last0 (pc := 11) (o := 540) hG a_540 a_540.n (by decide) dL_action_11 ?_
    refine V.goto (pc := 12) (tgt := 23) hG dL_action_12 (by decide) ?_
    refine V.iconst (pc := 23) hG dL_action_23 ?_
    exact fin dL_action_24 ((sR_l rfl))  (by decide) (by decide) ((okI_st (okI_st hi5 (sR_jLo _)) (sR_jHi _))) hw ⟨rfl, h⟩
set_option maxRecDepth 100000 in
set_option maxHeartbeats 4000000 in
theorem sm_L_setDepth (l : Launch) (Δ : Wd) {i r : MI} {p1 : Int} {p2 : Int} (hp1 : sR p1) (hp2 : sR p2) {Q : Int → MI → Prop} (hst : l.stackTraces = false) (hi : okI i) (hw : Wf r) (h : wp_L_setDepth p1 p2 i r Q) : Met l yL_setDepth (Cond.codeWith yL_setDepth cL_setDepth 5 (some .int) [(0, 10, 13, 13)] :: gW) (sRx 7 105 1 6) (sPc Δ [.ref (sA Δ 0), .int (sJ p1), .int (sJ p2), .ref (sA Δ 540)] i r) (sQi Δ (fun x i' r' => r = r' ∧ Q x i')) 1 6 (sFr Δ) := by
  refine Cw.i (by decide) rfl (Nat.le_of_ble_eq_true rfl) (fun Γ Q0 hG hT fin => ?_)
  have hG : okG Γ Δ l (sRx 7 105 1 6) cL_setDepth "SchedularyLaw" 5 := hG
  show V Γ Δ 542 false i r 0 0 Q0 0 [(0, .ref (sA Δ 0)), (1, .int (sJ p1)), (2, .int (sJ p2)), (3, .ref (sA Δ 540))] []
  refine V.aload_n (pc := 0) hG dL_setDepth_0 rfl 3 rfl ?_
  refine V.iconst (pc := 1) hG dL_setDepth_1 ?_
  refine V.aload_n (pc := 2) hG dL_setDepth_2 rfl 0 rfl ?_
  refine V.iload_n (pc := 3) hG dL_setDepth_3 rfl 1 rfl ?_
  refine V.iload_n (pc := 4) hG dL_setDepth_4 rfl 2 rfl ?_
  refine V.xcallVi (pc := 5) (As := [.int (sJ p1), .int (sJ p2)]) (stk := [.int (sJ 0), .ref (sA Δ 540)]) hG (sm_X11_setDepth l Δ hp1 hp2 hst hi hw h) mY_X11_setDepth kw_1624 kw_1625 kw_1626 a_0 (by decide) (q := (RX11, TX11, 11)) rfl rfl ⟨Nat.le_of_ble_eq_true rfl, Nat.le_of_ble_eq_true rfl, Nat.le_of_ble_eq_true rfl, Nat.le_of_ble_eq_true rfl⟩ rfl (Nat.le_of_ble_eq_true rfl) dL_setDepth_5 rfl (fun z8 z9 z10 z11 z12 z13 => ?_) (fun v1 i2 r3 hv4 hi5 hw6 hq7 => ?_)
  · obtain ⟨e14, h⟩ := z13
    subst e14
    rcases h with ⟨rfl, h⟩
    refine V.catch (hh := [(0, 10, 13, 13)]) (pre := []) (x := (0, 10, 13, 13)) (suf := []) (name := "java/lang/IllegalArgumentException") hG hT rfl (fun z hz => by cases hz) (by decide) (by decide) kw_1247 kw_1257 (fun q16 => ?_)
    refine V.astore (pc := 13) (lv' := [(4, .ref q16), (0, .ref (sA Δ 0)), (1, .int (sJ p1)), (2, .int (sJ p2)), (3, .ref (sA Δ 540))]) hG dL_setDepth_13 (by decide) rfl ?_
    refine V.iconst (pc := 15) hG dL_setDepth_15 ?_
    exact fin dL_setDepth_16 ((sR_l rfl))  (by decide) (by decide) z11 hw ⟨rfl, h⟩
  · obtain ⟨e18, h⟩ := hq7
    subst e18
    refine V.i2l (pc := 8) hG dL_setDepth_8 ?_
    refine V.last0 (pc := 9) (o := 540) hG a_540 a_540.n (by decide) dL_setDepth_9 ?_
    refine V.goto (pc := 10) (tgt := 17) hG dL_setDepth_10 (by decide) ?_
    refine V.iconst (pc := 17) hG dL_setDepth_17 ?_
    exact fin dL_setDepth_18 ((sR_l rfl))  (by decide) (by decide) ((okI_st (okI_st hi5 (sR_jLo _)) (sR_jHi _))) hw ⟨rfl, h⟩
set_option maxRecDepth 100000 in
set_option maxHeartbeats 4000000 in
theorem sm_L_waitsFor (l : Launch) (Δ : Wd) {i r : MI} {p1 : Int} (hp1 : sR p1) {Q : Int → MI → Prop} (hst : l.stackTraces = false) (hi : okI i) (hw : Wf r) (h : wp_L_waitsFor p1 i r Q) : Met l yL_waitsFor (Cond.codeWith yL_waitsFor cL_waitsFor 4 (some .int) [(0, 9, 12, 13)] :: gW) (sRx 7 103 1 6) (sPc Δ [.ref (sA Δ 0), .int (sJ p1), .ref (sA Δ 540)] i r) (sQi Δ (fun x i' r' => r = r' ∧ Q x i')) 1 6 (sFr Δ) := by
  refine Cw.i (by decide) rfl (Nat.le_of_ble_eq_true rfl) (fun Γ Q0 hG hT fin => ?_)
  have hG : okG Γ Δ l (sRx 7 103 1 6) cL_waitsFor "SchedularyLaw" 4 := hG
  show V Γ Δ 542 false i r 0 0 Q0 0 [(0, .ref (sA Δ 0)), (1, .int (sJ p1)), (2, .ref (sA Δ 540))] []
  refine V.aload_n (pc := 0) hG dL_waitsFor_0 rfl 2 rfl ?_
  refine V.iconst (pc := 1) hG dL_waitsFor_1 ?_
  refine V.aload_n (pc := 2) hG dL_waitsFor_2 rfl 0 rfl ?_
  refine V.iload_n (pc := 3) hG dL_waitsFor_3 rfl 1 rfl ?_
  refine V.xcallVi (pc := 4) (As := [.int (sJ p1)]) (stk := [.int (sJ 0), .ref (sA Δ 540)]) hG (sm_X11_waitsFor l Δ hp1 hst hi hw h) mY_X11_waitsFor kw_1632 kw_1633 kw_1634 a_0 (by decide) (q := (RX11, TX11, 11)) rfl rfl ⟨Nat.le_of_ble_eq_true rfl, Nat.le_of_ble_eq_true rfl, Nat.le_of_ble_eq_true rfl, Nat.le_of_ble_eq_true rfl⟩ rfl (Nat.le_of_ble_eq_true rfl) dL_waitsFor_4 rfl (fun z8 z9 z10 z11 z12 z13 => ?_) (fun v1 i2 r3 hv4 hi5 hw6 hq7 => ?_)
  · obtain ⟨e14, h⟩ := z13
    subst e14
    rcases h with ⟨rfl, h⟩
    refine V.catch (hh := [(0, 9, 12, 13)]) (pre := []) (x := (0, 9, 12, 13)) (suf := []) (name := "java/lang/IllegalArgumentException") hG hT rfl (fun z hz => by cases hz) (by decide) (by decide) kw_1247 kw_1257 (fun q16 => ?_)
    refine V.astore_n (pc := 12) (lv' := [(3, .ref q16), (0, .ref (sA Δ 0)), (1, .int (sJ p1)), (2, .ref (sA Δ 540))]) hG dL_waitsFor_12 rfl (by decide) rfl ?_
    refine V.iconst (pc := 13) hG dL_waitsFor_13 ?_
    exact fin dL_waitsFor_14 ((sR_l rfl))  (by decide) (by decide) z11 hw ⟨rfl, h⟩
  · obtain ⟨e18, h⟩ := hq7
    subst e18
    refine V.i2l (pc := 7) hG dL_waitsFor_7 ?_
    refine V.last0 (pc := 8) (o := 540) hG a_540 a_540.n (by decide) dL_waitsFor_8 ?_
    refine V.goto (pc := 9) (tgt := 15) hG dL_waitsFor_9 (by decide) ?_
    refine V.iconst (pc := 15) hG dL_waitsFor_15 ?_
    exact fin dL_waitsFor_16 ((sR_l rfl))  (by decide) (by decide) ((okI_st (okI_st hi5 (sR_jLo _)) (sR_jHi _))) hw ⟨rfl, h⟩
set_option maxRecDepth 100000 in
set_option maxHeartbeats 4000000 in
theorem sm_L_leastDepth (l : Launch) (Δ : Wd) {i r : MI}   {Q : Int → MI → Prop} (hst : l.stackTraces = false) (hi : okI i) (hw : Wf r) (h : wp_L_leastDepth  i r Q) : Met l yL_leastDepth (Cond.codeWith yL_leastDepth cL_leastDepth 3 (some .int) [(0, 8, 11, 72)] :: gW) (sRx 7 103 1 6) (sPc Δ [.ref (sA Δ 0), .ref (sA Δ 540)] i r) (sQi Δ (fun x i' r' => r = r' ∧ Q x i')) 1 6 (sFr Δ) := by
  refine Cw.i (by decide) rfl (Nat.le_of_ble_eq_true rfl) (fun Γ Q0 hG hT fin => ?_)
  have hG : okG Γ Δ l (sRx 7 103 1 6) cL_leastDepth "SchedularyLaw" 3 := hG
  show V Γ Δ 542 false i r 0 0 Q0 0 [(0, .ref (sA Δ 0)), (1, .ref (sA Δ 540))] []
  refine V.aload_n (pc := 0) hG dL_leastDepth_0 rfl 1 rfl ?_
  refine V.iconst (pc := 1) hG dL_leastDepth_1 ?_
  refine V.aload_n (pc := 2) hG dL_leastDepth_2 rfl 0 rfl ?_
  refine V.xcallVi (pc := 3) (As := []) (stk := [.int (sJ 0), .ref (sA Δ 540)]) hG (sm_X11_leastDepth l Δ  hst hi hw h) mY_X11_leastDepth kw_1644 kw_1645 kw_1646 a_0 (by decide) (q := (RX11, TX11, 11)) rfl rfl ⟨Nat.le_of_ble_eq_true rfl, Nat.le_of_ble_eq_true rfl, Nat.le_of_ble_eq_true rfl, Nat.le_of_ble_eq_true rfl⟩ rfl (Nat.le_of_ble_eq_true rfl) dL_leastDepth_3 rfl (fun z8 z9 z10 z11 z12 z13 => ?_) (fun v1 i2 r3 hv4 hi5 hw6 hq7 => ?_)
  · obtain ⟨e14, h⟩ := z13
    subst e14
    rcases h with ⟨rfl, h⟩
    refine V.catch (hh := [(0, 8, 11, 72)]) (pre := []) (x := (0, 8, 11, 72)) (suf := []) (name := "java/util/NoSuchElementException") hG hT rfl (fun z hz => by cases hz) (by decide) (by decide) kw_1544 kw_1552 (fun q16 => ?_)
    refine V.astore_n (pc := 11) (lv' := [(2, .ref q16), (0, .ref (sA Δ 0)), (1, .ref (sA Δ 540))]) hG dL_leastDepth_11 rfl (by decide) rfl ?_
    refine V.iconst (pc := 12) hG dL_leastDepth_12 ?_
    exact fin dL_leastDepth_13 ((sR_l rfl))  (by decide) (by decide) z11 hw ⟨rfl, h⟩
  · obtain ⟨e18, h⟩ := hq7
    subst e18
    refine V.i2l (pc := 6) hG dL_leastDepth_6 ?_
    refine V.last0 (pc := 7) (o := 540) hG a_540 a_540.n (by decide) dL_leastDepth_7 ?_
    refine V.goto (pc := 8) (tgt := 14) hG dL_leastDepth_8 (by decide) ?_
    refine V.iconst (pc := 14) hG dL_leastDepth_14 ?_
    exact fin dL_leastDepth_15 ((sR_l rfl))  (by decide) (by decide) ((okI_st (okI_st hi5 (sR_jLo _)) (sR_jHi _))) hw ⟨rfl, h⟩
set_option maxRecDepth 100000 in
set_option maxHeartbeats 4000000 in
theorem sm_L_busyShare (l : Launch) (Δ : Wd) {i r : MI} {p1 : Int} (hp1 : sR p1) {Q : Int → MI → MI → Prop} (hst : l.stackTraces = false) (hi : okI i) (hw : Wf r) (h : wp_L_busyShare p1 i r Q) : Met l yL_busyShare (Cond.codeWith yL_busyShare cL_busyShare 4 (some .int) [(0, 9, 12, 13)] :: gW) (sRx 7 168 1 6) (sPc Δ [.ref (sA Δ 0), .int (sJ p1), .ref (sA Δ 541)] i r) (sQi Δ (Q)) 1 6 (sFr Δ) := by
  refine Cw.i (by decide) rfl (Nat.le_of_ble_eq_true rfl) (fun Γ Q0 hG hT fin => ?_)
  have hG : okG Γ Δ l (sRx 7 168 1 6) cL_busyShare "SchedularyLaw" 4 := hG
  show V Γ Δ 542 false i r 0 0 Q0 0 [(0, .ref (sA Δ 0)), (1, .int (sJ p1)), (2, .ref (sA Δ 541))] []
  refine V.aload_n (pc := 0) hG dL_busyShare_0 rfl 2 rfl ?_
  refine V.iconst (pc := 1) hG dL_busyShare_1 ?_
  refine V.aload_n (pc := 2) hG dL_busyShare_2 rfl 0 rfl ?_
  refine V.iload_n (pc := 3) hG dL_busyShare_3 rfl 1 rfl ?_
  refine V.xcallVf (pc := 4) (As := [.int (sJ p1)]) (stk := [.int (sJ 0), .ref (sA Δ 541)]) hG (sm_X11_busyShare l Δ hp1 hst hi hw h) mY_X11_busyShare kw_1657 kw_1658 kw_1659 a_0 (by decide) (q := (RX11, TX11, 11)) rfl rfl ⟨Nat.le_of_ble_eq_true rfl, Nat.le_of_ble_eq_true rfl, Nat.le_of_ble_eq_true rfl, Nat.le_of_ble_eq_true rfl⟩ rfl (Nat.le_of_ble_eq_true rfl) dL_busyShare_4 rfl (fun z10 z11 z12 z13 z14 z15 => ?_) (fun v1 i2 r3 hi5 hw6 hq7 => ?_)
  · have h := z15
    rcases h with ⟨rfl, h⟩
    refine V.catch (hh := [(0, 9, 12, 13)]) (pre := []) (x := (0, 9, 12, 13)) (suf := []) (name := "java/lang/IllegalArgumentException") hG hT rfl (fun z hz => by cases hz) (by decide) (by decide) kw_1247 kw_1257 (fun q18 => ?_)
    refine V.astore_n (pc := 12) (lv' := [(3, .ref q18), (0, .ref (sA Δ 0)), (1, .int (sJ p1)), (2, .ref (sA Δ 541))]) hG dL_busyShare_12 rfl (by decide) rfl ?_
    refine V.iconst (pc := 13) hG dL_busyShare_13 ?_
    exact fin dL_busyShare_14 ((sR_l rfl))  (by decide) (by decide) z13 z14 h
  · have h := hq7
    obtain ⟨g9, h⟩ := h
    refine V.f2d (pc := 7) hG g9 dL_busyShare_7 ?_
    refine V.dast0 (pc := 8) (o := 541) hG a_541 a_541.n (by decide) dL_busyShare_8 ?_
    refine V.goto (pc := 9) (tgt := 15) hG dL_busyShare_9 (by decide) ?_
    refine V.iconst (pc := 15) hG dL_busyShare_15 ?_
    exact fin dL_busyShare_16 ((sR_l rfl))  (by decide) (by decide) ((okI_st (okI_st hi5 (sR_jLo _)) (sR_jHi _))) hw6 h
set_option maxRecDepth 100000 in
set_option maxHeartbeats 4000000 in
theorem sm_L_meanStep (l : Launch) (Δ : Wd) {i r : MI}   {Q : Int → MI → MI → Prop} (hst : l.stackTraces = false) (hi : okI i) (hw : Wf r) (h : wp_L_meanStep  i r Q) : Met l yL_meanStep (Cond.codeWith yL_meanStep cL_meanStep 3 (some .int) [(0, 7, 10, 114)] :: gW) (sRx 7 167 1 6) (sPc Δ [.ref (sA Δ 0), .ref (sA Δ 541)] i r) (sQi Δ (Q)) 1 6 (sFr Δ) := by
  refine Cw.i (by decide) rfl (Nat.le_of_ble_eq_true rfl) (fun Γ Q0 hG hT fin => ?_)
  have hG : okG Γ Δ l (sRx 7 167 1 6) cL_meanStep "SchedularyLaw" 3 := hG
  show V Γ Δ 542 false i r 0 0 Q0 0 [(0, .ref (sA Δ 0)), (1, .ref (sA Δ 541))] []
  refine V.aload_n (pc := 0) hG dL_meanStep_0 rfl 1 rfl ?_
  refine V.iconst (pc := 1) hG dL_meanStep_1 ?_
  refine V.aload_n (pc := 2) hG dL_meanStep_2 rfl 0 rfl ?_
  refine V.xcallVd (pc := 3) (As := []) (stk := [.int (sJ 0), .ref (sA Δ 541)]) hG (sm_X11_meanStep l Δ  hst hi hw h) mY_X11_meanStep kw_1679 kw_1680 kw_1681 a_0 (by decide) (q := (RX11, TX11, 11)) rfl rfl ⟨Nat.le_of_ble_eq_true rfl, Nat.le_of_ble_eq_true rfl, Nat.le_of_ble_eq_true rfl, Nat.le_of_ble_eq_true rfl⟩ rfl (Nat.le_of_ble_eq_true rfl) dL_meanStep_3 rfl (fun z8 z9 z10 z11 z12 z13 => ?_) (fun v1 i2 r3 hi5 hw6 hq7 => ?_)
  · have h := z13
    rcases h with ⟨rfl, h⟩
    refine V.catch (hh := [(0, 7, 10, 114)]) (pre := []) (x := (0, 7, 10, 114)) (suf := []) (name := "java/lang/ArithmeticException") hG hT rfl (fun z hz => by cases hz) (by decide) (by decide) kw_1665 kw_1677 (fun q16 => ?_)
    refine V.astore_n (pc := 10) (lv' := [(2, .ref q16), (0, .ref (sA Δ 0)), (1, .ref (sA Δ 541))]) hG dL_meanStep_10 rfl (by decide) rfl ?_
    refine V.iconst (pc := 11) hG dL_meanStep_11 ?_
    exact fin dL_meanStep_12 ((sR_l rfl))  (by decide) (by decide) z11 z12 h
  · have h := hq7
    refine V.dast0 (pc := 6) (o := 541) hG a_541 a_541.n (by decide) dL_meanStep_6 ?_
    refine V.goto (pc := 7) (tgt := 13) hG dL_meanStep_7 (by decide) ?_
    refine V.iconst (pc := 13) hG dL_meanStep_13 ?_
    exact fin dL_meanStep_14 ((sR_l rfl))  (by decide) (by decide) ((okI_st (okI_st hi5 (sR_jLo _)) (sR_jHi _))) hw6 h
set_option maxRecDepth 100000 in
set_option maxHeartbeats 4000000 in
theorem sm_J3_checkFromToIndex_8c36e (l : Launch) (Δ : Wd) {i r : MI} {p0 : Int} {p1 : Int} {p2 : Int} {w3 : Value} (hp0 : sR p0) (hp1 : sR p1) (hp2 : sR p2) (hw3 : w3.category = 1) {Q : Int → Prop} (hi : okI i) (hw : Wf r) (h : wp_J3_checkFromToIndex_8c36e p0 p1 p2 i r Q) : Met l yJ3_checkFromToIndex_8c36e (Cond.code yJ3_checkFromToIndex_8c36e cJ3_checkFromToIndex_8c36e 4 (some .int) :: gW) (sRm 0 0) (sPc Δ [.int (sJ p0), .int (sJ p1), .int (sJ p2), w3] i r) (sQi Δ (fun x i' r' => i = i' ∧ r = r' ∧ Q x)) 0 0 (sFr Δ) := by
  refine Ct.i (ty := .int) (by decide) rfl (by simp only [lg_sl, List.flatMap_cons, List.flatMap_nil, hw3]; exact Nat.le_of_ble_eq_true rfl) (fun Γ Q0 hG fin => ?_)
  have hG : okG Γ Δ l (sRm 0 0) cJ3_checkFromToIndex_8c36e "jdk/internal/util/Preconditions" 4 := hG
  show V Γ Δ 542 false i r 0 0 Q0 0 [(0, .int (sJ p0)), (1, .int (sJ p1)), (2, .int (sJ p2)), (3, w3)] []
  have jn14 : s14_J3_checkFromToIndex_8c36e p0 p1 p2 i r Q → V Γ Δ 542 false i r 0 0 Q0 14 [(0, .int (sJ p0)), (1, .int (sJ p1)), (2, .int (sJ p2)), (3, w3)] [] := by
    intro h
    exact h.elim
  refine V.iload_n (pc := 0) hG dJ3_checkFromToIndex_8c36e_0 rfl 0 rfl ?_
  obtain ⟨t2, f3⟩ := h
  refine V.if_lt (pc := 1) (tgt := 14) hG hp0 dJ3_checkFromToIndex_8c36e_1 (by decide) (fun c1 => ?_) (fun c1 => ?_)
  · have h := t2 c1
    clear t2 f3
    exact jn14 h
  · have h := f3 c1
    clear t2 f3
    refine V.iload_n (pc := 4) hG dJ3_checkFromToIndex_8c36e_4 rfl 0 rfl ?_
    refine V.iload_n (pc := 5) hG dJ3_checkFromToIndex_8c36e_5 rfl 1 rfl ?_
    obtain ⟨t5, f6⟩ := h
    refine V.icmp_gt (pc := 6) (tgt := 14) hG hp0 hp1 dJ3_checkFromToIndex_8c36e_6 (by decide) (fun c4 => ?_) (fun c4 => ?_)
    · have h := t5 c4
      clear t5 f6
      exact jn14 h
    · have h := f6 c4
      clear t5 f6
      refine V.iload_n (pc := 9) hG dJ3_checkFromToIndex_8c36e_9 rfl 1 rfl ?_
      refine V.iload_n (pc := 10) hG dJ3_checkFromToIndex_8c36e_10 rfl 2 rfl ?_
      obtain ⟨t8, f9⟩ := h
      refine V.icmp_le (pc := 11) (tgt := 22) hG hp1 hp2 dJ3_checkFromToIndex_8c36e_11 (by decide) (fun c7 => ?_) (fun c7 => ?_)
      · have h := t8 c7
        clear t8 f9
        refine V.iload_n (pc := 22) hG dJ3_checkFromToIndex_8c36e_22 rfl 0 rfl ?_
        exact fin dJ3_checkFromToIndex_8c36e_23 hp0 rfl hi hw ⟨rfl, rfl, h⟩
      · have h := f9 c7
        clear t8 f9
        exact jn14 h
set_option maxRecDepth 100000 in
set_option maxHeartbeats 4000000 in
theorem sm_J0_checkBoundsBeginEnd_23922 (l : Launch) (Δ : Wd) {i r : MI} {p0 : Int} {p1 : Int} {p2 : Int} (hp0 : sR p0) (hp1 : sR p1) (hp2 : sR p2) {Q : Prop} (hi : okI i) (hw : Wf r) (h : wp_J0_checkBoundsBeginEnd_23922 p0 p1 p2 i r Q) : Met l yJ0_checkBoundsBeginEnd_23922 (Cond.code yJ0_checkBoundsBeginEnd_23922 cJ0_checkBoundsBeginEnd_23922 3 none :: gW) (sRm 1 23) (sPc Δ [.int (sJ p0), .int (sJ p1), .int (sJ p2)] i r) (sQv Δ (fun i' r' => i = i' ∧ r = r' ∧ Q)) 0 0 (sFr Δ) := by
  refine Ct.v (by decide) rfl (Nat.le_of_ble_eq_true rfl) (fun Γ Q0 hG fin => ?_)
  have hG : okG Γ Δ l (sRm 1 23) cJ0_checkBoundsBeginEnd_23922 "java/lang/String" 3 := hG
  show V Γ Δ 542 false i r 0 0 Q0 0 [(0, .int (sJ p0)), (1, .int (sJ p1)), (2, .int (sJ p2))] []
  refine V.iload_n (pc := 0) hG dJ0_checkBoundsBeginEnd_23922_0 rfl 0 rfl ?_
  refine V.iload_n (pc := 1) hG dJ0_checkBoundsBeginEnd_23922_1 rfl 1 rfl ?_
  refine V.iload_n (pc := 2) hG dJ0_checkBoundsBeginEnd_23922_2 rfl 2 rfl ?_
  refine V.sfmt (pc := 3) hG kw_706 dJ0_checkBoundsBeginEnd_23922_3 (fun w1 hw1 => ?_)
  refine V.callSi (pc := 6) (As := [.int (sJ p0), .int (sJ p1), .int (sJ p2), w1]) (stk := []) hG (sm_J3_checkFromToIndex_8c36e l Δ hp0 hp1 hp2 hw1 hi hw h) mY_J3_checkFromToIndex_8c36e kw_708 kw_709 ⟨Nat.le_of_ble_eq_true rfl, Nat.le_of_ble_eq_true rfl, Nat.le_of_ble_eq_true rfl, Nat.le_of_ble_eq_true rfl⟩ rfl (Nat.le_of_ble_eq_true rfl) dJ0_checkBoundsBeginEnd_23922_6 rfl (fun v2 i3 r4 hv5 hi6 hw7 hq8 => ?_)
  obtain ⟨e9, e10, h⟩ := hq8
  subst e9
  subst e10
  refine V.pop (pc := 9) hG dJ0_checkBoundsBeginEnd_23922_9 rfl ?_
  exact fin dJ0_checkBoundsBeginEnd_23922_10 hi hw ⟨rfl, rfl, h⟩
