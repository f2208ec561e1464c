set_option maxRecDepth 100000 in
set_option maxHeartbeats 4000000 in
theorem sm_X12_setDepth (l : Launch) (Δ : Wd) {i r : MI} {p1 : Int} {p2 : Int} (hp1 : sR p1) (hp2 : sR p2) {Q : Int → MI → Prop} (hi : okI i) (hw : Wf r) (h : wp_X12_setDepth p1 p2 i r Q) : Met l yX12_setDepth (Cond.code yX12_setDepth cX12_setDepth 4 (some .int) :: gW) (sRm 1 22) (sPc Δ [.ref (sA Δ 504), .int (sJ p1), .int (sJ p2)] i r) (sQi Δ (fun x i' r' => r = r' ∧ Q x i')) 0 0 (sFr Δ) := by
  refine Ct.i (ty := .int) (by decide) rfl (Nat.le_of_ble_eq_true rfl) (fun Γ Q0 hG fin => ?_)
  have hG : okG Γ Δ l (sRm 1 22) cX12_setDepth "SchedularyModel" 4 := hG
  show V Γ Δ 542 false i r 0 0 Q0 0 [(0, .ref (sA Δ 504)), (1, .int (sJ p1)), (2, .int (sJ p2))] []
  have jn30 : ∀ (k1j30 : Int) (ij30 : MI), sR k1j30 → okI ij30 → s30_X12_setDepth p1 p2 k1j30 ij30 r Q → V Γ Δ 542 false ij30 r 0 0 Q0 30 [(0, .ref (sA Δ 504)), (1, .int (sJ p1)), (2, .int (sJ p2))] [.int (sJ k1j30), .ref (sA Δ 504)] := by
    intro k1j30 ij30 hk1j30 hij30 h
    refine V.iconst (pc := 30) hG dX12_setDepth_30 ?_
    refine V.callVi (pc := 31) (As := [.int (sJ k1j30), .int (sJ 1)]) (stk := []) hG (sm_X12_fails l Δ hk1j30 ((sR_l rfl)) hij30 hw h) mY_X12_fails kw_1853 kw_1855 kw_106 a_504 (by decide) (q := (RX12, TX12, 49)) rfl rfl ⟨Nat.le_of_ble_eq_true rfl, Nat.le_of_ble_eq_true rfl, Nat.le_of_ble_eq_true rfl, Nat.le_of_ble_eq_true rfl⟩ rfl (Nat.le_of_ble_eq_true rfl) dX12_setDepth_31 rfl (fun v15 i16 r17 hv18 hi19 hw20 hq21 => ?_)
    obtain ⟨e28, h⟩ := hq21
    subst e28
    obtain ⟨t23, f24⟩ := h
    refine V.if_eq (pc := 34) (tgt := 39) hG hv18 dX12_setDepth_34 (by decide) (fun c22 => ?_) (fun c22 => ?_)
    · have h := t23 c22
      clear t23 f24
      refine V.aload_n (pc := 39) hG dX12_setDepth_39 rfl 0 rfl ?_
      refine V.getR (x := 537) (pc := 40) (ci := 14) (k := 45) (M := 49) (T := TX12) (o := 504) (kz := 45) hG a_504 a_504.n (by decide) hin_X12 rfl (by decide) (by decide) rfl kw_1737 rfl ((hw).1 (504, 45, 537) (by decide)) (by decide) dX12_setDepth_40 ?_
      refine V.iload_n (pc := 43) hG dX12_setDepth_43 rfl 1 rfl ?_
      obtain ⟨g25, h⟩ := h
      refine V.iald (pc := 44) (z := 4) (o := 537) hG a_537 a_537.n hp1 g25 dX12_setDepth_44 ?_
      refine V.istore_n (pc := 45) (lv' := [(3, .int (sJ (i16 537 p1))), (0, .ref (sA Δ 504)), (1, .int (sJ p1)), (2, .int (sJ p2))]) hG dX12_setDepth_45 rfl (by decide) rfl ?_
      refine V.aload_n (pc := 46) hG dX12_setDepth_46 rfl 1 rfl ?_
      refine V.getR (x := 537) (pc := 47) (ci := 14) (k := 45) (M := 49) (T := TX12) (o := 504) (kz := 45) hG a_504 a_504.n (by decide) hin_X12 rfl (by decide) (by decide) rfl kw_1737 rfl ((hw).1 (504, 45, 537) (by decide)) (by decide) dX12_setDepth_47 ?_
      refine V.iload_n (pc := 50) hG dX12_setDepth_50 rfl 2 rfl ?_
      refine V.iload_n (pc := 51) hG dX12_setDepth_51 rfl 3 rfl ?_
      obtain ⟨g26, h⟩ := h
      refine V.iast (pc := 52) (z := 4) (o := 537) hG a_537 a_537.n hp1 g26 dX12_setDepth_52 ?_
      refine V.iload_n (pc := 53) hG dX12_setDepth_53 rfl 0 rfl ?_
      exact fin dX12_setDepth_54 ((hi19 _ _)) rfl ((okI_st hi19 hp2)) hw ⟨rfl, h⟩
    · have h := f24 c22
      clear t23 f24
      refine V.iconst (pc := 37) hG dX12_setDepth_37 ?_
      exact fin dX12_setDepth_38 ((sR_l rfl)) rfl hi19 hw ⟨rfl, h⟩
  have jn25 : ∀  (ij25 : MI), okI ij25 → s25_X12_setDepth p1 p2 ij25 r Q → V Γ Δ 542 false ij25 r 0 0 Q0 25 [(0, .ref (sA Δ 504)), (1, .int (sJ p1)), (2, .int (sJ p2))] [.ref (sA Δ 504)] := by
    intro ij25 hij25 h
    refine V.iconst (pc := 25) hG dX12_setDepth_25 ?_
    refine V.goto (pc := 26) (tgt := 30) hG dX12_setDepth_26 (by decide) ?_
    exact jn30 1 ij25 ((sR_l rfl)) hij25 h
  refine V.aload_n (pc := 0) hG dX12_setDepth_0 rfl 0 rfl ?_
  refine V.iconst (pc := 1) hG dX12_setDepth_1 ?_
  refine V.putI (pc := 2) (ci := 14) (k := 0) (M := 49) (T := TX12) (o := 504) (kz := 0) hG a_504 a_504.n (by decide) hin_X12 rfl (by decide) (by decide) rfl kw_1692 rfl tyX12 tyX12_ok nmX12 rfl (ty := tyX12 0) (tyX12_ok 0 (by decide)) rfl rfl dX12_setDepth_2 ?_
  refine V.aload_n (pc := 5) hG dX12_setDepth_5 rfl 0 rfl ?_
  refine V.iload_n (pc := 6) hG dX12_setDepth_6 rfl 1 rfl ?_
  refine V.iconst (pc := 7) hG dX12_setDepth_7 ?_
  refine V.iconst (pc := 8) hG dX12_setDepth_8 ?_
  refine V.callSi (pc := 9) (As := [.int (sJ p1), .int (sJ 0), .int (sJ 3)]) (stk := [.ref (sA Δ 504)]) hG (sm_X12_in l Δ hp1 ((sR_l rfl)) ((sR_l rfl)) ((okI_st hi ((sR_l rfl)))) hw h) mY_X12_in kw_1848 kw_1849 ⟨Nat.le_of_ble_eq_true rfl, Nat.le_of_ble_eq_true rfl, Nat.le_of_ble_eq_true rfl, Nat.le_of_ble_eq_true rfl⟩ rfl (Nat.le_of_ble_eq_true rfl) dX12_setDepth_9 rfl (fun v29 i30 r31 hv32 hi33 hw34 hq35 => ?_)
  obtain ⟨e51, e52, h⟩ := hq35
  subst e51
  subst e52
  obtain ⟨t37, f38⟩ := h
  refine V.if_eq (pc := 12) (tgt := 25) hG hv32 dX12_setDepth_12 (by decide) (fun c36 => ?_) (fun c36 => ?_)
  · have h := t37 c36
    clear t37 f38
    exact jn25 (st i 504 0 0) ((okI_st hi ((sR_l rfl)))) h
  · have h := f38 c36
    clear t37 f38
    refine V.iload_n (pc := 15) hG dX12_setDepth_15 rfl 2 rfl ?_
    refine V.iconst (pc := 16) hG dX12_setDepth_16 ?_
    refine V.bipush (pc := 17) hG dX12_setDepth_17 (by decide) ?_
    refine V.callSi (pc := 19) (As := [.int (sJ p2), .int (sJ 1), .int (sJ 16)]) (stk := [.ref (sA Δ 504)]) hG (sm_X12_in l Δ hp2 ((sR_l rfl)) ((sR_l rfl)) ((okI_st hi ((sR_l rfl)))) hw h) mY_X12_in kw_1848 kw_1849 ⟨Nat.le_of_ble_eq_true rfl, Nat.le_of_ble_eq_true rfl, Nat.le_of_ble_eq_true rfl, Nat.le_of_ble_eq_true rfl⟩ rfl (Nat.le_of_ble_eq_true rfl) dX12_setDepth_19 rfl (fun v39 i40 r41 hv42 hi43 hw44 hq45 => ?_)
    obtain ⟨e49, e50, h⟩ := hq45
    subst e49
    subst e50
    obtain ⟨f48, t47⟩ := h
    refine V.if_ne (pc := 22) (tgt := 29) hG hv42 dX12_setDepth_22 (by decide) (fun c46 => ?_) (fun c46 => ?_)
    · have h := t47 c46
      clear t47 f48
      refine V.iconst (pc := 29) hG dX12_setDepth_29 ?_
      exact jn30 0 (st i 504 0 0) ((sR_l rfl)) ((okI_st hi ((sR_l rfl)))) h
    · have h := f48 c46
      clear t47 f48
      exact jn25 (st i 504 0 0) ((okI_st hi ((sR_l rfl)))) h
set_option maxRecDepth 100000 in
set_option maxHeartbeats 4000000 in
theorem sm_X12_acts (l : Launch) (Δ : Wd) {i r : MI} {p1 : Int} {p2 : Int} (hp1 : sR p1) (hp2 : sR p2) {Q : Int → MI → Prop} (hi : okI i) (hw : Wf r) (h : wp_X12_acts p1 p2 i r Q) : Met l yX12_acts (Cond.code yX12_acts cX12_acts 7 (some .boolean) :: gW) (sRm 0 0) (sPc Δ [.ref (sA Δ 504), .int (sJ p1), .int (sJ p2)] i r) (sQi Δ (fun x i' r' => r = r' ∧ Q x i')) 0 0 (sFr Δ) := by
  refine Ct.i (ty := .boolean) (by decide) rfl (Nat.le_of_ble_eq_true rfl) (fun Γ Q0 hG fin => ?_)
  have hG : okG Γ Δ l (sRm 0 0) cX12_acts "SchedularyModel" 7 := hG
  show V Γ Δ 542 false i r 0 0 Q0 0 [(0, .ref (sA Δ 504)), (1, .int (sJ p1)), (2, .int (sJ p2))] []
  have jn143 : ∀ (x6j143 : Int) (ij143 : MI), sR x6j143 → okI ij143 → s143_X12_acts x6j143 ij143 r Q → V Γ Δ 542 false ij143 r 0 0 Q0 143 [(6, .int (sJ x6j143))] [] := by
    intro x6j143 ij143 hx6j143 hij143 h
    refine V.iload (pc := 143) hG dX12_acts_143 0 rfl ?_
    obtain ⟨g2, h⟩ := h
    exact fin dX12_acts_145 hx6j143 (nar_z g2) hij143 hw ⟨rfl, h⟩
  have jn131 : ∀ (x6j131 : Int) (k1j131 : Int) (k2j131 : Int) (k3j131 : Int) (ij131 : MI), sR x6j131 → sR k1j131 → sR k2j131 → sR k3j131 → okI ij131 → s131_X12_acts p1 x6j131 k1j131 k2j131 k3j131 ij131 r Q → V Γ Δ 542 false ij131 r 0 0 Q0 131 [(0, .ref (sA Δ 504)), (1, .int (sJ p1)), (6, .int (sJ x6j131))] [.int (sJ k3j131), .int (sJ k2j131), .int (sJ k1j131), .ref (sA Δ 539)] := by
    intro x6j131 k1j131 k2j131 k3j131 ij131 hx6j131 hk1j131 hk2j131 hk3j131 hij131 h
    refine V.iadd (pc := 131) hG dX12_acts_131 ?_
    obtain ⟨g6, h⟩ := h
    refine V.iast (pc := 132) (z := 4) (o := 539) hG a_539 a_539.n hk1j131 g6 dX12_acts_132 ?_
    refine V.aload_n (pc := 133) hG dX12_acts_133 rfl 0 rfl ?_
    refine V.getR (x := 538) (pc := 134) (ci := 14) (k := 46) (M := 49) (T := TX12) (o := 504) (kz := 46) hG a_504 a_504.n (by decide) hin_X12 rfl (by decide) (by decide) rfl kw_1738 rfl ((hw).1 (504, 46, 538) (by decide)) (by decide) dX12_acts_134 ?_
    refine V.iload_n (pc := 137) hG dX12_acts_137 rfl 1 rfl ?_
    refine V.dup2 (pc := 138) hG dX12_acts_138 rfl rfl ?_
    obtain ⟨g7, h⟩ := h
    refine V.iald (pc := 139) (z := 4) (o := 538) hG a_538 a_538.n hp1 g7 dX12_acts_139 ?_
    refine V.iconst (pc := 140) hG dX12_acts_140 ?_
    refine V.iadd (pc := 141) hG dX12_acts_141 ?_
    obtain ⟨g8, h⟩ := h
    refine V.iast (pc := 142) (z := 4) (o := 538) hG a_538 a_538.n hp1 g8 dX12_acts_142 ?_
    refine V.pick [2] rfl ?_
    exact jn143 x6j131 (st (st ij131 539 k1j131 (wr (k2j131 + k3j131))) 538 p1 (wr ((st ij131 539 k1j131 (wr (k2j131 + k3j131))) 538 p1 + 1))) hx6j131 ((okI_st ((okI_st hij131 ((sR_wr _)))) ((sR_wr _)))) h
  have jn106 : ∀ (x4j106 : Int) (x5j106 : Int) (k0j106 : Int) (ij106 : MI), sR x4j106 → sR x5j106 → sR k0j106 → okI ij106 → s106_X12_acts p1 x4j106 x5j106 k0j106 ij106 r Q → V Γ Δ 542 false ij106 r 0 0 Q0 106 [(0, .ref (sA Δ 504)), (1, .int (sJ p1)), (4, .int (sJ x4j106)), (5, .int (sJ x5j106))] [.int (sJ k0j106)] := by
    intro x4j106 x5j106 k0j106 ij106 hx4j106 hx5j106 hk0j106 hij106 h
    refine V.istore (pc := 106) (lv' := [(6, .int (sJ k0j106)), (0, .ref (sA Δ 504)), (1, .int (sJ p1)), (4, .int (sJ x4j106)), (5, .int (sJ x5j106))]) hG dX12_acts_106 (by decide) rfl ?_
    refine V.iload (pc := 108) hG dX12_acts_108 0 rfl ?_
    obtain ⟨t17, f18⟩ := h
    refine V.if_eq (pc := 110) (tgt := 143) hG hk0j106 dX12_acts_110 (by decide) (fun c16 => ?_) (fun c16 => ?_)
    · have h := t17 c16
      clear t17 f18
      refine V.pick [0] rfl ?_
      exact jn143 k0j106 ij106 hk0j106 hij106 h
    · have h := f18 c16
      clear t17 f18
      refine V.aload_n (pc := 113) hG dX12_acts_113 rfl 1 rfl ?_
      refine V.getR (x := 539) (pc := 114) (ci := 14) (k := 47) (M := 49) (T := TX12) (o := 504) (kz := 47) hG a_504 a_504.n (by decide) hin_X12 rfl (by decide) (by decide) rfl kw_1739 rfl ((hw).1 (504, 47, 539) (by decide)) (by decide) dX12_acts_114 ?_
      refine V.iload (pc := 117) hG dX12_acts_117 3 rfl ?_
      refine V.dup2 (pc := 119) hG dX12_acts_119 rfl rfl ?_
      obtain ⟨g19, h⟩ := h
      refine V.iald (pc := 120) (z := 4) (o := 539) hG a_539 a_539.n hx4j106 g19 dX12_acts_120 ?_
      refine V.iload (pc := 121) hG dX12_acts_121 4 rfl ?_
      obtain ⟨t21, f22⟩ := h
      refine V.if_eq (pc := 123) (tgt := 130) hG hx5j106 dX12_acts_123 (by decide) (fun c20 => ?_) (fun c20 => ?_)
      · have h := t21 c20
        clear t21 f22
        refine V.iconst (pc := 130) hG dX12_acts_130 ?_
        refine V.pick [1, 2, 0] rfl ?_
        exact jn131 k0j106 x4j106 (ij106 539 x4j106) (-1) ij106 hk0j106 hx4j106 ((hij106 _ _)) ((sR_l rfl)) hij106 h
      · have h := f22 c20
        clear t21 f22
        refine V.iconst (pc := 126) hG dX12_acts_126 ?_
        refine V.goto (pc := 127) (tgt := 131) hG dX12_acts_127 (by decide) ?_
        refine V.pick [1, 2, 0] rfl ?_
        exact jn131 k0j106 x4j106 (ij106 539 x4j106) 1 ij106 hk0j106 hx4j106 ((hij106 _ _)) ((sR_l rfl)) hij106 h
  have jn80 : ∀ (x4j80 : Int) (x5j80 : Int) (k0j80 : Int) (k1j80 : Int) (ij80 : MI), sR x4j80 → sR x5j80 → sR k0j80 → sR k1j80 → okI ij80 → s80_X12_acts p1 x4j80 x5j80 k0j80 k1j80 ij80 r Q → V Γ Δ 542 false ij80 r 0 0 Q0 80 [(0, .ref (sA Δ 504)), (1, .int (sJ p1)), (4, .int (sJ x4j80)), (5, .int (sJ x5j80))] [.int (sJ k1j80), .int (sJ k0j80)] := by
    intro x4j80 x5j80 k0j80 k1j80 ij80 hx4j80 hx5j80 hk0j80 hk1j80 hij80 h
    obtain ⟨t27, f28⟩ := h
    refine V.icmp_ge (pc := 80) (tgt := 87) hG hk0j80 hk1j80 dX12_acts_80 (by decide) (fun c26 => ?_) (fun c26 => ?_)
    · have h := t27 c26
      clear t27 f28
      refine V.iconst (pc := 87) hG dX12_acts_87 ?_
      refine V.goto (pc := 88) (tgt := 106) hG dX12_acts_88 (by decide) ?_
      exact jn106 x4j80 x5j80 0 ij80 hx4j80 hx5j80 ((sR_l rfl)) hij80 h
    · have h := f28 c26
      clear t27 f28
      refine V.iconst (pc := 83) hG dX12_acts_83 ?_
      refine V.goto (pc := 84) (tgt := 106) hG dX12_acts_84 (by decide) ?_
      exact jn106 x4j80 x5j80 1 ij80 hx4j80 hx5j80 ((sR_l rfl)) hij80 h
  have jn51 : ∀ (x4j51 : Int) (k0j51 : Int) (ij51 : MI), sR x4j51 → sR k0j51 → okI ij51 → s51_X12_acts p1 p2 x4j51 k0j51 ij51 r Q → V Γ Δ 542 false ij51 r 0 0 Q0 51 [(0, .ref (sA Δ 504)), (1, .int (sJ p1)), (2, .int (sJ p2)), (4, .int (sJ x4j51))] [.int (sJ k0j51)] := by
    intro x4j51 k0j51 ij51 hx4j51 hk0j51 hij51 h
    refine V.istore (pc := 51) (lv' := [(5, .int (sJ k0j51)), (0, .ref (sA Δ 504)), (1, .int (sJ p1)), (2, .int (sJ p2)), (4, .int (sJ x4j51))]) hG dX12_acts_51 (by decide) rfl ?_
    refine V.iload (pc := 53) hG dX12_acts_53 0 rfl ?_
    obtain ⟨t42, f43⟩ := h
    refine V.if_eq (pc := 55) (tgt := 91) hG hk0j51 dX12_acts_55 (by decide) (fun c41 => ?_) (fun c41 => ?_)
    · have h := t42 c41
      clear t42 f43
      refine V.aload_n (pc := 91) hG dX12_acts_91 rfl 1 rfl ?_
      refine V.getR (x := 539) (pc := 92) (ci := 14) (k := 47) (M := 49) (T := TX12) (o := 504) (kz := 47) hG a_504 a_504.n (by decide) hin_X12 rfl (by decide) (by decide) rfl kw_1739 rfl ((hw).1 (504, 47, 539) (by decide)) (by decide) dX12_acts_92 ?_
      refine V.iload (pc := 95) hG dX12_acts_95 4 rfl ?_
      obtain ⟨g44, h⟩ := h
      refine V.iald (pc := 97) (z := 4) (o := 539) hG a_539 a_539.n hx4j51 g44 dX12_acts_97 ?_
      obtain ⟨t46, f47⟩ := h
      refine V.if_le (pc := 98) (tgt := 105) hG ((hij51 _ _)) dX12_acts_98 (by decide) (fun c45 => ?_) (fun c45 => ?_)
      · have h := t46 c45
        clear t46 f47
        refine V.iconst (pc := 105) hG dX12_acts_105 ?_
        refine V.pick [1, 2, 4, 0] rfl ?_
        exact jn106 x4j51 k0j51 0 ij51 hx4j51 hk0j51 ((sR_l rfl)) hij51 h
      · have h := f47 c45
        clear t46 f47
        refine V.iconst (pc := 101) hG dX12_acts_101 ?_
        refine V.goto (pc := 102) (tgt := 106) hG dX12_acts_102 (by decide) ?_
        refine V.pick [1, 2, 4, 0] rfl ?_
        exact jn106 x4j51 k0j51 1 ij51 hx4j51 hk0j51 ((sR_l rfl)) hij51 h
    · have h := f43 c41
      clear t42 f43
      refine V.aload_n (pc := 58) hG dX12_acts_58 rfl 1 rfl ?_
      refine V.getR (x := 539) (pc := 59) (ci := 14) (k := 47) (M := 49) (T := TX12) (o := 504) (kz := 47) hG a_504 a_504.n (by decide) hin_X12 rfl (by decide) (by decide) rfl kw_1739 rfl ((hw).1 (504, 47, 539) (by decide)) (by decide) dX12_acts_59 ?_
      refine V.iload (pc := 62) hG dX12_acts_62 4 rfl ?_
      obtain ⟨g48, h⟩ := h
      refine V.iald (pc := 64) (z := 4) (o := 539) hG a_539 a_539.n hx4j51 g48 dX12_acts_64 ?_
      refine V.iload_n (pc := 65) hG dX12_acts_65 rfl 3 rfl ?_
      obtain ⟨f51, t50⟩ := h
      refine V.if_ne (pc := 66) (tgt := 79) hG hp2 dX12_acts_66 (by decide) (fun c49 => ?_) (fun c49 => ?_)
      · have h := t50 c49
        clear t50 f51
        refine V.iload_n (pc := 79) hG dX12_acts_79 rfl 3 rfl ?_
        refine V.pick [1, 2, 4, 0] rfl ?_
        exact jn80 x4j51 k0j51 (ij51 539 x4j51) p2 ij51 hx4j51 hk0j51 ((hij51 _ _)) hp2 hij51 h
      · have h := f51 c49
        clear t50 f51
        refine V.aload_n (pc := 69) hG dX12_acts_69 rfl 1 rfl ?_
        refine V.getR (x := 537) (pc := 70) (ci := 14) (k := 45) (M := 49) (T := TX12) (o := 504) (kz := 45) hG a_504 a_504.n (by decide) hin_X12 rfl (by decide) (by decide) rfl kw_1737 rfl ((hw).1 (504, 45, 537) (by decide)) (by decide) dX12_acts_70 ?_
        refine V.iload (pc := 73) hG dX12_acts_73 4 rfl ?_
        obtain ⟨g52, h⟩ := h
        refine V.iald (pc := 75) (z := 4) (o := 537) hG a_537 a_537.n hx4j51 g52 dX12_acts_75 ?_
        refine V.goto (pc := 76) (tgt := 80) hG dX12_acts_76 (by decide) ?_
        refine V.pick [1, 2, 4, 0] rfl ?_
        exact jn80 x4j51 k0j51 (ij51 539 x4j51) (ij51 537 x4j51) ij51 hx4j51 hk0j51 ((hij51 _ _)) ((hij51 _ _)) hij51 h
  refine V.aload_n (pc := 0) hG dX12_acts_0 rfl 0 rfl ?_
  refine V.getR (x := 538) (pc := 1) (ci := 14) (k := 46) (M := 49) (T := TX12) (o := 504) (kz := 46) hG a_504 a_504.n (by decide) hin_X12 rfl (by decide) (by decide) rfl kw_1738 rfl ((hw).1 (504, 46, 538) (by decide)) (by decide) dX12_acts_1 ?_
  refine V.iload_n (pc := 4) hG dX12_acts_4 rfl 1 rfl ?_
  obtain ⟨g53, h⟩ := h
  refine V.iald (pc := 5) (z := 4) (o := 538) hG a_538 a_538.n hp1 g53 dX12_acts_5 ?_
  refine V.aload_n (pc := 6) hG dX12_acts_6 rfl 0 rfl ?_
  refine V.getR (x := 535) (pc := 7) (ci := 14) (k := 43) (M := 49) (T := TX12) (o := 504) (kz := 43) hG a_504 a_504.n (by decide) hin_X12 rfl (by decide) (by decide) rfl kw_1735 rfl ((hw).1 (504, 43, 535) (by decide)) (by decide) dX12_acts_7 ?_
  refine V.iload_n (pc := 10) hG dX12_acts_10 rfl 1 rfl ?_
  obtain ⟨g54, h⟩ := h
  refine V.iald (pc := 11) (z := 4) (o := 535) hG a_535 a_535.n hp1 g54 dX12_acts_11 ?_
  obtain ⟨f57, t56⟩ := h
  refine V.icmp_ne (pc := 12) (tgt := 17) hG ((hi _ _)) ((hi _ _)) dX12_acts_12 (by decide) (fun c55 => ?_) (fun c55 => ?_)
  · have h := t56 c55
    clear t56 f57
    refine V.aload_n (pc := 17) hG dX12_acts_17 rfl 0 rfl ?_
    refine V.getR (x := 536) (pc := 18) (ci := 14) (k := 44) (M := 49) (T := TX12) (o := 504) (kz := 44) hG a_504 a_504.n (by decide) hin_X12 rfl (by decide) (by decide) rfl kw_1736 rfl ((hw).1 (504, 44, 536) (by decide)) (by decide) dX12_acts_18 ?_
    refine V.bipush (pc := 21) hG dX12_acts_21 (by decide) ?_
    refine V.iload_n (pc := 23) hG dX12_acts_23 rfl 1 rfl ?_
    refine V.imul (pc := 24) hG dX12_acts_24 ?_
    refine V.aload_n (pc := 25) hG dX12_acts_25 rfl 0 rfl ?_
    refine V.getR (x := 538) (pc := 26) (ci := 14) (k := 46) (M := 49) (T := TX12) (o := 504) (kz := 46) hG a_504 a_504.n (by decide) hin_X12 rfl (by decide) (by decide) rfl kw_1738 rfl ((hw).1 (504, 46, 538) (by decide)) (by decide) dX12_acts_26 ?_
    refine V.iload_n (pc := 29) hG dX12_acts_29 rfl 1 rfl ?_
    obtain ⟨g58, h⟩ := h
    refine V.iald (pc := 30) (z := 4) (o := 538) hG a_538 a_538.n hp1 g58 dX12_acts_30 ?_
    refine V.iadd (pc := 31) hG dX12_acts_31 ?_
    obtain ⟨g59, h⟩ := h
    refine V.iald (pc := 32) (z := 64) (o := 536) hG a_536 a_536.n ((sR_wr _)) g59 dX12_acts_32 ?_
    refine V.istore_n (pc := 33) (lv' := [(3, .int (sJ (i 536 (wr (wr (16 * p1) + i 538 p1))))), (0, .ref (sA Δ 504)), (1, .int (sJ p1)), (2, .int (sJ p2))]) hG dX12_acts_33 rfl (by decide) rfl ?_
    refine V.iload_n (pc := 34) hG dX12_acts_34 rfl 0 rfl ?_
    refine V.iconst (pc := 35) hG dX12_acts_35 ?_
    refine V.idiv (pc := 36) hG ((hi _ _)) ((sR_l rfl)) (by decide) dX12_acts_36 ?_
    refine V.istore (pc := 37) (lv' := [(4, .int (sJ (wr (Int.tdiv (i 536 (wr (wr (16 * p1) + i 538 p1))) 2)))), (3, .int (sJ (i 536 (wr (wr (16 * p1) + i 538 p1))))), (0, .ref (sA Δ 504)), (1, .int (sJ p1)), (2, .int (sJ p2))]) hG dX12_acts_37 (by decide) rfl ?_
    refine V.iload_n (pc := 39) hG dX12_acts_39 rfl 1 rfl ?_
    refine V.iconst (pc := 40) hG dX12_acts_40 ?_
    refine V.irem (pc := 41) hG ((hi _ _)) ((sR_l rfl)) (by decide) dX12_acts_41 ?_
    refine V.iconst (pc := 42) hG dX12_acts_42 ?_
    obtain ⟨f62, t61⟩ := h
    refine V.icmp_ne (pc := 43) (tgt := 50) hG ((sR_tmod ((hi _ _)))) ((sR_l rfl)) dX12_acts_43 (by decide) (fun c60 => ?_) (fun c60 => ?_)
    · have h := t61 c60
      clear t61 f62
      refine V.iconst (pc := 50) hG dX12_acts_50 ?_
      refine V.pick [2, 3, 4, 0] rfl ?_
      exact jn51 (wr (Int.tdiv (i 536 (wr (wr (16 * p1) + i 538 p1))) 2)) 0 i ((sR_wr _)) ((sR_l rfl)) hi h
    · have h := f62 c60
      clear t61 f62
      refine V.iconst (pc := 46) hG dX12_acts_46 ?_
      refine V.goto (pc := 47) (tgt := 51) hG dX12_acts_47 (by decide) ?_
      refine V.pick [2, 3, 4, 0] rfl ?_
      exact jn51 (wr (Int.tdiv (i 536 (wr (wr (16 * p1) + i 538 p1))) 2)) 1 i ((sR_wr _)) ((sR_l rfl)) hi h
  · have h := f57 c55
    clear t56 f57
    refine V.iconst (pc := 15) hG dX12_acts_15 ?_
    exact fin dX12_acts_16 ((sR_l rfl)) (nar_z (by decide)) hi hw ⟨rfl, h⟩
set_option maxRecDepth 100000 in
set_option maxHeartbeats 4000000 in
theorem sm_X12_goRound (l : Launch) (Δ : Wd) {i r : MI} {p1 : Int} (hp1 : sR p1) {Q : Int → MI → Prop} (hi : okI i) (hw : Wf r) (h : wp_X12_goRound p1 i r Q) : Met l yX12_goRound (Cond.code yX12_goRound cX12_goRound 5 (some .boolean) :: gW) (sRm 1 26) (sPc Δ [.ref (sA Δ 504), .int (sJ p1)] i r) (sQi Δ (fun x i' r' => r = r' ∧ Q x i')) 0 0 (sFr Δ) := by
  refine Ct.i (ty := .boolean) (by decide) rfl (Nat.le_of_ble_eq_true rfl) (fun Γ Q0 hG fin => ?_)
  have hG : okG Γ Δ l (sRm 1 26) cX12_goRound "SchedularyModel" 5 := hG
  show V Γ Δ 542 false i r 0 0 Q0 0 [(0, .ref (sA Δ 504)), (1, .int (sJ p1))] []
  refine V.iconst (pc := 0) hG dX12_goRound_0 ?_
  refine V.istore_n (pc := 1) (lv' := [(2, .int (sJ 0)), (0, .ref (sA Δ 504)), (1, .int (sJ p1))]) hG dX12_goRound_1 rfl (by decide) rfl ?_
  obtain ⟨n113, h⟩ := h
  have lp2 : ∀ (m2 : Nat) (x2_2 : Int) (i_2 : MI), sR x2_2 → okI i_2 → LoopP (b2_X12_goRound p1 r Q) m2 (x2_2, i_2) → V Γ Δ 542 false i_2 r 0 0 Q0 2 [(0, .ref (sA Δ 504)), (1, .int (sJ p1)), (2, .int (sJ x2_2))] [] := by
    intro m2
    induction m2 with
    | zero => intro x2_2 i_2 hx2_2 hi_2 h; exact h.elim
    | succ m2 ih2 =>
      intro x2_2 i_2 hx2_2 hi_2 h
      have h := LoopP_succ h
      refine V.iload_n (pc := 2) hG dX12_goRound_2 rfl 2 rfl ?_
      refine V.iconst (pc := 3) hG dX12_goRound_3 ?_
      obtain ⟨t115, f116⟩ := h
      refine V.icmp_ge (pc := 4) (tgt := 27) hG hx2_2 ((sR_l rfl)) dX12_goRound_4 (by decide) (fun c114 => ?_) (fun c114 => ?_)
      · have h := t115 c114
        clear t115 f116
        refine V.iconst (pc := 27) hG dX12_goRound_27 ?_
        refine V.istore_n (pc := 28) (lv' := [(2, .int (sJ 1)), (0, .ref (sA Δ 504)), (1, .int (sJ p1))]) hG dX12_goRound_28 rfl (by decide) rfl ?_
        obtain ⟨n117, h⟩ := h
        have lp29 : ∀ (m29 : Nat) (x2_29 : Int) (i_29 : MI), sR x2_29 → okI i_29 → LoopP (b29_X12_goRound p1 r Q) m29 (x2_29, i_29) → V Γ Δ 542 false i_29 r 0 0 Q0 29 [(0, .ref (sA Δ 504)), (1, .int (sJ p1)), (2, .int (sJ x2_29))] [] := by
          intro m29
          induction m29 with
          | zero => intro x2_29 i_29 hx2_29 hi_29 h; exact h.elim
          | succ m29 ih29 =>
            intro x2_29 i_29 hx2_29 hi_29 h
            have h := LoopP_succ h
            refine V.iload_n (pc := 29) hG dX12_goRound_29 rfl 2 rfl ?_
            obtain ⟨t119, f120⟩ := h
            refine V.if_eq (pc := 30) (tgt := 65) hG hx2_29 dX12_goRound_30 (by decide) (fun c118 => ?_) (fun c118 => ?_)
            · have h := t119 c118
              clear t119 f120
              refine V.iconst (pc := 65) hG dX12_goRound_65 ?_
              refine V.istore_n (pc := 66) (lv' := [(3, .int (sJ 0)), (0, .ref (sA Δ 504)), (1, .int (sJ p1)), (2, .int (sJ x2_29))]) hG dX12_goRound_66 rfl (by decide) rfl ?_
              refine V.iconst (pc := 67) hG dX12_goRound_67 ?_
              refine V.istore (pc := 68) (lv' := [(4, .int (sJ 0)), (3, .int (sJ 0)), (0, .ref (sA Δ 504)), (1, .int (sJ p1)), (2, .int (sJ x2_29))]) hG dX12_goRound_68 (by decide) rfl ?_
              obtain ⟨n121, h⟩ := h
              have lp70 : ∀ (m70 : Nat) (x3_70 : Int) (x4_70 : Int), sR x3_70 → sR x4_70 → LoopP (b70_X12_goRound i_29 r Q) m70 (x3_70, x4_70) → V Γ Δ 542 false i_29 r 0 0 Q0 70 [(0, .ref (sA Δ 504)), (3, .int (sJ x3_70)), (4, .int (sJ x4_70))] [] := by
                intro m70
                induction m70 with
                | zero => intro x3_70 x4_70 hx3_70 hx4_70 h; exact h.elim
                | succ m70 ih70 =>
                  intro x3_70 x4_70 hx3_70 hx4_70 h
                  have h := LoopP_succ h
                  have jn102 : ∀ (x4j102 : Int) (k0j102 : Int), sR x4j102 → sR k0j102 → s102_X12_goRound x4j102 k0j102 i_29 r Q (LoopP (b70_X12_goRound i_29 r Q) m70) → V Γ Δ 542 false i_29 r 0 0 Q0 102 [(0, .ref (sA Δ 504)), (4, .int (sJ x4j102))] [.int (sJ k0j102)] := by
                    intro x4j102 k0j102 hx4j102 hk0j102 h
                    refine V.istore_n (pc := 102) (lv' := [(3, .int (sJ k0j102)), (0, .ref (sA Δ 504)), (4, .int (sJ x4j102))]) hG dX12_goRound_102 rfl (by decide) rfl ?_
                    refine V.iinc (pc := 103) (lv' := [(4, .int (sJ (wr (x4j102 + 1)))), (3, .int (sJ k0j102)), (0, .ref (sA Δ 504))]) hG dX12_goRound_103 2 rfl (by decide) rfl ?_
                    refine V.goto (pc := 106) (tgt := 70) hG dX12_goRound_106 (by decide) ?_
                    refine V.pick [2, 1, 0] rfl ?_
                    exact ih70 k0j102 (wr (x4j102 + 1)) hk0j102 ((sR_wr _)) h
                  have jn97 : ∀ (x4j97 : Int), sR x4j97 → s97_X12_goRound x4j97 i_29 r Q (LoopP (b70_X12_goRound i_29 r Q) m70) → V Γ Δ 542 false i_29 r 0 0 Q0 97 [(0, .ref (sA Δ 504)), (4, .int (sJ x4j97))] [] := by
                    intro x4j97 hx4j97 h
                    refine V.iconst (pc := 97) hG dX12_goRound_97 ?_
                    refine V.goto (pc := 98) (tgt := 102) hG dX12_goRound_98 (by decide) ?_
                    exact jn102 x4j97 1 hx4j97 ((sR_l rfl)) h
                  refine V.iload (pc := 70) hG dX12_goRound_70 2 rfl ?_
                  refine V.iconst (pc := 72) hG dX12_goRound_72 ?_
                  obtain ⟨t123, f124⟩ := h
                  refine V.icmp_ge (pc := 73) (tgt := 109) hG hx4_70 ((sR_l rfl)) dX12_goRound_73 (by decide) (fun c122 => ?_) (fun c122 => ?_)
                  · have h := t123 c122
                    clear t123 f124
                    refine V.iload_n (pc := 109) hG dX12_goRound_109 rfl 1 rfl ?_
                    obtain ⟨g125, h⟩ := h
                    exact fin dX12_goRound_110 hx3_70 (nar_z g125) hi_29 hw ⟨rfl, h⟩
                  · have h := f124 c122
                    clear t123 f124
                    refine V.iload_n (pc := 76) hG dX12_goRound_76 rfl 1 rfl ?_
                    obtain ⟨f128, t127⟩ := h
                    refine V.if_ne (pc := 77) (tgt := 97) hG hx3_70 dX12_goRound_77 (by decide) (fun c126 => ?_) (fun c126 => ?_)
                    · have h := t127 c126
                      clear t127 f128
                      refine V.pick [0, 2] rfl ?_
                      exact jn97 x4_70 hx4_70 h
                    · have h := f128 c126
                      clear t127 f128
                      refine V.aload_n (pc := 80) hG dX12_goRound_80 rfl 0 rfl ?_
                      refine V.getR (x := 538) (pc := 81) (ci := 14) (k := 46) (M := 49) (T := TX12) (o := 504) (kz := 46) hG a_504 a_504.n (by decide) hin_X12 rfl (by decide) (by decide) rfl kw_1738 rfl ((hw).1 (504, 46, 538) (by decide)) (by decide) dX12_goRound_81 ?_
                      refine V.iload (pc := 84) hG dX12_goRound_84 2 rfl ?_
                      obtain ⟨g129, h⟩ := h
                      refine V.iald (pc := 86) (z := 4) (o := 538) hG a_538 a_538.n hx4_70 g129 dX12_goRound_86 ?_
                      refine V.aload_n (pc := 87) hG dX12_goRound_87 rfl 0 rfl ?_
                      refine V.getR (x := 535) (pc := 88) (ci := 14) (k := 43) (M := 49) (T := TX12) (o := 504) (kz := 43) hG a_504 a_504.n (by decide) hin_X12 rfl (by decide) (by decide) rfl kw_1735 rfl ((hw).1 (504, 43, 535) (by decide)) (by decide) dX12_goRound_88 ?_
                      refine V.iload (pc := 91) hG dX12_goRound_91 2 rfl ?_
                      obtain ⟨g130, h⟩ := h
                      refine V.iald (pc := 93) (z := 4) (o := 535) hG a_535 a_535.n hx4_70 g130 dX12_goRound_93 ?_
                      obtain ⟨t132, f133⟩ := h
                      refine V.icmp_ge (pc := 94) (tgt := 101) hG ((hi_29 _ _)) ((hi_29 _ _)) dX12_goRound_94 (by decide) (fun c131 => ?_) (fun c131 => ?_)
                      · have h := t132 c131
                        clear t132 f133
                        refine V.iconst (pc := 101) hG dX12_goRound_101 ?_
                        refine V.pick [0, 2] rfl ?_
                        exact jn102 x4_70 0 hx4_70 ((sR_l rfl)) h
                      · have h := f133 c131
                        clear t132 f133
                        refine V.pick [0, 2] rfl ?_
                        exact jn97 x4_70 hx4_70 h
              refine V.pick [2, 1, 0] rfl ?_
              exact lp70 n121 0 0 ((sR_l rfl)) ((sR_l rfl)) h
            · have h := f120 c118
              clear t119 f120
              refine V.iconst (pc := 33) hG dX12_goRound_33 ?_
              refine V.istore_n (pc := 34) (lv' := [(2, .int (sJ 0)), (0, .ref (sA Δ 504)), (1, .int (sJ p1))]) hG dX12_goRound_34 rfl (by decide) rfl ?_
              refine V.iconst (pc := 35) hG dX12_goRound_35 ?_
              refine V.istore_n (pc := 36) (lv' := [(3, .int (sJ 0)), (2, .int (sJ 0)), (0, .ref (sA Δ 504)), (1, .int (sJ p1))]) hG dX12_goRound_36 rfl (by decide) rfl ?_
              obtain ⟨n134, h⟩ := h
              have lp37 : ∀ (m37 : Nat) (x2_37 : Int) (x3_37 : Int) (i_37 : MI), sR x2_37 → sR x3_37 → okI i_37 → LoopP (b37_X12_goRound p1 r Q (LoopP (b29_X12_goRound p1 r Q) m29)) m37 (x2_37, x3_37, i_37) → V Γ Δ 542 false i_37 r 0 0 Q0 37 [(0, .ref (sA Δ 504)), (1, .int (sJ p1)), (2, .int (sJ x2_37)), (3, .int (sJ x3_37))] [] := by
                intro m37
                induction m37 with
                | zero => intro x2_37 x3_37 i_37 hx2_37 hx3_37 hi_37 h; exact h.elim
                | succ m37 ih37 =>
                  intro x2_37 x3_37 i_37 hx2_37 hx3_37 hi_37 h
                  have h := LoopP_succ h
                  refine V.iload_n (pc := 37) hG dX12_goRound_37 rfl 3 rfl ?_
                  refine V.iconst (pc := 38) hG dX12_goRound_38 ?_
                  obtain ⟨t136, f137⟩ := h
                  refine V.icmp_ge (pc := 39) (tgt := 62) hG hx3_37 ((sR_l rfl)) dX12_goRound_39 (by decide) (fun c135 => ?_) (fun c135 => ?_)
                  · have h := t136 c135
                    clear t136 f137
                    refine V.goto (pc := 62) (tgt := 29) hG dX12_goRound_62 (by decide) ?_
                    refine V.pick [0, 1, 2] rfl ?_
                    exact ih29 x2_37 i_37 hx2_37 hi_37 h
                  · have h := f137 c135
                    clear t136 f137
                    obtain ⟨n138, h⟩ := h
                    have lp42 : ∀ (m42 : Nat) (x2_42 : Int) (i_42 : MI), sR x2_42 → okI i_42 → LoopP (b42_X12_goRound p1 x3_37 r Q (LoopP (b29_X12_goRound p1 r Q) m29) (LoopP (b37_X12_goRound p1 r Q (LoopP (b29_X12_goRound p1 r Q) m29)) m37)) m42 (x2_42, i_42) → V Γ Δ 542 false i_42 r 0 0 Q0 42 [(0, .ref (sA Δ 504)), (1, .int (sJ p1)), (2, .int (sJ x2_42)), (3, .int (sJ x3_37))] [] := by
                      intro m42
                      induction m42 with
                      | zero => intro x2_42 i_42 hx2_42 hi_42 h; exact h.elim
                      | succ m42 ih42 =>
                        intro x2_42 i_42 hx2_42 hi_42 h
                        have h := LoopP_succ h
                        simp only [b42_X12_goRound] at h
                        refine V.aload_n (pc := 42) hG dX12_goRound_42 rfl 0 rfl ?_
                        refine V.iload_n (pc := 43) hG dX12_goRound_43 rfl 3 rfl ?_
                        refine V.iload_n (pc := 44) hG dX12_goRound_44 rfl 1 rfl ?_
                        refine V.callVi (pc := 45) (As := [.int (sJ x3_37), .int (sJ p1)]) (stk := []) hG (sm_X12_acts l Δ hx3_37 hp1 hi_42 hw h) mY_X12_acts kw_2241 kw_2243 kw_156 a_504 (by decide) (q := (RX12, TX12, 49)) rfl rfl ⟨Nat.le_of_ble_eq_true rfl, Nat.le_of_ble_eq_true rfl, Nat.le_of_ble_eq_true rfl, Nat.le_of_ble_eq_true rfl⟩ rfl (Nat.le_of_ble_eq_true rfl) dX12_goRound_45 rfl (fun v139 i140 r141 hv142 hi143 hw144 hq145 => ?_)
                        obtain ⟨e150, h⟩ := hq145
                        subst e150
                        obtain ⟨t147, f148⟩ := h
                        refine V.if_eq (pc := 48) (tgt := 56) hG hv142 dX12_goRound_48 (by decide) (fun c146 => ?_) (fun c146 => ?_)
                        · have h := t147 c146
                          clear t147 f148
                          refine V.iinc (pc := 56) (lv' := [(3, .int (sJ (wr (x3_37 + 1)))), (0, .ref (sA Δ 504)), (1, .int (sJ p1)), (2, .int (sJ x2_42))]) hG dX12_goRound_56 3 rfl (by decide) rfl ?_
                          refine V.goto (pc := 59) (tgt := 37) hG dX12_goRound_59 (by decide) ?_
                          refine V.pick [1, 2, 3, 0] rfl ?_
                          exact ih37 x2_42 (wr (x3_37 + 1)) i140 hx2_42 ((sR_wr _)) hi143 h
                        · have h := f148 c146
                          clear t147 f148
                          refine V.iconst (pc := 51) hG dX12_goRound_51 ?_
                          refine V.istore_n (pc := 52) (lv' := [(2, .int (sJ 1)), (0, .ref (sA Δ 504)), (1, .int (sJ p1)), (3, .int (sJ x3_37))]) hG dX12_goRound_52 rfl (by decide) rfl ?_
                          refine V.goto (pc := 53) (tgt := 42) hG dX12_goRound_53 (by decide) ?_
                          refine V.pick [1, 2, 0, 3] rfl ?_
                          exact ih42 1 i140 ((sR_l rfl)) hi143 h
                    exact lp42 n138 x2_37 i_37 hx2_37 hi_37 h
              refine V.pick [2, 3, 1, 0] rfl ?_
              exact lp37 n134 0 0 i_29 ((sR_l rfl)) ((sR_l rfl)) hi_29 h
        refine V.pick [1, 2, 0] rfl ?_
        exact lp29 n117 1 i_2 ((sR_l rfl)) hi_2 h
      · have h := f116 c114
        clear t115 f116
        refine V.aload_n (pc := 7) hG dX12_goRound_7 rfl 0 rfl ?_
        refine V.getR (x := 538) (pc := 8) (ci := 14) (k := 46) (M := 49) (T := TX12) (o := 504) (kz := 46) hG a_504 a_504.n (by decide) hin_X12 rfl (by decide) (by decide) rfl kw_1738 rfl ((hw).1 (504, 46, 538) (by decide)) (by decide) dX12_goRound_8 ?_
        refine V.iload_n (pc := 11) hG dX12_goRound_11 rfl 2 rfl ?_
        refine V.iconst (pc := 12) hG dX12_goRound_12 ?_
        obtain ⟨g151, h⟩ := h
        refine V.iast (pc := 13) (z := 4) (o := 538) hG a_538 a_538.n hx2_2 g151 dX12_goRound_13 ?_
        refine V.aload_n (pc := 14) hG dX12_goRound_14 rfl 0 rfl ?_
        refine V.getR (x := 539) (pc := 15) (ci := 14) (k := 47) (M := 49) (T := TX12) (o := 504) (kz := 47) hG a_504 a_504.n (by decide) hin_X12 rfl (by decide) (by decide) rfl kw_1739 rfl ((hw).1 (504, 47, 539) (by decide)) (by decide) dX12_goRound_15 ?_
        refine V.iload_n (pc := 18) hG dX12_goRound_18 rfl 2 rfl ?_
        refine V.iconst (pc := 19) hG dX12_goRound_19 ?_
        obtain ⟨g152, h⟩ := h
        refine V.iast (pc := 20) (z := 4) (o := 539) hG a_539 a_539.n hx2_2 g152 dX12_goRound_20 ?_
        refine V.iinc (pc := 21) (lv' := [(2, .int (sJ (wr (x2_2 + 1)))), (0, .ref (sA Δ 504)), (1, .int (sJ p1))]) hG dX12_goRound_21 2 rfl (by decide) rfl ?_
        refine V.goto (pc := 24) (tgt := 2) hG dX12_goRound_24 (by decide) ?_
        refine V.pick [1, 2, 0] rfl ?_
        exact ih2 (wr (x2_2 + 1)) (st (st i_2 538 x2_2 0) 539 x2_2 0) ((sR_wr _)) ((okI_st ((okI_st hi_2 ((sR_l rfl)))) ((sR_l rfl)))) h
  refine V.pick [1, 2, 0] rfl ?_
  exact lp2 n113 0 i ((sR_l rfl)) hi h
set_option maxRecDepth 100000 in
set_option maxHeartbeats 4000000 in
theorem sm_X12_done (l : Launch) (Δ : Wd) {i r : MI}   {Q : Int → MI → Prop} (hi : okI i) (hw : Wf r) (h : wp_X12_done  i r Q) : Met l yX12_done (Cond.code yX12_done cX12_done 1 (some .int) :: gW) (sRm 2 50) (sPc Δ [.ref (sA Δ 504)] i r) (sQi Δ (fun x i' r' => r = r' ∧ Q x i')) 0 0 (sFr Δ) := by
  refine Ct.i (ty := .int) (by decide) rfl (Nat.le_of_ble_eq_true rfl) (fun Γ Q0 hG fin => ?_)
  have hG : okG Γ Δ l (sRm 2 50) cX12_done "SchedularyModel" 1 := hG
  show V Γ Δ 542 false i r 0 0 Q0 0 [(0, .ref (sA Δ 504))] []
  refine V.aload_n (pc := 0) hG dX12_done_0 rfl 0 rfl ?_
  refine V.iconst (pc := 1) hG dX12_done_1 ?_
  refine V.putI (pc := 2) (ci := 14) (k := 0) (M := 49) (T := TX12) (o := 504) (kz := 0) hG a_504 a_504.n (by decide) hin_X12 rfl (by decide) (by decide) rfl kw_1692 rfl tyX12 tyX12_ok nmX12 rfl (ty := tyX12 0) (tyX12_ok 0 (by decide)) rfl rfl dX12_done_2 ?_
  refine V.aload_n (pc := 5) hG dX12_done_5 rfl 0 rfl ?_
  refine V.iconst (pc := 6) hG dX12_done_6 ?_
  refine V.callVi (pc := 7) (As := [.int (sJ 0)]) (stk := []) hG (sm_X12_goRound l Δ ((sR_l rfl)) ((okI_st hi ((sR_l rfl)))) hw h) mY_X12_goRound kw_2237 kw_2239 kw_155 a_504 (by decide) (q := (RX12, TX12, 49)) rfl rfl ⟨Nat.le_of_ble_eq_true rfl, Nat.le_of_ble_eq_true rfl, Nat.le_of_ble_eq_true rfl, Nat.le_of_ble_eq_true rfl⟩ rfl (Nat.le_of_ble_eq_true rfl) dX12_done_7 rfl (fun v1 i2 r3 hv4 hi5 hw6 hq7 => ?_)
  obtain ⟨e13, h⟩ := hq7
  subst e13
  refine V.pop (pc := 10) hG dX12_done_10 rfl ?_
  refine V.aload_n (pc := 11) hG dX12_done_11 rfl 0 rfl ?_
  refine V.getR (x := 538) (pc := 12) (ci := 14) (k := 46) (M := 49) (T := TX12) (o := 504) (kz := 46) hG a_504 a_504.n (by decide) hin_X12 rfl (by decide) (by decide) rfl kw_1738 rfl ((hw).1 (504, 46, 538) (by decide)) (by decide) dX12_done_12 ?_
  refine V.iconst (pc := 15) hG dX12_done_15 ?_
  refine V.iald (pc := 16) (z := 4) (o := 538) hG a_538 a_538.n ((sR_l rfl)) (by decide) dX12_done_16 ?_
  refine V.aload_n (pc := 17) hG dX12_done_17 rfl 0 rfl ?_
  refine V.getR (x := 538) (pc := 18) (ci := 14) (k := 46) (M := 49) (T := TX12) (o := 504) (kz := 46) hG a_504 a_504.n (by decide) hin_X12 rfl (by decide) (by decide) rfl kw_1738 rfl ((hw).1 (504, 46, 538) (by decide)) (by decide) dX12_done_18 ?_
  refine V.iconst (pc := 21) hG dX12_done_21 ?_
  refine V.iald (pc := 22) (z := 4) (o := 538) hG a_538 a_538.n ((sR_l rfl)) (by decide) dX12_done_22 ?_
  refine V.iadd (pc := 23) hG dX12_done_23 ?_
  refine V.aload_n (pc := 24) hG dX12_done_24 rfl 0 rfl ?_
  refine V.getR (x := 538) (pc := 25) (ci := 14) (k := 46) (M := 49) (T := TX12) (o := 504) (kz := 46) hG a_504 a_504.n (by decide) hin_X12 rfl (by decide) (by decide) rfl kw_1738 rfl ((hw).1 (504, 46, 538) (by decide)) (by decide) dX12_done_25 ?_
  refine V.iconst (pc := 28) hG dX12_done_28 ?_
  refine V.iald (pc := 29) (z := 4) (o := 538) hG a_538 a_538.n ((sR_l rfl)) (by decide) dX12_done_29 ?_
  refine V.iadd (pc := 30) hG dX12_done_30 ?_
  refine V.aload_n (pc := 31) hG dX12_done_31 rfl 0 rfl ?_
  refine V.getR (x := 538) (pc := 32) (ci := 14) (k := 46) (M := 49) (T := TX12) (o := 504) (kz := 46) hG a_504 a_504.n (by decide) hin_X12 rfl (by decide) (by decide) rfl kw_1738 rfl ((hw).1 (504, 46, 538) (by decide)) (by decide) dX12_done_32 ?_
  refine V.iconst (pc := 35) hG dX12_done_35 ?_
  refine V.iald (pc := 36) (z := 4) (o := 538) hG a_538 a_538.n ((sR_l rfl)) (by decide) dX12_done_36 ?_
  refine V.iadd (pc := 37) hG dX12_done_37 ?_
  exact fin dX12_done_38 ((sR_wr _)) rfl hi5 hw ⟨rfl, h⟩
set_option maxRecDepth 100000 in
set_option maxHeartbeats 4000000 in
theorem sm_X12_waitsFor (l : Launch) (Δ : Wd) {i r : MI} {p1 : Int} (hp1 : sR p1) {Q : Int → MI → Prop} (hi : okI i) (hw : Wf r) (h : wp_X12_waitsFor p1 i r Q) : Met l yX12_waitsFor (Cond.code yX12_waitsFor cX12_waitsFor 2 (some .int) :: gW) (sRm 2 50) (sPc Δ [.ref (sA Δ 504), .int (sJ p1)] i r) (sQi Δ (fun x i' r' => r = r' ∧ Q x i')) 0 0 (sFr Δ) := by
  refine Ct.i (ty := .int) (by decide) rfl (Nat.le_of_ble_eq_true rfl) (fun Γ Q0 hG fin => ?_)
  have hG : okG Γ Δ l (sRm 2 50) cX12_waitsFor "SchedularyModel" 2 := hG
  show V Γ Δ 542 false i r 0 0 Q0 0 [(0, .ref (sA Δ 504)), (1, .int (sJ p1))] []
  have jn72 : ∀ (k0j72 : Int) (ij72 : MI), sR k0j72 → okI ij72 → s72_X12_waitsFor k0j72 ij72 r Q → V Γ Δ 542 false ij72 r 0 0 Q0 72 [] [.int (sJ k0j72)] := by
    intro k0j72 ij72 hk0j72 hij72 h
    exact fin dX12_waitsFor_72 hk0j72 rfl hij72 hw ⟨rfl, h⟩
  have jn20 : ∀ (k1j20 : Int) (ij20 : MI), sR k1j20 → okI ij20 → s20_X12_waitsFor p1 k1j20 ij20 r Q → V Γ Δ 542 false ij20 r 0 0 Q0 20 [(0, .ref (sA Δ 504)), (1, .int (sJ p1))] [.int (sJ k1j20), .ref (sA Δ 504)] := by
    intro k1j20 ij20 hk1j20 hij20 h
    refine V.iconst (pc := 20) hG dX12_waitsFor_20 ?_
    refine V.callVi (pc := 21) (As := [.int (sJ k1j20), .int (sJ 1)]) (stk := []) hG (sm_X12_fails l Δ hk1j20 ((sR_l rfl)) hij20 hw h) mY_X12_fails kw_1853 kw_1855 kw_106 a_504 (by decide) (q := (RX12, TX12, 49)) rfl rfl ⟨Nat.le_of_ble_eq_true rfl, Nat.le_of_ble_eq_true rfl, Nat.le_of_ble_eq_true rfl, Nat.le_of_ble_eq_true rfl⟩ rfl (Nat.le_of_ble_eq_true rfl) dX12_waitsFor_21 rfl (fun v29 i30 r31 hv32 hi33 hw34 hq35 => ?_)
    obtain ⟨e56, h⟩ := hq35
    subst e56
    obtain ⟨t37, f38⟩ := h
    refine V.if_eq (pc := 24) (tgt := 29) hG hv32 dX12_waitsFor_24 (by decide) (fun c36 => ?_) (fun c36 => ?_)
    · have h := t37 c36
      clear t37 f38
      refine V.aload_n (pc := 29) hG dX12_waitsFor_29 rfl 0 rfl ?_
      refine V.iconst (pc := 30) hG dX12_waitsFor_30 ?_
      refine V.callVi (pc := 31) (As := [.int (sJ 0)]) (stk := []) hG (sm_X12_goRound l Δ ((sR_l rfl)) hi33 hw h) mY_X12_goRound kw_2237 kw_2239 kw_155 a_504 (by decide) (q := (RX12, TX12, 49)) rfl rfl ⟨Nat.le_of_ble_eq_true rfl, Nat.le_of_ble_eq_true rfl, Nat.le_of_ble_eq_true rfl, Nat.le_of_ble_eq_true rfl⟩ rfl (Nat.le_of_ble_eq_true rfl) dX12_waitsFor_31 rfl (fun v39 i40 r41 hv42 hi43 hw44 hq45 => ?_)
      obtain ⟨e54, h⟩ := hq45
      subst e54
      refine V.pop (pc := 34) hG dX12_waitsFor_34 rfl ?_
      refine V.aload_n (pc := 35) hG dX12_waitsFor_35 rfl 0 rfl ?_
      refine V.getR (x := 538) (pc := 36) (ci := 14) (k := 46) (M := 49) (T := TX12) (o := 504) (kz := 46) hG a_504 a_504.n (by decide) hin_X12 rfl (by decide) (by decide) rfl kw_1738 rfl ((hw).1 (504, 46, 538) (by decide)) (by decide) dX12_waitsFor_36 ?_
      refine V.iload_n (pc := 39) hG dX12_waitsFor_39 rfl 1 rfl ?_
      obtain ⟨g46, h⟩ := h
      refine V.iald (pc := 40) (z := 4) (o := 538) hG a_538 a_538.n hp1 g46 dX12_waitsFor_40 ?_
      refine V.aload_n (pc := 41) hG dX12_waitsFor_41 rfl 0 rfl ?_
      refine V.getR (x := 535) (pc := 42) (ci := 14) (k := 43) (M := 49) (T := TX12) (o := 504) (kz := 43) hG a_504 a_504.n (by decide) hin_X12 rfl (by decide) (by decide) rfl kw_1735 rfl ((hw).1 (504, 43, 535) (by decide)) (by decide) dX12_waitsFor_42 ?_
      refine V.iload_n (pc := 45) hG dX12_waitsFor_45 rfl 1 rfl ?_
      obtain ⟨g47, h⟩ := h
      refine V.iald (pc := 46) (z := 4) (o := 535) hG a_535 a_535.n hp1 g47 dX12_waitsFor_46 ?_
      obtain ⟨f50, t49⟩ := h
      refine V.icmp_ne (pc := 47) (tgt := 54) hG ((hi43 _ _)) ((hi43 _ _)) dX12_waitsFor_47 (by decide) (fun c48 => ?_) (fun c48 => ?_)
      · have h := t49 c48
        clear t49 f50
        refine V.aload_n (pc := 54) hG dX12_waitsFor_54 rfl 0 rfl ?_
        refine V.getR (x := 536) (pc := 55) (ci := 14) (k := 44) (M := 49) (T := TX12) (o := 504) (kz := 44) hG a_504 a_504.n (by decide) hin_X12 rfl (by decide) (by decide) rfl kw_1736 rfl ((hw).1 (504, 44, 536) (by decide)) (by decide) dX12_waitsFor_55 ?_
        refine V.bipush (pc := 58) hG dX12_waitsFor_58 (by decide) ?_
        refine V.iload_n (pc := 60) hG dX12_waitsFor_60 rfl 1 rfl ?_
        refine V.imul (pc := 61) hG dX12_waitsFor_61 ?_
        refine V.aload_n (pc := 62) hG dX12_waitsFor_62 rfl 0 rfl ?_
        refine V.getR (x := 538) (pc := 63) (ci := 14) (k := 46) (M := 49) (T := TX12) (o := 504) (kz := 46) hG a_504 a_504.n (by decide) hin_X12 rfl (by decide) (by decide) rfl kw_1738 rfl ((hw).1 (504, 46, 538) (by decide)) (by decide) dX12_waitsFor_63 ?_
        refine V.iload_n (pc := 66) hG dX12_waitsFor_66 rfl 1 rfl ?_
        obtain ⟨g51, h⟩ := h
        refine V.iald (pc := 67) (z := 4) (o := 538) hG a_538 a_538.n hp1 g51 dX12_waitsFor_67 ?_
        refine V.iadd (pc := 68) hG dX12_waitsFor_68 ?_
        obtain ⟨g52, h⟩ := h
        refine V.iald (pc := 69) (z := 64) (o := 536) hG a_536 a_536.n ((sR_wr _)) g52 dX12_waitsFor_69 ?_
        refine V.iconst (pc := 70) hG dX12_waitsFor_70 ?_
        refine V.idiv (pc := 71) hG ((hi43 _ _)) ((sR_l rfl)) (by decide) dX12_waitsFor_71 ?_
        refine V.pick [] rfl ?_
        exact jn72 (wr (Int.tdiv (i40 536 (wr (wr (16 * p1) + i40 538 p1))) 2)) i40 ((sR_wr _)) hi43 h
      · have h := f50 c48
        clear t49 f50
        refine V.iconst (pc := 50) hG dX12_waitsFor_50 ?_
        refine V.goto (pc := 51) (tgt := 72) hG dX12_waitsFor_51 (by decide) ?_
        refine V.pick [] rfl ?_
        exact jn72 (-1) i40 ((sR_l rfl)) hi43 h
    · have h := f38 c36
      clear t37 f38
      refine V.iconst (pc := 27) hG dX12_waitsFor_27 ?_
      exact fin dX12_waitsFor_28 ((sR_l rfl)) rfl hi33 hw ⟨rfl, h⟩
  refine V.aload_n (pc := 0) hG dX12_waitsFor_0 rfl 0 rfl ?_
  refine V.iconst (pc := 1) hG dX12_waitsFor_1 ?_
  refine V.putI (pc := 2) (ci := 14) (k := 0) (M := 49) (T := TX12) (o := 504) (kz := 0) hG a_504 a_504.n (by decide) hin_X12 rfl (by decide) (by decide) rfl kw_1692 rfl tyX12 tyX12_ok nmX12 rfl (ty := tyX12 0) (tyX12_ok 0 (by decide)) rfl rfl dX12_waitsFor_2 ?_
  refine V.aload_n (pc := 5) hG dX12_waitsFor_5 rfl 0 rfl ?_
  refine V.iload_n (pc := 6) hG dX12_waitsFor_6 rfl 1 rfl ?_
  refine V.iconst (pc := 7) hG dX12_waitsFor_7 ?_
  refine V.iconst (pc := 8) hG dX12_waitsFor_8 ?_
  refine V.callSi (pc := 9) (As := [.int (sJ p1), .int (sJ 0), .int (sJ 3)]) (stk := [.ref (sA Δ 504)]) hG (sm_X12_in l Δ hp1 ((sR_l rfl)) ((sR_l rfl)) ((okI_st hi ((sR_l rfl)))) hw h) mY_X12_in kw_1848 kw_1849 ⟨Nat.le_of_ble_eq_true rfl, Nat.le_of_ble_eq_true rfl, Nat.le_of_ble_eq_true rfl, Nat.le_of_ble_eq_true rfl⟩ rfl (Nat.le_of_ble_eq_true rfl) dX12_waitsFor_9 rfl (fun v57 i58 r59 hv60 hi61 hw62 hq63 => ?_)
  obtain ⟨e67, e68, h⟩ := hq63
  subst e67
  subst e68
  obtain ⟨f66, t65⟩ := h
  refine V.if_ne (pc := 12) (tgt := 19) hG hv60 dX12_waitsFor_12 (by decide) (fun c64 => ?_) (fun c64 => ?_)
  · have h := t65 c64
    clear t65 f66
    refine V.iconst (pc := 19) hG dX12_waitsFor_19 ?_
    exact jn20 0 (st i 504 0 0) ((sR_l rfl)) ((okI_st hi ((sR_l rfl)))) h
  · have h := f66 c64
    clear t65 f66
    refine V.iconst (pc := 15) hG dX12_waitsFor_15 ?_
    refine V.goto (pc := 16) (tgt := 20) hG dX12_waitsFor_16 (by decide) ?_
    exact jn20 1 (st i 504 0 0) ((sR_l rfl)) ((okI_st hi ((sR_l rfl)))) h
set_option maxRecDepth 100000 in
set_option maxHeartbeats 4000000 in
theorem sm_X12_areLocked (l : Launch) (Δ : Wd) {i r : MI}   {Q : Int → MI → Prop} (hi : okI i) (hw : Wf r) (h : wp_X12_areLocked  i r Q) : Met l yX12_areLocked (Cond.code yX12_areLocked cX12_areLocked 1 (some .boolean) :: gW) (sRm 2 50) (sPc Δ [.ref (sA Δ 504)] i r) (sQi Δ (fun x i' r' => r = r' ∧ Q x i')) 0 0 (sFr Δ) := by
  refine Ct.i (ty := .boolean) (by decide) rfl (Nat.le_of_ble_eq_true rfl) (fun Γ Q0 hG fin => ?_)
  have hG : okG Γ Δ l (sRm 2 50) cX12_areLocked "SchedularyModel" 1 := hG
  show V Γ Δ 542 false i r 0 0 Q0 0 [(0, .ref (sA Δ 504))] []
  refine V.aload_n (pc := 0) hG dX12_areLocked_0 rfl 0 rfl ?_
  refine V.iconst (pc := 1) hG dX12_areLocked_1 ?_
  refine V.putI (pc := 2) (ci := 14) (k := 0) (M := 49) (T := TX12) (o := 504) (kz := 0) hG a_504 a_504.n (by decide) hin_X12 rfl (by decide) (by decide) rfl kw_1692 rfl tyX12 tyX12_ok nmX12 rfl (ty := tyX12 0) (tyX12_ok 0 (by decide)) rfl rfl dX12_areLocked_2 ?_
  refine V.aload_n (pc := 5) hG dX12_areLocked_5 rfl 0 rfl ?_
  refine V.iconst (pc := 6) hG dX12_areLocked_6 ?_
  refine V.callVi (pc := 7) (As := [.int (sJ 0)]) (stk := []) hG (sm_X12_goRound l Δ ((sR_l rfl)) ((okI_st hi ((sR_l rfl)))) hw h) mY_X12_goRound kw_2237 kw_2239 kw_155 a_504 (by decide) (q := (RX12, TX12, 49)) rfl rfl ⟨Nat.le_of_ble_eq_true rfl, Nat.le_of_ble_eq_true rfl, Nat.le_of_ble_eq_true rfl, Nat.le_of_ble_eq_true rfl⟩ rfl (Nat.le_of_ble_eq_true rfl) dX12_areLocked_7 rfl (fun v1 i2 r3 hv4 hi5 hw6 hq7 => ?_)
  obtain ⟨e10, h⟩ := hq7
  subst e10
  obtain ⟨g8, h⟩ := h
  exact fin dX12_areLocked_10 hv4 (nar_z g8) hi5 hw ⟨rfl, h⟩
set_option maxRecDepth 100000 in
set_option maxHeartbeats 4000000 in
theorem sm_X12_leastDepth (l : Launch) (Δ : Wd) {i r : MI}   {Q : Int → MI → Prop} (hi : okI i) (hw : Wf r) (h : wp_X12_leastDepth  i r Q) : Met l yX12_leastDepth (Cond.code yX12_leastDepth cX12_leastDepth 2 (some .int) :: gW) (sRm 2 50) (sPc Δ [.ref (sA Δ 504)] i r) (sQi Δ (fun x i' r' => r = r' ∧ Q x i')) 0 0 (sFr Δ) := by
  refine Ct.i (ty := .int) (by decide) rfl (Nat.le_of_ble_eq_true rfl) (fun Γ Q0 hG fin => ?_)
  have hG : okG Γ Δ l (sRm 2 50) cX12_leastDepth "SchedularyModel" 2 := hG
  show V Γ Δ 542 false i r 0 0 Q0 0 [(0, .ref (sA Δ 504))] []
  refine V.aload_n (pc := 0) hG dX12_leastDepth_0 rfl 0 rfl ?_
  refine V.iconst (pc := 1) hG dX12_leastDepth_1 ?_
  refine V.putI (pc := 2) (ci := 14) (k := 0) (M := 49) (T := TX12) (o := 504) (kz := 0) hG a_504 a_504.n (by decide) hin_X12 rfl (by decide) (by decide) rfl kw_1692 rfl tyX12 tyX12_ok nmX12 rfl (ty := tyX12 0) (tyX12_ok 0 (by decide)) rfl rfl dX12_leastDepth_2 ?_
  refine V.iconst (pc := 5) hG dX12_leastDepth_5 ?_
  refine V.istore_n (pc := 6) (lv' := [(1, .int (sJ 1)), (0, .ref (sA Δ 504))]) hG dX12_leastDepth_6 rfl (by decide) rfl ?_
  obtain ⟨n16, h⟩ := h
  have lp7 : ∀ (m7 : Nat) (x1_7 : Int) (i_7 : MI), sR x1_7 → okI i_7 → LoopP (b7_X12_leastDepth r Q) m7 (x1_7, i_7) → V Γ Δ 542 false i_7 r 0 0 Q0 7 [(0, .ref (sA Δ 504)), (1, .int (sJ x1_7))] [] := by
    intro m7
    induction m7 with
    | zero => intro x1_7 i_7 hx1_7 hi_7 h; exact h.elim
    | succ m7 ih7 =>
      intro x1_7 i_7 hx1_7 hi_7 h
      have h := LoopP_succ h
      refine V.iload_n (pc := 7) hG dX12_leastDepth_7 rfl 1 rfl ?_
      refine V.bipush (pc := 8) hG dX12_leastDepth_8 (by decide) ?_
      obtain ⟨t18, f19⟩ := h
      refine V.icmp_gt (pc := 10) (tgt := 29) hG hx1_7 ((sR_l rfl)) dX12_leastDepth_10 (by decide) (fun c17 => ?_) (fun c17 => ?_)
      · have h := t18 c17
        clear t18 f19
        refine V.aload_n (pc := 29) hG dX12_leastDepth_29 rfl 0 rfl ?_
        refine V.iconst (pc := 30) hG dX12_leastDepth_30 ?_
        refine V.putI (pc := 31) (ci := 14) (k := 0) (M := 49) (T := TX12) (o := 504) (kz := 0) hG a_504 a_504.n (by decide) hin_X12 rfl (by decide) (by decide) rfl kw_1692 rfl tyX12 tyX12_ok nmX12 rfl (ty := tyX12 0) (tyX12_ok 0 (by decide)) rfl rfl dX12_leastDepth_31 ?_
        refine V.iconst (pc := 34) hG dX12_leastDepth_34 ?_
        exact fin dX12_leastDepth_35 ((sR_l rfl)) rfl ((okI_st hi_7 ((sR_l rfl)))) hw ⟨rfl, h⟩
      · have h := f19 c17
        clear t18 f19
        refine V.aload_n (pc := 13) hG dX12_leastDepth_13 rfl 0 rfl ?_
        refine V.iload_n (pc := 14) hG dX12_leastDepth_14 rfl 1 rfl ?_
        refine V.callVi (pc := 15) (As := [.int (sJ x1_7)]) (stk := []) hG (sm_X12_goRound l Δ hx1_7 hi_7 hw h) mY_X12_goRound kw_2237 kw_2239 kw_155 a_504 (by decide) (q := (RX12, TX12, 49)) rfl rfl ⟨Nat.le_of_ble_eq_true rfl, Nat.le_of_ble_eq_true rfl, Nat.le_of_ble_eq_true rfl, Nat.le_of_ble_eq_true rfl⟩ rfl (Nat.le_of_ble_eq_true rfl) dX12_leastDepth_15 rfl (fun v20 i21 r22 hv23 hi24 hw25 hq26 => ?_)
        obtain ⟨e31, h⟩ := hq26
        subst e31
        obtain ⟨f29, t28⟩ := h
        refine V.if_ne (pc := 18) (tgt := 23) hG hv23 dX12_leastDepth_18 (by decide) (fun c27 => ?_) (fun c27 => ?_)
        · have h := t28 c27
          clear t28 f29
          refine V.iinc (pc := 23) (lv' := [(1, .int (sJ (wr (x1_7 + 1)))), (0, .ref (sA Δ 504))]) hG dX12_leastDepth_23 1 rfl (by decide) rfl ?_
          refine V.goto (pc := 26) (tgt := 7) hG dX12_leastDepth_26 (by decide) ?_
          refine V.pick [1, 0] rfl ?_
          exact ih7 (wr (x1_7 + 1)) i21 ((sR_wr _)) hi24 h
        · have h := f29 c27
          clear t28 f29
          refine V.iload_n (pc := 21) hG dX12_leastDepth_21 rfl 1 rfl ?_
          exact fin dX12_leastDepth_22 hx1_7 rfl hi24 hw ⟨rfl, h⟩
  refine V.pick [1, 0] rfl ?_
  exact lp7 n16 1 (st i 504 0 0) ((sR_l rfl)) ((okI_st hi ((sR_l rfl)))) h
set_option maxRecDepth 100000 in
set_option maxHeartbeats 4000000 in
theorem sm_X12_checksum (l : Launch) (Δ : Wd) {i r : MI}   {Q : Int64 → MI → Prop} (hi : okI i) (hw : Wf r) (h : wp_X12_checksum  i r Q) : Met l yX12_checksum (Cond.code yX12_checksum cX12_checksum 4 (some .long) :: gW) (sRm 6 140) (sPc Δ [.ref (sA Δ 504)] i r) (sQl Δ (fun x i' r' => r = r' ∧ Q x i')) 0 0 (sFr Δ) := by
  refine Ct.l (by decide) rfl (Nat.le_of_ble_eq_true rfl) (fun Γ Q0 hG fin => ?_)
  have hG : okG Γ Δ l (sRm 6 140) cX12_checksum "SchedularyModel" 4 := hG
  show V Γ Δ 542 false i r 0 0 Q0 0 [(0, .ref (sA Δ 504))] []
  refine V.aload_n (pc := 0) hG dX12_checksum_0 rfl 0 rfl ?_
  refine V.iconst (pc := 1) hG dX12_checksum_1 ?_
  refine V.putI (pc := 2) (ci := 14) (k := 0) (M := 49) (T := TX12) (o := 504) (kz := 0) hG a_504 a_504.n (by decide) hin_X12 rfl (by decide) (by decide) rfl kw_1692 rfl tyX12 tyX12_ok nmX12 rfl (ty := tyX12 0) (tyX12_ok 0 (by decide)) rfl rfl dX12_checksum_2 ?_
  refine V.aload_n (pc := 5) hG dX12_checksum_5 rfl 0 rfl ?_
  refine V.callVv (pc := 6) (As := []) (stk := []) hG (sm_X12_list l Δ  ((okI_st hi ((sR_l rfl)))) hw h) mY_X12_list kw_2101 kw_2103 kw_138 a_504 (by decide) (q := (RX12, TX12, 49)) rfl rfl ⟨Nat.le_of_ble_eq_true rfl, Nat.le_of_ble_eq_true rfl, Nat.le_of_ble_eq_true rfl, Nat.le_of_ble_eq_true rfl⟩ rfl (Nat.le_of_ble_eq_true rfl) dX12_checksum_6 rfl (fun i2 r3 hi5 hw6 hq7 => ?_)
  obtain ⟨e29, h⟩ := hq7
  subst e29
  refine V.aload_n (pc := 9) hG dX12_checksum_9 rfl 0 rfl ?_
  refine V.callVi (pc := 10) (As := []) (stk := []) hG (sm_X12_placeAll l Δ  hi5 hw h) mY_X12_placeAll kw_2153 kw_2155 kw_145 a_504 (by decide) (q := (RX12, TX12, 49)) rfl rfl ⟨Nat.le_of_ble_eq_true rfl, Nat.le_of_ble_eq_true rfl, Nat.le_of_ble_eq_true rfl, Nat.le_of_ble_eq_true rfl⟩ rfl (Nat.le_of_ble_eq_true rfl) dX12_checksum_10 rfl (fun v8 i9 r10 hv11 hi12 hw13 hq14 => ?_)
  obtain ⟨e27, h⟩ := hq14
  subst e27
  refine V.pop (pc := 13) hG dX12_checksum_13 rfl ?_
  refine V.lconst (pc := 14) (x := 0) hG dX12_checksum_14 rfl ?_
  refine V.lstore_n (pc := 15) (lv' := [(1, .long 0), (0, .ref (sA Δ 504))]) hG dX12_checksum_15 rfl (by decide) rfl ?_
  refine V.iconst (pc := 16) hG dX12_checksum_16 ?_
  refine V.istore_n (pc := 17) (lv' := [(3, .int (sJ 0)), (1, .long 0), (0, .ref (sA Δ 504))]) hG dX12_checksum_17 rfl (by decide) rfl ?_
  obtain ⟨n20, h⟩ := h
  have lp18 : ∀ (m18 : Nat) (x1_18 : Int64) (x3_18 : Int), sR x3_18 → LoopP (b18_X12_checksum i9 r Q) m18 (x1_18, x3_18) → V Γ Δ 542 false i9 r 0 0 Q0 18 [(0, .ref (sA Δ 504)), (1, .long x1_18), (3, .int (sJ x3_18))] [] := by
    intro m18
    induction m18 with
    | zero => intro x1_18 x3_18 hx3_18 h; exact h.elim
    | succ m18 ih18 =>
      intro x1_18 x3_18 hx3_18 h
      have h := LoopP_succ h
      refine V.iload_n (pc := 18) hG dX12_checksum_18 rfl 2 rfl ?_
      refine V.aload_n (pc := 19) hG dX12_checksum_19 rfl 0 rfl ?_
      refine V.getI (pc := 20) (ci := 14) (k := 21) (M := 49) (T := TX12) (o := 504) (kz := 21) hG a_504 a_504.n (by decide) hin_X12 rfl (by decide) (by decide) rfl kw_1713 rfl dX12_checksum_20 ?_
      obtain ⟨t22, f23⟩ := h
      refine V.icmp_ge (pc := 23) (tgt := 57) hG hx3_18 ((hi12 _ _)) dX12_checksum_23 (by decide) (fun c21 => ?_) (fun c21 => ?_)
      · have h := t22 c21
        clear t22 f23
        refine V.lload_n (pc := 57) hG dX12_checksum_57 rfl 1 rfl ?_
        exact fin dX12_checksum_58 hi12 hw ⟨rfl, h⟩
      · have h := f23 c21
        clear t22 f23
        refine V.ldc2 (pc := 26) (x := 31) hG kw_2261 dX12_checksum_26 ?_
        refine V.lload_n (pc := 29) hG dX12_checksum_29 rfl 1 rfl ?_
        refine V.lmul (pc := 30) hG dX12_checksum_30 ?_
        refine V.aload_n (pc := 31) hG dX12_checksum_31 rfl 0 rfl ?_
        refine V.getR (x := 531) (pc := 32) (ci := 14) (k := 39) (M := 49) (T := TX12) (o := 504) (kz := 39) hG a_504 a_504.n (by decide) hin_X12 rfl (by decide) (by decide) rfl kw_1731 rfl ((hw).1 (504, 39, 531) (by decide)) (by decide) dX12_checksum_32 ?_
        refine V.iload_n (pc := 35) hG dX12_checksum_35 rfl 2 rfl ?_
        obtain ⟨g24, h⟩ := h
        refine V.iald (pc := 36) (z := 96) (o := 531) hG a_531 a_531.n hx3_18 g24 dX12_checksum_36 ?_
        refine V.i2l (pc := 37) hG dX12_checksum_37 ?_
        refine V.ladd (pc := 38) hG dX12_checksum_38 ?_
        refine V.bipush (pc := 39) hG dX12_checksum_39 (by decide) ?_
        refine V.aload_n (pc := 41) hG dX12_checksum_41 rfl 0 rfl ?_
        refine V.getR (x := 532) (pc := 42) (ci := 14) (k := 40) (M := 49) (T := TX12) (o := 504) (kz := 40) hG a_504 a_504.n (by decide) hin_X12 rfl (by decide) (by decide) rfl kw_1732 rfl ((hw).1 (504, 40, 532) (by decide)) (by decide) dX12_checksum_42 ?_
        refine V.iload_n (pc := 45) hG dX12_checksum_45 rfl 2 rfl ?_
        obtain ⟨g25, h⟩ := h
        refine V.iald (pc := 46) (z := 96) (o := 532) hG a_532 a_532.n hx3_18 g25 dX12_checksum_46 ?_
        refine V.imul (pc := 47) hG dX12_checksum_47 ?_
        refine V.i2l (pc := 48) hG dX12_checksum_48 ?_
        refine V.ladd (pc := 49) hG dX12_checksum_49 ?_
        refine V.lstore_n (pc := 50) (lv' := [(1, .long (((31 * x1_18) + ((sJ (i9 531 x3_18)).toInt64)) + ((sJ (wr (7 * i9 532 x3_18))).toInt64))), (0, .ref (sA Δ 504)), (3, .int (sJ x3_18))]) hG dX12_checksum_50 rfl (by decide) rfl ?_
        refine V.iinc (pc := 51) (lv' := [(3, .int (sJ (wr (x3_18 + 1)))), (1, .long (((31 * x1_18) + ((sJ (i9 531 x3_18)).toInt64)) + ((sJ (wr (7 * i9 532 x3_18))).toInt64))), (0, .ref (sA Δ 504))]) hG dX12_checksum_51 2 rfl (by decide) rfl ?_
        refine V.goto (pc := 54) (tgt := 18) hG dX12_checksum_54 (by decide) ?_
        refine V.pick [2, 1, 0] rfl ?_
        exact ih18 (((31 * x1_18) + ((sJ (i9 531 x3_18)).toInt64)) + ((sJ (wr (7 * i9 532 x3_18))).toInt64)) (wr (x3_18 + 1)) ((sR_wr _)) h
  refine V.pick [2, 1, 0] rfl ?_
  exact lp18 n20 0 0 ((sR_l rfl)) h
set_option maxRecDepth 100000 in
set_option maxHeartbeats 4000000 in
theorem sm_X12_isSound (l : Launch) (Δ : Wd) {i r : MI}   {Q : Int → MI → Prop} (hi : okI i) (hw : Wf r) (h : wp_X12_isSound  i r Q) : Met l yX12_isSound (Cond.code yX12_isSound cX12_isSound 1 (some .boolean) :: gW) (sRm 0 0) (sPc Δ [.ref (sA Δ 504)] i r) (sQi Δ (fun x i' r' => r = r' ∧ Q x i')) 0 0 (sFr Δ) := by
  refine Ct.i (ty := .boolean) (by decide) rfl (Nat.le_of_ble_eq_true rfl) (fun Γ Q0 hG fin => ?_)
  have hG : okG Γ Δ l (sRm 0 0) cX12_isSound "SchedularyModel" 1 := hG
  show V Γ Δ 542 false i r 0 0 Q0 0 [(0, .ref (sA Δ 504))] []
  refine V.aload_n (pc := 0) hG dX12_isSound_0 rfl 0 rfl ?_
  refine V.iconst (pc := 1) hG dX12_isSound_1 ?_
  refine V.putI (pc := 2) (ci := 14) (k := 0) (M := 49) (T := TX12) (o := 504) (kz := 0) hG a_504 a_504.n (by decide) hin_X12 rfl (by decide) (by decide) rfl kw_1692 rfl tyX12 tyX12_ok nmX12 rfl (ty := tyX12 0) (tyX12_ok 0 (by decide)) rfl rfl dX12_isSound_2 ?_
  refine V.iconst (pc := 5) hG dX12_isSound_5 ?_
  exact fin dX12_isSound_6 ((sR_l rfl)) (nar_z (by decide)) ((okI_st hi ((sR_l rfl)))) hw ⟨rfl, h⟩
set_option maxRecDepth 100000 in
set_option maxHeartbeats 4000000 in
theorem sm_J3_checkFromToIndex_8c36e (l : Launch) (Δ : Wd) {i r : MI} {p0 : Int} {p1 : Int} {p2 : Int} {w3 : Value} (hp0 : sR p0) (hp1 : sR p1) (hp2 : sR p2) (hw3 : w3.category = 1) {Q : Int → Prop} {X : String → Prop} (hst : l.stackTraces = false) (hi : okI i) (hw : Wf r) (h : wp_J3_checkFromToIndex_8c36e p0 p1 p2 i r Q X) : vx_Met l yJ3_checkFromToIndex_8c36e (Cond.code yJ3_checkFromToIndex_8c36e cJ3_checkFromToIndex_8c36e 4 (some .int) :: gW) (sRx 6 82 0 0) (sPc Δ [.int (sJ p0), .int (sJ p1), .int (sJ p2), w3] i r) (sQi Δ (fun x i' r' => i = i' ∧ r = r' ∧ Q x)) (sX Δ (fun E i' r' => i = i' ∧ r = r' ∧ X E)) 0 0 (sFr Δ) := by
  refine Cx.i (ty := .int) (by decide) rfl (Nat.le_of_ble_eq_true rfl) hst (by decide) (by decide) (fun Γ Q0 hG fin xout xthr => ?_)
  have hG : okG Γ Δ l (sRx 6 82 0 0) cJ3_checkFromToIndex_8c36e "jdk/internal/util/Preconditions" 4 := hG
  show V Γ Δ 542 false i r 0 0 Q0 0 [(0, .int (sJ p0)), (1, .int (sJ p1)), (2, .int (sJ p2)), (3, w3)] []
  have jn14 : s14_J3_checkFromToIndex_8c36e p0 p1 p2 i r Q X → V Γ Δ 542 false i r 0 0 Q0 14 [(0, .int (sJ p0)), (1, .int (sJ p1)), (2, .int (sJ p2)), (3, w3)] [] := by
    intro h
    refine V.aload_n (pc := 14) hG dJ3_checkFromToIndex_8c36e_14 rfl 3 rfl ?_
    refine V.iload_n (pc := 15) hG dJ3_checkFromToIndex_8c36e_15 rfl 0 rfl ?_
    refine V.iload_n (pc := 16) hG dJ3_checkFromToIndex_8c36e_16 rfl 1 rfl ?_
    refine V.iload_n (pc := 17) hG dJ3_checkFromToIndex_8c36e_17 rfl 2 rfl ?_
    exact h.elim
  refine V.iload_n (pc := 0) hG dJ3_checkFromToIndex_8c36e_0 rfl 0 rfl ?_
  obtain ⟨t2, f3⟩ := h
  refine V.if_lt (pc := 1) (tgt := 14) hG hp0 dJ3_checkFromToIndex_8c36e_1 (by decide) (fun c1 => ?_) (fun c1 => ?_)
  · have h := t2 c1
    clear t2 f3
    exact jn14 h
  · have h := f3 c1
    clear t2 f3
    refine V.iload_n (pc := 4) hG dJ3_checkFromToIndex_8c36e_4 rfl 0 rfl ?_
    refine V.iload_n (pc := 5) hG dJ3_checkFromToIndex_8c36e_5 rfl 1 rfl ?_
    obtain ⟨t5, f6⟩ := h
    refine V.icmp_gt (pc := 6) (tgt := 14) hG hp0 hp1 dJ3_checkFromToIndex_8c36e_6 (by decide) (fun c4 => ?_) (fun c4 => ?_)
    · have h := t5 c4
      clear t5 f6
      exact jn14 h
    · have h := f6 c4
      clear t5 f6
      refine V.iload_n (pc := 9) hG dJ3_checkFromToIndex_8c36e_9 rfl 1 rfl ?_
      refine V.iload_n (pc := 10) hG dJ3_checkFromToIndex_8c36e_10 rfl 2 rfl ?_
      obtain ⟨t8, f9⟩ := h
      refine V.icmp_le (pc := 11) (tgt := 22) hG hp1 hp2 dJ3_checkFromToIndex_8c36e_11 (by decide) (fun c7 => ?_) (fun c7 => ?_)
      · have h := t8 c7
        clear t8 f9
        refine V.iload_n (pc := 22) hG dJ3_checkFromToIndex_8c36e_22 rfl 0 rfl ?_
        exact fin dJ3_checkFromToIndex_8c36e_23 hp0 rfl (by decide) (by decide) hi hw ⟨rfl, rfl, h⟩
      · have h := f9 c7
        clear t8 f9
        exact jn14 h
set_option maxRecDepth 100000 in
set_option maxHeartbeats 4000000 in
theorem sm_J0_checkBoundsBeginEnd_23922 (l : Launch) (Δ : Wd) {i r : MI} {p0 : Int} {p1 : Int} {p2 : Int} (hp0 : sR p0) (hp1 : sR p1) (hp2 : sR p2) {Q : Prop} {X : String → Prop} (hst : l.stackTraces = false) (hi : okI i) (hw : Wf r) (h : wp_J0_checkBoundsBeginEnd_23922 p0 p1 p2 i r Q X) : vx_Met l yJ0_checkBoundsBeginEnd_23922 (Cond.code yJ0_checkBoundsBeginEnd_23922 cJ0_checkBoundsBeginEnd_23922 3 none :: gW) (sRx 7 105 0 0) (sPc Δ [.int (sJ p0), .int (sJ p1), .int (sJ p2)] i r) (sQv Δ (fun i' r' => i = i' ∧ r = r' ∧ Q)) (sX Δ (fun E i' r' => i = i' ∧ r = r' ∧ X E)) 0 0 (sFr Δ) := by
  refine Cx.v (by decide) rfl (Nat.le_of_ble_eq_true rfl) hst (by decide) (by decide) (fun Γ Q0 hG fin xout xthr => ?_)
  have hG : okG Γ Δ l (sRx 7 105 0 0) cJ0_checkBoundsBeginEnd_23922 "java/lang/String" 3 := hG
  show V Γ Δ 542 false i r 0 0 Q0 0 [(0, .int (sJ p0)), (1, .int (sJ p1)), (2, .int (sJ p2))] []
  refine V.iload_n (pc := 0) hG dJ0_checkBoundsBeginEnd_23922_0 rfl 0 rfl ?_
  refine V.iload_n (pc := 1) hG dJ0_checkBoundsBeginEnd_23922_1 rfl 1 rfl ?_
  refine V.iload_n (pc := 2) hG dJ0_checkBoundsBeginEnd_23922_2 rfl 2 rfl ?_
  refine V.sfmt (pc := 3) hG kw_706 dJ0_checkBoundsBeginEnd_23922_3 (fun w1 hw1 => ?_)
  refine V.xcallVi (pc := 6) (As := [.int (sJ p0), .int (sJ p1), .int (sJ p2), w1]) (stk := []) hG (sm_J3_checkFromToIndex_8c36e l Δ hp0 hp1 hp2 hw1 hst hi hw h) mY_J3_checkFromToIndex_8c36e kw_708 kw_709 ⟨Nat.le_of_ble_eq_true rfl, Nat.le_of_ble_eq_true rfl, Nat.le_of_ble_eq_true rfl, Nat.le_of_ble_eq_true rfl⟩ rfl (Nat.le_of_ble_eq_true rfl) dJ0_checkBoundsBeginEnd_23922_6 rfl (fun z9 z10 z11 z12 z13 z14 => ?_) (fun v2 i3 r4 hv5 hi6 hw7 hq8 => ?_)
  · obtain ⟨e15, e16, h⟩ := z14
    subst e15
    subst e16
    exact xout (by decide) (by decide) hi hw ⟨rfl, rfl, h⟩
  · obtain ⟨e15, e16, h⟩ := hq8
    subst e15
    subst e16
    refine V.pop (pc := 9) hG dJ0_checkBoundsBeginEnd_23922_9 rfl ?_
    exact fin dJ0_checkBoundsBeginEnd_23922_10 (by decide) (by decide) hi hw ⟨rfl, rfl, h⟩
