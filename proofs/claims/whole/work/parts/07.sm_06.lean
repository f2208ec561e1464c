set_option maxRecDepth 100000 in
set_option maxHeartbeats 4000000 in
theorem sm_X12_fromChannel (l : Launch) (Δ : Wd) {i r : MI}   {Q : Int → MI → Prop} (hi : okI i) (hw : Wf r) (h : wp_X12_fromChannel  i r Q) : Met l yX12_fromChannel (Cond.code yX12_fromChannel cX12_fromChannel 1 (some .int) :: gW) (sRm 1 21) (sPc Δ [.ref (sA Δ 504)] i r) (sQi Δ (fun x i' r' => r = r' ∧ Q x i')) 0 0 (sFr Δ) := by
  refine Ct.i (ty := .int) (by decide) rfl (Nat.le_of_ble_eq_true rfl) (fun Γ Q0 hG fin => ?_)
  have hG : okG Γ Δ l (sRm 1 21) cX12_fromChannel "SchedularyModel" 1 := hG
  show V Γ Δ 542 false i r 0 0 Q0 0 [(0, .ref (sA Δ 504))] []
  have jn40 : ∀ (k0j40 : Int) (ij40 : MI), sR k0j40 → okI ij40 → s40_X12_fromChannel k0j40 ij40 r Q → V Γ Δ 542 false ij40 r 0 0 Q0 40 [] [.int (sJ k0j40)] := by
    intro k0j40 ij40 hk0j40 hij40 h
    exact fin dX12_fromChannel_40 hk0j40 rfl hij40 hw ⟨rfl, h⟩
  refine V.aload_n (pc := 0) hG dX12_fromChannel_0 rfl 0 rfl ?_
  refine V.dup (pc := 1) hG dX12_fromChannel_1 rfl ?_
  refine V.getI (pc := 2) (ci := 14) (k := 20) (M := 49) (T := TX12) (o := 504) (kz := 20) hG a_504 a_504.n (by decide) hin_X12 rfl (by decide) (by decide) rfl kw_1712 rfl dX12_fromChannel_2 ?_
  refine V.iconst (pc := 5) hG dX12_fromChannel_5 ?_
  refine V.iadd (pc := 6) hG dX12_fromChannel_6 ?_
  refine V.putI (pc := 7) (ci := 14) (k := 20) (M := 49) (T := TX12) (o := 504) (kz := 20) hG a_504 a_504.n (by decide) hin_X12 rfl (by decide) (by decide) rfl kw_1712 rfl tyX12 tyX12_ok nmX12 rfl (ty := tyX12 20) (tyX12_ok 20 (by decide)) rfl rfl dX12_fromChannel_7 ?_
  refine V.aload_n (pc := 10) hG dX12_fromChannel_10 rfl 0 rfl ?_
  refine V.getI (pc := 11) (ci := 14) (k := 20) (M := 49) (T := TX12) (o := 504) (kz := 20) hG a_504 a_504.n (by decide) hin_X12 rfl (by decide) (by decide) rfl kw_1712 rfl dX12_fromChannel_11 ?_
  refine V.aload_n (pc := 14) hG dX12_fromChannel_14 rfl 0 rfl ?_
  refine V.getI (pc := 15) (ci := 14) (k := 11) (M := 49) (T := TX12) (o := 504) (kz := 11) hG a_504 a_504.n (by decide) hin_X12 rfl (by decide) (by decide) rfl kw_1703 rfl dX12_fromChannel_15 ?_
  obtain ⟨t2, f3⟩ := h
  refine V.icmp_gt (pc := 18) (tgt := 39) hG (((okI_st hi ((sR_wr _))) _ _)) (((okI_st hi ((sR_wr _))) _ _)) dX12_fromChannel_18 (by decide) (fun c1 => ?_) (fun c1 => ?_)
  · have h := t2 c1
    clear t2 f3
    refine V.iconst (pc := 39) hG dX12_fromChannel_39 ?_
    refine V.pick [] rfl ?_
    exact jn40 0 (st i 504 20 (wr (i 504 20 + 1))) ((sR_l rfl)) ((okI_st hi ((sR_wr _)))) h
  · have h := f3 c1
    clear t2 f3
    refine V.aload_n (pc := 21) hG dX12_fromChannel_21 rfl 0 rfl ?_
    refine V.aload_n (pc := 22) hG dX12_fromChannel_22 rfl 0 rfl ?_
    refine V.getR (x := 508) (pc := 23) (ci := 14) (k := 12) (M := 49) (T := TX12) (o := 504) (kz := 12) hG a_504 a_504.n (by decide) hin_X12 rfl (by decide) (by decide) rfl kw_1704 rfl ((hw).1 (504, 12, 508) (by decide)) (by decide) dX12_fromChannel_23 ?_
    refine V.aload_n (pc := 26) hG dX12_fromChannel_26 rfl 0 rfl ?_
    refine V.getI (pc := 27) (ci := 14) (k := 20) (M := 49) (T := TX12) (o := 504) (kz := 20) hG a_504 a_504.n (by decide) hin_X12 rfl (by decide) (by decide) rfl kw_1712 rfl dX12_fromChannel_27 ?_
    refine V.iconst (pc := 30) hG dX12_fromChannel_30 ?_
    refine V.isub (pc := 31) hG dX12_fromChannel_31 ?_
    obtain ⟨g4, h⟩ := h
    refine V.iald (pc := 32) (z := 32) (o := 508) hG a_508 a_508.n ((sR_wr _)) g4 dX12_fromChannel_32 ?_
    refine V.callVi (pc := 33) (As := [.int (sJ ((st i 504 20 (wr (i 504 20 + 1))) 508 (wr ((st i 504 20 (wr (i 504 20 + 1))) 504 20 - 1))))]) (stk := []) hG (sm_X12_taken l Δ (((okI_st hi ((sR_wr _))) _ _)) ((okI_st hi ((sR_wr _)))) hw h) mY_X12_taken kw_2020 kw_2022 kw_131 a_504 (by decide) (q := (RX12, TX12, 49)) rfl rfl ⟨Nat.le_of_ble_eq_true rfl, Nat.le_of_ble_eq_true rfl, Nat.le_of_ble_eq_true rfl, Nat.le_of_ble_eq_true rfl⟩ rfl (Nat.le_of_ble_eq_true rfl) dX12_fromChannel_33 rfl (fun v5 i6 r7 hv8 hi9 hw10 hq11 => ?_)
    obtain ⟨e12, e13, h⟩ := hq11
    subst e12
    subst e13
    refine V.goto (pc := 36) (tgt := 40) hG dX12_fromChannel_36 (by decide) ?_
    refine V.pick [] rfl ?_
    exact jn40 v5 (st i 504 20 (wr (i 504 20 + 1))) hv8 ((okI_st hi ((sR_wr _)))) h
set_option maxRecDepth 100000 in
set_option maxHeartbeats 4000000 in
theorem sm_X12_operand (l : Launch) (Δ : Wd) {i r : MI} {p1 : Int} {p2 : Int} (hp1 : sR p1) (hp2 : sR p2) {Q : Int → MI → Prop} (hi : okI i) (hw : Wf r) (h : wp_X12_operand p1 p2 i r Q) : Met l yX12_operand (Cond.code yX12_operand cX12_operand 5 (some .int) :: gW) (sRm 2 46) (sPc Δ [.ref (sA Δ 504), .int (sJ p1), .int (sJ p2)] i r) (sQi Δ (fun x i' r' => r = r' ∧ Q x i')) 0 0 (sFr Δ) := by
  refine Ct.i (ty := .int) (by decide) rfl (Nat.le_of_ble_eq_true rfl) (fun Γ Q0 hG fin => ?_)
  have hG : okG Γ Δ l (sRm 2 46) cX12_operand "SchedularyModel" 5 := hG
  show V Γ Δ 542 false i r 0 0 Q0 0 [(0, .ref (sA Δ 504)), (1, .int (sJ p1)), (2, .int (sJ p2))] []
  have jn126 : ∀ (k0j126 : Int) (ij126 : MI), sR k0j126 → okI ij126 → s126_X12_operand k0j126 ij126 r Q → V Γ Δ 542 false ij126 r 0 0 Q0 126 [] [.int (sJ k0j126)] := by
    intro k0j126 ij126 hk0j126 hij126 h
    exact fin dX12_operand_126 hk0j126 rfl hij126 hw ⟨rfl, h⟩
  have jn86 : ∀ (x3j86 : Int) (ij86 : MI), sR x3j86 → okI ij86 → s86_X12_operand p1 p2 x3j86 ij86 r Q → V Γ Δ 542 false ij86 r 0 0 Q0 86 [(0, .ref (sA Δ 504)), (1, .int (sJ p1)), (2, .int (sJ p2)), (3, .int (sJ x3j86))] [] := by
    intro x3j86 ij86 hx3j86 hij86 h
    refine V.iload_n (pc := 86) hG dX12_operand_86 rfl 3 rfl ?_
    refine V.aload_n (pc := 87) hG dX12_operand_87 rfl 0 rfl ?_
    refine V.getR (x := 507) (pc := 88) (ci := 14) (k := 7) (M := 49) (T := TX12) (o := 504) (kz := 7) hG a_504 a_504.n (by decide) hin_X12 rfl (by decide) (by decide) rfl kw_1699 rfl ((hw).1 (504, 7, 507) (by decide)) (by decide) dX12_operand_88 ?_
    refine V.iload_n (pc := 91) hG dX12_operand_91 rfl 1 rfl ?_
    refine V.iconst (pc := 92) hG dX12_operand_92 ?_
    refine V.iadd (pc := 93) hG dX12_operand_93 ?_
    obtain ⟨g16, h⟩ := h
    refine V.iald (pc := 94) (z := 156) (o := 507) hG a_507 a_507.n ((sR_wr _)) g16 dX12_operand_94 ?_
    refine V.aload_n (pc := 95) hG dX12_operand_95 rfl 0 rfl ?_
    refine V.getR (x := 507) (pc := 96) (ci := 14) (k := 7) (M := 49) (T := TX12) (o := 504) (kz := 7) hG a_504 a_504.n (by decide) hin_X12 rfl (by decide) (by decide) rfl kw_1699 rfl ((hw).1 (504, 7, 507) (by decide)) (by decide) dX12_operand_96 ?_
    refine V.iload_n (pc := 99) hG dX12_operand_99 rfl 1 rfl ?_
    refine V.iconst (pc := 100) hG dX12_operand_100 ?_
    refine V.iadd (pc := 101) hG dX12_operand_101 ?_
    obtain ⟨g17, h⟩ := h
    refine V.iald (pc := 102) (z := 156) (o := 507) hG a_507 a_507.n ((sR_wr _)) g17 dX12_operand_102 ?_
    refine V.iload_n (pc := 103) hG dX12_operand_103 rfl 2 rfl ?_
    refine V.callSi (pc := 104) (As := [.int (sJ x3j86), .int (sJ (ij86 507 (wr (p1 + 2)))), .int (sJ (ij86 507 (wr (p1 + 3)))), .int (sJ p2)]) (stk := []) hG (sm_X12_where l Δ hx3j86 ((hij86 _ _)) ((hij86 _ _)) hp2 hij86 hw h) mY_X12_where kw_2032 kw_2033 rfl ⟨Nat.le_of_ble_eq_true rfl, Nat.le_of_ble_eq_true rfl, Nat.le_of_ble_eq_true rfl, Nat.le_of_ble_eq_true rfl⟩ rfl (Nat.le_of_ble_eq_true rfl) dX12_operand_104 rfl (fun v18 i19 r20 hv21 hi22 hw23 hq24 => ?_)
    obtain ⟨e29, e30, h⟩ := hq24
    subst e29
    subst e30
    refine V.istore (pc := 107) (lv' := [(4, .int (sJ v18)), (0, .ref (sA Δ 504)), (1, .int (sJ p1)), (2, .int (sJ p2)), (3, .int (sJ x3j86))]) hG dX12_operand_107 (by decide) rfl ?_
    refine V.iload (pc := 109) hG dX12_operand_109 0 rfl ?_
    refine V.iconst (pc := 111) hG dX12_operand_111 ?_
    obtain ⟨f27, t26⟩ := h
    refine V.icmp_ne (pc := 112) (tgt := 119) hG hv21 ((sR_l rfl)) dX12_operand_112 (by decide) (fun c25 => ?_) (fun c25 => ?_)
    · have h := t26 c25
      clear t26 f27
      refine V.aload_n (pc := 119) hG dX12_operand_119 rfl 1 rfl ?_
      refine V.getR (x := 513) (pc := 120) (ci := 14) (k := 17) (M := 49) (T := TX12) (o := 504) (kz := 17) hG a_504 a_504.n (by decide) hin_X12 rfl (by decide) (by decide) rfl kw_1709 rfl ((hw).1 (504, 17, 513) (by decide)) (by decide) dX12_operand_120 ?_
      refine V.iload (pc := 123) hG dX12_operand_123 0 rfl ?_
      obtain ⟨g28, h⟩ := h
      refine V.iald (pc := 125) (z := 32) (o := 513) hG a_513 a_513.n hv21 g28 dX12_operand_125 ?_
      refine V.pick [] rfl ?_
      exact jn126 (ij86 513 v18) ij86 ((hij86 _ _)) hij86 h
    · have h := f27 c25
      clear t26 f27
      refine V.iconst (pc := 115) hG dX12_operand_115 ?_
      refine V.goto (pc := 116) (tgt := 126) hG dX12_operand_116 (by decide) ?_
      refine V.pick [] rfl ?_
      exact jn126 0 ij86 ((sR_l rfl)) hij86 h
  refine V.aload_n (pc := 0) hG dX12_operand_0 rfl 0 rfl ?_
  refine V.getR (x := 507) (pc := 1) (ci := 14) (k := 7) (M := 49) (T := TX12) (o := 504) (kz := 7) hG a_504 a_504.n (by decide) hin_X12 rfl (by decide) (by decide) rfl kw_1699 rfl ((hw).1 (504, 7, 507) (by decide)) (by decide) dX12_operand_1 ?_
  refine V.iload_n (pc := 4) hG dX12_operand_4 rfl 1 rfl ?_
  obtain ⟨g31, h⟩ := h
  refine V.iald (pc := 5) (z := 156) (o := 507) hG a_507 a_507.n hp1 g31 dX12_operand_5 ?_
  refine V.istore_n (pc := 6) (lv' := [(3, .int (sJ (i 507 p1))), (0, .ref (sA Δ 504)), (1, .int (sJ p1)), (2, .int (sJ p2))]) hG dX12_operand_6 rfl (by decide) rfl ?_
  refine V.iload_n (pc := 7) hG dX12_operand_7 rfl 0 rfl ?_
  obtain ⟨t33, f34⟩ := h
  by_cases c32 : i 507 p1 = 0
  · have h := t33 c32
    clear t33 f34
    refine V.tableIn (pc := 8) (tgt := 48) (off := 40) hG ((hi _ _)) dX12_operand_8 (by omega) (by omega) (by rw [c32]; rfl) (by decide) ?_
    refine V.aload_n (pc := 48) hG dX12_operand_48 rfl 1 rfl ?_
    refine V.getR (x := 512) (pc := 49) (ci := 14) (k := 16) (M := 49) (T := TX12) (o := 504) (kz := 16) hG a_504 a_504.n (by decide) hin_X12 rfl (by decide) (by decide) rfl kw_1708 rfl ((hw).1 (504, 16, 512) (by decide)) (by decide) dX12_operand_49 ?_
    refine V.aload_n (pc := 52) hG dX12_operand_52 rfl 1 rfl ?_
    refine V.getR (x := 507) (pc := 53) (ci := 14) (k := 7) (M := 49) (T := TX12) (o := 504) (kz := 7) hG a_504 a_504.n (by decide) hin_X12 rfl (by decide) (by decide) rfl kw_1699 rfl ((hw).1 (504, 7, 507) (by decide)) (by decide) dX12_operand_53 ?_
    refine V.iload_n (pc := 56) hG dX12_operand_56 rfl 2 rfl ?_
    refine V.iconst (pc := 57) hG dX12_operand_57 ?_
    refine V.iadd (pc := 58) hG dX12_operand_58 ?_
    obtain ⟨g35, h⟩ := h
    refine V.iald (pc := 59) (z := 156) (o := 507) hG a_507 a_507.n ((sR_wr _)) g35 dX12_operand_59 ?_
    obtain ⟨g36, h⟩ := h
    refine V.iald (pc := 60) (z := 8) (o := 512) hG a_512 a_512.n ((hi _ _)) g36 dX12_operand_60 ?_
    exact fin dX12_operand_61 ((hi _ _)) rfl hi hw ⟨rfl, h⟩
  · have h := f34 c32
    clear t33 f34
    obtain ⟨t38, f39⟩ := h
    by_cases c37 : i 507 p1 = 1
    · have h := t38 c37
      clear t38 f39
      refine V.tableIn (pc := 8) (tgt := 62) (off := 54) hG ((hi _ _)) dX12_operand_8 (by omega) (by omega) (by rw [c37]; rfl) (by decide) ?_
      refine V.aload_n (pc := 62) hG dX12_operand_62 rfl 1 rfl ?_
      refine V.aload_n (pc := 63) hG dX12_operand_63 rfl 1 rfl ?_
      refine V.getR (x := 507) (pc := 64) (ci := 14) (k := 7) (M := 49) (T := TX12) (o := 504) (kz := 7) hG a_504 a_504.n (by decide) hin_X12 rfl (by decide) (by decide) rfl kw_1699 rfl ((hw).1 (504, 7, 507) (by decide)) (by decide) dX12_operand_64 ?_
      refine V.iload_n (pc := 67) hG dX12_operand_67 rfl 2 rfl ?_
      refine V.iconst (pc := 68) hG dX12_operand_68 ?_
      refine V.iadd (pc := 69) hG dX12_operand_69 ?_
      obtain ⟨g40, h⟩ := h
      refine V.iald (pc := 70) (z := 156) (o := 507) hG a_507 a_507.n ((sR_wr _)) g40 dX12_operand_70 ?_
      refine V.callVi (pc := 71) (As := [.int (sJ (i 507 (wr (p1 + 1))))]) (stk := []) hG (sm_X12_taken l Δ ((hi _ _)) hi hw h) mY_X12_taken kw_2020 kw_2022 kw_131 a_504 (by decide) (q := (RX12, TX12, 49)) rfl rfl ⟨Nat.le_of_ble_eq_true rfl, Nat.le_of_ble_eq_true rfl, Nat.le_of_ble_eq_true rfl, Nat.le_of_ble_eq_true rfl⟩ rfl (Nat.le_of_ble_eq_true rfl) dX12_operand_71 rfl (fun v41 i42 r43 hv44 hi45 hw46 hq47 => ?_)
      obtain ⟨e48, e49, h⟩ := hq47
      subst e48
      subst e49
      exact fin dX12_operand_74 hv44 rfl hi hw ⟨rfl, h⟩
    · have h := f39 c37
      clear t38 f39
      obtain ⟨t51, f52⟩ := h
      by_cases c50 : i 507 p1 = 2
      · have h := t51 c50
        clear t51 f52
        refine V.tableIn (pc := 8) (tgt := 75) (off := 67) hG ((hi _ _)) dX12_operand_8 (by omega) (by omega) (by rw [c50]; rfl) (by decide) ?_
        refine V.aload_n (pc := 75) hG dX12_operand_75 rfl 1 rfl ?_
        refine V.iload_n (pc := 76) hG dX12_operand_76 rfl 3 rfl ?_
        refine V.callVi (pc := 77) (As := [.int (sJ p2)]) (stk := []) hG (sm_X12_taken l Δ hp2 hi hw h) mY_X12_taken kw_2020 kw_2022 kw_131 a_504 (by decide) (q := (RX12, TX12, 49)) rfl rfl ⟨Nat.le_of_ble_eq_true rfl, Nat.le_of_ble_eq_true rfl, Nat.le_of_ble_eq_true rfl, Nat.le_of_ble_eq_true rfl⟩ rfl (Nat.le_of_ble_eq_true rfl) dX12_operand_77 rfl (fun v53 i54 r55 hv56 hi57 hw58 hq59 => ?_)
        obtain ⟨e60, e61, h⟩ := hq59
        subst e60
        subst e61
        exact fin dX12_operand_80 hv56 rfl hi hw ⟨rfl, h⟩
      · have h := f52 c50
        clear t51 f52
        obtain ⟨t63, f64⟩ := h
        by_cases c62 : i 507 p1 = 3
        · have h := t63 c62
          clear t63 f64
          refine V.tableIn (pc := 8) (tgt := 86) (off := 78) hG ((hi _ _)) dX12_operand_8 (by omega) (by omega) (by rw [c62]; rfl) (by decide) ?_
          refine V.pick [1, 2, 3, 0] rfl ?_
          exact jn86 (i 507 p1) i ((hi _ _)) hi h
        · have h := f64 c62
          clear t63 f64
          obtain ⟨t66, f67⟩ := h
          by_cases c65 : i 507 p1 = 4
          · have h := t66 c65
            clear t66 f67
            refine V.tableIn (pc := 8) (tgt := 86) (off := 78) hG ((hi _ _)) dX12_operand_8 (by omega) (by omega) (by rw [c65]; rfl) (by decide) ?_
            refine V.pick [1, 2, 3, 0] rfl ?_
            exact jn86 (i 507 p1) i ((hi _ _)) hi h
          · have h := f67 c65
            clear t66 f67
            obtain ⟨t69, f70⟩ := h
            by_cases c68 : i 507 p1 = 5
            · have h := t69 c68
              clear t69 f70
              refine V.tableIn (pc := 8) (tgt := 81) (off := 73) hG ((hi _ _)) dX12_operand_8 (by omega) (by omega) (by rw [c68]; rfl) (by decide) ?_
              refine V.aload_n (pc := 81) hG dX12_operand_81 rfl 1 rfl ?_
              refine V.callVi (pc := 82) (As := []) (stk := []) hG (sm_X12_fromChannel l Δ  hi hw h) mY_X12_fromChannel kw_2028 kw_2030 kw_133 a_504 (by decide) (q := (RX12, TX12, 49)) rfl rfl ⟨Nat.le_of_ble_eq_true rfl, Nat.le_of_ble_eq_true rfl, Nat.le_of_ble_eq_true rfl, Nat.le_of_ble_eq_true rfl⟩ rfl (Nat.le_of_ble_eq_true rfl) dX12_operand_82 rfl (fun v71 i72 r73 hv74 hi75 hw76 hq77 => ?_)
              obtain ⟨e79, h⟩ := hq77
              subst e79
              exact fin dX12_operand_85 hv74 rfl hi75 hw ⟨rfl, h⟩
            · have h := f70 c68
              clear t69 f70
              refine V.tableOut (pc := 8) (tgt := 86) hG ((hi _ _)) dX12_operand_8 (by omega) (by decide) ?_
              refine V.pick [1, 2, 3, 0] rfl ?_
              exact jn86 (i 507 p1) i ((hi _ _)) hi h
set_option maxRecDepth 100000 in
set_option maxHeartbeats 4000000 in
theorem sm_X12_operate (l : Launch) (Δ : Wd) {i r : MI} {p1 : Int} {p2 : Int} {p3 : Int} (hp1 : sR p1) (hp2 : sR p2) (hp3 : sR p3) {Q : Int → Prop} (hi : okI i) (hw : Wf r) (h : wp_X12_operate p1 p2 p3 i r Q) : Met l yX12_operate (Cond.code yX12_operate cX12_operate 4 (some .int) :: gW) (sRm 1 21) (sPc Δ [.ref (sA Δ 504), .int (sJ p1), .int (sJ p2), .int (sJ p3)] i r) (sQi Δ (fun x i' r' => i = i' ∧ r = r' ∧ Q x)) 0 0 (sFr Δ) := by
  refine Ct.i (ty := .int) (by decide) rfl (Nat.le_of_ble_eq_true rfl) (fun Γ Q0 hG fin => ?_)
  have hG : okG Γ Δ l (sRm 1 21) cX12_operate "SchedularyModel" 4 := hG
  show V Γ Δ 542 false i r 0 0 Q0 0 [(0, .ref (sA Δ 504)), (1, .int (sJ p1)), (2, .int (sJ p2)), (3, .int (sJ p3))] []
  have jn107 : ∀ (k1j107 : Int), sR k1j107 → s107_X12_operate k1j107 i r Q → V Γ Δ 542 false i r 0 0 Q0 107 [] [.int (sJ k1j107), .ref (sA Δ 504)] := by
    intro k1j107 hk1j107 h
    refine V.callVi (pc := 107) (As := [.int (sJ k1j107)]) (stk := []) hG (sm_X12_taken l Δ hk1j107 hi hw h) mY_X12_taken kw_2020 kw_2022 kw_131 a_504 (by decide) (q := (RX12, TX12, 49)) rfl rfl ⟨Nat.le_of_ble_eq_true rfl, Nat.le_of_ble_eq_true rfl, Nat.le_of_ble_eq_true rfl, Nat.le_of_ble_eq_true rfl⟩ rfl (Nat.le_of_ble_eq_true rfl) dX12_operate_107 rfl (fun v10 i11 r12 hv13 hi14 hw15 hq16 => ?_)
    obtain ⟨e17, e18, h⟩ := hq16
    subst e17
    subst e18
    exact fin dX12_operate_110 hv13 rfl hi hw ⟨rfl, rfl, h⟩
  refine V.iload_n (pc := 0) hG dX12_operate_0 rfl 1 rfl ?_
  obtain ⟨t20, f21⟩ := h
  by_cases c19 : p1 = 38
  · have h := t20 c19
    clear t20 f21
    refine V.lookup (pc := 1) (tgt := 84) (off := 83) hG hp1 dX12_operate_1 (by decide) (by rw [c19]; rfl) (by decide) ?_
    refine V.iload_n (pc := 84) hG dX12_operate_84 rfl 2 rfl ?_
    refine V.iload_n (pc := 85) hG dX12_operate_85 rfl 3 rfl ?_
    refine V.iand (pc := 86) hG dX12_operate_86 ?_
    exact fin dX12_operate_87 ((sR_and _ _)) rfl hi hw ⟨rfl, rfl, h⟩
  · have h := f21 c19
    clear t20 f21
    obtain ⟨t23, f24⟩ := h
    by_cases c22 : p1 = 42
    · have h := t23 c22
      clear t23 f24
      refine V.lookup (pc := 1) (tgt := 76) (off := 75) hG hp1 dX12_operate_1 (by decide) (by rw [c22]; rfl) (by decide) ?_
      refine V.aload_n (pc := 76) hG dX12_operate_76 rfl 0 rfl ?_
      refine V.iload_n (pc := 77) hG dX12_operate_77 rfl 2 rfl ?_
      refine V.iload_n (pc := 78) hG dX12_operate_78 rfl 3 rfl ?_
      refine V.imul (pc := 79) hG dX12_operate_79 ?_
      refine V.callVi (pc := 80) (As := [.int (sJ (wr (p2 * p3)))]) (stk := []) hG (sm_X12_taken l Δ ((sR_wr _)) hi hw h) mY_X12_taken kw_2020 kw_2022 kw_131 a_504 (by decide) (q := (RX12, TX12, 49)) rfl rfl ⟨Nat.le_of_ble_eq_true rfl, Nat.le_of_ble_eq_true rfl, Nat.le_of_ble_eq_true rfl, Nat.le_of_ble_eq_true rfl⟩ rfl (Nat.le_of_ble_eq_true rfl) dX12_operate_80 rfl (fun v25 i26 r27 hv28 hi29 hw30 hq31 => ?_)
      obtain ⟨e32, e33, h⟩ := hq31
      subst e32
      subst e33
      exact fin dX12_operate_83 hv28 rfl hi hw ⟨rfl, rfl, h⟩
    · have h := f24 c22
      clear t23 f24
      obtain ⟨t35, f36⟩ := h
      by_cases c34 : p1 = 43
      · have h := t35 c34
        clear t35 f36
        refine V.lookup (pc := 1) (tgt := 60) (off := 59) hG hp1 dX12_operate_1 (by decide) (by rw [c34]; rfl) (by decide) ?_
        refine V.aload_n (pc := 60) hG dX12_operate_60 rfl 0 rfl ?_
        refine V.iload_n (pc := 61) hG dX12_operate_61 rfl 2 rfl ?_
        refine V.iload_n (pc := 62) hG dX12_operate_62 rfl 3 rfl ?_
        refine V.iadd (pc := 63) hG dX12_operate_63 ?_
        refine V.callVi (pc := 64) (As := [.int (sJ (wr (p2 + p3)))]) (stk := []) hG (sm_X12_taken l Δ ((sR_wr _)) hi hw h) mY_X12_taken kw_2020 kw_2022 kw_131 a_504 (by decide) (q := (RX12, TX12, 49)) rfl rfl ⟨Nat.le_of_ble_eq_true rfl, Nat.le_of_ble_eq_true rfl, Nat.le_of_ble_eq_true rfl, Nat.le_of_ble_eq_true rfl⟩ rfl (Nat.le_of_ble_eq_true rfl) dX12_operate_64 rfl (fun v37 i38 r39 hv40 hi41 hw42 hq43 => ?_)
        obtain ⟨e44, e45, h⟩ := hq43
        subst e44
        subst e45
        exact fin dX12_operate_67 hv40 rfl hi hw ⟨rfl, rfl, h⟩
      · have h := f36 c34
        clear t35 f36
        obtain ⟨t47, f48⟩ := h
        by_cases c46 : p1 = 45
        · have h := t47 c46
          clear t47 f48
          refine V.lookup (pc := 1) (tgt := 68) (off := 67) hG hp1 dX12_operate_1 (by decide) (by rw [c46]; rfl) (by decide) ?_
          refine V.aload_n (pc := 68) hG dX12_operate_68 rfl 0 rfl ?_
          refine V.iload_n (pc := 69) hG dX12_operate_69 rfl 2 rfl ?_
          refine V.iload_n (pc := 70) hG dX12_operate_70 rfl 3 rfl ?_
          refine V.isub (pc := 71) hG dX12_operate_71 ?_
          refine V.callVi (pc := 72) (As := [.int (sJ (wr (p2 - p3)))]) (stk := []) hG (sm_X12_taken l Δ ((sR_wr _)) hi hw h) mY_X12_taken kw_2020 kw_2022 kw_131 a_504 (by decide) (q := (RX12, TX12, 49)) rfl rfl ⟨Nat.le_of_ble_eq_true rfl, Nat.le_of_ble_eq_true rfl, Nat.le_of_ble_eq_true rfl, Nat.le_of_ble_eq_true rfl⟩ rfl (Nat.le_of_ble_eq_true rfl) dX12_operate_72 rfl (fun v49 i50 r51 hv52 hi53 hw54 hq55 => ?_)
          obtain ⟨e56, e57, h⟩ := hq55
          subst e56
          subst e57
          exact fin dX12_operate_75 hv52 rfl hi hw ⟨rfl, rfl, h⟩
        · have h := f48 c46
          clear t47 f48
          obtain ⟨t59, f60⟩ := h
          by_cases c58 : p1 = 94
          · have h := t59 c58
            clear t59 f60
            refine V.lookup (pc := 1) (tgt := 92) (off := 91) hG hp1 dX12_operate_1 (by decide) (by rw [c58]; rfl) (by decide) ?_
            refine V.iload_n (pc := 92) hG dX12_operate_92 rfl 2 rfl ?_
            refine V.iload_n (pc := 93) hG dX12_operate_93 rfl 3 rfl ?_
            refine V.ixor (pc := 94) hG dX12_operate_94 ?_
            exact fin dX12_operate_95 ((sR_xor _ _)) rfl hi hw ⟨rfl, rfl, h⟩
          · have h := f60 c58
            clear t59 f60
            obtain ⟨t62, f63⟩ := h
            by_cases c61 : p1 = 124
            · have h := t62 c61
              clear t62 f63
              refine V.lookup (pc := 1) (tgt := 88) (off := 87) hG hp1 dX12_operate_1 (by decide) (by rw [c61]; rfl) (by decide) ?_
              refine V.iload_n (pc := 88) hG dX12_operate_88 rfl 2 rfl ?_
              refine V.iload_n (pc := 89) hG dX12_operate_89 rfl 3 rfl ?_
              refine V.ior (pc := 90) hG dX12_operate_90 ?_
              exact fin dX12_operate_91 ((sR_or _ _)) rfl hi hw ⟨rfl, rfl, h⟩
            · have h := f63 c61
              clear t62 f63
              refine V.lookup (pc := 1) (tgt := 96) (off := 95) hG hp1 dX12_operate_1 (by decide) (by simp [Op.lookupswitch.offset, (show ¬ (38 : Int) = p1 from fun q => c19 q.symm), (show ¬ (42 : Int) = p1 from fun q => c22 q.symm), (show ¬ (43 : Int) = p1 from fun q => c34 q.symm), (show ¬ (45 : Int) = p1 from fun q => c46 q.symm), (show ¬ (94 : Int) = p1 from fun q => c58 q.symm), (show ¬ (124 : Int) = p1 from fun q => c61 q.symm)]) (by decide) ?_
              refine V.aload_n (pc := 96) hG dX12_operate_96 rfl 0 rfl ?_
              refine V.iload_n (pc := 97) hG dX12_operate_97 rfl 2 rfl ?_
              refine V.iload_n (pc := 98) hG dX12_operate_98 rfl 3 rfl ?_
              obtain ⟨t65, f66⟩ := h
              refine V.icmp_ge (pc := 99) (tgt := 106) hG hp2 hp3 dX12_operate_99 (by decide) (fun c64 => ?_) (fun c64 => ?_)
              · have h := t65 c64
                clear t65 f66
                refine V.iconst (pc := 106) hG dX12_operate_106 ?_
                refine V.pick [] rfl ?_
                exact jn107 0 ((sR_l rfl)) h
              · have h := f66 c64
                clear t65 f66
                refine V.iconst (pc := 102) hG dX12_operate_102 ?_
                refine V.goto (pc := 103) (tgt := 107) hG dX12_operate_103 (by decide) ?_
                refine V.pick [] rfl ?_
                exact jn107 1 ((sR_l rfl)) h
set_option maxRecDepth 100000 in
set_option maxHeartbeats 4000000 in
theorem sm_X12_write (l : Launch) (Δ : Wd) {i r : MI} {p1 : Int} {p2 : Int} {p3 : Int} (hp1 : sR p1) (hp2 : sR p2) (hp3 : sR p3) {Q : MI → Prop} (hi : okI i) (hw : Wf r) (h : wp_X12_write p1 p2 p3 i r Q) : Met l yX12_write (Cond.code yX12_write cX12_write 7 none :: gW) (sRm 2 46) (sPc Δ [.ref (sA Δ 504), .int (sJ p1), .int (sJ p2), .int (sJ p3)] i r) (sQv Δ (fun i' r' => r = r' ∧ Q i')) 0 0 (sFr Δ) := by
  refine Ct.v (by decide) rfl (Nat.le_of_ble_eq_true rfl) (fun Γ Q0 hG fin => ?_)
  have hG : okG Γ Δ l (sRm 2 46) cX12_write "SchedularyModel" 7 := hG
  show V Γ Δ 542 false i r 0 0 Q0 0 [(0, .ref (sA Δ 504)), (1, .int (sJ p1)), (2, .int (sJ p2)), (3, .int (sJ p3))] []
  have jn107 : ∀  (ij107 : MI), okI ij107 → s107_X12_write ij107 r Q → V Γ Δ 542 false ij107 r 0 0 Q0 107 [] [] := by
    intro ij107 hij107 h
    exact fin dX12_write_107 hij107 hw ⟨rfl, h⟩
  refine V.bipush (pc := 0) hG dX12_write_0 (by decide) ?_
  refine V.iload_n (pc := 2) hG dX12_write_2 rfl 1 rfl ?_
  refine V.imul (pc := 3) hG dX12_write_3 ?_
  refine V.istore (pc := 4) (lv' := [(4, .int (sJ (wr (13 * p1)))), (0, .ref (sA Δ 504)), (1, .int (sJ p1)), (2, .int (sJ p2)), (3, .int (sJ p3))]) hG dX12_write_4 (by decide) rfl ?_
  refine V.aload_n (pc := 6) hG dX12_write_6 rfl 1 rfl ?_
  refine V.getR (x := 507) (pc := 7) (ci := 14) (k := 7) (M := 49) (T := TX12) (o := 504) (kz := 7) hG a_504 a_504.n (by decide) hin_X12 rfl (by decide) (by decide) rfl kw_1699 rfl ((hw).1 (504, 7, 507) (by decide)) (by decide) dX12_write_7 ?_
  refine V.iload (pc := 10) hG dX12_write_10 0 rfl ?_
  obtain ⟨g1, h⟩ := h
  refine V.iald (pc := 12) (z := 156) (o := 507) hG a_507 a_507.n ((sR_wr _)) g1 dX12_write_12 ?_
  refine V.istore (pc := 13) (lv' := [(5, .int (sJ (i 507 (wr (13 * p1))))), (4, .int (sJ (wr (13 * p1)))), (0, .ref (sA Δ 504)), (1, .int (sJ p1)), (2, .int (sJ p2)), (3, .int (sJ p3))]) hG dX12_write_13 (by decide) rfl ?_
  refine V.iload (pc := 15) hG dX12_write_15 0 rfl ?_
  obtain ⟨f4, t3⟩ := h
  refine V.if_ne (pc := 17) (tgt := 38) hG ((hi _ _)) dX12_write_17 (by decide) (fun c2 => ?_) (fun c2 => ?_)
  · have h := t3 c2
    clear t3 f4
    refine V.iload (pc := 38) hG dX12_write_38 0 rfl ?_
    refine V.iconst (pc := 40) hG dX12_write_40 ?_
    obtain ⟨f7, t6⟩ := h
    refine V.icmp_ne (pc := 41) (tgt := 67) hG ((hi _ _)) ((sR_l rfl)) dX12_write_41 (by decide) (fun c5 => ?_) (fun c5 => ?_)
    · have h := t6 c5
      clear t6 f7
      refine V.iload (pc := 67) hG dX12_write_67 0 rfl ?_
      refine V.aload_n (pc := 69) hG dX12_write_69 rfl 2 rfl ?_
      refine V.getR (x := 507) (pc := 70) (ci := 14) (k := 7) (M := 49) (T := TX12) (o := 504) (kz := 7) hG a_504 a_504.n (by decide) hin_X12 rfl (by decide) (by decide) rfl kw_1699 rfl ((hw).1 (504, 7, 507) (by decide)) (by decide) dX12_write_70 ?_
      refine V.iload (pc := 73) hG dX12_write_73 1 rfl ?_
      refine V.iconst (pc := 75) hG dX12_write_75 ?_
      refine V.iadd (pc := 76) hG dX12_write_76 ?_
      obtain ⟨g8, h⟩ := h
      refine V.iald (pc := 77) (z := 156) (o := 507) hG a_507 a_507.n ((sR_wr _)) g8 dX12_write_77 ?_
      refine V.aload_n (pc := 78) hG dX12_write_78 rfl 2 rfl ?_
      refine V.getR (x := 507) (pc := 79) (ci := 14) (k := 7) (M := 49) (T := TX12) (o := 504) (kz := 7) hG a_504 a_504.n (by decide) hin_X12 rfl (by decide) (by decide) rfl kw_1699 rfl ((hw).1 (504, 7, 507) (by decide)) (by decide) dX12_write_79 ?_
      refine V.iload (pc := 82) hG dX12_write_82 1 rfl ?_
      refine V.iconst (pc := 84) hG dX12_write_84 ?_
      refine V.iadd (pc := 85) hG dX12_write_85 ?_
      obtain ⟨g9, h⟩ := h
      refine V.iald (pc := 86) (z := 156) (o := 507) hG a_507 a_507.n ((sR_wr _)) g9 dX12_write_86 ?_
      refine V.iload_n (pc := 87) hG dX12_write_87 rfl 4 rfl ?_
      refine V.callSi (pc := 88) (As := [.int (sJ (i 507 (wr (13 * p1)))), .int (sJ (i 507 (wr (wr (13 * p1) + 2)))), .int (sJ (i 507 (wr (wr (13 * p1) + 3)))), .int (sJ p2)]) (stk := []) hG (sm_X12_where l Δ ((hi _ _)) ((hi _ _)) ((hi _ _)) hp2 hi hw h) mY_X12_where kw_2032 kw_2033 rfl ⟨Nat.le_of_ble_eq_true rfl, Nat.le_of_ble_eq_true rfl, Nat.le_of_ble_eq_true rfl, Nat.le_of_ble_eq_true rfl⟩ rfl (Nat.le_of_ble_eq_true rfl) dX12_write_88 rfl (fun v10 i11 r12 hv13 hi14 hw15 hq16 => ?_)
      obtain ⟨e21, e22, h⟩ := hq16
      subst e21
      subst e22
      refine V.istore (pc := 91) (lv' := [(6, .int (sJ v10)), (5, .int (sJ (i 507 (wr (13 * p1))))), (4, .int (sJ (wr (13 * p1)))), (0, .ref (sA Δ 504)), (1, .int (sJ p1)), (2, .int (sJ p2)), (3, .int (sJ p3))]) hG dX12_write_91 (by decide) rfl ?_
      refine V.iload (pc := 93) hG dX12_write_93 0 rfl ?_
      refine V.iconst (pc := 95) hG dX12_write_95 ?_
      obtain ⟨t18, f19⟩ := h
      refine V.icmp_eq (pc := 96) (tgt := 107) hG hv13 ((sR_l rfl)) dX12_write_96 (by decide) (fun c17 => ?_) (fun c17 => ?_)
      · have h := t18 c17
        clear t18 f19
        refine V.pick [] rfl ?_
        exact jn107 i hi h
      · have h := f19 c17
        clear t18 f19
        refine V.aload_n (pc := 99) hG dX12_write_99 rfl 3 rfl ?_
        refine V.getR (x := 513) (pc := 100) (ci := 14) (k := 17) (M := 49) (T := TX12) (o := 504) (kz := 17) hG a_504 a_504.n (by decide) hin_X12 rfl (by decide) (by decide) rfl kw_1709 rfl ((hw).1 (504, 17, 513) (by decide)) (by decide) dX12_write_100 ?_
        refine V.iload (pc := 103) hG dX12_write_103 0 rfl ?_
        refine V.iload_n (pc := 105) hG dX12_write_105 rfl 6 rfl ?_
        obtain ⟨g20, h⟩ := h
        refine V.iast (pc := 106) (z := 32) (o := 513) hG a_513 a_513.n hv13 g20 dX12_write_106 ?_
        refine V.pick [] rfl ?_
        exact jn107 (st i 513 v10 p3) ((okI_st hi hp3)) h
    · have h := f7 c5
      clear t6 f7
      refine V.aload_n (pc := 44) hG dX12_write_44 rfl 2 rfl ?_
      refine V.getR (x := 514) (pc := 45) (ci := 14) (k := 18) (M := 49) (T := TX12) (o := 504) (kz := 18) hG a_504 a_504.n (by decide) hin_X12 rfl (by decide) (by decide) rfl kw_1710 rfl ((hw).1 (504, 18, 514) (by decide)) (by decide) dX12_write_45 ?_
      refine V.aload_n (pc := 48) hG dX12_write_48 rfl 2 rfl ?_
      refine V.getI (pc := 49) (ci := 14) (k := 19) (M := 49) (T := TX12) (o := 504) (kz := 19) hG a_504 a_504.n (by decide) hin_X12 rfl (by decide) (by decide) rfl kw_1711 rfl dX12_write_49 ?_
      refine V.iload_n (pc := 52) hG dX12_write_52 rfl 5 rfl ?_
      obtain ⟨g23, h⟩ := h
      refine V.iast (pc := 53) (z := 192) (o := 514) hG a_514 a_514.n ((hi _ _)) g23 dX12_write_53 ?_
      refine V.aload_n (pc := 54) hG dX12_write_54 rfl 2 rfl ?_
      refine V.dup (pc := 55) hG dX12_write_55 rfl ?_
      refine V.getI (pc := 56) (ci := 14) (k := 19) (M := 49) (T := TX12) (o := 504) (kz := 19) hG a_504 a_504.n (by decide) hin_X12 rfl (by decide) (by decide) rfl kw_1711 rfl dX12_write_56 ?_
      refine V.iconst (pc := 59) hG dX12_write_59 ?_
      refine V.iadd (pc := 60) hG dX12_write_60 ?_
      refine V.putI (pc := 61) (ci := 14) (k := 19) (M := 49) (T := TX12) (o := 504) (kz := 19) hG a_504 a_504.n (by decide) hin_X12 rfl (by decide) (by decide) rfl kw_1711 rfl tyX12 tyX12_ok nmX12 rfl (ty := tyX12 19) (tyX12_ok 19 (by decide)) rfl rfl dX12_write_61 ?_
      refine V.goto (pc := 64) (tgt := 107) hG dX12_write_64 (by decide) ?_
      refine V.pick [] rfl ?_
      exact jn107 (st (st i 514 (i 504 19) p3) 504 19 (wr ((st i 514 (i 504 19) p3) 504 19 + 1))) ((okI_st ((okI_st hi hp3)) ((sR_wr _)))) h
  · have h := f4 c2
    clear t3 f4
    refine V.aload_n (pc := 20) hG dX12_write_20 rfl 2 rfl ?_
    refine V.getR (x := 512) (pc := 21) (ci := 14) (k := 16) (M := 49) (T := TX12) (o := 504) (kz := 16) hG a_504 a_504.n (by decide) hin_X12 rfl (by decide) (by decide) rfl kw_1708 rfl ((hw).1 (504, 16, 512) (by decide)) (by decide) dX12_write_21 ?_
    refine V.aload_n (pc := 24) hG dX12_write_24 rfl 2 rfl ?_
    refine V.getR (x := 507) (pc := 25) (ci := 14) (k := 7) (M := 49) (T := TX12) (o := 504) (kz := 7) hG a_504 a_504.n (by decide) hin_X12 rfl (by decide) (by decide) rfl kw_1699 rfl ((hw).1 (504, 7, 507) (by decide)) (by decide) dX12_write_25 ?_
    refine V.iload (pc := 28) hG dX12_write_28 1 rfl ?_
    refine V.iconst (pc := 30) hG dX12_write_30 ?_
    refine V.iadd (pc := 31) hG dX12_write_31 ?_
    obtain ⟨g24, h⟩ := h
    refine V.iald (pc := 32) (z := 156) (o := 507) hG a_507 a_507.n ((sR_wr _)) g24 dX12_write_32 ?_
    refine V.iload_n (pc := 33) hG dX12_write_33 rfl 5 rfl ?_
    obtain ⟨g25, h⟩ := h
    refine V.iast (pc := 34) (z := 8) (o := 512) hG a_512 a_512.n ((hi _ _)) g25 dX12_write_34 ?_
    refine V.goto (pc := 35) (tgt := 107) hG dX12_write_35 (by decide) ?_
    refine V.pick [] rfl ?_
    exact jn107 (st i 512 (i 507 (wr (wr (13 * p1) + 1))) p3) ((okI_st hi hp3)) h
set_option maxRecDepth 100000 in
set_option maxHeartbeats 4000000 in
theorem sm_X12_perform (l : Launch) (Δ : Wd) {i r : MI}   {Q : MI → Prop} (hi : okI i) (hw : Wf r) (h : wp_X12_perform  i r Q) : Met l yX12_perform (Cond.code yX12_perform cX12_perform 5 none :: gW) (sRm 3 72) (sPc Δ [.ref (sA Δ 504)] i r) (sQv Δ (fun i' r' => r = r' ∧ Q i')) 0 0 (sFr Δ) := by
  refine Ct.v (by decide) rfl (Nat.le_of_ble_eq_true rfl) (fun Γ Q0 hG fin => ?_)
  have hG : okG Γ Δ l (sRm 3 72) cX12_perform "SchedularyModel" 5 := hG
  show V Γ Δ 542 false i r 0 0 Q0 0 [(0, .ref (sA Δ 504))] []
  refine V.aload_n (pc := 0) hG dX12_perform_0 rfl 0 rfl ?_
  refine V.callVv (pc := 1) (As := []) (stk := []) hG (sm_X12_begin l Δ  hi hw h) mY_X12_begin kw_2016 kw_2018 kw_130 a_504 (by decide) (q := (RX12, TX12, 49)) rfl rfl ⟨Nat.le_of_ble_eq_true rfl, Nat.le_of_ble_eq_true rfl, Nat.le_of_ble_eq_true rfl, Nat.le_of_ble_eq_true rfl⟩ rfl (Nat.le_of_ble_eq_true rfl) dX12_perform_1 rfl (fun i2 r3 hi5 hw6 hq7 => ?_)
  obtain ⟨e165, h⟩ := hq7
  subst e165
  refine V.iconst (pc := 4) hG dX12_perform_4 ?_
  refine V.istore_n (pc := 5) (lv' := [(1, .int (sJ 0)), (0, .ref (sA Δ 504))]) hG dX12_perform_5 rfl (by decide) rfl ?_
  obtain ⟨n107, h⟩ := h
  have lp6 : ∀ (m6 : Nat) (x1_6 : Int) (i_6 : MI), sR x1_6 → okI i_6 → LoopP (b6_X12_perform r Q) m6 (x1_6, i_6) → V Γ Δ 542 false i_6 r 0 0 Q0 6 [(0, .ref (sA Δ 504)), (1, .int (sJ x1_6))] [] := by
    intro m6
    induction m6 with
    | zero => intro x1_6 i_6 hx1_6 hi_6 h; exact h.elim
    | succ m6 ih6 =>
      intro x1_6 i_6 hx1_6 hi_6 h
      have h := LoopP_succ h
      refine V.iload_n (pc := 6) hG dX12_perform_6 rfl 1 rfl ?_
      refine V.aload_n (pc := 7) hG dX12_perform_7 rfl 0 rfl ?_
      refine V.getI (pc := 8) (ci := 14) (k := 8) (M := 49) (T := TX12) (o := 504) (kz := 8) hG a_504 a_504.n (by decide) hin_X12 rfl (by decide) (by decide) rfl kw_1700 rfl dX12_perform_8 ?_
      obtain ⟨t109, f110⟩ := h
      refine V.icmp_ge (pc := 11) (tgt := 96) hG hx1_6 ((hi_6 _ _)) dX12_perform_11 (by decide) (fun c108 => ?_) (fun c108 => ?_)
      · have h := t109 c108
        clear t109 f110
        exact fin dX12_perform_96 hi_6 hw ⟨rfl, h⟩
      · have h := f110 c108
        clear t109 f110
        refine V.iconst (pc := 14) hG dX12_perform_14 ?_
        refine V.istore_n (pc := 15) (lv' := [(2, .int (sJ 0)), (0, .ref (sA Δ 504)), (1, .int (sJ x1_6))]) hG dX12_perform_15 rfl (by decide) rfl ?_
        obtain ⟨n111, h⟩ := h
        have lp16 : ∀ (m16 : Nat) (x2_16 : Int) (i_16 : MI), sR x2_16 → okI i_16 → LoopP (b16_X12_perform x1_6 r Q (LoopP (b6_X12_perform r Q) m6)) m16 (x2_16, i_16) → V Γ Δ 542 false i_16 r 0 0 Q0 16 [(0, .ref (sA Δ 504)), (1, .int (sJ x1_6)), (2, .int (sJ x2_16))] [] := by
          intro m16
          induction m16 with
          | zero => intro x2_16 i_16 hx2_16 hi_16 h; exact h.elim
          | succ m16 ih16 =>
            intro x2_16 i_16 hx2_16 hi_16 h
            have h := LoopP_succ h
            have jn81 : ∀ (x2j81 : Int) (k1j81 : Int) (k2j81 : Int) (k3j81 : Int) (ij81 : MI), sR x2j81 → sR k1j81 → sR k2j81 → sR k3j81 → okI ij81 → s81_X12_perform x1_6 x2j81 k1j81 k2j81 k3j81 ij81 r Q (LoopP (b6_X12_perform r Q) m6) (LoopP (b16_X12_perform x1_6 r Q (LoopP (b6_X12_perform r Q) m6)) m16) → V Γ Δ 542 false ij81 r 0 0 Q0 81 [(0, .ref (sA Δ 504)), (1, .int (sJ x1_6)), (2, .int (sJ x2j81))] [.int (sJ k3j81), .int (sJ k2j81), .int (sJ k1j81), .ref (sA Δ 504)] := by
              intro x2j81 k1j81 k2j81 k3j81 ij81 hx2j81 hk1j81 hk2j81 hk3j81 hij81 h
              refine V.callVv (pc := 81) (As := [.int (sJ k1j81), .int (sJ k2j81), .int (sJ k3j81)]) (stk := []) hG (sm_X12_write l Δ hk1j81 hk2j81 hk3j81 hij81 hw h) mY_X12_write kw_2039 kw_2041 kw_135 a_504 (by decide) (q := (RX12, TX12, 49)) rfl rfl ⟨Nat.le_of_ble_eq_true rfl, Nat.le_of_ble_eq_true rfl, Nat.le_of_ble_eq_true rfl, Nat.le_of_ble_eq_true rfl⟩ rfl (Nat.le_of_ble_eq_true rfl) dX12_perform_81 rfl (fun i122 r123 hi125 hw126 hq127 => ?_)
              obtain ⟨e129, h⟩ := hq127
              subst e129
              refine V.iinc (pc := 84) (lv' := [(2, .int (sJ (wr (x2j81 + 1)))), (0, .ref (sA Δ 504)), (1, .int (sJ x1_6))]) hG dX12_perform_84 2 rfl (by decide) rfl ?_
              refine V.goto (pc := 87) (tgt := 16) hG dX12_perform_87 (by decide) ?_
              refine V.pick [1, 2, 0] rfl ?_
              exact ih16 (wr (x2j81 + 1)) i122 ((sR_wr _)) hi125 h
            refine V.iload_n (pc := 16) hG dX12_perform_16 rfl 2 rfl ?_
            refine V.aload_n (pc := 17) hG dX12_perform_17 rfl 0 rfl ?_
            refine V.getI (pc := 18) (ci := 14) (k := 6) (M := 49) (T := TX12) (o := 504) (kz := 6) hG a_504 a_504.n (by decide) hin_X12 rfl (by decide) (by decide) rfl kw_1698 rfl dX12_perform_18 ?_
            obtain ⟨t131, f132⟩ := h
            refine V.icmp_ge (pc := 21) (tgt := 90) hG hx2_16 ((hi_16 _ _)) dX12_perform_21 (by decide) (fun c130 => ?_) (fun c130 => ?_)
            · have h := t131 c130
              clear t131 f132
              refine V.iinc (pc := 90) (lv' := [(1, .int (sJ (wr (x1_6 + 1)))), (0, .ref (sA Δ 504)), (2, .int (sJ x2_16))]) hG dX12_perform_90 1 rfl (by decide) rfl ?_
              refine V.goto (pc := 93) (tgt := 6) hG dX12_perform_93 (by decide) ?_
              refine V.pick [1, 0] rfl ?_
              exact ih6 (wr (x1_6 + 1)) i_16 ((sR_wr _)) hi_16 h
            · have h := f132 c130
              clear t131 f132
              refine V.aload_n (pc := 24) hG dX12_perform_24 rfl 0 rfl ?_
              refine V.bipush (pc := 25) hG dX12_perform_25 (by decide) ?_
              refine V.iload_n (pc := 27) hG dX12_perform_27 rfl 2 rfl ?_
              refine V.imul (pc := 28) hG dX12_perform_28 ?_
              refine V.iconst (pc := 29) hG dX12_perform_29 ?_
              refine V.iadd (pc := 30) hG dX12_perform_30 ?_
              refine V.iload_n (pc := 31) hG dX12_perform_31 rfl 1 rfl ?_
              refine V.callVi (pc := 32) (As := [.int (sJ (wr (wr (13 * x2_16) + 4))), .int (sJ x1_6)]) (stk := []) hG (sm_X12_operand l Δ ((sR_wr _)) hx1_6 hi_16 hw h) mY_X12_operand kw_2024 kw_2026 kw_132 a_504 (by decide) (q := (RX12, TX12, 49)) rfl rfl ⟨Nat.le_of_ble_eq_true rfl, Nat.le_of_ble_eq_true rfl, Nat.le_of_ble_eq_true rfl, Nat.le_of_ble_eq_true rfl⟩ rfl (Nat.le_of_ble_eq_true rfl) dX12_perform_32 rfl (fun v133 i134 r135 hv136 hi137 hw138 hq139 => ?_)
              obtain ⟨e163, h⟩ := hq139
              subst e163
              refine V.istore_n (pc := 35) (lv' := [(3, .int (sJ v133)), (0, .ref (sA Δ 504)), (1, .int (sJ x1_6)), (2, .int (sJ x2_16))]) hG dX12_perform_35 rfl (by decide) rfl ?_
              refine V.aload_n (pc := 36) hG dX12_perform_36 rfl 1 rfl ?_
              refine V.getR (x := 507) (pc := 37) (ci := 14) (k := 7) (M := 49) (T := TX12) (o := 504) (kz := 7) hG a_504 a_504.n (by decide) hin_X12 rfl (by decide) (by decide) rfl kw_1699 rfl ((hw).1 (504, 7, 507) (by decide)) (by decide) dX12_perform_37 ?_
              refine V.bipush (pc := 40) hG dX12_perform_40 (by decide) ?_
              refine V.iload_n (pc := 42) hG dX12_perform_42 rfl 3 rfl ?_
              refine V.imul (pc := 43) hG dX12_perform_43 ?_
              refine V.bipush (pc := 44) hG dX12_perform_44 (by decide) ?_
              refine V.iadd (pc := 46) hG dX12_perform_46 ?_
              obtain ⟨g140, h⟩ := h
              refine V.iald (pc := 47) (z := 156) (o := 507) hG a_507 a_507.n ((sR_wr _)) g140 dX12_perform_47 ?_
              refine V.istore (pc := 48) (lv' := [(4, .int (sJ (i134 507 (wr (wr (13 * x2_16) + 12))))), (3, .int (sJ v133)), (0, .ref (sA Δ 504)), (1, .int (sJ x1_6)), (2, .int (sJ x2_16))]) hG dX12_perform_48 (by decide) rfl ?_
              refine V.aload_n (pc := 50) hG dX12_perform_50 rfl 2 rfl ?_
              refine V.iload_n (pc := 51) hG dX12_perform_51 rfl 4 rfl ?_
              refine V.iload_n (pc := 52) hG dX12_perform_52 rfl 3 rfl ?_
              refine V.iload (pc := 53) hG dX12_perform_53 0 rfl ?_
              obtain ⟨f143, t142⟩ := h
              refine V.if_ne (pc := 55) (tgt := 62) hG ((hi137 _ _)) dX12_perform_55 (by decide) (fun c141 => ?_) (fun c141 => ?_)
              · have h := t142 c141
                clear t142 f143
                refine V.aload_n (pc := 62) hG dX12_perform_62 rfl 2 rfl ?_
                refine V.iload (pc := 63) hG dX12_perform_63 0 rfl ?_
                refine V.iload_n (pc := 65) hG dX12_perform_65 rfl 1 rfl ?_
                refine V.aload_n (pc := 66) hG dX12_perform_66 rfl 2 rfl ?_
                refine V.bipush (pc := 67) hG dX12_perform_67 (by decide) ?_
                refine V.iload_n (pc := 69) hG dX12_perform_69 rfl 4 rfl ?_
                refine V.imul (pc := 70) hG dX12_perform_70 ?_
                refine V.bipush (pc := 71) hG dX12_perform_71 (by decide) ?_
                refine V.iadd (pc := 73) hG dX12_perform_73 ?_
                refine V.iload_n (pc := 74) hG dX12_perform_74 rfl 3 rfl ?_
                refine V.callVi (pc := 75) (As := [.int (sJ (wr (wr (13 * x2_16) + 8))), .int (sJ x1_6)]) (stk := [.int (sJ v133), .int (sJ (i134 507 (wr (wr (13 * x2_16) + 12)))), .ref (sA Δ 504), .int (sJ x1_6), .int (sJ x2_16), .ref (sA Δ 504)]) hG (sm_X12_operand l Δ ((sR_wr _)) hx1_6 hi137 hw h) mY_X12_operand kw_2024 kw_2026 kw_132 a_504 (by decide) (q := (RX12, TX12, 49)) rfl rfl ⟨Nat.le_of_ble_eq_true rfl, Nat.le_of_ble_eq_true rfl, Nat.le_of_ble_eq_true rfl, Nat.le_of_ble_eq_true rfl⟩ rfl (Nat.le_of_ble_eq_true rfl) dX12_perform_75 rfl (fun v144 i145 r146 hv147 hi148 hw149 hq150 => ?_)
                obtain ⟨e161, h⟩ := hq150
                subst e161
                refine V.callVi (pc := 78) (As := [.int (sJ (i134 507 (wr (wr (13 * x2_16) + 12)))), .int (sJ v133), .int (sJ v144)]) (stk := [.int (sJ x1_6), .int (sJ x2_16), .ref (sA Δ 504)]) hG (sm_X12_operate l Δ ((hi137 _ _)) hv136 hv147 hi148 hw h) mY_X12_operate kw_2035 kw_2037 kw_134 a_504 (by decide) (q := (RX12, TX12, 49)) rfl rfl ⟨Nat.le_of_ble_eq_true rfl, Nat.le_of_ble_eq_true rfl, Nat.le_of_ble_eq_true rfl, Nat.le_of_ble_eq_true rfl⟩ rfl (Nat.le_of_ble_eq_true rfl) dX12_perform_78 rfl (fun v151 i152 r153 hv154 hi155 hw156 hq157 => ?_)
                obtain ⟨e158, e159, h⟩ := hq157
                subst e158
                subst e159
                refine V.pick [2, 3, 4] rfl ?_
                exact jn81 x2_16 x2_16 x1_6 v151 i145 hx2_16 hx2_16 hx1_6 hv154 hi148 h
              · have h := f143 c141
                clear t142 f143
                refine V.iload_n (pc := 58) hG dX12_perform_58 rfl 1 rfl ?_
                refine V.goto (pc := 59) (tgt := 81) hG dX12_perform_59 (by decide) ?_
                refine V.pick [2, 3, 4] rfl ?_
                exact jn81 x2_16 x2_16 x1_6 v133 i134 hx2_16 hx2_16 hx1_6 hv136 hi137 h
        refine V.pick [1, 2, 0] rfl ?_
        exact lp16 n111 0 i_6 ((sR_l rfl)) hi_6 h
  refine V.pick [1, 0] rfl ?_
  exact lp6 n107 0 i2 ((sR_l rfl)) hi5 h
set_option maxRecDepth 100000 in
set_option maxHeartbeats 4000000 in
theorem sm_X12_outputs (l : Launch) (Δ : Wd) {i r : MI}   {Q : Int → MI → Prop} (hi : okI i) (hw : Wf r) (h : wp_X12_outputs  i r Q) : Met l yX12_outputs (Cond.code yX12_outputs cX12_outputs 1 (some .int) :: gW) (sRm 4 96) (sPc Δ [.ref (sA Δ 504)] i r) (sQi Δ (fun x i' r' => r = r' ∧ Q x i')) 0 0 (sFr Δ) := by
  refine Ct.i (ty := .int) (by decide) rfl (Nat.le_of_ble_eq_true rfl) (fun Γ Q0 hG fin => ?_)
  have hG : okG Γ Δ l (sRm 4 96) cX12_outputs "SchedularyModel" 1 := hG
  show V Γ Δ 542 false i r 0 0 Q0 0 [(0, .ref (sA Δ 504))] []
  refine V.aload_n (pc := 0) hG dX12_outputs_0 rfl 0 rfl ?_
  refine V.iconst (pc := 1) hG dX12_outputs_1 ?_
  refine V.putI (pc := 2) (ci := 14) (k := 0) (M := 49) (T := TX12) (o := 504) (kz := 0) hG a_504 a_504.n (by decide) hin_X12 rfl (by decide) (by decide) rfl kw_1692 rfl tyX12 tyX12_ok nmX12 rfl (ty := tyX12 0) (tyX12_ok 0 (by decide)) rfl rfl dX12_outputs_2 ?_
  refine V.aload_n (pc := 5) hG dX12_outputs_5 rfl 0 rfl ?_
  refine V.callVv (pc := 6) (As := []) (stk := []) hG (sm_X12_perform l Δ  ((okI_st hi ((sR_l rfl)))) hw h) mY_X12_perform kw_2012 kw_2014 kw_129 a_504 (by decide) (q := (RX12, TX12, 49)) rfl rfl ⟨Nat.le_of_ble_eq_true rfl, Nat.le_of_ble_eq_true rfl, Nat.le_of_ble_eq_true rfl, Nat.le_of_ble_eq_true rfl⟩ rfl (Nat.le_of_ble_eq_true rfl) dX12_outputs_6 rfl (fun i2 r3 hi5 hw6 hq7 => ?_)
  obtain ⟨e9, h⟩ := hq7
  subst e9
  refine V.aload_n (pc := 9) hG dX12_outputs_9 rfl 0 rfl ?_
  refine V.getI (pc := 10) (ci := 14) (k := 19) (M := 49) (T := TX12) (o := 504) (kz := 19) hG a_504 a_504.n (by decide) hin_X12 rfl (by decide) (by decide) rfl kw_1711 rfl dX12_outputs_10 ?_
  exact fin dX12_outputs_13 ((hi5 _ _)) rfl hi5 hw ⟨rfl, h⟩
set_option maxRecDepth 100000 in
set_option maxHeartbeats 4000000 in
theorem sm_X12_output (l : Launch) (Δ : Wd) {i r : MI} {p1 : Int} (hp1 : sR p1) {Q : Int → MI → Prop} (hi : okI i) (hw : Wf r) (h : wp_X12_output p1 i r Q) : Met l yX12_output (Cond.code yX12_output cX12_output 2 (some .int) :: gW) (sRm 4 96) (sPc Δ [.ref (sA Δ 504), .int (sJ p1)] i r) (sQi Δ (fun x i' r' => r = r' ∧ Q x i')) 0 0 (sFr Δ) := by
  refine Ct.i (ty := .int) (by decide) rfl (Nat.le_of_ble_eq_true rfl) (fun Γ Q0 hG fin => ?_)
  have hG : okG Γ Δ l (sRm 4 96) cX12_output "SchedularyModel" 2 := hG
  show V Γ Δ 542 false i r 0 0 Q0 0 [(0, .ref (sA Δ 504)), (1, .int (sJ p1))] []
  have jn46 : ∀ (k0j46 : Int) (ij46 : MI), sR k0j46 → okI ij46 → s46_X12_output k0j46 ij46 r Q → V Γ Δ 542 false ij46 r 0 0 Q0 46 [] [.int (sJ k0j46)] := by
    intro k0j46 ij46 hk0j46 hij46 h
    exact fin dX12_output_46 hk0j46 rfl hij46 hw ⟨rfl, h⟩
  have jn29 : ∀ (k1j29 : Int) (ij29 : MI), sR k1j29 → okI ij29 → s29_X12_output p1 k1j29 ij29 r Q → V Γ Δ 542 false ij29 r 0 0 Q0 29 [(0, .ref (sA Δ 504)), (1, .int (sJ p1))] [.int (sJ k1j29), .ref (sA Δ 504)] := by
    intro k1j29 ij29 hk1j29 hij29 h
    refine V.iconst (pc := 29) hG dX12_output_29 ?_
    refine V.callVi (pc := 30) (As := [.int (sJ k1j29), .int (sJ 1)]) (stk := []) hG (sm_X12_fails l Δ hk1j29 ((sR_l rfl)) hij29 hw h) mY_X12_fails kw_1853 kw_1855 kw_106 a_504 (by decide) (q := (RX12, TX12, 49)) rfl rfl ⟨Nat.le_of_ble_eq_true rfl, Nat.le_of_ble_eq_true rfl, Nat.le_of_ble_eq_true rfl, Nat.le_of_ble_eq_true rfl⟩ rfl (Nat.le_of_ble_eq_true rfl) dX12_output_30 rfl (fun v14 i15 r16 hv17 hi18 hw19 hq20 => ?_)
    obtain ⟨e26, h⟩ := hq20
    subst e26
    obtain ⟨t22, f23⟩ := h
    refine V.if_eq (pc := 33) (tgt := 40) hG hv17 dX12_output_33 (by decide) (fun c21 => ?_) (fun c21 => ?_)
    · have h := t22 c21
      clear t22 f23
      refine V.aload_n (pc := 40) hG dX12_output_40 rfl 0 rfl ?_
      refine V.getR (x := 514) (pc := 41) (ci := 14) (k := 18) (M := 49) (T := TX12) (o := 504) (kz := 18) hG a_504 a_504.n (by decide) hin_X12 rfl (by decide) (by decide) rfl kw_1710 rfl ((hw).1 (504, 18, 514) (by decide)) (by decide) dX12_output_41 ?_
      refine V.iload_n (pc := 44) hG dX12_output_44 rfl 1 rfl ?_
      obtain ⟨g24, h⟩ := h
      refine V.iald (pc := 45) (z := 192) (o := 514) hG a_514 a_514.n hp1 g24 dX12_output_45 ?_
      refine V.pick [] rfl ?_
      exact jn46 (i15 514 p1) i15 ((hi18 _ _)) hi18 h
    · have h := f23 c21
      clear t22 f23
      refine V.iconst (pc := 36) hG dX12_output_36 ?_
      refine V.goto (pc := 37) (tgt := 46) hG dX12_output_37 (by decide) ?_
      refine V.pick [] rfl ?_
      exact jn46 0 i15 ((sR_l rfl)) hi18 h
  refine V.aload_n (pc := 0) hG dX12_output_0 rfl 0 rfl ?_
  refine V.iconst (pc := 1) hG dX12_output_1 ?_
  refine V.putI (pc := 2) (ci := 14) (k := 0) (M := 49) (T := TX12) (o := 504) (kz := 0) hG a_504 a_504.n (by decide) hin_X12 rfl (by decide) (by decide) rfl kw_1692 rfl tyX12 tyX12_ok nmX12 rfl (ty := tyX12 0) (tyX12_ok 0 (by decide)) rfl rfl dX12_output_2 ?_
  refine V.aload_n (pc := 5) hG dX12_output_5 rfl 0 rfl ?_
  refine V.callVv (pc := 6) (As := []) (stk := []) hG (sm_X12_perform l Δ  ((okI_st hi ((sR_l rfl)))) hw h) mY_X12_perform kw_2012 kw_2014 kw_129 a_504 (by decide) (q := (RX12, TX12, 49)) rfl rfl ⟨Nat.le_of_ble_eq_true rfl, Nat.le_of_ble_eq_true rfl, Nat.le_of_ble_eq_true rfl, Nat.le_of_ble_eq_true rfl⟩ rfl (Nat.le_of_ble_eq_true rfl) dX12_output_6 rfl (fun i28 r29 hi31 hw32 hq33 => ?_)
  obtain ⟨e47, h⟩ := hq33
  subst e47
  refine V.aload_n (pc := 9) hG dX12_output_9 rfl 0 rfl ?_
  refine V.iload_n (pc := 10) hG dX12_output_10 rfl 1 rfl ?_
  refine V.iconst (pc := 11) hG dX12_output_11 ?_
  refine V.aload_n (pc := 12) hG dX12_output_12 rfl 0 rfl ?_
  refine V.getI (pc := 13) (ci := 14) (k := 19) (M := 49) (T := TX12) (o := 504) (kz := 19) hG a_504 a_504.n (by decide) hin_X12 rfl (by decide) (by decide) rfl kw_1711 rfl dX12_output_13 ?_
  refine V.iconst (pc := 16) hG dX12_output_16 ?_
  refine V.isub (pc := 17) hG dX12_output_17 ?_
  refine V.callSi (pc := 18) (As := [.int (sJ p1), .int (sJ 0), .int (sJ (wr (i28 504 19 - 1)))]) (stk := [.ref (sA Δ 504)]) hG (sm_X12_in l Δ hp1 ((sR_l rfl)) ((sR_wr _)) hi31 hw h) mY_X12_in kw_1848 kw_1849 rfl ⟨Nat.le_of_ble_eq_true rfl, Nat.le_of_ble_eq_true rfl, Nat.le_of_ble_eq_true rfl, Nat.le_of_ble_eq_true rfl⟩ rfl (Nat.le_of_ble_eq_true rfl) dX12_output_18 rfl (fun v34 i35 r36 hv37 hi38 hw39 hq40 => ?_)
  obtain ⟨e44, e45, h⟩ := hq40
  subst e44
  subst e45
  obtain ⟨f43, t42⟩ := h
  refine V.if_ne (pc := 21) (tgt := 28) hG hv37 dX12_output_21 (by decide) (fun c41 => ?_) (fun c41 => ?_)
  · have h := t42 c41
    clear t42 f43
    refine V.iconst (pc := 28) hG dX12_output_28 ?_
    exact jn29 0 i28 ((sR_l rfl)) hi31 h
  · have h := f43 c41
    clear t42 f43
    refine V.iconst (pc := 24) hG dX12_output_24 ?_
    refine V.goto (pc := 25) (tgt := 29) hG dX12_output_25 (by decide) ?_
    exact jn29 1 i28 ((sR_l rfl)) hi31 h
set_option maxRecDepth 100000 in
set_option maxHeartbeats 4000000 in
theorem sm_X12_memoryAt (l : Launch) (Δ : Wd) {i r : MI} {p1 : Int} {p2 : Int} (hp1 : sR p1) (hp2 : sR p2) {Q : Int → MI → Prop} (hi : okI i) (hw : Wf r) (h : wp_X12_memoryAt p1 p2 i r Q) : Met l yX12_memoryAt (Cond.code yX12_memoryAt cX12_memoryAt 3 (some .int) :: gW) (sRm 4 96) (sPc Δ [.ref (sA Δ 504), .int (sJ p1), .int (sJ p2)] i r) (sQi Δ (fun x i' r' => r = r' ∧ Q x i')) 0 0 (sFr Δ) := by
  refine Ct.i (ty := .int) (by decide) rfl (Nat.le_of_ble_eq_true rfl) (fun Γ Q0 hG fin => ?_)
  have hG : okG Γ Δ l (sRm 4 96) cX12_memoryAt "SchedularyModel" 3 := hG
  show V Γ Δ 542 false i r 0 0 Q0 0 [(0, .ref (sA Δ 504)), (1, .int (sJ p1)), (2, .int (sJ p2))] []
  refine V.aload_n (pc := 0) hG dX12_memoryAt_0 rfl 0 rfl ?_
  refine V.iconst (pc := 1) hG dX12_memoryAt_1 ?_
  refine V.putI (pc := 2) (ci := 14) (k := 0) (M := 49) (T := TX12) (o := 504) (kz := 0) hG a_504 a_504.n (by decide) hin_X12 rfl (by decide) (by decide) rfl kw_1692 rfl tyX12 tyX12_ok nmX12 rfl (ty := tyX12 0) (tyX12_ok 0 (by decide)) rfl rfl dX12_memoryAt_2 ?_
  refine V.aload_n (pc := 5) hG dX12_memoryAt_5 rfl 0 rfl ?_
  refine V.iload_n (pc := 6) hG dX12_memoryAt_6 rfl 1 rfl ?_
  refine V.iload_n (pc := 7) hG dX12_memoryAt_7 rfl 2 rfl ?_
  refine V.callSi (pc := 8) (As := [.int (sJ p1), .int (sJ p2)]) (stk := [.ref (sA Δ 504)]) hG (sm_X12_noMemory l Δ hp1 hp2 ((okI_st hi ((sR_l rfl)))) hw h) mY_X12_noMemory kw_1993 kw_1994 rfl ⟨Nat.le_of_ble_eq_true rfl, Nat.le_of_ble_eq_true rfl, Nat.le_of_ble_eq_true rfl, Nat.le_of_ble_eq_true rfl⟩ rfl (Nat.le_of_ble_eq_true rfl) dX12_memoryAt_8 rfl (fun v1 i2 r3 hv4 hi5 hw6 hq7 => ?_)
  obtain ⟨e39, e40, h⟩ := hq7
  subst e39
  subst e40
  refine V.iconst (pc := 11) hG dX12_memoryAt_11 ?_
  refine V.callVi (pc := 12) (As := [.int (sJ v1), .int (sJ 1)]) (stk := []) hG (sm_X12_fails l Δ hv4 ((sR_l rfl)) ((okI_st hi ((sR_l rfl)))) hw h) mY_X12_fails kw_1853 kw_1855 kw_106 a_504 (by decide) (q := (RX12, TX12, 49)) rfl rfl ⟨Nat.le_of_ble_eq_true rfl, Nat.le_of_ble_eq_true rfl, Nat.le_of_ble_eq_true rfl, Nat.le_of_ble_eq_true rfl⟩ rfl (Nat.le_of_ble_eq_true rfl) dX12_memoryAt_12 rfl (fun v8 i9 r10 hv11 hi12 hw13 hq14 => ?_)
  obtain ⟨e38, h⟩ := hq14
  subst e38
  obtain ⟨t16, f17⟩ := h
  refine V.if_eq (pc := 15) (tgt := 20) hG hv11 dX12_memoryAt_15 (by decide) (fun c15 => ?_) (fun c15 => ?_)
  · have h := t16 c15
    clear t16 f17
    refine V.aload_n (pc := 20) hG dX12_memoryAt_20 rfl 0 rfl ?_
    refine V.callVv (pc := 21) (As := []) (stk := []) hG (sm_X12_perform l Δ  hi12 hw h) mY_X12_perform kw_2012 kw_2014 kw_129 a_504 (by decide) (q := (RX12, TX12, 49)) rfl rfl ⟨Nat.le_of_ble_eq_true rfl, Nat.le_of_ble_eq_true rfl, Nat.le_of_ble_eq_true rfl, Nat.le_of_ble_eq_true rfl⟩ rfl (Nat.le_of_ble_eq_true rfl) dX12_memoryAt_21 rfl (fun i19 r20 hi22 hw23 hq24 => ?_)
    obtain ⟨e36, h⟩ := hq24
    subst e36
    refine V.aload_n (pc := 24) hG dX12_memoryAt_24 rfl 0 rfl ?_
    refine V.getR (x := 513) (pc := 25) (ci := 14) (k := 17) (M := 49) (T := TX12) (o := 504) (kz := 17) hG a_504 a_504.n (by decide) hin_X12 rfl (by decide) (by decide) rfl kw_1709 rfl ((hw).1 (504, 17, 513) (by decide)) (by decide) dX12_memoryAt_25 ?_
    refine V.iload_n (pc := 28) hG dX12_memoryAt_28 rfl 1 rfl ?_
    refine V.iload_n (pc := 29) hG dX12_memoryAt_29 rfl 2 rfl ?_
    refine V.callSi (pc := 30) (As := [.int (sJ p1), .int (sJ p2)]) (stk := [.ref (sA Δ 513)]) hG (sm_X12_cell l Δ hp1 hp2 hi22 hw h) mY_X12_cell kw_1996 kw_1997 rfl ⟨Nat.le_of_ble_eq_true rfl, Nat.le_of_ble_eq_true rfl, Nat.le_of_ble_eq_true rfl, Nat.le_of_ble_eq_true rfl⟩ rfl (Nat.le_of_ble_eq_true rfl) dX12_memoryAt_30 rfl (fun v25 i26 r27 hv28 hi29 hw30 hq31 => ?_)
    obtain ⟨e33, e34, h⟩ := hq31
    subst e33
    subst e34
    obtain ⟨g32, h⟩ := h
    refine V.iald (pc := 33) (z := 32) (o := 513) hG a_513 a_513.n hv28 g32 dX12_memoryAt_33 ?_
    exact fin dX12_memoryAt_34 ((hi22 _ _)) rfl hi22 hw ⟨rfl, h⟩
  · have h := f17 c15
    clear t16 f17
    refine V.iconst (pc := 18) hG dX12_memoryAt_18 ?_
    exact fin dX12_memoryAt_19 ((sR_l rfl)) rfl hi12 hw ⟨rfl, h⟩
set_option maxRecDepth 100000 in
set_option maxHeartbeats 4000000 in
theorem sm_X12_register (l : Launch) (Δ : Wd) {i r : MI} {p1 : Int} (hp1 : sR p1) {Q : Int → MI → Prop} (hi : okI i) (hw : Wf r) (h : wp_X12_register p1 i r Q) : Met l yX12_register (Cond.code yX12_register cX12_register 2 (some .int) :: gW) (sRm 4 96) (sPc Δ [.ref (sA Δ 504), .int (sJ p1)] i r) (sQi Δ (fun x i' r' => r = r' ∧ Q x i')) 0 0 (sFr Δ) := by
  refine Ct.i (ty := .int) (by decide) rfl (Nat.le_of_ble_eq_true rfl) (fun Γ Q0 hG fin => ?_)
  have hG : okG Γ Δ l (sRm 4 96) cX12_register "SchedularyModel" 2 := hG
  show V Γ Δ 542 false i r 0 0 Q0 0 [(0, .ref (sA Δ 504)), (1, .int (sJ p1))] []
  have jn22 : ∀ (k1j22 : Int) (ij22 : MI), sR k1j22 → okI ij22 → s22_X12_register p1 k1j22 ij22 r Q → V Γ Δ 542 false ij22 r 0 0 Q0 22 [(0, .ref (sA Δ 504)), (1, .int (sJ p1))] [.int (sJ k1j22), .ref (sA Δ 504)] := by
    intro k1j22 ij22 hk1j22 hij22 h
    refine V.iconst (pc := 22) hG dX12_register_22 ?_
    refine V.callVi (pc := 23) (As := [.int (sJ k1j22), .int (sJ 1)]) (stk := []) hG (sm_X12_fails l Δ hk1j22 ((sR_l rfl)) hij22 hw h) mY_X12_fails kw_1853 kw_1855 kw_106 a_504 (by decide) (q := (RX12, TX12, 49)) rfl rfl ⟨Nat.le_of_ble_eq_true rfl, Nat.le_of_ble_eq_true rfl, Nat.le_of_ble_eq_true rfl, Nat.le_of_ble_eq_true rfl⟩ rfl (Nat.le_of_ble_eq_true rfl) dX12_register_23 rfl (fun v23 i24 r25 hv26 hi27 hw28 hq29 => ?_)
    obtain ⟨e44, h⟩ := hq29
    subst e44
    obtain ⟨t31, f32⟩ := h
    refine V.if_eq (pc := 26) (tgt := 31) hG hv26 dX12_register_26 (by decide) (fun c30 => ?_) (fun c30 => ?_)
    · have h := t31 c30
      clear t31 f32
      refine V.aload_n (pc := 31) hG dX12_register_31 rfl 0 rfl ?_
      refine V.callVv (pc := 32) (As := []) (stk := []) hG (sm_X12_perform l Δ  hi27 hw h) mY_X12_perform kw_2012 kw_2014 kw_129 a_504 (by decide) (q := (RX12, TX12, 49)) rfl rfl ⟨Nat.le_of_ble_eq_true rfl, Nat.le_of_ble_eq_true rfl, Nat.le_of_ble_eq_true rfl, Nat.le_of_ble_eq_true rfl⟩ rfl (Nat.le_of_ble_eq_true rfl) dX12_register_32 rfl (fun i34 r35 hi37 hw38 hq39 => ?_)
      obtain ⟨e42, h⟩ := hq39
      subst e42
      refine V.aload_n (pc := 35) hG dX12_register_35 rfl 0 rfl ?_
      refine V.getR (x := 512) (pc := 36) (ci := 14) (k := 16) (M := 49) (T := TX12) (o := 504) (kz := 16) hG a_504 a_504.n (by decide) hin_X12 rfl (by decide) (by decide) rfl kw_1708 rfl ((hw).1 (504, 16, 512) (by decide)) (by decide) dX12_register_36 ?_
      refine V.iload_n (pc := 39) hG dX12_register_39 rfl 1 rfl ?_
      refine V.bipush (pc := 40) hG dX12_register_40 (by decide) ?_
      refine V.isub (pc := 42) hG dX12_register_42 ?_
      obtain ⟨g40, h⟩ := h
      refine V.iald (pc := 43) (z := 8) (o := 512) hG a_512 a_512.n ((sR_wr _)) g40 dX12_register_43 ?_
      exact fin dX12_register_44 ((hi37 _ _)) rfl hi37 hw ⟨rfl, h⟩
    · have h := f32 c30
      clear t31 f32
      refine V.iconst (pc := 29) hG dX12_register_29 ?_
      exact fin dX12_register_30 ((sR_l rfl)) rfl hi27 hw ⟨rfl, h⟩
  refine V.aload_n (pc := 0) hG dX12_register_0 rfl 0 rfl ?_
  refine V.iconst (pc := 1) hG dX12_register_1 ?_
  refine V.putI (pc := 2) (ci := 14) (k := 0) (M := 49) (T := TX12) (o := 504) (kz := 0) hG a_504 a_504.n (by decide) hin_X12 rfl (by decide) (by decide) rfl kw_1692 rfl tyX12 tyX12_ok nmX12 rfl (ty := tyX12 0) (tyX12_ok 0 (by decide)) rfl rfl dX12_register_2 ?_
  refine V.aload_n (pc := 5) hG dX12_register_5 rfl 0 rfl ?_
  refine V.iload_n (pc := 6) hG dX12_register_6 rfl 1 rfl ?_
  refine V.bipush (pc := 7) hG dX12_register_7 (by decide) ?_
  refine V.bipush (pc := 9) hG dX12_register_9 (by decide) ?_
  refine V.callSi (pc := 11) (As := [.int (sJ p1), .int (sJ 97), .int (sJ 104)]) (stk := [.ref (sA Δ 504)]) hG (sm_X12_in l Δ hp1 ((sR_l rfl)) ((sR_l rfl)) ((okI_st hi ((sR_l rfl)))) hw h) mY_X12_in kw_1848 kw_1849 rfl ⟨Nat.le_of_ble_eq_true rfl, Nat.le_of_ble_eq_true rfl, Nat.le_of_ble_eq_true rfl, Nat.le_of_ble_eq_true rfl⟩ rfl (Nat.le_of_ble_eq_true rfl) dX12_register_11 rfl (fun v45 i46 r47 hv48 hi49 hw50 hq51 => ?_)
  obtain ⟨e55, e56, h⟩ := hq51
  subst e55
  subst e56
  obtain ⟨f54, t53⟩ := h
  refine V.if_ne (pc := 14) (tgt := 21) hG hv48 dX12_register_14 (by decide) (fun c52 => ?_) (fun c52 => ?_)
  · have h := t53 c52
    clear t53 f54
    refine V.iconst (pc := 21) hG dX12_register_21 ?_
    exact jn22 0 (st i 504 0 0) ((sR_l rfl)) ((okI_st hi ((sR_l rfl)))) h
  · have h := f54 c52
    clear t53 f54
    refine V.iconst (pc := 17) hG dX12_register_17 ?_
    refine V.goto (pc := 18) (tgt := 22) hG dX12_register_18 (by decide) ?_
    exact jn22 1 (st i 504 0 0) ((sR_l rfl)) ((okI_st hi ((sR_l rfl)))) h
set_option maxRecDepth 100000 in
set_option maxHeartbeats 4000000 in
theorem sm_X12_taken_ (l : Launch) (Δ : Wd) {i r : MI}   {Q : Int → MI → Prop} (hi : okI i) (hw : Wf r) (h : wp_X12_taken_  i r Q) : Met l yX12_taken_ (Cond.code yX12_taken_ cX12_taken_ 1 (some .int) :: gW) (sRm 4 96) (sPc Δ [.ref (sA Δ 504)] i r) (sQi Δ (fun x i' r' => r = r' ∧ Q x i')) 0 0 (sFr Δ) := by
  refine Ct.i (ty := .int) (by decide) rfl (Nat.le_of_ble_eq_true rfl) (fun Γ Q0 hG fin => ?_)
  have hG : okG Γ Δ l (sRm 4 96) cX12_taken_ "SchedularyModel" 1 := hG
  show V Γ Δ 542 false i r 0 0 Q0 0 [(0, .ref (sA Δ 504))] []
  refine V.aload_n (pc := 0) hG dX12_taken__0 rfl 0 rfl ?_
  refine V.iconst (pc := 1) hG dX12_taken__1 ?_
  refine V.putI (pc := 2) (ci := 14) (k := 0) (M := 49) (T := TX12) (o := 504) (kz := 0) hG a_504 a_504.n (by decide) hin_X12 rfl (by decide) (by decide) rfl kw_1692 rfl tyX12 tyX12_ok nmX12 rfl (ty := tyX12 0) (tyX12_ok 0 (by decide)) rfl rfl dX12_taken__2 ?_
  refine V.aload_n (pc := 5) hG dX12_taken__5 rfl 0 rfl ?_
  refine V.callVv (pc := 6) (As := []) (stk := []) hG (sm_X12_perform l Δ  ((okI_st hi ((sR_l rfl)))) hw h) mY_X12_perform kw_2012 kw_2014 kw_129 a_504 (by decide) (q := (RX12, TX12, 49)) rfl rfl ⟨Nat.le_of_ble_eq_true rfl, Nat.le_of_ble_eq_true rfl, Nat.le_of_ble_eq_true rfl, Nat.le_of_ble_eq_true rfl⟩ rfl (Nat.le_of_ble_eq_true rfl) dX12_taken__6 rfl (fun i2 r3 hi5 hw6 hq7 => ?_)
  obtain ⟨e9, h⟩ := hq7
  subst e9
  refine V.aload_n (pc := 9) hG dX12_taken__9 rfl 0 rfl ?_
  refine V.getI (pc := 10) (ci := 14) (k := 20) (M := 49) (T := TX12) (o := 504) (kz := 20) hG a_504 a_504.n (by decide) hin_X12 rfl (by decide) (by decide) rfl kw_1712 rfl dX12_taken__10 ?_
  refine V.aload_n (pc := 13) hG dX12_taken__13 rfl 0 rfl ?_
  refine V.getI (pc := 14) (ci := 14) (k := 11) (M := 49) (T := TX12) (o := 504) (kz := 11) hG a_504 a_504.n (by decide) hin_X12 rfl (by decide) (by decide) rfl kw_1703 rfl dX12_taken__14 ?_
  refine V.mmin (pc := 17) hG ((hi5 _ _)) ((hi5 _ _)) kw_2059 kw_683 kw_173 kw_min ⟨Nat.le_of_ble_eq_true rfl, Nat.le_of_ble_eq_true rfl, Nat.le_of_ble_eq_true rfl, Nat.le_of_ble_eq_true rfl⟩ dX12_taken__17 ?_
  exact fin dX12_taken__20 ((sR_min ((hi5 _ _)) ((hi5 _ _)))) rfl hi5 hw ⟨rfl, h⟩
set_option maxRecDepth 100000 in
set_option maxHeartbeats 4000000 in
theorem sm_X12_nodes (l : Launch) (Δ : Wd) {i r : MI}   {Q : Int → MI → Prop} (hi : okI i) (hw : Wf r) (h : wp_X12_nodes  i r Q) : Met l yX12_nodes (Cond.code yX12_nodes cX12_nodes 1 (some .int) :: gW) (sRm 4 94) (sPc Δ [.ref (sA Δ 504)] i r) (sQi Δ (fun x i' r' => r = r' ∧ Q x i')) 0 0 (sFr Δ) := by
  refine Ct.i (ty := .int) (by decide) rfl (Nat.le_of_ble_eq_true rfl) (fun Γ Q0 hG fin => ?_)
  have hG : okG Γ Δ l (sRm 4 94) cX12_nodes "SchedularyModel" 1 := hG
  show V Γ Δ 542 false i r 0 0 Q0 0 [(0, .ref (sA Δ 504))] []
  refine V.aload_n (pc := 0) hG dX12_nodes_0 rfl 0 rfl ?_
  refine V.iconst (pc := 1) hG dX12_nodes_1 ?_
  refine V.putI (pc := 2) (ci := 14) (k := 0) (M := 49) (T := TX12) (o := 504) (kz := 0) hG a_504 a_504.n (by decide) hin_X12 rfl (by decide) (by decide) rfl kw_1692 rfl tyX12 tyX12_ok nmX12 rfl (ty := tyX12 0) (tyX12_ok 0 (by decide)) rfl rfl dX12_nodes_2 ?_
  refine V.aload_n (pc := 5) hG dX12_nodes_5 rfl 0 rfl ?_
  refine V.callVv (pc := 6) (As := []) (stk := []) hG (sm_X12_build l Δ  ((okI_st hi ((sR_l rfl)))) hw h) mY_X12_build kw_1910 kw_1912 kw_116 a_504 (by decide) (q := (RX12, TX12, 49)) rfl rfl ⟨Nat.le_of_ble_eq_true rfl, Nat.le_of_ble_eq_true rfl, Nat.le_of_ble_eq_true rfl, Nat.le_of_ble_eq_true rfl⟩ rfl (Nat.le_of_ble_eq_true rfl) dX12_nodes_6 rfl (fun i2 r3 hi5 hw6 hq7 => ?_)
  obtain ⟨e9, h⟩ := hq7
  subst e9
  refine V.aload_n (pc := 9) hG dX12_nodes_9 rfl 0 rfl ?_
  refine V.getI (pc := 10) (ci := 14) (k := 21) (M := 49) (T := TX12) (o := 504) (kz := 21) hG a_504 a_504.n (by decide) hin_X12 rfl (by decide) (by decide) rfl kw_1713 rfl dX12_nodes_10 ?_
  exact fin dX12_nodes_13 ((hi5 _ _)) rfl hi5 hw ⟨rfl, h⟩
set_option maxRecDepth 100000 in
set_option maxHeartbeats 4000000 in
theorem sm_X12_noNode (l : Launch) (Δ : Wd) {i r : MI} {p1 : Int} (hp1 : sR p1) {Q : Int → Prop} (hi : okI i) (hw : Wf r) (h : wp_X12_noNode p1 i r Q) : Met l yX12_noNode (Cond.code yX12_noNode cX12_noNode 2 (some .boolean) :: gW) (sRm 1 22) (sPc Δ [.ref (sA Δ 504), .int (sJ p1)] i r) (sQi Δ (fun x i' r' => i = i' ∧ r = r' ∧ Q x)) 0 0 (sFr Δ) := by
  refine Ct.i (ty := .boolean) (by decide) rfl (Nat.le_of_ble_eq_true rfl) (fun Γ Q0 hG fin => ?_)
  have hG : okG Γ Δ l (sRm 1 22) cX12_noNode "SchedularyModel" 2 := hG
  show V Γ Δ 542 false i r 0 0 Q0 0 [(0, .ref (sA Δ 504)), (1, .int (sJ p1))] []
  have jn19 : ∀ (k0j19 : Int), sR k0j19 → s19_X12_noNode k0j19 i r Q → V Γ Δ 542 false i r 0 0 Q0 19 [] [.int (sJ k0j19)] := by
    intro k0j19 hk0j19 h
    obtain ⟨g2, h⟩ := h
    exact fin dX12_noNode_19 hk0j19 (nar_z g2) hi hw ⟨rfl, rfl, h⟩
  refine V.iload_n (pc := 0) hG dX12_noNode_0 rfl 1 rfl ?_
  refine V.iconst (pc := 1) hG dX12_noNode_1 ?_
  refine V.aload_n (pc := 2) hG dX12_noNode_2 rfl 0 rfl ?_
  refine V.getI (pc := 3) (ci := 14) (k := 21) (M := 49) (T := TX12) (o := 504) (kz := 21) hG a_504 a_504.n (by decide) hin_X12 rfl (by decide) (by decide) rfl kw_1713 rfl dX12_noNode_3 ?_
  refine V.iconst (pc := 6) hG dX12_noNode_6 ?_
  refine V.isub (pc := 7) hG dX12_noNode_7 ?_
  refine V.callSi (pc := 8) (As := [.int (sJ p1), .int (sJ 0), .int (sJ (wr (i 504 21 - 1)))]) (stk := []) hG (sm_X12_in l Δ hp1 ((sR_l rfl)) ((sR_wr _)) hi hw h) mY_X12_in kw_1848 kw_1849 rfl ⟨Nat.le_of_ble_eq_true rfl, Nat.le_of_ble_eq_true rfl, Nat.le_of_ble_eq_true rfl, Nat.le_of_ble_eq_true rfl⟩ rfl (Nat.le_of_ble_eq_true rfl) dX12_noNode_8 rfl (fun v3 i4 r5 hv6 hi7 hw8 hq9 => ?_)
  obtain ⟨e13, e14, h⟩ := hq9
  subst e13
  subst e14
  obtain ⟨f12, t11⟩ := h
  refine V.if_ne (pc := 11) (tgt := 18) hG hv6 dX12_noNode_11 (by decide) (fun c10 => ?_) (fun c10 => ?_)
  · have h := t11 c10
    clear t11 f12
    refine V.iconst (pc := 18) hG dX12_noNode_18 ?_
    refine V.pick [] rfl ?_
    exact jn19 0 ((sR_l rfl)) h
  · have h := f12 c10
    clear t11 f12
    refine V.iconst (pc := 14) hG dX12_noNode_14 ?_
    refine V.goto (pc := 15) (tgt := 19) hG dX12_noNode_15 (by decide) ?_
    refine V.pick [] rfl ?_
    exact jn19 1 ((sR_l rfl)) h
set_option maxRecDepth 100000 in
set_option maxHeartbeats 4000000 in
theorem sm_X12_statementOf (l : Launch) (Δ : Wd) {i r : MI} {p1 : Int} (hp1 : sR p1) {Q : Int → MI → Prop} (hi : okI i) (hw : Wf r) (h : wp_X12_statementOf p1 i r Q) : Met l yX12_statementOf (Cond.code yX12_statementOf cX12_statementOf 2 (some .int) :: gW) (sRm 4 94) (sPc Δ [.ref (sA Δ 504), .int (sJ p1)] i r) (sQi Δ (fun x i' r' => r = r' ∧ Q x i')) 0 0 (sFr Δ) := by
  refine Ct.i (ty := .int) (by decide) rfl (Nat.le_of_ble_eq_true rfl) (fun Γ Q0 hG fin => ?_)
  have hG : okG Γ Δ l (sRm 4 94) cX12_statementOf "SchedularyModel" 2 := hG
  show V Γ Δ 542 false i r 0 0 Q0 0 [(0, .ref (sA Δ 504)), (1, .int (sJ p1))] []
  have jn32 : ∀ (k0j32 : Int) (ij32 : MI), sR k0j32 → okI ij32 → s32_X12_statementOf k0j32 ij32 r Q → V Γ Δ 542 false ij32 r 0 0 Q0 32 [] [.int (sJ k0j32)] := by
    intro k0j32 ij32 hk0j32 hij32 h
    exact fin dX12_statementOf_32 hk0j32 rfl hij32 hw ⟨rfl, h⟩
  refine V.aload_n (pc := 0) hG dX12_statementOf_0 rfl 0 rfl ?_
  refine V.iconst (pc := 1) hG dX12_statementOf_1 ?_
  refine V.putI (pc := 2) (ci := 14) (k := 0) (M := 49) (T := TX12) (o := 504) (kz := 0) hG a_504 a_504.n (by decide) hin_X12 rfl (by decide) (by decide) rfl kw_1692 rfl tyX12 tyX12_ok nmX12 rfl (ty := tyX12 0) (tyX12_ok 0 (by decide)) rfl rfl dX12_statementOf_2 ?_
  refine V.aload_n (pc := 5) hG dX12_statementOf_5 rfl 0 rfl ?_
  refine V.callVv (pc := 6) (As := []) (stk := []) hG (sm_X12_build l Δ  ((okI_st hi ((sR_l rfl)))) hw h) mY_X12_build kw_1910 kw_1912 kw_116 a_504 (by decide) (q := (RX12, TX12, 49)) rfl rfl ⟨Nat.le_of_ble_eq_true rfl, Nat.le_of_ble_eq_true rfl, Nat.le_of_ble_eq_true rfl, Nat.le_of_ble_eq_true rfl⟩ rfl (Nat.le_of_ble_eq_true rfl) dX12_statementOf_6 rfl (fun i2 r3 hi5 hw6 hq7 => ?_)
  obtain ⟨e31, h⟩ := hq7
  subst e31
  refine V.aload_n (pc := 9) hG dX12_statementOf_9 rfl 0 rfl ?_
  refine V.aload_n (pc := 10) hG dX12_statementOf_10 rfl 0 rfl ?_
  refine V.iload_n (pc := 11) hG dX12_statementOf_11 rfl 1 rfl ?_
  refine V.callVi (pc := 12) (As := [.int (sJ p1)]) (stk := [.ref (sA Δ 504)]) hG (sm_X12_noNode l Δ hp1 hi5 hw h) mY_X12_noNode kw_2068 kw_2070 kw_136 a_504 (by decide) (q := (RX12, TX12, 49)) rfl rfl ⟨Nat.le_of_ble_eq_true rfl, Nat.le_of_ble_eq_true rfl, Nat.le_of_ble_eq_true rfl, Nat.le_of_ble_eq_true rfl⟩ rfl (Nat.le_of_ble_eq_true rfl) dX12_statementOf_12 rfl (fun v8 i9 r10 hv11 hi12 hw13 hq14 => ?_)
  obtain ⟨e28, e29, h⟩ := hq14
  subst e28
  subst e29
  refine V.iconst (pc := 15) hG dX12_statementOf_15 ?_
  refine V.callVi (pc := 16) (As := [.int (sJ v8), .int (sJ 1)]) (stk := []) hG (sm_X12_fails l Δ hv11 ((sR_l rfl)) hi5 hw h) mY_X12_fails kw_1853 kw_1855 kw_106 a_504 (by decide) (q := (RX12, TX12, 49)) rfl rfl ⟨Nat.le_of_ble_eq_true rfl, Nat.le_of_ble_eq_true rfl, Nat.le_of_ble_eq_true rfl, Nat.le_of_ble_eq_true rfl⟩ rfl (Nat.le_of_ble_eq_true rfl) dX12_statementOf_16 rfl (fun v15 i16 r17 hv18 hi19 hw20 hq21 => ?_)
  obtain ⟨e27, h⟩ := hq21
  subst e27
  obtain ⟨t23, f24⟩ := h
  refine V.if_eq (pc := 19) (tgt := 26) hG hv18 dX12_statementOf_19 (by decide) (fun c22 => ?_) (fun c22 => ?_)
  · have h := t23 c22
    clear t23 f24
    refine V.aload_n (pc := 26) hG dX12_statementOf_26 rfl 0 rfl ?_
    refine V.getR (x := 515) (pc := 27) (ci := 14) (k := 22) (M := 49) (T := TX12) (o := 504) (kz := 22) hG a_504 a_504.n (by decide) hin_X12 rfl (by decide) (by decide) rfl kw_1714 rfl ((hw).1 (504, 22, 515) (by decide)) (by decide) dX12_statementOf_27 ?_
    refine V.iload_n (pc := 30) hG dX12_statementOf_30 rfl 1 rfl ?_
    obtain ⟨g25, h⟩ := h
    refine V.iald (pc := 31) (z := 96) (o := 515) hG a_515 a_515.n hp1 g25 dX12_statementOf_31 ?_
    refine V.pick [] rfl ?_
    exact jn32 (i16 515 p1) i16 ((hi19 _ _)) hi19 h
  · have h := f24 c22
    clear t23 f24
    refine V.iconst (pc := 22) hG dX12_statementOf_22 ?_
    refine V.goto (pc := 23) (tgt := 32) hG dX12_statementOf_23 (by decide) ?_
    refine V.pick [] rfl ?_
    exact jn32 0 i16 ((sR_l rfl)) hi19 h
set_option maxRecDepth 100000 in
set_option maxHeartbeats 4000000 in
theorem sm_X12_edges (l : Launch) (Δ : Wd) {i r : MI}   {Q : Int → MI → Prop} (hi : okI i) (hw : Wf r) (h : wp_X12_edges  i r Q) : Met l yX12_edges (Cond.code yX12_edges cX12_edges 1 (some .int) :: gW) (sRm 4 94) (sPc Δ [.ref (sA Δ 504)] i r) (sQi Δ (fun x i' r' => r = r' ∧ Q x i')) 0 0 (sFr Δ) := by
  refine Ct.i (ty := .int) (by decide) rfl (Nat.le_of_ble_eq_true rfl) (fun Γ Q0 hG fin => ?_)
  have hG : okG Γ Δ l (sRm 4 94) cX12_edges "SchedularyModel" 1 := hG
  show V Γ Δ 542 false i r 0 0 Q0 0 [(0, .ref (sA Δ 504))] []
  refine V.aload_n (pc := 0) hG dX12_edges_0 rfl 0 rfl ?_
  refine V.iconst (pc := 1) hG dX12_edges_1 ?_
  refine V.putI (pc := 2) (ci := 14) (k := 0) (M := 49) (T := TX12) (o := 504) (kz := 0) hG a_504 a_504.n (by decide) hin_X12 rfl (by decide) (by decide) rfl kw_1692 rfl tyX12 tyX12_ok nmX12 rfl (ty := tyX12 0) (tyX12_ok 0 (by decide)) rfl rfl dX12_edges_2 ?_
  refine V.aload_n (pc := 5) hG dX12_edges_5 rfl 0 rfl ?_
  refine V.callVv (pc := 6) (As := []) (stk := []) hG (sm_X12_build l Δ  ((okI_st hi ((sR_l rfl)))) hw h) mY_X12_build kw_1910 kw_1912 kw_116 a_504 (by decide) (q := (RX12, TX12, 49)) rfl rfl ⟨Nat.le_of_ble_eq_true rfl, Nat.le_of_ble_eq_true rfl, Nat.le_of_ble_eq_true rfl, Nat.le_of_ble_eq_true rfl⟩ rfl (Nat.le_of_ble_eq_true rfl) dX12_edges_6 rfl (fun i2 r3 hi5 hw6 hq7 => ?_)
  obtain ⟨e9, h⟩ := hq7
  subst e9
  refine V.aload_n (pc := 9) hG dX12_edges_9 rfl 0 rfl ?_
  refine V.getI (pc := 10) (ci := 14) (k := 30) (M := 49) (T := TX12) (o := 504) (kz := 30) hG a_504 a_504.n (by decide) hin_X12 rfl (by decide) (by decide) rfl kw_1722 rfl dX12_edges_10 ?_
  exact fin dX12_edges_13 ((hi5 _ _)) rfl hi5 hw ⟨rfl, h⟩
set_option maxRecDepth 100000 in
set_option maxHeartbeats 4000000 in
theorem sm_X12_weight (l : Launch) (Δ : Wd) {i r : MI} {p1 : Int} {p2 : Int} {p3 : Int} (hp1 : sR p1) (hp2 : sR p2) (hp3 : sR p3) {Q : Int → MI → Prop} (hi : okI i) (hw : Wf r) (h : wp_X12_weight p1 p2 p3 i r Q) : Met l yX12_weight (Cond.code yX12_weight cX12_weight 5 (some .int) :: gW) (sRm 4 94) (sPc Δ [.ref (sA Δ 504), .int (sJ p1), .int (sJ p2), .int (sJ p3)] i r) (sQi Δ (fun x i' r' => r = r' ∧ Q x i')) 0 0 (sFr Δ) := by
  refine Ct.i (ty := .int) (by decide) rfl (Nat.le_of_ble_eq_true rfl) (fun Γ Q0 hG fin => ?_)
  have hG : okG Γ Δ l (sRm 4 94) cX12_weight "SchedularyModel" 5 := hG
  show V Γ Δ 542 false i r 0 0 Q0 0 [(0, .ref (sA Δ 504)), (1, .int (sJ p1)), (2, .int (sJ p2)), (3, .int (sJ p3))] []
  have jn31 : ∀ (k1j31 : Int) (ij31 : MI), sR k1j31 → okI ij31 → s31_X12_weight p1 p2 p3 k1j31 ij31 r Q → V Γ Δ 542 false ij31 r 0 0 Q0 31 [(0, .ref (sA Δ 504)), (1, .int (sJ p1)), (2, .int (sJ p2)), (3, .int (sJ p3))] [.int (sJ k1j31), .ref (sA Δ 504)] := by
    intro k1j31 ij31 hk1j31 hij31 h
    refine V.iconst (pc := 31) hG dX12_weight_31 ?_
    refine V.callVi (pc := 32) (As := [.int (sJ k1j31), .int (sJ 1)]) (stk := []) hG (sm_X12_fails l Δ hk1j31 ((sR_l rfl)) hij31 hw h) mY_X12_fails kw_1853 kw_1855 kw_106 a_504 (by decide) (q := (RX12, TX12, 49)) rfl rfl ⟨Nat.le_of_ble_eq_true rfl, Nat.le_of_ble_eq_true rfl, Nat.le_of_ble_eq_true rfl, Nat.le_of_ble_eq_true rfl⟩ rfl (Nat.le_of_ble_eq_true rfl) dX12_weight_32 rfl (fun v33 i34 r35 hv36 hi37 hw38 hq39 => ?_)
    obtain ⟨e55, h⟩ := hq39
    subst e55
    obtain ⟨t41, f42⟩ := h
    refine V.if_eq (pc := 35) (tgt := 40) hG hv36 dX12_weight_35 (by decide) (fun c40 => ?_) (fun c40 => ?_)
    · have h := t41 c40
      clear t41 f42
      refine V.aload_n (pc := 40) hG dX12_weight_40 rfl 0 rfl ?_
      refine V.getR (x := 528) (pc := 41) (ci := 14) (k := 36) (M := 49) (T := TX12) (o := 504) (kz := 36) hG a_504 a_504.n (by decide) hin_X12 rfl (by decide) (by decide) rfl kw_1728 rfl ((hw).1 (504, 36, 528) (by decide)) (by decide) dX12_weight_41 ?_
      refine V.aload_n (pc := 44) hG dX12_weight_44 rfl 0 rfl ?_
      refine V.getI (pc := 45) (ci := 14) (k := 21) (M := 49) (T := TX12) (o := 504) (kz := 21) hG a_504 a_504.n (by decide) hin_X12 rfl (by decide) (by decide) rfl kw_1713 rfl dX12_weight_45 ?_
      refine V.iload_n (pc := 48) hG dX12_weight_48 rfl 1 rfl ?_
      refine V.imul (pc := 49) hG dX12_weight_49 ?_
      refine V.iload_n (pc := 50) hG dX12_weight_50 rfl 2 rfl ?_
      refine V.iadd (pc := 51) hG dX12_weight_51 ?_
      obtain ⟨g43, h⟩ := h
      refine V.iald (pc := 52) (z := 9216) (o := 528) hG a_528 a_528.n ((sR_wr _)) g43 dX12_weight_52 ?_
      refine V.istore (pc := 53) (lv' := [(4, .int (sJ (i34 528 (wr (wr (i34 504 21 * p1) + p2))))), (0, .ref (sA Δ 504)), (1, .int (sJ p1)), (2, .int (sJ p2)), (3, .int (sJ p3))]) hG dX12_weight_53 (by decide) rfl ?_
      obtain ⟨n44, h⟩ := h
      have lp55 : ∀ (m55 : Nat) (x4_55 : Int), sR x4_55 → LoopP (b55_X12_weight p3 i34 r Q) m55 (x4_55) → V Γ Δ 542 false i34 r 0 0 Q0 55 [(0, .ref (sA Δ 504)), (3, .int (sJ p3)), (4, .int (sJ x4_55))] [] := by
        intro m55
        induction m55 with
        | zero => intro x4_55 hx4_55 h; exact h.elim
        | succ m55 ih55 =>
          intro x4_55 hx4_55 h
          have h := LoopP_succ h
          refine V.iload (pc := 55) hG dX12_weight_55 2 rfl ?_
          refine V.iconst (pc := 57) hG dX12_weight_57 ?_
          obtain ⟨t46, f47⟩ := h
          refine V.icmp_eq (pc := 58) (tgt := 92) hG hx4_55 ((sR_l rfl)) dX12_weight_58 (by decide) (fun c45 => ?_) (fun c45 => ?_)
          · have h := t46 c45
            clear t46 f47
            refine V.aload_n (pc := 92) hG dX12_weight_92 rfl 0 rfl ?_
            refine V.iconst (pc := 93) hG dX12_weight_93 ?_
            refine V.putI (pc := 94) (ci := 14) (k := 0) (M := 49) (T := TX12) (o := 504) (kz := 0) hG a_504 a_504.n (by decide) hin_X12 rfl (by decide) (by decide) rfl kw_1692 rfl tyX12 tyX12_ok nmX12 rfl (ty := tyX12 0) (tyX12_ok 0 (by decide)) rfl rfl dX12_weight_94 ?_
            refine V.iconst (pc := 97) hG dX12_weight_97 ?_
            exact fin dX12_weight_98 ((sR_l rfl)) rfl ((okI_st hi37 ((sR_l rfl)))) hw ⟨rfl, h⟩
          · have h := f47 c45
            clear t46 f47
            refine V.aload_n (pc := 61) hG dX12_weight_61 rfl 0 rfl ?_
            refine V.getR (x := 525) (pc := 62) (ci := 14) (k := 33) (M := 49) (T := TX12) (o := 504) (kz := 33) hG a_504 a_504.n (by decide) hin_X12 rfl (by decide) (by decide) rfl kw_1725 rfl ((hw).1 (504, 33, 525) (by decide)) (by decide) dX12_weight_62 ?_
            refine V.iload (pc := 65) hG dX12_weight_65 2 rfl ?_
            obtain ⟨g48, h⟩ := h
            refine V.iald (pc := 67) (z := 20000) (o := 525) hG a_525 a_525.n hx4_55 g48 dX12_weight_67 ?_
            refine V.iload_n (pc := 68) hG dX12_weight_68 rfl 1 rfl ?_
            obtain ⟨f51, t50⟩ := h
            refine V.icmp_ne (pc := 69) (tgt := 80) hG ((hi37 _ _)) hp3 dX12_weight_69 (by decide) (fun c49 => ?_) (fun c49 => ?_)
            · have h := t50 c49
              clear t50 f51
              refine V.aload_n (pc := 80) hG dX12_weight_80 rfl 0 rfl ?_
              refine V.getR (x := 527) (pc := 81) (ci := 14) (k := 35) (M := 49) (T := TX12) (o := 504) (kz := 35) hG a_504 a_504.n (by decide) hin_X12 rfl (by decide) (by decide) rfl kw_1727 rfl ((hw).1 (504, 35, 527) (by decide)) (by decide) dX12_weight_81 ?_
              refine V.iload (pc := 84) hG dX12_weight_84 2 rfl ?_
              obtain ⟨g52, h⟩ := h
              refine V.iald (pc := 86) (z := 20000) (o := 527) hG a_527 a_527.n hx4_55 g52 dX12_weight_86 ?_
              refine V.istore (pc := 87) (lv' := [(4, .int (sJ (i34 527 x4_55))), (0, .ref (sA Δ 504)), (3, .int (sJ p3))]) hG dX12_weight_87 (by decide) rfl ?_
              refine V.goto (pc := 89) (tgt := 55) hG dX12_weight_89 (by decide) ?_
              refine V.pick [1, 2, 0] rfl ?_
              exact ih55 (i34 527 x4_55) ((hi37 _ _)) h
            · have h := f51 c49
              clear t50 f51
              refine V.aload_n (pc := 72) hG dX12_weight_72 rfl 0 rfl ?_
              refine V.getR (x := 526) (pc := 73) (ci := 14) (k := 34) (M := 49) (T := TX12) (o := 504) (kz := 34) hG a_504 a_504.n (by decide) hin_X12 rfl (by decide) (by decide) rfl kw_1726 rfl ((hw).1 (504, 34, 526) (by decide)) (by decide) dX12_weight_73 ?_
              refine V.iload (pc := 76) hG dX12_weight_76 2 rfl ?_
              obtain ⟨g53, h⟩ := h
              refine V.iald (pc := 78) (z := 20000) (o := 526) hG a_526 a_526.n hx4_55 g53 dX12_weight_78 ?_
              exact fin dX12_weight_79 ((hi37 _ _)) rfl hi37 hw ⟨rfl, h⟩
      refine V.pick [1, 4, 0] rfl ?_
      exact lp55 n44 (i34 528 (wr (wr (i34 504 21 * p1) + p2))) ((hi37 _ _)) h
    · have h := f42 c40
      clear t41 f42
      refine V.iconst (pc := 38) hG dX12_weight_38 ?_
      exact fin dX12_weight_39 ((sR_l rfl)) rfl hi37 hw ⟨rfl, h⟩
  have jn26 : ∀  (ij26 : MI), okI ij26 → s26_X12_weight p1 p2 p3 ij26 r Q → V Γ Δ 542 false ij26 r 0 0 Q0 26 [(0, .ref (sA Δ 504)), (1, .int (sJ p1)), (2, .int (sJ p2)), (3, .int (sJ p3))] [.ref (sA Δ 504)] := by
    intro ij26 hij26 h
    refine V.iconst (pc := 26) hG dX12_weight_26 ?_
    refine V.goto (pc := 27) (tgt := 31) hG dX12_weight_27 (by decide) ?_
    exact jn31 1 ij26 ((sR_l rfl)) hij26 h
  refine V.aload_n (pc := 0) hG dX12_weight_0 rfl 0 rfl ?_
  refine V.iconst (pc := 1) hG dX12_weight_1 ?_
  refine V.putI (pc := 2) (ci := 14) (k := 0) (M := 49) (T := TX12) (o := 504) (kz := 0) hG a_504 a_504.n (by decide) hin_X12 rfl (by decide) (by decide) rfl kw_1692 rfl tyX12 tyX12_ok nmX12 rfl (ty := tyX12 0) (tyX12_ok 0 (by decide)) rfl rfl dX12_weight_2 ?_
  refine V.aload_n (pc := 5) hG dX12_weight_5 rfl 0 rfl ?_
  refine V.callVv (pc := 6) (As := []) (stk := []) hG (sm_X12_build l Δ  ((okI_st hi ((sR_l rfl)))) hw h) mY_X12_build kw_1910 kw_1912 kw_116 a_504 (by decide) (q := (RX12, TX12, 49)) rfl rfl ⟨Nat.le_of_ble_eq_true rfl, Nat.le_of_ble_eq_true rfl, Nat.le_of_ble_eq_true rfl, Nat.le_of_ble_eq_true rfl⟩ rfl (Nat.le_of_ble_eq_true rfl) dX12_weight_6 rfl (fun i57 r58 hi60 hw61 hq62 => ?_)
  obtain ⟨e88, h⟩ := hq62
  subst e88
  refine V.aload_n (pc := 9) hG dX12_weight_9 rfl 0 rfl ?_
  refine V.aload_n (pc := 10) hG dX12_weight_10 rfl 0 rfl ?_
  refine V.iload_n (pc := 11) hG dX12_weight_11 rfl 1 rfl ?_
  refine V.callVi (pc := 12) (As := [.int (sJ p1)]) (stk := [.ref (sA Δ 504)]) hG (sm_X12_noNode l Δ hp1 hi60 hw h) mY_X12_noNode kw_2068 kw_2070 kw_136 a_504 (by decide) (q := (RX12, TX12, 49)) rfl rfl ⟨Nat.le_of_ble_eq_true rfl, Nat.le_of_ble_eq_true rfl, Nat.le_of_ble_eq_true rfl, Nat.le_of_ble_eq_true rfl⟩ rfl (Nat.le_of_ble_eq_true rfl) dX12_weight_12 rfl (fun v63 i64 r65 hv66 hi67 hw68 hq69 => ?_)
  obtain ⟨e85, e86, h⟩ := hq69
  subst e85
  subst e86
  obtain ⟨f72, t71⟩ := h
  refine V.if_ne (pc := 15) (tgt := 26) hG hv66 dX12_weight_15 (by decide) (fun c70 => ?_) (fun c70 => ?_)
  · have h := t71 c70
    clear t71 f72
    exact jn26 i57 hi60 h
  · have h := f72 c70
    clear t71 f72
    refine V.aload_n (pc := 18) hG dX12_weight_18 rfl 0 rfl ?_
    refine V.iload_n (pc := 19) hG dX12_weight_19 rfl 2 rfl ?_
    refine V.callVi (pc := 20) (As := [.int (sJ p2)]) (stk := [.ref (sA Δ 504)]) hG (sm_X12_noNode l Δ hp2 hi60 hw h) mY_X12_noNode kw_2068 kw_2070 kw_136 a_504 (by decide) (q := (RX12, TX12, 49)) rfl rfl ⟨Nat.le_of_ble_eq_true rfl, Nat.le_of_ble_eq_true rfl, Nat.le_of_ble_eq_true rfl, Nat.le_of_ble_eq_true rfl⟩ rfl (Nat.le_of_ble_eq_true rfl) dX12_weight_20 rfl (fun v73 i74 r75 hv76 hi77 hw78 hq79 => ?_)
    obtain ⟨e83, e84, h⟩ := hq79
    subst e83
    subst e84
    obtain ⟨t81, f82⟩ := h
    refine V.if_eq (pc := 23) (tgt := 30) hG hv76 dX12_weight_23 (by decide) (fun c80 => ?_) (fun c80 => ?_)
    · have h := t81 c80
      clear t81 f82
      refine V.iconst (pc := 30) hG dX12_weight_30 ?_
      exact jn31 0 i57 ((sR_l rfl)) hi60 h
    · have h := f82 c80
      clear t81 f82
      exact jn26 i57 hi60 h
set_option maxRecDepth 100000 in
set_option maxHeartbeats 4000000 in
theorem sm_X12_findSoon (l : Launch) (Δ : Wd) {i r : MI}   {Q : MI → Prop} (hi : okI i) (hw : Wf r) (h : wp_X12_findSoon  i r Q) : Met l yX12_findSoon (Cond.code yX12_findSoon cX12_findSoon 3 none :: gW) (sRm 4 94) (sPc Δ [.ref (sA Δ 504)] i r) (sQv Δ (fun i' r' => r = r' ∧ Q i')) 0 0 (sFr Δ) := by
  refine Ct.v (by decide) rfl (Nat.le_of_ble_eq_true rfl) (fun Γ Q0 hG fin => ?_)
  have hG : okG Γ Δ l (sRm 4 94) cX12_findSoon "SchedularyModel" 3 := hG
  show V Γ Δ 542 false i r 0 0 Q0 0 [(0, .ref (sA Δ 504))] []
  refine V.aload_n (pc := 0) hG dX12_findSoon_0 rfl 0 rfl ?_
  refine V.callVv (pc := 1) (As := []) (stk := []) hG (sm_X12_build l Δ  hi hw h) mY_X12_build kw_1910 kw_1912 kw_116 a_504 (by decide) (q := (RX12, TX12, 49)) rfl rfl ⟨Nat.le_of_ble_eq_true rfl, Nat.le_of_ble_eq_true rfl, Nat.le_of_ble_eq_true rfl, Nat.le_of_ble_eq_true rfl⟩ rfl (Nat.le_of_ble_eq_true rfl) dX12_findSoon_1 rfl (fun i2 r3 hi5 hw6 hq7 => ?_)
  obtain ⟨e206, h⟩ := hq7
  subst e206
  refine V.aload_n (pc := 4) hG dX12_findSoon_4 rfl 0 rfl ?_
  refine V.iconst (pc := 5) hG dX12_findSoon_5 ?_
  refine V.putI (pc := 6) (ci := 14) (k := 48) (M := 49) (T := TX12) (o := 504) (kz := 48) hG a_504 a_504.n (by decide) hin_X12 rfl (by decide) (by decide) rfl kw_1740 rfl tyX12 tyX12_ok nmX12 rfl (ty := tyX12 48) (tyX12_ok 48 (by decide)) rfl rfl dX12_findSoon_6 ?_
  refine V.iconst (pc := 9) hG dX12_findSoon_9 ?_
  refine V.istore_n (pc := 10) (lv' := [(1, .int (sJ 0)), (0, .ref (sA Δ 504))]) hG dX12_findSoon_10 rfl (by decide) rfl ?_
  obtain ⟨n142, h⟩ := h
  have lp11 : ∀ (m11 : Nat) (x1_11 : Int) (i_11 : MI), sR x1_11 → okI i_11 → LoopP (b11_X12_findSoon r Q) m11 (x1_11, i_11) → V Γ Δ 542 false i_11 r 0 0 Q0 11 [(0, .ref (sA Δ 504)), (1, .int (sJ x1_11))] [] := by
    intro m11
    induction m11 with
    | zero => intro x1_11 i_11 hx1_11 hi_11 h; exact h.elim
    | succ m11 ih11 =>
      intro x1_11 i_11 hx1_11 hi_11 h
      have h := LoopP_succ h
      refine V.iload_n (pc := 11) hG dX12_findSoon_11 rfl 1 rfl ?_
      refine V.aload_n (pc := 12) hG dX12_findSoon_12 rfl 0 rfl ?_
      refine V.getI (pc := 13) (ci := 14) (k := 21) (M := 49) (T := TX12) (o := 504) (kz := 21) hG a_504 a_504.n (by decide) hin_X12 rfl (by decide) (by decide) rfl kw_1713 rfl dX12_findSoon_13 ?_
      obtain ⟨t144, f145⟩ := h
      refine V.icmp_ge (pc := 16) (tgt := 123) hG hx1_11 ((hi_11 _ _)) dX12_findSoon_16 (by decide) (fun c143 => ?_) (fun c143 => ?_)
      · have h := t144 c143
        clear t144 f145
        refine V.aload_n (pc := 123) hG dX12_findSoon_123 rfl 0 rfl ?_
        refine V.getI (pc := 124) (ci := 14) (k := 21) (M := 49) (T := TX12) (o := 504) (kz := 21) hG a_504 a_504.n (by decide) hin_X12 rfl (by decide) (by decide) rfl kw_1713 rfl dX12_findSoon_124 ?_
        refine V.iconst (pc := 127) hG dX12_findSoon_127 ?_
        refine V.isub (pc := 128) hG dX12_findSoon_128 ?_
        refine V.istore_n (pc := 129) (lv' := [(1, .int (sJ (wr (i_11 504 21 - 1)))), (0, .ref (sA Δ 504))]) hG dX12_findSoon_129 rfl (by decide) rfl ?_
        obtain ⟨n146, h⟩ := h
        have lp130 : ∀ (m130 : Nat) (x1_130 : Int) (i_130 : MI), sR x1_130 → okI i_130 → LoopP (b130_X12_findSoon r Q) m130 (x1_130, i_130) → V Γ Δ 542 false i_130 r 0 0 Q0 130 [(0, .ref (sA Δ 504)), (1, .int (sJ x1_130))] [] := by
          intro m130
          induction m130 with
          | zero => intro x1_130 i_130 hx1_130 hi_130 h; exact h.elim
          | succ m130 ih130 =>
            intro x1_130 i_130 hx1_130 hi_130 h
            have h := LoopP_succ h
            refine V.iload_n (pc := 130) hG dX12_findSoon_130 rfl 1 rfl ?_
            obtain ⟨t148, f149⟩ := h
            refine V.if_lt (pc := 131) (tgt := 224) hG hx1_130 dX12_findSoon_131 (by decide) (fun c147 => ?_) (fun c147 => ?_)
            · have h := t148 c147
              clear t148 f149
              exact fin dX12_findSoon_224 hi_130 hw ⟨rfl, h⟩
            · have h := f149 c147
              clear t148 f149
              refine V.aload_n (pc := 134) hG dX12_findSoon_134 rfl 0 rfl ?_
              refine V.getR (x := 530) (pc := 135) (ci := 14) (k := 38) (M := 49) (T := TX12) (o := 504) (kz := 38) hG a_504 a_504.n (by decide) hin_X12 rfl (by decide) (by decide) rfl kw_1730 rfl ((hw).1 (504, 38, 530) (by decide)) (by decide) dX12_findSoon_135 ?_
              refine V.iload_n (pc := 138) hG dX12_findSoon_138 rfl 1 rfl ?_
              refine V.aload_n (pc := 139) hG dX12_findSoon_139 rfl 0 rfl ?_
              refine V.getI (pc := 140) (ci := 14) (k := 48) (M := 49) (T := TX12) (o := 504) (kz := 48) hG a_504 a_504.n (by decide) hin_X12 rfl (by decide) (by decide) rfl kw_1740 rfl dX12_findSoon_140 ?_
              refine V.aload_n (pc := 143) hG dX12_findSoon_143 rfl 0 rfl ?_
              refine V.iload_n (pc := 144) hG dX12_findSoon_144 rfl 1 rfl ?_
              refine V.callVi (pc := 145) (As := [.int (sJ x1_130)]) (stk := [.int (sJ (i_130 504 48)), .int (sJ x1_130), .ref (sA Δ 530)]) hG (sm_X12_cyclesOf l Δ hx1_130 hi_130 hw h) mY_X12_cyclesOf kw_1947 kw_1949 kw_123 a_504 (by decide) (q := (RX12, TX12, 49)) rfl rfl ⟨Nat.le_of_ble_eq_true rfl, Nat.le_of_ble_eq_true rfl, Nat.le_of_ble_eq_true rfl, Nat.le_of_ble_eq_true rfl⟩ rfl (Nat.le_of_ble_eq_true rfl) dX12_findSoon_145 rfl (fun v150 i151 r152 hv153 hi154 hw155 hq156 => ?_)
              obtain ⟨e175, e176, h⟩ := hq156
              subst e175
              subst e176
              refine V.isub (pc := 148) hG dX12_findSoon_148 ?_
              obtain ⟨g157, h⟩ := h
              refine V.iast (pc := 149) (z := 96) (o := 530) hG a_530 a_530.n hx1_130 g157 dX12_findSoon_149 ?_
              refine V.iconst (pc := 150) hG dX12_findSoon_150 ?_
              refine V.istore_n (pc := 151) (lv' := [(2, .int (sJ 0)), (0, .ref (sA Δ 504)), (1, .int (sJ x1_130))]) hG dX12_findSoon_151 rfl (by decide) rfl ?_
              obtain ⟨n158, h⟩ := h
              have lp152 : ∀ (m152 : Nat) (x2_152 : Int) (i_152 : MI), sR x2_152 → okI i_152 → LoopP (b152_X12_findSoon x1_130 r Q (LoopP (b130_X12_findSoon r Q) m130)) m152 (x2_152, i_152) → V Γ Δ 542 false i_152 r 0 0 Q0 152 [(0, .ref (sA Δ 504)), (1, .int (sJ x1_130)), (2, .int (sJ x2_152))] [] := by
                intro m152
                induction m152 with
                | zero => intro x2_152 i_152 hx2_152 hi_152 h; exact h.elim
                | succ m152 ih152 =>
                  intro x2_152 i_152 hx2_152 hi_152 h
                  have h := LoopP_succ h
                  have jn212 : ∀ (x2j212 : Int) (ij212 : MI), sR x2j212 → okI ij212 → s212_X12_findSoon x1_130 x2j212 ij212 r Q (LoopP (b130_X12_findSoon r Q) m130) (LoopP (b152_X12_findSoon x1_130 r Q (LoopP (b130_X12_findSoon r Q) m130)) m152) → V Γ Δ 542 false ij212 r 0 0 Q0 212 [(0, .ref (sA Δ 504)), (1, .int (sJ x1_130)), (2, .int (sJ x2j212))] [] := by
                    intro x2j212 ij212 hx2j212 hij212 h
                    refine V.iinc (pc := 212) (lv' := [(2, .int (sJ (wr (x2j212 + 1)))), (0, .ref (sA Δ 504)), (1, .int (sJ x1_130))]) hG dX12_findSoon_212 2 rfl (by decide) rfl ?_
                    refine V.goto (pc := 215) (tgt := 152) hG dX12_findSoon_215 (by decide) ?_
                    refine V.pick [1, 2, 0] rfl ?_
                    exact ih152 (wr (x2j212 + 1)) ij212 ((sR_wr _)) hij212 h
                  refine V.iload_n (pc := 152) hG dX12_findSoon_152 rfl 2 rfl ?_
                  refine V.aload_n (pc := 153) hG dX12_findSoon_153 rfl 0 rfl ?_
                  refine V.getI (pc := 154) (ci := 14) (k := 30) (M := 49) (T := TX12) (o := 504) (kz := 30) hG a_504 a_504.n (by decide) hin_X12 rfl (by decide) (by decide) rfl kw_1722 rfl dX12_findSoon_154 ?_
                  obtain ⟨t160, f161⟩ := h
                  refine V.icmp_ge (pc := 157) (tgt := 218) hG hx2_152 ((hi_152 _ _)) dX12_findSoon_157 (by decide) (fun c159 => ?_) (fun c159 => ?_)
                  · have h := t160 c159
                    clear t160 f161
                    refine V.iinc (pc := 218) (lv' := [(1, .int (sJ (wr (x1_130 + (-1))))), (0, .ref (sA Δ 504)), (2, .int (sJ x2_152))]) hG dX12_findSoon_218 1 rfl (by decide) rfl ?_
                    refine V.goto (pc := 221) (tgt := 130) hG dX12_findSoon_221 (by decide) ?_
                    refine V.pick [1, 0] rfl ?_
                    exact ih130 (wr (x1_130 + (-1))) i_152 ((sR_wr _)) hi_152 h
                  · have h := f161 c159
                    clear t160 f161
                    refine V.aload_n (pc := 160) hG dX12_findSoon_160 rfl 0 rfl ?_
                    refine V.getR (x := 523) (pc := 161) (ci := 14) (k := 31) (M := 49) (T := TX12) (o := 504) (kz := 31) hG a_504 a_504.n (by decide) hin_X12 rfl (by decide) (by decide) rfl kw_1723 rfl ((hw).1 (504, 31, 523) (by decide)) (by decide) dX12_findSoon_161 ?_
                    refine V.iload_n (pc := 164) hG dX12_findSoon_164 rfl 2 rfl ?_
                    obtain ⟨g162, h⟩ := h
                    refine V.iald (pc := 165) (z := 20000) (o := 523) hG a_523 a_523.n hx2_152 g162 dX12_findSoon_165 ?_
                    refine V.iload_n (pc := 166) hG dX12_findSoon_166 rfl 1 rfl ?_
                    obtain ⟨f165, t164⟩ := h
                    refine V.icmp_ne (pc := 167) (tgt := 212) hG ((hi_152 _ _)) hx1_130 dX12_findSoon_167 (by decide) (fun c163 => ?_) (fun c163 => ?_)
                    · have h := t164 c163
                      clear t164 f165
                      exact jn212 x2_152 i_152 hx2_152 hi_152 h
                    · have h := f165 c163
                      clear t164 f165
                      refine V.aload_n (pc := 170) hG dX12_findSoon_170 rfl 0 rfl ?_
                      refine V.getR (x := 525) (pc := 171) (ci := 14) (k := 33) (M := 49) (T := TX12) (o := 504) (kz := 33) hG a_504 a_504.n (by decide) hin_X12 rfl (by decide) (by decide) rfl kw_1725 rfl ((hw).1 (504, 33, 525) (by decide)) (by decide) dX12_findSoon_171 ?_
                      refine V.iload_n (pc := 174) hG dX12_findSoon_174 rfl 2 rfl ?_
                      obtain ⟨g166, h⟩ := h
                      refine V.iald (pc := 175) (z := 20000) (o := 525) hG a_525 a_525.n hx2_152 g166 dX12_findSoon_175 ?_
                      obtain ⟨f169, t168⟩ := h
                      refine V.if_ne (pc := 176) (tgt := 212) hG ((hi_152 _ _)) dX12_findSoon_176 (by decide) (fun c167 => ?_) (fun c167 => ?_)
                      · have h := t168 c167
                        clear t168 f169
                        exact jn212 x2_152 i_152 hx2_152 hi_152 h
                      · have h := f169 c167
                        clear t168 f169
                        refine V.aload_n (pc := 179) hG dX12_findSoon_179 rfl 0 rfl ?_
                        refine V.getR (x := 530) (pc := 180) (ci := 14) (k := 38) (M := 49) (T := TX12) (o := 504) (kz := 38) hG a_504 a_504.n (by decide) hin_X12 rfl (by decide) (by decide) rfl kw_1730 rfl ((hw).1 (504, 38, 530) (by decide)) (by decide) dX12_findSoon_180 ?_
                        refine V.iload_n (pc := 183) hG dX12_findSoon_183 rfl 1 rfl ?_
                        refine V.aload_n (pc := 184) hG dX12_findSoon_184 rfl 0 rfl ?_
                        refine V.getR (x := 530) (pc := 185) (ci := 14) (k := 38) (M := 49) (T := TX12) (o := 504) (kz := 38) hG a_504 a_504.n (by decide) hin_X12 rfl (by decide) (by decide) rfl kw_1730 rfl ((hw).1 (504, 38, 530) (by decide)) (by decide) dX12_findSoon_185 ?_
                        refine V.iload_n (pc := 188) hG dX12_findSoon_188 rfl 1 rfl ?_
                        obtain ⟨g170, h⟩ := h
                        refine V.iald (pc := 189) (z := 96) (o := 530) hG a_530 a_530.n hx1_130 g170 dX12_findSoon_189 ?_
                        refine V.aload_n (pc := 190) hG dX12_findSoon_190 rfl 0 rfl ?_
                        refine V.getR (x := 530) (pc := 191) (ci := 14) (k := 38) (M := 49) (T := TX12) (o := 504) (kz := 38) hG a_504 a_504.n (by decide) hin_X12 rfl (by decide) (by decide) rfl kw_1730 rfl ((hw).1 (504, 38, 530) (by decide)) (by decide) dX12_findSoon_191 ?_
                        refine V.aload_n (pc := 194) hG dX12_findSoon_194 rfl 0 rfl ?_
                        refine V.getR (x := 524) (pc := 195) (ci := 14) (k := 32) (M := 49) (T := TX12) (o := 504) (kz := 32) hG a_504 a_504.n (by decide) hin_X12 rfl (by decide) (by decide) rfl kw_1724 rfl ((hw).1 (504, 32, 524) (by decide)) (by decide) dX12_findSoon_195 ?_
                        refine V.iload_n (pc := 198) hG dX12_findSoon_198 rfl 2 rfl ?_
                        obtain ⟨g171, h⟩ := h
                        refine V.iald (pc := 199) (z := 20000) (o := 524) hG a_524 a_524.n hx2_152 g171 dX12_findSoon_199 ?_
                        obtain ⟨g172, h⟩ := h
                        refine V.iald (pc := 200) (z := 96) (o := 530) hG a_530 a_530.n ((hi_152 _ _)) g172 dX12_findSoon_200 ?_
                        refine V.aload_n (pc := 201) hG dX12_findSoon_201 rfl 0 rfl ?_
                        refine V.getR (x := 526) (pc := 202) (ci := 14) (k := 34) (M := 49) (T := TX12) (o := 504) (kz := 34) hG a_504 a_504.n (by decide) hin_X12 rfl (by decide) (by decide) rfl kw_1726 rfl ((hw).1 (504, 34, 526) (by decide)) (by decide) dX12_findSoon_202 ?_
                        refine V.iload_n (pc := 205) hG dX12_findSoon_205 rfl 2 rfl ?_
                        obtain ⟨g173, h⟩ := h
                        refine V.iald (pc := 206) (z := 20000) (o := 526) hG a_526 a_526.n hx2_152 g173 dX12_findSoon_206 ?_
                        refine V.isub (pc := 207) hG dX12_findSoon_207 ?_
                        refine V.mmin (pc := 208) hG ((hi_152 _ _)) ((sR_wr _)) kw_2059 kw_683 kw_173 kw_min ⟨Nat.le_of_ble_eq_true rfl, Nat.le_of_ble_eq_true rfl, Nat.le_of_ble_eq_true rfl, Nat.le_of_ble_eq_true rfl⟩ dX12_findSoon_208 ?_
                        obtain ⟨g174, h⟩ := h
                        refine V.iast (pc := 211) (z := 96) (o := 530) hG a_530 a_530.n hx1_130 g174 dX12_findSoon_211 ?_
                        exact jn212 x2_152 (st i_152 530 x1_130 (min (i_152 530 x1_130) (wr (i_152 530 (i_152 524 x2_152) - i_152 526 x2_152)))) hx2_152 ((okI_st hi_152 ((sR_min ((hi_152 _ _)) ((sR_wr _)))))) h
              refine V.pick [1, 2, 0] rfl ?_
              exact lp152 n158 0 (st i_130 530 x1_130 (wr (i_130 504 48 - v150))) ((sR_l rfl)) ((okI_st hi_130 ((sR_wr _)))) h
        refine V.pick [1, 0] rfl ?_
        exact lp130 n146 (wr (i_11 504 21 - 1)) i_11 ((sR_wr _)) hi_11 h
      · have h := f145 c143
        clear t144 f145
        refine V.aload_n (pc := 19) hG dX12_findSoon_19 rfl 0 rfl ?_
        refine V.getR (x := 529) (pc := 20) (ci := 14) (k := 37) (M := 49) (T := TX12) (o := 504) (kz := 37) hG a_504 a_504.n (by decide) hin_X12 rfl (by decide) (by decide) rfl kw_1729 rfl ((hw).1 (504, 37, 529) (by decide)) (by decide) dX12_findSoon_20 ?_
        refine V.iload_n (pc := 23) hG dX12_findSoon_23 rfl 1 rfl ?_
        refine V.iconst (pc := 24) hG dX12_findSoon_24 ?_
        obtain ⟨g177, h⟩ := h
        refine V.iast (pc := 25) (z := 96) (o := 529) hG a_529 a_529.n hx1_11 g177 dX12_findSoon_25 ?_
        refine V.iconst (pc := 26) hG dX12_findSoon_26 ?_
        refine V.istore_n (pc := 27) (lv' := [(2, .int (sJ 0)), (0, .ref (sA Δ 504)), (1, .int (sJ x1_11))]) hG dX12_findSoon_27 rfl (by decide) rfl ?_
        obtain ⟨n178, h⟩ := h
        have lp28 : ∀ (m28 : Nat) (x2_28 : Int) (i_28 : MI), sR x2_28 → okI i_28 → LoopP (b28_X12_findSoon x1_11 r Q (LoopP (b11_X12_findSoon r Q) m11)) m28 (x2_28, i_28) → V Γ Δ 542 false i_28 r 0 0 Q0 28 [(0, .ref (sA Δ 504)), (1, .int (sJ x1_11)), (2, .int (sJ x2_28))] [] := by
          intro m28
          induction m28 with
          | zero => intro x2_28 i_28 hx2_28 hi_28 h; exact h.elim
          | succ m28 ih28 =>
            intro x2_28 i_28 hx2_28 hi_28 h
            have h := LoopP_succ h
            have jn88 : ∀ (x2j88 : Int) (ij88 : MI), sR x2j88 → okI ij88 → s88_X12_findSoon x1_11 x2j88 ij88 r Q (LoopP (b11_X12_findSoon r Q) m11) (LoopP (b28_X12_findSoon x1_11 r Q (LoopP (b11_X12_findSoon r Q) m11)) m28) → V Γ Δ 542 false ij88 r 0 0 Q0 88 [(0, .ref (sA Δ 504)), (1, .int (sJ x1_11)), (2, .int (sJ x2j88))] [] := by
              intro x2j88 ij88 hx2j88 hij88 h
              refine V.iinc (pc := 88) (lv' := [(2, .int (sJ (wr (x2j88 + 1)))), (0, .ref (sA Δ 504)), (1, .int (sJ x1_11))]) hG dX12_findSoon_88 2 rfl (by decide) rfl ?_
              refine V.goto (pc := 91) (tgt := 28) hG dX12_findSoon_91 (by decide) ?_
              refine V.pick [1, 2, 0] rfl ?_
              exact ih28 (wr (x2j88 + 1)) ij88 ((sR_wr _)) hij88 h
            refine V.iload_n (pc := 28) hG dX12_findSoon_28 rfl 2 rfl ?_
            refine V.aload_n (pc := 29) hG dX12_findSoon_29 rfl 0 rfl ?_
            refine V.getI (pc := 30) (ci := 14) (k := 30) (M := 49) (T := TX12) (o := 504) (kz := 30) hG a_504 a_504.n (by decide) hin_X12 rfl (by decide) (by decide) rfl kw_1722 rfl dX12_findSoon_30 ?_
            obtain ⟨t180, f181⟩ := h
            refine V.icmp_ge (pc := 33) (tgt := 94) hG hx2_28 ((hi_28 _ _)) dX12_findSoon_33 (by decide) (fun c179 => ?_) (fun c179 => ?_)
            · have h := t180 c179
              clear t180 f181
              refine V.aload_n (pc := 94) hG dX12_findSoon_94 rfl 0 rfl ?_
              refine V.aload_n (pc := 95) hG dX12_findSoon_95 rfl 0 rfl ?_
              refine V.getI (pc := 96) (ci := 14) (k := 48) (M := 49) (T := TX12) (o := 504) (kz := 48) hG a_504 a_504.n (by decide) hin_X12 rfl (by decide) (by decide) rfl kw_1740 rfl dX12_findSoon_96 ?_
              refine V.aload_n (pc := 99) hG dX12_findSoon_99 rfl 0 rfl ?_
              refine V.getR (x := 529) (pc := 100) (ci := 14) (k := 37) (M := 49) (T := TX12) (o := 504) (kz := 37) hG a_504 a_504.n (by decide) hin_X12 rfl (by decide) (by decide) rfl kw_1729 rfl ((hw).1 (504, 37, 529) (by decide)) (by decide) dX12_findSoon_100 ?_
              refine V.iload_n (pc := 103) hG dX12_findSoon_103 rfl 1 rfl ?_
              obtain ⟨g182, h⟩ := h
              refine V.iald (pc := 104) (z := 96) (o := 529) hG a_529 a_529.n hx1_11 g182 dX12_findSoon_104 ?_
              refine V.aload_n (pc := 105) hG dX12_findSoon_105 rfl 0 rfl ?_
              refine V.iload_n (pc := 106) hG dX12_findSoon_106 rfl 1 rfl ?_
              refine V.callVi (pc := 107) (As := [.int (sJ x1_11)]) (stk := [.int (sJ (i_28 529 x1_11)), .int (sJ (i_28 504 48)), .ref (sA Δ 504)]) hG (sm_X12_cyclesOf l Δ hx1_11 hi_28 hw h) mY_X12_cyclesOf kw_1947 kw_1949 kw_123 a_504 (by decide) (q := (RX12, TX12, 49)) rfl rfl ⟨Nat.le_of_ble_eq_true rfl, Nat.le_of_ble_eq_true rfl, Nat.le_of_ble_eq_true rfl, Nat.le_of_ble_eq_true rfl⟩ rfl (Nat.le_of_ble_eq_true rfl) dX12_findSoon_107 rfl (fun v183 i184 r185 hv186 hi187 hw188 hq189 => ?_)
              obtain ⟨e190, e191, h⟩ := hq189
              subst e190
              subst e191
              refine V.iadd (pc := 110) hG dX12_findSoon_110 ?_
              refine V.mmax (pc := 111) hG ((hi_28 _ _)) ((sR_wr _)) kw_1955 kw_680 kw_173 kw_max ⟨Nat.le_of_ble_eq_true rfl, Nat.le_of_ble_eq_true rfl, Nat.le_of_ble_eq_true rfl, Nat.le_of_ble_eq_true rfl⟩ dX12_findSoon_111 ?_
              refine V.putI (pc := 114) (ci := 14) (k := 48) (M := 49) (T := TX12) (o := 504) (kz := 48) hG a_504 a_504.n (by decide) hin_X12 rfl (by decide) (by decide) rfl kw_1740 rfl tyX12 tyX12_ok nmX12 rfl (ty := tyX12 48) (tyX12_ok 48 (by decide)) rfl rfl dX12_findSoon_114 ?_
              refine V.iinc (pc := 117) (lv' := [(1, .int (sJ (wr (x1_11 + 1)))), (0, .ref (sA Δ 504)), (2, .int (sJ x2_28))]) hG dX12_findSoon_117 1 rfl (by decide) rfl ?_
              refine V.goto (pc := 120) (tgt := 11) hG dX12_findSoon_120 (by decide) ?_
              refine V.pick [1, 0] rfl ?_
              exact ih11 (wr (x1_11 + 1)) (st i_28 504 48 (max (i_28 504 48) (wr (i_28 529 x1_11 + v183)))) ((sR_wr _)) ((okI_st hi_28 ((sR_max ((hi_28 _ _)) ((sR_wr _)))))) h
            · have h := f181 c179
              clear t180 f181
              refine V.aload_n (pc := 36) hG dX12_findSoon_36 rfl 0 rfl ?_
              refine V.getR (x := 524) (pc := 37) (ci := 14) (k := 32) (M := 49) (T := TX12) (o := 504) (kz := 32) hG a_504 a_504.n (by decide) hin_X12 rfl (by decide) (by decide) rfl kw_1724 rfl ((hw).1 (504, 32, 524) (by decide)) (by decide) dX12_findSoon_37 ?_
              refine V.iload_n (pc := 40) hG dX12_findSoon_40 rfl 2 rfl ?_
              obtain ⟨g192, h⟩ := h
              refine V.iald (pc := 41) (z := 20000) (o := 524) hG a_524 a_524.n hx2_28 g192 dX12_findSoon_41 ?_
              refine V.iload_n (pc := 42) hG dX12_findSoon_42 rfl 1 rfl ?_
              obtain ⟨f195, t194⟩ := h
              refine V.icmp_ne (pc := 43) (tgt := 88) hG ((hi_28 _ _)) hx1_11 dX12_findSoon_43 (by decide) (fun c193 => ?_) (fun c193 => ?_)
              · have h := t194 c193
                clear t194 f195
                exact jn88 x2_28 i_28 hx2_28 hi_28 h
              · have h := f195 c193
                clear t194 f195
                refine V.aload_n (pc := 46) hG dX12_findSoon_46 rfl 0 rfl ?_
                refine V.getR (x := 525) (pc := 47) (ci := 14) (k := 33) (M := 49) (T := TX12) (o := 504) (kz := 33) hG a_504 a_504.n (by decide) hin_X12 rfl (by decide) (by decide) rfl kw_1725 rfl ((hw).1 (504, 33, 525) (by decide)) (by decide) dX12_findSoon_47 ?_
                refine V.iload_n (pc := 50) hG dX12_findSoon_50 rfl 2 rfl ?_
                obtain ⟨g196, h⟩ := h
                refine V.iald (pc := 51) (z := 20000) (o := 525) hG a_525 a_525.n hx2_28 g196 dX12_findSoon_51 ?_
                obtain ⟨f199, t198⟩ := h
                refine V.if_ne (pc := 52) (tgt := 88) hG ((hi_28 _ _)) dX12_findSoon_52 (by decide) (fun c197 => ?_) (fun c197 => ?_)
                · have h := t198 c197
                  clear t198 f199
                  exact jn88 x2_28 i_28 hx2_28 hi_28 h
                · have h := f199 c197
                  clear t198 f199
                  refine V.aload_n (pc := 55) hG dX12_findSoon_55 rfl 0 rfl ?_
                  refine V.getR (x := 529) (pc := 56) (ci := 14) (k := 37) (M := 49) (T := TX12) (o := 504) (kz := 37) hG a_504 a_504.n (by decide) hin_X12 rfl (by decide) (by decide) rfl kw_1729 rfl ((hw).1 (504, 37, 529) (by decide)) (by decide) dX12_findSoon_56 ?_
                  refine V.iload_n (pc := 59) hG dX12_findSoon_59 rfl 1 rfl ?_
                  refine V.aload_n (pc := 60) hG dX12_findSoon_60 rfl 0 rfl ?_
                  refine V.getR (x := 529) (pc := 61) (ci := 14) (k := 37) (M := 49) (T := TX12) (o := 504) (kz := 37) hG a_504 a_504.n (by decide) hin_X12 rfl (by decide) (by decide) rfl kw_1729 rfl ((hw).1 (504, 37, 529) (by decide)) (by decide) dX12_findSoon_61 ?_
                  refine V.iload_n (pc := 64) hG dX12_findSoon_64 rfl 1 rfl ?_
                  obtain ⟨g200, h⟩ := h
                  refine V.iald (pc := 65) (z := 96) (o := 529) hG a_529 a_529.n hx1_11 g200 dX12_findSoon_65 ?_
                  refine V.aload_n (pc := 66) hG dX12_findSoon_66 rfl 0 rfl ?_
                  refine V.getR (x := 529) (pc := 67) (ci := 14) (k := 37) (M := 49) (T := TX12) (o := 504) (kz := 37) hG a_504 a_504.n (by decide) hin_X12 rfl (by decide) (by decide) rfl kw_1729 rfl ((hw).1 (504, 37, 529) (by decide)) (by decide) dX12_findSoon_67 ?_
                  refine V.aload_n (pc := 70) hG dX12_findSoon_70 rfl 0 rfl ?_
                  refine V.getR (x := 523) (pc := 71) (ci := 14) (k := 31) (M := 49) (T := TX12) (o := 504) (kz := 31) hG a_504 a_504.n (by decide) hin_X12 rfl (by decide) (by decide) rfl kw_1723 rfl ((hw).1 (504, 31, 523) (by decide)) (by decide) dX12_findSoon_71 ?_
                  refine V.iload_n (pc := 74) hG dX12_findSoon_74 rfl 2 rfl ?_
                  obtain ⟨g201, h⟩ := h
                  refine V.iald (pc := 75) (z := 20000) (o := 523) hG a_523 a_523.n hx2_28 g201 dX12_findSoon_75 ?_
                  obtain ⟨g202, h⟩ := h
                  refine V.iald (pc := 76) (z := 96) (o := 529) hG a_529 a_529.n ((hi_28 _ _)) g202 dX12_findSoon_76 ?_
                  refine V.aload_n (pc := 77) hG dX12_findSoon_77 rfl 0 rfl ?_
                  refine V.getR (x := 526) (pc := 78) (ci := 14) (k := 34) (M := 49) (T := TX12) (o := 504) (kz := 34) hG a_504 a_504.n (by decide) hin_X12 rfl (by decide) (by decide) rfl kw_1726 rfl ((hw).1 (504, 34, 526) (by decide)) (by decide) dX12_findSoon_78 ?_
                  refine V.iload_n (pc := 81) hG dX12_findSoon_81 rfl 2 rfl ?_
                  obtain ⟨g203, h⟩ := h
                  refine V.iald (pc := 82) (z := 20000) (o := 526) hG a_526 a_526.n hx2_28 g203 dX12_findSoon_82 ?_
                  refine V.iadd (pc := 83) hG dX12_findSoon_83 ?_
                  refine V.mmax (pc := 84) hG ((hi_28 _ _)) ((sR_wr _)) kw_1955 kw_680 kw_173 kw_max ⟨Nat.le_of_ble_eq_true rfl, Nat.le_of_ble_eq_true rfl, Nat.le_of_ble_eq_true rfl, Nat.le_of_ble_eq_true rfl⟩ dX12_findSoon_84 ?_
                  obtain ⟨g204, h⟩ := h
                  refine V.iast (pc := 87) (z := 96) (o := 529) hG a_529 a_529.n hx1_11 g204 dX12_findSoon_87 ?_
                  exact jn88 x2_28 (st i_28 529 x1_11 (max (i_28 529 x1_11) (wr (i_28 529 (i_28 523 x2_28) + i_28 526 x2_28)))) hx2_28 ((okI_st hi_28 ((sR_max ((hi_28 _ _)) ((sR_wr _)))))) h
        refine V.pick [1, 2, 0] rfl ?_
        exact lp28 n178 0 (st i_11 529 x1_11 0) ((sR_l rfl)) ((okI_st hi_11 ((sR_l rfl)))) h
  refine V.pick [1, 0] rfl ?_
  exact lp11 n142 0 (st i2 504 48 0) ((sR_l rfl)) ((okI_st hi5 ((sR_l rfl)))) h
set_option maxRecDepth 100000 in
set_option maxHeartbeats 4000000 in
theorem sm_X12_canBegin (l : Launch) (Δ : Wd) {i r : MI} {p1 : Int} {p2 : Int} (hp1 : sR p1) (hp2 : sR p2) {Q : Int → Prop} (hi : okI i) (hw : Wf r) (h : wp_X12_canBegin p1 p2 i r Q) : Met l yX12_canBegin (Cond.code yX12_canBegin cX12_canBegin 6 (some .boolean) :: gW) (sRm 0 0) (sPc Δ [.ref (sA Δ 504), .int (sJ p1), .int (sJ p2)] i r) (sQi Δ (fun x i' r' => i = i' ∧ r = r' ∧ Q x)) 0 0 (sFr Δ) := by
  refine Ct.i (ty := .boolean) (by decide) rfl (Nat.le_of_ble_eq_true rfl) (fun Γ Q0 hG fin => ?_)
  have hG : okG Γ Δ l (sRm 0 0) cX12_canBegin "SchedularyModel" 6 := hG
  show V Γ Δ 542 false i r 0 0 Q0 0 [(0, .ref (sA Δ 504)), (1, .int (sJ p1)), (2, .int (sJ p2))] []
  have jn191 : ∀ (k0j191 : Int), sR k0j191 → s191_X12_canBegin k0j191 i r Q → V Γ Δ 542 false i r 0 0 Q0 191 [] [.int (sJ k0j191)] := by
    intro k0j191 hk0j191 h
    obtain ⟨g2, h⟩ := h
    exact fin dX12_canBegin_191 hk0j191 (nar_z g2) hi hw ⟨rfl, rfl, h⟩
  have jn190 : s190_X12_canBegin i r Q → V Γ Δ 542 false i r 0 0 Q0 190 [] [] := by
    intro h
    refine V.iconst (pc := 190) hG dX12_canBegin_190 ?_
    exact jn191 0 ((sR_l rfl)) h
  have jn166 : ∀ (x3j166 : Int) (x4j166 : Int), sR x3j166 → sR x4j166 → s166_X12_canBegin p1 x3j166 x4j166 i r Q → V Γ Δ 542 false i r 0 0 Q0 166 [(0, .ref (sA Δ 504)), (1, .int (sJ p1)), (3, .int (sJ x3j166)), (4, .int (sJ x4j166))] [] := by
    intro x3j166 x4j166 hx3j166 hx4j166 h
    refine V.iload_n (pc := 166) hG dX12_canBegin_166 rfl 2 rfl ?_
    obtain ⟨t12, f13⟩ := h
    refine V.if_eq (pc := 167) (tgt := 190) hG hx3j166 dX12_canBegin_167 (by decide) (fun c11 => ?_) (fun c11 => ?_)
    · have h := t12 c11
      clear t12 f13
      refine V.pick [] rfl ?_
      exact jn190 h
    · have h := f13 c11
      clear t12 f13
      refine V.iload (pc := 170) hG dX12_canBegin_170 3 rfl ?_
      refine V.aload_n (pc := 172) hG dX12_canBegin_172 rfl 0 rfl ?_
      refine V.getR (x := 510) (pc := 173) (ci := 14) (k := 14) (M := 49) (T := TX12) (o := 504) (kz := 14) hG a_504 a_504.n (by decide) hin_X12 rfl (by decide) (by decide) rfl kw_1706 rfl ((hw).1 (504, 14, 510) (by decide)) (by decide) dX12_canBegin_173 ?_
      refine V.aload_n (pc := 176) hG dX12_canBegin_176 rfl 0 rfl ?_
      refine V.getR (x := 517) (pc := 177) (ci := 14) (k := 24) (M := 49) (T := TX12) (o := 504) (kz := 24) hG a_504 a_504.n (by decide) hin_X12 rfl (by decide) (by decide) rfl kw_1716 rfl ((hw).1 (504, 24, 517) (by decide)) (by decide) dX12_canBegin_177 ?_
      refine V.iload_n (pc := 180) hG dX12_canBegin_180 rfl 1 rfl ?_
      obtain ⟨g14, h⟩ := h
      refine V.iald (pc := 181) (z := 96) (o := 517) hG a_517 a_517.n hp1 g14 dX12_canBegin_181 ?_
      obtain ⟨g15, h⟩ := h
      refine V.iald (pc := 182) (z := 7) (o := 510) hG a_510 a_510.n ((hi _ _)) g15 dX12_canBegin_182 ?_
      obtain ⟨t17, f18⟩ := h
      refine V.icmp_ge (pc := 183) (tgt := 190) hG hx4j166 ((hi _ _)) dX12_canBegin_183 (by decide) (fun c16 => ?_) (fun c16 => ?_)
      · have h := t17 c16
        clear t17 f18
        refine V.pick [] rfl ?_
        exact jn190 h
      · have h := f18 c16
        clear t17 f18
        refine V.iconst (pc := 186) hG dX12_canBegin_186 ?_
        refine V.goto (pc := 187) (tgt := 191) hG dX12_canBegin_187 (by decide) ?_
        refine V.pick [] rfl ?_
        exact jn191 1 ((sR_l rfl)) h
  have jn104 : ∀ (x3j104 : Int), sR x3j104 → s104_X12_canBegin p1 p2 x3j104 i r Q → V Γ Δ 542 false i r 0 0 Q0 104 [(0, .ref (sA Δ 504)), (1, .int (sJ p1)), (2, .int (sJ p2)), (3, .int (sJ x3j104))] [] := by
    intro x3j104 hx3j104 h
    refine V.iconst (pc := 104) hG dX12_canBegin_104 ?_
    refine V.istore (pc := 105) (lv' := [(4, .int (sJ 0)), (0, .ref (sA Δ 504)), (1, .int (sJ p1)), (2, .int (sJ p2)), (3, .int (sJ x3j104))]) hG dX12_canBegin_105 (by decide) rfl ?_
    refine V.iconst (pc := 107) hG dX12_canBegin_107 ?_
    refine V.istore (pc := 108) (lv' := [(5, .int (sJ 0)), (4, .int (sJ 0)), (0, .ref (sA Δ 504)), (1, .int (sJ p1)), (2, .int (sJ p2)), (3, .int (sJ x3j104))]) hG dX12_canBegin_108 (by decide) rfl ?_
    obtain ⟨n50, h⟩ := h
    have lp110 : ∀ (m110 : Nat) (x4_110 : Int) (x5_110 : Int), sR x4_110 → sR x5_110 → LoopP (b110_X12_canBegin p1 p2 x3j104 i r Q) m110 (x4_110, x5_110) → V Γ Δ 542 false i r 0 0 Q0 110 [(0, .ref (sA Δ 504)), (1, .int (sJ p1)), (2, .int (sJ p2)), (3, .int (sJ x3j104)), (4, .int (sJ x4_110)), (5, .int (sJ x5_110))] [] := by
      intro m110
      induction m110 with
      | zero => intro x4_110 x5_110 hx4_110 hx5_110 h; exact h.elim
      | succ m110 ih110 =>
        intro x4_110 x5_110 hx4_110 hx5_110 h
        have h := LoopP_succ h
        have jn157 : ∀ (x5j157 : Int) (k0j157 : Int) (k1j157 : Int), sR x5j157 → sR k0j157 → sR k1j157 → s157_X12_canBegin p1 p2 x3j104 x5j157 k0j157 k1j157 i r Q (LoopP (b110_X12_canBegin p1 p2 x3j104 i r Q) m110) → V Γ Δ 542 false i r 0 0 Q0 157 [(0, .ref (sA Δ 504)), (1, .int (sJ p1)), (2, .int (sJ p2)), (3, .int (sJ x3j104)), (5, .int (sJ x5j157))] [.int (sJ k1j157), .int (sJ k0j157)] := by
          intro x5j157 k0j157 k1j157 hx5j157 hk0j157 hk1j157 h
          refine V.iadd (pc := 157) hG dX12_canBegin_157 ?_
          refine V.istore (pc := 158) (lv' := [(4, .int (sJ (wr (k0j157 + k1j157)))), (0, .ref (sA Δ 504)), (1, .int (sJ p1)), (2, .int (sJ p2)), (3, .int (sJ x3j104)), (5, .int (sJ x5j157))]) hG dX12_canBegin_158 (by decide) rfl ?_
          refine V.iinc (pc := 160) (lv' := [(5, .int (sJ (wr (x5j157 + 1)))), (4, .int (sJ (wr (k0j157 + k1j157)))), (0, .ref (sA Δ 504)), (1, .int (sJ p1)), (2, .int (sJ p2)), (3, .int (sJ x3j104))]) hG dX12_canBegin_160 5 rfl (by decide) rfl ?_
          refine V.goto (pc := 163) (tgt := 110) hG dX12_canBegin_163 (by decide) ?_
          refine V.pick [2, 3, 4, 5, 1, 0] rfl ?_
          exact ih110 (wr (k0j157 + k1j157)) (wr (x5j157 + 1)) ((sR_wr _)) ((sR_wr _)) h
        have jn156 : ∀ (x5j156 : Int) (k0j156 : Int), sR x5j156 → sR k0j156 → s156_X12_canBegin p1 p2 x3j104 x5j156 k0j156 i r Q (LoopP (b110_X12_canBegin p1 p2 x3j104 i r Q) m110) → V Γ Δ 542 false i r 0 0 Q0 156 [(0, .ref (sA Δ 504)), (1, .int (sJ p1)), (2, .int (sJ p2)), (3, .int (sJ x3j104)), (5, .int (sJ x5j156))] [.int (sJ k0j156)] := by
          intro x5j156 k0j156 hx5j156 hk0j156 h
          refine V.iconst (pc := 156) hG dX12_canBegin_156 ?_
          exact jn157 x5j156 k0j156 0 hx5j156 hk0j156 ((sR_l rfl)) h
        refine V.iload (pc := 110) hG dX12_canBegin_110 5 rfl ?_
        refine V.aload_n (pc := 112) hG dX12_canBegin_112 rfl 0 rfl ?_
        refine V.getI (pc := 113) (ci := 14) (k := 21) (M := 49) (T := TX12) (o := 504) (kz := 21) hG a_504 a_504.n (by decide) hin_X12 rfl (by decide) (by decide) rfl kw_1713 rfl dX12_canBegin_113 ?_
        obtain ⟨t52, f53⟩ := h
        refine V.icmp_ge (pc := 116) (tgt := 166) hG hx5_110 ((hi _ _)) dX12_canBegin_116 (by decide) (fun c51 => ?_) (fun c51 => ?_)
        · have h := t52 c51
          clear t52 f53
          refine V.pick [0, 1, 3, 4] rfl ?_
          exact jn166 x3j104 x4_110 hx3j104 hx4_110 h
        · have h := f53 c51
          clear t52 f53
          refine V.iload_n (pc := 119) hG dX12_canBegin_119 rfl 3 rfl ?_
          obtain ⟨t55, f56⟩ := h
          refine V.if_eq (pc := 120) (tgt := 166) hG hx3j104 dX12_canBegin_120 (by decide) (fun c54 => ?_) (fun c54 => ?_)
          · have h := t55 c54
            clear t55 f56
            refine V.pick [0, 1, 3, 4] rfl ?_
            exact jn166 x3j104 x4_110 hx3j104 hx4_110 h
          · have h := f56 c54
            clear t55 f56
            refine V.iload (pc := 123) hG dX12_canBegin_123 4 rfl ?_
            refine V.aload_n (pc := 125) hG dX12_canBegin_125 rfl 0 rfl ?_
            refine V.getR (x := 517) (pc := 126) (ci := 14) (k := 24) (M := 49) (T := TX12) (o := 504) (kz := 24) hG a_504 a_504.n (by decide) hin_X12 rfl (by decide) (by decide) rfl kw_1716 rfl ((hw).1 (504, 24, 517) (by decide)) (by decide) dX12_canBegin_126 ?_
            refine V.iload (pc := 129) hG dX12_canBegin_129 5 rfl ?_
            obtain ⟨g57, h⟩ := h
            refine V.iald (pc := 131) (z := 96) (o := 517) hG a_517 a_517.n hx5_110 g57 dX12_canBegin_131 ?_
            refine V.aload_n (pc := 132) hG dX12_canBegin_132 rfl 0 rfl ?_
            refine V.getR (x := 517) (pc := 133) (ci := 14) (k := 24) (M := 49) (T := TX12) (o := 504) (kz := 24) hG a_504 a_504.n (by decide) hin_X12 rfl (by decide) (by decide) rfl kw_1716 rfl ((hw).1 (504, 24, 517) (by decide)) (by decide) dX12_canBegin_133 ?_
            refine V.iload_n (pc := 136) hG dX12_canBegin_136 rfl 1 rfl ?_
            obtain ⟨g58, h⟩ := h
            refine V.iald (pc := 137) (z := 96) (o := 517) hG a_517 a_517.n hp1 g58 dX12_canBegin_137 ?_
            obtain ⟨f61, t60⟩ := h
            refine V.icmp_ne (pc := 138) (tgt := 156) hG ((hi _ _)) ((hi _ _)) dX12_canBegin_138 (by decide) (fun c59 => ?_) (fun c59 => ?_)
            · have h := t60 c59
              clear t60 f61
              refine V.pick [0, 1, 2, 3, 5] rfl ?_
              exact jn156 x5_110 x4_110 hx5_110 hx4_110 h
            · have h := f61 c59
              clear t60 f61
              refine V.aload_n (pc := 141) hG dX12_canBegin_141 rfl 0 rfl ?_
              refine V.getR (x := 531) (pc := 142) (ci := 14) (k := 39) (M := 49) (T := TX12) (o := 504) (kz := 39) hG a_504 a_504.n (by decide) hin_X12 rfl (by decide) (by decide) rfl kw_1731 rfl ((hw).1 (504, 39, 531) (by decide)) (by decide) dX12_canBegin_142 ?_
              refine V.iload (pc := 145) hG dX12_canBegin_145 5 rfl ?_
              obtain ⟨g62, h⟩ := h
              refine V.iald (pc := 147) (z := 96) (o := 531) hG a_531 a_531.n hx5_110 g62 dX12_canBegin_147 ?_
              refine V.iload_n (pc := 148) hG dX12_canBegin_148 rfl 2 rfl ?_
              obtain ⟨f65, t64⟩ := h
              refine V.icmp_ne (pc := 149) (tgt := 156) hG ((hi _ _)) hp2 dX12_canBegin_149 (by decide) (fun c63 => ?_) (fun c63 => ?_)
              · have h := t64 c63
                clear t64 f65
                refine V.pick [0, 1, 2, 3, 5] rfl ?_
                exact jn156 x5_110 x4_110 hx5_110 hx4_110 h
              · have h := f65 c63
                clear t64 f65
                refine V.iconst (pc := 152) hG dX12_canBegin_152 ?_
                refine V.goto (pc := 153) (tgt := 157) hG dX12_canBegin_153 (by decide) ?_
                refine V.pick [0, 1, 2, 3, 5] rfl ?_
                exact jn157 x5_110 x4_110 1 hx5_110 hx4_110 ((sR_l rfl)) h
    refine V.pick [2, 3, 4, 5, 1, 0] rfl ?_
    exact lp110 n50 0 0 ((sR_l rfl)) ((sR_l rfl)) h
  have jn15 : ∀ (k0j15 : Int), sR k0j15 → s15_X12_canBegin p1 p2 k0j15 i r Q → V Γ Δ 542 false i r 0 0 Q0 15 [(0, .ref (sA Δ 504)), (1, .int (sJ p1)), (2, .int (sJ p2))] [.int (sJ k0j15)] := by
    intro k0j15 hk0j15 h
    refine V.istore_n (pc := 15) (lv' := [(3, .int (sJ k0j15)), (0, .ref (sA Δ 504)), (1, .int (sJ p1)), (2, .int (sJ p2))]) hG dX12_canBegin_15 rfl (by decide) rfl ?_
    refine V.iconst (pc := 16) hG dX12_canBegin_16 ?_
    refine V.istore (pc := 17) (lv' := [(4, .int (sJ 0)), (3, .int (sJ k0j15)), (0, .ref (sA Δ 504)), (1, .int (sJ p1)), (2, .int (sJ p2))]) hG dX12_canBegin_17 (by decide) rfl ?_
    obtain ⟨n115, h⟩ := h
    have lp19 : ∀ (m19 : Nat) (x3_19 : Int) (x4_19 : Int), sR x3_19 → sR x4_19 → LoopP (b19_X12_canBegin p1 p2 i r Q) m19 (x3_19, x4_19) → V Γ Δ 542 false i r 0 0 Q0 19 [(0, .ref (sA Δ 504)), (1, .int (sJ p1)), (2, .int (sJ p2)), (3, .int (sJ x3_19)), (4, .int (sJ x4_19))] [] := by
      intro m19
      induction m19 with
      | zero => intro x3_19 x4_19 hx3_19 hx4_19 h; exact h.elim
      | succ m19 ih19 =>
        intro x3_19 x4_19 hx3_19 hx4_19 h
        have h := LoopP_succ h
        have jn97 : ∀ (x4j97 : Int) (k0j97 : Int), sR x4j97 → sR k0j97 → s97_X12_canBegin p1 p2 x4j97 k0j97 i r Q (LoopP (b19_X12_canBegin p1 p2 i r Q) m19) → V Γ Δ 542 false i r 0 0 Q0 97 [(0, .ref (sA Δ 504)), (1, .int (sJ p1)), (2, .int (sJ p2)), (4, .int (sJ x4j97))] [.int (sJ k0j97)] := by
          intro x4j97 k0j97 hx4j97 hk0j97 h
          refine V.istore_n (pc := 97) (lv' := [(3, .int (sJ k0j97)), (0, .ref (sA Δ 504)), (1, .int (sJ p1)), (2, .int (sJ p2)), (4, .int (sJ x4j97))]) hG dX12_canBegin_97 rfl (by decide) rfl ?_
          refine V.iinc (pc := 98) (lv' := [(4, .int (sJ (wr (x4j97 + 1)))), (3, .int (sJ k0j97)), (0, .ref (sA Δ 504)), (1, .int (sJ p1)), (2, .int (sJ p2))]) hG dX12_canBegin_98 4 rfl (by decide) rfl ?_
          refine V.goto (pc := 101) (tgt := 19) hG dX12_canBegin_101 (by decide) ?_
          refine V.pick [2, 3, 4, 1, 0] rfl ?_
          exact ih19 k0j97 (wr (x4j97 + 1)) hk0j97 ((sR_wr _)) h
        have jn96 : ∀ (x4j96 : Int), sR x4j96 → s96_X12_canBegin p1 p2 x4j96 i r Q (LoopP (b19_X12_canBegin p1 p2 i r Q) m19) → V Γ Δ 542 false i r 0 0 Q0 96 [(0, .ref (sA Δ 504)), (1, .int (sJ p1)), (2, .int (sJ p2)), (4, .int (sJ x4j96))] [] := by
          intro x4j96 hx4j96 h
          refine V.iconst (pc := 96) hG dX12_canBegin_96 ?_
          exact jn97 x4j96 0 hx4j96 ((sR_l rfl)) h
        have jn92 : ∀ (x4j92 : Int), sR x4j92 → s92_X12_canBegin p1 p2 x4j92 i r Q (LoopP (b19_X12_canBegin p1 p2 i r Q) m19) → V Γ Δ 542 false i r 0 0 Q0 92 [(0, .ref (sA Δ 504)), (1, .int (sJ p1)), (2, .int (sJ p2)), (4, .int (sJ x4j92))] [] := by
          intro x4j92 hx4j92 h
          refine V.iconst (pc := 92) hG dX12_canBegin_92 ?_
          refine V.goto (pc := 93) (tgt := 97) hG dX12_canBegin_93 (by decide) ?_
          exact jn97 x4j92 1 hx4j92 ((sR_l rfl)) h
        refine V.iload (pc := 19) hG dX12_canBegin_19 4 rfl ?_
        refine V.aload_n (pc := 21) hG dX12_canBegin_21 rfl 0 rfl ?_
        refine V.getI (pc := 22) (ci := 14) (k := 30) (M := 49) (T := TX12) (o := 504) (kz := 30) hG a_504 a_504.n (by decide) hin_X12 rfl (by decide) (by decide) rfl kw_1722 rfl dX12_canBegin_22 ?_
        obtain ⟨t117, f118⟩ := h
        refine V.icmp_ge (pc := 25) (tgt := 104) hG hx4_19 ((hi _ _)) dX12_canBegin_25 (by decide) (fun c116 => ?_) (fun c116 => ?_)
        · have h := t117 c116
          clear t117 f118
          refine V.pick [0, 1, 2, 3] rfl ?_
          exact jn104 x3_19 hx3_19 h
        · have h := f118 c116
          clear t117 f118
          refine V.iload_n (pc := 28) hG dX12_canBegin_28 rfl 3 rfl ?_
          obtain ⟨t120, f121⟩ := h
          refine V.if_eq (pc := 29) (tgt := 104) hG hx3_19 dX12_canBegin_29 (by decide) (fun c119 => ?_) (fun c119 => ?_)
          · have h := t120 c119
            clear t120 f121
            refine V.pick [0, 1, 2, 3] rfl ?_
            exact jn104 x3_19 hx3_19 h
          · have h := f121 c119
            clear t120 f121
            refine V.aload_n (pc := 32) hG dX12_canBegin_32 rfl 0 rfl ?_
            refine V.getR (x := 523) (pc := 33) (ci := 14) (k := 31) (M := 49) (T := TX12) (o := 504) (kz := 31) hG a_504 a_504.n (by decide) hin_X12 rfl (by decide) (by decide) rfl kw_1723 rfl ((hw).1 (504, 31, 523) (by decide)) (by decide) dX12_canBegin_33 ?_
            refine V.iload (pc := 36) hG dX12_canBegin_36 4 rfl ?_
            obtain ⟨g122, h⟩ := h
            refine V.iald (pc := 38) (z := 20000) (o := 523) hG a_523 a_523.n hx4_19 g122 dX12_canBegin_38 ?_
            refine V.istore (pc := 39) (lv' := [(5, .int (sJ (i 523 x4_19))), (0, .ref (sA Δ 504)), (1, .int (sJ p1)), (2, .int (sJ p2)), (3, .int (sJ x3_19)), (4, .int (sJ x4_19))]) hG dX12_canBegin_39 (by decide) rfl ?_
            refine V.aload_n (pc := 41) hG dX12_canBegin_41 rfl 1 rfl ?_
            refine V.getR (x := 524) (pc := 42) (ci := 14) (k := 32) (M := 49) (T := TX12) (o := 504) (kz := 32) hG a_504 a_504.n (by decide) hin_X12 rfl (by decide) (by decide) rfl kw_1724 rfl ((hw).1 (504, 32, 524) (by decide)) (by decide) dX12_canBegin_42 ?_
            refine V.iload (pc := 45) hG dX12_canBegin_45 5 rfl ?_
            obtain ⟨g123, h⟩ := h
            refine V.iald (pc := 47) (z := 20000) (o := 524) hG a_524 a_524.n hx4_19 g123 dX12_canBegin_47 ?_
            refine V.iload_n (pc := 48) hG dX12_canBegin_48 rfl 2 rfl ?_
            obtain ⟨f126, t125⟩ := h
            refine V.icmp_ne (pc := 49) (tgt := 92) hG ((hi _ _)) hp1 dX12_canBegin_49 (by decide) (fun c124 => ?_) (fun c124 => ?_)
            · have h := t125 c124
              clear t125 f126
              refine V.pick [1, 2, 3, 5] rfl ?_
              exact jn92 x4_19 hx4_19 h
            · have h := f126 c124
              clear t125 f126
              refine V.aload_n (pc := 52) hG dX12_canBegin_52 rfl 1 rfl ?_
              refine V.getR (x := 525) (pc := 53) (ci := 14) (k := 33) (M := 49) (T := TX12) (o := 504) (kz := 33) hG a_504 a_504.n (by decide) hin_X12 rfl (by decide) (by decide) rfl kw_1725 rfl ((hw).1 (504, 33, 525) (by decide)) (by decide) dX12_canBegin_53 ?_
              refine V.iload (pc := 56) hG dX12_canBegin_56 5 rfl ?_
              obtain ⟨g127, h⟩ := h
              refine V.iald (pc := 58) (z := 20000) (o := 525) hG a_525 a_525.n hx4_19 g127 dX12_canBegin_58 ?_
              obtain ⟨f130, t129⟩ := h
              refine V.if_ne (pc := 59) (tgt := 92) hG ((hi _ _)) dX12_canBegin_59 (by decide) (fun c128 => ?_) (fun c128 => ?_)
              · have h := t129 c128
                clear t129 f130
                refine V.pick [1, 2, 3, 5] rfl ?_
                exact jn92 x4_19 hx4_19 h
              · have h := f130 c128
                clear t129 f130
                refine V.aload_n (pc := 62) hG dX12_canBegin_62 rfl 1 rfl ?_
                refine V.getR (x := 531) (pc := 63) (ci := 14) (k := 39) (M := 49) (T := TX12) (o := 504) (kz := 39) hG a_504 a_504.n (by decide) hin_X12 rfl (by decide) (by decide) rfl kw_1731 rfl ((hw).1 (504, 39, 531) (by decide)) (by decide) dX12_canBegin_63 ?_
                refine V.iload (pc := 66) hG dX12_canBegin_66 0 rfl ?_
                obtain ⟨g131, h⟩ := h
                refine V.iald (pc := 68) (z := 96) (o := 531) hG a_531 a_531.n ((hi _ _)) g131 dX12_canBegin_68 ?_
                refine V.iconst (pc := 69) hG dX12_canBegin_69 ?_
                obtain ⟨t133, f134⟩ := h
                refine V.icmp_eq (pc := 70) (tgt := 96) hG ((hi _ _)) ((sR_l rfl)) dX12_canBegin_70 (by decide) (fun c132 => ?_) (fun c132 => ?_)
                · have h := t133 c132
                  clear t133 f134
                  refine V.pick [1, 2, 3, 5] rfl ?_
                  exact jn96 x4_19 hx4_19 h
                · have h := f134 c132
                  clear t133 f134
                  refine V.aload_n (pc := 73) hG dX12_canBegin_73 rfl 1 rfl ?_
                  refine V.getR (x := 531) (pc := 74) (ci := 14) (k := 39) (M := 49) (T := TX12) (o := 504) (kz := 39) hG a_504 a_504.n (by decide) hin_X12 rfl (by decide) (by decide) rfl kw_1731 rfl ((hw).1 (504, 39, 531) (by decide)) (by decide) dX12_canBegin_74 ?_
                  refine V.iload (pc := 77) hG dX12_canBegin_77 0 rfl ?_
                  obtain ⟨g135, h⟩ := h
                  refine V.iald (pc := 79) (z := 96) (o := 531) hG a_531 a_531.n ((hi _ _)) g135 dX12_canBegin_79 ?_
                  refine V.aload_n (pc := 80) hG dX12_canBegin_80 rfl 1 rfl ?_
                  refine V.getR (x := 526) (pc := 81) (ci := 14) (k := 34) (M := 49) (T := TX12) (o := 504) (kz := 34) hG a_504 a_504.n (by decide) hin_X12 rfl (by decide) (by decide) rfl kw_1726 rfl ((hw).1 (504, 34, 526) (by decide)) (by decide) dX12_canBegin_81 ?_
                  refine V.iload (pc := 84) hG dX12_canBegin_84 5 rfl ?_
                  obtain ⟨g136, h⟩ := h
                  refine V.iald (pc := 86) (z := 20000) (o := 526) hG a_526 a_526.n hx4_19 g136 dX12_canBegin_86 ?_
                  refine V.iadd (pc := 87) hG dX12_canBegin_87 ?_
                  refine V.iload_n (pc := 88) hG dX12_canBegin_88 rfl 3 rfl ?_
                  obtain ⟨t138, f139⟩ := h
                  refine V.icmp_gt (pc := 89) (tgt := 96) hG ((sR_wr _)) hp2 dX12_canBegin_89 (by decide) (fun c137 => ?_) (fun c137 => ?_)
                  · have h := t138 c137
                    clear t138 f139
                    refine V.pick [1, 2, 3, 5] rfl ?_
                    exact jn96 x4_19 hx4_19 h
                  · have h := f139 c137
                    clear t138 f139
                    refine V.pick [1, 2, 3, 5] rfl ?_
                    exact jn92 x4_19 hx4_19 h
    refine V.pick [2, 3, 4, 1, 0] rfl ?_
    exact lp19 n115 k0j15 0 hk0j15 ((sR_l rfl)) h
  refine V.aload_n (pc := 0) hG dX12_canBegin_0 rfl 0 rfl ?_
  refine V.getR (x := 531) (pc := 1) (ci := 14) (k := 39) (M := 49) (T := TX12) (o := 504) (kz := 39) hG a_504 a_504.n (by decide) hin_X12 rfl (by decide) (by decide) rfl kw_1731 rfl ((hw).1 (504, 39, 531) (by decide)) (by decide) dX12_canBegin_1 ?_
  refine V.iload_n (pc := 4) hG dX12_canBegin_4 rfl 1 rfl ?_
  obtain ⟨g140, h⟩ := h
  refine V.iald (pc := 5) (z := 96) (o := 531) hG a_531 a_531.n hp1 g140 dX12_canBegin_5 ?_
  refine V.iconst (pc := 6) hG dX12_canBegin_6 ?_
  obtain ⟨f143, t142⟩ := h
  refine V.icmp_ne (pc := 7) (tgt := 14) hG ((hi _ _)) ((sR_l rfl)) dX12_canBegin_7 (by decide) (fun c141 => ?_) (fun c141 => ?_)
  · have h := t142 c141
    clear t142 f143
    refine V.iconst (pc := 14) hG dX12_canBegin_14 ?_
    exact jn15 0 ((sR_l rfl)) h
  · have h := f143 c141
    clear t142 f143
    refine V.iconst (pc := 10) hG dX12_canBegin_10 ?_
    refine V.goto (pc := 11) (tgt := 15) hG dX12_canBegin_11 (by decide) ?_
    exact jn15 1 ((sR_l rfl)) h
set_option maxRecDepth 100000 in
set_option maxHeartbeats 4000000 in
theorem sm_X12_list (l : Launch) (Δ : Wd) {i r : MI}   {Q : MI → Prop} (hi : okI i) (hw : Wf r) (h : wp_X12_list  i r Q) : Met l yX12_list (Cond.code yX12_list cX12_list 5 none :: gW) (sRm 5 116) (sPc Δ [.ref (sA Δ 504)] i r) (sQv Δ (fun i' r' => r = r' ∧ Q i')) 0 0 (sFr Δ) := by
  refine Ct.v (by decide) rfl (Nat.le_of_ble_eq_true rfl) (fun Γ Q0 hG fin => ?_)
  have hG : okG Γ Δ l (sRm 5 116) cX12_list "SchedularyModel" 5 := hG
  show V Γ Δ 542 false i r 0 0 Q0 0 [(0, .ref (sA Δ 504))] []
  refine V.aload_n (pc := 0) hG dX12_list_0 rfl 0 rfl ?_
  refine V.callVv (pc := 1) (As := []) (stk := []) hG (sm_X12_findSoon l Δ  hi hw h) mY_X12_findSoon kw_2089 kw_2091 kw_137 a_504 (by decide) (q := (RX12, TX12, 49)) rfl rfl ⟨Nat.le_of_ble_eq_true rfl, Nat.le_of_ble_eq_true rfl, Nat.le_of_ble_eq_true rfl, Nat.le_of_ble_eq_true rfl⟩ rfl (Nat.le_of_ble_eq_true rfl) dX12_list_1 rfl (fun i2 r3 hi5 hw6 hq7 => ?_)
  obtain ⟨e238, h⟩ := hq7
  subst e238
  refine V.iconst (pc := 4) hG dX12_list_4 ?_
  refine V.istore_n (pc := 5) (lv' := [(1, .int (sJ 0)), (0, .ref (sA Δ 504))]) hG dX12_list_5 rfl (by decide) rfl ?_
  obtain ⟨n182, h⟩ := h
  have lp6 : ∀ (m6 : Nat) (x1_6 : Int) (i_6 : MI), sR x1_6 → okI i_6 → LoopP (b6_X12_list r Q) m6 (x1_6, i_6) → V Γ Δ 542 false i_6 r 0 0 Q0 6 [(0, .ref (sA Δ 504)), (1, .int (sJ x1_6))] [] := by
    intro m6
    induction m6 with
    | zero => intro x1_6 i_6 hx1_6 hi_6 h; exact h.elim
    | succ m6 ih6 =>
      intro x1_6 i_6 hx1_6 hi_6 h
      have h := LoopP_succ h
      refine V.iload_n (pc := 6) hG dX12_list_6 rfl 1 rfl ?_
      refine V.aload_n (pc := 7) hG dX12_list_7 rfl 0 rfl ?_
      refine V.getI (pc := 8) (ci := 14) (k := 21) (M := 49) (T := TX12) (o := 504) (kz := 21) hG a_504 a_504.n (by decide) hin_X12 rfl (by decide) (by decide) rfl kw_1713 rfl dX12_list_8 ?_
      obtain ⟨t184, f185⟩ := h
      refine V.icmp_ge (pc := 11) (tgt := 27) hG hx1_6 ((hi_6 _ _)) dX12_list_11 (by decide) (fun c183 => ?_) (fun c183 => ?_)
      · have h := t184 c183
        clear t184 f185
        refine V.aload_n (pc := 27) hG dX12_list_27 rfl 0 rfl ?_
        refine V.getI (pc := 28) (ci := 14) (k := 21) (M := 49) (T := TX12) (o := 504) (kz := 21) hG a_504 a_504.n (by decide) hin_X12 rfl (by decide) (by decide) rfl kw_1713 rfl dX12_list_28 ?_
        refine V.istore_n (pc := 31) (lv' := [(1, .int (sJ (i_6 504 21))), (0, .ref (sA Δ 504))]) hG dX12_list_31 rfl (by decide) rfl ?_
        refine V.iconst (pc := 32) hG dX12_list_32 ?_
        refine V.istore_n (pc := 33) (lv' := [(2, .int (sJ 0)), (1, .int (sJ (i_6 504 21))), (0, .ref (sA Δ 504))]) hG dX12_list_33 rfl (by decide) rfl ?_
        obtain ⟨n186, h⟩ := h
        have lp34 : ∀ (m34 : Nat) (x1_34 : Int) (x2_34 : Int) (i_34 : MI), sR x1_34 → sR x2_34 → okI i_34 → LoopP (b34_X12_list r Q) m34 (x1_34, x2_34, i_34) → V Γ Δ 542 false i_34 r 0 0 Q0 34 [(0, .ref (sA Δ 504)), (1, .int (sJ x1_34)), (2, .int (sJ x2_34))] [] := by
          intro m34
          induction m34 with
          | zero => intro x1_34 x2_34 i_34 hx1_34 hx2_34 hi_34 h; exact h.elim
          | succ m34 ih34 =>
            intro x1_34 x2_34 i_34 hx1_34 hx2_34 hi_34 h
            have h := LoopP_succ h
            refine V.iload_n (pc := 34) hG dX12_list_34 rfl 1 rfl ?_
            obtain ⟨t188, f189⟩ := h
            refine V.if_le (pc := 35) (tgt := 127) hG hx1_34 dX12_list_35 (by decide) (fun c187 => ?_) (fun c187 => ?_)
            · have h := t188 c187
              clear t188 f189
              refine V.aload_n (pc := 127) hG dX12_list_127 rfl 0 rfl ?_
              refine V.iconst (pc := 128) hG dX12_list_128 ?_
              refine V.putI (pc := 129) (ci := 14) (k := 48) (M := 49) (T := TX12) (o := 504) (kz := 48) hG a_504 a_504.n (by decide) hin_X12 rfl (by decide) (by decide) rfl kw_1740 rfl tyX12 tyX12_ok nmX12 rfl (ty := tyX12 48) (tyX12_ok 48 (by decide)) rfl rfl dX12_list_129 ?_
              refine V.iconst (pc := 132) hG dX12_list_132 ?_
              refine V.istore_n (pc := 133) (lv' := [(2, .int (sJ 0)), (0, .ref (sA Δ 504)), (1, .int (sJ x1_34))]) hG dX12_list_133 rfl (by decide) rfl ?_
              obtain ⟨n190, h⟩ := h
              have lp134 : ∀ (m134 : Nat) (x2_134 : Int) (i_134 : MI), sR x2_134 → okI i_134 → LoopP (b134_X12_list r Q) m134 (x2_134, i_134) → V Γ Δ 542 false i_134 r 0 0 Q0 134 [(0, .ref (sA Δ 504)), (2, .int (sJ x2_134))] [] := by
                intro m134
                induction m134 with
                | zero => intro x2_134 i_134 hx2_134 hi_134 h; exact h.elim
                | succ m134 ih134 =>
                  intro x2_134 i_134 hx2_134 hi_134 h
                  have h := LoopP_succ h
                  refine V.iload_n (pc := 134) hG dX12_list_134 rfl 1 rfl ?_
                  refine V.aload_n (pc := 135) hG dX12_list_135 rfl 0 rfl ?_
                  refine V.getI (pc := 136) (ci := 14) (k := 21) (M := 49) (T := TX12) (o := 504) (kz := 21) hG a_504 a_504.n (by decide) hin_X12 rfl (by decide) (by decide) rfl kw_1713 rfl dX12_list_136 ?_
                  obtain ⟨t192, f193⟩ := h
                  refine V.icmp_ge (pc := 139) (tgt := 171) hG hx2_134 ((hi_134 _ _)) dX12_list_139 (by decide) (fun c191 => ?_) (fun c191 => ?_)
                  · have h := t192 c191
                    clear t192 f193
                    exact fin dX12_list_171 hi_134 hw ⟨rfl, h⟩
                  · have h := f193 c191
                    clear t192 f193
                    refine V.aload_n (pc := 142) hG dX12_list_142 rfl 0 rfl ?_
                    refine V.aload_n (pc := 143) hG dX12_list_143 rfl 0 rfl ?_
                    refine V.getI (pc := 144) (ci := 14) (k := 48) (M := 49) (T := TX12) (o := 504) (kz := 48) hG a_504 a_504.n (by decide) hin_X12 rfl (by decide) (by decide) rfl kw_1740 rfl dX12_list_144 ?_
                    refine V.aload_n (pc := 147) hG dX12_list_147 rfl 0 rfl ?_
                    refine V.getR (x := 531) (pc := 148) (ci := 14) (k := 39) (M := 49) (T := TX12) (o := 504) (kz := 39) hG a_504 a_504.n (by decide) hin_X12 rfl (by decide) (by decide) rfl kw_1731 rfl ((hw).1 (504, 39, 531) (by decide)) (by decide) dX12_list_148 ?_
                    refine V.iload_n (pc := 151) hG dX12_list_151 rfl 1 rfl ?_
                    obtain ⟨g194, h⟩ := h
                    refine V.iald (pc := 152) (z := 96) (o := 531) hG a_531 a_531.n hx2_134 g194 dX12_list_152 ?_
                    refine V.aload_n (pc := 153) hG dX12_list_153 rfl 0 rfl ?_
                    refine V.iload_n (pc := 154) hG dX12_list_154 rfl 1 rfl ?_
                    refine V.callVi (pc := 155) (As := [.int (sJ x2_134)]) (stk := [.int (sJ (i_134 531 x2_134)), .int (sJ (i_134 504 48)), .ref (sA Δ 504)]) hG (sm_X12_cyclesOf l Δ hx2_134 hi_134 hw h) mY_X12_cyclesOf kw_1947 kw_1949 kw_123 a_504 (by decide) (q := (RX12, TX12, 49)) rfl rfl ⟨Nat.le_of_ble_eq_true rfl, Nat.le_of_ble_eq_true rfl, Nat.le_of_ble_eq_true rfl, Nat.le_of_ble_eq_true rfl⟩ rfl (Nat.le_of_ble_eq_true rfl) dX12_list_155 rfl (fun v195 i196 r197 hv198 hi199 hw200 hq201 => ?_)
                    obtain ⟨e202, e203, h⟩ := hq201
                    subst e202
                    subst e203
                    refine V.iadd (pc := 158) hG dX12_list_158 ?_
                    refine V.mmax (pc := 159) hG ((hi_134 _ _)) ((sR_wr _)) kw_1955 kw_680 kw_173 kw_max ⟨Nat.le_of_ble_eq_true rfl, Nat.le_of_ble_eq_true rfl, Nat.le_of_ble_eq_true rfl, Nat.le_of_ble_eq_true rfl⟩ dX12_list_159 ?_
                    refine V.putI (pc := 162) (ci := 14) (k := 48) (M := 49) (T := TX12) (o := 504) (kz := 48) hG a_504 a_504.n (by decide) hin_X12 rfl (by decide) (by decide) rfl kw_1740 rfl tyX12 tyX12_ok nmX12 rfl (ty := tyX12 48) (tyX12_ok 48 (by decide)) rfl rfl dX12_list_162 ?_
                    refine V.iinc (pc := 165) (lv' := [(2, .int (sJ (wr (x2_134 + 1)))), (0, .ref (sA Δ 504))]) hG dX12_list_165 1 rfl (by decide) rfl ?_
                    refine V.goto (pc := 168) (tgt := 134) hG dX12_list_168 (by decide) ?_
                    refine V.pick [1, 0] rfl ?_
                    exact ih134 (wr (x2_134 + 1)) (st i_134 504 48 (max (i_134 504 48) (wr (i_134 531 x2_134 + v195)))) ((sR_wr _)) ((okI_st hi_134 ((sR_max ((hi_134 _ _)) ((sR_wr _)))))) h
              refine V.pick [1, 0] rfl ?_
              exact lp134 n190 0 (st i_34 504 48 0) ((sR_l rfl)) ((okI_st hi_34 ((sR_l rfl)))) h
            · have h := f189 c187
              clear t188 f189
              refine V.iconst (pc := 38) hG dX12_list_38 ?_
              refine V.istore_n (pc := 39) (lv' := [(3, .int (sJ 0)), (0, .ref (sA Δ 504)), (1, .int (sJ x1_34)), (2, .int (sJ x2_34))]) hG dX12_list_39 rfl (by decide) rfl ?_
              obtain ⟨n204, h⟩ := h
              have lp40 : ∀ (m40 : Nat) (x1_40 : Int) (x3_40 : Int) (i_40 : MI), sR x1_40 → sR x3_40 → okI i_40 → LoopP (b40_X12_list x2_34 r Q (LoopP (b34_X12_list r Q) m34)) m40 (x1_40, x3_40, i_40) → V Γ Δ 542 false i_40 r 0 0 Q0 40 [(0, .ref (sA Δ 504)), (1, .int (sJ x1_40)), (2, .int (sJ x2_34)), (3, .int (sJ x3_40))] [] := by
                intro m40
                induction m40 with
                | zero => intro x1_40 x3_40 i_40 hx1_40 hx3_40 hi_40 h; exact h.elim
                | succ m40 ih40 =>
                  intro x1_40 x3_40 i_40 hx1_40 hx3_40 hi_40 h
                  have h := LoopP_succ h
                  refine V.iload_n (pc := 40) hG dX12_list_40 rfl 3 rfl ?_
                  refine V.iconst (pc := 41) hG dX12_list_41 ?_
                  obtain ⟨t206, f207⟩ := h
                  refine V.icmp_eq (pc := 42) (tgt := 121) hG hx3_40 ((sR_l rfl)) dX12_list_42 (by decide) (fun c205 => ?_) (fun c205 => ?_)
                  · have h := t206 c205
                    clear t206 f207
                    refine V.iinc (pc := 121) (lv' := [(2, .int (sJ (wr (x2_34 + 1)))), (0, .ref (sA Δ 504)), (1, .int (sJ x1_40)), (3, .int (sJ x3_40))]) hG dX12_list_121 2 rfl (by decide) rfl ?_
                    refine V.goto (pc := 124) (tgt := 34) hG dX12_list_124 (by decide) ?_
                    refine V.pick [1, 2, 0] rfl ?_
                    exact ih34 x1_40 (wr (x2_34 + 1)) i_40 hx1_40 ((sR_wr _)) hi_40 h
                  · have h := f207 c205
                    clear t206 f207
                    refine V.iconst (pc := 45) hG dX12_list_45 ?_
                    refine V.istore_n (pc := 46) (lv' := [(3, .int (sJ (-1))), (0, .ref (sA Δ 504)), (1, .int (sJ x1_40)), (2, .int (sJ x2_34))]) hG dX12_list_46 rfl (by decide) rfl ?_
                    refine V.iconst (pc := 47) hG dX12_list_47 ?_
                    refine V.istore (pc := 48) (lv' := [(4, .int (sJ 0)), (3, .int (sJ (-1))), (0, .ref (sA Δ 504)), (1, .int (sJ x1_40)), (2, .int (sJ x2_34))]) hG dX12_list_48 (by decide) rfl ?_
                    obtain ⟨n208, h⟩ := h
                    have lp50 : ∀ (m50 : Nat) (x3_50 : Int) (x4_50 : Int), sR x3_50 → sR x4_50 → LoopP (b50_X12_list x1_40 x2_34 i_40 r Q (LoopP (b34_X12_list r Q) m34) (LoopP (b40_X12_list x2_34 r Q (LoopP (b34_X12_list r Q) m34)) m40)) m50 (x3_50, x4_50) → V Γ Δ 542 false i_40 r 0 0 Q0 50 [(0, .ref (sA Δ 504)), (1, .int (sJ x1_40)), (2, .int (sJ x2_34)), (3, .int (sJ x3_50)), (4, .int (sJ x4_50))] [] := by
                      intro m50
                      induction m50 with
                      | zero => intro x3_50 x4_50 hx3_50 hx4_50 h; exact h.elim
                      | succ m50 ih50 =>
                        intro x3_50 x4_50 hx3_50 hx4_50 h
                        have h := LoopP_succ h
                        have jn96 : ∀ (x4j96 : Int) (k0j96 : Int), sR x4j96 → sR k0j96 → s96_X12_list x1_40 x2_34 x4j96 k0j96 i_40 r Q (LoopP (b34_X12_list r Q) m34) (LoopP (b40_X12_list x2_34 r Q (LoopP (b34_X12_list r Q) m34)) m40) (LoopP (b50_X12_list x1_40 x2_34 i_40 r Q (LoopP (b34_X12_list r Q) m34) (LoopP (b40_X12_list x2_34 r Q (LoopP (b34_X12_list r Q) m34)) m40)) m50) → V Γ Δ 542 false i_40 r 0 0 Q0 96 [(0, .ref (sA Δ 504)), (1, .int (sJ x1_40)), (2, .int (sJ x2_34)), (4, .int (sJ x4j96))] [.int (sJ k0j96)] := by
                          intro x4j96 k0j96 hx4j96 hk0j96 h
                          refine V.istore_n (pc := 96) (lv' := [(3, .int (sJ k0j96)), (0, .ref (sA Δ 504)), (1, .int (sJ x1_40)), (2, .int (sJ x2_34)), (4, .int (sJ x4j96))]) hG dX12_list_96 rfl (by decide) rfl ?_
                          refine V.iinc (pc := 97) (lv' := [(4, .int (sJ (wr (x4j96 + 1)))), (3, .int (sJ k0j96)), (0, .ref (sA Δ 504)), (1, .int (sJ x1_40)), (2, .int (sJ x2_34))]) hG dX12_list_97 4 rfl (by decide) rfl ?_
                          refine V.goto (pc := 100) (tgt := 50) hG dX12_list_100 (by decide) ?_
                          refine V.pick [2, 3, 4, 1, 0] rfl ?_
                          exact ih50 k0j96 (wr (x4j96 + 1)) hk0j96 ((sR_wr _)) h
                        have jn95 : ∀ (x3j95 : Int) (x4j95 : Int), sR x3j95 → sR x4j95 → s95_X12_list x1_40 x2_34 x3j95 x4j95 i_40 r Q (LoopP (b34_X12_list r Q) m34) (LoopP (b40_X12_list x2_34 r Q (LoopP (b34_X12_list r Q) m34)) m40) (LoopP (b50_X12_list x1_40 x2_34 i_40 r Q (LoopP (b34_X12_list r Q) m34) (LoopP (b40_X12_list x2_34 r Q (LoopP (b34_X12_list r Q) m34)) m40)) m50) → V Γ Δ 542 false i_40 r 0 0 Q0 95 [(0, .ref (sA Δ 504)), (1, .int (sJ x1_40)), (2, .int (sJ x2_34)), (3, .int (sJ x3j95)), (4, .int (sJ x4j95))] [] := by
                          intro x3j95 x4j95 hx3j95 hx4j95 h
                          refine V.iload_n (pc := 95) hG dX12_list_95 rfl 3 rfl ?_
                          refine V.pick [0, 1, 2, 4] rfl ?_
                          exact jn96 x4j95 x3j95 hx4j95 hx3j95 h
                        have jn90 : ∀ (x4j90 : Int), sR x4j90 → s90_X12_list x1_40 x2_34 x4j90 i_40 r Q (LoopP (b34_X12_list r Q) m34) (LoopP (b40_X12_list x2_34 r Q (LoopP (b34_X12_list r Q) m34)) m40) (LoopP (b50_X12_list x1_40 x2_34 i_40 r Q (LoopP (b34_X12_list r Q) m34) (LoopP (b40_X12_list x2_34 r Q (LoopP (b34_X12_list r Q) m34)) m40)) m50) → V Γ Δ 542 false i_40 r 0 0 Q0 90 [(0, .ref (sA Δ 504)), (1, .int (sJ x1_40)), (2, .int (sJ x2_34)), (4, .int (sJ x4j90))] [] := by
                          intro x4j90 hx4j90 h
                          refine V.iload (pc := 90) hG dX12_list_90 3 rfl ?_
                          refine V.goto (pc := 92) (tgt := 96) hG dX12_list_92 (by decide) ?_
                          exact jn96 x4j90 x4j90 hx4j90 hx4j90 h
                        refine V.iload (pc := 50) hG dX12_list_50 4 rfl ?_
                        refine V.aload_n (pc := 52) hG dX12_list_52 rfl 0 rfl ?_
                        refine V.getI (pc := 53) (ci := 14) (k := 21) (M := 49) (T := TX12) (o := 504) (kz := 21) hG a_504 a_504.n (by decide) hin_X12 rfl (by decide) (by decide) rfl kw_1713 rfl dX12_list_53 ?_
                        obtain ⟨t210, f211⟩ := h
                        refine V.icmp_ge (pc := 56) (tgt := 103) hG hx4_50 ((hi_40 _ _)) dX12_list_56 (by decide) (fun c209 => ?_) (fun c209 => ?_)
                        · have h := t210 c209
                          clear t210 f211
                          refine V.iload_n (pc := 103) hG dX12_list_103 rfl 3 rfl ?_
                          refine V.iconst (pc := 104) hG dX12_list_104 ?_
                          obtain ⟨t213, f214⟩ := h
                          refine V.icmp_eq (pc := 105) (tgt := 40) hG hx3_50 ((sR_l rfl)) dX12_list_105 (by decide) (fun c212 => ?_) (fun c212 => ?_)
                          · have h := t213 c212
                            clear t213 f214
                            refine V.pick [0, 1, 2, 3] rfl ?_
                            exact ih40 x1_40 x3_50 i_40 hx1_40 hx3_50 hi_40 h
                          · have h := f214 c212
                            clear t213 f214
                            refine V.aload_n (pc := 108) hG dX12_list_108 rfl 0 rfl ?_
                            refine V.getR (x := 531) (pc := 109) (ci := 14) (k := 39) (M := 49) (T := TX12) (o := 504) (kz := 39) hG a_504 a_504.n (by decide) hin_X12 rfl (by decide) (by decide) rfl kw_1731 rfl ((hw).1 (504, 39, 531) (by decide)) (by decide) dX12_list_109 ?_
                            refine V.iload_n (pc := 112) hG dX12_list_112 rfl 3 rfl ?_
                            refine V.iload_n (pc := 113) hG dX12_list_113 rfl 2 rfl ?_
                            obtain ⟨g215, h⟩ := h
                            refine V.iast (pc := 114) (z := 96) (o := 531) hG a_531 a_531.n hx3_50 g215 dX12_list_114 ?_
                            refine V.iinc (pc := 115) (lv' := [(1, .int (sJ (wr (x1_40 + (-1))))), (0, .ref (sA Δ 504)), (2, .int (sJ x2_34)), (3, .int (sJ x3_50)), (4, .int (sJ x4_50))]) hG dX12_list_115 1 rfl (by decide) rfl ?_
                            refine V.goto (pc := 118) (tgt := 40) hG dX12_list_118 (by decide) ?_
                            refine V.pick [1, 0, 2, 3] rfl ?_
                            exact ih40 (wr (x1_40 + (-1))) x3_50 (st i_40 531 x3_50 x2_34) ((sR_wr _)) hx3_50 ((okI_st hi_40 hx2_34)) h
                        · have h := f211 c209
                          clear t210 f211
                          refine V.aload_n (pc := 59) hG dX12_list_59 rfl 0 rfl ?_
                          refine V.iload (pc := 60) hG dX12_list_60 4 rfl ?_
                          refine V.iload_n (pc := 62) hG dX12_list_62 rfl 2 rfl ?_
                          refine V.callVi (pc := 63) (As := [.int (sJ x4_50), .int (sJ x2_34)]) (stk := []) hG (sm_X12_canBegin l Δ hx4_50 hx2_34 hi_40 hw h) mY_X12_canBegin kw_2105 kw_2107 kw_139 a_504 (by decide) (q := (RX12, TX12, 49)) rfl rfl ⟨Nat.le_of_ble_eq_true rfl, Nat.le_of_ble_eq_true rfl, Nat.le_of_ble_eq_true rfl, Nat.le_of_ble_eq_true rfl⟩ rfl (Nat.le_of_ble_eq_true rfl) dX12_list_63 rfl (fun v216 i217 r218 hv219 hi220 hw221 hq222 => ?_)
                          obtain ⟨e234, e235, h⟩ := hq222
                          subst e234
                          subst e235
                          obtain ⟨t224, f225⟩ := h
                          refine V.if_eq (pc := 66) (tgt := 95) hG hv219 dX12_list_66 (by decide) (fun c223 => ?_) (fun c223 => ?_)
                          · have h := t224 c223
                            clear t224 f225
                            exact jn95 x3_50 x4_50 hx3_50 hx4_50 h
                          · have h := f225 c223
                            clear t224 f225
                            refine V.iload_n (pc := 69) hG dX12_list_69 rfl 3 rfl ?_
                            refine V.iconst (pc := 70) hG dX12_list_70 ?_
                            obtain ⟨t227, f228⟩ := h
                            refine V.icmp_eq (pc := 71) (tgt := 90) hG hx3_50 ((sR_l rfl)) dX12_list_71 (by decide) (fun c226 => ?_) (fun c226 => ?_)
                            · have h := t227 c226
                              clear t227 f228
                              refine V.pick [0, 1, 2, 4] rfl ?_
                              exact jn90 x4_50 hx4_50 h
                            · have h := f228 c226
                              clear t227 f228
                              refine V.aload_n (pc := 74) hG dX12_list_74 rfl 0 rfl ?_
                              refine V.getR (x := 530) (pc := 75) (ci := 14) (k := 38) (M := 49) (T := TX12) (o := 504) (kz := 38) hG a_504 a_504.n (by decide) hin_X12 rfl (by decide) (by decide) rfl kw_1730 rfl ((hw).1 (504, 38, 530) (by decide)) (by decide) dX12_list_75 ?_
                              refine V.iload (pc := 78) hG dX12_list_78 4 rfl ?_
                              obtain ⟨g229, h⟩ := h
                              refine V.iald (pc := 80) (z := 96) (o := 530) hG a_530 a_530.n hx4_50 g229 dX12_list_80 ?_
                              refine V.aload_n (pc := 81) hG dX12_list_81 rfl 0 rfl ?_
                              refine V.getR (x := 530) (pc := 82) (ci := 14) (k := 38) (M := 49) (T := TX12) (o := 504) (kz := 38) hG a_504 a_504.n (by decide) hin_X12 rfl (by decide) (by decide) rfl kw_1730 rfl ((hw).1 (504, 38, 530) (by decide)) (by decide) dX12_list_82 ?_
                              refine V.iload_n (pc := 85) hG dX12_list_85 rfl 3 rfl ?_
                              obtain ⟨g230, h⟩ := h
                              refine V.iald (pc := 86) (z := 96) (o := 530) hG a_530 a_530.n hx3_50 g230 dX12_list_86 ?_
                              obtain ⟨t232, f233⟩ := h
                              refine V.icmp_ge (pc := 87) (tgt := 95) hG ((hi_40 _ _)) ((hi_40 _ _)) dX12_list_87 (by decide) (fun c231 => ?_) (fun c231 => ?_)
                              · have h := t232 c231
                                clear t232 f233
                                exact jn95 x3_50 x4_50 hx3_50 hx4_50 h
                              · have h := f233 c231
                                clear t232 f233
                                refine V.pick [0, 1, 2, 4] rfl ?_
                                exact jn90 x4_50 hx4_50 h
                    refine V.pick [2, 3, 4, 1, 0] rfl ?_
                    exact lp50 n208 (-1) 0 ((sR_l rfl)) ((sR_l rfl)) h
              refine V.pick [1, 2, 3, 0] rfl ?_
              exact lp40 n204 x1_34 0 i_34 hx1_34 ((sR_l rfl)) hi_34 h
        refine V.pick [2, 1, 0] rfl ?_
        exact lp34 n186 (i_6 504 21) 0 i_6 ((hi_6 _ _)) ((sR_l rfl)) hi_6 h
      · have h := f185 c183
        clear t184 f185
        refine V.aload_n (pc := 14) hG dX12_list_14 rfl 0 rfl ?_
        refine V.getR (x := 531) (pc := 15) (ci := 14) (k := 39) (M := 49) (T := TX12) (o := 504) (kz := 39) hG a_504 a_504.n (by decide) hin_X12 rfl (by decide) (by decide) rfl kw_1731 rfl ((hw).1 (504, 39, 531) (by decide)) (by decide) dX12_list_15 ?_
        refine V.iload_n (pc := 18) hG dX12_list_18 rfl 1 rfl ?_
        refine V.iconst (pc := 19) hG dX12_list_19 ?_
        obtain ⟨g236, h⟩ := h
        refine V.iast (pc := 20) (z := 96) (o := 531) hG a_531 a_531.n hx1_6 g236 dX12_list_20 ?_
        refine V.iinc (pc := 21) (lv' := [(1, .int (sJ (wr (x1_6 + 1)))), (0, .ref (sA Δ 504))]) hG dX12_list_21 1 rfl (by decide) rfl ?_
        refine V.goto (pc := 24) (tgt := 6) hG dX12_list_24 (by decide) ?_
        refine V.pick [1, 0] rfl ?_
        exact ih6 (wr (x1_6 + 1)) (st i_6 531 x1_6 (-1)) ((sR_wr _)) ((okI_st hi_6 ((sR_l rfl)))) h
  refine V.pick [1, 0] rfl ?_
  exact lp6 n182 0 i2 ((sR_l rfl)) hi5 h
set_option maxRecDepth 100000 in
set_option maxHeartbeats 4000000 in
theorem sm_X12_soon (l : Launch) (Δ : Wd) {i r : MI} {p1 : Int} (hp1 : sR p1) {Q : Int → MI → Prop} (hi : okI i) (hw : Wf r) (h : wp_X12_soon p1 i r Q) : Met l yX12_soon (Cond.code yX12_soon cX12_soon 2 (some .int) :: gW) (sRm 5 116) (sPc Δ [.ref (sA Δ 504), .int (sJ p1)] i r) (sQi Δ (fun x i' r' => r = r' ∧ Q x i')) 0 0 (sFr Δ) := by
  refine Ct.i (ty := .int) (by decide) rfl (Nat.le_of_ble_eq_true rfl) (fun Γ Q0 hG fin => ?_)
  have hG : okG Γ Δ l (sRm 5 116) cX12_soon "SchedularyModel" 2 := hG
  show V Γ Δ 542 false i r 0 0 Q0 0 [(0, .ref (sA Δ 504)), (1, .int (sJ p1))] []
  have jn32 : ∀ (k0j32 : Int) (ij32 : MI), sR k0j32 → okI ij32 → s32_X12_soon k0j32 ij32 r Q → V Γ Δ 542 false ij32 r 0 0 Q0 32 [] [.int (sJ k0j32)] := by
    intro k0j32 ij32 hk0j32 hij32 h
    exact fin dX12_soon_32 hk0j32 rfl hij32 hw ⟨rfl, h⟩
  refine V.aload_n (pc := 0) hG dX12_soon_0 rfl 0 rfl ?_
  refine V.iconst (pc := 1) hG dX12_soon_1 ?_
  refine V.putI (pc := 2) (ci := 14) (k := 0) (M := 49) (T := TX12) (o := 504) (kz := 0) hG a_504 a_504.n (by decide) hin_X12 rfl (by decide) (by decide) rfl kw_1692 rfl tyX12 tyX12_ok nmX12 rfl (ty := tyX12 0) (tyX12_ok 0 (by decide)) rfl rfl dX12_soon_2 ?_
  refine V.aload_n (pc := 5) hG dX12_soon_5 rfl 0 rfl ?_
  refine V.callVv (pc := 6) (As := []) (stk := []) hG (sm_X12_findSoon l Δ  ((okI_st hi ((sR_l rfl)))) hw h) mY_X12_findSoon kw_2089 kw_2091 kw_137 a_504 (by decide) (q := (RX12, TX12, 49)) rfl rfl ⟨Nat.le_of_ble_eq_true rfl, Nat.le_of_ble_eq_true rfl, Nat.le_of_ble_eq_true rfl, Nat.le_of_ble_eq_true rfl⟩ rfl (Nat.le_of_ble_eq_true rfl) dX12_soon_6 rfl (fun i2 r3 hi5 hw6 hq7 => ?_)
  obtain ⟨e31, h⟩ := hq7
  subst e31
  refine V.aload_n (pc := 9) hG dX12_soon_9 rfl 0 rfl ?_
  refine V.aload_n (pc := 10) hG dX12_soon_10 rfl 0 rfl ?_
  refine V.iload_n (pc := 11) hG dX12_soon_11 rfl 1 rfl ?_
  refine V.callVi (pc := 12) (As := [.int (sJ p1)]) (stk := [.ref (sA Δ 504)]) hG (sm_X12_noNode l Δ hp1 hi5 hw h) mY_X12_noNode kw_2068 kw_2070 kw_136 a_504 (by decide) (q := (RX12, TX12, 49)) rfl rfl ⟨Nat.le_of_ble_eq_true rfl, Nat.le_of_ble_eq_true rfl, Nat.le_of_ble_eq_true rfl, Nat.le_of_ble_eq_true rfl⟩ rfl (Nat.le_of_ble_eq_true rfl) dX12_soon_12 rfl (fun v8 i9 r10 hv11 hi12 hw13 hq14 => ?_)
  obtain ⟨e28, e29, h⟩ := hq14
  subst e28
  subst e29
  refine V.iconst (pc := 15) hG dX12_soon_15 ?_
  refine V.callVi (pc := 16) (As := [.int (sJ v8), .int (sJ 1)]) (stk := []) hG (sm_X12_fails l Δ hv11 ((sR_l rfl)) hi5 hw h) mY_X12_fails kw_1853 kw_1855 kw_106 a_504 (by decide) (q := (RX12, TX12, 49)) rfl rfl ⟨Nat.le_of_ble_eq_true rfl, Nat.le_of_ble_eq_true rfl, Nat.le_of_ble_eq_true rfl, Nat.le_of_ble_eq_true rfl⟩ rfl (Nat.le_of_ble_eq_true rfl) dX12_soon_16 rfl (fun v15 i16 r17 hv18 hi19 hw20 hq21 => ?_)
  obtain ⟨e27, h⟩ := hq21
  subst e27
  obtain ⟨t23, f24⟩ := h
  refine V.if_eq (pc := 19) (tgt := 26) hG hv18 dX12_soon_19 (by decide) (fun c22 => ?_) (fun c22 => ?_)
  · have h := t23 c22
    clear t23 f24
    refine V.aload_n (pc := 26) hG dX12_soon_26 rfl 0 rfl ?_
    refine V.getR (x := 529) (pc := 27) (ci := 14) (k := 37) (M := 49) (T := TX12) (o := 504) (kz := 37) hG a_504 a_504.n (by decide) hin_X12 rfl (by decide) (by decide) rfl kw_1729 rfl ((hw).1 (504, 37, 529) (by decide)) (by decide) dX12_soon_27 ?_
    refine V.iload_n (pc := 30) hG dX12_soon_30 rfl 1 rfl ?_
    obtain ⟨g25, h⟩ := h
    refine V.iald (pc := 31) (z := 96) (o := 529) hG a_529 a_529.n hp1 g25 dX12_soon_31 ?_
    refine V.pick [] rfl ?_
    exact jn32 (i16 529 p1) i16 ((hi19 _ _)) hi19 h
  · have h := f24 c22
    clear t23 f24
    refine V.iconst (pc := 22) hG dX12_soon_22 ?_
    refine V.goto (pc := 23) (tgt := 32) hG dX12_soon_23 (by decide) ?_
    refine V.pick [] rfl ?_
    exact jn32 0 i16 ((sR_l rfl)) hi19 h
set_option maxRecDepth 100000 in
set_option maxHeartbeats 4000000 in
theorem sm_X12_late (l : Launch) (Δ : Wd) {i r : MI} {p1 : Int} (hp1 : sR p1) {Q : Int → MI → Prop} (hi : okI i) (hw : Wf r) (h : wp_X12_late p1 i r Q) : Met l yX12_late (Cond.code yX12_late cX12_late 2 (some .int) :: gW) (sRm 5 116) (sPc Δ [.ref (sA Δ 504), .int (sJ p1)] i r) (sQi Δ (fun x i' r' => r = r' ∧ Q x i')) 0 0 (sFr Δ) := by
  refine Ct.i (ty := .int) (by decide) rfl (Nat.le_of_ble_eq_true rfl) (fun Γ Q0 hG fin => ?_)
  have hG : okG Γ Δ l (sRm 5 116) cX12_late "SchedularyModel" 2 := hG
  show V Γ Δ 542 false i r 0 0 Q0 0 [(0, .ref (sA Δ 504)), (1, .int (sJ p1))] []
  have jn32 : ∀ (k0j32 : Int) (ij32 : MI), sR k0j32 → okI ij32 → s32_X12_late k0j32 ij32 r Q → V Γ Δ 542 false ij32 r 0 0 Q0 32 [] [.int (sJ k0j32)] := by
    intro k0j32 ij32 hk0j32 hij32 h
    exact fin dX12_late_32 hk0j32 rfl hij32 hw ⟨rfl, h⟩
  refine V.aload_n (pc := 0) hG dX12_late_0 rfl 0 rfl ?_
  refine V.iconst (pc := 1) hG dX12_late_1 ?_
  refine V.putI (pc := 2) (ci := 14) (k := 0) (M := 49) (T := TX12) (o := 504) (kz := 0) hG a_504 a_504.n (by decide) hin_X12 rfl (by decide) (by decide) rfl kw_1692 rfl tyX12 tyX12_ok nmX12 rfl (ty := tyX12 0) (tyX12_ok 0 (by decide)) rfl rfl dX12_late_2 ?_
  refine V.aload_n (pc := 5) hG dX12_late_5 rfl 0 rfl ?_
  refine V.callVv (pc := 6) (As := []) (stk := []) hG (sm_X12_findSoon l Δ  ((okI_st hi ((sR_l rfl)))) hw h) mY_X12_findSoon kw_2089 kw_2091 kw_137 a_504 (by decide) (q := (RX12, TX12, 49)) rfl rfl ⟨Nat.le_of_ble_eq_true rfl, Nat.le_of_ble_eq_true rfl, Nat.le_of_ble_eq_true rfl, Nat.le_of_ble_eq_true rfl⟩ rfl (Nat.le_of_ble_eq_true rfl) dX12_late_6 rfl (fun i2 r3 hi5 hw6 hq7 => ?_)
  obtain ⟨e31, h⟩ := hq7
  subst e31
  refine V.aload_n (pc := 9) hG dX12_late_9 rfl 0 rfl ?_
  refine V.aload_n (pc := 10) hG dX12_late_10 rfl 0 rfl ?_
  refine V.iload_n (pc := 11) hG dX12_late_11 rfl 1 rfl ?_
  refine V.callVi (pc := 12) (As := [.int (sJ p1)]) (stk := [.ref (sA Δ 504)]) hG (sm_X12_noNode l Δ hp1 hi5 hw h) mY_X12_noNode kw_2068 kw_2070 kw_136 a_504 (by decide) (q := (RX12, TX12, 49)) rfl rfl ⟨Nat.le_of_ble_eq_true rfl, Nat.le_of_ble_eq_true rfl, Nat.le_of_ble_eq_true rfl, Nat.le_of_ble_eq_true rfl⟩ rfl (Nat.le_of_ble_eq_true rfl) dX12_late_12 rfl (fun v8 i9 r10 hv11 hi12 hw13 hq14 => ?_)
  obtain ⟨e28, e29, h⟩ := hq14
  subst e28
  subst e29
  refine V.iconst (pc := 15) hG dX12_late_15 ?_
  refine V.callVi (pc := 16) (As := [.int (sJ v8), .int (sJ 1)]) (stk := []) hG (sm_X12_fails l Δ hv11 ((sR_l rfl)) hi5 hw h) mY_X12_fails kw_1853 kw_1855 kw_106 a_504 (by decide) (q := (RX12, TX12, 49)) rfl rfl ⟨Nat.le_of_ble_eq_true rfl, Nat.le_of_ble_eq_true rfl, Nat.le_of_ble_eq_true rfl, Nat.le_of_ble_eq_true rfl⟩ rfl (Nat.le_of_ble_eq_true rfl) dX12_late_16 rfl (fun v15 i16 r17 hv18 hi19 hw20 hq21 => ?_)
  obtain ⟨e27, h⟩ := hq21
  subst e27
  obtain ⟨t23, f24⟩ := h
  refine V.if_eq (pc := 19) (tgt := 26) hG hv18 dX12_late_19 (by decide) (fun c22 => ?_) (fun c22 => ?_)
  · have h := t23 c22
    clear t23 f24
    refine V.aload_n (pc := 26) hG dX12_late_26 rfl 0 rfl ?_
    refine V.getR (x := 530) (pc := 27) (ci := 14) (k := 38) (M := 49) (T := TX12) (o := 504) (kz := 38) hG a_504 a_504.n (by decide) hin_X12 rfl (by decide) (by decide) rfl kw_1730 rfl ((hw).1 (504, 38, 530) (by decide)) (by decide) dX12_late_27 ?_
    refine V.iload_n (pc := 30) hG dX12_late_30 rfl 1 rfl ?_
    obtain ⟨g25, h⟩ := h
    refine V.iald (pc := 31) (z := 96) (o := 530) hG a_530 a_530.n hp1 g25 dX12_late_31 ?_
    refine V.pick [] rfl ?_
    exact jn32 (i16 530 p1) i16 ((hi19 _ _)) hi19 h
  · have h := f24 c22
    clear t23 f24
    refine V.iconst (pc := 22) hG dX12_late_22 ?_
    refine V.goto (pc := 23) (tgt := 32) hG dX12_late_23 (by decide) ?_
    refine V.pick [] rfl ?_
    exact jn32 0 i16 ((sR_l rfl)) hi19 h
set_option maxRecDepth 100000 in
set_option maxHeartbeats 4000000 in
theorem sm_X12_step (l : Launch) (Δ : Wd) {i r : MI} {p1 : Int} (hp1 : sR p1) {Q : Int → MI → Prop} (hi : okI i) (hw : Wf r) (h : wp_X12_step p1 i r Q) : Met l yX12_step (Cond.code yX12_step cX12_step 2 (some .int) :: gW) (sRm 6 140) (sPc Δ [.ref (sA Δ 504), .int (sJ p1)] i r) (sQi Δ (fun x i' r' => r = r' ∧ Q x i')) 0 0 (sFr Δ) := by
  refine Ct.i (ty := .int) (by decide) rfl (Nat.le_of_ble_eq_true rfl) (fun Γ Q0 hG fin => ?_)
  have hG : okG Γ Δ l (sRm 6 140) cX12_step "SchedularyModel" 2 := hG
  show V Γ Δ 542 false i r 0 0 Q0 0 [(0, .ref (sA Δ 504)), (1, .int (sJ p1))] []
  have jn32 : ∀ (k0j32 : Int) (ij32 : MI), sR k0j32 → okI ij32 → s32_X12_step k0j32 ij32 r Q → V Γ Δ 542 false ij32 r 0 0 Q0 32 [] [.int (sJ k0j32)] := by
    intro k0j32 ij32 hk0j32 hij32 h
    exact fin dX12_step_32 hk0j32 rfl hij32 hw ⟨rfl, h⟩
  refine V.aload_n (pc := 0) hG dX12_step_0 rfl 0 rfl ?_
  refine V.iconst (pc := 1) hG dX12_step_1 ?_
  refine V.putI (pc := 2) (ci := 14) (k := 0) (M := 49) (T := TX12) (o := 504) (kz := 0) hG a_504 a_504.n (by decide) hin_X12 rfl (by decide) (by decide) rfl kw_1692 rfl tyX12 tyX12_ok nmX12 rfl (ty := tyX12 0) (tyX12_ok 0 (by decide)) rfl rfl dX12_step_2 ?_
  refine V.aload_n (pc := 5) hG dX12_step_5 rfl 0 rfl ?_
  refine V.callVv (pc := 6) (As := []) (stk := []) hG (sm_X12_list l Δ  ((okI_st hi ((sR_l rfl)))) hw h) mY_X12_list kw_2101 kw_2103 kw_138 a_504 (by decide) (q := (RX12, TX12, 49)) rfl rfl ⟨Nat.le_of_ble_eq_true rfl, Nat.le_of_ble_eq_true rfl, Nat.le_of_ble_eq_true rfl, Nat.le_of_ble_eq_true rfl⟩ rfl (Nat.le_of_ble_eq_true rfl) dX12_step_6 rfl (fun i2 r3 hi5 hw6 hq7 => ?_)
  obtain ⟨e31, h⟩ := hq7
  subst e31
  refine V.aload_n (pc := 9) hG dX12_step_9 rfl 0 rfl ?_
  refine V.aload_n (pc := 10) hG dX12_step_10 rfl 0 rfl ?_
  refine V.iload_n (pc := 11) hG dX12_step_11 rfl 1 rfl ?_
  refine V.callVi (pc := 12) (As := [.int (sJ p1)]) (stk := [.ref (sA Δ 504)]) hG (sm_X12_noNode l Δ hp1 hi5 hw h) mY_X12_noNode kw_2068 kw_2070 kw_136 a_504 (by decide) (q := (RX12, TX12, 49)) rfl rfl ⟨Nat.le_of_ble_eq_true rfl, Nat.le_of_ble_eq_true rfl, Nat.le_of_ble_eq_true rfl, Nat.le_of_ble_eq_true rfl⟩ rfl (Nat.le_of_ble_eq_true rfl) dX12_step_12 rfl (fun v8 i9 r10 hv11 hi12 hw13 hq14 => ?_)
  obtain ⟨e28, e29, h⟩ := hq14
  subst e28
  subst e29
  refine V.iconst (pc := 15) hG dX12_step_15 ?_
  refine V.callVi (pc := 16) (As := [.int (sJ v8), .int (sJ 1)]) (stk := []) hG (sm_X12_fails l Δ hv11 ((sR_l rfl)) hi5 hw h) mY_X12_fails kw_1853 kw_1855 kw_106 a_504 (by decide) (q := (RX12, TX12, 49)) rfl rfl ⟨Nat.le_of_ble_eq_true rfl, Nat.le_of_ble_eq_true rfl, Nat.le_of_ble_eq_true rfl, Nat.le_of_ble_eq_true rfl⟩ rfl (Nat.le_of_ble_eq_true rfl) dX12_step_16 rfl (fun v15 i16 r17 hv18 hi19 hw20 hq21 => ?_)
  obtain ⟨e27, h⟩ := hq21
  subst e27
  obtain ⟨t23, f24⟩ := h
  refine V.if_eq (pc := 19) (tgt := 26) hG hv18 dX12_step_19 (by decide) (fun c22 => ?_) (fun c22 => ?_)
  · have h := t23 c22
    clear t23 f24
    refine V.aload_n (pc := 26) hG dX12_step_26 rfl 0 rfl ?_
    refine V.getR (x := 531) (pc := 27) (ci := 14) (k := 39) (M := 49) (T := TX12) (o := 504) (kz := 39) hG a_504 a_504.n (by decide) hin_X12 rfl (by decide) (by decide) rfl kw_1731 rfl ((hw).1 (504, 39, 531) (by decide)) (by decide) dX12_step_27 ?_
    refine V.iload_n (pc := 30) hG dX12_step_30 rfl 1 rfl ?_
    obtain ⟨g25, h⟩ := h
    refine V.iald (pc := 31) (z := 96) (o := 531) hG a_531 a_531.n hp1 g25 dX12_step_31 ?_
    refine V.pick [] rfl ?_
    exact jn32 (i16 531 p1) i16 ((hi19 _ _)) hi19 h
  · have h := f24 c22
    clear t23 f24
    refine V.iconst (pc := 22) hG dX12_step_22 ?_
    refine V.goto (pc := 23) (tgt := 32) hG dX12_step_23 (by decide) ?_
    refine V.pick [] rfl ?_
    exact jn32 0 i16 ((sR_l rfl)) hi19 h
