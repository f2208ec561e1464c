set_option maxRecDepth 100000 in
set_option maxHeartbeats 4000000 in
theorem sm_X12_parse (l : Launch) (Δ : Wd) {i r : MI}   {Q : Int → MI → Prop} (hi : okI i) (hw : Wf r) (h : wp_X12_parse  i r Q) : Met l yX12_parse (Cond.code yX12_parse cX12_parse 1 (some .int) :: gW) (sRm 5 109) (sPc Δ [.ref (sA Δ 504)] i r) (sQi Δ (fun x i' r' => r = r' ∧ Q x i')) 0 0 (sFr Δ) := by
  refine Ct.i (ty := .int) (by decide) rfl (Nat.le_of_ble_eq_true rfl) (fun Γ Q0 hG fin => ?_)
  have hG : okG Γ Δ l (sRm 5 109) cX12_parse "SchedularyModel" 1 := hG
  show V Γ Δ 542 false i r 0 0 Q0 0 [(0, .ref (sA Δ 504))] []
  have jn133 : ∀  (ij133 : MI), okI ij133 → s133_X12_parse ij133 r Q → V Γ Δ 542 false ij133 r 0 0 Q0 133 [(0, .ref (sA Δ 504))] [] := by
    intro ij133 hij133 h
    refine V.aload_n (pc := 133) hG dX12_parse_133 rfl 0 rfl ?_
    refine V.getI (pc := 134) (ci := 14) (k := 5) (M := 49) (T := TX12) (o := 504) (kz := 5) hG a_504 a_504.n (by decide) hin_X12 rfl (by decide) (by decide) rfl kw_1697 rfl dX12_parse_134 ?_
    exact fin dX12_parse_137 ((hij133 _ _)) rfl hij133 hw ⟨rfl, h⟩
  refine V.aload_n (pc := 0) hG dX12_parse_0 rfl 0 rfl ?_
  refine V.iconst (pc := 1) hG dX12_parse_1 ?_
  refine V.putI (pc := 2) (ci := 14) (k := 4) (M := 49) (T := TX12) (o := 504) (kz := 4) hG a_504 a_504.n (by decide) hin_X12 rfl (by decide) (by decide) rfl kw_1696 rfl tyX12 tyX12_ok nmX12 rfl (ty := tyX12 4) (tyX12_ok 4 (by decide)) rfl rfl dX12_parse_2 ?_
  refine V.aload_n (pc := 5) hG dX12_parse_5 rfl 0 rfl ?_
  refine V.iconst (pc := 6) hG dX12_parse_6 ?_
  refine V.putI (pc := 7) (ci := 14) (k := 5) (M := 49) (T := TX12) (o := 504) (kz := 5) hG a_504 a_504.n (by decide) hin_X12 rfl (by decide) (by decide) rfl kw_1697 rfl tyX12 tyX12_ok nmX12 rfl (ty := tyX12 5) (tyX12_ok 5 (by decide)) rfl rfl dX12_parse_7 ?_
  refine V.aload_n (pc := 10) hG dX12_parse_10 rfl 0 rfl ?_
  refine V.getR (x := 506) (pc := 11) (ci := 14) (k := 3) (M := 49) (T := TX12) (o := 504) (kz := 3) hG a_504 a_504.n (by decide) hin_X12 rfl (by decide) (by decide) rfl kw_1695 rfl ((hw).1 (504, 3, 506) (by decide)) (by decide) dX12_parse_11 ?_
  refine V.bipush (pc := 14) hG dX12_parse_14 (by decide) ?_
  refine V.iconst (pc := 16) hG dX12_parse_16 ?_
  refine V.iast (pc := 17) (z := 13) (o := 506) hG a_506 a_506.n ((sR_l rfl)) (by decide) dX12_parse_17 ?_
  refine V.aload_n (pc := 18) hG dX12_parse_18 rfl 0 rfl ?_
  refine V.iconst (pc := 19) hG dX12_parse_19 ?_
  refine V.iconst (pc := 20) hG dX12_parse_20 ?_
  refine V.callVi (pc := 21) (As := [.int (sJ 0), .int (sJ 1)]) (stk := []) hG (sm_X12_part l Δ ((sR_l rfl)) ((sR_l rfl)) ((okI_st ((okI_st ((okI_st hi ((sR_l rfl)))) ((sR_l rfl)))) ((sR_l rfl)))) hw h) mY_X12_part kw_1869 kw_1871 kw_108 a_504 (by decide) (q := (RX12, TX12, 49)) rfl rfl ⟨Nat.le_of_ble_eq_true rfl, Nat.le_of_ble_eq_true rfl, Nat.le_of_ble_eq_true rfl, Nat.le_of_ble_eq_true rfl⟩ rfl (Nat.le_of_ble_eq_true rfl) dX12_parse_21 rfl (fun v1 i2 r3 hv4 hi5 hw6 hq7 => ?_)
  obtain ⟨e86, h⟩ := hq7
  subst e86
  obtain ⟨t9, f10⟩ := h
  refine V.if_eq (pc := 24) (tgt := 133) hG hv4 dX12_parse_24 (by decide) (fun c8 => ?_) (fun c8 => ?_)
  · have h := t9 c8
    clear t9 f10
    exact jn133 i2 hi5 h
  · have h := f10 c8
    clear t9 f10
    refine V.aload_n (pc := 27) hG dX12_parse_27 rfl 0 rfl ?_
    refine V.bipush (pc := 28) hG dX12_parse_28 (by decide) ?_
    refine V.callVi (pc := 30) (As := [.int (sJ 61)]) (stk := []) hG (sm_X12_eats l Δ ((sR_l rfl)) hi5 hw h) mY_X12_eats kw_1877 kw_1879 kw_110 a_504 (by decide) (q := (RX12, TX12, 49)) rfl rfl ⟨Nat.le_of_ble_eq_true rfl, Nat.le_of_ble_eq_true rfl, Nat.le_of_ble_eq_true rfl, Nat.le_of_ble_eq_true rfl⟩ rfl (Nat.le_of_ble_eq_true rfl) dX12_parse_30 rfl (fun v11 i12 r13 hv14 hi15 hw16 hq17 => ?_)
    obtain ⟨e84, h⟩ := hq17
    subst e84
    obtain ⟨t19, f20⟩ := h
    refine V.if_eq (pc := 33) (tgt := 133) hG hv14 dX12_parse_33 (by decide) (fun c18 => ?_) (fun c18 => ?_)
    · have h := t19 c18
      clear t19 f20
      exact jn133 i12 hi15 h
    · have h := f20 c18
      clear t19 f20
      refine V.aload_n (pc := 36) hG dX12_parse_36 rfl 0 rfl ?_
      refine V.iconst (pc := 37) hG dX12_parse_37 ?_
      refine V.iconst (pc := 38) hG dX12_parse_38 ?_
      refine V.callVi (pc := 39) (As := [.int (sJ 4), .int (sJ 0)]) (stk := []) hG (sm_X12_part l Δ ((sR_l rfl)) ((sR_l rfl)) hi15 hw h) mY_X12_part kw_1869 kw_1871 kw_108 a_504 (by decide) (q := (RX12, TX12, 49)) rfl rfl ⟨Nat.le_of_ble_eq_true rfl, Nat.le_of_ble_eq_true rfl, Nat.le_of_ble_eq_true rfl, Nat.le_of_ble_eq_true rfl⟩ rfl (Nat.le_of_ble_eq_true rfl) dX12_parse_39 rfl (fun v21 i22 r23 hv24 hi25 hw26 hq27 => ?_)
      obtain ⟨e82, h⟩ := hq27
      subst e82
      obtain ⟨t29, f30⟩ := h
      refine V.if_eq (pc := 42) (tgt := 133) hG hv24 dX12_parse_42 (by decide) (fun c28 => ?_) (fun c28 => ?_)
      · have h := t29 c28
        clear t29 f30
        exact jn133 i22 hi25 h
      · have h := f30 c28
        clear t29 f30
        refine V.aload_n (pc := 45) hG dX12_parse_45 rfl 0 rfl ?_
        refine V.getI (pc := 46) (ci := 14) (k := 4) (M := 49) (T := TX12) (o := 504) (kz := 4) hG a_504 a_504.n (by decide) hin_X12 rfl (by decide) (by decide) rfl kw_1696 rfl dX12_parse_46 ?_
        refine V.aload_n (pc := 49) hG dX12_parse_49 rfl 0 rfl ?_
        refine V.getI (pc := 50) (ci := 14) (k := 1) (M := 49) (T := TX12) (o := 504) (kz := 1) hG a_504 a_504.n (by decide) hin_X12 rfl (by decide) (by decide) rfl kw_1693 rfl dX12_parse_50 ?_
        obtain ⟨t32, f33⟩ := h
        refine V.icmp_ge (pc := 53) (tgt := 133) hG ((hi25 _ _)) ((hi25 _ _)) dX12_parse_53 (by decide) (fun c31 => ?_) (fun c31 => ?_)
        · have h := t32 c31
          clear t32 f33
          exact jn133 i22 hi25 h
        · have h := f33 c31
          clear t32 f33
          refine V.ldcS (pc := 56) (k := 1) (tx := "+-*&|^l") hG (by decide) dX12_parse_56 ?_
          refine V.aload_n (pc := 58) hG dX12_parse_58 rfl 0 rfl ?_
          refine V.getR (x := 505) (pc := 59) (ci := 14) (k := 2) (M := 49) (T := TX12) (o := 504) (kz := 2) hG a_504 a_504.n (by decide) hin_X12 rfl (by decide) (by decide) rfl kw_1694 rfl ((hw).1 (504, 2, 505) (by decide)) (by decide) dX12_parse_59 ?_
          refine V.aload_n (pc := 62) hG dX12_parse_62 rfl 0 rfl ?_
          refine V.getI (pc := 63) (ci := 14) (k := 4) (M := 49) (T := TX12) (o := 504) (kz := 4) hG a_504 a_504.n (by decide) hin_X12 rfl (by decide) (by decide) rfl kw_1696 rfl dX12_parse_63 ?_
          obtain ⟨g34, h⟩ := h
          refine V.cald (pc := 66) (z := 24) (o := 505) hG a_505 a_505.n ((hi25 _ _)) g34 dX12_parse_66 ?_
          refine V.callVSi (pc := 67) (As := [.int (sJ (i22 505 (i22 504 4)))]) (stk := []) hG (sm_J0_indexOf_0f7a4 l Δ (by decide) ((hi25 _ _)) hi25 hw h) mY_J0_indexOf_0f7a4 kw_1852 kw_652 kw_653 (by decide) rfl ⟨Nat.le_of_ble_eq_true rfl, Nat.le_of_ble_eq_true rfl, Nat.le_of_ble_eq_true rfl, Nat.le_of_ble_eq_true rfl⟩ rfl (Nat.le_of_ble_eq_true rfl) dX12_parse_67 rfl (fun v35 i36 r37 hv38 hi39 hw40 hq41 => ?_)
          obtain ⟨e79, e80, h⟩ := hq41
          subst e79
          subst e80
          obtain ⟨t43, f44⟩ := h
          refine V.if_ge (pc := 70) (tgt := 81) hG hv38 dX12_parse_70 (by decide) (fun c42 => ?_) (fun c42 => ?_)
          · have h := t43 c42
            clear t43 f44
            refine V.aload_n (pc := 81) hG dX12_parse_81 rfl 0 rfl ?_
            refine V.getR (x := 506) (pc := 82) (ci := 14) (k := 3) (M := 49) (T := TX12) (o := 504) (kz := 3) hG a_504 a_504.n (by decide) hin_X12 rfl (by decide) (by decide) rfl kw_1695 rfl ((hw).1 (504, 3, 506) (by decide)) (by decide) dX12_parse_82 ?_
            refine V.bipush (pc := 85) hG dX12_parse_85 (by decide) ?_
            refine V.aload_n (pc := 87) hG dX12_parse_87 rfl 0 rfl ?_
            refine V.getR (x := 505) (pc := 88) (ci := 14) (k := 2) (M := 49) (T := TX12) (o := 504) (kz := 2) hG a_504 a_504.n (by decide) hin_X12 rfl (by decide) (by decide) rfl kw_1694 rfl ((hw).1 (504, 2, 505) (by decide)) (by decide) dX12_parse_88 ?_
            refine V.aload_n (pc := 91) hG dX12_parse_91 rfl 0 rfl ?_
            refine V.getI (pc := 92) (ci := 14) (k := 4) (M := 49) (T := TX12) (o := 504) (kz := 4) hG a_504 a_504.n (by decide) hin_X12 rfl (by decide) (by decide) rfl kw_1696 rfl dX12_parse_92 ?_
            obtain ⟨g45, h⟩ := h
            refine V.cald (pc := 95) (z := 24) (o := 505) hG a_505 a_505.n ((hi25 _ _)) g45 dX12_parse_95 ?_
            refine V.iast (pc := 96) (z := 13) (o := 506) hG a_506 a_506.n ((sR_l rfl)) (by decide) dX12_parse_96 ?_
            refine V.aload_n (pc := 97) hG dX12_parse_97 rfl 0 rfl ?_
            refine V.dup (pc := 98) hG dX12_parse_98 rfl ?_
            refine V.getI (pc := 99) (ci := 14) (k := 4) (M := 49) (T := TX12) (o := 504) (kz := 4) hG a_504 a_504.n (by decide) hin_X12 rfl (by decide) (by decide) rfl kw_1696 rfl dX12_parse_99 ?_
            refine V.iconst (pc := 102) hG dX12_parse_102 ?_
            refine V.iadd (pc := 103) hG dX12_parse_103 ?_
            refine V.putI (pc := 104) (ci := 14) (k := 4) (M := 49) (T := TX12) (o := 504) (kz := 4) hG a_504 a_504.n (by decide) hin_X12 rfl (by decide) (by decide) rfl kw_1696 rfl tyX12 tyX12_ok nmX12 rfl (ty := tyX12 4) (tyX12_ok 4 (by decide)) rfl rfl dX12_parse_104 ?_
            refine V.aload_n (pc := 107) hG dX12_parse_107 rfl 0 rfl ?_
            refine V.bipush (pc := 108) hG dX12_parse_108 (by decide) ?_
            refine V.iconst (pc := 110) hG dX12_parse_110 ?_
            refine V.callVi (pc := 111) (As := [.int (sJ 8), .int (sJ 0)]) (stk := []) hG (sm_X12_part l Δ ((sR_l rfl)) ((sR_l rfl)) ((okI_st ((okI_st hi25 ((hi25 _ _)))) ((sR_wr _)))) hw h) mY_X12_part kw_1869 kw_1871 kw_108 a_504 (by decide) (q := (RX12, TX12, 49)) rfl rfl ⟨Nat.le_of_ble_eq_true rfl, Nat.le_of_ble_eq_true rfl, Nat.le_of_ble_eq_true rfl, Nat.le_of_ble_eq_true rfl⟩ rfl (Nat.le_of_ble_eq_true rfl) dX12_parse_111 rfl (fun v46 i47 r48 hv49 hi50 hw51 hq52 => ?_)
            obtain ⟨e69, h⟩ := hq52
            subst e69
            obtain ⟨t54, f55⟩ := h
            refine V.if_eq (pc := 114) (tgt := 133) hG hv49 dX12_parse_114 (by decide) (fun c53 => ?_) (fun c53 => ?_)
            · have h := t54 c53
              clear t54 f55
              exact jn133 i47 hi50 h
            · have h := f55 c53
              clear t54 f55
              refine V.aload_n (pc := 117) hG dX12_parse_117 rfl 0 rfl ?_
              refine V.getI (pc := 118) (ci := 14) (k := 4) (M := 49) (T := TX12) (o := 504) (kz := 4) hG a_504 a_504.n (by decide) hin_X12 rfl (by decide) (by decide) rfl kw_1696 rfl dX12_parse_118 ?_
              refine V.aload_n (pc := 121) hG dX12_parse_121 rfl 0 rfl ?_
              refine V.getI (pc := 122) (ci := 14) (k := 1) (M := 49) (T := TX12) (o := 504) (kz := 1) hG a_504 a_504.n (by decide) hin_X12 rfl (by decide) (by decide) rfl kw_1693 rfl dX12_parse_122 ?_
              obtain ⟨t57, f58⟩ := h
              refine V.icmp_ge (pc := 125) (tgt := 133) hG ((hi50 _ _)) ((hi50 _ _)) dX12_parse_125 (by decide) (fun c56 => ?_) (fun c56 => ?_)
              · have h := t57 c56
                clear t57 f58
                exact jn133 i47 hi50 h
              · have h := f58 c56
                clear t57 f58
                refine V.aload_n (pc := 128) hG dX12_parse_128 rfl 0 rfl ?_
                refine V.callVi (pc := 129) (As := []) (stk := []) hG (sm_X12_wrong l Δ  hi50 hw h) mY_X12_wrong kw_1881 kw_1883 kw_111 a_504 (by decide) (q := (RX12, TX12, 49)) rfl rfl ⟨Nat.le_of_ble_eq_true rfl, Nat.le_of_ble_eq_true rfl, Nat.le_of_ble_eq_true rfl, Nat.le_of_ble_eq_true rfl⟩ rfl (Nat.le_of_ble_eq_true rfl) dX12_parse_129 rfl (fun v59 i60 r61 hv62 hi63 hw64 hq65 => ?_)
                obtain ⟨e67, h⟩ := hq65
                subst e67
                refine V.pop (pc := 132) hG dX12_parse_132 rfl ?_
                exact jn133 i60 hi63 h
          · have h := f44 c42
            clear t43 f44
            refine V.aload_n (pc := 73) hG dX12_parse_73 rfl 0 rfl ?_
            refine V.callVi (pc := 74) (As := []) (stk := []) hG (sm_X12_wrong l Δ  hi25 hw h) mY_X12_wrong kw_1881 kw_1883 kw_111 a_504 (by decide) (q := (RX12, TX12, 49)) rfl rfl ⟨Nat.le_of_ble_eq_true rfl, Nat.le_of_ble_eq_true rfl, Nat.le_of_ble_eq_true rfl, Nat.le_of_ble_eq_true rfl⟩ rfl (Nat.le_of_ble_eq_true rfl) dX12_parse_74 rfl (fun v70 i71 r72 hv73 hi74 hw75 hq76 => ?_)
            obtain ⟨e78, h⟩ := hq76
            subst e78
            refine V.pop (pc := 77) hG dX12_parse_77 rfl ?_
            refine V.goto (pc := 78) (tgt := 133) hG dX12_parse_78 (by decide) ?_
            exact jn133 i71 hi74 h
set_option maxRecDepth 100000 in
set_option maxHeartbeats 4000000 in
theorem sm_X12_fault (l : Launch) (Δ : Wd) {i r : MI}   {Q : Int → MI → Prop} (hi : okI i) (hw : Wf r) (h : wp_X12_fault  i r Q) : Met l yX12_fault (Cond.code yX12_fault cX12_fault 1 (some .int) :: gW) (sRm 6 129) (sPc Δ [.ref (sA Δ 504)] i r) (sQi Δ (fun x i' r' => r = r' ∧ Q x i')) 0 0 (sFr Δ) := by
  refine Ct.i (ty := .int) (by decide) rfl (Nat.le_of_ble_eq_true rfl) (fun Γ Q0 hG fin => ?_)
  have hG : okG Γ Δ l (sRm 6 129) cX12_fault "SchedularyModel" 1 := hG
  show V Γ Δ 542 false i r 0 0 Q0 0 [(0, .ref (sA Δ 504))] []
  refine V.aload_n (pc := 0) hG dX12_fault_0 rfl 0 rfl ?_
  refine V.iconst (pc := 1) hG dX12_fault_1 ?_
  refine V.putI (pc := 2) (ci := 14) (k := 0) (M := 49) (T := TX12) (o := 504) (kz := 0) hG a_504 a_504.n (by decide) hin_X12 rfl (by decide) (by decide) rfl kw_1692 rfl tyX12 tyX12_ok nmX12 rfl (ty := tyX12 0) (tyX12_ok 0 (by decide)) rfl rfl dX12_fault_2 ?_
  refine V.aload_n (pc := 5) hG dX12_fault_5 rfl 0 rfl ?_
  refine V.callVi (pc := 6) (As := []) (stk := []) hG (sm_X12_parse l Δ  ((okI_st hi ((sR_l rfl)))) hw h) mY_X12_parse kw_1865 kw_1867 kw_107 a_504 (by decide) (q := (RX12, TX12, 49)) rfl rfl ⟨Nat.le_of_ble_eq_true rfl, Nat.le_of_ble_eq_true rfl, Nat.le_of_ble_eq_true rfl, Nat.le_of_ble_eq_true rfl⟩ rfl (Nat.le_of_ble_eq_true rfl) dX12_fault_6 rfl (fun v1 i2 r3 hv4 hi5 hw6 hq7 => ?_)
  obtain ⟨e9, h⟩ := hq7
  subst e9
  exact fin dX12_fault_9 hv4 rfl hi5 hw ⟨rfl, h⟩
set_option maxRecDepth 100000 in
set_option maxHeartbeats 4000000 in
theorem sm_X12_keep (l : Launch) (Δ : Wd) {i r : MI} {p1 : Int} (hp1 : sR p1) {Q : MI → Prop} (hi : okI i) (hw : Wf r) (h : wp_X12_keep p1 i r Q) : Met l yX12_keep (Cond.code yX12_keep cX12_keep 3 none :: gW) (sRm 0 0) (sPc Δ [.ref (sA Δ 504), .int (sJ p1)] i r) (sQv Δ (fun i' r' => r = r' ∧ Q i')) 0 0 (sFr Δ) := by
  refine Ct.v (by decide) rfl (Nat.le_of_ble_eq_true rfl) (fun Γ Q0 hG fin => ?_)
  have hG : okG Γ Δ l (sRm 0 0) cX12_keep "SchedularyModel" 3 := hG
  show V Γ Δ 542 false i r 0 0 Q0 0 [(0, .ref (sA Δ 504)), (1, .int (sJ p1))] []
  refine V.iconst (pc := 0) hG dX12_keep_0 ?_
  refine V.istore_n (pc := 1) (lv' := [(2, .int (sJ 0)), (0, .ref (sA Δ 504)), (1, .int (sJ p1))]) hG dX12_keep_1 rfl (by decide) rfl ?_
  obtain ⟨n6, h⟩ := h
  have lp2 : ∀ (m2 : Nat) (x2_2 : Int) (i_2 : MI), sR x2_2 → okI i_2 → LoopP (b2_X12_keep p1 r Q) m2 (x2_2, i_2) → V Γ Δ 542 false i_2 r 0 0 Q0 2 [(0, .ref (sA Δ 504)), (1, .int (sJ p1)), (2, .int (sJ x2_2))] [] := by
    intro m2
    induction m2 with
    | zero => intro x2_2 i_2 hx2_2 hi_2 h; exact h.elim
    | succ m2 ih2 =>
      intro x2_2 i_2 hx2_2 hi_2 h
      have h := LoopP_succ h
      refine V.iload_n (pc := 2) hG dX12_keep_2 rfl 2 rfl ?_
      refine V.bipush (pc := 3) hG dX12_keep_3 (by decide) ?_
      obtain ⟨t8, f9⟩ := h
      refine V.icmp_ge (pc := 5) (tgt := 31) hG hx2_2 ((sR_l rfl)) dX12_keep_5 (by decide) (fun c7 => ?_) (fun c7 => ?_)
      · have h := t8 c7
        clear t8 f9
        refine V.aload_n (pc := 31) hG dX12_keep_31 rfl 0 rfl ?_
        refine V.iconst (pc := 32) hG dX12_keep_32 ?_
        refine V.putI (pc := 33) (ci := 14) (k := 1) (M := 49) (T := TX12) (o := 504) (kz := 1) hG a_504 a_504.n (by decide) hin_X12 rfl (by decide) (by decide) rfl kw_1693 rfl tyX12 tyX12_ok nmX12 rfl (ty := tyX12 1) (tyX12_ok 1 (by decide)) rfl rfl dX12_keep_33 ?_
        exact fin dX12_keep_36 ((okI_st hi_2 ((sR_l rfl)))) hw ⟨rfl, h⟩
      · have h := f9 c7
        clear t8 f9
        refine V.aload_n (pc := 8) hG dX12_keep_8 rfl 0 rfl ?_
        refine V.getR (x := 507) (pc := 9) (ci := 14) (k := 7) (M := 49) (T := TX12) (o := 504) (kz := 7) hG a_504 a_504.n (by decide) hin_X12 rfl (by decide) (by decide) rfl kw_1699 rfl ((hw).1 (504, 7, 507) (by decide)) (by decide) dX12_keep_9 ?_
        refine V.bipush (pc := 12) hG dX12_keep_12 (by decide) ?_
        refine V.iload_n (pc := 14) hG dX12_keep_14 rfl 1 rfl ?_
        refine V.imul (pc := 15) hG dX12_keep_15 ?_
        refine V.iload_n (pc := 16) hG dX12_keep_16 rfl 2 rfl ?_
        refine V.iadd (pc := 17) hG dX12_keep_17 ?_
        refine V.aload_n (pc := 18) hG dX12_keep_18 rfl 0 rfl ?_
        refine V.getR (x := 506) (pc := 19) (ci := 14) (k := 3) (M := 49) (T := TX12) (o := 504) (kz := 3) hG a_504 a_504.n (by decide) hin_X12 rfl (by decide) (by decide) rfl kw_1695 rfl ((hw).1 (504, 3, 506) (by decide)) (by decide) dX12_keep_19 ?_
        refine V.iload_n (pc := 22) hG dX12_keep_22 rfl 2 rfl ?_
        obtain ⟨g10, h⟩ := h
        refine V.iald (pc := 23) (z := 13) (o := 506) hG a_506 a_506.n hx2_2 g10 dX12_keep_23 ?_
        obtain ⟨g11, h⟩ := h
        refine V.iast (pc := 24) (z := 156) (o := 507) hG a_507 a_507.n ((sR_wr _)) g11 dX12_keep_24 ?_
        refine V.iinc (pc := 25) (lv' := [(2, .int (sJ (wr (x2_2 + 1)))), (0, .ref (sA Δ 504)), (1, .int (sJ p1))]) hG dX12_keep_25 2 rfl (by decide) rfl ?_
        refine V.goto (pc := 28) (tgt := 2) hG dX12_keep_28 (by decide) ?_
        refine V.pick [1, 2, 0] rfl ?_
        exact ih2 (wr (x2_2 + 1)) (st i_2 507 (wr (wr (13 * p1) + x2_2)) (i_2 506 x2_2)) ((sR_wr _)) ((okI_st hi_2 ((hi_2 _ _)))) h
  refine V.pick [1, 2, 0] rfl ?_
  exact lp2 n6 0 i ((sR_l rfl)) hi h
set_option maxRecDepth 100000 in
set_option maxHeartbeats 4000000 in
theorem sm_X12_add (l : Launch) (Δ : Wd) {i r : MI}   {Q : Int → MI → Prop} (hi : okI i) (hw : Wf r) (h : wp_X12_add  i r Q) : Met l yX12_add (Cond.code yX12_add cX12_add 1 (some .int) :: gW) (sRm 6 129) (sPc Δ [.ref (sA Δ 504)] i r) (sQi Δ (fun x i' r' => r = r' ∧ Q x i')) 0 0 (sFr Δ) := by
  refine Ct.i (ty := .int) (by decide) rfl (Nat.le_of_ble_eq_true rfl) (fun Γ Q0 hG fin => ?_)
  have hG : okG Γ Δ l (sRm 6 129) cX12_add "SchedularyModel" 1 := hG
  show V Γ Δ 542 false i r 0 0 Q0 0 [(0, .ref (sA Δ 504))] []
  have jn64 : ∀  (ij64 : MI), okI ij64 → s64_X12_add ij64 r Q → V Γ Δ 542 false ij64 r 0 0 Q0 64 [] [] := by
    intro ij64 hij64 h
    refine V.iconst (pc := 64) hG dX12_add_64 ?_
    exact fin dX12_add_65 ((sR_l rfl)) rfl hij64 hw ⟨rfl, h⟩
  have jn57 : ∀ (k1j57 : Int) (ij57 : MI), sR k1j57 → okI ij57 → s57_X12_add k1j57 ij57 r Q → V Γ Δ 542 false ij57 r 0 0 Q0 57 [(0, .ref (sA Δ 504))] [.int (sJ k1j57), .ref (sA Δ 504)] := by
    intro k1j57 ij57 hk1j57 hij57 h
    refine V.iconst (pc := 57) hG dX12_add_57 ?_
    refine V.callVi (pc := 58) (As := [.int (sJ k1j57), .int (sJ 2)]) (stk := []) hG (sm_X12_fails l Δ hk1j57 ((sR_l rfl)) hij57 hw h) mY_X12_fails kw_1853 kw_1855 kw_106 a_504 (by decide) (q := (RX12, TX12, 49)) rfl rfl ⟨Nat.le_of_ble_eq_true rfl, Nat.le_of_ble_eq_true rfl, Nat.le_of_ble_eq_true rfl, Nat.le_of_ble_eq_true rfl⟩ rfl (Nat.le_of_ble_eq_true rfl) dX12_add_58 rfl (fun v22 i23 r24 hv25 hi26 hw27 hq28 => ?_)
    obtain ⟨e42, h⟩ := hq28
    subst e42
    obtain ⟨t30, f31⟩ := h
    refine V.if_eq (pc := 61) (tgt := 66) hG hv25 dX12_add_61 (by decide) (fun c29 => ?_) (fun c29 => ?_)
    · have h := t30 c29
      clear t30 f31
      refine V.aload_n (pc := 66) hG dX12_add_66 rfl 0 rfl ?_
      refine V.aload_n (pc := 67) hG dX12_add_67 rfl 0 rfl ?_
      refine V.getI (pc := 68) (ci := 14) (k := 6) (M := 49) (T := TX12) (o := 504) (kz := 6) hG a_504 a_504.n (by decide) hin_X12 rfl (by decide) (by decide) rfl kw_1698 rfl dX12_add_68 ?_
      refine V.callVv (pc := 71) (As := [.int (sJ (i23 504 6))]) (stk := []) hG (sm_X12_keep l Δ ((hi26 _ _)) hi26 hw h) mY_X12_keep kw_1902 kw_1904 kw_115 a_504 (by decide) (q := (RX12, TX12, 49)) rfl rfl ⟨Nat.le_of_ble_eq_true rfl, Nat.le_of_ble_eq_true rfl, Nat.le_of_ble_eq_true rfl, Nat.le_of_ble_eq_true rfl⟩ rfl (Nat.le_of_ble_eq_true rfl) dX12_add_71 rfl (fun i33 r34 hi36 hw37 hq38 => ?_)
      obtain ⟨e40, h⟩ := hq38
      subst e40
      refine V.aload_n (pc := 74) hG dX12_add_74 rfl 0 rfl ?_
      refine V.dup (pc := 75) hG dX12_add_75 rfl ?_
      refine V.getI (pc := 76) (ci := 14) (k := 6) (M := 49) (T := TX12) (o := 504) (kz := 6) hG a_504 a_504.n (by decide) hin_X12 rfl (by decide) (by decide) rfl kw_1698 rfl dX12_add_76 ?_
      refine V.iconst (pc := 79) hG dX12_add_79 ?_
      refine V.iadd (pc := 80) hG dX12_add_80 ?_
      refine V.putI (pc := 81) (ci := 14) (k := 6) (M := 49) (T := TX12) (o := 504) (kz := 6) hG a_504 a_504.n (by decide) hin_X12 rfl (by decide) (by decide) rfl kw_1698 rfl tyX12 tyX12_ok nmX12 rfl (ty := tyX12 6) (tyX12_ok 6 (by decide)) rfl rfl dX12_add_81 ?_
      refine V.aload_n (pc := 84) hG dX12_add_84 rfl 0 rfl ?_
      refine V.getI (pc := 85) (ci := 14) (k := 6) (M := 49) (T := TX12) (o := 504) (kz := 6) hG a_504 a_504.n (by decide) hin_X12 rfl (by decide) (by decide) rfl kw_1698 rfl dX12_add_85 ?_
      exact fin dX12_add_88 (((okI_st hi36 ((sR_wr _))) _ _)) rfl ((okI_st hi36 ((sR_wr _)))) hw ⟨rfl, h⟩
    · have h := f31 c29
      clear t30 f31
      refine V.pick [] rfl ?_
      exact jn64 i23 hi26 h
  have jn52 : ∀  (ij52 : MI), okI ij52 → s52_X12_add ij52 r Q → V Γ Δ 542 false ij52 r 0 0 Q0 52 [(0, .ref (sA Δ 504))] [.ref (sA Δ 504)] := by
    intro ij52 hij52 h
    refine V.iconst (pc := 52) hG dX12_add_52 ?_
    refine V.goto (pc := 53) (tgt := 57) hG dX12_add_53 (by decide) ?_
    exact jn57 1 ij52 ((sR_l rfl)) hij52 h
  have jn19 : ∀ (k1j19 : Int) (ij19 : MI), sR k1j19 → okI ij19 → s19_X12_add k1j19 ij19 r Q → V Γ Δ 542 false ij19 r 0 0 Q0 19 [(0, .ref (sA Δ 504))] [.int (sJ k1j19), .ref (sA Δ 504)] := by
    intro k1j19 ij19 hk1j19 hij19 h
    refine V.iconst (pc := 19) hG dX12_add_19 ?_
    refine V.callVi (pc := 20) (As := [.int (sJ k1j19), .int (sJ 1)]) (stk := []) hG (sm_X12_fails l Δ hk1j19 ((sR_l rfl)) hij19 hw h) mY_X12_fails kw_1853 kw_1855 kw_106 a_504 (by decide) (q := (RX12, TX12, 49)) rfl rfl ⟨Nat.le_of_ble_eq_true rfl, Nat.le_of_ble_eq_true rfl, Nat.le_of_ble_eq_true rfl, Nat.le_of_ble_eq_true rfl⟩ rfl (Nat.le_of_ble_eq_true rfl) dX12_add_20 rfl (fun v61 i62 r63 hv64 hi65 hw66 hq67 => ?_)
    obtain ⟨e78, h⟩ := hq67
    subst e78
    obtain ⟨f70, t69⟩ := h
    refine V.if_ne (pc := 23) (tgt := 64) hG hv64 dX12_add_23 (by decide) (fun c68 => ?_) (fun c68 => ?_)
    · have h := t69 c68
      clear t69 f70
      refine V.pick [] rfl ?_
      exact jn64 i62 hi65 h
    · have h := f70 c68
      clear t69 f70
      refine V.aload_n (pc := 26) hG dX12_add_26 rfl 0 rfl ?_
      refine V.aload_n (pc := 27) hG dX12_add_27 rfl 0 rfl ?_
      refine V.getI (pc := 28) (ci := 14) (k := 6) (M := 49) (T := TX12) (o := 504) (kz := 6) hG a_504 a_504.n (by decide) hin_X12 rfl (by decide) (by decide) rfl kw_1698 rfl dX12_add_28 ?_
      refine V.bipush (pc := 31) hG dX12_add_31 (by decide) ?_
      obtain ⟨t72, f73⟩ := h
      refine V.icmp_eq (pc := 33) (tgt := 52) hG ((hi65 _ _)) ((sR_l rfl)) dX12_add_33 (by decide) (fun c71 => ?_) (fun c71 => ?_)
      · have h := t72 c71
        clear t72 f73
        exact jn52 i62 hi65 h
      · have h := f73 c71
        clear t72 f73
        refine V.aload_n (pc := 36) hG dX12_add_36 rfl 0 rfl ?_
        refine V.getI (pc := 37) (ci := 14) (k := 6) (M := 49) (T := TX12) (o := 504) (kz := 6) hG a_504 a_504.n (by decide) hin_X12 rfl (by decide) (by decide) rfl kw_1698 rfl dX12_add_37 ?_
        refine V.iconst (pc := 40) hG dX12_add_40 ?_
        refine V.iadd (pc := 41) hG dX12_add_41 ?_
        refine V.aload_n (pc := 42) hG dX12_add_42 rfl 0 rfl ?_
        refine V.getI (pc := 43) (ci := 14) (k := 10) (M := 49) (T := TX12) (o := 504) (kz := 10) hG a_504 a_504.n (by decide) hin_X12 rfl (by decide) (by decide) rfl kw_1702 rfl dX12_add_43 ?_
        refine V.imul (pc := 46) hG dX12_add_46 ?_
        refine V.bipush (pc := 47) hG dX12_add_47 (by decide) ?_
        obtain ⟨t75, f76⟩ := h
        refine V.icmp_le (pc := 49) (tgt := 56) hG ((sR_wr _)) ((sR_l rfl)) dX12_add_49 (by decide) (fun c74 => ?_) (fun c74 => ?_)
        · have h := t75 c74
          clear t75 f76
          refine V.iconst (pc := 56) hG dX12_add_56 ?_
          exact jn57 0 i62 ((sR_l rfl)) hi65 h
        · have h := f76 c74
          clear t75 f76
          exact jn52 i62 hi65 h
  refine V.aload_n (pc := 0) hG dX12_add_0 rfl 0 rfl ?_
  refine V.iconst (pc := 1) hG dX12_add_1 ?_
  refine V.putI (pc := 2) (ci := 14) (k := 0) (M := 49) (T := TX12) (o := 504) (kz := 0) hG a_504 a_504.n (by decide) hin_X12 rfl (by decide) (by decide) rfl kw_1692 rfl tyX12 tyX12_ok nmX12 rfl (ty := tyX12 0) (tyX12_ok 0 (by decide)) rfl rfl dX12_add_2 ?_
  refine V.aload_n (pc := 5) hG dX12_add_5 rfl 0 rfl ?_
  refine V.aload_n (pc := 6) hG dX12_add_6 rfl 0 rfl ?_
  refine V.callVi (pc := 7) (As := []) (stk := [.ref (sA Δ 504)]) hG (sm_X12_parse l Δ  ((okI_st hi ((sR_l rfl)))) hw h) mY_X12_parse kw_1865 kw_1867 kw_107 a_504 (by decide) (q := (RX12, TX12, 49)) rfl rfl ⟨Nat.le_of_ble_eq_true rfl, Nat.le_of_ble_eq_true rfl, Nat.le_of_ble_eq_true rfl, Nat.le_of_ble_eq_true rfl⟩ rfl (Nat.le_of_ble_eq_true rfl) dX12_add_7 rfl (fun v79 i80 r81 hv82 hi83 hw84 hq85 => ?_)
  obtain ⟨e90, h⟩ := hq85
  subst e90
  refine V.iconst (pc := 10) hG dX12_add_10 ?_
  obtain ⟨t87, f88⟩ := h
  refine V.icmp_eq (pc := 11) (tgt := 18) hG hv82 ((sR_l rfl)) dX12_add_11 (by decide) (fun c86 => ?_) (fun c86 => ?_)
  · have h := t87 c86
    clear t87 f88
    refine V.iconst (pc := 18) hG dX12_add_18 ?_
    exact jn19 0 i80 ((sR_l rfl)) hi83 h
  · have h := f88 c86
    clear t87 f88
    refine V.iconst (pc := 14) hG dX12_add_14 ?_
    refine V.goto (pc := 15) (tgt := 19) hG dX12_add_15 (by decide) ?_
    exact jn19 1 i80 ((sR_l rfl)) hi83 h
set_option maxRecDepth 100000 in
set_option maxHeartbeats 4000000 in
theorem sm_X12_addNode (l : Launch) (Δ : Wd) {i r : MI} {p1 : Int} {p2 : Int} {p3 : Int} (hp1 : sR p1) (hp2 : sR p2) (hp3 : sR p3) {Q : MI → Prop} (hi : okI i) (hw : Wf r) (h : wp_X12_addNode p1 p2 p3 i r Q) : Met l yX12_addNode (Cond.code yX12_addNode cX12_addNode 4 none :: gW) (sRm 0 0) (sPc Δ [.ref (sA Δ 504), .int (sJ p1), .int (sJ p2), .int (sJ p3)] i r) (sQv Δ (fun i' r' => r = r' ∧ Q i')) 0 0 (sFr Δ) := by
  refine Ct.v (by decide) rfl (Nat.le_of_ble_eq_true rfl) (fun Γ Q0 hG fin => ?_)
  have hG : okG Γ Δ l (sRm 0 0) cX12_addNode "SchedularyModel" 4 := hG
  show V Γ Δ 542 false i r 0 0 Q0 0 [(0, .ref (sA Δ 504)), (1, .int (sJ p1)), (2, .int (sJ p2)), (3, .int (sJ p3))] []
  refine V.aload_n (pc := 0) hG dX12_addNode_0 rfl 0 rfl ?_
  refine V.getR (x := 515) (pc := 1) (ci := 14) (k := 22) (M := 49) (T := TX12) (o := 504) (kz := 22) hG a_504 a_504.n (by decide) hin_X12 rfl (by decide) (by decide) rfl kw_1714 rfl ((hw).1 (504, 22, 515) (by decide)) (by decide) dX12_addNode_1 ?_
  refine V.aload_n (pc := 4) hG dX12_addNode_4 rfl 0 rfl ?_
  refine V.getI (pc := 5) (ci := 14) (k := 21) (M := 49) (T := TX12) (o := 504) (kz := 21) hG a_504 a_504.n (by decide) hin_X12 rfl (by decide) (by decide) rfl kw_1713 rfl dX12_addNode_5 ?_
  refine V.iload_n (pc := 8) hG dX12_addNode_8 rfl 1 rfl ?_
  obtain ⟨g1, h⟩ := h
  refine V.iast (pc := 9) (z := 96) (o := 515) hG a_515 a_515.n ((hi _ _)) g1 dX12_addNode_9 ?_
  refine V.aload_n (pc := 10) hG dX12_addNode_10 rfl 0 rfl ?_
  refine V.getR (x := 516) (pc := 11) (ci := 14) (k := 23) (M := 49) (T := TX12) (o := 504) (kz := 23) hG a_504 a_504.n (by decide) hin_X12 rfl (by decide) (by decide) rfl kw_1715 rfl ((hw).1 (504, 23, 516) (by decide)) (by decide) dX12_addNode_11 ?_
  refine V.aload_n (pc := 14) hG dX12_addNode_14 rfl 0 rfl ?_
  refine V.getI (pc := 15) (ci := 14) (k := 21) (M := 49) (T := TX12) (o := 504) (kz := 21) hG a_504 a_504.n (by decide) hin_X12 rfl (by decide) (by decide) rfl kw_1713 rfl dX12_addNode_15 ?_
  refine V.iload_n (pc := 18) hG dX12_addNode_18 rfl 2 rfl ?_
  obtain ⟨g2, h⟩ := h
  refine V.iast (pc := 19) (z := 96) (o := 516) hG a_516 a_516.n (((okI_st hi hp1) _ _)) g2 dX12_addNode_19 ?_
  refine V.aload_n (pc := 20) hG dX12_addNode_20 rfl 0 rfl ?_
  refine V.getR (x := 517) (pc := 21) (ci := 14) (k := 24) (M := 49) (T := TX12) (o := 504) (kz := 24) hG a_504 a_504.n (by decide) hin_X12 rfl (by decide) (by decide) rfl kw_1716 rfl ((hw).1 (504, 24, 517) (by decide)) (by decide) dX12_addNode_21 ?_
  refine V.aload_n (pc := 24) hG dX12_addNode_24 rfl 0 rfl ?_
  refine V.getI (pc := 25) (ci := 14) (k := 21) (M := 49) (T := TX12) (o := 504) (kz := 21) hG a_504 a_504.n (by decide) hin_X12 rfl (by decide) (by decide) rfl kw_1713 rfl dX12_addNode_25 ?_
  refine V.iload_n (pc := 28) hG dX12_addNode_28 rfl 3 rfl ?_
  obtain ⟨g3, h⟩ := h
  refine V.iast (pc := 29) (z := 96) (o := 517) hG a_517 a_517.n (((okI_st ((okI_st hi hp1)) hp2) _ _)) g3 dX12_addNode_29 ?_
  refine V.aload_n (pc := 30) hG dX12_addNode_30 rfl 0 rfl ?_
  refine V.getR (x := 518) (pc := 31) (ci := 14) (k := 25) (M := 49) (T := TX12) (o := 504) (kz := 25) hG a_504 a_504.n (by decide) hin_X12 rfl (by decide) (by decide) rfl kw_1717 rfl ((hw).1 (504, 25, 518) (by decide)) (by decide) dX12_addNode_31 ?_
  refine V.aload_n (pc := 34) hG dX12_addNode_34 rfl 0 rfl ?_
  refine V.getI (pc := 35) (ci := 14) (k := 21) (M := 49) (T := TX12) (o := 504) (kz := 21) hG a_504 a_504.n (by decide) hin_X12 rfl (by decide) (by decide) rfl kw_1713 rfl dX12_addNode_35 ?_
  refine V.iconst (pc := 38) hG dX12_addNode_38 ?_
  obtain ⟨g4, h⟩ := h
  refine V.iast (pc := 39) (z := 96) (o := 518) hG a_518 a_518.n (((okI_st ((okI_st ((okI_st hi hp1)) hp2)) hp3) _ _)) g4 dX12_addNode_39 ?_
  refine V.aload_n (pc := 40) hG dX12_addNode_40 rfl 0 rfl ?_
  refine V.getR (x := 519) (pc := 41) (ci := 14) (k := 26) (M := 49) (T := TX12) (o := 504) (kz := 26) hG a_504 a_504.n (by decide) hin_X12 rfl (by decide) (by decide) rfl kw_1718 rfl ((hw).1 (504, 26, 519) (by decide)) (by decide) dX12_addNode_41 ?_
  refine V.aload_n (pc := 44) hG dX12_addNode_44 rfl 0 rfl ?_
  refine V.getI (pc := 45) (ci := 14) (k := 21) (M := 49) (T := TX12) (o := 504) (kz := 21) hG a_504 a_504.n (by decide) hin_X12 rfl (by decide) (by decide) rfl kw_1713 rfl dX12_addNode_45 ?_
  refine V.iconst (pc := 48) hG dX12_addNode_48 ?_
  obtain ⟨g5, h⟩ := h
  refine V.iast (pc := 49) (z := 96) (o := 519) hG a_519 a_519.n (((okI_st ((okI_st ((okI_st ((okI_st hi hp1)) hp2)) hp3)) ((sR_l rfl))) _ _)) g5 dX12_addNode_49 ?_
  refine V.aload_n (pc := 50) hG dX12_addNode_50 rfl 0 rfl ?_
  refine V.getR (x := 520) (pc := 51) (ci := 14) (k := 27) (M := 49) (T := TX12) (o := 504) (kz := 27) hG a_504 a_504.n (by decide) hin_X12 rfl (by decide) (by decide) rfl kw_1719 rfl ((hw).1 (504, 27, 520) (by decide)) (by decide) dX12_addNode_51 ?_
  refine V.aload_n (pc := 54) hG dX12_addNode_54 rfl 0 rfl ?_
  refine V.getI (pc := 55) (ci := 14) (k := 21) (M := 49) (T := TX12) (o := 504) (kz := 21) hG a_504 a_504.n (by decide) hin_X12 rfl (by decide) (by decide) rfl kw_1713 rfl dX12_addNode_55 ?_
  refine V.iconst (pc := 58) hG dX12_addNode_58 ?_
  obtain ⟨g6, h⟩ := h
  refine V.iast (pc := 59) (z := 96) (o := 520) hG a_520 a_520.n (((okI_st ((okI_st ((okI_st ((okI_st ((okI_st hi hp1)) hp2)) hp3)) ((sR_l rfl)))) ((sR_l rfl))) _ _)) g6 dX12_addNode_59 ?_
  refine V.aload_n (pc := 60) hG dX12_addNode_60 rfl 0 rfl ?_
  refine V.dup (pc := 61) hG dX12_addNode_61 rfl ?_
  refine V.getI (pc := 62) (ci := 14) (k := 21) (M := 49) (T := TX12) (o := 504) (kz := 21) hG a_504 a_504.n (by decide) hin_X12 rfl (by decide) (by decide) rfl kw_1713 rfl dX12_addNode_62 ?_
  refine V.iconst (pc := 65) hG dX12_addNode_65 ?_
  refine V.iadd (pc := 66) hG dX12_addNode_66 ?_
  refine V.putI (pc := 67) (ci := 14) (k := 21) (M := 49) (T := TX12) (o := 504) (kz := 21) hG a_504 a_504.n (by decide) hin_X12 rfl (by decide) (by decide) rfl kw_1713 rfl tyX12 tyX12_ok nmX12 rfl (ty := tyX12 21) (tyX12_ok 21 (by decide)) rfl rfl dX12_addNode_67 ?_
  exact fin dX12_addNode_70 ((okI_st ((okI_st ((okI_st ((okI_st ((okI_st ((okI_st ((okI_st hi hp1)) hp2)) hp3)) ((sR_l rfl)))) ((sR_l rfl)))) ((sR_l rfl)))) ((sR_wr _)))) hw ⟨rfl, h⟩
set_option maxRecDepth 100000 in
set_option maxHeartbeats 4000000 in
theorem sm_X12_isRead (l : Launch) (Δ : Wd) {i r : MI} {p0 : Int} (hp0 : sR p0) {Q : Int → Prop} (hi : okI i) (hw : Wf r) (h : wp_X12_isRead p0 i r Q) : Met l yX12_isRead (Cond.code yX12_isRead cX12_isRead 1 (some .boolean) :: gW) (sRm 0 0) (sPc Δ [.int (sJ p0)] i r) (sQi Δ (fun x i' r' => i = i' ∧ r = r' ∧ Q x)) 0 0 (sFr Δ) := by
  refine Ct.i (ty := .boolean) (by decide) rfl (Nat.le_of_ble_eq_true rfl) (fun Γ Q0 hG fin => ?_)
  have hG : okG Γ Δ l (sRm 0 0) cX12_isRead "SchedularyModel" 1 := hG
  show V Γ Δ 542 false i r 0 0 Q0 0 [(0, .int (sJ p0))] []
  have jn20 : ∀ (k0j20 : Int), sR k0j20 → s20_X12_isRead k0j20 i r Q → V Γ Δ 542 false i r 0 0 Q0 20 [] [.int (sJ k0j20)] := by
    intro k0j20 hk0j20 h
    obtain ⟨g2, h⟩ := h
    exact fin dX12_isRead_20 hk0j20 (nar_z g2) hi hw ⟨rfl, rfl, h⟩
  have jn15 : s15_X12_isRead i r Q → V Γ Δ 542 false i r 0 0 Q0 15 [] [] := by
    intro h
    refine V.iconst (pc := 15) hG dX12_isRead_15 ?_
    refine V.goto (pc := 16) (tgt := 20) hG dX12_isRead_16 (by decide) ?_
    exact jn20 1 ((sR_l rfl)) h
  refine V.iload_n (pc := 0) hG dX12_isRead_0 rfl 0 rfl ?_
  refine V.iconst (pc := 1) hG dX12_isRead_1 ?_
  obtain ⟨t4, f5⟩ := h
  refine V.icmp_eq (pc := 2) (tgt := 15) hG hp0 ((sR_l rfl)) dX12_isRead_2 (by decide) (fun c3 => ?_) (fun c3 => ?_)
  · have h := t4 c3
    clear t4 f5
    refine V.pick [] rfl ?_
    exact jn15 h
  · have h := f5 c3
    clear t4 f5
    refine V.iload_n (pc := 5) hG dX12_isRead_5 rfl 0 rfl ?_
    refine V.iconst (pc := 6) hG dX12_isRead_6 ?_
    obtain ⟨t7, f8⟩ := h
    refine V.icmp_eq (pc := 7) (tgt := 15) hG hp0 ((sR_l rfl)) dX12_isRead_7 (by decide) (fun c6 => ?_) (fun c6 => ?_)
    · have h := t7 c6
      clear t7 f8
      refine V.pick [] rfl ?_
      exact jn15 h
    · have h := f8 c6
      clear t7 f8
      refine V.iload_n (pc := 10) hG dX12_isRead_10 rfl 0 rfl ?_
      refine V.iconst (pc := 11) hG dX12_isRead_11 ?_
      obtain ⟨f11, t10⟩ := h
      refine V.icmp_ne (pc := 12) (tgt := 19) hG hp0 ((sR_l rfl)) dX12_isRead_12 (by decide) (fun c9 => ?_) (fun c9 => ?_)
      · have h := t10 c9
        clear t10 f11
        refine V.iconst (pc := 19) hG dX12_isRead_19 ?_
        refine V.pick [] rfl ?_
        exact jn20 0 ((sR_l rfl)) h
      · have h := f11 c9
        clear t10 f11
        refine V.pick [] rfl ?_
        exact jn15 h
set_option maxRecDepth 100000 in
set_option maxHeartbeats 4000000 in
theorem sm_X12_kindOfMemory (l : Launch) (Δ : Wd) {i r : MI} {p0 : Int} (hp0 : sR p0) {Q : Int → Prop} (hi : okI i) (hw : Wf r) (h : wp_X12_kindOfMemory p0 i r Q) : Met l yX12_kindOfMemory (Cond.code yX12_kindOfMemory cX12_kindOfMemory 1 (some .int) :: gW) (sRm 0 0) (sPc Δ [.int (sJ p0)] i r) (sQi Δ (fun x i' r' => i = i' ∧ r = r' ∧ Q x)) 0 0 (sFr Δ) := by
  refine Ct.i (ty := .int) (by decide) rfl (Nat.le_of_ble_eq_true rfl) (fun Γ Q0 hG fin => ?_)
  have hG : okG Γ Δ l (sRm 0 0) cX12_kindOfMemory "SchedularyModel" 1 := hG
  show V Γ Δ 542 false i r 0 0 Q0 0 [(0, .int (sJ p0))] []
  have jn10 : ∀ (k0j10 : Int), sR k0j10 → s10_X12_kindOfMemory k0j10 i r Q → V Γ Δ 542 false i r 0 0 Q0 10 [] [.int (sJ k0j10)] := by
    intro k0j10 hk0j10 h
    exact fin dX12_kindOfMemory_10 hk0j10 rfl hi hw ⟨rfl, rfl, h⟩
  refine V.iload_n (pc := 0) hG dX12_kindOfMemory_0 rfl 0 rfl ?_
  refine V.iconst (pc := 1) hG dX12_kindOfMemory_1 ?_
  obtain ⟨f3, t2⟩ := h
  refine V.icmp_ne (pc := 2) (tgt := 9) hG hp0 ((sR_l rfl)) dX12_kindOfMemory_2 (by decide) (fun c1 => ?_) (fun c1 => ?_)
  · have h := t2 c1
    clear t2 f3
    refine V.iconst (pc := 9) hG dX12_kindOfMemory_9 ?_
    refine V.pick [] rfl ?_
    exact jn10 4 ((sR_l rfl)) h
  · have h := f3 c1
    clear t2 f3
    refine V.iconst (pc := 5) hG dX12_kindOfMemory_5 ?_
    refine V.goto (pc := 6) (tgt := 10) hG dX12_kindOfMemory_6 (by decide) ?_
    refine V.pick [] rfl ?_
    exact jn10 3 ((sR_l rfl)) h
set_option maxRecDepth 100000 in
set_option maxHeartbeats 4000000 in
theorem sm_X12_remember (l : Launch) (Δ : Wd) {i r : MI} {p1 : Int} {p2 : Int} {p3 : Int} (hp1 : sR p1) (hp2 : sR p2) (hp3 : sR p3) {Q : MI → Prop} (hi : okI i) (hw : Wf r) (h : wp_X12_remember p1 p2 p3 i r Q) : Met l yX12_remember (Cond.code yX12_remember cX12_remember 5 none :: gW) (sRm 0 0) (sPc Δ [.ref (sA Δ 504), .int (sJ p1), .int (sJ p2), .int (sJ p3)] i r) (sQv Δ (fun i' r' => r = r' ∧ Q i')) 0 0 (sFr Δ) := by
  refine Ct.v (by decide) rfl (Nat.le_of_ble_eq_true rfl) (fun Γ Q0 hG fin => ?_)
  have hG : okG Γ Δ l (sRm 0 0) cX12_remember "SchedularyModel" 5 := hG
  show V Γ Δ 542 false i r 0 0 Q0 0 [(0, .ref (sA Δ 504)), (1, .int (sJ p1)), (2, .int (sJ p2)), (3, .int (sJ p3))] []
  have jn82 : ∀ (k1j82 : Int) (k2j82 : Int) (k3j82 : Int) (ij82 : MI), sR k1j82 → sR k2j82 → sR k3j82 → okI ij82 → s82_X12_remember k1j82 k2j82 k3j82 ij82 r Q → V Γ Δ 542 false ij82 r 0 0 Q0 82 [] [.int (sJ k3j82), .int (sJ k2j82), .int (sJ k1j82), .ref (sA Δ 522)] := by
    intro k1j82 k2j82 k3j82 ij82 hk1j82 hk2j82 hk3j82 hij82 h
    refine V.iadd (pc := 82) hG dX12_remember_82 ?_
    obtain ⟨g2, h⟩ := h
    refine V.iast (pc := 83) (z := 96) (o := 522) hG a_522 a_522.n hk1j82 g2 dX12_remember_83 ?_
    exact fin dX12_remember_84 ((okI_st hij82 ((sR_wr _)))) hw ⟨rfl, h⟩
  have jn47 : ∀ (x4j47 : Int) (k1j47 : Int) (k2j47 : Int) (ij47 : MI), sR x4j47 → sR k1j47 → sR k2j47 → okI ij47 → s47_X12_remember p1 p2 x4j47 k1j47 k2j47 ij47 r Q → V Γ Δ 542 false ij47 r 0 0 Q0 47 [(0, .ref (sA Δ 504)), (1, .int (sJ p1)), (2, .int (sJ p2)), (4, .int (sJ x4j47))] [.int (sJ k2j47), .int (sJ k1j47), .ref (sA Δ 521)] := by
    intro x4j47 k1j47 k2j47 ij47 hx4j47 hk1j47 hk2j47 hij47 h
    obtain ⟨g11, h⟩ := h
    obtain ⟨g12, h⟩ := h
    refine V.zast (pc := 47) (z := 96) (o := 521) hG a_521 a_521.n hk1j47 g11 (vnar_z g12) dX12_remember_47 ?_
    refine V.aload_n (pc := 48) hG dX12_remember_48 rfl 0 rfl ?_
    refine V.getR (x := 522) (pc := 49) (ci := 14) (k := 29) (M := 49) (T := TX12) (o := 504) (kz := 29) hG a_504 a_504.n (by decide) hin_X12 rfl (by decide) (by decide) rfl kw_1721 rfl ((hw).1 (504, 29, 522) (by decide)) (by decide) dX12_remember_49 ?_
    refine V.iload (pc := 52) hG dX12_remember_52 3 rfl ?_
    refine V.aload_n (pc := 54) hG dX12_remember_54 rfl 0 rfl ?_
    refine V.getR (x := 507) (pc := 55) (ci := 14) (k := 7) (M := 49) (T := TX12) (o := 504) (kz := 7) hG a_504 a_504.n (by decide) hin_X12 rfl (by decide) (by decide) rfl kw_1699 rfl ((hw).1 (504, 7, 507) (by decide)) (by decide) dX12_remember_55 ?_
    refine V.iload_n (pc := 58) hG dX12_remember_58 rfl 2 rfl ?_
    refine V.iconst (pc := 59) hG dX12_remember_59 ?_
    refine V.iadd (pc := 60) hG dX12_remember_60 ?_
    obtain ⟨g13, h⟩ := h
    refine V.iald (pc := 61) (z := 156) (o := 507) hG a_507 a_507.n ((sR_wr _)) g13 dX12_remember_61 ?_
    refine V.aload_n (pc := 62) hG dX12_remember_62 rfl 0 rfl ?_
    refine V.getR (x := 521) (pc := 63) (ci := 14) (k := 28) (M := 49) (T := TX12) (o := 504) (kz := 28) hG a_504 a_504.n (by decide) hin_X12 rfl (by decide) (by decide) rfl kw_1720 rfl ((hw).1 (504, 28, 521) (by decide)) (by decide) dX12_remember_63 ?_
    refine V.iload (pc := 66) hG dX12_remember_66 3 rfl ?_
    obtain ⟨g14, h⟩ := h
    refine V.zald (pc := 68) (z := 96) (o := 521) hG a_521 a_521.n hx4j47 g14 dX12_remember_68 ?_
    obtain ⟨t16, f17⟩ := h
    refine V.if_eq (pc := 69) (tgt := 81) hG (((okI_st hij47 hk2j47) _ _)) dX12_remember_69 (by decide) (fun c15 => ?_) (fun c15 => ?_)
    · have h := t16 c15
      clear t16 f17
      refine V.iconst (pc := 81) hG dX12_remember_81 ?_
      refine V.pick [] rfl ?_
      exact jn82 x4j47 ((st ij47 521 k1j47 k2j47) 507 (wr (p2 + 3))) 0 (st ij47 521 k1j47 k2j47) hx4j47 (((okI_st hij47 hk2j47) _ _)) ((sR_l rfl)) ((okI_st hij47 hk2j47)) h
    · have h := f17 c15
      clear t16 f17
      refine V.iload_n (pc := 72) hG dX12_remember_72 rfl 1 rfl ?_
      refine V.aload_n (pc := 73) hG dX12_remember_73 rfl 0 rfl ?_
      refine V.getI (pc := 74) (ci := 14) (k := 6) (M := 49) (T := TX12) (o := 504) (kz := 6) hG a_504 a_504.n (by decide) hin_X12 rfl (by decide) (by decide) rfl kw_1698 rfl dX12_remember_74 ?_
      obtain ⟨g18, h⟩ := h
      refine V.idiv (pc := 77) hG hp1 (((okI_st hij47 hk2j47) _ _)) g18 dX12_remember_77 ?_
      refine V.goto (pc := 78) (tgt := 82) hG dX12_remember_78 (by decide) ?_
      refine V.pick [] rfl ?_
      exact jn82 x4j47 ((st ij47 521 k1j47 k2j47) 507 (wr (p2 + 3))) (wr (Int.tdiv p1 ((st ij47 521 k1j47 k2j47) 504 6))) (st ij47 521 k1j47 k2j47) hx4j47 (((okI_st hij47 hk2j47) _ _)) ((sR_wr _)) ((okI_st hij47 hk2j47)) h
  have jn23 : ∀ (x4j23 : Int) (k1j23 : Int) (k2j23 : Int) (ij23 : MI), sR x4j23 → sR k1j23 → sR k2j23 → okI ij23 → s23_X12_remember p1 p2 x4j23 k1j23 k2j23 ij23 r Q → V Γ Δ 542 false ij23 r 0 0 Q0 23 [(0, .ref (sA Δ 504)), (1, .int (sJ p1)), (2, .int (sJ p2)), (4, .int (sJ x4j23))] [.int (sJ k2j23), .int (sJ k1j23), .ref (sA Δ 520)] := by
    intro x4j23 k1j23 k2j23 ij23 hx4j23 hk1j23 hk2j23 hij23 h
    obtain ⟨g24, h⟩ := h
    refine V.iast (pc := 23) (z := 96) (o := 520) hG a_520 a_520.n hk1j23 g24 dX12_remember_23 ?_
    refine V.aload_n (pc := 24) hG dX12_remember_24 rfl 0 rfl ?_
    refine V.getR (x := 521) (pc := 25) (ci := 14) (k := 28) (M := 49) (T := TX12) (o := 504) (kz := 28) hG a_504 a_504.n (by decide) hin_X12 rfl (by decide) (by decide) rfl kw_1720 rfl ((hw).1 (504, 28, 521) (by decide)) (by decide) dX12_remember_25 ?_
    refine V.iload (pc := 28) hG dX12_remember_28 3 rfl ?_
    refine V.aload_n (pc := 30) hG dX12_remember_30 rfl 0 rfl ?_
    refine V.getR (x := 507) (pc := 31) (ci := 14) (k := 7) (M := 49) (T := TX12) (o := 504) (kz := 7) hG a_504 a_504.n (by decide) hin_X12 rfl (by decide) (by decide) rfl kw_1699 rfl ((hw).1 (504, 7, 507) (by decide)) (by decide) dX12_remember_31 ?_
    refine V.iload_n (pc := 34) hG dX12_remember_34 rfl 2 rfl ?_
    refine V.iconst (pc := 35) hG dX12_remember_35 ?_
    refine V.iadd (pc := 36) hG dX12_remember_36 ?_
    obtain ⟨g25, h⟩ := h
    refine V.iald (pc := 37) (z := 156) (o := 507) hG a_507 a_507.n ((sR_wr _)) g25 dX12_remember_37 ?_
    refine V.iconst (pc := 38) hG dX12_remember_38 ?_
    obtain ⟨f28, t27⟩ := h
    refine V.icmp_ne (pc := 39) (tgt := 46) hG (((okI_st hij23 hk2j23) _ _)) ((sR_l rfl)) dX12_remember_39 (by decide) (fun c26 => ?_) (fun c26 => ?_)
    · have h := t27 c26
      clear t27 f28
      refine V.iconst (pc := 46) hG dX12_remember_46 ?_
      exact jn47 x4j23 x4j23 0 (st ij23 520 k1j23 k2j23) hx4j23 hx4j23 ((sR_l rfl)) ((okI_st hij23 hk2j23)) h
    · have h := f28 c26
      clear t27 f28
      refine V.iconst (pc := 42) hG dX12_remember_42 ?_
      refine V.goto (pc := 43) (tgt := 47) hG dX12_remember_43 (by decide) ?_
      exact jn47 x4j23 x4j23 1 (st ij23 520 k1j23 k2j23) hx4j23 hx4j23 ((sR_l rfl)) ((okI_st hij23 hk2j23)) h
  refine V.aload_n (pc := 0) hG dX12_remember_0 rfl 0 rfl ?_
  refine V.getI (pc := 1) (ci := 14) (k := 21) (M := 49) (T := TX12) (o := 504) (kz := 21) hG a_504 a_504.n (by decide) hin_X12 rfl (by decide) (by decide) rfl kw_1713 rfl dX12_remember_1 ?_
  refine V.iconst (pc := 4) hG dX12_remember_4 ?_
  refine V.isub (pc := 5) hG dX12_remember_5 ?_
  refine V.istore (pc := 6) (lv' := [(4, .int (sJ (wr (i 504 21 - 1)))), (0, .ref (sA Δ 504)), (1, .int (sJ p1)), (2, .int (sJ p2)), (3, .int (sJ p3))]) hG dX12_remember_6 (by decide) rfl ?_
  refine V.aload_n (pc := 8) hG dX12_remember_8 rfl 1 rfl ?_
  refine V.getR (x := 520) (pc := 9) (ci := 14) (k := 27) (M := 49) (T := TX12) (o := 504) (kz := 27) hG a_504 a_504.n (by decide) hin_X12 rfl (by decide) (by decide) rfl kw_1719 rfl ((hw).1 (504, 27, 520) (by decide)) (by decide) dX12_remember_9 ?_
  refine V.iload (pc := 12) hG dX12_remember_12 0 rfl ?_
  refine V.iload_n (pc := 14) hG dX12_remember_14 rfl 4 rfl ?_
  obtain ⟨t30, f31⟩ := h
  refine V.if_eq (pc := 15) (tgt := 22) hG hp3 dX12_remember_15 (by decide) (fun c29 => ?_) (fun c29 => ?_)
  · have h := t30 c29
    clear t30 f31
    refine V.iconst (pc := 22) hG dX12_remember_22 ?_
    refine V.pick [1, 2, 3, 0] rfl ?_
    exact jn23 (wr (i 504 21 - 1)) (wr (i 504 21 - 1)) 0 i ((sR_wr _)) ((sR_wr _)) ((sR_l rfl)) hi h
  · have h := f31 c29
    clear t30 f31
    refine V.iconst (pc := 18) hG dX12_remember_18 ?_
    refine V.goto (pc := 19) (tgt := 23) hG dX12_remember_19 (by decide) ?_
    refine V.pick [1, 2, 3, 0] rfl ?_
    exact jn23 (wr (i 504 21 - 1)) (wr (i 504 21 - 1)) 1 i ((sR_wr _)) ((sR_wr _)) ((sR_l rfl)) hi h
set_option maxRecDepth 100000 in
set_option maxHeartbeats 4000000 in
theorem sm_X12_addRead (l : Launch) (Δ : Wd) {i r : MI} {p1 : Int} {p2 : Int} {p3 : Int} (hp1 : sR p1) (hp2 : sR p2) (hp3 : sR p3) {Q : MI → Prop} (hi : okI i) (hw : Wf r) (h : wp_X12_addRead p1 p2 p3 i r Q) : Met l yX12_addRead (Cond.code yX12_addRead cX12_addRead 4 none :: gW) (sRm 1 24) (sPc Δ [.ref (sA Δ 504), .int (sJ p1), .int (sJ p2), .int (sJ p3)] i r) (sQv Δ (fun i' r' => r = r' ∧ Q i')) 0 0 (sFr Δ) := by
  refine Ct.v (by decide) rfl (Nat.le_of_ble_eq_true rfl) (fun Γ Q0 hG fin => ?_)
  have hG : okG Γ Δ l (sRm 1 24) cX12_addRead "SchedularyModel" 4 := hG
  show V Γ Δ 542 false i r 0 0 Q0 0 [(0, .ref (sA Δ 504)), (1, .int (sJ p1)), (2, .int (sJ p2)), (3, .int (sJ p3))] []
  have jn58 : ∀  (ij58 : MI), okI ij58 → s58_X12_addRead ij58 r Q → V Γ Δ 542 false ij58 r 0 0 Q0 58 [] [] := by
    intro ij58 hij58 h
    exact fin dX12_addRead_58 hij58 hw ⟨rfl, h⟩
  have jn38 : ∀ (k1j38 : Int) (k2j38 : Int) (k3j38 : Int) (ij38 : MI), sR k1j38 → sR k2j38 → sR k3j38 → okI ij38 → s38_X12_addRead p1 p3 k1j38 k2j38 k3j38 ij38 r Q → V Γ Δ 542 false ij38 r 0 0 Q0 38 [(0, .ref (sA Δ 504)), (1, .int (sJ p1)), (3, .int (sJ p3))] [.int (sJ k3j38), .int (sJ k2j38), .int (sJ k1j38), .ref (sA Δ 504)] := by
    intro k1j38 k2j38 k3j38 ij38 hk1j38 hk2j38 hk3j38 hij38 h
    refine V.callVv (pc := 38) (As := [.int (sJ k1j38), .int (sJ k2j38), .int (sJ k3j38)]) (stk := []) hG (sm_X12_addNode l Δ hk1j38 hk2j38 hk3j38 hij38 hw h) mY_X12_addNode kw_1928 kw_1930 kw_119 a_504 (by decide) (q := (RX12, TX12, 49)) rfl rfl ⟨Nat.le_of_ble_eq_true rfl, Nat.le_of_ble_eq_true rfl, Nat.le_of_ble_eq_true rfl, Nat.le_of_ble_eq_true rfl⟩ rfl (Nat.le_of_ble_eq_true rfl) dX12_addRead_38 rfl (fun i24 r25 hi27 hw28 hq29 => ?_)
    obtain ⟨e44, h⟩ := hq29
    subst e44
    refine V.aload_n (pc := 41) hG dX12_addRead_41 rfl 0 rfl ?_
    refine V.getR (x := 507) (pc := 42) (ci := 14) (k := 7) (M := 49) (T := TX12) (o := 504) (kz := 7) hG a_504 a_504.n (by decide) hin_X12 rfl (by decide) (by decide) rfl kw_1699 rfl ((hw).1 (504, 7, 507) (by decide)) (by decide) dX12_addRead_42 ?_
    refine V.iload_n (pc := 45) hG dX12_addRead_45 rfl 2 rfl ?_
    obtain ⟨g30, h⟩ := h
    refine V.iald (pc := 46) (z := 156) (o := 507) hG a_507 a_507.n hp3 g30 dX12_addRead_46 ?_
    refine V.iconst (pc := 47) hG dX12_addRead_47 ?_
    obtain ⟨t32, f33⟩ := h
    refine V.icmp_eq (pc := 48) (tgt := 58) hG ((hi27 _ _)) ((sR_l rfl)) dX12_addRead_48 (by decide) (fun c31 => ?_) (fun c31 => ?_)
    · have h := t32 c31
      clear t32 f33
      refine V.pick [] rfl ?_
      exact jn58 i24 hi27 h
    · have h := f33 c31
      clear t32 f33
      refine V.aload_n (pc := 51) hG dX12_addRead_51 rfl 0 rfl ?_
      refine V.iload_n (pc := 52) hG dX12_addRead_52 rfl 1 rfl ?_
      refine V.iload_n (pc := 53) hG dX12_addRead_53 rfl 2 rfl ?_
      refine V.iconst (pc := 54) hG dX12_addRead_54 ?_
      refine V.callVv (pc := 55) (As := [.int (sJ p1), .int (sJ p3), .int (sJ 0)]) (stk := []) hG (sm_X12_remember l Δ hp1 hp3 ((sR_l rfl)) hi27 hw h) mY_X12_remember kw_1932 kw_1934 kw_120 a_504 (by decide) (q := (RX12, TX12, 49)) rfl rfl ⟨Nat.le_of_ble_eq_true rfl, Nat.le_of_ble_eq_true rfl, Nat.le_of_ble_eq_true rfl, Nat.le_of_ble_eq_true rfl⟩ rfl (Nat.le_of_ble_eq_true rfl) dX12_addRead_55 rfl (fun i35 r36 hi38 hw39 hq40 => ?_)
      obtain ⟨e42, h⟩ := hq40
      subst e42
      refine V.pick [] rfl ?_
      exact jn58 i35 hi38 h
  refine V.aload_n (pc := 0) hG dX12_addRead_0 rfl 0 rfl ?_
  refine V.getR (x := 507) (pc := 1) (ci := 14) (k := 7) (M := 49) (T := TX12) (o := 504) (kz := 7) hG a_504 a_504.n (by decide) hin_X12 rfl (by decide) (by decide) rfl kw_1699 rfl ((hw).1 (504, 7, 507) (by decide)) (by decide) dX12_addRead_1 ?_
  refine V.iload_n (pc := 4) hG dX12_addRead_4 rfl 3 rfl ?_
  obtain ⟨g45, h⟩ := h
  refine V.iald (pc := 5) (z := 156) (o := 507) hG a_507 a_507.n hp3 g45 dX12_addRead_5 ?_
  refine V.callSi (pc := 6) (As := [.int (sJ (i 507 p3))]) (stk := []) hG (sm_X12_isRead l Δ ((hi _ _)) hi hw h) mY_X12_isRead kw_1922 kw_1923 ⟨Nat.le_of_ble_eq_true rfl, Nat.le_of_ble_eq_true rfl, Nat.le_of_ble_eq_true rfl, Nat.le_of_ble_eq_true rfl⟩ rfl (Nat.le_of_ble_eq_true rfl) dX12_addRead_6 rfl (fun v46 i47 r48 hv49 hi50 hw51 hq52 => ?_)
  obtain ⟨e70, e71, h⟩ := hq52
  subst e70
  subst e71
  obtain ⟨t54, f55⟩ := h
  refine V.if_eq (pc := 9) (tgt := 58) hG hv49 dX12_addRead_9 (by decide) (fun c53 => ?_) (fun c53 => ?_)
  · have h := t54 c53
    clear t54 f55
    refine V.pick [] rfl ?_
    exact jn58 i hi h
  · have h := f55 c53
    clear t54 f55
    refine V.aload_n (pc := 12) hG dX12_addRead_12 rfl 0 rfl ?_
    refine V.iload_n (pc := 13) hG dX12_addRead_13 rfl 1 rfl ?_
    refine V.iload_n (pc := 14) hG dX12_addRead_14 rfl 2 rfl ?_
    refine V.aload_n (pc := 15) hG dX12_addRead_15 rfl 0 rfl ?_
    refine V.getR (x := 507) (pc := 16) (ci := 14) (k := 7) (M := 49) (T := TX12) (o := 504) (kz := 7) hG a_504 a_504.n (by decide) hin_X12 rfl (by decide) (by decide) rfl kw_1699 rfl ((hw).1 (504, 7, 507) (by decide)) (by decide) dX12_addRead_16 ?_
    refine V.iload_n (pc := 19) hG dX12_addRead_19 rfl 3 rfl ?_
    obtain ⟨g56, h⟩ := h
    refine V.iald (pc := 20) (z := 156) (o := 507) hG a_507 a_507.n hp3 g56 dX12_addRead_20 ?_
    refine V.iconst (pc := 21) hG dX12_addRead_21 ?_
    obtain ⟨f59, t58⟩ := h
    refine V.icmp_ne (pc := 22) (tgt := 29) hG ((hi _ _)) ((sR_l rfl)) dX12_addRead_22 (by decide) (fun c57 => ?_) (fun c57 => ?_)
    · have h := t58 c57
      clear t58 f59
      refine V.aload_n (pc := 29) hG dX12_addRead_29 rfl 0 rfl ?_
      refine V.getR (x := 507) (pc := 30) (ci := 14) (k := 7) (M := 49) (T := TX12) (o := 504) (kz := 7) hG a_504 a_504.n (by decide) hin_X12 rfl (by decide) (by decide) rfl kw_1699 rfl ((hw).1 (504, 7, 507) (by decide)) (by decide) dX12_addRead_30 ?_
      refine V.iload_n (pc := 33) hG dX12_addRead_33 rfl 3 rfl ?_
      obtain ⟨g60, h⟩ := h
      refine V.iald (pc := 34) (z := 156) (o := 507) hG a_507 a_507.n hp3 g60 dX12_addRead_34 ?_
      refine V.callSi (pc := 35) (As := [.int (sJ (i 507 p3))]) (stk := [.int (sJ p2), .int (sJ p1), .ref (sA Δ 504)]) hG (sm_X12_kindOfMemory l Δ ((hi _ _)) hi hw h) mY_X12_kindOfMemory kw_1925 kw_1926 ⟨Nat.le_of_ble_eq_true rfl, Nat.le_of_ble_eq_true rfl, Nat.le_of_ble_eq_true rfl, Nat.le_of_ble_eq_true rfl⟩ rfl (Nat.le_of_ble_eq_true rfl) dX12_addRead_35 rfl (fun v61 i62 r63 hv64 hi65 hw66 hq67 => ?_)
      obtain ⟨e68, e69, h⟩ := hq67
      subst e68
      subst e69
      refine V.pick [0, 1, 3] rfl ?_
      exact jn38 p1 p2 v61 i hp1 hp2 hv64 hi h
    · have h := f59 c57
      clear t58 f59
      refine V.iconst (pc := 25) hG dX12_addRead_25 ?_
      refine V.goto (pc := 26) (tgt := 38) hG dX12_addRead_26 (by decide) ?_
      refine V.pick [0, 1, 3] rfl ?_
      exact jn38 p1 p2 5 i hp1 hp2 ((sR_l rfl)) hi h
set_option maxRecDepth 100000 in
set_option maxHeartbeats 4000000 in
theorem sm_X12_unit (l : Launch) (Δ : Wd) {i r : MI} {p0 : Int} (hp0 : sR p0) {Q : Int → Prop} (hi : okI i) (hw : Wf r) (h : wp_X12_unit p0 i r Q) : Met l yX12_unit (Cond.code yX12_unit cX12_unit 1 (some .int) :: gW) (sRm 0 0) (sPc Δ [.int (sJ p0)] i r) (sQi Δ (fun x i' r' => i = i' ∧ r = r' ∧ Q x)) 0 0 (sFr Δ) := by
  refine Ct.i (ty := .int) (by decide) rfl (Nat.le_of_ble_eq_true rfl) (fun Γ Q0 hG fin => ?_)
  have hG : okG Γ Δ l (sRm 0 0) cX12_unit "SchedularyModel" 1 := hG
  show V Γ Δ 542 false i r 0 0 Q0 0 [(0, .int (sJ p0))] []
  have jn33 : ∀ (k0j33 : Int), sR k0j33 → s33_X12_unit k0j33 i r Q → V Γ Δ 542 false i r 0 0 Q0 33 [] [.int (sJ k0j33)] := by
    intro k0j33 hk0j33 h
    exact fin dX12_unit_33 hk0j33 rfl hi hw ⟨rfl, rfl, h⟩
  have jn18 : s18_X12_unit i r Q → V Γ Δ 542 false i r 0 0 Q0 18 [] [] := by
    intro h
    refine V.iconst (pc := 18) hG dX12_unit_18 ?_
    refine V.goto (pc := 19) (tgt := 33) hG dX12_unit_19 (by decide) ?_
    exact jn33 0 ((sR_l rfl)) h
  refine V.iload_n (pc := 0) hG dX12_unit_0 rfl 0 rfl ?_
  refine V.bipush (pc := 1) hG dX12_unit_1 (by decide) ?_
  obtain ⟨t2, f3⟩ := h
  refine V.icmp_eq (pc := 3) (tgt := 18) hG hp0 ((sR_l rfl)) dX12_unit_3 (by decide) (fun c1 => ?_) (fun c1 => ?_)
  · have h := t2 c1
    clear t2 f3
    refine V.pick [] rfl ?_
    exact jn18 h
  · have h := f3 c1
    clear t2 f3
    refine V.iload_n (pc := 6) hG dX12_unit_6 rfl 0 rfl ?_
    refine V.bipush (pc := 7) hG dX12_unit_7 (by decide) ?_
    obtain ⟨t5, f6⟩ := h
    refine V.icmp_eq (pc := 9) (tgt := 18) hG hp0 ((sR_l rfl)) dX12_unit_9 (by decide) (fun c4 => ?_) (fun c4 => ?_)
    · have h := t5 c4
      clear t5 f6
      refine V.pick [] rfl ?_
      exact jn18 h
    · have h := f6 c4
      clear t5 f6
      refine V.iload_n (pc := 12) hG dX12_unit_12 rfl 0 rfl ?_
      refine V.bipush (pc := 13) hG dX12_unit_13 (by decide) ?_
      obtain ⟨f9, t8⟩ := h
      refine V.icmp_ne (pc := 15) (tgt := 22) hG hp0 ((sR_l rfl)) dX12_unit_15 (by decide) (fun c7 => ?_) (fun c7 => ?_)
      · have h := t8 c7
        clear t8 f9
        refine V.iload_n (pc := 22) hG dX12_unit_22 rfl 0 rfl ?_
        refine V.bipush (pc := 23) hG dX12_unit_23 (by decide) ?_
        obtain ⟨f12, t11⟩ := h
        refine V.icmp_ne (pc := 25) (tgt := 32) hG hp0 ((sR_l rfl)) dX12_unit_25 (by decide) (fun c10 => ?_) (fun c10 => ?_)
        · have h := t11 c10
          clear t11 f12
          refine V.iconst (pc := 32) hG dX12_unit_32 ?_
          refine V.pick [] rfl ?_
          exact jn33 2 ((sR_l rfl)) h
        · have h := f12 c10
          clear t11 f12
          refine V.iconst (pc := 28) hG dX12_unit_28 ?_
          refine V.goto (pc := 29) (tgt := 33) hG dX12_unit_29 (by decide) ?_
          refine V.pick [] rfl ?_
          exact jn33 1 ((sR_l rfl)) h
      · have h := f9 c7
        clear t8 f9
        refine V.pick [] rfl ?_
        exact jn18 h
set_option maxRecDepth 100000 in
set_option maxHeartbeats 4000000 in
theorem sm_X12_uses (l : Launch) (Δ : Wd) {i r : MI} {p1 : Int} (hp1 : sR p1) {Q : MI → Prop} (hi : okI i) (hw : Wf r) (h : wp_X12_uses p1 i r Q) : Met l yX12_uses (Cond.code yX12_uses cX12_uses 2 none :: gW) (sRm 0 0) (sPc Δ [.ref (sA Δ 504), .int (sJ p1)] i r) (sQv Δ (fun i' r' => r = r' ∧ Q i')) 0 0 (sFr Δ) := by
  refine Ct.v (by decide) rfl (Nat.le_of_ble_eq_true rfl) (fun Γ Q0 hG fin => ?_)
  have hG : okG Γ Δ l (sRm 0 0) cX12_uses "SchedularyModel" 2 := hG
  show V Γ Δ 542 false i r 0 0 Q0 0 [(0, .ref (sA Δ 504)), (1, .int (sJ p1))] []
  have jn35 : ∀ (k1j35 : Int) (k2j35 : Int) (k3j35 : Int) (ij35 : MI), sR k1j35 → sR k2j35 → sR k3j35 → okI ij35 → s35_X12_uses k1j35 k2j35 k3j35 ij35 r Q → V Γ Δ 542 false ij35 r 0 0 Q0 35 [] [.int (sJ k3j35), .int (sJ k2j35), .int (sJ k1j35), .ref (sA Δ 518)] := by
    intro k1j35 k2j35 k3j35 ij35 hk1j35 hk2j35 hk3j35 hij35 h
    refine V.ior (pc := 35) hG dX12_uses_35 ?_
    obtain ⟨g2, h⟩ := h
    refine V.iast (pc := 36) (z := 96) (o := 518) hG a_518 a_518.n hk1j35 g2 dX12_uses_36 ?_
    exact fin dX12_uses_37 ((okI_st hij35 ((sR_or _ _)))) hw ⟨rfl, h⟩
  refine V.aload_n (pc := 0) hG dX12_uses_0 rfl 0 rfl ?_
  refine V.getR (x := 518) (pc := 1) (ci := 14) (k := 25) (M := 49) (T := TX12) (o := 504) (kz := 25) hG a_504 a_504.n (by decide) hin_X12 rfl (by decide) (by decide) rfl kw_1717 rfl ((hw).1 (504, 25, 518) (by decide)) (by decide) dX12_uses_1 ?_
  refine V.aload_n (pc := 4) hG dX12_uses_4 rfl 0 rfl ?_
  refine V.getI (pc := 5) (ci := 14) (k := 21) (M := 49) (T := TX12) (o := 504) (kz := 21) hG a_504 a_504.n (by decide) hin_X12 rfl (by decide) (by decide) rfl kw_1713 rfl dX12_uses_5 ?_
  refine V.iconst (pc := 8) hG dX12_uses_8 ?_
  refine V.isub (pc := 9) hG dX12_uses_9 ?_
  refine V.dup2 (pc := 10) hG dX12_uses_10 rfl rfl ?_
  obtain ⟨g3, h⟩ := h
  refine V.iald (pc := 11) (z := 96) (o := 518) hG a_518 a_518.n ((sR_wr _)) g3 dX12_uses_11 ?_
  refine V.aload_n (pc := 12) hG dX12_uses_12 rfl 0 rfl ?_
  refine V.getR (x := 507) (pc := 13) (ci := 14) (k := 7) (M := 49) (T := TX12) (o := 504) (kz := 7) hG a_504 a_504.n (by decide) hin_X12 rfl (by decide) (by decide) rfl kw_1699 rfl ((hw).1 (504, 7, 507) (by decide)) (by decide) dX12_uses_13 ?_
  refine V.iload_n (pc := 16) hG dX12_uses_16 rfl 1 rfl ?_
  obtain ⟨g4, h⟩ := h
  refine V.iald (pc := 17) (z := 156) (o := 507) hG a_507 a_507.n hp1 g4 dX12_uses_17 ?_
  obtain ⟨f7, t6⟩ := h
  refine V.if_ne (pc := 18) (tgt := 34) hG ((hi _ _)) dX12_uses_18 (by decide) (fun c5 => ?_) (fun c5 => ?_)
  · have h := t6 c5
    clear t6 f7
    refine V.iconst (pc := 34) hG dX12_uses_34 ?_
    refine V.pick [] rfl ?_
    exact jn35 (wr (i 504 21 - 1)) (i 518 (wr (i 504 21 - 1))) 0 i ((sR_wr _)) ((hi _ _)) ((sR_l rfl)) hi h
  · have h := f7 c5
    clear t6 f7
    refine V.iconst (pc := 21) hG dX12_uses_21 ?_
    refine V.aload_n (pc := 22) hG dX12_uses_22 rfl 0 rfl ?_
    refine V.getR (x := 507) (pc := 23) (ci := 14) (k := 7) (M := 49) (T := TX12) (o := 504) (kz := 7) hG a_504 a_504.n (by decide) hin_X12 rfl (by decide) (by decide) rfl kw_1699 rfl ((hw).1 (504, 7, 507) (by decide)) (by decide) dX12_uses_23 ?_
    refine V.iload_n (pc := 26) hG dX12_uses_26 rfl 1 rfl ?_
    refine V.iconst (pc := 27) hG dX12_uses_27 ?_
    refine V.iadd (pc := 28) hG dX12_uses_28 ?_
    obtain ⟨g8, h⟩ := h
    refine V.iald (pc := 29) (z := 156) (o := 507) hG a_507 a_507.n ((sR_wr _)) g8 dX12_uses_29 ?_
    refine V.ishl (pc := 30) hG dX12_uses_30 ?_
    refine V.goto (pc := 31) (tgt := 35) hG dX12_uses_31 (by decide) ?_
    refine V.pick [] rfl ?_
    exact jn35 (wr (i 504 21 - 1)) (i 518 (wr (i 504 21 - 1))) (iShl 1 (i 507 (wr (p1 + 1)))) i ((sR_wr _)) ((hi _ _)) ((sR_shl _ _)) hi h
set_option maxRecDepth 100000 in
set_option maxHeartbeats 4000000 in
theorem sm_X12_addStatement (l : Launch) (Δ : Wd) {i r : MI} {p1 : Int} (hp1 : sR p1) {Q : MI → Prop} (hi : okI i) (hw : Wf r) (h : wp_X12_addStatement p1 i r Q) : Met l yX12_addStatement (Cond.code yX12_addStatement cX12_addStatement 6 none :: gW) (sRm 2 47) (sPc Δ [.ref (sA Δ 504), .int (sJ p1)] i r) (sQv Δ (fun i' r' => r = r' ∧ Q i')) 0 0 (sFr Δ) := by
  refine Ct.v (by decide) rfl (Nat.le_of_ble_eq_true rfl) (fun Γ Q0 hG fin => ?_)
  have hG : okG Γ Δ l (sRm 2 47) cX12_addStatement "SchedularyModel" 6 := hG
  show V Γ Δ 542 false i r 0 0 Q0 0 [(0, .ref (sA Δ 504)), (1, .int (sJ p1))] []
  have jn181 : ∀ (k1j181 : Int) (k2j181 : Int) (ij181 : MI), sR k1j181 → sR k2j181 → okI ij181 → s181_X12_addStatement k1j181 k2j181 ij181 r Q → V Γ Δ 542 false ij181 r 0 0 Q0 181 [] [.int (sJ k2j181), .int (sJ k1j181), .ref (sA Δ 519)] := by
    intro k1j181 k2j181 ij181 hk1j181 hk2j181 hij181 h
    obtain ⟨g2, h⟩ := h
    refine V.iast (pc := 181) (z := 96) (o := 519) hG a_519 a_519.n hk1j181 g2 dX12_addStatement_181 ?_
    exact fin dX12_addStatement_182 ((okI_st hij181 hk2j181)) hw ⟨rfl, h⟩
  have jn154 : ∀ (x2j154 : Int) (x5j154 : Int) (ij154 : MI), sR x2j154 → sR x5j154 → okI ij154 → s154_X12_addStatement x2j154 x5j154 ij154 r Q → V Γ Δ 542 false ij154 r 0 0 Q0 154 [(0, .ref (sA Δ 504)), (2, .int (sJ x2j154)), (5, .int (sJ x5j154))] [] := by
    intro x2j154 x5j154 ij154 hx2j154 hx5j154 hij154 h
    refine V.aload_n (pc := 154) hG dX12_addStatement_154 rfl 0 rfl ?_
    refine V.getR (x := 519) (pc := 155) (ci := 14) (k := 26) (M := 49) (T := TX12) (o := 504) (kz := 26) hG a_504 a_504.n (by decide) hin_X12 rfl (by decide) (by decide) rfl kw_1718 rfl ((hw).1 (504, 26, 519) (by decide)) (by decide) dX12_addStatement_155 ?_
    refine V.aload_n (pc := 158) hG dX12_addStatement_158 rfl 0 rfl ?_
    refine V.getI (pc := 159) (ci := 14) (k := 21) (M := 49) (T := TX12) (o := 504) (kz := 21) hG a_504 a_504.n (by decide) hin_X12 rfl (by decide) (by decide) rfl kw_1713 rfl dX12_addStatement_159 ?_
    refine V.iconst (pc := 162) hG dX12_addStatement_162 ?_
    refine V.isub (pc := 163) hG dX12_addStatement_163 ?_
    refine V.iload (pc := 164) hG dX12_addStatement_164 2 rfl ?_
    obtain ⟨f9, t8⟩ := h
    refine V.if_ne (pc := 166) (tgt := 180) hG hx5j154 dX12_addStatement_166 (by decide) (fun c7 => ?_) (fun c7 => ?_)
    · have h := t8 c7
      clear t8 f9
      refine V.iconst (pc := 180) hG dX12_addStatement_180 ?_
      refine V.pick [] rfl ?_
      exact jn181 (wr (ij154 504 21 - 1)) (-1) ij154 ((sR_wr _)) ((sR_l rfl)) hij154 h
    · have h := f9 c7
      clear t8 f9
      refine V.aload_n (pc := 169) hG dX12_addStatement_169 rfl 0 rfl ?_
      refine V.getR (x := 507) (pc := 170) (ci := 14) (k := 7) (M := 49) (T := TX12) (o := 504) (kz := 7) hG a_504 a_504.n (by decide) hin_X12 rfl (by decide) (by decide) rfl kw_1699 rfl ((hw).1 (504, 7, 507) (by decide)) (by decide) dX12_addStatement_170 ?_
      refine V.iload_n (pc := 173) hG dX12_addStatement_173 rfl 1 rfl ?_
      refine V.iconst (pc := 174) hG dX12_addStatement_174 ?_
      refine V.iadd (pc := 175) hG dX12_addStatement_175 ?_
      obtain ⟨g10, h⟩ := h
      refine V.iald (pc := 176) (z := 156) (o := 507) hG a_507 a_507.n ((sR_wr _)) g10 dX12_addStatement_176 ?_
      refine V.goto (pc := 177) (tgt := 181) hG dX12_addStatement_177 (by decide) ?_
      refine V.pick [] rfl ?_
      exact jn181 (wr (ij154 504 21 - 1)) (ij154 507 (wr (x2j154 + 1))) ij154 ((sR_wr _)) ((hij154 _ _)) hij154 h
  have jn142 : ∀ (x2j142 : Int) (x4j142 : Int) (x5j142 : Int) (ij142 : MI), sR x2j142 → sR x4j142 → sR x5j142 → okI ij142 → s142_X12_addStatement x2j142 x4j142 x5j142 ij142 r Q → V Γ Δ 542 false ij142 r 0 0 Q0 142 [(0, .ref (sA Δ 504)), (2, .int (sJ x2j142)), (4, .int (sJ x4j142)), (5, .int (sJ x5j142))] [] := by
    intro x2j142 x4j142 x5j142 ij142 hx2j142 hx4j142 hx5j142 hij142 h
    refine V.iload (pc := 142) hG dX12_addStatement_142 2 rfl ?_
    obtain ⟨f25, t24⟩ := h
    refine V.if_ne (pc := 144) (tgt := 154) hG hx4j142 dX12_addStatement_144 (by decide) (fun c23 => ?_) (fun c23 => ?_)
    · have h := t24 c23
      clear t24 f25
      refine V.pick [0, 1, 3] rfl ?_
      exact jn154 x2j142 x5j142 ij142 hx2j142 hx5j142 hij142 h
    · have h := f25 c23
      clear t24 f25
      refine V.aload_n (pc := 147) hG dX12_addStatement_147 rfl 0 rfl ?_
      refine V.iload_n (pc := 148) hG dX12_addStatement_148 rfl 1 rfl ?_
      refine V.iconst (pc := 149) hG dX12_addStatement_149 ?_
      refine V.iadd (pc := 150) hG dX12_addStatement_150 ?_
      refine V.callVv (pc := 151) (As := [.int (sJ (wr (x2j142 + 4)))]) (stk := []) hG (sm_X12_uses l Δ ((sR_wr _)) hij142 hw h) mY_X12_uses kw_1939 kw_1941 kw_121 a_504 (by decide) (q := (RX12, TX12, 49)) rfl rfl ⟨Nat.le_of_ble_eq_true rfl, Nat.le_of_ble_eq_true rfl, Nat.le_of_ble_eq_true rfl, Nat.le_of_ble_eq_true rfl⟩ rfl (Nat.le_of_ble_eq_true rfl) dX12_addStatement_151 rfl (fun i27 r28 hi30 hw31 hq32 => ?_)
      obtain ⟨e34, h⟩ := hq32
      subst e34
      refine V.pick [0, 1, 3] rfl ?_
      exact jn154 x2j142 x5j142 i27 hx2j142 hx5j142 hi30 h
  have jn108 : ∀ (x2j108 : Int) (x4j108 : Int) (x5j108 : Int) (k1j108 : Int) (k2j108 : Int) (k3j108 : Int) (ij108 : MI), sR x2j108 → sR x4j108 → sR x5j108 → sR k1j108 → sR k2j108 → sR k3j108 → okI ij108 → s108_X12_addStatement p1 x2j108 x4j108 x5j108 k1j108 k2j108 k3j108 ij108 r Q → V Γ Δ 542 false ij108 r 0 0 Q0 108 [(0, .ref (sA Δ 504)), (1, .int (sJ p1)), (2, .int (sJ x2j108)), (4, .int (sJ x4j108)), (5, .int (sJ x5j108))] [.int (sJ k3j108), .int (sJ k2j108), .int (sJ k1j108), .ref (sA Δ 504)] := by
    intro x2j108 x4j108 x5j108 k1j108 k2j108 k3j108 ij108 hx2j108 hx4j108 hx5j108 hk1j108 hk2j108 hk3j108 hij108 h
    refine V.callVv (pc := 108) (As := [.int (sJ k1j108), .int (sJ k2j108), .int (sJ k3j108)]) (stk := []) hG (sm_X12_addNode l Δ hk1j108 hk2j108 hk3j108 hij108 hw h) mY_X12_addNode kw_1928 kw_1930 kw_119 a_504 (by decide) (q := (RX12, TX12, 49)) rfl rfl ⟨Nat.le_of_ble_eq_true rfl, Nat.le_of_ble_eq_true rfl, Nat.le_of_ble_eq_true rfl, Nat.le_of_ble_eq_true rfl⟩ rfl (Nat.le_of_ble_eq_true rfl) dX12_addStatement_108 rfl (fun i57 r58 hi60 hw61 hq62 => ?_)
    obtain ⟨e76, h⟩ := hq62
    subst e76
    refine V.iload (pc := 111) hG dX12_addStatement_111 4 rfl ?_
    refine V.iconst (pc := 113) hG dX12_addStatement_113 ?_
    obtain ⟨t64, f65⟩ := h
    refine V.icmp_eq (pc := 114) (tgt := 142) hG hx5j108 ((sR_l rfl)) dX12_addStatement_114 (by decide) (fun c63 => ?_) (fun c63 => ?_)
    · have h := t64 c63
      clear t64 f65
      refine V.pick [0, 2, 3, 4] rfl ?_
      exact jn142 x2j108 x4j108 x5j108 i57 hx2j108 hx4j108 hx5j108 hi60 h
    · have h := f65 c63
      clear t64 f65
      refine V.aload_n (pc := 117) hG dX12_addStatement_117 rfl 0 rfl ?_
      refine V.iload_n (pc := 118) hG dX12_addStatement_118 rfl 1 rfl ?_
      refine V.iload_n (pc := 119) hG dX12_addStatement_119 rfl 2 rfl ?_
      refine V.iconst (pc := 120) hG dX12_addStatement_120 ?_
      refine V.callVv (pc := 121) (As := [.int (sJ p1), .int (sJ x2j108), .int (sJ 1)]) (stk := []) hG (sm_X12_remember l Δ hp1 hx2j108 ((sR_l rfl)) hi60 hw h) mY_X12_remember kw_1932 kw_1934 kw_120 a_504 (by decide) (q := (RX12, TX12, 49)) rfl rfl ⟨Nat.le_of_ble_eq_true rfl, Nat.le_of_ble_eq_true rfl, Nat.le_of_ble_eq_true rfl, Nat.le_of_ble_eq_true rfl⟩ rfl (Nat.le_of_ble_eq_true rfl) dX12_addStatement_121 rfl (fun i67 r68 hi70 hw71 hq72 => ?_)
      obtain ⟨e74, h⟩ := hq72
      subst e74
      refine V.goto (pc := 124) (tgt := 142) hG dX12_addStatement_124 (by decide) ?_
      refine V.pick [0, 2, 3, 4] rfl ?_
      exact jn142 x2j108 x4j108 x5j108 i67 hx2j108 hx4j108 hx5j108 hi70 h
  have jn84 : ∀ (x2j84 : Int) (x3j84 : Int) (x4j84 : Int) (x5j84 : Int) (ij84 : MI), sR x2j84 → sR x3j84 → sR x4j84 → sR x5j84 → okI ij84 → s84_X12_addStatement p1 x2j84 x3j84 x4j84 x5j84 ij84 r Q → V Γ Δ 542 false ij84 r 0 0 Q0 84 [(0, .ref (sA Δ 504)), (1, .int (sJ p1)), (2, .int (sJ x2j84)), (3, .int (sJ x3j84)), (4, .int (sJ x4j84)), (5, .int (sJ x5j84))] [] := by
    intro x2j84 x3j84 x4j84 x5j84 ij84 hx2j84 hx3j84 hx4j84 hx5j84 hij84 h
    refine V.iload (pc := 84) hG dX12_addStatement_84 5 rfl ?_
    obtain ⟨t105, f106⟩ := h
    refine V.if_eq (pc := 86) (tgt := 127) hG hx5j84 dX12_addStatement_86 (by decide) (fun c104 => ?_) (fun c104 => ?_)
    · have h := t105 c104
      clear t105 f106
      refine V.aload_n (pc := 127) hG dX12_addStatement_127 rfl 0 rfl ?_
      refine V.getI (pc := 128) (ci := 14) (k := 21) (M := 49) (T := TX12) (o := 504) (kz := 21) hG a_504 a_504.n (by decide) hin_X12 rfl (by decide) (by decide) rfl kw_1713 rfl dX12_addStatement_128 ?_
      refine V.iload_n (pc := 131) hG dX12_addStatement_131 rfl 3 rfl ?_
      obtain ⟨f109, t108⟩ := h
      refine V.icmp_ne (pc := 132) (tgt := 142) hG ((hij84 _ _)) hx3j84 dX12_addStatement_132 (by decide) (fun c107 => ?_) (fun c107 => ?_)
      · have h := t108 c107
        clear t108 f109
        refine V.pick [0, 2, 4, 5] rfl ?_
        exact jn142 x2j84 x4j84 x5j84 ij84 hx2j84 hx4j84 hx5j84 hij84 h
      · have h := f109 c107
        clear t108 f109
        refine V.aload_n (pc := 135) hG dX12_addStatement_135 rfl 0 rfl ?_
        refine V.iload_n (pc := 136) hG dX12_addStatement_136 rfl 1 rfl ?_
        refine V.iconst (pc := 137) hG dX12_addStatement_137 ?_
        refine V.iconst (pc := 138) hG dX12_addStatement_138 ?_
        refine V.callVv (pc := 139) (As := [.int (sJ p1), .int (sJ 4), .int (sJ 2)]) (stk := []) hG (sm_X12_addNode l Δ hp1 ((sR_l rfl)) ((sR_l rfl)) hij84 hw h) mY_X12_addNode kw_1928 kw_1930 kw_119 a_504 (by decide) (q := (RX12, TX12, 49)) rfl rfl ⟨Nat.le_of_ble_eq_true rfl, Nat.le_of_ble_eq_true rfl, Nat.le_of_ble_eq_true rfl, Nat.le_of_ble_eq_true rfl⟩ rfl (Nat.le_of_ble_eq_true rfl) dX12_addStatement_139 rfl (fun i111 r112 hi114 hw115 hq116 => ?_)
        obtain ⟨e118, h⟩ := hq116
        subst e118
        refine V.pick [0, 2, 4, 5] rfl ?_
        exact jn142 x2j84 x4j84 x5j84 i111 hx2j84 hx4j84 hx5j84 hi114 h
    · have h := f106 c104
      clear t105 f106
      refine V.aload_n (pc := 89) hG dX12_addStatement_89 rfl 0 rfl ?_
      refine V.iload_n (pc := 90) hG dX12_addStatement_90 rfl 1 rfl ?_
      refine V.iconst (pc := 91) hG dX12_addStatement_91 ?_
      refine V.iload (pc := 92) hG dX12_addStatement_92 5 rfl ?_
      refine V.iconst (pc := 94) hG dX12_addStatement_94 ?_
      obtain ⟨f121, t120⟩ := h
      refine V.icmp_ne (pc := 95) (tgt := 103) hG hx5j84 ((sR_l rfl)) dX12_addStatement_95 (by decide) (fun c119 => ?_) (fun c119 => ?_)
      · have h := t120 c119
        clear t120 f121
        refine V.iload (pc := 103) hG dX12_addStatement_103 5 rfl ?_
        refine V.callSi (pc := 105) (As := [.int (sJ x5j84)]) (stk := [.int (sJ 3), .int (sJ p1), .ref (sA Δ 504)]) hG (sm_X12_kindOfMemory l Δ hx5j84 hij84 hw h) mY_X12_kindOfMemory kw_1925 kw_1926 ⟨Nat.le_of_ble_eq_true rfl, Nat.le_of_ble_eq_true rfl, Nat.le_of_ble_eq_true rfl, Nat.le_of_ble_eq_true rfl⟩ rfl (Nat.le_of_ble_eq_true rfl) dX12_addStatement_105 rfl (fun v122 i123 r124 hv125 hi126 hw127 hq128 => ?_)
        obtain ⟨e129, e130, h⟩ := hq128
        subst e129
        subst e130
        refine V.pick [0, 1, 2, 4, 5] rfl ?_
        exact jn108 x2j84 x4j84 x5j84 p1 3 v122 ij84 hx2j84 hx4j84 hx5j84 hp1 ((sR_l rfl)) hv125 hij84 h
      · have h := f121 c119
        clear t120 f121
        refine V.bipush (pc := 98) hG dX12_addStatement_98 (by decide) ?_
        refine V.goto (pc := 100) (tgt := 108) hG dX12_addStatement_100 (by decide) ?_
        refine V.pick [0, 1, 2, 4, 5] rfl ?_
        exact jn108 x2j84 x4j84 x5j84 p1 3 6 ij84 hx2j84 hx4j84 hx5j84 hp1 ((sR_l rfl)) ((sR_l rfl)) hij84 h
  refine V.bipush (pc := 0) hG dX12_addStatement_0 (by decide) ?_
  refine V.iload_n (pc := 2) hG dX12_addStatement_2 rfl 1 rfl ?_
  refine V.aload_n (pc := 3) hG dX12_addStatement_3 rfl 0 rfl ?_
  refine V.getI (pc := 4) (ci := 14) (k := 6) (M := 49) (T := TX12) (o := 504) (kz := 6) hG a_504 a_504.n (by decide) hin_X12 rfl (by decide) (by decide) rfl kw_1698 rfl dX12_addStatement_4 ?_
  obtain ⟨g131, h⟩ := h
  refine V.irem (pc := 7) hG hp1 ((hi _ _)) g131 dX12_addStatement_7 ?_
  refine V.imul (pc := 8) hG dX12_addStatement_8 ?_
  refine V.istore_n (pc := 9) (lv' := [(2, .int (sJ (wr (13 * Int.tmod p1 (i 504 6))))), (0, .ref (sA Δ 504)), (1, .int (sJ p1))]) hG dX12_addStatement_9 rfl (by decide) rfl ?_
  refine V.aload_n (pc := 10) hG dX12_addStatement_10 rfl 1 rfl ?_
  refine V.getI (pc := 11) (ci := 14) (k := 21) (M := 49) (T := TX12) (o := 504) (kz := 21) hG a_504 a_504.n (by decide) hin_X12 rfl (by decide) (by decide) rfl kw_1713 rfl dX12_addStatement_11 ?_
  refine V.istore_n (pc := 14) (lv' := [(3, .int (sJ (i 504 21))), (2, .int (sJ (wr (13 * Int.tmod p1 (i 504 6))))), (0, .ref (sA Δ 504)), (1, .int (sJ p1))]) hG dX12_addStatement_14 rfl (by decide) rfl ?_
  refine V.aload_n (pc := 15) hG dX12_addStatement_15 rfl 2 rfl ?_
  refine V.getR (x := 507) (pc := 16) (ci := 14) (k := 7) (M := 49) (T := TX12) (o := 504) (kz := 7) hG a_504 a_504.n (by decide) hin_X12 rfl (by decide) (by decide) rfl kw_1699 rfl ((hw).1 (504, 7, 507) (by decide)) (by decide) dX12_addStatement_16 ?_
  refine V.iload_n (pc := 19) hG dX12_addStatement_19 rfl 1 rfl ?_
  refine V.bipush (pc := 20) hG dX12_addStatement_20 (by decide) ?_
  refine V.iadd (pc := 22) hG dX12_addStatement_22 ?_
  obtain ⟨g132, h⟩ := h
  refine V.iald (pc := 23) (z := 156) (o := 507) hG a_507 a_507.n ((sR_wr _)) g132 dX12_addStatement_23 ?_
  refine V.istore (pc := 24) (lv' := [(4, .int (sJ (i 507 (wr (wr (13 * Int.tmod p1 (i 504 6)) + 12))))), (3, .int (sJ (i 504 21))), (2, .int (sJ (wr (13 * Int.tmod p1 (i 504 6))))), (0, .ref (sA Δ 504)), (1, .int (sJ p1))]) hG dX12_addStatement_24 (by decide) rfl ?_
  refine V.aload_n (pc := 26) hG dX12_addStatement_26 rfl 3 rfl ?_
  refine V.getR (x := 507) (pc := 27) (ci := 14) (k := 7) (M := 49) (T := TX12) (o := 504) (kz := 7) hG a_504 a_504.n (by decide) hin_X12 rfl (by decide) (by decide) rfl kw_1699 rfl ((hw).1 (504, 7, 507) (by decide)) (by decide) dX12_addStatement_27 ?_
  refine V.iload_n (pc := 30) hG dX12_addStatement_30 rfl 2 rfl ?_
  obtain ⟨g133, h⟩ := h
  refine V.iald (pc := 31) (z := 156) (o := 507) hG a_507 a_507.n ((sR_wr _)) g133 dX12_addStatement_31 ?_
  refine V.istore (pc := 32) (lv' := [(5, .int (sJ (i 507 (wr (13 * Int.tmod p1 (i 504 6)))))), (4, .int (sJ (i 507 (wr (wr (13 * Int.tmod p1 (i 504 6)) + 12))))), (3, .int (sJ (i 504 21))), (2, .int (sJ (wr (13 * Int.tmod p1 (i 504 6))))), (0, .ref (sA Δ 504)), (1, .int (sJ p1))]) hG dX12_addStatement_32 (by decide) rfl ?_
  refine V.aload_n (pc := 34) hG dX12_addStatement_34 rfl 4 rfl ?_
  refine V.iload_n (pc := 35) hG dX12_addStatement_35 rfl 5 rfl ?_
  refine V.iconst (pc := 36) hG dX12_addStatement_36 ?_
  refine V.iload_n (pc := 37) hG dX12_addStatement_37 rfl 3 rfl ?_
  refine V.iconst (pc := 38) hG dX12_addStatement_38 ?_
  refine V.iadd (pc := 39) hG dX12_addStatement_39 ?_
  refine V.callVv (pc := 40) (As := [.int (sJ p1), .int (sJ 0), .int (sJ (wr (wr (13 * Int.tmod p1 (i 504 6)) + 4)))]) (stk := []) hG (sm_X12_addRead l Δ hp1 ((sR_l rfl)) ((sR_wr _)) hi hw h) mY_X12_addRead kw_1918 kw_1920 kw_118 a_504 (by decide) (q := (RX12, TX12, 49)) rfl rfl ⟨Nat.le_of_ble_eq_true rfl, Nat.le_of_ble_eq_true rfl, Nat.le_of_ble_eq_true rfl, Nat.le_of_ble_eq_true rfl⟩ rfl (Nat.le_of_ble_eq_true rfl) dX12_addStatement_40 rfl (fun i135 r136 hi138 hw139 hq140 => ?_)
  obtain ⟨e190, h⟩ := hq140
  subst e190
  refine V.iload (pc := 43) hG dX12_addStatement_43 1 rfl ?_
  obtain ⟨t142, f143⟩ := h
  refine V.if_eq (pc := 45) (tgt := 84) hG ((hi _ _)) dX12_addStatement_45 (by decide) (fun c141 => ?_) (fun c141 => ?_)
  · have h := t142 c141
    clear t142 f143
    refine V.pick [4, 5, 3, 2, 1, 0] rfl ?_
    exact jn84 (wr (13 * Int.tmod p1 (i 504 6))) (i 504 21) (i 507 (wr (wr (13 * Int.tmod p1 (i 504 6)) + 12))) (i 507 (wr (13 * Int.tmod p1 (i 504 6)))) i135 ((sR_wr _)) ((hi _ _)) ((hi _ _)) ((hi _ _)) hi138 h
  · have h := f143 c141
    clear t142 f143
    refine V.aload_n (pc := 48) hG dX12_addStatement_48 rfl 4 rfl ?_
    refine V.iload_n (pc := 49) hG dX12_addStatement_49 rfl 5 rfl ?_
    refine V.iconst (pc := 50) hG dX12_addStatement_50 ?_
    refine V.iload_n (pc := 51) hG dX12_addStatement_51 rfl 3 rfl ?_
    refine V.bipush (pc := 52) hG dX12_addStatement_52 (by decide) ?_
    refine V.iadd (pc := 54) hG dX12_addStatement_54 ?_
    refine V.callVv (pc := 55) (As := [.int (sJ p1), .int (sJ 1), .int (sJ (wr (wr (13 * Int.tmod p1 (i 504 6)) + 8)))]) (stk := []) hG (sm_X12_addRead l Δ hp1 ((sR_l rfl)) ((sR_wr _)) hi138 hw h) mY_X12_addRead kw_1918 kw_1920 kw_118 a_504 (by decide) (q := (RX12, TX12, 49)) rfl rfl ⟨Nat.le_of_ble_eq_true rfl, Nat.le_of_ble_eq_true rfl, Nat.le_of_ble_eq_true rfl, Nat.le_of_ble_eq_true rfl⟩ rfl (Nat.le_of_ble_eq_true rfl) dX12_addStatement_55 rfl (fun i145 r146 hi148 hw149 hq150 => ?_)
    obtain ⟨e188, h⟩ := hq150
    subst e188
    refine V.aload_n (pc := 58) hG dX12_addStatement_58 rfl 4 rfl ?_
    refine V.iload_n (pc := 59) hG dX12_addStatement_59 rfl 5 rfl ?_
    refine V.iconst (pc := 60) hG dX12_addStatement_60 ?_
    refine V.iload (pc := 61) hG dX12_addStatement_61 1 rfl ?_
    refine V.callSi (pc := 63) (As := [.int (sJ (i 507 (wr (wr (13 * Int.tmod p1 (i 504 6)) + 12))))]) (stk := [.int (sJ 2), .int (sJ p1), .ref (sA Δ 504)]) hG (sm_X12_unit l Δ ((hi _ _)) hi148 hw h) mY_X12_unit kw_1936 kw_1937 ⟨Nat.le_of_ble_eq_true rfl, Nat.le_of_ble_eq_true rfl, Nat.le_of_ble_eq_true rfl, Nat.le_of_ble_eq_true rfl⟩ rfl (Nat.le_of_ble_eq_true rfl) dX12_addStatement_63 rfl (fun v151 i152 r153 hv154 hi155 hw156 hq157 => ?_)
    obtain ⟨e185, e186, h⟩ := hq157
    subst e185
    subst e186
    refine V.callVv (pc := 66) (As := [.int (sJ p1), .int (sJ 2), .int (sJ v151)]) (stk := []) hG (sm_X12_addNode l Δ hp1 ((sR_l rfl)) hv154 hi148 hw h) mY_X12_addNode kw_1928 kw_1930 kw_119 a_504 (by decide) (q := (RX12, TX12, 49)) rfl rfl ⟨Nat.le_of_ble_eq_true rfl, Nat.le_of_ble_eq_true rfl, Nat.le_of_ble_eq_true rfl, Nat.le_of_ble_eq_true rfl⟩ rfl (Nat.le_of_ble_eq_true rfl) dX12_addStatement_66 rfl (fun i159 r160 hi162 hw163 hq164 => ?_)
    obtain ⟨e184, h⟩ := hq164
    subst e184
    refine V.aload_n (pc := 69) hG dX12_addStatement_69 rfl 4 rfl ?_
    refine V.iload_n (pc := 70) hG dX12_addStatement_70 rfl 3 rfl ?_
    refine V.iconst (pc := 71) hG dX12_addStatement_71 ?_
    refine V.iadd (pc := 72) hG dX12_addStatement_72 ?_
    refine V.callVv (pc := 73) (As := [.int (sJ (wr (wr (13 * Int.tmod p1 (i 504 6)) + 4)))]) (stk := []) hG (sm_X12_uses l Δ ((sR_wr _)) hi162 hw h) mY_X12_uses kw_1939 kw_1941 kw_121 a_504 (by decide) (q := (RX12, TX12, 49)) rfl rfl ⟨Nat.le_of_ble_eq_true rfl, Nat.le_of_ble_eq_true rfl, Nat.le_of_ble_eq_true rfl, Nat.le_of_ble_eq_true rfl⟩ rfl (Nat.le_of_ble_eq_true rfl) dX12_addStatement_73 rfl (fun i166 r167 hi169 hw170 hq171 => ?_)
    obtain ⟨e182, h⟩ := hq171
    subst e182
    refine V.aload_n (pc := 76) hG dX12_addStatement_76 rfl 4 rfl ?_
    refine V.iload_n (pc := 77) hG dX12_addStatement_77 rfl 3 rfl ?_
    refine V.bipush (pc := 78) hG dX12_addStatement_78 (by decide) ?_
    refine V.iadd (pc := 80) hG dX12_addStatement_80 ?_
    refine V.callVv (pc := 81) (As := [.int (sJ (wr (wr (13 * Int.tmod p1 (i 504 6)) + 8)))]) (stk := []) hG (sm_X12_uses l Δ ((sR_wr _)) hi169 hw h) mY_X12_uses kw_1939 kw_1941 kw_121 a_504 (by decide) (q := (RX12, TX12, 49)) rfl rfl ⟨Nat.le_of_ble_eq_true rfl, Nat.le_of_ble_eq_true rfl, Nat.le_of_ble_eq_true rfl, Nat.le_of_ble_eq_true rfl⟩ rfl (Nat.le_of_ble_eq_true rfl) dX12_addStatement_81 rfl (fun i173 r174 hi176 hw177 hq178 => ?_)
    obtain ⟨e180, h⟩ := hq178
    subst e180
    refine V.pick [4, 5, 3, 2, 1, 0] rfl ?_
    exact jn84 (wr (13 * Int.tmod p1 (i 504 6))) (i 504 21) (i 507 (wr (wr (13 * Int.tmod p1 (i 504 6)) + 12))) (i 507 (wr (13 * Int.tmod p1 (i 504 6)))) i173 ((sR_wr _)) ((hi _ _)) ((hi _ _)) ((hi _ _)) hi176 h
set_option maxRecDepth 100000 in
set_option maxHeartbeats 4000000 in
theorem sm_X12_cyclesOf (l : Launch) (Δ : Wd) {i r : MI} {p1 : Int} (hp1 : sR p1) {Q : Int → Prop} (hi : okI i) (hw : Wf r) (h : wp_X12_cyclesOf p1 i r Q) : Met l yX12_cyclesOf (Cond.code yX12_cyclesOf cX12_cyclesOf 2 (some .int) :: gW) (sRm 0 0) (sPc Δ [.ref (sA Δ 504), .int (sJ p1)] i r) (sQi Δ (fun x i' r' => i = i' ∧ r = r' ∧ Q x)) 0 0 (sFr Δ) := by
  refine Ct.i (ty := .int) (by decide) rfl (Nat.le_of_ble_eq_true rfl) (fun Γ Q0 hG fin => ?_)
  have hG : okG Γ Δ l (sRm 0 0) cX12_cyclesOf "SchedularyModel" 2 := hG
  show V Γ Δ 542 false i r 0 0 Q0 0 [(0, .ref (sA Δ 504)), (1, .int (sJ p1))] []
  refine V.aload_n (pc := 0) hG dX12_cyclesOf_0 rfl 0 rfl ?_
  refine V.getR (x := 511) (pc := 1) (ci := 14) (k := 15) (M := 49) (T := TX12) (o := 504) (kz := 15) hG a_504 a_504.n (by decide) hin_X12 rfl (by decide) (by decide) rfl kw_1707 rfl ((hw).1 (504, 15, 511) (by decide)) (by decide) dX12_cyclesOf_1 ?_
  refine V.aload_n (pc := 4) hG dX12_cyclesOf_4 rfl 0 rfl ?_
  refine V.getR (x := 517) (pc := 5) (ci := 14) (k := 24) (M := 49) (T := TX12) (o := 504) (kz := 24) hG a_504 a_504.n (by decide) hin_X12 rfl (by decide) (by decide) rfl kw_1716 rfl ((hw).1 (504, 24, 517) (by decide)) (by decide) dX12_cyclesOf_5 ?_
  refine V.iload_n (pc := 8) hG dX12_cyclesOf_8 rfl 1 rfl ?_
  obtain ⟨g1, h⟩ := h
  refine V.iald (pc := 9) (z := 96) (o := 517) hG a_517 a_517.n hp1 g1 dX12_cyclesOf_9 ?_
  obtain ⟨g2, h⟩ := h
  refine V.iald (pc := 10) (z := 7) (o := 511) hG a_511 a_511.n ((hi _ _)) g2 dX12_cyclesOf_10 ?_
  exact fin dX12_cyclesOf_11 ((hi _ _)) rfl hi hw ⟨rfl, rfl, h⟩
set_option maxRecDepth 100000 in
set_option maxHeartbeats 4000000 in
theorem sm_X12_join (l : Launch) (Δ : Wd) {i r : MI} {p1 : Int} {p2 : Int} {p3 : Int} {p4 : Int} (hp1 : sR p1) (hp2 : sR p2) (hp3 : sR p3) (hp4 : sR p4) {Q : MI → Prop} (hi : okI i) (hw : Wf r) (h : wp_X12_join p1 p2 p3 p4 i r Q) : Met l yX12_join (Cond.code yX12_join cX12_join 6 none :: gW) (sRm 1 15) (sPc Δ [.ref (sA Δ 504), .int (sJ p1), .int (sJ p2), .int (sJ p3), .int (sJ p4)] i r) (sQv Δ (fun i' r' => r = r' ∧ Q i')) 0 0 (sFr Δ) := by
  refine Ct.v (by decide) rfl (Nat.le_of_ble_eq_true rfl) (fun Γ Q0 hG fin => ?_)
  have hG : okG Γ Δ l (sRm 1 15) cX12_join "SchedularyModel" 6 := hG
  show V Γ Δ 542 false i r 0 0 Q0 0 [(0, .ref (sA Δ 504)), (1, .int (sJ p1)), (2, .int (sJ p2)), (3, .int (sJ p3)), (4, .int (sJ p4))] []
  refine V.aload_n (pc := 0) hG dX12_join_0 rfl 0 rfl ?_
  refine V.getR (x := 528) (pc := 1) (ci := 14) (k := 36) (M := 49) (T := TX12) (o := 504) (kz := 36) hG a_504 a_504.n (by decide) hin_X12 rfl (by decide) (by decide) rfl kw_1728 rfl ((hw).1 (504, 36, 528) (by decide)) (by decide) dX12_join_1 ?_
  refine V.aload_n (pc := 4) hG dX12_join_4 rfl 0 rfl ?_
  refine V.getI (pc := 5) (ci := 14) (k := 21) (M := 49) (T := TX12) (o := 504) (kz := 21) hG a_504 a_504.n (by decide) hin_X12 rfl (by decide) (by decide) rfl kw_1713 rfl dX12_join_5 ?_
  refine V.iload_n (pc := 8) hG dX12_join_8 rfl 1 rfl ?_
  refine V.imul (pc := 9) hG dX12_join_9 ?_
  refine V.iload_n (pc := 10) hG dX12_join_10 rfl 2 rfl ?_
  refine V.iadd (pc := 11) hG dX12_join_11 ?_
  obtain ⟨g1, h⟩ := h
  refine V.iald (pc := 12) (z := 9216) (o := 528) hG a_528 a_528.n ((sR_wr _)) g1 dX12_join_12 ?_
  refine V.istore (pc := 13) (lv' := [(5, .int (sJ (i 528 (wr (wr (i 504 21 * p1) + p2))))), (0, .ref (sA Δ 504)), (1, .int (sJ p1)), (2, .int (sJ p2)), (3, .int (sJ p3)), (4, .int (sJ p4))]) hG dX12_join_13 (by decide) rfl ?_
  obtain ⟨n19, h⟩ := h
  have lp15 : ∀ (m15 : Nat) (x5_15 : Int), sR x5_15 → LoopP (b15_X12_join p1 p2 p3 p4 i r Q) m15 (x5_15) → V Γ Δ 542 false i r 0 0 Q0 15 [(0, .ref (sA Δ 504)), (1, .int (sJ p1)), (2, .int (sJ p2)), (3, .int (sJ p3)), (4, .int (sJ p4)), (5, .int (sJ x5_15))] [] := by
    intro m15
    induction m15 with
    | zero => intro x5_15 hx5_15 h; exact h.elim
    | succ m15 ih15 =>
      intro x5_15 hx5_15 h
      have h := LoopP_succ h
      refine V.iload (pc := 15) hG dX12_join_15 5 rfl ?_
      refine V.iconst (pc := 17) hG dX12_join_17 ?_
      obtain ⟨t21, f22⟩ := h
      refine V.icmp_eq (pc := 18) (tgt := 64) hG hx5_15 ((sR_l rfl)) dX12_join_18 (by decide) (fun c20 => ?_) (fun c20 => ?_)
      · have h := t21 c20
        clear t21 f22
        refine V.aload_n (pc := 64) hG dX12_join_64 rfl 0 rfl ?_
        refine V.getR (x := 523) (pc := 65) (ci := 14) (k := 31) (M := 49) (T := TX12) (o := 504) (kz := 31) hG a_504 a_504.n (by decide) hin_X12 rfl (by decide) (by decide) rfl kw_1723 rfl ((hw).1 (504, 31, 523) (by decide)) (by decide) dX12_join_65 ?_
        refine V.aload_n (pc := 68) hG dX12_join_68 rfl 0 rfl ?_
        refine V.getI (pc := 69) (ci := 14) (k := 30) (M := 49) (T := TX12) (o := 504) (kz := 30) hG a_504 a_504.n (by decide) hin_X12 rfl (by decide) (by decide) rfl kw_1722 rfl dX12_join_69 ?_
        refine V.iload_n (pc := 72) hG dX12_join_72 rfl 1 rfl ?_
        obtain ⟨g23, h⟩ := h
        refine V.iast (pc := 73) (z := 20000) (o := 523) hG a_523 a_523.n ((hi _ _)) g23 dX12_join_73 ?_
        refine V.aload_n (pc := 74) hG dX12_join_74 rfl 0 rfl ?_
        refine V.getR (x := 524) (pc := 75) (ci := 14) (k := 32) (M := 49) (T := TX12) (o := 504) (kz := 32) hG a_504 a_504.n (by decide) hin_X12 rfl (by decide) (by decide) rfl kw_1724 rfl ((hw).1 (504, 32, 524) (by decide)) (by decide) dX12_join_75 ?_
        refine V.aload_n (pc := 78) hG dX12_join_78 rfl 0 rfl ?_
        refine V.getI (pc := 79) (ci := 14) (k := 30) (M := 49) (T := TX12) (o := 504) (kz := 30) hG a_504 a_504.n (by decide) hin_X12 rfl (by decide) (by decide) rfl kw_1722 rfl dX12_join_79 ?_
        refine V.iload_n (pc := 82) hG dX12_join_82 rfl 2 rfl ?_
        obtain ⟨g24, h⟩ := h
        refine V.iast (pc := 83) (z := 20000) (o := 524) hG a_524 a_524.n (((okI_st hi hp1) _ _)) g24 dX12_join_83 ?_
        refine V.aload_n (pc := 84) hG dX12_join_84 rfl 0 rfl ?_
        refine V.getR (x := 525) (pc := 85) (ci := 14) (k := 33) (M := 49) (T := TX12) (o := 504) (kz := 33) hG a_504 a_504.n (by decide) hin_X12 rfl (by decide) (by decide) rfl kw_1725 rfl ((hw).1 (504, 33, 525) (by decide)) (by decide) dX12_join_85 ?_
        refine V.aload_n (pc := 88) hG dX12_join_88 rfl 0 rfl ?_
        refine V.getI (pc := 89) (ci := 14) (k := 30) (M := 49) (T := TX12) (o := 504) (kz := 30) hG a_504 a_504.n (by decide) hin_X12 rfl (by decide) (by decide) rfl kw_1722 rfl dX12_join_89 ?_
        refine V.iload_n (pc := 92) hG dX12_join_92 rfl 3 rfl ?_
        obtain ⟨g25, h⟩ := h
        refine V.iast (pc := 93) (z := 20000) (o := 525) hG a_525 a_525.n (((okI_st ((okI_st hi hp1)) hp2) _ _)) g25 dX12_join_93 ?_
        refine V.aload_n (pc := 94) hG dX12_join_94 rfl 0 rfl ?_
        refine V.getR (x := 526) (pc := 95) (ci := 14) (k := 34) (M := 49) (T := TX12) (o := 504) (kz := 34) hG a_504 a_504.n (by decide) hin_X12 rfl (by decide) (by decide) rfl kw_1726 rfl ((hw).1 (504, 34, 526) (by decide)) (by decide) dX12_join_95 ?_
        refine V.aload_n (pc := 98) hG dX12_join_98 rfl 0 rfl ?_
        refine V.getI (pc := 99) (ci := 14) (k := 30) (M := 49) (T := TX12) (o := 504) (kz := 30) hG a_504 a_504.n (by decide) hin_X12 rfl (by decide) (by decide) rfl kw_1722 rfl dX12_join_99 ?_
        refine V.iload (pc := 102) hG dX12_join_102 4 rfl ?_
        obtain ⟨g26, h⟩ := h
        refine V.iast (pc := 104) (z := 20000) (o := 526) hG a_526 a_526.n (((okI_st ((okI_st ((okI_st hi hp1)) hp2)) hp3) _ _)) g26 dX12_join_104 ?_
        refine V.aload_n (pc := 105) hG dX12_join_105 rfl 0 rfl ?_
        refine V.getR (x := 527) (pc := 106) (ci := 14) (k := 35) (M := 49) (T := TX12) (o := 504) (kz := 35) hG a_504 a_504.n (by decide) hin_X12 rfl (by decide) (by decide) rfl kw_1727 rfl ((hw).1 (504, 35, 527) (by decide)) (by decide) dX12_join_106 ?_
        refine V.aload_n (pc := 109) hG dX12_join_109 rfl 0 rfl ?_
        refine V.getI (pc := 110) (ci := 14) (k := 30) (M := 49) (T := TX12) (o := 504) (kz := 30) hG a_504 a_504.n (by decide) hin_X12 rfl (by decide) (by decide) rfl kw_1722 rfl dX12_join_110 ?_
        refine V.aload_n (pc := 113) hG dX12_join_113 rfl 0 rfl ?_
        refine V.getR (x := 528) (pc := 114) (ci := 14) (k := 36) (M := 49) (T := TX12) (o := 504) (kz := 36) hG a_504 a_504.n (by decide) hin_X12 rfl (by decide) (by decide) rfl kw_1728 rfl ((hw).1 (504, 36, 528) (by decide)) (by decide) dX12_join_114 ?_
        refine V.aload_n (pc := 117) hG dX12_join_117 rfl 0 rfl ?_
        refine V.getI (pc := 118) (ci := 14) (k := 21) (M := 49) (T := TX12) (o := 504) (kz := 21) hG a_504 a_504.n (by decide) hin_X12 rfl (by decide) (by decide) rfl kw_1713 rfl dX12_join_118 ?_
        refine V.iload_n (pc := 121) hG dX12_join_121 rfl 1 rfl ?_
        refine V.imul (pc := 122) hG dX12_join_122 ?_
        refine V.iload_n (pc := 123) hG dX12_join_123 rfl 2 rfl ?_
        refine V.iadd (pc := 124) hG dX12_join_124 ?_
        obtain ⟨g27, h⟩ := h
        refine V.iald (pc := 125) (z := 9216) (o := 528) hG a_528 a_528.n ((sR_wr _)) g27 dX12_join_125 ?_
        obtain ⟨g28, h⟩ := h
        refine V.iast (pc := 126) (z := 20000) (o := 527) hG a_527 a_527.n (((okI_st ((okI_st ((okI_st ((okI_st hi hp1)) hp2)) hp3)) hp4) _ _)) g28 dX12_join_126 ?_
        refine V.aload_n (pc := 127) hG dX12_join_127 rfl 0 rfl ?_
        refine V.getR (x := 528) (pc := 128) (ci := 14) (k := 36) (M := 49) (T := TX12) (o := 504) (kz := 36) hG a_504 a_504.n (by decide) hin_X12 rfl (by decide) (by decide) rfl kw_1728 rfl ((hw).1 (504, 36, 528) (by decide)) (by decide) dX12_join_128 ?_
        refine V.aload_n (pc := 131) hG dX12_join_131 rfl 0 rfl ?_
        refine V.getI (pc := 132) (ci := 14) (k := 21) (M := 49) (T := TX12) (o := 504) (kz := 21) hG a_504 a_504.n (by decide) hin_X12 rfl (by decide) (by decide) rfl kw_1713 rfl dX12_join_132 ?_
        refine V.iload_n (pc := 135) hG dX12_join_135 rfl 1 rfl ?_
        refine V.imul (pc := 136) hG dX12_join_136 ?_
        refine V.iload_n (pc := 137) hG dX12_join_137 rfl 2 rfl ?_
        refine V.iadd (pc := 138) hG dX12_join_138 ?_
        refine V.aload_n (pc := 139) hG dX12_join_139 rfl 0 rfl ?_
        refine V.getI (pc := 140) (ci := 14) (k := 30) (M := 49) (T := TX12) (o := 504) (kz := 30) hG a_504 a_504.n (by decide) hin_X12 rfl (by decide) (by decide) rfl kw_1722 rfl dX12_join_140 ?_
        obtain ⟨g29, h⟩ := h
        refine V.iast (pc := 143) (z := 9216) (o := 528) hG a_528 a_528.n ((sR_wr _)) g29 dX12_join_143 ?_
        refine V.aload_n (pc := 144) hG dX12_join_144 rfl 0 rfl ?_
        refine V.dup (pc := 145) hG dX12_join_145 rfl ?_
        refine V.getI (pc := 146) (ci := 14) (k := 30) (M := 49) (T := TX12) (o := 504) (kz := 30) hG a_504 a_504.n (by decide) hin_X12 rfl (by decide) (by decide) rfl kw_1722 rfl dX12_join_146 ?_
        refine V.iconst (pc := 149) hG dX12_join_149 ?_
        refine V.iadd (pc := 150) hG dX12_join_150 ?_
        refine V.putI (pc := 151) (ci := 14) (k := 30) (M := 49) (T := TX12) (o := 504) (kz := 30) hG a_504 a_504.n (by decide) hin_X12 rfl (by decide) (by decide) rfl kw_1722 rfl tyX12 tyX12_ok nmX12 rfl (ty := tyX12 30) (tyX12_ok 30 (by decide)) rfl rfl dX12_join_151 ?_
        exact fin dX12_join_154 ((okI_st ((okI_st ((okI_st ((okI_st ((okI_st ((okI_st ((okI_st hi hp1)) hp2)) hp3)) hp4)) (((okI_st ((okI_st ((okI_st ((okI_st hi hp1)) hp2)) hp3)) hp4) _ _)))) (((okI_st ((okI_st ((okI_st ((okI_st ((okI_st hi hp1)) hp2)) hp3)) hp4)) (((okI_st ((okI_st ((okI_st ((okI_st hi hp1)) hp2)) hp3)) hp4) _ _))) _ _)))) ((sR_wr _)))) hw ⟨rfl, h⟩
      · have h := f22 c20
        clear t21 f22
        refine V.aload_n (pc := 21) hG dX12_join_21 rfl 0 rfl ?_
        refine V.getR (x := 525) (pc := 22) (ci := 14) (k := 33) (M := 49) (T := TX12) (o := 504) (kz := 33) hG a_504 a_504.n (by decide) hin_X12 rfl (by decide) (by decide) rfl kw_1725 rfl ((hw).1 (504, 33, 525) (by decide)) (by decide) dX12_join_22 ?_
        refine V.iload (pc := 25) hG dX12_join_25 5 rfl ?_
        obtain ⟨g30, h⟩ := h
        refine V.iald (pc := 27) (z := 20000) (o := 525) hG a_525 a_525.n hx5_15 g30 dX12_join_27 ?_
        refine V.iload_n (pc := 28) hG dX12_join_28 rfl 3 rfl ?_
        obtain ⟨f33, t32⟩ := h
        refine V.icmp_ne (pc := 29) (tgt := 52) hG ((hi _ _)) hp3 dX12_join_29 (by decide) (fun c31 => ?_) (fun c31 => ?_)
        · have h := t32 c31
          clear t32 f33
          refine V.aload_n (pc := 52) hG dX12_join_52 rfl 0 rfl ?_
          refine V.getR (x := 527) (pc := 53) (ci := 14) (k := 35) (M := 49) (T := TX12) (o := 504) (kz := 35) hG a_504 a_504.n (by decide) hin_X12 rfl (by decide) (by decide) rfl kw_1727 rfl ((hw).1 (504, 35, 527) (by decide)) (by decide) dX12_join_53 ?_
          refine V.iload (pc := 56) hG dX12_join_56 5 rfl ?_
          obtain ⟨g34, h⟩ := h
          refine V.iald (pc := 58) (z := 20000) (o := 527) hG a_527 a_527.n hx5_15 g34 dX12_join_58 ?_
          refine V.istore (pc := 59) (lv' := [(5, .int (sJ (i 527 x5_15))), (0, .ref (sA Δ 504)), (1, .int (sJ p1)), (2, .int (sJ p2)), (3, .int (sJ p3)), (4, .int (sJ p4))]) hG dX12_join_59 (by decide) rfl ?_
          refine V.goto (pc := 61) (tgt := 15) hG dX12_join_61 (by decide) ?_
          refine V.pick [1, 2, 3, 4, 5, 0] rfl ?_
          exact ih15 (i 527 x5_15) ((hi _ _)) h
        · have h := f33 c31
          clear t32 f33
          refine V.aload_n (pc := 32) hG dX12_join_32 rfl 0 rfl ?_
          refine V.getR (x := 526) (pc := 33) (ci := 14) (k := 34) (M := 49) (T := TX12) (o := 504) (kz := 34) hG a_504 a_504.n (by decide) hin_X12 rfl (by decide) (by decide) rfl kw_1726 rfl ((hw).1 (504, 34, 526) (by decide)) (by decide) dX12_join_33 ?_
          refine V.iload (pc := 36) hG dX12_join_36 5 rfl ?_
          refine V.aload_n (pc := 38) hG dX12_join_38 rfl 0 rfl ?_
          refine V.getR (x := 526) (pc := 39) (ci := 14) (k := 34) (M := 49) (T := TX12) (o := 504) (kz := 34) hG a_504 a_504.n (by decide) hin_X12 rfl (by decide) (by decide) rfl kw_1726 rfl ((hw).1 (504, 34, 526) (by decide)) (by decide) dX12_join_39 ?_
          refine V.iload (pc := 42) hG dX12_join_42 5 rfl ?_
          obtain ⟨g35, h⟩ := h
          refine V.iald (pc := 44) (z := 20000) (o := 526) hG a_526 a_526.n hx5_15 g35 dX12_join_44 ?_
          refine V.iload (pc := 45) hG dX12_join_45 4 rfl ?_
          refine V.mmax (pc := 47) hG ((hi _ _)) hp4 kw_1955 kw_680 kw_173 kw_max ⟨Nat.le_of_ble_eq_true rfl, Nat.le_of_ble_eq_true rfl, Nat.le_of_ble_eq_true rfl, Nat.le_of_ble_eq_true rfl⟩ dX12_join_47 ?_
          obtain ⟨g36, h⟩ := h
          refine V.iast (pc := 50) (z := 20000) (o := 526) hG a_526 a_526.n hx5_15 g36 dX12_join_50 ?_
          exact fin dX12_join_51 ((okI_st hi ((sR_max ((hi _ _)) hp4)))) hw ⟨rfl, h⟩
  refine V.pick [1, 2, 3, 4, 5, 0] rfl ?_
  exact lp15 n19 (i 528 (wr (wr (i 504 21 * p1) + p2))) ((hi _ _)) h
set_option maxRecDepth 100000 in
set_option maxHeartbeats 4000000 in
theorem sm_X12_fromMaker (l : Launch) (Δ : Wd) {i r : MI} {p1 : Int} {p2 : Int} (hp1 : sR p1) (hp2 : sR p2) {Q : MI → Prop} (hi : okI i) (hw : Wf r) (h : wp_X12_fromMaker p1 p2 i r Q) : Met l yX12_fromMaker (Cond.code yX12_fromMaker cX12_fromMaker 6 none :: gW) (sRm 2 40) (sPc Δ [.ref (sA Δ 504), .int (sJ p1), .int (sJ p2)] i r) (sQv Δ (fun i' r' => r = r' ∧ Q i')) 0 0 (sFr Δ) := by
  refine Ct.v (by decide) rfl (Nat.le_of_ble_eq_true rfl) (fun Γ Q0 hG fin => ?_)
  have hG : okG Γ Δ l (sRm 2 40) cX12_fromMaker "SchedularyModel" 6 := hG
  show V Γ Δ 542 false i r 0 0 Q0 0 [(0, .ref (sA Δ 504)), (1, .int (sJ p1)), (2, .int (sJ p2))] []
  have jn107 : ∀  (ij107 : MI), okI ij107 → s107_X12_fromMaker ij107 r Q → V Γ Δ 542 false ij107 r 0 0 Q0 107 [] [] := by
    intro ij107 hij107 h
    exact fin dX12_fromMaker_107 hij107 hw ⟨rfl, h⟩
  refine V.iconst (pc := 0) hG dX12_fromMaker_0 ?_
  refine V.istore_n (pc := 1) (lv' := [(3, .int (sJ (-1))), (0, .ref (sA Δ 504)), (1, .int (sJ p1)), (2, .int (sJ p2))]) hG dX12_fromMaker_1 rfl (by decide) rfl ?_
  refine V.iconst (pc := 2) hG dX12_fromMaker_2 ?_
  refine V.istore (pc := 3) (lv' := [(4, .int (sJ (-1))), (3, .int (sJ (-1))), (0, .ref (sA Δ 504)), (1, .int (sJ p1)), (2, .int (sJ p2))]) hG dX12_fromMaker_3 (by decide) rfl ?_
  refine V.iconst (pc := 5) hG dX12_fromMaker_5 ?_
  refine V.istore (pc := 6) (lv' := [(5, .int (sJ 0)), (4, .int (sJ (-1))), (3, .int (sJ (-1))), (0, .ref (sA Δ 504)), (1, .int (sJ p1)), (2, .int (sJ p2))]) hG dX12_fromMaker_6 (by decide) rfl ?_
  obtain ⟨n57, h⟩ := h
  have lp8 : ∀ (m8 : Nat) (x3_8 : Int) (x4_8 : Int) (x5_8 : Int), sR x3_8 → sR x4_8 → sR x5_8 → LoopP (b8_X12_fromMaker p1 p2 i r Q) m8 (x3_8, x4_8, x5_8) → V Γ Δ 542 false i r 0 0 Q0 8 [(0, .ref (sA Δ 504)), (1, .int (sJ p1)), (2, .int (sJ p2)), (3, .int (sJ x3_8)), (4, .int (sJ x4_8)), (5, .int (sJ x5_8))] [] := by
    intro m8
    induction m8 with
    | zero => intro x3_8 x4_8 x5_8 hx3_8 hx4_8 hx5_8 h; exact h.elim
    | succ m8 ih8 =>
      intro x3_8 x4_8 x5_8 hx3_8 hx4_8 hx5_8 h
      have h := LoopP_succ h
      have jn59 : ∀ (x3j59 : Int) (x5j59 : Int) (k0j59 : Int), sR x3j59 → sR x5j59 → sR k0j59 → s59_X12_fromMaker p1 p2 x3j59 x5j59 k0j59 i r Q (LoopP (b8_X12_fromMaker p1 p2 i r Q) m8) → V Γ Δ 542 false i r 0 0 Q0 59 [(0, .ref (sA Δ 504)), (1, .int (sJ p1)), (2, .int (sJ p2)), (3, .int (sJ x3j59)), (5, .int (sJ x5j59))] [.int (sJ k0j59)] := by
        intro x3j59 x5j59 k0j59 hx3j59 hx5j59 hk0j59 h
        refine V.istore (pc := 59) (lv' := [(4, .int (sJ k0j59)), (0, .ref (sA Δ 504)), (1, .int (sJ p1)), (2, .int (sJ p2)), (3, .int (sJ x3j59)), (5, .int (sJ x5j59))]) hG dX12_fromMaker_59 (by decide) rfl ?_
        refine V.iinc (pc := 61) (lv' := [(5, .int (sJ (wr (x5j59 + 1)))), (4, .int (sJ k0j59)), (0, .ref (sA Δ 504)), (1, .int (sJ p1)), (2, .int (sJ p2)), (3, .int (sJ x3j59))]) hG dX12_fromMaker_61 5 rfl (by decide) rfl ?_
        refine V.goto (pc := 64) (tgt := 8) hG dX12_fromMaker_64 (by decide) ?_
        refine V.pick [2, 3, 4, 5, 1, 0] rfl ?_
        exact ih8 x3j59 k0j59 (wr (x5j59 + 1)) hx3j59 hk0j59 ((sR_wr _)) h
      have jn40 : ∀ (x4j40 : Int) (x5j40 : Int) (k0j40 : Int), sR x4j40 → sR x5j40 → sR k0j40 → s40_X12_fromMaker p1 p2 x4j40 x5j40 k0j40 i r Q (LoopP (b8_X12_fromMaker p1 p2 i r Q) m8) → V Γ Δ 542 false i r 0 0 Q0 40 [(0, .ref (sA Δ 504)), (1, .int (sJ p1)), (2, .int (sJ p2)), (4, .int (sJ x4j40)), (5, .int (sJ x5j40))] [.int (sJ k0j40)] := by
        intro x4j40 x5j40 k0j40 hx4j40 hx5j40 hk0j40 h
        refine V.istore_n (pc := 40) (lv' := [(3, .int (sJ k0j40)), (0, .ref (sA Δ 504)), (1, .int (sJ p1)), (2, .int (sJ p2)), (4, .int (sJ x4j40)), (5, .int (sJ x5j40))]) hG dX12_fromMaker_40 rfl (by decide) rfl ?_
        refine V.aload_n (pc := 41) hG dX12_fromMaker_41 rfl 1 rfl ?_
        refine V.getR (x := 519) (pc := 42) (ci := 14) (k := 26) (M := 49) (T := TX12) (o := 504) (kz := 26) hG a_504 a_504.n (by decide) hin_X12 rfl (by decide) (by decide) rfl kw_1718 rfl ((hw).1 (504, 26, 519) (by decide)) (by decide) dX12_fromMaker_42 ?_
        refine V.iload (pc := 45) hG dX12_fromMaker_45 5 rfl ?_
        obtain ⟨g62, h⟩ := h
        refine V.iald (pc := 47) (z := 96) (o := 519) hG a_519 a_519.n hx5j40 g62 dX12_fromMaker_47 ?_
        refine V.iload_n (pc := 48) hG dX12_fromMaker_48 rfl 3 rfl ?_
        obtain ⟨f65, t64⟩ := h
        refine V.icmp_ne (pc := 49) (tgt := 57) hG ((hi _ _)) hp2 dX12_fromMaker_49 (by decide) (fun c63 => ?_) (fun c63 => ?_)
        · have h := t64 c63
          clear t64 f65
          refine V.iload (pc := 57) hG dX12_fromMaker_57 4 rfl ?_
          refine V.pick [1, 2, 3, 0, 5] rfl ?_
          exact jn59 k0j40 x5j40 x4j40 hk0j40 hx5j40 hx4j40 h
        · have h := f65 c63
          clear t64 f65
          refine V.iload (pc := 52) hG dX12_fromMaker_52 5 rfl ?_
          refine V.goto (pc := 54) (tgt := 59) hG dX12_fromMaker_54 (by decide) ?_
          refine V.pick [1, 2, 3, 0, 5] rfl ?_
          exact jn59 k0j40 x5j40 x5j40 hk0j40 hx5j40 hx5j40 h
      have jn39 : ∀ (x3j39 : Int) (x4j39 : Int) (x5j39 : Int), sR x3j39 → sR x4j39 → sR x5j39 → s39_X12_fromMaker p1 p2 x3j39 x4j39 x5j39 i r Q (LoopP (b8_X12_fromMaker p1 p2 i r Q) m8) → V Γ Δ 542 false i r 0 0 Q0 39 [(0, .ref (sA Δ 504)), (1, .int (sJ p1)), (2, .int (sJ p2)), (3, .int (sJ x3j39)), (4, .int (sJ x4j39)), (5, .int (sJ x5j39))] [] := by
        intro x3j39 x4j39 x5j39 hx3j39 hx4j39 hx5j39 h
        refine V.iload_n (pc := 39) hG dX12_fromMaker_39 rfl 3 rfl ?_
        refine V.pick [0, 1, 2, 4, 5] rfl ?_
        exact jn40 x4j39 x5j39 x3j39 hx4j39 hx5j39 hx3j39 h
      refine V.iload (pc := 8) hG dX12_fromMaker_8 5 rfl ?_
      refine V.aload_n (pc := 10) hG dX12_fromMaker_10 rfl 0 rfl ?_
      refine V.getI (pc := 11) (ci := 14) (k := 21) (M := 49) (T := TX12) (o := 504) (kz := 21) hG a_504 a_504.n (by decide) hin_X12 rfl (by decide) (by decide) rfl kw_1713 rfl dX12_fromMaker_11 ?_
      obtain ⟨t67, f68⟩ := h
      refine V.icmp_ge (pc := 14) (tgt := 67) hG hx5_8 ((hi _ _)) dX12_fromMaker_14 (by decide) (fun c66 => ?_) (fun c66 => ?_)
      · have h := t67 c66
        clear t67 f68
        refine V.iload_n (pc := 67) hG dX12_fromMaker_67 rfl 3 rfl ?_
        refine V.iconst (pc := 68) hG dX12_fromMaker_68 ?_
        obtain ⟨t70, f71⟩ := h
        refine V.icmp_eq (pc := 69) (tgt := 87) hG hx3_8 ((sR_l rfl)) dX12_fromMaker_69 (by decide) (fun c69 => ?_) (fun c69 => ?_)
        · have h := t70 c69
          clear t70 f71
          refine V.iload (pc := 87) hG dX12_fromMaker_87 4 rfl ?_
          refine V.iconst (pc := 89) hG dX12_fromMaker_89 ?_
          obtain ⟨t73, f74⟩ := h
          refine V.icmp_eq (pc := 90) (tgt := 107) hG hx4_8 ((sR_l rfl)) dX12_fromMaker_90 (by decide) (fun c72 => ?_) (fun c72 => ?_)
          · have h := t73 c72
            clear t73 f74
            refine V.pick [] rfl ?_
            exact jn107 i hi h
          · have h := f74 c72
            clear t73 f74
            refine V.aload_n (pc := 93) hG dX12_fromMaker_93 rfl 0 rfl ?_
            refine V.iload (pc := 94) hG dX12_fromMaker_94 4 rfl ?_
            refine V.iload_n (pc := 96) hG dX12_fromMaker_96 rfl 1 rfl ?_
            refine V.iconst (pc := 97) hG dX12_fromMaker_97 ?_
            refine V.aload_n (pc := 98) hG dX12_fromMaker_98 rfl 0 rfl ?_
            refine V.iload (pc := 99) hG dX12_fromMaker_99 4 rfl ?_
            refine V.callVi (pc := 101) (As := [.int (sJ x4_8)]) (stk := [.int (sJ 1), .int (sJ p1), .int (sJ x4_8), .ref (sA Δ 504)]) hG (sm_X12_cyclesOf l Δ hx4_8 hi hw h) mY_X12_cyclesOf kw_1947 kw_1949 kw_123 a_504 (by decide) (q := (RX12, TX12, 49)) rfl rfl ⟨Nat.le_of_ble_eq_true rfl, Nat.le_of_ble_eq_true rfl, Nat.le_of_ble_eq_true rfl, Nat.le_of_ble_eq_true rfl⟩ rfl (Nat.le_of_ble_eq_true rfl) dX12_fromMaker_101 rfl (fun v75 i76 r77 hv78 hi79 hw80 hq81 => ?_)
            obtain ⟨e91, e92, h⟩ := hq81
            subst e91
            subst e92
            refine V.callVv (pc := 104) (As := [.int (sJ x4_8), .int (sJ p1), .int (sJ 1), .int (sJ v75)]) (stk := []) hG (sm_X12_join l Δ hx4_8 hp1 ((sR_l rfl)) hv78 hi hw h) mY_X12_join kw_1951 kw_1953 kw_124 a_504 (by decide) (q := (RX12, TX12, 49)) rfl rfl ⟨Nat.le_of_ble_eq_true rfl, Nat.le_of_ble_eq_true rfl, Nat.le_of_ble_eq_true rfl, Nat.le_of_ble_eq_true rfl⟩ rfl (Nat.le_of_ble_eq_true rfl) dX12_fromMaker_104 rfl (fun i83 r84 hi86 hw87 hq88 => ?_)
            obtain ⟨e90, h⟩ := hq88
            subst e90
            refine V.pick [] rfl ?_
            exact jn107 i83 hi86 h
        · have h := f71 c69
          clear t70 f71
          refine V.aload_n (pc := 72) hG dX12_fromMaker_72 rfl 0 rfl ?_
          refine V.iload_n (pc := 73) hG dX12_fromMaker_73 rfl 3 rfl ?_
          refine V.iload_n (pc := 74) hG dX12_fromMaker_74 rfl 1 rfl ?_
          refine V.iconst (pc := 75) hG dX12_fromMaker_75 ?_
          refine V.aload_n (pc := 76) hG dX12_fromMaker_76 rfl 0 rfl ?_
          refine V.iload_n (pc := 77) hG dX12_fromMaker_77 rfl 3 rfl ?_
          refine V.callVi (pc := 78) (As := [.int (sJ x3_8)]) (stk := [.int (sJ 0), .int (sJ p1), .int (sJ x3_8), .ref (sA Δ 504)]) hG (sm_X12_cyclesOf l Δ hx3_8 hi hw h) mY_X12_cyclesOf kw_1947 kw_1949 kw_123 a_504 (by decide) (q := (RX12, TX12, 49)) rfl rfl ⟨Nat.le_of_ble_eq_true rfl, Nat.le_of_ble_eq_true rfl, Nat.le_of_ble_eq_true rfl, Nat.le_of_ble_eq_true rfl⟩ rfl (Nat.le_of_ble_eq_true rfl) dX12_fromMaker_78 rfl (fun v93 i94 r95 hv96 hi97 hw98 hq99 => ?_)
          obtain ⟨e109, e110, h⟩ := hq99
          subst e109
          subst e110
          refine V.callVv (pc := 81) (As := [.int (sJ x3_8), .int (sJ p1), .int (sJ 0), .int (sJ v93)]) (stk := []) hG (sm_X12_join l Δ hx3_8 hp1 ((sR_l rfl)) hv96 hi hw h) mY_X12_join kw_1951 kw_1953 kw_124 a_504 (by decide) (q := (RX12, TX12, 49)) rfl rfl ⟨Nat.le_of_ble_eq_true rfl, Nat.le_of_ble_eq_true rfl, Nat.le_of_ble_eq_true rfl, Nat.le_of_ble_eq_true rfl⟩ rfl (Nat.le_of_ble_eq_true rfl) dX12_fromMaker_81 rfl (fun i101 r102 hi104 hw105 hq106 => ?_)
          obtain ⟨e108, h⟩ := hq106
          subst e108
          refine V.goto (pc := 84) (tgt := 107) hG dX12_fromMaker_84 (by decide) ?_
          refine V.pick [] rfl ?_
          exact jn107 i101 hi104 h
      · have h := f68 c66
        clear t67 f68
        refine V.aload_n (pc := 17) hG dX12_fromMaker_17 rfl 0 rfl ?_
        refine V.getR (x := 519) (pc := 18) (ci := 14) (k := 26) (M := 49) (T := TX12) (o := 504) (kz := 26) hG a_504 a_504.n (by decide) hin_X12 rfl (by decide) (by decide) rfl kw_1718 rfl ((hw).1 (504, 26, 519) (by decide)) (by decide) dX12_fromMaker_18 ?_
        refine V.iload (pc := 21) hG dX12_fromMaker_21 5 rfl ?_
        obtain ⟨g111, h⟩ := h
        refine V.iald (pc := 23) (z := 96) (o := 519) hG a_519 a_519.n hx5_8 g111 dX12_fromMaker_23 ?_
        refine V.iload_n (pc := 24) hG dX12_fromMaker_24 rfl 2 rfl ?_
        obtain ⟨f114, t113⟩ := h
        refine V.icmp_ne (pc := 25) (tgt := 39) hG ((hi _ _)) hp2 dX12_fromMaker_25 (by decide) (fun c112 => ?_) (fun c112 => ?_)
        · have h := t113 c112
          clear t113 f114
          exact jn39 x3_8 x4_8 x5_8 hx3_8 hx4_8 hx5_8 h
        · have h := f114 c112
          clear t113 f114
          refine V.iload (pc := 28) hG dX12_fromMaker_28 5 rfl ?_
          refine V.iload_n (pc := 30) hG dX12_fromMaker_30 rfl 1 rfl ?_
          obtain ⟨t116, f117⟩ := h
          refine V.icmp_ge (pc := 31) (tgt := 39) hG hx5_8 hp1 dX12_fromMaker_31 (by decide) (fun c115 => ?_) (fun c115 => ?_)
          · have h := t116 c115
            clear t116 f117
            exact jn39 x3_8 x4_8 x5_8 hx3_8 hx4_8 hx5_8 h
          · have h := f117 c115
            clear t116 f117
            refine V.iload (pc := 34) hG dX12_fromMaker_34 5 rfl ?_
            refine V.goto (pc := 36) (tgt := 40) hG dX12_fromMaker_36 (by decide) ?_
            refine V.pick [0, 1, 2, 4, 5] rfl ?_
            exact jn40 x4_8 x5_8 x5_8 hx4_8 hx5_8 hx5_8 h
  refine V.pick [3, 4, 5, 2, 1, 0] rfl ?_
  exact lp8 n57 (-1) (-1) 0 ((sR_l rfl)) ((sR_l rfl)) ((sR_l rfl)) h
set_option maxRecDepth 100000 in
set_option maxHeartbeats 4000000 in
theorem sm_X12_laterMakers (l : Launch) (Δ : Wd) {i r : MI} {p1 : Int} {p2 : Int} {p3 : Int} (hp1 : sR p1) (hp2 : sR p2) (hp3 : sR p3) {Q : MI → Prop} (hi : okI i) (hw : Wf r) (h : wp_X12_laterMakers p1 p2 p3 i r Q) : Met l yX12_laterMakers (Cond.code yX12_laterMakers cX12_laterMakers 7 none :: gW) (sRm 2 40) (sPc Δ [.ref (sA Δ 504), .int (sJ p1), .int (sJ p2), .int (sJ p3)] i r) (sQv Δ (fun i' r' => r = r' ∧ Q i')) 0 0 (sFr Δ) := by
  refine Ct.v (by decide) rfl (Nat.le_of_ble_eq_true rfl) (fun Γ Q0 hG fin => ?_)
  have hG : okG Γ Δ l (sRm 2 40) cX12_laterMakers "SchedularyModel" 7 := hG
  show V Γ Δ 542 false i r 0 0 Q0 0 [(0, .ref (sA Δ 504)), (1, .int (sJ p1)), (2, .int (sJ p2)), (3, .int (sJ p3))] []
  have jn124 : ∀  (ij124 : MI), okI ij124 → s124_X12_laterMakers ij124 r Q → V Γ Δ 542 false ij124 r 0 0 Q0 124 [] [] := by
    intro ij124 hij124 h
    exact fin dX12_laterMakers_124 hij124 hw ⟨rfl, h⟩
  refine V.iconst (pc := 0) hG dX12_laterMakers_0 ?_
  refine V.istore (pc := 1) (lv' := [(4, .int (sJ (-1))), (0, .ref (sA Δ 504)), (1, .int (sJ p1)), (2, .int (sJ p2)), (3, .int (sJ p3))]) hG dX12_laterMakers_1 (by decide) rfl ?_
  refine V.iconst (pc := 3) hG dX12_laterMakers_3 ?_
  refine V.istore (pc := 4) (lv' := [(5, .int (sJ (-1))), (4, .int (sJ (-1))), (0, .ref (sA Δ 504)), (1, .int (sJ p1)), (2, .int (sJ p2)), (3, .int (sJ p3))]) hG dX12_laterMakers_4 (by decide) rfl ?_
  refine V.aload_n (pc := 6) hG dX12_laterMakers_6 rfl 2 rfl ?_
  refine V.getI (pc := 7) (ci := 14) (k := 21) (M := 49) (T := TX12) (o := 504) (kz := 21) hG a_504 a_504.n (by decide) hin_X12 rfl (by decide) (by decide) rfl kw_1713 rfl dX12_laterMakers_7 ?_
  refine V.iconst (pc := 10) hG dX12_laterMakers_10 ?_
  refine V.isub (pc := 11) hG dX12_laterMakers_11 ?_
  refine V.istore (pc := 12) (lv' := [(6, .int (sJ (wr (i 504 21 - 1)))), (5, .int (sJ (-1))), (4, .int (sJ (-1))), (0, .ref (sA Δ 504)), (1, .int (sJ p1)), (2, .int (sJ p2)), (3, .int (sJ p3))]) hG dX12_laterMakers_12 (by decide) rfl ?_
  obtain ⟨n60, h⟩ := h
  have lp14 : ∀ (m14 : Nat) (x4_14 : Int) (x5_14 : Int) (x6_14 : Int), sR x4_14 → sR x5_14 → sR x6_14 → LoopP (b14_X12_laterMakers p1 p2 p3 i r Q) m14 (x4_14, x5_14, x6_14) → V Γ Δ 542 false i r 0 0 Q0 14 [(0, .ref (sA Δ 504)), (1, .int (sJ p1)), (2, .int (sJ p2)), (3, .int (sJ p3)), (4, .int (sJ x4_14)), (5, .int (sJ x5_14)), (6, .int (sJ x6_14))] [] := by
    intro m14
    induction m14 with
    | zero => intro x4_14 x5_14 x6_14 hx4_14 hx5_14 hx6_14 h; exact h.elim
    | succ m14 ih14 =>
      intro x4_14 x5_14 x6_14 hx4_14 hx5_14 hx6_14 h
      have h := LoopP_succ h
      have jn69 : ∀ (x4j69 : Int) (x6j69 : Int) (k0j69 : Int), sR x4j69 → sR x6j69 → sR k0j69 → s69_X12_laterMakers p1 p2 p3 x4j69 x6j69 k0j69 i r Q (LoopP (b14_X12_laterMakers p1 p2 p3 i r Q) m14) → V Γ Δ 542 false i r 0 0 Q0 69 [(0, .ref (sA Δ 504)), (1, .int (sJ p1)), (2, .int (sJ p2)), (3, .int (sJ p3)), (4, .int (sJ x4j69)), (6, .int (sJ x6j69))] [.int (sJ k0j69)] := by
        intro x4j69 x6j69 k0j69 hx4j69 hx6j69 hk0j69 h
        refine V.istore (pc := 69) (lv' := [(5, .int (sJ k0j69)), (0, .ref (sA Δ 504)), (1, .int (sJ p1)), (2, .int (sJ p2)), (3, .int (sJ p3)), (4, .int (sJ x4j69)), (6, .int (sJ x6j69))]) hG dX12_laterMakers_69 (by decide) rfl ?_
        refine V.iinc (pc := 71) (lv' := [(6, .int (sJ (wr (x6j69 + (-1))))), (5, .int (sJ k0j69)), (0, .ref (sA Δ 504)), (1, .int (sJ p1)), (2, .int (sJ p2)), (3, .int (sJ p3)), (4, .int (sJ x4j69))]) hG dX12_laterMakers_71 6 rfl (by decide) rfl ?_
        refine V.goto (pc := 74) (tgt := 14) hG dX12_laterMakers_74 (by decide) ?_
        refine V.pick [2, 3, 4, 5, 6, 1, 0] rfl ?_
        exact ih14 x4j69 k0j69 (wr (x6j69 + (-1))) hx4j69 hk0j69 ((sR_wr _)) h
      have jn67 : ∀ (x4j67 : Int) (x5j67 : Int) (x6j67 : Int), sR x4j67 → sR x5j67 → sR x6j67 → s67_X12_laterMakers p1 p2 p3 x4j67 x5j67 x6j67 i r Q (LoopP (b14_X12_laterMakers p1 p2 p3 i r Q) m14) → V Γ Δ 542 false i r 0 0 Q0 67 [(0, .ref (sA Δ 504)), (1, .int (sJ p1)), (2, .int (sJ p2)), (3, .int (sJ p3)), (4, .int (sJ x4j67)), (5, .int (sJ x5j67)), (6, .int (sJ x6j67))] [] := by
        intro x4j67 x5j67 x6j67 hx4j67 hx5j67 hx6j67 h
        refine V.iload (pc := 67) hG dX12_laterMakers_67 5 rfl ?_
        refine V.pick [0, 1, 2, 3, 4, 6] rfl ?_
        exact jn69 x4j67 x6j67 x5j67 hx4j67 hx6j67 hx5j67 h
      have jn43 : ∀ (x5j43 : Int) (x6j43 : Int) (k0j43 : Int), sR x5j43 → sR x6j43 → sR k0j43 → s43_X12_laterMakers p1 p2 p3 x5j43 x6j43 k0j43 i r Q (LoopP (b14_X12_laterMakers p1 p2 p3 i r Q) m14) → V Γ Δ 542 false i r 0 0 Q0 43 [(0, .ref (sA Δ 504)), (1, .int (sJ p1)), (2, .int (sJ p2)), (3, .int (sJ p3)), (5, .int (sJ x5j43)), (6, .int (sJ x6j43))] [.int (sJ k0j43)] := by
        intro x5j43 x6j43 k0j43 hx5j43 hx6j43 hk0j43 h
        refine V.istore (pc := 43) (lv' := [(4, .int (sJ k0j43)), (0, .ref (sA Δ 504)), (1, .int (sJ p1)), (2, .int (sJ p2)), (3, .int (sJ p3)), (5, .int (sJ x5j43)), (6, .int (sJ x6j43))]) hG dX12_laterMakers_43 (by decide) rfl ?_
        refine V.aload_n (pc := 45) hG dX12_laterMakers_45 rfl 1 rfl ?_
        refine V.getR (x := 519) (pc := 46) (ci := 14) (k := 26) (M := 49) (T := TX12) (o := 504) (kz := 26) hG a_504 a_504.n (by decide) hin_X12 rfl (by decide) (by decide) rfl kw_1718 rfl ((hw).1 (504, 26, 519) (by decide)) (by decide) dX12_laterMakers_46 ?_
        refine V.iload (pc := 49) hG dX12_laterMakers_49 6 rfl ?_
        obtain ⟨g68, h⟩ := h
        refine V.iald (pc := 51) (z := 96) (o := 519) hG a_519 a_519.n hx6j43 g68 dX12_laterMakers_51 ?_
        refine V.iload_n (pc := 52) hG dX12_laterMakers_52 rfl 3 rfl ?_
        obtain ⟨f71, t70⟩ := h
        refine V.icmp_ne (pc := 53) (tgt := 67) hG ((hi _ _)) hp2 dX12_laterMakers_53 (by decide) (fun c69 => ?_) (fun c69 => ?_)
        · have h := t70 c69
          clear t70 f71
          refine V.pick [1, 2, 3, 4, 0, 5, 6] rfl ?_
          exact jn67 k0j43 x5j43 x6j43 hk0j43 hx5j43 hx6j43 h
        · have h := f71 c69
          clear t70 f71
          refine V.iload (pc := 56) hG dX12_laterMakers_56 6 rfl ?_
          refine V.iload_n (pc := 58) hG dX12_laterMakers_58 rfl 2 rfl ?_
          obtain ⟨t73, f74⟩ := h
          refine V.icmp_eq (pc := 59) (tgt := 67) hG hx6j43 hp1 dX12_laterMakers_59 (by decide) (fun c72 => ?_) (fun c72 => ?_)
          · have h := t73 c72
            clear t73 f74
            refine V.pick [1, 2, 3, 4, 0, 5, 6] rfl ?_
            exact jn67 k0j43 x5j43 x6j43 hk0j43 hx5j43 hx6j43 h
          · have h := f74 c72
            clear t73 f74
            refine V.iload (pc := 62) hG dX12_laterMakers_62 6 rfl ?_
            refine V.goto (pc := 64) (tgt := 69) hG dX12_laterMakers_64 (by decide) ?_
            refine V.pick [1, 2, 3, 4, 0, 6] rfl ?_
            exact jn69 k0j43 x6j43 x6j43 hk0j43 hx6j43 hx6j43 h
      have jn41 : ∀ (x4j41 : Int) (x5j41 : Int) (x6j41 : Int), sR x4j41 → sR x5j41 → sR x6j41 → s41_X12_laterMakers p1 p2 p3 x4j41 x5j41 x6j41 i r Q (LoopP (b14_X12_laterMakers p1 p2 p3 i r Q) m14) → V Γ Δ 542 false i r 0 0 Q0 41 [(0, .ref (sA Δ 504)), (1, .int (sJ p1)), (2, .int (sJ p2)), (3, .int (sJ p3)), (4, .int (sJ x4j41)), (5, .int (sJ x5j41)), (6, .int (sJ x6j41))] [] := by
        intro x4j41 x5j41 x6j41 hx4j41 hx5j41 hx6j41 h
        refine V.iload (pc := 41) hG dX12_laterMakers_41 4 rfl ?_
        refine V.pick [0, 1, 2, 3, 5, 6] rfl ?_
        exact jn43 x5j41 x6j41 x4j41 hx5j41 hx6j41 hx4j41 h
      refine V.iload (pc := 14) hG dX12_laterMakers_14 6 rfl ?_
      obtain ⟨t76, f77⟩ := h
      refine V.if_lt (pc := 16) (tgt := 77) hG hx6_14 dX12_laterMakers_16 (by decide) (fun c75 => ?_) (fun c75 => ?_)
      · have h := t76 c75
        clear t76 f77
        refine V.iload (pc := 77) hG dX12_laterMakers_77 4 rfl ?_
        refine V.iconst (pc := 79) hG dX12_laterMakers_79 ?_
        obtain ⟨t79, f80⟩ := h
        refine V.icmp_eq (pc := 80) (tgt := 102) hG hx4_14 ((sR_l rfl)) dX12_laterMakers_80 (by decide) (fun c78 => ?_) (fun c78 => ?_)
        · have h := t79 c78
          clear t79 f80
          refine V.iload (pc := 102) hG dX12_laterMakers_102 5 rfl ?_
          refine V.iconst (pc := 104) hG dX12_laterMakers_104 ?_
          obtain ⟨t82, f83⟩ := h
          refine V.icmp_eq (pc := 105) (tgt := 124) hG hx5_14 ((sR_l rfl)) dX12_laterMakers_105 (by decide) (fun c81 => ?_) (fun c81 => ?_)
          · have h := t82 c81
            clear t82 f83
            refine V.pick [] rfl ?_
            exact jn124 i hi h
          · have h := f83 c81
            clear t82 f83
            refine V.aload_n (pc := 108) hG dX12_laterMakers_108 rfl 0 rfl ?_
            refine V.iload_n (pc := 109) hG dX12_laterMakers_109 rfl 1 rfl ?_
            refine V.iload (pc := 110) hG dX12_laterMakers_110 5 rfl ?_
            refine V.iconst (pc := 112) hG dX12_laterMakers_112 ?_
            refine V.iload_n (pc := 113) hG dX12_laterMakers_113 rfl 3 rfl ?_
            refine V.aload_n (pc := 114) hG dX12_laterMakers_114 rfl 0 rfl ?_
            refine V.iload (pc := 115) hG dX12_laterMakers_115 5 rfl ?_
            refine V.callVi (pc := 117) (As := [.int (sJ x5_14)]) (stk := [.int (sJ p3), .int (sJ 1), .int (sJ x5_14), .int (sJ p1), .ref (sA Δ 504)]) hG (sm_X12_cyclesOf l Δ hx5_14 hi hw h) mY_X12_cyclesOf kw_1947 kw_1949 kw_123 a_504 (by decide) (q := (RX12, TX12, 49)) rfl rfl ⟨Nat.le_of_ble_eq_true rfl, Nat.le_of_ble_eq_true rfl, Nat.le_of_ble_eq_true rfl, Nat.le_of_ble_eq_true rfl⟩ rfl (Nat.le_of_ble_eq_true rfl) dX12_laterMakers_117 rfl (fun v84 i85 r86 hv87 hi88 hw89 hq90 => ?_)
            obtain ⟨e100, e101, h⟩ := hq90
            subst e100
            subst e101
            refine V.isub (pc := 120) hG dX12_laterMakers_120 ?_
            refine V.callVv (pc := 121) (As := [.int (sJ p1), .int (sJ x5_14), .int (sJ 1), .int (sJ (wr (p3 - v84)))]) (stk := []) hG (sm_X12_join l Δ hp1 hx5_14 ((sR_l rfl)) ((sR_wr _)) hi hw h) mY_X12_join kw_1951 kw_1953 kw_124 a_504 (by decide) (q := (RX12, TX12, 49)) rfl rfl ⟨Nat.le_of_ble_eq_true rfl, Nat.le_of_ble_eq_true rfl, Nat.le_of_ble_eq_true rfl, Nat.le_of_ble_eq_true rfl⟩ rfl (Nat.le_of_ble_eq_true rfl) dX12_laterMakers_121 rfl (fun i92 r93 hi95 hw96 hq97 => ?_)
            obtain ⟨e99, h⟩ := hq97
            subst e99
            refine V.pick [] rfl ?_
            exact jn124 i92 hi95 h
        · have h := f80 c78
          clear t79 f80
          refine V.aload_n (pc := 83) hG dX12_laterMakers_83 rfl 0 rfl ?_
          refine V.iload_n (pc := 84) hG dX12_laterMakers_84 rfl 1 rfl ?_
          refine V.iload (pc := 85) hG dX12_laterMakers_85 4 rfl ?_
          refine V.iconst (pc := 87) hG dX12_laterMakers_87 ?_
          refine V.iload_n (pc := 88) hG dX12_laterMakers_88 rfl 3 rfl ?_
          refine V.aload_n (pc := 89) hG dX12_laterMakers_89 rfl 0 rfl ?_
          refine V.iload (pc := 90) hG dX12_laterMakers_90 4 rfl ?_
          refine V.callVi (pc := 92) (As := [.int (sJ x4_14)]) (stk := [.int (sJ p3), .int (sJ 0), .int (sJ x4_14), .int (sJ p1), .ref (sA Δ 504)]) hG (sm_X12_cyclesOf l Δ hx4_14 hi hw h) mY_X12_cyclesOf kw_1947 kw_1949 kw_123 a_504 (by decide) (q := (RX12, TX12, 49)) rfl rfl ⟨Nat.le_of_ble_eq_true rfl, Nat.le_of_ble_eq_true rfl, Nat.le_of_ble_eq_true rfl, Nat.le_of_ble_eq_true rfl⟩ rfl (Nat.le_of_ble_eq_true rfl) dX12_laterMakers_92 rfl (fun v102 i103 r104 hv105 hi106 hw107 hq108 => ?_)
          obtain ⟨e118, e119, h⟩ := hq108
          subst e118
          subst e119
          refine V.isub (pc := 95) hG dX12_laterMakers_95 ?_
          refine V.callVv (pc := 96) (As := [.int (sJ p1), .int (sJ x4_14), .int (sJ 0), .int (sJ (wr (p3 - v102)))]) (stk := []) hG (sm_X12_join l Δ hp1 hx4_14 ((sR_l rfl)) ((sR_wr _)) hi hw h) mY_X12_join kw_1951 kw_1953 kw_124 a_504 (by decide) (q := (RX12, TX12, 49)) rfl rfl ⟨Nat.le_of_ble_eq_true rfl, Nat.le_of_ble_eq_true rfl, Nat.le_of_ble_eq_true rfl, Nat.le_of_ble_eq_true rfl⟩ rfl (Nat.le_of_ble_eq_true rfl) dX12_laterMakers_96 rfl (fun i110 r111 hi113 hw114 hq115 => ?_)
          obtain ⟨e117, h⟩ := hq115
          subst e117
          refine V.goto (pc := 99) (tgt := 124) hG dX12_laterMakers_99 (by decide) ?_
          refine V.pick [] rfl ?_
          exact jn124 i110 hi113 h
      · have h := f77 c75
        clear t76 f77
        refine V.aload_n (pc := 19) hG dX12_laterMakers_19 rfl 0 rfl ?_
        refine V.getR (x := 519) (pc := 20) (ci := 14) (k := 26) (M := 49) (T := TX12) (o := 504) (kz := 26) hG a_504 a_504.n (by decide) hin_X12 rfl (by decide) (by decide) rfl kw_1718 rfl ((hw).1 (504, 26, 519) (by decide)) (by decide) dX12_laterMakers_20 ?_
        refine V.iload (pc := 23) hG dX12_laterMakers_23 6 rfl ?_
        obtain ⟨g120, h⟩ := h
        refine V.iald (pc := 25) (z := 96) (o := 519) hG a_519 a_519.n hx6_14 g120 dX12_laterMakers_25 ?_
        refine V.iload_n (pc := 26) hG dX12_laterMakers_26 rfl 2 rfl ?_
        obtain ⟨f123, t122⟩ := h
        refine V.icmp_ne (pc := 27) (tgt := 41) hG ((hi _ _)) hp2 dX12_laterMakers_27 (by decide) (fun c121 => ?_) (fun c121 => ?_)
        · have h := t122 c121
          clear t122 f123
          exact jn41 x4_14 x5_14 x6_14 hx4_14 hx5_14 hx6_14 h
        · have h := f123 c121
          clear t122 f123
          refine V.iload (pc := 30) hG dX12_laterMakers_30 6 rfl ?_
          refine V.iload_n (pc := 32) hG dX12_laterMakers_32 rfl 1 rfl ?_
          obtain ⟨t125, f126⟩ := h
          refine V.icmp_le (pc := 33) (tgt := 41) hG hx6_14 hp1 dX12_laterMakers_33 (by decide) (fun c124 => ?_) (fun c124 => ?_)
          · have h := t125 c124
            clear t125 f126
            exact jn41 x4_14 x5_14 x6_14 hx4_14 hx5_14 hx6_14 h
          · have h := f126 c124
            clear t125 f126
            refine V.iload (pc := 36) hG dX12_laterMakers_36 6 rfl ?_
            refine V.goto (pc := 38) (tgt := 43) hG dX12_laterMakers_38 (by decide) ?_
            refine V.pick [0, 1, 2, 3, 5, 6] rfl ?_
            exact jn43 x5_14 x6_14 x6_14 hx5_14 hx6_14 hx6_14 h
  refine V.pick [3, 4, 5, 6, 2, 1, 0] rfl ?_
  exact lp14 n60 (-1) (-1) (wr (i 504 21 - 1)) ((sR_l rfl)) ((sR_l rfl)) ((sR_wr _)) h
set_option maxRecDepth 100000 in
set_option maxHeartbeats 4000000 in
theorem sm_X12_nextOfChannel (l : Launch) (Δ : Wd) {i r : MI} {p1 : Int} (hp1 : sR p1) {Q : MI → Prop} (hi : okI i) (hw : Wf r) (h : wp_X12_nextOfChannel p1 i r Q) : Met l yX12_nextOfChannel (Cond.code yX12_nextOfChannel cX12_nextOfChannel 5 none :: gW) (sRm 2 40) (sPc Δ [.ref (sA Δ 504), .int (sJ p1)] i r) (sQv Δ (fun i' r' => r = r' ∧ Q i')) 0 0 (sFr Δ) := by
  refine Ct.v (by decide) rfl (Nat.le_of_ble_eq_true rfl) (fun Γ Q0 hG fin => ?_)
  have hG : okG Γ Δ l (sRm 2 40) cX12_nextOfChannel "SchedularyModel" 5 := hG
  show V Γ Δ 542 false i r 0 0 Q0 0 [(0, .ref (sA Δ 504)), (1, .int (sJ p1))] []
  have jn121 : ∀  (ij121 : MI), okI ij121 → s121_X12_nextOfChannel ij121 r Q → V Γ Δ 542 false ij121 r 0 0 Q0 121 [] [] := by
    intro ij121 hij121 h
    exact fin dX12_nextOfChannel_121 hij121 hw ⟨rfl, h⟩
  refine V.aload_n (pc := 0) hG dX12_nextOfChannel_0 rfl 0 rfl ?_
  refine V.getR (x := 517) (pc := 1) (ci := 14) (k := 24) (M := 49) (T := TX12) (o := 504) (kz := 24) hG a_504 a_504.n (by decide) hin_X12 rfl (by decide) (by decide) rfl kw_1716 rfl ((hw).1 (504, 24, 517) (by decide)) (by decide) dX12_nextOfChannel_1 ?_
  refine V.iload_n (pc := 4) hG dX12_nextOfChannel_4 rfl 1 rfl ?_
  obtain ⟨g1, h⟩ := h
  refine V.iald (pc := 5) (z := 96) (o := 517) hG a_517 a_517.n hp1 g1 dX12_nextOfChannel_5 ?_
  refine V.iconst (pc := 6) hG dX12_nextOfChannel_6 ?_
  obtain ⟨t3, f4⟩ := h
  refine V.icmp_ge (pc := 7) (tgt := 11) hG ((hi _ _)) ((sR_l rfl)) dX12_nextOfChannel_7 (by decide) (fun c2 => ?_) (fun c2 => ?_)
  · have h := t3 c2
    clear t3 f4
    refine V.iconst (pc := 11) hG dX12_nextOfChannel_11 ?_
    refine V.istore_n (pc := 12) (lv' := [(2, .int (sJ (-1))), (0, .ref (sA Δ 504)), (1, .int (sJ p1))]) hG dX12_nextOfChannel_12 rfl (by decide) rfl ?_
    refine V.iconst (pc := 13) hG dX12_nextOfChannel_13 ?_
    refine V.istore_n (pc := 14) (lv' := [(3, .int (sJ (-1))), (2, .int (sJ (-1))), (0, .ref (sA Δ 504)), (1, .int (sJ p1))]) hG dX12_nextOfChannel_14 rfl (by decide) rfl ?_
    refine V.aload_n (pc := 15) hG dX12_nextOfChannel_15 rfl 2 rfl ?_
    refine V.getI (pc := 16) (ci := 14) (k := 21) (M := 49) (T := TX12) (o := 504) (kz := 21) hG a_504 a_504.n (by decide) hin_X12 rfl (by decide) (by decide) rfl kw_1713 rfl dX12_nextOfChannel_16 ?_
    refine V.iconst (pc := 19) hG dX12_nextOfChannel_19 ?_
    refine V.isub (pc := 20) hG dX12_nextOfChannel_20 ?_
    refine V.istore (pc := 21) (lv' := [(4, .int (sJ (wr (i 504 21 - 1)))), (3, .int (sJ (-1))), (2, .int (sJ (-1))), (0, .ref (sA Δ 504)), (1, .int (sJ p1))]) hG dX12_nextOfChannel_21 (by decide) rfl ?_
    obtain ⟨n48, h⟩ := h
    have lp23 : ∀ (m23 : Nat) (x2_23 : Int) (x3_23 : Int) (x4_23 : Int), sR x2_23 → sR x3_23 → sR x4_23 → LoopP (b23_X12_nextOfChannel p1 i r Q) m23 (x2_23, x3_23, x4_23) → V Γ Δ 542 false i r 0 0 Q0 23 [(0, .ref (sA Δ 504)), (1, .int (sJ p1)), (2, .int (sJ x2_23)), (3, .int (sJ x3_23)), (4, .int (sJ x4_23))] [] := by
      intro m23
      induction m23 with
      | zero => intro x2_23 x3_23 x4_23 hx2_23 hx3_23 hx4_23 h; exact h.elim
      | succ m23 ih23 =>
        intro x2_23 x3_23 x4_23 hx2_23 hx3_23 hx4_23 h
        have h := LoopP_succ h
        have jn85 : ∀ (x2j85 : Int) (x4j85 : Int) (k0j85 : Int), sR x2j85 → sR x4j85 → sR k0j85 → s85_X12_nextOfChannel p1 x2j85 x4j85 k0j85 i r Q (LoopP (b23_X12_nextOfChannel p1 i r Q) m23) → V Γ Δ 542 false i r 0 0 Q0 85 [(0, .ref (sA Δ 504)), (1, .int (sJ p1)), (2, .int (sJ x2j85)), (4, .int (sJ x4j85))] [.int (sJ k0j85)] := by
          intro x2j85 x4j85 k0j85 hx2j85 hx4j85 hk0j85 h
          refine V.istore_n (pc := 85) (lv' := [(3, .int (sJ k0j85)), (0, .ref (sA Δ 504)), (1, .int (sJ p1)), (2, .int (sJ x2j85)), (4, .int (sJ x4j85))]) hG dX12_nextOfChannel_85 rfl (by decide) rfl ?_
          refine V.iinc (pc := 86) (lv' := [(4, .int (sJ (wr (x4j85 + (-1))))), (3, .int (sJ k0j85)), (0, .ref (sA Δ 504)), (1, .int (sJ p1)), (2, .int (sJ x2j85))]) hG dX12_nextOfChannel_86 4 rfl (by decide) rfl ?_
          refine V.goto (pc := 89) (tgt := 23) hG dX12_nextOfChannel_89 (by decide) ?_
          refine V.pick [2, 3, 4, 1, 0] rfl ?_
          exact ih23 x2j85 k0j85 (wr (x4j85 + (-1))) hx2j85 hk0j85 ((sR_wr _)) h
        have jn84 : ∀ (x2j84 : Int) (x3j84 : Int) (x4j84 : Int), sR x2j84 → sR x3j84 → sR x4j84 → s84_X12_nextOfChannel p1 x2j84 x3j84 x4j84 i r Q (LoopP (b23_X12_nextOfChannel p1 i r Q) m23) → V Γ Δ 542 false i r 0 0 Q0 84 [(0, .ref (sA Δ 504)), (1, .int (sJ p1)), (2, .int (sJ x2j84)), (3, .int (sJ x3j84)), (4, .int (sJ x4j84))] [] := by
          intro x2j84 x3j84 x4j84 hx2j84 hx3j84 hx4j84 h
          refine V.iload_n (pc := 84) hG dX12_nextOfChannel_84 rfl 3 rfl ?_
          refine V.pick [0, 1, 2, 4] rfl ?_
          exact jn85 x2j84 x4j84 x3j84 hx2j84 hx4j84 hx3j84 h
        have jn56 : ∀ (x3j56 : Int) (x4j56 : Int) (k0j56 : Int), sR x3j56 → sR x4j56 → sR k0j56 → s56_X12_nextOfChannel p1 x3j56 x4j56 k0j56 i r Q (LoopP (b23_X12_nextOfChannel p1 i r Q) m23) → V Γ Δ 542 false i r 0 0 Q0 56 [(0, .ref (sA Δ 504)), (1, .int (sJ p1)), (3, .int (sJ x3j56)), (4, .int (sJ x4j56))] [.int (sJ k0j56)] := by
          intro x3j56 x4j56 k0j56 hx3j56 hx4j56 hk0j56 h
          refine V.istore_n (pc := 56) (lv' := [(2, .int (sJ k0j56)), (0, .ref (sA Δ 504)), (1, .int (sJ p1)), (3, .int (sJ x3j56)), (4, .int (sJ x4j56))]) hG dX12_nextOfChannel_56 rfl (by decide) rfl ?_
          refine V.aload_n (pc := 57) hG dX12_nextOfChannel_57 rfl 1 rfl ?_
          refine V.getR (x := 517) (pc := 58) (ci := 14) (k := 24) (M := 49) (T := TX12) (o := 504) (kz := 24) hG a_504 a_504.n (by decide) hin_X12 rfl (by decide) (by decide) rfl kw_1716 rfl ((hw).1 (504, 24, 517) (by decide)) (by decide) dX12_nextOfChannel_58 ?_
          refine V.iload (pc := 61) hG dX12_nextOfChannel_61 4 rfl ?_
          obtain ⟨g57, h⟩ := h
          refine V.iald (pc := 63) (z := 96) (o := 517) hG a_517 a_517.n hx4j56 g57 dX12_nextOfChannel_63 ?_
          refine V.aload_n (pc := 64) hG dX12_nextOfChannel_64 rfl 1 rfl ?_
          refine V.getR (x := 517) (pc := 65) (ci := 14) (k := 24) (M := 49) (T := TX12) (o := 504) (kz := 24) hG a_504 a_504.n (by decide) hin_X12 rfl (by decide) (by decide) rfl kw_1716 rfl ((hw).1 (504, 24, 517) (by decide)) (by decide) dX12_nextOfChannel_65 ?_
          refine V.iload_n (pc := 68) hG dX12_nextOfChannel_68 rfl 2 rfl ?_
          obtain ⟨g58, h⟩ := h
          refine V.iald (pc := 69) (z := 96) (o := 517) hG a_517 a_517.n hp1 g58 dX12_nextOfChannel_69 ?_
          obtain ⟨f61, t60⟩ := h
          refine V.icmp_ne (pc := 70) (tgt := 84) hG ((hi _ _)) ((hi _ _)) dX12_nextOfChannel_70 (by decide) (fun c59 => ?_) (fun c59 => ?_)
          · have h := t60 c59
            clear t60 f61
            refine V.pick [1, 2, 0, 3, 4] rfl ?_
            exact jn84 k0j56 x3j56 x4j56 hk0j56 hx3j56 hx4j56 h
          · have h := f61 c59
            clear t60 f61
            refine V.iload (pc := 73) hG dX12_nextOfChannel_73 4 rfl ?_
            refine V.iload_n (pc := 75) hG dX12_nextOfChannel_75 rfl 2 rfl ?_
            obtain ⟨t63, f64⟩ := h
            refine V.icmp_eq (pc := 76) (tgt := 84) hG hx4j56 hp1 dX12_nextOfChannel_76 (by decide) (fun c62 => ?_) (fun c62 => ?_)
            · have h := t63 c62
              clear t63 f64
              refine V.pick [1, 2, 0, 3, 4] rfl ?_
              exact jn84 k0j56 x3j56 x4j56 hk0j56 hx3j56 hx4j56 h
            · have h := f64 c62
              clear t63 f64
              refine V.iload (pc := 79) hG dX12_nextOfChannel_79 4 rfl ?_
              refine V.goto (pc := 81) (tgt := 85) hG dX12_nextOfChannel_81 (by decide) ?_
              refine V.pick [1, 2, 0, 4] rfl ?_
              exact jn85 k0j56 x4j56 x4j56 hk0j56 hx4j56 hx4j56 h
        have jn55 : ∀ (x2j55 : Int) (x3j55 : Int) (x4j55 : Int), sR x2j55 → sR x3j55 → sR x4j55 → s55_X12_nextOfChannel p1 x2j55 x3j55 x4j55 i r Q (LoopP (b23_X12_nextOfChannel p1 i r Q) m23) → V Γ Δ 542 false i r 0 0 Q0 55 [(0, .ref (sA Δ 504)), (1, .int (sJ p1)), (2, .int (sJ x2j55)), (3, .int (sJ x3j55)), (4, .int (sJ x4j55))] [] := by
          intro x2j55 x3j55 x4j55 hx2j55 hx3j55 hx4j55 h
          refine V.iload_n (pc := 55) hG dX12_nextOfChannel_55 rfl 2 rfl ?_
          refine V.pick [0, 1, 3, 4] rfl ?_
          exact jn56 x3j55 x4j55 x2j55 hx3j55 hx4j55 hx2j55 h
        refine V.iload (pc := 23) hG dX12_nextOfChannel_23 4 rfl ?_
        obtain ⟨t66, f67⟩ := h
        refine V.if_lt (pc := 25) (tgt := 92) hG hx4_23 dX12_nextOfChannel_25 (by decide) (fun c65 => ?_) (fun c65 => ?_)
        · have h := t66 c65
          clear t66 f67
          refine V.iload_n (pc := 92) hG dX12_nextOfChannel_92 rfl 2 rfl ?_
          refine V.iconst (pc := 93) hG dX12_nextOfChannel_93 ?_
          obtain ⟨t69, f70⟩ := h
          refine V.icmp_eq (pc := 94) (tgt := 108) hG hx2_23 ((sR_l rfl)) dX12_nextOfChannel_94 (by decide) (fun c68 => ?_) (fun c68 => ?_)
          · have h := t69 c68
            clear t69 f70
            refine V.iload_n (pc := 108) hG dX12_nextOfChannel_108 rfl 3 rfl ?_
            refine V.iconst (pc := 109) hG dX12_nextOfChannel_109 ?_
            obtain ⟨t72, f73⟩ := h
            refine V.icmp_eq (pc := 110) (tgt := 121) hG hx3_23 ((sR_l rfl)) dX12_nextOfChannel_110 (by decide) (fun c71 => ?_) (fun c71 => ?_)
            · have h := t72 c71
              clear t72 f73
              refine V.pick [] rfl ?_
              exact jn121 i hi h
            · have h := f73 c71
              clear t72 f73
              refine V.aload_n (pc := 113) hG dX12_nextOfChannel_113 rfl 0 rfl ?_
              refine V.iload_n (pc := 114) hG dX12_nextOfChannel_114 rfl 1 rfl ?_
              refine V.iload_n (pc := 115) hG dX12_nextOfChannel_115 rfl 3 rfl ?_
              refine V.iconst (pc := 116) hG dX12_nextOfChannel_116 ?_
              refine V.iconst (pc := 117) hG dX12_nextOfChannel_117 ?_
              refine V.callVv (pc := 118) (As := [.int (sJ p1), .int (sJ x3_23), .int (sJ 1), .int (sJ 1)]) (stk := []) hG (sm_X12_join l Δ hp1 hx3_23 ((sR_l rfl)) ((sR_l rfl)) hi hw h) mY_X12_join kw_1951 kw_1953 kw_124 a_504 (by decide) (q := (RX12, TX12, 49)) rfl rfl ⟨Nat.le_of_ble_eq_true rfl, Nat.le_of_ble_eq_true rfl, Nat.le_of_ble_eq_true rfl, Nat.le_of_ble_eq_true rfl⟩ rfl (Nat.le_of_ble_eq_true rfl) dX12_nextOfChannel_118 rfl (fun i75 r76 hi78 hw79 hq80 => ?_)
              obtain ⟨e82, h⟩ := hq80
              subst e82
              refine V.pick [] rfl ?_
              exact jn121 i75 hi78 h
          · have h := f70 c68
            clear t69 f70
            refine V.aload_n (pc := 97) hG dX12_nextOfChannel_97 rfl 0 rfl ?_
            refine V.iload_n (pc := 98) hG dX12_nextOfChannel_98 rfl 1 rfl ?_
            refine V.iload_n (pc := 99) hG dX12_nextOfChannel_99 rfl 2 rfl ?_
            refine V.iconst (pc := 100) hG dX12_nextOfChannel_100 ?_
            refine V.iconst (pc := 101) hG dX12_nextOfChannel_101 ?_
            refine V.callVv (pc := 102) (As := [.int (sJ p1), .int (sJ x2_23), .int (sJ 0), .int (sJ 1)]) (stk := []) hG (sm_X12_join l Δ hp1 hx2_23 ((sR_l rfl)) ((sR_l rfl)) hi hw h) mY_X12_join kw_1951 kw_1953 kw_124 a_504 (by decide) (q := (RX12, TX12, 49)) rfl rfl ⟨Nat.le_of_ble_eq_true rfl, Nat.le_of_ble_eq_true rfl, Nat.le_of_ble_eq_true rfl, Nat.le_of_ble_eq_true rfl⟩ rfl (Nat.le_of_ble_eq_true rfl) dX12_nextOfChannel_102 rfl (fun i84 r85 hi87 hw88 hq89 => ?_)
            obtain ⟨e91, h⟩ := hq89
            subst e91
            refine V.goto (pc := 105) (tgt := 121) hG dX12_nextOfChannel_105 (by decide) ?_
            refine V.pick [] rfl ?_
            exact jn121 i84 hi87 h
        · have h := f67 c65
          clear t66 f67
          refine V.aload_n (pc := 28) hG dX12_nextOfChannel_28 rfl 0 rfl ?_
          refine V.getR (x := 517) (pc := 29) (ci := 14) (k := 24) (M := 49) (T := TX12) (o := 504) (kz := 24) hG a_504 a_504.n (by decide) hin_X12 rfl (by decide) (by decide) rfl kw_1716 rfl ((hw).1 (504, 24, 517) (by decide)) (by decide) dX12_nextOfChannel_29 ?_
          refine V.iload (pc := 32) hG dX12_nextOfChannel_32 4 rfl ?_
          obtain ⟨g92, h⟩ := h
          refine V.iald (pc := 34) (z := 96) (o := 517) hG a_517 a_517.n hx4_23 g92 dX12_nextOfChannel_34 ?_
          refine V.aload_n (pc := 35) hG dX12_nextOfChannel_35 rfl 0 rfl ?_
          refine V.getR (x := 517) (pc := 36) (ci := 14) (k := 24) (M := 49) (T := TX12) (o := 504) (kz := 24) hG a_504 a_504.n (by decide) hin_X12 rfl (by decide) (by decide) rfl kw_1716 rfl ((hw).1 (504, 24, 517) (by decide)) (by decide) dX12_nextOfChannel_36 ?_
          refine V.iload_n (pc := 39) hG dX12_nextOfChannel_39 rfl 1 rfl ?_
          obtain ⟨g93, h⟩ := h
          refine V.iald (pc := 40) (z := 96) (o := 517) hG a_517 a_517.n hp1 g93 dX12_nextOfChannel_40 ?_
          obtain ⟨f96, t95⟩ := h
          refine V.icmp_ne (pc := 41) (tgt := 55) hG ((hi _ _)) ((hi _ _)) dX12_nextOfChannel_41 (by decide) (fun c94 => ?_) (fun c94 => ?_)
          · have h := t95 c94
            clear t95 f96
            exact jn55 x2_23 x3_23 x4_23 hx2_23 hx3_23 hx4_23 h
          · have h := f96 c94
            clear t95 f96
            refine V.iload (pc := 44) hG dX12_nextOfChannel_44 4 rfl ?_
            refine V.iload_n (pc := 46) hG dX12_nextOfChannel_46 rfl 1 rfl ?_
            obtain ⟨t98, f99⟩ := h
            refine V.icmp_le (pc := 47) (tgt := 55) hG hx4_23 hp1 dX12_nextOfChannel_47 (by decide) (fun c97 => ?_) (fun c97 => ?_)
            · have h := t98 c97
              clear t98 f99
              exact jn55 x2_23 x3_23 x4_23 hx2_23 hx3_23 hx4_23 h
            · have h := f99 c97
              clear t98 f99
              refine V.iload (pc := 50) hG dX12_nextOfChannel_50 4 rfl ?_
              refine V.goto (pc := 52) (tgt := 56) hG dX12_nextOfChannel_52 (by decide) ?_
              refine V.pick [0, 1, 3, 4] rfl ?_
              exact jn56 x3_23 x4_23 x4_23 hx3_23 hx4_23 hx4_23 h
    refine V.pick [3, 4, 2, 1, 0] rfl ?_
    exact lp23 n48 (-1) (-1) (wr (i 504 21 - 1)) ((sR_l rfl)) ((sR_l rfl)) ((sR_wr _)) h
  · have h := f4 c2
    clear t3 f4
    exact fin dX12_nextOfChannel_10 hi hw ⟨rfl, h⟩
set_option maxRecDepth 100000 in
set_option maxHeartbeats 4000000 in
theorem sm_X12_remembered (l : Launch) (Δ : Wd) {i r : MI} {p1 : Int} {p2 : Int} (hp1 : sR p1) (hp2 : sR p2) {Q : MI → Prop} (hi : okI i) (hw : Wf r) (h : wp_X12_remembered p1 p2 i r Q) : Met l yX12_remembered (Cond.code yX12_remembered cX12_remembered 7 none :: gW) (sRm 2 40) (sPc Δ [.ref (sA Δ 504), .int (sJ p1), .int (sJ p2)] i r) (sQv Δ (fun i' r' => r = r' ∧ Q i')) 0 0 (sFr Δ) := by
  refine Ct.v (by decide) rfl (Nat.le_of_ble_eq_true rfl) (fun Γ Q0 hG fin => ?_)
  have hG : okG Γ Δ l (sRm 2 40) cX12_remembered "SchedularyModel" 7 := hG
  show V Γ Δ 542 false i r 0 0 Q0 0 [(0, .ref (sA Δ 504)), (1, .int (sJ p1)), (2, .int (sJ p2))] []
  have jn243 : ∀  (ij243 : MI), okI ij243 → s243_X12_remembered ij243 r Q → V Γ Δ 542 false ij243 r 0 0 Q0 243 [] [] := by
    intro ij243 hij243 h
    exact fin dX12_remembered_243 hij243 hw ⟨rfl, h⟩
  have jn238 : ∀ (x4j238 : Int) (k1j238 : Int) (k2j238 : Int) (k3j238 : Int) (ij238 : MI), sR x4j238 → sR k1j238 → sR k2j238 → sR k3j238 → okI ij238 → s238_X12_remembered x4j238 k1j238 k2j238 k3j238 ij238 r Q → V Γ Δ 542 false ij238 r 0 0 Q0 238 [(4, .int (sJ x4j238))] [.int (sJ k3j238), .int (sJ k2j238), .int (sJ k1j238), .ref (sA Δ 504)] := by
    intro x4j238 k1j238 k2j238 k3j238 ij238 hx4j238 hk1j238 hk2j238 hk3j238 hij238 h
    refine V.iload (pc := 238) hG dX12_remembered_238 0 rfl ?_
    refine V.callVv (pc := 240) (As := [.int (sJ k1j238), .int (sJ k2j238), .int (sJ k3j238), .int (sJ x4j238)]) (stk := []) hG (sm_X12_join l Δ hk1j238 hk2j238 hk3j238 hx4j238 hij238 hw h) mY_X12_join kw_1951 kw_1953 kw_124 a_504 (by decide) (q := (RX12, TX12, 49)) rfl rfl ⟨Nat.le_of_ble_eq_true rfl, Nat.le_of_ble_eq_true rfl, Nat.le_of_ble_eq_true rfl, Nat.le_of_ble_eq_true rfl⟩ rfl (Nat.le_of_ble_eq_true rfl) dX12_remembered_240 rfl (fun i11 r12 hi14 hw15 hq16 => ?_)
    obtain ⟨e18, h⟩ := hq16
    subst e18
    refine V.pick [] rfl ?_
    exact jn243 i11 hi14 h
  have jn225 : ∀ (x4j225 : Int) (ij225 : MI), sR x4j225 → okI ij225 → s225_X12_remembered p1 p2 x4j225 ij225 r Q → V Γ Δ 542 false ij225 r 0 0 Q0 225 [(0, .ref (sA Δ 504)), (1, .int (sJ p1)), (2, .int (sJ p2)), (4, .int (sJ x4j225))] [] := by
    intro x4j225 ij225 hx4j225 hij225 h
    refine V.aload_n (pc := 225) hG dX12_remembered_225 rfl 0 rfl ?_
    refine V.iload_n (pc := 226) hG dX12_remembered_226 rfl 1 rfl ?_
    refine V.iload_n (pc := 227) hG dX12_remembered_227 rfl 2 rfl ?_
    refine V.iload_n (pc := 228) hG dX12_remembered_228 rfl 2 rfl ?_
    refine V.iload_n (pc := 229) hG dX12_remembered_229 rfl 1 rfl ?_
    obtain ⟨t23, f24⟩ := h
    refine V.icmp_le (pc := 230) (tgt := 237) hG hp2 hp1 dX12_remembered_230 (by decide) (fun c22 => ?_) (fun c22 => ?_)
    · have h := t23 c22
      clear t23 f24
      refine V.iconst (pc := 237) hG dX12_remembered_237 ?_
      refine V.pick [3] rfl ?_
      exact jn238 x4j225 p1 p2 1 ij225 hx4j225 hp1 hp2 ((sR_l rfl)) hij225 h
    · have h := f24 c22
      clear t23 f24
      refine V.iconst (pc := 233) hG dX12_remembered_233 ?_
      refine V.goto (pc := 234) (tgt := 238) hG dX12_remembered_234 (by decide) ?_
      refine V.pick [3] rfl ?_
      exact jn238 x4j225 p1 p2 0 ij225 hx4j225 hp1 hp2 ((sR_l rfl)) hij225 h
  have jn195 : ∀ (x4j195 : Int) (ij195 : MI), sR x4j195 → okI ij195 → s195_X12_remembered p1 p2 x4j195 ij195 r Q → V Γ Δ 542 false ij195 r 0 0 Q0 195 [(0, .ref (sA Δ 504)), (1, .int (sJ p1)), (2, .int (sJ p2)), (4, .int (sJ x4j195))] [] := by
    intro x4j195 ij195 hx4j195 hij195 h
    refine V.aload_n (pc := 195) hG dX12_remembered_195 rfl 0 rfl ?_
    refine V.getR (x := 521) (pc := 196) (ci := 14) (k := 28) (M := 49) (T := TX12) (o := 504) (kz := 28) hG a_504 a_504.n (by decide) hin_X12 rfl (by decide) (by decide) rfl kw_1720 rfl ((hw).1 (504, 28, 521) (by decide)) (by decide) dX12_remembered_196 ?_
    refine V.iload_n (pc := 199) hG dX12_remembered_199 rfl 1 rfl ?_
    obtain ⟨g35, h⟩ := h
    refine V.zald (pc := 200) (z := 96) (o := 521) hG a_521 a_521.n hp1 g35 dX12_remembered_200 ?_
    refine V.aload_n (pc := 201) hG dX12_remembered_201 rfl 0 rfl ?_
    refine V.getR (x := 521) (pc := 202) (ci := 14) (k := 28) (M := 49) (T := TX12) (o := 504) (kz := 28) hG a_504 a_504.n (by decide) hin_X12 rfl (by decide) (by decide) rfl kw_1720 rfl ((hw).1 (504, 28, 521) (by decide)) (by decide) dX12_remembered_202 ?_
    refine V.iload_n (pc := 205) hG dX12_remembered_205 rfl 2 rfl ?_
    obtain ⟨g36, h⟩ := h
    refine V.zald (pc := 206) (z := 96) (o := 521) hG a_521 a_521.n hp2 g36 dX12_remembered_206 ?_
    obtain ⟨f39, t38⟩ := h
    refine V.icmp_ne (pc := 207) (tgt := 225) hG ((hij195 _ _)) ((hij195 _ _)) dX12_remembered_207 (by decide) (fun c37 => ?_) (fun c37 => ?_)
    · have h := t38 c37
      clear t38 f39
      exact jn225 x4j195 ij195 hx4j195 hij195 h
    · have h := f39 c37
      clear t38 f39
      refine V.aload_n (pc := 210) hG dX12_remembered_210 rfl 0 rfl ?_
      refine V.getR (x := 522) (pc := 211) (ci := 14) (k := 29) (M := 49) (T := TX12) (o := 504) (kz := 29) hG a_504 a_504.n (by decide) hin_X12 rfl (by decide) (by decide) rfl kw_1721 rfl ((hw).1 (504, 29, 522) (by decide)) (by decide) dX12_remembered_211 ?_
      refine V.iload_n (pc := 214) hG dX12_remembered_214 rfl 1 rfl ?_
      obtain ⟨g40, h⟩ := h
      refine V.iald (pc := 215) (z := 96) (o := 522) hG a_522 a_522.n hp1 g40 dX12_remembered_215 ?_
      refine V.aload_n (pc := 216) hG dX12_remembered_216 rfl 0 rfl ?_
      refine V.getR (x := 522) (pc := 217) (ci := 14) (k := 29) (M := 49) (T := TX12) (o := 504) (kz := 29) hG a_504 a_504.n (by decide) hin_X12 rfl (by decide) (by decide) rfl kw_1721 rfl ((hw).1 (504, 29, 522) (by decide)) (by decide) dX12_remembered_217 ?_
      refine V.iload_n (pc := 220) hG dX12_remembered_220 rfl 2 rfl ?_
      obtain ⟨g41, h⟩ := h
      refine V.iald (pc := 221) (z := 96) (o := 522) hG a_522 a_522.n hp2 g41 dX12_remembered_221 ?_
      obtain ⟨f44, t43⟩ := h
      refine V.icmp_ne (pc := 222) (tgt := 243) hG ((hij195 _ _)) ((hij195 _ _)) dX12_remembered_222 (by decide) (fun c42 => ?_) (fun c42 => ?_)
      · have h := t43 c42
        clear t43 f44
        refine V.pick [] rfl ?_
        exact jn243 ij195 hij195 h
      · have h := f44 c42
        clear t43 f44
        exact jn225 x4j195 ij195 hx4j195 hij195 h
  have jn192 : ∀  (ij192 : MI), okI ij192 → s192_X12_remembered ij192 r Q → V Γ Δ 542 false ij192 r 0 0 Q0 192 [] [] := by
    intro ij192 hij192 h
    refine V.goto (pc := 192) (tgt := 243) hG dX12_remembered_192 (by decide) ?_
    exact jn243 ij192 hij192 h
  have jn182 : ∀ (x4j182 : Int) (x6j182 : Int) (ij182 : MI), sR x4j182 → sR x6j182 → okI ij182 → s182_X12_remembered p1 p2 x4j182 x6j182 ij182 r Q → V Γ Δ 542 false ij182 r 0 0 Q0 182 [(0, .ref (sA Δ 504)), (1, .int (sJ p1)), (2, .int (sJ p2)), (4, .int (sJ x4j182)), (6, .int (sJ x6j182))] [] := by
    intro x4j182 x6j182 ij182 hx4j182 hx6j182 hij182 h
    refine V.aload_n (pc := 182) hG dX12_remembered_182 rfl 0 rfl ?_
    refine V.iload_n (pc := 183) hG dX12_remembered_183 rfl 1 rfl ?_
    refine V.iload_n (pc := 184) hG dX12_remembered_184 rfl 2 rfl ?_
    refine V.iload (pc := 185) hG dX12_remembered_185 4 rfl ?_
    refine V.iload (pc := 187) hG dX12_remembered_187 3 rfl ?_
    refine V.callVv (pc := 189) (As := [.int (sJ p1), .int (sJ p2), .int (sJ x6j182), .int (sJ x4j182)]) (stk := []) hG (sm_X12_join l Δ hp1 hp2 hx6j182 hx4j182 hij182 hw h) mY_X12_join kw_1951 kw_1953 kw_124 a_504 (by decide) (q := (RX12, TX12, 49)) rfl rfl ⟨Nat.le_of_ble_eq_true rfl, Nat.le_of_ble_eq_true rfl, Nat.le_of_ble_eq_true rfl, Nat.le_of_ble_eq_true rfl⟩ rfl (Nat.le_of_ble_eq_true rfl) dX12_remembered_189 rfl (fun i55 r56 hi58 hw59 hq60 => ?_)
    obtain ⟨e62, h⟩ := hq60
    subst e62
    refine V.pick [] rfl ?_
    exact jn192 i55 hi58 h
  have jn113 : ∀ (k0j113 : Int) (ij113 : MI), sR k0j113 → okI ij113 → s113_X12_remembered p1 p2 k0j113 ij113 r Q → V Γ Δ 542 false ij113 r 0 0 Q0 113 [(0, .ref (sA Δ 504)), (1, .int (sJ p1)), (2, .int (sJ p2))] [.int (sJ k0j113)] := by
    intro k0j113 ij113 hk0j113 hij113 h
    refine V.istore (pc := 113) (lv' := [(4, .int (sJ k0j113)), (0, .ref (sA Δ 504)), (1, .int (sJ p1)), (2, .int (sJ p2))]) hG dX12_remembered_113 (by decide) rfl ?_
    refine V.aload_n (pc := 115) hG dX12_remembered_115 rfl 1 rfl ?_
    refine V.getR (x := 521) (pc := 116) (ci := 14) (k := 28) (M := 49) (T := TX12) (o := 504) (kz := 28) hG a_504 a_504.n (by decide) hin_X12 rfl (by decide) (by decide) rfl kw_1720 rfl ((hw).1 (504, 28, 521) (by decide)) (by decide) dX12_remembered_116 ?_
    refine V.iload_n (pc := 119) hG dX12_remembered_119 rfl 2 rfl ?_
    obtain ⟨g87, h⟩ := h
    refine V.zald (pc := 120) (z := 96) (o := 521) hG a_521 a_521.n hp1 g87 dX12_remembered_120 ?_
    obtain ⟨t89, f90⟩ := h
    refine V.if_eq (pc := 121) (tgt := 195) hG ((hij113 _ _)) dX12_remembered_121 (by decide) (fun c88 => ?_) (fun c88 => ?_)
    · have h := t89 c88
      clear t89 f90
      refine V.pick [1, 2, 3, 0] rfl ?_
      exact jn195 k0j113 ij113 hk0j113 hij113 h
    · have h := f90 c88
      clear t89 f90
      refine V.aload_n (pc := 124) hG dX12_remembered_124 rfl 1 rfl ?_
      refine V.getR (x := 521) (pc := 125) (ci := 14) (k := 28) (M := 49) (T := TX12) (o := 504) (kz := 28) hG a_504 a_504.n (by decide) hin_X12 rfl (by decide) (by decide) rfl kw_1720 rfl ((hw).1 (504, 28, 521) (by decide)) (by decide) dX12_remembered_125 ?_
      refine V.iload_n (pc := 128) hG dX12_remembered_128 rfl 3 rfl ?_
      obtain ⟨g91, h⟩ := h
      refine V.zald (pc := 129) (z := 96) (o := 521) hG a_521 a_521.n hp2 g91 dX12_remembered_129 ?_
      obtain ⟨t93, f94⟩ := h
      refine V.if_eq (pc := 130) (tgt := 195) hG ((hij113 _ _)) dX12_remembered_130 (by decide) (fun c92 => ?_) (fun c92 => ?_)
      · have h := t93 c92
        clear t93 f94
        refine V.pick [1, 2, 3, 0] rfl ?_
        exact jn195 k0j113 ij113 hk0j113 hij113 h
      · have h := f94 c92
        clear t93 f94
        refine V.aload_n (pc := 133) hG dX12_remembered_133 rfl 1 rfl ?_
        refine V.getR (x := 522) (pc := 134) (ci := 14) (k := 29) (M := 49) (T := TX12) (o := 504) (kz := 29) hG a_504 a_504.n (by decide) hin_X12 rfl (by decide) (by decide) rfl kw_1721 rfl ((hw).1 (504, 29, 522) (by decide)) (by decide) dX12_remembered_134 ?_
        refine V.iload_n (pc := 137) hG dX12_remembered_137 rfl 2 rfl ?_
        obtain ⟨g95, h⟩ := h
        refine V.iald (pc := 138) (z := 96) (o := 522) hG a_522 a_522.n hp1 g95 dX12_remembered_138 ?_
        refine V.aload_n (pc := 139) hG dX12_remembered_139 rfl 1 rfl ?_
        refine V.getR (x := 522) (pc := 140) (ci := 14) (k := 29) (M := 49) (T := TX12) (o := 504) (kz := 29) hG a_504 a_504.n (by decide) hin_X12 rfl (by decide) (by decide) rfl kw_1721 rfl ((hw).1 (504, 29, 522) (by decide)) (by decide) dX12_remembered_140 ?_
        refine V.iload_n (pc := 143) hG dX12_remembered_143 rfl 3 rfl ?_
        obtain ⟨g96, h⟩ := h
        refine V.iald (pc := 144) (z := 96) (o := 522) hG a_522 a_522.n hp2 g96 dX12_remembered_144 ?_
        refine V.isub (pc := 145) hG dX12_remembered_145 ?_
        refine V.istore (pc := 146) (lv' := [(5, .int (sJ (wr (ij113 522 p1 - ij113 522 p2)))), (4, .int (sJ k0j113)), (0, .ref (sA Δ 504)), (1, .int (sJ p1)), (2, .int (sJ p2))]) hG dX12_remembered_146 (by decide) rfl ?_
        refine V.iload (pc := 148) hG dX12_remembered_148 0 rfl ?_
        refine V.aload_n (pc := 150) hG dX12_remembered_150 rfl 2 rfl ?_
        refine V.getI (pc := 151) (ci := 14) (k := 10) (M := 49) (T := TX12) (o := 504) (kz := 10) hG a_504 a_504.n (by decide) hin_X12 rfl (by decide) (by decide) rfl kw_1702 rfl dX12_remembered_151 ?_
        obtain ⟨g97, h⟩ := h
        refine V.idiv (pc := 154) hG ((sR_wr _)) ((hij113 _ _)) g97 dX12_remembered_154 ?_
        refine V.istore (pc := 155) (lv' := [(6, .int (sJ (wr (Int.tdiv (wr (ij113 522 p1 - ij113 522 p2)) (ij113 504 10))))), (5, .int (sJ (wr (ij113 522 p1 - ij113 522 p2)))), (4, .int (sJ k0j113)), (0, .ref (sA Δ 504)), (1, .int (sJ p1)), (2, .int (sJ p2))]) hG dX12_remembered_155 (by decide) rfl ?_
        refine V.iload (pc := 157) hG dX12_remembered_157 1 rfl ?_
        refine V.aload_n (pc := 159) hG dX12_remembered_159 rfl 3 rfl ?_
        refine V.getI (pc := 160) (ci := 14) (k := 10) (M := 49) (T := TX12) (o := 504) (kz := 10) hG a_504 a_504.n (by decide) hin_X12 rfl (by decide) (by decide) rfl kw_1702 rfl dX12_remembered_160 ?_
        obtain ⟨g98, h⟩ := h
        refine V.irem (pc := 163) hG ((sR_wr _)) ((hij113 _ _)) g98 dX12_remembered_163 ?_
        obtain ⟨f101, t100⟩ := h
        refine V.if_ne (pc := 164) (tgt := 192) hG ((sR_tmod ((sR_wr _)))) dX12_remembered_164 (by decide) (fun c99 => ?_) (fun c99 => ?_)
        · have h := t100 c99
          clear t100 f101
          refine V.pick [] rfl ?_
          exact jn192 ij113 hij113 h
        · have h := f101 c99
          clear t100 f101
          refine V.iload (pc := 167) hG dX12_remembered_167 0 rfl ?_
          obtain ⟨t103, f104⟩ := h
          refine V.if_gt (pc := 169) (tgt := 182) hG ((sR_wr _)) dX12_remembered_169 (by decide) (fun c102 => ?_) (fun c102 => ?_)
          · have h := t103 c102
            clear t103 f104
            refine V.pick [3, 4, 5, 2, 0] rfl ?_
            exact jn182 k0j113 (wr (Int.tdiv (wr (ij113 522 p1 - ij113 522 p2)) (ij113 504 10))) ij113 hk0j113 ((sR_wr _)) hij113 h
          · have h := f104 c102
            clear t103 f104
            refine V.iload (pc := 172) hG dX12_remembered_172 0 rfl ?_
            obtain ⟨f107, t106⟩ := h
            refine V.if_ne (pc := 174) (tgt := 192) hG ((sR_wr _)) dX12_remembered_174 (by decide) (fun c105 => ?_) (fun c105 => ?_)
            · have h := t106 c105
              clear t106 f107
              refine V.pick [] rfl ?_
              exact jn192 ij113 hij113 h
            · have h := f107 c105
              clear t106 f107
              refine V.iload_n (pc := 177) hG dX12_remembered_177 rfl 5 rfl ?_
              refine V.iload_n (pc := 178) hG dX12_remembered_178 rfl 4 rfl ?_
              obtain ⟨t109, f110⟩ := h
              refine V.icmp_le (pc := 179) (tgt := 192) hG hp2 hp1 dX12_remembered_179 (by decide) (fun c108 => ?_) (fun c108 => ?_)
              · have h := t109 c108
                clear t109 f110
                refine V.pick [] rfl ?_
                exact jn192 ij113 hij113 h
              · have h := f110 c108
                clear t109 f110
                refine V.pick [3, 4, 5, 2, 0] rfl ?_
                exact jn182 k0j113 (wr (Int.tdiv (wr (ij113 522 p1 - ij113 522 p2)) (ij113 504 10))) ij113 hk0j113 ((sR_wr _)) hij113 h
  have jn66 : ∀  (ij66 : MI), okI ij66 → s66_X12_remembered ij66 r Q → V Γ Δ 542 false ij66 r 0 0 Q0 66 [] [] := by
    intro ij66 hij66 h
    exact fin dX12_remembered_66 hij66 hw ⟨rfl, h⟩
  have jn45 : ∀ (k0j45 : Int) (ij45 : MI), sR k0j45 → okI ij45 → s45_X12_remembered p1 p2 k0j45 ij45 r Q → V Γ Δ 542 false ij45 r 0 0 Q0 45 [(0, .ref (sA Δ 504)), (1, .int (sJ p1)), (2, .int (sJ p2))] [.int (sJ k0j45)] := by
    intro k0j45 ij45 hk0j45 hij45 h
    refine V.istore_n (pc := 45) (lv' := [(3, .int (sJ k0j45)), (0, .ref (sA Δ 504)), (1, .int (sJ p1)), (2, .int (sJ p2))]) hG dX12_remembered_45 rfl (by decide) rfl ?_
    refine V.iload_n (pc := 46) hG dX12_remembered_46 rfl 0 rfl ?_
    obtain ⟨t147, f148⟩ := h
    refine V.if_eq (pc := 47) (tgt := 66) hG hk0j45 dX12_remembered_47 (by decide) (fun c146 => ?_) (fun c146 => ?_)
    · have h := t147 c146
      clear t147 f148
      refine V.pick [] rfl ?_
      exact jn66 ij45 hij45 h
    · have h := f148 c146
      clear t147 f148
      refine V.aload_n (pc := 50) hG dX12_remembered_50 rfl 1 rfl ?_
      refine V.getR (x := 520) (pc := 51) (ci := 14) (k := 27) (M := 49) (T := TX12) (o := 504) (kz := 27) hG a_504 a_504.n (by decide) hin_X12 rfl (by decide) (by decide) rfl kw_1719 rfl ((hw).1 (504, 27, 520) (by decide)) (by decide) dX12_remembered_51 ?_
      refine V.iload_n (pc := 54) hG dX12_remembered_54 rfl 2 rfl ?_
      obtain ⟨g149, h⟩ := h
      refine V.iald (pc := 55) (z := 96) (o := 520) hG a_520 a_520.n hp1 g149 dX12_remembered_55 ?_
      refine V.aload_n (pc := 56) hG dX12_remembered_56 rfl 1 rfl ?_
      refine V.getR (x := 520) (pc := 57) (ci := 14) (k := 27) (M := 49) (T := TX12) (o := 504) (kz := 27) hG a_504 a_504.n (by decide) hin_X12 rfl (by decide) (by decide) rfl kw_1719 rfl ((hw).1 (504, 27, 520) (by decide)) (by decide) dX12_remembered_57 ?_
      refine V.iload_n (pc := 60) hG dX12_remembered_60 rfl 3 rfl ?_
      obtain ⟨g150, h⟩ := h
      refine V.iald (pc := 61) (z := 96) (o := 520) hG a_520 a_520.n hp2 g150 dX12_remembered_61 ?_
      refine V.iadd (pc := 62) hG dX12_remembered_62 ?_
      obtain ⟨f153, t152⟩ := h
      refine V.if_ne (pc := 63) (tgt := 67) hG ((sR_wr _)) dX12_remembered_63 (by decide) (fun c151 => ?_) (fun c151 => ?_)
      · have h := t152 c151
        clear t152 f153
        refine V.aload_n (pc := 67) hG dX12_remembered_67 rfl 1 rfl ?_
        refine V.getR (x := 520) (pc := 68) (ci := 14) (k := 27) (M := 49) (T := TX12) (o := 504) (kz := 27) hG a_504 a_504.n (by decide) hin_X12 rfl (by decide) (by decide) rfl kw_1719 rfl ((hw).1 (504, 27, 520) (by decide)) (by decide) dX12_remembered_68 ?_
        refine V.iload_n (pc := 71) hG dX12_remembered_71 rfl 2 rfl ?_
        obtain ⟨g154, h⟩ := h
        refine V.iald (pc := 72) (z := 96) (o := 520) hG a_520 a_520.n hp1 g154 dX12_remembered_72 ?_
        refine V.aload_n (pc := 73) hG dX12_remembered_73 rfl 1 rfl ?_
        refine V.getR (x := 520) (pc := 74) (ci := 14) (k := 27) (M := 49) (T := TX12) (o := 504) (kz := 27) hG a_504 a_504.n (by decide) hin_X12 rfl (by decide) (by decide) rfl kw_1719 rfl ((hw).1 (504, 27, 520) (by decide)) (by decide) dX12_remembered_74 ?_
        refine V.iload_n (pc := 77) hG dX12_remembered_77 rfl 3 rfl ?_
        obtain ⟨g155, h⟩ := h
        refine V.iald (pc := 78) (z := 96) (o := 520) hG a_520 a_520.n hp2 g155 dX12_remembered_78 ?_
        refine V.iadd (pc := 79) hG dX12_remembered_79 ?_
        refine V.iconst (pc := 80) hG dX12_remembered_80 ?_
        obtain ⟨f158, t157⟩ := h
        refine V.icmp_ne (pc := 81) (tgt := 88) hG ((sR_wr _)) ((sR_l rfl)) dX12_remembered_81 (by decide) (fun c156 => ?_) (fun c156 => ?_)
        · have h := t157 c156
          clear t157 f158
          refine V.aload_n (pc := 88) hG dX12_remembered_88 rfl 1 rfl ?_
          refine V.getR (x := 520) (pc := 89) (ci := 14) (k := 27) (M := 49) (T := TX12) (o := 504) (kz := 27) hG a_504 a_504.n (by decide) hin_X12 rfl (by decide) (by decide) rfl kw_1719 rfl ((hw).1 (504, 27, 520) (by decide)) (by decide) dX12_remembered_89 ?_
          refine V.iload_n (pc := 92) hG dX12_remembered_92 rfl 2 rfl ?_
          obtain ⟨g159, h⟩ := h
          refine V.iald (pc := 93) (z := 96) (o := 520) hG a_520 a_520.n hp1 g159 dX12_remembered_93 ?_
          refine V.iconst (pc := 94) hG dX12_remembered_94 ?_
          obtain ⟨f162, t161⟩ := h
          refine V.icmp_ne (pc := 95) (tgt := 106) hG ((hij45 _ _)) ((sR_l rfl)) dX12_remembered_95 (by decide) (fun c160 => ?_) (fun c160 => ?_)
          · have h := t161 c160
            clear t161 f162
            refine V.iconst (pc := 106) hG dX12_remembered_106 ?_
            refine V.aload_n (pc := 107) hG dX12_remembered_107 rfl 1 rfl ?_
            refine V.iload_n (pc := 108) hG dX12_remembered_108 rfl 3 rfl ?_
            refine V.callVi (pc := 109) (As := [.int (sJ p2)]) (stk := [.int (sJ 1)]) hG (sm_X12_cyclesOf l Δ hp2 hij45 hw h) mY_X12_cyclesOf kw_1947 kw_1949 kw_123 a_504 (by decide) (q := (RX12, TX12, 49)) rfl rfl ⟨Nat.le_of_ble_eq_true rfl, Nat.le_of_ble_eq_true rfl, Nat.le_of_ble_eq_true rfl, Nat.le_of_ble_eq_true rfl⟩ rfl (Nat.le_of_ble_eq_true rfl) dX12_remembered_109 rfl (fun v163 i164 r165 hv166 hi167 hw168 hq169 => ?_)
            obtain ⟨e170, e171, h⟩ := hq169
            subst e170
            subst e171
            refine V.isub (pc := 112) hG dX12_remembered_112 ?_
            refine V.pick [1, 2, 3] rfl ?_
            exact jn113 (wr (1 - v163)) ij45 ((sR_wr _)) hij45 h
          · have h := f162 c160
            clear t161 f162
            refine V.aload_n (pc := 98) hG dX12_remembered_98 rfl 1 rfl ?_
            refine V.iload_n (pc := 99) hG dX12_remembered_99 rfl 2 rfl ?_
            refine V.callVi (pc := 100) (As := [.int (sJ p1)]) (stk := []) hG (sm_X12_cyclesOf l Δ hp1 hij45 hw h) mY_X12_cyclesOf kw_1947 kw_1949 kw_123 a_504 (by decide) (q := (RX12, TX12, 49)) rfl rfl ⟨Nat.le_of_ble_eq_true rfl, Nat.le_of_ble_eq_true rfl, Nat.le_of_ble_eq_true rfl, Nat.le_of_ble_eq_true rfl⟩ rfl (Nat.le_of_ble_eq_true rfl) dX12_remembered_100 rfl (fun v172 i173 r174 hv175 hi176 hw177 hq178 => ?_)
            obtain ⟨e179, e180, h⟩ := hq178
            subst e179
            subst e180
            refine V.goto (pc := 103) (tgt := 113) hG dX12_remembered_103 (by decide) ?_
            refine V.pick [1, 2, 3] rfl ?_
            exact jn113 v172 ij45 hv175 hij45 h
        · have h := f158 c156
          clear t157 f158
          refine V.iconst (pc := 84) hG dX12_remembered_84 ?_
          refine V.goto (pc := 85) (tgt := 113) hG dX12_remembered_85 (by decide) ?_
          refine V.pick [1, 2, 3] rfl ?_
          exact jn113 1 ij45 ((sR_l rfl)) hij45 h
      · have h := f153 c151
        clear t152 f153
        refine V.pick [] rfl ?_
        exact jn66 ij45 hij45 h
  have jn44 : ∀  (ij44 : MI), okI ij44 → s44_X12_remembered p1 p2 ij44 r Q → V Γ Δ 542 false ij44 r 0 0 Q0 44 [(0, .ref (sA Δ 504)), (1, .int (sJ p1)), (2, .int (sJ p2))] [] := by
    intro ij44 hij44 h
    refine V.iconst (pc := 44) hG dX12_remembered_44 ?_
    exact jn45 0 ij44 ((sR_l rfl)) hij44 h
  refine V.iload_n (pc := 0) hG dX12_remembered_0 rfl 1 rfl ?_
  refine V.iload_n (pc := 1) hG dX12_remembered_1 rfl 2 rfl ?_
  obtain ⟨t182, f183⟩ := h
  refine V.icmp_eq (pc := 2) (tgt := 44) hG hp1 hp2 dX12_remembered_2 (by decide) (fun c181 => ?_) (fun c181 => ?_)
  · have h := t182 c181
    clear t182 f183
    exact jn44 i hi h
  · have h := f183 c181
    clear t182 f183
    refine V.aload_n (pc := 5) hG dX12_remembered_5 rfl 0 rfl ?_
    refine V.getR (x := 517) (pc := 6) (ci := 14) (k := 24) (M := 49) (T := TX12) (o := 504) (kz := 24) hG a_504 a_504.n (by decide) hin_X12 rfl (by decide) (by decide) rfl kw_1716 rfl ((hw).1 (504, 24, 517) (by decide)) (by decide) dX12_remembered_6 ?_
    refine V.iload_n (pc := 9) hG dX12_remembered_9 rfl 1 rfl ?_
    obtain ⟨g184, h⟩ := h
    refine V.iald (pc := 10) (z := 96) (o := 517) hG a_517 a_517.n hp1 g184 dX12_remembered_10 ?_
    refine V.aload_n (pc := 11) hG dX12_remembered_11 rfl 0 rfl ?_
    refine V.getR (x := 517) (pc := 12) (ci := 14) (k := 24) (M := 49) (T := TX12) (o := 504) (kz := 24) hG a_504 a_504.n (by decide) hin_X12 rfl (by decide) (by decide) rfl kw_1716 rfl ((hw).1 (504, 24, 517) (by decide)) (by decide) dX12_remembered_12 ?_
    refine V.iload_n (pc := 15) hG dX12_remembered_15 rfl 2 rfl ?_
    obtain ⟨g185, h⟩ := h
    refine V.iald (pc := 16) (z := 96) (o := 517) hG a_517 a_517.n hp2 g185 dX12_remembered_16 ?_
    obtain ⟨f188, t187⟩ := h
    refine V.icmp_ne (pc := 17) (tgt := 44) hG ((hi _ _)) ((hi _ _)) dX12_remembered_17 (by decide) (fun c186 => ?_) (fun c186 => ?_)
    · have h := t187 c186
      clear t187 f188
      exact jn44 i hi h
    · have h := f188 c186
      clear t187 f188
      refine V.aload_n (pc := 20) hG dX12_remembered_20 rfl 0 rfl ?_
      refine V.getR (x := 520) (pc := 21) (ci := 14) (k := 27) (M := 49) (T := TX12) (o := 504) (kz := 27) hG a_504 a_504.n (by decide) hin_X12 rfl (by decide) (by decide) rfl kw_1719 rfl ((hw).1 (504, 27, 520) (by decide)) (by decide) dX12_remembered_21 ?_
      refine V.iload_n (pc := 24) hG dX12_remembered_24 rfl 1 rfl ?_
      obtain ⟨g189, h⟩ := h
      refine V.iald (pc := 25) (z := 96) (o := 520) hG a_520 a_520.n hp1 g189 dX12_remembered_25 ?_
      refine V.iconst (pc := 26) hG dX12_remembered_26 ?_
      obtain ⟨t191, f192⟩ := h
      refine V.icmp_eq (pc := 27) (tgt := 44) hG ((hi _ _)) ((sR_l rfl)) dX12_remembered_27 (by decide) (fun c190 => ?_) (fun c190 => ?_)
      · have h := t191 c190
        clear t191 f192
        exact jn44 i hi h
      · have h := f192 c190
        clear t191 f192
        refine V.aload_n (pc := 30) hG dX12_remembered_30 rfl 0 rfl ?_
        refine V.getR (x := 520) (pc := 31) (ci := 14) (k := 27) (M := 49) (T := TX12) (o := 504) (kz := 27) hG a_504 a_504.n (by decide) hin_X12 rfl (by decide) (by decide) rfl kw_1719 rfl ((hw).1 (504, 27, 520) (by decide)) (by decide) dX12_remembered_31 ?_
        refine V.iload_n (pc := 34) hG dX12_remembered_34 rfl 2 rfl ?_
        obtain ⟨g193, h⟩ := h
        refine V.iald (pc := 35) (z := 96) (o := 520) hG a_520 a_520.n hp2 g193 dX12_remembered_35 ?_
        refine V.iconst (pc := 36) hG dX12_remembered_36 ?_
        obtain ⟨t195, f196⟩ := h
        refine V.icmp_eq (pc := 37) (tgt := 44) hG ((hi _ _)) ((sR_l rfl)) dX12_remembered_37 (by decide) (fun c194 => ?_) (fun c194 => ?_)
        · have h := t195 c194
          clear t195 f196
          exact jn44 i hi h
        · have h := f196 c194
          clear t195 f196
          refine V.iconst (pc := 40) hG dX12_remembered_40 ?_
          refine V.goto (pc := 41) (tgt := 45) hG dX12_remembered_41 (by decide) ?_
          exact jn45 1 i ((sR_l rfl)) hi h
set_option maxRecDepth 100000 in
set_option maxHeartbeats 4000000 in
theorem sm_X12_within (l : Launch) (Δ : Wd) {i r : MI} {p1 : Int} (hp1 : sR p1) {Q : MI → Prop} (hi : okI i) (hw : Wf r) (h : wp_X12_within p1 i r Q) : Met l yX12_within (Cond.code yX12_within cX12_within 4 none :: gW) (sRm 2 40) (sPc Δ [.ref (sA Δ 504), .int (sJ p1)] i r) (sQv Δ (fun i' r' => r = r' ∧ Q i')) 0 0 (sFr Δ) := by
  refine Ct.v (by decide) rfl (Nat.le_of_ble_eq_true rfl) (fun Γ Q0 hG fin => ?_)
  have hG : okG Γ Δ l (sRm 2 40) cX12_within "SchedularyModel" 4 := hG
  show V Γ Δ 542 false i r 0 0 Q0 0 [(0, .ref (sA Δ 504)), (1, .int (sJ p1))] []
  have jn86 : ∀  (ij86 : MI), okI ij86 → s86_X12_within ij86 r Q → V Γ Δ 542 false ij86 r 0 0 Q0 86 [] [] := by
    intro ij86 hij86 h
    exact fin dX12_within_86 hij86 hw ⟨rfl, h⟩
  refine V.iload_n (pc := 0) hG dX12_within_0 rfl 1 rfl ?_
  refine V.iconst (pc := 1) hG dX12_within_1 ?_
  refine V.iadd (pc := 2) hG dX12_within_2 ?_
  refine V.istore_n (pc := 3) (lv' := [(2, .int (sJ (wr (p1 + 1)))), (0, .ref (sA Δ 504)), (1, .int (sJ p1))]) hG dX12_within_3 rfl (by decide) rfl ?_
  obtain ⟨n42, h⟩ := h
  have lp4 : ∀ (m4 : Nat) (x2_4 : Int), sR x2_4 → LoopP (b4_X12_within p1 i r Q) m4 (x2_4) → V Γ Δ 542 false i r 0 0 Q0 4 [(0, .ref (sA Δ 504)), (1, .int (sJ p1)), (2, .int (sJ x2_4))] [] := by
    intro m4
    induction m4 with
    | zero => intro x2_4 hx2_4 h; exact h.elim
    | succ m4 ih4 =>
      intro x2_4 hx2_4 h
      have h := LoopP_succ h
      have jn80 : ∀ (x2j80 : Int), sR x2j80 → s80_X12_within p1 x2j80 i r Q (LoopP (b4_X12_within p1 i r Q) m4) → V Γ Δ 542 false i r 0 0 Q0 80 [(0, .ref (sA Δ 504)), (1, .int (sJ p1)), (2, .int (sJ x2j80))] [] := by
        intro x2j80 hx2j80 h
        refine V.iinc (pc := 80) (lv' := [(2, .int (sJ (wr (x2j80 + 1)))), (0, .ref (sA Δ 504)), (1, .int (sJ p1))]) hG dX12_within_80 2 rfl (by decide) rfl ?_
        refine V.goto (pc := 83) (tgt := 4) hG dX12_within_83 (by decide) ?_
        refine V.pick [1, 2, 0] rfl ?_
        exact ih4 (wr (x2j80 + 1)) ((sR_wr _)) h
      have jn52 : ∀ (x2j52 : Int) (k0j52 : Int), sR x2j52 → sR k0j52 → s52_X12_within p1 x2j52 k0j52 i r Q (LoopP (b4_X12_within p1 i r Q) m4) → V Γ Δ 542 false i r 0 0 Q0 52 [(0, .ref (sA Δ 504)), (1, .int (sJ p1)), (2, .int (sJ x2j52))] [.int (sJ k0j52)] := by
        intro x2j52 k0j52 hx2j52 hk0j52 h
        refine V.istore_n (pc := 52) (lv' := [(3, .int (sJ k0j52)), (0, .ref (sA Δ 504)), (1, .int (sJ p1)), (2, .int (sJ x2j52))]) hG dX12_within_52 rfl (by decide) rfl ?_
        refine V.iload_n (pc := 53) hG dX12_within_53 rfl 0 rfl ?_
        obtain ⟨t69, f70⟩ := h
        refine V.if_eq (pc := 54) (tgt := 80) hG hk0j52 dX12_within_54 (by decide) (fun c68 => ?_) (fun c68 => ?_)
        · have h := t69 c68
          clear t69 f70
          refine V.pick [1, 2, 3] rfl ?_
          exact jn80 x2j52 hx2j52 h
        · have h := f70 c68
          clear t69 f70
          refine V.aload_n (pc := 57) hG dX12_within_57 rfl 1 rfl ?_
          refine V.getR (x := 516) (pc := 58) (ci := 14) (k := 23) (M := 49) (T := TX12) (o := 504) (kz := 23) hG a_504 a_504.n (by decide) hin_X12 rfl (by decide) (by decide) rfl kw_1715 rfl ((hw).1 (504, 23, 516) (by decide)) (by decide) dX12_within_58 ?_
          refine V.iload_n (pc := 61) hG dX12_within_61 rfl 2 rfl ?_
          obtain ⟨g71, h⟩ := h
          refine V.iald (pc := 62) (z := 96) (o := 516) hG a_516 a_516.n hp1 g71 dX12_within_62 ?_
          refine V.iconst (pc := 63) hG dX12_within_63 ?_
          obtain ⟨t73, f74⟩ := h
          refine V.icmp_eq (pc := 64) (tgt := 80) hG ((hi _ _)) ((sR_l rfl)) dX12_within_64 (by decide) (fun c72 => ?_) (fun c72 => ?_)
          · have h := t73 c72
            clear t73 f74
            refine V.pick [1, 2, 3] rfl ?_
            exact jn80 x2j52 hx2j52 h
          · have h := f74 c72
            clear t73 f74
            refine V.aload_n (pc := 67) hG dX12_within_67 rfl 1 rfl ?_
            refine V.iload_n (pc := 68) hG dX12_within_68 rfl 2 rfl ?_
            refine V.iload_n (pc := 69) hG dX12_within_69 rfl 3 rfl ?_
            refine V.iconst (pc := 70) hG dX12_within_70 ?_
            refine V.aload_n (pc := 71) hG dX12_within_71 rfl 1 rfl ?_
            refine V.iload_n (pc := 72) hG dX12_within_72 rfl 2 rfl ?_
            refine V.callVi (pc := 73) (As := [.int (sJ p1)]) (stk := [.int (sJ 0), .int (sJ x2j52), .int (sJ p1), .ref (sA Δ 504)]) hG (sm_X12_cyclesOf l Δ hp1 hi hw h) mY_X12_cyclesOf kw_1947 kw_1949 kw_123 a_504 (by decide) (q := (RX12, TX12, 49)) rfl rfl ⟨Nat.le_of_ble_eq_true rfl, Nat.le_of_ble_eq_true rfl, Nat.le_of_ble_eq_true rfl, Nat.le_of_ble_eq_true rfl⟩ rfl (Nat.le_of_ble_eq_true rfl) dX12_within_73 rfl (fun v75 i76 r77 hv78 hi79 hw80 hq81 => ?_)
            obtain ⟨e91, e92, h⟩ := hq81
            subst e91
            subst e92
            refine V.callVv (pc := 76) (As := [.int (sJ p1), .int (sJ x2j52), .int (sJ 0), .int (sJ v75)]) (stk := []) hG (sm_X12_join l Δ hp1 hx2j52 ((sR_l rfl)) hv78 hi hw h) mY_X12_join kw_1951 kw_1953 kw_124 a_504 (by decide) (q := (RX12, TX12, 49)) rfl rfl ⟨Nat.le_of_ble_eq_true rfl, Nat.le_of_ble_eq_true rfl, Nat.le_of_ble_eq_true rfl, Nat.le_of_ble_eq_true rfl⟩ rfl (Nat.le_of_ble_eq_true rfl) dX12_within_76 rfl (fun i83 r84 hi86 hw87 hq88 => ?_)
            obtain ⟨e90, h⟩ := hq88
            subst e90
            exact fin dX12_within_79 hi86 hw ⟨rfl, h⟩
      have jn47 : ∀ (x2j47 : Int), sR x2j47 → s47_X12_within p1 x2j47 i r Q (LoopP (b4_X12_within p1 i r Q) m4) → V Γ Δ 542 false i r 0 0 Q0 47 [(0, .ref (sA Δ 504)), (1, .int (sJ p1)), (2, .int (sJ x2j47))] [] := by
        intro x2j47 hx2j47 h
        refine V.iconst (pc := 47) hG dX12_within_47 ?_
        refine V.goto (pc := 48) (tgt := 52) hG dX12_within_48 (by decide) ?_
        exact jn52 x2j47 1 hx2j47 ((sR_l rfl)) h
      refine V.iload_n (pc := 4) hG dX12_within_4 rfl 2 rfl ?_
      refine V.aload_n (pc := 5) hG dX12_within_5 rfl 0 rfl ?_
      refine V.getI (pc := 6) (ci := 14) (k := 21) (M := 49) (T := TX12) (o := 504) (kz := 21) hG a_504 a_504.n (by decide) hin_X12 rfl (by decide) (by decide) rfl kw_1713 rfl dX12_within_6 ?_
      obtain ⟨t94, f95⟩ := h
      refine V.icmp_ge (pc := 9) (tgt := 86) hG hx2_4 ((hi _ _)) dX12_within_9 (by decide) (fun c93 => ?_) (fun c93 => ?_)
      · have h := t94 c93
        clear t94 f95
        refine V.pick [] rfl ?_
        exact jn86 i hi h
      · have h := f95 c93
        clear t94 f95
        refine V.aload_n (pc := 12) hG dX12_within_12 rfl 0 rfl ?_
        refine V.getR (x := 515) (pc := 13) (ci := 14) (k := 22) (M := 49) (T := TX12) (o := 504) (kz := 22) hG a_504 a_504.n (by decide) hin_X12 rfl (by decide) (by decide) rfl kw_1714 rfl ((hw).1 (504, 22, 515) (by decide)) (by decide) dX12_within_13 ?_
        refine V.iload_n (pc := 16) hG dX12_within_16 rfl 2 rfl ?_
        obtain ⟨g96, h⟩ := h
        refine V.iald (pc := 17) (z := 96) (o := 515) hG a_515 a_515.n hx2_4 g96 dX12_within_17 ?_
        refine V.aload_n (pc := 18) hG dX12_within_18 rfl 0 rfl ?_
        refine V.getR (x := 515) (pc := 19) (ci := 14) (k := 22) (M := 49) (T := TX12) (o := 504) (kz := 22) hG a_504 a_504.n (by decide) hin_X12 rfl (by decide) (by decide) rfl kw_1714 rfl ((hw).1 (504, 22, 515) (by decide)) (by decide) dX12_within_19 ?_
        refine V.iload_n (pc := 22) hG dX12_within_22 rfl 1 rfl ?_
        obtain ⟨g97, h⟩ := h
        refine V.iald (pc := 23) (z := 96) (o := 515) hG a_515 a_515.n hp1 g97 dX12_within_23 ?_
        obtain ⟨f100, t99⟩ := h
        refine V.icmp_ne (pc := 24) (tgt := 86) hG ((hi _ _)) ((hi _ _)) dX12_within_24 (by decide) (fun c98 => ?_) (fun c98 => ?_)
        · have h := t99 c98
          clear t99 f100
          refine V.pick [] rfl ?_
          exact jn86 i hi h
        · have h := f100 c98
          clear t99 f100
          refine V.aload_n (pc := 27) hG dX12_within_27 rfl 0 rfl ?_
          refine V.getR (x := 516) (pc := 28) (ci := 14) (k := 23) (M := 49) (T := TX12) (o := 504) (kz := 23) hG a_504 a_504.n (by decide) hin_X12 rfl (by decide) (by decide) rfl kw_1715 rfl ((hw).1 (504, 23, 516) (by decide)) (by decide) dX12_within_28 ?_
          refine V.iload_n (pc := 31) hG dX12_within_31 rfl 2 rfl ?_
          obtain ⟨g101, h⟩ := h
          refine V.iald (pc := 32) (z := 96) (o := 516) hG a_516 a_516.n hx2_4 g101 dX12_within_32 ?_
          refine V.iconst (pc := 33) hG dX12_within_33 ?_
          obtain ⟨t103, f104⟩ := h
          refine V.icmp_eq (pc := 34) (tgt := 47) hG ((hi _ _)) ((sR_l rfl)) dX12_within_34 (by decide) (fun c102 => ?_) (fun c102 => ?_)
          · have h := t103 c102
            clear t103 f104
            exact jn47 x2_4 hx2_4 h
          · have h := f104 c102
            clear t103 f104
            refine V.aload_n (pc := 37) hG dX12_within_37 rfl 0 rfl ?_
            refine V.getR (x := 516) (pc := 38) (ci := 14) (k := 23) (M := 49) (T := TX12) (o := 504) (kz := 23) hG a_504 a_504.n (by decide) hin_X12 rfl (by decide) (by decide) rfl kw_1715 rfl ((hw).1 (504, 23, 516) (by decide)) (by decide) dX12_within_38 ?_
            refine V.iload_n (pc := 41) hG dX12_within_41 rfl 2 rfl ?_
            obtain ⟨g105, h⟩ := h
            refine V.iald (pc := 42) (z := 96) (o := 516) hG a_516 a_516.n hx2_4 g105 dX12_within_42 ?_
            refine V.iconst (pc := 43) hG dX12_within_43 ?_
            obtain ⟨f108, t107⟩ := h
            refine V.icmp_ne (pc := 44) (tgt := 51) hG ((hi _ _)) ((sR_l rfl)) dX12_within_44 (by decide) (fun c106 => ?_) (fun c106 => ?_)
            · have h := t107 c106
              clear t107 f108
              refine V.iconst (pc := 51) hG dX12_within_51 ?_
              exact jn52 x2_4 0 hx2_4 ((sR_l rfl)) h
            · have h := f108 c106
              clear t107 f108
              exact jn47 x2_4 hx2_4 h
  refine V.pick [1, 2, 0] rfl ?_
  exact lp4 n42 (wr (p1 + 1)) ((sR_wr _)) h
