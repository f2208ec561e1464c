set_option maxRecDepth 100000 in
set_option maxHeartbeats 4000000 in
theorem sm_X6_write (l : Launch) (Δ : Wd) {i r : MI} {o1 : Int} {p2 : Int} {p3 : Int} {o4 : Int} (ho1 : stm o1) (hp2 : sR p2) (hp3 : sR p3) (ho4 : sta o4) {Q : MI → Prop} (hi : okI i) (hw : Wf r) (h : wp_X6_write o1 p2 p3 o4 i r Q) : Met l yX6_write (Cond.code yX6_write cX6_write 6 none :: gW) (sRm 2 44) (sPc Δ [.ref (sA Δ 3), .ref (sA Δ o1), .int (sJ p2), .int (sJ p3), .ref (sA Δ o4)] i r) (sQv Δ (fun i' r' => r = r' ∧ Q i')) 0 0 (sFr Δ) := by
  refine Ct.v (by decide) rfl (Nat.le_of_ble_eq_true rfl) (fun Γ Q0 hG fin => ?_)
  have hG : okG Γ Δ l (sRm 2 44) cX6_write "Schedulary$Program" 6 := hG
  show V Γ Δ 542 false i r 0 0 Q0 0 [(0, .ref (sA Δ 3)), (1, .ref (sA Δ o1)), (2, .int (sJ p2)), (3, .int (sJ p3)), (4, .ref (sA Δ o4))] []
  have jn61 : ∀  (ij61 : MI), okI ij61 → s61_X6_write ij61 r Q → V Γ Δ 542 false ij61 r 0 0 Q0 61 [] [] := by
    intro ij61 hij61 h
    exact fin dX6_write_61 hij61 hw ⟨rfl, h⟩
  refine V.aload_n (pc := 0) hG dX6_write_0 rfl 1 rfl ?_
  refine V.getRN (x := o1 + 1) (pc := 1) (ci := 10) (k := 0) (M := 4) (T := TX8) (o := o1) (kz := 0) hG ho1.o ho1.o.n (by decide) hin_X8 rfl (by decide) (by decide) rfl kw_230 rfl ((hw.2.2.1 _ ho1).1) (by have := (ho1).1; omega) dX6_write_1 ?_
  refine V.iconst (pc := 4) hG dX6_write_4 ?_
  refine V.iald (pc := 5) (z := 3) (o := o1 + 1) hG ho1.f ho1.f.n ((sR_l rfl)) (by decide) dX6_write_5 ?_
  refine V.istore (pc := 6) (lv' := [(5, .int (sJ (i (o1 + 1) 0))), (0, .ref (sA Δ 3)), (1, .ref (sA Δ o1)), (2, .int (sJ p2)), (3, .int (sJ p3)), (4, .ref (sA Δ o4))]) hG dX6_write_6 (by decide) rfl ?_
  refine V.iload (pc := 8) hG dX6_write_8 0 rfl ?_
  obtain ⟨f4, t3⟩ := h
  refine V.if_ne (pc := 10) (tgt := 29) hG ((hi _ _)) dX6_write_10 (by decide) (fun c2 => ?_) (fun c2 => ?_)
  · have h := t3 c2
    clear t3 f4
    refine V.iload (pc := 29) hG dX6_write_29 0 rfl ?_
    refine V.bipush (pc := 31) hG dX6_write_31 (by decide) ?_
    obtain ⟨f7, t6⟩ := h
    refine V.icmp_ne (pc := 33) (tgt := 45) hG ((hi _ _)) ((sR_l rfl)) dX6_write_33 (by decide) (fun c5 => ?_) (fun c5 => ?_)
    · have h := t6 c5
      clear t6 f7
      refine V.aload (pc := 45) hG dX6_write_45 5 rfl ?_
      refine V.iload (pc := 47) hG dX6_write_47 0 rfl ?_
      refine V.iconst (pc := 49) hG dX6_write_49 ?_
      refine V.isub (pc := 50) hG dX6_write_50 ?_
      refine V.aload_n (pc := 51) hG dX6_write_51 rfl 2 rfl ?_
      refine V.iconst (pc := 52) hG dX6_write_52 ?_
      refine V.iload_n (pc := 53) hG dX6_write_53 rfl 3 rfl ?_
      refine V.callVNi (pc := 54) (As := [.int (sJ 0), .int (sJ p2)]) (stk := [.int (sJ (wr (i (o1 + 1) 0 - 3))), .ref (sA Δ o4)]) hG (sm_X8_placeOf l Δ ho1 ((sR_l rfl)) hp2 hi hw h) mY_X8_placeOf kw_791 kw_793 kw_19 ho1.o (by decide) (q := (RX8, TX8, 4)) rfl rfl ⟨Nat.le_of_ble_eq_true rfl, Nat.le_of_ble_eq_true rfl, Nat.le_of_ble_eq_true rfl, Nat.le_of_ble_eq_true rfl⟩ rfl (Nat.le_of_ble_eq_true rfl) dX6_write_54 rfl (fun v8 i9 r10 hv11 hi12 hw13 hq14 => ?_)
      obtain ⟨e24, e25, h⟩ := hq14
      subst e24
      subst e25
      refine V.iload_n (pc := 57) hG dX6_write_57 rfl 4 rfl ?_
      refine V.callVNv (pc := 58) (As := [.int (sJ (wr (i (o1 + 1) 0 - 3))), .int (sJ v8), .int (sJ p3)]) (stk := []) hG (sm_X7_keep l Δ ho4 ((sR_wr _)) hv11 hp3 hi hw h) mY_X7_keep kw_818 kw_820 kw_25 ho4.o (by decide) (q := (RX7, TX7, 5)) rfl rfl ⟨Nat.le_of_ble_eq_true rfl, Nat.le_of_ble_eq_true rfl, Nat.le_of_ble_eq_true rfl, Nat.le_of_ble_eq_true rfl⟩ rfl (Nat.le_of_ble_eq_true rfl) dX6_write_58 rfl (fun i16 r17 hi19 hw20 hq21 => ?_)
      obtain ⟨e23, h⟩ := hq21
      subst e23
      refine V.pick [] rfl ?_
      exact jn61 i16 hi19 h
    · have h := f7 c5
      clear t6 f7
      refine V.aload (pc := 36) hG dX6_write_36 5 rfl ?_
      refine V.iload_n (pc := 38) hG dX6_write_38 rfl 4 rfl ?_
      refine V.callVNv (pc := 39) (As := [.int (sJ p3)]) (stk := []) hG (sm_X7_putOut l Δ ho4 hp3 hi hw h) mY_X7_putOut kw_814 kw_816 kw_24 ho4.o (by decide) (q := (RX7, TX7, 5)) rfl rfl ⟨Nat.le_of_ble_eq_true rfl, Nat.le_of_ble_eq_true rfl, Nat.le_of_ble_eq_true rfl, Nat.le_of_ble_eq_true rfl⟩ rfl (Nat.le_of_ble_eq_true rfl) dX6_write_39 rfl (fun i27 r28 hi30 hw31 hq32 => ?_)
      obtain ⟨e34, h⟩ := hq32
      subst e34
      refine V.goto (pc := 42) (tgt := 61) hG dX6_write_42 (by decide) ?_
      refine V.pick [] rfl ?_
      exact jn61 i27 hi30 h
  · have h := f4 c2
    clear t3 f4
    refine V.aload (pc := 13) hG dX6_write_13 5 rfl ?_
    refine V.getRN (x := o4 + 1) (pc := 15) (ci := 9) (k := 0) (M := 5) (T := TX7) (o := o4) (kz := 0) hG ho4.o ho4.o.n (by decide) hin_X7 rfl (by decide) (by decide) rfl kw_300 rfl ((hw.2.2.2.1 _ ho4).1) (by have := sta.pos (ho4); omega) dX6_write_15 ?_
    refine V.aload_n (pc := 18) hG dX6_write_18 rfl 2 rfl ?_
    refine V.getRN (x := o1 + 2) (pc := 19) (ci := 10) (k := 1) (M := 4) (T := TX8) (o := o1) (kz := 1) hG ho1.o ho1.o.n (by decide) hin_X8 rfl (by decide) (by decide) rfl kw_233 rfl ((hw.2.2.1 _ ho1).2.1) (by have := (ho1).1; omega) dX6_write_19 ?_
    refine V.iconst (pc := 22) hG dX6_write_22 ?_
    refine V.iald (pc := 23) (z := 3) (o := o1 + 2) hG ho1.m ho1.m.n ((sR_l rfl)) (by decide) dX6_write_23 ?_
    refine V.iload_n (pc := 24) hG dX6_write_24 rfl 4 rfl ?_
    obtain ⟨g36, h⟩ := h
    refine V.iast (pc := 25) (z := 8) (o := o4 + 1) hG ho4.r ho4.r.n ((hi _ _)) g36 dX6_write_25 ?_
    refine V.goto (pc := 26) (tgt := 61) hG dX6_write_26 (by decide) ?_
    refine V.pick [] rfl ?_
    exact jn61 (st i (o4 + 1) (i (o1 + 2) 0) p3) ((okI_st hi hp3)) h
set_option maxRecDepth 100000 in
set_option maxHeartbeats 4000000 in
theorem sm_X1_finish (l : Launch) (Δ : Wd) {i r : MI} {o2 : Int} {p3 : Int} {p4 : Int} (ho2 : isA o2 (5, 0)) (hp3 : sR p3) (hp4 : sR p4) {Q : MI → Prop} (hi : okI i) (hw : Wf r) (h : wp_X1_finish o2 p3 p4 i r Q) : Met l yX1_finish (Cond.code yX1_finish cX1_finish 6 none :: gW) (sRm 3 69) (sPc Δ [.ref (sA Δ 480), .ref (sA Δ 3), .ref (sA Δ o2), .int (sJ p3), .int (sJ p4)] i r) (sQv Δ (fun i' r' => r = r' ∧ Q i')) 0 0 (sFr Δ) := by
  refine Ct.v (by decide) rfl (Nat.le_of_ble_eq_true rfl) (fun Γ Q0 hG fin => ?_)
  have hG : okG Γ Δ l (sRm 3 69) cX1_finish "Schedulary$Circuit" 6 := hG
  show V Γ Δ 542 false i r 0 0 Q0 0 [(0, .ref (sA Δ 480)), (1, .ref (sA Δ 3)), (2, .ref (sA Δ o2)), (3, .int (sJ p3)), (4, .int (sJ p4))] []
  have jn56 : ∀  (ij56 : MI), okI ij56 → s56_X1_finish ij56 r Q → V Γ Δ 542 false ij56 r 0 0 Q0 56 [] [] := by
    intro ij56 hij56 h
    exact fin dX1_finish_56 hij56 hw ⟨rfl, h⟩
  have jn21 : ∀  (ij21 : MI), okI ij21 → s21_X1_finish o2 p3 p4 ij21 r Q → V Γ Δ 542 false ij21 r 0 0 Q0 21 [(0, .ref (sA Δ 480)), (1, .ref (sA Δ 3)), (2, .ref (sA Δ o2)), (3, .int (sJ p3)), (4, .int (sJ p4))] [] := by
    intro ij21 hij21 h
    refine V.aload_n (pc := 21) hG dX1_finish_21 rfl 1 rfl ?_
    refine V.getIN (pc := 22) (ci := 8) (k := 8) (M := 9) (T := TX6) (o := 3) (kz := 8) hG a_3 a_3.n (by decide) hin_X6 rfl (by decide) (by decide) rfl kw_271 rfl dX1_finish_22 ?_
    refine V.iload (pc := 25) hG dX1_finish_25 4 rfl ?_
    refine V.imul (pc := 27) hG dX1_finish_27 ?_
    refine V.aload_n (pc := 28) hG dX1_finish_28 rfl 2 rfl ?_
    refine V.getIN (pc := 29) (ci := 5) (k := 2) (M := 13) (T := TX3) (o := o2) (kz := 2) hG ho2 ho2.n (by decide) hin_X3 rfl (by decide) (by decide) rfl kw_339 rfl dX1_finish_29 ?_
    refine V.iadd (pc := 32) hG dX1_finish_32 ?_
    refine V.istore (pc := 33) (lv' := [(5, .int (sJ (wr (wr (ij21 3 8 * p4) + ij21 o2 2)))), (0, .ref (sA Δ 480)), (1, .ref (sA Δ 3)), (2, .ref (sA Δ o2)), (3, .int (sJ p3)), (4, .int (sJ p4))]) hG dX1_finish_33 (by decide) rfl ?_
    refine V.aload_n (pc := 35) hG dX1_finish_35 rfl 2 rfl ?_
    refine V.aload_n (pc := 36) hG dX1_finish_36 rfl 3 rfl ?_
    obtain ⟨g20, h⟩ := h
    refine V.getRN (x := r o2 0) (pc := 37) (ci := 5) (k := 0) (M := 13) (T := TX3) (o := o2) (kz := 0) hG ho2 ho2.n (by decide) hin_X3 rfl (by decide) (by decide) rfl kw_335 rfl rfl g20 dX1_finish_37 ?_
    refine V.iload (pc := 40) hG dX1_finish_40 0 rfl ?_
    refine V.aload_n (pc := 42) hG dX1_finish_42 rfl 1 rfl ?_
    refine V.iload_n (pc := 43) hG dX1_finish_43 rfl 4 rfl ?_
    refine V.iload (pc := 44) hG dX1_finish_44 5 rfl ?_
    refine V.callVi (pc := 46) (As := [.int (sJ p3), .int (sJ p4)]) (stk := [.int (sJ (wr (wr (ij21 3 8 * p4) + ij21 o2 2))), .ref (sA Δ (r o2 0)), .ref (sA Δ 3)]) hG (sm_X1_valueFrom l Δ hp3 hp4 hij21 hw h) mY_X1_valueFrom kw_1059 kw_1061 kw_76 a_480 (by decide) (q := (RX1, TX1, 2)) rfl rfl ⟨Nat.le_of_ble_eq_true rfl, Nat.le_of_ble_eq_true rfl, Nat.le_of_ble_eq_true rfl, Nat.le_of_ble_eq_true rfl⟩ rfl (Nat.le_of_ble_eq_true rfl) dX1_finish_46 rfl (fun v21 i22 r23 hv24 hi25 hw26 hq27 => ?_)
    obtain ⟨e37, e38, h⟩ := hq27
    subst e37
    subst e38
    refine V.aload_n (pc := 49) hG dX1_finish_49 rfl 1 rfl ?_
    refine V.getR (x := 481) (pc := 50) (ci := 3) (k := 0) (M := 2) (T := TX1) (o := 480) (kz := 0) hG a_480 a_480.n (by decide) hin_X1 rfl (by decide) (by decide) rfl kw_537 rfl ((hw).1 (480, 0, 481) (by decide)) (by decide) dX1_finish_50 ?_
    refine V.callVNv (pc := 53) (As := [.ref (sA Δ (r o2 0)), .int (sJ (wr (wr (ij21 3 8 * p4) + ij21 o2 2))), .int (sJ v21), .ref (sA Δ 481)]) (stk := []) hG (sm_X6_write l Δ ((Wf.src hw ho2 g20)) ((sR_wr _)) hv24 sta_481 hij21 hw h) mY_X6_write kw_1063 kw_812 kw_23 a_3 (by decide) (q := (RX6, TX6, 9)) rfl rfl ⟨Nat.le_of_ble_eq_true rfl, Nat.le_of_ble_eq_true rfl, Nat.le_of_ble_eq_true rfl, Nat.le_of_ble_eq_true rfl⟩ rfl (Nat.le_of_ble_eq_true rfl) dX1_finish_53 rfl (fun i29 r30 hi32 hw33 hq34 => ?_)
    obtain ⟨e36, h⟩ := hq34
    subst e36
    refine V.pick [] rfl ?_
    exact jn56 i29 hi32 h
  refine V.iload (pc := 0) hG dX1_finish_0 4 rfl ?_
  refine V.iconst (pc := 2) hG dX1_finish_2 ?_
  obtain ⟨t40, f41⟩ := h
  refine V.icmp_eq (pc := 3) (tgt := 56) hG hp4 ((sR_l rfl)) dX1_finish_3 (by decide) (fun c39 => ?_) (fun c39 => ?_)
  · have h := t40 c39
    clear t40 f41
    refine V.pick [] rfl ?_
    exact jn56 i hi h
  · have h := f41 c39
    clear t40 f41
    refine V.aload_n (pc := 6) hG dX1_finish_6 rfl 2 rfl ?_
    refine V.getIN (pc := 7) (ci := 5) (k := 12) (M := 13) (T := TX3) (o := o2) (kz := 12) hG ho2 ho2.n (by decide) hin_X3 rfl (by decide) (by decide) rfl kw_372 rfl dX1_finish_7 ?_
    obtain ⟨f44, t43⟩ := h
    refine V.if_ne (pc := 10) (tgt := 21) hG ((hi _ _)) dX1_finish_10 (by decide) (fun c42 => ?_) (fun c42 => ?_)
    · have h := t43 c42
      clear t43 f44
      exact jn21 i hi h
    · have h := f44 c42
      clear t43 f44
      refine V.aload_n (pc := 13) hG dX1_finish_13 rfl 2 rfl ?_
      refine V.getIN (pc := 14) (ci := 5) (k := 8) (M := 13) (T := TX3) (o := o2) (kz := 8) hG ho2 ho2.n (by decide) hin_X3 rfl (by decide) (by decide) rfl kw_361 rfl dX1_finish_14 ?_
      refine V.iconst (pc := 17) hG dX1_finish_17 ?_
      obtain ⟨t46, f47⟩ := h
      refine V.icmp_eq (pc := 18) (tgt := 56) hG ((hi _ _)) ((sR_l rfl)) dX1_finish_18 (by decide) (fun c45 => ?_) (fun c45 => ?_)
      · have h := t46 c45
        clear t46 f47
        refine V.pick [] rfl ?_
        exact jn56 i hi h
      · have h := f47 c45
        clear t46 f47
        exact jn21 i hi h
set_option maxRecDepth 100000 in
set_option maxHeartbeats 4000000 in
theorem sm_X1_turnAfter (l : Launch) (Δ : Wd) {i r : MI} {p0 : Int} {p1 : Int} {p2 : Int} (hp0 : sR p0) (hp1 : sR p1) (hp2 : sR p2) {Q : Int → Prop} (hi : okI i) (hw : Wf r) (h : wp_X1_turnAfter p0 p1 p2 i r Q) : Met l yX1_turnAfter (Cond.code yX1_turnAfter cX1_turnAfter 4 (some .int) :: gW) (sRm 0 0) (sPc Δ [.int (sJ p0), .int (sJ p1), .int (sJ p2)] i r) (sQi Δ (fun x i' r' => i = i' ∧ r = r' ∧ Q x)) 0 0 (sFr Δ) := by
  refine Ct.i (ty := .int) (by decide) rfl (Nat.le_of_ble_eq_true rfl) (fun Γ Q0 hG fin => ?_)
  have hG : okG Γ Δ l (sRm 0 0) cX1_turnAfter "Schedulary$Circuit" 4 := hG
  show V Γ Δ 542 false i r 0 0 Q0 0 [(0, .int (sJ p0)), (1, .int (sJ p1)), (2, .int (sJ p2))] []
  have jn31 : ∀ (k0j31 : Int), sR k0j31 → s31_X1_turnAfter k0j31 i r Q → V Γ Δ 542 false i r 0 0 Q0 31 [] [.int (sJ k0j31)] := by
    intro k0j31 hk0j31 h
    exact fin dX1_turnAfter_31 hk0j31 rfl hi hw ⟨rfl, rfl, h⟩
  have jn15 : s15_X1_turnAfter i r Q → V Γ Δ 542 false i r 0 0 Q0 15 [] [] := by
    intro h
    refine V.iconst (pc := 15) hG dX1_turnAfter_15 ?_
    exact fin dX1_turnAfter_16 ((sR_l rfl)) rfl hi hw ⟨rfl, rfl, h⟩
  refine V.iload_n (pc := 0) hG dX1_turnAfter_0 rfl 0 rfl ?_
  obtain ⟨t2, f3⟩ := h
  refine V.if_lt (pc := 1) (tgt := 15) hG hp0 dX1_turnAfter_1 (by decide) (fun c1 => ?_) (fun c1 => ?_)
  · have h := t2 c1
    clear t2 f3
    refine V.pick [] rfl ?_
    exact jn15 h
  · have h := f3 c1
    clear t2 f3
    refine V.iload_n (pc := 4) hG dX1_turnAfter_4 rfl 1 rfl ?_
    refine V.iconst (pc := 5) hG dX1_turnAfter_5 ?_
    obtain ⟨t5, f6⟩ := h
    refine V.icmp_lt (pc := 6) (tgt := 15) hG hp1 ((sR_l rfl)) dX1_turnAfter_6 (by decide) (fun c4 => ?_) (fun c4 => ?_)
    · have h := t5 c4
      clear t5 f6
      refine V.pick [] rfl ?_
      exact jn15 h
    · have h := f6 c4
      clear t5 f6
      refine V.iload_n (pc := 9) hG dX1_turnAfter_9 rfl 0 rfl ?_
      refine V.iload_n (pc := 10) hG dX1_turnAfter_10 rfl 1 rfl ?_
      obtain ⟨g7, h⟩ := h
      refine V.irem (pc := 11) hG hp0 hp1 g7 dX1_turnAfter_11 ?_
      obtain ⟨t9, f10⟩ := h
      refine V.if_eq (pc := 12) (tgt := 17) hG ((sR_tmod hp0)) dX1_turnAfter_12 (by decide) (fun c8 => ?_) (fun c8 => ?_)
      · have h := t9 c8
        clear t9 f10
        refine V.iload_n (pc := 17) hG dX1_turnAfter_17 rfl 0 rfl ?_
        refine V.iload_n (pc := 18) hG dX1_turnAfter_18 rfl 1 rfl ?_
        obtain ⟨g11, h⟩ := h
        refine V.idiv (pc := 19) hG hp0 hp1 g11 dX1_turnAfter_19 ?_
        refine V.istore_n (pc := 20) (lv' := [(3, .int (sJ (wr (Int.tdiv p0 p1)))), (0, .int (sJ p0)), (1, .int (sJ p1)), (2, .int (sJ p2))]) hG dX1_turnAfter_20 rfl (by decide) rfl ?_
        refine V.iload_n (pc := 21) hG dX1_turnAfter_21 rfl 0 rfl ?_
        refine V.iload_n (pc := 22) hG dX1_turnAfter_22 rfl 3 rfl ?_
        obtain ⟨t13, f14⟩ := h
        refine V.icmp_ge (pc := 23) (tgt := 30) hG ((sR_wr _)) hp2 dX1_turnAfter_23 (by decide) (fun c12 => ?_) (fun c12 => ?_)
        · have h := t13 c12
          clear t13 f14
          refine V.iconst (pc := 30) hG dX1_turnAfter_30 ?_
          refine V.pick [] rfl ?_
          exact jn31 (-1) ((sR_l rfl)) h
        · have h := f14 c12
          clear t13 f14
          refine V.iload_n (pc := 26) hG dX1_turnAfter_26 rfl 0 rfl ?_
          refine V.goto (pc := 27) (tgt := 31) hG dX1_turnAfter_27 (by decide) ?_
          refine V.pick [] rfl ?_
          exact jn31 (wr (Int.tdiv p0 p1)) ((sR_wr _)) h
      · have h := f10 c8
        clear t9 f10
        refine V.pick [] rfl ?_
        exact jn15 h
set_option maxRecDepth 100000 in
set_option maxHeartbeats 4000000 in
theorem sm_X0_endOf (l : Launch) (Δ : Wd) {i r : MI} {o1 : Int} (ho1 : isA o1 (20, 96)) {Q : Int → Prop} (hi : okI i) (hw : Wf r) (h : wp_X0_endOf o1 i r Q) : Met l yX0_endOf (Cond.code yX0_endOf cX0_endOf 4 (some .int) :: gW) (sRm 1 21) (sPc Δ [.ref (sA Δ 67), .ref (sA Δ o1)] i r) (sQi Δ (fun x i' r' => i = i' ∧ r = r' ∧ Q x)) 0 0 (sFr Δ) := by
  refine Ct.i (ty := .int) (by decide) rfl (Nat.le_of_ble_eq_true rfl) (fun Γ Q0 hG fin => ?_)
  have hG : okG Γ Δ l (sRm 1 21) cX0_endOf "Schedulary$Body" 4 := hG
  show V Γ Δ 542 false i r 0 0 Q0 0 [(0, .ref (sA Δ 67)), (1, .ref (sA Δ o1))] []
  refine V.iconst (pc := 0) hG dX0_endOf_0 ?_
  refine V.istore_n (pc := 1) (lv' := [(2, .int (sJ 0)), (0, .ref (sA Δ 67)), (1, .ref (sA Δ o1))]) hG dX0_endOf_1 rfl (by decide) rfl ?_
  refine V.iconst (pc := 2) hG dX0_endOf_2 ?_
  refine V.istore_n (pc := 3) (lv' := [(3, .int (sJ 0)), (2, .int (sJ 0)), (0, .ref (sA Δ 67)), (1, .ref (sA Δ o1))]) hG dX0_endOf_3 rfl (by decide) rfl ?_
  obtain ⟨n14, h⟩ := h
  have lp4 : ∀ (m4 : Nat) (x2_4 : Int) (x3_4 : Int), sR x2_4 → sR x3_4 → LoopP (b4_X0_endOf o1 i r Q) m4 (x2_4, x3_4) → V Γ Δ 542 false i r 0 0 Q0 4 [(0, .ref (sA Δ 67)), (1, .ref (sA Δ o1)), (2, .int (sJ x2_4)), (3, .int (sJ x3_4))] [] := by
    intro m4
    induction m4 with
    | zero => intro x2_4 x3_4 hx2_4 hx3_4 h; exact h.elim
    | succ m4 ih4 =>
      intro x2_4 x3_4 hx2_4 hx3_4 h
      have h := LoopP_succ h
      refine V.iload_n (pc := 4) hG dX0_endOf_4 rfl 3 rfl ?_
      refine V.aload_n (pc := 5) hG dX0_endOf_5 rfl 0 rfl ?_
      refine V.getI (pc := 6) (ci := 2) (k := 4) (M := 5) (T := TX0) (o := 67) (kz := 4) hG a_67 a_67.n (by decide) hin_X0 rfl (by decide) (by decide) rfl kw_416 rfl dX0_endOf_6 ?_
      obtain ⟨t16, f17⟩ := h
      refine V.icmp_ge (pc := 9) (tgt := 32) hG hx3_4 ((hi _ _)) dX0_endOf_9 (by decide) (fun c15 => ?_) (fun c15 => ?_)
      · have h := t16 c15
        clear t16 f17
        refine V.iload_n (pc := 32) hG dX0_endOf_32 rfl 2 rfl ?_
        exact fin dX0_endOf_33 hx2_4 rfl hi hw ⟨rfl, rfl, h⟩
      · have h := f17 c15
        clear t16 f17
        refine V.iload_n (pc := 12) hG dX0_endOf_12 rfl 2 rfl ?_
        refine V.aload_n (pc := 13) hG dX0_endOf_13 rfl 1 rfl ?_
        refine V.iload_n (pc := 14) hG dX0_endOf_14 rfl 3 rfl ?_
        obtain ⟨g18, h⟩ := h
        refine V.iald (pc := 15) (z := 96) (o := o1) hG ho1 ho1.n hx3_4 g18 dX0_endOf_15 ?_
        refine V.aload_n (pc := 16) hG dX0_endOf_16 rfl 0 rfl ?_
        refine V.iload_n (pc := 17) hG dX0_endOf_17 rfl 3 rfl ?_
        refine V.callVi (pc := 18) (As := [.int (sJ x3_4)]) (stk := [.int (sJ (i o1 x3_4)), .int (sJ x2_4)]) hG (sm_X0_cyclesOf l Δ hx3_4 hi hw h) mY_X0_cyclesOf kw_965 kw_895 kw_41 a_67 (by decide) (q := (RX0, TX0, 5)) rfl rfl ⟨Nat.le_of_ble_eq_true rfl, Nat.le_of_ble_eq_true rfl, Nat.le_of_ble_eq_true rfl, Nat.le_of_ble_eq_true rfl⟩ rfl (Nat.le_of_ble_eq_true rfl) dX0_endOf_18 rfl (fun v19 i20 r21 hv22 hi23 hw24 hq25 => ?_)
        obtain ⟨e26, e27, h⟩ := hq25
        subst e26
        subst e27
        refine V.iadd (pc := 21) hG dX0_endOf_21 ?_
        refine V.mmax (pc := 22) hG hx2_4 ((sR_wr _)) kw_966 kw_680 kw_173 kw_max ⟨Nat.le_of_ble_eq_true rfl, Nat.le_of_ble_eq_true rfl, Nat.le_of_ble_eq_true rfl, Nat.le_of_ble_eq_true rfl⟩ dX0_endOf_22 ?_
        refine V.istore_n (pc := 25) (lv' := [(2, .int (sJ (max x2_4 (wr (i o1 x3_4 + v19))))), (0, .ref (sA Δ 67)), (1, .ref (sA Δ o1)), (3, .int (sJ x3_4))]) hG dX0_endOf_25 rfl (by decide) rfl ?_
        refine V.iinc (pc := 26) (lv' := [(3, .int (sJ (wr (x3_4 + 1)))), (2, .int (sJ (max x2_4 (wr (i o1 x3_4 + v19))))), (0, .ref (sA Δ 67)), (1, .ref (sA Δ o1))]) hG dX0_endOf_26 3 rfl (by decide) rfl ?_
        refine V.goto (pc := 29) (tgt := 4) hG dX0_endOf_29 (by decide) ?_
        refine V.pick [2, 3, 1, 0] rfl ?_
        exact ih4 (max x2_4 (wr (i o1 x3_4 + v19))) (wr (x3_4 + 1)) ((sR_max hx2_4 ((sR_wr _)))) ((sR_wr _)) h
  refine V.pick [2, 3, 1, 0] rfl ?_
  exact lp4 n14 0 0 ((sR_l rfl)) ((sR_l rfl)) h
set_option maxRecDepth 100000 in
set_option maxHeartbeats 4000000 in
theorem sm_X4_countCycles (l : Launch) (Δ : Wd) {i r : MI} {p2 : Int} (hp2 : sR p2) {Q : Int → Prop} (hi : okI i) (hw : Wf r) (h : wp_X4_countCycles p2 i r Q) : Met l yX4_countCycles (Cond.code yX4_countCycles cX4_countCycles 3 (some .int) :: gW) (sRm 2 44) (sPc Δ [.ref (sA Δ 469), .ref (sA Δ 67), .int (sJ p2)] i r) (sQi Δ (fun x i' r' => i = i' ∧ r = r' ∧ Q x)) 0 0 (sFr Δ) := by
  refine Ct.i (ty := .int) (by decide) rfl (Nat.le_of_ble_eq_true rfl) (fun Γ Q0 hG fin => ?_)
  have hG : okG Γ Δ l (sRm 2 44) cX4_countCycles "Schedulary$Pace" 3 := hG
  show V Γ Δ 542 false i r 0 0 Q0 0 [(0, .ref (sA Δ 469)), (1, .ref (sA Δ 67)), (2, .int (sJ p2))] []
  have jn28 : ∀ (k0j28 : Int), sR k0j28 → s28_X4_countCycles k0j28 i r Q → V Γ Δ 542 false i r 0 0 Q0 28 [] [.int (sJ k0j28)] := by
    intro k0j28 hk0j28 h
    exact fin dX4_countCycles_28 hk0j28 rfl hi hw ⟨rfl, rfl, h⟩
  refine V.aload_n (pc := 0) hG dX4_countCycles_0 rfl 1 rfl ?_
  refine V.getIN (pc := 1) (ci := 2) (k := 4) (M := 5) (T := TX0) (o := 67) (kz := 4) hG a_67 a_67.n (by decide) hin_X0 rfl (by decide) (by decide) rfl kw_419 rfl dX4_countCycles_1 ?_
  obtain ⟨f3, t2⟩ := h
  refine V.if_ne (pc := 4) (tgt := 11) hG ((hi _ _)) dX4_countCycles_4 (by decide) (fun c1 => ?_) (fun c1 => ?_)
  · have h := t2 c1
    clear t2 f3
    refine V.aload_n (pc := 11) hG dX4_countCycles_11 rfl 1 rfl ?_
    refine V.aload_n (pc := 12) hG dX4_countCycles_12 rfl 0 rfl ?_
    refine V.getR (x := 470) (pc := 13) (ci := 6) (k := 0) (M := 6) (T := TX4) (o := 469) (kz := 0) hG a_469 a_469.n (by decide) hin_X4 rfl (by decide) (by decide) rfl kw_504 rfl ((hw).1 (469, 0, 470) (by decide)) (by decide) dX4_countCycles_13 ?_
    refine V.callVNi (pc := 16) (As := [.ref (sA Δ 470)]) (stk := []) hG (sm_X0_endOf l Δ a_470 hi hw h) mY_X0_endOf kw_1050 kw_963 kw_56 a_67 (by decide) (q := (RX0, TX0, 5)) rfl rfl ⟨Nat.le_of_ble_eq_true rfl, Nat.le_of_ble_eq_true rfl, Nat.le_of_ble_eq_true rfl, Nat.le_of_ble_eq_true rfl⟩ rfl (Nat.le_of_ble_eq_true rfl) dX4_countCycles_16 rfl (fun v4 i5 r6 hv7 hi8 hw9 hq10 => ?_)
    obtain ⟨e11, e12, h⟩ := hq10
    subst e11
    subst e12
    refine V.aload_n (pc := 19) hG dX4_countCycles_19 rfl 0 rfl ?_
    refine V.getI (pc := 20) (ci := 6) (k := 5) (M := 6) (T := TX4) (o := 469) (kz := 5) hG a_469 a_469.n (by decide) hin_X4 rfl (by decide) (by decide) rfl kw_513 rfl dX4_countCycles_20 ?_
    refine V.iload_n (pc := 23) hG dX4_countCycles_23 rfl 2 rfl ?_
    refine V.iconst (pc := 24) hG dX4_countCycles_24 ?_
    refine V.isub (pc := 25) hG dX4_countCycles_25 ?_
    refine V.imul (pc := 26) hG dX4_countCycles_26 ?_
    refine V.iadd (pc := 27) hG dX4_countCycles_27 ?_
    refine V.pick [] rfl ?_
    exact jn28 (wr (v4 + wr (i 469 5 * wr (p2 - 1)))) ((sR_wr _)) h
  · have h := f3 c1
    clear t2 f3
    refine V.iconst (pc := 7) hG dX4_countCycles_7 ?_
    refine V.goto (pc := 8) (tgt := 28) hG dX4_countCycles_8 (by decide) ?_
    refine V.pick [] rfl ?_
    exact jn28 0 ((sR_l rfl)) h
set_option maxRecDepth 100000 in
set_option maxHeartbeats 4000000 in
theorem sm_X6_bodyTurns (l : Launch) (Δ : Wd) {i r : MI}   {Q : Int → Prop} (hi : okI i) (hw : Wf r) (h : wp_X6_bodyTurns  i r Q) : Met l yX6_bodyTurns (Cond.code yX6_bodyTurns cX6_bodyTurns 1 (some .int) :: gW) (sRm 0 0) (sPc Δ [.ref (sA Δ 3)] i r) (sQi Δ (fun x i' r' => i = i' ∧ r = r' ∧ Q x)) 0 0 (sFr Δ) := by
  refine Ct.i (ty := .int) (by decide) rfl (Nat.le_of_ble_eq_true rfl) (fun Γ Q0 hG fin => ?_)
  have hG : okG Γ Δ l (sRm 0 0) cX6_bodyTurns "Schedulary$Program" 1 := hG
  show V Γ Δ 542 false i r 0 0 Q0 0 [(0, .ref (sA Δ 3))] []
  have jn23 : ∀ (k0j23 : Int), sR k0j23 → s23_X6_bodyTurns k0j23 i r Q → V Γ Δ 542 false i r 0 0 Q0 23 [] [.int (sJ k0j23)] := by
    intro k0j23 hk0j23 h
    exact fin dX6_bodyTurns_23 hk0j23 rfl hi hw ⟨rfl, rfl, h⟩
  refine V.aload_n (pc := 0) hG dX6_bodyTurns_0 rfl 0 rfl ?_
  refine V.getI (pc := 1) (ci := 8) (k := 8) (M := 9) (T := TX6) (o := 3) (kz := 8) hG a_3 a_3.n (by decide) hin_X6 rfl (by decide) (by decide) rfl kw_269 rfl dX6_bodyTurns_1 ?_
  obtain ⟨t2, f3⟩ := h
  refine V.if_le (pc := 4) (tgt := 19) hG ((hi _ _)) dX6_bodyTurns_4 (by decide) (fun c1 => ?_) (fun c1 => ?_)
  · have h := t2 c1
    clear t2 f3
    refine V.aload_n (pc := 19) hG dX6_bodyTurns_19 rfl 0 rfl ?_
    refine V.getI (pc := 20) (ci := 8) (k := 6) (M := 9) (T := TX6) (o := 3) (kz := 6) hG a_3 a_3.n (by decide) hin_X6 rfl (by decide) (by decide) rfl kw_265 rfl dX6_bodyTurns_20 ?_
    refine V.pick [] rfl ?_
    exact jn23 (i 3 6) ((hi _ _)) h
  · have h := f3 c1
    clear t2 f3
    refine V.aload_n (pc := 7) hG dX6_bodyTurns_7 rfl 0 rfl ?_
    refine V.getI (pc := 8) (ci := 8) (k := 6) (M := 9) (T := TX6) (o := 3) (kz := 6) hG a_3 a_3.n (by decide) hin_X6 rfl (by decide) (by decide) rfl kw_265 rfl dX6_bodyTurns_8 ?_
    refine V.aload_n (pc := 11) hG dX6_bodyTurns_11 rfl 0 rfl ?_
    refine V.getI (pc := 12) (ci := 8) (k := 8) (M := 9) (T := TX6) (o := 3) (kz := 8) hG a_3 a_3.n (by decide) hin_X6 rfl (by decide) (by decide) rfl kw_269 rfl dX6_bodyTurns_12 ?_
    obtain ⟨g4, h⟩ := h
    refine V.idiv (pc := 15) hG ((hi _ _)) ((hi _ _)) g4 dX6_bodyTurns_15 ?_
    refine V.goto (pc := 16) (tgt := 23) hG dX6_bodyTurns_16 (by decide) ?_
    refine V.pick [] rfl ?_
    exact jn23 (wr (Int.tdiv (i 3 6) (i 3 8))) ((sR_wr _)) h
set_option maxRecDepth 100000 in
set_option maxHeartbeats 4000000 in
theorem sm_X7_begin (l : Launch) (Δ : Wd) {i r : MI} {o0 : Int} (ho0 : sta o0) {Q : MI → Prop} (hi : okI i) (hw : Wf r) (h : wp_X7_begin o0 i r Q) : Met l yX7_begin (Cond.code yX7_begin cX7_begin 4 none :: gW) (sRm 1 21) (sPc Δ [.ref (sA Δ o0), .ref (sA Δ 3)] i r) (sQv Δ (fun i' r' => r = r' ∧ Q i')) 0 0 (sFr Δ) := by
  refine Ct.v (by decide) rfl (Nat.le_of_ble_eq_true rfl) (fun Γ Q0 hG fin => ?_)
  have hG : okG Γ Δ l (sRm 1 21) cX7_begin "Schedulary$State" 4 := hG
  show V Γ Δ 542 false i r 0 0 Q0 0 [(0, .ref (sA Δ o0)), (1, .ref (sA Δ 3))] []
  refine V.iconst (pc := 0) hG dX7_begin_0 ?_
  refine V.istore_n (pc := 1) (lv' := [(2, .int (sJ 0)), (0, .ref (sA Δ o0)), (1, .ref (sA Δ 3))]) hG dX7_begin_1 rfl (by decide) rfl ?_
  obtain ⟨n62, h⟩ := h
  have lp2 : ∀ (m2 : Nat) (x2_2 : Int) (i_2 : MI), sR x2_2 → okI i_2 → LoopP (b2_X7_begin o0 r Q) m2 (x2_2, i_2) → V Γ Δ 542 false i_2 r 0 0 Q0 2 [(0, .ref (sA Δ o0)), (1, .ref (sA Δ 3)), (2, .int (sJ x2_2))] [] := by
    intro m2
    induction m2 with
    | zero => intro x2_2 i_2 hx2_2 hi_2 h; exact h.elim
    | succ m2 ih2 =>
      intro x2_2 i_2 hx2_2 hi_2 h
      have h := LoopP_succ h
      refine V.iload_n (pc := 2) hG dX7_begin_2 rfl 2 rfl ?_
      refine V.bipush (pc := 3) hG dX7_begin_3 (by decide) ?_
      obtain ⟨t64, f65⟩ := h
      refine V.icmp_ge (pc := 5) (tgt := 21) hG hx2_2 ((sR_l rfl)) dX7_begin_5 (by decide) (fun c63 => ?_) (fun c63 => ?_)
      · have h := t64 c63
        clear t64 f65
        refine V.iconst (pc := 21) hG dX7_begin_21 ?_
        refine V.istore_n (pc := 22) (lv' := [(2, .int (sJ 0)), (0, .ref (sA Δ o0)), (1, .ref (sA Δ 3))]) hG dX7_begin_22 rfl (by decide) rfl ?_
        obtain ⟨n66, h⟩ := h
        have lp23 : ∀ (m23 : Nat) (x2_23 : Int) (i_23 : MI), sR x2_23 → okI i_23 → LoopP (b23_X7_begin o0 r Q) m23 (x2_23, i_23) → V Γ Δ 542 false i_23 r 0 0 Q0 23 [(0, .ref (sA Δ o0)), (1, .ref (sA Δ 3)), (2, .int (sJ x2_23))] [] := by
          intro m23
          induction m23 with
          | zero => intro x2_23 i_23 hx2_23 hi_23 h; exact h.elim
          | succ m23 ih23 =>
            intro x2_23 i_23 hx2_23 hi_23 h
            have h := LoopP_succ h
            refine V.iload_n (pc := 23) hG dX7_begin_23 rfl 2 rfl ?_
            refine V.iconst (pc := 24) hG dX7_begin_24 ?_
            obtain ⟨t68, f69⟩ := h
            refine V.icmp_ge (pc := 25) (tgt := 68) hG hx2_23 ((sR_l rfl)) dX7_begin_25 (by decide) (fun c67 => ?_) (fun c67 => ?_)
            · have h := t68 c67
              clear t68 f69
              refine V.aload_n (pc := 68) hG dX7_begin_68 rfl 0 rfl ?_
              refine V.iconst (pc := 69) hG dX7_begin_69 ?_
              refine V.putI (pc := 70) (ci := 9) (k := 3) (M := 5) (T := TX7) (o := o0) (kz := 3) hG ho0.o ho0.o.n (by decide) hin_X7 rfl (by decide) (by decide) rfl kw_305 rfl tyX7 tyX7_ok nmX7 rfl (ty := tyX7 3) (tyX7_ok 3 (by decide)) rfl rfl dX7_begin_70 ?_
              refine V.aload_n (pc := 73) hG dX7_begin_73 rfl 0 rfl ?_
              refine V.iconst (pc := 74) hG dX7_begin_74 ?_
              refine V.putI (pc := 75) (ci := 9) (k := 4) (M := 5) (T := TX7) (o := o0) (kz := 4) hG ho0.o ho0.o.n (by decide) hin_X7 rfl (by decide) (by decide) rfl kw_307 rfl tyX7 tyX7_ok nmX7 rfl (ty := tyX7 4) (tyX7_ok 4 (by decide)) rfl rfl dX7_begin_75 ?_
              exact fin dX7_begin_78 ((okI_st ((okI_st hi_23 ((sR_l rfl)))) ((sR_l rfl)))) hw ⟨rfl, h⟩
            · have h := f69 c67
              clear t68 f69
              refine V.iconst (pc := 28) hG dX7_begin_28 ?_
              refine V.istore_n (pc := 29) (lv' := [(3, .int (sJ 0)), (0, .ref (sA Δ o0)), (1, .ref (sA Δ 3)), (2, .int (sJ x2_23))]) hG dX7_begin_29 rfl (by decide) rfl ?_
              obtain ⟨n70, h⟩ := h
              have lp30 : ∀ (m30 : Nat) (x3_30 : Int) (i_30 : MI), sR x3_30 → okI i_30 → LoopP (b30_X7_begin o0 x2_23 r Q (LoopP (b23_X7_begin o0 r Q) m23)) m30 (x3_30, i_30) → V Γ Δ 542 false i_30 r 0 0 Q0 30 [(0, .ref (sA Δ o0)), (1, .ref (sA Δ 3)), (2, .int (sJ x2_23)), (3, .int (sJ x3_30))] [] := by
                intro m30
                induction m30 with
                | zero => intro x3_30 i_30 hx3_30 hi_30 h; exact h.elim
                | succ m30 ih30 =>
                  intro x3_30 i_30 hx3_30 hi_30 h
                  have h := LoopP_succ h
                  refine V.iload_n (pc := 30) hG dX7_begin_30 rfl 3 rfl ?_
                  refine V.bipush (pc := 31) hG dX7_begin_31 (by decide) ?_
                  obtain ⟨t72, f73⟩ := h
                  refine V.icmp_ge (pc := 33) (tgt := 62) hG hx3_30 ((sR_l rfl)) dX7_begin_33 (by decide) (fun c71 => ?_) (fun c71 => ?_)
                  · have h := t72 c71
                    clear t72 f73
                    refine V.iinc (pc := 62) (lv' := [(2, .int (sJ (wr (x2_23 + 1)))), (0, .ref (sA Δ o0)), (1, .ref (sA Δ 3)), (3, .int (sJ x3_30))]) hG dX7_begin_62 2 rfl (by decide) rfl ?_
                    refine V.goto (pc := 65) (tgt := 23) hG dX7_begin_65 (by decide) ?_
                    refine V.pick [1, 2, 0] rfl ?_
                    exact ih23 (wr (x2_23 + 1)) i_30 ((sR_wr _)) hi_30 h
                  · have h := f73 c71
                    clear t72 f73
                    refine V.aload_n (pc := 36) hG dX7_begin_36 rfl 0 rfl ?_
                    refine V.getR (x := o0 + 2) (pc := 37) (ci := 9) (k := 1) (M := 5) (T := TX7) (o := o0) (kz := 1) hG ho0.o ho0.o.n (by decide) hin_X7 rfl (by decide) (by decide) rfl kw_302 rfl ((hw.2.2.2.1 _ ho0).2.1) (by have := sta.pos (ho0); omega) dX7_begin_37 ?_
                    refine V.iload_n (pc := 40) hG dX7_begin_40 rfl 2 rfl ?_
                    obtain ⟨g74, h⟩ := h
                    refine V.aald (pc := 41) 7 (z := 2) (o := o0 + 2) (x := x2_23) (y := o0 + 3 + x2_23) hG ho0.mm ho0.mm.n (by decide) hx2_23 g74 (Wf.mem hw ho0 g74) (by have := sta.pos ho0; omega) dX7_begin_41 ?_
                    refine V.iload_n (pc := 42) hG dX7_begin_42 rfl 3 rfl ?_
                    refine V.aload_n (pc := 43) hG dX7_begin_43 rfl 1 rfl ?_
                    refine V.aload_n (pc := 44) hG dX7_begin_44 rfl 1 rfl ?_
                    refine V.getRN (x := 6) (pc := 45) (ci := 8) (k := 2) (M := 9) (T := TX6) (o := 3) (kz := 2) hG a_3 a_3.n (by decide) hin_X6 rfl (by decide) (by decide) rfl kw_256 rfl ((hw).1 (3, 2, 6) (by decide)) (by decide) dX7_begin_45 ?_
                    refine V.iload_n (pc := 48) hG dX7_begin_48 rfl 2 rfl ?_
                    obtain ⟨g75, h⟩ := h
                    refine V.aald (pc := 49) 7 (z := 2) (o := 6) (x := x2_23) (y := 7 + x2_23) hG a_6 a_6.n (by decide) hx2_23 g75 (hw.2.1 (6, 2, 7) (by decide) _ g75.1 g75.2) (by omega) dX7_begin_49 ?_
                    refine V.iload_n (pc := 50) hG dX7_begin_50 rfl 3 rfl ?_
                    obtain ⟨g76, h⟩ := h
                    refine V.iald (pc := 51) (z := 16) (o := 7 + x2_23) hG (row_6 g75) ((row_6 g75)).n hx3_30 g76 dX7_begin_51 ?_
                    refine V.callVNi (pc := 52) (As := [.int (sJ (i_30 (7 + x2_23) x3_30))]) (stk := [.int (sJ x3_30), .ref (sA Δ (o0 + 3 + x2_23))]) hG (sm_X6_cut l Δ ((hi_30 _ _)) hi_30 hw h) mY_X6_cut kw_774 kw_776 kw_15 a_3 (by decide) (q := (RX6, TX6, 9)) rfl rfl ⟨Nat.le_of_ble_eq_true rfl, Nat.le_of_ble_eq_true rfl, Nat.le_of_ble_eq_true rfl, Nat.le_of_ble_eq_true rfl⟩ rfl (Nat.le_of_ble_eq_true rfl) dX7_begin_52 rfl (fun v77 i78 r79 hv80 hi81 hw82 hq83 => ?_)
                    obtain ⟨e85, e86, h⟩ := hq83
                    subst e85
                    subst e86
                    obtain ⟨g84, h⟩ := h
                    refine V.iast (pc := 55) (z := 16) (o := o0 + 3 + x2_23) hG (sta.row ho0 g74) ((sta.row ho0 g74)).n hx3_30 g84 dX7_begin_55 ?_
                    refine V.iinc (pc := 56) (lv' := [(3, .int (sJ (wr (x3_30 + 1)))), (0, .ref (sA Δ o0)), (1, .ref (sA Δ 3)), (2, .int (sJ x2_23))]) hG dX7_begin_56 3 rfl (by decide) rfl ?_
                    refine V.goto (pc := 59) (tgt := 30) hG dX7_begin_59 (by decide) ?_
                    refine V.pick [1, 2, 3, 0] rfl ?_
                    exact ih30 (wr (x3_30 + 1)) (st i_30 (o0 + 3 + x2_23) x3_30 v77) ((sR_wr _)) ((okI_st hi_30 hv80)) h
              refine V.pick [1, 2, 3, 0] rfl ?_
              exact lp30 n70 0 i_23 ((sR_l rfl)) hi_23 h
        refine V.pick [1, 2, 0] rfl ?_
        exact lp23 n66 0 i_2 ((sR_l rfl)) hi_2 h
      · have h := f65 c63
        clear t64 f65
        refine V.aload_n (pc := 8) hG dX7_begin_8 rfl 0 rfl ?_
        refine V.getR (x := o0 + 1) (pc := 9) (ci := 9) (k := 0) (M := 5) (T := TX7) (o := o0) (kz := 0) hG ho0.o ho0.o.n (by decide) hin_X7 rfl (by decide) (by decide) rfl kw_299 rfl ((hw.2.2.2.1 _ ho0).1) (by have := sta.pos (ho0); omega) dX7_begin_9 ?_
        refine V.iload_n (pc := 12) hG dX7_begin_12 rfl 2 rfl ?_
        refine V.iconst (pc := 13) hG dX7_begin_13 ?_
        obtain ⟨g87, h⟩ := h
        refine V.iast (pc := 14) (z := 8) (o := o0 + 1) hG ho0.r ho0.r.n hx2_2 g87 dX7_begin_14 ?_
        refine V.iinc (pc := 15) (lv' := [(2, .int (sJ (wr (x2_2 + 1)))), (0, .ref (sA Δ o0)), (1, .ref (sA Δ 3))]) hG dX7_begin_15 2 rfl (by decide) rfl ?_
        refine V.goto (pc := 18) (tgt := 2) hG dX7_begin_18 (by decide) ?_
        refine V.pick [1, 2, 0] rfl ?_
        exact ih2 (wr (x2_2 + 1)) (st i_2 (o0 + 1) x2_2 0) ((sR_wr _)) ((okI_st hi_2 ((sR_l rfl)))) h
  refine V.pick [1, 2, 0] rfl ?_
  exact lp2 n62 0 i ((sR_l rfl)) hi h
set_option maxRecDepth 100000 in
set_option maxHeartbeats 4000000 in
theorem sm_X1_turn (l : Launch) (Δ : Wd) {i r : MI}   {Q : MI → Prop} (hi : okI i) (hw : Wf r) (h : wp_X1_turn  i r Q) : Met l yX1_turn (Cond.code yX1_turn cX1_turn 9 none :: gW) (sRm 4 94) (sPc Δ [.ref (sA Δ 480), .ref (sA Δ 3), .ref (sA Δ 67), .ref (sA Δ 469)] i r) (sQv Δ (fun i' r' => r = r' ∧ Q i')) 0 0 (sFr Δ) := by
  refine Ct.v (by decide) rfl (Nat.le_of_ble_eq_true rfl) (fun Γ Q0 hG fin => ?_)
  have hG : okG Γ Δ l (sRm 4 94) cX1_turn "Schedulary$Circuit" 9 := hG
  show V Γ Δ 542 false i r 0 0 Q0 0 [(0, .ref (sA Δ 480)), (1, .ref (sA Δ 3)), (2, .ref (sA Δ 67)), (3, .ref (sA Δ 469))] []
  refine V.aload_n (pc := 0) hG dX1_turn_0 rfl 0 rfl ?_
  refine V.getR (x := 481) (pc := 1) (ci := 3) (k := 0) (M := 2) (T := TX1) (o := 480) (kz := 0) hG a_480 a_480.n (by decide) hin_X1 rfl (by decide) (by decide) rfl kw_537 rfl ((hw).1 (480, 0, 481) (by decide)) (by decide) dX1_turn_1 ?_
  refine V.aload_n (pc := 4) hG dX1_turn_4 rfl 1 rfl ?_
  refine V.callVNv (pc := 5) (As := [.ref (sA Δ 3)]) (stk := []) hG (sm_X7_begin l Δ sta_481 hi hw h) mY_X7_begin kw_1041 kw_772 kw_14 a_481 (by decide) (q := (RX7, TX7, 5)) rfl rfl ⟨Nat.le_of_ble_eq_true rfl, Nat.le_of_ble_eq_true rfl, Nat.le_of_ble_eq_true rfl, Nat.le_of_ble_eq_true rfl⟩ rfl (Nat.le_of_ble_eq_true rfl) dX1_turn_5 rfl (fun i2 r3 hi5 hw6 hq7 => ?_)
  obtain ⟨e227, h⟩ := hq7
  subst e227
  refine V.aload_n (pc := 8) hG dX1_turn_8 rfl 1 rfl ?_
  refine V.callVNi (pc := 9) (As := []) (stk := []) hG (sm_X6_bodyTurns l Δ  hi5 hw h) mY_X6_bodyTurns kw_1042 kw_1044 kw_73 a_3 (by decide) (q := (RX6, TX6, 9)) rfl rfl ⟨Nat.le_of_ble_eq_true rfl, Nat.le_of_ble_eq_true rfl, Nat.le_of_ble_eq_true rfl, Nat.le_of_ble_eq_true rfl⟩ rfl (Nat.le_of_ble_eq_true rfl) dX1_turn_9 rfl (fun v8 i9 r10 hv11 hi12 hw13 hq14 => ?_)
  obtain ⟨e224, e225, h⟩ := hq14
  subst e224
  subst e225
  refine V.istore (pc := 12) (lv' := [(4, .int (sJ v8)), (0, .ref (sA Δ 480)), (1, .ref (sA Δ 3)), (2, .ref (sA Δ 67)), (3, .ref (sA Δ 469))]) hG dX1_turn_12 (by decide) rfl ?_
  refine V.aload_n (pc := 14) hG dX1_turn_14 rfl 4 rfl ?_
  refine V.aload_n (pc := 15) hG dX1_turn_15 rfl 3 rfl ?_
  refine V.iload (pc := 16) hG dX1_turn_16 0 rfl ?_
  refine V.callVNi (pc := 18) (As := [.ref (sA Δ 67), .int (sJ v8)]) (stk := []) hG (sm_X4_countCycles l Δ hv11 hi5 hw h) mY_X4_countCycles kw_1046 kw_1048 kw_74 a_469 (by decide) (q := (RX4, TX4, 6)) rfl rfl ⟨Nat.le_of_ble_eq_true rfl, Nat.le_of_ble_eq_true rfl, Nat.le_of_ble_eq_true rfl, Nat.le_of_ble_eq_true rfl⟩ rfl (Nat.le_of_ble_eq_true rfl) dX1_turn_18 rfl (fun v15 i16 r17 hv18 hi19 hw20 hq21 => ?_)
  obtain ⟨e222, e223, h⟩ := hq21
  subst e222
  subst e223
  refine V.istore (pc := 21) (lv' := [(5, .int (sJ v15)), (4, .int (sJ v8)), (0, .ref (sA Δ 480)), (1, .ref (sA Δ 3)), (2, .ref (sA Δ 67)), (3, .ref (sA Δ 469))]) hG dX1_turn_21 (by decide) rfl ?_
  refine V.iconst (pc := 23) hG dX1_turn_23 ?_
  refine V.istore (pc := 24) (lv' := [(6, .int (sJ 0)), (5, .int (sJ v15)), (4, .int (sJ v8)), (0, .ref (sA Δ 480)), (1, .ref (sA Δ 3)), (2, .ref (sA Δ 67)), (3, .ref (sA Δ 469))]) hG dX1_turn_24 (by decide) rfl ?_
  obtain ⟨n161, h⟩ := h
  have lp26 : ∀ (m26 : Nat) (x6_26 : Int) (i_26 : MI), sR x6_26 → okI i_26 → LoopP (b26_X1_turn v8 v15 r Q) m26 (x6_26, i_26) → V Γ Δ 542 false i_26 r 0 0 Q0 26 [(0, .ref (sA Δ 480)), (1, .ref (sA Δ 3)), (2, .ref (sA Δ 67)), (3, .ref (sA Δ 469)), (4, .int (sJ v8)), (5, .int (sJ v15)), (6, .int (sJ x6_26))] [] := by
    intro m26
    induction m26 with
    | zero => intro x6_26 i_26 hx6_26 hi_26 h; exact h.elim
    | succ m26 ih26 =>
      intro x6_26 i_26 hx6_26 hi_26 h
      have h := LoopP_succ h
      refine V.iload (pc := 26) hG dX1_turn_26 6 rfl ?_
      refine V.iload (pc := 28) hG dX1_turn_28 5 rfl ?_
      obtain ⟨t163, f164⟩ := h
      refine V.icmp_gt (pc := 30) (tgt := 156) hG hx6_26 hv18 dX1_turn_30 (by decide) (fun c162 => ?_) (fun c162 => ?_)
      · have h := t163 c162
        clear t163 f164
        exact fin dX1_turn_156 hi_26 hw ⟨rfl, h⟩
      · have h := f164 c162
        clear t163 f164
        refine V.iconst (pc := 33) hG dX1_turn_33 ?_
        refine V.istore (pc := 34) (lv' := [(7, .int (sJ 0)), (0, .ref (sA Δ 480)), (1, .ref (sA Δ 3)), (2, .ref (sA Δ 67)), (3, .ref (sA Δ 469)), (4, .int (sJ v8)), (5, .int (sJ v15)), (6, .int (sJ x6_26))]) hG dX1_turn_34 (by decide) rfl ?_
        obtain ⟨n165, h⟩ := h
        have lp36 : ∀ (m36 : Nat) (x7_36 : Int) (i_36 : MI), sR x7_36 → okI i_36 → LoopP (b36_X1_turn v8 v15 x6_26 r Q (LoopP (b26_X1_turn v8 v15 r Q) m26)) m36 (x7_36, i_36) → V Γ Δ 542 false i_36 r 0 0 Q0 36 [(0, .ref (sA Δ 480)), (1, .ref (sA Δ 3)), (2, .ref (sA Δ 67)), (3, .ref (sA Δ 469)), (4, .int (sJ v8)), (5, .int (sJ v15)), (6, .int (sJ x6_26)), (7, .int (sJ x7_36))] [] := by
          intro m36
          induction m36 with
          | zero => intro x7_36 i_36 hx7_36 hi_36 h; exact h.elim
          | succ m36 ih36 =>
            intro x7_36 i_36 hx7_36 hi_36 h
            have h := LoopP_succ h
            refine V.iload (pc := 36) hG dX1_turn_36 7 rfl ?_
            refine V.aload_n (pc := 38) hG dX1_turn_38 rfl 2 rfl ?_
            refine V.getIN (pc := 39) (ci := 2) (k := 4) (M := 5) (T := TX0) (o := 67) (kz := 4) hG a_67 a_67.n (by decide) hin_X0 rfl (by decide) (by decide) rfl kw_417 rfl dX1_turn_39 ?_
            obtain ⟨t167, f168⟩ := h
            refine V.icmp_ge (pc := 42) (tgt := 95) hG hx7_36 ((hi_36 _ _)) dX1_turn_42 (by decide) (fun c166 => ?_) (fun c166 => ?_)
            · have h := t167 c166
              clear t167 f168
              refine V.iconst (pc := 95) hG dX1_turn_95 ?_
              refine V.istore (pc := 96) (lv' := [(7, .int (sJ 0)), (0, .ref (sA Δ 480)), (1, .ref (sA Δ 3)), (2, .ref (sA Δ 67)), (3, .ref (sA Δ 469)), (4, .int (sJ v8)), (5, .int (sJ v15)), (6, .int (sJ x6_26))]) hG dX1_turn_96 (by decide) rfl ?_
              obtain ⟨n169, h⟩ := h
              have lp98 : ∀ (m98 : Nat) (x7_98 : Int) (i_98 : MI), sR x7_98 → okI i_98 → LoopP (b98_X1_turn v8 v15 x6_26 r Q (LoopP (b26_X1_turn v8 v15 r Q) m26)) m98 (x7_98, i_98) → V Γ Δ 542 false i_98 r 0 0 Q0 98 [(0, .ref (sA Δ 480)), (1, .ref (sA Δ 3)), (2, .ref (sA Δ 67)), (3, .ref (sA Δ 469)), (4, .int (sJ v8)), (5, .int (sJ v15)), (6, .int (sJ x6_26)), (7, .int (sJ x7_98))] [] := by
                intro m98
                induction m98 with
                | zero => intro x7_98 i_98 hx7_98 hi_98 h; exact h.elim
                | succ m98 ih98 =>
                  intro x7_98 i_98 hx7_98 hi_98 h
                  have h := LoopP_succ h
                  refine V.iload (pc := 98) hG dX1_turn_98 7 rfl ?_
                  refine V.aload_n (pc := 100) hG dX1_turn_100 rfl 2 rfl ?_
                  refine V.getIN (pc := 101) (ci := 2) (k := 4) (M := 5) (T := TX0) (o := 67) (kz := 4) hG a_67 a_67.n (by decide) hin_X0 rfl (by decide) (by decide) rfl kw_417 rfl dX1_turn_101 ?_
                  obtain ⟨t171, f172⟩ := h
                  refine V.icmp_ge (pc := 104) (tgt := 150) hG hx7_98 ((hi_98 _ _)) dX1_turn_104 (by decide) (fun c170 => ?_) (fun c170 => ?_)
                  · have h := t171 c170
                    clear t171 f172
                    refine V.iinc (pc := 150) (lv' := [(6, .int (sJ (wr (x6_26 + 1)))), (0, .ref (sA Δ 480)), (1, .ref (sA Δ 3)), (2, .ref (sA Δ 67)), (3, .ref (sA Δ 469)), (4, .int (sJ v8)), (5, .int (sJ v15)), (7, .int (sJ x7_98))]) hG dX1_turn_150 6 rfl (by decide) rfl ?_
                    refine V.goto (pc := 153) (tgt := 26) hG dX1_turn_153 (by decide) ?_
                    refine V.pick [1, 2, 3, 4, 5, 6, 0] rfl ?_
                    exact ih26 (wr (x6_26 + 1)) i_98 ((sR_wr _)) hi_98 h
                  · have h := f172 c170
                    clear t171 f172
                    refine V.iload (pc := 107) hG dX1_turn_107 6 rfl ?_
                    refine V.aload_n (pc := 109) hG dX1_turn_109 rfl 3 rfl ?_
                    refine V.getRN (x := 470) (pc := 110) (ci := 6) (k := 0) (M := 6) (T := TX4) (o := 469) (kz := 0) hG a_469 a_469.n (by decide) hin_X4 rfl (by decide) (by decide) rfl kw_505 rfl ((hw).1 (469, 0, 470) (by decide)) (by decide) dX1_turn_110 ?_
                    refine V.iload (pc := 113) hG dX1_turn_113 7 rfl ?_
                    obtain ⟨g173, h⟩ := h
                    refine V.iald (pc := 115) (z := 96) (o := 470) hG a_470 a_470.n hx7_98 g173 dX1_turn_115 ?_
                    refine V.isub (pc := 116) hG dX1_turn_116 ?_
                    refine V.istore (pc := 117) (lv' := [(8, .int (sJ (wr (x6_26 - i_98 470 x7_98)))), (0, .ref (sA Δ 480)), (1, .ref (sA Δ 3)), (2, .ref (sA Δ 67)), (3, .ref (sA Δ 469)), (4, .int (sJ v8)), (5, .int (sJ v15)), (6, .int (sJ x6_26)), (7, .int (sJ x7_98))]) hG dX1_turn_117 (by decide) rfl ?_
                    refine V.aload_n (pc := 119) hG dX1_turn_119 rfl 1 rfl ?_
                    refine V.aload_n (pc := 120) hG dX1_turn_120 rfl 2 rfl ?_
                    refine V.aload_n (pc := 121) hG dX1_turn_121 rfl 3 rfl ?_
                    refine V.getRN (x := 68) (pc := 122) (ci := 2) (k := 0) (M := 5) (T := TX0) (o := 67) (kz := 0) hG a_67 a_67.n (by decide) hin_X0 rfl (by decide) (by decide) rfl kw_403 rfl ((hw).1 (67, 0, 68) (by decide)) (by decide) dX1_turn_122 ?_
                    refine V.iload (pc := 125) hG dX1_turn_125 8 rfl ?_
                    obtain ⟨g174, h⟩ := h
                    refine V.aald (pc := 127) 6 (z := 96) (o := 68) (x := x7_98) (y := 72 + x7_98) hG a_68 a_68.n (by decide) hx7_98 g174 (hw.2.1 (68, 96, 72) (by decide) _ g174.1 g174.2) (by omega) dX1_turn_127 ?_
                    refine V.iload (pc := 128) hG dX1_turn_128 8 rfl ?_
                    refine V.iload (pc := 130) hG dX1_turn_130 0 rfl ?_
                    refine V.aload_n (pc := 132) hG dX1_turn_132 rfl 4 rfl ?_
                    refine V.getIN (pc := 133) (ci := 6) (k := 5) (M := 6) (T := TX4) (o := 469) (kz := 5) hG a_469 a_469.n (by decide) hin_X4 rfl (by decide) (by decide) rfl kw_514 rfl dX1_turn_133 ?_
                    refine V.iload (pc := 136) hG dX1_turn_136 5 rfl ?_
                    refine V.callSi (pc := 138) (As := [.int (sJ (wr (x6_26 - i_98 470 x7_98))), .int (sJ (i_98 469 5)), .int (sJ v8)]) (stk := [.int (sJ x7_98), .ref (sA Δ (72 + x7_98)), .ref (sA Δ 3), .ref (sA Δ 480)]) hG (sm_X1_turnAfter l Δ ((sR_wr _)) ((hi_98 _ _)) hv11 hi_98 hw h) mY_X1_turnAfter kw_1052 kw_1053 rfl ⟨Nat.le_of_ble_eq_true rfl, Nat.le_of_ble_eq_true rfl, Nat.le_of_ble_eq_true rfl, Nat.le_of_ble_eq_true rfl⟩ rfl (Nat.le_of_ble_eq_true rfl) dX1_turn_138 rfl (fun v175 i176 r177 hv178 hi179 hw180 hq181 => ?_)
                    obtain ⟨e191, e192, h⟩ := hq181
                    subst e191
                    subst e192
                    refine V.callVv (pc := 141) (As := [.ref (sA Δ 3), .ref (sA Δ (72 + x7_98)), .int (sJ x7_98), .int (sJ v175)]) (stk := []) hG (sm_X1_begin l Δ ((node_o g174.1 g174.2)) hx7_98 hv178 hi_98 hw h) mY_X1_begin kw_1064 kw_1066 kw_77 a_480 (by decide) (q := (RX1, TX1, 2)) rfl rfl ⟨Nat.le_of_ble_eq_true rfl, Nat.le_of_ble_eq_true rfl, Nat.le_of_ble_eq_true rfl, Nat.le_of_ble_eq_true rfl⟩ rfl (Nat.le_of_ble_eq_true rfl) dX1_turn_141 rfl (fun i183 r184 hi186 hw187 hq188 => ?_)
                    obtain ⟨e190, h⟩ := hq188
                    subst e190
                    refine V.iinc (pc := 144) (lv' := [(7, .int (sJ (wr (x7_98 + 1)))), (8, .int (sJ (wr (x6_26 - i_98 470 x7_98)))), (0, .ref (sA Δ 480)), (1, .ref (sA Δ 3)), (2, .ref (sA Δ 67)), (3, .ref (sA Δ 469)), (4, .int (sJ v8)), (5, .int (sJ v15)), (6, .int (sJ x6_26))]) hG dX1_turn_144 8 rfl (by decide) rfl ?_
                    refine V.goto (pc := 147) (tgt := 98) hG dX1_turn_147 (by decide) ?_
                    refine V.pick [2, 3, 4, 5, 6, 7, 8, 0] rfl ?_
                    exact ih98 (wr (x7_98 + 1)) i183 ((sR_wr _)) hi186 h
              refine V.pick [1, 2, 3, 4, 5, 6, 7, 0] rfl ?_
              exact lp98 n169 0 i_36 ((sR_l rfl)) hi_36 h
            · have h := f168 c166
              clear t167 f168
              refine V.iload (pc := 45) hG dX1_turn_45 6 rfl ?_
              refine V.aload_n (pc := 47) hG dX1_turn_47 rfl 3 rfl ?_
              refine V.getRN (x := 470) (pc := 48) (ci := 6) (k := 0) (M := 6) (T := TX4) (o := 469) (kz := 0) hG a_469 a_469.n (by decide) hin_X4 rfl (by decide) (by decide) rfl kw_505 rfl ((hw).1 (469, 0, 470) (by decide)) (by decide) dX1_turn_48 ?_
              refine V.iload (pc := 51) hG dX1_turn_51 7 rfl ?_
              obtain ⟨g193, h⟩ := h
              refine V.iald (pc := 53) (z := 96) (o := 470) hG a_470 a_470.n hx7_36 g193 dX1_turn_53 ?_
              refine V.isub (pc := 54) hG dX1_turn_54 ?_
              refine V.aload_n (pc := 55) hG dX1_turn_55 rfl 2 rfl ?_
              refine V.iload (pc := 56) hG dX1_turn_56 7 rfl ?_
              refine V.callVNi (pc := 58) (As := [.int (sJ x7_36)]) (stk := [.int (sJ (wr (x6_26 - i_36 470 x7_36)))]) hG (sm_X0_cyclesOf l Δ hx7_36 hi_36 hw h) mY_X0_cyclesOf kw_1051 kw_895 kw_41 a_67 (by decide) (q := (RX0, TX0, 5)) rfl rfl ⟨Nat.le_of_ble_eq_true rfl, Nat.le_of_ble_eq_true rfl, Nat.le_of_ble_eq_true rfl, Nat.le_of_ble_eq_true rfl⟩ rfl (Nat.le_of_ble_eq_true rfl) dX1_turn_58 rfl (fun v194 i195 r196 hv197 hi198 hw199 hq200 => ?_)
              obtain ⟨e220, e221, h⟩ := hq200
              subst e220
              subst e221
              refine V.isub (pc := 61) hG dX1_turn_61 ?_
              refine V.istore (pc := 62) (lv' := [(8, .int (sJ (wr (wr (x6_26 - i_36 470 x7_36) - v194)))), (0, .ref (sA Δ 480)), (1, .ref (sA Δ 3)), (2, .ref (sA Δ 67)), (3, .ref (sA Δ 469)), (4, .int (sJ v8)), (5, .int (sJ v15)), (6, .int (sJ x6_26)), (7, .int (sJ x7_36))]) hG dX1_turn_62 (by decide) rfl ?_
              refine V.aload_n (pc := 64) hG dX1_turn_64 rfl 1 rfl ?_
              refine V.aload_n (pc := 65) hG dX1_turn_65 rfl 2 rfl ?_
              refine V.aload_n (pc := 66) hG dX1_turn_66 rfl 3 rfl ?_
              refine V.getRN (x := 68) (pc := 67) (ci := 2) (k := 0) (M := 5) (T := TX0) (o := 67) (kz := 0) hG a_67 a_67.n (by decide) hin_X0 rfl (by decide) (by decide) rfl kw_403 rfl ((hw).1 (67, 0, 68) (by decide)) (by decide) dX1_turn_67 ?_
              refine V.iload (pc := 70) hG dX1_turn_70 8 rfl ?_
              obtain ⟨g201, h⟩ := h
              refine V.aald (pc := 72) 6 (z := 96) (o := 68) (x := x7_36) (y := 72 + x7_36) hG a_68 a_68.n (by decide) hx7_36 g201 (hw.2.1 (68, 96, 72) (by decide) _ g201.1 g201.2) (by omega) dX1_turn_72 ?_
              refine V.iload (pc := 73) hG dX1_turn_73 8 rfl ?_
              refine V.iload (pc := 75) hG dX1_turn_75 0 rfl ?_
              refine V.aload_n (pc := 77) hG dX1_turn_77 rfl 4 rfl ?_
              refine V.getIN (pc := 78) (ci := 6) (k := 5) (M := 6) (T := TX4) (o := 469) (kz := 5) hG a_469 a_469.n (by decide) hin_X4 rfl (by decide) (by decide) rfl kw_514 rfl dX1_turn_78 ?_
              refine V.iload (pc := 81) hG dX1_turn_81 5 rfl ?_
              refine V.callSi (pc := 83) (As := [.int (sJ (wr (wr (x6_26 - i_36 470 x7_36) - v194))), .int (sJ (i_36 469 5)), .int (sJ v8)]) (stk := [.int (sJ x7_36), .ref (sA Δ (72 + x7_36)), .ref (sA Δ 3), .ref (sA Δ 480)]) hG (sm_X1_turnAfter l Δ ((sR_wr _)) ((hi_36 _ _)) hv11 hi_36 hw h) mY_X1_turnAfter kw_1052 kw_1053 rfl ⟨Nat.le_of_ble_eq_true rfl, Nat.le_of_ble_eq_true rfl, Nat.le_of_ble_eq_true rfl, Nat.le_of_ble_eq_true rfl⟩ rfl (Nat.le_of_ble_eq_true rfl) dX1_turn_83 rfl (fun v202 i203 r204 hv205 hi206 hw207 hq208 => ?_)
              obtain ⟨e218, e219, h⟩ := hq208
              subst e218
              subst e219
              refine V.callVv (pc := 86) (As := [.ref (sA Δ 3), .ref (sA Δ (72 + x7_36)), .int (sJ x7_36), .int (sJ v202)]) (stk := []) hG (sm_X1_finish l Δ ((node_o g201.1 g201.2)) hx7_36 hv205 hi_36 hw h) mY_X1_finish kw_1055 kw_1057 kw_75 a_480 (by decide) (q := (RX1, TX1, 2)) rfl rfl ⟨Nat.le_of_ble_eq_true rfl, Nat.le_of_ble_eq_true rfl, Nat.le_of_ble_eq_true rfl, Nat.le_of_ble_eq_true rfl⟩ rfl (Nat.le_of_ble_eq_true rfl) dX1_turn_86 rfl (fun i210 r211 hi213 hw214 hq215 => ?_)
              obtain ⟨e217, h⟩ := hq215
              subst e217
              refine V.iinc (pc := 89) (lv' := [(7, .int (sJ (wr (x7_36 + 1)))), (8, .int (sJ (wr (wr (x6_26 - i_36 470 x7_36) - v194)))), (0, .ref (sA Δ 480)), (1, .ref (sA Δ 3)), (2, .ref (sA Δ 67)), (3, .ref (sA Δ 469)), (4, .int (sJ v8)), (5, .int (sJ v15)), (6, .int (sJ x6_26))]) hG dX1_turn_89 8 rfl (by decide) rfl ?_
              refine V.goto (pc := 92) (tgt := 36) hG dX1_turn_92 (by decide) ?_
              refine V.pick [2, 3, 4, 5, 6, 7, 8, 0] rfl ?_
              exact ih36 (wr (x7_36 + 1)) i210 ((sR_wr _)) hi213 h
        refine V.pick [1, 2, 3, 4, 5, 6, 7, 0] rfl ?_
        exact lp36 n165 0 i_26 ((sR_l rfl)) hi_26 h
  refine V.pick [3, 4, 5, 6, 2, 1, 0] rfl ?_
  exact lp26 n161 0 i2 ((sR_l rfl)) hi5 h
set_option maxRecDepth 100000 in
set_option maxHeartbeats 4000000 in
theorem sm_X2_find (l : Launch) (Δ : Wd) {i r : MI} {p1 : Int} {p2 : Int} {p3 : Int} (hp1 : sR p1) (hp2 : sR p2) (hp3 : sR p3) {Q : Int → Prop} (hi : okI i) (hw : Wf r) (h : wp_X2_find p1 p2 p3 i r Q) : Met l yX2_find (Cond.code yX2_find cX2_find 5 (some .int) :: gW) (sRm 0 0) (sPc Δ [.ref (sA Δ 168), .int (sJ p1), .int (sJ p2), .int (sJ p3)] i r) (sQi Δ (fun x i' r' => i = i' ∧ r = r' ∧ Q x)) 0 0 (sFr Δ) := by
  refine Ct.i (ty := .int) (by decide) rfl (Nat.le_of_ble_eq_true rfl) (fun Γ Q0 hG fin => ?_)
  have hG : okG Γ Δ l (sRm 0 0) cX2_find "Schedulary$Graph" 5 := hG
  show V Γ Δ 542 false i r 0 0 Q0 0 [(0, .ref (sA Δ 168)), (1, .int (sJ p1)), (2, .int (sJ p2)), (3, .int (sJ p3))] []
  refine V.iconst (pc := 0) hG dX2_find_0 ?_
  refine V.istore (pc := 1) (lv' := [(4, .int (sJ 0)), (0, .ref (sA Δ 168)), (1, .int (sJ p1)), (2, .int (sJ p2)), (3, .int (sJ p3))]) hG dX2_find_1 (by decide) rfl ?_
  obtain ⟨n15, h⟩ := h
  have lp3 : ∀ (m3 : Nat) (x4_3 : Int), sR x4_3 → LoopP (b3_X2_find p1 p2 p3 i r Q) m3 (x4_3) → V Γ Δ 542 false i r 0 0 Q0 3 [(0, .ref (sA Δ 168)), (1, .int (sJ p1)), (2, .int (sJ p2)), (3, .int (sJ p3)), (4, .int (sJ x4_3))] [] := by
    intro m3
    induction m3 with
    | zero => intro x4_3 hx4_3 h; exact h.elim
    | succ m3 ih3 =>
      intro x4_3 hx4_3 h
      have h := LoopP_succ h
      have jn43 : ∀ (x4j43 : Int), sR x4j43 → s43_X2_find p1 p2 p3 x4j43 i r Q (LoopP (b3_X2_find p1 p2 p3 i r Q) m3) → V Γ Δ 542 false i r 0 0 Q0 43 [(0, .ref (sA Δ 168)), (1, .int (sJ p1)), (2, .int (sJ p2)), (3, .int (sJ p3)), (4, .int (sJ x4j43))] [] := by
        intro x4j43 hx4j43 h
        refine V.iinc (pc := 43) (lv' := [(4, .int (sJ (wr (x4j43 + 1)))), (0, .ref (sA Δ 168)), (1, .int (sJ p1)), (2, .int (sJ p2)), (3, .int (sJ p3))]) hG dX2_find_43 4 rfl (by decide) rfl ?_
        refine V.goto (pc := 46) (tgt := 3) hG dX2_find_46 (by decide) ?_
        refine V.pick [1, 2, 3, 4, 0] rfl ?_
        exact ih3 (wr (x4j43 + 1)) ((sR_wr _)) h
      refine V.iload (pc := 3) hG dX2_find_3 4 rfl ?_
      refine V.aload_n (pc := 5) hG dX2_find_5 rfl 0 rfl ?_
      refine V.getR (x := 460) (pc := 6) (ci := 4) (k := 3) (M := 5) (T := TX2) (o := 168) (kz := 3) hG a_168 a_168.n (by decide) hin_X2 rfl (by decide) (by decide) rfl kw_450 rfl ((hw).1 (168, 3, 460) (by decide)) (by decide) dX2_find_6 ?_
      refine V.iload_n (pc := 9) hG dX2_find_9 rfl 1 rfl ?_
      obtain ⟨g16, h⟩ := h
      refine V.iald (pc := 10) (z := 96) (o := 460) hG a_460 a_460.n hp1 g16 dX2_find_10 ?_
      obtain ⟨t18, f19⟩ := h
      refine V.icmp_ge (pc := 11) (tgt := 49) hG hx4_3 ((hi _ _)) dX2_find_11 (by decide) (fun c17 => ?_) (fun c17 => ?_)
      · have h := t18 c17
        clear t18 f19
        refine V.iconst (pc := 49) hG dX2_find_49 ?_
        exact fin dX2_find_50 ((sR_l rfl)) rfl hi hw ⟨rfl, rfl, h⟩
      · have h := f19 c17
        clear t18 f19
        refine V.aload_n (pc := 14) hG dX2_find_14 rfl 0 rfl ?_
        refine V.getR (x := 169) (pc := 15) (ci := 4) (k := 0) (M := 5) (T := TX2) (o := 168) (kz := 0) hG a_168 a_168.n (by decide) hin_X2 rfl (by decide) (by decide) rfl kw_440 rfl ((hw).1 (168, 0, 169) (by decide)) (by decide) dX2_find_15 ?_
        refine V.iload_n (pc := 18) hG dX2_find_18 rfl 1 rfl ?_
        obtain ⟨g20, h⟩ := h
        refine V.aald (pc := 19) 7 (z := 96) (o := 169) (x := p1) (y := 170 + p1) hG a_169 a_169.n (by decide) hp1 g20 (hw.2.1 (169, 96, 170) (by decide) _ g20.1 g20.2) (by omega) dX2_find_19 ?_
        refine V.iload (pc := 20) hG dX2_find_20 4 rfl ?_
        obtain ⟨g21, h⟩ := h
        refine V.iald (pc := 22) (z := 100) (o := 170 + p1) hG (row_169 g20) ((row_169 g20)).n hx4_3 g21 dX2_find_22 ?_
        refine V.iload_n (pc := 23) hG dX2_find_23 rfl 2 rfl ?_
        obtain ⟨f24, t23⟩ := h
        refine V.icmp_ne (pc := 24) (tgt := 43) hG ((hi _ _)) hp2 dX2_find_24 (by decide) (fun c22 => ?_) (fun c22 => ?_)
        · have h := t23 c22
          clear t23 f24
          exact jn43 x4_3 hx4_3 h
        · have h := f24 c22
          clear t23 f24
          refine V.aload_n (pc := 27) hG dX2_find_27 rfl 0 rfl ?_
          refine V.getR (x := 266) (pc := 28) (ci := 4) (k := 1) (M := 5) (T := TX2) (o := 168) (kz := 1) hG a_168 a_168.n (by decide) hin_X2 rfl (by decide) (by decide) rfl kw_443 rfl ((hw).1 (168, 1, 266) (by decide)) (by decide) dX2_find_28 ?_
          refine V.iload_n (pc := 31) hG dX2_find_31 rfl 1 rfl ?_
          obtain ⟨g25, h⟩ := h
          refine V.aald (pc := 32) 7 (z := 96) (o := 266) (x := p1) (y := 267 + p1) hG a_266 a_266.n (by decide) hp1 g25 (hw.2.1 (266, 96, 267) (by decide) _ g25.1 g25.2) (by omega) dX2_find_32 ?_
          refine V.iload (pc := 33) hG dX2_find_33 4 rfl ?_
          obtain ⟨g26, h⟩ := h
          refine V.iald (pc := 35) (z := 100) (o := 267 + p1) hG (row_266 g25) ((row_266 g25)).n hx4_3 g26 dX2_find_35 ?_
          refine V.iload_n (pc := 36) hG dX2_find_36 rfl 3 rfl ?_
          obtain ⟨f29, t28⟩ := h
          refine V.icmp_ne (pc := 37) (tgt := 43) hG ((hi _ _)) hp3 dX2_find_37 (by decide) (fun c27 => ?_) (fun c27 => ?_)
          · have h := t28 c27
            clear t28 f29
            exact jn43 x4_3 hx4_3 h
          · have h := f29 c27
            clear t28 f29
            refine V.iload (pc := 40) hG dX2_find_40 4 rfl ?_
            exact fin dX2_find_42 hx4_3 rfl hi hw ⟨rfl, rfl, h⟩
  refine V.pick [1, 2, 3, 4, 0] rfl ?_
  exact lp3 n15 0 ((sR_l rfl)) h
set_option maxRecDepth 100000 in
set_option maxHeartbeats 4000000 in
theorem sm_X2_put (l : Launch) (Δ : Wd) {i r : MI} {p1 : Int} {p2 : Int} {p3 : Int} {p4 : Int} (hp1 : sR p1) (hp2 : sR p2) (hp3 : sR p3) (hp4 : sR p4) {Q : MI → Prop} (hi : okI i) (hw : Wf r) (h : wp_X2_put p1 p2 p3 p4 i r Q) : Met l yX2_put (Cond.code yX2_put cX2_put 6 none :: gW) (sRm 1 24) (sPc Δ [.ref (sA Δ 168), .int (sJ p1), .int (sJ p2), .int (sJ p3), .int (sJ p4)] i r) (sQv Δ (fun i' r' => r = r' ∧ Q i')) 0 0 (sFr Δ) := by
  refine Ct.v (by decide) rfl (Nat.le_of_ble_eq_true rfl) (fun Γ Q0 hG fin => ?_)
  have hG : okG Γ Δ l (sRm 1 24) cX2_put "Schedulary$Graph" 6 := hG
  show V Γ Δ 542 false i r 0 0 Q0 0 [(0, .ref (sA Δ 168)), (1, .int (sJ p1)), (2, .int (sJ p2)), (3, .int (sJ p3)), (4, .int (sJ p4))] []
  have jn111 : ∀  (ij111 : MI), okI ij111 → s111_X2_put ij111 r Q → V Γ Δ 542 false ij111 r 0 0 Q0 111 [] [] := by
    intro ij111 hij111 h
    exact fin dX2_put_111 hij111 hw ⟨rfl, h⟩
  refine V.aload_n (pc := 0) hG dX2_put_0 rfl 0 rfl ?_
  refine V.iload_n (pc := 1) hG dX2_put_1 rfl 1 rfl ?_
  refine V.iload_n (pc := 2) hG dX2_put_2 rfl 2 rfl ?_
  refine V.iload_n (pc := 3) hG dX2_put_3 rfl 3 rfl ?_
  refine V.callVi (pc := 4) (As := [.int (sJ p1), .int (sJ p2), .int (sJ p3)]) (stk := []) hG (sm_X2_find l Δ hp1 hp2 hp3 hi hw h) mY_X2_find kw_901 kw_903 kw_43 a_168 (by decide) (q := (RX2, TX2, 5)) rfl rfl ⟨Nat.le_of_ble_eq_true rfl, Nat.le_of_ble_eq_true rfl, Nat.le_of_ble_eq_true rfl, Nat.le_of_ble_eq_true rfl⟩ rfl (Nat.le_of_ble_eq_true rfl) dX2_put_4 rfl (fun v1 i2 r3 hv4 hi5 hw6 hq7 => ?_)
  obtain ⟨e27, e28, h⟩ := hq7
  subst e27
  subst e28
  refine V.istore (pc := 7) (lv' := [(5, .int (sJ v1)), (0, .ref (sA Δ 168)), (1, .int (sJ p1)), (2, .int (sJ p2)), (3, .int (sJ p3)), (4, .int (sJ p4))]) hG dX2_put_7 (by decide) rfl ?_
  refine V.iload (pc := 9) hG dX2_put_9 0 rfl ?_
  refine V.iconst (pc := 11) hG dX2_put_11 ?_
  obtain ⟨t9, f10⟩ := h
  refine V.icmp_eq (pc := 12) (tgt := 41) hG hv4 ((sR_l rfl)) dX2_put_12 (by decide) (fun c8 => ?_) (fun c8 => ?_)
  · have h := t9 c8
    clear t9 f10
    refine V.aload_n (pc := 41) hG dX2_put_41 rfl 1 rfl ?_
    refine V.getR (x := 460) (pc := 42) (ci := 4) (k := 3) (M := 5) (T := TX2) (o := 168) (kz := 3) hG a_168 a_168.n (by decide) hin_X2 rfl (by decide) (by decide) rfl kw_450 rfl ((hw).1 (168, 3, 460) (by decide)) (by decide) dX2_put_42 ?_
    refine V.iload_n (pc := 45) hG dX2_put_45 rfl 2 rfl ?_
    obtain ⟨g11, h⟩ := h
    refine V.iald (pc := 46) (z := 96) (o := 460) hG a_460 a_460.n hp1 g11 dX2_put_46 ?_
    refine V.bipush (pc := 47) hG dX2_put_47 (by decide) ?_
    obtain ⟨t13, f14⟩ := h
    refine V.icmp_ge (pc := 49) (tgt := 111) hG ((hi _ _)) ((sR_l rfl)) dX2_put_49 (by decide) (fun c12 => ?_) (fun c12 => ?_)
    · have h := t13 c12
      clear t13 f14
      refine V.pick [] rfl ?_
      exact jn111 i hi h
    · have h := f14 c12
      clear t13 f14
      refine V.aload_n (pc := 52) hG dX2_put_52 rfl 1 rfl ?_
      refine V.getR (x := 460) (pc := 53) (ci := 4) (k := 3) (M := 5) (T := TX2) (o := 168) (kz := 3) hG a_168 a_168.n (by decide) hin_X2 rfl (by decide) (by decide) rfl kw_450 rfl ((hw).1 (168, 3, 460) (by decide)) (by decide) dX2_put_53 ?_
      refine V.iload_n (pc := 56) hG dX2_put_56 rfl 2 rfl ?_
      obtain ⟨g15, h⟩ := h
      refine V.iald (pc := 57) (z := 96) (o := 460) hG a_460 a_460.n hp1 g15 dX2_put_57 ?_
      refine V.istore (pc := 58) (lv' := [(5, .int (sJ (i 460 p1))), (0, .ref (sA Δ 168)), (1, .int (sJ p1)), (2, .int (sJ p2)), (3, .int (sJ p3)), (4, .int (sJ p4))]) hG dX2_put_58 (by decide) rfl ?_
      refine V.aload_n (pc := 60) hG dX2_put_60 rfl 1 rfl ?_
      refine V.getR (x := 169) (pc := 61) (ci := 4) (k := 0) (M := 5) (T := TX2) (o := 168) (kz := 0) hG a_168 a_168.n (by decide) hin_X2 rfl (by decide) (by decide) rfl kw_440 rfl ((hw).1 (168, 0, 169) (by decide)) (by decide) dX2_put_61 ?_
      refine V.iload_n (pc := 64) hG dX2_put_64 rfl 2 rfl ?_
      obtain ⟨g16, h⟩ := h
      refine V.aald (pc := 65) 7 (z := 96) (o := 169) (x := p1) (y := 170 + p1) hG a_169 a_169.n (by decide) hp1 g16 (hw.2.1 (169, 96, 170) (by decide) _ g16.1 g16.2) (by omega) dX2_put_65 ?_
      refine V.iload (pc := 66) hG dX2_put_66 0 rfl ?_
      refine V.iload_n (pc := 68) hG dX2_put_68 rfl 3 rfl ?_
      obtain ⟨g17, h⟩ := h
      refine V.iast (pc := 69) (z := 100) (o := 170 + p1) hG (row_169 g16) ((row_169 g16)).n ((hi _ _)) g17 dX2_put_69 ?_
      refine V.aload_n (pc := 70) hG dX2_put_70 rfl 1 rfl ?_
      refine V.getR (x := 266) (pc := 71) (ci := 4) (k := 1) (M := 5) (T := TX2) (o := 168) (kz := 1) hG a_168 a_168.n (by decide) hin_X2 rfl (by decide) (by decide) rfl kw_443 rfl ((hw).1 (168, 1, 266) (by decide)) (by decide) dX2_put_71 ?_
      refine V.iload_n (pc := 74) hG dX2_put_74 rfl 2 rfl ?_
      obtain ⟨g18, h⟩ := h
      refine V.aald (pc := 75) 7 (z := 96) (o := 266) (x := p1) (y := 267 + p1) hG a_266 a_266.n (by decide) hp1 g18 (hw.2.1 (266, 96, 267) (by decide) _ g18.1 g18.2) (by omega) dX2_put_75 ?_
      refine V.iload (pc := 76) hG dX2_put_76 0 rfl ?_
      refine V.iload_n (pc := 78) hG dX2_put_78 rfl 4 rfl ?_
      obtain ⟨g19, h⟩ := h
      refine V.iast (pc := 79) (z := 100) (o := 267 + p1) hG (row_266 g18) ((row_266 g18)).n ((hi _ _)) g19 dX2_put_79 ?_
      refine V.aload_n (pc := 80) hG dX2_put_80 rfl 1 rfl ?_
      refine V.getR (x := 363) (pc := 81) (ci := 4) (k := 2) (M := 5) (T := TX2) (o := 168) (kz := 2) hG a_168 a_168.n (by decide) hin_X2 rfl (by decide) (by decide) rfl kw_446 rfl ((hw).1 (168, 2, 363) (by decide)) (by decide) dX2_put_81 ?_
      refine V.iload_n (pc := 84) hG dX2_put_84 rfl 2 rfl ?_
      obtain ⟨g20, h⟩ := h
      refine V.aald (pc := 85) 7 (z := 96) (o := 363) (x := p1) (y := 364 + p1) hG a_363 a_363.n (by decide) hp1 g20 (hw.2.1 (363, 96, 364) (by decide) _ g20.1 g20.2) (by omega) dX2_put_85 ?_
      refine V.iload (pc := 86) hG dX2_put_86 0 rfl ?_
      refine V.iload (pc := 88) hG dX2_put_88 5 rfl ?_
      obtain ⟨g21, h⟩ := h
      refine V.iast (pc := 90) (z := 100) (o := 364 + p1) hG (row_363 g20) ((row_363 g20)).n ((hi _ _)) g21 dX2_put_90 ?_
      refine V.aload_n (pc := 91) hG dX2_put_91 rfl 1 rfl ?_
      refine V.getR (x := 460) (pc := 92) (ci := 4) (k := 3) (M := 5) (T := TX2) (o := 168) (kz := 3) hG a_168 a_168.n (by decide) hin_X2 rfl (by decide) (by decide) rfl kw_450 rfl ((hw).1 (168, 3, 460) (by decide)) (by decide) dX2_put_92 ?_
      refine V.iload_n (pc := 95) hG dX2_put_95 rfl 2 rfl ?_
      refine V.iload (pc := 96) hG dX2_put_96 0 rfl ?_
      refine V.iconst (pc := 98) hG dX2_put_98 ?_
      refine V.iadd (pc := 99) hG dX2_put_99 ?_
      obtain ⟨g22, h⟩ := h
      refine V.iast (pc := 100) (z := 96) (o := 460) hG a_460 a_460.n hp1 g22 dX2_put_100 ?_
      refine V.aload_n (pc := 101) hG dX2_put_101 rfl 1 rfl ?_
      refine V.dup (pc := 102) hG dX2_put_102 rfl ?_
      refine V.getI (pc := 103) (ci := 4) (k := 4) (M := 5) (T := TX2) (o := 168) (kz := 4) hG a_168 a_168.n (by decide) hin_X2 rfl (by decide) (by decide) rfl kw_453 rfl dX2_put_103 ?_
      refine V.iconst (pc := 106) hG dX2_put_106 ?_
      refine V.iadd (pc := 107) hG dX2_put_107 ?_
      refine V.putI (pc := 108) (ci := 4) (k := 4) (M := 5) (T := TX2) (o := 168) (kz := 4) hG a_168 a_168.n (by decide) hin_X2 rfl (by decide) (by decide) rfl kw_453 rfl tyX2 tyX2_ok nmX2 rfl (ty := tyX2 4) (tyX2_ok 4 (by decide)) rfl rfl dX2_put_108 ?_
      refine V.pick [] rfl ?_
      exact jn111 (st (st (st (st (st i (170 + p1) (i 460 p1) p2) (267 + p1) (i 460 p1) p3) (364 + p1) (i 460 p1) p4) 460 p1 (wr (i 460 p1 + 1))) 168 4 (wr ((st (st (st (st i (170 + p1) (i 460 p1) p2) (267 + p1) (i 460 p1) p3) (364 + p1) (i 460 p1) p4) 460 p1 (wr (i 460 p1 + 1))) 168 4 + 1))) ((okI_st ((okI_st ((okI_st ((okI_st ((okI_st hi hp2)) hp3)) hp4)) ((sR_wr _)))) ((sR_wr _)))) h
  · have h := f10 c8
    clear t9 f10
    refine V.aload_n (pc := 15) hG dX2_put_15 rfl 1 rfl ?_
    refine V.getR (x := 363) (pc := 16) (ci := 4) (k := 2) (M := 5) (T := TX2) (o := 168) (kz := 2) hG a_168 a_168.n (by decide) hin_X2 rfl (by decide) (by decide) rfl kw_446 rfl ((hw).1 (168, 2, 363) (by decide)) (by decide) dX2_put_16 ?_
    refine V.iload_n (pc := 19) hG dX2_put_19 rfl 2 rfl ?_
    obtain ⟨g23, h⟩ := h
    refine V.aald (pc := 20) 7 (z := 96) (o := 363) (x := p1) (y := 364 + p1) hG a_363 a_363.n (by decide) hp1 g23 (hw.2.1 (363, 96, 364) (by decide) _ g23.1 g23.2) (by omega) dX2_put_20 ?_
    refine V.iload (pc := 21) hG dX2_put_21 0 rfl ?_
    refine V.aload_n (pc := 23) hG dX2_put_23 rfl 1 rfl ?_
    refine V.getR (x := 363) (pc := 24) (ci := 4) (k := 2) (M := 5) (T := TX2) (o := 168) (kz := 2) hG a_168 a_168.n (by decide) hin_X2 rfl (by decide) (by decide) rfl kw_446 rfl ((hw).1 (168, 2, 363) (by decide)) (by decide) dX2_put_24 ?_
    refine V.iload_n (pc := 27) hG dX2_put_27 rfl 2 rfl ?_
    obtain ⟨g24, h⟩ := h
    refine V.aald (pc := 28) 7 (z := 96) (o := 363) (x := p1) (y := 364 + p1) hG a_363 a_363.n (by decide) hp1 g24 (hw.2.1 (363, 96, 364) (by decide) _ g24.1 g24.2) (by omega) dX2_put_28 ?_
    refine V.iload (pc := 29) hG dX2_put_29 0 rfl ?_
    obtain ⟨g25, h⟩ := h
    refine V.iald (pc := 31) (z := 100) (o := 364 + p1) hG (row_363 g24) ((row_363 g24)).n hv4 g25 dX2_put_31 ?_
    refine V.iload (pc := 32) hG dX2_put_32 5 rfl ?_
    refine V.mmax (pc := 34) hG ((hi _ _)) hp4 kw_905 kw_680 kw_173 kw_max ⟨Nat.le_of_ble_eq_true rfl, Nat.le_of_ble_eq_true rfl, Nat.le_of_ble_eq_true rfl, Nat.le_of_ble_eq_true rfl⟩ dX2_put_34 ?_
    obtain ⟨g26, h⟩ := h
    refine V.iast (pc := 37) (z := 100) (o := 364 + p1) hG (row_363 g23) ((row_363 g23)).n hv4 g26 dX2_put_37 ?_
    refine V.goto (pc := 38) (tgt := 111) hG dX2_put_38 (by decide) ?_
    refine V.pick [] rfl ?_
    exact jn111 (st i (364 + p1) v1 (max (i (364 + p1) v1) p4)) ((okI_st hi ((sR_max ((hi _ _)) hp4)))) h
set_option maxRecDepth 100000 in
set_option maxHeartbeats 4000000 in
theorem sm_X2_joinChannel (l : Launch) (Δ : Wd) {i r : MI} {p2 : Int} (hp2 : sR p2) {Q : MI → Prop} (hi : okI i) (hw : Wf r) (h : wp_X2_joinChannel p2 i r Q) : Met l yX2_joinChannel (Cond.code yX2_joinChannel cX2_joinChannel 6 none :: gW) (sRm 2 49) (sPc Δ [.ref (sA Δ 168), .ref (sA Δ 67), .int (sJ p2)] i r) (sQv Δ (fun i' r' => r = r' ∧ Q i')) 0 0 (sFr Δ) := by
  refine Ct.v (by decide) rfl (Nat.le_of_ble_eq_true rfl) (fun Γ Q0 hG fin => ?_)
  have hG : okG Γ Δ l (sRm 2 49) cX2_joinChannel "Schedulary$Graph" 6 := hG
  show V Γ Δ 542 false i r 0 0 Q0 0 [(0, .ref (sA Δ 168)), (1, .ref (sA Δ 67)), (2, .int (sJ p2))] []
  have jn78 : ∀  (ij78 : MI), okI ij78 → s78_X2_joinChannel ij78 r Q → V Γ Δ 542 false ij78 r 0 0 Q0 78 [] [] := by
    intro ij78 hij78 h
    exact fin dX2_joinChannel_78 hij78 hw ⟨rfl, h⟩
  refine V.iconst (pc := 0) hG dX2_joinChannel_0 ?_
  refine V.istore_n (pc := 1) (lv' := [(3, .int (sJ (-1))), (0, .ref (sA Δ 168)), (1, .ref (sA Δ 67)), (2, .int (sJ p2))]) hG dX2_joinChannel_1 rfl (by decide) rfl ?_
  refine V.iconst (pc := 2) hG dX2_joinChannel_2 ?_
  refine V.istore (pc := 3) (lv' := [(4, .int (sJ (-1))), (3, .int (sJ (-1))), (0, .ref (sA Δ 168)), (1, .ref (sA Δ 67)), (2, .int (sJ p2))]) hG dX2_joinChannel_3 (by decide) rfl ?_
  refine V.iconst (pc := 5) hG dX2_joinChannel_5 ?_
  refine V.istore (pc := 6) (lv' := [(5, .int (sJ 0)), (4, .int (sJ (-1))), (3, .int (sJ (-1))), (0, .ref (sA Δ 168)), (1, .ref (sA Δ 67)), (2, .int (sJ p2))]) hG dX2_joinChannel_6 (by decide) rfl ?_
  obtain ⟨n32, h⟩ := h
  have lp8 : ∀ (m8 : Nat) (x3_8 : Int) (x4_8 : Int) (x5_8 : Int) (i_8 : MI), sR x3_8 → sR x4_8 → sR x5_8 → okI i_8 → LoopP (b8_X2_joinChannel p2 r Q) m8 (x3_8, x4_8, x5_8, i_8) → V Γ Δ 542 false i_8 r 0 0 Q0 8 [(0, .ref (sA Δ 168)), (1, .ref (sA Δ 67)), (2, .int (sJ p2)), (3, .int (sJ x3_8)), (4, .int (sJ x4_8)), (5, .int (sJ x5_8))] [] := by
    intro m8
    induction m8 with
    | zero => intro x3_8 x4_8 x5_8 i_8 hx3_8 hx4_8 hx5_8 hi_8 h; exact h.elim
    | succ m8 ih8 =>
      intro x3_8 x4_8 x5_8 i_8 hx3_8 hx4_8 hx5_8 hi_8 h
      have h := LoopP_succ h
      have jn57 : ∀ (x3j57 : Int) (x4j57 : Int) (x5j57 : Int) (ij57 : MI), sR x3j57 → sR x4j57 → sR x5j57 → okI ij57 → s57_X2_joinChannel p2 x3j57 x4j57 x5j57 ij57 r Q (LoopP (b8_X2_joinChannel p2 r Q) m8) → V Γ Δ 542 false ij57 r 0 0 Q0 57 [(0, .ref (sA Δ 168)), (1, .ref (sA Δ 67)), (2, .int (sJ p2)), (3, .int (sJ x3j57)), (4, .int (sJ x4j57)), (5, .int (sJ x5j57))] [] := by
        intro x3j57 x4j57 x5j57 ij57 hx3j57 hx4j57 hx5j57 hij57 h
        refine V.iinc (pc := 57) (lv' := [(5, .int (sJ (wr (x5j57 + 1)))), (0, .ref (sA Δ 168)), (1, .ref (sA Δ 67)), (2, .int (sJ p2)), (3, .int (sJ x3j57)), (4, .int (sJ x4j57))]) hG dX2_joinChannel_57 5 rfl (by decide) rfl ?_
        refine V.goto (pc := 60) (tgt := 8) hG dX2_joinChannel_60 (by decide) ?_
        refine V.pick [1, 2, 3, 4, 5, 0] rfl ?_
        exact ih8 x3j57 x4j57 (wr (x5j57 + 1)) ij57 hx3j57 hx4j57 ((sR_wr _)) hij57 h
      have jn53 : ∀ (x3j53 : Int) (x5j53 : Int) (ij53 : MI), sR x3j53 → sR x5j53 → okI ij53 → s53_X2_joinChannel p2 x3j53 x5j53 ij53 r Q (LoopP (b8_X2_joinChannel p2 r Q) m8) → V Γ Δ 542 false ij53 r 0 0 Q0 53 [(0, .ref (sA Δ 168)), (1, .ref (sA Δ 67)), (2, .int (sJ p2)), (3, .int (sJ x3j53)), (5, .int (sJ x5j53))] [] := by
        intro x3j53 x5j53 ij53 hx3j53 hx5j53 hij53 h
        refine V.iload (pc := 53) hG dX2_joinChannel_53 4 rfl ?_
        refine V.istore (pc := 55) (lv' := [(4, .int (sJ x5j53)), (0, .ref (sA Δ 168)), (1, .ref (sA Δ 67)), (2, .int (sJ p2)), (3, .int (sJ x3j53)), (5, .int (sJ x5j53))]) hG dX2_joinChannel_55 (by decide) rfl ?_
        refine V.pick [1, 2, 3, 4, 0, 5] rfl ?_
        exact jn57 x3j53 x5j53 x5j53 ij53 hx3j53 hx5j53 hx5j53 hij53 h
      refine V.iload (pc := 8) hG dX2_joinChannel_8 5 rfl ?_
      refine V.aload_n (pc := 10) hG dX2_joinChannel_10 rfl 1 rfl ?_
      refine V.getIN (pc := 11) (ci := 2) (k := 4) (M := 5) (T := TX0) (o := 67) (kz := 4) hG a_67 a_67.n (by decide) hin_X0 rfl (by decide) (by decide) rfl kw_420 rfl dX2_joinChannel_11 ?_
      obtain ⟨t34, f35⟩ := h
      refine V.icmp_ge (pc := 14) (tgt := 63) hG hx5_8 ((hi_8 _ _)) dX2_joinChannel_14 (by decide) (fun c33 => ?_) (fun c33 => ?_)
      · have h := t34 c33
        clear t34 f35
        refine V.iload (pc := 63) hG dX2_joinChannel_63 4 rfl ?_
        refine V.iload_n (pc := 65) hG dX2_joinChannel_65 rfl 3 rfl ?_
        obtain ⟨t37, f38⟩ := h
        refine V.icmp_eq (pc := 66) (tgt := 78) hG hx4_8 hx3_8 dX2_joinChannel_66 (by decide) (fun c36 => ?_) (fun c36 => ?_)
        · have h := t37 c36
          clear t37 f38
          refine V.pick [] rfl ?_
          exact jn78 i_8 hi_8 h
        · have h := f38 c36
          clear t37 f38
          refine V.aload_n (pc := 69) hG dX2_joinChannel_69 rfl 0 rfl ?_
          refine V.iload (pc := 70) hG dX2_joinChannel_70 4 rfl ?_
          refine V.iload_n (pc := 72) hG dX2_joinChannel_72 rfl 3 rfl ?_
          refine V.iconst (pc := 73) hG dX2_joinChannel_73 ?_
          refine V.iconst (pc := 74) hG dX2_joinChannel_74 ?_
          refine V.callVv (pc := 75) (As := [.int (sJ x4_8), .int (sJ x3_8), .int (sJ 1), .int (sJ 1)]) (stk := []) hG (sm_X2_put l Δ hx4_8 hx3_8 ((sR_l rfl)) ((sR_l rfl)) hi_8 hw h) mY_X2_put kw_897 kw_899 kw_42 a_168 (by decide) (q := (RX2, TX2, 5)) rfl rfl ⟨Nat.le_of_ble_eq_true rfl, Nat.le_of_ble_eq_true rfl, Nat.le_of_ble_eq_true rfl, Nat.le_of_ble_eq_true rfl⟩ rfl (Nat.le_of_ble_eq_true rfl) dX2_joinChannel_75 rfl (fun i40 r41 hi43 hw44 hq45 => ?_)
          obtain ⟨e47, h⟩ := hq45
          subst e47
          refine V.pick [] rfl ?_
          exact jn78 i40 hi43 h
      · have h := f35 c33
        clear t34 f35
        refine V.aload_n (pc := 17) hG dX2_joinChannel_17 rfl 1 rfl ?_
        refine V.getRN (x := 68) (pc := 18) (ci := 2) (k := 0) (M := 5) (T := TX0) (o := 67) (kz := 0) hG a_67 a_67.n (by decide) hin_X0 rfl (by decide) (by decide) rfl kw_404 rfl ((hw).1 (67, 0, 68) (by decide)) (by decide) dX2_joinChannel_18 ?_
        refine V.iload (pc := 21) hG dX2_joinChannel_21 5 rfl ?_
        obtain ⟨g48, h⟩ := h
        refine V.aald (pc := 23) 6 (z := 96) (o := 68) (x := x5_8) (y := 72 + x5_8) hG a_68 a_68.n (by decide) hx5_8 g48 (hw.2.1 (68, 96, 72) (by decide) _ g48.1 g48.2) (by omega) dX2_joinChannel_23 ?_
        refine V.getIN (pc := 24) (ci := 5) (k := 3) (M := 13) (T := TX3) (o := 72 + x5_8) (kz := 3) hG (node_o g48.1 g48.2) ((node_o g48.1 g48.2)).n (by decide) hin_X3 rfl (by decide) (by decide) rfl kw_344 rfl dX2_joinChannel_24 ?_
        refine V.iload_n (pc := 27) hG dX2_joinChannel_27 rfl 2 rfl ?_
        obtain ⟨f51, t50⟩ := h
        refine V.icmp_ne (pc := 28) (tgt := 57) hG ((hi_8 _ _)) hp2 dX2_joinChannel_28 (by decide) (fun c49 => ?_) (fun c49 => ?_)
        · have h := t50 c49
          clear t50 f51
          exact jn57 x3_8 x4_8 x5_8 i_8 hx3_8 hx4_8 hx5_8 hi_8 h
        · have h := f51 c49
          clear t50 f51
          refine V.iload (pc := 31) hG dX2_joinChannel_31 4 rfl ?_
          refine V.iconst (pc := 33) hG dX2_joinChannel_33 ?_
          obtain ⟨f54, t53⟩ := h
          refine V.icmp_ne (pc := 34) (tgt := 43) hG hx4_8 ((sR_l rfl)) dX2_joinChannel_34 (by decide) (fun c52 => ?_) (fun c52 => ?_)
          · have h := t53 c52
            clear t53 f54
            refine V.aload_n (pc := 43) hG dX2_joinChannel_43 rfl 0 rfl ?_
            refine V.iload (pc := 44) hG dX2_joinChannel_44 4 rfl ?_
            refine V.iload (pc := 46) hG dX2_joinChannel_46 5 rfl ?_
            refine V.iconst (pc := 48) hG dX2_joinChannel_48 ?_
            refine V.iconst (pc := 49) hG dX2_joinChannel_49 ?_
            refine V.callVv (pc := 50) (As := [.int (sJ x4_8), .int (sJ x5_8), .int (sJ 0), .int (sJ 1)]) (stk := []) hG (sm_X2_put l Δ hx4_8 hx5_8 ((sR_l rfl)) ((sR_l rfl)) hi_8 hw h) mY_X2_put kw_897 kw_899 kw_42 a_168 (by decide) (q := (RX2, TX2, 5)) rfl rfl ⟨Nat.le_of_ble_eq_true rfl, Nat.le_of_ble_eq_true rfl, Nat.le_of_ble_eq_true rfl, Nat.le_of_ble_eq_true rfl⟩ rfl (Nat.le_of_ble_eq_true rfl) dX2_joinChannel_50 rfl (fun i56 r57 hi59 hw60 hq61 => ?_)
            obtain ⟨e63, h⟩ := hq61
            subst e63
            refine V.pick [0, 1, 2, 3, 5] rfl ?_
            exact jn53 x3_8 x5_8 i56 hx3_8 hx5_8 hi59 h
          · have h := f54 c52
            clear t53 f54
            refine V.iload (pc := 37) hG dX2_joinChannel_37 5 rfl ?_
            refine V.istore_n (pc := 39) (lv' := [(3, .int (sJ x5_8)), (0, .ref (sA Δ 168)), (1, .ref (sA Δ 67)), (2, .int (sJ p2)), (4, .int (sJ x4_8)), (5, .int (sJ x5_8))]) hG dX2_joinChannel_39 rfl (by decide) rfl ?_
            refine V.goto (pc := 40) (tgt := 53) hG dX2_joinChannel_40 (by decide) ?_
            refine V.pick [1, 2, 3, 0, 5] rfl ?_
            exact jn53 x5_8 x5_8 i_8 hx5_8 hx5_8 hi_8 h
  refine V.pick [3, 4, 5, 2, 1, 0] rfl ?_
  exact lp8 n32 (-1) (-1) 0 i ((sR_l rfl)) ((sR_l rfl)) ((sR_l rfl)) hi h
set_option maxRecDepth 100000 in
set_option maxHeartbeats 4000000 in
theorem sm_X11_isDivided (l : Launch) (Δ : Wd) {i r : MI} {p0 : Int} {p1 : Int} (hp0 : sR p0) (hp1 : sR p1) {Q : Int → Prop} (hi : okI i) (hw : Wf r) (h : wp_X11_isDivided p0 p1 i r Q) : Met l yX11_isDivided (Cond.code yX11_isDivided cX11_isDivided 2 (some .boolean) :: gW) (sRm 0 0) (sPc Δ [.int (sJ p0), .int (sJ p1)] i r) (sQi Δ (fun x i' r' => i = i' ∧ r = r' ∧ Q x)) 0 0 (sFr Δ) := by
  refine Ct.i (ty := .boolean) (by decide) rfl (Nat.le_of_ble_eq_true rfl) (fun Γ Q0 hG fin => ?_)
  have hG : okG Γ Δ l (sRm 0 0) cX11_isDivided "Schedulary" 2 := hG
  show V Γ Δ 542 false i r 0 0 Q0 0 [(0, .int (sJ p0)), (1, .int (sJ p1))] []
  have jn15 : ∀ (k0j15 : Int), sR k0j15 → s15_X11_isDivided k0j15 i r Q → V Γ Δ 542 false i r 0 0 Q0 15 [] [.int (sJ k0j15)] := by
    intro k0j15 hk0j15 h
    obtain ⟨g2, h⟩ := h
    exact fin dX11_isDivided_15 hk0j15 (nar_z g2) hi hw ⟨rfl, rfl, h⟩
  have jn14 : s14_X11_isDivided i r Q → V Γ Δ 542 false i r 0 0 Q0 14 [] [] := by
    intro h
    refine V.iconst (pc := 14) hG dX11_isDivided_14 ?_
    exact jn15 0 ((sR_l rfl)) h
  refine V.iload_n (pc := 0) hG dX11_isDivided_0 rfl 1 rfl ?_
  obtain ⟨t4, f5⟩ := h
  refine V.if_le (pc := 1) (tgt := 14) hG hp1 dX11_isDivided_1 (by decide) (fun c3 => ?_) (fun c3 => ?_)
  · have h := t4 c3
    clear t4 f5
    refine V.pick [] rfl ?_
    exact jn14 h
  · have h := f5 c3
    clear t4 f5
    refine V.iload_n (pc := 4) hG dX11_isDivided_4 rfl 0 rfl ?_
    refine V.iload_n (pc := 5) hG dX11_isDivided_5 rfl 1 rfl ?_
    obtain ⟨g6, h⟩ := h
    refine V.irem (pc := 6) hG hp0 hp1 g6 dX11_isDivided_6 ?_
    obtain ⟨f9, t8⟩ := h
    refine V.if_ne (pc := 7) (tgt := 14) hG ((sR_tmod hp0)) dX11_isDivided_7 (by decide) (fun c7 => ?_) (fun c7 => ?_)
    · have h := t8 c7
      clear t8 f9
      refine V.pick [] rfl ?_
      exact jn14 h
    · have h := f9 c7
      clear t8 f9
      refine V.iconst (pc := 10) hG dX11_isDivided_10 ?_
      refine V.goto (pc := 11) (tgt := 15) hG dX11_isDivided_11 (by decide) ?_
      refine V.pick [] rfl ?_
      exact jn15 1 ((sR_l rfl)) h
set_option maxRecDepth 100000 in
set_option maxHeartbeats 4000000 in
theorem sm_X2_distanceTo (l : Launch) (Δ : Wd) {i r : MI} {o0 : Int} {o1 : Int} {p2 : Int} {p3 : Int} (ho0 : isA o0 (5, 0)) (ho1 : isA o1 (5, 0)) (hp2 : sR p2) (hp3 : sR p3) {Q : Int → Prop} (hi : okI i) (hw : Wf r) (h : wp_X2_distanceTo o0 o1 p2 p3 i r Q) : Met l yX2_distanceTo (Cond.code yX2_distanceTo cX2_distanceTo 5 (some .int) :: gW) (sRm 1 21) (sPc Δ [.ref (sA Δ o0), .ref (sA Δ o1), .int (sJ p2), .int (sJ p3)] i r) (sQi Δ (fun x i' r' => i = i' ∧ r = r' ∧ Q x)) 0 0 (sFr Δ) := by
  refine Ct.i (ty := .int) (by decide) rfl (Nat.le_of_ble_eq_true rfl) (fun Γ Q0 hG fin => ?_)
  have hG : okG Γ Δ l (sRm 1 21) cX2_distanceTo "Schedulary$Graph" 5 := hG
  show V Γ Δ 542 false i r 0 0 Q0 0 [(0, .ref (sA Δ o0)), (1, .ref (sA Δ o1)), (2, .int (sJ p2)), (3, .int (sJ p3))] []
  have jn93 : ∀ (k0j93 : Int), sR k0j93 → s93_X2_distanceTo k0j93 i r Q → V Γ Δ 542 false i r 0 0 Q0 93 [] [.int (sJ k0j93)] := by
    intro k0j93 hk0j93 h
    exact fin dX2_distanceTo_93 hk0j93 rfl hi hw ⟨rfl, rfl, h⟩
  have jn84 : s84_X2_distanceTo p2 i r Q → V Γ Δ 542 false i r 0 0 Q0 84 [(2, .int (sJ p2))] [] := by
    intro h
    refine V.iload_n (pc := 84) hG dX2_distanceTo_84 rfl 0 rfl ?_
    obtain ⟨t5, f6⟩ := h
    refine V.if_eq (pc := 85) (tgt := 92) hG hp2 dX2_distanceTo_85 (by decide) (fun c4 => ?_) (fun c4 => ?_)
    · have h := t5 c4
      clear t5 f6
      refine V.iconst (pc := 92) hG dX2_distanceTo_92 ?_
      refine V.pick [] rfl ?_
      exact jn93 1 ((sR_l rfl)) h
    · have h := f6 c4
      clear t5 f6
      refine V.iconst (pc := 88) hG dX2_distanceTo_88 ?_
      refine V.goto (pc := 89) (tgt := 93) hG dX2_distanceTo_89 (by decide) ?_
      refine V.pick [] rfl ?_
      exact jn93 0 ((sR_l rfl)) h
  have jn63 : ∀ (x4j63 : Int), sR x4j63 → s63_X2_distanceTo o0 o1 p2 x4j63 i r Q → V Γ Δ 542 false i r 0 0 Q0 63 [(0, .ref (sA Δ o0)), (1, .ref (sA Δ o1)), (2, .int (sJ p2)), (4, .int (sJ x4j63))] [] := by
    intro x4j63 hx4j63 h
    refine V.aload_n (pc := 63) hG dX2_distanceTo_63 rfl 0 rfl ?_
    refine V.getIN (pc := 64) (ci := 5) (k := 10) (M := 13) (T := TX3) (o := o0) (kz := 10) hG ho0 ho0.n (by decide) hin_X3 rfl (by decide) (by decide) rfl kw_367 rfl dX2_distanceTo_64 ?_
    obtain ⟨f18, t17⟩ := h
    refine V.if_ne (pc := 67) (tgt := 84) hG ((hi _ _)) dX2_distanceTo_67 (by decide) (fun c16 => ?_) (fun c16 => ?_)
    · have h := t17 c16
      clear t17 f18
      refine V.pick [2] rfl ?_
      exact jn84 h
    · have h := f18 c16
      clear t17 f18
      refine V.aload_n (pc := 70) hG dX2_distanceTo_70 rfl 1 rfl ?_
      refine V.getIN (pc := 71) (ci := 5) (k := 10) (M := 13) (T := TX3) (o := o1) (kz := 10) hG ho1 ho1.n (by decide) hin_X3 rfl (by decide) (by decide) rfl kw_367 rfl dX2_distanceTo_71 ?_
      obtain ⟨f21, t20⟩ := h
      refine V.if_ne (pc := 74) (tgt := 84) hG ((hi _ _)) dX2_distanceTo_74 (by decide) (fun c19 => ?_) (fun c19 => ?_)
      · have h := t20 c19
        clear t20 f21
        refine V.pick [2] rfl ?_
        exact jn84 h
      · have h := f21 c19
        clear t20 f21
        refine V.iload (pc := 77) hG dX2_distanceTo_77 3 rfl ?_
        obtain ⟨t23, f24⟩ := h
        refine V.if_eq (pc := 79) (tgt := 84) hG hx4j63 dX2_distanceTo_79 (by decide) (fun c22 => ?_) (fun c22 => ?_)
        · have h := t23 c22
          clear t23 f24
          refine V.pick [2] rfl ?_
          exact jn84 h
        · have h := f24 c22
          clear t23 f24
          refine V.iconst (pc := 82) hG dX2_distanceTo_82 ?_
          exact fin dX2_distanceTo_83 ((sR_l rfl)) rfl hi hw ⟨rfl, rfl, h⟩
  have jn62 : ∀ (k0j62 : Int), sR k0j62 → s62_X2_distanceTo k0j62 i r Q → V Γ Δ 542 false i r 0 0 Q0 62 [] [.int (sJ k0j62)] := by
    intro k0j62 hk0j62 h
    exact fin dX2_distanceTo_62 hk0j62 rfl hi hw ⟨rfl, rfl, h⟩
  have jn50 : ∀ (x4j50 : Int), sR x4j50 → s50_X2_distanceTo p3 x4j50 i r Q → V Γ Δ 542 false i r 0 0 Q0 50 [(3, .int (sJ p3)), (4, .int (sJ x4j50))] [] := by
    intro x4j50 hx4j50 h
    refine V.iload_n (pc := 50) hG dX2_distanceTo_50 rfl 0 rfl ?_
    obtain ⟨t30, f31⟩ := h
    refine V.if_le (pc := 51) (tgt := 61) hG hp3 dX2_distanceTo_51 (by decide) (fun c29 => ?_) (fun c29 => ?_)
    · have h := t30 c29
      clear t30 f31
      refine V.iconst (pc := 61) hG dX2_distanceTo_61 ?_
      refine V.pick [] rfl ?_
      exact jn62 (-1) ((sR_l rfl)) h
    · have h := f31 c29
      clear t30 f31
      refine V.iload (pc := 54) hG dX2_distanceTo_54 1 rfl ?_
      refine V.iload_n (pc := 56) hG dX2_distanceTo_56 rfl 0 rfl ?_
      obtain ⟨g32, h⟩ := h
      refine V.idiv (pc := 57) hG hx4j50 hp3 g32 dX2_distanceTo_57 ?_
      refine V.goto (pc := 58) (tgt := 62) hG dX2_distanceTo_58 (by decide) ?_
      refine V.pick [] rfl ?_
      exact jn62 (wr (Int.tdiv x4j50 p3)) ((sR_wr _)) h
  have jn48 : s48_X2_distanceTo i r Q → V Γ Δ 542 false i r 0 0 Q0 48 [] [] := by
    intro h
    refine V.iconst (pc := 48) hG dX2_distanceTo_48 ?_
    exact fin dX2_distanceTo_49 ((sR_l rfl)) rfl hi hw ⟨rfl, rfl, h⟩
  refine V.aload_n (pc := 0) hG dX2_distanceTo_0 rfl 0 rfl ?_
  refine V.getIN (pc := 1) (ci := 5) (k := 9) (M := 13) (T := TX3) (o := o0) (kz := 9) hG ho0 ho0.n (by decide) hin_X3 rfl (by decide) (by decide) rfl kw_365 rfl dX2_distanceTo_1 ?_
  refine V.aload_n (pc := 4) hG dX2_distanceTo_4 rfl 1 rfl ?_
  refine V.getIN (pc := 5) (ci := 5) (k := 9) (M := 13) (T := TX3) (o := o1) (kz := 9) hG ho1 ho1.n (by decide) hin_X3 rfl (by decide) (by decide) rfl kw_365 rfl dX2_distanceTo_5 ?_
  refine V.isub (pc := 8) hG dX2_distanceTo_8 ?_
  refine V.istore (pc := 9) (lv' := [(4, .int (sJ (wr (i o0 9 - i o1 9)))), (0, .ref (sA Δ o0)), (1, .ref (sA Δ o1)), (2, .int (sJ p2)), (3, .int (sJ p3))]) hG dX2_distanceTo_9 (by decide) rfl ?_
  refine V.aload_n (pc := 11) hG dX2_distanceTo_11 rfl 1 rfl ?_
  refine V.getIN (pc := 12) (ci := 5) (k := 10) (M := 13) (T := TX3) (o := o0) (kz := 10) hG ho0 ho0.n (by decide) hin_X3 rfl (by decide) (by decide) rfl kw_367 rfl dX2_distanceTo_12 ?_
  obtain ⟨t34, f35⟩ := h
  refine V.if_eq (pc := 15) (tgt := 63) hG ((hi _ _)) dX2_distanceTo_15 (by decide) (fun c33 => ?_) (fun c33 => ?_)
  · have h := t34 c33
    clear t34 f35
    refine V.pick [1, 2, 3, 0] rfl ?_
    exact jn63 (wr (i o0 9 - i o1 9)) ((sR_wr _)) h
  · have h := f35 c33
    clear t34 f35
    refine V.aload_n (pc := 18) hG dX2_distanceTo_18 rfl 2 rfl ?_
    refine V.getIN (pc := 19) (ci := 5) (k := 10) (M := 13) (T := TX3) (o := o1) (kz := 10) hG ho1 ho1.n (by decide) hin_X3 rfl (by decide) (by decide) rfl kw_367 rfl dX2_distanceTo_19 ?_
    obtain ⟨t37, f38⟩ := h
    refine V.if_eq (pc := 22) (tgt := 63) hG ((hi _ _)) dX2_distanceTo_22 (by decide) (fun c36 => ?_) (fun c36 => ?_)
    · have h := t37 c36
      clear t37 f38
      refine V.pick [1, 2, 3, 0] rfl ?_
      exact jn63 (wr (i o0 9 - i o1 9)) ((sR_wr _)) h
    · have h := f38 c36
      clear t37 f38
      refine V.iload (pc := 25) hG dX2_distanceTo_25 0 rfl ?_
      obtain ⟨t40, f41⟩ := h
      refine V.if_lt (pc := 27) (tgt := 48) hG ((sR_wr _)) dX2_distanceTo_27 (by decide) (fun c39 => ?_) (fun c39 => ?_)
      · have h := t40 c39
        clear t40 f41
        refine V.pick [] rfl ?_
        exact jn48 h
      · have h := f41 c39
        clear t40 f41
        refine V.iload (pc := 30) hG dX2_distanceTo_30 0 rfl ?_
        refine V.iload_n (pc := 32) hG dX2_distanceTo_32 rfl 4 rfl ?_
        refine V.callSNi (pc := 33) (As := [.int (sJ (wr (i o0 9 - i o1 9))), .int (sJ p3)]) (stk := []) hG (sm_X11_isDivided l Δ ((sR_wr _)) hp3 hi hw h) mY_X11_isDivided kw_941 kw_942 ⟨Nat.le_of_ble_eq_true rfl, Nat.le_of_ble_eq_true rfl, Nat.le_of_ble_eq_true rfl, Nat.le_of_ble_eq_true rfl⟩ rfl (Nat.le_of_ble_eq_true rfl) dX2_distanceTo_33 rfl (fun v42 i43 r44 hv45 hi46 hw47 hq48 => ?_)
        obtain ⟨e58, e59, h⟩ := hq48
        subst e58
        subst e59
        obtain ⟨t50, f51⟩ := h
        refine V.if_eq (pc := 36) (tgt := 48) hG hv45 dX2_distanceTo_36 (by decide) (fun c49 => ?_) (fun c49 => ?_)
        · have h := t50 c49
          clear t50 f51
          refine V.pick [] rfl ?_
          exact jn48 h
        · have h := f51 c49
          clear t50 f51
          refine V.iload (pc := 39) hG dX2_distanceTo_39 0 rfl ?_
          obtain ⟨f54, t53⟩ := h
          refine V.if_ne (pc := 41) (tgt := 50) hG ((sR_wr _)) dX2_distanceTo_41 (by decide) (fun c52 => ?_) (fun c52 => ?_)
          · have h := t53 c52
            clear t53 f54
            refine V.pick [4, 0] rfl ?_
            exact jn50 (wr (i o0 9 - i o1 9)) ((sR_wr _)) h
          · have h := f54 c52
            clear t53 f54
            refine V.iload_n (pc := 44) hG dX2_distanceTo_44 rfl 3 rfl ?_
            obtain ⟨f57, t56⟩ := h
            refine V.if_ne (pc := 45) (tgt := 50) hG hp2 dX2_distanceTo_45 (by decide) (fun c55 => ?_) (fun c55 => ?_)
            · have h := t56 c55
              clear t56 f57
              refine V.pick [4, 0] rfl ?_
              exact jn50 (wr (i o0 9 - i o1 9)) ((sR_wr _)) h
            · have h := f57 c55
              clear t56 f57
              refine V.pick [] rfl ?_
              exact jn48 h
set_option maxRecDepth 100000 in
set_option maxHeartbeats 4000000 in
theorem sm_X2_joinPlaces (l : Launch) (Δ : Wd) {i r : MI} {p2 : Int} {p3 : Int} {p4 : Int} (hp2 : sR p2) (hp3 : sR p3) (hp4 : sR p4) {Q : MI → Prop} (hi : okI i) (hw : Wf r) (h : wp_X2_joinPlaces p2 p3 p4 i r Q) : Met l yX2_joinPlaces (Cond.code yX2_joinPlaces cX2_joinPlaces 8 none :: gW) (sRm 2 49) (sPc Δ [.ref (sA Δ 168), .ref (sA Δ 67), .int (sJ p2), .int (sJ p3), .int (sJ p4)] i r) (sQv Δ (fun i' r' => r = r' ∧ Q i')) 0 0 (sFr Δ) := by
  refine Ct.v (by decide) rfl (Nat.le_of_ble_eq_true rfl) (fun Γ Q0 hG fin => ?_)
  have hG : okG Γ Δ l (sRm 2 49) cX2_joinPlaces "Schedulary$Graph" 8 := hG
  show V Γ Δ 542 false i r 0 0 Q0 0 [(0, .ref (sA Δ 168)), (1, .ref (sA Δ 67)), (2, .int (sJ p2)), (3, .int (sJ p3)), (4, .int (sJ p4))] []
  have jn120 : ∀  (ij120 : MI), okI ij120 → s120_X2_joinPlaces ij120 r Q → V Γ Δ 542 false ij120 r 0 0 Q0 120 [] [] := by
    intro ij120 hij120 h
    exact fin dX2_joinPlaces_120 hij120 hw ⟨rfl, h⟩
  have jn47 : ∀ (x5j47 : Int) (x6j47 : Int) (k0j47 : Int) (k1j47 : Int) (k2j47 : Int) (ij47 : MI), isA x5j47 (5, 0) → isA x6j47 (5, 0) → isA k0j47 (5, 0) → isA k1j47 (5, 0) → sR k2j47 → okI ij47 → s47_X2_joinPlaces p2 p3 p4 x5j47 x6j47 k0j47 k1j47 k2j47 ij47 r Q → V Γ Δ 542 false ij47 r 0 0 Q0 47 [(0, .ref (sA Δ 168)), (1, .ref (sA Δ 67)), (2, .int (sJ p2)), (3, .int (sJ p3)), (4, .int (sJ p4)), (5, .ref (sA Δ x5j47)), (6, .ref (sA Δ x6j47))] [.int (sJ k2j47), .ref (sA Δ k1j47), .ref (sA Δ k0j47)] := by
    intro x5j47 x6j47 k0j47 k1j47 k2j47 ij47 hx5j47 hx6j47 hk0j47 hk1j47 hk2j47 hij47 h
    refine V.iload (pc := 47) hG dX2_joinPlaces_47 4 rfl ?_
    refine V.callSi (pc := 49) (As := [.ref (sA Δ k0j47), .ref (sA Δ k1j47), .int (sJ k2j47), .int (sJ p4)]) (stk := []) hG (sm_X2_distanceTo l Δ hk0j47 hk1j47 hk2j47 hp4 hij47 hw h) mY_X2_distanceTo kw_938 kw_939 rfl ⟨Nat.le_of_ble_eq_true rfl, Nat.le_of_ble_eq_true rfl, Nat.le_of_ble_eq_true rfl, Nat.le_of_ble_eq_true rfl⟩ rfl (Nat.le_of_ble_eq_true rfl) dX2_joinPlaces_49 rfl (fun v64 i65 r66 hv67 hi68 hw69 hq70 => ?_)
    obtain ⟨e125, e126, h⟩ := hq70
    subst e125
    subst e126
    refine V.istore (pc := 52) (lv' := [(7, .int (sJ v64)), (0, .ref (sA Δ 168)), (1, .ref (sA Δ 67)), (2, .int (sJ p2)), (3, .int (sJ p3)), (4, .int (sJ p4)), (5, .ref (sA Δ x5j47)), (6, .ref (sA Δ x6j47))]) hG dX2_joinPlaces_52 (by decide) rfl ?_
    refine V.iload (pc := 54) hG dX2_joinPlaces_54 0 rfl ?_
    refine V.iconst (pc := 56) hG dX2_joinPlaces_56 ?_
    obtain ⟨f73, t72⟩ := h
    refine V.icmp_ne (pc := 57) (tgt := 61) hG hv67 ((sR_l rfl)) dX2_joinPlaces_57 (by decide) (fun c71 => ?_) (fun c71 => ?_)
    · have h := t72 c71
      clear t72 f73
      refine V.aload (pc := 61) hG dX2_joinPlaces_61 7 rfl ?_
      refine V.getIN (pc := 63) (ci := 5) (k := 12) (M := 13) (T := TX3) (o := x6j47) (kz := 12) hG hx6j47 hx6j47.n (by decide) hin_X3 rfl (by decide) (by decide) rfl kw_374 rfl dX2_joinPlaces_63 ?_
      obtain ⟨f76, t75⟩ := h
      refine V.if_ne (pc := 66) (tgt := 85) hG ((hij47 _ _)) dX2_joinPlaces_66 (by decide) (fun c74 => ?_) (fun c74 => ?_)
      · have h := t75 c74
        clear t75 f76
        refine V.aload (pc := 85) hG dX2_joinPlaces_85 6 rfl ?_
        refine V.getIN (pc := 87) (ci := 5) (k := 12) (M := 13) (T := TX3) (o := x5j47) (kz := 12) hG hx5j47 hx5j47.n (by decide) hin_X3 rfl (by decide) (by decide) rfl kw_374 rfl dX2_joinPlaces_87 ?_
        obtain ⟨f79, t78⟩ := h
        refine V.if_ne (pc := 90) (tgt := 111) hG ((hij47 _ _)) dX2_joinPlaces_90 (by decide) (fun c77 => ?_) (fun c77 => ?_)
        · have h := t78 c77
          clear t78 f79
          refine V.aload_n (pc := 111) hG dX2_joinPlaces_111 rfl 1 rfl ?_
          refine V.iload_n (pc := 112) hG dX2_joinPlaces_112 rfl 3 rfl ?_
          refine V.iload_n (pc := 113) hG dX2_joinPlaces_113 rfl 4 rfl ?_
          refine V.iload (pc := 114) hG dX2_joinPlaces_114 0 rfl ?_
          refine V.iconst (pc := 116) hG dX2_joinPlaces_116 ?_
          refine V.callVv (pc := 117) (As := [.int (sJ p2), .int (sJ p3), .int (sJ v64), .int (sJ 1)]) (stk := []) hG (sm_X2_put l Δ hp2 hp3 hv67 ((sR_l rfl)) hij47 hw h) mY_X2_put kw_897 kw_899 kw_42 a_168 (by decide) (q := (RX2, TX2, 5)) rfl rfl ⟨Nat.le_of_ble_eq_true rfl, Nat.le_of_ble_eq_true rfl, Nat.le_of_ble_eq_true rfl, Nat.le_of_ble_eq_true rfl⟩ rfl (Nat.le_of_ble_eq_true rfl) dX2_joinPlaces_117 rfl (fun i81 r82 hi84 hw85 hq86 => ?_)
          obtain ⟨e88, h⟩ := hq86
          subst e88
          refine V.pick [] rfl ?_
          exact jn120 i81 hi84 h
        · have h := f79 c77
          clear t78 f79
          refine V.aload_n (pc := 93) hG dX2_joinPlaces_93 rfl 1 rfl ?_
          refine V.iload_n (pc := 94) hG dX2_joinPlaces_94 rfl 3 rfl ?_
          refine V.iload_n (pc := 95) hG dX2_joinPlaces_95 rfl 4 rfl ?_
          refine V.iload (pc := 96) hG dX2_joinPlaces_96 0 rfl ?_
          refine V.iconst (pc := 98) hG dX2_joinPlaces_98 ?_
          refine V.aload_n (pc := 99) hG dX2_joinPlaces_99 rfl 2 rfl ?_
          refine V.iload_n (pc := 100) hG dX2_joinPlaces_100 rfl 4 rfl ?_
          refine V.callVNi (pc := 101) (As := [.int (sJ p3)]) (stk := [.int (sJ 1), .int (sJ v64), .int (sJ p3), .int (sJ p2), .ref (sA Δ 168)]) hG (sm_X0_cyclesOf l Δ hp3 hij47 hw h) mY_X0_cyclesOf kw_893 kw_895 kw_41 a_67 (by decide) (q := (RX0, TX0, 5)) rfl rfl ⟨Nat.le_of_ble_eq_true rfl, Nat.le_of_ble_eq_true rfl, Nat.le_of_ble_eq_true rfl, Nat.le_of_ble_eq_true rfl⟩ rfl (Nat.le_of_ble_eq_true rfl) dX2_joinPlaces_101 rfl (fun v89 i90 r91 hv92 hi93 hw94 hq95 => ?_)
          obtain ⟨e105, e106, h⟩ := hq95
          subst e105
          subst e106
          refine V.isub (pc := 104) hG dX2_joinPlaces_104 ?_
          refine V.callVv (pc := 105) (As := [.int (sJ p2), .int (sJ p3), .int (sJ v64), .int (sJ (wr (1 - v89)))]) (stk := []) hG (sm_X2_put l Δ hp2 hp3 hv67 ((sR_wr _)) hij47 hw h) mY_X2_put kw_897 kw_899 kw_42 a_168 (by decide) (q := (RX2, TX2, 5)) rfl rfl ⟨Nat.le_of_ble_eq_true rfl, Nat.le_of_ble_eq_true rfl, Nat.le_of_ble_eq_true rfl, Nat.le_of_ble_eq_true rfl⟩ rfl (Nat.le_of_ble_eq_true rfl) dX2_joinPlaces_105 rfl (fun i97 r98 hi100 hw101 hq102 => ?_)
          obtain ⟨e104, h⟩ := hq102
          subst e104
          refine V.goto (pc := 108) (tgt := 120) hG dX2_joinPlaces_108 (by decide) ?_
          refine V.pick [] rfl ?_
          exact jn120 i97 hi100 h
      · have h := f76 c74
        clear t75 f76
        refine V.aload_n (pc := 69) hG dX2_joinPlaces_69 rfl 1 rfl ?_
        refine V.iload_n (pc := 70) hG dX2_joinPlaces_70 rfl 3 rfl ?_
        refine V.iload_n (pc := 71) hG dX2_joinPlaces_71 rfl 4 rfl ?_
        refine V.iload (pc := 72) hG dX2_joinPlaces_72 0 rfl ?_
        refine V.aload_n (pc := 74) hG dX2_joinPlaces_74 rfl 2 rfl ?_
        refine V.iload_n (pc := 75) hG dX2_joinPlaces_75 rfl 3 rfl ?_
        refine V.callVNi (pc := 76) (As := [.int (sJ p2)]) (stk := [.int (sJ v64), .int (sJ p3), .int (sJ p2), .ref (sA Δ 168)]) hG (sm_X0_cyclesOf l Δ hp2 hij47 hw h) mY_X0_cyclesOf kw_893 kw_895 kw_41 a_67 (by decide) (q := (RX0, TX0, 5)) rfl rfl ⟨Nat.le_of_ble_eq_true rfl, Nat.le_of_ble_eq_true rfl, Nat.le_of_ble_eq_true rfl, Nat.le_of_ble_eq_true rfl⟩ rfl (Nat.le_of_ble_eq_true rfl) dX2_joinPlaces_76 rfl (fun v107 i108 r109 hv110 hi111 hw112 hq113 => ?_)
        obtain ⟨e123, e124, h⟩ := hq113
        subst e123
        subst e124
        refine V.callVv (pc := 79) (As := [.int (sJ p2), .int (sJ p3), .int (sJ v64), .int (sJ v107)]) (stk := []) hG (sm_X2_put l Δ hp2 hp3 hv67 hv110 hij47 hw h) mY_X2_put kw_897 kw_899 kw_42 a_168 (by decide) (q := (RX2, TX2, 5)) rfl rfl ⟨Nat.le_of_ble_eq_true rfl, Nat.le_of_ble_eq_true rfl, Nat.le_of_ble_eq_true rfl, Nat.le_of_ble_eq_true rfl⟩ rfl (Nat.le_of_ble_eq_true rfl) dX2_joinPlaces_79 rfl (fun i115 r116 hi118 hw119 hq120 => ?_)
        obtain ⟨e122, h⟩ := hq120
        subst e122
        refine V.goto (pc := 82) (tgt := 120) hG dX2_joinPlaces_82 (by decide) ?_
        refine V.pick [] rfl ?_
        exact jn120 i115 hi118 h
    · have h := f73 c71
      clear t72 f73
      exact fin dX2_joinPlaces_60 hij47 hw ⟨rfl, h⟩
  have jn33 : ∀ (x5j33 : Int) (x6j33 : Int) (ij33 : MI), isA x5j33 (5, 0) → isA x6j33 (5, 0) → okI ij33 → s33_X2_joinPlaces p2 p3 p4 x5j33 x6j33 ij33 r Q → V Γ Δ 542 false ij33 r 0 0 Q0 33 [(0, .ref (sA Δ 168)), (1, .ref (sA Δ 67)), (2, .int (sJ p2)), (3, .int (sJ p3)), (4, .int (sJ p4)), (5, .ref (sA Δ x5j33)), (6, .ref (sA Δ x6j33))] [] := by
    intro x5j33 x6j33 ij33 hx5j33 hx6j33 hij33 h
    refine V.aload (pc := 33) hG dX2_joinPlaces_33 5 rfl ?_
    refine V.aload (pc := 35) hG dX2_joinPlaces_35 6 rfl ?_
    refine V.iload_n (pc := 37) hG dX2_joinPlaces_37 rfl 2 rfl ?_
    refine V.iload_n (pc := 38) hG dX2_joinPlaces_38 rfl 3 rfl ?_
    obtain ⟨t131, f132⟩ := h
    refine V.icmp_ge (pc := 39) (tgt := 46) hG hp2 hp3 dX2_joinPlaces_39 (by decide) (fun c130 => ?_) (fun c130 => ?_)
    · have h := t131 c130
      clear t131 f132
      refine V.iconst (pc := 46) hG dX2_joinPlaces_46 ?_
      exact jn47 x5j33 x6j33 x5j33 x6j33 0 ij33 hx5j33 hx6j33 hx5j33 hx6j33 ((sR_l rfl)) hij33 h
    · have h := f132 c130
      clear t131 f132
      refine V.iconst (pc := 42) hG dX2_joinPlaces_42 ?_
      refine V.goto (pc := 43) (tgt := 47) hG dX2_joinPlaces_43 (by decide) ?_
      exact jn47 x5j33 x6j33 x5j33 x6j33 1 ij33 hx5j33 hx6j33 hx5j33 hx6j33 ((sR_l rfl)) hij33 h
  refine V.aload_n (pc := 0) hG dX2_joinPlaces_0 rfl 1 rfl ?_
  refine V.getRN (x := 68) (pc := 1) (ci := 2) (k := 0) (M := 5) (T := TX0) (o := 67) (kz := 0) hG a_67 a_67.n (by decide) hin_X0 rfl (by decide) (by decide) rfl kw_404 rfl ((hw).1 (67, 0, 68) (by decide)) (by decide) dX2_joinPlaces_1 ?_
  refine V.iload_n (pc := 4) hG dX2_joinPlaces_4 rfl 2 rfl ?_
  obtain ⟨g133, h⟩ := h
  refine V.aald (pc := 5) 6 (z := 96) (o := 68) (x := p2) (y := 72 + p2) hG a_68 a_68.n (by decide) hp2 g133 (hw.2.1 (68, 96, 72) (by decide) _ g133.1 g133.2) (by omega) dX2_joinPlaces_5 ?_
  refine V.astore (pc := 6) (lv' := [(5, .ref (sA Δ (72 + p2))), (0, .ref (sA Δ 168)), (1, .ref (sA Δ 67)), (2, .int (sJ p2)), (3, .int (sJ p3)), (4, .int (sJ p4))]) hG dX2_joinPlaces_6 (by decide) rfl ?_
  refine V.aload_n (pc := 8) hG dX2_joinPlaces_8 rfl 2 rfl ?_
  refine V.getRN (x := 68) (pc := 9) (ci := 2) (k := 0) (M := 5) (T := TX0) (o := 67) (kz := 0) hG a_67 a_67.n (by decide) hin_X0 rfl (by decide) (by decide) rfl kw_404 rfl ((hw).1 (67, 0, 68) (by decide)) (by decide) dX2_joinPlaces_9 ?_
  refine V.iload_n (pc := 12) hG dX2_joinPlaces_12 rfl 4 rfl ?_
  obtain ⟨g134, h⟩ := h
  refine V.aald (pc := 13) 6 (z := 96) (o := 68) (x := p3) (y := 72 + p3) hG a_68 a_68.n (by decide) hp3 g134 (hw.2.1 (68, 96, 72) (by decide) _ g134.1 g134.2) (by omega) dX2_joinPlaces_13 ?_
  refine V.astore (pc := 14) (lv' := [(6, .ref (sA Δ (72 + p3))), (5, .ref (sA Δ (72 + p2))), (0, .ref (sA Δ 168)), (1, .ref (sA Δ 67)), (2, .int (sJ p2)), (3, .int (sJ p3)), (4, .int (sJ p4))]) hG dX2_joinPlaces_14 (by decide) rfl ?_
  refine V.aload (pc := 16) hG dX2_joinPlaces_16 1 rfl ?_
  refine V.getIN (pc := 18) (ci := 5) (k := 12) (M := 13) (T := TX3) (o := 72 + p2) (kz := 12) hG (node_o g133.1 g133.2) ((node_o g133.1 g133.2)).n (by decide) hin_X3 rfl (by decide) (by decide) rfl kw_374 rfl dX2_joinPlaces_18 ?_
  obtain ⟨f137, t136⟩ := h
  refine V.if_ne (pc := 21) (tgt := 33) hG ((hi _ _)) dX2_joinPlaces_21 (by decide) (fun c135 => ?_) (fun c135 => ?_)
  · have h := t136 c135
    clear t136 f137
    refine V.pick [2, 3, 4, 5, 6, 1, 0] rfl ?_
    exact jn33 (72 + p2) (72 + p3) i ((node_o g133.1 g133.2)) ((node_o g134.1 g134.2)) hi h
  · have h := f137 c135
    clear t136 f137
    refine V.aload (pc := 24) hG dX2_joinPlaces_24 0 rfl ?_
    refine V.getIN (pc := 26) (ci := 5) (k := 12) (M := 13) (T := TX3) (o := 72 + p3) (kz := 12) hG (node_o g134.1 g134.2) ((node_o g134.1 g134.2)).n (by decide) hin_X3 rfl (by decide) (by decide) rfl kw_374 rfl dX2_joinPlaces_26 ?_
    obtain ⟨f140, t139⟩ := h
    refine V.if_ne (pc := 29) (tgt := 33) hG ((hi _ _)) dX2_joinPlaces_29 (by decide) (fun c138 => ?_) (fun c138 => ?_)
    · have h := t139 c138
      clear t139 f140
      refine V.pick [2, 3, 4, 5, 6, 1, 0] rfl ?_
      exact jn33 (72 + p2) (72 + p3) i ((node_o g133.1 g133.2)) ((node_o g134.1 g134.2)) hi h
    · have h := f140 c138
      clear t139 f140
      exact fin dX2_joinPlaces_32 hi hw ⟨rfl, h⟩
set_option maxRecDepth 100000 in
set_option maxHeartbeats 4000000 in
theorem sm_X2_joinMemory (l : Launch) (Δ : Wd) {i r : MI} {p2 : Int} {p3 : Int} (hp2 : sR p2) (hp3 : sR p3) {Q : MI → Prop} (hi : okI i) (hw : Wf r) (h : wp_X2_joinMemory p2 p3 i r Q) : Met l yX2_joinMemory (Cond.code yX2_joinMemory cX2_joinMemory 6 none :: gW) (sRm 3 76) (sPc Δ [.ref (sA Δ 168), .ref (sA Δ 67), .int (sJ p2), .int (sJ p3)] i r) (sQv Δ (fun i' r' => r = r' ∧ Q i')) 0 0 (sFr Δ) := by
  refine Ct.v (by decide) rfl (Nat.le_of_ble_eq_true rfl) (fun Γ Q0 hG fin => ?_)
  have hG : okG Γ Δ l (sRm 3 76) cX2_joinMemory "Schedulary$Graph" 6 := hG
  show V Γ Δ 542 false i r 0 0 Q0 0 [(0, .ref (sA Δ 168)), (1, .ref (sA Δ 67)), (2, .int (sJ p2)), (3, .int (sJ p3))] []
  refine V.iconst (pc := 0) hG dX2_joinMemory_0 ?_
  refine V.istore (pc := 1) (lv' := [(4, .int (sJ 0)), (0, .ref (sA Δ 168)), (1, .ref (sA Δ 67)), (2, .int (sJ p2)), (3, .int (sJ p3))]) hG dX2_joinMemory_1 (by decide) rfl ?_
  obtain ⟨n47, h⟩ := h
  have lp3 : ∀ (m3 : Nat) (x4_3 : Int) (i_3 : MI), sR x4_3 → okI i_3 → LoopP (b3_X2_joinMemory p2 p3 r Q) m3 (x4_3, i_3) → V Γ Δ 542 false i_3 r 0 0 Q0 3 [(0, .ref (sA Δ 168)), (1, .ref (sA Δ 67)), (2, .int (sJ p2)), (3, .int (sJ p3)), (4, .int (sJ x4_3))] [] := by
    intro m3
    induction m3 with
    | zero => intro x4_3 i_3 hx4_3 hi_3 h; exact h.elim
    | succ m3 ih3 =>
      intro x4_3 i_3 hx4_3 hi_3 h
      have h := LoopP_succ h
      have jn78 : ∀ (x4j78 : Int) (ij78 : MI), sR x4j78 → okI ij78 → s78_X2_joinMemory p2 p3 x4j78 ij78 r Q (LoopP (b3_X2_joinMemory p2 p3 r Q) m3) → V Γ Δ 542 false ij78 r 0 0 Q0 78 [(0, .ref (sA Δ 168)), (1, .ref (sA Δ 67)), (2, .int (sJ p2)), (3, .int (sJ p3)), (4, .int (sJ x4j78))] [] := by
        intro x4j78 ij78 hx4j78 hij78 h
        refine V.iinc (pc := 78) (lv' := [(4, .int (sJ (wr (x4j78 + 1)))), (0, .ref (sA Δ 168)), (1, .ref (sA Δ 67)), (2, .int (sJ p2)), (3, .int (sJ p3))]) hG dX2_joinMemory_78 4 rfl (by decide) rfl ?_
        refine V.goto (pc := 81) (tgt := 3) hG dX2_joinMemory_81 (by decide) ?_
        refine V.pick [1, 2, 3, 4, 0] rfl ?_
        exact ih3 (wr (x4j78 + 1)) ij78 ((sR_wr _)) hij78 h
      refine V.iload (pc := 3) hG dX2_joinMemory_3 4 rfl ?_
      refine V.aload_n (pc := 5) hG dX2_joinMemory_5 rfl 1 rfl ?_
      refine V.getIN (pc := 6) (ci := 2) (k := 4) (M := 5) (T := TX0) (o := 67) (kz := 4) hG a_67 a_67.n (by decide) hin_X0 rfl (by decide) (by decide) rfl kw_420 rfl dX2_joinMemory_6 ?_
      obtain ⟨t49, f50⟩ := h
      refine V.icmp_ge (pc := 9) (tgt := 84) hG hx4_3 ((hi_3 _ _)) dX2_joinMemory_9 (by decide) (fun c48 => ?_) (fun c48 => ?_)
      · have h := t49 c48
        clear t49 f50
        exact fin dX2_joinMemory_84 hi_3 hw ⟨rfl, h⟩
      · have h := f50 c48
        clear t49 f50
        refine V.aload_n (pc := 12) hG dX2_joinMemory_12 rfl 1 rfl ?_
        refine V.getRN (x := 68) (pc := 13) (ci := 2) (k := 0) (M := 5) (T := TX0) (o := 67) (kz := 0) hG a_67 a_67.n (by decide) hin_X0 rfl (by decide) (by decide) rfl kw_404 rfl ((hw).1 (67, 0, 68) (by decide)) (by decide) dX2_joinMemory_13 ?_
        refine V.iload (pc := 16) hG dX2_joinMemory_16 4 rfl ?_
        obtain ⟨g51, h⟩ := h
        refine V.aald (pc := 18) 6 (z := 96) (o := 68) (x := x4_3) (y := 72 + x4_3) hG a_68 a_68.n (by decide) hx4_3 g51 (hw.2.1 (68, 96, 72) (by decide) _ g51.1 g51.2) (by omega) dX2_joinMemory_18 ?_
        refine V.getIN (pc := 19) (ci := 5) (k := 3) (M := 13) (T := TX3) (o := 72 + x4_3) (kz := 3) hG (node_o g51.1 g51.2) ((node_o g51.1 g51.2)).n (by decide) hin_X3 rfl (by decide) (by decide) rfl kw_344 rfl dX2_joinMemory_19 ?_
        refine V.iload_n (pc := 22) hG dX2_joinMemory_22 rfl 2 rfl ?_
        obtain ⟨t53, f54⟩ := h
        refine V.icmp_eq (pc := 23) (tgt := 29) hG ((hi_3 _ _)) hp2 dX2_joinMemory_23 (by decide) (fun c52 => ?_) (fun c52 => ?_)
        · have h := t53 c52
          clear t53 f54
          refine V.iconst (pc := 29) hG dX2_joinMemory_29 ?_
          refine V.istore (pc := 30) (lv' := [(5, .int (sJ 0)), (0, .ref (sA Δ 168)), (1, .ref (sA Δ 67)), (2, .int (sJ p2)), (3, .int (sJ p3)), (4, .int (sJ x4_3))]) hG dX2_joinMemory_30 (by decide) rfl ?_
          obtain ⟨n55, h⟩ := h
          have lp32 : ∀ (m32 : Nat) (x5_32 : Int) (i_32 : MI), sR x5_32 → okI i_32 → LoopP (b32_X2_joinMemory p2 p3 x4_3 r Q (LoopP (b3_X2_joinMemory p2 p3 r Q) m3)) m32 (x5_32, i_32) → V Γ Δ 542 false i_32 r 0 0 Q0 32 [(0, .ref (sA Δ 168)), (1, .ref (sA Δ 67)), (2, .int (sJ p2)), (3, .int (sJ p3)), (4, .int (sJ x4_3)), (5, .int (sJ x5_32))] [] := by
            intro m32
            induction m32 with
            | zero => intro x5_32 i_32 hx5_32 hi_32 h; exact h.elim
            | succ m32 ih32 =>
              intro x5_32 i_32 hx5_32 hi_32 h
              have h := LoopP_succ h
              have jn72 : ∀ (x5j72 : Int) (ij72 : MI), sR x5j72 → okI ij72 → s72_X2_joinMemory p2 p3 x4_3 x5j72 ij72 r Q (LoopP (b3_X2_joinMemory p2 p3 r Q) m3) (LoopP (b32_X2_joinMemory p2 p3 x4_3 r Q (LoopP (b3_X2_joinMemory p2 p3 r Q) m3)) m32) → V Γ Δ 542 false ij72 r 0 0 Q0 72 [(0, .ref (sA Δ 168)), (1, .ref (sA Δ 67)), (2, .int (sJ p2)), (3, .int (sJ p3)), (4, .int (sJ x4_3)), (5, .int (sJ x5j72))] [] := by
                intro x5j72 ij72 hx5j72 hij72 h
                refine V.iinc (pc := 72) (lv' := [(5, .int (sJ (wr (x5j72 + 1)))), (0, .ref (sA Δ 168)), (1, .ref (sA Δ 67)), (2, .int (sJ p2)), (3, .int (sJ p3)), (4, .int (sJ x4_3))]) hG dX2_joinMemory_72 5 rfl (by decide) rfl ?_
                refine V.goto (pc := 75) (tgt := 32) hG dX2_joinMemory_75 (by decide) ?_
                refine V.pick [1, 2, 3, 4, 5, 0] rfl ?_
                exact ih32 (wr (x5j72 + 1)) ij72 ((sR_wr _)) hij72 h
              refine V.iload (pc := 32) hG dX2_joinMemory_32 5 rfl ?_
              refine V.aload_n (pc := 34) hG dX2_joinMemory_34 rfl 1 rfl ?_
              refine V.getIN (pc := 35) (ci := 2) (k := 4) (M := 5) (T := TX0) (o := 67) (kz := 4) hG a_67 a_67.n (by decide) hin_X0 rfl (by decide) (by decide) rfl kw_420 rfl dX2_joinMemory_35 ?_
              obtain ⟨t57, f58⟩ := h
              refine V.icmp_ge (pc := 38) (tgt := 78) hG hx5_32 ((hi_32 _ _)) dX2_joinMemory_38 (by decide) (fun c56 => ?_) (fun c56 => ?_)
              · have h := t57 c56
                clear t57 f58
                refine V.pick [0, 1, 2, 3, 4] rfl ?_
                exact jn78 x4_3 i_32 hx4_3 hi_32 h
              · have h := f58 c56
                clear t57 f58
                refine V.iload (pc := 41) hG dX2_joinMemory_41 5 rfl ?_
                refine V.iload (pc := 43) hG dX2_joinMemory_43 4 rfl ?_
                obtain ⟨t60, f61⟩ := h
                refine V.icmp_eq (pc := 45) (tgt := 72) hG hx5_32 hx4_3 dX2_joinMemory_45 (by decide) (fun c59 => ?_) (fun c59 => ?_)
                · have h := t60 c59
                  clear t60 f61
                  exact jn72 x5_32 i_32 hx5_32 hi_32 h
                · have h := f61 c59
                  clear t60 f61
                  refine V.aload_n (pc := 48) hG dX2_joinMemory_48 rfl 1 rfl ?_
                  refine V.getRN (x := 68) (pc := 49) (ci := 2) (k := 0) (M := 5) (T := TX0) (o := 67) (kz := 0) hG a_67 a_67.n (by decide) hin_X0 rfl (by decide) (by decide) rfl kw_404 rfl ((hw).1 (67, 0, 68) (by decide)) (by decide) dX2_joinMemory_49 ?_
                  refine V.iload (pc := 52) hG dX2_joinMemory_52 5 rfl ?_
                  obtain ⟨g62, h⟩ := h
                  refine V.aald (pc := 54) 6 (z := 96) (o := 68) (x := x5_32) (y := 72 + x5_32) hG a_68 a_68.n (by decide) hx5_32 g62 (hw.2.1 (68, 96, 72) (by decide) _ g62.1 g62.2) (by omega) dX2_joinMemory_54 ?_
                  refine V.getIN (pc := 55) (ci := 5) (k := 3) (M := 13) (T := TX3) (o := 72 + x5_32) (kz := 3) hG (node_o g62.1 g62.2) ((node_o g62.1 g62.2)).n (by decide) hin_X3 rfl (by decide) (by decide) rfl kw_344 rfl dX2_joinMemory_55 ?_
                  refine V.iload_n (pc := 58) hG dX2_joinMemory_58 rfl 2 rfl ?_
                  obtain ⟨f65, t64⟩ := h
                  refine V.icmp_ne (pc := 59) (tgt := 72) hG ((hi_32 _ _)) hp2 dX2_joinMemory_59 (by decide) (fun c63 => ?_) (fun c63 => ?_)
                  · have h := t64 c63
                    clear t64 f65
                    exact jn72 x5_32 i_32 hx5_32 hi_32 h
                  · have h := f65 c63
                    clear t64 f65
                    refine V.aload_n (pc := 62) hG dX2_joinMemory_62 rfl 0 rfl ?_
                    refine V.aload_n (pc := 63) hG dX2_joinMemory_63 rfl 1 rfl ?_
                    refine V.iload (pc := 64) hG dX2_joinMemory_64 4 rfl ?_
                    refine V.iload (pc := 66) hG dX2_joinMemory_66 5 rfl ?_
                    refine V.iload_n (pc := 68) hG dX2_joinMemory_68 rfl 3 rfl ?_
                    refine V.callVv (pc := 69) (As := [.ref (sA Δ 67), .int (sJ x4_3), .int (sJ x5_32), .int (sJ p3)]) (stk := []) hG (sm_X2_joinPlaces l Δ hx4_3 hx5_32 hp3 hi_32 hw h) mY_X2_joinPlaces kw_934 kw_936 kw_51 a_168 (by decide) (q := (RX2, TX2, 5)) rfl rfl ⟨Nat.le_of_ble_eq_true rfl, Nat.le_of_ble_eq_true rfl, Nat.le_of_ble_eq_true rfl, Nat.le_of_ble_eq_true rfl⟩ rfl (Nat.le_of_ble_eq_true rfl) dX2_joinMemory_69 rfl (fun i67 r68 hi70 hw71 hq72 => ?_)
                    obtain ⟨e74, h⟩ := hq72
                    subst e74
                    exact jn72 x5_32 i67 hx5_32 hi70 h
          refine V.pick [1, 2, 3, 4, 5, 0] rfl ?_
          exact lp32 n55 0 i_3 ((sR_l rfl)) hi_3 h
        · have h := f54 c52
          clear t53 f54
          refine V.goto (pc := 26) (tgt := 78) hG dX2_joinMemory_26 (by decide) ?_
          exact jn78 x4_3 i_3 hx4_3 hi_3 h
  refine V.pick [1, 2, 3, 4, 0] rfl ?_
  exact lp3 n47 0 i ((sR_l rfl)) hi h
set_option maxRecDepth 100000 in
set_option maxHeartbeats 4000000 in
theorem sm_X0_nextMakerBehind (l : Launch) (Δ : Wd) {i r : MI} {p1 : Int} {p2 : Int} (hp1 : sR p1) (hp2 : sR p2) {Q : Int → Prop} (hi : okI i) (hw : Wf r) (h : wp_X0_nextMakerBehind p1 p2 i r Q) : Met l yX0_nextMakerBehind (Cond.code yX0_nextMakerBehind cX0_nextMakerBehind 4 (some .int) :: gW) (sRm 0 0) (sPc Δ [.ref (sA Δ 67), .int (sJ p1), .int (sJ p2)] i r) (sQi Δ (fun x i' r' => i = i' ∧ r = r' ∧ Q x)) 0 0 (sFr Δ) := by
  refine Ct.i (ty := .int) (by decide) rfl (Nat.le_of_ble_eq_true rfl) (fun Γ Q0 hG fin => ?_)
  have hG : okG Γ Δ l (sRm 0 0) cX0_nextMakerBehind "Schedulary$Body" 4 := hG
  show V Γ Δ 542 false i r 0 0 Q0 0 [(0, .ref (sA Δ 67)), (1, .int (sJ p1)), (2, .int (sJ p2))] []
  refine V.iload_n (pc := 0) hG dX0_nextMakerBehind_0 rfl 2 rfl ?_
  refine V.iconst (pc := 1) hG dX0_nextMakerBehind_1 ?_
  refine V.iadd (pc := 2) hG dX0_nextMakerBehind_2 ?_
  refine V.istore_n (pc := 3) (lv' := [(3, .int (sJ (wr (p2 + 1)))), (0, .ref (sA Δ 67)), (1, .int (sJ p1)), (2, .int (sJ p2))]) hG dX0_nextMakerBehind_3 rfl (by decide) rfl ?_
  obtain ⟨n8, h⟩ := h
  have lp4 : ∀ (m4 : Nat) (x3_4 : Int), sR x3_4 → LoopP (b4_X0_nextMakerBehind p1 i r Q) m4 (x3_4) → V Γ Δ 542 false i r 0 0 Q0 4 [(0, .ref (sA Δ 67)), (1, .int (sJ p1)), (3, .int (sJ x3_4))] [] := by
    intro m4
    induction m4 with
    | zero => intro x3_4 hx3_4 h; exact h.elim
    | succ m4 ih4 =>
      intro x3_4 hx3_4 h
      have h := LoopP_succ h
      refine V.iload_n (pc := 4) hG dX0_nextMakerBehind_4 rfl 2 rfl ?_
      refine V.aload_n (pc := 5) hG dX0_nextMakerBehind_5 rfl 0 rfl ?_
      refine V.getI (pc := 6) (ci := 2) (k := 4) (M := 5) (T := TX0) (o := 67) (kz := 4) hG a_67 a_67.n (by decide) hin_X0 rfl (by decide) (by decide) rfl kw_416 rfl dX0_nextMakerBehind_6 ?_
      obtain ⟨t10, f11⟩ := h
      refine V.icmp_ge (pc := 9) (tgt := 33) hG hx3_4 ((hi _ _)) dX0_nextMakerBehind_9 (by decide) (fun c9 => ?_) (fun c9 => ?_)
      · have h := t10 c9
        clear t10 f11
        refine V.iconst (pc := 33) hG dX0_nextMakerBehind_33 ?_
        exact fin dX0_nextMakerBehind_34 ((sR_l rfl)) rfl hi hw ⟨rfl, rfl, h⟩
      · have h := f11 c9
        clear t10 f11
        refine V.aload_n (pc := 12) hG dX0_nextMakerBehind_12 rfl 0 rfl ?_
        refine V.getR (x := 68) (pc := 13) (ci := 2) (k := 0) (M := 5) (T := TX0) (o := 67) (kz := 0) hG a_67 a_67.n (by decide) hin_X0 rfl (by decide) (by decide) rfl kw_402 rfl ((hw).1 (67, 0, 68) (by decide)) (by decide) dX0_nextMakerBehind_13 ?_
        refine V.iload_n (pc := 16) hG dX0_nextMakerBehind_16 rfl 2 rfl ?_
        obtain ⟨g12, h⟩ := h
        refine V.aald (pc := 17) 6 (z := 96) (o := 68) (x := x3_4) (y := 72 + x3_4) hG a_68 a_68.n (by decide) hx3_4 g12 (hw.2.1 (68, 96, 72) (by decide) _ g12.1 g12.2) (by omega) dX0_nextMakerBehind_17 ?_
        refine V.getIN (pc := 18) (ci := 5) (k := 8) (M := 13) (T := TX3) (o := 72 + x3_4) (kz := 8) hG (node_o g12.1 g12.2) ((node_o g12.1 g12.2)).n (by decide) hin_X3 rfl (by decide) (by decide) rfl kw_360 rfl dX0_nextMakerBehind_18 ?_
        refine V.iload_n (pc := 21) hG dX0_nextMakerBehind_21 rfl 1 rfl ?_
        obtain ⟨f15, t14⟩ := h
        refine V.icmp_ne (pc := 22) (tgt := 27) hG ((hi _ _)) hp1 dX0_nextMakerBehind_22 (by decide) (fun c13 => ?_) (fun c13 => ?_)
        · have h := t14 c13
          clear t14 f15
          refine V.iinc (pc := 27) (lv' := [(3, .int (sJ (wr (x3_4 + 1)))), (0, .ref (sA Δ 67)), (1, .int (sJ p1))]) hG dX0_nextMakerBehind_27 2 rfl (by decide) rfl ?_
          refine V.goto (pc := 30) (tgt := 4) hG dX0_nextMakerBehind_30 (by decide) ?_
          refine V.pick [1, 2, 0] rfl ?_
          exact ih4 (wr (x3_4 + 1)) ((sR_wr _)) h
        · have h := f15 c13
          clear t14 f15
          refine V.iload_n (pc := 25) hG dX0_nextMakerBehind_25 rfl 2 rfl ?_
          exact fin dX0_nextMakerBehind_26 hx3_4 rfl hi hw ⟨rfl, rfl, h⟩
  refine V.pick [1, 2, 0] rfl ?_
  exact lp4 n8 (wr (p2 + 1)) ((sR_wr _)) h
set_option maxRecDepth 100000 in
set_option maxHeartbeats 4000000 in
theorem sm_X0_lastMakerAhead (l : Launch) (Δ : Wd) {i r : MI} {p1 : Int} {p2 : Int} (hp1 : sR p1) (hp2 : sR p2) {Q : Int → Prop} (hi : okI i) (hw : Wf r) (h : wp_X0_lastMakerAhead p1 p2 i r Q) : Met l yX0_lastMakerAhead (Cond.code yX0_lastMakerAhead cX0_lastMakerAhead 4 (some .int) :: gW) (sRm 0 0) (sPc Δ [.ref (sA Δ 67), .int (sJ p1), .int (sJ p2)] i r) (sQi Δ (fun x i' r' => i = i' ∧ r = r' ∧ Q x)) 0 0 (sFr Δ) := by
  refine Ct.i (ty := .int) (by decide) rfl (Nat.le_of_ble_eq_true rfl) (fun Γ Q0 hG fin => ?_)
  have hG : okG Γ Δ l (sRm 0 0) cX0_lastMakerAhead "Schedulary$Body" 4 := hG
  show V Γ Δ 542 false i r 0 0 Q0 0 [(0, .ref (sA Δ 67)), (1, .int (sJ p1)), (2, .int (sJ p2))] []
  refine V.iload_n (pc := 0) hG dX0_lastMakerAhead_0 rfl 2 rfl ?_
  refine V.iconst (pc := 1) hG dX0_lastMakerAhead_1 ?_
  refine V.isub (pc := 2) hG dX0_lastMakerAhead_2 ?_
  refine V.istore_n (pc := 3) (lv' := [(3, .int (sJ (wr (p2 - 1)))), (0, .ref (sA Δ 67)), (1, .int (sJ p1)), (2, .int (sJ p2))]) hG dX0_lastMakerAhead_3 rfl (by decide) rfl ?_
  obtain ⟨n8, h⟩ := h
  have lp4 : ∀ (m4 : Nat) (x3_4 : Int), sR x3_4 → LoopP (b4_X0_lastMakerAhead p1 i r Q) m4 (x3_4) → V Γ Δ 542 false i r 0 0 Q0 4 [(0, .ref (sA Δ 67)), (1, .int (sJ p1)), (3, .int (sJ x3_4))] [] := by
    intro m4
    induction m4 with
    | zero => intro x3_4 hx3_4 h; exact h.elim
    | succ m4 ih4 =>
      intro x3_4 hx3_4 h
      have h := LoopP_succ h
      refine V.iload_n (pc := 4) hG dX0_lastMakerAhead_4 rfl 2 rfl ?_
      obtain ⟨t10, f11⟩ := h
      refine V.if_lt (pc := 5) (tgt := 29) hG hx3_4 dX0_lastMakerAhead_5 (by decide) (fun c9 => ?_) (fun c9 => ?_)
      · have h := t10 c9
        clear t10 f11
        refine V.iconst (pc := 29) hG dX0_lastMakerAhead_29 ?_
        exact fin dX0_lastMakerAhead_30 ((sR_l rfl)) rfl hi hw ⟨rfl, rfl, h⟩
      · have h := f11 c9
        clear t10 f11
        refine V.aload_n (pc := 8) hG dX0_lastMakerAhead_8 rfl 0 rfl ?_
        refine V.getR (x := 68) (pc := 9) (ci := 2) (k := 0) (M := 5) (T := TX0) (o := 67) (kz := 0) hG a_67 a_67.n (by decide) hin_X0 rfl (by decide) (by decide) rfl kw_402 rfl ((hw).1 (67, 0, 68) (by decide)) (by decide) dX0_lastMakerAhead_9 ?_
        refine V.iload_n (pc := 12) hG dX0_lastMakerAhead_12 rfl 2 rfl ?_
        obtain ⟨g12, h⟩ := h
        refine V.aald (pc := 13) 6 (z := 96) (o := 68) (x := x3_4) (y := 72 + x3_4) hG a_68 a_68.n (by decide) hx3_4 g12 (hw.2.1 (68, 96, 72) (by decide) _ g12.1 g12.2) (by omega) dX0_lastMakerAhead_13 ?_
        refine V.getIN (pc := 14) (ci := 5) (k := 8) (M := 13) (T := TX3) (o := 72 + x3_4) (kz := 8) hG (node_o g12.1 g12.2) ((node_o g12.1 g12.2)).n (by decide) hin_X3 rfl (by decide) (by decide) rfl kw_360 rfl dX0_lastMakerAhead_14 ?_
        refine V.iload_n (pc := 17) hG dX0_lastMakerAhead_17 rfl 1 rfl ?_
        obtain ⟨f15, t14⟩ := h
        refine V.icmp_ne (pc := 18) (tgt := 23) hG ((hi _ _)) hp1 dX0_lastMakerAhead_18 (by decide) (fun c13 => ?_) (fun c13 => ?_)
        · have h := t14 c13
          clear t14 f15
          refine V.iinc (pc := 23) (lv' := [(3, .int (sJ (wr (x3_4 + (-1))))), (0, .ref (sA Δ 67)), (1, .int (sJ p1))]) hG dX0_lastMakerAhead_23 2 rfl (by decide) rfl ?_
          refine V.goto (pc := 26) (tgt := 4) hG dX0_lastMakerAhead_26 (by decide) ?_
          refine V.pick [1, 2, 0] rfl ?_
          exact ih4 (wr (x3_4 + (-1))) ((sR_wr _)) h
        · have h := f15 c13
          clear t14 f15
          refine V.iload_n (pc := 21) hG dX0_lastMakerAhead_21 rfl 2 rfl ?_
          exact fin dX0_lastMakerAhead_22 hx3_4 rfl hi hw ⟨rfl, rfl, h⟩
  refine V.pick [1, 2, 0] rfl ?_
  exact lp4 n8 (wr (p2 - 1)) ((sR_wr _)) h
set_option maxRecDepth 100000 in
set_option maxHeartbeats 4000000 in
theorem sm_X2_joinMakerAhead (l : Launch) (Δ : Wd) {i r : MI} {p2 : Int} {p3 : Int} (hp2 : sR p2) (hp3 : sR p3) {Q : MI → Prop} (hi : okI i) (hw : Wf r) (h : wp_X2_joinMakerAhead p2 p3 i r Q) : Met l yX2_joinMakerAhead (Cond.code yX2_joinMakerAhead cX2_joinMakerAhead 6 none :: gW) (sRm 2 49) (sPc Δ [.ref (sA Δ 168), .ref (sA Δ 67), .int (sJ p2), .int (sJ p3)] i r) (sQv Δ (fun i' r' => r = r' ∧ Q i')) 0 0 (sFr Δ) := by
  refine Ct.v (by decide) rfl (Nat.le_of_ble_eq_true rfl) (fun Γ Q0 hG fin => ?_)
  have hG : okG Γ Δ l (sRm 2 49) cX2_joinMakerAhead "Schedulary$Graph" 6 := hG
  show V Γ Δ 542 false i r 0 0 Q0 0 [(0, .ref (sA Δ 168)), (1, .ref (sA Δ 67)), (2, .int (sJ p2)), (3, .int (sJ p3))] []
  have jn52 : ∀  (ij52 : MI), okI ij52 → s52_X2_joinMakerAhead ij52 r Q → V Γ Δ 542 false ij52 r 0 0 Q0 52 [] [] := by
    intro ij52 hij52 h
    exact fin dX2_joinMakerAhead_52 hij52 hw ⟨rfl, h⟩
  have jn31 : ∀ (x4j31 : Int) (x5j31 : Int) (ij31 : MI), sR x4j31 → sR x5j31 → okI ij31 → s31_X2_joinMakerAhead p3 x4j31 x5j31 ij31 r Q → V Γ Δ 542 false ij31 r 0 0 Q0 31 [(0, .ref (sA Δ 168)), (1, .ref (sA Δ 67)), (3, .int (sJ p3)), (4, .int (sJ x4j31)), (5, .int (sJ x5j31))] [] := by
    intro x4j31 x5j31 ij31 hx4j31 hx5j31 hij31 h
    refine V.iload (pc := 31) hG dX2_joinMakerAhead_31 4 rfl ?_
    refine V.iconst (pc := 33) hG dX2_joinMakerAhead_33 ?_
    obtain ⟨t23, f24⟩ := h
    refine V.icmp_eq (pc := 34) (tgt := 52) hG hx5j31 ((sR_l rfl)) dX2_joinMakerAhead_34 (by decide) (fun c22 => ?_) (fun c22 => ?_)
    · have h := t23 c22
      clear t23 f24
      refine V.pick [] rfl ?_
      exact jn52 ij31 hij31 h
    · have h := f24 c22
      clear t23 f24
      refine V.aload_n (pc := 37) hG dX2_joinMakerAhead_37 rfl 0 rfl ?_
      refine V.iload (pc := 38) hG dX2_joinMakerAhead_38 4 rfl ?_
      refine V.iload_n (pc := 40) hG dX2_joinMakerAhead_40 rfl 2 rfl ?_
      refine V.iload (pc := 41) hG dX2_joinMakerAhead_41 3 rfl ?_
      refine V.aload_n (pc := 43) hG dX2_joinMakerAhead_43 rfl 1 rfl ?_
      refine V.iload (pc := 44) hG dX2_joinMakerAhead_44 4 rfl ?_
      refine V.callVNi (pc := 46) (As := [.int (sJ x5j31)]) (stk := [.int (sJ x4j31), .int (sJ p3), .int (sJ x5j31), .ref (sA Δ 168)]) hG (sm_X0_cyclesOf l Δ hx5j31 hij31 hw h) mY_X0_cyclesOf kw_893 kw_895 kw_41 a_67 (by decide) (q := (RX0, TX0, 5)) rfl rfl ⟨Nat.le_of_ble_eq_true rfl, Nat.le_of_ble_eq_true rfl, Nat.le_of_ble_eq_true rfl, Nat.le_of_ble_eq_true rfl⟩ rfl (Nat.le_of_ble_eq_true rfl) dX2_joinMakerAhead_46 rfl (fun v25 i26 r27 hv28 hi29 hw30 hq31 => ?_)
      obtain ⟨e41, e42, h⟩ := hq31
      subst e41
      subst e42
      refine V.callVv (pc := 49) (As := [.int (sJ x5j31), .int (sJ p3), .int (sJ x4j31), .int (sJ v25)]) (stk := []) hG (sm_X2_put l Δ hx5j31 hp3 hx4j31 hv28 hij31 hw h) mY_X2_put kw_897 kw_899 kw_42 a_168 (by decide) (q := (RX2, TX2, 5)) rfl rfl ⟨Nat.le_of_ble_eq_true rfl, Nat.le_of_ble_eq_true rfl, Nat.le_of_ble_eq_true rfl, Nat.le_of_ble_eq_true rfl⟩ rfl (Nat.le_of_ble_eq_true rfl) dX2_joinMakerAhead_49 rfl (fun i33 r34 hi36 hw37 hq38 => ?_)
      obtain ⟨e40, h⟩ := hq38
      subst e40
      refine V.pick [] rfl ?_
      exact jn52 i33 hi36 h
  refine V.iconst (pc := 0) hG dX2_joinMakerAhead_0 ?_
  refine V.istore (pc := 1) (lv' := [(4, .int (sJ 0)), (0, .ref (sA Δ 168)), (1, .ref (sA Δ 67)), (2, .int (sJ p2)), (3, .int (sJ p3))]) hG dX2_joinMakerAhead_1 (by decide) rfl ?_
  refine V.aload_n (pc := 3) hG dX2_joinMakerAhead_3 rfl 2 rfl ?_
  refine V.iload_n (pc := 4) hG dX2_joinMakerAhead_4 rfl 3 rfl ?_
  refine V.iload_n (pc := 5) hG dX2_joinMakerAhead_5 rfl 4 rfl ?_
  refine V.callVNi (pc := 6) (As := [.int (sJ p2), .int (sJ p3)]) (stk := []) hG (sm_X0_lastMakerAhead l Δ hp2 hp3 hi hw h) mY_X0_lastMakerAhead kw_922 kw_924 kw_48 a_67 (by decide) (q := (RX0, TX0, 5)) rfl rfl ⟨Nat.le_of_ble_eq_true rfl, Nat.le_of_ble_eq_true rfl, Nat.le_of_ble_eq_true rfl, Nat.le_of_ble_eq_true rfl⟩ rfl (Nat.le_of_ble_eq_true rfl) dX2_joinMakerAhead_6 rfl (fun v43 i44 r45 hv46 hi47 hw48 hq49 => ?_)
  obtain ⟨e62, e63, h⟩ := hq49
  subst e62
  subst e63
  refine V.istore (pc := 9) (lv' := [(5, .int (sJ v43)), (4, .int (sJ 0)), (0, .ref (sA Δ 168)), (1, .ref (sA Δ 67)), (2, .int (sJ p2)), (3, .int (sJ p3))]) hG dX2_joinMakerAhead_9 (by decide) rfl ?_
  refine V.iload (pc := 11) hG dX2_joinMakerAhead_11 0 rfl ?_
  refine V.iconst (pc := 13) hG dX2_joinMakerAhead_13 ?_
  obtain ⟨f52, t51⟩ := h
  refine V.icmp_ne (pc := 14) (tgt := 31) hG hv46 ((sR_l rfl)) dX2_joinMakerAhead_14 (by decide) (fun c50 => ?_) (fun c50 => ?_)
  · have h := t51 c50
    clear t51 f52
    refine V.pick [2, 3, 5, 1, 0] rfl ?_
    exact jn31 0 v43 i ((sR_l rfl)) hv46 hi h
  · have h := f52 c50
    clear t51 f52
    refine V.iconst (pc := 17) hG dX2_joinMakerAhead_17 ?_
    refine V.istore (pc := 18) (lv' := [(4, .int (sJ 1)), (5, .int (sJ v43)), (0, .ref (sA Δ 168)), (1, .ref (sA Δ 67)), (2, .int (sJ p2)), (3, .int (sJ p3))]) hG dX2_joinMakerAhead_18 (by decide) rfl ?_
    refine V.aload_n (pc := 20) hG dX2_joinMakerAhead_20 rfl 3 rfl ?_
    refine V.iload_n (pc := 21) hG dX2_joinMakerAhead_21 rfl 4 rfl ?_
    refine V.aload_n (pc := 22) hG dX2_joinMakerAhead_22 rfl 3 rfl ?_
    refine V.getIN (pc := 23) (ci := 2) (k := 4) (M := 5) (T := TX0) (o := 67) (kz := 4) hG a_67 a_67.n (by decide) hin_X0 rfl (by decide) (by decide) rfl kw_420 rfl dX2_joinMakerAhead_23 ?_
    refine V.callVNi (pc := 26) (As := [.int (sJ p2), .int (sJ (i 67 4))]) (stk := []) hG (sm_X0_lastMakerAhead l Δ hp2 ((hi _ _)) hi hw h) mY_X0_lastMakerAhead kw_922 kw_924 kw_48 a_67 (by decide) (q := (RX0, TX0, 5)) rfl rfl ⟨Nat.le_of_ble_eq_true rfl, Nat.le_of_ble_eq_true rfl, Nat.le_of_ble_eq_true rfl, Nat.le_of_ble_eq_true rfl⟩ rfl (Nat.le_of_ble_eq_true rfl) dX2_joinMakerAhead_26 rfl (fun v53 i54 r55 hv56 hi57 hw58 hq59 => ?_)
    obtain ⟨e60, e61, h⟩ := hq59
    subst e60
    subst e61
    refine V.istore (pc := 29) (lv' := [(5, .int (sJ v53)), (4, .int (sJ 1)), (0, .ref (sA Δ 168)), (1, .ref (sA Δ 67)), (2, .int (sJ p2)), (3, .int (sJ p3))]) hG dX2_joinMakerAhead_29 (by decide) rfl ?_
    refine V.pick [2, 3, 5, 1, 0] rfl ?_
    exact jn31 1 v53 i ((sR_l rfl)) hv56 hi h
set_option maxRecDepth 100000 in
set_option maxHeartbeats 4000000 in
theorem sm_X3_isUsing (l : Launch) (Δ : Wd) {i r : MI} {o0 : Int} {p1 : Int} (ho0 : isA o0 (5, 0)) (hp1 : sR p1) {Q : Int → Prop} (hi : okI i) (hw : Wf r) (h : wp_X3_isUsing o0 p1 i r Q) : Met l yX3_isUsing (Cond.code yX3_isUsing cX3_isUsing 2 (some .boolean) :: gW) (sRm 0 0) (sPc Δ [.ref (sA Δ o0), .int (sJ p1)] i r) (sQi Δ (fun x i' r' => i = i' ∧ r = r' ∧ Q x)) 0 0 (sFr Δ) := by
  refine Ct.i (ty := .boolean) (by decide) rfl (Nat.le_of_ble_eq_true rfl) (fun Γ Q0 hG fin => ?_)
  have hG : okG Γ Δ l (sRm 0 0) cX3_isUsing "Schedulary$Node" 2 := hG
  show V Γ Δ 542 false i r 0 0 Q0 0 [(0, .ref (sA Δ o0)), (1, .int (sJ p1))] []
  have jn16 : ∀ (k0j16 : Int), sR k0j16 → s16_X3_isUsing k0j16 i r Q → V Γ Δ 542 false i r 0 0 Q0 16 [] [.int (sJ k0j16)] := by
    intro k0j16 hk0j16 h
    obtain ⟨g2, h⟩ := h
    exact fin dX3_isUsing_16 hk0j16 (nar_z g2) hi hw ⟨rfl, rfl, h⟩
  refine V.aload_n (pc := 0) hG dX3_isUsing_0 rfl 0 rfl ?_
  refine V.getI (pc := 1) (ci := 5) (k := 7) (M := 13) (T := TX3) (o := o0) (kz := 7) hG ho0 ho0.n (by decide) hin_X3 rfl (by decide) (by decide) rfl kw_357 rfl dX3_isUsing_1 ?_
  refine V.iconst (pc := 4) hG dX3_isUsing_4 ?_
  refine V.iload_n (pc := 5) hG dX3_isUsing_5 rfl 1 rfl ?_
  refine V.ishl (pc := 6) hG dX3_isUsing_6 ?_
  refine V.iand (pc := 7) hG dX3_isUsing_7 ?_
  obtain ⟨t4, f5⟩ := h
  refine V.if_eq (pc := 8) (tgt := 15) hG ((sR_and _ _)) dX3_isUsing_8 (by decide) (fun c3 => ?_) (fun c3 => ?_)
  · have h := t4 c3
    clear t4 f5
    refine V.iconst (pc := 15) hG dX3_isUsing_15 ?_
    refine V.pick [] rfl ?_
    exact jn16 0 ((sR_l rfl)) h
  · have h := f5 c3
    clear t4 f5
    refine V.iconst (pc := 11) hG dX3_isUsing_11 ?_
    refine V.goto (pc := 12) (tgt := 16) hG dX3_isUsing_12 (by decide) ?_
    refine V.pick [] rfl ?_
    exact jn16 1 ((sR_l rfl)) h
set_option maxRecDepth 100000 in
set_option maxHeartbeats 4000000 in
theorem sm_X2_joinMakerBehind (l : Launch) (Δ : Wd) {i r : MI} {p2 : Int} {p3 : Int} (hp2 : sR p2) (hp3 : sR p3) {Q : MI → Prop} (hi : okI i) (hw : Wf r) (h : wp_X2_joinMakerBehind p2 p3 i r Q) : Met l yX2_joinMakerBehind (Cond.code yX2_joinMakerBehind cX2_joinMakerBehind 7 none :: gW) (sRm 2 49) (sPc Δ [.ref (sA Δ 168), .ref (sA Δ 67), .int (sJ p2), .int (sJ p3)] i r) (sQv Δ (fun i' r' => r = r' ∧ Q i')) 0 0 (sFr Δ) := by
  refine Ct.v (by decide) rfl (Nat.le_of_ble_eq_true rfl) (fun Γ Q0 hG fin => ?_)
  have hG : okG Γ Δ l (sRm 2 49) cX2_joinMakerBehind "Schedulary$Graph" 7 := hG
  show V Γ Δ 542 false i r 0 0 Q0 0 [(0, .ref (sA Δ 168)), (1, .ref (sA Δ 67)), (2, .int (sJ p2)), (3, .int (sJ p3))] []
  have jn105 : ∀  (ij105 : MI), okI ij105 → s105_X2_joinMakerBehind ij105 r Q → V Γ Δ 542 false ij105 r 0 0 Q0 105 [] [] := by
    intro ij105 hij105 h
    exact fin dX2_joinMakerBehind_105 hij105 hw ⟨rfl, h⟩
  have jn75 : ∀ (x4j75 : Int) (x5j75 : Int) (x6j75 : Int) (ij75 : MI), sR x4j75 → sR x5j75 → sR x6j75 → okI ij75 → s75_X2_joinMakerBehind p2 p3 x4j75 x5j75 x6j75 ij75 r Q → V Γ Δ 542 false ij75 r 0 0 Q0 75 [(0, .ref (sA Δ 168)), (1, .ref (sA Δ 67)), (2, .int (sJ p2)), (3, .int (sJ p3)), (4, .int (sJ x4j75)), (5, .int (sJ x5j75)), (6, .int (sJ x6j75))] [] := by
    intro x4j75 x5j75 x6j75 ij75 hx4j75 hx5j75 hx6j75 hij75 h
    refine V.aload_n (pc := 75) hG dX2_joinMakerBehind_75 rfl 1 rfl ?_
    refine V.getRN (x := 68) (pc := 76) (ci := 2) (k := 0) (M := 5) (T := TX0) (o := 67) (kz := 0) hG a_67 a_67.n (by decide) hin_X0 rfl (by decide) (by decide) rfl kw_404 rfl ((hw).1 (67, 0, 68) (by decide)) (by decide) dX2_joinMakerBehind_76 ?_
    refine V.iload_n (pc := 79) hG dX2_joinMakerBehind_79 rfl 3 rfl ?_
    obtain ⟨g23, h⟩ := h
    refine V.aald (pc := 80) 6 (z := 96) (o := 68) (x := p3) (y := 72 + p3) hG a_68 a_68.n (by decide) hp3 g23 (hw.2.1 (68, 96, 72) (by decide) _ g23.1 g23.2) (by omega) dX2_joinMakerBehind_80 ?_
    refine V.getIN (pc := 81) (ci := 5) (k := 8) (M := 13) (T := TX3) (o := 72 + p3) (kz := 8) hG (node_o g23.1 g23.2) ((node_o g23.1 g23.2)).n (by decide) hin_X3 rfl (by decide) (by decide) rfl kw_362 rfl dX2_joinMakerBehind_81 ?_
    refine V.iload_n (pc := 84) hG dX2_joinMakerBehind_84 rfl 2 rfl ?_
    obtain ⟨f26, t25⟩ := h
    refine V.icmp_ne (pc := 85) (tgt := 105) hG ((hij75 _ _)) hp2 dX2_joinMakerBehind_85 (by decide) (fun c24 => ?_) (fun c24 => ?_)
    · have h := t25 c24
      clear t25 f26
      refine V.pick [] rfl ?_
      exact jn105 ij75 hij75 h
    · have h := f26 c24
      clear t25 f26
      refine V.aload_n (pc := 88) hG dX2_joinMakerBehind_88 rfl 0 rfl ?_
      refine V.iload_n (pc := 89) hG dX2_joinMakerBehind_89 rfl 3 rfl ?_
      refine V.iload (pc := 90) hG dX2_joinMakerBehind_90 5 rfl ?_
      refine V.iload (pc := 92) hG dX2_joinMakerBehind_92 4 rfl ?_
      refine V.iload (pc := 94) hG dX2_joinMakerBehind_94 6 rfl ?_
      refine V.aload_n (pc := 96) hG dX2_joinMakerBehind_96 rfl 1 rfl ?_
      refine V.iload_n (pc := 97) hG dX2_joinMakerBehind_97 rfl 3 rfl ?_
      refine V.callVNi (pc := 98) (As := [.int (sJ p3)]) (stk := [.int (sJ x6j75), .int (sJ x4j75), .int (sJ x5j75), .int (sJ p3), .ref (sA Δ 168)]) hG (sm_X0_cyclesOf l Δ hp3 hij75 hw h) mY_X0_cyclesOf kw_893 kw_895 kw_41 a_67 (by decide) (q := (RX0, TX0, 5)) rfl rfl ⟨Nat.le_of_ble_eq_true rfl, Nat.le_of_ble_eq_true rfl, Nat.le_of_ble_eq_true rfl, Nat.le_of_ble_eq_true rfl⟩ rfl (Nat.le_of_ble_eq_true rfl) dX2_joinMakerBehind_98 rfl (fun v27 i28 r29 hv30 hi31 hw32 hq33 => ?_)
      obtain ⟨e43, e44, h⟩ := hq33
      subst e43
      subst e44
      refine V.iadd (pc := 101) hG dX2_joinMakerBehind_101 ?_
      refine V.callVv (pc := 102) (As := [.int (sJ p3), .int (sJ x5j75), .int (sJ x4j75), .int (sJ (wr (x6j75 + v27)))]) (stk := []) hG (sm_X2_put l Δ hp3 hx5j75 hx4j75 ((sR_wr _)) hij75 hw h) mY_X2_put kw_897 kw_899 kw_42 a_168 (by decide) (q := (RX2, TX2, 5)) rfl rfl ⟨Nat.le_of_ble_eq_true rfl, Nat.le_of_ble_eq_true rfl, Nat.le_of_ble_eq_true rfl, Nat.le_of_ble_eq_true rfl⟩ rfl (Nat.le_of_ble_eq_true rfl) dX2_joinMakerBehind_102 rfl (fun i35 r36 hi38 hw39 hq40 => ?_)
      obtain ⟨e42, h⟩ := hq40
      subst e42
      refine V.pick [] rfl ?_
      exact jn105 i35 hi38 h
  have jn40 : ∀  (ij40 : MI), okI ij40 → s40_X2_joinMakerBehind ij40 r Q → V Γ Δ 542 false ij40 r 0 0 Q0 40 [] [] := by
    intro ij40 hij40 h
    exact fin dX2_joinMakerBehind_40 hij40 hw ⟨rfl, h⟩
  have jn28 : ∀ (x4j28 : Int) (x5j28 : Int) (ij28 : MI), sR x4j28 → sR x5j28 → okI ij28 → s28_X2_joinMakerBehind p2 p3 x4j28 x5j28 ij28 r Q → V Γ Δ 542 false ij28 r 0 0 Q0 28 [(0, .ref (sA Δ 168)), (1, .ref (sA Δ 67)), (2, .int (sJ p2)), (3, .int (sJ p3)), (4, .int (sJ x4j28)), (5, .int (sJ x5j28))] [] := by
    intro x4j28 x5j28 ij28 hx4j28 hx5j28 hij28 h
    refine V.iload (pc := 28) hG dX2_joinMakerBehind_28 5 rfl ?_
    refine V.iconst (pc := 30) hG dX2_joinMakerBehind_30 ?_
    obtain ⟨t83, f84⟩ := h
    refine V.icmp_eq (pc := 31) (tgt := 40) hG hx5j28 ((sR_l rfl)) dX2_joinMakerBehind_31 (by decide) (fun c82 => ?_) (fun c82 => ?_)
    · have h := t83 c82
      clear t83 f84
      refine V.pick [] rfl ?_
      exact jn40 ij28 hij28 h
    · have h := f84 c82
      clear t83 f84
      refine V.iload (pc := 34) hG dX2_joinMakerBehind_34 5 rfl ?_
      refine V.iload_n (pc := 36) hG dX2_joinMakerBehind_36 rfl 3 rfl ?_
      obtain ⟨f87, t86⟩ := h
      refine V.icmp_ne (pc := 37) (tgt := 41) hG hx5j28 hp3 dX2_joinMakerBehind_37 (by decide) (fun c85 => ?_) (fun c85 => ?_)
      · have h := t86 c85
        clear t86 f87
        refine V.iconst (pc := 41) hG dX2_joinMakerBehind_41 ?_
        refine V.aload_n (pc := 42) hG dX2_joinMakerBehind_42 rfl 1 rfl ?_
        refine V.iload (pc := 43) hG dX2_joinMakerBehind_43 5 rfl ?_
        refine V.callVNi (pc := 45) (As := [.int (sJ x5j28)]) (stk := [.int (sJ 1)]) hG (sm_X0_cyclesOf l Δ hx5j28 hij28 hw h) mY_X0_cyclesOf kw_893 kw_895 kw_41 a_67 (by decide) (q := (RX0, TX0, 5)) rfl rfl ⟨Nat.le_of_ble_eq_true rfl, Nat.le_of_ble_eq_true rfl, Nat.le_of_ble_eq_true rfl, Nat.le_of_ble_eq_true rfl⟩ rfl (Nat.le_of_ble_eq_true rfl) dX2_joinMakerBehind_45 rfl (fun v88 i89 r90 hv91 hi92 hw93 hq94 => ?_)
        obtain ⟨e117, e118, h⟩ := hq94
        subst e117
        subst e118
        refine V.isub (pc := 48) hG dX2_joinMakerBehind_48 ?_
        refine V.istore (pc := 49) (lv' := [(6, .int (sJ (wr (1 - v88)))), (0, .ref (sA Δ 168)), (1, .ref (sA Δ 67)), (2, .int (sJ p2)), (3, .int (sJ p3)), (4, .int (sJ x4j28)), (5, .int (sJ x5j28))]) hG dX2_joinMakerBehind_49 (by decide) rfl ?_
        refine V.aload_n (pc := 51) hG dX2_joinMakerBehind_51 rfl 2 rfl ?_
        refine V.getRN (x := 68) (pc := 52) (ci := 2) (k := 0) (M := 5) (T := TX0) (o := 67) (kz := 0) hG a_67 a_67.n (by decide) hin_X0 rfl (by decide) (by decide) rfl kw_404 rfl ((hw).1 (67, 0, 68) (by decide)) (by decide) dX2_joinMakerBehind_52 ?_
        refine V.iload_n (pc := 55) hG dX2_joinMakerBehind_55 rfl 4 rfl ?_
        obtain ⟨g95, h⟩ := h
        refine V.aald (pc := 56) 6 (z := 96) (o := 68) (x := p3) (y := 72 + p3) hG a_68 a_68.n (by decide) hp3 g95 (hw.2.1 (68, 96, 72) (by decide) _ g95.1 g95.2) (by omega) dX2_joinMakerBehind_56 ?_
        refine V.iload_n (pc := 57) hG dX2_joinMakerBehind_57 rfl 3 rfl ?_
        refine V.callVNi (pc := 58) (As := [.int (sJ p2)]) (stk := []) hG (sm_X3_isUsing l Δ ((node_o g95.1 g95.2)) hp2 hij28 hw h) mY_X3_isUsing kw_914 kw_916 kw_46 (node_o g95.1 g95.2) (by decide) (q := (RX3, TX3, 13)) rfl rfl ⟨Nat.le_of_ble_eq_true rfl, Nat.le_of_ble_eq_true rfl, Nat.le_of_ble_eq_true rfl, Nat.le_of_ble_eq_true rfl⟩ rfl (Nat.le_of_ble_eq_true rfl) dX2_joinMakerBehind_58 rfl (fun v96 i97 r98 hv99 hi100 hw101 hq102 => ?_)
        obtain ⟨e115, e116, h⟩ := hq102
        subst e115
        subst e116
        obtain ⟨t104, f105⟩ := h
        refine V.if_eq (pc := 61) (tgt := 75) hG hv99 dX2_joinMakerBehind_61 (by decide) (fun c103 => ?_) (fun c103 => ?_)
        · have h := t104 c103
          clear t104 f105
          refine V.pick [1, 2, 3, 4, 5, 6, 0] rfl ?_
          exact jn75 x4j28 x5j28 (wr (1 - v88)) ij28 hx4j28 hx5j28 ((sR_wr _)) hij28 h
        · have h := f105 c103
          clear t104 f105
          refine V.aload_n (pc := 64) hG dX2_joinMakerBehind_64 rfl 1 rfl ?_
          refine V.iload_n (pc := 65) hG dX2_joinMakerBehind_65 rfl 4 rfl ?_
          refine V.iload (pc := 66) hG dX2_joinMakerBehind_66 6 rfl ?_
          refine V.iload (pc := 68) hG dX2_joinMakerBehind_68 5 rfl ?_
          refine V.iload (pc := 70) hG dX2_joinMakerBehind_70 0 rfl ?_
          refine V.callVv (pc := 72) (As := [.int (sJ p3), .int (sJ x5j28), .int (sJ x4j28), .int (sJ (wr (1 - v88)))]) (stk := []) hG (sm_X2_put l Δ hp3 hx5j28 hx4j28 ((sR_wr _)) hij28 hw h) mY_X2_put kw_897 kw_899 kw_42 a_168 (by decide) (q := (RX2, TX2, 5)) rfl rfl ⟨Nat.le_of_ble_eq_true rfl, Nat.le_of_ble_eq_true rfl, Nat.le_of_ble_eq_true rfl, Nat.le_of_ble_eq_true rfl⟩ rfl (Nat.le_of_ble_eq_true rfl) dX2_joinMakerBehind_72 rfl (fun i107 r108 hi110 hw111 hq112 => ?_)
          obtain ⟨e114, h⟩ := hq112
          subst e114
          refine V.pick [1, 2, 3, 4, 5, 6, 0] rfl ?_
          exact jn75 x4j28 x5j28 (wr (1 - v88)) i107 hx4j28 hx5j28 ((sR_wr _)) hi110 h
      · have h := f87 c85
        clear t86 f87
        refine V.pick [] rfl ?_
        exact jn40 ij28 hij28 h
  refine V.iconst (pc := 0) hG dX2_joinMakerBehind_0 ?_
  refine V.istore (pc := 1) (lv' := [(4, .int (sJ 0)), (0, .ref (sA Δ 168)), (1, .ref (sA Δ 67)), (2, .int (sJ p2)), (3, .int (sJ p3))]) hG dX2_joinMakerBehind_1 (by decide) rfl ?_
  refine V.aload_n (pc := 3) hG dX2_joinMakerBehind_3 rfl 2 rfl ?_
  refine V.iload_n (pc := 4) hG dX2_joinMakerBehind_4 rfl 3 rfl ?_
  refine V.iload_n (pc := 5) hG dX2_joinMakerBehind_5 rfl 4 rfl ?_
  refine V.callVNi (pc := 6) (As := [.int (sJ p2), .int (sJ p3)]) (stk := []) hG (sm_X0_nextMakerBehind l Δ hp2 hp3 hi hw h) mY_X0_nextMakerBehind kw_910 kw_912 kw_45 a_67 (by decide) (q := (RX0, TX0, 5)) rfl rfl ⟨Nat.le_of_ble_eq_true rfl, Nat.le_of_ble_eq_true rfl, Nat.le_of_ble_eq_true rfl, Nat.le_of_ble_eq_true rfl⟩ rfl (Nat.le_of_ble_eq_true rfl) dX2_joinMakerBehind_6 rfl (fun v119 i120 r121 hv122 hi123 hw124 hq125 => ?_)
  obtain ⟨e138, e139, h⟩ := hq125
  subst e138
  subst e139
  refine V.istore (pc := 9) (lv' := [(5, .int (sJ v119)), (4, .int (sJ 0)), (0, .ref (sA Δ 168)), (1, .ref (sA Δ 67)), (2, .int (sJ p2)), (3, .int (sJ p3))]) hG dX2_joinMakerBehind_9 (by decide) rfl ?_
  refine V.iload (pc := 11) hG dX2_joinMakerBehind_11 0 rfl ?_
  refine V.iconst (pc := 13) hG dX2_joinMakerBehind_13 ?_
  obtain ⟨f128, t127⟩ := h
  refine V.icmp_ne (pc := 14) (tgt := 28) hG hv122 ((sR_l rfl)) dX2_joinMakerBehind_14 (by decide) (fun c126 => ?_) (fun c126 => ?_)
  · have h := t127 c126
    clear t127 f128
    refine V.pick [2, 3, 4, 5, 1, 0] rfl ?_
    exact jn28 0 v119 i ((sR_l rfl)) hv122 hi h
  · have h := f128 c126
    clear t127 f128
    refine V.iconst (pc := 17) hG dX2_joinMakerBehind_17 ?_
    refine V.istore (pc := 18) (lv' := [(4, .int (sJ 1)), (5, .int (sJ v119)), (0, .ref (sA Δ 168)), (1, .ref (sA Δ 67)), (2, .int (sJ p2)), (3, .int (sJ p3))]) hG dX2_joinMakerBehind_18 (by decide) rfl ?_
    refine V.aload_n (pc := 20) hG dX2_joinMakerBehind_20 rfl 3 rfl ?_
    refine V.iload_n (pc := 21) hG dX2_joinMakerBehind_21 rfl 4 rfl ?_
    refine V.iconst (pc := 22) hG dX2_joinMakerBehind_22 ?_
    refine V.callVNi (pc := 23) (As := [.int (sJ p2), .int (sJ (-1))]) (stk := []) hG (sm_X0_nextMakerBehind l Δ hp2 ((sR_l rfl)) hi hw h) mY_X0_nextMakerBehind kw_910 kw_912 kw_45 a_67 (by decide) (q := (RX0, TX0, 5)) rfl rfl ⟨Nat.le_of_ble_eq_true rfl, Nat.le_of_ble_eq_true rfl, Nat.le_of_ble_eq_true rfl, Nat.le_of_ble_eq_true rfl⟩ rfl (Nat.le_of_ble_eq_true rfl) dX2_joinMakerBehind_23 rfl (fun v129 i130 r131 hv132 hi133 hw134 hq135 => ?_)
    obtain ⟨e136, e137, h⟩ := hq135
    subst e136
    subst e137
    refine V.istore (pc := 26) (lv' := [(5, .int (sJ v129)), (4, .int (sJ 1)), (0, .ref (sA Δ 168)), (1, .ref (sA Δ 67)), (2, .int (sJ p2)), (3, .int (sJ p3))]) hG dX2_joinMakerBehind_26 (by decide) rfl ?_
    refine V.pick [2, 3, 4, 5, 1, 0] rfl ?_
    exact jn28 1 v129 i ((sR_l rfl)) hv132 hi h
set_option maxRecDepth 100000 in
set_option maxHeartbeats 4000000 in
theorem sm_X2_joinRegister (l : Launch) (Δ : Wd) {i r : MI} {p2 : Int} (hp2 : sR p2) {Q : MI → Prop} (hi : okI i) (hw : Wf r) (h : wp_X2_joinRegister p2 i r Q) : Met l yX2_joinRegister (Cond.code yX2_joinRegister cX2_joinRegister 6 none :: gW) (sRm 3 75) (sPc Δ [.ref (sA Δ 168), .ref (sA Δ 67), .int (sJ p2)] i r) (sQv Δ (fun i' r' => r = r' ∧ Q i')) 0 0 (sFr Δ) := by
  refine Ct.v (by decide) rfl (Nat.le_of_ble_eq_true rfl) (fun Γ Q0 hG fin => ?_)
  have hG : okG Γ Δ l (sRm 3 75) cX2_joinRegister "Schedulary$Graph" 6 := hG
  show V Γ Δ 542 false i r 0 0 Q0 0 [(0, .ref (sA Δ 168)), (1, .ref (sA Δ 67)), (2, .int (sJ p2))] []
  refine V.aload_n (pc := 0) hG dX2_joinRegister_0 rfl 1 rfl ?_
  refine V.iload_n (pc := 1) hG dX2_joinRegister_1 rfl 2 rfl ?_
  refine V.iconst (pc := 2) hG dX2_joinRegister_2 ?_
  refine V.callVNi (pc := 3) (As := [.int (sJ p2), .int (sJ (-1))]) (stk := []) hG (sm_X0_nextMakerBehind l Δ hp2 ((sR_l rfl)) hi hw h) mY_X0_nextMakerBehind kw_910 kw_912 kw_45 a_67 (by decide) (q := (RX0, TX0, 5)) rfl rfl ⟨Nat.le_of_ble_eq_true rfl, Nat.le_of_ble_eq_true rfl, Nat.le_of_ble_eq_true rfl, Nat.le_of_ble_eq_true rfl⟩ rfl (Nat.le_of_ble_eq_true rfl) dX2_joinRegister_3 rfl (fun v1 i2 r3 hv4 hi5 hw6 hq7 => ?_)
  obtain ⟨e127, e128, h⟩ := hq7
  subst e127
  subst e128
  refine V.iconst (pc := 6) hG dX2_joinRegister_6 ?_
  obtain ⟨f10, t9⟩ := h
  refine V.icmp_ne (pc := 7) (tgt := 11) hG hv4 ((sR_l rfl)) dX2_joinRegister_7 (by decide) (fun c8 => ?_) (fun c8 => ?_)
  · have h := t9 c8
    clear t9 f10
    refine V.iconst (pc := 11) hG dX2_joinRegister_11 ?_
    refine V.istore_n (pc := 12) (lv' := [(3, .int (sJ 0)), (0, .ref (sA Δ 168)), (1, .ref (sA Δ 67)), (2, .int (sJ p2))]) hG dX2_joinRegister_12 rfl (by decide) rfl ?_
    obtain ⟨n55, h⟩ := h
    have lp13 : ∀ (m13 : Nat) (x3_13 : Int) (i_13 : MI), sR x3_13 → okI i_13 → LoopP (b13_X2_joinRegister p2 r Q) m13 (x3_13, i_13) → V Γ Δ 542 false i_13 r 0 0 Q0 13 [(0, .ref (sA Δ 168)), (1, .ref (sA Δ 67)), (2, .int (sJ p2)), (3, .int (sJ x3_13))] [] := by
      intro m13
      induction m13 with
      | zero => intro x3_13 i_13 hx3_13 hi_13 h; exact h.elim
      | succ m13 ih13 =>
        intro x3_13 i_13 hx3_13 hi_13 h
        have h := LoopP_succ h
        have jn82 : ∀ (x3j82 : Int) (ij82 : MI), sR x3j82 → okI ij82 → s82_X2_joinRegister p2 x3j82 ij82 r Q (LoopP (b13_X2_joinRegister p2 r Q) m13) → V Γ Δ 542 false ij82 r 0 0 Q0 82 [(0, .ref (sA Δ 168)), (1, .ref (sA Δ 67)), (2, .int (sJ p2)), (3, .int (sJ x3j82))] [] := by
          intro x3j82 ij82 hx3j82 hij82 h
          refine V.iinc (pc := 82) (lv' := [(3, .int (sJ (wr (x3j82 + 1)))), (0, .ref (sA Δ 168)), (1, .ref (sA Δ 67)), (2, .int (sJ p2))]) hG dX2_joinRegister_82 3 rfl (by decide) rfl ?_
          refine V.goto (pc := 85) (tgt := 13) hG dX2_joinRegister_85 (by decide) ?_
          refine V.pick [1, 2, 3, 0] rfl ?_
          exact ih13 (wr (x3j82 + 1)) ij82 ((sR_wr _)) hij82 h
        have jn75 : ∀ (x3j75 : Int) (ij75 : MI), sR x3j75 → okI ij75 → s75_X2_joinRegister p2 x3j75 ij75 r Q (LoopP (b13_X2_joinRegister p2 r Q) m13) → V Γ Δ 542 false ij75 r 0 0 Q0 75 [(0, .ref (sA Δ 168)), (1, .ref (sA Δ 67)), (2, .int (sJ p2)), (3, .int (sJ x3j75))] [] := by
          intro x3j75 ij75 hx3j75 hij75 h
          refine V.aload_n (pc := 75) hG dX2_joinRegister_75 rfl 0 rfl ?_
          refine V.aload_n (pc := 76) hG dX2_joinRegister_76 rfl 1 rfl ?_
          refine V.iload_n (pc := 77) hG dX2_joinRegister_77 rfl 2 rfl ?_
          refine V.iload_n (pc := 78) hG dX2_joinRegister_78 rfl 3 rfl ?_
          refine V.callVv (pc := 79) (As := [.ref (sA Δ 67), .int (sJ p2), .int (sJ x3j75)]) (stk := []) hG (sm_X2_joinMakerBehind l Δ hp2 hx3j75 hij75 hw h) mY_X2_joinMakerBehind kw_926 kw_928 kw_49 a_168 (by decide) (q := (RX2, TX2, 5)) rfl rfl ⟨Nat.le_of_ble_eq_true rfl, Nat.le_of_ble_eq_true rfl, Nat.le_of_ble_eq_true rfl, Nat.le_of_ble_eq_true rfl⟩ rfl (Nat.le_of_ble_eq_true rfl) dX2_joinRegister_79 rfl (fun i66 r67 hi69 hw70 hq71 => ?_)
          obtain ⟨e73, h⟩ := hq71
          subst e73
          exact jn82 x3j75 i66 hx3j75 hi69 h
        have jn65 : ∀ (x3j65 : Int) (x4j65 : Int) (x5j65 : Int) (ij65 : MI), sR x3j65 → sR x4j65 → sR x5j65 → okI ij65 → s65_X2_joinRegister p2 x3j65 x4j65 x5j65 ij65 r Q (LoopP (b13_X2_joinRegister p2 r Q) m13) → V Γ Δ 542 false ij65 r 0 0 Q0 65 [(0, .ref (sA Δ 168)), (1, .ref (sA Δ 67)), (2, .int (sJ p2)), (3, .int (sJ x3j65)), (4, .int (sJ x4j65)), (5, .int (sJ x5j65))] [] := by
          intro x3j65 x4j65 x5j65 ij65 hx3j65 hx4j65 hx5j65 hij65 h
          refine V.iload (pc := 65) hG dX2_joinRegister_65 4 rfl ?_
          obtain ⟨f82, t81⟩ := h
          refine V.if_ne (pc := 67) (tgt := 75) hG hx4j65 dX2_joinRegister_67 (by decide) (fun c80 => ?_) (fun c80 => ?_)
          · have h := t81 c80
            clear t81 f82
            refine V.pick [0, 1, 2, 3] rfl ?_
            exact jn75 x3j65 ij65 hx3j65 hij65 h
          · have h := f82 c80
            clear t81 f82
            refine V.iload (pc := 70) hG dX2_joinRegister_70 5 rfl ?_
            obtain ⟨t84, f85⟩ := h
            refine V.if_eq (pc := 72) (tgt := 82) hG hx5j65 dX2_joinRegister_72 (by decide) (fun c83 => ?_) (fun c83 => ?_)
            · have h := t84 c83
              clear t84 f85
              refine V.pick [0, 1, 2, 3] rfl ?_
              exact jn82 x3j65 ij65 hx3j65 hij65 h
            · have h := f85 c83
              clear t84 f85
              refine V.pick [0, 1, 2, 3] rfl ?_
              exact jn75 x3j65 ij65 hx3j65 hij65 h
        have jn51 : ∀ (x3j51 : Int) (x4j51 : Int) (k0j51 : Int) (ij51 : MI), sR x3j51 → sR x4j51 → sR k0j51 → okI ij51 → s51_X2_joinRegister p2 x3j51 x4j51 k0j51 ij51 r Q (LoopP (b13_X2_joinRegister p2 r Q) m13) → V Γ Δ 542 false ij51 r 0 0 Q0 51 [(0, .ref (sA Δ 168)), (1, .ref (sA Δ 67)), (2, .int (sJ p2)), (3, .int (sJ x3j51)), (4, .int (sJ x4j51))] [.int (sJ k0j51)] := by
          intro x3j51 x4j51 k0j51 ij51 hx3j51 hx4j51 hk0j51 hij51 h
          refine V.istore (pc := 51) (lv' := [(5, .int (sJ k0j51)), (0, .ref (sA Δ 168)), (1, .ref (sA Δ 67)), (2, .int (sJ p2)), (3, .int (sJ x3j51)), (4, .int (sJ x4j51))]) hG dX2_joinRegister_51 (by decide) rfl ?_
          refine V.iload (pc := 53) hG dX2_joinRegister_53 5 rfl ?_
          obtain ⟨t99, f100⟩ := h
          refine V.if_eq (pc := 55) (tgt := 65) hG hx4j51 dX2_joinRegister_55 (by decide) (fun c98 => ?_) (fun c98 => ?_)
          · have h := t99 c98
            clear t99 f100
            refine V.pick [1, 2, 3, 4, 5, 0] rfl ?_
            exact jn65 x3j51 x4j51 k0j51 ij51 hx3j51 hx4j51 hk0j51 hij51 h
          · have h := f100 c98
            clear t99 f100
            refine V.aload_n (pc := 58) hG dX2_joinRegister_58 rfl 1 rfl ?_
            refine V.aload_n (pc := 59) hG dX2_joinRegister_59 rfl 2 rfl ?_
            refine V.iload_n (pc := 60) hG dX2_joinRegister_60 rfl 3 rfl ?_
            refine V.iload_n (pc := 61) hG dX2_joinRegister_61 rfl 4 rfl ?_
            refine V.callVv (pc := 62) (As := [.ref (sA Δ 67), .int (sJ p2), .int (sJ x3j51)]) (stk := []) hG (sm_X2_joinMakerAhead l Δ hp2 hx3j51 hij51 hw h) mY_X2_joinMakerAhead kw_918 kw_920 kw_47 a_168 (by decide) (q := (RX2, TX2, 5)) rfl rfl ⟨Nat.le_of_ble_eq_true rfl, Nat.le_of_ble_eq_true rfl, Nat.le_of_ble_eq_true rfl, Nat.le_of_ble_eq_true rfl⟩ rfl (Nat.le_of_ble_eq_true rfl) dX2_joinRegister_62 rfl (fun i102 r103 hi105 hw106 hq107 => ?_)
            obtain ⟨e109, h⟩ := hq107
            subst e109
            refine V.pick [1, 2, 3, 4, 5, 0] rfl ?_
            exact jn65 x3j51 x4j51 k0j51 i102 hx3j51 hx4j51 hk0j51 hi105 h
        refine V.iload_n (pc := 13) hG dX2_joinRegister_13 rfl 3 rfl ?_
        refine V.aload_n (pc := 14) hG dX2_joinRegister_14 rfl 1 rfl ?_
        refine V.getIN (pc := 15) (ci := 2) (k := 4) (M := 5) (T := TX0) (o := 67) (kz := 4) hG a_67 a_67.n (by decide) hin_X0 rfl (by decide) (by decide) rfl kw_420 rfl dX2_joinRegister_15 ?_
        obtain ⟨t111, f112⟩ := h
        refine V.icmp_ge (pc := 18) (tgt := 88) hG hx3_13 ((hi_13 _ _)) dX2_joinRegister_18 (by decide) (fun c110 => ?_) (fun c110 => ?_)
        · have h := t111 c110
          clear t111 f112
          exact fin dX2_joinRegister_88 hi_13 hw ⟨rfl, h⟩
        · have h := f112 c110
          clear t111 f112
          refine V.aload_n (pc := 21) hG dX2_joinRegister_21 rfl 1 rfl ?_
          refine V.getRN (x := 68) (pc := 22) (ci := 2) (k := 0) (M := 5) (T := TX0) (o := 67) (kz := 0) hG a_67 a_67.n (by decide) hin_X0 rfl (by decide) (by decide) rfl kw_404 rfl ((hw).1 (67, 0, 68) (by decide)) (by decide) dX2_joinRegister_22 ?_
          refine V.iload_n (pc := 25) hG dX2_joinRegister_25 rfl 3 rfl ?_
          obtain ⟨g113, h⟩ := h
          refine V.aald (pc := 26) 6 (z := 96) (o := 68) (x := x3_13) (y := 72 + x3_13) hG a_68 a_68.n (by decide) hx3_13 g113 (hw.2.1 (68, 96, 72) (by decide) _ g113.1 g113.2) (by omega) dX2_joinRegister_26 ?_
          refine V.iload_n (pc := 27) hG dX2_joinRegister_27 rfl 2 rfl ?_
          refine V.callVNi (pc := 28) (As := [.int (sJ p2)]) (stk := []) hG (sm_X3_isUsing l Δ ((node_o g113.1 g113.2)) hp2 hi_13 hw h) mY_X3_isUsing kw_914 kw_916 kw_46 (node_o g113.1 g113.2) (by decide) (q := (RX3, TX3, 13)) rfl rfl ⟨Nat.le_of_ble_eq_true rfl, Nat.le_of_ble_eq_true rfl, Nat.le_of_ble_eq_true rfl, Nat.le_of_ble_eq_true rfl⟩ rfl (Nat.le_of_ble_eq_true rfl) dX2_joinRegister_28 rfl (fun v114 i115 r116 hv117 hi118 hw119 hq120 => ?_)
          obtain ⟨e125, e126, h⟩ := hq120
          subst e125
          subst e126
          refine V.istore (pc := 31) (lv' := [(4, .int (sJ v114)), (0, .ref (sA Δ 168)), (1, .ref (sA Δ 67)), (2, .int (sJ p2)), (3, .int (sJ x3_13))]) hG dX2_joinRegister_31 (by decide) rfl ?_
          refine V.aload_n (pc := 33) hG dX2_joinRegister_33 rfl 2 rfl ?_
          refine V.getRN (x := 68) (pc := 34) (ci := 2) (k := 0) (M := 5) (T := TX0) (o := 67) (kz := 0) hG a_67 a_67.n (by decide) hin_X0 rfl (by decide) (by decide) rfl kw_404 rfl ((hw).1 (67, 0, 68) (by decide)) (by decide) dX2_joinRegister_34 ?_
          refine V.iload_n (pc := 37) hG dX2_joinRegister_37 rfl 4 rfl ?_
          obtain ⟨g121, h⟩ := h
          refine V.aald (pc := 38) 6 (z := 96) (o := 68) (x := x3_13) (y := 72 + x3_13) hG a_68 a_68.n (by decide) hx3_13 g121 (hw.2.1 (68, 96, 72) (by decide) _ g121.1 g121.2) (by omega) dX2_joinRegister_38 ?_
          refine V.getIN (pc := 39) (ci := 5) (k := 8) (M := 13) (T := TX3) (o := 72 + x3_13) (kz := 8) hG (node_o g121.1 g121.2) ((node_o g121.1 g121.2)).n (by decide) hin_X3 rfl (by decide) (by decide) rfl kw_362 rfl dX2_joinRegister_39 ?_
          refine V.iload_n (pc := 42) hG dX2_joinRegister_42 rfl 3 rfl ?_
          obtain ⟨f124, t123⟩ := h
          refine V.icmp_ne (pc := 43) (tgt := 50) hG ((hi_13 _ _)) hp2 dX2_joinRegister_43 (by decide) (fun c122 => ?_) (fun c122 => ?_)
          · have h := t123 c122
            clear t123 f124
            refine V.iconst (pc := 50) hG dX2_joinRegister_50 ?_
            refine V.pick [1, 2, 3, 4, 0] rfl ?_
            exact jn51 x3_13 v114 0 i_13 hx3_13 hv117 ((sR_l rfl)) hi_13 h
          · have h := f124 c122
            clear t123 f124
            refine V.iconst (pc := 46) hG dX2_joinRegister_46 ?_
            refine V.goto (pc := 47) (tgt := 51) hG dX2_joinRegister_47 (by decide) ?_
            refine V.pick [1, 2, 3, 4, 0] rfl ?_
            exact jn51 x3_13 v114 1 i_13 hx3_13 hv117 ((sR_l rfl)) hi_13 h
    refine V.pick [1, 2, 3, 0] rfl ?_
    exact lp13 n55 0 i ((sR_l rfl)) hi h
  · have h := f10 c8
    clear t9 f10
    exact fin dX2_joinRegister_10 hi hw ⟨rfl, h⟩
set_option maxRecDepth 100000 in
set_option maxHeartbeats 4000000 in
theorem sm_X2_joinGiver (l : Launch) (Δ : Wd) {i r : MI} {p2 : Int} {p3 : Int} (hp2 : sR p2) (hp3 : sR p3) {Q : MI → Prop} (hi : okI i) (hw : Wf r) (h : wp_X2_joinGiver p2 p3 i r Q) : Met l yX2_joinGiver (Cond.code yX2_joinGiver cX2_joinGiver 4 none :: gW) (sRm 2 49) (sPc Δ [.ref (sA Δ 168), .ref (sA Δ 67), .int (sJ p2), .int (sJ p3)] i r) (sQv Δ (fun i' r' => r = r' ∧ Q i')) 0 0 (sFr Δ) := by
  refine Ct.v (by decide) rfl (Nat.le_of_ble_eq_true rfl) (fun Γ Q0 hG fin => ?_)
  have hG : okG Γ Δ l (sRm 2 49) cX2_joinGiver "Schedulary$Graph" 4 := hG
  show V Γ Δ 542 false i r 0 0 Q0 0 [(0, .ref (sA Δ 168)), (1, .ref (sA Δ 67)), (2, .int (sJ p2)), (3, .int (sJ p3))] []
  have jn17 : ∀  (ij17 : MI), okI ij17 → s17_X2_joinGiver ij17 r Q → V Γ Δ 542 false ij17 r 0 0 Q0 17 [] [] := by
    intro ij17 hij17 h
    exact fin dX2_joinGiver_17 hij17 hw ⟨rfl, h⟩
  refine V.iload_n (pc := 0) hG dX2_joinGiver_0 rfl 2 rfl ?_
  refine V.iconst (pc := 1) hG dX2_joinGiver_1 ?_
  obtain ⟨t2, f3⟩ := h
  refine V.icmp_eq (pc := 2) (tgt := 17) hG hp2 ((sR_l rfl)) dX2_joinGiver_2 (by decide) (fun c1 => ?_) (fun c1 => ?_)
  · have h := t2 c1
    clear t2 f3
    refine V.pick [] rfl ?_
    exact jn17 i hi h
  · have h := f3 c1
    clear t2 f3
    refine V.aload_n (pc := 5) hG dX2_joinGiver_5 rfl 0 rfl ?_
    refine V.iload_n (pc := 6) hG dX2_joinGiver_6 rfl 2 rfl ?_
    refine V.iload_n (pc := 7) hG dX2_joinGiver_7 rfl 3 rfl ?_
    refine V.iconst (pc := 8) hG dX2_joinGiver_8 ?_
    refine V.aload_n (pc := 9) hG dX2_joinGiver_9 rfl 1 rfl ?_
    refine V.iload_n (pc := 10) hG dX2_joinGiver_10 rfl 2 rfl ?_
    refine V.callVNi (pc := 11) (As := [.int (sJ p2)]) (stk := [.int (sJ 0), .int (sJ p3), .int (sJ p2), .ref (sA Δ 168)]) hG (sm_X0_cyclesOf l Δ hp2 hi hw h) mY_X0_cyclesOf kw_893 kw_895 kw_41 a_67 (by decide) (q := (RX0, TX0, 5)) rfl rfl ⟨Nat.le_of_ble_eq_true rfl, Nat.le_of_ble_eq_true rfl, Nat.le_of_ble_eq_true rfl, Nat.le_of_ble_eq_true rfl⟩ rfl (Nat.le_of_ble_eq_true rfl) dX2_joinGiver_11 rfl (fun v4 i5 r6 hv7 hi8 hw9 hq10 => ?_)
    obtain ⟨e20, e21, h⟩ := hq10
    subst e20
    subst e21
    refine V.callVv (pc := 14) (As := [.int (sJ p2), .int (sJ p3), .int (sJ 0), .int (sJ v4)]) (stk := []) hG (sm_X2_put l Δ hp2 hp3 ((sR_l rfl)) hv7 hi hw h) mY_X2_put kw_897 kw_899 kw_42 a_168 (by decide) (q := (RX2, TX2, 5)) rfl rfl ⟨Nat.le_of_ble_eq_true rfl, Nat.le_of_ble_eq_true rfl, Nat.le_of_ble_eq_true rfl, Nat.le_of_ble_eq_true rfl⟩ rfl (Nat.le_of_ble_eq_true rfl) dX2_joinGiver_14 rfl (fun i12 r13 hi15 hw16 hq17 => ?_)
    obtain ⟨e19, h⟩ := hq17
    subst e19
    refine V.pick [] rfl ?_
    exact jn17 i12 hi15 h
set_option maxRecDepth 100000 in
set_option maxHeartbeats 4000000 in
theorem sm_X2_joinWithinStatements (l : Launch) (Δ : Wd) {i r : MI}   {Q : MI → Prop} (hi : okI i) (hw : Wf r) (h : wp_X2_joinWithinStatements  i r Q) : Met l yX2_joinWithinStatements (Cond.code yX2_joinWithinStatements cX2_joinWithinStatements 3 none :: gW) (sRm 3 72) (sPc Δ [.ref (sA Δ 168), .ref (sA Δ 67)] i r) (sQv Δ (fun i' r' => r = r' ∧ Q i')) 0 0 (sFr Δ) := by
  refine Ct.v (by decide) rfl (Nat.le_of_ble_eq_true rfl) (fun Γ Q0 hG fin => ?_)
  have hG : okG Γ Δ l (sRm 3 72) cX2_joinWithinStatements "Schedulary$Graph" 3 := hG
  show V Γ Δ 542 false i r 0 0 Q0 0 [(0, .ref (sA Δ 168)), (1, .ref (sA Δ 67))] []
  refine V.iconst (pc := 0) hG dX2_joinWithinStatements_0 ?_
  refine V.istore_n (pc := 1) (lv' := [(2, .int (sJ 0)), (0, .ref (sA Δ 168)), (1, .ref (sA Δ 67))]) hG dX2_joinWithinStatements_1 rfl (by decide) rfl ?_
  obtain ⟨n24, h⟩ := h
  have lp2 : ∀ (m2 : Nat) (x2_2 : Int) (i_2 : MI), sR x2_2 → okI i_2 → LoopP (b2_X2_joinWithinStatements r Q) m2 (x2_2, i_2) → V Γ Δ 542 false i_2 r 0 0 Q0 2 [(0, .ref (sA Δ 168)), (1, .ref (sA Δ 67)), (2, .int (sJ x2_2))] [] := by
    intro m2
    induction m2 with
    | zero => intro x2_2 i_2 hx2_2 hi_2 h; exact h.elim
    | succ m2 ih2 =>
      intro x2_2 i_2 hx2_2 hi_2 h
      have h := LoopP_succ h
      refine V.iload_n (pc := 2) hG dX2_joinWithinStatements_2 rfl 2 rfl ?_
      refine V.aload_n (pc := 3) hG dX2_joinWithinStatements_3 rfl 1 rfl ?_
      refine V.getIN (pc := 4) (ci := 2) (k := 4) (M := 5) (T := TX0) (o := 67) (kz := 4) hG a_67 a_67.n (by decide) hin_X0 rfl (by decide) (by decide) rfl kw_420 rfl dX2_joinWithinStatements_4 ?_
      obtain ⟨t26, f27⟩ := h
      refine V.icmp_ge (pc := 7) (tgt := 46) hG hx2_2 ((hi_2 _ _)) dX2_joinWithinStatements_7 (by decide) (fun c25 => ?_) (fun c25 => ?_)
      · have h := t26 c25
        clear t26 f27
        exact fin dX2_joinWithinStatements_46 hi_2 hw ⟨rfl, h⟩
      · have h := f27 c25
        clear t26 f27
        refine V.aload_n (pc := 10) hG dX2_joinWithinStatements_10 rfl 0 rfl ?_
        refine V.aload_n (pc := 11) hG dX2_joinWithinStatements_11 rfl 1 rfl ?_
        refine V.aload_n (pc := 12) hG dX2_joinWithinStatements_12 rfl 1 rfl ?_
        refine V.getRN (x := 68) (pc := 13) (ci := 2) (k := 0) (M := 5) (T := TX0) (o := 67) (kz := 0) hG a_67 a_67.n (by decide) hin_X0 rfl (by decide) (by decide) rfl kw_404 rfl ((hw).1 (67, 0, 68) (by decide)) (by decide) dX2_joinWithinStatements_13 ?_
        refine V.iload_n (pc := 16) hG dX2_joinWithinStatements_16 rfl 2 rfl ?_
        obtain ⟨g28, h⟩ := h
        refine V.aald (pc := 17) 6 (z := 96) (o := 68) (x := x2_2) (y := 72 + x2_2) hG a_68 a_68.n (by decide) hx2_2 g28 (hw.2.1 (68, 96, 72) (by decide) _ g28.1 g28.2) (by omega) dX2_joinWithinStatements_17 ?_
        refine V.getIN (pc := 18) (ci := 5) (k := 5) (M := 13) (T := TX3) (o := 72 + x2_2) (kz := 5) hG (node_o g28.1 g28.2) ((node_o g28.1 g28.2)).n (by decide) hin_X3 rfl (by decide) (by decide) rfl kw_351 rfl dX2_joinWithinStatements_18 ?_
        refine V.iload_n (pc := 21) hG dX2_joinWithinStatements_21 rfl 2 rfl ?_
        refine V.callVv (pc := 22) (As := [.ref (sA Δ 67), .int (sJ (i_2 (72 + x2_2) 5)), .int (sJ x2_2)]) (stk := []) hG (sm_X2_joinGiver l Δ ((hi_2 _ _)) hx2_2 hi_2 hw h) mY_X2_joinGiver kw_889 kw_891 kw_40 a_168 (by decide) (q := (RX2, TX2, 5)) rfl rfl ⟨Nat.le_of_ble_eq_true rfl, Nat.le_of_ble_eq_true rfl, Nat.le_of_ble_eq_true rfl, Nat.le_of_ble_eq_true rfl⟩ rfl (Nat.le_of_ble_eq_true rfl) dX2_joinWithinStatements_22 rfl (fun i30 r31 hi33 hw34 hq35 => ?_)
        obtain ⟨e47, h⟩ := hq35
        subst e47
        refine V.aload_n (pc := 25) hG dX2_joinWithinStatements_25 rfl 0 rfl ?_
        refine V.aload_n (pc := 26) hG dX2_joinWithinStatements_26 rfl 1 rfl ?_
        refine V.aload_n (pc := 27) hG dX2_joinWithinStatements_27 rfl 1 rfl ?_
        refine V.getRN (x := 68) (pc := 28) (ci := 2) (k := 0) (M := 5) (T := TX0) (o := 67) (kz := 0) hG a_67 a_67.n (by decide) hin_X0 rfl (by decide) (by decide) rfl kw_404 rfl ((hw).1 (67, 0, 68) (by decide)) (by decide) dX2_joinWithinStatements_28 ?_
        refine V.iload_n (pc := 31) hG dX2_joinWithinStatements_31 rfl 2 rfl ?_
        obtain ⟨g36, h⟩ := h
        refine V.aald (pc := 32) 6 (z := 96) (o := 68) (x := x2_2) (y := 72 + x2_2) hG a_68 a_68.n (by decide) hx2_2 g36 (hw.2.1 (68, 96, 72) (by decide) _ g36.1 g36.2) (by omega) dX2_joinWithinStatements_32 ?_
        refine V.getIN (pc := 33) (ci := 5) (k := 6) (M := 13) (T := TX3) (o := 72 + x2_2) (kz := 6) hG (node_o g36.1 g36.2) ((node_o g36.1 g36.2)).n (by decide) hin_X3 rfl (by decide) (by decide) rfl kw_355 rfl dX2_joinWithinStatements_33 ?_
        refine V.iload_n (pc := 36) hG dX2_joinWithinStatements_36 rfl 2 rfl ?_
        refine V.callVv (pc := 37) (As := [.ref (sA Δ 67), .int (sJ (i30 (72 + x2_2) 6)), .int (sJ x2_2)]) (stk := []) hG (sm_X2_joinGiver l Δ ((hi33 _ _)) hx2_2 hi33 hw h) mY_X2_joinGiver kw_889 kw_891 kw_40 a_168 (by decide) (q := (RX2, TX2, 5)) rfl rfl ⟨Nat.le_of_ble_eq_true rfl, Nat.le_of_ble_eq_true rfl, Nat.le_of_ble_eq_true rfl, Nat.le_of_ble_eq_true rfl⟩ rfl (Nat.le_of_ble_eq_true rfl) dX2_joinWithinStatements_37 rfl (fun i38 r39 hi41 hw42 hq43 => ?_)
        obtain ⟨e45, h⟩ := hq43
        subst e45
        refine V.iinc (pc := 40) (lv' := [(2, .int (sJ (wr (x2_2 + 1)))), (0, .ref (sA Δ 168)), (1, .ref (sA Δ 67))]) hG dX2_joinWithinStatements_40 2 rfl (by decide) rfl ?_
        refine V.goto (pc := 43) (tgt := 2) hG dX2_joinWithinStatements_43 (by decide) ?_
        refine V.pick [1, 2, 0] rfl ?_
        exact ih2 (wr (x2_2 + 1)) i38 ((sR_wr _)) hi41 h
  refine V.pick [1, 2, 0] rfl ?_
  exact lp2 n24 0 i ((sR_l rfl)) hi h
set_option maxRecDepth 100000 in
set_option maxHeartbeats 4000000 in
theorem sm_X2_join (l : Launch) (Δ : Wd) {i r : MI} {p2 : Int} (hp2 : sR p2) {Q : MI → Prop} (hi : okI i) (hw : Wf r) (h : wp_X2_join p2 i r Q) : Met l yX2_join (Cond.code yX2_join cX2_join 4 none :: gW) (sRm 4 101) (sPc Δ [.ref (sA Δ 168), .ref (sA Δ 67), .int (sJ p2)] i r) (sQv Δ (fun i' r' => r = r' ∧ Q i')) 0 0 (sFr Δ) := by
  refine Ct.v (by decide) rfl (Nat.le_of_ble_eq_true rfl) (fun Γ Q0 hG fin => ?_)
  have hG : okG Γ Δ l (sRm 4 101) cX2_join "Schedulary$Graph" 4 := hG
  show V Γ Δ 542 false i r 0 0 Q0 0 [(0, .ref (sA Δ 168)), (1, .ref (sA Δ 67)), (2, .int (sJ p2))] []
  refine V.aload_n (pc := 0) hG dX2_join_0 rfl 0 rfl ?_
  refine V.iconst (pc := 1) hG dX2_join_1 ?_
  refine V.putI (pc := 2) (ci := 4) (k := 4) (M := 5) (T := TX2) (o := 168) (kz := 4) hG a_168 a_168.n (by decide) hin_X2 rfl (by decide) (by decide) rfl kw_453 rfl tyX2 tyX2_ok nmX2 rfl (ty := tyX2 4) (tyX2_ok 4 (by decide)) rfl rfl dX2_join_2 ?_
  refine V.iconst (pc := 5) hG dX2_join_5 ?_
  refine V.istore_n (pc := 6) (lv' := [(3, .int (sJ 0)), (0, .ref (sA Δ 168)), (1, .ref (sA Δ 67)), (2, .int (sJ p2))]) hG dX2_join_6 rfl (by decide) rfl ?_
  obtain ⟨n131, h⟩ := h
  have lp7 : ∀ (m7 : Nat) (x3_7 : Int) (i_7 : MI), sR x3_7 → okI i_7 → LoopP (b7_X2_join p2 r Q) m7 (x3_7, i_7) → V Γ Δ 542 false i_7 r 0 0 Q0 7 [(0, .ref (sA Δ 168)), (1, .ref (sA Δ 67)), (2, .int (sJ p2)), (3, .int (sJ x3_7))] [] := by
    intro m7
    induction m7 with
    | zero => intro x3_7 i_7 hx3_7 hi_7 h; exact h.elim
    | succ m7 ih7 =>
      intro x3_7 i_7 hx3_7 hi_7 h
      have h := LoopP_succ h
      refine V.iload_n (pc := 7) hG dX2_join_7 rfl 3 rfl ?_
      refine V.bipush (pc := 8) hG dX2_join_8 (by decide) ?_
      obtain ⟨t133, f134⟩ := h
      refine V.icmp_ge (pc := 10) (tgt := 26) hG hx3_7 ((sR_l rfl)) dX2_join_10 (by decide) (fun c132 => ?_) (fun c132 => ?_)
      · have h := t133 c132
        clear t133 f134
        refine V.aload_n (pc := 26) hG dX2_join_26 rfl 0 rfl ?_
        refine V.aload_n (pc := 27) hG dX2_join_27 rfl 1 rfl ?_
        refine V.callVv (pc := 28) (As := [.ref (sA Δ 67)]) (stk := []) hG (sm_X2_joinWithinStatements l Δ  hi_7 hw h) mY_X2_joinWithinStatements kw_885 kw_887 kw_39 a_168 (by decide) (q := (RX2, TX2, 5)) rfl rfl ⟨Nat.le_of_ble_eq_true rfl, Nat.le_of_ble_eq_true rfl, Nat.le_of_ble_eq_true rfl, Nat.le_of_ble_eq_true rfl⟩ rfl (Nat.le_of_ble_eq_true rfl) dX2_join_28 rfl (fun i136 r137 hi139 hw140 hq141 => ?_)
        obtain ⟨e187, h⟩ := hq141
        subst e187
        refine V.iconst (pc := 31) hG dX2_join_31 ?_
        refine V.istore_n (pc := 32) (lv' := [(3, .int (sJ 0)), (0, .ref (sA Δ 168)), (1, .ref (sA Δ 67)), (2, .int (sJ p2))]) hG dX2_join_32 rfl (by decide) rfl ?_
        obtain ⟨n142, h⟩ := h
        have lp33 : ∀ (m33 : Nat) (x3_33 : Int) (i_33 : MI), sR x3_33 → okI i_33 → LoopP (b33_X2_join p2 r Q) m33 (x3_33, i_33) → V Γ Δ 542 false i_33 r 0 0 Q0 33 [(0, .ref (sA Δ 168)), (1, .ref (sA Δ 67)), (2, .int (sJ p2)), (3, .int (sJ x3_33))] [] := by
          intro m33
          induction m33 with
          | zero => intro x3_33 i_33 hx3_33 hi_33 h; exact h.elim
          | succ m33 ih33 =>
            intro x3_33 i_33 hx3_33 hi_33 h
            have h := LoopP_succ h
            refine V.iload_n (pc := 33) hG dX2_join_33 rfl 3 rfl ?_
            refine V.bipush (pc := 34) hG dX2_join_34 (by decide) ?_
            obtain ⟨t144, f145⟩ := h
            refine V.icmp_ge (pc := 36) (tgt := 51) hG hx3_33 ((sR_l rfl)) dX2_join_36 (by decide) (fun c143 => ?_) (fun c143 => ?_)
            · have h := t144 c143
              clear t144 f145
              refine V.iconst (pc := 51) hG dX2_join_51 ?_
              refine V.istore_n (pc := 52) (lv' := [(3, .int (sJ 0)), (0, .ref (sA Δ 168)), (1, .ref (sA Δ 67)), (2, .int (sJ p2))]) hG dX2_join_52 rfl (by decide) rfl ?_
              obtain ⟨n146, h⟩ := h
              have lp53 : ∀ (m53 : Nat) (x3_53 : Int) (i_53 : MI), sR x3_53 → okI i_53 → LoopP (b53_X2_join p2 r Q) m53 (x3_53, i_53) → V Γ Δ 542 false i_53 r 0 0 Q0 53 [(0, .ref (sA Δ 168)), (1, .ref (sA Δ 67)), (2, .int (sJ p2)), (3, .int (sJ x3_53))] [] := by
                intro m53
                induction m53 with
                | zero => intro x3_53 i_53 hx3_53 hi_53 h; exact h.elim
                | succ m53 ih53 =>
                  intro x3_53 i_53 hx3_53 hi_53 h
                  have h := LoopP_succ h
                  refine V.iload_n (pc := 53) hG dX2_join_53 rfl 3 rfl ?_
                  refine V.iconst (pc := 54) hG dX2_join_54 ?_
                  obtain ⟨t148, f149⟩ := h
                  refine V.icmp_ge (pc := 55) (tgt := 73) hG hx3_53 ((sR_l rfl)) dX2_join_55 (by decide) (fun c147 => ?_) (fun c147 => ?_)
                  · have h := t148 c147
                    clear t148 f149
                    refine V.aload_n (pc := 73) hG dX2_join_73 rfl 0 rfl ?_
                    refine V.aload_n (pc := 74) hG dX2_join_74 rfl 1 rfl ?_
                    refine V.iconst (pc := 75) hG dX2_join_75 ?_
                    refine V.callVv (pc := 76) (As := [.ref (sA Δ 67), .int (sJ 5)]) (stk := []) hG (sm_X2_joinChannel l Δ ((sR_l rfl)) hi_53 hw h) mY_X2_joinChannel kw_944 kw_946 kw_52 a_168 (by decide) (q := (RX2, TX2, 5)) rfl rfl ⟨Nat.le_of_ble_eq_true rfl, Nat.le_of_ble_eq_true rfl, Nat.le_of_ble_eq_true rfl, Nat.le_of_ble_eq_true rfl⟩ rfl (Nat.le_of_ble_eq_true rfl) dX2_join_76 rfl (fun i151 r152 hi154 hw155 hq156 => ?_)
                    obtain ⟨e167, h⟩ := hq156
                    subst e167
                    refine V.aload_n (pc := 79) hG dX2_join_79 rfl 0 rfl ?_
                    refine V.aload_n (pc := 80) hG dX2_join_80 rfl 1 rfl ?_
                    refine V.bipush (pc := 81) hG dX2_join_81 (by decide) ?_
                    refine V.callVv (pc := 83) (As := [.ref (sA Δ 67), .int (sJ 6)]) (stk := []) hG (sm_X2_joinChannel l Δ ((sR_l rfl)) hi154 hw h) mY_X2_joinChannel kw_944 kw_946 kw_52 a_168 (by decide) (q := (RX2, TX2, 5)) rfl rfl ⟨Nat.le_of_ble_eq_true rfl, Nat.le_of_ble_eq_true rfl, Nat.le_of_ble_eq_true rfl, Nat.le_of_ble_eq_true rfl⟩ rfl (Nat.le_of_ble_eq_true rfl) dX2_join_83 rfl (fun i158 r159 hi161 hw162 hq163 => ?_)
                    obtain ⟨e165, h⟩ := hq163
                    subst e165
                    exact fin dX2_join_86 hi161 hw ⟨rfl, h⟩
                  · have h := f149 c147
                    clear t148 f149
                    refine V.aload_n (pc := 58) hG dX2_join_58 rfl 0 rfl ?_
                    refine V.aload_n (pc := 59) hG dX2_join_59 rfl 1 rfl ?_
                    refine V.iconst (pc := 60) hG dX2_join_60 ?_
                    refine V.iload_n (pc := 61) hG dX2_join_61 rfl 3 rfl ?_
                    refine V.iadd (pc := 62) hG dX2_join_62 ?_
                    refine V.iload_n (pc := 63) hG dX2_join_63 rfl 2 rfl ?_
                    refine V.callVv (pc := 64) (As := [.ref (sA Δ 67), .int (sJ (wr (3 + x3_53))), .int (sJ p2)]) (stk := []) hG (sm_X2_joinMemory l Δ ((sR_wr _)) hp2 hi_53 hw h) mY_X2_joinMemory kw_930 kw_932 kw_50 a_168 (by decide) (q := (RX2, TX2, 5)) rfl rfl ⟨Nat.le_of_ble_eq_true rfl, Nat.le_of_ble_eq_true rfl, Nat.le_of_ble_eq_true rfl, Nat.le_of_ble_eq_true rfl⟩ rfl (Nat.le_of_ble_eq_true rfl) dX2_join_64 rfl (fun i169 r170 hi172 hw173 hq174 => ?_)
                    obtain ⟨e176, h⟩ := hq174
                    subst e176
                    refine V.iinc (pc := 67) (lv' := [(3, .int (sJ (wr (x3_53 + 1)))), (0, .ref (sA Δ 168)), (1, .ref (sA Δ 67)), (2, .int (sJ p2))]) hG dX2_join_67 3 rfl (by decide) rfl ?_
                    refine V.goto (pc := 70) (tgt := 53) hG dX2_join_70 (by decide) ?_
                    refine V.pick [1, 2, 3, 0] rfl ?_
                    exact ih53 (wr (x3_53 + 1)) i169 ((sR_wr _)) hi172 h
              refine V.pick [1, 2, 3, 0] rfl ?_
              exact lp53 n146 0 i_33 ((sR_l rfl)) hi_33 h
            · have h := f145 c143
              clear t144 f145
              refine V.aload_n (pc := 39) hG dX2_join_39 rfl 0 rfl ?_
              refine V.aload_n (pc := 40) hG dX2_join_40 rfl 1 rfl ?_
              refine V.iload_n (pc := 41) hG dX2_join_41 rfl 3 rfl ?_
              refine V.callVv (pc := 42) (As := [.ref (sA Δ 67), .int (sJ x3_33)]) (stk := []) hG (sm_X2_joinRegister l Δ hx3_33 hi_33 hw h) mY_X2_joinRegister kw_906 kw_908 kw_44 a_168 (by decide) (q := (RX2, TX2, 5)) rfl rfl ⟨Nat.le_of_ble_eq_true rfl, Nat.le_of_ble_eq_true rfl, Nat.le_of_ble_eq_true rfl, Nat.le_of_ble_eq_true rfl⟩ rfl (Nat.le_of_ble_eq_true rfl) dX2_join_42 rfl (fun i178 r179 hi181 hw182 hq183 => ?_)
              obtain ⟨e185, h⟩ := hq183
              subst e185
              refine V.iinc (pc := 45) (lv' := [(3, .int (sJ (wr (x3_33 + 1)))), (0, .ref (sA Δ 168)), (1, .ref (sA Δ 67)), (2, .int (sJ p2))]) hG dX2_join_45 3 rfl (by decide) rfl ?_
              refine V.goto (pc := 48) (tgt := 33) hG dX2_join_48 (by decide) ?_
              refine V.pick [1, 2, 3, 0] rfl ?_
              exact ih33 (wr (x3_33 + 1)) i178 ((sR_wr _)) hi181 h
        refine V.pick [1, 2, 3, 0] rfl ?_
        exact lp33 n142 0 i136 ((sR_l rfl)) hi139 h
      · have h := f134 c132
        clear t133 f134
        refine V.aload_n (pc := 13) hG dX2_join_13 rfl 0 rfl ?_
        refine V.getR (x := 460) (pc := 14) (ci := 4) (k := 3) (M := 5) (T := TX2) (o := 168) (kz := 3) hG a_168 a_168.n (by decide) hin_X2 rfl (by decide) (by decide) rfl kw_450 rfl ((hw).1 (168, 3, 460) (by decide)) (by decide) dX2_join_14 ?_
        refine V.iload_n (pc := 17) hG dX2_join_17 rfl 3 rfl ?_
        refine V.iconst (pc := 18) hG dX2_join_18 ?_
        obtain ⟨g188, h⟩ := h
        refine V.iast (pc := 19) (z := 96) (o := 460) hG a_460 a_460.n hx3_7 g188 dX2_join_19 ?_
        refine V.iinc (pc := 20) (lv' := [(3, .int (sJ (wr (x3_7 + 1)))), (0, .ref (sA Δ 168)), (1, .ref (sA Δ 67)), (2, .int (sJ p2))]) hG dX2_join_20 3 rfl (by decide) rfl ?_
        refine V.goto (pc := 23) (tgt := 7) hG dX2_join_23 (by decide) ?_
        refine V.pick [1, 2, 3, 0] rfl ?_
        exact ih7 (wr (x3_7 + 1)) (st i_7 460 x3_7 0) ((sR_wr _)) ((okI_st hi_7 ((sR_l rfl)))) h
  refine V.pick [1, 2, 3, 0] rfl ?_
  exact lp7 n131 0 (st i 168 4 0) ((sR_l rfl)) ((okI_st hi ((sR_l rfl)))) h
