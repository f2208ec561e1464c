set_option maxRecDepth 100000 in
set_option maxHeartbeats 4000000 in
theorem sm_X0_number (l : Launch) (Δ : Wd) {i r : MI}   {Q : MI → MI → Prop} (hi : okI i) (hw : Wf r) (h : wp_X0_number  i r Q) : Met l yX0_number (Cond.code yX0_number cX0_number 4 none :: gW) (sRm 4 101) (sPc Δ [.ref (sA Δ 67), .ref (sA Δ 3)] i r) (sQv Δ (Q)) 0 0 (sFr Δ) := by
  refine Ct.v (by decide) rfl (Nat.le_of_ble_eq_true rfl) (fun Γ Q0 hG fin => ?_)
  have hG : okG Γ Δ l (sRm 4 101) cX0_number "Schedulary$Body" 4 := hG
  show V Γ Δ 504 false i r 0 0 Q0 0 [(0, .ref (sA Δ 67)), (1, .ref (sA Δ 3))] []
  refine V.aload_n (pc := 0) hG dX0_number_0 rfl 0 rfl ?_
  refine V.iconst (pc := 1) hG dX0_number_1 ?_
  refine V.putI (pc := 2) (ci := 2) (k := 4) (M := 5) (T := TX0) (o := 67) (kz := 4) hG a_67 a_67.n (by decide) hin_X0 rfl (by decide) (by decide) rfl kw_363 rfl tyX0 tyX0_ok nmX0 rfl (ty := tyX0 4) (tyX0_ok 4 (by decide)) rfl rfl dX0_number_2 ?_
  refine V.iconst (pc := 5) hG dX0_number_5 ?_
  refine V.istore_n (pc := 6) (lv' := [(2, .int (sJ 0)), (0, .ref (sA Δ 67)), (1, .ref (sA Δ 3))]) hG dX0_number_6 rfl (by decide) rfl ?_
  obtain ⟨n53, h⟩ := h
  have lp7 : ∀ (m7 : Nat) (x2_7 : Int) (i_7 : MI), sR x2_7 → okI i_7 → LoopP (b7_X0_number r Q) m7 (x2_7, i_7) → V Γ Δ 504 false i_7 r 0 0 Q0 7 [(0, .ref (sA Δ 67)), (1, .ref (sA Δ 3)), (2, .int (sJ x2_7))] [] := by
    intro m7
    induction m7 with
    | zero => intro x2_7 i_7 hx2_7 hi_7 h; exact h.elim
    | succ m7 ih7 =>
      intro x2_7 i_7 hx2_7 hi_7 h
      have h := LoopP_succ h
      refine V.iload_n (pc := 7) hG dX0_number_7 rfl 2 rfl ?_
      refine V.bipush (pc := 8) hG dX0_number_8 (by decide) ?_
      obtain ⟨t55, f56⟩ := h
      refine V.icmp_ge (pc := 10) (tgt := 26) hG hx2_7 ((sR_l rfl)) dX0_number_10 (by decide) (fun c54 => ?_) (fun c54 => ?_)
      · have h := t55 c54
        clear t55 f56
        refine V.iconst (pc := 26) hG dX0_number_26 ?_
        refine V.istore_n (pc := 27) (lv' := [(2, .int (sJ 0)), (0, .ref (sA Δ 67)), (1, .ref (sA Δ 3))]) hG dX0_number_27 rfl (by decide) rfl ?_
        obtain ⟨n57, h⟩ := h
        have lp28 : ∀ (m28 : Nat) (x2_28 : Int) (i_28 : MI) (r_28 : MI), sR x2_28 → okI i_28 → Wf r_28 → LoopP (b28_X0_number Q) m28 (x2_28, i_28, r_28) → V Γ Δ 504 false i_28 r_28 0 0 Q0 28 [(0, .ref (sA Δ 67)), (1, .ref (sA Δ 3)), (2, .int (sJ x2_28))] [] := by
          intro m28
          induction m28 with
          | zero => intro x2_28 i_28 r_28 hx2_28 hi_28 hw_28 h; exact h.elim
          | succ m28 ih28 =>
            intro x2_28 i_28 r_28 hx2_28 hi_28 hw_28 h
            have h := LoopP_succ h
            refine V.iload_n (pc := 28) hG dX0_number_28 rfl 2 rfl ?_
            refine V.aload_n (pc := 29) hG dX0_number_29 rfl 1 rfl ?_
            refine V.getIN (pc := 30) (ci := 8) (k := 8) (M := 9) (T := TX6) (o := 3) (kz := 8) hG a_3 a_3.n (by decide) hin_X6 rfl (by decide) (by decide) rfl kw_219 rfl dX0_number_30 ?_
            obtain ⟨t59, f60⟩ := h
            refine V.icmp_ge (pc := 33) (tgt := 77) hG hx2_28 ((hi_28 _ _)) dX0_number_33 (by decide) (fun c58 => ?_) (fun c58 => ?_)
            · have h := t59 c58
              clear t59 f60
              exact fin dX0_number_77 hi_28 hw_28 h
            · have h := f60 c58
              clear t59 f60
              refine V.iconst (pc := 36) hG dX0_number_36 ?_
              refine V.istore_n (pc := 37) (lv' := [(3, .int (sJ 0)), (0, .ref (sA Δ 67)), (1, .ref (sA Δ 3)), (2, .int (sJ x2_28))]) hG dX0_number_37 rfl (by decide) rfl ?_
              obtain ⟨n61, h⟩ := h
              have lp38 : ∀ (m38 : Nat) (x3_38 : Int) (i_38 : MI) (r_38 : MI), sR x3_38 → okI i_38 → Wf r_38 → LoopP (b38_X0_number x2_28 Q (LoopP (b28_X0_number Q) m28)) m38 (x3_38, i_38, r_38) → V Γ Δ 504 false i_38 r_38 0 0 Q0 38 [(0, .ref (sA Δ 67)), (1, .ref (sA Δ 3)), (2, .int (sJ x2_28)), (3, .int (sJ x3_38))] [] := by
                intro m38
                induction m38 with
                | zero => intro x3_38 i_38 r_38 hx3_38 hi_38 hw_38 h; exact h.elim
                | succ m38 ih38 =>
                  intro x3_38 i_38 r_38 hx3_38 hi_38 hw_38 h
                  have h := LoopP_succ h
                  refine V.iload_n (pc := 38) hG dX0_number_38 rfl 3 rfl ?_
                  refine V.aload_n (pc := 39) hG dX0_number_39 rfl 1 rfl ?_
                  refine V.getIN (pc := 40) (ci := 8) (k := 4) (M := 9) (T := TX6) (o := 3) (kz := 4) hG a_3 a_3.n (by decide) hin_X6 rfl (by decide) (by decide) rfl kw_209 rfl dX0_number_40 ?_
                  obtain ⟨t63, f64⟩ := h
                  refine V.icmp_ge (pc := 43) (tgt := 71) hG hx3_38 ((hi_38 _ _)) dX0_number_43 (by decide) (fun c62 => ?_) (fun c62 => ?_)
                  · have h := t63 c62
                    clear t63 f64
                    refine V.iinc (pc := 71) (lv' := [(2, .int (sJ (wr (x2_28 + 1)))), (0, .ref (sA Δ 67)), (1, .ref (sA Δ 3)), (3, .int (sJ x3_38))]) hG dX0_number_71 2 rfl (by decide) rfl ?_
                    refine V.goto (pc := 74) (tgt := 28) hG dX0_number_74 (by decide) ?_
                    refine V.pick [1, 2, 0] rfl ?_
                    exact ih28 (wr (x2_28 + 1)) i_38 r_38 ((sR_wr _)) hi_38 hw_38 h
                  · have h := f64 c62
                    clear t63 f64
                    refine V.aload_n (pc := 46) hG dX0_number_46 rfl 0 rfl ?_
                    refine V.aload_n (pc := 47) hG dX0_number_47 rfl 1 rfl ?_
                    refine V.getRN (x := 4) (pc := 48) (ci := 8) (k := 0) (M := 9) (T := TX6) (o := 3) (kz := 0) hG a_3 a_3.n (by decide) hin_X6 rfl (by decide) (by decide) rfl kw_201 rfl ((hw_38).1 (3, 0, 4) (by decide)) (by decide) dX0_number_48 ?_
                    refine V.iload_n (pc := 51) hG dX0_number_51 rfl 3 rfl ?_
                    obtain ⟨g65, h⟩ := h
                    refine V.aald (pc := 52) 5 (z := 12) (o := 4) (x := x3_38) (y := r_38 4 x3_38) hG a_4 a_4.n (by decide) hx3_38 g65 rfl (Wf.sts hw_38 g65).z dX0_number_52 ?_
                    refine V.iload_n (pc := 53) hG dX0_number_53 rfl 2 rfl ?_
                    refine V.aload_n (pc := 54) hG dX0_number_54 rfl 1 rfl ?_
                    refine V.getIN (pc := 55) (ci := 8) (k := 4) (M := 9) (T := TX6) (o := 3) (kz := 4) hG a_3 a_3.n (by decide) hin_X6 rfl (by decide) (by decide) rfl kw_209 rfl dX0_number_55 ?_
                    refine V.imul (pc := 58) hG dX0_number_58 ?_
                    refine V.iload_n (pc := 59) hG dX0_number_59 rfl 3 rfl ?_
                    refine V.iadd (pc := 60) hG dX0_number_60 ?_
                    refine V.iload_n (pc := 61) hG dX0_number_61 rfl 2 rfl ?_
                    refine V.callVv (pc := 62) (As := [.ref (sA Δ (r_38 4 x3_38)), .int (sJ (wr (wr (x2_28 * i_38 3 4) + x3_38))), .int (sJ x2_28)]) (stk := []) hG (sm_X0_numberOne l Δ ((Wf.sts hw_38 g65)) ((sR_wr _)) hx2_28 hi_38 hw_38 h) mY_X0_numberOne kw_629 kw_631 kw_16 a_67 (by decide) (q := (RX0, TX0, 5)) rfl rfl ⟨Nat.le_of_ble_eq_true rfl, Nat.le_of_ble_eq_true rfl, Nat.le_of_ble_eq_true rfl, Nat.le_of_ble_eq_true rfl⟩ rfl (Nat.le_of_ble_eq_true rfl) dX0_number_62 rfl (fun i67 r68 hi70 hw71 hq72 => ?_)
                    have h := hq72
                    refine V.iinc (pc := 65) (lv' := [(3, .int (sJ (wr (x3_38 + 1)))), (0, .ref (sA Δ 67)), (1, .ref (sA Δ 3)), (2, .int (sJ x2_28))]) hG dX0_number_65 3 rfl (by decide) rfl ?_
                    refine V.goto (pc := 68) (tgt := 38) hG dX0_number_68 (by decide) ?_
                    refine V.pick [1, 2, 3, 0] rfl ?_
                    exact ih38 (wr (x3_38 + 1)) i67 r68 ((sR_wr _)) hi70 hw71 h
              refine V.pick [1, 2, 3, 0] rfl ?_
              exact lp38 n61 0 i_28 r_28 ((sR_l rfl)) hi_28 hw_28 h
        refine V.pick [1, 2, 0] rfl ?_
        exact lp28 n57 0 i_7 r ((sR_l rfl)) hi_7 hw h
      · have h := f56 c54
        clear t55 f56
        refine V.aload_n (pc := 13) hG dX0_number_13 rfl 0 rfl ?_
        refine V.getR (x := 71) (pc := 14) (ci := 2) (k := 3) (M := 5) (T := TX0) (o := 67) (kz := 3) hG a_67 a_67.n (by decide) hin_X0 rfl (by decide) (by decide) rfl kw_361 rfl ((hw).1 (67, 3, 71) (by decide)) (by decide) dX0_number_14 ?_
        refine V.iload_n (pc := 17) hG dX0_number_17 rfl 2 rfl ?_
        refine V.iconst (pc := 18) hG dX0_number_18 ?_
        obtain ⟨g75, h⟩ := h
        refine V.iast (pc := 19) (z := 7) (o := 71) hG a_71 a_71.n hx2_7 g75 dX0_number_19 ?_
        refine V.iinc (pc := 20) (lv' := [(2, .int (sJ (wr (x2_7 + 1)))), (0, .ref (sA Δ 67)), (1, .ref (sA Δ 3))]) hG dX0_number_20 2 rfl (by decide) rfl ?_
        refine V.goto (pc := 23) (tgt := 7) hG dX0_number_23 (by decide) ?_
        refine V.pick [1, 2, 0] rfl ?_
        exact ih7 (wr (x2_7 + 1)) (st i_7 71 x2_7 0) ((sR_wr _)) ((okI_st hi_7 ((sR_l rfl)))) h
  refine V.pick [1, 2, 0] rfl ?_
  exact lp7 n53 0 (st i 67 4 0) ((sR_l rfl)) ((okI_st hi ((sR_l rfl)))) h
set_option maxRecDepth 100000 in
set_option maxHeartbeats 4000000 in
theorem sm_X0_cyclesOf (l : Launch) (Δ : Wd) {i r : MI} {p1 : Int} (hp1 : sR p1) {Q : Int → Prop} (hi : okI i) (hw : Wf r) (h : wp_X0_cyclesOf p1 i r Q) : Met l yX0_cyclesOf (Cond.code yX0_cyclesOf cX0_cyclesOf 2 (some .int) :: gW) (sRm 0 0) (sPc Δ [.ref (sA Δ 67), .int (sJ p1)] i r) (sQi Δ (fun x i' r' => i = i' ∧ r = r' ∧ Q x)) 0 0 (sFr Δ) := by
  refine Ct.i (ty := .int) (by decide) rfl (Nat.le_of_ble_eq_true rfl) (fun Γ Q0 hG fin => ?_)
  have hG : okG Γ Δ l (sRm 0 0) cX0_cyclesOf "Schedulary$Body" 2 := hG
  show V Γ Δ 504 false i r 0 0 Q0 0 [(0, .ref (sA Δ 67)), (1, .int (sJ p1))] []
  refine V.aload_n (pc := 0) hG dX0_cyclesOf_0 rfl 0 rfl ?_
  refine V.getR (x := 70) (pc := 1) (ci := 2) (k := 2) (M := 5) (T := TX0) (o := 67) (kz := 2) hG a_67 a_67.n (by decide) hin_X0 rfl (by decide) (by decide) rfl kw_359 rfl ((hw).1 (67, 2, 70) (by decide)) (by decide) dX0_cyclesOf_1 ?_
  refine V.aload_n (pc := 4) hG dX0_cyclesOf_4 rfl 0 rfl ?_
  refine V.getR (x := 68) (pc := 5) (ci := 2) (k := 0) (M := 5) (T := TX0) (o := 67) (kz := 0) hG a_67 a_67.n (by decide) hin_X0 rfl (by decide) (by decide) rfl kw_349 rfl ((hw).1 (67, 0, 68) (by decide)) (by decide) dX0_cyclesOf_5 ?_
  refine V.iload_n (pc := 8) hG dX0_cyclesOf_8 rfl 1 rfl ?_
  obtain ⟨g1, h⟩ := h
  refine V.aald (pc := 9) 6 (z := 96) (o := 68) (x := p1) (y := 72 + p1) hG a_68 a_68.n (by decide) hp1 g1 (hw.2.1 (68, 96, 72) (by decide) _ g1.1 g1.2) (by omega) dX0_cyclesOf_9 ?_
  refine V.getIN (pc := 10) (ci := 5) (k := 3) (M := 13) (T := TX3) (o := 72 + p1) (kz := 3) hG (node_o g1.1 g1.2) ((node_o g1.1 g1.2)).n (by decide) hin_X3 rfl (by decide) (by decide) rfl kw_289 rfl dX0_cyclesOf_10 ?_
  obtain ⟨g2, h⟩ := h
  refine V.iald (pc := 13) (z := 7) (o := 70) hG a_70 a_70.n ((hi _ _)) g2 dX0_cyclesOf_13 ?_
  exact fin dX0_cyclesOf_14 ((hi _ _)) rfl hi hw ⟨rfl, rfl, h⟩
set_option maxRecDepth 100000 in
set_option maxHeartbeats 4000000 in
theorem sm_X1_valueFrom (l : Launch) (Δ : Wd) {i r : MI} {p1 : Int} {p2 : Int} (hp1 : sR p1) (hp2 : sR p2) {Q : Int → Prop} (hi : okI i) (hw : Wf r) (h : wp_X1_valueFrom p1 p2 i r Q) : Met l yX1_valueFrom (Cond.code yX1_valueFrom cX1_valueFrom 3 (some .int) :: gW) (sRm 0 0) (sPc Δ [.ref (sA Δ 480), .int (sJ p1), .int (sJ p2)] i r) (sQi Δ (fun x i' r' => i = i' ∧ r = r' ∧ Q x)) 0 0 (sFr Δ) := by
  refine Ct.i (ty := .int) (by decide) rfl (Nat.le_of_ble_eq_true rfl) (fun Γ Q0 hG fin => ?_)
  have hG : okG Γ Δ l (sRm 0 0) cX1_valueFrom "Schedulary$Circuit" 3 := hG
  show V Γ Δ 504 false i r 0 0 Q0 0 [(0, .ref (sA Δ 480)), (1, .int (sJ p1)), (2, .int (sJ p2))] []
  refine V.aload_n (pc := 0) hG dX1_valueFrom_0 rfl 0 rfl ?_
  refine V.getR (x := 487) (pc := 1) (ci := 3) (k := 1) (M := 2) (T := TX1) (o := 480) (kz := 1) hG a_480 a_480.n (by decide) hin_X1 rfl (by decide) (by decide) rfl kw_486 rfl ((hw).1 (480, 1, 487) (by decide)) (by decide) dX1_valueFrom_1 ?_
  refine V.iload_n (pc := 4) hG dX1_valueFrom_4 rfl 1 rfl ?_
  refine V.bipush (pc := 5) hG dX1_valueFrom_5 (by decide) ?_
  refine V.imul (pc := 7) hG dX1_valueFrom_7 ?_
  refine V.iload_n (pc := 8) hG dX1_valueFrom_8 rfl 2 rfl ?_
  refine V.iadd (pc := 9) hG dX1_valueFrom_9 ?_
  obtain ⟨g1, h⟩ := h
  refine V.iald (pc := 10) (z := 1536) (o := 487) hG a_487 a_487.n ((sR_wr _)) g1 dX1_valueFrom_10 ?_
  exact fin dX1_valueFrom_11 ((hi _ _)) rfl hi hw ⟨rfl, rfl, h⟩
set_option maxRecDepth 100000 in
set_option maxHeartbeats 4000000 in
theorem sm_X6_cut (l : Launch) (Δ : Wd) {i r : MI} {p1 : Int} (hp1 : sR p1) {Q : Int → Prop} (hi : okI i) (hw : Wf r) (h : wp_X6_cut p1 i r Q) : Met l yX6_cut (Cond.code yX6_cut cX6_cut 2 (some .int) :: gW) (sRm 0 0) (sPc Δ [.ref (sA Δ 3), .int (sJ p1)] i r) (sQi Δ (fun x i' r' => i = i' ∧ r = r' ∧ Q x)) 0 0 (sFr Δ) := by
  refine Ct.i (ty := .int) (by decide) rfl (Nat.le_of_ble_eq_true rfl) (fun Γ Q0 hG fin => ?_)
  have hG : okG Γ Δ l (sRm 0 0) cX6_cut "Schedulary$Program" 2 := hG
  show V Γ Δ 504 false i r 0 0 Q0 0 [(0, .ref (sA Δ 3)), (1, .int (sJ p1))] []
  refine V.iload_n (pc := 0) hG dX6_cut_0 rfl 1 rfl ?_
  refine V.iconst (pc := 1) hG dX6_cut_1 ?_
  refine V.aload_n (pc := 2) hG dX6_cut_2 rfl 0 rfl ?_
  refine V.getI (pc := 3) (ci := 8) (k := 7) (M := 9) (T := TX6) (o := 3) (kz := 7) hG a_3 a_3.n (by decide) hin_X6 rfl (by decide) (by decide) rfl kw_216 rfl dX6_cut_3 ?_
  refine V.ishl (pc := 6) hG dX6_cut_6 ?_
  refine V.iconst (pc := 7) hG dX6_cut_7 ?_
  refine V.isub (pc := 8) hG dX6_cut_8 ?_
  refine V.iand (pc := 9) hG dX6_cut_9 ?_
  exact fin dX6_cut_10 ((sR_and _ _)) rfl hi hw ⟨rfl, rfl, h⟩
set_option maxRecDepth 100000 in
set_option maxHeartbeats 4000000 in
theorem sm_X6_takeInput (l : Launch) (Δ : Wd) {i r : MI} {o1 : Int} (ho1 : sta o1) {Q : Int → MI → Prop} (hi : okI i) (hw : Wf r) (h : wp_X6_takeInput o1 i r Q) : Met l yX6_takeInput (Cond.code yX6_takeInput cX6_takeInput 3 (some .int) :: gW) (sRm 1 21) (sPc Δ [.ref (sA Δ 3), .ref (sA Δ o1)] i r) (sQi Δ (fun x i' r' => r = r' ∧ Q x i')) 0 0 (sFr Δ) := by
  refine Ct.i (ty := .int) (by decide) rfl (Nat.le_of_ble_eq_true rfl) (fun Γ Q0 hG fin => ?_)
  have hG : okG Γ Δ l (sRm 1 21) cX6_takeInput "Schedulary$Program" 3 := hG
  show V Γ Δ 504 false i r 0 0 Q0 0 [(0, .ref (sA Δ 3)), (1, .ref (sA Δ o1))] []
  refine V.aload_n (pc := 0) hG dX6_takeInput_0 rfl 1 rfl ?_
  refine V.getIN (pc := 1) (ci := 9) (k := 4) (M := 5) (T := TX7) (o := o1) (kz := 4) hG ho1.o ho1.o.n (by decide) hin_X7 rfl (by decide) (by decide) rfl kw_257 rfl dX6_takeInput_1 ?_
  refine V.aload_n (pc := 4) hG dX6_takeInput_4 rfl 0 rfl ?_
  refine V.getI (pc := 5) (ci := 8) (k := 5) (M := 9) (T := TX6) (o := 3) (kz := 5) hG a_3 a_3.n (by decide) hin_X6 rfl (by decide) (by decide) rfl kw_212 rfl dX6_takeInput_5 ?_
  obtain ⟨t2, f3⟩ := h
  refine V.icmp_lt (pc := 8) (tgt := 13) hG ((hi _ _)) ((hi _ _)) dX6_takeInput_8 (by decide) (fun c1 => ?_) (fun c1 => ?_)
  · have h := t2 c1
    clear t2 f3
    refine V.aload_n (pc := 13) hG dX6_takeInput_13 rfl 0 rfl ?_
    refine V.aload_n (pc := 14) hG dX6_takeInput_14 rfl 0 rfl ?_
    refine V.getR (x := 5) (pc := 15) (ci := 8) (k := 1) (M := 9) (T := TX6) (o := 3) (kz := 1) hG a_3 a_3.n (by decide) hin_X6 rfl (by decide) (by decide) rfl kw_202 rfl ((hw).1 (3, 1, 5) (by decide)) (by decide) dX6_takeInput_15 ?_
    refine V.aload_n (pc := 18) hG dX6_takeInput_18 rfl 1 rfl ?_
    refine V.getIN (pc := 19) (ci := 9) (k := 4) (M := 5) (T := TX7) (o := o1) (kz := 4) hG ho1.o ho1.o.n (by decide) hin_X7 rfl (by decide) (by decide) rfl kw_257 rfl dX6_takeInput_19 ?_
    obtain ⟨g4, h⟩ := h
    refine V.iald (pc := 22) (z := 32) (o := 5) hG a_5 a_5.n ((hi _ _)) g4 dX6_takeInput_22 ?_
    refine V.callVi (pc := 23) (As := [.int (sJ (i 5 (i o1 4)))]) (stk := []) hG (sm_X6_cut l Δ ((hi _ _)) hi hw h) mY_X6_cut kw_585 kw_575 kw_3 a_3 (by decide) (q := (RX6, TX6, 9)) rfl rfl ⟨Nat.le_of_ble_eq_true rfl, Nat.le_of_ble_eq_true rfl, Nat.le_of_ble_eq_true rfl, Nat.le_of_ble_eq_true rfl⟩ rfl (Nat.le_of_ble_eq_true rfl) dX6_takeInput_23 rfl (fun v5 i6 r7 hv8 hi9 hw10 hq11 => ?_)
    obtain ⟨e12, e13, h⟩ := hq11
    subst e12
    subst e13
    refine V.istore_n (pc := 26) (lv' := [(2, .int (sJ v5)), (0, .ref (sA Δ 3)), (1, .ref (sA Δ o1))]) hG dX6_takeInput_26 rfl (by decide) rfl ?_
    refine V.aload_n (pc := 27) hG dX6_takeInput_27 rfl 2 rfl ?_
    refine V.dup (pc := 28) hG dX6_takeInput_28 rfl ?_
    refine V.getIN (pc := 29) (ci := 9) (k := 4) (M := 5) (T := TX7) (o := o1) (kz := 4) hG ho1.o ho1.o.n (by decide) hin_X7 rfl (by decide) (by decide) rfl kw_257 rfl dX6_takeInput_29 ?_
    refine V.iconst (pc := 32) hG dX6_takeInput_32 ?_
    refine V.iadd (pc := 33) hG dX6_takeInput_33 ?_
    refine V.putIN (pc := 34) (ci := 9) (k := 4) (M := 5) (T := TX7) (o := o1) (kz := 4) hG ho1.o ho1.o.n (by decide) hin_X7 rfl (by decide) (by decide) rfl kw_257 rfl tyX7 tyX7_ok nmX7 rfl (ty := tyX7 4) (tyX7_ok 4 (by decide)) rfl rfl dX6_takeInput_34 ?_
    refine V.iload_n (pc := 37) hG dX6_takeInput_37 rfl 0 rfl ?_
    exact fin dX6_takeInput_38 hv8 rfl ((okI_st hi ((sR_wr _)))) hw ⟨rfl, h⟩
  · have h := f3 c1
    clear t2 f3
    refine V.iconst (pc := 11) hG dX6_takeInput_11 ?_
    exact fin dX6_takeInput_12 ((sR_l rfl)) rfl hi hw ⟨rfl, h⟩
set_option maxRecDepth 100000 in
set_option maxHeartbeats 4000000 in
theorem sm_X7_isInside (l : Launch) (Δ : Wd) {i r : MI} {p0 : Int} {p1 : Int} (hp0 : sR p0) (hp1 : sR p1) {Q : Int → Prop} (hi : okI i) (hw : Wf r) (h : wp_X7_isInside p0 p1 i r Q) : Met l yX7_isInside (Cond.code yX7_isInside cX7_isInside 2 (some .boolean) :: gW) (sRm 0 0) (sPc Δ [.int (sJ p0), .int (sJ p1)] i r) (sQi Δ (fun x i' r' => i = i' ∧ r = r' ∧ Q x)) 0 0 (sFr Δ) := by
  refine Ct.i (ty := .boolean) (by decide) rfl (Nat.le_of_ble_eq_true rfl) (fun Γ Q0 hG fin => ?_)
  have hG : okG Γ Δ l (sRm 0 0) cX7_isInside "Schedulary$State" 2 := hG
  show V Γ Δ 504 false i r 0 0 Q0 0 [(0, .int (sJ p0)), (1, .int (sJ p1))] []
  have jn24 : ∀ (k0j24 : Int), sR k0j24 → s24_X7_isInside k0j24 i r Q → V Γ Δ 504 false i r 0 0 Q0 24 [] [.int (sJ k0j24)] := by
    intro k0j24 hk0j24 h
    obtain ⟨g2, h⟩ := h
    exact fin dX7_isInside_24 hk0j24 (nar_z g2) hi hw ⟨rfl, rfl, h⟩
  have jn23 : s23_X7_isInside i r Q → V Γ Δ 504 false i r 0 0 Q0 23 [] [] := by
    intro h
    refine V.iconst (pc := 23) hG dX7_isInside_23 ?_
    exact jn24 0 ((sR_l rfl)) h
  refine V.iload_n (pc := 0) hG dX7_isInside_0 rfl 0 rfl ?_
  obtain ⟨t4, f5⟩ := h
  refine V.if_lt (pc := 1) (tgt := 23) hG hp0 dX7_isInside_1 (by decide) (fun c3 => ?_) (fun c3 => ?_)
  · have h := t4 c3
    clear t4 f5
    refine V.pick [] rfl ?_
    exact jn23 h
  · have h := f5 c3
    clear t4 f5
    refine V.iload_n (pc := 4) hG dX7_isInside_4 rfl 0 rfl ?_
    refine V.iconst (pc := 5) hG dX7_isInside_5 ?_
    obtain ⟨t7, f8⟩ := h
    refine V.icmp_ge (pc := 6) (tgt := 23) hG hp0 ((sR_l rfl)) dX7_isInside_6 (by decide) (fun c6 => ?_) (fun c6 => ?_)
    · have h := t7 c6
      clear t7 f8
      refine V.pick [] rfl ?_
      exact jn23 h
    · have h := f8 c6
      clear t7 f8
      refine V.iload_n (pc := 9) hG dX7_isInside_9 rfl 1 rfl ?_
      obtain ⟨t10, f11⟩ := h
      refine V.if_lt (pc := 10) (tgt := 23) hG hp1 dX7_isInside_10 (by decide) (fun c9 => ?_) (fun c9 => ?_)
      · have h := t10 c9
        clear t10 f11
        refine V.pick [] rfl ?_
        exact jn23 h
      · have h := f11 c9
        clear t10 f11
        refine V.iload_n (pc := 13) hG dX7_isInside_13 rfl 1 rfl ?_
        refine V.bipush (pc := 14) hG dX7_isInside_14 (by decide) ?_
        obtain ⟨t13, f14⟩ := h
        refine V.icmp_ge (pc := 16) (tgt := 23) hG hp1 ((sR_l rfl)) dX7_isInside_16 (by decide) (fun c12 => ?_) (fun c12 => ?_)
        · have h := t13 c12
          clear t13 f14
          refine V.pick [] rfl ?_
          exact jn23 h
        · have h := f14 c12
          clear t13 f14
          refine V.iconst (pc := 19) hG dX7_isInside_19 ?_
          refine V.goto (pc := 20) (tgt := 24) hG dX7_isInside_20 (by decide) ?_
          refine V.pick [] rfl ?_
          exact jn24 1 ((sR_l rfl)) h
set_option maxRecDepth 100000 in
set_option maxHeartbeats 4000000 in
theorem sm_X7_look (l : Launch) (Δ : Wd) {i r : MI} {o0 : Int} {p1 : Int} {p2 : Int} (ho0 : sta o0) (hp1 : sR p1) (hp2 : sR p2) {Q : Int → Prop} (hi : okI i) (hw : Wf r) (h : wp_X7_look o0 p1 p2 i r Q) : Met l yX7_look (Cond.code yX7_look cX7_look 3 (some .int) :: gW) (sRm 1 21) (sPc Δ [.ref (sA Δ o0), .int (sJ p1), .int (sJ p2)] i r) (sQi Δ (fun x i' r' => i = i' ∧ r = r' ∧ Q x)) 0 0 (sFr Δ) := by
  refine Ct.i (ty := .int) (by decide) rfl (Nat.le_of_ble_eq_true rfl) (fun Γ Q0 hG fin => ?_)
  have hG : okG Γ Δ l (sRm 1 21) cX7_look "Schedulary$State" 3 := hG
  show V Γ Δ 504 false i r 0 0 Q0 0 [(0, .ref (sA Δ o0)), (1, .int (sJ p1)), (2, .int (sJ p2))] []
  have jn20 : ∀ (k0j20 : Int), sR k0j20 → s20_X7_look k0j20 i r Q → V Γ Δ 504 false i r 0 0 Q0 20 [] [.int (sJ k0j20)] := by
    intro k0j20 hk0j20 h
    exact fin dX7_look_20 hk0j20 rfl hi hw ⟨rfl, rfl, h⟩
  refine V.iload_n (pc := 0) hG dX7_look_0 rfl 1 rfl ?_
  refine V.iload_n (pc := 1) hG dX7_look_1 rfl 2 rfl ?_
  refine V.callSi (pc := 2) (As := [.int (sJ p1), .int (sJ p2)]) (stk := []) hG (sm_X7_isInside l Δ hp1 hp2 hi hw h) mY_X7_isInside kw_598 kw_599 ⟨Nat.le_of_ble_eq_true rfl, Nat.le_of_ble_eq_true rfl, Nat.le_of_ble_eq_true rfl, Nat.le_of_ble_eq_true rfl⟩ rfl (Nat.le_of_ble_eq_true rfl) dX7_look_2 rfl (fun v1 i2 r3 hv4 hi5 hw6 hq7 => ?_)
  obtain ⟨e13, e14, h⟩ := hq7
  subst e13
  subst e14
  obtain ⟨t9, f10⟩ := h
  refine V.if_eq (pc := 5) (tgt := 19) hG hv4 dX7_look_5 (by decide) (fun c8 => ?_) (fun c8 => ?_)
  · have h := t9 c8
    clear t9 f10
    refine V.iconst (pc := 19) hG dX7_look_19 ?_
    refine V.pick [] rfl ?_
    exact jn20 0 ((sR_l rfl)) h
  · have h := f10 c8
    clear t9 f10
    refine V.aload_n (pc := 8) hG dX7_look_8 rfl 0 rfl ?_
    refine V.getR (x := o0 + 2) (pc := 9) (ci := 9) (k := 1) (M := 5) (T := TX7) (o := o0) (kz := 1) hG ho0.o ho0.o.n (by decide) hin_X7 rfl (by decide) (by decide) rfl kw_251 rfl ((hw.2.2.2.1 _ ho0).2.1) (by have := sta.pos (ho0); omega) dX7_look_9 ?_
    refine V.iload_n (pc := 12) hG dX7_look_12 rfl 1 rfl ?_
    obtain ⟨g11, h⟩ := h
    refine V.aald (pc := 13) 7 (z := 2) (o := o0 + 2) (x := p1) (y := o0 + 3 + p1) hG ho0.mm ho0.mm.n (by decide) hp1 g11 (Wf.mem hw ho0 g11) (by have := sta.pos ho0; omega) dX7_look_13 ?_
    refine V.iload_n (pc := 14) hG dX7_look_14 rfl 2 rfl ?_
    obtain ⟨g12, h⟩ := h
    refine V.iald (pc := 15) (z := 16) (o := o0 + 3 + p1) hG (sta.row ho0 g11) ((sta.row ho0 g11)).n hp2 g12 dX7_look_15 ?_
    refine V.goto (pc := 16) (tgt := 20) hG dX7_look_16 (by decide) ?_
    refine V.pick [] rfl ?_
    exact jn20 (i (o0 + 3 + p1) p2) ((hi _ _)) h
set_option maxRecDepth 100000 in
set_option maxHeartbeats 4000000 in
theorem sm_X6_valueOf (l : Launch) (Δ : Wd) {i r : MI} {o1 : Int} {p2 : Int} {p3 : Int} {o4 : Int} (ho1 : stm o1) (hp2 : sR p2) (hp3 : sR p3) (ho4 : sta o4) {Q : Int → MI → Prop} (hi : okI i) (hw : Wf r) (h : wp_X6_valueOf o1 p2 p3 o4 i r Q) : Met l yX6_valueOf (Cond.code yX6_valueOf cX6_valueOf 5 (some .int) :: gW) (sRm 2 43) (sPc Δ [.ref (sA Δ 3), .ref (sA Δ o1), .int (sJ p2), .int (sJ p3), .ref (sA Δ o4)] i r) (sQi Δ (fun x i' r' => r = r' ∧ Q x i')) 0 0 (sFr Δ) := by
  refine Ct.i (ty := .int) (by decide) rfl (Nat.le_of_ble_eq_true rfl) (fun Γ Q0 hG fin => ?_)
  have hG : okG Γ Δ l (sRm 2 43) cX6_valueOf "Schedulary$Program" 5 := hG
  show V Γ Δ 504 false i r 0 0 Q0 0 [(0, .ref (sA Δ 3)), (1, .ref (sA Δ o1)), (2, .int (sJ p2)), (3, .int (sJ p3)), (4, .ref (sA Δ o4))] []
  have jn81 : ∀  (ij81 : MI), okI ij81 → s81_X6_valueOf o1 p2 p3 o4 ij81 r Q → V Γ Δ 504 false ij81 r 0 0 Q0 81 [(1, .ref (sA Δ o1)), (2, .int (sJ p2)), (3, .int (sJ p3)), (4, .ref (sA Δ o4))] [] := by
    intro ij81 hij81 h
    refine V.aload (pc := 81) hG dX6_valueOf_81 3 rfl ?_
    refine V.aload_n (pc := 83) hG dX6_valueOf_83 rfl 0 rfl ?_
    refine V.getRN (x := o1 + 1) (pc := 84) (ci := 10) (k := 0) (M := 4) (T := TX8) (o := o1) (kz := 0) hG ho1.o ho1.o.n (by decide) hin_X8 rfl (by decide) (by decide) rfl kw_179 rfl ((hw.2.2.1 _ ho1).1) (by have := (ho1).1; omega) dX6_valueOf_84 ?_
    refine V.iload_n (pc := 87) hG dX6_valueOf_87 rfl 1 rfl ?_
    obtain ⟨g20, h⟩ := h
    refine V.iald (pc := 88) (z := 3) (o := o1 + 1) hG ho1.f ho1.f.n hp2 g20 dX6_valueOf_88 ?_
    refine V.iconst (pc := 89) hG dX6_valueOf_89 ?_
    refine V.isub (pc := 90) hG dX6_valueOf_90 ?_
    refine V.aload_n (pc := 91) hG dX6_valueOf_91 rfl 0 rfl ?_
    refine V.iload_n (pc := 92) hG dX6_valueOf_92 rfl 1 rfl ?_
    refine V.iload_n (pc := 93) hG dX6_valueOf_93 rfl 2 rfl ?_
    refine V.callVNi (pc := 94) (As := [.int (sJ p2), .int (sJ p3)]) (stk := [.int (sJ (wr (ij81 (o1 + 1) p2 - 3))), .ref (sA Δ o4)]) hG (sm_X8_placeOf l Δ ho1 hp2 hp3 hij81 hw h) mY_X8_placeOf kw_590 kw_592 kw_7 ho1.o (by decide) (q := (RX8, TX8, 4)) rfl rfl ⟨Nat.le_of_ble_eq_true rfl, Nat.le_of_ble_eq_true rfl, Nat.le_of_ble_eq_true rfl, Nat.le_of_ble_eq_true rfl⟩ rfl (Nat.le_of_ble_eq_true rfl) dX6_valueOf_94 rfl (fun v21 i22 r23 hv24 hi25 hw26 hq27 => ?_)
    obtain ⟨e37, e38, h⟩ := hq27
    subst e37
    subst e38
    refine V.callVNi (pc := 97) (As := [.int (sJ (wr (ij81 (o1 + 1) p2 - 3))), .int (sJ v21)]) (stk := []) hG (sm_X7_look l Δ ho4 ((sR_wr _)) hv24 hij81 hw h) mY_X7_look kw_594 kw_596 kw_8 ho4.o (by decide) (q := (RX7, TX7, 5)) rfl rfl ⟨Nat.le_of_ble_eq_true rfl, Nat.le_of_ble_eq_true rfl, Nat.le_of_ble_eq_true rfl, Nat.le_of_ble_eq_true rfl⟩ rfl (Nat.le_of_ble_eq_true rfl) dX6_valueOf_97 rfl (fun v28 i29 r30 hv31 hi32 hw33 hq34 => ?_)
    obtain ⟨e35, e36, h⟩ := hq34
    subst e35
    subst e36
    exact fin dX6_valueOf_100 hv31 rfl hij81 hw ⟨rfl, h⟩
  refine V.aload_n (pc := 0) hG dX6_valueOf_0 rfl 1 rfl ?_
  refine V.getRN (x := o1 + 1) (pc := 1) (ci := 10) (k := 0) (M := 4) (T := TX8) (o := o1) (kz := 0) hG ho1.o ho1.o.n (by decide) hin_X8 rfl (by decide) (by decide) rfl kw_179 rfl ((hw.2.2.1 _ ho1).1) (by have := (ho1).1; omega) dX6_valueOf_1 ?_
  refine V.iload_n (pc := 4) hG dX6_valueOf_4 rfl 2 rfl ?_
  obtain ⟨g39, h⟩ := h
  refine V.iald (pc := 5) (z := 3) (o := o1 + 1) hG ho1.f ho1.f.n hp2 g39 dX6_valueOf_5 ?_
  obtain ⟨t41, f42⟩ := h
  by_cases c40 : i (o1 + 1) p2 = 0
  · have h := t41 c40
    clear t41 f42
    refine V.tableIn (pc := 6) (tgt := 44) (off := 38) hG ((hi _ _)) dX6_valueOf_6 (by omega) (by omega) (by rw [c40]; rfl) (by decide) ?_
    refine V.aload (pc := 44) hG dX6_valueOf_44 4 rfl ?_
    refine V.getRN (x := o4 + 1) (pc := 46) (ci := 9) (k := 0) (M := 5) (T := TX7) (o := o4) (kz := 0) hG ho4.o ho4.o.n (by decide) hin_X7 rfl (by decide) (by decide) rfl kw_249 rfl ((hw.2.2.2.1 _ ho4).1) (by have := sta.pos (ho4); omega) dX6_valueOf_46 ?_
    refine V.aload_n (pc := 49) hG dX6_valueOf_49 rfl 1 rfl ?_
    refine V.getRN (x := o1 + 2) (pc := 50) (ci := 10) (k := 1) (M := 4) (T := TX8) (o := o1) (kz := 1) hG ho1.o ho1.o.n (by decide) hin_X8 rfl (by decide) (by decide) rfl kw_182 rfl ((hw.2.2.1 _ ho1).2.1) (by have := (ho1).1; omega) dX6_valueOf_50 ?_
    refine V.iload_n (pc := 53) hG dX6_valueOf_53 rfl 2 rfl ?_
    obtain ⟨g43, h⟩ := h
    refine V.iald (pc := 54) (z := 3) (o := o1 + 2) hG ho1.m ho1.m.n hp2 g43 dX6_valueOf_54 ?_
    obtain ⟨g44, h⟩ := h
    refine V.iald (pc := 55) (z := 8) (o := o4 + 1) hG ho4.r ho4.r.n ((hi _ _)) g44 dX6_valueOf_55 ?_
    exact fin dX6_valueOf_56 ((hi _ _)) rfl hi hw ⟨rfl, h⟩
  · have h := f42 c40
    clear t41 f42
    obtain ⟨t46, f47⟩ := h
    by_cases c45 : i (o1 + 1) p2 = 1
    · have h := t46 c45
      clear t46 f47
      refine V.tableIn (pc := 6) (tgt := 57) (off := 51) hG ((hi _ _)) dX6_valueOf_6 (by omega) (by omega) (by rw [c45]; rfl) (by decide) ?_
      refine V.aload_n (pc := 57) hG dX6_valueOf_57 rfl 0 rfl ?_
      refine V.aload_n (pc := 58) hG dX6_valueOf_58 rfl 1 rfl ?_
      refine V.getRN (x := o1 + 2) (pc := 59) (ci := 10) (k := 1) (M := 4) (T := TX8) (o := o1) (kz := 1) hG ho1.o ho1.o.n (by decide) hin_X8 rfl (by decide) (by decide) rfl kw_182 rfl ((hw.2.2.1 _ ho1).2.1) (by have := (ho1).1; omega) dX6_valueOf_59 ?_
      refine V.iload_n (pc := 62) hG dX6_valueOf_62 rfl 2 rfl ?_
      obtain ⟨g48, h⟩ := h
      refine V.iald (pc := 63) (z := 3) (o := o1 + 2) hG ho1.m ho1.m.n hp2 g48 dX6_valueOf_63 ?_
      refine V.callVi (pc := 64) (As := [.int (sJ (i (o1 + 2) p2))]) (stk := []) hG (sm_X6_cut l Δ ((hi _ _)) hi hw h) mY_X6_cut kw_585 kw_575 kw_3 a_3 (by decide) (q := (RX6, TX6, 9)) rfl rfl ⟨Nat.le_of_ble_eq_true rfl, Nat.le_of_ble_eq_true rfl, Nat.le_of_ble_eq_true rfl, Nat.le_of_ble_eq_true rfl⟩ rfl (Nat.le_of_ble_eq_true rfl) dX6_valueOf_64 rfl (fun v49 i50 r51 hv52 hi53 hw54 hq55 => ?_)
      obtain ⟨e56, e57, h⟩ := hq55
      subst e56
      subst e57
      exact fin dX6_valueOf_67 hv52 rfl hi hw ⟨rfl, h⟩
    · have h := f47 c45
      clear t46 f47
      obtain ⟨t59, f60⟩ := h
      by_cases c58 : i (o1 + 1) p2 = 2
      · have h := t59 c58
        clear t59 f60
        refine V.tableIn (pc := 6) (tgt := 68) (off := 62) hG ((hi _ _)) dX6_valueOf_6 (by omega) (by omega) (by rw [c58]; rfl) (by decide) ?_
        refine V.aload_n (pc := 68) hG dX6_valueOf_68 rfl 0 rfl ?_
        refine V.iload_n (pc := 69) hG dX6_valueOf_69 rfl 3 rfl ?_
        refine V.callVi (pc := 70) (As := [.int (sJ p3)]) (stk := []) hG (sm_X6_cut l Δ hp3 hi hw h) mY_X6_cut kw_585 kw_575 kw_3 a_3 (by decide) (q := (RX6, TX6, 9)) rfl rfl ⟨Nat.le_of_ble_eq_true rfl, Nat.le_of_ble_eq_true rfl, Nat.le_of_ble_eq_true rfl, Nat.le_of_ble_eq_true rfl⟩ rfl (Nat.le_of_ble_eq_true rfl) dX6_valueOf_70 rfl (fun v61 i62 r63 hv64 hi65 hw66 hq67 => ?_)
        obtain ⟨e68, e69, h⟩ := hq67
        subst e68
        subst e69
        exact fin dX6_valueOf_73 hv64 rfl hi hw ⟨rfl, h⟩
      · have h := f60 c58
        clear t59 f60
        obtain ⟨t71, f72⟩ := h
        by_cases c70 : i (o1 + 1) p2 = 3
        · have h := t71 c70
          clear t71 f72
          refine V.tableIn (pc := 6) (tgt := 81) (off := 75) hG ((hi _ _)) dX6_valueOf_6 (by omega) (by omega) (by rw [c70]; rfl) (by decide) ?_
          refine V.pick [1, 2, 3, 4] rfl ?_
          exact jn81 i hi h
        · have h := f72 c70
          clear t71 f72
          obtain ⟨t74, f75⟩ := h
          by_cases c73 : i (o1 + 1) p2 = 4
          · have h := t74 c73
            clear t74 f75
            refine V.tableIn (pc := 6) (tgt := 81) (off := 75) hG ((hi _ _)) dX6_valueOf_6 (by omega) (by omega) (by rw [c73]; rfl) (by decide) ?_
            refine V.pick [1, 2, 3, 4] rfl ?_
            exact jn81 i hi h
          · have h := f75 c73
            clear t74 f75
            obtain ⟨t77, f78⟩ := h
            by_cases c76 : i (o1 + 1) p2 = 5
            · have h := t77 c76
              clear t77 f78
              refine V.tableIn (pc := 6) (tgt := 74) (off := 68) hG ((hi _ _)) dX6_valueOf_6 (by omega) (by omega) (by rw [c76]; rfl) (by decide) ?_
              refine V.aload_n (pc := 74) hG dX6_valueOf_74 rfl 0 rfl ?_
              refine V.aload (pc := 75) hG dX6_valueOf_75 4 rfl ?_
              refine V.callVi (pc := 77) (As := [.ref (sA Δ o4)]) (stk := []) hG (sm_X6_takeInput l Δ ho4 hi hw h) mY_X6_takeInput kw_586 kw_588 kw_6 a_3 (by decide) (q := (RX6, TX6, 9)) rfl rfl ⟨Nat.le_of_ble_eq_true rfl, Nat.le_of_ble_eq_true rfl, Nat.le_of_ble_eq_true rfl, Nat.le_of_ble_eq_true rfl⟩ rfl (Nat.le_of_ble_eq_true rfl) dX6_valueOf_77 rfl (fun v79 i80 r81 hv82 hi83 hw84 hq85 => ?_)
              obtain ⟨e87, h⟩ := hq85
              subst e87
              exact fin dX6_valueOf_80 hv82 rfl hi83 hw ⟨rfl, h⟩
            · have h := f78 c76
              clear t77 f78
              refine V.tableOut (pc := 6) (tgt := 81) hG ((hi _ _)) dX6_valueOf_6 (by omega) (by decide) ?_
              refine V.pick [1, 2, 3, 4] rfl ?_
              exact jn81 i hi h
set_option maxRecDepth 100000 in
set_option maxHeartbeats 4000000 in
theorem sm_X8_operate (l : Launch) (Δ : Wd) {i r : MI} {o0 : Int} {p1 : Int} {p2 : Int} (ho0 : stm o0) (hp1 : sR p1) (hp2 : sR p2) {Q : Int → Prop} (hi : okI i) (hw : Wf r) (h : wp_X8_operate o0 p1 p2 i r Q) : Met l yX8_operate (Cond.code yX8_operate cX8_operate 3 (some .int) :: gW) (sRm 0 0) (sPc Δ [.ref (sA Δ o0), .int (sJ p1), .int (sJ p2)] i r) (sQi Δ (fun x i' r' => i = i' ∧ r = r' ∧ Q x)) 0 0 (sFr Δ) := by
  refine Ct.i (ty := .int) (by decide) rfl (Nat.le_of_ble_eq_true rfl) (fun Γ Q0 hG fin => ?_)
  have hG : okG Γ Δ l (sRm 0 0) cX8_operate "Schedulary$Statement" 3 := hG
  show V Γ Δ 504 false i r 0 0 Q0 0 [(0, .ref (sA Δ o0)), (1, .int (sJ p1)), (2, .int (sJ p2))] []
  have jn98 : ∀ (k0j98 : Int), sR k0j98 → s98_X8_operate k0j98 i r Q → V Γ Δ 504 false i r 0 0 Q0 98 [] [.int (sJ k0j98)] := by
    intro k0j98 hk0j98 h
    exact fin dX8_operate_98 hk0j98 rfl hi hw ⟨rfl, rfl, h⟩
  refine V.aload_n (pc := 0) hG dX8_operate_0 rfl 0 rfl ?_
  refine V.getI (pc := 1) (ci := 10) (k := 3) (M := 4) (T := TX8) (o := o0) (kz := 3) hG ho0.o ho0.o.n (by decide) hin_X8 rfl (by decide) (by decide) rfl kw_187 rfl dX8_operate_1 ?_
  obtain ⟨t2, f3⟩ := h
  by_cases c1 : i o0 3 = 38
  · have h := t2 c1
    clear t2 f3
    refine V.lookup (pc := 4) (tgt := 76) (off := 72) hG ((hi _ _)) dX8_operate_4 (by decide) (by rw [c1]; rfl) (by decide) ?_
    refine V.iload_n (pc := 76) hG dX8_operate_76 rfl 1 rfl ?_
    refine V.iload_n (pc := 77) hG dX8_operate_77 rfl 2 rfl ?_
    refine V.iand (pc := 78) hG dX8_operate_78 ?_
    exact fin dX8_operate_79 ((sR_and _ _)) rfl hi hw ⟨rfl, rfl, h⟩
  · have h := f3 c1
    clear t2 f3
    obtain ⟨t5, f6⟩ := h
    by_cases c4 : i o0 3 = 42
    · have h := t5 c4
      clear t5 f6
      refine V.lookup (pc := 4) (tgt := 72) (off := 68) hG ((hi _ _)) dX8_operate_4 (by decide) (by rw [c4]; rfl) (by decide) ?_
      refine V.iload_n (pc := 72) hG dX8_operate_72 rfl 1 rfl ?_
      refine V.iload_n (pc := 73) hG dX8_operate_73 rfl 2 rfl ?_
      refine V.imul (pc := 74) hG dX8_operate_74 ?_
      exact fin dX8_operate_75 ((sR_wr _)) rfl hi hw ⟨rfl, rfl, h⟩
    · have h := f6 c4
      clear t5 f6
      obtain ⟨t8, f9⟩ := h
      by_cases c7 : i o0 3 = 43
      · have h := t8 c7
        clear t8 f9
        refine V.lookup (pc := 4) (tgt := 64) (off := 60) hG ((hi _ _)) dX8_operate_4 (by decide) (by rw [c7]; rfl) (by decide) ?_
        refine V.iload_n (pc := 64) hG dX8_operate_64 rfl 1 rfl ?_
        refine V.iload_n (pc := 65) hG dX8_operate_65 rfl 2 rfl ?_
        refine V.iadd (pc := 66) hG dX8_operate_66 ?_
        exact fin dX8_operate_67 ((sR_wr _)) rfl hi hw ⟨rfl, rfl, h⟩
      · have h := f9 c7
        clear t8 f9
        obtain ⟨t11, f12⟩ := h
        by_cases c10 : i o0 3 = 45
        · have h := t11 c10
          clear t11 f12
          refine V.lookup (pc := 4) (tgt := 68) (off := 64) hG ((hi _ _)) dX8_operate_4 (by decide) (by rw [c10]; rfl) (by decide) ?_
          refine V.iload_n (pc := 68) hG dX8_operate_68 rfl 1 rfl ?_
          refine V.iload_n (pc := 69) hG dX8_operate_69 rfl 2 rfl ?_
          refine V.isub (pc := 70) hG dX8_operate_70 ?_
          exact fin dX8_operate_71 ((sR_wr _)) rfl hi hw ⟨rfl, rfl, h⟩
        · have h := f12 c10
          clear t11 f12
          obtain ⟨t14, f15⟩ := h
          by_cases c13 : i o0 3 = 94
          · have h := t14 c13
            clear t14 f15
            refine V.lookup (pc := 4) (tgt := 84) (off := 80) hG ((hi _ _)) dX8_operate_4 (by decide) (by rw [c13]; rfl) (by decide) ?_
            refine V.iload_n (pc := 84) hG dX8_operate_84 rfl 1 rfl ?_
            refine V.iload_n (pc := 85) hG dX8_operate_85 rfl 2 rfl ?_
            refine V.ixor (pc := 86) hG dX8_operate_86 ?_
            exact fin dX8_operate_87 ((sR_xor _ _)) rfl hi hw ⟨rfl, rfl, h⟩
          · have h := f15 c13
            clear t14 f15
            obtain ⟨t17, f18⟩ := h
            by_cases c16 : i o0 3 = 124
            · have h := t17 c16
              clear t17 f18
              refine V.lookup (pc := 4) (tgt := 80) (off := 76) hG ((hi _ _)) dX8_operate_4 (by decide) (by rw [c16]; rfl) (by decide) ?_
              refine V.iload_n (pc := 80) hG dX8_operate_80 rfl 1 rfl ?_
              refine V.iload_n (pc := 81) hG dX8_operate_81 rfl 2 rfl ?_
              refine V.ior (pc := 82) hG dX8_operate_82 ?_
              exact fin dX8_operate_83 ((sR_or _ _)) rfl hi hw ⟨rfl, rfl, h⟩
            · have h := f18 c16
              clear t17 f18
              refine V.lookup (pc := 4) (tgt := 88) (off := 84) hG ((hi _ _)) dX8_operate_4 (by decide) (by simp [Op.lookupswitch.offset, (show ¬ (38 : Int) = i o0 3 from fun q => c1 q.symm), (show ¬ (42 : Int) = i o0 3 from fun q => c4 q.symm), (show ¬ (43 : Int) = i o0 3 from fun q => c7 q.symm), (show ¬ (45 : Int) = i o0 3 from fun q => c10 q.symm), (show ¬ (94 : Int) = i o0 3 from fun q => c13 q.symm), (show ¬ (124 : Int) = i o0 3 from fun q => c16 q.symm)]) (by decide) ?_
              refine V.iload_n (pc := 88) hG dX8_operate_88 rfl 1 rfl ?_
              refine V.iload_n (pc := 89) hG dX8_operate_89 rfl 2 rfl ?_
              obtain ⟨t20, f21⟩ := h
              refine V.icmp_ge (pc := 90) (tgt := 97) hG hp1 hp2 dX8_operate_90 (by decide) (fun c19 => ?_) (fun c19 => ?_)
              · have h := t20 c19
                clear t20 f21
                refine V.iconst (pc := 97) hG dX8_operate_97 ?_
                refine V.pick [] rfl ?_
                exact jn98 0 ((sR_l rfl)) h
              · have h := f21 c19
                clear t20 f21
                refine V.iconst (pc := 93) hG dX8_operate_93 ?_
                refine V.goto (pc := 94) (tgt := 98) hG dX8_operate_94 (by decide) ?_
                refine V.pick [] rfl ?_
                exact jn98 1 ((sR_l rfl)) h
set_option maxRecDepth 100000 in
set_option maxHeartbeats 4000000 in
theorem sm_X1_begin (l : Launch) (Δ : Wd) {i r : MI} {o2 : Int} {p3 : Int} {p4 : Int} (ho2 : isA o2 (5, 0)) (hp3 : sR p3) (hp4 : sR p4) {Q : MI → Prop} (hi : okI i) (hw : Wf r) (h : wp_X1_begin o2 p3 p4 i r Q) : Met l yX1_begin (Cond.code yX1_begin cX1_begin 8 none :: gW) (sRm 3 67) (sPc Δ [.ref (sA Δ 480), .ref (sA Δ 3), .ref (sA Δ o2), .int (sJ p3), .int (sJ p4)] i r) (sQv Δ (fun i' r' => r = r' ∧ Q i')) 0 0 (sFr Δ) := by
  refine Ct.v (by decide) rfl (Nat.le_of_ble_eq_true rfl) (fun Γ Q0 hG fin => ?_)
  have hG : okG Γ Δ l (sRm 3 67) cX1_begin "Schedulary$Circuit" 8 := hG
  show V Γ Δ 504 false i r 0 0 Q0 0 [(0, .ref (sA Δ 480)), (1, .ref (sA Δ 3)), (2, .ref (sA Δ o2)), (3, .int (sJ p3)), (4, .int (sJ p4))] []
  have jn124 : ∀ (x6j124 : Int) (ij124 : MI), sR x6j124 → okI ij124 → s124_X1_begin p3 p4 x6j124 ij124 r Q → V Γ Δ 504 false ij124 r 0 0 Q0 124 [(0, .ref (sA Δ 480)), (3, .int (sJ p3)), (4, .int (sJ p4)), (6, .int (sJ x6j124))] [] := by
    intro x6j124 ij124 hx6j124 hij124 h
    refine V.aload_n (pc := 124) hG dX1_begin_124 rfl 0 rfl ?_
    refine V.getR (x := 487) (pc := 125) (ci := 3) (k := 1) (M := 2) (T := TX1) (o := 480) (kz := 1) hG a_480 a_480.n (by decide) hin_X1 rfl (by decide) (by decide) rfl kw_486 rfl ((hw).1 (480, 1, 487) (by decide)) (by decide) dX1_begin_125 ?_
    refine V.iload_n (pc := 128) hG dX1_begin_128 rfl 1 rfl ?_
    refine V.bipush (pc := 129) hG dX1_begin_129 (by decide) ?_
    refine V.imul (pc := 131) hG dX1_begin_131 ?_
    refine V.iload (pc := 132) hG dX1_begin_132 2 rfl ?_
    refine V.iadd (pc := 134) hG dX1_begin_134 ?_
    refine V.iload (pc := 135) hG dX1_begin_135 3 rfl ?_
    obtain ⟨g2, h⟩ := h
    refine V.iast (pc := 137) (z := 1536) (o := 487) hG a_487 a_487.n ((sR_wr _)) g2 dX1_begin_137 ?_
    exact fin dX1_begin_138 ((okI_st hij124 hx6j124)) hw ⟨rfl, h⟩
  have jn105 : ∀ (x6j105 : Int) (k0j105 : Int) (ij105 : MI), sR x6j105 → sR k0j105 → okI ij105 → s105_X1_begin o2 p3 p4 x6j105 k0j105 ij105 r Q → V Γ Δ 504 false ij105 r 0 0 Q0 105 [(0, .ref (sA Δ 480)), (1, .ref (sA Δ 3)), (2, .ref (sA Δ o2)), (3, .int (sJ p3)), (4, .int (sJ p4)), (6, .int (sJ x6j105))] [.int (sJ k0j105)] := by
    intro x6j105 k0j105 ij105 hx6j105 hk0j105 hij105 h
    refine V.istore (pc := 105) (lv' := [(7, .int (sJ k0j105)), (0, .ref (sA Δ 480)), (1, .ref (sA Δ 3)), (2, .ref (sA Δ o2)), (3, .int (sJ p3)), (4, .int (sJ p4)), (6, .int (sJ x6j105))]) hG dX1_begin_105 (by decide) rfl ?_
    refine V.aload_n (pc := 107) hG dX1_begin_107 rfl 2 rfl ?_
    refine V.aload_n (pc := 108) hG dX1_begin_108 rfl 3 rfl ?_
    obtain ⟨g22, h⟩ := h
    refine V.getRN (x := r o2 0) (pc := 109) (ci := 5) (k := 0) (M := 13) (T := TX3) (o := o2) (kz := 0) hG ho2 ho2.n (by decide) hin_X3 rfl (by decide) (by decide) rfl kw_283 rfl rfl g22 dX1_begin_109 ?_
    refine V.iload (pc := 112) hG dX1_begin_112 6 rfl ?_
    refine V.iload (pc := 114) hG dX1_begin_114 0 rfl ?_
    refine V.callVNi (pc := 116) (As := [.int (sJ x6j105), .int (sJ k0j105)]) (stk := [.ref (sA Δ 3)]) hG (sm_X8_operate l Δ ((Wf.src hw ho2 g22)) hx6j105 hk0j105 hij105 hw h) mY_X8_operate kw_864 kw_607 kw_10 ((Wf.src hw ho2 g22)).o (by decide) (q := (RX8, TX8, 4)) rfl rfl ⟨Nat.le_of_ble_eq_true rfl, Nat.le_of_ble_eq_true rfl, Nat.le_of_ble_eq_true rfl, Nat.le_of_ble_eq_true rfl⟩ rfl (Nat.le_of_ble_eq_true rfl) dX1_begin_116 rfl (fun v23 i24 r25 hv26 hi27 hw28 hq29 => ?_)
    obtain ⟨e39, e40, h⟩ := hq29
    subst e39
    subst e40
    refine V.callVNi (pc := 119) (As := [.int (sJ v23)]) (stk := []) hG (sm_X6_cut l Δ hv26 hij105 hw h) mY_X6_cut kw_865 kw_575 kw_3 a_3 (by decide) (q := (RX6, TX6, 9)) rfl rfl ⟨Nat.le_of_ble_eq_true rfl, Nat.le_of_ble_eq_true rfl, Nat.le_of_ble_eq_true rfl, Nat.le_of_ble_eq_true rfl⟩ rfl (Nat.le_of_ble_eq_true rfl) dX1_begin_119 rfl (fun v30 i31 r32 hv33 hi34 hw35 hq36 => ?_)
    obtain ⟨e37, e38, h⟩ := hq36
    subst e37
    subst e38
    refine V.istore (pc := 122) (lv' := [(6, .int (sJ v30)), (7, .int (sJ k0j105)), (0, .ref (sA Δ 480)), (1, .ref (sA Δ 3)), (2, .ref (sA Δ o2)), (3, .int (sJ p3)), (4, .int (sJ p4))]) hG dX1_begin_122 (by decide) rfl ?_
    refine V.pick [2, 5, 6, 0] rfl ?_
    exact jn124 v30 ij105 hv33 hij105 h
  have jn60 : ∀ (x5j60 : Int) (k0j60 : Int) (ij60 : MI), sR x5j60 → sR k0j60 → okI ij60 → s60_X1_begin o2 p3 p4 x5j60 k0j60 ij60 r Q → V Γ Δ 504 false ij60 r 0 0 Q0 60 [(0, .ref (sA Δ 480)), (1, .ref (sA Δ 3)), (2, .ref (sA Δ o2)), (3, .int (sJ p3)), (4, .int (sJ p4)), (5, .int (sJ x5j60))] [.int (sJ k0j60)] := by
    intro x5j60 k0j60 ij60 hx5j60 hk0j60 hij60 h
    refine V.istore (pc := 60) (lv' := [(6, .int (sJ k0j60)), (0, .ref (sA Δ 480)), (1, .ref (sA Δ 3)), (2, .ref (sA Δ o2)), (3, .int (sJ p3)), (4, .int (sJ p4)), (5, .int (sJ x5j60))]) hG dX1_begin_60 (by decide) rfl ?_
    refine V.aload_n (pc := 62) hG dX1_begin_62 rfl 3 rfl ?_
    refine V.getIN (pc := 63) (ci := 5) (k := 11) (M := 13) (T := TX3) (o := o2) (kz := 11) hG ho2 ho2.n (by decide) hin_X3 rfl (by decide) (by decide) rfl kw_317 rfl dX1_begin_63 ?_
    obtain ⟨t67, f68⟩ := h
    refine V.if_eq (pc := 66) (tgt := 124) hG ((hij60 _ _)) dX1_begin_66 (by decide) (fun c66 => ?_) (fun c66 => ?_)
    · have h := t67 c66
      clear t67 f68
      refine V.pick [1, 4, 5, 0] rfl ?_
      exact jn124 k0j60 ij60 hk0j60 hij60 h
    · have h := f68 c66
      clear t67 f68
      refine V.aload_n (pc := 69) hG dX1_begin_69 rfl 3 rfl ?_
      refine V.getIN (pc := 70) (ci := 5) (k := 6) (M := 13) (T := TX3) (o := o2) (kz := 6) hG ho2 ho2.n (by decide) hin_X3 rfl (by decide) (by decide) rfl kw_304 rfl dX1_begin_70 ?_
      refine V.iconst (pc := 73) hG dX1_begin_73 ?_
      obtain ⟨f71, t70⟩ := h
      refine V.icmp_ne (pc := 74) (tgt := 95) hG ((hij60 _ _)) ((sR_l rfl)) dX1_begin_74 (by decide) (fun c69 => ?_) (fun c69 => ?_)
      · have h := t70 c69
        clear t70 f71
        refine V.aload_n (pc := 95) hG dX1_begin_95 rfl 1 rfl ?_
        refine V.aload_n (pc := 96) hG dX1_begin_96 rfl 3 rfl ?_
        refine V.getIN (pc := 97) (ci := 5) (k := 6) (M := 13) (T := TX3) (o := o2) (kz := 6) hG ho2 ho2.n (by decide) hin_X3 rfl (by decide) (by decide) rfl kw_304 rfl dX1_begin_97 ?_
        refine V.iload (pc := 100) hG dX1_begin_100 5 rfl ?_
        refine V.callVi (pc := 102) (As := [.int (sJ (ij60 o2 6)), .int (sJ p4)]) (stk := []) hG (sm_X1_valueFrom l Δ ((hij60 _ _)) hp4 hij60 hw h) mY_X1_valueFrom kw_854 kw_856 kw_64 a_480 (by decide) (q := (RX1, TX1, 2)) rfl rfl ⟨Nat.le_of_ble_eq_true rfl, Nat.le_of_ble_eq_true rfl, Nat.le_of_ble_eq_true rfl, Nat.le_of_ble_eq_true rfl⟩ rfl (Nat.le_of_ble_eq_true rfl) dX1_begin_102 rfl (fun v72 i73 r74 hv75 hi76 hw77 hq78 => ?_)
        obtain ⟨e79, e80, h⟩ := hq78
        subst e79
        subst e80
        refine V.pick [1, 2, 3, 4, 5, 0] rfl ?_
        exact jn105 k0j60 v72 ij60 hk0j60 hv75 hij60 h
      · have h := f71 c69
        clear t70 f71
        refine V.aload_n (pc := 77) hG dX1_begin_77 rfl 2 rfl ?_
        refine V.aload_n (pc := 78) hG dX1_begin_78 rfl 3 rfl ?_
        obtain ⟨g81, h⟩ := h
        refine V.getRN (x := r o2 0) (pc := 79) (ci := 5) (k := 0) (M := 13) (T := TX3) (o := o2) (kz := 0) hG ho2 ho2.n (by decide) hin_X3 rfl (by decide) (by decide) rfl kw_283 rfl rfl g81 dX1_begin_79 ?_
        refine V.iconst (pc := 82) hG dX1_begin_82 ?_
        refine V.iload (pc := 83) hG dX1_begin_83 6 rfl ?_
        refine V.aload_n (pc := 85) hG dX1_begin_85 rfl 1 rfl ?_
        refine V.getR (x := 481) (pc := 86) (ci := 3) (k := 0) (M := 2) (T := TX1) (o := 480) (kz := 0) hG a_480 a_480.n (by decide) hin_X1 rfl (by decide) (by decide) rfl kw_484 rfl ((hw).1 (480, 0, 481) (by decide)) (by decide) dX1_begin_86 ?_
        refine V.callVNi (pc := 89) (As := [.ref (sA Δ (r o2 0)), .int (sJ 2), .int (sJ x5j60), .ref (sA Δ 481)]) (stk := []) hG (sm_X6_valueOf l Δ ((Wf.src hw ho2 g81)) ((sR_l rfl)) hx5j60 sta_481 hij60 hw h) mY_X6_valueOf kw_863 kw_583 kw_5 a_3 (by decide) (q := (RX6, TX6, 9)) rfl rfl ⟨Nat.le_of_ble_eq_true rfl, Nat.le_of_ble_eq_true rfl, Nat.le_of_ble_eq_true rfl, Nat.le_of_ble_eq_true rfl⟩ rfl (Nat.le_of_ble_eq_true rfl) dX1_begin_89 rfl (fun v82 i83 r84 hv85 hi86 hw87 hq88 => ?_)
        obtain ⟨e90, h⟩ := hq88
        subst e90
        refine V.goto (pc := 92) (tgt := 105) hG dX1_begin_92 (by decide) ?_
        refine V.pick [1, 2, 3, 4, 5, 0] rfl ?_
        exact jn105 k0j60 v82 i83 hk0j60 hv85 hi86 h
  refine V.iload (pc := 0) hG dX1_begin_0 4 rfl ?_
  refine V.iconst (pc := 2) hG dX1_begin_2 ?_
  obtain ⟨f93, t92⟩ := h
  refine V.icmp_ne (pc := 3) (tgt := 7) hG hp4 ((sR_l rfl)) dX1_begin_3 (by decide) (fun c91 => ?_) (fun c91 => ?_)
  · have h := t92 c91
    clear t92 f93
    refine V.aload_n (pc := 7) hG dX1_begin_7 rfl 1 rfl ?_
    refine V.getIN (pc := 8) (ci := 8) (k := 8) (M := 9) (T := TX6) (o := 3) (kz := 8) hG a_3 a_3.n (by decide) hin_X6 rfl (by decide) (by decide) rfl kw_220 rfl dX1_begin_8 ?_
    refine V.iload (pc := 11) hG dX1_begin_11 4 rfl ?_
    refine V.imul (pc := 13) hG dX1_begin_13 ?_
    refine V.aload_n (pc := 14) hG dX1_begin_14 rfl 2 rfl ?_
    refine V.getIN (pc := 15) (ci := 5) (k := 2) (M := 13) (T := TX3) (o := o2) (kz := 2) hG ho2 ho2.n (by decide) hin_X3 rfl (by decide) (by decide) rfl kw_287 rfl dX1_begin_15 ?_
    refine V.iadd (pc := 18) hG dX1_begin_18 ?_
    refine V.istore (pc := 19) (lv' := [(5, .int (sJ (wr (wr (i 3 8 * p4) + i o2 2)))), (0, .ref (sA Δ 480)), (1, .ref (sA Δ 3)), (2, .ref (sA Δ o2)), (3, .int (sJ p3)), (4, .int (sJ p4))]) hG dX1_begin_19 (by decide) rfl ?_
    refine V.aload_n (pc := 21) hG dX1_begin_21 rfl 3 rfl ?_
    refine V.getIN (pc := 22) (ci := 5) (k := 5) (M := 13) (T := TX3) (o := o2) (kz := 5) hG ho2 ho2.n (by decide) hin_X3 rfl (by decide) (by decide) rfl kw_300 rfl dX1_begin_22 ?_
    refine V.iconst (pc := 25) hG dX1_begin_25 ?_
    obtain ⟨f96, t95⟩ := h
    refine V.icmp_ne (pc := 26) (tgt := 50) hG ((hi _ _)) ((sR_l rfl)) dX1_begin_26 (by decide) (fun c94 => ?_) (fun c94 => ?_)
    · have h := t95 c94
      clear t95 f96
      refine V.aload_n (pc := 50) hG dX1_begin_50 rfl 1 rfl ?_
      refine V.aload_n (pc := 51) hG dX1_begin_51 rfl 3 rfl ?_
      refine V.getIN (pc := 52) (ci := 5) (k := 5) (M := 13) (T := TX3) (o := o2) (kz := 5) hG ho2 ho2.n (by decide) hin_X3 rfl (by decide) (by decide) rfl kw_300 rfl dX1_begin_52 ?_
      refine V.iload (pc := 55) hG dX1_begin_55 5 rfl ?_
      refine V.callVi (pc := 57) (As := [.int (sJ (i o2 5)), .int (sJ p4)]) (stk := []) hG (sm_X1_valueFrom l Δ ((hi _ _)) hp4 hi hw h) mY_X1_valueFrom kw_854 kw_856 kw_64 a_480 (by decide) (q := (RX1, TX1, 2)) rfl rfl ⟨Nat.le_of_ble_eq_true rfl, Nat.le_of_ble_eq_true rfl, Nat.le_of_ble_eq_true rfl, Nat.le_of_ble_eq_true rfl⟩ rfl (Nat.le_of_ble_eq_true rfl) dX1_begin_57 rfl (fun v97 i98 r99 hv100 hi101 hw102 hq103 => ?_)
      obtain ⟨e104, e105, h⟩ := hq103
      subst e104
      subst e105
      refine V.pick [1, 2, 3, 4, 5, 0] rfl ?_
      exact jn60 (wr (wr (i 3 8 * p4) + i o2 2)) v97 i ((sR_wr _)) hv100 hi h
    · have h := f96 c94
      clear t95 f96
      refine V.aload_n (pc := 29) hG dX1_begin_29 rfl 2 rfl ?_
      refine V.aload_n (pc := 30) hG dX1_begin_30 rfl 3 rfl ?_
      obtain ⟨g106, h⟩ := h
      refine V.getRN (x := r o2 0) (pc := 31) (ci := 5) (k := 0) (M := 13) (T := TX3) (o := o2) (kz := 0) hG ho2 ho2.n (by decide) hin_X3 rfl (by decide) (by decide) rfl kw_283 rfl rfl g106 dX1_begin_31 ?_
      refine V.aload_n (pc := 34) hG dX1_begin_34 rfl 3 rfl ?_
      refine V.getIN (pc := 35) (ci := 5) (k := 4) (M := 13) (T := TX3) (o := o2) (kz := 4) hG ho2 ho2.n (by decide) hin_X3 rfl (by decide) (by decide) rfl kw_296 rfl dX1_begin_35 ?_
      refine V.iload (pc := 38) hG dX1_begin_38 0 rfl ?_
      refine V.aload_n (pc := 40) hG dX1_begin_40 rfl 1 rfl ?_
      refine V.getR (x := 481) (pc := 41) (ci := 3) (k := 0) (M := 2) (T := TX1) (o := 480) (kz := 0) hG a_480 a_480.n (by decide) hin_X1 rfl (by decide) (by decide) rfl kw_484 rfl ((hw).1 (480, 0, 481) (by decide)) (by decide) dX1_begin_41 ?_
      refine V.callVNi (pc := 44) (As := [.ref (sA Δ (r o2 0)), .int (sJ (i o2 4)), .int (sJ (wr (wr (i 3 8 * p4) + i o2 2))), .ref (sA Δ 481)]) (stk := []) hG (sm_X6_valueOf l Δ ((Wf.src hw ho2 g106)) ((hi _ _)) ((sR_wr _)) sta_481 hi hw h) mY_X6_valueOf kw_863 kw_583 kw_5 a_3 (by decide) (q := (RX6, TX6, 9)) rfl rfl ⟨Nat.le_of_ble_eq_true rfl, Nat.le_of_ble_eq_true rfl, Nat.le_of_ble_eq_true rfl, Nat.le_of_ble_eq_true rfl⟩ rfl (Nat.le_of_ble_eq_true rfl) dX1_begin_44 rfl (fun v107 i108 r109 hv110 hi111 hw112 hq113 => ?_)
      obtain ⟨e115, h⟩ := hq113
      subst e115
      refine V.goto (pc := 47) (tgt := 60) hG dX1_begin_47 (by decide) ?_
      refine V.pick [1, 2, 3, 4, 5, 0] rfl ?_
      exact jn60 (wr (wr (i 3 8 * p4) + i o2 2)) v107 i108 ((sR_wr _)) hv110 hi111 h
  · have h := f93 c91
    clear t92 f93
    exact fin dX1_begin_6 hi hw ⟨rfl, h⟩
set_option maxRecDepth 100000 in
set_option maxHeartbeats 4000000 in
theorem sm_X7_keep (l : Launch) (Δ : Wd) {i r : MI} {o0 : Int} {p1 : Int} {p2 : Int} {p3 : Int} (ho0 : sta o0) (hp1 : sR p1) (hp2 : sR p2) (hp3 : sR p3) {Q : MI → Prop} (hi : okI i) (hw : Wf r) (h : wp_X7_keep o0 p1 p2 p3 i r Q) : Met l yX7_keep (Cond.code yX7_keep cX7_keep 4 none :: gW) (sRm 1 21) (sPc Δ [.ref (sA Δ o0), .int (sJ p1), .int (sJ p2), .int (sJ p3)] i r) (sQv Δ (fun i' r' => r = r' ∧ Q i')) 0 0 (sFr Δ) := by
  refine Ct.v (by decide) rfl (Nat.le_of_ble_eq_true rfl) (fun Γ Q0 hG fin => ?_)
  have hG : okG Γ Δ l (sRm 1 21) cX7_keep "Schedulary$State" 4 := hG
  show V Γ Δ 504 false i r 0 0 Q0 0 [(0, .ref (sA Δ o0)), (1, .int (sJ p1)), (2, .int (sJ p2)), (3, .int (sJ p3))] []
  have jn17 : ∀  (ij17 : MI), okI ij17 → s17_X7_keep ij17 r Q → V Γ Δ 504 false ij17 r 0 0 Q0 17 [] [] := by
    intro ij17 hij17 h
    exact fin dX7_keep_17 hij17 hw ⟨rfl, h⟩
  refine V.iload_n (pc := 0) hG dX7_keep_0 rfl 1 rfl ?_
  refine V.iload_n (pc := 1) hG dX7_keep_1 rfl 2 rfl ?_
  refine V.callSi (pc := 2) (As := [.int (sJ p1), .int (sJ p2)]) (stk := []) hG (sm_X7_isInside l Δ hp1 hp2 hi hw h) mY_X7_isInside kw_598 kw_599 ⟨Nat.le_of_ble_eq_true rfl, Nat.le_of_ble_eq_true rfl, Nat.le_of_ble_eq_true rfl, Nat.le_of_ble_eq_true rfl⟩ rfl (Nat.le_of_ble_eq_true rfl) dX7_keep_2 rfl (fun v1 i2 r3 hv4 hi5 hw6 hq7 => ?_)
  obtain ⟨e13, e14, h⟩ := hq7
  subst e13
  subst e14
  obtain ⟨t9, f10⟩ := h
  refine V.if_eq (pc := 5) (tgt := 17) hG hv4 dX7_keep_5 (by decide) (fun c8 => ?_) (fun c8 => ?_)
  · have h := t9 c8
    clear t9 f10
    refine V.pick [] rfl ?_
    exact jn17 i hi h
  · have h := f10 c8
    clear t9 f10
    refine V.aload_n (pc := 8) hG dX7_keep_8 rfl 0 rfl ?_
    refine V.getR (x := o0 + 2) (pc := 9) (ci := 9) (k := 1) (M := 5) (T := TX7) (o := o0) (kz := 1) hG ho0.o ho0.o.n (by decide) hin_X7 rfl (by decide) (by decide) rfl kw_251 rfl ((hw.2.2.2.1 _ ho0).2.1) (by have := sta.pos (ho0); omega) dX7_keep_9 ?_
    refine V.iload_n (pc := 12) hG dX7_keep_12 rfl 1 rfl ?_
    obtain ⟨g11, h⟩ := h
    refine V.aald (pc := 13) 7 (z := 2) (o := o0 + 2) (x := p1) (y := o0 + 3 + p1) hG ho0.mm ho0.mm.n (by decide) hp1 g11 (Wf.mem hw ho0 g11) (by have := sta.pos ho0; omega) dX7_keep_13 ?_
    refine V.iload_n (pc := 14) hG dX7_keep_14 rfl 2 rfl ?_
    refine V.iload_n (pc := 15) hG dX7_keep_15 rfl 3 rfl ?_
    obtain ⟨g12, h⟩ := h
    refine V.iast (pc := 16) (z := 16) (o := o0 + 3 + p1) hG (sta.row ho0 g11) ((sta.row ho0 g11)).n hp2 g12 dX7_keep_16 ?_
    refine V.pick [] rfl ?_
    exact jn17 (st i (o0 + 3 + p1) p2 p3) ((okI_st hi hp3)) h
set_option maxRecDepth 100000 in
set_option maxHeartbeats 4000000 in
theorem sm_X7_putOut (l : Launch) (Δ : Wd) {i r : MI} {o0 : Int} {p1 : Int} (ho0 : sta o0) (hp1 : sR p1) {Q : MI → Prop} (hi : okI i) (hw : Wf r) (h : wp_X7_putOut o0 p1 i r Q) : Met l yX7_putOut (Cond.code yX7_putOut cX7_putOut 2 none :: gW) (sRm 0 0) (sPc Δ [.ref (sA Δ o0), .int (sJ p1)] i r) (sQv Δ (fun i' r' => r = r' ∧ Q i')) 0 0 (sFr Δ) := by
  refine Ct.v (by decide) rfl (Nat.le_of_ble_eq_true rfl) (fun Γ Q0 hG fin => ?_)
  have hG : okG Γ Δ l (sRm 0 0) cX7_putOut "Schedulary$State" 2 := hG
  show V Γ Δ 504 false i r 0 0 Q0 0 [(0, .ref (sA Δ o0)), (1, .int (sJ p1))] []
  have jn30 : ∀  (ij30 : MI), okI ij30 → s30_X7_putOut ij30 r Q → V Γ Δ 504 false ij30 r 0 0 Q0 30 [] [] := by
    intro ij30 hij30 h
    exact fin dX7_putOut_30 hij30 hw ⟨rfl, h⟩
  refine V.aload_n (pc := 0) hG dX7_putOut_0 rfl 0 rfl ?_
  refine V.getI (pc := 1) (ci := 9) (k := 3) (M := 5) (T := TX7) (o := o0) (kz := 3) hG ho0.o ho0.o.n (by decide) hin_X7 rfl (by decide) (by decide) rfl kw_254 rfl dX7_putOut_1 ?_
  refine V.sipush (pc := 4) hG dX7_putOut_4 (by decide) ?_
  obtain ⟨t2, f3⟩ := h
  refine V.icmp_ge (pc := 7) (tgt := 30) hG ((hi _ _)) ((sR_l rfl)) dX7_putOut_7 (by decide) (fun c1 => ?_) (fun c1 => ?_)
  · have h := t2 c1
    clear t2 f3
    refine V.pick [] rfl ?_
    exact jn30 i hi h
  · have h := f3 c1
    clear t2 f3
    refine V.aload_n (pc := 10) hG dX7_putOut_10 rfl 0 rfl ?_
    refine V.getR (x := o0 + 5) (pc := 11) (ci := 9) (k := 2) (M := 5) (T := TX7) (o := o0) (kz := 2) hG ho0.o ho0.o.n (by decide) hin_X7 rfl (by decide) (by decide) rfl kw_252 rfl ((hw.2.2.2.1 _ ho0).2.2.1) (by have := sta.pos (ho0); omega) dX7_putOut_11 ?_
    refine V.aload_n (pc := 14) hG dX7_putOut_14 rfl 0 rfl ?_
    refine V.getI (pc := 15) (ci := 9) (k := 3) (M := 5) (T := TX7) (o := o0) (kz := 3) hG ho0.o ho0.o.n (by decide) hin_X7 rfl (by decide) (by decide) rfl kw_254 rfl dX7_putOut_15 ?_
    refine V.iload_n (pc := 18) hG dX7_putOut_18 rfl 1 rfl ?_
    obtain ⟨g4, h⟩ := h
    refine V.iast (pc := 19) (z := 192) (o := o0 + 5) hG ho0.out ho0.out.n ((hi _ _)) g4 dX7_putOut_19 ?_
    refine V.aload_n (pc := 20) hG dX7_putOut_20 rfl 0 rfl ?_
    refine V.dup (pc := 21) hG dX7_putOut_21 rfl ?_
    refine V.getI (pc := 22) (ci := 9) (k := 3) (M := 5) (T := TX7) (o := o0) (kz := 3) hG ho0.o ho0.o.n (by decide) hin_X7 rfl (by decide) (by decide) rfl kw_254 rfl dX7_putOut_22 ?_
    refine V.iconst (pc := 25) hG dX7_putOut_25 ?_
    refine V.iadd (pc := 26) hG dX7_putOut_26 ?_
    refine V.putI (pc := 27) (ci := 9) (k := 3) (M := 5) (T := TX7) (o := o0) (kz := 3) hG ho0.o ho0.o.n (by decide) hin_X7 rfl (by decide) (by decide) rfl kw_254 rfl tyX7 tyX7_ok nmX7 rfl (ty := tyX7 3) (tyX7_ok 3 (by decide)) rfl rfl dX7_putOut_27 ?_
    refine V.pick [] rfl ?_
    exact jn30 (st (st i (o0 + 5) (i o0 3) p1) o0 3 (wr ((st i (o0 + 5) (i o0 3) p1) o0 3 + 1))) ((okI_st ((okI_st hi hp1)) ((sR_wr _)))) h
set_option maxRecDepth 100000 in
set_option maxHeartbeats 4000000 in
theorem sm_X6_write (l : Launch) (Δ : Wd) {i r : MI} {o1 : Int} {p2 : Int} {p3 : Int} {o4 : Int} (ho1 : stm o1) (hp2 : sR p2) (hp3 : sR p3) (ho4 : sta o4) {Q : MI → Prop} (hi : okI i) (hw : Wf r) (h : wp_X6_write o1 p2 p3 o4 i r Q) : Met l yX6_write (Cond.code yX6_write cX6_write 6 none :: gW) (sRm 2 44) (sPc Δ [.ref (sA Δ 3), .ref (sA Δ o1), .int (sJ p2), .int (sJ p3), .ref (sA Δ o4)] i r) (sQv Δ (fun i' r' => r = r' ∧ Q i')) 0 0 (sFr Δ) := by
  refine Ct.v (by decide) rfl (Nat.le_of_ble_eq_true rfl) (fun Γ Q0 hG fin => ?_)
  have hG : okG Γ Δ l (sRm 2 44) cX6_write "Schedulary$Program" 6 := hG
  show V Γ Δ 504 false i r 0 0 Q0 0 [(0, .ref (sA Δ 3)), (1, .ref (sA Δ o1)), (2, .int (sJ p2)), (3, .int (sJ p3)), (4, .ref (sA Δ o4))] []
  have jn61 : ∀  (ij61 : MI), okI ij61 → s61_X6_write ij61 r Q → V Γ Δ 504 false ij61 r 0 0 Q0 61 [] [] := by
    intro ij61 hij61 h
    exact fin dX6_write_61 hij61 hw ⟨rfl, h⟩
  refine V.aload_n (pc := 0) hG dX6_write_0 rfl 1 rfl ?_
  refine V.getRN (x := o1 + 1) (pc := 1) (ci := 10) (k := 0) (M := 4) (T := TX8) (o := o1) (kz := 0) hG ho1.o ho1.o.n (by decide) hin_X8 rfl (by decide) (by decide) rfl kw_179 rfl ((hw.2.2.1 _ ho1).1) (by have := (ho1).1; omega) dX6_write_1 ?_
  refine V.iconst (pc := 4) hG dX6_write_4 ?_
  refine V.iald (pc := 5) (z := 3) (o := o1 + 1) hG ho1.f ho1.f.n ((sR_l rfl)) (by decide) dX6_write_5 ?_
  refine V.istore (pc := 6) (lv' := [(5, .int (sJ (i (o1 + 1) 0))), (0, .ref (sA Δ 3)), (1, .ref (sA Δ o1)), (2, .int (sJ p2)), (3, .int (sJ p3)), (4, .ref (sA Δ o4))]) hG dX6_write_6 (by decide) rfl ?_
  refine V.iload (pc := 8) hG dX6_write_8 0 rfl ?_
  obtain ⟨f4, t3⟩ := h
  refine V.if_ne (pc := 10) (tgt := 29) hG ((hi _ _)) dX6_write_10 (by decide) (fun c2 => ?_) (fun c2 => ?_)
  · have h := t3 c2
    clear t3 f4
    refine V.iload (pc := 29) hG dX6_write_29 0 rfl ?_
    refine V.bipush (pc := 31) hG dX6_write_31 (by decide) ?_
    obtain ⟨f7, t6⟩ := h
    refine V.icmp_ne (pc := 33) (tgt := 45) hG ((hi _ _)) ((sR_l rfl)) dX6_write_33 (by decide) (fun c5 => ?_) (fun c5 => ?_)
    · have h := t6 c5
      clear t6 f7
      refine V.aload (pc := 45) hG dX6_write_45 5 rfl ?_
      refine V.iload (pc := 47) hG dX6_write_47 0 rfl ?_
      refine V.iconst (pc := 49) hG dX6_write_49 ?_
      refine V.isub (pc := 50) hG dX6_write_50 ?_
      refine V.aload_n (pc := 51) hG dX6_write_51 rfl 2 rfl ?_
      refine V.iconst (pc := 52) hG dX6_write_52 ?_
      refine V.iload_n (pc := 53) hG dX6_write_53 rfl 3 rfl ?_
      refine V.callVNi (pc := 54) (As := [.int (sJ 0), .int (sJ p2)]) (stk := [.int (sJ (wr (i (o1 + 1) 0 - 3))), .ref (sA Δ o4)]) hG (sm_X8_placeOf l Δ ho1 ((sR_l rfl)) hp2 hi hw h) mY_X8_placeOf kw_590 kw_592 kw_7 ho1.o (by decide) (q := (RX8, TX8, 4)) rfl rfl ⟨Nat.le_of_ble_eq_true rfl, Nat.le_of_ble_eq_true rfl, Nat.le_of_ble_eq_true rfl, Nat.le_of_ble_eq_true rfl⟩ rfl (Nat.le_of_ble_eq_true rfl) dX6_write_54 rfl (fun v8 i9 r10 hv11 hi12 hw13 hq14 => ?_)
      obtain ⟨e24, e25, h⟩ := hq14
      subst e24
      subst e25
      refine V.iload_n (pc := 57) hG dX6_write_57 rfl 4 rfl ?_
      refine V.callVNv (pc := 58) (As := [.int (sJ (wr (i (o1 + 1) 0 - 3))), .int (sJ v8), .int (sJ p3)]) (stk := []) hG (sm_X7_keep l Δ ho4 ((sR_wr _)) hv11 hp3 hi hw h) mY_X7_keep kw_617 kw_619 kw_13 ho4.o (by decide) (q := (RX7, TX7, 5)) rfl rfl ⟨Nat.le_of_ble_eq_true rfl, Nat.le_of_ble_eq_true rfl, Nat.le_of_ble_eq_true rfl, Nat.le_of_ble_eq_true rfl⟩ rfl (Nat.le_of_ble_eq_true rfl) dX6_write_58 rfl (fun i16 r17 hi19 hw20 hq21 => ?_)
      obtain ⟨e23, h⟩ := hq21
      subst e23
      refine V.pick [] rfl ?_
      exact jn61 i16 hi19 h
    · have h := f7 c5
      clear t6 f7
      refine V.aload (pc := 36) hG dX6_write_36 5 rfl ?_
      refine V.iload_n (pc := 38) hG dX6_write_38 rfl 4 rfl ?_
      refine V.callVNv (pc := 39) (As := [.int (sJ p3)]) (stk := []) hG (sm_X7_putOut l Δ ho4 hp3 hi hw h) mY_X7_putOut kw_613 kw_615 kw_12 ho4.o (by decide) (q := (RX7, TX7, 5)) rfl rfl ⟨Nat.le_of_ble_eq_true rfl, Nat.le_of_ble_eq_true rfl, Nat.le_of_ble_eq_true rfl, Nat.le_of_ble_eq_true rfl⟩ rfl (Nat.le_of_ble_eq_true rfl) dX6_write_39 rfl (fun i27 r28 hi30 hw31 hq32 => ?_)
      obtain ⟨e34, h⟩ := hq32
      subst e34
      refine V.goto (pc := 42) (tgt := 61) hG dX6_write_42 (by decide) ?_
      refine V.pick [] rfl ?_
      exact jn61 i27 hi30 h
  · have h := f4 c2
    clear t3 f4
    refine V.aload (pc := 13) hG dX6_write_13 5 rfl ?_
    refine V.getRN (x := o4 + 1) (pc := 15) (ci := 9) (k := 0) (M := 5) (T := TX7) (o := o4) (kz := 0) hG ho4.o ho4.o.n (by decide) hin_X7 rfl (by decide) (by decide) rfl kw_249 rfl ((hw.2.2.2.1 _ ho4).1) (by have := sta.pos (ho4); omega) dX6_write_15 ?_
    refine V.aload_n (pc := 18) hG dX6_write_18 rfl 2 rfl ?_
    refine V.getRN (x := o1 + 2) (pc := 19) (ci := 10) (k := 1) (M := 4) (T := TX8) (o := o1) (kz := 1) hG ho1.o ho1.o.n (by decide) hin_X8 rfl (by decide) (by decide) rfl kw_182 rfl ((hw.2.2.1 _ ho1).2.1) (by have := (ho1).1; omega) dX6_write_19 ?_
    refine V.iconst (pc := 22) hG dX6_write_22 ?_
    refine V.iald (pc := 23) (z := 3) (o := o1 + 2) hG ho1.m ho1.m.n ((sR_l rfl)) (by decide) dX6_write_23 ?_
    refine V.iload_n (pc := 24) hG dX6_write_24 rfl 4 rfl ?_
    obtain ⟨g36, h⟩ := h
    refine V.iast (pc := 25) (z := 8) (o := o4 + 1) hG ho4.r ho4.r.n ((hi _ _)) g36 dX6_write_25 ?_
    refine V.goto (pc := 26) (tgt := 61) hG dX6_write_26 (by decide) ?_
    refine V.pick [] rfl ?_
    exact jn61 (st i (o4 + 1) (i (o1 + 2) 0) p3) ((okI_st hi hp3)) h
set_option maxRecDepth 100000 in
set_option maxHeartbeats 4000000 in
theorem sm_X1_finish (l : Launch) (Δ : Wd) {i r : MI} {o2 : Int} {p3 : Int} {p4 : Int} (ho2 : isA o2 (5, 0)) (hp3 : sR p3) (hp4 : sR p4) {Q : MI → Prop} (hi : okI i) (hw : Wf r) (h : wp_X1_finish o2 p3 p4 i r Q) : Met l yX1_finish (Cond.code yX1_finish cX1_finish 6 none :: gW) (sRm 3 69) (sPc Δ [.ref (sA Δ 480), .ref (sA Δ 3), .ref (sA Δ o2), .int (sJ p3), .int (sJ p4)] i r) (sQv Δ (fun i' r' => r = r' ∧ Q i')) 0 0 (sFr Δ) := by
  refine Ct.v (by decide) rfl (Nat.le_of_ble_eq_true rfl) (fun Γ Q0 hG fin => ?_)
  have hG : okG Γ Δ l (sRm 3 69) cX1_finish "Schedulary$Circuit" 6 := hG
  show V Γ Δ 504 false i r 0 0 Q0 0 [(0, .ref (sA Δ 480)), (1, .ref (sA Δ 3)), (2, .ref (sA Δ o2)), (3, .int (sJ p3)), (4, .int (sJ p4))] []
  have jn56 : ∀  (ij56 : MI), okI ij56 → s56_X1_finish ij56 r Q → V Γ Δ 504 false ij56 r 0 0 Q0 56 [] [] := by
    intro ij56 hij56 h
    exact fin dX1_finish_56 hij56 hw ⟨rfl, h⟩
  have jn21 : ∀  (ij21 : MI), okI ij21 → s21_X1_finish o2 p3 p4 ij21 r Q → V Γ Δ 504 false ij21 r 0 0 Q0 21 [(0, .ref (sA Δ 480)), (1, .ref (sA Δ 3)), (2, .ref (sA Δ o2)), (3, .int (sJ p3)), (4, .int (sJ p4))] [] := by
    intro ij21 hij21 h
    refine V.aload_n (pc := 21) hG dX1_finish_21 rfl 1 rfl ?_
    refine V.getIN (pc := 22) (ci := 8) (k := 8) (M := 9) (T := TX6) (o := 3) (kz := 8) hG a_3 a_3.n (by decide) hin_X6 rfl (by decide) (by decide) rfl kw_220 rfl dX1_finish_22 ?_
    refine V.iload (pc := 25) hG dX1_finish_25 4 rfl ?_
    refine V.imul (pc := 27) hG dX1_finish_27 ?_
    refine V.aload_n (pc := 28) hG dX1_finish_28 rfl 2 rfl ?_
    refine V.getIN (pc := 29) (ci := 5) (k := 2) (M := 13) (T := TX3) (o := o2) (kz := 2) hG ho2 ho2.n (by decide) hin_X3 rfl (by decide) (by decide) rfl kw_287 rfl dX1_finish_29 ?_
    refine V.iadd (pc := 32) hG dX1_finish_32 ?_
    refine V.istore (pc := 33) (lv' := [(5, .int (sJ (wr (wr (ij21 3 8 * p4) + ij21 o2 2)))), (0, .ref (sA Δ 480)), (1, .ref (sA Δ 3)), (2, .ref (sA Δ o2)), (3, .int (sJ p3)), (4, .int (sJ p4))]) hG dX1_finish_33 (by decide) rfl ?_
    refine V.aload_n (pc := 35) hG dX1_finish_35 rfl 2 rfl ?_
    refine V.aload_n (pc := 36) hG dX1_finish_36 rfl 3 rfl ?_
    obtain ⟨g20, h⟩ := h
    refine V.getRN (x := r o2 0) (pc := 37) (ci := 5) (k := 0) (M := 13) (T := TX3) (o := o2) (kz := 0) hG ho2 ho2.n (by decide) hin_X3 rfl (by decide) (by decide) rfl kw_283 rfl rfl g20 dX1_finish_37 ?_
    refine V.iload (pc := 40) hG dX1_finish_40 0 rfl ?_
    refine V.aload_n (pc := 42) hG dX1_finish_42 rfl 1 rfl ?_
    refine V.iload_n (pc := 43) hG dX1_finish_43 rfl 4 rfl ?_
    refine V.iload (pc := 44) hG dX1_finish_44 5 rfl ?_
    refine V.callVi (pc := 46) (As := [.int (sJ p3), .int (sJ p4)]) (stk := [.int (sJ (wr (wr (ij21 3 8 * p4) + ij21 o2 2))), .ref (sA Δ (r o2 0)), .ref (sA Δ 3)]) hG (sm_X1_valueFrom l Δ hp3 hp4 hij21 hw h) mY_X1_valueFrom kw_854 kw_856 kw_64 a_480 (by decide) (q := (RX1, TX1, 2)) rfl rfl ⟨Nat.le_of_ble_eq_true rfl, Nat.le_of_ble_eq_true rfl, Nat.le_of_ble_eq_true rfl, Nat.le_of_ble_eq_true rfl⟩ rfl (Nat.le_of_ble_eq_true rfl) dX1_finish_46 rfl (fun v21 i22 r23 hv24 hi25 hw26 hq27 => ?_)
    obtain ⟨e37, e38, h⟩ := hq27
    subst e37
    subst e38
    refine V.aload_n (pc := 49) hG dX1_finish_49 rfl 1 rfl ?_
    refine V.getR (x := 481) (pc := 50) (ci := 3) (k := 0) (M := 2) (T := TX1) (o := 480) (kz := 0) hG a_480 a_480.n (by decide) hin_X1 rfl (by decide) (by decide) rfl kw_484 rfl ((hw).1 (480, 0, 481) (by decide)) (by decide) dX1_finish_50 ?_
    refine V.callVNv (pc := 53) (As := [.ref (sA Δ (r o2 0)), .int (sJ (wr (wr (ij21 3 8 * p4) + ij21 o2 2))), .int (sJ v21), .ref (sA Δ 481)]) (stk := []) hG (sm_X6_write l Δ ((Wf.src hw ho2 g20)) ((sR_wr _)) hv24 sta_481 hij21 hw h) mY_X6_write kw_858 kw_611 kw_11 a_3 (by decide) (q := (RX6, TX6, 9)) rfl rfl ⟨Nat.le_of_ble_eq_true rfl, Nat.le_of_ble_eq_true rfl, Nat.le_of_ble_eq_true rfl, Nat.le_of_ble_eq_true rfl⟩ rfl (Nat.le_of_ble_eq_true rfl) dX1_finish_53 rfl (fun i29 r30 hi32 hw33 hq34 => ?_)
    obtain ⟨e36, h⟩ := hq34
    subst e36
    refine V.pick [] rfl ?_
    exact jn56 i29 hi32 h
  refine V.iload (pc := 0) hG dX1_finish_0 4 rfl ?_
  refine V.iconst (pc := 2) hG dX1_finish_2 ?_
  obtain ⟨t40, f41⟩ := h
  refine V.icmp_eq (pc := 3) (tgt := 56) hG hp4 ((sR_l rfl)) dX1_finish_3 (by decide) (fun c39 => ?_) (fun c39 => ?_)
  · have h := t40 c39
    clear t40 f41
    refine V.pick [] rfl ?_
    exact jn56 i hi h
  · have h := f41 c39
    clear t40 f41
    refine V.aload_n (pc := 6) hG dX1_finish_6 rfl 2 rfl ?_
    refine V.getIN (pc := 7) (ci := 5) (k := 12) (M := 13) (T := TX3) (o := o2) (kz := 12) hG ho2 ho2.n (by decide) hin_X3 rfl (by decide) (by decide) rfl kw_319 rfl dX1_finish_7 ?_
    obtain ⟨f44, t43⟩ := h
    refine V.if_ne (pc := 10) (tgt := 21) hG ((hi _ _)) dX1_finish_10 (by decide) (fun c42 => ?_) (fun c42 => ?_)
    · have h := t43 c42
      clear t43 f44
      exact jn21 i hi h
    · have h := f44 c42
      clear t43 f44
      refine V.aload_n (pc := 13) hG dX1_finish_13 rfl 2 rfl ?_
      refine V.getIN (pc := 14) (ci := 5) (k := 8) (M := 13) (T := TX3) (o := o2) (kz := 8) hG ho2 ho2.n (by decide) hin_X3 rfl (by decide) (by decide) rfl kw_309 rfl dX1_finish_14 ?_
      refine V.iconst (pc := 17) hG dX1_finish_17 ?_
      obtain ⟨t46, f47⟩ := h
      refine V.icmp_eq (pc := 18) (tgt := 56) hG ((hi _ _)) ((sR_l rfl)) dX1_finish_18 (by decide) (fun c45 => ?_) (fun c45 => ?_)
      · have h := t46 c45
        clear t46 f47
        refine V.pick [] rfl ?_
        exact jn56 i hi h
      · have h := f47 c45
        clear t46 f47
        exact jn21 i hi h
set_option maxRecDepth 100000 in
set_option maxHeartbeats 4000000 in
theorem sm_X1_turnAfter (l : Launch) (Δ : Wd) {i r : MI} {p0 : Int} {p1 : Int} {p2 : Int} (hp0 : sR p0) (hp1 : sR p1) (hp2 : sR p2) {Q : Int → Prop} (hi : okI i) (hw : Wf r) (h : wp_X1_turnAfter p0 p1 p2 i r Q) : Met l yX1_turnAfter (Cond.code yX1_turnAfter cX1_turnAfter 4 (some .int) :: gW) (sRm 0 0) (sPc Δ [.int (sJ p0), .int (sJ p1), .int (sJ p2)] i r) (sQi Δ (fun x i' r' => i = i' ∧ r = r' ∧ Q x)) 0 0 (sFr Δ) := by
  refine Ct.i (ty := .int) (by decide) rfl (Nat.le_of_ble_eq_true rfl) (fun Γ Q0 hG fin => ?_)
  have hG : okG Γ Δ l (sRm 0 0) cX1_turnAfter "Schedulary$Circuit" 4 := hG
  show V Γ Δ 504 false i r 0 0 Q0 0 [(0, .int (sJ p0)), (1, .int (sJ p1)), (2, .int (sJ p2))] []
  have jn31 : ∀ (k0j31 : Int), sR k0j31 → s31_X1_turnAfter k0j31 i r Q → V Γ Δ 504 false i r 0 0 Q0 31 [] [.int (sJ k0j31)] := by
    intro k0j31 hk0j31 h
    exact fin dX1_turnAfter_31 hk0j31 rfl hi hw ⟨rfl, rfl, h⟩
  have jn15 : s15_X1_turnAfter i r Q → V Γ Δ 504 false i r 0 0 Q0 15 [] [] := by
    intro h
    refine V.iconst (pc := 15) hG dX1_turnAfter_15 ?_
    exact fin dX1_turnAfter_16 ((sR_l rfl)) rfl hi hw ⟨rfl, rfl, h⟩
  refine V.iload_n (pc := 0) hG dX1_turnAfter_0 rfl 0 rfl ?_
  obtain ⟨t2, f3⟩ := h
  refine V.if_lt (pc := 1) (tgt := 15) hG hp0 dX1_turnAfter_1 (by decide) (fun c1 => ?_) (fun c1 => ?_)
  · have h := t2 c1
    clear t2 f3
    refine V.pick [] rfl ?_
    exact jn15 h
  · have h := f3 c1
    clear t2 f3
    refine V.iload_n (pc := 4) hG dX1_turnAfter_4 rfl 1 rfl ?_
    refine V.iconst (pc := 5) hG dX1_turnAfter_5 ?_
    obtain ⟨t5, f6⟩ := h
    refine V.icmp_lt (pc := 6) (tgt := 15) hG hp1 ((sR_l rfl)) dX1_turnAfter_6 (by decide) (fun c4 => ?_) (fun c4 => ?_)
    · have h := t5 c4
      clear t5 f6
      refine V.pick [] rfl ?_
      exact jn15 h
    · have h := f6 c4
      clear t5 f6
      refine V.iload_n (pc := 9) hG dX1_turnAfter_9 rfl 0 rfl ?_
      refine V.iload_n (pc := 10) hG dX1_turnAfter_10 rfl 1 rfl ?_
      obtain ⟨g7, h⟩ := h
      refine V.irem (pc := 11) hG hp0 hp1 g7 dX1_turnAfter_11 ?_
      obtain ⟨t9, f10⟩ := h
      refine V.if_eq (pc := 12) (tgt := 17) hG ((sR_tmod hp0)) dX1_turnAfter_12 (by decide) (fun c8 => ?_) (fun c8 => ?_)
      · have h := t9 c8
        clear t9 f10
        refine V.iload_n (pc := 17) hG dX1_turnAfter_17 rfl 0 rfl ?_
        refine V.iload_n (pc := 18) hG dX1_turnAfter_18 rfl 1 rfl ?_
        obtain ⟨g11, h⟩ := h
        refine V.idiv (pc := 19) hG hp0 hp1 g11 dX1_turnAfter_19 ?_
        refine V.istore_n (pc := 20) (lv' := [(3, .int (sJ (wr (Int.tdiv p0 p1)))), (0, .int (sJ p0)), (1, .int (sJ p1)), (2, .int (sJ p2))]) hG dX1_turnAfter_20 rfl (by decide) rfl ?_
        refine V.iload_n (pc := 21) hG dX1_turnAfter_21 rfl 0 rfl ?_
        refine V.iload_n (pc := 22) hG dX1_turnAfter_22 rfl 3 rfl ?_
        obtain ⟨t13, f14⟩ := h
        refine V.icmp_ge (pc := 23) (tgt := 30) hG ((sR_wr _)) hp2 dX1_turnAfter_23 (by decide) (fun c12 => ?_) (fun c12 => ?_)
        · have h := t13 c12
          clear t13 f14
          refine V.iconst (pc := 30) hG dX1_turnAfter_30 ?_
          refine V.pick [] rfl ?_
          exact jn31 (-1) ((sR_l rfl)) h
        · have h := f14 c12
          clear t13 f14
          refine V.iload_n (pc := 26) hG dX1_turnAfter_26 rfl 0 rfl ?_
          refine V.goto (pc := 27) (tgt := 31) hG dX1_turnAfter_27 (by decide) ?_
          refine V.pick [] rfl ?_
          exact jn31 (wr (Int.tdiv p0 p1)) ((sR_wr _)) h
      · have h := f10 c8
        clear t9 f10
        refine V.pick [] rfl ?_
        exact jn15 h
set_option maxRecDepth 100000 in
set_option maxHeartbeats 4000000 in
theorem sm_X0_endOf (l : Launch) (Δ : Wd) {i r : MI} {o1 : Int} (ho1 : isA o1 (20, 96)) {Q : Int → Prop} (hi : okI i) (hw : Wf r) (h : wp_X0_endOf o1 i r Q) : Met l yX0_endOf (Cond.code yX0_endOf cX0_endOf 4 (some .int) :: gW) (sRm 1 21) (sPc Δ [.ref (sA Δ 67), .ref (sA Δ o1)] i r) (sQi Δ (fun x i' r' => i = i' ∧ r = r' ∧ Q x)) 0 0 (sFr Δ) := by
  refine Ct.i (ty := .int) (by decide) rfl (Nat.le_of_ble_eq_true rfl) (fun Γ Q0 hG fin => ?_)
  have hG : okG Γ Δ l (sRm 1 21) cX0_endOf "Schedulary$Body" 4 := hG
  show V Γ Δ 504 false i r 0 0 Q0 0 [(0, .ref (sA Δ 67)), (1, .ref (sA Δ o1))] []
  refine V.iconst (pc := 0) hG dX0_endOf_0 ?_
  refine V.istore_n (pc := 1) (lv' := [(2, .int (sJ 0)), (0, .ref (sA Δ 67)), (1, .ref (sA Δ o1))]) hG dX0_endOf_1 rfl (by decide) rfl ?_
  refine V.iconst (pc := 2) hG dX0_endOf_2 ?_
  refine V.istore_n (pc := 3) (lv' := [(3, .int (sJ 0)), (2, .int (sJ 0)), (0, .ref (sA Δ 67)), (1, .ref (sA Δ o1))]) hG dX0_endOf_3 rfl (by decide) rfl ?_
  obtain ⟨n14, h⟩ := h
  have lp4 : ∀ (m4 : Nat) (x2_4 : Int) (x3_4 : Int), sR x2_4 → sR x3_4 → LoopP (b4_X0_endOf o1 i r Q) m4 (x2_4, x3_4) → V Γ Δ 504 false i r 0 0 Q0 4 [(0, .ref (sA Δ 67)), (1, .ref (sA Δ o1)), (2, .int (sJ x2_4)), (3, .int (sJ x3_4))] [] := by
    intro m4
    induction m4 with
    | zero => intro x2_4 x3_4 hx2_4 hx3_4 h; exact h.elim
    | succ m4 ih4 =>
      intro x2_4 x3_4 hx2_4 hx3_4 h
      have h := LoopP_succ h
      refine V.iload_n (pc := 4) hG dX0_endOf_4 rfl 3 rfl ?_
      refine V.aload_n (pc := 5) hG dX0_endOf_5 rfl 0 rfl ?_
      refine V.getI (pc := 6) (ci := 2) (k := 4) (M := 5) (T := TX0) (o := 67) (kz := 4) hG a_67 a_67.n (by decide) hin_X0 rfl (by decide) (by decide) rfl kw_363 rfl dX0_endOf_6 ?_
      obtain ⟨t16, f17⟩ := h
      refine V.icmp_ge (pc := 9) (tgt := 32) hG hx3_4 ((hi _ _)) dX0_endOf_9 (by decide) (fun c15 => ?_) (fun c15 => ?_)
      · have h := t16 c15
        clear t16 f17
        refine V.iload_n (pc := 32) hG dX0_endOf_32 rfl 2 rfl ?_
        exact fin dX0_endOf_33 hx2_4 rfl hi hw ⟨rfl, rfl, h⟩
      · have h := f17 c15
        clear t16 f17
        refine V.iload_n (pc := 12) hG dX0_endOf_12 rfl 2 rfl ?_
        refine V.aload_n (pc := 13) hG dX0_endOf_13 rfl 1 rfl ?_
        refine V.iload_n (pc := 14) hG dX0_endOf_14 rfl 3 rfl ?_
        obtain ⟨g18, h⟩ := h
        refine V.iald (pc := 15) (z := 96) (o := o1) hG ho1 ho1.n hx3_4 g18 dX0_endOf_15 ?_
        refine V.aload_n (pc := 16) hG dX0_endOf_16 rfl 0 rfl ?_
        refine V.iload_n (pc := 17) hG dX0_endOf_17 rfl 3 rfl ?_
        refine V.callVi (pc := 18) (As := [.int (sJ x3_4)]) (stk := [.int (sJ (i o1 x3_4)), .int (sJ x2_4)]) hG (sm_X0_cyclesOf l Δ hx3_4 hi hw h) mY_X0_cyclesOf kw_760 kw_688 kw_29 a_67 (by decide) (q := (RX0, TX0, 5)) rfl rfl ⟨Nat.le_of_ble_eq_true rfl, Nat.le_of_ble_eq_true rfl, Nat.le_of_ble_eq_true rfl, Nat.le_of_ble_eq_true rfl⟩ rfl (Nat.le_of_ble_eq_true rfl) dX0_endOf_18 rfl (fun v19 i20 r21 hv22 hi23 hw24 hq25 => ?_)
        obtain ⟨e26, e27, h⟩ := hq25
        subst e26
        subst e27
        refine V.iadd (pc := 21) hG dX0_endOf_21 ?_
        refine V.mmax (pc := 22) hG hx2_4 ((sR_wr _)) kw_761 kw_699 kw_121 kw_max ⟨Nat.le_of_ble_eq_true rfl, Nat.le_of_ble_eq_true rfl, Nat.le_of_ble_eq_true rfl, Nat.le_of_ble_eq_true rfl⟩ dX0_endOf_22 ?_
        refine V.istore_n (pc := 25) (lv' := [(2, .int (sJ (max x2_4 (wr (i o1 x3_4 + v19))))), (0, .ref (sA Δ 67)), (1, .ref (sA Δ o1)), (3, .int (sJ x3_4))]) hG dX0_endOf_25 rfl (by decide) rfl ?_
        refine V.iinc (pc := 26) (lv' := [(3, .int (sJ (wr (x3_4 + 1)))), (2, .int (sJ (max x2_4 (wr (i o1 x3_4 + v19))))), (0, .ref (sA Δ 67)), (1, .ref (sA Δ o1))]) hG dX0_endOf_26 3 rfl (by decide) rfl ?_
        refine V.goto (pc := 29) (tgt := 4) hG dX0_endOf_29 (by decide) ?_
        refine V.pick [2, 3, 1, 0] rfl ?_
        exact ih4 (max x2_4 (wr (i o1 x3_4 + v19))) (wr (x3_4 + 1)) ((sR_max hx2_4 ((sR_wr _)))) ((sR_wr _)) h
  refine V.pick [2, 3, 1, 0] rfl ?_
  exact lp4 n14 0 0 ((sR_l rfl)) ((sR_l rfl)) h
set_option maxRecDepth 100000 in
set_option maxHeartbeats 4000000 in
theorem sm_X4_countCycles (l : Launch) (Δ : Wd) {i r : MI} {p2 : Int} (hp2 : sR p2) {Q : Int → Prop} (hi : okI i) (hw : Wf r) (h : wp_X4_countCycles p2 i r Q) : Met l yX4_countCycles (Cond.code yX4_countCycles cX4_countCycles 3 (some .int) :: gW) (sRm 2 44) (sPc Δ [.ref (sA Δ 469), .ref (sA Δ 67), .int (sJ p2)] i r) (sQi Δ (fun x i' r' => i = i' ∧ r = r' ∧ Q x)) 0 0 (sFr Δ) := by
  refine Ct.i (ty := .int) (by decide) rfl (Nat.le_of_ble_eq_true rfl) (fun Γ Q0 hG fin => ?_)
  have hG : okG Γ Δ l (sRm 2 44) cX4_countCycles "Schedulary$Pace" 3 := hG
  show V Γ Δ 504 false i r 0 0 Q0 0 [(0, .ref (sA Δ 469)), (1, .ref (sA Δ 67)), (2, .int (sJ p2))] []
  have jn28 : ∀ (k0j28 : Int), sR k0j28 → s28_X4_countCycles k0j28 i r Q → V Γ Δ 504 false i r 0 0 Q0 28 [] [.int (sJ k0j28)] := by
    intro k0j28 hk0j28 h
    exact fin dX4_countCycles_28 hk0j28 rfl hi hw ⟨rfl, rfl, h⟩
  refine V.aload_n (pc := 0) hG dX4_countCycles_0 rfl 1 rfl ?_
  refine V.getIN (pc := 1) (ci := 2) (k := 4) (M := 5) (T := TX0) (o := 67) (kz := 4) hG a_67 a_67.n (by decide) hin_X0 rfl (by decide) (by decide) rfl kw_366 rfl dX4_countCycles_1 ?_
  obtain ⟨f3, t2⟩ := h
  refine V.if_ne (pc := 4) (tgt := 11) hG ((hi _ _)) dX4_countCycles_4 (by decide) (fun c1 => ?_) (fun c1 => ?_)
  · have h := t2 c1
    clear t2 f3
    refine V.aload_n (pc := 11) hG dX4_countCycles_11 rfl 1 rfl ?_
    refine V.aload_n (pc := 12) hG dX4_countCycles_12 rfl 0 rfl ?_
    refine V.getR (x := 470) (pc := 13) (ci := 6) (k := 0) (M := 6) (T := TX4) (o := 469) (kz := 0) hG a_469 a_469.n (by decide) hin_X4 rfl (by decide) (by decide) rfl kw_451 rfl ((hw).1 (469, 0, 470) (by decide)) (by decide) dX4_countCycles_13 ?_
    refine V.callVNi (pc := 16) (As := [.ref (sA Δ 470)]) (stk := []) hG (sm_X0_endOf l Δ a_470 hi hw h) mY_X0_endOf kw_845 kw_758 kw_44 a_67 (by decide) (q := (RX0, TX0, 5)) rfl rfl ⟨Nat.le_of_ble_eq_true rfl, Nat.le_of_ble_eq_true rfl, Nat.le_of_ble_eq_true rfl, Nat.le_of_ble_eq_true rfl⟩ rfl (Nat.le_of_ble_eq_true rfl) dX4_countCycles_16 rfl (fun v4 i5 r6 hv7 hi8 hw9 hq10 => ?_)
    obtain ⟨e11, e12, h⟩ := hq10
    subst e11
    subst e12
    refine V.aload_n (pc := 19) hG dX4_countCycles_19 rfl 0 rfl ?_
    refine V.getI (pc := 20) (ci := 6) (k := 5) (M := 6) (T := TX4) (o := 469) (kz := 5) hG a_469 a_469.n (by decide) hin_X4 rfl (by decide) (by decide) rfl kw_460 rfl dX4_countCycles_20 ?_
    refine V.iload_n (pc := 23) hG dX4_countCycles_23 rfl 2 rfl ?_
    refine V.iconst (pc := 24) hG dX4_countCycles_24 ?_
    refine V.isub (pc := 25) hG dX4_countCycles_25 ?_
    refine V.imul (pc := 26) hG dX4_countCycles_26 ?_
    refine V.iadd (pc := 27) hG dX4_countCycles_27 ?_
    refine V.pick [] rfl ?_
    exact jn28 (wr (v4 + wr (i 469 5 * wr (p2 - 1)))) ((sR_wr _)) h
  · have h := f3 c1
    clear t2 f3
    refine V.iconst (pc := 7) hG dX4_countCycles_7 ?_
    refine V.goto (pc := 8) (tgt := 28) hG dX4_countCycles_8 (by decide) ?_
    refine V.pick [] rfl ?_
    exact jn28 0 ((sR_l rfl)) h
set_option maxRecDepth 100000 in
set_option maxHeartbeats 4000000 in
theorem sm_X6_bodyTurns (l : Launch) (Δ : Wd) {i r : MI}   {Q : Int → Prop} (hi : okI i) (hw : Wf r) (h : wp_X6_bodyTurns  i r Q) : Met l yX6_bodyTurns (Cond.code yX6_bodyTurns cX6_bodyTurns 1 (some .int) :: gW) (sRm 0 0) (sPc Δ [.ref (sA Δ 3)] i r) (sQi Δ (fun x i' r' => i = i' ∧ r = r' ∧ Q x)) 0 0 (sFr Δ) := by
  refine Ct.i (ty := .int) (by decide) rfl (Nat.le_of_ble_eq_true rfl) (fun Γ Q0 hG fin => ?_)
  have hG : okG Γ Δ l (sRm 0 0) cX6_bodyTurns "Schedulary$Program" 1 := hG
  show V Γ Δ 504 false i r 0 0 Q0 0 [(0, .ref (sA Δ 3))] []
  have jn23 : ∀ (k0j23 : Int), sR k0j23 → s23_X6_bodyTurns k0j23 i r Q → V Γ Δ 504 false i r 0 0 Q0 23 [] [.int (sJ k0j23)] := by
    intro k0j23 hk0j23 h
    exact fin dX6_bodyTurns_23 hk0j23 rfl hi hw ⟨rfl, rfl, h⟩
  refine V.aload_n (pc := 0) hG dX6_bodyTurns_0 rfl 0 rfl ?_
  refine V.getI (pc := 1) (ci := 8) (k := 8) (M := 9) (T := TX6) (o := 3) (kz := 8) hG a_3 a_3.n (by decide) hin_X6 rfl (by decide) (by decide) rfl kw_218 rfl dX6_bodyTurns_1 ?_
  obtain ⟨t2, f3⟩ := h
  refine V.if_le (pc := 4) (tgt := 19) hG ((hi _ _)) dX6_bodyTurns_4 (by decide) (fun c1 => ?_) (fun c1 => ?_)
  · have h := t2 c1
    clear t2 f3
    refine V.aload_n (pc := 19) hG dX6_bodyTurns_19 rfl 0 rfl ?_
    refine V.getI (pc := 20) (ci := 8) (k := 6) (M := 9) (T := TX6) (o := 3) (kz := 6) hG a_3 a_3.n (by decide) hin_X6 rfl (by decide) (by decide) rfl kw_214 rfl dX6_bodyTurns_20 ?_
    refine V.pick [] rfl ?_
    exact jn23 (i 3 6) ((hi _ _)) h
  · have h := f3 c1
    clear t2 f3
    refine V.aload_n (pc := 7) hG dX6_bodyTurns_7 rfl 0 rfl ?_
    refine V.getI (pc := 8) (ci := 8) (k := 6) (M := 9) (T := TX6) (o := 3) (kz := 6) hG a_3 a_3.n (by decide) hin_X6 rfl (by decide) (by decide) rfl kw_214 rfl dX6_bodyTurns_8 ?_
    refine V.aload_n (pc := 11) hG dX6_bodyTurns_11 rfl 0 rfl ?_
    refine V.getI (pc := 12) (ci := 8) (k := 8) (M := 9) (T := TX6) (o := 3) (kz := 8) hG a_3 a_3.n (by decide) hin_X6 rfl (by decide) (by decide) rfl kw_218 rfl dX6_bodyTurns_12 ?_
    obtain ⟨g4, h⟩ := h
    refine V.idiv (pc := 15) hG ((hi _ _)) ((hi _ _)) g4 dX6_bodyTurns_15 ?_
    refine V.goto (pc := 16) (tgt := 23) hG dX6_bodyTurns_16 (by decide) ?_
    refine V.pick [] rfl ?_
    exact jn23 (wr (Int.tdiv (i 3 6) (i 3 8))) ((sR_wr _)) h
set_option maxRecDepth 100000 in
set_option maxHeartbeats 4000000 in
theorem sm_X7_begin (l : Launch) (Δ : Wd) {i r : MI} {o0 : Int} (ho0 : sta o0) {Q : MI → Prop} (hi : okI i) (hw : Wf r) (h : wp_X7_begin o0 i r Q) : Met l yX7_begin (Cond.code yX7_begin cX7_begin 4 none :: gW) (sRm 1 21) (sPc Δ [.ref (sA Δ o0), .ref (sA Δ 3)] i r) (sQv Δ (fun i' r' => r = r' ∧ Q i')) 0 0 (sFr Δ) := by
  refine Ct.v (by decide) rfl (Nat.le_of_ble_eq_true rfl) (fun Γ Q0 hG fin => ?_)
  have hG : okG Γ Δ l (sRm 1 21) cX7_begin "Schedulary$State" 4 := hG
  show V Γ Δ 504 false i r 0 0 Q0 0 [(0, .ref (sA Δ o0)), (1, .ref (sA Δ 3))] []
  refine V.iconst (pc := 0) hG dX7_begin_0 ?_
  refine V.istore_n (pc := 1) (lv' := [(2, .int (sJ 0)), (0, .ref (sA Δ o0)), (1, .ref (sA Δ 3))]) hG dX7_begin_1 rfl (by decide) rfl ?_
  obtain ⟨n62, h⟩ := h
  have lp2 : ∀ (m2 : Nat) (x2_2 : Int) (i_2 : MI), sR x2_2 → okI i_2 → LoopP (b2_X7_begin o0 r Q) m2 (x2_2, i_2) → V Γ Δ 504 false i_2 r 0 0 Q0 2 [(0, .ref (sA Δ o0)), (1, .ref (sA Δ 3)), (2, .int (sJ x2_2))] [] := by
    intro m2
    induction m2 with
    | zero => intro x2_2 i_2 hx2_2 hi_2 h; exact h.elim
    | succ m2 ih2 =>
      intro x2_2 i_2 hx2_2 hi_2 h
      have h := LoopP_succ h
      refine V.iload_n (pc := 2) hG dX7_begin_2 rfl 2 rfl ?_
      refine V.bipush (pc := 3) hG dX7_begin_3 (by decide) ?_
      obtain ⟨t64, f65⟩ := h
      refine V.icmp_ge (pc := 5) (tgt := 21) hG hx2_2 ((sR_l rfl)) dX7_begin_5 (by decide) (fun c63 => ?_) (fun c63 => ?_)
      · have h := t64 c63
        clear t64 f65
        refine V.iconst (pc := 21) hG dX7_begin_21 ?_
        refine V.istore_n (pc := 22) (lv' := [(2, .int (sJ 0)), (0, .ref (sA Δ o0)), (1, .ref (sA Δ 3))]) hG dX7_begin_22 rfl (by decide) rfl ?_
        obtain ⟨n66, h⟩ := h
        have lp23 : ∀ (m23 : Nat) (x2_23 : Int) (i_23 : MI), sR x2_23 → okI i_23 → LoopP (b23_X7_begin o0 r Q) m23 (x2_23, i_23) → V Γ Δ 504 false i_23 r 0 0 Q0 23 [(0, .ref (sA Δ o0)), (1, .ref (sA Δ 3)), (2, .int (sJ x2_23))] [] := by
          intro m23
          induction m23 with
          | zero => intro x2_23 i_23 hx2_23 hi_23 h; exact h.elim
          | succ m23 ih23 =>
            intro x2_23 i_23 hx2_23 hi_23 h
            have h := LoopP_succ h
            refine V.iload_n (pc := 23) hG dX7_begin_23 rfl 2 rfl ?_
            refine V.iconst (pc := 24) hG dX7_begin_24 ?_
            obtain ⟨t68, f69⟩ := h
            refine V.icmp_ge (pc := 25) (tgt := 68) hG hx2_23 ((sR_l rfl)) dX7_begin_25 (by decide) (fun c67 => ?_) (fun c67 => ?_)
            · have h := t68 c67
              clear t68 f69
              refine V.aload_n (pc := 68) hG dX7_begin_68 rfl 0 rfl ?_
              refine V.iconst (pc := 69) hG dX7_begin_69 ?_
              refine V.putI (pc := 70) (ci := 9) (k := 3) (M := 5) (T := TX7) (o := o0) (kz := 3) hG ho0.o ho0.o.n (by decide) hin_X7 rfl (by decide) (by decide) rfl kw_254 rfl tyX7 tyX7_ok nmX7 rfl (ty := tyX7 3) (tyX7_ok 3 (by decide)) rfl rfl dX7_begin_70 ?_
              refine V.aload_n (pc := 73) hG dX7_begin_73 rfl 0 rfl ?_
              refine V.iconst (pc := 74) hG dX7_begin_74 ?_
              refine V.putI (pc := 75) (ci := 9) (k := 4) (M := 5) (T := TX7) (o := o0) (kz := 4) hG ho0.o ho0.o.n (by decide) hin_X7 rfl (by decide) (by decide) rfl kw_256 rfl tyX7 tyX7_ok nmX7 rfl (ty := tyX7 4) (tyX7_ok 4 (by decide)) rfl rfl dX7_begin_75 ?_
              exact fin dX7_begin_78 ((okI_st ((okI_st hi_23 ((sR_l rfl)))) ((sR_l rfl)))) hw ⟨rfl, h⟩
            · have h := f69 c67
              clear t68 f69
              refine V.iconst (pc := 28) hG dX7_begin_28 ?_
              refine V.istore_n (pc := 29) (lv' := [(3, .int (sJ 0)), (0, .ref (sA Δ o0)), (1, .ref (sA Δ 3)), (2, .int (sJ x2_23))]) hG dX7_begin_29 rfl (by decide) rfl ?_
              obtain ⟨n70, h⟩ := h
              have lp30 : ∀ (m30 : Nat) (x3_30 : Int) (i_30 : MI), sR x3_30 → okI i_30 → LoopP (b30_X7_begin o0 x2_23 r Q (LoopP (b23_X7_begin o0 r Q) m23)) m30 (x3_30, i_30) → V Γ Δ 504 false i_30 r 0 0 Q0 30 [(0, .ref (sA Δ o0)), (1, .ref (sA Δ 3)), (2, .int (sJ x2_23)), (3, .int (sJ x3_30))] [] := by
                intro m30
                induction m30 with
                | zero => intro x3_30 i_30 hx3_30 hi_30 h; exact h.elim
                | succ m30 ih30 =>
                  intro x3_30 i_30 hx3_30 hi_30 h
                  have h := LoopP_succ h
                  refine V.iload_n (pc := 30) hG dX7_begin_30 rfl 3 rfl ?_
                  refine V.bipush (pc := 31) hG dX7_begin_31 (by decide) ?_
                  obtain ⟨t72, f73⟩ := h
                  refine V.icmp_ge (pc := 33) (tgt := 62) hG hx3_30 ((sR_l rfl)) dX7_begin_33 (by decide) (fun c71 => ?_) (fun c71 => ?_)
                  · have h := t72 c71
                    clear t72 f73
                    refine V.iinc (pc := 62) (lv' := [(2, .int (sJ (wr (x2_23 + 1)))), (0, .ref (sA Δ o0)), (1, .ref (sA Δ 3)), (3, .int (sJ x3_30))]) hG dX7_begin_62 2 rfl (by decide) rfl ?_
                    refine V.goto (pc := 65) (tgt := 23) hG dX7_begin_65 (by decide) ?_
                    refine V.pick [1, 2, 0] rfl ?_
                    exact ih23 (wr (x2_23 + 1)) i_30 ((sR_wr _)) hi_30 h
                  · have h := f73 c71
                    clear t72 f73
                    refine V.aload_n (pc := 36) hG dX7_begin_36 rfl 0 rfl ?_
                    refine V.getR (x := o0 + 2) (pc := 37) (ci := 9) (k := 1) (M := 5) (T := TX7) (o := o0) (kz := 1) hG ho0.o ho0.o.n (by decide) hin_X7 rfl (by decide) (by decide) rfl kw_251 rfl ((hw.2.2.2.1 _ ho0).2.1) (by have := sta.pos (ho0); omega) dX7_begin_37 ?_
                    refine V.iload_n (pc := 40) hG dX7_begin_40 rfl 2 rfl ?_
                    obtain ⟨g74, h⟩ := h
                    refine V.aald (pc := 41) 7 (z := 2) (o := o0 + 2) (x := x2_23) (y := o0 + 3 + x2_23) hG ho0.mm ho0.mm.n (by decide) hx2_23 g74 (Wf.mem hw ho0 g74) (by have := sta.pos ho0; omega) dX7_begin_41 ?_
                    refine V.iload_n (pc := 42) hG dX7_begin_42 rfl 3 rfl ?_
                    refine V.aload_n (pc := 43) hG dX7_begin_43 rfl 1 rfl ?_
                    refine V.aload_n (pc := 44) hG dX7_begin_44 rfl 1 rfl ?_
                    refine V.getRN (x := 6) (pc := 45) (ci := 8) (k := 2) (M := 9) (T := TX6) (o := 3) (kz := 2) hG a_3 a_3.n (by decide) hin_X6 rfl (by decide) (by decide) rfl kw_205 rfl ((hw).1 (3, 2, 6) (by decide)) (by decide) dX7_begin_45 ?_
                    refine V.iload_n (pc := 48) hG dX7_begin_48 rfl 2 rfl ?_
                    obtain ⟨g75, h⟩ := h
                    refine V.aald (pc := 49) 7 (z := 2) (o := 6) (x := x2_23) (y := 7 + x2_23) hG a_6 a_6.n (by decide) hx2_23 g75 (hw.2.1 (6, 2, 7) (by decide) _ g75.1 g75.2) (by omega) dX7_begin_49 ?_
                    refine V.iload_n (pc := 50) hG dX7_begin_50 rfl 3 rfl ?_
                    obtain ⟨g76, h⟩ := h
                    refine V.iald (pc := 51) (z := 16) (o := 7 + x2_23) hG (row_6 g75) ((row_6 g75)).n hx3_30 g76 dX7_begin_51 ?_
                    refine V.callVNi (pc := 52) (As := [.int (sJ (i_30 (7 + x2_23) x3_30))]) (stk := [.int (sJ x3_30), .ref (sA Δ (o0 + 3 + x2_23))]) hG (sm_X6_cut l Δ ((hi_30 _ _)) hi_30 hw h) mY_X6_cut kw_573 kw_575 kw_3 a_3 (by decide) (q := (RX6, TX6, 9)) rfl rfl ⟨Nat.le_of_ble_eq_true rfl, Nat.le_of_ble_eq_true rfl, Nat.le_of_ble_eq_true rfl, Nat.le_of_ble_eq_true rfl⟩ rfl (Nat.le_of_ble_eq_true rfl) dX7_begin_52 rfl (fun v77 i78 r79 hv80 hi81 hw82 hq83 => ?_)
                    obtain ⟨e85, e86, h⟩ := hq83
                    subst e85
                    subst e86
                    obtain ⟨g84, h⟩ := h
                    refine V.iast (pc := 55) (z := 16) (o := o0 + 3 + x2_23) hG (sta.row ho0 g74) ((sta.row ho0 g74)).n hx3_30 g84 dX7_begin_55 ?_
                    refine V.iinc (pc := 56) (lv' := [(3, .int (sJ (wr (x3_30 + 1)))), (0, .ref (sA Δ o0)), (1, .ref (sA Δ 3)), (2, .int (sJ x2_23))]) hG dX7_begin_56 3 rfl (by decide) rfl ?_
                    refine V.goto (pc := 59) (tgt := 30) hG dX7_begin_59 (by decide) ?_
                    refine V.pick [1, 2, 3, 0] rfl ?_
                    exact ih30 (wr (x3_30 + 1)) (st i_30 (o0 + 3 + x2_23) x3_30 v77) ((sR_wr _)) ((okI_st hi_30 hv80)) h
              refine V.pick [1, 2, 3, 0] rfl ?_
              exact lp30 n70 0 i_23 ((sR_l rfl)) hi_23 h
        refine V.pick [1, 2, 0] rfl ?_
        exact lp23 n66 0 i_2 ((sR_l rfl)) hi_2 h
      · have h := f65 c63
        clear t64 f65
        refine V.aload_n (pc := 8) hG dX7_begin_8 rfl 0 rfl ?_
        refine V.getR (x := o0 + 1) (pc := 9) (ci := 9) (k := 0) (M := 5) (T := TX7) (o := o0) (kz := 0) hG ho0.o ho0.o.n (by decide) hin_X7 rfl (by decide) (by decide) rfl kw_248 rfl ((hw.2.2.2.1 _ ho0).1) (by have := sta.pos (ho0); omega) dX7_begin_9 ?_
        refine V.iload_n (pc := 12) hG dX7_begin_12 rfl 2 rfl ?_
        refine V.iconst (pc := 13) hG dX7_begin_13 ?_
        obtain ⟨g87, h⟩ := h
        refine V.iast (pc := 14) (z := 8) (o := o0 + 1) hG ho0.r ho0.r.n hx2_2 g87 dX7_begin_14 ?_
        refine V.iinc (pc := 15) (lv' := [(2, .int (sJ (wr (x2_2 + 1)))), (0, .ref (sA Δ o0)), (1, .ref (sA Δ 3))]) hG dX7_begin_15 2 rfl (by decide) rfl ?_
        refine V.goto (pc := 18) (tgt := 2) hG dX7_begin_18 (by decide) ?_
        refine V.pick [1, 2, 0] rfl ?_
        exact ih2 (wr (x2_2 + 1)) (st i_2 (o0 + 1) x2_2 0) ((sR_wr _)) ((okI_st hi_2 ((sR_l rfl)))) h
  refine V.pick [1, 2, 0] rfl ?_
  exact lp2 n62 0 i ((sR_l rfl)) hi h
set_option maxRecDepth 100000 in
set_option maxHeartbeats 4000000 in
theorem sm_X1_turn (l : Launch) (Δ : Wd) {i r : MI}   {Q : MI → Prop} (hi : okI i) (hw : Wf r) (h : wp_X1_turn  i r Q) : Met l yX1_turn (Cond.code yX1_turn cX1_turn 9 none :: gW) (sRm 4 94) (sPc Δ [.ref (sA Δ 480), .ref (sA Δ 3), .ref (sA Δ 67), .ref (sA Δ 469)] i r) (sQv Δ (fun i' r' => r = r' ∧ Q i')) 0 0 (sFr Δ) := by
  refine Ct.v (by decide) rfl (Nat.le_of_ble_eq_true rfl) (fun Γ Q0 hG fin => ?_)
  have hG : okG Γ Δ l (sRm 4 94) cX1_turn "Schedulary$Circuit" 9 := hG
  show V Γ Δ 504 false i r 0 0 Q0 0 [(0, .ref (sA Δ 480)), (1, .ref (sA Δ 3)), (2, .ref (sA Δ 67)), (3, .ref (sA Δ 469))] []
  refine V.aload_n (pc := 0) hG dX1_turn_0 rfl 0 rfl ?_
  refine V.getR (x := 481) (pc := 1) (ci := 3) (k := 0) (M := 2) (T := TX1) (o := 480) (kz := 0) hG a_480 a_480.n (by decide) hin_X1 rfl (by decide) (by decide) rfl kw_484 rfl ((hw).1 (480, 0, 481) (by decide)) (by decide) dX1_turn_1 ?_
  refine V.aload_n (pc := 4) hG dX1_turn_4 rfl 1 rfl ?_
  refine V.callVNv (pc := 5) (As := [.ref (sA Δ 3)]) (stk := []) hG (sm_X7_begin l Δ sta_481 hi hw h) mY_X7_begin kw_836 kw_571 kw_2 a_481 (by decide) (q := (RX7, TX7, 5)) rfl rfl ⟨Nat.le_of_ble_eq_true rfl, Nat.le_of_ble_eq_true rfl, Nat.le_of_ble_eq_true rfl, Nat.le_of_ble_eq_true rfl⟩ rfl (Nat.le_of_ble_eq_true rfl) dX1_turn_5 rfl (fun i2 r3 hi5 hw6 hq7 => ?_)
  obtain ⟨e227, h⟩ := hq7
  subst e227
  refine V.aload_n (pc := 8) hG dX1_turn_8 rfl 1 rfl ?_
  refine V.callVNi (pc := 9) (As := []) (stk := []) hG (sm_X6_bodyTurns l Δ  hi5 hw h) mY_X6_bodyTurns kw_837 kw_839 kw_61 a_3 (by decide) (q := (RX6, TX6, 9)) rfl rfl ⟨Nat.le_of_ble_eq_true rfl, Nat.le_of_ble_eq_true rfl, Nat.le_of_ble_eq_true rfl, Nat.le_of_ble_eq_true rfl⟩ rfl (Nat.le_of_ble_eq_true rfl) dX1_turn_9 rfl (fun v8 i9 r10 hv11 hi12 hw13 hq14 => ?_)
  obtain ⟨e224, e225, h⟩ := hq14
  subst e224
  subst e225
  refine V.istore (pc := 12) (lv' := [(4, .int (sJ v8)), (0, .ref (sA Δ 480)), (1, .ref (sA Δ 3)), (2, .ref (sA Δ 67)), (3, .ref (sA Δ 469))]) hG dX1_turn_12 (by decide) rfl ?_
  refine V.aload_n (pc := 14) hG dX1_turn_14 rfl 4 rfl ?_
  refine V.aload_n (pc := 15) hG dX1_turn_15 rfl 3 rfl ?_
  refine V.iload (pc := 16) hG dX1_turn_16 0 rfl ?_
  refine V.callVNi (pc := 18) (As := [.ref (sA Δ 67), .int (sJ v8)]) (stk := []) hG (sm_X4_countCycles l Δ hv11 hi5 hw h) mY_X4_countCycles kw_841 kw_843 kw_62 a_469 (by decide) (q := (RX4, TX4, 6)) rfl rfl ⟨Nat.le_of_ble_eq_true rfl, Nat.le_of_ble_eq_true rfl, Nat.le_of_ble_eq_true rfl, Nat.le_of_ble_eq_true rfl⟩ rfl (Nat.le_of_ble_eq_true rfl) dX1_turn_18 rfl (fun v15 i16 r17 hv18 hi19 hw20 hq21 => ?_)
  obtain ⟨e222, e223, h⟩ := hq21
  subst e222
  subst e223
  refine V.istore (pc := 21) (lv' := [(5, .int (sJ v15)), (4, .int (sJ v8)), (0, .ref (sA Δ 480)), (1, .ref (sA Δ 3)), (2, .ref (sA Δ 67)), (3, .ref (sA Δ 469))]) hG dX1_turn_21 (by decide) rfl ?_
  refine V.iconst (pc := 23) hG dX1_turn_23 ?_
  refine V.istore (pc := 24) (lv' := [(6, .int (sJ 0)), (5, .int (sJ v15)), (4, .int (sJ v8)), (0, .ref (sA Δ 480)), (1, .ref (sA Δ 3)), (2, .ref (sA Δ 67)), (3, .ref (sA Δ 469))]) hG dX1_turn_24 (by decide) rfl ?_
  obtain ⟨n161, h⟩ := h
  have lp26 : ∀ (m26 : Nat) (x6_26 : Int) (i_26 : MI), sR x6_26 → okI i_26 → LoopP (b26_X1_turn v8 v15 r Q) m26 (x6_26, i_26) → V Γ Δ 504 false i_26 r 0 0 Q0 26 [(0, .ref (sA Δ 480)), (1, .ref (sA Δ 3)), (2, .ref (sA Δ 67)), (3, .ref (sA Δ 469)), (4, .int (sJ v8)), (5, .int (sJ v15)), (6, .int (sJ x6_26))] [] := by
    intro m26
    induction m26 with
    | zero => intro x6_26 i_26 hx6_26 hi_26 h; exact h.elim
    | succ m26 ih26 =>
      intro x6_26 i_26 hx6_26 hi_26 h
      have h := LoopP_succ h
      refine V.iload (pc := 26) hG dX1_turn_26 6 rfl ?_
      refine V.iload (pc := 28) hG dX1_turn_28 5 rfl ?_
      obtain ⟨t163, f164⟩ := h
      refine V.icmp_gt (pc := 30) (tgt := 156) hG hx6_26 hv18 dX1_turn_30 (by decide) (fun c162 => ?_) (fun c162 => ?_)
      · have h := t163 c162
        clear t163 f164
        exact fin dX1_turn_156 hi_26 hw ⟨rfl, h⟩
      · have h := f164 c162
        clear t163 f164
        refine V.iconst (pc := 33) hG dX1_turn_33 ?_
        refine V.istore (pc := 34) (lv' := [(7, .int (sJ 0)), (0, .ref (sA Δ 480)), (1, .ref (sA Δ 3)), (2, .ref (sA Δ 67)), (3, .ref (sA Δ 469)), (4, .int (sJ v8)), (5, .int (sJ v15)), (6, .int (sJ x6_26))]) hG dX1_turn_34 (by decide) rfl ?_
        obtain ⟨n165, h⟩ := h
        have lp36 : ∀ (m36 : Nat) (x7_36 : Int) (i_36 : MI), sR x7_36 → okI i_36 → LoopP (b36_X1_turn v8 v15 x6_26 r Q (LoopP (b26_X1_turn v8 v15 r Q) m26)) m36 (x7_36, i_36) → V Γ Δ 504 false i_36 r 0 0 Q0 36 [(0, .ref (sA Δ 480)), (1, .ref (sA Δ 3)), (2, .ref (sA Δ 67)), (3, .ref (sA Δ 469)), (4, .int (sJ v8)), (5, .int (sJ v15)), (6, .int (sJ x6_26)), (7, .int (sJ x7_36))] [] := by
          intro m36
          induction m36 with
          | zero => intro x7_36 i_36 hx7_36 hi_36 h; exact h.elim
          | succ m36 ih36 =>
            intro x7_36 i_36 hx7_36 hi_36 h
            have h := LoopP_succ h
            refine V.iload (pc := 36) hG dX1_turn_36 7 rfl ?_
            refine V.aload_n (pc := 38) hG dX1_turn_38 rfl 2 rfl ?_
            refine V.getIN (pc := 39) (ci := 2) (k := 4) (M := 5) (T := TX0) (o := 67) (kz := 4) hG a_67 a_67.n (by decide) hin_X0 rfl (by decide) (by decide) rfl kw_364 rfl dX1_turn_39 ?_
            obtain ⟨t167, f168⟩ := h
            refine V.icmp_ge (pc := 42) (tgt := 95) hG hx7_36 ((hi_36 _ _)) dX1_turn_42 (by decide) (fun c166 => ?_) (fun c166 => ?_)
            · have h := t167 c166
              clear t167 f168
              refine V.iconst (pc := 95) hG dX1_turn_95 ?_
              refine V.istore (pc := 96) (lv' := [(7, .int (sJ 0)), (0, .ref (sA Δ 480)), (1, .ref (sA Δ 3)), (2, .ref (sA Δ 67)), (3, .ref (sA Δ 469)), (4, .int (sJ v8)), (5, .int (sJ v15)), (6, .int (sJ x6_26))]) hG dX1_turn_96 (by decide) rfl ?_
              obtain ⟨n169, h⟩ := h
              have lp98 : ∀ (m98 : Nat) (x7_98 : Int) (i_98 : MI), sR x7_98 → okI i_98 → LoopP (b98_X1_turn v8 v15 x6_26 r Q (LoopP (b26_X1_turn v8 v15 r Q) m26)) m98 (x7_98, i_98) → V Γ Δ 504 false i_98 r 0 0 Q0 98 [(0, .ref (sA Δ 480)), (1, .ref (sA Δ 3)), (2, .ref (sA Δ 67)), (3, .ref (sA Δ 469)), (4, .int (sJ v8)), (5, .int (sJ v15)), (6, .int (sJ x6_26)), (7, .int (sJ x7_98))] [] := by
                intro m98
                induction m98 with
                | zero => intro x7_98 i_98 hx7_98 hi_98 h; exact h.elim
                | succ m98 ih98 =>
                  intro x7_98 i_98 hx7_98 hi_98 h
                  have h := LoopP_succ h
                  refine V.iload (pc := 98) hG dX1_turn_98 7 rfl ?_
                  refine V.aload_n (pc := 100) hG dX1_turn_100 rfl 2 rfl ?_
                  refine V.getIN (pc := 101) (ci := 2) (k := 4) (M := 5) (T := TX0) (o := 67) (kz := 4) hG a_67 a_67.n (by decide) hin_X0 rfl (by decide) (by decide) rfl kw_364 rfl dX1_turn_101 ?_
                  obtain ⟨t171, f172⟩ := h
                  refine V.icmp_ge (pc := 104) (tgt := 150) hG hx7_98 ((hi_98 _ _)) dX1_turn_104 (by decide) (fun c170 => ?_) (fun c170 => ?_)
                  · have h := t171 c170
                    clear t171 f172
                    refine V.iinc (pc := 150) (lv' := [(6, .int (sJ (wr (x6_26 + 1)))), (0, .ref (sA Δ 480)), (1, .ref (sA Δ 3)), (2, .ref (sA Δ 67)), (3, .ref (sA Δ 469)), (4, .int (sJ v8)), (5, .int (sJ v15)), (7, .int (sJ x7_98))]) hG dX1_turn_150 6 rfl (by decide) rfl ?_
                    refine V.goto (pc := 153) (tgt := 26) hG dX1_turn_153 (by decide) ?_
                    refine V.pick [1, 2, 3, 4, 5, 6, 0] rfl ?_
                    exact ih26 (wr (x6_26 + 1)) i_98 ((sR_wr _)) hi_98 h
                  · have h := f172 c170
                    clear t171 f172
                    refine V.iload (pc := 107) hG dX1_turn_107 6 rfl ?_
                    refine V.aload_n (pc := 109) hG dX1_turn_109 rfl 3 rfl ?_
                    refine V.getRN (x := 470) (pc := 110) (ci := 6) (k := 0) (M := 6) (T := TX4) (o := 469) (kz := 0) hG a_469 a_469.n (by decide) hin_X4 rfl (by decide) (by decide) rfl kw_452 rfl ((hw).1 (469, 0, 470) (by decide)) (by decide) dX1_turn_110 ?_
                    refine V.iload (pc := 113) hG dX1_turn_113 7 rfl ?_
                    obtain ⟨g173, h⟩ := h
                    refine V.iald (pc := 115) (z := 96) (o := 470) hG a_470 a_470.n hx7_98 g173 dX1_turn_115 ?_
                    refine V.isub (pc := 116) hG dX1_turn_116 ?_
                    refine V.istore (pc := 117) (lv' := [(8, .int (sJ (wr (x6_26 - i_98 470 x7_98)))), (0, .ref (sA Δ 480)), (1, .ref (sA Δ 3)), (2, .ref (sA Δ 67)), (3, .ref (sA Δ 469)), (4, .int (sJ v8)), (5, .int (sJ v15)), (6, .int (sJ x6_26)), (7, .int (sJ x7_98))]) hG dX1_turn_117 (by decide) rfl ?_
                    refine V.aload_n (pc := 119) hG dX1_turn_119 rfl 1 rfl ?_
                    refine V.aload_n (pc := 120) hG dX1_turn_120 rfl 2 rfl ?_
                    refine V.aload_n (pc := 121) hG dX1_turn_121 rfl 3 rfl ?_
                    refine V.getRN (x := 68) (pc := 122) (ci := 2) (k := 0) (M := 5) (T := TX0) (o := 67) (kz := 0) hG a_67 a_67.n (by decide) hin_X0 rfl (by decide) (by decide) rfl kw_350 rfl ((hw).1 (67, 0, 68) (by decide)) (by decide) dX1_turn_122 ?_
                    refine V.iload (pc := 125) hG dX1_turn_125 8 rfl ?_
                    obtain ⟨g174, h⟩ := h
                    refine V.aald (pc := 127) 6 (z := 96) (o := 68) (x := x7_98) (y := 72 + x7_98) hG a_68 a_68.n (by decide) hx7_98 g174 (hw.2.1 (68, 96, 72) (by decide) _ g174.1 g174.2) (by omega) dX1_turn_127 ?_
                    refine V.iload (pc := 128) hG dX1_turn_128 8 rfl ?_
                    refine V.iload (pc := 130) hG dX1_turn_130 0 rfl ?_
                    refine V.aload_n (pc := 132) hG dX1_turn_132 rfl 4 rfl ?_
                    refine V.getIN (pc := 133) (ci := 6) (k := 5) (M := 6) (T := TX4) (o := 469) (kz := 5) hG a_469 a_469.n (by decide) hin_X4 rfl (by decide) (by decide) rfl kw_461 rfl dX1_turn_133 ?_
                    refine V.iload (pc := 136) hG dX1_turn_136 5 rfl ?_
                    refine V.callSi (pc := 138) (As := [.int (sJ (wr (x6_26 - i_98 470 x7_98))), .int (sJ (i_98 469 5)), .int (sJ v8)]) (stk := [.int (sJ x7_98), .ref (sA Δ (72 + x7_98)), .ref (sA Δ 3), .ref (sA Δ 480)]) hG (sm_X1_turnAfter l Δ ((sR_wr _)) ((hi_98 _ _)) hv11 hi_98 hw h) mY_X1_turnAfter kw_847 kw_848 ⟨Nat.le_of_ble_eq_true rfl, Nat.le_of_ble_eq_true rfl, Nat.le_of_ble_eq_true rfl, Nat.le_of_ble_eq_true rfl⟩ rfl (Nat.le_of_ble_eq_true rfl) dX1_turn_138 rfl (fun v175 i176 r177 hv178 hi179 hw180 hq181 => ?_)
                    obtain ⟨e191, e192, h⟩ := hq181
                    subst e191
                    subst e192
                    refine V.callVv (pc := 141) (As := [.ref (sA Δ 3), .ref (sA Δ (72 + x7_98)), .int (sJ x7_98), .int (sJ v175)]) (stk := []) hG (sm_X1_begin l Δ ((node_o g174.1 g174.2)) hx7_98 hv178 hi_98 hw h) mY_X1_begin kw_859 kw_861 kw_65 a_480 (by decide) (q := (RX1, TX1, 2)) rfl rfl ⟨Nat.le_of_ble_eq_true rfl, Nat.le_of_ble_eq_true rfl, Nat.le_of_ble_eq_true rfl, Nat.le_of_ble_eq_true rfl⟩ rfl (Nat.le_of_ble_eq_true rfl) dX1_turn_141 rfl (fun i183 r184 hi186 hw187 hq188 => ?_)
                    obtain ⟨e190, h⟩ := hq188
                    subst e190
                    refine V.iinc (pc := 144) (lv' := [(7, .int (sJ (wr (x7_98 + 1)))), (8, .int (sJ (wr (x6_26 - i_98 470 x7_98)))), (0, .ref (sA Δ 480)), (1, .ref (sA Δ 3)), (2, .ref (sA Δ 67)), (3, .ref (sA Δ 469)), (4, .int (sJ v8)), (5, .int (sJ v15)), (6, .int (sJ x6_26))]) hG dX1_turn_144 8 rfl (by decide) rfl ?_
                    refine V.goto (pc := 147) (tgt := 98) hG dX1_turn_147 (by decide) ?_
                    refine V.pick [2, 3, 4, 5, 6, 7, 8, 0] rfl ?_
                    exact ih98 (wr (x7_98 + 1)) i183 ((sR_wr _)) hi186 h
              refine V.pick [1, 2, 3, 4, 5, 6, 7, 0] rfl ?_
              exact lp98 n169 0 i_36 ((sR_l rfl)) hi_36 h
            · have h := f168 c166
              clear t167 f168
              refine V.iload (pc := 45) hG dX1_turn_45 6 rfl ?_
              refine V.aload_n (pc := 47) hG dX1_turn_47 rfl 3 rfl ?_
              refine V.getRN (x := 470) (pc := 48) (ci := 6) (k := 0) (M := 6) (T := TX4) (o := 469) (kz := 0) hG a_469 a_469.n (by decide) hin_X4 rfl (by decide) (by decide) rfl kw_452 rfl ((hw).1 (469, 0, 470) (by decide)) (by decide) dX1_turn_48 ?_
              refine V.iload (pc := 51) hG dX1_turn_51 7 rfl ?_
              obtain ⟨g193, h⟩ := h
              refine V.iald (pc := 53) (z := 96) (o := 470) hG a_470 a_470.n hx7_36 g193 dX1_turn_53 ?_
              refine V.isub (pc := 54) hG dX1_turn_54 ?_
              refine V.aload_n (pc := 55) hG dX1_turn_55 rfl 2 rfl ?_
              refine V.iload (pc := 56) hG dX1_turn_56 7 rfl ?_
              refine V.callVNi (pc := 58) (As := [.int (sJ x7_36)]) (stk := [.int (sJ (wr (x6_26 - i_36 470 x7_36)))]) hG (sm_X0_cyclesOf l Δ hx7_36 hi_36 hw h) mY_X0_cyclesOf kw_846 kw_688 kw_29 a_67 (by decide) (q := (RX0, TX0, 5)) rfl rfl ⟨Nat.le_of_ble_eq_true rfl, Nat.le_of_ble_eq_true rfl, Nat.le_of_ble_eq_true rfl, Nat.le_of_ble_eq_true rfl⟩ rfl (Nat.le_of_ble_eq_true rfl) dX1_turn_58 rfl (fun v194 i195 r196 hv197 hi198 hw199 hq200 => ?_)
              obtain ⟨e220, e221, h⟩ := hq200
              subst e220
              subst e221
              refine V.isub (pc := 61) hG dX1_turn_61 ?_
              refine V.istore (pc := 62) (lv' := [(8, .int (sJ (wr (wr (x6_26 - i_36 470 x7_36) - v194)))), (0, .ref (sA Δ 480)), (1, .ref (sA Δ 3)), (2, .ref (sA Δ 67)), (3, .ref (sA Δ 469)), (4, .int (sJ v8)), (5, .int (sJ v15)), (6, .int (sJ x6_26)), (7, .int (sJ x7_36))]) hG dX1_turn_62 (by decide) rfl ?_
              refine V.aload_n (pc := 64) hG dX1_turn_64 rfl 1 rfl ?_
              refine V.aload_n (pc := 65) hG dX1_turn_65 rfl 2 rfl ?_
              refine V.aload_n (pc := 66) hG dX1_turn_66 rfl 3 rfl ?_
              refine V.getRN (x := 68) (pc := 67) (ci := 2) (k := 0) (M := 5) (T := TX0) (o := 67) (kz := 0) hG a_67 a_67.n (by decide) hin_X0 rfl (by decide) (by decide) rfl kw_350 rfl ((hw).1 (67, 0, 68) (by decide)) (by decide) dX1_turn_67 ?_
              refine V.iload (pc := 70) hG dX1_turn_70 8 rfl ?_
              obtain ⟨g201, h⟩ := h
              refine V.aald (pc := 72) 6 (z := 96) (o := 68) (x := x7_36) (y := 72 + x7_36) hG a_68 a_68.n (by decide) hx7_36 g201 (hw.2.1 (68, 96, 72) (by decide) _ g201.1 g201.2) (by omega) dX1_turn_72 ?_
              refine V.iload (pc := 73) hG dX1_turn_73 8 rfl ?_
              refine V.iload (pc := 75) hG dX1_turn_75 0 rfl ?_
              refine V.aload_n (pc := 77) hG dX1_turn_77 rfl 4 rfl ?_
              refine V.getIN (pc := 78) (ci := 6) (k := 5) (M := 6) (T := TX4) (o := 469) (kz := 5) hG a_469 a_469.n (by decide) hin_X4 rfl (by decide) (by decide) rfl kw_461 rfl dX1_turn_78 ?_
              refine V.iload (pc := 81) hG dX1_turn_81 5 rfl ?_
              refine V.callSi (pc := 83) (As := [.int (sJ (wr (wr (x6_26 - i_36 470 x7_36) - v194))), .int (sJ (i_36 469 5)), .int (sJ v8)]) (stk := [.int (sJ x7_36), .ref (sA Δ (72 + x7_36)), .ref (sA Δ 3), .ref (sA Δ 480)]) hG (sm_X1_turnAfter l Δ ((sR_wr _)) ((hi_36 _ _)) hv11 hi_36 hw h) mY_X1_turnAfter kw_847 kw_848 ⟨Nat.le_of_ble_eq_true rfl, Nat.le_of_ble_eq_true rfl, Nat.le_of_ble_eq_true rfl, Nat.le_of_ble_eq_true rfl⟩ rfl (Nat.le_of_ble_eq_true rfl) dX1_turn_83 rfl (fun v202 i203 r204 hv205 hi206 hw207 hq208 => ?_)
              obtain ⟨e218, e219, h⟩ := hq208
              subst e218
              subst e219
              refine V.callVv (pc := 86) (As := [.ref (sA Δ 3), .ref (sA Δ (72 + x7_36)), .int (sJ x7_36), .int (sJ v202)]) (stk := []) hG (sm_X1_finish l Δ ((node_o g201.1 g201.2)) hx7_36 hv205 hi_36 hw h) mY_X1_finish kw_850 kw_852 kw_63 a_480 (by decide) (q := (RX1, TX1, 2)) rfl rfl ⟨Nat.le_of_ble_eq_true rfl, Nat.le_of_ble_eq_true rfl, Nat.le_of_ble_eq_true rfl, Nat.le_of_ble_eq_true rfl⟩ rfl (Nat.le_of_ble_eq_true rfl) dX1_turn_86 rfl (fun i210 r211 hi213 hw214 hq215 => ?_)
              obtain ⟨e217, h⟩ := hq215
              subst e217
              refine V.iinc (pc := 89) (lv' := [(7, .int (sJ (wr (x7_36 + 1)))), (8, .int (sJ (wr (wr (x6_26 - i_36 470 x7_36) - v194)))), (0, .ref (sA Δ 480)), (1, .ref (sA Δ 3)), (2, .ref (sA Δ 67)), (3, .ref (sA Δ 469)), (4, .int (sJ v8)), (5, .int (sJ v15)), (6, .int (sJ x6_26))]) hG dX1_turn_89 8 rfl (by decide) rfl ?_
              refine V.goto (pc := 92) (tgt := 36) hG dX1_turn_92 (by decide) ?_
              refine V.pick [2, 3, 4, 5, 6, 7, 8, 0] rfl ?_
              exact ih36 (wr (x7_36 + 1)) i210 ((sR_wr _)) hi213 h
        refine V.pick [1, 2, 3, 4, 5, 6, 7, 0] rfl ?_
        exact lp36 n165 0 i_26 ((sR_l rfl)) hi_26 h
  refine V.pick [3, 4, 5, 6, 2, 1, 0] rfl ?_
  exact lp26 n161 0 i2 ((sR_l rfl)) hi5 h
set_option maxRecDepth 100000 in
set_option maxHeartbeats 4000000 in
theorem sm_X2_find (l : Launch) (Δ : Wd) {i r : MI} {p1 : Int} {p2 : Int} {p3 : Int} (hp1 : sR p1) (hp2 : sR p2) (hp3 : sR p3) {Q : Int → Prop} (hi : okI i) (hw : Wf r) (h : wp_X2_find p1 p2 p3 i r Q) : Met l yX2_find (Cond.code yX2_find cX2_find 5 (some .int) :: gW) (sRm 0 0) (sPc Δ [.ref (sA Δ 168), .int (sJ p1), .int (sJ p2), .int (sJ p3)] i r) (sQi Δ (fun x i' r' => i = i' ∧ r = r' ∧ Q x)) 0 0 (sFr Δ) := by
  refine Ct.i (ty := .int) (by decide) rfl (Nat.le_of_ble_eq_true rfl) (fun Γ Q0 hG fin => ?_)
  have hG : okG Γ Δ l (sRm 0 0) cX2_find "Schedulary$Graph" 5 := hG
  show V Γ Δ 504 false i r 0 0 Q0 0 [(0, .ref (sA Δ 168)), (1, .int (sJ p1)), (2, .int (sJ p2)), (3, .int (sJ p3))] []
  refine V.iconst (pc := 0) hG dX2_find_0 ?_
  refine V.istore (pc := 1) (lv' := [(4, .int (sJ 0)), (0, .ref (sA Δ 168)), (1, .int (sJ p1)), (2, .int (sJ p2)), (3, .int (sJ p3))]) hG dX2_find_1 (by decide) rfl ?_
  obtain ⟨n15, h⟩ := h
  have lp3 : ∀ (m3 : Nat) (x4_3 : Int), sR x4_3 → LoopP (b3_X2_find p1 p2 p3 i r Q) m3 (x4_3) → V Γ Δ 504 false i r 0 0 Q0 3 [(0, .ref (sA Δ 168)), (1, .int (sJ p1)), (2, .int (sJ p2)), (3, .int (sJ p3)), (4, .int (sJ x4_3))] [] := by
    intro m3
    induction m3 with
    | zero => intro x4_3 hx4_3 h; exact h.elim
    | succ m3 ih3 =>
      intro x4_3 hx4_3 h
      have h := LoopP_succ h
      have jn43 : ∀ (x4j43 : Int), sR x4j43 → s43_X2_find p1 p2 p3 x4j43 i r Q (LoopP (b3_X2_find p1 p2 p3 i r Q) m3) → V Γ Δ 504 false i r 0 0 Q0 43 [(0, .ref (sA Δ 168)), (1, .int (sJ p1)), (2, .int (sJ p2)), (3, .int (sJ p3)), (4, .int (sJ x4j43))] [] := by
        intro x4j43 hx4j43 h
        refine V.iinc (pc := 43) (lv' := [(4, .int (sJ (wr (x4j43 + 1)))), (0, .ref (sA Δ 168)), (1, .int (sJ p1)), (2, .int (sJ p2)), (3, .int (sJ p3))]) hG dX2_find_43 4 rfl (by decide) rfl ?_
        refine V.goto (pc := 46) (tgt := 3) hG dX2_find_46 (by decide) ?_
        refine V.pick [1, 2, 3, 4, 0] rfl ?_
        exact ih3 (wr (x4j43 + 1)) ((sR_wr _)) h
      refine V.iload (pc := 3) hG dX2_find_3 4 rfl ?_
      refine V.aload_n (pc := 5) hG dX2_find_5 rfl 0 rfl ?_
      refine V.getR (x := 460) (pc := 6) (ci := 4) (k := 3) (M := 5) (T := TX2) (o := 168) (kz := 3) hG a_168 a_168.n (by decide) hin_X2 rfl (by decide) (by decide) rfl kw_397 rfl ((hw).1 (168, 3, 460) (by decide)) (by decide) dX2_find_6 ?_
      refine V.iload_n (pc := 9) hG dX2_find_9 rfl 1 rfl ?_
      obtain ⟨g16, h⟩ := h
      refine V.iald (pc := 10) (z := 96) (o := 460) hG a_460 a_460.n hp1 g16 dX2_find_10 ?_
      obtain ⟨t18, f19⟩ := h
      refine V.icmp_ge (pc := 11) (tgt := 49) hG hx4_3 ((hi _ _)) dX2_find_11 (by decide) (fun c17 => ?_) (fun c17 => ?_)
      · have h := t18 c17
        clear t18 f19
        refine V.iconst (pc := 49) hG dX2_find_49 ?_
        exact fin dX2_find_50 ((sR_l rfl)) rfl hi hw ⟨rfl, rfl, h⟩
      · have h := f19 c17
        clear t18 f19
        refine V.aload_n (pc := 14) hG dX2_find_14 rfl 0 rfl ?_
        refine V.getR (x := 169) (pc := 15) (ci := 4) (k := 0) (M := 5) (T := TX2) (o := 168) (kz := 0) hG a_168 a_168.n (by decide) hin_X2 rfl (by decide) (by decide) rfl kw_387 rfl ((hw).1 (168, 0, 169) (by decide)) (by decide) dX2_find_15 ?_
        refine V.iload_n (pc := 18) hG dX2_find_18 rfl 1 rfl ?_
        obtain ⟨g20, h⟩ := h
        refine V.aald (pc := 19) 7 (z := 96) (o := 169) (x := p1) (y := 170 + p1) hG a_169 a_169.n (by decide) hp1 g20 (hw.2.1 (169, 96, 170) (by decide) _ g20.1 g20.2) (by omega) dX2_find_19 ?_
        refine V.iload (pc := 20) hG dX2_find_20 4 rfl ?_
        obtain ⟨g21, h⟩ := h
        refine V.iald (pc := 22) (z := 100) (o := 170 + p1) hG (row_169 g20) ((row_169 g20)).n hx4_3 g21 dX2_find_22 ?_
        refine V.iload_n (pc := 23) hG dX2_find_23 rfl 2 rfl ?_
        obtain ⟨f24, t23⟩ := h
        refine V.icmp_ne (pc := 24) (tgt := 43) hG ((hi _ _)) hp2 dX2_find_24 (by decide) (fun c22 => ?_) (fun c22 => ?_)
        · have h := t23 c22
          clear t23 f24
          exact jn43 x4_3 hx4_3 h
        · have h := f24 c22
          clear t23 f24
          refine V.aload_n (pc := 27) hG dX2_find_27 rfl 0 rfl ?_
          refine V.getR (x := 266) (pc := 28) (ci := 4) (k := 1) (M := 5) (T := TX2) (o := 168) (kz := 1) hG a_168 a_168.n (by decide) hin_X2 rfl (by decide) (by decide) rfl kw_390 rfl ((hw).1 (168, 1, 266) (by decide)) (by decide) dX2_find_28 ?_
          refine V.iload_n (pc := 31) hG dX2_find_31 rfl 1 rfl ?_
          obtain ⟨g25, h⟩ := h
          refine V.aald (pc := 32) 7 (z := 96) (o := 266) (x := p1) (y := 267 + p1) hG a_266 a_266.n (by decide) hp1 g25 (hw.2.1 (266, 96, 267) (by decide) _ g25.1 g25.2) (by omega) dX2_find_32 ?_
          refine V.iload (pc := 33) hG dX2_find_33 4 rfl ?_
          obtain ⟨g26, h⟩ := h
          refine V.iald (pc := 35) (z := 100) (o := 267 + p1) hG (row_266 g25) ((row_266 g25)).n hx4_3 g26 dX2_find_35 ?_
          refine V.iload_n (pc := 36) hG dX2_find_36 rfl 3 rfl ?_
          obtain ⟨f29, t28⟩ := h
          refine V.icmp_ne (pc := 37) (tgt := 43) hG ((hi _ _)) hp3 dX2_find_37 (by decide) (fun c27 => ?_) (fun c27 => ?_)
          · have h := t28 c27
            clear t28 f29
            exact jn43 x4_3 hx4_3 h
          · have h := f29 c27
            clear t28 f29
            refine V.iload (pc := 40) hG dX2_find_40 4 rfl ?_
            exact fin dX2_find_42 hx4_3 rfl hi hw ⟨rfl, rfl, h⟩
  refine V.pick [1, 2, 3, 4, 0] rfl ?_
  exact lp3 n15 0 ((sR_l rfl)) h
set_option maxRecDepth 100000 in
set_option maxHeartbeats 4000000 in
theorem sm_X2_put (l : Launch) (Δ : Wd) {i r : MI} {p1 : Int} {p2 : Int} {p3 : Int} {p4 : Int} (hp1 : sR p1) (hp2 : sR p2) (hp3 : sR p3) (hp4 : sR p4) {Q : MI → Prop} (hi : okI i) (hw : Wf r) (h : wp_X2_put p1 p2 p3 p4 i r Q) : Met l yX2_put (Cond.code yX2_put cX2_put 6 none :: gW) (sRm 1 24) (sPc Δ [.ref (sA Δ 168), .int (sJ p1), .int (sJ p2), .int (sJ p3), .int (sJ p4)] i r) (sQv Δ (fun i' r' => r = r' ∧ Q i')) 0 0 (sFr Δ) := by
  refine Ct.v (by decide) rfl (Nat.le_of_ble_eq_true rfl) (fun Γ Q0 hG fin => ?_)
  have hG : okG Γ Δ l (sRm 1 24) cX2_put "Schedulary$Graph" 6 := hG
  show V Γ Δ 504 false i r 0 0 Q0 0 [(0, .ref (sA Δ 168)), (1, .int (sJ p1)), (2, .int (sJ p2)), (3, .int (sJ p3)), (4, .int (sJ p4))] []
  have jn111 : ∀  (ij111 : MI), okI ij111 → s111_X2_put ij111 r Q → V Γ Δ 504 false ij111 r 0 0 Q0 111 [] [] := by
    intro ij111 hij111 h
    exact fin dX2_put_111 hij111 hw ⟨rfl, h⟩
  refine V.aload_n (pc := 0) hG dX2_put_0 rfl 0 rfl ?_
  refine V.iload_n (pc := 1) hG dX2_put_1 rfl 1 rfl ?_
  refine V.iload_n (pc := 2) hG dX2_put_2 rfl 2 rfl ?_
  refine V.iload_n (pc := 3) hG dX2_put_3 rfl 3 rfl ?_
  refine V.callVi (pc := 4) (As := [.int (sJ p1), .int (sJ p2), .int (sJ p3)]) (stk := []) hG (sm_X2_find l Δ hp1 hp2 hp3 hi hw h) mY_X2_find kw_694 kw_696 kw_31 a_168 (by decide) (q := (RX2, TX2, 5)) rfl rfl ⟨Nat.le_of_ble_eq_true rfl, Nat.le_of_ble_eq_true rfl, Nat.le_of_ble_eq_true rfl, Nat.le_of_ble_eq_true rfl⟩ rfl (Nat.le_of_ble_eq_true rfl) dX2_put_4 rfl (fun v1 i2 r3 hv4 hi5 hw6 hq7 => ?_)
  obtain ⟨e27, e28, h⟩ := hq7
  subst e27
  subst e28
  refine V.istore (pc := 7) (lv' := [(5, .int (sJ v1)), (0, .ref (sA Δ 168)), (1, .int (sJ p1)), (2, .int (sJ p2)), (3, .int (sJ p3)), (4, .int (sJ p4))]) hG dX2_put_7 (by decide) rfl ?_
  refine V.iload (pc := 9) hG dX2_put_9 0 rfl ?_
  refine V.iconst (pc := 11) hG dX2_put_11 ?_
  obtain ⟨t9, f10⟩ := h
  refine V.icmp_eq (pc := 12) (tgt := 41) hG hv4 ((sR_l rfl)) dX2_put_12 (by decide) (fun c8 => ?_) (fun c8 => ?_)
  · have h := t9 c8
    clear t9 f10
    refine V.aload_n (pc := 41) hG dX2_put_41 rfl 1 rfl ?_
    refine V.getR (x := 460) (pc := 42) (ci := 4) (k := 3) (M := 5) (T := TX2) (o := 168) (kz := 3) hG a_168 a_168.n (by decide) hin_X2 rfl (by decide) (by decide) rfl kw_397 rfl ((hw).1 (168, 3, 460) (by decide)) (by decide) dX2_put_42 ?_
    refine V.iload_n (pc := 45) hG dX2_put_45 rfl 2 rfl ?_
    obtain ⟨g11, h⟩ := h
    refine V.iald (pc := 46) (z := 96) (o := 460) hG a_460 a_460.n hp1 g11 dX2_put_46 ?_
    refine V.bipush (pc := 47) hG dX2_put_47 (by decide) ?_
    obtain ⟨t13, f14⟩ := h
    refine V.icmp_ge (pc := 49) (tgt := 111) hG ((hi _ _)) ((sR_l rfl)) dX2_put_49 (by decide) (fun c12 => ?_) (fun c12 => ?_)
    · have h := t13 c12
      clear t13 f14
      refine V.pick [] rfl ?_
      exact jn111 i hi h
    · have h := f14 c12
      clear t13 f14
      refine V.aload_n (pc := 52) hG dX2_put_52 rfl 1 rfl ?_
      refine V.getR (x := 460) (pc := 53) (ci := 4) (k := 3) (M := 5) (T := TX2) (o := 168) (kz := 3) hG a_168 a_168.n (by decide) hin_X2 rfl (by decide) (by decide) rfl kw_397 rfl ((hw).1 (168, 3, 460) (by decide)) (by decide) dX2_put_53 ?_
      refine V.iload_n (pc := 56) hG dX2_put_56 rfl 2 rfl ?_
      obtain ⟨g15, h⟩ := h
      refine V.iald (pc := 57) (z := 96) (o := 460) hG a_460 a_460.n hp1 g15 dX2_put_57 ?_
      refine V.istore (pc := 58) (lv' := [(5, .int (sJ (i 460 p1))), (0, .ref (sA Δ 168)), (1, .int (sJ p1)), (2, .int (sJ p2)), (3, .int (sJ p3)), (4, .int (sJ p4))]) hG dX2_put_58 (by decide) rfl ?_
      refine V.aload_n (pc := 60) hG dX2_put_60 rfl 1 rfl ?_
      refine V.getR (x := 169) (pc := 61) (ci := 4) (k := 0) (M := 5) (T := TX2) (o := 168) (kz := 0) hG a_168 a_168.n (by decide) hin_X2 rfl (by decide) (by decide) rfl kw_387 rfl ((hw).1 (168, 0, 169) (by decide)) (by decide) dX2_put_61 ?_
      refine V.iload_n (pc := 64) hG dX2_put_64 rfl 2 rfl ?_
      obtain ⟨g16, h⟩ := h
      refine V.aald (pc := 65) 7 (z := 96) (o := 169) (x := p1) (y := 170 + p1) hG a_169 a_169.n (by decide) hp1 g16 (hw.2.1 (169, 96, 170) (by decide) _ g16.1 g16.2) (by omega) dX2_put_65 ?_
      refine V.iload (pc := 66) hG dX2_put_66 0 rfl ?_
      refine V.iload_n (pc := 68) hG dX2_put_68 rfl 3 rfl ?_
      obtain ⟨g17, h⟩ := h
      refine V.iast (pc := 69) (z := 100) (o := 170 + p1) hG (row_169 g16) ((row_169 g16)).n ((hi _ _)) g17 dX2_put_69 ?_
      refine V.aload_n (pc := 70) hG dX2_put_70 rfl 1 rfl ?_
      refine V.getR (x := 266) (pc := 71) (ci := 4) (k := 1) (M := 5) (T := TX2) (o := 168) (kz := 1) hG a_168 a_168.n (by decide) hin_X2 rfl (by decide) (by decide) rfl kw_390 rfl ((hw).1 (168, 1, 266) (by decide)) (by decide) dX2_put_71 ?_
      refine V.iload_n (pc := 74) hG dX2_put_74 rfl 2 rfl ?_
      obtain ⟨g18, h⟩ := h
      refine V.aald (pc := 75) 7 (z := 96) (o := 266) (x := p1) (y := 267 + p1) hG a_266 a_266.n (by decide) hp1 g18 (hw.2.1 (266, 96, 267) (by decide) _ g18.1 g18.2) (by omega) dX2_put_75 ?_
      refine V.iload (pc := 76) hG dX2_put_76 0 rfl ?_
      refine V.iload_n (pc := 78) hG dX2_put_78 rfl 4 rfl ?_
      obtain ⟨g19, h⟩ := h
      refine V.iast (pc := 79) (z := 100) (o := 267 + p1) hG (row_266 g18) ((row_266 g18)).n ((hi _ _)) g19 dX2_put_79 ?_
      refine V.aload_n (pc := 80) hG dX2_put_80 rfl 1 rfl ?_
      refine V.getR (x := 363) (pc := 81) (ci := 4) (k := 2) (M := 5) (T := TX2) (o := 168) (kz := 2) hG a_168 a_168.n (by decide) hin_X2 rfl (by decide) (by decide) rfl kw_393 rfl ((hw).1 (168, 2, 363) (by decide)) (by decide) dX2_put_81 ?_
      refine V.iload_n (pc := 84) hG dX2_put_84 rfl 2 rfl ?_
      obtain ⟨g20, h⟩ := h
      refine V.aald (pc := 85) 7 (z := 96) (o := 363) (x := p1) (y := 364 + p1) hG a_363 a_363.n (by decide) hp1 g20 (hw.2.1 (363, 96, 364) (by decide) _ g20.1 g20.2) (by omega) dX2_put_85 ?_
      refine V.iload (pc := 86) hG dX2_put_86 0 rfl ?_
      refine V.iload (pc := 88) hG dX2_put_88 5 rfl ?_
      obtain ⟨g21, h⟩ := h
      refine V.iast (pc := 90) (z := 100) (o := 364 + p1) hG (row_363 g20) ((row_363 g20)).n ((hi _ _)) g21 dX2_put_90 ?_
      refine V.aload_n (pc := 91) hG dX2_put_91 rfl 1 rfl ?_
      refine V.getR (x := 460) (pc := 92) (ci := 4) (k := 3) (M := 5) (T := TX2) (o := 168) (kz := 3) hG a_168 a_168.n (by decide) hin_X2 rfl (by decide) (by decide) rfl kw_397 rfl ((hw).1 (168, 3, 460) (by decide)) (by decide) dX2_put_92 ?_
      refine V.iload_n (pc := 95) hG dX2_put_95 rfl 2 rfl ?_
      refine V.iload (pc := 96) hG dX2_put_96 0 rfl ?_
      refine V.iconst (pc := 98) hG dX2_put_98 ?_
      refine V.iadd (pc := 99) hG dX2_put_99 ?_
      obtain ⟨g22, h⟩ := h
      refine V.iast (pc := 100) (z := 96) (o := 460) hG a_460 a_460.n hp1 g22 dX2_put_100 ?_
      refine V.aload_n (pc := 101) hG dX2_put_101 rfl 1 rfl ?_
      refine V.dup (pc := 102) hG dX2_put_102 rfl ?_
      refine V.getI (pc := 103) (ci := 4) (k := 4) (M := 5) (T := TX2) (o := 168) (kz := 4) hG a_168 a_168.n (by decide) hin_X2 rfl (by decide) (by decide) rfl kw_400 rfl dX2_put_103 ?_
      refine V.iconst (pc := 106) hG dX2_put_106 ?_
      refine V.iadd (pc := 107) hG dX2_put_107 ?_
      refine V.putI (pc := 108) (ci := 4) (k := 4) (M := 5) (T := TX2) (o := 168) (kz := 4) hG a_168 a_168.n (by decide) hin_X2 rfl (by decide) (by decide) rfl kw_400 rfl tyX2 tyX2_ok nmX2 rfl (ty := tyX2 4) (tyX2_ok 4 (by decide)) rfl rfl dX2_put_108 ?_
      refine V.pick [] rfl ?_
      exact jn111 (st (st (st (st (st i (170 + p1) (i 460 p1) p2) (267 + p1) (i 460 p1) p3) (364 + p1) (i 460 p1) p4) 460 p1 (wr (i 460 p1 + 1))) 168 4 (wr ((st (st (st (st i (170 + p1) (i 460 p1) p2) (267 + p1) (i 460 p1) p3) (364 + p1) (i 460 p1) p4) 460 p1 (wr (i 460 p1 + 1))) 168 4 + 1))) ((okI_st ((okI_st ((okI_st ((okI_st ((okI_st hi hp2)) hp3)) hp4)) ((sR_wr _)))) ((sR_wr _)))) h
  · have h := f10 c8
    clear t9 f10
    refine V.aload_n (pc := 15) hG dX2_put_15 rfl 1 rfl ?_
    refine V.getR (x := 363) (pc := 16) (ci := 4) (k := 2) (M := 5) (T := TX2) (o := 168) (kz := 2) hG a_168 a_168.n (by decide) hin_X2 rfl (by decide) (by decide) rfl kw_393 rfl ((hw).1 (168, 2, 363) (by decide)) (by decide) dX2_put_16 ?_
    refine V.iload_n (pc := 19) hG dX2_put_19 rfl 2 rfl ?_
    obtain ⟨g23, h⟩ := h
    refine V.aald (pc := 20) 7 (z := 96) (o := 363) (x := p1) (y := 364 + p1) hG a_363 a_363.n (by decide) hp1 g23 (hw.2.1 (363, 96, 364) (by decide) _ g23.1 g23.2) (by omega) dX2_put_20 ?_
    refine V.iload (pc := 21) hG dX2_put_21 0 rfl ?_
    refine V.aload_n (pc := 23) hG dX2_put_23 rfl 1 rfl ?_
    refine V.getR (x := 363) (pc := 24) (ci := 4) (k := 2) (M := 5) (T := TX2) (o := 168) (kz := 2) hG a_168 a_168.n (by decide) hin_X2 rfl (by decide) (by decide) rfl kw_393 rfl ((hw).1 (168, 2, 363) (by decide)) (by decide) dX2_put_24 ?_
    refine V.iload_n (pc := 27) hG dX2_put_27 rfl 2 rfl ?_
    obtain ⟨g24, h⟩ := h
    refine V.aald (pc := 28) 7 (z := 96) (o := 363) (x := p1) (y := 364 + p1) hG a_363 a_363.n (by decide) hp1 g24 (hw.2.1 (363, 96, 364) (by decide) _ g24.1 g24.2) (by omega) dX2_put_28 ?_
    refine V.iload (pc := 29) hG dX2_put_29 0 rfl ?_
    obtain ⟨g25, h⟩ := h
    refine V.iald (pc := 31) (z := 100) (o := 364 + p1) hG (row_363 g24) ((row_363 g24)).n hv4 g25 dX2_put_31 ?_
    refine V.iload (pc := 32) hG dX2_put_32 5 rfl ?_
    refine V.mmax (pc := 34) hG ((hi _ _)) hp4 kw_698 kw_699 kw_121 kw_max ⟨Nat.le_of_ble_eq_true rfl, Nat.le_of_ble_eq_true rfl, Nat.le_of_ble_eq_true rfl, Nat.le_of_ble_eq_true rfl⟩ dX2_put_34 ?_
    obtain ⟨g26, h⟩ := h
    refine V.iast (pc := 37) (z := 100) (o := 364 + p1) hG (row_363 g23) ((row_363 g23)).n hv4 g26 dX2_put_37 ?_
    refine V.goto (pc := 38) (tgt := 111) hG dX2_put_38 (by decide) ?_
    refine V.pick [] rfl ?_
    exact jn111 (st i (364 + p1) v1 (max (i (364 + p1) v1) p4)) ((okI_st hi ((sR_max ((hi _ _)) hp4)))) h
set_option maxRecDepth 100000 in
set_option maxHeartbeats 4000000 in
theorem sm_X2_joinChannel (l : Launch) (Δ : Wd) {i r : MI} {p2 : Int} (hp2 : sR p2) {Q : MI → Prop} (hi : okI i) (hw : Wf r) (h : wp_X2_joinChannel p2 i r Q) : Met l yX2_joinChannel (Cond.code yX2_joinChannel cX2_joinChannel 6 none :: gW) (sRm 2 49) (sPc Δ [.ref (sA Δ 168), .ref (sA Δ 67), .int (sJ p2)] i r) (sQv Δ (fun i' r' => r = r' ∧ Q i')) 0 0 (sFr Δ) := by
  refine Ct.v (by decide) rfl (Nat.le_of_ble_eq_true rfl) (fun Γ Q0 hG fin => ?_)
  have hG : okG Γ Δ l (sRm 2 49) cX2_joinChannel "Schedulary$Graph" 6 := hG
  show V Γ Δ 504 false i r 0 0 Q0 0 [(0, .ref (sA Δ 168)), (1, .ref (sA Δ 67)), (2, .int (sJ p2))] []
  have jn78 : ∀  (ij78 : MI), okI ij78 → s78_X2_joinChannel ij78 r Q → V Γ Δ 504 false ij78 r 0 0 Q0 78 [] [] := by
    intro ij78 hij78 h
    exact fin dX2_joinChannel_78 hij78 hw ⟨rfl, h⟩
  refine V.iconst (pc := 0) hG dX2_joinChannel_0 ?_
  refine V.istore_n (pc := 1) (lv' := [(3, .int (sJ (-1))), (0, .ref (sA Δ 168)), (1, .ref (sA Δ 67)), (2, .int (sJ p2))]) hG dX2_joinChannel_1 rfl (by decide) rfl ?_
  refine V.iconst (pc := 2) hG dX2_joinChannel_2 ?_
  refine V.istore (pc := 3) (lv' := [(4, .int (sJ (-1))), (3, .int (sJ (-1))), (0, .ref (sA Δ 168)), (1, .ref (sA Δ 67)), (2, .int (sJ p2))]) hG dX2_joinChannel_3 (by decide) rfl ?_
  refine V.iconst (pc := 5) hG dX2_joinChannel_5 ?_
  refine V.istore (pc := 6) (lv' := [(5, .int (sJ 0)), (4, .int (sJ (-1))), (3, .int (sJ (-1))), (0, .ref (sA Δ 168)), (1, .ref (sA Δ 67)), (2, .int (sJ p2))]) hG dX2_joinChannel_6 (by decide) rfl ?_
  obtain ⟨n32, h⟩ := h
  have lp8 : ∀ (m8 : Nat) (x3_8 : Int) (x4_8 : Int) (x5_8 : Int) (i_8 : MI), sR x3_8 → sR x4_8 → sR x5_8 → okI i_8 → LoopP (b8_X2_joinChannel p2 r Q) m8 (x3_8, x4_8, x5_8, i_8) → V Γ Δ 504 false i_8 r 0 0 Q0 8 [(0, .ref (sA Δ 168)), (1, .ref (sA Δ 67)), (2, .int (sJ p2)), (3, .int (sJ x3_8)), (4, .int (sJ x4_8)), (5, .int (sJ x5_8))] [] := by
    intro m8
    induction m8 with
    | zero => intro x3_8 x4_8 x5_8 i_8 hx3_8 hx4_8 hx5_8 hi_8 h; exact h.elim
    | succ m8 ih8 =>
      intro x3_8 x4_8 x5_8 i_8 hx3_8 hx4_8 hx5_8 hi_8 h
      have h := LoopP_succ h
      have jn57 : ∀ (x3j57 : Int) (x4j57 : Int) (x5j57 : Int) (ij57 : MI), sR x3j57 → sR x4j57 → sR x5j57 → okI ij57 → s57_X2_joinChannel p2 x3j57 x4j57 x5j57 ij57 r Q (LoopP (b8_X2_joinChannel p2 r Q) m8) → V Γ Δ 504 false ij57 r 0 0 Q0 57 [(0, .ref (sA Δ 168)), (1, .ref (sA Δ 67)), (2, .int (sJ p2)), (3, .int (sJ x3j57)), (4, .int (sJ x4j57)), (5, .int (sJ x5j57))] [] := by
        intro x3j57 x4j57 x5j57 ij57 hx3j57 hx4j57 hx5j57 hij57 h
        refine V.iinc (pc := 57) (lv' := [(5, .int (sJ (wr (x5j57 + 1)))), (0, .ref (sA Δ 168)), (1, .ref (sA Δ 67)), (2, .int (sJ p2)), (3, .int (sJ x3j57)), (4, .int (sJ x4j57))]) hG dX2_joinChannel_57 5 rfl (by decide) rfl ?_
        refine V.goto (pc := 60) (tgt := 8) hG dX2_joinChannel_60 (by decide) ?_
        refine V.pick [1, 2, 3, 4, 5, 0] rfl ?_
        exact ih8 x3j57 x4j57 (wr (x5j57 + 1)) ij57 hx3j57 hx4j57 ((sR_wr _)) hij57 h
      have jn53 : ∀ (x3j53 : Int) (x5j53 : Int) (ij53 : MI), sR x3j53 → sR x5j53 → okI ij53 → s53_X2_joinChannel p2 x3j53 x5j53 ij53 r Q (LoopP (b8_X2_joinChannel p2 r Q) m8) → V Γ Δ 504 false ij53 r 0 0 Q0 53 [(0, .ref (sA Δ 168)), (1, .ref (sA Δ 67)), (2, .int (sJ p2)), (3, .int (sJ x3j53)), (5, .int (sJ x5j53))] [] := by
        intro x3j53 x5j53 ij53 hx3j53 hx5j53 hij53 h
        refine V.iload (pc := 53) hG dX2_joinChannel_53 4 rfl ?_
        refine V.istore (pc := 55) (lv' := [(4, .int (sJ x5j53)), (0, .ref (sA Δ 168)), (1, .ref (sA Δ 67)), (2, .int (sJ p2)), (3, .int (sJ x3j53)), (5, .int (sJ x5j53))]) hG dX2_joinChannel_55 (by decide) rfl ?_
        refine V.pick [1, 2, 3, 4, 0, 5] rfl ?_
        exact jn57 x3j53 x5j53 x5j53 ij53 hx3j53 hx5j53 hx5j53 hij53 h
      refine V.iload (pc := 8) hG dX2_joinChannel_8 5 rfl ?_
      refine V.aload_n (pc := 10) hG dX2_joinChannel_10 rfl 1 rfl ?_
      refine V.getIN (pc := 11) (ci := 2) (k := 4) (M := 5) (T := TX0) (o := 67) (kz := 4) hG a_67 a_67.n (by decide) hin_X0 rfl (by decide) (by decide) rfl kw_367 rfl dX2_joinChannel_11 ?_
      obtain ⟨t34, f35⟩ := h
      refine V.icmp_ge (pc := 14) (tgt := 63) hG hx5_8 ((hi_8 _ _)) dX2_joinChannel_14 (by decide) (fun c33 => ?_) (fun c33 => ?_)
      · have h := t34 c33
        clear t34 f35
        refine V.iload (pc := 63) hG dX2_joinChannel_63 4 rfl ?_
        refine V.iload_n (pc := 65) hG dX2_joinChannel_65 rfl 3 rfl ?_
        obtain ⟨t37, f38⟩ := h
        refine V.icmp_eq (pc := 66) (tgt := 78) hG hx4_8 hx3_8 dX2_joinChannel_66 (by decide) (fun c36 => ?_) (fun c36 => ?_)
        · have h := t37 c36
          clear t37 f38
          refine V.pick [] rfl ?_
          exact jn78 i_8 hi_8 h
        · have h := f38 c36
          clear t37 f38
          refine V.aload_n (pc := 69) hG dX2_joinChannel_69 rfl 0 rfl ?_
          refine V.iload (pc := 70) hG dX2_joinChannel_70 4 rfl ?_
          refine V.iload_n (pc := 72) hG dX2_joinChannel_72 rfl 3 rfl ?_
          refine V.iconst (pc := 73) hG dX2_joinChannel_73 ?_
          refine V.iconst (pc := 74) hG dX2_joinChannel_74 ?_
          refine V.callVv (pc := 75) (As := [.int (sJ x4_8), .int (sJ x3_8), .int (sJ 1), .int (sJ 1)]) (stk := []) hG (sm_X2_put l Δ hx4_8 hx3_8 ((sR_l rfl)) ((sR_l rfl)) hi_8 hw h) mY_X2_put kw_690 kw_692 kw_30 a_168 (by decide) (q := (RX2, TX2, 5)) rfl rfl ⟨Nat.le_of_ble_eq_true rfl, Nat.le_of_ble_eq_true rfl, Nat.le_of_ble_eq_true rfl, Nat.le_of_ble_eq_true rfl⟩ rfl (Nat.le_of_ble_eq_true rfl) dX2_joinChannel_75 rfl (fun i40 r41 hi43 hw44 hq45 => ?_)
          obtain ⟨e47, h⟩ := hq45
          subst e47
          refine V.pick [] rfl ?_
          exact jn78 i40 hi43 h
      · have h := f35 c33
        clear t34 f35
        refine V.aload_n (pc := 17) hG dX2_joinChannel_17 rfl 1 rfl ?_
        refine V.getRN (x := 68) (pc := 18) (ci := 2) (k := 0) (M := 5) (T := TX0) (o := 67) (kz := 0) hG a_67 a_67.n (by decide) hin_X0 rfl (by decide) (by decide) rfl kw_351 rfl ((hw).1 (67, 0, 68) (by decide)) (by decide) dX2_joinChannel_18 ?_
        refine V.iload (pc := 21) hG dX2_joinChannel_21 5 rfl ?_
        obtain ⟨g48, h⟩ := h
        refine V.aald (pc := 23) 6 (z := 96) (o := 68) (x := x5_8) (y := 72 + x5_8) hG a_68 a_68.n (by decide) hx5_8 g48 (hw.2.1 (68, 96, 72) (by decide) _ g48.1 g48.2) (by omega) dX2_joinChannel_23 ?_
        refine V.getIN (pc := 24) (ci := 5) (k := 3) (M := 13) (T := TX3) (o := 72 + x5_8) (kz := 3) hG (node_o g48.1 g48.2) ((node_o g48.1 g48.2)).n (by decide) hin_X3 rfl (by decide) (by decide) rfl kw_292 rfl dX2_joinChannel_24 ?_
        refine V.iload_n (pc := 27) hG dX2_joinChannel_27 rfl 2 rfl ?_
        obtain ⟨f51, t50⟩ := h
        refine V.icmp_ne (pc := 28) (tgt := 57) hG ((hi_8 _ _)) hp2 dX2_joinChannel_28 (by decide) (fun c49 => ?_) (fun c49 => ?_)
        · have h := t50 c49
          clear t50 f51
          exact jn57 x3_8 x4_8 x5_8 i_8 hx3_8 hx4_8 hx5_8 hi_8 h
        · have h := f51 c49
          clear t50 f51
          refine V.iload (pc := 31) hG dX2_joinChannel_31 4 rfl ?_
          refine V.iconst (pc := 33) hG dX2_joinChannel_33 ?_
          obtain ⟨f54, t53⟩ := h
          refine V.icmp_ne (pc := 34) (tgt := 43) hG hx4_8 ((sR_l rfl)) dX2_joinChannel_34 (by decide) (fun c52 => ?_) (fun c52 => ?_)
          · have h := t53 c52
            clear t53 f54
            refine V.aload_n (pc := 43) hG dX2_joinChannel_43 rfl 0 rfl ?_
            refine V.iload (pc := 44) hG dX2_joinChannel_44 4 rfl ?_
            refine V.iload (pc := 46) hG dX2_joinChannel_46 5 rfl ?_
            refine V.iconst (pc := 48) hG dX2_joinChannel_48 ?_
            refine V.iconst (pc := 49) hG dX2_joinChannel_49 ?_
            refine V.callVv (pc := 50) (As := [.int (sJ x4_8), .int (sJ x5_8), .int (sJ 0), .int (sJ 1)]) (stk := []) hG (sm_X2_put l Δ hx4_8 hx5_8 ((sR_l rfl)) ((sR_l rfl)) hi_8 hw h) mY_X2_put kw_690 kw_692 kw_30 a_168 (by decide) (q := (RX2, TX2, 5)) rfl rfl ⟨Nat.le_of_ble_eq_true rfl, Nat.le_of_ble_eq_true rfl, Nat.le_of_ble_eq_true rfl, Nat.le_of_ble_eq_true rfl⟩ rfl (Nat.le_of_ble_eq_true rfl) dX2_joinChannel_50 rfl (fun i56 r57 hi59 hw60 hq61 => ?_)
            obtain ⟨e63, h⟩ := hq61
            subst e63
            refine V.pick [0, 1, 2, 3, 5] rfl ?_
            exact jn53 x3_8 x5_8 i56 hx3_8 hx5_8 hi59 h
          · have h := f54 c52
            clear t53 f54
            refine V.iload (pc := 37) hG dX2_joinChannel_37 5 rfl ?_
            refine V.istore_n (pc := 39) (lv' := [(3, .int (sJ x5_8)), (0, .ref (sA Δ 168)), (1, .ref (sA Δ 67)), (2, .int (sJ p2)), (4, .int (sJ x4_8)), (5, .int (sJ x5_8))]) hG dX2_joinChannel_39 rfl (by decide) rfl ?_
            refine V.goto (pc := 40) (tgt := 53) hG dX2_joinChannel_40 (by decide) ?_
            refine V.pick [1, 2, 3, 0, 5] rfl ?_
            exact jn53 x5_8 x5_8 i_8 hx5_8 hx5_8 hi_8 h
  refine V.pick [3, 4, 5, 2, 1, 0] rfl ?_
  exact lp8 n32 (-1) (-1) 0 i ((sR_l rfl)) ((sR_l rfl)) ((sR_l rfl)) hi h
set_option maxRecDepth 100000 in
set_option maxHeartbeats 4000000 in
theorem sm_X11_isDivided (l : Launch) (Δ : Wd) {i r : MI} {p0 : Int} {p1 : Int} (hp0 : sR p0) (hp1 : sR p1) {Q : Int → Prop} (hi : okI i) (hw : Wf r) (h : wp_X11_isDivided p0 p1 i r Q) : Met l yX11_isDivided (Cond.code yX11_isDivided cX11_isDivided 2 (some .boolean) :: gW) (sRm 0 0) (sPc Δ [.int (sJ p0), .int (sJ p1)] i r) (sQi Δ (fun x i' r' => i = i' ∧ r = r' ∧ Q x)) 0 0 (sFr Δ) := by
  refine Ct.i (ty := .boolean) (by decide) rfl (Nat.le_of_ble_eq_true rfl) (fun Γ Q0 hG fin => ?_)
  have hG : okG Γ Δ l (sRm 0 0) cX11_isDivided "Schedulary" 2 := hG
  show V Γ Δ 504 false i r 0 0 Q0 0 [(0, .int (sJ p0)), (1, .int (sJ p1))] []
  have jn15 : ∀ (k0j15 : Int), sR k0j15 → s15_X11_isDivided k0j15 i r Q → V Γ Δ 504 false i r 0 0 Q0 15 [] [.int (sJ k0j15)] := by
    intro k0j15 hk0j15 h
    obtain ⟨g2, h⟩ := h
    exact fin dX11_isDivided_15 hk0j15 (nar_z g2) hi hw ⟨rfl, rfl, h⟩
  have jn14 : s14_X11_isDivided i r Q → V Γ Δ 504 false i r 0 0 Q0 14 [] [] := by
    intro h
    refine V.iconst (pc := 14) hG dX11_isDivided_14 ?_
    exact jn15 0 ((sR_l rfl)) h
  refine V.iload_n (pc := 0) hG dX11_isDivided_0 rfl 1 rfl ?_
  obtain ⟨t4, f5⟩ := h
  refine V.if_le (pc := 1) (tgt := 14) hG hp1 dX11_isDivided_1 (by decide) (fun c3 => ?_) (fun c3 => ?_)
  · have h := t4 c3
    clear t4 f5
    refine V.pick [] rfl ?_
    exact jn14 h
  · have h := f5 c3
    clear t4 f5
    refine V.iload_n (pc := 4) hG dX11_isDivided_4 rfl 0 rfl ?_
    refine V.iload_n (pc := 5) hG dX11_isDivided_5 rfl 1 rfl ?_
    obtain ⟨g6, h⟩ := h
    refine V.irem (pc := 6) hG hp0 hp1 g6 dX11_isDivided_6 ?_
    obtain ⟨f9, t8⟩ := h
    refine V.if_ne (pc := 7) (tgt := 14) hG ((sR_tmod hp0)) dX11_isDivided_7 (by decide) (fun c7 => ?_) (fun c7 => ?_)
    · have h := t8 c7
      clear t8 f9
      refine V.pick [] rfl ?_
      exact jn14 h
    · have h := f9 c7
      clear t8 f9
      refine V.iconst (pc := 10) hG dX11_isDivided_10 ?_
      refine V.goto (pc := 11) (tgt := 15) hG dX11_isDivided_11 (by decide) ?_
      refine V.pick [] rfl ?_
      exact jn15 1 ((sR_l rfl)) h
set_option maxRecDepth 100000 in
set_option maxHeartbeats 4000000 in
theorem sm_X2_distanceTo (l : Launch) (Δ : Wd) {i r : MI} {o0 : Int} {o1 : Int} {p2 : Int} {p3 : Int} (ho0 : isA o0 (5, 0)) (ho1 : isA o1 (5, 0)) (hp2 : sR p2) (hp3 : sR p3) {Q : Int → Prop} (hi : okI i) (hw : Wf r) (h : wp_X2_distanceTo o0 o1 p2 p3 i r Q) : Met l yX2_distanceTo (Cond.code yX2_distanceTo cX2_distanceTo 5 (some .int) :: gW) (sRm 1 21) (sPc Δ [.ref (sA Δ o0), .ref (sA Δ o1), .int (sJ p2), .int (sJ p3)] i r) (sQi Δ (fun x i' r' => i = i' ∧ r = r' ∧ Q x)) 0 0 (sFr Δ) := by
  refine Ct.i (ty := .int) (by decide) rfl (Nat.le_of_ble_eq_true rfl) (fun Γ Q0 hG fin => ?_)
  have hG : okG Γ Δ l (sRm 1 21) cX2_distanceTo "Schedulary$Graph" 5 := hG
  show V Γ Δ 504 false i r 0 0 Q0 0 [(0, .ref (sA Δ o0)), (1, .ref (sA Δ o1)), (2, .int (sJ p2)), (3, .int (sJ p3))] []
  have jn93 : ∀ (k0j93 : Int), sR k0j93 → s93_X2_distanceTo k0j93 i r Q → V Γ Δ 504 false i r 0 0 Q0 93 [] [.int (sJ k0j93)] := by
    intro k0j93 hk0j93 h
    exact fin dX2_distanceTo_93 hk0j93 rfl hi hw ⟨rfl, rfl, h⟩
  have jn84 : s84_X2_distanceTo p2 i r Q → V Γ Δ 504 false i r 0 0 Q0 84 [(2, .int (sJ p2))] [] := by
    intro h
    refine V.iload_n (pc := 84) hG dX2_distanceTo_84 rfl 0 rfl ?_
    obtain ⟨t5, f6⟩ := h
    refine V.if_eq (pc := 85) (tgt := 92) hG hp2 dX2_distanceTo_85 (by decide) (fun c4 => ?_) (fun c4 => ?_)
    · have h := t5 c4
      clear t5 f6
      refine V.iconst (pc := 92) hG dX2_distanceTo_92 ?_
      refine V.pick [] rfl ?_
      exact jn93 1 ((sR_l rfl)) h
    · have h := f6 c4
      clear t5 f6
      refine V.iconst (pc := 88) hG dX2_distanceTo_88 ?_
      refine V.goto (pc := 89) (tgt := 93) hG dX2_distanceTo_89 (by decide) ?_
      refine V.pick [] rfl ?_
      exact jn93 0 ((sR_l rfl)) h
  have jn63 : ∀ (x4j63 : Int), sR x4j63 → s63_X2_distanceTo o0 o1 p2 x4j63 i r Q → V Γ Δ 504 false i r 0 0 Q0 63 [(0, .ref (sA Δ o0)), (1, .ref (sA Δ o1)), (2, .int (sJ p2)), (4, .int (sJ x4j63))] [] := by
    intro x4j63 hx4j63 h
    refine V.aload_n (pc := 63) hG dX2_distanceTo_63 rfl 0 rfl ?_
    refine V.getIN (pc := 64) (ci := 5) (k := 10) (M := 13) (T := TX3) (o := o0) (kz := 10) hG ho0 ho0.n (by decide) hin_X3 rfl (by decide) (by decide) rfl kw_314 rfl dX2_distanceTo_64 ?_
    obtain ⟨f18, t17⟩ := h
    refine V.if_ne (pc := 67) (tgt := 84) hG ((hi _ _)) dX2_distanceTo_67 (by decide) (fun c16 => ?_) (fun c16 => ?_)
    · have h := t17 c16
      clear t17 f18
      refine V.pick [2] rfl ?_
      exact jn84 h
    · have h := f18 c16
      clear t17 f18
      refine V.aload_n (pc := 70) hG dX2_distanceTo_70 rfl 1 rfl ?_
      refine V.getIN (pc := 71) (ci := 5) (k := 10) (M := 13) (T := TX3) (o := o1) (kz := 10) hG ho1 ho1.n (by decide) hin_X3 rfl (by decide) (by decide) rfl kw_314 rfl dX2_distanceTo_71 ?_
      obtain ⟨f21, t20⟩ := h
      refine V.if_ne (pc := 74) (tgt := 84) hG ((hi _ _)) dX2_distanceTo_74 (by decide) (fun c19 => ?_) (fun c19 => ?_)
      · have h := t20 c19
        clear t20 f21
        refine V.pick [2] rfl ?_
        exact jn84 h
      · have h := f21 c19
        clear t20 f21
        refine V.iload (pc := 77) hG dX2_distanceTo_77 3 rfl ?_
        obtain ⟨t23, f24⟩ := h
        refine V.if_eq (pc := 79) (tgt := 84) hG hx4j63 dX2_distanceTo_79 (by decide) (fun c22 => ?_) (fun c22 => ?_)
        · have h := t23 c22
          clear t23 f24
          refine V.pick [2] rfl ?_
          exact jn84 h
        · have h := f24 c22
          clear t23 f24
          refine V.iconst (pc := 82) hG dX2_distanceTo_82 ?_
          exact fin dX2_distanceTo_83 ((sR_l rfl)) rfl hi hw ⟨rfl, rfl, h⟩
  have jn62 : ∀ (k0j62 : Int), sR k0j62 → s62_X2_distanceTo k0j62 i r Q → V Γ Δ 504 false i r 0 0 Q0 62 [] [.int (sJ k0j62)] := by
    intro k0j62 hk0j62 h
    exact fin dX2_distanceTo_62 hk0j62 rfl hi hw ⟨rfl, rfl, h⟩
  have jn50 : ∀ (x4j50 : Int), sR x4j50 → s50_X2_distanceTo p3 x4j50 i r Q → V Γ Δ 504 false i r 0 0 Q0 50 [(3, .int (sJ p3)), (4, .int (sJ x4j50))] [] := by
    intro x4j50 hx4j50 h
    refine V.iload_n (pc := 50) hG dX2_distanceTo_50 rfl 0 rfl ?_
    obtain ⟨t30, f31⟩ := h
    refine V.if_le (pc := 51) (tgt := 61) hG hp3 dX2_distanceTo_51 (by decide) (fun c29 => ?_) (fun c29 => ?_)
    · have h := t30 c29
      clear t30 f31
      refine V.iconst (pc := 61) hG dX2_distanceTo_61 ?_
      refine V.pick [] rfl ?_
      exact jn62 (-1) ((sR_l rfl)) h
    · have h := f31 c29
      clear t30 f31
      refine V.iload (pc := 54) hG dX2_distanceTo_54 1 rfl ?_
      refine V.iload_n (pc := 56) hG dX2_distanceTo_56 rfl 0 rfl ?_
      obtain ⟨g32, h⟩ := h
      refine V.idiv (pc := 57) hG hx4j50 hp3 g32 dX2_distanceTo_57 ?_
      refine V.goto (pc := 58) (tgt := 62) hG dX2_distanceTo_58 (by decide) ?_
      refine V.pick [] rfl ?_
      exact jn62 (wr (Int.tdiv x4j50 p3)) ((sR_wr _)) h
  have jn48 : s48_X2_distanceTo i r Q → V Γ Δ 504 false i r 0 0 Q0 48 [] [] := by
    intro h
    refine V.iconst (pc := 48) hG dX2_distanceTo_48 ?_
    exact fin dX2_distanceTo_49 ((sR_l rfl)) rfl hi hw ⟨rfl, rfl, h⟩
  refine V.aload_n (pc := 0) hG dX2_distanceTo_0 rfl 0 rfl ?_
  refine V.getIN (pc := 1) (ci := 5) (k := 9) (M := 13) (T := TX3) (o := o0) (kz := 9) hG ho0 ho0.n (by decide) hin_X3 rfl (by decide) (by decide) rfl kw_312 rfl dX2_distanceTo_1 ?_
  refine V.aload_n (pc := 4) hG dX2_distanceTo_4 rfl 1 rfl ?_
  refine V.getIN (pc := 5) (ci := 5) (k := 9) (M := 13) (T := TX3) (o := o1) (kz := 9) hG ho1 ho1.n (by decide) hin_X3 rfl (by decide) (by decide) rfl kw_312 rfl dX2_distanceTo_5 ?_
  refine V.isub (pc := 8) hG dX2_distanceTo_8 ?_
  refine V.istore (pc := 9) (lv' := [(4, .int (sJ (wr (i o0 9 - i o1 9)))), (0, .ref (sA Δ o0)), (1, .ref (sA Δ o1)), (2, .int (sJ p2)), (3, .int (sJ p3))]) hG dX2_distanceTo_9 (by decide) rfl ?_
  refine V.aload_n (pc := 11) hG dX2_distanceTo_11 rfl 1 rfl ?_
  refine V.getIN (pc := 12) (ci := 5) (k := 10) (M := 13) (T := TX3) (o := o0) (kz := 10) hG ho0 ho0.n (by decide) hin_X3 rfl (by decide) (by decide) rfl kw_314 rfl dX2_distanceTo_12 ?_
  obtain ⟨t34, f35⟩ := h
  refine V.if_eq (pc := 15) (tgt := 63) hG ((hi _ _)) dX2_distanceTo_15 (by decide) (fun c33 => ?_) (fun c33 => ?_)
  · have h := t34 c33
    clear t34 f35
    refine V.pick [1, 2, 3, 0] rfl ?_
    exact jn63 (wr (i o0 9 - i o1 9)) ((sR_wr _)) h
  · have h := f35 c33
    clear t34 f35
    refine V.aload_n (pc := 18) hG dX2_distanceTo_18 rfl 2 rfl ?_
    refine V.getIN (pc := 19) (ci := 5) (k := 10) (M := 13) (T := TX3) (o := o1) (kz := 10) hG ho1 ho1.n (by decide) hin_X3 rfl (by decide) (by decide) rfl kw_314 rfl dX2_distanceTo_19 ?_
    obtain ⟨t37, f38⟩ := h
    refine V.if_eq (pc := 22) (tgt := 63) hG ((hi _ _)) dX2_distanceTo_22 (by decide) (fun c36 => ?_) (fun c36 => ?_)
    · have h := t37 c36
      clear t37 f38
      refine V.pick [1, 2, 3, 0] rfl ?_
      exact jn63 (wr (i o0 9 - i o1 9)) ((sR_wr _)) h
    · have h := f38 c36
      clear t37 f38
      refine V.iload (pc := 25) hG dX2_distanceTo_25 0 rfl ?_
      obtain ⟨t40, f41⟩ := h
      refine V.if_lt (pc := 27) (tgt := 48) hG ((sR_wr _)) dX2_distanceTo_27 (by decide) (fun c39 => ?_) (fun c39 => ?_)
      · have h := t40 c39
        clear t40 f41
        refine V.pick [] rfl ?_
        exact jn48 h
      · have h := f41 c39
        clear t40 f41
        refine V.iload (pc := 30) hG dX2_distanceTo_30 0 rfl ?_
        refine V.iload_n (pc := 32) hG dX2_distanceTo_32 rfl 4 rfl ?_
        refine V.callSNi (pc := 33) (As := [.int (sJ (wr (i o0 9 - i o1 9))), .int (sJ p3)]) (stk := []) hG (sm_X11_isDivided l Δ ((sR_wr _)) hp3 hi hw h) mY_X11_isDivided kw_736 kw_737 ⟨Nat.le_of_ble_eq_true rfl, Nat.le_of_ble_eq_true rfl, Nat.le_of_ble_eq_true rfl, Nat.le_of_ble_eq_true rfl⟩ rfl (Nat.le_of_ble_eq_true rfl) dX2_distanceTo_33 rfl (fun v42 i43 r44 hv45 hi46 hw47 hq48 => ?_)
        obtain ⟨e58, e59, h⟩ := hq48
        subst e58
        subst e59
        obtain ⟨t50, f51⟩ := h
        refine V.if_eq (pc := 36) (tgt := 48) hG hv45 dX2_distanceTo_36 (by decide) (fun c49 => ?_) (fun c49 => ?_)
        · have h := t50 c49
          clear t50 f51
          refine V.pick [] rfl ?_
          exact jn48 h
        · have h := f51 c49
          clear t50 f51
          refine V.iload (pc := 39) hG dX2_distanceTo_39 0 rfl ?_
          obtain ⟨f54, t53⟩ := h
          refine V.if_ne (pc := 41) (tgt := 50) hG ((sR_wr _)) dX2_distanceTo_41 (by decide) (fun c52 => ?_) (fun c52 => ?_)
          · have h := t53 c52
            clear t53 f54
            refine V.pick [4, 0] rfl ?_
            exact jn50 (wr (i o0 9 - i o1 9)) ((sR_wr _)) h
          · have h := f54 c52
            clear t53 f54
            refine V.iload_n (pc := 44) hG dX2_distanceTo_44 rfl 3 rfl ?_
            obtain ⟨f57, t56⟩ := h
            refine V.if_ne (pc := 45) (tgt := 50) hG hp2 dX2_distanceTo_45 (by decide) (fun c55 => ?_) (fun c55 => ?_)
            · have h := t56 c55
              clear t56 f57
              refine V.pick [4, 0] rfl ?_
              exact jn50 (wr (i o0 9 - i o1 9)) ((sR_wr _)) h
            · have h := f57 c55
              clear t56 f57
              refine V.pick [] rfl ?_
              exact jn48 h
set_option maxRecDepth 100000 in
set_option maxHeartbeats 4000000 in
theorem sm_X2_joinPlaces (l : Launch) (Δ : Wd) {i r : MI} {p2 : Int} {p3 : Int} {p4 : Int} (hp2 : sR p2) (hp3 : sR p3) (hp4 : sR p4) {Q : MI → Prop} (hi : okI i) (hw : Wf r) (h : wp_X2_joinPlaces p2 p3 p4 i r Q) : Met l yX2_joinPlaces (Cond.code yX2_joinPlaces cX2_joinPlaces 8 none :: gW) (sRm 2 49) (sPc Δ [.ref (sA Δ 168), .ref (sA Δ 67), .int (sJ p2), .int (sJ p3), .int (sJ p4)] i r) (sQv Δ (fun i' r' => r = r' ∧ Q i')) 0 0 (sFr Δ) := by
  refine Ct.v (by decide) rfl (Nat.le_of_ble_eq_true rfl) (fun Γ Q0 hG fin => ?_)
  have hG : okG Γ Δ l (sRm 2 49) cX2_joinPlaces "Schedulary$Graph" 8 := hG
  show V Γ Δ 504 false i r 0 0 Q0 0 [(0, .ref (sA Δ 168)), (1, .ref (sA Δ 67)), (2, .int (sJ p2)), (3, .int (sJ p3)), (4, .int (sJ p4))] []
  have jn120 : ∀  (ij120 : MI), okI ij120 → s120_X2_joinPlaces ij120 r Q → V Γ Δ 504 false ij120 r 0 0 Q0 120 [] [] := by
    intro ij120 hij120 h
    exact fin dX2_joinPlaces_120 hij120 hw ⟨rfl, h⟩
  have jn47 : ∀ (x5j47 : Int) (x6j47 : Int) (k0j47 : Int) (k1j47 : Int) (k2j47 : Int) (ij47 : MI), isA x5j47 (5, 0) → isA x6j47 (5, 0) → isA k0j47 (5, 0) → isA k1j47 (5, 0) → sR k2j47 → okI ij47 → s47_X2_joinPlaces p2 p3 p4 x5j47 x6j47 k0j47 k1j47 k2j47 ij47 r Q → V Γ Δ 504 false ij47 r 0 0 Q0 47 [(0, .ref (sA Δ 168)), (1, .ref (sA Δ 67)), (2, .int (sJ p2)), (3, .int (sJ p3)), (4, .int (sJ p4)), (5, .ref (sA Δ x5j47)), (6, .ref (sA Δ x6j47))] [.int (sJ k2j47), .ref (sA Δ k1j47), .ref (sA Δ k0j47)] := by
    intro x5j47 x6j47 k0j47 k1j47 k2j47 ij47 hx5j47 hx6j47 hk0j47 hk1j47 hk2j47 hij47 h
    refine V.iload (pc := 47) hG dX2_joinPlaces_47 4 rfl ?_
    refine V.callSi (pc := 49) (As := [.ref (sA Δ k0j47), .ref (sA Δ k1j47), .int (sJ k2j47), .int (sJ p4)]) (stk := []) hG (sm_X2_distanceTo l Δ hk0j47 hk1j47 hk2j47 hp4 hij47 hw h) mY_X2_distanceTo kw_733 kw_734 ⟨Nat.le_of_ble_eq_true rfl, Nat.le_of_ble_eq_true rfl, Nat.le_of_ble_eq_true rfl, Nat.le_of_ble_eq_true rfl⟩ rfl (Nat.le_of_ble_eq_true rfl) dX2_joinPlaces_49 rfl (fun v64 i65 r66 hv67 hi68 hw69 hq70 => ?_)
    obtain ⟨e125, e126, h⟩ := hq70
    subst e125
    subst e126
    refine V.istore (pc := 52) (lv' := [(7, .int (sJ v64)), (0, .ref (sA Δ 168)), (1, .ref (sA Δ 67)), (2, .int (sJ p2)), (3, .int (sJ p3)), (4, .int (sJ p4)), (5, .ref (sA Δ x5j47)), (6, .ref (sA Δ x6j47))]) hG dX2_joinPlaces_52 (by decide) rfl ?_
    refine V.iload (pc := 54) hG dX2_joinPlaces_54 0 rfl ?_
    refine V.iconst (pc := 56) hG dX2_joinPlaces_56 ?_
    obtain ⟨f73, t72⟩ := h
    refine V.icmp_ne (pc := 57) (tgt := 61) hG hv67 ((sR_l rfl)) dX2_joinPlaces_57 (by decide) (fun c71 => ?_) (fun c71 => ?_)
    · have h := t72 c71
      clear t72 f73
      refine V.aload (pc := 61) hG dX2_joinPlaces_61 7 rfl ?_
      refine V.getIN (pc := 63) (ci := 5) (k := 12) (M := 13) (T := TX3) (o := x6j47) (kz := 12) hG hx6j47 hx6j47.n (by decide) hin_X3 rfl (by decide) (by decide) rfl kw_321 rfl dX2_joinPlaces_63 ?_
      obtain ⟨f76, t75⟩ := h
      refine V.if_ne (pc := 66) (tgt := 85) hG ((hij47 _ _)) dX2_joinPlaces_66 (by decide) (fun c74 => ?_) (fun c74 => ?_)
      · have h := t75 c74
        clear t75 f76
        refine V.aload (pc := 85) hG dX2_joinPlaces_85 6 rfl ?_
        refine V.getIN (pc := 87) (ci := 5) (k := 12) (M := 13) (T := TX3) (o := x5j47) (kz := 12) hG hx5j47 hx5j47.n (by decide) hin_X3 rfl (by decide) (by decide) rfl kw_321 rfl dX2_joinPlaces_87 ?_
        obtain ⟨f79, t78⟩ := h
        refine V.if_ne (pc := 90) (tgt := 111) hG ((hij47 _ _)) dX2_joinPlaces_90 (by decide) (fun c77 => ?_) (fun c77 => ?_)
        · have h := t78 c77
          clear t78 f79
          refine V.aload_n (pc := 111) hG dX2_joinPlaces_111 rfl 1 rfl ?_
          refine V.iload_n (pc := 112) hG dX2_joinPlaces_112 rfl 3 rfl ?_
          refine V.iload_n (pc := 113) hG dX2_joinPlaces_113 rfl 4 rfl ?_
          refine V.iload (pc := 114) hG dX2_joinPlaces_114 0 rfl ?_
          refine V.iconst (pc := 116) hG dX2_joinPlaces_116 ?_
          refine V.callVv (pc := 117) (As := [.int (sJ p2), .int (sJ p3), .int (sJ v64), .int (sJ 1)]) (stk := []) hG (sm_X2_put l Δ hp2 hp3 hv67 ((sR_l rfl)) hij47 hw h) mY_X2_put kw_690 kw_692 kw_30 a_168 (by decide) (q := (RX2, TX2, 5)) rfl rfl ⟨Nat.le_of_ble_eq_true rfl, Nat.le_of_ble_eq_true rfl, Nat.le_of_ble_eq_true rfl, Nat.le_of_ble_eq_true rfl⟩ rfl (Nat.le_of_ble_eq_true rfl) dX2_joinPlaces_117 rfl (fun i81 r82 hi84 hw85 hq86 => ?_)
          obtain ⟨e88, h⟩ := hq86
          subst e88
          refine V.pick [] rfl ?_
          exact jn120 i81 hi84 h
        · have h := f79 c77
          clear t78 f79
          refine V.aload_n (pc := 93) hG dX2_joinPlaces_93 rfl 1 rfl ?_
          refine V.iload_n (pc := 94) hG dX2_joinPlaces_94 rfl 3 rfl ?_
          refine V.iload_n (pc := 95) hG dX2_joinPlaces_95 rfl 4 rfl ?_
          refine V.iload (pc := 96) hG dX2_joinPlaces_96 0 rfl ?_
          refine V.iconst (pc := 98) hG dX2_joinPlaces_98 ?_
          refine V.aload_n (pc := 99) hG dX2_joinPlaces_99 rfl 2 rfl ?_
          refine V.iload_n (pc := 100) hG dX2_joinPlaces_100 rfl 4 rfl ?_
          refine V.callVNi (pc := 101) (As := [.int (sJ p3)]) (stk := [.int (sJ 1), .int (sJ v64), .int (sJ p3), .int (sJ p2), .ref (sA Δ 168)]) hG (sm_X0_cyclesOf l Δ hp3 hij47 hw h) mY_X0_cyclesOf kw_686 kw_688 kw_29 a_67 (by decide) (q := (RX0, TX0, 5)) rfl rfl ⟨Nat.le_of_ble_eq_true rfl, Nat.le_of_ble_eq_true rfl, Nat.le_of_ble_eq_true rfl, Nat.le_of_ble_eq_true rfl⟩ rfl (Nat.le_of_ble_eq_true rfl) dX2_joinPlaces_101 rfl (fun v89 i90 r91 hv92 hi93 hw94 hq95 => ?_)
          obtain ⟨e105, e106, h⟩ := hq95
          subst e105
          subst e106
          refine V.isub (pc := 104) hG dX2_joinPlaces_104 ?_
          refine V.callVv (pc := 105) (As := [.int (sJ p2), .int (sJ p3), .int (sJ v64), .int (sJ (wr (1 - v89)))]) (stk := []) hG (sm_X2_put l Δ hp2 hp3 hv67 ((sR_wr _)) hij47 hw h) mY_X2_put kw_690 kw_692 kw_30 a_168 (by decide) (q := (RX2, TX2, 5)) rfl rfl ⟨Nat.le_of_ble_eq_true rfl, Nat.le_of_ble_eq_true rfl, Nat.le_of_ble_eq_true rfl, Nat.le_of_ble_eq_true rfl⟩ rfl (Nat.le_of_ble_eq_true rfl) dX2_joinPlaces_105 rfl (fun i97 r98 hi100 hw101 hq102 => ?_)
          obtain ⟨e104, h⟩ := hq102
          subst e104
          refine V.goto (pc := 108) (tgt := 120) hG dX2_joinPlaces_108 (by decide) ?_
          refine V.pick [] rfl ?_
          exact jn120 i97 hi100 h
      · have h := f76 c74
        clear t75 f76
        refine V.aload_n (pc := 69) hG dX2_joinPlaces_69 rfl 1 rfl ?_
        refine V.iload_n (pc := 70) hG dX2_joinPlaces_70 rfl 3 rfl ?_
        refine V.iload_n (pc := 71) hG dX2_joinPlaces_71 rfl 4 rfl ?_
        refine V.iload (pc := 72) hG dX2_joinPlaces_72 0 rfl ?_
        refine V.aload_n (pc := 74) hG dX2_joinPlaces_74 rfl 2 rfl ?_
        refine V.iload_n (pc := 75) hG dX2_joinPlaces_75 rfl 3 rfl ?_
        refine V.callVNi (pc := 76) (As := [.int (sJ p2)]) (stk := [.int (sJ v64), .int (sJ p3), .int (sJ p2), .ref (sA Δ 168)]) hG (sm_X0_cyclesOf l Δ hp2 hij47 hw h) mY_X0_cyclesOf kw_686 kw_688 kw_29 a_67 (by decide) (q := (RX0, TX0, 5)) rfl rfl ⟨Nat.le_of_ble_eq_true rfl, Nat.le_of_ble_eq_true rfl, Nat.le_of_ble_eq_true rfl, Nat.le_of_ble_eq_true rfl⟩ rfl (Nat.le_of_ble_eq_true rfl) dX2_joinPlaces_76 rfl (fun v107 i108 r109 hv110 hi111 hw112 hq113 => ?_)
        obtain ⟨e123, e124, h⟩ := hq113
        subst e123
        subst e124
        refine V.callVv (pc := 79) (As := [.int (sJ p2), .int (sJ p3), .int (sJ v64), .int (sJ v107)]) (stk := []) hG (sm_X2_put l Δ hp2 hp3 hv67 hv110 hij47 hw h) mY_X2_put kw_690 kw_692 kw_30 a_168 (by decide) (q := (RX2, TX2, 5)) rfl rfl ⟨Nat.le_of_ble_eq_true rfl, Nat.le_of_ble_eq_true rfl, Nat.le_of_ble_eq_true rfl, Nat.le_of_ble_eq_true rfl⟩ rfl (Nat.le_of_ble_eq_true rfl) dX2_joinPlaces_79 rfl (fun i115 r116 hi118 hw119 hq120 => ?_)
        obtain ⟨e122, h⟩ := hq120
        subst e122
        refine V.goto (pc := 82) (tgt := 120) hG dX2_joinPlaces_82 (by decide) ?_
        refine V.pick [] rfl ?_
        exact jn120 i115 hi118 h
    · have h := f73 c71
      clear t72 f73
      exact fin dX2_joinPlaces_60 hij47 hw ⟨rfl, h⟩
  have jn33 : ∀ (x5j33 : Int) (x6j33 : Int) (ij33 : MI), isA x5j33 (5, 0) → isA x6j33 (5, 0) → okI ij33 → s33_X2_joinPlaces p2 p3 p4 x5j33 x6j33 ij33 r Q → V Γ Δ 504 false ij33 r 0 0 Q0 33 [(0, .ref (sA Δ 168)), (1, .ref (sA Δ 67)), (2, .int (sJ p2)), (3, .int (sJ p3)), (4, .int (sJ p4)), (5, .ref (sA Δ x5j33)), (6, .ref (sA Δ x6j33))] [] := by
    intro x5j33 x6j33 ij33 hx5j33 hx6j33 hij33 h
    refine V.aload (pc := 33) hG dX2_joinPlaces_33 5 rfl ?_
    refine V.aload (pc := 35) hG dX2_joinPlaces_35 6 rfl ?_
    refine V.iload_n (pc := 37) hG dX2_joinPlaces_37 rfl 2 rfl ?_
    refine V.iload_n (pc := 38) hG dX2_joinPlaces_38 rfl 3 rfl ?_
    obtain ⟨t131, f132⟩ := h
    refine V.icmp_ge (pc := 39) (tgt := 46) hG hp2 hp3 dX2_joinPlaces_39 (by decide) (fun c130 => ?_) (fun c130 => ?_)
    · have h := t131 c130
      clear t131 f132
      refine V.iconst (pc := 46) hG dX2_joinPlaces_46 ?_
      exact jn47 x5j33 x6j33 x5j33 x6j33 0 ij33 hx5j33 hx6j33 hx5j33 hx6j33 ((sR_l rfl)) hij33 h
    · have h := f132 c130
      clear t131 f132
      refine V.iconst (pc := 42) hG dX2_joinPlaces_42 ?_
      refine V.goto (pc := 43) (tgt := 47) hG dX2_joinPlaces_43 (by decide) ?_
      exact jn47 x5j33 x6j33 x5j33 x6j33 1 ij33 hx5j33 hx6j33 hx5j33 hx6j33 ((sR_l rfl)) hij33 h
  refine V.aload_n (pc := 0) hG dX2_joinPlaces_0 rfl 1 rfl ?_
  refine V.getRN (x := 68) (pc := 1) (ci := 2) (k := 0) (M := 5) (T := TX0) (o := 67) (kz := 0) hG a_67 a_67.n (by decide) hin_X0 rfl (by decide) (by decide) rfl kw_351 rfl ((hw).1 (67, 0, 68) (by decide)) (by decide) dX2_joinPlaces_1 ?_
  refine V.iload_n (pc := 4) hG dX2_joinPlaces_4 rfl 2 rfl ?_
  obtain ⟨g133, h⟩ := h
  refine V.aald (pc := 5) 6 (z := 96) (o := 68) (x := p2) (y := 72 + p2) hG a_68 a_68.n (by decide) hp2 g133 (hw.2.1 (68, 96, 72) (by decide) _ g133.1 g133.2) (by omega) dX2_joinPlaces_5 ?_
  refine V.astore (pc := 6) (lv' := [(5, .ref (sA Δ (72 + p2))), (0, .ref (sA Δ 168)), (1, .ref (sA Δ 67)), (2, .int (sJ p2)), (3, .int (sJ p3)), (4, .int (sJ p4))]) hG dX2_joinPlaces_6 (by decide) rfl ?_
  refine V.aload_n (pc := 8) hG dX2_joinPlaces_8 rfl 2 rfl ?_
  refine V.getRN (x := 68) (pc := 9) (ci := 2) (k := 0) (M := 5) (T := TX0) (o := 67) (kz := 0) hG a_67 a_67.n (by decide) hin_X0 rfl (by decide) (by decide) rfl kw_351 rfl ((hw).1 (67, 0, 68) (by decide)) (by decide) dX2_joinPlaces_9 ?_
  refine V.iload_n (pc := 12) hG dX2_joinPlaces_12 rfl 4 rfl ?_
  obtain ⟨g134, h⟩ := h
  refine V.aald (pc := 13) 6 (z := 96) (o := 68) (x := p3) (y := 72 + p3) hG a_68 a_68.n (by decide) hp3 g134 (hw.2.1 (68, 96, 72) (by decide) _ g134.1 g134.2) (by omega) dX2_joinPlaces_13 ?_
  refine V.astore (pc := 14) (lv' := [(6, .ref (sA Δ (72 + p3))), (5, .ref (sA Δ (72 + p2))), (0, .ref (sA Δ 168)), (1, .ref (sA Δ 67)), (2, .int (sJ p2)), (3, .int (sJ p3)), (4, .int (sJ p4))]) hG dX2_joinPlaces_14 (by decide) rfl ?_
  refine V.aload (pc := 16) hG dX2_joinPlaces_16 1 rfl ?_
  refine V.getIN (pc := 18) (ci := 5) (k := 12) (M := 13) (T := TX3) (o := 72 + p2) (kz := 12) hG (node_o g133.1 g133.2) ((node_o g133.1 g133.2)).n (by decide) hin_X3 rfl (by decide) (by decide) rfl kw_321 rfl dX2_joinPlaces_18 ?_
  obtain ⟨f137, t136⟩ := h
  refine V.if_ne (pc := 21) (tgt := 33) hG ((hi _ _)) dX2_joinPlaces_21 (by decide) (fun c135 => ?_) (fun c135 => ?_)
  · have h := t136 c135
    clear t136 f137
    refine V.pick [2, 3, 4, 5, 6, 1, 0] rfl ?_
    exact jn33 (72 + p2) (72 + p3) i ((node_o g133.1 g133.2)) ((node_o g134.1 g134.2)) hi h
  · have h := f137 c135
    clear t136 f137
    refine V.aload (pc := 24) hG dX2_joinPlaces_24 0 rfl ?_
    refine V.getIN (pc := 26) (ci := 5) (k := 12) (M := 13) (T := TX3) (o := 72 + p3) (kz := 12) hG (node_o g134.1 g134.2) ((node_o g134.1 g134.2)).n (by decide) hin_X3 rfl (by decide) (by decide) rfl kw_321 rfl dX2_joinPlaces_26 ?_
    obtain ⟨f140, t139⟩ := h
    refine V.if_ne (pc := 29) (tgt := 33) hG ((hi _ _)) dX2_joinPlaces_29 (by decide) (fun c138 => ?_) (fun c138 => ?_)
    · have h := t139 c138
      clear t139 f140
      refine V.pick [2, 3, 4, 5, 6, 1, 0] rfl ?_
      exact jn33 (72 + p2) (72 + p3) i ((node_o g133.1 g133.2)) ((node_o g134.1 g134.2)) hi h
    · have h := f140 c138
      clear t139 f140
      exact fin dX2_joinPlaces_32 hi hw ⟨rfl, h⟩
set_option maxRecDepth 100000 in
set_option maxHeartbeats 4000000 in
theorem sm_X2_joinMemory (l : Launch) (Δ : Wd) {i r : MI} {p2 : Int} {p3 : Int} (hp2 : sR p2) (hp3 : sR p3) {Q : MI → Prop} (hi : okI i) (hw : Wf r) (h : wp_X2_joinMemory p2 p3 i r Q) : Met l yX2_joinMemory (Cond.code yX2_joinMemory cX2_joinMemory 6 none :: gW) (sRm 3 76) (sPc Δ [.ref (sA Δ 168), .ref (sA Δ 67), .int (sJ p2), .int (sJ p3)] i r) (sQv Δ (fun i' r' => r = r' ∧ Q i')) 0 0 (sFr Δ) := by
  refine Ct.v (by decide) rfl (Nat.le_of_ble_eq_true rfl) (fun Γ Q0 hG fin => ?_)
  have hG : okG Γ Δ l (sRm 3 76) cX2_joinMemory "Schedulary$Graph" 6 := hG
  show V Γ Δ 504 false i r 0 0 Q0 0 [(0, .ref (sA Δ 168)), (1, .ref (sA Δ 67)), (2, .int (sJ p2)), (3, .int (sJ p3))] []
  refine V.iconst (pc := 0) hG dX2_joinMemory_0 ?_
  refine V.istore (pc := 1) (lv' := [(4, .int (sJ 0)), (0, .ref (sA Δ 168)), (1, .ref (sA Δ 67)), (2, .int (sJ p2)), (3, .int (sJ p3))]) hG dX2_joinMemory_1 (by decide) rfl ?_
  obtain ⟨n47, h⟩ := h
  have lp3 : ∀ (m3 : Nat) (x4_3 : Int) (i_3 : MI), sR x4_3 → okI i_3 → LoopP (b3_X2_joinMemory p2 p3 r Q) m3 (x4_3, i_3) → V Γ Δ 504 false i_3 r 0 0 Q0 3 [(0, .ref (sA Δ 168)), (1, .ref (sA Δ 67)), (2, .int (sJ p2)), (3, .int (sJ p3)), (4, .int (sJ x4_3))] [] := by
    intro m3
    induction m3 with
    | zero => intro x4_3 i_3 hx4_3 hi_3 h; exact h.elim
    | succ m3 ih3 =>
      intro x4_3 i_3 hx4_3 hi_3 h
      have h := LoopP_succ h
      have jn78 : ∀ (x4j78 : Int) (ij78 : MI), sR x4j78 → okI ij78 → s78_X2_joinMemory p2 p3 x4j78 ij78 r Q (LoopP (b3_X2_joinMemory p2 p3 r Q) m3) → V Γ Δ 504 false ij78 r 0 0 Q0 78 [(0, .ref (sA Δ 168)), (1, .ref (sA Δ 67)), (2, .int (sJ p2)), (3, .int (sJ p3)), (4, .int (sJ x4j78))] [] := by
        intro x4j78 ij78 hx4j78 hij78 h
        refine V.iinc (pc := 78) (lv' := [(4, .int (sJ (wr (x4j78 + 1)))), (0, .ref (sA Δ 168)), (1, .ref (sA Δ 67)), (2, .int (sJ p2)), (3, .int (sJ p3))]) hG dX2_joinMemory_78 4 rfl (by decide) rfl ?_
        refine V.goto (pc := 81) (tgt := 3) hG dX2_joinMemory_81 (by decide) ?_
        refine V.pick [1, 2, 3, 4, 0] rfl ?_
        exact ih3 (wr (x4j78 + 1)) ij78 ((sR_wr _)) hij78 h
      refine V.iload (pc := 3) hG dX2_joinMemory_3 4 rfl ?_
      refine V.aload_n (pc := 5) hG dX2_joinMemory_5 rfl 1 rfl ?_
      refine V.getIN (pc := 6) (ci := 2) (k := 4) (M := 5) (T := TX0) (o := 67) (kz := 4) hG a_67 a_67.n (by decide) hin_X0 rfl (by decide) (by decide) rfl kw_367 rfl dX2_joinMemory_6 ?_
      obtain ⟨t49, f50⟩ := h
      refine V.icmp_ge (pc := 9) (tgt := 84) hG hx4_3 ((hi_3 _ _)) dX2_joinMemory_9 (by decide) (fun c48 => ?_) (fun c48 => ?_)
      · have h := t49 c48
        clear t49 f50
        exact fin dX2_joinMemory_84 hi_3 hw ⟨rfl, h⟩
      · have h := f50 c48
        clear t49 f50
        refine V.aload_n (pc := 12) hG dX2_joinMemory_12 rfl 1 rfl ?_
        refine V.getRN (x := 68) (pc := 13) (ci := 2) (k := 0) (M := 5) (T := TX0) (o := 67) (kz := 0) hG a_67 a_67.n (by decide) hin_X0 rfl (by decide) (by decide) rfl kw_351 rfl ((hw).1 (67, 0, 68) (by decide)) (by decide) dX2_joinMemory_13 ?_
        refine V.iload (pc := 16) hG dX2_joinMemory_16 4 rfl ?_
        obtain ⟨g51, h⟩ := h
        refine V.aald (pc := 18) 6 (z := 96) (o := 68) (x := x4_3) (y := 72 + x4_3) hG a_68 a_68.n (by decide) hx4_3 g51 (hw.2.1 (68, 96, 72) (by decide) _ g51.1 g51.2) (by omega) dX2_joinMemory_18 ?_
        refine V.getIN (pc := 19) (ci := 5) (k := 3) (M := 13) (T := TX3) (o := 72 + x4_3) (kz := 3) hG (node_o g51.1 g51.2) ((node_o g51.1 g51.2)).n (by decide) hin_X3 rfl (by decide) (by decide) rfl kw_292 rfl dX2_joinMemory_19 ?_
        refine V.iload_n (pc := 22) hG dX2_joinMemory_22 rfl 2 rfl ?_
        obtain ⟨t53, f54⟩ := h
        refine V.icmp_eq (pc := 23) (tgt := 29) hG ((hi_3 _ _)) hp2 dX2_joinMemory_23 (by decide) (fun c52 => ?_) (fun c52 => ?_)
        · have h := t53 c52
          clear t53 f54
          refine V.iconst (pc := 29) hG dX2_joinMemory_29 ?_
          refine V.istore (pc := 30) (lv' := [(5, .int (sJ 0)), (0, .ref (sA Δ 168)), (1, .ref (sA Δ 67)), (2, .int (sJ p2)), (3, .int (sJ p3)), (4, .int (sJ x4_3))]) hG dX2_joinMemory_30 (by decide) rfl ?_
          obtain ⟨n55, h⟩ := h
          have lp32 : ∀ (m32 : Nat) (x5_32 : Int) (i_32 : MI), sR x5_32 → okI i_32 → LoopP (b32_X2_joinMemory p2 p3 x4_3 r Q (LoopP (b3_X2_joinMemory p2 p3 r Q) m3)) m32 (x5_32, i_32) → V Γ Δ 504 false i_32 r 0 0 Q0 32 [(0, .ref (sA Δ 168)), (1, .ref (sA Δ 67)), (2, .int (sJ p2)), (3, .int (sJ p3)), (4, .int (sJ x4_3)), (5, .int (sJ x5_32))] [] := by
            intro m32
            induction m32 with
            | zero => intro x5_32 i_32 hx5_32 hi_32 h; exact h.elim
            | succ m32 ih32 =>
              intro x5_32 i_32 hx5_32 hi_32 h
              have h := LoopP_succ h
              have jn72 : ∀ (x5j72 : Int) (ij72 : MI), sR x5j72 → okI ij72 → s72_X2_joinMemory p2 p3 x4_3 x5j72 ij72 r Q (LoopP (b3_X2_joinMemory p2 p3 r Q) m3) (LoopP (b32_X2_joinMemory p2 p3 x4_3 r Q (LoopP (b3_X2_joinMemory p2 p3 r Q) m3)) m32) → V Γ Δ 504 false ij72 r 0 0 Q0 72 [(0, .ref (sA Δ 168)), (1, .ref (sA Δ 67)), (2, .int (sJ p2)), (3, .int (sJ p3)), (4, .int (sJ x4_3)), (5, .int (sJ x5j72))] [] := by
                intro x5j72 ij72 hx5j72 hij72 h
                refine V.iinc (pc := 72) (lv' := [(5, .int (sJ (wr (x5j72 + 1)))), (0, .ref (sA Δ 168)), (1, .ref (sA Δ 67)), (2, .int (sJ p2)), (3, .int (sJ p3)), (4, .int (sJ x4_3))]) hG dX2_joinMemory_72 5 rfl (by decide) rfl ?_
                refine V.goto (pc := 75) (tgt := 32) hG dX2_joinMemory_75 (by decide) ?_
                refine V.pick [1, 2, 3, 4, 5, 0] rfl ?_
                exact ih32 (wr (x5j72 + 1)) ij72 ((sR_wr _)) hij72 h
              refine V.iload (pc := 32) hG dX2_joinMemory_32 5 rfl ?_
              refine V.aload_n (pc := 34) hG dX2_joinMemory_34 rfl 1 rfl ?_
              refine V.getIN (pc := 35) (ci := 2) (k := 4) (M := 5) (T := TX0) (o := 67) (kz := 4) hG a_67 a_67.n (by decide) hin_X0 rfl (by decide) (by decide) rfl kw_367 rfl dX2_joinMemory_35 ?_
              obtain ⟨t57, f58⟩ := h
              refine V.icmp_ge (pc := 38) (tgt := 78) hG hx5_32 ((hi_32 _ _)) dX2_joinMemory_38 (by decide) (fun c56 => ?_) (fun c56 => ?_)
              · have h := t57 c56
                clear t57 f58
                refine V.pick [0, 1, 2, 3, 4] rfl ?_
                exact jn78 x4_3 i_32 hx4_3 hi_32 h
              · have h := f58 c56
                clear t57 f58
                refine V.iload (pc := 41) hG dX2_joinMemory_41 5 rfl ?_
                refine V.iload (pc := 43) hG dX2_joinMemory_43 4 rfl ?_
                obtain ⟨t60, f61⟩ := h
                refine V.icmp_eq (pc := 45) (tgt := 72) hG hx5_32 hx4_3 dX2_joinMemory_45 (by decide) (fun c59 => ?_) (fun c59 => ?_)
                · have h := t60 c59
                  clear t60 f61
                  exact jn72 x5_32 i_32 hx5_32 hi_32 h
                · have h := f61 c59
                  clear t60 f61
                  refine V.aload_n (pc := 48) hG dX2_joinMemory_48 rfl 1 rfl ?_
                  refine V.getRN (x := 68) (pc := 49) (ci := 2) (k := 0) (M := 5) (T := TX0) (o := 67) (kz := 0) hG a_67 a_67.n (by decide) hin_X0 rfl (by decide) (by decide) rfl kw_351 rfl ((hw).1 (67, 0, 68) (by decide)) (by decide) dX2_joinMemory_49 ?_
                  refine V.iload (pc := 52) hG dX2_joinMemory_52 5 rfl ?_
                  obtain ⟨g62, h⟩ := h
                  refine V.aald (pc := 54) 6 (z := 96) (o := 68) (x := x5_32) (y := 72 + x5_32) hG a_68 a_68.n (by decide) hx5_32 g62 (hw.2.1 (68, 96, 72) (by decide) _ g62.1 g62.2) (by omega) dX2_joinMemory_54 ?_
                  refine V.getIN (pc := 55) (ci := 5) (k := 3) (M := 13) (T := TX3) (o := 72 + x5_32) (kz := 3) hG (node_o g62.1 g62.2) ((node_o g62.1 g62.2)).n (by decide) hin_X3 rfl (by decide) (by decide) rfl kw_292 rfl dX2_joinMemory_55 ?_
                  refine V.iload_n (pc := 58) hG dX2_joinMemory_58 rfl 2 rfl ?_
                  obtain ⟨f65, t64⟩ := h
                  refine V.icmp_ne (pc := 59) (tgt := 72) hG ((hi_32 _ _)) hp2 dX2_joinMemory_59 (by decide) (fun c63 => ?_) (fun c63 => ?_)
                  · have h := t64 c63
                    clear t64 f65
                    exact jn72 x5_32 i_32 hx5_32 hi_32 h
                  · have h := f65 c63
                    clear t64 f65
                    refine V.aload_n (pc := 62) hG dX2_joinMemory_62 rfl 0 rfl ?_
                    refine V.aload_n (pc := 63) hG dX2_joinMemory_63 rfl 1 rfl ?_
                    refine V.iload (pc := 64) hG dX2_joinMemory_64 4 rfl ?_
                    refine V.iload (pc := 66) hG dX2_joinMemory_66 5 rfl ?_
                    refine V.iload_n (pc := 68) hG dX2_joinMemory_68 rfl 3 rfl ?_
                    refine V.callVv (pc := 69) (As := [.ref (sA Δ 67), .int (sJ x4_3), .int (sJ x5_32), .int (sJ p3)]) (stk := []) hG (sm_X2_joinPlaces l Δ hx4_3 hx5_32 hp3 hi_32 hw h) mY_X2_joinPlaces kw_729 kw_731 kw_39 a_168 (by decide) (q := (RX2, TX2, 5)) rfl rfl ⟨Nat.le_of_ble_eq_true rfl, Nat.le_of_ble_eq_true rfl, Nat.le_of_ble_eq_true rfl, Nat.le_of_ble_eq_true rfl⟩ rfl (Nat.le_of_ble_eq_true rfl) dX2_joinMemory_69 rfl (fun i67 r68 hi70 hw71 hq72 => ?_)
                    obtain ⟨e74, h⟩ := hq72
                    subst e74
                    exact jn72 x5_32 i67 hx5_32 hi70 h
          refine V.pick [1, 2, 3, 4, 5, 0] rfl ?_
          exact lp32 n55 0 i_3 ((sR_l rfl)) hi_3 h
        · have h := f54 c52
          clear t53 f54
          refine V.goto (pc := 26) (tgt := 78) hG dX2_joinMemory_26 (by decide) ?_
          exact jn78 x4_3 i_3 hx4_3 hi_3 h
  refine V.pick [1, 2, 3, 4, 0] rfl ?_
  exact lp3 n47 0 i ((sR_l rfl)) hi h
