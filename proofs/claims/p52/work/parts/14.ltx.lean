theorem kw_1443 : Cond.code yJ0_valueOf_756af cJ0_valueOf_756af 1 (some (.object "java/lang/String")) ∈ gW := gw_in (gt_6 (List.mem_of_getElem? (i := 142) (by decide +kernel))) (by decide +kernel)
theorem kw_1506 : Cond.code yJ4_append_15ec4 cJ4_append_15ec4 2 (some (.object "java/lang/StringBuilder")) ∈ gW := gw_in (gt_6 (List.mem_of_getElem? (i := 205) (by decide +kernel))) (by decide +kernel)
theorem kw_1593 : Cond.code yJ0_valueOf_b52d3 cJ0_valueOf_b52d3 1 (some (.object "java/lang/String")) ∈ gW := gw_in (gt_7 (List.mem_of_getElem? (i := 52) (by decide +kernel))) (by decide +kernel)
theorem kw_1620 : Cond.code yJ4_append_bf812 cJ4_append_bf812 2 (some (.object "java/lang/StringBuilder")) ∈ gW := gw_in (gt_7 (List.mem_of_getElem? (i := 79) (by decide +kernel))) (by decide +kernel)
theorem kw_1633 : Cond.code yJ4_toString_0e30d cJ4_toString_0e30d 1 (some (.object "java/lang/String")) ∈ gW := gw_in (gt_7 (List.mem_of_getElem? (i := 92) (by decide +kernel))) (by decide +kernel)
theorem kw_1695 : Cond.code yJ4_append_cf468 cJ4_append_cf468 2 (some (.object "java/lang/StringBuilder")) ∈ gW := gw_in (gt_7 (List.mem_of_getElem? (i := 154) (by decide +kernel))) (by decide +kernel)
theorem mY_J0_valueOf_756af : mY yJ0_valueOf_756af cJ0_valueOf_756af 1 (some (.object "java/lang/String")) 1 := ⟨kw_119, kw_1443, by decide, by decide, by decide +kernel⟩
theorem mY_J0_valueOf_b52d3 : mY yJ0_valueOf_b52d3 cJ0_valueOf_b52d3 1 (some (.object "java/lang/String")) 1 := ⟨kw_119, kw_1593, by decide, by decide, by decide +kernel⟩
theorem mY_J4_append_15ec4 : mY yJ4_append_15ec4 cJ4_append_15ec4 2 (some (.object "java/lang/StringBuilder")) 1 := ⟨kw_130, kw_1506, by decide, by decide, by decide +kernel⟩
theorem mY_J4_append_bf812 : mY yJ4_append_bf812 cJ4_append_bf812 2 (some (.object "java/lang/StringBuilder")) 1 := ⟨kw_130, kw_1620, by decide, by decide, by decide +kernel⟩
theorem mY_J4_append_cf468 : mY yJ4_append_cf468 cJ4_append_cf468 2 (some (.object "java/lang/StringBuilder")) 1 := ⟨kw_130, kw_1695, by decide, by decide, by decide +kernel⟩
theorem mY_J4_init_da8c8 : mY yJ4_init_da8c8 cJ4_init_da8c8 1 none 0 := ⟨kw_130, kw_1475, by decide, by decide, by decide +kernel⟩
theorem mY_J4_toString_0e30d : mY yJ4_toString_0e30d cJ4_toString_0e30d 1 (some (.object "java/lang/String")) 0 := ⟨kw_130, kw_1633, by decide, by decide, by decide +kernel⟩
theorem TX.anyc {Δ : Wd} {es : List TE} {k : Nat} {t : List Int} {a b : Nat} (h : TX Δ es (aK Δ k) t 0 0) : TX Δ es (aK Δ k) t a b := by
  rcases h with h | ⟨i, j, f, h1, h2, h3, h4, h5, h6⟩
  · exact Or.inl h
  · exact absurd h5 (Nat.not_lt_zero _)
set_option maxRecDepth 100000 in
set_option maxHeartbeats 4000000 in
theorem tm_cell (l : Launch) (Δ : Wd) {es : List TE} {b0 L0 : Nat} {xs0 : Int → Int} {p1 : Int} (hE0 : EA Δ b0 L0 xs0) (hp1 : sR p1) (hp0 : 0 ≤ p1) : Met l yL_cell (Cond.code yL_cell cL_cell 3 (some .int) :: gW) (sRx 2 100 0 0) (tPc Δ [.ref b0, .int (sJ p1)] es) (tQi Δ (fun x e => x = pkC L0 xs0 p1 ∧ e = es)) 0 0 (sFr Δ) := by
  refine Tm.i (ty := .int) (by decide) rfl (Nat.le_of_ble_eq_true rfl) (fun Γ Q0 hG fin => ?_)
  have hG : okG Γ Δ l (sRx 2 100 0 0) cL_cell "SchedularyLaw" 3 := hG
  show T Γ Δ es 0 0 Q0 0 [(0, .ref b0), (1, .int (sJ p1))] []
  have jn15 : ∀ (k0j15 : Int) (k1j15 : Int), k0j15 = 69069 → k1j15 = (if (L0 : Int) ≤ p1 then 0 else xs0 p1) → T Γ Δ es 0 0 Q0 15 [(1, .int (sJ p1))] [.int (sJ k1j15), .int (sJ k0j15)] := by
    intro k0j15 k1j15 hk0j15 hk1j15
    refine T.sipush (pc := 15) hG dL_cell_15 (by decide) ?_
    refine T.iload_n (pc := 18) hG dL_cell_18 rfl 0 rfl ?_
    refine T.imul (pc := 19) hG dL_cell_19 ?_
    refine T.iadd (pc := 20) hG dL_cell_20 ?_
    refine T.imul (pc := 21) hG dL_cell_21 ?_
    refine T.sipush (pc := 22) hG dL_cell_22 (by decide) ?_
    refine T.iadd (pc := 25) hG dL_cell_25 ?_
    refine T.istore_n (pc := 26) (lv' := [(2, .int (sJ (wr (wr (k0j15 * wr (k1j15 + wr (1009 * p1))) + 12345)))), (1, .int (sJ p1))]) hG dL_cell_26 rfl (by decide) rfl ?_
    refine T.iload_n (pc := 27) hG dL_cell_27 rfl 0 rfl ?_
    refine T.iload_n (pc := 28) hG dL_cell_28 rfl 0 rfl ?_
    refine T.bipush (pc := 29) hG dL_cell_29 (by decide) ?_
    refine T.iushr (pc := 31) hG dL_cell_31 ?_
    refine T.ixor (pc := 32) hG dL_cell_32 ?_
    refine T.ldc (pc := 33) (x := 1103515245) hG kw_916 dL_cell_33 ?_
    refine T.imul (pc := 35) hG dL_cell_35 ?_
    refine T.istore_n (pc := 36) (lv' := [(2, .int (sJ (wr (iXor (wr (wr (k0j15 * wr (k1j15 + wr (1009 * p1))) + 12345)) (iUshr (wr (wr (k0j15 * wr (k1j15 + wr (1009 * p1))) + 12345)) 13) * 1103515245)))), (1, .int (sJ p1))]) hG dL_cell_36 rfl (by decide) rfl ?_
    refine T.iload_n (pc := 37) hG dL_cell_37 rfl 0 rfl ?_
    refine T.iload_n (pc := 38) hG dL_cell_38 rfl 0 rfl ?_
    refine T.bipush (pc := 39) hG dL_cell_39 (by decide) ?_
    refine T.iushr (pc := 41) hG dL_cell_41 ?_
    refine T.ixor (pc := 42) hG dL_cell_42 ?_
    exact fin dL_cell_43 (sR_xor _ _) rfl (Nat.le_of_ble_eq_true rfl) (Nat.le_of_ble_eq_true rfl) ⟨by rw [hk0j15, hk1j15]; rfl, rfl⟩
  refine T.ldc (pc := 0) (x := 69069) hG kw_915 dL_cell_0 ?_
  refine T.iload_n (pc := 2) hG dL_cell_2 rfl 1 rfl ?_
  refine T.aload_n (pc := 3) hG dL_cell_3 rfl 0 rfl ?_
  refine T.ealen (pc := 4) hG hE0 dL_cell_4 ?_
  refine T.icmp_ge (pc := 5) (tgt := 14) hG hp1 ((sR_nat hE0.2.2)) dL_cell_5 (by decide) (fun c1 => ?_) (fun c1 => ?_)
  · skip
    refine T.iconst (pc := 14) hG dL_cell_14 ?_
    refine T.pick [1] rfl ?_
    exact jn15 69069 0 rfl (if_pos c1).symm
  · skip
    refine T.aload_n (pc := 8) hG dL_cell_8 rfl 0 rfl ?_
    refine T.iload_n (pc := 9) hG dL_cell_9 rfl 1 rfl ?_
    have g4 : 0 ≤ p1 ∧ p1 < (L0 : Int) := by omega
    refine T.eald (pc := 10) hG hE0 hp1 g4 dL_cell_10 ?_
    refine T.goto (pc := 11) (tgt := 15) hG dL_cell_11 (by decide) ?_
    refine T.pick [1] rfl ?_
    exact jn15 69069 (xs0 p1) rfl (if_neg c1).symm
set_option maxRecDepth 100000 in
theorem tm_pick (l : Launch) (Δ : Wd) {es : List TE} {b L : Nat} {xs : Int → Int} (hE : EA Δ b L xs) {p m : Int} (hp : 0 ≤ p ∧ p ≤ 100000) (hm : 0 < m ∧ m < 1000) : Met l yL_pick (Cond.code yL_pick cL_pick 3 (some .int) :: gW) (sRx 3 140 0 0) (tPc Δ [.ref b, .int (sJ p), .int (sJ m)] es) (tQi Δ (fun x e => x = pk L xs p m ∧ e = es)) 0 0 (sFr Δ) := by
  refine Tm.i (ty := .int) (by decide) rfl (Nat.le_of_ble_eq_true rfl) (fun Γ Q hG fin => ?_)
  have hG : okG Γ Δ l (sRx 3 140 0 0) cL_pick "SchedularyLaw" 3 := hG
  show T Γ Δ es 0 0 Q 0 [(0, .ref b), (1, .int (sJ p)), (2, .int (sJ m))] []
  refine T.aload_n (pc := 0) hG dL_pick_0 rfl 0 rfl ?_
  refine T.iload_n (pc := 1) hG dL_pick_1 rfl 1 rfl ?_
  refine T.callSi (pc := 2) (As := [.ref b, .int (sJ p)]) (stk := []) hG (tm_cell l Δ hE (sR_b (by omega)) hp.1) mY_L_cell kw_912 kw_913 ⟨Nat.le_of_ble_eq_true rfl, Nat.le_of_ble_eq_true rfl, Nat.le_of_ble_eq_true rfl, Nat.le_of_ble_eq_true rfl⟩ rfl (Nat.le_of_ble_eq_true rfl) dL_pick_2 rfl (fun x e hx hq => ?_)
  rw [hq.1, hq.2]
  refine T.bipush (pc := 5) hG dL_pick_5 (by decide) ?_
  refine T.iushr (pc := 7) hG dL_pick_7 ?_
  refine T.iload_n (pc := 8) hG dL_pick_8 rfl 2 rfl ?_
  refine T.irem (pc := 9) hG (sR_ushr _ _) (sR_b (by omega)) (by omega) dL_pick_9 ?_
  exact fin dL_pick_10 (sR_tmod (sR_ushr _ _)) rfl (Nat.le_of_ble_eq_true rfl) (Nat.le_of_ble_eq_true rfl) ⟨rfl, rfl⟩
set_option maxRecDepth 100000 in
set_option maxHeartbeats 4000000 in
theorem tm_register (l : Launch) (Δ : Wd) {es : List TE} {b L : Nat} {xs : Int → Int} (hE : EA Δ b L xs) (hD : TD Δ) {p : Int} (hp : 0 ≤ p ∧ p ≤ 5000) : Met l yL_register (Cond.code yL_register cL_register 2 (some (.object "java/lang/String")) :: gW) (sRx 6 250 2 5) (tPc Δ [.ref b, .int (sJ p)] es) (tQr Δ (fun a e => TX Δ e a (regT L xs p) es.length e.length ∧ (∀ j, j < es.length → e[j]? = es[j]?) ∧ es.length ≤ e.length)) 2 5 (sFr Δ) := by
  refine Tm.r (rt := (.object "java/lang/String")) (by decide) rfl (Or.inl ⟨_, rfl⟩) (Nat.le_of_ble_eq_true rfl) (fun Γ Q hG fin => ?_)
  have hG : okG Γ Δ l (sRx 6 250 2 5) cL_register "SchedularyLaw" 2 := hG
  show T Γ Δ es 0 0 Q 0 [(0, .ref b), (1, .int (sJ p))] []
  refine T.bipush (pc := 0) hG dL_register_0 (by decide) ?_
  refine T.aload_n (pc := 2) hG dL_register_2 rfl 0 rfl ?_
  refine T.iload_n (pc := 3) hG dL_register_3 rfl 1 rfl ?_
  refine T.iconst (pc := 4) hG dL_register_4 ?_
  refine T.callSi (pc := 5) (As := [.ref b, .int (sJ p), .int (sJ 4)]) (stk := [.int (sJ 97)]) hG (tm_pick l Δ hE (p := p) (m := 4) (by omega) (by decide)) mY_L_pick kw_909 kw_910 ⟨Nat.le_of_ble_eq_true rfl, Nat.le_of_ble_eq_true rfl, Nat.le_of_ble_eq_true rfl, Nat.le_of_ble_eq_true rfl⟩ rfl (Nat.le_of_ble_eq_true rfl) dL_register_5 rfl (fun x2 e3 _ hq => ?_)
  rw [hq.1, hq.2]
  have pr1 := pk_rng (L := L) (xs := xs) (p := p) (m := 4) (by decide)
  refine T.iaddz (pc := 8) (97 + (pk L xs p 4)) hG dL_register_8 (by omega) (sR_b (by omega)) ?_
  refine T.i2cz (pc := 9) hG dL_register_9 ⟨by omega, by omega⟩ ?_
  refine T.callSr (pc := 10) (As := [.int (sJ (97 + (pk L xs p 4)))]) (stk := []) hG (tm_vC l Δ (c := 97 + (pk L xs p 4)) (by omega)) mY_J0_valueOf_756af kw_1441 kw_1442 ⟨Nat.le_of_ble_eq_true rfl, Nat.le_of_ble_eq_true rfl, Nat.le_of_ble_eq_true rfl, Nat.le_of_ble_eq_true rfl⟩ rfl (Nat.le_of_ble_eq_true rfl) dL_register_10 rfl (fun b4 e5 hq => ?_)
  obtain ⟨h6, o7, n8⟩ := hq
  have p9 : ∀ j, j < es.length → e5[j]? = es[j]? := fun j hj => (o7 j (by omega)).trans ((fun _ _ => rfl) j hj)
  exact fin dL_register_13 (Nat.le_of_ble_eq_true rfl) (Nat.le_of_ble_eq_true rfl) ⟨h6, p9, by omega⟩
set_option maxRecDepth 100000 in
set_option maxHeartbeats 4000000 in
theorem tm_index (l : Launch) (Δ : Wd) {es : List TE} {b L : Nat} {xs : Int → Int} (hE : EA Δ b L xs) (hD : TD Δ) {p : Int} (hp : 0 ≤ p ∧ p ≤ 4000) : Met l yL_index (Cond.code yL_index cL_index 3 (some (.object "java/lang/String")) :: gW) (sRx 8 340 6 130) (tPc Δ [.ref b, .int (sJ p)] es) (tQr Δ (fun a e => TX Δ e a (idxT L xs p) es.length e.length ∧ (∀ j, j < es.length → e[j]? = es[j]?) ∧ es.length ≤ e.length)) 6 130 (sFr Δ) := by
  refine Tm.r (rt := (.object "java/lang/String")) (by decide) rfl (Or.inl ⟨_, rfl⟩) (Nat.le_of_ble_eq_true rfl) (fun Γ Q hG fin => ?_)
  have hG : okG Γ Δ l (sRx 8 340 6 130) cL_index "SchedularyLaw" 3 := hG
  show T Γ Δ es 0 0 Q 0 [(0, .ref b), (1, .int (sJ p))] []
  refine T.aload_n (pc := 0) hG dL_index_0 rfl 0 rfl ?_
  refine T.iload_n (pc := 1) hG dL_index_1 rfl 1 rfl ?_
  refine T.iconst (pc := 2) hG dL_index_2 ?_
  refine T.callSi (pc := 3) (As := [.ref b, .int (sJ p), .int (sJ 4)]) (stk := []) hG (tm_pick l Δ hE (p := p) (m := 4) (by omega) (by decide)) mY_L_pick kw_909 kw_910 ⟨Nat.le_of_ble_eq_true rfl, Nat.le_of_ble_eq_true rfl, Nat.le_of_ble_eq_true rfl, Nat.le_of_ble_eq_true rfl⟩ rfl (Nat.le_of_ble_eq_true rfl) dL_index_3 rfl (fun x2 e3 _ hq => ?_)
  rw [hq.1, hq.2]
  have pr1 := pk_rng (L := L) (xs := xs) (p := p) (m := 4) (by decide)
  refine T.istore_n (pc := 6) (lv' := [(2, .int (sJ (pk L xs p 4))), (0, .ref b), (1, .int (sJ p))]) hG dL_index_6 rfl (by decide) rfl ?_
  refine T.iload_n (pc := 7) hG dL_index_7 rfl 0 rfl ?_
  refine T.if_ne (pc := 8) (tgt := 26) hG (sR_b (by omega)) dL_index_8 (by decide) (fun q0 => ?_) (fun q0 => ?_)
  · refine T.iload_n (pc := 26) hG dL_index_26 rfl 0 rfl ?_
    refine T.iconst (pc := 27) hG dL_index_27 ?_
    refine T.icmp_ne (pc := 28) (tgt := 36) hG (sR_b (by omega)) (sR_b (by omega)) dL_index_28 (by decide) (fun q1 => ?_) (fun q1 => ?_)
    · refine T.iload_n (pc := 36) hG dL_index_36 rfl 0 rfl ?_
      refine T.iconst (pc := 37) hG dL_index_37 ?_
      refine T.icmp_ne (pc := 38) (tgt := 70) hG (sR_b (by omega)) (sR_b (by omega)) dL_index_38 (by decide) (fun q2 => ?_) (fun q2 => ?_)
      · refine T.new (pc := 70) (ci := 14) (e := tsb none 0) hG hin_J4 rfl tyJ4_ok kw_1471 kw_1472 kw_130 rfl defJ4 ⟨Nat.le_of_ble_eq_true rfl, Nat.le_of_ble_eq_true rfl⟩ dL_index_70 (fun e4 h5 o6 n7 => ?_)
        have p8 : ∀ j, j < es.length → e4[j]? = es[j]? := fun j hj => (o6 j (by omega)).trans ((fun _ _ => rfl) j hj)
        refine T.dup (pc := 73) hG dL_index_73 rfl ?_
        refine T.callI (pc := 74) (As := []) (stk := [.ref (tA Δ es.length)]) hG (tm_sbN l Δ h5) mY_J4_init_da8c8 rfl kw_1473 kw_1474 ⟨Nat.le_of_ble_eq_true rfl, Nat.le_of_ble_eq_true rfl, Nat.le_of_ble_eq_true rfl, Nat.le_of_ble_eq_true rfl⟩ rfl (Nat.le_of_ble_eq_true rfl) dL_index_74 rfl (fun e9 hq => ?_)
        obtain ⟨h10, o11, n12⟩ := hq
        have p13 : ∀ j, j < es.length → e9[j]? = es[j]? := fun j hj => (o11 j (by omega)).trans (p8 j hj)
        refine T.ldcS (pc := 77) (k := 8) (tx := "i-") hG (by decide) dL_index_77 ?_
        refine T.callVr (pc := 79) (C := "java/lang/StringBuilder") (As := [.ref (aK Δ 8)]) (stk := []) hG (tm_sbS l Δ hD (t := []) (u := [105, 45]) h10 (TX.cst 8 rfl) (asc_c rfl) (by (try simp only [List.length_append, List.length_cons, List.length_nil]); omega) (Or.inl (Nat.zero_le _))) mY_J4_append_15ec4 kw_1503 kw_1504 (tWd.of kw_1505) (SBT.rv h10) ⟨Nat.le_of_ble_eq_true rfl, Nat.le_of_ble_eq_true rfl, Nat.le_of_ble_eq_true rfl, Nat.le_of_ble_eq_true rfl⟩ rfl (Nat.le_of_ble_eq_true rfl) dL_index_79 rfl (fun b14 e15 hq => ?_)
        obtain ⟨hb9, h16, o17, n18⟩ := hq
        rw [hb9]
        have p19 : ∀ j, j < es.length → e15[j]? = es[j]? := fun j hj => (o17 j (by omega)).trans (p13 j hj)
        refine T.aload_n (pc := 82) hG dL_index_82 rfl 1 rfl ?_
        refine T.iload_n (pc := 83) hG dL_index_83 rfl 2 rfl ?_
        refine T.iconst (pc := 84) hG dL_index_84 ?_
        refine T.iaddz (pc := 85) (p + 1) hG dL_index_85 (by omega) (sR_b (by omega)) ?_
        refine T.iconst (pc := 86) hG dL_index_86 ?_
        refine T.callSi (pc := 87) (As := [.ref b, .int (sJ (p + 1)), .int (sJ 4)]) (stk := [.ref (tA Δ es.length)]) hG (tm_pick l Δ hE (p := p + 1) (m := 4) (by omega) (by decide)) mY_L_pick kw_909 kw_910 ⟨Nat.le_of_ble_eq_true rfl, Nat.le_of_ble_eq_true rfl, Nat.le_of_ble_eq_true rfl, Nat.le_of_ble_eq_true rfl⟩ rfl (Nat.le_of_ble_eq_true rfl) dL_index_87 rfl (fun x21 e22 _ hq => ?_)
        rw [hq.1, hq.2]
        have pr20 := pk_rng (L := L) (xs := xs) (p := p + 1) (m := 4) (by decide)
        refine T.callVr (pc := 90) (C := "java/lang/StringBuilder") (As := [.int (sJ (pk L xs (p + 1) 4))]) (stk := []) hG (tm_sbI l Δ hD (t := ([] ++ [105, 45])) h16 (n := (pk L xs (p + 1) 4)) (by omega) (by (try simp only [List.length_append, List.length_cons, List.length_nil]); omega)) mY_J4_append_bf812 kw_1617 kw_1618 (tWd.of kw_1619) (SBT.rv h16) ⟨Nat.le_of_ble_eq_true rfl, Nat.le_of_ble_eq_true rfl, Nat.le_of_ble_eq_true rfl, Nat.le_of_ble_eq_true rfl⟩ rfl (Nat.le_of_ble_eq_true rfl) dL_index_90 rfl (fun b23 e24 hq => ?_)
        obtain ⟨hb9, h25, o26, n27⟩ := hq
        rw [hb9]
        have p28 : ∀ j, j < es.length → e24[j]? = es[j]? := fun j hj => (o26 j (by omega)).trans (p19 j hj)
        have l29 := (okT.dgt (n := (pk L xs (p + 1) 4)) (by omega)).1
        refine T.callVr (pc := 93) (C := "java/lang/StringBuilder") (As := []) (stk := []) hG (tm_sbTS l Δ hD h25 (by (try simp only [List.length_append, List.length_cons, List.length_nil]); omega)) mY_J4_toString_0e30d kw_1630 kw_1631 (tWd.of kw_1632) (SBT.rv h25) ⟨Nat.le_of_ble_eq_true rfl, Nat.le_of_ble_eq_true rfl, Nat.le_of_ble_eq_true rfl, Nat.le_of_ble_eq_true rfl⟩ rfl (Nat.le_of_ble_eq_true rfl) dL_index_93 rfl (fun b30 e31 hq => ?_)
        obtain ⟨h32, o33, n34⟩ := hq
        have h35 := SBT.mono h25 o33
        have p36 : ∀ j, j < es.length → e31[j]? = es[j]? := fun j hj => (o33 j (by omega)).trans (p28 j hj)
        have ht : idxT L xs p = (([] ++ [105, 45]) ++ (digT (pk L xs (p + 1) 4))) := (if_neg q0).trans ((if_neg q1).trans (if_neg q2))
        exact fin dL_index_96 (Nat.le_of_ble_eq_true rfl) (Nat.le_of_ble_eq_true rfl) ⟨by rw [ht]; exact TX.wide h32 (by omega) (by omega), p36, by omega⟩
      · refine T.new (pc := 41) (ci := 14) (e := tsb none 0) hG hin_J4 rfl tyJ4_ok kw_1471 kw_1472 kw_130 rfl defJ4 ⟨Nat.le_of_ble_eq_true rfl, Nat.le_of_ble_eq_true rfl⟩ dL_index_41 (fun e37 h38 o39 n40 => ?_)
        have p41 : ∀ j, j < es.length → e37[j]? = es[j]? := fun j hj => (o39 j (by omega)).trans ((fun _ _ => rfl) j hj)
        refine T.dup (pc := 44) hG dL_index_44 rfl ?_
        refine T.callI (pc := 45) (As := []) (stk := [.ref (tA Δ es.length)]) hG (tm_sbN l Δ h38) mY_J4_init_da8c8 rfl kw_1473 kw_1474 ⟨Nat.le_of_ble_eq_true rfl, Nat.le_of_ble_eq_true rfl, Nat.le_of_ble_eq_true rfl, Nat.le_of_ble_eq_true rfl⟩ rfl (Nat.le_of_ble_eq_true rfl) dL_index_45 rfl (fun e42 hq => ?_)
        obtain ⟨h43, o44, n45⟩ := hq
        have p46 : ∀ j, j < es.length → e42[j]? = es[j]? := fun j hj => (o44 j (by omega)).trans (p41 j hj)
        refine T.ldcS (pc := 48) (k := 7) (tx := "i+") hG (by decide) dL_index_48 ?_
        refine T.callVr (pc := 50) (C := "java/lang/StringBuilder") (As := [.ref (aK Δ 7)]) (stk := []) hG (tm_sbS l Δ hD (t := []) (u := [105, 43]) h43 (TX.cst 7 rfl) (asc_c rfl) (by (try simp only [List.length_append, List.length_cons, List.length_nil]); omega) (Or.inl (Nat.zero_le _))) mY_J4_append_15ec4 kw_1503 kw_1504 (tWd.of kw_1505) (SBT.rv h43) ⟨Nat.le_of_ble_eq_true rfl, Nat.le_of_ble_eq_true rfl, Nat.le_of_ble_eq_true rfl, Nat.le_of_ble_eq_true rfl⟩ rfl (Nat.le_of_ble_eq_true rfl) dL_index_50 rfl (fun b47 e48 hq => ?_)
        obtain ⟨hb9, h49, o50, n51⟩ := hq
        rw [hb9]
        have p52 : ∀ j, j < es.length → e48[j]? = es[j]? := fun j hj => (o50 j (by omega)).trans (p46 j hj)
        refine T.aload_n (pc := 53) hG dL_index_53 rfl 1 rfl ?_
        refine T.iload_n (pc := 54) hG dL_index_54 rfl 2 rfl ?_
        refine T.iconst (pc := 55) hG dL_index_55 ?_
        refine T.iaddz (pc := 56) (p + 1) hG dL_index_56 (by omega) (sR_b (by omega)) ?_
        refine T.iconst (pc := 57) hG dL_index_57 ?_
        refine T.callSi (pc := 58) (As := [.ref b, .int (sJ (p + 1)), .int (sJ 5)]) (stk := [.ref (tA Δ es.length)]) hG (tm_pick l Δ hE (p := p + 1) (m := 5) (by omega) (by decide)) mY_L_pick kw_909 kw_910 ⟨Nat.le_of_ble_eq_true rfl, Nat.le_of_ble_eq_true rfl, Nat.le_of_ble_eq_true rfl, Nat.le_of_ble_eq_true rfl⟩ rfl (Nat.le_of_ble_eq_true rfl) dL_index_58 rfl (fun x54 e55 _ hq => ?_)
        rw [hq.1, hq.2]
        have pr53 := pk_rng (L := L) (xs := xs) (p := p + 1) (m := 5) (by decide)
        refine T.callVr (pc := 61) (C := "java/lang/StringBuilder") (As := [.int (sJ (pk L xs (p + 1) 5))]) (stk := []) hG (tm_sbI l Δ hD (t := ([] ++ [105, 43])) h49 (n := (pk L xs (p + 1) 5)) (by omega) (by (try simp only [List.length_append, List.length_cons, List.length_nil]); omega)) mY_J4_append_bf812 kw_1617 kw_1618 (tWd.of kw_1619) (SBT.rv h49) ⟨Nat.le_of_ble_eq_true rfl, Nat.le_of_ble_eq_true rfl, Nat.le_of_ble_eq_true rfl, Nat.le_of_ble_eq_true rfl⟩ rfl (Nat.le_of_ble_eq_true rfl) dL_index_61 rfl (fun b56 e57 hq => ?_)
        obtain ⟨hb9, h58, o59, n60⟩ := hq
        rw [hb9]
        have p61 : ∀ j, j < es.length → e57[j]? = es[j]? := fun j hj => (o59 j (by omega)).trans (p52 j hj)
        have l62 := (okT.dgt (n := (pk L xs (p + 1) 5)) (by omega)).1
        refine T.callVr (pc := 64) (C := "java/lang/StringBuilder") (As := []) (stk := []) hG (tm_sbTS l Δ hD h58 (by (try simp only [List.length_append, List.length_cons, List.length_nil]); omega)) mY_J4_toString_0e30d kw_1630 kw_1631 (tWd.of kw_1632) (SBT.rv h58) ⟨Nat.le_of_ble_eq_true rfl, Nat.le_of_ble_eq_true rfl, Nat.le_of_ble_eq_true rfl, Nat.le_of_ble_eq_true rfl⟩ rfl (Nat.le_of_ble_eq_true rfl) dL_index_64 rfl (fun b63 e64 hq => ?_)
        obtain ⟨h65, o66, n67⟩ := hq
        have h68 := SBT.mono h58 o66
        have p69 : ∀ j, j < es.length → e64[j]? = es[j]? := fun j hj => (o66 j (by omega)).trans (p61 j hj)
        refine T.goto (pc := 67) (tgt := 96) hG dL_index_67 (by decide) ?_
        have ht : idxT L xs p = (([] ++ [105, 43]) ++ (digT (pk L xs (p + 1) 5))) := (if_neg q0).trans ((if_neg q1).trans (if_pos q2))
        exact fin dL_index_96 (Nat.le_of_ble_eq_true rfl) (Nat.le_of_ble_eq_true rfl) ⟨by rw [ht]; exact TX.wide h65 (by omega) (by omega), p69, by omega⟩
    · refine T.ldcS (pc := 31) (k := 6) (tx := "i") hG (by decide) dL_index_31 ?_
      refine T.goto (pc := 33) (tgt := 96) hG dL_index_33 (by decide) ?_
      have ht : idxT L xs p = [105] := (if_neg q0).trans (if_pos q1)
      have hx0 : TX Δ es (aK Δ 6) [105] es.length es.length := TX.anyc (TX.cst 6 rfl)
      exact fin dL_index_96 (Nat.le_of_ble_eq_true rfl) (Nat.le_of_ble_eq_true rfl) ⟨by rw [ht]; exact hx0, (fun _ _ => rfl), by omega⟩
  · refine T.aload_n (pc := 11) hG dL_index_11 rfl 1 rfl ?_
    refine T.iload_n (pc := 12) hG dL_index_12 rfl 2 rfl ?_
    refine T.iconst (pc := 13) hG dL_index_13 ?_
    refine T.iaddz (pc := 14) (p + 1) hG dL_index_14 (by omega) (sR_b (by omega)) ?_
    refine T.bipush (pc := 15) hG dL_index_15 (by decide) ?_
    refine T.callSi (pc := 17) (As := [.ref b, .int (sJ (p + 1)), .int (sJ 20)]) (stk := []) hG (tm_pick l Δ hE (p := p + 1) (m := 20) (by omega) (by decide)) mY_L_pick kw_909 kw_910 ⟨Nat.le_of_ble_eq_true rfl, Nat.le_of_ble_eq_true rfl, Nat.le_of_ble_eq_true rfl, Nat.le_of_ble_eq_true rfl⟩ rfl (Nat.le_of_ble_eq_true rfl) dL_index_17 rfl (fun x71 e72 _ hq => ?_)
    rw [hq.1, hq.2]
    have pr70 := pk_rng (L := L) (xs := xs) (p := p + 1) (m := 20) (by decide)
    refine T.callSr (pc := 20) (As := [.int (sJ (pk L xs (p + 1) 20))]) (stk := []) hG (tm_vI l Δ hD (n := (pk L xs (p + 1) 20)) (by omega)) mY_J0_valueOf_b52d3 kw_1591 kw_1592 ⟨Nat.le_of_ble_eq_true rfl, Nat.le_of_ble_eq_true rfl, Nat.le_of_ble_eq_true rfl, Nat.le_of_ble_eq_true rfl⟩ rfl (Nat.le_of_ble_eq_true rfl) dL_index_20 rfl (fun b73 e74 hq => ?_)
    obtain ⟨h75, o76, n77⟩ := hq
    have p78 : ∀ j, j < es.length → e74[j]? = es[j]? := fun j hj => (o76 j (by omega)).trans ((fun _ _ => rfl) j hj)
    have l79 := (okT.dgt (n := (pk L xs (p + 1) 20)) (by omega)).1
    refine T.goto (pc := 23) (tgt := 96) hG dL_index_23 (by decide) ?_
    have ht : idxT L xs p = (digT (pk L xs (p + 1) 20)) := if_pos q0
    exact fin dL_index_96 (Nat.le_of_ble_eq_true rfl) (Nat.le_of_ble_eq_true rfl) ⟨by rw [ht]; exact TX.wide h75 (by omega) (by omega), p78, by omega⟩
set_option maxRecDepth 100000 in
set_option maxHeartbeats 4000000 in
theorem tm_memory (l : Launch) (Δ : Wd) {es : List TE} {b L : Nat} {xs : Int → Int} (hE : EA Δ b L xs) (hD : TD Δ) {p : Int} (hp : 0 ≤ p ∧ p ≤ 3000) : Met l yL_memory (Cond.code yL_memory cL_memory 2 (some (.object "java/lang/String")) :: gW) (sRx 9 380 13 300) (tPc Δ [.ref b, .int (sJ p)] es) (tQr Δ (fun a e => TX Δ e a (memT L xs p) es.length e.length ∧ (∀ j, j < es.length → e[j]? = es[j]?) ∧ es.length ≤ e.length)) 13 300 (sFr Δ) := by
  refine Tm.r (rt := (.object "java/lang/String")) (by decide) rfl (Or.inl ⟨_, rfl⟩) (Nat.le_of_ble_eq_true rfl) (fun Γ Q hG fin => ?_)
  have hG : okG Γ Δ l (sRx 9 380 13 300) cL_memory "SchedularyLaw" 2 := hG
  show T Γ Δ es 0 0 Q 0 [(0, .ref b), (1, .int (sJ p))] []
  refine T.new (pc := 0) (ci := 14) (e := tsb none 0) hG hin_J4 rfl tyJ4_ok kw_1471 kw_1472 kw_130 rfl defJ4 ⟨Nat.le_of_ble_eq_true rfl, Nat.le_of_ble_eq_true rfl⟩ dL_memory_0 (fun e1 h2 o3 n4 => ?_)
  have p5 : ∀ j, j < es.length → e1[j]? = es[j]? := fun j hj => (o3 j (by omega)).trans ((fun _ _ => rfl) j hj)
  refine T.dup (pc := 3) hG dL_memory_3 rfl ?_
  refine T.callI (pc := 4) (As := []) (stk := [.ref (tA Δ es.length)]) hG (tm_sbN l Δ h2) mY_J4_init_da8c8 rfl kw_1473 kw_1474 ⟨Nat.le_of_ble_eq_true rfl, Nat.le_of_ble_eq_true rfl, Nat.le_of_ble_eq_true rfl, Nat.le_of_ble_eq_true rfl⟩ rfl (Nat.le_of_ble_eq_true rfl) dL_memory_4 rfl (fun e6 hq => ?_)
  obtain ⟨h7, o8, n9⟩ := hq
  have p10 : ∀ j, j < es.length → e6[j]? = es[j]? := fun j hj => (o8 j (by omega)).trans (p5 j hj)
  refine T.aload_n (pc := 7) hG dL_memory_7 rfl 0 rfl ?_
  refine T.iload_n (pc := 8) hG dL_memory_8 rfl 1 rfl ?_
  refine T.iconst (pc := 9) hG dL_memory_9 ?_
  refine T.callSi (pc := 10) (As := [.ref b, .int (sJ p), .int (sJ 3)]) (stk := [.ref (tA Δ es.length)]) hG (tm_pick l Δ hE (p := p) (m := 3) (by omega) (by decide)) mY_L_pick kw_909 kw_910 ⟨Nat.le_of_ble_eq_true rfl, Nat.le_of_ble_eq_true rfl, Nat.le_of_ble_eq_true rfl, Nat.le_of_ble_eq_true rfl⟩ rfl (Nat.le_of_ble_eq_true rfl) dL_memory_10 rfl (fun x12 e13 _ hq => ?_)
  rw [hq.1, hq.2]
  have pr11 := pk_rng (L := L) (xs := xs) (p := p) (m := 3) (by decide)
  refine T.if_le (pc := 13) (tgt := 21) hG (sR_b (by omega)) dL_memory_13 (by decide) (fun q0 => ?_) (fun q0 => ?_)
  · refine T.ldcS (pc := 21) (k := 5) (tx := "N[") hG (by decide) dL_memory_21 ?_
    refine T.callVr (pc := 23) (C := "java/lang/StringBuilder") (As := [.ref (aK Δ 5)]) (stk := []) hG (tm_sbS l Δ hD (t := []) (u := [78, 91]) h7 (TX.cst 5 rfl) (asc_c rfl) (by (try simp only [List.length_append, List.length_cons, List.length_nil]); omega) (Or.inl (Nat.zero_le _))) mY_J4_append_15ec4 kw_1503 kw_1504 (tWd.of kw_1505) (SBT.rv h7) ⟨Nat.le_of_ble_eq_true rfl, Nat.le_of_ble_eq_true rfl, Nat.le_of_ble_eq_true rfl, Nat.le_of_ble_eq_true rfl⟩ rfl (Nat.le_of_ble_eq_true rfl) dL_memory_23 rfl (fun b14 e15 hq => ?_)
    obtain ⟨hb9, h16, o17, n18⟩ := hq
    rw [hb9]
    have p19 : ∀ j, j < es.length → e15[j]? = es[j]? := fun j hj => (o17 j (by omega)).trans (p10 j hj)
    refine T.aload_n (pc := 26) hG dL_memory_26 rfl 0 rfl ?_
    refine T.iload_n (pc := 27) hG dL_memory_27 rfl 1 rfl ?_
    refine T.iconst (pc := 28) hG dL_memory_28 ?_
    refine T.iaddz (pc := 29) (p + 1) hG dL_memory_29 (by omega) (sR_b (by omega)) ?_
    refine T.callSr (pc := 30) (As := [.ref b, .int (sJ (p + 1))]) (stk := [.ref (tA Δ es.length)]) hG (tm_index l Δ hE hD (p := p + 1) (by omega)) mY_L_index kw_1588 kw_1589 ⟨Nat.le_of_ble_eq_true rfl, Nat.le_of_ble_eq_true rfl, Nat.le_of_ble_eq_true rfl, Nat.le_of_ble_eq_true rfl⟩ rfl (Nat.le_of_ble_eq_true rfl) dL_memory_30 rfl (fun b20 e21 hq => ?_)
    obtain ⟨h22, o23, n24⟩ := hq
    have h25 := SBT.mono h16 o23
    have p26 : ∀ j, j < es.length → e21[j]? = es[j]? := fun j hj => (o23 j (by omega)).trans (p19 j hj)
    have l27 := (okT.idx (L := L) (xs := xs) (p := p + 1)).1
    refine T.callVr (pc := 33) (C := "java/lang/StringBuilder") (As := [.ref b20]) (stk := []) hG (tm_sbS l Δ hD (t := ([] ++ [78, 91])) (u := (idxT L xs (p + 1))) h25 h22 (okT.idx (L := L) (xs := xs) (p := p + 1)).2 (by (try simp only [List.length_append, List.length_cons, List.length_nil]); omega) (by omega)) mY_J4_append_15ec4 kw_1503 kw_1504 (tWd.of kw_1505) (SBT.rv h25) ⟨Nat.le_of_ble_eq_true rfl, Nat.le_of_ble_eq_true rfl, Nat.le_of_ble_eq_true rfl, Nat.le_of_ble_eq_true rfl⟩ rfl (Nat.le_of_ble_eq_true rfl) dL_memory_33 rfl (fun b28 e29 hq => ?_)
    obtain ⟨hb9, h30, o31, n32⟩ := hq
    rw [hb9]
    have p33 : ∀ j, j < es.length → e29[j]? = es[j]? := fun j hj => (o31 j (by omega)).trans (p26 j hj)
    refine T.ldcS (pc := 36) (k := 9) (tx := "]") hG (by decide) dL_memory_36 ?_
    refine T.callVr (pc := 38) (C := "java/lang/StringBuilder") (As := [.ref (aK Δ 9)]) (stk := []) hG (tm_sbS l Δ hD (t := (([] ++ [78, 91]) ++ (idxT L xs (p + 1)))) (u := [93]) h30 (TX.cst 9 rfl) (asc_c rfl) (by (try simp only [List.length_append, List.length_cons, List.length_nil]); omega) (Or.inl (Nat.zero_le _))) mY_J4_append_15ec4 kw_1503 kw_1504 (tWd.of kw_1505) (SBT.rv h30) ⟨Nat.le_of_ble_eq_true rfl, Nat.le_of_ble_eq_true rfl, Nat.le_of_ble_eq_true rfl, Nat.le_of_ble_eq_true rfl⟩ rfl (Nat.le_of_ble_eq_true rfl) dL_memory_38 rfl (fun b34 e35 hq => ?_)
    obtain ⟨hb9, h36, o37, n38⟩ := hq
    rw [hb9]
    have p39 : ∀ j, j < es.length → e35[j]? = es[j]? := fun j hj => (o37 j (by omega)).trans (p33 j hj)
    refine T.callVr (pc := 41) (C := "java/lang/StringBuilder") (As := []) (stk := []) hG (tm_sbTS l Δ hD h36 (by (try simp only [List.length_append, List.length_cons, List.length_nil]); omega)) mY_J4_toString_0e30d kw_1630 kw_1631 (tWd.of kw_1632) (SBT.rv h36) ⟨Nat.le_of_ble_eq_true rfl, Nat.le_of_ble_eq_true rfl, Nat.le_of_ble_eq_true rfl, Nat.le_of_ble_eq_true rfl⟩ rfl (Nat.le_of_ble_eq_true rfl) dL_memory_41 rfl (fun b40 e41 hq => ?_)
    obtain ⟨h42, o43, n44⟩ := hq
    have h45 := SBT.mono h36 o43
    have p46 : ∀ j, j < es.length → e41[j]? = es[j]? := fun j hj => (o43 j (by omega)).trans (p39 j hj)
    have ht : memT L xs p = ((([] ++ [78, 91]) ++ (idxT L xs (p + 1))) ++ [93]) := congrArg (fun z => z ++ idxT L xs (p + 1) ++ [93]) (if_neg (by omega))
    exact fin dL_memory_44 (Nat.le_of_ble_eq_true rfl) (Nat.le_of_ble_eq_true rfl) ⟨by rw [ht]; exact TX.wide h42 (by omega) (by omega), p46, by omega⟩
  · refine T.ldcS (pc := 16) (k := 4) (tx := "M[") hG (by decide) dL_memory_16 ?_
    refine T.goto (pc := 18) (tgt := 23) hG dL_memory_18 (by decide) ?_
    refine T.callVr (pc := 23) (C := "java/lang/StringBuilder") (As := [.ref (aK Δ 4)]) (stk := []) hG (tm_sbS l Δ hD (t := []) (u := [77, 91]) h7 (TX.cst 4 rfl) (asc_c rfl) (by (try simp only [List.length_append, List.length_cons, List.length_nil]); omega) (Or.inl (Nat.zero_le _))) mY_J4_append_15ec4 kw_1503 kw_1504 (tWd.of kw_1505) (SBT.rv h7) ⟨Nat.le_of_ble_eq_true rfl, Nat.le_of_ble_eq_true rfl, Nat.le_of_ble_eq_true rfl, Nat.le_of_ble_eq_true rfl⟩ rfl (Nat.le_of_ble_eq_true rfl) dL_memory_23 rfl (fun b47 e48 hq => ?_)
    obtain ⟨hb9, h49, o50, n51⟩ := hq
    rw [hb9]
    have p52 : ∀ j, j < es.length → e48[j]? = es[j]? := fun j hj => (o50 j (by omega)).trans (p10 j hj)
    refine T.aload_n (pc := 26) hG dL_memory_26 rfl 0 rfl ?_
    refine T.iload_n (pc := 27) hG dL_memory_27 rfl 1 rfl ?_
    refine T.iconst (pc := 28) hG dL_memory_28 ?_
    refine T.iaddz (pc := 29) (p + 1) hG dL_memory_29 (by omega) (sR_b (by omega)) ?_
    refine T.callSr (pc := 30) (As := [.ref b, .int (sJ (p + 1))]) (stk := [.ref (tA Δ es.length)]) hG (tm_index l Δ hE hD (p := p + 1) (by omega)) mY_L_index kw_1588 kw_1589 ⟨Nat.le_of_ble_eq_true rfl, Nat.le_of_ble_eq_true rfl, Nat.le_of_ble_eq_true rfl, Nat.le_of_ble_eq_true rfl⟩ rfl (Nat.le_of_ble_eq_true rfl) dL_memory_30 rfl (fun b53 e54 hq => ?_)
    obtain ⟨h55, o56, n57⟩ := hq
    have h58 := SBT.mono h49 o56
    have p59 : ∀ j, j < es.length → e54[j]? = es[j]? := fun j hj => (o56 j (by omega)).trans (p52 j hj)
    have l60 := (okT.idx (L := L) (xs := xs) (p := p + 1)).1
    refine T.callVr (pc := 33) (C := "java/lang/StringBuilder") (As := [.ref b53]) (stk := []) hG (tm_sbS l Δ hD (t := ([] ++ [77, 91])) (u := (idxT L xs (p + 1))) h58 h55 (okT.idx (L := L) (xs := xs) (p := p + 1)).2 (by (try simp only [List.length_append, List.length_cons, List.length_nil]); omega) (by omega)) mY_J4_append_15ec4 kw_1503 kw_1504 (tWd.of kw_1505) (SBT.rv h58) ⟨Nat.le_of_ble_eq_true rfl, Nat.le_of_ble_eq_true rfl, Nat.le_of_ble_eq_true rfl, Nat.le_of_ble_eq_true rfl⟩ rfl (Nat.le_of_ble_eq_true rfl) dL_memory_33 rfl (fun b61 e62 hq => ?_)
    obtain ⟨hb9, h63, o64, n65⟩ := hq
    rw [hb9]
    have p66 : ∀ j, j < es.length → e62[j]? = es[j]? := fun j hj => (o64 j (by omega)).trans (p59 j hj)
    refine T.ldcS (pc := 36) (k := 9) (tx := "]") hG (by decide) dL_memory_36 ?_
    refine T.callVr (pc := 38) (C := "java/lang/StringBuilder") (As := [.ref (aK Δ 9)]) (stk := []) hG (tm_sbS l Δ hD (t := (([] ++ [77, 91]) ++ (idxT L xs (p + 1)))) (u := [93]) h63 (TX.cst 9 rfl) (asc_c rfl) (by (try simp only [List.length_append, List.length_cons, List.length_nil]); omega) (Or.inl (Nat.zero_le _))) mY_J4_append_15ec4 kw_1503 kw_1504 (tWd.of kw_1505) (SBT.rv h63) ⟨Nat.le_of_ble_eq_true rfl, Nat.le_of_ble_eq_true rfl, Nat.le_of_ble_eq_true rfl, Nat.le_of_ble_eq_true rfl⟩ rfl (Nat.le_of_ble_eq_true rfl) dL_memory_38 rfl (fun b67 e68 hq => ?_)
    obtain ⟨hb9, h69, o70, n71⟩ := hq
    rw [hb9]
    have p72 : ∀ j, j < es.length → e68[j]? = es[j]? := fun j hj => (o70 j (by omega)).trans (p66 j hj)
    refine T.callVr (pc := 41) (C := "java/lang/StringBuilder") (As := []) (stk := []) hG (tm_sbTS l Δ hD h69 (by (try simp only [List.length_append, List.length_cons, List.length_nil]); omega)) mY_J4_toString_0e30d kw_1630 kw_1631 (tWd.of kw_1632) (SBT.rv h69) ⟨Nat.le_of_ble_eq_true rfl, Nat.le_of_ble_eq_true rfl, Nat.le_of_ble_eq_true rfl, Nat.le_of_ble_eq_true rfl⟩ rfl (Nat.le_of_ble_eq_true rfl) dL_memory_41 rfl (fun b73 e74 hq => ?_)
    obtain ⟨h75, o76, n77⟩ := hq
    have h78 := SBT.mono h69 o76
    have p79 : ∀ j, j < es.length → e74[j]? = es[j]? := fun j hj => (o76 j (by omega)).trans (p72 j hj)
    have ht : memT L xs p = ((([] ++ [77, 91]) ++ (idxT L xs (p + 1))) ++ [93]) := congrArg (fun z => z ++ idxT L xs (p + 1) ++ [93]) (if_pos (by omega))
    exact fin dL_memory_44 (Nat.le_of_ble_eq_true rfl) (Nat.le_of_ble_eq_true rfl) ⟨by rw [ht]; exact TX.wide h75 (by omega) (by omega), p79, by omega⟩
set_option maxRecDepth 100000 in
set_option maxHeartbeats 4000000 in
theorem tm_operand (l : Launch) (Δ : Wd) {es : List TE} {b L : Nat} {xs : Int → Int} (hE : EA Δ b L xs) (hD : TD Δ) {p : Int} (hp : 0 ≤ p ∧ p ≤ 2000) : Met l yL_operand (Cond.code yL_operand cL_operand 3 (some (.object "java/lang/String")) :: gW) (sRx 10 420 13 300) (tPc Δ [.ref b, .int (sJ p)] es) (tQr Δ (fun a e => TX Δ e a (opdT L xs p) es.length e.length ∧ (∀ j, j < es.length → e[j]? = es[j]?) ∧ es.length ≤ e.length)) 13 300 (sFr Δ) := by
  refine Tm.r (rt := (.object "java/lang/String")) (by decide) rfl (Or.inl ⟨_, rfl⟩) (Nat.le_of_ble_eq_true rfl) (fun Γ Q hG fin => ?_)
  have hG : okG Γ Δ l (sRx 10 420 13 300) cL_operand "SchedularyLaw" 3 := hG
  show T Γ Δ es 0 0 Q 0 [(0, .ref b), (1, .int (sJ p))] []
  refine T.aload_n (pc := 0) hG dL_operand_0 rfl 0 rfl ?_
  refine T.iload_n (pc := 1) hG dL_operand_1 rfl 1 rfl ?_
  refine T.bipush (pc := 2) hG dL_operand_2 (by decide) ?_
  refine T.callSi (pc := 4) (As := [.ref b, .int (sJ p), .int (sJ 9)]) (stk := []) hG (tm_pick l Δ hE (p := p) (m := 9) (by omega) (by decide)) mY_L_pick kw_909 kw_910 ⟨Nat.le_of_ble_eq_true rfl, Nat.le_of_ble_eq_true rfl, Nat.le_of_ble_eq_true rfl, Nat.le_of_ble_eq_true rfl⟩ rfl (Nat.le_of_ble_eq_true rfl) dL_operand_4 rfl (fun x2 e3 _ hq => ?_)
  rw [hq.1, hq.2]
  have pr1 := pk_rng (L := L) (xs := xs) (p := p) (m := 9) (by decide)
  refine T.istore_n (pc := 7) (lv' := [(2, .int (sJ (pk L xs p 9))), (0, .ref b), (1, .int (sJ p))]) hG dL_operand_7 rfl (by decide) rfl ?_
  refine T.iload_n (pc := 8) hG dL_operand_8 rfl 0 rfl ?_
  refine T.iconst (pc := 9) hG dL_operand_9 ?_
  refine T.icmp_ge (pc := 10) (tgt := 23) hG (sR_b (by omega)) (sR_b (by omega)) dL_operand_10 (by decide) (fun q0 => ?_) (fun q0 => ?_)
  · refine T.iload_n (pc := 23) hG dL_operand_23 rfl 0 rfl ?_
    refine T.bipush (pc := 24) hG dL_operand_24 (by decide) ?_
    refine T.icmp_ge (pc := 26) (tgt := 39) hG (sR_b (by omega)) (sR_b (by omega)) dL_operand_26 (by decide) (fun q1 => ?_) (fun q1 => ?_)
    · refine T.iload_n (pc := 39) hG dL_operand_39 rfl 0 rfl ?_
      refine T.bipush (pc := 40) hG dL_operand_40 (by decide) ?_
      refine T.icmp_ne (pc := 42) (tgt := 60) hG (sR_b (by omega)) (sR_b (by omega)) dL_operand_42 (by decide) (fun q2 => ?_) (fun q2 => ?_)
      · refine T.iload_n (pc := 60) hG dL_operand_60 rfl 0 rfl ?_
        refine T.bipush (pc := 61) hG dL_operand_61 (by decide) ?_
        refine T.icmp_ne (pc := 63) (tgt := 71) hG (sR_b (by omega)) (sR_b (by omega)) dL_operand_63 (by decide) (fun q3 => ?_) (fun q3 => ?_)
        · refine T.ldcS (pc := 71) (k := 12) (tx := "<") hG (by decide) dL_operand_71 ?_
          have ht : opdT L xs p = [60] := (if_neg (by omega)).trans ((if_neg (by omega)).trans ((if_neg q2).trans (if_neg q3)))
          have hx0 : TX Δ es (aK Δ 12) [60] es.length es.length := TX.anyc (TX.cst 12 rfl)
          exact fin dL_operand_73 (Nat.le_of_ble_eq_true rfl) (Nat.le_of_ble_eq_true rfl) ⟨by rw [ht]; exact hx0, (fun _ _ => rfl), by omega⟩
        · refine T.ldcS (pc := 66) (k := 6) (tx := "i") hG (by decide) dL_operand_66 ?_
          refine T.goto (pc := 68) (tgt := 73) hG dL_operand_68 (by decide) ?_
          have ht : opdT L xs p = [105] := (if_neg (by omega)).trans ((if_neg (by omega)).trans ((if_neg q2).trans (if_pos q3)))
          have hx0 : TX Δ es (aK Δ 6) [105] es.length es.length := TX.anyc (TX.cst 6 rfl)
          exact fin dL_operand_73 (Nat.le_of_ble_eq_true rfl) (Nat.le_of_ble_eq_true rfl) ⟨by rw [ht]; exact hx0, (fun _ _ => rfl), by omega⟩
      · refine T.aload_n (pc := 45) hG dL_operand_45 rfl 1 rfl ?_
        refine T.iload_n (pc := 46) hG dL_operand_46 rfl 2 rfl ?_
        refine T.iconst (pc := 47) hG dL_operand_47 ?_
        refine T.iaddz (pc := 48) (p + 1) hG dL_operand_48 (by omega) (sR_b (by omega)) ?_
        refine T.bipush (pc := 49) hG dL_operand_49 (by decide) ?_
        refine T.callSi (pc := 51) (As := [.ref b, .int (sJ (p + 1)), .int (sJ 100)]) (stk := []) hG (tm_pick l Δ hE (p := p + 1) (m := 100) (by omega) (by decide)) mY_L_pick kw_909 kw_910 ⟨Nat.le_of_ble_eq_true rfl, Nat.le_of_ble_eq_true rfl, Nat.le_of_ble_eq_true rfl, Nat.le_of_ble_eq_true rfl⟩ rfl (Nat.le_of_ble_eq_true rfl) dL_operand_51 rfl (fun x5 e6 _ hq => ?_)
        rw [hq.1, hq.2]
        have pr4 := pk_rng (L := L) (xs := xs) (p := p + 1) (m := 100) (by decide)
        refine T.callSr (pc := 54) (As := [.int (sJ (pk L xs (p + 1) 100))]) (stk := []) hG (tm_vI l Δ hD (n := (pk L xs (p + 1) 100)) (by omega)) mY_J0_valueOf_b52d3 kw_1591 kw_1592 ⟨Nat.le_of_ble_eq_true rfl, Nat.le_of_ble_eq_true rfl, Nat.le_of_ble_eq_true rfl, Nat.le_of_ble_eq_true rfl⟩ rfl (Nat.le_of_ble_eq_true rfl) dL_operand_54 rfl (fun b7 e8 hq => ?_)
        obtain ⟨h9, o10, n11⟩ := hq
        have p12 : ∀ j, j < es.length → e8[j]? = es[j]? := fun j hj => (o10 j (by omega)).trans ((fun _ _ => rfl) j hj)
        have l13 := (okT.dgt (n := (pk L xs (p + 1) 100)) (by omega)).1
        refine T.goto (pc := 57) (tgt := 73) hG dL_operand_57 (by decide) ?_
        have ht : opdT L xs p = (digT (pk L xs (p + 1) 100)) := (if_neg (by omega)).trans ((if_neg (by omega)).trans (if_pos q2))
        exact fin dL_operand_73 (Nat.le_of_ble_eq_true rfl) (Nat.le_of_ble_eq_true rfl) ⟨by rw [ht]; exact TX.wide h9 (by omega) (by omega), p12, by omega⟩
    · refine T.aload_n (pc := 29) hG dL_operand_29 rfl 1 rfl ?_
      refine T.iload_n (pc := 30) hG dL_operand_30 rfl 2 rfl ?_
      refine T.iconst (pc := 31) hG dL_operand_31 ?_
      refine T.iaddz (pc := 32) (p + 1) hG dL_operand_32 (by omega) (sR_b (by omega)) ?_
      refine T.callSr (pc := 33) (As := [.ref b, .int (sJ (p + 1))]) (stk := []) hG (tm_memory l Δ hE hD (p := p + 1) (by omega)) mY_L_memory kw_1468 kw_1469 ⟨Nat.le_of_ble_eq_true rfl, Nat.le_of_ble_eq_true rfl, Nat.le_of_ble_eq_true rfl, Nat.le_of_ble_eq_true rfl⟩ rfl (Nat.le_of_ble_eq_true rfl) dL_operand_33 rfl (fun b14 e15 hq => ?_)
      obtain ⟨h16, o17, n18⟩ := hq
      have p19 : ∀ j, j < es.length → e15[j]? = es[j]? := fun j hj => (o17 j (by omega)).trans ((fun _ _ => rfl) j hj)
      have l20 := (okT.mem (L := L) (xs := xs) (p := p + 1)).1
      refine T.goto (pc := 36) (tgt := 73) hG dL_operand_36 (by decide) ?_
      have ht : opdT L xs p = (memT L xs (p + 1)) := (if_neg (by omega)).trans (if_pos (by omega))
      exact fin dL_operand_73 (Nat.le_of_ble_eq_true rfl) (Nat.le_of_ble_eq_true rfl) ⟨by rw [ht]; exact TX.wide h16 (by omega) (by omega), p19, by omega⟩
  · refine T.aload_n (pc := 13) hG dL_operand_13 rfl 1 rfl ?_
    refine T.iload_n (pc := 14) hG dL_operand_14 rfl 2 rfl ?_
    refine T.iconst (pc := 15) hG dL_operand_15 ?_
    refine T.iaddz (pc := 16) (p + 1) hG dL_operand_16 (by omega) (sR_b (by omega)) ?_
    refine T.callSr (pc := 17) (As := [.ref b, .int (sJ (p + 1))]) (stk := []) hG (tm_register l Δ hE hD (p := p + 1) (by omega)) mY_L_register kw_1438 kw_1439 ⟨Nat.le_of_ble_eq_true rfl, Nat.le_of_ble_eq_true rfl, Nat.le_of_ble_eq_true rfl, Nat.le_of_ble_eq_true rfl⟩ rfl (Nat.le_of_ble_eq_true rfl) dL_operand_17 rfl (fun b21 e22 hq => ?_)
    obtain ⟨h23, o24, n25⟩ := hq
    have p26 : ∀ j, j < es.length → e22[j]? = es[j]? := fun j hj => (o24 j (by omega)).trans ((fun _ _ => rfl) j hj)
    have l27 := (okT.reg (L := L) (xs := xs) (p := p + 1)).1
    refine T.goto (pc := 20) (tgt := 73) hG dL_operand_20 (by decide) ?_
    have ht : opdT L xs p = (regT L xs (p + 1)) := if_pos (by omega)
    exact fin dL_operand_73 (Nat.le_of_ble_eq_true rfl) (Nat.le_of_ble_eq_true rfl) ⟨by rw [ht]; exact TX.wide h23 (by omega) (by omega), p26, by omega⟩
set_option maxRecDepth 100000 in
set_option maxHeartbeats 4000000 in
theorem tm_statement (l : Launch) (Δ : Wd) {es : List TE} {b L : Nat} {xs : Int → Int} (hE : EA Δ b L xs) (hD : TD Δ) {p : Int} (hp : 0 ≤ p ∧ p ≤ 1000) : Met l yL_statement (Cond.code yL_statement cL_statement 5 (some (.object "java/lang/String")) :: gW) (sRx 20 600 600 3600) (tPc Δ [.ref b, .int (sJ p)] es) (tQr Δ (fun a e => TX Δ e a (stmT L xs p) es.length e.length ∧ (∀ j, j < es.length → e[j]? = es[j]?) ∧ es.length ≤ e.length)) 600 3600 (sFr Δ) := by
  refine Tm.r (rt := (.object "java/lang/String")) (by decide) rfl (Or.inl ⟨_, rfl⟩) (Nat.le_of_ble_eq_true rfl) (fun Γ Q hG fin => ?_)
  have hG : okG Γ Δ l (sRx 20 600 600 3600) cL_statement "SchedularyLaw" 5 := hG
  show T Γ Δ es 0 0 Q 0 [(0, .ref b), (1, .int (sJ p))] []
  refine T.aload_n (pc := 0) hG dL_statement_0 rfl 0 rfl ?_
  refine T.iload_n (pc := 1) hG dL_statement_1 rfl 1 rfl ?_
  refine T.bipush (pc := 2) hG dL_statement_2 (by decide) ?_
  refine T.callSi (pc := 4) (As := [.ref b, .int (sJ p), .int (sJ 6)]) (stk := []) hG (tm_pick l Δ hE (p := p) (m := 6) (by omega) (by decide)) mY_L_pick kw_909 kw_910 ⟨Nat.le_of_ble_eq_true rfl, Nat.le_of_ble_eq_true rfl, Nat.le_of_ble_eq_true rfl, Nat.le_of_ble_eq_true rfl⟩ rfl (Nat.le_of_ble_eq_true rfl) dL_statement_4 rfl (fun x2 e3 _ hq => ?_)
  rw [hq.1, hq.2]
  have pr1 := pk_rng (L := L) (xs := xs) (p := p) (m := 6) (by decide)
  refine T.istore_n (pc := 7) (lv' := [(2, .int (sJ (pk L xs p 6))), (0, .ref b), (1, .int (sJ p))]) hG dL_statement_7 rfl (by decide) rfl ?_
  refine T.iload_n (pc := 8) hG dL_statement_8 rfl 0 rfl ?_
  refine T.iconst (pc := 9) hG dL_statement_9 ?_
  refine T.icmp_ge (pc := 10) (tgt := 23) hG (sR_b (by omega)) (sR_b (by omega)) dL_statement_10 (by decide) (fun q0 => ?_) (fun q0 => ?_)
  · refine T.iload_n (pc := 23) hG dL_statement_23 rfl 0 rfl ?_
    refine T.iconst (pc := 24) hG dL_statement_24 ?_
    refine T.icmp_ge (pc := 25) (tgt := 38) hG (sR_b (by omega)) (sR_b (by omega)) dL_statement_25 (by decide) (fun q1 => ?_) (fun q1 => ?_)
    · refine T.ldcS (pc := 38) (k := 10) (tx := ">") hG (by decide) dL_statement_38 ?_
      refine T.astore_n (pc := 40) (lv' := [(3, .ref (aK Δ 10)), (2, .int (sJ (pk L xs p 6))), (0, .ref b), (1, .int (sJ p))]) hG dL_statement_40 rfl (by decide) rfl ?_
      refine T.new (pc := 41) (ci := 14) (e := tsb none 0) hG hin_J4 rfl tyJ4_ok kw_1471 kw_1472 kw_130 rfl defJ4 ⟨Nat.le_of_ble_eq_true rfl, Nat.le_of_ble_eq_true rfl⟩ dL_statement_41 (fun e4 h5 o6 n7 => ?_)
      have p8 : ∀ j, j < es.length → e4[j]? = es[j]? := fun j hj => (o6 j (by omega)).trans ((fun _ _ => rfl) j hj)
      refine T.dup (pc := 44) hG dL_statement_44 rfl ?_
      refine T.callI (pc := 45) (As := []) (stk := [.ref (tA Δ es.length)]) hG (tm_sbN l Δ h5) mY_J4_init_da8c8 rfl kw_1473 kw_1474 ⟨Nat.le_of_ble_eq_true rfl, Nat.le_of_ble_eq_true rfl, Nat.le_of_ble_eq_true rfl, Nat.le_of_ble_eq_true rfl⟩ rfl (Nat.le_of_ble_eq_true rfl) dL_statement_45 rfl (fun e9 hq => ?_)
      obtain ⟨h10, o11, n12⟩ := hq
      have p13 : ∀ j, j < es.length → e9[j]? = es[j]? := fun j hj => (o11 j (by omega)).trans (p8 j hj)
      refine T.aload_n (pc := 48) hG dL_statement_48 rfl 0 rfl ?_
      refine T.callVr (pc := 49) (C := "java/lang/StringBuilder") (As := [.ref (aK Δ 10)]) (stk := []) hG (tm_sbS l Δ hD (t := []) (u := [62]) h10 (TX.cst 10 rfl) (asc_c rfl) (by (try simp only [List.length_append, List.length_cons, List.length_nil]); omega) (Or.inl (Nat.zero_le _))) mY_J4_append_15ec4 kw_1503 kw_1504 (tWd.of kw_1505) (SBT.rv h10) ⟨Nat.le_of_ble_eq_true rfl, Nat.le_of_ble_eq_true rfl, Nat.le_of_ble_eq_true rfl, Nat.le_of_ble_eq_true rfl⟩ rfl (Nat.le_of_ble_eq_true rfl) dL_statement_49 rfl (fun b14 e15 hq => ?_)
      obtain ⟨hb9, h16, o17, n18⟩ := hq
      rw [hb9]
      have p19 : ∀ j, j < es.length → e15[j]? = es[j]? := fun j hj => (o17 j (by omega)).trans (p13 j hj)
      refine T.ldcS (pc := 52) (k := 11) (tx := "=") hG (by decide) dL_statement_52 ?_
      refine T.callVr (pc := 54) (C := "java/lang/StringBuilder") (As := [.ref (aK Δ 11)]) (stk := []) hG (tm_sbS l Δ hD (t := ([] ++ [62])) (u := [61]) h16 (TX.cst 11 rfl) (asc_c rfl) (by (try simp only [List.length_append, List.length_cons, List.length_nil]); omega) (Or.inl (Nat.zero_le _))) mY_J4_append_15ec4 kw_1503 kw_1504 (tWd.of kw_1505) (SBT.rv h16) ⟨Nat.le_of_ble_eq_true rfl, Nat.le_of_ble_eq_true rfl, Nat.le_of_ble_eq_true rfl, Nat.le_of_ble_eq_true rfl⟩ rfl (Nat.le_of_ble_eq_true rfl) dL_statement_54 rfl (fun b20 e21 hq => ?_)
      obtain ⟨hb9, h22, o23, n24⟩ := hq
      rw [hb9]
      have p25 : ∀ j, j < es.length → e21[j]? = es[j]? := fun j hj => (o23 j (by omega)).trans (p19 j hj)
      refine T.aload_n (pc := 57) hG dL_statement_57 rfl 2 rfl ?_
      refine T.iload_n (pc := 58) hG dL_statement_58 rfl 3 rfl ?_
      refine T.iconst (pc := 59) hG dL_statement_59 ?_
      refine T.iaddz (pc := 60) (p + 5) hG dL_statement_60 (by omega) (sR_b (by omega)) ?_
      refine T.callSr (pc := 61) (As := [.ref b, .int (sJ (p + 5))]) (stk := [.ref (tA Δ es.length)]) hG (tm_operand l Δ hE hD (p := p + 5) (by omega)) mY_L_operand kw_1686 kw_1687 ⟨Nat.le_of_ble_eq_true rfl, Nat.le_of_ble_eq_true rfl, Nat.le_of_ble_eq_true rfl, Nat.le_of_ble_eq_true rfl⟩ rfl (Nat.le_of_ble_eq_true rfl) dL_statement_61 rfl (fun b26 e27 hq => ?_)
      obtain ⟨h28, o29, n30⟩ := hq
      have h31 := SBT.mono h22 o29
      have p32 : ∀ j, j < es.length → e27[j]? = es[j]? := fun j hj => (o29 j (by omega)).trans (p25 j hj)
      have l33 := (okT.opd (L := L) (xs := xs) (p := p + 5)).1
      refine T.callVr (pc := 64) (C := "java/lang/StringBuilder") (As := [.ref b26]) (stk := []) hG (tm_sbS l Δ hD (t := (([] ++ [62]) ++ [61])) (u := (opdT L xs (p + 5))) h31 h28 (okT.opd (L := L) (xs := xs) (p := p + 5)).2 (by (try simp only [List.length_append, List.length_cons, List.length_nil]); omega) (by omega)) mY_J4_append_15ec4 kw_1503 kw_1504 (tWd.of kw_1505) (SBT.rv h31) ⟨Nat.le_of_ble_eq_true rfl, Nat.le_of_ble_eq_true rfl, Nat.le_of_ble_eq_true rfl, Nat.le_of_ble_eq_true rfl⟩ rfl (Nat.le_of_ble_eq_true rfl) dL_statement_64 rfl (fun b34 e35 hq => ?_)
      obtain ⟨hb9, h36, o37, n38⟩ := hq
      rw [hb9]
      have p39 : ∀ j, j < es.length → e35[j]? = es[j]? := fun j hj => (o37 j (by omega)).trans (p32 j hj)
      refine T.callVr (pc := 67) (C := "java/lang/StringBuilder") (As := []) (stk := []) hG (tm_sbTS l Δ hD h36 (by (try simp only [List.length_append, List.length_cons, List.length_nil]); omega)) mY_J4_toString_0e30d kw_1630 kw_1631 (tWd.of kw_1632) (SBT.rv h36) ⟨Nat.le_of_ble_eq_true rfl, Nat.le_of_ble_eq_true rfl, Nat.le_of_ble_eq_true rfl, Nat.le_of_ble_eq_true rfl⟩ rfl (Nat.le_of_ble_eq_true rfl) dL_statement_67 rfl (fun b40 e41 hq => ?_)
      obtain ⟨h42, o43, n44⟩ := hq
      have h45 := SBT.mono h36 o43
      have p46 : ∀ j, j < es.length → e41[j]? = es[j]? := fun j hj => (o43 j (by omega)).trans (p39 j hj)
      refine T.astore (pc := 70) (lv' := [(4, .ref b40), (3, .ref (aK Δ 10)), (2, .int (sJ (pk L xs p 6))), (0, .ref b), (1, .int (sJ p))]) hG dL_statement_70 (by decide) rfl ?_
      refine T.aload_n (pc := 72) hG dL_statement_72 rfl 3 rfl ?_
      refine T.iload_n (pc := 73) hG dL_statement_73 rfl 4 rfl ?_
      refine T.bipush (pc := 74) hG dL_statement_74 (by decide) ?_
      refine T.iaddz (pc := 76) (p + 10) hG dL_statement_76 (by omega) (sR_b (by omega)) ?_
      refine T.iconst (pc := 77) hG dL_statement_77 ?_
      refine T.callSi (pc := 78) (As := [.ref b, .int (sJ (p + 10)), .int (sJ 4)]) (stk := []) hG (tm_pick l Δ hE (p := p + 10) (m := 4) (by omega) (by decide)) mY_L_pick kw_909 kw_910 ⟨Nat.le_of_ble_eq_true rfl, Nat.le_of_ble_eq_true rfl, Nat.le_of_ble_eq_true rfl, Nat.le_of_ble_eq_true rfl⟩ rfl (Nat.le_of_ble_eq_true rfl) dL_statement_78 rfl (fun x48 e49 _ hq => ?_)
      rw [hq.1, hq.2]
      have pr47 := pk_rng (L := L) (xs := xs) (p := p + 10) (m := 4) (by decide)
      refine T.if_ne (pc := 81) (tgt := 89) hG (sR_b (by omega)) dL_statement_81 (by decide) (fun q9 => ?_) (fun q9 => ?_)
      · refine T.new (pc := 89) (ci := 14) (e := tsb none 0) hG hin_J4 rfl tyJ4_ok kw_1471 kw_1472 kw_130 rfl defJ4 ⟨Nat.le_of_ble_eq_true rfl, Nat.le_of_ble_eq_true rfl⟩ dL_statement_89 (fun e50 h51 o52 n53 => ?_)
        have h54 := SBT.mono h45 o52
        have h55 := TX.mono h42 o52
        have p56 : ∀ j, j < es.length → e50[j]? = es[j]? := fun j hj => (o52 j (by omega)).trans (p46 j hj)
        refine T.dup (pc := 92) hG dL_statement_92 rfl ?_
        refine T.callI (pc := 93) (As := []) (stk := [.ref (tA Δ e41.length)]) hG (tm_sbN l Δ h51) mY_J4_init_da8c8 rfl kw_1473 kw_1474 ⟨Nat.le_of_ble_eq_true rfl, Nat.le_of_ble_eq_true rfl, Nat.le_of_ble_eq_true rfl, Nat.le_of_ble_eq_true rfl⟩ rfl (Nat.le_of_ble_eq_true rfl) dL_statement_93 rfl (fun e57 hq => ?_)
        obtain ⟨h58, o59, n60⟩ := hq
        have p61 : ∀ j, j < es.length → e57[j]? = es[j]? := fun j hj => (o59 j (by omega)).trans (p56 j hj)
        have h62 := TX.keep h55 h51 (fun j h1 h2 => o59 j (by omega))
        refine T.aload (pc := 96) hG dL_statement_96 0 rfl ?_
        refine T.callVr (pc := 98) (C := "java/lang/StringBuilder") (As := [.ref b40]) (stk := []) hG (tm_sbS l Δ hD (t := []) (u := ((([] ++ [62]) ++ [61]) ++ (opdT L xs (p + 5)))) h58 h62 (asc_app (asc_app (asc_app (asc_c rfl) (asc_c rfl)) (asc_c rfl)) (okT.opd (L := L) (xs := xs) (p := p + 5)).2) (by (try simp only [List.length_append, List.length_cons, List.length_nil]); omega) (by omega)) mY_J4_append_15ec4 kw_1503 kw_1504 (tWd.of kw_1505) (SBT.rv h58) ⟨Nat.le_of_ble_eq_true rfl, Nat.le_of_ble_eq_true rfl, Nat.le_of_ble_eq_true rfl, Nat.le_of_ble_eq_true rfl⟩ rfl (Nat.le_of_ble_eq_true rfl) dL_statement_98 rfl (fun b63 e64 hq => ?_)
        obtain ⟨hb9, h65, o66, n67⟩ := hq
        rw [hb9]
        have p68 : ∀ j, j < es.length → e64[j]? = es[j]? := fun j hj => (o66 j (by omega)).trans (p61 j hj)
        refine T.ldcS (pc := 101) (k := 1) (tx := "+-*&|^l") hG (by decide) dL_statement_101 ?_
        refine T.aload_n (pc := 103) hG dL_statement_103 rfl 3 rfl ?_
        refine T.iload_n (pc := 104) hG dL_statement_104 rfl 4 rfl ?_
        refine T.bipush (pc := 105) hG dL_statement_105 (by decide) ?_
        refine T.iaddz (pc := 107) (p + 11) hG dL_statement_107 (by omega) (sR_b (by omega)) ?_
        refine T.bipush (pc := 108) hG dL_statement_108 (by decide) ?_
        refine T.callSi (pc := 110) (As := [.ref b, .int (sJ (p + 11)), .int (sJ 7)]) (stk := [.ref (aK Δ 1), .ref (tA Δ e41.length)]) hG (tm_pick l Δ hE (p := p + 11) (m := 7) (by omega) (by decide)) mY_L_pick kw_909 kw_910 ⟨Nat.le_of_ble_eq_true rfl, Nat.le_of_ble_eq_true rfl, Nat.le_of_ble_eq_true rfl, Nat.le_of_ble_eq_true rfl⟩ rfl (Nat.le_of_ble_eq_true rfl) dL_statement_110 rfl (fun x70 e71 _ hq => ?_)
        rw [hq.1, hq.2]
        have pr69 := pk_rng (L := L) (xs := xs) (p := p + 11) (m := 7) (by decide)
        refine T.callVi (pc := 113) (C := "java/lang/String") (As := [.int (sJ (pk L xs (p + 11) 7))]) (stk := [.ref (tA Δ e41.length)]) hG (tm_cA l Δ (i := (pk L xs (p + 11) 7)) (by omega)) mY_J0_charAt_5068e kw_1691 kw_1349 (tWd.of kw_1350) (RV.st (ST.const (k := 1) (by decide))) ⟨Nat.le_of_ble_eq_true rfl, Nat.le_of_ble_eq_true rfl, Nat.le_of_ble_eq_true rfl, Nat.le_of_ble_eq_true rfl⟩ rfl (Nat.le_of_ble_eq_true rfl) dL_statement_113 rfl (fun x72 e73 _ hq => ?_)
        rw [hq.1, hq.2]
        have op74 := opsT_ok (k := (pk L xs (p + 11) 7)) (by omega)
        refine T.callVr (pc := 116) (C := "java/lang/StringBuilder") (As := [.int (sJ (opsT.getD (pk L xs (p + 11) 7).toNat 0))]) (stk := []) hG (tm_sbC l Δ hD (t := ([] ++ ((([] ++ [62]) ++ [61]) ++ (opdT L xs (p + 5))))) h65 (c := (opsT.getD (pk L xs (p + 11) 7).toNat 0)) (by omega) (by (try simp only [List.length_append, List.length_cons, List.length_nil]); omega)) mY_J4_append_cf468 kw_1692 kw_1693 (tWd.of kw_1694) (SBT.rv h65) ⟨Nat.le_of_ble_eq_true rfl, Nat.le_of_ble_eq_true rfl, Nat.le_of_ble_eq_true rfl, Nat.le_of_ble_eq_true rfl⟩ rfl (Nat.le_of_ble_eq_true rfl) dL_statement_116 rfl (fun b75 e76 hq => ?_)
        obtain ⟨hb9, h77, o78, n79⟩ := hq
        rw [hb9]
        have p80 : ∀ j, j < es.length → e76[j]? = es[j]? := fun j hj => (o78 j (by omega)).trans (p68 j hj)
        refine T.aload_n (pc := 119) hG dL_statement_119 rfl 3 rfl ?_
        refine T.iload_n (pc := 120) hG dL_statement_120 rfl 4 rfl ?_
        refine T.bipush (pc := 121) hG dL_statement_121 (by decide) ?_
        refine T.iaddz (pc := 123) (p + 12) hG dL_statement_123 (by omega) (sR_b (by omega)) ?_
        refine T.callSr (pc := 124) (As := [.ref b, .int (sJ (p + 12))]) (stk := [.ref (tA Δ e41.length)]) hG (tm_operand l Δ hE hD (p := p + 12) (by omega)) mY_L_operand kw_1686 kw_1687 ⟨Nat.le_of_ble_eq_true rfl, Nat.le_of_ble_eq_true rfl, Nat.le_of_ble_eq_true rfl, Nat.le_of_ble_eq_true rfl⟩ rfl (Nat.le_of_ble_eq_true rfl) dL_statement_124 rfl (fun b81 e82 hq => ?_)
        obtain ⟨h83, o84, n85⟩ := hq
        have h86 := SBT.mono h77 o84
        have p87 : ∀ j, j < es.length → e82[j]? = es[j]? := fun j hj => (o84 j (by omega)).trans (p80 j hj)
        have l88 := (okT.opd (L := L) (xs := xs) (p := p + 12)).1
        refine T.callVr (pc := 127) (C := "java/lang/StringBuilder") (As := [.ref b81]) (stk := []) hG (tm_sbS l Δ hD (t := (([] ++ ((([] ++ [62]) ++ [61]) ++ (opdT L xs (p + 5)))) ++ [(opsT.getD (pk L xs (p + 11) 7).toNat 0)])) (u := (opdT L xs (p + 12))) h86 h83 (okT.opd (L := L) (xs := xs) (p := p + 12)).2 (by (try simp only [List.length_append, List.length_cons, List.length_nil]); omega) (by omega)) mY_J4_append_15ec4 kw_1503 kw_1504 (tWd.of kw_1505) (SBT.rv h86) ⟨Nat.le_of_ble_eq_true rfl, Nat.le_of_ble_eq_true rfl, Nat.le_of_ble_eq_true rfl, Nat.le_of_ble_eq_true rfl⟩ rfl (Nat.le_of_ble_eq_true rfl) dL_statement_127 rfl (fun b89 e90 hq => ?_)
        obtain ⟨hb9, h91, o92, n93⟩ := hq
        rw [hb9]
        have p94 : ∀ j, j < es.length → e90[j]? = es[j]? := fun j hj => (o92 j (by omega)).trans (p87 j hj)
        refine T.callVr (pc := 130) (C := "java/lang/StringBuilder") (As := []) (stk := []) hG (tm_sbTS l Δ hD h91 (by (try simp only [List.length_append, List.length_cons, List.length_nil]); omega)) mY_J4_toString_0e30d kw_1630 kw_1631 (tWd.of kw_1632) (SBT.rv h91) ⟨Nat.le_of_ble_eq_true rfl, Nat.le_of_ble_eq_true rfl, Nat.le_of_ble_eq_true rfl, Nat.le_of_ble_eq_true rfl⟩ rfl (Nat.le_of_ble_eq_true rfl) dL_statement_130 rfl (fun b95 e96 hq => ?_)
        obtain ⟨h97, o98, n99⟩ := hq
        have h100 := SBT.mono h91 o98
        have p101 : ∀ j, j < es.length → e96[j]? = es[j]? := fun j hj => (o98 j (by omega)).trans (p94 j hj)
        have h1 : trgT L xs p = [62] := (if_neg (by omega)).trans (if_neg (by omega))
        have ht : stmT L xs p = ((([] ++ ((([] ++ [62]) ++ [61]) ++ (opdT L xs (p + 5)))) ++ [(opsT.getD (pk L xs (p + 11) 7).toNat 0)]) ++ (opdT L xs (p + 12))) := by
          unfold stmT
          simp only [if_neg q9, h1, List.nil_append]
        exact fin dL_statement_133 (Nat.le_of_ble_eq_true rfl) (Nat.le_of_ble_eq_true rfl) ⟨by rw [ht]; exact TX.wide h97 (by omega) (by omega), p101, by omega⟩
      · refine T.aload (pc := 84) hG dL_statement_84 0 rfl ?_
        refine T.goto (pc := 86) (tgt := 133) hG dL_statement_86 (by decide) ?_
        have h1 : trgT L xs p = [62] := (if_neg (by omega)).trans (if_neg (by omega))
        have ht : stmT L xs p = ((([] ++ [62]) ++ [61]) ++ (opdT L xs (p + 5))) := by
          unfold stmT
          simp only [if_pos q9, h1, List.nil_append]
        exact fin dL_statement_133 (Nat.le_of_ble_eq_true rfl) (Nat.le_of_ble_eq_true rfl) ⟨by rw [ht]; exact TX.wide h42 (by omega) (by omega), p46, by omega⟩
    · refine T.aload_n (pc := 28) hG dL_statement_28 rfl 1 rfl ?_
      refine T.iload_n (pc := 29) hG dL_statement_29 rfl 2 rfl ?_
      refine T.iconst (pc := 30) hG dL_statement_30 ?_
      refine T.iaddz (pc := 31) (p + 1) hG dL_statement_31 (by omega) (sR_b (by omega)) ?_
      refine T.callSr (pc := 32) (As := [.ref b, .int (sJ (p + 1))]) (stk := []) hG (tm_memory l Δ hE hD (p := p + 1) (by omega)) mY_L_memory kw_1468 kw_1469 ⟨Nat.le_of_ble_eq_true rfl, Nat.le_of_ble_eq_true rfl, Nat.le_of_ble_eq_true rfl, Nat.le_of_ble_eq_true rfl⟩ rfl (Nat.le_of_ble_eq_true rfl) dL_statement_32 rfl (fun b102 e103 hq => ?_)
      obtain ⟨h104, o105, n106⟩ := hq
      have p107 : ∀ j, j < es.length → e103[j]? = es[j]? := fun j hj => (o105 j (by omega)).trans ((fun _ _ => rfl) j hj)
      have l108 := (okT.mem (L := L) (xs := xs) (p := p + 1)).1
      refine T.goto (pc := 35) (tgt := 40) hG dL_statement_35 (by decide) ?_
      refine T.astore_n (pc := 40) (lv' := [(3, .ref b102), (2, .int (sJ (pk L xs p 6))), (0, .ref b), (1, .int (sJ p))]) hG dL_statement_40 rfl (by decide) rfl ?_
      refine T.new (pc := 41) (ci := 14) (e := tsb none 0) hG hin_J4 rfl tyJ4_ok kw_1471 kw_1472 kw_130 rfl defJ4 ⟨Nat.le_of_ble_eq_true rfl, Nat.le_of_ble_eq_true rfl⟩ dL_statement_41 (fun e109 h110 o111 n112 => ?_)
      have h113 := TX.mono h104 o111
      have p114 : ∀ j, j < es.length → e109[j]? = es[j]? := fun j hj => (o111 j (by omega)).trans (p107 j hj)
      refine T.dup (pc := 44) hG dL_statement_44 rfl ?_
      refine T.callI (pc := 45) (As := []) (stk := [.ref (tA Δ e103.length)]) hG (tm_sbN l Δ h110) mY_J4_init_da8c8 rfl kw_1473 kw_1474 ⟨Nat.le_of_ble_eq_true rfl, Nat.le_of_ble_eq_true rfl, Nat.le_of_ble_eq_true rfl, Nat.le_of_ble_eq_true rfl⟩ rfl (Nat.le_of_ble_eq_true rfl) dL_statement_45 rfl (fun e115 hq => ?_)
      obtain ⟨h116, o117, n118⟩ := hq
      have p119 : ∀ j, j < es.length → e115[j]? = es[j]? := fun j hj => (o117 j (by omega)).trans (p114 j hj)
      have h120 := TX.keep h113 h110 (fun j h1 h2 => o117 j (by omega))
      refine T.aload_n (pc := 48) hG dL_statement_48 rfl 0 rfl ?_
      refine T.callVr (pc := 49) (C := "java/lang/StringBuilder") (As := [.ref b102]) (stk := []) hG (tm_sbS l Δ hD (t := []) (u := (memT L xs (p + 1))) h116 h120 (okT.mem (L := L) (xs := xs) (p := p + 1)).2 (by (try simp only [List.length_append, List.length_cons, List.length_nil]); omega) (by omega)) mY_J4_append_15ec4 kw_1503 kw_1504 (tWd.of kw_1505) (SBT.rv h116) ⟨Nat.le_of_ble_eq_true rfl, Nat.le_of_ble_eq_true rfl, Nat.le_of_ble_eq_true rfl, Nat.le_of_ble_eq_true rfl⟩ rfl (Nat.le_of_ble_eq_true rfl) dL_statement_49 rfl (fun b121 e122 hq => ?_)
      obtain ⟨hb9, h123, o124, n125⟩ := hq
      rw [hb9]
      have p126 : ∀ j, j < es.length → e122[j]? = es[j]? := fun j hj => (o124 j (by omega)).trans (p119 j hj)
      refine T.ldcS (pc := 52) (k := 11) (tx := "=") hG (by decide) dL_statement_52 ?_
      refine T.callVr (pc := 54) (C := "java/lang/StringBuilder") (As := [.ref (aK Δ 11)]) (stk := []) hG (tm_sbS l Δ hD (t := ([] ++ (memT L xs (p + 1)))) (u := [61]) h123 (TX.cst 11 rfl) (asc_c rfl) (by (try simp only [List.length_append, List.length_cons, List.length_nil]); omega) (Or.inl (Nat.zero_le _))) mY_J4_append_15ec4 kw_1503 kw_1504 (tWd.of kw_1505) (SBT.rv h123) ⟨Nat.le_of_ble_eq_true rfl, Nat.le_of_ble_eq_true rfl, Nat.le_of_ble_eq_true rfl, Nat.le_of_ble_eq_true rfl⟩ rfl (Nat.le_of_ble_eq_true rfl) dL_statement_54 rfl (fun b127 e128 hq => ?_)
      obtain ⟨hb9, h129, o130, n131⟩ := hq
      rw [hb9]
      have p132 : ∀ j, j < es.length → e128[j]? = es[j]? := fun j hj => (o130 j (by omega)).trans (p126 j hj)
      refine T.aload_n (pc := 57) hG dL_statement_57 rfl 2 rfl ?_
      refine T.iload_n (pc := 58) hG dL_statement_58 rfl 3 rfl ?_
      refine T.iconst (pc := 59) hG dL_statement_59 ?_
      refine T.iaddz (pc := 60) (p + 5) hG dL_statement_60 (by omega) (sR_b (by omega)) ?_
      refine T.callSr (pc := 61) (As := [.ref b, .int (sJ (p + 5))]) (stk := [.ref (tA Δ e103.length)]) hG (tm_operand l Δ hE hD (p := p + 5) (by omega)) mY_L_operand kw_1686 kw_1687 ⟨Nat.le_of_ble_eq_true rfl, Nat.le_of_ble_eq_true rfl, Nat.le_of_ble_eq_true rfl, Nat.le_of_ble_eq_true rfl⟩ rfl (Nat.le_of_ble_eq_true rfl) dL_statement_61 rfl (fun b133 e134 hq => ?_)
      obtain ⟨h135, o136, n137⟩ := hq
      have h138 := SBT.mono h129 o136
      have p139 : ∀ j, j < es.length → e134[j]? = es[j]? := fun j hj => (o136 j (by omega)).trans (p132 j hj)
      have l140 := (okT.opd (L := L) (xs := xs) (p := p + 5)).1
      refine T.callVr (pc := 64) (C := "java/lang/StringBuilder") (As := [.ref b133]) (stk := []) hG (tm_sbS l Δ hD (t := (([] ++ (memT L xs (p + 1))) ++ [61])) (u := (opdT L xs (p + 5))) h138 h135 (okT.opd (L := L) (xs := xs) (p := p + 5)).2 (by (try simp only [List.length_append, List.length_cons, List.length_nil]); omega) (by omega)) mY_J4_append_15ec4 kw_1503 kw_1504 (tWd.of kw_1505) (SBT.rv h138) ⟨Nat.le_of_ble_eq_true rfl, Nat.le_of_ble_eq_true rfl, Nat.le_of_ble_eq_true rfl, Nat.le_of_ble_eq_true rfl⟩ rfl (Nat.le_of_ble_eq_true rfl) dL_statement_64 rfl (fun b141 e142 hq => ?_)
      obtain ⟨hb9, h143, o144, n145⟩ := hq
      rw [hb9]
      have p146 : ∀ j, j < es.length → e142[j]? = es[j]? := fun j hj => (o144 j (by omega)).trans (p139 j hj)
      refine T.callVr (pc := 67) (C := "java/lang/StringBuilder") (As := []) (stk := []) hG (tm_sbTS l Δ hD h143 (by (try simp only [List.length_append, List.length_cons, List.length_nil]); omega)) mY_J4_toString_0e30d kw_1630 kw_1631 (tWd.of kw_1632) (SBT.rv h143) ⟨Nat.le_of_ble_eq_true rfl, Nat.le_of_ble_eq_true rfl, Nat.le_of_ble_eq_true rfl, Nat.le_of_ble_eq_true rfl⟩ rfl (Nat.le_of_ble_eq_true rfl) dL_statement_67 rfl (fun b147 e148 hq => ?_)
      obtain ⟨h149, o150, n151⟩ := hq
      have h152 := SBT.mono h143 o150
      have p153 : ∀ j, j < es.length → e148[j]? = es[j]? := fun j hj => (o150 j (by omega)).trans (p146 j hj)
      refine T.astore (pc := 70) (lv' := [(4, .ref b147), (3, .ref b102), (2, .int (sJ (pk L xs p 6))), (0, .ref b), (1, .int (sJ p))]) hG dL_statement_70 (by decide) rfl ?_
      refine T.aload_n (pc := 72) hG dL_statement_72 rfl 3 rfl ?_
      refine T.iload_n (pc := 73) hG dL_statement_73 rfl 4 rfl ?_
      refine T.bipush (pc := 74) hG dL_statement_74 (by decide) ?_
      refine T.iaddz (pc := 76) (p + 10) hG dL_statement_76 (by omega) (sR_b (by omega)) ?_
      refine T.iconst (pc := 77) hG dL_statement_77 ?_
      refine T.callSi (pc := 78) (As := [.ref b, .int (sJ (p + 10)), .int (sJ 4)]) (stk := []) hG (tm_pick l Δ hE (p := p + 10) (m := 4) (by omega) (by decide)) mY_L_pick kw_909 kw_910 ⟨Nat.le_of_ble_eq_true rfl, Nat.le_of_ble_eq_true rfl, Nat.le_of_ble_eq_true rfl, Nat.le_of_ble_eq_true rfl⟩ rfl (Nat.le_of_ble_eq_true rfl) dL_statement_78 rfl (fun x155 e156 _ hq => ?_)
      rw [hq.1, hq.2]
      have pr154 := pk_rng (L := L) (xs := xs) (p := p + 10) (m := 4) (by decide)
      refine T.if_ne (pc := 81) (tgt := 89) hG (sR_b (by omega)) dL_statement_81 (by decide) (fun q9 => ?_) (fun q9 => ?_)
      · refine T.new (pc := 89) (ci := 14) (e := tsb none 0) hG hin_J4 rfl tyJ4_ok kw_1471 kw_1472 kw_130 rfl defJ4 ⟨Nat.le_of_ble_eq_true rfl, Nat.le_of_ble_eq_true rfl⟩ dL_statement_89 (fun e157 h158 o159 n160 => ?_)
        have h161 := SBT.mono h152 o159
        have h162 := TX.mono h149 o159
        have p163 : ∀ j, j < es.length → e157[j]? = es[j]? := fun j hj => (o159 j (by omega)).trans (p153 j hj)
        refine T.dup (pc := 92) hG dL_statement_92 rfl ?_
        refine T.callI (pc := 93) (As := []) (stk := [.ref (tA Δ e148.length)]) hG (tm_sbN l Δ h158) mY_J4_init_da8c8 rfl kw_1473 kw_1474 ⟨Nat.le_of_ble_eq_true rfl, Nat.le_of_ble_eq_true rfl, Nat.le_of_ble_eq_true rfl, Nat.le_of_ble_eq_true rfl⟩ rfl (Nat.le_of_ble_eq_true rfl) dL_statement_93 rfl (fun e164 hq => ?_)
        obtain ⟨h165, o166, n167⟩ := hq
        have p168 : ∀ j, j < es.length → e164[j]? = es[j]? := fun j hj => (o166 j (by omega)).trans (p163 j hj)
        have h169 := TX.keep h162 h158 (fun j h1 h2 => o166 j (by omega))
        refine T.aload (pc := 96) hG dL_statement_96 0 rfl ?_
        refine T.callVr (pc := 98) (C := "java/lang/StringBuilder") (As := [.ref b147]) (stk := []) hG (tm_sbS l Δ hD (t := []) (u := ((([] ++ (memT L xs (p + 1))) ++ [61]) ++ (opdT L xs (p + 5)))) h165 h169 (asc_app (asc_app (asc_app (asc_c rfl) (okT.mem (L := L) (xs := xs) (p := p + 1)).2) (asc_c rfl)) (okT.opd (L := L) (xs := xs) (p := p + 5)).2) (by (try simp only [List.length_append, List.length_cons, List.length_nil]); omega) (by omega)) mY_J4_append_15ec4 kw_1503 kw_1504 (tWd.of kw_1505) (SBT.rv h165) ⟨Nat.le_of_ble_eq_true rfl, Nat.le_of_ble_eq_true rfl, Nat.le_of_ble_eq_true rfl, Nat.le_of_ble_eq_true rfl⟩ rfl (Nat.le_of_ble_eq_true rfl) dL_statement_98 rfl (fun b170 e171 hq => ?_)
        obtain ⟨hb9, h172, o173, n174⟩ := hq
        rw [hb9]
        have p175 : ∀ j, j < es.length → e171[j]? = es[j]? := fun j hj => (o173 j (by omega)).trans (p168 j hj)
        refine T.ldcS (pc := 101) (k := 1) (tx := "+-*&|^l") hG (by decide) dL_statement_101 ?_
        refine T.aload_n (pc := 103) hG dL_statement_103 rfl 3 rfl ?_
        refine T.iload_n (pc := 104) hG dL_statement_104 rfl 4 rfl ?_
        refine T.bipush (pc := 105) hG dL_statement_105 (by decide) ?_
        refine T.iaddz (pc := 107) (p + 11) hG dL_statement_107 (by omega) (sR_b (by omega)) ?_
        refine T.bipush (pc := 108) hG dL_statement_108 (by decide) ?_
        refine T.callSi (pc := 110) (As := [.ref b, .int (sJ (p + 11)), .int (sJ 7)]) (stk := [.ref (aK Δ 1), .ref (tA Δ e148.length)]) hG (tm_pick l Δ hE (p := p + 11) (m := 7) (by omega) (by decide)) mY_L_pick kw_909 kw_910 ⟨Nat.le_of_ble_eq_true rfl, Nat.le_of_ble_eq_true rfl, Nat.le_of_ble_eq_true rfl, Nat.le_of_ble_eq_true rfl⟩ rfl (Nat.le_of_ble_eq_true rfl) dL_statement_110 rfl (fun x177 e178 _ hq => ?_)
        rw [hq.1, hq.2]
        have pr176 := pk_rng (L := L) (xs := xs) (p := p + 11) (m := 7) (by decide)
        refine T.callVi (pc := 113) (C := "java/lang/String") (As := [.int (sJ (pk L xs (p + 11) 7))]) (stk := [.ref (tA Δ e148.length)]) hG (tm_cA l Δ (i := (pk L xs (p + 11) 7)) (by omega)) mY_J0_charAt_5068e kw_1691 kw_1349 (tWd.of kw_1350) (RV.st (ST.const (k := 1) (by decide))) ⟨Nat.le_of_ble_eq_true rfl, Nat.le_of_ble_eq_true rfl, Nat.le_of_ble_eq_true rfl, Nat.le_of_ble_eq_true rfl⟩ rfl (Nat.le_of_ble_eq_true rfl) dL_statement_113 rfl (fun x179 e180 _ hq => ?_)
        rw [hq.1, hq.2]
        have op181 := opsT_ok (k := (pk L xs (p + 11) 7)) (by omega)
        refine T.callVr (pc := 116) (C := "java/lang/StringBuilder") (As := [.int (sJ (opsT.getD (pk L xs (p + 11) 7).toNat 0))]) (stk := []) hG (tm_sbC l Δ hD (t := ([] ++ ((([] ++ (memT L xs (p + 1))) ++ [61]) ++ (opdT L xs (p + 5))))) h172 (c := (opsT.getD (pk L xs (p + 11) 7).toNat 0)) (by omega) (by (try simp only [List.length_append, List.length_cons, List.length_nil]); omega)) mY_J4_append_cf468 kw_1692 kw_1693 (tWd.of kw_1694) (SBT.rv h172) ⟨Nat.le_of_ble_eq_true rfl, Nat.le_of_ble_eq_true rfl, Nat.le_of_ble_eq_true rfl, Nat.le_of_ble_eq_true rfl⟩ rfl (Nat.le_of_ble_eq_true rfl) dL_statement_116 rfl (fun b182 e183 hq => ?_)
        obtain ⟨hb9, h184, o185, n186⟩ := hq
        rw [hb9]
        have p187 : ∀ j, j < es.length → e183[j]? = es[j]? := fun j hj => (o185 j (by omega)).trans (p175 j hj)
        refine T.aload_n (pc := 119) hG dL_statement_119 rfl 3 rfl ?_
        refine T.iload_n (pc := 120) hG dL_statement_120 rfl 4 rfl ?_
        refine T.bipush (pc := 121) hG dL_statement_121 (by decide) ?_
        refine T.iaddz (pc := 123) (p + 12) hG dL_statement_123 (by omega) (sR_b (by omega)) ?_
        refine T.callSr (pc := 124) (As := [.ref b, .int (sJ (p + 12))]) (stk := [.ref (tA Δ e148.length)]) hG (tm_operand l Δ hE hD (p := p + 12) (by omega)) mY_L_operand kw_1686 kw_1687 ⟨Nat.le_of_ble_eq_true rfl, Nat.le_of_ble_eq_true rfl, Nat.le_of_ble_eq_true rfl, Nat.le_of_ble_eq_true rfl⟩ rfl (Nat.le_of_ble_eq_true rfl) dL_statement_124 rfl (fun b188 e189 hq => ?_)
        obtain ⟨h190, o191, n192⟩ := hq
        have h193 := SBT.mono h184 o191
        have p194 : ∀ j, j < es.length → e189[j]? = es[j]? := fun j hj => (o191 j (by omega)).trans (p187 j hj)
        have l195 := (okT.opd (L := L) (xs := xs) (p := p + 12)).1
        refine T.callVr (pc := 127) (C := "java/lang/StringBuilder") (As := [.ref b188]) (stk := []) hG (tm_sbS l Δ hD (t := (([] ++ ((([] ++ (memT L xs (p + 1))) ++ [61]) ++ (opdT L xs (p + 5)))) ++ [(opsT.getD (pk L xs (p + 11) 7).toNat 0)])) (u := (opdT L xs (p + 12))) h193 h190 (okT.opd (L := L) (xs := xs) (p := p + 12)).2 (by (try simp only [List.length_append, List.length_cons, List.length_nil]); omega) (by omega)) mY_J4_append_15ec4 kw_1503 kw_1504 (tWd.of kw_1505) (SBT.rv h193) ⟨Nat.le_of_ble_eq_true rfl, Nat.le_of_ble_eq_true rfl, Nat.le_of_ble_eq_true rfl, Nat.le_of_ble_eq_true rfl⟩ rfl (Nat.le_of_ble_eq_true rfl) dL_statement_127 rfl (fun b196 e197 hq => ?_)
        obtain ⟨hb9, h198, o199, n200⟩ := hq
        rw [hb9]
        have p201 : ∀ j, j < es.length → e197[j]? = es[j]? := fun j hj => (o199 j (by omega)).trans (p194 j hj)
        refine T.callVr (pc := 130) (C := "java/lang/StringBuilder") (As := []) (stk := []) hG (tm_sbTS l Δ hD h198 (by (try simp only [List.length_append, List.length_cons, List.length_nil]); omega)) mY_J4_toString_0e30d kw_1630 kw_1631 (tWd.of kw_1632) (SBT.rv h198) ⟨Nat.le_of_ble_eq_true rfl, Nat.le_of_ble_eq_true rfl, Nat.le_of_ble_eq_true rfl, Nat.le_of_ble_eq_true rfl⟩ rfl (Nat.le_of_ble_eq_true rfl) dL_statement_130 rfl (fun b202 e203 hq => ?_)
        obtain ⟨h204, o205, n206⟩ := hq
        have h207 := SBT.mono h198 o205
        have p208 : ∀ j, j < es.length → e203[j]? = es[j]? := fun j hj => (o205 j (by omega)).trans (p201 j hj)
        have h1 : trgT L xs p = (memT L xs (p + 1)) := (if_neg (by omega)).trans (if_pos (by omega))
        have ht : stmT L xs p = ((([] ++ ((([] ++ (memT L xs (p + 1))) ++ [61]) ++ (opdT L xs (p + 5)))) ++ [(opsT.getD (pk L xs (p + 11) 7).toNat 0)]) ++ (opdT L xs (p + 12))) := by
          unfold stmT
          simp only [if_neg q9, h1, List.nil_append]
        exact fin dL_statement_133 (Nat.le_of_ble_eq_true rfl) (Nat.le_of_ble_eq_true rfl) ⟨by rw [ht]; exact TX.wide h204 (by omega) (by omega), p208, by omega⟩
      · refine T.aload (pc := 84) hG dL_statement_84 0 rfl ?_
        refine T.goto (pc := 86) (tgt := 133) hG dL_statement_86 (by decide) ?_
        have h1 : trgT L xs p = (memT L xs (p + 1)) := (if_neg (by omega)).trans (if_pos (by omega))
        have ht : stmT L xs p = ((([] ++ (memT L xs (p + 1))) ++ [61]) ++ (opdT L xs (p + 5))) := by
          unfold stmT
          simp only [if_pos q9, h1, List.nil_append]
        exact fin dL_statement_133 (Nat.le_of_ble_eq_true rfl) (Nat.le_of_ble_eq_true rfl) ⟨by rw [ht]; exact TX.wide h149 (by omega) (by omega), p153, by omega⟩
  · refine T.aload_n (pc := 13) hG dL_statement_13 rfl 1 rfl ?_
    refine T.iload_n (pc := 14) hG dL_statement_14 rfl 2 rfl ?_
    refine T.iconst (pc := 15) hG dL_statement_15 ?_
    refine T.iaddz (pc := 16) (p + 1) hG dL_statement_16 (by omega) (sR_b (by omega)) ?_
    refine T.callSr (pc := 17) (As := [.ref b, .int (sJ (p + 1))]) (stk := []) hG (tm_register l Δ hE hD (p := p + 1) (by omega)) mY_L_register kw_1438 kw_1439 ⟨Nat.le_of_ble_eq_true rfl, Nat.le_of_ble_eq_true rfl, Nat.le_of_ble_eq_true rfl, Nat.le_of_ble_eq_true rfl⟩ rfl (Nat.le_of_ble_eq_true rfl) dL_statement_17 rfl (fun b209 e210 hq => ?_)
    obtain ⟨h211, o212, n213⟩ := hq
    have p214 : ∀ j, j < es.length → e210[j]? = es[j]? := fun j hj => (o212 j (by omega)).trans ((fun _ _ => rfl) j hj)
    have l215 := (okT.reg (L := L) (xs := xs) (p := p + 1)).1
    refine T.goto (pc := 20) (tgt := 40) hG dL_statement_20 (by decide) ?_
    refine T.astore_n (pc := 40) (lv' := [(3, .ref b209), (2, .int (sJ (pk L xs p 6))), (0, .ref b), (1, .int (sJ p))]) hG dL_statement_40 rfl (by decide) rfl ?_
    refine T.new (pc := 41) (ci := 14) (e := tsb none 0) hG hin_J4 rfl tyJ4_ok kw_1471 kw_1472 kw_130 rfl defJ4 ⟨Nat.le_of_ble_eq_true rfl, Nat.le_of_ble_eq_true rfl⟩ dL_statement_41 (fun e216 h217 o218 n219 => ?_)
    have h220 := TX.mono h211 o218
    have p221 : ∀ j, j < es.length → e216[j]? = es[j]? := fun j hj => (o218 j (by omega)).trans (p214 j hj)
    refine T.dup (pc := 44) hG dL_statement_44 rfl ?_
    refine T.callI (pc := 45) (As := []) (stk := [.ref (tA Δ e210.length)]) hG (tm_sbN l Δ h217) mY_J4_init_da8c8 rfl kw_1473 kw_1474 ⟨Nat.le_of_ble_eq_true rfl, Nat.le_of_ble_eq_true rfl, Nat.le_of_ble_eq_true rfl, Nat.le_of_ble_eq_true rfl⟩ rfl (Nat.le_of_ble_eq_true rfl) dL_statement_45 rfl (fun e222 hq => ?_)
    obtain ⟨h223, o224, n225⟩ := hq
    have p226 : ∀ j, j < es.length → e222[j]? = es[j]? := fun j hj => (o224 j (by omega)).trans (p221 j hj)
    have h227 := TX.keep h220 h217 (fun j h1 h2 => o224 j (by omega))
    refine T.aload_n (pc := 48) hG dL_statement_48 rfl 0 rfl ?_
    refine T.callVr (pc := 49) (C := "java/lang/StringBuilder") (As := [.ref b209]) (stk := []) hG (tm_sbS l Δ hD (t := []) (u := (regT L xs (p + 1))) h223 h227 (okT.reg (L := L) (xs := xs) (p := p + 1)).2 (by (try simp only [List.length_append, List.length_cons, List.length_nil]); omega) (by omega)) mY_J4_append_15ec4 kw_1503 kw_1504 (tWd.of kw_1505) (SBT.rv h223) ⟨Nat.le_of_ble_eq_true rfl, Nat.le_of_ble_eq_true rfl, Nat.le_of_ble_eq_true rfl, Nat.le_of_ble_eq_true rfl⟩ rfl (Nat.le_of_ble_eq_true rfl) dL_statement_49 rfl (fun b228 e229 hq => ?_)
    obtain ⟨hb9, h230, o231, n232⟩ := hq
    rw [hb9]
    have p233 : ∀ j, j < es.length → e229[j]? = es[j]? := fun j hj => (o231 j (by omega)).trans (p226 j hj)
    refine T.ldcS (pc := 52) (k := 11) (tx := "=") hG (by decide) dL_statement_52 ?_
    refine T.callVr (pc := 54) (C := "java/lang/StringBuilder") (As := [.ref (aK Δ 11)]) (stk := []) hG (tm_sbS l Δ hD (t := ([] ++ (regT L xs (p + 1)))) (u := [61]) h230 (TX.cst 11 rfl) (asc_c rfl) (by (try simp only [List.length_append, List.length_cons, List.length_nil]); omega) (Or.inl (Nat.zero_le _))) mY_J4_append_15ec4 kw_1503 kw_1504 (tWd.of kw_1505) (SBT.rv h230) ⟨Nat.le_of_ble_eq_true rfl, Nat.le_of_ble_eq_true rfl, Nat.le_of_ble_eq_true rfl, Nat.le_of_ble_eq_true rfl⟩ rfl (Nat.le_of_ble_eq_true rfl) dL_statement_54 rfl (fun b234 e235 hq => ?_)
    obtain ⟨hb9, h236, o237, n238⟩ := hq
    rw [hb9]
    have p239 : ∀ j, j < es.length → e235[j]? = es[j]? := fun j hj => (o237 j (by omega)).trans (p233 j hj)
    refine T.aload_n (pc := 57) hG dL_statement_57 rfl 2 rfl ?_
    refine T.iload_n (pc := 58) hG dL_statement_58 rfl 3 rfl ?_
    refine T.iconst (pc := 59) hG dL_statement_59 ?_
    refine T.iaddz (pc := 60) (p + 5) hG dL_statement_60 (by omega) (sR_b (by omega)) ?_
    refine T.callSr (pc := 61) (As := [.ref b, .int (sJ (p + 5))]) (stk := [.ref (tA Δ e210.length)]) hG (tm_operand l Δ hE hD (p := p + 5) (by omega)) mY_L_operand kw_1686 kw_1687 ⟨Nat.le_of_ble_eq_true rfl, Nat.le_of_ble_eq_true rfl, Nat.le_of_ble_eq_true rfl, Nat.le_of_ble_eq_true rfl⟩ rfl (Nat.le_of_ble_eq_true rfl) dL_statement_61 rfl (fun b240 e241 hq => ?_)
    obtain ⟨h242, o243, n244⟩ := hq
    have h245 := SBT.mono h236 o243
    have p246 : ∀ j, j < es.length → e241[j]? = es[j]? := fun j hj => (o243 j (by omega)).trans (p239 j hj)
    have l247 := (okT.opd (L := L) (xs := xs) (p := p + 5)).1
    refine T.callVr (pc := 64) (C := "java/lang/StringBuilder") (As := [.ref b240]) (stk := []) hG (tm_sbS l Δ hD (t := (([] ++ (regT L xs (p + 1))) ++ [61])) (u := (opdT L xs (p + 5))) h245 h242 (okT.opd (L := L) (xs := xs) (p := p + 5)).2 (by (try simp only [List.length_append, List.length_cons, List.length_nil]); omega) (by omega)) mY_J4_append_15ec4 kw_1503 kw_1504 (tWd.of kw_1505) (SBT.rv h245) ⟨Nat.le_of_ble_eq_true rfl, Nat.le_of_ble_eq_true rfl, Nat.le_of_ble_eq_true rfl, Nat.le_of_ble_eq_true rfl⟩ rfl (Nat.le_of_ble_eq_true rfl) dL_statement_64 rfl (fun b248 e249 hq => ?_)
    obtain ⟨hb9, h250, o251, n252⟩ := hq
    rw [hb9]
    have p253 : ∀ j, j < es.length → e249[j]? = es[j]? := fun j hj => (o251 j (by omega)).trans (p246 j hj)
    refine T.callVr (pc := 67) (C := "java/lang/StringBuilder") (As := []) (stk := []) hG (tm_sbTS l Δ hD h250 (by (try simp only [List.length_append, List.length_cons, List.length_nil]); omega)) mY_J4_toString_0e30d kw_1630 kw_1631 (tWd.of kw_1632) (SBT.rv h250) ⟨Nat.le_of_ble_eq_true rfl, Nat.le_of_ble_eq_true rfl, Nat.le_of_ble_eq_true rfl, Nat.le_of_ble_eq_true rfl⟩ rfl (Nat.le_of_ble_eq_true rfl) dL_statement_67 rfl (fun b254 e255 hq => ?_)
    obtain ⟨h256, o257, n258⟩ := hq
    have h259 := SBT.mono h250 o257
    have p260 : ∀ j, j < es.length → e255[j]? = es[j]? := fun j hj => (o257 j (by omega)).trans (p253 j hj)
    refine T.astore (pc := 70) (lv' := [(4, .ref b254), (3, .ref b209), (2, .int (sJ (pk L xs p 6))), (0, .ref b), (1, .int (sJ p))]) hG dL_statement_70 (by decide) rfl ?_
    refine T.aload_n (pc := 72) hG dL_statement_72 rfl 3 rfl ?_
    refine T.iload_n (pc := 73) hG dL_statement_73 rfl 4 rfl ?_
    refine T.bipush (pc := 74) hG dL_statement_74 (by decide) ?_
    refine T.iaddz (pc := 76) (p + 10) hG dL_statement_76 (by omega) (sR_b (by omega)) ?_
    refine T.iconst (pc := 77) hG dL_statement_77 ?_
    refine T.callSi (pc := 78) (As := [.ref b, .int (sJ (p + 10)), .int (sJ 4)]) (stk := []) hG (tm_pick l Δ hE (p := p + 10) (m := 4) (by omega) (by decide)) mY_L_pick kw_909 kw_910 ⟨Nat.le_of_ble_eq_true rfl, Nat.le_of_ble_eq_true rfl, Nat.le_of_ble_eq_true rfl, Nat.le_of_ble_eq_true rfl⟩ rfl (Nat.le_of_ble_eq_true rfl) dL_statement_78 rfl (fun x262 e263 _ hq => ?_)
    rw [hq.1, hq.2]
    have pr261 := pk_rng (L := L) (xs := xs) (p := p + 10) (m := 4) (by decide)
    refine T.if_ne (pc := 81) (tgt := 89) hG (sR_b (by omega)) dL_statement_81 (by decide) (fun q9 => ?_) (fun q9 => ?_)
    · refine T.new (pc := 89) (ci := 14) (e := tsb none 0) hG hin_J4 rfl tyJ4_ok kw_1471 kw_1472 kw_130 rfl defJ4 ⟨Nat.le_of_ble_eq_true rfl, Nat.le_of_ble_eq_true rfl⟩ dL_statement_89 (fun e264 h265 o266 n267 => ?_)
      have h268 := SBT.mono h259 o266
      have h269 := TX.mono h256 o266
      have p270 : ∀ j, j < es.length → e264[j]? = es[j]? := fun j hj => (o266 j (by omega)).trans (p260 j hj)
      refine T.dup (pc := 92) hG dL_statement_92 rfl ?_
      refine T.callI (pc := 93) (As := []) (stk := [.ref (tA Δ e255.length)]) hG (tm_sbN l Δ h265) mY_J4_init_da8c8 rfl kw_1473 kw_1474 ⟨Nat.le_of_ble_eq_true rfl, Nat.le_of_ble_eq_true rfl, Nat.le_of_ble_eq_true rfl, Nat.le_of_ble_eq_true rfl⟩ rfl (Nat.le_of_ble_eq_true rfl) dL_statement_93 rfl (fun e271 hq => ?_)
      obtain ⟨h272, o273, n274⟩ := hq
      have p275 : ∀ j, j < es.length → e271[j]? = es[j]? := fun j hj => (o273 j (by omega)).trans (p270 j hj)
      have h276 := TX.keep h269 h265 (fun j h1 h2 => o273 j (by omega))
      refine T.aload (pc := 96) hG dL_statement_96 0 rfl ?_
      refine T.callVr (pc := 98) (C := "java/lang/StringBuilder") (As := [.ref b254]) (stk := []) hG (tm_sbS l Δ hD (t := []) (u := ((([] ++ (regT L xs (p + 1))) ++ [61]) ++ (opdT L xs (p + 5)))) h272 h276 (asc_app (asc_app (asc_app (asc_c rfl) (okT.reg (L := L) (xs := xs) (p := p + 1)).2) (asc_c rfl)) (okT.opd (L := L) (xs := xs) (p := p + 5)).2) (by (try simp only [List.length_append, List.length_cons, List.length_nil]); omega) (by omega)) mY_J4_append_15ec4 kw_1503 kw_1504 (tWd.of kw_1505) (SBT.rv h272) ⟨Nat.le_of_ble_eq_true rfl, Nat.le_of_ble_eq_true rfl, Nat.le_of_ble_eq_true rfl, Nat.le_of_ble_eq_true rfl⟩ rfl (Nat.le_of_ble_eq_true rfl) dL_statement_98 rfl (fun b277 e278 hq => ?_)
      obtain ⟨hb9, h279, o280, n281⟩ := hq
      rw [hb9]
      have p282 : ∀ j, j < es.length → e278[j]? = es[j]? := fun j hj => (o280 j (by omega)).trans (p275 j hj)
      refine T.ldcS (pc := 101) (k := 1) (tx := "+-*&|^l") hG (by decide) dL_statement_101 ?_
      refine T.aload_n (pc := 103) hG dL_statement_103 rfl 3 rfl ?_
      refine T.iload_n (pc := 104) hG dL_statement_104 rfl 4 rfl ?_
      refine T.bipush (pc := 105) hG dL_statement_105 (by decide) ?_
      refine T.iaddz (pc := 107) (p + 11) hG dL_statement_107 (by omega) (sR_b (by omega)) ?_
      refine T.bipush (pc := 108) hG dL_statement_108 (by decide) ?_
      refine T.callSi (pc := 110) (As := [.ref b, .int (sJ (p + 11)), .int (sJ 7)]) (stk := [.ref (aK Δ 1), .ref (tA Δ e255.length)]) hG (tm_pick l Δ hE (p := p + 11) (m := 7) (by omega) (by decide)) mY_L_pick kw_909 kw_910 ⟨Nat.le_of_ble_eq_true rfl, Nat.le_of_ble_eq_true rfl, Nat.le_of_ble_eq_true rfl, Nat.le_of_ble_eq_true rfl⟩ rfl (Nat.le_of_ble_eq_true rfl) dL_statement_110 rfl (fun x284 e285 _ hq => ?_)
      rw [hq.1, hq.2]
      have pr283 := pk_rng (L := L) (xs := xs) (p := p + 11) (m := 7) (by decide)
      refine T.callVi (pc := 113) (C := "java/lang/String") (As := [.int (sJ (pk L xs (p + 11) 7))]) (stk := [.ref (tA Δ e255.length)]) hG (tm_cA l Δ (i := (pk L xs (p + 11) 7)) (by omega)) mY_J0_charAt_5068e kw_1691 kw_1349 (tWd.of kw_1350) (RV.st (ST.const (k := 1) (by decide))) ⟨Nat.le_of_ble_eq_true rfl, Nat.le_of_ble_eq_true rfl, Nat.le_of_ble_eq_true rfl, Nat.le_of_ble_eq_true rfl⟩ rfl (Nat.le_of_ble_eq_true rfl) dL_statement_113 rfl (fun x286 e287 _ hq => ?_)
      rw [hq.1, hq.2]
      have op288 := opsT_ok (k := (pk L xs (p + 11) 7)) (by omega)
      refine T.callVr (pc := 116) (C := "java/lang/StringBuilder") (As := [.int (sJ (opsT.getD (pk L xs (p + 11) 7).toNat 0))]) (stk := []) hG (tm_sbC l Δ hD (t := ([] ++ ((([] ++ (regT L xs (p + 1))) ++ [61]) ++ (opdT L xs (p + 5))))) h279 (c := (opsT.getD (pk L xs (p + 11) 7).toNat 0)) (by omega) (by (try simp only [List.length_append, List.length_cons, List.length_nil]); omega)) mY_J4_append_cf468 kw_1692 kw_1693 (tWd.of kw_1694) (SBT.rv h279) ⟨Nat.le_of_ble_eq_true rfl, Nat.le_of_ble_eq_true rfl, Nat.le_of_ble_eq_true rfl, Nat.le_of_ble_eq_true rfl⟩ rfl (Nat.le_of_ble_eq_true rfl) dL_statement_116 rfl (fun b289 e290 hq => ?_)
      obtain ⟨hb9, h291, o292, n293⟩ := hq
      rw [hb9]
      have p294 : ∀ j, j < es.length → e290[j]? = es[j]? := fun j hj => (o292 j (by omega)).trans (p282 j hj)
      refine T.aload_n (pc := 119) hG dL_statement_119 rfl 3 rfl ?_
      refine T.iload_n (pc := 120) hG dL_statement_120 rfl 4 rfl ?_
      refine T.bipush (pc := 121) hG dL_statement_121 (by decide) ?_
      refine T.iaddz (pc := 123) (p + 12) hG dL_statement_123 (by omega) (sR_b (by omega)) ?_
      refine T.callSr (pc := 124) (As := [.ref b, .int (sJ (p + 12))]) (stk := [.ref (tA Δ e255.length)]) hG (tm_operand l Δ hE hD (p := p + 12) (by omega)) mY_L_operand kw_1686 kw_1687 ⟨Nat.le_of_ble_eq_true rfl, Nat.le_of_ble_eq_true rfl, Nat.le_of_ble_eq_true rfl, Nat.le_of_ble_eq_true rfl⟩ rfl (Nat.le_of_ble_eq_true rfl) dL_statement_124 rfl (fun b295 e296 hq => ?_)
      obtain ⟨h297, o298, n299⟩ := hq
      have h300 := SBT.mono h291 o298
      have p301 : ∀ j, j < es.length → e296[j]? = es[j]? := fun j hj => (o298 j (by omega)).trans (p294 j hj)
      have l302 := (okT.opd (L := L) (xs := xs) (p := p + 12)).1
      refine T.callVr (pc := 127) (C := "java/lang/StringBuilder") (As := [.ref b295]) (stk := []) hG (tm_sbS l Δ hD (t := (([] ++ ((([] ++ (regT L xs (p + 1))) ++ [61]) ++ (opdT L xs (p + 5)))) ++ [(opsT.getD (pk L xs (p + 11) 7).toNat 0)])) (u := (opdT L xs (p + 12))) h300 h297 (okT.opd (L := L) (xs := xs) (p := p + 12)).2 (by (try simp only [List.length_append, List.length_cons, List.length_nil]); omega) (by omega)) mY_J4_append_15ec4 kw_1503 kw_1504 (tWd.of kw_1505) (SBT.rv h300) ⟨Nat.le_of_ble_eq_true rfl, Nat.le_of_ble_eq_true rfl, Nat.le_of_ble_eq_true rfl, Nat.le_of_ble_eq_true rfl⟩ rfl (Nat.le_of_ble_eq_true rfl) dL_statement_127 rfl (fun b303 e304 hq => ?_)
      obtain ⟨hb9, h305, o306, n307⟩ := hq
      rw [hb9]
      have p308 : ∀ j, j < es.length → e304[j]? = es[j]? := fun j hj => (o306 j (by omega)).trans (p301 j hj)
      refine T.callVr (pc := 130) (C := "java/lang/StringBuilder") (As := []) (stk := []) hG (tm_sbTS l Δ hD h305 (by (try simp only [List.length_append, List.length_cons, List.length_nil]); omega)) mY_J4_toString_0e30d kw_1630 kw_1631 (tWd.of kw_1632) (SBT.rv h305) ⟨Nat.le_of_ble_eq_true rfl, Nat.le_of_ble_eq_true rfl, Nat.le_of_ble_eq_true rfl, Nat.le_of_ble_eq_true rfl⟩ rfl (Nat.le_of_ble_eq_true rfl) dL_statement_130 rfl (fun b309 e310 hq => ?_)
      obtain ⟨h311, o312, n313⟩ := hq
      have h314 := SBT.mono h305 o312
      have p315 : ∀ j, j < es.length → e310[j]? = es[j]? := fun j hj => (o312 j (by omega)).trans (p308 j hj)
      have h1 : trgT L xs p = (regT L xs (p + 1)) := if_pos (by omega)
      have ht : stmT L xs p = ((([] ++ ((([] ++ (regT L xs (p + 1))) ++ [61]) ++ (opdT L xs (p + 5)))) ++ [(opsT.getD (pk L xs (p + 11) 7).toNat 0)]) ++ (opdT L xs (p + 12))) := by
        unfold stmT
        simp only [if_neg q9, h1, List.nil_append]
      exact fin dL_statement_133 (Nat.le_of_ble_eq_true rfl) (Nat.le_of_ble_eq_true rfl) ⟨by rw [ht]; exact TX.wide h311 (by omega) (by omega), p315, by omega⟩
    · refine T.aload (pc := 84) hG dL_statement_84 0 rfl ?_
      refine T.goto (pc := 86) (tgt := 133) hG dL_statement_86 (by decide) ?_
      have h1 : trgT L xs p = (regT L xs (p + 1)) := if_pos (by omega)
      have ht : stmT L xs p = ((([] ++ (regT L xs (p + 1))) ++ [61]) ++ (opdT L xs (p + 5))) := by
        unfold stmT
        simp only [if_pos q9, h1, List.nil_append]
      exact fin dL_statement_133 (Nat.le_of_ble_eq_true rfl) (Nat.le_of_ble_eq_true rfl) ⟨by rw [ht]; exact TX.wide h256 (by omega) (by omega), p260, by omega⟩
