set_option maxRecDepth 100000 in
set_option maxHeartbeats 4000000 in
theorem sm_L_areKept (l : Launch) (Δ : Wd) (hnb : nb Δ) {i r : MI} {Q : Int → MI → MI → Prop} (hst : l.stackTraces = false) (hi : okI i) (hw : Wf r) (h : wp_L_areKept i r Q) : Met l yL_areKept (Cond.code yL_areKept cL_areKept 13 (some .boolean) :: gW) (sRx 30 1000 270000 1620000) (sPc Δ [.ref (sA Δ 0)] i r) (sQi Δ Q) 270000 1620000 (sFr Δ) := by
  refine Cm.i (ty := .boolean) (by decide) rfl (Nat.le_of_ble_eq_true rfl) (fun Γ Q0 hG fin => ?_)
  have hG : okG Γ Δ l (sRx 30 1000 270000 1620000) cL_areKept "SchedularyLaw" 13 := hG
  show V Γ Δ 504 false i r 0 0 Q0 0 [(0, .ref (sA Δ 0))] []
  refine V.aload_n (pc := 0) hG dL_areKept_0 rfl 0 rfl ?_
  refine V.callVi (pc := 1) (As := []) (stk := []) hG (sm_X11_nodes l Δ hi hw h) mY_X11_nodes kw_1716 kw_1717 kw_1718 a_0 (by decide) (q := (RX11, TX11, 11)) rfl rfl ⟨Nat.le_of_ble_eq_true rfl, Nat.le_of_ble_eq_true rfl, Nat.le_of_ble_eq_true rfl, Nat.le_of_ble_eq_true rfl⟩ rfl (Nat.le_of_ble_eq_true rfl) dL_areKept_1 rfl (fun x i r hx hi hw h => ?_)
  refine V.istore_n (pc := 4) (lv' := [(1, .int (sJ x)), (0, .ref (sA Δ 0))]) hG dL_areKept_4 rfl (by decide) rfl ?_
  refine V.aload_n (pc := 5) hG dL_areKept_5 rfl 1 rfl ?_
  refine V.bipush (pc := 6) hG dL_areKept_6 (by decide) ?_
  refine V.callRow (pc := 8) (As := [.ref (sA Δ 0), .int (sJ 26)]) (stk := []) hG (sm_L_row l Δ hnb (sR_l rfl) hst hi hw h) mY_L_row kw_1738 kw_1739 ⟨Nat.le_of_ble_eq_true rfl, Nat.le_of_ble_eq_true rfl, Nat.le_of_ble_eq_true rfl, Nat.le_of_ble_eq_true rfl⟩ rfl (Nat.le_of_ble_eq_true rfl) dL_areKept_8 rfl (fun a2 n2 f2 i r hi hw hf2 hn2 h => ?_)
  have hG2 := hG.and (stab.row (Δ := Δ) (a := a2) (n := n2) (f := f2))
  have hE2 := EA.row (Δ := Δ) (a := a2) hf2 (show n2 < 2147483648 by omega)
  refine V.astore_n (pc := 11) (lv' := [(2, .ref a2), (1, .int (sJ x)), (0, .ref (sA Δ 0))]) hG2 dL_areKept_11 rfl (by decide) rfl ?_
  refine V.aload_n (pc := 12) hG2 dL_areKept_12 rfl 2 rfl ?_
  refine V.bipush (pc := 13) hG2 dL_areKept_13 (by decide) ?_
  refine V.callRow (pc := 15) (As := [.ref (sA Δ 0), .int (sJ 27)]) (stk := []) hG2 (sm_L_row l (eAnd Δ (RowP Δ a2 n2 f2)) hnb (sR_l rfl) hst hi hw h) mY_L_row kw_1738 kw_1739 ⟨Nat.le_of_ble_eq_true rfl, Nat.le_of_ble_eq_true rfl, Nat.le_of_ble_eq_true rfl, Nat.le_of_ble_eq_true rfl⟩ rfl (Nat.le_of_ble_eq_true rfl) dL_areKept_15 rfl (fun a3 n3 f3 i r hi hw hf3 hn3 h => ?_)
  have hG3 := hG2.and (stab.row (Δ := (eAnd Δ (RowP Δ a2 n2 f2))) (a := a3) (n := n3) (f := f3))
  have hE2 := EA.and (P := RowP (eAnd Δ (RowP Δ a2 n2 f2)) a3 n3 f3) hE2
  have hE3 := EA.row (Δ := (eAnd Δ (RowP Δ a2 n2 f2))) (a := a3) hf3 (show n3 < 2147483648 by omega)
  refine V.astore_n (pc := 18) (lv' := [(3, .ref a3), (2, .ref a2), (1, .int (sJ x)), (0, .ref (sA Δ 0))]) hG3 dL_areKept_18 rfl (by decide) rfl ?_
  refine V.aload_n (pc := 19) hG3 dL_areKept_19 rfl 3 rfl ?_
  refine V.bipush (pc := 20) hG3 dL_areKept_20 (by decide) ?_
  refine V.callRow (pc := 22) (As := [.ref (sA Δ 0), .int (sJ 28)]) (stk := []) hG3 (sm_L_row l (eAnd (eAnd Δ (RowP Δ a2 n2 f2)) (RowP (eAnd Δ (RowP Δ a2 n2 f2)) a3 n3 f3)) hnb (sR_l rfl) hst hi hw h) mY_L_row kw_1738 kw_1739 ⟨Nat.le_of_ble_eq_true rfl, Nat.le_of_ble_eq_true rfl, Nat.le_of_ble_eq_true rfl, Nat.le_of_ble_eq_true rfl⟩ rfl (Nat.le_of_ble_eq_true rfl) dL_areKept_22 rfl (fun a4 n4 f4 i r hi hw hf4 hn4 h => ?_)
  have hG4 := hG3.and (stab.row (Δ := (eAnd (eAnd Δ (RowP Δ a2 n2 f2)) (RowP (eAnd Δ (RowP Δ a2 n2 f2)) a3 n3 f3))) (a := a4) (n := n4) (f := f4))
  have hE2 := EA.and (P := RowP (eAnd (eAnd Δ (RowP Δ a2 n2 f2)) (RowP (eAnd Δ (RowP Δ a2 n2 f2)) a3 n3 f3)) a4 n4 f4) hE2
  have hE3 := EA.and (P := RowP (eAnd (eAnd Δ (RowP Δ a2 n2 f2)) (RowP (eAnd Δ (RowP Δ a2 n2 f2)) a3 n3 f3)) a4 n4 f4) hE3
  have hE4 := EA.row (Δ := (eAnd (eAnd Δ (RowP Δ a2 n2 f2)) (RowP (eAnd Δ (RowP Δ a2 n2 f2)) a3 n3 f3))) (a := a4) hf4 (show n4 < 2147483648 by omega)
  refine V.astore (pc := 25) (lv' := [(4, .ref a4), (3, .ref a3), (2, .ref a2), (1, .int (sJ x)), (0, .ref (sA Δ 0))]) hG4 dL_areKept_25 (by decide) rfl ?_
  refine V.aload_n (pc := 27) hG4 dL_areKept_27 rfl 4 rfl ?_
  refine V.bipush (pc := 28) hG4 dL_areKept_28 (by decide) ?_
  refine V.callRow (pc := 30) (As := [.ref (sA Δ 0), .int (sJ 29)]) (stk := []) hG4 (sm_L_row l (eAnd (eAnd (eAnd Δ (RowP Δ a2 n2 f2)) (RowP (eAnd Δ (RowP Δ a2 n2 f2)) a3 n3 f3)) (RowP (eAnd (eAnd Δ (RowP Δ a2 n2 f2)) (RowP (eAnd Δ (RowP Δ a2 n2 f2)) a3 n3 f3)) a4 n4 f4)) hnb (sR_l rfl) hst hi hw h) mY_L_row kw_1738 kw_1739 ⟨Nat.le_of_ble_eq_true rfl, Nat.le_of_ble_eq_true rfl, Nat.le_of_ble_eq_true rfl, Nat.le_of_ble_eq_true rfl⟩ rfl (Nat.le_of_ble_eq_true rfl) dL_areKept_30 rfl (fun a5 n5 f5 i r hi hw hf5 hn5 h => ?_)
  have hG5 := hG4.and (stab.row (Δ := (eAnd (eAnd (eAnd Δ (RowP Δ a2 n2 f2)) (RowP (eAnd Δ (RowP Δ a2 n2 f2)) a3 n3 f3)) (RowP (eAnd (eAnd Δ (RowP Δ a2 n2 f2)) (RowP (eAnd Δ (RowP Δ a2 n2 f2)) a3 n3 f3)) a4 n4 f4))) (a := a5) (n := n5) (f := f5))
  have hE2 := EA.and (P := RowP (eAnd (eAnd (eAnd Δ (RowP Δ a2 n2 f2)) (RowP (eAnd Δ (RowP Δ a2 n2 f2)) a3 n3 f3)) (RowP (eAnd (eAnd Δ (RowP Δ a2 n2 f2)) (RowP (eAnd Δ (RowP Δ a2 n2 f2)) a3 n3 f3)) a4 n4 f4)) a5 n5 f5) hE2
  have hE3 := EA.and (P := RowP (eAnd (eAnd (eAnd Δ (RowP Δ a2 n2 f2)) (RowP (eAnd Δ (RowP Δ a2 n2 f2)) a3 n3 f3)) (RowP (eAnd (eAnd Δ (RowP Δ a2 n2 f2)) (RowP (eAnd Δ (RowP Δ a2 n2 f2)) a3 n3 f3)) a4 n4 f4)) a5 n5 f5) hE3
  have hE4 := EA.and (P := RowP (eAnd (eAnd (eAnd Δ (RowP Δ a2 n2 f2)) (RowP (eAnd Δ (RowP Δ a2 n2 f2)) a3 n3 f3)) (RowP (eAnd (eAnd Δ (RowP Δ a2 n2 f2)) (RowP (eAnd Δ (RowP Δ a2 n2 f2)) a3 n3 f3)) a4 n4 f4)) a5 n5 f5) hE4
  have hE5 := EA.row (Δ := (eAnd (eAnd (eAnd Δ (RowP Δ a2 n2 f2)) (RowP (eAnd Δ (RowP Δ a2 n2 f2)) a3 n3 f3)) (RowP (eAnd (eAnd Δ (RowP Δ a2 n2 f2)) (RowP (eAnd Δ (RowP Δ a2 n2 f2)) a3 n3 f3)) a4 n4 f4))) (a := a5) hf5 (show n5 < 2147483648 by omega)
  refine V.astore (pc := 33) (lv' := [(5, .ref a5), (4, .ref a4), (3, .ref a3), (2, .ref a2), (1, .int (sJ x)), (0, .ref (sA Δ 0))]) hG5 dL_areKept_33 (by decide) rfl ?_
  refine V.pick [5, 4, 3, 2, 1, 0] rfl ?_
  refine V.ks (kc2 := 1600) (sl2 := 6 * 1600) (by decide) (by decide) ?_
  exact sm_LK hE2 hE3 hE4 hE5 hx hst ⟨Nat.le_of_ble_eq_true rfl, Nat.le_of_ble_eq_true rfl, Nat.le_of_ble_eq_true rfl, Nat.le_of_ble_eq_true rfl⟩ hG5 (fun a b c d e f g h => V.drop (V.drop (V.drop (V.drop (fin a b c d e f g h))))) hi hw h
set_option maxRecDepth 100000 in
set_option maxHeartbeats 4000000 in
theorem sm_L_areProcesses (l : Launch) (Δ : Wd) {i r : MI} {b0 L0 : Nat} {xs0 : Int → Int} (hE0 : EA Δ b0 L0 xs0) {p1 : Int} (hp1 : sR p1) {Q : Int → MI → MI → Prop} (hst : l.stackTraces = false) (hi : okI i) (hw : Wf r) (h : wp_L_areProcesses p1 i r L0 xs0 Q) : Met l yL_areProcesses (Cond.code yL_areProcesses cL_areProcesses 9 (some .boolean) :: gW) (sRx 30 1000 6500 39000) (sPc Δ [.ref b0, .int (sJ p1)] i r) (sQi Δ Q) 6500 39000 (sFr Δ) := by
  refine Met.ofW (cc := cL_areProcesses) (maxL := 9) (ret := some .boolean) (by decide) rfl ?_
  intro p e s m args below meth c s₁ B hml hv
  obtain ⟨rfl, hP, hKK⟩ := hv
  have hts := atoms_spec (ws := Cond.code yL_areProcesses cL_areProcesses 9 (some .boolean) :: gW) B.pre
  have hown : s.vm.findClass yL_areProcesses.cls = some m.cls := findClass_of_methodNamed B.named
  have hlk : meth.locks = false := B.notSynchronized
  have hx := B.exec
  have hb := B.bytes
  have hr := B.returns
  have hl := lv_entry [.ref b0, .int (sJ p1)] (n := 9) (Nat.le_of_ble_eq_true rfl)
  rw [lg_entry_eq]
  generalize (lg_sl [.ref b0, .int (sJ p1)] ++ List.replicate (9 - (lg_sl [.ref b0, .int (sJ p1)]).length) Slot.unset).toArray = ls at hl ⊢
  have hG : okG (p, l, e, sRx 30 1000 6500 39000, s, m, [.ref b0, .int (sJ p1)].toArray, below, meth, c, 9) (dT Δ s.heap) l (sRx 30 1000 6500 39000) cL_areProcesses "SchedularyLaw" 9 := ⟨hx, hb, hml, hown, fun w hw => hts w (List.mem_cons_of_mem _ hw), hKK.text rfl, hlk, rfl, rfl, rfl⟩
  refine proc_start ⟨by decide, by decide, by decide, by decide⟩ hG ?_ s.heap [] ls ⟨fun k q hq => absurd hq (by simp [sWs]), fun k hk => absurd hk (Nat.not_lt_zero k), fun _ _ => rfl⟩ (fun _ => ⟨rfl, fun _ q => q⟩) va_S.rf hl
  refine V.pick [1, 2, 0] rfl ?_
  refine V.ks (kc2 := 6270) (sl2 := 6 * 6270) (by decide) (by decide) ?_
  refine sm_LP (hE0.text hP.2.2) hp1 hst ⟨Nat.le_of_ble_eq_true rfl, Nat.le_of_ble_eq_true rfl, Nat.le_of_ble_eq_true rfl, Nat.le_of_ble_eq_true rfl⟩ hG ?_ okI_P Wf_P h
  intro pc lv x i' r' kc sl hdg hsx hnar hkc hsl hi' hw' hq H locs ls hP2 hz hS hl
  have hag : ∀ q : Nat, q < s.heap.size → H[q]? = s.heap[q]? := hP2.2.2
  have hP3 : sH Δ 504 i r H := hP.old hKK hag
  have hSz : va_S (sFr Δ) s.heap H [] := ⟨hS.1, fun q h1 _ => hag q h1, fun _ h => by cases h⟩
  have hfree : ∀ q ∈ locs, s.heap.size ≤ q.base := fun q hq => hS.2.2 q hq
  exact W.forget (locs := []) hfree (W.widen hkc hsl (W.zret (v := sJ x) hx hb hr hnar (fun t ht hW => ⟨⟨sJ x, (x, i, r), rfl, ⟨rfl, hsx, hi, hw, hq⟩, by rw [← ht] at hP3; exact hP3⟩, hSz.F ht⟩) (fun _ h => by cases h) hdg hlk))
