
def sQrow (Δ : Wd) (Qp : Nat → (Int → Int) → MI → MI → Prop) : Array Value → State → Outcome → State → Prop := va_Qr (fun (u : Nat × (Int → Int) × MI × MI) => okI u.2.2.1 ∧ Wf u.2.2.2 ∧ (∀ k, sR (u.2.1 k)) ∧ u.1 ≤ 96 ∧ Qp u.1 u.2.1 u.2.2.1 u.2.2.2) (fun u a t => sH Δ 504 u.2.2.1 u.2.2.2 t.heap ∧ RowP Δ a u.1 u.2.1 t.heap) (sFr Δ)
theorem Cm.row {l : Launch} {Δ : Wd} {y : MethodName} {bytes : ByteArray} {maxL fr lo mc ms : Nat} {ret : Option FieldType} {av : List Value} {i r : MI} {rt : FieldType} {Qp : Nat → (Int → Int) → MI → MI → Prop} (hy : plainName y.cls = true) (hret : ret = some rt) (hrt : (∃ n, rt = .object n) ∨ ∃ t, rt = .array t) (hlen : (lg_sl av).length ≤ maxL) (walk : ∀ (Γ : Cx) (Q : State → Prop), okG Γ Δ l (sRx fr lo mc ms) bytes y.cls maxL → (∀ {pc : Nat} {lv : List (Nat × Value)} {a n : Nat} {f : Int → Int} {i' r' : MI} {kc sl : Nat}, decode bytes pc = .ok (.areturn, 1) → kc ≤ mc → sl ≤ ms → okI i' → Wf r' → (∀ k, sR (f k)) → n ≤ 96 → Qp n f i' r' → V Γ (eAnd Δ (RowP Δ a n f)) 504 false i' r' kc sl Q pc lv [.ref a]) → V Γ Δ 504 false i r 0 0 Q 0 (lv_args 0 av) []) : Met l y (Cond.code y bytes maxL ret :: gW) (sRx fr lo mc ms) (sPc Δ av i r) (sQrow Δ Qp) mc ms (sFr Δ) := by
  refine Met.ofW (cc := bytes) (maxL := maxL) (ret := ret) hy rfl ?_
  intro p e s m args below meth c s₁ B hml hv
  obtain ⟨rfl, hP, hKK⟩ := hv
  have hts := atoms_spec (ws := Cond.code y bytes maxL ret :: gW) B.pre
  have hown : s.vm.findClass y.cls = some m.cls := findClass_of_methodNamed B.named
  have hlk : meth.locks = false := B.notSynchronized
  have hx := B.exec
  have hb := B.bytes
  have hr := B.returns
  have hl := lv_entry av (n := maxL) hlen
  rw [lg_entry_eq]
  generalize (lg_sl av ++ List.replicate (maxL - (lg_sl av).length) Slot.unset).toArray = ls at hl ⊢
  have hG : okG (p, l, e, sRx fr lo mc ms, s, m, av.toArray, below, meth, c, maxL) Δ l (sRx fr lo mc ms) bytes y.cls maxL := ⟨hx, hb, hml, hown, fun w hw => hts w (List.mem_cons_of_mem _ hw), hKK, hlk, rfl, rfl, rfl⟩
  refine walk _ _ hG ?_ s.heap [] ls hP (fun q => by cases q) va_S.rf hl
  intro pc lv a n f i' r' kc sl hdg hkc hsl hi hw hf hn hq H locs ls hP hz hS hl
  exact W.widen hkc hsl (W.aret (v := .ref a) hx hb (hr.trans hret) hrt (Or.inr ⟨a, rfl⟩) (fun t ht hW => ⟨⟨(n, f, i', r'), a, rfl, ⟨hi, hw, hf, hn, hq⟩, by rw [← ht] at hP; exact ⟨⟨hP.1, hP.2.1, hP.2.2.1⟩, hP.2.2.2⟩⟩, hS.F ht⟩) hS.2.2 hdg hlk)
theorem V.callRow {Γ : Cx} {Δ : Wd} {l : Launch} {R : Room} {i r : MI} {kc sl : Nat} {Q : State → Prop} {pc : Nat} {lv : List (Nat × Value)} {stk st0 As : List Value} {cc : ByteArray} {own : String} {nL : Nat} {y : MethodName} {bytes : ByteArray} {maxL fr lo mc ms na ix : Nat} {ret : Option FieldType} {Qp : Nat → (Int → Int) → MI → MI → Prop} (h : okG Γ Δ l R cc own nL) (hM : Met l y (Cond.code y bytes maxL ret :: gW) (sRx fr lo mc ms) (sPc Δ As i r) (sQrow Δ Qp) mc ms (sFr Δ)) (hY : mY y bytes maxL ret na) (hl1 : Cond.methodLink own ix y ∈ gW) (hl2 : Cond.static y ∈ gW)
    (hR : fr + 1 ≤ R.frames ∧ 8 + (maxL + 11) + lo ≤ R.locals ∧ kc + mc ≤ R.cells ∧ sl + ms ≤ R.slots) (hlen : As.length = na) (hst : (stk.map fun v => v.category).sum ≤ 8) (hdg : decode cc pc = .ok (.invokestatic ix, 3)) (hs : st0 = As.reverse ++ stk)
    (kk : ∀ (a n : Nat) (f : Int → Int) (i' r' : MI), okI i' → Wf r' → (∀ k, sR (f k)) → n ≤ 96 → Qp n f i' r' → V Γ (eAnd Δ (RowP Δ a n f)) 504 false i' r' (kc + mc) (sl + ms) Q (pc + 3) lv (.ref a :: stk)) : V Γ Δ 504 false i r kc sl Q (pc) lv (st0) := by
  obtain ⟨p, l', e, R', s, m, args, below, meth, c, nL'⟩ := Γ
  obtain ⟨hx, hb, hml, hown, hts, hKK, hlk, rfl, rfl, rfl⟩ := h
  intro H locs ls hP hz hS hl
  subst hs
  obtain ⟨y1, y2, y3, y4, y5⟩ := hY
  exact va_callr (va_runS (As := As) (rest := stk) ⟨hx, hb, hml, hown, hts⟩ hM ⟨⟨rfl, rfl, hR.1, hR.2.1, gW_pay hts y2, List.mem_cons_self, hts _ y2, hts _ y1, ⟨y3, y4⟩, fun sig hh => by rw [hh] at y5; exact (Option.some.inj y5).symm, hts _ hl1⟩, hts _ hl2⟩ ⟨sPc_blind, fun U hU hW => ⟨rfl, by rw [hU]; exact hP, KK_warm hKK hW hS hU⟩⟩ rfl hlen hl.1 rfl (lv_room hst) hdg ⟨hR.2.2.1, hR.2.2.2⟩) hS (fun _ _ q => q) (fun _ q => q) (fun u a t H1 locs1 ht hvm hw hB hz1 hk1 hS1 => by
    obtain ⟨n, f, i', r'⟩ := u
    obtain ⟨g1, g2, g3, g4, g5⟩ := hw
    obtain ⟨hB, hv⟩ := hB
    rw [ht] at hB hv
    exact kk a n f i' r' g1 g2 g3 g4 g5 H1 locs1 ls ⟨hB.1, hB.2.1, hB.2.2, hv⟩ (fun q => by cases q) hS1 hl)
set_option maxRecDepth 100000 in
set_option maxHeartbeats 4000000 in
theorem sm_L_row (l : Launch) (Δ : Wd) (hnb : nb Δ) {i r : MI} {what : Int} (hwh : sR what) {Q : Nat → (Int → Int) → MI → MI → Prop} (hst : l.stackTraces = false) (hi : okI i) (hw : Wf r) (h : wp_L_row what i r Q) : Met l yL_row (Cond.code yL_row cL_row 4 (some (.array .int)) :: gW) (sRx 14 300 400 2400) (sPc Δ [.ref (sA Δ 0), .int (sJ what)] i r) (sQrow Δ Q) 400 2400 (sFr Δ) := by
  refine Cm.row (rt := .array .int) (by decide) rfl (Or.inr ⟨_, rfl⟩) (Nat.le_of_ble_eq_true rfl) (fun Γ Q0 hG fin => ?_)
  have hG : okG Γ Δ l (sRx 14 300 400 2400) cL_row "SchedularyLaw" 4 := hG
  show V Γ Δ 504 false i r 0 0 Q0 0 [(0, .ref (sA Δ 0)), (1, .int (sJ what))] []
  refine V.aload_n (pc := 0) hG dL_row_0 rfl 0 rfl ?_
  refine V.callVi (pc := 1) (As := []) (stk := []) hG (sm_X11_nodes l Δ hi hw h) mY_X11_nodes kw_1716 kw_1717 kw_1718 a_0 (by decide) (q := (RX11, TX11, 11)) rfl rfl ⟨Nat.le_of_ble_eq_true rfl, Nat.le_of_ble_eq_true rfl, Nat.le_of_ble_eq_true rfl, Nat.le_of_ble_eq_true rfl⟩ rfl (Nat.le_of_ble_eq_true rfl) dL_row_1 rfl (fun x i r hx hi hw hq => ?_)
  obtain ⟨hn, m0, hlp⟩ := hq
  obtain ⟨N, rfl⟩ : ∃ N : Nat, x = (N : Int) := ⟨x.toNat, (Int.toNat_of_nonneg hn.1).symm⟩
  have hN : N ≤ 96 := by omega
  refine V.agree hG (fun H0 hs0 hE0 hsz => ?_)
  refine V.newRow (pc := 4) hG hnb hsz kw_198 rfl (by omega) ⟨Nat.le_of_ble_eq_true rfl, by show 0 + N ≤ 2400; omega⟩ dL_row_4 (fun a ha => ?_)
  have hGf : ∀ f, okG Γ (eAnd (aT Δ H0) (RowP Δ a N f)) l (sRx 14 300 400 2400) cL_row "SchedularyLaw" 4 := fun f => (hG.agree H0).and (stab.row (Δ := aT Δ H0))
  have lp : ∀ (m k : Nat) (f : Int → Int) (i r : MI), (∀ c, sR (f c)) → okI i → Wf r → k ≤ N → LoopP (bRow N what Q) m ((k : Int), f, i, r) → V Γ (eAnd (aT Δ H0) (RowP Δ a N f)) 504 false i r (1 + 3 * k) (N + 18 * k) Q0 9 [(3, .int (sJ k)), (2, .ref a), (0, .ref (sA Δ 0)), (1, .int (sJ what))] [] := by
    intro m
    induction m with
    | zero => intro k f i r _ _ _ _ h; exact h.elim
    | succ m ih =>
      intro k f i r hf hi hw hk h
      obtain ⟨h1, h2⟩ := LoopP_succ h
      have hEA : EA (eAnd (aT Δ H0) (RowP Δ a N f)) a N f := EA.row (Δ := aT Δ H0) hf (by omega)
      have hG2 := hGf f
      refine V.iload_n (pc := 9) hG2 dL_row_9 rfl 0 rfl ?_
      refine V.aload_n (pc := 10) hG2 dL_row_10 rfl 1 rfl ?_
      refine V.ealen (pc := 11) hG2 hEA dL_row_11 ?_
      refine V.icmp_ge (pc := 12) (tgt := 31) hG2 ⟨by omega, by omega⟩ ⟨by omega, by omega⟩ dL_row_12 (by decide) (fun c1 => ?_) (fun c1 => ?_)
      · refine V.aload_n (pc := 31) hG2 dL_row_31 rfl 1 rfl ?_
        have hq := h1 c1
        rw [Int.toNat_natCast] at hq
        exact V.back hG hE0 (fin dL_row_32 (by omega) (by omega) hi hw hf hN hq)
      · obtain ⟨-, h⟩ := h2 c1
        refine V.aload_n (pc := 15) hG2 dL_row_15 rfl 1 rfl ?_
        refine V.iload_n (pc := 16) hG2 dL_row_16 rfl 0 rfl ?_
        refine V.aload_n (pc := 17) hG2 dL_row_17 rfl 2 rfl ?_
        refine V.iload_n (pc := 18) hG2 dL_row_18 rfl 3 rfl ?_
        refine V.iload_n (pc := 19) hG2 dL_row_19 rfl 0 rfl ?_
        refine V.iconst (pc := 20) hG2 dL_row_20 ?_
        refine V.mcallSi (pc := 21) (As := [.ref (sA Δ 0), .int (sJ what), .int (sJ k), .int (sJ 0)]) (stk := [.int (sJ k), .ref a]) hG2 (sm_L_ask l (eAnd (aT Δ H0) (RowP Δ a N f)) hwh ⟨by omega, by omega⟩ (sR_l rfl) hst hi hw h) mY_L_ask kw_917 kw_918 ⟨Nat.le_of_ble_eq_true rfl, Nat.le_of_ble_eq_true rfl, by show 1 + 3 * k + 3 ≤ 400; omega, by show N + 18 * k + 18 ≤ 2400; omega⟩ rfl (Nat.le_of_ble_eq_true rfl) dL_row_21 rfl (fun v i2 r2 hv hi2 hw2 hq => ?_)
        refine V.putRow (pc := 24) hG hs0 hnb hsz ha ⟨by omega, by omega⟩ ⟨by omega, by omega⟩ dL_row_24 ?_
        have hG3 := hGf (updF f k v)
        refine V.iinc (pc := 25) (lv' := [(3, .int (sJ (wr ((k : Int) + 1)))), (2, .ref a), (0, .ref (sA Δ 0)), (1, .int (sJ what))]) hG3 dL_row_25 0 rfl (by decide) rfl ?_
        refine V.goto (pc := 28) (tgt := 9) hG3 dL_row_28 (by decide) ?_
        have e1 : wr ((k : Int) + 1) = ((k + 1 : Nat) : Int) := by rw [wr_eq ⟨by omega, by omega⟩]; rfl
        rw [e1] at hq ⊢
        refine V.ks (kc2 := 1 + 3 * (k + 1)) (sl2 := N + 18 * (k + 1)) (by omega) (by omega) ?_
        exact ih (k + 1) _ i2 r2 (fun c => by unfold updF; split; exact hv; exact hf c) hi2 hw2 (by omega) hq
  have hG1 := hGf (fun _ => 0)
  refine V.astore_n (pc := 6) (lv' := [(2, .ref a), (0, .ref (sA Δ 0)), (1, .int (sJ what))]) hG1 dL_row_6 rfl (by decide) rfl ?_
  refine V.iconst (pc := 7) hG1 dL_row_7 ?_
  refine V.istore_n (pc := 8) (lv' := [(3, .int (sJ 0)), (2, .ref a), (0, .ref (sA Δ 0)), (1, .int (sJ what))]) hG1 dL_row_8 rfl (by decide) rfl ?_
  refine V.ks (kc2 := 1 + 3 * 0) (sl2 := N + 18 * 0) (by omega) (by omega) ?_
  exact lp m0 0 (fun _ => 0) i r (fun _ => sR_0) hi hw (Nat.zero_le _) hlp
