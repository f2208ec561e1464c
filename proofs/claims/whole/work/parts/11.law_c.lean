def s311_LC0 (x5 : Int) (i r : MI) (xs : Nat → Int32) (L : Int) (C : MI → MI → Prop)  : Prop := C i r
def wc_0 (xs : Nat → Int32) (L : Int) (C : MI → MI → Prop) (x5 : Int) (i r : MI) : Prop := ((0 ≤ wr (x5 + 1) ∧ wr (x5 + 1) < L) ∧ wp_L_type (((sv xs (wr (x5 + 1)))) % 65536) i r (fun v2 i3 => ((0 ≤ wr (x5 + 1) ∧ wr (x5 + 1) < L) ∧ wp_X12_type (((sv xs (wr (x5 + 1)))) % 65536) i3 r (fun v10 i11 => wp_X12_thrown  i11 r (fun v17 => ((v17 = v2 → ((v2 = 0 → ((((lg_cmp (jMk (i11 540 0) (i11 540 1)) ((sJ v10).toInt64)).toInt) = 0 → s311_LC0 x5 i11 r xs L C) ∧ (¬ ((lg_cmp (jMk (i11 540 0) (i11 540 1)) ((sJ v10).toInt64)).toInt) = 0 → False))) ∧ (¬ v2 = 0 → s311_LC0 x5 i11 r xs L C))) ∧ (¬ v17 = v2 → False)))))))
def wc_1 (xs : Nat → Int32) (L : Int) (C : MI → MI → Prop) (x5 : Int) (i r : MI) : Prop := wp_X11_clear  i r (fun v1 i2 => wp_X12_clear  i2 r (fun v8 i9 => ((v1 = v8 → C i9 r) ∧ (¬ v1 = v8 → False))))
def wc_2 (xs : Nat → Int32) (L : Int) (C : MI → MI → Prop) (x5 : Int) (i r : MI) : Prop := wp_X11_fault  i r (fun v1 i2 => wp_X12_fault  i2 r (fun v8 i9 => ((v1 = v8 → C i9 r) ∧ (¬ v1 = v8 → False))))
def s381_LC3 (x5 : Int) (i r : MI) (xs : Nat → Int32) (L : Int) (C : MI → MI → Prop)  : Prop := C i r
def wc_3 (xs : Nat → Int32) (L : Int) (C : MI → MI → Prop) (x5 : Int) (i r : MI) : Prop := wp_L_add  i r (fun v1 i2 r3 => wp_X12_add  i2 r3 (fun v8 i9 => wp_X12_thrown  i9 r3 (fun v15 => ((v15 = v1 → ((v1 = 0 → ((((lg_cmp (jMk (i9 540 0) (i9 540 1)) ((sJ v8).toInt64)).toInt) = 0 → s381_LC3 x5 i9 r3 xs L C) ∧ (¬ ((lg_cmp (jMk (i9 540 0) (i9 540 1)) ((sJ v8).toInt64)).toInt) = 0 → False))) ∧ (¬ v1 = 0 → s381_LC3 x5 i9 r3 xs L C))) ∧ (¬ v15 = v1 → False)))))
def s437_LC4 (x5 : Int) (i r : MI) (xs : Nat → Int32) (L : Int) (C : MI → MI → Prop)  : Prop := C i r
def wc_4 (xs : Nat → Int32) (L : Int) (C : MI → MI → Prop) (x5 : Int) (i r : MI) : Prop := ((0 ≤ wr (x5 + 1) ∧ wr (x5 + 1) < L) ∧ wp_L_replace (sv xs (wr (x5 + 1))) i r (fun v2 i3 r4 => ((0 ≤ wr (x5 + 1) ∧ wr (x5 + 1) < L) ∧ wp_X12_replace (sv xs (wr (x5 + 1))) i3 r4 (fun v10 i11 => wp_X12_thrown  i11 r4 (fun v17 => ((v17 = v2 → ((v2 = 0 → ((((lg_cmp (jMk (i11 540 0) (i11 540 1)) ((sJ v10).toInt64)).toInt) = 0 → s437_LC4 x5 i11 r4 xs L C) ∧ (¬ ((lg_cmp (jMk (i11 540 0) (i11 540 1)) ((sJ v10).toInt64)).toInt) = 0 → False))) ∧ (¬ v2 = 0 → s437_LC4 x5 i11 r4 xs L C))) ∧ (¬ v17 = v2 → False)))))))
def s493_LC5 (x5 : Int) (i r : MI) (xs : Nat → Int32) (L : Int) (C : MI → MI → Prop)  : Prop := C i r
def wc_5 (xs : Nat → Int32) (L : Int) (C : MI → MI → Prop) (x5 : Int) (i r : MI) : Prop := ((0 ≤ wr (x5 + 1) ∧ wr (x5 + 1) < L) ∧ wp_L_setTurns (sv xs (wr (x5 + 1))) i r (fun v2 i3 => ((0 ≤ wr (x5 + 1) ∧ wr (x5 + 1) < L) ∧ wp_X12_setTurns (sv xs (wr (x5 + 1))) i3 r (fun v10 i11 => wp_X12_thrown  i11 r (fun v17 => ((v17 = v2 → ((v2 = 0 → ((((lg_cmp (jMk (i11 540 0) (i11 540 1)) ((sJ v10).toInt64)).toInt) = 0 → s493_LC5 x5 i11 r xs L C) ∧ (¬ ((lg_cmp (jMk (i11 540 0) (i11 540 1)) ((sJ v10).toInt64)).toInt) = 0 → False))) ∧ (¬ v2 = 0 → s493_LC5 x5 i11 r xs L C))) ∧ (¬ v17 = v2 → False)))))))
def s549_LC6 (x5 : Int) (i r : MI) (xs : Nat → Int32) (L : Int) (C : MI → MI → Prop)  : Prop := C i r
def wc_6 (xs : Nat → Int32) (L : Int) (C : MI → MI → Prop) (x5 : Int) (i r : MI) : Prop := ((0 ≤ wr (x5 + 1) ∧ wr (x5 + 1) < L) ∧ wp_L_setBits (sv xs (wr (x5 + 1))) i r (fun v2 i3 => ((0 ≤ wr (x5 + 1) ∧ wr (x5 + 1) < L) ∧ wp_X12_setBits (sv xs (wr (x5 + 1))) i3 r (fun v10 i11 => wp_X12_thrown  i11 r (fun v17 => ((v17 = v2 → ((v2 = 0 → ((((lg_cmp (jMk (i11 540 0) (i11 540 1)) ((sJ v10).toInt64)).toInt) = 0 → s549_LC6 x5 i11 r xs L C) ∧ (¬ ((lg_cmp (jMk (i11 540 0) (i11 540 1)) ((sJ v10).toInt64)).toInt) = 0 → False))) ∧ (¬ v2 = 0 → s549_LC6 x5 i11 r xs L C))) ∧ (¬ v17 = v2 → False)))))))
def s605_LC7 (x5 : Int) (i r : MI) (xs : Nat → Int32) (L : Int) (C : MI → MI → Prop)  : Prop := C i r
def wc_7 (xs : Nat → Int32) (L : Int) (C : MI → MI → Prop) (x5 : Int) (i r : MI) : Prop := ((0 ≤ wr (x5 + 1) ∧ wr (x5 + 1) < L) ∧ wp_L_unroll (sv xs (wr (x5 + 1))) i r (fun v2 i3 r4 => ((0 ≤ wr (x5 + 1) ∧ wr (x5 + 1) < L) ∧ wp_X12_unroll (sv xs (wr (x5 + 1))) i3 r4 (fun v10 i11 => wp_X12_thrown  i11 r4 (fun v17 => ((v17 = v2 → ((v2 = 0 → ((((lg_cmp (jMk (i11 540 0) (i11 540 1)) ((sJ v10).toInt64)).toInt) = 0 → s605_LC7 x5 i11 r4 xs L C) ∧ (¬ ((lg_cmp (jMk (i11 540 0) (i11 540 1)) ((sJ v10).toInt64)).toInt) = 0 → False))) ∧ (¬ v2 = 0 → s605_LC7 x5 i11 r4 xs L C))) ∧ (¬ v17 = v2 → False)))))))
set_option maxRecDepth 100000 in
set_option maxHeartbeats 4000000 in
theorem lc_0 {Γ : Cx} {Δ : Wd} {l : Launch} {R : Room} {Q0 : State → Prop} {b : Nat} {xs : Nat → Int32} {L : Nat} {x5 : Int} {kc sl : Nat} {C : MI → MI → Prop} {i r : MI} (hst : l.stackTraces = false) (hG : okG Γ Δ l R cL_law "SchedularyLaw" 9) (hX : okS Γ Δ b L xs) (hR0 : 20 ≤ R.frames ∧ 10000 ≤ R.locals ∧ kc + 3 ≤ R.cells ∧ sl + 18 ≤ R.slots) (hx5 : sR x5) (hi : okI i) (hw : Wf r) (h : wc_0 xs L C x5 i r)
    (kk : ∀ i' r' : MI, okI i' → Wf r' → C i' r' → V Γ Δ 542 false i' r' (kc + 3) (sl + 18) Q0 2281 [(0, .ref b), (1, .ref (sA Δ 0)), (2, .ref (sA Δ 504)), (3, .ref (sA Δ 540)), (4, .ref (sA Δ 541)), (5, .int (sJ x5))] []) : V Γ Δ 542 false i r kc sl Q0 256 [(0, .ref b), (1, .ref (sA Δ 0)), (2, .ref (sA Δ 504)), (3, .ref (sA Δ 540)), (4, .ref (sA Δ 541)), (5, .int (sJ x5))] [] := by
  unfold wc_0 at h
  have jn311 : ∀  (ij311 : MI), okI ij311 → s311_LC0 x5 ij311 r xs L C → V Γ Δ 542 false ij311 r (kc + 3) (sl + 18) Q0 311 [(0, .ref b), (1, .ref (sA Δ 0)), (2, .ref (sA Δ 504)), (3, .ref (sA Δ 540)), (4, .ref (sA Δ 541)), (5, .int (sJ x5))] [] := by
    intro ij311 hij311 h
    refine V.goto (pc := 311) (tgt := 2281) hG dL_law_311 (by decide) ?_
    refine V.ks (kc2 := kc + 3) (sl2 := sl + 18) (by omega) (by omega) ?_
    exact kk ij311 r hij311 hw h
  refine V.aload_n (pc := 256) hG dL_law_256 rfl 1 rfl ?_
  refine V.aload_n (pc := 257) hG dL_law_257 rfl 0 rfl ?_
  refine V.iload (pc := 258) hG dL_law_258 5 rfl ?_
  refine V.iconst (pc := 260) hG dL_law_260 ?_
  refine V.iadd (pc := 261) hG dL_law_261 ?_
  obtain ⟨g1, h⟩ := h
  refine V.sld (pc := 262) hG hX ((sR_wr _)) g1 dL_law_262 ?_
  refine V.i2c (pc := 263) hG ((sR_sv _ _)) dL_law_263 ?_
  refine V.aload_n (pc := 264) hG dL_law_264 rfl 3 rfl ?_
  refine V.callSWi (pc := 265) (na := 3) (As := [.ref (sA Δ 0), .int (sJ (((sv xs (wr (x5 + 1)))) % 65536)), .ref (sA Δ 540)]) (stk := []) hG (sm_L_type l Δ sR_c hst hi hw h) kw_157 kl_L_type (by decide) (by decide +kernel) kw_1244 kw_1245 ⟨Nat.le_trans (Nat.le_of_ble_eq_true rfl) hR0.1, Nat.le_trans (Nat.le_of_ble_eq_true rfl) hR0.2.1, by omega, by omega⟩ rfl (Nat.le_of_ble_eq_true rfl) dL_law_265 rfl (fun v2 i3 r4 hv5 hi6 hw7 hq8 => ?_)
  obtain ⟨e38, h⟩ := hq8
  subst e38
  refine V.ks (kc2 := kc + 3) (sl2 := sl + 18) (by omega) (by omega) ?_
  refine V.istore (pc := 268) (lv' := [(6, .int (sJ v2)), (0, .ref b), (1, .ref (sA Δ 0)), (2, .ref (sA Δ 504)), (3, .ref (sA Δ 540)), (4, .ref (sA Δ 541)), (5, .int (sJ x5))]) hG dL_law_268 (by decide) rfl ?_
  refine V.aload_n (pc := 270) hG dL_law_270 rfl 3 rfl ?_
  refine V.aload_n (pc := 271) hG dL_law_271 rfl 1 rfl ?_
  refine V.iload (pc := 272) hG dL_law_272 6 rfl ?_
  refine V.iconst (pc := 274) hG dL_law_274 ?_
  refine V.iadd (pc := 275) hG dL_law_275 ?_
  obtain ⟨g9, h⟩ := h
  refine V.sld (pc := 276) hG hX ((sR_wr _)) g9 dL_law_276 ?_
  refine V.i2c (pc := 277) hG ((sR_sv _ _)) dL_law_277 ?_
  refine V.callVi (pc := 278) (As := [.int (sJ (((sv xs (wr (x5 + 1)))) % 65536))]) (stk := []) hG (sm_X12_type l Δ sR_c hi6 hw h) mY_X12_type kw_1844 kw_1845 kw_1846 a_504 (by decide) (q := (RX12, TX12, 49)) rfl rfl ⟨Nat.le_trans (Nat.le_of_ble_eq_true rfl) hR0.1, Nat.le_trans (Nat.le_of_ble_eq_true rfl) hR0.2.1, by omega, by omega⟩ rfl (Nat.le_of_ble_eq_true rfl) dL_law_278 rfl (fun v10 i11 r12 hv13 hi14 hw15 hq16 => ?_)
  obtain ⟨e36, h⟩ := hq16
  subst e36
  refine V.istore (pc := 281) (lv' := [(7, .int (sJ v10)), (6, .int (sJ v2)), (0, .ref b), (1, .ref (sA Δ 0)), (2, .ref (sA Δ 504)), (3, .ref (sA Δ 540)), (4, .ref (sA Δ 541)), (5, .int (sJ x5))]) hG dL_law_281 (by decide) rfl ?_
  refine V.aload_n (pc := 283) hG dL_law_283 rfl 4 rfl ?_
  refine V.callVi (pc := 284) (As := []) (stk := []) hG (sm_X12_thrown l Δ  hi14 hw h) mY_X12_thrown kw_1840 kw_1841 kw_1842 a_504 (by decide) (q := (RX12, TX12, 49)) rfl rfl ⟨Nat.le_trans (Nat.le_of_ble_eq_true rfl) hR0.1, Nat.le_trans (Nat.le_of_ble_eq_true rfl) hR0.2.1, by omega, by omega⟩ rfl (Nat.le_of_ble_eq_true rfl) dL_law_284 rfl (fun v17 i18 r19 hv20 hi21 hw22 hq23 => ?_)
  obtain ⟨e33, e34, h⟩ := hq23
  subst e33
  subst e34
  refine V.iload (pc := 287) hG dL_law_287 1 rfl ?_
  obtain ⟨t25, f26⟩ := h
  refine V.icmp_eq (pc := 289) (tgt := 294) hG hv20 hv5 dL_law_289 (by decide) (fun c24 => ?_) (fun c24 => ?_)
  · have h := t25 c24
    clear t25 f26
    refine V.iload (pc := 294) hG dL_law_294 1 rfl ?_
    obtain ⟨f29, t28⟩ := h
    refine V.if_ne (pc := 296) (tgt := 311) hG hv5 dL_law_296 (by decide) (fun c27 => ?_) (fun c27 => ?_)
    · have h := t28 c27
      clear t28 f29
      refine V.pick [2, 3, 4, 5, 6, 7] rfl ?_
      exact jn311 i11 hi14 h
    · have h := f29 c27
      clear t28 f29
      refine V.aload_n (pc := 299) hG dL_law_299 rfl 5 rfl ?_
      refine V.iconst (pc := 300) hG dL_law_300 ?_
      refine V.lald0 (pc := 301) (z := 1) (o := 540) hG a_540 a_540.n (by decide) dL_law_301 ?_
      refine V.iload (pc := 302) hG dL_law_302 0 rfl ?_
      refine V.i2l (pc := 304) hG dL_law_304 ?_
      refine V.lcmp (pc := 305) hG dL_law_305 ?_
      obtain ⟨t31, f32⟩ := h
      refine V.if_eq (pc := 306) (tgt := 311) hG ((sR_of _)) dL_law_306 (by decide) (fun c30 => ?_) (fun c30 => ?_)
      · have h := t31 c30
        clear t31 f32
        refine V.pick [2, 3, 4, 5, 6, 7] rfl ?_
        exact jn311 i11 hi14 h
      · have h := f32 c30
        clear t31 f32
        refine V.iconst (pc := 309) hG dL_law_309 ?_
        exact h.elim
  · have h := f26 c24
    clear t25 f26
    refine V.iconst (pc := 292) hG dL_law_292 ?_
    exact h.elim
set_option maxRecDepth 100000 in
set_option maxHeartbeats 4000000 in
theorem lc_1 {Γ : Cx} {Δ : Wd} {l : Launch} {R : Room} {Q0 : State → Prop} {b : Nat} {xs : Nat → Int32} {L : Nat} {x5 : Int} {kc sl : Nat} {C : MI → MI → Prop} {i r : MI} (hst : l.stackTraces = false) (hG : okG Γ Δ l R cL_law "SchedularyLaw" 9) (hX : okS Γ Δ b L xs) (hR0 : 20 ≤ R.frames ∧ 10000 ≤ R.locals ∧ kc + 3 ≤ R.cells ∧ sl + 18 ≤ R.slots) (hx5 : sR x5) (hi : okI i) (hw : Wf r) (h : wc_1 xs L C x5 i r)
    (kk : ∀ i' r' : MI, okI i' → Wf r' → C i' r' → V Γ Δ 542 false i' r' (kc + 3) (sl + 18) Q0 2281 [(0, .ref b), (1, .ref (sA Δ 0)), (2, .ref (sA Δ 504)), (3, .ref (sA Δ 540)), (4, .ref (sA Δ 541)), (5, .int (sJ x5))] []) : V Γ Δ 542 false i r kc sl Q0 314 [(0, .ref b), (1, .ref (sA Δ 0)), (2, .ref (sA Δ 504)), (3, .ref (sA Δ 540)), (4, .ref (sA Δ 541)), (5, .int (sJ x5))] [] := by
  refine V.ks (kc2 := kc + 3) (sl2 := sl + 18) (by omega) (by omega) ?_
  unfold wc_1 at h
  refine V.aload_n (pc := 314) hG dL_law_314 rfl 1 rfl ?_
  refine V.callVi (pc := 315) (As := []) (stk := []) hG (sm_X11_clear l Δ  hi hw h) mY_X11_clear kw_610 kw_611 kw_612 a_0 (by decide) (q := (RX11, TX11, 11)) rfl rfl ⟨Nat.le_trans (Nat.le_of_ble_eq_true rfl) hR0.1, Nat.le_trans (Nat.le_of_ble_eq_true rfl) hR0.2.1, by omega, by omega⟩ rfl (Nat.le_of_ble_eq_true rfl) dL_law_315 rfl (fun v1 i2 r3 hv4 hi5 hw6 hq7 => ?_)
  obtain ⟨e21, h⟩ := hq7
  subst e21
  refine V.aload_n (pc := 318) hG dL_law_318 rfl 2 rfl ?_
  refine V.callVi (pc := 319) (As := []) (stk := [.int (sJ v1)]) hG (sm_X12_clear l Δ  hi5 hw h) mY_X12_clear kw_1857 kw_1858 kw_1859 a_504 (by decide) (q := (RX12, TX12, 49)) rfl rfl ⟨Nat.le_trans (Nat.le_of_ble_eq_true rfl) hR0.1, Nat.le_trans (Nat.le_of_ble_eq_true rfl) hR0.2.1, by omega, by omega⟩ rfl (Nat.le_of_ble_eq_true rfl) dL_law_319 rfl (fun v8 i9 r10 hv11 hi12 hw13 hq14 => ?_)
  obtain ⟨e19, h⟩ := hq14
  subst e19
  obtain ⟨t16, f17⟩ := h
  refine V.icmp_eq (pc := 322) (tgt := 2281) hG hv4 hv11 dL_law_322 (by decide) (fun c15 => ?_) (fun c15 => ?_)
  · have h := t16 c15
    clear t16 f17
    exact kk i9 r hi12 hw h
  · have h := f17 c15
    clear t16 f17
    refine V.iconst (pc := 325) hG dL_law_325 ?_
    exact h.elim
set_option maxRecDepth 100000 in
set_option maxHeartbeats 4000000 in
theorem lc_2 {Γ : Cx} {Δ : Wd} {l : Launch} {R : Room} {Q0 : State → Prop} {b : Nat} {xs : Nat → Int32} {L : Nat} {x5 : Int} {kc sl : Nat} {C : MI → MI → Prop} {i r : MI} (hst : l.stackTraces = false) (hG : okG Γ Δ l R cL_law "SchedularyLaw" 9) (hX : okS Γ Δ b L xs) (hR0 : 20 ≤ R.frames ∧ 10000 ≤ R.locals ∧ kc + 3 ≤ R.cells ∧ sl + 18 ≤ R.slots) (hx5 : sR x5) (hi : okI i) (hw : Wf r) (h : wc_2 xs L C x5 i r)
    (kk : ∀ i' r' : MI, okI i' → Wf r' → C i' r' → V Γ Δ 542 false i' r' (kc + 3) (sl + 18) Q0 2281 [(0, .ref b), (1, .ref (sA Δ 0)), (2, .ref (sA Δ 504)), (3, .ref (sA Δ 540)), (4, .ref (sA Δ 541)), (5, .int (sJ x5))] []) : V Γ Δ 542 false i r kc sl Q0 327 [(0, .ref b), (1, .ref (sA Δ 0)), (2, .ref (sA Δ 504)), (3, .ref (sA Δ 540)), (4, .ref (sA Δ 541)), (5, .int (sJ x5))] [] := by
  refine V.ks (kc2 := kc + 3) (sl2 := sl + 18) (by omega) (by omega) ?_
  unfold wc_2 at h
  refine V.aload_n (pc := 327) hG dL_law_327 rfl 1 rfl ?_
  refine V.callVi (pc := 328) (As := []) (stk := []) hG (sm_X11_fault l Δ  hi hw h) mY_X11_fault kw_618 kw_619 kw_620 a_0 (by decide) (q := (RX11, TX11, 11)) rfl rfl ⟨Nat.le_trans (Nat.le_of_ble_eq_true rfl) hR0.1, Nat.le_trans (Nat.le_of_ble_eq_true rfl) hR0.2.1, by omega, by omega⟩ rfl (Nat.le_of_ble_eq_true rfl) dL_law_328 rfl (fun v1 i2 r3 hv4 hi5 hw6 hq7 => ?_)
  obtain ⟨e21, h⟩ := hq7
  subst e21
  refine V.aload_n (pc := 331) hG dL_law_331 rfl 2 rfl ?_
  refine V.callVi (pc := 332) (As := []) (stk := [.int (sJ v1)]) hG (sm_X12_fault l Δ  hi5 hw h) mY_X12_fault kw_1861 kw_1862 kw_1863 a_504 (by decide) (q := (RX12, TX12, 49)) rfl rfl ⟨Nat.le_trans (Nat.le_of_ble_eq_true rfl) hR0.1, Nat.le_trans (Nat.le_of_ble_eq_true rfl) hR0.2.1, by omega, by omega⟩ rfl (Nat.le_of_ble_eq_true rfl) dL_law_332 rfl (fun v8 i9 r10 hv11 hi12 hw13 hq14 => ?_)
  obtain ⟨e19, h⟩ := hq14
  subst e19
  obtain ⟨t16, f17⟩ := h
  refine V.icmp_eq (pc := 335) (tgt := 2281) hG hv4 hv11 dL_law_335 (by decide) (fun c15 => ?_) (fun c15 => ?_)
  · have h := t16 c15
    clear t16 f17
    exact kk i9 r hi12 hw h
  · have h := f17 c15
    clear t16 f17
    refine V.iconst (pc := 338) hG dL_law_338 ?_
    exact h.elim
set_option maxRecDepth 100000 in
set_option maxHeartbeats 4000000 in
theorem lc_3 {Γ : Cx} {Δ : Wd} {l : Launch} {R : Room} {Q0 : State → Prop} {b : Nat} {xs : Nat → Int32} {L : Nat} {x5 : Int} {kc sl : Nat} {C : MI → MI → Prop} {i r : MI} (hst : l.stackTraces = false) (hG : okG Γ Δ l R cL_law "SchedularyLaw" 9) (hX : okS Γ Δ b L xs) (hR0 : 20 ≤ R.frames ∧ 10000 ≤ R.locals ∧ kc + 3 ≤ R.cells ∧ sl + 18 ≤ R.slots) (hx5 : sR x5) (hi : okI i) (hw : Wf r) (h : wc_3 xs L C x5 i r)
    (kk : ∀ i' r' : MI, okI i' → Wf r' → C i' r' → V Γ Δ 542 false i' r' (kc + 3) (sl + 18) Q0 2281 [(0, .ref b), (1, .ref (sA Δ 0)), (2, .ref (sA Δ 504)), (3, .ref (sA Δ 540)), (4, .ref (sA Δ 541)), (5, .int (sJ x5))] []) : V Γ Δ 542 false i r kc sl Q0 340 [(0, .ref b), (1, .ref (sA Δ 0)), (2, .ref (sA Δ 504)), (3, .ref (sA Δ 540)), (4, .ref (sA Δ 541)), (5, .int (sJ x5))] [] := by
  unfold wc_3 at h
  have jn381 : ∀  (ij381 : MI) (rj381 : MI), okI ij381 → Wf rj381 → s381_LC3 x5 ij381 rj381 xs L C → V Γ Δ 542 false ij381 rj381 (kc + 3) (sl + 18) Q0 381 [(0, .ref b), (1, .ref (sA Δ 0)), (2, .ref (sA Δ 504)), (3, .ref (sA Δ 540)), (4, .ref (sA Δ 541)), (5, .int (sJ x5))] [] := by
    intro ij381 rj381 hij381 hwj381 h
    refine V.goto (pc := 381) (tgt := 2281) hG dL_law_381 (by decide) ?_
    refine V.ks (kc2 := kc + 3) (sl2 := sl + 18) (by omega) (by omega) ?_
    exact kk ij381 rj381 hij381 hwj381 h
  refine V.aload_n (pc := 340) hG dL_law_340 rfl 1 rfl ?_
  refine V.aload_n (pc := 341) hG dL_law_341 rfl 3 rfl ?_
  refine V.callSWi (pc := 342) (na := 2) (As := [.ref (sA Δ 0), .ref (sA Δ 540)]) (stk := []) hG (sm_L_add l Δ  hst hi hw h) kw_157 kl_L_add (by decide) (by decide +kernel) kw_1346 kw_1347 ⟨Nat.le_trans (Nat.le_of_ble_eq_true rfl) hR0.1, Nat.le_trans (Nat.le_of_ble_eq_true rfl) hR0.2.1, by omega, by omega⟩ rfl (Nat.le_of_ble_eq_true rfl) dL_law_342 rfl (fun v1 i2 r3 hv4 hi5 hw6 hq7 => ?_)
  have h := hq7
  refine V.ks (kc2 := kc + 3) (sl2 := sl + 18) (by omega) (by omega) ?_
  refine V.istore (pc := 345) (lv' := [(6, .int (sJ v1)), (0, .ref b), (1, .ref (sA Δ 0)), (2, .ref (sA Δ 504)), (3, .ref (sA Δ 540)), (4, .ref (sA Δ 541)), (5, .int (sJ x5))]) hG dL_law_345 (by decide) rfl ?_
  refine V.aload_n (pc := 347) hG dL_law_347 rfl 3 rfl ?_
  refine V.callVi (pc := 348) (As := []) (stk := []) hG (sm_X12_add l Δ  hi5 hw6 h) mY_X12_add kw_1898 kw_1899 kw_1900 a_504 (by decide) (q := (RX12, TX12, 49)) rfl rfl ⟨Nat.le_trans (Nat.le_of_ble_eq_true rfl) hR0.1, Nat.le_trans (Nat.le_of_ble_eq_true rfl) hR0.2.1, by omega, by omega⟩ rfl (Nat.le_of_ble_eq_true rfl) dL_law_348 rfl (fun v8 i9 r10 hv11 hi12 hw13 hq14 => ?_)
  obtain ⟨e34, h⟩ := hq14
  subst e34
  refine V.istore (pc := 351) (lv' := [(7, .int (sJ v8)), (6, .int (sJ v1)), (0, .ref b), (1, .ref (sA Δ 0)), (2, .ref (sA Δ 504)), (3, .ref (sA Δ 540)), (4, .ref (sA Δ 541)), (5, .int (sJ x5))]) hG dL_law_351 (by decide) rfl ?_
  refine V.aload_n (pc := 353) hG dL_law_353 rfl 4 rfl ?_
  refine V.callVi (pc := 354) (As := []) (stk := []) hG (sm_X12_thrown l Δ  hi12 hw6 h) mY_X12_thrown kw_1840 kw_1841 kw_1842 a_504 (by decide) (q := (RX12, TX12, 49)) rfl rfl ⟨Nat.le_trans (Nat.le_of_ble_eq_true rfl) hR0.1, Nat.le_trans (Nat.le_of_ble_eq_true rfl) hR0.2.1, by omega, by omega⟩ rfl (Nat.le_of_ble_eq_true rfl) dL_law_354 rfl (fun v15 i16 r17 hv18 hi19 hw20 hq21 => ?_)
  obtain ⟨e31, e32, h⟩ := hq21
  subst e31
  subst e32
  refine V.iload (pc := 357) hG dL_law_357 1 rfl ?_
  obtain ⟨t23, f24⟩ := h
  refine V.icmp_eq (pc := 359) (tgt := 364) hG hv18 hv4 dL_law_359 (by decide) (fun c22 => ?_) (fun c22 => ?_)
  · have h := t23 c22
    clear t23 f24
    refine V.iload (pc := 364) hG dL_law_364 1 rfl ?_
    obtain ⟨f27, t26⟩ := h
    refine V.if_ne (pc := 366) (tgt := 381) hG hv4 dL_law_366 (by decide) (fun c25 => ?_) (fun c25 => ?_)
    · have h := t26 c25
      clear t26 f27
      refine V.pick [2, 3, 4, 5, 6, 7] rfl ?_
      exact jn381 i9 r3 hi12 hw6 h
    · have h := f27 c25
      clear t26 f27
      refine V.aload_n (pc := 369) hG dL_law_369 rfl 5 rfl ?_
      refine V.iconst (pc := 370) hG dL_law_370 ?_
      refine V.lald0 (pc := 371) (z := 1) (o := 540) hG a_540 a_540.n (by decide) dL_law_371 ?_
      refine V.iload (pc := 372) hG dL_law_372 0 rfl ?_
      refine V.i2l (pc := 374) hG dL_law_374 ?_
      refine V.lcmp (pc := 375) hG dL_law_375 ?_
      obtain ⟨t29, f30⟩ := h
      refine V.if_eq (pc := 376) (tgt := 381) hG ((sR_of _)) dL_law_376 (by decide) (fun c28 => ?_) (fun c28 => ?_)
      · have h := t29 c28
        clear t29 f30
        refine V.pick [2, 3, 4, 5, 6, 7] rfl ?_
        exact jn381 i9 r3 hi12 hw6 h
      · have h := f30 c28
        clear t29 f30
        refine V.iconst (pc := 379) hG dL_law_379 ?_
        exact h.elim
  · have h := f24 c22
    clear t23 f24
    refine V.iconst (pc := 362) hG dL_law_362 ?_
    exact h.elim
set_option maxRecDepth 100000 in
set_option maxHeartbeats 4000000 in
theorem lc_4 {Γ : Cx} {Δ : Wd} {l : Launch} {R : Room} {Q0 : State → Prop} {b : Nat} {xs : Nat → Int32} {L : Nat} {x5 : Int} {kc sl : Nat} {C : MI → MI → Prop} {i r : MI} (hst : l.stackTraces = false) (hG : okG Γ Δ l R cL_law "SchedularyLaw" 9) (hX : okS Γ Δ b L xs) (hR0 : 20 ≤ R.frames ∧ 10000 ≤ R.locals ∧ kc + 3 ≤ R.cells ∧ sl + 18 ≤ R.slots) (hx5 : sR x5) (hi : okI i) (hw : Wf r) (h : wc_4 xs L C x5 i r)
    (kk : ∀ i' r' : MI, okI i' → Wf r' → C i' r' → V Γ Δ 542 false i' r' (kc + 3) (sl + 18) Q0 2281 [(0, .ref b), (1, .ref (sA Δ 0)), (2, .ref (sA Δ 504)), (3, .ref (sA Δ 540)), (4, .ref (sA Δ 541)), (5, .int (sJ x5))] []) : V Γ Δ 542 false i r kc sl Q0 384 [(0, .ref b), (1, .ref (sA Δ 0)), (2, .ref (sA Δ 504)), (3, .ref (sA Δ 540)), (4, .ref (sA Δ 541)), (5, .int (sJ x5))] [] := by
  unfold wc_4 at h
  have jn437 : ∀  (ij437 : MI) (rj437 : MI), okI ij437 → Wf rj437 → s437_LC4 x5 ij437 rj437 xs L C → V Γ Δ 542 false ij437 rj437 (kc + 3) (sl + 18) Q0 437 [(0, .ref b), (1, .ref (sA Δ 0)), (2, .ref (sA Δ 504)), (3, .ref (sA Δ 540)), (4, .ref (sA Δ 541)), (5, .int (sJ x5))] [] := by
    intro ij437 rj437 hij437 hwj437 h
    refine V.goto (pc := 437) (tgt := 2281) hG dL_law_437 (by decide) ?_
    refine V.ks (kc2 := kc + 3) (sl2 := sl + 18) (by omega) (by omega) ?_
    exact kk ij437 rj437 hij437 hwj437 h
  refine V.aload_n (pc := 384) hG dL_law_384 rfl 1 rfl ?_
  refine V.aload_n (pc := 385) hG dL_law_385 rfl 0 rfl ?_
  refine V.iload (pc := 386) hG dL_law_386 5 rfl ?_
  refine V.iconst (pc := 388) hG dL_law_388 ?_
  refine V.iadd (pc := 389) hG dL_law_389 ?_
  obtain ⟨g1, h⟩ := h
  refine V.sld (pc := 390) hG hX ((sR_wr _)) g1 dL_law_390 ?_
  refine V.aload_n (pc := 391) hG dL_law_391 rfl 3 rfl ?_
  refine V.callSWi (pc := 392) (na := 3) (As := [.ref (sA Δ 0), .int (sJ (sv xs (wr (x5 + 1)))), .ref (sA Δ 540)]) (stk := []) hG (sm_L_replace l Δ ((sR_sv _ _)) hst hi hw h) kw_157 kl_L_replace (by decide) (by decide +kernel) kw_1363 kw_1364 ⟨Nat.le_trans (Nat.le_of_ble_eq_true rfl) hR0.1, Nat.le_trans (Nat.le_of_ble_eq_true rfl) hR0.2.1, by omega, by omega⟩ rfl (Nat.le_of_ble_eq_true rfl) dL_law_392 rfl (fun v2 i3 r4 hv5 hi6 hw7 hq8 => ?_)
  have h := hq8
  refine V.ks (kc2 := kc + 3) (sl2 := sl + 18) (by omega) (by omega) ?_
  refine V.istore (pc := 395) (lv' := [(6, .int (sJ v2)), (0, .ref b), (1, .ref (sA Δ 0)), (2, .ref (sA Δ 504)), (3, .ref (sA Δ 540)), (4, .ref (sA Δ 541)), (5, .int (sJ x5))]) hG dL_law_395 (by decide) rfl ?_
  refine V.aload_n (pc := 397) hG dL_law_397 rfl 3 rfl ?_
  refine V.aload_n (pc := 398) hG dL_law_398 rfl 1 rfl ?_
  refine V.iload (pc := 399) hG dL_law_399 6 rfl ?_
  refine V.iconst (pc := 401) hG dL_law_401 ?_
  refine V.iadd (pc := 402) hG dL_law_402 ?_
  obtain ⟨g9, h⟩ := h
  refine V.sld (pc := 403) hG hX ((sR_wr _)) g9 dL_law_403 ?_
  refine V.callVi (pc := 404) (As := [.int (sJ (sv xs (wr (x5 + 1))))]) (stk := []) hG (sm_X12_replace l Δ ((sR_sv _ _)) hi6 hw7 h) mY_X12_replace kw_1906 kw_1907 kw_1908 a_504 (by decide) (q := (RX12, TX12, 49)) rfl rfl ⟨Nat.le_trans (Nat.le_of_ble_eq_true rfl) hR0.1, Nat.le_trans (Nat.le_of_ble_eq_true rfl) hR0.2.1, by omega, by omega⟩ rfl (Nat.le_of_ble_eq_true rfl) dL_law_404 rfl (fun v10 i11 r12 hv13 hi14 hw15 hq16 => ?_)
  obtain ⟨e36, h⟩ := hq16
  subst e36
  refine V.istore (pc := 407) (lv' := [(7, .int (sJ v10)), (6, .int (sJ v2)), (0, .ref b), (1, .ref (sA Δ 0)), (2, .ref (sA Δ 504)), (3, .ref (sA Δ 540)), (4, .ref (sA Δ 541)), (5, .int (sJ x5))]) hG dL_law_407 (by decide) rfl ?_
  refine V.aload_n (pc := 409) hG dL_law_409 rfl 4 rfl ?_
  refine V.callVi (pc := 410) (As := []) (stk := []) hG (sm_X12_thrown l Δ  hi14 hw7 h) mY_X12_thrown kw_1840 kw_1841 kw_1842 a_504 (by decide) (q := (RX12, TX12, 49)) rfl rfl ⟨Nat.le_trans (Nat.le_of_ble_eq_true rfl) hR0.1, Nat.le_trans (Nat.le_of_ble_eq_true rfl) hR0.2.1, by omega, by omega⟩ rfl (Nat.le_of_ble_eq_true rfl) dL_law_410 rfl (fun v17 i18 r19 hv20 hi21 hw22 hq23 => ?_)
  obtain ⟨e33, e34, h⟩ := hq23
  subst e33
  subst e34
  refine V.iload (pc := 413) hG dL_law_413 1 rfl ?_
  obtain ⟨t25, f26⟩ := h
  refine V.icmp_eq (pc := 415) (tgt := 420) hG hv20 hv5 dL_law_415 (by decide) (fun c24 => ?_) (fun c24 => ?_)
  · have h := t25 c24
    clear t25 f26
    refine V.iload (pc := 420) hG dL_law_420 1 rfl ?_
    obtain ⟨f29, t28⟩ := h
    refine V.if_ne (pc := 422) (tgt := 437) hG hv5 dL_law_422 (by decide) (fun c27 => ?_) (fun c27 => ?_)
    · have h := t28 c27
      clear t28 f29
      refine V.pick [2, 3, 4, 5, 6, 7] rfl ?_
      exact jn437 i11 r4 hi14 hw7 h
    · have h := f29 c27
      clear t28 f29
      refine V.aload_n (pc := 425) hG dL_law_425 rfl 5 rfl ?_
      refine V.iconst (pc := 426) hG dL_law_426 ?_
      refine V.lald0 (pc := 427) (z := 1) (o := 540) hG a_540 a_540.n (by decide) dL_law_427 ?_
      refine V.iload (pc := 428) hG dL_law_428 0 rfl ?_
      refine V.i2l (pc := 430) hG dL_law_430 ?_
      refine V.lcmp (pc := 431) hG dL_law_431 ?_
      obtain ⟨t31, f32⟩ := h
      refine V.if_eq (pc := 432) (tgt := 437) hG ((sR_of _)) dL_law_432 (by decide) (fun c30 => ?_) (fun c30 => ?_)
      · have h := t31 c30
        clear t31 f32
        refine V.pick [2, 3, 4, 5, 6, 7] rfl ?_
        exact jn437 i11 r4 hi14 hw7 h
      · have h := f32 c30
        clear t31 f32
        refine V.iconst (pc := 435) hG dL_law_435 ?_
        exact h.elim
  · have h := f26 c24
    clear t25 f26
    refine V.iconst (pc := 418) hG dL_law_418 ?_
    exact h.elim
set_option maxRecDepth 100000 in
set_option maxHeartbeats 4000000 in
theorem lc_5 {Γ : Cx} {Δ : Wd} {l : Launch} {R : Room} {Q0 : State → Prop} {b : Nat} {xs : Nat → Int32} {L : Nat} {x5 : Int} {kc sl : Nat} {C : MI → MI → Prop} {i r : MI} (hst : l.stackTraces = false) (hG : okG Γ Δ l R cL_law "SchedularyLaw" 9) (hX : okS Γ Δ b L xs) (hR0 : 20 ≤ R.frames ∧ 10000 ≤ R.locals ∧ kc + 3 ≤ R.cells ∧ sl + 18 ≤ R.slots) (hx5 : sR x5) (hi : okI i) (hw : Wf r) (h : wc_5 xs L C x5 i r)
    (kk : ∀ i' r' : MI, okI i' → Wf r' → C i' r' → V Γ Δ 542 false i' r' (kc + 3) (sl + 18) Q0 2281 [(0, .ref b), (1, .ref (sA Δ 0)), (2, .ref (sA Δ 504)), (3, .ref (sA Δ 540)), (4, .ref (sA Δ 541)), (5, .int (sJ x5))] []) : V Γ Δ 542 false i r kc sl Q0 440 [(0, .ref b), (1, .ref (sA Δ 0)), (2, .ref (sA Δ 504)), (3, .ref (sA Δ 540)), (4, .ref (sA Δ 541)), (5, .int (sJ x5))] [] := by
  unfold wc_5 at h
  have jn493 : ∀  (ij493 : MI), okI ij493 → s493_LC5 x5 ij493 r xs L C → V Γ Δ 542 false ij493 r (kc + 3) (sl + 18) Q0 493 [(0, .ref b), (1, .ref (sA Δ 0)), (2, .ref (sA Δ 504)), (3, .ref (sA Δ 540)), (4, .ref (sA Δ 541)), (5, .int (sJ x5))] [] := by
    intro ij493 hij493 h
    refine V.goto (pc := 493) (tgt := 2281) hG dL_law_493 (by decide) ?_
    refine V.ks (kc2 := kc + 3) (sl2 := sl + 18) (by omega) (by omega) ?_
    exact kk ij493 r hij493 hw h
  refine V.aload_n (pc := 440) hG dL_law_440 rfl 1 rfl ?_
  refine V.aload_n (pc := 441) hG dL_law_441 rfl 0 rfl ?_
  refine V.iload (pc := 442) hG dL_law_442 5 rfl ?_
  refine V.iconst (pc := 444) hG dL_law_444 ?_
  refine V.iadd (pc := 445) hG dL_law_445 ?_
  obtain ⟨g1, h⟩ := h
  refine V.sld (pc := 446) hG hX ((sR_wr _)) g1 dL_law_446 ?_
  refine V.aload_n (pc := 447) hG dL_law_447 rfl 3 rfl ?_
  refine V.callSWi (pc := 448) (na := 3) (As := [.ref (sA Δ 0), .int (sJ (sv xs (wr (x5 + 1)))), .ref (sA Δ 540)]) (stk := []) hG (sm_L_setTurns l Δ ((sR_sv _ _)) hst hi hw h) kw_157 kl_L_setTurns (by decide) (by decide +kernel) kw_1407 kw_1408 ⟨Nat.le_trans (Nat.le_of_ble_eq_true rfl) hR0.1, Nat.le_trans (Nat.le_of_ble_eq_true rfl) hR0.2.1, by omega, by omega⟩ rfl (Nat.le_of_ble_eq_true rfl) dL_law_448 rfl (fun v2 i3 r4 hv5 hi6 hw7 hq8 => ?_)
  obtain ⟨e38, h⟩ := hq8
  subst e38
  refine V.ks (kc2 := kc + 3) (sl2 := sl + 18) (by omega) (by omega) ?_
  refine V.istore (pc := 451) (lv' := [(6, .int (sJ v2)), (0, .ref b), (1, .ref (sA Δ 0)), (2, .ref (sA Δ 504)), (3, .ref (sA Δ 540)), (4, .ref (sA Δ 541)), (5, .int (sJ x5))]) hG dL_law_451 (by decide) rfl ?_
  refine V.aload_n (pc := 453) hG dL_law_453 rfl 3 rfl ?_
  refine V.aload_n (pc := 454) hG dL_law_454 rfl 1 rfl ?_
  refine V.iload (pc := 455) hG dL_law_455 6 rfl ?_
  refine V.iconst (pc := 457) hG dL_law_457 ?_
  refine V.iadd (pc := 458) hG dL_law_458 ?_
  obtain ⟨g9, h⟩ := h
  refine V.sld (pc := 459) hG hX ((sR_wr _)) g9 dL_law_459 ?_
  refine V.callVi (pc := 460) (As := [.int (sJ (sv xs (wr (x5 + 1))))]) (stk := []) hG (sm_X12_setTurns l Δ ((sR_sv _ _)) hi6 hw h) mY_X12_setTurns kw_1972 kw_1973 kw_1974 a_504 (by decide) (q := (RX12, TX12, 49)) rfl rfl ⟨Nat.le_trans (Nat.le_of_ble_eq_true rfl) hR0.1, Nat.le_trans (Nat.le_of_ble_eq_true rfl) hR0.2.1, by omega, by omega⟩ rfl (Nat.le_of_ble_eq_true rfl) dL_law_460 rfl (fun v10 i11 r12 hv13 hi14 hw15 hq16 => ?_)
  obtain ⟨e36, h⟩ := hq16
  subst e36
  refine V.istore (pc := 463) (lv' := [(7, .int (sJ v10)), (6, .int (sJ v2)), (0, .ref b), (1, .ref (sA Δ 0)), (2, .ref (sA Δ 504)), (3, .ref (sA Δ 540)), (4, .ref (sA Δ 541)), (5, .int (sJ x5))]) hG dL_law_463 (by decide) rfl ?_
  refine V.aload_n (pc := 465) hG dL_law_465 rfl 4 rfl ?_
  refine V.callVi (pc := 466) (As := []) (stk := []) hG (sm_X12_thrown l Δ  hi14 hw h) mY_X12_thrown kw_1840 kw_1841 kw_1842 a_504 (by decide) (q := (RX12, TX12, 49)) rfl rfl ⟨Nat.le_trans (Nat.le_of_ble_eq_true rfl) hR0.1, Nat.le_trans (Nat.le_of_ble_eq_true rfl) hR0.2.1, by omega, by omega⟩ rfl (Nat.le_of_ble_eq_true rfl) dL_law_466 rfl (fun v17 i18 r19 hv20 hi21 hw22 hq23 => ?_)
  obtain ⟨e33, e34, h⟩ := hq23
  subst e33
  subst e34
  refine V.iload (pc := 469) hG dL_law_469 1 rfl ?_
  obtain ⟨t25, f26⟩ := h
  refine V.icmp_eq (pc := 471) (tgt := 476) hG hv20 hv5 dL_law_471 (by decide) (fun c24 => ?_) (fun c24 => ?_)
  · have h := t25 c24
    clear t25 f26
    refine V.iload (pc := 476) hG dL_law_476 1 rfl ?_
    obtain ⟨f29, t28⟩ := h
    refine V.if_ne (pc := 478) (tgt := 493) hG hv5 dL_law_478 (by decide) (fun c27 => ?_) (fun c27 => ?_)
    · have h := t28 c27
      clear t28 f29
      refine V.pick [2, 3, 4, 5, 6, 7] rfl ?_
      exact jn493 i11 hi14 h
    · have h := f29 c27
      clear t28 f29
      refine V.aload_n (pc := 481) hG dL_law_481 rfl 5 rfl ?_
      refine V.iconst (pc := 482) hG dL_law_482 ?_
      refine V.lald0 (pc := 483) (z := 1) (o := 540) hG a_540 a_540.n (by decide) dL_law_483 ?_
      refine V.iload (pc := 484) hG dL_law_484 0 rfl ?_
      refine V.i2l (pc := 486) hG dL_law_486 ?_
      refine V.lcmp (pc := 487) hG dL_law_487 ?_
      obtain ⟨t31, f32⟩ := h
      refine V.if_eq (pc := 488) (tgt := 493) hG ((sR_of _)) dL_law_488 (by decide) (fun c30 => ?_) (fun c30 => ?_)
      · have h := t31 c30
        clear t31 f32
        refine V.pick [2, 3, 4, 5, 6, 7] rfl ?_
        exact jn493 i11 hi14 h
      · have h := f32 c30
        clear t31 f32
        refine V.iconst (pc := 491) hG dL_law_491 ?_
        exact h.elim
  · have h := f26 c24
    clear t25 f26
    refine V.iconst (pc := 474) hG dL_law_474 ?_
    exact h.elim
set_option maxRecDepth 100000 in
set_option maxHeartbeats 4000000 in
theorem lc_6 {Γ : Cx} {Δ : Wd} {l : Launch} {R : Room} {Q0 : State → Prop} {b : Nat} {xs : Nat → Int32} {L : Nat} {x5 : Int} {kc sl : Nat} {C : MI → MI → Prop} {i r : MI} (hst : l.stackTraces = false) (hG : okG Γ Δ l R cL_law "SchedularyLaw" 9) (hX : okS Γ Δ b L xs) (hR0 : 20 ≤ R.frames ∧ 10000 ≤ R.locals ∧ kc + 3 ≤ R.cells ∧ sl + 18 ≤ R.slots) (hx5 : sR x5) (hi : okI i) (hw : Wf r) (h : wc_6 xs L C x5 i r)
    (kk : ∀ i' r' : MI, okI i' → Wf r' → C i' r' → V Γ Δ 542 false i' r' (kc + 3) (sl + 18) Q0 2281 [(0, .ref b), (1, .ref (sA Δ 0)), (2, .ref (sA Δ 504)), (3, .ref (sA Δ 540)), (4, .ref (sA Δ 541)), (5, .int (sJ x5))] []) : V Γ Δ 542 false i r kc sl Q0 496 [(0, .ref b), (1, .ref (sA Δ 0)), (2, .ref (sA Δ 504)), (3, .ref (sA Δ 540)), (4, .ref (sA Δ 541)), (5, .int (sJ x5))] [] := by
  unfold wc_6 at h
  have jn549 : ∀  (ij549 : MI), okI ij549 → s549_LC6 x5 ij549 r xs L C → V Γ Δ 542 false ij549 r (kc + 3) (sl + 18) Q0 549 [(0, .ref b), (1, .ref (sA Δ 0)), (2, .ref (sA Δ 504)), (3, .ref (sA Δ 540)), (4, .ref (sA Δ 541)), (5, .int (sJ x5))] [] := by
    intro ij549 hij549 h
    refine V.goto (pc := 549) (tgt := 2281) hG dL_law_549 (by decide) ?_
    refine V.ks (kc2 := kc + 3) (sl2 := sl + 18) (by omega) (by omega) ?_
    exact kk ij549 r hij549 hw h
  refine V.aload_n (pc := 496) hG dL_law_496 rfl 1 rfl ?_
  refine V.aload_n (pc := 497) hG dL_law_497 rfl 0 rfl ?_
  refine V.iload (pc := 498) hG dL_law_498 5 rfl ?_
  refine V.iconst (pc := 500) hG dL_law_500 ?_
  refine V.iadd (pc := 501) hG dL_law_501 ?_
  obtain ⟨g1, h⟩ := h
  refine V.sld (pc := 502) hG hX ((sR_wr _)) g1 dL_law_502 ?_
  refine V.aload_n (pc := 503) hG dL_law_503 rfl 3 rfl ?_
  refine V.callSWi (pc := 504) (na := 3) (As := [.ref (sA Δ 0), .int (sJ (sv xs (wr (x5 + 1)))), .ref (sA Δ 540)]) (stk := []) hG (sm_L_setBits l Δ ((sR_sv _ _)) hst hi hw h) kw_157 kl_L_setBits (by decide) (by decide +kernel) kw_1439 kw_1440 ⟨Nat.le_trans (Nat.le_of_ble_eq_true rfl) hR0.1, Nat.le_trans (Nat.le_of_ble_eq_true rfl) hR0.2.1, by omega, by omega⟩ rfl (Nat.le_of_ble_eq_true rfl) dL_law_504 rfl (fun v2 i3 r4 hv5 hi6 hw7 hq8 => ?_)
  obtain ⟨e38, h⟩ := hq8
  subst e38
  refine V.ks (kc2 := kc + 3) (sl2 := sl + 18) (by omega) (by omega) ?_
  refine V.istore (pc := 507) (lv' := [(6, .int (sJ v2)), (0, .ref b), (1, .ref (sA Δ 0)), (2, .ref (sA Δ 504)), (3, .ref (sA Δ 540)), (4, .ref (sA Δ 541)), (5, .int (sJ x5))]) hG dL_law_507 (by decide) rfl ?_
  refine V.aload_n (pc := 509) hG dL_law_509 rfl 3 rfl ?_
  refine V.aload_n (pc := 510) hG dL_law_510 rfl 1 rfl ?_
  refine V.iload (pc := 511) hG dL_law_511 6 rfl ?_
  refine V.iconst (pc := 513) hG dL_law_513 ?_
  refine V.iadd (pc := 514) hG dL_law_514 ?_
  obtain ⟨g9, h⟩ := h
  refine V.sld (pc := 515) hG hX ((sR_wr _)) g9 dL_law_515 ?_
  refine V.callVi (pc := 516) (As := [.int (sJ (sv xs (wr (x5 + 1))))]) (stk := []) hG (sm_X12_setBits l Δ ((sR_sv _ _)) hi6 hw h) mY_X12_setBits kw_1976 kw_1977 kw_1978 a_504 (by decide) (q := (RX12, TX12, 49)) rfl rfl ⟨Nat.le_trans (Nat.le_of_ble_eq_true rfl) hR0.1, Nat.le_trans (Nat.le_of_ble_eq_true rfl) hR0.2.1, by omega, by omega⟩ rfl (Nat.le_of_ble_eq_true rfl) dL_law_516 rfl (fun v10 i11 r12 hv13 hi14 hw15 hq16 => ?_)
  obtain ⟨e36, h⟩ := hq16
  subst e36
  refine V.istore (pc := 519) (lv' := [(7, .int (sJ v10)), (6, .int (sJ v2)), (0, .ref b), (1, .ref (sA Δ 0)), (2, .ref (sA Δ 504)), (3, .ref (sA Δ 540)), (4, .ref (sA Δ 541)), (5, .int (sJ x5))]) hG dL_law_519 (by decide) rfl ?_
  refine V.aload_n (pc := 521) hG dL_law_521 rfl 4 rfl ?_
  refine V.callVi (pc := 522) (As := []) (stk := []) hG (sm_X12_thrown l Δ  hi14 hw h) mY_X12_thrown kw_1840 kw_1841 kw_1842 a_504 (by decide) (q := (RX12, TX12, 49)) rfl rfl ⟨Nat.le_trans (Nat.le_of_ble_eq_true rfl) hR0.1, Nat.le_trans (Nat.le_of_ble_eq_true rfl) hR0.2.1, by omega, by omega⟩ rfl (Nat.le_of_ble_eq_true rfl) dL_law_522 rfl (fun v17 i18 r19 hv20 hi21 hw22 hq23 => ?_)
  obtain ⟨e33, e34, h⟩ := hq23
  subst e33
  subst e34
  refine V.iload (pc := 525) hG dL_law_525 1 rfl ?_
  obtain ⟨t25, f26⟩ := h
  refine V.icmp_eq (pc := 527) (tgt := 532) hG hv20 hv5 dL_law_527 (by decide) (fun c24 => ?_) (fun c24 => ?_)
  · have h := t25 c24
    clear t25 f26
    refine V.iload (pc := 532) hG dL_law_532 1 rfl ?_
    obtain ⟨f29, t28⟩ := h
    refine V.if_ne (pc := 534) (tgt := 549) hG hv5 dL_law_534 (by decide) (fun c27 => ?_) (fun c27 => ?_)
    · have h := t28 c27
      clear t28 f29
      refine V.pick [2, 3, 4, 5, 6, 7] rfl ?_
      exact jn549 i11 hi14 h
    · have h := f29 c27
      clear t28 f29
      refine V.aload_n (pc := 537) hG dL_law_537 rfl 5 rfl ?_
      refine V.iconst (pc := 538) hG dL_law_538 ?_
      refine V.lald0 (pc := 539) (z := 1) (o := 540) hG a_540 a_540.n (by decide) dL_law_539 ?_
      refine V.iload (pc := 540) hG dL_law_540 0 rfl ?_
      refine V.i2l (pc := 542) hG dL_law_542 ?_
      refine V.lcmp (pc := 543) hG dL_law_543 ?_
      obtain ⟨t31, f32⟩ := h
      refine V.if_eq (pc := 544) (tgt := 549) hG ((sR_of _)) dL_law_544 (by decide) (fun c30 => ?_) (fun c30 => ?_)
      · have h := t31 c30
        clear t31 f32
        refine V.pick [2, 3, 4, 5, 6, 7] rfl ?_
        exact jn549 i11 hi14 h
      · have h := f32 c30
        clear t31 f32
        refine V.iconst (pc := 547) hG dL_law_547 ?_
        exact h.elim
  · have h := f26 c24
    clear t25 f26
    refine V.iconst (pc := 530) hG dL_law_530 ?_
    exact h.elim
set_option maxRecDepth 100000 in
set_option maxHeartbeats 4000000 in
theorem lc_7 {Γ : Cx} {Δ : Wd} {l : Launch} {R : Room} {Q0 : State → Prop} {b : Nat} {xs : Nat → Int32} {L : Nat} {x5 : Int} {kc sl : Nat} {C : MI → MI → Prop} {i r : MI} (hst : l.stackTraces = false) (hG : okG Γ Δ l R cL_law "SchedularyLaw" 9) (hX : okS Γ Δ b L xs) (hR0 : 20 ≤ R.frames ∧ 10000 ≤ R.locals ∧ kc + 3 ≤ R.cells ∧ sl + 18 ≤ R.slots) (hx5 : sR x5) (hi : okI i) (hw : Wf r) (h : wc_7 xs L C x5 i r)
    (kk : ∀ i' r' : MI, okI i' → Wf r' → C i' r' → V Γ Δ 542 false i' r' (kc + 3) (sl + 18) Q0 2281 [(0, .ref b), (1, .ref (sA Δ 0)), (2, .ref (sA Δ 504)), (3, .ref (sA Δ 540)), (4, .ref (sA Δ 541)), (5, .int (sJ x5))] []) : V Γ Δ 542 false i r kc sl Q0 552 [(0, .ref b), (1, .ref (sA Δ 0)), (2, .ref (sA Δ 504)), (3, .ref (sA Δ 540)), (4, .ref (sA Δ 541)), (5, .int (sJ x5))] [] := by
  unfold wc_7 at h
  have jn605 : ∀  (ij605 : MI) (rj605 : MI), okI ij605 → Wf rj605 → s605_LC7 x5 ij605 rj605 xs L C → V Γ Δ 542 false ij605 rj605 (kc + 3) (sl + 18) Q0 605 [(0, .ref b), (1, .ref (sA Δ 0)), (2, .ref (sA Δ 504)), (3, .ref (sA Δ 540)), (4, .ref (sA Δ 541)), (5, .int (sJ x5))] [] := by
    intro ij605 rj605 hij605 hwj605 h
    refine V.goto (pc := 605) (tgt := 2281) hG dL_law_605 (by decide) ?_
    refine V.ks (kc2 := kc + 3) (sl2 := sl + 18) (by omega) (by omega) ?_
    exact kk ij605 rj605 hij605 hwj605 h
  refine V.aload_n (pc := 552) hG dL_law_552 rfl 1 rfl ?_
  refine V.aload_n (pc := 553) hG dL_law_553 rfl 0 rfl ?_
  refine V.iload (pc := 554) hG dL_law_554 5 rfl ?_
  refine V.iconst (pc := 556) hG dL_law_556 ?_
  refine V.iadd (pc := 557) hG dL_law_557 ?_
  obtain ⟨g1, h⟩ := h
  refine V.sld (pc := 558) hG hX ((sR_wr _)) g1 dL_law_558 ?_
  refine V.aload_n (pc := 559) hG dL_law_559 rfl 3 rfl ?_
  refine V.callSWi (pc := 560) (na := 3) (As := [.ref (sA Δ 0), .int (sJ (sv xs (wr (x5 + 1)))), .ref (sA Δ 540)]) (stk := []) hG (sm_L_unroll l Δ ((sR_sv _ _)) hst hi hw h) kw_157 kl_L_unroll (by decide) (by decide +kernel) kw_1447 kw_1448 ⟨Nat.le_trans (Nat.le_of_ble_eq_true rfl) hR0.1, Nat.le_trans (Nat.le_of_ble_eq_true rfl) hR0.2.1, by omega, by omega⟩ rfl (Nat.le_of_ble_eq_true rfl) dL_law_560 rfl (fun v2 i3 r4 hv5 hi6 hw7 hq8 => ?_)
  have h := hq8
  refine V.ks (kc2 := kc + 3) (sl2 := sl + 18) (by omega) (by omega) ?_
  refine V.istore (pc := 563) (lv' := [(6, .int (sJ v2)), (0, .ref b), (1, .ref (sA Δ 0)), (2, .ref (sA Δ 504)), (3, .ref (sA Δ 540)), (4, .ref (sA Δ 541)), (5, .int (sJ x5))]) hG dL_law_563 (by decide) rfl ?_
  refine V.aload_n (pc := 565) hG dL_law_565 rfl 3 rfl ?_
  refine V.aload_n (pc := 566) hG dL_law_566 rfl 1 rfl ?_
  refine V.iload (pc := 567) hG dL_law_567 6 rfl ?_
  refine V.iconst (pc := 569) hG dL_law_569 ?_
  refine V.iadd (pc := 570) hG dL_law_570 ?_
  obtain ⟨g9, h⟩ := h
  refine V.sld (pc := 571) hG hX ((sR_wr _)) g9 dL_law_571 ?_
  refine V.callVi (pc := 572) (As := [.int (sJ (sv xs (wr (x5 + 1))))]) (stk := []) hG (sm_X12_unroll l Δ ((sR_sv _ _)) hi6 hw7 h) mY_X12_unroll kw_1980 kw_1981 kw_1982 a_504 (by decide) (q := (RX12, TX12, 49)) rfl rfl ⟨Nat.le_trans (Nat.le_of_ble_eq_true rfl) hR0.1, Nat.le_trans (Nat.le_of_ble_eq_true rfl) hR0.2.1, by omega, by omega⟩ rfl (Nat.le_of_ble_eq_true rfl) dL_law_572 rfl (fun v10 i11 r12 hv13 hi14 hw15 hq16 => ?_)
  obtain ⟨e36, h⟩ := hq16
  subst e36
  refine V.istore (pc := 575) (lv' := [(7, .int (sJ v10)), (6, .int (sJ v2)), (0, .ref b), (1, .ref (sA Δ 0)), (2, .ref (sA Δ 504)), (3, .ref (sA Δ 540)), (4, .ref (sA Δ 541)), (5, .int (sJ x5))]) hG dL_law_575 (by decide) rfl ?_
  refine V.aload_n (pc := 577) hG dL_law_577 rfl 4 rfl ?_
  refine V.callVi (pc := 578) (As := []) (stk := []) hG (sm_X12_thrown l Δ  hi14 hw7 h) mY_X12_thrown kw_1840 kw_1841 kw_1842 a_504 (by decide) (q := (RX12, TX12, 49)) rfl rfl ⟨Nat.le_trans (Nat.le_of_ble_eq_true rfl) hR0.1, Nat.le_trans (Nat.le_of_ble_eq_true rfl) hR0.2.1, by omega, by omega⟩ rfl (Nat.le_of_ble_eq_true rfl) dL_law_578 rfl (fun v17 i18 r19 hv20 hi21 hw22 hq23 => ?_)
  obtain ⟨e33, e34, h⟩ := hq23
  subst e33
  subst e34
  refine V.iload (pc := 581) hG dL_law_581 1 rfl ?_
  obtain ⟨t25, f26⟩ := h
  refine V.icmp_eq (pc := 583) (tgt := 588) hG hv20 hv5 dL_law_583 (by decide) (fun c24 => ?_) (fun c24 => ?_)
  · have h := t25 c24
    clear t25 f26
    refine V.iload (pc := 588) hG dL_law_588 1 rfl ?_
    obtain ⟨f29, t28⟩ := h
    refine V.if_ne (pc := 590) (tgt := 605) hG hv5 dL_law_590 (by decide) (fun c27 => ?_) (fun c27 => ?_)
    · have h := t28 c27
      clear t28 f29
      refine V.pick [2, 3, 4, 5, 6, 7] rfl ?_
      exact jn605 i11 r4 hi14 hw7 h
    · have h := f29 c27
      clear t28 f29
      refine V.aload_n (pc := 593) hG dL_law_593 rfl 5 rfl ?_
      refine V.iconst (pc := 594) hG dL_law_594 ?_
      refine V.lald0 (pc := 595) (z := 1) (o := 540) hG a_540 a_540.n (by decide) dL_law_595 ?_
      refine V.iload (pc := 596) hG dL_law_596 0 rfl ?_
      refine V.i2l (pc := 598) hG dL_law_598 ?_
      refine V.lcmp (pc := 599) hG dL_law_599 ?_
      obtain ⟨t31, f32⟩ := h
      refine V.if_eq (pc := 600) (tgt := 605) hG ((sR_of _)) dL_law_600 (by decide) (fun c30 => ?_) (fun c30 => ?_)
      · have h := t31 c30
        clear t31 f32
        refine V.pick [2, 3, 4, 5, 6, 7] rfl ?_
        exact jn605 i11 r4 hi14 hw7 h
      · have h := f32 c30
        clear t31 f32
        refine V.iconst (pc := 603) hG dL_law_603 ?_
        exact h.elim
  · have h := f26 c24
    clear t25 f26
    refine V.iconst (pc := 586) hG dL_law_586 ?_
    exact h.elim
