/-! ===== the law's cases ===== -/
def sv (xs : Nat → Int32) (x : Int) : Int := (xs x.toNat).toInt
theorem sR_sv (xs : Nat → Int32) (x : Int) : sR (sv xs x) := sR_of _
def okS (Γ : Cx) (Δ : Wd) (b L : Nat) (xs : Nat → Int32) : Prop := match Γ with
  | (_, _, _, _, s, _, _, _, _, _, _) => va_X b L xs s s.heap ∧ b < s.heap.size ∧ b < Δ.2.2.2.1
theorem V.sld {Γ : Cx} {Δ : Wd} {l : Launch} {R : Room} {n : Nat} {ex : Bool} {i r : MI} {kc sl : Nat} {Q : State → Prop} {pc : Nat} {lv : List (Nat × Value)} {stk : List Value} {cc : ByteArray} {own : String} {nL b L : Nat} {xs : Nat → Int32} {x : Int} (h : okG Γ Δ l R cc own nL) (hX : okS Γ Δ b L xs) (hsx : sR x) (hin : 0 ≤ x ∧ x < (L : Int)) (hdg : decode cc pc = .ok (.iaload, 1)) (kk : V Γ Δ n ex i r kc sl Q (pc + 1) lv (.int (sJ (sv xs x)) :: stk)) : V Γ Δ n ex i r kc sl Q pc lv (.int (sJ x) :: .ref b :: stk) := by
  obtain ⟨p, l', e, R', s, m, args, below, meth, c, nL'⟩ := Γ
  obtain ⟨hx, hb, hml, hown, hts, hKK, hlk, rfl, rfl, rfl⟩ := h
  obtain ⟨x1, x2, x3⟩ := hX
  intro H locs ls hP hz hS hl
  refine va_sld hx hb x1 x2 (show ¬ Δ.2.2.2.1 ≤ b by omega) hS (sJ_in hsx hin) hdg ?_
  rw [sJ_clamp hsx hin.1]
  have := kk H locs ls hP hz hS hl
  unfold sv at this
  rw [sJ_of] at this
  exact this
theorem V.sclen {Γ : Cx} {Δ : Wd} {l : Launch} {R : Room} {n : Nat} {ex : Bool} {i r : MI} {kc sl : Nat} {Q : State → Prop} {pc : Nat} {lv : List (Nat × Value)} {stk : List Value} {cc : ByteArray} {own : String} {nL b L : Nat} {xs : Nat → Int32} (h : okG Γ Δ l R cc own nL) (hX : okS Γ Δ b L xs) (hdg : decode cc pc = .ok (.arraylength, 1)) (kk : V Γ Δ n ex i r kc sl Q (pc + 1) lv (.int (sJ (L : Int)) :: stk)) : V Γ Δ n ex i r kc sl Q pc lv (.ref b :: stk) := by
  obtain ⟨p, l', e, R', s, m, args, below, meth, c, nL'⟩ := Γ
  obtain ⟨hx, hb, hml, hown, hts, hKK, hlk, rfl, rfl, rfl⟩ := h
  obtain ⟨x1, x2, x3⟩ := hX
  intro H locs ls hP hz hS hl
  exact va_slen hx hb x1 x2 (show ¬ Δ.2.2.2.1 ≤ b by omega) hS hdg (kk H locs ls hP hz hS hl)
section VLF
variable {Γ : Cx} {Δ : Wd} {l : Launch} {R : Room} {i r : MI} {kc sl : Nat} {Q : State → Prop} {pc : Nat} {lv : List (Nat × Value)} {stk st0 As : List Value} {cc : ByteArray} {own : String} {nL : Nat}
theorem V.callVf {y : MethodName} {bytes : ByteArray} {maxL fr lo na ix : Nat} {ret : Option FieldType} {Qp : UInt32 → MI → MI → Prop} {o : Int} {ci : Nat} {q : vw_C} (h : okG Γ Δ l R cc own nL) (hM : Met l y (Cond.code y bytes maxL ret :: gW) (sRm fr lo) (sPc Δ (.ref (sA Δ o) :: As) i r) (sQf Δ Qp) 0 0 (sFr Δ)) (hY : mY y bytes maxL ret na) (hl1 : Cond.methodLink own ix y ∈ gW) (hl2 : Cond.instanceMethod y ∈ gW) (hl3 : Cond.selects y.cls y y ∈ gW) (ho : isA o (ci, 0)) (hci : ci < 20) (hc : vwCl[ci]? = some q) (hC : q.1 = y.cls) (hR : fr + 1 ≤ R.frames ∧ 8 + (maxL + 11) + lo ≤ R.locals ∧ kc ≤ R.cells ∧ sl ≤ R.slots) (hlen : As.length = na) (hst : (stk.map fun v => v.category).sum ≤ 8) (hdg : decode cc pc = .ok (.invokevirtual ix, 3)) (hs : st0 = As.reverse ++ .ref (sA Δ o) :: stk) (kk : ∀ (x : UInt32) (i' r' : MI), okI i' → Wf r' → Qp x i' r' → V Γ Δ 542 false i' r' kc sl Q (pc + 3) lv (.float x :: stk)) : V Γ Δ 542 false i r kc sl Q (pc) lv (st0) := by
  obtain ⟨p, l', e, R', s, m, args, below, meth, c, nL'⟩ := Γ
  obtain ⟨hx, hb, hml, hown, hts, hKK, hlk, rfl, rfl, rfl⟩ := h
  intro H locs ls hP hz hS hl
  subst hs
  obtain ⟨y1, y2, y3, y4, y5⟩ := hY
  exact va_callf (va_runV (As := As) (rest := stk) ⟨hx, hb, hml, hown, hts⟩ hM ⟨⟨rfl, rfl, hR.1, hR.2.1, gW_pay hts y2, List.mem_cons_self, hts _ y2, hts _ y1, ⟨y3, y4⟩, fun sig hh => by rw [hh] at y5; exact (Option.some.inj y5).symm, hts _ hl1⟩, hts _ hl2, hts _ hl3⟩ ⟨sPc_blind, by rw [← hC]; exact va_recv hKK.1 hP hc (at_o ho ho.n hci), fun U hU hW => ⟨rfl, by rw [hU]; exact hP, KK_warm hKK hW hS hU⟩⟩ rfl hlen hl.1 rfl (lv_room hst) hdg ⟨hR.2.2.1, hR.2.2.2⟩) hS (fun _ _ q => q) (fun _ q => q) (fun v u t H1 locs1 ht hvm hw hB hz1 hk1 hS1 => by
    obtain ⟨i', r'⟩ := u
    obtain ⟨g2, g3, g4⟩ := hw
    have hB : va_P (sG Δ) vwCl (sWs Δ 542 i' r') t.heap := hB
    rw [ht] at hB
    exact kk v i' r' g2 g3 g4 H1 locs1 ls hB (fun q => by cases q) hS1 hl)
theorem V.callVd {y : MethodName} {bytes : ByteArray} {maxL fr lo na ix : Nat} {ret : Option FieldType} {Qp : UInt64 → MI → MI → Prop} {o : Int} {ci : Nat} {q : vw_C} (h : okG Γ Δ l R cc own nL) (hM : Met l y (Cond.code y bytes maxL ret :: gW) (sRm fr lo) (sPc Δ (.ref (sA Δ o) :: As) i r) (sQd Δ Qp) 0 0 (sFr Δ)) (hY : mY y bytes maxL ret na) (hl1 : Cond.methodLink own ix y ∈ gW) (hl2 : Cond.instanceMethod y ∈ gW) (hl3 : Cond.selects y.cls y y ∈ gW) (ho : isA o (ci, 0)) (hci : ci < 20) (hc : vwCl[ci]? = some q) (hC : q.1 = y.cls) (hR : fr + 1 ≤ R.frames ∧ 8 + (maxL + 11) + lo ≤ R.locals ∧ kc ≤ R.cells ∧ sl ≤ R.slots) (hlen : As.length = na) (hst : (stk.map fun v => v.category).sum ≤ 8) (hdg : decode cc pc = .ok (.invokevirtual ix, 3)) (hs : st0 = As.reverse ++ .ref (sA Δ o) :: stk) (kk : ∀ (x : UInt64) (i' r' : MI), okI i' → Wf r' → Qp x i' r' → V Γ Δ 542 false i' r' kc sl Q (pc + 3) lv (.double x :: stk)) : V Γ Δ 542 false i r kc sl Q (pc) lv (st0) := by
  obtain ⟨p, l', e, R', s, m, args, below, meth, c, nL'⟩ := Γ
  obtain ⟨hx, hb, hml, hown, hts, hKK, hlk, rfl, rfl, rfl⟩ := h
  intro H locs ls hP hz hS hl
  subst hs
  obtain ⟨y1, y2, y3, y4, y5⟩ := hY
  exact va_calld (va_runV (As := As) (rest := stk) ⟨hx, hb, hml, hown, hts⟩ hM ⟨⟨rfl, rfl, hR.1, hR.2.1, gW_pay hts y2, List.mem_cons_self, hts _ y2, hts _ y1, ⟨y3, y4⟩, fun sig hh => by rw [hh] at y5; exact (Option.some.inj y5).symm, hts _ hl1⟩, hts _ hl2, hts _ hl3⟩ ⟨sPc_blind, by rw [← hC]; exact va_recv hKK.1 hP hc (at_o ho ho.n hci), fun U hU hW => ⟨rfl, by rw [hU]; exact hP, KK_warm hKK hW hS hU⟩⟩ rfl hlen hl.1 rfl (lv_room hst) hdg ⟨hR.2.2.1, hR.2.2.2⟩) hS (fun _ _ q => q) (fun _ q => q) (fun v u t H1 locs1 ht hvm hw hB hz1 hk1 hS1 => by
    obtain ⟨i', r'⟩ := u
    obtain ⟨g2, g3, g4⟩ := hw
    have hB : va_P (sG Δ) vwCl (sWs Δ 542 i' r') t.heap := hB
    rw [ht] at hB
    exact kk v i' r' g2 g3 g4 H1 locs1 ls hB (fun q => by cases q) hS1 hl)
end VLF
theorem kl_L_action : Cond.codeWith yL_action cL_action 6 (some .int) [(0, 12, 15, 13), (0, 12, 19, 15)] ∈ gW := gw_in (gt_7 (List.mem_of_getElem? (i := 13) (by decide +kernel))) (by decide +kernel)
theorem kl_L_add : Cond.codeWith yL_add cL_add 3 (some .int) [(0, 8, 11, 13), (0, 8, 14, 15)] ∈ gW := gw_in (gt_5 (List.mem_of_getElem? (i := 231) (by decide +kernel))) (by decide +kernel)
theorem kl_L_busyShare : Cond.codeWith yL_busyShare cL_busyShare 4 (some .int) [(0, 9, 12, 13)] ∈ gW := gw_in (gt_7 (List.mem_of_getElem? (i := 59) (by decide +kernel))) (by decide +kernel)
theorem kl_L_circuitMemory : Cond.codeWith yL_circuitMemory cL_circuitMemory 5 (some .int) [(0, 10, 13, 13)] ∈ gW := gw_in (gt_7 (List.mem_of_getElem? (i := 6) (by decide +kernel))) (by decide +kernel)
theorem kl_L_circuitOutput : Cond.codeWith yL_circuitOutput cL_circuitOutput 4 (some .int) [(0, 9, 12, 25)] ∈ gW := gw_in (gt_6 (List.mem_of_getElem? (i := 239) (by decide +kernel))) (by decide +kernel)
theorem kl_L_input : Cond.codeWith yL_input cL_input 4 (some .int) [(0, 9, 12, 13), (0, 9, 15, 15)] ∈ gW := gw_in (gt_6 (List.mem_of_getElem? (i := 101) (by decide +kernel))) (by decide +kernel)
theorem kl_L_kindOf : Cond.codeWith yL_kindOf cL_kindOf 4 (some .int) [(0, 9, 12, 25)] ∈ gW := gw_in (gt_6 (List.mem_of_getElem? (i := 166) (by decide +kernel))) (by decide +kernel)
theorem kl_L_late : Cond.codeWith yL_late cL_late 4 (some .int) [(0, 9, 12, 25)] ∈ gW := gw_in (gt_6 (List.mem_of_getElem? (i := 218) (by decide +kernel))) (by decide +kernel)
theorem kl_L_leastDepth : Cond.codeWith yL_leastDepth cL_leastDepth 3 (some .int) [(0, 8, 11, 72)] ∈ gW := gw_in (gt_7 (List.mem_of_getElem? (i := 46) (by decide +kernel))) (by decide +kernel)
theorem kl_L_meanStep : Cond.codeWith yL_meanStep cL_meanStep 3 (some .int) [(0, 7, 10, 114)] ∈ gW := gw_in (gt_7 (List.mem_of_getElem? (i := 67) (by decide +kernel))) (by decide +kernel)
theorem kl_L_memoryAt : Cond.codeWith yL_memoryAt cL_memoryAt 5 (some .int) [(0, 10, 13, 13)] ∈ gW := gw_in (gt_6 (List.mem_of_getElem? (i := 149) (by decide +kernel))) (by decide +kernel)
theorem kl_L_output : Cond.codeWith yL_output cL_output 4 (some .int) [(0, 9, 12, 25)] ∈ gW := gw_in (gt_6 (List.mem_of_getElem? (i := 141) (by decide +kernel))) (by decide +kernel)
theorem kl_L_place : Cond.codeWith yL_place cL_place 4 (some .int) [(0, 9, 12, 25)] ∈ gW := gw_in (gt_6 (List.mem_of_getElem? (i := 232) (by decide +kernel))) (by decide +kernel)
theorem kl_L_register : Cond.codeWith yL_register cL_register 4 (some .int) [(0, 9, 12, 13)] ∈ gW := gw_in (gt_6 (List.mem_of_getElem? (i := 158) (by decide +kernel))) (by decide +kernel)
theorem kl_L_replace : Cond.codeWith yL_replace cL_replace 4 (some .int) [(0, 9, 12, 25), (0, 9, 15, 13)] ∈ gW := gw_in (gt_6 (List.mem_of_getElem? (i := 8) (by decide +kernel))) (by decide +kernel)
theorem kl_L_setBits : Cond.codeWith yL_setBits cL_setBits 4 (some .int) [(0, 9, 12, 13)] ∈ gW := gw_in (gt_6 (List.mem_of_getElem? (i := 84) (by decide +kernel))) (by decide +kernel)
theorem kl_L_setCycles : Cond.codeWith yL_setCycles cL_setCycles 5 (some .int) [(0, 10, 13, 13)] ∈ gW := gw_in (gt_6 (List.mem_of_getElem? (i := 133) (by decide +kernel))) (by decide +kernel)
theorem kl_L_setDepth : Cond.codeWith yL_setDepth cL_setDepth 5 (some .int) [(0, 10, 13, 13)] ∈ gW := gw_in (gt_7 (List.mem_of_getElem? (i := 26) (by decide +kernel))) (by decide +kernel)
theorem kl_L_setMemory : Cond.codeWith yL_setMemory cL_setMemory 6 (some .int) [(0, 12, 15, 13)] ∈ gW := gw_in (gt_6 (List.mem_of_getElem? (i := 111) (by decide +kernel))) (by decide +kernel)
theorem kl_L_setTurns : Cond.codeWith yL_setTurns cL_setTurns 4 (some .int) [(0, 9, 12, 13), (0, 9, 15, 30)] ∈ gW := gw_in (gt_6 (List.mem_of_getElem? (i := 52) (by decide +kernel))) (by decide +kernel)
theorem kl_L_setUnits : Cond.codeWith yL_setUnits cL_setUnits 5 (some .int) [(0, 10, 13, 13), (0, 10, 17, 30)] ∈ gW := gw_in (gt_6 (List.mem_of_getElem? (i := 123) (by decide +kernel))) (by decide +kernel)
theorem kl_L_soon : Cond.codeWith yL_soon cL_soon 4 (some .int) [(0, 9, 12, 25)] ∈ gW := gw_in (gt_6 (List.mem_of_getElem? (i := 211) (by decide +kernel))) (by decide +kernel)
theorem kl_L_statementOf : Cond.codeWith yL_statementOf cL_statementOf 4 (some .int) [(0, 9, 12, 25)] ∈ gW := gw_in (gt_6 (List.mem_of_getElem? (i := 179) (by decide +kernel))) (by decide +kernel)
theorem kl_L_step : Cond.codeWith yL_step cL_step 4 (some .int) [(0, 9, 12, 25)] ∈ gW := gw_in (gt_6 (List.mem_of_getElem? (i := 225) (by decide +kernel))) (by decide +kernel)
theorem kl_L_type : Cond.codeWith yL_type cL_type 4 (some .int) [(0, 9, 12, 13), (0, 9, 15, 15)] ∈ gW := gw_in (gt_5 (List.mem_of_getElem? (i := 129) (by decide +kernel))) (by decide +kernel)
theorem kl_L_unroll : Cond.codeWith yL_unroll cL_unroll 4 (some .int) [(0, 9, 12, 13), (0, 9, 15, 30), (0, 9, 18, 15)] ∈ gW := gw_in (gt_6 (List.mem_of_getElem? (i := 92) (by decide +kernel))) (by decide +kernel)
theorem kl_L_waitsFor : Cond.codeWith yL_waitsFor cL_waitsFor 4 (some .int) [(0, 9, 12, 13)] ∈ gW := gw_in (gt_7 (List.mem_of_getElem? (i := 34) (by decide +kernel))) (by decide +kernel)
theorem kl_L_weight : Cond.codeWith yL_weight cL_weight 6 (some .int) [(0, 12, 15, 25), (0, 12, 19, 72)] ∈ gW := gw_in (gt_6 (List.mem_of_getElem? (i := 186) (by decide +kernel))) (by decide +kernel)
