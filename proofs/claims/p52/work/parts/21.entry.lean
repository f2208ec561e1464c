/-! ===== the law's entry ===== -/
theorem gW_tbl {w : Cond} (h : w ∈ gW) : w ∈ lw_tbl := (List.mem_filter.mp h).1
set_option maxRecDepth 100000 in
theorem en_in1 : ∀ w ∈ u_ws RJx00060 TJx00060 6, w ∈ lw_tbl := fun w hw => of_decide_eq_true (List.all_eq_true.mp (show (u_ws RJx00060 TJx00060 6).all (fun w => decide (w ∈ lw_tbl)) = true by decide +kernel) w hw)
theorem en_cls {s : State} {args : Array Value} (hts : ∀ w ∈ lw_tbl, w.before args s = true) : ∃ p : Nat → ClassId × (Nat → Nat), ∀ (c : Nat) (q : vw_C), vwCl[c]? = some q → u_Kn s q.1 q.2.1 q.2.2 (p c).1 (p c).2 := by
  have key : ∀ c : Nat, ∃ p : ClassId × (Nat → Nat), ∀ q : vw_C, vwCl[c]? = some q → u_Kn s q.1 q.2.1 q.2.2 p.1 p.2 := by
    intro c
    rcases Nat.lt_or_ge c 15 with h | h
    · have mk : ∀ {C : String} {T : u_T} {N n : Nat}, vwCl[c]? = some (C, T, N) → (∀ w ∈ u_ws C T N, w ∈ lw_tbl) → (Cond.instantiable C n) ∈ lw_tbl → ∃ p : ClassId × (Nat → Nat), ∀ q : vw_C, vwCl[c]? = some q → u_Kn s q.1 q.2.1 q.2.2 p.1 p.2 := by
        intro C T N n e h1 h2
        obtain ⟨cC, iS, hk⟩ := u_known hts h1 (hts _ h2)
        exact ⟨(cC, iS), fun q hq => by cases hq.symm.trans e; exact hk⟩
      match c, h with
      | 0, _ => exact mk (n := 4) rfl (fun w hw => gW_tbl (hin_J0 w hw)) (gt_4 (List.mem_of_getElem? (i := 175) (by decide +kernel)))
      | 1, _ => exact mk (n := 6) rfl en_in1 (gt_4 (List.mem_of_getElem? (i := 103) (by decide +kernel)))
      | 2, _ => exact mk (n := 5) rfl (fun w hw => gW_tbl (hin_X0 w hw)) (gt_1 (List.mem_of_getElem? (i := 169) (by decide +kernel)))
      | 3, _ => exact mk (n := 2) rfl (fun w hw => gW_tbl (hin_X1 w hw)) (gt_2 (List.mem_of_getElem? (i := 136) (by decide +kernel)))
      | 4, _ => exact mk (n := 5) rfl (fun w hw => gW_tbl (hin_X2 w hw)) (gt_2 (List.mem_of_getElem? (i := 40) (by decide +kernel)))
      | 5, _ => exact mk (n := 13) rfl (fun w hw => gW_tbl (hin_X3 w hw)) (gt_1 (List.mem_of_getElem? (i := 176) (by decide +kernel)))
      | 6, _ => exact mk (n := 6) rfl (fun w hw => gW_tbl (hin_X4 w hw)) (gt_2 (List.mem_of_getElem? (i := 104) (by decide +kernel)))
      | 7, _ => exact mk (n := 7) rfl (fun w hw => gW_tbl (hin_X5 w hw)) (gt_2 (List.mem_of_getElem? (i := 152) (by decide +kernel)))
      | 8, _ => exact mk (n := 9) rfl (fun w hw => gW_tbl (hin_X6 w hw)) (gt_1 (List.mem_of_getElem? (i := 62) (by decide +kernel)))
      | 9, _ => exact mk (n := 5) rfl (fun w hw => gW_tbl (hin_X7 w hw)) (gt_1 (List.mem_of_getElem? (i := 141) (by decide +kernel)))
      | 10, _ => exact mk (n := 4) rfl (fun w hw => gW_tbl (hin_X8 w hw)) (gt_1 (List.mem_of_getElem? (i := 71) (by decide +kernel)))
      | 11, _ => exact mk (n := 7) rfl (fun w hw => gW_tbl (hin_X9 w hw)) (gt_2 (List.mem_of_getElem? (i := 73) (by decide +kernel)))
      | 12, _ => exact mk (n := 3) rfl (fun w hw => gW_tbl (hin_X10 w hw)) (gt_1 (List.mem_of_getElem? (i := 44) (by decide +kernel)))
      | 13, _ => exact mk (n := 11) rfl (fun w hw => gW_tbl (hin_X11 w hw)) (gt_1 (List.mem_of_getElem? (i := 36) (by decide +kernel)))
      | 14, _ => exact mk (n := 4) rfl (fun w hw => gW_tbl (hin_J4 w hw)) (gt_6 (List.mem_of_getElem? (i := 171) (by decide +kernel)))
      | k + 15, h => omega
    · exact ⟨(0, fun _ => 0), fun q hq => by rw [List.getElem?_eq_none (show vwCl.length ≤ c from h)] at hq; cases hq⟩
  exact ⟨fun c => Classical.choose (key c), fun c => Classical.choose_spec (key c)⟩
theorem en_arr1 {s : State} {args : Array Value} {ty : FieldType} (h : (Cond.arrayClass ty).before args s = true) (hn : ∀ C, ty ≠ .object C) : ∃ cA : ClassId, ArrOfT s cA ty ∧ va_RA s cA ty := by
  obtain ⟨cA, k, comp, h1, h2, h3⟩ := Cond.arrayClass_spec h
  refine ⟨cA, fun N z => ⟨(fun k h => by cases h), k, h2, comp, h3⟩, ?_⟩
  unfold va_RA
  split
  · rename_i C
    exact absurd rfl (hn C)
  · exact h1
theorem en_arrO {s : State} {args : Array Value} {C : String} (h : (Cond.arrayOver (.object C)).before args s = true) : ∃ cA : ClassId, ArrOfT s cA (.object C) ∧ va_RA s cA (.object C) := by
  obtain ⟨comp, cA, k, h0, -, h2, h3, h1⟩ := Cond.arrayOver_spec h
  exact ⟨cA, fun N z => ⟨(fun k h => by cases h), k, h2, comp, h3⟩, k, comp, h2, h3, h0, h1⟩
theorem en_arrA {s : State} {args : Array Value} (h : (Cond.arrayOver (.array .int)).before args s = true) : ∃ cA : ClassId, ArrOfT s cA (.array .int) ∧ va_RA s cA (.array .int) := by
  obtain ⟨comp, cA, k, -, h2, h3, h1⟩ := Cond.arrayOver_specA h
  exact ⟨cA, fun N z => ⟨(fun k h => by cases h), k, h2, comp, h3⟩, h1⟩
theorem en_over {s : State} {args : Array Value} (hts : ∀ w ∈ lw_tbl, w.before args s = true) : ∀ ty ∈ aoL, (Cond.arrayOver ty).before #[] s = true := by
  intro ty hty
  simp only [aoL, List.mem_cons, List.not_mem_nil, or_false] at hty
  rcases hty with rfl | rfl | rfl
  · exact hts (Cond.arrayOver (.object "Schedulary$Statement")) (gt_1 (List.mem_of_getElem? (i := 68) (by decide +kernel)))
  · exact hts (Cond.arrayOver (.object "Schedulary$Node")) (gt_1 (List.mem_of_getElem? (i := 175) (by decide +kernel)))
  · exact hts (Cond.arrayOver (.array .int)) (gt_1 (List.mem_of_getElem? (i := 70) (by decide +kernel)))
theorem en_tys {s : State} {args : Array Value} (hts : ∀ w ∈ lw_tbl, w.before args s = true) : ∃ f : Nat → ClassId, (ArrOfT s (f 0) .int ∧ va_RA s (f 0) .int) ∧ (ArrOfT s (f 1) .char ∧ va_RA s (f 1) .char) ∧ (ArrOfT s (f 2) .boolean ∧ va_RA s (f 2) .boolean) ∧ (ArrOfT s (f 5) (.object "Schedulary$Statement") ∧ va_RA s (f 5) (.object "Schedulary$Statement")) ∧ (ArrOfT s (f 6) (.object "Schedulary$Node") ∧ va_RA s (f 6) (.object "Schedulary$Node")) ∧ (ArrOfT s (f 7) (.array .int) ∧ va_RA s (f 7) (.array .int)) ∧ (ArrOfT s (f 8) .byte ∧ va_RA s (f 8) .byte) := by
  obtain ⟨a0, h0⟩ := en_arr1 (hts _ (gW_tbl kw_198)) (fun C h => by cases h)
  obtain ⟨a1, h1⟩ := en_arr1 (hts _ (gW_tbl kw_161)) (fun C h => by cases h)
  obtain ⟨a2, h2⟩ := en_arr1 (hts _ (gW_tbl kw_199)) (fun C h => by cases h)
  obtain ⟨a5, h5⟩ := en_arrO (en_over hts (.object "Schedulary$Statement") (by simp [aoL]))
  obtain ⟨a6, h6⟩ := en_arrO (en_over hts (.object "Schedulary$Node") (by simp [aoL]))
  obtain ⟨a7, h7⟩ := en_arrA (en_over hts (.array .int) (by simp [aoL]))
  obtain ⟨a8, h8⟩ := en_arr1 (hts _ (gW_tbl kw_997)) (fun C h => by cases h)
  exact ⟨fun k => [a0, a1, a2, a0, a0, a5, a6, a7, a8].getD k 0, h0, h1, h2, h5, h6, h7, h8⟩
