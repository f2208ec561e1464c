/-! ===== the law's entry ===== -/
theorem gW_tbl {w : Cond} (h : w ∈ gW) : w ∈ lw_tbl := (List.mem_filter.mp h).1
set_option maxRecDepth 100000 in
theorem en_in0 : ∀ w ∈ u_ws RJ0 TJ0 2, w ∈ lw_tbl := fun w hw => of_decide_eq_true (List.all_eq_true.mp (show (u_ws RJ0 TJ0 2).all (fun w => decide (w ∈ lw_tbl)) = true by decide +kernel) w hw)
set_option maxRecDepth 100000 in
theorem en_in1 : ∀ w ∈ u_ws RJx00060 TJx00060 6, w ∈ lw_tbl := fun w hw => of_decide_eq_true (List.all_eq_true.mp (show (u_ws RJx00060 TJx00060 6).all (fun w => decide (w ∈ lw_tbl)) = true by decide +kernel) w hw)
theorem en_cls {s : State} {args : Array Value} (hts : ∀ w ∈ lw_tbl, w.before args s = true) : ∃ p : Nat → ClassId × (Nat → Nat), ∀ (c : Nat) (q : vw_C), vwCl[c]? = some q → u_Kn s q.1 q.2.1 q.2.2 (p c).1 (p c).2 := by
  have key : ∀ c : Nat, ∃ p : ClassId × (Nat → Nat), ∀ q : vw_C, vwCl[c]? = some q → u_Kn s q.1 q.2.1 q.2.2 p.1 p.2 := by
    intro c
    rcases Nat.lt_or_ge c 15 with h | h
    · have mk : ∀ {C : String} {T : u_T} {N n : Nat}, vwCl[c]? = some (C, T, N) → (∀ w ∈ u_ws C T N, w ∈ lw_tbl) → (Cond.instantiable C n) ∈ lw_tbl → ∃ p : ClassId × (Nat → Nat), ∀ q : vw_C, vwCl[c]? = some q → u_Kn s q.1 q.2.1 q.2.2 p.1 p.2 := by
        intro C T N n e h1 h2
        obtain ⟨cC, iS, hk⟩ := u_known hts h1 (hts _ h2)
        exact ⟨(cC, iS), fun q hq => by cases hq.symm.trans e; exact hk⟩
      match c, h with
      | 0, _ => exact mk (n := 4) rfl en_in0 (gt_6 (List.mem_of_getElem? (i := 28) (by decide +kernel)))
      | 1, _ => exact mk (n := 6) rfl en_in1 (gt_6 (List.mem_of_getElem? (i := 10) (by decide +kernel)))
      | 2, _ => exact mk (n := 5) rfl (fun w hw => gW_tbl (hin_X0 w hw)) (gt_1 (List.mem_of_getElem? (i := 165) (by decide +kernel)))
      | 3, _ => exact mk (n := 2) rfl (fun w hw => gW_tbl (hin_X1 w hw)) (gt_2 (List.mem_of_getElem? (i := 133) (by decide +kernel)))
      | 4, _ => exact mk (n := 5) rfl (fun w hw => gW_tbl (hin_X2 w hw)) (gt_2 (List.mem_of_getElem? (i := 37) (by decide +kernel)))
      | 5, _ => exact mk (n := 13) rfl (fun w hw => gW_tbl (hin_X3 w hw)) (gt_1 (List.mem_of_getElem? (i := 172) (by decide +kernel)))
      | 6, _ => exact mk (n := 6) rfl (fun w hw => gW_tbl (hin_X4 w hw)) (gt_2 (List.mem_of_getElem? (i := 101) (by decide +kernel)))
      | 7, _ => exact mk (n := 7) rfl (fun w hw => gW_tbl (hin_X5 w hw)) (gt_2 (List.mem_of_getElem? (i := 149) (by decide +kernel)))
      | 8, _ => exact mk (n := 9) rfl (fun w hw => gW_tbl (hin_X6 w hw)) (gt_1 (List.mem_of_getElem? (i := 57) (by decide +kernel)))
      | 9, _ => exact mk (n := 5) rfl (fun w hw => gW_tbl (hin_X7 w hw)) (gt_1 (List.mem_of_getElem? (i := 136) (by decide +kernel)))
      | 10, _ => exact mk (n := 4) rfl (fun w hw => gW_tbl (hin_X8 w hw)) (gt_1 (List.mem_of_getElem? (i := 66) (by decide +kernel)))
      | 11, _ => exact mk (n := 7) rfl (fun w hw => gW_tbl (hin_X9 w hw)) (gt_2 (List.mem_of_getElem? (i := 70) (by decide +kernel)))
      | 12, _ => exact mk (n := 3) rfl (fun w hw => gW_tbl (hin_X10 w hw)) (gt_1 (List.mem_of_getElem? (i := 39) (by decide +kernel)))
      | 13, _ => exact mk (n := 11) rfl (fun w hw => gW_tbl (hin_X11 w hw)) (gt_1 (List.mem_of_getElem? (i := 31) (by decide +kernel)))
      | 14, _ => exact mk (n := 49) rfl (fun w hw => gW_tbl (hin_X12 w hw)) (gt_7 (List.mem_of_getElem? (i := 90) (by decide +kernel)))
      | k + 15, h => omega
    · exact ⟨(0, fun _ => 0), fun q hq => by rw [List.getElem?_eq_none (show vwCl.length ≤ c from h)] at hq; cases hq⟩
  exact ⟨fun c => Classical.choose (key c), fun c => Classical.choose_spec (key c)⟩
theorem en_arr1 {s : State} {args : Array Value} {ty : FieldType} (h : (Cond.arrayClass ty).before args s = true) (hn : ∀ C, ty ≠ .object C) : ∃ cA : ClassId, ArrOfT s cA ty ∧ va_RA s cA ty := by
  obtain ⟨cA, k, comp, h1, h2, h3⟩ := Cond.arrayClass_spec h
  refine ⟨cA, fun N z => ⟨(fun k h => by cases h), k, h2, comp, h3⟩, ?_⟩
  unfold va_RA
  split
  · rename_i C
    exact absurd rfl (hn C)
  · exact h1
theorem en_arrO {s : State} {args : Array Value} {C : String} (h : (Cond.arrayOver (.object C)).before args s = true) : ∃ cA : ClassId, ArrOfT s cA (.object C) ∧ va_RA s cA (.object C) := by
  obtain ⟨comp, cA, k, h0, -, h2, h3, h1⟩ := Cond.arrayOver_spec h
  exact ⟨cA, fun N z => ⟨(fun k h => by cases h), k, h2, comp, h3⟩, k, comp, h2, h3, h0, h1⟩
theorem en_arrA {s : State} {args : Array Value} (h : (Cond.arrayOver (.array .int)).before args s = true) : ∃ cA : ClassId, ArrOfT s cA (.array .int) ∧ va_RA s cA (.array .int) := by
  obtain ⟨comp, cA, k, -, h2, h3, h1⟩ := Cond.arrayOver_specA h
  exact ⟨cA, fun N z => ⟨(fun k h => by cases h), k, h2, comp, h3⟩, h1⟩
theorem en_over {s : State} {args : Array Value} (hts : ∀ w ∈ lw_tbl, w.before args s = true) : ∀ ty ∈ aoL, (Cond.arrayOver ty).before #[] s = true := by
  intro ty hty
  simp only [aoL, List.mem_cons, List.not_mem_nil, or_false] at hty
  rcases hty with rfl | rfl | rfl
  · exact hts (Cond.arrayOver (.object "Schedulary$Statement")) (gt_1 (List.mem_of_getElem? (i := 63) (by decide +kernel)))
  · exact hts (Cond.arrayOver (.object "Schedulary$Node")) (gt_1 (List.mem_of_getElem? (i := 171) (by decide +kernel)))
  · exact hts (Cond.arrayOver (.array .int)) (gt_1 (List.mem_of_getElem? (i := 65) (by decide +kernel)))
theorem en_tys {s : State} {args : Array Value} (hts : ∀ w ∈ lw_tbl, w.before args s = true) : ∃ f : Nat → ClassId, ∀ (k : Nat) (ty : FieldType), ([.int, .char, .boolean, .long, .double, .object "Schedulary$Statement", .object "Schedulary$Node", .array .int] : List FieldType)[k]? = some ty → ArrOfT s (f k) ty ∧ va_RA s (f k) ty := by
  obtain ⟨a0, h0⟩ := en_arr1 (hts _ (gW_tbl kw_249)) (fun C h => by cases h)
  obtain ⟨a1, h1⟩ := en_arr1 (hts _ (gW_tbl kw_212)) (fun C h => by cases h)
  obtain ⟨a2, h2⟩ := en_arr1 (hts _ (gW_tbl kw_250)) (fun C h => by cases h)
  obtain ⟨a3, h3⟩ := en_arr1 (hts _ (gW_tbl kw_2274)) (fun C h => by cases h)
  obtain ⟨a4, h4⟩ := en_arr1 (hts _ (gW_tbl kw_2275)) (fun C h => by cases h)
  obtain ⟨a5, h5⟩ := en_arrO (en_over hts (.object "Schedulary$Statement") (by simp [aoL]))
  obtain ⟨a6, h6⟩ := en_arrO (en_over hts (.object "Schedulary$Node") (by simp [aoL]))
  obtain ⟨a7, h7⟩ := en_arrA (en_over hts (.array .int) (by simp [aoL]))
  refine ⟨fun k => [a0, a1, a2, a3, a4, a5, a6, a7].getD k 0, fun k ty hk => ?_⟩
  match k with
  | 0 => cases hk; exact h0
  | 1 => cases hk; exact h1
  | 2 => cases hk; exact h2
  | 3 => cases hk; exact h3
  | 4 => cases hk; exact h4
  | 5 => cases hk; exact h5
  | 6 => cases hk; exact h6
  | 7 => cases hk; exact h7
  | k + 8 => simp at hk
