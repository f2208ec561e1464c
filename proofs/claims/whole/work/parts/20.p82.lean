/-! ===== the cases: those that tell ===== -/
theorem xb {x5 L : Int} (hb : 0 ≤ x5 ∧ x5 + 4 ≤ L ∧ L ≤ 2048) {j : Int} (hj : 1 ≤ j ∧ j ≤ 3) : 0 ≤ wr (x5 + j) ∧ wr (x5 + j) < L := by
  rw [wr_of (x := x5 + j) (by omega) (by omega)]
  omega
theorem spUnits_ex {D : Dat} {k n : Int} : exd D = exd (spUnits D k n).2.2 := by
  unfold spUnits
  split
  · rfl
  split <;> rfl
theorem spCycles_ex {D : Dat} {k n : Int} : exd D = exd (spCycles D k n).2.2 := by
  unfold spCycles
  split <;> rfl
theorem case_0 {xs : Nat → Int32} {L x5 : Int} {i r : MI} (hb : 0 ≤ x5 ∧ x5 + 4 ≤ L ∧ L ≤ 2048) (I : Inv i r) : wc_0 xs L Inv x5 i r := by
  obtain ⟨D, ok, hc, hm, rc, kp⟩ := I
  have b1 := xb hb (j := 1) (by decide)
  have sp := (spType_ok ok (c := (((sv xs (wr (x5 + 1)))) % 65536)) (n := i 0 9) (by omega)).1
  unfold wc_0
  refine ⟨b1, L_type hc ok (by omega) (fun i1 cl => ⟨b1, M_type (hm.cl cl.f) ok (by omega) (fun w i2 mo => thr_end mo.c (fun z => ⟨mo.v z, by rw [mo.f 540 (by omega)]; exact (cl.out z).1, by rw [mo.f 540 (by omega)]; exact (cl.out z).2⟩) ?_)⟩)⟩
  exact tell_end ok sp.1 cl mo rc kp (fun _ => .inr ⟨rfl, (spType_ok ok (c := (((sv xs (wr (x5 + 1)))) % 65536)) (n := 0) (by omega)).2⟩) (fun z => ⟨by omega, sp.2.1 z⟩) sp.2.2
theorem case_5 {xs : Nat → Int32} {L x5 : Int} {i r : MI} (hb : 0 ≤ x5 ∧ x5 + 4 ≤ L ∧ L ≤ 2048) (I : Inv i r) : wc_5 xs L Inv x5 i r := by
  obtain ⟨D, ok, hc, hm, rc, kp⟩ := I
  have b1 := xb hb (j := 1) (by decide)
  have sp := spTurns_ok ok (p := (sv xs (wr (x5 + 1)))) (n := min (i 0 9) 4) (by omega)
  unfold wc_5
  refine ⟨b1, L_setTurns hc ok (fun i1 cl => ⟨b1, M_setTurns (hm.cl cl.f) ok (fun w i2 mo => thr_end mo.c (fun z => ⟨mo.v z, by rw [mo.f 540 (by omega)]; exact (cl.out z).1, by rw [mo.f 540 (by omega)]; exact (cl.out z).2⟩) ?_)⟩)⟩
  exact tell_end ok sp.1 cl mo rc kp (fun _ => .inl rfl) (fun z => ⟨by omega, sp.2.1 z⟩) sp.2.2
theorem case_6 {xs : Nat → Int32} {L x5 : Int} {i r : MI} (hb : 0 ≤ x5 ∧ x5 + 4 ≤ L ∧ L ≤ 2048) (I : Inv i r) : wc_6 xs L Inv x5 i r := by
  obtain ⟨D, ok, hc, hm, rc, kp⟩ := I
  have b1 := xb hb (j := 1) (by decide)
  have sp := spBits_ok ok (p := (sv xs (wr (x5 + 1)))) (n := min (i 0 9) 4) (by omega)
  unfold wc_6
  refine ⟨b1, L_setBits hc ok (fun i1 cl => ⟨b1, M_setBits (hm.cl cl.f) ok (fun w i2 mo => thr_end mo.c (fun z => ⟨mo.v z, by rw [mo.f 540 (by omega)]; exact (cl.out z).1, by rw [mo.f 540 (by omega)]; exact (cl.out z).2⟩) ?_)⟩)⟩
  exact tell_end ok sp.1 cl mo rc kp (fun _ => .inl rfl) (fun z => ⟨by omega, sp.2.1 z⟩) sp.2.2
theorem case_8 {xs : Nat → Int32} {L x5 : Int} {i r : MI} (hb : 0 ≤ x5 ∧ x5 + 4 ≤ L ∧ L ≤ 2048) (I : Inv i r) : wc_8 xs L Inv x5 i r := by
  obtain ⟨D, ok, hc, hm, rc, kp⟩ := I
  have b1 := xb hb (j := 1) (by decide)
  have sp := spInput_ok ok (p := (sv xs (wr (x5 + 1)))) (n := min (i 0 9) 4) (by omega)
  unfold wc_8
  refine ⟨b1, L_input hc ok (fun i1 cl => ⟨b1, M_input (hm.cl cl.f) ok (fun w i2 mo => thr_end mo.c (fun z => ⟨mo.v z, by rw [mo.f 540 (by omega)]; exact (cl.out z).1, by rw [mo.f 540 (by omega)]; exact (cl.out z).2⟩) ?_)⟩)⟩
  exact tell_end ok sp.1 cl mo rc kp (fun _ => .inl rfl) (fun z => ⟨by omega, sp.2.1 z⟩) sp.2.2
theorem case_9 {xs : Nat → Int32} {L x5 : Int} {i r : MI} (hb : 0 ≤ x5 ∧ x5 + 4 ≤ L ∧ L ≤ 2048) (I : Inv i r) : wc_9 xs L Inv x5 i r := by
  obtain ⟨D, ok, hc, hm, rc, kp⟩ := I
  have b1 := xb hb (j := 1) (by decide)
  have b2 := xb hb (j := 2) (by decide)
  have b3 := xb hb (j := 3) (by decide)
  have sp := spMemory_ok ok (m := (((sv xs (wr (x5 + 1)))) % 65536)) (p := (sv xs (wr (x5 + 2)))) (v := (sv xs (wr (x5 + 3)))) (n := min (i 0 9) 4) (by omega)
  unfold wc_9
  refine ⟨b1, b2, b3, L_setMemory hc ok (by omega) (fun i1 cl => ⟨b1, b2, b3, M_setMemory (hm.cl cl.f) ok (by omega) (fun w i2 mo => thr_end mo.c (fun z => ⟨mo.v z, by rw [mo.f 540 (by omega)]; exact (cl.out z).1, by rw [mo.f 540 (by omega)]; exact (cl.out z).2⟩) ?_)⟩)⟩
  exact tell_end ok sp.1 cl mo rc kp (fun _ => .inl rfl) (fun z => ⟨by omega, sp.2.1 z⟩) sp.2.2
theorem case_10 {xs : Nat → Int32} {L x5 : Int} {i r : MI} (hb : 0 ≤ x5 ∧ x5 + 4 ≤ L ∧ L ≤ 2048) (I : Inv i r) : wc_10 xs L Inv x5 i r := by
  obtain ⟨D, ok, hc, hm, rc, kp⟩ := I
  have b1 := xb hb (j := 1) (by decide)
  have b2 := xb hb (j := 2) (by decide)
  have sp := spUnits_ok ok (k := (((sv xs (wr (x5 + 1)))) % 65536)) (m := (sv xs (wr (x5 + 2)))) (n := min (i 0 9) 2) (by omega)
  unfold wc_10
  refine ⟨b1, b2, L_setUnits hc ok (by omega) (fun i1 cl => ⟨b1, b2, M_setUnits (hm.cl cl.f) ok (by omega) (fun w i2 mo => thr_end mo.c (fun z => ⟨mo.v z, by rw [mo.f 540 (by omega)]; exact (cl.out z).1, by rw [mo.f 540 (by omega)]; exact (cl.out z).2⟩) ?_)⟩)⟩
  exact tell_end ok sp.1 cl mo rc kp (fun _ => .inr ⟨rfl, spUnits_ex⟩) (fun z => ⟨by omega, sp.2.1 z⟩) sp.2.2
theorem case_11 {xs : Nat → Int32} {L x5 : Int} {i r : MI} (hb : 0 ≤ x5 ∧ x5 + 4 ≤ L ∧ L ≤ 2048) (I : Inv i r) : wc_11 xs L Inv x5 i r := by
  obtain ⟨D, ok, hc, hm, rc, kp⟩ := I
  have b1 := xb hb (j := 1) (by decide)
  have b2 := xb hb (j := 2) (by decide)
  have sp := spCycles_ok ok (k := (((sv xs (wr (x5 + 1)))) % 65536)) (m := (sv xs (wr (x5 + 2)))) (n := min (i 0 9) 1) (by omega)
  unfold wc_11
  refine ⟨b1, b2, L_setCycles hc ok (by omega) (fun i1 cl => ⟨b1, b2, M_setCycles (hm.cl cl.f) ok (by omega) (fun w i2 mo => thr_end mo.c (fun z => ⟨mo.v z, by rw [mo.f 540 (by omega)]; exact (cl.out z).1, by rw [mo.f 540 (by omega)]; exact (cl.out z).2⟩) ?_)⟩)⟩
  exact tell_end ok sp.1 cl mo rc kp (fun _ => .inr ⟨rfl, spCycles_ex⟩) (fun z => ⟨by omega, sp.2.1 z⟩) sp.2.2
theorem case_40 {xs : Nat → Int32} {L x5 : Int} {i r : MI} (hb : 0 ≤ x5 ∧ x5 + 4 ≤ L ∧ L ≤ 2048) (I : Inv i r) : wc_40 xs L Inv x5 i r := by
  obtain ⟨D, ok, hc, hm, rc, kp⟩ := I
  have b1 := xb hb (j := 1) (by decide)
  have b2 := xb hb (j := 2) (by decide)
  have sp := (spDepth_ok ok (c := (sv xs (wr (x5 + 1)))) (m := (sv xs (wr (x5 + 2)))) (n := i 0 9)).1
  unfold wc_40
  refine ⟨b1, b2, L_setDepth hc ok (fun i1 cl => ⟨b1, b2, M_setDepth (hm.cl cl.f) ok (fun w i2 mo => thr_end mo.c (fun z => ⟨mo.v z, by rw [mo.f 540 (by omega)]; exact (cl.out z).1, by rw [mo.f 540 (by omega)]; exact (cl.out z).2⟩) ?_)⟩)⟩
  exact tell_end ok sp.1 cl mo rc kp (fun _ => .inr ⟨rfl, (spDepth_ok ok (c := (sv xs (wr (x5 + 1)))) (m := (sv xs (wr (x5 + 2)))) (n := 0)).2⟩) (fun z => ⟨by omega, sp.2.1 z⟩) sp.2.2
