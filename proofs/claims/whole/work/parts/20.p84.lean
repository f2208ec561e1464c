/-! ===== the cases: processes ===== -/
theorem case_41 {xs : Nat → Int32} {L x5 : Int} {i r : MI} (I : Inv i r) : wc_41 xs L Inv x5 i r := by
  obtain ⟨D, ok, hc, hm, rc, kp⟩ := I
  unfold wc_41
  exact C_done hc ok (fun s i1 fs cg => M_done (hm.cl cg.f) ok (fun s' i2 fs' mq => ⟨fun _ => gsk_end ok cg mq rc kp, fun z => z (by rw [fin_uniq fs fs'])⟩))
theorem case_42 {xs : Nat → Int32} {L x5 : Int} {i r : MI} (hb : 0 ≤ x5 ∧ x5 + 4 ≤ L ∧ L ≤ 2048) (I : Inv i r) : wc_42 xs L Inv x5 i r := by
  obtain ⟨D, ok, hc, hm, rc, kp⟩ := I
  have b1 := xb hb (j := 1) (by decide)
  unfold wc_42
  refine ⟨b1, L_waitsFor hc ok (fun s i1 fs cg => ⟨b1, M_waitsFor (hm.cl cg.f) ok (fun s' w i2 fs' mq => thr_end (v := waitV D s (sv xs (wr (x5 + 1)))) mq.c (fun z => ?_) (gsk_end ok cg mq rc kp))⟩)⟩
  have e : s' = s := by
    rcases fs with a | a
    · rcases fs' with b | b
      · exact fin_uniq b a
      · omega
    · omega
  rw [e] at mq
  exact gsk_out cg mq z
theorem case_43 {xs : Nat → Int32} {L x5 : Int} {i r : MI} (I : Inv i r) : wc_43 xs L Inv x5 i r := by
  obtain ⟨D, ok, hc, hm, rc, kp⟩ := I
  unfold wc_43
  refine C_areLocked hc ok (fun s i1 v fs cg v1 v0 => M_areLocked (hm.cl cg.f) ok (fun s' i2 w fs' mq w1 w0 => ⟨fun _ => gsk_end ok cg mq rc kp, fun z => z ?_⟩))
  rw [fin_uniq fs' fs] at w1 w0
  by_cases l : left D s
  · rw [v1 l, w1 l]
  · rw [v0 l, w0 l]
theorem case_44 {xs : Nat → Int32} {L x5 : Int} {i r : MI} (I : Inv i r) : wc_44 xs L Inv x5 i r := by
  obtain ⟨D, ok, hc, hm, rc, kp⟩ := I
  unfold wc_44
  refine L_leastDepth hc ok (fun d c i1 ld c0 c1 cg => M_leastDepth (hm.cl cg.f) ok (fun d' c' w i2 ld' c0' c1' mq => ?_))
  have ed := least_uniq ld' ld
  have ec : c' = c := by
    have := ld.2.1
    have := ld.2.2.1
    by_cases z : d ≤ 16
    · rw [c0 z, c0' (by omega)]
    · rw [c1 (by omega), c1' (by omega)]
  rw [ed, ec] at mq
  exact thr_end mq.c (gsk_out cg mq) (gsk_end ok cg mq rc kp)
