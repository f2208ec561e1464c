/-! ===== the cases: those that tell, and those that ask the program ===== -/
theorem ask_end {D : Dat} {c v w c' v' : Int} {i i1 i2 r : MI} (ok : DOk D) (cq : Cq D c v i i1 r) (mq : Mq D c' v' w i1 i2) (kp : KPn D (i 0 9) i r) : Inv i2 r := by
  have f := mq.f
  refine ⟨D, ok, cq.p.fm f, mq.p, cq.rc.fr (fun a x y => f a (by omega)) (by rw [f 0 (by omega)]), ?_⟩
  rw [f 0 (by omega), cq.m]
  exact kp.keep ok (fun a x y _ _ => by rw [f a (by omega), cq.k a x y]) (fun _ _ _ => rfl) rfl
theorem ask_out {D : Dat} {c v w : Int} {i i1 i2 r : MI} (cq : Cq D c v i i1 r) (mq : Mq D c v w i1 i2) : c = 0 → w = v ∧ i2 540 0 = jLo ((sJ v).toInt64) ∧ i2 540 1 = jHi ((sJ v).toInt64) :=
  fun z => ⟨mq.v z, by rw [mq.f 540 (by omega)]; exact (cq.out z).1, by rw [mq.f 540 (by omega)]; exact (cq.out z).2⟩
theorem gsk_end {D : Dat} {c v w c' v' : Int} {i i1 i2 r : MI} (ok : DOk D) (cq : Cg D c v i i1 r) (mq : Mq D c' v' w i1 i2) (rc : RC D i) (kp : KPn D (i 0 9) i r) : Inv i2 r := by
  have f := mq.f
  refine ⟨D, ok, cq.p.fm f, mq.p, rc.fr (fun a x y => by rw [f a (by omega), cq.k a (by omega)]) (by rw [f 0 (by omega), cq.k 0 (by omega)]), ?_⟩
  rw [f 0 (by omega), cq.k 0 (by omega)]
  exact kp.keep ok (fun a x y _ _ => by rw [f a (by omega), cq.k a (by omega)]) (fun _ _ _ => rfl) rfl
theorem gsk_out {D : Dat} {c v w : Int} {i i1 i2 r : MI} (cq : Cg D c v i i1 r) (mq : Mq D c v w i1 i2) : c = 0 → w = v ∧ i2 540 0 = jLo ((sJ v).toInt64) ∧ i2 540 1 = jHi ((sJ v).toInt64) :=
  fun z => ⟨mq.v z, by rw [mq.f 540 (by omega)]; exact (cq.out z).1, by rw [mq.f 540 (by omega)]; exact (cq.out z).2⟩
theorem case_1 {xs : Nat → Int32} {L x5 : Int} {i r : MI} (I : Inv i r) : wc_1 xs L Inv x5 i r := by
  obtain ⟨D, ok, hc, hm, rc, kp⟩ := I
  unfold wc_1
  refine C_clear hc ok (fun i1 cl => M_clear (hm.cl cl.1.f) ok (fun i2 mo => ⟨fun _ => ?_, fun z => absurd rfl z⟩))
  have f := mo.f
  refine ⟨(Dat.mk (0) (D.tx) (D.cnt) (D.fac) (D.tur) (D.bits) (D.inc) (D.inp) (D.told) (D.un) (D.cy) (D.F) (D.N) (D.T) (D.O) (D.ac) (D.ach) (D.apt) (D.dep)), clear_ok ok, cl.1.p.fm f, mo.p, (RC.ex (D := D) (D' := (Dat.mk (0) (D.tx) (D.cnt) (D.fac) (D.tur) (D.bits) (D.inc) (D.inp) (D.told) (D.un) (D.cy) (D.F) (D.N) (D.T) (D.O) (D.ac) (D.ach) (D.apt) (D.dep))) rfl rc).fr (fun a x y => by rw [f a (by omega), cl.1.k a (by omega)]) (by rw [f 0 (by omega), cl.2]), ?_⟩
  rw [f 0 (by omega), cl.2]
  exact (KPn.same (D := D) (D' := (Dat.mk (0) (D.tx) (D.cnt) (D.fac) (D.tur) (D.bits) (D.inc) (D.inp) (D.told) (D.un) (D.cy) (D.F) (D.N) (D.T) (D.O) (D.ac) (D.ach) (D.apt) (D.dep))) (.rfl' (fun _ _ => rfl) rfl rfl rfl) kp).keep (clear_ok ok) (fun a x y _ _ => by rw [f a (by omega), cl.1.k a (by omega)]) (fun _ _ _ => rfl) rfl
theorem case_2 {xs : Nat → Int32} {L x5 : Int} {i r : MI} (I : Inv i r) : wc_2 xs L Inv x5 i r := by
  obtain ⟨D, ok, hc, hm, rc, kp⟩ := I
  unfold wc_2 wp_X11_fault
  have h9 := stm_rng hc.rf.p
  refine C_fault hc ok (fun i1 g p _ => M_fault (hm.cl (fun a x y => pf_row g h9.1 (by omega))) ok (fun i2 mo => ⟨fun _ => ?_, fun z => absurd rfl z⟩))
  have f := mo.f
  refine ⟨D, ok, p.fm f, mo.p, rc.fr (fun a x y => by rw [f a (by omega), pf_row g h9.1 (by omega)]) (by rw [f 0 (by omega), pf_row g h9.1 (by omega)]), ?_⟩
  rw [f 0 (by omega), pf_row g h9.1 (by omega)]
  exact kp.keep ok (fun a x y _ _ => by rw [f a (by omega), pf_row g h9.1 (by omega)]) (fun _ _ _ => rfl) rfl
theorem add_end {D : Dat} {s : Int × Int × Dat} {w : Int} {i i1 i2 r r1 : MI} (ok : DOk D) (ok' : DOk s.2.2) (cl : Cr s i i1 r r1 0 0) (mo : Mo s w i1 i2) (rc : RC D i) (kp : KPn D (i 0 9) i r) (h0 : s.1 ≠ 0 → s.2.2 = D) : Inv i2 r1 := by
  have f := mo.f
  have k2 : i2 0 = i1 0 := f 0 (by omega)
  refine ⟨s.2.2, ok', cl.p.fm f, mo.p, ?_, ?_⟩
  · by_cases z : s.1 = 0
    · exact .inl (by rw [k2]; exact (cl.m z).2)
    · rw [h0 z]
      exact rc.fr (fun a x y => by rw [f a (by omega), cl.k a (by omega)]) (by rw [k2, (cl.m' z).1])
  · by_cases z : s.1 = 0
    · rw [k2, (cl.m z).1]
      exact ⟨fun y => by omega, fun y => by omega, fun y => by omega, fun y => by omega, fun y => by omega⟩
    · rw [h0 z, k2, (cl.m' z).1, (cl.m' z).2]
      exact kp.keep ok (fun a x y u v => by rw [f a (by omega), cl.k a (by omega)]) (fun _ _ _ => rfl) rfl
theorem case_3 {xs : Nat → Int32} {L x5 : Int} {i r : MI} (I : Inv i r) : wc_3 xs L Inv x5 i r := by
  obtain ⟨D, ok, hc, hm, rc, kp⟩ := I
  have h0 : (spAdd D).1 ≠ 0 → (spAdd D).2.2 = D := by
    unfold spAdd
    split
    · exact fun _ => rfl
    · split
      · exact fun _ => rfl
      · exact fun z => absurd rfl z
  unfold wc_3
  refine L_add hc ok (fun i1 r1 cl => M_add (hm.cl cl.f) ok (fun w i2 mo => thr_end mo.c (fun z => ⟨mo.v z, by rw [mo.f 540 (by omega)]; exact (cl.out z).1, by rw [mo.f 540 (by omega)]; exact (cl.out z).2⟩) ?_))
  exact add_end ok (spAdd_ok ok) cl mo rc kp h0
theorem case_12 {xs : Nat → Int32} {L x5 : Int} {i r : MI} (I : Inv i r) : wc_12 xs L Inv x5 i r := by
  obtain ⟨D, ok, hc, hm, rc, kp⟩ := I
  unfold wc_12
  exact C_outputs hc ok rc (fun i1 cq => M_outputs (hm.cl cq.f) ok (fun i2 mq => ⟨fun _ => ask_end ok cq mq kp, fun z => absurd rfl z⟩))
theorem case_13 {xs : Nat → Int32} {L x5 : Int} {i r : MI} (hb : 0 ≤ x5 ∧ x5 + 4 ≤ L ∧ L ≤ 2048) (I : Inv i r) : wc_13 xs L Inv x5 i r := by
  obtain ⟨D, ok, hc, hm, rc, kp⟩ := I
  have b1 := xb hb (j := 1) (by decide)
  unfold wc_13
  exact ⟨b1, L_output hc ok rc (fun i1 cq => ⟨b1, M_output (hm.cl cq.f) ok (fun w i2 mq => thr_end mq.c (ask_out cq mq) (ask_end ok cq mq kp))⟩)⟩
theorem case_14 {xs : Nat → Int32} {L x5 : Int} {i r : MI} (hb : 0 ≤ x5 ∧ x5 + 4 ≤ L ∧ L ≤ 2048) (I : Inv i r) : wc_14 xs L Inv x5 i r := by
  obtain ⟨D, ok, hc, hm, rc, kp⟩ := I
  have b1 := xb hb (j := 1) (by decide)
  have b2 := xb hb (j := 2) (by decide)
  unfold wc_14
  exact ⟨b1, b2, L_memoryAt hc ok rc (by omega) (fun i1 cq => ⟨b1, b2, M_memoryAt (hm.cl cq.f) ok (fun w i2 mq => thr_end mq.c (ask_out cq mq) (ask_end ok cq mq kp))⟩)⟩
theorem case_15 {xs : Nat → Int32} {L x5 : Int} {i r : MI} (hb : 0 ≤ x5 ∧ x5 + 4 ≤ L ∧ L ≤ 2048) (I : Inv i r) : wc_15 xs L Inv x5 i r := by
  obtain ⟨D, ok, hc, hm, rc, kp⟩ := I
  have b1 := xb hb (j := 1) (by decide)
  unfold wc_15
  exact ⟨b1, L_register hc ok rc (fun i1 cq => ⟨b1, M_register (hm.cl cq.f) ok (fun w i2 mq => thr_end mq.c (ask_out cq mq) (ask_end ok cq mq kp))⟩)⟩
theorem case_16 {xs : Nat → Int32} {L x5 : Int} {i r : MI} (I : Inv i r) : wc_16 xs L Inv x5 i r := by
  obtain ⟨D, ok, hc, hm, rc, kp⟩ := I
  unfold wc_16
  exact C_taken hc ok rc (fun i1 cq => M_taken (hm.cl cq.f) ok (fun i2 mq => ⟨fun _ => ask_end ok cq mq kp, fun z => absurd rfl z⟩))
theorem case_39 {xs : Nat → Int32} {L x5 : Int} {i r : MI} (hb : 0 ≤ x5 ∧ x5 + 4 ≤ L ∧ L ≤ 2048) (I : Inv i r) : wc_39 xs L Inv x5 i r := by
  obtain ⟨D, ok, hc, hm, rc, kp⟩ := I
  have b1 := xb hb (j := 1) (by decide)
  have b2 := xb hb (j := 2) (by decide)
  have b3 := xb hb (j := 3) (by decide)
  unfold wc_39 s1846_LC39
  have fin : ∀ b : Int, ((b = 0) ↔ sv xs (wr (x5 + 3)) = 0) → (b = 0 ∨ b = 1) → wp_L_action (sv xs (wr (x5 + 1))) (sv xs (wr (x5 + 2))) b i r (fun v55 i56 => ((0 ≤ wr (x5 + 1) ∧ wr (x5 + 1) < L) ∧ ((0 ≤ wr (x5 + 2) ∧ wr (x5 + 2) < L) ∧ ((0 ≤ wr (x5 + 3) ∧ wr (x5 + 3) < L) ∧ (((sv xs (wr (x5 + 3))) = 0 → s1879_LC39 x5 v55 (sv xs (wr (x5 + 1))) (sv xs (wr (x5 + 2))) 0 i56 r xs L Inv) ∧ (¬ (sv xs (wr (x5 + 3))) = 0 → s1879_LC39 x5 v55 (sv xs (wr (x5 + 1))) (sv xs (wr (x5 + 2))) 1 i56 r xs L Inv)))))) := fun b hz hb' => by
    have sp := spAction_ok ok (p := sv xs (wr (x5 + 1))) (c := sv xs (wr (x5 + 2))) (b := b) (n := i 0 9) hb'
    refine L_action hc ok hb' (fun i1 cl => ⟨b1, b2, b3, ?_⟩)
    have go : s1879_LC39 x5 (spAction D (sv xs (wr (x5 + 1))) (sv xs (wr (x5 + 2))) b).1 (sv xs (wr (x5 + 1))) (sv xs (wr (x5 + 2))) b i1 r xs L Inv := by
      unfold s1879_LC39
      refine M_action (hm.cl cl.f) ok hb' (fun w i2 mo => thr_end mo.c (fun z => ⟨mo.v z, by rw [mo.f 540 (by omega)]; exact (cl.out z).1, by rw [mo.f 540 (by omega)]; exact (cl.out z).2⟩) ?_)
      exact tell_end ok sp.1.1 cl mo rc kp (fun _ => .inr ⟨rfl, sp.2⟩) (fun z => ⟨by omega, sp.1.2.1 z⟩) sp.1.2.2
    refine ⟨fun z => ?_, fun z => ?_⟩
    · rw [hz.2 z] at go; rw [hz.2 z]; exact go
    · have : b = 1 := by
        rcases hb' with y | y
        · exact absurd (hz.1 y) z
        · exact y
      rw [this] at go; rw [this]; exact go
  exact ⟨b1, b2, b3, fun z => fin 0 ⟨fun _ => z, fun _ => rfl⟩ (.inl rfl), fun z => fin 1 ⟨fun y => absurd y (by decide), fun y => absurd y z⟩ (.inr rfl)⟩
