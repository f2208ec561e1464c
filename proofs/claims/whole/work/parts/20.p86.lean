/-! ===== the cases: nodes and edges ===== -/
theorem co0 {D : Dat} {p : Int} (h : 0 ≤ p ∧ p < nn D) : coNode D p = 0 := if_pos h
theorem co1 {D : Dat} {p : Int} (h : ¬ (0 ≤ p ∧ p < nn D)) : coNode D p = 1 := if_neg h
theorem M_kindOf {D : Dat} (ok : DOk D) {i r : MI} {p : Int} {Q : Int → MI → Prop} (h : ModelP D i) (hQ : ∀ w m, Mq D (coNode D p) (kch (kdv D p)) w i m → Q w m) : wp_X12_kindOf p i r Q := by
  have nl := nn_le ok
  unfold wp_X12_kindOf
  refine mbuild_w ok (mp0 h) (fun m f e => ?_)
  have fv := FV.mk f (FY.refl m)
  refine node_m ok e.w.n fv.z (fun hp => ⟨fun _ => ⟨by omega, ?_⟩, fun z => absurd rfl z⟩) (fun hp => ⟨fun z => absurd z (by decide), fun _ => ⟨by decide, hQ _ _ (mq_no fv e.p hp)⟩⟩)
  rw [e.w.kd hp]
  exact kch_w (kdv_r ok hp) (fun hc => ⟨hc, hQ _ _ (mq_ok fv e.p hp)⟩)
theorem M_statementOf {D : Dat} (ok : DOk D) {i r : MI} {p : Int} {Q : Int → MI → Prop} (h : ModelP D i) (hQ : ∀ w m, Mq D (coNode D p) (nd D p).1 w i m → Q w m) : wp_X12_statementOf p i r Q := by
  have nl := nn_le ok
  unfold wp_X12_statementOf
  refine mbuild_w ok (mp0 h) (fun m f e => ?_)
  have fv := FV.mk f (FY.refl m)
  refine node_m ok e.w.n fv.z (fun hp => ⟨fun _ => ⟨by omega, ?_⟩, fun z => absurd rfl z⟩) (fun hp => ⟨fun z => absurd z (by decide), fun _ => hQ _ _ (mq_no fv e.p hp)⟩)
  rw [e.w.s5 hp]
  exact hQ _ _ (mq_ok fv e.p hp)
theorem case_17 {xs : Nat → Int32} {L x5 : Int} {i r : MI} (I : Inv i r) : wc_17 xs L Inv x5 i r := by
  obtain ⟨D, ok, hc, hm, rc, kp⟩ := I
  unfold wc_17 wp_X11_nodes wp_X12_nodes
  refine prepare_w ok hc kp (by decide) (fun i1 r1 pq => ?_)
  have pc : Pc D 1 0 i i1 r1 := .of pq rc (by decide)
  have nv := (pq.kp.m1 pq.ge).nv pq.p
  refine mbuild_w ok (mp0 (hm.pc pc)) (fun m f e => ?_)
  have fv := FV.mk f (FY.refl m)
  exact ⟨fun _ => pc_end ok pc (Mq.fv (v := 0) fv e.p fv.z), fun z => z (by rw [nv.n, e.w.n])⟩
theorem case_18 {xs : Nat → Int32} {L x5 : Int} {i r : MI} (hb : 0 ≤ x5 ∧ x5 + 4 ≤ L ∧ L ≤ 2048) (I : Inv i r) : wc_18 xs L Inv x5 i r := by
  obtain ⟨D, ok, hc, hm, rc, kp⟩ := I
  have nl := nn_le ok
  have b1 := xb hb (j := 1) (by decide)
  unfold wc_18 wp_L_kindOf wp_X11_kindOf
  generalize sv xs (wr (x5 + 1)) = p
  refine ⟨b1, prepare_w ok hc kp (by decide) (fun i1 r1 pq => ?_)⟩
  have pc : Pc D 1 (kch (kdv D p)) i i1 r1 := .of pq rc (by decide)
  have nv := (pq.kp.m1 pq.ge).nv pq.p
  refine checkN_w nv.n (fun hp => ⟨by omega, ?_⟩) (fun hp => ⟨rfl, b1, M_kindOf ok (hm.pc pc) (fun w m mq => ?_)⟩)
  · rw [nv.kd hp]
    refine kch_w (kdv_r ok hp) (fun hc => ⟨hc, b1, M_kindOf ok (hm.pc (pc.ret (w := kch (kdv D p)) ok)) (fun w m mq => ?_)⟩)
    rw [co0 hp] at mq
    exact thr_end mq.c (pc_out (pc.ret ok) mq (fun _ => rfl)) (pc_end ok (pc.ret ok) mq)
  · rw [co1 hp] at mq
    exact thr_end mq.c (pc_out pc mq (fun _ => rfl)) (pc_end ok pc mq)
theorem case_19 {xs : Nat → Int32} {L x5 : Int} {i r : MI} (hb : 0 ≤ x5 ∧ x5 + 4 ≤ L ∧ L ≤ 2048) (I : Inv i r) : wc_19 xs L Inv x5 i r := by
  obtain ⟨D, ok, hc, hm, rc, kp⟩ := I
  have nl := nn_le ok
  have b1 := xb hb (j := 1) (by decide)
  unfold wc_19 wp_L_statementOf wp_X11_statementOf
  generalize sv xs (wr (x5 + 1)) = p
  refine ⟨b1, prepare_w ok hc kp (by decide) (fun i1 r1 pq => ?_)⟩
  have pc : Pc D 1 (nd D p).1 i i1 r1 := .of pq rc (by decide)
  have nv := (pq.kp.m1 pq.ge).nv pq.p
  refine checkN_w nv.n (fun hp => ⟨by omega, ?_⟩) (fun hp => ⟨rfl, b1, M_statementOf ok (hm.pc pc) (fun w m mq => ?_)⟩)
  · rw [show i1 (72 + p) 1 = (nd D p).1 from nv.a p 1 hp.1 hp.2 (by decide) (by decide)]
    refine ⟨b1, M_statementOf ok (hm.pc (pc.ret (w := (nd D p).1) ok)) (fun w m mq => ?_)⟩
    rw [co0 hp] at mq
    exact thr_end mq.c (pc_out (pc.ret ok) mq (fun _ => rfl)) (pc_end ok (pc.ret ok) mq)
  · rw [co1 hp] at mq
    exact thr_end mq.c (pc_out pc mq (fun _ => rfl)) (pc_end ok pc mq)
