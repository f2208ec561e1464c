/-! ===== the cases: steps ===== -/
theorem M_soon {D : Dat} (ok : DOk D) {i r : MI} {p : Int} {Q : Int → MI → Prop} (h : ModelP D i) (hQ : ∀ s w m, IsSoon D s → Mq D (coNode D p) (s p) w i m → Q w m) : wp_X12_soon p i r Q := by
  have nl := nn_le ok
  unfold wp_X12_soon
  refine findSoon_w ok (mp0 h) (fun i1 m f f2 e s _ _ => ?_)
  have fv := FV.mk f f2
  exact node_m ok e.w.n fv.z (fun hp => ⟨fun _ => ⟨by omega, hQ _ _ _ s (mq_ok fv e.p hp)⟩, fun z => absurd rfl z⟩) (fun hp => ⟨fun z => absurd z (by decide), fun _ => hQ _ _ _ s (mq_no fv e.p hp)⟩)
theorem M_late {D : Dat} (ok : DOk D) {i r : MI} {p : Int} {Q : Int → MI → Prop} (h : ModelP D i) (hQ : ∀ s e l w m, IsSoon D s → IsEnd D s e → IsLate D e l → Mq D (coNode D p) (l p) w i m → Q w m) : wp_X12_late p i r Q := by
  have nl := nn_le ok
  unfold wp_X12_late
  refine findSoon_w ok (mp0 h) (fun i1 m f f2 e s en l => ?_)
  have fv := FV.mk f f2
  exact node_m ok e.w.n fv.z (fun hp => ⟨fun _ => ⟨by omega, hQ _ _ _ _ _ s en l (mq_ok fv e.p hp)⟩, fun z => absurd rfl z⟩) (fun hp => ⟨fun z => absurd z (by decide), fun _ => hQ _ _ _ _ _ s en l (mq_no fv e.p hp)⟩)
/-- the late steps are one -/
theorem late_one {D : Dat} (ok : DOk D) {s s' l l' : Int → Int} {e e' : Int} (h : IsSoon D s) (he : IsEnd D s e) (hl : IsLate D e l) (g : IsSoon D s') (ge : IsEnd D s' e') (gl : IsLate D e' l') : ∀ v, 0 ≤ v → v < nn D → l v = l' v := by
  rw [end_uniq (soon_uniq ok g h) ge he] at gl
  exact late_uniq ok hl gl
theorem M_step {D : Dat} (ok : DOk D) {i r : MI} {p : Int} {Q : Int → MI → Prop} (h : ModelP D i) (hQ : ∀ s e l t w m, IsSoon D s → IsEnd D s e → IsLate D e l → IsList D l t → Mq D (coNode D p) (t p) w i m → Q w m) : wp_X12_step p i r Q := by
  have nl := nn_le ok
  unfold wp_X12_step
  refine mlist_w ok (mp0 h) (fun i1 m f f2 e li ex _ => ?_)
  obtain ⟨s, en, a, b, c⟩ := ex
  have fv := FV.mk f f2
  exact node_m ok e.w.n fv.z (fun hp => ⟨fun _ => ⟨by omega, hQ _ _ _ _ _ _ a b c li (mq_ok fv e.p hp)⟩, fun z => absurd rfl z⟩) (fun hp => ⟨fun z => absurd z (by decide), fun _ => hQ _ _ _ _ _ _ a b c li (mq_no fv e.p hp)⟩)
theorem case_22 {xs : Nat → Int32} {L x5 : Int} {i r : MI} (hb : 0 ≤ x5 ∧ x5 + 4 ≤ L ∧ L ≤ 2048) (I : Inv i r) : wc_22 xs L Inv x5 i r := by
  obtain ⟨D, ok, hc, hm, rc, kp⟩ := I
  have nl := nn_le ok
  have b1 := xb hb (j := 1) (by decide)
  unfold wc_22 wp_L_soon wp_X11_soon
  generalize sv xs (wr (x5 + 1)) = p
  refine ⟨b1, prepare_w ok hc kp (by decide) (fun i1 r1 pq => ?_)⟩
  have pc : Pc D 1 0 i i1 r1 := .of pq rc (by decide)
  have nv := (pq.kp.m1 (by have := pq.ge; omega)).nv pq.p
  have m3 := pq.kp.m3 pq.ge
  refine checkN_w nv.n (fun hp => ⟨by omega, b1, ?_⟩) (fun hp => ⟨rfl, b1, ?_⟩)
  · have pr := pc.ret (w := i1 462 p) ok
    refine M_soon ok (hm.pc pr) (fun s w m hs mq => ?_)
    rw [co0 hp, soon_uniq ok hs m3.so p hp.1 hp.2] at mq
    exact thr_end mq.c (pc_out pr mq (fun _ => rfl)) (pc_end ok pr mq)
  · refine M_soon ok (hm.pc pc) (fun s w m hs mq => ?_)
    rw [co1 hp] at mq
    exact thr_end (v := 0) mq.c (fun z => absurd z (by decide)) (pc_end ok pc mq)
theorem case_23 {xs : Nat → Int32} {L x5 : Int} {i r : MI} (hb : 0 ≤ x5 ∧ x5 + 4 ≤ L ∧ L ≤ 2048) (I : Inv i r) : wc_23 xs L Inv x5 i r := by
  obtain ⟨D, ok, hc, hm, rc, kp⟩ := I
  have nl := nn_le ok
  have b1 := xb hb (j := 1) (by decide)
  unfold wc_23 wp_L_late wp_X11_late
  generalize sv xs (wr (x5 + 1)) = p
  refine ⟨b1, prepare_w ok hc kp (by decide) (fun i1 r1 pq => ?_)⟩
  have pc : Pc D 1 0 i i1 r1 := .of pq rc (by decide)
  have nv := (pq.kp.m1 (by have := pq.ge; omega)).nv pq.p
  have m3 := pq.kp.m3 pq.ge
  obtain ⟨e3, he3, hl3⟩ := m3.la
  refine checkN_w nv.n (fun hp => ⟨by omega, b1, ?_⟩) (fun hp => ⟨rfl, b1, ?_⟩)
  · have pr := pc.ret (w := i1 463 p) ok
    refine M_late ok (hm.pc pr) (fun s e l w m hs he hl mq => ?_)
    rw [co0 hp, late_one ok hs he hl m3.so he3 hl3 p hp.1 hp.2] at mq
    exact thr_end mq.c (pc_out pr mq (fun _ => rfl)) (pc_end ok pr mq)
  · refine M_late ok (hm.pc pc) (fun s e l w m hs he hl mq => ?_)
    rw [co1 hp] at mq
    exact thr_end (v := 0) mq.c (fun z => absurd z (by decide)) (pc_end ok pc mq)
theorem case_24 {xs : Nat → Int32} {L x5 : Int} {i r : MI} (hb : 0 ≤ x5 ∧ x5 + 4 ≤ L ∧ L ≤ 2048) (I : Inv i r) : wc_24 xs L Inv x5 i r := by
  obtain ⟨D, ok, hc, hm, rc, kp⟩ := I
  have nl := nn_le ok
  have b1 := xb hb (j := 1) (by decide)
  unfold wc_24 wp_L_step wp_X11_step
  generalize sv xs (wr (x5 + 1)) = p
  refine ⟨b1, prepare_w ok hc kp (by decide) (fun i1 r1 pq => ?_)⟩
  have pc : Pc D 1 0 i i1 r1 := .of pq rc (by decide)
  have nv := (pq.kp.m1 (by have := pq.ge; omega)).nv pq.p
  have m3 := pq.kp.m3 pq.ge
  obtain ⟨e3, he3, hl3⟩ := m3.la
  refine checkN_w nv.n (fun hp => ⟨by omega, b1, ?_⟩) (fun hp => ⟨rfl, b1, ?_⟩)
  · have pr := pc.ret (w := i1 464 p) ok
    refine M_step ok (hm.pc pr) (fun s e l t w m hs he hl li mq => ?_)
    rw [co0 hp, list_uniq ok (late_one ok hs he hl m3.so he3 hl3) li m3.li p hp.1 hp.2] at mq
    exact thr_end mq.c (pc_out pr mq (fun _ => rfl)) (pc_end ok pr mq)
  · refine M_step ok (hm.pc pc) (fun s e l t w m hs he hl li mq => ?_)
    rw [co1 hp] at mq
    exact thr_end (v := 0) mq.c (fun z => absurd z (by decide)) (pc_end ok pc mq)
/-- both sides' lists -/
theorem lists_eq {D : Dat} (ok : DOk D) {i m : MI} (m3 : M3 D i) (li : IsList D (m 530) (m 531)) (ex : ∃ so e, IsSoon D so ∧ IsEnd D so e ∧ IsLate D e (m 530)) : ∀ v, 0 ≤ v → v < nn D → i 464 v = m 531 v := by
  obtain ⟨s, e, a, b, c⟩ := ex
  obtain ⟨e3, he3, hl3⟩ := m3.la
  exact list_uniq ok (late_one ok m3.so he3 hl3 a b c) m3.li li
theorem case_25 {xs : Nat → Int32} {L x5 : Int} {i r : MI} (I : Inv i r) : wc_25 xs L Inv x5 i r := by
  obtain ⟨D, ok, hc, hm, rc, kp⟩ := I
  unfold wc_25 wp_X11_length wp_X12_length
  refine prepare_w ok hc kp (by decide) (fun i1 r1 pq => ?_)
  have pc : Pc D 1 0 i i1 r1 := .of pq rc (by decide)
  have nv := (pq.kp.m1 (by have := pq.ge; omega)).nv pq.p
  have m3 := pq.kp.m3 pq.ge
  have lb := (list_ok ok m3.li).2.2
  refine endOf_w ok nv (fun v a b => by have := lb v a b; omega) (fun e he => mlist_w ok (mp0 (hm.pc pc)) (fun i2 m f f2 em li ex hm' => ?_))
  have fv := FV.mk f f2
  exact ⟨fun _ => pc_end ok pc (Mq.fv (v := 0) fv em.p fv.z), fun z => z (end_uniq (lists_eq ok m3 li ex) he hm')⟩
theorem case_26 {xs : Nat → Int32} {L x5 : Int} {i r : MI} (hb : 0 ≤ x5 ∧ x5 + 4 ≤ L ∧ L ≤ 2048) (I : Inv i r) : wc_26 xs L Inv x5 i r := by
  obtain ⟨D, ok, hc, hm, rc, kp⟩ := I
  have nl := nn_le ok
  have b1 := xb hb (j := 1) (by decide)
  unfold wc_26 wp_X11_inStep wp_X12_inStep
  generalize sv xs (wr (x5 + 1)) = p
  refine ⟨b1, prepare_w ok hc kp (by decide) (fun i1 r1 pq => ?_)⟩
  have pc : Pc D 1 0 i i1 r1 := .of pq rc (by decide)
  have nv := (pq.kp.m1 (by have := pq.ge; omega)).nv pq.p
  have m3 := pq.kp.m3 pq.ge
  refine countIn_w ok nv (fun x hx => ⟨b1, mlist_w ok (mp0 (hm.pc pc)) (fun i2 m f f2 em li ex hm' => minStep_w ok em.w (fun y hy => ?_))⟩)
  have fv := FV.mk f f2
  refine ⟨fun _ => pc_end ok pc (Mq.fv (v := 0) fv em.p fv.z), fun z => z (CntP.uniq _ _ _ hx (hy.iff _ _ (fun v a b => ?_)))⟩
  rw [lists_eq ok m3 li ex v a (by omega)]
theorem case_27 {xs : Nat → Int32} {L x5 : Int} {i r : MI} (I : Inv i r) : wc_27 xs L Inv x5 i r := by
  obtain ⟨D, ok, hc, hm, rc, kp⟩ := I
  unfold wc_27 wp_X11_waiting wp_X12_waiting
  refine prepare_w ok hc kp (by decide) (fun i1 r1 pq => ?_)
  have pc1 : Pc D 1 0 i i1 r1 := .of pq rc (by decide)
  have nv := (pq.kp.m1 (by have := pq.ge; omega)).nv pq.p
  have m3 := pq.kp.m3 pq.ge
  refine mostW_w ok nv m3 (fun w e i2 g g1 g2 g3 he hw => ?_)
  have pc : Pc D 1 0 i i2 r1 := pc1.fo ok g (fun a x y => by
    have : a = 462 ∨ a = 463 ∨ a = 464 := by omega
    rcases this with rfl | rfl | rfl
    · exact g1
    · exact g2
    · exact g3) (by decide)
  refine mlist_w ok (mp0 (hm.pc pc)) (fun i3 m f f2 em li ex hm' => mwait_w ok em li hm' (fun w' hw' => ?_))
  have fv := FV.mk f f2
  have le := lists_eq ok m3 li ex
  refine ⟨fun _ => pc_end ok pc (Mq.fv (v := 0) fv em.p fv.z), fun z => z (wait_uniq ok le hw ?_)⟩
  rw [end_uniq le he hm']
  exact hw'
