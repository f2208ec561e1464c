/-! ===== the cases: interval and circuit ===== -/
theorem case_28 {xs : Nat → Int32} {L x5 : Int} {i r : MI} (I : Inv i r) : wc_28 xs L Inv x5 i r := by
  obtain ⟨D, ok, hc, hm, rc, kp⟩ := I
  unfold wc_28 wp_X11_byRings wp_X12_byRings
  refine prepare_w ok hc kp (by decide) (fun i1 r1 pq => ?_)
  have pc : Pc D 1 0 i i1 r1 := .of pq rc (by decide)
  have m4 := pq.kp.m4 pq.ge
  refine mbuild_w ok (mp0 (hm.pc pc)) (fun m f e => rings_w ok e (fun T m2 g hR => ?_))
  have fv := FV.mk f g.fy
  exact ⟨fun _ => pc_end ok pc (Mq.fv (v := 0) fv (e.fy g.fy).p fv.z), fun z => z (ring_uniq m4.r hR)⟩
theorem case_29 {xs : Nat → Int32} {L x5 : Int} {i r : MI} (I : Inv i r) : wc_29 xs L Inv x5 i r := by
  obtain ⟨D, ok, hc, hm, rc, kp⟩ := I
  unfold wc_29 wp_X11_byUnits wp_X12_byUnits
  refine prepare_w ok hc kp (by decide) (fun i1 r1 pq => ?_)
  have pc : Pc D 1 0 i i1 r1 := .of pq rc (by decide)
  have m4 := pq.kp.m4 pq.ge
  refine mbuild_w ok (mp0 (hm.pc pc)) (fun m f e => mbyUnits_w ok e ?_)
  have fv := FV.mk f (FY.refl m)
  exact ⟨fun _ => pc_end ok pc (Mq.fv (v := 0) fv e.p fv.z), fun z => z m4.u⟩
theorem case_30 {xs : Nat → Int32} {L x5 : Int} {i r : MI} (I : Inv i r) : wc_30 xs L Inv x5 i r := by
  obtain ⟨D, ok, hc, hm, rc, kp⟩ := I
  unfold wc_30 wp_X11_interval wp_X12_interval
  refine prepare_w ok hc kp (by decide) (fun i1 r1 pq => ?_)
  have pc : Pc D 1 0 i i1 r1 := .of pq rc (by decide)
  have m4 := pq.kp.m4 pq.ge
  refine mplaceAll_w ok (mp0 (hm.pc pc)) (fun T i2 m f f2 e iT p => ?_)
  have fv := FV.mk f f2
  exact ⟨fun _ => pc_end ok pc (Mq.fv (v := 0) fv e.p fv.z), fun z => z (int_uniq m4.t iT)⟩
theorem case_31 {xs : Nat → Int32} {L x5 : Int} {i r : MI} (I : Inv i r) : wc_31 xs L Inv x5 i r := by
  obtain ⟨D, ok, hc, hm, rc, kp⟩ := I
  unfold wc_31 wp_X11_binds
  refine prepare_w ok hc kp (by decide) (fun i1 r1 pq => ?_)
  have pc : Pc D 1 0 i i1 r1 := .of pq rc (by decide)
  have m4 := pq.kp.m4 pq.ge
  have m1 := pq.kp.m1 (by have := pq.ge; omega)
  refine binding_w ok (m1.nv pq.p) (m1.mc pq.p) m4 (fun c hc' hb => ⟨hc', mbinds_w ok (hm.pc pc) (fun R T c' m fv mp z hR hT hc2 hb2 => ?_)⟩)
  refine ⟨fun _ => pc_end ok pc (Mq.fv (v := 0) fv mp z), fun y => y ?_⟩
  rw [ring_uniq hR m4.r, int_uniq hT m4.t] at hb2
  exact hb.uniq hb2
theorem M_place {D : Dat} (ok : DOk D) {i r : MI} {q : Int} {Q : Int → MI → Prop} (h : ModelP D i) (hQ : ∀ T p w m, IsInt D T → PlU D T p (nn D) → Mq D (coNode D q) (p q) w i m → Q w m) : wp_X12_place q i r Q := by
  have nl := nn_le ok
  unfold wp_X12_place
  refine mplaceAll_w ok (mp0 h) (fun T i1 m f f2 e iT p => ?_)
  have fv := FV.mk f f2
  exact node_m ok e.w.n fv.z (fun hp => ⟨fun _ => ⟨by omega, hQ _ _ _ _ iT p (mq_ok fv e.p hp)⟩, fun z => absurd rfl z⟩) (fun hp => ⟨fun z => absurd z (by decide), fun _ => hQ _ _ _ _ iT p (mq_no fv e.p hp)⟩)
theorem case_32 {xs : Nat → Int32} {L x5 : Int} {i r : MI} (hb : 0 ≤ x5 ∧ x5 + 4 ≤ L ∧ L ≤ 2048) (I : Inv i r) : wc_32 xs L Inv x5 i r := by
  obtain ⟨D, ok, hc, hm, rc, kp⟩ := I
  have nl := nn_le ok
  have b1 := xb hb (j := 1) (by decide)
  unfold wc_32 wp_L_place wp_X11_place
  generalize sv xs (wr (x5 + 1)) = p
  refine ⟨b1, prepare_w ok hc kp (by decide) (fun i1 r1 pq => ?_)⟩
  have pc : Pc D 1 0 i i1 r1 := .of pq rc (by decide)
  have nv := (pq.kp.m1 (by have := pq.ge; omega)).nv pq.p
  have m4 := pq.kp.m4 pq.ge
  refine checkN_w nv.n (fun hp => ⟨by omega, b1, ?_⟩) (fun hp => ⟨rfl, b1, ?_⟩)
  · have pr := pc.ret (w := i1 470 p) ok
    refine M_place ok (hm.pc pr) (fun T q w m iT pl mq => ?_)
    rw [int_uniq iT m4.t] at pl
    rw [co0 hp, pl_uniq ok pl m4.p p hp.1 hp.2] at mq
    exact thr_end mq.c (pc_out pr mq (fun _ => rfl)) (pc_end ok pr mq)
  · refine M_place ok (hm.pc pc) (fun T q w m iT pl mq => ?_)
    rw [co1 hp] at mq
    exact thr_end (v := 0) mq.c (fun z => absurd z (by decide)) (pc_end ok pc mq)
theorem case_33 {xs : Nat → Int32} {L x5 : Int} {i r : MI} (I : Inv i r) : wc_33 xs L Inv x5 i r := by
  obtain ⟨D, ok, hc, hm, rc, kp⟩ := I
  unfold wc_33 wp_X11_cycles
  refine prepare_w ok hc kp (by decide) (fun i1 r1 pq => ?_)
  have pc : Pc D 1 0 i i1 r1 := .of pq rc (by decide)
  have nv := (pq.kp.m1 (by have := pq.ge; omega)).nv pq.p
  have m4 := pq.kp.m4 pq.ge
  refine bodyT_w ok pq.p (countC_w ok nv m4 (fun x hx => M_cycles ok (hm.pc pc) (fun T p y m mq iT pl hy => ?_)))
  have eT := int_uniq iT m4.t
  rw [eT] at pl hy
  exact ⟨fun _ => pc_end ok pc mq, fun z => z (hx.uniq (pl_uniq ok m4.p pl) hy)⟩
theorem case_34 {xs : Nat → Int32} {L x5 : Int} {i r : MI} (I : Inv i r) : wc_34 xs L Inv x5 i r := by
  obtain ⟨D, ok, hc, hm, rc, kp⟩ := I
  unfold wc_34 wp_X11_oneByOne
  refine prepare_w ok hc kp (by decide) (fun i1 r1 pq => ?_)
  have pc : Pc D 1 0 i i1 r1 := .of pq rc (by decide)
  have nv := (pq.kp.m1 pq.ge).nv pq.p
  have sb := sbt_b ok (sum480 ok)
  refine sumOf_w ok nv (bodyT_w ok pq.p ?_)
  rw [wr_of (x := sumC D (nn D) * BT D) (by omega) (by omega)]
  exact M_oneByOne ok (hm.pc pc) (fun m mq => ⟨fun _ => pc_end ok pc mq, fun z => absurd rfl z⟩)
theorem case_35 {xs : Nat → Int32} {L x5 : Int} {i r : MI} (I : Inv i r) : wc_35 xs L Inv x5 i r := by
  obtain ⟨D, ok, hc, hm, rc, kp⟩ := I
  unfold wc_35 wp_X11_circuitOutputs wp_X12_circuitOutputs
  refine prepare_w ok hc kp (by decide) (fun i1 r1 pq => ?_)
  have pc : Pc D 1 0 i i1 r1 := .of pq rc (by decide)
  have m5 : CSt D 481 i1 (execS D) := pq.kp.m5 pq.ge
  refine flow_w ok (mp0 (hm.pc pc)) (fun m f z mp ms => ?_)
  rw [m5.n, ms.n]
  exact ⟨fun _ => pc_end ok pc (Mq.mk (v := 0) (c := 0) (w := 0) mp (Fm.s4.trans f) (by rw [z]; exact st_eq) (fun _ => rfl)), fun y => absurd rfl y⟩
theorem M_circOut {D : Dat} {i r : MI} {p : Int} {Q : Int → MI → Prop} (h : ModelP D i) (ok : DOk D) (hQ : ∀ w i', Mq D (coOutput D p) ((execS D).out p) w i i' → Q w i') : wp_X12_circuitOutput p i r Q := by
  unfold wp_X12_circuitOutput s29_X12_circuitOutput s46_X12_circuitOutput
  have hn := exec_n ok
  unfold coOutput at hQ
  refine flow_w ok (mp0 h) (fun i' g z0 hm s => ?_)
  rw [st_eq] at z0
  rw [in_eq, s.n, wr_of (by omega) (by omega)]
  by_cases e : 0 ≤ p ∧ p < (execS D).outs
  · rw [bz, if_pos (by omega)]
    rw [if_pos e] at hQ
    refine ⟨fun q => absurd q (by decide), fun _ => ?_⟩
    rw [fails_eq (by decide), if_pos (.inl rfl), bz, if_neg (by omega), s.x p e.1 e.2]
    exact ⟨fun _ => ⟨by omega, hQ _ _ ⟨hm, Fm.s4.trans g, z0, fun _ => rfl⟩⟩, fun q => absurd rfl q⟩
  · rw [bz, if_neg (by omega)]
    rw [if_neg e] at hQ
    refine ⟨fun _ => ?_, fun q => absurd rfl q⟩
    rw [fails_eq (by decide), if_neg (by omega)]
    exact ⟨fun q => absurd q (by decide), fun _ => hQ _ _ ⟨mp0 hm, (Fm.s4.trans g).trans Fm.s4, st_eq, fun q => absurd q (by decide)⟩⟩
theorem case_36 {xs : Nat → Int32} {L x5 : Int} {i r : MI} (hb : 0 ≤ x5 ∧ x5 + 4 ≤ L ∧ L ≤ 2048) (I : Inv i r) : wc_36 xs L Inv x5 i r := by
  obtain ⟨D, ok, hc, hm, rc, kp⟩ := I
  have hn := exec_n ok
  have b1 := xb hb (j := 1) (by decide)
  unfold wc_36 wp_L_circuitOutput wp_X11_circuitOutput
  generalize sv xs (wr (x5 + 1)) = p
  refine ⟨b1, prepare_w ok hc kp (by decide) (fun i1 r1 pq => ?_)⟩
  have pc : Pc D 1 0 i i1 r1 := .of pq rc (by decide)
  have m5 : CSt D 481 i1 (execS D) := pq.kp.m5 pq.ge
  unfold s23_X11_circuitOutput
  rw [m5.n]
  have bad : ¬ (0 ≤ p ∧ p < (execS D).outs) → ("java/lang/IndexOutOfBoundsException" = "java/lang/IndexOutOfBoundsException" ∧ ((0 ≤ wr (x5 + 1) ∧ wr (x5 + 1) < L) ∧ wp_X12_circuitOutput p i1 r1 (fun v10 i11 => wp_X12_thrown i11 r1 (fun v17 => ((v17 = 1 → (((1 : Int) = 0 → ((((lg_cmp (jMk (i11 540 0) (i11 540 1)) ((sJ v10).toInt64)).toInt) = 0 → s1733_LC36 x5 i11 r1 xs L Inv) ∧ (¬ ((lg_cmp (jMk (i11 540 0) (i11 540 1)) ((sJ v10).toInt64)).toInt) = 0 → False))) ∧ (¬ (1 : Int) = 0 → s1733_LC36 x5 i11 r1 xs L Inv))) ∧ (¬ v17 = 1 → False)))))) := fun z => by
    refine ⟨rfl, b1, M_circOut (hm.pc pc) ok (fun w m mq => ?_)⟩
    unfold coOutput at mq
    rw [if_neg z] at mq
    exact thr_end (v := 0) mq.c (fun y => absurd y (by decide)) (pc_end ok pc mq)
  refine ⟨fun z => bad (by omega), fun z => ⟨fun z2 => ⟨by omega, b1, ?_⟩, fun z2 => bad (by omega)⟩⟩
  have pr := pc.ret (w := i1 (481 + 5) p) ok
  refine M_circOut (hm.pc pr) ok (fun w m mq => ?_)
  unfold coOutput at mq
  rw [if_pos ⟨by omega, z2⟩, ← m5.x p (by omega) z2] at mq
  exact thr_end mq.c (pc_out pr mq (fun _ => rfl)) (pc_end ok pr mq)
theorem M_circMem {D : Dat} {i r : MI} {m p : Int} {Q : Int → MI → Prop} (h : ModelP D i) (ok : DOk D) (hQ : ∀ w i', Mq D (coPlace m p) ((execS D).mem (m - 77) p) w i i' → Q w i') : wp_X12_circuitMemory m p i r Q := by
  unfold wp_X12_circuitMemory
  unfold coPlace at hQ
  rw [noMemory_e]
  have z0 : ∀ v, st i 504 0 v 504 0 = v := fun v => st_eq
  by_cases e : (m = 77 ∨ m = 78) ∧ 0 ≤ p ∧ p ≤ 15
  · rw [if_pos e] at hQ
    have e1 : bz (¬ ((m = 77 ∨ m = 78) ∧ 0 ≤ p ∧ p ≤ 15)) = 0 := bz_0.2 (fun q => q e)
    rw [e1, fails_eq (by decide), if_pos (.inl rfl), bz, if_neg (by rw [z0]; omega)]
    refine ⟨fun _ => ?_, fun q => absurd rfl q⟩
    refine flow_w ok (mp0 h) (fun i' g zz hm s => ?_)
    rw [st_eq] at zz
    rw [cell_e e.1 e.2, s.m _ _ (by omega) (by omega) (by omega) (by omega)]
    exact ⟨by omega, hQ _ _ ⟨hm, Fm.s4.trans g, zz, fun _ => rfl⟩⟩
  · rw [if_neg e] at hQ
    have e1 : bz (¬ ((m = 77 ∨ m = 78) ∧ 0 ≤ p ∧ p ≤ 15)) = 1 := bz_1.2 e
    rw [e1, fails_eq (by decide), if_neg (by rw [z0]; omega)]
    refine ⟨fun q => absurd q (by decide), fun _ => hQ _ _ ⟨mp0 (mp0 h), Fm.s4.trans Fm.s4, st_eq, fun q => absurd q (by decide)⟩⟩
theorem case_37 {xs : Nat → Int32} {L x5 : Int} {i r : MI} (hb : 0 ≤ x5 ∧ x5 + 4 ≤ L ∧ L ≤ 2048) (I : Inv i r) : wc_37 xs L Inv x5 i r := by
  obtain ⟨D, ok, hc, hm, rc, kp⟩ := I
  have b1 := xb hb (j := 1) (by decide)
  have b2 := xb hb (j := 2) (by decide)
  unfold wc_37 wp_L_circuitMemory wp_X11_circuitMemory
  have hmm : 0 ≤ sv xs (wr (x5 + 1)) % 65536 ∧ sv xs (wr (x5 + 1)) % 65536 < 65536 := by omega
  generalize sv xs (wr (x5 + 1)) % 65536 = m at hmm
  generalize sv xs (wr (x5 + 2)) = p
  refine ⟨b1, b2, isPlace_w hmm ?_⟩
  by_cases e : (m = 77 ∨ m = 78) ∧ 0 ≤ p ∧ p ≤ 15
  · rw [bz, if_pos e]
    refine ⟨fun q => absurd q (by decide), fun _ => prepare_w ok hc kp (by decide) (fun i1 r1 pq => indexOf_w (by decide) hmm.1 hmm.2 ?_)⟩
    have pc : Pc D 1 0 i i1 r1 := .of pq rc (by decide)
    have m5 : CSt D 481 i1 (execS D) := pq.kp.m5 pq.ge
    rw [look_e m5, ixS_m e.1, lookS, if_pos (by omega)]
    have pr := pc.ret (w := (execS D).mem (m - 77) p) ok
    refine ⟨b1, b2, M_circMem (hm.pc pr) ok (fun w i2 mq => ?_)⟩
    unfold coPlace at mq
    rw [if_pos e] at mq
    exact thr_end mq.c (pc_out pr mq (fun _ => rfl)) (pc_end ok pr mq)
  · rw [bz, if_neg e]
    have pc : Pc D 1 0 i i r := ⟨hc, rc, kp, fun _ _ _ _ => rfl, fun z => absurd z (by decide)⟩
    refine ⟨fun _ => ⟨rfl, b1, b2, M_circMem (hm.pc pc) ok (fun w i2 mq => ?_)⟩, fun q => absurd rfl q⟩
    unfold coPlace at mq
    rw [if_neg e] at mq
    exact thr_end (v := 0) mq.c (fun y => absurd y (by decide)) (pc_end ok pc mq)
theorem mq1 {D : Dat} {i : MI} (h : ModelP D i) : Mq D 0 0 0 i (st i 504 0 0) := ⟨mp0 h, Fm.s4, st_eq, fun _ => rfl⟩
/-- carried out, and all made -/
theorem both_w {D : Dat} (ok : DOk D) {i r : MI} {Q : MI → MI → Prop} (hc : ClassP D i r) (rc : RC D i) (kp : KPn D (i 0 9) i r) (hQ : ∀ i1 r1, Pc D 1 0 i i1 r1 → KPn D 5 i1 r1 → CSt D 61 i1 (execS D) → Q i1 r1) : wp_X11_carryOut i r (fun i2 => wp_X11_prepare 5 i2 r Q) := by
  refine xcarry_w hc ok rc (fun i1 g s => ?_)
  have k1 : KPn D (i1 0 9) i1 r := by
    rw [g.2 9 (by decide)]
    exact kp.keep ok (fun a x y _ _ => g.1 a (by omega) (by omega)) (fun _ _ _ => rfl) rfl
  refine prepare_w ok (hc.fr g) k1 (by decide) (fun i2 r2 pq => ?_)
  have pc := Pc.of (c := 1) (v := 0) pq (.inr s) (by decide)
  exact hQ i2 r2 ⟨pc.p, pc.rc, pc.kp, fun a x y z => by rw [pc.f a x y z, g.1 a (by omega) (by omega)], fun z => absurd z (by decide)⟩ (pq.kp.le pq.ge) (s.congr (fun a x y => pq.lo a (by omega) (by omega)))
theorem case_38 {xs : Nat → Int32} {L x5 : Int} {i r : MI} (I : Inv i r) : wc_38 xs L Inv x5 i r := by
  obtain ⟨D, ok, hc, hm, rc, kp⟩ := I
  unfold wc_38 wp_X11_isSame wp_X12_isSame
  exact both_w ok hc rc kp (fun i1 r1 pc k5 s => like_w ok s (k5.m5 (by decide)) ⟨.inr rfl, fun _ => pc_end ok pc (mq1 (hm.pc pc)), fun z => absurd rfl z⟩)
theorem case_48 {xs : Nat → Int32} {L x5 : Int} {i r : MI} (I : Inv i r) : wc_48 xs L Inv x5 i r := by
  obtain ⟨D, ok, hc, hm, rc, kp⟩ := I
  unfold wc_48 wp_X11_isSound wp_X12_isSound s80_X11_isSound s81_X11_isSound
  refine both_w ok hc rc kp (fun i1 r1 pc k5 s => ?_)
  have m1 := k5.m1 (by decide)
  have nv := m1.nv pc.p
  have m2 := k5.m2 (by decide)
  have m3 := k5.m3 (by decide)
  have m4 := k5.m4 (by decide)
  refine lkept_w ok nv m2 pc.p.un m3 ⟨fun z => absurd z (by decide), fun _ => order_ok ok nv m3 ⟨fun z => absurd z (by decide), fun _ => pkept_w ok nv m2 pc.p.un m4 ⟨fun z => absurd z (by decide), fun _ => like_w ok s (k5.m5 (by decide)) ⟨fun z => absurd z (by decide), fun _ => ⟨.inr rfl, ?_⟩⟩⟩⟩⟩
  exact ⟨fun _ => pc_end ok pc (mq1 (hm.pc pc)), fun z => absurd rfl z⟩
