/-! ===== the cases: figures asked ===== -/
theorem case_45 {xs : Nat → Int32} {L x5 : Int} {i r : MI} (I : Inv i r) : wc_45 xs L Inv x5 i r := by
  obtain ⟨D, ok, hc, hm, rc, kp⟩ := I
  have nl := nn_le ok
  unfold wc_45 wp_X11_checksum
  refine prepare_w ok hc kp (by decide) (fun i1 r1 pq => ?_)
  have pc : Pc D 1 0 i i1 r1 := .of pq rc (by decide)
  have nv := (pq.kp.m1 (by have := pq.ge; omega)).nv pq.p
  have m3 := pq.kp.m3 (by have := pq.ge; omega)
  have m4 := pq.kp.m4 pq.ge
  refine Lp.r2 (fun (s : Int64) (x : Int) => 0 ≤ x ∧ x ≤ nn D ∧ s = cks (i1 464) (i1 470) x.toNat) (fun _ x => (nn D - x).toNat) ?_ ⟨by decide, nl.1, rfl⟩
  intro s x C ⟨x0, x1, es⟩ hC
  dsimp only [b9_X11_checksum]
  rw [nv.n, wr_of (x := x + 1) (by omega) (by omega)]
  refine ⟨fun q => ?_, fun q => ⟨by omega, by omega, hC _ _ ⟨by omega, by omega, by rw [cks_s x0, es]⟩ (by omega)⟩⟩
  have ex : x = nn D := by omega
  rw [ex] at es
  unfold wp_X12_checksum
  refine mlist_w ok (mp0 (hm.pc pc)) (fun i2 m f f2 em li ex hm' => ?_)
  refine mplaceAll2_w ok em.p (fun T i3 m2 g g2 em2 iT pl e531 => ?_)
  have le := lists_eq ok m3 li ex
  rw [int_uniq iT m4.t] at pl
  have pe := pl_uniq ok m4.p pl
  have fv : FV i1 m := FV.mk f f2
  have fm : Fm i1 m2 := fun a ha => by rw [g2.fm a ha, g.fm a ha, fv.fm a ha]
  have z0 : m2 504 0 = 0 := by rw [g2.c 0 (by decide), g.c 0 (by decide) (by decide), fv.z]
  have pb := pl_b ok (T := i1 469 5) (by have := int_b m4.t; omega) (Int.le_refl _) pl
  refine Lp.r2 (fun (t : Int64) (y : Int) => 0 ≤ y ∧ y ≤ nn D ∧ t = cks (m2 531) (m2 532) y.toNat) (fun _ y => (nn D - y).toNat) ?_ ⟨by decide, nl.1, rfl⟩
  intro t y C2 ⟨y0, y1, et⟩ hC2
  dsimp only [b18_X12_checksum]
  rw [em2.w.n, wr_of (x := y + 1) (by omega) (by omega)]
  refine ⟨fun q2 => ?_, fun q2 => ⟨by omega, by omega, hC2 _ _ ⟨by omega, by omega, ?_⟩ (by omega)⟩⟩
  · have ey : y = nn D := by omega
    rw [ey] at et
    have e : s = t := by
      rw [es, et]
      refine cks_ext _ (fun v a b => ⟨?_, pe v a (by omega)⟩)
      rw [le v a (by omega), e531]
    have e0 : (lg_cmp s t).toInt = 0 := by
      rw [e]
      unfold lg_cmp
      simp
    exact ⟨fun _ => pc_end ok pc (Mq.mk (v := 0) (c := 0) (w := 0) em2.p fm z0 (fun _ => rfl)), fun z => z e0⟩
  · have := pb y y0 (by omega)
    rw [mul7 ⟨by omega, by omega⟩, cks_s y0, et, Int64.mul_comm]
theorem pc541 {D : Dat} {c v a b : Int} {i i1 r1 : MI} (ok : DOk D) (h : Pc D c v i i1 r1) (hc : c ≠ 0) : Pc D c v i (st (st i1 541 0 a) 541 1 b) r1 := by
  have e : ∀ x, x ≠ 541 → (st (st i1 541 0 a) 541 1 b) x = i1 x := fun x z => by rw [st_row z, st_row z]
  refine ⟨?_, h.rc.fr (fun a x y => e a (by omega)) (by rw [e 0 (by decide)]), ?_, fun x p q w => by rw [e x w]; exact h.f x p q w, fun z => absurd z hc⟩
  · refine h.p.congr ?_ ?_ ?_ ?_ ?_ ?_ ?_ ?_ ?_ ?_ rfl rfl
    all_goals (intros; rw [e _ (by omega)])
  · rw [e 0 (by decide)]
    exact h.kp.keep ok (fun a x y _ _ => e a (by omega)) (fun _ _ _ => rfl) rfl
theorem un_T {D : Dat} (ok : DOk D) {k T : Int} (hk : 0 ≤ k ∧ k < 7) (hT : IsInt D T) : 1 ≤ D.un k * T ∧ D.un k * T ≤ 1920 := by
  have u := ok.un k hk.1 hk.2
  have t := int_b hT
  have a : 1 * 1 ≤ D.un k * T := Int.mul_le_mul u.1 t.1 (by omega) (by omega)
  have b : D.un k * T ≤ 4 * 480 := Int.mul_le_mul u.2 t.2 (by omega) (by omega)
  omega
theorem M_busy {D : Dat} (ok : DOk D) {i r : MI} {k : Int} {Q : UInt32 → MI → Prop} (h : ModelP D i) (hk : 0 ≤ k ∧ k < 65536)
    (h1 : ixS 3 k < 0 → ∀ m, Fm i m → ModelP D m → m 504 0 = 1 → Q FP.fconst0 m)
    (h0 : 0 ≤ ixS 3 k → ∀ T m, IsInt D T → Fm i m → ModelP D m → m 504 0 = 0 → Q (FP.fdiv (FP.i2f (sJ (kcN D (ixS 3 k)))) (FP.i2f (sJ (D.un (ixS 3 k) * T)))) m) : wp_X12_busyShare k i r Q := by
  have nl := nn_le ok
  unfold wp_X12_busyShare s22_X12_busyShare
  have ix := ixS_rng (k := 3) (p := k) (by decide)
  have l7 : (chS 3).length = 7 := by decide
  refine indexOf_w (by decide) hk.1 hk.2 ⟨fun z => ?_, fun z => ?_⟩
  · have kr : 0 ≤ ixS 3 k ∧ ixS 3 k < 7 := by omega
    refine fails0 st_eq ⟨fun _ => mplaceAll_w ok (mp0 h) (fun T i1 m f f2 em iT pl => ?_), fun y => absurd rfl y⟩
    have fv : FV i m := FV.mk f f2
    have ut := un_T ok kr iT
    refine Lp.r2 (fun (s x : Int) => 0 ≤ x ∧ x ≤ nn D ∧ s = ocL D ((nds D).take x.toNat) (ixS 3 k)) (fun _ x => (nn D - x).toNat) ?_ ⟨by decide, nl.1, rfl⟩
    intro s x C ⟨x0, x1, es⟩ hC
    dsimp only [b42_X12_busyShare, s69_X12_busyShare]
    have lb := ocL_b (D := D) (L := (nds D).take x.toNat) (k := ixS 3 k)
    have ll : ((nds D).take x.toNat).length ≤ 96 := by have := nds_len ok; rw [List.length_take]; omega
    rw [em.w.n, em.p.un _ kr.1 kr.2, wr_of (x := D.un (ixS 3 k) * T) (by omega) (by omega), wr_of (x := x + 1) (by omega) (by omega), wr_of (x := s + 1) (by omega) (by omega), wr_of (x := s + 0) (by omega) (by omega)]
    refine ⟨fun q => ⟨kr, by omega, ?_⟩, fun q => ⟨by omega, ?_⟩⟩
    · have e : s = kcN D (ixS 3 k) := by
        rw [es, show x = nn D by omega]
        unfold nn kcN
        rw [show (((nds D).length : Nat) : Int).toNat = (nds D).length by omega, List.take_length]
      rw [e]
      exact h0 z T m iT fv.fm em.p fv.z
    · have st := kc_take (D := D) (k := ixS 3 k) x0 (by omega)
      rw [em.w.kd ⟨x0, by omega⟩]
      refine ⟨fun q2 => hC _ _ ⟨by omega, by omega, ?_⟩ (by omega), fun q2 => hC _ _ ⟨by omega, by omega, ?_⟩ (by omega)⟩
      · rw [st, if_pos q2, es]
      · rw [st, if_neg q2, es]
  · exact fails1 st_eq (by decide) ⟨fun y => absurd y (by decide), fun _ => h1 (by omega) _ (Fm.s4.trans Fm.s4) (mp0 (mp0 h)) st_eq⟩
theorem case_46 {xs : Nat → Int32} {L x5 : Int} {i r : MI} (hb : 0 ≤ x5 ∧ x5 + 4 ≤ L ∧ L ≤ 2048) (I : Inv i r) : wc_46 xs L Inv x5 i r := by
  obtain ⟨D, ok, hc, hm, rc, kp⟩ := I
  have nl := nn_le ok
  have b1 := xb hb (j := 1) (by decide)
  unfold wc_46 wp_L_busyShare wp_X11_busyShare s67_X11_busyShare
  have hk : 0 ≤ sv xs (wr (x5 + 1)) % 65536 ∧ sv xs (wr (x5 + 1)) % 65536 < 65536 := by omega
  generalize sv xs (wr (x5 + 1)) % 65536 = k at hk
  have ix := ixS_rng (k := 3) (p := k) (by decide)
  have l7 : (chS 3).length = 7 := by decide
  refine ⟨b1, indexOf_w (by decide) hk.1 hk.2 ⟨fun z => prepare_w ok hc kp (by decide) (fun i1 r1 pq => ?_), fun z => ?_⟩⟩
  · have kr : 0 ≤ ixS 3 k ∧ ixS 3 k < 7 := by omega
    have pc : Pc D 1 0 i i1 r1 := .of pq rc (by decide)
    have m1 := pq.kp.m1 (by have := pq.ge; omega)
    have m4 := pq.kp.m4 pq.ge
    have mc := m1.mc pq.p
    have ut := un_T ok kr m4.t
    rw [mc.1 _ kr.1 kr.2, mc.2 _ kr.1 kr.2, wr_of (x := D.un (ixS 3 k) * i1 469 5) (by omega) (by omega)]
    have nan := nan_ok (n := kcN D (ixS 3 k)) (m := D.un (ixS 3 k) * i1 469 5) ⟨by omega, by omega⟩ (by omega)
    refine ⟨kr, fun _ => ⟨kr, by omega, nan, b1, ?_⟩, fun y => absurd ut.1 y⟩
    have p2 := pc541 (a := jLo ((FP.f2d (FP.fdiv (FP.i2f (sJ (kcN D (ixS 3 k)))) (FP.i2f (sJ (D.un (ixS 3 k) * i1 469 5))))).toInt64)) (b := jHi ((FP.f2d (FP.fdiv (FP.i2f (sJ (kcN D (ixS 3 k)))) (FP.i2f (sJ (D.un (ixS 3 k) * i1 469 5))))).toInt64)) ok pc (by decide)
    refine M_busy ok (hm.pc p2) hk (fun y => by omega) (fun _ T m iT fm mp z0 => ?_)
    rw [int_uniq iT m4.t]
    unfold wp_X12_thrown
    refine ⟨fun _ => ⟨fun _ => ⟨nan, ?_⟩, fun y => absurd rfl y⟩, fun y => absurd z0 y⟩
    have I2 : Inv m r1 := pc_end ok p2 (Mq.mk (v := 0) (c := 0) (w := 0) mp fm z0 (fun _ => rfl))
    rw [fm 541 (by omega), st_ne (by decide), st_eq, st_eq, jMk_eq]
    have cmp := nan_cmp nan
    have back : ∀ x : UInt64, x.toInt64.toUInt64 = x := fun x => by simp
    rw [back]
    exact ⟨fun _ => I2, fun y => absurd cmp y⟩
  · have pc : Pc D 1 0 i i r := ⟨hc, rc, kp, fun _ _ _ _ => rfl, fun z => absurd z (by decide)⟩
    refine ⟨rfl, b1, M_busy ok (hm.pc pc) hk (fun _ m fm mp z1 => ?_) (fun y => absurd y z)⟩
    unfold wp_X12_thrown
    have I2 : Inv m r := pc_end ok pc (Mq.mk (v := 0) (c := 1) (w := 0) mp fm z1 (fun _ => rfl))
    exact ⟨fun _ => ⟨fun y => absurd y (by decide), fun _ => I2⟩, fun y => absurd z1 y⟩
def slN (ls : Int → Int) : Nat → Int
  | 0 => 0
  | n + 1 => slN ls n + ls n
theorem slN_b {ls : Int → Int} : ∀ n : Nat, (∀ v : Int, 0 ≤ v → v < n → 0 ≤ ls v ∧ ls v ≤ 480) → 0 ≤ slN ls n ∧ slN ls n ≤ 480 * n := by
  intro n
  induction n with
  | zero => intro _; exact ⟨Int.le_refl 0, Int.le_refl 0⟩
  | succ n ih =>
    intro h
    have := ih (fun v a b => h v a (by omega))
    have := h n (by omega) (by omega)
    show 0 ≤ slN ls n + ls n ∧ slN ls n + ls n ≤ _
    omega
theorem slN_s {ls : Int → Int} {x : Int} (h : 0 ≤ x) : slN ls (x + 1).toNat = slN ls x.toNat + ls x := by
  rw [show (x + 1).toNat = x.toNat + 1 by omega]
  show slN ls x.toNat + ls ((x.toNat : Nat) : Int) = _
  rw [show ((x.toNat : Nat) : Int) = x by omega]
theorem slN_ext {ls ls' : Int → Int} : ∀ n : Nat, (∀ v : Int, 0 ≤ v → v < n → ls v = ls' v) → slN ls n = slN ls' n := by
  intro n
  induction n with
  | zero => intro _; rfl
  | succ n ih =>
    intro h
    show slN ls n + ls n = slN ls' n + ls' n
    rw [ih (fun v a b => h v a (by omega)), h n (by omega) (by omega)]
theorem M_mean {D : Dat} (ok : DOk D) {i r : MI} {Q : UInt64 → MI → Prop} (h : ModelP D i)
    (h1 : nn D = 0 → ∀ m, Fm i m → ModelP D m → m 504 0 = 1 → Q FP.dconst0 m)
    (h0 : nn D ≠ 0 → ∀ t m, (∀ j : MI, M3 D j → ∀ v, 0 ≤ v → v < nn D → j 464 v = t v) → Fm i m → ModelP D m → m 504 0 = 0 → Q (FP.ddiv (FP.i2d (sJ (slN t (nn D).toNat))) (FP.i2d (sJ (nn D)))) m) : wp_X12_meanStep i r Q := by
  have nl := nn_le ok
  unfold wp_X12_meanStep
  refine mlist_w ok (mp0 h) (fun i2 m f f2 em li ex hm' => ?_)
  have fv : FV i m := FV.mk f f2
  have lb := (list_ok ok li).2.2
  refine Lp.r2 (fun (s x : Int) => 0 ≤ x ∧ x ≤ nn D ∧ s = slN (m 531) x.toNat) (fun _ x => (nn D - x).toNat) ?_ ⟨by decide, nl.1, rfl⟩
  intro s x C ⟨x0, x1, es⟩ hC
  dsimp only [b13_X12_meanStep]
  have sb := slN_b (ls := m 531) x.toNat (fun v a b => lb v a (by omega))
  rw [em.w.n, wr_of (x := x + 1) (by omega) (by omega)]
  refine ⟨fun q => ⟨fun z => ?_, fun z => ?_⟩, fun q => ⟨by omega, ?_⟩⟩
  · unfold s49_X12_meanStep s68_X12_meanStep
    exact fails1 fv.z (by decide) ⟨fun y => absurd y (by decide), fun _ => h1 z _ (fv.fm.trans Fm.s4) (mp0 em.p) st_eq⟩
  · unfold s49_X12_meanStep s68_X12_meanStep
    refine fails0 fv.z ⟨fun _ => ⟨by rw [em.w.n]; exact z, ?_⟩, fun y => absurd rfl y⟩
    rw [em.w.n, es, show x = nn D by omega]
    exact h0 z _ m (fun j m3 => lists_eq ok m3 li ex) fv.fm em.p fv.z
  · have lx := lb x x0 (by omega)
    rw [wr_of (x := s + m 531 x) (by omega) (by omega)]
    exact hC _ _ ⟨by omega, by omega, by rw [slN_s x0, es]⟩ (by omega)
theorem case_47 {xs : Nat → Int32} {L x5 : Int} {i r : MI} (I : Inv i r) : wc_47 xs L Inv x5 i r := by
  obtain ⟨D, ok, hc, hm, rc, kp⟩ := I
  have nl := nn_le ok
  unfold wc_47 wp_L_meanStep wp_X11_meanStep
  refine prepare_w ok hc kp (by decide) (fun i1 r1 pq => ?_)
  have pc : Pc D 1 0 i i1 r1 := .of pq rc (by decide)
  have nv := (pq.kp.m1 (by have := pq.ge; omega)).nv pq.p
  have m3 := pq.kp.m3 pq.ge
  have lb := (list_ok ok m3.li).2.2
  rw [nv.n]
  refine ⟨fun z => ?_, fun z => ⟨rfl, M_mean ok (hm.pc pc) (fun _ m fm mp z1 => ?_) (fun y => absurd (by omega) y)⟩⟩
  · refine Lp.r2 (fun (s x : Int) => 0 ≤ x ∧ x ≤ nn D ∧ s = slN (i1 464) x.toNat) (fun _ x => (nn D - x).toNat) ?_ ⟨by decide, nl.1, rfl⟩
    intro s x C ⟨x0, x1, es⟩ hC
    dsimp only [b31_X11_meanStep]
    have sb := slN_b (ls := i1 464) x.toNat (fun v a b => lb v a (by omega))
    rw [nv.n, wr_of (x := x + 1) (by omega) (by omega)]
    refine ⟨fun q => ⟨by omega, ?_⟩, fun q => ⟨by omega, ?_⟩⟩
    · have ex : x = nn D := by omega
      rw [ex] at es
      have p2 := pc541 (a := jLo (FP.ddiv (FP.i2d (sJ s)) (FP.i2d (sJ (nn D)))).toInt64) (b := jHi (FP.ddiv (FP.i2d (sJ s)) (FP.i2d (sJ (nn D)))).toInt64) ok pc (by decide)
      refine M_mean ok (hm.pc p2) (fun y => by omega) (fun _ t m tl fm mp z0 => ?_)
      have e : slN t (nn D).toNat = s := by
        rw [es]
        exact slN_ext _ (fun v a b => (tl i1 m3 v a (by omega)).symm)
      rw [e]
      unfold wp_X12_thrown
      have I2 : Inv m r1 := pc_end ok p2 (Mq.mk (v := 0) (c := 0) (w := 0) mp fm z0 (fun _ => rfl))
      rw [fm 541 (by omega), st_ne (by decide), st_eq, st_eq, jMk_eq]
      have back : ∀ x : UInt64, x.toInt64.toUInt64 = x := fun x => by simp
      rw [back]
      refine ⟨fun _ => ⟨fun _ => ⟨fun _ => I2, fun y => ⟨fun w => absurd w y, fun _ => ⟨fun w => absurd w y, fun _ => I2⟩⟩⟩, fun y => absurd rfl y⟩, fun y => absurd z0 y⟩
    · have lx := lb x x0 (by omega)
      rw [wr_of (x := s + i1 464 x) (by omega) (by omega)]
      exact hC _ _ ⟨by omega, by omega, by rw [slN_s x0, es]⟩ (by omega)
  · unfold wp_X12_thrown
    have I2 : Inv m r1 := pc_end ok pc (Mq.mk (v := 0) (c := 1) (w := 0) mp fm z1 (fun _ => rfl))
    exact ⟨fun _ => ⟨fun y => absurd y (by decide), fun _ => I2⟩, fun y => absurd z1 y⟩
