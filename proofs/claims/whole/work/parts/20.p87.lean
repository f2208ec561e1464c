/-! ===== the cases: edges ===== -/
theorem edges_eq {D : Dat} {i j : MI} (h : GrC D i (Raw D)) (g : GrM D j (Raw D)) : i 168 4 = j 504 30 := by
  obtain ⟨L, nd', mem, e⟩ := h.c
  have gn := g.n
  have nr : (List.range (j 504 30).toNat).Nodup := List.nodup_range
  have sm : ∀ {e e' : Int}, 0 ≤ e → e < j 504 30 → 0 ≤ e' → e' < j 504 30 → (j 523 e, j 524 e, j 525 e) = (j 523 e', j 524 e', j 525 e') → e = e' := by
    intro e e' a b c d z
    have z1 := (Prod.mk.inj z).1
    have z2 := (Prod.mk.inj (Prod.mk.inj z).2)
    exact g.u e e' a b c d ⟨z1.symm, z2.1.symm⟩ z2.2
  have l1 : L.length ≤ (List.range (j 504 30).toNat).length := by
    refine pig (fun (k : Nat) (x : Int × Int × Int) => (j 523 k, j 524 k, j 525 k) = x) (fun m x y a b => a.symm.trans b) L _ nd' (fun x hx => ?_)
    obtain ⟨w, hw⟩ := (mem x).1 hx
    obtain ⟨e', a, b, c, d⟩ := g.s _ _ _ _ hw
    refine ⟨e'.toNat, List.mem_range.2 (by omega), ?_⟩
    rw [show ((e'.toNat : Nat) : Int) = e' by omega, c.1, c.2, d]
  have l2 : (List.range (j 504 30).toNat).length ≤ L.length := by
    refine pig (fun (x : Int × Int × Int) (k : Nat) => (k : Int) < j 504 30 ∧ (j 523 k, j 524 k, j 525 k) = x) (fun m x y a b => ?_) _ L nr (fun k hk => ?_)
    · have := sm (by omega) a.1 (by omega) b.1 (a.2.trans b.2.symm)
      omega
    · have hk' := List.mem_range.1 hk
      refine ⟨_, (mem (j 523 k, j 524 k, j 525 k)).2 ⟨j 526 k, (g.e k (by omega) (by omega)).1⟩, by omega, rfl⟩
  rw [List.length_range] at l1 l2
  omega
theorem case_20 {xs : Nat → Int32} {L x5 : Int} {i r : MI} (I : Inv i r) : wc_20 xs L Inv x5 i r := by
  obtain ⟨D, ok, hc, hm, rc, kp⟩ := I
  unfold wc_20 wp_X11_edges wp_X12_edges
  refine prepare_w ok hc kp (by decide) (fun i1 r1 pq => ?_)
  have pc : Pc D 1 0 i i1 r1 := .of pq rc (by decide)
  refine mbuild_w ok (mp0 (hm.pc pc)) (fun m f e => ?_)
  have fv := FV.mk f (FY.refl m)
  exact ⟨fun _ => pc_end ok pc (Mq.fv (v := 0) fv e.p fv.z), fun z => z (edges_eq (pq.kp.m2 pq.ge) e.g)⟩
def WtP (D : Dat) (a b d c v : Int) : Prop := (¬ ((0 ≤ a ∧ a < nn D) ∧ 0 ≤ b ∧ b < nn D) ∧ c = 1) ∨ (((0 ≤ a ∧ a < nn D) ∧ 0 ≤ b ∧ b < nn D) ∧ (∀ w, ¬ Raw D a b d w) ∧ c = 2) ∨ (((0 ≤ a ∧ a < nn D) ∧ 0 ≤ b ∧ b < nn D) ∧ Ed D a b d v ∧ c = 0)
theorem WtP.uniq {D : Dat} {a b d c v c' v' : Int} (h : WtP D a b d c v) (g : WtP D a b d c' v') : c = c' ∧ (c = 0 → v = v') := by
  rcases h with ⟨h1, h2⟩ | ⟨h1, h2, h3⟩ | ⟨h1, h2, h3⟩ <;> rcases g with ⟨g1, g2⟩ | ⟨g1, g2, g3⟩ | ⟨g1, g2, g3⟩
  · exact ⟨by omega, fun z => by omega⟩
  · exact absurd g1 h1
  · exact absurd g1 h1
  · exact absurd h1 g1
  · exact ⟨by omega, fun z => by omega⟩
  · exact absurd g2.1 (h2 _)
  · exact absurd h1 g1
  · exact absurd h2.1 (g2 _)
  · exact ⟨by omega, fun _ => Mx_uniq h2 g2⟩
theorem M_weight {D : Dat} (ok : DOk D) {i r : MI} {a b d : Int} {Q : Int → MI → Prop} (h : ModelP D i) (hQ : ∀ c v w m, WtP D a b d c v → Mq D c v w i m → Q w m) : wp_X12_weight a b d i r Q := by
  have nl := nn_le ok
  unfold wp_X12_weight s26_X12_weight
  refine mbuild_w ok (mp0 h) (fun m f e => ?_)
  have fv := FV.mk f (FY.refl m)
  have bad : ¬ ((0 ≤ a ∧ a < nn D) ∧ 0 ≤ b ∧ b < nn D) → s31_X12_weight a b d 1 m r Q := fun z => by
    unfold s31_X12_weight
    refine fails1 fv.z (by decide) ⟨fun y => absurd y (by decide), fun _ => hQ 1 0 _ _ (.inl ⟨z, rfl⟩) ⟨mp0 e.p, fv.fm.trans Fm.s4, st_eq, fun y => absurd y (by decide)⟩⟩
  refine noN_w ok e.w.n (fun ha => ⟨fun _ => noN_w ok e.w.n (fun hb => ⟨fun _ => ?_, fun z => absurd rfl z⟩) (fun hb => ⟨fun z => absurd z (by decide), fun _ => bad (fun z => hb z.2)⟩), fun z => absurd rfl z⟩) (fun ha => ⟨fun z => absurd z (by decide), fun _ => bad (fun z => ha z.1)⟩)
  have vd : (0 ≤ a ∧ a < nn D) ∧ 0 ≤ b ∧ b < nn D := ⟨ha, hb⟩
  have el := e.g.le ok
  have m1 : nn D * a ≤ nn D * (nn D - 1) := Int.mul_le_mul_of_nonneg_left (by omega) nl.1
  have m2 : nn D * (nn D - 1) ≤ 96 * 95 := Int.mul_le_mul nl.2 (by omega) (by omega) (by omega)
  have m0 : 0 ≤ nn D * a := Int.mul_nonneg nl.1 ha.1
  unfold s31_X12_weight
  refine fails0 fv.z ⟨fun _ => ?_, fun z => absurd rfl z⟩
  rw [e.w.n, wr_of (x := nn D * a) (by omega) (by omega), wr_of (x := nn D * a + b) (by omega) (by omega)]
  refine ⟨⟨by omega, by omega⟩, ?_⟩
  have gn := e.g.n
  refine Lp.rule (fun (y : Int) => ∃ k, 0 ≤ k ∧ k ≤ m 504 30 ∧ topE m k a b y ∧ ∀ e', k ≤ e' → e' < m 504 30 → samE m e' a b → m 525 e' ≠ d) (fun y => (y + 1).toNat) ?_ _ ⟨m 504 30, gn, Int.le_refl _, e.g.h a b ha.1 ha.2 hb.1 hb.2, fun e' x y => by omega⟩
  intro y C ⟨k, k0, k1, t, no⟩ hC
  dsimp only [b55_X12_weight]
  refine ⟨fun z => ?_, fun z => ?_⟩
  · refine hQ 2 0 _ _ (.inr (.inl ⟨vd, fun w hw => ?_, rfl⟩)) ⟨mp0 e.p, fv.fm.trans Fm.s4, st_eq, fun y => absurd y (by decide)⟩
    obtain ⟨e', x0, x1, x2, x3⟩ := e.g.s _ _ _ _ hw
    by_cases ek : e' < k
    · rcases t with t | t
      · exact t.2 e' x0 ek x2
      · omega
    · exact no e' (by omega) x1 x2 x3
  · rcases t with t | ⟨t0, t1, t2, t3⟩
    · exact absurd t.1 z
    · refine ⟨by omega, fun q => ⟨by omega, ?_⟩, fun q => ⟨by omega, ?_⟩⟩
      · have ed := e.g.ed (e := y) ⟨t0, by omega⟩
        rw [t2.1, t2.2, q] at ed
        exact hQ 0 _ _ _ (.inr (.inr ⟨vd, ed, rfl⟩)) (Mq.fv fv e.p fv.z)
      · have x := e.g.x y t0 (by omega)
        rw [t2.1, t2.2] at x
        refine hC _ ⟨y, t0, by omega, x, fun e' p q' s => ?_⟩ ?_
        · by_cases w : e' = y
          · rw [w]; exact q
          · by_cases w2 : e' < k
            · exact absurd s (t3 e' (by omega) w2)
            · exact no e' (by omega) q' s
        · rcases x with x | x
          · omega
          · omega
theorem case_21 {xs : Nat → Int32} {L x5 : Int} {i r : MI} (hb : 0 ≤ x5 ∧ x5 + 4 ≤ L ∧ L ≤ 2048) (I : Inv i r) : wc_21 xs L Inv x5 i r := by
  obtain ⟨D, ok, hc, hm, rc, kp⟩ := I
  have nl := nn_le ok
  have b1 := xb hb (j := 1) (by decide)
  have b2 := xb hb (j := 2) (by decide)
  have b3 := xb hb (j := 3) (by decide)
  unfold wc_21 wp_L_weight wp_X11_weight
  generalize sv xs (wr (x5 + 1)) = a
  generalize sv xs (wr (x5 + 2)) = b
  generalize sv xs (wr (x5 + 3)) = d
  refine ⟨b1, b2, b3, prepare_w ok hc kp (by decide) (fun i1 r1 pq => ?_)⟩
  have pc1 : ∀ c, c ≠ 0 → Pc D c 0 i i1 r1 := fun c z => .of pq rc z
  have nv := (pq.kp.m1 (by have := pq.ge; omega)).nv pq.p
  have g := pq.kp.m2 pq.ge
  have bad : ∀ c, c ≠ 0 → WtP D a b d c 0 → wp_X12_weight a b d i1 r1 (fun w i15 => wp_X12_thrown i15 r1 (fun v21 => ((v21 = c → ((c = 0 → ((((lg_cmp (jMk (i15 540 0) (i15 540 1)) ((sJ w).toInt64)).toInt) = 0 → s1311_LC21 x5 i15 r1 xs L Inv) ∧ (¬ ((lg_cmp (jMk (i15 540 0) (i15 540 1)) ((sJ w).toInt64)).toInt) = 0 → False))) ∧ (¬ c = 0 → s1311_LC21 x5 i15 r1 xs L Inv))) ∧ (¬ v21 = c → False)))) := fun c hc0 wt => M_weight ok (hm.pc (pc1 c hc0)) (fun c' v w m wt' mq => by
    rw [← (wt.uniq wt').1] at mq
    exact thr_end (v := 0) mq.c (fun z => absurd z hc0) (pc_end ok (pc1 c hc0) mq))
  refine checkN_w nv.n (fun ha => checkN_w nv.n (fun hb' => find_w g ⟨ha.1, by omega⟩ (fun e e0 e1 x y => ⟨fun z => by omega, fun _ => ?_⟩) (fun no => ⟨fun _ => ?_, fun z => absurd rfl z⟩)) (fun hb' => ?_)) (fun ha => ?_)
  · have gz := g.z a ha.1 (by omega)
    refine ⟨by omega, by omega, b1, b2, b3, ?_⟩
    have ed := GrC.ed ok g ha ⟨e0, e1⟩
    rw [x, y] at ed
    have wt : WtP D a b d 0 (i1 (364 + a) e) := .inr (.inr ⟨⟨ha, hb'⟩, ed, rfl⟩)
    have pr := (pc1 1 (by decide)).ret (w := i1 (364 + a) e) ok
    refine M_weight ok (hm.pc pr) (fun c' v w m wt' mq => ?_)
    have u := wt.uniq wt'
    rw [← u.1, ← u.2 rfl] at mq
    exact thr_end mq.c (pc_out pr mq (fun _ => rfl)) (pc_end ok pr mq)
  · exact .inr ⟨rfl, b1, b2, b3, bad 2 (by decide) (.inr (.inl ⟨⟨ha, hb'⟩, no, rfl⟩))⟩
  · exact .inl ⟨rfl, b1, b2, b3, bad 1 (by decide) (.inl ⟨fun z => hb' z.2, rfl⟩)⟩
  · exact .inl ⟨rfl, b1, b2, b3, bad 1 (by decide) (.inl ⟨fun z => ha z.1, rfl⟩)⟩
