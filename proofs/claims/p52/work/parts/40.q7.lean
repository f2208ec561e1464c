/-! ===== steps keep all edges and units ===== -/
theorem kept_end {D : Dat} {T x : Int} {L : Nat} {f2 f3 f g : Int → Int} {i r : MI} {k : Nat} {Q : Int → MI → MI → Prop} (I : JI D i r) (w : RW D T L f g) (hx : EC D (nn D) 0 0 x) (hk : k ≤ 100000) (hQ : ∀ i' r', JI D i' r' → Q 1 i' r') : s258_LK T x 1 i r k L f2 L f3 L f L g Q := by
  have ok := I.1
  unfold s258_LK s308_LK
  refine ⟨fun z => absurd z (by decide), fun _ => ⟨by omega, J_edges I (fun v i1 r1 ev J1 => ?_)⟩⟩
  have e := hx.fin ok ev
  refine ⟨fun _ => ⟨by omega, ?_⟩, fun z => absurd e z⟩
  refine areUnits_w J1 w rfl (fun i2 r2 J2 => ⟨fun z => absurd z (by decide), fun _ => ⟨by omega, J_byRings J2 (fun R i3 r3 hR J3 => ?_)⟩⟩)
  have ge := int_ge hR w.t
  refine ⟨fun z => by omega, fun _ => ⟨by omega, J_byUnits J3 (fun i4 r4 J4 => ⟨fun z => by omega, fun _ => ⟨by omega, .inr rfl, hQ _ _ J4⟩⟩)⟩⟩
theorem far_w {D : Dat} {T a b x : Int} {L : Nat} {f2 f3 f g : Int → Int} {i r : MI} {k B : Nat} {Q : Int → MI → MI → Prop} {C50 C105 : Int × Int × Int × MI × MI × Nat → Prop} (I : JI D i r) (wp : WP D) (w : RW D T L f g) (h2 : ∀ v, 0 ≤ v → v < nn D → f2 v = soonV D v) (h3 : ∀ v, 0 ≤ v → v < nn D → f3 v = lateV D v) (so : IsSoon D (soonV D)) (la : LateP D (lateV D)) (ha : 0 ≤ a ∧ a < nn D) (hb : 0 ≤ b ∧ b < nn D) (hx : EC D a b 0 x) (hk : k ≤ B) (hB : B + 100 ≤ 270000)
    (hC : ∀ y i1 r1 k1, JI D i1 r1 → EC D a (b + 1) 0 y → k1 ≤ B + 27 → C105 (y, 1, wr (b + 1), i1, r1, k1)) : Lp (b114_LK (nn D) T a b L f2 L f3 L f L g Q C50 C105) (x, 1, 0, i, r, k) := by
  have ok := I.1
  have hl := w.l
  have n60 := w.n
  have tb := int_b w.t
  obtain ⟨Tp, hTp, pl⟩ := w.p
  rw [int_uniq hTp w.t] at pl
  have ae := AE.of ok w.t pl
  have pb := pl_b ok (T := T) (by omega) (Int.le_refl _) pl
  obtain ⟨ll, lp, li⟩ := w.s
  have lo := list_ok ok li
  obtain ⟨s', e', s1, s2, s3⟩ := la
  have sl := end_le ok s1 s2
  have s480 := sum480 ok
  have lge := late_ge ok s1 s2 s3
  refine Lp.r6 (fun (x y d : Int) (m s : MI) (k : Nat) => y = 1 ∧ 0 ≤ d ∧ d ≤ 9 ∧ JI D m s ∧ EC D a b d x ∧ k ≤ B + 3 * d.toNat) (fun _ _ d _ _ _ => (9 - d).toNat) ?_ ⟨rfl, by decide, by decide, I, hx, by omega⟩
  intro x y d m s k C ⟨ey, d0, d1, J, ec, hk⟩ hC2
  subst ey
  have xb := ec.le ok
  dsimp only [b114_LK]
  refine ⟨fun q => ?_, fun q => ⟨by omega, ?_⟩⟩
  · have e : d = 9 := by omega
    subst e
    exact hC _ _ _ _ J (ec.nb ok wp) (by omega)
  have ed1 : wr (d + 1) = d + 1 := wr_of (by omega) (by omega)
  have ex1 : wr (x + 1) = x + 1 := wr_of (by omega) (by omega)
  refine A_25 J ha hb (fun z i1 r1 ed J1 => ?_) (fun no i1 r1 J1 => ⟨fun _ => ?_, fun q => absurd rfl q⟩)
  · have zp := ed_props ok ed
    have cf := cyv_r ok ha
    have go : C (x + 1, 1, d + 1, i1, r1, k + 3) := hC2 _ _ _ _ _ _ ⟨rfl, by omega, by omega, J1, ec.yes ed.1, by omega⟩ (by omega)
    refine ⟨fun q => by omega, fun _ => ⟨fun q => absurd q (by decide), fun _ => ⟨⟨hb.1, by omega⟩, ⟨ha.1, by omega⟩, ?_, ?_⟩⟩⟩
    · intro q
      exfalso
      have p1 := pb a ha.1 ha.2
      have p2 := pb b hb.1 hb.2
      have e1 := ae.e a b d z ed.1
      have td := td_b (T := T) (d := d) (by omega) (by omega)
      rw [w.g a ha.1 ha.2, w.g b hb.1 hb.2, wr_of (x := placV D a + z) (by omega) (by omega), wr_of (x := T * d) (by omega) (by omega), wr_of (x := placV D a + z - T * d) (by omega) (by omega)] at q
      omega
    · intro _
      unfold s177_LK s233_LK s237_LK s238_LK s240_LK
      rw [ex1, ed1]
      refine ⟨fun q => absurd q (by decide), fun _ => ⟨fun _ => go, fun q0 => ?_⟩⟩
      have e0 : d = 0 := by omega
      subst e0
      have b1 := (so a ha.1 ha.2)
      have b2 := (so b hb.1 hb.2)
      have sa := sumC_mono ok ha.1 (Int.le_of_lt ha.2) (Int.le_refl _)
      have c1 := b2.2.2.1 a z ed
      have l1 := (s3 a ha.1 ha.2)
      have l2 := (s3 b hb.1 hb.2)
      have l3 := l1.2.1 b z ed
      have ga := lge a ha.1 ha.2
      have gb := lge b hb.1 hb.2
      have sa' := (s1 a ha.1 ha.2).1
      have sb' := (s1 b hb.1 hb.2).1
      have cb := cyv_r ok hb
      have t1 := lo.1 a b z ed
      have ta := lo.2.2 a ha.1 ha.2
      have tb' := lo.2.2 b hb.1 hb.2
      have e2s := s2.1
      refine ⟨⟨hb.1, by omega⟩, ⟨ha.1, by omega⟩, ?_, fun _ => ⟨⟨hb.1, by omega⟩, ⟨ha.1, by omega⟩, ?_, fun _ => ⟨⟨hb.1, by omega⟩, ⟨ha.1, by omega⟩, ?_, fun _ => go⟩⟩⟩
      · intro q
        exfalso
        rw [h2 a ha.1 ha.2, h2 b hb.1 hb.2, wr_of (x := soonV D a + z) (by omega) (by omega)] at q
        omega
      · intro q
        exfalso
        rw [h3 a ha.1 ha.2, h3 b hb.1 hb.2, wr_of (x := lateV D a + z) (by omega) (by omega)] at q
        omega
      · intro q
        exfalso
        rw [w.f a ha.1 ha.2, w.f b hb.1 hb.2, wr_of (x := stepV D a + z) (by omega) (by omega)] at q
        omega
  · unfold s240_LK
    rw [ed1]
    exact hC2 _ _ _ _ _ _ ⟨rfl, by omega, by omega, J1, ec.no no, by omega⟩ (by omega)
theorem to_w {D : Dat} {T a x : Int} {L : Nat} {f2 f3 f g : Int → Int} {i r : MI} {k B : Nat} {Q : Int → MI → MI → Prop} {C50 : Int × Int × Int × MI × MI × Nat → Prop} (I : JI D i r) (wp : WP D) (w : RW D T L f g) (h2 : ∀ v, 0 ≤ v → v < nn D → f2 v = soonV D v) (h3 : ∀ v, 0 ≤ v → v < nn D → f3 v = lateV D v) (so : IsSoon D (soonV D)) (la : LateP D (lateV D)) (ha : 0 ≤ a ∧ a < nn D) (hx : EC D a 0 0 x) (hk : k ≤ B) (hB : B + 1800 ≤ 270000)
    (hC : ∀ y i1 r1 k1, JI D i1 r1 → EC D (a + 1) 0 0 y → k1 ≤ B + 1620 → C50 (y, 1, wr (a + 1), i1, r1, k1)) : s100_LK (nn D) T x a 1 i r k L f2 L f3 L f L g Q C50 := by
  have ok := I.1
  have n60 := w.n
  unfold s100_LK
  refine Lp.r6 (fun (x y b : Int) (m s : MI) (k : Nat) => y = 1 ∧ 0 ≤ b ∧ b ≤ nn D ∧ JI D m s ∧ EC D a b 0 x ∧ k ≤ B + 27 * b.toNat) (fun _ _ b _ _ _ => (nn D - b).toNat) ?_ ⟨rfl, by decide, by omega, I, hx, by omega⟩
  intro x y b m s k C ⟨ey, b0, b1, J, ec, hk⟩ hC2
  subst ey
  dsimp only [b105_LK]
  refine ⟨fun q => ?_, fun q => ?_⟩
  · have e : b = nn D := by omega
    subst e
    exact hC _ _ _ _ J (ec.na ok) (by omega)
  · refine far_w (B := B + 27 * b.toNat) J wp w h2 h3 so la ha ⟨b0, by omega⟩ ec hk (by omega) (fun y i1 r1 k1 J1 ec1 hk1 => ?_)
    rw [wr_of (x := b + 1) (by omega) (by omega)]
    exact hC2 _ _ _ _ _ _ ⟨rfl, by omega, by omega, J1, ec1, by omega⟩ (by omega)
theorem areKept_w {D : Dat} {i r : MI} {Q : Int → MI → MI → Prop} (I : JI D i r) (wp : WP D) (hQ : ∀ i' r', JI D i' r' → Q 1 i' r') : wp_L_areKept i r Q := by
  have ok := I.1
  have nl := nn_le ok
  have n60 := nn_60 ok wp
  unfold wp_L_areKept
  refine J_nodes I (fun i1 r1 J1 => row_w J1 A_26 (fun f2 i2 r2 J2 h2 => row_w J2 A_27 (fun f3 i3 r3 J3 h3 => row_w J3 A_28 (fun f i4 r4 J4 hf => row_w J4 A_29 (fun g i5 r5 J5 hg => ?_)))))
  unfold wp_LK
  refine ⟨by decide, J_interval J5 (fun i6 r6 J6 m3 m4 => ?_)⟩
  have so := soonV_is m3.so
  have la := lateV_is m3.lateP
  have w : RW D (i6 469 5) (nn D).toNat f g := ⟨by omega, n60, m4.t, hf, hg, stepV_is m3.listP, placV_is m4.placeP⟩
  generalize i6 469 5 = T at w
  obtain ⟨Tp, hTp, pl⟩ := w.p
  rw [int_uniq hTp w.t] at pl
  have tb := int_b w.t
  have pb := pl_b ok (T := T) (by omega) (Int.le_refl _) pl
  obtain ⟨ll, lp, li⟩ := w.s
  have lo := list_ok ok li
  obtain ⟨s', e', s1, s2, s3⟩ := la
  have lge := late_ge ok s1 s2 s3
  have su := soon_uniq ok s1 so
  refine Lp.r6 (fun (x y a : Int) (m s : MI) (k : Nat) => y = 1 ∧ 0 ≤ a ∧ a ≤ nn D ∧ JI D m s ∧ EC D a 0 0 x ∧ k ≤ 1600 + 1620 * a.toNat) (fun _ _ a _ _ _ => (nn D - a).toNat) ?_ ⟨rfl, by decide, nl.1, J6, EC.start ok, by omega⟩
  intro x y a m s k C ⟨ey, a0, a1, J, ec, hk⟩ hC
  subst ey
  dsimp only [b50_LK]
  refine ⟨fun q => ?_, fun q => ⟨fun z => absurd z (by decide), fun _ => ?_⟩⟩
  · have e : a = nn D := by omega
    subst e
    exact kept_end J w ec (by omega) hQ
  · have ha : 0 ≤ a ∧ a < nn D := ⟨a0, by omega⟩
    have b1 := so a ha.1 ha.2
    have b2 := lge a ha.1 ha.2
    have b3 := su a ha.1 ha.2
    have b4 := lo.2.2 a ha.1 ha.2
    have b5 := pb a ha.1 ha.2
    have hL : 0 ≤ a ∧ a < (((nn D).toNat : Nat) : Int) := by omega
    have e2 := h2 a ha.1 ha.2
    have e3 := h3 a ha.1 ha.2
    have e4 := hf a ha.1 ha.2
    have e5 := hg a ha.1 ha.2
    refine ⟨hL, hL, fun z => ?_, fun _ => ⟨hL, fun z => ?_, fun _ => ⟨hL, fun z => ?_, fun _ => ⟨hL, fun z => ?_, fun _ => ?_⟩⟩⟩⟩
    · exfalso; omega
    · exfalso; omega
    · exfalso; omega
    · exfalso; omega
    · refine to_w (B := 1600 + 1620 * a.toNat) J wp w h2 h3 so ⟨s', e', s1, s2, s3⟩ ha ec hk (by omega) (fun y i7 r7 k7 J7 ec7 hk7 => ?_)
      rw [wr_of (x := a + 1) (by omega) (by omega)]
      exact hC _ _ _ _ _ _ ⟨rfl, by omega, by omega, J7, ec7, by omega⟩ (by omega)
