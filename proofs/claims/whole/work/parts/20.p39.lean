theorem bitr_one : ∀ a < 8, ∀ p < 8, (iAnd (iShr (iShl 1 ((a : Nat) : Int)) ((p : Nat) : Int)) 1 = 1 ↔ a = p) := by decide +kernel
theorem bitr_two : ∀ a < 8, ∀ b < 8, ∀ p < 8, (iAnd (iShr (iOr (iShl 1 ((a : Nat) : Int)) (iShl 1 ((b : Nat) : Int))) ((p : Nat) : Int)) 1 = 1 ↔ (a = p ∨ b = p)) := by decide +kernel
theorem bitr_z : ∀ p < 8, iAnd (iShr 0 ((p : Nat) : Int)) 1 = 0 := by decide +kernel
theorem usv_bit {D : Dat} (ok : DOk D) {v p : Int} (h : 0 ≤ v ∧ v < nn D) (hp : 0 ≤ p ∧ p < 8) : iAnd (iShr (usN D (nd D v)) p) 1 = 1 ↔ usv D v p := by
  obtain ⟨h1, h2, h3, h4, h5⟩ := nd_ok ok h
  obtain ⟨n, rfl⟩ := Int.eq_ofNat_of_zero_le hp.1
  have hn : n < 8 := by omega
  unfold usv usN
  have m1 := msk_c ok ⟨h3, h4⟩ (q := 1) (by decide)
  have m2 := msk_c ok ⟨h3, h4⟩ (q := 2) (by decide)
  by_cases e2 : (nd D v).2 = 2
  · rw [if_pos e2]
    rcases m1 with ⟨f1, a, ha, ea, ma⟩ | ⟨f1, ma⟩ <;> rcases m2 with ⟨f2, b, hb, eb, mb⟩ | ⟨f2, mb⟩
    · rw [ma, mb, bit_two a ha b hb n hn, bitr_two a ha b hb n hn]
    · rw [ma, mb, (bit_l a ha).1, bit_one a ha n hn, bitr_one a ha n hn]
    · rw [ma, mb, (bit_l b hb).2, bit_one b hb n hn, bitr_one b hb n hn]
    · rw [ma, mb, show iOr 0 0 = 0 by decide, bit_z n hn, bitr_z n hn]; simp
  · rw [if_neg e2]
    by_cases e4 : (nd D v).2 = 4 ∨ ((nd D v).2 = 3 ∧ D.O (stK D (nd D v)) = 32)
    · rw [if_pos e4]
      rcases m1 with ⟨f1, a, ha, ea, ma⟩ | ⟨f1, ma⟩
      · rw [ma, bit_one a ha n hn, bitr_one a ha n hn]
      · rw [ma, bit_z n hn, bitr_z n hn]; simp
    · rw [if_neg e4, bit_z n hn, bitr_z n hn]; simp
theorem mkv_r {D : Dat} (ok : DOk D) {v : Int} (h : 0 ≤ v ∧ v < nn D) : mkv D v = -1 ∨ (0 ≤ mkv D v ∧ mkv D v < 8) := by
  obtain ⟨h1, h2, h3, h4, h5⟩ := nd_ok ok h
  unfold mkv mkN
  split
  · rename_i e
    have := (ok.st _ h3 h4).n0 0 (by decide) (by decide) e.1
    omega
  · exact .inl rfl
/-- the edges that the reference finds at a node -/
def nodR (D : Dat) (a : Int) : RS := fun f t d w => wtR D a f t d w ∨ (mkv D a ≠ -1 ∧ laR D (mkv D a) a (1 + cyv D a) f t d w) ∨ (∃ p, 0 ≤ p ∧ p < 8 ∧ usv D a p ∧ (ahR D p a f t d w ∨ laR D p a 1 f t d w)) ∨ (∃ b, 0 ≤ b ∧ b < nn D ∧ plR D a b f t d w) ∨ mcR D a f t d w
theorem raw_nod {D : Dat} (ok : DOk D) {f t d w : Int} : Raw D f t d w ↔ ∃ a, 0 ≤ a ∧ a < nn D ∧ nodR D a f t d w := by
  constructor
  · rintro ⟨a1, a2, a3, a4, a5⟩
    rcases a5 with ⟨b1, b2, b3⟩ | ⟨p, p0, p1, b1, b2, b3⟩ | ⟨p, p0, p1, b1, ⟨b2, b3⟩ | ⟨b2, b3⟩⟩ | ⟨b1, b2⟩ | ⟨b1, b2⟩
    · exact ⟨f, a1, a2, .inl ⟨rfl, a3, a4, b1, b2, b3⟩⟩
    · exact ⟨t, a3, a4, .inr (.inr (.inl ⟨p, p0, p1, b1, .inl ⟨rfl, b2, b3⟩⟩))⟩
    · exact ⟨f, a1, a2, .inr (.inr (.inl ⟨p, p0, p1, b2, .inr ⟨rfl, b1, by omega⟩⟩))⟩
    · exact ⟨f, a1, a2, .inr (.inl ⟨by omega, rfl, by rw [b2]; exact b1, by omega⟩)⟩
    · exact ⟨f, a1, a2, .inr (.inr (.inr (.inl ⟨t, a3, a4, rfl, rfl, b1, b2⟩)))⟩
    · exact ⟨f, a1, a2, .inr (.inr (.inr (.inr ⟨rfl, b1, b2⟩)))⟩
  · rintro ⟨a, a0, a1, h⟩
    rcases h with ⟨rfl, c1, c2, c3, c4, c5⟩ | ⟨mk, rfl, c1, c2⟩ | ⟨p, p0, p1, u, ⟨rfl, c1, c2⟩ | ⟨rfl, c1, c2⟩⟩ | ⟨b, b0, b1, rfl, rfl, c1, c2⟩ | ⟨rfl, c1, c2⟩
    · exact ⟨a0, a1, c1, c2, .inl ⟨c3, c4, c5⟩⟩
    · have hr := next_rng c1
      have hm := mkv_r ok ⟨a0, a1⟩
      exact ⟨a0, a1, hr.1, hr.2, .inr (.inr (.inl ⟨mkv D f, by omega, by omega, c1, .inr ⟨rfl, by omega⟩⟩))⟩
    · have hr := make_rng c1
      exact ⟨hr.1, hr.2, a0, a1, .inr (.inl ⟨p, p0, p1, u, c1, c2⟩)⟩
    · have hr := next_rng c1
      exact ⟨a0, a1, hr.1, hr.2, .inr (.inr (.inl ⟨p, p0, p1, c1, .inl ⟨u, by omega⟩⟩))⟩
    · exact ⟨a0, a1, b0, b1, .inr (.inr (.inr (.inl ⟨c1, c2⟩)))⟩
    · have hr := chan_rng c1
      exact ⟨a0, a1, hr.1, hr.2, .inr (.inr (.inr (.inr ⟨c1, c2⟩)))⟩
/-- what the reference's build leaves alone -/
def FU (i i' : MI) : Prop := (∀ a, a ≠ 504 → (a < 515 ∨ 528 < a) → i' a = i a) ∧ (∀ c, c ≠ 21 → c ≠ 30 → i' 504 c = i 504 c)
theorem FU.i {i i' : MI} (h0 : FU i i') : ∀ a, a ≠ 504 → (a < 515 ∨ 528 < a) → i' a = i a := h0.1
theorem FU.c {i i' : MI} (h0 : FU i i') : ∀ c, c ≠ 21 → c ≠ 30 → i' 504 c = i 504 c := h0.2
theorem FU.mk {i i' : MI} (h0 : ∀ a, a ≠ 504 → (a < 515 ∨ 528 < a) → i' a = i a) (h1 : ∀ c, c ≠ 21 → c ≠ 30 → i' 504 c = i 504 c) : FU i i' := ⟨h0, h1⟩
theorem FU.refl (i : MI) : FU i i := ⟨fun _ _ _ => rfl, fun _ _ _ => rfl⟩
theorem FU.trans {i j k : MI} (h : FU i j) (g : FU j k) : FU i k := ⟨fun a x y => (g.i a x y).trans (h.i a x y), fun a x y => (g.c a x y).trans (h.c a x y)⟩
theorem FB.fu {i i' : MI} (h : FB i i') : FU i i' := ⟨fun a x y => h.i a x (by omega), fun c x _ => h.c c x⟩
theorem FJ.fu {i i' : MI} (h : FJ i i') : FU i i' := ⟨fun a x y => h.i a x (by omega), fun c _ x => h.c c x⟩
theorem ModelP.fu {D : Dat} {i i' : MI} (h : ModelP D i) (g : FU i i') : ModelP D i' :=
  h.congr (fun c hc => g.c c (by omega) (by omega)) (g.i _ (by decide) (by decide)) (fun a x y => g.i _ (by omega) (by omega)) (fun a x y => g.i _ (by omega) (by omega))
theorem FU.fm {i i' : MI} (g : FU i i') : Fm i i' := fun a ha => g.i a (by omega) (by omega)
theorem build_w {D : Dat} (ok : DOk D) {i r : MI} {Q : MI → Prop} (h : ModelP D i) (hQ : ∀ i', FU i i' → ModelP D i' → NW D i' → GrM D i' (Raw D) → Q i') : wp_X12_build i r Q := by
  have hn := nn_le ok
  have hc := ok.cnt
  have hf := ok.fac
  have hbd := ok.body
  have h0 : 0 ≤ D.cnt * D.fac := Int.mul_nonneg hc.1 (by omega)
  unfold wp_X12_build
  have f00 : FU i (st (st i 504 21 0) 504 30 0) := ⟨fun a x y => by simp (disch := omega) only [st_row], fun c x y => by simp (disch := omega) only [st_ne]⟩
  refine Lp.r2 (fun (x : Int) (m : MI) => 0 ≤ x ∧ x ≤ D.cnt * D.fac ∧ FU i m ∧ NLk m (GM D (ndl D x.toNat)) ∧ m 504 30 = 0) (fun x _ => (D.cnt * D.fac - x).toNat) ?_ ⟨by decide, h0, f00, ⟨by simp (disch := omega) only [st_ne, st_eq]; rfl, fun v g hv => by cases hv⟩, st_eq⟩
  intro x m C ⟨g0, g1, g2, g3, g4⟩ hC
  dsimp only [b12_X12_build]
  have hm := h.fu g2
  rw [hm.cnt, hm.fac, wr_of (x := D.cnt * D.fac) (by omega) (by omega)]
  refine ⟨fun q => ?_, fun q => ?_⟩
  · have ex : x = D.cnt * D.fac := by omega
    rw [ex] at g3
    have hw : NW D m := NW.of hm g3
    have hcn : 0 ≤ nn D * nn D ∧ nn D * nn D ≤ 9216 := ⟨Int.mul_nonneg hn.1 hn.1, Int.mul_le_mul hn.2 hn.2 hn.1 (by omega)⟩
    refine Lp.r2 (fun (y : Int) (m' : MI) => 0 ≤ y ∧ y ≤ nn D * nn D ∧ FU i m' ∧ FJ m m' ∧ m' 504 30 = 0 ∧ ∀ c, 0 ≤ c → c < y → m' 528 c = -1) (fun y _ => (nn D * nn D - y).toNat) ?_ ⟨by decide, hcn.1, g2, FJ.refl m, g4, fun c a b => by omega⟩
    intro y m2 C2 ⟨k0, k1, k2, k3, k4, k5⟩ hC2
    dsimp only [b38_X12_build]
    have hw2 := hw.fj k3
    rw [hw2.n, wr_of (x := nn D * nn D) (by omega) (by omega)]
    refine ⟨fun q2 => ?_, fun q2 => ⟨by omega, ?_⟩⟩
    · have cell : ∀ f t, 0 ≤ f → f < nn D → 0 ≤ t → t < nn D → 0 ≤ nn D * f + t ∧ nn D * f + t < nn D * nn D := by
        intro f t f0 f1 t0 t1
        have a1 : 0 ≤ nn D * f := Int.mul_nonneg hn.1 f0
        have a2 : nn D * (f + 1) ≤ nn D * nn D := Int.mul_le_mul_of_nonneg_left (by omega) hn.1
        rw [Int.mul_add, Int.mul_one] at a2
        omega
      have g00 : GrM D m2 noR := by
        refine ⟨by omega, fun e a b => by omega, fun f t d w z => absurd z id, fun e e' a b => by omega, fun f t d w z => absurd z id, fun f t f0 f1 t0 t1 => ?_, fun e a b => by omega⟩
        have := cell f t f0 f1 t0 t1
        exact .inl ⟨k5 _ this.1 (by omega), fun e a b => by omega⟩
      refine Lp.r2 (fun (a : Int) (m' : MI) => 0 ≤ a ∧ a ≤ nn D ∧ FU i m' ∧ NW D m' ∧ GrM D m' (fun f t d w => ∃ v, 0 ≤ v ∧ v < a ∧ nodR D v f t d w)) (fun a _ => (nn D - a).toNat) ?_ ⟨by decide, hn.1, k2, hw2, g00.iff (fun f t d w => ⟨fun z => absurd z id, fun z => by obtain ⟨v, a, b, _⟩ := z; omega⟩)⟩
      intro a m3 C3 ⟨a0, a1, a2, a3, a4⟩ hC3
      dsimp only [b66_X12_build]
      rw [a3.n]
      refine ⟨fun q3 => ?_, fun q3 => ?_⟩
      · have ea : a = nn D := by omega
        subst ea
        exact hQ m3 a2 (h.fu a2) a3 (a4.iff (fun f t d w => (raw_nod ok).symm))
      · have ha : 0 ≤ a ∧ a < nn D := ⟨a0, by omega⟩
        have ca := cyv_r ok ha
        have hmk := mkv_r ok ha
        refine mwithin_w ok a3 a4 ha (fun i5 f5 g5 => ⟨by omega, ?_⟩)
        have w5 := a3.fj f5
        rw [w5.mk9 ha]
        -- the users, the memories, the channel
        have rest : ∀ (m' : MI) (T : RS), FJ m3 m' → GrM D m' T → (∀ f t d w, T f t d w ↔ (∃ v, 0 ≤ v ∧ v < a ∧ nodR D v f t d w) ∨ wtR D a f t d w ∨ (mkv D a ≠ -1 ∧ laR D (mkv D a) a (1 + cyv D a) f t d w)) → s107_X12_build a m' r Q C3 := by
          intro m' T f' g' hT
          unfold s107_X12_build
          refine Lp.r2 (fun (p : Int) (m'' : MI) => 0 ≤ p ∧ p ≤ 8 ∧ FJ m3 m'' ∧ GrM D m'' (orS T (fun f t d w => ∃ q, 0 ≤ q ∧ q < p ∧ usv D a q ∧ (ahR D q a f t d w ∨ laR D q a 1 f t d w)))) (fun p _ => (8 - p).toNat) ?_ ⟨by decide, by decide, f', g'.iff (fun f t d w => ⟨fun z => .inl z, fun z => z.elim id (fun y => by obtain ⟨v, a, b, _⟩ := y; omega)⟩)⟩
          intro p m6 C6 ⟨p0, p1, p2, p3⟩ hC6
          dsimp only [b109_X12_build]
          have w6 := a3.fj p2
          refine ⟨fun q6 => ?_, fun q6 => ⟨by omega, ?_⟩⟩
          · have ep : p = 8 := by omega
            subst ep
            refine Lp.r2 (fun (b : Int) (m'' : MI) => 0 ≤ b ∧ b ≤ nn D ∧ FJ m3 m'' ∧ GrM D m'' (orS (orS T (fun f t d w => ∃ q, 0 ≤ q ∧ q < 8 ∧ usv D a q ∧ (ahR D q a f t d w ∨ laR D q a 1 f t d w))) (fun f t d w => ∃ u, 0 ≤ u ∧ u < b ∧ plR D a u f t d w))) (fun b _ => (nn D - b).toNat) ?_ ⟨by decide, hn.1, p2, p3.iff (fun f t d w => ⟨fun z => .inl z, fun z => z.elim id (fun y => by obtain ⟨v, a, b, _⟩ := y; omega)⟩)⟩
            intro b m7 C7 ⟨b0, b1, b2, b3⟩ hC7
            dsimp only [b150_X12_build]
            have w7 := a3.fj b2
            rw [w7.n]
            refine ⟨fun q7 => ?_, fun q7 => ?_⟩
            · have eb : b = nn D := by omega
              subst eb
              refine mchan_w ok w7 b3 ha (fun i8 f8 g8 => ?_)
              rw [wr_of (by omega) (by omega)]
              refine hC3 _ _ ⟨by omega, by omega, a2.trans (b2.trans f8).fu, w7.fj f8, g8.iff (fun f t d w => ?_)⟩ (by omega)
              unfold orS
              rw [hT]
              constructor
              · rintro ((((⟨v, z0, z1, z2⟩ | z | z) | z) | z) | z)
                · exact ⟨v, z0, by omega, z2⟩
                · exact ⟨a, a0, by omega, .inl z⟩
                · exact ⟨a, a0, by omega, .inr (.inl z)⟩
                · exact ⟨a, a0, by omega, .inr (.inr (.inl z))⟩
                · exact ⟨a, a0, by omega, .inr (.inr (.inr (.inl z)))⟩
                · exact ⟨a, a0, by omega, .inr (.inr (.inr (.inr z)))⟩
              · rintro ⟨v, z0, z1, z2⟩
                by_cases ev : v = a
                · subst ev
                  rcases z2 with z | z | z | z | z
                  · exact .inl (.inl (.inl (.inr (.inl z))))
                  · exact .inl (.inl (.inl (.inr (.inr z))))
                  · exact .inl (.inl (.inr z))
                  · exact .inl (.inr z)
                  · exact .inr z
                · exact .inl (.inl (.inl (.inl ⟨v, z0, by omega, z2⟩)))
            · refine remembered_w ok w7 b3 ha ⟨b0, by omega⟩ (fun i8 f8 g8 => ?_)
              rw [wr_of (by omega) (by omega)]
              refine hC7 _ _ ⟨by omega, by omega, b2.trans f8, g8.iff (fun f t d w => ?_)⟩ (by omega)
              unfold orS
              rw [or_assoc (c := plR D a b f t d w)]
              refine or_congr Iff.rfl ?_
              constructor
              · rintro (⟨k, c0, c1, c2⟩ | c)
                · exact ⟨k, c0, by omega, c2⟩
                · exact ⟨b, b0, by omega, c⟩
              · rintro ⟨k, c0, c1, c2⟩
                by_cases e : k = b
                · subst e; exact .inr c2
                · exact .inl ⟨k, c0, by omega, c2⟩
          · have hp : 0 ≤ p ∧ p < 8 := ⟨p0, by omega⟩
            rw [w6.a a 518 ha.1 ha.2 (by decide) (by decide)]
            show (iAnd (iShr (usN D (nd D a)) p) 1 = 1 → _) ∧ (¬ iAnd (iShr (usN D (nd D a)) p) 1 = 1 → _)
            rw [usv_bit ok ha hp]
            unfold s142_X12_build
            rw [wr_of (x := p + 1) (by omega) (by omega)]
            refine ⟨fun u => ?_, fun u => ?_⟩
            · refine fromMaker_w ok w6 p3 ha hp u (fun i8 f8 g8 => ?_)
              refine later_w ok (w6.fj f8) g8 ha hp (.inl ⟨u, rfl⟩) (fun i9 f9 g9 => ?_)
              refine hC6 _ _ ⟨by omega, by omega, p2.trans (f8.trans f9), g9.iff (fun f t d w => ?_)⟩ (by omega)
              unfold orS
              rw [or_assoc, or_assoc]
              refine or_congr Iff.rfl ?_
              constructor
              · rintro (⟨k, c0, c1, c2⟩ | c | c)
                · exact ⟨k, c0, by omega, c2⟩
                · exact ⟨p, p0, by omega, u, .inl c⟩
                · exact ⟨p, p0, by omega, u, .inr c⟩
              · rintro ⟨k, c0, c1, c2⟩
                by_cases e : k = p
                · subst e
                  rcases c2.2 with c | c
                  · exact .inr (.inl c)
                  · exact .inr (.inr c)
                · exact .inl ⟨k, c0, by omega, c2⟩
            · refine hC6 _ _ ⟨by omega, by omega, p2, p3.iff (fun f t d w => or_congr Iff.rfl ⟨fun z => ?_, fun z => ?_⟩)⟩ (by omega)
              · obtain ⟨k, c0, c1, c2⟩ := z
                exact ⟨k, c0, by omega, c2⟩
              · obtain ⟨k, c0, c1, c2⟩ := z
                by_cases e : k = p
                · subst e; exact absurd c2.1 u
                · exact ⟨k, c0, by omega, c2⟩
        refine ⟨fun e => rest i5 _ f5 g5 (fun f t d w => ?_), fun e => ⟨by omega, mcyc_w ok w5 ha ?_⟩⟩
        · unfold orS
          refine or_congr Iff.rfl ⟨fun z => .inl z, fun z => z.elim id (fun y => absurd e y.1)⟩
        · rw [wr_of (x := 1 + cyv D a) (by omega) (by omega)]
          refine later_w ok w5 g5 ha (by omega) (.inr ⟨rfl, rfl⟩) (fun i6 f6 g6 => rest i6 _ (f5.trans f6) g6 (fun f t d w => ?_))
          unfold orS
          rw [or_assoc]
          exact or_congr Iff.rfl (or_congr Iff.rfl ⟨fun z => ⟨e, z⟩, fun z => z.2⟩)
    · rw [wr_of (by omega) (by omega)]
      refine hC2 _ _ ⟨by omega, by omega, k2.trans (FJ.sa (by decide)).fu, k3.trans (FJ.sa (by decide)), by rw [st_row (by decide)]; exact k4, fun c a b => ?_⟩ (by omega)
      by_cases e : c = y
      · rw [e, st_eq]
      · rw [st_ne (by omega)]; exact k5 c a (by omega)
  · have hpos : 0 < D.cnt := by
      rcases Int.lt_or_le 0 D.cnt with z | z
      · exact z
      · have : D.cnt = 0 := by omega
        rw [this, Int.zero_mul] at g1 q
        omega
    refine addStatement_w ok hm hpos ⟨g0, by omega⟩ g3 (by have := ndl_len (D := D) x.toNat; omega) (fun m2 f2 n2 => ?_)
    rw [wr_of (by omega) (by omega)]
    refine hC _ _ ⟨by omega, by omega, g2.trans f2.fu, ?_, by rw [f2.c _ (by decide)]; exact g4⟩ (by omega)
    rw [ndl_at g0]
    exact n2
