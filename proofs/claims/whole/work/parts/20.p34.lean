theorem mem_fp {D : Dat} (ok : DOk D) {v : Int} (h : 0 ≤ v ∧ v < nn D) (hm : isMem D v) : -9 ≤ fpN D (nd D v) ∧ fpN D (nd D v) ≤ 99 ∧ (tnN D (nd D v) = 0 ∨ (tnN D (nd D v) = 1 ∧ fpN D (nd D v) ≤ 12)) := by
  obtain ⟨h1, h2, h3, h4, h5⟩ := nd_ok ok h
  have sok := ok.st _ h3 h4
  have hr := mem_role ok h hm
  have hs : 0 ≤ (nd D v).1 / D.cnt ∧ (nd D v).1 / D.cnt < 4 := by
    have hx := ndl_mem (nd_mem h)
    have hf := ok.fac
    have h0 : 0 ≤ D.cnt * D.fac := Int.mul_nonneg ok.cnt.1 (by omega)
    refine ⟨Int.ediv_nonneg h1 (by omega), Int.ediv_lt_of_lt_mul (by omega) ?_⟩
    have : D.cnt * D.fac ≤ D.cnt * 4 := Int.mul_le_mul_of_nonneg_left hf.2 (by omega)
    omega
  have hF : D.F (stK D (nd D v)) (plN (nd D v)) = 3 ∨ D.F (stK D (nd D v)) (plN (nd D v)) = 4 := by
    unfold isMem kdv kdN at hm
    unfold plN
    rcases hr with e | e | e
    · rw [if_pos e] at hm; rw [if_pos e]; exact hm
    · rw [if_neg (by omega), if_pos e] at hm; rw [if_neg (by omega), if_pos e]; exact hm
    · rw [if_neg (by omega), if_neg (by omega), if_neg (by omega), if_pos e] at hm
      rw [if_neg (by omega), if_neg (by omega)]; exact hm
  have hp : 0 ≤ plN (nd D v) ∧ plN (nd D v) < 3 := by
    unfold plN
    repeat' split
    all_goals omega
  have h3' := sok.n3 _ hp.1 hp.2 hF
  unfold fpN tnN
  rw [if_pos hr, if_pos hr]
  unfold plc
  rcases h3' with ⟨a, b, c⟩ | ⟨a, b, c⟩
  · rw [if_pos a]; omega
  · rw [if_neg (by omega)]; omega
theorem dist_w {D : Dat} (ok : DOk D) {i r : MI} {f t b : Int} {Q : Int → Prop} (h : NV D i) (hf : 0 ≤ f ∧ f < nn D) (ht : 0 ≤ t ∧ t < nn D) (hne : f ≠ t) (mf : isMem D f) (mt : isMem D t) (hb : b = if t ≤ f then 0 else 1)
    (h1 : ∀ d, memD D f t d → 0 ≤ d → d ≤ 21 → Q d) (h0 : (∀ d, ¬ memD D f t d) → Q (-1)) : wp_X2_distanceTo (72 + f) (72 + t) b D.fac i r Q := by
  have hfac := ok.fac
  have pf := mem_fp ok hf mf
  have pt := mem_fp ok ht mt
  unfold wp_X2_distanceTo
  have e10f : i (72 + f) 10 = tnN D (nd D f) := h.a f 10 hf.1 hf.2 (by decide) (by decide)
  have e10t : i (72 + t) 10 = tnN D (nd D t) := h.a t 10 ht.1 ht.2 (by decide) (by decide)
  have e9f : i (72 + f) 9 = fpN D (nd D f) := h.a f 9 hf.1 hf.2 (by decide) (by decide)
  have e9t : i (72 + t) 9 = fpN D (nd D t) := h.a t 9 ht.1 ht.2 (by decide) (by decide)
  rw [e10f, e10t, e9f, e9t, wr_of (x := fpN D (nd D f) - fpN D (nd D t)) (by omega) (by omega)]
  have mixed : ¬ (tnN D (nd D f) = 1 ∧ tnN D (nd D t) = 1) → s63_X2_distanceTo (72 + f) (72 + t) b (fpN D (nd D f) - fpN D (nd D t)) i r Q := by
    intro hmx
    unfold memD at h1 h0
    simp only [if_neg hmx] at h1 h0
    unfold s63_X2_distanceTo s84_X2_distanceTo s93_X2_distanceTo
    rw [e10f, e10t]
    have good : (tnN D (nd D f) = 0 ∧ tnN D (nd D t) = 0 → fpN D (nd D f) = fpN D (nd D t)) → (b = 0 → Q 1) ∧ (¬ b = 0 → Q 0) := by
      intro hg
      refine ⟨fun z => h1 1 ⟨hg, ?_⟩ (by decide) (by decide), fun z => h1 0 ⟨hg, ?_⟩ (by decide) (by decide)⟩
      · rw [if_neg (by by_cases w : t ≤ f; omega; rw [if_neg w] at hb; omega)]
      · rw [if_pos (by by_cases w : t ≤ f; rw [if_pos w] at hb; omega; omega)]
    refine ⟨fun z => ⟨fun z2 => ⟨fun z3 => good (fun _ => by omega), fun z3 => h0 (fun d hd => ?_)⟩, fun z2 => good (fun w => absurd w.2 z2)⟩, fun z => good (fun w => absurd w.1 z)⟩
    have := hd.1 ⟨z, z2⟩
    omega
  refine ⟨fun z => mixed (by omega), fun z => ⟨fun z2 => mixed (by omega), fun z2 => ?_⟩⟩
  have hb1 : tnN D (nd D f) = 1 ∧ tnN D (nd D t) = 1 := by omega
  unfold memD at h1 h0
  simp only [if_pos hb1] at h1 h0
  unfold s48_X2_distanceTo
  refine ⟨fun q => h0 (fun d hd => ?_), fun q => ?_⟩
  · have : 0 ≤ D.fac * d := Int.mul_nonneg (by omega) hd.1
    omega
  · rw [isDivided_eq, bz_0]
    have em : (fpN D (nd D f) - fpN D (nd D t)).tmod D.fac = (fpN D (nd D f) - fpN D (nd D t)) % D.fac := Int.tmod_eq_emod_of_nonneg (by omega)
    rw [em]
    refine ⟨fun q2 => h0 (fun d hd => q2 ⟨by omega, ?_⟩), fun q2 => ?_⟩
    · rw [hd.2.1]; exact Int.mul_emod_right _ _
    · rw [Decidable.not_not] at q2
      have ed : D.fac * ((fpN D (nd D f) - fpN D (nd D t)) / D.fac) = fpN D (nd D f) - fpN D (nd D t) := by
        have := Int.mul_ediv_add_emod (fpN D (nd D f) - fpN D (nd D t)) D.fac
        omega
      have d0 : 0 ≤ (fpN D (nd D f) - fpN D (nd D t)) / D.fac := Int.ediv_nonneg (by omega) (by omega)
      have d1 : (fpN D (nd D f) - fpN D (nd D t)) / D.fac ≤ 21 := by
        have := Int.ediv_le_self D.fac (a := fpN D (nd D f) - fpN D (nd D t)) (by omega)
        omega
      have fin : (fpN D (nd D f) - fpN D (nd D t) = 0 → f < t) → s50_X2_distanceTo D.fac (fpN D (nd D f) - fpN D (nd D t)) i r Q := by
        intro hlt
        unfold s50_X2_distanceTo s62_X2_distanceTo
        refine ⟨fun w => by omega, fun _ => ⟨by omega, ?_⟩⟩
        rw [Int.tdiv_eq_ediv_of_nonneg (by omega), wr_of (by omega) (by omega)]
        refine h1 _ ⟨d0, ed.symm, fun z => hlt ?_⟩ d0 d1
        rw [z, Int.mul_zero] at ed
        exact ed.symm
      refine ⟨fun e0 => ⟨fun w => h0 (fun d hd => ?_), fun w => fin (fun _ => ?_)⟩, fun e0 => fin (fun w => absurd w e0)⟩
      · have hd0 : d = 0 := by
          have : D.fac * d = 0 := by omega
          rcases Int.mul_eq_zero.1 this with y | y
          · omega
          · exact y
        have := hd.2.2 hd0
        rw [if_neg (by omega)] at hb
        omega
      · by_cases y : t ≤ f
        · rw [if_pos y] at hb; omega
        · omega
def meW (D : Dat) (f t w : Int) : Prop := (¬ wrv D t ∧ w = cyv D f) ∨ (wrv D t ∧ ¬ wrv D f ∧ w = 1 - cyv D t) ∨ (wrv D t ∧ wrv D f ∧ w = 1)
def plR (D : Dat) (f t : Int) : RS := fun a b d w => a = f ∧ b = t ∧ memE D f t d ∧ meW D f t w
theorem places_w {D : Dat} (ok : DOk D) {i r : MI} {S : RS} {f t : Int} {Q : MI → Prop} (h : NV D i) (g : GrC D i S) (hf : 0 ≤ f ∧ f < nn D) (ht : 0 ≤ t ∧ t < nn D) (hne : f ≠ t) (mf : isMem D f) (hk : kdv D f = kdv D t) (hQ : ∀ i', FG i i' → GrC D i' (orS S (plR D f t)) → Q i') : wp_X2_joinPlaces f t D.fac i r Q := by
  have hn := nn_le ok
  have mt : isMem D t := by unfold isMem; rw [← hk]; exact mf
  have cf := cyv_r ok hf
  have ct := cyv_r ok ht
  have e12 : ∀ v, 0 ≤ v ∧ v < nn D → (i (72 + v) 12 = 0 ↔ ¬ wrv D v) := by
    intro v hv
    rw [h.a v 12 hv.1 hv.2 (by decide) (by decide)]
    show (if (nd D v).2 = 3 then (1 : Int) else 0) = 0 ↔ _
    unfold wrv
    by_cases e : (nd D v).2 = 3 <;> simp [e]
  have none : (∀ d w, ¬ (memE D f t d ∧ meW D f t w)) → Q i := fun hno => hQ i (FG.refl i) (g.iff (fun a b c x => ⟨fun z => .inl z, fun z => z.elim id (fun y => absurd ⟨y.2.2.1, y.2.2.2⟩ (hno c x))⟩))
  have yes : (wrv D f ∨ wrv D t) → s33_X2_joinPlaces f t D.fac (72 + f) (72 + t) i r Q := by
    intro hw
    have one : ∀ d w, memD D f t d → meW D f t w → 0 ≤ d → wp_X2_put f t d w i r Q := by
      intro d w hd hww d0
      have hE : memE D f t d := ⟨hne, mf, hk, hw, hd⟩
      refine put_w ok g ⟨hf.1, hf.2, ht.1, ht.2, .inr (.inr (.inr (.inl ⟨hE, hww⟩)))⟩ (fun i' fr gr => hQ i' fr (gr.iff (fun a b c x => or_congr Iff.rfl ⟨?_, ?_⟩)))
      · rintro ⟨rfl, rfl, rfl, rfl⟩; exact ⟨rfl, rfl, hE, hww⟩
      · rintro ⟨rfl, rfl, h3, h4⟩
        refine ⟨rfl, rfl, memE_uniq ok h3 hE, ?_⟩
        unfold meW at h4 hww
        rcases h4 with ⟨y1, y2⟩ | ⟨y1, y2, y3⟩ | ⟨y1, y2, y3⟩ <;> rcases hww with ⟨z1, z2⟩ | ⟨z1, z2, z3⟩ | ⟨z1, z2, z3⟩
        · omega
        · exact absurd z1 y1
        · exact absurd z1 y1
        · exact absurd y1 z1
        · omega
        · exact absurd z2 y2
        · exact absurd y1 z1
        · exact absurd y2 z2
        · omega
    have key : ∀ b, b = (if t ≤ f then 0 else 1) → s47_X2_joinPlaces f t D.fac (72 + f) (72 + t) (72 + f) (72 + t) b i r Q := by
      intro b hb
      unfold s47_X2_joinPlaces s120_X2_joinPlaces
      refine dist_w ok h hf ht hne mf mt hb (fun d hd d0 d1 => ⟨fun z => by omega, fun _ => ?_⟩) (fun hno => ⟨fun _ => none (fun d w z => hno d z.1.2.2.2.2), fun z => absurd rfl z⟩)
      rw [e12 t ht, e12 f hf]
      refine ⟨fun z => cyc_w ok h hf (one d _ hd (.inl ⟨z, rfl⟩) d0), fun z => ?_⟩
      have z' : wrv D t := Classical.byContradiction z
      refine ⟨fun z2 => cyc_w ok h ht ?_, fun z2 => one d 1 hd (.inr (.inr ⟨z', Classical.byContradiction z2, rfl⟩)) d0⟩
      rw [wr_of (by omega) (by omega)]
      exact one d _ hd (.inr (.inl ⟨z', z2, rfl⟩)) d0
    unfold s33_X2_joinPlaces
    exact ⟨fun z => key 0 (by rw [if_pos z]), fun z => key 1 (by rw [if_neg z])⟩
  unfold wp_X2_joinPlaces
  rw [e12 f hf, e12 t ht]
  refine ⟨by omega, by omega, fun z => ⟨fun z2 => none (fun d w y => ?_), fun z2 => yes (.inr (Classical.byContradiction z2))⟩, fun z => yes (.inl (Classical.byContradiction z))⟩
  exact y.1.2.2.2.1.elim z z2
def meR (D : Dat) (k n : Int) : RS := fun f t d w => 0 ≤ f ∧ f < n ∧ 0 ≤ t ∧ t < nn D ∧ kdv D f = k ∧ memE D f t d ∧ meW D f t w
theorem joinMem_w {D : Dat} (ok : DOk D) {i r : MI} {S : RS} {k : Int} {Q : MI → Prop} (h : NV D i) (g : GrC D i S) (hk : k = 3 ∨ k = 4) (hQ : ∀ i', FG i i' → GrC D i' (orS S (meR D k (nn D))) → Q i') : wp_X2_joinMemory k D.fac i r Q := by
  have hn := nn_le ok
  unfold wp_X2_joinMemory
  refine Lp.r2 (fun (x : Int) (m : MI) => 0 ≤ x ∧ x ≤ nn D ∧ FG i m ∧ GrC D m (orS S (meR D k x))) (fun x _ => (nn D - x).toNat) ?_ ⟨by decide, hn.1, FG.refl i, g.iff (fun f t d w => ⟨fun z => .inl z, fun z => z.elim id (fun y => by have := y.1; have := y.2.1; omega)⟩)⟩
  intro x m C ⟨h0, h1, h2, h3⟩ hC
  dsimp only [b3_X2_joinMemory]
  have hm := h.fg ok h2
  rw [hm.n]
  refine ⟨fun q => hQ m h2 ?_, fun q => ⟨by omega, ?_⟩⟩
  · have e : x = nn D := by omega
    rw [e] at h3; exact h3
  · have hx : 0 ≤ x ∧ x < nn D := ⟨h0, by omega⟩
    rw [hm.kd hx]
    refine ⟨fun ek => ?_, fun ek => ?_⟩
    · have mx : isMem D x := by unfold isMem; omega
      refine Lp.r2 (fun (y : Int) (m' : MI) => 0 ≤ y ∧ y ≤ nn D ∧ FG i m' ∧ GrC D m' (orS (orS S (meR D k x)) (fun f t d w => 0 ≤ t ∧ t < y ∧ plR D x t f t d w))) (fun y _ => (nn D - y).toNat) ?_ ⟨by decide, hn.1, h2, h3.iff (fun f t d w => ⟨fun z => .inl z, fun z => z.elim id (fun y => by have := y.1; have := y.2.1; omega)⟩)⟩
      intro y m' C2 ⟨g0, g1, g2, g3⟩ hC2
      dsimp only [b32_X2_joinMemory, s78_X2_joinMemory, s72_X2_joinMemory]
      have hm' := h.fg ok g2
      rw [hm'.n]
      refine ⟨fun q2 => ?_, fun q2 => ?_⟩
      · rw [wr_of (by omega) (by omega)]
        refine hC _ _ ⟨by omega, by omega, g2, g3.iff (fun f t d w => ?_)⟩ (by omega)
        have e : y = nn D := by omega
        unfold orS
        rw [or_assoc, e]
        refine or_congr Iff.rfl ?_
        constructor
        · rintro (⟨a, b, c⟩ | ⟨a, b, rfl, _, c, e2⟩)
          · exact ⟨a, by omega, c⟩
          · exact ⟨h0, by omega, a, b, ek, c, e2⟩
        · rintro ⟨a, b, c, d2, e2, e3, e4⟩
          by_cases w2 : f = x
          · subst w2; exact .inr ⟨c, d2, rfl, rfl, e3, e4⟩
          · exact .inl ⟨a, by omega, c, d2, e2, e3, e4⟩
      · have hy : 0 ≤ y ∧ y < nn D := ⟨g0, by omega⟩
        have same : (∀ d w, ¬ (memE D x y d ∧ meW D x y w)) → C2 (wr (y + 1), m') := by
          intro hno
          rw [wr_of (by omega) (by omega)]
          refine hC2 _ _ ⟨by omega, by omega, g2, g3.iff (fun f t d w => or_congr Iff.rfl ⟨fun z => ⟨z.1, by have := z.2.1; omega, z.2.2⟩, fun z => ⟨z.1, ?_, z.2.2⟩⟩)⟩ (by omega)
          by_cases w2 : t = y
          · exfalso
            have := z.2.2
            rw [w2] at this
            exact hno d w ⟨this.2.2.1, this.2.2.2⟩
          · have := z.2.1; omega
        refine ⟨fun e => same (fun d w z => z.1.1 e.symm), fun e => ⟨by omega, ?_⟩⟩
        rw [hm'.kd hy]
        refine ⟨fun e2 => ?_, fun e2 => same (fun d w z => e2 (by rw [← z.1.2.2.1]; exact ek))⟩
        refine places_w ok hm' g3 hx hy (fun z => e z.symm) mx (by omega) (fun m2 f2 gr => ?_)
        rw [wr_of (by omega) (by omega)]
        refine hC2 _ _ ⟨by omega, by omega, g2.trans f2, gr.iff (fun f t d w => ?_)⟩ (by omega)
        unfold orS
        rw [or_assoc (a := S f t d w ∨ _)]
        refine or_congr Iff.rfl ?_
        constructor
        · rintro (⟨a, b, c⟩ | ⟨rfl, rfl, c⟩)
          · exact ⟨a, by omega, c⟩
          · exact ⟨g0, by omega, rfl, rfl, c⟩
        · rintro ⟨a, b, rfl, z, c⟩
          by_cases w2 : t = y
          · subst w2; exact .inr ⟨rfl, rfl, c⟩
          · exact .inl ⟨a, by omega, rfl, z, c⟩
    · unfold s78_X2_joinMemory
      rw [wr_of (by omega) (by omega)]
      refine hC _ _ ⟨by omega, by omega, h2, h3.iff (fun f t d w => or_congr Iff.rfl ⟨fun z => ⟨z.1, by have := z.2.1; omega, z.2.2⟩, fun z => ⟨z.1, ?_, z.2.2⟩⟩)⟩ (by omega)
      by_cases w2 : f = x
      · exfalso
        have := z.2.2.2.2.1
        rw [w2] at this
        exact ek this
      · have := z.2.1; omega
