theorem wr_mem {D : Dat} {v : Int} : (wrN D (nd D v) ≠ -1 → isMem D v) ∧ (isMem D v → ((nd D v).2 = 0 ∨ (nd D v).2 = 1 ∨ (nd D v).2 = 3) → wrN D (nd D v) = if (nd D v).2 = 3 then 1 else 0) := by
  unfold wrN isMem kdv
  refine ⟨fun h => ?_, fun h1 h2 => ?_⟩
  · by_cases e : (nd D v).2 = 3 ∧ (kdN D (nd D v) = 3 ∨ kdN D (nd D v) = 4)
    · exact e.2
    · rw [if_neg e] at h
      by_cases e2 : ((nd D v).2 = 0 ∨ (nd D v).2 = 1) ∧ (kdN D (nd D v) = 3 ∨ kdN D (nd D v) = 4)
      · exact e2.2
      · rw [if_neg e2] at h; exact absurd rfl h
  · by_cases e : (nd D v).2 = 3
    · rw [if_pos ⟨e, h1⟩, if_pos e]
    · rw [if_neg (fun z => e z.1), if_pos ⟨by omega, h1⟩, if_neg e]
theorem remembered_w {D : Dat} (ok : DOk D) {i r : MI} {S : RS} {f t : Int} {Q : MI → Prop} (h : NW D i) (g : GrM D i S) (hf : 0 ≤ f ∧ f < nn D) (ht : 0 ≤ t ∧ t < nn D) (hQ : ∀ i', FJ i i' → GrM D i' (orS S (plR D f t)) → Q i') : wp_X12_remembered f t i r Q := by
  have hn := nn_le ok
  have hfac := ok.fac
  have cf := cyv_r ok hf
  have ct := cyv_r ok ht
  have none : (∀ d w, ¬ (memE D f t d ∧ meW D f t w)) → Q i := fun hno => hQ i (FJ.refl i) (g.iff (fun a b c x => ⟨fun z => .inl z, fun z => z.elim id (fun y => absurd ⟨y.2.2.1, y.2.2.2⟩ (hno c x))⟩))
  have e20 : ∀ v, 0 ≤ v → v < nn D → i 520 v = wrN D (nd D v) := fun v a b => h.a v 520 a b (by decide) (by decide)
  unfold wp_X12_remembered s44_X12_remembered
  have z45 : (∀ d w, ¬ (memE D f t d ∧ meW D f t w)) → s45_X12_remembered f t 0 i r Q := by
    intro hno
    unfold s45_X12_remembered s66_X12_remembered
    exact ⟨fun _ => none hno, fun z => absurd rfl z⟩
  rw [h.kd hf, h.kd ht, e20 f hf.1 hf.2, e20 t ht.1 ht.2]
  refine ⟨fun e => z45 (fun d w z => z.1.1 e), fun hne => ⟨by omega, by omega, fun hk => ⟨by omega, fun e => z45 (fun d w z => ?_), fun wf => ⟨by omega, fun e => z45 (fun d w z => ?_), fun wt => ?_⟩⟩, fun hk => z45 (fun d w z => hk z.1.2.2.1)⟩⟩
  · have := wr_mem.2 z.1.2.1 (mem_role ok hf z.1.2.1)
    rw [e] at this
    split at this <;> omega
  · have mt : isMem D t := by unfold isMem; rw [← hk]; exact z.1.2.1
    have := wr_mem.2 mt (mem_role ok ht mt)
    rw [e] at this
    split at this <;> omega
  · have mf := wr_mem.1 wf
    have mt := wr_mem.1 wt
    have ef := wr_mem.2 mf (mem_role ok hf mf)
    have et := wr_mem.2 mt (mem_role ok ht mt)
    have pf := mem_fp ok hf mf
    have pt := mem_fp ok ht mt
    obtain ⟨f21, f22⟩ := h.m f hf.1 hf.2 wf
    obtain ⟨t21, t22⟩ := h.m t ht.1 ht.2 wt
    unfold s45_X12_remembered s66_X12_remembered
    rw [e20 f hf.1 hf.2, e20 t ht.1 ht.2, ef, et]
    have one : ∀ d w, memD D f t d → meW D f t w → (wrv D f ∨ wrv D t) → wp_X12_join f t d w i r Q := by
      intro d w hd hww hw
      have hE : memE D f t d := ⟨hne, mf, hk, hw, hd⟩
      refine mjoin_w ok g h.n ⟨hf.1, hf.2, ht.1, ht.2, .inr (.inr (.inr (.inl ⟨hE, hww⟩)))⟩ (fun i' fr gr => hQ i' fr (gr.iff (fun a b c x => or_congr Iff.rfl ⟨?_, ?_⟩)))
      · rintro ⟨rfl, rfl, rfl, rfl⟩; exact ⟨rfl, rfl, hE, hww⟩
      · rintro ⟨rfl, rfl, h3, h4⟩
        refine ⟨rfl, rfl, memE_uniq ok h3 hE, ?_⟩
        unfold meW at h4 hww
        rcases h4 with ⟨y1, y2⟩ | ⟨y1, y2, y3⟩ | ⟨y1, y2, y3⟩ <;> rcases hww with ⟨z1, z2⟩ | ⟨z1, z2, z3⟩ | ⟨z1, z2, z3⟩
        · omega
        · exact absurd z1 y1
        · exact absurd z1 y1
        · exact absurd y1 z1
        · omega
        · exact absurd z2 y2
        · exact absurd y1 z1
        · exact absurd y2 z2
        · omega
    have s113 : ∀ w, meW D f t w → (wrv D f ∨ wrv D t) → s113_X12_remembered f t w i r Q := by
      intro w hww hw
      unfold s113_X12_remembered
      rw [f21, t21, f22, t22, h.f]
      have mixed : ¬ (tnN D (nd D f) = 1 ∧ tnN D (nd D t) = 1) → s195_X12_remembered f t w i r Q := by
        intro hmx
        unfold s195_X12_remembered s225_X12_remembered s238_X12_remembered s243_X12_remembered
        rw [f21, t21, f22, t22]
        have good : (tnN D (nd D f) = 0 ∧ tnN D (nd D t) = 0 → fpN D (nd D f) = fpN D (nd D t)) → (t ≤ f → wp_X12_join f t 1 w i r Q) ∧ (¬ t ≤ f → wp_X12_join f t 0 w i r Q) := by
          intro hg
          refine ⟨fun z => one 1 w ?_ hww hw, fun z => one 0 w ?_ hww hw⟩
          · unfold memD; rw [if_neg hmx]; exact ⟨hg, by rw [if_neg (by omega)]⟩
          · unfold memD; rw [if_neg hmx]; exact ⟨hg, by rw [if_pos (by omega)]⟩
        refine ⟨by omega, by omega, fun e => ⟨by omega, by omega, fun e2 => good (fun _ => e2), fun e2 => none (fun d w z => ?_)⟩, fun e => good (fun z => by omega)⟩
        have hd := z.1.2.2.2.2
        unfold memD at hd
        rw [if_neg hmx] at hd
        exact e2 (hd.1 (by omega))
      refine ⟨by omega, fun z => mixed (by omega), fun z => ⟨by omega, fun z2 => mixed (by omega), fun z2 => ⟨by omega, by omega, by omega, by omega, ?_⟩⟩⟩
      have hb1 : tnN D (nd D f) = 1 ∧ tnN D (nd D t) = 1 := by omega
      unfold s182_X12_remembered s192_X12_remembered s243_X12_remembered
      rw [wr_of (x := fpN D (nd D f) - fpN D (nd D t)) (by omega) (by omega)]
      have hdv := Int.mul_tdiv_add_tmod (fpN D (nd D f) - fpN D (nd D t)) D.fac
      have hb : -200 ≤ (fpN D (nd D f) - fpN D (nd D t)).tdiv D.fac ∧ (fpN D (nd D f) - fpN D (nd D t)).tdiv D.fac ≤ 200 := by
        have h1 := Int.natAbs_tdiv_le_natAbs (fpN D (nd D f) - fpN D (nd D t)) D.fac
        omega
      rw [wr_of (x := (fpN D (nd D f) - fpN D (nd D t)).tdiv D.fac) (by omega) (by omega)]
      have mD : ∀ d, memD D f t d ↔ 0 ≤ d ∧ fpN D (nd D f) - fpN D (nd D t) = D.fac * d ∧ (d = 0 → f < t) := by
        intro d; unfold memD; rw [if_pos hb1]
      have uq : ∀ d, fpN D (nd D f) - fpN D (nd D t) = D.fac * d → (fpN D (nd D f) - fpN D (nd D t)).tmod D.fac = 0 ∧ (fpN D (nd D f) - fpN D (nd D t)).tdiv D.fac = d := by
        intro d hd
        rw [hd]
        exact ⟨Int.mul_tmod_right _ _, Int.mul_tdiv_cancel_left _ (by omega)⟩
      refine ⟨fun q => ⟨fun q2 => ?_, fun q2 => ⟨fun q3 => ⟨fun q4 => none (fun d w z => ?_), fun q4 => ?_⟩, fun q3 => none (fun d w z => ?_)⟩⟩, fun q => none (fun d w z => ?_)⟩
      · exact one _ w ((mD _).2 ⟨by omega, by omega, fun z => by omega⟩) hww hw
      · have hd := (mD d).1 z.1.2.2.2.2
        have := uq d hd.2.1
        have := hd.2.2 (by omega)
        omega
      · exact one _ w ((mD _).2 ⟨by omega, by omega, fun z => by omega⟩) hww hw
      · have hd := (mD d).1 z.1.2.2.2.2
        have := uq d hd.2.1
        omega
      · have hd := (mD d).1 z.1.2.2.2.2
        have := uq d hd.2.1
        omega
    have w0 : wr ((if (nd D f).2 = 3 then (1 : Int) else 0) + (if (nd D t).2 = 3 then (1 : Int) else 0)) = (if (nd D f).2 = 3 then (1 : Int) else 0) + (if (nd D t).2 = 3 then (1 : Int) else 0) := wr_of (by split <;> split <;> omega) (by split <;> split <;> omega)
    rw [w0]
    refine ⟨fun z => absurd z (by decide), fun _ => ⟨by omega, by omega, fun e => none (fun d w z => ?_), fun e => ⟨by omega, by omega, fun e2 => ?_, fun e2 => ⟨by omega, fun e3 => mcyc_w ok h hf ?_, fun e3 => mcyc_w ok h ht ?_⟩⟩⟩⟩
    · rcases z.1.2.2.2.1 with y | y
      · unfold wrv at y; rw [if_pos y] at e; split at e <;> omega
      · unfold wrv at y; rw [if_pos y] at e; split at e <;> omega
    · have hw1 : wrv D f ∧ wrv D t := by
        unfold wrv
        constructor
        · by_cases y : (nd D f).2 = 3
          · exact y
          · rw [if_neg y] at e2; split at e2 <;> omega
        · by_cases y : (nd D t).2 = 3
          · exact y
          · rw [if_neg y] at e2; split at e2 <;> omega
      exact s113 1 (.inr (.inr ⟨hw1.2, hw1.1, rfl⟩)) (.inl hw1.1)
    · have hw1 : wrv D f := by
        unfold wrv
        by_cases y : (nd D f).2 = 3
        · exact y
        · rw [if_neg y] at e3; omega
      have hw2 : ¬ wrv D t := by
        unfold wrv at hw1 ⊢
        intro y
        rw [if_pos hw1, if_pos y] at e2
        exact e2 (by decide)
      exact s113 _ (.inl ⟨hw2, rfl⟩) (.inl hw1)
    · have hw1 : ¬ wrv D f := by
        unfold wrv
        intro y
        rw [if_pos y] at e3; exact e3 rfl
      have hw2 : wrv D t := by
        unfold wrv at hw1 ⊢
        by_cases y : (nd D t).2 = 3
        · exact y
        · rw [if_neg hw1, if_neg y] at e; exact absurd (by decide) e
      rw [wr_of (by omega) (by omega)]
      exact s113 _ (.inr (.inl ⟨hw2, hw1, rfl⟩)) (.inr hw2)
def mcR (D : Dat) (a : Int) : RS := fun f t d w => f = a ∧ chanE D a t d ∧ w = 1
theorem chan_rng {D : Dat} {f u d : Int} (h : chanE D f u d) : 0 ≤ u ∧ u < nn D := by
  rcases h.2.2.2 with ⟨a, _⟩ | ⟨_, a, _⟩ <;> exact ⟨a.1, a.2.1⟩
theorem mchan_w {D : Dat} (ok : DOk D) {i r : MI} {S : RS} {a : Int} {Q : MI → Prop} (h : NW D i) (g : GrM D i S) (ha : 0 ≤ a ∧ a < nn D) (hQ : ∀ i', FJ i i' → GrM D i' (orS S (mcR D a)) → Q i') : wp_X12_nextOfChannel a i r Q := by
  have hn := nn_le ok
  unfold wp_X12_nextOfChannel
  rw [h.kd ha]
  refine ⟨by omega, fun h5 => ?_, fun h5 => hQ i (FJ.refl i) (g.iff (fun a' b c x => ⟨fun z => .inl z, fun y => y.elim id (fun y => absurd y.2.1.2.1 h5)⟩))⟩
  rw [h.n, wr_of (by omega) (by omega)]
  refine Lp.r3 (fun (nx fs x : Int) => -1 ≤ x ∧ x < nn D ∧ ((nx = -1 ∧ ∀ k, x < k → k < nn D → a < k → kdv D k ≠ kdv D a) ∨ (x < nx ∧ nx < nn D ∧ a < nx ∧ kdv D nx = kdv D a ∧ ∀ k, x < k → k < nx → a < k → kdv D k ≠ kdv D a)) ∧ ((fs = -1 ∧ ∀ k, x < k → k < nn D → k ≠ a → kdv D k ≠ kdv D a) ∨ (x < fs ∧ fs < nn D ∧ fs ≠ a ∧ kdv D fs = kdv D a ∧ ∀ k, x < k → k < fs → k ≠ a → kdv D k ≠ kdv D a))) (fun _ _ x => (x + 1).toNat) ?_ ⟨by omega, by omega, .inl ⟨rfl, fun k _ _ => by omega⟩, .inl ⟨rfl, fun k _ _ => by omega⟩⟩
  intro nx fs x C ⟨h0, h1, h2, h3⟩ hC
  dsimp only [b23_X12_nextOfChannel]
  unfold s121_X12_nextOfChannel
  refine ⟨fun q => ?_, fun q => ⟨by omega, by omega, ?_⟩⟩
  · have ex : x = -1 := by omega
    subst ex
    have put : ∀ m d, chanE D a m d → wp_X12_join a m d 1 i r Q := by
      intro m d hm
      have hmr := chan_rng hm
      refine mjoin_w ok g h.n ⟨ha.1, ha.2, hmr.1, hmr.2, .inr (.inr (.inr (.inr ⟨hm, rfl⟩)))⟩ (fun i' f gr => hQ i' f (gr.iff (fun a' b c x => or_congr Iff.rfl ?_)))
      constructor
      · rintro ⟨rfl, rfl, rfl, rfl⟩; exact ⟨rfl, hm, rfl⟩
      · rintro ⟨rfl, y, rfl⟩
        obtain ⟨rfl, rfl⟩ := chanE_uniq y hm
        exact ⟨rfl, rfl, rfl, rfl⟩
    refine ⟨fun ea => ⟨fun eb => ?_, fun eb => ?_⟩, fun ea => ?_⟩
    · rcases h3 with ⟨_, z⟩ | ⟨z, _⟩
      · refine hQ i (FJ.refl i) (g.iff (fun a' b c x => ⟨fun z => .inl z, fun y => y.elim id (fun y => ?_)⟩))
        obtain ⟨_, y, _⟩ := y
        obtain ⟨y0, _, y1, y⟩ := y
        rcases y with ⟨y, _⟩ | ⟨_, y, _⟩
        · exact absurd y.2.2.2.1 (z _ (by have := y.1; omega) y.2.1 (fun w => y0 w.symm))
        · exact absurd y.2.2.2.1 (z _ (by have := y.1; omega) y.2.1 (fun w => y0 w.symm))
      · omega
    · rcases h3 with ⟨z, _⟩ | ⟨z1, z2, z3, z4, z5⟩
      · exact absurd z eb
      · rcases h2 with ⟨_, y⟩ | ⟨y, _⟩
        · refine put fs 1 ⟨fun w => z3 w.symm, h5, z4.symm, .inr ⟨fun k k0 k1 k2 => y k (by omega) k2 k1, ⟨by omega, z2, by omega, z4, fun k k0 k1 k2 => ?_⟩, rfl⟩⟩
          by_cases w : k = a
          · exact absurd z4 (y fs (by omega) z2 (by omega))
          · exact z5 k (by omega) k2 w
        · omega
    · rcases h2 with ⟨z, _⟩ | ⟨z1, z2, z3, z4, z5⟩
      · exact absurd z ea
      · exact put nx 0 ⟨by omega, h5, z4.symm, .inl ⟨⟨by omega, z2, z3, z4, fun k k0 k1 k2 => z5 k (by omega) k2 k1⟩, rfl⟩⟩
  · have hx : 0 ≤ x ∧ x < nn D := ⟨by omega, h1⟩
    rw [h.kd hx, h.kd ha]
    have w1 : wr (x + (-1)) = x - 1 := by rw [wr_of (by omega) (by omega)]; omega
    have keepN : (kdv D x ≠ kdv D a ∨ x ≤ a) → ((nx = -1 ∧ ∀ k, x - 1 < k → k < nn D → a < k → kdv D k ≠ kdv D a) ∨ (x - 1 < nx ∧ nx < nn D ∧ a < nx ∧ kdv D nx = kdv D a ∧ ∀ k, x - 1 < k → k < nx → a < k → kdv D k ≠ kdv D a)) := by
      intro hh
      have key : ∀ k, x - 1 < k → a < k → (x < k → kdv D k ≠ kdv D a) → kdv D k ≠ kdv D a := by
        intro k k1 k2 k3
        by_cases e : k = x
        · rcases hh with y | y
          · rw [e]; exact y
          · omega
        · exact k3 (by omega)
      rcases h2 with ⟨z1, z2⟩ | ⟨z1, z2, z3, z4, z5⟩
      · exact .inl ⟨z1, fun k k0 k1 k2 => key k k0 k2 (fun k3 => z2 k k3 k1 k2)⟩
      · exact .inr ⟨by omega, z2, z3, z4, fun k k0 k1 k2 => key k k0 k2 (fun k3 => z5 k k3 k1 k2)⟩
    have s56 : ∀ n', ((n' = -1 ∧ ∀ k, x - 1 < k → k < nn D → a < k → kdv D k ≠ kdv D a) ∨ (x - 1 < n' ∧ n' < nn D ∧ a < n' ∧ kdv D n' = kdv D a ∧ ∀ k, x - 1 < k → k < n' → a < k → kdv D k ≠ kdv D a)) → s56_X12_nextOfChannel a fs x n' i r Q C := by
      intro n' hn'
      unfold s56_X12_nextOfChannel s84_X12_nextOfChannel s85_X12_nextOfChannel
      rw [h.kd hx, h.kd ha, w1]
      have keepF : (kdv D x ≠ kdv D a ∨ x = a) → C (n', fs, x - 1) := by
        intro hh
        have key : ∀ k, x - 1 < k → k ≠ a → (x < k → kdv D k ≠ kdv D a) → kdv D k ≠ kdv D a := by
          intro k k1 k2 k3
          by_cases e : k = x
          · rcases hh with y | y
            · rw [e]; exact y
            · omega
          · exact k3 (by omega)
        refine hC _ _ _ ⟨by omega, by omega, hn', ?_⟩ (by omega)
        rcases h3 with ⟨z1, z2⟩ | ⟨z1, z2, z3, z4, z5⟩
        · exact .inl ⟨z1, fun k k0 k1 k2 => key k k0 k2 (fun k3 => z2 k k3 k1 k2)⟩
        · exact .inr ⟨by omega, z2, z3, z4, fun k k0 k1 k2 => key k k0 k2 (fun k3 => z5 k k3 k1 k2)⟩
      refine ⟨by omega, by omega, fun e => ⟨fun e2 => keepF (.inr e2), fun e2 => hC _ _ _ ⟨by omega, by omega, hn', .inr ⟨by omega, hx.2, e2, e, fun k k0 k1 => by omega⟩⟩ (by omega)⟩, fun e => keepF (.inl e)⟩
    unfold s55_X12_nextOfChannel
    refine ⟨fun e => ⟨fun e2 => s56 nx (keepN (.inr e2)), fun e2 => s56 x (.inr ⟨by omega, hx.2, by omega, e, fun k k0 k1 => by omega⟩)⟩, fun e => s56 nx (keepN (.inl e))⟩
