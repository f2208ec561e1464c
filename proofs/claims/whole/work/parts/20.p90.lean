/-! ===== the cases: replace and unroll ===== -/
def spRep (D : Dat) (p : Int) : Int × Int × Dat := if ¬ (0 ≤ p ∧ p < D.cnt) then (1, 0, D) else if (psD D).e ≠ -1 then (2, 0, D) else (0, nn (putS D p D.cnt), putS D p D.cnt)
theorem spRep_ok {D : Dat} (ok : DOk D) {p : Int} : DOk (spRep D p).2.2 ∧ ((spRep D p).1 ≠ 0 → (spRep D p).2.2 = D) := by
  unfold spRep
  split
  · exact ⟨ok, fun _ => rfl⟩
  · split
    · exact ⟨ok, fun _ => rfl⟩
    · rename_i h h2
      exact ⟨putS_ok ok (Classical.byContradiction fun z => h2 z) (by omega) (.inr rfl) ok.cnt.2 ok.body, fun z => absurd rfl z⟩
theorem L_replace {D : Dat} (ok : DOk D) {i r : MI} {p : Int} {Q : Int → MI → MI → Prop} (h : ClassP D i r) (rc : RC D i) (kp : KPn D (i 0 9) i r) (hQ : ∀ i' r', Pc (spRep D p).2.2 (spRep D p).1 (spRep D p).2.1 i i' r' → Q (spRep D p).1 i' r') : wp_L_replace p i r Q := by
  generalize hs : spRep D p = s at hQ
  unfold spRep at hs
  have hc := ok.cnt
  have h9 := stm_rng h.rf.p
  unfold wp_L_replace wp_X11_replace s15_X11_replace
  rw [h.cnt]
  have e1 : ¬ (0 ≤ p ∧ p < D.cnt) → Q 1 i r := fun z => by
    rw [if_pos z] at hs; subst hs
    exact hQ _ _ ⟨h, rc, kp, fun _ _ _ _ => rfl, fun y => absurd (show (1 : Int) = 0 from y) (by decide)⟩
  refine ⟨fun z => .inl ⟨rfl, e1 (by omega)⟩, fun z => ⟨fun z2 => ?_, fun z2 => .inl ⟨rfl, e1 (by omega)⟩⟩⟩
  rw [if_neg (show ¬ ¬ (0 ≤ p ∧ p < D.cnt) by omega)] at hs
  refine C_fault h ok (fun i2 g h2 hst => ⟨fun e => ?_, fun e => .inr ⟨rfl, ?_⟩⟩)
  · rw [if_neg (by omega)] at hs; subst hs
    unfold wp_X6_useSpare wp_X10_empty wp_X11_changeBody
    refine ⟨by omega, by omega, ?_⟩
    have ok' := putS_ok ok e ⟨by omega, z2⟩ (.inr rfl) hc.2 ok.body
    have hp : ClassP (putS D p D.cnt) (st (st (st i2 1 1 0) 0 9 0) 0 10 0) (st (st r 4 p (r 3 3)) 3 3 (r 4 p)) := by
      refine put_c h2 (hst e) ⟨by omega, z2⟩ (.inr rfl) hc.2 ?_ ?_ ?_ ?_
      · simp (disch := omega) only [st_row, st_ne, st_eq]
      · simp (disch := omega) only [st_row, st_ne, st_eq]; exact h2.cnt
      · intro c hc; simp (disch := omega) only [st_row, st_ne, st_eq]
      · intro a x y z; simp (disch := omega) only [st_row]
    have z9 : (st (st (st i2 1 1 0) 0 9 0) 0 10 0) 0 9 = 0 := by simp (disch := omega) only [st_row, st_ne, st_eq]
    have z10 : (st (st (st i2 1 1 0) 0 9 0) 0 10 0) 0 10 = 0 := by simp (disch := omega) only [st_row, st_ne, st_eq]
    refine prepare_w ok' hp (by rw [z9]; exact ⟨fun y => by omega, fun y => by omega, fun y => by omega, fun y => by omega, fun y => by omega⟩) (by decide) (fun i1 r1 pq => ?_)
    have pc : Pc (putS D p D.cnt) 1 0 (st (st (st i2 1 1 0) 0 9 0) 0 10 0) i1 r1 := .of pq (.inl z10) (by decide)
    have nv := (pq.kp.m1 pq.ge).nv pq.p
    have pr := pc.ret (w := i1 67 4) ok'
    rw [nv.n] at pr ⊢
    refine hQ _ _ ⟨pr.p, pr.rc, pr.kp, fun a x y w => ?_, pr.out⟩
    rw [pr.f a x y w]
    simp (disch := omega) only [st_row]
    exact pf_row g h9.1 (by omega)
  · rw [if_pos e] at hs; subst hs
    refine hQ _ _ ⟨h2, rc.fr (fun a x y => pf_row g h9.1 (by omega)) (by rw [pf_row g h9.1 (by omega)]), ?_, fun a x _ _ => pf_row g h9.1 (by omega), fun y => absurd (show (2 : Int) = 0 from y) (by decide)⟩
    rw [pf_row g h9.1 (by omega)]
    exact kp.keep ok (fun a x y _ _ => pf_row g h9.1 (by omega)) (fun _ _ _ => rfl) rfl
theorem M_replace {D : Dat} (ok : DOk D) {i r : MI} {p : Int} {Q : Int → MI → Prop} (h : ModelP D i) (hQ : ∀ v i', Mo (spRep D p) v i i' → Q v i') : wp_X12_replace p i r Q := by
  generalize hs : spRep D p = s at hQ
  unfold spRep at hs
  have hc := ok.cnt
  have h0 : ModelP D (st i 504 0 0) := mp0 h
  unfold wp_X12_replace s25_X12_replace s53_X12_replace
  rw [h0.cnt, wr_of (x := D.cnt - 1) (by omega) (by omega), in_eq]
  by_cases c : 0 ≤ p ∧ p ≤ D.cnt - 1
  · rw [bz, if_pos c]
    rw [if_neg (show ¬ ¬ (0 ≤ p ∧ p < D.cnt) by omega)] at hs
    refine ⟨fun y => absurd y (by decide), fun _ => fails0 st_eq ⟨fun _ => M_parse h0 ok (fun i2 g h2 hst => ?_), fun y => absurd rfl y⟩⟩
    have z0 : i2 504 0 = 0 := by rw [g.2 0 (by decide) (by decide), st_eq]
    have fr : Fm i i2 := fun a ha => by rw [g.1 a (by omega) (by omega), st_row (by omega)]
    unfold s46_X12_replace s53_X12_replace
    refine ⟨fun e => fails0 z0 ⟨fun _ => ?_, fun y => absurd rfl y⟩, fun e => fails1 z0 (by decide) ⟨fun y => absurd y (by decide), fun _ => ?_⟩⟩
    · rw [if_neg (by omega)] at hs; subst hs
      have ok' := putS_ok ok e ⟨c.1, by omega⟩ (.inr rfl) hc.2 ok.body
      refine keep_w (D := D) (by omega) (fun i3 k1 k2 k3 k4 k5 => ?_)
      have mp : ModelP (putS D p D.cnt) i3 := put_m h2 (hst e) ⟨c.1, by omega⟩ (.inr rfl) hc.2 k1 k2 k3 (fun c _ y _ => k4 c y) k5 (by rw [k4 6 (by decide)]; exact h2.cnt)
      refine mbuild_w ok' mp (fun i4 f e4 => ?_)
      rw [e4.w.n]
      refine hQ _ _ ⟨e4.p, fun a ha => ?_, ?_, fun _ => rfl⟩
      · rw [f.fm a ha, k3 a (by omega) (by omega), fr a ha]
      · rw [f.c 0 (by decide) (by decide), k4 0 (by decide), z0]
    · rw [if_pos e] at hs; subst hs
      exact hQ _ _ ⟨mp0 h2, fr.trans Fm.s4, st_eq, fun y => absurd (show (2 : Int) = 0 from y) (by decide)⟩
  · rw [bz, if_neg c]
    rw [if_pos (show ¬ (0 ≤ p ∧ p < D.cnt) by omega)] at hs; subst hs
    exact ⟨fun _ => fails1 st_eq (by decide) ⟨fun y => absurd y (by decide), fun _ => hQ _ _ ⟨mp0 h0, Fm.s4.trans Fm.s4, st_eq, fun y => absurd (show (1 : Int) = 0 from y) (by decide)⟩⟩, fun y => absurd rfl y⟩
theorem case_4 {xs : Nat → Int32} {L x5 : Int} {i r : MI} (hb : 0 ≤ x5 ∧ x5 + 4 ≤ L ∧ L ≤ 2048) (I : Inv i r) : wc_4 xs L Inv x5 i r := by
  obtain ⟨D, ok, hc, hm, rc, kp⟩ := I
  have b1 := xb hb (j := 1) (by decide)
  unfold wc_4
  generalize sv xs (wr (x5 + 1)) = p
  refine ⟨b1, L_replace ok hc rc kp (fun i1 r1 pc => ⟨b1, M_replace ok (hm.congr (fun c _ => by rw [pc.f 504 (by decide) (by decide) (by decide)]) (pc.f _ (by decide) (by decide) (by decide)) (fun a x y => pc.f _ (by omega) (by omega) (by omega)) (fun a x y => pc.f _ (by omega) (by omega) (by omega))) (fun w i2 mo => ?_)⟩)⟩
  have mq : Mq (spRep D p).2.2 (spRep D p).1 (spRep D p).2.1 w i1 i2 := ⟨mo.p, mo.f, mo.c, mo.v⟩
  exact thr_end mq.c (pc_out pc mq (fun _ => rfl)) (pc_end (spRep_ok ok).1 pc mq)
def spUn (D : Dat) (p : Int) : Int × Int × Dat := if ¬ (1 ≤ p ∧ p ≤ 4) then (1, 0, D) else if D.tur.tmod p ≠ 0 then (2, 0, D) else if 24 < D.cnt * p then (3, 0, D) else (0, nn (Dat.mk (D.many) (D.tx) (D.cnt) (p) (D.tur) (D.bits) (D.inc) (D.inp) (D.told) (D.un) (D.cy) (D.F) (D.N) (D.T) (D.O) (D.ac) (D.ach) (D.apt) (D.dep)), (Dat.mk (D.many) (D.tx) (D.cnt) (p) (D.tur) (D.bits) (D.inc) (D.inp) (D.told) (D.un) (D.cy) (D.F) (D.N) (D.T) (D.O) (D.ac) (D.ach) (D.apt) (D.dep)))
theorem fac_ok {D : Dat} (ok : DOk D) {p : Int} (h : 1 ≤ p ∧ p ≤ 4) (h2 : D.tur.tmod p = 0) (h3 : D.cnt * p ≤ 24) : DOk (Dat.mk (D.many) (D.tx) (D.cnt) (p) (D.tur) (D.bits) (D.inc) (D.inp) (D.told) (D.un) (D.cy) (D.F) (D.N) (D.T) (D.O) (D.ac) (D.ach) (D.apt) (D.dep)) :=
  ⟨ok.many, ok.tx, ok.cnt, h, h3, ok.tur, h2, ok.bits, ok.inc, ok.inp, ok.told, ok.un, ok.un1, ok.cy, ok.st, ok.ac, ok.ach, ok.apt, ok.dep⟩
theorem spUn_ok {D : Dat} (ok : DOk D) {p : Int} : DOk (spUn D p).2.2 := by
  unfold spUn
  split
  · exact ok
  split
  · exact ok
  split
  · exact ok
  · rename_i a b c
    exact fac_ok ok (by omega) (Classical.byContradiction fun z => b z) (by omega)
theorem cp_b {D : Dat} (ok : DOk D) {p : Int} (h : 1 ≤ p ∧ p ≤ 4) : 0 ≤ D.cnt * p ∧ D.cnt * p ≤ 48 := by
  have hc := ok.cnt
  refine ⟨Int.mul_nonneg hc.1 (by omega), ?_⟩
  have : D.cnt * p ≤ 12 * 4 := Int.mul_le_mul hc.2 h.2 (by omega) (by omega)
  omega
theorem L_unroll {D : Dat} (ok : DOk D) {i r : MI} {p : Int} {Q : Int → MI → MI → Prop} (h : ClassP D i r) (rc : RC D i) (kp : KPn D (i 0 9) i r) (hQ : ∀ i' r', Pc (spUn D p).2.2 (spUn D p).1 (spUn D p).2.1 i i' r' → Q (spUn D p).1 i' r') : wp_L_unroll p i r Q := by
  generalize hs : spUn D p = s at hQ
  unfold spUn at hs
  unfold wp_L_unroll wp_X11_unroll
  have exc : ∀ c, c ≠ 0 → s = (c, 0, D) → Q c i r := fun c hc e => by
    subst e
    exact hQ _ _ ⟨h, rc, kp, fun _ _ _ _ => rfl, fun y => absurd y hc⟩
  simp only [isWithin_eq, h.tur, h.cnt]
  by_cases c : 1 ≤ p ∧ p ≤ 4
  · rw [bz, if_pos c]
    rw [if_neg (show ¬ ¬ (1 ≤ p ∧ p ≤ 4) by omega)] at hs
    have cb := cp_b ok c
    rw [isDiv_e c.1, wr_of (x := D.cnt * p) (by omega) (by omega)]
    refine ⟨fun y => absurd y (by decide), fun _ => ?_⟩
    by_cases d : D.tur.tmod p = 0
    · rw [bz, if_pos d]
      rw [if_neg (show ¬ D.tur.tmod p ≠ 0 from fun y => y d)] at hs
      refine ⟨fun y => absurd y (by decide), fun _ => ⟨fun l => ?_, fun l => .inr (.inr ⟨trivial, ?_⟩)⟩⟩
      · rw [if_neg (by omega)] at hs; subst hs
        unfold wp_X11_changeBody
        have ok' := fac_ok ok c d l
        have hp : ClassP (Dat.mk (D.many) (D.tx) (D.cnt) (p) (D.tur) (D.bits) (D.inc) (D.inp) (D.told) (D.un) (D.cy) (D.F) (D.N) (D.T) (D.O) (D.ac) (D.ach) (D.apt) (D.dep)) (st (st (st i 3 8 p) 0 9 0) 0 10 0) r := by
          ((have hs9 := fun k a b => stm_rng (RefP.s (ClassP.rf h) k a b); have hs9' := stm_rng (RefP.p (ClassP.rf h)); have hc12 := ClassP.c12 h; apply ClassP.mk <;> intros <;> try (simp (disch := omega) only [st_row, st_ne, st_eq, Dat.k_many, Dat.k_tx, Dat.k_cnt, Dat.k_fac, Dat.k_tur, Dat.k_bits, Dat.k_inc, Dat.k_inp, Dat.k_told, Dat.k_un, Dat.k_cy, Dat.k_F, Dat.k_N, Dat.k_T, Dat.k_O, Dat.k_ac, Dat.k_ach, Dat.k_apt, Dat.k_dep])); all_goals (first | exact (ClassP.many h :) | exact (ClassP.cnt h :) | exact (ClassP.inc h :) | exact (ClassP.tur h :) | exact (ClassP.bits h :) | exact (ClassP.fac h :) | exact (ClassP.rf h :) | exact (ClassP.c12 h :) | (apply ClassP.tx h <;> assumption) | (apply ClassP.inp h <;> assumption) | (apply ClassP.told h <;> assumption) | (apply ClassP.un h <;> assumption) | (apply ClassP.cy h <;> assumption) | (apply ClassP.ac h <;> assumption) | (apply ClassP.ach h <;> assumption) | (apply ClassP.apt h <;> assumption) | (apply ClassP.dep h <;> assumption) | (rename_i kk ka kb; have hkb := Int.lt_of_lt_of_le kb hc12.2; have hk9 := hs9 kk ka hkb; (repeat' (apply StmAt.st')); (exact (ClassP.st h kk ka kb :)); (all_goals omega)) | (exfalso; (try simp only [Dat.k_many, Dat.k_tx, Dat.k_cnt, Dat.k_fac, Dat.k_tur, Dat.k_bits, Dat.k_inc, Dat.k_inp, Dat.k_told, Dat.k_un, Dat.k_cy, Dat.k_F, Dat.k_N, Dat.k_T, Dat.k_O, Dat.k_ac, Dat.k_ach, Dat.k_apt, Dat.k_dep] at *); omega) | (have u1 := ClassP.tx h; have u2 := ClassP.inp h; have u3 := ClassP.told h; have u4 := ClassP.un h; have u5 := ClassP.cy h; have u6 := ClassP.ac h; have u7 := ClassP.ach h; have u8 := ClassP.apt h; have u9 := ClassP.dep h; (try simp only [Dat.k_many, Dat.k_tx, Dat.k_cnt, Dat.k_fac, Dat.k_tur, Dat.k_bits, Dat.k_inc, Dat.k_inp, Dat.k_told, Dat.k_un, Dat.k_cy, Dat.k_F, Dat.k_N, Dat.k_T, Dat.k_O, Dat.k_ac, Dat.k_ach, Dat.k_apt, Dat.k_dep] at *); unfold Pilot.CSchedularyLaw_law_r7114_237193.st; grind) | skip))
        have z9 : (st (st (st i 3 8 p) 0 9 0) 0 10 0) 0 9 = 0 := by simp (disch := omega) only [st_row, st_ne, st_eq]
        have z10 : (st (st (st i 3 8 p) 0 9 0) 0 10 0) 0 10 = 0 := by simp (disch := omega) only [st_row, st_ne, st_eq]
        refine prepare_w ok' hp (by rw [z9]; exact ⟨fun y => by omega, fun y => by omega, fun y => by omega, fun y => by omega, fun y => by omega⟩) (by decide) (fun i1 r1 pq => ?_)
        have pc : Pc (Dat.mk (D.many) (D.tx) (D.cnt) (p) (D.tur) (D.bits) (D.inc) (D.inp) (D.told) (D.un) (D.cy) (D.F) (D.N) (D.T) (D.O) (D.ac) (D.ach) (D.apt) (D.dep)) 1 0 (st (st (st i 3 8 p) 0 9 0) 0 10 0) i1 r1 := .of pq (.inl z10) (by decide)
        have nv := (pq.kp.m1 pq.ge).nv pq.p
        have pr := pc.ret (w := i1 67 4) ok'
        rw [nv.n] at pr ⊢
        refine hQ _ _ ⟨pr.p, pr.rc, pr.kp, fun a x y w => ?_, pr.out⟩
        rw [pr.f a x y w]
        simp (disch := omega) only [st_row]
      · rw [if_pos (by omega)] at hs
        exact exc 3 (by decide) hs.symm
    · rw [bz, if_neg d]
      rw [if_pos d] at hs
      exact ⟨fun _ => .inr (.inl ⟨trivial, exc 2 (by decide) hs.symm⟩), fun y => absurd rfl y⟩
  · rw [bz, if_neg c]
    rw [if_pos c] at hs
    exact ⟨fun _ => .inl ⟨trivial, exc 1 (by decide) hs.symm⟩, fun y => absurd rfl y⟩
theorem M_unroll {D : Dat} (ok : DOk D) {i r : MI} {p : Int} {Q : Int → MI → Prop} (h : ModelP D i) (hQ : ∀ v i', Mo (spUn D p) v i i' → Q v i') : wp_X12_unroll p i r Q := by
  generalize hs : spUn D p = s at hQ
  unfold spUn at hs
  have h0 : ModelP D (st i 504 0 0) := mp0 h
  unfold wp_X12_unroll s20_X12_unroll s73_X12_unroll
  have exc : ∀ c, c ≠ 0 → s = (c, 0, D) → Q 0 (st (st i 504 0 0) 504 0 c) := fun c hc e => by
    subst e
    exact hQ _ _ ⟨mp0 h0, Fm.s4.trans Fm.s4, st_eq, fun y => absurd y hc⟩
  rw [in_eq]
  by_cases c : 1 ≤ p ∧ p ≤ 4
  · rw [bz, if_pos c]
    rw [if_neg (show ¬ ¬ (1 ≤ p ∧ p ≤ 4) by omega)] at hs
    have cb := cp_b ok c
    refine ⟨fun y => absurd y (by decide), fun _ => fails0 st_eq ⟨fun _ => ⟨by omega, ?_⟩, fun y => absurd rfl y⟩⟩
    unfold s42_X12_unroll s73_X12_unroll
    rw [h0.tur]
    refine ⟨fun d => ?_, fun d => ?_⟩
    · rw [if_neg (show ¬ D.tur.tmod p ≠ 0 from fun y => y d)] at hs
      refine fails0 st_eq ⟨fun _ => ?_, fun y => absurd rfl y⟩
      unfold s66_X12_unroll s73_X12_unroll
      rw [h0.cnt, wr_of (x := D.cnt * p) (by omega) (by omega)]
      refine ⟨fun l => fails0 st_eq ⟨fun _ => ?_, fun y => absurd rfl y⟩, fun l => fails1 st_eq (by decide) ⟨fun y => absurd y (by decide), fun _ => ?_⟩⟩
      · rw [if_neg (by omega)] at hs; subst hs
        have ok' := fac_ok ok c d l
        have mp : ModelP (Dat.mk (D.many) (D.tx) (D.cnt) (p) (D.tur) (D.bits) (D.inc) (D.inp) (D.told) (D.un) (D.cy) (D.F) (D.N) (D.T) (D.O) (D.ac) (D.ach) (D.apt) (D.dep)) (st (st i 504 0 0) 504 10 p) := by
          ((apply ModelP.mk <;> intros <;> try (simp (disch := omega) only [st_row, st_ne, st_eq, Dat.k_many, Dat.k_tx, Dat.k_cnt, Dat.k_fac, Dat.k_tur, Dat.k_bits, Dat.k_inc, Dat.k_inp, Dat.k_told, Dat.k_un, Dat.k_cy, Dat.k_F, Dat.k_N, Dat.k_T, Dat.k_O, Dat.k_ac, Dat.k_ach, Dat.k_apt, Dat.k_dep])); all_goals (first | exact (ModelP.many h :) | exact (ModelP.cnt h :) | exact (ModelP.inc h :) | exact (ModelP.tur h :) | exact (ModelP.bits h :) | exact (ModelP.fac h :) | (apply ModelP.tx h <;> assumption) | (apply ModelP.inp h <;> assumption) | (apply ModelP.told h <;> assumption) | (apply ModelP.un h <;> assumption) | (apply ModelP.cy h <;> assumption) | (apply ModelP.ac h <;> assumption) | (apply ModelP.act h <;> assumption) | (apply ModelP.dep h <;> assumption) | ((repeat' (apply MStm.st')); (apply ModelP.st h <;> assumption); (all_goals decide)) | (exfalso; (try simp only [Dat.k_many, Dat.k_tx, Dat.k_cnt, Dat.k_fac, Dat.k_tur, Dat.k_bits, Dat.k_inc, Dat.k_inp, Dat.k_told, Dat.k_un, Dat.k_cy, Dat.k_F, Dat.k_N, Dat.k_T, Dat.k_O, Dat.k_ac, Dat.k_ach, Dat.k_apt, Dat.k_dep] at *); omega) | (have u1 := ModelP.tx h; have u2 := ModelP.inp h; have u3 := ModelP.told h; have u4 := ModelP.un h; have u5 := ModelP.cy h; have u6 := ModelP.ac h; have u7 := ModelP.act h; have u9 := ModelP.dep h; (try simp only [Dat.k_many, Dat.k_tx, Dat.k_cnt, Dat.k_fac, Dat.k_tur, Dat.k_bits, Dat.k_inc, Dat.k_inp, Dat.k_told, Dat.k_un, Dat.k_cy, Dat.k_F, Dat.k_N, Dat.k_T, Dat.k_O, Dat.k_ac, Dat.k_ach, Dat.k_apt, Dat.k_dep] at *); unfold Pilot.CSchedularyLaw_law_r7114_237193.st; grind) | skip))
        refine mbuild_w ok' mp (fun i4 f e4 => ?_)
        rw [e4.w.n]
        refine hQ _ _ ⟨e4.p, fun a ha => ?_, ?_, fun _ => rfl⟩
        · rw [f.fm a ha, st_row (by omega), st_row (by omega)]
        · rw [f.c 0 (by decide) (by decide), st_ne (by decide), st_eq]
      · rw [if_pos (by omega)] at hs
        exact exc 3 (by decide) hs.symm
    · rw [if_pos d] at hs
      exact fails1 st_eq (by decide) ⟨fun y => absurd y (by decide), fun _ => exc 2 (by decide) hs.symm⟩
  · rw [bz, if_neg c]
    rw [if_pos c] at hs
    exact ⟨fun _ => fails1 st_eq (by decide) ⟨fun y => absurd y (by decide), fun _ => exc 1 (by decide) hs.symm⟩, fun y => absurd rfl y⟩
theorem case_7 {xs : Nat → Int32} {L x5 : Int} {i r : MI} (hb : 0 ≤ x5 ∧ x5 + 4 ≤ L ∧ L ≤ 2048) (I : Inv i r) : wc_7 xs L Inv x5 i r := by
  obtain ⟨D, ok, hc, hm, rc, kp⟩ := I
  have b1 := xb hb (j := 1) (by decide)
  unfold wc_7
  generalize sv xs (wr (x5 + 1)) = p
  refine ⟨b1, L_unroll ok hc rc kp (fun i1 r1 pc => ⟨b1, M_unroll ok (hm.congr (fun c _ => by rw [pc.f 504 (by decide) (by decide) (by decide)]) (pc.f _ (by decide) (by decide) (by decide)) (fun a x y => pc.f _ (by omega) (by omega) (by omega)) (fun a x y => pc.f _ (by omega) (by omega) (by omega))) (fun w i2 mo => ?_)⟩)⟩
  have mq : Mq (spUn D p).2.2 (spUn D p).1 (spUn D p).2.1 w i1 i2 := ⟨mo.p, mo.f, mo.c, mo.v⟩
  exact thr_end mq.c (pc_out pc mq (fun _ => rfl)) (pc_end (spUn_ok ok) pc mq)
