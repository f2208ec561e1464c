theorem plc_r {T N i : Int} (hi : 0 ≤ i ∧ i ≤ 1000) (h : (T = 0 ∧ 0 ≤ N ∧ N ≤ 99) ∨ (T = 1 ∧ -9 ≤ N ∧ N ≤ 9)) : -100 ≤ plc T N i ∧ plc T N i ≤ 2000 := by
  unfold plc
  split <;> omega
theorem val_cut {D : Dat} (ok : DOk D) {k p i : Int} {s : St} (hk : 0 ≤ k ∧ k < D.cnt) (hp : 0 ≤ p ∧ p < 3) (h : StOk D s) : isCut D (valS D k p i s) := by
  have hst := ok.st k hk.1 hk.2
  unfold valS lookS
  split
  · rename_i e
    have := hst.n0 p hp.1 hp.2 e
    exact h.r _ this.1 (by omega)
  split
  · exact isCut_cut ok _
  split
  · exact isCut_cut ok _
  split
  · split
    · exact isCut_cut ok _
    · exact isCut_0 ok
  · split
    · rename_i q
      exact h.m _ _ q.1 q.2.1 q.2.2.1 q.2.2.2
    · exact isCut_0 ok
theorem tk_ok {D : Dat} {k p : Int} {s : St} (h : StOk D s) : StOk D (tkS D k p s) := by
  unfold tkS
  split
  · exact ⟨h.r, h.m, h.n, by have := h.t; show 0 ≤ s.tak + 1; omega⟩
  · exact h
theorem wri_ok {D : Dat} {k i v : Int} {s : St} (h : StOk D s) (hv : isCut D v) : StOk D (wriS D k i v s) := by
  unfold wriS
  split
  · refine ⟨fun a x y => ?_, h.m, h.n, h.t⟩
    show isCut D (if a = D.N k 0 then v else s.reg a)
    split
    · exact hv
    · exact h.r a x y
  split
  · exact ⟨h.r, h.m, by have := h.n; show 0 ≤ s.outs + 1; omega, h.t⟩
  split
  · refine ⟨h.r, fun a b x y z w => ?_, h.n, h.t⟩
    show isCut D (if a = D.F k 0 - 3 ∧ b = plc (D.T k 0) (D.N k 0) i then v else s.mem a b)
    split
    · exact hv
    · exact h.m a b x y z w
  · exact h
theorem one_ok {D : Dat} (ok : DOk D) {k i : Int} {s : St} (hk : 0 ≤ k ∧ k < D.cnt) (h : StOk D s) : StOk D (oneS D k i s) := by
  unfold oneS
  split
  · exact wri_ok (tk_ok h) (val_cut ok hk (by decide) h)
  · exact wri_ok (tk_ok (tk_ok h)) (isCut_cut ok _)
theorem beg_ok {D : Dat} (ok : DOk D) : StOk D (begS D) :=
  ⟨fun _ _ _ => isCut_0 ok, fun _ _ _ _ _ _ => isCut_cut ok _, Int.le_refl 0, Int.le_refl 0⟩
/-! the class -/
def FS (o : Int) (i i' : MI) : Prop := ∀ a, (a < o ∨ o + 5 < a) → i' a = i a
theorem FS.refl (o : Int) (i : MI) : FS o i i := fun _ _ => rfl
theorem FS.trans {o : Int} {i j k : MI} (h : FS o i j) (g : FS o j k) : FS o i k := fun a q => (g a q).trans (h a q)
theorem FS.st {o a k v : Int} {i : MI} (h1 : o ≤ a) (h2 : a ≤ o + 5) : FS o i (st i a k v) := fun b q => st_row (by omega)
theorem sta_rng {o : Int} (h : sta o) : (61 ≤ o ∧ o ≤ 61) ∨ (481 ≤ o ∧ o ≤ 481) := by rcases h with rfl | rfl <;> decide
theorem ClassP.fs {D : Dat} {i i' r : MI} {o : Int} (h : ClassP D i r) (ho : sta o) (g : FS o i i') : ClassP D i' r := by
  have := sta_rng ho
  refine h.congr ?_ (g _ (by omega)) (fun c _ => ?_) (g _ (by omega)) (fun a x y => g _ (by omega)) (fun a x y z => g _ (by omega)) (g _ (by omega)) (g _ (by omega)) (fun a x y => g _ (by omega)) (fun a x y => g _ (by omega)) rfl rfl
  · rw [g _ (by omega)]
  · rw [g _ (by omega)]
theorem cut_e {D : Dat} {i r : MI} {v : Int} {Q : Int → Prop} (h : ClassP D i r) : wp_X6_cut v i r Q ↔ Q (cutD D v) := by
  unfold wp_X6_cut cutD
  rw [h.bits]
theorem CSt.tk {D : Dat} {o : Int} {i : MI} {s : St} {k p : Int} (h : CSt D o i s) (e : ¬ D.F k p = 5) : CSt D o i (tkS D k p s) := by
  unfold tkS
  rw [if_neg e]
  exact h
theorem isInside_e {m p : Int} {i r : MI} {Q : Int → Prop} : wp_X7_isInside m p i r Q ↔ Q (bz (0 ≤ m ∧ m < 2 ∧ 0 ≤ p ∧ p < 16)) := by
  unfold wp_X7_isInside s23_X7_isInside s24_X7_isInside bz
  by_cases h : 0 ≤ m ∧ m < 2 ∧ 0 ≤ p ∧ p < 16
  · rw [if_pos h]
    exact ⟨fun q => ((((q.2 (by omega)).2 (by omega)).2 (by omega)).2 (by omega)).2, fun q => ⟨fun _ => by omega, fun _ => ⟨fun _ => by omega, fun _ => ⟨fun _ => by omega, fun _ => ⟨fun _ => by omega, fun _ => ⟨.inr rfl, q⟩⟩⟩⟩⟩⟩
  · rw [if_neg h]
    refine ⟨fun q => ?_, fun q => ⟨fun _ => ⟨.inl rfl, q⟩, fun _ => ⟨fun _ => ⟨.inl rfl, q⟩, fun _ => ⟨fun _ => ⟨.inl rfl, q⟩, fun _ => ⟨fun _ => ⟨.inl rfl, q⟩, fun _ => by omega⟩⟩⟩⟩⟩
    by_cases h1 : m < 0
    · exact (q.1 h1).2
    by_cases h2 : 2 ≤ m
    · exact ((q.2 h1).1 h2).2
    by_cases h3 : p < 0
    · exact (((q.2 h1).2 h2).1 h3).2
    · exact ((((q.2 h1).2 h2).2 h3).1 (by omega)).2
theorem look_e {D : Dat} {o m p : Int} {i r : MI} {s : St} {Q : Int → Prop} (h : CSt D o i s) : wp_X7_look o m p i r Q ↔ Q (lookS s m p) := by
  unfold wp_X7_look s20_X7_look lookS
  rw [isInside_e]
  by_cases e : 0 ≤ m ∧ m < 2 ∧ 0 ≤ p ∧ p < 16
  · rw [h.m m p e.1 e.2.1 e.2.2.1 e.2.2.2, if_pos e, bz, if_pos e]
    exact ⟨fun q => (q.2 (by decide)).2.2, fun q => ⟨fun z => absurd z (by decide), fun _ => ⟨by omega, by omega, q⟩⟩⟩
  · rw [if_neg e, bz, if_neg e]
    exact ⟨fun q => q.1 rfl, fun q => ⟨fun _ => q, fun z => absurd rfl z⟩⟩
theorem placeOf_e {i r : MI} {o p t : Int} {F N T : Int → Int} {O : Int} {Q : Int → Prop} (hs : StmAt i o F N T O) (hp : 0 ≤ p ∧ p < 3) (ht : 0 ≤ t ∧ t ≤ 1000) (hT : (T p = 0 ∧ 0 ≤ N p ∧ N p ≤ 99) ∨ (T p = 1 ∧ -9 ≤ N p ∧ N p ≤ 9)) : wp_X8_placeOf o p t i r Q ↔ Q (plc (T p) (N p) t) := by
  unfold wp_X8_placeOf s26_X8_placeOf plc
  rw [hs.t p hp.1 hp.2, hs.n p hp.1 hp.2]
  by_cases e : T p = 0
  · rw [if_pos e]
    exact ⟨fun q => (q.2.1 e).2, fun q => ⟨hp, fun _ => ⟨hp, q⟩, fun z => absurd e z⟩⟩
  · rw [if_neg e, wr_of (by omega) (by omega)]
    exact ⟨fun q => (q.2.2 e).2, fun q => ⟨hp, fun z => absurd z e, fun _ => ⟨hp, q⟩⟩⟩
theorem valueOf_w {D : Dat} {i r : MI} {k p t o : Int} {s : St} {Q : Int → MI → Prop} (h : ClassP D i r) (ok : DOk D) (hk : 0 ≤ k ∧ k < D.cnt) (hp : p = 1 ∨ (p = 2 ∧ D.O k ≠ 32)) (ht : 0 ≤ t ∧ t ≤ 1000) (ho : sta o) (hs : CSt D o i s) (hso : StOk D s)
    (hQ : ∀ i', FS o i i' → CSt D o i' (tkS D k p s) → Q (valS D k p t s) i') : wp_X6_valueOf (r 4 k) p t o i r Q := by
  have hst := h.st k hk.1 hk.2
  have sok := ok.st k hk.1 hk.2
  have hp3 : 0 ≤ p ∧ p < 3 := by omega
  have hor := sta_rng ho
  have hic := ok.inc
  have hF : 0 ≤ D.F k p ∧ D.F k p ≤ 5 := by
    rcases hp with rfl | ⟨rfl, e⟩
    · exact sok.f1
    · rcases sok.f2 with q | q
      · exact absurd q.1 e
      · exact q.2
  unfold wp_X6_valueOf
  rw [hst.f p hp3.1 hp3.2, hst.n p hp3.1 hp3.2, cut_e h, cut_e h]
  unfold valS at hQ
  refine ⟨hp3, fun e0 => ?_, fun e0 => ⟨fun e1 => ?_, fun e1 => ⟨fun e2 => ?_, fun e2 => ?_⟩⟩⟩
  · rw [if_pos e0] at hQ
    have := sok.n0 p hp3.1 hp3.2 e0
    rw [hs.r _ this.1 (by omega)]
    exact ⟨hp3, by omega, hQ _ (FS.refl _ _) (hs.tk (by omega))⟩
  · rw [if_neg e0, if_pos e1] at hQ
    exact ⟨hp3, hQ _ (FS.refl _ _) (hs.tk (by omega))⟩
  · rw [if_neg e0, if_neg e1, if_pos e2] at hQ
    exact hQ _ (FS.refl _ _) (hs.tk (by omega))
  · rw [if_neg e0, if_neg e1, if_neg e2] at hQ
    have mem : D.F k p = 3 ∨ D.F k p = 4 → s81_X6_valueOf (r 4 k) p t o i r Q := by
      intro e
      rw [if_neg (by omega)] at hQ
      unfold s81_X6_valueOf
      rw [placeOf_e hst hp3 ht (sok.n3 p hp3.1 hp3.2 e), hst.f p hp3.1 hp3.2, look_e hs, wr_of (by omega) (by omega)]
      exact ⟨hp3, hQ _ (FS.refl _ _) (hs.tk (by omega))⟩
    refine ⟨fun e3 => mem (.inl e3), fun e3 => ⟨fun e4 => mem (.inr e4), fun e4 => ⟨fun e5 => ?_, fun e5 => by omega⟩⟩⟩
    rw [if_pos e5] at hQ
    unfold wp_X6_takeInput
    rw [cut_e h, hs.t, h.inc]
    have htk := hso.t
    have e6 : tkS D k p s = St.mk s.reg s.mem s.out s.outs (s.tak + 1) := by unfold tkS; rw [if_pos e5]
    rw [e6] at hQ
    refine ⟨fun q => ⟨by omega, ?_⟩, fun q => ?_⟩
    · have e7 : min s.tak D.inc = s.tak := by omega
      rw [e7, h.inp s.tak (by omega) (by omega), wr_of (by omega) (by omega)]
      rw [if_pos (by omega)] at hQ
      refine hQ _ (FS.st (by omega) (by omega)) ⟨?_, ?_, ?_, ?_, ?_⟩
      · rw [st_row (by omega)]; exact hs.r
      · intro m q a b; rw [st_row (by omega)]; exact hs.m m q a b
      · rw [st_row (by omega)]; exact hs.x
      · rw [st_ne (by omega)]; exact hs.n
      · rw [st_eq]; show s.tak + 1 = min (s.tak + 1) D.inc; omega
    · rw [if_neg (by omega)] at hQ
      refine hQ _ (FS.refl _ _) ⟨hs.r, hs.m, hs.x, hs.n, ?_⟩
      rw [hs.t]; show min s.tak D.inc = min (s.tak + 1) D.inc; omega
theorem write_w {D : Dat} {i r : MI} {k t v o : Int} {s : St} {Q : MI → Prop} (h : ClassP D i r) (ok : DOk D) (hk : 0 ≤ k ∧ k < D.cnt) (ht : 0 ≤ t ∧ t ≤ 1000) (ho : sta o) (hs : CSt D o i s) (hso : StOk D s) (hout : D.F k 0 = 6 → s.outs < 192)
    (hQ : ∀ i', FS o i i' → CSt D o i' (wriS D k t v s) → Q i') : wp_X6_write (r 4 k) t v o i r Q := by
  have hst := h.st k hk.1 hk.2
  have sok := ok.st k hk.1 hk.2
  have hor := sta_rng ho
  have hn := hso.n
  have f0 := sok.f0
  unfold wp_X6_write s61_X6_write
  rw [hst.f 0 (by decide) (by decide), hst.n 0 (by decide) (by decide)]
  unfold wriS at hQ
  refine ⟨fun e0 => ?_, fun e0 => ⟨fun e1 => ?_, fun e1 => ?_⟩⟩
  · rw [if_pos e0] at hQ
    have := sok.n0 0 (by decide) (by decide) e0
    refine ⟨by omega, hQ _ (FS.st (by omega) (by omega)) ⟨?_, ?_, ?_, ?_, ?_⟩⟩
    · intro a x y
      simp only [St.k_reg]
      by_cases e : a = D.N k 0
      · rw [e, st_eq]; simp
      · rw [st_ne (by omega)]; simp [e]; exact hs.r a x y
    · intro m q a b; rw [st_row (by omega)]; exact hs.m m q a b
    · rw [st_row (by omega)]; exact hs.x
    · rw [st_row (by omega)]; exact hs.n
    · rw [st_row (by omega)]; exact hs.t
  · rw [if_neg e0, if_pos e1] at hQ
    unfold wp_X7_putOut s30_X7_putOut
    have ho2 := hout e1
    rw [st_row (a := o) (by omega), hs.n, wr_of (by omega) (by omega)]
    refine ⟨fun q => by omega, fun _ => ⟨by omega, hQ _ ((FS.st (by omega) (by omega)).trans (FS.st (by omega) (by omega))) ⟨?_, ?_, ?_, ?_, ?_⟩⟩⟩
    · simp (disch := omega) only [st_row]; exact hs.r
    · intro m q a b; simp (disch := omega) only [st_row]; exact hs.m m q a b
    · intro a x y
      have y : a < s.outs + 1 := y
      rw [st_row (by omega)]
      simp only [St.k_out]
      by_cases e : a = s.outs
      · rw [e, st_eq]; simp
      · rw [st_ne (by omega)]; simp [e]; exact hs.x a x (by omega)
    · rw [st_eq]; rfl
    · simp (disch := omega) only [st_row, st_ne]; exact hs.t
  · rw [if_neg e0, if_neg e1] at hQ
    have e34 : D.F k 0 = 3 ∨ D.F k 0 = 4 := by omega
    rw [placeOf_e hst (by decide) ht (sok.n3 0 (by decide) (by decide) e34), wr_of (by omega) (by omega)]
    unfold wp_X7_keep s17_X7_keep
    rw [isInside_e]
    refine ⟨fun q => ?_, fun q => ?_⟩
    · rw [bz_0] at q
      rw [if_neg q] at hQ
      exact hQ _ (FS.refl _ _) hs
    · rw [bz_0, Decidable.not_not] at q
      rw [if_pos q] at hQ
      refine ⟨by omega, by omega, hQ _ (FS.st (by omega) (by omega)) ⟨?_, ?_, ?_, ?_, ?_⟩⟩
      · rw [st_row (by omega)]; exact hs.r
      · intro m x a b c d
        simp only [St.k_mem]
        by_cases e : m = D.F k 0 - 3 ∧ x = plc (D.T k 0) (D.N k 0) t
        · rw [e.1, e.2, st_eq]; simp
        · rw [st_ne (by omega), if_neg e]; exact hs.m m x a b c d
      · rw [st_row (by omega)]; exact hs.x
      · rw [st_row (by omega)]; exact hs.n
      · rw [st_row (by omega)]; exact hs.t
theorem operate_e {i r : MI} {o a b : Int} {F N T : Int → Int} {O : Int} {Q : Int → Prop} (hs : StmAt i o F N T O) : wp_X8_operate o a b i r Q ↔ Q (opS O a b) := by
  unfold wp_X8_operate s98_X8_operate opS
  rw [hs.o]
  by_cases e1 : O = 38
  · simp [e1]
  by_cases e2 : O = 42
  · simp [e2]
  by_cases e3 : O = 43
  · simp [e3]
  by_cases e4 : O = 45
  · simp [e4]
  by_cases e5 : O = 94
  · simp [e5]
  by_cases e6 : O = 124
  · simp [e6]
  · by_cases e7 : a < b
    · simp [e1, e2, e3, e4, e5, e6, e7]; omega
    · simp [e1, e2, e3, e4, e5, e6, e7]; omega
theorem carryOne_w {D : Dat} {i r : MI} {k t o : Int} {s : St} {Q : MI → Prop} (h : ClassP D i r) (ok : DOk D) (hk : 0 ≤ k ∧ k < D.cnt) (ht : 0 ≤ t ∧ t ≤ 1000) (ho : sta o) (hs : CSt D o i s) (hso : StOk D s) (hout : D.F k 0 = 6 → s.outs < 192)
    (hQ : ∀ i', FS o i i' → CSt D o i' (oneS D k t s) → Q i') : wp_X6_carryOutOne (r 4 k) t o i r Q := by
  unfold wp_X6_carryOutOne s37_X6_carryOutOne
  have tks : ∀ p s, (tkS D k p s).outs = s.outs := fun p s => by unfold tkS; split <;> rfl
  unfold oneS at hQ
  refine valueOf_w h ok hk (.inl rfl) ht ho hs hso (fun i1 f1 s1 => ?_)
  have h1 := h.fs ho f1
  have hst := h1.st k hk.1 hk.2
  unfold wp_X8_hasOperation s14_X8_hasOperation
  rw [hst.o]
  refine ⟨fun e => ⟨.inl rfl, fun _ => ?_, fun q => absurd rfl q⟩, fun e => ⟨.inr rfl, fun q => absurd q (by decide), fun _ => ?_⟩⟩
  · rw [if_pos e] at hQ
    exact write_w h1 ok hk ht ho s1 (tk_ok hso) (by rw [tks]; exact hout) (fun i2 f2 s2 => hQ _ (f1.trans f2) s2)
  · rw [if_neg e] at hQ
    refine valueOf_w h1 ok hk (.inr ⟨rfl, e⟩) ht ho s1 (tk_ok hso) (fun i2 f2 s2 => ?_)
    have h2 := h1.fs ho f2
    rw [operate_e (h2.st k hk.1 hk.2), cut_e h2]
    exact write_w h2 ok hk ht ho s2 (tk_ok (tk_ok hso)) (by rw [tks, tks]; exact hout) (fun i3 f3 s3 => hQ _ ((f1.trans f2).trans f3) s3)
