def left (D : Dat) (s : PSt) : Prop := s.1 0 < D.ac 0 ∨ s.1 1 < D.ac 1 ∨ s.1 2 < D.ac 2 ∨ s.1 3 < D.ac 3
theorem left_of {D : Dat} {s : PSt} {p : Int} (hp : 0 ≤ p ∧ p < 4) (h : s.1 p < D.ac p) : left D s := by
  have : p = 0 ∨ p = 1 ∨ p = 2 ∨ p = 3 := by omega
  unfold left
  rcases this with rfl | rfl | rfl | rfl
  · exact .inl h
  · exact .inr (.inl h)
  · exact .inr (.inr (.inl h))
  · exact .inr (.inr (.inr h))
theorem left_no {D : Dat} {s : PSt} (h : ∀ p, 0 ≤ p → p < 4 → ¬ s.1 p < D.ac p) : ¬ left D s := by
  intro q
  rcases q with q | q | q | q
  · exact h 0 (by decide) (by decide) q
  · exact h 1 (by decide) (by decide) q
  · exact h 2 (by decide) (by decide) q
  · exact h 3 (by decide) (by decide) q
theorem isLeft_w {D : Dat} {i r : MI} {lim : Int → Int} {s : PSt} {Q : Int → Prop} (h : ClassP D i r) (cs : CPS i lim s) (h1 : left D s → Q 1) (h0 : ¬ left D s → Q 0) : wp_X5_isSomeLeft i r Q := by
  unfold wp_X5_isSomeLeft
  refine Lp.r1 (fun (x : Int) => 0 ≤ x ∧ x ≤ 4 ∧ ∀ p, 0 ≤ p → p < x → ¬ s.1 p < D.ac p) (fun x => (4 - x).toNat) ?_ ⟨by decide, by decide, fun p a b => by omega⟩
  intro x C ⟨g0, g1, g2⟩ hC
  dsimp only [b2_X5_isSomeLeft]
  refine ⟨fun q => h0 (left_no (fun p a b => g2 p a (by omega))), fun q => ⟨⟨g0, by omega⟩, ⟨g0, by omega⟩, ?_⟩⟩
  rw [h.ac x g0 (by omega), cs.a x g0 (by omega), wr_of (by omega) (by omega)]
  refine ⟨fun q2 => hC _ ⟨by omega, by omega, fun p a b => ?_⟩ (by omega), fun q2 => h1 (left_of ⟨g0, by omega⟩ (by omega))⟩
  by_cases e : p = x
  · rw [e]; omega
  · exact g2 p a (by omega)
theorem countDone_w {D : Dat} (ok : DOk D) {i r : MI} {lim : Int → Int} {s : PSt} {Q : Int → Prop} (cs : CPS i lim s) (os : okP D lim s) (hQ : Q (sumP s)) : wp_X5_countDone i r Q := by
  have a0 := os.a 0 (by decide) (by decide)
  have a1 := os.a 1 (by decide) (by decide)
  have a2 := os.a 2 (by decide) (by decide)
  have a3 := os.a 3 (by decide) (by decide)
  have b0 := ok.ac 0 (by decide) (by decide)
  have b1 := ok.ac 1 (by decide) (by decide)
  have b2 := ok.ac 2 (by decide) (by decide)
  have b3 := ok.ac 3 (by decide) (by decide)
  have e0 := cs.a 0 (by decide) (by decide)
  have e1 := cs.a 1 (by decide) (by decide)
  have e2 := cs.a 2 (by decide) (by decide)
  have e3 := cs.a 3 (by decide) (by decide)
  unfold wp_X5_countDone
  refine ⟨5, ?_⟩
  have w1 : wr (0 + 1) = 1 := by decide
  have w2 : wr (1 + 1) = 2 := by decide
  have w3 : wr (2 + 1) = 3 := by decide
  have w4 : wr (3 + 1) = 4 := by decide
  simp only [LoopP, b4_X5_countDone, w1, w2, w3, w4, e0, e1, e2, e3]
  rw [wr_of (x := 0 + s.1 0) (by omega) (by omega), wr_of (x := 0 + s.1 0 + s.1 1) (by omega) (by omega), wr_of (x := 0 + s.1 0 + s.1 1 + s.1 2) (by omega) (by omega), wr_of (x := 0 + s.1 0 + s.1 1 + s.1 2 + s.1 3) (by omega) (by omega)]
  have e : 0 + s.1 0 + s.1 1 + s.1 2 + s.1 3 = sumP s := by unfold sumP; omega
  rw [e]
  exact ⟨fun q => absurd q (by decide), fun _ => ⟨by decide, fun q => absurd q (by decide), fun _ => ⟨by decide, fun q => absurd q (by decide), fun _ => ⟨by decide, fun q => absurd q (by decide), fun _ => ⟨by decide, fun _ => hQ, fun q => absurd q (by decide)⟩⟩⟩⟩⟩
theorem goTheir_w {D : Dat} {i r : MI} {Q : MI → Prop} (h : ClassP D i r) (ok : DOk D)
    (hQ : ∀ i' s, FP i i' → CPS i' D.dep s → okP D D.dep s → FinP D D.dep s → Q i') : wp_X5_goWithTheirDepths i r Q := by
  unfold wp_X5_goWithTheirDepths
  refine Lp.r2 (fun (x : Int) (m : MI) => 0 ≤ x ∧ x ≤ 4 ∧ FP i m ∧ ∀ k, 0 ≤ k → k < x → m 501 k = D.dep k) (fun x _ => (4 - x).toNat) ?_ ⟨by decide, by decide, FP.refl _, fun k a b => by omega⟩
  intro x m C ⟨h0, h1, h2, h3⟩ hC
  dsimp only [b2_X5_goWithTheirDepths]
  have hm := h.fp h2
  refine ⟨fun q => ?_, fun q => ⟨⟨h0, by omega⟩, ⟨h0, by omega⟩, ?_⟩⟩
  · exact go_w hm ok (fun c a b => ok.dep c a b) (fun c a b => h3 c a (by omega)) (fun i' s f c o fi => hQ i' s (h2.trans f) c o fi)
  · rw [wr_of (by omega) (by omega), hm.dep x h0 (by omega)]
    refine hC _ _ ⟨by omega, by omega, h2.trans (FP.st (by decide)), fun k a b => ?_⟩ (by omega)
    by_cases e : k = x
    · rw [e, st_eq]
    · rw [st_ne (by omega)]; exact h3 k a (by omega)
/-- after a call of the class over processes -/
def Cg (D : Dat) (c v : Int) (i i' r : MI) : Prop := (ClassP D i' r) ∧ (∀ a, a ≤ 500 → i' a = i a) ∧ (∀ a, 504 ≤ a → a ≠ 540 → i' a = i a) ∧ (c = 0 → i' 540 0 = jLo ((sJ v).toInt64) ∧ i' 540 1 = jHi ((sJ v).toInt64))
theorem Cg.p {D : Dat} {c v : Int} {i i' r : MI} (h0 : Cg D c v i i' r) : ClassP D i' r := h0.1
theorem Cg.k {D : Dat} {c v : Int} {i i' r : MI} (h0 : Cg D c v i i' r) : ∀ a, a ≤ 500 → i' a = i a := h0.2.1
theorem Cg.f {D : Dat} {c v : Int} {i i' r : MI} (h0 : Cg D c v i i' r) : ∀ a, 504 ≤ a → a ≠ 540 → i' a = i a := h0.2.2.1
theorem Cg.out {D : Dat} {c v : Int} {i i' r : MI} (h0 : Cg D c v i i' r) : c = 0 → i' 540 0 = jLo ((sJ v).toInt64) ∧ i' 540 1 = jHi ((sJ v).toInt64) := h0.2.2.2
theorem Cg.mk {D : Dat} {c v : Int} {i i' r : MI} (h0 : ClassP D i' r) (h1 : ∀ a, a ≤ 500 → i' a = i a) (h2 : ∀ a, 504 ≤ a → a ≠ 540 → i' a = i a) (h3 : c = 0 → i' 540 0 = jLo ((sJ v).toInt64) ∧ i' 540 1 = jHi ((sJ v).toInt64)) : Cg D c v i i' r := ⟨h0, h1, h2, h3⟩
theorem cp540 {D : Dat} {i r : MI} {k v : Int} (h : ClassP D i r) : ClassP D (st i 540 k v) r := by
  refine h.congr ?_ ?_ ?_ ?_ ?_ ?_ ?_ ?_ ?_ ?_ rfl rfl
  all_goals (intros; simp (disch := omega) only [st_row])
theorem Cg.of {D : Dat} {c v : Int} {i i1 r : MI} (h : ClassP D i r) (g : FP i i1) (hc : c ≠ 0) : Cg D c v i i1 r :=
  ⟨h.fp g, fun a _ => g _ (by omega), fun a _ _ => g _ (by omega), fun q => absurd q hc⟩
theorem Cg.ret {D : Dat} {v : Int} {i i1 r : MI} (h : ClassP D i r) (g : FP i i1) : Cg D 0 v i (st (st i1 540 0 (jLo ((sJ v).toInt64))) 540 1 (jHi ((sJ v).toInt64))) r := by
  refine ⟨cp540 (cp540 (h.fp g)), ?_, ?_, fun _ => ⟨?_, ?_⟩⟩
  · intro a _; simp (disch := omega) only [st_row]; exact g _ (by omega)
  · intro a _ _; simp (disch := omega) only [st_row]; exact g _ (by omega)
  · simp (disch := omega) only [st_ne, st_eq]
  · simp (disch := omega) only [st_eq]
theorem C_done {D : Dat} {i r : MI} {Q : Int → MI → Prop} (h : ClassP D i r) (ok : DOk D) (hQ : ∀ s i', FinP D D.dep s → Cg D 1 0 i i' r → Q (sumP s) i') : wp_X11_done i r Q := by
  unfold wp_X11_done
  exact goTheir_w h ok (fun i' s f c o fi => countDone_w ok c o (hQ s i' fi (Cg.of h f (by decide))))
theorem C_areLocked {D : Dat} {i r : MI} {Q : Int → MI → Prop} (h : ClassP D i r) (ok : DOk D) (hQ : ∀ s i' v, FinP D D.dep s → Cg D 1 0 i i' r → (left D s → v = 1) → (¬ left D s → v = 0) → Q v i') : wp_X11_areLocked i r Q := by
  unfold wp_X11_areLocked
  refine goTheir_w h ok (fun i' s f c o fi => isLeft_w (h.fp f) c (fun l => ⟨.inr rfl, ?_⟩) (fun l => ⟨.inl rfl, ?_⟩))
  · exact hQ s i' 1 fi (Cg.of h f (by decide)) (fun _ => rfl) (fun q => absurd l q)
  · exact hQ s i' 0 fi (Cg.of h f (by decide)) (fun q => absurd q l) (fun _ => rfl)
def waitV (D : Dat) (s : PSt) (p : Int) : Int := if s.1 p < D.ac p then D.ach p (s.1 p) else -1
def coProc (p : Int) : Int := if 0 ≤ p ∧ p ≤ 3 then 0 else 1
theorem L_waitsFor {D : Dat} {i r : MI} {p : Int} {Q : Int → MI → Prop} (h : ClassP D i r) (ok : DOk D) (hQ : ∀ s i', FinP D D.dep s ∨ coProc p = 1 → Cg D (coProc p) (waitV D s p) i i' r → Q (coProc p) i') : wp_L_waitsFor p i r Q := by
  simp only [wp_L_waitsFor, wp_X11_waitsFor, wp_X5_nextChannel, s29_X5_nextChannel, isWithin_eq]
  unfold coProc at hQ
  by_cases e : 0 ≤ p ∧ p ≤ 3
  · rw [bz, if_pos e]
    rw [if_pos e] at hQ
    refine ⟨fun q => absurd q (by decide), fun _ => ?_⟩
    refine goTheir_w h ok (fun i' s f c o fi => ?_)
    have hm := h.fp f
    rw [hm.ac p e.1 (by omega), c.a p e.1 (by omega)]
    have hQ := hQ s _ (.inl fi) (Cg.ret h f)
    unfold waitV at hQ
    have ha := o.a p e.1 (by omega)
    have hac := ok.ac p e.1 (by omega)
    refine ⟨by omega, by omega, fun q => ?_, fun q => ⟨by omega, by omega, ?_⟩⟩
    · rw [if_neg (by omega)] at hQ; exact hQ
    · rw [if_pos (by omega)] at hQ
      rw [hm.ach p _ e.1 (by omega) ha.1 (by omega)]
      exact hQ
  · rw [bz, if_neg e]
    rw [if_neg e] at hQ
    exact ⟨fun _ => ⟨trivial, hQ (fun _ => 0, fun _ => 0) _ (.inr rfl) (Cg.of h (FP.refl _) (by decide))⟩, fun q => absurd rfl q⟩
/-- the least depth, or that there is none -/
def LeastD (D : Dat) (d : Int) : Prop := (∀ k, 1 ≤ k → k < d → ∃ s, FinP D (fun _ => k) s ∧ left D s) ∧ 1 ≤ d ∧ d ≤ 17 ∧ (d ≤ 16 → ∃ s, FinP D (fun _ => d) s ∧ ¬ left D s)
theorem least_uniq {D : Dat} {d e : Int} (h : LeastD D d) (g : LeastD D e) : d = e := by
  obtain ⟨h1, h2, h3, h4⟩ := h
  obtain ⟨g1, g2, g3, g4⟩ := g
  rcases Int.lt_trichotomy d e with q | q | q
  · obtain ⟨s, a, b⟩ := h4 (by omega)
    obtain ⟨t, a', b'⟩ := g1 d h2 q
    rw [fin_uniq a a'] at b
    exact absurd b' b
  · exact q
  · obtain ⟨s, a, b⟩ := g4 (by omega)
    obtain ⟨t, a', b'⟩ := h1 e g2 q
    rw [fin_uniq a a'] at b
    exact absurd b' b
theorem L_leastDepth {D : Dat} {i r : MI} {Q : Int → MI → Prop} (h : ClassP D i r) (ok : DOk D) (hQ : ∀ d c i', LeastD D d → (d ≤ 16 → c = 0) → (d = 17 → c = 1) → Cg D c d i i' r → Q c i') : wp_L_leastDepth i r Q := by
  simp only [wp_L_leastDepth, wp_X11_leastDepth, wp_X5_findLeastDepth]
  refine Lp.r2 (fun (x : Int) (m : MI) => 1 ≤ x ∧ x ≤ 17 ∧ FP i m ∧ ∀ k, 1 ≤ k → k < x → ∃ s, FinP D (fun _ => k) s ∧ left D s) (fun x _ => (17 - x).toNat) ?_ ⟨by decide, by decide, FP.refl _, fun k a b => by omega⟩
  intro x m C ⟨h0, h1, h2, h3⟩ hC
  dsimp only [b2_X5_findLeastDepth]
  refine ⟨fun q => ⟨fun _ => ⟨trivial, ?_⟩, fun z => absurd rfl z⟩, fun q => ?_⟩
  · exact hQ x 1 m ⟨h3, by omega, by omega, fun w => by omega⟩ (fun w => by omega) (fun _ => rfl) (Cg.of h h2 (by decide))
  · refine Lp.r2 (fun (y : Int) (m : MI) => 0 ≤ y ∧ y ≤ 4 ∧ FP i m ∧ ∀ k, 0 ≤ k → k < y → m 501 k = x) (fun y _ => (4 - y).toNat) ?_ ⟨by decide, by decide, h2, fun k a b => by omega⟩
    intro y m C2 ⟨g0, g1, g2, g3⟩ hC2
    dsimp only [b10_X5_findLeastDepth]
    refine ⟨fun q2 => ?_, fun q2 => ⟨⟨g0, by omega⟩, ?_⟩⟩
    · refine go_w (lim := fun _ => x) (h.fp g2) ok (fun c a b => ⟨h0, by show x ≤ 16; omega⟩) (fun c a b => g3 c a (by omega)) (fun i' s f c o fi => ?_)
      refine isLeft_w (h.fp (g2.trans f)) c (fun l => ⟨fun z => absurd z (by decide), fun _ => ?_⟩) (fun l => ⟨fun _ => ⟨fun z => by omega, fun _ => ?_⟩, fun z => absurd rfl z⟩)
      · rw [wr_of (by omega) (by omega)]
        refine hC _ _ ⟨by omega, by omega, g2.trans f, fun k a b => ?_⟩ (by omega)
        by_cases e : k = x
        · rw [e]; exact ⟨s, fi, l⟩
        · exact h3 k a (by omega)
      · exact hQ x 0 _ ⟨h3, h0, h1, fun _ => ⟨s, fi, l⟩⟩ (fun _ => rfl) (fun w => by omega) (Cg.ret h (g2.trans f))
    · rw [wr_of (by omega) (by omega)]
      refine hC2 _ _ ⟨by omega, by omega, g2.trans (FP.st (by decide)), fun k a b => ?_⟩ (by omega)
      by_cases e : k = y
      · rw [e, st_eq]
      · rw [st_ne (by omega)]; exact g3 k a (by omega)
/-! the reference -/
def MPS (i : MI) (s : PSt) : Prop := (∀ p, 0 ≤ p → p < 4 → i 538 p = s.1 p) ∧ (∀ c, 0 ≤ c → c < 4 → i 539 c = s.2 c)
theorem MPS.a {i : MI} {s : PSt} (h0 : MPS i s) : ∀ p, 0 ≤ p → p < 4 → i 538 p = s.1 p := h0.1
theorem MPS.h {i : MI} {s : PSt} (h0 : MPS i s) : ∀ c, 0 ≤ c → c < 4 → i 539 c = s.2 c := h0.2
theorem MPS.mk {i : MI} {s : PSt} (h0 : ∀ p, 0 ≤ p → p < 4 → i 538 p = s.1 p) (h1 : ∀ c, 0 ≤ c → c < 4 → i 539 c = s.2 c) : MPS i s := ⟨h0, h1⟩
def FQ (i i' : MI) : Prop := ∀ a, (a < 538 ∨ 539 < a) → i' a = i a
theorem FQ.refl (i : MI) : FQ i i := fun _ _ => rfl
theorem FQ.trans {i j k : MI} (h : FQ i j) (g : FQ j k) : FQ i k := fun a q => (g a q).trans (h a q)
theorem FQ.st {a k v : Int} {i : MI} (h1 : 538 ≤ a ∧ a ≤ 539) : FQ i (st i a k v) := fun b q => st_row (by omega)
theorem ModelP.fq {D : Dat} {i i' : MI} (h : ModelP D i) (g : FQ i i') : ModelP D i' :=
  h.congr (fun c hc => by rw [g _ (by omega)]) (g _ (by omega)) (fun a x y => g _ (by omega)) (fun a x y => g _ (by omega))
def limA (D : Dat) (all : Int) : Int → Int := fun c => if all = 0 then D.dep c else all
theorem limA_ok {D : Dat} (ok : DOk D) {all : Int} (h : 0 ≤ all ∧ all ≤ 16) : limOk (limA D all) := by
  intro c a b
  unfold limA
  have := ok.dep c a b
  split <;> omega
theorem acts_w {D : Dat} {i r : MI} {all p : Int} {s : PSt} {Q : Int → MI → Prop} (h : ModelP D i) (ok : DOk D) (hall : 0 ≤ all ∧ all ≤ 16) (hp : 0 ≤ p ∧ p < 4) (cs : MPS i s) (os : okP D (limA D all) s)
    (h1 : canP D (limA D all) s p → ∀ i', FQ i i' → MPS i' (actP D s p) → Q 1 i') (h0 : ¬ canP D (limA D all) s p → Q 0 i) : wp_X12_acts p all i r Q := by
  have ha := os.a p hp.1 hp.2
  have hac := ok.ac p hp.1 hp.2
  unfold wp_X12_acts
  rw [h.ac p hp.1 hp.2, cs.a p hp.1 hp.2, wr_of (x := 16 * p) (by omega) (by omega), wr_of (x := 16 * p + s.1 p) (by omega) (by omega)]
  refine ⟨hp, hp, fun q => h0 (fun w => by have := w.1; omega), fun q => ?_⟩
  have hlt : s.1 p < D.ac p := by omega
  have hc := ch_r ok hp os hlt
  have gh := os.h _ hc.1 hc.2.1
  have gl := limA_ok ok hall _ hc.1 hc.2.1
  rw [h.act p _ hp.1 hp.2 ha.1 hlt]
  rw [show D.ach p (s.1 p) = chP D s p from rfl]
  have hdep := h.dep _ hc.1 hc.2.1
  have hheld := cs.h _ hc.1 hc.2.1
  have et : Int.tmod (2 * chP D s p + D.apt p (s.1 p)) 2 = D.apt p (s.1 p) := by
    rw [Int.tmod_eq_emod_of_nonneg (by omega)]; omega
  have ed : Int.tdiv (2 * chP D s p + D.apt p (s.1 p)) 2 = chP D s p := by
    rw [Int.tdiv_eq_ediv_of_nonneg (by omega)]; omega
  rw [et, ed, wr_of (x := chP D s p) (by omega) (by omega)]
  -- the end of an act
  have act : ∀ k3, k3 = 2 * D.apt p (s.1 p) - 1 → canP D (limA D all) s p → s131_X12_acts p 1 (chP D s p) (s.2 (chP D s p)) k3 i r Q := by
    intro k3 hk hcan
    have h1 := h1 hcan
    obtain ⟨c1, c2, c3⟩ := hcan
    unfold s131_X12_acts s143_X12_acts
    rw [st_row (a := 538) (by decide), cs.a p hp.1 hp.2, wr_of (x := s.1 p + 1) (by omega) (by omega), wr_of (x := s.2 _ + _) (by omega) (by omega)]
    refine ⟨⟨hc.1, hc.2.1⟩, hp, hp, .inr rfl, h1 _ ((FQ.st (by decide)).trans (FQ.st (by decide))) ⟨?_, ?_⟩⟩
    · intro q a b
      show _ = if q = p then s.1 p + 1 else s.1 q
      by_cases e : q = p
      · rw [e, st_eq, if_pos rfl]
      · rw [st_ne (by omega), st_row (by decide), if_neg e]; exact cs.a q a b
    · intro c a b
      show _ = if c = chP D s p then s.2 c + (2 * D.apt p (s.1 p) - 1) else s.2 c
      rw [st_row (by decide)]
      by_cases e : c = chP D s p
      · rw [e, st_eq, if_pos rfl, hk]
      · rw [st_ne (by omega), if_neg e]; exact cs.h c a b
  have no : ∀ x5, ¬ canP D (limA D all) s p → s106_X12_acts p (chP D s p) x5 0 i r Q := by
    intro x5 hn
    unfold s106_X12_acts s143_X12_acts
    exact ⟨fun _ => ⟨.inl rfl, h0 hn⟩, fun z => absurd rfl z⟩
  unfold s51_X12_acts s80_X12_acts
  rw [hheld, hdep]
  refine ⟨hp, by omega, fun e => ?_, fun e => ?_⟩
  · refine ⟨fun z => absurd z (by decide), fun _ => ⟨⟨hc.1, hc.2.1⟩, ?_⟩⟩
    have yes : ∀ k1, k1 = limA D all (chP D s p) → s.2 (chP D s p) < k1 → s106_X12_acts p (chP D s p) 1 1 i r Q := by
      intro k1 hk hlt2
      unfold s106_X12_acts
      rw [hheld]
      refine ⟨fun z => absurd z (by decide), fun _ => ⟨⟨hc.1, hc.2.1⟩, fun z => absurd z (by decide), fun _ => act 1 (by omega) ⟨hlt, fun _ => by omega, fun z => by omega⟩⟩⟩
    refine ⟨fun ea => ⟨⟨hc.1, hc.2.1⟩, ?_⟩, fun ea => ?_⟩
    · have el : D.dep (chP D s p) = limA D all (chP D s p) := by unfold limA; rw [if_pos ea]
      exact ⟨fun z => no 1 (fun w => by have := w.2.1 e; omega), fun z => yes _ el (by omega)⟩
    · have el : all = limA D all (chP D s p) := by unfold limA; rw [if_neg ea]
      exact ⟨fun z => no 1 (fun w => by have := w.2.1 e; omega), fun z => yes _ el (by omega)⟩
  · refine ⟨fun _ => ⟨⟨hc.1, hc.2.1⟩, ?_⟩, fun z => absurd rfl z⟩
    have e0 : D.apt p (s.1 p) = 0 := by omega
    refine ⟨fun z => no 0 (fun w => by have := w.2.2 e0; omega), fun z => ?_⟩
    unfold s106_X12_acts
    rw [hheld]
    exact ⟨fun z => absurd z (by decide), fun _ => ⟨⟨hc.1, hc.2.1⟩, fun _ => act (-1) (by omega) ⟨hlt, fun z => by omega, fun _ => by omega⟩, fun z => absurd rfl z⟩⟩
theorem goRound_w {D : Dat} {i r : MI} {all : Int} {Q : Int → MI → Prop} (h : ModelP D i) (ok : DOk D) (hall : 0 ≤ all ∧ all ≤ 16)
    (hQ : ∀ i' s v, FQ i i' → MPS i' s → okP D (limA D all) s → FinP D (limA D all) s → (left D s → v = 1) → (¬ left D s → v = 0) → Q v i') : wp_X12_goRound all i r Q := by
  unfold wp_X12_goRound
  refine Lp.r2 (fun (x : Int) (m : MI) => 0 ≤ x ∧ x ≤ 4 ∧ FQ i m ∧ (∀ k, 0 ≤ k → k < x → m 538 k = 0) ∧ ∀ k, 0 ≤ k → k < x → m 539 k = 0) (fun x _ => (4 - x).toNat) ?_ ⟨by decide, by decide, FQ.refl _, fun k a b => by omega, fun k a b => by omega⟩
  intro x m C ⟨h0, h1, h2, h3, h4⟩ hC
  dsimp only [b2_X12_goRound]
  have hlo := limA_ok ok hall
  refine ⟨fun q => ?_, fun q => ⟨⟨h0, by omega⟩, ⟨h0, by omega⟩, ?_⟩⟩
  · have s0 : MPS m (rndP D (limA D all) 0) := ⟨fun p a b => h3 p a (by omega), fun c a b => h4 c a (by omega)⟩
    have o0 : okP D (limA D all) (rndP D (limA D all) 0) := ⟨fun p a b => ⟨Int.le_refl 0, (ok.ac p a b).1⟩, fun c a b => ⟨Int.le_refl 0, by have := hlo c a b; show (0 : Int) ≤ limA D all c; omega⟩⟩
    refine Lp.r2 (fun (x2 : Int) (m : MI) => ∃ n, FQ i m ∧ MPS m (rndP D (limA D all) n) ∧ okP D (limA D all) (rndP D (limA D all) n) ∧ (x2 = 0 → FinP D (limA D all) (rndP D (limA D all) n))) (fun x2 m => if x2 = 0 then 0 else (65 - (m 538 0 + m 538 1 + m 538 2 + m 538 3)).toNat + 1) ?_ ⟨0, h2, s0, o0, fun q => absurd q (by decide)⟩
    intro x2 m C ⟨n, g2, g3, g4, g5⟩ hC
    dsimp only [b29_X12_goRound]
    have sumE : ∀ (m : MI) s, MPS m s → m 538 0 + m 538 1 + m 538 2 + m 538 3 = sumP s := by
      intro m s c
      rw [c.a 0 (by decide) (by decide), c.a 1 (by decide) (by decide), c.a 2 (by decide) (by decide), c.a 3 (by decide) (by decide)]
      rfl
    refine ⟨fun e => ?_, fun e => ?_⟩
    · refine Lp.r2 (fun (v k : Int) => 0 ≤ k ∧ k ≤ 4 ∧ (v = 0 ∨ v = 1) ∧ (v = 0 → ∀ p, 0 ≤ p → p < k → ¬ (rndP D (limA D all) n).1 p < D.ac p) ∧ (v = 1 → left D (rndP D (limA D all) n))) (fun _ k => (4 - k).toNat) ?_ ⟨by decide, by decide, .inl rfl, fun _ p a b => by omega, fun w => absurd w (by decide)⟩
      intro v k C2 ⟨k0, k1, k2, k3, k4⟩ hC2
      dsimp only [b70_X12_goRound, s97_X12_goRound, s102_X12_goRound]
      have hm := h.fq g2
      refine ⟨fun q2 => ⟨k2, hQ m _ v g2 g3 g4 (g5 e) (fun l => ?_) (fun l => ?_)⟩, fun q2 => ⟨fun z => ⟨⟨k0, by omega⟩, ⟨k0, by omega⟩, ?_⟩, fun z => ?_⟩⟩
      · rcases k2 with w | w
        · exact absurd l (left_no (fun p a b => k3 w p a (by omega)))
        · exact w
      · rcases k2 with w | w
        · exact w
        · exact absurd (k4 w) l
      · rw [hm.ac k k0 (by omega), g3.a k k0 (by omega), wr_of (by omega) (by omega)]
        refine ⟨fun z2 => hC2 _ _ ⟨by omega, by omega, .inl rfl, fun _ p a b => ?_, fun w => absurd w (by decide)⟩ (by omega), fun z2 => hC2 _ _ ⟨by omega, by omega, .inr rfl, fun w => absurd w (by decide), fun _ => left_of ⟨k0, by omega⟩ (by omega)⟩ (by omega)⟩
        by_cases ee : p = k
        · rw [ee]; omega
        · exact k3 z p a (by omega)
      · rw [wr_of (by omega) (by omega)]
        exact hC2 _ _ ⟨by omega, by omega, .inr rfl, fun w => absurd w (by decide), fun _ => k4 (by omega)⟩ (by omega)
    · have sl := sum_le ok g4
      rw [if_neg e, sumE m _ g3] at hC
      refine Lp.r3 (fun (y k : Int) (m : MI) => 0 ≤ k ∧ k ≤ 4 ∧ FQ i m ∧ MPS m (prP D (limA D all) (rndP D (limA D all) n) k.toNat) ∧ okP D (limA D all) (prP D (limA D all) (rndP D (limA D all) n) k.toNat) ∧ (y = 0 → prP D (limA D all) (rndP D (limA D all) n) k.toNat = rndP D (limA D all) n) ∧ (y ≠ 0 → sumP (rndP D (limA D all) n) < sumP (prP D (limA D all) (rndP D (limA D all) n) k.toNat))) (fun _ k _ => (4 - k).toNat) ?_ ⟨by decide, by decide, g2, g3, g4, fun _ => rfl, fun w => absurd rfl w⟩
      intro y k m C2 ⟨k0, k1, k2, k3, k4, k5, k6⟩ hC2
      dsimp only [b37_X12_goRound]
      refine ⟨fun q2 => ?_, fun q2 => ?_⟩
      · have e4 : k.toNat = 4 := by omega
        rw [e4] at k3 k4 k5 k6
        refine hC y m ⟨n + 1, k2, k3, k4, fun w => ?_⟩ ?_
        · have e5 := k5 w
          show FinP D (limA D all) (prP D (limA D all) (rndP D (limA D all) n) 4)
          rw [e5]
          exact ⟨n, rfl, e5⟩
        · rw [sumE m _ k3]
          by_cases w : y = 0
          · rw [if_pos w]; omega
          · rw [if_neg w]
            have := k6 w
            have := sum_le ok k4
            omega
      · have hp4 : k = 0 ∨ k = 1 ∨ k = 2 ∨ k = 3 := by omega
        have e7 : goP D (limA D all) k (prP D (limA D all) (rndP D (limA D all) n) k.toNat) = prP D (limA D all) (rndP D (limA D all) n) (k + 1).toNat := by
          rw [show (k + 1).toNat = k.toNat + 1 by omega]
          show _ = goP D (limA D all) (k.toNat : Int) _
          rw [show (k.toNat : Int) = k by omega]
        refine Lp.r2 (fun (y : Int) (m : MI) => ∃ s, FQ i m ∧ MPS m s ∧ okP D (limA D all) s ∧ goP D (limA D all) k s = prP D (limA D all) (rndP D (limA D all) n) (k + 1).toNat ∧ (y = 0 → s = rndP D (limA D all) n) ∧ (y ≠ 0 → sumP (rndP D (limA D all) n) < sumP s)) (fun _ m => (65 - (m 538 0 + m 538 1 + m 538 2 + m 538 3)).toNat) ?_ ⟨_, k2, k3, k4, e7, k5, k6⟩
        intro y m C3 ⟨s, j1, j2, j3, j4, j5, j6⟩ hC3
        dsimp only [b42_X12_goRound]
        rw [sumE m s j2] at hC3
        have sl2 := sum_le ok j3
        refine acts_w (h.fq j1) ok hall ⟨k0, by omega⟩ j2 j3 (fun can i' f c => ⟨fun z => absurd z (by decide), fun _ => ?_⟩) (fun can => ⟨fun _ => ?_, fun z => absurd rfl z⟩)
        · refine hC3 _ _ ⟨_, j1.trans f, c, act_ok ok ⟨k0, by omega⟩ j3 can, by rw [← goP_yes can]; exact j4, fun w => absurd w (by decide), fun _ => ?_⟩ ?_
          · rw [act_sum hp4]
            by_cases w : y = 0
            · rw [← j5 w]; omega
            · have := j6 w; omega
          · rw [sumE i' _ c, act_sum hp4]; omega
        · rw [goP_no can] at j4
          rw [wr_of (by omega) (by omega)]
          refine hC2 _ _ _ ⟨by omega, by omega, j1, by rw [← j4]; exact j2, by rw [← j4]; exact j3, by rw [← j4]; exact j5, by rw [← j4]; exact j6⟩ (by omega)
  · rw [wr_of (by omega) (by omega)]
    refine hC _ _ ⟨by omega, by omega, h2.trans ((FQ.st (by decide)).trans (FQ.st (by decide))), fun k a b => ?_, fun k a b => ?_⟩ (by omega)
    · rw [st_row (by decide)]
      by_cases e : k = x
      · rw [e, st_eq]
      · rw [st_ne (by omega)]; exact h3 k a (by omega)
    · by_cases e : k = x
      · rw [e, st_eq]
      · rw [st_ne (by omega), st_row (by decide)]; exact h4 k a (by omega)
