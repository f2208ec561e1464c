/-! ===== processes ===== -/
abbrev PSt : Type := (Int → Int) × (Int → Int)
def chP (D : Dat) (s : PSt) (p : Int) : Int := D.ach p (s.1 p)
abbrev canP (D : Dat) (lim : Int → Int) (s : PSt) (p : Int) : Prop := s.1 p < D.ac p ∧ (D.apt p (s.1 p) = 1 → s.2 (chP D s p) < lim (chP D s p)) ∧ (D.apt p (s.1 p) = 0 → 0 < s.2 (chP D s p))
def actP (D : Dat) (s : PSt) (p : Int) : PSt := (fun q => if q = p then s.1 p + 1 else s.1 q, fun c => if c = chP D s p then s.2 c + (2 * D.apt p (s.1 p) - 1) else s.2 c)

def goF (D : Dat) (lim : Int → Int) (p : Int) : Nat → PSt → PSt
  | 0, s => s
  | n + 1, s => if canP D lim s p then goF D lim p n (actP D s p) else s
def goP (D : Dat) (lim : Int → Int) (p : Int) (s : PSt) : PSt := goF D lim p (D.ac p - s.1 p).toNat s
theorem goP_yes {D : Dat} {lim : Int → Int} {p : Int} {s : PSt} (h : canP D lim s p) : goP D lim p s = goP D lim p (actP D s p) := by
  unfold goP
  have h1 := h.1
  have e1 : (actP D s p).1 p = s.1 p + 1 := by unfold actP; simp
  obtain ⟨n, hn⟩ : ∃ n, (D.ac p - s.1 p).toNat = n + 1 := ⟨(D.ac p - s.1 p).toNat - 1, by omega⟩
  rw [e1, hn, show (D.ac p - (s.1 p + 1)).toNat = n by omega]
  show (if canP D lim s p then _ else _) = _
  rw [if_pos h]
theorem goP_no {D : Dat} {lim : Int → Int} {p : Int} {s : PSt} (h : ¬ canP D lim s p) : goP D lim p s = s := by
  unfold goP
  cases (D.ac p - s.1 p).toNat with
  | zero => rfl
  | succ n =>
    show (if canP D lim s p then _ else _) = _
    rw [if_neg h]
def okP (D : Dat) (lim : Int → Int) (s : PSt) : Prop := (∀ p, 0 ≤ p → p < 4 → 0 ≤ s.1 p ∧ s.1 p ≤ D.ac p) ∧ (∀ c, 0 ≤ c → c < 4 → 0 ≤ s.2 c ∧ s.2 c ≤ lim c)
theorem okP.a {D : Dat} {lim : Int → Int} {s : PSt} (h0 : okP D lim s) : ∀ p, 0 ≤ p → p < 4 → 0 ≤ s.1 p ∧ s.1 p ≤ D.ac p := h0.1
theorem okP.h {D : Dat} {lim : Int → Int} {s : PSt} (h0 : okP D lim s) : ∀ c, 0 ≤ c → c < 4 → 0 ≤ s.2 c ∧ s.2 c ≤ lim c := h0.2
theorem okP.mk {D : Dat} {lim : Int → Int} {s : PSt} (h0 : ∀ p, 0 ≤ p → p < 4 → 0 ≤ s.1 p ∧ s.1 p ≤ D.ac p) (h1 : ∀ c, 0 ≤ c → c < 4 → 0 ≤ s.2 c ∧ s.2 c ≤ lim c) : okP D lim s := ⟨h0, h1⟩
def limOk (lim : Int → Int) : Prop := ∀ c, 0 ≤ c → c < 4 → 1 ≤ lim c ∧ lim c ≤ 16
theorem ch_r {D : Dat} (ok : DOk D) {lim : Int → Int} {s : PSt} {p : Int} (hp : 0 ≤ p ∧ p < 4) (hs : okP D lim s) (h : s.1 p < D.ac p) : 0 ≤ chP D s p ∧ chP D s p < 4 ∧ (D.apt p (s.1 p) = 0 ∨ D.apt p (s.1 p) = 1) := by
  have ha := (hs.a p hp.1 hp.2).1
  have h1 := ok.ach p _ hp.1 hp.2 ha h
  exact ⟨h1.1, h1.2, ok.apt p _ hp.1 hp.2 ha h⟩
theorem act_ok {D : Dat} (ok : DOk D) {lim : Int → Int} {s : PSt} {p : Int} (hp : 0 ≤ p ∧ p < 4) (hs : okP D lim s) (h : canP D lim s p) : okP D lim (actP D s p) := by
  obtain ⟨h1, h2, h3⟩ := h
  have hc := ch_r ok hp hs h1
  refine ⟨fun q a b => ?_, fun c a b => ?_⟩
  · have e : (actP D s p).1 q = if q = p then s.1 p + 1 else s.1 q := rfl
    rw [e]
    have g1 := hs.a q a b
    have g2 := hs.a p hp.1 hp.2
    by_cases e : q = p
    · subst e; rw [if_pos rfl]; omega
    · rw [if_neg e]; omega
  · have e : (actP D s p).2 c = if c = chP D s p then s.2 c + (2 * D.apt p (s.1 p) - 1) else s.2 c := rfl
    rw [e]
    have g := hs.h c a b
    by_cases e : c = chP D s p
    · have g := hs.h _ hc.1 hc.2.1
      rw [if_pos e, e]
      rcases hc.2.2 with q | q
      · have := h3 q; rw [q]; omega
      · have := h2 q; rw [q]; omega
    · rw [if_neg e]; omega
def sumP (s : PSt) : Int := s.1 0 + s.1 1 + s.1 2 + s.1 3
theorem act_sum {D : Dat} {s : PSt} {p : Int} (hp : p = 0 ∨ p = 1 ∨ p = 2 ∨ p = 3) : sumP (actP D s p) = sumP s + 1 := by
  unfold sumP actP
  rcases hp with rfl | rfl | rfl | rfl <;> simp <;> omega
theorem sum_le {D : Dat} (ok : DOk D) {lim : Int → Int} {s : PSt} (hs : okP D lim s) : 0 ≤ sumP s ∧ sumP s ≤ 64 := by
  have a0 := hs.a 0 (by decide) (by decide)
  have a1 := hs.a 1 (by decide) (by decide)
  have a2 := hs.a 2 (by decide) (by decide)
  have a3 := hs.a 3 (by decide) (by decide)
  have b0 := ok.ac 0 (by decide) (by decide)
  have b1 := ok.ac 1 (by decide) (by decide)
  have b2 := ok.ac 2 (by decide) (by decide)
  have b3 := ok.ac 3 (by decide) (by decide)
  unfold sumP
  omega
def prP (D : Dat) (lim : Int → Int) (s : PSt) : Nat → PSt
  | 0 => s
  | k + 1 => goP D lim k (prP D lim s k)
def rndP (D : Dat) (lim : Int → Int) : Nat → PSt
  | 0 => (fun _ => 0, fun _ => 0)
  | n + 1 => prP D lim (rndP D lim n) 4
/-- the end of the processes' rounds -/
def FinP (D : Dat) (lim : Int → Int) (s : PSt) : Prop := ∃ n, s = rndP D lim n ∧ prP D lim s 4 = s
theorem fin_uniq {D : Dat} {lim : Int → Int} {s t : PSt} (h : FinP D lim s) (g : FinP D lim t) : s = t := by
  have key : ∀ n k, prP D lim (rndP D lim n) 4 = rndP D lim n → rndP D lim (n + k) = rndP D lim n := by
    intro n k hn
    induction k with
    | zero => rfl
    | succ k ih => show prP D lim (rndP D lim (n + k)) 4 = _; rw [ih, hn]
  obtain ⟨n, h1, h2⟩ := h
  obtain ⟨m, g1, g2⟩ := g
  rw [h1] at h2
  rw [g1] at g2
  rw [h1, g1]
  rcases Nat.le_total n m with q | q
  · have := key n (m - n) h2
    rw [show n + (m - n) = m by omega] at this
    exact this.symm
  · have := key m (n - m) g2
    rw [show m + (n - m) = n by omega] at this
    exact this
/-! the class -/
def CPS (i : MI) (lim : Int → Int) (s : PSt) : Prop := (∀ p, 0 ≤ p → p < 4 → i 503 p = s.1 p) ∧ (∀ c, 0 ≤ c → c < 4 → i 502 c = s.2 c) ∧ (∀ c, 0 ≤ c → c < 4 → i 501 c = lim c)
theorem CPS.a {i : MI} {lim : Int → Int} {s : PSt} (h0 : CPS i lim s) : ∀ p, 0 ≤ p → p < 4 → i 503 p = s.1 p := h0.1
theorem CPS.h {i : MI} {lim : Int → Int} {s : PSt} (h0 : CPS i lim s) : ∀ c, 0 ≤ c → c < 4 → i 502 c = s.2 c := h0.2.1
theorem CPS.l {i : MI} {lim : Int → Int} {s : PSt} (h0 : CPS i lim s) : ∀ c, 0 ≤ c → c < 4 → i 501 c = lim c := h0.2.2
theorem CPS.mk {i : MI} {lim : Int → Int} {s : PSt} (h0 : ∀ p, 0 ≤ p → p < 4 → i 503 p = s.1 p) (h1 : ∀ c, 0 ≤ c → c < 4 → i 502 c = s.2 c) (h2 : ∀ c, 0 ≤ c → c < 4 → i 501 c = lim c) : CPS i lim s := ⟨h0, h1, h2⟩
def FP (i i' : MI) : Prop := ∀ a, (a < 501 ∨ 503 < a) → i' a = i a
theorem FP.refl (i : MI) : FP i i := fun _ _ => rfl
theorem FP.trans {i j k : MI} (h : FP i j) (g : FP j k) : FP i k := fun a q => (g a q).trans (h a q)
theorem FP.st {a k v : Int} {i : MI} (h1 : 501 ≤ a ∧ a ≤ 503) : FP i (st i a k v) := fun b q => st_row (by omega)
theorem ClassP.fp {D : Dat} {i i' r : MI} (h : ClassP D i r) (g : FP i i') : ClassP D i' r := by
  refine h.congr ?_ (g _ (by omega)) (fun c _ => ?_) (g _ (by omega)) (fun a x y => g _ (by omega)) (fun a x y z => g _ (by omega)) (g _ (by omega)) (g _ (by omega)) (fun a x y => g _ (by omega)) (fun a x y => g _ (by omega)) rfl rfl
  · rw [g _ (by omega)]
  · rw [g _ (by omega)]
theorem goOn_w {D : Dat} {i r : MI} {lim : Int → Int} {p : Int} {s : PSt} {Q : MI → Prop} (h : ClassP D i r) (ok : DOk D) (hl : limOk lim) (hp : 0 ≤ p ∧ p < 4) (hs : CPS i lim s) (hso : okP D lim s)
    (hQ : ∀ i', FP i i' → CPS i' lim (goP D lim p s) → okP D lim (goP D lim p s) → sumP s ≤ sumP (goP D lim p s) → (i' 503 p ≤ i 503 p → goP D lim p s = s) → (¬ i' 503 p ≤ i 503 p → sumP s < sumP (goP D lim p s)) → Q i') : wp_X5_goOn p i r Q := by
  have hp4 : p = 0 ∨ p = 1 ∨ p = 2 ∨ p = 3 := by omega
  unfold wp_X5_goOn
  refine ⟨hp, ?_⟩
  have hac := ok.ac p hp.1 hp.2
  refine Lp.r2 (fun x m => ∃ s', FP i m ∧ CPS m lim s' ∧ okP D lim s' ∧ x = s'.1 p ∧ goP D lim p s = goP D lim p s' ∧ s.1 p ≤ x ∧ sumP s ≤ sumP s' ∧ (x = s.1 p → s' = s) ∧ (x ≠ s.1 p → sumP s < sumP s')) (fun x _ => (16 - x).toNat) ?_ ⟨s, FP.refl _, hs, hso, hs.a p hp.1 hp.2, rfl, by rw [hs.a p hp.1 hp.2]; omega, by omega, fun _ => rfl, fun q => absurd (hs.a p hp.1 hp.2) q⟩
  intro x m C ⟨s', f, cs, os, hx, hg, hle, hsum, hst, hmv⟩ hC
  dsimp only [b7_X5_goOn]
  have hm := h.fp f
  have ha := os.a p hp.1 hp.2
  have fin : ¬ canP D lim s' p → Q m := by
    intro hn
    rw [goP_no hn] at hg
    refine hQ m f (by rw [hg]; exact cs) (by rw [hg]; exact os) (by rw [hg]; exact hsum) ?_ ?_
    · rw [cs.a p hp.1 hp.2, hs.a p hp.1 hp.2, hg]
      intro q
      exact hst (by omega)
    · rw [cs.a p hp.1 hp.2, hs.a p hp.1 hp.2, hg]
      intro q
      exact hmv (by omega)
  rw [hm.ac p hp.1 hp.2]
  refine ⟨hp, fun q => fin (fun w => by have := w.1; omega), fun q => ⟨hp, by omega, ?_⟩⟩
  have h1 : s'.1 p < D.ac p := by omega
  have hc := ch_r ok hp os h1
  rw [hx, hm.ach p _ hp.1 hp.2 ha.1 h1, hm.apt p _ hp.1 hp.2 ha.1 h1]
  show (0 ≤ chP D s' p ∧ chP D s' p < 4) ∧ _
  rw [show D.ach p (s'.1 p) = chP D s' p from rfl, cs.h _ hc.1 hc.2.1, cs.l _ hc.1 hc.2.1]
  have gh := os.h _ hc.1 hc.2.1
  have gl := hl _ hc.1 hc.2.1
  rw [wr_of (x := s'.2 (chP D s' p) + _) (by omega) (by omega), wr_of (x := s'.1 p + 1) (by omega) (by omega)]
  unfold s59_X5_goOn
  refine ⟨by omega, hp, by omega, fun q2 => fin (fun w => ?_), fun q2 => ⟨by omega, fun q3 => ⟨by omega, hp, ?_⟩, fun q3 => fin (fun w => ?_)⟩⟩
  · rcases hc.2.2 with e | e
    · have := w.2.2 e; omega
    · omega
  · have hcan : canP D lim s' p := ⟨h1, fun e => by omega, fun e => by omega⟩
    refine hC _ _ ⟨actP D s' p, f.trans ((FP.st (by decide)).trans (FP.st (by decide))), ⟨?_, ?_, ?_⟩, act_ok ok hp os hcan, ?_, ?_, by omega, ?_, ?_, ?_⟩ (by omega)
    · intro q a b
      show _ = if q = p then s'.1 p + 1 else s'.1 q
      by_cases e : q = p
      · rw [e, st_eq, if_pos rfl]
      · rw [st_ne (by omega), st_row (by decide), if_neg e]; exact cs.a q a b
    · intro c a b
      show _ = if c = chP D s' p then s'.2 c + (2 * D.apt p (s'.1 p) - 1) else s'.2 c
      rw [st_row (by decide)]
      by_cases e : c = chP D s' p
      · rw [e, st_eq, if_pos rfl]
      · rw [st_ne (by omega), if_neg e]; exact cs.h c a b
    · intro c a b
      rw [st_row (by decide), st_row (by decide)]; exact cs.l c a b
    · show _ = if p = p then s'.1 p + 1 else s'.1 p
      rw [if_pos rfl]
    · rw [hg, goP_yes hcan]
    · rw [act_sum hp4]; omega
    · intro q; omega
    · intro q; rw [act_sum hp4]; omega
  · rcases hc.2.2 with e | e
    · omega
    · have := w.2.1 e; omega
theorem go_w {D : Dat} {i r : MI} {lim : Int → Int} {Q : MI → Prop} (h : ClassP D i r) (ok : DOk D) (hl : limOk lim) (hlim : ∀ c, 0 ≤ c → c < 4 → i 501 c = lim c)
    (hQ : ∀ i' s, FP i i' → CPS i' lim s → okP D lim s → FinP D lim s → Q i') : wp_X5_go i r Q := by
  unfold wp_X5_go
  refine Lp.r2 (fun x m => 0 ≤ x ∧ x ≤ 4 ∧ FP i m ∧ m 501 = i 501 ∧ ∀ k, 0 ≤ k → k < x → m 502 k = 0) (fun x _ => (4 - x).toNat) ?_ ⟨by decide, by decide, FP.refl _, rfl, fun k a b => by omega⟩
  intro x m C ⟨h0, h1, h2, h3, h4⟩ hC
  dsimp only [b2_X5_go]
  refine ⟨fun q => ?_, fun q => ⟨⟨h0, by omega⟩, ?_⟩⟩
  · refine Lp.r2 (fun x m => 0 ≤ x ∧ x ≤ 4 ∧ FP i m ∧ m 501 = i 501 ∧ (∀ k, 0 ≤ k → k < 4 → m 502 k = 0) ∧ ∀ k, 0 ≤ k → k < x → m 503 k = 0) (fun x _ => (4 - x).toNat) ?_ ⟨by decide, by decide, h2, h3, fun k a b => h4 k a (by omega), fun k a b => by omega⟩
    intro x m C ⟨h0, h1, h2, h3, h4, h5⟩ hC
    dsimp only [b22_X5_go]
    refine ⟨fun q => ?_, fun q => ⟨⟨h0, by omega⟩, ?_⟩⟩
    · have s0 : CPS m lim (rndP D lim 0) := ⟨fun p a b => h5 p a (by omega), fun c a b => h4 c a b, fun c a b => by rw [h3]; exact hlim c a b⟩
      have o0 : okP D lim (rndP D lim 0) := ⟨fun p a b => ⟨Int.le_refl 0, (ok.ac p a b).1⟩, fun c a b => ⟨Int.le_refl 0, by have := hl c a b; show (0 : Int) ≤ lim c; omega⟩⟩
      refine Lp.r3 (fun (x1 x2 : Int) (m : MI) => 0 ≤ x2 ∧ x2 ≤ 65 ∧ FP i m ∧ CPS m lim (rndP D lim x2.toNat) ∧ okP D lim (rndP D lim x2.toNat) ∧ (x1 = 0 → FinP D lim (rndP D lim x2.toNat)) ∧ (x1 ≠ 0 → x2 ≤ sumP (rndP D lim x2.toNat))) (fun _ x2 _ => (65 - x2).toNat) ?_ ⟨by decide, by decide, h2, s0, o0, fun q => absurd q (by decide), fun _ => (sum_le ok o0).1⟩
      intro x1 x2 m C ⟨g0, g1, g2, g3, g4, g5, g6⟩ hC
      dsimp only [b44_X5_go, s109_X5_go]
      have hsl := sum_le ok g4
      refine ⟨fun q => hQ m _ g2 g3 g4 ?_, fun q => ⟨fun q2 => hQ m _ g2 g3 g4 (g5 q2), fun q2 => ?_⟩⟩
      · by_cases e : x1 = 0
        · exact g5 e
        · have := g6 e; omega
      · refine Lp.r3 (fun (y1 y3 : Int) (m : MI) => 0 ≤ y3 ∧ y3 ≤ 4 ∧ FP i m ∧ CPS m lim (prP D lim (rndP D lim x2.toNat) y3.toNat) ∧ okP D lim (prP D lim (rndP D lim x2.toNat) y3.toNat) ∧ (y1 = 0 → prP D lim (rndP D lim x2.toNat) y3.toNat = rndP D lim x2.toNat) ∧ (y1 ≠ 0 → sumP (rndP D lim x2.toNat) < sumP (prP D lim (rndP D lim x2.toNat) y3.toNat))) (fun _ y3 _ => (4 - y3).toNat) ?_ ⟨by decide, by decide, g2, g3, g4, fun _ => rfl, fun q => absurd rfl q⟩
        intro y1 y3 m C2 ⟨k0, k1, k2, k3, k4, k5, k6⟩ hC2
        dsimp only [b58_X5_go, s91_X5_go, s96_X5_go]
        refine ⟨fun q3 => ?_, fun q3 => ⟨⟨k0, by omega⟩, ?_⟩⟩
        · have e4 : y3.toNat = 4 := by omega
          rw [e4] at k3 k4 k5 k6
          have e5 : (x2 + 1).toNat = x2.toNat + 1 := by omega
          have e6 : rndP D lim (x2.toNat + 1) = prP D lim (rndP D lim x2.toNat) 4 := rfl
          rw [wr_of (by omega) (by omega)]
          refine hC _ _ _ ⟨by omega, by omega, k2, by rw [e5, e6]; exact k3, by rw [e5, e6]; exact k4, fun z => ?_, fun z => ?_⟩ (by omega)
          · rw [e5, e6, k5 z]
            exact ⟨x2.toNat, rfl, k5 z⟩
          · rw [e5, e6]
            have := k6 z
            have := g6 (by omega)
            omega
        · have hm := h.fp k2
          refine goOn_w hm ok hl ⟨k0, by omega⟩ k3 k4 (fun i' f c o le st1 mv => ?_)
          have e7 : goP D lim y3 (prP D lim (rndP D lim x2.toNat) y3.toNat) = prP D lim (rndP D lim x2.toNat) (y3 + 1).toNat := by
            rw [show (y3 + 1).toNat = y3.toNat + 1 by omega]
            show _ = goP D lim (y3.toNat : Int) _
            rw [show (y3.toNat : Int) = y3 by omega]
          rw [e7] at c o le st1 mv
          rw [wr_of (x := y3 + 1) (by omega) (by omega)]
          refine ⟨fun z => ⟨⟨k0, by omega⟩, fun z2 => ?_, fun z2 => ?_⟩, fun z => ?_⟩
          · refine hC2 _ _ _ ⟨by omega, by omega, k2.trans f, c, o, fun _ => ?_, fun w => absurd rfl w⟩ (by omega)
            rw [st1 z2]; exact k5 z
          · refine hC2 _ _ _ ⟨by omega, by omega, k2.trans f, c, o, fun w => absurd w (by decide), fun _ => ?_⟩ (by omega)
            have := mv z2
            rw [k5 z] at this
            exact this
          · refine hC2 _ _ _ ⟨by omega, by omega, k2.trans f, c, o, fun w => absurd w (by decide), fun _ => ?_⟩ (by omega)
            have := k6 z
            omega
    · rw [wr_of (by omega) (by omega)]
      refine hC _ _ ⟨by omega, by omega, h2.trans (FP.st (by decide)), by rw [st_row (by decide)]; exact h3, fun k a b => by rw [st_row (by decide)]; exact h4 k a b, fun k a b => ?_⟩ (by omega)
      by_cases e : k = x
      · rw [e, st_eq]
      · rw [st_ne (by omega)]; exact h5 k a (by omega)
  · rw [wr_of (by omega) (by omega)]
    refine hC _ _ ⟨by omega, by omega, h2.trans (FP.st (by decide)), by rw [st_row (by decide)]; exact h3, fun k a b => ?_⟩ (by omega)
    by_cases e : k = x
    · rw [e, st_eq]
    · rw [st_ne (by omega)]; exact h4 k a (by omega)
