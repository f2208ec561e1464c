theorem limA_0 (D : Dat) : limA D 0 = D.dep := by funext c; unfold limA; rw [if_pos rfl]
theorem limA_k (D : Dat) {k : Int} (h : k ≠ 0) : limA D k = fun _ => k := by funext c; unfold limA; rw [if_neg h]
theorem FQ.fm {i i' : MI} (g : FQ i i') : Fm i i' := fun a ha => g a (by omega)
theorem M_done {D : Dat} {i r : MI} {Q : Int → MI → Prop} (h : ModelP D i) (ok : DOk D) (hQ : ∀ s i', FinP D D.dep s → Mq D 0 (sumP s) (sumP s) i i' → Q (sumP s) i') : wp_X12_done i r Q := by
  unfold wp_X12_done
  refine goRound_w (mp0 h) ok (by decide) (fun i' s v f c o fi l1 l0 => ?_)
  rw [limA_0] at o fi
  have a0 := o.a 0 (by decide) (by decide)
  have a1 := o.a 1 (by decide) (by decide)
  have a2 := o.a 2 (by decide) (by decide)
  have a3 := o.a 3 (by decide) (by decide)
  have b0 := ok.ac 0 (by decide) (by decide)
  have b1 := ok.ac 1 (by decide) (by decide)
  have b2 := ok.ac 2 (by decide) (by decide)
  have b3 := ok.ac 3 (by decide) (by decide)
  rw [c.a 0 (by decide) (by decide), c.a 1 (by decide) (by decide), c.a 2 (by decide) (by decide), c.a 3 (by decide) (by decide)]
  rw [wr_of (x := s.1 0 + s.1 1) (by omega) (by omega), wr_of (x := s.1 0 + s.1 1 + s.1 2) (by omega) (by omega), wr_of (by omega) (by omega)]
  exact hQ s i' fi ⟨(mp0 h).fq f, Fm.s4.trans f.fm, by rw [f _ (by omega)]; exact st_eq, fun _ => rfl⟩
theorem M_areLocked {D : Dat} {i r : MI} {Q : Int → MI → Prop} (h : ModelP D i) (ok : DOk D) (hQ : ∀ s i' v, FinP D D.dep s → Mq D 0 v v i i' → (left D s → v = 1) → (¬ left D s → v = 0) → Q v i') : wp_X12_areLocked i r Q := by
  unfold wp_X12_areLocked
  refine goRound_w (mp0 h) ok (by decide) (fun i' s v f c o fi l1 l0 => ?_)
  rw [limA_0] at o fi
  refine ⟨?_, hQ s i' v fi ⟨(mp0 h).fq f, Fm.s4.trans f.fm, by rw [f _ (by omega)]; exact st_eq, fun _ => rfl⟩ l1 l0⟩
  by_cases l : left D s
  · exact .inr (l1 l)
  · exact .inl (l0 l)
theorem M_waitsFor {D : Dat} {i r : MI} {p : Int} {Q : Int → MI → Prop} (h : ModelP D i) (ok : DOk D) (hQ : ∀ s w i', FinP D D.dep s ∨ coProc p = 1 → Mq D (coProc p) (waitV D s p) w i i' → Q w i') : wp_X12_waitsFor p i r Q := by
  unfold wp_X12_waitsFor s20_X12_waitsFor s72_X12_waitsFor
  unfold coProc at hQ
  rw [in_eq]
  have z0 : ∀ v, st i 504 0 v 504 0 = v := fun v => st_eq
  by_cases e : 0 ≤ p ∧ p ≤ 3
  · rw [if_pos e] at hQ
    rw [bz, if_pos e]
    refine ⟨fun q => absurd q (by decide), fun _ => ?_⟩
    rw [fails_eq (by decide), if_pos (.inl rfl), bz, if_neg (by rw [z0]; omega)]
    refine ⟨fun _ => ?_, fun q => absurd rfl q⟩
    refine goRound_w (mp0 h) ok (by decide) (fun i' s v f c o fi l1 l0 => ?_)
    rw [limA_0] at o fi
    have hm := (mp0 h).fq f
    have ha := o.a p e.1 (by omega)
    have hac := ok.ac p e.1 (by omega)
    rw [hm.ac p e.1 (by omega), c.a p e.1 (by omega), wr_of (x := 16 * p) (by omega) (by omega), wr_of (x := 16 * p + s.1 p) (by omega) (by omega)]
    have hM : ∀ w, w = waitV D s p → Mq D 0 (waitV D s p) w i i' := fun w hw => ⟨hm, Fm.s4.trans f.fm, by rw [f _ (by omega)]; exact st_eq, fun _ => hw⟩
    refine ⟨by omega, by omega, fun q => ?_, fun q => ⟨by omega, by omega, ?_⟩⟩
    · refine hQ s _ i' (.inl fi) (hM _ ?_)
      unfold waitV
      rw [if_neg (by omega)]
    · have hlt : s.1 p < D.ac p := by omega
      have hc := ch_r ok ⟨e.1, by omega⟩ o hlt
      rw [hm.act p _ e.1 (by omega) ha.1 hlt]
      rw [show D.ach p (s.1 p) = chP D s p from rfl]
      have ed : Int.tdiv (2 * chP D s p + D.apt p (s.1 p)) 2 = chP D s p := by
        rw [Int.tdiv_eq_ediv_of_nonneg (by omega)]; omega
      rw [ed, wr_of (by omega) (by omega)]
      refine hQ s _ i' (.inl fi) (hM _ ?_)
      unfold waitV
      rw [if_pos hlt]
      rfl
  · rw [if_neg e] at hQ
    rw [bz, if_neg e]
    refine ⟨fun _ => ?_, fun q => absurd rfl q⟩
    rw [fails_eq (by decide), if_neg (by rw [z0]; omega)]
    exact ⟨fun q => absurd q (by decide), fun _ => hQ (fun _ => 0, fun _ => 0) _ _ (.inr rfl) ⟨mp0 (mp0 h), Fm.s4.trans Fm.s4, st_eq, fun q => absurd q (by decide)⟩⟩
theorem M_leastDepth {D : Dat} {i r : MI} {Q : Int → MI → Prop} (h : ModelP D i) (ok : DOk D) (hQ : ∀ d c w i', LeastD D d → (d ≤ 16 → c = 0) → (d = 17 → c = 1) → Mq D c d w i i' → Q w i') : wp_X12_leastDepth i r Q := by
  unfold wp_X12_leastDepth
  refine Lp.r2 (fun (x : Int) (m : MI) => 1 ≤ x ∧ x ≤ 17 ∧ FQ (st i 504 0 0) m ∧ ∀ k, 1 ≤ k → k < x → ∃ s, FinP D (fun _ => k) s ∧ left D s) (fun x _ => (17 - x).toNat) ?_ ⟨by decide, by decide, FQ.refl _, fun k a b => by omega⟩
  intro x m C ⟨h0, h1, h2, h3⟩ hC
  dsimp only [b7_X12_leastDepth]
  have hm := (mp0 h).fq h2
  refine ⟨fun q => ?_, fun q => ?_⟩
  · exact hQ x 1 0 _ ⟨h3, by omega, by omega, fun w => by omega⟩ (fun w => by omega) (fun _ => rfl) ⟨mp0 hm, (Fm.s4.trans h2.fm).trans Fm.s4, st_eq, fun w => absurd w (by decide)⟩
  · refine goRound_w hm ok ⟨by omega, by omega⟩ (fun i' s v f c o fi l1 l0 => ?_)
    rw [limA_k D (by omega)] at o fi
    refine ⟨fun z => ?_, fun z => ?_⟩
    · have nl : ¬ left D s := fun l => by have := l1 l; omega
      exact hQ x 0 x i' ⟨h3, h0, h1, fun _ => ⟨s, fi, nl⟩⟩ (fun _ => rfl) (fun w => by omega) ⟨hm.fq f, (Fm.s4.trans h2.fm).trans f.fm, by rw [f _ (by omega), h2 _ (by omega)]; exact st_eq, fun _ => rfl⟩
    · have l : left D s := Classical.byContradiction (fun w => z (l0 w))
      rw [wr_of (by omega) (by omega)]
      refine hC _ _ ⟨by omega, by omega, h2.trans f, fun k a b => ?_⟩ (by omega)
      by_cases e : k = x
      · rw [e]; exact ⟨s, fi, l⟩
      · exact h3 k a (by omega)
