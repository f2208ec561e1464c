/-! ===== processes ===== -/
theorem goTo_w {D : Dat} {i r : MI} {lim : Int → Int} {Q : MI → Prop} (h : ClassP D i r) (ok : DOk D) (hl : limOk lim) (e : ∀ c, 0 ≤ c → c < 4 → D.dep c = lim c) (hQ : ∀ i' s, FP i i' → CPS i' lim s → okP D lim s → FinP D lim s → Q i') : wp_X5_goWithTheirDepths i r Q := by
  unfold wp_X5_goWithTheirDepths
  refine Lp.r2 (fun (x : Int) (m : MI) => 0 ≤ x ∧ x ≤ 4 ∧ FP i m ∧ ∀ k, 0 ≤ k → k < x → m 501 k = D.dep k) (fun x _ => (4 - x).toNat) ?_ ⟨by decide, by decide, FP.refl _, fun k a b => by omega⟩
  intro x m C ⟨h0, h1, h2, h3⟩ hC
  dsimp only [b2_X5_goWithTheirDepths]
  have hm := h.fp h2
  refine ⟨fun q => ?_, fun q => ⟨⟨h0, by omega⟩, ⟨h0, by omega⟩, ?_⟩⟩
  · exact go_w hm ok hl (fun c a b => by rw [h3 c a (by omega)]; exact e c a b) (fun i' s f c o fi => hQ i' s (h2.trans f) c o fi)
  · rw [wr_of (by omega) (by omega), hm.dep x h0 (by omega)]
    refine hC _ _ ⟨by omega, by omega, h2.trans (FP.st (by decide)), fun k a b => ?_⟩ (by omega)
    by_cases e : k = x
    · rw [e, st_eq]
    · rw [st_ne (by omega)]; exact h3 k a (by omega)
theorem K_done {D : Dat} {i r : MI} {lim : Int → Int} {Q : Int → MI → Prop} (I : JI D i r) (hl : limOk lim) (e : ∀ c, 0 ≤ c → c < 4 → D.dep c = lim c) (hQ : ∀ s i', FinP D lim s → okP D lim s → JI D i' r → Q (sumP s) i') : wp_X11_done i r Q := by
  unfold wp_X11_done
  refine goTo_w I.2.1 I.1 hl e (fun i' s f c o fi => ?_)
  exact countDone_w I.1 c o (hQ s _ fi o (I.cg f))
theorem K_locked {D : Dat} {i r : MI} {lim : Int → Int} {Q : Int → MI → Prop} (I : JI D i r) (hl : limOk lim) (e : ∀ c, 0 ≤ c → c < 4 → D.dep c = lim c) (hQ : ∀ s i' v, FinP D lim s → JI D i' r → (left D s → v = 1) → (¬ left D s → v = 0) → Q v i') : wp_X11_areLocked i r Q := by
  unfold wp_X11_areLocked
  refine goTo_w I.2.1 I.1 hl e (fun i' s f c o fi => ?_)
  exact isLeft_w (I.2.1.fp f) c (fun l => ⟨.inr rfl, hQ s _ 1 fi (I.cg f) (fun _ => rfl) (fun z => absurd l z)⟩) (fun l => ⟨.inl rfl, hQ s _ 0 fi (I.cg f) (fun z => absurd z l) (fun _ => rfl)⟩)
/-- the same actions -/
def SamA (D D' : Dat) : Prop := (D'.ac = D.ac) ∧ (D'.ach = D.ach) ∧ (D'.apt = D.apt)
theorem SamA.a {D D' : Dat} (h0 : SamA D D') : D'.ac = D.ac := h0.1
theorem SamA.c {D D' : Dat} (h0 : SamA D D') : D'.ach = D.ach := h0.2.1
theorem SamA.p {D D' : Dat} (h0 : SamA D D') : D'.apt = D.apt := h0.2.2
theorem SamA.mk {D D' : Dat} (h0 : D'.ac = D.ac) (h1 : D'.ach = D.ach) (h2 : D'.apt = D.apt) : SamA D D' := ⟨h0, h1, h2⟩
theorem SamA.act {D D' : Dat} (h : SamA D D') {s : PSt} {p : Int} : actP D' s p = actP D s p := by unfold actP chP; rw [h.c, h.p]
theorem SamA.can {D D' : Dat} (h : SamA D D') {lim : Int → Int} {s : PSt} {p : Int} : canP D' lim s p ↔ canP D lim s p := by unfold canP chP; rw [h.a, h.c, h.p]
theorem SamA.goF {D D' : Dat} (h : SamA D D') {lim : Int → Int} {p : Int} : ∀ (n : Nat) (s : PSt), goF D' lim p n s = goF D lim p n s := by
  intro n
  induction n with
  | zero => intro s; rfl
  | succ n ih =>
    intro s
    show (if canP D' lim s p then Pilot.CSchedularyLaw_law_r8908_31b577.goF D' lim p n (actP D' s p) else s) = (if canP D lim s p then Pilot.CSchedularyLaw_law_r8908_31b577.goF D lim p n (actP D s p) else s)
    by_cases z : canP D lim s p
    · rw [if_pos z, if_pos (h.can.2 z), ih, h.act]
    · rw [if_neg z, if_neg (fun w => z (h.can.1 w))]
theorem SamA.goP {D D' : Dat} (h : SamA D D') {lim : Int → Int} {p : Int} {s : PSt} : goP D' lim p s = goP D lim p s := by
  unfold Pilot.CSchedularyLaw_law_r8908_31b577.goP
  rw [h.goF, h.a]
theorem SamA.prP {D D' : Dat} (h : SamA D D') {lim : Int → Int} {s : PSt} : ∀ k : Nat, prP D' lim s k = prP D lim s k := by
  intro k
  induction k with
  | zero => rfl
  | succ k ih =>
    show Pilot.CSchedularyLaw_law_r8908_31b577.goP D' lim k (Pilot.CSchedularyLaw_law_r8908_31b577.prP D' lim s k) = Pilot.CSchedularyLaw_law_r8908_31b577.goP D lim k (Pilot.CSchedularyLaw_law_r8908_31b577.prP D lim s k)
    rw [ih, h.goP]
theorem SamA.rndP {D D' : Dat} (h : SamA D D') {lim : Int → Int} : ∀ n : Nat, rndP D' lim n = rndP D lim n := by
  intro n
  induction n with
  | zero => rfl
  | succ n ih =>
    show Pilot.CSchedularyLaw_law_r8908_31b577.prP D' lim (Pilot.CSchedularyLaw_law_r8908_31b577.rndP D' lim n) 4 = Pilot.CSchedularyLaw_law_r8908_31b577.prP D lim (Pilot.CSchedularyLaw_law_r8908_31b577.rndP D lim n) 4
    rw [ih, h.prP]
theorem SamA.fin {D D' : Dat} (h : SamA D D') {lim : Int → Int} {s : PSt} (f : FinP D' lim s) : FinP D lim s := by
  obtain ⟨n, a, b⟩ := f
  exact ⟨n, by rw [← h.rndP]; exact a, by rw [← h.prP]; exact b⟩
theorem SamA.lef {D D' : Dat} (h : SamA D D') {s : PSt} : left D' s ↔ left D s := by unfold left; rw [h.a]
theorem SamA.refl (D : Dat) : SamA D D := ⟨rfl, rfl, rfl⟩
theorem SamA.trans {D D' D2 : Dat} (h : SamA D D') (g : SamA D' D2) : SamA D D2 := ⟨g.a.trans h.a, g.c.trans h.c, g.p.trans h.p⟩
def acS (D : Dat) : Int := D.ac 0 + D.ac 1 + D.ac 2 + D.ac 3
theorem acS_b {D : Dat} (ok : DOk D) : 0 ≤ acS D ∧ acS D ≤ 64 := by
  have a0 := ok.ac 0 (by decide) (by decide)
  have a1 := ok.ac 1 (by decide) (by decide)
  have a2 := ok.ac 2 (by decide) (by decide)
  have a3 := ok.ac 3 (by decide) (by decide)
  unfold acS
  omega
theorem sum_left {D : Dat} {lim : Int → Int} {s : PSt} (o : okP D lim s) : (left D s → sumP s < acS D) ∧ (¬ left D s → sumP s = acS D) := by
  have a0 := o.a 0 (by decide) (by decide)
  have a1 := o.a 1 (by decide) (by decide)
  have a2 := o.a 2 (by decide) (by decide)
  have a3 := o.a 3 (by decide) (by decide)
  unfold left sumP acS
  omega
theorem lim_k {n : Int} (h : 1 ≤ n ∧ n ≤ 16) : limOk (fun _ => n) := fun _ _ _ => h
theorem depths_w {D : Dat} {i r : MI} {n : Int} {Q : Int → MI → MI → Prop} (I : JI D i r) (hn : 1 ≤ n ∧ n ≤ 16) (hQ : ∀ D' i', JI D' i' r → SamA D D' → (∀ c, 0 ≤ c → c < 4 → D'.dep c = n) → Q 1 i' r) : wp_L_depths n i r Q := by
  unfold wp_L_depths
  refine Lp.r5 (fun (y x : Int) (m s : MI) (k : Nat) => y = 1 ∧ 0 ≤ x ∧ x ≤ 4 ∧ k ≤ 3 * x.toNat ∧ s = r ∧ ∃ D', JI D' m r ∧ SamA D D' ∧ ∀ c, 0 ≤ c → c < x → D'.dep c = n) (fun _ x _ _ _ => (4 - x).toNat) ?_ ⟨rfl, by decide, by decide, by omega, rfl, D, I, SamA.refl D, fun c a b => by omega⟩
  intro y x m s k C ⟨ey, x0, x1, hk, es, D1, J, sa, hd⟩ hC
  subst ey es
  dsimp only [b4_L_depths, s28_L_depths, s29_L_depths]
  refine ⟨fun q => ⟨by omega, .inr rfl, hQ D1 m J sa (fun c a b => hd c a (by omega))⟩, fun q => ⟨fun z => absurd z (by decide), fun _ => ⟨by omega, ?_⟩⟩⟩
  have d0 := J.1.dep x x0 (by omega)
  rw [wr_of (x := x + 1) (by omega) (by omega)]
  refine A_11 J ⟨x0, by omega⟩ hn (fun i1 J1 => ⟨fun z => by omega, fun _ => ?_⟩)
  refine hC _ _ _ _ _ ⟨rfl, by omega, by omega, by omega, rfl, _, J1, ⟨sa.a, sa.c, sa.p⟩, fun c a b => ?_⟩ (by omega)
  show (if c = x then n else D1.dep c) = n
  by_cases z : c = x
  · rw [if_pos z]
  · rw [if_neg z]; exact hd c a (by omega)
theorem waits_w {D : Dat} {i r : MI} {k : Nat} {L : Nat} {xs : Int → Int} {Q : Int → MI → MI → Prop} (I : JI D i r) (hk : k ≤ 6400) (hQ : ∀ i', JI D i' r → Q 1 i' r) : s228_LP 1 i r k L xs Q := by
  have ok := I.1
  unfold s228_LP
  refine Lp.r5 (fun (y x : Int) (m s : MI) (k : Nat) => 0 ≤ x ∧ x ≤ 4 ∧ 0 ≤ y ∧ y ≤ x ∧ k ≤ 6400 + 3 * x.toNat ∧ s = r ∧ JI D m r ∧ (0 < y → ∃ s, FinP D D.dep s ∧ left D s) ∧ (y ≤ 0 → ∀ s, FinP D D.dep s → ∀ p, 0 ≤ p → p < x → ¬ s.1 p < D.ac p)) (fun _ x _ _ _ => (4 - x).toNat) ?_ ⟨by decide, by decide, by decide, by decide, by omega, rfl, I, fun z => absurd z (by decide), fun _ s _ p a b => by omega⟩
  intro y x m s k C ⟨x0, x1, y0, y1, hk, es, J, hy, hn⟩ hC
  subst es
  dsimp only [b234_LP, s298_LP, s299_LP, s287_LP, s260_LP]
  refine ⟨fun q => ⟨fun z => absurd z (by decide), fun _ => ⟨fun z => ⟨by omega, ?_⟩, fun z => ⟨by omega, ?_⟩⟩⟩, fun q => ⟨by omega, ?_⟩⟩
  · refine J_locked J (fun s i1 v f J1 v1 v0 => ?_)
    have e : v = 0 := v0 (left_no (fun p a b => hn z s f p a (by omega)))
    exact ⟨fun _ => ⟨by omega, .inr rfl, hQ _ J1⟩, fun w => absurd e.symm w⟩
  · refine J_locked J (fun s i1 v f J1 v1 v0 => ?_)
    obtain ⟨s', f', l'⟩ := hy (by omega)
    rw [fin_uniq f' f] at l'
    have e : v = 1 := v1 l'
    exact ⟨fun _ => ⟨by omega, .inr rfl, hQ _ J1⟩, fun w => absurd e.symm w⟩
  · rw [wr_of (x := x + 1) (by omega) (by omega)]
    refine A_12 J ⟨x0, by omega⟩ (fun s i1 f o J1 => ?_)
    have oa := o.a x x0 (by omega)
    have e0 : wr (y + 0) = y := by rw [Int.add_zero]; exact wr_of (by omega) (by omega)
    have e1 : wr (y + 1) = y + 1 := wr_of (by omega) (by omega)
    by_cases z : s.1 x < D.ac x
    · have c0 := (ok.ach x (s.1 x) x0 (by omega) oa.1 z).1
      have e : ¬ waitV D s x = -1 := by unfold waitV; rw [if_pos z]; omega
      refine ⟨fun w => absurd w e, fun _ => ⟨by omega, told_w (fun w => absurd w (by decide)) (fun _ => ?_)⟩⟩
      rw [e1]
      exact hC _ _ _ _ _ ⟨by omega, by omega, by omega, by omega, by omega, rfl, J1, fun _ => ⟨s, f, left_of ⟨x0, by omega⟩ z⟩, fun w => by omega⟩ (by omega)
    · have e : waitV D s x = -1 := by unfold waitV; rw [if_neg z]
      refine ⟨fun _ => ⟨by omega, told_w (fun _ => ?_) (fun w => absurd rfl w)⟩, fun w => absurd e w⟩
      rw [e0]
      refine hC _ _ _ _ _ ⟨by omega, by omega, by omega, by omega, by omega, rfl, J1, hy, fun w t ft p a b => ?_⟩ (by omega)
      by_cases g : p = x
      · rw [g, fin_uniq ft f]; exact z
      · exact hn w t ft p a (by omega)
theorem less_w {D : Dat} {i r : MI} {d : Int} {k : Nat} {L : Nat} {xs : Int → Int} {Q : Int → MI → MI → Prop} (I : JI D i r) (hd : d = -200005 ∨ (1 ≤ d ∧ d ≤ 16 ∧ ∀ k, 1 ≤ k → k < d → ∃ s, FinP D (fun _ => k) s ∧ left D s)) (hk : k ≤ 6380) (hQ : ∀ D' i', JI D' i' r → Q 1 i' r) : s181_LP (acS D) d 1 i r k L xs Q := by
  unfold s181_LP s226_LP
  refine ⟨fun _ => waits_w I (by omega) (fun i1 J => hQ _ _ J), fun h1 => ⟨fun z => absurd z (by decide), fun _ => ⟨by omega, ?_⟩⟩⟩
  rcases hd with e | ⟨d1, d2, d3⟩
  · omega
  rw [wr_of (x := d - 1) (by omega) (by omega)]
  refine depths_w I ⟨by omega, by omega⟩ (fun D1 i1 J1 sa hdep => ⟨fun z => absurd z (by decide), fun _ => ⟨by omega, ?_⟩⟩)
  obtain ⟨t, ft, lt⟩ := d3 (d - 1) (by omega) (by omega)
  have lk := lim_k (n := d - 1) ⟨by omega, by omega⟩
  refine K_locked J1 lk hdep (fun s i2 v f J2 v1 v0 => ?_)
  have l : left D1 s := by
    rw [sa.lef, ← fin_uniq ft (sa.fin f)]
    exact lt
  rw [v1 l]
  refine ⟨fun z => absurd z (by decide), fun _ => ⟨by omega, K_done J2 lk hdep (fun s2 i3 f2 o2 J3 => ?_)⟩⟩
  have l2 : left D1 s2 := by rw [fin_uniq f2 f]; exact l
  have lt2 := (sum_left o2).1 l2
  have ea : acS D1 = acS D := by unfold acS; rw [sa.a]
  rw [ea] at lt2
  exact ⟨fun z => by omega, fun _ => waits_w J3 (by omega) (fun i4 J => hQ _ _ J)⟩
theorem lock_w {D : Dat} {i r : MI} {d n : Int} {k : Nat} {L : Nat} {xs : Int → Int} {Q : Int → MI → MI → Prop} (I : JI D i r) (hn : 1 ≤ n ∧ n ≤ 16) (hd : (d = -200005 ∧ n = 16 ∧ ∃ s, FinP D (fun _ => n) s ∧ left D s) ∨ (n = d ∧ (∀ k, 1 ≤ k → k < d → ∃ s, FinP D (fun _ => k) s ∧ left D s) ∧ ∃ s, FinP D (fun _ => n) s ∧ ¬ left D s)) (hk : k ≤ 6360) (hQ : ∀ D' i', JI D' i' r → Q 1 i' r) : s122_LP (acS D) d n i r k L xs Q := by
  unfold s122_LP
  refine ⟨by omega, depths_w I hn (fun D1 i1 J1 sa hdep => ⟨fun z => absurd z (by decide), fun _ => ⟨by omega, ?_⟩⟩)⟩
  have lk := lim_k hn
  have ea : acS D1 = acS D := by unfold acS; rw [sa.a]
  have sb : SamA D1 D := ⟨sa.a.symm, sa.c.symm, sa.p.symm⟩
  refine K_locked J1 lk hdep (fun s i2 v f J2 v1 v0 => ?_)
  rcases hd with ⟨e, en, t, ft, lt⟩ | ⟨en, hl, t, ft, lt⟩
  · have l : left D1 s := by
      rw [sa.lef, ← fin_uniq ft (sa.fin f)]
      exact lt
    rw [v1 l]
    refine ⟨fun _ => ?_, fun z => absurd e z⟩
    unfold s144_LP
    refine ⟨fun _ => ⟨by omega, K_done J2 lk hdep (fun s2 i3 f2 o2 J3 => ?_)⟩, fun z => absurd rfl z⟩
    have l2 : left D1 s2 := by rw [fin_uniq f2 f]; exact l
    have lt2 := (sum_left o2).1 l2
    rw [ea] at lt2
    refine ⟨fun z => by omega, fun _ => ?_⟩
    unfold s161_LP s173_LP
    refine ⟨fun _ => ⟨fun _ => ?_, fun z => absurd rfl z⟩, fun z => absurd e z⟩
    rw [← ea]
    exact less_w J3 (.inl e) (by omega) hQ
  · have l : ¬ left D1 s := by
      rw [sa.lef, ← fin_uniq ft (sa.fin f)]
      exact lt
    rw [v0 l]
    refine ⟨fun z => by omega, fun _ => ?_⟩
    unfold s144_LP
    refine ⟨fun _ => ⟨by omega, K_done J2 lk hdep (fun s2 i3 f2 o2 J3 => ?_)⟩, fun z => absurd rfl z⟩
    have l2 : ¬ left D1 s2 := by rw [fin_uniq f2 f]; exact l
    have lt2 := (sum_left o2).2 l2
    rw [ea] at lt2
    refine ⟨fun _ => ?_, fun z => absurd lt2 z⟩
    unfold s161_LP s173_LP
    refine ⟨fun z => by omega, fun _ => ⟨fun _ => ?_, fun z => absurd rfl z⟩⟩
    rw [← ea]
    refine less_w J3 (.inr ⟨by omega, by omega, fun k a b => ?_⟩) (by omega) hQ
    obtain ⟨t2, f2', l2'⟩ := hl k a b
    exact ⟨t2, sb.fin f2', sb.lef.1 l2'⟩
theorem acS_up {D : Dat} {p c b : Int} (hp : 0 ≤ p ∧ p ≤ 3) (hc : 0 ≤ c ∧ c ≤ 3) (h : D.ac p < 16) : acS (spAction D p c b).2.2 = acS D + 1 := by
  unfold spAction
  rw [if_pos ⟨hp.1, hp.2, hc.1, hc.2⟩, if_pos h]
  show (if (0 : Int) = p then D.ac p + 1 else D.ac 0) + (if (1 : Int) = p then D.ac p + 1 else D.ac 1) + (if (2 : Int) = p then D.ac p + 1 else D.ac 2) + (if (3 : Int) = p then D.ac p + 1 else D.ac 3) = D.ac 0 + D.ac 1 + D.ac 2 + D.ac 3 + 1
  have : p = 0 ∨ p = 1 ∨ p = 2 ∨ p = 3 := by omega
  rcases this with rfl | rfl | rfl | rfl <;> simp <;> omega
theorem LP_w {D : Dat} {i r : MI} {p : Int} {L : Nat} {xs : Int → Int} {Q : Int → MI → MI → Prop} (I : JI D i r) (h0 : acS D = 0) (hp : 0 ≤ p ∧ p ≤ 1000) (hQ : ∀ D' i', JI D' i' r → Q 1 i' r) : wp_LP p i r L xs Q := by
  unfold wp_LP
  refine ⟨by decide, pick_w hp.1 (by decide) (fun v0 v1 => ?_)⟩
  generalize pk L xs p 24 = v at v0 v1
  rw [wr_of (x := 4 + v) (by omega) (by omega)]
  refine Lp.r5 (fun (y x : Int) (m s : MI) (k : Nat) => 0 ≤ x ∧ x ≤ 4 + v ∧ k ≤ 6270 + 3 * x.toNat ∧ s = r ∧ ∃ D', JI D' m r ∧ y = acS D') (fun _ x _ _ _ => (4 + v - x).toNat) ?_ ⟨by decide, by omega, by omega, rfl, D, I, h0.symm⟩
  intro y x m s k C ⟨x0, x1, hk, es, D1, J, ey⟩ hC
  subst es ey
  have ok := J.1
  have ab := acS_b ok
  dsimp only [b24_LP]
  refine ⟨fun q => ⟨by omega, ?_⟩, fun q => ⟨by omega, ?_⟩⟩
  · refine A_32 J (fun d i1 hd hd16 J1 => ⟨fun z => by have := hd.2.1; omega, fun _ => ?_⟩) (fun i1 hd J1 => ⟨fun _ => ?_, fun z => absurd rfl z⟩)
    · exact lock_w J1 ⟨hd.2.1, hd16⟩ (.inr ⟨rfl, hd.1, hd.2.2.2 hd16⟩) (by omega) hQ
    · exact lock_w J1 ⟨by decide, by decide⟩ (.inl ⟨rfl, rfl, hd.1 16 (by decide) (by decide)⟩) (by omega) hQ
  · rw [wr_of (x := p + 1) (by omega) (by omega), wr_of (x := p + 2) (by omega) (by omega), wr_of (x := p + 3) (by omega) (by omega), wr_of (x := 3 * x) (by omega) (by omega), wr_of (x := p + 1 + 3 * x) (by omega) (by omega), wr_of (x := p + 2 + 3 * x) (by omega) (by omega), wr_of (x := p + 3 + 3 * x) (by omega) (by omega)]
    refine pick_w (by omega) (by decide) (fun a0 a1 => ⟨by omega, pick_w (by omega) (by decide) (fun b0 b1 => ⟨by omega, pick_w (by omega) (by decide) (fun c0 c1 => ⟨by omega, ?_⟩)⟩)⟩)
    generalize pk L xs (p + 1 + 3 * x) 4 = pa at a0 a1
    generalize pk L xs (p + 2 + 3 * x) 2 = pb at b0 b1
    generalize pk L xs (p + 3 + 3 * x) 2 = pc at c0 c1
    have ac := ok.ac pa a0 a1
    have ex : wr (x + 1) = x + 1 := wr_of (by omega) (by omega)
    have e0 : wr (acS D1 + 0) = acS D1 := by rw [Int.add_zero]; exact wr_of (by omega) (by omega)
    have e1 : wr (acS D1 + 1) = acS D1 + 1 := wr_of (by omega) (by omega)
    unfold s85_LP
    rw [ex]
    refine A_10 J ⟨a0, by omega⟩ ⟨b0, by omega⟩ (by omega) (fun h i1 J1 => ⟨fun z => by omega, fun _ => ⟨by omega, told_w (fun z => absurd z (by decide)) (fun _ => ?_)⟩⟩) (fun h => ⟨fun _ => ⟨by omega, told_w (fun _ => ?_) (fun z => absurd rfl z)⟩, fun z => absurd (by decide) z⟩)
    · rw [e1]
      exact hC _ _ _ _ _ ⟨by omega, by omega, by omega, rfl, _, J1, (acS_up ⟨a0, by omega⟩ ⟨b0, by omega⟩ h).symm⟩ (by omega)
    · rw [e0]
      exact hC _ _ _ _ _ ⟨by omega, by omega, by omega, rfl, D1, J, rfl⟩ (by omega)
