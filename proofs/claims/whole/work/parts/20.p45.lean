def lsN (ls : Int → Int) : Nat → Int
  | 0 => 0
  | n + 1 => lsN ls n + if ls n = -1 then 0 else 1
def lsC (D : Dat) (ls : Int → Int) : Int := lsN ls (nn D).toNat
theorem lsN_up {ls : Int → Int} {x c : Int} (hx : ls x = -1) (hc : c ≠ -1) : ∀ n : Nat, 0 ≤ x → lsN (iup ls x c) n = lsN ls n + if x < n then 1 else 0 := by
  intro n
  induction n with
  | zero => intro h; rw [if_neg (by omega)]; rfl
  | succ n ih =>
    intro h
    show lsN (iup ls x c) n + _ = lsN ls n + _ + _
    rw [ih h]
    by_cases e : (n : Int) = x
    · have e1 : iup ls x c n = c := by unfold iup; rw [if_pos e]
      rw [e1, if_neg hc, if_neg (show ¬ x < (n : Int) by omega), if_pos (show ls n = -1 by rw [e]; exact hx), if_pos (show x < ((n + 1 : Nat) : Int) by omega)] <;> omega
    · have e1 : iup ls x c n = ls n := by unfold iup; rw [if_neg e]
      rw [e1]
      by_cases q : x < (n : Int)
      · rw [if_pos q, if_pos (show x < ((n + 1 : Nat) : Int) by omega)]; omega
      · rw [if_neg q, if_neg (show ¬ x < ((n + 1 : Nat) : Int) by omega)]; omega
theorem lsN_b {ls : Int → Int} : ∀ n : Nat, 0 ≤ lsN ls n ∧ lsN ls n ≤ n ∧ (lsN ls n = n ↔ ∀ v, 0 ≤ v → v < (n : Int) → ls v ≠ -1) := by
  intro n
  induction n with
  | zero => exact ⟨Int.le_refl 0, Int.le_refl 0, fun _ v a b => by omega, fun _ => rfl⟩
  | succ n ih =>
    obtain ⟨h1, h2, h3⟩ := ih
    have es : lsN ls (n + 1) = lsN ls n + if ls n = -1 then 0 else 1 := rfl
    rw [es]
    by_cases e : ls n = -1
    · rw [if_pos e]
      exact ⟨by omega, by omega, fun z => by omega, fun z => absurd e (z n (by omega) (by omega))⟩
    · rw [if_neg e]
      refine ⟨by omega, by omega, fun z v a b => ?_, fun z => ?_⟩
      · by_cases q : v = n
        · rw [q]; exact e
        · exact h3.1 (by omega) v a (by omega)
      · have := h3.2 (fun v a b => z v a (by omega)); omega
theorem lsC_all {D : Dat} (ok : DOk D) {ls : Int → Int} : 0 ≤ lsC D ls ∧ lsC D ls ≤ nn D ∧ (lsC D ls = nn D ↔ allL D ls) := by
  have hn := nn_le ok
  have := lsN_b (ls := ls) (nn D).toNat
  unfold lsC allL
  rw [show (((nn D).toNat : Nat) : Int) = nn D by omega] at this
  exact this
theorem lsC_up {D : Dat} (ok : DOk D) {ls : Int → Int} {x c : Int} (hx : 0 ≤ x ∧ x < nn D) (e : ls x = -1) (hc : 0 ≤ c) : lsC D (iup ls x c) = lsC D ls + 1 := by
  have := lsN_up (ls := ls) (x := x) (c := c) e (by omega) (nn D).toNat hx.1
  rw [if_pos (by omega)] at this
  exact this
def L00 : Int → Int := fun _ => -1
/-- the steps by lists: what the run from the start comes to -/
def IsList (D : Dat) (la fin : Int → Int) : Prop := (∃ n, LR D la n 0 L00 fin) ∧ allL D fin ∧ ∃ c, JL D c fin
theorem LR_fin {D : Dat} {la : Int → Int} : ∀ (n : Nat) (c : Int) (ls fin fin' : Int → Int), LR D la n c ls fin → (∀ v, 0 ≤ v → v < nn D → fin' v = fin v) → LR D la n c ls fin' := by
  intro n
  induction n with
  | zero => intro c ls fin fin' h e; exact ⟨h.1, fun v a b => by rw [e v a b]; exact h.2 v a b⟩
  | succ n ih =>
    intro c ls fin fin' h e
    rcases h with ⟨k, h1, h2⟩ | ⟨h1, h2, h3⟩
    · exact .inl ⟨k, h1, ih _ _ _ _ h2 e⟩
    · exact .inr ⟨h1, h2, ih _ _ _ _ h3 e⟩
theorem ready_ext {D : Dat} (ok : DOk D) {c : Int} {ls ls' : Int → Int} (e : ∀ v, 0 ≤ v → v < nn D → ls v = ls' v) {k : Int} : ready D c ls k → ready D c ls' k := by
  rintro ⟨a, b, h1, h2, h3⟩
  refine ⟨a, b, by rw [← e k a b]; exact h1, fun f w hw => ?_, ?_⟩
  · have hf := (ed_props ok hw).1
    rw [← e f hf.1 hf.2]; exact h2 f w hw
  · have : cntL D ls' (kdv D k) c = cntL D ls (kdv D k) c := cntN_eq _ (fun v x y => by rw [e v x (by omega)])
    rw [this]; exact h3
theorem LR_ext {D : Dat} (ok : DOk D) {la la' : Int → Int} (el : ∀ v, 0 ≤ v → v < nn D → la v = la' v) : ∀ (n : Nat) (c : Int) (ls ls' fin : Int → Int), LR D la n c ls fin → (∀ v, 0 ≤ v → v < nn D → ls v = ls' v) → LR D la' n c ls' fin := by
  intro n
  induction n with
  | zero => intro c ls ls' fin h e; exact ⟨fun v a b => by rw [← e v a b]; exact h.1 v a b, fun v a b => by rw [← e v a b]; exact h.2 v a b⟩
  | succ n ih =>
    intro c ls ls' fin h e
    have e' : ∀ v, 0 ≤ v → v < nn D → ls' v = ls v := fun v a b => (e v a b).symm
    rcases h with ⟨k, h1, h2⟩ | ⟨h1, h2, h3⟩
    · refine .inl ⟨k, ⟨ready_ext ok e h1.1, fun j hj => ?_⟩, ih _ _ _ _ h2 (fun v a b => by unfold iup; rw [e v a b])⟩
      have := h1.2 j (ready_ext ok e' hj)
      rw [← el k h1.1.1 h1.1.2.1, ← el j hj.1 hj.2.1]; exact this
    · exact .inr ⟨fun z => h1 (fun v a b => by rw [e v a b]; exact z v a b), fun k z => h2 k (ready_ext ok e' z), ih _ _ _ _ h3 e⟩
theorem list_uniq {D : Dat} (ok : DOk D) {la la' f f' : Int → Int} (el : ∀ v, 0 ≤ v → v < nn D → la v = la' v) (h : IsList D la f) (g : IsList D la' f') : ∀ v, 0 ≤ v → v < nn D → f v = f' v := by
  obtain ⟨⟨n, h1⟩, _⟩ := h
  obtain ⟨⟨m, g1⟩, _⟩ := g
  exact LR_uniq n m 0 _ _ _ (LR_ext ok el n 0 _ _ _ h1 (fun _ _ _ => rfl)) g1
theorem list_end {D : Dat} (ok : DOk D) {la f : Int → Int} {e : Int} (h : IsList D la f) (he : IsEnd D f e) : (∀ v, 0 ≤ v → v < nn D → 0 ≤ f v ∧ f v ≤ 480) ∧ e ≤ 480 := by
  have hn := nn_le ok
  have sb := sumC_b ok hn.1 (Int.le_refl _)
  obtain ⟨_, ha, c, hj⟩ := h
  have hc := JL_c ok hj
  refine ⟨fun v a b => ?_, ?_⟩
  · have := hj.2.1 v a b
    have := ha v a b
    omega
  · have := cover_le ok (c := e) (ls := f) (fun d a b => ?_)
    · omega
    · by_cases q : d < c
      · obtain ⟨v, h1, h2, _, h3, h4⟩ := hj.2.2 d a q
        exact ⟨v, h1, h2, h3, h4⟩
      · rcases he.2.2 with z | ⟨v, v0, v1, z⟩
        · omega
        · have := hj.2.1 v v0 v1
          have := ha v v0 v1
          exact ⟨v, v0, v1, by omega, by omega⟩
theorem allAt_w {D : Dat} (ok : DOk D) {i r : MI} {ls : Int → Int} {c : Int} {Q : Int → MI → Prop} (h : NV D i) (g : M2 D i) (hu : ∀ k, 0 ≤ k → k < 7 → i 69 k = D.un k) (cl : CL D ls i) (hj : JL D c ls) (hna : ¬ allL D ls) (hlt : ∀ v, 0 ≤ v → v < nn D → ls v < c)
    (hQ : ∀ i' ls', FO i i' → i' 462 = i 462 → i' 463 = i 463 → CL D ls' i' → (∀ n fin, LR D (i 463) n (c + 1) ls' fin → ¬ allL D ls' → ∃ m, LR D (i 463) m c ls fin) → (allL D ls' → JL D c ls' ∧ ∃ m, LR D (i 463) m c ls ls') → (¬ allL D ls' → JL D (c + 1) ls' ∧ ∀ v, 0 ≤ v → v < nn D → ls' v < c + 1) → Q (lsC D ls' - lsC D ls) i') : wp_X9_beginAllAt c i r Q := by
  have hn := nn_le ok
  have hc := JL_c ok hj
  have hc0 := hj.1
  unfold wp_X9_beginAllAt
  refine Lp.r2 (fun (x : Int) (m : MI) => 0 ≤ x ∧ x ≤ 7 ∧ FO i m ∧ m 462 = i 462 ∧ m 463 = i 463 ∧ CL D ls m ∧ ∀ k, 0 ≤ k → k < x → m 467 k = 0) (fun x _ => (7 - x).toNat) ?_ ⟨by decide, by decide, FO.refl i, rfl, rfl, cl, fun k a b => by omega⟩
  intro x m C ⟨h0, h1, h2, h3, h4, h5, h6⟩ hC
  dsimp only [b3_X9_beginAllAt]
  refine ⟨fun q => ?_, fun q => ⟨⟨h0, by omega⟩, ?_⟩⟩
  · have b0 : ∀ k, 0 ≤ k → k < 7 → m 467 k = cntL D ls k c := fun k a b => by
      rw [h6 k a (by omega)]
      exact (cntN_zero _ (fun v v0 v1 z => by have := hlt v v0 (by omega); omega)).symm
    refine Lp.r2 (fun (y : Int) (m' : MI) => ∃ ls', 0 ≤ y ∧ y ≤ nn D ∧ FO i m' ∧ m' 462 = i 462 ∧ m' 463 = i 463 ∧ CL D ls' m' ∧ JL D c ls' ∧ (∀ k, 0 ≤ k → k < 7 → m' 467 k = cntL D ls' k c) ∧ y = lsC D ls' - lsC D ls ∧ ∀ n fin, LR D (i 463) n c ls' fin → ∃ m, LR D (i 463) m c ls fin) (fun y _ => (nn D - y).toNat) ?_ ⟨ls, by decide, hn.1, h2, h3, h4, h5, hj, b0, by omega, fun n fin z => ⟨n, z⟩⟩
    intro y m2 C2 ⟨ls', k0, k1, k2, k3, k4, k5, k6, k7, k8, k9⟩ hC2
    dsimp only [b27_X9_beginAllAt]
    have hm2 := h.fo ok k2
    have gm2 := g.fo ok k2
    have hu2 : ∀ k, 0 ≤ k → k < 7 → m2 69 k = D.un k := fun k a b => by rw [k2 _ (by omega)]; exact hu k a b
    have ca := lsC_all ok (ls := ls')
    have cb := lsC_all ok (ls := ls)
    rw [hm2.n]
    have fin : (allL D ls' ∨ ∀ k, ¬ ready D c ls' k) → Q (lsC D ls' - lsC D ls) m2 := by
      intro hh
      refine hQ m2 ls' k2 k3 k4 k5 (fun n fin z na => ?_) (fun al => ⟨k6, k9 0 ls' ⟨al, fun _ _ _ => rfl⟩⟩) (fun na => ?_)
      · exact k9 (n + 1) fin (.inr ⟨na, hh.resolve_left na, z⟩)
      · have nr := hh.resolve_left na
        exact ⟨JL_next ok k6 na nr, fun v a b => by have := k6.2.1 v a b; omega⟩
    refine ⟨fun q2 => ?_, fun q2 => ?_⟩
    · have ey : lsC D ls' = nn D := by omega
      have := fin (.inl (ca.2.2.1 ey))
      rw [show nn D = lsC D ls' - lsC D ls by omega]
      exact this
    · refine choose_w ok hm2 hu2 k5 hc0 k7 (fun k hk => ⟨fun z => by have := hk.1.1; omega, fun _ => ?_⟩) (fun nr => ⟨fun _ => ?_, fun z => absurd rfl z⟩)
      · rw [k4] at hk
        refine beginAt_w ok hm2 gm2 k5 ⟨hc0, hc⟩ k7 hk.1 (fun i' f e1 e2 c2 b2 => ?_)
        rw [wr_of (by omega) (by omega)]
        have up := lsC_up ok (ls := ls') (x := k) (c := c) ⟨hk.1.1, hk.1.2.1⟩ hk.1.2.2.1 hc0
        exact hC2 _ _ ⟨iup ls' k c, by omega, by omega, k2.trans f, by rw [e1]; exact k3, by rw [e2]; exact k4, c2, JL_pick k6 hk.1, b2, by omega, fun n fin z => k9 (n + 1) fin (.inl ⟨k, hk, z⟩)⟩ (by omega)
      · have := fin (.inr nr)
        rw [← k8] at this
        exact this
  · rw [wr_of (by omega) (by omega)]
    refine hC _ _ ⟨by omega, by omega, h2.trans (FO.st (by decide)), by rw [st_row (by decide)]; exact h3, by rw [st_row (by decide)]; exact h4, ⟨by rw [st_row (by decide)]; exact h5.l, by rw [st_row (by decide)]; exact h5.u, by rw [st_row (by decide)]; exact h5.e⟩, fun k a b => ?_⟩ (by omega)
    by_cases e : k = x
    · rw [e, st_eq]
    · rw [st_ne (by omega)]; exact h6 k a (by omega)
theorem startL_w {D : Dat} (ok : DOk D) {i r : MI} {Q : MI → Prop} (h : NV D i) (g : M2 D i) (hQ : ∀ i', FO i i' → i' 462 = i 462 → i' 463 = i 463 → CL D L00 i' → Q i') : wp_X9_startLists i r Q := by
  have hn := nn_le ok
  unfold wp_X9_startLists
  refine Lp.r2 (fun (x : Int) (m : MI) => 0 ≤ x ∧ x ≤ nn D ∧ FO i m ∧ m 462 = i 462 ∧ m 463 = i 463 ∧ ∀ v, 0 ≤ v → v < x → m 464 v = -1 ∧ m 465 v = 0 ∧ m 466 v = 0) (fun x _ => (nn D - x).toNat) ?_ ⟨by decide, hn.1, FO.refl i, rfl, rfl, fun v a b => by omega⟩
  intro x m C ⟨h0, h1, h2, h3, h4, h5⟩ hC
  dsimp only [b2_X9_startLists]
  have hm := h.fo ok h2
  rw [hm.n]
  refine ⟨fun q => ?_, fun q => ⟨by omega, by omega, by omega, ?_⟩⟩
  · refine Lp.r2 (fun (x : Int) (m' : MI) => 0 ≤ x ∧ x ≤ nn D ∧ FO i m' ∧ m' 462 = i 462 ∧ m' 463 = i 463 ∧ (∀ v, 0 ≤ v → v < nn D → m' 464 v = -1 ∧ m' 465 v = 0) ∧ ∀ v, 0 ≤ v → v < nn D → PrL D v (fun f => f < x) (m' 466 v)) (fun x _ => (nn D - x).toNat) ?_ ⟨by decide, hn.1, h2, h3, h4, fun v a b => ⟨(h5 v a (by omega)).1, (h5 v a (by omega)).2.1⟩, fun v a b => by rw [(h5 v a (by omega)).2.2]; exact ⟨[], List.nodup_nil, fun f => ⟨fun z => (by cases z), fun z => by obtain ⟨⟨w, hw⟩, z⟩ := z; have := (ed_props ok hw).1; omega⟩, rfl⟩⟩
    intro x m2 C2 ⟨k0, k1, k2, k3, k4, k5, k6⟩ hC2
    dsimp only [b39_X9_startLists]
    have hm2 := h.fo ok k2
    rw [hm2.n]
    refine ⟨fun q2 => hQ m2 k2 k3 k4 ⟨fun v a b => (k5 v a b).1, fun v a b => (k6 v a b).iff (fun f hf => ?_), fun v a b => ?_⟩, fun q2 => ?_⟩
    · obtain ⟨w, hw⟩ := hf
      have := (ed_props ok hw).1
      exact ⟨fun _ => rfl, fun _ => by omega⟩
    · rw [(k5 v a b).2]
      exact ⟨Int.le_refl 0, fun f w hw z => absurd rfl z, .inl rfl⟩
    · have hx : 0 ≤ x ∧ x < nn D := ⟨k0, by omega⟩
      have gz := g.z x k0 (by omega)
      refine Lp.r2 (fun (y : Int) (m' : MI) => 0 ≤ y ∧ y ≤ i 460 x ∧ FO i m' ∧ m' 462 = i 462 ∧ m' 463 = i 463 ∧ (∀ v, 0 ≤ v → v < nn D → m' 464 v = -1 ∧ m' 465 v = 0) ∧ ∀ v, 0 ≤ v → v < nn D → PrL D v (fun f => f < x ∨ (f = x ∧ ∃ e, 0 ≤ e ∧ e < y ∧ i (170 + x) e = v ∧ i (267 + x) e = 0)) (m' 466 v)) (fun y _ => (100 - y).toNat) ?_ ⟨by decide, gz.1, k2, k3, k4, k5, fun v a b => (k6 v a b).iff (fun f hf => ⟨.inl, fun z => z.elim id (fun z => by obtain ⟨_, e, e1, e2, _⟩ := z; omega)⟩)⟩
      intro y m3 C3 ⟨j0, j1, j2, j3, jl, j4, j5⟩ hC3
      dsimp only [b50_X9_startLists, s91_X9_startLists]
      have r460 : m3 460 = i 460 := j2 _ (by omega)
      have r170 : m3 (170 + x) = i (170 + x) := j2 _ (by omega)
      have r267 : m3 (267 + x) = i (267 + x) := j2 _ (by omega)
      rw [r460, r170, r267]
      refine ⟨by omega, fun q3 => ?_, fun q3 => ⟨by omega, by omega, ?_⟩⟩
      · rw [wr_of (by omega) (by omega)]
        refine hC2 _ _ ⟨by omega, by omega, j2, j3, jl, j4, fun v a b => (j5 v a b).iff (fun f hf => ?_)⟩ (by omega)
        have ey : y = i 460 x := by omega
        constructor
        · rintro (z | ⟨z, _⟩) <;> omega
        · intro z
          by_cases e : f = x
          · subst e
            obtain ⟨w, hw⟩ := hf
            obtain ⟨e, e0, e1, e2, e3, _⟩ := GrC.fd ok g hw
            exact .inr ⟨rfl, e, e0, by omega, e2, e3⟩
          · exact .inl (by omega)
      · have hE := GrC.ed ok g hx ⟨j0, by omega⟩
        rw [wr_of (x := y + 1) (by omega) (by omega)]
        refine ⟨fun e0 => ?_, fun e0 => ?_⟩
        · rw [e0] at hE
          have ht := (ed_props ok hE).2.1
          generalize htd : i (170 + x) y = t at *
          have hp6 := (j5 t ht.1 ht.2).le ok
          rw [wr_of (x := m3 466 t + 1) (by omega) (by omega)]
          have old : ¬ (x < x ∨ (x = x ∧ ∃ e, 0 ≤ e ∧ e < y ∧ i (170 + x) e = t ∧ i (267 + x) e = 0)) := by
            rintro (z | ⟨_, e, e1, e2, e3, e4⟩)
            · omega
            · have := g.u x e y k0 (by omega) e1 (by omega) j0 (by omega) (by rw [e3, htd]) (by rw [e4, e0])
              omega
          refine ⟨by omega, by omega, by omega, by omega, ?_⟩
          refine hC3 _ _ ⟨by omega, by omega, j2.trans (FO.st (by decide)), by rw [st_row (by decide)]; exact j3, by rw [st_row (by decide)]; exact jl, fun v a b => by rw [st_row (by decide), st_row (by decide)]; exact j4 v a b, fun v a b => ?_⟩ (by omega)
          by_cases ev : v = t
          · subst ev
            rw [st_eq]
            refine ((j5 v a b).add ⟨_, hE⟩ old).iff (fun f hf => ?_)
            constructor
            · rintro ((z | ⟨z, e, e1, e2, e3, e4⟩) | rfl)
              · exact .inl z
              · exact .inr ⟨z, e, e1, by omega, e3, e4⟩
              · exact .inr ⟨rfl, y, j0, by omega, htd, e0⟩
            · rintro (z | ⟨rfl, _⟩)
              · exact .inl (.inl z)
              · exact .inr rfl
          · rw [st_ne (by omega)]
            refine (j5 v a b).iff (fun f hf => or_congr Iff.rfl (and_congr Iff.rfl ⟨fun ⟨e, e1, e2, e3, e4⟩ => ⟨e, e1, by omega, e3, e4⟩, fun ⟨e, e1, e2, e3, e4⟩ => ⟨e, e1, ?_, e3, e4⟩⟩))
            by_cases ee : e = y
            · rw [ee, htd] at e3; exact absurd e3.symm ev
            · omega
        · refine hC3 _ _ ⟨by omega, by omega, j2, j3, jl, j4, fun v a b => (j5 v a b).iff (fun f hf => or_congr Iff.rfl (and_congr Iff.rfl ⟨fun ⟨e, e1, e2, e3, e4⟩ => ⟨e, e1, by omega, e3, e4⟩, fun ⟨e, e1, e2, e3, e4⟩ => ⟨e, e1, ?_, e3, e4⟩⟩))⟩ (by omega)
          by_cases ee : e = y
          · rw [ee] at e4; exact absurd e4 e0
          · omega
  · rw [wr_of (by omega) (by omega)]
    refine hC _ _ ⟨by omega, by omega, h2.trans ((FO.st (by decide)).trans ((FO.st (by decide)).trans (FO.st (by decide)))), by simp (disch := omega) only [st_row]; exact h3, by simp (disch := omega) only [st_row]; exact h4, fun v a b => ?_⟩ (by omega)
    by_cases e : v = x
    · rw [e]
      simp (disch := omega) only [st_row, st_eq]
      exact ⟨trivial, trivial, trivial⟩
    · simp (disch := omega) only [st_row, st_ne]
      exact h5 v a (by omega)
theorem byLists_w {D : Dat} (ok : DOk D) {i r : MI} {Q : MI → Prop} (h : NV D i) (g : M2 D i) (hu : ∀ k, 0 ≤ k → k < 7 → i 69 k = D.un k) (hQ : ∀ i', FO i i' → i' 462 = i 462 → i' 463 = i 463 → IsList D (i 463) (i' 464) → Q i') : wp_X9_orderByLists i r Q := by
  have hn := nn_le ok
  unfold wp_X9_orderByLists
  refine startL_w ok h g (fun i1 f1 a1 b1 c1 => ?_)
  have hl0 : lsC D L00 = 0 := by
    have key : ∀ n : Nat, lsN L00 n = 0 := by
      intro n
      induction n with
      | zero => rfl
      | succ n ih => show lsN L00 n + _ = 0; rw [ih, if_pos (show L00 n = -1 from rfl)]; rfl
    exact key _
  rw [(h.fo ok f1).n]
  refine Lp.r3 (fun (x3 x4 : Int) (m : MI) => ∃ ls, 0 ≤ x4 ∧ x4 ≤ 481 ∧ FO i m ∧ m 462 = i 462 ∧ m 463 = i 463 ∧ CL D ls m ∧ x3 = nn D - lsC D ls ∧ (allL D ls → (∃ c, JL D c ls) ∧ ∃ n, LR D (i 463) n 0 L00 ls) ∧ (¬ allL D ls → JL D x4 ls ∧ (∀ v, 0 ≤ v → v < nn D → ls v < x4) ∧ ∀ n fin, LR D (i 463) n x4 ls fin → ∃ m, LR D (i 463) m 0 L00 fin)) (fun _ x4 _ => (481 - x4).toNat) ?_ ⟨L00, by decide, by decide, f1, a1, b1, c1, by omega, fun al => ⟨⟨0, Int.le_refl 0, fun v a b => .inl rfl, fun d a b => by omega⟩, 0, al, fun _ _ _ => rfl⟩, fun _ => ⟨⟨Int.le_refl 0, fun v a b => .inl rfl, fun d a b => by omega⟩, fun v a b => by show (-1 : Int) < 0; omega, fun n fin z => ⟨n, z⟩⟩⟩
  intro x3 x4 m C ⟨ls, h0, h1, h2, h3, h4, h5, h6, h7, h8⟩ hC
  dsimp only [b14_X9_orderByLists]
  unfold s43_X9_orderByLists
  have ca := lsC_all ok (ls := ls)
  have fin : allL D ls → Q m := by
    intro al
    obtain ⟨⟨c, hj⟩, n, hr⟩ := h7 al
    have el : ∀ v, 0 ≤ v → v < nn D → m 464 v = ls v := h5.l
    refine hQ m h2 h3 h4 ⟨⟨n, LR_fin n 0 _ _ _ hr el⟩, fun v a b => by rw [el v a b]; exact al v a b, c, ?_⟩
    refine ⟨hj.1, fun v a b => by rw [el v a b]; exact hj.2.1 v a b, fun d a b => ?_⟩
    obtain ⟨v, v0, v1, v2, v3, v4⟩ := hj.2.2 d a b
    exact ⟨v, v0, v1, by rw [el v v0 v1]; exact v2, by rw [el v v0 v1]; exact v3, by rw [el v v0 v1]; exact v4⟩
  by_cases al : allL D ls
  · have := ca.2.2.2 al
    exact ⟨fun _ => fin al, fun _ => ⟨fun _ => fin al, fun z => by omega⟩⟩
  · obtain ⟨j1, j2, j3⟩ := h8 al
    have hc := JL_c ok j1
    have nl : lsC D ls ≠ nn D := fun z => al (ca.2.2.1 z)
    refine ⟨fun z => by omega, fun z => ⟨fun z2 => by omega, fun z2 => ?_⟩⟩
    refine allAt_w ok (h.fo ok h2) (g.fo ok h2) (fun k a b => by rw [h2 _ (by omega)]; exact hu k a b) h5 j1 al j2 (fun i' ls' f e1 e2 c2 k1 k2 k3 => ?_)
    have cb := lsC_all ok (ls := ls')
    rw [wr_of (x := x3 - _) (by omega) (by omega), wr_of (x := x4 + 1) (by omega) (by omega)]
    rw [h4] at k1 k2
    refine hC _ _ _ ⟨ls', by omega, by omega, h2.trans f, by rw [e1]; exact h3, by rw [e2]; exact h4, c2, by omega, fun al' => ?_, fun na' => ?_⟩ (by omega)
    · obtain ⟨q1, n, q2⟩ := k2 al'
      exact ⟨⟨x4, q1⟩, j3 n ls' q2⟩
    · obtain ⟨q1, q2⟩ := k3 na'
      exact ⟨q1, q2, fun n fin z => by obtain ⟨m, hm⟩ := k1 n fin z na'; exact j3 m fin hm⟩
