/-- the predecessors of a node, those of which something holds, as many as a number says -/
def PrL (D : Dat) (v : Int) (P : Int → Prop) (n : Int) : Prop := ∃ L : List Int, L.Nodup ∧ (∀ f, f ∈ L ↔ (∃ w, Ed D f v 0 w) ∧ P f) ∧ n = L.length
theorem PrL.le {D : Dat} (ok : DOk D) {v n : Int} {P : Int → Prop} (h : PrL D v P n) : 0 ≤ n ∧ n ≤ 96 := by
  obtain ⟨L, h1, h2, rfl⟩ := h
  have hn := nn_le ok
  have := pig (fun (m x : Int) => m = x) (fun m x y a b => by omega) L ((List.range 96).map (fun (k : Nat) => (k : Int))) h1 (fun x hx => by
    obtain ⟨⟨w, hw⟩, _⟩ := (h2 x).1 hx
    have := (ed_props ok hw).1
    exact ⟨x, List.mem_map.2 ⟨x.toNat, List.mem_range.2 (by omega), by omega⟩, rfl⟩)
  simp at this
  omega
theorem PrL.iff {D : Dat} {v n : Int} {P P' : Int → Prop} (h : PrL D v P n) (e : ∀ f, (∃ w, Ed D f v 0 w) → (P f ↔ P' f)) : PrL D v P' n := by
  obtain ⟨L, h1, h2, h3⟩ := h
  exact ⟨L, h1, fun f => by rw [h2]; exact ⟨fun z => ⟨z.1, (e f z.1).1 z.2⟩, fun z => ⟨z.1, (e f z.1).2 z.2⟩⟩, h3⟩
theorem PrL.add {D : Dat} {v n x : Int} {P : Int → Prop} (h : PrL D v P n) (hx : ∃ w, Ed D x v 0 w) (hp : ¬ P x) : PrL D v (fun f => P f ∨ f = x) (n + 1) := by
  obtain ⟨L, h1, h2, h3⟩ := h
  refine ⟨x :: L, List.nodup_cons.2 ⟨fun z => hp ((h2 x).1 z).2, h1⟩, fun f => ?_, by rw [h3]; simp⟩
  rw [List.mem_cons, h2]
  constructor
  · rintro (rfl | z)
    · exact ⟨hx, .inr rfl⟩
    · exact ⟨z.1, .inl z.2⟩
  · rintro ⟨z, z2 | rfl⟩
    · exact .inr ⟨z, z2⟩
    · exact .inl rfl
theorem PrL.rem {D : Dat} {v n x : Int} {P : Int → Prop} (h : PrL D v P n) (hx : ∃ w, Ed D x v 0 w) (hp : P x) : PrL D v (fun f => P f ∧ f ≠ x) (n - 1) := by
  obtain ⟨L, h1, h2, h3⟩ := h
  have hm := (h2 x).2 ⟨hx, hp⟩
  refine ⟨L.erase x, h1.erase x, fun f => ?_, ?_⟩
  · rw [h1.mem_erase_iff, h2]
    exact ⟨fun z => ⟨z.2.1, z.2.2, z.1⟩, fun z => ⟨z.2.2, z.1, z.2.1⟩⟩
  · have := List.length_erase_of_mem hm
    have := List.length_pos_of_mem hm
    rw [h3]; omega
theorem PrL.zero {D : Dat} {v : Int} {P : Int → Prop} (h : PrL D v P 0) : ∀ f w, Ed D f v 0 w → ¬ P f := by
  obtain ⟨L, h1, h2, h3⟩ := h
  have : L = [] := List.eq_nil_of_length_eq_zero (by omega)
  subst this
  intro f w hw hp
  have := (h2 f).2 ⟨⟨w, hw⟩, hp⟩
  cases this
theorem PrL.pos {D : Dat} {v n : Int} {P : Int → Prop} (h : PrL D v P n) (hn : n ≠ 0) : ∃ f, (∃ w, Ed D f v 0 w) ∧ P f := by
  obtain ⟨L, h1, h2, h3⟩ := h
  cases L with
  | nil => exact absurd h3 hn
  | cons x L => exact ⟨x, (h2 x).1 List.mem_cons_self⟩
def CL (D : Dat) (ls : Int → Int) (m : MI) : Prop := (∀ v, 0 ≤ v → v < nn D → m 464 v = ls v) ∧ (∀ v, 0 ≤ v → v < nn D → PrL D v (fun f => ls f = -1) (m 466 v)) ∧ (∀ v, 0 ≤ v → v < nn D → 0 ≤ m 465 v ∧ (∀ f w, Ed D f v 0 w → ls f ≠ -1 → ls f + w ≤ m 465 v) ∧ (m 465 v = 0 ∨ ∃ f w, Ed D f v 0 w ∧ ls f ≠ -1 ∧ m 465 v = ls f + w))
theorem CL.l {D : Dat} {ls : Int → Int} {m : MI} (h0 : CL D ls m) : ∀ v, 0 ≤ v → v < nn D → m 464 v = ls v := h0.1
theorem CL.u {D : Dat} {ls : Int → Int} {m : MI} (h0 : CL D ls m) : ∀ v, 0 ≤ v → v < nn D → PrL D v (fun f => ls f = -1) (m 466 v) := h0.2.1
theorem CL.e {D : Dat} {ls : Int → Int} {m : MI} (h0 : CL D ls m) : ∀ v, 0 ≤ v → v < nn D → 0 ≤ m 465 v ∧ (∀ f w, Ed D f v 0 w → ls f ≠ -1 → ls f + w ≤ m 465 v) ∧ (m 465 v = 0 ∨ ∃ f w, Ed D f v 0 w ∧ ls f ≠ -1 ∧ m 465 v = ls f + w) := h0.2.2
theorem CL.mk {D : Dat} {ls : Int → Int} {m : MI} (h0 : ∀ v, 0 ≤ v → v < nn D → m 464 v = ls v) (h1 : ∀ v, 0 ≤ v → v < nn D → PrL D v (fun f => ls f = -1) (m 466 v)) (h2 : ∀ v, 0 ≤ v → v < nn D → 0 ≤ m 465 v ∧ (∀ f w, Ed D f v 0 w → ls f ≠ -1 → ls f + w ≤ m 465 v) ∧ (m 465 v = 0 ∨ ∃ f w, Ed D f v 0 w ∧ ls f ≠ -1 ∧ m 465 v = ls f + w)) : CL D ls m := ⟨h0, h1, h2⟩
theorem CL.ready {D : Dat} {ls : Int → Int} {m : MI} {c : Int} (h : CL D ls m) (h0 : 0 ≤ c) {k : Int} (hk : 0 ≤ k ∧ k < nn D) : ready D c ls k ↔ m 464 k = -1 ∧ m 466 k = 0 ∧ m 465 k ≤ c ∧ cntL D ls (kdv D k) c < D.un (kdv D k) := by
  obtain ⟨e1, e2, e3⟩ := h.e k hk.1 hk.2
  have hu := h.u k hk.1 hk.2
  rw [h.l k hk.1 hk.2]
  constructor
  · rintro ⟨_, _, a, b, d⟩
    refine ⟨a, Classical.byContradiction (fun z => ?_), ?_, d⟩
    · obtain ⟨f, ⟨w, hw⟩, hf⟩ := hu.pos z
      exact (b f w hw).1 hf
    · rcases e3 with z | ⟨f, w, z1, z2, z3⟩
      · omega
      · have := (b f w z1).2; omega
  · rintro ⟨a, b, c', d⟩
    rw [b] at hu
    refine ⟨hk.1, hk.2, a, fun f w hw => ?_, d⟩
    have nf := hu.zero f w hw
    have := e2 f w hw nf
    exact ⟨nf, by omega⟩
theorem choose_w {D : Dat} (ok : DOk D) {i r : MI} {ls : Int → Int} {c : Int} {Q : Int → Prop} (h : NV D i) (hu : ∀ k, 0 ≤ k → k < 7 → i 69 k = D.un k) (cl : CL D ls i) (h0 : 0 ≤ c) (hb : ∀ k, 0 ≤ k → k < 7 → i 467 k = cntL D ls k c)
    (h1 : ∀ k, chosen D (i 463) c ls k → Q k) (hn1 : (∀ k, ¬ ready D c ls k) → Q (-1)) : wp_X9_chooseFor c i r Q := by
  have hn := nn_le ok
  unfold wp_X9_chooseFor
  refine Lp.r2 (fun (b x : Int) => 0 ≤ x ∧ x ≤ nn D ∧ ((b = -1 ∧ ∀ k, k < x → ¬ ready D c ls k) ∨ (b < x ∧ ready D c ls b ∧ ∀ k, k < x → ready D c ls k → i 463 b < i 463 k ∨ (i 463 b = i 463 k ∧ b ≤ k)))) (fun _ x => (nn D - x).toNat) ?_ ⟨by decide, hn.1, .inl ⟨rfl, fun k a z => by have := z.1; omega⟩⟩
  intro b x C ⟨g0, g1, g2⟩ hC
  dsimp only [b5_X9_chooseFor]
  rw [h.n]
  refine ⟨fun q => ?_, fun q => ⟨by omega, by omega, ?_⟩⟩
  · rcases g2 with ⟨rfl, z⟩ | ⟨z1, z2, z3⟩
    · exact hn1 (fun k w => z k (by have := w.2.1; omega) w)
    · exact h1 b ⟨z2, fun k w => z3 k (by have := w.2.1; omega) w⟩
  · have hx : 0 ≤ x ∧ x < nn D := ⟨g0, by omega⟩
    have hk := kdv_r ok hx
    have hr := cl.ready h0 hx
    have w1 : wr (x + 1) = x + 1 := wr_of (by omega) (by omega)
    unfold s96_X9_chooseFor s99_X9_chooseFor
    rw [w1, h.kd hx, hu _ hk.1 hk.2, hb _ hk.1 hk.2]
    have skip : ¬ ready D c ls x → C (b, x + 1) := by
      intro nr
      refine hC _ _ ⟨by omega, by omega, ?_⟩ (by omega)
      rcases g2 with ⟨z1, z⟩ | ⟨z1, z2, z3⟩
      · refine .inl ⟨z1, fun k a => ?_⟩
        by_cases e : k = x
        · rw [e]; exact nr
        · exact z k (by omega)
      · refine .inr ⟨by omega, z2, fun k a w => ?_⟩
        by_cases e : k = x
        · rw [e] at w; exact absurd w nr
        · exact z3 k (by omega) w
    refine ⟨fun e1 => ⟨by omega, fun e2 => ⟨by omega, fun e3 => skip (fun z => by have := (hr.1 z).2.2.1; omega), fun e3 => ⟨by omega, by omega, fun e4 => skip (fun z => by have := (hr.1 z).2.2.2; omega), fun e4 => ?_⟩⟩, fun e2 => skip (fun z => e2 (hr.1 z).2.1)⟩, fun e1 => skip (fun z => e1 (hr.1 z).1)⟩
    have rx : ready D c ls x := hr.2 ⟨e1, e2, by omega, by omega⟩
    refine ⟨fun eb => ?_, fun eb => ?_⟩
    · rcases g2 with ⟨z1, z⟩ | ⟨z1, z2, z3⟩
      · refine hC _ _ ⟨by omega, by omega, .inr ⟨by omega, rx, fun k a w => ?_⟩⟩ (by omega)
        by_cases e : k = x
        · rw [e]; exact .inr ⟨rfl, Int.le_refl _⟩
        · exact absurd w (z k (by omega))
      · have := z2.1; omega
    · rcases g2 with ⟨z1, z⟩ | ⟨z1, z2, z3⟩
      · exact absurd z1 eb
      · refine ⟨by omega, by have := z2.1; have := z2.2.1; omega, fun el => hC _ _ ⟨by omega, by omega, .inr ⟨by omega, z2, fun k a w => ?_⟩⟩ (by omega), fun el => hC _ _ ⟨by omega, by omega, .inr ⟨by omega, rx, fun k a w => ?_⟩⟩ (by omega)⟩
        · by_cases e : k = x
          · rw [e]; omega
          · exact z3 k (by omega) w
        · by_cases e : k = x
          · rw [e]; exact .inr ⟨rfl, Int.le_refl _⟩
          · have := z3 k (by omega) w; omega
theorem beginAt_w {D : Dat} (ok : DOk D) {i r : MI} {ls : Int → Int} {c x : Int} {Q : MI → Prop} (h : NV D i) (g : M2 D i) (cl : CL D ls i) (hc : 0 ≤ c ∧ c ≤ 480) (hb : ∀ k, 0 ≤ k → k < 7 → i 467 k = cntL D ls k c) (hx : ready D c ls x)
    (hQ : ∀ i', FO i i' → i' 462 = i 462 → i' 463 = i 463 → CL D (iup ls x c) i' → (∀ k, 0 ≤ k → k < 7 → i' 467 k = cntL D (iup ls x c) k c) → Q i') : wp_X9_beginAt x c i r Q := by
  have hn := nn_le ok
  obtain ⟨x0, x1, x2, x3, x4⟩ := hx
  have hk := kdv_r ok ⟨x0, x1⟩
  have xc : iup ls x c x = c := by unfold iup; rw [if_pos rfl]
  have xn : ∀ f, f ≠ x → iup ls x c f = ls f := fun f e => by unfold iup; rw [if_neg e]
  have cb : 0 ≤ cntL D ls (kdv D x) c ∧ cntL D ls (kdv D x) c ≤ 96 := by
    have := cntN_b (D := D) (ls := ls) (k := kdv D x) (c := c) (nn D).toNat
    unfold cntL; omega
  unfold wp_X9_beginAt
  have k3 : st i 464 x c (72 + x) 3 = kdv D x := by rw [st_row (by omega)]; exact h.kd ⟨x0, x1⟩
  rw [k3, st_row (a := 467) (by omega), hb _ hk.1 hk.2, wr_of (x := _ + 1) (by omega) (by omega)]
  refine ⟨by omega, by omega, hk, hk, ?_⟩
  have gz := g.z x x0 (by omega)
  have sE : ∀ v w, Ed D x v 0 w → ∃ e, 0 ≤ e ∧ e < i 460 x ∧ i (170 + x) e = v ∧ i (267 + x) e = 0 ∧ i (364 + x) e = w := fun v w z => GrC.fd ok g z
  refine Lp.r2 (fun (y : Int) (m : MI) => 0 ≤ y ∧ y ≤ i 460 x ∧ FO i m ∧ m 462 = i 462 ∧ m 463 = i 463 ∧ (∀ v, 0 ≤ v → v < nn D → m 464 v = iup ls x c v) ∧ (∀ k, 0 ≤ k → k < 7 → m 467 k = cntL D (iup ls x c) k c) ∧
    (∀ v, 0 ≤ v → v < nn D → PrL D v (fun f => ls f = -1 ∧ (f = x → ¬ ∃ e, 0 ≤ e ∧ e < y ∧ i (170 + x) e = v ∧ i (267 + x) e = 0)) (m 466 v)) ∧
    (∀ v, 0 ≤ v → v < nn D → 0 ≤ m 465 v ∧ (∀ f w, Ed D f v 0 w → (ls f ≠ -1 ∨ (f = x ∧ ∃ e, 0 ≤ e ∧ e < y ∧ i (170 + x) e = v ∧ i (267 + x) e = 0)) → iup ls x c f + w ≤ m 465 v) ∧ (m 465 v = 0 ∨ ∃ f w, Ed D f v 0 w ∧ (ls f ≠ -1 ∨ (f = x ∧ ∃ e, 0 ≤ e ∧ e < y ∧ i (170 + x) e = v ∧ i (267 + x) e = 0)) ∧ m 465 v = iup ls x c f + w))) (fun y _ => (100 - y).toNat) ?_ ⟨by decide, gz.1, (FO.st (by decide)).trans (FO.st (by decide)), by simp (disch := omega) only [st_row], by simp (disch := omega) only [st_row], fun v a b => ?_, fun k a b => ?_, fun v a b => ?_, fun v a b => ?_⟩
  · intro y m C ⟨j0, j1, j2, j3, jl, j4, j5, j6, j7⟩ hC
    dsimp only [b29_X9_beginAt, s103_X9_beginAt]
    have r460 : m 460 = i 460 := j2 _ (by omega)
    have r170 : m (170 + x) = i (170 + x) := j2 _ (by omega)
    have r267 : m (267 + x) = i (267 + x) := j2 _ (by omega)
    have r364 : m (364 + x) = i (364 + x) := j2 _ (by omega)
    rw [r460, r170, r267]
    refine ⟨by omega, fun q => ?_, fun q => ⟨by omega, by omega, ?_⟩⟩
    · have ey : y = i 460 x := by omega
      refine hQ m j2 j3 jl ⟨j4, fun v a b => (j6 v a b).iff (fun f hf => ?_), fun v a b => ?_⟩ j5
      · constructor
        · rintro ⟨z1, z2⟩
          by_cases e : f = x
          · subst e
            obtain ⟨w, hw⟩ := hf
            obtain ⟨e, e0, e1, e2, e3, _⟩ := sE v w hw
            exact absurd ⟨e, e0, by omega, e2, e3⟩ (z2 rfl)
          · rw [xn f e]; exact z1
        · intro z
          by_cases e : f = x
          · rw [e, xc] at z; omega
          · rw [xn f e] at z; exact ⟨z, fun w => absurd w e⟩
      · obtain ⟨a1, a2, a3⟩ := j7 v a b
        have eqv : ∀ f w, Ed D f v 0 w → ((ls f ≠ -1 ∨ (f = x ∧ ∃ e, 0 ≤ e ∧ e < y ∧ i (170 + x) e = v ∧ i (267 + x) e = 0)) ↔ iup ls x c f ≠ -1) := by
          intro f w hw
          by_cases e : f = x
          · subst e
            obtain ⟨e, e0, e1, e2, e3, _⟩ := sE v w hw
            rw [xc]
            exact ⟨fun _ => by omega, fun _ => .inr ⟨rfl, e, e0, by omega, e2, e3⟩⟩
          · rw [xn f e]
            exact ⟨fun z => z.elim id (fun z => absurd z.1 e), .inl⟩
        refine ⟨a1, fun f w hw z => a2 f w hw ((eqv f w hw).2 z), a3.imp id (fun ⟨f, w, z1, z2, z3⟩ => ⟨f, w, z1, (eqv f w z1).1 z2, z3⟩)⟩
    · have hE := GrC.ed ok g ⟨x0, x1⟩ ⟨j0, by omega⟩
      rw [wr_of (x := y + 1) (by omega) (by omega)]
      refine ⟨fun e0 => ?_, fun e0 => ?_⟩
      · rw [e0] at hE
        obtain ⟨_, ht, _, _, hlt, hw1, hw2⟩ := ed_props ok hE
        have hlt := hlt rfl
        have cx := cyv_r ok ⟨x0, x1⟩
        generalize htd : i (170 + x) y = t at *
        have r36 : st m 466 t (wr (m 466 t - 1)) (364 + x) y = i (364 + x) y := by rw [st_row (by omega), r364]
        have hp6 := (j6 t ht.1 ht.2).le ok
        rw [r36, st_row (a := 465) (by omega), wr_of (x := m 466 t - 1) (by omega) (by omega), wr_of (x := c + i (364 + x) y) (by omega) (by omega)]
        have old : ¬ ∃ e, 0 ≤ e ∧ e < y ∧ i (170 + x) e = t ∧ i (267 + x) e = 0 := by
          rintro ⟨e, e1, e2, e3, e4⟩
          have := g.u x e y x0 (by omega) e1 (by omega) j0 (by omega) (by rw [e3, htd]) (by rw [e4, e0])
          omega
        have done1 : ∀ v, v ≠ t → ((∃ e, 0 ≤ e ∧ e < y + 1 ∧ i (170 + x) e = v ∧ i (267 + x) e = 0) ↔ ∃ e, 0 ≤ e ∧ e < y ∧ i (170 + x) e = v ∧ i (267 + x) e = 0) := by
          intro v hv
          constructor
          · rintro ⟨e, e1, e2, e3, e4⟩
            by_cases ee : e = y
            · rw [ee, htd] at e3; exact absurd e3.symm hv
            · exact ⟨e, e1, by omega, e3, e4⟩
          · rintro ⟨e, e1, e2, e3, e4⟩
            exact ⟨e, e1, by omega, e3, e4⟩
        have done2 : ∃ e, 0 ≤ e ∧ e < y + 1 ∧ i (170 + x) e = t ∧ i (267 + x) e = 0 := ⟨y, j0, by omega, htd, e0⟩
        refine ⟨by omega, by omega, by omega, by omega, by omega, by omega, by omega, by omega, ?_⟩
        refine hC _ _ ⟨by omega, by omega, j2.trans ((FO.st (by decide)).trans (FO.st (by decide))), by simp (disch := omega) only [st_row]; exact j3, by simp (disch := omega) only [st_row]; exact jl, fun v a b => by simp (disch := omega) only [st_row]; exact j4 v a b, fun k a b => by simp (disch := omega) only [st_row]; exact j5 k a b, fun v a b => ?_, fun v a b => ?_⟩ (by omega)
        · rw [st_row (by decide)]
          by_cases ev : v = t
          · subst ev
            rw [st_eq]
            refine ((j6 v a b).rem ⟨_, hE⟩ ⟨x2, fun _ => old⟩).iff (fun f hf => ?_)
            constructor
            · rintro ⟨⟨z1, z2⟩, z3⟩; exact ⟨z1, fun w => absurd w z3⟩
            · rintro ⟨z1, z2⟩
              exact ⟨⟨z1, fun w => by have := z2 w; exact absurd done2 this⟩, fun w => z2 w done2⟩
          · rw [st_ne (by omega)]
            exact (j6 v a b).iff (fun f hf => by rw [done1 v ev])
        · obtain ⟨a1, a2, a3⟩ := j7 v a b
          by_cases ev : v = t
          · subst ev
            rw [st_eq]
            refine ⟨by clear a3; omega, fun f w hw z => ?_, ?_⟩
            · rcases z with z | ⟨rfl, _⟩
              · have := a2 f w hw (.inl z); clear a3; omega
              · have := Mx_uniq hw hE
                rw [xc, this]; clear a3; omega
            · rcases Int.le_total (m 465 v) (c + i (364 + x) y) with z | z
              · exact .inr ⟨x, _, hE, .inr ⟨rfl, done2⟩, by rw [xc, Int.max_eq_right z]⟩
              · rw [Int.max_eq_left z]
                refine a3.imp id (fun ⟨f, w, z1, z2, z3⟩ => ⟨f, w, z1, z2.imp id (fun z => absurd z.2 old), z3⟩)
          · rw [st_ne (by omega), st_row (by decide)]
            refine ⟨a1, fun f w hw z => a2 f w hw (z.imp id (fun z => ⟨z.1, (done1 v ev).1 z.2⟩)), a3.imp id (fun ⟨f, w, z1, z2, z3⟩ => ⟨f, w, z1, z2.imp id (fun z => ⟨z.1, (done1 v ev).2 z.2⟩), z3⟩)⟩
      · have done1 : ∀ v, ((∃ e, 0 ≤ e ∧ e < y + 1 ∧ i (170 + x) e = v ∧ i (267 + x) e = 0) ↔ ∃ e, 0 ≤ e ∧ e < y ∧ i (170 + x) e = v ∧ i (267 + x) e = 0) := by
          intro v
          constructor
          · rintro ⟨e, e1, e2, e3, e4⟩
            by_cases ee : e = y
            · rw [ee] at e4; exact absurd e4 e0
            · exact ⟨e, e1, by omega, e3, e4⟩
          · rintro ⟨e, e1, e2, e3, e4⟩
            exact ⟨e, e1, by omega, e3, e4⟩
        refine hC _ _ ⟨by omega, by omega, j2, j3, jl, j4, j5, fun v a b => (j6 v a b).iff (fun f hf => by rw [done1 v]), fun v a b => ?_⟩ (by omega)
        obtain ⟨a1, a2, a3⟩ := j7 v a b
        exact ⟨a1, fun f w hw z => a2 f w hw (z.imp id (fun z => ⟨z.1, (done1 v).1 z.2⟩)), a3.imp id (fun ⟨f, w, z1, z2, z3⟩ => ⟨f, w, z1, z2.imp id (fun z => ⟨z.1, (done1 v).2 z.2⟩), z3⟩)⟩
  · rw [st_row (by decide)]
    by_cases e : v = x
    · rw [e, st_eq, xc]
    · rw [st_ne (by omega), xn v e]; exact cl.l v a b
  · have hup := cntN_up (D := D) (ls := ls) (k := k) (c := c) (x := x) (by omega) (nn D).toNat x0
    have e1 : cntL D (iup ls x c) k c = cntL D ls k c + if x < (((nn D).toNat : Nat) : Int) ∧ kdv D x = k then 1 else 0 := hup
    rw [e1]
    by_cases e : k = kdv D x
    · rw [e, st_eq, if_pos ⟨by omega, rfl⟩]
    · rw [st_ne (by omega), st_row (by decide), if_neg (fun z => e z.2.symm), hb k a b]; omega
  · rw [st_row (by decide), st_row (by decide)]
    refine (cl.u v a b).iff (fun f hf => ⟨fun z => ⟨z, fun _ w => by obtain ⟨e, e1, e2, _⟩ := w; omega⟩, fun z => z.1⟩)
  · rw [st_row (by decide), st_row (by decide)]
    obtain ⟨a1, a2, a3⟩ := cl.e v a b
    refine ⟨a1, fun f w hw z => ?_, a3.imp id (fun ⟨f, w, z1, z2, z3⟩ => ⟨f, w, z1, .inl z2, ?_⟩)⟩
    · rcases z with z | ⟨_, e, e1, e2, _⟩
      · rw [xn f (fun w => z (by rw [w]; exact x2))]; exact a2 f w hw z
      · omega
    · rw [xn f (fun w => z2 (by rw [w]; exact x2))]; exact z3
