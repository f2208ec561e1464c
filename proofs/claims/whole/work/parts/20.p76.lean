/-! ===== all is kept ===== -/
def LOk (D : Dat) (c : Int) (ls : Int → Int) : Prop := (∀ f t w, Ed D f t 0 w → ls t ≠ -1 → ls f ≠ -1 ∧ ls f + w ≤ ls t) ∧ (∀ k c', 0 ≤ k → k < 7 → 0 ≤ c' → cntL D ls k c' ≤ D.un k)
theorem LOk.e {D : Dat} {c : Int} {ls : Int → Int} (h0 : LOk D c ls) : ∀ f t w, Ed D f t 0 w → ls t ≠ -1 → ls f ≠ -1 ∧ ls f + w ≤ ls t := h0.1
theorem LOk.u {D : Dat} {c : Int} {ls : Int → Int} (h0 : LOk D c ls) : ∀ k c', 0 ≤ k → k < 7 → 0 ≤ c' → cntL D ls k c' ≤ D.un k := h0.2
theorem LOk.mk {D : Dat} {c : Int} {ls : Int → Int} (h0 : ∀ f t w, Ed D f t 0 w → ls t ≠ -1 → ls f ≠ -1 ∧ ls f + w ≤ ls t) (h1 : ∀ k c', 0 ≤ k → k < 7 → 0 ≤ c' → cntL D ls k c' ≤ D.un k) : LOk D c ls := ⟨h0, h1⟩
theorem LOk.pick {D : Dat} (ok : DOk D) {c k : Int} {ls : Int → Int} (h : LOk D c ls) (hc : 0 ≤ c) (r : ready D c ls k) : LOk D c (iup ls k c) := by
  obtain ⟨k0, k1, kn, ke, ku⟩ := r
  refine ⟨fun f t w ed ht => ?_, fun k' c' a b d => ?_⟩
  · unfold iup at ht ⊢
    by_cases z : t = k
    · rw [z] at ed
      have := ke f w ed
      have ne : f ≠ k := fun y => this.1 (y ▸ kn)
      rw [if_pos z, if_neg ne]
      exact this
    · rw [if_neg z] at ht ⊢
      have := h.e f t w ed ht
      have ne : f ≠ k := fun y => this.1 (y ▸ kn)
      rw [if_neg ne]
      exact this
  · by_cases z : c' = c ∧ k' = kdv D k
    · rw [z.1, z.2]
      unfold cntL
      rw [cntN_up (by omega) _ k0]
      unfold cntL at ku
      split <;> omega
    · have : cntL D (iup ls k c) k' c' = cntL D ls k' c' := cntN_eq _ (fun v a b => by
        unfold iup
        by_cases y : v = k
        · rw [if_pos y, y]
          constructor
          · rintro ⟨p1, p2⟩; exact absurd ⟨p2.symm, p1.symm⟩ z
          · rintro ⟨p1, p2⟩; omega
        · rw [if_neg y])
      rw [this]
      exact h.u k' c' a b d
theorem LR_ok {D : Dat} (ok : DOk D) {la fin : Int → Int} : ∀ (n : Nat) (c : Int) (ls : Int → Int), 0 ≤ c → LR D la n c ls fin → LOk D c ls → LOk D 0 fin := by
  intro n
  induction n with
  | zero =>
    intro c ls hc h o
    refine ⟨fun f t w ed ht => ?_, fun k c' a b d => ?_⟩
    · obtain ⟨⟨f0, f1⟩, ⟨t0, t1⟩, _⟩ := ed_props ok ed
      rw [h.2 f f0 f1]
      rw [h.2 t t0 t1] at ht ⊢
      exact o.e f t w ed ht
    · have : cntL D fin k c' = cntL D ls k c' := cntN_eq _ (fun v x y => by rw [h.2 v x (by have := nn_le ok; omega)])
      rw [this]; exact o.u k c' a b d
  | succ n ih =>
    intro c ls hc h o
    rcases h with ⟨k, h1, h2⟩ | ⟨h1, h2, h3⟩
    · exact ih c _ hc h2 (o.pick ok hc h1.1)
    · exact ih (c + 1) ls (by omega) h3 ⟨o.e, o.u⟩
theorem list_ok {D : Dat} (ok : DOk D) {la fin : Int → Int} (h : IsList D la fin) : (∀ f t w, Ed D f t 0 w → fin f + w ≤ fin t) ∧ (∀ k c, 0 ≤ k → k < 7 → 0 ≤ c → cntL D fin k c ≤ D.un k) ∧ ∀ v, 0 ≤ v → v < nn D → 0 ≤ fin v ∧ fin v ≤ 480 := by
  obtain ⟨⟨n, lr⟩, al, c, j⟩ := h
  have o := LR_ok ok n 0 L00 (by decide) lr ⟨fun f t w ed ht => absurd rfl ht, fun k c' a b d => by
    have : cntL D L00 k c' = 0 := cntN_zero _ (fun v x y z => by unfold L00 at z; omega)
    rw [this]
    have := ok.un k a b
    omega⟩
  have jc := JL_c ok j
  refine ⟨fun f t w ed => (o.e f t w ed (al t (ed_props ok ed).2.1.1 (ed_props ok ed).2.1.2)).2, o.u, fun v a b => ?_⟩
  rcases j.2.1 v a b with z | z
  · exact absurd z (al v a b)
  · omega
theorem cntN_P {D : Dat} {ls : Int → Int} {k c : Int} : ∀ n : Nat, CntP (fun u => kdv D u = k ∧ ls u = c) n (cntN D ls k c n) := by
  intro n
  induction n with
  | zero => rfl
  | succ n ih =>
    show CntP _ (n + 1) (cntN D ls k c n + if kdv D n = k ∧ ls n = c then 1 else 0)
    by_cases z : kdv D n = k ∧ ls n = c
    · rw [if_pos z]; exact .inl ⟨z, by rw [show cntN D ls k c n + 1 - 1 = cntN D ls k c n by omega]; exact ih⟩
    · rw [if_neg z]; exact .inr ⟨z, by rw [Int.add_zero]; exact ih⟩
/-- no unit has more than it can -/
theorem pl_units {D : Dat} (ok : DOk D) {T : Int} {p : Int → Int} (h : PlU D T p (nn D)) {k rest : Int} (hk : 0 ≤ k ∧ k < 7) : ∀ n : Nat, (n : Int) ≤ nn D → ∀ x, CntP (UseP D T p k rest) n x → x ≤ D.un k := by
  intro n
  induction n with
  | zero =>
    intro _ x hx
    have := ok.un k hk.1 hk.2
    have z : x = 0 := hx
    omega
  | succ n ih =>
    intro hn x hx
    rcases hx with ⟨u, hx⟩ | ⟨_, hx⟩
    · obtain ⟨a, ha⟩ := h n (by omega) (by omega)
      obtain ⟨y, hy, lt⟩ := ha.t.2
      rw [u.1, u.2] at hy
      have := CntP.uniq _ _ _ hx hy
      rw [u.1] at lt
      omega
    · exact ih (by omega) x hx
theorem isDiv_e {a T : Int} {i r : MI} {Q : Int → Prop} (hT : 1 ≤ T) : wp_X11_isDivided a T i r Q ↔ Q (bz (Int.tmod a T = 0)) := by
  unfold wp_X11_isDivided s14_X11_isDivided s15_X11_isDivided bz
  by_cases z : Int.tmod a T = 0
  · rw [if_pos z]
    exact ⟨fun q => ((q.2 (by omega)).2.1 z).2, fun q => ⟨fun w => by omega, fun _ => ⟨by omega, fun _ => ⟨.inr rfl, q⟩, fun w => absurd z w⟩⟩⟩
  · rw [if_neg z]
    exact ⟨fun q => ((q.2 (by omega)).2.2 z).2, fun q => ⟨fun w => by omega, fun _ => ⟨by omega, fun w => absurd w z, fun _ => ⟨.inl rfl, q⟩⟩⟩⟩
theorem together_w {D : Dat} (ok : DOk D) {i r : MI} {o T v : Int} {Q : Int → Prop} (h : NV D i) (hT : 1 ≤ T) (hv : 0 ≤ v ∧ v < nn D) (hb : ∀ u, 0 ≤ u → u < nn D → 0 ≤ i o u ∧ i o u ≤ 100000) (hQ : ∀ x, CntP (fun u => kdv D u = kdv D v ∧ Int.tmod (i o u - i o v) T = 0) (nn D).toNat x → Q x) : wp_X0_countTogether o T v i r Q := by
  have nl := nn_le ok
  have bv := hb v hv.1 hv.2
  unfold wp_X0_countTogether
  refine Lp.r2 (fun (x u : Int) => 0 ≤ u ∧ u ≤ nn D ∧ CntP (fun u => kdv D u = kdv D v ∧ Int.tmod (i o u - i o v) T = 0) u.toNat x) (fun _ u => (nn D - u).toNat) ?_ ⟨by decide, nl.1, rfl⟩
  intro x u C ⟨u0, u1, hx⟩ hC
  dsimp only [b6_X0_countTogether, s55_X0_countTogether]
  have xb := CntP.b _ _ hx
  rw [h.n]
  refine ⟨fun q => hQ x (by rw [show nn D = u by omega]; exact hx), fun q => ⟨by omega, by omega, ?_⟩⟩
  have bu := hb u u0 (by omega)
  rw [h.kd ⟨u0, by omega⟩, h.kd hv, wr_of (x := u + 1) (by omega) (by omega), wr_of (x := x + 1) (by omega) (by omega), wr_of (x := i o u - i o v) (by omega) (by omega), isDiv_e hT]
  refine ⟨fun q2 => ⟨by omega, by omega, fun q3 => ?_, fun q3 => ?_⟩, fun q2 => hC _ _ ⟨by omega, by omega, hx.no u0 (fun z => q2 z.1)⟩ (by omega)⟩
  · refine hC _ _ ⟨by omega, by omega, hx.no u0 (fun z => ?_)⟩ (by omega)
    rw [bz, if_pos z.2] at q3; exact absurd q3 (by decide)
  · refine hC _ _ ⟨by omega, by omega, hx.yes u0 ⟨q2, Classical.byContradiction fun z => ?_⟩⟩ (by omega)
    rw [bz, if_neg z] at q3; exact q3 rfl
theorem unitsK_w {D : Dat} (ok : DOk D) {i r : MI} {o T : Int} {Q : Int → Prop} (h : NV D i) (hu : ∀ k, 0 ≤ k → k < 7 → i 69 k = D.un k) (hT : 1 ≤ T) (hb : ∀ u, 0 ≤ u → u < nn D → 0 ≤ i o u ∧ i o u ≤ 100000) (all : ∀ v, 0 ≤ v → v < nn D → ∀ x, CntP (fun u => kdv D u = kdv D v ∧ Int.tmod (i o u - i o v) T = 0) (nn D).toNat x → x ≤ D.un (kdv D v)) (hQ : Q 1) : wp_X0_areUnitsKept o T i r Q := by
  have nl := nn_le ok
  unfold wp_X0_areUnitsKept
  refine Lp.rule (fun (v : Int) => 0 ≤ v ∧ v ≤ nn D) (fun v => (nn D - v).toNat) ?_ _ ⟨by decide, nl.1⟩
  intro v C ⟨v0, v1⟩ hC
  dsimp only [b2_X0_areUnitsKept]
  rw [h.n]
  refine ⟨fun _ => hQ, fun q => together_w ok h hT ⟨v0, by omega⟩ hb (fun x hx => ?_)⟩
  have kr := kdv_r ok (v := v) ⟨v0, by omega⟩
  rw [h.kd ⟨v0, by omega⟩, hu _ kr.1 kr.2, wr_of (x := v + 1) (by omega) (by omega)]
  exact ⟨by omega, kr, fun _ => hC _ ⟨by omega, by omega⟩ (by omega), fun z => absurd (all v v0 (by omega) x hx) z⟩
theorem edgesK_w {D : Dat} (ok : DOk D) {i r : MI} {o T d : Int} {Q : Int → Prop} (h : NV D i) (g : M2 D i) (hT : 0 ≤ T ∧ T ≤ 481) (hb : ∀ u, 0 ≤ u → u < nn D → 0 ≤ i o u ∧ i o u ≤ 100000) (all : ∀ f t e w, Ed D f t e w → e ≤ d → i o f + w ≤ i o t + T * e) (hQ : Q 1) : wp_X2_isKept o T d i r Q := by
  have nl := nn_le ok
  unfold wp_X2_isKept
  refine Lp.rule (fun (v : Int) => 0 ≤ v ∧ v ≤ nn D) (fun v => (nn D - v).toNat) ?_ _ ⟨by decide, nl.1⟩
  intro v C ⟨v0, v1⟩ hC
  dsimp only [b3_X2_isKept]
  rw [h.n]
  refine ⟨fun _ => hQ, fun q => ?_⟩
  have gz := g.z v v0 (by omega)
  refine Lp.rule (fun (e : Int) => 0 ≤ e ∧ e ≤ i 460 v) (fun e => (i 460 v - e).toNat) ?_ _ ⟨by decide, gz.1⟩
  intro e C2 ⟨e0, e1⟩ hC2
  dsimp only [b15_X2_isKept, s87_X2_isKept]
  rw [wr_of (x := v + 1) (by omega) (by omega), wr_of (x := e + 1) (by omega) (by omega)]
  refine ⟨by omega, fun q2 => hC _ ⟨by omega, by omega⟩ (by omega), fun q2 => ?_⟩
  have ed := GrC.ed ok g (f := v) (e := e) ⟨v0, by omega⟩ ⟨e0, by omega⟩
  obtain ⟨_, ⟨t0, t1⟩, d0, d1, _, w0, w1⟩ := ed_props ok ed
  have td := td_b (T := T) hT ⟨d0, d1⟩
  have bt := hb _ t0 t1
  have bv := hb v v0 (by omega)
  have next := hC2 (e + 1) ⟨by omega, by omega⟩ (by omega)
  rw [wr_of (x := T * i (267 + v) e) (by omega) (by omega), wr_of (x := i o (i (170 + v) e) + T * i (267 + v) e) (by omega) (by omega), wr_of (x := i o (i (170 + v) e) + T * i (267 + v) e - i o v) (by omega) (by omega)]
  refine ⟨by omega, by omega, by omega, by omega, by omega, by omega, fun _ => next, fun q3 => ⟨by omega, by omega, fun _ => next, fun q4 => ?_⟩⟩
  have := all _ _ _ _ ed (by omega)
  omega
