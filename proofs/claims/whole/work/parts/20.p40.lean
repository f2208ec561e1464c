/-! ===== steps as soon and as late ===== -/
def Ed (D : Dat) (f t d w : Int) : Prop := Mx (Raw D) f t d w
theorem raw_props {D : Dat} (ok : DOk D) {f t d w : Int} (h : Raw D f t d w) : (0 ≤ f ∧ f < nn D) ∧ (0 ≤ t ∧ t < nn D) ∧ 0 ≤ d ∧ d ≤ 21 ∧ (d = 0 → f < t) ∧ -4 ≤ w ∧ w ≤ cyv D f := by
  obtain ⟨a1, a2, a3, a4, a5⟩ := h
  have cf := cyv_r ok ⟨a1, a2⟩
  have ct := cyv_r ok ⟨a3, a4⟩
  refine ⟨⟨a1, a2⟩, ⟨a3, a4⟩, ?_⟩
  rcases a5 with ⟨b1, b2, b3⟩ | ⟨p, p0, p1, b1, b2, b3⟩ | ⟨p, p0, p1, b1, b2⟩ | ⟨b1, b2⟩ | ⟨b1, b2⟩
  · have := with_role ok ⟨a3, a4⟩ a1 b1
    exact ⟨by omega, by omega, fun _ => this.1, by omega, by omega⟩
  · rcases b2 with ⟨z, z2⟩ | ⟨z, z2, z3⟩
    · exact ⟨by omega, by omega, fun _ => z.2.2.1, by omega, by omega⟩
    · exact ⟨by omega, by omega, fun _ => by omega, by omega, by omega⟩
  · have hw : -4 ≤ w ∧ w ≤ cyv D f := by rcases b2 with ⟨_, y⟩ | ⟨_, y⟩ <;> omega
    rcases b1.2 with ⟨z, z2⟩ | ⟨z, z2, z3⟩
    · exact ⟨by omega, by omega, fun _ => z.2.2.1, hw.1, hw.2⟩
    · exact ⟨by omega, by omega, fun _ => by omega, hw.1, hw.2⟩
  · have hw : -4 ≤ w ∧ w ≤ cyv D f := by rcases b2 with ⟨_, y⟩ | ⟨_, _, y⟩ | ⟨_, _, y⟩ <;> omega
    have mf := b1.2.1
    have mt : isMem D t := by unfold isMem; rw [← b1.2.2.1]; exact mf
    have pf := mem_fp ok ⟨a1, a2⟩ mf
    have pt := mem_fp ok ⟨a3, a4⟩ mt
    have hd := b1.2.2.2.2
    have hfac := ok.fac
    unfold memD at hd
    by_cases e : tnN D (nd D f) = 1 ∧ tnN D (nd D t) = 1
    · rw [if_pos e] at hd
      have : d ≤ D.fac * d := by
        have := Int.mul_le_mul_of_nonneg_right hfac.1 hd.1
        omega
      exact ⟨hd.1, by omega, hd.2.2, hw.1, hw.2⟩
    · rw [if_neg e] at hd
      have hd2 := hd.2
      split at hd2
      · rename_i q; exact ⟨by omega, by omega, fun _ => q, hw.1, hw.2⟩
      · exact ⟨by omega, by omega, fun _ => by omega, hw.1, hw.2⟩
  · rcases b1.2.2.2 with ⟨z, z2⟩ | ⟨z, z2, z3⟩
    · exact ⟨by omega, by omega, fun _ => z.2.2.1, by omega, by omega⟩
    · exact ⟨by omega, by omega, fun _ => by omega, by omega, by omega⟩
theorem ed_props {D : Dat} (ok : DOk D) {f t d w : Int} (h : Ed D f t d w) : (0 ≤ f ∧ f < nn D) ∧ (0 ≤ t ∧ t < nn D) ∧ 0 ≤ d ∧ d ≤ 21 ∧ (d = 0 → f < t) ∧ -4 ≤ w ∧ w ≤ cyv D f := raw_props ok h.1
def sumN (D : Dat) : Nat → Int
  | 0 => 0
  | k + 1 => sumN D k + cyv D k
def sumC (D : Dat) (v : Int) : Int := sumN D v.toNat
theorem sumC_s {D : Dat} {v : Int} (h : 0 ≤ v) : sumC D (v + 1) = sumC D v + cyv D v := by
  unfold sumC
  rw [show (v + 1).toNat = v.toNat + 1 by omega]
  show sumN D v.toNat + cyv D (v.toNat : Int) = _
  rw [show (v.toNat : Int) = v by omega]
theorem sumC_mono {D : Dat} (ok : DOk D) {u v : Int} (h0 : 0 ≤ u) (h : u ≤ v) (hv : v ≤ nn D) : sumC D u ≤ sumC D v := by
  have key : ∀ k : Nat, u + k ≤ nn D → sumC D u ≤ sumC D (u + k) := by
    intro k
    induction k with
    | zero => intro _; simp
    | succ k ih =>
      intro hk
      have := ih (by omega)
      have c := cyv_r ok (v := u + k) ⟨by omega, by omega⟩
      rw [show u + ((k + 1 : Nat) : Int) = u + k + 1 by omega, sumC_s (by omega)]
      omega
  have := key (v - u).toNat (by omega)
  rw [show u + ((v - u).toNat : Int) = v by omega] at this
  exact this
theorem sumC_b {D : Dat} (ok : DOk D) {v : Int} (h0 : 0 ≤ v) (hv : v ≤ nn D) : 0 ≤ sumC D v ∧ sumC D v ≤ 5 * v := by
  have key : ∀ k : Nat, (k : Int) ≤ nn D → 0 ≤ sumC D k ∧ sumC D k ≤ 5 * k := by
    intro k
    induction k with
    | zero => intro _; exact ⟨by show (0 : Int) ≤ 0; omega, by show (0 : Int) ≤ _; omega⟩
    | succ k ih =>
      intro hk
      have := ih (by omega)
      have c := cyv_r ok (v := (k : Int)) ⟨by omega, by omega⟩
      rw [show ((k + 1 : Nat) : Int) = (k : Int) + 1 by omega, sumC_s (by omega)]
      omega
  have := key v.toNat (by omega)
  rw [show (v.toNat : Int) = v by omega] at this
  exact this
def IsSoon (D : Dat) (s : Int → Int) : Prop := ∀ v, 0 ≤ v → v < nn D → 0 ≤ s v ∧ s v ≤ sumC D v ∧ (∀ f w, Ed D f v 0 w → s f + w ≤ s v) ∧ (s v = 0 ∨ ∃ f w, Ed D f v 0 w ∧ s v = s f + w)
theorem soon_uniq {D : Dat} (ok : DOk D) {s s' : Int → Int} (h : IsSoon D s) (g : IsSoon D s') : ∀ v, 0 ≤ v → v < nn D → s v = s' v := by
  have key : ∀ (n : Nat) (v : Int), v < n → 0 ≤ v → v < nn D → s v = s' v := by
    intro n
    induction n with
    | zero => intro v a b; omega
    | succ n ih =>
      intro v a b c
      obtain ⟨h1, _, h2, h3⟩ := h v b c
      obtain ⟨g1, _, g2, g3⟩ := g v b c
      have ff : ∀ f w, Ed D f v 0 w → s f = s' f := fun f w z => by
        have := ed_props ok z
        exact ih f (by omega) this.1.1 this.1.2
      have l1 : s v ≤ s' v := by
        rcases h3 with e | ⟨f, w, e1, e2⟩
        · omega
        · have := g2 f w e1; rw [← ff f w e1] at this; omega
      have l2 : s' v ≤ s v := by
        rcases g3 with e | ⟨f, w, e1, e2⟩
        · omega
        · have := h2 f w e1; rw [ff f w e1] at this; omega
      omega
  exact fun v a b => key (v.toNat + 1) v (by omega) a b
/-- while soonest steps are pushed on: P are the edges that were gone through -/
def SI (D : Dat) (P : Int → Int → Int → Prop) (s : Int → Int) : Prop := ∀ v, 0 ≤ v → v < nn D → 0 ≤ s v ∧ s v ≤ sumC D v ∧ (∀ f w, P f v w → s f + w ≤ s v) ∧ (s v = 0 ∨ ∃ f w, P f v w ∧ s v = s f + w)
theorem SI_step {D : Dat} (ok : DOk D) {P : Int → Int → Int → Prop} {s : Int → Int} {x t w : Int} (h : SI D P s) (hP : ∀ f v w, P f v w → f ≤ x) (he : Ed D x t 0 w) : SI D (fun f v y => P f v y ∨ (f = x ∧ v = t ∧ y = w)) (iup s t (max (s t) (s x + w))) := by
  obtain ⟨hx, ht, _, _, hlt, _, hw⟩ := ed_props ok he
  have hlt := hlt rfl
  intro v v0 v1
  obtain ⟨h1, h2, h3, h4⟩ := h v v0 v1
  have old : ∀ f, f ≤ x → iup s t (max (s t) (s x + w)) f = s f := fun f hf => by unfold iup; rw [if_neg (by omega)]
  by_cases e : v = t
  · subst e
    have ev : iup s v (max (s v) (s x + w)) v = max (s v) (s x + w) := by unfold iup; rw [if_pos rfl]
    have x2 := (h x hx.1 hx.2).2.1
    have m1 := sumC_mono ok (u := x + 1) (v := v) (by omega) (by omega) (by omega)
    rw [sumC_s hx.1] at m1
    rw [ev]
    refine ⟨by clear h4; omega, by clear h4; omega, fun f y z => ?_, ?_⟩
    · rcases z with z | ⟨rfl, _, rfl⟩
      · rw [old f (hP _ _ _ z)]
        have := h3 f y z
        clear h4
        omega
      · rw [old f (Int.le_refl _)]; clear h4; omega
    · rcases Int.le_total (s v) (s x + w) with q | q
      · exact .inr ⟨x, w, .inr ⟨rfl, rfl, rfl⟩, by rw [old x (Int.le_refl _)]; clear h4; omega⟩
      · rcases h4 with z | ⟨f, y, z1, z2⟩
        · exact .inl (by omega)
        · exact .inr ⟨f, y, .inl z1, by rw [old f (hP _ _ _ z1)]; omega⟩
  · have ev : iup s t (max (s t) (s x + w)) v = s v := by unfold iup; rw [if_neg e]
    rw [ev]
    refine ⟨h1, h2, fun f y z => ?_, ?_⟩
    · rcases z with z | ⟨_, z, _⟩
      · rw [old f (hP _ _ _ z)]; exact h3 f y z
      · exact absurd z e
    · rcases h4 with z | ⟨f, y, z1, z2⟩
      · exact .inl z
      · exact .inr ⟨f, y, .inl z1, by rw [old f (hP _ _ _ z1)]; exact z2⟩
theorem GrC.ed {D : Dat} (ok : DOk D) {i : MI} (h : M2 D i) {f e : Int} (hf : 0 ≤ f ∧ f < nn D) (he : 0 ≤ e ∧ e < i 460 f) : Ed D f (i (170 + f) e) (i (267 + f) e) (i (364 + f) e) :=
  h.e f e hf.1 (by have := nn_le ok; omega) he.1 he.2
theorem GrC.fd {D : Dat} (ok : DOk D) {i : MI} (h : M2 D i) {f t d w : Int} (hE : Ed D f t d w) : ∃ e, 0 ≤ e ∧ e < i 460 f ∧ i (170 + f) e = t ∧ i (267 + f) e = d ∧ i (364 + f) e = w := by
  obtain ⟨e, a, b, c, d'⟩ := h.s f t d w hE.1
  have hf := (ed_props ok hE).1
  have := GrC.ed ok h hf ⟨a, b⟩
  rw [c, d'] at this
  exact ⟨e, a, b, c, d', Mx_uniq this hE⟩
/-- what ordering steps leaves alone -/
def FO (i i' : MI) : Prop := ∀ a, (a < 462 ∨ 468 < a) → i' a = i a
theorem FO.refl (i : MI) : FO i i := fun _ _ => rfl
theorem FO.trans {i j k : MI} (h : FO i j) (g : FO j k) : FO i k := fun a q => (g a q).trans (h a q)
theorem FO.st {a k v : Int} {i : MI} (h1 : 462 ≤ a ∧ a ≤ 468) : FO i (st i a k v) := fun b q => st_row (by omega)
theorem M2.fo {D : Dat} (ok : DOk D) {i i' : MI} (h : M2 D i) (g : FO i i') : M2 D i' := by
  have hn := nn_le ok
  refine ⟨?_, ?_, ?_, ?_, h.r, ?_⟩
  · rw [g _ (by omega)]; exact h.z
  · intro f e f0 f1; rw [g 460 (by omega), g _ (by omega), g _ (by omega), g _ (by omega)]; exact h.e f e f0 f1
  · intro f t d w hS
    have hf := hS.1
    have hf1 := hS.2.1
    rw [g 460 (by omega), g _ (by omega), g _ (by omega)]; exact h.s f t d w hS
  · intro f e e' f0 f1; rw [g 460 (by omega), g _ (by omega), g _ (by omega)]; exact h.u f e e' f0 f1
  · rw [g _ (by omega)]; exact h.c
theorem NV.fo {D : Dat} (ok : DOk D) {i i' : MI} (h : NV D i) (g : FO i i') : NV D i' := by
  have hn := nn_le ok
  refine ⟨by rw [g _ (by omega)]; exact h.n, fun v c v0 v1 c0 c1 => ?_, by rw [g _ (by omega)]; exact h.y⟩
  rw [g _ (by omega)]
  exact h.a v c v0 v1 c0 c1
theorem soonest_w {D : Dat} (ok : DOk D) {i r : MI} {Q : MI → Prop} (h : NV D i) (g : M2 D i) (hQ : ∀ i', FO i i' → IsSoon D (i' 462) → Q i') : wp_X9_orderSoonest i r Q := by
  have hn := nn_le ok
  unfold wp_X9_orderSoonest
  refine Lp.r2 (fun (x : Int) (m : MI) => 0 ≤ x ∧ x ≤ nn D ∧ FO i m ∧ ∀ v, 0 ≤ v → v < x → m 462 v = 0) (fun x _ => (nn D - x).toNat) ?_ ⟨by decide, hn.1, FO.refl i, fun v a b => by omega⟩
  intro x m C ⟨h0, h1, h2, h3⟩ hC
  dsimp only [b2_X9_orderSoonest]
  have hm := h.fo ok h2
  rw [hm.n]
  refine ⟨fun q => ?_, fun q => ⟨by omega, ?_⟩⟩
  · have s0 : SI D (fun f v w => Ed D f v 0 w ∧ f < 0) (m 462) := by
      intro v v0 v1
      have := sumC_b ok (v := v) v0 (by omega)
      rw [h3 v v0 (by omega)]
      exact ⟨by omega, this.1, fun f w z => by have := ed_props ok z.1; omega, .inl rfl⟩
    refine Lp.r2 (fun (x : Int) (m : MI) => 0 ≤ x ∧ x ≤ nn D ∧ FO i m ∧ SI D (fun f v w => Ed D f v 0 w ∧ f < x) (m 462)) (fun x _ => (nn D - x).toNat) ?_ ⟨by decide, hn.1, h2, s0⟩
    intro x m2 C2 ⟨k0, k1, k2, k3⟩ hC2
    dsimp only [b25_X9_orderSoonest]
    have hm2 := h.fo ok k2
    rw [hm2.n]
    refine ⟨fun q2 => hQ m2 k2 ?_, fun q2 => ?_⟩
    · have ex : x = nn D := by omega
      subst ex
      intro v v0 v1
      obtain ⟨a, b, c, d⟩ := k3 v v0 v1
      exact ⟨a, b, fun f w z => c f w ⟨z, (ed_props ok z).1.2⟩, d.elim .inl (fun ⟨f, w, z1, z2⟩ => .inr ⟨f, w, z1.1, z2⟩)⟩
    · have hx : 0 ≤ x ∧ x < nn D := ⟨k0, by omega⟩
      have gz := (g.fo ok k2).z x k0 (by omega)
      refine Lp.r2 (fun (y : Int) (m' : MI) => 0 ≤ y ∧ y ≤ i 460 x ∧ FO i m' ∧ SI D (fun f v w => (Ed D f v 0 w ∧ f < x) ∨ (f = x ∧ ∃ e, 0 ≤ e ∧ e < y ∧ i (170 + x) e = v ∧ i (267 + x) e = 0 ∧ i (364 + x) e = w)) (m' 462)) (fun y _ => (100 - y).toNat) ?_ ⟨by decide, by rw [k2 460 (by omega)] at gz; exact gz.1, k2, ?_⟩
      · intro y m3 C3 ⟨j0, j1, j2, j3⟩ hC3
        dsimp only [b36_X9_orderSoonest, s103_X9_orderSoonest]
        have gm := g.fo ok j2
        have gz3 := gm.z x k0 (by omega)
        have r460 : m3 460 = i 460 := j2 _ (by omega)
        have r170 : m3 (170 + x) = i (170 + x) := j2 _ (by omega)
        have r267 : m3 (267 + x) = i (267 + x) := j2 _ (by omega)
        have r364 : m3 (364 + x) = i (364 + x) := j2 _ (by omega)
        rw [r460] at gz3
        rw [r460, r170, r267, r364]
        refine ⟨by omega, fun q3 => ?_, fun q3 => ⟨by omega, by omega, ?_⟩⟩
        · rw [wr_of (by omega) (by omega)]
          refine hC2 _ _ ⟨by omega, by omega, j2, ?_⟩ (by omega)
          have ey : y = i 460 x := by omega
          intro v v0 v1
          obtain ⟨a, b, c, d⟩ := j3 v v0 v1
          refine ⟨a, b, fun f w z => c f w ?_, d.elim .inl (fun ⟨f, w, z1, z2⟩ => .inr ⟨f, w, ?_, z2⟩)⟩
          · by_cases ef : f = x
            · subst ef
              obtain ⟨e, e0, e1, e2, e3, e4⟩ := GrC.fd ok g z.1
              exact .inr ⟨rfl, e, e0, by omega, e2, e3, e4⟩
            · exact .inl ⟨z.1, by omega⟩
          · rcases z1 with z1 | ⟨rfl, e, e0, e1, e2, e3, e4⟩
            · exact ⟨z1.1, by omega⟩
            · have := GrC.ed ok g hx ⟨e0, by omega⟩
              rw [e2, e3, e4] at this
              exact ⟨this, by omega⟩
        · have he := GrC.ed ok g hx ⟨j0, by omega⟩
          rw [wr_of (x := y + 1) (by omega) (by omega)]
          refine ⟨fun e0 => ?_, fun e0 => ?_⟩
          · rw [e0] at he
            obtain ⟨_, ht, _, _, _, hw1, hw2⟩ := ed_props ok he
            have cx := cyv_r ok hx
            obtain ⟨a, b, _, _⟩ := j3 x hx.1 hx.2
            have sb := sumC_b ok (v := x) k0 (by omega)
            rw [wr_of (x := m3 462 x + i (364 + x) y) (by omega) (by omega)]
            refine ⟨by omega, by omega, by omega, by omega, by omega, by omega, by omega, ?_⟩
            refine hC3 _ _ ⟨by omega, by omega, j2.trans (FO.st (by decide)), ?_⟩ (by omega)
            have st2 := SI_step ok j3 (x := x) (fun f v w z => by rcases z with z | z <;> omega) he
            have er : st m3 462 (i (170 + x) y) (max (m3 462 (i (170 + x) y)) (m3 462 x + i (364 + x) y)) 462 = iup (m3 462) (i (170 + x) y) (max (m3 462 (i (170 + x) y)) (m3 462 x + i (364 + x) y)) := by
              funext c
              unfold iup
              by_cases z : c = i (170 + x) y
              · rw [z, st_eq, if_pos rfl]
              · rw [st_ne (by omega), if_neg z]
            rw [er]
            intro v v0 v1
            obtain ⟨a, b, c, d⟩ := st2 v v0 v1
            refine ⟨a, b, fun f w z => c f w ?_, d.elim .inl (fun ⟨f, w, z1, z2⟩ => .inr ⟨f, w, ?_, z2⟩)⟩
            · rcases z with z | ⟨rfl, e, e1, e2, e3, e4, e5⟩
              · exact .inl (.inl z)
              · by_cases ee : e = y
                · subst ee; exact .inr ⟨rfl, e3.symm, e5.symm⟩
                · exact .inl (.inr ⟨rfl, e, e1, by omega, e3, e4, e5⟩)
            · rcases z1 with (z | ⟨rfl, e, e1, e2, e3, e4, e5⟩) | ⟨rfl, rfl, rfl⟩
              · exact .inl z
              · exact .inr ⟨rfl, e, e1, by omega, e3, e4, e5⟩
              · exact .inr ⟨rfl, y, j0, by omega, rfl, e0, rfl⟩
          · refine hC3 _ _ ⟨by omega, by omega, j2, ?_⟩ (by omega)
            intro v v0 v1
            obtain ⟨a, b, c, d⟩ := j3 v v0 v1
            refine ⟨a, b, fun f w z => c f w ?_, d.elim .inl (fun ⟨f, w, z1, z2⟩ => .inr ⟨f, w, ?_, z2⟩)⟩
            · rcases z with z | ⟨rfl, e, e1, e2, e3, e4, e5⟩
              · exact .inl z
              · by_cases ee : e = y
                · subst ee; exact absurd e4 e0
                · exact .inr ⟨rfl, e, e1, by omega, e3, e4, e5⟩
            · rcases z1 with z | ⟨rfl, e, e1, e2, e3, e4, e5⟩
              · exact .inl z
              · exact .inr ⟨rfl, e, e1, by omega, e3, e4, e5⟩
      · intro v v0 v1
        obtain ⟨a, b, c, d⟩ := k3 v v0 v1
        refine ⟨a, b, fun f w z => ?_, d.elim .inl (fun ⟨f, w, z1, z2⟩ => .inr ⟨f, w, .inl z1, z2⟩)⟩
        rcases z with z | ⟨_, e, e1, e2, _⟩
        · exact c f w z
        · omega
  · rw [wr_of (by omega) (by omega)]
    refine hC _ _ ⟨by omega, by omega, h2.trans (FO.st (by decide)), fun v a b => ?_⟩ (by omega)
    by_cases e : v = x
    · rw [e, st_eq]
    · rw [st_ne (by omega)]; exact h3 v a (by omega)
