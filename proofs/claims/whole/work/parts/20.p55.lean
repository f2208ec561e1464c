/-! ===== places: what they are ===== -/
def FromP (D : Dat) (T : Int) (p : Int → Int) (v a : Int) : Prop := 0 ≤ a ∧ (∀ u d w, Ed D u v d w → u < v → p u + w - T * d ≤ a) ∧ (a = 0 ∨ ∃ u d w, Ed D u v d w ∧ u < v ∧ a = p u + w - T * d)
def BackP (D : Dat) (T : Int) (p : Int → Int) (v s : Int) : Prop := ∀ t d w, Ed D v t d w → t < v → s + w - T * d ≤ p t
def UseP (D : Dat) (T : Int) (p : Int → Int) (k rest u : Int) : Prop := kdv D u = k ∧ Int.tmod (p u) T = rest
def FreeP (D : Dat) (T : Int) (p : Int → Int) (v s : Int) : Prop := ∃ x, CntP (UseP D T p (kdv D v) (Int.tmod s T)) v.toNat x ∧ x < D.un (kdv D v)
def FitP (D : Dat) (T : Int) (p : Int → Int) (v s : Int) : Prop := BackP D T p v s ∧ FreeP D T p v s
def PutP (D : Dat) (T : Int) (p : Int → Int) (v a s : Int) : Prop := (FromP D T p v a) ∧ (a ≤ s) ∧ (s < a + T) ∧ (FitP D T p v s) ∧ (∀ c, a ≤ c → c < s → ¬ FitP D T p v c)
theorem PutP.f {D : Dat} {T : Int} {p : Int → Int} {v a s : Int} (h0 : PutP D T p v a s) : FromP D T p v a := h0.1
theorem PutP.a {D : Dat} {T : Int} {p : Int → Int} {v a s : Int} (h0 : PutP D T p v a s) : a ≤ s := h0.2.1
theorem PutP.b {D : Dat} {T : Int} {p : Int → Int} {v a s : Int} (h0 : PutP D T p v a s) : s < a + T := h0.2.2.1
theorem PutP.t {D : Dat} {T : Int} {p : Int → Int} {v a s : Int} (h0 : PutP D T p v a s) : FitP D T p v s := h0.2.2.2.1
theorem PutP.l {D : Dat} {T : Int} {p : Int → Int} {v a s : Int} (h0 : PutP D T p v a s) : ∀ c, a ≤ c → c < s → ¬ FitP D T p v c := h0.2.2.2.2
theorem PutP.mk {D : Dat} {T : Int} {p : Int → Int} {v a s : Int} (h0 : FromP D T p v a) (h1 : a ≤ s) (h2 : s < a + T) (h3 : FitP D T p v s) (h4 : ∀ c, a ≤ c → c < s → ¬ FitP D T p v c) : PutP D T p v a s := ⟨h0, h1, h2, h3, h4⟩
def StuckP (D : Dat) (T : Int) (p : Int → Int) (v : Int) : Prop := ∃ a, FromP D T p v a ∧ ∀ c, a ≤ c → c < a + T → ¬ FitP D T p v c
def PlU (D : Dat) (T : Int) (p : Int → Int) (n : Int) : Prop := ∀ v, 0 ≤ v → v < n → ∃ a, PutP D T p v a (p v)
theorem FromP.uniq {D : Dat} {T : Int} {p : Int → Int} {v a b : Int} (h : FromP D T p v a) (g : FromP D T p v b) : a = b := by
  have le : ∀ a b, FromP D T p v a → FromP D T p v b → a ≤ b := by
    rintro a b ⟨a0, _, a2⟩ ⟨b0, b1, _⟩
    rcases a2 with z | ⟨u, d, w, e, l, z⟩
    · omega
    · rw [z]; exact b1 u d w e l
  exact Int.le_antisymm (le a b h g) (le b a g h)
theorem CntP.ex {P : Int → Prop} : ∀ n : Nat, ∃ x, CntP P n x := by
  intro n
  induction n with
  | zero => exact ⟨0, rfl⟩
  | succ n ih =>
    obtain ⟨x, h⟩ := ih
    by_cases c : P n
    · exact ⟨x + 1, .inl ⟨c, by rw [show x + 1 - 1 = x by omega]; exact h⟩⟩
    · exact ⟨x, .inr ⟨c, h⟩⟩
theorem FromP.ext {D : Dat} (ok : DOk D) {T : Int} {p q : Int → Int} {v a : Int} (e : ∀ u, 0 ≤ u → u < v → p u = q u) (h : FromP D T p v a) : FromP D T q v a := by
  obtain ⟨h0, h1, h2⟩ := h
  refine ⟨h0, fun u d w ed l => ?_, h2.imp id ?_⟩
  · rw [← e u (ed_props ok ed).1.1 l]; exact h1 u d w ed l
  · rintro ⟨u, d, w, ed, l, z⟩
    exact ⟨u, d, w, ed, l, by rw [← e u (ed_props ok ed).1.1 l]; exact z⟩
theorem BackP.ext {D : Dat} (ok : DOk D) {T : Int} {p q : Int → Int} {v s : Int} (e : ∀ u, 0 ≤ u → u < v → p u = q u) (h : BackP D T p v s) : BackP D T q v s := by
  intro t d w ed l
  rw [← e t (ed_props ok ed).2.1.1 l]; exact h t d w ed l
theorem FreeP.ext {D : Dat} {T : Int} {p q : Int → Int} {v s : Int} (hv : 0 ≤ v) (e : ∀ u, 0 ≤ u → u < v → p u = q u) (h : FreeP D T p v s) : FreeP D T q v s := by
  obtain ⟨x, h1, h2⟩ := h
  refine ⟨x, h1.iff _ _ (fun u a b => ?_), h2⟩
  unfold UseP
  rw [e u a (by omega)]
theorem FitP.ext {D : Dat} (ok : DOk D) {T : Int} {p q : Int → Int} {v s : Int} (hv : 0 ≤ v) (e : ∀ u, 0 ≤ u → u < v → p u = q u) (h : FitP D T p v s) : FitP D T q v s :=
  ⟨h.1.ext ok e, h.2.ext hv e⟩
theorem PutP.ext {D : Dat} (ok : DOk D) {T : Int} {p q : Int → Int} {v a s : Int} (hv : 0 ≤ v) (e : ∀ u, 0 ≤ u → u < v → p u = q u) (h : PutP D T p v a s) : PutP D T q v a s :=
  ⟨h.f.ext ok e, h.a, h.b, h.t.ext ok hv e, fun c x y z => h.l c x y (z.ext ok hv (fun u a b => (e u a b).symm))⟩
theorem PutP.uniq {D : Dat} {T : Int} {p : Int → Int} {v a b s t : Int} (h : PutP D T p v a s) (g : PutP D T p v b t) : s = t := by
  have ab := h.f.uniq g.f
  rcases Int.lt_trichotomy s t with z | z | z
  · exact absurd h.t (g.l s (by rw [← ab]; exact h.a) z)
  · exact z
  · exact absurd g.t (h.l t (by rw [ab]; exact g.a) z)
theorem pl_uniq {D : Dat} (ok : DOk D) {T n : Int} {p q : Int → Int} (h : PlU D T p n) (g : PlU D T q n) : ∀ v, 0 ≤ v → v < n → p v = q v := by
  have key : ∀ k : Nat, ∀ v, 0 ≤ v → v < n → v < k → p v = q v := by
    intro k
    induction k with
    | zero => intro v a b c; omega
    | succ k ih =>
      intro v a b c
      obtain ⟨x, hx⟩ := h v a b
      obtain ⟨y, hy⟩ := g v a b
      exact (hx.ext ok a (fun u u0 u1 => ih u u0 (by omega) (by omega))).uniq hy
  intro v a b
  exact key (v.toNat + 1) v a b (by omega)
theorem PlU.ext {D : Dat} (ok : DOk D) {T n : Int} {p q : Int → Int} (h : PlU D T p n) (e : ∀ u, 0 ≤ u → u < n → p u = q u) : PlU D T q n := by
  intro v a b
  obtain ⟨x, hx⟩ := h v a b
  rw [← e v a b]
  exact ⟨x, hx.ext ok a (fun u u0 u1 => e u u0 (by omega))⟩
theorem PlU.step {D : Dat} (ok : DOk D) {T n a s : Int} {p q : Int → Int} (h : PlU D T p n) (g : PutP D T p n a s) (hn : 0 ≤ n) (e : ∀ u, 0 ≤ u → u < n → p u = q u) (es : q n = s) : PlU D T q (n + 1) := by
  intro v v0 v1
  by_cases z : v = n
  · rw [z, es]; exact ⟨a, g.ext ok hn e⟩
  · exact (h.ext ok e) v v0 (by omega)
def CanP (D : Dat) (T : Int) : Prop := ∃ p, PlU D T p (nn D)
theorem stuck_no {D : Dat} (ok : DOk D) {T v : Int} {p : Int → Int} (hv : 0 ≤ v ∧ v < nn D) (h : PlU D T p v) (g : StuckP D T p v) : ¬ CanP D T := by
  rintro ⟨q, hq⟩
  obtain ⟨b, hb⟩ := hq v hv.1 hv.2
  have e := pl_uniq ok h (fun u a c => hq u a (by omega))
  obtain ⟨a, f, no⟩ := g
  have hb' := hb.ext ok hv.1 (fun u a c => (e u a c).symm)
  have := f.uniq hb'.f
  exact no (q v) (by rw [this]; exact hb'.a) (by rw [this]; exact hb'.b) hb'.t
/-- behind the cycles of all ahead of it a node fits, at an interval of all cycles -/
theorem fit_sum {D : Dat} (ok : DOk D) {T v : Int} {p : Int → Int} (hT : sumC D (nn D) ≤ T) (hv : 0 ≤ v ∧ v < nn D) (h : ∀ u, 0 ≤ u → u < v → 0 ≤ p u ∧ p u + cyv D u ≤ sumC D (u + 1)) : FitP D T p v (sumC D v) := by
  have hn := nn_le ok
  have cv := cyv_r ok hv
  have sv := sumC_s (D := D) hv.1
  have sl := sumC_mono ok (u := v + 1) (v := nn D) (by omega) (by omega) (by omega)
  have s0 := (sumC_b ok hv.1 (by omega)).1
  refine ⟨fun t d w e l => ?_, ?_⟩
  · obtain ⟨_, ⟨t0, t1⟩, d0, d1, dt, w0, w1⟩ := ed_props ok e
    have pt := h t t0 l
    have d1' : 1 ≤ d := Classical.byContradiction fun z => by have := dt (by omega); omega
    have : T * 1 ≤ T * d := Int.mul_le_mul_of_nonneg_left d1' (by omega)
    omega
  · obtain ⟨x, hx⟩ := CntP.ex (P := UseP D T p (kdv D v) (Int.tmod (sumC D v) T)) v.toNat
    refine ⟨x, hx, ?_⟩
    have un := ok.un (kdv D v) (kdv_r ok hv).1 (kdv_r ok hv).2
    have z : CntP (fun _ => False) v.toNat x := hx.iff _ _ (fun u a b => ⟨fun y => ?_, fun y => y.elim⟩)
    · have : ∀ n : Nat, CntP (fun _ => False) n 0 := by
        intro n
        induction n with
        | zero => rfl
        | succ n ih => exact .inr ⟨fun f => f, ih⟩
      have := CntP.uniq _ _ _ z (this _)
      omega
    · have pu := h u a (by omega)
      have cu := cyv_r ok (v := u) ⟨a, by omega⟩
      have su := sumC_mono ok (u := u + 1) (v := v) (by omega) (by omega) (by omega)
      have y2 := y.2
      rw [Int.tmod_eq_of_lt (by omega) (by omega), Int.tmod_eq_of_lt (by omega) (by omega)] at y2
      omega
theorem from_sum {D : Dat} (ok : DOk D) {T v a : Int} {p : Int → Int} (hT : 0 ≤ T) (hv : 0 ≤ v ∧ v < nn D) (h : ∀ u, 0 ≤ u → u < v → 0 ≤ p u ∧ p u + cyv D u ≤ sumC D (u + 1)) (f : FromP D T p v a) : a ≤ sumC D v := by
  have hn := nn_le ok
  rcases f.2.2 with z | ⟨u, d, w, e, l, z⟩
  · have := (sumC_b ok hv.1 (by omega)).1
    omega
  · obtain ⟨⟨u0, u1⟩, _, d0, _, _, _, w1⟩ := ed_props ok e
    have := (h u u0 l).2
    have := sumC_mono ok (u := u + 1) (v := v) (by omega) (by omega) (by omega)
    have := Int.mul_nonneg hT d0
    omega
theorem pl_sum {D : Dat} (ok : DOk D) {T n : Int} {p : Int → Int} (hT : sumC D (nn D) ≤ T) (hn : n ≤ nn D) (h : PlU D T p n) : ∀ u, 0 ≤ u → u < n → 0 ≤ p u ∧ p u + cyv D u ≤ sumC D (u + 1) := by
  have s4 := sum480 ok
  have key : ∀ k : Nat, ∀ u, 0 ≤ u → u < n → u < k → 0 ≤ p u ∧ p u + cyv D u ≤ sumC D (u + 1) := by
    intro k
    induction k with
    | zero => intro v a b c; omega
    | succ k ih =>
      intro v a b c
      obtain ⟨x, hx⟩ := h v a b
      have prev : ∀ u, 0 ≤ u → u < v → 0 ≤ p u ∧ p u + cyv D u ≤ sumC D (u + 1) := fun u u0 u1 => ih u u0 (by omega) (by omega)
      have ft := fit_sum ok hT (v := v) ⟨a, by omega⟩ prev
      have fr := from_sum ok (by omega) (v := v) ⟨a, by omega⟩ prev hx.f
      have x0 := hx.f.1
      have xa := hx.a
      have : p v ≤ sumC D v := Classical.byContradiction fun z => hx.l (sumC D v) fr (by omega) ft
      have := sumC_s (D := D) a
      omega
  intro v a b
  exact key (v.toNat + 1) v a b (by omega)
theorem no_stuck {D : Dat} (ok : DOk D) {T n : Int} {p : Int → Int} (hT : sumC D (nn D) ≤ T) (hn : 0 ≤ n ∧ n < nn D) (h : PlU D T p n) : ¬ StuckP D T p n := by
  rintro ⟨a, f, no⟩
  have s4 := sum480 ok
  have prev := pl_sum ok hT (by omega) h
  have ft := fit_sum ok hT hn prev
  have fr := from_sum ok (by omega) hn prev f
  have cv := cyv_r ok hn
  have sv := sumC_s (D := D) hn.1
  have sl := sumC_mono ok (u := n + 1) (v := nn D) (by omega) (by omega) (by omega)
  have := f.1
  exact no (sumC D n) fr (by omega) ft
/-- how great places are -/
theorem pl_b {D : Dat} (ok : DOk D) {T n : Int} {p : Int → Int} (hT : 1 ≤ T ∧ T ≤ 481) (hn : n ≤ nn D) (h : PlU D T p n) : ∀ u, 0 ≤ u → u < n → 0 ≤ p u ∧ p u ≤ 500 * (u + 1) := by
  have key : ∀ k : Nat, ∀ u, 0 ≤ u → u < n → u < k → 0 ≤ p u ∧ p u ≤ 500 * (u + 1) := by
    intro k
    induction k with
    | zero => intro v a b c; omega
    | succ k ih =>
      intro v a b c
      obtain ⟨x, hx⟩ := h v a b
      have x0 := hx.f.1
      have xa := hx.a
      have xb := hx.b
      refine ⟨by omega, ?_⟩
      rcases hx.f.2.2 with z | ⟨u, d, w, e, l, z⟩
      · omega
      · obtain ⟨⟨u0, u1⟩, _, d0, _, _, _, w1⟩ := ed_props ok e
        have := ih u u0 (by omega) (by omega)
        have := cyv_r ok (v := u) ⟨u0, u1⟩
        have := Int.mul_nonneg (show (0:Int) ≤ T by omega) d0
        omega
  intro v a b
  exact key (v.toNat + 1) v a b (by omega)
theorem from_b {D : Dat} (ok : DOk D) {T v a : Int} {p : Int → Int} (hT : 1 ≤ T ∧ T ≤ 481) (hv : 0 ≤ v ∧ v ≤ nn D) (h : PlU D T p v) (f : FromP D T p v a) : 0 ≤ a ∧ a ≤ 500 * v + 5 := by
  refine ⟨f.1, ?_⟩
  rcases f.2.2 with z | ⟨u, d, w, e, l, z⟩
  · omega
  · obtain ⟨⟨u0, u1⟩, _, d0, _, _, _, w1⟩ := ed_props ok e
    have := pl_b ok hT hv.2 h u u0 l
    have := cyv_r ok (v := u) ⟨u0, u1⟩
    have := Int.mul_nonneg (show (0:Int) ≤ T by omega) d0
    omega
def IsInt (D : Dat) (T : Int) : Prop := ∃ R, IsRing D R ∧ max R (uT D) ≤ T ∧ T ≤ 480 ∧ CanP D T ∧ ∀ c, max R (uT D) ≤ c → c < T → ¬ CanP D c
theorem int_uniq {D : Dat} {T T' : Int} (h : IsInt D T) (g : IsInt D T') : T = T' := by
  obtain ⟨R, r, a, _, b, c⟩ := h
  obtain ⟨R', r', a', _, b', c'⟩ := g
  rw [← ring_uniq r r'] at a' c'
  rcases Int.lt_trichotomy T T' with z | z | z
  · exact absurd b (c' T a z)
  · exact z
  · exact absurd b' (c T' a' z)
