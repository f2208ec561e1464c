/-! ===== units ===== -/
def kcN (D : Dat) (k : Int) : Int := ocL D (nds D) k
def MC (D : Dat) (i : MI) : Prop := (∀ k, 0 ≤ k → k < 7 → i 71 k = kcN D k) ∧ ∀ k, 0 ≤ k → k < 7 → i 69 k = D.un k
theorem kc_take {D : Dat} {k : Int} {x : Int} (h0 : 0 ≤ x) (h1 : x < nn D) : ocL D ((nds D).take (x + 1).toNat) k = ocL D ((nds D).take x.toNat) k + if kdv D x = k then 1 else 0 := by
  have hg := nd_get (D := D) (v := x.toNat) (by omega)
  rw [show ((x.toNat : Nat) : Int) = x by omega] at hg
  rw [show (x + 1).toNat = x.toNat + 1 by omega, List.take_add_one, hg]
  show ocL D (_ ++ [nd D x]) k = _
  rw [ocL_app]
  unfold iup kdv
  by_cases e : k = kdN D (nd D x)
  · rw [if_pos e, if_pos e.symm, e]
  · rw [if_neg e, if_neg (fun q => e q.symm)]; omega
theorem kcN_b {D : Dat} (ok : DOk D) {k : Int} : 0 ≤ kcN D k ∧ kcN D k ≤ 96 := by
  have := ocL_b (D := D) (L := nds D) (k := k)
  have := nds_len ok
  unfold kcN
  omega
/-- what a kind needs -/
def nIk (D : Dat) (k : Int) : Int := Int.tdiv (kcN D k + D.un k - 1) (D.un k)
theorem nIk_b {D : Dat} (ok : DOk D) {k : Int} (hk : 0 ≤ k ∧ k < 7) : 0 ≤ nIk D k ∧ nIk D k ≤ 96 := by
  have := kcN_b ok (k := k)
  have := ok.un k hk.1 hk.2
  unfold nIk
  rw [Int.tdiv_eq_ediv_of_nonneg (by omega)]
  generalize kcN D k = a at *
  generalize D.un k = b at *
  have : b = 1 ∨ b = 2 ∨ b = 3 ∨ b = 4 := by omega
  rcases this with rfl | rfl | rfl | rfl <;> omega
def uMx (D : Dat) : Nat → Int
  | 0 => 1
  | k + 1 => max (uMx D k) (nIk D k)
def uT (D : Dat) : Int := uMx D 7
theorem uMx_b {D : Dat} (ok : DOk D) : ∀ k : Nat, k ≤ 7 → 1 ≤ uMx D k ∧ uMx D k ≤ 96 := by
  intro k
  induction k with
  | zero => intro _; exact ⟨Int.le_refl 1, by show (1:Int) ≤ 96; decide⟩
  | succ k ih =>
    intro h
    have a := ih (by omega)
    have b := nIk_b ok (k := k) ⟨by omega, by omega⟩
    show 1 ≤ max (uMx D k) (nIk D k) ∧ max (uMx D k) (nIk D k) ≤ 96
    omega
theorem uMx_s {D : Dat} {x : Int} (h : 0 ≤ x) : uMx D (x + 1).toNat = max (uMx D x.toNat) (nIk D x) := by
  rw [show (x + 1).toNat = x.toNat + 1 by omega]
  show max (uMx D x.toNat) (nIk D ((x.toNat : Nat) : Int)) = _
  rw [show ((x.toNat : Nat) : Int) = x by omega]
theorem leastI_w {D : Dat} (ok : DOk D) {i r : MI} {k : Int} {Q : Int → Prop} (h : MC D i) (hk : 0 ≤ k ∧ k < 7) (hQ : Q (nIk D k)) : wp_X0_leastIntervalOf k i r Q := by
  unfold wp_X0_leastIntervalOf s28_X0_leastIntervalOf
  have a := kcN_b ok (k := k)
  have b := ok.un k hk.1 hk.2
  have c := nIk_b ok hk
  rw [h.1 k hk.1 hk.2, h.2 k hk.1 hk.2]
  rw [wr_of (x := kcN D k + D.un k) (by omega) (by omega), wr_of (x := kcN D k + D.un k - 1) (by omega) (by omega)]
  refine ⟨hk, fun _ => ⟨hk, by omega, ?_⟩, fun q => absurd b.1 q⟩
  show Q (wr (nIk D k))
  rw [wr_of (x := nIk D k) (by omega) (by omega)]
  exact hQ
theorem byUnits_w {D : Dat} (ok : DOk D) {i r : MI} {Q : Int → Prop} (h : MC D i) (hQ : Q (uT D)) : wp_X4_findByUnits i r Q := by
  unfold wp_X4_findByUnits
  refine Lp.r2 (fun (s x : Int) => 0 ≤ x ∧ x ≤ 7 ∧ s = uMx D x.toNat) (fun _ x => (7 - x).toNat) ?_ ⟨by decide, by decide, rfl⟩
  intro s x C ⟨h0, h1, h2⟩ hC
  dsimp only [b4_X4_findByUnits]
  refine ⟨fun q => ?_, fun q => leastI_w ok h ⟨h0, by omega⟩ ?_⟩
  · rw [h2, show x = 7 by omega]; exact hQ
  · rw [wr_of (x := x + 1) (by omega) (by omega)]
    exact hC _ _ ⟨by omega, by omega, by rw [uMx_s h0, h2]⟩ (by omega)
/-! ===== places: what they are ===== -/
def FromP (D : Dat) (T : Int) (p : Int → Int) (v a : Int) : Prop := 0 ≤ a ∧ (∀ u d w, Ed D u v d w → u < v → p u + w - T * d ≤ a) ∧ (a = 0 ∨ ∃ u d w, Ed D u v d w ∧ u < v ∧ a = p u + w - T * d)
def BackP (D : Dat) (T : Int) (p : Int → Int) (v s : Int) : Prop := ∀ t d w, Ed D v t d w → t < v → s + w - T * d ≤ p t
def UseP (D : Dat) (T : Int) (p : Int → Int) (k rest u : Int) : Prop := kdv D u = k ∧ Int.tmod (p u) T = rest
def FreeP (D : Dat) (T : Int) (p : Int → Int) (v s : Int) : Prop := ∃ x, CntP (UseP D T p (kdv D v) (Int.tmod s T)) v.toNat x ∧ x < D.un (kdv D v)
def FitP (D : Dat) (T : Int) (p : Int → Int) (v s : Int) : Prop := BackP D T p v s ∧ FreeP D T p v s
def PutP (D : Dat) (T : Int) (p : Int → Int) (v a s : Int) : Prop := (FromP D T p v a) ∧ (a ≤ s) ∧ (s < a + T) ∧ (FitP D T p v s) ∧ (∀ c, a ≤ c → c < s → ¬ FitP D T p v c)
theorem PutP.f {D : Dat} {T : Int} {p : Int → Int} {v a s : Int} (h0 : PutP D T p v a s) : FromP D T p v a := h0.1
theorem PutP.a {D : Dat} {T : Int} {p : Int → Int} {v a s : Int} (h0 : PutP D T p v a s) : a ≤ s := h0.2.1
theorem PutP.b {D : Dat} {T : Int} {p : Int → Int} {v a s : Int} (h0 : PutP D T p v a s) : s < a + T := h0.2.2.1
theorem PutP.t {D : Dat} {T : Int} {p : Int → Int} {v a s : Int} (h0 : PutP D T p v a s) : FitP D T p v s := h0.2.2.2.1
theorem PutP.l {D : Dat} {T : Int} {p : Int → Int} {v a s : Int} (h0 : PutP D T p v a s) : ∀ c, a ≤ c → c < s → ¬ FitP D T p v c := h0.2.2.2.2
theorem PutP.mk {D : Dat} {T : Int} {p : Int → Int} {v a s : Int} (h0 : FromP D T p v a) (h1 : a ≤ s) (h2 : s < a + T) (h3 : FitP D T p v s) (h4 : ∀ c, a ≤ c → c < s → ¬ FitP D T p v c) : PutP D T p v a s := ⟨h0, h1, h2, h3, h4⟩
def StuckP (D : Dat) (T : Int) (p : Int → Int) (v : Int) : Prop := ∃ a, FromP D T p v a ∧ ∀ c, a ≤ c → c < a + T → ¬ FitP D T p v c
def PlU (D : Dat) (T : Int) (p : Int → Int) (n : Int) : Prop := ∀ v, 0 ≤ v → v < n → ∃ a, PutP D T p v a (p v)
theorem FromP.uniq {D : Dat} {T : Int} {p : Int → Int} {v a b : Int} (h : FromP D T p v a) (g : FromP D T p v b) : a = b := by
  have le : ∀ a b, FromP D T p v a → FromP D T p v b → a ≤ b := by
    rintro a b ⟨a0, _, a2⟩ ⟨b0, b1, _⟩
    rcases a2 with z | ⟨u, d, w, e, l, z⟩
    · omega
    · rw [z]; exact b1 u d w e l
  exact Int.le_antisymm (le a b h g) (le b a g h)
theorem CntP.ex {P : Int → Prop} : ∀ n : Nat, ∃ x, CntP P n x := by
  intro n
  induction n with
  | zero => exact ⟨0, rfl⟩
  | succ n ih =>
    obtain ⟨x, h⟩ := ih
    by_cases c : P n
    · exact ⟨x + 1, .inl ⟨c, by rw [show x + 1 - 1 = x by omega]; exact h⟩⟩
    · exact ⟨x, .inr ⟨c, h⟩⟩
theorem FromP.ext {D : Dat} (ok : DOk D) {T : Int} {p q : Int → Int} {v a : Int} (e : ∀ u, 0 ≤ u → u < v → p u = q u) (h : FromP D T p v a) : FromP D T q v a := by
  obtain ⟨h0, h1, h2⟩ := h
  refine ⟨h0, fun u d w ed l => ?_, h2.imp id ?_⟩
  · rw [← e u (ed_props ok ed).1.1 l]; exact h1 u d w ed l
  · rintro ⟨u, d, w, ed, l, z⟩
    exact ⟨u, d, w, ed, l, by rw [← e u (ed_props ok ed).1.1 l]; exact z⟩
theorem BackP.ext {D : Dat} (ok : DOk D) {T : Int} {p q : Int → Int} {v s : Int} (e : ∀ u, 0 ≤ u → u < v → p u = q u) (h : BackP D T p v s) : BackP D T q v s := by
  intro t d w ed l
  rw [← e t (ed_props ok ed).2.1.1 l]; exact h t d w ed l
theorem FreeP.ext {D : Dat} {T : Int} {p q : Int → Int} {v s : Int} (hv : 0 ≤ v) (e : ∀ u, 0 ≤ u → u < v → p u = q u) (h : FreeP D T p v s) : FreeP D T q v s := by
  obtain ⟨x, h1, h2⟩ := h
  refine ⟨x, h1.iff _ _ (fun u a b => ?_), h2⟩
  unfold UseP
  rw [e u a (by omega)]
theorem FitP.ext {D : Dat} (ok : DOk D) {T : Int} {p q : Int → Int} {v s : Int} (hv : 0 ≤ v) (e : ∀ u, 0 ≤ u → u < v → p u = q u) (h : FitP D T p v s) : FitP D T q v s :=
  ⟨h.1.ext ok e, h.2.ext hv e⟩
theorem PutP.ext {D : Dat} (ok : DOk D) {T : Int} {p q : Int → Int} {v a s : Int} (hv : 0 ≤ v) (e : ∀ u, 0 ≤ u → u < v → p u = q u) (h : PutP D T p v a s) : PutP D T q v a s :=
  ⟨h.f.ext ok e, h.a, h.b, h.t.ext ok hv e, fun c x y z => h.l c x y (z.ext ok hv (fun u a b => (e u a b).symm))⟩
theorem PutP.uniq {D : Dat} {T : Int} {p : Int → Int} {v a b s t : Int} (h : PutP D T p v a s) (g : PutP D T p v b t) : s = t := by
  have ab := h.f.uniq g.f
  rcases Int.lt_trichotomy s t with z | z | z
  · exact absurd h.t (g.l s (by rw [← ab]; exact h.a) z)
  · exact z
  · exact absurd g.t (h.l t (by rw [ab]; exact g.a) z)
theorem pl_uniq {D : Dat} (ok : DOk D) {T n : Int} {p q : Int → Int} (h : PlU D T p n) (g : PlU D T q n) : ∀ v, 0 ≤ v → v < n → p v = q v := by
  have key : ∀ k : Nat, ∀ v, 0 ≤ v → v < n → v < k → p v = q v := by
    intro k
    induction k with
    | zero => intro v a b c; omega
    | succ k ih =>
      intro v a b c
      obtain ⟨x, hx⟩ := h v a b
      obtain ⟨y, hy⟩ := g v a b
      exact (hx.ext ok a (fun u u0 u1 => ih u u0 (by omega) (by omega))).uniq hy
  intro v a b
  exact key (v.toNat + 1) v a b (by omega)
theorem PlU.ext {D : Dat} (ok : DOk D) {T n : Int} {p q : Int → Int} (h : PlU D T p n) (e : ∀ u, 0 ≤ u → u < n → p u = q u) : PlU D T q n := by
  intro v a b
  obtain ⟨x, hx⟩ := h v a b
  rw [← e v a b]
  exact ⟨x, hx.ext ok a (fun u u0 u1 => e u u0 (by omega))⟩
theorem PlU.step {D : Dat} (ok : DOk D) {T n a s : Int} {p q : Int → Int} (h : PlU D T p n) (g : PutP D T p n a s) (hn : 0 ≤ n) (e : ∀ u, 0 ≤ u → u < n → p u = q u) (es : q n = s) : PlU D T q (n + 1) := by
  intro v v0 v1
  by_cases z : v = n
  · rw [z, es]; exact ⟨a, g.ext ok hn e⟩
  · exact (h.ext ok e) v v0 (by omega)
def CanP (D : Dat) (T : Int) : Prop := ∃ p, PlU D T p (nn D)
theorem stuck_no {D : Dat} (ok : DOk D) {T v : Int} {p : Int → Int} (hv : 0 ≤ v ∧ v < nn D) (h : PlU D T p v) (g : StuckP D T p v) : ¬ CanP D T := by
  rintro ⟨q, hq⟩
  obtain ⟨b, hb⟩ := hq v hv.1 hv.2
  have e := pl_uniq ok h (fun u a c => hq u a (by omega))
  obtain ⟨a, f, no⟩ := g
  have hb' := hb.ext ok hv.1 (fun u a c => (e u a c).symm)
  have := f.uniq hb'.f
  exact no (q v) (by rw [this]; exact hb'.a) (by rw [this]; exact hb'.b) hb'.t
/-- behind the cycles of all ahead of it a node fits, at an interval of all cycles -/
theorem fit_sum {D : Dat} (ok : DOk D) {T v : Int} {p : Int → Int} (hT : sumC D (nn D) ≤ T) (hv : 0 ≤ v ∧ v < nn D) (h : ∀ u, 0 ≤ u → u < v → 0 ≤ p u ∧ p u + cyv D u ≤ sumC D (u + 1)) : FitP D T p v (sumC D v) := by
  have hn := nn_le ok
  have cv := cyv_r ok hv
  have sv := sumC_s (D := D) hv.1
  have sl := sumC_mono ok (u := v + 1) (v := nn D) (by omega) (by omega) (by omega)
  have s0 := (sumC_b ok hv.1 (by omega)).1
  refine ⟨fun t d w e l => ?_, ?_⟩
  · obtain ⟨_, ⟨t0, t1⟩, d0, d1, dt, w0, w1⟩ := ed_props ok e
    have pt := h t t0 l
    have d1' : 1 ≤ d := Classical.byContradiction fun z => by have := dt (by omega); omega
    have : T * 1 ≤ T * d := Int.mul_le_mul_of_nonneg_left d1' (by omega)
    omega
  · obtain ⟨x, hx⟩ := CntP.ex (P := UseP D T p (kdv D v) (Int.tmod (sumC D v) T)) v.toNat
    refine ⟨x, hx, ?_⟩
    have un := ok.un (kdv D v) (kdv_r ok hv).1 (kdv_r ok hv).2
    have z : CntP (fun _ => False) v.toNat x := hx.iff _ _ (fun u a b => ⟨fun y => ?_, fun y => y.elim⟩)
    · have : ∀ n : Nat, CntP (fun _ => False) n 0 := by
        intro n
        induction n with
        | zero => rfl
        | succ n ih => exact .inr ⟨fun f => f, ih⟩
      have := CntP.uniq _ _ _ z (this _)
      omega
    · have pu := h u a (by omega)
      have cu := cyv_r ok (v := u) ⟨a, by omega⟩
      have su := sumC_mono ok (u := u + 1) (v := v) (by omega) (by omega) (by omega)
      have y2 := y.2
      rw [Int.tmod_eq_of_lt (by omega) (by omega), Int.tmod_eq_of_lt (by omega) (by omega)] at y2
      omega
theorem from_sum {D : Dat} (ok : DOk D) {T v a : Int} {p : Int → Int} (hT : 0 ≤ T) (hv : 0 ≤ v ∧ v < nn D) (h : ∀ u, 0 ≤ u → u < v → 0 ≤ p u ∧ p u + cyv D u ≤ sumC D (u + 1)) (f : FromP D T p v a) : a ≤ sumC D v := by
  have hn := nn_le ok
  rcases f.2.2 with z | ⟨u, d, w, e, l, z⟩
  · have := (sumC_b ok hv.1 (by omega)).1
    omega
  · obtain ⟨⟨u0, u1⟩, _, d0, _, _, _, w1⟩ := ed_props ok e
    have := (h u u0 l).2
    have := sumC_mono ok (u := u + 1) (v := v) (by omega) (by omega) (by omega)
    have := Int.mul_nonneg hT d0
    omega
theorem pl_sum {D : Dat} (ok : DOk D) {T n : Int} {p : Int → Int} (hT : sumC D (nn D) ≤ T) (hn : n ≤ nn D) (h : PlU D T p n) : ∀ u, 0 ≤ u → u < n → 0 ≤ p u ∧ p u + cyv D u ≤ sumC D (u + 1) := by
  have s4 := sum480 ok
  have key : ∀ k : Nat, ∀ u, 0 ≤ u → u < n → u < k → 0 ≤ p u ∧ p u + cyv D u ≤ sumC D (u + 1) := by
    intro k
    induction k with
    | zero => intro v a b c; omega
    | succ k ih =>
      intro v a b c
      obtain ⟨x, hx⟩ := h v a b
      have prev : ∀ u, 0 ≤ u → u < v → 0 ≤ p u ∧ p u + cyv D u ≤ sumC D (u + 1) := fun u u0 u1 => ih u u0 (by omega) (by omega)
      have ft := fit_sum ok hT (v := v) ⟨a, by omega⟩ prev
      have fr := from_sum ok (by omega) (v := v) ⟨a, by omega⟩ prev hx.f
      have x0 := hx.f.1
      have xa := hx.a
      have : p v ≤ sumC D v := Classical.byContradiction fun z => hx.l (sumC D v) fr (by omega) ft
      have := sumC_s (D := D) a
      omega
  intro v a b
  exact key (v.toNat + 1) v a b (by omega)
theorem no_stuck {D : Dat} (ok : DOk D) {T n : Int} {p : Int → Int} (hT : sumC D (nn D) ≤ T) (hn : 0 ≤ n ∧ n < nn D) (h : PlU D T p n) : ¬ StuckP D T p n := by
  rintro ⟨a, f, no⟩
  have s4 := sum480 ok
  have prev := pl_sum ok hT (by omega) h
  have ft := fit_sum ok hT hn prev
  have fr := from_sum ok (by omega) hn prev f
  have cv := cyv_r ok hn
  have sv := sumC_s (D := D) hn.1
  have sl := sumC_mono ok (u := n + 1) (v := nn D) (by omega) (by omega) (by omega)
  have := f.1
  exact no (sumC D n) fr (by omega) ft
/-- how great places are -/
theorem pl_b {D : Dat} (ok : DOk D) {T n : Int} {p : Int → Int} (hT : 1 ≤ T ∧ T ≤ 481) (hn : n ≤ nn D) (h : PlU D T p n) : ∀ u, 0 ≤ u → u < n → 0 ≤ p u ∧ p u ≤ 500 * (u + 1) := by
  have key : ∀ k : Nat, ∀ u, 0 ≤ u → u < n → u < k → 0 ≤ p u ∧ p u ≤ 500 * (u + 1) := by
    intro k
    induction k with
    | zero => intro v a b c; omega
    | succ k ih =>
      intro v a b c
      obtain ⟨x, hx⟩ := h v a b
      have x0 := hx.f.1
      have xa := hx.a
      have xb := hx.b
      refine ⟨by omega, ?_⟩
      rcases hx.f.2.2 with z | ⟨u, d, w, e, l, z⟩
      · omega
      · obtain ⟨⟨u0, u1⟩, _, d0, _, _, _, w1⟩ := ed_props ok e
        have := ih u u0 (by omega) (by omega)
        have := cyv_r ok (v := u) ⟨u0, u1⟩
        have := Int.mul_nonneg (show (0:Int) ≤ T by omega) d0
        omega
  intro v a b
  exact key (v.toNat + 1) v a b (by omega)
theorem from_b {D : Dat} (ok : DOk D) {T v a : Int} {p : Int → Int} (hT : 1 ≤ T ∧ T ≤ 481) (hv : 0 ≤ v ∧ v ≤ nn D) (h : PlU D T p v) (f : FromP D T p v a) : 0 ≤ a ∧ a ≤ 500 * v + 5 := by
  refine ⟨f.1, ?_⟩
  rcases f.2.2 with z | ⟨u, d, w, e, l, z⟩
  · omega
  · obtain ⟨⟨u0, u1⟩, _, d0, _, _, _, w1⟩ := ed_props ok e
    have := pl_b ok hT hv.2 h u u0 l
    have := cyv_r ok (v := u) ⟨u0, u1⟩
    have := Int.mul_nonneg (show (0:Int) ≤ T by omega) d0
    omega
def IsInt (D : Dat) (T : Int) : Prop := ∃ R, IsRing D R ∧ max R (uT D) ≤ T ∧ T ≤ 480 ∧ CanP D T ∧ ∀ c, max R (uT D) ≤ c → c < T → ¬ CanP D c
theorem int_uniq {D : Dat} {T T' : Int} (h : IsInt D T) (g : IsInt D T') : T = T' := by
  obtain ⟨R, r, a, _, b, c⟩ := h
  obtain ⟨R', r', a', _, b', c'⟩ := g
  rw [← ring_uniq r r'] at a' c'
  rcases Int.lt_trichotomy T T' with z | z | z
  · exact absurd b (c' T a z)
  · exact z
  · exact absurd b' (c T' a' z)

/-! ===== places: the class ===== -/
def FPl (i i' : MI) : Prop := ∀ a, a ≠ 470 → a ≠ 471 → (a < 473 ∨ 479 < a) → i' a = i a
theorem FPl.refl (i : MI) : FPl i i := fun _ _ _ _ => rfl
theorem FPl.trans {i j k : MI} (h : FPl i j) (g : FPl j k) : FPl i k := fun a x y z => (g a x y z).trans (h a x y z)
theorem FPl.s0 {k v : Int} {i : MI} : FPl i (st i 470 k v) := fun b x _ _ => st_row x
theorem FPl.s1 {k v : Int} {i : MI} : FPl i (st i 471 k v) := fun b _ x _ => st_row x
theorem FPl.sb {c k v : Int} {i : MI} (h : 0 ≤ c ∧ c < 7) : FPl i (st i (473 + c) k v) := fun b _ _ x => st_row (by omega)
theorem FPl.fl {i i' : MI} (h : FPl i i') : ∀ a, a < 462 → i' a = i a := fun a q => h a (by omega) (by omega) (by omega)
def LsP (D : Dat) (T : Int) (p l : Int → Int) (n : Int) (P : RS) : Prop := ∀ v, n ≤ v → v < nn D → 0 ≤ l v ∧ (∀ u d w, Ed D u v d w → P u v d w → p u + w - T * d ≤ l v) ∧ (l v = 0 ∨ ∃ u d w, Ed D u v d w ∧ P u v d w ∧ l v = p u + w - T * d)
theorem LsP.iff {D : Dat} {T n : Int} {p l : Int → Int} {P R : RS} (h : LsP D T p l n P) (e : ∀ u v d w, Ed D u v d w → (P u v d w ↔ R u v d w)) : LsP D T p l n R := by
  intro v a b
  obtain ⟨h0, h1, h2⟩ := h v a b
  refine ⟨h0, fun u d w ed r => h1 u d w ed ((e u v d w ed).2 r), h2.imp id ?_⟩
  rintro ⟨u, d, w, ed, r, z⟩
  exact ⟨u, d, w, ed, (e u v d w ed).1 r, z⟩
def CPl (D : Dat) (T : Int) (m : MI) (n : Int) : Prop := (PlU D T (m 470) n) ∧ (LsP D T (m 470) (m 471) n (fun u _ _ _ => u < n)) ∧ (∀ k rest, 0 ≤ k → k < 7 → 0 ≤ rest → rest < T → CntP (UseP D T (m 470) k rest) n.toNat (m (473 + k) rest))
theorem CPl.pl {D : Dat} {T : Int} {m : MI} {n : Int} (h0 : CPl D T m n) : PlU D T (m 470) n := h0.1
theorem CPl.ls {D : Dat} {T : Int} {m : MI} {n : Int} (h0 : CPl D T m n) : LsP D T (m 470) (m 471) n (fun u _ _ _ => u < n) := h0.2.1
theorem CPl.bg {D : Dat} {T : Int} {m : MI} {n : Int} (h0 : CPl D T m n) : ∀ k rest, 0 ≤ k → k < 7 → 0 ≤ rest → rest < T → CntP (UseP D T (m 470) k rest) n.toNat (m (473 + k) rest) := h0.2.2
theorem CPl.mk {D : Dat} {T : Int} {m : MI} {n : Int} (h0 : PlU D T (m 470) n) (h1 : LsP D T (m 470) (m 471) n (fun u _ _ _ => u < n)) (h2 : ∀ k rest, 0 ≤ k → k < 7 → 0 ≤ rest → rest < T → CntP (UseP D T (m 470) k rest) n.toNat (m (473 + k) rest)) : CPl D T m n := ⟨h0, h1, h2⟩
theorem CPl.fr {D : Dat} {T n : Int} {m : MI} (h : CPl D T m n) (hn : 0 ≤ n ∧ n < nn D) : FromP D T (m 470) n (m 471 n) := by
  obtain ⟨h0, h1, h2⟩ := h.ls n (Int.le_refl _) hn.2
  exact ⟨h0, h1, h2⟩
theorem rest_w {i r : MI} {s T : Int} {Q : Int → Prop} (hT : i 469 5 = T) (h1 : 1 ≤ T ∧ T ≤ 481) (hs : 0 ≤ s) (hQ : 0 ≤ Int.tmod s T → Int.tmod s T < T → Q (Int.tmod s T)) : wp_X4_restOf s i r Q := by
  unfold wp_X4_restOf s17_X4_restOf s34_X4_restOf wp_X11_isWithin s14_X11_isWithin s15_X11_isWithin
  rw [hT]
  have a : 0 ≤ Int.tmod s T := Int.tmod_nonneg _ hs
  have b : Int.tmod s T < T := Int.tmod_lt_of_pos _ (by omega)
  exact ⟨fun q => by omega, fun _ => ⟨by omega, fun q => by omega, fun _ => ⟨fun q => by omega, fun _ => ⟨.inr rfl, fun q => absurd q (by decide), fun _ => hQ a b⟩⟩⟩⟩
theorem findStep_w {D : Dat} (ok : DOk D) {i r : MI} {T n : Int} {Q : Int → Prop} (g : M2 D i) (hT : i 469 5 = T) (t1 : 1 ≤ T ∧ T ≤ 480) (hn : 0 ≤ n ∧ n < nn D) (c : CPl D T i n) (h1 : ∀ a s, PutP D T (i 470) n a s → Q s) (h0 : StuckP D T (i 470) n → Q (-1)) : wp_X4_findStep n (kdv D n) (D.un (kdv D n)) i r Q := by
  have nl := nn_le ok
  have kr := kdv_r ok hn
  have fr := c.fr hn
  have ab := from_b ok (T := T) (by omega) ⟨hn.1, by omega⟩ c.pl fr
  have pb := pl_b ok (T := T) (by omega) (n := n) (by omega) c.pl
  have gz := g.z n hn.1 (by omega)
  unfold wp_X4_findStep
  rw [hT, wr_of (x := i 471 n + T) (by omega) (by omega), wr_of (x := i 471 n + T - 1) (by omega) (by omega)]
  refine ⟨by omega, ?_⟩
  refine Lp.r2 (fun (x e : Int) => 0 ≤ e ∧ e ≤ i 460 n ∧ -10 ≤ x ∧ x ≤ 50000 ∧ ∀ s, s ≤ x ↔ s ≤ i 471 n + T - 1 ∧ ∀ e', 0 ≤ e' → e' < e → i (170 + n) e' < n → s + i (364 + n) e' - T * i (267 + n) e' ≤ i 470 (i (170 + n) e')) (fun _ e => (i 460 n - e).toNat) ?_ ⟨by decide, by omega, by omega, by omega, fun s => ⟨fun a => ⟨a, fun e a b => by omega⟩, fun a => a.1⟩⟩
  intro x e C ⟨e0, e1, x0, x1, hx⟩ hC
  dsimp only [b22_X4_findStep, s93_X4_findStep]
  refine ⟨by omega, fun q => ?_, fun q => ?_⟩
  · have hB : ∀ s, s ≤ x ↔ s ≤ i 471 n + T - 1 ∧ BackP D T (i 470) n s := by
      intro s
      rw [hx s]
      refine and_congr_right (fun _ => ⟨fun a t d w ed l => ?_, fun a e' a0 a1 l => ?_⟩)
      · obtain ⟨e', z0, z1, z2, z3, z4⟩ := GrC.fd ok g ed
        have := a e' z0 (by omega) (by rw [z2]; exact l)
        rw [z2, z3, z4] at this
        exact this
      · exact a _ _ _ (GrC.ed ok g hn ⟨a0, by omega⟩) l
    refine Lp.rule (fun (s : Int) => i 471 n ≤ s ∧ s ≤ 60000 ∧ (∀ c, i 471 n ≤ c → c < s → ¬ FitP D T (i 470) n c)) (fun s => (60001 - s).toNat) ?_ _ ⟨Int.le_refl _, by omega, fun c a b => by omega⟩
    intro s C2 ⟨s0, s1, no⟩ hC2
    dsimp only [b103_X4_findStep]
    refine ⟨fun q2 => h0 ⟨_, fr, fun c' a b z => ?_⟩, fun q2 => ⟨kr, ?_⟩⟩
    · by_cases w : c' < s
      · exact no c' a w z
      · have := (hB c').2 ⟨by omega, z.1⟩
        omega
    · refine rest_w hT (by omega) (by omega) (fun r0 r1 => ⟨by omega, fun q3 => ?_, fun q3 => ?_⟩)
      · rw [wr_of (x := s + 1) (by omega) (by omega)]
        refine hC2 _ ⟨by omega, by omega, fun c' a b z => ?_⟩ (by omega)
        by_cases w : c' = s
        · rw [w] at z
          obtain ⟨y, hy, yl⟩ := z.2
          have := CntP.uniq _ _ _ hy (c.bg _ _ kr.1 kr.2 r0 r1)
          omega
        · exact no c' a (by omega) z
      · have := (hB s).1 (by omega)
        exact h1 _ s ⟨fr, s0, by omega, ⟨this.2, _, c.bg _ _ kr.1 kr.2 r0 r1, by omega⟩, no⟩
  · have ed := GrC.ed ok g (f := n) (e := e) hn ⟨e0, by omega⟩
    obtain ⟨_, ⟨t0, t1'⟩, d0, d1, _, w0, w1⟩ := ed_props ok ed
    have td := td_b (T := T) (by omega) ⟨d0, d1⟩
    have cx := cyv_r ok (v := n) hn
    rw [wr_of (x := e + 1) (by omega) (by omega)]
    refine ⟨by omega, by omega, fun q2 => ?_, fun q2 => ⟨by omega, by omega, by omega, by omega, by omega, ?_⟩⟩
    · refine hC _ _ ⟨by omega, by omega, x0, x1, fun s => ?_⟩ (by omega)
      rw [hx s]
      refine and_congr_right (fun _ => ⟨fun a e' a0 a1 l => ?_, fun a e' a0 a1 l => a e' a0 (by omega) l⟩)
      by_cases w : e' = e
      · rw [w] at l; omega
      · exact a e' a0 (by omega) l
    · have pt := pb _ t0 (by omega)
      rw [hT, wr_of (x := T * i (267 + n) e) (by omega) (by omega), wr_of (x := i 470 (i (170 + n) e) + T * i (267 + n) e) (by omega) (by omega), wr_of (x := i 470 (i (170 + n) e) + T * i (267 + n) e - i (364 + n) e) (by omega) (by omega)]
      refine hC _ _ ⟨by omega, by omega, by omega, by omega, fun s => ?_⟩ (by omega)
      have m1 : s ≤ min x (i 470 (i (170 + n) e) + T * i (267 + n) e - i (364 + n) e) ↔ s ≤ x ∧ s + i (364 + n) e - T * i (267 + n) e ≤ i 470 (i (170 + n) e) := by omega
      rw [m1, hx s]
      constructor
      · rintro ⟨⟨a, b⟩, z⟩
        refine ⟨a, fun e' a0 a1 l => ?_⟩
        by_cases w : e' = e
        · rw [w]; exact z
        · exact b e' a0 (by omega) l
      · rintro ⟨a, b⟩
        exact ⟨⟨a, fun e' a0 a1 l => b e' a0 (by omega) l⟩, b e e0 (by omega) (by omega)⟩

/-! ===== places: the class, further ===== -/
theorem CntP.up {P R : Int → Prop} {n x : Int} (h0 : 0 ≤ n) (h : CntP P n.toNat x) (e : ∀ v, 0 ≤ v → v < n → (P v ↔ R v)) (y : Int) (hy : (R n ∧ y = x + 1) ∨ (¬ R n ∧ y = x)) : CntP R (n + 1).toNat y := by
  have h' : CntP R n.toNat x := h.iff _ _ (fun v a b => e v a (by omega))
  rcases hy with ⟨a, b⟩ | ⟨a, b⟩
  · rw [b]; exact h'.yes h0 a
  · rw [b]; exact h'.no h0 a
theorem placeAt_w {D : Dat} (ok : DOk D) {i r : MI} {T n a s : Int} {Q : MI → Prop} (g : M2 D i) (hT : i 469 5 = T) (t1 : 1 ≤ T ∧ T ≤ 480) (hn : 0 ≤ n ∧ n < nn D) (c : CPl D T i n) (hp : PutP D T (i 470) n a s) (hQ : ∀ m, FPl i m → CPl D T m (n + 1) → Q m) : wp_X4_placeAt n (kdv D n) s i r Q := by
  have nl := nn_le ok
  have kr := kdv_r ok hn
  have ab := from_b ok (T := T) (by omega) ⟨hn.1, by omega⟩ c.pl hp.f
  have pa := hp.a
  have pb := hp.b
  have gz := g.z n hn.1 (by omega)
  unfold wp_X4_placeAt
  refine ⟨by omega, kr, ?_⟩
  refine rest_w (T := T) (by rw [st_row (by decide)]; exact hT) (by omega) (by omega) (fun r0 r1 => ⟨by omega, by omega, ?_⟩)
  have cb := CntP.b _ _ (c.bg _ _ kr.1 kr.2 r0 r1)
  have e1 : (st i 470 n s) (473 + kdv D n) (Int.tmod s T) = i (473 + kdv D n) (Int.tmod s T) := by rw [st_row (by omega)]
  rw [e1, wr_of (x := i (473 + kdv D n) (Int.tmod s T) + 1) (by omega) (by omega)]
  generalize hi1 : st (st i 470 n s) (473 + kdv D n) (Int.tmod s T) (i (473 + kdv D n) (Int.tmod s T) + 1) = i1
  have f1 : FPl i i1 := by rw [← hi1]; exact FPl.s0.trans (FPl.sb kr)
  have p1 : ∀ u, 0 ≤ u → u < n → i 470 u = i1 470 u := fun u x y => by rw [← hi1, st_row (by omega), st_ne (by omega)]
  have p2 : i1 470 n = s := by rw [← hi1, st_row (by omega), st_eq]
  have p3 : i1 471 = i 471 := by rw [← hi1, st_row (by omega), st_row (by omega)]
  have pl : PlU D T (i1 470) (n + 1) := c.pl.step ok hp hn.1 p1 p2
  have bg : ∀ k rest, 0 ≤ k → k < 7 → 0 ≤ rest → rest < T → CntP (UseP D T (i1 470) k rest) (n + 1).toNat (i1 (473 + k) rest) := by
    intro k rest k0 k1 q0 q1
    refine CntP.up hn.1 (c.bg k rest k0 k1 q0 q1) (fun v x y => by unfold UseP; rw [p1 v x y]) _ ?_
    unfold UseP
    rw [p2]
    by_cases w : kdv D n = k ∧ Int.tmod s T = rest
    · obtain ⟨rfl, rfl⟩ := w
      exact .inl ⟨⟨rfl, rfl⟩, by rw [← hi1, st_eq]⟩
    · refine .inr ⟨w, ?_⟩
      rw [← hi1]
      by_cases w2 : kdv D n = k
      · rw [← w2, st_ne (by have : Int.tmod s T ≠ rest := fun z => w ⟨w2, z⟩
                            omega), st_row (by omega)]
      · rw [st_row (by omega), st_row (by omega)]
  have l0 : LsP D T (i1 470) (i1 471) (n + 1) (fun u _ _ _ => u < n) := by
    rw [p3]
    intro v x y
    obtain ⟨h0, h1, h2⟩ := c.ls v (by omega) y
    refine ⟨h0, fun u d w ed l => ?_, h2.imp id ?_⟩
    · rw [← p1 u (ed_props ok ed).1.1 l]; exact h1 u d w ed l
    · rintro ⟨u, d, w, ed, l, z⟩
      exact ⟨u, d, w, ed, l, by rw [← p1 u (ed_props ok ed).1.1 l]; exact z⟩
  refine Lp.r2 (fun (e : Int) (m : MI) => 0 ≤ e ∧ e ≤ i 460 n ∧ F1 i1 m ∧ LsP D T (i1 470) (m 471) (n + 1) (fun u t d w => u < n ∨ (u = n ∧ ∃ e', 0 ≤ e' ∧ e' < e ∧ i (170 + n) e' = t ∧ i (267 + n) e' = d ∧ i (364 + n) e' = w))) (fun e _ => (i 460 n - e).toNat) ?_ ⟨by decide, by omega, F1.refl i1, l0.iff (fun u v d w ed => ⟨.inl, fun z => ?_⟩)⟩
  · intro e m C ⟨e0, e1', f, l⟩ hC
    dsimp only [b28_X4_placeAt]
    have fm : ∀ a, a ≠ 471 → a ≠ 470 → (a < 473 ∨ 479 < a) → m a = i a := fun a x y z => by rw [f a x, f1 a y x z]
    rw [fm 460 (by omega) (by omega) (by omega), fm (170 + n) (by omega) (by omega) (by omega), fm (267 + n) (by omega) (by omega) (by omega), fm (364 + n) (by omega) (by omega) (by omega), fm 469 (by omega) (by omega) (by omega), hT]
    refine ⟨by omega, fun q => hQ m (f1.trans (fun a _ x _ => f a x)) ⟨by rw [f 470 (by decide)]; exact pl, ?_, fun k rest k0 k1 q0 q1 => by rw [f 470 (by decide), f (473 + k) (by omega)]; exact bg k rest k0 k1 q0 q1⟩, fun q => ?_⟩
    · rw [f 470 (by decide)]
      refine l.iff (fun u v d w ed => ⟨fun z => by omega, fun z => ?_⟩)
      by_cases w' : u = n
      · refine .inr ⟨w', ?_⟩
        rw [w'] at ed
        obtain ⟨e', z0, z1, z2⟩ := GrC.fd ok g ed
        exact ⟨e', z0, by omega, z2⟩
      · exact .inl (by omega)
    · have ed := GrC.ed ok g (f := n) (e := e) hn ⟨e0, by omega⟩
      obtain ⟨_, ⟨t0, t1'⟩, d0, d1, _, w0, w1⟩ := ed_props ok ed
      have td := td_b (T := T) (by omega) ⟨d0, d1⟩
      have cx := cyv_r ok (v := n) hn
      rw [wr_of (x := e + 1) (by omega) (by omega), wr_of (x := s + i (364 + n) e) (by omega) (by omega), wr_of (x := T * i (267 + n) e) (by omega) (by omega), wr_of (x := s + i (364 + n) e - T * i (267 + n) e) (by omega) (by omega)]
      refine ⟨by omega, by omega, by omega, by omega, by omega, by omega, by omega, by omega, ?_⟩
      refine hC _ _ ⟨by omega, by omega, f.trans F1.sa, fun v v0 v1 => ?_⟩ (by omega)
      obtain ⟨h0, h1, h2⟩ := l v v0 v1
      by_cases w : v = i (170 + n) e
      · rw [w, st_eq]
        rw [w] at h0 h1 h2
        refine ⟨by omega, fun u d w' ed' z => ?_, ?_⟩
        · rcases z with z | ⟨rfl, e', a0, a1, a2, a3, a4⟩
          · have := h1 u d w' ed' (.inl z)
            omega
          · by_cases ee : e' = e
            · rw [ee] at a3 a4
              rw [p2, ← a3, ← a4]
              omega
            · have := h1 _ d w' ed' (.inr ⟨rfl, e', a0, by omega, a2, a3, a4⟩)
              omega
        · rcases Int.le_total (m 471 (i (170 + n) e)) (s + i (364 + n) e - T * i (267 + n) e) with z | z
          · rw [Int.max_eq_right z]
            exact .inr ⟨n, _, _, ed, .inr ⟨rfl, e, e0, by omega, rfl, rfl, rfl⟩, by rw [p2]⟩
          · rw [Int.max_eq_left z]
            refine h2.imp id ?_
            rintro ⟨u, d, w', ed', y, z⟩
            exact ⟨u, d, w', ed', y.imp id (fun ⟨a, e', a0, a1, a2⟩ => ⟨a, e', a0, by omega, a2⟩), z⟩
      · rw [st_ne (by omega)]
        refine ⟨h0, fun u d w' ed' z => h1 u d w' ed' ?_, h2.imp id ?_⟩
        · rcases z with z | ⟨z, e', a0, a1, a2, a3⟩
          · exact .inl z
          · by_cases ee : e' = e
            · rw [ee] at a2; omega
            · exact .inr ⟨z, e', a0, by omega, a2, a3⟩
        · rintro ⟨u, d, w', ed', y, z⟩
          exact ⟨u, d, w', ed', y.imp id (fun ⟨a, e', a0, a1, a2⟩ => ⟨a, e', a0, by omega, a2⟩), z⟩
  · rcases z with z | ⟨_, e', a0, a1, _⟩
    · exact z
    · omega
theorem placeAll_w {D : Dat} (ok : DOk D) {i r : MI} {T : Int} {Q : Int → MI → Prop} (h : NV D i) (g : M2 D i) (hu : ∀ k, 0 ≤ k → k < 7 → i 69 k = D.un k) (hT : i 469 5 = T) (t1 : 1 ≤ T ∧ T ≤ 480) (h1 : ∀ m, FPl i m → PlU D T (m 470) (nn D) → Q 1 m) (h0 : ∀ m, FPl i m → ¬ CanP D T → T < sumC D (nn D) → Q 0 m) : wp_X4_placeAll i r Q := by
  have nl := nn_le ok
  unfold wp_X4_placeAll
  refine Lp.r2 (fun (x : Int) (m : MI) => 0 ≤ x ∧ x ≤ 7 ∧ FPl i m ∧ ∀ k rest, 0 ≤ k → k < x → 0 ≤ rest → rest < T → m (473 + k) rest = 0) (fun x _ => (7 - x).toNat) ?_ ⟨by decide, by decide, FPl.refl i, fun k rest a b => by omega⟩
  intro x m C ⟨x0, x1, f, z⟩ hC
  dsimp only [b2_X4_placeAll]
  refine ⟨fun q => ?_, fun q => ?_⟩
  · refine Lp.r2 (fun (y : Int) (m' : MI) => 0 ≤ y ∧ y ≤ nn D ∧ F1 m m' ∧ ∀ v, 0 ≤ v → v < y → m' 471 v = 0) (fun y _ => (nn D - y).toNat) ?_ ⟨by decide, nl.1, F1.refl m, fun v a b => by omega⟩
    intro y m1 C2 ⟨y0, y1, f1, z1⟩ hC2
    dsimp only [b52_X4_placeAll]
    have fa : FPl i m1 := f.trans (fun a _ x _ => f1 a x)
    rw [(h.fl ok fa.fl).n]
    refine ⟨fun q2 => ?_, fun q2 => ⟨by omega, ?_⟩⟩
    · refine Lp.r2 (fun (n : Int) (m' : MI) => 0 ≤ n ∧ n ≤ nn D ∧ FPl i m' ∧ CPl D T m' n) (fun n _ => (nn D - n).toNat) ?_ ⟨by decide, nl.1, fa, ⟨fun v a b => by omega, fun v a b => ⟨by rw [z1 v a (by omega)]; exact Int.le_refl 0, fun u d w ed l => by have := (ed_props ok ed).1.1; omega, .inl (z1 v a (by omega))⟩, fun k rest k0 k1 q0 q1 => ?_⟩⟩
      · intro n m2 C3 ⟨n0, n1, f2, c⟩ hC3
        dsimp only [b75_X4_placeAll]
        have hv : NV D m2 := h.fl ok f2.fl
        have gv : M2 D m2 := g.fl ok f2.fl
        have hT2 : m2 469 5 = T := by rw [f2 469 (by decide) (by decide) (by decide)]; exact hT
        rw [hv.n]
        refine ⟨fun q3 => h1 m2 f2 (by rw [show nn D = n by omega]; exact c.pl), fun q3 => ⟨by omega, ?_⟩⟩
        have hn : 0 ≤ n ∧ n < nn D := ⟨n0, by omega⟩
        have kr := kdv_r ok hn
        rw [hv.kd hn, f2 69 (by decide) (by decide) (by decide), hu _ kr.1 kr.2]
        refine ⟨kr, findStep_w ok gv hT2 t1 hn c (fun a s hp => ⟨fun q4 => ?_, fun q4 => ?_⟩) (fun hs => ⟨fun q4 => h0 m2 f2 (stuck_no ok hn c.pl hs) (Classical.byContradiction fun w => no_stuck ok (by omega) hn c.pl hs), fun q4 => absurd rfl q4⟩)⟩
        · have := hp.f.1
          have := hp.a
          omega
        · refine placeAt_w ok gv hT2 t1 hn c hp (fun m3 f3 c3 => ?_)
          rw [wr_of (x := n + 1) (by omega) (by omega)]
          exact hC3 _ _ ⟨by omega, by omega, f2.trans f3, c3⟩ (by omega)
      · rw [f1 (473 + k) (by omega), z k rest k0 (by omega) q0 q1]; rfl
    · rw [wr_of (x := y + 1) (by omega) (by omega)]
      refine hC2 _ _ ⟨by omega, by omega, f1.trans F1.sa, fun v a b => ?_⟩ (by omega)
      by_cases w : v = y
      · rw [w, st_eq]
      · rw [st_ne (by omega)]; exact z1 v a (by omega)
  · refine Lp.r2 (fun (y : Int) (m' : MI) => 0 ≤ y ∧ y ≤ T ∧ FPl i m' ∧ (∀ k rest, 0 ≤ k → k < x → 0 ≤ rest → rest < T → m' (473 + k) rest = 0) ∧ ∀ rest, 0 ≤ rest → rest < y → m' (473 + x) rest = 0) (fun y _ => (T - y).toNat) ?_ ⟨by decide, by omega, f, z, fun v a b => by omega⟩
    intro y m1 C2 ⟨y0, y1, f1, z1, z2⟩ hC2
    dsimp only [b11_X4_placeAll, s44_X4_placeAll]
    rw [f1 469 (by decide) (by decide) (by decide), hT]
    refine ⟨fun q2 => ?_, fun q2 => ⟨fun q3 => by omega, fun q3 => ⟨by omega, by omega, ?_⟩⟩⟩
    · rw [wr_of (x := x + 1) (by omega) (by omega)]
      refine hC _ _ ⟨by omega, by omega, f1, fun k rest a b c d => ?_⟩ (by omega)
      by_cases w : k = x
      · rw [w]; exact z2 rest c (by omega)
      · exact z1 k rest a (by omega) c d
    · rw [wr_of (x := y + 1) (by omega) (by omega)]
      refine hC2 _ _ ⟨by omega, by omega, f1.trans (FPl.sb ⟨x0, by omega⟩), fun k rest a b c d => ?_, fun rest a b => ?_⟩ (by omega)
      · rw [st_row (by omega)]; exact z1 k rest a b c d
      · by_cases w : rest = y
        · rw [w, st_eq]
        · rw [st_ne (by omega)]; exact z2 rest a (by omega)

/-! ===== interval: the class ===== -/
def FPc (i i' : MI) : Prop := ∀ a, (a < 469 ∨ 479 < a) → i' a = i a
theorem FPc.refl (i : MI) : FPc i i := fun _ _ => rfl
theorem FPc.trans {i j k : MI} (h : FPc i j) (g : FPc j k) : FPc i k := fun a x => (g a x).trans (h a x)
theorem FPc.s {c v : Int} {i : MI} : FPc i (st i 469 c v) := fun b x => st_row (by omega)
theorem FPl.fr {i i' : MI} (h : FPl i i') : FPc i i' := fun a x => h a (by omega) (by omega) (by omega)
theorem F1.fr {i i' : MI} (h : F1 i i') : FPc i i' := fun a x => h a (by omega)
theorem FPc.fl {i i' : MI} (h : FPc i i') : ∀ a, a < 462 → i' a = i a := fun a x => h a (by omega)
def M4 (D : Dat) (i : MI) : Prop := (IsRing D (i 469 3)) ∧ (i 469 4 = uT D) ∧ (IsInt D (i 469 5)) ∧ (PlU D (i 469 5) (i 470) (nn D))
theorem M4.r {D : Dat} {i : MI} (h0 : M4 D i) : IsRing D (i 469 3) := h0.1
theorem M4.u {D : Dat} {i : MI} (h0 : M4 D i) : i 469 4 = uT D := h0.2.1
theorem M4.t {D : Dat} {i : MI} (h0 : M4 D i) : IsInt D (i 469 5) := h0.2.2.1
theorem M4.p {D : Dat} {i : MI} (h0 : M4 D i) : PlU D (i 469 5) (i 470) (nn D) := h0.2.2.2
theorem M4.mk {D : Dat} {i : MI} (h0 : IsRing D (i 469 3)) (h1 : i 469 4 = uT D) (h2 : IsInt D (i 469 5)) (h3 : PlU D (i 469 5) (i 470) (nn D)) : M4 D i := ⟨h0, h1, h2, h3⟩
theorem uT_b {D : Dat} (ok : DOk D) : 1 ≤ uT D ∧ uT D ≤ 96 := uMx_b ok 7 (Nat.le_refl _)
theorem xfind_w {D : Dat} (ok : DOk D) {i r : MI} {Q : MI → Prop} (h : NV D i) (g : M2 D i) (mc : MC D i) (hQ : ∀ i', FPc i i' → M4 D i' → Q i') : wp_X4_find i r Q := by
  have nl := nn_le ok
  have s4 := sum480 ok
  have ub := uT_b ok
  unfold wp_X4_find
  refine findByRings_w ok h g (fun R m f hR => ?_)
  have rl := ring_le ok hR
  have r1 := hR.1
  have e69 : (st m 469 3 R) 69 = i 69 := by rw [st_row (by decide), f 69 (by decide)]
  have e71 : (st m 469 3 R) 71 = i 71 := by rw [st_row (by decide), f 71 (by decide)]
  refine byUnits_w ok ⟨fun k a b => by rw [e71]; exact mc.1 k a b, fun k a b => by rw [e69]; exact mc.2 k a b⟩ ?_
  have a3 : st (st m 469 3 R) 469 4 (uT D) 469 3 = R := by rw [st_ne (by decide), st_eq]
  have a4 : st (st m 469 3 R) 469 4 (uT D) 469 4 = uT D := st_eq
  rw [a3, a4]
  generalize hm : st (st (st m 469 3 R) 469 4 (uT D)) 469 5 (max R (uT D)) = m1
  have g1 : FPc i m1 := by rw [← hm]; exact f.fr.trans (FPc.s.trans (FPc.s.trans FPc.s))
  have m3 : m1 469 3 = R := by rw [← hm, st_ne (by decide), st_ne (by decide), st_eq]
  have m4 : m1 469 4 = uT D := by rw [← hm, st_ne (by decide), st_eq]
  have m5 : m1 469 5 = max R (uT D) := by rw [← hm, st_eq]
  have un : ∀ {m : MI}, FPc i m → ∀ k, 0 ≤ k → k < 7 → m 69 k = D.un k := fun f k a b => by rw [f 69 (by omega)]; exact mc.2 k a b
  have fin : ∀ (m : MI), FPc i m → m 469 3 = R → m 469 4 = uT D → PlU D (m 469 5) (m 470) (nn D) → max R (uT D) ≤ m 469 5 ∧ m 469 5 ≤ 480 → (∀ c, max R (uT D) ≤ c → c < m 469 5 → ¬ CanP D c) → Q m := by
    intro m f a b p l no
    exact hQ m f ⟨by rw [a]; exact hR, b, ⟨R, hR, l.1, l.2, ⟨_, p⟩, no⟩, p⟩
  have loop : ∀ (y : Int) (m2 : MI), FPc i m2 → m2 469 3 = R → m2 469 4 = uT D → m2 469 5 = max R (uT D) → ((y = 0 ∧ ¬ CanP D (max R (uT D)) ∧ max R (uT D) < sumC D (nn D)) ∨ (y = 1 ∧ PlU D (max R (uT D)) (m2 470) (nn D))) → wp_X0_sumOfCycles m2 r (fun v22 => Lp (b54_X4_find v22 r Q) (y, wr (m2 469 5 + 1), m2)) := by
    intro y m2 g2 i3 i4 x5 hy
    refine sumOf_w ok (h.fl ok g2.fl) ?_
    rw [x5, wr_of (x := max R (uT D) + 1) (by omega) (by omega)]
    refine Lp.r3 (fun (y T : Int) (m : MI) => max R (uT D) + 1 ≤ T ∧ T ≤ 481 ∧ FPc i m ∧ m 469 3 = R ∧ m 469 4 = uT D ∧ m 469 5 = T - 1 ∧ (∀ c, max R (uT D) ≤ c → c < T - 1 → ¬ CanP D c) ∧ ((y = 0 ∧ ¬ CanP D (T - 1) ∧ T - 1 < sumC D (nn D)) ∨ (y = 1 ∧ PlU D (T - 1) (m 470) (nn D)))) (fun _ T _ => (500 - T).toNat) ?_ ⟨Int.le_refl _, by omega, g2, i3, i4, by omega, fun c a b => by omega, by rw [show max R (uT D) + 1 - 1 = max R (uT D) by omega]; exact hy⟩
    intro y T m C ⟨j0, j1, j2, j3, j4, j5, j6, j7⟩ hC
    dsimp only [b54_X4_find, s84_X4_find]
    have done : (y = 0 → sumC D (nn D) < T) → Q m := fun z => fin m j2 j3 j4 (by
      rcases j7 with ⟨w, _⟩ | ⟨_, w⟩
      · have := z w
        omega
      · rw [j5]; exact w) (by omega) (fun c a b => j6 c a (by omega))
    refine ⟨fun q => done (fun _ => q), fun q => ⟨fun q2 => ?_, fun q2 => done (fun z => absurd z q2)⟩⟩
    rcases j7 with ⟨_, w1, w2⟩ | ⟨w, _⟩
    · have g3 : FPc i (st m 469 5 T) := j2.trans FPc.s
      rw [wr_of (x := T + 1) (by omega) (by omega)]
      have no' : ∀ c, max R (uT D) ≤ c → c < T + 1 - 1 → ¬ CanP D c := fun c a b => by
        by_cases z : c = T - 1
        · rw [z]; exact w1
        · exact j6 c a (by omega)
      have eT : T + 1 - 1 = T := by omega
      refine placeAll_w ok (h.fl ok g3.fl) (g.fl ok g3.fl) (un g3) (T := T) st_eq (by omega) (fun m5 f5 p5 => ?_) (fun m5 f5 n5 l5 => ?_)
      all_goals
        refine hC _ _ _ ⟨by omega, by omega, g3.trans f5.fr, by rw [f5 469 (by decide) (by decide) (by decide), st_ne (by decide)]; exact j3, by rw [f5 469 (by decide) (by decide) (by decide), st_ne (by decide)]; exact j4, by rw [f5 469 (by decide) (by decide) (by decide), st_eq, eT], no', ?_⟩ (by omega)
        rw [eT]
      · exact .inr ⟨rfl, p5⟩
      · exact .inl ⟨rfl, n5, l5⟩
    · omega
  have k69 : ∀ {m2 : MI}, FPl m1 m2 → m2 469 = m1 469 := fun f2 => f2 469 (by decide) (by decide) (by decide)
  refine placeAll_w ok (h.fl ok g1.fl) (g.fl ok g1.fl) (un g1) m5 (by omega) (fun m2 f2 p2 => loop 1 m2 (g1.trans f2.fr) (by rw [k69 f2]; exact m3) (by rw [k69 f2]; exact m4) (by rw [k69 f2]; exact m5) (.inr ⟨rfl, p2⟩)) (fun m2 f2 no lt => loop 0 m2 (g1.trans f2.fr) (by rw [k69 f2]; exact m3) (by rw [k69 f2]; exact m4) (by rw [k69 f2]; exact m5) (.inl ⟨rfl, no, lt⟩))

/-! ===== what binds, and how long it takes ===== -/
def kch (k : Int) : Int := (iAnd (bS 3 k) 255) % 65536
theorem kch_w {i r : MI} {k : Int} {Q : Int → Prop} (hk : 0 ≤ k ∧ k < 7) (hQ : 0 ≤ kch k ∧ kch k < 65536 → Q (kch k)) : wp_J0_charAt_5068e 3 k i r Q := by
  have l3 : (lenS 3 : Int) = 7 := by decide
  have b : 0 ≤ kch k ∧ kch k < 65536 := by unfold kch; omega
  unfold wp_J0_charAt_5068e wp_J0_isLatin1_aae02 s17_J0_isLatin1_aae02 s18_J0_isLatin1_aae02 wp_J1_charAt_3b067 wp_J0_checkIndex_df160 wp_J3_checkIndex_8e157 s9_J3_checkIndex_8e157
  rw [l3]
  exact ⟨fun q => absurd q (by decide), fun _ => ⟨fun _ => ⟨.inr rfl, fun q => absurd q (by decide), fun _ => ⟨fun q => by omega, fun _ => ⟨fun _ => ⟨hk, b, b, hQ b⟩, fun q => by omega⟩⟩⟩, fun q => absurd rfl q⟩⟩
def FirstK (D : Dat) (u c : Int) : Prop := (∃ k, 0 ≤ k ∧ k < 7 ∧ nIk D k = u ∧ (∀ j, 0 ≤ j → j < k → nIk D j ≠ u) ∧ c = kch k) ∨ ((∀ k, 0 ≤ k → k < 7 → nIk D k ≠ u) ∧ c = 45)
theorem FirstK.uniq {D : Dat} {u c d : Int} (h : FirstK D u c) (g : FirstK D u d) : c = d := by
  rcases h with ⟨k, k0, k1, k2, k3, k4⟩ | ⟨h1, h2⟩ <;> rcases g with ⟨j, j0, j1, j2, j3, j4⟩ | ⟨g1, g2⟩
  · rcases Int.lt_trichotomy k j with z | z | z
    · exact absurd k2 (j3 k k0 z)
    · rw [k4, j4, z]
    · exact absurd j2 (k3 j j0 z)
  · exact absurd k2 (g1 k k0 k1)
  · exact absurd j2 (h1 j j0 j1)
  · rw [h2, g2]
def BindP (D : Dat) (R T c : Int) : Prop := (nn D = 0 ∧ c = 45) ∨ (nn D ≠ 0 ∧ max R (uT D) < T ∧ c = 45) ∨ (nn D ≠ 0 ∧ T = max R (uT D) ∧ uT D < R ∧ c = 114) ∨ (nn D ≠ 0 ∧ T = max R (uT D) ∧ R ≤ uT D ∧ FirstK D (uT D) c)
theorem BindP.uniq {D : Dat} {R T c d : Int} (h : BindP D R T c) (g : BindP D R T d) : c = d := by
  rcases h with ⟨h1, h2⟩ | ⟨h1, h2, h3⟩ | ⟨h1, h2, h3, h4⟩ | ⟨h1, h2, h3, h4⟩ <;> rcases g with ⟨g1, g2⟩ | ⟨g1, g2, g3⟩ | ⟨g1, g2, g3, g4⟩ | ⟨g1, g2, g3, g4⟩ <;> try omega
  exact h4.uniq g4
theorem int_ge {D : Dat} {R T : Int} (hR : IsRing D R) (hT : IsInt D T) : max R (uT D) ≤ T ∧ T ≤ 480 := by
  obtain ⟨R', r, a, b, _, _⟩ := hT
  rw [ring_uniq hR r]; exact ⟨a, b⟩
theorem int_b {D : Dat} {T : Int} (hT : IsInt D T) : 1 ≤ T ∧ T ≤ 480 := by
  obtain ⟨R', r, a, b, _, _⟩ := hT
  have := r.1
  omega
theorem uMx_ge {D : Dat} : ∀ (n : Nat) (k : Int), 0 ≤ k → k < n → nIk D k ≤ uMx D n := by
  intro n
  induction n with
  | zero => intro k a b; omega
  | succ n ih =>
    intro k a b
    show nIk D k ≤ max (uMx D n) (nIk D n)
    by_cases z : k = n
    · rw [z]; omega
    · have := ih k a (by omega)
      omega
