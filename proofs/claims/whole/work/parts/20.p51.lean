/-! ===== rings: what allows an interval ===== -/
/-- begins at an interval that keep all edges -/
def Feas (D : Dat) (T : Int) (p : Int → Int) : Prop := (∀ v, 0 ≤ v → v < nn D → 0 ≤ p v) ∧ (∀ f t d w, Ed D f t d w → p f + w - T * d ≤ p t)
theorem Feas.z {D : Dat} {T : Int} {p : Int → Int} (h0 : Feas D T p) : ∀ v, 0 ≤ v → v < nn D → 0 ≤ p v := h0.1
theorem Feas.e {D : Dat} {T : Int} {p : Int → Int} (h0 : Feas D T p) : ∀ f t d w, Ed D f t d w → p f + w - T * d ≤ p t := h0.2
theorem Feas.mk {D : Dat} {T : Int} {p : Int → Int} (h0 : ∀ v, 0 ≤ v → v < nn D → 0 ≤ p v) (h1 : ∀ f t d w, Ed D f t d w → p f + w - T * d ≤ p t) : Feas D T p := ⟨h0, h1⟩
def CanR (D : Dat) (T : Int) : Prop := ∃ p, Feas D T p
theorem mul_up {T T' d : Int} (h : T ≤ T') (hd : 0 ≤ d) : T * d ≤ T' * d := Int.mul_le_mul_of_nonneg_right h hd
theorem CanR.up {D : Dat} (ok : DOk D) {T T' : Int} (h : T ≤ T') : CanR D T → CanR D T' := by
  rintro ⟨p, hz, he⟩
  refine ⟨p, hz, fun f t d w e => ?_⟩
  have := mul_up h (ed_props ok e).2.2.1
  have := he f t d w e
  omega
theorem canR_sum {D : Dat} (ok : DOk D) {T : Int} (h : sumC D (nn D) ≤ T) : CanR D T := by
  have hn := nn_le ok
  refine ⟨sumC D, fun v a b => (sumC_b ok a (by omega)).1, fun f t d w e => ?_⟩
  obtain ⟨⟨f0, f1⟩, ⟨t0, t1⟩, d0, d1, dt, w0, w1⟩ := ed_props ok e
  have s1 := sumC_s (D := D) f0
  have tb := (sumC_b ok t0 (by omega)).1
  have sn := (sumC_b ok hn.1 (Int.le_refl _)).1
  by_cases z : d = 0
  · have := sumC_mono ok (u := f + 1) (v := t) (by omega) (by have := dt z; omega) (by omega)
    rw [z, Int.mul_zero]
    omega
  · have := sumC_mono ok (u := f + 1) (v := nn D) (by omega) (by omega) (by omega)
    have t1 : T * 1 ≤ T * d := Int.mul_le_mul_of_nonneg_left (by omega) (by omega)
    omega
def psum (p : Int → Int) : Nat → Int
  | 0 => 0
  | n + 1 => psum p n + p n
theorem psum_le {p q : Int → Int} : ∀ n : Nat, (∀ v : Int, 0 ≤ v → v < n → p v ≤ q v) → psum p n ≤ psum q n := by
  intro n
  induction n with
  | zero => intro _; exact Int.le_refl _
  | succ n ih =>
    intro h
    have := ih (fun v a b => h v a (by omega))
    have := h n (by omega) (by omega)
    show psum p n + p n ≤ psum q n + q n
    omega
theorem psum_lt {p q : Int → Int} : ∀ n : Nat, (∀ v : Int, 0 ≤ v → v < n → p v ≤ q v) → (∃ v : Int, 0 ≤ v ∧ v < n ∧ p v < q v) → psum p n < psum q n := by
  intro n
  induction n with
  | zero => rintro _ ⟨v, a, b, _⟩; omega
  | succ n ih =>
    rintro h ⟨v, a, b, c⟩
    have h1 := h n (by omega) (by omega)
    show psum p n + p n < psum q n + q n
    by_cases z : v = n
    · have := psum_le n (fun v a b => h v a (by omega))
      rw [z] at c
      omega
    · have := ih (fun v a b => h v a (by omega)) ⟨v, a, by omega, c⟩
      omega
theorem psum_0 {p : Int → Int} : ∀ n : Nat, (∀ v : Int, 0 ≤ v → v < n → 0 ≤ p v) → 0 ≤ psum p n := by
  intro n
  induction n with
  | zero => intro _; exact Int.le_refl _
  | succ n ih =>
    intro h
    have := ih (fun v a b => h v a (by omega))
    have := h n (by omega) (by omega)
    show 0 ≤ psum p n + p n
    omega
/-- the begins of the least sum -/
def Least (D : Dat) (T : Int) (M : Int → Int) : Prop := (Feas D T M) ∧ (∀ q, Feas D T q → psum M (nn D).toNat ≤ psum q (nn D).toNat)
theorem Least.f {D : Dat} {T : Int} {M : Int → Int} (h0 : Least D T M) : Feas D T M := h0.1
theorem Least.l {D : Dat} {T : Int} {M : Int → Int} (h0 : Least D T M) : ∀ q, Feas D T q → psum M (nn D).toNat ≤ psum q (nn D).toNat := h0.2
theorem Least.mk {D : Dat} {T : Int} {M : Int → Int} (h0 : Feas D T M) (h1 : ∀ q, Feas D T q → psum M (nn D).toNat ≤ psum q (nn D).toNat) : Least D T M := ⟨h0, h1⟩
theorem least_ex {D : Dat} (ok : DOk D) {T : Int} (h : CanR D T) : ∃ M, Least D T M := by
  have hn := nn_le ok
  have z : ∀ p, Feas D T p → 0 ≤ psum p (nn D).toNat := fun p f => psum_0 _ (fun v a b => f.z v a (by omega))
  have key : ∀ n : Nat, (∃ p, Feas D T p ∧ psum p (nn D).toNat ≤ n) → ∃ M, Least D T M := by
    intro n
    induction n with
    | zero => rintro ⟨p, f, q⟩; exact ⟨p, f, fun q' f' => by have := z q' f'; omega⟩
    | succ n ih =>
      rintro ⟨p, f, q⟩
      by_cases c : ∃ p, Feas D T p ∧ psum p (nn D).toNat ≤ n
      · exact ih c
      · refine ⟨p, f, fun q' f' => ?_⟩
        have : ¬ psum q' (nn D).toNat ≤ n := fun w => c ⟨q', f', w⟩
        omega
  obtain ⟨p, f⟩ := h
  exact key (psum p (nn D).toNat).toNat ⟨p, f, by have := z p f; omega⟩
/-- none can be lowered -/
theorem Least.no {D : Dat} (ok : DOk D) {T : Int} {M q : Int → Int} (h : Least D T M) (f : Feas D T q) (hq : ∀ v, 0 ≤ v → v < nn D → q v ≤ M v) : ∀ v, 0 ≤ v → v < nn D → q v = M v := by
  intro v a b
  have hn := nn_le ok
  apply Classical.byContradiction
  intro c
  have := psum_lt (p := q) (q := M) (nn D).toNat (fun v a b => hq v a (by omega)) ⟨v, a, by omega, by have := hq v a b; omega⟩
  have := h.l q f
  omega
theorem Least.le {D : Dat} (ok : DOk D) {T : Int} {M : Int → Int} (hT : 0 ≤ T) (h : Least D T M) : ∀ v, 0 ≤ v → v < nn D → M v ≤ sumC D (nn D) := by
  intro v v0 v1
  refine cover_le ok (ls := M) (fun d d0 d1 => Classical.byContradiction fun no => ?_)
  have no' : ∀ u, 0 ≤ u → u < nn D → M u ≤ d → M u + cyv D u ≤ d := fun u a b c => Classical.byContradiction fun w => no ⟨u, a, b, c, by omega⟩
  have fq : Feas D T (fun u => if M u ≤ d then M u else M u - 1) := by
    refine ⟨fun u a b => ?_, fun f t d' w e => ?_⟩
    · have := h.f.z u a b
      dsimp only
      split <;> omega
    · have he := h.f.e f t d' w e
      obtain ⟨⟨f0, f1⟩, ⟨t0, t1⟩, e0, _, _, _, w1⟩ := ed_props ok e
      have m0 : 0 ≤ T * d' := Int.mul_nonneg hT e0
      dsimp only
      by_cases c : M f ≤ d
      · have := no' f f0 f1 c
        rw [if_pos c]
        split <;> omega
      · rw [if_neg c]
        split <;> omega
  have := h.no ok fq (fun u a b => by (try dsimp only); split <;> omega) v v0 v1
  try dsimp only at this
  rw [if_neg (by omega)] at this
  omega
/-- how many are as they are to be -/
def eqN (p q : Int → Int) : Nat → Int
  | 0 => 0
  | n + 1 => eqN p q n + if p n = q n then 1 else 0
theorem eqN_b {p q : Int → Int} : ∀ n : Nat, 0 ≤ eqN p q n ∧ eqN p q n ≤ n ∧ (eqN p q n = n → ∀ v : Int, 0 ≤ v → v < n → p v = q v) := by
  intro n
  induction n with
  | zero => exact ⟨Int.le_refl 0, Int.le_refl 0, fun _ v a b => by omega⟩
  | succ n ih =>
    obtain ⟨h1, h2, h3⟩ := ih
    show 0 ≤ eqN p q n + _ ∧ eqN p q n + _ ≤ _ ∧ (eqN p q n + _ = _ → _)
    by_cases c : p n = q n
    · rw [if_pos c]
      refine ⟨by omega, by omega, fun e v a b => ?_⟩
      by_cases z : v = n
      · rw [z]; exact c
      · exact h3 (by omega) v a (by omega)
    · rw [if_neg c]
      exact ⟨by omega, by omega, fun e => by omega⟩
theorem eqN_mono {p p' q : Int → Int} : ∀ n : Nat, (∀ v : Int, 0 ≤ v → v < n → p v = q v → p' v = q v) → eqN p q n ≤ eqN p' q n := by
  intro n
  induction n with
  | zero => intro _; exact Int.le_refl _
  | succ n ih =>
    intro h
    have := ih (fun v a b => h v a (by omega))
    have := h n (by omega) (by omega)
    show eqN p q n + _ ≤ eqN p' q n + _
    by_cases c : p n = q n
    · rw [if_pos c, if_pos (this c)]; omega
    · rw [if_neg c]; split <;> omega
theorem eqN_lt {p p' q : Int → Int} : ∀ n : Nat, (∀ v : Int, 0 ≤ v → v < n → p v = q v → p' v = q v) → (∃ v : Int, 0 ≤ v ∧ v < n ∧ p v ≠ q v ∧ p' v = q v) → eqN p q n + 1 ≤ eqN p' q n := by
  intro n
  induction n with
  | zero => rintro _ ⟨v, a, b, _⟩; omega
  | succ n ih =>
    rintro h ⟨v, a, b, c, d⟩
    have h1 := h n (by omega) (by omega)
    show eqN p q n + _ + 1 ≤ eqN p' q n + _
    by_cases z : v = n
    · have := eqN_mono (p := p) (p' := p') (q := q) n (fun v a b => h v a (by omega))
      rw [z] at c d
      rw [if_neg c, if_pos d]
      omega
    · have := ih (fun v a b => h v a (by omega)) ⟨v, a, by omega, c, d⟩
      by_cases c : p n = q n
      · rw [if_pos c, if_pos (h1 c)]; omega
      · rw [if_neg c]; split <;> omega
/-- a round over all edges settles one more -/
theorem round_more {D : Dat} (ok : DOk D) {T : Int} {M p p' : Int → Int} (h : Least D T M) (h0 : ∀ v, 0 ≤ v → v < nn D → 0 ≤ p v ∧ p v ≤ p' v ∧ p' v ≤ M v) (he : ∀ f t d w, Ed D f t d w → p f + w - T * d ≤ p' t) : (∀ v, 0 ≤ v → v < nn D → p' v = M v) ∨ eqN p M (nn D).toNat + 1 ≤ eqN p' M (nn D).toNat := by
  have hn := nn_le ok
  by_cases c : ∃ v, 0 ≤ v ∧ v < nn D ∧ p v ≠ M v ∧ p' v = M v
  · obtain ⟨v, a, b, c1, c2⟩ := c
    exact .inr (eqN_lt _ (fun v a b e => by have := h0 v a (by omega); omega) ⟨v, a, by omega, c1, c2⟩)
  · have c' : ∀ v, 0 ≤ v → v < nn D → p' v = M v → p v = M v := fun v a b e => Classical.byContradiction fun w => c ⟨v, a, b, w, e⟩
    have fq : Feas D T (fun u => if p' u = M u then M u else M u - 1) := by
      refine ⟨fun u a b => ?_, fun f t d w e => ?_⟩
      · have := h0 u a b
        dsimp only
        split <;> omega
      · have e1 := h.f.e f t d w e
        have e2 := he f t d w e
        obtain ⟨⟨f0, f1⟩, ⟨t0, t1⟩, _⟩ := ed_props ok e
        have ht := h0 t t0 t1
        dsimp only
        by_cases z : p' f = M f
        · have := c' f f0 f1 z
          rw [if_pos z]
          split <;> omega
        · rw [if_neg z]
          split <;> omega
    refine .inl (fun v a b => ?_)
    have := h.no ok fq (fun u a b => by (try dsimp only); split <;> omega) v a b
    try dsimp only at this
    apply Classical.byContradiction
    intro w
    rw [if_neg w] at this
    omega
/-- a pass over edges, as far as it went -/
def PA (D : Dat) (T : Int) (p0 p : Int → Int) (P : Int → Int → Int → Int → Prop) : Prop := (∀ v, 0 ≤ v → v < nn D → p0 v ≤ p v) ∧ (∀ f t d w, P f t d w → p0 f + w - T * d ≤ p t) ∧ (∀ M, Feas D T M → (∀ v, 0 ≤ v → v < nn D → p0 v ≤ M v) → ∀ v, 0 ≤ v → v < nn D → p v ≤ M v)
theorem PA.b {D : Dat} {T : Int} {p0 p : Int → Int} {P : Int → Int → Int → Int → Prop} (h0 : PA D T p0 p P) : ∀ v, 0 ≤ v → v < nn D → p0 v ≤ p v := h0.1
theorem PA.e {D : Dat} {T : Int} {p0 p : Int → Int} {P : Int → Int → Int → Int → Prop} (h0 : PA D T p0 p P) : ∀ f t d w, P f t d w → p0 f + w - T * d ≤ p t := h0.2.1
theorem PA.m {D : Dat} {T : Int} {p0 p : Int → Int} {P : Int → Int → Int → Int → Prop} (h0 : PA D T p0 p P) : ∀ M, Feas D T M → (∀ v, 0 ≤ v → v < nn D → p0 v ≤ M v) → ∀ v, 0 ≤ v → v < nn D → p v ≤ M v := h0.2.2
theorem PA.mk {D : Dat} {T : Int} {p0 p : Int → Int} {P : Int → Int → Int → Int → Prop} (h0 : ∀ v, 0 ≤ v → v < nn D → p0 v ≤ p v) (h1 : ∀ f t d w, P f t d w → p0 f + w - T * d ≤ p t) (h2 : ∀ M, Feas D T M → (∀ v, 0 ≤ v → v < nn D → p0 v ≤ M v) → ∀ v, 0 ≤ v → v < nn D → p v ≤ M v) : PA D T p0 p P := ⟨h0, h1, h2⟩
theorem PA.zero {D : Dat} {T : Int} {p : Int → Int} {P : Int → Int → Int → Int → Prop} (h : ∀ f t d w, ¬ P f t d w) : PA D T p p P := ⟨fun _ _ _ => Int.le_refl _, fun f t d w z => absurd z (h f t d w), fun _ _ h => h⟩
theorem PA.skip {D : Dat} (ok : DOk D) {T f t d w : Int} {p0 p : Int → Int} {P P' : Int → Int → Int → Int → Prop} (h : PA D T p0 p P) (he : Ed D f t d w) (hw : p f + w - T * d ≤ p t) (hP : ∀ f' t' d' w', P' f' t' d' w' → P f' t' d' w' ∨ (f' = f ∧ t' = t ∧ d' = d ∧ w' = w)) : PA D T p0 p P' := by
  obtain ⟨⟨f0, f1⟩, _⟩ := ed_props ok he
  refine ⟨h.b, fun f' t' d' w' z => ?_, h.m⟩
  rcases hP f' t' d' w' z with z | ⟨rfl, rfl, rfl, rfl⟩
  · exact h.e f' t' d' w' z
  · have := h.b f' f0 f1
    omega
theorem PA.up {D : Dat} (ok : DOk D) {T f t d w : Int} {p0 p p1 : Int → Int} {P P' : Int → Int → Int → Int → Prop} (h : PA D T p0 p P) (he : Ed D f t d w) (hw : p t ≤ p f + w - T * d) (hP : ∀ f' t' d' w', P' f' t' d' w' → P f' t' d' w' ∨ (f' = f ∧ t' = t ∧ d' = d ∧ w' = w)) (h1 : p1 t = p f + w - T * d) (h2 : ∀ v, v ≠ t → p1 v = p v) : PA D T p0 p1 P' := by
  obtain ⟨⟨f0, f1⟩, ⟨t0, t1⟩, _⟩ := ed_props ok he
  have up : ∀ v, p v ≤ p1 v := fun v => by
    by_cases z : v = t
    · rw [z, h1]; exact hw
    · rw [h2 v z]; exact Int.le_refl _
  refine ⟨fun v a b => Int.le_trans (h.b v a b) (up v), fun f' t' d' w' z => ?_, fun M fe hM v a b => ?_⟩
  · rcases hP f' t' d' w' z with z | ⟨rfl, rfl, rfl, rfl⟩
    · exact Int.le_trans (h.e f' t' d' w' z) (up t')
    · have := h.b f' f0 f1
      omega
  · by_cases z : v = t
    · have := fe.e f t d w he
      have := h.m M fe hM f f0 f1
      rw [z, h1]
      omega
    · rw [h2 v z]; exact h.m M fe hM v a b
