/-! ===== what the lists tell ===== -/
def M3 (D : Dat) (i : MI) : Prop := (IsSoon D (i 462)) ∧ (∃ e, IsEnd D (i 462) e ∧ IsLate D e (i 463)) ∧ (IsList D (i 463) (i 464))
theorem M3.so {D : Dat} {i : MI} (h0 : M3 D i) : IsSoon D (i 462) := h0.1
theorem M3.la {D : Dat} {i : MI} (h0 : M3 D i) : ∃ e, IsEnd D (i 462) e ∧ IsLate D e (i 463) := h0.2.1
theorem M3.li {D : Dat} {i : MI} (h0 : M3 D i) : IsList D (i 463) (i 464) := h0.2.2
theorem M3.mk {D : Dat} {i : MI} (h0 : IsSoon D (i 462)) (h1 : ∃ e, IsEnd D (i 462) e ∧ IsLate D e (i 463)) (h2 : IsList D (i 463) (i 464)) : M3 D i := ⟨h0, h1, h2⟩
theorem order_w {D : Dat} (ok : DOk D) {i r : MI} {Q : MI → Prop} (h : NV D i) (g : M2 D i) (hu : ∀ k, 0 ≤ k → k < 7 → i 69 k = D.un k) (hQ : ∀ i', FO i i' → M3 D i' → Q i') : wp_X9_order i r Q := by
  unfold wp_X9_order
  refine soonest_w ok h g (fun i1 f1 s1 => ?_)
  refine latest_w ok (h.fo ok f1) (g.fo ok f1) s1 (fun i2 e f2 a2 e2 l2 => ?_)
  refine byLists_w ok (h.fo ok (f1.trans f2)) (g.fo ok (f1.trans f2)) (fun k a b => by rw [(f1.trans f2) _ (by omega)]; exact hu k a b) (fun i3 f3 a3 b3 l3 => ?_)
  refine hQ i3 (f1.trans (f2.trans f3)) ⟨by rw [a3, a2]; exact s1, ⟨e, by rw [a3, a2]; exact e2, by rw [b3]; exact l2⟩, by rw [b3]; exact l3⟩
/-- how many numbers below one hold something -/
def CntP (P : Int → Prop) : Nat → Int → Prop
  | 0, x => x = 0
  | n + 1, x => (P n ∧ CntP P n (x - 1)) ∨ (¬ P n ∧ CntP P n x)
theorem CntP.uniq {P : Int → Prop} : ∀ (n : Nat) (x y : Int), CntP P n x → CntP P n y → x = y := by
  intro n
  induction n with
  | zero => intro x y h g; exact h.trans g.symm
  | succ n ih =>
    intro x y h g
    rcases h with ⟨h1, h2⟩ | ⟨h1, h2⟩ <;> rcases g with ⟨g1, g2⟩ | ⟨g1, g2⟩
    · have := ih _ _ h2 g2; omega
    · exact absurd h1 g1
    · exact absurd g1 h1
    · exact ih _ _ h2 g2
theorem CntP.iff {P R : Int → Prop} : ∀ (n : Nat) (x : Int), CntP P n x → (∀ v : Int, 0 ≤ v → v < n → (P v ↔ R v)) → CntP R n x := by
  intro n
  induction n with
  | zero => intro x h _; exact h
  | succ n ih =>
    intro x h e
    have en := e n (by omega) (by omega)
    rcases h with ⟨h1, h2⟩ | ⟨h1, h2⟩
    · exact .inl ⟨en.1 h1, ih _ h2 (fun v a b => e v a (by omega))⟩
    · exact .inr ⟨fun z => h1 (en.2 z), ih _ h2 (fun v a b => e v a (by omega))⟩
theorem CntP.b {P : Int → Prop} : ∀ (n : Nat) (x : Int), CntP P n x → 0 ≤ x ∧ x ≤ n := by
  intro n
  induction n with
  | zero => intro x h; have : x = 0 := h; omega
  | succ n ih =>
    intro x h
    rcases h with ⟨_, h⟩ | ⟨_, h⟩
    · have := ih _ h; omega
    · have := ih _ h; omega
theorem CntP.yes {P : Int → Prop} {n x : Int} (h : CntP P n.toNat x) (h0 : 0 ≤ n) (p : P n) : CntP P (n + 1).toNat (x + 1) := by
  rw [show (n + 1).toNat = n.toNat + 1 by omega]
  refine .inl ⟨by rw [show ((n.toNat : Nat) : Int) = n by omega]; exact p, by rw [show x + 1 - 1 = x by omega]; exact h⟩
theorem CntP.no {P : Int → Prop} {n x : Int} (h : CntP P n.toNat x) (h0 : 0 ≤ n) (p : ¬ P n) : CntP P (n + 1).toNat x := by
  rw [show (n + 1).toNat = n.toNat + 1 by omega]
  exact .inr ⟨by rw [show ((n.toNat : Nat) : Int) = n by omega]; exact p, h⟩
/-- whether what a node makes is used in a cycle or behind it, by a node below one -/
def LUx (D : Dat) (ls : Int → Int) (e v c x : Int) : Prop := ∃ u, 0 ≤ u ∧ u < x ∧ usv D u (mkv D v) ∧ ((isPrev D (mkv D v) v u ∧ c ≤ ls u) ∨ (noPrev D (mkv D v) u ∧ noNext D (mkv D v) v ∧ c ≤ e - 1))
def liv (D : Dat) (ls : Int → Int) (e c : Int) (v : Int) : Prop := mkv D v ≠ -1 ∧ ls v + cyv D v ≤ c ∧ LUx D ls e v c (nn D)
def IsWait (D : Dat) (ls : Int → Int) (e m : Int) : Prop := (0 ≤ m) ∧ (∀ c, 0 ≤ c → c < e → ∃ x, CntP (liv D ls e c) (nn D).toNat x ∧ x ≤ m) ∧ (m = 0 ∨ ∃ c, 0 ≤ c ∧ c < e ∧ CntP (liv D ls e c) (nn D).toNat m)
theorem IsWait.z {D : Dat} {ls : Int → Int} {e m : Int} (h0 : IsWait D ls e m) : 0 ≤ m := h0.1
theorem IsWait.u {D : Dat} {ls : Int → Int} {e m : Int} (h0 : IsWait D ls e m) : ∀ c, 0 ≤ c → c < e → ∃ x, CntP (liv D ls e c) (nn D).toNat x ∧ x ≤ m := h0.2.1
theorem IsWait.l {D : Dat} {ls : Int → Int} {e m : Int} (h0 : IsWait D ls e m) : m = 0 ∨ ∃ c, 0 ≤ c ∧ c < e ∧ CntP (liv D ls e c) (nn D).toNat m := h0.2.2
theorem IsWait.mk {D : Dat} {ls : Int → Int} {e m : Int} (h0 : 0 ≤ m) (h1 : ∀ c, 0 ≤ c → c < e → ∃ x, CntP (liv D ls e c) (nn D).toNat x ∧ x ≤ m) (h2 : m = 0 ∨ ∃ c, 0 ≤ c ∧ c < e ∧ CntP (liv D ls e c) (nn D).toNat m) : IsWait D ls e m := ⟨h0, h1, h2⟩
theorem LUx_ext {D : Dat} {ls ls' : Int → Int} {e v c : Int} (h : ∀ v, 0 ≤ v → v < nn D → ls v = ls' v) : LUx D ls e v c (nn D) → LUx D ls' e v c (nn D) := by
  rintro ⟨u, a, b, c1, c2⟩
  exact ⟨u, a, b, c1, by rw [← h u a b]; exact c2⟩
theorem liv_ext {D : Dat} {ls ls' : Int → Int} {e c v : Int} (h : ∀ v, 0 ≤ v → v < nn D → ls v = ls' v) (hv : 0 ≤ v ∧ v < nn D) : liv D ls e c v ↔ liv D ls' e c v := by
  unfold liv
  rw [h v hv.1 hv.2]
  exact and_congr Iff.rfl (and_congr Iff.rfl ⟨LUx_ext h, LUx_ext (fun v a b => (h v a b).symm)⟩)
theorem wait_uniq {D : Dat} (ok : DOk D) {ls ls' : Int → Int} {e m m' : Int} (h : ∀ v, 0 ≤ v → v < nn D → ls v = ls' v) (h1 : IsWait D ls e m) (h2 : IsWait D ls' e m') : m = m' := by
  have hn := nn_le ok
  have tr : ∀ (l l' : Int → Int) c x, (∀ v, 0 ≤ v → v < nn D → l v = l' v) → CntP (liv D l e c) (nn D).toNat x → CntP (liv D l' e c) (nn D).toNat x := fun l l' c x q z => z.iff _ _ (fun v a b => liv_ext q ⟨a, by omega⟩)
  have le : ∀ (l l' : Int → Int) (a b : Int), (∀ v, 0 ≤ v → v < nn D → l v = l' v) → IsWait D l e a → IsWait D l' e b → a ≤ b := by
    intro l l' a b q g1 g2
    rcases g1.l with z | ⟨c, c0, c1, c2⟩
    · have := g2.z; omega
    · obtain ⟨x, x1, x2⟩ := g2.u c c0 c1
      have := CntP.uniq _ _ _ (tr l l' c a q c2) x1
      omega
  have a1 := le ls ls' m m' h h1 h2
  have a2 := le ls' ls m' m (fun v a b => (h v a b).symm) h2 h1
  omega

/-! ===== rings: what allows an interval ===== -/
/-- begins at an interval that keep all edges -/
def Feas (D : Dat) (T : Int) (p : Int → Int) : Prop := (∀ v, 0 ≤ v → v < nn D → 0 ≤ p v) ∧ (∀ f t d w, Ed D f t d w → p f + w - T * d ≤ p t)
theorem Feas.z {D : Dat} {T : Int} {p : Int → Int} (h0 : Feas D T p) : ∀ v, 0 ≤ v → v < nn D → 0 ≤ p v := h0.1
theorem Feas.e {D : Dat} {T : Int} {p : Int → Int} (h0 : Feas D T p) : ∀ f t d w, Ed D f t d w → p f + w - T * d ≤ p t := h0.2
theorem Feas.mk {D : Dat} {T : Int} {p : Int → Int} (h0 : ∀ v, 0 ≤ v → v < nn D → 0 ≤ p v) (h1 : ∀ f t d w, Ed D f t d w → p f + w - T * d ≤ p t) : Feas D T p := ⟨h0, h1⟩
def CanR (D : Dat) (T : Int) : Prop := ∃ p, Feas D T p
theorem mul_up {T T' d : Int} (h : T ≤ T') (hd : 0 ≤ d) : T * d ≤ T' * d := Int.mul_le_mul_of_nonneg_right h hd
theorem CanR.up {D : Dat} (ok : DOk D) {T T' : Int} (h : T ≤ T') : CanR D T → CanR D T' := by
  rintro ⟨p, hz, he⟩
  refine ⟨p, hz, fun f t d w e => ?_⟩
  have := mul_up h (ed_props ok e).2.2.1
  have := he f t d w e
  omega
theorem canR_sum {D : Dat} (ok : DOk D) {T : Int} (h : sumC D (nn D) ≤ T) : CanR D T := by
  have hn := nn_le ok
  refine ⟨sumC D, fun v a b => (sumC_b ok a (by omega)).1, fun f t d w e => ?_⟩
  obtain ⟨⟨f0, f1⟩, ⟨t0, t1⟩, d0, d1, dt, w0, w1⟩ := ed_props ok e
  have s1 := sumC_s (D := D) f0
  have tb := (sumC_b ok t0 (by omega)).1
  have sn := (sumC_b ok hn.1 (Int.le_refl _)).1
  by_cases z : d = 0
  · have := sumC_mono ok (u := f + 1) (v := t) (by omega) (by have := dt z; omega) (by omega)
    rw [z, Int.mul_zero]
    omega
  · have := sumC_mono ok (u := f + 1) (v := nn D) (by omega) (by omega) (by omega)
    have t1 : T * 1 ≤ T * d := Int.mul_le_mul_of_nonneg_left (by omega) (by omega)
    omega
def psum (p : Int → Int) : Nat → Int
  | 0 => 0
  | n + 1 => psum p n + p n
theorem psum_le {p q : Int → Int} : ∀ n : Nat, (∀ v : Int, 0 ≤ v → v < n → p v ≤ q v) → psum p n ≤ psum q n := by
  intro n
  induction n with
  | zero => intro _; exact Int.le_refl _
  | succ n ih =>
    intro h
    have := ih (fun v a b => h v a (by omega))
    have := h n (by omega) (by omega)
    show psum p n + p n ≤ psum q n + q n
    omega
theorem psum_lt {p q : Int → Int} : ∀ n : Nat, (∀ v : Int, 0 ≤ v → v < n → p v ≤ q v) → (∃ v : Int, 0 ≤ v ∧ v < n ∧ p v < q v) → psum p n < psum q n := by
  intro n
  induction n with
  | zero => rintro _ ⟨v, a, b, _⟩; omega
  | succ n ih =>
    rintro h ⟨v, a, b, c⟩
    have h1 := h n (by omega) (by omega)
    show psum p n + p n < psum q n + q n
    by_cases z : v = n
    · have := psum_le n (fun v a b => h v a (by omega))
      rw [z] at c
      omega
    · have := ih (fun v a b => h v a (by omega)) ⟨v, a, by omega, c⟩
      omega
theorem psum_0 {p : Int → Int} : ∀ n : Nat, (∀ v : Int, 0 ≤ v → v < n → 0 ≤ p v) → 0 ≤ psum p n := by
  intro n
  induction n with
  | zero => intro _; exact Int.le_refl _
  | succ n ih =>
    intro h
    have := ih (fun v a b => h v a (by omega))
    have := h n (by omega) (by omega)
    show 0 ≤ psum p n + p n
    omega
/-- the begins of the least sum -/
def Least (D : Dat) (T : Int) (M : Int → Int) : Prop := (Feas D T M) ∧ (∀ q, Feas D T q → psum M (nn D).toNat ≤ psum q (nn D).toNat)
theorem Least.f {D : Dat} {T : Int} {M : Int → Int} (h0 : Least D T M) : Feas D T M := h0.1
theorem Least.l {D : Dat} {T : Int} {M : Int → Int} (h0 : Least D T M) : ∀ q, Feas D T q → psum M (nn D).toNat ≤ psum q (nn D).toNat := h0.2
theorem Least.mk {D : Dat} {T : Int} {M : Int → Int} (h0 : Feas D T M) (h1 : ∀ q, Feas D T q → psum M (nn D).toNat ≤ psum q (nn D).toNat) : Least D T M := ⟨h0, h1⟩
theorem least_ex {D : Dat} (ok : DOk D) {T : Int} (h : CanR D T) : ∃ M, Least D T M := by
  have hn := nn_le ok
  have z : ∀ p, Feas D T p → 0 ≤ psum p (nn D).toNat := fun p f => psum_0 _ (fun v a b => f.z v a (by omega))
  have key : ∀ n : Nat, (∃ p, Feas D T p ∧ psum p (nn D).toNat ≤ n) → ∃ M, Least D T M := by
    intro n
    induction n with
    | zero => rintro ⟨p, f, q⟩; exact ⟨p, f, fun q' f' => by have := z q' f'; omega⟩
    | succ n ih =>
      rintro ⟨p, f, q⟩
      by_cases c : ∃ p, Feas D T p ∧ psum p (nn D).toNat ≤ n
      · exact ih c
      · refine ⟨p, f, fun q' f' => ?_⟩
        have : ¬ psum q' (nn D).toNat ≤ n := fun w => c ⟨q', f', w⟩
        omega
  obtain ⟨p, f⟩ := h
  exact key (psum p (nn D).toNat).toNat ⟨p, f, by have := z p f; omega⟩
/-- none can be lowered -/
theorem Least.no {D : Dat} (ok : DOk D) {T : Int} {M q : Int → Int} (h : Least D T M) (f : Feas D T q) (hq : ∀ v, 0 ≤ v → v < nn D → q v ≤ M v) : ∀ v, 0 ≤ v → v < nn D → q v = M v := by
  intro v a b
  have hn := nn_le ok
  apply Classical.byContradiction
  intro c
  have := psum_lt (p := q) (q := M) (nn D).toNat (fun v a b => hq v a (by omega)) ⟨v, a, by omega, by have := hq v a b; omega⟩
  have := h.l q f
  omega
theorem Least.le {D : Dat} (ok : DOk D) {T : Int} {M : Int → Int} (hT : 0 ≤ T) (h : Least D T M) : ∀ v, 0 ≤ v → v < nn D → M v ≤ sumC D (nn D) := by
  intro v v0 v1
  refine cover_le ok (ls := M) (fun d d0 d1 => Classical.byContradiction fun no => ?_)
  have no' : ∀ u, 0 ≤ u → u < nn D → M u ≤ d → M u + cyv D u ≤ d := fun u a b c => Classical.byContradiction fun w => no ⟨u, a, b, c, by omega⟩
  have fq : Feas D T (fun u => if M u ≤ d then M u else M u - 1) := by
    refine ⟨fun u a b => ?_, fun f t d' w e => ?_⟩
    · have := h.f.z u a b
      dsimp only
      split <;> omega
    · have he := h.f.e f t d' w e
      obtain ⟨⟨f0, f1⟩, ⟨t0, t1⟩, e0, _, _, _, w1⟩ := ed_props ok e
      have m0 : 0 ≤ T * d' := Int.mul_nonneg hT e0
      dsimp only
      by_cases c : M f ≤ d
      · have := no' f f0 f1 c
        rw [if_pos c]
        split <;> omega
      · rw [if_neg c]
        split <;> omega
  have := h.no ok fq (fun u a b => by (try dsimp only); split <;> omega) v v0 v1
  try dsimp only at this
  rw [if_neg (by omega)] at this
  omega
/-- how many are as they are to be -/
def eqN (p q : Int → Int) : Nat → Int
  | 0 => 0
  | n + 1 => eqN p q n + if p n = q n then 1 else 0
theorem eqN_b {p q : Int → Int} : ∀ n : Nat, 0 ≤ eqN p q n ∧ eqN p q n ≤ n ∧ (eqN p q n = n → ∀ v : Int, 0 ≤ v → v < n → p v = q v) := by
  intro n
  induction n with
  | zero => exact ⟨Int.le_refl 0, Int.le_refl 0, fun _ v a b => by omega⟩
  | succ n ih =>
    obtain ⟨h1, h2, h3⟩ := ih
    show 0 ≤ eqN p q n + _ ∧ eqN p q n + _ ≤ _ ∧ (eqN p q n + _ = _ → _)
    by_cases c : p n = q n
    · rw [if_pos c]
      refine ⟨by omega, by omega, fun e v a b => ?_⟩
      by_cases z : v = n
      · rw [z]; exact c
      · exact h3 (by omega) v a (by omega)
    · rw [if_neg c]
      exact ⟨by omega, by omega, fun e => by omega⟩
theorem eqN_mono {p p' q : Int → Int} : ∀ n : Nat, (∀ v : Int, 0 ≤ v → v < n → p v = q v → p' v = q v) → eqN p q n ≤ eqN p' q n := by
  intro n
  induction n with
  | zero => intro _; exact Int.le_refl _
  | succ n ih =>
    intro h
    have := ih (fun v a b => h v a (by omega))
    have := h n (by omega) (by omega)
    show eqN p q n + _ ≤ eqN p' q n + _
    by_cases c : p n = q n
    · rw [if_pos c, if_pos (this c)]; omega
    · rw [if_neg c]; split <;> omega
theorem eqN_lt {p p' q : Int → Int} : ∀ n : Nat, (∀ v : Int, 0 ≤ v → v < n → p v = q v → p' v = q v) → (∃ v : Int, 0 ≤ v ∧ v < n ∧ p v ≠ q v ∧ p' v = q v) → eqN p q n + 1 ≤ eqN p' q n := by
  intro n
  induction n with
  | zero => rintro _ ⟨v, a, b, _⟩; omega
  | succ n ih =>
    rintro h ⟨v, a, b, c, d⟩
    have h1 := h n (by omega) (by omega)
    show eqN p q n + _ + 1 ≤ eqN p' q n + _
    by_cases z : v = n
    · have := eqN_mono (p := p) (p' := p') (q := q) n (fun v a b => h v a (by omega))
      rw [z] at c d
      rw [if_neg c, if_pos d]
      omega
    · have := ih (fun v a b => h v a (by omega)) ⟨v, a, by omega, c, d⟩
      by_cases c : p n = q n
      · rw [if_pos c, if_pos (h1 c)]; omega
      · rw [if_neg c]; split <;> omega
/-- a round over all edges settles one more -/
theorem round_more {D : Dat} (ok : DOk D) {T : Int} {M p p' : Int → Int} (h : Least D T M) (h0 : ∀ v, 0 ≤ v → v < nn D → 0 ≤ p v ∧ p v ≤ p' v ∧ p' v ≤ M v) (he : ∀ f t d w, Ed D f t d w → p f + w - T * d ≤ p' t) : (∀ v, 0 ≤ v → v < nn D → p' v = M v) ∨ eqN p M (nn D).toNat + 1 ≤ eqN p' M (nn D).toNat := by
  have hn := nn_le ok
  by_cases c : ∃ v, 0 ≤ v ∧ v < nn D ∧ p v ≠ M v ∧ p' v = M v
  · obtain ⟨v, a, b, c1, c2⟩ := c
    exact .inr (eqN_lt _ (fun v a b e => by have := h0 v a (by omega); omega) ⟨v, a, by omega, c1, c2⟩)
  · have c' : ∀ v, 0 ≤ v → v < nn D → p' v = M v → p v = M v := fun v a b e => Classical.byContradiction fun w => c ⟨v, a, b, w, e⟩
    have fq : Feas D T (fun u => if p' u = M u then M u else M u - 1) := by
      refine ⟨fun u a b => ?_, fun f t d w e => ?_⟩
      · have := h0 u a b
        dsimp only
        split <;> omega
      · have e1 := h.f.e f t d w e
        have e2 := he f t d w e
        obtain ⟨⟨f0, f1⟩, ⟨t0, t1⟩, _⟩ := ed_props ok e
        have ht := h0 t t0 t1
        dsimp only
        by_cases z : p' f = M f
        · have := c' f f0 f1 z
          rw [if_pos z]
          split <;> omega
        · rw [if_neg z]
          split <;> omega
    refine .inl (fun v a b => ?_)
    have := h.no ok fq (fun u a b => by (try dsimp only); split <;> omega) v a b
    try dsimp only at this
    apply Classical.byContradiction
    intro w
    rw [if_neg w] at this
    omega
/-- a pass over edges, as far as it went -/
def PA (D : Dat) (T : Int) (p0 p : Int → Int) (P : Int → Int → Int → Int → Prop) : Prop := (∀ v, 0 ≤ v → v < nn D → p0 v ≤ p v) ∧ (∀ f t d w, P f t d w → p0 f + w - T * d ≤ p t) ∧ (∀ M, Feas D T M → (∀ v, 0 ≤ v → v < nn D → p0 v ≤ M v) → ∀ v, 0 ≤ v → v < nn D → p v ≤ M v)
theorem PA.b {D : Dat} {T : Int} {p0 p : Int → Int} {P : Int → Int → Int → Int → Prop} (h0 : PA D T p0 p P) : ∀ v, 0 ≤ v → v < nn D → p0 v ≤ p v := h0.1
theorem PA.e {D : Dat} {T : Int} {p0 p : Int → Int} {P : Int → Int → Int → Int → Prop} (h0 : PA D T p0 p P) : ∀ f t d w, P f t d w → p0 f + w - T * d ≤ p t := h0.2.1
theorem PA.m {D : Dat} {T : Int} {p0 p : Int → Int} {P : Int → Int → Int → Int → Prop} (h0 : PA D T p0 p P) : ∀ M, Feas D T M → (∀ v, 0 ≤ v → v < nn D → p0 v ≤ M v) → ∀ v, 0 ≤ v → v < nn D → p v ≤ M v := h0.2.2
theorem PA.mk {D : Dat} {T : Int} {p0 p : Int → Int} {P : Int → Int → Int → Int → Prop} (h0 : ∀ v, 0 ≤ v → v < nn D → p0 v ≤ p v) (h1 : ∀ f t d w, P f t d w → p0 f + w - T * d ≤ p t) (h2 : ∀ M, Feas D T M → (∀ v, 0 ≤ v → v < nn D → p0 v ≤ M v) → ∀ v, 0 ≤ v → v < nn D → p v ≤ M v) : PA D T p0 p P := ⟨h0, h1, h2⟩
theorem PA.zero {D : Dat} {T : Int} {p : Int → Int} {P : Int → Int → Int → Int → Prop} (h : ∀ f t d w, ¬ P f t d w) : PA D T p p P := ⟨fun _ _ _ => Int.le_refl _, fun f t d w z => absurd z (h f t d w), fun _ _ h => h⟩
theorem PA.skip {D : Dat} (ok : DOk D) {T f t d w : Int} {p0 p : Int → Int} {P P' : Int → Int → Int → Int → Prop} (h : PA D T p0 p P) (he : Ed D f t d w) (hw : p f + w - T * d ≤ p t) (hP : ∀ f' t' d' w', P' f' t' d' w' → P f' t' d' w' ∨ (f' = f ∧ t' = t ∧ d' = d ∧ w' = w)) : PA D T p0 p P' := by
  obtain ⟨⟨f0, f1⟩, _⟩ := ed_props ok he
  refine ⟨h.b, fun f' t' d' w' z => ?_, h.m⟩
  rcases hP f' t' d' w' z with z | ⟨rfl, rfl, rfl, rfl⟩
  · exact h.e f' t' d' w' z
  · have := h.b f' f0 f1
    omega
theorem PA.up {D : Dat} (ok : DOk D) {T f t d w : Int} {p0 p p1 : Int → Int} {P P' : Int → Int → Int → Int → Prop} (h : PA D T p0 p P) (he : Ed D f t d w) (hw : p t ≤ p f + w - T * d) (hP : ∀ f' t' d' w', P' f' t' d' w' → P f' t' d' w' ∨ (f' = f ∧ t' = t ∧ d' = d ∧ w' = w)) (h1 : p1 t = p f + w - T * d) (h2 : ∀ v, v ≠ t → p1 v = p v) : PA D T p0 p1 P' := by
  obtain ⟨⟨f0, f1⟩, ⟨t0, t1⟩, _⟩ := ed_props ok he
  have up : ∀ v, p v ≤ p1 v := fun v => by
    by_cases z : v = t
    · rw [z, h1]; exact hw
    · rw [h2 v z]; exact Int.le_refl _
  refine ⟨fun v a b => Int.le_trans (h.b v a b) (up v), fun f' t' d' w' z => ?_, fun M fe hM v a b => ?_⟩
  · rcases hP f' t' d' w' z with z | ⟨rfl, rfl, rfl, rfl⟩
    · exact Int.le_trans (h.e f' t' d' w' z) (up t')
    · have := h.b f' f0 f1
      omega
  · by_cases z : v = t
    · have := fe.e f t d w he
      have := h.m M fe hM f f0 f1
      rw [z, h1]
      omega
    · rw [h2 v z]; exact h.m M fe hM v a b

/-! ===== rings: the class ===== -/
theorem M2.fl {D : Dat} (ok : DOk D) {i i' : MI} (h : M2 D i) (g : ∀ a, a < 462 → i' a = i a) : M2 D i' := by
  have hn := nn_le ok
  refine ⟨?_, ?_, ?_, ?_, h.r, ?_⟩
  · rw [g _ (by omega)]; exact h.z
  · intro f e f0 f1; rw [g 460 (by omega), g _ (by omega), g _ (by omega), g _ (by omega)]; exact h.e f e f0 f1
  · intro f t d w hS
    have hf := hS.1
    have hf1 := hS.2.1
    rw [g 460 (by omega), g _ (by omega), g _ (by omega)]; exact h.s f t d w hS
  · intro f e e' f0 f1; rw [g 460 (by omega), g _ (by omega), g _ (by omega)]; exact h.u f e e' f0 f1
  · rw [g _ (by omega)]; exact h.c
theorem NV.fl {D : Dat} (ok : DOk D) {i i' : MI} (h : NV D i) (g : ∀ a, a < 462 → i' a = i a) : NV D i' := by
  have hn := nn_le ok
  refine ⟨by rw [g _ (by omega)]; exact h.n, fun v c v0 v1 c0 c1 => ?_, by rw [g _ (by omega)]; exact h.y⟩
  rw [g _ (by omega)]
  exact h.a v c v0 v1 c0 c1
theorem sumOf_w {D : Dat} (ok : DOk D) {i r : MI} {Q : Int → Prop} (h : NV D i) (hQ : Q (sumC D (nn D))) : wp_X0_sumOfCycles i r Q := by
  have hn := nn_le ok
  unfold wp_X0_sumOfCycles
  refine Lp.r2 (fun (s x : Int) => 0 ≤ x ∧ x ≤ nn D ∧ s = sumC D x) (fun _ x => (nn D - x).toNat) ?_ ⟨by decide, hn.1, rfl⟩
  intro s x C ⟨h0, h1, h2⟩ hC
  dsimp only [b4_X0_sumOfCycles]
  rw [h.n]
  refine ⟨fun q => ?_, fun q => cyc_w ok h ⟨h0, by omega⟩ ?_⟩
  · rw [h2, show x = nn D by omega]; exact hQ
  · have sb := sumC_b ok h0 h1
    have cx := cyv_r ok (v := x) ⟨h0, by omega⟩
    rw [wr_of (x := s + cyv D x) (by omega) (by omega), wr_of (x := x + 1) (by omega) (by omega)]
    exact hC _ _ ⟨by omega, by omega, by rw [sumC_s h0, h2]⟩ (by omega)
theorem sum480 {D : Dat} (ok : DOk D) : 0 ≤ sumC D (nn D) ∧ sumC D (nn D) ≤ 480 := by
  have hn := nn_le ok
  have := sumC_b ok hn.1 (Int.le_refl _)
  omega
theorem td_b {T d : Int} (h : 0 ≤ T ∧ T ≤ 481) (hd : 0 ≤ d ∧ d ≤ 21) : 0 ≤ T * d ∧ T * d ≤ 10101 := by
  refine ⟨Int.mul_nonneg h.1 hd.1, ?_⟩
  have a := Int.mul_le_mul_of_nonneg_left hd.2 h.1
  omega
theorem eqN_all {p q : Int → Int} : ∀ n : Nat, (∀ v : Int, 0 ≤ v → v < n → p v = q v) → eqN p q n = n := by
  intro n
  induction n with
  | zero => intro _; rfl
  | succ n ih =>
    intro h
    show eqN p q n + (if p n = q n then 1 else 0) = _
    rw [ih (fun v a b => h v a (by omega)), if_pos (h n (by omega) (by omega))]
    omega
/-- a further round, in which something became heavier, is of some use -/
theorem round_lt {D : Dat} (ok : DOk D) {T k : Int} {M p p' : Int → Int} (h : Least D T M) (h0 : ∀ v, 0 ≤ v → v < nn D → 0 ≤ p v ∧ p v ≤ M v) (a : PA D T p p' (Ed D)) (hk : 0 ≤ k ∧ k ≤ eqN p M (nn D).toNat) (hx : ∃ v, 0 ≤ v ∧ v < nn D ∧ p v < p' v) : k + 1 ≤ eqN p' M (nn D).toNat ∧ ∀ v, 0 ≤ v → v < nn D → 0 ≤ p' v ∧ p' v ≤ M v := by
  have hn := nn_le ok
  have up := a.m M h.f (fun v x y => (h0 v x y).2)
  have all : ∀ v, 0 ≤ v → v < nn D → 0 ≤ p' v ∧ p' v ≤ M v := fun v x y => ⟨by have := h0 v x y; have := a.b v x y; omega, up v x y⟩
  refine ⟨?_, all⟩
  rcases round_more ok h (p' := p') (fun v x y => ⟨(h0 v x y).1, a.b v x y, up v x y⟩) a.e with z | z
  · rw [eqN_all _ (fun v x y => z v x (by omega))]
    obtain ⟨b0, b1, b2⟩ := eqN_b (p := p) (q := M) (nn D).toNat
    by_cases w : eqN p M (nn D).toNat = ((nn D).toNat : Int)
    · obtain ⟨v, x, y, c⟩ := hx
      have := b2 w v x (by omega)
      have := up v x y
      omega
    · omega
  · omega
/-- edges ahead of a place in the rows -/
def befE (D : Dat) (i : MI) (f0 e0 : Int) : RS := fun f t d w => Ed D f t d w ∧ (f < f0 ∨ (f = f0 ∧ ∃ e, 0 ≤ e ∧ e < e0 ∧ i (170 + f) e = t ∧ i (267 + f) e = d ∧ i (364 + f) e = w))
def F1 (i i' : MI) : Prop := ∀ a, a ≠ 471 → i' a = i a
theorem F1.refl (i : MI) : F1 i i := fun _ _ => rfl
theorem F1.trans {i j k : MI} (h : F1 i j) (g : F1 j k) : F1 i k := fun a x => (g a x).trans (h a x)
theorem F1.sa {k v : Int} {i : MI} : F1 i (st i 471 k v) := fun b x => st_row x
def PX (D : Dat) (T : Int) (i : MI) (B k : Int) (P : RS) (x : Int) (m : MI) : Prop := (F1 i m) ∧ (PA D T (i 471) (m 471) P) ∧ ((x = -1 ∧ ∀ v, 0 ≤ v → v < nn D → m 471 v = i 471 v) ∨ (0 ≤ x ∧ (∃ v, 0 ≤ v ∧ v < nn D ∧ i 471 v < m 471 v) ∧ ∃ v, 0 ≤ v ∧ v < nn D ∧ x ≤ m 471 v)) ∧ (∀ v, 0 ≤ v → v < nn D → m 471 v ≤ max (i 471 v) x) ∧ (∀ v, 0 ≤ v → v < nn D → m 471 v ≤ B + 5 * k)
theorem PX.fr {D : Dat} {T : Int} {i : MI} {B k : Int} {P : RS} {x : Int} {m : MI} (h0 : PX D T i B k P x m) : F1 i m := h0.1
theorem PX.pa {D : Dat} {T : Int} {i : MI} {B k : Int} {P : RS} {x : Int} {m : MI} (h0 : PX D T i B k P x m) : PA D T (i 471) (m 471) P := h0.2.1
theorem PX.mx {D : Dat} {T : Int} {i : MI} {B k : Int} {P : RS} {x : Int} {m : MI} (h0 : PX D T i B k P x m) : (x = -1 ∧ ∀ v, 0 ≤ v → v < nn D → m 471 v = i 471 v) ∨ (0 ≤ x ∧ (∃ v, 0 ≤ v ∧ v < nn D ∧ i 471 v < m 471 v) ∧ ∃ v, 0 ≤ v ∧ v < nn D ∧ x ≤ m 471 v) := h0.2.2.1
theorem PX.up {D : Dat} {T : Int} {i : MI} {B k : Int} {P : RS} {x : Int} {m : MI} (h0 : PX D T i B k P x m) : ∀ v, 0 ≤ v → v < nn D → m 471 v ≤ max (i 471 v) x := h0.2.2.2.1
theorem PX.bd {D : Dat} {T : Int} {i : MI} {B k : Int} {P : RS} {x : Int} {m : MI} (h0 : PX D T i B k P x m) : ∀ v, 0 ≤ v → v < nn D → m 471 v ≤ B + 5 * k := h0.2.2.2.2
theorem PX.mk {D : Dat} {T : Int} {i : MI} {B k : Int} {P : RS} {x : Int} {m : MI} (h0 : F1 i m) (h1 : PA D T (i 471) (m 471) P) (h2 : (x = -1 ∧ ∀ v, 0 ≤ v → v < nn D → m 471 v = i 471 v) ∨ (0 ≤ x ∧ (∃ v, 0 ≤ v ∧ v < nn D ∧ i 471 v < m 471 v) ∧ ∃ v, 0 ≤ v ∧ v < nn D ∧ x ≤ m 471 v)) (h3 : ∀ v, 0 ≤ v → v < nn D → m 471 v ≤ max (i 471 v) x) (h4 : ∀ v, 0 ≤ v → v < nn D → m 471 v ≤ B + 5 * k) : PX D T i B k P x m := ⟨h0, h1, h2, h3, h4⟩
theorem pushAll_w {D : Dat} (ok : DOk D) {i r : MI} {T B : Int} {Q : Int → MI → Prop} (h : NV D i) (g : M2 D i) (hT : 1 ≤ T ∧ T ≤ 480) (hB : 0 ≤ B ∧ B ≤ 1000) (hp : ∀ v, 0 ≤ v → v < nn D → 0 ≤ i 471 v ∧ i 471 v ≤ B) (hQ : ∀ x m, PX D T i B 100000 (Ed D) x m → Q x m) : wp_X4_pushAll T i r Q := by
  have hn := nn_le ok
  unfold wp_X4_pushAll
  refine Lp.r3 (fun (x f : Int) (m : MI) => 0 ≤ f ∧ f ≤ nn D ∧ PX D T i B (100 * f) (befE D i f 0) x m) (fun _ f _ => (nn D - f).toNat) ?_ ⟨by decide, hn.1, ⟨F1.refl i, PA.zero (fun f t d w z => ?_), .inl ⟨rfl, fun _ _ _ => rfl⟩, fun v a b => by omega, fun v a b => by have := hp v a b; omega⟩⟩
  · intro x f m C ⟨f0, f1, j⟩ hC
    dsimp only [b6_X4_pushAll]
    have hv : NV D m := h.fl ok (fun a q => j.fr a (by omega))
    rw [hv.n]
    refine ⟨fun q => hQ x m ⟨j.fr, ⟨j.pa.b, fun f' t d w z => j.pa.e f' t d w ⟨z, .inl ?_⟩, j.pa.m⟩, j.mx, j.up, fun v a b => by have := j.bd v a b; omega⟩, fun q => ?_⟩
    · have := ed_props ok z
      omega
    have gz := g.z f f0 (by omega)
    refine Lp.r3 (fun (x e : Int) (m : MI) => 0 ≤ e ∧ e ≤ i 460 f ∧ PX D T i B (100 * f + e) (befE D i f e) x m) (fun _ e _ => (i 460 f - e).toNat) ?_ ⟨by decide, by omega, by rw [Int.add_zero]; exact j⟩
    intro x e m C2 ⟨e0, e1, k⟩ hC2
    dsimp only [b18_X4_pushAll, s105_X4_pushAll]
    rw [k.fr 460 (by decide), k.fr (170 + f) (by omega), k.fr (267 + f) (by omega), k.fr (364 + f) (by omega)]
    refine ⟨by omega, fun q1 => ?_, fun q1 => ?_⟩
    · rw [wr_of (x := f + 1) (by omega) (by omega)]
      refine hC _ _ _ ⟨by omega, by omega, ⟨k.fr, ⟨k.pa.b, fun f' t d w z => k.pa.e f' t d w ⟨z.1, ?_⟩, k.pa.m⟩, k.mx, k.up, fun v a b => by have := k.bd v a b; omega⟩⟩ (by omega)
      rcases z.2 with z2 | ⟨rfl, e', a, b, _⟩
      · by_cases w' : f' = f
        · refine .inr ⟨w', ?_⟩
          rw [w'] at z
          obtain ⟨e', a, b, c⟩ := GrC.fd ok g z.1
          exact ⟨e', a, by omega, by rw [w']; exact c⟩
        · exact .inl (by omega)
      · omega
    · have ed := GrC.ed ok g (f := f) (e := e) ⟨f0, by omega⟩ ⟨e0, by omega⟩
      obtain ⟨_, ⟨t0, t1⟩, d0, d1, _, w0, w1⟩ := ed_props ok ed
      have cx := cyv_r ok (v := f) ⟨f0, by omega⟩
      have td := td_b (T := T) (by omega) ⟨d0, d1⟩
      have b1 := k.bd f f0 (by omega)
      have b0 := k.pa.b f f0 (by omega)
      have b2 := hp f f0 (by omega)
      have hP : ∀ f' t' d' w', befE D i f (e + 1) f' t' d' w' → befE D i f e f' t' d' w' ∨ (f' = f ∧ t' = i (170 + f) e ∧ d' = i (267 + f) e ∧ w' = i (364 + f) e) := by
        rintro f' t' d' w' ⟨z, z2⟩
        rcases z2 with z2 | ⟨rfl, e', a, b, c⟩
        · exact .inl ⟨z, .inl z2⟩
        · by_cases ee : e' = e
          · rw [ee] at c; exact .inr ⟨rfl, c.1.symm, c.2.1.symm, c.2.2.symm⟩
          · exact .inl ⟨z, .inr ⟨rfl, e', a, by omega, c⟩⟩
      rw [wr_of (x := m 471 f + i (364 + f) e) (by omega) (by omega), wr_of (x := T * i (267 + f) e) (by omega) (by omega), wr_of (x := m 471 f + i (364 + f) e - T * i (267 + f) e) (by omega) (by omega), wr_of (x := e + 1) (by omega) (by omega)]
      refine ⟨by omega, by omega, by omega, by omega, by omega, by omega, by omega, ⟨t0, by omega⟩, fun q2 => ?_, fun q2 => ⟨⟨t0, by omega⟩, ?_⟩⟩
      · exact hC2 _ _ _ ⟨by omega, by omega, ⟨k.fr, k.pa.skip ok ed q2 hP, k.mx, k.up, fun v a b => by have := k.bd v a b; omega⟩⟩ (by omega)
      · have tb := k.pa.b _ t0 t1
        have tp := hp _ t0 t1
        refine hC2 _ _ _ ⟨by omega, by omega, ⟨k.fr.trans F1.sa, k.pa.up ok ed (by omega) hP st_eq (fun v z => st_ne (by omega)), .inr ⟨by omega, ⟨_, t0, t1, by rw [st_eq]; omega⟩, ?_⟩, fun v a b => ?_, fun v a b => ?_⟩⟩ (by omega)
        · rcases Int.le_total x (m 471 f + i (364 + f) e - T * i (267 + f) e) with z | z
          · refine ⟨_, t0, t1, ?_⟩
            rw [st_eq]; omega
          · rcases k.mx with ⟨z1, _⟩ | ⟨z0, _, v, a, b, c⟩
            · omega
            · refine ⟨v, a, b, ?_⟩
              by_cases vt : v = i (170 + f) e
              · rw [vt, st_eq]; rw [vt] at c; omega
              · rw [st_ne (by omega)]; omega
        · have := k.up v a b
          by_cases vt : v = i (170 + f) e
          · rw [vt, st_eq]; omega
          · rw [st_ne (by omega)]; omega
        · have := k.bd v a b
          by_cases vt : v = i (170 + f) e
          · rw [vt, st_eq]; omega
          · rw [st_ne (by omega)]; omega
  · rcases z with ⟨z, z2 | ⟨_, e', a, b, _⟩⟩
    · have := ed_props ok z
      omega
    · omega
theorem isAllowed_w {D : Dat} (ok : DOk D) {i r : MI} {T : Int} {Q : Int → MI → Prop} (h : NV D i) (g : M2 D i) (hT : 1 ≤ T ∧ T ≤ 480) (h1 : ∀ m, F1 i m → CanR D T → Q 1 m) (h0 : ∀ m, F1 i m → ¬ CanR D T → Q 0 m) : wp_X4_isAllowedByRings T i r Q := by
  have hn := nn_le ok
  have s4 := sum480 ok
  unfold wp_X4_isAllowedByRings
  refine Lp.r2 (fun (x : Int) (m : MI) => 0 ≤ x ∧ x ≤ nn D ∧ F1 i m ∧ ∀ v, 0 ≤ v → v < x → m 471 v = 0) (fun x _ => (nn D - x).toNat) ?_ ⟨by decide, hn.1, F1.refl i, fun v a b => by omega⟩
  intro x m C ⟨x0, x1, j, jz⟩ hC
  dsimp only [b3_X4_isAllowedByRings]
  have hv : NV D m := h.fl ok (fun a q => j a (by omega))
  have gv : M2 D m := g.fl ok (fun a q => j a (by omega))
  rw [hv.n]
  refine ⟨fun q => sumOf_w ok hv ?_, fun q => ⟨by omega, ?_⟩⟩
  · refine Lp.r2 (fun (k : Int) (m : MI) => 0 ≤ k ∧ k ≤ nn D + 1 ∧ F1 i m ∧ (∀ v, 0 ≤ v → v < nn D → 0 ≤ m 471 v ∧ m 471 v ≤ sumC D (nn D)) ∧ ∀ M, Least D T M → k ≤ eqN (m 471) M (nn D).toNat ∧ ∀ v, 0 ≤ v → v < nn D → m 471 v ≤ M v) (fun k _ => (nn D + 1 - k).toNat) ?_ ⟨by decide, by omega, j, fun v a b => by rw [jz v a (by omega)]; omega, fun M hM => ⟨(eqN_b _).1, fun v a b => by rw [jz v a (by omega)]; exact hM.f.z v a b⟩⟩
    intro k m C2 ⟨k0, k1, f, kb, kM⟩ hC2
    dsimp only [b35_X4_isAllowedByRings]
    have hv : NV D m := h.fl ok (fun a q => f a (by omega))
    have gv : M2 D m := g.fl ok (fun a q => f a (by omega))
    rw [hv.n]
    refine ⟨fun q1 => h0 m f (fun c => ?_), fun q1 => pushAll_w ok hv gv hT (B := sumC D (nn D)) (by omega) kb (fun y m' p => ⟨fun q2 => ?_, fun q2 => ⟨fun q3 => ?_, fun q3 => ?_⟩⟩)⟩
    · obtain ⟨M, hM⟩ := least_ex ok c
      have := (eqN_b (p := m 471) (q := M) (nn D).toNat).2.1
      have := (kM M hM).1
      omega
    · refine h1 m' (f.trans p.fr) ⟨m' 471, fun v a b => by have := kb v a b; have := p.pa.b v a b; omega, fun f t d w e => ?_⟩
      rcases p.mx with ⟨_, z⟩ | ⟨z, _⟩
      · have := p.pa.e f t d w e
        rw [z f (ed_props ok e).1.1 (ed_props ok e).1.2]
        exact this
      · omega
    · rcases p.mx with ⟨z, _⟩ | ⟨z, zx, _⟩
      · exact absurd z q2
      rw [wr_of (x := k + 1) (by omega) (by omega)]
      refine hC2 _ _ ⟨by omega, by omega, f.trans p.fr, fun v a b => ?_, fun M hM => ?_⟩ (by omega)
      · have := kb v a b
        have := p.pa.b v a b
        have := p.up v a b
        omega
      · have := round_lt ok hM (fun v a b => ⟨(kb v a b).1, (kM M hM).2 v a b⟩) p.pa ⟨k0, (kM M hM).1⟩ zx
        exact ⟨this.1, fun v a b => (this.2 v a b).2⟩
    · refine h0 m' (f.trans p.fr) (fun c => ?_)
      obtain ⟨M, hM⟩ := least_ex ok c
      rcases p.mx with ⟨z, _⟩ | ⟨z, _, v, a, b, zv⟩
      · exact q2 z
      · have := p.pa.m M hM.f (kM M hM).2 v a b
        have := hM.le ok (by omega) v a b
        omega
  · rw [wr_of (x := x + 1) (by omega) (by omega)]
    refine hC _ _ ⟨by omega, by omega, j.trans F1.sa, fun v a b => ?_⟩ (by omega)
    by_cases z : v = x
    · rw [z, st_eq]
    · rw [st_ne (by omega)]; exact jz v a (by omega)
def IsRing (D : Dat) (T : Int) : Prop := 1 ≤ T ∧ CanR D T ∧ ∀ c, 1 ≤ c → c < T → ¬ CanR D c
theorem ring_uniq {D : Dat} {T T' : Int} (h : IsRing D T) (g : IsRing D T') : T = T' := by
  rcases Int.lt_trichotomy T T' with z | z | z
  · exact absurd h.2.1 (g.2.2 T h.1 z)
  · exact z
  · exact absurd g.2.1 (h.2.2 T' g.1 z)
theorem ring_le {D : Dat} (ok : DOk D) {T : Int} (h : IsRing D T) : T ≤ max 1 (sumC D (nn D)) := by
  apply Classical.byContradiction
  intro c
  exact h.2.2 (max 1 (sumC D (nn D))) (by omega) (by omega) (canR_sum ok (by omega))
theorem findByRings_w {D : Dat} (ok : DOk D) {i r : MI} {Q : Int → MI → Prop} (h : NV D i) (g : M2 D i) (hQ : ∀ T m, F1 i m → IsRing D T → Q T m) : wp_X4_findByRings i r Q := by
  have hn := nn_le ok
  have s4 := sum480 ok
  unfold wp_X4_findByRings
  refine sumOf_w ok h ?_
  refine Lp.r4 (fun (l u k : Int) (m : MI) => 1 ≤ l ∧ l ≤ u ∧ u ≤ 480 ∧ 0 ≤ k ∧ k + (u - l) ≤ 480 ∧ F1 i m ∧ CanR D u ∧ ∀ c, 1 ≤ c → c < l → ¬ CanR D c) (fun _ _ k _ => (481 - k).toNat) ?_ ⟨by decide, by omega, by omega, by decide, by omega, F1.refl i, canR_sum ok (by omega), fun c a b => by omega⟩
  intro l u k m C ⟨l1, lu, u4, k0, kl, f, cu, cl⟩ hC
  dsimp only [b15_X4_findByRings, s66_X4_findByRings, s60_X4_findByRings]
  refine ⟨fun q => by omega, fun q => ⟨fun q1 => ?_, fun q1 => ?_⟩⟩
  · have : l = u := by omega
    rw [← this] at cu
    exact hQ l m f ⟨l1, cu, cl⟩
  · rw [wr_of (x := l + u) (by omega) (by omega), Int.tdiv_eq_ediv_of_nonneg (by omega), wr_of (x := (l + u) / 2) (by omega) (by omega), wr_of (x := k + 1) (by omega) (by omega)]
    refine isAllowed_w ok (h.fl ok (fun a q => f a (by omega))) (g.fl ok (fun a q => f a (by omega))) (by omega) (fun m' f' c => ⟨fun q2 => absurd q2 (by decide), fun q2 => ?_⟩) (fun m' f' c => ⟨fun q2 => ?_, fun q2 => absurd rfl q2⟩)
    · exact hC _ _ _ _ ⟨l1, by omega, by omega, by omega, by omega, f.trans f', c, cl⟩ (by omega)
    · rw [wr_of (x := (l + u) / 2 + 1) (by omega) (by omega)]
      exact hC _ _ _ _ ⟨by omega, by omega, u4, by omega, by omega, f.trans f', cu, fun c' a b z => c (z.up ok (by omega))⟩ (by omega)
