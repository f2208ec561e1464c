/-! ===== the circuit: times ===== -/
theorem raw_ed {D : Dat} (ok : DOk D) {f t d w : Int} (h : Raw D f t d w) : ∃ w', w ≤ w' ∧ Ed D f t d w' := by
  have key : ∀ k : Nat, ∀ w, Raw D f t d w → 5 - w ≤ k → ∃ w', w ≤ w' ∧ Ed D f t d w' := by
    intro k
    induction k with
    | zero =>
      intro w h hk
      obtain ⟨f0, _, _, _, _, _, w1⟩ := raw_props ok h
      have := cyv_r ok f0
      refine ⟨w, Int.le_refl _, h, fun w' h' => ?_⟩
      obtain ⟨_, _, _, _, _, _, w1'⟩ := raw_props ok h'
      omega
    | succ k ih =>
      intro w h hk
      by_cases c : ∃ w', w < w' ∧ Raw D f t d w'
      · obtain ⟨w', a, b⟩ := c
        obtain ⟨w2, c1, c2⟩ := ih w' b (by omega)
        exact ⟨w2, by omega, c2⟩
      · exact ⟨w, Int.le_refl _, h, fun w' h' => Classical.byContradiction fun z => c ⟨w', by omega, h'⟩⟩
  exact key (5 - w).toNat w h (by omega)
def AE (D : Dat) (T : Int) (p : Int → Int) : Prop := (1 ≤ T) ∧ (∀ v, 0 ≤ v → v < nn D → 0 ≤ p v) ∧ (∀ f t d w, Raw D f t d w → p f + w ≤ p t + T * d)
theorem AE.t {D : Dat} {T : Int} {p : Int → Int} (h0 : AE D T p) : 1 ≤ T := h0.1
theorem AE.z {D : Dat} {T : Int} {p : Int → Int} (h0 : AE D T p) : ∀ v, 0 ≤ v → v < nn D → 0 ≤ p v := h0.2.1
theorem AE.e {D : Dat} {T : Int} {p : Int → Int} (h0 : AE D T p) : ∀ f t d w, Raw D f t d w → p f + w ≤ p t + T * d := h0.2.2
theorem AE.mk {D : Dat} {T : Int} {p : Int → Int} (h0 : 1 ≤ T) (h1 : ∀ v, 0 ≤ v → v < nn D → 0 ≤ p v) (h2 : ∀ f t d w, Raw D f t d w → p f + w ≤ p t + T * d) : AE D T p := ⟨h0, h1, h2⟩
theorem AE.of {D : Dat} (ok : DOk D) {T : Int} {p : Int → Int} (hT : IsInt D T) (h : PlU D T p (nn D)) : AE D T p := by
  have ib := int_b hT
  have pb := pl_b ok (T := T) (by omega) (Int.le_refl _) h
  refine ⟨ib.1, fun v a b => (pb v a b).1, fun f t d w r => ?_⟩
  obtain ⟨w', hw, e⟩ := raw_ed ok r
  obtain ⟨⟨f0, f1⟩, ⟨t0, t1⟩, d0, _⟩ := ed_props ok e
  rcases Int.lt_trichotomy f t with z | z | z
  · obtain ⟨a, ha⟩ := h t t0 t1
    have := ha.f.2.1 f d w' e z
    have := ha.a
    omega
  · obtain ⟨R, hR, hRT, _⟩ := hT
    obtain ⟨q, hq⟩ := hR.2.1.up ok (T' := T) (by omega)
    have := hq.e f t d w' e
    rw [z] at this ⊢
    omega
  · obtain ⟨a, ha⟩ := h f f0 f1
    have := ha.t.1 t d w' e z
    omega
def Bt (T : Int) (p : Int → Int) (v τ : Int) : Int := p v + T * τ
def Et (D : Dat) (T : Int) (p : Int → Int) (v τ : Int) : Int := p v + T * τ + cyv D v
theorem AE.b {D : Dat} {T : Int} {p : Int → Int} (h : AE D T p) {f t d w : Int} (r : Raw D f t d w) (τ : Int) : Bt T p f τ + w ≤ Bt T p t (τ + d) := by
  have := h.e f t d w r
  unfold Bt
  rw [Int.mul_add]
  omega
theorem AE.mo {D : Dat} {T : Int} {p : Int → Int} (h : AE D T p) {τ τ' : Int} (e : τ ≤ τ') (v : Int) : Bt T p v τ ≤ Bt T p v τ' := by
  have t := h.t
  have := Int.mul_le_mul_of_nonneg_left e (show 0 ≤ T by omega)
  unfold Bt
  omega
theorem AE.up {D : Dat} {T : Int} {p : Int → Int} (h : AE D T p) {τ : Int} (v : Int) : Bt T p v τ + 1 ≤ Bt T p v (τ + 1) := by
  have t := h.t
  unfold Bt
  rw [Int.mul_add]
  omega
theorem Et_eq {D : Dat} {T : Int} {p : Int → Int} {v τ : Int} : Et D T p v τ = Bt T p v τ + cyv D v := rfl
theorem ex_first {P : Int → Prop} {a n : Int} (h : ∃ b, a < b ∧ b < n ∧ P b) : ∃ m, a < m ∧ m < n ∧ P m ∧ ∀ k, a < k → k < m → ¬ P k := by
  obtain ⟨b, h1, h2, h3⟩ := h
  have key : ∀ k : Nat, ∀ b, b - a ≤ k → a < b → b < n → P b → ∃ m, a < m ∧ m < n ∧ P m ∧ ∀ k, a < k → k < m → ¬ P k := by
    intro k
    induction k with
    | zero => intro b c d; omega
    | succ k ih =>
      intro b c d e f
      by_cases z : ∃ k, a < k ∧ k < b ∧ P k
      · obtain ⟨j, x, y, w⟩ := z
        exact ih j (by omega) x (by omega) w
      · exact ⟨b, d, e, f, fun j x y w => z ⟨j, x, y, w⟩⟩
  exact key (b - a).toNat b (by omega) h1 h2 h3
theorem ex_last {P : Int → Prop} {u : Int} (h : ∃ b, 0 ≤ b ∧ b < u ∧ P b) : ∃ m, 0 ≤ m ∧ m < u ∧ P m ∧ ∀ k, m < k → k < u → ¬ P k := by
  obtain ⟨b, h1, h2, h3⟩ := h
  have key : ∀ k : Nat, ∀ b, u - b ≤ k → 0 ≤ b → b < u → P b → ∃ m, 0 ≤ m ∧ m < u ∧ P m ∧ ∀ k, m < k → k < u → ¬ P k := by
    intro k
    induction k with
    | zero => intro b c d; omega
    | succ k ih =>
      intro b c d e f
      by_cases z : ∃ k, b < k ∧ k < u ∧ P k
      · obtain ⟨j, x, y, w⟩ := z
        exact ih j (by omega) (by omega) y w
      · exact ⟨b, d, e, f, fun j x y w => z ⟨j, x, y, w⟩⟩
  exact key (u - b).toNat b (by omega) h1 h2 h3
def lx (τ a τ' b : Int) : Prop := τ < τ' ∨ (τ = τ' ∧ a < b)
/-- going round through nodes of a sort -/
theorem round_lx {n : Int} {P : Int → Prop} {X : Int → Int → Int}
    (hn : ∀ a m, 0 ≤ a → m < n → P a → P m → a < m → (∀ k, a < k → k < m → ¬ P k) → ∀ τ, X a τ < X m τ)
    (hw : ∀ l f, 0 ≤ l → l < n → 0 ≤ f → f < n → P l → P f → (∀ k, l < k → k < n → ¬ P k) → (∀ k, 0 ≤ k → k < f → ¬ P k) → ∀ τ, X l τ < X f (τ + 1))
    (hm : ∀ a τ τ', τ ≤ τ' → X a τ ≤ X a τ') : ∀ a b τ τ', 0 ≤ a → a < n → 0 ≤ b → b < n → P a → P b → lx τ a τ' b → X a τ < X b τ' := by
  have same : ∀ k : Nat, ∀ a b τ : Int, b - a ≤ k → 0 ≤ a → b < n → P a → P b → a < b → X a τ < X b τ := by
    intro k
    induction k with
    | zero => intro a b τ h1 _ _ _ _ h2; omega
    | succ k ih =>
      intro a b τ h1 h2 h3 h4 h5 h6
      obtain ⟨m, m0, m1, m2, m3⟩ := ex_first (P := P) (a := a) (n := b + 1) ⟨b, h6, by omega, h5⟩
      have s := hn a m h2 (by omega) h4 m2 m0 m3 τ
      by_cases z : m = b
      · rw [z] at s; exact s
      · have := ih m b τ (by omega) (by omega) h3 m2 h5 (by omega)
        omega
  have same' : ∀ a b τ : Int, 0 ≤ a → b < n → P a → P b → a ≤ b → X a τ ≤ X b τ := by
    intro a b τ h1 h2 h3 h4 h5
    by_cases z : a = b
    · rw [z]; exact Int.le_refl _
    · have := same (b - a).toNat a b τ (by omega) h1 h2 h3 h4 (by omega)
      omega
  intro a b τ τ' a0 a1 b0 b1 pa pb h
  rcases h with h | ⟨rfl, h⟩
  · obtain ⟨l, l0, l1, l2, l3⟩ := ex_last (P := P) (u := n) ⟨a, a0, a1, pa⟩
    obtain ⟨f, f0, f1, f2, f3⟩ := ex_first (P := P) (a := -1) (n := n) ⟨b, by omega, b1, pb⟩
    have c1 := same' a l τ a0 l1 pa l2 (Classical.byContradiction fun z => l3 a (by omega) a1 pa)
    have c2 := hw l f l0 l1 (by omega) f1 l2 f2 l3 (fun k x y => f3 k (by omega) y) τ
    have c3 := same' f b (τ + 1) (by omega) b1 f2 pb (Classical.byContradiction fun z => f3 b (by omega) (by omega) pb)
    have c4 := hm b (τ + 1) τ' (by omega)
    omega
  · exact same (b - a).toNat a b τ (by omega) a0 b1 pa pb h
/-- makers of a register are over one behind the other -/
theorem maker_lx {D : Dat} {T : Int} {p : Int → Int} (h : AE D T p) {r : Int} (hr : 0 ≤ r ∧ r < 8) : ∀ a b τ τ', 0 ≤ a → a < nn D → 0 ≤ b → b < nn D → mkv D a = r → mkv D b = r → lx τ a τ' b → Et D T p a τ < Et D T p b τ' := by
  refine round_lx (n := nn D) (P := fun v => mkv D v = r) (X := Et D T p) ?_ ?_ ?_
  · intro a m a0 m1 pa pm am no τ
    have := h.b (f := a) (t := m) (d := 0) (w := 1 - cyv D m + cyv D a) ⟨a0, by omega, by omega, m1, .inr (.inr (.inl ⟨r, hr.1, hr.2, ⟨by omega, .inl ⟨⟨by omega, m1, am, pm, fun k _ x y => no k x y⟩, rfl⟩⟩, .inr ⟨pa, rfl⟩⟩))⟩ τ
    rw [Int.add_zero] at this
    rw [Et_eq, Et_eq]
    omega
  · intro l f l0 l1 f0 f1 pl pf nol nof τ
    rw [Et_eq, Et_eq]
    by_cases z : l = f
    · have := h.up (τ := τ) l
      rw [← z]
      omega
    · have := h.b (f := l) (t := f) (d := 1) (w := 1 - cyv D f + cyv D l) ⟨l0, l1, f0, f1, .inr (.inr (.inl ⟨r, hr.1, hr.2, ⟨z, .inr ⟨fun k x y w => nol k y w, ⟨f0, f1, by omega, pf, fun k x _ y => nof k x y⟩, rfl⟩⟩, .inr ⟨pl, rfl⟩⟩))⟩ τ
      omega
  · intro a τ τ' e
    have := h.mo e a
    rw [Et_eq, Et_eq]
    omega
/-- a maker ahead is over when a register is read -/
theorem maker_use {D : Dat} {T : Int} {p : Int → Int} (h : AE D T p) {r : Int} (hr : 0 ≤ r ∧ r < 8) {a u τ τ' : Int} (a0 : 0 ≤ a ∧ a < nn D) (u0 : 0 ≤ u ∧ u < nn D) (ha : mkv D a = r) (hu : usv D u r) (l : lx τ a τ' u) : Et D T p a τ ≤ Bt T p u τ' := by
  by_cases c : ∃ b, 0 ≤ b ∧ b < u ∧ mkv D b = r
  · obtain ⟨m, m0, m1, m2, m3⟩ := ex_last (P := fun v => mkv D v = r) c
    have e := h.b (f := m) (t := u) (d := 0) (w := cyv D m) ⟨m0, by omega, u0.1, u0.2, .inr (.inl ⟨r, hr.1, hr.2, hu, .inl ⟨⟨m0, by omega, m1, m2, fun k x y _ => m3 k x y⟩, rfl⟩, rfl⟩)⟩ τ'
    rw [Int.add_zero] at e
    have : Et D T p a τ ≤ Et D T p m τ' := by
      by_cases z : τ = τ' ∧ a = m
      · rw [z.1, z.2]; exact Int.le_refl _
      · refine Int.le_of_lt (maker_lx h hr a m τ τ' a0.1 a0.2 m0 (by omega) ha m2 ?_)
        rcases l with l | ⟨l1, l2⟩
        · exact .inl l
        · refine .inr ⟨l1, Classical.byContradiction fun w => ?_⟩
          by_cases z2 : a = m
          · exact z ⟨l1, z2⟩
          · exact m3 a (by omega) l2 ha
    rw [Et_eq] at this ⊢
    rw [Et_eq] at this
    omega
  · have hl : τ < τ' := by
      rcases l with l | ⟨l1, l2⟩
      · exact l
      · exact absurd ⟨a, a0.1, l2, ha⟩ c
    obtain ⟨m, m0, m1, m2, m3⟩ := ex_last (P := fun v => mkv D v = r) (u := nn D) ⟨a, a0.1, a0.2, ha⟩
    have e := h.b (f := m) (t := u) (d := 1) (w := cyv D m) ⟨m0, m1, u0.1, u0.2, .inr (.inl ⟨r, hr.1, hr.2, hu, .inr ⟨fun k x y _ z => c ⟨k, x, y, z⟩, ⟨m0, m1, m1, m2, fun k x y _ => m3 k x y⟩, rfl⟩, rfl⟩)⟩ (τ' - 1)
    rw [show τ' - 1 + 1 = τ' by omega] at e
    have : Et D T p a τ ≤ Et D T p m (τ' - 1) := by
      by_cases z : τ = τ' - 1 ∧ a = m
      · rw [z.1, z.2]; exact Int.le_refl _
      · refine Int.le_of_lt (maker_lx h hr a m τ (τ' - 1) a0.1 a0.2 m0 (by omega) ha m2 ?_)
        by_cases z1 : τ < τ' - 1
        · exact .inl z1
        · refine .inr ⟨by omega, Classical.byContradiction fun w => ?_⟩
          by_cases z2 : a = m
          · exact z ⟨by omega, z2⟩
          · exact m3 a (by omega) a0.2 ha
    rw [Et_eq] at this ⊢
    rw [Et_eq] at this
    omega
/-- a maker behind is over later than a register is read -/
theorem use_maker {D : Dat} (ok : DOk D) {T : Int} {p : Int → Int} (h : AE D T p) {r : Int} (hr : 0 ≤ r ∧ r < 8) {a u τ τ' : Int} (a0 : 0 ≤ a ∧ a < nn D) (u0 : 0 ≤ u ∧ u < nn D) (ha : mkv D a = r) (hu : usv D u r) (l : τ < τ' ∨ (τ = τ' ∧ u ≤ a)) : Bt T p u τ < Et D T p a τ' := by
  have cu := cyv_r ok u0
  have ca := cyv_r ok a0
  by_cases au : a = u
  · have := h.mo (τ := τ) (τ' := τ') (by omega) u
    rw [Et_eq, au]
    omega
  · by_cases c : ∃ b, u < b ∧ b < nn D ∧ mkv D b = r
    · obtain ⟨m, m0, m1, m2, m3⟩ := ex_first (P := fun v => mkv D v = r) c
      have e := h.b (f := u) (t := m) (d := 0) (w := 1 - cyv D m) ⟨u0.1, u0.2, by omega, m1, .inr (.inr (.inl ⟨r, hr.1, hr.2, ⟨by omega, .inl ⟨⟨by omega, m1, m0, m2, fun k _ x y => m3 k x y⟩, rfl⟩⟩, .inl ⟨hu, rfl⟩⟩))⟩ τ
      rw [Int.add_zero] at e
      have : Et D T p m τ ≤ Et D T p a τ' := by
        by_cases z : τ = τ' ∧ m = a
        · rw [z.1, z.2]; exact Int.le_refl _
        · refine Int.le_of_lt (maker_lx h hr m a τ τ' (by omega) m1 a0.1 a0.2 m2 ha ?_)
          rcases l with l | ⟨l1, l2⟩
          · exact .inl l
          · refine .inr ⟨l1, Classical.byContradiction fun w => ?_⟩
            by_cases z2 : m = a
            · exact z ⟨l1, z2⟩
            · exact m3 a (by omega) (by omega) ha
      rw [Et_eq] at this
      omega
    · have hl : τ < τ' := by
        rcases l with l | ⟨l1, l2⟩
        · exact l
        · exact absurd ⟨a, by omega, a0.2, ha⟩ c
      obtain ⟨m, m0, m1, m2, m3⟩ := ex_first (P := fun v => mkv D v = r) (a := -1) (n := nn D) ⟨a, by omega, a0.2, ha⟩
      have : Et D T p m (τ + 1) ≤ Et D T p a τ' := by
        by_cases z : τ + 1 = τ' ∧ m = a
        · rw [z.1, z.2]; exact Int.le_refl _
        · refine Int.le_of_lt (maker_lx h hr m a (τ + 1) τ' (by omega) m1 a0.1 a0.2 m2 ha ?_)
          by_cases z1 : τ + 1 < τ'
          · exact .inl z1
          · refine .inr ⟨by omega, Classical.byContradiction fun w => ?_⟩
            by_cases z2 : m = a
            · exact z ⟨by omega, z2⟩
            · exact m3 a (by omega) (by omega) ha
      by_cases mu : m = u
      · have up := h.up (τ := τ) u
        rw [mu, Et_eq] at this
        omega
      · have e := h.b (f := u) (t := m) (d := 1) (w := 1 - cyv D m) ⟨u0.1, u0.2, by omega, m1, .inr (.inr (.inl ⟨r, hr.1, hr.2, ⟨by omega, .inr ⟨fun k x y w z => c ⟨k, y, w, z⟩, ⟨by omega, m1, m0, m2, fun k _ x y => m3 k x y⟩, rfl⟩⟩, .inl ⟨hu, rfl⟩⟩))⟩ τ
        rw [Et_eq] at this
        omega
