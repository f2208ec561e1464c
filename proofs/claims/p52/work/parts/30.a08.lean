/-! ===== cycles, one by one ===== -/
def BTu (D : Dat) : Int := Int.tdiv D.tur D.fac
theorem BT_b {D : Dat} (ok : DOk D) : 1 ≤ BTu D ∧ BTu D ≤ 16 ∧ BTu D * D.fac = D.tur := by
  have a := ok.tur
  have b := ok.fac
  have c := ok.div
  unfold BTu
  have e : D.tur.tdiv D.fac * D.fac = D.tur := by
    have := Int.tdiv_mul_add_tmod D.tur D.fac
    omega
  generalize D.tur.tdiv D.fac = q at e
  have : D.fac = 1 ∨ D.fac = 2 ∨ D.fac = 3 ∨ D.fac = 4 := by omega
  rcases this with f | f | f | f <;> rw [f] at e ⊢ <;> omega
theorem bodyT_w {D : Dat} (ok : DOk D) {i r : MI} {Q : Int → Prop} (h : ClassP D i r) (hQ : Q (BTu D)) : wp_X6_bodyTurns i r Q := by
  have b := BT_b ok
  have f := ok.fac
  unfold wp_X6_bodyTurns s23_X6_bodyTurns
  rw [h.fac, h.tur]
  refine ⟨fun q => by omega, fun q => ⟨by omega, ?_⟩⟩
  show Q (wr (BTu D))
  rw [wr_of (by omega) (by omega)]
  exact hQ
/-- how many cycles -/
def CycP (D : Dat) (T : Int) (p : Int → Int) (x : Int) : Prop := (nn D = 0 ∧ x = 0) ∨ (nn D ≠ 0 ∧ ∃ e, IsEnd D p e ∧ x = e + T * (BTu D - 1))
theorem CycP.uniq {D : Dat} {T x y : Int} {p q : Int → Int} (e : ∀ v, 0 ≤ v → v < nn D → p v = q v) (h : CycP D T p x) (g : CycP D T q y) : x = y := by
  rcases h with ⟨h1, h2⟩ | ⟨h1, a, h2, h3⟩ <;> rcases g with ⟨g1, g2⟩ | ⟨g1, b, g2, g3⟩
  · omega
  · exact absurd h1 g1
  · exact absurd g1 h1
  · rw [h3, g3, end_uniq e h2 g2]
theorem end_b {D : Dat} (ok : DOk D) {T e : Int} {p : Int → Int} (hT : 1 ≤ T ∧ T ≤ 480) (h : PlU D T p (nn D)) (he : IsEnd D p e) : 0 ≤ e ∧ e ≤ 50000 := by
  have nl := nn_le ok
  refine ⟨he.1, ?_⟩
  rcases he.2.2 with z | ⟨v, a, b, z⟩
  · omega
  · have := pl_b ok (T := T) (by omega) (Int.le_refl _) h v a b
    have := cyv_r ok (v := v) ⟨a, b⟩
    omega
theorem tb_b {D : Dat} (ok : DOk D) {T : Int} (hT : 1 ≤ T ∧ T ≤ 480) : 0 ≤ T * (BTu D - 1) ∧ T * (BTu D - 1) ≤ 7200 := by
  have b := BT_b ok
  refine ⟨Int.mul_nonneg (by omega) (by omega), ?_⟩
  have : T * (BTu D - 1) ≤ 480 * 15 := Int.mul_le_mul hT.2 (by omega) (by omega) (by omega)
  omega
theorem countC_w {D : Dat} (ok : DOk D) {i r : MI} {Q : Int → Prop} (h : NV D i) (m4 : M4 D i) (hQ : ∀ x, CycP D (i 469 5) (i 470) x → Q x) : wp_X4_countCycles (BTu D) i r Q := by
  have nl := nn_le ok
  have b := BT_b ok
  have tb := int_b m4.t
  have tt := tb_b ok tb
  have pb := pl_b ok (T := i 469 5) (by omega) (Int.le_refl _) m4.p
  unfold wp_X4_countCycles s28_X4_countCycles
  rw [h.n]
  refine ⟨fun q => hQ 0 (.inl ⟨q, rfl⟩), fun q => endOf_w ok h (fun v x y => by have := pb v x y; omega) (fun e he => ?_)⟩
  have eb := end_b ok tb m4.p he
  rw [wr_of (x := BTu D - 1) (by omega) (by omega), wr_of (x := i 469 5 * (BTu D - 1)) (by omega) (by omega), wr_of (x := e + i 469 5 * (BTu D - 1)) (by omega) (by omega)]
  exact hQ _ (.inr ⟨q, e, he, rfl⟩)
theorem sbt_b {D : Dat} (ok : DOk D) {s : Int} (h : 0 ≤ s ∧ s ≤ 480) : 0 ≤ s * BTu D ∧ s * BTu D ≤ 7680 := by
  have b := BT_b ok
  refine ⟨Int.mul_nonneg (by omega) (by omega), ?_⟩
  have : s * BTu D ≤ 480 * 16 := Int.mul_le_mul h.2 (by omega) (by omega) (by omega)
  omega
/-! ===== the circuit: times ===== -/
theorem raw_ed {D : Dat} (ok : DOk D) {f t d w : Int} (h : Raw D f t d w) : ∃ w', w ≤ w' ∧ Ed D f t d w' := by
  have key : ∀ k : Nat, ∀ w, Raw D f t d w → 5 - w ≤ k → ∃ w', w ≤ w' ∧ Ed D f t d w' := by
    intro k
    induction k with
    | zero =>
      intro w h hk
      obtain ⟨f0, _, _, _, _, _, w1⟩ := raw_props ok h
      have := cyv_r ok f0
      refine ⟨w, Int.le_refl _, h, fun w' h' => ?_⟩
      obtain ⟨_, _, _, _, _, _, w1'⟩ := raw_props ok h'
      omega
    | succ k ih =>
      intro w h hk
      by_cases c : ∃ w', w < w' ∧ Raw D f t d w'
      · obtain ⟨w', a, b⟩ := c
        obtain ⟨w2, c1, c2⟩ := ih w' b (by omega)
        exact ⟨w2, by omega, c2⟩
      · exact ⟨w, Int.le_refl _, h, fun w' h' => Classical.byContradiction fun z => c ⟨w', by omega, h'⟩⟩
  exact key (5 - w).toNat w h (by omega)
def AE (D : Dat) (T : Int) (p : Int → Int) : Prop := (1 ≤ T) ∧ (∀ v, 0 ≤ v → v < nn D → 0 ≤ p v) ∧ (∀ f t d w, Raw D f t d w → p f + w ≤ p t + T * d)
theorem AE.t {D : Dat} {T : Int} {p : Int → Int} (h0 : AE D T p) : 1 ≤ T := h0.1
theorem AE.z {D : Dat} {T : Int} {p : Int → Int} (h0 : AE D T p) : ∀ v, 0 ≤ v → v < nn D → 0 ≤ p v := h0.2.1
theorem AE.e {D : Dat} {T : Int} {p : Int → Int} (h0 : AE D T p) : ∀ f t d w, Raw D f t d w → p f + w ≤ p t + T * d := h0.2.2
theorem AE.mk {D : Dat} {T : Int} {p : Int → Int} (h0 : 1 ≤ T) (h1 : ∀ v, 0 ≤ v → v < nn D → 0 ≤ p v) (h2 : ∀ f t d w, Raw D f t d w → p f + w ≤ p t + T * d) : AE D T p := ⟨h0, h1, h2⟩
theorem AE.of {D : Dat} (ok : DOk D) {T : Int} {p : Int → Int} (hT : IsInt D T) (h : PlU D T p (nn D)) : AE D T p := by
  have ib := int_b hT
  have pb := pl_b ok (T := T) (by omega) (Int.le_refl _) h
  refine ⟨ib.1, fun v a b => (pb v a b).1, fun f t d w r => ?_⟩
  obtain ⟨w', hw, e⟩ := raw_ed ok r
  obtain ⟨⟨f0, f1⟩, ⟨t0, t1⟩, d0, _⟩ := ed_props ok e
  rcases Int.lt_trichotomy f t with z | z | z
  · obtain ⟨a, ha⟩ := h t t0 t1
    have := ha.f.2.1 f d w' e z
    have := ha.a
    omega
  · obtain ⟨R, hR, hRT, _⟩ := hT
    obtain ⟨q, hq⟩ := hR.2.1.up ok (T' := T) (by omega)
    have := hq.e f t d w' e
    rw [z] at this ⊢
    omega
  · obtain ⟨a, ha⟩ := h f f0 f1
    have := ha.t.1 t d w' e z
    omega
def Bt (T : Int) (p : Int → Int) (v τ : Int) : Int := p v + T * τ
def Et (D : Dat) (T : Int) (p : Int → Int) (v τ : Int) : Int := p v + T * τ + cyv D v
theorem AE.b {D : Dat} {T : Int} {p : Int → Int} (h : AE D T p) {f t d w : Int} (r : Raw D f t d w) (τ : Int) : Bt T p f τ + w ≤ Bt T p t (τ + d) := by
  have := h.e f t d w r
  unfold Bt
  rw [Int.mul_add]
  omega
theorem AE.mo {D : Dat} {T : Int} {p : Int → Int} (h : AE D T p) {τ τ' : Int} (e : τ ≤ τ') (v : Int) : Bt T p v τ ≤ Bt T p v τ' := by
  have t := h.t
  have := Int.mul_le_mul_of_nonneg_left e (show 0 ≤ T by omega)
  unfold Bt
  omega
theorem AE.up {D : Dat} {T : Int} {p : Int → Int} (h : AE D T p) {τ : Int} (v : Int) : Bt T p v τ + 1 ≤ Bt T p v (τ + 1) := by
  have t := h.t
  unfold Bt
  rw [Int.mul_add]
  omega
theorem Et_eq {D : Dat} {T : Int} {p : Int → Int} {v τ : Int} : Et D T p v τ = Bt T p v τ + cyv D v := rfl
theorem ex_first {P : Int → Prop} {a n : Int} (h : ∃ b, a < b ∧ b < n ∧ P b) : ∃ m, a < m ∧ m < n ∧ P m ∧ ∀ k, a < k → k < m → ¬ P k := by
  obtain ⟨b, h1, h2, h3⟩ := h
  have key : ∀ k : Nat, ∀ b, b - a ≤ k → a < b → b < n → P b → ∃ m, a < m ∧ m < n ∧ P m ∧ ∀ k, a < k → k < m → ¬ P k := by
    intro k
    induction k with
    | zero => intro b c d; omega
    | succ k ih =>
      intro b c d e f
      by_cases z : ∃ k, a < k ∧ k < b ∧ P k
      · obtain ⟨j, x, y, w⟩ := z
        exact ih j (by omega) x (by omega) w
      · exact ⟨b, d, e, f, fun j x y w => z ⟨j, x, y, w⟩⟩
  exact key (b - a).toNat b (by omega) h1 h2 h3
theorem ex_last {P : Int → Prop} {u : Int} (h : ∃ b, 0 ≤ b ∧ b < u ∧ P b) : ∃ m, 0 ≤ m ∧ m < u ∧ P m ∧ ∀ k, m < k → k < u → ¬ P k := by
  obtain ⟨b, h1, h2, h3⟩ := h
  have key : ∀ k : Nat, ∀ b, u - b ≤ k → 0 ≤ b → b < u → P b → ∃ m, 0 ≤ m ∧ m < u ∧ P m ∧ ∀ k, m < k → k < u → ¬ P k := by
    intro k
    induction k with
    | zero => intro b c d; omega
    | succ k ih =>
      intro b c d e f
      by_cases z : ∃ k, b < k ∧ k < u ∧ P k
      · obtain ⟨j, x, y, w⟩ := z
        exact ih j (by omega) (by omega) y w
      · exact ⟨b, d, e, f, fun j x y w => z ⟨j, x, y, w⟩⟩
  exact key (u - b).toNat b (by omega) h1 h2 h3
def lx (τ a τ' b : Int) : Prop := τ < τ' ∨ (τ = τ' ∧ a < b)
/-- going round through nodes of a sort -/
theorem round_lx {n : Int} {P : Int → Prop} {X : Int → Int → Int}
    (hn : ∀ a m, 0 ≤ a → m < n → P a → P m → a < m → (∀ k, a < k → k < m → ¬ P k) → ∀ τ, X a τ < X m τ)
    (hw : ∀ l f, 0 ≤ l → l < n → 0 ≤ f → f < n → P l → P f → (∀ k, l < k → k < n → ¬ P k) → (∀ k, 0 ≤ k → k < f → ¬ P k) → ∀ τ, X l τ < X f (τ + 1))
    (hm : ∀ a τ τ', τ ≤ τ' → X a τ ≤ X a τ') : ∀ a b τ τ', 0 ≤ a → a < n → 0 ≤ b → b < n → P a → P b → lx τ a τ' b → X a τ < X b τ' := by
  have same : ∀ k : Nat, ∀ a b τ : Int, b - a ≤ k → 0 ≤ a → b < n → P a → P b → a < b → X a τ < X b τ := by
    intro k
    induction k with
    | zero => intro a b τ h1 _ _ _ _ h2; omega
    | succ k ih =>
      intro a b τ h1 h2 h3 h4 h5 h6
      obtain ⟨m, m0, m1, m2, m3⟩ := ex_first (P := P) (a := a) (n := b + 1) ⟨b, h6, by omega, h5⟩
      have s := hn a m h2 (by omega) h4 m2 m0 m3 τ
      by_cases z : m = b
      · rw [z] at s; exact s
      · have := ih m b τ (by omega) (by omega) h3 m2 h5 (by omega)
        omega
  have same' : ∀ a b τ : Int, 0 ≤ a → b < n → P a → P b → a ≤ b → X a τ ≤ X b τ := by
    intro a b τ h1 h2 h3 h4 h5
    by_cases z : a = b
    · rw [z]; exact Int.le_refl _
    · have := same (b - a).toNat a b τ (by omega) h1 h2 h3 h4 (by omega)
      omega
  intro a b τ τ' a0 a1 b0 b1 pa pb h
  rcases h with h | ⟨rfl, h⟩
  · obtain ⟨l, l0, l1, l2, l3⟩ := ex_last (P := P) (u := n) ⟨a, a0, a1, pa⟩
    obtain ⟨f, f0, f1, f2, f3⟩ := ex_first (P := P) (a := -1) (n := n) ⟨b, by omega, b1, pb⟩
    have c1 := same' a l τ a0 l1 pa l2 (Classical.byContradiction fun z => l3 a (by omega) a1 pa)
    have c2 := hw l f l0 l1 (by omega) f1 l2 f2 l3 (fun k x y => f3 k (by omega) y) τ
    have c3 := same' f b (τ + 1) (by omega) b1 f2 pb (Classical.byContradiction fun z => f3 b (by omega) (by omega) pb)
    have c4 := hm b (τ + 1) τ' (by omega)
    omega
  · exact same (b - a).toNat a b τ (by omega) a0 b1 pa pb h
/-- makers of a register are over one behind the other -/
theorem maker_lx {D : Dat} {T : Int} {p : Int → Int} (h : AE D T p) {r : Int} (hr : 0 ≤ r ∧ r < 8) : ∀ a b τ τ', 0 ≤ a → a < nn D → 0 ≤ b → b < nn D → mkv D a = r → mkv D b = r → lx τ a τ' b → Et D T p a τ < Et D T p b τ' := by
  refine round_lx (n := nn D) (P := fun v => mkv D v = r) (X := Et D T p) ?_ ?_ ?_
  · intro a m a0 m1 pa pm am no τ
    have := h.b (f := a) (t := m) (d := 0) (w := 1 - cyv D m + cyv D a) ⟨a0, by omega, by omega, m1, .inr (.inr (.inl ⟨r, hr.1, hr.2, ⟨by omega, .inl ⟨⟨by omega, m1, am, pm, fun k _ x y => no k x y⟩, rfl⟩⟩, .inr ⟨pa, rfl⟩⟩))⟩ τ
    rw [Int.add_zero] at this
    rw [Et_eq, Et_eq]
    omega
  · intro l f l0 l1 f0 f1 pl pf nol nof τ
    rw [Et_eq, Et_eq]
    by_cases z : l = f
    · have := h.up (τ := τ) l
      rw [← z]
      omega
    · have := h.b (f := l) (t := f) (d := 1) (w := 1 - cyv D f + cyv D l) ⟨l0, l1, f0, f1, .inr (.inr (.inl ⟨r, hr.1, hr.2, ⟨z, .inr ⟨fun k x y w => nol k y w, ⟨f0, f1, by omega, pf, fun k x _ y => nof k x y⟩, rfl⟩⟩, .inr ⟨pl, rfl⟩⟩))⟩ τ
      omega
  · intro a τ τ' e
    have := h.mo e a
    rw [Et_eq, Et_eq]
    omega
/-- a maker ahead is over when a register is read -/
theorem maker_use {D : Dat} {T : Int} {p : Int → Int} (h : AE D T p) {r : Int} (hr : 0 ≤ r ∧ r < 8) {a u τ τ' : Int} (a0 : 0 ≤ a ∧ a < nn D) (u0 : 0 ≤ u ∧ u < nn D) (ha : mkv D a = r) (hu : usv D u r) (l : lx τ a τ' u) : Et D T p a τ ≤ Bt T p u τ' := by
  by_cases c : ∃ b, 0 ≤ b ∧ b < u ∧ mkv D b = r
  · obtain ⟨m, m0, m1, m2, m3⟩ := ex_last (P := fun v => mkv D v = r) c
    have e := h.b (f := m) (t := u) (d := 0) (w := cyv D m) ⟨m0, by omega, u0.1, u0.2, .inr (.inl ⟨r, hr.1, hr.2, hu, .inl ⟨⟨m0, by omega, m1, m2, fun k x y _ => m3 k x y⟩, rfl⟩, rfl⟩)⟩ τ'
    rw [Int.add_zero] at e
    have : Et D T p a τ ≤ Et D T p m τ' := by
      by_cases z : τ = τ' ∧ a = m
      · rw [z.1, z.2]; exact Int.le_refl _
      · refine Int.le_of_lt (maker_lx h hr a m τ τ' a0.1 a0.2 m0 (by omega) ha m2 ?_)
        rcases l with l | ⟨l1, l2⟩
        · exact .inl l
        · refine .inr ⟨l1, Classical.byContradiction fun w => ?_⟩
          by_cases z2 : a = m
          · exact z ⟨l1, z2⟩
          · exact m3 a (by omega) l2 ha
    rw [Et_eq] at this ⊢
    rw [Et_eq] at this
    omega
  · have hl : τ < τ' := by
      rcases l with l | ⟨l1, l2⟩
      · exact l
      · exact absurd ⟨a, a0.1, l2, ha⟩ c
    obtain ⟨m, m0, m1, m2, m3⟩ := ex_last (P := fun v => mkv D v = r) (u := nn D) ⟨a, a0.1, a0.2, ha⟩
    have e := h.b (f := m) (t := u) (d := 1) (w := cyv D m) ⟨m0, m1, u0.1, u0.2, .inr (.inl ⟨r, hr.1, hr.2, hu, .inr ⟨fun k x y _ z => c ⟨k, x, y, z⟩, ⟨m0, m1, m1, m2, fun k x y _ => m3 k x y⟩, rfl⟩, rfl⟩)⟩ (τ' - 1)
    rw [show τ' - 1 + 1 = τ' by omega] at e
    have : Et D T p a τ ≤ Et D T p m (τ' - 1) := by
      by_cases z : τ = τ' - 1 ∧ a = m
      · rw [z.1, z.2]; exact Int.le_refl _
      · refine Int.le_of_lt (maker_lx h hr a m τ (τ' - 1) a0.1 a0.2 m0 (by omega) ha m2 ?_)
        by_cases z1 : τ < τ' - 1
        · exact .inl z1
        · refine .inr ⟨by omega, Classical.byContradiction fun w => ?_⟩
          by_cases z2 : a = m
          · exact z ⟨by omega, z2⟩
          · exact m3 a (by omega) a0.2 ha
    rw [Et_eq] at this ⊢
    rw [Et_eq] at this
    omega
/-- a maker behind is over later than a register is read -/
theorem use_maker {D : Dat} (ok : DOk D) {T : Int} {p : Int → Int} (h : AE D T p) {r : Int} (hr : 0 ≤ r ∧ r < 8) {a u τ τ' : Int} (a0 : 0 ≤ a ∧ a < nn D) (u0 : 0 ≤ u ∧ u < nn D) (ha : mkv D a = r) (hu : usv D u r) (l : τ < τ' ∨ (τ = τ' ∧ u ≤ a)) : Bt T p u τ < Et D T p a τ' := by
  have cu := cyv_r ok u0
  have ca := cyv_r ok a0
  by_cases au : a = u
  · have := h.mo (τ := τ) (τ' := τ') (by omega) u
    rw [Et_eq, au]
    omega
  · by_cases c : ∃ b, u < b ∧ b < nn D ∧ mkv D b = r
    · obtain ⟨m, m0, m1, m2, m3⟩ := ex_first (P := fun v => mkv D v = r) c
      have e := h.b (f := u) (t := m) (d := 0) (w := 1 - cyv D m) ⟨u0.1, u0.2, by omega, m1, .inr (.inr (.inl ⟨r, hr.1, hr.2, ⟨by omega, .inl ⟨⟨by omega, m1, m0, m2, fun k _ x y => m3 k x y⟩, rfl⟩⟩, .inl ⟨hu, rfl⟩⟩))⟩ τ
      rw [Int.add_zero] at e
      have : Et D T p m τ ≤ Et D T p a τ' := by
        by_cases z : τ = τ' ∧ m = a
        · rw [z.1, z.2]; exact Int.le_refl _
        · refine Int.le_of_lt (maker_lx h hr m a τ τ' (by omega) m1 a0.1 a0.2 m2 ha ?_)
          rcases l with l | ⟨l1, l2⟩
          · exact .inl l
          · refine .inr ⟨l1, Classical.byContradiction fun w => ?_⟩
            by_cases z2 : m = a
            · exact z ⟨l1, z2⟩
            · exact m3 a (by omega) (by omega) ha
      rw [Et_eq] at this
      omega
    · have hl : τ < τ' := by
        rcases l with l | ⟨l1, l2⟩
        · exact l
        · exact absurd ⟨a, by omega, a0.2, ha⟩ c
      obtain ⟨m, m0, m1, m2, m3⟩ := ex_first (P := fun v => mkv D v = r) (a := -1) (n := nn D) ⟨a, by omega, a0.2, ha⟩
      have : Et D T p m (τ + 1) ≤ Et D T p a τ' := by
        by_cases z : τ + 1 = τ' ∧ m = a
        · rw [z.1, z.2]; exact Int.le_refl _
        · refine Int.le_of_lt (maker_lx h hr m a (τ + 1) τ' (by omega) m1 a0.1 a0.2 m2 ha ?_)
          by_cases z1 : τ + 1 < τ'
          · exact .inl z1
          · refine .inr ⟨by omega, Classical.byContradiction fun w => ?_⟩
            by_cases z2 : m = a
            · exact z ⟨by omega, z2⟩
            · exact m3 a (by omega) (by omega) ha
      by_cases mu : m = u
      · have up := h.up (τ := τ) u
        rw [mu, Et_eq] at this
        omega
      · have e := h.b (f := u) (t := m) (d := 1) (w := 1 - cyv D m) ⟨u0.1, u0.2, by omega, m1, .inr (.inr (.inl ⟨r, hr.1, hr.2, ⟨by omega, .inr ⟨fun k x y w z => c ⟨k, y, w, z⟩, ⟨by omega, m1, m0, m2, fun k _ x y => m3 k x y⟩, rfl⟩⟩, .inl ⟨hu, rfl⟩⟩))⟩ τ
        rw [Et_eq] at this
        omega

/-! ===== the circuit: times of memories and channels ===== -/
def PLv (D : Dat) (v τ : Int) : Int := fpN D (nd D v) + if tnN D (nd D v) = 1 then D.fac * τ else 0
theorem mem_edge {D : Dat} {T : Int} {p : Int → Int} (h : AE D T p) {f t τ τ' w : Int} (f0 : 0 ≤ f ∧ f < nn D) (t0 : 0 ≤ t ∧ t < nn D) (ne : f ≠ t) (mf : isMem D f) (hk : kdv D f = kdv D t) (hw : (¬ wrv D t ∧ wrv D f ∧ w = cyv D f) ∨ (wrv D t ∧ ¬ wrv D f ∧ w = 1 - cyv D t) ∨ (wrv D t ∧ wrv D f ∧ w = 1)) (e : PLv D f τ = PLv D t τ') (tf : tnN D (nd D f) = 0 ∨ tnN D (nd D f) = 1) (tt : tnN D (nd D t) = 0 ∨ tnN D (nd D t) = 1) (l : lx τ f τ' t) : Bt T p f τ + w ≤ Bt T p t τ' := by
  have raw : ∀ d, memD D f t d → Raw D f t d w := fun d hd => ⟨f0.1, f0.2, t0.1, t0.2, .inr (.inr (.inr (.inl ⟨⟨ne, mf, hk, by
    rcases hw with z | z | z
    · exact .inl z.2.1
    · exact .inr z.1
    · exact .inr z.1, hd⟩, by
    rcases hw with z | z | z
    · exact .inl ⟨z.1, z.2.2⟩
    · exact .inr (.inl z)
    · exact .inr (.inr z)⟩)))⟩
  unfold PLv at e
  by_cases b : tnN D (nd D f) = 1 ∧ tnN D (nd D t) = 1
  · rw [if_pos b.1, if_pos b.2] at e
    have ms : D.fac * (τ' - τ) = D.fac * τ' - D.fac * τ := Int.mul_sub _ _ _
    have := h.b (raw (τ' - τ) (by
      unfold memD
      rw [if_pos b]
      refine ⟨by rcases l with l | l <;> omega, by omega, fun z => by rcases l with l | l <;> omega⟩)) τ
    rw [show τ + (τ' - τ) = τ' by omega] at this
    exact this
  · have m : memD D f t (if f < t then 0 else 1) := by
      unfold memD
      rw [if_neg b]
      refine ⟨fun z => ?_, rfl⟩
      rw [if_neg (by omega), if_neg (by omega)] at e
      omega
    have := h.b (raw _ m) τ
    have mo := h.mo (τ := τ + if f < t then 0 else 1) (τ' := τ') (by
      by_cases z : f < t
      · rw [if_pos z]; rcases l with l | l <;> omega
      · rw [if_neg z]; rcases l with l | l <;> omega) t
    omega
theorem mem_tn {D : Dat} (ok : DOk D) {v : Int} (h : 0 ≤ v ∧ v < nn D) (hm : isMem D v) : tnN D (nd D v) = 0 ∨ tnN D (nd D v) = 1 := by
  have := (mem_fp ok h hm).2.2
  omega
theorem cyv_k {D : Dat} {f t : Int} (h : kdv D f = kdv D t) : cyv D f = cyv D t := by unfold cyv; rw [h]
/-- writings of a place are over one behind the other -/
theorem mem_ww {D : Dat} (ok : DOk D) {T : Int} {p : Int → Int} (h : AE D T p) {f t τ τ' : Int} (f0 : 0 ≤ f ∧ f < nn D) (t0 : 0 ≤ t ∧ t < nn D) (mf : isMem D f) (hk : kdv D f = kdv D t) (wf : wrv D f) (wt : wrv D t) (e : PLv D f τ = PLv D t τ') (l : lx τ f τ' t) : Et D T p f τ < Et D T p t τ' := by
  have mt : isMem D t := by unfold isMem at mf ⊢; rw [← hk]; exact mf
  rw [Et_eq, Et_eq]
  by_cases z : f = t
  · rw [z] at l ⊢
    have := h.up (τ := τ) t
    have := h.mo (τ := τ + 1) (τ' := τ') (by rcases l with l | l <;> omega) t
    omega
  · have := mem_edge h f0 t0 z mf hk (.inr (.inr ⟨wt, wf, rfl⟩)) e (mem_tn ok f0 mf) (mem_tn ok t0 mt) l
    have := cyv_k hk
    omega
theorem mem_wr {D : Dat} (ok : DOk D) {T : Int} {p : Int → Int} (h : AE D T p) {f t τ τ' : Int} (f0 : 0 ≤ f ∧ f < nn D) (t0 : 0 ≤ t ∧ t < nn D) (mf : isMem D f) (hk : kdv D f = kdv D t) (wf : wrv D f) (wt : ¬ wrv D t) (e : PLv D f τ = PLv D t τ') (l : lx τ f τ' t) : Et D T p f τ ≤ Bt T p t τ' := by
  have mt : isMem D t := by unfold isMem at mf ⊢; rw [← hk]; exact mf
  rw [Et_eq]
  exact mem_edge h f0 t0 (fun z => wt (z ▸ wf)) mf hk (.inl ⟨wt, wf, rfl⟩) e (mem_tn ok f0 mf) (mem_tn ok t0 mt) l
theorem mem_rw {D : Dat} (ok : DOk D) {T : Int} {p : Int → Int} (h : AE D T p) {f t τ τ' : Int} (f0 : 0 ≤ f ∧ f < nn D) (t0 : 0 ≤ t ∧ t < nn D) (mf : isMem D f) (hk : kdv D f = kdv D t) (wf : ¬ wrv D f) (wt : wrv D t) (e : PLv D f τ = PLv D t τ') (l : lx τ f τ' t) : Bt T p f τ < Et D T p t τ' := by
  have mt : isMem D t := by unfold isMem at mf ⊢; rw [← hk]; exact mf
  have := mem_edge h f0 t0 (fun z => wf (z ▸ wt)) mf hk (.inr (.inl ⟨wt, wf, rfl⟩)) e (mem_tn ok f0 mf) (mem_tn ok t0 mt) l
  rw [Et_eq]
  omega
/-- nodes of a channel begin one behind the other -/
theorem chan_lx {D : Dat} {T : Int} {p : Int → Int} (h : AE D T p) {c : Int} (hc : 5 ≤ c) : ∀ a b τ τ', 0 ≤ a → a < nn D → 0 ≤ b → b < nn D → kdv D a = c → kdv D b = c → lx τ a τ' b → Bt T p a τ < Bt T p b τ' := by
  refine round_lx (n := nn D) (P := fun v => kdv D v = c) (X := Bt T p) ?_ ?_ ?_
  · intro a m a0 m1 pa pm am no τ
    have pa' : kdv D a = c := pa
    have pm' : kdv D m = c := pm
    have := h.b (f := a) (t := m) (d := 0) (w := 1) ⟨a0, by omega, by omega, m1, .inr (.inr (.inr (.inr ⟨⟨by omega, by omega, by omega, .inl ⟨⟨by omega, m1, am, by omega, fun k _ x y => by rw [pa']; exact no k x y⟩, rfl⟩⟩, rfl⟩)))⟩ τ
    rw [Int.add_zero] at this
    omega
  · intro l f l0 l1 f0 f1 pl pf nol nof τ
    have pl' : kdv D l = c := pl
    have pf' : kdv D f = c := pf
    by_cases z : l = f
    · have := h.up (τ := τ) l
      rw [← z]
      omega
    · have := h.b (f := l) (t := f) (d := 1) (w := 1) ⟨l0, l1, f0, f1, .inr (.inr (.inr (.inr ⟨⟨z, by omega, by omega, .inr ⟨fun k x y w => by rw [pl']; exact nol k y w, ⟨f0, f1, by omega, by omega, fun k x _ y => by rw [pl']; exact nof k x y⟩, rfl⟩⟩, rfl⟩)))⟩ τ
      omega
  · intro a τ τ' e
    exact h.mo e a
theorem chan_ex {D : Dat} {T : Int} {p : Int → Int} (h : AE D T p) {c : Int} (hc : 5 ≤ c) {a b τ τ' : Int} (a0 : 0 ≤ a ∧ a < nn D) (b0 : 0 ≤ b ∧ b < nn D) (pa : kdv D a = c) (pb : kdv D b = c) (l : lx τ a τ' b) : Et D T p a τ < Et D T p b τ' := by
  have := chan_lx h hc a b τ τ' a0.1 a0.2 b0.1 b0.2 pa pb l
  have := cyv_k (D := D) (f := a) (t := b) (by rw [pa, pb])
  rw [Et_eq, Et_eq]
  omega
theorem give_ex {D : Dat} {T : Int} {p : Int → Int} (h : AE D T p) {g v : Int} (τ : Int) (g0 : 0 ≤ g ∧ g < nn D) (v0 : 0 ≤ v ∧ v < nn D) (w : withE D g v) : Et D T p g τ ≤ Bt T p v τ := by
  have := h.b (f := g) (t := v) (d := 0) (w := cyv D g) ⟨g0.1, g0.2, v0.1, v0.2, .inl ⟨w, rfl, rfl⟩⟩ τ
  rw [Int.add_zero] at this
  rw [Et_eq]
  exact this

/-! ===== statements and their nodes ===== -/
def sv' (D : Dat) (v : Int) : Int := (nd D v).1
def kv (D : Dat) (v : Int) : Int := stK D (nd D v)
def SS (D : Dat) : Int := D.cnt * D.fac
/-- the number of a statement's turn, and its i -/
def Iv (D : Dat) (v τ : Int) : Int := τ * SS D + sv' D v
def iv (D : Dat) (v τ : Int) : Int := D.fac * τ + sv' D v / D.cnt
theorem sv_r {D : Dat} (ok : DOk D) {v : Int} (h : 0 ≤ v ∧ v < nn D) : 0 ≤ sv' D v ∧ sv' D v < SS D ∧ 0 < D.cnt ∧ 0 ≤ kv D v ∧ kv D v < D.cnt := by
  obtain ⟨j, a, b, c, d⟩ := seg_of ok h
  obtain ⟨e1, e2, e3, e4, e5⟩ := nd_ok ok h
  exact ⟨c, d, by omega, e3, e4⟩
theorem SS_b {D : Dat} (ok : DOk D) : 0 ≤ SS D ∧ SS D ≤ 24 := ⟨Int.mul_nonneg ok.cnt.1 (by have := ok.fac; omega), ok.body⟩
theorem Iv_k {D : Dat} (ok : DOk D) {v τ : Int} (h : 0 ≤ v ∧ v < nn D) : Iv D v τ % D.cnt = kv D v ∧ Iv D v τ / D.cnt = iv D v τ := by
  have s := sv_r ok h
  have e : Iv D v τ = sv' D v + D.fac * τ * D.cnt := by
    unfold Iv SS
    rw [show τ * (D.cnt * D.fac) = D.fac * τ * D.cnt by rw [Int.mul_comm τ, Int.mul_assoc D.cnt, Int.mul_comm D.cnt]]
    omega
  rw [e, Int.add_mul_emod_self_right, Int.add_mul_ediv_right _ _ (by omega)]
  refine ⟨rfl, ?_⟩
  unfold iv
  omega
theorem Iv_r {D : Dat} (ok : DOk D) {v τ : Int} (h : 0 ≤ v ∧ v < nn D) (ht : 0 ≤ τ ∧ τ < BTu D) : 0 ≤ Iv D v τ ∧ Iv D v τ < D.tur * D.cnt := by
  have s := sv_r ok h
  have b := BT_b ok
  have e : BTu D * SS D = D.tur * D.cnt := by
    unfold SS
    rw [← b.2.2, Int.mul_assoc, Int.mul_comm D.cnt]
  have m0 : 0 ≤ τ * SS D := Int.mul_nonneg ht.1 (by omega)
  have m1 : (τ + 1) * SS D ≤ BTu D * SS D := Int.mul_le_mul_of_nonneg_right (by omega) (by omega)
  rw [Int.add_mul, e] at m1
  unfold Iv
  omega
theorem iv_r {D : Dat} (ok : DOk D) {v τ : Int} (h : 0 ≤ v ∧ v < nn D) (ht : 0 ≤ τ ∧ τ < BTu D) : 0 ≤ iv D v τ ∧ iv D v τ ≤ 100 := by
  have s := sv_r ok h
  have b := BT_b ok
  have f := ok.fac
  have t := ok.tur
  have ss := SS_b ok
  have q0 : 0 ≤ sv' D v / D.cnt := Int.ediv_nonneg s.1 (by omega)
  have q1 : sv' D v / D.cnt ≤ sv' D v := Int.ediv_le_self _ s.1
  have m0 : 0 ≤ D.fac * τ := Int.mul_nonneg (by omega) ht.1
  have m1 : D.fac * τ ≤ D.fac * BTu D := Int.mul_le_mul_of_nonneg_left (by omega) (by omega)
  rw [Int.mul_comm D.fac (BTu D)] at m1
  unfold iv
  omega
theorem bs_s {D : Dat} {s : Int} (h : 0 ≤ s) : bs D (s + 1) = bs D s + (rls D (s % D.cnt)).length := by
  unfold bs
  rw [show (s + 1).toNat = s.toNat + 1 by omega]
  show (((ndl D s.toNat ++ (rls D (((s.toNat : Nat) : Int) % D.cnt)).map (fun q => (((s.toNat : Nat) : Int), q))).length : Nat) : Int) = _
  rw [List.length_append, List.length_map, show ((s.toNat : Nat) : Int) = s by omega]
  omega
theorem bs_mono {D : Dat} {s t : Int} (h : 0 ≤ s) (l : s ≤ t) : bs D s ≤ bs D t := by
  have key : ∀ k : Nat, bs D s ≤ bs D (s + k) := by
    intro k
    induction k with
    | zero => rw [show s + ((0 : Nat) : Int) = s by omega]; exact Int.le_refl _
    | succ k ih =>
      rw [show s + ((k + 1 : Nat) : Int) = s + k + 1 by omega, bs_s (by omega)]
      omega
  have := key (t - s).toNat
  rw [show s + ((t - s).toNat : Int) = t by omega] at this
  exact this
theorem v_seg {D : Dat} (ok : DOk D) {v : Int} (h : 0 ≤ v ∧ v < nn D) : bs D (sv' D v) ≤ v ∧ v < bs D (sv' D v + 1) := by
  obtain ⟨j, a, b, c, d⟩ := seg_of ok h
  have l := get_lt b
  have e := bs_s (D := D) (s := sv' D v) c
  have ek : stK D (nd D v) = sv' D v % D.cnt := rfl
  rw [ek] at l
  have a' : v = bs D (sv' D v) + j := a
  omega
theorem sv_mono {D : Dat} (ok : DOk D) {u v : Int} (hu : 0 ≤ u ∧ u < nn D) (hv : 0 ≤ v ∧ v < nn D) (l : u ≤ v) : sv' D u ≤ sv' D v := by
  apply Classical.byContradiction
  intro c
  have a := v_seg ok hu
  have b := v_seg ok hv
  have m := bs_mono (D := D) (s := sv' D v + 1) (t := sv' D u) (by have := (sv_r ok hv).1; omega) (by omega)
  omega
theorem Iv_lx {D : Dat} (ok : DOk D) {a b τ τ' : Int} (ha : 0 ≤ a ∧ a < nn D) (hb : 0 ≤ b ∧ b < nn D) (l : Iv D a τ < Iv D b τ') : lx τ a τ' b := by
  have sa := sv_r ok ha
  have sb := sv_r ok hb
  unfold Iv at l
  rcases Int.lt_trichotomy τ τ' with z | z | z
  · exact .inl z
  · refine .inr ⟨z, Classical.byContradiction fun w => ?_⟩
    have := sv_mono ok hb ha (by omega)
    rw [z] at l
    omega
  · have m := Int.mul_le_mul_of_nonneg_right (show τ' + 1 ≤ τ by omega) (show 0 ≤ SS D by omega)
    rw [Int.add_mul] at m
    omega
theorem lx_Iv {D : Dat} (ok : DOk D) {a b τ τ' : Int} (ha : 0 ≤ a ∧ a < nn D) (hb : 0 ≤ b ∧ b < nn D) (l : lx τ a τ' b) : Iv D a τ ≤ Iv D b τ' := by
  have sa := sv_r ok ha
  have sb := sv_r ok hb
  unfold Iv
  rcases l with z | ⟨z, w⟩
  · have m := Int.mul_le_mul_of_nonneg_right (show τ + 1 ≤ τ' by omega) (show 0 ≤ SS D by omega)
    rw [Int.add_mul] at m
    omega
  · have := sv_mono ok ha hb (by omega)
    rw [z]
    omega
/-- one turn of one statement -/
theorem Iv_inj {D : Dat} (ok : DOk D) {a b τ τ' : Int} (ha : 0 ≤ a ∧ a < nn D) (hb : 0 ≤ b ∧ b < nn D) (e : Iv D a τ = Iv D b τ') : τ = τ' ∧ sv' D a = sv' D b := by
  have sa := sv_r ok ha
  have sb := sv_r ok hb
  unfold Iv at e
  rcases Int.lt_trichotomy τ τ' with z | z | z
  · have m := Int.mul_le_mul_of_nonneg_right (show τ + 1 ≤ τ' by omega) (show 0 ≤ SS D by omega)
    rw [Int.add_mul] at m
    omega
  · rw [z] at e
    exact ⟨z, by omega⟩
  · have m := Int.mul_le_mul_of_nonneg_right (show τ' + 1 ≤ τ by omega) (show 0 ≤ SS D by omega)
    rw [Int.add_mul] at m
    omega
/-- the last part of a statement -/
def lrl (D : Dat) (k : Int) : Int := if D.F k 0 ≠ 0 then 3 else if D.O k ≠ 32 then 2 else if isRd (D.F k 1) then 0 else 4
theorem rls_last (D : Dat) (k : Int) : ∃ l, rls D k = l ++ [lrl D k] := by
  unfold rls lrl
  by_cases f : D.F k 0 = 0
  · rw [if_pos f, if_neg (show ¬ D.F k 0 ≠ 0 from fun z => z f)]
    by_cases o : D.O k = 32
    · rw [if_pos o, if_neg (show ¬ D.O k ≠ 32 from fun z => z o)]
      by_cases r : isRd (D.F k 1)
      · rw [if_pos r, if_neg (show ¬ (D.O k = 32 ∧ ¬ isRd (D.F k 1)) from fun z => z.2 r), if_pos r]; exact ⟨[], rfl⟩
      · rw [if_neg r, if_pos (show D.O k = 32 ∧ ¬ isRd (D.F k 1) from ⟨o, r⟩), if_neg r]; exact ⟨[], rfl⟩
    · rw [if_neg o, if_pos (show D.O k ≠ 32 from o), if_neg (show ¬ (D.O k = 32 ∧ ¬ isRd (D.F k 1)) from fun z => o z.1), List.append_nil]
      exact ⟨(if isRd (D.F k 1) then [0] else []) ++ (if isRd (D.F k 2) then [1] else []), by rw [List.append_assoc]⟩
  · rw [if_neg f, if_pos (show D.F k 0 ≠ 0 from f)]
    exact ⟨(if isRd (D.F k 1) then [0] else []) ++ (if D.O k = 32 then [] else (if isRd (D.F k 2) then [1] else []) ++ [2]), by rw [List.append_assoc]⟩
def Lst (D : Dat) (v : Int) : Prop := (nd D v).2 = lrl D (kv D v)
theorem lst_ex {D : Dat} (ok : DOk D) {s : Int} (h : 0 ≤ s ∧ s < SS D) : ∃ v, 0 ≤ v ∧ v < nn D ∧ sv' D v = s ∧ Lst D v := by
  obtain ⟨l, e⟩ := rls_last D (s % D.cnt)
  have hj : (rls D (s % D.cnt))[l.length]? = some (lrl D (s % D.cnt)) := by rw [e]; simp
  obtain ⟨a, b, c⟩ := seg_at h hj
  refine ⟨_, b, c, by unfold sv'; rw [a], ?_⟩
  unfold Lst kv stK
  rw [a]
theorem lst_uniq {D : Dat} (ok : DOk D) {u v : Int} (hu : 0 ≤ u ∧ u < nn D) (hv : 0 ≤ v ∧ v < nn D) (e : sv' D u = sv' D v) (a : Lst D u) (b : Lst D v) : u = v := by
  refine nd_inj hu hv (Prod.ext e ?_)
  have : kv D u = kv D v := by unfold kv stK; unfold sv' at e; rw [e]
  rw [a, b, this]
theorem nodup_last {α : Type} {l : List α} {x : α} (h : (l ++ [x]).Nodup) {j : Nat} (e : (l ++ [x])[j]? = some x) : j = l.length := by
  have hl := get_lt e
  have e2 : (l ++ [x])[l.length]? = some x := by simp
  exact (List.getElem?_inj hl h).1 (by rw [e, e2])
theorem lst_iff {D : Dat} (ok : DOk D) {v : Int} (h : 0 ≤ v ∧ v < nn D) : Lst D v ↔ v + 1 = bs D (sv' D v + 1) := by
  obtain ⟨j, a, b, c, d⟩ := seg_of ok h
  have e := bs_s (D := D) (s := sv' D v) c
  have ek : stK D (nd D v) = sv' D v % D.cnt := rfl
  rw [ek] at b
  have a' : v = bs D (sv' D v) + j := a
  have nd' := rls_nodup (D := D) (k := sv' D v % D.cnt)
  obtain ⟨l, el⟩ := rls_last D (sv' D v % D.cnt)
  rw [el] at b e nd'
  rw [List.length_append, List.length_singleton] at e
  unfold Lst kv
  rw [ek]
  constructor
  · intro z
    rw [z] at b
    have := nodup_last nd' b
    omega
  · intro z
    have : j = l.length := by omega
    rw [this] at b
    simp at b
    exact b.symm
theorem bs_end {D : Dat} (ok : DOk D) : bs D (SS D) = nn D := rfl
/-- as the reference sees it -/
theorem lst_next {D : Dat} (ok : DOk D) {v : Int} (h : 0 ≤ v ∧ v < nn D) : Lst D v ↔ v + 1 = nn D ∨ (nd D (v + 1)).1 ≠ (nd D v).1 := by
  rw [lst_iff ok h]
  have s := sv_r ok h
  have a := v_seg ok h
  constructor
  · intro z
    by_cases c : v + 1 = nn D
    · exact .inl c
    · refine .inr (fun w => ?_)
      have b := v_seg ok (v := v + 1) ⟨by omega, by omega⟩
      have : sv' D (v + 1) = sv' D v := w
      rw [this] at b
      omega
  · rintro (z | z)
    · have m := bs_mono (D := D) (s := sv' D v + 1) (t := SS D) (by omega) (by omega)
      rw [bs_end ok] at m
      omega
    · by_cases c : v + 1 = nn D
      · have m := bs_mono (D := D) (s := sv' D v + 1) (t := SS D) (by omega) (by omega)
        rw [bs_end ok] at m
        omega
      · have b := v_seg ok (v := v + 1) ⟨by omega, by omega⟩
        have sb := sv_r ok (v := v + 1) ⟨by omega, by omega⟩
        have mo := sv_mono ok h (v := v + 1) ⟨by omega, by omega⟩ (by omega)
        have ne : sv' D (v + 1) ≠ sv' D v := z
        have m := bs_mono (D := D) (s := sv' D v + 1) (t := sv' D (v + 1)) (by omega) (by omega)
        omega
/-- as the class sees it -/
theorem lst_mk {D : Dat} (ok : DOk D) {v : Int} (h : 0 ≤ v ∧ v < nn D) : Lst D v ↔ (nd D v).2 = 3 ∨ mkv D v ≠ -1 := by
  obtain ⟨h1, h2, h3, h4, h5⟩ := nd_ok ok h
  have n0 := (ok.st _ h3 h4).n0 0 (by decide) (by decide)
  unfold Lst lrl mkv mkN kv
  have ro := rls_mem h5
  by_cases f : D.F (stK D (nd D v)) 0 = 0
  · have := n0 f
    rw [if_neg (by omega)]
    by_cases o : D.O (stK D (nd D v)) = 32
    · rw [if_neg (by omega)]
      by_cases r : isRd (D.F (stK D (nd D v)) 1)
      · rw [if_pos r]
        rcases ro with q | q | q | q | q
        · rw [if_pos ⟨f, .inr (.inr ⟨q.1, o⟩)⟩]; exact ⟨fun _ => .inr (by omega), fun _ => q.1⟩
        · exact absurd o q.2.1
        · exact absurd o q.2
        · exact absurd f q.2
        · exact absurd r q.2.2.2
      · rw [if_neg r]
        rcases ro with q | q | q | q | q
        · exact absurd q.2 r
        · exact absurd o q.2.1
        · exact absurd o q.2
        · exact absurd f q.2
        · rw [if_pos ⟨f, .inr (.inl q.1)⟩]; exact ⟨fun _ => .inr (by omega), fun _ => q.1⟩
    · rw [if_pos o]
      rcases ro with q | q | q | q | q
      · rw [if_neg (fun z => by rcases z.2 with w | w | w <;> omega)]; omega
      · rw [if_neg (fun z => by rcases z.2 with w | w | w <;> omega)]; omega
      · rw [if_pos ⟨f, .inl q.1⟩]; exact ⟨fun _ => .inr (by omega), fun _ => q.1⟩
      · exact absurd f q.2
      · exact absurd q.2.2.1 o
  · rw [if_pos f, if_neg (fun z => f z.1)]
    omega

/-! ===== the circuit: what is done in order, by numbers ===== -/
def sg (D : Dat) (n : Int) : St := runS D n.toNat
theorem sg_s {D : Dat} {n : Int} (h : 0 ≤ n) : sg D (n + 1) = oneS D (n % D.cnt) (n / D.cnt) (sg D n) := by
  unfold sg
  rw [show (n + 1).toNat = n.toNat + 1 by omega]
  show oneS D (((n.toNat : Nat) : Int) % D.cnt) (((n.toNat : Nat) : Int) / D.cnt) _ = _
  rw [show ((n.toNat : Nat) : Int) = n by omega]
theorem const_to {α : Type} {f : Int → α} {W : Int → Prop} (hs : ∀ n, 0 ≤ n → ¬ W n → f (n + 1) = f n) {a b : Int} (a0 : 0 ≤ a) (ab : a ≤ b) (no : ∀ n, a ≤ n → n < b → ¬ W n) : f b = f a := by
  have key : ∀ k : Nat, a + k ≤ b → f (a + k) = f a := by
    intro k
    induction k with
    | zero => intro _; rw [show a + ((0 : Nat) : Int) = a by omega]
    | succ k ih =>
      intro h
      rw [show a + ((k + 1 : Nat) : Int) = a + k + 1 by omega, hs _ (by omega) (no _ (by omega) (by omega))]
      exact ih (by omega)
  have := key (b - a).toNat (by omega)
  rw [show a + ((b - a).toNat : Int) = b by omega] at this
  exact this
/-- what a statement's turn writes -/
def RVn (D : Dat) (n : Int) : Int := if D.O (n % D.cnt) = 32 then valS D (n % D.cnt) 1 (n / D.cnt) (sg D n) else cutD D (opS (D.O (n % D.cnt)) (valS D (n % D.cnt) 1 (n / D.cnt) (sg D n)) (valS D (n % D.cnt) 2 (n / D.cnt) (tkS D (n % D.cnt) 1 (sg D n))))
def tkk (D : Dat) (k : Int) (s : St) : St := if D.O k = 32 then tkS D k 1 s else tkS D k 2 (tkS D k 1 s)
theorem sg_w {D : Dat} {n : Int} (h : 0 ≤ n) : sg D (n + 1) = wriS D (n % D.cnt) (n / D.cnt) (RVn D n) (tkk D (n % D.cnt) (sg D n)) := by
  rw [sg_s h]
  unfold oneS RVn tkk
  by_cases o : D.O (n % D.cnt) = 32
  · rw [if_pos o, if_pos o, if_pos o]
  · rw [if_neg o, if_neg o, if_neg o]
theorem tkS_p {D : Dat} {k p : Int} {s : St} : (tkS D k p s).reg = s.reg ∧ (tkS D k p s).mem = s.mem ∧ (tkS D k p s).out = s.out ∧ (tkS D k p s).outs = s.outs ∧ (tkS D k p s).tak = s.tak + if D.F k p = 5 then 1 else 0 := by
  unfold tkS
  by_cases c : D.F k p = 5
  · rw [if_pos c, if_pos c]; exact ⟨rfl, rfl, rfl, rfl, rfl⟩
  · rw [if_neg c, if_neg c]; exact ⟨rfl, rfl, rfl, rfl, by omega⟩
theorem tkk_p {D : Dat} {k : Int} {s : St} : (tkk D k s).reg = s.reg ∧ (tkk D k s).mem = s.mem ∧ (tkk D k s).out = s.out ∧ (tkk D k s).outs = s.outs := by
  unfold tkk
  have a := tkS_p (D := D) (k := k) (p := 1) (s := s)
  have b := tkS_p (D := D) (k := k) (p := 2) (s := tkS D k 1 s)
  by_cases c : D.O k = 32
  · rw [if_pos c]; exact ⟨a.1, a.2.1, a.2.2.1, a.2.2.2.1⟩
  · rw [if_neg c]; exact ⟨b.1.trans a.1, b.2.1.trans a.2.1, b.2.2.1.trans a.2.2.1, b.2.2.2.1.trans a.2.2.2.1⟩
def wMem (D : Dat) (k i a q : Int) : Prop := D.F k 0 = a + 3 ∧ plc (D.T k 0) (D.N k 0) i = q
theorem wri_reg {D : Dat} {k i v r : Int} {s : St} : (wriS D k i v s).reg r = if D.F k 0 = 0 ∧ r = D.N k 0 then v else s.reg r := by
  unfold wriS
  by_cases c : D.F k 0 = 0
  · rw [if_pos c]
    show (if r = D.N k 0 then v else s.reg r) = _
    by_cases d : r = D.N k 0
    · rw [if_pos d, if_pos ⟨c, d⟩]
    · rw [if_neg d, if_neg (fun z => d z.2)]
  · rw [if_neg c, if_neg (show ¬ (D.F k 0 = 0 ∧ r = D.N k 0) from fun z => c z.1)]
    split
    · rfl
    split <;> rfl
theorem wri_mem {D : Dat} {k i v a q : Int} {s : St} (ha : 0 ≤ a ∧ a < 2) (hq : 0 ≤ q ∧ q < 16) : (wMem D k i a q → (wriS D k i v s).mem a q = v) ∧ (¬ wMem D k i a q → (wriS D k i v s).mem a q = s.mem a q) := by
  unfold wriS wMem
  by_cases c : D.F k 0 = 0
  · rw [if_pos c]; exact ⟨fun z => by omega, fun _ => rfl⟩
  rw [if_neg c]
  by_cases d : D.F k 0 = 6
  · rw [if_pos d]; exact ⟨fun z => by omega, fun _ => rfl⟩
  rw [if_neg d]
  by_cases e : 0 ≤ D.F k 0 - 3 ∧ D.F k 0 - 3 < 2 ∧ 0 ≤ plc (D.T k 0) (D.N k 0) i ∧ plc (D.T k 0) (D.N k 0) i < 16
  · rw [if_pos e]
    refine ⟨fun z => ?_, fun z => ?_⟩
    · show (if a = D.F k 0 - 3 ∧ q = plc (D.T k 0) (D.N k 0) i then v else s.mem a q) = v
      rw [if_pos ⟨by omega, z.2.symm⟩]
    · show (if a = D.F k 0 - 3 ∧ q = plc (D.T k 0) (D.N k 0) i then v else s.mem a q) = s.mem a q
      rw [if_neg (fun w => z ⟨by omega, w.2.symm⟩)]
  · rw [if_neg e]
    exact ⟨fun z => absurd ⟨by omega, by omega, by omega, by omega⟩ e, fun _ => rfl⟩
theorem wri_out {D : Dat} {k i v : Int} {s : St} : (D.F k 0 = 6 → (wriS D k i v s).outs = s.outs + 1 ∧ ∀ x, (wriS D k i v s).out x = if x = s.outs then v else s.out x) ∧ (D.F k 0 ≠ 6 → (wriS D k i v s).outs = s.outs ∧ (wriS D k i v s).out = s.out) := by
  unfold wriS
  by_cases c : D.F k 0 = 0
  · rw [if_pos c]; exact ⟨fun z => by omega, fun _ => ⟨rfl, rfl⟩⟩
  rw [if_neg c]
  by_cases d : D.F k 0 = 6
  · rw [if_pos d]; exact ⟨fun _ => ⟨rfl, fun x => rfl⟩, fun z => absurd d z⟩
  rw [if_neg d]
  refine ⟨fun z => absurd z d, fun _ => ?_⟩
  split <;> exact ⟨rfl, rfl⟩
theorem wri_tak {D : Dat} {k i v : Int} {s : St} : (wriS D k i v s).tak = s.tak := by
  unfold wriS
  split
  · rfl
  split
  · rfl
  split <;> rfl
theorem sg_reg {D : Dat} {n : Int} (h : 0 ≤ n) (r : Int) : (sg D (n + 1)).reg r = if D.F (n % D.cnt) 0 = 0 ∧ r = D.N (n % D.cnt) 0 then RVn D n else (sg D n).reg r := by
  rw [sg_w h, wri_reg, tkk_p.1]
theorem sg_mem {D : Dat} {n a q : Int} (h : 0 ≤ n) (ha : 0 ≤ a ∧ a < 2) (hq : 0 ≤ q ∧ q < 16) : (wMem D (n % D.cnt) (n / D.cnt) a q → (sg D (n + 1)).mem a q = RVn D n) ∧ (¬ wMem D (n % D.cnt) (n / D.cnt) a q → (sg D (n + 1)).mem a q = (sg D n).mem a q) := by
  rw [sg_w h]
  have w := wri_mem (D := D) (k := n % D.cnt) (i := n / D.cnt) (v := RVn D n) (s := tkk D (n % D.cnt) (sg D n)) ha hq
  rw [tkk_p.2.1] at w
  exact w
theorem sg_out {D : Dat} {n : Int} (h : 0 ≤ n) : (D.F (n % D.cnt) 0 = 6 → (sg D (n + 1)).outs = (sg D n).outs + 1 ∧ ∀ x, (sg D (n + 1)).out x = if x = (sg D n).outs then RVn D n else (sg D n).out x) ∧ (D.F (n % D.cnt) 0 ≠ 6 → (sg D (n + 1)).outs = (sg D n).outs ∧ (sg D (n + 1)).out = (sg D n).out) := by
  rw [sg_w h]
  have w := wri_out (D := D) (k := n % D.cnt) (i := n / D.cnt) (v := RVn D n) (s := tkk D (n % D.cnt) (sg D n))
  rw [tkk_p.2.2.1, tkk_p.2.2.2] at w
  exact w
/-- takes: places 2n and 2n+1 are the two operands of statement n -/
def TK (D : Dat) (P : Int) : Int := if P % 2 = 0 then (sg D (P / 2)).tak else (tkS D (P / 2 % D.cnt) 1 (sg D (P / 2))).tak
def isTk (D : Dat) (P : Int) : Prop := if P % 2 = 0 then D.F (P / 2 % D.cnt) 1 = 5 else D.O (P / 2 % D.cnt) ≠ 32 ∧ D.F (P / 2 % D.cnt) 2 = 5
theorem TK_s {D : Dat} {P : Int} (h : 0 ≤ P) : (isTk D P → TK D (P + 1) = TK D P + 1) ∧ (¬ isTk D P → TK D (P + 1) = TK D P) := by
  unfold TK isTk
  by_cases e : P % 2 = 0
  · rw [if_pos e, if_pos e, if_neg (by omega), show (P + 1) / 2 = P / 2 by omega, tkS_p.2.2.2.2]
    exact ⟨fun z => by rw [if_pos z], fun z => by rw [if_neg z]; omega⟩
  · rw [if_neg e, if_neg e, if_pos (show (P + 1) % 2 = 0 by omega), show (P + 1) / 2 = P / 2 + 1 by omega, sg_w (by omega), wri_tak]
    unfold tkk
    by_cases o : D.O (P / 2 % D.cnt) = 32
    · rw [if_pos o]
      exact ⟨fun z => absurd o z.1, fun _ => rfl⟩
    · rw [if_neg o, (tkS_p (p := 2)).2.2.2.2]
      exact ⟨fun z => by rw [if_pos z.2], fun z => by rw [if_neg (fun w => z ⟨o, w⟩)]; omega⟩

/-! ===== the circuit: what holds while it goes on ===== -/
def inR (D : Dat) (v τ : Int) : Prop := (0 ≤ v ∧ v < nn D) ∧ (0 ≤ τ ∧ τ < BTu D)
def NS (D : Dat) : Int := D.tur * D.cnt
/-- what a node has to give -/
def RVu (D : Dat) (v τ : Int) : Int :=
  if (nd D v).2 = 0 then valS D (kv D v) 1 (iv D v τ) (sg D (Iv D v τ))
  else if (nd D v).2 = 1 then valS D (kv D v) 2 (iv D v τ) (tkS D (kv D v) 1 (sg D (Iv D v τ)))
  else RVn D (Iv D v τ)
def tpos (D : Dat) (u τ : Int) : Int := 2 * Iv D u τ + if (nd D u).2 = 1 then 1 else 0
def Sim (D : Dat) (F B : Int → Int → Prop) (s : St) (val : Int → Int → Int) : Prop := (StOk D s) ∧ (∀ v τ, inR D v τ → B v τ → val v τ = RVu D v τ) ∧ (∀ r m, 0 ≤ r → r < 8 → 0 ≤ m → m ≤ NS D → (∀ v τ, inR D v τ → mkv D v = r → (Iv D v τ < m ↔ F v τ)) → s.reg r = (sg D m).reg r) ∧ (∀ a q m, 0 ≤ a → a < 2 → 0 ≤ q → q < 16 → 0 ≤ m → m ≤ NS D → (∀ v τ, inR D v τ → wrv D v → kdv D v = a + 3 → PLv D v τ = q → (Iv D v τ < m ↔ F v τ)) → s.mem a q = (sg D m).mem a q) ∧ (∀ m, 0 ≤ m → m ≤ NS D → (∀ v τ, inR D v τ → kdv D v = 6 → (Iv D v τ < m ↔ F v τ)) → s.outs = (sg D m).outs ∧ ∀ k, 0 ≤ k → k < s.outs → s.out k = (sg D m).out k) ∧ (∀ P, 0 ≤ P → P ≤ 2 * NS D → (∀ u τ, inR D u τ → kdv D u = 5 → (tpos D u τ < P ↔ B u τ)) → s.tak = TK D P) ∧ (s.tak ≤ 1000)
theorem Sim.ok {D : Dat} {F B : Int → Int → Prop} {s : St} {val : Int → Int → Int} (h0 : Sim D F B s val) : StOk D s := h0.1
theorem Sim.v {D : Dat} {F B : Int → Int → Prop} {s : St} {val : Int → Int → Int} (h0 : Sim D F B s val) : ∀ v τ, inR D v τ → B v τ → val v τ = RVu D v τ := h0.2.1
theorem Sim.r {D : Dat} {F B : Int → Int → Prop} {s : St} {val : Int → Int → Int} (h0 : Sim D F B s val) : ∀ r m, 0 ≤ r → r < 8 → 0 ≤ m → m ≤ NS D → (∀ v τ, inR D v τ → mkv D v = r → (Iv D v τ < m ↔ F v τ)) → s.reg r = (sg D m).reg r := h0.2.2.1
theorem Sim.m {D : Dat} {F B : Int → Int → Prop} {s : St} {val : Int → Int → Int} (h0 : Sim D F B s val) : ∀ a q m, 0 ≤ a → a < 2 → 0 ≤ q → q < 16 → 0 ≤ m → m ≤ NS D → (∀ v τ, inR D v τ → wrv D v → kdv D v = a + 3 → PLv D v τ = q → (Iv D v τ < m ↔ F v τ)) → s.mem a q = (sg D m).mem a q := h0.2.2.2.1
theorem Sim.o {D : Dat} {F B : Int → Int → Prop} {s : St} {val : Int → Int → Int} (h0 : Sim D F B s val) : ∀ m, 0 ≤ m → m ≤ NS D → (∀ v τ, inR D v τ → kdv D v = 6 → (Iv D v τ < m ↔ F v τ)) → s.outs = (sg D m).outs ∧ ∀ k, 0 ≤ k → k < s.outs → s.out k = (sg D m).out k := h0.2.2.2.2.1
theorem Sim.t {D : Dat} {F B : Int → Int → Prop} {s : St} {val : Int → Int → Int} (h0 : Sim D F B s val) : ∀ P, 0 ≤ P → P ≤ 2 * NS D → (∀ u τ, inR D u τ → kdv D u = 5 → (tpos D u τ < P ↔ B u τ)) → s.tak = TK D P := h0.2.2.2.2.2.1
theorem Sim.tb {D : Dat} {F B : Int → Int → Prop} {s : St} {val : Int → Int → Int} (h0 : Sim D F B s val) : s.tak ≤ 1000 := h0.2.2.2.2.2.2
theorem Sim.mk {D : Dat} {F B : Int → Int → Prop} {s : St} {val : Int → Int → Int} (h0 : StOk D s) (h1 : ∀ v τ, inR D v τ → B v τ → val v τ = RVu D v τ) (h2 : ∀ r m, 0 ≤ r → r < 8 → 0 ≤ m → m ≤ NS D → (∀ v τ, inR D v τ → mkv D v = r → (Iv D v τ < m ↔ F v τ)) → s.reg r = (sg D m).reg r) (h3 : ∀ a q m, 0 ≤ a → a < 2 → 0 ≤ q → q < 16 → 0 ≤ m → m ≤ NS D → (∀ v τ, inR D v τ → wrv D v → kdv D v = a + 3 → PLv D v τ = q → (Iv D v τ < m ↔ F v τ)) → s.mem a q = (sg D m).mem a q) (h4 : ∀ m, 0 ≤ m → m ≤ NS D → (∀ v τ, inR D v τ → kdv D v = 6 → (Iv D v τ < m ↔ F v τ)) → s.outs = (sg D m).outs ∧ ∀ k, 0 ≤ k → k < s.outs → s.out k = (sg D m).out k) (h5 : ∀ P, 0 ≤ P → P ≤ 2 * NS D → (∀ u τ, inR D u τ → kdv D u = 5 → (tpos D u τ < P ↔ B u τ)) → s.tak = TK D P) (h6 : s.tak ≤ 1000) : Sim D F B s val := ⟨h0, h1, h2, h3, h4, h5, h6⟩
theorem Sim.congr {D : Dat} {F B F' B' : Int → Int → Prop} {s : St} {val : Int → Int → Int} (S : Sim D F B s val) (hF : ∀ v τ, inR D v τ → (F v τ ↔ F' v τ)) (hB : ∀ v τ, inR D v τ → (B v τ ↔ B' v τ)) : Sim D F' B' s val :=
  ⟨S.ok, fun v τ i b => S.v v τ i ((hB v τ i).2 b), fun r m a b c d e => S.r r m a b c d (fun v τ i k => (e v τ i k).trans (hF v τ i).symm),
   fun a q m x1 x2 x3 x4 x5 x6 e => S.m a q m x1 x2 x3 x4 x5 x6 (fun v τ i k1 k2 k3 => (e v τ i k1 k2 k3).trans (hF v τ i).symm),
   fun m a b e => S.o m a b (fun v τ i k => (e v τ i k).trans (hF v τ i).symm),
   fun P a b e => S.t P a b (fun v τ i k => (e v τ i k).trans (hB v τ i).symm), S.tb⟩
theorem NS_b {D : Dat} (ok : DOk D) : 0 ≤ NS D ∧ NS D ≤ 192 ∧ BTu D * SS D = NS D := by
  have b := BT_b ok
  have h := body_le ok
  refine ⟨h.1, h.2, ?_⟩
  unfold SS NS
  rw [← b.2.2, Int.mul_assoc, Int.mul_comm D.cnt]
theorem role_ex {D : Dat} {s q : Int} (hs : 0 ≤ s ∧ s < SS D) (hq : q ∈ rls D (s % D.cnt)) : ∃ v, 0 ≤ v ∧ v < nn D ∧ nd D v = (s, q) := by
  obtain ⟨j, hj⟩ := List.mem_iff_getElem?.1 hq
  obtain ⟨a, b, c⟩ := seg_at hs hj
  exact ⟨_, b, c, a⟩
/-- where a statement's turn stands -/
theorem n_at {D : Dat} (ok : DOk D) {n : Int} (h : 0 ≤ n ∧ n < NS D) : ∃ τ s, 0 ≤ τ ∧ τ < BTu D ∧ 0 ≤ s ∧ s < SS D ∧ n = τ * SS D + s ∧ s % D.cnt = n % D.cnt := by
  have b := NS_b ok
  have bt := BT_b ok
  have s0 := SS_b ok
  have sp : 0 < SS D := by
    apply Classical.byContradiction
    intro c
    have : SS D = 0 := by omega
    rw [this, Int.mul_zero] at b
    omega
  have e := Int.mul_ediv_add_emod n (SS D)
  have m0 := Int.emod_nonneg n (show SS D ≠ 0 by omega)
  have m1 := Int.emod_lt_of_pos n sp
  refine ⟨n / SS D, n % SS D, Int.ediv_nonneg h.1 (by omega), Int.ediv_lt_of_lt_mul sp (by omega), m0, m1, by rw [Int.mul_comm]; omega, ?_⟩
  have d : D.cnt ∣ SS D := ⟨D.fac, rfl⟩
  exact Int.emod_emod_of_dvd n d
theorem st_node {D : Dat} (ok : DOk D) {n : Int} (h : 0 ≤ n ∧ n < NS D) : ∃ v τ, inR D v τ ∧ Lst D v ∧ Iv D v τ = n := by
  obtain ⟨τ, s, a, b, c, d, e, f⟩ := n_at ok h
  obtain ⟨v, v0, v1, v2, v3⟩ := lst_ex ok ⟨c, d⟩
  exact ⟨v, τ, ⟨⟨v0, v1⟩, a, b⟩, v3, by unfold Iv; rw [v2]; exact e.symm⟩
theorem rd_node {D : Dat} (ok : DOk D) {n q : Int} (h : 0 ≤ n ∧ n < NS D) (hq : q ∈ rls D (n % D.cnt)) : ∃ v τ, inR D v τ ∧ (nd D v).2 = q ∧ Iv D v τ = n := by
  obtain ⟨τ, s, a, b, c, d, e, f⟩ := n_at ok h
  obtain ⟨v, v0, v1, v2⟩ := role_ex (D := D) ⟨c, d⟩ (by rw [f]; exact hq)
  exact ⟨v, τ, ⟨⟨v0, v1⟩, a, b⟩, by rw [v2], by unfold Iv sv'; rw [v2]; exact e.symm⟩
theorem kd6 {D : Dat} (ok : DOk D) {v : Int} (h : 0 ≤ v ∧ v < nn D) (e : kdv D v = 6) : (nd D v).2 = 3 ∧ D.F (kv D v) 0 = 6 := by
  obtain ⟨h1, h2, h3, h4, h5⟩ := nd_ok ok h
  have so := ok.st _ h3 h4
  have f1 := so.f1
  have f2 := so.f2
  have o := opk_r (D.O (stK D (nd D v)))
  unfold kdv kdN at e
  unfold kv
  rcases rls_mem h5 with q | q | q | q | q
  · rw [if_pos q.1] at e; omega
  · rw [if_neg (by omega), if_pos q.1] at e; omega
  · rw [if_neg (by omega), if_neg (by omega), if_pos q.1] at e; omega
  · rw [if_neg (by omega), if_neg (by omega), if_neg (by omega), if_pos q.1] at e; exact ⟨q.1, e⟩
  · rw [if_neg (by omega), if_neg (by omega), if_neg (by omega), if_neg (by omega)] at e; omega
theorem kd5 {D : Dat} (ok : DOk D) {v : Int} (h : 0 ≤ v ∧ v < nn D) (e : kdv D v = 5) : ((nd D v).2 = 0 ∧ D.F (kv D v) 1 = 5) ∨ ((nd D v).2 = 1 ∧ D.O (kv D v) ≠ 32 ∧ D.F (kv D v) 2 = 5) := by
  obtain ⟨h1, h2, h3, h4, h5⟩ := nd_ok ok h
  have so := ok.st _ h3 h4
  have f0 := so.f0
  have o := opk_r (D.O (stK D (nd D v)))
  unfold kdv kdN at e
  unfold kv
  rcases rls_mem h5 with q | q | q | q | q
  · rw [if_pos q.1] at e; exact .inl ⟨q.1, e⟩
  · rw [if_neg (by omega), if_pos q.1] at e; exact .inr ⟨q.1, q.2.1, e⟩
  · rw [if_neg (by omega), if_neg (by omega), if_pos q.1] at e; omega
  · rw [if_neg (by omega), if_neg (by omega), if_neg (by omega), if_pos q.1] at e; omega
  · rw [if_neg (by omega), if_neg (by omega), if_neg (by omega), if_neg (by omega)] at e; omega
theorem wr_lst {D : Dat} (ok : DOk D) {v : Int} (h : 0 ≤ v ∧ v < nn D) (e : (nd D v).2 = 3) : Lst D v := (lst_mk ok h).2 (.inl e)
theorem lst3 {D : Dat} {v : Int} (l : Lst D v) (f : D.F (kv D v) 0 ≠ 0) : (nd D v).2 = 3 ∧ kdv D v = D.F (kv D v) 0 := by
  unfold Lst lrl at l
  rw [if_pos f] at l
  refine ⟨l, ?_⟩
  unfold kdv kdN kv
  rw [if_neg (by omega), if_neg (by omega), if_neg (by omega), if_pos l]
theorem wr_kd {D : Dat} {v : Int} (l : (nd D v).2 = 3) : kdv D v = D.F (kv D v) 0 := by
  unfold kdv kdN kv
  rw [if_neg (by omega), if_neg (by omega), if_neg (by omega), if_pos l]
theorem lst_reg {D : Dat} (ok : DOk D) {v : Int} (h : 0 ≤ v ∧ v < nn D) (l : Lst D v) (f : D.F (kv D v) 0 = 0) : mkv D v = D.N (kv D v) 0 := by
  have n3 : (nd D v).2 ≠ 3 := by
    intro z
    obtain ⟨h1, h2, h3, h4, h5⟩ := nd_ok ok h
    rcases rls_mem h5 with q | q | q | q | q
    · omega
    · omega
    · omega
    · exact q.2 f
    · omega
  have m := (lst_mk ok h).1 l
  rcases m with m | m
  · exact absurd m n3
  · unfold mkv mkN at m ⊢
    split at m
    · rename_i c; rw [if_pos c]; rfl
    · exact absurd rfl m
theorem mk_reg {D : Dat} {v r : Int} (h : mkv D v = r) (hr : 0 ≤ r) : D.F (kv D v) 0 = 0 ∧ D.N (kv D v) 0 = r := by
  unfold mkv mkN at h
  split at h
  · rename_i c; exact ⟨c.1, h⟩
  · omega
theorem mk_lst {D : Dat} (ok : DOk D) {v r : Int} (hv : 0 ≤ v ∧ v < nn D) (h : mkv D v = r) (hr : 0 ≤ r) : Lst D v := (lst_mk ok hv).2 (.inr (by omega))
theorem RV_lst {D : Dat} (ok : DOk D) {v τ : Int} (h : 0 ≤ v ∧ v < nn D) (l : Lst D v) : RVu D v τ = RVn D (Iv D v τ) := by
  have k := Iv_k ok (τ := τ) h
  unfold RVu
  by_cases q0 : (nd D v).2 = 0
  · rw [if_pos q0]
    unfold RVn
    rw [k.1, k.2]
    have : D.O (kv D v) = 32 := by
      rcases (lst_mk ok h).1 l with z | z
      · omega
      · unfold mkv mkN at z
        split at z
        · rename_i c
          rcases c.2 with w | w | w
          · omega
          · omega
          · exact w.2
        · exact absurd rfl z
    rw [if_pos this]
  · rw [if_neg q0]
    by_cases q1 : (nd D v).2 = 1
    · exfalso
      unfold Lst lrl at l
      rw [q1] at l
      split at l
      · omega
      split at l
      · omega
      split at l <;> omega
    · rw [if_neg q1]
theorem sg_ok {D : Dat} (ok : DOk D) (n : Int) (hc : 0 < D.cnt) : StOk D (sg D n) := run_ok ok _ hc
theorem RVn_cut {D : Dat} (ok : DOk D) {n : Int} (hc : 0 < D.cnt) : isCut D (RVn D n) := by
  have hk : 0 ≤ n % D.cnt ∧ n % D.cnt < D.cnt := ⟨Int.emod_nonneg _ (by omega), Int.emod_lt_of_pos _ hc⟩
  unfold RVn
  split
  · exact val_cut ok hk (by decide) (sg_ok ok n hc)
  · exact isCut_cut ok _
theorem PL_plc {D : Dat} (ok : DOk D) {v τ : Int} (h : 0 ≤ v ∧ v < nn D) (hm : isMem D v) : PLv D v τ = plc (D.T (kv D v) (plN (nd D v))) (D.N (kv D v) (plN (nd D v))) (iv D v τ) := by
  have ro := mem_role ok h hm
  have tn := mem_tn ok h hm
  have c : (nd D v).2 = 0 ∨ (nd D v).2 = 1 ∨ (nd D v).2 = 3 := ro
  unfold PLv fpN
  unfold tnN at tn ⊢
  rw [if_pos c] at tn ⊢
  rw [if_pos c]
  unfold plc iv kv sv'
  generalize D.T (stK D (nd D v)) (plN (nd D v)) = a at *
  rcases tn with t | t
  · rw [t]; simp
  · rw [t]; simp; omega

/-! ===== the circuit: a node is over ===== -/
theorem Iv_n {D : Dat} (ok : DOk D) {v τ : Int} (h : inR D v τ) : 0 ≤ Iv D v τ ∧ Iv D v τ < NS D := Iv_r ok h.1 h.2
theorem wrl_mem {D : Dat} (ok : DOk D) {v τ a q : Int} (h : inR D v τ) (l : Lst D v) (ha : 0 ≤ a ∧ a < 2) (w : wMem D (kv D v) (iv D v τ) a q) : wrv D v ∧ kdv D v = a + 3 ∧ PLv D v τ = q := by
  have z := lst3 l (by have := w.1; omega)
  have k : kdv D v = a + 3 := by rw [z.2, w.1]
  refine ⟨z.1, k, ?_⟩
  rw [PL_plc ok h.1 (by unfold isMem; omega)]
  unfold plN
  rw [if_neg (by omega), if_neg (by omega)]
  exact w.2
theorem mem_wr' {D : Dat} (ok : DOk D) {v τ a q : Int} (h : inR D v τ) (ha : 0 ≤ a ∧ a < 2) (w : wrv D v) (k : kdv D v = a + 3) (e : PLv D v τ = q) : wMem D (kv D v) (iv D v τ) a q := by
  have w3 : (nd D v).2 = 3 := w
  refine ⟨by rw [← wr_kd w3]; exact k, ?_⟩
  rw [PL_plc ok h.1 (by unfold isMem; omega)] at e
  unfold plN at e
  rw [if_neg (by omega), if_neg (by omega)] at e
  exact e
theorem Sim.fin {D : Dat} (ok : DOk D) {T : Int} {p : Int → Int} (h : AE D T p) {F B : Int → Int → Prop} {s : St} {val : Int → Int → Int} (S : Sim D F B s val) {x τ : Int} (hx : inR D x τ) (lst : Lst D x) (bx : B x τ) (nf : ¬ F x τ) (f1 : ∀ v t, inR D v t → F v t → Et D T p v t ≤ Et D T p x τ) (f2 : ∀ v t, inR D v t → Et D T p v t < Et D T p x τ → F v t) : Sim D (fun v t => F v t ∨ (v = x ∧ t = τ)) B (wriS D (kv D x) (iv D x τ) (val x τ) s) val := by
  have ik := Iv_k ok (τ := τ) hx.1
  have inn := Iv_n ok hx
  have sr := sv_r ok hx.1
  have hv : val x τ = RVn D (Iv D x τ) := by rw [S.v x τ hx bx, RV_lst ok hx.1 lst]
  have hcut : isCut D (val x τ) := by rw [hv]; exact RVn_cut ok (by omega)
  have late : ∀ v t, inR D v t → (F v t ∨ (v = x ∧ t = τ)) → Iv D x τ < Iv D v t → lx τ x t v ∧ Et D T p v t ≤ Et D T p x τ := by
    intro v t iv' f l
    refine ⟨Iv_lx ok hx.1 iv'.1 l, ?_⟩
    rcases f with f | ⟨rfl, rfl⟩
    · exact f1 v t iv' f
    · omega
  refine ⟨wri_ok S.ok hcut, S.v, ?_, ?_, ?_, fun P a b e => by rw [wri_tak]; exact S.t P a b e, by rw [wri_tak]; exact S.tb⟩
  · intro r m r0 r8 m0 m1 e
    rw [wri_reg]
    by_cases c : D.F (kv D x) 0 = 0 ∧ r = D.N (kv D x) 0
    · rw [if_pos c, hv]
      have mk : mkv D x = r := by rw [lst_reg ok hx.1 lst c.1]; exact c.2.symm
      have nm := (e x τ hx mk).2 (.inr ⟨rfl, rfl⟩)
      rw [const_to (f := fun n => (sg D n).reg r) (W := fun n => D.F (n % D.cnt) 0 = 0 ∧ r = D.N (n % D.cnt) 0) (fun n n0 w => by rw [sg_reg n0, if_neg w]) (a := Iv D x τ + 1) (b := m) (by omega) (by omega) (fun n n0 n1 w => ?_)]
      · rw [sg_reg inn.1, ik.1, if_pos c]
      · obtain ⟨v, t, i, l, en⟩ := st_node ok (n := n) ⟨by omega, by omega⟩
        have ev := (Iv_k ok (τ := t) i.1).1
        rw [en] at ev
        rw [ev] at w
        have mkv' : mkv D v = r := by rw [lst_reg ok i.1 l w.1]; exact w.2.symm
        obtain ⟨lxx, le⟩ := late v t i ((e v t i mkv').1 (by omega)) (by omega)
        have := maker_lx h ⟨r0, r8⟩ x v τ t hx.1.1 hx.1.2 i.1.1 i.1.2 mk mkv' lxx
        omega
    · rw [if_neg c]
      refine S.r r m r0 r8 m0 m1 (fun v t i k => (e v t i k).trans ⟨fun z => ?_, .inl⟩)
      rcases z with z | ⟨rfl, rfl⟩
      · exact z
      · have := mk_reg k r0
        exact absurd ⟨this.1, this.2.symm⟩ c
  · intro a q m a0 a1 q0 q1 m0 m1 e
    have w := wri_mem (D := D) (k := kv D x) (i := iv D x τ) (v := val x τ) (s := s) ⟨a0, a1⟩ ⟨q0, q1⟩
    by_cases c : wMem D (kv D x) (iv D x τ) a q
    · rw [w.1 c, hv]
      obtain ⟨wx, kx, px⟩ := wrl_mem ok hx lst ⟨a0, a1⟩ c
      have nm := (e x τ hx wx kx px).2 (.inr ⟨rfl, rfl⟩)
      rw [const_to (f := fun n => (sg D n).mem a q) (W := fun n => wMem D (n % D.cnt) (n / D.cnt) a q) (fun n n0 w => (sg_mem n0 ⟨a0, a1⟩ ⟨q0, q1⟩).2 w) (a := Iv D x τ + 1) (b := m) (by omega) (by omega) (fun n n0 n1 w => ?_)]
      · exact ((sg_mem inn.1 ⟨a0, a1⟩ ⟨q0, q1⟩).1 (by rw [ik.1, ik.2]; exact c)).symm
      · obtain ⟨v, t, i, l, en⟩ := st_node ok (n := n) ⟨by omega, by omega⟩
        have ev := Iv_k ok (τ := t) i.1
        rw [en] at ev
        rw [ev.1, ev.2] at w
        obtain ⟨wv, kv', pv⟩ := wrl_mem ok i l ⟨a0, a1⟩ w
        obtain ⟨lxx, le⟩ := late v t i ((e v t i wv kv' pv).1 (by omega)) (by omega)
        have := mem_ww ok h hx.1 i.1 (by unfold isMem; omega) (by rw [kx, kv']) wx wv (by rw [px, pv]) lxx
        omega
    · rw [w.2 c]
      refine S.m a q m a0 a1 q0 q1 m0 m1 (fun v t i k1 k2 k3 => (e v t i k1 k2 k3).trans ⟨fun z => ?_, .inl⟩)
      rcases z with z | ⟨rfl, rfl⟩
      · exact z
      · exact absurd (mem_wr' ok hx ⟨a0, a1⟩ k1 k2 k3) c
  · intro m m0 m1 e
    have w := wri_out (D := D) (k := kv D x) (i := iv D x τ) (v := val x τ) (s := s)
    by_cases c : D.F (kv D x) 0 = 6
    · have x3 := lst3 lst (by omega)
      have kx : kdv D x = 6 := by rw [x3.2, c]
      have nm := (e x τ hx kx).2 (.inr ⟨rfl, rfl⟩)
      have s0 := S.o (Iv D x τ) inn.1 (by omega) (fun v t i k => ⟨fun z => ?_, fun z => ?_⟩)
      · have hc : ((sg D m).outs, (sg D m).out) = ((sg D (Iv D x τ + 1)).outs, (sg D (Iv D x τ + 1)).out) := const_to (f := fun n => ((sg D n).outs, (sg D n).out)) (W := fun n => D.F (n % D.cnt) 0 = 6) (fun n n0 w => by
            have := (sg_out n0).2 w
            show ((sg D (n + 1)).outs, (sg D (n + 1)).out) = ((sg D n).outs, (sg D n).out)
            rw [this.1, this.2]) (by omega) (by omega) (fun n n0 n1 w => by
            obtain ⟨v, t, i, l, en⟩ := st_node ok (n := n) ⟨by omega, by omega⟩
            have ev := (Iv_k ok (τ := t) i.1).1
            rw [en] at ev
            rw [ev] at w
            have kv' : kdv D v = 6 := by rw [(lst3 l (by omega)).2, w]
            obtain ⟨lxx, le⟩ := late v t i ((e v t i kv').1 (by omega)) (by omega)
            have := chan_ex h (c := 6) (by decide) hx.1 i.1 kx kv' lxx
            omega)
        obtain ⟨c1, c2⟩ := Prod.mk.inj hc
        have so := (sg_out inn.1).1 (by rw [ik.1]; exact c)
        rw [c1, c2, (w.1 c).1, so.1, s0.1]
        refine ⟨rfl, fun k a b => ?_⟩
        rw [(w.1 c).2, so.2, hv, s0.1]
        by_cases z : k = (sg D (Iv D x τ)).outs
        · rw [if_pos z, if_pos z]
        · rw [if_neg z, if_neg z]
          exact s0.2 k a (by rw [s0.1]; omega)
      · exact f2 v t i (chan_ex h (c := 6) (by decide) i.1 hx.1 k kx (Iv_lx ok i.1 hx.1 z))
      · apply Classical.byContradiction
        intro w2
        have le := f1 v t i z
        by_cases eq : Iv D v t = Iv D x τ
        · obtain ⟨e1, e2⟩ := Iv_inj ok i.1 hx.1 eq
          have := lst_uniq ok i.1 hx.1 e2 (wr_lst ok i.1 (kd6 ok i.1 k).1) lst
          rw [e1, this] at z
          exact nf z
        · have := chan_ex h (c := 6) (by decide) hx.1 i.1 kx k (Iv_lx ok (τ := τ) (τ' := t) hx.1 i.1 (by omega))
          omega
    · rw [(w.2 c).1, (w.2 c).2]
      refine S.o m m0 m1 (fun v t i k => (e v t i k).trans ⟨fun z => ?_, .inl⟩)
      rcases z with z | ⟨rfl, rfl⟩
      · exact z
      · exact absurd (kd6 ok hx.1 k).2 c

/-! ===== the circuit: a node begins ===== -/
theorem role_first {D : Dat} (ok : DOk D) {u : Int} (hu : 0 ≤ u ∧ u < nn D) (q : (nd D u).2 = 0) : u = bs D (sv' D u) := by
  obtain ⟨j, a, b, c, d⟩ := seg_of ok hu
  rw [q] at b
  have r := rls_mem (List.mem_of_getElem? b)
  have r1 : isRd (D.F (stK D (nd D u)) 1) := by
    rcases r with r | r | r | r | r
    · exact r.2
    all_goals omega
  have e : (rls D (stK D (nd D u)))[0]? = some 0 := by unfold rls; rw [if_pos r1]; rfl
  have h2 : (rls D (stK D (nd D u)))[j]? = (rls D (stK D (nd D u)))[0]? := by rw [b, e]
  have := (List.getElem?_inj (get_lt b) (rls_nodup (D := D) (k := stK D (nd D u)))).1 h2
  have a' : u = bs D (sv' D u) + j := a
  omega
theorem role01 {D : Dat} (ok : DOk D) {u v : Int} (hu : 0 ≤ u ∧ u < nn D) (hv : 0 ≤ v ∧ v < nn D) (e : sv' D u = sv' D v) (qu : (nd D u).2 = 0) (qv : (nd D v).2 = 1) : u < v := by
  have a := role_first ok hu qu
  have b := v_seg ok hv
  rw [← e, ← a] at b
  by_cases z : u = v
  · rw [z] at qu; omega
  · omega
theorem tp_lx {D : Dat} (ok : DOk D) {u v t τ : Int} (hu : inR D u t) (hv : inR D v τ) (ku : kdv D u = 5) (kv' : kdv D v = 5) : tpos D u t < tpos D v τ ↔ lx t u τ v := by
  have ru := kd5 ok hu.1 ku
  have rv := kd5 ok hv.1 kv'
  unfold tpos
  constructor
  · intro z
    by_cases c : Iv D u t < Iv D v τ
    · exact Iv_lx ok hu.1 hv.1 c
    · have e : Iv D u t = Iv D v τ := by split at z <;> split at z <;> omega
      obtain ⟨e1, e2⟩ := Iv_inj ok hu.1 hv.1 e
      refine .inr ⟨e1, role01 ok hu.1 hv.1 e2 ?_ ?_⟩ <;> (split at z <;> split at z <;> omega)
  · intro z
    have l := lx_Iv ok hu.1 hv.1 z
    by_cases c : Iv D u t = Iv D v τ
    · obtain ⟨e1, e2⟩ := Iv_inj ok hu.1 hv.1 c
      have uv : u < v := by rcases z with z | z <;> omega
      rcases ru with ⟨a, _⟩ | ⟨a, _⟩ <;> rcases rv with ⟨b, _⟩ | ⟨b, _⟩
      · have := nd_inj hu.1 hv.1 (Prod.ext e2 (by rw [a, b])); omega
      · rw [if_neg (by omega), if_pos b]; omega
      · have := role01 ok hv.1 hu.1 e2.symm b a; omega
      · have := nd_inj hu.1 hv.1 (Prod.ext e2 (by rw [a, b])); omega
    · split <;> split <;> omega
theorem tp_inj {D : Dat} (ok : DOk D) {u v t τ : Int} (hu : inR D u t) (hv : inR D v τ) (ku : kdv D u = 5) (kv' : kdv D v = 5) (h : ¬ lx t u τ v) (h' : ¬ lx τ v t u) : u = v ∧ t = τ := by
  unfold lx at h h'
  omega
theorem isTk_node {D : Dat} (ok : DOk D) {P : Int} (h : 0 ≤ P ∧ P < 2 * NS D) (k : isTk D P) : ∃ u t, inR D u t ∧ kdv D u = 5 ∧ tpos D u t = P := by
  have hn : 0 ≤ P / 2 ∧ P / 2 < NS D := by omega
  unfold isTk at k
  by_cases e : P % 2 = 0
  · rw [if_pos e] at k
    have m : (0 : Int) ∈ rls D (P / 2 % D.cnt) := by
      unfold rls
      rw [if_pos (show isRd (D.F (P / 2 % D.cnt) 1) by omega)]
      exact List.mem_append_left _ (List.mem_singleton.2 rfl)
    obtain ⟨v, τ, a, b, c⟩ := rd_node ok hn m
    have ek := (Iv_k ok (τ := τ) a.1).1
    rw [c] at ek
    refine ⟨v, τ, a, ?_, ?_⟩
    · unfold kdv kdN
      rw [if_pos b]
      show D.F (kv D v) 1 = 5
      rw [← ek]; exact k
    · unfold tpos
      rw [c, if_neg (by omega)]; omega
  · rw [if_neg e] at k
    have m : (1 : Int) ∈ rls D (P / 2 % D.cnt) := by
      unfold rls
      rw [if_neg k.1, if_pos (show isRd (D.F (P / 2 % D.cnt) 2) by omega)]
      exact List.mem_append_right _ (List.mem_append_left _ (List.mem_append_left _ (List.mem_singleton.2 rfl)))
    obtain ⟨v, τ, a, b, c⟩ := rd_node ok hn m
    have ek := (Iv_k ok (τ := τ) a.1).1
    rw [c] at ek
    refine ⟨v, τ, a, ?_, ?_⟩
    · unfold kdv kdN
      rw [if_neg (by omega), if_pos b]
      show D.F (kv D v) 2 = 5
      rw [← ek]; exact k.2
    · unfold tpos
      rw [c, if_pos b]; omega
theorem node_isTk {D : Dat} (ok : DOk D) {u t : Int} (h : inR D u t) (k : kdv D u = 5) : isTk D (tpos D u t) ∧ 0 ≤ tpos D u t ∧ tpos D u t < 2 * NS D := by
  have i := Iv_n ok h
  have ek := (Iv_k ok (τ := t) h.1).1
  unfold isTk tpos
  rcases kd5 ok h.1 k with ⟨a, b⟩ | ⟨a, b, c⟩
  · rw [if_neg (show ¬ (nd D u).2 = 1 by omega), if_pos (by omega), show (2 * Iv D u t + 0) / 2 = Iv D u t by omega, ek]
    exact ⟨b, by omega, by omega⟩
  · rw [if_pos a, if_neg (by omega), show (2 * Iv D u t + 1) / 2 = Iv D u t by omega, ek]
    exact ⟨⟨b, c⟩, by omega, by omega⟩
/-- the time at which a node begins -/
def Now (D : Dat) (T : Int) (p : Int → Int) (F B : Int → Int → Prop) (x τ : Int) : Prop := (∀ v t, inR D v t → (F v t ↔ Et D T p v t ≤ Bt T p x τ)) ∧ (∀ v t, inR D v t → B v t → Bt T p v t ≤ Bt T p x τ) ∧ (∀ v t, inR D v t → Bt T p v t < Bt T p x τ → B v t) ∧ (¬ B x τ)
theorem Now.f {D : Dat} {T : Int} {p : Int → Int} {F B : Int → Int → Prop} {x τ : Int} (h0 : Now D T p F B x τ) : ∀ v t, inR D v t → (F v t ↔ Et D T p v t ≤ Bt T p x τ) := h0.1
theorem Now.b1 {D : Dat} {T : Int} {p : Int → Int} {F B : Int → Int → Prop} {x τ : Int} (h0 : Now D T p F B x τ) : ∀ v t, inR D v t → B v t → Bt T p v t ≤ Bt T p x τ := h0.2.1
theorem Now.b2 {D : Dat} {T : Int} {p : Int → Int} {F B : Int → Int → Prop} {x τ : Int} (h0 : Now D T p F B x τ) : ∀ v t, inR D v t → Bt T p v t < Bt T p x τ → B v t := h0.2.2.1
theorem Now.n {D : Dat} {T : Int} {p : Int → Int} {F B : Int → Int → Prop} {x τ : Int} (h0 : Now D T p F B x τ) : ¬ B x τ := h0.2.2.2
theorem Now.mk {D : Dat} {T : Int} {p : Int → Int} {F B : Int → Int → Prop} {x τ : Int} (h0 : ∀ v t, inR D v t → (F v t ↔ Et D T p v t ≤ Bt T p x τ)) (h1 : ∀ v t, inR D v t → B v t → Bt T p v t ≤ Bt T p x τ) (h2 : ∀ v t, inR D v t → Bt T p v t < Bt T p x τ → B v t) (h3 : ¬ B x τ) : Now D T p F B x τ := ⟨h0, h1, h2, h3⟩
theorem Sim.reg {D : Dat} (ok : DOk D) {T : Int} {p : Int → Int} (h : AE D T p) {F B : Int → Int → Prop} {s : St} {val : Int → Int → Int} (S : Sim D F B s val) {x τ : Int} (hx : inR D x τ) (N : Now D T p F B x τ) {r : Int} (hr : 0 ≤ r ∧ r < 8) (us : usv D x r) : s.reg r = (sg D (Iv D x τ)).reg r := by
  have inn := Iv_n ok hx
  refine S.r r _ hr.1 hr.2 inn.1 (by omega) (fun v t i k => ?_)
  rw [N.f v t i]
  constructor
  · intro z
    exact maker_use h hr i.1 hx.1 k us (Iv_lx ok i.1 hx.1 z)
  · intro z
    apply Classical.byContradiction
    intro w
    have : Bt T p x τ < Et D T p v t := by
      refine use_maker ok h hr i.1 hx.1 k us ?_
      by_cases e : Iv D v t = Iv D x τ
      · obtain ⟨e1, e2⟩ := Iv_inj ok i.1 hx.1 e
        have a := (lst_iff ok i.1).1 (mk_lst ok i.1 k hr.1)
        have b := v_seg ok hx.1
        rw [← e2, ← a] at b
        exact .inr ⟨e1.symm, by omega⟩
      · rcases Iv_lx ok (τ := τ) (τ' := t) hx.1 i.1 (by omega) with q | q
        · exact .inl q
        · exact .inr ⟨q.1, by omega⟩
    omega
theorem Sim.mem {D : Dat} (ok : DOk D) {T : Int} {p : Int → Int} (h : AE D T p) {F B : Int → Int → Prop} {s : St} {val : Int → Int → Int} (S : Sim D F B s val) {x τ a q : Int} (hx : inR D x τ) (N : Now D T p F B x τ) (ha : 0 ≤ a ∧ a < 2) (hq : 0 ≤ q ∧ q < 16) (nw : ¬ wrv D x) (kx : kdv D x = a + 3) (px : PLv D x τ = q) : s.mem a q = (sg D (Iv D x τ)).mem a q := by
  have inn := Iv_n ok hx
  refine S.m a q _ ha.1 ha.2 hq.1 hq.2 inn.1 (by omega) (fun v t i k1 k2 k3 => ?_)
  rw [N.f v t i]
  constructor
  · intro z
    exact mem_wr ok h i.1 hx.1 (by unfold isMem; omega) (by rw [k2, kx]) k1 nw (by rw [k3, px]) (Iv_lx ok i.1 hx.1 z)
  · intro z
    apply Classical.byContradiction
    intro w
    have : Bt T p x τ < Et D T p v t := by
      refine mem_rw ok h hx.1 i.1 (by unfold isMem; omega) (by rw [k2, kx]) nw k1 (by rw [k3, px]) ?_
      by_cases e : Iv D v t = Iv D x τ
      · obtain ⟨e1, e2⟩ := Iv_inj ok i.1 hx.1 e
        have a := (lst_iff ok i.1).1 (wr_lst ok i.1 k1)
        have b := v_seg ok hx.1
        rw [← e2, ← a] at b
        have : x ≠ v := fun z => nw (z ▸ k1)
        exact .inr ⟨e1.symm, by omega⟩
      · exact Iv_lx ok (τ := τ) (τ' := t) hx.1 i.1 (by omega)
    omega
theorem Sim.tk {D : Dat} (ok : DOk D) {T : Int} {p : Int → Int} (h : AE D T p) {F B : Int → Int → Prop} {s : St} {val : Int → Int → Int} (S : Sim D F B s val) {x τ : Int} (hx : inR D x τ) (N : Now D T p F B x τ) (kx : kdv D x = 5) : s.tak = TK D (tpos D x τ) := by
  have inn := Iv_n ok hx
  have tn := node_isTk ok hx kx
  refine S.t _ tn.2.1 (by omega) (fun u t i k => ?_)
  rw [tp_lx ok i hx k kx]
  constructor
  · intro z
    exact N.b2 u t i (chan_lx h (c := 5) (by decide) u x t τ i.1.1 i.1.2 hx.1.1 hx.1.2 k kx z)
  · intro z
    apply Classical.byContradiction
    intro w
    by_cases c : lx τ x t u
    · have := chan_lx h (c := 5) (by decide) x u τ t hx.1.1 hx.1.2 i.1.1 i.1.2 kx k c
      have := N.b1 u t i z
      omega
    · obtain ⟨e1, e2⟩ := tp_inj ok i hx k kx w c
      rw [e1, e2] at z
      exact N.n z

/-! ===== the circuit: what a node gets ===== -/
def RVq (D : Dat) (n q : Int) : Int := if q = 0 then valS D (n % D.cnt) 1 (n / D.cnt) (sg D n) else if q = 1 then valS D (n % D.cnt) 2 (n / D.cnt) (tkS D (n % D.cnt) 1 (sg D n)) else RVn D n
theorem RV_q {D : Dat} (ok : DOk D) {v τ : Int} (h : 0 ≤ v ∧ v < nn D) : RVu D v τ = RVq D (Iv D v τ) (nd D v).2 := by
  have k := Iv_k ok (τ := τ) h
  unfold RVu RVq
  rw [k.1, k.2]
theorem Sim.give {D : Dat} (ok : DOk D) {T : Int} {p : Int → Int} (h : AE D T p) {F B : Int → Int → Prop} {s : St} {val : Int → Int → Int} (S : Sim D F B s val) {x τ g q : Int} (hx : inR D x τ) (N : Now D T p F B x τ) (g0 : 0 ≤ g ∧ g < nn D) (w : withE D g x) (e : nd D g = ((nd D x).1, q)) : val g τ = RVq D (Iv D x τ) q := by
  have gi : inR D g τ := ⟨g0, hx.2⟩
  have l := give_ex h τ g0 hx.1 w
  rw [Et_eq] at l
  have cg := cyv_r ok g0
  have b := N.b2 g τ gi (by omega)
  have ei : Iv D g τ = Iv D x τ := by unfold Iv sv'; rw [e]
  rw [S.v g τ gi b, RV_q ok g0, ei, e]
theorem valS_dir {D : Dat} {k j i : Int} {s s' : St} (f : 0 ≤ D.F k j ∧ ¬ isRd (D.F k j) ∧ D.F k j ≤ 5) (e : D.F k j = 0 → s.reg (D.N k j) = s'.reg (D.N k j)) : valS D k j i s = valS D k j i s' := by
  unfold valS
  by_cases c : D.F k j = 0
  · rw [if_pos c, if_pos c]; exact e c
  · rw [if_neg c, if_neg c]
    by_cases c1 : D.F k j = 1
    · rw [if_pos c1, if_pos c1]
    · rw [if_neg c1, if_neg c1]
      have : D.F k j = 2 := by unfold isRd at f; omega
      rw [if_pos this, if_pos this]
theorem Sim.rd {D : Dat} (ok : DOk D) {T : Int} {p : Int → Int} (h : AE D T p) {F B : Int → Int → Prop} {s : St} {val : Int → Int → Int} (S : Sim D F B s val) {x τ j : Int} {σ : St} (hx : inR D x τ) (N : Now D T p F B x τ) (hj : (j = 1 ∧ (nd D x).2 = 0 ∧ σ = sg D (Iv D x τ)) ∨ (j = 2 ∧ (nd D x).2 = 1 ∧ σ = tkS D (kv D x) 1 (sg D (Iv D x τ)))) : valS D (kv D x) j (iv D x τ) s = valS D (kv D x) j (iv D x τ) σ := by
  obtain ⟨h1, h2, h3, h4, h5⟩ := nd_ok ok hx.1
  have ik := Iv_k ok (τ := τ) hx.1
  have kd : kdv D x = D.F (kv D x) j := by
    unfold kdv kdN kv
    rcases hj with ⟨a, b, _⟩ | ⟨a, b, _⟩
    · rw [if_pos b, a]
    · rw [if_neg (by omega), if_pos b, a]
  have rd : isRd (D.F (kv D x) j) := by
    unfold kv
    rcases rls_mem h5 with q | q | q | q | q <;> rcases hj with ⟨a, b, _⟩ | ⟨a, b, _⟩ <;> try omega
    · rw [a]; exact q.2
    · rw [a]; exact q.2.2
  have sm : σ.mem = (sg D (Iv D x τ)).mem := by
    rcases hj with ⟨_, _, c⟩ | ⟨_, _, c⟩
    · rw [c]
    · rw [c]; exact tkS_p.2.1
  have pl : plN (nd D x) = j := by
    unfold plN
    rcases hj with ⟨a, b, _⟩ | ⟨a, b, _⟩
    · rw [if_pos b, a]
    · rw [if_neg (by omega), if_pos b, a]
  unfold isRd at rd
  have m0 : ¬ D.F (kv D x) j = 0 := by omega
  have m1 : ¬ D.F (kv D x) j = 1 := by omega
  have m2 : ¬ D.F (kv D x) j = 2 := by omega
  unfold valS
  rw [if_neg m0, if_neg m0, if_neg m1, if_neg m1, if_neg m2, if_neg m2]
  by_cases c5 : D.F (kv D x) j = 5
  · rw [if_pos c5, if_pos c5]
    have t := S.tk ok h hx N (by rw [kd, c5])
    have : s.tak = σ.tak := by
      rw [t]
      unfold TK tpos
      rcases hj with ⟨_, b, c⟩ | ⟨_, b, c⟩
      · rw [if_neg (show ¬ (nd D x).2 = 1 by omega), if_pos (by omega), show (2 * Iv D x τ + 0) / 2 = Iv D x τ by omega, c]
      · rw [if_pos b, if_neg (by omega), show (2 * Iv D x τ + 1) / 2 = Iv D x τ by omega, ik.1, c]
    rw [this]
  · rw [if_neg c5, if_neg c5]
    unfold lookS
    by_cases c : 0 ≤ D.F (kv D x) j - 3 ∧ D.F (kv D x) j - 3 < 2 ∧ 0 ≤ plc (D.T (kv D x) j) (D.N (kv D x) j) (iv D x τ) ∧ plc (D.T (kv D x) j) (D.N (kv D x) j) (iv D x τ) < 16
    · rw [if_pos c, if_pos c, sm]
      refine S.mem ok h hx N ⟨c.1, c.2.1⟩ c.2.2 (fun z => ?_) (by omega) ?_
      · have z' : (nd D x).2 = 3 := z
        omega
      · rw [PL_plc ok hx.1 (by unfold isMem; omega), pl]
    · rw [if_neg c, if_neg c]
def Ev (D : Dat) (s : St) (val : Int → Int → Int) (x τ : Int) : Prop := ((nd D x).2 = 0 → valS D (kv D x) 1 (iv D x τ) s = RVu D x τ) ∧ ((nd D x).2 = 1 → valS D (kv D x) 2 (iv D x τ) s = RVu D x τ) ∧ ((nd D x).2 = 2 → ∃ a b, RVu D x τ = cutD D (opS (D.O (kv D x)) a b) ∧ isCut D a ∧ isCut D b ∧ (isRd (D.F (kv D x) 1) → val (g1N D x (nd D x)) τ = a) ∧ (¬ isRd (D.F (kv D x) 1) → valS D (kv D x) 1 (iv D x τ) s = a) ∧ (isRd (D.F (kv D x) 2) → val (g2N D x (nd D x)) τ = b) ∧ (¬ isRd (D.F (kv D x) 2) → valS D (kv D x) 2 (iv D x τ) s = b)) ∧ ((nd D x).2 = 3 → D.O (kv D x) ≠ 32 → val (g1N D x (nd D x)) τ = RVu D x τ) ∧ ((nd D x).2 = 3 → D.O (kv D x) = 32 → (isRd (D.F (kv D x) 1) → val (g1N D x (nd D x)) τ = RVu D x τ) ∧ (¬ isRd (D.F (kv D x) 1) → valS D (kv D x) 1 (iv D x τ) s = RVu D x τ)) ∧ ((nd D x).2 = 4 → valS D (kv D x) 1 (iv D x τ) s = RVu D x τ)
theorem Ev.e0 {D : Dat} {s : St} {val : Int → Int → Int} {x τ : Int} (h0 : Ev D s val x τ) : (nd D x).2 = 0 → valS D (kv D x) 1 (iv D x τ) s = RVu D x τ := h0.1
theorem Ev.e1 {D : Dat} {s : St} {val : Int → Int → Int} {x τ : Int} (h0 : Ev D s val x τ) : (nd D x).2 = 1 → valS D (kv D x) 2 (iv D x τ) s = RVu D x τ := h0.2.1
theorem Ev.e2 {D : Dat} {s : St} {val : Int → Int → Int} {x τ : Int} (h0 : Ev D s val x τ) : (nd D x).2 = 2 → ∃ a b, RVu D x τ = cutD D (opS (D.O (kv D x)) a b) ∧ isCut D a ∧ isCut D b ∧ (isRd (D.F (kv D x) 1) → val (g1N D x (nd D x)) τ = a) ∧ (¬ isRd (D.F (kv D x) 1) → valS D (kv D x) 1 (iv D x τ) s = a) ∧ (isRd (D.F (kv D x) 2) → val (g2N D x (nd D x)) τ = b) ∧ (¬ isRd (D.F (kv D x) 2) → valS D (kv D x) 2 (iv D x τ) s = b) := h0.2.2.1
theorem Ev.e3 {D : Dat} {s : St} {val : Int → Int → Int} {x τ : Int} (h0 : Ev D s val x τ) : (nd D x).2 = 3 → D.O (kv D x) ≠ 32 → val (g1N D x (nd D x)) τ = RVu D x τ := h0.2.2.2.1
theorem Ev.e5 {D : Dat} {s : St} {val : Int → Int → Int} {x τ : Int} (h0 : Ev D s val x τ) : (nd D x).2 = 3 → D.O (kv D x) = 32 → (isRd (D.F (kv D x) 1) → val (g1N D x (nd D x)) τ = RVu D x τ) ∧ (¬ isRd (D.F (kv D x) 1) → valS D (kv D x) 1 (iv D x τ) s = RVu D x τ) := h0.2.2.2.2.1
theorem Ev.e4 {D : Dat} {s : St} {val : Int → Int → Int} {x τ : Int} (h0 : Ev D s val x τ) : (nd D x).2 = 4 → valS D (kv D x) 1 (iv D x τ) s = RVu D x τ := h0.2.2.2.2.2
theorem Ev.mk {D : Dat} {s : St} {val : Int → Int → Int} {x τ : Int} (h0 : (nd D x).2 = 0 → valS D (kv D x) 1 (iv D x τ) s = RVu D x τ) (h1 : (nd D x).2 = 1 → valS D (kv D x) 2 (iv D x τ) s = RVu D x τ) (h2 : (nd D x).2 = 2 → ∃ a b, RVu D x τ = cutD D (opS (D.O (kv D x)) a b) ∧ isCut D a ∧ isCut D b ∧ (isRd (D.F (kv D x) 1) → val (g1N D x (nd D x)) τ = a) ∧ (¬ isRd (D.F (kv D x) 1) → valS D (kv D x) 1 (iv D x τ) s = a) ∧ (isRd (D.F (kv D x) 2) → val (g2N D x (nd D x)) τ = b) ∧ (¬ isRd (D.F (kv D x) 2) → valS D (kv D x) 2 (iv D x τ) s = b)) (h3 : (nd D x).2 = 3 → D.O (kv D x) ≠ 32 → val (g1N D x (nd D x)) τ = RVu D x τ) (h4 : (nd D x).2 = 3 → D.O (kv D x) = 32 → (isRd (D.F (kv D x) 1) → val (g1N D x (nd D x)) τ = RVu D x τ) ∧ (¬ isRd (D.F (kv D x) 1) → valS D (kv D x) 1 (iv D x τ) s = RVu D x τ)) (h5 : (nd D x).2 = 4 → valS D (kv D x) 1 (iv D x τ) s = RVu D x τ) : Ev D s val x τ := ⟨h0, h1, h2, h3, h4, h5⟩
theorem Sim.ev {D : Dat} (ok : DOk D) {T : Int} {p : Int → Int} (h : AE D T p) {F B : Int → Int → Prop} {s : St} {val : Int → Int → Int} (S : Sim D F B s val) {x τ : Int} (hx : inR D x τ) (N : Now D T p F B x τ) : Ev D s val x τ := by
  obtain ⟨h1, h2, h3, h4, h5⟩ := nd_ok ok hx.1
  have ik := Iv_k ok (τ := τ) hx.1
  have rv := RV_q ok (τ := τ) hx.1
  have so := ok.st _ h3 h4
  have f1 := so.f1
  have f2 := so.f2
  have x1 : 0 ≤ x ∧ x < nn D := hx.1
  have hc : 0 < D.cnt := (sv_r ok hx.1).2.2.1
  obtain ⟨n1, n2, n3, n4⟩ := nd_prev ok hx.1
  have ro := rls_mem h5
  have c1 : isCut D (valS D (kv D x) 1 (iv D x τ) (sg D (Iv D x τ))) := val_cut ok ⟨h3, h4⟩ (by decide) (sg_ok ok _ hc)
  have c2 : isCut D (valS D (kv D x) 2 (iv D x τ) (tkS D (kv D x) 1 (sg D (Iv D x τ)))) := val_cut ok ⟨h3, h4⟩ (by decide) (tk_ok (sg_ok ok _ hc))
  have us : ∀ j, (j = 1 ∨ j = 2) → D.F (kv D x) j = 0 → useP D (nd D x) (D.N (kv D x) j) → s.reg (D.N (kv D x) j) = (sg D (Iv D x τ)).reg (D.N (kv D x) j) := by
    intro j hj f u
    have nb := so.n0 j (by omega) (by omega) f
    have nb' : 0 ≤ D.N (kv D x) j ∧ D.N (kv D x) j < 8 := ⟨nb.1, by have := nb.2; unfold kv; omega⟩
    exact S.reg ok h hx N nb' ((usv_iff ok hx.1 nb').2 u)
  have d1 : ((nd D x).2 = 2 ∨ ((nd D x).2 = 3 ∧ D.O (kv D x) = 32) ∨ (nd D x).2 = 4) → ¬ isRd (D.F (kv D x) 1) → valS D (kv D x) 1 (iv D x τ) s = valS D (kv D x) 1 (iv D x τ) (sg D (Iv D x τ)) := by
    intro q nr
    refine valS_dir ⟨f1.1, nr, f1.2⟩ (fun f => us 1 (.inl rfl) f ?_)
    unfold useP
    rcases q with q | q | q
    · exact .inl ⟨q, .inl ⟨f, rfl⟩⟩
    · exact .inr ⟨.inr q, f, rfl⟩
    · exact .inr ⟨.inl q, f, rfl⟩
  refine ⟨fun q => ?_, fun q => ?_, fun q => ?_, fun q o => ?_, fun q o => ?_, fun q => ?_⟩
  · rw [S.rd ok h (j := 1) hx N (.inl ⟨rfl, q, rfl⟩)]
    unfold RVu
    rw [if_pos q]
  · rw [S.rd ok h (j := 2) hx N (.inr ⟨rfl, q, rfl⟩)]
    unfold RVu
    rw [if_neg (by omega), if_pos q]
  · have o : D.O (kv D x) ≠ 32 := by
      rcases ro with z | z | z | z | z
      · omega
      · omega
      · exact z.2
      · omega
      · omega
    refine ⟨valS D (kv D x) 1 (iv D x τ) (sg D (Iv D x τ)), valS D (kv D x) 2 (iv D x τ) (tkS D (kv D x) 1 (sg D (Iv D x τ))), ?_, c1, c2, fun r => ?_, d1 (.inl q), fun r => ?_, fun r => ?_⟩
    · unfold RVu RVn
      rw [if_neg (show ¬ (nd D x).2 = 0 by omega), if_neg (show ¬ (nd D x).2 = 1 by omega), ik.1, ik.2, if_neg o]
    · have g : ∃ g, g1N D x (nd D x) = g ∧ 0 ≤ g ∧ nd D g = ((nd D x).1, 0) := by
        refine ⟨_, rfl, ?_⟩
        unfold g1N
        rw [if_pos q, if_pos (show isRd (D.F (stK D (nd D x)) 1) from r)]
        by_cases r2 : isRd (D.F (stK D (nd D x)) 2)
        · rw [if_pos r2]
          have := (n1 q r2).2.2 r
          exact ⟨by omega, this.2⟩
        · rw [if_neg r2]
          have := n2 q r2 r
          exact ⟨by omega, this.2⟩
      obtain ⟨g, eg, g0, gn⟩ := g
      have gl := (g_neg (D := D) (x := nd D x) hx.1.1).2.1
      rw [eg, S.give ok h hx N ⟨g0, by omega⟩ (.inl eg.symm) gn]
      unfold RVq
      rw [if_pos rfl, ik.1, ik.2]
    · have eg : g2N D x (nd D x) = x - 1 := by unfold g2N; rw [if_pos ⟨q, r⟩]
      have := n1 q r
      rw [eg, S.give ok h hx N ⟨by omega, by omega⟩ (.inr eg.symm) this.2.1]
      unfold RVq
      rw [if_neg (by decide), if_pos rfl, ik.1, ik.2]
    · have ff : D.F (kv D x) 2 ≤ 5 ∧ 0 ≤ D.F (kv D x) 2 := by
        rcases f2 with z | z
        · exact absurd z.1 o
        · exact ⟨z.2.2, z.2.1⟩
      refine valS_dir ⟨ff.2, r, ff.1⟩ (fun f => ?_)
      rw [us 2 (.inr rfl) f (.inl ⟨q, .inr ⟨f, rfl⟩⟩), tkS_p.1]
  · have eg : g1N D x (nd D x) = x - 1 := by unfold g1N; rw [if_neg (show ¬ (nd D x).2 = 2 by omega), if_pos q, if_pos (.inl o)]
    have := n3 q o
    rw [eg, S.give ok h hx N ⟨by omega, by omega⟩ (.inl eg.symm) this.2, rv, q]
    unfold RVq
    rw [if_neg (by decide), if_neg (by decide), if_neg (by decide), if_neg (by decide)]
  · have e3 : RVu D x τ = valS D (kv D x) 1 (iv D x τ) (sg D (Iv D x τ)) := by
      unfold RVu RVn
      rw [if_neg (show ¬ (nd D x).2 = 0 by omega), if_neg (show ¬ (nd D x).2 = 1 by omega), ik.1, ik.2, if_pos o]
    refine ⟨fun r => ?_, fun r => ?_⟩
    · have eg : g1N D x (nd D x) = x - 1 := by unfold g1N; rw [if_neg (show ¬ (nd D x).2 = 2 by omega), if_pos q, if_pos (.inr r)]
      have := n4 q o r
      rw [eg, S.give ok h hx N ⟨by omega, by omega⟩ (.inl eg.symm) this.2, e3]
      unfold RVq
      rw [if_pos rfl, ik.1, ik.2]
    · rw [e3]; exact d1 (.inr (.inl ⟨q, o⟩)) r
  · have z : D.O (kv D x) = 32 ∧ ¬ isRd (D.F (kv D x) 1) := by
      rcases ro with z | z | z | z | z
      · omega
      · omega
      · omega
      · omega
      · exact z.2.2
    rw [d1 (.inr (.inr q)) z.2]
    unfold RVu RVn
    rw [if_neg (show ¬ (nd D x).2 = 0 by omega), if_neg (show ¬ (nd D x).2 = 1 by omega), ik.1, ik.2, if_pos z.1]

/-! ===== the circuit: it goes on, begins and ends ===== -/
theorem Sim.congrL {D : Dat} (ok : DOk D) {F B F' B' : Int → Int → Prop} {s : St} {val : Int → Int → Int} (S : Sim D F B s val) (hF : ∀ v τ, inR D v τ → Lst D v → (F v τ ↔ F' v τ)) (hB : ∀ v τ, inR D v τ → (B v τ ↔ B' v τ)) : Sim D F' B' s val :=
  ⟨S.ok, fun v τ i b => S.v v τ i ((hB v τ i).2 b), fun r m a b c d e => S.r r m a b c d (fun v τ i k => (e v τ i k).trans (hF v τ i (mk_lst ok i.1 k a)).symm),
   fun a q m x1 x2 x3 x4 x5 x6 e => S.m a q m x1 x2 x3 x4 x5 x6 (fun v τ i k1 k2 k3 => (e v τ i k1 k2 k3).trans (hF v τ i (wr_lst ok i.1 k1)).symm),
   fun m a b e => S.o m a b (fun v τ i k => (e v τ i k).trans (hF v τ i (wr_lst ok i.1 (kd6 ok i.1 k).1)).symm),
   fun P a b e => S.t P a b (fun v τ i k => (e v τ i k).trans (hB v τ i).symm), S.tb⟩
theorem TK_b {D : Dat} (ok : DOk D) {P : Int} (h : 0 ≤ P ∧ P ≤ 2 * NS D) : TK D P ≤ 400 := by
  have b := NS_b ok
  have c := (run_cnt (D := D) (P / 2).toNat).2.2.2
  unfold TK sg
  split
  · omega
  · rw [tkS_p.2.2.2.2]
    split <;> omega
theorem Sim.beg {D : Dat} (ok : DOk D) {T : Int} {p : Int → Int} (h : AE D T p) {F B : Int → Int → Prop} {s s' : St} {val val' : Int → Int → Int} (S : Sim D F B s val) {x τ : Int} (hx : inR D x τ) (N : Now D T p F B x τ) (s1 : s'.reg = s.reg) (s2 : s'.mem = s.mem) (s3 : s'.out = s.out) (s4 : s'.outs = s.outs) (s5 : s'.tak = s.tak + if kdv D x = 5 then 1 else 0) (v1 : val' x τ = RVu D x τ) (v2 : ∀ v t, inR D v t → ¬ (v = x ∧ t = τ) → val' v t = val v t) : Sim D F (fun v t => B v t ∨ (v = x ∧ t = τ)) s' val' := by
  have so := S.ok
  have bnd : s'.tak ≤ 1000 := by
    rw [s5]
    by_cases k : kdv D x = 5
    · rw [if_pos k, S.tk ok h hx N k]
      have tn := node_isTk ok hx k
      have := TK_b ok (P := tpos D x τ) ⟨tn.2.1, by omega⟩
      omega
    · rw [if_neg k]
      have := S.tb
      omega
  refine ⟨⟨by rw [s1]; exact so.r, by rw [s2]; exact so.m, by rw [s4]; exact so.n, by rw [s5]; have := so.t; split <;> omega⟩, fun v t i b => ?_, by rw [s1]; exact S.r, by rw [s2]; exact S.m, by rw [s3, s4]; exact S.o, fun P a b e => ?_, bnd⟩
  · by_cases z : v = x ∧ t = τ
    · rw [z.1, z.2]; exact v1
    · rw [v2 v t i z]
      rcases b with b | b
      · exact S.v v t i b
      · exact absurd b z
  · rw [s5]
    by_cases k : kdv D x = 5
    · rw [if_pos k, S.tk ok h hx N k]
      have tn := node_isTk ok hx k
      have lt := (e x τ hx k).2 (.inr ⟨rfl, rfl⟩)
      rw [const_to (f := TK D) (W := isTk D) (fun n n0 w => (TK_s n0).2 w) (a := tpos D x τ + 1) (b := P) (by omega) (by omega) (fun n n0 n1 w => ?_), (TK_s tn.2.1).1 tn.1]
      obtain ⟨u, t, i, ku, eu⟩ := isTk_node ok ⟨by omega, by omega⟩ w
      have lxx := (tp_lx ok hx i k ku).1 (by omega)
      have bt := chan_lx h (c := 5) (by decide) x u τ t hx.1.1 hx.1.2 i.1.1 i.1.2 k ku lxx
      rcases (e u t i ku).1 (by omega) with z | z
      · have := N.b1 u t i z
        omega
      · rw [z.1, z.2] at eu
        omega
    · rw [if_neg k, Int.add_zero]
      refine S.t P a b (fun u t i ku => (e u t i ku).trans ⟨fun z => ?_, .inl⟩)
      rcases z with z | z
      · exact z
      · rw [z.1] at ku
        exact absurd ku k
theorem Sim.start {D : Dat} (ok : DOk D) (val : Int → Int → Int) : Sim D (fun _ _ => False) (fun _ _ => False) (begS D) val := by
  have none : ∀ (W : Int → Prop) (m : Int), m ≤ NS D → (∀ v t, inR D v t → Lst D v → W (Iv D v t) → Iv D v t < m → False) → ∀ n, 0 ≤ n → n < m → ¬ W n := by
    intro W m m1 e n n0 n1 w
    obtain ⟨v, t, i, l, en⟩ := st_node ok (n := n) ⟨n0, by omega⟩
    exact e v t i l (by rw [en]; exact w) (by omega)
  have e0 : sg D 0 = begS D := rfl
  refine ⟨beg_ok ok, fun v τ i b => b.elim, fun r m r0 r8 m0 m1 e => ?_, fun a q m a0 a1 q0 q1 m0 m1 e => ?_, fun m m0 m1 e => ?_, fun P a b e => ?_, by show (0:Int) ≤ 1000; decide⟩
  · rw [const_to (f := fun n => (sg D n).reg r) (W := fun n => D.F (n % D.cnt) 0 = 0 ∧ r = D.N (n % D.cnt) 0) (fun n n0 w => by rw [sg_reg n0, if_neg w]) (a := 0) (b := m) (by omega) m0 (none _ m m1 (fun v t i l w z => ?_))]
    · rfl
    · have ev := (Iv_k ok (τ := t) i.1).1
      rw [ev] at w
      exact (e v t i (by rw [lst_reg ok i.1 l w.1]; exact w.2.symm)).1 z
  · rw [const_to (f := fun n => (sg D n).mem a q) (W := fun n => wMem D (n % D.cnt) (n / D.cnt) a q) (fun n n0 w => (sg_mem n0 ⟨a0, a1⟩ ⟨q0, q1⟩).2 w) (a := 0) (b := m) (by omega) m0 (none _ m m1 (fun v t i l w z => ?_))]
    · rfl
    · have ev := Iv_k ok (τ := t) i.1
      rw [ev.1, ev.2] at w
      obtain ⟨wv, kv', pv⟩ := wrl_mem ok i l ⟨a0, a1⟩ w
      exact (e v t i wv kv' pv).1 z
  · have hc : ((sg D m).outs, (sg D m).out) = ((sg D 0).outs, (sg D 0).out) := const_to (f := fun n => ((sg D n).outs, (sg D n).out)) (W := fun n => D.F (n % D.cnt) 0 = 6) (fun n n0 w => by
        have := (sg_out n0).2 w
        show ((sg D (n + 1)).outs, (sg D (n + 1)).out) = ((sg D n).outs, (sg D n).out)
        rw [this.1, this.2]) (by omega) m0 (none _ m m1 (fun v t i l w z => by
          have ev := (Iv_k ok (τ := t) i.1).1
          rw [ev] at w
          exact (e v t i (by rw [(lst3 l (by omega)).2, w])).1 z))
    obtain ⟨c1, c2⟩ := Prod.mk.inj hc
    rw [c1, c2, e0]
    exact ⟨rfl, fun _ _ _ => rfl⟩
  · rw [const_to (f := TK D) (W := isTk D) (fun n n0 w => (TK_s n0).2 w) (a := 0) (b := P) (by omega) a (fun n n0 n1 w => ?_)]
    · rfl
    · obtain ⟨u, t, i, ku, eu⟩ := isTk_node ok ⟨by omega, by omega⟩ w
      exact (e u t i ku).1 (by omega)
/-- all is over -/
def Same (s s' : St) : Prop := (∀ r, 0 ≤ r → r < 8 → s.reg r = s'.reg r) ∧ (∀ a q, 0 ≤ a → a < 2 → 0 ≤ q → q < 16 → s.mem a q = s'.mem a q) ∧ (s.outs = s'.outs) ∧ (∀ k, 0 ≤ k → k < s.outs → s.out k = s'.out k) ∧ (s.tak = s'.tak)
theorem Same.r {s s' : St} (h0 : Same s s') : ∀ r, 0 ≤ r → r < 8 → s.reg r = s'.reg r := h0.1
theorem Same.m {s s' : St} (h0 : Same s s') : ∀ a q, 0 ≤ a → a < 2 → 0 ≤ q → q < 16 → s.mem a q = s'.mem a q := h0.2.1
theorem Same.n {s s' : St} (h0 : Same s s') : s.outs = s'.outs := h0.2.2.1
theorem Same.x {s s' : St} (h0 : Same s s') : ∀ k, 0 ≤ k → k < s.outs → s.out k = s'.out k := h0.2.2.2.1
theorem Same.t {s s' : St} (h0 : Same s s') : s.tak = s'.tak := h0.2.2.2.2
theorem Same.mk {s s' : St} (h0 : ∀ r, 0 ≤ r → r < 8 → s.reg r = s'.reg r) (h1 : ∀ a q, 0 ≤ a → a < 2 → 0 ≤ q → q < 16 → s.mem a q = s'.mem a q) (h2 : s.outs = s'.outs) (h3 : ∀ k, 0 ≤ k → k < s.outs → s.out k = s'.out k) (h4 : s.tak = s'.tak) : Same s s' := ⟨h0, h1, h2, h3, h4⟩
theorem Sim.done {D : Dat} (ok : DOk D) {F B : Int → Int → Prop} {s : St} {val : Int → Int → Int} (S : Sim D F B s val) (hF : ∀ v τ, inR D v τ → F v τ) (hB : ∀ v τ, inR D v τ → B v τ) : Same s (execS D) := by
  have nb := NS_b ok
  have lt : ∀ v τ, inR D v τ → (Iv D v τ < NS D ↔ F v τ) := fun v τ i => ⟨fun _ => hF v τ i, fun _ => (Iv_n ok i).2⟩
  have e : sg D (NS D) = execS D := rfl
  have o := S.o (NS D) nb.1 (Int.le_refl _) (fun v τ i _ => lt v τ i)
  refine ⟨fun r a b => S.r r _ a b nb.1 (Int.le_refl _) (fun v τ i _ => lt v τ i), fun a q x1 x2 x3 x4 => S.m a q _ x1 x2 x3 x4 nb.1 (Int.le_refl _) (fun v τ i _ _ _ => lt v τ i), o.1, o.2, ?_⟩
  rw [S.t (2 * NS D) (by omega) (Int.le_refl _) (fun u τ i k => ⟨fun _ => hB u τ i, fun _ => (node_isTk ok i k).2.2⟩)]
  unfold TK
  rw [if_pos (by omega), show 2 * NS D / 2 = NS D by omega, e]
theorem CSt.same {D : Dat} {o : Int} {i : MI} {s s' : St} (h : CSt D o i s) (e : Same s s') : CSt D o i s' :=
  ⟨fun k a b => by rw [← e.r k a b]; exact h.r k a b, fun m p a b c d => by rw [← e.m m p a b c d]; exact h.m m p a b c d, fun k a b => by rw [← e.x k a (by rw [e.n]; exact b)]; exact h.x k a (by rw [e.n]; exact b), by rw [← e.n]; exact h.n, by rw [← e.t]; exact h.t⟩
