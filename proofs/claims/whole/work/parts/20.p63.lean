/-! ===== the circuit: times of memories and channels ===== -/
def PLv (D : Dat) (v τ : Int) : Int := fpN D (nd D v) + if tnN D (nd D v) = 1 then D.fac * τ else 0
theorem mem_edge {D : Dat} {T : Int} {p : Int → Int} (h : AE D T p) {f t τ τ' w : Int} (f0 : 0 ≤ f ∧ f < nn D) (t0 : 0 ≤ t ∧ t < nn D) (ne : f ≠ t) (mf : isMem D f) (hk : kdv D f = kdv D t) (hw : (¬ wrv D t ∧ wrv D f ∧ w = cyv D f) ∨ (wrv D t ∧ ¬ wrv D f ∧ w = 1 - cyv D t) ∨ (wrv D t ∧ wrv D f ∧ w = 1)) (e : PLv D f τ = PLv D t τ') (tf : tnN D (nd D f) = 0 ∨ tnN D (nd D f) = 1) (tt : tnN D (nd D t) = 0 ∨ tnN D (nd D t) = 1) (l : lx τ f τ' t) : Bt T p f τ + w ≤ Bt T p t τ' := by
  have raw : ∀ d, memD D f t d → Raw D f t d w := fun d hd => ⟨f0.1, f0.2, t0.1, t0.2, .inr (.inr (.inr (.inl ⟨⟨ne, mf, hk, by
    rcases hw with z | z | z
    · exact .inl z.2.1
    · exact .inr z.1
    · exact .inr z.1, hd⟩, by
    rcases hw with z | z | z
    · exact .inl ⟨z.1, z.2.2⟩
    · exact .inr (.inl z)
    · exact .inr (.inr z)⟩)))⟩
  unfold PLv at e
  by_cases b : tnN D (nd D f) = 1 ∧ tnN D (nd D t) = 1
  · rw [if_pos b.1, if_pos b.2] at e
    have ms : D.fac * (τ' - τ) = D.fac * τ' - D.fac * τ := Int.mul_sub _ _ _
    have := h.b (raw (τ' - τ) (by
      unfold memD
      rw [if_pos b]
      refine ⟨by rcases l with l | l <;> omega, by omega, fun z => by rcases l with l | l <;> omega⟩)) τ
    rw [show τ + (τ' - τ) = τ' by omega] at this
    exact this
  · have m : memD D f t (if f < t then 0 else 1) := by
      unfold memD
      rw [if_neg b]
      refine ⟨fun z => ?_, rfl⟩
      rw [if_neg (by omega), if_neg (by omega)] at e
      omega
    have := h.b (raw _ m) τ
    have mo := h.mo (τ := τ + if f < t then 0 else 1) (τ' := τ') (by
      by_cases z : f < t
      · rw [if_pos z]; rcases l with l | l <;> omega
      · rw [if_neg z]; rcases l with l | l <;> omega) t
    omega
theorem mem_tn {D : Dat} (ok : DOk D) {v : Int} (h : 0 ≤ v ∧ v < nn D) (hm : isMem D v) : tnN D (nd D v) = 0 ∨ tnN D (nd D v) = 1 := by
  have := (mem_fp ok h hm).2.2
  omega
theorem cyv_k {D : Dat} {f t : Int} (h : kdv D f = kdv D t) : cyv D f = cyv D t := by unfold cyv; rw [h]
/-- writings of a place are over one behind the other -/
theorem mem_ww {D : Dat} (ok : DOk D) {T : Int} {p : Int → Int} (h : AE D T p) {f t τ τ' : Int} (f0 : 0 ≤ f ∧ f < nn D) (t0 : 0 ≤ t ∧ t < nn D) (mf : isMem D f) (hk : kdv D f = kdv D t) (wf : wrv D f) (wt : wrv D t) (e : PLv D f τ = PLv D t τ') (l : lx τ f τ' t) : Et D T p f τ < Et D T p t τ' := by
  have mt : isMem D t := by unfold isMem at mf ⊢; rw [← hk]; exact mf
  rw [Et_eq, Et_eq]
  by_cases z : f = t
  · rw [z] at l ⊢
    have := h.up (τ := τ) t
    have := h.mo (τ := τ + 1) (τ' := τ') (by rcases l with l | l <;> omega) t
    omega
  · have := mem_edge h f0 t0 z mf hk (.inr (.inr ⟨wt, wf, rfl⟩)) e (mem_tn ok f0 mf) (mem_tn ok t0 mt) l
    have := cyv_k hk
    omega
theorem mem_wr {D : Dat} (ok : DOk D) {T : Int} {p : Int → Int} (h : AE D T p) {f t τ τ' : Int} (f0 : 0 ≤ f ∧ f < nn D) (t0 : 0 ≤ t ∧ t < nn D) (mf : isMem D f) (hk : kdv D f = kdv D t) (wf : wrv D f) (wt : ¬ wrv D t) (e : PLv D f τ = PLv D t τ') (l : lx τ f τ' t) : Et D T p f τ ≤ Bt T p t τ' := by
  have mt : isMem D t := by unfold isMem at mf ⊢; rw [← hk]; exact mf
  rw [Et_eq]
  exact mem_edge h f0 t0 (fun z => wt (z ▸ wf)) mf hk (.inl ⟨wt, wf, rfl⟩) e (mem_tn ok f0 mf) (mem_tn ok t0 mt) l
theorem mem_rw {D : Dat} (ok : DOk D) {T : Int} {p : Int → Int} (h : AE D T p) {f t τ τ' : Int} (f0 : 0 ≤ f ∧ f < nn D) (t0 : 0 ≤ t ∧ t < nn D) (mf : isMem D f) (hk : kdv D f = kdv D t) (wf : ¬ wrv D f) (wt : wrv D t) (e : PLv D f τ = PLv D t τ') (l : lx τ f τ' t) : Bt T p f τ < Et D T p t τ' := by
  have mt : isMem D t := by unfold isMem at mf ⊢; rw [← hk]; exact mf
  have := mem_edge h f0 t0 (fun z => wf (z ▸ wt)) mf hk (.inr (.inl ⟨wt, wf, rfl⟩)) e (mem_tn ok f0 mf) (mem_tn ok t0 mt) l
  rw [Et_eq]
  omega
/-- nodes of a channel begin one behind the other -/
theorem chan_lx {D : Dat} {T : Int} {p : Int → Int} (h : AE D T p) {c : Int} (hc : 5 ≤ c) : ∀ a b τ τ', 0 ≤ a → a < nn D → 0 ≤ b → b < nn D → kdv D a = c → kdv D b = c → lx τ a τ' b → Bt T p a τ < Bt T p b τ' := by
  refine round_lx (n := nn D) (P := fun v => kdv D v = c) (X := Bt T p) ?_ ?_ ?_
  · intro a m a0 m1 pa pm am no τ
    have pa' : kdv D a = c := pa
    have pm' : kdv D m = c := pm
    have := h.b (f := a) (t := m) (d := 0) (w := 1) ⟨a0, by omega, by omega, m1, .inr (.inr (.inr (.inr ⟨⟨by omega, by omega, by omega, .inl ⟨⟨by omega, m1, am, by omega, fun k _ x y => by rw [pa']; exact no k x y⟩, rfl⟩⟩, rfl⟩)))⟩ τ
    rw [Int.add_zero] at this
    omega
  · intro l f l0 l1 f0 f1 pl pf nol nof τ
    have pl' : kdv D l = c := pl
    have pf' : kdv D f = c := pf
    by_cases z : l = f
    · have := h.up (τ := τ) l
      rw [← z]
      omega
    · have := h.b (f := l) (t := f) (d := 1) (w := 1) ⟨l0, l1, f0, f1, .inr (.inr (.inr (.inr ⟨⟨z, by omega, by omega, .inr ⟨fun k x y w => by rw [pl']; exact nol k y w, ⟨f0, f1, by omega, by omega, fun k x _ y => by rw [pl']; exact nof k x y⟩, rfl⟩⟩, rfl⟩)))⟩ τ
      omega
  · intro a τ τ' e
    exact h.mo e a
theorem chan_ex {D : Dat} {T : Int} {p : Int → Int} (h : AE D T p) {c : Int} (hc : 5 ≤ c) {a b τ τ' : Int} (a0 : 0 ≤ a ∧ a < nn D) (b0 : 0 ≤ b ∧ b < nn D) (pa : kdv D a = c) (pb : kdv D b = c) (l : lx τ a τ' b) : Et D T p a τ < Et D T p b τ' := by
  have := chan_lx h hc a b τ τ' a0.1 a0.2 b0.1 b0.2 pa pb l
  have := cyv_k (D := D) (f := a) (t := b) (by rw [pa, pb])
  rw [Et_eq, Et_eq]
  omega
theorem give_ex {D : Dat} {T : Int} {p : Int → Int} (h : AE D T p) {g v : Int} (τ : Int) (g0 : 0 ≤ g ∧ g < nn D) (v0 : 0 ≤ v ∧ v < nn D) (w : withE D g v) : Et D T p g τ ≤ Bt T p v τ := by
  have := h.b (f := g) (t := v) (d := 0) (w := cyv D g) ⟨g0.1, g0.2, v0.1, v0.2, .inl ⟨w, rfl, rfl⟩⟩ τ
  rw [Int.add_zero] at this
  rw [Et_eq]
  exact this
