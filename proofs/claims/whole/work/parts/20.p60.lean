/-! ===== what binds, and how long it takes ===== -/
def kch (k : Int) : Int := (iAnd (bS 3 k) 255) % 65536
theorem kch_w {i r : MI} {k : Int} {Q : Int → Prop} (hk : 0 ≤ k ∧ k < 7) (hQ : 0 ≤ kch k ∧ kch k < 65536 → Q (kch k)) : wp_J0_charAt_5068e 3 k i r Q := by
  have l3 : (lenS 3 : Int) = 7 := by decide
  have b : 0 ≤ kch k ∧ kch k < 65536 := by unfold kch; omega
  unfold wp_J0_charAt_5068e wp_J0_isLatin1_aae02 s17_J0_isLatin1_aae02 s18_J0_isLatin1_aae02 wp_J1_charAt_3b067 wp_J0_checkIndex_df160 wp_J3_checkIndex_8e157 s9_J3_checkIndex_8e157
  rw [l3]
  exact ⟨fun q => absurd q (by decide), fun _ => ⟨fun _ => ⟨.inr rfl, fun q => absurd q (by decide), fun _ => ⟨fun q => by omega, fun _ => ⟨fun _ => ⟨hk, b, b, hQ b⟩, fun q => by omega⟩⟩⟩, fun q => absurd rfl q⟩⟩
def FirstK (D : Dat) (u c : Int) : Prop := (∃ k, 0 ≤ k ∧ k < 7 ∧ nIk D k = u ∧ (∀ j, 0 ≤ j → j < k → nIk D j ≠ u) ∧ c = kch k) ∨ ((∀ k, 0 ≤ k → k < 7 → nIk D k ≠ u) ∧ c = 45)
theorem FirstK.uniq {D : Dat} {u c d : Int} (h : FirstK D u c) (g : FirstK D u d) : c = d := by
  rcases h with ⟨k, k0, k1, k2, k3, k4⟩ | ⟨h1, h2⟩ <;> rcases g with ⟨j, j0, j1, j2, j3, j4⟩ | ⟨g1, g2⟩
  · rcases Int.lt_trichotomy k j with z | z | z
    · exact absurd k2 (j3 k k0 z)
    · rw [k4, j4, z]
    · exact absurd j2 (k3 j j0 z)
  · exact absurd k2 (g1 k k0 k1)
  · exact absurd j2 (h1 j j0 j1)
  · rw [h2, g2]
def BindP (D : Dat) (R T c : Int) : Prop := (nn D = 0 ∧ c = 45) ∨ (nn D ≠ 0 ∧ max R (uT D) < T ∧ c = 45) ∨ (nn D ≠ 0 ∧ T = max R (uT D) ∧ uT D < R ∧ c = 114) ∨ (nn D ≠ 0 ∧ T = max R (uT D) ∧ R ≤ uT D ∧ FirstK D (uT D) c)
theorem BindP.uniq {D : Dat} {R T c d : Int} (h : BindP D R T c) (g : BindP D R T d) : c = d := by
  rcases h with ⟨h1, h2⟩ | ⟨h1, h2, h3⟩ | ⟨h1, h2, h3, h4⟩ | ⟨h1, h2, h3, h4⟩ <;> rcases g with ⟨g1, g2⟩ | ⟨g1, g2, g3⟩ | ⟨g1, g2, g3, g4⟩ | ⟨g1, g2, g3, g4⟩ <;> try omega
  exact h4.uniq g4
theorem int_ge {D : Dat} {R T : Int} (hR : IsRing D R) (hT : IsInt D T) : max R (uT D) ≤ T ∧ T ≤ 480 := by
  obtain ⟨R', r, a, b, _, _⟩ := hT
  rw [ring_uniq hR r]; exact ⟨a, b⟩
theorem int_b {D : Dat} {T : Int} (hT : IsInt D T) : 1 ≤ T ∧ T ≤ 480 := by
  obtain ⟨R', r, a, b, _, _⟩ := hT
  have := r.1
  omega
theorem binding_w {D : Dat} (ok : DOk D) {i r : MI} {Q : Int → Prop} (h : NV D i) (mc : MC D i) (m4 : M4 D i) (hQ : ∀ c, 0 ≤ c ∧ c < 65536 → BindP D (i 469 3) (i 469 5) c → Q c) : wp_X4_findBinding i r Q := by
  have nl := nn_le ok
  have ib := int_ge m4.r m4.t
  unfold wp_X4_findBinding s25_X4_findBinding
  rw [h.n, m4.u]
  refine ⟨fun q => hQ 45 (by decide) (.inl ⟨q, rfl⟩), fun q => ⟨fun q2 => ⟨fun q3 => ?_, fun q3 => hQ 114 (by decide) (.inr (.inr (.inl ⟨q, by omega, by omega, rfl⟩)))⟩, fun q2 => hQ 45 (by decide) (.inr (.inl ⟨q, by omega, rfl⟩))⟩⟩
  refine Lp.rule (fun (k : Int) => 0 ≤ k ∧ k ≤ 7 ∧ ∀ j, 0 ≤ j → j < k → nIk D j ≠ uT D) (fun k => (7 - k).toNat) ?_ _ ⟨by decide, by decide, fun j a b => by omega⟩
  intro k C ⟨k0, k1, no⟩ hC
  dsimp only [b44_X4_findBinding]
  have fin : ∀ c, 0 ≤ c ∧ c < 65536 → FirstK D (uT D) c → Q c := fun c hc f => hQ c hc (.inr (.inr (.inr ⟨q, by omega, by omega, f⟩)))
  refine ⟨fun q4 => fin 45 (by decide) (.inr ⟨fun j a b => no j a (by omega), rfl⟩), fun q4 => leastI_w ok mc ⟨k0, by omega⟩ ⟨fun q5 => kch_w ⟨k0, by omega⟩ (fun hc => ⟨hc, fin _ hc (.inl ⟨k, k0, by omega, by rw [q5, m4.u], no, rfl⟩)⟩), fun q5 => ?_⟩⟩
  rw [m4.u] at q5
  rw [wr_of (x := k + 1) (by omega) (by omega)]
  refine hC _ ⟨by omega, by omega, fun j a b => ?_⟩ (by omega)
  by_cases z : j = k
  · rw [z]; exact q5
  · exact no j a (by omega)
theorem uMx_ge {D : Dat} : ∀ (n : Nat) (k : Int), 0 ≤ k → k < n → nIk D k ≤ uMx D n := by
  intro n
  induction n with
  | zero => intro k a b; omega
  | succ n ih =>
    intro k a b
    show nIk D k ≤ max (uMx D n) (nIk D n)
    by_cases z : k = n
    · rw [z]; omega
    · have := ih k a (by omega)
      omega
theorem s41_w {D : Dat} (ok : DOk D) {i r : MI} {T : Int} {Q : Int → MI → Prop} (h : ME D i) (hQ : ∀ c, 0 ≤ c ∧ c < 65536 → FirstK D T c → Q c i) : s41_X12_binds T i r Q := by
  unfold s41_X12_binds
  refine Lp.rule (fun (k : Int) => 0 ≤ k ∧ k ≤ 7 ∧ ∀ j, 0 ≤ j → j < k → nIk D j ≠ T) (fun k => (7 - k).toNat) ?_ _ ⟨by decide, by decide, fun j a b => by omega⟩
  intro k C ⟨k0, k1, no⟩ hC
  dsimp only [b43_X12_binds]
  refine ⟨fun q4 => hQ 45 (by decide) (.inr ⟨fun j a b => no j a (by omega), rfl⟩), fun q4 => needs_w ok h ⟨k0, by omega⟩ ⟨fun q5 => kch_w ⟨k0, by omega⟩ (fun hc => ⟨hc, hQ _ hc (.inl ⟨k, k0, by omega, q5, no, rfl⟩)⟩), fun q5 => ?_⟩⟩
  rw [wr_of (x := k + 1) (by omega) (by omega)]
  refine hC _ ⟨by omega, by omega, fun j a b => ?_⟩ (by omega)
  by_cases z : j = k
  · rw [z]; exact q5
  · exact no j a (by omega)
/-- what a reference's answer that builds leaves alone -/
def FV (i i' : MI) : Prop := ∃ i1, FU (st i 504 0 0) i1 ∧ FY i1 i'
theorem FV.fm {i i' : MI} (h : FV i i') : Fm i i' := by
  obtain ⟨i1, a, b⟩ := h
  intro x hx
  rw [b.fm x hx, a.fm x hx, st_row (by omega)]
theorem mbinds_w {D : Dat} (ok : DOk D) {i r : MI} {Q : Int → MI → Prop} (h : ModelP D i) (hQ : ∀ R T c m, FV i m → ModelP D m → m 504 0 = 0 → IsRing D R → IsInt D T → 0 ≤ c ∧ c < 65536 → BindP D R T c → Q c m) : wp_X12_binds i r Q := by
  have nl := nn_le ok
  unfold wp_X12_binds
  refine mplaceAll_w ok (mp0 h) (fun T i1 m f1 f2 e2 iT p => mbyUnits_w ok e2 ?_)
  have z0 : m 504 0 = 0 := by rw [f2.c 0 (by decide), f1.c 0 (by decide) (by decide), st_eq]
  rw [e2.w.n]
  refine ⟨fun q => ?_, fun q => rings_w ok e2 (fun R m2 g hR => ?_)⟩
  · have iT' := iT
    obtain ⟨R, hR, _⟩ := iT'
    exact hQ R T 45 m ⟨i1, f1, f2⟩ e2.p z0 hR iT (by decide) (.inl ⟨q, rfl⟩)
  · have ib := int_ge hR iT
    have e3 := e2.fy g.fy
    have z3 : m2 504 0 = 0 := by rw [g 504 (by decide)]; exact z0
    have fin : ∀ c, 0 ≤ c ∧ c < 65536 → BindP D R T c → Q c m2 := fun c hc b => hQ R T c m2 ⟨i1, f1, f2.trans g.fy⟩ e3.p z3 hR iT hc b
    have fin2 : ¬ (T = R ∧ uT D < T) → s41_X12_binds T m2 r Q := fun z => s41_w ok e3 (fun c hc f => fin c hc ?_)
    · exact ⟨fun q2 => ⟨fun q3 => fin2 (by omega), fun q3 => fin 114 (by decide) (.inr (.inr (.inl ⟨q, by omega, by omega, rfl⟩)))⟩, fun q2 => fin2 (by omega)⟩
    · by_cases w : max R (uT D) < T
      · refine .inr (.inl ⟨q, w, ?_⟩)
        rcases f with ⟨k, k0, k1, k2, _⟩ | ⟨_, f2⟩
        · have := uMx_ge (D := D) 7 k k0 k1
          unfold uT at w
          omega
        · exact f2
      · refine .inr (.inr (.inr ⟨q, by omega, by omega, ?_⟩))
        have : T = uT D := by omega
        rw [this] at f; exact f
