theorem Lp.r1 {A : Type} {B0 : (A → Prop) → A → Prop} (Inv : A → Prop) (μ : A → Nat) (h : ∀ (a : A) (C : A → Prop), Inv a → (∀ a', Inv a' → μ a' < μ a → C a') → B0 C a) {a : A} (h0 : Inv a) : Lp B0 a := Lp.rule Inv μ h a h0
theorem Lp.r2 {A B : Type} {B0 : (A × B → Prop) → A × B → Prop} (Inv : A → B → Prop) (μ : A → B → Nat) (h : ∀ (a : A) (b : B) (C : A × B → Prop), Inv a b → (∀ a' b', Inv a' b' → μ a' b' < μ a b → C (a', b')) → B0 C (a, b)) {a : A} {b : B} (h0 : Inv a b) : Lp B0 (a, b) :=
  Lp.rule (fun s => Inv s.1 s.2) (fun s => μ s.1 s.2) (fun s C hi hc => h s.1 s.2 C hi (fun a' b' p q => hc (a', b') p q)) (a, b) h0
theorem Lp.r3 {A B D : Type} {B0 : (A × B × D → Prop) → A × B × D → Prop} (Inv : A → B → D → Prop) (μ : A → B → D → Nat) (h : ∀ (a : A) (b : B) (d : D) (C : A × B × D → Prop), Inv a b d → (∀ a' b' d', Inv a' b' d' → μ a' b' d' < μ a b d → C (a', b', d')) → B0 C (a, b, d)) {a : A} {b : B} {d : D} (h0 : Inv a b d) : Lp B0 (a, b, d) :=
  Lp.rule (fun s => Inv s.1 s.2.1 s.2.2) (fun s => μ s.1 s.2.1 s.2.2) (fun s C hi hc => h s.1 s.2.1 s.2.2 C hi (fun a' b' d' p q => hc (a', b', d') p q)) (a, b, d) h0
theorem Lp.r4 {A B D E : Type} {B0 : (A × B × D × E → Prop) → A × B × D × E → Prop} (Inv : A → B → D → E → Prop) (μ : A → B → D → E → Nat) (h : ∀ (a : A) (b : B) (d : D) (e : E) (C : A × B × D × E → Prop), Inv a b d e → (∀ a' b' d' e', Inv a' b' d' e' → μ a' b' d' e' < μ a b d e → C (a', b', d', e')) → B0 C (a, b, d, e)) {a : A} {b : B} {d : D} {e : E} (h0 : Inv a b d e) : Lp B0 (a, b, d, e) :=
  Lp.rule (fun s => Inv s.1 s.2.1 s.2.2.1 s.2.2.2) (fun s => μ s.1 s.2.1 s.2.2.1 s.2.2.2) (fun s C hi hc => h s.1 s.2.1 s.2.2.1 s.2.2.2 C hi (fun a' b' d' e' p q => hc (a', b', d', e') p q)) (a, b, d, e) h0
/-! ===== fault and add ===== -/
/-- what the buffer reads as -/
def psD (D : Dat) : PS := parseP (ch D.many D.tx) D.many
theorem pf_row {o : Int} {i i' : MI} (g : PF o i i') (ho : 9 ≤ o) {a : Int} (h : a < 1 ∨ (1 < a ∧ a < o) ∨ o + 3 < a) : i' a = i a := g.1 a (by omega) (by omega)
theorem ClassP.pf {D : Dat} {i i' r : MI} (h : ClassP D i r) (g : PF (r 3 3) i i') : ClassP D i' r := by
  have h9 := stm_rng h.rf.p
  refine h.congr (g.2 1 (by decide)) ?_ ?_ ?_ ?_ ?_ ?_ ?_ ?_ ?_ rfl rfl
  · exact pf_row g h9.1 (by omega)
  · intro c hc; rw [pf_row g h9.1 (by omega)]
  · exact pf_row g h9.1 (by omega)
  · intro a x y; exact pf_row g h9.1 (by omega)
  · intro a x y z; exact pf_row g h9.1 (by omega)
  · exact pf_row g h9.1 (by omega)
  · exact pf_row g h9.1 (by omega)
  · intro a x y; exact pf_row g h9.1 (by omega)
  · intro a x y; exact pf_row g h9.1 (by omega)
theorem ModelP.ph {D : Dat} {i i' : MI} (h : ModelP D i) (g : PH i i') : ModelP D i' := by
  refine h.congr (fun c hc => g.2 c (by omega) (by omega)) (g.1 _ (by decide) (by decide)) (fun a x y => g.1 _ (by omega) (by omega)) (fun a x y => g.1 _ (by omega) (by omega))
theorem C_fault {D : Dat} {i r : MI} {Q : Int → MI → Prop} (h : ClassP D i r) (ok : DOk D) (hQ : ∀ i', PF (r 3 3) i i' → ClassP D i' r → ((psD D).e = -1 → StmAt i' (r 3 3) (psD D).F (psD D).N (psD D).T (psD D).O) → Q (psD D).e i') : wp_X10_readInto (r 3 3) i r Q :=
  readInto_w ok.many h.many h.tx ok.tx (stm_rng h.rf.p).1 (fun i' g s => hQ i' g (h.pf g) s)
theorem M_parse {D : Dat} {i r : MI} {Q : Int → MI → Prop} (h : ModelP D i) (ok : DOk D) (hQ : ∀ i', PH i i' → ModelP D i' → ((psD D).e = -1 → MStm i' 506 0 (psD D).F (psD D).N (psD D).T (psD D).O) → Q (psD D).e i') : wp_X12_parse i r Q :=
  parse_w ok.many h.many h.tx ok.tx (fun i' g s => hQ i' g (h.ph g) s)
/-- the data with a statement put in a place -/
def putS (D : Dat) (k n : Int) : Dat := (Dat.mk (0) (D.tx) (n) (D.fac) (D.tur) (D.bits) (D.inc) (D.inp) (D.told) (D.un) (D.cy) (fun a => if a = k then (psD D).F else D.F a) (fun a => if a = k then (psD D).N else D.N a) (fun a => if a = k then (psD D).T else D.T a) (fun a => if a = k then (psD D).O else D.O a) (D.ac) (D.ach) (D.apt) (D.dep))
def spAdd (D : Dat) : Int × Int × Dat := if (psD D).e ≠ -1 then (1, 0, D) else if 12 < D.cnt + 1 ∨ 24 < (D.cnt + 1) * D.fac then (2, 0, D) else (0, D.cnt + 1, putS D D.cnt (D.cnt + 1))
theorem put_c {D : Dat} {i i' r : MI} {k n : Int} (h : ClassP D i r) (hs : StmAt i (r 3 3) (psD D).F (psD D).N (psD D).T (psD D).O) (hk : 0 ≤ k ∧ k < n) (hn : (n = D.cnt + 1 ∧ k = D.cnt) ∨ n = D.cnt) (hn12 : n ≤ 12)
    (h1 : i' 1 1 = 0) (h34 : i' 3 4 = n) (h3 : ∀ c, 5 ≤ c → i' 3 c = i 3 c) (hr : ∀ a, 2 ≤ a → a ≠ 3 → a < 504 → i' a = i a) : ClassP (putS D k n) i' (st (st r 4 k (r 3 3)) 3 3 (r 4 k)) := by
  obtain ⟨qs, qp, qd, qdp⟩ := h.rf
  have hc := h.c12
  have e4 : ∀ c, st (st r 4 k (r 3 3)) 3 3 (r 4 k) 4 c = if c = k then r 3 3 else r 4 c := by
    intro c
    rw [st_row (by decide)]
    unfold st
    by_cases e : c = k <;> simp [e]
  have e3 : st (st r 4 k (r 3 3)) 3 3 (r 4 k) 3 3 = r 4 k := st_eq
  apply ClassP.mk
  · exact h1
  · intro a b c; simp only [putS, Dat.k_many] at c; omega
  · exact h34
  · rw [h3 _ (by decide)]; exact h.inc
  · rw [h3 _ (by decide)]; exact h.tur
  · rw [h3 _ (by decide)]; exact h.bits
  · rw [h3 _ (by decide)]; exact h.fac
  · rw [hr _ (by decide) (by decide) (by decide)]; exact h.inp
  · intro m p a b; rw [hr (7 + m) (by omega) (by omega) (by omega)]; exact h.told m p a b
  · rw [hr _ (by decide) (by decide) (by decide)]; exact h.un
  · rw [hr _ (by decide) (by decide) (by decide)]; exact h.cy
  · intro j a b
    have b : j < n := b
    simp only [putS, Dat.k_F, Dat.k_N, Dat.k_T, Dat.k_O]
    rw [e4]
    have g : ∀ o, stm o → ∀ a, o ≤ a → a ≤ o + 3 → i' a = i a := fun o ho a c d => by
      have := stm_rng ho
      exact hr a (by omega) (by omega) (by omega)
    by_cases e : j = k
    · subst e
      simp only [if_pos]
      have g := g _ qp
      exact hs.congr (g _ (by omega) (by omega)) (g _ (by omega) (by omega)) (g _ (by omega) (by omega)) (g _ (by omega) (by omega))
    · simp only [if_neg e]
      have g := g _ (qs j a (by omega))
      exact (h.st j a (by omega)).congr (g _ (by omega) (by omega)) (g _ (by omega) (by omega)) (g _ (by omega) (by omega)) (g _ (by omega) (by omega))
  · rw [hr _ (by decide) (by decide) (by decide)]; exact h.ac
  · intro p k a b; rw [hr (490 + p) (by omega) (by omega) (by omega)]; exact h.ach p k a b
  · intro p k a b; rw [hr (495 + p) (by omega) (by omega) (by omega)]; exact h.apt p k a b
  · rw [hr _ (by decide) (by decide) (by decide)]; exact h.dep
  · apply RefP.mk
    · intro j a b
      rw [e4]
      split
      · exact qp
      · exact qs j a b
    · rw [e3]; exact qs k hk.1 (by omega)
    · intro j l a b c d
      rw [e4, e4]
      have u1 := qdp j a b
      have u2 := qdp l c d
      have u3 := qd j l a b c d
      split <;> split <;> omega
    · intro j a b
      rw [e4, e3]
      have u1 := qdp k hk.1 (by omega)
      have u3 := qd j k a b hk.1 (by omega)
      split
      · exact fun q => u1 q.symm
      · intro q; have := u3 q; omega
  · exact ⟨by show 0 ≤ n; omega, hn12⟩
theorem putS_ok {D : Dat} {k n : Int} (ok : DOk D) (he : (psD D).e = -1) (hk : 0 ≤ k ∧ k < n) (hn : (n = D.cnt + 1 ∧ k = D.cnt) ∨ n = D.cnt) (hn12 : n ≤ 12) (hb : n * D.fac ≤ 24) : DOk (putS D k n) := by
  obtain ⟨a1, a2, a3, a4, a5, a6, a7, a8, a9, a10, a11, a12, a13, a14, a15, a16, a17, a18, a19⟩ := ok
  refine ⟨⟨by show (0:Int) ≤ 0; omega, by show (0:Int) ≤ 24; omega⟩, ?_, ⟨by show 0 ≤ n; omega, hn12⟩, a4, hb, a6, a7, a8, a9, a10, a11, a12, a13, a14, ?_, a16, a17, a18, a19⟩
  · intro a b c; have c : a < 0 := c; omega
  · intro j a b
    have b : j < n := b
    simp only [putS, Dat.k_F, Dat.k_N, Dat.k_T, Dat.k_O]
    by_cases e : j = k
    · subst e
      simp only [if_pos]
      exact parse_ok a1.1 he
    · simp only [if_neg e]
      exact a15 j a (by omega)
theorem spAdd_ok {D : Dat} (ok : DOk D) : DOk (spAdd D).2.2 := by
  unfold spAdd
  have hc := ok.cnt
  split
  · exact ok
  · split
    · exact ok
    · rename_i h1 h2
      exact putS_ok ok (by omega) (by omega) (by omega) (by omega) (by omega)
/-- after a call of the class that may change the statements -/
def Cr (s : Int × Int × Dat) (i i' r r' : MI) (md co : Int) : Prop := (ClassP s.2.2 i' r') ∧ (Kp i i') ∧ (∀ a, 504 ≤ a → a ≠ 540 → i' a = i a) ∧ (s.1 = 0 → i' 0 9 = md ∧ i' 0 10 = co) ∧ (s.1 ≠ 0 → i' 0 = i 0 ∧ r' = r) ∧ (s.1 = 0 → i' 540 0 = jLo ((sJ s.2.1).toInt64) ∧ i' 540 1 = jHi ((sJ s.2.1).toInt64)) ∧ (∀ a, a ≠ 3 → a ≠ 4 → r' a = r a)
theorem Cr.p {s : Int × Int × Dat} {i i' r r' : MI} {md co : Int} (h0 : Cr s i i' r r' md co) : ClassP s.2.2 i' r' := h0.1
theorem Cr.k {s : Int × Int × Dat} {i i' r r' : MI} {md co : Int} (h0 : Cr s i i' r r' md co) : Kp i i' := h0.2.1
theorem Cr.f {s : Int × Int × Dat} {i i' r r' : MI} {md co : Int} (h0 : Cr s i i' r r' md co) : ∀ a, 504 ≤ a → a ≠ 540 → i' a = i a := h0.2.2.1
theorem Cr.m {s : Int × Int × Dat} {i i' r r' : MI} {md co : Int} (h0 : Cr s i i' r r' md co) : s.1 = 0 → i' 0 9 = md ∧ i' 0 10 = co := h0.2.2.2.1
theorem Cr.m' {s : Int × Int × Dat} {i i' r r' : MI} {md co : Int} (h0 : Cr s i i' r r' md co) : s.1 ≠ 0 → i' 0 = i 0 ∧ r' = r := h0.2.2.2.2.1
theorem Cr.out {s : Int × Int × Dat} {i i' r r' : MI} {md co : Int} (h0 : Cr s i i' r r' md co) : s.1 = 0 → i' 540 0 = jLo ((sJ s.2.1).toInt64) ∧ i' 540 1 = jHi ((sJ s.2.1).toInt64) := h0.2.2.2.2.2.1
theorem Cr.r {s : Int × Int × Dat} {i i' r r' : MI} {md co : Int} (h0 : Cr s i i' r r' md co) : ∀ a, a ≠ 3 → a ≠ 4 → r' a = r a := h0.2.2.2.2.2.2
theorem Cr.mk {s : Int × Int × Dat} {i i' r r' : MI} {md co : Int} (h0 : ClassP s.2.2 i' r') (h1 : Kp i i') (h2 : ∀ a, 504 ≤ a → a ≠ 540 → i' a = i a) (h3 : s.1 = 0 → i' 0 9 = md ∧ i' 0 10 = co) (h4 : s.1 ≠ 0 → i' 0 = i 0 ∧ r' = r) (h5 : s.1 = 0 → i' 540 0 = jLo ((sJ s.2.1).toInt64) ∧ i' 540 1 = jHi ((sJ s.2.1).toInt64)) (h6 : ∀ a, a ≠ 3 → a ≠ 4 → r' a = r a) : Cr s i i' r r' md co := ⟨h0, h1, h2, h3, h4, h5, h6⟩
theorem Cr.exc {D : Dat} {c : Int} {i i' r : MI} {md co : Int} (h : ClassP D i' r) (g : PF (r 3 3) i i') (hc : c ≠ 0) : Cr (c, 0, D) i i' r r md co := by
  have h9 := stm_rng h.rf.p
  refine ⟨h, fun a q => pf_row g h9.1 (by omega), fun a q _ => pf_row g h9.1 (by omega), fun q => absurd q hc, fun _ => ⟨pf_row g h9.1 (by omega), rfl⟩, fun q => absurd q hc, fun _ _ _ => rfl⟩
theorem L_add {D : Dat} {i r : MI} {Q : Int → MI → MI → Prop} (h : ClassP D i r) (ok : DOk D) (hQ : ∀ i' r', Cr (spAdd D) i i' r r' 0 0 → Q (spAdd D).1 i' r') : wp_L_add i r Q := by
  generalize hs : spAdd D = s at hQ
  unfold spAdd at hs
  simp only [wp_L_add, wp_X11_add, s58_X11_add, wp_X6_useSpare, wp_X10_empty, wp_X11_changeBody]
  refine C_fault h ok (fun i2 g h2 hst => ?_)
  have hc := ok.cnt
  have hf := ok.fac
  have h9 := stm_rng h.rf.p
  rw [h2.cnt, h2.fac, wr_of (by omega) (by omega)]
  have hm : -2147483648 ≤ (D.cnt + 1) * D.fac ∧ (D.cnt + 1) * D.fac < 2147483648 := by
    have e1 : 0 ≤ (D.cnt + 1) * D.fac := Int.mul_nonneg (by omega) (by omega)
    have e2 : (D.cnt + 1) * D.fac ≤ 13 * 4 := Int.mul_le_mul (by omega) hf.2 (by omega) (by omega)
    omega
  rw [wr_of hm.1 hm.2, wr_of (x := D.cnt + 1 - 1) (by omega) (by omega), show D.cnt + 1 - 1 = D.cnt by omega]
  refine ⟨fun e => ?_, fun e => ?_⟩
  · rw [if_neg (by omega)] at hs
    refine ⟨fun e1 => .inr ⟨trivial, ?_⟩, fun e1 => ⟨fun e2 => ⟨by omega, by omega, ?_⟩, fun e2 => .inr ⟨trivial, ?_⟩⟩⟩
    · rw [if_pos (by omega)] at hs; subst hs
      exact hQ _ _ (Cr.exc h2 g (by decide))
    · rw [if_neg (by omega)] at hs; subst hs
      refine hQ _ _ ⟨?_, ?_, ?_, fun _ => ⟨?_, ?_⟩, fun q => absurd rfl q, fun _ => ⟨?_, ?_⟩, ?_⟩
      · refine put_c h2 (hst e) (by omega) (.inl ⟨rfl, rfl⟩) (by omega) ?_ ?_ ?_ ?_
        · simp (disch := omega) only [st_row, st_ne, st_eq]
        · simp (disch := omega) only [st_row, st_ne, st_eq]
        · intro c hc; simp (disch := omega) only [st_row, st_ne, st_eq]
        · intro a x y z; simp (disch := omega) only [st_row]
      · intro a ha; simp (disch := omega) only [st_row]; exact pf_row g h9.1 (by omega)
      · intro a ha hb; simp (disch := omega) only [st_row]; exact pf_row g h9.1 (by omega)
      · simp (disch := omega) only [st_row, st_ne, st_eq]
      · simp (disch := omega) only [st_row, st_ne, st_eq]
      · simp (disch := omega) only [st_row, st_ne, st_eq]
      · simp (disch := omega) only [st_row, st_ne, st_eq]
      · intro a ha hb; simp (disch := omega) only [st_row]
    · rw [if_pos (by omega)] at hs; subst hs
      exact hQ _ _ (Cr.exc h2 g (by decide))
  · rw [if_pos e] at hs; subst hs
    exact .inl ⟨trivial, hQ _ _ (Cr.exc h2 g (by decide))⟩
theorem keep_w {D : Dat} {i r : MI} {k : Int} {Q : MI → Prop} (hk : 0 ≤ k ∧ k < 12) (hQ : ∀ i', (∀ j, 0 ≤ j → j < 13 → i' 507 (13 * k + j) = i 506 j) → (∀ c, (c < 13 * k ∨ 13 * k + 13 ≤ c) → i' 507 c = i 507 c) → (∀ a, a ≠ 504 → a ≠ 507 → i' a = i a) → (∀ c, c ≠ 1 → i' 504 c = i 504 c) → i' 504 1 = 0 → Q i') : wp_X12_keep k i r Q := by
  unfold wp_X12_keep
  refine Lp.r2 (fun x m => 0 ≤ x ∧ x ≤ 13 ∧ (∀ j, 0 ≤ j → j < x → m 507 (13 * k + j) = i 506 j) ∧ (∀ c, (c < 13 * k ∨ 13 * k + 13 ≤ c) → m 507 c = i 507 c) ∧ (∀ a, a ≠ 507 → m a = i a)) (fun x _ => (13 - x).toNat) ?_ ⟨by decide, by decide, fun j a b => by omega, fun _ _ => rfl, fun _ _ => rfl⟩
  intro x m C ⟨h0, h1, h2, h3, h4⟩ hC
  unfold b2_X12_keep
  refine ⟨fun q => ?_, fun q => ?_⟩
  · refine hQ _ (fun j a b => ?_) (fun c hc => ?_) (fun a p q => ?_) (fun c hc => ?_) st_eq
    · rw [st_row (by decide)]; exact h2 j a (by omega)
    · rw [st_row (by decide)]; exact h3 c hc
    · rw [st_row p]; exact h4 a q
    · rw [st_ne (by omega), h4 504 (by decide)]
  · rw [wr_of (x := 13 * k) (by omega) (by omega), wr_of (x := 13 * k + x) (by omega) (by omega), wr_of (x := x + 1) (by omega) (by omega)]
    refine ⟨by omega, by omega, hC _ _ ⟨by omega, by omega, fun j a b => ?_, fun c hc => ?_, fun a ha => ?_⟩ (by omega)⟩
    · by_cases e : j = x
      · subst e; rw [st_eq, h4 506 (by decide)]
      · rw [st_ne (by omega)]; exact h2 j a (by omega)
    · rw [st_ne (by omega)]; exact h3 c hc
    · rw [st_row ha]; exact h4 a ha
theorem MStm.mv {i i' : MI} {o o' b b' : Int} {F N T : Int → Int} {O : Int} (h : MStm i o b F N T O) (g : ∀ j, 0 ≤ j → j < 13 → i' o' (b' + j) = i o (b + j)) : MStm i' o' b' F N T O := by
  obtain ⟨⟨a1, a2, a3⟩, ⟨b1, b2, b3⟩, c, d⟩ := h
  have g0 := g 0 (by decide) (by decide)
  rw [Int.add_zero, Int.add_zero] at g0
  have g' : ∀ x j, x + j ≤ 12 → 0 ≤ x → 0 ≤ j → i' o' (b' + x + j) = i o (b + x + j) := fun x j h1 h2 h3 => by
    rw [Int.add_assoc, Int.add_assoc]; exact g _ (by omega) (by omega)
  refine ⟨⟨?_, ?_, ?_⟩, ⟨?_, ?_, ?_⟩, ?_, ?_⟩
  · rw [g0]; exact a1
  · rw [g _ (by decide) (by decide)]; exact a2
  · rw [g _ (by decide) (by decide), g _ (by decide) (by decide)]; exact a3
  · rw [g _ (by decide) (by decide)]; exact b1
  · rw [g' _ _ (by decide) (by decide) (by decide)]; exact b2
  · rw [g' _ _ (by decide) (by decide) (by decide), g' _ _ (by decide) (by decide) (by decide)]; exact b3
  · intro ho
    obtain ⟨c1, c2, c3⟩ := c ho
    refine ⟨?_, ?_, ?_⟩
    · rw [g _ (by decide) (by decide)]; exact c1
    · rw [g' _ _ (by decide) (by decide) (by decide)]; exact c2
    · rw [g' _ _ (by decide) (by decide) (by decide), g' _ _ (by decide) (by decide) (by decide)]; exact c3
  · rw [g _ (by decide) (by decide)]; exact d
/-- the reference keeps what was parsed -/
theorem put_m {D : Dat} {i i' : MI} {k n : Int} (h : ModelP D i) (hs : MStm i 506 0 (psD D).F (psD D).N (psD D).T (psD D).O) (hk : 0 ≤ k ∧ k < n) (hn : (n = D.cnt + 1 ∧ k = D.cnt) ∨ n = D.cnt) (hn12 : n ≤ 12)
    (h1 : ∀ j, 0 ≤ j → j < 13 → i' 507 (13 * k + j) = i 506 j) (h2 : ∀ c, (c < 13 * k ∨ 13 * k + 13 ≤ c) → i' 507 c = i 507 c) (h3 : ∀ a, a ≠ 504 → a ≠ 507 → i' a = i a) (h4 : ∀ c, c ≠ 0 → c ≠ 1 → c ≠ 6 → i' 504 c = i 504 c) (h5 : i' 504 1 = 0) (h6 : i' 504 6 = n) : ModelP (putS D k n) i' := by
  apply ModelP.mk
  · exact h5
  · intro a b c; simp only [putS, Dat.k_many] at c; omega
  · exact h6
  · rw [h4 _ (by decide) (by decide) (by decide)]; exact h.tur
  · rw [h4 _ (by decide) (by decide) (by decide)]; exact h.bits
  · rw [h4 _ (by decide) (by decide) (by decide)]; exact h.fac
  · rw [h4 _ (by decide) (by decide) (by decide)]; exact h.inc
  · rw [h3 _ (by decide) (by decide)]; exact h.inp
  · rw [h3 _ (by decide) (by decide)]; exact h.told
  · rw [h3 _ (by decide) (by decide)]; exact h.un
  · rw [h3 _ (by decide) (by decide)]; exact h.cy
  · intro j a b
    have b : j < n := b
    simp only [putS, Dat.k_F, Dat.k_N, Dat.k_T, Dat.k_O]
    by_cases e : j = k
    · subst e
      simp only [if_pos]
      exact hs.mv (fun j' a' b' => by rw [h1 j' a' b', Int.zero_add])
    · simp only [if_neg e]
      exact (h.st j a (by omega)).mv (fun j' a' b' => h2 _ (by omega))
  · rw [h3 _ (by decide) (by decide)]; exact h.ac
  · rw [h3 _ (by decide) (by decide)]; exact h.act
  · rw [h3 _ (by decide) (by decide)]; exact h.dep
theorem M_fault {D : Dat} {i r : MI} {Q : Int → MI → Prop} (h : ModelP D i) (ok : DOk D) (hQ : ∀ i', Mo (0, (psD D).e, D) (psD D).e i i' → Q (psD D).e i') : wp_X12_fault i r Q := by
  unfold wp_X12_fault
  have h0 : ModelP D (st i 504 0 0) := by ((apply ModelP.mk <;> intros <;> try (simp (disch := omega) only [st_row, st_ne, st_eq, Dat.k_many, Dat.k_tx, Dat.k_cnt, Dat.k_fac, Dat.k_tur, Dat.k_bits, Dat.k_inc, Dat.k_inp, Dat.k_told, Dat.k_un, Dat.k_cy, Dat.k_F, Dat.k_N, Dat.k_T, Dat.k_O, Dat.k_ac, Dat.k_ach, Dat.k_apt, Dat.k_dep])); all_goals (first | exact (ModelP.many h :) | exact (ModelP.cnt h :) | exact (ModelP.inc h :) | exact (ModelP.tur h :) | exact (ModelP.bits h :) | exact (ModelP.fac h :) | (apply ModelP.tx h <;> assumption) | (apply ModelP.inp h <;> assumption) | (apply ModelP.told h <;> assumption) | (apply ModelP.un h <;> assumption) | (apply ModelP.cy h <;> assumption) | (apply ModelP.ac h <;> assumption) | (apply ModelP.act h <;> assumption) | (apply ModelP.dep h <;> assumption) | ((repeat' (apply MStm.st')); (apply ModelP.st h <;> assumption); (all_goals decide)) | (exfalso; (try simp only [Dat.k_many, Dat.k_tx, Dat.k_cnt, Dat.k_fac, Dat.k_tur, Dat.k_bits, Dat.k_inc, Dat.k_inp, Dat.k_told, Dat.k_un, Dat.k_cy, Dat.k_F, Dat.k_N, Dat.k_T, Dat.k_O, Dat.k_ac, Dat.k_ach, Dat.k_apt, Dat.k_dep] at *); omega) | (have u1 := ModelP.tx h; have u2 := ModelP.inp h; have u3 := ModelP.told h; have u4 := ModelP.un h; have u5 := ModelP.cy h; have u6 := ModelP.ac h; have u7 := ModelP.act h; have u9 := ModelP.dep h; (try simp only [Dat.k_many, Dat.k_tx, Dat.k_cnt, Dat.k_fac, Dat.k_tur, Dat.k_bits, Dat.k_inc, Dat.k_inp, Dat.k_told, Dat.k_un, Dat.k_cy, Dat.k_F, Dat.k_N, Dat.k_T, Dat.k_O, Dat.k_ac, Dat.k_ach, Dat.k_apt, Dat.k_dep] at *); unfold Pilot.CSchedularyLaw_law_r7114_237193.st; grind) | skip))
  refine M_parse h0 ok (fun i' g m s => hQ _ ⟨m, ?_, ?_, fun _ => rfl⟩)
  · intro a ha; rw [g.1 a (by omega) (by omega), st_row (by omega)]
  · show i' 504 0 = 0
    rw [g.2 0 (by decide) (by decide), st_eq]
theorem M_add {D : Dat} {i r : MI} {Q : Int → MI → Prop} (h : ModelP D i) (ok : DOk D) (hQ : ∀ v i', Mo (spAdd D) v i i' → Q v i') : wp_X12_add i r Q := by
  generalize hs : spAdd D = s at hQ
  unfold spAdd at hs
  simp only [wp_X12_add, s19_X12_add, s52_X12_add, s57_X12_add, s64_X12_add]
  have h0 : ModelP D (st i 504 0 0) := by ((apply ModelP.mk <;> intros <;> try (simp (disch := omega) only [st_row, st_ne, st_eq, Dat.k_many, Dat.k_tx, Dat.k_cnt, Dat.k_fac, Dat.k_tur, Dat.k_bits, Dat.k_inc, Dat.k_inp, Dat.k_told, Dat.k_un, Dat.k_cy, Dat.k_F, Dat.k_N, Dat.k_T, Dat.k_O, Dat.k_ac, Dat.k_ach, Dat.k_apt, Dat.k_dep])); all_goals (first | exact (ModelP.many h :) | exact (ModelP.cnt h :) | exact (ModelP.inc h :) | exact (ModelP.tur h :) | exact (ModelP.bits h :) | exact (ModelP.fac h :) | (apply ModelP.tx h <;> assumption) | (apply ModelP.inp h <;> assumption) | (apply ModelP.told h <;> assumption) | (apply ModelP.un h <;> assumption) | (apply ModelP.cy h <;> assumption) | (apply ModelP.ac h <;> assumption) | (apply ModelP.act h <;> assumption) | (apply ModelP.dep h <;> assumption) | ((repeat' (apply MStm.st')); (apply ModelP.st h <;> assumption); (all_goals decide)) | (exfalso; (try simp only [Dat.k_many, Dat.k_tx, Dat.k_cnt, Dat.k_fac, Dat.k_tur, Dat.k_bits, Dat.k_inc, Dat.k_inp, Dat.k_told, Dat.k_un, Dat.k_cy, Dat.k_F, Dat.k_N, Dat.k_T, Dat.k_O, Dat.k_ac, Dat.k_ach, Dat.k_apt, Dat.k_dep] at *); omega) | (have u1 := ModelP.tx h; have u2 := ModelP.inp h; have u3 := ModelP.told h; have u4 := ModelP.un h; have u5 := ModelP.cy h; have u6 := ModelP.ac h; have u7 := ModelP.act h; have u9 := ModelP.dep h; (try simp only [Dat.k_many, Dat.k_tx, Dat.k_cnt, Dat.k_fac, Dat.k_tur, Dat.k_bits, Dat.k_inc, Dat.k_inp, Dat.k_told, Dat.k_un, Dat.k_cy, Dat.k_F, Dat.k_N, Dat.k_T, Dat.k_O, Dat.k_ac, Dat.k_ach, Dat.k_apt, Dat.k_dep] at *); unfold Pilot.CSchedularyLaw_law_r7114_237193.st; grind) | skip))
  refine M_parse h0 ok (fun i2 g h2 hst => ?_)
  have z0 : i2 504 0 = 0 := by rw [g.2 0 (by decide) (by decide), st_eq]
  have hc := ok.cnt
  have hf := ok.fac
  have hm : -2147483648 ≤ (D.cnt + 1) * D.fac ∧ (D.cnt + 1) * D.fac < 2147483648 := by
    have e1 : 0 ≤ (D.cnt + 1) * D.fac := Int.mul_nonneg (by omega) (by omega)
    have e2 : (D.cnt + 1) * D.fac ≤ 13 * 4 := Int.mul_le_mul (by omega) hf.2 (by omega) (by omega)
    omega
  have fr : ∀ a, a < 504 ∨ 540 ≤ a → i2 a = i a := fun a ha => by rw [g.1 a (by omega) (by omega), st_row (by omega)]
  have exc : ∀ c, c ≠ 0 → s = (c, 0, D) → Q 0 (st i2 504 0 c) := by
    intro c hc e
    rw [e] at hQ
    refine hQ _ _ ⟨?_, ?_, ?_, fun q => absurd q hc⟩
    · ((apply ModelP.mk <;> intros <;> try (simp (disch := omega) only [st_row, st_ne, st_eq, Dat.k_many, Dat.k_tx, Dat.k_cnt, Dat.k_fac, Dat.k_tur, Dat.k_bits, Dat.k_inc, Dat.k_inp, Dat.k_told, Dat.k_un, Dat.k_cy, Dat.k_F, Dat.k_N, Dat.k_T, Dat.k_O, Dat.k_ac, Dat.k_ach, Dat.k_apt, Dat.k_dep])); all_goals (first | exact (ModelP.many h2 :) | exact (ModelP.cnt h2 :) | exact (ModelP.inc h2 :) | exact (ModelP.tur h2 :) | exact (ModelP.bits h2 :) | exact (ModelP.fac h2 :) | (apply ModelP.tx h2 <;> assumption) | (apply ModelP.inp h2 <;> assumption) | (apply ModelP.told h2 <;> assumption) | (apply ModelP.un h2 <;> assumption) | (apply ModelP.cy h2 <;> assumption) | (apply ModelP.ac h2 <;> assumption) | (apply ModelP.act h2 <;> assumption) | (apply ModelP.dep h2 <;> assumption) | ((repeat' (apply MStm.st')); (apply ModelP.st h2 <;> assumption); (all_goals decide)) | (exfalso; (try simp only [Dat.k_many, Dat.k_tx, Dat.k_cnt, Dat.k_fac, Dat.k_tur, Dat.k_bits, Dat.k_inc, Dat.k_inp, Dat.k_told, Dat.k_un, Dat.k_cy, Dat.k_F, Dat.k_N, Dat.k_T, Dat.k_O, Dat.k_ac, Dat.k_ach, Dat.k_apt, Dat.k_dep] at *); omega) | (have u1 := ModelP.tx h2; have u2 := ModelP.inp h2; have u3 := ModelP.told h2; have u4 := ModelP.un h2; have u5 := ModelP.cy h2; have u6 := ModelP.ac h2; have u7 := ModelP.act h2; have u9 := ModelP.dep h2; (try simp only [Dat.k_many, Dat.k_tx, Dat.k_cnt, Dat.k_fac, Dat.k_tur, Dat.k_bits, Dat.k_inc, Dat.k_inp, Dat.k_told, Dat.k_un, Dat.k_cy, Dat.k_F, Dat.k_N, Dat.k_T, Dat.k_O, Dat.k_ac, Dat.k_ach, Dat.k_apt, Dat.k_dep] at *); unfold Pilot.CSchedularyLaw_law_r7114_237193.st; grind) | skip))
    · intro a ha; rw [st_row (by omega)]; exact fr a ha
    · exact st_eq
  by_cases e : (psD D).e = -1
  · rw [if_neg (by omega)] at hs
    refine ⟨fun _ => ?_, fun q => absurd e q⟩
    rw [fails_eq (by decide), if_pos (.inl rfl)]
    refine ⟨fun _ => ?_, fun q => absurd (bz_0.2 (by omega)) q⟩
    rw [h2.cnt, h2.fac, wr_of (x := D.cnt + 1) (by omega) (by omega), wr_of hm.1 hm.2]
    have k52 : 12 < D.cnt + 1 ∨ 24 < (D.cnt + 1) * D.fac → wp_X12_fails 1 2 i2 r (fun v1 i2 => (v1 = 0 → wp_X12_keep (i2 504 6) i2 r fun i12 => Q (st i12 504 6 (wr (i12 504 6 + 1)) 504 6) (st i12 504 6 (wr (i12 504 6 + 1)))) ∧ (¬v1 = 0 → Q 0 i2)) := by
      intro hh
      rw [if_pos hh] at hs
      rw [fails_eq (by decide), if_neg (by omega)]
      exact ⟨fun q => absurd q (by decide), fun _ => exc 2 (by decide) hs.symm⟩
    refine ⟨fun e1 => k52 (by omega), fun e1 => ⟨fun e2 => ?_, fun e2 => k52 (by omega)⟩⟩
    rw [if_neg (by omega)] at hs; subst hs
    rw [fails_eq (by decide), if_pos (.inl rfl)]
    refine ⟨fun _ => ?_, fun q => absurd (bz_0.2 (by omega)) q⟩
    rw [h2.cnt]
    refine keep_w (D := D) (by omega) (fun i3 k1 k2 k3 k4 k5 => ?_)
    rw [st_eq, k4 6 (by decide), h2.cnt, wr_of (by omega) (by omega)]
    refine hQ _ _ ⟨?_, ?_, ?_, fun _ => rfl⟩
    · refine put_m h2 (hst e) (by omega) (.inl ⟨rfl, rfl⟩) (by omega) ?_ ?_ ?_ ?_ ?_ st_eq
      · intro j a b; rw [st_row (by decide)]; exact k1 j a b
      · intro c hc; rw [st_row (by decide)]; exact k2 c hc
      · intro a p q; rw [st_row p]; exact k3 a p q
      · intro c p q w; rw [st_ne (by omega)]; exact k4 c q
      · rw [st_ne (by omega)]; exact k5
    · intro a ha; rw [st_row (by omega), k3 a (by omega) (by omega)]; exact fr a ha
    · rw [st_ne (by omega), k4 _ (by decide)]; exact z0
  · rw [if_pos e] at hs
    refine ⟨fun q => absurd q e, fun _ => ?_⟩
    rw [fails_eq (by decide), if_neg (by omega)]
    exact ⟨fun q => absurd q (by decide), fun _ => exc 1 (by decide) hs.symm⟩
