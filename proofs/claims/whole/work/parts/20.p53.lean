/-! ===== rings: the reference ===== -/
def G1 (i i' : MI) : Prop := ∀ a, a ≠ 533 → i' a = i a
theorem G1.refl (i : MI) : G1 i i := fun _ _ => rfl
theorem G1.trans {i j k : MI} (h : G1 i j) (g : G1 j k) : G1 i k := fun a x => (g a x).trans (h a x)
theorem G1.sa {k v : Int} {i : MI} : G1 i (st i 533 k v) := fun b x => st_row x
theorem G1.fy {i i' : MI} (h : G1 i i') : FY i i' := ⟨fun a _ x => h a (by omega), fun c _ => by rw [h 504 (by decide)]⟩
/-- edges ahead of a place in the list -/
def befM (D : Dat) (i : MI) (e0 : Int) : RS := fun f t d w => Ed D f t d w ∧ ∃ e, 0 ≤ e ∧ e < e0 ∧ i 523 e = f ∧ i 524 e = t ∧ i 525 e = d ∧ i 526 e = w
def PY (D : Dat) (T : Int) (i : MI) (B k : Int) (P : RS) (x : Int) (m : MI) : Prop := (G1 i m) ∧ (PA D T (i 533) (m 533) P) ∧ ((x = 0 ∧ ∀ v, 0 ≤ v → v < nn D → m 533 v = i 533 v) ∨ (x = 1 ∧ ∃ v, 0 ≤ v ∧ v < nn D ∧ i 533 v < m 533 v)) ∧ (∀ v, 0 ≤ v → v < nn D → m 533 v ≤ B + 5 * k)
theorem PY.fr {D : Dat} {T : Int} {i : MI} {B k : Int} {P : RS} {x : Int} {m : MI} (h0 : PY D T i B k P x m) : G1 i m := h0.1
theorem PY.pa {D : Dat} {T : Int} {i : MI} {B k : Int} {P : RS} {x : Int} {m : MI} (h0 : PY D T i B k P x m) : PA D T (i 533) (m 533) P := h0.2.1
theorem PY.mx {D : Dat} {T : Int} {i : MI} {B k : Int} {P : RS} {x : Int} {m : MI} (h0 : PY D T i B k P x m) : (x = 0 ∧ ∀ v, 0 ≤ v → v < nn D → m 533 v = i 533 v) ∨ (x = 1 ∧ ∃ v, 0 ≤ v ∧ v < nn D ∧ i 533 v < m 533 v) := h0.2.2.1
theorem PY.bd {D : Dat} {T : Int} {i : MI} {B k : Int} {P : RS} {x : Int} {m : MI} (h0 : PY D T i B k P x m) : ∀ v, 0 ≤ v → v < nn D → m 533 v ≤ B + 5 * k := h0.2.2.2
theorem PY.mk {D : Dat} {T : Int} {i : MI} {B k : Int} {P : RS} {x : Int} {m : MI} (h0 : G1 i m) (h1 : PA D T (i 533) (m 533) P) (h2 : (x = 0 ∧ ∀ v, 0 ≤ v → v < nn D → m 533 v = i 533 v) ∨ (x = 1 ∧ ∃ v, 0 ≤ v ∧ v < nn D ∧ i 533 v < m 533 v)) (h3 : ∀ v, 0 ≤ v → v < nn D → m 533 v ≤ B + 5 * k) : PY D T i B k P x m := ⟨h0, h1, h2, h3⟩
theorem hasRing_w {D : Dat} (ok : DOk D) {i r : MI} {T : Int} {Q : Int → MI → Prop} (h : ME D i) (hT : 1 ≤ T ∧ T ≤ 481) (h1 : ∀ m, G1 i m → CanR D T → Q 0 m) (h0 : ∀ m, G1 i m → ¬ CanR D T → Q 1 m) : wp_X12_hasRing T i r Q := by
  have hn := nn_le ok
  have el := h.g.le ok
  have e00 := h.g.n
  unfold wp_X12_hasRing
  refine Lp.r2 (fun (x : Int) (m : MI) => 0 ≤ x ∧ x ≤ nn D ∧ G1 i m ∧ ∀ v, 0 ≤ v → v < x → m 533 v = 0) (fun x _ => (nn D - x).toNat) ?_ ⟨by decide, hn.1, G1.refl i, fun v a b => by omega⟩
  intro x m C ⟨x0, x1, j, jz⟩ hC
  dsimp only [b2_X12_hasRing]
  rw [(h.fy j.fy).w.n]
  refine ⟨fun q => ?_, fun q => ⟨by omega, ?_⟩⟩
  · refine Lp.r3 (fun (y k : Int) (m : MI) => 0 ≤ k ∧ k ≤ nn D + 1 ∧ G1 i m ∧ ((y = 0 ∧ CanR D T) ∨ (y = 1 ∧ (∀ v, 0 ≤ v → v < nn D → 0 ≤ m 533 v ∧ m 533 v ≤ 50000 * k) ∧ ∀ M, Least D T M → k ≤ eqN (m 533) M (nn D).toNat ∧ ∀ v, 0 ≤ v → v < nn D → m 533 v ≤ M v))) (fun _ k _ => (nn D + 1 - k).toNat) ?_ ⟨by decide, by omega, j, .inr ⟨rfl, fun v a b => by rw [jz v a (by omega)]; omega, fun M hM => ⟨(eqN_b _).1, fun v a b => by rw [jz v a (by omega)]; exact hM.f.z v a b⟩⟩⟩
    intro y k m C2 ⟨k0, k1, f, hy⟩ hC2
    dsimp only [b27_X12_hasRing, s130_X12_hasRing]
    have me := h.fy f.fy
    have m30 : m 504 30 = i 504 30 := by rw [f 504 (by decide)]
    have e3 : ∀ a, 523 ≤ a → a ≤ 526 → m a = i a := fun a _ _ => f a (by omega)
    rw [me.w.n]
    have fin : y = 0 ∨ nn D < k → (y = 0 ∨ y = 1) ∧ Q y m := by
      intro w
      rcases hy with ⟨rfl, c⟩ | ⟨rfl, _, kM⟩
      · exact ⟨.inl rfl, h1 m f c⟩
      · refine ⟨.inr rfl, h0 m f (fun c => ?_)⟩
        obtain ⟨M, hM⟩ := least_ex ok c
        have := (eqN_b (p := m 533) (q := M) (nn D).toNat).2.1
        have := (kM M hM).1
        omega
    refine ⟨fun q1 => fin (.inr q1), fun q1 => ⟨fun q2 => fin (.inl q2), fun q2 => ?_⟩⟩
    rcases hy with ⟨z, _⟩ | ⟨_, kb, kM⟩
    · exact absurd z q2
    refine Lp.r3 (fun (y e : Int) (m' : MI) => 0 ≤ e ∧ e ≤ i 504 30 ∧ PY D T m (50000 * k) e (befM D i e) y m') (fun _ e _ => (i 504 30 - e).toNat) ?_ ⟨by decide, by omega, ⟨G1.refl m, PA.zero (fun f t d w z => ?_), .inl ⟨rfl, fun _ _ _ => rfl⟩, fun v a b => by have := kb v a b; omega⟩⟩
    · intro y' e m' C3 ⟨e0, e1, p⟩ hC3
      dsimp only [b44_X12_hasRing, s118_X12_hasRing]
      rw [p.fr 504 (by decide), m30, p.fr 523 (by decide), p.fr 524 (by decide), p.fr 525 (by decide), p.fr 526 (by decide), e3 523 (by decide) (by decide), e3 524 (by decide) (by decide), e3 525 (by decide) (by decide), e3 526 (by decide) (by decide)]
      refine ⟨fun q3 => ?_, fun q3 => ?_⟩
      · rw [wr_of (x := k + 1) (by omega) (by omega)]
        have pa : PA D T (m 533) (m' 533) (Ed D) := ⟨p.pa.b, fun f' t d w z => p.pa.e f' t d w ⟨z, by
          obtain ⟨e', a, b, c⟩ := h.g.fd z
          exact ⟨e', a, by omega, c⟩⟩, p.pa.m⟩
        refine hC2 _ _ _ ⟨by omega, by omega, f.trans p.fr, ?_⟩ (by omega)
        rcases p.mx with ⟨z, zs⟩ | ⟨z, zx⟩
        · refine .inl ⟨z, m' 533, fun v a b => by have := kb v a b; have := zs v a b; omega, fun f t d w ed => ?_⟩
          have := pa.e f t d w ed
          rw [zs f (ed_props ok ed).1.1 (ed_props ok ed).1.2]
          exact this
        · refine .inr ⟨z, fun v a b => ?_, fun M hM => ?_⟩
          · have := kb v a b
            have := p.pa.b v a b
            have := p.bd v a b
            omega
          · have := round_lt ok hM (fun v a b => ⟨(kb v a b).1, (kM M hM).2 v a b⟩) pa ⟨k0, (kM M hM).1⟩ zx
            exact ⟨this.1, fun v a b => (this.2 v a b).2⟩
      · have ed := h.g.ed (e := e) ⟨e0, by omega⟩
        obtain ⟨⟨f0, f1⟩, ⟨t0, t1⟩, d0, d1, _, w0, w1⟩ := ed_props ok ed
        have cx := cyv_r ok (v := i 523 e) ⟨f0, f1⟩
        have td := td_b (T := T) (by omega) ⟨d0, d1⟩
        have b1 := p.bd _ f0 f1
        have b0 := p.pa.b _ f0 f1
        have b2 := kb _ f0 f1
        have hP : ∀ f' t' d' w', befM D i (e + 1) f' t' d' w' → befM D i e f' t' d' w' ∨ (f' = i 523 e ∧ t' = i 524 e ∧ d' = i 525 e ∧ w' = i 526 e) := by
          rintro f' t' d' w' ⟨z, e', a, b, c⟩
          by_cases ee : e' = e
          · rw [ee] at c; exact .inr ⟨c.1.symm, c.2.1.symm, c.2.2.1.symm, c.2.2.2.symm⟩
          · exact .inl ⟨z, e', a, by omega, c⟩
        rw [wr_of (x := m' 533 (i 523 e) + i 526 e) (by omega) (by omega), wr_of (x := T * i 525 e) (by omega) (by omega), wr_of (x := m' 533 (i 523 e) + i 526 e - T * i 525 e) (by omega) (by omega), wr_of (x := e + 1) (by omega) (by omega)]
        refine ⟨by omega, by omega, by omega, by omega, by omega, by omega, fun q4 => ?_, fun q4 => ⟨by omega, by omega, ?_⟩⟩
        · exact hC3 _ _ _ ⟨by omega, by omega, ⟨p.fr, p.pa.skip ok ed q4 hP, p.mx, fun v a b => by have := p.bd v a b; omega⟩⟩ (by omega)
        · have tb := p.pa.b _ t0 t1
          refine hC3 _ _ _ ⟨by omega, by omega, ⟨p.fr.trans G1.sa, p.pa.up ok ed (by omega) hP st_eq (fun v z => st_ne (by omega)), .inr ⟨rfl, _, t0, t1, by rw [st_eq]; omega⟩, fun v a b => ?_⟩⟩ (by omega)
          have := p.bd v a b
          by_cases vt : v = i 524 e
          · rw [vt, st_eq]; omega
          · rw [st_ne (by omega)]; omega
    · obtain ⟨_, e', a, b, _⟩ := z
      omega
  · rw [wr_of (x := x + 1) (by omega) (by omega)]
    refine hC _ _ ⟨by omega, by omega, j.trans G1.sa, fun v a b => ?_⟩ (by omega)
    by_cases z : v = x
    · rw [z, st_eq]
    · rw [st_ne (by omega)]; exact jz v a (by omega)
theorem rings_w {D : Dat} (ok : DOk D) {i r : MI} {Q : Int → MI → Prop} (h : ME D i) (hQ : ∀ T m, G1 i m → IsRing D T → Q T m) : wp_X12_rings i r Q := by
  have s4 := sum480 ok
  unfold wp_X12_rings
  refine Lp.r2 (fun (T : Int) (m : MI) => 1 ≤ T ∧ T ≤ 481 ∧ G1 i m ∧ ∀ c, 1 ≤ c → c < T → ¬ CanR D c) (fun T _ => (481 - T).toNat) ?_ ⟨by decide, by decide, G1.refl i, fun c a b => by omega⟩
  intro T m C ⟨T1, T2, f, no⟩ hC
  dsimp only [b2_X12_rings]
  refine hasRing_w ok (h.fy f.fy) (by omega) (fun m' f' c => ⟨fun _ => hQ T m' (f.trans f') ⟨T1, c, no⟩, fun q => absurd rfl q⟩) (fun m' f' c => ⟨fun q => absurd q (by decide), fun _ => ?_⟩)
  have : T ≤ 480 := Classical.byContradiction fun w => c (canR_sum ok (by omega))
  rw [wr_of (x := T + 1) (by omega) (by omega)]
  refine hC _ _ ⟨by omega, by omega, f.trans f', fun c' a b => ?_⟩ (by omega)
  by_cases z : c' = T
  · rw [z]; exact c
  · exact no c' a (by omega)
