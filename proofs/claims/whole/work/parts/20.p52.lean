/-! ===== rings: the class ===== -/
theorem M2.fl {D : Dat} (ok : DOk D) {i i' : MI} (h : M2 D i) (g : ∀ a, a < 462 → i' a = i a) : M2 D i' := by
  have hn := nn_le ok
  refine ⟨?_, ?_, ?_, ?_, h.r, ?_⟩
  · rw [g _ (by omega)]; exact h.z
  · intro f e f0 f1; rw [g 460 (by omega), g _ (by omega), g _ (by omega), g _ (by omega)]; exact h.e f e f0 f1
  · intro f t d w hS
    have hf := hS.1
    have hf1 := hS.2.1
    rw [g 460 (by omega), g _ (by omega), g _ (by omega)]; exact h.s f t d w hS
  · intro f e e' f0 f1; rw [g 460 (by omega), g _ (by omega), g _ (by omega)]; exact h.u f e e' f0 f1
  · rw [g _ (by omega)]; exact h.c
theorem NV.fl {D : Dat} (ok : DOk D) {i i' : MI} (h : NV D i) (g : ∀ a, a < 462 → i' a = i a) : NV D i' := by
  have hn := nn_le ok
  refine ⟨by rw [g _ (by omega)]; exact h.n, fun v c v0 v1 c0 c1 => ?_, by rw [g _ (by omega)]; exact h.y⟩
  rw [g _ (by omega)]
  exact h.a v c v0 v1 c0 c1
theorem sumOf_w {D : Dat} (ok : DOk D) {i r : MI} {Q : Int → Prop} (h : NV D i) (hQ : Q (sumC D (nn D))) : wp_X0_sumOfCycles i r Q := by
  have hn := nn_le ok
  unfold wp_X0_sumOfCycles
  refine Lp.r2 (fun (s x : Int) => 0 ≤ x ∧ x ≤ nn D ∧ s = sumC D x) (fun _ x => (nn D - x).toNat) ?_ ⟨by decide, hn.1, rfl⟩
  intro s x C ⟨h0, h1, h2⟩ hC
  dsimp only [b4_X0_sumOfCycles]
  rw [h.n]
  refine ⟨fun q => ?_, fun q => cyc_w ok h ⟨h0, by omega⟩ ?_⟩
  · rw [h2, show x = nn D by omega]; exact hQ
  · have sb := sumC_b ok h0 h1
    have cx := cyv_r ok (v := x) ⟨h0, by omega⟩
    rw [wr_of (x := s + cyv D x) (by omega) (by omega), wr_of (x := x + 1) (by omega) (by omega)]
    exact hC _ _ ⟨by omega, by omega, by rw [sumC_s h0, h2]⟩ (by omega)
theorem sum480 {D : Dat} (ok : DOk D) : 0 ≤ sumC D (nn D) ∧ sumC D (nn D) ≤ 480 := by
  have hn := nn_le ok
  have := sumC_b ok hn.1 (Int.le_refl _)
  omega
theorem td_b {T d : Int} (h : 0 ≤ T ∧ T ≤ 481) (hd : 0 ≤ d ∧ d ≤ 21) : 0 ≤ T * d ∧ T * d ≤ 10101 := by
  refine ⟨Int.mul_nonneg h.1 hd.1, ?_⟩
  have a := Int.mul_le_mul_of_nonneg_left hd.2 h.1
  omega
theorem eqN_all {p q : Int → Int} : ∀ n : Nat, (∀ v : Int, 0 ≤ v → v < n → p v = q v) → eqN p q n = n := by
  intro n
  induction n with
  | zero => intro _; rfl
  | succ n ih =>
    intro h
    show eqN p q n + (if p n = q n then 1 else 0) = _
    rw [ih (fun v a b => h v a (by omega)), if_pos (h n (by omega) (by omega))]
    omega
/-- a further round, in which something became heavier, is of some use -/
theorem round_lt {D : Dat} (ok : DOk D) {T k : Int} {M p p' : Int → Int} (h : Least D T M) (h0 : ∀ v, 0 ≤ v → v < nn D → 0 ≤ p v ∧ p v ≤ M v) (a : PA D T p p' (Ed D)) (hk : 0 ≤ k ∧ k ≤ eqN p M (nn D).toNat) (hx : ∃ v, 0 ≤ v ∧ v < nn D ∧ p v < p' v) : k + 1 ≤ eqN p' M (nn D).toNat ∧ ∀ v, 0 ≤ v → v < nn D → 0 ≤ p' v ∧ p' v ≤ M v := by
  have hn := nn_le ok
  have up := a.m M h.f (fun v x y => (h0 v x y).2)
  have all : ∀ v, 0 ≤ v → v < nn D → 0 ≤ p' v ∧ p' v ≤ M v := fun v x y => ⟨by have := h0 v x y; have := a.b v x y; omega, up v x y⟩
  refine ⟨?_, all⟩
  rcases round_more ok h (p' := p') (fun v x y => ⟨(h0 v x y).1, a.b v x y, up v x y⟩) a.e with z | z
  · rw [eqN_all _ (fun v x y => z v x (by omega))]
    obtain ⟨b0, b1, b2⟩ := eqN_b (p := p) (q := M) (nn D).toNat
    by_cases w : eqN p M (nn D).toNat = ((nn D).toNat : Int)
    · obtain ⟨v, x, y, c⟩ := hx
      have := b2 w v x (by omega)
      have := up v x y
      omega
    · omega
  · omega
/-- edges ahead of a place in the rows -/
def befE (D : Dat) (i : MI) (f0 e0 : Int) : RS := fun f t d w => Ed D f t d w ∧ (f < f0 ∨ (f = f0 ∧ ∃ e, 0 ≤ e ∧ e < e0 ∧ i (170 + f) e = t ∧ i (267 + f) e = d ∧ i (364 + f) e = w))
def F1 (i i' : MI) : Prop := ∀ a, a ≠ 471 → i' a = i a
theorem F1.refl (i : MI) : F1 i i := fun _ _ => rfl
theorem F1.trans {i j k : MI} (h : F1 i j) (g : F1 j k) : F1 i k := fun a x => (g a x).trans (h a x)
theorem F1.sa {k v : Int} {i : MI} : F1 i (st i 471 k v) := fun b x => st_row x
def PX (D : Dat) (T : Int) (i : MI) (B k : Int) (P : RS) (x : Int) (m : MI) : Prop := (F1 i m) ∧ (PA D T (i 471) (m 471) P) ∧ ((x = -1 ∧ ∀ v, 0 ≤ v → v < nn D → m 471 v = i 471 v) ∨ (0 ≤ x ∧ (∃ v, 0 ≤ v ∧ v < nn D ∧ i 471 v < m 471 v) ∧ ∃ v, 0 ≤ v ∧ v < nn D ∧ x ≤ m 471 v)) ∧ (∀ v, 0 ≤ v → v < nn D → m 471 v ≤ max (i 471 v) x) ∧ (∀ v, 0 ≤ v → v < nn D → m 471 v ≤ B + 5 * k)
theorem PX.fr {D : Dat} {T : Int} {i : MI} {B k : Int} {P : RS} {x : Int} {m : MI} (h0 : PX D T i B k P x m) : F1 i m := h0.1
theorem PX.pa {D : Dat} {T : Int} {i : MI} {B k : Int} {P : RS} {x : Int} {m : MI} (h0 : PX D T i B k P x m) : PA D T (i 471) (m 471) P := h0.2.1
theorem PX.mx {D : Dat} {T : Int} {i : MI} {B k : Int} {P : RS} {x : Int} {m : MI} (h0 : PX D T i B k P x m) : (x = -1 ∧ ∀ v, 0 ≤ v → v < nn D → m 471 v = i 471 v) ∨ (0 ≤ x ∧ (∃ v, 0 ≤ v ∧ v < nn D ∧ i 471 v < m 471 v) ∧ ∃ v, 0 ≤ v ∧ v < nn D ∧ x ≤ m 471 v) := h0.2.2.1
theorem PX.up {D : Dat} {T : Int} {i : MI} {B k : Int} {P : RS} {x : Int} {m : MI} (h0 : PX D T i B k P x m) : ∀ v, 0 ≤ v → v < nn D → m 471 v ≤ max (i 471 v) x := h0.2.2.2.1
theorem PX.bd {D : Dat} {T : Int} {i : MI} {B k : Int} {P : RS} {x : Int} {m : MI} (h0 : PX D T i B k P x m) : ∀ v, 0 ≤ v → v < nn D → m 471 v ≤ B + 5 * k := h0.2.2.2.2
theorem PX.mk {D : Dat} {T : Int} {i : MI} {B k : Int} {P : RS} {x : Int} {m : MI} (h0 : F1 i m) (h1 : PA D T (i 471) (m 471) P) (h2 : (x = -1 ∧ ∀ v, 0 ≤ v → v < nn D → m 471 v = i 471 v) ∨ (0 ≤ x ∧ (∃ v, 0 ≤ v ∧ v < nn D ∧ i 471 v < m 471 v) ∧ ∃ v, 0 ≤ v ∧ v < nn D ∧ x ≤ m 471 v)) (h3 : ∀ v, 0 ≤ v → v < nn D → m 471 v ≤ max (i 471 v) x) (h4 : ∀ v, 0 ≤ v → v < nn D → m 471 v ≤ B + 5 * k) : PX D T i B k P x m := ⟨h0, h1, h2, h3, h4⟩
theorem pushAll_w {D : Dat} (ok : DOk D) {i r : MI} {T B : Int} {Q : Int → MI → Prop} (h : NV D i) (g : M2 D i) (hT : 1 ≤ T ∧ T ≤ 480) (hB : 0 ≤ B ∧ B ≤ 1000) (hp : ∀ v, 0 ≤ v → v < nn D → 0 ≤ i 471 v ∧ i 471 v ≤ B) (hQ : ∀ x m, PX D T i B 100000 (Ed D) x m → Q x m) : wp_X4_pushAll T i r Q := by
  have hn := nn_le ok
  unfold wp_X4_pushAll
  refine Lp.r3 (fun (x f : Int) (m : MI) => 0 ≤ f ∧ f ≤ nn D ∧ PX D T i B (100 * f) (befE D i f 0) x m) (fun _ f _ => (nn D - f).toNat) ?_ ⟨by decide, hn.1, ⟨F1.refl i, PA.zero (fun f t d w z => ?_), .inl ⟨rfl, fun _ _ _ => rfl⟩, fun v a b => by omega, fun v a b => by have := hp v a b; omega⟩⟩
  · intro x f m C ⟨f0, f1, j⟩ hC
    dsimp only [b6_X4_pushAll]
    have hv : NV D m := h.fl ok (fun a q => j.fr a (by omega))
    rw [hv.n]
    refine ⟨fun q => hQ x m ⟨j.fr, ⟨j.pa.b, fun f' t d w z => j.pa.e f' t d w ⟨z, .inl ?_⟩, j.pa.m⟩, j.mx, j.up, fun v a b => by have := j.bd v a b; omega⟩, fun q => ?_⟩
    · have := ed_props ok z
      omega
    have gz := g.z f f0 (by omega)
    refine Lp.r3 (fun (x e : Int) (m : MI) => 0 ≤ e ∧ e ≤ i 460 f ∧ PX D T i B (100 * f + e) (befE D i f e) x m) (fun _ e _ => (i 460 f - e).toNat) ?_ ⟨by decide, by omega, by rw [Int.add_zero]; exact j⟩
    intro x e m C2 ⟨e0, e1, k⟩ hC2
    dsimp only [b18_X4_pushAll, s105_X4_pushAll]
    rw [k.fr 460 (by decide), k.fr (170 + f) (by omega), k.fr (267 + f) (by omega), k.fr (364 + f) (by omega)]
    refine ⟨by omega, fun q1 => ?_, fun q1 => ?_⟩
    · rw [wr_of (x := f + 1) (by omega) (by omega)]
      refine hC _ _ _ ⟨by omega, by omega, ⟨k.fr, ⟨k.pa.b, fun f' t d w z => k.pa.e f' t d w ⟨z.1, ?_⟩, k.pa.m⟩, k.mx, k.up, fun v a b => by have := k.bd v a b; omega⟩⟩ (by omega)
      rcases z.2 with z2 | ⟨rfl, e', a, b, _⟩
      · by_cases w' : f' = f
        · refine .inr ⟨w', ?_⟩
          rw [w'] at z
          obtain ⟨e', a, b, c⟩ := GrC.fd ok g z.1
          exact ⟨e', a, by omega, by rw [w']; exact c⟩
        · exact .inl (by omega)
      · omega
    · have ed := GrC.ed ok g (f := f) (e := e) ⟨f0, by omega⟩ ⟨e0, by omega⟩
      obtain ⟨_, ⟨t0, t1⟩, d0, d1, _, w0, w1⟩ := ed_props ok ed
      have cx := cyv_r ok (v := f) ⟨f0, by omega⟩
      have td := td_b (T := T) (by omega) ⟨d0, d1⟩
      have b1 := k.bd f f0 (by omega)
      have b0 := k.pa.b f f0 (by omega)
      have b2 := hp f f0 (by omega)
      have hP : ∀ f' t' d' w', befE D i f (e + 1) f' t' d' w' → befE D i f e f' t' d' w' ∨ (f' = f ∧ t' = i (170 + f) e ∧ d' = i (267 + f) e ∧ w' = i (364 + f) e) := by
        rintro f' t' d' w' ⟨z, z2⟩
        rcases z2 with z2 | ⟨rfl, e', a, b, c⟩
        · exact .inl ⟨z, .inl z2⟩
        · by_cases ee : e' = e
          · rw [ee] at c; exact .inr ⟨rfl, c.1.symm, c.2.1.symm, c.2.2.symm⟩
          · exact .inl ⟨z, .inr ⟨rfl, e', a, by omega, c⟩⟩
      rw [wr_of (x := m 471 f + i (364 + f) e) (by omega) (by omega), wr_of (x := T * i (267 + f) e) (by omega) (by omega), wr_of (x := m 471 f + i (364 + f) e - T * i (267 + f) e) (by omega) (by omega), wr_of (x := e + 1) (by omega) (by omega)]
      refine ⟨by omega, by omega, by omega, by omega, by omega, by omega, by omega, ⟨t0, by omega⟩, fun q2 => ?_, fun q2 => ⟨⟨t0, by omega⟩, ?_⟩⟩
      · exact hC2 _ _ _ ⟨by omega, by omega, ⟨k.fr, k.pa.skip ok ed q2 hP, k.mx, k.up, fun v a b => by have := k.bd v a b; omega⟩⟩ (by omega)
      · have tb := k.pa.b _ t0 t1
        have tp := hp _ t0 t1
        refine hC2 _ _ _ ⟨by omega, by omega, ⟨k.fr.trans F1.sa, k.pa.up ok ed (by omega) hP st_eq (fun v z => st_ne (by omega)), .inr ⟨by omega, ⟨_, t0, t1, by rw [st_eq]; omega⟩, ?_⟩, fun v a b => ?_, fun v a b => ?_⟩⟩ (by omega)
        · rcases Int.le_total x (m 471 f + i (364 + f) e - T * i (267 + f) e) with z | z
          · refine ⟨_, t0, t1, ?_⟩
            rw [st_eq]; omega
          · rcases k.mx with ⟨z1, _⟩ | ⟨z0, _, v, a, b, c⟩
            · omega
            · refine ⟨v, a, b, ?_⟩
              by_cases vt : v = i (170 + f) e
              · rw [vt, st_eq]; rw [vt] at c; omega
              · rw [st_ne (by omega)]; omega
        · have := k.up v a b
          by_cases vt : v = i (170 + f) e
          · rw [vt, st_eq]; omega
          · rw [st_ne (by omega)]; omega
        · have := k.bd v a b
          by_cases vt : v = i (170 + f) e
          · rw [vt, st_eq]; omega
          · rw [st_ne (by omega)]; omega
  · rcases z with ⟨z, z2 | ⟨_, e', a, b, _⟩⟩
    · have := ed_props ok z
      omega
    · omega
theorem isAllowed_w {D : Dat} (ok : DOk D) {i r : MI} {T : Int} {Q : Int → MI → Prop} (h : NV D i) (g : M2 D i) (hT : 1 ≤ T ∧ T ≤ 480) (h1 : ∀ m, F1 i m → CanR D T → Q 1 m) (h0 : ∀ m, F1 i m → ¬ CanR D T → Q 0 m) : wp_X4_isAllowedByRings T i r Q := by
  have hn := nn_le ok
  have s4 := sum480 ok
  unfold wp_X4_isAllowedByRings
  refine Lp.r2 (fun (x : Int) (m : MI) => 0 ≤ x ∧ x ≤ nn D ∧ F1 i m ∧ ∀ v, 0 ≤ v → v < x → m 471 v = 0) (fun x _ => (nn D - x).toNat) ?_ ⟨by decide, hn.1, F1.refl i, fun v a b => by omega⟩
  intro x m C ⟨x0, x1, j, jz⟩ hC
  dsimp only [b3_X4_isAllowedByRings]
  have hv : NV D m := h.fl ok (fun a q => j a (by omega))
  have gv : M2 D m := g.fl ok (fun a q => j a (by omega))
  rw [hv.n]
  refine ⟨fun q => sumOf_w ok hv ?_, fun q => ⟨by omega, ?_⟩⟩
  · refine Lp.r2 (fun (k : Int) (m : MI) => 0 ≤ k ∧ k ≤ nn D + 1 ∧ F1 i m ∧ (∀ v, 0 ≤ v → v < nn D → 0 ≤ m 471 v ∧ m 471 v ≤ sumC D (nn D)) ∧ ∀ M, Least D T M → k ≤ eqN (m 471) M (nn D).toNat ∧ ∀ v, 0 ≤ v → v < nn D → m 471 v ≤ M v) (fun k _ => (nn D + 1 - k).toNat) ?_ ⟨by decide, by omega, j, fun v a b => by rw [jz v a (by omega)]; omega, fun M hM => ⟨(eqN_b _).1, fun v a b => by rw [jz v a (by omega)]; exact hM.f.z v a b⟩⟩
    intro k m C2 ⟨k0, k1, f, kb, kM⟩ hC2
    dsimp only [b35_X4_isAllowedByRings]
    have hv : NV D m := h.fl ok (fun a q => f a (by omega))
    have gv : M2 D m := g.fl ok (fun a q => f a (by omega))
    rw [hv.n]
    refine ⟨fun q1 => h0 m f (fun c => ?_), fun q1 => pushAll_w ok hv gv hT (B := sumC D (nn D)) (by omega) kb (fun y m' p => ⟨fun q2 => ?_, fun q2 => ⟨fun q3 => ?_, fun q3 => ?_⟩⟩)⟩
    · obtain ⟨M, hM⟩ := least_ex ok c
      have := (eqN_b (p := m 471) (q := M) (nn D).toNat).2.1
      have := (kM M hM).1
      omega
    · refine h1 m' (f.trans p.fr) ⟨m' 471, fun v a b => by have := kb v a b; have := p.pa.b v a b; omega, fun f t d w e => ?_⟩
      rcases p.mx with ⟨_, z⟩ | ⟨z, _⟩
      · have := p.pa.e f t d w e
        rw [z f (ed_props ok e).1.1 (ed_props ok e).1.2]
        exact this
      · omega
    · rcases p.mx with ⟨z, _⟩ | ⟨z, zx, _⟩
      · exact absurd z q2
      rw [wr_of (x := k + 1) (by omega) (by omega)]
      refine hC2 _ _ ⟨by omega, by omega, f.trans p.fr, fun v a b => ?_, fun M hM => ?_⟩ (by omega)
      · have := kb v a b
        have := p.pa.b v a b
        have := p.up v a b
        omega
      · have := round_lt ok hM (fun v a b => ⟨(kb v a b).1, (kM M hM).2 v a b⟩) p.pa ⟨k0, (kM M hM).1⟩ zx
        exact ⟨this.1, fun v a b => (this.2 v a b).2⟩
    · refine h0 m' (f.trans p.fr) (fun c => ?_)
      obtain ⟨M, hM⟩ := least_ex ok c
      rcases p.mx with ⟨z, _⟩ | ⟨z, _, v, a, b, zv⟩
      · exact q2 z
      · have := p.pa.m M hM.f (kM M hM).2 v a b
        have := hM.le ok (by omega) v a b
        omega
  · rw [wr_of (x := x + 1) (by omega) (by omega)]
    refine hC _ _ ⟨by omega, by omega, j.trans F1.sa, fun v a b => ?_⟩ (by omega)
    by_cases z : v = x
    · rw [z, st_eq]
    · rw [st_ne (by omega)]; exact jz v a (by omega)
def IsRing (D : Dat) (T : Int) : Prop := 1 ≤ T ∧ CanR D T ∧ ∀ c, 1 ≤ c → c < T → ¬ CanR D c
theorem ring_uniq {D : Dat} {T T' : Int} (h : IsRing D T) (g : IsRing D T') : T = T' := by
  rcases Int.lt_trichotomy T T' with z | z | z
  · exact absurd h.2.1 (g.2.2 T h.1 z)
  · exact z
  · exact absurd g.2.1 (h.2.2 T' g.1 z)
theorem ring_le {D : Dat} (ok : DOk D) {T : Int} (h : IsRing D T) : T ≤ max 1 (sumC D (nn D)) := by
  apply Classical.byContradiction
  intro c
  exact h.2.2 (max 1 (sumC D (nn D))) (by omega) (by omega) (canR_sum ok (by omega))
theorem findByRings_w {D : Dat} (ok : DOk D) {i r : MI} {Q : Int → MI → Prop} (h : NV D i) (g : M2 D i) (hQ : ∀ T m, F1 i m → IsRing D T → Q T m) : wp_X4_findByRings i r Q := by
  have hn := nn_le ok
  have s4 := sum480 ok
  unfold wp_X4_findByRings
  refine sumOf_w ok h ?_
  refine Lp.r4 (fun (l u k : Int) (m : MI) => 1 ≤ l ∧ l ≤ u ∧ u ≤ 480 ∧ 0 ≤ k ∧ k + (u - l) ≤ 480 ∧ F1 i m ∧ CanR D u ∧ ∀ c, 1 ≤ c → c < l → ¬ CanR D c) (fun _ _ k _ => (481 - k).toNat) ?_ ⟨by decide, by omega, by omega, by decide, by omega, F1.refl i, canR_sum ok (by omega), fun c a b => by omega⟩
  intro l u k m C ⟨l1, lu, u4, k0, kl, f, cu, cl⟩ hC
  dsimp only [b15_X4_findByRings, s66_X4_findByRings, s60_X4_findByRings]
  refine ⟨fun q => by omega, fun q => ⟨fun q1 => ?_, fun q1 => ?_⟩⟩
  · have : l = u := by omega
    rw [← this] at cu
    exact hQ l m f ⟨l1, cu, cl⟩
  · rw [wr_of (x := l + u) (by omega) (by omega), Int.tdiv_eq_ediv_of_nonneg (by omega), wr_of (x := (l + u) / 2) (by omega) (by omega), wr_of (x := k + 1) (by omega) (by omega)]
    refine isAllowed_w ok (h.fl ok (fun a q => f a (by omega))) (g.fl ok (fun a q => f a (by omega))) (by omega) (fun m' f' c => ⟨fun q2 => absurd q2 (by decide), fun q2 => ?_⟩) (fun m' f' c => ⟨fun q2 => ?_, fun q2 => absurd rfl q2⟩)
    · exact hC _ _ _ _ ⟨l1, by omega, by omega, by omega, by omega, f.trans f', c, cl⟩ (by omega)
    · rw [wr_of (x := (l + u) / 2 + 1) (by omega) (by omega)]
      exact hC _ _ _ _ ⟨by omega, by omega, u4, by omega, by omega, f.trans f', cu, fun c' a b z => c (z.up ok (by omega))⟩ (by omega)
