/-! ===== what asks the stages ===== -/
theorem KPn.keep' {D : Dat} (ok : DOk D) {n : Int} {i i' r r' : MI} (h : KPn D n i r) (g : ∀ a, 67 ≤ a → a ≤ 487 → (a < 465 ∨ 468 < a) → i' a = i a) (gr : ∀ a, 72 ≤ a → a < 168 → r' a = r a) (g4 : r' 4 = r 4) : KPn D n i' r' := by
  have k := KPn.keep ok (i' := fun a => if a < 465 ∨ 468 < a then i' a else i a) (r' := r') h (fun a x y _ _ => by
    by_cases z : a < 465 ∨ 468 < a
    · show (if a < 465 ∨ 468 < a then i' a else i a) = i a
      rw [if_pos z]; exact g a x y z
    · show (if a < 465 ∨ 468 < a then i' a else i a) = i a
      rw [if_neg z]) gr g4
  have e : ∀ a, (a < 465 ∨ 468 < a) → i' a = (fun a => if a < 465 ∨ 468 < a then i' a else i a) a := fun a z => by
    show i' a = if a < 465 ∨ 468 < a then i' a else i a
    rw [if_pos z]
  refine ⟨fun z => (k.m1 z).keep ok (fun a x y _ _ => e a (by omega)) (fun _ _ _ => rfl) rfl, fun z => (k.m2 z).fl ok (fun a x => e a (by omega)), fun z => (k.m3 z).keep (fun a x y => e a (by omega)), fun z => (k.m4 z).congr (e 469 (by omega)) (e 470 (by omega)), fun z => CSt.congr (k.m5 z) (fun a x y => e a (by omega))⟩
/-- after a call of the class that asks what has been made -/
def Pc (D : Dat) (c v : Int) (i i' r' : MI) : Prop := (ClassP D i' r') ∧ (RC D i') ∧ (KPn D (i' 0 9) i' r') ∧ (∀ a, 504 ≤ a → a ≠ 540 → a ≠ 541 → i' a = i a) ∧ (c = 0 → i' 540 0 = jLo ((sJ v).toInt64) ∧ i' 540 1 = jHi ((sJ v).toInt64))
theorem Pc.p {D : Dat} {c v : Int} {i i' r' : MI} (h0 : Pc D c v i i' r') : ClassP D i' r' := h0.1
theorem Pc.rc {D : Dat} {c v : Int} {i i' r' : MI} (h0 : Pc D c v i i' r') : RC D i' := h0.2.1
theorem Pc.kp {D : Dat} {c v : Int} {i i' r' : MI} (h0 : Pc D c v i i' r') : KPn D (i' 0 9) i' r' := h0.2.2.1
theorem Pc.f {D : Dat} {c v : Int} {i i' r' : MI} (h0 : Pc D c v i i' r') : ∀ a, 504 ≤ a → a ≠ 540 → a ≠ 541 → i' a = i a := h0.2.2.2.1
theorem Pc.out {D : Dat} {c v : Int} {i i' r' : MI} (h0 : Pc D c v i i' r') : c = 0 → i' 540 0 = jLo ((sJ v).toInt64) ∧ i' 540 1 = jHi ((sJ v).toInt64) := h0.2.2.2.2
theorem Pc.mk {D : Dat} {c v : Int} {i i' r' : MI} (h0 : ClassP D i' r') (h1 : RC D i') (h2 : KPn D (i' 0 9) i' r') (h3 : ∀ a, 504 ≤ a → a ≠ 540 → a ≠ 541 → i' a = i a) (h4 : c = 0 → i' 540 0 = jLo ((sJ v).toInt64) ∧ i' 540 1 = jHi ((sJ v).toInt64)) : Pc D c v i i' r' := ⟨h0, h1, h2, h3, h4⟩
theorem Pc.of {D : Dat} {k c v : Int} {i r i1 r1 : MI} (h : Pq D k i r i1 r1) (rc : RC D i) (hc : c ≠ 0) : Pc D c v i i1 r1 :=
  ⟨h.p, rc.fr (fun a x y => h.lo a (by omega) y) (h.c 10 (by decide)), h.kp, fun a x _ _ => h.hi a (by omega), fun z => absurd z hc⟩
theorem Pc.fo {D : Dat} {c v : Int} {i i1 i2 r1 : MI} (ok : DOk D) (h : Pc D c v i i1 r1) (g : FO i1 i2) (g2 : ∀ a, 462 ≤ a → a ≤ 464 → i2 a = i1 a) (hc : c ≠ 0) : Pc D c v i i2 r1 :=
  ⟨h.p.fo g, h.rc.fr (fun a x y => g a (by omega)) (by rw [g 0 (by omega)]), by
    rw [g 0 (by omega)]
    exact h.kp.keep' ok (fun a x y z => by
      by_cases w : 462 ≤ a ∧ a ≤ 464
      · exact g2 a w.1 w.2
      · exact g a (by omega)) (fun _ _ _ => rfl) rfl, fun a x y z => by rw [g a (by omega)]; exact h.f a x y z, fun z => absurd z hc⟩
theorem Pc.ret {D : Dat} {c v w : Int} {i i1 r1 : MI} (ok : DOk D) (h : Pc D c v i i1 r1) : Pc D 0 w i (st (st i1 540 0 (jLo ((sJ w).toInt64))) 540 1 (jHi ((sJ w).toInt64))) r1 := by
  have e : ∀ a, a ≠ 540 → (st (st i1 540 0 (jLo ((sJ w).toInt64))) 540 1 (jHi ((sJ w).toInt64))) a = i1 a := fun a z => by rw [st_row z, st_row z]
  refine ⟨?_, h.rc.fr (fun a x y => e a (by omega)) (by rw [e 0 (by decide)]), ?_, fun a x y z => by rw [e a y]; exact h.f a x y z, fun _ => ⟨by rw [st_ne (by decide), st_eq], st_eq⟩⟩
  · refine h.p.congr ?_ ?_ ?_ ?_ ?_ ?_ ?_ ?_ ?_ ?_ rfl rfl
    all_goals (intros; rw [e _ (by omega)])
  · rw [e 0 (by decide)]
    exact h.kp.keep ok (fun a x y _ _ => e a (by omega)) (fun _ _ _ => rfl) rfl
theorem ModelP.pc {D : Dat} {c v : Int} {i i' r' : MI} (h : ModelP D i) (g : Pc D c v i i' r') : ModelP D i' :=
  h.congr (fun c _ => by rw [g.f 504 (by decide) (by decide) (by decide)]) (g.f _ (by decide) (by decide) (by decide)) (fun a x y => g.f _ (by omega) (by omega) (by omega)) (fun a x y => g.f _ (by omega) (by omega) (by omega))
theorem pc_end {D : Dat} {c v c' v' w : Int} {i i1 i2 r1 : MI} (ok : DOk D) (pc : Pc D c v i i1 r1) (mq : Mq D c' v' w i1 i2) : Inv i2 r1 := by
  have f := mq.f
  refine ⟨D, ok, pc.p.fm f, mq.p, pc.rc.fr (fun a x y => f a (by omega)) (by rw [f 0 (by omega)]), ?_⟩
  rw [f 0 (by omega)]
  exact pc.kp.keep ok (fun a x y _ _ => f a (by omega)) (fun _ _ _ => rfl) rfl
theorem pc_out {D : Dat} {c v v' w : Int} {i i1 i2 r1 : MI} (pc : Pc D c v i i1 r1) (mq : Mq D c v' w i1 i2) (e : c = 0 → v' = v) : c = 0 → w = v ∧ i2 540 0 = jLo ((sJ v).toInt64) ∧ i2 540 1 = jHi ((sJ v).toInt64) :=
  fun z => ⟨(mq.v z).trans (e z), by rw [mq.f 540 (by omega)]; exact (pc.out z).1, by rw [mq.f 540 (by omega)]; exact (pc.out z).2⟩
def coNode (D : Dat) (p : Int) : Int := if 0 ≤ p ∧ p < nn D then 0 else 1
theorem checkN_w {D : Dat} {i r : MI} {p : Int} {Q : Prop} {X : String → Prop} (hn : i 67 4 = nn D) (h0 : (0 ≤ p ∧ p < nn D) → Q) (h1 : ¬ (0 ≤ p ∧ p < nn D) → X "java/lang/IndexOutOfBoundsException") : wp_X11_checkNode p i r Q X := by
  unfold wp_X11_checkNode s15_X11_checkNode
  rw [hn]
  exact ⟨fun z => h1 (by omega), fun z => ⟨fun y => h0 ⟨by omega, y⟩, fun y => h1 (by omega)⟩⟩
theorem noN_w {D : Dat} (ok : DOk D) {m r : MI} {p : Int} {Q : Int → Prop} (hn : m 504 21 = nn D) (h0 : (0 ≤ p ∧ p < nn D) → Q 0) (h1 : ¬ (0 ≤ p ∧ p < nn D) → Q 1) : wp_X12_noNode p m r Q := by
  have nl := nn_le ok
  unfold wp_X12_noNode s19_X12_noNode
  rw [hn, wr_of (x := nn D - 1) (by omega) (by omega), in_eq]
  by_cases z : 0 ≤ p ∧ p ≤ nn D - 1
  · rw [bz, if_pos z]
    exact ⟨fun y => absurd y (by decide), fun _ => ⟨.inl rfl, h0 (by omega)⟩⟩
  · rw [bz, if_neg z]
    exact ⟨fun _ => ⟨.inr rfl, h1 (by omega)⟩, fun y => absurd rfl y⟩
theorem fails0 {m r : MI} {k : Int} {G : Int → MI → Prop} (z : m 504 0 = 0) (h : G 0 m) : wp_X12_fails 0 k m r G := by
  unfold wp_X12_fails s16_X12_fails s28_X12_fails
  exact ⟨fun _ => ⟨fun _ => ⟨.inl rfl, h⟩, fun y => absurd z y⟩, fun y => absurd rfl y⟩
theorem fails1 {m r : MI} {k : Int} {G : Int → MI → Prop} (z : m 504 0 = 0) (hk : k ≠ 0) (h : G 1 (st m 504 0 k)) : wp_X12_fails 1 k m r G := by
  unfold wp_X12_fails s16_X12_fails s28_X12_fails
  refine ⟨fun y => absurd y (by decide), fun _ => ⟨fun _ => ⟨fun y => ?_, fun _ => ⟨.inr rfl, h⟩⟩, fun y => absurd z y⟩⟩
  rw [st_eq] at y
  exact absurd y hk
theorem node_m {D : Dat} (ok : DOk D) {m r : MI} {p : Int} {G : Int → MI → Prop} (hn : m 504 21 = nn D) (z : m 504 0 = 0) (h0 : (0 ≤ p ∧ p < nn D) → G 0 m) (h1 : ¬ (0 ≤ p ∧ p < nn D) → G 1 (st m 504 0 1)) : wp_X12_noNode p m r (fun v8 => wp_X12_fails v8 1 m r G) :=
  noN_w ok hn (fun y => fails0 z (h0 y)) (fun y => fails1 z (by decide) (h1 y))
theorem mq_ok {D : Dat} {p v : Int} {i m : MI} (f : FV i m) (h : ModelP D m) (hp : 0 ≤ p ∧ p < nn D) : Mq D (coNode D p) v v i m :=
  ⟨h, f.fm, by unfold coNode; rw [if_pos hp]; exact f.z, fun _ => rfl⟩
theorem mq_no {D : Dat} {p v w : Int} {i m : MI} (f : FV i m) (h : ModelP D m) (hp : ¬ (0 ≤ p ∧ p < nn D)) : Mq D (coNode D p) v w i (st m 504 0 1) :=
  ⟨mp0 h, f.fm.trans Fm.s4, by unfold coNode; rw [if_neg hp, st_eq], fun z => by unfold coNode at z; rw [if_neg hp] at z; exact absurd z (by decide)⟩
