/-! ===== what has been made ===== -/
def KPn (D : Dat) (n : Int) (i r : MI) : Prop := (1 ≤ n → M1 D i r) ∧ (2 ≤ n → M2 D i) ∧ (3 ≤ n → M3 D i) ∧ (4 ≤ n → M4 D i) ∧ (5 ≤ n → M5 D i)
theorem KPn.m1 {D : Dat} {n : Int} {i r : MI} (h0 : KPn D n i r) : 1 ≤ n → M1 D i r := h0.1
theorem KPn.m2 {D : Dat} {n : Int} {i r : MI} (h0 : KPn D n i r) : 2 ≤ n → M2 D i := h0.2.1
theorem KPn.m3 {D : Dat} {n : Int} {i r : MI} (h0 : KPn D n i r) : 3 ≤ n → M3 D i := h0.2.2.1
theorem KPn.m4 {D : Dat} {n : Int} {i r : MI} (h0 : KPn D n i r) : 4 ≤ n → M4 D i := h0.2.2.2.1
theorem KPn.m5 {D : Dat} {n : Int} {i r : MI} (h0 : KPn D n i r) : 5 ≤ n → M5 D i := h0.2.2.2.2
theorem KPn.mk {D : Dat} {n : Int} {i r : MI} (h0 : 1 ≤ n → M1 D i r) (h1 : 2 ≤ n → M2 D i) (h2 : 3 ≤ n → M3 D i) (h3 : 4 ≤ n → M4 D i) (h4 : 5 ≤ n → M5 D i) : KPn D n i r := ⟨h0, h1, h2, h3, h4⟩
theorem M1.keep {D : Dat} (ok : DOk D) {i i' r r' : MI} (h : M1 D i r) (g : ∀ a, 67 ≤ a → a < 168 → a ≠ 69 → a ≠ 70 → i' a = i a) (gr : ∀ a, 72 ≤ a → a < 168 → r' a = r a) (g4 : r' 4 = r 4) : M1 D i' r' := by
  have nl := nds_len ok
  unfold M1 at h ⊢
  rw [g4]
  refine ⟨by rw [g 67 (by decide) (by decide) (by decide) (by decide)]; exact h.n, fun v s f hv => ?_, fun k a b => by rw [g 71 (by decide) (by decide) (by decide) (by decide)]; exact h.o k a b⟩
  have l := get_lt hv
  rw [GA_len] at l
  have := h.g v s f hv
  rw [gr _ (by omega) (by omega)]
  exact ⟨this.1, fun c c0 c1 => by rw [g _ (by omega) (by omega) (by omega) (by omega)]; exact this.2 c c0 c1⟩
theorem M3.keep {D : Dat} {i i' : MI} (h : M3 D i) (g : ∀ a, 462 ≤ a → a ≤ 464 → i' a = i a) : M3 D i' :=
  ⟨by rw [g 462 (by decide) (by decide)]; exact h.so, by rw [g 462 (by decide) (by decide), g 463 (by decide) (by decide)]; exact h.la, by rw [g 463 (by decide) (by decide), g 464 (by decide) (by decide)]; exact h.li⟩
theorem KPn.keep {D : Dat} (ok : DOk D) {n : Int} {i i' r r' : MI} (h : KPn D n i r) (g : ∀ a, 67 ≤ a → a ≤ 487 → a ≠ 69 → a ≠ 70 → i' a = i a) (gr : ∀ a, 72 ≤ a → a < 168 → r' a = r a) (g4 : r' 4 = r 4) : KPn D n i' r' := by
  refine ⟨fun z => (h.m1 z).keep ok (fun a x y z w => g a x (by omega) z w) gr g4, fun z => ?_, fun z => (h.m3 z).keep (fun a x y => g a (by omega) (by omega) (by omega) (by omega)), fun z => (h.m4 z).congr (g 469 (by decide) (by decide) (by decide) (by decide)) (g 470 (by decide) (by decide) (by decide) (by decide)), fun z => CSt.congr (h.m5 z) (fun a x y => g a (by omega) (by omega) (by omega) (by omega))⟩
  have nl := nn_le ok
  have m := h.m2 z
  refine ⟨?_, ?_, ?_, ?_, m.r, ?_⟩
  · rw [g _ (by omega) (by omega) (by omega) (by omega)]; exact m.z
  · intro f e f0 f1; rw [g 460 (by omega) (by omega) (by omega) (by omega), g _ (by omega) (by omega) (by omega) (by omega), g _ (by omega) (by omega) (by omega) (by omega), g _ (by omega) (by omega) (by omega) (by omega)]; exact m.e f e f0 f1
  · intro f t d w hS
    have hf := hS.1
    have hf1 := hS.2.1
    rw [g 460 (by omega) (by omega) (by omega) (by omega), g _ (by omega) (by omega) (by omega) (by omega), g _ (by omega) (by omega) (by omega) (by omega)]; exact m.s f t d w hS
  · intro f e e' f0 f1; rw [g 460 (by omega) (by omega) (by omega) (by omega), g _ (by omega) (by omega) (by omega) (by omega), g _ (by omega) (by omega) (by omega) (by omega)]; exact m.u f e e' f0 f1
  · rw [g _ (by omega) (by omega) (by omega) (by omega)]; exact m.c
theorem KPn.le {D : Dat} {n n' : Int} {i r : MI} (h : KPn D n i r) (l : n' ≤ n) : KPn D n' i r :=
  ⟨fun z => h.m1 (by omega), fun z => h.m2 (by omega), fun z => h.m3 (by omega), fun z => h.m4 (by omega), fun z => h.m5 (by omega)⟩
theorem M1.nv {D : Dat} {i r : MI} (h : ClassP D i r) (m : M1 D i r) : NV D i := NV.of h m
theorem M1.mc {D : Dat} {i r : MI} (h : ClassP D i r) (m : M1 D i r) : MC D i := ⟨fun k a b => m.o k a b, h.un⟩
/-- what preparing leaves -/
def Pq (D : Dat) (k : Int) (i r i' r' : MI) : Prop := (ClassP D i' r') ∧ (KPn D (i' 0 9) i' r') ∧ (k ≤ i' 0 9) ∧ (∀ c, c ≠ 9 → i' 0 c = i 0 c) ∧ (∀ a, 1 ≤ a → a ≤ 66 → i' a = i a) ∧ (∀ a, 488 ≤ a → i' a = i a)
theorem Pq.p {D : Dat} {k : Int} {i r i' r' : MI} (h0 : Pq D k i r i' r') : ClassP D i' r' := h0.1
theorem Pq.kp {D : Dat} {k : Int} {i r i' r' : MI} (h0 : Pq D k i r i' r') : KPn D (i' 0 9) i' r' := h0.2.1
theorem Pq.ge {D : Dat} {k : Int} {i r i' r' : MI} (h0 : Pq D k i r i' r') : k ≤ i' 0 9 := h0.2.2.1
theorem Pq.c {D : Dat} {k : Int} {i r i' r' : MI} (h0 : Pq D k i r i' r') : ∀ c, c ≠ 9 → i' 0 c = i 0 c := h0.2.2.2.1
theorem Pq.lo {D : Dat} {k : Int} {i r i' r' : MI} (h0 : Pq D k i r i' r') : ∀ a, 1 ≤ a → a ≤ 66 → i' a = i a := h0.2.2.2.2.1
theorem Pq.hi {D : Dat} {k : Int} {i r i' r' : MI} (h0 : Pq D k i r i' r') : ∀ a, 488 ≤ a → i' a = i a := h0.2.2.2.2.2
theorem Pq.mk {D : Dat} {k : Int} {i r i' r' : MI} (h0 : ClassP D i' r') (h1 : KPn D (i' 0 9) i' r') (h2 : k ≤ i' 0 9) (h3 : ∀ c, c ≠ 9 → i' 0 c = i 0 c) (h4 : ∀ a, 1 ≤ a → a ≤ 66 → i' a = i a) (h5 : ∀ a, 488 ≤ a → i' a = i a) : Pq D k i r i' r' := ⟨h0, h1, h2, h3, h4, h5⟩
/-- what the stages leave alone -/
def Fk (i i' : MI) : Prop := (∀ a, a ≤ 66 → i' a = i a) ∧ (∀ a, 488 ≤ a → i' a = i a)
theorem Fk.lo {i i' : MI} (h0 : Fk i i') : ∀ a, a ≤ 66 → i' a = i a := h0.1
theorem Fk.hi {i i' : MI} (h0 : Fk i i') : ∀ a, 488 ≤ a → i' a = i a := h0.2
theorem Fk.mk {i i' : MI} (h0 : ∀ a, a ≤ 66 → i' a = i a) (h1 : ∀ a, 488 ≤ a → i' a = i a) : Fk i i' := ⟨h0, h1⟩
theorem Fk.refl (i : MI) : Fk i i := ⟨fun _ _ => rfl, fun _ _ => rfl⟩
theorem Fk.trans {i j k : MI} (h : Fk i j) (g : Fk j k) : Fk i k := ⟨fun a x => (g.lo a x).trans (h.lo a x), fun a x => (g.hi a x).trans (h.hi a x)⟩
theorem ClassP.fg {D : Dat} {i i' r : MI} (h : ClassP D i r) (g : FG i i') : ClassP D i' r := by
  refine h.congr ?_ ?_ ?_ ?_ ?_ ?_ ?_ ?_ ?_ ?_ rfl rfl
  all_goals (intros; rw [g _ (by omega) (by omega) (by omega)])
theorem ClassP.fo {D : Dat} {i i' r : MI} (h : ClassP D i r) (g : FO i i') : ClassP D i' r := by
  refine h.congr ?_ ?_ ?_ ?_ ?_ ?_ ?_ ?_ ?_ ?_ rfl rfl
  all_goals (intros; rw [g _ (by omega)])
theorem ClassP.fpc {D : Dat} {i i' r : MI} (h : ClassP D i r) (g : FPc i i') : ClassP D i' r := by
  refine h.congr ?_ ?_ ?_ ?_ ?_ ?_ ?_ ?_ ?_ ?_ rfl rfl
  all_goals (intros; rw [g _ (by omega)])
theorem classP_s0 {D : Dat} {i r : MI} {k v : Int} (h : ClassP D i r) : ClassP D (st i 0 k v) r := by
  refine h.congr ?_ ?_ ?_ ?_ ?_ ?_ ?_ ?_ ?_ ?_ rfl rfl
  all_goals (intros; rw [st_row (by omega)])
theorem prepare_w {D : Dat} (ok : DOk D) {i r : MI} {k : Int} {Q : MI → MI → Prop} (hP : ClassP D i r) (hK : KPn D (i 0 9) i r) (hk : 1 ≤ k ∧ k ≤ 5) (hQ : ∀ i' r', Pq D k i r i' r' → Q i' r') : wp_X11_prepare k i r Q := by
  generalize hm : i 0 9 = m at hK
  have e9 : ∀ {i1 : MI}, Fk i i1 → i1 0 9 = m := fun f => by rw [f.lo 0 (by decide)]; exact hm
  have s6 : ∀ (i1 r1 : MI), Fk i i1 → ClassP D i1 r1 → KPn D (max m (min 5 k)) i1 r1 → s143_X11_prepare k i1 r1 Q := by
    intro i1 r1 f p kp
    unfold s143_X11_prepare
    rw [e9 f]
    refine hQ _ _ ⟨classP_s0 p, ?_, by rw [st_eq]; omega, fun c hc => by rw [st_ne (by omega), f.lo 0 (by decide)], fun a x y => by rw [st_row (by omega), f.lo a y], fun a x => by rw [st_row (by omega), f.hi a x]⟩
    rw [st_eq]
    exact (kp.le (by omega)).keep ok (fun a x y _ _ => st_row (by omega)) (fun _ _ _ => rfl) rfl
  have s5 : ∀ (i1 r1 : MI), Fk i i1 → ClassP D i1 r1 → KPn D (max m (min 4 k)) i1 r1 → s111_X11_prepare k i1 r1 Q := by
    intro i1 r1 f p kp
    unfold s111_X11_prepare
    rw [e9 f]
    refine ⟨fun q => s6 i1 r1 f p (kp.le (by omega)), fun q => ⟨fun q2 => s6 i1 r1 f p (kp.le (by omega)), fun q2 => ?_⟩⟩
    have m1 := kp.m1 (by omega)
    refine turn_w ok p (m1.nv p) m1.nr (kp.m4 (by omega)) (fun i2 g m5 => s6 i2 r1 (f.trans ⟨fun a x => g a (by omega), fun a x => g a (by omega)⟩) (p.ft g) ?_)
    refine ⟨fun _ => m1.keep ok (fun a x y _ _ => g a (by omega)) (fun _ _ _ => rfl) rfl, fun _ => (kp.m2 (by omega)).fl ok g.fl, fun _ => (kp.m3 (by omega)).keep (fun a x y => g a (by omega)), fun _ => (kp.m4 (by omega)).congr (g 469 (by omega)) (g 470 (by omega)), fun _ => m5⟩
  have s4 : ∀ (i1 r1 : MI), Fk i i1 → ClassP D i1 r1 → KPn D (max m (min 3 k)) i1 r1 → s83_X11_prepare k i1 r1 Q := by
    intro i1 r1 f p kp
    unfold s83_X11_prepare
    rw [e9 f]
    refine ⟨fun q => s5 i1 r1 f p (kp.le (by omega)), fun q => ⟨fun q2 => s5 i1 r1 f p (kp.le (by omega)), fun q2 => ?_⟩⟩
    have m1 := kp.m1 (by omega)
    refine xfind_w ok (m1.nv p) (kp.m2 (by omega)) (m1.mc p) (fun i2 g m4 => s5 i2 r1 (f.trans ⟨fun a x => g a (by omega), fun a x => g a (by omega)⟩) (p.fpc g) ?_)
    refine ⟨fun _ => m1.keep ok (fun a x y _ _ => g a (by omega)) (fun _ _ _ => rfl) rfl, fun _ => (kp.m2 (by omega)).fl ok g.fl, fun _ => (kp.m3 (by omega)).keep (fun a x y => g a (by omega)), fun _ => m4, fun z => by omega⟩
  have s3 : ∀ (i1 r1 : MI), Fk i i1 → ClassP D i1 r1 → KPn D (max m (min 2 k)) i1 r1 → s55_X11_prepare k i1 r1 Q := by
    intro i1 r1 f p kp
    unfold s55_X11_prepare
    rw [e9 f]
    refine ⟨fun q => s4 i1 r1 f p (kp.le (by omega)), fun q => ⟨fun q2 => s4 i1 r1 f p (kp.le (by omega)), fun q2 => ?_⟩⟩
    have m1 := kp.m1 (by omega)
    refine order_w ok (m1.nv p) (kp.m2 (by omega)) p.un (fun i2 g m3 => s4 i2 r1 (f.trans ⟨fun a x => g a (by omega), fun a x => g a (by omega)⟩) (p.fo g) ?_)
    refine ⟨fun _ => m1.keep ok (fun a x y _ _ => g a (by omega)) (fun _ _ _ => rfl) rfl, fun _ => (kp.m2 (by omega)).fl ok (fun a x => g a (by omega)), fun _ => m3, fun z => by omega, fun z => by omega⟩
  have s2 : ∀ (i1 r1 : MI), Fk i i1 → ClassP D i1 r1 → KPn D (max m (min 1 k)) i1 r1 → s24_X11_prepare k i1 r1 Q := by
    intro i1 r1 f p kp
    unfold s24_X11_prepare
    rw [e9 f]
    refine ⟨fun q => s3 i1 r1 f p (kp.le (by omega)), fun q => ⟨fun q2 => s3 i1 r1 f p (kp.le (by omega)), fun q2 => ?_⟩⟩
    have m1 := kp.m1 (by omega)
    rw [p.fac]
    refine join_w ok (m1.nv p) (fun i2 g m2 => s3 i2 r1 (f.trans ⟨fun a x => g a (by omega) (by omega) (by omega), fun a x => g a (by omega) (by omega) (by omega)⟩) (p.fg g) ?_)
    refine ⟨fun _ => m1.keep ok (fun a x y _ _ => g a (by omega) (by omega) (by omega)) (fun _ _ _ => rfl) rfl, fun _ => m2, fun z => by omega, fun z => by omega, fun z => by omega⟩
  unfold wp_X11_prepare
  rw [hm]
  refine ⟨fun q => s2 i r (Fk.refl i) hP (hK.le (by omega)), fun q => ⟨fun q2 => s2 i r (Fk.refl i) hP (hK.le (by omega)), fun q2 => ?_⟩⟩
  refine number_w ok hP (fun i2 r2 g m1 => s2 i2 r2 ⟨fun a x => g.i a (by omega) (by omega) (by omega), fun a x => g.i a (by omega) (by omega) (by omega)⟩ (hP.fa g) ?_)
  exact ⟨fun _ => m1, fun z => by omega, fun z => by omega, fun z => by omega, fun z => by omega⟩
