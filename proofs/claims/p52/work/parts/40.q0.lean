/-! ===== what holds of an object between calls ===== -/
def JI (D : Dat) (i r : MI) : Prop := DOk D ∧ ClassP D i r ∧ RC D i ∧ KPn D (i 0 9) i r
theorem JI.pq {D : Dat} {k : Int} {i r i1 r1 : MI} (I : JI D i r) (h : Pq D k i r i1 r1) : JI D i1 r1 :=
  ⟨I.1, h.p, I.2.2.1.fr (fun a x y => h.lo a (by omega) y) (h.c 10 (by decide)), h.kp⟩
theorem J_prep {D : Dat} {i r : MI} {k : Int} {Q : MI → MI → Prop} (I : JI D i r) (hk : 1 ≤ k ∧ k ≤ 5) (hQ : ∀ i' r', JI D i' r' → NV D i' → KPn D k i' r' → Q i' r') : wp_X11_prepare k i r Q :=
  prepare_w I.1 I.2.1 I.2.2.2 hk (fun i1 r1 pq => hQ i1 r1 (I.pq pq) ((pq.kp.m1 (by have := pq.ge; omega)).nv pq.p) (pq.kp.le pq.ge))
/-! the steps as functions of the data -/
noncomputable def soonV (D : Dat) : Int → Int := Classical.epsilon (IsSoon D)
def LateP (D : Dat) (l : Int → Int) : Prop := ∃ s e, IsSoon D s ∧ IsEnd D s e ∧ IsLate D e l
noncomputable def lateV (D : Dat) : Int → Int := Classical.epsilon (LateP D)
def ListP (D : Dat) (t : Int → Int) : Prop := ∃ l, LateP D l ∧ IsList D l t
noncomputable def stepV (D : Dat) : Int → Int := Classical.epsilon (ListP D)
def PlaceP (D : Dat) (p : Int → Int) : Prop := ∃ T, IsInt D T ∧ PlU D T p (nn D)
noncomputable def placV (D : Dat) : Int → Int := Classical.epsilon (PlaceP D)
theorem late_one {D : Dat} (ok : DOk D) {s s' l l' : Int → Int} {e e' : Int} (h : IsSoon D s) (he : IsEnd D s e) (hl : IsLate D e l) (g : IsSoon D s') (ge : IsEnd D s' e') (gl : IsLate D e' l') : ∀ v, 0 ≤ v → v < nn D → l v = l' v := by
  rw [end_uniq (soon_uniq ok g h) ge he] at gl
  exact late_uniq ok hl gl
theorem LateP.uniq {D : Dat} (ok : DOk D) {l l' : Int → Int} (h : LateP D l) (g : LateP D l') : ∀ v, 0 ≤ v → v < nn D → l v = l' v := by
  obtain ⟨s, e, a, b, c⟩ := h
  obtain ⟨s', e', a', b', c'⟩ := g
  exact late_one ok a b c a' b' c'
theorem ListP.uniq {D : Dat} (ok : DOk D) {l l' : Int → Int} (h : ListP D l) (g : ListP D l') : ∀ v, 0 ≤ v → v < nn D → l v = l' v := by
  obtain ⟨s, a, b⟩ := h
  obtain ⟨s', a', b'⟩ := g
  exact list_uniq ok (a.uniq ok a') b b'
theorem PlaceP.uniq {D : Dat} (ok : DOk D) {l l' : Int → Int} (h : PlaceP D l) (g : PlaceP D l') : ∀ v, 0 ≤ v → v < nn D → l v = l' v := by
  obtain ⟨T, a, b⟩ := h
  obtain ⟨T', a', b'⟩ := g
  rw [int_uniq a' a] at b'
  exact pl_uniq ok b b'
theorem soonV_is {D : Dat} {s : Int → Int} (h : IsSoon D s) : IsSoon D (soonV D) := Classical.epsilon_spec ⟨s, h⟩
theorem lateV_is {D : Dat} {s : Int → Int} (h : LateP D s) : LateP D (lateV D) := Classical.epsilon_spec ⟨s, h⟩
theorem stepV_is {D : Dat} {s : Int → Int} (h : ListP D s) : ListP D (stepV D) := Classical.epsilon_spec ⟨s, h⟩
theorem placV_is {D : Dat} {s : Int → Int} (h : PlaceP D s) : PlaceP D (placV D) := Classical.epsilon_spec ⟨s, h⟩
theorem M3.lateP {D : Dat} {i : MI} (h : M3 D i) : LateP D (i 463) := by
  obtain ⟨e, a, b⟩ := h.la
  exact ⟨_, e, h.so, a, b⟩
theorem M3.listP {D : Dat} {i : MI} (h : M3 D i) : ListP D (i 464) := ⟨_, h.lateP, h.li⟩
theorem M4.placeP {D : Dat} {i : MI} (h : M4 D i) : PlaceP D (i 470) := ⟨_, h.t, h.p⟩
/-! what is asked -/
theorem J_kindOf {D : Dat} {i r : MI} {p : Int} {Q : Int → MI → MI → Prop} {X : String → MI → MI → Prop} (I : JI D i r) (hp : 0 ≤ p ∧ p < nn D) (hQ : ∀ i' r', JI D i' r' → Q (kch (kdv D p)) i' r') : wp_X11_kindOf p i r Q X := by
  have nl := nn_le I.1
  unfold wp_X11_kindOf
  refine J_prep I (by decide) (fun i1 r1 J nv kp => ?_)
  refine checkN_w nv.n (fun _ => ⟨by omega, ?_⟩) (fun h => absurd hp h)
  rw [nv.kd hp]
  exact kch_w (kdv_r I.1 hp) (fun hc => ⟨hc, hQ _ _ J⟩)
theorem J_soon {D : Dat} {i r : MI} {p : Int} {Q : Int → MI → MI → Prop} {X : String → MI → MI → Prop} (I : JI D i r) (hp : 0 ≤ p ∧ p < nn D) (hQ : ∀ i' r', JI D i' r' → Q (soonV D p) i' r') : wp_X11_soon p i r Q X := by
  have nl := nn_le I.1
  unfold wp_X11_soon
  refine J_prep I (by decide) (fun i1 r1 J nv kp => ?_)
  have m3 := kp.m3 (by decide)
  refine checkN_w nv.n (fun _ => ⟨by omega, ?_⟩) (fun h => absurd hp h)
  rw [soon_uniq I.1 m3.so (soonV_is m3.so) p hp.1 hp.2]
  exact hQ _ _ J
theorem J_late {D : Dat} {i r : MI} {p : Int} {Q : Int → MI → MI → Prop} {X : String → MI → MI → Prop} (I : JI D i r) (hp : 0 ≤ p ∧ p < nn D) (hQ : ∀ i' r', JI D i' r' → Q (lateV D p) i' r') : wp_X11_late p i r Q X := by
  have nl := nn_le I.1
  unfold wp_X11_late
  refine J_prep I (by decide) (fun i1 r1 J nv kp => ?_)
  have m3 := kp.m3 (by decide)
  refine checkN_w nv.n (fun _ => ⟨by omega, ?_⟩) (fun h => absurd hp h)
  rw [LateP.uniq I.1 m3.lateP (lateV_is m3.lateP) p hp.1 hp.2]
  exact hQ _ _ J
theorem J_step {D : Dat} {i r : MI} {p : Int} {Q : Int → MI → MI → Prop} {X : String → MI → MI → Prop} (I : JI D i r) (hp : 0 ≤ p ∧ p < nn D) (hQ : ∀ i' r', JI D i' r' → Q (stepV D p) i' r') : wp_X11_step p i r Q X := by
  have nl := nn_le I.1
  unfold wp_X11_step
  refine J_prep I (by decide) (fun i1 r1 J nv kp => ?_)
  have m3 := kp.m3 (by decide)
  refine checkN_w nv.n (fun _ => ⟨by omega, ?_⟩) (fun h => absurd hp h)
  rw [ListP.uniq I.1 m3.listP (stepV_is m3.listP) p hp.1 hp.2]
  exact hQ _ _ J
theorem J_place {D : Dat} {i r : MI} {p : Int} {Q : Int → MI → MI → Prop} {X : String → MI → MI → Prop} (I : JI D i r) (hp : 0 ≤ p ∧ p < nn D) (hQ : ∀ i' r', JI D i' r' → Q (placV D p) i' r') : wp_X11_place p i r Q X := by
  have nl := nn_le I.1
  unfold wp_X11_place
  refine J_prep I (by decide) (fun i1 r1 J nv kp => ?_)
  have m4 := kp.m4 (by decide)
  refine checkN_w nv.n (fun _ => ⟨by omega, ?_⟩) (fun h => absurd hp h)
  rw [PlaceP.uniq I.1 m4.placeP (placV_is m4.placeP) p hp.1 hp.2]
  exact hQ _ _ J
theorem J_weight {D : Dat} {i r : MI} {a b d : Int} {Q : Int → MI → MI → Prop} {X : String → MI → MI → Prop} (I : JI D i r) (ha : 0 ≤ a ∧ a < nn D) (hb : 0 ≤ b ∧ b < nn D) (hQ : ∀ w i' r', Ed D a b d w → JI D i' r' → Q w i' r') (hX : (∀ w, ¬ Raw D a b d w) → ∀ i' r', JI D i' r' → X "java/util/NoSuchElementException" i' r') : wp_X11_weight a b d i r Q X := by
  have nl := nn_le I.1
  unfold wp_X11_weight
  refine J_prep I (by decide) (fun i1 r1 J nv kp => ?_)
  have g := kp.m2 (by decide)
  refine checkN_w nv.n (fun _ => checkN_w nv.n (fun _ => find_w g ⟨ha.1, by omega⟩ (fun e e0 e1 x y => ⟨fun z => by omega, fun _ => ?_⟩) (fun no => ⟨fun _ => hX no _ _ J, fun z => absurd rfl z⟩)) (fun h => absurd hb h)) (fun h => absurd ha h)
  have gz := g.z a ha.1 (by omega)
  refine ⟨by omega, by omega, ?_⟩
  have ed := GrC.ed I.1 g ha ⟨e0, e1⟩
  rw [x, y] at ed
  exact hQ _ _ _ ed J
theorem J_nodes {D : Dat} {i r : MI} {Q : Int → MI → MI → Prop} (I : JI D i r) (hQ : ∀ i' r', JI D i' r' → Q (nn D) i' r') : wp_X11_nodes i r Q := by
  unfold wp_X11_nodes
  refine J_prep I (by decide) (fun i1 r1 J nv kp => ?_)
  rw [nv.n]
  exact hQ _ _ J
theorem J_edges {D : Dat} {i r : MI} {Q : Int → MI → MI → Prop} (I : JI D i r) (hQ : ∀ (x : Int) (i' r' : MI), (∃ L : List (Int × Int × Int), L.Nodup ∧ (∀ y : Int × Int × Int, y ∈ L ↔ ∃ w, Raw D y.1 y.2.1 y.2.2 w) ∧ x = L.length) → JI D i' r' → Q x i' r') : wp_X11_edges i r Q := by
  unfold wp_X11_edges
  refine J_prep I (by decide) (fun i1 r1 J nv kp => ?_)
  exact hQ (i1 168 4) _ _ (kp.m2 (by decide)).c J
theorem J_interval {D : Dat} {i r : MI} {Q : Int → MI → MI → Prop} (I : JI D i r) (hQ : ∀ i' r', JI D i' r' → M3 D i' → M4 D i' → Q (i' 469 5) i' r') : wp_X11_interval i r Q := by
  unfold wp_X11_interval
  exact J_prep I (by decide) (fun i1 r1 J nv kp => hQ _ _ J (kp.m3 (by decide)) (kp.m4 (by decide)))
theorem J_byRings {D : Dat} {i r : MI} {Q : Int → MI → MI → Prop} (I : JI D i r) (hQ : ∀ x i' r', IsRing D x → JI D i' r' → Q x i' r') : wp_X11_byRings i r Q := by
  unfold wp_X11_byRings
  exact J_prep I (by decide) (fun i1 r1 J nv kp => hQ _ _ _ (kp.m4 (by decide)).r J)
theorem J_byUnits {D : Dat} {i r : MI} {Q : Int → MI → MI → Prop} (I : JI D i r) (hQ : ∀ i' r', JI D i' r' → Q (uT D) i' r') : wp_X11_byUnits i r Q := by
  unfold wp_X11_byUnits
  refine J_prep I (by decide) (fun i1 r1 J nv kp => ?_)
  rw [(kp.m4 (by decide)).u]
  exact hQ _ _ J
theorem un_T {D : Dat} (ok : DOk D) {k T : Int} (hk : 0 ≤ k ∧ k < 7) (hT : IsInt D T) : 1 ≤ D.un k * T ∧ D.un k * T ≤ 1920 := by
  have u := ok.un k hk.1 hk.2
  have t := int_b hT
  have a : 1 * 1 ≤ D.un k * T := Int.mul_le_mul u.1 t.1 (by omega) (by omega)
  have b : D.un k * T ≤ 4 * 480 := Int.mul_le_mul u.2 t.2 (by omega) (by omega)
  omega
theorem J_busy {D : Dat} {i r : MI} {k : Int} {Q : UInt32 → MI → MI → Prop} {X : String → MI → MI → Prop} (I : JI D i r) (hk : 0 ≤ k ∧ k < 65536) (h0 : 0 ≤ ixS 3 k) (hQ : ∀ T i' r', IsInt D T → JI D i' r' → Q (FP.fdiv (FP.i2f (sJ (kcN D (ixS 3 k)))) (FP.i2f (sJ (D.un (ixS 3 k) * T)))) i' r') : wp_X11_busyShare k i r Q X := by
  have nl := nn_le I.1
  unfold wp_X11_busyShare s67_X11_busyShare
  have ix := ixS_rng (k := 3) (p := k) (by decide)
  have l7 : (chS 3).length = 7 := by decide
  refine indexOf_w (by decide) hk.1 hk.2 ⟨fun z => J_prep I (by decide) (fun i1 r1 J nv kp => ?_), fun z => absurd h0 z⟩
  have kr : 0 ≤ ixS 3 k ∧ ixS 3 k < 7 := by omega
  have m4 := kp.m4 (by decide)
  have mc := (kp.m1 (by decide)).mc J.2.1
  have ut := un_T I.1 kr m4.t
  rw [mc.1 _ kr.1 kr.2, mc.2 _ kr.1 kr.2, wr_of (x := D.un (ixS 3 k) * i1 469 5) (by omega) (by omega)]
  exact ⟨kr, fun _ => ⟨kr, by omega, hQ _ _ _ m4.t J⟩, fun y => absurd ut.1 y⟩
/-! what comes out -/
theorem JI.fr {D : Dat} {i i1 r : MI} (I : JI D i r) (g : FR i i1) (s : CSt D 61 i1 (execS D)) : JI D i1 r := by
  refine ⟨I.1, I.2.1.fr g, .inr s, ?_⟩
  rw [g.2 9 (by decide)]
  exact I.2.2.2.keep I.1 (fun a x y _ _ => g.1 a (by omega) (by omega)) (fun _ _ _ => rfl) rfl
theorem J_carry {D : Dat} {i r : MI} {Q : MI → Prop} (I : JI D i r) (hQ : ∀ i', JI D i' r → CSt D 61 i' (execS D) → Q i') : wp_X11_carryOut i r Q :=
  xcarry_w I.2.1 I.1 I.2.2.1 (fun i1 g s => hQ i1 (I.fr g s) s)
theorem J_outputs {D : Dat} {i r : MI} {Q : Int → MI → Prop} (I : JI D i r) (hQ : ∀ i', JI D i' r → Q (execS D).outs i') : wp_X11_outputs i r Q := by
  unfold wp_X11_outputs
  refine J_carry I (fun i1 J s => ?_)
  rw [s.n]
  exact hQ _ J
theorem J_output {D : Dat} {i r : MI} {p : Int} {Q : Int → MI → Prop} {X : String → MI → Prop} (I : JI D i r) (h0 : 0 ≤ p) (hQ : p < (execS D).outs → ∀ i', JI D i' r → Q ((execS D).out p) i') (hX : ¬ p < (execS D).outs → ∀ i', JI D i' r → X "java/lang/IndexOutOfBoundsException" i') : wp_X11_output p i r Q X := by
  have hn := exec_n I.1
  unfold wp_X11_output s19_X11_output
  refine J_carry I (fun i1 J s => ?_)
  rw [s.n]
  refine ⟨fun e => by omega, fun e => ⟨fun e2 => ⟨by omega, ?_⟩, fun e2 => hX e2 _ J⟩⟩
  rw [s.x p (by omega) e2]
  exact hQ e2 _ J
theorem J_memoryAt {D : Dat} {i r : MI} {m p : Int} {Q : Int → MI → Prop} {X : String → MI → Prop} (I : JI D i r) (e : (m = 77 ∨ m = 78) ∧ 0 ≤ p ∧ p ≤ 15) (hQ : ∀ i', JI D i' r → Q ((execS D).mem (m - 77) p) i') : wp_X11_memoryAt m p i r Q X := by
  have hm : 0 ≤ m ∧ m < 65536 := by omega
  unfold wp_X11_memoryAt
  refine isPlace_w hm ?_
  rw [bz, if_pos e]
  refine ⟨fun q => absurd q (by decide), fun _ => ?_⟩
  refine J_carry I (fun i1 J s => indexOf_w (by decide) hm.1 hm.2 ?_)
  rw [look_e s, ixS_m e.1, lookS, if_pos (by omega)]
  exact hQ _ J
theorem J_cOuts {D : Dat} {i r : MI} {Q : Int → MI → MI → Prop} (I : JI D i r) (hQ : ∀ i' r', JI D i' r' → Q (execS D).outs i' r') : wp_X11_circuitOutputs i r Q := by
  unfold wp_X11_circuitOutputs
  refine J_prep I (by decide) (fun i1 r1 J nv kp => ?_)
  have m5 : CSt D 481 i1 (execS D) := kp.m5 (by decide)
  rw [m5.n]
  exact hQ _ _ J
theorem J_cOut {D : Dat} {i r : MI} {p : Int} {Q : Int → MI → MI → Prop} {X : String → MI → MI → Prop} (I : JI D i r) (h0 : 0 ≤ p) (hQ : p < (execS D).outs → ∀ i' r', JI D i' r' → Q ((execS D).out p) i' r') (hX : ¬ p < (execS D).outs → ∀ i' r', JI D i' r' → X "java/lang/IndexOutOfBoundsException" i' r') : wp_X11_circuitOutput p i r Q X := by
  have hn := exec_n I.1
  unfold wp_X11_circuitOutput s23_X11_circuitOutput
  refine J_prep I (by decide) (fun i1 r1 J nv kp => ?_)
  have m5 : CSt D 481 i1 (execS D) := kp.m5 (by decide)
  rw [m5.n]
  refine ⟨fun e => by omega, fun e => ⟨fun e2 => ⟨by omega, ?_⟩, fun e2 => hX e2 _ _ J⟩⟩
  have ex := m5.x p (by omega) e2
  rw [ex]
  exact hQ e2 _ _ J
theorem J_cMem {D : Dat} {i r : MI} {m p : Int} {Q : Int → MI → MI → Prop} {X : String → MI → MI → Prop} (I : JI D i r) (e : (m = 77 ∨ m = 78) ∧ 0 ≤ p ∧ p ≤ 15) (hQ : ∀ i' r', JI D i' r' → Q ((execS D).mem (m - 77) p) i' r') : wp_X11_circuitMemory m p i r Q X := by
  have hm : 0 ≤ m ∧ m < 65536 := by omega
  unfold wp_X11_circuitMemory
  refine isPlace_w hm ?_
  rw [bz, if_pos e]
  refine ⟨fun q => absurd q (by decide), fun _ => ?_⟩
  refine J_prep I (by decide) (fun i1 r1 J nv kp => indexOf_w (by decide) hm.1 hm.2 ?_)
  have m5 : CSt D 481 i1 (execS D) := kp.m5 (by decide)
  rw [look_e m5, ixS_m e.1, lookS, if_pos (by omega)]
  exact hQ _ _ J
theorem J_both {D : Dat} {i r : MI} {Q : MI → MI → Prop} (I : JI D i r) (hQ : ∀ i1 r1, JI D i1 r1 → KPn D 5 i1 r1 → NV D i1 → CSt D 61 i1 (execS D) → Q i1 r1) : wp_X11_carryOut i r (fun i2 => wp_X11_prepare 5 i2 r Q) := by
  refine J_carry I (fun i1 J s => ?_)
  exact prepare_w J.1 J.2.1 J.2.2.2 (by decide) (fun i2 r2 pq => hQ i2 r2 (J.pq pq) (pq.kp.le pq.ge) ((pq.kp.m1 (by have := pq.ge; omega)).nv pq.p) (s.congr (fun a x y => pq.lo a (by omega) (by omega))))
theorem J_isSame {D : Dat} {i r : MI} {Q : Int → MI → MI → Prop} (I : JI D i r) (hQ : ∀ i' r', JI D i' r' → Q 1 i' r') : wp_X11_isSame i r Q := by
  unfold wp_X11_isSame
  exact J_both I (fun i1 r1 J k5 nv s => like_w I.1 s (k5.m5 (by decide)) ⟨.inr rfl, hQ _ _ J⟩)
theorem J_isSound {D : Dat} {i r : MI} {Q : Int → MI → MI → Prop} (I : JI D i r) (hQ : ∀ i' r', JI D i' r' → Q 1 i' r') : wp_X11_isSound i r Q := by
  unfold wp_X11_isSound s80_X11_isSound s81_X11_isSound
  refine J_both I (fun i1 r1 J k5 nv s => ?_)
  have ok := I.1
  have m2 := k5.m2 (by decide)
  have m3 := k5.m3 (by decide)
  have m4 := k5.m4 (by decide)
  have un := J.2.1.un
  exact lkept_w ok nv m2 un m3 ⟨fun z => absurd z (by decide), fun _ => order_ok ok nv m3 ⟨fun z => absurd z (by decide), fun _ => pkept_w ok nv m2 un m4 ⟨fun z => absurd z (by decide), fun _ => like_w ok s (k5.m5 (by decide)) ⟨fun z => absurd z (by decide), fun _ => ⟨.inr rfl, hQ _ _ J⟩⟩⟩⟩⟩
