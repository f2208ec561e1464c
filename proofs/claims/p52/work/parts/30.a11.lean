/-! ===== the invariant ===== -/
def exd (D : Dat) : Dat := Dat.mk 0 (fun _ => 0) D.cnt 1 D.tur D.bits D.inc D.inp D.told (fun _ => 0) (fun _ => 0) D.F D.N D.T D.O (fun _ => 0) (fun _ _ => 0) (fun _ _ => 0) (fun _ => 0)
theorem oneS_ex {D : Dat} : oneS (exd D) = oneS D := rfl
theorem runS_ex {D : Dat} : ∀ n : Nat, runS (exd D) n = runS D n := by
  intro n
  induction n with
  | zero => rfl
  | succ n ih =>
    show oneS (exd D) ((n : Int) % (exd D).cnt) ((n : Int) / (exd D).cnt) (runS (exd D) n) = oneS D ((n : Int) % D.cnt) ((n : Int) / D.cnt) (runS D n)
    rw [ih, oneS_ex]
    rfl
theorem execS_ex {D D' : Dat} (h : exd D = exd D') : execS D = execS D' := by
  unfold execS
  rw [← runS_ex, ← runS_ex (D := D'), h]
  have e1 : D.tur = D'.tur := by
    show (exd D).tur = (exd D').tur
    rw [h]
  have e2 : D.cnt = D'.cnt := by
    show (exd D).cnt = (exd D').cnt
    rw [h]
  rw [e1, e2]
theorem CSt_ex {D D' : Dat} (h : exd D = exd D') {o : Int} {i : MI} {s : St} : CSt D o i s → CSt D' o i s := by
  have e1 : D.inc = D'.inc := by
    show (exd D).inc = (exd D').inc
    rw [h]
  intro c
  exact ⟨c.r, c.m, c.x, c.n, by rw [← e1]; exact c.t⟩
theorem RC.ex {D D' : Dat} (h : exd D = exd D') {i : MI} (r : RC D i) : RC D' i := by
  rcases r with z | z
  · exact .inl z
  · exact .inr (by rw [← execS_ex h]; exact CSt_ex h z)
theorem M5.ex {D D' : Dat} (h : exd D = exd D') {i : MI} (m : M5 D i) : M5 D' i := by
  unfold M5 at m ⊢
  rw [← execS_ex h]
  exact CSt_ex h m
/-- the same graph, steps and interval -/
def sameC (D D' : Dat) (n : Int) : Prop := (1 ≤ n → ∀ u y, co u y D = co u y D') ∧ (2 ≤ n → D.cy = D'.cy) ∧ (3 ≤ n → D.un = D'.un) ∧ (5 ≤ n → exd D = exd D')
theorem KPn.same {D D' : Dat} {n : Int} (s : sameC D D' n) {i r : MI} (h : KPn D n i r) : KPn D' n i r := by
  obtain ⟨s1, s2, s3, s5⟩ := s
  refine ⟨fun z => ?_, fun z => ?_, fun z => ?_, fun z => ?_, fun z => (h.m5 z).ex (s5 z)⟩
  · rw [← M1_cor (u := D.un) (y := D.cy), ← s1 z, M1_cor]; exact h.m1 z
  · rw [← M2_cor (u := D.un), ← s2 z, ← s1 (by omega), M2_cor]; exact h.m2 z
  · rw [← M3_cor, ← s2 (by omega), ← s3 z, ← s1 (by omega), M3_cor]; exact h.m3 z
  · rw [← M4_cor, ← s2 (by omega), ← s3 (by omega), ← s1 (by omega), M4_cor]; exact h.m4 z
theorem ClassP.fm {D : Dat} {i i' r : MI} (h : ClassP D i r) (g : Fm i i') : ClassP D i' r := by
  have h9 := fun k a b => stm_rng (h.rf.s k a b)
  have h33 := stm_rng h.rf.p
  refine h.congr ?_ ?_ ?_ ?_ ?_ ?_ ?_ ?_ ?_ ?_ rfl rfl
  all_goals (intros; rw [g _ (by omega)])
theorem RC.fr {D : Dat} {i i' : MI} (r : RC D i) (g : ∀ a, 61 ≤ a → a ≤ 66 → i' a = i a) (c : i' 0 10 = i 0 10) : RC D i' := by
  rcases r with z | z
  · exact .inl (by rw [c]; exact z)
  · exact .inr (z.congr (fun a x y => g a x (by omega)))
/-! ===== the cases: what tells ===== -/
def SpOk (D : Dat) (s : Int × Int × Dat) (n : Int) : Prop := DOk s.2.2 ∧ (s.1 = 0 → sameC D s.2.2 n) ∧ (s.1 ≠ 0 → s.2.2 = D)
theorem SpOk.exc {D : Dat} (ok : DOk D) {c n : Int} (hc : c ≠ 0) : SpOk D (c, 0, D) n := ⟨ok, fun z => absurd z hc, fun _ => rfl⟩
theorem co_tur {D : Dat} {p : Int} {u y : Int → Int} : co u y D = co u y (Dat.mk (D.many) (D.tx) (D.cnt) (D.fac) (p) (D.bits) (D.inc) (D.inp) (D.told) (D.un) (D.cy) (D.F) (D.N) (D.T) (D.O) (D.ac) (D.ach) (D.apt) (D.dep)) := rfl
theorem spTurns_ok {D : Dat} (ok : DOk D) {p n : Int} (hn : n ≤ 4) : SpOk D (spTurns D p) n := by
  unfold spTurns
  split
  · rename_i h
    split
    · rename_i h2
      refine ⟨⟨ok.many, ok.tx, ok.cnt, ok.fac, ok.body, h, h2, ok.bits, ok.inc, ok.inp, ok.told, ok.un, ok.un1, ok.cy, ok.st, ok.ac, ok.ach, ok.apt, ok.dep⟩, fun _ => ⟨fun _ _ _ => rfl, fun _ => rfl, fun _ => rfl, fun z => by omega⟩, fun z => absurd rfl z⟩
    · exact .exc ok (by decide)
  · exact .exc ok (by decide)
theorem spBits_ok {D : Dat} (ok : DOk D) {p n : Int} (hn : n ≤ 4) : SpOk D (spBits D p) n := by
  unfold spBits
  split
  · rename_i h
    refine ⟨⟨ok.many, ok.tx, ok.cnt, ok.fac, ok.body, ok.tur, ok.div, h, ok.inc, ok.inp, ok.told, ok.un, ok.un1, ok.cy, ok.st, ok.ac, ok.ach, ok.apt, ok.dep⟩, fun _ => ⟨fun _ _ _ => rfl, fun _ => rfl, fun _ => rfl, fun z => by omega⟩, fun z => absurd rfl z⟩
  · exact .exc ok (by decide)
theorem spInput_ok {D : Dat} (ok : DOk D) {p n : Int} (hn : n ≤ 4) : SpOk D (spInput D p) n := by
  unfold spInput
  split
  · rename_i h
    split
    · rename_i h2
      have a := ok.inc
      refine ⟨⟨ok.many, ok.tx, ok.cnt, ok.fac, ok.body, ok.tur, ok.div, ok.bits, ?_, ?_, ok.told, ok.un, ok.un1, ok.cy, ok.st, ok.ac, ok.ach, ok.apt, ok.dep⟩, fun _ => ⟨fun _ _ _ => rfl, fun _ => rfl, fun _ => rfl, fun z => by omega⟩, fun z => absurd rfl z⟩
      · show 0 ≤ D.inc + 1 ∧ D.inc + 1 ≤ 32
        omega
      · intro k k0 k1
        have k1 : k < D.inc + 1 := k1
        show 0 ≤ (if k = D.inc then p else D.inp k) ∧ (if k = D.inc then p else D.inp k) ≤ 65535
        split
        · exact h
        · exact ok.inp k k0 (by omega)
    · exact .exc ok (by decide)
  · exact .exc ok (by decide)
theorem spMemory_ok {D : Dat} (ok : DOk D) {m p v n : Int} (hn : n ≤ 4) : SpOk D (spMemory D m p v) n := by
  unfold spMemory
  split
  · rename_i h
    refine ⟨⟨ok.many, ok.tx, ok.cnt, ok.fac, ok.body, ok.tur, ok.div, ok.bits, ok.inc, ok.inp, ?_, ok.un, ok.un1, ok.cy, ok.st, ok.ac, ok.ach, ok.apt, ok.dep⟩, fun _ => ⟨fun _ _ _ => rfl, fun _ => rfl, fun _ => rfl, fun z => by omega⟩, fun z => absurd rfl z⟩
    intro a b a0 a1 b0 b1
    show 0 ≤ (if a = m - 77 ∧ b = p then v else D.told a b) ∧ (if a = m - 77 ∧ b = p then v else D.told a b) ≤ 65535
    split
    · exact h.2.2.2
    · exact ok.told a b a0 a1 b0 b1
  · exact .exc ok (by decide)
theorem spUnits_ok {D : Dat} (ok : DOk D) {k m n : Int} (hn : n ≤ 2) : SpOk D (spUnits D k m) n := by
  unfold spUnits
  split
  · exact .exc ok (by decide)
  · rename_i h
    split
    · exact .exc ok (by decide)
    · rename_i h2
      refine ⟨⟨ok.many, ok.tx, ok.cnt, ok.fac, ok.body, ok.tur, ok.div, ok.bits, ok.inc, ok.inp, ok.told, ?_, ?_, ok.cy, ok.st, ok.ac, ok.ach, ok.apt, ok.dep⟩, fun _ => ⟨fun _ _ _ => rfl, fun _ => rfl, fun z => by omega, fun z => by omega⟩, fun z => absurd rfl z⟩
      · intro a a0 a1
        show 1 ≤ (if a = ixS 3 k then m else D.un a) ∧ (if a = ixS 3 k then m else D.un a) ≤ 4
        split
        · omega
        · exact ok.un a a0 a1
      · intro a a0 a1
        show (if a = ixS 3 k then m else D.un a) = 1
        split
        · omega
        · exact ok.un1 a a0 a1
theorem spCycles_ok {D : Dat} (ok : DOk D) {k m n : Int} (hn : n ≤ 1) : SpOk D (spCycles D k m) n := by
  unfold spCycles
  split
  · exact .exc ok (by decide)
  · rename_i h
    refine ⟨⟨ok.many, ok.tx, ok.cnt, ok.fac, ok.body, ok.tur, ok.div, ok.bits, ok.inc, ok.inp, ok.told, ok.un, ok.un1, ?_, ok.st, ok.ac, ok.ach, ok.apt, ok.dep⟩, fun _ => ⟨fun _ _ _ => rfl, fun z => by omega, fun z => by omega, fun z => by omega⟩, fun z => absurd rfl z⟩
    intro a a0 a1
    show 1 ≤ (if a = ixS 3 k then m else D.cy a) ∧ (if a = ixS 3 k then m else D.cy a) ≤ 5
    split
    · omega
    · exact ok.cy a a0 a1
theorem sameC.rfl' {D D' : Dat} {n : Int} (h1 : ∀ u y, co u y D = co u y D') (h2 : D.cy = D'.cy) (h3 : D.un = D'.un) (h5 : exd D = exd D') : sameC D D' n := ⟨fun _ => h1, fun _ => h2, fun _ => h3, fun _ => h5⟩
theorem spType_ok {D : Dat} (ok : DOk D) {c n : Int} (hc : 0 ≤ c ∧ c < 65536) : SpOk D (spType D c) n ∧ exd D = exd (spType D c).2.2 := by
  unfold spType
  split
  · exact ⟨.exc ok (by decide), rfl⟩
  · split
    · exact ⟨.exc ok (by decide), rfl⟩
    · rename_i h h2
      have a := ok.many
      refine ⟨⟨⟨?_, ?_, ok.cnt, ok.fac, ok.body, ok.tur, ok.div, ok.bits, ok.inc, ok.inp, ok.told, ok.un, ok.un1, ok.cy, ok.st, ok.ac, ok.ach, ok.apt, ok.dep⟩, fun _ => .rfl' (fun _ _ => rfl) rfl rfl rfl, fun z => absurd rfl z⟩, rfl⟩
      · show 0 ≤ D.many + 1 ∧ D.many + 1 ≤ 24
        omega
      · intro k k0 k1
        have k1 : k < D.many + 1 := k1
        show 0 ≤ (if k = D.many then c else D.tx k) ∧ (if k = D.many then c else D.tx k) < 65536
        split
        · exact hc
        · exact ok.tx k k0 (by omega)
theorem clear_ok {D : Dat} (ok : DOk D) : DOk (Dat.mk (0) (D.tx) (D.cnt) (D.fac) (D.tur) (D.bits) (D.inc) (D.inp) (D.told) (D.un) (D.cy) (D.F) (D.N) (D.T) (D.O) (D.ac) (D.ach) (D.apt) (D.dep)) :=
  ⟨by show (0:Int) ≤ 0 ∧ (0:Int) ≤ 24; decide, fun k a b => by have b : k < 0 := b; omega, ok.cnt, ok.fac, ok.body, ok.tur, ok.div, ok.bits, ok.inc, ok.inp, ok.told, ok.un, ok.un1, ok.cy, ok.st, ok.ac, ok.ach, ok.apt, ok.dep⟩
theorem spAction_ok {D : Dat} (ok : DOk D) {p c b n : Int} (hb : b = 0 ∨ b = 1) : SpOk D (spAction D p c b) n ∧ exd D = exd (spAction D p c b).2.2 := by
  unfold spAction
  split
  · rename_i h
    split
    · rename_i h2
      refine ⟨⟨⟨ok.many, ok.tx, ok.cnt, ok.fac, ok.body, ok.tur, ok.div, ok.bits, ok.inc, ok.inp, ok.told, ok.un, ok.un1, ok.cy, ok.st, ?_, ?_, ?_, ok.dep⟩, fun _ => .rfl' (fun _ _ => rfl) rfl rfl rfl, fun z => absurd rfl z⟩, rfl⟩
      · intro a a0 a1
        have := ok.ac a a0 a1
        have := ok.ac p h.1 (by omega)
        show 0 ≤ (if a = p then D.ac p + 1 else D.ac a) ∧ (if a = p then D.ac p + 1 else D.ac a) ≤ 16
        split <;> omega
      · intro a k a0 a1 k0 k1
        have k1 : k < (if a = p then D.ac p + 1 else D.ac a) := k1
        show 0 ≤ (if a = p ∧ k = D.ac p then c else D.ach a k) ∧ (if a = p ∧ k = D.ac p then c else D.ach a k) < 4
        by_cases z : a = p ∧ k = D.ac p
        · rw [if_pos z]; omega
        · rw [if_neg z]
          refine ok.ach a k a0 a1 k0 ?_
          split at k1
          · rename_i e; rw [e]; have : k ≠ D.ac p := fun y => z ⟨e, y⟩
            omega
          · exact k1
      · intro a k a0 a1 k0 k1
        have k1 : k < (if a = p then D.ac p + 1 else D.ac a) := k1
        show (if a = p ∧ k = D.ac p then b else D.apt a k) = 0 ∨ (if a = p ∧ k = D.ac p then b else D.apt a k) = 1
        by_cases z : a = p ∧ k = D.ac p
        · rw [if_pos z]; exact hb
        · rw [if_neg z]
          refine ok.apt a k a0 a1 k0 ?_
          split at k1
          · rename_i e; rw [e]; have : k ≠ D.ac p := fun y => z ⟨e, y⟩
            omega
          · exact k1
    · exact ⟨.exc ok (by decide), rfl⟩
  · exact ⟨.exc ok (by decide), rfl⟩
theorem spDepth_ok {D : Dat} (ok : DOk D) {c m n : Int} : SpOk D (spDepth D c m) n ∧ exd D = exd (spDepth D c m).2.2 := by
  unfold spDepth
  split
  · rename_i h
    refine ⟨⟨⟨ok.many, ok.tx, ok.cnt, ok.fac, ok.body, ok.tur, ok.div, ok.bits, ok.inc, ok.inp, ok.told, ok.un, ok.un1, ok.cy, ok.st, ok.ac, ok.ach, ok.apt, ?_⟩, fun _ => .rfl' (fun _ _ => rfl) rfl rfl rfl, fun z => absurd rfl z⟩, rfl⟩
    intro a a0 a1
    show 1 ≤ (if a = c then m else D.dep a) ∧ (if a = c then m else D.dep a) ≤ 16
    split
    · exact h.2.2
    · exact ok.dep a a0 a1
  · exact ⟨.exc ok (by decide), rfl⟩

/-! ===== what asks the stages ===== -/
theorem KPn.keep' {D : Dat} (ok : DOk D) {n : Int} {i i' r r' : MI} (h : KPn D n i r) (g : ∀ a, 67 ≤ a → a ≤ 487 → (a < 465 ∨ 468 < a) → i' a = i a) (gr : ∀ a, 72 ≤ a → a < 168 → r' a = r a) (g4 : r' 4 = r 4) : KPn D n i' r' := by
  have k := KPn.keep ok (i' := fun a => if a < 465 ∨ 468 < a then i' a else i a) (r' := r') h (fun a x y _ _ => by
    by_cases z : a < 465 ∨ 468 < a
    · show (if a < 465 ∨ 468 < a then i' a else i a) = i a
      rw [if_pos z]; exact g a x y z
    · show (if a < 465 ∨ 468 < a then i' a else i a) = i a
      rw [if_neg z]) gr g4
  have e : ∀ a, (a < 465 ∨ 468 < a) → i' a = (fun a => if a < 465 ∨ 468 < a then i' a else i a) a := fun a z => by
    show i' a = if a < 465 ∨ 468 < a then i' a else i a
    rw [if_pos z]
  refine ⟨fun z => (k.m1 z).keep ok (fun a x y _ _ => e a (by omega)) (fun _ _ _ => rfl) rfl, fun z => (k.m2 z).fl ok (fun a x => e a (by omega)), fun z => (k.m3 z).keep (fun a x y => e a (by omega)), fun z => (k.m4 z).congr (e 469 (by omega)) (e 470 (by omega)), fun z => CSt.congr (k.m5 z) (fun a x y => e a (by omega))⟩
/-- after a call of the class that asks what has been made -/
def Pc (D : Dat) (c v : Int) (i i' r' : MI) : Prop := (ClassP D i' r') ∧ (RC D i') ∧ (KPn D (i' 0 9) i' r') ∧ (∀ a, 504 ≤ a → a ≠ 540 → a ≠ 541 → i' a = i a) ∧ (c = 0 → i' 540 0 = jLo ((sJ v).toInt64) ∧ i' 540 1 = jHi ((sJ v).toInt64))
theorem Pc.p {D : Dat} {c v : Int} {i i' r' : MI} (h0 : Pc D c v i i' r') : ClassP D i' r' := h0.1
theorem Pc.rc {D : Dat} {c v : Int} {i i' r' : MI} (h0 : Pc D c v i i' r') : RC D i' := h0.2.1
theorem Pc.kp {D : Dat} {c v : Int} {i i' r' : MI} (h0 : Pc D c v i i' r') : KPn D (i' 0 9) i' r' := h0.2.2.1
theorem Pc.f {D : Dat} {c v : Int} {i i' r' : MI} (h0 : Pc D c v i i' r') : ∀ a, 504 ≤ a → a ≠ 540 → a ≠ 541 → i' a = i a := h0.2.2.2.1
theorem Pc.out {D : Dat} {c v : Int} {i i' r' : MI} (h0 : Pc D c v i i' r') : c = 0 → i' 540 0 = jLo ((sJ v).toInt64) ∧ i' 540 1 = jHi ((sJ v).toInt64) := h0.2.2.2.2
theorem Pc.mk {D : Dat} {c v : Int} {i i' r' : MI} (h0 : ClassP D i' r') (h1 : RC D i') (h2 : KPn D (i' 0 9) i' r') (h3 : ∀ a, 504 ≤ a → a ≠ 540 → a ≠ 541 → i' a = i a) (h4 : c = 0 → i' 540 0 = jLo ((sJ v).toInt64) ∧ i' 540 1 = jHi ((sJ v).toInt64)) : Pc D c v i i' r' := ⟨h0, h1, h2, h3, h4⟩
theorem Pc.of {D : Dat} {k c v : Int} {i r i1 r1 : MI} (h : Pq D k i r i1 r1) (rc : RC D i) (hc : c ≠ 0) : Pc D c v i i1 r1 :=
  ⟨h.p, rc.fr (fun a x y => h.lo a (by omega) y) (h.c 10 (by decide)), h.kp, fun a x _ _ => h.hi a (by omega), fun z => absurd z hc⟩
theorem Pc.fo {D : Dat} {c v : Int} {i i1 i2 r1 : MI} (ok : DOk D) (h : Pc D c v i i1 r1) (g : FO i1 i2) (g2 : ∀ a, 462 ≤ a → a ≤ 464 → i2 a = i1 a) (hc : c ≠ 0) : Pc D c v i i2 r1 :=
  ⟨h.p.fo g, h.rc.fr (fun a x y => g a (by omega)) (by rw [g 0 (by omega)]), by
    rw [g 0 (by omega)]
    exact h.kp.keep' ok (fun a x y z => by
      by_cases w : 462 ≤ a ∧ a ≤ 464
      · exact g2 a w.1 w.2
      · exact g a (by omega)) (fun _ _ _ => rfl) rfl, fun a x y z => by rw [g a (by omega)]; exact h.f a x y z, fun z => absurd z hc⟩
theorem Pc.ret {D : Dat} {c v w : Int} {i i1 r1 : MI} (ok : DOk D) (h : Pc D c v i i1 r1) : Pc D 0 w i (st (st i1 540 0 (jLo ((sJ w).toInt64))) 540 1 (jHi ((sJ w).toInt64))) r1 := by
  have e : ∀ a, a ≠ 540 → (st (st i1 540 0 (jLo ((sJ w).toInt64))) 540 1 (jHi ((sJ w).toInt64))) a = i1 a := fun a z => by rw [st_row z, st_row z]
  refine ⟨?_, h.rc.fr (fun a x y => e a (by omega)) (by rw [e 0 (by decide)]), ?_, fun a x y z => by rw [e a y]; exact h.f a x y z, fun _ => ⟨by rw [st_ne (by decide), st_eq], st_eq⟩⟩
  · refine h.p.congr ?_ ?_ ?_ ?_ ?_ ?_ ?_ ?_ ?_ ?_ rfl rfl
    all_goals (intros; rw [e _ (by omega)])
  · rw [e 0 (by decide)]
    exact h.kp.keep ok (fun a x y _ _ => e a (by omega)) (fun _ _ _ => rfl) rfl
def coNode (D : Dat) (p : Int) : Int := if 0 ≤ p ∧ p < nn D then 0 else 1
theorem checkN_w {D : Dat} {i r : MI} {p : Int} {Q : Prop} {X : String → Prop} (hn : i 67 4 = nn D) (h0 : (0 ≤ p ∧ p < nn D) → Q) (h1 : ¬ (0 ≤ p ∧ p < nn D) → X "java/lang/IndexOutOfBoundsException") : wp_X11_checkNode p i r Q X := by
  unfold wp_X11_checkNode s15_X11_checkNode
  rw [hn]
  exact ⟨fun z => h1 (by omega), fun z => ⟨fun y => h0 ⟨by omega, y⟩, fun y => h1 (by omega)⟩⟩
