/-! ===== the invariant ===== -/
def exd (D : Dat) : Dat := Dat.mk 0 (fun _ => 0) D.cnt 1 D.tur D.bits D.inc D.inp D.told (fun _ => 0) (fun _ => 0) D.F D.N D.T D.O (fun _ => 0) (fun _ _ => 0) (fun _ _ => 0) (fun _ => 0)
theorem oneS_ex {D : Dat} : oneS (exd D) = oneS D := rfl
theorem runS_ex {D : Dat} : ∀ n : Nat, runS (exd D) n = runS D n := by
  intro n
  induction n with
  | zero => rfl
  | succ n ih =>
    show oneS (exd D) ((n : Int) % (exd D).cnt) ((n : Int) / (exd D).cnt) (runS (exd D) n) = oneS D ((n : Int) % D.cnt) ((n : Int) / D.cnt) (runS D n)
    rw [ih, oneS_ex]
    rfl
theorem execS_ex {D D' : Dat} (h : exd D = exd D') : execS D = execS D' := by
  unfold execS
  rw [← runS_ex, ← runS_ex (D := D'), h]
  have e1 : D.tur = D'.tur := by
    show (exd D).tur = (exd D').tur
    rw [h]
  have e2 : D.cnt = D'.cnt := by
    show (exd D).cnt = (exd D').cnt
    rw [h]
  rw [e1, e2]
theorem CSt_ex {D D' : Dat} (h : exd D = exd D') {o : Int} {i : MI} {s : St} : CSt D o i s → CSt D' o i s := by
  have e1 : D.inc = D'.inc := by
    show (exd D).inc = (exd D').inc
    rw [h]
  intro c
  exact ⟨c.r, c.m, c.x, c.n, by rw [← e1]; exact c.t⟩
theorem RC.ex {D D' : Dat} (h : exd D = exd D') {i : MI} (r : RC D i) : RC D' i := by
  rcases r with z | z
  · exact .inl z
  · exact .inr (by rw [← execS_ex h]; exact CSt_ex h z)
theorem M5.ex {D D' : Dat} (h : exd D = exd D') {i : MI} (m : M5 D i) : M5 D' i := by
  unfold M5 at m ⊢
  rw [← execS_ex h]
  exact CSt_ex h m
/-- the same graph, steps and interval -/
def sameC (D D' : Dat) (n : Int) : Prop := (1 ≤ n → ∀ u y, co u y D = co u y D') ∧ (2 ≤ n → D.cy = D'.cy) ∧ (3 ≤ n → D.un = D'.un) ∧ (5 ≤ n → exd D = exd D')
theorem KPn.same {D D' : Dat} {n : Int} (s : sameC D D' n) {i r : MI} (h : KPn D n i r) : KPn D' n i r := by
  obtain ⟨s1, s2, s3, s5⟩ := s
  refine ⟨fun z => ?_, fun z => ?_, fun z => ?_, fun z => ?_, fun z => (h.m5 z).ex (s5 z)⟩
  · rw [← M1_cor (u := D.un) (y := D.cy), ← s1 z, M1_cor]; exact h.m1 z
  · rw [← M2_cor (u := D.un), ← s2 z, ← s1 (by omega), M2_cor]; exact h.m2 z
  · rw [← M3_cor, ← s2 (by omega), ← s3 z, ← s1 (by omega), M3_cor]; exact h.m3 z
  · rw [← M4_cor, ← s2 (by omega), ← s3 (by omega), ← s1 (by omega), M4_cor]; exact h.m4 z
def Inv (i r : MI) : Prop := ∃ D, DOk D ∧ ClassP D i r ∧ ModelP D i ∧ RC D i ∧ KPn D (i 0 9) i r
theorem ClassP.fm {D : Dat} {i i' r : MI} (h : ClassP D i r) (g : Fm i i') : ClassP D i' r := by
  have h9 := fun k a b => stm_rng (h.rf.s k a b)
  have h33 := stm_rng h.rf.p
  refine h.congr ?_ ?_ ?_ ?_ ?_ ?_ ?_ ?_ ?_ ?_ rfl rfl
  all_goals (intros; rw [g _ (by omega)])
theorem ModelP.cl {D : Dat} {i i' : MI} (h : ModelP D i) (g : ∀ a, 504 ≤ a → a ≠ 540 → i' a = i a) : ModelP D i' :=
  h.congr (fun c _ => by rw [g 504 (by decide) (by decide)]) (g _ (by decide) (by decide)) (fun a x y => g _ (by omega) (by omega)) (fun a x y => g _ (by omega) (by omega))
theorem RC.fr {D : Dat} {i i' : MI} (r : RC D i) (g : ∀ a, 61 ≤ a → a ≤ 66 → i' a = i a) (c : i' 0 10 = i 0 10) : RC D i' := by
  rcases r with z | z
  · exact .inl (by rw [c]; exact z)
  · exact .inr (z.congr (fun a x y => g a x (by omega)))
/-- how a call that may throw ends -/
theorem thr_end {i r : MI} {c v w : Int} {P : Prop} (h1 : i 504 0 = c) (h2 : c = 0 → w = v ∧ i 540 0 = jLo ((sJ v).toInt64) ∧ i 540 1 = jHi ((sJ v).toInt64)) (hP : P) : wp_X12_thrown i r (fun v19 => ((v19 = c → ((c = 0 → ((((lg_cmp (jMk (i 540 0) (i 540 1)) ((sJ w).toInt64)).toInt) = 0 → P) ∧ (¬ ((lg_cmp (jMk (i 540 0) (i 540 1)) ((sJ w).toInt64)).toInt) = 0 → False))) ∧ (¬ c = 0 → P))) ∧ (¬ v19 = c → False))) := by
  unfold wp_X12_thrown
  refine ⟨fun _ => ⟨fun z => ?_, fun _ => hP⟩, fun z => z h1⟩
  obtain ⟨e, a, b⟩ := h2 z
  rw [a, b, jMk_eq, e]
  refine ⟨fun _ => hP, fun q => q ?_⟩
  unfold lg_cmp
  simp
/-- a call that tells -/
theorem tell_end {D : Dat} {s : Int × Int × Dat} {w md co' : Int} {i i1 i2 r : MI} (ok : DOk D) (ok' : DOk s.2.2) (cl : Cl s i i1 r md co') (mo : Mo s w i1 i2) (rc : RC D i) (kp : KPn D (i 0 9) i r)
    (hR : s.1 = 0 → co' = 0 ∨ (co' = i 0 10 ∧ exd D = exd s.2.2)) (hN : s.1 = 0 → md ≤ i 0 9 ∧ sameC D s.2.2 md) (h0 : s.1 ≠ 0 → s.2.2 = D) : Inv i2 r := by
  have f := mo.f
  refine ⟨s.2.2, ok', cl.p.fm f, mo.p, ?_, ?_⟩
  · have k1 : ∀ a, 61 ≤ a → a ≤ 66 → i2 a = i a := fun a x y => by rw [f a (by omega), cl.k a (by omega)]
    have k2 : ∀ c, i2 0 c = i1 0 c := fun c => by rw [f 0 (by omega)]
    by_cases z : s.1 = 0
    · have m := cl.m z
      rcases hR z with q | ⟨q, e⟩
      · exact .inl (by rw [k2, m.2, q])
      · exact (rc.ex e).fr k1 (by rw [k2, m.2, q])
    · rw [h0 z]
      exact rc.fr k1 (by rw [k2, cl.m' z])
  · have k1 : ∀ a, 67 ≤ a → a ≤ 487 → a ≠ 69 → a ≠ 70 → i2 a = i a := fun a x y u v => by rw [f a (by omega), cl.k a (by omega)]
    have k2 : i2 0 = i1 0 := f 0 (by omega)
    by_cases z : s.1 = 0
    · rw [k2, (cl.m z).1]
      obtain ⟨l, sc⟩ := hN z
      exact ((kp.le l).same sc).keep ok' k1 (fun _ _ _ => rfl) rfl
    · rw [h0 z, k2, cl.m' z]
      exact kp.keep ok k1 (fun _ _ _ => rfl) rfl
