/-! ===== the law's texts are statements ===== -/
def At (c : Int → Int) : Int → List Int → Prop
  | _, [] => True
  | a, x :: l => c a = x ∧ At c (a + 1) l
theorem At_app {c : Int → Int} : ∀ {l m : List Int} {a : Int}, At c a (l ++ m) ↔ At c a l ∧ At c (a + (l.length : Int)) m := by
  intro l
  induction l with
  | nil =>
    intro m a
    show At c a m ↔ True ∧ At c (a + ((0 : Nat) : Int)) m
    rw [show a + ((0 : Nat) : Int) = a by omega]
    exact ⟨fun h => ⟨trivial, h⟩, fun h => h.2⟩
  | cons x l ih =>
    intro m a
    show c a = x ∧ At c (a + 1) (l ++ m) ↔ (c a = x ∧ At c (a + 1) l) ∧ At c (a + ((l.length + 1 : Nat) : Int)) m
    rw [ih, show a + ((l.length + 1 : Nat) : Int) = a + 1 + (l.length : Int) by omega]
    exact ⟨fun h => ⟨⟨h.1, h.2.1⟩, h.2.2⟩, fun h => ⟨h.1.1, h.1.2, h.2⟩⟩
theorem At_of {c : Int → Int} : ∀ {l : List Int} {a : Int}, (∀ j : Nat, j < l.length → c (a + (j : Int)) = l.getD j 0) → At c a l := by
  intro l
  induction l with
  | nil => intro a _; exact trivial
  | cons x l ih =>
    intro a h
    refine ⟨?_, ih (fun j hj => ?_)⟩
    · have := h 0 (by simp)
      rw [show a + ((0 : Nat) : Int) = a by omega] at this
      exact this
    · have := h (j + 1) (by simp only [List.length_cons]; omega)
      rw [show a + ((j + 1 : Nat) : Int) = a + 1 + (j : Int) by omega] at this
      exact this
/-- what was read well, up to a place, with small steps by the turn -/
def GP (x : PR) (e : Int) : Prop := x.ok = true ∧ x.a = e ∧ (x.t = 1 → -3 ≤ x.n ∧ x.n ≤ 4)
theorem num_at {c : Int → Int} {a v : Int} (h : At c a (digT v)) (hv : 0 ≤ v ∧ v < 100) (hn : ¬ dg (c (a + ((digT v).length : Int)))) : dg (c a) ∧ (numP c a 2).2 = a + ((digT v).length : Int) := by
  unfold dg at hn ⊢
  unfold numP
  unfold digT at h hn ⊢
  by_cases z : v < 10
  · rw [if_pos z] at h hn ⊢
    have h1 : c a = 48 + v := h.1
    have hn : ¬ (48 ≤ c (a + 1) ∧ c (a + 1) ≤ 57) := hn
    refine ⟨by omega, ?_⟩
    rw [if_neg (by omega)]
    rfl
  · rw [if_neg z] at h hn ⊢
    have h1 : c a = 48 + v / 10 := h.1
    have h2 : c (a + 1) = 48 + v % 10 := h.2.1
    refine ⟨by omega, ?_⟩
    rw [if_pos (by omega)]
    rfl
theorem dig_1 {v : Int} (h : v < 10) : digT v = [48 + v] := by unfold digT; rw [if_pos h]
theorem idx_at {c : Int → Int} {a p : Int} {L : Nat} {xs : Int → Int} (h : At c a (idxT L xs p)) (hn : c (a + ((idxT L xs p).length : Int)) = 93) : GP (idxP c a) (a + ((idxT L xs p).length : Int)) := by
  have r0 := pk_rng (L := L) (xs := xs) (p := p) (m := 4) (by decide)
  unfold idxT at h hn ⊢
  by_cases z0 : pk L xs p 4 = 0
  · rw [if_pos z0] at h hn ⊢
    have r1 := pk_rng (L := L) (xs := xs) (p := p + 1) (m := 20) (by decide)
    generalize pk L xs (p + 1) 20 = v at h hn r1 ⊢
    have g := num_at h (by omega) (by rw [hn]; decide)
    have g1 := g.1
    unfold dg at g1
    unfold idxP
    rw [if_neg (by omega), if_pos g.1]
    exact ⟨rfl, g.2, fun y => absurd y (show ¬ (0 : Int) = 1 by decide)⟩
  · rw [if_neg z0] at h hn ⊢
    by_cases z1 : pk L xs p 4 = 1
    · rw [if_pos z1] at h hn ⊢
      have h1 : c a = 105 := h.1
      have hn : c (a + 1) = 93 := hn
      unfold idxP
      rw [if_pos h1, if_neg (by omega)]
      exact ⟨rfl, rfl, fun _ => ⟨show (-3 : Int) ≤ 0 by decide, show (0 : Int) ≤ 4 by decide⟩⟩
    · rw [if_neg z1] at h hn ⊢
      by_cases z2 : pk L xs p 4 = 2
      · rw [if_pos z2] at h hn ⊢
        have r1 := pk_rng (L := L) (xs := xs) (p := p + 1) (m := 5) (by decide)
        generalize pk L xs (p + 1) 5 = v at h hn r1 ⊢
        rw [dig_1 (by omega)] at h hn ⊢
        have h1 : c a = 105 := h.1
        have h2 : c (a + 1) = 43 := h.2.1
        have h3 : c (a + 1 + 1) = 48 + v := h.2.2.1
        rw [show a + 1 + 1 = a + 2 by omega] at h3
        unfold idxP
        rw [if_pos h1, if_pos (.inr h2), if_pos (by unfold dg; omega), if_neg (by omega)]
        exact ⟨rfl, rfl, fun _ => by show -3 ≤ c (a + 2) - 48 ∧ c (a + 2) - 48 ≤ 4; omega⟩
      · rw [if_neg z2] at h hn ⊢
        have r1 := pk_rng (L := L) (xs := xs) (p := p + 1) (m := 4) (by decide)
        generalize pk L xs (p + 1) 4 = v at h hn r1 ⊢
        rw [dig_1 (by omega)] at h hn ⊢
        have h1 : c a = 105 := h.1
        have h2 : c (a + 1) = 45 := h.2.1
        have h3 : c (a + 1 + 1) = 48 + v := h.2.2.1
        rw [show a + 1 + 1 = a + 2 by omega] at h3
        unfold idxP
        rw [if_pos h1, if_pos (.inl h2), if_pos (by unfold dg; omega), if_pos h2]
        exact ⟨rfl, rfl, fun _ => by show -3 ≤ -(c (a + 2) - 48) ∧ -(c (a + 2) - 48) ≤ 4; omega⟩
theorem reg_at {c : Int → Int} {a p : Int} {L : Nat} {xs : Int → Int} {b : Bool} (h : At c a (regT L xs p)) : GP (partP b c a) (a + ((regT L xs p).length : Int)) := by
  have r0 := pk_rng (L := L) (xs := xs) (p := p) (m := 4) (by decide)
  have h1 : c a = 97 + pk L xs p 4 := h.1
  unfold partP
  rw [if_pos (by omega)]
  exact ⟨rfl, rfl, fun y => absurd y (show ¬ (0 : Int) = 1 by decide)⟩
theorem mem_at {c : Int → Int} {a p : Int} {L : Nat} {xs : Int → Int} {b : Bool} (h : At c a (memT L xs p)) : GP (partP b c a) (a + ((memT L xs p).length : Int)) := by
  have key : ∀ m0 : Int, (m0 = 77 ∨ m0 = 78) → At c a ([m0, 91] ++ idxT L xs (p + 1) ++ [93]) → GP (partP b c a) (a + (([m0, 91] ++ idxT L xs (p + 1) ++ [93]).length : Int)) := by
    intro m0 hm h
    rw [At_app, At_app] at h
    obtain ⟨⟨h1, h2⟩, h3⟩ := h
    have e1 : c a = m0 := h1.1
    have e2 : c (a + 1) = 91 := h1.2.1
    have h3 : c (a + (([m0, 91] ++ idxT L xs (p + 1)).length : Int)) = 93 := h3.1
    have h2 : At c (a + 2) (idxT L xs (p + 1)) := h2
    have el : (([m0, 91] ++ idxT L xs (p + 1)).length : Int) = 2 + ((idxT L xs (p + 1)).length : Int) := by
      simp only [List.length_append, List.length_cons, List.length_nil]
      omega
    have el2 : (([m0, 91] ++ idxT L xs (p + 1) ++ [93]).length : Int) = 2 + ((idxT L xs (p + 1)).length : Int) + 1 := by
      simp only [List.length_append, List.length_cons, List.length_nil]
      omega
    rw [el, show a + (2 + ((idxT L xs (p + 1)).length : Int)) = a + 2 + ((idxT L xs (p + 1)).length : Int) by omega] at h3
    have g := idx_at h2 h3
    rw [el2, show a + (2 + ((idxT L xs (p + 1)).length : Int) + 1) = a + 2 + ((idxT L xs (p + 1)).length : Int) + 1 by omega]
    generalize ((idxT L xs (p + 1)).length : Int) = n at g h3 ⊢
    unfold partP
    rw [if_neg (by omega), if_pos (by omega)]
    unfold placeP
    obtain ⟨g1, g2, g3⟩ := g
    rw [if_pos e2, if_pos g1, g2, if_pos h3]
    exact ⟨rfl, rfl, g3⟩
  unfold memT at h ⊢
  by_cases z : 0 < pk L xs p 3
  · rw [if_pos z] at h ⊢
    exact key 77 (.inl rfl) h
  · rw [if_neg z] at h ⊢
    exact key 78 (.inr rfl) h
theorem trg_at {c : Int → Int} {a p : Int} {L : Nat} {xs : Int → Int} (h : At c a (trgT L xs p)) : GP (partP true c a) (a + ((trgT L xs p).length : Int)) := by
  unfold trgT at h ⊢
  by_cases z : pk L xs p 6 < 3
  · rw [if_pos z] at h ⊢
    exact reg_at h
  · rw [if_neg z] at h ⊢
    by_cases z2 : pk L xs p 6 < 5
    · rw [if_pos z2] at h ⊢
      exact mem_at h
    · rw [if_neg z2] at h ⊢
      have h1 : c a = 62 := h.1
      unfold partP
      rw [if_neg (by omega), if_neg (by omega), if_pos rfl, if_pos h1]
      exact ⟨rfl, rfl, fun y => absurd y (show ¬ (0 : Int) = 1 by decide)⟩
theorem opd_at {c : Int → Int} {a p : Int} {L : Nat} {xs : Int → Int} (h : At c a (opdT L xs p)) (hn : ¬ dg (c (a + ((opdT L xs p).length : Int)))) : GP (partP false c a) (a + ((opdT L xs p).length : Int)) := by
  unfold opdT at h hn ⊢
  by_cases z : pk L xs p 9 < 3
  · rw [if_pos z] at h ⊢
    exact reg_at h
  · rw [if_neg z] at h hn ⊢
    by_cases z2 : pk L xs p 9 < 6
    · rw [if_pos z2] at h ⊢
      exact mem_at h
    · rw [if_neg z2] at h hn ⊢
      by_cases z3 : pk L xs p 9 = 6
      · rw [if_pos z3] at h hn ⊢
        have r1 := pk_rng (L := L) (xs := xs) (p := p + 1) (m := 100) (by decide)
        have g := num_at h r1 hn
        have g1 := g.1
        unfold dg at g1
        unfold partP
        rw [if_neg (by omega), if_neg (by omega), if_neg (by decide), if_neg (by omega), if_neg (by omega), if_pos g.1]
        exact ⟨rfl, g.2, fun y => absurd y (show ¬ (0 : Int) = 1 by decide)⟩
      · rw [if_neg z3] at h hn ⊢
        by_cases z4 : pk L xs p 9 = 7
        · rw [if_pos z4] at h ⊢
          have h1 : c a = 105 := h.1
          unfold partP
          rw [if_neg (by omega), if_neg (by omega), if_neg (by decide), if_neg (by omega), if_pos h1]
          exact ⟨rfl, rfl, fun y => absurd y (show ¬ (0 : Int) = 1 by decide)⟩
        · rw [if_neg z4] at h ⊢
          have h1 : c a = 60 := h.1
          unfold partP
          rw [if_neg (by omega), if_neg (by omega), if_neg (by decide), if_pos h1]
          exact ⟨rfl, rfl, fun y => absurd y (show ¬ (0 : Int) = 1 by decide)⟩
theorem ops_op {v : Int} (h : 0 ≤ v ∧ v < 7) : isOp (opsT.getD v.toNat 0) := by
  have : v = 0 ∨ v = 1 ∨ v = 2 ∨ v = 3 ∨ v = 4 ∨ v = 5 ∨ v = 6 := by omega
  rcases this with rfl | rfl | rfl | rfl | rfl | rfl | rfl <;> decide
/-- steps by the turn are small -/
def SmS (F N T : Int → Int) : Prop := ∀ q, 0 ≤ q → q < 3 → T q = 1 → -3 ≤ N q ∧ N q ≤ 4
theorem sm_two {A B : PR} {e e2 : Int} (hA : GP A e) (hB : GP B e2) {F : Int → Int} : SmS F (iup (iup Z0 0 A.n) 1 B.n) (iup (iup Z0 0 A.t) 1 B.t) := by
  intro q q0 q1 hq
  have : q = 0 ∨ q = 1 ∨ q = 2 := by omega
  rcases this with rfl | rfl | rfl
  · exact hA.2.2 hq
  · exact hB.2.2 hq
  · exact absurd hq (show ¬ (0 : Int) = 1 by decide)
theorem sm_three {A B C : PR} {e e2 e3 : Int} (hA : GP A e) (hB : GP B e2) (hC : GP C e3) {F : Int → Int} : SmS F (iup (iup (iup Z0 0 A.n) 1 B.n) 2 C.n) (iup (iup (iup Z0 0 A.t) 1 B.t) 2 C.t) := by
  intro q q0 q1 hq
  have : q = 0 ∨ q = 1 ∨ q = 2 := by omega
  rcases this with rfl | rfl | rfl
  · exact hA.2.2 hq
  · exact hB.2.2 hq
  · exact hC.2.2 hq
theorem stm_at {c : Int → Int} {p m : Int} {L : Nat} {xs : Int → Int} (h : At c 0 (stmT L xs p)) (hm : m = ((stmT L xs p).length : Int)) (he : c m = 32) : (parseP c m).e = -1 ∧ SmS (parseP c m).F (parseP c m).N (parseP c m).T := by
  unfold stmT at h hm
  by_cases z : pk L xs (p + 10) 4 = 0
  · rw [if_pos z] at h hm
    rw [At_app, At_app] at h
    obtain ⟨⟨h1, h2⟩, h3⟩ := h
    have h2 : c (0 + ((trgT L xs p).length : Int)) = 61 := h2.1
    have g1 := trg_at h1
    have e1 : (0 : Int) + ((trgT L xs p ++ [61]).length : Int) = 0 + ((trgT L xs p).length : Int) + 1 := by
      simp only [List.length_append, List.length_cons, List.length_nil]; omega
    have e2 : m = 0 + ((trgT L xs p).length : Int) + 1 + ((opdT L xs (p + 5)).length : Int) := by
      rw [hm]; simp only [List.length_append, List.length_cons, List.length_nil]; omega
    rw [e1] at h3
    generalize (0 : Int) + ((trgT L xs p).length : Int) = a1 at *
    have g2 := opd_at h3 (by rw [← e2, he]; decide)
    rw [← e2] at g2
    have e3 : parseP c m = psB c m (partP true c 0) (partP false c (a1 + 1)) := by
      unfold parseP
      rw [if_pos g1.1, g1.2.1, if_pos h2]
    have e4 : psB c m (partP true c 0) (partP false c (a1 + 1)) = ⟨-1, iup (iup FN1 0 (partP true c 0).f) 1 (partP false c (a1 + 1)).f, iup (iup Z0 0 (partP true c 0).n) 1 (partP false c (a1 + 1)).n, iup (iup Z0 0 (partP true c 0).t) 1 (partP false c (a1 + 1)).t, 32⟩ := by
      unfold psB
      rw [if_pos g2.1, if_pos g2.2.1]
    rw [e3, e4]
    exact ⟨rfl, sm_two g1 g2⟩
  · rw [if_neg z] at h hm
    rw [At_app, At_app, At_app, At_app] at h
    obtain ⟨⟨⟨⟨h1, h2⟩, h3⟩, h4⟩, h5⟩ := h
    have h2 : c (0 + ((trgT L xs p).length : Int)) = 61 := h2.1
    have h4 := h4.1
    have g1 := trg_at h1
    have e1 : (0 : Int) + ((trgT L xs p ++ [61]).length : Int) = 0 + ((trgT L xs p).length : Int) + 1 := by
      simp only [List.length_append, List.length_cons, List.length_nil]; omega
    have e1b : (0 : Int) + ((trgT L xs p ++ [61] ++ opdT L xs (p + 5)).length : Int) = 0 + ((trgT L xs p).length : Int) + 1 + ((opdT L xs (p + 5)).length : Int) := by
      simp only [List.length_append, List.length_cons, List.length_nil]; omega
    have e1c : (0 : Int) + ((trgT L xs p ++ [61] ++ opdT L xs (p + 5) ++ [opsT.getD (pk L xs (p + 11) 7).toNat 0]).length : Int) = 0 + ((trgT L xs p).length : Int) + 1 + ((opdT L xs (p + 5)).length : Int) + 1 := by
      simp only [List.length_append, List.length_cons, List.length_nil]; omega
    have e2 : m = 0 + ((trgT L xs p).length : Int) + 1 + ((opdT L xs (p + 5)).length : Int) + 1 + ((opdT L xs (p + 12)).length : Int) := by
      rw [hm]; simp only [List.length_append, List.length_cons, List.length_nil]; omega
    rw [e1] at h3
    rw [e1b] at h4
    rw [e1c] at h5
    have op := ops_op (pk_rng (L := L) (xs := xs) (p := p + 11) (m := 7) (by decide))
    have nd : ∀ x : Int, isOp x → ¬ dg x := fun x hx => by unfold isOp at hx; unfold dg; omega
    generalize (0 : Int) + ((trgT L xs p).length : Int) = a1 at *
    have g2 := opd_at h3 (by rw [h4]; exact nd _ op)
    have n0 : (0 : Int) ≤ ((opdT L xs (p + 12)).length : Int) := by omega
    generalize a1 + 1 + ((opdT L xs (p + 5)).length : Int) = a2 at *
    have g3 := opd_at h5 (by rw [← e2, he]; decide)
    rw [← e2] at g3
    have e3 : parseP c m = psB c m (partP true c 0) (partP false c (a1 + 1)) := by
      unfold parseP
      rw [if_pos g1.1, g1.2.1, if_pos h2]
    have op2 : isOp (c a2) := by rw [h4]; exact op
    have e4 : psB c m (partP true c 0) (partP false c (a1 + 1)) = ⟨-1, iup (iup (iup FN1 0 (partP true c 0).f) 1 (partP false c (a1 + 1)).f) 2 (partP false c (a2 + 1)).f, iup (iup (iup Z0 0 (partP true c 0).n) 1 (partP false c (a1 + 1)).n) 2 (partP false c (a2 + 1)).n, iup (iup (iup Z0 0 (partP true c 0).t) 1 (partP false c (a1 + 1)).t) 2 (partP false c (a2 + 1)).t, c a2⟩ := by
      unfold psB
      rw [if_pos g2.1, g2.2.1, if_neg (by omega), if_pos op2, if_pos g3.1, if_pos g3.2.1]
    rw [e3, e4]
    exact ⟨rfl, sm_three g1 g2 g3⟩
