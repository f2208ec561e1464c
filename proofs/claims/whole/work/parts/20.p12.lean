/-! ===== what is read is a statement ===== -/
theorem numP_r {c : Int → Int} {a : Int} (h : dg (c a)) : 0 ≤ (numP c a 2).1 ∧ (numP c a 2).1 ≤ 99 := by
  unfold dg at h
  unfold numP
  split <;> dsimp only [PR.ok, PR.a, PR.f, PR.n, PR.t, PS.e, PS.F, PS.N, PS.T, PS.O] <;> omega
theorem idxP_r {c : Int → Int} {a : Int} (ok : (idxP c a).ok = true) : ((idxP c a).t = 0 ∧ 0 ≤ (idxP c a).n ∧ (idxP c a).n ≤ 99) ∨ ((idxP c a).t = 1 ∧ -9 ≤ (idxP c a).n ∧ (idxP c a).n ≤ 9) := by
  revert ok
  unfold idxP
  split
  · split
    · split
      · rename_i h
        unfold dg at h
        intro _
        right
        refine ⟨rfl, ?_⟩
        dsimp only [PR.ok, PR.a, PR.f, PR.n, PR.t, PS.e, PS.F, PS.N, PS.T, PS.O]
        split <;> omega
      · intro q; cases q
    · intro _; right; exact ⟨rfl, (by decide : (-9 : Int) ≤ 0), (by decide : (0 : Int) ≤ 9)⟩
  · split
    · rename_i h
      intro _; left
      exact ⟨rfl, numP_r h⟩
    · intro q; cases q
theorem placeP_r {c : Int → Int} {a : Int} (hc : c a = 77 ∨ c a = 78) (ok : (placeP c a).ok = true) : ((placeP c a).f = 3 ∨ (placeP c a).f = 4) ∧ (((placeP c a).t = 0 ∧ 0 ≤ (placeP c a).n ∧ (placeP c a).n ≤ 99) ∨ ((placeP c a).t = 1 ∧ -9 ≤ (placeP c a).n ∧ (placeP c a).n ≤ 9)) := by
  revert ok
  unfold placeP
  split
  · split
    · split
      · rename_i h _
        intro _
        exact ⟨by dsimp only [PR.ok, PR.a, PR.f, PR.n, PR.t, PS.e, PS.F, PS.N, PS.T, PS.O]; omega, idxP_r h⟩
      · intro q; cases q
    · intro q; cases q
  · intro q; cases q
/-- what a part may be -/
def PK (f n t : Int) : Prop := (f = 3 ∨ f = 4 ∨ t = 0) ∧ ((f = 0 ∧ 0 ≤ n ∧ n ≤ 7) ∨ (f = 1 ∧ 0 ≤ n ∧ n ≤ 99) ∨ f = 2 ∨ f = 5 ∨ f = 6 ∨ ((f = 3 ∨ f = 4) ∧ ((t = 0 ∧ 0 ≤ n ∧ n ≤ 99) ∨ (t = 1 ∧ -9 ≤ n ∧ n ≤ 9))))
theorem SOk.of3 {F N T : Int → Int} {O : Int} (f0 : F 0 = 0 ∨ F 0 = 3 ∨ F 0 = 4 ∨ F 0 = 6) (f1 : 0 ≤ F 1 ∧ F 1 ≤ 5) (f2 : O = 32 ∧ F 2 = -1 ∨ isOp O ∧ 0 ≤ F 2 ∧ F 2 ≤ 5) (h0 : PK (F 0) (N 0) (T 0)) (h1 : PK (F 1) (N 1) (T 1)) (h2 : (F 2 = -1 ∧ T 2 = 0) ∨ PK (F 2) (N 2) (T 2)) : SOk F N T O := by
  unfold PK at h0 h1 h2
  have hp : ∀ p : Int, 0 ≤ p → p < 3 → p = 0 ∨ p = 1 ∨ p = 2 := fun p a b => by omega
  refine ⟨f0, f1, f2, ?_, ?_, ?_, ?_⟩
  · intro p a b; rcases hp p a b with rfl | rfl | rfl <;> omega
  · intro p a b; rcases hp p a b with rfl | rfl | rfl <;> omega
  · intro p a b; rcases hp p a b with rfl | rfl | rfl <;> omega
  · intro p a b; rcases hp p a b with rfl | rfl | rfl <;> omega
def POk (x : PR) : Prop := PK x.f x.n x.t
theorem partP_t {c : Int → Int} {a : Int} (ok : (partP true c a).ok = true) : POk (partP true c a) ∧ ((partP true c a).f = 0 ∨ (partP true c a).f = 3 ∨ (partP true c a).f = 4 ∨ (partP true c a).f = 6) := by
  revert ok
  unfold partP POk PK
  split
  · intro _; dsimp only [PR.ok, PR.a, PR.f, PR.n, PR.t, PS.e, PS.F, PS.N, PS.T, PS.O]; omega
  split
  · rename_i h
    intro ok
    have := placeP_r h ok
    omega
  rw [if_pos rfl]
  split
  · intro _; dsimp only [PR.ok, PR.a, PR.f, PR.n, PR.t, PS.e, PS.F, PS.N, PS.T, PS.O]; omega
  · intro q; cases q
theorem partP_o {c : Int → Int} {a : Int} (ok : (partP false c a).ok = true) : POk (partP false c a) ∧ 0 ≤ (partP false c a).f ∧ (partP false c a).f ≤ 5 := by
  revert ok
  unfold partP POk PK
  split
  · intro _; dsimp only [PR.ok, PR.a, PR.f, PR.n, PR.t, PS.e, PS.F, PS.N, PS.T, PS.O]; omega
  split
  · rename_i h
    intro ok
    have := placeP_r h ok
    omega
  rw [if_neg (by decide)]
  split
  · intro _; dsimp only [PR.ok, PR.a, PR.f, PR.n, PR.t, PS.e, PS.F, PS.N, PS.T, PS.O]; omega
  split
  · intro _; dsimp only [PR.ok, PR.a, PR.f, PR.n, PR.t, PS.e, PS.F, PS.N, PS.T, PS.O]; omega
  split
  · rename_i h
    intro _
    have := numP_r h
    dsimp only [PR.ok, PR.a, PR.f, PR.n, PR.t, PS.e, PS.F, PS.N, PS.T, PS.O]; omega
  · intro q; cases q
theorem psB_ok {c : Int → Int} {m : Int} {A : PR} (hA : POk A ∧ (A.f = 0 ∨ A.f = 3 ∨ A.f = 4 ∨ A.f = 6)) (B : PR) (hB : B.ok = true → POk B ∧ 0 ≤ B.f ∧ B.f ≤ 5) (b1 : 0 ≤ B.a) (b2 : 0 ≤ (partP false c (B.a + 1)).a) (h : (psB c m A B).e = -1) : SOk (psB c m A B).F (psB c m A B).N (psB c m A B).T (psB c m A B).O := by
  revert h
  unfold psB psE
  have i0 : ∀ (f : Int → Int) (a b : Int), iup (iup f 0 a) 1 b 0 = a ∧ iup (iup f 0 a) 1 b 1 = b ∧ iup (iup f 0 a) 1 b 2 = f 2 := fun f a b => ⟨rfl, rfl, rfl⟩
  have i1 : ∀ (f : Int → Int) (a b d : Int), iup (iup (iup f 0 a) 1 b) 2 d 0 = a ∧ iup (iup (iup f 0 a) 1 b) 2 d 1 = b ∧ iup (iup (iup f 0 a) 1 b) 2 d 2 = d := fun f a b d => ⟨rfl, rfl, rfl⟩
  split
  · rename_i okB
    have hB := hB okB
    split
    · intro _
      refine SOk.of3 (F := iup (iup FN1 0 A.f) 1 B.f) (N := iup (iup Z0 0 A.n) 1 B.n) (T := iup (iup Z0 0 A.t) 1 B.t) (O := 32) ?_ ?_ (.inl ⟨rfl, rfl⟩) ?_ ?_ (.inl ⟨rfl, rfl⟩)
      · rw [(i0 _ _ _).1]; exact hA.2
      · rw [(i0 _ _ _).2.1]; exact hB.2
      · rw [(i0 _ _ _).1, (i0 _ _ _).1, (i0 _ _ _).1]; exact hA.1
      · rw [(i0 _ _ _).2.1, (i0 _ _ _).2.1, (i0 _ _ _).2.1]; exact hB.1
    · split
      · rename_i c2
        split
        · rename_i okC
          have hC := partP_o okC
          generalize partP false c (B.a + 1) = C at *
          split
          · intro _
            refine SOk.of3 (F := iup (iup (iup FN1 0 A.f) 1 B.f) 2 C.f) (N := iup (iup (iup Z0 0 A.n) 1 B.n) 2 C.n) (T := iup (iup (iup Z0 0 A.t) 1 B.t) 2 C.t) (O := c B.a) ?_ ?_ (.inr ⟨c2, ?_⟩) ?_ ?_ (.inr ?_)
            · rw [(i1 _ _ _ _).1]; exact hA.2
            · rw [(i1 _ _ _ _).2.1]; exact hB.2
            · rw [(i1 _ _ _ _).2.2]; exact hC.2
            · rw [(i1 _ _ _ _).1, (i1 _ _ _ _).1, (i1 _ _ _ _).1]; exact hA.1
            · rw [(i1 _ _ _ _).2.1, (i1 _ _ _ _).2.1, (i1 _ _ _ _).2.1]; exact hB.1
            · rw [(i1 _ _ _ _).2.2, (i1 _ _ _ _).2.2, (i1 _ _ _ _).2.2]; exact hC.1
          · intro q; exact absurd (show C.a = -1 from q) (by omega)
        · intro q; exact absurd (show (partP false c (B.a + 1)).a = -1 from q) (by omega)
      · intro q; exact absurd (show B.a = -1 from q) (by omega)
  · intro q; exact absurd (show B.a = -1 from q) (by omega)
theorem parse_ok {m : Int} {tx : Int → Int} (hm : 0 ≤ m) (h : (parseP (ch m tx) m).e = -1) : SOk (parseP (ch m tx) m).F (parseP (ch m tx) m).N (parseP (ch m tx) m).T (parseP (ch m tx) m).O := by
  revert h
  have b1 := partP_b (b := true) (m := m) (tx := tx) (a := 0) (by omega)
  unfold parseP
  split
  · rename_i okA
    split
    · rename_i c1
      intro h
      have l1 := ch_lt (m := m) (a := (partP true (ch m tx) 0).a) (tx := tx) (by omega)
      have b2 := partP_b (b := false) (m := m) (tx := tx) (a := (partP true (ch m tx) 0).a + 1) (by omega)
      refine psB_ok (partP_t okA) _ partP_o b2.1 ?_ h
      by_cases e : (partP false (ch m tx) ((partP true (ch m tx) 0).a + 1)).a < m
      · exact (partP_b (b := false) (m := m) (tx := tx) (a := _) (by omega)).1
      · -- behind the end nothing is read
        have e2 : (partP false (ch m tx) ((partP true (ch m tx) 0).a + 1)).a = m := by omega
        rw [e2]
        unfold partP
        have e3 : ch m tx (m + 1) = 32 := by unfold ch; rw [if_neg (by omega)]
        simp only [e3]
        have : ¬ dg 32 := by decide
        simp [this]
        show (0 : Int) ≤ m + 1
        omega
    · intro q; exact absurd (show (partP true (ch m tx) 0).a = -1 from q) (by omega)
  · intro q; exact absurd (show (partP true (ch m tx) 0).a = -1 from q) (by omega)
