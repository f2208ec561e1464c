/-! where the nodes of a statement stand -/
def bs (D : Dat) (s : Int) : Int := (ndl D s.toNat).length
theorem ndl_seg {D : Dat} {s j : Nat} {q : Int} (hq : (rls D ((s : Int) % D.cnt))[j]? = some q) : ∀ {K : Nat}, s < K → (ndl D K)[(ndl D s).length + j]? = some ((s : Int), q) := by
  intro K
  induction K with
  | zero => intro h; omega
  | succ K ih =>
    intro h
    have hj := get_lt hq
    show (ndl D K ++ (rls D ((K : Int) % D.cnt)).map (fun q => ((K : Int), q)))[(ndl D s).length + j]? = _
    by_cases e : s = K
    · subst e
      rw [List.getElem?_append_right (by omega), show (ndl D s).length + j - (ndl D s).length = j by omega, List.getElem?_map, hq]
      rfl
    · have := ih (by omega)
      rw [List.getElem?_append_left (get_lt this)]
      exact this
theorem seg_at {D : Dat} {s : Int} {j : Nat} {q : Int} (hs : 0 ≤ s ∧ s < D.cnt * D.fac) (hq : (rls D (s % D.cnt))[j]? = some q) : nd D (bs D s + j) = (s, q) ∧ 0 ≤ bs D s + j ∧ bs D s + j < nn D := by
  obtain ⟨n, rfl⟩ := Int.eq_ofNat_of_zero_le hs.1
  have h := ndl_seg (K := (D.cnt * D.fac).toNat) hq (by omega)
  have hl := get_lt h
  have e1 : bs D (n : Int) = (ndl D n).length := by unfold bs; rw [show ((n : Nat) : Int).toNat = n by omega]
  refine ⟨?_, by omega, ?_⟩
  · unfold nd nds
    rw [e1, show (((ndl D n).length : Int) + (j : Int)).toNat = (ndl D n).length + j by omega]
    simp [List.getD, h]
  · unfold nn nds
    rw [e1]
    omega
theorem seg_of {D : Dat} (ok : DOk D) {v : Int} (h : 0 ≤ v ∧ v < nn D) : ∃ j : Nat, v = bs D (nd D v).1 + j ∧ (rls D (stK D (nd D v)))[j]? = some (nd D v).2 ∧ 0 ≤ (nd D v).1 ∧ (nd D v).1 < D.cnt * D.fac := by
  have h1 := ndl_mem (nd_mem h)
  have h0 : 0 ≤ D.cnt * D.fac := Int.mul_nonneg ok.cnt.1 (by have := ok.fac; omega)
  obtain ⟨j, hj⟩ := List.mem_iff_getElem?.1 h1.2.2
  have hs : 0 ≤ (nd D v).1 ∧ (nd D v).1 < D.cnt * D.fac := ⟨h1.1, by omega⟩
  have h2 := seg_at hs hj
  exact ⟨j, nd_inj h h2.2 (by rw [h2.1]), hj, hs⟩
/-- the four shapes ahead of the writing -/
theorem rls_shape (D : Dat) (k : Int) : ∃ tl : List Int, (tl = [] ∨ tl = [3]) ∧ (D.F k 0 = 0 → tl = []) ∧ (D.F k 0 ≠ 0 → tl = [3]) ∧
    ((isRd (D.F k 1) ∧ D.O k ≠ 32 ∧ isRd (D.F k 2) ∧ rls D k = [0, 1, 2] ++ tl) ∨ (isRd (D.F k 1) ∧ D.O k ≠ 32 ∧ ¬ isRd (D.F k 2) ∧ rls D k = [0, 2] ++ tl)
    ∨ (¬ isRd (D.F k 1) ∧ D.O k ≠ 32 ∧ isRd (D.F k 2) ∧ rls D k = [1, 2] ++ tl) ∨ (¬ isRd (D.F k 1) ∧ D.O k ≠ 32 ∧ ¬ isRd (D.F k 2) ∧ rls D k = [2] ++ tl)
    ∨ (isRd (D.F k 1) ∧ D.O k = 32 ∧ rls D k = [0] ++ tl) ∨ (¬ isRd (D.F k 1) ∧ D.O k = 32 ∧ D.F k 0 ≠ 0 ∧ rls D k = tl) ∨ (¬ isRd (D.F k 1) ∧ D.O k = 32 ∧ D.F k 0 = 0 ∧ rls D k = [4])) := by
  refine ⟨if D.F k 0 = 0 then [] else [3], ?_, fun e => if_pos e, fun e => if_neg e, ?_⟩
  · split
    · exact .inl rfl
    · exact .inr rfl
  · by_cases r1 : isRd (D.F k 1)
    · by_cases o : D.O k = 32
      · refine .inr (.inr (.inr (.inr (.inl ⟨r1, o, ?_⟩))))
        unfold rls
        rw [if_pos r1, if_pos o]
        by_cases e : D.F k 0 = 0
        · rw [if_pos e, if_pos e, if_neg (fun q => q.2 r1)]; rfl
        · rw [if_neg e, if_neg e]; rfl
      · by_cases r2 : isRd (D.F k 2)
        · refine .inl ⟨r1, o, r2, ?_⟩
          unfold rls
          rw [if_pos r1, if_neg o, if_pos r2]
          by_cases e : D.F k 0 = 0
          · rw [if_pos e, if_pos e, if_neg (fun q => o q.1)]; rfl
          · rw [if_neg e, if_neg e]; rfl
        · refine .inr (.inl ⟨r1, o, r2, ?_⟩)
          unfold rls
          rw [if_pos r1, if_neg o, if_neg r2]
          by_cases e : D.F k 0 = 0
          · rw [if_pos e, if_pos e, if_neg (fun q => o q.1)]; rfl
          · rw [if_neg e, if_neg e]; rfl
    · by_cases o : D.O k = 32
      · by_cases e : D.F k 0 = 0
        · refine .inr (.inr (.inr (.inr (.inr (.inr ⟨r1, o, e, ?_⟩)))))
          unfold rls
          rw [if_neg r1, if_pos o, if_pos e, if_pos ⟨o, r1⟩]; rfl
        · refine .inr (.inr (.inr (.inr (.inr (.inl ⟨r1, o, e, ?_⟩)))))
          unfold rls
          rw [if_neg r1, if_pos o, if_neg e, if_neg e]; rfl
      · by_cases r2 : isRd (D.F k 2)
        · refine .inr (.inr (.inl ⟨r1, o, r2, ?_⟩))
          unfold rls
          rw [if_neg r1, if_neg o, if_pos r2]
          by_cases e : D.F k 0 = 0
          · rw [if_pos e, if_pos e, if_neg (fun q => o q.1)]; rfl
          · rw [if_neg e, if_neg e]; rfl
        · refine .inr (.inr (.inr (.inl ⟨r1, o, r2, ?_⟩)))
          unfold rls
          rw [if_neg r1, if_neg o, if_neg r2]
          by_cases e : D.F k 0 = 0
          · rw [if_pos e, if_pos e, if_neg (fun q => o q.1)]; rfl
          · rw [if_neg e, if_neg e]; rfl
theorem get_c0 {α : Type} {a y : α} {l : List α} {j : Nat} (h : (a :: l)[j]? = some y) : (j = 0 ∧ y = a) ∨ (∃ i, j = i + 1 ∧ l[i]? = some y) := by
  cases j with
  | zero => left; simp at h; exact ⟨rfl, h.symm⟩
  | succ i => right; exact ⟨i, rfl, by simpa using h⟩
/-- of a statement's list: what stands ahead of a part -/
theorem rls_prev {D : Dat} {k q : Int} {j : Nat} (h : (rls D k)[j]? = some q) :
    (q = 2 → isRd (D.F k 2) → 1 ≤ j ∧ (rls D k)[j - 1]? = some 1 ∧ (isRd (D.F k 1) → 2 ≤ j ∧ (rls D k)[j - 2]? = some 0))
    ∧ (q = 2 → ¬ isRd (D.F k 2) → isRd (D.F k 1) → 1 ≤ j ∧ (rls D k)[j - 1]? = some 0)
    ∧ (q = 3 → D.O k ≠ 32 → 1 ≤ j ∧ (rls D k)[j - 1]? = some 2)
    ∧ (q = 3 → D.O k = 32 → isRd (D.F k 1) → 1 ≤ j ∧ (rls D k)[j - 1]? = some 0) := by
  obtain ⟨tl, ht, -, -, hs⟩ := rls_shape D k
  rcases hs with ⟨r1, o, r2, e⟩ | ⟨r1, o, r2, e⟩ | ⟨r1, o, r2, e⟩ | ⟨r1, o, r2, e⟩ | ⟨r1, o, e⟩ | ⟨r1, o, f0, e⟩ | ⟨r1, o, f0, e⟩ <;> rw [e] at h ⊢
  · rcases ht with rfl | rfl
    · match j, h with
      | 0, h => simp at h; subst h; refine ⟨?_, ?_, ?_, ?_⟩ <;> intro z <;> exact absurd z (by decide)
      | 1, h => simp at h; subst h; refine ⟨?_, ?_, ?_, ?_⟩ <;> intro z <;> exact absurd z (by decide)
      | 2, h => simp at h; subst h; exact ⟨fun _ _ => ⟨by decide, rfl, fun _ => ⟨by decide, rfl⟩⟩, fun _ z => absurd r2 z, fun z => absurd z (by decide), fun z => absurd z (by decide)⟩
      | n + 3, h => simp at h
    · match j, h with
      | 0, h => simp at h; subst h; refine ⟨?_, ?_, ?_, ?_⟩ <;> intro z <;> exact absurd z (by decide)
      | 1, h => simp at h; subst h; refine ⟨?_, ?_, ?_, ?_⟩ <;> intro z <;> exact absurd z (by decide)
      | 2, h => simp at h; subst h; exact ⟨fun _ _ => ⟨by decide, rfl, fun _ => ⟨by decide, rfl⟩⟩, fun _ z => absurd r2 z, fun z => absurd z (by decide), fun z => absurd z (by decide)⟩
      | 3, h => simp at h; subst h; exact ⟨fun z => absurd z (by decide), fun z => absurd z (by decide), fun _ _ => ⟨by decide, rfl⟩, fun _ z => absurd z o⟩
      | n + 4, h => simp at h
  · rcases ht with rfl | rfl
    · match j, h with
      | 0, h => simp at h; subst h; refine ⟨?_, ?_, ?_, ?_⟩ <;> intro z <;> exact absurd z (by decide)
      | 1, h => simp at h; subst h; exact ⟨fun _ z => absurd z r2, fun _ _ _ => ⟨by decide, rfl⟩, fun z => absurd z (by decide), fun z => absurd z (by decide)⟩
      | n + 2, h => simp at h
    · match j, h with
      | 0, h => simp at h; subst h; refine ⟨?_, ?_, ?_, ?_⟩ <;> intro z <;> exact absurd z (by decide)
      | 1, h => simp at h; subst h; exact ⟨fun _ z => absurd z r2, fun _ _ _ => ⟨by decide, rfl⟩, fun z => absurd z (by decide), fun z => absurd z (by decide)⟩
      | 2, h => simp at h; subst h; exact ⟨fun z => absurd z (by decide), fun z => absurd z (by decide), fun _ _ => ⟨by decide, rfl⟩, fun _ z => absurd z o⟩
      | n + 3, h => simp at h
  · rcases ht with rfl | rfl
    · match j, h with
      | 0, h => simp at h; subst h; refine ⟨?_, ?_, ?_, ?_⟩ <;> intro z <;> exact absurd z (by decide)
      | 1, h => simp at h; subst h; exact ⟨fun _ _ => ⟨by decide, rfl, fun z => absurd z r1⟩, fun _ z => absurd r2 z, fun z => absurd z (by decide), fun z => absurd z (by decide)⟩
      | n + 2, h => simp at h
    · match j, h with
      | 0, h => simp at h; subst h; refine ⟨?_, ?_, ?_, ?_⟩ <;> intro z <;> exact absurd z (by decide)
      | 1, h => simp at h; subst h; exact ⟨fun _ _ => ⟨by decide, rfl, fun z => absurd z r1⟩, fun _ z => absurd r2 z, fun z => absurd z (by decide), fun z => absurd z (by decide)⟩
      | 2, h => simp at h; subst h; exact ⟨fun z => absurd z (by decide), fun z => absurd z (by decide), fun _ _ => ⟨by decide, rfl⟩, fun _ z => absurd z o⟩
      | n + 3, h => simp at h
  · rcases ht with rfl | rfl
    · match j, h with
      | 0, h => simp at h; subst h; exact ⟨fun _ z => absurd z r2, fun _ _ z => absurd z r1, fun z => absurd z (by decide), fun z => absurd z (by decide)⟩
      | n + 1, h => simp at h
    · match j, h with
      | 0, h => simp at h; subst h; exact ⟨fun _ z => absurd z r2, fun _ _ z => absurd z r1, fun z => absurd z (by decide), fun z => absurd z (by decide)⟩
      | 1, h => simp at h; subst h; exact ⟨fun z => absurd z (by decide), fun z => absurd z (by decide), fun _ _ => ⟨by decide, rfl⟩, fun _ z => absurd z o⟩
      | n + 2, h => simp at h
  · rcases ht with rfl | rfl
    · match j, h with
      | 0, h => simp at h; subst h; refine ⟨?_, ?_, ?_, ?_⟩ <;> intro z <;> exact absurd z (by decide)
      | n + 1, h => simp at h
    · match j, h with
      | 0, h => simp at h; subst h; refine ⟨?_, ?_, ?_, ?_⟩ <;> intro z <;> exact absurd z (by decide)
      | 1, h => simp at h; subst h; exact ⟨fun z => absurd z (by decide), fun z => absurd z (by decide), fun _ z => absurd o z, fun _ _ _ => ⟨by decide, rfl⟩⟩
      | n + 2, h => simp at h
  · rcases ht with rfl | rfl
    · simp at h
    · match j, h with
      | 0, h => simp at h; subst h; exact ⟨fun z => absurd z (by decide), fun z => absurd z (by decide), fun _ z => absurd o z, fun _ _ z => absurd z r1⟩
      | n + 1, h => simp at h
  · match j, h with
    | 0, h => simp at h; subst h; refine ⟨?_, ?_, ?_, ?_⟩ <;> intro z <;> exact absurd z (by decide)
    | n + 1, h => simp at h
