/-! ===== steps by lists ===== -/
def cntN (D : Dat) (ls : Int → Int) (k c : Int) : Nat → Int
  | 0 => 0
  | n + 1 => cntN D ls k c n + if kdv D n = k ∧ ls n = c then 1 else 0
/-- how many nodes of a kind begin in a cycle -/
def cntL (D : Dat) (ls : Int → Int) (k c : Int) : Int := cntN D ls k c (nn D).toNat
theorem cntN_b {D : Dat} {ls : Int → Int} {k c : Int} (n : Nat) : 0 ≤ cntN D ls k c n ∧ cntN D ls k c n ≤ n := by
  induction n with
  | zero => exact ⟨Int.le_refl 0, Int.le_refl 0⟩
  | succ n ih =>
    show 0 ≤ cntN D ls k c n + _ ∧ cntN D ls k c n + _ ≤ _
    split <;> omega
theorem cntN_eq {D : Dat} {ls ls' : Int → Int} {k c : Int} : ∀ n : Nat, (∀ v : Int, 0 ≤ v → v < n → (kdv D v = k ∧ ls v = c ↔ kdv D v = k ∧ ls' v = c)) → cntN D ls k c n = cntN D ls' k c n := by
  intro n
  induction n with
  | zero => intro _; rfl
  | succ n ih =>
    intro h
    show cntN D ls k c n + _ = cntN D ls' k c n + _
    rw [ih (fun v a b => h v a (by omega))]
    have := h n (by omega) (by omega)
    by_cases q : kdv D n = k ∧ ls n = c
    · rw [if_pos q, if_pos (this.1 q)]
    · rw [if_neg q, if_neg (fun z => q (this.2 z))]
theorem cntN_zero {D : Dat} {ls : Int → Int} {k c : Int} : ∀ n : Nat, (∀ v : Int, 0 ≤ v → v < n → ls v ≠ c) → cntN D ls k c n = 0 := by
  intro n
  induction n with
  | zero => intro _; rfl
  | succ n ih =>
    intro h
    show cntN D ls k c n + _ = 0
    rw [ih (fun v a b => h v a (by omega)), if_neg (fun z => h n (by omega) (by omega) z.2)]
    rfl
/-- one more begins -/
theorem cntN_up {D : Dat} {ls : Int → Int} {k c x : Int} (hx : ls x ≠ c) : ∀ n : Nat, 0 ≤ x → cntN D (iup ls x c) k c n = cntN D ls k c n + if x < n ∧ kdv D x = k then 1 else 0 := by
  intro n
  induction n with
  | zero => intro h; rw [if_neg (by omega)]; rfl
  | succ n ih =>
    intro h
    show cntN D (iup ls x c) k c n + _ = cntN D ls k c n + _ + _
    rw [ih h]
    by_cases e : (n : Int) = x
    · have e1 : iup ls x c n = c := by unfold iup; rw [if_pos e]
      rw [e1, if_neg (show ¬ (x < (n : Int) ∧ kdv D x = k) by omega)]
      rw [if_neg (show ¬ (kdv D n = k ∧ ls n = c) from fun z => hx (by rw [← e]; exact z.2))]
      by_cases q : kdv D x = k
      · rw [if_pos ⟨by rw [e]; exact q, rfl⟩, if_pos ⟨by omega, q⟩] <;> omega
      · rw [if_neg (fun z => q (by rw [← e]; exact z.1)), if_neg (fun z => q z.2)] <;> omega
    · have e1 : iup ls x c n = ls n := by unfold iup; rw [if_neg e]
      rw [e1]
      by_cases q : x < (n : Int) ∧ kdv D x = k
      · rw [if_pos q, if_pos (show x < ((n + 1 : Nat) : Int) ∧ kdv D x = k from ⟨by omega, q.2⟩)] <;> omega
      · rw [if_neg q, if_neg (show ¬ (x < ((n + 1 : Nat) : Int) ∧ kdv D x = k) from fun z => q ⟨by omega, z.2⟩)] <;> omega
def ready (D : Dat) (c : Int) (ls : Int → Int) (k : Int) : Prop := 0 ≤ k ∧ k < nn D ∧ ls k = -1 ∧ (∀ f w, Ed D f k 0 w → ls f ≠ -1 ∧ ls f + w ≤ c) ∧ cntL D ls (kdv D k) c < D.un (kdv D k)
def chosen (D : Dat) (la : Int → Int) (c : Int) (ls : Int → Int) (k : Int) : Prop := ready D c ls k ∧ ∀ j, ready D c ls j → la k < la j ∨ (la k = la j ∧ k ≤ j)
def allL (D : Dat) (ls : Int → Int) : Prop := ∀ v, 0 ≤ v → v < nn D → ls v ≠ -1
/-- the run from a cycle with what is listed to the end, in so many choices and cycles -/
def LR (D : Dat) (la : Int → Int) : Nat → Int → (Int → Int) → (Int → Int) → Prop
  | 0, _, ls, fin => allL D ls ∧ ∀ v, 0 ≤ v → v < nn D → fin v = ls v
  | n + 1, c, ls, fin => (∃ k, chosen D la c ls k ∧ LR D la n c (iup ls k c) fin) ∨ (¬ allL D ls ∧ (∀ k, ¬ ready D c ls k) ∧ LR D la n (c + 1) ls fin)
theorem chosen_uniq {D : Dat} {la : Int → Int} {c : Int} {ls : Int → Int} {k j : Int} (h : chosen D la c ls k) (g : chosen D la c ls j) : k = j := by
  have h1 := h.2 j g.1
  have g1 := g.2 k h.1
  omega
theorem LR_uniq {D : Dat} {la : Int → Int} : ∀ (n m : Nat) (c : Int) (ls fin fin' : Int → Int), LR D la n c ls fin → LR D la m c ls fin' → ∀ v, 0 ≤ v → v < nn D → fin v = fin' v := by
  intro n
  induction n with
  | zero =>
    intro m c ls fin fin' h g v a b
    obtain ⟨h1, h2⟩ := h
    cases m with
    | zero => rw [h2 v a b, g.2 v a b]
    | succ m =>
      rcases g with ⟨k, g1, g2⟩ | ⟨g1, _⟩
      · exact absurd g1.1.2.2.1 (h1 k g1.1.1 g1.1.2.1)
      · exact absurd h1 g1
  | succ n ih =>
    intro m c ls fin fin' h g v a b
    rcases h with ⟨k, h1, h2⟩ | ⟨h1, h2, h3⟩
    · cases m with
      | zero => exact absurd h1.1.2.2.1 (g.1 k h1.1.1 h1.1.2.1)
      | succ m =>
        rcases g with ⟨j, g1, g2⟩ | ⟨_, g1, _⟩
        · have := chosen_uniq h1 g1
          subst this
          exact ih m c _ fin fin' h2 g2 v a b
        · exact absurd h1.1 (g1 k)
    · cases m with
      | zero => exact absurd g.1 h1
      | succ m =>
        rcases g with ⟨j, g1, g2⟩ | ⟨_, _, g3⟩
        · exact absurd g1.1 (h2 j)
        · exact ih m (c + 1) ls fin fin' h3 g3 v a b
/-- what holds on the way: listed steps stand ahead, and every cycle until now has a node that runs -/
def JL (D : Dat) (c : Int) (ls : Int → Int) : Prop := 0 ≤ c ∧ (∀ v, 0 ≤ v → v < nn D → ls v = -1 ∨ (0 ≤ ls v ∧ ls v ≤ c)) ∧ ∀ d, 0 ≤ d → d < c → ∃ v, 0 ≤ v ∧ v < nn D ∧ ls v ≠ -1 ∧ ls v ≤ d ∧ d < ls v + cyv D v
def unitsL (D : Dat) : Nat → List (Int × Int)
  | 0 => []
  | n + 1 => unitsL D n ++ (List.range (cyv D n).toNat).map (fun (o : Nat) => ((n : Int), (o : Int)))
theorem unitsL_len {D : Dat} (ok : DOk D) : ∀ n : Nat, (n : Int) ≤ nn D → ((unitsL D n).length : Int) = sumC D n := by
  intro n
  induction n with
  | zero => intro _; rfl
  | succ n ih =>
    intro h
    have := ih (by omega)
    have c := cyv_r ok (v := (n : Int)) ⟨by omega, by omega⟩
    rw [show ((n + 1 : Nat) : Int) = (n : Int) + 1 by omega, sumC_s (by omega), ← this]
    simp [unitsL]
    omega
theorem unitsL_mem {D : Dat} {v o : Int} (h0 : 0 ≤ v) (ho : 0 ≤ o ∧ o < cyv D v) : ∀ n : Nat, v < n → (v, o) ∈ unitsL D n := by
  intro n
  induction n with
  | zero => intro h; omega
  | succ n ih =>
    intro h
    by_cases e : v = n
    · refine List.mem_append_right _ (List.mem_map.2 ⟨o.toNat, List.mem_range.2 ?_, ?_⟩)
      · rw [← e]; omega
      · rw [e, show ((o.toNat : Nat) : Int) = o by omega]
    · exact List.mem_append_left _ (ih (by omega))
/-- cycles that are all covered by running nodes are no more than the cycles of all nodes -/
theorem cover_le {D : Dat} (ok : DOk D) {c : Int} {ls : Int → Int} (h : ∀ d, 0 ≤ d → d < c → ∃ v, 0 ≤ v ∧ v < nn D ∧ ls v ≤ d ∧ d < ls v + cyv D v) : c ≤ sumC D (nn D) := by
  have hn := nn_le ok
  have sb := sumC_b ok hn.1 (Int.le_refl _)
  have := pig (fun (m : Int × Int) (d : Nat) => (d : Int) = ls m.1 + m.2) (fun m x y a b => by omega) (List.range c.toNat) (unitsL D (nn D).toNat) List.nodup_range (fun d hd => by
    have := List.mem_range.1 hd
    obtain ⟨v, a, b, e, f⟩ := h d (by omega) (by omega)
    exact ⟨(v, (d : Int) - ls v), unitsL_mem a ⟨by omega, by omega⟩ _ (by omega), by dsimp only; omega⟩)
  have hl := unitsL_len ok (nn D).toNat (by omega)
  rw [show (((nn D).toNat : Nat) : Int) = nn D by omega] at hl
  simp at this
  omega
theorem JL_c {D : Dat} (ok : DOk D) {c : Int} {ls : Int → Int} (h : JL D c ls) : c ≤ 480 := by
  have hn := nn_le ok
  have sb := sumC_b ok hn.1 (Int.le_refl _)
  have := cover_le ok (c := c) (ls := ls) (fun d a b => by
    obtain ⟨v, h1, h2, _, h3, h4⟩ := h.2.2 d a b
    exact ⟨v, h1, h2, h3, h4⟩)
  omega
theorem JL_pick {D : Dat} {c k : Int} {ls : Int → Int} (h : JL D c ls) (hk : ready D c ls k) : JL D c (iup ls k c) := by
  obtain ⟨h0, h1, h2⟩ := h
  have hne : ∀ v, v ≠ k → iup ls k c v = ls v := fun v e => by unfold iup; rw [if_neg e]
  have hek : iup ls k c k = c := by unfold iup; rw [if_pos rfl]
  refine ⟨h0, fun v a b => ?_, fun d a b => ?_⟩
  · by_cases e : v = k
    · rw [e, hek]; exact .inr ⟨h0, Int.le_refl _⟩
    · rw [hne v e]; exact h1 v a b
  · obtain ⟨v, v0, v1, v2, v3, v4⟩ := h2 d a b
    have e : v ≠ k := fun z => v2 (by rw [z]; exact hk.2.2.1)
    exact ⟨v, v0, v1, by rw [hne v e]; exact v2, by rw [hne v e]; exact v3, by rw [hne v e]; exact v4⟩
/-- the least node that is not listed -/
theorem least_un {D : Dat} {ls : Int → Int} (h : ¬ allL D ls) : ∃ u, 0 ≤ u ∧ u < nn D ∧ ls u = -1 ∧ ∀ v, 0 ≤ v → v < u → ls v ≠ -1 := by
  have key : ∀ n : Nat, (n : Int) ≤ nn D → (∀ v, 0 ≤ v → v < (n : Int) → ls v ≠ -1) ∨ ∃ u, 0 ≤ u ∧ u < nn D ∧ ls u = -1 ∧ ∀ v, 0 ≤ v → v < u → ls v ≠ -1 := by
    intro n
    induction n with
    | zero => intro _; exact .inl (fun v a b => by omega)
    | succ n ih =>
      intro hn
      rcases ih (by omega) with q | q
      · by_cases e : ls n = -1
        · exact .inr ⟨n, by omega, by omega, e, q⟩
        · refine .inl (fun v a b => ?_)
          by_cases z : v = n
          · rw [z]; exact e
          · exact q v a (by omega)
      · exact .inr q
  have h0 : 0 ≤ nn D := by unfold nn; omega
  rcases key (nn D).toNat (by omega) with q | q
  · exact absurd (fun v a b => q v a (by omega)) h
  · exact q
theorem JL_next {D : Dat} (ok : DOk D) {c : Int} {ls : Int → Int} (h : JL D c ls) (ha : ¬ allL D ls) (hr : ∀ k, ¬ ready D c ls k) : JL D (c + 1) ls := by
  obtain ⟨h0, h1, h2⟩ := h
  refine ⟨by omega, fun v a b => (h1 v a b).imp id (fun z => ⟨z.1, by omega⟩), fun d a b => ?_⟩
  by_cases e : d = c
  · subst e
    -- otherwise the least node that is not listed could begin
    refine Classical.byContradiction (fun hno => ?_)
    have idle : ∀ v, 0 ≤ v → v < nn D → ls v ≠ -1 → ls v + cyv D v ≤ d := by
      intro v a b e
      have := h1 v a b
      rcases Int.lt_or_le d (ls v + cyv D v) with q | q
      · exact absurd ⟨v, a, b, e, by omega, q⟩ hno
      · exact q
    obtain ⟨u, u0, u1, u2, u3⟩ := least_un ha
    refine hr u ⟨u0, u1, u2, fun f w he => ?_, ?_⟩
    · have hp := ed_props ok he
      have hf := u3 f hp.1.1 (hp.2.2.2.2.1 rfl)
      have := idle f hp.1.1 hp.1.2 hf
      exact ⟨hf, by omega⟩
    · have hk := kdv_r ok ⟨u0, u1⟩
      have hu := ok.un _ hk.1 hk.2
      have hn := nn_le ok
      have : cntL D ls (kdv D u) d = 0 := by
        unfold cntL
        refine cntN_zero _ (fun v a b e => ?_)
        have cv := cyv_r ok (v := v) ⟨a, by omega⟩
        have := idle v a (by omega) (by omega)
        omega
      omega
  · exact h2 d a (by omega)
