abbrev PS : Type := (Int) × (Int → Int) × (Int → Int) × (Int → Int) × (Int)
abbrev PS.e (x0 : PS) : Int := (Prod.fst x0)
abbrev PS.F (x0 : PS) : Int → Int := (Prod.fst (Prod.snd x0))
abbrev PS.N (x0 : PS) : Int → Int := (Prod.fst (Prod.snd (Prod.snd x0)))
abbrev PS.T (x0 : PS) : Int → Int := (Prod.fst (Prod.snd (Prod.snd (Prod.snd x0))))
abbrev PS.O (x0 : PS) : Int := (Prod.snd (Prod.snd (Prod.snd (Prod.snd x0))))
abbrev PS.mk (x0 : Int) (x1 : Int → Int) (x2 : Int → Int) (x3 : Int → Int) (x4 : Int) : PS := (x0, x1, x2, x3, x4)
abbrev isOp (c : Int) : Prop := c = 43 ∨ c = 45 ∨ c = 42 ∨ c = 38 ∨ c = 124 ∨ c = 94 ∨ c = 108
def FN1 : Int → Int := fun _ => -1
def Z0 : Int → Int := fun _ => 0
def psE (e : Int) : PS := ⟨e, FN1, Z0, Z0, 32⟩
def psB (c : Int → Int) (m : Int) (A B : PR) : PS :=
  if B.ok then
    if B.a = m then ⟨-1, iup (iup FN1 0 A.f) 1 B.f, iup (iup Z0 0 A.n) 1 B.n, iup (iup Z0 0 A.t) 1 B.t, 32⟩
    else if isOp (c B.a) then
      if (partP false c (B.a + 1)).ok then
        if (partP false c (B.a + 1)).a = m then ⟨-1, iup (iup (iup FN1 0 A.f) 1 B.f) 2 (partP false c (B.a + 1)).f, iup (iup (iup Z0 0 A.n) 1 B.n) 2 (partP false c (B.a + 1)).n, iup (iup (iup Z0 0 A.t) 1 B.t) 2 (partP false c (B.a + 1)).t, c B.a⟩
        else psE (partP false c (B.a + 1)).a
      else psE (partP false c (B.a + 1)).a
    else psE B.a
  else psE B.a
def parseP (c : Int → Int) (m : Int) : PS :=
  if (partP true c 0).ok then
    if c (partP true c 0).a = 61 then psB c m (partP true c 0) (partP false c ((partP true c 0).a + 1))
    else psE (partP true c 0).a
  else psE (partP true c 0).a
theorem forget_w {o : Int} {i r : MI} {Q : MI → Prop} (ho : 9 ≤ o) (hQ : ∀ i', PF o i i' → (∀ c, i' 1 c = i 1 c) → StmAt i' o FN1 Z0 Z0 32 → Q i') : wp_X8_forget o i r Q := by
  unfold wp_X8_forget
  refine ⟨4, ?_⟩
  have e1 : wr (0 + 1) = 1 := by decide
  have e2 : wr (1 + 1) = 2 := by decide
  have e3 : wr (2 + 1) = 3 := by decide
  simp only [LoopP, b2_X8_forget, e1, e2, e3]
  refine ⟨fun q => absurd q (by decide), fun _ => ⟨by decide, by decide, by decide, fun q => absurd q (by decide), fun _ => ⟨by decide, by decide, by decide, fun q => absurd q (by decide), fun _ => ⟨by decide, by decide, by decide, fun _ => ?_, fun q => absurd q (by decide)⟩⟩⟩⟩
  refine hQ _ ?_ ?_ ?_
  · repeat' (refine PF.trans ?_ (PF.sto ho (by omega) (by omega)))
    exact PF.refl o i
  · intro c
    simp (disch := omega) only [st_row]
  · apply StmAt.mk
    · intro p a b
      have : p = 0 ∨ p = 1 ∨ p = 2 := by omega
      rcases this with rfl | rfl | rfl <;> simp (disch := omega) only [st_row, st_ne, st_eq] <;> rfl
    · intro p a b
      have : p = 0 ∨ p = 1 ∨ p = 2 := by omega
      rcases this with rfl | rfl | rfl <;> simp (disch := omega) only [st_row, st_ne, st_eq] <;> rfl
    · intro p a b
      have : p = 0 ∨ p = 1 ∨ p = 2 := by omega
      rcases this with rfl | rfl | rfl <;> simp (disch := omega) only [st_row, st_ne, st_eq] <;> rfl
    · simp (disch := omega) only [st_row, st_ne, st_eq]
theorem placeP_b {m a : Int} {tx : Int → Int} (ha : 0 ≤ a) (h : ch m tx a ≠ 32) : 0 ≤ (placeP (ch m tx) a).a ∧ (placeP (ch m tx) a).a ≤ m := by
  have l1 : a < m := ch_lt (tx := tx) h
  unfold placeP
  split
  · rename_i c1
    have l2 : a + 1 < m := ch_lt (tx := tx) (by omega)
    have := idxP_b (m := m) (tx := tx) (a := a + 2) ⟨by omega, by omega⟩
    split
    · split
      · rename_i c2
        have l3 := ch_lt (m := m) (a := (idxP (ch m tx) (a + 2)).a) (tx := tx) (by omega)
        dsimp only [PR.ok, PR.a, PR.f, PR.n, PR.t] at *; omega
      · dsimp only [PR.ok, PR.a, PR.f, PR.n, PR.t] at *; omega
    · dsimp only [PR.ok, PR.a, PR.f, PR.n, PR.t] at *; omega
  · dsimp only [PR.ok, PR.a, PR.f, PR.n, PR.t, PS.e, PS.F, PS.N, PS.T, PS.O]; omega
theorem partP_b {m a : Int} {b : Bool} {tx : Int → Int} (ha : 0 ≤ a ∧ a ≤ m) : 0 ≤ (partP b (ch m tx) a).a ∧ (partP b (ch m tx) a).a ≤ m := by
  have hl : ∀ c, c ≠ 32 → ch m tx a = c → a + 1 ≤ m := fun c q1 q2 => by have := ch_lt (m := m) (a := a) (tx := tx) (by omega); omega
  unfold partP
  split
  · have := hl _ (by omega) rfl
    dsimp only [PR.ok, PR.a, PR.f, PR.n, PR.t, PS.e, PS.F, PS.N, PS.T, PS.O]; omega
  split
  · exact placeP_b ha.1 (by omega)
  split
  · split
    · have := hl 62 (by decide) ‹_›
      dsimp only [PR.ok, PR.a, PR.f, PR.n, PR.t, PS.e, PS.F, PS.N, PS.T, PS.O]; omega
    · dsimp only [PR.ok, PR.a, PR.f, PR.n, PR.t, PS.e, PS.F, PS.N, PS.T, PS.O]; omega
  split
  · have := hl 60 (by decide) ‹_›
    dsimp only [PR.ok, PR.a, PR.f, PR.n, PR.t, PS.e, PS.F, PS.N, PS.T, PS.O]; omega
  split
  · have := hl 105 (by decide) ‹_›
    dsimp only [PR.ok, PR.a, PR.f, PR.n, PR.t, PS.e, PS.F, PS.N, PS.T, PS.O]; omega
  split
  · have := numP_b (most := 2) ha.1 ‹_›
    dsimp only [PR.ok, PR.a, PR.f, PR.n, PR.t, PS.e, PS.F, PS.N, PS.T, PS.O]; omega
  · dsimp only [PR.ok, PR.a, PR.f, PR.n, PR.t, PS.e, PS.F, PS.N, PS.T, PS.O]; omega
theorem ixS_1 (p : Int) : 0 ≤ ixS 1 p ↔ isOp p := by
  have := ixS_neg (k := 1) (p := p)
  simp only [chS, List.mem_cons, List.not_mem_nil, or_false] at this
  unfold isOp
  omega
theorem readInto_w {m o : Int} {tx : Int → Int} {i r : MI} {Q : Int → MI → Prop} (hm : 0 ≤ m ∧ m ≤ 24) (hc : i 1 1 = m) (ht : ∀ k, 0 ≤ k → k < m → i 2 k = tx k) (hx : ∀ k, 0 ≤ k → k < m → 0 ≤ tx k ∧ tx k < 65536) (ho : 9 ≤ o)
    (hQ : ∀ i', PF o i i' → ((parseP (ch m tx) m).e = -1 → StmAt i' o (parseP (ch m tx) m).F (parseP (ch m tx) m).N (parseP (ch m tx) m).T (parseP (ch m tx) m).O) → Q (parseP (ch m tx) m).e i') : wp_X10_readInto o i r Q := by
  have h : TA m tx (st i 1 2 0) 0 := ⟨by rw [st_ne (by omega)]; exact hc, by rw [st_row (by omega)]; exact ht, st_eq, ⟨by omega, by omega, by omega⟩, hx⟩
  unfold wp_X10_readInto s78_X10_readInto s74_X10_readInto s79_X10_readInto s92_X10_readInto
  generalize hx : parseP (ch m tx) m = x at hQ
  unfold parseP at hx
  refine forget_w ho (fun i1 p1 q1 s1 => ?_)
  have t1 : TA m tx i1 0 := h.pf ho p1 0 (by omega) (by omega) (by rw [q1]; exact st_eq)
  have p1 := (PF.st1 (i := i) (v := 0) ho).trans p1
  have hno : ∀ i' a', TA m tx i' a' → PF o i i' → x = psE a' → (((0 : Int) = 0 → Q (i' 1 2) i') ∧ (¬ (0 : Int) = 0 → Q (-1) i')) := by
    intro i' a' t p e
    refine ⟨fun _ => ?_, fun q => absurd rfl q⟩
    rw [t.p]
    have := hQ i' p (fun q => by rw [e] at q; have q : a' = -1 := q; have := t.b; omega)
    rw [e] at this
    exact this
  refine readTarget_w t1 s1 ho rfl rfl (fun ok i2 p2 t2 s2 => ⟨fun q => absurd q (by decide), fun _ => ?_⟩) (fun ok i2 p2 t2 => ⟨fun _ => ?_, fun q => absurd rfl q⟩)
  · rw [if_pos ok] at hx
    have p2 := p1.trans p2
    generalize partP true (ch m tx) 0 = A at *
    rw [readSign_e t2 (by decide)]
    by_cases c1 : ch m tx A.a = 61
    · rw [if_pos c1]
      rw [if_pos c1] at hx
      refine ⟨fun q => absurd q (by decide), fun _ => ?_⟩
      have l1 := ch_lt (m := m) (a := A.a) (tx := tx) (by omega)
      have tb2 := t2.b
      have t3 := t2.st1 (b := A.a + 1) (by omega) (by omega)
      have s3 := sa_st1 (k := 2) (v := A.a + 1) s2 ho
      have p3 := p2.trans (PF.st1 (v := A.a + 1) ho)
      unfold psB at hx
      refine readOperand_w t3 s3 ho (by decide) rfl rfl (fun ok i4 p4 t4 s4 => ⟨fun q => absurd q (by decide), fun _ => ?_⟩) (fun ok i4 p4 t4 => ⟨fun _ => ?_, fun q => absurd rfl q⟩)
      · rw [if_pos ok] at hx
        have p4 := p3.trans p4
        generalize partP false (ch m tx) (A.a + 1) = B at *
        rw [t4.p, t4.c]
        refine ⟨fun e => ?_, fun e => ?_⟩
        · rw [if_pos e] at hx; subst hx
          exact ⟨fun q => absurd q (by decide), fun _ => hQ _ p4 (fun _ => s4)⟩
        · rw [if_neg e] at hx
          unfold wp_X10_readOperation
          rw [next_e t4]
          refine indexOf_w (by decide) t4.ch.1 t4.ch.2 ?_
          rw [next_e t4, ixS_1]
          have tb4 := t4.b
          refine ⟨fun c2 => ⟨t4.ch, ?_⟩, fun c2 => ⟨fun _ => ?_, fun q => absurd rfl q⟩⟩
          · refine ⟨fun q => absurd q (by decide), fun _ => ?_⟩
            rw [if_pos c2] at hx
            rw [st_row (by omega), t4.p, wr_of (by omega) (by omega)]
            have l2 : B.a < m := by omega
            have t5 := (t4.sto (o := o) (k := 3) (v := ch m tx B.a) ho).st1 (b := B.a + 1) (by omega) (by omega)
            have s5 := sa_st1 (k := 2) (v := B.a + 1) (sa_setO (v := ch m tx B.a) s4) ho
            have p5 := (p4.trans (PF.sto (a := o) (k := 3) (v := ch m tx B.a) ho (by omega) (by omega))).trans (PF.st1 (v := B.a + 1) ho)
            refine readOperand_w t5 s5 ho (by decide) rfl rfl (fun ok i6 p6 t6 s6 => ⟨fun q => absurd q (by decide), fun _ => ?_⟩) (fun ok i6 p6 t6 => ⟨fun _ => ?_, fun q => absurd rfl q⟩)
            · rw [if_pos ok] at hx
              rw [t6.p, t6.c]
              refine ⟨fun e => ?_, fun e => ?_⟩
              · rw [if_pos e] at hx; subst hx
                exact ⟨fun q => absurd q (by decide), fun _ => hQ _ (p5.trans p6) (fun _ => s6)⟩
              · rw [if_neg e] at hx
                have := hno i6 _ t6 (p5.trans p6) hx.symm
                rw [t6.p] at this
                exact this
            · rw [if_neg (by rw [ok]; decide)] at hx
              have := hno i6 _ t6 (p5.trans p6) hx.symm
              exact this
          · rw [if_neg c2] at hx
            have := hno i4 _ t4 p4 hx.symm
            exact this
      · rw [if_neg (by rw [ok]; decide)] at hx
        exact hno i4 _ t4 (p3.trans p4) hx.symm
    · rw [if_neg c1]
      rw [if_neg c1] at hx
      refine ⟨fun _ => ?_, fun q => absurd rfl q⟩
      exact hno i2 _ t2 p2 hx.symm
  · rw [if_neg (by rw [ok]; decide)] at hx
    exact hno i2 _ t2 (p1.trans p2) hx.symm
