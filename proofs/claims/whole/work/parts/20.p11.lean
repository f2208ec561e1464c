def PH (i i' : MI) : Prop := (∀ a, a ≠ 504 → a ≠ 506 → i' a = i a) ∧ (∀ c, c ≠ 4 → c ≠ 5 → i' 504 c = i 504 c)
theorem PG.ph {b : Int} {i i' : MI} (h : PG b i i') : PH i i' := ⟨h.1, h.2.1⟩
theorem PH.trans {i j k : MI} (h : PH i j) (g : PH j k) : PH i k := ⟨fun a p q => (g.1 a p q).trans (h.1 a p q), fun c p q => (g.2 c p q).trans (h.2 c p q)⟩
theorem PH.st5 {v : Int} {i : MI} : PH i (st i 504 5 v) := (PG.st5 (b := 0)).ph
theorem PH.st4 {v : Int} {i : MI} : PH i (st i 504 4 v) := (PG.st4 (b := 0)).ph
theorem PH.sto {k v : Int} {i : MI} : PH i (st i 506 k v) := ⟨fun a p q => st_row (by omega), fun c p q => by rw [st_row (by omega)]⟩
theorem MPart.pg {i i' : MI} {b b' F N T : Int} (h : MPart i 506 b F N T) (g : PG b' i i') (hb : b + 3 < b' ∨ b' + 3 < b) : MPart i' 506 b F N T := by
  obtain ⟨a1, a2, a3⟩ := h
  refine ⟨?_, ?_, ?_⟩
  · rw [g.2.2 _ (by omega)]; exact a1
  · rw [g.2.2 _ (by omega)]; exact a2
  · rw [g.2.2 _ (by omega), g.2.2 _ (by omega)]; exact a3
theorem MPart.mv {i i' : MI} {b F N T : Int} (h : MPart i 506 b F N T) (g : ∀ c, b ≤ c → c ≤ b + 3 → i' 506 c = i 506 c) : MPart i' 506 b F N T := by
  obtain ⟨a1, a2, a3⟩ := h
  refine ⟨?_, ?_, ?_⟩
  · rw [g _ (by omega) (by omega)]; exact a1
  · rw [g _ (by omega) (by omega)]; exact a2
  · rw [g _ (by omega) (by omega), g _ (by omega) (by omega)]; exact a3
theorem parse_w {m : Int} {tx : Int → Int} {i r : MI} {Q : Int → MI → Prop} (hm : 0 ≤ m ∧ m ≤ 24) (hc : i 504 1 = m) (ht : ∀ k, 0 ≤ k → k < m → i 505 k = tx k) (hx : ∀ k, 0 ≤ k → k < m → 0 ≤ tx k ∧ tx k < 65536)
    (hQ : ∀ i', PH i i' → ((parseP (ch m tx) m).e = -1 → MStm i' 506 0 (parseP (ch m tx) m).F (parseP (ch m tx) m).N (parseP (ch m tx) m).T (parseP (ch m tx) m).O) → Q (parseP (ch m tx) m).e i') : wp_X12_parse i r Q := by
  unfold wp_X12_parse s133_X12_parse
  have t0 : TM m tx (st (st (st i 504 4 0) 504 5 (-1)) 506 12 0) 0 := by
    refine ⟨?_, ?_, ?_, ?_, ⟨by omega, by omega, by omega⟩, hx⟩
    · simp (disch := omega) only [st_row, st_ne, st_eq]; exact hc
    · simp (disch := omega) only [st_row, st_ne, st_eq]; exact ht
    · simp (disch := omega) only [st_row, st_ne, st_eq]
    · simp (disch := omega) only [st_row, st_ne, st_eq]
  have p0 : PH i (st (st (st i 504 4 0) 504 5 (-1)) 506 12 0) := (PH.st4.trans PH.st5).trans PH.sto
  have o0 : st (st (st i 504 4 0) 504 5 (-1)) 506 12 0 506 12 = 0 := st_eq
  generalize st (st (st i 504 4 0) 504 5 (-1)) 506 12 0 = i0 at *
  generalize hx : parseP (ch m tx) m = x at hQ
  unfold parseP at hx
  have hno : ∀ i' a', 0 ≤ a' → i' 504 5 = a' → PH i i' → x = psE a' → Q (i' 504 5) i' := by
    intro i' a' h0 t p e
    rw [t]
    have := hQ i' p (fun q => by rw [e] at q; have q : a' = -1 := q; omega)
    rw [e] at this
    exact this
  have b1 := partP_b (b := true) (m := m) (tx := tx) (a := 0) (by omega)
  refine part_w (tgt := true) t0 (by decide) (.inl ⟨rfl, rfl⟩) (fun ok i2 p2 t2 s2 => ⟨fun q => absurd q (by decide), fun _ => ?_⟩) (fun ok i2 p2 e2 => ⟨fun _ => ?_, fun q => absurd rfl q⟩)
  · rw [if_pos ok] at hx
    have q2 := p0.trans p2.ph
    generalize partP true (ch m tx) 0 = A at *
    rw [eats_e t2 (by decide)]
    by_cases c1 : ch m tx A.a = 61
    · rw [if_pos c1]
      rw [if_pos c1] at hx
      refine ⟨fun q => absurd q (by decide), fun _ => ?_⟩
      have l1 := ch_lt (m := m) (a := A.a) (tx := tx) (by omega)
      have tb2 := t2.b
      have t3 := t2.st4 (b := A.a + 1) (by omega) (by omega)
      have s3 : MPart (st i2 504 4 (A.a + 1)) 506 0 A.f A.n A.t := s2.mv (fun c _ _ => by rw [st_row (by omega)])
      have q3 := q2.trans (PH.st4 (v := A.a + 1))
      have o3 : st i2 504 4 (A.a + 1) 506 12 = 0 := by rw [st_row (by omega), p2.2.2 12 (by omega)]; exact o0
      generalize st i2 504 4 (A.a + 1) = i3 at *
      unfold psB at hx
      have b2 := partP_b (b := false) (m := m) (tx := tx) (a := A.a + 1) (by omega)
      refine part_w (tgt := false) t3 (by decide) (.inr ⟨rfl, rfl⟩) (fun ok i4 p4 t4 s4 => ⟨fun q => absurd q (by decide), fun _ => ?_⟩) (fun ok i4 p4 e4 => ⟨fun _ => ?_, fun q => absurd rfl q⟩)
      · rw [if_pos ok] at hx
        have q4 := q3.trans p4.ph
        have s34 := s3.pg p4 (by omega)
        have o4 : i4 506 12 = 0 := by rw [p4.2.2 12 (by omega)]; exact o3
        generalize partP false (ch m tx) (A.a + 1) = B at *
        rw [t4.p, t4.c]
        have tb4 := t4.b
        refine ⟨fun e => ?_, fun e => ⟨by omega, ?_⟩⟩
        · rw [if_pos (by omega)] at hx; subst hx
          rw [t4.f]
          exact hQ _ q4 (fun _ => ⟨s34, s4, fun q => absurd rfl q, o4⟩)
        · rw [if_neg (by omega)] at hx
          have l2 : B.a < m := by omega
          have e5 : i4 505 B.a = ch m tx B.a := by rw [t4.t _ tb4.1 l2]; unfold ch; rw [if_pos l2]
          rw [e5]
          refine indexOf_w (by decide) t4.ch.1 t4.ch.2 ?_
          rw [ixS_1]
          refine ⟨fun c2 => ⟨by omega, ?_⟩, fun c2 => ?_⟩
          · rw [if_pos c2] at hx
            rw [(t4.sto (k := 12) (v := ch m tx B.a)).p, wr_of (by omega) (by omega)]
            have t5 := (t4.sto (k := 12) (v := ch m tx B.a)).st4 (b := B.a + 1) (by omega) (by omega)
            have q5 := (q4.trans (PH.sto (k := 12) (v := ch m tx B.a))).trans (PH.st4 (v := B.a + 1))
            have s5 : MPart (st (st i4 506 12 (ch m tx B.a)) 504 4 (B.a + 1)) 506 0 A.f A.n A.t := s34.mv (fun c _ _ => by simp (disch := omega) only [st_row, st_ne])
            have s6 : MPart (st (st i4 506 12 (ch m tx B.a)) 504 4 (B.a + 1)) 506 4 B.f B.n B.t := s4.mv (fun c _ _ => by simp (disch := omega) only [st_row, st_ne])
            have o5 : st (st i4 506 12 (ch m tx B.a)) 504 4 (B.a + 1) 506 12 = ch m tx B.a := by simp (disch := omega) only [st_row, st_ne, st_eq]
            generalize st (st i4 506 12 (ch m tx B.a)) 504 4 (B.a + 1) = i5 at *
            have b3 := partP_b (b := false) (m := m) (tx := tx) (a := B.a + 1) (by omega)
            refine part_w (tgt := false) t5 (by decide) (.inr ⟨rfl, rfl⟩) (fun ok i6 p6 t6 s7 => ⟨fun q => absurd q (by decide), fun _ => ?_⟩) (fun ok i6 p6 e6 => ⟨fun _ => ?_, fun q => absurd rfl q⟩)
            · rw [if_pos ok] at hx
              rw [t6.p, t6.c]
              have tb6 := t6.b
              refine ⟨fun e => ?_, fun e => ?_⟩
              · rw [if_pos (by omega)] at hx; subst hx
                rw [t6.f]
                refine hQ _ (q5.trans p6.ph) (fun _ => ⟨s5.pg p6 (by omega), s6.pg p6 (by omega), fun _ => s7, ?_⟩)
                rw [p6.2.2 _ (by omega)]
                rw [if_neg (show ¬ ch m tx B.a = 32 by unfold isOp at c2; omega)]
                exact o5
              · rw [if_neg (by omega)] at hx
                rw [wrong_e t6]
                exact hno _ _ (by omega) st_eq ((q5.trans p6.ph).trans PH.st5) hx.symm
            · rw [if_neg (by rw [ok]; decide)] at hx
              exact hno i6 _ (by omega) e6 (q5.trans p6.ph) hx.symm
          · rw [if_neg c2] at hx
            rw [wrong_e t4]
            exact hno _ _ (by omega) st_eq (q4.trans PH.st5) hx.symm
      · rw [if_neg (by rw [ok]; decide)] at hx
        exact hno i4 _ (by omega) e4 (q3.trans p4.ph) hx.symm
    · rw [if_neg c1]
      rw [if_neg c1] at hx
      refine ⟨fun _ => ?_, fun q => absurd rfl q⟩
      exact hno _ _ (by omega) st_eq (q2.trans PH.st5) hx.symm
  · rw [if_neg (by rw [ok]; decide)] at hx
    exact hno i2 _ (by omega) e2 (p0.trans p2.ph) hx.symm
