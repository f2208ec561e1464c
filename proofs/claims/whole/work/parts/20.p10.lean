theorem index_w {m a b : Int} {tx : Int → Int} {i r : MI} {Q : Int → MI → Prop} (h : TM m tx i a) (hb0 : 0 ≤ b ∧ b ≤ 9)
    (h1 : (idxP (ch m tx) a).ok = true → ch m tx (idxP (ch m tx) a).a = 93 → ∀ i', PG b i i' → TM m tx i' ((idxP (ch m tx) a).a + 1) → i' 506 (b + 2) = (idxP (ch m tx) a).t → i' 506 (b + 3) = (idxP (ch m tx) a).n → (∀ c, c ≠ b + 2 → c ≠ b + 3 → i' 506 c = i 506 c) → Q 1 i')
    (h0 : ¬ ((idxP (ch m tx) a).ok = true ∧ ch m tx (idxP (ch m tx) a).a = 93) → ∀ i', PG b i i' → i' 504 5 = (idxP (ch m tx) a).a → Q 0 i') : wp_X12_index (b + 2) i r Q := by
  have hb := h.b
  have w3 : wr (b + 2 + 1) = b + 3 := by rw [wr_of (by omega) (by omega)]; omega
  unfold wp_X12_index
  simp only [w3]
  refine ⟨by omega, ?_⟩
  have t1 := h.sto (k := b + 3) (v := 0)
  have p1 : PG b i (st i 506 (b + 3) 0) := PG.sto (by omega) (by omega)
  generalize hx : idxP (ch m tx) a = x at h1 h0
  have hxb := idxP_b (m := m) (tx := tx) (a := a) ⟨hb.1, hb.2.1⟩
  rw [hx] at hxb
  unfold idxP at hx
  have fin : ∀ i', x.ok = true → PG b i i' → TM m tx i' x.a → i' 506 (b + 2) = x.t → i' 506 (b + 3) = x.n → (∀ c, c ≠ b + 2 → c ≠ b + 3 → i' 506 c = i 506 c) → s143_X12_index i' r Q := by
    intro i' ok p t g1 g2 g3
    unfold s143_X12_index
    rw [eats_e t (by decide)]
    have tb := t.b
    by_cases e : ch m tx x.a = 93
    · rw [if_pos e]
      have l := ch_lt (m := m) (a := x.a) (tx := tx) (by omega)
      refine ⟨.inr rfl, h1 ok e _ (p.trans PG.st4) (t.st4 (by omega) (by omega)) ?_ ?_ ?_⟩
      · rw [st_row (by omega)]; exact g1
      · rw [st_row (by omega)]; exact g2
      · rw [st_row (by omega)]; exact g3
    · rw [if_neg e]
      exact ⟨.inl rfl, h0 (fun q => e q.2) _ (p.trans PG.st5) st_eq⟩
  rw [is_e t1 (by decide)]
  by_cases c1 : ch m tx a = 105
  · rw [bz_0]
    rw [if_pos c1] at hx
    refine ⟨fun q => absurd c1 q, fun _ => ⟨by omega, ?_⟩⟩
    have l1 : a < m := ch_lt (tx := tx) (by omega)
    rw [t1.p, wr_of (by omega) (by omega)]
    have t2 := (t1.st4 (b := a + 1) (by omega) (by omega)).sto (k := b + 2) (v := 1)
    have p2 : PG b i (st (st (st i 506 (b + 3) 0) 504 4 (a + 1)) 506 (b + 2) 1) := (p1.trans PG.st4).trans (PG.sto (by omega) (by omega))
    have g1 : st (st (st i 506 (b + 3) 0) 504 4 (a + 1)) 506 (b + 2) 1 506 (b + 2) = 1 := st_eq
    have g2 : st (st (st i 506 (b + 3) 0) 504 4 (a + 1)) 506 (b + 2) 1 506 (b + 3) = 0 := by simp (disch := omega) only [st_row, st_ne, st_eq]
    have g3 : ∀ c, c ≠ b + 2 → c ≠ b + 3 → st (st (st i 506 (b + 3) 0) 504 4 (a + 1)) 506 (b + 2) 1 506 c = i 506 c := by
      intro c d1 d2; simp (disch := omega) only [st_row, st_ne, st_eq]
    generalize st (st (st i 506 (b + 3) 0) 504 4 (a + 1)) 506 (b + 2) 1 = i2 at *
    have key : ∀ sg : Int, (ch m tx (a + 1) = 45 ∨ ch m tx (a + 1) = 43) → sg = (if ch m tx (a + 1) = 45 then -1 else 1) → s67_X12_index (b + 2) sg i2 r Q := by
      intro sg c2 hsg
      rw [if_pos c2] at hx
      have l2 : a + 1 < m := ch_lt (tx := tx) (by omega)
      unfold s67_X12_index
      simp only [w3]
      rw [t2.p, wr_of (by omega) (by omega), show a + 1 + 1 = a + 2 by omega]
      have t3 := t2.st4 (b := a + 2) (by omega) (by omega)
      rw [misDigit_e t3, wrong_e t3]
      refine ⟨fun q => ⟨.inl rfl, ?_⟩, fun q => ?_⟩
      · rw [bz_0] at q
        rw [if_neg (show ¬ dg _ from q)] at hx; subst hx
        exact h0 (fun q => by cases q.1) _ ((p2.trans PG.st4).trans PG.st5) st_eq
      · rw [bz_0, Decidable.not_not] at q
        rw [if_pos (show dg _ from q)] at hx; subst hx
        have l3 : a + 2 < m := ch_lt (tx := tx) (by omega)
        refine mnumber_e t3 (.inl rfl) q ?_
        have e : numP (ch m tx) (a + 2) 1 = (ch m tx (a + 2) - 48, a + 3) := by unfold numP; rw [if_neg (by omega), show a + 2 + 1 = a + 3 by omega]
        rw [e]
        have t4 := t3.st4 (b := a + 3) (by omega) (by omega)
        dsimp only [PR.ok, PR.a, PR.f, PR.n, PR.t, PS.e, PS.F, PS.N, PS.T, PS.O]
        refine ⟨by omega, ?_⟩
        have ev : wr (sg * (ch m tx (a + 2) - 48)) = if ch m tx (a + 1) = 45 then -(ch m tx (a + 2) - 48) else ch m tx (a + 2) - 48 := by
          rw [hsg]
          split
          · rw [wr_of (by omega) (by omega)]; omega
          · rw [wr_of (by omega) (by omega)]; omega
        rw [ev]
        refine fin _ rfl (((p2.trans PG.st4).trans PG.st4).trans (PG.sto (by omega) (by omega))) t4.sto ?_ st_eq ?_
        · simp (disch := omega) only [st_row, st_ne]; exact g1
        · intro c d1 d2; simp (disch := omega) only [st_row, st_ne]; exact g3 c d1 d2
    rw [is_e t2 (by decide), is_e t2 (by decide)]
    unfold s53_X12_index
    simp only [is_e t2 (c := 43) (by decide)]
    rw [bz_0, bz_0]
    by_cases c2 : ch m tx (a + 1) = 45
    · exact ⟨fun _ => ⟨fun q => absurd c2 q, fun _ => ⟨fun _ => key (-1) (.inl c2) (by rw [if_pos c2]), fun q => by omega⟩⟩, fun q => by omega⟩
    · by_cases c3 : ch m tx (a + 1) = 43
      · exact ⟨fun q => absurd c3 q, fun _ => ⟨fun q => absurd c3 q, fun _ => key 1 (.inr c3) (by rw [if_neg c2])⟩⟩
      · rw [if_neg (by omega)] at hx; subst hx
        exact ⟨fun _ => ⟨fun _ => fin _ rfl p2 t2 g1 g2 g3, fun q => absurd c2 q⟩, fun q => absurd c3 q⟩
  · rw [bz_0]
    rw [if_neg c1] at hx
    refine ⟨fun _ => ?_, fun q => absurd c1 q⟩
    rw [misDigit_e t1, wrong_e t1]
    refine ⟨fun q => ⟨.inl rfl, ?_⟩, fun q => ⟨by omega, ?_⟩⟩
    · rw [bz_0] at q
      rw [if_neg (show ¬ dg _ from q)] at hx; subst hx
      exact h0 (fun q => by cases q.1) _ (p1.trans PG.st5) st_eq
    · rw [bz_0, Decidable.not_not] at q
      rw [if_pos (show dg _ from q)] at hx; subst hx
      have t2 := t1.sto (k := b + 2) (v := 0)
      refine mnumber_e t2 (.inr rfl) q ⟨by omega, ?_⟩
      have hnb := numP_b (most := 2) hb.1 q
      refine fin _ rfl (((p1.trans (PG.sto (by omega) (by omega))).trans PG.st4).trans (PG.sto (by omega) (by omega))) (t2.st4 hnb.1 hnb.2).sto ?_ st_eq ?_
      · simp (disch := omega) only [st_row, st_ne, st_eq]
      · intro c d1 d2; simp (disch := omega) only [st_row, st_ne]
theorem part_w {m a b tg : Int} {tgt : Bool} {tx : Int → Int} {i r : MI} {Q : Int → MI → Prop} (h : TM m tx i a) (hb0 : 0 ≤ b ∧ b ≤ 9) (htg : (tgt = true ∧ tg = 1) ∨ (tgt = false ∧ tg = 0))
    (h1 : (partP tgt (ch m tx) a).ok = true → ∀ i', PG b i i' → TM m tx i' (partP tgt (ch m tx) a).a → MPart i' 506 b (partP tgt (ch m tx) a).f (partP tgt (ch m tx) a).n (partP tgt (ch m tx) a).t → Q 1 i')
    (h0 : (partP tgt (ch m tx) a).ok = false → ∀ i', PG b i i' → i' 504 5 = (partP tgt (ch m tx) a).a → Q 0 i') : wp_X12_part b tg i r Q := by
  have hb := h.b
  have w1 : wr (b + 1) = b + 1 := wr_of (by omega) (by omega)
  have w2 : wr (b + 2) = b + 2 := wr_of (by omega) (by omega)
  have hl : ∀ c, c ≠ 32 → ch m tx a = c → a + 1 ≤ m := fun c q1 q2 => by have := ch_lt (m := m) (a := a) (tx := tx) (by omega); omega
  have t1 := h.sto (k := b + 1) (v := 0)
  have p1 : PG b i (st i 506 (b + 1) 0) := PG.sto (by omega) (by omega)
  have g1 : st i 506 (b + 1) 0 506 (b + 1) = 0 := st_eq
  unfold wp_X12_part
  simp only [w1]
  generalize hi1 : st i 506 (b + 1) 0 = i1 at *
  generalize hx : partP tgt (ch m tx) a = x at h1 h0
  unfold partP at hx
  refine ⟨by omega, ?_⟩
  have wa : wr (a + 1) = a + 1 := wr_of (by omega) (by omega)
  -- what is no register
  have kk : ¬ (97 ≤ ch m tx a ∧ ch m tx a ≤ 104) → s78_X12_part b tg i1 r Q := by
    intro c1
    rw [if_neg c1] at hx
    have kfail : x = ⟨false, a, 0, 0, 0⟩ → s253_X12_part i1 r Q := by
      intro hx
      subst hx
      unfold s253_X12_part
      rw [wrong_e t1]
      exact ⟨.inl rfl, h0 rfl _ (p1.trans PG.st5) st_eq⟩
    have k163 : ¬ (ch m tx a = 77 ∨ ch m tx a = 78) → ∀ k1, k1 = (if tgt = true then 62 else 60) → s163_X12_part b tg k1 i1 r Q := by
      intro c2 k1 hk1
      rw [if_neg c2] at hx
      unfold s163_X12_part s220_X12_part
      have hk : k1 ≠ 32 := by rw [hk1]; split <;> decide
      simp only [is_e t1 hk, is_e t1 (c := 105) (by decide), misDigit_e t1, bz_0, w1]
      refine ⟨fun c3 => ?_, fun c3 => ⟨by omega, ?_⟩⟩
      · rcases htg with ⟨rfl, rfl⟩ | ⟨rfl, rfl⟩
        · rw [if_pos rfl] at hk1
          rw [if_pos rfl, if_neg (by omega)] at hx
          exact ⟨fun q => absurd q (by decide), fun _ => ⟨fun q => absurd q (by decide), fun _ => kfail hx.symm⟩⟩
        · rw [if_neg (by decide)] at hk1
          rw [if_neg (by decide), if_neg (by omega)] at hx
          refine ⟨fun _ => ⟨fun c4 => ⟨fun _ => ⟨fun c5 => ?_, fun c5 => ⟨by omega, ?_⟩⟩, fun q => absurd rfl q⟩, fun c4 => ⟨by omega, ?_⟩⟩, fun q => absurd rfl q⟩
          · rw [if_neg c4, if_neg (show ¬ dg _ from c5)] at hx
            exact kfail hx.symm
          · rw [Decidable.not_not] at c5
            rw [if_neg c4, if_pos (show dg _ from c5)] at hx; subst hx
            have t2 := t1.sto (k := b) (v := 1)
            have hnb := numP_b (most := 2) hb.1 c5
            refine mnumber_e t2 (.inr rfl) c5 ⟨by omega, ?_⟩
            refine h1 rfl _ (((p1.trans (PG.sto (by omega) (by omega))).trans PG.st4).trans (PG.sto (by omega) (by omega))) (t2.st4 hnb.1 hnb.2).sto ⟨?_, fun _ => st_eq, fun q => by dsimp only [PR.f] at q; omega⟩
            simp (disch := omega) only [st_row, st_ne, st_eq]
            rfl
          · rw [Decidable.not_not] at c4
            rw [if_pos c4] at hx; subst hx
            have l := hl 105 (by decide) c4
            have t2 := t1.sto (k := b) (v := 2)
            rw [t2.p, wa]
            refine h1 rfl _ ((p1.trans (PG.sto (by omega) (by omega))).trans PG.st4) (t2.st4 (by omega) l) ⟨?_, fun q => by dsimp only [PR.f] at q; omega, fun q => by dsimp only [PR.f] at q; omega⟩
            simp (disch := omega) only [st_row, st_ne, st_eq]
            rfl
      · rw [Decidable.not_not] at c3
        have l := hl k1 hk c3
        have t2 := t1.sto (k := b) (v := 5)
        rw [t2.p, wa]
        have pp := (p1.trans (PG.sto (b := b) (k := b) (v := 5) (by omega) (by omega))).trans (PG.st4 (v := a + 1))
        rcases htg with ⟨rfl, rfl⟩ | ⟨rfl, rfl⟩
        · rw [if_pos rfl] at hk1
          rw [if_pos rfl, if_pos (by omega)] at hx; subst hx
          refine h1 rfl _ pp (t2.st4 (by omega) l) ⟨?_, fun q => by dsimp only [PR.f] at q; omega, fun q => by dsimp only [PR.f] at q; omega⟩
          simp (disch := omega) only [st_row, st_ne, st_eq]
          rfl
        · rw [if_neg (by decide)] at hk1
          rw [if_neg (by decide), if_pos (by omega)] at hx; subst hx
          refine h1 rfl _ pp (t2.st4 (by omega) l) ⟨?_, fun q => by dsimp only [PR.f] at q; omega, fun q => by dsimp only [PR.f] at q; omega⟩
          simp (disch := omega) only [st_row, st_ne, st_eq]
          rfl
    have k115 : (ch m tx a = 77 ∨ ch m tx a = 78) → ∀ k, k = ch m tx a - 74 → s115_X12_part b b k i1 r Q := by
      intro c2 k hk
      rw [if_pos c2] at hx
      unfold placeP at hx
      unfold s115_X12_part s149_X12_part s150_X12_part
      refine ⟨by omega, ?_⟩
      have l := hl (ch m tx a) (by omega) rfl
      have t2 := (t1.sto (k := b) (v := k)).st4 (b := a + 1) (by omega) l
      have p2 := (p1.trans (PG.sto (b := b) (k := b) (v := k) (by omega) (by omega))).trans (PG.st4 (v := a + 1))
      rw [(t1.sto (k := b) (v := k)).p, wa]
      have g2 : st (st i1 506 b k) 504 4 (a + 1) 506 b = k := by simp (disch := omega) only [st_row, st_ne, st_eq]
      generalize st (st i1 506 b k) 504 4 (a + 1) = i2 at *
      rw [eats_e t2 (by decide)]
      by_cases c3 : ch m tx (a + 1) = 91
      · rw [if_pos c3]
        rw [if_pos c3] at hx
        have l2 : a + 1 < m := ch_lt (tx := tx) (by omega)
        refine ⟨fun q => absurd q (by decide), fun _ => ?_⟩
        rw [show a + 1 + 1 = a + 2 by omega, w2]
        have t3 := t2.st4 (b := a + 2) (by omega) (by omega)
        refine index_w t3 hb0 (fun ok e i' p t gT gN gO => ?_) (fun no i' p e => ?_)
        · rw [if_pos ok, if_pos e] at hx; subst hx
          refine ⟨fun q => absurd q (by decide), fun _ => ⟨.inr rfl, h1 rfl _ ((p2.trans PG.st4).trans p) t ⟨?_, fun q => by dsimp only [PR.f] at q; omega, fun _ => ⟨gT, gN⟩⟩⟩⟩
          rw [gO b (by omega) (by omega), st_row (by omega), g2, hk, if_pos (by dsimp only [PR.ok, PR.a, PR.f, PR.n, PR.t, PS.e, PS.F, PS.N, PS.T, PS.O]; omega)]
        · refine ⟨fun _ => ⟨.inl rfl, ?_⟩, fun q => absurd rfl q⟩
          have hxx : x.ok = false ∧ x.a = (idxP (ch m tx) (a + 2)).a := by
            rw [← hx]
            by_cases ok : (idxP (ch m tx) (a + 2)).ok = true
            · rw [if_pos ok, if_neg (fun q => no ⟨ok, q⟩)]; exact ⟨rfl, rfl⟩
            · rw [if_neg ok]; exact ⟨rfl, rfl⟩
          exact h0 hxx.1 _ ((p2.trans PG.st4).trans p) (by rw [hxx.2]; exact e)
      · rw [if_neg c3]
        rw [if_neg c3] at hx; subst hx
        exact ⟨fun _ => ⟨.inl rfl, h0 rfl _ (p2.trans PG.st5) st_eq⟩, fun q => absurd rfl q⟩
    unfold s78_X12_part s96_X12_part
    simp only [is_e t1 (c := 77) (by decide), is_e t1 (c := 78) (by decide), bz_0]
    refine ⟨fun c2 => ⟨fun c3 => ⟨fun q => k163 (by omega) _ ?_, fun q => k163 (by omega) _ ?_⟩, fun c3 => ⟨fun _ => k115 (by omega) _ (by omega), fun q => absurd c2 q⟩⟩, fun c2 => ⟨fun q => absurd q c2, fun _ => k115 (by omega) _ (by omega)⟩⟩
    · rcases htg with ⟨rfl, rfl⟩ | ⟨rfl, rfl⟩
      · exact absurd q (by decide)
      · rfl
    · rcases htg with ⟨rfl, rfl⟩ | ⟨rfl, rfl⟩
      · rfl
      · exact absurd rfl q
  rw [t1.c, t1.p]
  refine ⟨fun q => kk ?_, fun q => ⟨by omega, ?_⟩⟩
  · unfold ch; rw [if_neg (by omega)]; omega
  · have e1 : i1 505 a = ch m tx a := by rw [t1.t a hb.1 (by omega)]; unfold ch; rw [if_pos (by omega)]
    rw [in_eq, e1]
    refine ⟨fun q2 => kk (bz_0.1 q2), fun q2 => ?_⟩
    rw [bz_0, Decidable.not_not] at q2
    rw [if_pos q2] at hx; subst hx
    have t2 := t1.sto (k := b) (v := 0)
    rw [t2.p]
    have e2 : st i1 506 b 0 505 a = ch m tx a := by rw [st_row (by omega)]; exact e1
    rw [e2]
    have t3 := t2.sto (k := b + 1) (v := wr (ch m tx a - 97))
    rw [t3.p, wa]
    rw [wr_of (x := ch m tx a - 97) (by omega) (by omega)] at t3 ⊢
    refine ⟨by omega, by omega, by omega, ?_⟩
    refine h1 rfl _ (((p1.trans (PG.sto (by omega) (by omega))).trans (PG.sto (by omega) (by omega))).trans PG.st4) (t3.st4 (by omega) (by omega)) ⟨?_, fun q => ?_, fun q => by dsimp only [PR.f] at q; omega⟩
    · simp (disch := omega) only [st_row, st_ne, st_eq]
      rfl
    · simp (disch := omega) only [st_row, st_ne, st_eq]
