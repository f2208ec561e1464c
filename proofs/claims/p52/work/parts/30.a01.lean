def iup (f : Int → Int) (p v : Int) : Int → Int := fun k => if k = p then v else f k
theorem iup_self {f : Int → Int} {p : Int} : iup f p (f p) = f := by funext k; unfold iup; split <;> simp_all
theorem sa_st1 {i : MI} {o k v : Int} {F N T : Int → Int} {O : Int} (h : StmAt i o F N T O) (ho : 9 ≤ o) : StmAt (st i 1 k v) o F N T O := h.st' (by omega)
theorem sa_setF {i : MI} {o p v : Int} {F N T : Int → Int} {O : Int} (h : StmAt i o F N T O) : StmAt (st i (o + 1) p v) o (iup F p v) N T O := by
  apply StmAt.mk
  · intro q a b
    have := h.f q a b
    unfold iup Pilot.CSchedularyLaw_law_r8908_31b577.st
    grind
  · rw [st_row (by omega)]; exact h.n
  · rw [st_row (by omega)]; exact h.t
  · rw [st_row (by omega)]; exact h.o
theorem sa_setN {i : MI} {o p v : Int} {F N T : Int → Int} {O : Int} (h : StmAt i o F N T O) : StmAt (st i (o + 2) p v) o F (iup N p v) T O := by
  apply StmAt.mk
  · rw [st_row (by omega)]; exact h.f
  · intro q a b
    have := h.n q a b
    unfold iup Pilot.CSchedularyLaw_law_r8908_31b577.st
    grind
  · rw [st_row (by omega)]; exact h.t
  · rw [st_row (by omega)]; exact h.o
theorem sa_setT {i : MI} {o p v : Int} {F N T : Int → Int} {O : Int} (h : StmAt i o F N T O) : StmAt (st i (o + 3) p v) o F N (iup T p v) O := by
  apply StmAt.mk
  · rw [st_row (by omega)]; exact h.f
  · rw [st_row (by omega)]; exact h.n
  · intro q a b
    have := h.t q a b
    unfold iup Pilot.CSchedularyLaw_law_r8908_31b577.st
    grind
  · rw [st_row (by omega)]; exact h.o
theorem sa_setO {i : MI} {o v : Int} {F N T : Int → Int} {O : Int} (h : StmAt i o F N T O) : StmAt (st i o 3 v) o F N T v := by
  apply StmAt.mk
  · rw [st_row (by omega)]; exact h.f
  · rw [st_row (by omega)]; exact h.n
  · rw [st_row (by omega)]; exact h.t
  · exact st_eq
abbrev PR : Type := (Bool) × (Int) × (Int) × (Int) × (Int)
abbrev PR.ok (x0 : PR) : Bool := (Prod.fst x0)
abbrev PR.a (x0 : PR) : Int := (Prod.fst (Prod.snd x0))
abbrev PR.f (x0 : PR) : Int := (Prod.fst (Prod.snd (Prod.snd x0)))
abbrev PR.n (x0 : PR) : Int := (Prod.fst (Prod.snd (Prod.snd (Prod.snd x0))))
abbrev PR.t (x0 : PR) : Int := (Prod.snd (Prod.snd (Prod.snd (Prod.snd x0))))
abbrev PR.mk (x0 : Bool) (x1 : Int) (x2 : Int) (x3 : Int) (x4 : Int) : PR := (x0, x1, x2, x3, x4)
abbrev dg (c : Int) : Prop := 48 ≤ c ∧ c ≤ 57
def idxP (c : Int → Int) (a : Int) : PR :=
  if c a = 105 then
    if c (a + 1) = 45 ∨ c (a + 1) = 43 then
      if dg (c (a + 2)) then ⟨true, a + 3, 0, if c (a + 1) = 45 then -(c (a + 2) - 48) else c (a + 2) - 48, 1⟩ else ⟨false, a + 2, 0, 0, 0⟩
    else ⟨true, a + 1, 0, 0, 1⟩
  else if dg (c a) then ⟨true, (numP c a 2).2, 0, (numP c a 2).1, 0⟩ else ⟨false, a, 0, 0, 0⟩
def placeP (c : Int → Int) (a : Int) : PR :=
  if c (a + 1) = 91 then
    if (idxP c (a + 2)).ok then
      if c (idxP c (a + 2)).a = 93 then ⟨true, (idxP c (a + 2)).a + 1, c a - 74, (idxP c (a + 2)).n, (idxP c (a + 2)).t⟩ else ⟨false, (idxP c (a + 2)).a, 0, 0, 0⟩
    else ⟨false, (idxP c (a + 2)).a, 0, 0, 0⟩
  else ⟨false, a + 1, 0, 0, 0⟩
def partP (tgt : Bool) (c : Int → Int) (a : Int) : PR :=
  if 97 ≤ c a ∧ c a ≤ 104 then ⟨true, a + 1, 0, c a - 97, 0⟩
  else if c a = 77 ∨ c a = 78 then placeP c a
  else if tgt then (if c a = 62 then ⟨true, a + 1, 6, 0, 0⟩ else ⟨false, a, 0, 0, 0⟩)
  else if c a = 60 then ⟨true, a + 1, 5, 0, 0⟩
  else if c a = 105 then ⟨true, a + 1, 2, 0, 0⟩
  else if dg (c a) then ⟨true, (numP c a 2).2, 1, (numP c a 2).1, 0⟩
  else ⟨false, a, 0, 0, 0⟩
theorem numP_b {m a most : Int} {tx : Int → Int} (ha : 0 ≤ a) (hd : dg (ch m tx a)) : 0 ≤ (numP (ch m tx) a most).2 ∧ (numP (ch m tx) a most).2 ≤ m := by
  unfold dg at hd
  have h1 : a < m := ch_lt (tx := tx) (by omega)
  unfold numP
  split
  · have h2 : a + 1 < m := ch_lt (tx := tx) (by omega)
    dsimp only [PR.ok, PR.a, PR.f, PR.n, PR.t]; omega
  · dsimp only [PR.ok, PR.a, PR.f, PR.n, PR.t]; omega
theorem st_st {i : MI} {o k v w : Int} : st (st i o k v) o k w = st i o k w := by
  funext x y; unfold st; split <;> rfl
theorem readIndex_w {m a o p : Int} {tx : Int → Int} {i r : MI} {F N T : Int → Int} {O : Int} {Q : Int → MI → Prop} (h : TA m tx i a) (hs : StmAt i o F N T O) (ho : 9 ≤ o) (hp : 0 ≤ p ∧ p < 3) (hN : N p = 0)
    (h1 : (idxP (ch m tx) a).ok = true → ∀ i', PF o i i' → TA m tx i' (idxP (ch m tx) a).a → StmAt i' o F (iup N p (idxP (ch m tx) a).n) (iup T p (idxP (ch m tx) a).t) O → Q 1 i')
    (h0 : (idxP (ch m tx) a).ok = false → ∀ i', PF o i i' → TA m tx i' (idxP (ch m tx) a).a → Q 0 i') : wp_X10_readIndex o p i r Q := by
  have hb := h.b
  unfold wp_X10_readIndex
  rw [readSign_e h (by decide)]
  generalize hx : idxP (ch m tx) a = x at h1 h0
  unfold idxP at hx
  have pf0 : ∀ v, PF o i (st i (o + 3) p v) := fun v => PF.sto ho (by omega) (by omega)
  by_cases c1 : ch m tx a = 105
  · rw [if_pos c1]
    rw [if_pos c1] at hx
    have l1 : a < m := ch_lt (tx := tx) (by omega)
    have t1 := h.st1 (b := a + 1) (by omega) (by omega)
    have t2 := t1.sto (o := o + 3) (k := p) (v := 1) (by omega)
    have s1 := sa_setT (p := p) (v := 1) (sa_st1 (k := 2) (v := a + 1) hs ho)
    have pf1 : PF o i (st i 1 2 (a + 1)) := PF.st1 ho
    have pf2 : PF o i (st (st i 1 2 (a + 1)) (o + 3) p 1) := pf1.trans (PF.sto ho (by omega) (by omega))
    refine ⟨hp, .inr rfl, fun q => absurd q (by decide), fun _ => ?_⟩
    rw [readSign_e t2 (by decide)]
    have key : ∀ x4 : Int, ∀ i2, (ch m tx (a + 1) = 45 ∨ ch m tx (a + 1) = 43) → (x4 = 0 ↔ ch m tx (a + 1) ≠ 45) → i2 = st (st (st i 1 2 (a + 1)) (o + 3) p 1) 1 2 (a + 2) → s54_X10_readIndex o p 1 x4 i2 r Q := by
      intro x4 i2 c2 hx4 hi2
      rw [if_pos c2] at hx
      have l2 : a + 1 < m := ch_lt (tx := tx) (by omega)
      have t3 := t2.st1 (b := a + 2) (by omega) (by omega)
      have s3 := sa_st1 (k := 2) (v := a + 2) s1 ho
      have pf3 := pf2.trans (PF.st1 (v := a + 2) ho)
      rw [← hi2] at t3 s3 pf3
      unfold s54_X10_readIndex s76_X10_readIndex s99_X10_readIndex
      rw [next_e t3, isDigit_eq]
      refine ⟨fun q => ?_, fun q => ⟨fun q2 => absurd q2 (by decide), fun _ => ?_⟩⟩
      · rw [bz_0] at q
        rw [if_neg (show ¬ dg _ from q)] at hx; subst hx
        exact h0 rfl _ pf3 t3
      · rw [bz_0, Decidable.not_not] at q
        rw [if_pos (show dg _ from q)] at hx; subst hx
        have l3 : a + 2 < m := ch_lt (tx := tx) (by omega)
        refine readNumber_e t3 (.inl rfl) q ?_
        have e : numP (ch m tx) (a + 2) 1 = (ch m tx (a + 2) - 48, a + 3) := by unfold numP; rw [if_neg (by omega), show a + 2 + 1 = a + 3 by omega]
        rw [e]
        have t4 := t3.st1 (b := a + 3) (by omega) (by omega)
        have s4 := sa_st1 (k := 2) (v := a + 3) s3 ho
        have pf4 := pf3.trans (PF.st1 (v := a + 3) ho)
        dsimp only [PR.ok, PR.a, PR.f, PR.n, PR.t]
        refine ⟨fun q2 => ⟨hp, ?_⟩, fun q2 => ⟨hp, ?_⟩⟩
        · rw [if_neg (by omega)] at h1
          exact h1 rfl _ (pf4.trans (PF.sto ho (by omega) (by omega))) (t4.sto (by omega)) (sa_setN s4)
        · rw [if_pos (by omega)] at h1
          rw [wr_of (by omega) (by omega)]
          exact h1 rfl _ (pf4.trans (PF.sto ho (by omega) (by omega))) (t4.sto (by omega)) (sa_setN s4)
    by_cases c2 : ch m tx (a + 1) = 45
    · rw [if_pos c2]
      refine ⟨fun q => absurd q (by decide), fun _ => ?_⟩
      unfold s32_X10_readIndex
      exact ⟨fun q => absurd q (by decide), fun _ => ⟨fun q => absurd q (by decide), fun _ => key 1 _ (.inl c2) (by omega) (by rw [show a + 1 + 1 = a + 2 by omega])⟩⟩
    · rw [if_neg c2]
      refine ⟨fun _ => ?_, fun q => absurd rfl q⟩
      unfold s31_X10_readIndex s32_X10_readIndex
      refine ⟨fun q => absurd q (by decide), fun _ => ⟨fun _ => ?_, fun q => absurd rfl q⟩⟩
      rw [readSign_e t2 (by decide)]
      by_cases c3 : ch m tx (a + 1) = 43
      · rw [if_pos c3]
        refine ⟨fun q => absurd q (by decide), fun _ => key 0 _ (.inr c3) (by omega) (by rw [show a + 1 + 1 = a + 2 by omega])⟩
      · rw [if_neg c3]
        refine ⟨fun _ => ?_, fun q => absurd rfl q⟩
        rw [if_neg (by omega)] at hx; subst hx
        refine h1 rfl _ pf2 t2 ?_
        rw [← hN, iup_self]
        exact s1
  · rw [if_neg c1]
    rw [if_neg c1] at hx
    have t2 := h.sto (o := o + 3) (k := p) (v := 0) (by omega)
    have s1 := sa_setT (p := p) (v := 0) hs
    refine ⟨hp, .inl rfl, fun _ => ?_, fun q => absurd rfl q⟩
    unfold s31_X10_readIndex s32_X10_readIndex s54_X10_readIndex s76_X10_readIndex s99_X10_readIndex
    refine ⟨fun _ => ?_, fun q => absurd rfl q⟩
    rw [next_e t2, isDigit_eq]
    refine ⟨fun q => ?_, fun q => ⟨fun _ => ?_, fun q2 => absurd rfl q2⟩⟩
    · rw [bz_0] at q
      rw [if_neg (show ¬ dg _ from q)] at hx; subst hx
      exact h0 rfl _ (pf0 0) t2
    · rw [bz_0, Decidable.not_not] at q
      rw [if_pos (show dg _ from q)] at hx; subst hx
      refine readNumber_e t2 (.inr rfl) q ?_
      have hnb := numP_b (most := 2) hb.1 q
      refine ⟨fun _ => ⟨hp, ?_⟩, fun q2 => absurd rfl q2⟩
      exact h1 rfl _ (((pf0 0).trans (PF.st1 ho)).trans (PF.sto ho (by omega) (by omega))) ((t2.st1 hnb.1 hnb.2).sto (by omega)) (sa_setN (sa_st1 s1 ho))
theorem idxP_b {m a : Int} {tx : Int → Int} (ha : 0 ≤ a ∧ a ≤ m) : 0 ≤ (idxP (ch m tx) a).a ∧ (idxP (ch m tx) a).a ≤ m := by
  unfold idxP
  split
  · rename_i c1
    have l1 : a < m := ch_lt (tx := tx) (by omega)
    split
    · rename_i c2
      have l2 : a + 1 < m := ch_lt (tx := tx) (by omega)
      split
      · rename_i c3
        unfold dg at c3
        have l3 : a + 2 < m := ch_lt (tx := tx) (by omega)
        dsimp only [PR.ok, PR.a, PR.f, PR.n, PR.t]; omega
      · dsimp only [PR.ok, PR.a, PR.f, PR.n, PR.t]; omega
    · dsimp only [PR.ok, PR.a, PR.f, PR.n, PR.t]; omega
  · split
    · rename_i c1
      have := numP_b (most := 2) ha.1 c1
      dsimp only [PR.ok, PR.a, PR.f, PR.n, PR.t]; omega
    · dsimp only [PR.ok, PR.a, PR.f, PR.n, PR.t]; omega
theorem readPlace_w {m a o p : Int} {tx : Int → Int} {i r : MI} {F N T : Int → Int} {O : Int} {Q : Int → MI → Prop} (h : TA m tx i a) (hs : StmAt i o F N T O) (ho : 9 ≤ o) (hp : 0 ≤ p ∧ p < 3) (hN : N p = 0)
    (hc : ch m tx a = 77 ∨ ch m tx a = 78)
    (h1 : (placeP (ch m tx) a).ok = true → ∀ i', PF o i i' → TA m tx i' (placeP (ch m tx) a).a → StmAt i' o (iup F p (placeP (ch m tx) a).f) (iup N p (placeP (ch m tx) a).n) (iup T p (placeP (ch m tx) a).t) O → Q 1 i')
    (h0 : (placeP (ch m tx) a).ok = false → ∀ i', PF o i i' → TA m tx i' (placeP (ch m tx) a).a → Q 0 i') : wp_X10_readPlace o p i r Q := by
  have hb := h.b
  unfold wp_X10_readPlace
  rw [next_e h]
  have l1 : a < m := ch_lt (tx := tx) (by omega)
  refine indexOf_w (by decide) h.ch.1 h.ch.2 ?_
  have hx2 : ixS 2 (ch m tx a) = ch m tx a - 77 := by rw [ixS_2]; (repeat' split) <;> omega
  rw [hx2]
  refine ⟨fun _ => ⟨hp, ?_⟩, fun q => absurd q (by omega)⟩
  rw [h.p, wr_of (by omega) (by omega), wr_of (x := 3 + _) (by omega) (by omega), show 3 + (ch m tx a - 77) = ch m tx a - 74 by omega]
  generalize hx : placeP (ch m tx) a = x at h1 h0
  unfold placeP at hx
  have t1 := h.st1 (b := a + 1) (by omega) (by omega)
  have t2 := t1.sto (o := o + 1) (k := p) (v := ch m tx a - 74) (by omega)
  have s2 := sa_setF (p := p) (v := ch m tx a - 74) (sa_st1 (k := 2) (v := a + 1) hs ho)
  have pf2 : PF o i (st (st i 1 2 (a + 1)) (o + 1) p (ch m tx a - 74)) := (PF.st1 ho).trans (PF.sto ho (by omega) (by omega))
  unfold s66_X10_readPlace s67_X10_readPlace
  rw [readSign_e t2 (by decide)]
  by_cases c2 : ch m tx (a + 1) = 91
  · rw [if_pos c2]
    rw [if_pos c2] at hx
    have l2 : a + 1 < m := ch_lt (tx := tx) (by omega)
    rw [show a + 1 + 1 = a + 2 by omega]
    have t3 := t2.st1 (b := a + 2) (by omega) (by omega)
    have s3 := sa_st1 (k := 2) (v := a + 2) s2 ho
    have pf3 := pf2.trans (PF.st1 (v := a + 2) ho)
    refine ⟨fun q => absurd q (by decide), fun _ => ?_⟩
    have hib := idxP_b (m := m) (tx := tx) (a := a + 2) ⟨by omega, by omega⟩
    refine readIndex_w t3 s3 ho hp hN (fun ok i4 pf4 t4 s4 => ?_) (fun ok i4 pf4 t4 => ?_)
    · rw [if_pos ok] at hx
      refine ⟨fun q => absurd q (by decide), fun _ => ?_⟩
      rw [readSign_e t4 (by decide)]
      by_cases c3 : ch m tx (idxP (ch m tx) (a + 2)).a = 93
      · rw [if_pos c3]
        rw [if_pos c3] at hx; subst hx
        have l4 := ch_lt (m := m) (a := (idxP (ch m tx) (a + 2)).a) (tx := tx) (by omega)
        refine ⟨fun q => absurd q (by decide), fun _ => ⟨.inr rfl, ?_⟩⟩
        exact h1 rfl _ ((pf3.trans pf4).trans (PF.st1 ho)) (t4.st1 (by omega) (by omega)) (sa_st1 s4 ho)
      · rw [if_neg c3]
        rw [if_neg c3] at hx; subst hx
        refine ⟨fun _ => ⟨.inl rfl, ?_⟩, fun q => absurd rfl q⟩
        exact h0 rfl _ (pf3.trans pf4) t4
    · rw [if_neg (by rw [ok]; decide)] at hx; subst hx
      refine ⟨fun _ => ⟨.inl rfl, ?_⟩, fun q => absurd rfl q⟩
      exact h0 rfl _ (pf3.trans pf4) t4
  · rw [if_neg c2]
    rw [if_neg c2] at hx; subst hx
    refine ⟨fun _ => ⟨.inl rfl, ?_⟩, fun q => absurd rfl q⟩
    exact h0 rfl _ pf2 t2
theorem readRegister_e {m a o p : Int} {tx : Int → Int} {i r : MI} {Q : Int → MI → Prop} (h : TA m tx i a) (hp : 0 ≤ p ∧ p < 3) : wp_X10_readRegister o p i r Q ↔ (if 97 ≤ ch m tx a ∧ ch m tx a ≤ 104 then Q 1 (st (st (st i 1 2 (a + 1)) (o + 1) p 0) (o + 2) p (ch m tx a - 97)) else Q 0 i) := by
  have := h.b
  unfold wp_X10_readRegister s17_X10_readRegister
  rw [next_e h, h.p, wr_of (by omega) (by omega)]
  by_cases e : 97 ≤ ch m tx a ∧ ch m tx a ≤ 104
  · rw [if_pos e, wr_of (by omega) (by omega)]
    exact ⟨fun q => ((q.2 (by omega)).1 (by omega)).2.2, fun q => ⟨fun z => by omega, fun _ => ⟨fun _ => ⟨hp, hp, q⟩, fun z => by omega⟩⟩⟩
  · rw [if_neg e]
    refine ⟨fun q => ?_, fun q => ⟨fun _ => q, fun _ => ⟨fun _ => by omega, fun _ => q⟩⟩⟩
    by_cases e2 : ch m tx a < 97
    · exact q.1 e2
    · exact (q.2 e2).2 (by omega)
theorem placeNo_w {m a o p : Int} {tx : Int → Int} {i r : MI} {Q : Int → MI → Prop} (h : TA m tx i a) (hc : ¬ (ch m tx a = 77 ∨ ch m tx a = 78)) (hQ : Q 0 i) : wp_X10_readPlace o p i r Q := by
  unfold wp_X10_readPlace
  rw [next_e h]
  refine indexOf_w (by decide) h.ch.1 h.ch.2 ?_
  have hx2 : ixS 2 (ch m tx a) = -1 := by rw [ixS_2]; (repeat' split) <;> omega
  rw [hx2]
  exact ⟨fun q => absurd q (by decide), fun _ => hQ⟩
theorem readOperand_w {m a o p : Int} {tx : Int → Int} {i r : MI} {F N T : Int → Int} {O : Int} {Q : Int → MI → Prop} (h : TA m tx i a) (hs : StmAt i o F N T O) (ho : 9 ≤ o) (hp : 0 ≤ p ∧ p < 3) (hN : N p = 0) (hT : T p = 0)
    (h1 : (partP false (ch m tx) a).ok = true → ∀ i', PF o i i' → TA m tx i' (partP false (ch m tx) a).a → StmAt i' o (iup F p (partP false (ch m tx) a).f) (iup N p (partP false (ch m tx) a).n) (iup T p (partP false (ch m tx) a).t) O → Q 1 i')
    (h0 : (partP false (ch m tx) a).ok = false → ∀ i', PF o i i' → TA m tx i' (partP false (ch m tx) a).a → Q 0 i') : wp_X10_readOperand o p i r Q := by
  have hb := h.b
  have eN : iup N p 0 = N := by rw [← hN, iup_self]
  have eT : iup T p 0 = T := by rw [← hT, iup_self]
  have hl : ∀ c, c ≠ 32 → ch m tx a = c → a + 1 ≤ m := fun c q1 q2 => by have := ch_lt (m := m) (a := a) (tx := tx) (by omega); omega
  unfold wp_X10_readOperand s84_X10_readOperand s89_X10_readOperand
  simp only [readSign_e h (c := 60) (by decide), readSign_e h (c := 105) (by decide), next_e h, isDigit_eq, readRegister_e h hp]
  generalize hx : partP false (ch m tx) a = x at h1 h0
  unfold partP at hx
  by_cases c1 : ch m tx a = 60
  · have hl' := hl _ (by decide) c1
    rw [if_pos c1]
    rw [if_neg (by omega), if_neg (by omega), if_neg (by decide), if_pos c1] at hx; subst hx
    rw [eN, eT] at h1
    exact ⟨fun q => absurd q (by decide), fun _ => ⟨hp, h1 rfl _ ((PF.st1 ho).trans (PF.sto ho (by omega) (by omega))) ((h.st1 (by omega) hl').sto (by omega)) (sa_setF (sa_st1 hs ho))⟩⟩
  rw [if_neg c1]
  refine ⟨fun _ => ?_, fun q => absurd (by trivial) q⟩
  by_cases c2 : ch m tx a = 105
  · have hl' := hl _ (by decide) c2
    rw [if_pos c2]
    rw [if_neg (by omega), if_neg (by omega), if_neg (by decide), if_neg c1, if_pos c2] at hx; subst hx
    rw [eN, eT] at h1
    exact ⟨fun q => absurd q (by decide), fun _ => ⟨hp, h1 rfl _ ((PF.st1 ho).trans (PF.sto ho (by omega) (by omega))) ((h.st1 (by omega) hl').sto (by omega)) (sa_setF (sa_st1 hs ho))⟩⟩
  rw [if_neg c2]
  refine ⟨fun _ => ?_, fun q => absurd (by trivial) q⟩
  refine ⟨fun q => ?_, fun q => ⟨hp, ?_⟩⟩
  · rw [bz_0] at q
    by_cases c3 : 97 ≤ ch m tx a ∧ ch m tx a ≤ 104
    · have hl' := hl _ (by omega) rfl
      rw [if_pos c3]
      rw [if_pos c3] at hx; subst hx
      rw [eT] at h1
      exact ⟨fun q => absurd q (by decide), fun _ => ⟨by simp, h1 rfl _ (((PF.st1 ho).trans (PF.sto ho (by omega) (by omega))).trans (PF.sto ho (by omega) (by omega))) (((h.st1 (by omega) hl').sto (by omega)).sto (by omega)) (sa_setN (sa_setF (sa_st1 hs ho)))⟩⟩
    · rw [if_neg c3]
      rw [if_neg c3] at hx
      refine ⟨fun _ => ?_, fun q => absurd (by trivial) q⟩
      by_cases c4 : ch m tx a = 77 ∨ ch m tx a = 78
      · rw [if_pos c4] at hx; subst hx
        exact readPlace_w h hs ho hp hN c4 (fun ok i' g1 g2 g3 => ⟨fun q => absurd q (by decide), fun _ => ⟨by simp, h1 ok i' g1 g2 g3⟩⟩) (fun ok i' g1 g2 => ⟨fun _ => ⟨by simp, h0 ok i' g1 g2⟩, fun q => absurd (by trivial) q⟩)
      · rw [if_neg c4, if_neg (by decide), if_neg c1, if_neg c2, if_neg (show ¬ dg _ from q)] at hx; subst hx
        exact placeNo_w h c4 ⟨fun _ => ⟨by simp, h0 rfl i (PF.refl o i) h⟩, fun q => absurd (by trivial) q⟩
  · rw [bz_0, Decidable.not_not] at q
    rw [if_neg (by omega), if_neg (by omega), if_neg (by decide), if_neg c1, if_neg c2, if_pos (show dg _ from q)] at hx; subst hx
    have hnb := numP_b (most := 2) hb.1 q
    have t1 := h.sto (o := o + 1) (k := p) (v := 1) (by omega)
    rw [eT] at h1
    exact readNumber_e t1 (.inr rfl) q ⟨hp, h1 rfl _ (((PF.sto ho (by omega) (by omega)).trans (PF.st1 ho)).trans (PF.sto ho (by omega) (by omega))) ((t1.st1 hnb.1 hnb.2).sto (by omega)) (sa_setN (sa_st1 (sa_setF hs) ho))⟩
theorem readTarget_w {m a o : Int} {tx : Int → Int} {i r : MI} {F N T : Int → Int} {O : Int} {Q : Int → MI → Prop} (h : TA m tx i a) (hs : StmAt i o F N T O) (ho : 9 ≤ o) (hN : N 0 = 0) (hT : T 0 = 0)
    (h1 : (partP true (ch m tx) a).ok = true → ∀ i', PF o i i' → TA m tx i' (partP true (ch m tx) a).a → StmAt i' o (iup F 0 (partP true (ch m tx) a).f) (iup N 0 (partP true (ch m tx) a).n) (iup T 0 (partP true (ch m tx) a).t) O → Q 1 i')
    (h0 : (partP true (ch m tx) a).ok = false → ∀ i', PF o i i' → TA m tx i' (partP true (ch m tx) a).a → Q 0 i') : wp_X10_readTarget o i r Q := by
  have hb := h.b
  have hp : (0 : Int) ≤ 0 ∧ (0 : Int) < 3 := by decide
  have eN : iup N 0 0 = N := by conv => rhs; rw [← iup_self (f := N) (p := 0), hN]
  have eT : iup T 0 0 = T := by conv => rhs; rw [← iup_self (f := T) (p := 0), hT]
  have hl : ∀ c, c ≠ 32 → ch m tx a = c → a + 1 ≤ m := fun c q1 q2 => by have := ch_lt (m := m) (a := a) (tx := tx) (by omega); omega
  unfold wp_X10_readTarget s37_X10_readTarget s42_X10_readTarget
  simp only [readSign_e h (c := 62) (by decide), readRegister_e h hp]
  generalize hx : partP true (ch m tx) a = x at h1 h0
  unfold partP at hx
  by_cases c1 : ch m tx a = 62
  · have hl' := hl _ (by decide) c1
    rw [if_pos c1]
    rw [if_neg (by omega), if_neg (by omega), if_pos rfl, if_pos c1] at hx; subst hx
    rw [eN, eT] at h1
    exact ⟨fun q => absurd q (by decide), fun _ => h1 rfl _ ((PF.st1 ho).trans (PF.sto ho (by omega) (by omega))) ((h.st1 (by omega) hl').sto (by omega)) (sa_setF (sa_st1 hs ho))⟩
  rw [if_neg c1]
  refine ⟨fun _ => ?_, fun q => absurd (by trivial) q⟩
  by_cases c3 : 97 ≤ ch m tx a ∧ ch m tx a ≤ 104
  · have hl' := hl _ (by omega) rfl
    rw [if_pos c3]
    rw [if_pos c3] at hx; subst hx
    rw [eT] at h1
    exact ⟨fun q => absurd q (by decide), fun _ => ⟨by simp, h1 rfl _ (((PF.st1 ho).trans (PF.sto ho (by omega) (by omega))).trans (PF.sto ho (by omega) (by omega))) (((h.st1 (by omega) hl').sto (by omega)).sto (by omega)) (sa_setN (sa_setF (sa_st1 hs ho)))⟩⟩
  · rw [if_neg c3]
    rw [if_neg c3] at hx
    refine ⟨fun _ => ?_, fun q => absurd (by trivial) q⟩
    by_cases c4 : ch m tx a = 77 ∨ ch m tx a = 78
    · rw [if_pos c4] at hx; subst hx
      exact readPlace_w h hs ho hp hN c4 (fun ok i' g1 g2 g3 => ⟨fun q => absurd q (by decide), fun _ => ⟨by simp, h1 ok i' g1 g2 g3⟩⟩) (fun ok i' g1 g2 => ⟨fun _ => ⟨by simp, h0 ok i' g1 g2⟩, fun q => absurd (by trivial) q⟩)
    · rw [if_neg c4, if_pos rfl, if_neg c1] at hx; subst hx
      exact placeNo_w h c4 ⟨fun _ => ⟨by simp, h0 rfl i (PF.refl o i) h⟩, fun q => absurd (by trivial) q⟩

abbrev PS : Type := (Int) × (Int → Int) × (Int → Int) × (Int → Int) × (Int)
abbrev PS.e (x0 : PS) : Int := (Prod.fst x0)
abbrev PS.F (x0 : PS) : Int → Int := (Prod.fst (Prod.snd x0))
abbrev PS.N (x0 : PS) : Int → Int := (Prod.fst (Prod.snd (Prod.snd x0)))
abbrev PS.T (x0 : PS) : Int → Int := (Prod.fst (Prod.snd (Prod.snd (Prod.snd x0))))
abbrev PS.O (x0 : PS) : Int := (Prod.snd (Prod.snd (Prod.snd (Prod.snd x0))))
abbrev PS.mk (x0 : Int) (x1 : Int → Int) (x2 : Int → Int) (x3 : Int → Int) (x4 : Int) : PS := (x0, x1, x2, x3, x4)
abbrev isOp (c : Int) : Prop := c = 43 ∨ c = 45 ∨ c = 42 ∨ c = 38 ∨ c = 124 ∨ c = 94 ∨ c = 108
def FN1 : Int → Int := fun _ => -1
def Z0 : Int → Int := fun _ => 0
def psE (e : Int) : PS := ⟨e, FN1, Z0, Z0, 32⟩
def psB (c : Int → Int) (m : Int) (A B : PR) : PS :=
  if B.ok then
    if B.a = m then ⟨-1, iup (iup FN1 0 A.f) 1 B.f, iup (iup Z0 0 A.n) 1 B.n, iup (iup Z0 0 A.t) 1 B.t, 32⟩
    else if isOp (c B.a) then
      if (partP false c (B.a + 1)).ok then
        if (partP false c (B.a + 1)).a = m then ⟨-1, iup (iup (iup FN1 0 A.f) 1 B.f) 2 (partP false c (B.a + 1)).f, iup (iup (iup Z0 0 A.n) 1 B.n) 2 (partP false c (B.a + 1)).n, iup (iup (iup Z0 0 A.t) 1 B.t) 2 (partP false c (B.a + 1)).t, c B.a⟩
        else psE (partP false c (B.a + 1)).a
      else psE (partP false c (B.a + 1)).a
    else psE B.a
  else psE B.a
def parseP (c : Int → Int) (m : Int) : PS :=
  if (partP true c 0).ok then
    if c (partP true c 0).a = 61 then psB c m (partP true c 0) (partP false c ((partP true c 0).a + 1))
    else psE (partP true c 0).a
  else psE (partP true c 0).a
theorem forget_w {o : Int} {i r : MI} {Q : MI → Prop} (ho : 9 ≤ o) (hQ : ∀ i', PF o i i' → (∀ c, i' 1 c = i 1 c) → StmAt i' o FN1 Z0 Z0 32 → Q i') : wp_X8_forget o i r Q := by
  unfold wp_X8_forget
  refine ⟨4, ?_⟩
  have e1 : wr (0 + 1) = 1 := by decide
  have e2 : wr (1 + 1) = 2 := by decide
  have e3 : wr (2 + 1) = 3 := by decide
  simp only [LoopP, b2_X8_forget, e1, e2, e3]
  refine ⟨fun q => absurd q (by decide), fun _ => ⟨by decide, by decide, by decide, fun q => absurd q (by decide), fun _ => ⟨by decide, by decide, by decide, fun q => absurd q (by decide), fun _ => ⟨by decide, by decide, by decide, fun _ => ?_, fun q => absurd q (by decide)⟩⟩⟩⟩
  refine hQ _ ?_ ?_ ?_
  · repeat' (refine PF.trans ?_ (PF.sto ho (by omega) (by omega)))
    exact PF.refl o i
  · intro c
    simp (disch := omega) only [st_row]
  · apply StmAt.mk
    · intro p a b
      have : p = 0 ∨ p = 1 ∨ p = 2 := by omega
      rcases this with rfl | rfl | rfl <;> simp (disch := omega) only [st_row, st_ne, st_eq] <;> rfl
    · intro p a b
      have : p = 0 ∨ p = 1 ∨ p = 2 := by omega
      rcases this with rfl | rfl | rfl <;> simp (disch := omega) only [st_row, st_ne, st_eq] <;> rfl
    · intro p a b
      have : p = 0 ∨ p = 1 ∨ p = 2 := by omega
      rcases this with rfl | rfl | rfl <;> simp (disch := omega) only [st_row, st_ne, st_eq] <;> rfl
    · simp (disch := omega) only [st_row, st_ne, st_eq]
theorem placeP_b {m a : Int} {tx : Int → Int} (ha : 0 ≤ a) (h : ch m tx a ≠ 32) : 0 ≤ (placeP (ch m tx) a).a ∧ (placeP (ch m tx) a).a ≤ m := by
  have l1 : a < m := ch_lt (tx := tx) h
  unfold placeP
  split
  · rename_i c1
    have l2 : a + 1 < m := ch_lt (tx := tx) (by omega)
    have := idxP_b (m := m) (tx := tx) (a := a + 2) ⟨by omega, by omega⟩
    split
    · split
      · rename_i c2
        have l3 := ch_lt (m := m) (a := (idxP (ch m tx) (a + 2)).a) (tx := tx) (by omega)
        dsimp only [PR.ok, PR.a, PR.f, PR.n, PR.t] at *; omega
      · dsimp only [PR.ok, PR.a, PR.f, PR.n, PR.t] at *; omega
    · dsimp only [PR.ok, PR.a, PR.f, PR.n, PR.t] at *; omega
  · dsimp only [PR.ok, PR.a, PR.f, PR.n, PR.t, PS.e, PS.F, PS.N, PS.T, PS.O]; omega
theorem partP_b {m a : Int} {b : Bool} {tx : Int → Int} (ha : 0 ≤ a ∧ a ≤ m) : 0 ≤ (partP b (ch m tx) a).a ∧ (partP b (ch m tx) a).a ≤ m := by
  have hl : ∀ c, c ≠ 32 → ch m tx a = c → a + 1 ≤ m := fun c q1 q2 => by have := ch_lt (m := m) (a := a) (tx := tx) (by omega); omega
  unfold partP
  split
  · have := hl _ (by omega) rfl
    dsimp only [PR.ok, PR.a, PR.f, PR.n, PR.t, PS.e, PS.F, PS.N, PS.T, PS.O]; omega
  split
  · exact placeP_b ha.1 (by omega)
  split
  · split
    · have := hl 62 (by decide) ‹_›
      dsimp only [PR.ok, PR.a, PR.f, PR.n, PR.t, PS.e, PS.F, PS.N, PS.T, PS.O]; omega
    · dsimp only [PR.ok, PR.a, PR.f, PR.n, PR.t, PS.e, PS.F, PS.N, PS.T, PS.O]; omega
  split
  · have := hl 60 (by decide) ‹_›
    dsimp only [PR.ok, PR.a, PR.f, PR.n, PR.t, PS.e, PS.F, PS.N, PS.T, PS.O]; omega
  split
  · have := hl 105 (by decide) ‹_›
    dsimp only [PR.ok, PR.a, PR.f, PR.n, PR.t, PS.e, PS.F, PS.N, PS.T, PS.O]; omega
  split
  · have := numP_b (most := 2) ha.1 ‹_›
    dsimp only [PR.ok, PR.a, PR.f, PR.n, PR.t, PS.e, PS.F, PS.N, PS.T, PS.O]; omega
  · dsimp only [PR.ok, PR.a, PR.f, PR.n, PR.t, PS.e, PS.F, PS.N, PS.T, PS.O]; omega
theorem ixS_1 (p : Int) : 0 ≤ ixS 1 p ↔ isOp p := by
  have := ixS_neg (k := 1) (p := p)
  simp only [chS, List.mem_cons, List.not_mem_nil, or_false] at this
  unfold isOp
  omega
theorem readInto_w {m o : Int} {tx : Int → Int} {i r : MI} {Q : Int → MI → Prop} (hm : 0 ≤ m ∧ m ≤ 24) (hc : i 1 1 = m) (ht : ∀ k, 0 ≤ k → k < m → i 2 k = tx k) (hx : ∀ k, 0 ≤ k → k < m → 0 ≤ tx k ∧ tx k < 65536) (ho : 9 ≤ o)
    (hQ : ∀ i', PF o i i' → ((parseP (ch m tx) m).e = -1 → StmAt i' o (parseP (ch m tx) m).F (parseP (ch m tx) m).N (parseP (ch m tx) m).T (parseP (ch m tx) m).O) → Q (parseP (ch m tx) m).e i') : wp_X10_readInto o i r Q := by
  have h : TA m tx (st i 1 2 0) 0 := ⟨by rw [st_ne (by omega)]; exact hc, by rw [st_row (by omega)]; exact ht, st_eq, ⟨by omega, by omega, by omega⟩, hx⟩
  unfold wp_X10_readInto s78_X10_readInto s74_X10_readInto s79_X10_readInto s92_X10_readInto
  generalize hx : parseP (ch m tx) m = x at hQ
  unfold parseP at hx
  refine forget_w ho (fun i1 p1 q1 s1 => ?_)
  have t1 : TA m tx i1 0 := h.pf ho p1 0 (by omega) (by omega) (by rw [q1]; exact st_eq)
  have p1 := (PF.st1 (i := i) (v := 0) ho).trans p1
  have hno : ∀ i' a', TA m tx i' a' → PF o i i' → x = psE a' → (((0 : Int) = 0 → Q (i' 1 2) i') ∧ (¬ (0 : Int) = 0 → Q (-1) i')) := by
    intro i' a' t p e
    refine ⟨fun _ => ?_, fun q => absurd rfl q⟩
    rw [t.p]
    have := hQ i' p (fun q => by rw [e] at q; have q : a' = -1 := q; have := t.b; omega)
    rw [e] at this
    exact this
  refine readTarget_w t1 s1 ho rfl rfl (fun ok i2 p2 t2 s2 => ⟨fun q => absurd q (by decide), fun _ => ?_⟩) (fun ok i2 p2 t2 => ⟨fun _ => ?_, fun q => absurd rfl q⟩)
  · rw [if_pos ok] at hx
    have p2 := p1.trans p2
    generalize partP true (ch m tx) 0 = A at *
    rw [readSign_e t2 (by decide)]
    by_cases c1 : ch m tx A.a = 61
    · rw [if_pos c1]
      rw [if_pos c1] at hx
      refine ⟨fun q => absurd q (by decide), fun _ => ?_⟩
      have l1 := ch_lt (m := m) (a := A.a) (tx := tx) (by omega)
      have tb2 := t2.b
      have t3 := t2.st1 (b := A.a + 1) (by omega) (by omega)
      have s3 := sa_st1 (k := 2) (v := A.a + 1) s2 ho
      have p3 := p2.trans (PF.st1 (v := A.a + 1) ho)
      unfold psB at hx
      refine readOperand_w t3 s3 ho (by decide) rfl rfl (fun ok i4 p4 t4 s4 => ⟨fun q => absurd q (by decide), fun _ => ?_⟩) (fun ok i4 p4 t4 => ⟨fun _ => ?_, fun q => absurd rfl q⟩)
      · rw [if_pos ok] at hx
        have p4 := p3.trans p4
        generalize partP false (ch m tx) (A.a + 1) = B at *
        rw [t4.p, t4.c]
        refine ⟨fun e => ?_, fun e => ?_⟩
        · rw [if_pos e] at hx; subst hx
          exact ⟨fun q => absurd q (by decide), fun _ => hQ _ p4 (fun _ => s4)⟩
        · rw [if_neg e] at hx
          unfold wp_X10_readOperation
          rw [next_e t4]
          refine indexOf_w (by decide) t4.ch.1 t4.ch.2 ?_
          rw [next_e t4, ixS_1]
          have tb4 := t4.b
          refine ⟨fun c2 => ⟨t4.ch, ?_⟩, fun c2 => ⟨fun _ => ?_, fun q => absurd rfl q⟩⟩
          · refine ⟨fun q => absurd q (by decide), fun _ => ?_⟩
            rw [if_pos c2] at hx
            rw [st_row (by omega), t4.p, wr_of (by omega) (by omega)]
            have l2 : B.a < m := by omega
            have t5 := (t4.sto (o := o) (k := 3) (v := ch m tx B.a) ho).st1 (b := B.a + 1) (by omega) (by omega)
            have s5 := sa_st1 (k := 2) (v := B.a + 1) (sa_setO (v := ch m tx B.a) s4) ho
            have p5 := (p4.trans (PF.sto (a := o) (k := 3) (v := ch m tx B.a) ho (by omega) (by omega))).trans (PF.st1 (v := B.a + 1) ho)
            refine readOperand_w t5 s5 ho (by decide) rfl rfl (fun ok i6 p6 t6 s6 => ⟨fun q => absurd q (by decide), fun _ => ?_⟩) (fun ok i6 p6 t6 => ⟨fun _ => ?_, fun q => absurd rfl q⟩)
            · rw [if_pos ok] at hx
              rw [t6.p, t6.c]
              refine ⟨fun e => ?_, fun e => ?_⟩
              · rw [if_pos e] at hx; subst hx
                exact ⟨fun q => absurd q (by decide), fun _ => hQ _ (p5.trans p6) (fun _ => s6)⟩
              · rw [if_neg e] at hx
                have := hno i6 _ t6 (p5.trans p6) hx.symm
                rw [t6.p] at this
                exact this
            · rw [if_neg (by rw [ok]; decide)] at hx
              have := hno i6 _ t6 (p5.trans p6) hx.symm
              exact this
          · rw [if_neg c2] at hx
            have := hno i4 _ t4 p4 hx.symm
            exact this
      · rw [if_neg (by rw [ok]; decide)] at hx
        exact hno i4 _ t4 (p3.trans p4) hx.symm
    · rw [if_neg c1]
      rw [if_neg c1] at hx
      refine ⟨fun _ => ?_, fun q => absurd rfl q⟩
      exact hno i2 _ t2 p2 hx.symm
  · rw [if_neg (by rw [ok]; decide)] at hx
    exact hno i2 _ t2 (p1.trans p2) hx.symm

/-! ===== what is read is a statement ===== -/
theorem numP_r {c : Int → Int} {a : Int} (h : dg (c a)) : 0 ≤ (numP c a 2).1 ∧ (numP c a 2).1 ≤ 99 := by
  unfold dg at h
  unfold numP
  split <;> dsimp only [PR.ok, PR.a, PR.f, PR.n, PR.t, PS.e, PS.F, PS.N, PS.T, PS.O] <;> omega
theorem idxP_r {c : Int → Int} {a : Int} (ok : (idxP c a).ok = true) : ((idxP c a).t = 0 ∧ 0 ≤ (idxP c a).n ∧ (idxP c a).n ≤ 99) ∨ ((idxP c a).t = 1 ∧ -9 ≤ (idxP c a).n ∧ (idxP c a).n ≤ 9) := by
  revert ok
  unfold idxP
  split
  · split
    · split
      · rename_i h
        unfold dg at h
        intro _
        right
        refine ⟨rfl, ?_⟩
        dsimp only [PR.ok, PR.a, PR.f, PR.n, PR.t, PS.e, PS.F, PS.N, PS.T, PS.O]
        split <;> omega
      · intro q; cases q
    · intro _; right; exact ⟨rfl, (by decide : (-9 : Int) ≤ 0), (by decide : (0 : Int) ≤ 9)⟩
  · split
    · rename_i h
      intro _; left
      exact ⟨rfl, numP_r h⟩
    · intro q; cases q
theorem placeP_r {c : Int → Int} {a : Int} (hc : c a = 77 ∨ c a = 78) (ok : (placeP c a).ok = true) : ((placeP c a).f = 3 ∨ (placeP c a).f = 4) ∧ (((placeP c a).t = 0 ∧ 0 ≤ (placeP c a).n ∧ (placeP c a).n ≤ 99) ∨ ((placeP c a).t = 1 ∧ -9 ≤ (placeP c a).n ∧ (placeP c a).n ≤ 9)) := by
  revert ok
  unfold placeP
  split
  · split
    · split
      · rename_i h _
        intro _
        exact ⟨by dsimp only [PR.ok, PR.a, PR.f, PR.n, PR.t, PS.e, PS.F, PS.N, PS.T, PS.O]; omega, idxP_r h⟩
      · intro q; cases q
    · intro q; cases q
  · intro q; cases q
/-- what a part may be -/
def PK (f n t : Int) : Prop := (f = 3 ∨ f = 4 ∨ t = 0) ∧ ((f = 0 ∧ 0 ≤ n ∧ n ≤ 7) ∨ (f = 1 ∧ 0 ≤ n ∧ n ≤ 99) ∨ f = 2 ∨ f = 5 ∨ f = 6 ∨ ((f = 3 ∨ f = 4) ∧ ((t = 0 ∧ 0 ≤ n ∧ n ≤ 99) ∨ (t = 1 ∧ -9 ≤ n ∧ n ≤ 9))))
theorem SOk.of3 {F N T : Int → Int} {O : Int} (f0 : F 0 = 0 ∨ F 0 = 3 ∨ F 0 = 4 ∨ F 0 = 6) (f1 : 0 ≤ F 1 ∧ F 1 ≤ 5) (f2 : O = 32 ∧ F 2 = -1 ∨ isOp O ∧ 0 ≤ F 2 ∧ F 2 ≤ 5) (h0 : PK (F 0) (N 0) (T 0)) (h1 : PK (F 1) (N 1) (T 1)) (h2 : (F 2 = -1 ∧ T 2 = 0) ∨ PK (F 2) (N 2) (T 2)) : SOk F N T O := by
  unfold PK at h0 h1 h2
  have hp : ∀ p : Int, 0 ≤ p → p < 3 → p = 0 ∨ p = 1 ∨ p = 2 := fun p a b => by omega
  refine ⟨f0, f1, f2, ?_, ?_, ?_, ?_⟩
  · intro p a b; rcases hp p a b with rfl | rfl | rfl <;> omega
  · intro p a b; rcases hp p a b with rfl | rfl | rfl <;> omega
  · intro p a b; rcases hp p a b with rfl | rfl | rfl <;> omega
  · intro p a b; rcases hp p a b with rfl | rfl | rfl <;> omega
def POk (x : PR) : Prop := PK x.f x.n x.t
theorem partP_t {c : Int → Int} {a : Int} (ok : (partP true c a).ok = true) : POk (partP true c a) ∧ ((partP true c a).f = 0 ∨ (partP true c a).f = 3 ∨ (partP true c a).f = 4 ∨ (partP true c a).f = 6) := by
  revert ok
  unfold partP POk PK
  split
  · intro _; dsimp only [PR.ok, PR.a, PR.f, PR.n, PR.t, PS.e, PS.F, PS.N, PS.T, PS.O]; omega
  split
  · rename_i h
    intro ok
    have := placeP_r h ok
    omega
  rw [if_pos rfl]
  split
  · intro _; dsimp only [PR.ok, PR.a, PR.f, PR.n, PR.t, PS.e, PS.F, PS.N, PS.T, PS.O]; omega
  · intro q; cases q
theorem partP_o {c : Int → Int} {a : Int} (ok : (partP false c a).ok = true) : POk (partP false c a) ∧ 0 ≤ (partP false c a).f ∧ (partP false c a).f ≤ 5 := by
  revert ok
  unfold partP POk PK
  split
  · intro _; dsimp only [PR.ok, PR.a, PR.f, PR.n, PR.t, PS.e, PS.F, PS.N, PS.T, PS.O]; omega
  split
  · rename_i h
    intro ok
    have := placeP_r h ok
    omega
  rw [if_neg (by decide)]
  split
  · intro _; dsimp only [PR.ok, PR.a, PR.f, PR.n, PR.t, PS.e, PS.F, PS.N, PS.T, PS.O]; omega
  split
  · intro _; dsimp only [PR.ok, PR.a, PR.f, PR.n, PR.t, PS.e, PS.F, PS.N, PS.T, PS.O]; omega
  split
  · rename_i h
    intro _
    have := numP_r h
    dsimp only [PR.ok, PR.a, PR.f, PR.n, PR.t, PS.e, PS.F, PS.N, PS.T, PS.O]; omega
  · intro q; cases q
theorem psB_ok {c : Int → Int} {m : Int} {A : PR} (hA : POk A ∧ (A.f = 0 ∨ A.f = 3 ∨ A.f = 4 ∨ A.f = 6)) (B : PR) (hB : B.ok = true → POk B ∧ 0 ≤ B.f ∧ B.f ≤ 5) (b1 : 0 ≤ B.a) (b2 : 0 ≤ (partP false c (B.a + 1)).a) (h : (psB c m A B).e = -1) : SOk (psB c m A B).F (psB c m A B).N (psB c m A B).T (psB c m A B).O := by
  revert h
  unfold psB psE
  have i0 : ∀ (f : Int → Int) (a b : Int), iup (iup f 0 a) 1 b 0 = a ∧ iup (iup f 0 a) 1 b 1 = b ∧ iup (iup f 0 a) 1 b 2 = f 2 := fun f a b => ⟨rfl, rfl, rfl⟩
  have i1 : ∀ (f : Int → Int) (a b d : Int), iup (iup (iup f 0 a) 1 b) 2 d 0 = a ∧ iup (iup (iup f 0 a) 1 b) 2 d 1 = b ∧ iup (iup (iup f 0 a) 1 b) 2 d 2 = d := fun f a b d => ⟨rfl, rfl, rfl⟩
  split
  · rename_i okB
    have hB := hB okB
    split
    · intro _
      refine SOk.of3 (F := iup (iup FN1 0 A.f) 1 B.f) (N := iup (iup Z0 0 A.n) 1 B.n) (T := iup (iup Z0 0 A.t) 1 B.t) (O := 32) ?_ ?_ (.inl ⟨rfl, rfl⟩) ?_ ?_ (.inl ⟨rfl, rfl⟩)
      · rw [(i0 _ _ _).1]; exact hA.2
      · rw [(i0 _ _ _).2.1]; exact hB.2
      · rw [(i0 _ _ _).1, (i0 _ _ _).1, (i0 _ _ _).1]; exact hA.1
      · rw [(i0 _ _ _).2.1, (i0 _ _ _).2.1, (i0 _ _ _).2.1]; exact hB.1
    · split
      · rename_i c2
        split
        · rename_i okC
          have hC := partP_o okC
          generalize partP false c (B.a + 1) = C at *
          split
          · intro _
            refine SOk.of3 (F := iup (iup (iup FN1 0 A.f) 1 B.f) 2 C.f) (N := iup (iup (iup Z0 0 A.n) 1 B.n) 2 C.n) (T := iup (iup (iup Z0 0 A.t) 1 B.t) 2 C.t) (O := c B.a) ?_ ?_ (.inr ⟨c2, ?_⟩) ?_ ?_ (.inr ?_)
            · rw [(i1 _ _ _ _).1]; exact hA.2
            · rw [(i1 _ _ _ _).2.1]; exact hB.2
            · rw [(i1 _ _ _ _).2.2]; exact hC.2
            · rw [(i1 _ _ _ _).1, (i1 _ _ _ _).1, (i1 _ _ _ _).1]; exact hA.1
            · rw [(i1 _ _ _ _).2.1, (i1 _ _ _ _).2.1, (i1 _ _ _ _).2.1]; exact hB.1
            · rw [(i1 _ _ _ _).2.2, (i1 _ _ _ _).2.2, (i1 _ _ _ _).2.2]; exact hC.1
          · intro q; exact absurd (show C.a = -1 from q) (by omega)
        · intro q; exact absurd (show (partP false c (B.a + 1)).a = -1 from q) (by omega)
      · intro q; exact absurd (show B.a = -1 from q) (by omega)
  · intro q; exact absurd (show B.a = -1 from q) (by omega)
theorem parse_ok {m : Int} {tx : Int → Int} (hm : 0 ≤ m) (h : (parseP (ch m tx) m).e = -1) : SOk (parseP (ch m tx) m).F (parseP (ch m tx) m).N (parseP (ch m tx) m).T (parseP (ch m tx) m).O := by
  revert h
  have b1 := partP_b (b := true) (m := m) (tx := tx) (a := 0) (by omega)
  unfold parseP
  split
  · rename_i okA
    split
    · rename_i c1
      intro h
      have l1 := ch_lt (m := m) (a := (partP true (ch m tx) 0).a) (tx := tx) (by omega)
      have b2 := partP_b (b := false) (m := m) (tx := tx) (a := (partP true (ch m tx) 0).a + 1) (by omega)
      refine psB_ok (partP_t okA) _ partP_o b2.1 ?_ h
      by_cases e : (partP false (ch m tx) ((partP true (ch m tx) 0).a + 1)).a < m
      · exact (partP_b (b := false) (m := m) (tx := tx) (a := _) (by omega)).1
      · -- behind the end nothing is read
        have e2 : (partP false (ch m tx) ((partP true (ch m tx) 0).a + 1)).a = m := by omega
        rw [e2]
        unfold partP
        have e3 : ch m tx (m + 1) = 32 := by unfold ch; rw [if_neg (by omega)]
        simp only [e3]
        have : ¬ dg 32 := by decide
        simp [this]
        show (0 : Int) ≤ m + 1
        omega
    · intro q; exact absurd (show (partP true (ch m tx) 0).a = -1 from q) (by omega)
  · intro q; exact absurd (show (partP true (ch m tx) 0).a = -1 from q) (by omega)

theorem Lp.r1 {A : Type} {B0 : (A → Prop) → A → Prop} (Inv : A → Prop) (μ : A → Nat) (h : ∀ (a : A) (C : A → Prop), Inv a → (∀ a', Inv a' → μ a' < μ a → C a') → B0 C a) {a : A} (h0 : Inv a) : Lp B0 a := Lp.rule Inv μ h a h0
theorem Lp.r2 {A B : Type} {B0 : (A × B → Prop) → A × B → Prop} (Inv : A → B → Prop) (μ : A → B → Nat) (h : ∀ (a : A) (b : B) (C : A × B → Prop), Inv a b → (∀ a' b', Inv a' b' → μ a' b' < μ a b → C (a', b')) → B0 C (a, b)) {a : A} {b : B} (h0 : Inv a b) : Lp B0 (a, b) :=
  Lp.rule (fun s => Inv s.1 s.2) (fun s => μ s.1 s.2) (fun s C hi hc => h s.1 s.2 C hi (fun a' b' p q => hc (a', b') p q)) (a, b) h0
theorem Lp.r3 {A B D : Type} {B0 : (A × B × D → Prop) → A × B × D → Prop} (Inv : A → B → D → Prop) (μ : A → B → D → Nat) (h : ∀ (a : A) (b : B) (d : D) (C : A × B × D → Prop), Inv a b d → (∀ a' b' d', Inv a' b' d' → μ a' b' d' < μ a b d → C (a', b', d')) → B0 C (a, b, d)) {a : A} {b : B} {d : D} (h0 : Inv a b d) : Lp B0 (a, b, d) :=
  Lp.rule (fun s => Inv s.1 s.2.1 s.2.2) (fun s => μ s.1 s.2.1 s.2.2) (fun s C hi hc => h s.1 s.2.1 s.2.2 C hi (fun a' b' d' p q => hc (a', b', d') p q)) (a, b, d) h0
theorem Lp.r4 {A B D E : Type} {B0 : (A × B × D × E → Prop) → A × B × D × E → Prop} (Inv : A → B → D → E → Prop) (μ : A → B → D → E → Nat) (h : ∀ (a : A) (b : B) (d : D) (e : E) (C : A × B × D × E → Prop), Inv a b d e → (∀ a' b' d' e', Inv a' b' d' e' → μ a' b' d' e' < μ a b d e → C (a', b', d', e')) → B0 C (a, b, d, e)) {a : A} {b : B} {d : D} {e : E} (h0 : Inv a b d e) : Lp B0 (a, b, d, e) :=
  Lp.rule (fun s => Inv s.1 s.2.1 s.2.2.1 s.2.2.2) (fun s => μ s.1 s.2.1 s.2.2.1 s.2.2.2) (fun s C hi hc => h s.1 s.2.1 s.2.2.1 s.2.2.2 C hi (fun a' b' d' e' p q => hc (a', b', d', e') p q)) (a, b, d, e) h0
/-! ===== fault and add ===== -/
/-- what the buffer reads as -/
def psD (D : Dat) : PS := parseP (ch D.many D.tx) D.many
theorem pf_row {o : Int} {i i' : MI} (g : PF o i i') (ho : 9 ≤ o) {a : Int} (h : a < 1 ∨ (1 < a ∧ a < o) ∨ o + 3 < a) : i' a = i a := g.1 a (by omega) (by omega)
theorem ClassP.pf {D : Dat} {i i' r : MI} (h : ClassP D i r) (g : PF (r 3 3) i i') : ClassP D i' r := by
  have h9 := stm_rng h.rf.p
  refine h.congr (g.2 1 (by decide)) ?_ ?_ ?_ ?_ ?_ ?_ ?_ ?_ ?_ rfl rfl
  · exact pf_row g h9.1 (by omega)
  · intro c hc; rw [pf_row g h9.1 (by omega)]
  · exact pf_row g h9.1 (by omega)
  · intro a x y; exact pf_row g h9.1 (by omega)
  · intro a x y z; exact pf_row g h9.1 (by omega)
  · exact pf_row g h9.1 (by omega)
  · exact pf_row g h9.1 (by omega)
  · intro a x y; exact pf_row g h9.1 (by omega)
  · intro a x y; exact pf_row g h9.1 (by omega)
theorem C_fault {D : Dat} {i r : MI} {Q : Int → MI → Prop} (h : ClassP D i r) (ok : DOk D) (hQ : ∀ i', PF (r 3 3) i i' → ClassP D i' r → ((psD D).e = -1 → StmAt i' (r 3 3) (psD D).F (psD D).N (psD D).T (psD D).O) → Q (psD D).e i') : wp_X10_readInto (r 3 3) i r Q :=
  readInto_w ok.many h.many h.tx ok.tx (stm_rng h.rf.p).1 (fun i' g s => hQ i' g (h.pf g) s)
/-- the data with a statement put in a place -/
def putS (D : Dat) (k n : Int) : Dat := (Dat.mk (0) (D.tx) (n) (D.fac) (D.tur) (D.bits) (D.inc) (D.inp) (D.told) (D.un) (D.cy) (fun a => if a = k then (psD D).F else D.F a) (fun a => if a = k then (psD D).N else D.N a) (fun a => if a = k then (psD D).T else D.T a) (fun a => if a = k then (psD D).O else D.O a) (D.ac) (D.ach) (D.apt) (D.dep))
def spAdd (D : Dat) : Int × Int × Dat := if (psD D).e ≠ -1 then (1, 0, D) else if 12 < D.cnt + 1 ∨ 24 < (D.cnt + 1) * D.fac then (2, 0, D) else (0, D.cnt + 1, putS D D.cnt (D.cnt + 1))
theorem put_c {D : Dat} {i i' r : MI} {k n : Int} (h : ClassP D i r) (hs : StmAt i (r 3 3) (psD D).F (psD D).N (psD D).T (psD D).O) (hk : 0 ≤ k ∧ k < n) (hn : (n = D.cnt + 1 ∧ k = D.cnt) ∨ n = D.cnt) (hn12 : n ≤ 12)
    (h1 : i' 1 1 = 0) (h34 : i' 3 4 = n) (h3 : ∀ c, 5 ≤ c → i' 3 c = i 3 c) (hr : ∀ a, 2 ≤ a → a ≠ 3 → a < 504 → i' a = i a) : ClassP (putS D k n) i' (st (st r 4 k (r 3 3)) 3 3 (r 4 k)) := by
  obtain ⟨qs, qp, qd, qdp⟩ := h.rf
  have hc := h.c12
  have e4 : ∀ c, st (st r 4 k (r 3 3)) 3 3 (r 4 k) 4 c = if c = k then r 3 3 else r 4 c := by
    intro c
    rw [st_row (by decide)]
    unfold st
    by_cases e : c = k <;> simp [e]
  have e3 : st (st r 4 k (r 3 3)) 3 3 (r 4 k) 3 3 = r 4 k := st_eq
  apply ClassP.mk
  · exact h1
  · intro a b c; simp only [putS, Dat.k_many] at c; omega
  · exact h34
  · rw [h3 _ (by decide)]; exact h.inc
  · rw [h3 _ (by decide)]; exact h.tur
  · rw [h3 _ (by decide)]; exact h.bits
  · rw [h3 _ (by decide)]; exact h.fac
  · rw [hr _ (by decide) (by decide) (by decide)]; exact h.inp
  · intro m p a b; rw [hr (7 + m) (by omega) (by omega) (by omega)]; exact h.told m p a b
  · rw [hr _ (by decide) (by decide) (by decide)]; exact h.un
  · rw [hr _ (by decide) (by decide) (by decide)]; exact h.cy
  · intro j a b
    have b : j < n := b
    simp only [putS, Dat.k_F, Dat.k_N, Dat.k_T, Dat.k_O]
    rw [e4]
    have g : ∀ o, stm o → ∀ a, o ≤ a → a ≤ o + 3 → i' a = i a := fun o ho a c d => by
      have := stm_rng ho
      exact hr a (by omega) (by omega) (by omega)
    by_cases e : j = k
    · subst e
      simp only [if_pos]
      have g := g _ qp
      exact hs.congr (g _ (by omega) (by omega)) (g _ (by omega) (by omega)) (g _ (by omega) (by omega)) (g _ (by omega) (by omega))
    · simp only [if_neg e]
      have g := g _ (qs j a (by omega))
      exact (h.st j a (by omega)).congr (g _ (by omega) (by omega)) (g _ (by omega) (by omega)) (g _ (by omega) (by omega)) (g _ (by omega) (by omega))
  · rw [hr _ (by decide) (by decide) (by decide)]; exact h.ac
  · intro p k a b; rw [hr (490 + p) (by omega) (by omega) (by omega)]; exact h.ach p k a b
  · intro p k a b; rw [hr (495 + p) (by omega) (by omega) (by omega)]; exact h.apt p k a b
  · rw [hr _ (by decide) (by decide) (by decide)]; exact h.dep
  · apply RefP.mk
    · intro j a b
      rw [e4]
      split
      · exact qp
      · exact qs j a b
    · rw [e3]; exact qs k hk.1 (by omega)
    · intro j l a b c d
      rw [e4, e4]
      have u1 := qdp j a b
      have u2 := qdp l c d
      have u3 := qd j l a b c d
      split <;> split <;> omega
    · intro j a b
      rw [e4, e3]
      have u1 := qdp k hk.1 (by omega)
      have u3 := qd j k a b hk.1 (by omega)
      split
      · exact fun q => u1 q.symm
      · intro q; have := u3 q; omega
  · exact ⟨by show 0 ≤ n; omega, hn12⟩
theorem putS_ok {D : Dat} {k n : Int} (ok : DOk D) (he : (psD D).e = -1) (hk : 0 ≤ k ∧ k < n) (hn : (n = D.cnt + 1 ∧ k = D.cnt) ∨ n = D.cnt) (hn12 : n ≤ 12) (hb : n * D.fac ≤ 24) : DOk (putS D k n) := by
  obtain ⟨a1, a2, a3, a4, a5, a6, a7, a8, a9, a10, a11, a12, a13, a14, a15, a16, a17, a18, a19⟩ := ok
  refine ⟨⟨by show (0:Int) ≤ 0; omega, by show (0:Int) ≤ 24; omega⟩, ?_, ⟨by show 0 ≤ n; omega, hn12⟩, a4, hb, a6, a7, a8, a9, a10, a11, a12, a13, a14, ?_, a16, a17, a18, a19⟩
  · intro a b c; have c : a < 0 := c; omega
  · intro j a b
    have b : j < n := b
    simp only [putS, Dat.k_F, Dat.k_N, Dat.k_T, Dat.k_O]
    by_cases e : j = k
    · subst e
      simp only [if_pos]
      exact parse_ok a1.1 he
    · simp only [if_neg e]
      exact a15 j a (by omega)
theorem spAdd_ok {D : Dat} (ok : DOk D) : DOk (spAdd D).2.2 := by
  unfold spAdd
  have hc := ok.cnt
  split
  · exact ok
  · split
    · exact ok
    · rename_i h1 h2
      exact putS_ok ok (by omega) (by omega) (by omega) (by omega) (by omega)
/-- after a call of the class that may change the statements -/
def Cr (s : Int × Int × Dat) (i i' r r' : MI) (md co : Int) : Prop := (ClassP s.2.2 i' r') ∧ (Kp i i') ∧ (∀ a, 504 ≤ a → a ≠ 540 → i' a = i a) ∧ (s.1 = 0 → i' 0 9 = md ∧ i' 0 10 = co) ∧ (s.1 ≠ 0 → i' 0 = i 0 ∧ r' = r) ∧ (s.1 = 0 → i' 540 0 = jLo ((sJ s.2.1).toInt64) ∧ i' 540 1 = jHi ((sJ s.2.1).toInt64)) ∧ (∀ a, a ≠ 3 → a ≠ 4 → r' a = r a)
theorem Cr.p {s : Int × Int × Dat} {i i' r r' : MI} {md co : Int} (h0 : Cr s i i' r r' md co) : ClassP s.2.2 i' r' := h0.1
theorem Cr.k {s : Int × Int × Dat} {i i' r r' : MI} {md co : Int} (h0 : Cr s i i' r r' md co) : Kp i i' := h0.2.1
theorem Cr.f {s : Int × Int × Dat} {i i' r r' : MI} {md co : Int} (h0 : Cr s i i' r r' md co) : ∀ a, 504 ≤ a → a ≠ 540 → i' a = i a := h0.2.2.1
theorem Cr.m {s : Int × Int × Dat} {i i' r r' : MI} {md co : Int} (h0 : Cr s i i' r r' md co) : s.1 = 0 → i' 0 9 = md ∧ i' 0 10 = co := h0.2.2.2.1
theorem Cr.m' {s : Int × Int × Dat} {i i' r r' : MI} {md co : Int} (h0 : Cr s i i' r r' md co) : s.1 ≠ 0 → i' 0 = i 0 ∧ r' = r := h0.2.2.2.2.1
theorem Cr.out {s : Int × Int × Dat} {i i' r r' : MI} {md co : Int} (h0 : Cr s i i' r r' md co) : s.1 = 0 → i' 540 0 = jLo ((sJ s.2.1).toInt64) ∧ i' 540 1 = jHi ((sJ s.2.1).toInt64) := h0.2.2.2.2.2.1
theorem Cr.r {s : Int × Int × Dat} {i i' r r' : MI} {md co : Int} (h0 : Cr s i i' r r' md co) : ∀ a, a ≠ 3 → a ≠ 4 → r' a = r a := h0.2.2.2.2.2.2
theorem Cr.mk {s : Int × Int × Dat} {i i' r r' : MI} {md co : Int} (h0 : ClassP s.2.2 i' r') (h1 : Kp i i') (h2 : ∀ a, 504 ≤ a → a ≠ 540 → i' a = i a) (h3 : s.1 = 0 → i' 0 9 = md ∧ i' 0 10 = co) (h4 : s.1 ≠ 0 → i' 0 = i 0 ∧ r' = r) (h5 : s.1 = 0 → i' 540 0 = jLo ((sJ s.2.1).toInt64) ∧ i' 540 1 = jHi ((sJ s.2.1).toInt64)) (h6 : ∀ a, a ≠ 3 → a ≠ 4 → r' a = r a) : Cr s i i' r r' md co := ⟨h0, h1, h2, h3, h4, h5, h6⟩
theorem Cr.exc {D : Dat} {c : Int} {i i' r : MI} {md co : Int} (h : ClassP D i' r) (g : PF (r 3 3) i i') (hc : c ≠ 0) : Cr (c, 0, D) i i' r r md co := by
  have h9 := stm_rng h.rf.p
  refine ⟨h, fun a q => pf_row g h9.1 (by omega), fun a q _ => pf_row g h9.1 (by omega), fun q => absurd q hc, fun _ => ⟨pf_row g h9.1 (by omega), rfl⟩, fun q => absurd q hc, fun _ _ _ => rfl⟩
