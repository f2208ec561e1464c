def iup (f : Int → Int) (p v : Int) : Int → Int := fun k => if k = p then v else f k
theorem iup_self {f : Int → Int} {p : Int} : iup f p (f p) = f := by funext k; unfold iup; split <;> simp_all
theorem sa_st1 {i : MI} {o k v : Int} {F N T : Int → Int} {O : Int} (h : StmAt i o F N T O) (ho : 9 ≤ o) : StmAt (st i 1 k v) o F N T O := h.st' (by omega)
theorem sa_setF {i : MI} {o p v : Int} {F N T : Int → Int} {O : Int} (h : StmAt i o F N T O) : StmAt (st i (o + 1) p v) o (iup F p v) N T O := by
  apply StmAt.mk
  · intro q a b
    have := h.f q a b
    unfold iup Pilot.CSchedularyLaw_law_r7114_237193.st
    grind
  · rw [st_row (by omega)]; exact h.n
  · rw [st_row (by omega)]; exact h.t
  · rw [st_row (by omega)]; exact h.o
theorem sa_setN {i : MI} {o p v : Int} {F N T : Int → Int} {O : Int} (h : StmAt i o F N T O) : StmAt (st i (o + 2) p v) o F (iup N p v) T O := by
  apply StmAt.mk
  · rw [st_row (by omega)]; exact h.f
  · intro q a b
    have := h.n q a b
    unfold iup Pilot.CSchedularyLaw_law_r7114_237193.st
    grind
  · rw [st_row (by omega)]; exact h.t
  · rw [st_row (by omega)]; exact h.o
theorem sa_setT {i : MI} {o p v : Int} {F N T : Int → Int} {O : Int} (h : StmAt i o F N T O) : StmAt (st i (o + 3) p v) o F N (iup T p v) O := by
  apply StmAt.mk
  · rw [st_row (by omega)]; exact h.f
  · rw [st_row (by omega)]; exact h.n
  · intro q a b
    have := h.t q a b
    unfold iup Pilot.CSchedularyLaw_law_r7114_237193.st
    grind
  · rw [st_row (by omega)]; exact h.o
theorem sa_setO {i : MI} {o v : Int} {F N T : Int → Int} {O : Int} (h : StmAt i o F N T O) : StmAt (st i o 3 v) o F N T v := by
  apply StmAt.mk
  · rw [st_row (by omega)]; exact h.f
  · rw [st_row (by omega)]; exact h.n
  · rw [st_row (by omega)]; exact h.t
  · exact st_eq
abbrev PR : Type := (Bool) × (Int) × (Int) × (Int) × (Int)
abbrev PR.ok (x0 : PR) : Bool := (Prod.fst x0)
abbrev PR.a (x0 : PR) : Int := (Prod.fst (Prod.snd x0))
abbrev PR.f (x0 : PR) : Int := (Prod.fst (Prod.snd (Prod.snd x0)))
abbrev PR.n (x0 : PR) : Int := (Prod.fst (Prod.snd (Prod.snd (Prod.snd x0))))
abbrev PR.t (x0 : PR) : Int := (Prod.snd (Prod.snd (Prod.snd (Prod.snd x0))))
abbrev PR.mk (x0 : Bool) (x1 : Int) (x2 : Int) (x3 : Int) (x4 : Int) : PR := (x0, x1, x2, x3, x4)
abbrev dg (c : Int) : Prop := 48 ≤ c ∧ c ≤ 57
def idxP (c : Int → Int) (a : Int) : PR :=
  if c a = 105 then
    if c (a + 1) = 45 ∨ c (a + 1) = 43 then
      if dg (c (a + 2)) then ⟨true, a + 3, 0, if c (a + 1) = 45 then -(c (a + 2) - 48) else c (a + 2) - 48, 1⟩ else ⟨false, a + 2, 0, 0, 0⟩
    else ⟨true, a + 1, 0, 0, 1⟩
  else if dg (c a) then ⟨true, (numP c a 2).2, 0, (numP c a 2).1, 0⟩ else ⟨false, a, 0, 0, 0⟩
def placeP (c : Int → Int) (a : Int) : PR :=
  if c (a + 1) = 91 then
    if (idxP c (a + 2)).ok then
      if c (idxP c (a + 2)).a = 93 then ⟨true, (idxP c (a + 2)).a + 1, c a - 74, (idxP c (a + 2)).n, (idxP c (a + 2)).t⟩ else ⟨false, (idxP c (a + 2)).a, 0, 0, 0⟩
    else ⟨false, (idxP c (a + 2)).a, 0, 0, 0⟩
  else ⟨false, a + 1, 0, 0, 0⟩
def partP (tgt : Bool) (c : Int → Int) (a : Int) : PR :=
  if 97 ≤ c a ∧ c a ≤ 104 then ⟨true, a + 1, 0, c a - 97, 0⟩
  else if c a = 77 ∨ c a = 78 then placeP c a
  else if tgt then (if c a = 62 then ⟨true, a + 1, 6, 0, 0⟩ else ⟨false, a, 0, 0, 0⟩)
  else if c a = 60 then ⟨true, a + 1, 5, 0, 0⟩
  else if c a = 105 then ⟨true, a + 1, 2, 0, 0⟩
  else if dg (c a) then ⟨true, (numP c a 2).2, 1, (numP c a 2).1, 0⟩
  else ⟨false, a, 0, 0, 0⟩
theorem numP_b {m a most : Int} {tx : Int → Int} (ha : 0 ≤ a) (hd : dg (ch m tx a)) : 0 ≤ (numP (ch m tx) a most).2 ∧ (numP (ch m tx) a most).2 ≤ m := by
  unfold dg at hd
  have h1 : a < m := ch_lt (tx := tx) (by omega)
  unfold numP
  split
  · have h2 : a + 1 < m := ch_lt (tx := tx) (by omega)
    dsimp only [PR.ok, PR.a, PR.f, PR.n, PR.t]; omega
  · dsimp only [PR.ok, PR.a, PR.f, PR.n, PR.t]; omega
theorem st_st {i : MI} {o k v w : Int} : st (st i o k v) o k w = st i o k w := by
  funext x y; unfold st; split <;> rfl
theorem readIndex_w {m a o p : Int} {tx : Int → Int} {i r : MI} {F N T : Int → Int} {O : Int} {Q : Int → MI → Prop} (h : TA m tx i a) (hs : StmAt i o F N T O) (ho : 9 ≤ o) (hp : 0 ≤ p ∧ p < 3) (hN : N p = 0)
    (h1 : (idxP (ch m tx) a).ok = true → ∀ i', PF o i i' → TA m tx i' (idxP (ch m tx) a).a → StmAt i' o F (iup N p (idxP (ch m tx) a).n) (iup T p (idxP (ch m tx) a).t) O → Q 1 i')
    (h0 : (idxP (ch m tx) a).ok = false → ∀ i', PF o i i' → TA m tx i' (idxP (ch m tx) a).a → Q 0 i') : wp_X10_readIndex o p i r Q := by
  have hb := h.b
  unfold wp_X10_readIndex
  rw [readSign_e h (by decide)]
  generalize hx : idxP (ch m tx) a = x at h1 h0
  unfold idxP at hx
  have pf0 : ∀ v, PF o i (st i (o + 3) p v) := fun v => PF.sto ho (by omega) (by omega)
  by_cases c1 : ch m tx a = 105
  · rw [if_pos c1]
    rw [if_pos c1] at hx
    have l1 : a < m := ch_lt (tx := tx) (by omega)
    have t1 := h.st1 (b := a + 1) (by omega) (by omega)
    have t2 := t1.sto (o := o + 3) (k := p) (v := 1) (by omega)
    have s1 := sa_setT (p := p) (v := 1) (sa_st1 (k := 2) (v := a + 1) hs ho)
    have pf1 : PF o i (st i 1 2 (a + 1)) := PF.st1 ho
    have pf2 : PF o i (st (st i 1 2 (a + 1)) (o + 3) p 1) := pf1.trans (PF.sto ho (by omega) (by omega))
    refine ⟨hp, .inr rfl, fun q => absurd q (by decide), fun _ => ?_⟩
    rw [readSign_e t2 (by decide)]
    have key : ∀ x4 : Int, ∀ i2, (ch m tx (a + 1) = 45 ∨ ch m tx (a + 1) = 43) → (x4 = 0 ↔ ch m tx (a + 1) ≠ 45) → i2 = st (st (st i 1 2 (a + 1)) (o + 3) p 1) 1 2 (a + 2) → s54_X10_readIndex o p 1 x4 i2 r Q := by
      intro x4 i2 c2 hx4 hi2
      rw [if_pos c2] at hx
      have l2 : a + 1 < m := ch_lt (tx := tx) (by omega)
      have t3 := t2.st1 (b := a + 2) (by omega) (by omega)
      have s3 := sa_st1 (k := 2) (v := a + 2) s1 ho
      have pf3 := pf2.trans (PF.st1 (v := a + 2) ho)
      rw [← hi2] at t3 s3 pf3
      unfold s54_X10_readIndex s76_X10_readIndex s99_X10_readIndex
      rw [next_e t3, isDigit_eq]
      refine ⟨fun q => ?_, fun q => ⟨fun q2 => absurd q2 (by decide), fun _ => ?_⟩⟩
      · rw [bz_0] at q
        rw [if_neg (show ¬ dg _ from q)] at hx; subst hx
        exact h0 rfl _ pf3 t3
      · rw [bz_0, Decidable.not_not] at q
        rw [if_pos (show dg _ from q)] at hx; subst hx
        have l3 : a + 2 < m := ch_lt (tx := tx) (by omega)
        refine readNumber_e t3 (.inl rfl) q ?_
        have e : numP (ch m tx) (a + 2) 1 = (ch m tx (a + 2) - 48, a + 3) := by unfold numP; rw [if_neg (by omega), show a + 2 + 1 = a + 3 by omega]
        rw [e]
        have t4 := t3.st1 (b := a + 3) (by omega) (by omega)
        have s4 := sa_st1 (k := 2) (v := a + 3) s3 ho
        have pf4 := pf3.trans (PF.st1 (v := a + 3) ho)
        dsimp only [PR.ok, PR.a, PR.f, PR.n, PR.t]
        refine ⟨fun q2 => ⟨hp, ?_⟩, fun q2 => ⟨hp, ?_⟩⟩
        · rw [if_neg (by omega)] at h1
          exact h1 rfl _ (pf4.trans (PF.sto ho (by omega) (by omega))) (t4.sto (by omega)) (sa_setN s4)
        · rw [if_pos (by omega)] at h1
          rw [wr_of (by omega) (by omega)]
          exact h1 rfl _ (pf4.trans (PF.sto ho (by omega) (by omega))) (t4.sto (by omega)) (sa_setN s4)
    by_cases c2 : ch m tx (a + 1) = 45
    · rw [if_pos c2]
      refine ⟨fun q => absurd q (by decide), fun _ => ?_⟩
      unfold s32_X10_readIndex
      exact ⟨fun q => absurd q (by decide), fun _ => ⟨fun q => absurd q (by decide), fun _ => key 1 _ (.inl c2) (by omega) (by rw [show a + 1 + 1 = a + 2 by omega])⟩⟩
    · rw [if_neg c2]
      refine ⟨fun _ => ?_, fun q => absurd rfl q⟩
      unfold s31_X10_readIndex s32_X10_readIndex
      refine ⟨fun q => absurd q (by decide), fun _ => ⟨fun _ => ?_, fun q => absurd rfl q⟩⟩
      rw [readSign_e t2 (by decide)]
      by_cases c3 : ch m tx (a + 1) = 43
      · rw [if_pos c3]
        refine ⟨fun q => absurd q (by decide), fun _ => key 0 _ (.inr c3) (by omega) (by rw [show a + 1 + 1 = a + 2 by omega])⟩
      · rw [if_neg c3]
        refine ⟨fun _ => ?_, fun q => absurd rfl q⟩
        rw [if_neg (by omega)] at hx; subst hx
        refine h1 rfl _ pf2 t2 ?_
        rw [← hN, iup_self]
        exact s1
  · rw [if_neg c1]
    rw [if_neg c1] at hx
    have t2 := h.sto (o := o + 3) (k := p) (v := 0) (by omega)
    have s1 := sa_setT (p := p) (v := 0) hs
    refine ⟨hp, .inl rfl, fun _ => ?_, fun q => absurd rfl q⟩
    unfold s31_X10_readIndex s32_X10_readIndex s54_X10_readIndex s76_X10_readIndex s99_X10_readIndex
    refine ⟨fun _ => ?_, fun q => absurd rfl q⟩
    rw [next_e t2, isDigit_eq]
    refine ⟨fun q => ?_, fun q => ⟨fun _ => ?_, fun q2 => absurd rfl q2⟩⟩
    · rw [bz_0] at q
      rw [if_neg (show ¬ dg _ from q)] at hx; subst hx
      exact h0 rfl _ (pf0 0) t2
    · rw [bz_0, Decidable.not_not] at q
      rw [if_pos (show dg _ from q)] at hx; subst hx
      refine readNumber_e t2 (.inr rfl) q ?_
      have hnb := numP_b (most := 2) hb.1 q
      refine ⟨fun _ => ⟨hp, ?_⟩, fun q2 => absurd rfl q2⟩
      exact h1 rfl _ (((pf0 0).trans (PF.st1 ho)).trans (PF.sto ho (by omega) (by omega))) ((t2.st1 hnb.1 hnb.2).sto (by omega)) (sa_setN (sa_st1 s1 ho))
theorem idxP_b {m a : Int} {tx : Int → Int} (ha : 0 ≤ a ∧ a ≤ m) : 0 ≤ (idxP (ch m tx) a).a ∧ (idxP (ch m tx) a).a ≤ m := by
  unfold idxP
  split
  · rename_i c1
    have l1 : a < m := ch_lt (tx := tx) (by omega)
    split
    · rename_i c2
      have l2 : a + 1 < m := ch_lt (tx := tx) (by omega)
      split
      · rename_i c3
        unfold dg at c3
        have l3 : a + 2 < m := ch_lt (tx := tx) (by omega)
        dsimp only [PR.ok, PR.a, PR.f, PR.n, PR.t]; omega
      · dsimp only [PR.ok, PR.a, PR.f, PR.n, PR.t]; omega
    · dsimp only [PR.ok, PR.a, PR.f, PR.n, PR.t]; omega
  · split
    · rename_i c1
      have := numP_b (most := 2) ha.1 c1
      dsimp only [PR.ok, PR.a, PR.f, PR.n, PR.t]; omega
    · dsimp only [PR.ok, PR.a, PR.f, PR.n, PR.t]; omega
theorem readPlace_w {m a o p : Int} {tx : Int → Int} {i r : MI} {F N T : Int → Int} {O : Int} {Q : Int → MI → Prop} (h : TA m tx i a) (hs : StmAt i o F N T O) (ho : 9 ≤ o) (hp : 0 ≤ p ∧ p < 3) (hN : N p = 0)
    (hc : ch m tx a = 77 ∨ ch m tx a = 78)
    (h1 : (placeP (ch m tx) a).ok = true → ∀ i', PF o i i' → TA m tx i' (placeP (ch m tx) a).a → StmAt i' o (iup F p (placeP (ch m tx) a).f) (iup N p (placeP (ch m tx) a).n) (iup T p (placeP (ch m tx) a).t) O → Q 1 i')
    (h0 : (placeP (ch m tx) a).ok = false → ∀ i', PF o i i' → TA m tx i' (placeP (ch m tx) a).a → Q 0 i') : wp_X10_readPlace o p i r Q := by
  have hb := h.b
  unfold wp_X10_readPlace
  rw [next_e h]
  have l1 : a < m := ch_lt (tx := tx) (by omega)
  refine indexOf_w (by decide) h.ch.1 h.ch.2 ?_
  have hx2 : ixS 2 (ch m tx a) = ch m tx a - 77 := by rw [ixS_2]; (repeat' split) <;> omega
  rw [hx2]
  refine ⟨fun _ => ⟨hp, ?_⟩, fun q => absurd q (by omega)⟩
  rw [h.p, wr_of (by omega) (by omega), wr_of (x := 3 + _) (by omega) (by omega), show 3 + (ch m tx a - 77) = ch m tx a - 74 by omega]
  generalize hx : placeP (ch m tx) a = x at h1 h0
  unfold placeP at hx
  have t1 := h.st1 (b := a + 1) (by omega) (by omega)
  have t2 := t1.sto (o := o + 1) (k := p) (v := ch m tx a - 74) (by omega)
  have s2 := sa_setF (p := p) (v := ch m tx a - 74) (sa_st1 (k := 2) (v := a + 1) hs ho)
  have pf2 : PF o i (st (st i 1 2 (a + 1)) (o + 1) p (ch m tx a - 74)) := (PF.st1 ho).trans (PF.sto ho (by omega) (by omega))
  unfold s66_X10_readPlace s67_X10_readPlace
  rw [readSign_e t2 (by decide)]
  by_cases c2 : ch m tx (a + 1) = 91
  · rw [if_pos c2]
    rw [if_pos c2] at hx
    have l2 : a + 1 < m := ch_lt (tx := tx) (by omega)
    rw [show a + 1 + 1 = a + 2 by omega]
    have t3 := t2.st1 (b := a + 2) (by omega) (by omega)
    have s3 := sa_st1 (k := 2) (v := a + 2) s2 ho
    have pf3 := pf2.trans (PF.st1 (v := a + 2) ho)
    refine ⟨fun q => absurd q (by decide), fun _ => ?_⟩
    have hib := idxP_b (m := m) (tx := tx) (a := a + 2) ⟨by omega, by omega⟩
    refine readIndex_w t3 s3 ho hp hN (fun ok i4 pf4 t4 s4 => ?_) (fun ok i4 pf4 t4 => ?_)
    · rw [if_pos ok] at hx
      refine ⟨fun q => absurd q (by decide), fun _ => ?_⟩
      rw [readSign_e t4 (by decide)]
      by_cases c3 : ch m tx (idxP (ch m tx) (a + 2)).a = 93
      · rw [if_pos c3]
        rw [if_pos c3] at hx; subst hx
        have l4 := ch_lt (m := m) (a := (idxP (ch m tx) (a + 2)).a) (tx := tx) (by omega)
        refine ⟨fun q => absurd q (by decide), fun _ => ⟨.inr rfl, ?_⟩⟩
        exact h1 rfl _ ((pf3.trans pf4).trans (PF.st1 ho)) (t4.st1 (by omega) (by omega)) (sa_st1 s4 ho)
      · rw [if_neg c3]
        rw [if_neg c3] at hx; subst hx
        refine ⟨fun _ => ⟨.inl rfl, ?_⟩, fun q => absurd rfl q⟩
        exact h0 rfl _ (pf3.trans pf4) t4
    · rw [if_neg (by rw [ok]; decide)] at hx; subst hx
      refine ⟨fun _ => ⟨.inl rfl, ?_⟩, fun q => absurd rfl q⟩
      exact h0 rfl _ (pf3.trans pf4) t4
  · rw [if_neg c2]
    rw [if_neg c2] at hx; subst hx
    refine ⟨fun _ => ⟨.inl rfl, ?_⟩, fun q => absurd rfl q⟩
    exact h0 rfl _ pf2 t2
theorem readRegister_e {m a o p : Int} {tx : Int → Int} {i r : MI} {Q : Int → MI → Prop} (h : TA m tx i a) (hp : 0 ≤ p ∧ p < 3) : wp_X10_readRegister o p i r Q ↔ (if 97 ≤ ch m tx a ∧ ch m tx a ≤ 104 then Q 1 (st (st (st i 1 2 (a + 1)) (o + 1) p 0) (o + 2) p (ch m tx a - 97)) else Q 0 i) := by
  have := h.b
  unfold wp_X10_readRegister s17_X10_readRegister
  rw [next_e h, h.p, wr_of (by omega) (by omega)]
  by_cases e : 97 ≤ ch m tx a ∧ ch m tx a ≤ 104
  · rw [if_pos e, wr_of (by omega) (by omega)]
    exact ⟨fun q => ((q.2 (by omega)).1 (by omega)).2.2, fun q => ⟨fun z => by omega, fun _ => ⟨fun _ => ⟨hp, hp, q⟩, fun z => by omega⟩⟩⟩
  · rw [if_neg e]
    refine ⟨fun q => ?_, fun q => ⟨fun _ => q, fun _ => ⟨fun _ => by omega, fun _ => q⟩⟩⟩
    by_cases e2 : ch m tx a < 97
    · exact q.1 e2
    · exact (q.2 e2).2 (by omega)
theorem placeNo_w {m a o p : Int} {tx : Int → Int} {i r : MI} {Q : Int → MI → Prop} (h : TA m tx i a) (hc : ¬ (ch m tx a = 77 ∨ ch m tx a = 78)) (hQ : Q 0 i) : wp_X10_readPlace o p i r Q := by
  unfold wp_X10_readPlace
  rw [next_e h]
  refine indexOf_w (by decide) h.ch.1 h.ch.2 ?_
  have hx2 : ixS 2 (ch m tx a) = -1 := by rw [ixS_2]; (repeat' split) <;> omega
  rw [hx2]
  exact ⟨fun q => absurd q (by decide), fun _ => hQ⟩
theorem readOperand_w {m a o p : Int} {tx : Int → Int} {i r : MI} {F N T : Int → Int} {O : Int} {Q : Int → MI → Prop} (h : TA m tx i a) (hs : StmAt i o F N T O) (ho : 9 ≤ o) (hp : 0 ≤ p ∧ p < 3) (hN : N p = 0) (hT : T p = 0)
    (h1 : (partP false (ch m tx) a).ok = true → ∀ i', PF o i i' → TA m tx i' (partP false (ch m tx) a).a → StmAt i' o (iup F p (partP false (ch m tx) a).f) (iup N p (partP false (ch m tx) a).n) (iup T p (partP false (ch m tx) a).t) O → Q 1 i')
    (h0 : (partP false (ch m tx) a).ok = false → ∀ i', PF o i i' → TA m tx i' (partP false (ch m tx) a).a → Q 0 i') : wp_X10_readOperand o p i r Q := by
  have hb := h.b
  have eN : iup N p 0 = N := by rw [← hN, iup_self]
  have eT : iup T p 0 = T := by rw [← hT, iup_self]
  have hl : ∀ c, c ≠ 32 → ch m tx a = c → a + 1 ≤ m := fun c q1 q2 => by have := ch_lt (m := m) (a := a) (tx := tx) (by omega); omega
  unfold wp_X10_readOperand s84_X10_readOperand s89_X10_readOperand
  simp only [readSign_e h (c := 60) (by decide), readSign_e h (c := 105) (by decide), next_e h, isDigit_eq, readRegister_e h hp]
  generalize hx : partP false (ch m tx) a = x at h1 h0
  unfold partP at hx
  by_cases c1 : ch m tx a = 60
  · have hl' := hl _ (by decide) c1
    rw [if_pos c1]
    rw [if_neg (by omega), if_neg (by omega), if_neg (by decide), if_pos c1] at hx; subst hx
    rw [eN, eT] at h1
    exact ⟨fun q => absurd q (by decide), fun _ => ⟨hp, h1 rfl _ ((PF.st1 ho).trans (PF.sto ho (by omega) (by omega))) ((h.st1 (by omega) hl').sto (by omega)) (sa_setF (sa_st1 hs ho))⟩⟩
  rw [if_neg c1]
  refine ⟨fun _ => ?_, fun q => absurd (by trivial) q⟩
  by_cases c2 : ch m tx a = 105
  · have hl' := hl _ (by decide) c2
    rw [if_pos c2]
    rw [if_neg (by omega), if_neg (by omega), if_neg (by decide), if_neg c1, if_pos c2] at hx; subst hx
    rw [eN, eT] at h1
    exact ⟨fun q => absurd q (by decide), fun _ => ⟨hp, h1 rfl _ ((PF.st1 ho).trans (PF.sto ho (by omega) (by omega))) ((h.st1 (by omega) hl').sto (by omega)) (sa_setF (sa_st1 hs ho))⟩⟩
  rw [if_neg c2]
  refine ⟨fun _ => ?_, fun q => absurd (by trivial) q⟩
  refine ⟨fun q => ?_, fun q => ⟨hp, ?_⟩⟩
  · rw [bz_0] at q
    by_cases c3 : 97 ≤ ch m tx a ∧ ch m tx a ≤ 104
    · have hl' := hl _ (by omega) rfl
      rw [if_pos c3]
      rw [if_pos c3] at hx; subst hx
      rw [eT] at h1
      exact ⟨fun q => absurd q (by decide), fun _ => ⟨by simp, h1 rfl _ (((PF.st1 ho).trans (PF.sto ho (by omega) (by omega))).trans (PF.sto ho (by omega) (by omega))) (((h.st1 (by omega) hl').sto (by omega)).sto (by omega)) (sa_setN (sa_setF (sa_st1 hs ho)))⟩⟩
    · rw [if_neg c3]
      rw [if_neg c3] at hx
      refine ⟨fun _ => ?_, fun q => absurd (by trivial) q⟩
      by_cases c4 : ch m tx a = 77 ∨ ch m tx a = 78
      · rw [if_pos c4] at hx; subst hx
        exact readPlace_w h hs ho hp hN c4 (fun ok i' g1 g2 g3 => ⟨fun q => absurd q (by decide), fun _ => ⟨by simp, h1 ok i' g1 g2 g3⟩⟩) (fun ok i' g1 g2 => ⟨fun _ => ⟨by simp, h0 ok i' g1 g2⟩, fun q => absurd (by trivial) q⟩)
      · rw [if_neg c4, if_neg (by decide), if_neg c1, if_neg c2, if_neg (show ¬ dg _ from q)] at hx; subst hx
        exact placeNo_w h c4 ⟨fun _ => ⟨by simp, h0 rfl i (PF.refl o i) h⟩, fun q => absurd (by trivial) q⟩
  · rw [bz_0, Decidable.not_not] at q
    rw [if_neg (by omega), if_neg (by omega), if_neg (by decide), if_neg c1, if_neg c2, if_pos (show dg _ from q)] at hx; subst hx
    have hnb := numP_b (most := 2) hb.1 q
    have t1 := h.sto (o := o + 1) (k := p) (v := 1) (by omega)
    rw [eT] at h1
    exact readNumber_e t1 (.inr rfl) q ⟨hp, h1 rfl _ (((PF.sto ho (by omega) (by omega)).trans (PF.st1 ho)).trans (PF.sto ho (by omega) (by omega))) ((t1.st1 hnb.1 hnb.2).sto (by omega)) (sa_setN (sa_st1 (sa_setF hs) ho))⟩
theorem readTarget_w {m a o : Int} {tx : Int → Int} {i r : MI} {F N T : Int → Int} {O : Int} {Q : Int → MI → Prop} (h : TA m tx i a) (hs : StmAt i o F N T O) (ho : 9 ≤ o) (hN : N 0 = 0) (hT : T 0 = 0)
    (h1 : (partP true (ch m tx) a).ok = true → ∀ i', PF o i i' → TA m tx i' (partP true (ch m tx) a).a → StmAt i' o (iup F 0 (partP true (ch m tx) a).f) (iup N 0 (partP true (ch m tx) a).n) (iup T 0 (partP true (ch m tx) a).t) O → Q 1 i')
    (h0 : (partP true (ch m tx) a).ok = false → ∀ i', PF o i i' → TA m tx i' (partP true (ch m tx) a).a → Q 0 i') : wp_X10_readTarget o i r Q := by
  have hb := h.b
  have hp : (0 : Int) ≤ 0 ∧ (0 : Int) < 3 := by decide
  have eN : iup N 0 0 = N := by conv => rhs; rw [← iup_self (f := N) (p := 0), hN]
  have eT : iup T 0 0 = T := by conv => rhs; rw [← iup_self (f := T) (p := 0), hT]
  have hl : ∀ c, c ≠ 32 → ch m tx a = c → a + 1 ≤ m := fun c q1 q2 => by have := ch_lt (m := m) (a := a) (tx := tx) (by omega); omega
  unfold wp_X10_readTarget s37_X10_readTarget s42_X10_readTarget
  simp only [readSign_e h (c := 62) (by decide), readRegister_e h hp]
  generalize hx : partP true (ch m tx) a = x at h1 h0
  unfold partP at hx
  by_cases c1 : ch m tx a = 62
  · have hl' := hl _ (by decide) c1
    rw [if_pos c1]
    rw [if_neg (by omega), if_neg (by omega), if_pos rfl, if_pos c1] at hx; subst hx
    rw [eN, eT] at h1
    exact ⟨fun q => absurd q (by decide), fun _ => h1 rfl _ ((PF.st1 ho).trans (PF.sto ho (by omega) (by omega))) ((h.st1 (by omega) hl').sto (by omega)) (sa_setF (sa_st1 hs ho))⟩
  rw [if_neg c1]
  refine ⟨fun _ => ?_, fun q => absurd (by trivial) q⟩
  by_cases c3 : 97 ≤ ch m tx a ∧ ch m tx a ≤ 104
  · have hl' := hl _ (by omega) rfl
    rw [if_pos c3]
    rw [if_pos c3] at hx; subst hx
    rw [eT] at h1
    exact ⟨fun q => absurd q (by decide), fun _ => ⟨by simp, h1 rfl _ (((PF.st1 ho).trans (PF.sto ho (by omega) (by omega))).trans (PF.sto ho (by omega) (by omega))) (((h.st1 (by omega) hl').sto (by omega)).sto (by omega)) (sa_setN (sa_setF (sa_st1 hs ho)))⟩⟩
  · rw [if_neg c3]
    rw [if_neg c3] at hx
    refine ⟨fun _ => ?_, fun q => absurd (by trivial) q⟩
    by_cases c4 : ch m tx a = 77 ∨ ch m tx a = 78
    · rw [if_pos c4] at hx; subst hx
      exact readPlace_w h hs ho hp hN c4 (fun ok i' g1 g2 g3 => ⟨fun q => absurd q (by decide), fun _ => ⟨by simp, h1 ok i' g1 g2 g3⟩⟩) (fun ok i' g1 g2 => ⟨fun _ => ⟨by simp, h0 ok i' g1 g2⟩, fun q => absurd (by trivial) q⟩)
    · rw [if_neg c4, if_pos rfl, if_neg c1] at hx; subst hx
      exact placeNo_w h c4 ⟨fun _ => ⟨by simp, h0 rfl i (PF.refl o i) h⟩, fun q => absurd (by trivial) q⟩
