/-! ===== nodes ===== -/
abbrev isRd (f : Int) : Prop := 3 ≤ f ∧ f ≤ 5
/-- the parts of a statement that make nodes: 0 and 1 its readings, 2 the operation, 3 the writing, 4 a move -/
def rls (D : Dat) (k : Int) : List Int :=
  (if isRd (D.F k 1) then [0] else []) ++ ((if D.O k = 32 then [] else (if isRd (D.F k 2) then [1] else []) ++ [2]) ++ (if D.F k 0 = 0 then (if D.O k = 32 ∧ ¬ isRd (D.F k 1) then [4] else []) else [3]))
def ndl (D : Dat) : Nat → List (Int × Int)
  | 0 => []
  | n + 1 => ndl D n ++ (rls D ((n : Int) % D.cnt)).map (fun q => ((n : Int), q))
def nds (D : Dat) : List (Int × Int) := ndl D (D.cnt * D.fac).toNat
def stK (D : Dat) (x : Int × Int) : Int := x.1 % D.cnt
def opk (o : Int) : Int := if o = 42 then 1 else if o = 43 ∨ o = 45 ∨ o = 108 then 0 else 2
def mskN (D : Dat) (k p : Int) : Int := if D.F k p = 0 then iShl 1 (D.N k p) else 0
def kdN (D : Dat) (x : Int × Int) : Int := if x.2 = 0 then D.F (stK D x) 1 else if x.2 = 1 then D.F (stK D x) 2 else if x.2 = 2 then opk (D.O (stK D x)) else if x.2 = 3 then D.F (stK D x) 0 else 2
def ptN (x : Int × Int) : Int := if x.2 = 1 then 2 else 1
def g1N (D : Dat) (v : Int) (x : Int × Int) : Int :=
  if x.2 = 2 then (if isRd (D.F (stK D x) 1) then (if isRd (D.F (stK D x) 2) then v - 2 else v - 1) else -1)
  else if x.2 = 3 then (if D.O (stK D x) ≠ 32 ∨ isRd (D.F (stK D x) 1) then v - 1 else -1) else -1
def g2N (D : Dat) (v : Int) (x : Int × Int) : Int := if x.2 = 2 ∧ isRd (D.F (stK D x) 2) then v - 1 else -1
def usN (D : Dat) (x : Int × Int) : Int :=
  if x.2 = 2 then iOr (mskN D (stK D x) 1) (mskN D (stK D x) 2)
  else if x.2 = 4 ∨ (x.2 = 3 ∧ D.O (stK D x) = 32) then mskN D (stK D x) 1 else 0
def mkN (D : Dat) (x : Int × Int) : Int := if D.F (stK D x) 0 = 0 ∧ (x.2 = 2 ∨ x.2 = 4 ∨ (x.2 = 0 ∧ D.O (stK D x) = 32)) then D.N (stK D x) 0 else -1
/-- the part whose place a node remembers -/
def plN (x : Int × Int) : Int := if x.2 = 0 then 1 else if x.2 = 1 then 2 else 0
def fpN (D : Dat) (x : Int × Int) : Int := if x.2 = 0 ∨ x.2 = 1 ∨ x.2 = 3 then plc (D.T (stK D x) (plN x)) (D.N (stK D x) (plN x)) (x.1 / D.cnt) else 0
def tnN (D : Dat) (x : Int × Int) : Int := if x.2 = 0 ∨ x.2 = 1 ∨ x.2 = 3 then D.T (stK D x) (plN x) else 0
/-- the fields of a node of the class, 1 to 12 -/
def att (D : Dat) (v : Int) (x : Int × Int) (c : Int) : Int :=
  if c = 1 then x.1 else if c = 2 then x.1 / D.cnt else if c = 3 then kdN D x else if c = 4 then ptN x else if c = 5 then g1N D v x
  else if c = 6 then g2N D v x else if c = 7 then usN D x else if c = 8 then mkN D x else if c = 9 then fpN D x else if c = 10 then tnN D x
  else if c = 11 then (if x.2 = 2 then 1 else 0) else (if x.2 = 3 then 1 else 0)
/-! nodes of the class, while they are made -/
def NLg (i r : MI) (G : List (Int × (Int → Int))) (oc : Int → Int) : Prop := (i 67 4 = G.length) ∧ (∀ (v : Nat) (s : Int) (g : Int → Int), G[v]? = some (s, g) → r (72 + (v : Int)) 0 = s ∧ ∀ c, 1 ≤ c → c ≤ 12 → i (72 + (v : Int)) c = g c) ∧ (∀ k, 0 ≤ k → k < 7 → i 71 k = oc k)
theorem NLg.n {i r : MI} {G : List (Int × (Int → Int))} {oc : Int → Int} (h0 : NLg i r G oc) : i 67 4 = G.length := h0.1
theorem NLg.g {i r : MI} {G : List (Int × (Int → Int))} {oc : Int → Int} (h0 : NLg i r G oc) : ∀ (v : Nat) (s : Int) (g : Int → Int), G[v]? = some (s, g) → r (72 + (v : Int)) 0 = s ∧ ∀ c, 1 ≤ c → c ≤ 12 → i (72 + (v : Int)) c = g c := h0.2.1
theorem NLg.o {i r : MI} {G : List (Int × (Int → Int))} {oc : Int → Int} (h0 : NLg i r G oc) : ∀ k, 0 ≤ k → k < 7 → i 71 k = oc k := h0.2.2
theorem NLg.mk {i r : MI} {G : List (Int × (Int → Int))} {oc : Int → Int} (h0 : i 67 4 = G.length) (h1 : ∀ (v : Nat) (s : Int) (g : Int → Int), G[v]? = some (s, g) → r (72 + (v : Int)) 0 = s ∧ ∀ c, 1 ≤ c → c ≤ 12 → i (72 + (v : Int)) c = g c) (h2 : ∀ k, 0 ≤ k → k < 7 → i 71 k = oc k) : NLg i r G oc := ⟨h0, h1, h2⟩
/-- what making nodes leaves alone -/
def FA (i r i' r' : MI) : Prop := (∀ a, a ≠ 67 → a ≠ 71 → (a < 72 ∨ 168 ≤ a) → i' a = i a) ∧ (∀ a, (a < 72 ∨ 168 ≤ a) → r' a = r a)
theorem FA.i {i r i' r' : MI} (h0 : FA i r i' r') : ∀ a, a ≠ 67 → a ≠ 71 → (a < 72 ∨ 168 ≤ a) → i' a = i a := h0.1
theorem FA.r {i r i' r' : MI} (h0 : FA i r i' r') : ∀ a, (a < 72 ∨ 168 ≤ a) → r' a = r a := h0.2
theorem FA.mk {i r i' r' : MI} (h0 : ∀ a, a ≠ 67 → a ≠ 71 → (a < 72 ∨ 168 ≤ a) → i' a = i a) (h1 : ∀ a, (a < 72 ∨ 168 ≤ a) → r' a = r a) : FA i r i' r' := ⟨h0, h1⟩
theorem FA.refl (i r : MI) : FA i r i r := ⟨fun _ _ _ _ => rfl, fun _ _ => rfl⟩
theorem FA.trans {i r j s k t : MI} (h : FA i r j s) (g : FA j s k t) : FA i r k t := ⟨fun a x y z => (g.i a x y z).trans (h.i a x y z), fun a x => (g.r a x).trans (h.r a x)⟩
theorem FA.nod {i r : MI} {v c w : Int} (h : 0 ≤ v ∧ v < 96) : FA i r (st i (72 + v) c w) r := ⟨fun a x y z => st_row (by omega), fun _ _ => rfl⟩
theorem ClassP.fa {D : Dat} {i r i' r' : MI} (h : ClassP D i r) (g : FA i r i' r') : ClassP D i' r' := by
  refine h.congr ?_ ?_ ?_ ?_ ?_ ?_ ?_ ?_ ?_ ?_ (g.r _ (by omega)) (g.r _ (by omega))
  all_goals (intros; rw [g.i _ (by omega) (by omega) (by omega)])
theorem get_app {α : Type} {G : List α} {a y : α} {v : Nat} (h : (G ++ [a])[v]? = some y) : (v < G.length ∧ G[v]? = some y) ∨ (v = G.length ∧ y = a) := by
  rcases Nat.lt_trichotomy v G.length with q | q | q
  · left; rw [List.getElem?_append_left q] at h; exact ⟨q, h⟩
  · right
    rw [List.getElem?_append_right (by omega), q] at h
    simp at h
    exact ⟨q, h.symm⟩
  · rw [List.getElem?_append_right (by omega)] at h
    rw [List.getElem?_eq_none (by simp; omega)] at h
    cases h
theorem get_lt {α : Type} {G : List α} {y : α} {v : Nat} (h : G[v]? = some y) : v < G.length := by
  rcases Nat.lt_or_ge v G.length with q | q
  · exact q
  · rw [List.getElem?_eq_none q] at h; cases h
def gnew (s cp kd : Int) : Int → Int := fun c => if c = 1 then s else if c = 2 then cp else if c = 3 then kd else if c = 4 then 1 else if c = 5 then -1 else if c = 6 then -1 else if c = 8 then -1 else 0
theorem app_w {i r : MI} {G : List (Int × (Int → Int))} {oc : Int → Int} {src s cp kd : Int} {Q : Int → MI → MI → Prop} (h : NLg i r G oc) (hn : G.length < 96) (hk : 0 ≤ kd ∧ kd < 7) (ho : 0 ≤ oc kd ∧ oc kd ≤ 96)
    (hQ : ∀ i' r', FA i r i' r' → NLg i' r' (G ++ [(src, gnew s cp kd)]) (iup oc kd (oc kd + 1)) → Q G.length i' r') : wp_X0_append src s cp kd i r Q := by
  have e : min (i 67 4) 95 = (G.length : Int) := by rw [h.n]; omega
  unfold wp_X0_append wp_X3_set
  rw [e]
  refine ⟨by omega, hk, hk, ?_⟩
  have e1 : ∀ m : MI, (m = st (st (st (st (st (st (st (st (st (st (st (st i (72 + (G.length : Int)) 1 s) (72 + (G.length : Int)) 2 cp) (72 + (G.length : Int)) 3 kd) (72 + (G.length : Int)) 4 1) (72 + (G.length : Int)) 5 (-1)) (72 + (G.length : Int)) 6 (-1)) (72 + (G.length : Int)) 7 0) (72 + (G.length : Int)) 8 (-1)) (72 + (G.length : Int)) 9 0) (72 + (G.length : Int)) 10 0) (72 + (G.length : Int)) 11 0) (72 + (G.length : Int)) 12 0) → (∀ a, a ≠ 72 + (G.length : Int) → m a = i a) ∧ ∀ c, 1 ≤ c → c ≤ 12 → m (72 + (G.length : Int)) c = gnew s cp kd c := by
    intro m hm
    subst hm
    refine ⟨fun a ha => by simp only [st_row ha], fun c c1 c2 => ?_⟩
    unfold st gnew
    have : c = 1 ∨ c = 2 ∨ c = 3 ∨ c = 4 ∨ c = 5 ∨ c = 6 ∨ c = 7 ∨ c = 8 ∨ c = 9 ∨ c = 10 ∨ c = 11 ∨ c = 12 := by omega
    rcases this with rfl | rfl | rfl | rfl | rfl | rfl | rfl | rfl | rfl | rfl | rfl | rfl <;> simp
  obtain ⟨e2, e3⟩ := e1 _ rfl
  generalize st (st (st (st (st (st (st (st (st (st (st (st i (72 + (G.length : Int)) 1 s) (72 + (G.length : Int)) 2 cp) (72 + (G.length : Int)) 3 kd) (72 + (G.length : Int)) 4 1) (72 + (G.length : Int)) 5 (-1)) (72 + (G.length : Int)) 6 (-1)) (72 + (G.length : Int)) 7 0) (72 + (G.length : Int)) 8 (-1)) (72 + (G.length : Int)) 9 0) (72 + (G.length : Int)) 10 0) (72 + (G.length : Int)) 11 0) (72 + (G.length : Int)) 12 0 = m at *
  rw [e2 71 (by omega), h.o kd hk.1 hk.2, wr_of (by omega) (by omega), wr_of (x := (G.length : Int) + 1) (by omega) (by omega)]
  refine hQ _ _ ⟨?_, ?_⟩ ⟨?_, ?_, ?_⟩
  · intro a x y z; rw [st_row x, st_row y, e2 _ (by omega)]
  · intro a x; rw [st_row (by omega)]
  · rw [st_eq]; simp
  · intro v s' g' hv
    rcases get_app hv with ⟨q, w⟩ | ⟨q, w⟩
    · obtain ⟨a, b⟩ := h.g v s' g' w
      refine ⟨?_, fun c x y => ?_⟩
      · rw [st_row (by omega)]; exact a
      · rw [st_row (by omega), st_row (by omega), e2 _ (by omega)]; exact b c x y
    · cases w
      rw [q]
      refine ⟨st_eq, fun c x y => ?_⟩
      rw [st_row (by omega), st_row (by omega)]; exact e3 c x y
  · intro k a b
    rw [st_row (by decide)]
    unfold iup
    by_cases e : k = kd
    · rw [e, st_eq, if_pos rfl]
    · rw [st_ne (by omega), if_neg e, e2 _ (by omega)]; exact h.o k a b
theorem set_last {i r : MI} {G : List (Int × (Int → Int))} {oc : Int → Int} {src : Int} {g : Int → Int} {c w : Int} (h : NLg i r (G ++ [(src, g)]) oc) : NLg (st i (72 + (G.length : Int)) c w) r (G ++ [(src, iup g c w)]) oc := by
  refine ⟨?_, ?_, ?_⟩
  · rw [st_row (by omega), h.n]; simp
  · intro v s' g' hv
    rcases get_app hv with ⟨q, e⟩ | ⟨q, e⟩
    · obtain ⟨a, b⟩ := h.g v s' g' (by rw [List.getElem?_append_left q]; exact e)
      refine ⟨a, fun c' x y => ?_⟩
      rw [st_row (by omega)]; exact b c' x y
    · cases e
      obtain ⟨a, b⟩ := h.g G.length src g (by rw [List.getElem?_append_right (Nat.le_refl _)]; simp)
      rw [q]
      refine ⟨a, fun c' x y => ?_⟩
      unfold iup
      by_cases e : c' = c
      · rw [e, st_eq, if_pos rfl]
      · rw [st_ne (by omega), if_neg e]; exact b c' x y
  · intro k a b; rw [st_row (by omega)]; exact h.o k a b
theorem ext_last {i r : MI} {G : List (Int × (Int → Int))} {oc : Int → Int} {src : Int} {g g' : Int → Int} (h : NLg i r (G ++ [(src, g)]) oc) (e : ∀ c, 1 ≤ c → c ≤ 12 → g c = g' c) : NLg i r (G ++ [(src, g')]) oc := by
  refine ⟨by rw [h.n]; simp, ?_, h.o⟩
  intro v s' g2 hv
  rcases get_app hv with ⟨q, w⟩ | ⟨q, w⟩
  · exact h.g v s' g2 (by rw [List.getElem?_append_left q]; exact w)
  · cases w
    obtain ⟨a, b⟩ := h.g G.length src g (by rw [List.getElem?_append_right (Nat.le_refl _)]; simp)
    rw [q]
    exact ⟨a, fun c x y => by rw [b c x y]; exact e c x y⟩
theorem last_g {i r : MI} {G : List (Int × (Int → Int))} {oc : Int → Int} {src : Int} {g : Int → Int} (h : NLg i r (G ++ [(src, g)]) oc) : r (72 + (G.length : Int)) 0 = src ∧ ∀ c, 1 ≤ c → c ≤ 12 → i (72 + (G.length : Int)) c = g c :=
  h.g G.length src g (by rw [List.getElem?_append_right (Nat.le_refl _)]; simp)
theorem placeOf_e2 {i r : MI} {o p t : Int} {F N T : Int → Int} {O : Int} {Q : Int → Prop} (hs : StmAt i o F N T O) (hp : 0 ≤ p ∧ p < 3) (ht : 0 ≤ t ∧ t ≤ 1000) (hT : T p = 0 ∨ (T p = 1 ∧ -9 ≤ N p ∧ N p ≤ 9)) : wp_X8_placeOf o p t i r Q ↔ Q (plc (T p) (N p) t) := by
  unfold wp_X8_placeOf s26_X8_placeOf plc
  rw [hs.t p hp.1 hp.2, hs.n p hp.1 hp.2]
  by_cases e : T p = 0
  · rw [if_pos e]
    exact ⟨fun q => (q.2.1 e).2, fun q => ⟨hp, fun _ => ⟨hp, q⟩, fun z => absurd e z⟩⟩
  · rw [if_neg e, wr_of (by omega) (by omega)]
    exact ⟨fun q => (q.2.2 e).2, fun q => ⟨hp, fun z => absurd z e, fun _ => ⟨hp, q⟩⟩⟩
theorem setPlace_w {D : Dat} (ok : DOk D) {i r : MI} {G : List (Int × (Int → Int))} {oc : Int → Int} {k p : Int} {g : Int → Int} {Q : MI → Prop} (hP : ClassP D i r) (hk : 0 ≤ k ∧ k < D.cnt) (hp : 0 ≤ p ∧ p < 3) (h : NLg i r (G ++ [(r 4 k, g)]) oc) (hn : G.length < 96) (hc : 0 ≤ g 2 ∧ g 2 ≤ 1000)
    (hQ : ∀ i', FA i r i' r → NLg i' r (G ++ [(r 4 k, iup (iup g 9 (plc (D.T k p) (D.N k p) (g 2))) 10 (D.T k p))]) oc → Q i') : wp_X3_setPlace (72 + (G.length : Int)) p i r Q := by
  obtain ⟨a, b⟩ := last_g h
  have hst := hP.st k hk.1 hk.2
  have sok := ok.st k hk.1 hk.2
  have hcn := ok.cnt
  have h9 := stm_rng (hP.rf.s k hk.1 (by omega))
  have hT : D.T k p = 0 ∨ (D.T k p = 1 ∧ -9 ≤ D.N k p ∧ D.N k p ≤ 9) := by
    rcases sok.t0 p hp.1 hp.2 with q | q | q
    · have := sok.n3 p hp.1 hp.2 (.inl q); omega
    · have := sok.n3 p hp.1 hp.2 (.inr q); omega
    · exact .inl q
  unfold wp_X3_setPlace
  rw [a, b 2 (by decide) (by decide), placeOf_e2 hst hp hc hT]
  rw [st_row (by omega), hst.t p hp.1 hp.2]
  refine ⟨by omega, by omega, hp, by omega, hQ _ ((FA.nod (by omega)).trans (FA.nod (by omega))) (set_last (set_last h))⟩
