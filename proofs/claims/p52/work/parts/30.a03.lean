theorem limA_0 (D : Dat) : limA D 0 = D.dep := by funext c; unfold limA; rw [if_pos rfl]
theorem limA_k (D : Dat) {k : Int} (h : k ≠ 0) : limA D k = fun _ => k := by funext c; unfold limA; rw [if_neg h]
/-! ===== nodes ===== -/
abbrev isRd (f : Int) : Prop := 3 ≤ f ∧ f ≤ 5
/-- the parts of a statement that make nodes: 0 and 1 its readings, 2 the operation, 3 the writing, 4 a move -/
def rls (D : Dat) (k : Int) : List Int :=
  (if isRd (D.F k 1) then [0] else []) ++ ((if D.O k = 32 then [] else (if isRd (D.F k 2) then [1] else []) ++ [2]) ++ (if D.F k 0 = 0 then (if D.O k = 32 ∧ ¬ isRd (D.F k 1) then [4] else []) else [3]))
def ndl (D : Dat) : Nat → List (Int × Int)
  | 0 => []
  | n + 1 => ndl D n ++ (rls D ((n : Int) % D.cnt)).map (fun q => ((n : Int), q))
def nds (D : Dat) : List (Int × Int) := ndl D (D.cnt * D.fac).toNat
def stK (D : Dat) (x : Int × Int) : Int := x.1 % D.cnt
def opk (o : Int) : Int := if o = 42 then 1 else if o = 43 ∨ o = 45 ∨ o = 108 then 0 else 2
def mskN (D : Dat) (k p : Int) : Int := if D.F k p = 0 then iShl 1 (D.N k p) else 0
def kdN (D : Dat) (x : Int × Int) : Int := if x.2 = 0 then D.F (stK D x) 1 else if x.2 = 1 then D.F (stK D x) 2 else if x.2 = 2 then opk (D.O (stK D x)) else if x.2 = 3 then D.F (stK D x) 0 else 2
def ptN (x : Int × Int) : Int := if x.2 = 1 then 2 else 1
def g1N (D : Dat) (v : Int) (x : Int × Int) : Int :=
  if x.2 = 2 then (if isRd (D.F (stK D x) 1) then (if isRd (D.F (stK D x) 2) then v - 2 else v - 1) else -1)
  else if x.2 = 3 then (if D.O (stK D x) ≠ 32 ∨ isRd (D.F (stK D x) 1) then v - 1 else -1) else -1
def g2N (D : Dat) (v : Int) (x : Int × Int) : Int := if x.2 = 2 ∧ isRd (D.F (stK D x) 2) then v - 1 else -1
def usN (D : Dat) (x : Int × Int) : Int :=
  if x.2 = 2 then iOr (mskN D (stK D x) 1) (mskN D (stK D x) 2)
  else if x.2 = 4 ∨ (x.2 = 3 ∧ D.O (stK D x) = 32) then mskN D (stK D x) 1 else 0
def mkN (D : Dat) (x : Int × Int) : Int := if D.F (stK D x) 0 = 0 ∧ (x.2 = 2 ∨ x.2 = 4 ∨ (x.2 = 0 ∧ D.O (stK D x) = 32)) then D.N (stK D x) 0 else -1
/-- the part whose place a node remembers -/
def plN (x : Int × Int) : Int := if x.2 = 0 then 1 else if x.2 = 1 then 2 else 0
def fpN (D : Dat) (x : Int × Int) : Int := if x.2 = 0 ∨ x.2 = 1 ∨ x.2 = 3 then plc (D.T (stK D x) (plN x)) (D.N (stK D x) (plN x)) (x.1 / D.cnt) else 0
def tnN (D : Dat) (x : Int × Int) : Int := if x.2 = 0 ∨ x.2 = 1 ∨ x.2 = 3 then D.T (stK D x) (plN x) else 0
/-- the fields of a node of the class, 1 to 12 -/
def att (D : Dat) (v : Int) (x : Int × Int) (c : Int) : Int :=
  if c = 1 then x.1 else if c = 2 then x.1 / D.cnt else if c = 3 then kdN D x else if c = 4 then ptN x else if c = 5 then g1N D v x
  else if c = 6 then g2N D v x else if c = 7 then usN D x else if c = 8 then mkN D x else if c = 9 then fpN D x else if c = 10 then tnN D x
  else if c = 11 then (if x.2 = 2 then 1 else 0) else (if x.2 = 3 then 1 else 0)
/-! nodes of the class, while they are made -/
def NLg (i r : MI) (G : List (Int × (Int → Int))) (oc : Int → Int) : Prop := (i 67 4 = G.length) ∧ (∀ (v : Nat) (s : Int) (g : Int → Int), G[v]? = some (s, g) → r (72 + (v : Int)) 0 = s ∧ ∀ c, 1 ≤ c → c ≤ 12 → i (72 + (v : Int)) c = g c) ∧ (∀ k, 0 ≤ k → k < 7 → i 71 k = oc k)
theorem NLg.n {i r : MI} {G : List (Int × (Int → Int))} {oc : Int → Int} (h0 : NLg i r G oc) : i 67 4 = G.length := h0.1
theorem NLg.g {i r : MI} {G : List (Int × (Int → Int))} {oc : Int → Int} (h0 : NLg i r G oc) : ∀ (v : Nat) (s : Int) (g : Int → Int), G[v]? = some (s, g) → r (72 + (v : Int)) 0 = s ∧ ∀ c, 1 ≤ c → c ≤ 12 → i (72 + (v : Int)) c = g c := h0.2.1
theorem NLg.o {i r : MI} {G : List (Int × (Int → Int))} {oc : Int → Int} (h0 : NLg i r G oc) : ∀ k, 0 ≤ k → k < 7 → i 71 k = oc k := h0.2.2
theorem NLg.mk {i r : MI} {G : List (Int × (Int → Int))} {oc : Int → Int} (h0 : i 67 4 = G.length) (h1 : ∀ (v : Nat) (s : Int) (g : Int → Int), G[v]? = some (s, g) → r (72 + (v : Int)) 0 = s ∧ ∀ c, 1 ≤ c → c ≤ 12 → i (72 + (v : Int)) c = g c) (h2 : ∀ k, 0 ≤ k → k < 7 → i 71 k = oc k) : NLg i r G oc := ⟨h0, h1, h2⟩
/-- what making nodes leaves alone -/
def FA (i r i' r' : MI) : Prop := (∀ a, a ≠ 67 → a ≠ 71 → (a < 72 ∨ 168 ≤ a) → i' a = i a) ∧ (∀ a, (a < 72 ∨ 168 ≤ a) → r' a = r a)
theorem FA.i {i r i' r' : MI} (h0 : FA i r i' r') : ∀ a, a ≠ 67 → a ≠ 71 → (a < 72 ∨ 168 ≤ a) → i' a = i a := h0.1
theorem FA.r {i r i' r' : MI} (h0 : FA i r i' r') : ∀ a, (a < 72 ∨ 168 ≤ a) → r' a = r a := h0.2
theorem FA.mk {i r i' r' : MI} (h0 : ∀ a, a ≠ 67 → a ≠ 71 → (a < 72 ∨ 168 ≤ a) → i' a = i a) (h1 : ∀ a, (a < 72 ∨ 168 ≤ a) → r' a = r a) : FA i r i' r' := ⟨h0, h1⟩
theorem FA.refl (i r : MI) : FA i r i r := ⟨fun _ _ _ _ => rfl, fun _ _ => rfl⟩
theorem FA.trans {i r j s k t : MI} (h : FA i r j s) (g : FA j s k t) : FA i r k t := ⟨fun a x y z => (g.i a x y z).trans (h.i a x y z), fun a x => (g.r a x).trans (h.r a x)⟩
theorem FA.nod {i r : MI} {v c w : Int} (h : 0 ≤ v ∧ v < 96) : FA i r (st i (72 + v) c w) r := ⟨fun a x y z => st_row (by omega), fun _ _ => rfl⟩
theorem ClassP.fa {D : Dat} {i r i' r' : MI} (h : ClassP D i r) (g : FA i r i' r') : ClassP D i' r' := by
  refine h.congr ?_ ?_ ?_ ?_ ?_ ?_ ?_ ?_ ?_ ?_ (g.r _ (by omega)) (g.r _ (by omega))
  all_goals (intros; rw [g.i _ (by omega) (by omega) (by omega)])
theorem get_app {α : Type} {G : List α} {a y : α} {v : Nat} (h : (G ++ [a])[v]? = some y) : (v < G.length ∧ G[v]? = some y) ∨ (v = G.length ∧ y = a) := by
  rcases Nat.lt_trichotomy v G.length with q | q | q
  · left; rw [List.getElem?_append_left q] at h; exact ⟨q, h⟩
  · right
    rw [List.getElem?_append_right (by omega), q] at h
    simp at h
    exact ⟨q, h.symm⟩
  · rw [List.getElem?_append_right (by omega)] at h
    rw [List.getElem?_eq_none (by simp; omega)] at h
    cases h
theorem get_lt {α : Type} {G : List α} {y : α} {v : Nat} (h : G[v]? = some y) : v < G.length := by
  rcases Nat.lt_or_ge v G.length with q | q
  · exact q
  · rw [List.getElem?_eq_none q] at h; cases h
def gnew (s cp kd : Int) : Int → Int := fun c => if c = 1 then s else if c = 2 then cp else if c = 3 then kd else if c = 4 then 1 else if c = 5 then -1 else if c = 6 then -1 else if c = 8 then -1 else 0
theorem app_w {i r : MI} {G : List (Int × (Int → Int))} {oc : Int → Int} {src s cp kd : Int} {Q : Int → MI → MI → Prop} (h : NLg i r G oc) (hn : G.length < 96) (hk : 0 ≤ kd ∧ kd < 7) (ho : 0 ≤ oc kd ∧ oc kd ≤ 96)
    (hQ : ∀ i' r', FA i r i' r' → NLg i' r' (G ++ [(src, gnew s cp kd)]) (iup oc kd (oc kd + 1)) → Q G.length i' r') : wp_X0_append src s cp kd i r Q := by
  have e : min (i 67 4) 95 = (G.length : Int) := by rw [h.n]; omega
  unfold wp_X0_append wp_X3_set
  rw [e]
  refine ⟨by omega, hk, hk, ?_⟩
  have e1 : ∀ m : MI, (m = st (st (st (st (st (st (st (st (st (st (st (st i (72 + (G.length : Int)) 1 s) (72 + (G.length : Int)) 2 cp) (72 + (G.length : Int)) 3 kd) (72 + (G.length : Int)) 4 1) (72 + (G.length : Int)) 5 (-1)) (72 + (G.length : Int)) 6 (-1)) (72 + (G.length : Int)) 7 0) (72 + (G.length : Int)) 8 (-1)) (72 + (G.length : Int)) 9 0) (72 + (G.length : Int)) 10 0) (72 + (G.length : Int)) 11 0) (72 + (G.length : Int)) 12 0) → (∀ a, a ≠ 72 + (G.length : Int) → m a = i a) ∧ ∀ c, 1 ≤ c → c ≤ 12 → m (72 + (G.length : Int)) c = gnew s cp kd c := by
    intro m hm
    subst hm
    refine ⟨fun a ha => by simp only [st_row ha], fun c c1 c2 => ?_⟩
    unfold st gnew
    have : c = 1 ∨ c = 2 ∨ c = 3 ∨ c = 4 ∨ c = 5 ∨ c = 6 ∨ c = 7 ∨ c = 8 ∨ c = 9 ∨ c = 10 ∨ c = 11 ∨ c = 12 := by omega
    rcases this with rfl | rfl | rfl | rfl | rfl | rfl | rfl | rfl | rfl | rfl | rfl | rfl <;> simp
  obtain ⟨e2, e3⟩ := e1 _ rfl
  generalize st (st (st (st (st (st (st (st (st (st (st (st i (72 + (G.length : Int)) 1 s) (72 + (G.length : Int)) 2 cp) (72 + (G.length : Int)) 3 kd) (72 + (G.length : Int)) 4 1) (72 + (G.length : Int)) 5 (-1)) (72 + (G.length : Int)) 6 (-1)) (72 + (G.length : Int)) 7 0) (72 + (G.length : Int)) 8 (-1)) (72 + (G.length : Int)) 9 0) (72 + (G.length : Int)) 10 0) (72 + (G.length : Int)) 11 0) (72 + (G.length : Int)) 12 0 = m at *
  rw [e2 71 (by omega), h.o kd hk.1 hk.2, wr_of (by omega) (by omega), wr_of (x := (G.length : Int) + 1) (by omega) (by omega)]
  refine hQ _ _ ⟨?_, ?_⟩ ⟨?_, ?_, ?_⟩
  · intro a x y z; rw [st_row x, st_row y, e2 _ (by omega)]
  · intro a x; rw [st_row (by omega)]
  · rw [st_eq]; simp
  · intro v s' g' hv
    rcases get_app hv with ⟨q, w⟩ | ⟨q, w⟩
    · obtain ⟨a, b⟩ := h.g v s' g' w
      refine ⟨?_, fun c x y => ?_⟩
      · rw [st_row (by omega)]; exact a
      · rw [st_row (by omega), st_row (by omega), e2 _ (by omega)]; exact b c x y
    · cases w
      rw [q]
      refine ⟨st_eq, fun c x y => ?_⟩
      rw [st_row (by omega), st_row (by omega)]; exact e3 c x y
  · intro k a b
    rw [st_row (by decide)]
    unfold iup
    by_cases e : k = kd
    · rw [e, st_eq, if_pos rfl]
    · rw [st_ne (by omega), if_neg e, e2 _ (by omega)]; exact h.o k a b
theorem set_last {i r : MI} {G : List (Int × (Int → Int))} {oc : Int → Int} {src : Int} {g : Int → Int} {c w : Int} (h : NLg i r (G ++ [(src, g)]) oc) : NLg (st i (72 + (G.length : Int)) c w) r (G ++ [(src, iup g c w)]) oc := by
  refine ⟨?_, ?_, ?_⟩
  · rw [st_row (by omega), h.n]; simp
  · intro v s' g' hv
    rcases get_app hv with ⟨q, e⟩ | ⟨q, e⟩
    · obtain ⟨a, b⟩ := h.g v s' g' (by rw [List.getElem?_append_left q]; exact e)
      refine ⟨a, fun c' x y => ?_⟩
      rw [st_row (by omega)]; exact b c' x y
    · cases e
      obtain ⟨a, b⟩ := h.g G.length src g (by rw [List.getElem?_append_right (Nat.le_refl _)]; simp)
      rw [q]
      refine ⟨a, fun c' x y => ?_⟩
      unfold iup
      by_cases e : c' = c
      · rw [e, st_eq, if_pos rfl]
      · rw [st_ne (by omega), if_neg e]; exact b c' x y
  · intro k a b; rw [st_row (by omega)]; exact h.o k a b
theorem ext_last {i r : MI} {G : List (Int × (Int → Int))} {oc : Int → Int} {src : Int} {g g' : Int → Int} (h : NLg i r (G ++ [(src, g)]) oc) (e : ∀ c, 1 ≤ c → c ≤ 12 → g c = g' c) : NLg i r (G ++ [(src, g')]) oc := by
  refine ⟨by rw [h.n]; simp, ?_, h.o⟩
  intro v s' g2 hv
  rcases get_app hv with ⟨q, w⟩ | ⟨q, w⟩
  · exact h.g v s' g2 (by rw [List.getElem?_append_left q]; exact w)
  · cases w
    obtain ⟨a, b⟩ := h.g G.length src g (by rw [List.getElem?_append_right (Nat.le_refl _)]; simp)
    rw [q]
    exact ⟨a, fun c x y => by rw [b c x y]; exact e c x y⟩
theorem last_g {i r : MI} {G : List (Int × (Int → Int))} {oc : Int → Int} {src : Int} {g : Int → Int} (h : NLg i r (G ++ [(src, g)]) oc) : r (72 + (G.length : Int)) 0 = src ∧ ∀ c, 1 ≤ c → c ≤ 12 → i (72 + (G.length : Int)) c = g c :=
  h.g G.length src g (by rw [List.getElem?_append_right (Nat.le_refl _)]; simp)
theorem placeOf_e2 {i r : MI} {o p t : Int} {F N T : Int → Int} {O : Int} {Q : Int → Prop} (hs : StmAt i o F N T O) (hp : 0 ≤ p ∧ p < 3) (ht : 0 ≤ t ∧ t ≤ 1000) (hT : T p = 0 ∨ (T p = 1 ∧ -9 ≤ N p ∧ N p ≤ 9)) : wp_X8_placeOf o p t i r Q ↔ Q (plc (T p) (N p) t) := by
  unfold wp_X8_placeOf s26_X8_placeOf plc
  rw [hs.t p hp.1 hp.2, hs.n p hp.1 hp.2]
  by_cases e : T p = 0
  · rw [if_pos e]
    exact ⟨fun q => (q.2.1 e).2, fun q => ⟨hp, fun _ => ⟨hp, q⟩, fun z => absurd e z⟩⟩
  · rw [if_neg e, wr_of (by omega) (by omega)]
    exact ⟨fun q => (q.2.2 e).2, fun q => ⟨hp, fun z => absurd z e, fun _ => ⟨hp, q⟩⟩⟩
theorem setPlace_w {D : Dat} (ok : DOk D) {i r : MI} {G : List (Int × (Int → Int))} {oc : Int → Int} {k p : Int} {g : Int → Int} {Q : MI → Prop} (hP : ClassP D i r) (hk : 0 ≤ k ∧ k < D.cnt) (hp : 0 ≤ p ∧ p < 3) (h : NLg i r (G ++ [(r 4 k, g)]) oc) (hn : G.length < 96) (hc : 0 ≤ g 2 ∧ g 2 ≤ 1000)
    (hQ : ∀ i', FA i r i' r → NLg i' r (G ++ [(r 4 k, iup (iup g 9 (plc (D.T k p) (D.N k p) (g 2))) 10 (D.T k p))]) oc → Q i') : wp_X3_setPlace (72 + (G.length : Int)) p i r Q := by
  obtain ⟨a, b⟩ := last_g h
  have hst := hP.st k hk.1 hk.2
  have sok := ok.st k hk.1 hk.2
  have hcn := ok.cnt
  have h9 := stm_rng (hP.rf.s k hk.1 (by omega))
  have hT : D.T k p = 0 ∨ (D.T k p = 1 ∧ -9 ≤ D.N k p ∧ D.N k p ≤ 9) := by
    rcases sok.t0 p hp.1 hp.2 with q | q | q
    · have := sok.n3 p hp.1 hp.2 (.inl q); omega
    · have := sok.n3 p hp.1 hp.2 (.inr q); omega
    · exact .inl q
  unfold wp_X3_setPlace
  rw [a, b 2 (by decide) (by decide), placeOf_e2 hst hp hc hT]
  rw [st_row (by omega), hst.t p hp.1 hp.2]
  refine ⟨by omega, by omega, hp, by omega, hQ _ ((FA.nod (by omega)).trans (FA.nod (by omega))) (set_last (set_last h))⟩

def GA (D : Dat) (s4 : Int → Int) (L : List (Int × Int)) : List (Int × (Int → Int)) := L.zipIdx.map (fun y => (s4 (stK D y.1), att D (y.2 : Int) y.1))
def ocL (D : Dat) (L : List (Int × Int)) (k : Int) : Int := (L.countP (fun x => decide (kdN D x = k)) : Nat)
theorem GA_len {D : Dat} {s4 : Int → Int} {L : List (Int × Int)} : (GA D s4 L).length = L.length := by simp [GA]
theorem GA_app {D : Dat} {s4 : Int → Int} {L : List (Int × Int)} {x : Int × Int} : GA D s4 (L ++ [x]) = GA D s4 L ++ [(s4 (stK D x), att D (L.length : Int) x)] := by
  unfold GA
  rw [List.zipIdx_append]
  simp
theorem ocL_app {D : Dat} {L : List (Int × Int)} {x : Int × Int} : ocL D (L ++ [x]) = iup (ocL D L) (kdN D x) (ocL D L (kdN D x) + 1) := by
  funext k
  unfold ocL iup
  rw [List.countP_append]
  by_cases e : k = kdN D x
  · rw [if_pos e, e]; simp
  · rw [if_neg e]
    have e2 : ¬ kdN D x = k := fun q => e q.symm
    simp [List.countP_cons, e2]
theorem ocL_b {D : Dat} {L : List (Int × Int)} {k : Int} : 0 ≤ ocL D L k ∧ ocL D L k ≤ L.length := by
  unfold ocL
  have := List.countP_le_length (p := fun x => decide (kdN D x = k)) (l := L)
  omega
theorem rls_len {D : Dat} {k : Int} : (rls D k).length ≤ 4 := by
  unfold rls
  repeat' split
  all_goals simp
theorem ndl_len {D : Dat} (n : Nat) : (ndl D n).length ≤ 4 * n := by
  induction n with
  | zero => simp [ndl]
  | succ n ih =>
    have := rls_len (D := D) (k := (n : Int) % D.cnt)
    simp [ndl]
    omega
theorem mask_e {D : Dat} {i r : MI} {o k p : Int} {Q : Int → Prop} (hs : StmAt i o (D.F k) (D.N k) (D.T k) (D.O k)) (hp : 0 ≤ p ∧ p < 3) : wp_X8_maskOfRegister o p i r Q ↔ Q (mskN D k p) := by
  unfold wp_X8_maskOfRegister s21_X8_maskOfRegister mskN
  rw [hs.f p hp.1 hp.2, hs.n p hp.1 hp.2]
  by_cases e : D.F k p = 0
  · rw [if_pos e]; exact ⟨fun q => (q.2.1 e).2, fun q => ⟨hp, fun _ => ⟨hp, q⟩, fun z => absurd e z⟩⟩
  · rw [if_neg e]; exact ⟨fun q => q.2.2 e, fun q => ⟨hp, fun z => absurd z e, fun _ => q⟩⟩
theorem opk_e {i r : MI} {o : Int} {F N T : Int → Int} {O : Int} {Q : Int → Prop} (hs : StmAt i o F N T O) : wp_X8_kindOfOperation o i r Q ↔ Q (opk O) := by
  unfold wp_X8_kindOfOperation s48_X8_kindOfOperation opk
  rw [hs.o]
  by_cases e1 : O = 42
  · simp [e1]
  by_cases e2 : O = 43
  · simp [e2]
  by_cases e3 : O = 45
  · simp [e3]
  by_cases e4 : O = 108
  · simp [e4]
  · simp [e1, e2, e3, e4]
theorem opk_r (O : Int) : 0 ≤ opk O ∧ opk O ≤ 2 := by
  unfold opk
  repeat' split
  all_goals omega
/-- what a node that reads is, but for the register that it makes -/
def gRd (D : Dat) (k p s cp : Int) : Int → Int := iup (iup (iup (gnew s cp (D.F k p)) 4 p) 9 (plc (D.T k p) (D.N k p) cp)) 10 (D.T k p)
theorem read_w {D : Dat} (ok : DOk D) {i r : MI} {G : List (Int × (Int → Int))} {oc : Int → Int} {k p s cp : Int} {Q : Int → MI → MI → Prop} (hP : ClassP D i r) (hk : 0 ≤ k ∧ k < D.cnt) (hp : p = 1 ∨ p = 2) (h : NLg i r G oc) (hn : G.length < 96) (ho : ∀ k, 0 ≤ oc k ∧ oc k ≤ 96) (hcp : 0 ≤ cp ∧ cp ≤ 1000)
    (h1 : isRd (D.F k p) → ∀ i' r', FA i r i' r' → NLg i' r' (G ++ [(r 4 k, gRd D k p s cp)]) (iup oc (D.F k p) (oc (D.F k p) + 1)) → Q G.length i' r') (h0 : ¬ isRd (D.F k p) → Q (-1) i r) : wp_X0_appendReading (r 4 k) s cp p i r Q := by
  have hst := hP.st k hk.1 hk.2
  have hp3 : 0 ≤ p ∧ p < 3 := by omega
  unfold wp_X0_appendReading wp_X8_isReading s24_X8_isReading s25_X8_isReading
  rw [hst.f p hp3.1 hp3.2]
  refine ⟨hp3, fun q => ⟨.inl rfl, fun _ => h0 (by omega), fun z => absurd rfl z⟩, fun q => ⟨hp3, fun q2 => ⟨.inl rfl, fun _ => h0 (by omega), fun z => absurd rfl z⟩, fun q2 => ⟨.inr rfl, fun z => absurd z (by decide), fun _ => ⟨hp3, ?_⟩⟩⟩⟩
  refine app_w h hn (by omega) (ho _) (fun i' r' f n => ⟨by omega, by omega, ?_⟩)
  have e4 : r 4 = r' 4 := (f.r _ (by omega)).symm
  rw [e4] at n
  have n2 := set_last (c := 4) (w := p) n
  have hP2 := (hP.fa f).fa (FA.nod (i := i') (r := r') (v := (G.length : Int)) (c := 4) (w := p) (by omega))
  refine setPlace_w ok hP2 hk hp3 n2 hn (by show 0 ≤ cp ∧ cp ≤ 1000; exact hcp) (fun i2 f2 n3 => ?_)
  refine h1 (by omega) _ _ ((f.trans (FA.nod (by omega))).trans f2) ?_
  rw [e4]
  exact n3
theorem setPlace_v {D : Dat} (ok : DOk D) {i r : MI} {G : List (Int × (Int → Int))} {oc : Int → Int} {k p v : Int} {g : Int → Int} {Q : MI → Prop} (hv : v = (G.length : Int)) (hP : ClassP D i r) (hk : 0 ≤ k ∧ k < D.cnt) (hp : 0 ≤ p ∧ p < 3) (h : NLg i r (G ++ [(r 4 k, g)]) oc) (hn : G.length < 96) (hc : 0 ≤ g 2 ∧ g 2 ≤ 1000)
    (hQ : ∀ i', FA i r i' r → NLg i' r (G ++ [(r 4 k, iup (iup g 9 (plc (D.T k p) (D.N k p) (g 2))) 10 (D.T k p))]) oc → Q i') : wp_X3_setPlace (72 + v) p i r Q := by
  rw [hv]; exact setPlace_w ok hP hk hp h hn hc hQ
theorem c12 {P : Int → Prop} (h1 : P 1) (h2 : P 2) (h3 : P 3) (h4 : P 4) (h5 : P 5) (h6 : P 6) (h7 : P 7) (h8 : P 8) (h9 : P 9) (h10 : P 10) (h11 : P 11) (h12 : P 12) : ∀ c, 1 ≤ c → c ≤ 12 → P c := by
  intro c a b
  have : c = 1 ∨ c = 2 ∨ c = 3 ∨ c = 4 ∨ c = 5 ∨ c = 6 ∨ c = 7 ∨ c = 8 ∨ c = 9 ∨ c = 10 ∨ c = 11 ∨ c = 12 := by omega
  rcases this with rfl | rfl | rfl | rfl | rfl | rfl | rfl | rfl | rfl | rfl | rfl | rfl <;> assumption
theorem numberOne_w {D : Dat} (ok : DOk D) {i r : MI} {L : List (Int × Int)} {s : Int} {Q : MI → MI → Prop} (hP : ClassP D i r) (hk : 0 < D.cnt) (hs : 0 ≤ s ∧ s < 24) (h : NLg i r (GA D (r 4) L) (ocL D L)) (hn : L.length + 4 ≤ 96)
    (hQ : ∀ i' r', FA i r i' r' → NLg i' r' (GA D (r 4) (L ++ (rls D (s % D.cnt)).map (fun q => (s, q)))) (ocL D (L ++ (rls D (s % D.cnt)).map (fun q => (s, q)))) → Q i' r') : wp_X0_numberOne (r 4 (s % D.cnt)) s (s / D.cnt) i r Q := by
  have hkk : 0 ≤ s % D.cnt ∧ s % D.cnt < D.cnt := ⟨Int.emod_nonneg _ (by omega), Int.emod_lt_of_pos _ hk⟩
  have hcp : 0 ≤ s / D.cnt ∧ s / D.cnt ≤ 1000 := ⟨Int.ediv_nonneg hs.1 (by omega), by have := Int.ediv_le_self D.cnt hs.1; omega⟩
  have hst0 : ∀ q : Int, stK D (s, q) = s % D.cnt := fun q => rfl
  have sok := ok.st _ hkk.1 hkk.2
  have hcn := ok.cnt
  generalize hkd : s % D.cnt = k at *
  generalize hcd : s / D.cnt = cp at *
  have hR : ∀ L : List (Int × Int), ∀ k, 0 ≤ ocL D L k ∧ (L.length ≤ 96 → ocL D L k ≤ 96) := fun L k => by have := ocL_b (D := D) (L := L) (k := k); omega
  unfold wp_X0_numberOne
  -- the writing, and the register that is made, behind the last node
  have tail : ∀ (L' : List (Int × Int)) (g : Int → Int) (x7 : Int) (i' r' : MI), FA i r i' r' → D.F k 0 = 0 → x7 = L'.length → L'.length < 96 → NLg i' r' (GA D (r 4) L' ++ [(r 4 k, g)]) (ocL D (L ++ (rls D k).map (fun q => (s, q)))) → (∃ q : Int, L' ++ [(s, q)] = L ++ (rls D k).map (fun q => (s, q)) ∧ ∀ c, 1 ≤ c → c ≤ 12 → iup g 8 (D.N k 0) c = att D (L'.length : Int) (s, q) c) → s147_X0_numberOne (r 4 k) s cp (D.N k 0) x7 i' r' Q := by
    intro L' g x7 i' r' f e0 hx hl n ⟨q, hq, ha⟩
    have hn0 := sok.n0 0 (by decide) (by decide) e0
    unfold s147_X0_numberOne s183_X0_numberOne
    refine ⟨fun z => by omega, fun _ => ⟨fun z => by omega, fun _ => ⟨by omega, ?_⟩⟩⟩
    have n2 := set_last (c := 8) (w := D.N k 0) n
    rw [GA_len] at n2
    have n3 := ext_last n2 ha
    have e5 : GA D (r 4) L' ++ [(r 4 k, fun c => att D (L'.length : Int) (s, q) c)] = GA D (r 4) (L' ++ [(s, q)]) := by rw [GA_app, hst0]
    rw [show (fun c => att D (L'.length : Int) (s, q) c) = att D (L'.length : Int) (s, q) from rfl] at e5
    rw [e5, hq] at n3
    rw [hx]
    exact hQ _ _ (f.trans (FA.nod (by omega))) n3
  have wtail : ∀ (L' : List (Int × Int)) (x7 : Int) (i' r' : MI), FA i r i' r' → D.F k 0 ≠ 0 → x7 = (if D.O k ≠ 32 ∨ isRd (D.F k 1) then (L'.length : Int) - 1 else -1) → L'.length < 96 → NLg i' r' (GA D (r 4) L') (ocL D L') → L' ++ [(s, 3)] = L ++ (rls D k).map (fun q => (s, q)) → (L'.length = 0 → x7 = -1) → s147_X0_numberOne (r 4 k) s cp (-1) x7 i' r' Q := by
    intro L' x7 i' r' f e0 hx hl n hq hz
    have hP' := hP.fa f
    have f0 := sok.f0
    have e4 : r' 4 = r 4 := f.r _ (by omega)
    have hst := hP'.st k hkk.1 hkk.2
    rw [e4] at hst
    unfold s147_X0_numberOne s183_X0_numberOne
    refine ⟨fun _ => ?_, fun z => absurd rfl z⟩
    unfold wp_X0_appendWriting s71_X0_appendWriting
    rw [hst.f 0 (by decide) (by decide)]
    refine app_w n (by rw [GA_len]; exact hl) (by omega) ⟨(hR L' _).1, (hR L' _).2 (by omega)⟩ (fun i2 r2 f2 n2 => ?_)
    rw [GA_len] at *
    have e42 : r2 4 = r 4 := by rw [f2.r _ (by omega)]; exact e4
    have n3 := set_last (c := 12) (w := 1) n2
    rw [GA_len] at n3
    have hP3 := (hP'.fa f2).fa (FA.nod (i := i2) (r := r2) (v := (L'.length : Int)) (c := 12) (w := 1) (by omega))
    rw [← e42] at n3
    refine ⟨by omega, by omega, ?_⟩
    refine setPlace_v ok (G := GA D (r2 4) L') (by rw [GA_len]) hP3 hkk (by decide) n3 (by rw [GA_len]; exact hl) (by show 0 ≤ cp ∧ cp ≤ 1000; exact hcp) (fun i4 f4 n4 => ?_)
    have n5 := set_last (c := 5) (w := x7) n4
    rw [GA_len] at n5
    have hst4 := ((hP3.fa f4).fa (FA.nod (i := i4) (r := r2) (v := (L'.length : Int)) (c := 5) (w := x7) (by omega))).st k hkk.1 hkk.2
    rw [e42] at hst4
    have fin : ∀ u, u = usN D (s, 3) → Q (st (st i4 (72 + (L'.length : Int)) 5 x7) (72 + (L'.length : Int)) 7 u) r2 := by
      intro u hu
      have n6 := set_last (c := 7) (w := u) n5
      rw [GA_len] at n6
      have n7 : NLg (st (st i4 (72 + (L'.length : Int)) 5 x7) (72 + (L'.length : Int)) 7 u) r2 (GA D (r 4) L' ++ [(r 4 k, att D (L'.length : Int) (s, 3))]) (iup (ocL D L') (D.F k 0) (ocL D L' (D.F k 0) + 1)) := by
        rw [e42] at n6
        refine ext_last n6 ?_
        apply c12 <;> simp [iup, gnew, att, kdN, ptN, g1N, g2N, usN, mkN, plN, fpN, tnN, hst0, hcd, hx, hu]
      have e6 : kdN D (s, 3) = D.F k 0 := by simp [kdN, hst0]
      rw [← e6, ← ocL_app] at n7
      have e5 : GA D (r 4) L' ++ [(r 4 k, att D (L'.length : Int) (s, 3))] = GA D (r 4) (L' ++ [(s, 3)]) := by rw [GA_app, hst0]
      rw [e5, hq] at n7
      exact hQ _ _ (((f.trans f2).trans (FA.nod (by omega))).trans (f4.trans ((FA.nod (by omega)).trans (FA.nod (by omega))))) n7
    refine ⟨by omega, by omega, fun z => ?_, fun z => ?_⟩
    · rw [mask_e hst4 (by decide)]
      refine fin _ ?_
      have hO : D.O k = 32 := by
        rw [hx] at z
        by_cases w : D.O k ≠ 32 ∨ isRd (D.F k 1)
        · rw [if_pos w] at z
          by_cases w2 : L'.length = 0
          · exfalso
            have : D.O k ≠ 32 ∨ isRd (D.F k 1) := w
            have := congrArg List.length hq
            have hr : rls D k ≠ [3] := by
              unfold rls
              rcases w with w | w
              · rw [if_neg w, if_neg e0]
                intro hh
                have := congrArg List.length hh
                simp at this
                omega
              · rw [if_pos w]
                intro hh
                have := congrArg List.head? hh
                simp at this
            have hL : L = [] := by
              have h3 : L'.length + 1 = L.length + (rls D k).length := by simpa using this
              have h4 : 1 ≤ (rls D k).length := by unfold rls; rw [if_neg e0]; simp; omega
              exact List.eq_nil_of_length_eq_zero (by omega)
            rw [hL, List.eq_nil_of_length_eq_zero w2] at hq
            apply hr
            have h5 := congrArg (List.map Prod.snd) hq
            simp [Function.comp_def] at h5
            exact h5.symm
          · omega
        · omega
      simp [usN, hst0, hO]
    · refine fin _ ?_
      have hO : D.O k = 32 → D.F k 1 ≠ 0 := by
        intro w
        rw [hx] at z
        by_cases w2 : D.O k ≠ 32 ∨ isRd (D.F k 1)
        · rcases w2 with w2 | w2
          · exact absurd w w2
          · omega
        · rw [if_neg w2] at z; omega
      simp only [usN, hst0]
      by_cases w : D.O k = 32
      · simp [w, mskN, hO w]
      · simp [w]
  have regE : ∀ (i' r' : MI) (Q : Int → Prop), FA i r i' r' → (wp_X8_registerIn (r 4 k) 0 i' r' Q ↔ Q (if D.F k 0 = 0 then D.N k 0 else -1)) := by
    intro i' r' Q f
    have hst := (hP.fa f).st k hkk.1 hkk.2
    rw [f.r _ (by omega)] at hst
    unfold wp_X8_registerIn s19_X8_registerIn
    rw [hst.f 0 (by decide) (by decide), hst.n 0 (by decide) (by decide)]
    by_cases e : D.F k 0 = 0
    · rw [if_pos e]; exact ⟨fun q => (q.2.1 e).2, fun q => ⟨by decide, fun _ => ⟨by decide, q⟩, fun z => absurd e z⟩⟩
    · rw [if_neg e]; exact ⟨fun q => q.2.2 e, fun q => ⟨by decide, fun z => absurd z e, fun _ => q⟩⟩
  have stE : ∀ (i' r' : MI), FA i r i' r' → StmAt i' (r 4 k) (D.F k) (D.N k) (D.T k) (D.O k) := by
    intro i' r' f
    have hst := (hP.fa f).st k hkk.1 hkk.2
    rw [f.r _ (by omega)] at hst
    exact hst
  have n0r : D.F k 0 = 0 → 0 ≤ D.N k 0 ∧ D.N k 0 ≤ 7 := fun e => sok.n0 0 (by decide) (by decide) e
  have opS : ∀ (L2 : List (Int × Int)) (v33 v40 : Int) (i41 r42 : MI), FA i r i41 r42 → D.O k ≠ 32 → L2.length + 2 ≤ 96 → NLg i41 r42 (GA D (r 4) L2) (ocL D L2) → (L2 ++ [(s, 2)]) ++ (if D.F k 0 = 0 then [] else [(s, 3)]) = L ++ (rls D k).map (fun q => (s, q)) → v33 = g1N D (L2.length : Int) (s, 2) → v40 = g2N D (L2.length : Int) (s, 2) → (wp_X8_registerIn (r 4 k) 0 i41 r42 (fun v47 => wp_X8_hasOperation (r 4 k) i41 r42 (fun v54 => ((v54 = 0 → ((v33 = (-1) → ((v47 = (-1) → s147_X0_numberOne (r 4 k) s cp v47 v33 i41 r42 Q) ∧ (¬ v47 = (-1) → wp_X0_append (r 4 k) s cp 2 i41 r42 (fun v70 i71 r72 => ((0 ≤ v70 ∧ v70 < 96) ∧ wp_X8_maskOfRegister (r 4 k) 1 i71 r72 (fun v78 => s147_X0_numberOne (r 4 k) s cp v47 v70 (st i71 (72 + v70) 7 v78) r72 Q)))))) ∧ (¬ v33 = (-1) → s147_X0_numberOne (r 4 k) s cp v47 v33 i41 r42 Q))) ∧ (¬ v54 = 0 → wp_X8_kindOfOperation (r 4 k) i41 r42 (fun v89 => wp_X0_append (r 4 k) s cp v89 i41 r42 (fun v96 i97 r98 => ((0 ≤ v96 ∧ v96 < 96) ∧ ((0 ≤ v96 ∧ v96 < 96) ∧ ((0 ≤ v96 ∧ v96 < 96) ∧ ((0 ≤ v96 ∧ v96 < 96) ∧ wp_X8_maskOfRegister (r 4 k) 1 (st (st (st i97 (72 + v96) 11 1) (72 + v96) 5 v33) (72 + v96) 6 v40) r98 (fun v107 => wp_X8_maskOfRegister (r 4 k) 2 (st (st (st i97 (72 + v96) 11 1) (72 + v96) 5 v33) (72 + v96) 6 v40) r98 (fun v114 => s147_X0_numberOne (r 4 k) s cp v47 v96 (st (st (st (st i97 (72 + v96) 11 1) (72 + v96) 5 v33) (72 + v96) 6 v40) (72 + v96) 7 (iOr v107 v114)) r98 Q))))))))))))) := by
    intro L2 v33 v40 i41 r42 f hO hl n hq h33 h40
    rw [regE _ _ _ f]
    unfold wp_X8_hasOperation s14_X8_hasOperation
    rw [(stE _ _ f).o]
    refine ⟨fun z => absurd z hO, fun _ => ⟨.inr rfl, fun z => absurd z (by decide), fun _ => ?_⟩⟩
    rw [opk_e (stE _ _ f)]
    have hok := opk_r (D.O k)
    refine app_w n (by rw [GA_len]; omega) (by omega) ⟨(hR L2 _).1, (hR L2 _).2 (by omega)⟩ (fun i5 r5 f5 n5 => ?_)
    have m1 := set_last (c := 11) (w := 1) n5
    have m2 := set_last (c := 5) (w := v33) m1
    have m3 := set_last (c := 6) (w := v40) m2
    rw [GA_len] at *
    refine ⟨by omega, by omega, by omega, by omega, ?_⟩
    have f6 : FA i r (st (st (st i5 (72 + (L2.length : Int)) 11 1) (72 + (L2.length : Int)) 5 v33) (72 + (L2.length : Int)) 6 v40) r5 := (f.trans f5).trans ((FA.nod (by omega)).trans ((FA.nod (by omega)).trans (FA.nod (by omega))))
    rw [mask_e (stE _ _ f6) (by decide), mask_e (stE _ _ f6) (by decide)]
    have m4 := set_last (c := 7) (w := iOr (mskN D k 1) (mskN D k 2)) m3
    rw [GA_len] at m4
    have f7 := f6.trans (FA.nod (i := _) (r := r5) (v := (L2.length : Int)) (c := 7) (w := iOr (mskN D k 1) (mskN D k 2)) (by omega))
    have hkd2 : kdN D (s, 2) = opk (D.O k) := by simp [kdN, hst0]
    rw [← hkd2, ← ocL_app] at m4
    by_cases e0 : D.F k 0 = 0
    · rw [if_pos e0]
      rw [if_pos e0, List.append_nil] at hq
      rw [hq] at m4
      refine tail L2 _ _ _ _ f7 e0 rfl (by omega) m4 ⟨2, hq, ?_⟩
      apply c12 <;> simp [iup, gnew, att, kdN, ptN, g1N, g2N, usN, mkN, plN, fpN, tnN, hst0, hcd, h33, h40, e0]
    · rw [if_neg e0]
      rw [if_neg e0] at hq
      have m5 : NLg (st (st (st (st i5 (72 + (L2.length : Int)) 11 1) (72 + (L2.length : Int)) 5 v33) (72 + (L2.length : Int)) 6 v40) (72 + (L2.length : Int)) 7 (iOr (mskN D k 1) (mskN D k 2))) r5 (GA D (r 4) (L2 ++ [(s, 2)])) (ocL D (L2 ++ [(s, 2)])) := by
        rw [GA_app, hst0]
        refine ext_last m4 ?_
        apply c12 <;> simp [iup, gnew, att, kdN, ptN, g1N, g2N, usN, mkN, plN, fpN, tnN, hst0, hcd, h33, h40, e0]
      refine wtail _ _ _ _ f7 e0 ?_ (by simp; omega) m5 hq (fun z => by simp at z)
      rw [if_pos (.inl hO)]; simp
  have h96 : ∀ a, 0 ≤ ocL D L a ∧ ocL D L a ≤ 96 := fun a => ⟨(hR L a).1, (hR L a).2 (by omega)⟩
  have att0 : isRd (D.F k 1) → (D.F k 0 ≠ 0 ∨ D.O k ≠ 32) → ∀ c, 1 ≤ c → c ≤ 12 → gRd D k 1 s cp c = att D (L.length : Int) (s, 0) c := by
    intro rd hh
    have hmk : ¬ (D.F k 0 = 0 ∧ D.O k = 32) := by omega
    apply c12 <;> simp [gRd, iup, gnew, att, kdN, ptN, g1N, g2N, usN, mkN, plN, fpN, tnN, hst0, hcd]
    intro a b; exact absurd ⟨a, b⟩ hmk
  have att1 : ∀ v : Int, ∀ c, 1 ≤ c → c ≤ 12 → gRd D k 2 s cp c = att D v (s, 1) c := by
    intro v
    apply c12 <;> simp [gRd, iup, gnew, att, kdN, ptN, g1N, g2N, usN, mkN, plN, fpN, tnN, hst0, hcd]
  have kd0 : kdN D (s, 0) = D.F k 1 := by simp [kdN, hst0]
  have kd1 : kdN D (s, 1) = D.F k 2 := by simp [kdN, hst0]
  have kd4 : kdN D (s, 4) = 2 := by simp [kdN]
  -- the second reading and what follows
  have sec : ∀ (L1 : List (Int × Int)) (v33 : Int) (i1 r1 : MI), FA i r i1 r1 → D.O k ≠ 32 → L1.length + 3 ≤ 96 → NLg i1 r1 (GA D (r 4) L1) (ocL D L1) → L1 = L ++ (if isRd (D.F k 1) then [(s, 0)] else []) → v33 = (if isRd (D.F k 1) then (L1.length : Int) - 1 else -1) → wp_X0_appendReading (r 4 k) s cp 2 i1 r1 (fun v40 i41 r42 => (wp_X8_registerIn (r 4 k) 0 i41 r42 (fun v47 => wp_X8_hasOperation (r 4 k) i41 r42 (fun v54 => ((v54 = 0 → ((v33 = (-1) → ((v47 = (-1) → s147_X0_numberOne (r 4 k) s cp v47 v33 i41 r42 Q) ∧ (¬ v47 = (-1) → wp_X0_append (r 4 k) s cp 2 i41 r42 (fun v70 i71 r72 => ((0 ≤ v70 ∧ v70 < 96) ∧ wp_X8_maskOfRegister (r 4 k) 1 i71 r72 (fun v78 => s147_X0_numberOne (r 4 k) s cp v47 v70 (st i71 (72 + v70) 7 v78) r72 Q)))))) ∧ (¬ v33 = (-1) → s147_X0_numberOne (r 4 k) s cp v47 v33 i41 r42 Q))) ∧ (¬ v54 = 0 → wp_X8_kindOfOperation (r 4 k) i41 r42 (fun v89 => wp_X0_append (r 4 k) s cp v89 i41 r42 (fun v96 i97 r98 => ((0 ≤ v96 ∧ v96 < 96) ∧ ((0 ≤ v96 ∧ v96 < 96) ∧ ((0 ≤ v96 ∧ v96 < 96) ∧ ((0 ≤ v96 ∧ v96 < 96) ∧ wp_X8_maskOfRegister (r 4 k) 1 (st (st (st i97 (72 + v96) 11 1) (72 + v96) 5 v33) (72 + v96) 6 v40) r98 (fun v107 => wp_X8_maskOfRegister (r 4 k) 2 (st (st (st i97 (72 + v96) 11 1) (72 + v96) 5 v33) (72 + v96) 6 v40) r98 (fun v114 => s147_X0_numberOne (r 4 k) s cp v47 v96 (st (st (st (st i97 (72 + v96) 11 1) (72 + v96) 5 v33) (72 + v96) 6 v40) (72 + v96) 7 (iOr v107 v114)) r98 Q)))))))))))))) := by
    intro L1 v33 i1 r1 f hO hl n hL h33
    have e4 : r1 4 = r 4 := f.r _ (by omega)
    rw [← e4] at n ⊢
    refine read_w ok (hP.fa f) hkk (.inr rfl) n (by rw [GA_len]; omega) (fun a => ⟨(hR L1 a).1, (hR L1 a).2 (by omega)⟩) hcp (fun rd2 i2 r2 f2 n2 => ?_) (fun nrd2 => ?_)
    · rw [e4] at n2 ⊢
      have n3 := ext_last n2 (att1 (L1.length : Int))
      have e5 : GA D (r 4) L1 ++ [(r 4 k, att D (L1.length : Int) (s, 1))] = GA D (r 4) (L1 ++ [(s, 1)]) := by rw [GA_app, hst0]
      rw [e5, ← kd1, ← ocL_app] at n3
      rw [GA_len]
      refine opS (L1 ++ [(s, 1)]) _ _ _ _ (f.trans f2) hO (by simp; omega) n3 ?_ ?_ ?_
      · rw [hL]; unfold rls; rw [if_neg hO, if_pos rd2]
        by_cases rd1 : isRd (D.F k 1)
        · simp only [if_pos rd1]
          by_cases e0 : D.F k 0 = 0 <;> simp [e0, hO]
        · simp only [if_neg rd1]
          by_cases e0 : D.F k 0 = 0 <;> simp [e0, hO]
      · rw [h33]; unfold g1N; simp only [hst0]
        by_cases rd1 : isRd (D.F k 1)
        · simp [rd1, rd2]; omega
        · simp [rd1]
      · unfold g2N; simp only [hst0]; simp [rd2]
    · rw [e4] at n ⊢
      refine opS L1 _ _ _ _ f hO (by omega) n ?_ ?_ ?_
      · rw [hL]; unfold rls; rw [if_neg hO, if_neg nrd2]
        by_cases rd1 : isRd (D.F k 1)
        · simp only [if_pos rd1]
          by_cases e0 : D.F k 0 = 0 <;> simp [e0, hO]
        · simp only [if_neg rd1]
          by_cases e0 : D.F k 0 = 0 <;> simp [e0, hO]
      · rw [h33]; unfold g1N; simp only [hst0]
        by_cases rd1 : isRd (D.F k 1)
        · simp [rd1, nrd2]
        · simp [rd1]
      · unfold g2N; simp only [hst0]; simp [nrd2]
  by_cases hO : D.O k = 32
  · have f2 : D.F k 2 = -1 := by
      rcases sok.f2 with q | q
      · exact q.2
      · exfalso; unfold isOp at *; omega
    have sec0 : ∀ (G : List (Int × (Int → Int))) (oc : Int → Int) (v33 : Int) (i1 r1 : MI), FA i r i1 r1 → (wp_X8_registerIn (r 4 k) 0 i1 r1 (fun v47 => wp_X8_hasOperation (r 4 k) i1 r1 (fun v54 => ((v54 = 0 → ((v33 = (-1) → ((v47 = (-1) → s147_X0_numberOne (r 4 k) s cp v47 v33 i1 r1 Q) ∧ (¬ v47 = (-1) → wp_X0_append (r 4 k) s cp 2 i1 r1 (fun v70 i71 r72 => ((0 ≤ v70 ∧ v70 < 96) ∧ wp_X8_maskOfRegister (r 4 k) 1 i71 r72 (fun v78 => s147_X0_numberOne (r 4 k) s cp v47 v70 (st i71 (72 + v70) 7 v78) r72 Q)))))) ∧ (¬ v33 = (-1) → s147_X0_numberOne (r 4 k) s cp v47 v33 i1 r1 Q))) ∧ (¬ v54 = 0 → wp_X8_kindOfOperation (r 4 k) i1 r1 (fun v89 => wp_X0_append (r 4 k) s cp v89 i1 r1 (fun v96 i97 r98 => ((0 ≤ v96 ∧ v96 < 96) ∧ ((0 ≤ v96 ∧ v96 < 96) ∧ ((0 ≤ v96 ∧ v96 < 96) ∧ ((0 ≤ v96 ∧ v96 < 96) ∧ wp_X8_maskOfRegister (r 4 k) 1 (st (st (st i97 (72 + v96) 11 1) (72 + v96) 5 v33) (72 + v96) 6 (-1)) r98 (fun v107 => wp_X8_maskOfRegister (r 4 k) 2 (st (st (st i97 (72 + v96) 11 1) (72 + v96) 5 v33) (72 + v96) 6 (-1)) r98 (fun v114 => s147_X0_numberOne (r 4 k) s cp v47 v96 (st (st (st (st i97 (72 + v96) 11 1) (72 + v96) 5 v33) (72 + v96) 6 (-1)) (72 + v96) 7 (iOr v107 v114)) r98 Q))))))))))))) → wp_X0_appendReading (r 4 k) s cp 2 i1 r1 (fun v40 i41 r42 => (wp_X8_registerIn (r 4 k) 0 i41 r42 (fun v47 => wp_X8_hasOperation (r 4 k) i41 r42 (fun v54 => ((v54 = 0 → ((v33 = (-1) → ((v47 = (-1) → s147_X0_numberOne (r 4 k) s cp v47 v33 i41 r42 Q) ∧ (¬ v47 = (-1) → wp_X0_append (r 4 k) s cp 2 i41 r42 (fun v70 i71 r72 => ((0 ≤ v70 ∧ v70 < 96) ∧ wp_X8_maskOfRegister (r 4 k) 1 i71 r72 (fun v78 => s147_X0_numberOne (r 4 k) s cp v47 v70 (st i71 (72 + v70) 7 v78) r72 Q)))))) ∧ (¬ v33 = (-1) → s147_X0_numberOne (r 4 k) s cp v47 v33 i41 r42 Q))) ∧ (¬ v54 = 0 → wp_X8_kindOfOperation (r 4 k) i41 r42 (fun v89 => wp_X0_append (r 4 k) s cp v89 i41 r42 (fun v96 i97 r98 => ((0 ≤ v96 ∧ v96 < 96) ∧ ((0 ≤ v96 ∧ v96 < 96) ∧ ((0 ≤ v96 ∧ v96 < 96) ∧ ((0 ≤ v96 ∧ v96 < 96) ∧ wp_X8_maskOfRegister (r 4 k) 1 (st (st (st i97 (72 + v96) 11 1) (72 + v96) 5 v33) (72 + v96) 6 v40) r98 (fun v107 => wp_X8_maskOfRegister (r 4 k) 2 (st (st (st i97 (72 + v96) 11 1) (72 + v96) 5 v33) (72 + v96) 6 v40) r98 (fun v114 => s147_X0_numberOne (r 4 k) s cp v47 v96 (st (st (st (st i97 (72 + v96) 11 1) (72 + v96) 5 v33) (72 + v96) 6 v40) (72 + v96) 7 (iOr v107 v114)) r98 Q)))))))))))))) := by
      intro G oc v33 i1 r1 f hB
      have hst := stE _ _ f
      unfold wp_X0_appendReading wp_X8_isReading s24_X8_isReading s25_X8_isReading
      rw [hst.f 2 (by decide) (by decide), f2]
      exact ⟨by decide, fun _ => ⟨.inl rfl, fun _ => hB, fun z => absurd rfl z⟩, fun z => absurd (by decide) z⟩
    refine read_w ok hP hkk (.inl rfl) h (by rw [GA_len]; omega) h96 hcp (fun rd1 i1 r1 f1 n1 => ?_) (fun nrd1 => ?_)
    · rw [GA_len]
      refine sec0 [] (fun _ => 0) _ _ _ f1 ?_
      rw [regE _ _ _ f1]
      unfold wp_X8_hasOperation s14_X8_hasOperation
      rw [(stE _ _ f1).o]
      refine ⟨fun _ => ⟨.inl rfl, fun _ => ⟨fun z => by omega, fun _ => ?_⟩, fun z => absurd rfl z⟩, fun z => absurd hO z⟩
      rw [← kd0, ← ocL_app] at n1
      by_cases e0 : D.F k 0 = 0
      · rw [if_pos e0]
        have hr : rls D k = [0] := by unfold rls; rw [if_pos rd1, if_pos hO, if_pos e0, if_neg (fun q => q.2 rd1)]; rfl
        have e6 : L ++ (rls D k).map (fun q => (s, q)) = L ++ [(s, 0)] := by rw [hr]; rfl
        refine tail L _ _ _ _ f1 e0 rfl (by omega) (by rw [e6]; exact n1) ⟨0, by rw [e6], ?_⟩
        apply c12 <;> simp [gRd, iup, gnew, att, kdN, ptN, g1N, g2N, usN, mkN, plN, fpN, tnN, hst0, hcd, e0, hO]
      · rw [if_neg e0]
        have hr : rls D k = [0, 3] := by unfold rls; rw [if_pos rd1, if_pos hO, if_neg e0]; rfl
        have n3 := ext_last n1 (att0 rd1 (.inl e0))
        have e5 : GA D (r 4) L ++ [(r 4 k, att D (L.length : Int) (s, 0))] = GA D (r 4) (L ++ [(s, 0)]) := by rw [GA_app, hst0]
        rw [e5] at n3
        refine wtail _ _ _ _ f1 e0 ?_ (by simp; omega) n3 (by rw [hr]; simp) (fun z => by simp at z)
        rw [if_pos (.inr rd1)]; simp
    · refine sec0 [] (fun _ => 0) _ _ _ (FA.refl i r) ?_
      rw [regE _ _ _ (FA.refl i r)]
      unfold wp_X8_hasOperation s14_X8_hasOperation
      rw [(stE _ _ (FA.refl i r)).o]
      refine ⟨fun _ => ⟨.inl rfl, fun _ => ⟨fun _ => ?_, fun z => absurd rfl z⟩, fun z => absurd rfl z⟩, fun z => absurd hO z⟩
      by_cases e0 : D.F k 0 = 0
      · rw [if_pos e0]
        have hn0 := n0r e0
        have hr : rls D k = [4] := by unfold rls; rw [if_neg nrd1, if_pos hO, if_pos e0, if_pos ⟨hO, nrd1⟩]; rfl
        refine ⟨fun z => by omega, fun _ => ?_⟩
        refine app_w h (by rw [GA_len]; omega) (by decide) (h96 _) (fun i5 r5 f5 n5 => ?_)
        rw [GA_len] at *
        refine ⟨by omega, ?_⟩
        rw [mask_e (stE _ _ f5) (by decide)]
        have m4 := set_last (c := 7) (w := mskN D k 1) n5
        rw [GA_len, ← kd4, ← ocL_app] at m4
        have e6 : L ++ (rls D k).map (fun q => (s, q)) = L ++ [(s, 4)] := by rw [hr]; rfl
        refine tail L _ _ _ _ (f5.trans (FA.nod (by omega))) e0 rfl (by omega) (by rw [e6]; exact m4) ⟨4, by rw [e6], ?_⟩
        apply c12 <;> simp [gRd, iup, gnew, att, kdN, ptN, g1N, g2N, usN, mkN, plN, fpN, tnN, hst0, hcd, e0, hO]
      · rw [if_neg e0]
        have hr : rls D k = [3] := by unfold rls; rw [if_neg nrd1, if_pos hO, if_neg e0]; rfl
        refine ⟨fun _ => ?_, fun z => absurd rfl z⟩
        refine wtail L _ _ _ (FA.refl i r) e0 ?_ (by omega) h (by rw [hr]; rfl) (fun _ => rfl)
        rw [if_neg (by omega)]
  · refine read_w ok hP hkk (.inl rfl) h (by rw [GA_len]; omega) h96 hcp (fun rd1 i1 r1 f1 n1 => ?_) (fun nrd1 => ?_)
    · have n3 := ext_last n1 (att0 rd1 (.inr hO))
      have e5 : GA D (r 4) L ++ [(r 4 k, att D (L.length : Int) (s, 0))] = GA D (r 4) (L ++ [(s, 0)]) := by rw [GA_app, hst0]
      rw [e5, ← kd0, ← ocL_app] at n3
      rw [GA_len]
      refine sec (L ++ [(s, 0)]) _ _ _ f1 hO (by simp; omega) n3 (by rw [if_pos rd1]) ?_
      rw [if_pos rd1]; simp
    · refine sec L _ _ _ (FA.refl i r) hO (by omega) h (by rw [if_neg nrd1]; simp) ?_
      rw [if_neg nrd1]

theorem sig_eq {D : Dat} {a b : Int} (hb : 0 ≤ b ∧ b < D.cnt) : (a * D.cnt + b) % D.cnt = b ∧ (a * D.cnt + b) / D.cnt = a := by
  rw [Int.add_comm, Int.add_mul_emod_self_right, Int.add_mul_ediv_right _ _ (by omega), Int.emod_eq_of_lt hb.1 hb.2, Int.ediv_eq_zero_of_lt hb.1 hb.2, Int.zero_add]
  exact ⟨rfl, rfl⟩
theorem sig_lt {D : Dat} (ok : DOk D) {a b : Int} (ha : 0 ≤ a ∧ a < D.fac) (hb : 0 ≤ b ∧ b < D.cnt) : 0 ≤ a * D.cnt + b ∧ a * D.cnt + b < D.cnt * D.fac ∧ a * D.cnt + b < 24 := by
  have h0 : 0 ≤ a * D.cnt := Int.mul_nonneg ha.1 (by omega)
  have : (a + 1) * D.cnt ≤ D.fac * D.cnt := Int.mul_le_mul_of_nonneg_right (by omega) (by omega)
  rw [Int.add_mul, Int.mul_comm D.fac] at this
  have := ok.body
  omega
theorem ndl_at {D : Dat} {n : Int} (h : 0 ≤ n) : ndl D (n + 1).toNat = ndl D n.toNat ++ (rls D (n % D.cnt)).map (fun q => (n, q)) := by
  have e : (n + 1).toNat = n.toNat + 1 := by omega
  rw [e]
  show ndl D n.toNat ++ (rls D ((n.toNat : Int) % D.cnt)).map (fun q => ((n.toNat : Int), q)) = _
  have e2 : (n.toNat : Int) = n := by omega
  rw [e2]
/-- the body's nodes stand in the class -/
def M1 (D : Dat) (i r : MI) : Prop := NLg i r (GA D (r 4) (nds D)) (ocL D (nds D))
theorem number_w {D : Dat} (ok : DOk D) {i r : MI} {Q : MI → MI → Prop} (h : ClassP D i r) (hQ : ∀ i' r', FA i r i' r' → M1 D i' r' → Q i' r') : wp_X0_number i r Q := by
  have hc := ok.cnt
  have hf := ok.fac
  have hbd := ok.body
  unfold wp_X0_number
  refine Lp.r2 (fun (x : Int) (m : MI) => 0 ≤ x ∧ x ≤ 7 ∧ FA i r m r ∧ m 67 4 = 0 ∧ ∀ k, 0 ≤ k → k < x → m 71 k = 0) (fun x _ => (7 - x).toNat) ?_ ⟨by decide, by decide, ⟨fun a p q s => st_row (by omega), fun _ _ => rfl⟩, st_eq, fun k a b => by omega⟩
  intro x m C ⟨h0, h1, h2, h3, h4⟩ hC
  dsimp only [b7_X0_number]
  refine ⟨fun q => ?_, fun q => ⟨⟨h0, by omega⟩, ?_⟩⟩
  · have n0 : NLg m r (GA D (r 4) (ndl D (0 * D.cnt).toNat)) (ocL D (ndl D (0 * D.cnt).toNat)) := by
      rw [Int.zero_mul]
      have e : GA D (r 4) (ndl D (0 : Int).toNat) = [] := by simp [ndl, GA]
      rw [e]
      refine ⟨by rw [h3]; rfl, ?_, fun k a b => by rw [h4 k a (by omega)]; rfl⟩
      intro v s g hv
      cases hv
    refine Lp.r3 (fun (x2 : Int) (m s : MI) => 0 ≤ x2 ∧ x2 ≤ D.fac ∧ FA i r m s ∧ NLg m s (GA D (s 4) (ndl D (x2 * D.cnt).toNat)) (ocL D (ndl D (x2 * D.cnt).toNat))) (fun x2 _ _ => (D.fac - x2).toNat) ?_ ⟨by decide, by omega, h2, n0⟩
    intro x2 m s C2 ⟨g0, g1, g2, g3⟩ hC2
    dsimp only [b28_X0_number]
    have hm := h.fa g2
    rw [hm.fac]
    refine ⟨fun q2 => hQ _ _ g2 ?_, fun q2 => ?_⟩
    · have e : x2 = D.fac := by omega
      rw [e, Int.mul_comm] at g3
      exact g3
    · refine Lp.r3 (fun (x3 : Int) (m s : MI) => 0 ≤ x3 ∧ x3 ≤ D.cnt ∧ FA i r m s ∧ NLg m s (GA D (s 4) (ndl D (x2 * D.cnt + x3).toNat)) (ocL D (ndl D (x2 * D.cnt + x3).toNat))) (fun x3 _ _ => (D.cnt - x3).toNat) ?_ ⟨by decide, by omega, g2, by rw [Int.add_zero]; exact g3⟩
      intro x3 m s C3 ⟨k0, k1, k2, k3⟩ hC3
      dsimp only [b38_X0_number]
      have hm3 := h.fa k2
      rw [hm3.cnt]
      refine ⟨fun q3 => ?_, fun q3 => ⟨by omega, ?_⟩⟩
      · rw [wr_of (by omega) (by omega)]
        refine hC2 _ _ _ ⟨by omega, by omega, k2, ?_⟩ (by omega)
        have e : x3 = D.cnt := by omega
        rw [e] at k3
        rw [Int.add_mul, Int.one_mul]
        exact k3
      · have hsl := sig_lt ok (a := x2) (b := x3) ⟨g0, by omega⟩ ⟨k0, by omega⟩
        have hse := sig_eq (D := D) (a := x2) (b := x3) ⟨k0, by omega⟩
        have hm0 : 0 ≤ x2 * D.cnt := Int.mul_nonneg g0 (by omega)
        rw [wr_of (x := x2 * D.cnt) (by omega) (by omega), wr_of (x := x2 * D.cnt + x3) (by omega) (by omega), wr_of (x := x3 + 1) (by omega) (by omega)]
        have key := numberOne_w ok (i := m) (r := s) (L := ndl D (x2 * D.cnt + x3).toNat) (s := x2 * D.cnt + x3) (Q := fun i12 r13 => C3 (x3 + 1, i12, r13)) hm3 (by omega) ⟨hsl.1, hsl.2.2⟩ k3 (by have := ndl_len (D := D) (x2 * D.cnt + x3).toNat; omega) (fun i' r' f n => by
          refine hC3 _ _ _ ⟨by omega, by omega, k2.trans f, ?_⟩ (by omega)
          rw [← Int.add_assoc, ndl_at hsl.1]
          have e4 : r' 4 = s 4 := f.r _ (by omega)
          rw [e4]
          exact n)
        rw [hse.1, hse.2] at key
        exact key
  · rw [wr_of (by omega) (by omega)]
    refine hC _ _ ⟨by omega, by omega, h2.trans ⟨fun a p q s => st_row (by omega), fun _ _ => rfl⟩, by rw [st_row (by decide)]; exact h3, fun k a b => ?_⟩ (by omega)
    by_cases e : k = x
    · rw [e, st_eq]
    · rw [st_ne (by omega)]; exact h4 k a (by omega)
theorem nds_len {D : Dat} (ok : DOk D) : (nds D).length ≤ 96 := by
  have := ndl_len (D := D) (D.cnt * D.fac).toNat
  have := ok.body
  have h0 : 0 ≤ D.cnt * D.fac := Int.mul_nonneg ok.cnt.1 (by have := ok.fac; omega)
  unfold nds
  omega

/-! ===== nodes of the reference ===== -/
def wrN (D : Dat) (x : Int × Int) : Int := if x.2 = 3 ∧ (kdN D x = 3 ∨ kdN D x = 4) then 1 else if (x.2 = 0 ∨ x.2 = 1) ∧ (kdN D x = 3 ∨ kdN D x = 4) then 0 else -1
def attm (D : Dat) (x : Int × Int) (c : Int) : Int :=
  if c = 515 then x.1 else if c = 516 then x.2 else if c = 517 then kdN D x else if c = 518 then usN D x else if c = 519 then mkN D x
  else if c = 520 then wrN D x else if c = 521 then tnN D x else fpN D x
theorem msk_r {D : Dat} (ok : DOk D) {k p : Int} (hk : 0 ≤ k ∧ k < D.cnt) (hp : 0 ≤ p ∧ p < 3) : iOr 0 (mskN D k p) = mskN D k p := by
  unfold mskN
  split
  · rename_i e
    have := (ok.st k hk.1 hk.2).n0 p hp.1 hp.2 e
    have g : ∀ n : Nat, n < 8 → iOr 0 (iShl 1 (n : Int)) = iShl 1 (n : Int) := by decide +kernel
    have := g (D.N k p).toNat (by omega)
    rw [show (((D.N k p).toNat : Nat) : Int) = D.N k p by omega] at this
    exact this
  · decide
theorem c6 {P : Int → Prop} (h1 : P 515) (h2 : P 516) (h3 : P 517) (h4 : P 518) (h5 : P 519) (h6 : P 520) : ∀ c, 515 ≤ c → c ≤ 520 → P c := by
  intro c a b
  have : c = 515 ∨ c = 516 ∨ c = 517 ∨ c = 518 ∨ c = 519 ∨ c = 520 := by omega
  rcases this with rfl | rfl | rfl | rfl | rfl | rfl <;> assumption
/-! ===== edges: what they are ===== -/
theorem pig {α β : Type} [DecidableEq β] (R : β → α → Prop) (hinj : ∀ m x y, R m x → R m y → x = y) : ∀ (L : List α) (M : List β), L.Nodup → (∀ x ∈ L, ∃ m ∈ M, R m x) → L.length ≤ M.length := by
  intro L
  induction L with
  | nil => intro M _ _; exact Nat.zero_le _
  | cons x L ih =>
    intro M hn hm
    obtain ⟨m, h1, h2⟩ := hm x (List.mem_cons_self)
    have hx := List.nodup_cons.1 hn
    have h3 := ih (M.erase m) hx.2 (fun y hy => by
      obtain ⟨m', h4, h5⟩ := hm y (List.mem_cons_of_mem _ hy)
      have hne : m' ≠ m := by
        intro e
        rw [e] at h5
        have := hinj m x y h2 h5
        rw [this] at hx
        exact hx.1 hy
      exact ⟨m', (List.mem_erase_of_ne hne).2 h4, h5⟩)
    rw [List.length_erase_of_mem h1] at h3
    have : 0 < M.length := List.length_pos_of_mem h1
    simp only [List.length_cons]
    omega
def nn (D : Dat) : Int := (nds D).length
def nd (D : Dat) (v : Int) : Int × Int := (nds D).getD v.toNat (0, 0)
def kdv (D : Dat) (v : Int) : Int := kdN D (nd D v)
def mkv (D : Dat) (v : Int) : Int := mkN D (nd D v)
def cyv (D : Dat) (v : Int) : Int := D.cy (kdv D v)
def usv (D : Dat) (v p : Int) : Prop := iAnd (usN D (nd D v)) (iShl 1 p) ≠ 0
theorem nd_get {D : Dat} {v : Nat} (h : (v : Int) < nn D) : (nds D)[v]? = some (nd D v) := by
  unfold nn at h
  have h1 : v < (nds D).length := by omega
  unfold nd
  rw [show ((v : Nat) : Int).toNat = v by omega]
  simp [List.getElem?_eq_getElem h1]
theorem nd_mem {D : Dat} {v : Int} (h : 0 ≤ v ∧ v < nn D) : nd D v ∈ nds D := by
  have := nd_get (D := D) (v := v.toNat) (by omega)
  rw [show ((v.toNat : Nat) : Int) = v by omega] at this
  exact List.mem_of_getElem? this
theorem rls_mem {D : Dat} {k q : Int} (h : q ∈ rls D k) : (q = 0 ∧ isRd (D.F k 1)) ∨ (q = 1 ∧ D.O k ≠ 32 ∧ isRd (D.F k 2)) ∨ (q = 2 ∧ D.O k ≠ 32) ∨ (q = 3 ∧ D.F k 0 ≠ 0) ∨ (q = 4 ∧ D.F k 0 = 0 ∧ D.O k = 32 ∧ ¬ isRd (D.F k 1)) := by
  unfold rls at h
  rcases List.mem_append.1 h with h | h
  · by_cases e : isRd (D.F k 1)
    · rw [if_pos e] at h; simp at h; exact .inl ⟨h, e⟩
    · rw [if_neg e] at h; cases h
  rcases List.mem_append.1 h with h | h
  · by_cases e : D.O k = 32
    · rw [if_pos e] at h; cases h
    · rw [if_neg e] at h
      rcases List.mem_append.1 h with h | h
      · by_cases e2 : isRd (D.F k 2)
        · rw [if_pos e2] at h; simp at h; exact .inr (.inl ⟨h, e, e2⟩)
        · rw [if_neg e2] at h; cases h
      · simp at h; exact .inr (.inr (.inl ⟨h, e⟩))
  · by_cases e : D.F k 0 = 0
    · rw [if_pos e] at h
      by_cases e2 : D.O k = 32 ∧ ¬ isRd (D.F k 1)
      · rw [if_pos e2] at h; simp at h; exact .inr (.inr (.inr (.inr ⟨h, e, e2.1, e2.2⟩)))
      · rw [if_neg e2] at h; cases h
    · rw [if_neg e] at h; simp at h; exact .inr (.inr (.inr (.inl ⟨h, e⟩)))
theorem rls_nodup {D : Dat} {k : Int} : (rls D k).Nodup := by
  unfold rls
  repeat' split
  all_goals decide
theorem ndl_mem {D : Dat} {x : Int × Int} : ∀ {n : Nat}, x ∈ ndl D n → 0 ≤ x.1 ∧ x.1 < n ∧ x.2 ∈ rls D (x.1 % D.cnt) := by
  intro n
  induction n with
  | zero => intro h; cases h
  | succ n ih =>
    intro h
    rcases List.mem_append.1 h with h | h
    · have := ih h
      refine ⟨this.1, by omega, this.2.2⟩
    · obtain ⟨q, hq, e⟩ := List.mem_map.1 h
      rw [← e]
      exact ⟨by dsimp only; omega, by dsimp only; omega, hq⟩
theorem ndl_nodup {D : Dat} (n : Nat) : (ndl D n).Nodup := by
  induction n with
  | zero => exact List.nodup_nil
  | succ n ih =>
    refine List.nodup_append.2 ⟨ih, ?_, ?_⟩
    · unfold List.Nodup
      rw [List.pairwise_map]
      exact List.Pairwise.imp (fun h e => h (Prod.mk.inj e).2) rls_nodup
    · intro a ha b hb e
      have h1 := ndl_mem ha
      obtain ⟨q, hq, e2⟩ := List.mem_map.1 hb
      rw [e, ← e2] at h1
      have := h1.2.1
      dsimp only at this
      omega
theorem nd_inj {D : Dat} {u v : Int} (hu : 0 ≤ u ∧ u < nn D) (hv : 0 ≤ v ∧ v < nn D) (e : nd D u = nd D v) : u = v := by
  have a := nd_get (D := D) (v := u.toNat) (by omega)
  have b := nd_get (D := D) (v := v.toNat) (by omega)
  rw [show ((u.toNat : Nat) : Int) = u by omega] at a
  rw [show ((v.toNat : Nat) : Int) = v by omega] at b
  rw [e, ← b] at a
  have hl := get_lt b
  have hl2 : u.toNat < (nds D).length := by unfold nn at hu; omega
  have := (ndl_nodup (D := D) (D.cnt * D.fac).toNat)
  have h2 := (List.getElem?_inj hl2 this).1 a
  omega
theorem nd_ok {D : Dat} (ok : DOk D) {v : Int} (h : 0 ≤ v ∧ v < nn D) : 0 ≤ (nd D v).1 ∧ (nd D v).1 < 24 ∧ 0 ≤ stK D (nd D v) ∧ stK D (nd D v) < D.cnt ∧ (nd D v).2 ∈ rls D (stK D (nd D v)) := by
  have h1 := ndl_mem (nd_mem h)
  have hb := ok.body
  have hc := ok.cnt
  have hf := ok.fac
  have h0 : 0 ≤ D.cnt * D.fac := Int.mul_nonneg hc.1 (by omega)
  have hpos : 0 < D.cnt := by
    rcases Int.lt_or_le 0 D.cnt with q | q
    · exact q
    · have : D.cnt = 0 := by omega
      rw [this, Int.zero_mul] at h1
      simp at h1
      omega
  refine ⟨h1.1, by omega, Int.emod_nonneg _ (by omega), Int.emod_lt_of_pos _ hpos, h1.2.2⟩
theorem nn_le {D : Dat} (ok : DOk D) : 0 ≤ nn D ∧ nn D ≤ 96 := by
  have := nds_len ok
  unfold nn
  omega
theorem kdv_r {D : Dat} (ok : DOk D) {v : Int} (h : 0 ≤ v ∧ v < nn D) : 0 ≤ kdv D v ∧ kdv D v < 7 := by
  obtain ⟨h1, h2, h3, h4, h5⟩ := nd_ok ok h
  have sok := ok.st _ h3 h4
  have f0 := sok.f0
  have := opk_r (D.O (stK D (nd D v)))
  unfold kdv kdN
  rcases rls_mem h5 with q | q | q | q | q
  · rw [if_pos q.1]; omega
  · rw [if_neg (by omega), if_pos q.1]; omega
  · rw [if_neg (by omega), if_neg (by omega), if_pos q.1]; omega
  · rw [if_neg (by omega), if_neg (by omega), if_neg (by omega), if_pos q.1]; omega
  · rw [if_neg (by omega), if_neg (by omega), if_neg (by omega), if_neg (by omega)]; omega
theorem cyv_r {D : Dat} (ok : DOk D) {v : Int} (h : 0 ≤ v ∧ v < nn D) : 1 ≤ cyv D v ∧ cyv D v ≤ 5 := by
  have := kdv_r ok h
  exact ok.cy _ this.1 this.2
theorem bit_one : ∀ a < 8, ∀ p < 8, (iAnd (iShl 1 ((a : Nat) : Int)) (iShl 1 ((p : Nat) : Int)) ≠ 0 ↔ a = p) := by decide +kernel
theorem bit_two : ∀ a < 8, ∀ b < 8, ∀ p < 8, (iAnd (iOr (iShl 1 ((a : Nat) : Int)) (iShl 1 ((b : Nat) : Int))) (iShl 1 ((p : Nat) : Int)) ≠ 0 ↔ (a = p ∨ b = p)) := by decide +kernel
theorem bit_l : ∀ a < 8, iOr (iShl 1 ((a : Nat) : Int)) 0 = iShl 1 ((a : Nat) : Int) ∧ iOr 0 (iShl 1 ((a : Nat) : Int)) = iShl 1 ((a : Nat) : Int) := by decide +kernel
theorem bit_z : ∀ p < 8, iAnd 0 (iShl 1 ((p : Nat) : Int)) = 0 := by decide +kernel
/-- which registers a node uses -/
def useP (D : Dat) (x : Int × Int) (p : Int) : Prop :=
  (x.2 = 2 ∧ ((D.F (stK D x) 1 = 0 ∧ D.N (stK D x) 1 = p) ∨ (D.F (stK D x) 2 = 0 ∧ D.N (stK D x) 2 = p))) ∨ ((x.2 = 4 ∨ (x.2 = 3 ∧ D.O (stK D x) = 32)) ∧ D.F (stK D x) 1 = 0 ∧ D.N (stK D x) 1 = p)
theorem msk_c {D : Dat} (ok : DOk D) {k q : Int} (hk : 0 ≤ k ∧ k < D.cnt) (hq : 0 ≤ q ∧ q < 3) : (D.F k q = 0 ∧ ∃ a : Nat, a < 8 ∧ D.N k q = a ∧ mskN D k q = iShl 1 (a : Int)) ∨ (D.F k q ≠ 0 ∧ mskN D k q = 0) := by
  by_cases e : D.F k q = 0
  · left
    have := (ok.st k hk.1 hk.2).n0 q hq.1 hq.2 e
    refine ⟨e, (D.N k q).toNat, by omega, by omega, ?_⟩
    unfold mskN
    rw [if_pos e, show (((D.N k q).toNat : Nat) : Int) = D.N k q by omega]
  · right
    unfold mskN
    rw [if_neg e]
    exact ⟨e, rfl⟩
theorem usv_iff {D : Dat} (ok : DOk D) {v p : Int} (h : 0 ≤ v ∧ v < nn D) (hp : 0 ≤ p ∧ p < 8) : usv D v p ↔ useP D (nd D v) p := by
  obtain ⟨h1, h2, h3, h4, h5⟩ := nd_ok ok h
  obtain ⟨n, rfl⟩ := Int.eq_ofNat_of_zero_le hp.1
  have hn : n < 8 := by omega
  unfold usv useP usN
  have m1 := msk_c ok ⟨h3, h4⟩ (q := 1) (by decide)
  have m2 := msk_c ok ⟨h3, h4⟩ (q := 2) (by decide)
  by_cases e2 : (nd D v).2 = 2
  · rw [if_pos e2]
    rcases m1 with ⟨f1, a, ha, ea, ma⟩ | ⟨f1, ma⟩ <;> rcases m2 with ⟨f2, b, hb, eb, mb⟩ | ⟨f2, mb⟩
    · rw [ma, mb, bit_two a ha b hb n hn]; simp [e2, f1, f2, ea, eb]; omega
    · rw [ma, mb, (bit_l a ha).1, bit_one a ha n hn]; simp [e2, f1, f2, ea]; omega
    · rw [ma, mb, (bit_l b hb).2, bit_one b hb n hn]; simp [e2, f1, f2, eb]; omega
    · rw [ma, mb, show iOr 0 0 = 0 by decide, bit_z n hn]; simp [e2, f1, f2]
  · rw [if_neg e2]
    by_cases e4 : (nd D v).2 = 4 ∨ ((nd D v).2 = 3 ∧ D.O (stK D (nd D v)) = 32)
    · rw [if_pos e4]
      rcases m1 with ⟨f1, a, ha, ea, ma⟩ | ⟨f1, ma⟩
      · rw [ma, bit_one a ha n hn]; simp [e2, e4, f1, ea]; omega
      · rw [ma, bit_z n hn]; simp [e2, f1]
    · rw [if_neg e4, bit_z n hn]; simp [e2, e4]
/-- two users of one statement are one -/
theorem user_one {D : Dat} (ok : DOk D) {u v p q : Int} (hu : 0 ≤ u ∧ u < nn D) (hv : 0 ≤ v ∧ v < nn D) (h1 : useP D (nd D u) p) (h2 : useP D (nd D v) q) (e : (nd D u).1 = (nd D v).1) : u = v := by
  obtain ⟨_, _, _, _, a5⟩ := nd_ok ok hu
  obtain ⟨_, _, _, _, b5⟩ := nd_ok ok hv
  refine nd_inj hu hv ?_
  have ek : stK D (nd D u) = stK D (nd D v) := by unfold stK; rw [e]
  rw [ek] at a5
  have : (nd D u).2 = (nd D v).2 := by
    unfold useP at h1 h2
    rw [ek] at h1
    rcases rls_mem a5 with w | w | w | w | w <;> rcases rls_mem b5 with z | z | z | z | z <;> omega
  exact Prod.ext e this

/-! raw edges -/
/-- m is the last maker of a register ahead of u -/
def isPrev (D : Dat) (p m u : Int) : Prop := 0 ≤ m ∧ m < nn D ∧ m < u ∧ mkv D m = p ∧ ∀ k, m < k → k < u → k < nn D → mkv D k ≠ p
def noPrev (D : Dat) (p u : Int) : Prop := ∀ k, 0 ≤ k → k < u → k < nn D → mkv D k ≠ p
/-- m is the next maker of a register behind a -/
def isNext (D : Dat) (p a m : Int) : Prop := 0 ≤ m ∧ m < nn D ∧ a < m ∧ mkv D m = p ∧ ∀ k, 0 ≤ k → a < k → k < m → mkv D k ≠ p
def noNext (D : Dat) (p a : Int) : Prop := ∀ k, 0 ≤ k → a < k → k < nn D → mkv D k ≠ p
/-- the next and the first node of a kind -/
def isNextK (D : Dat) (c a m : Int) : Prop := 0 ≤ m ∧ m < nn D ∧ a < m ∧ kdv D m = c ∧ ∀ k, 0 ≤ k → a < k → k < m → kdv D k ≠ c
def noNextK (D : Dat) (c a : Int) : Prop := ∀ k, 0 ≤ k → a < k → k < nn D → kdv D k ≠ c
def makeE (D : Dat) (p f t d : Int) : Prop := (isPrev D p f t ∧ d = 0) ∨ (noPrev D p t ∧ isPrev D p f (nn D) ∧ d = 1)
def nextE (D : Dat) (p f t d : Int) : Prop := f ≠ t ∧ ((isNext D p f t ∧ d = 0) ∨ (noNext D p f ∧ isNext D p (-1) t ∧ d = 1))
def chanE (D : Dat) (f t d : Int) : Prop := f ≠ t ∧ 5 ≤ kdv D f ∧ kdv D f = kdv D t ∧ ((isNextK D (kdv D f) f t ∧ d = 0) ∨ (noNextK D (kdv D f) f ∧ isNextK D (kdv D f) (-1) t ∧ d = 1))
def isMem (D : Dat) (v : Int) : Prop := kdv D v = 3 ∨ kdv D v = 4
def memD (D : Dat) (f t d : Int) : Prop :=
  if tnN D (nd D f) = 1 ∧ tnN D (nd D t) = 1 then 0 ≤ d ∧ (fpN D (nd D f) - fpN D (nd D t)) = D.fac * d ∧ (d = 0 → f < t)
  else (tnN D (nd D f) = 0 ∧ tnN D (nd D t) = 0 → fpN D (nd D f) = fpN D (nd D t)) ∧ d = if f < t then 0 else 1
def wrv (D : Dat) (v : Int) : Prop := (nd D v).2 = 3
def memE (D : Dat) (f t d : Int) : Prop := f ≠ t ∧ isMem D f ∧ kdv D f = kdv D t ∧ (wrv D f ∨ wrv D t) ∧ memD D f t d
def withE (D : Dat) (f t : Int) : Prop := f = g1N D t (nd D t) ∨ f = g2N D t (nd D t)
def Raw (D : Dat) (f t d w : Int) : Prop := 0 ≤ f ∧ f < nn D ∧ 0 ≤ t ∧ t < nn D ∧
  ((withE D f t ∧ d = 0 ∧ w = cyv D f) ∨ (∃ p, 0 ≤ p ∧ p < 8 ∧ usv D t p ∧ makeE D p f t d ∧ w = cyv D f)
  ∨ (∃ p, 0 ≤ p ∧ p < 8 ∧ nextE D p f t d ∧ ((usv D f p ∧ w = 1 - cyv D t) ∨ (mkv D f = p ∧ w = 1 - cyv D t + cyv D f)))
  ∨ (memE D f t d ∧ ((¬ wrv D t ∧ w = cyv D f) ∨ (wrv D t ∧ ¬ wrv D f ∧ w = 1 - cyv D t) ∨ (wrv D t ∧ wrv D f ∧ w = 1)))
  ∨ (chanE D f t d ∧ w = 1))
theorem prev_uniq {D : Dat} {p m m' u : Int} (h : isPrev D p m u) (g : isPrev D p m' u) : m = m' := by
  obtain ⟨a1, a2, a3, a4, a5⟩ := h
  obtain ⟨b1, b2, b3, b4, b5⟩ := g
  rcases Int.lt_trichotomy m m' with q | q | q
  · exact absurd b4 (a5 m' q b3 b2)
  · exact q
  · exact absurd a4 (b5 m q a3 a2)
theorem next_uniq {D : Dat} {p m m' a : Int} (h : isNext D p a m) (g : isNext D p a m') : m = m' := by
  obtain ⟨a1, a2, a3, a4, a5⟩ := h
  obtain ⟨b1, b2, b3, b4, b5⟩ := g
  rcases Int.lt_trichotomy m m' with q | q | q
  · exact absurd a4 (b5 m a1 a3 q)
  · exact q
  · exact absurd b4 (a5 m' b1 b3 q)
theorem nextK_uniq {D : Dat} {p m m' a : Int} (h : isNextK D p a m) (g : isNextK D p a m') : m = m' := by
  obtain ⟨a1, a2, a3, a4, a5⟩ := h
  obtain ⟨b1, b2, b3, b4, b5⟩ := g
  rcases Int.lt_trichotomy m m' with q | q | q
  · exact absurd a4 (b5 m a1 a3 q)
  · exact q
  · exact absurd b4 (a5 m' b1 b3 q)
theorem next_no {D : Dat} {p a m : Int} (h : isNext D p a m) (g : noNext D p a) : False := g m h.1 h.2.2.1 h.2.1 h.2.2.2.1
theorem prev_no {D : Dat} {p u m : Int} (h : isPrev D p m u) (g : noPrev D p u) : False := g m h.1 h.2.2.1 h.2.1 h.2.2.2.1
theorem nextE_uniq {D : Dat} {p f t d t' d' : Int} (h : nextE D p f t d) (g : nextE D p f t' d') : t = t' ∧ d = d' := by
  obtain ⟨h0, h1⟩ := h
  obtain ⟨g0, g1⟩ := g
  rcases h1 with ⟨a, b⟩ | ⟨a, b, c⟩ <;> rcases g1 with ⟨a', b'⟩ | ⟨a', b', c'⟩
  · exact ⟨next_uniq a a', by omega⟩
  · exact absurd a' (fun z => next_no a z)
  · exact absurd a (fun z => next_no a' z)
  · exact ⟨next_uniq b b', by omega⟩
theorem chanE_uniq {D : Dat} {f t d t' d' : Int} (h : chanE D f t d) (g : chanE D f t' d') : t = t' ∧ d = d' := by
  obtain ⟨h0, h5, hk, h1⟩ := h
  obtain ⟨g0, g5, gk, g1⟩ := g
  rcases h1 with ⟨a, b⟩ | ⟨a, b, c⟩ <;> rcases g1 with ⟨a', b'⟩ | ⟨a', b', c'⟩
  · exact ⟨nextK_uniq a a', by omega⟩
  · exact absurd (a' t a.1 a.2.2.1 a.2.1) (fun z => z a.2.2.2.1)
  · exact absurd (a t' a'.1 a'.2.2.1 a'.2.1) (fun z => z a'.2.2.2.1)
  · exact ⟨nextK_uniq b b', by omega⟩
theorem makeE_uniq {D : Dat} {p p' f t d d' : Int} (h : makeE D p f t d) (g : makeE D p' f t d') : d = d' := by
  have hp : p = mkv D f := by
    rcases h with ⟨a, b⟩ | ⟨a, b, c⟩
    · exact a.2.2.2.1.symm
    · exact b.2.2.2.1.symm
  have gp : p' = mkv D f := by
    rcases g with ⟨a, b⟩ | ⟨a, b, c⟩
    · exact a.2.2.2.1.symm
    · exact b.2.2.2.1.symm
  rw [hp] at h
  rw [gp] at g
  rcases h with ⟨a, b⟩ | ⟨a, b, c⟩ <;> rcases g with ⟨a', b'⟩ | ⟨a', b', c'⟩
  · omega
  · exact absurd a' (fun z => prev_no a z)
  · exact absurd a (fun z => prev_no a' z)
  · omega
theorem memE_uniq {D : Dat} (ok : DOk D) {f t d d' : Int} (h : memE D f t d) (g : memE D f t d') : d = d' := by
  have h1 := h.2.2.2.2
  have g1 := g.2.2.2.2
  have hf := ok.fac
  unfold memD at h1 g1
  by_cases e : tnN D (nd D f) = 1 ∧ tnN D (nd D t) = 1
  · rw [if_pos e] at h1 g1
    have : D.fac * d = D.fac * d' := by omega
    exact Int.eq_of_mul_eq_mul_left (by omega) this
  · rw [if_neg e] at h1 g1
    rw [h1.2, g1.2]
theorem with_role {D : Dat} (ok : DOk D) {f t : Int} (ht : 0 ≤ t ∧ t < nn D) (hf : 0 ≤ f) (h : withE D f t) : f < t ∧ (nd D t).2 ≠ 4 ∧ ((nd D t).2 = 2 ∨ (nd D t).2 = 3) ∧ (f = t - 1 ∨ (f = t - 2 ∧ (nd D t).2 = 2 ∧ isRd (D.F (stK D (nd D t)) 1) ∧ isRd (D.F (stK D (nd D t)) 2))) := by
  unfold withE g1N g2N at h
  rcases h with h | h
  · by_cases e2 : (nd D t).2 = 2
    · rw [if_pos e2] at h
      by_cases r1 : isRd (D.F (stK D (nd D t)) 1)
      · rw [if_pos r1] at h
        by_cases r2 : isRd (D.F (stK D (nd D t)) 2)
        · rw [if_pos r2] at h
          exact ⟨by omega, by omega, by omega, .inr ⟨h, e2, r1, r2⟩⟩
        · rw [if_neg r2] at h
          exact ⟨by omega, by omega, by omega, .inl h⟩
      · rw [if_neg r1] at h; omega
    · rw [if_neg e2] at h
      by_cases e3 : (nd D t).2 = 3
      · rw [if_pos e3] at h
        by_cases r1 : D.O (stK D (nd D t)) ≠ 32 ∨ isRd (D.F (stK D (nd D t)) 1)
        · rw [if_pos r1] at h
          exact ⟨by omega, by omega, by omega, .inl h⟩
        · rw [if_neg r1] at h; omega
      · rw [if_neg e3] at h; omega
  · by_cases e2 : (nd D t).2 = 2 ∧ isRd (D.F (stK D (nd D t)) 2)
    · rw [if_pos e2] at h
      exact ⟨by omega, by omega, by omega, .inl h⟩
    · rw [if_neg e2] at h; omega

/-! where the nodes of a statement stand -/
def bs (D : Dat) (s : Int) : Int := (ndl D s.toNat).length
theorem ndl_seg {D : Dat} {s j : Nat} {q : Int} (hq : (rls D ((s : Int) % D.cnt))[j]? = some q) : ∀ {K : Nat}, s < K → (ndl D K)[(ndl D s).length + j]? = some ((s : Int), q) := by
  intro K
  induction K with
  | zero => intro h; omega
  | succ K ih =>
    intro h
    have hj := get_lt hq
    show (ndl D K ++ (rls D ((K : Int) % D.cnt)).map (fun q => ((K : Int), q)))[(ndl D s).length + j]? = _
    by_cases e : s = K
    · subst e
      rw [List.getElem?_append_right (by omega), show (ndl D s).length + j - (ndl D s).length = j by omega, List.getElem?_map, hq]
      rfl
    · have := ih (by omega)
      rw [List.getElem?_append_left (get_lt this)]
      exact this
theorem seg_at {D : Dat} {s : Int} {j : Nat} {q : Int} (hs : 0 ≤ s ∧ s < D.cnt * D.fac) (hq : (rls D (s % D.cnt))[j]? = some q) : nd D (bs D s + j) = (s, q) ∧ 0 ≤ bs D s + j ∧ bs D s + j < nn D := by
  obtain ⟨n, rfl⟩ := Int.eq_ofNat_of_zero_le hs.1
  have h := ndl_seg (K := (D.cnt * D.fac).toNat) hq (by omega)
  have hl := get_lt h
  have e1 : bs D (n : Int) = (ndl D n).length := by unfold bs; rw [show ((n : Nat) : Int).toNat = n by omega]
  refine ⟨?_, by omega, ?_⟩
  · unfold nd nds
    rw [e1, show (((ndl D n).length : Int) + (j : Int)).toNat = (ndl D n).length + j by omega]
    simp [List.getD, h]
  · unfold nn nds
    rw [e1]
    omega
theorem seg_of {D : Dat} (ok : DOk D) {v : Int} (h : 0 ≤ v ∧ v < nn D) : ∃ j : Nat, v = bs D (nd D v).1 + j ∧ (rls D (stK D (nd D v)))[j]? = some (nd D v).2 ∧ 0 ≤ (nd D v).1 ∧ (nd D v).1 < D.cnt * D.fac := by
  have h1 := ndl_mem (nd_mem h)
  have h0 : 0 ≤ D.cnt * D.fac := Int.mul_nonneg ok.cnt.1 (by have := ok.fac; omega)
  obtain ⟨j, hj⟩ := List.mem_iff_getElem?.1 h1.2.2
  have hs : 0 ≤ (nd D v).1 ∧ (nd D v).1 < D.cnt * D.fac := ⟨h1.1, by omega⟩
  have h2 := seg_at hs hj
  exact ⟨j, nd_inj h h2.2 (by rw [h2.1]), hj, hs⟩
/-- the four shapes ahead of the writing -/
theorem rls_shape (D : Dat) (k : Int) : ∃ tl : List Int, (tl = [] ∨ tl = [3]) ∧ (D.F k 0 = 0 → tl = []) ∧ (D.F k 0 ≠ 0 → tl = [3]) ∧
    ((isRd (D.F k 1) ∧ D.O k ≠ 32 ∧ isRd (D.F k 2) ∧ rls D k = [0, 1, 2] ++ tl) ∨ (isRd (D.F k 1) ∧ D.O k ≠ 32 ∧ ¬ isRd (D.F k 2) ∧ rls D k = [0, 2] ++ tl)
    ∨ (¬ isRd (D.F k 1) ∧ D.O k ≠ 32 ∧ isRd (D.F k 2) ∧ rls D k = [1, 2] ++ tl) ∨ (¬ isRd (D.F k 1) ∧ D.O k ≠ 32 ∧ ¬ isRd (D.F k 2) ∧ rls D k = [2] ++ tl)
    ∨ (isRd (D.F k 1) ∧ D.O k = 32 ∧ rls D k = [0] ++ tl) ∨ (¬ isRd (D.F k 1) ∧ D.O k = 32 ∧ D.F k 0 ≠ 0 ∧ rls D k = tl) ∨ (¬ isRd (D.F k 1) ∧ D.O k = 32 ∧ D.F k 0 = 0 ∧ rls D k = [4])) := by
  refine ⟨if D.F k 0 = 0 then [] else [3], ?_, fun e => if_pos e, fun e => if_neg e, ?_⟩
  · split
    · exact .inl rfl
    · exact .inr rfl
  · by_cases r1 : isRd (D.F k 1)
    · by_cases o : D.O k = 32
      · refine .inr (.inr (.inr (.inr (.inl ⟨r1, o, ?_⟩))))
        unfold rls
        rw [if_pos r1, if_pos o]
        by_cases e : D.F k 0 = 0
        · rw [if_pos e, if_pos e, if_neg (fun q => q.2 r1)]; rfl
        · rw [if_neg e, if_neg e]; rfl
      · by_cases r2 : isRd (D.F k 2)
        · refine .inl ⟨r1, o, r2, ?_⟩
          unfold rls
          rw [if_pos r1, if_neg o, if_pos r2]
          by_cases e : D.F k 0 = 0
          · rw [if_pos e, if_pos e, if_neg (fun q => o q.1)]; rfl
          · rw [if_neg e, if_neg e]; rfl
        · refine .inr (.inl ⟨r1, o, r2, ?_⟩)
          unfold rls
          rw [if_pos r1, if_neg o, if_neg r2]
          by_cases e : D.F k 0 = 0
          · rw [if_pos e, if_pos e, if_neg (fun q => o q.1)]; rfl
          · rw [if_neg e, if_neg e]; rfl
    · by_cases o : D.O k = 32
      · by_cases e : D.F k 0 = 0
        · refine .inr (.inr (.inr (.inr (.inr (.inr ⟨r1, o, e, ?_⟩)))))
          unfold rls
          rw [if_neg r1, if_pos o, if_pos e, if_pos ⟨o, r1⟩]; rfl
        · refine .inr (.inr (.inr (.inr (.inr (.inl ⟨r1, o, e, ?_⟩)))))
          unfold rls
          rw [if_neg r1, if_pos o, if_neg e, if_neg e]; rfl
      · by_cases r2 : isRd (D.F k 2)
        · refine .inr (.inr (.inl ⟨r1, o, r2, ?_⟩))
          unfold rls
          rw [if_neg r1, if_neg o, if_pos r2]
          by_cases e : D.F k 0 = 0
          · rw [if_pos e, if_pos e, if_neg (fun q => o q.1)]; rfl
          · rw [if_neg e, if_neg e]; rfl
        · refine .inr (.inr (.inr (.inl ⟨r1, o, r2, ?_⟩)))
          unfold rls
          rw [if_neg r1, if_neg o, if_neg r2]
          by_cases e : D.F k 0 = 0
          · rw [if_pos e, if_pos e, if_neg (fun q => o q.1)]; rfl
          · rw [if_neg e, if_neg e]; rfl
theorem get_c0 {α : Type} {a y : α} {l : List α} {j : Nat} (h : (a :: l)[j]? = some y) : (j = 0 ∧ y = a) ∨ (∃ i, j = i + 1 ∧ l[i]? = some y) := by
  cases j with
  | zero => left; simp at h; exact ⟨rfl, h.symm⟩
  | succ i => right; exact ⟨i, rfl, by simpa using h⟩
/-- of a statement's list: what stands ahead of a part -/
theorem rls_prev {D : Dat} {k q : Int} {j : Nat} (h : (rls D k)[j]? = some q) :
    (q = 2 → isRd (D.F k 2) → 1 ≤ j ∧ (rls D k)[j - 1]? = some 1 ∧ (isRd (D.F k 1) → 2 ≤ j ∧ (rls D k)[j - 2]? = some 0))
    ∧ (q = 2 → ¬ isRd (D.F k 2) → isRd (D.F k 1) → 1 ≤ j ∧ (rls D k)[j - 1]? = some 0)
    ∧ (q = 3 → D.O k ≠ 32 → 1 ≤ j ∧ (rls D k)[j - 1]? = some 2)
    ∧ (q = 3 → D.O k = 32 → isRd (D.F k 1) → 1 ≤ j ∧ (rls D k)[j - 1]? = some 0) := by
  obtain ⟨tl, ht, -, -, hs⟩ := rls_shape D k
  rcases hs with ⟨r1, o, r2, e⟩ | ⟨r1, o, r2, e⟩ | ⟨r1, o, r2, e⟩ | ⟨r1, o, r2, e⟩ | ⟨r1, o, e⟩ | ⟨r1, o, f0, e⟩ | ⟨r1, o, f0, e⟩ <;> rw [e] at h ⊢
  · rcases ht with rfl | rfl
    · match j, h with
      | 0, h => simp at h; subst h; refine ⟨?_, ?_, ?_, ?_⟩ <;> intro z <;> exact absurd z (by decide)
      | 1, h => simp at h; subst h; refine ⟨?_, ?_, ?_, ?_⟩ <;> intro z <;> exact absurd z (by decide)
      | 2, h => simp at h; subst h; exact ⟨fun _ _ => ⟨by decide, rfl, fun _ => ⟨by decide, rfl⟩⟩, fun _ z => absurd r2 z, fun z => absurd z (by decide), fun z => absurd z (by decide)⟩
      | n + 3, h => simp at h
    · match j, h with
      | 0, h => simp at h; subst h; refine ⟨?_, ?_, ?_, ?_⟩ <;> intro z <;> exact absurd z (by decide)
      | 1, h => simp at h; subst h; refine ⟨?_, ?_, ?_, ?_⟩ <;> intro z <;> exact absurd z (by decide)
      | 2, h => simp at h; subst h; exact ⟨fun _ _ => ⟨by decide, rfl, fun _ => ⟨by decide, rfl⟩⟩, fun _ z => absurd r2 z, fun z => absurd z (by decide), fun z => absurd z (by decide)⟩
      | 3, h => simp at h; subst h; exact ⟨fun z => absurd z (by decide), fun z => absurd z (by decide), fun _ _ => ⟨by decide, rfl⟩, fun _ z => absurd z o⟩
      | n + 4, h => simp at h
  · rcases ht with rfl | rfl
    · match j, h with
      | 0, h => simp at h; subst h; refine ⟨?_, ?_, ?_, ?_⟩ <;> intro z <;> exact absurd z (by decide)
      | 1, h => simp at h; subst h; exact ⟨fun _ z => absurd z r2, fun _ _ _ => ⟨by decide, rfl⟩, fun z => absurd z (by decide), fun z => absurd z (by decide)⟩
      | n + 2, h => simp at h
    · match j, h with
      | 0, h => simp at h; subst h; refine ⟨?_, ?_, ?_, ?_⟩ <;> intro z <;> exact absurd z (by decide)
      | 1, h => simp at h; subst h; exact ⟨fun _ z => absurd z r2, fun _ _ _ => ⟨by decide, rfl⟩, fun z => absurd z (by decide), fun z => absurd z (by decide)⟩
      | 2, h => simp at h; subst h; exact ⟨fun z => absurd z (by decide), fun z => absurd z (by decide), fun _ _ => ⟨by decide, rfl⟩, fun _ z => absurd z o⟩
      | n + 3, h => simp at h
  · rcases ht with rfl | rfl
    · match j, h with
      | 0, h => simp at h; subst h; refine ⟨?_, ?_, ?_, ?_⟩ <;> intro z <;> exact absurd z (by decide)
      | 1, h => simp at h; subst h; exact ⟨fun _ _ => ⟨by decide, rfl, fun z => absurd z r1⟩, fun _ z => absurd r2 z, fun z => absurd z (by decide), fun z => absurd z (by decide)⟩
      | n + 2, h => simp at h
    · match j, h with
      | 0, h => simp at h; subst h; refine ⟨?_, ?_, ?_, ?_⟩ <;> intro z <;> exact absurd z (by decide)
      | 1, h => simp at h; subst h; exact ⟨fun _ _ => ⟨by decide, rfl, fun z => absurd z r1⟩, fun _ z => absurd r2 z, fun z => absurd z (by decide), fun z => absurd z (by decide)⟩
      | 2, h => simp at h; subst h; exact ⟨fun z => absurd z (by decide), fun z => absurd z (by decide), fun _ _ => ⟨by decide, rfl⟩, fun _ z => absurd z o⟩
      | n + 3, h => simp at h
  · rcases ht with rfl | rfl
    · match j, h with
      | 0, h => simp at h; subst h; exact ⟨fun _ z => absurd z r2, fun _ _ z => absurd z r1, fun z => absurd z (by decide), fun z => absurd z (by decide)⟩
      | n + 1, h => simp at h
    · match j, h with
      | 0, h => simp at h; subst h; exact ⟨fun _ z => absurd z r2, fun _ _ z => absurd z r1, fun z => absurd z (by decide), fun z => absurd z (by decide)⟩
      | 1, h => simp at h; subst h; exact ⟨fun z => absurd z (by decide), fun z => absurd z (by decide), fun _ _ => ⟨by decide, rfl⟩, fun _ z => absurd z o⟩
      | n + 2, h => simp at h
  · rcases ht with rfl | rfl
    · match j, h with
      | 0, h => simp at h; subst h; refine ⟨?_, ?_, ?_, ?_⟩ <;> intro z <;> exact absurd z (by decide)
      | n + 1, h => simp at h
    · match j, h with
      | 0, h => simp at h; subst h; refine ⟨?_, ?_, ?_, ?_⟩ <;> intro z <;> exact absurd z (by decide)
      | 1, h => simp at h; subst h; exact ⟨fun z => absurd z (by decide), fun z => absurd z (by decide), fun _ z => absurd o z, fun _ _ _ => ⟨by decide, rfl⟩⟩
      | n + 2, h => simp at h
  · rcases ht with rfl | rfl
    · simp at h
    · match j, h with
      | 0, h => simp at h; subst h; exact ⟨fun z => absurd z (by decide), fun z => absurd z (by decide), fun _ z => absurd o z, fun _ _ z => absurd z r1⟩
      | n + 1, h => simp at h
  · match j, h with
    | 0, h => simp at h; subst h; refine ⟨?_, ?_, ?_, ?_⟩ <;> intro z <;> exact absurd z (by decide)
    | n + 1, h => simp at h

theorem nd_prev {D : Dat} (ok : DOk D) {v : Int} (h : 0 ≤ v ∧ v < nn D) :
    ((nd D v).2 = 2 → isRd (D.F (stK D (nd D v)) 2) → 1 ≤ v ∧ nd D (v - 1) = ((nd D v).1, 1) ∧ (isRd (D.F (stK D (nd D v)) 1) → 2 ≤ v ∧ nd D (v - 2) = ((nd D v).1, 0)))
    ∧ ((nd D v).2 = 2 → ¬ isRd (D.F (stK D (nd D v)) 2) → isRd (D.F (stK D (nd D v)) 1) → 1 ≤ v ∧ nd D (v - 1) = ((nd D v).1, 0))
    ∧ ((nd D v).2 = 3 → D.O (stK D (nd D v)) ≠ 32 → 1 ≤ v ∧ nd D (v - 1) = ((nd D v).1, 2))
    ∧ ((nd D v).2 = 3 → D.O (stK D (nd D v)) = 32 → isRd (D.F (stK D (nd D v)) 1) → 1 ≤ v ∧ nd D (v - 1) = ((nd D v).1, 0)) := by
  obtain ⟨j, e, hj, hs⟩ := seg_of ok h
  obtain ⟨a, b, c, d⟩ := rls_prev hj
  have hb : 0 ≤ bs D (nd D v).1 := by unfold bs; omega
  have step : ∀ (i : Nat) (q : Int), i ≤ j → (rls D (stK D (nd D v)))[j - i]? = some q → (i : Int) ≤ v ∧ nd D (v - i) = ((nd D v).1, q) := by
    intro i q hi hq
    have := seg_at hs hq
    rw [show bs D (nd D v).1 + ((j - i : Nat) : Int) = v - i by omega] at this
    exact ⟨by omega, this.1⟩
  refine ⟨fun x y => ?_, fun x y z => ?_, fun x y => ?_, fun x y z => ?_⟩
  · obtain ⟨g1, g2, g3⟩ := a x y
    have s1 := step 1 _ g1 g2
    refine ⟨s1.1, s1.2, fun w => ?_⟩
    obtain ⟨g4, g5⟩ := g3 w
    exact step 2 _ g4 g5
  · obtain ⟨g1, g2⟩ := b x y z
    exact step 1 _ g1 g2
  · obtain ⟨g1, g2⟩ := c x y
    exact step 1 _ g1 g2
  · obtain ⟨g1, g2⟩ := d x y z
    exact step 1 _ g1 g2
theorem with_uniq {D : Dat} (ok : DOk D) {f t t' : Int} (hf : 0 ≤ f) (ht : 0 ≤ t ∧ t < nn D) (ht' : 0 ≤ t' ∧ t' < nn D) (h : withE D f t) (g : withE D f t') : t = t' := by
  have h1 := with_role ok ht hf h
  have g1 := with_role ok ht' hf g
  rcases h1.2.2.2 with a | ⟨a, a2, a3, a4⟩ <;> rcases g1.2.2.2 with b | ⟨b, b2, b3, b4⟩
  · omega
  · have := ((nd_prev ok ht').1 b2 b4).2.1
    rw [show t' - 1 = t by omega] at this
    have h2 := h1.2.2.1
    rw [this] at h2
    dsimp only at h2
    omega
  · have := ((nd_prev ok ht).1 a2 a4).2.1
    rw [show t - 1 = t' by omega] at this
    have h2 := g1.2.2.1
    rw [this] at h2
    dsimp only at h2
    omega
  · omega
/-- what marks an edge from f: no two edges have one mark -/
def Mark (D : Dat) (f : Int) (m : Int × Int × Int) (x : Int × Int) : Prop := 0 ≤ x.1 ∧ x.1 < nn D ∧
  ((m.1 = 0 ∧ memE D f x.1 x.2 ∧ nd D x.1 = m.2) ∨ (m.1 = 1 ∧ m.2.2 = 0 ∧ (∃ p q, useP D (nd D x.1) q ∧ makeE D p f x.1 x.2) ∧ (nd D x.1).1 = m.2.1)
  ∨ (m = (2, 0, 0) ∧ withE D f x.1 ∧ x.2 = 0) ∨ (m = (2, 1, 0) ∧ chanE D f x.1 x.2) ∨ (m.1 = 2 ∧ m.2.1 = 2 ∧ nextE D m.2.2 f x.1 x.2))
theorem mark_inj {D : Dat} (ok : DOk D) {f : Int} (hf : 0 ≤ f) : ∀ m x y, Mark D f m x → Mark D f m y → x = y := by
  intro m x y h g
  obtain ⟨x0, x1, hx⟩ := h
  obtain ⟨y0, y1, hy⟩ := g
  obtain ⟨m0, m1, m2⟩ := m
  dsimp only at hx hy
  have no : ∀ {a b c a' b' c' : Int}, (a, b, c) = (a', b', c') → a = a' ∧ b = b' ∧ c = c' := by
    intro a b c a' b' c' h
    cases h
    exact ⟨rfl, rfl, rfl⟩
  rcases hx with ⟨a1, a2, a3⟩ | ⟨a1, a2, ⟨p, q, a3, a4⟩, a5⟩ | ⟨a1, a2, a3⟩ | ⟨a1, a2⟩ | ⟨a1, a2, a3⟩
  · rcases hy with ⟨b1, b2, b3⟩ | ⟨b1, b2, b3, b4⟩ | ⟨b1, b2⟩ | ⟨b1, b2⟩ | ⟨b1, b2, b3⟩
    · have e : x.1 = y.1 := nd_inj ⟨x0, x1⟩ ⟨y0, y1⟩ (by rw [a3, b3])
      rw [← e] at b2
      exact Prod.ext e (memE_uniq ok a2 b2)
    · omega
    · have := no b1; omega
    · have := no b1; omega
    · omega
  · rcases hy with ⟨b1, b2, b3⟩ | ⟨b1, b2, ⟨p', q', b3, b4⟩, b5⟩ | ⟨b1, b2⟩ | ⟨b1, b2⟩ | ⟨b1, b2, b3⟩
    · omega
    · have e : x.1 = y.1 := user_one ok ⟨x0, x1⟩ ⟨y0, y1⟩ a3 b3 (by rw [a5, b5])
      rw [← e] at b4
      exact Prod.ext e (makeE_uniq a4 b4)
    · have := no b1; omega
    · have := no b1; omega
    · omega
  · have n1 := no a1
    rcases hy with ⟨b1, b2, b3⟩ | ⟨b1, b2, b3, b4⟩ | ⟨b1, b2, b3⟩ | ⟨b1, b2⟩ | ⟨b1, b2, b3⟩
    · omega
    · omega
    · exact Prod.ext (with_uniq ok hf ⟨x0, x1⟩ ⟨y0, y1⟩ a2 b2) (by omega)
    · have := no b1; omega
    · omega
  · have n1 := no a1
    rcases hy with ⟨b1, b2, b3⟩ | ⟨b1, b2, b3, b4⟩ | ⟨b1, b2, b3⟩ | ⟨b1, b2⟩ | ⟨b1, b2, b3⟩
    · omega
    · omega
    · have := no b1; omega
    · have := chanE_uniq a2 b2
      exact Prod.ext this.1 this.2
    · omega
  · rcases hy with ⟨b1, b2, b3⟩ | ⟨b1, b2, b3, b4⟩ | ⟨b1, b2, b3⟩ | ⟨b1, b2⟩ | ⟨b1, b2, b3⟩
    · omega
    · omega
    · have := no b1; omega
    · have := no b1; omega
    · have := nextE_uniq a3 b3
      exact Prod.ext this.1 this.2
def mem72 : List (Int × Int × Int) := (List.range 24).flatMap (fun (s : Nat) => [(0, (s : Int), 0), (0, (s : Int), 1), (0, (s : Int), 3)])
def use24 : List (Int × Int × Int) := (List.range 24).map (fun (s : Nat) => (1, (s : Int), 0))
theorem mem72_mem {s q : Int} (hs : 0 ≤ s ∧ s < 24) (hq : q = 0 ∨ q = 1 ∨ q = 3) : (0, s, q) ∈ mem72 := by
  unfold mem72
  rw [List.mem_flatMap]
  refine ⟨s.toNat, List.mem_range.2 (by omega), ?_⟩
  rw [show ((s.toNat : Nat) : Int) = s by omega]
  rcases hq with rfl | rfl | rfl <;> simp
theorem use24_mem {s : Int} (hs : 0 ≤ s ∧ s < 24) : (1, s, 0) ∈ use24 := by
  unfold use24
  rw [List.mem_map]
  exact ⟨s.toNat, List.mem_range.2 (by omega), by rw [show ((s.toNat : Nat) : Int) = s by omega]⟩
theorem mem_role {D : Dat} (ok : DOk D) {v : Int} (h : 0 ≤ v ∧ v < nn D) (hm : isMem D v) : (nd D v).2 = 0 ∨ (nd D v).2 = 1 ∨ (nd D v).2 = 3 := by
  obtain ⟨_, _, _, _, h5⟩ := nd_ok ok h
  have := opk_r (D.O (stK D (nd D v)))
  unfold isMem kdv kdN at hm
  rcases rls_mem h5 with q | q | q | q | q
  · omega
  · omega
  · rw [if_neg (by omega), if_neg (by omega), if_pos q.1] at hm; omega
  · omega
  · rw [if_neg (by omega), if_neg (by omega), if_neg (by omega), if_neg (by omega)] at hm; omega
/-- from a node there are at most 100 edges -/
theorem raw_100 {D : Dat} (ok : DOk D) {f : Int} (hf : 0 ≤ f ∧ f < nn D) (L : List (Int × Int)) (hn : L.Nodup) (hL : ∀ x ∈ L, ∃ w, Raw D f x.1 x.2 w) : L.length ≤ 100 := by
  have fk := nd_ok ok hf
  let k3 : List (Int × Int × Int) := [(2, 0, 0), (2, 1, 0), (2, 2, mkv D f), (2, 2, D.N (stK D (nd D f)) 1), (2, 2, D.N (stK D (nd D f)) 2)]
  have rest : ∀ x w, Raw D f x.1 x.2 w → (memE D f x.1 x.2) ∨ ∃ m ∈ use24 ++ k3, Mark D f m x := by
    intro x w ⟨h1, h2, h3, h4, h5⟩
    rcases h5 with ⟨a, b, c⟩ | ⟨p, p0, p1, a, b, c⟩ | ⟨p, p0, p1, a, b⟩ | ⟨a, b⟩ | ⟨a, b⟩
    · exact .inr ⟨(2, 0, 0), List.mem_append_right _ (by simp [k3]), h3, h4, .inr (.inr (.inl ⟨rfl, a, b⟩))⟩
    · have xk := nd_ok ok ⟨h3, h4⟩
      have := (usv_iff ok ⟨h3, h4⟩ ⟨p0, p1⟩).1 a
      exact .inr ⟨(1, (nd D x.1).1, 0), List.mem_append_left _ (use24_mem ⟨xk.1, xk.2.1⟩), h3, h4, .inr (.inl ⟨rfl, rfl, ⟨p, p, this, b⟩, rfl⟩)⟩
    · have hp : p = mkv D f ∨ p = D.N (stK D (nd D f)) 1 ∨ p = D.N (stK D (nd D f)) 2 := by
        rcases b with ⟨u, _⟩ | ⟨u, _⟩
        · have := (usv_iff ok hf ⟨p0, p1⟩).1 u
          unfold useP at this
          rcases this with ⟨_, ⟨_, z⟩ | ⟨_, z⟩⟩ | ⟨_, _, z⟩
          · exact .inr (.inl z.symm)
          · exact .inr (.inr z.symm)
          · exact .inr (.inl z.symm)
        · exact .inl u.symm
      refine .inr ⟨(2, 2, p), List.mem_append_right _ ?_, h3, h4, .inr (.inr (.inr (.inr ⟨rfl, rfl, a⟩)))⟩
      rcases hp with e | e | e <;> simp [k3, e]
    · exact .inl a
    · exact .inr ⟨(2, 1, 0), List.mem_append_right _ (by simp [k3]), h3, h4, .inr (.inr (.inr (.inl ⟨rfl, a⟩)))⟩
  have l29 : (use24 ++ k3).length = 29 := by simp [use24, k3]
  by_cases hm : isMem D f
  · have hr := mem_role ok hf hm
    have h72 : (0, nd D f) ∈ mem72 := mem72_mem ⟨fk.1, fk.2.1⟩ hr
    have := pig (Mark D f) (mark_inj ok hf.1) L (mem72.erase (0, nd D f) ++ (use24 ++ k3)) hn (fun x hx => by
      obtain ⟨w, hw⟩ := hL x hx
      rcases rest x w hw with a | ⟨m, b, c⟩
      · have xk := nd_ok ok ⟨hw.2.2.1, hw.2.2.2.1⟩
        have xm : isMem D x.1 := by unfold isMem; rw [← a.2.2.1]; exact a.2.1
        have xr := mem_role ok ⟨hw.2.2.1, hw.2.2.2.1⟩ xm
        refine ⟨(0, nd D x.1), List.mem_append_left _ ((List.mem_erase_of_ne ?_).2 (mem72_mem ⟨xk.1, xk.2.1⟩ xr)), hw.2.2.1, hw.2.2.2.1, .inl ⟨rfl, a, rfl⟩⟩
        intro e
        have e2 : nd D x.1 = nd D f := (Prod.mk.inj e).2
        exact a.1 (nd_inj hf ⟨hw.2.2.1, hw.2.2.2.1⟩ e2.symm)
      · exact ⟨m, List.mem_append_right _ b, c⟩)
    rw [List.length_append, List.length_erase_of_mem h72, l29] at this
    have e72 : mem72.length = 72 := by decide
    omega
  · have := pig (Mark D f) (mark_inj ok hf.1) L (use24 ++ k3) hn (fun x hx => by
      obtain ⟨w, hw⟩ := hL x hx
      rcases rest x w hw with a | b
      · exact absurd a.2.1 hm
      · exact b)
    omega
