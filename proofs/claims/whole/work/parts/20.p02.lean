/-! ===== what an object is: the data that calls tell ===== -/
structure Dat where
  many : Int
  tx : Int → Int
  cnt : Int
  fac : Int
  tur : Int
  bits : Int
  inc : Int
  inp : Int → Int
  told : Int → Int → Int
  un : Int → Int
  cy : Int → Int
  F : Int → Int → Int
  N : Int → Int → Int
  T : Int → Int → Int
  O : Int → Int
  ac : Int → Int
  ach : Int → Int → Int
  apt : Int → Int → Int
  dep : Int → Int
/-- a statement's row: forms, numbers, whether by the turn, operation (32: none) -/
structure SOk (F N T : Int → Int) (O : Int) : Prop where
  f0 : F 0 = 0 ∨ F 0 = 3 ∨ F 0 = 4 ∨ F 0 = 6
  f1 : 0 ≤ F 1 ∧ F 1 ≤ 5
  f2 : O = 32 ∧ F 2 = -1 ∨ (O = 43 ∨ O = 45 ∨ O = 42 ∨ O = 38 ∨ O = 124 ∨ O = 94 ∨ O = 108) ∧ 0 ≤ F 2 ∧ F 2 ≤ 5
  n0 : ∀ p, 0 ≤ p → p < 3 → F p = 0 → 0 ≤ N p ∧ N p ≤ 7
  n1 : ∀ p, 0 ≤ p → p < 3 → F p = 1 → 0 ≤ N p ∧ N p ≤ 99
  n3 : ∀ p, 0 ≤ p → p < 3 → F p = 3 ∨ F p = 4 → (T p = 0 ∧ 0 ≤ N p ∧ N p ≤ 99) ∨ (T p = 1 ∧ -9 ≤ N p ∧ N p ≤ 9)
structure DOk (D : Dat) : Prop where
  many : 0 ≤ D.many ∧ D.many ≤ 24
  tx : ∀ k, 0 ≤ k → k < D.many → 0 ≤ D.tx k ∧ D.tx k < 65536
  cnt : 0 ≤ D.cnt ∧ D.cnt ≤ 12
  fac : 1 ≤ D.fac ∧ D.fac ≤ 4
  body : D.cnt * D.fac ≤ 24
  tur : 1 ≤ D.tur ∧ D.tur ≤ 16
  div : D.tur.tmod D.fac = 0
  bits : 1 ≤ D.bits ∧ D.bits ≤ 16
  inc : 0 ≤ D.inc ∧ D.inc ≤ 32
  inp : ∀ k, 0 ≤ k → k < D.inc → 0 ≤ D.inp k ∧ D.inp k ≤ 65535
  told : ∀ m p, 0 ≤ m → m < 2 → 0 ≤ p → p < 16 → 0 ≤ D.told m p ∧ D.told m p ≤ 65535
  un : ∀ k, 0 ≤ k → k < 7 → 1 ≤ D.un k ∧ D.un k ≤ 4
  un1 : ∀ k, 5 ≤ k → k < 7 → D.un k = 1
  cy : ∀ k, 0 ≤ k → k < 7 → 1 ≤ D.cy k ∧ D.cy k ≤ 5
  st : ∀ k, 0 ≤ k → k < D.cnt → SOk (D.F k) (D.N k) (D.T k) (D.O k)
  ac : ∀ p, 0 ≤ p → p < 4 → 0 ≤ D.ac p ∧ D.ac p ≤ 16
  ach : ∀ p k, 0 ≤ p → p < 4 → 0 ≤ k → k < D.ac p → 0 ≤ D.ach p k ∧ D.ach p k < 4
  apt : ∀ p k, 0 ≤ p → p < 4 → 0 ≤ k → k < D.ac p → D.apt p k = 0 ∨ D.apt p k = 1
  dep : ∀ c, 0 ≤ c → c < 4 → 1 ≤ D.dep c ∧ D.dep c ≤ 16
/-- a statement of the class at an object -/
structure StmAt (i : MI) (o : Int) (F N T : Int → Int) (O : Int) : Prop where
  f : ∀ p, 0 ≤ p → p < 3 → i (o + 1) p = F p
  n : ∀ p, 0 ≤ p → p < 3 → i (o + 2) p = N p
  t : ∀ p, 0 ≤ p → p < 3 → i (o + 3) p = T p
  o : i o 3 = O
/-- the references that rows of statements keep -/
structure RefP (r : MI) : Prop where
  s : ∀ k, 0 ≤ k → k < 12 → stm (r 4 k)
  p : stm (r 3 3)
  d : ∀ k j, 0 ≤ k → k < 12 → 0 ≤ j → j < 12 → r 4 k = r 4 j → k = j
  dp : ∀ k, 0 ≤ k → k < 12 → r 4 k ≠ r 3 3
structure ClassP (D : Dat) (i r : MI) : Prop where
  many : i 1 1 = D.many
  tx : ∀ k, 0 ≤ k → k < D.many → i 2 k = D.tx k
  cnt : i 3 4 = D.cnt
  inc : i 3 5 = D.inc
  tur : i 3 6 = D.tur
  bits : i 3 7 = D.bits
  fac : i 3 8 = D.fac
  inp : ∀ k, 0 ≤ k → k < D.inc → i 5 k = D.inp k
  told : ∀ m p, 0 ≤ m → m < 2 → 0 ≤ p → p < 16 → i (7 + m) p = D.told m p
  un : ∀ k, 0 ≤ k → k < 7 → i 69 k = D.un k
  cy : ∀ k, 0 ≤ k → k < 7 → i 70 k = D.cy k
  st : ∀ k, 0 ≤ k → k < D.cnt → StmAt i (r 4 k) (D.F k) (D.N k) (D.T k) (D.O k)
  ac : ∀ p, 0 ≤ p → p < 4 → i 499 p = D.ac p
  ach : ∀ p k, 0 ≤ p → p < 4 → 0 ≤ k → k < D.ac p → i (490 + p) k = D.ach p k
  apt : ∀ p k, 0 ≤ p → p < 4 → 0 ≤ k → k < D.ac p → i (495 + p) k = 2 * D.apt p k - 1
  dep : ∀ c, 0 ≤ c → c < 4 → i 500 c = D.dep c
  rf : RefP r
  c12 : 0 ≤ D.cnt ∧ D.cnt ≤ 12
/-- a statement of the reference: 13 numbers from b on in an object -/
structure MPart (i : MI) (o b F N T : Int) : Prop where
  k : i o b = if F ≤ 5 then F else 5
  n : F = 0 ∨ F = 1 → i o (b + 1) = N
  t : F = 3 ∨ F = 4 → i o (b + 2) = T ∧ i o (b + 3) = N
structure MStm (i : MI) (ob b : Int) (F N T : Int → Int) (O : Int) : Prop where
  p0 : MPart i ob b (F 0) (N 0) (T 0)
  p1 : MPart i ob (b + 4) (F 1) (N 1) (T 1)
  p2 : O ≠ 32 → MPart i ob (b + 8) (F 2) (N 2) (T 2)
  o : i ob (b + 12) = if O = 32 then 0 else O
structure ModelP (D : Dat) (i : MI) : Prop where
  many : i 504 1 = D.many
  tx : ∀ k, 0 ≤ k → k < D.many → i 505 k = D.tx k
  cnt : i 504 6 = D.cnt
  tur : i 504 8 = D.tur
  bits : i 504 9 = D.bits
  fac : i 504 10 = D.fac
  inc : i 504 11 = D.inc
  inp : ∀ k, 0 ≤ k → k < D.inc → i 508 k = D.inp k
  told : ∀ m p, 0 ≤ m → m < 2 → 0 ≤ p → p < 16 → i 509 (16 * m + p) = D.told m p
  un : ∀ k, 0 ≤ k → k < 7 → i 510 k = D.un k
  cy : ∀ k, 0 ≤ k → k < 7 → i 511 k = D.cy k
  st : ∀ k, 0 ≤ k → k < D.cnt → MStm i 507 (13 * k) (D.F k) (D.N k) (D.T k) (D.O k)
  ac : ∀ p, 0 ≤ p → p < 4 → i 535 p = D.ac p
  act : ∀ p k, 0 ≤ p → p < 4 → 0 ≤ k → k < D.ac p → i 536 (16 * p + k) = 2 * D.ach p k + D.apt p k
  dep : ∀ c, 0 ≤ c → c < 4 → i 537 c = D.dep c
/-- what a method of the class leaves alone: the reference -/
def Fc (i i' : MI) : Prop := ∀ a, 504 ≤ a → i' a = i a
/-- what a method of the reference leaves alone -/
def Fm (i i' : MI) : Prop := ∀ a, a < 504 ∨ 540 ≤ a → i' a = i a
theorem stm_rng {o : Int} (h : stm o) : 9 ≤ o ∧ o ≤ 57 ∧ (o - 9) % 4 = 0 := h
theorem StmAt.congr {i i' : MI} {o : Int} {F N T : Int → Int} {O : Int} (h : StmAt i o F N T O) (h1 : i' (o + 1) = i (o + 1)) (h2 : i' (o + 2) = i (o + 2)) (h3 : i' (o + 3) = i (o + 3)) (h0 : i' o = i o) : StmAt i' o F N T O := by
  constructor
  · rw [h1]; exact h.f
  · rw [h2]; exact h.n
  · rw [h3]; exact h.t
  · rw [h0]; exact h.o
/-- the rows that the class's data stand in -/
theorem ClassP.congr {D : Dat} {i i' r r' : MI} (h : ClassP D i r) (h1 : i' 1 1 = i 1 1) (h2 : i' 2 = i 2) (h3 : ∀ c, 4 ≤ c → i' 3 c = i 3 c) (h5 : i' 5 = i 5) (h7 : ∀ a, 7 ≤ a → a ≤ 8 → i' a = i a) (h9 : ∀ a, 9 ≤ a → a ≤ 60 → (a < r 3 3 ∨ r 3 3 + 3 < a) → i' a = i a) (h69 : i' 69 = i 69) (h70 : i' 70 = i 70) (h490 : ∀ a, 490 ≤ a → a ≤ 493 → i' a = i a) (h495 : ∀ a, 495 ≤ a → a ≤ 500 → i' a = i a) (hr4 : r' 4 = r 4) (hr3 : r' 3 = r 3) : ClassP D i' r' := by
  obtain ⟨hs, hp, hd, hdp⟩ := h.rf
  constructor
  · rw [h1]; exact h.many
  · rw [h2]; exact h.tx
  · rw [h3 _ (by decide)]; exact h.cnt
  · rw [h3 _ (by decide)]; exact h.inc
  · rw [h3 _ (by decide)]; exact h.tur
  · rw [h3 _ (by decide)]; exact h.bits
  · rw [h3 _ (by decide)]; exact h.fac
  · rw [h5]; exact h.inp
  · intro m p a b; rw [h7 (7 + m) (by omega) (by omega)]; exact h.told m p a b
  · rw [h69]; exact h.un
  · rw [h70]; exact h.cy
  · intro k k0 k1
    rw [hr4]
    have a1 := stm_rng (hs k k0 (by have := h.c12; omega))
    have a2 := stm_rng hp
    have a3 := hdp k k0 (by have := h.c12; omega)
    have g : ∀ a, r 4 k ≤ a → a ≤ r 4 k + 3 → i' a = i a := fun a b1 b2 => h9 a (by omega) (by omega) (by omega)
    exact (h.st k k0 k1).congr (g _ (by omega) (by omega)) (g _ (by omega) (by omega)) (g _ (by omega) (by omega)) (g _ (by omega) (by omega))
  · rw [h495 _ (by decide) (by decide)]; exact h.ac
  · intro p k a b; rw [h490 (490 + p) (by omega) (by omega)]; exact h.ach p k a b
  · intro p k a b; rw [h495 (495 + p) (by omega) (by omega)]; exact h.apt p k a b
  · rw [h495 _ (by decide) (by decide)]; exact h.dep
  · constructor
    · rw [hr4]; exact hs
    · rw [hr3]; exact hp
    · rw [hr4]; exact hd
    · rw [hr4, hr3]; exact hdp
  · exact h.c12
theorem ModelP.congr {D : Dat} {i i' : MI} (h : ModelP D i) (h4 : ∀ c, c = 1 ∨ c = 6 ∨ (8 ≤ c ∧ c ≤ 11) → i' 504 c = i 504 c) (h5 : i' 505 = i 505) (h7 : ∀ a, 507 ≤ a → a ≤ 511 → i' a = i a) (h35 : ∀ a, 535 ≤ a → a ≤ 537 → i' a = i a) : ModelP D i' := by
  constructor
  · rw [h4 _ (by decide)]; exact h.many
  · rw [h5]; exact h.tx
  · rw [h4 _ (by decide)]; exact h.cnt
  · rw [h4 _ (by decide)]; exact h.tur
  · rw [h4 _ (by decide)]; exact h.bits
  · rw [h4 _ (by decide)]; exact h.fac
  · rw [h4 _ (by decide)]; exact h.inc
  · rw [h7 _ (by decide) (by decide)]; exact h.inp
  · rw [h7 _ (by decide) (by decide)]; exact h.told
  · rw [h7 _ (by decide) (by decide)]; exact h.un
  · rw [h7 _ (by decide) (by decide)]; exact h.cy
  · intro k a b
    have h0 := h7 507 (by decide) (by decide)
    obtain ⟨⟨a1, a2, a3⟩, ⟨b1, b2, b3⟩, c, d⟩ := h.st k a b
    refine ⟨⟨?_, ?_, ?_⟩, ⟨?_, ?_, ?_⟩, ?_, ?_⟩ <;> try (rw [h0]; assumption)
    intro ho
    obtain ⟨c1, c2, c3⟩ := c ho
    constructor <;> (rw [h0]; assumption)
  · rw [h35 _ (by decide) (by decide)]; exact h.ac
  · rw [h35 _ (by decide) (by decide)]; exact h.act
  · rw [h35 _ (by decide) (by decide)]; exact h.dep
