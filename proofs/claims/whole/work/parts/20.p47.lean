/-! ===== what the lists tell ===== -/
def M3 (D : Dat) (i : MI) : Prop := (IsSoon D (i 462)) ∧ (∃ e, IsEnd D (i 462) e ∧ IsLate D e (i 463)) ∧ (IsList D (i 463) (i 464))
theorem M3.so {D : Dat} {i : MI} (h0 : M3 D i) : IsSoon D (i 462) := h0.1
theorem M3.la {D : Dat} {i : MI} (h0 : M3 D i) : ∃ e, IsEnd D (i 462) e ∧ IsLate D e (i 463) := h0.2.1
theorem M3.li {D : Dat} {i : MI} (h0 : M3 D i) : IsList D (i 463) (i 464) := h0.2.2
theorem M3.mk {D : Dat} {i : MI} (h0 : IsSoon D (i 462)) (h1 : ∃ e, IsEnd D (i 462) e ∧ IsLate D e (i 463)) (h2 : IsList D (i 463) (i 464)) : M3 D i := ⟨h0, h1, h2⟩
theorem order_w {D : Dat} (ok : DOk D) {i r : MI} {Q : MI → Prop} (h : NV D i) (g : M2 D i) (hu : ∀ k, 0 ≤ k → k < 7 → i 69 k = D.un k) (hQ : ∀ i', FO i i' → M3 D i' → Q i') : wp_X9_order i r Q := by
  unfold wp_X9_order
  refine soonest_w ok h g (fun i1 f1 s1 => ?_)
  refine latest_w ok (h.fo ok f1) (g.fo ok f1) s1 (fun i2 e f2 a2 e2 l2 => ?_)
  refine byLists_w ok (h.fo ok (f1.trans f2)) (g.fo ok (f1.trans f2)) (fun k a b => by rw [(f1.trans f2) _ (by omega)]; exact hu k a b) (fun i3 f3 a3 b3 l3 => ?_)
  refine hQ i3 (f1.trans (f2.trans f3)) ⟨by rw [a3, a2]; exact s1, ⟨e, by rw [a3, a2]; exact e2, by rw [b3]; exact l2⟩, by rw [b3]; exact l3⟩
/-- how many numbers below one hold something -/
def CntP (P : Int → Prop) : Nat → Int → Prop
  | 0, x => x = 0
  | n + 1, x => (P n ∧ CntP P n (x - 1)) ∨ (¬ P n ∧ CntP P n x)
theorem CntP.uniq {P : Int → Prop} : ∀ (n : Nat) (x y : Int), CntP P n x → CntP P n y → x = y := by
  intro n
  induction n with
  | zero => intro x y h g; exact h.trans g.symm
  | succ n ih =>
    intro x y h g
    rcases h with ⟨h1, h2⟩ | ⟨h1, h2⟩ <;> rcases g with ⟨g1, g2⟩ | ⟨g1, g2⟩
    · have := ih _ _ h2 g2; omega
    · exact absurd h1 g1
    · exact absurd g1 h1
    · exact ih _ _ h2 g2
theorem CntP.iff {P R : Int → Prop} : ∀ (n : Nat) (x : Int), CntP P n x → (∀ v : Int, 0 ≤ v → v < n → (P v ↔ R v)) → CntP R n x := by
  intro n
  induction n with
  | zero => intro x h _; exact h
  | succ n ih =>
    intro x h e
    have en := e n (by omega) (by omega)
    rcases h with ⟨h1, h2⟩ | ⟨h1, h2⟩
    · exact .inl ⟨en.1 h1, ih _ h2 (fun v a b => e v a (by omega))⟩
    · exact .inr ⟨fun z => h1 (en.2 z), ih _ h2 (fun v a b => e v a (by omega))⟩
theorem CntP.b {P : Int → Prop} : ∀ (n : Nat) (x : Int), CntP P n x → 0 ≤ x ∧ x ≤ n := by
  intro n
  induction n with
  | zero => intro x h; have : x = 0 := h; omega
  | succ n ih =>
    intro x h
    rcases h with ⟨_, h⟩ | ⟨_, h⟩
    · have := ih _ h; omega
    · have := ih _ h; omega
theorem CntP.yes {P : Int → Prop} {n x : Int} (h : CntP P n.toNat x) (h0 : 0 ≤ n) (p : P n) : CntP P (n + 1).toNat (x + 1) := by
  rw [show (n + 1).toNat = n.toNat + 1 by omega]
  refine .inl ⟨by rw [show ((n.toNat : Nat) : Int) = n by omega]; exact p, by rw [show x + 1 - 1 = x by omega]; exact h⟩
theorem CntP.no {P : Int → Prop} {n x : Int} (h : CntP P n.toNat x) (h0 : 0 ≤ n) (p : ¬ P n) : CntP P (n + 1).toNat x := by
  rw [show (n + 1).toNat = n.toNat + 1 by omega]
  exact .inr ⟨by rw [show ((n.toNat : Nat) : Int) = n by omega]; exact p, h⟩
/-- nodes of a step -/
theorem countIn_w {D : Dat} (ok : DOk D) {i r : MI} {c : Int} {Q : Int → Prop} (h : NV D i) (hQ : ∀ x, CntP (fun v => i 464 v = c) (nn D).toNat x → Q x) : wp_X9_countIn c i r Q := by
  have hn := nn_le ok
  unfold wp_X9_countIn
  refine Lp.r2 (fun (b x : Int) => 0 ≤ x ∧ x ≤ nn D ∧ CntP (fun v => i 464 v = c) x.toNat b) (fun _ x => (nn D - x).toNat) ?_ ⟨by decide, hn.1, rfl⟩
  intro b x C ⟨h0, h1, h2⟩ hC
  dsimp only [b5_X9_countIn, s28_X9_countIn]
  have hb := CntP.b _ _ h2
  rw [h.n, wr_of (x := b + 1) (by omega) (by omega), wr_of (x := x + 1) (by omega) (by omega)]
  refine ⟨fun q => hQ b (by rw [show nn D = x by omega]; exact h2), fun q => ⟨by omega, fun e => hC _ _ ⟨by omega, by omega, h2.yes h0 e⟩ (by omega), fun e => hC _ _ ⟨by omega, by omega, h2.no h0 e⟩ (by omega)⟩⟩
theorem minStep_w {D : Dat} (ok : DOk D) {i r : MI} {c : Int} {Q : Int → MI → Prop} (h : NW D i) (hQ : ∀ x, CntP (fun v => i 531 v = c) (nn D).toNat x → Q x i) : Lp (b13_X12_inStep c i r Q) (0, 0) := by
  have hn := nn_le ok
  refine Lp.r2 (fun (b x : Int) => 0 ≤ x ∧ x ≤ nn D ∧ CntP (fun v => i 531 v = c) x.toNat b) (fun _ x => (nn D - x).toNat) ?_ ⟨by decide, hn.1, rfl⟩
  intro b x C ⟨h0, h1, h2⟩ hC
  dsimp only [b13_X12_inStep, s37_X12_inStep]
  have hb := CntP.b _ _ h2
  rw [h.n, wr_of (x := b + 1) (by omega) (by omega), wr_of (x := b + 0) (by omega) (by omega), wr_of (x := x + 1) (by omega) (by omega), show b + 0 = b by omega]
  refine ⟨fun q => hQ b (by rw [show nn D = x by omega]; exact h2), fun q => ⟨by omega, fun e => hC _ _ ⟨by omega, by omega, h2.yes h0 e⟩ (by omega), fun e => hC _ _ ⟨by omega, by omega, h2.no h0 e⟩ (by omega)⟩⟩
/-- whether what a node makes is used in a cycle or behind it, by a node below one -/
def LUx (D : Dat) (ls : Int → Int) (e v c x : Int) : Prop := ∃ u, 0 ≤ u ∧ u < x ∧ usv D u (mkv D v) ∧ ((isPrev D (mkv D v) v u ∧ c ≤ ls u) ∨ (noPrev D (mkv D v) u ∧ noNext D (mkv D v) v ∧ c ≤ e - 1))
def liv (D : Dat) (ls : Int → Int) (e c : Int) (v : Int) : Prop := mkv D v ≠ -1 ∧ ls v + cyv D v ≤ c ∧ LUx D ls e v c (nn D)
def IsWait (D : Dat) (ls : Int → Int) (e m : Int) : Prop := (0 ≤ m) ∧ (∀ c, 0 ≤ c → c < e → ∃ x, CntP (liv D ls e c) (nn D).toNat x ∧ x ≤ m) ∧ (m = 0 ∨ ∃ c, 0 ≤ c ∧ c < e ∧ CntP (liv D ls e c) (nn D).toNat m)
theorem IsWait.z {D : Dat} {ls : Int → Int} {e m : Int} (h0 : IsWait D ls e m) : 0 ≤ m := h0.1
theorem IsWait.u {D : Dat} {ls : Int → Int} {e m : Int} (h0 : IsWait D ls e m) : ∀ c, 0 ≤ c → c < e → ∃ x, CntP (liv D ls e c) (nn D).toNat x ∧ x ≤ m := h0.2.1
theorem IsWait.l {D : Dat} {ls : Int → Int} {e m : Int} (h0 : IsWait D ls e m) : m = 0 ∨ ∃ c, 0 ≤ c ∧ c < e ∧ CntP (liv D ls e c) (nn D).toNat m := h0.2.2
theorem IsWait.mk {D : Dat} {ls : Int → Int} {e m : Int} (h0 : 0 ≤ m) (h1 : ∀ c, 0 ≤ c → c < e → ∃ x, CntP (liv D ls e c) (nn D).toNat x ∧ x ≤ m) (h2 : m = 0 ∨ ∃ c, 0 ≤ c ∧ c < e ∧ CntP (liv D ls e c) (nn D).toNat m) : IsWait D ls e m := ⟨h0, h1, h2⟩
theorem LUx_ext {D : Dat} {ls ls' : Int → Int} {e v c : Int} (h : ∀ v, 0 ≤ v → v < nn D → ls v = ls' v) : LUx D ls e v c (nn D) → LUx D ls' e v c (nn D) := by
  rintro ⟨u, a, b, c1, c2⟩
  exact ⟨u, a, b, c1, by rw [← h u a b]; exact c2⟩
theorem liv_ext {D : Dat} {ls ls' : Int → Int} {e c v : Int} (h : ∀ v, 0 ≤ v → v < nn D → ls v = ls' v) (hv : 0 ≤ v ∧ v < nn D) : liv D ls e c v ↔ liv D ls' e c v := by
  unfold liv
  rw [h v hv.1 hv.2]
  exact and_congr Iff.rfl (and_congr Iff.rfl ⟨LUx_ext h, LUx_ext (fun v a b => (h v a b).symm)⟩)
theorem wait_uniq {D : Dat} (ok : DOk D) {ls ls' : Int → Int} {e m m' : Int} (h : ∀ v, 0 ≤ v → v < nn D → ls v = ls' v) (h1 : IsWait D ls e m) (h2 : IsWait D ls' e m') : m = m' := by
  have hn := nn_le ok
  have tr : ∀ (l l' : Int → Int) c x, (∀ v, 0 ≤ v → v < nn D → l v = l' v) → CntP (liv D l e c) (nn D).toNat x → CntP (liv D l' e c) (nn D).toNat x := fun l l' c x q z => z.iff _ _ (fun v a b => liv_ext q ⟨a, by omega⟩)
  have le : ∀ (l l' : Int → Int) (a b : Int), (∀ v, 0 ≤ v → v < nn D → l v = l' v) → IsWait D l e a → IsWait D l' e b → a ≤ b := by
    intro l l' a b q g1 g2
    rcases g1.l with z | ⟨c, c0, c1, c2⟩
    · have := g2.z; omega
    · obtain ⟨x, x1, x2⟩ := g2.u c c0 c1
      have := CntP.uniq _ _ _ (tr l l' c a q c2) x1
      omega
  have a1 := le ls ls' m m' h h1 h2
  have a2 := le ls' ls m' m (fun v a b => (h v a b).symm) h2 h1
  omega
