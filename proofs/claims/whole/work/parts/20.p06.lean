/-! ===== reading a statement: the class ===== -/
def ch (m : Int) (tx : Int → Int) (a : Int) : Int := if a < m then tx a else 32
def TA (m : Int) (tx : Int → Int) (i : MI) (a : Int) : Prop := (i 1 1 = m) ∧ (∀ k, 0 ≤ k → k < m → i 2 k = tx k) ∧ (i 1 2 = a) ∧ (0 ≤ a ∧ a ≤ m ∧ m ≤ 24) ∧ (∀ k, 0 ≤ k → k < m → 0 ≤ tx k ∧ tx k < 65536)
theorem TA.c {m : Int} {tx : Int → Int} {i : MI} {a : Int} (h0 : TA m tx i a) : i 1 1 = m := h0.1
theorem TA.t {m : Int} {tx : Int → Int} {i : MI} {a : Int} (h0 : TA m tx i a) : ∀ k, 0 ≤ k → k < m → i 2 k = tx k := h0.2.1
theorem TA.p {m : Int} {tx : Int → Int} {i : MI} {a : Int} (h0 : TA m tx i a) : i 1 2 = a := h0.2.2.1
theorem TA.b {m : Int} {tx : Int → Int} {i : MI} {a : Int} (h0 : TA m tx i a) : 0 ≤ a ∧ a ≤ m ∧ m ≤ 24 := h0.2.2.2.1
theorem TA.x {m : Int} {tx : Int → Int} {i : MI} {a : Int} (h0 : TA m tx i a) : ∀ k, 0 ≤ k → k < m → 0 ≤ tx k ∧ tx k < 65536 := h0.2.2.2.2
theorem TA.mk {m : Int} {tx : Int → Int} {i : MI} {a : Int} (h0 : i 1 1 = m) (h1 : ∀ k, 0 ≤ k → k < m → i 2 k = tx k) (h2 : i 1 2 = a) (h3 : 0 ≤ a ∧ a ≤ m ∧ m ≤ 24) (h4 : ∀ k, 0 ≤ k → k < m → 0 ≤ tx k ∧ tx k < 65536) : TA m tx i a := ⟨h0, h1, h2, h3, h4⟩
def PF (o : Int) (i i' : MI) : Prop := (∀ b, b ≠ 1 → (b < o ∨ o + 3 < b) → i' b = i b) ∧ ∀ c, c ≠ 2 → i' 1 c = i 1 c
theorem PF.refl (o : Int) (i : MI) : PF o i i := ⟨fun _ _ _ => rfl, fun _ _ => rfl⟩
theorem PF.trans {o : Int} {i j k : MI} (h : PF o i j) (g : PF o j k) : PF o i k := ⟨fun b p q => (g.1 b p q).trans (h.1 b p q), fun c p => (g.2 c p).trans (h.2 c p)⟩
theorem PF.st1 {o v : Int} {i : MI} (ho : 9 ≤ o) : PF o i (st i 1 2 v) := ⟨fun b p _ => st_row (by omega), fun c p => st_ne (by omega)⟩
theorem PF.sto {o a k v : Int} {i : MI} (ho : 9 ≤ o) (h1 : o ≤ a) (h2 : a ≤ o + 3) : PF o i (st i a k v) := ⟨fun b p _ => st_row (by omega), fun c p => by rw [st_row (by omega)]⟩
theorem TA.pf {m a o : Int} {tx : Int → Int} {i i' : MI} (h : TA m tx i a) (ho : 9 ≤ o) (g : PF o i i') : ∀ b, 0 ≤ b → b ≤ m → i' 1 2 = b → TA m tx i' b := by
  intro b hb hb2 h2
  refine ⟨by rw [g.2 _ (by decide)]; exact h.c, ?_, h2, ⟨hb, hb2, h.b.2.2⟩, h.x⟩
  rw [g.1 2 (by decide) (by omega)]
  exact h.t
theorem TA.st1 {m a : Int} {tx : Int → Int} {i : MI} (h : TA m tx i a) {b : Int} (hb : 0 ≤ b) (hb2 : b ≤ m) : TA m tx (st i 1 2 b) b :=
  h.pf (o := 9) (by omega) (PF.st1 (by omega)) b hb hb2 st_eq
theorem TA.sto {m a o k v : Int} {tx : Int → Int} {i : MI} (h : TA m tx i a) (ho : 9 ≤ o) : TA m tx (st i o k v) a :=
  h.pf (o := o) ho (PF.sto ho (by omega) (by omega)) a h.b.1 h.b.2.1 (by rw [st_row (by omega)]; exact h.p)
theorem ch_lt {m a : Int} {tx : Int → Int} (h : ch m tx a ≠ 32) : a < m := by
  unfold ch at h
  split at h <;> simp_all
theorem TA.ch {m a : Int} {tx : Int → Int} {i : MI} (h : TA m tx i a) : 0 ≤ ch m tx a ∧ ch m tx a < 65536 := by
  unfold Pilot.CSchedularyLaw_law_r7114_237193.ch
  have := h.x a h.b.1
  split <;> omega
theorem next_w {m a : Int} {tx : Int → Int} {i r : MI} {Q : Int → Prop} (h : TA m tx i a) (hQ : Q (ch m tx a)) : wp_X10_next i r Q := by
  have hr := h.ch
  unfold wp_X10_next s25_X10_next
  rw [h.c, h.p]
  have := h.b
  refine ⟨fun q => ⟨by omega, ?_⟩, fun q => ⟨by omega, ?_⟩⟩
  · rw [ch, if_neg (by omega)] at hQ; exact hQ
  · rw [h.t a (by omega) (by omega)]
    rw [ch, if_pos (by omega)] at hQ hr
    exact ⟨hr, hQ⟩
theorem next_e {m a : Int} {tx : Int → Int} {i r : MI} {Q : Int → Prop} (h : TA m tx i a) : wp_X10_next i r Q ↔ Q (ch m tx a) := by
  refine ⟨fun q => ?_, next_w h⟩
  unfold wp_X10_next s25_X10_next at q
  rw [h.c, h.p] at q
  have := h.b
  unfold ch
  split
  · have := (q.2 (by omega)).2.2
    rw [h.t a (by omega) (by omega)] at this
    exact this
  · exact (q.1 (by omega)).2
theorem isDigit_eq {c : Int} {i r : MI} {Q : Int → Prop} : wp_X10_isDigit c i r Q ↔ Q (bz (48 ≤ c ∧ c ≤ 57)) := by
  unfold wp_X10_isDigit s16_X10_isDigit s17_X10_isDigit bz
  grind
theorem readSign_e {m a c : Int} {tx : Int → Int} {i r : MI} {Q : Int → MI → Prop} (h : TA m tx i a) (hc : c ≠ 32) : wp_X10_readSign c i r Q ↔ (if ch m tx a = c then Q 1 (st i 1 2 (a + 1)) else Q 0 i) := by
  unfold wp_X10_readSign
  rw [next_e h, h.p]
  have := h.b
  by_cases e : ch m tx a = c
  · have := ch_lt (m := m) (tx := tx) (a := a) (by rw [e]; exact hc)
    rw [wr_of (by omega) (by omega)]
    simp [e]
  · simp [e]
/-- a number of at most so many digits, from a on, where a digit stands: the number, and behind it -/
def numP (c : Int → Int) (a most : Int) : Int × Int := if most = 2 ∧ 48 ≤ c (a + 1) ∧ c (a + 1) ≤ 57 then (10 * (c a - 48) + (c (a + 1) - 48), a + 2) else (c a - 48, a + 1)
theorem readNumber_e {m a most : Int} {tx : Int → Int} {i r : MI} {Q : Int → MI → Prop} (h : TA m tx i a) (hm : most = 1 ∨ most = 2) (hd : 48 ≤ ch m tx a ∧ ch m tx a ≤ 57) (hQ : Q (numP (ch m tx) a most).1 (st i 1 2 (numP (ch m tx) a most).2)) : wp_X10_readNumber most i r Q := by
  have hr := h.b
  have h1 : a < m := ch_lt (tx := tx) (by omega)
  have t1 := h.st1 (b := a + 1) (by omega) (by omega)
  unfold wp_X10_readNumber
  refine ⟨3, ?_⟩
  have e1 : wr (wr (wr (0 * 10) + ch m tx a) - 48) = ch m tx a - 48 := by
    rw [wr_of (x := 0 * 10) (by omega) (by omega), wr_of (x := _ + _) (by omega) (by omega), wr_of (by omega) (by omega)]; omega
  have e2 : wr (a + 1) = a + 1 := wr_of (by omega) (by omega)
  have e5 : wr (0 + 1) = 1 := by decide
  have e6 : wr (wr (0 + 1) + 1) = 2 := by decide
  simp only [LoopP, b4_X10_readNumber, s48_X10_readNumber, next_e h, isDigit_eq, e1, h.p, e2]
  simp only [next_e t1, isDigit_eq, e1, e2]
  refine ⟨fun q => by omega, fun _ => ⟨fun q => absurd hd (bz_0.1 q), fun _ => ⟨fun q => ?_, fun q => ⟨fun q2 => ?_, fun q2 => ?_⟩⟩⟩⟩
  · unfold numP at hQ
    rw [if_neg (by omega)] at hQ
    exact hQ
  · unfold numP at hQ
    rw [bz_0] at q2
    rw [if_neg (by omega)] at hQ
    exact hQ
  · rw [bz_0, Decidable.not_not] at q2
    unfold numP at hQ
    rw [if_pos (by omega)] at hQ
    have h2 : a + 1 < m := ch_lt (tx := tx) (by omega)
    have e3 : wr (wr (wr ((ch m tx a - 48) * 10) + ch m tx (a + 1)) - 48) = 10 * (ch m tx a - 48) + (ch m tx (a + 1) - 48) := by
      rw [wr_of (x := _ * 10) (by omega) (by omega), wr_of (x := _ + _) (by omega) (by omega), wr_of (by omega) (by omega)]; omega
    rw [e3, t1.p, wr_of (x := a + 1 + 1) (by omega) (by omega)]
    refine ⟨fun _ => ?_, fun q => by omega⟩
    have e4 : st (st i 1 2 (a + 1)) 1 2 (a + 1 + 1) = st i 1 2 (a + 2) := by
      funext x y; unfold st; split
      · omega
      · rfl
    rw [e4]
    exact hQ
