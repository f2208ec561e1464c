/-! ===== reading a statement: the reference ===== -/
def TM (m : Int) (tx : Int → Int) (i : MI) (a : Int) : Prop := (i 504 1 = m) ∧ (∀ k, 0 ≤ k → k < m → i 505 k = tx k) ∧ (i 504 4 = a) ∧ (i 504 5 = -1) ∧ (0 ≤ a ∧ a ≤ m ∧ m ≤ 24) ∧ (∀ k, 0 ≤ k → k < m → 0 ≤ tx k ∧ tx k < 65536)
theorem TM.c {m : Int} {tx : Int → Int} {i : MI} {a : Int} (h0 : TM m tx i a) : i 504 1 = m := h0.1
theorem TM.t {m : Int} {tx : Int → Int} {i : MI} {a : Int} (h0 : TM m tx i a) : ∀ k, 0 ≤ k → k < m → i 505 k = tx k := h0.2.1
theorem TM.p {m : Int} {tx : Int → Int} {i : MI} {a : Int} (h0 : TM m tx i a) : i 504 4 = a := h0.2.2.1
theorem TM.f {m : Int} {tx : Int → Int} {i : MI} {a : Int} (h0 : TM m tx i a) : i 504 5 = -1 := h0.2.2.2.1
theorem TM.b {m : Int} {tx : Int → Int} {i : MI} {a : Int} (h0 : TM m tx i a) : 0 ≤ a ∧ a ≤ m ∧ m ≤ 24 := h0.2.2.2.2.1
theorem TM.x {m : Int} {tx : Int → Int} {i : MI} {a : Int} (h0 : TM m tx i a) : ∀ k, 0 ≤ k → k < m → 0 ≤ tx k ∧ tx k < 65536 := h0.2.2.2.2.2
theorem TM.mk {m : Int} {tx : Int → Int} {i : MI} {a : Int} (h0 : i 504 1 = m) (h1 : ∀ k, 0 ≤ k → k < m → i 505 k = tx k) (h2 : i 504 4 = a) (h3 : i 504 5 = -1) (h4 : 0 ≤ a ∧ a ≤ m ∧ m ≤ 24) (h5 : ∀ k, 0 ≤ k → k < m → 0 ≤ tx k ∧ tx k < 65536) : TM m tx i a := ⟨h0, h1, h2, h3, h4, h5⟩
def PG (b : Int) (i i' : MI) : Prop := (∀ a, a ≠ 504 → a ≠ 506 → i' a = i a) ∧ (∀ c, c ≠ 4 → c ≠ 5 → i' 504 c = i 504 c) ∧ ∀ c, (c < b ∨ b + 3 < c) → i' 506 c = i 506 c
theorem PG.refl (b : Int) (i : MI) : PG b i i := ⟨fun _ _ _ => rfl, fun _ _ _ => rfl, fun _ _ => rfl⟩
theorem PG.trans {b : Int} {i j k : MI} (h : PG b i j) (g : PG b j k) : PG b i k := ⟨fun a p q => (g.1 a p q).trans (h.1 a p q), fun c p q => (g.2.1 c p q).trans (h.2.1 c p q), fun c p => (g.2.2 c p).trans (h.2.2 c p)⟩
theorem PG.st4 {b v : Int} {i : MI} : PG b i (st i 504 4 v) := ⟨fun a p q => st_row (by omega), fun c p q => st_ne (by omega), fun c p => by rw [st_row (by omega)]⟩
theorem PG.st5 {b v : Int} {i : MI} : PG b i (st i 504 5 v) := ⟨fun a p q => st_row (by omega), fun c p q => st_ne (by omega), fun c p => by rw [st_row (by omega)]⟩
theorem PG.sto {b k v : Int} {i : MI} (h1 : b ≤ k) (h2 : k ≤ b + 3) : PG b i (st i 506 k v) := ⟨fun a p q => st_row (by omega), fun c p q => by rw [st_row (by omega)], fun c p => st_ne (by omega)⟩
theorem TM.st4 {m a : Int} {tx : Int → Int} {i : MI} (h : TM m tx i a) {b : Int} (hb : 0 ≤ b) (hb2 : b ≤ m) : TM m tx (st i 504 4 b) b := by
  refine ⟨?_, ?_, st_eq, ?_, ⟨hb, hb2, h.b.2.2⟩, h.x⟩
  · rw [st_ne (by omega)]; exact h.c
  · rw [st_row (by omega)]; exact h.t
  · rw [st_ne (by omega)]; exact h.f
theorem TM.sto {m a k v : Int} {tx : Int → Int} {i : MI} (h : TM m tx i a) : TM m tx (st i 506 k v) a := by
  refine ⟨?_, ?_, ?_, ?_, h.b, h.x⟩
  · rw [st_row (by omega)]; exact h.c
  · rw [st_row (by omega)]; exact h.t
  · rw [st_row (by omega)]; exact h.p
  · rw [st_row (by omega)]; exact h.f
theorem TM.ch {m a : Int} {tx : Int → Int} {i : MI} (h : TM m tx i a) : 0 ≤ ch m tx a ∧ ch m tx a < 65536 := by
  unfold Pilot.CSchedularyLaw_law_r7114_237193.ch
  have := h.x a h.b.1
  split <;> omega
theorem is_e {m a c : Int} {tx : Int → Int} {i r : MI} {Q : Int → Prop} (h : TM m tx i a) (hc : c ≠ 32) : wp_X12_is c i r Q ↔ Q (bz (ch m tx a = c)) := by
  have hb := h.b
  unfold wp_X12_is s28_X12_is s29_X12_is
  rw [h.c, h.p]
  by_cases e : a < m
  · have e1 : ch m tx a = tx a := by unfold ch; rw [if_pos e]
    rw [h.t a (by omega) e, e1]
    unfold bz
    by_cases e2 : tx a = c
    · simp [e2, show ¬ m ≤ a by omega]; omega
    · simp [e2, show ¬ m ≤ a by omega]; omega
  · have e1 : ch m tx a = 32 := by unfold ch; rw [if_neg e]
    rw [e1]
    unfold bz
    simp [show m ≤ a by omega, show ¬ (32 = c) by omega]
theorem misDigit_e {m a : Int} {tx : Int → Int} {i r : MI} {Q : Int → Prop} (h : TM m tx i a) : wp_X12_isDigit i r Q ↔ Q (bz (48 ≤ ch m tx a ∧ ch m tx a ≤ 57)) := by
  have hb := h.b
  unfold wp_X12_isDigit s34_X12_isDigit s35_X12_isDigit
  rw [h.c, h.p]
  by_cases e : a < m
  · have e1 : ch m tx a = tx a := by unfold ch; rw [if_pos e]
    rw [h.t a (by omega) e, e1]
    simp only [in_eq]
    unfold bz
    by_cases e2 : 48 ≤ tx a ∧ tx a ≤ 57
    · simp [e2, show ¬ m ≤ a by omega]; omega
    · rw [if_neg e2]; simp [show ¬ m ≤ a by omega]; omega
  · have e1 : ch m tx a = 32 := by unfold ch; rw [if_neg e]
    rw [e1]
    unfold bz
    simp [show m ≤ a by omega]
theorem wrong_e {m a : Int} {tx : Int → Int} {i r : MI} {Q : Int → MI → Prop} (h : TM m tx i a) : wp_X12_wrong i r Q ↔ Q 0 (st i 504 5 a) := by
  unfold wp_X12_wrong s20_X12_wrong
  rw [h.f, h.p]
  simp
theorem eats_e {m a c : Int} {tx : Int → Int} {i r : MI} {Q : Int → MI → Prop} (h : TM m tx i a) (hc : c ≠ 32) : wp_X12_eats c i r Q ↔ (if ch m tx a = c then Q 1 (st i 504 4 (a + 1)) else Q 0 (st i 504 5 a)) := by
  have hb := h.b
  unfold wp_X12_eats
  rw [is_e h hc, wrong_e h, h.p, wr_of (by omega) (by omega)]
  by_cases e : ch m tx a = c <;> simp [e, bz]
theorem mnumber_e {m a most : Int} {tx : Int → Int} {i r : MI} {Q : Int → MI → Prop} (h : TM m tx i a) (hm : most = 1 ∨ most = 2) (hd : 48 ≤ ch m tx a ∧ ch m tx a ≤ 57) (hQ : Q (numP (ch m tx) a most).1 (st i 504 4 (numP (ch m tx) a most).2)) : wp_X12_number most i r Q := by
  have hr := h.b
  have h1 : a < m := ch_lt (tx := tx) (by omega)
  have t1 := h.st4 (b := a + 1) (by omega) (by omega)
  unfold wp_X12_number
  refine ⟨3, ?_⟩
  have g1 : i 505 a = ch m tx a := by rw [h.t a (by omega) h1]; unfold ch; rw [if_pos h1]
  have e1 : wr (wr (wr (10 * 0) + ch m tx a) - 48) = ch m tx a - 48 := by
    rw [wr_of (x := 10 * 0) (by omega) (by omega), wr_of (x := _ + _) (by omega) (by omega), wr_of (by omega) (by omega)]; omega
  have e2 : wr (a + 1) = a + 1 := wr_of (by omega) (by omega)
  have e5 : wr (0 + 1) = 1 := by decide
  have e6 : wr (wr (0 + 1) + 1) = 2 := by decide
  simp only [LoopP, b4_X12_number, s50_X12_number, misDigit_e h, h.p, g1, e1, e2]
  simp only [misDigit_e t1, e1, e2]
  refine ⟨fun q => by omega, fun _ => ⟨fun q => absurd hd (bz_0.1 q), fun _ => ⟨by omega, fun q => ?_, fun q => ⟨fun q2 => ?_, fun q2 => ?_⟩⟩⟩⟩
  · unfold numP at hQ
    rw [if_neg (by omega)] at hQ
    exact hQ
  · unfold numP at hQ
    rw [bz_0] at q2
    rw [if_neg (by omega)] at hQ
    exact hQ
  · rw [bz_0, Decidable.not_not] at q2
    unfold numP at hQ
    rw [if_pos (by omega)] at hQ
    have h2 : a + 1 < m := ch_lt (tx := tx) (by omega)
    have g2 : st i 504 4 (a + 1) 505 (a + 1) = ch m tx (a + 1) := by rw [st_row (by omega), h.t _ (by omega) h2]; unfold ch; rw [if_pos h2]
    rw [t1.p, g2]
    have e3 : wr (wr (wr (10 * (ch m tx a - 48)) + ch m tx (a + 1)) - 48) = 10 * (ch m tx a - 48) + (ch m tx (a + 1) - 48) := by
      rw [wr_of (x := 10 * _) (by omega) (by omega), wr_of (x := _ + _) (by omega) (by omega), wr_of (by omega) (by omega)]; omega
    rw [e3, wr_of (x := a + 1 + 1) (by omega) (by omega), st_st, show a + 1 + 1 = a + 2 by omega]
    exact ⟨by omega, fun _ => hQ, fun q => by omega⟩
