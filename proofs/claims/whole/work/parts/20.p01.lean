/-! ===== pure part: helpers ===== -/
/-- 1 where it holds, else 0 -/
def bz (p : Prop) [Decidable p] : Int := if p then 1 else 0
theorem bz_0 {p : Prop} [Decidable p] : bz p = 0 ↔ ¬ p := by unfold bz; split <;> simp_all
theorem bz_1 {p : Prop} [Decidable p] : bz p = 1 ↔ p := by unfold bz; split <;> simp_all
theorem bz_01 {p : Prop} [Decidable p] : bz p = 0 ∨ bz p = 1 := by unfold bz; split <;> simp
theorem wr_of {x : Int} (h1 : -2147483648 ≤ x) (h2 : x < 2147483648) : wr x = x := wr_eq ⟨h1, h2⟩
theorem isWithin_eq {p a b : Int} {i r : MI} {Q : Int → Prop} : wp_X11_isWithin p a b i r Q ↔ Q (bz (a ≤ p ∧ p ≤ b)) := by
  unfold wp_X11_isWithin s14_X11_isWithin s15_X11_isWithin bz
  grind
theorem in_eq {p a b : Int} {i r : MI} {Q : Int → Prop} : wp_X12_in p a b i r Q ↔ Q (bz (a ≤ p ∧ p ≤ b)) := by
  unfold wp_X12_in s14_X12_in s15_X12_in bz
  grind
theorem isDivided_eq {p d : Int} {i r : MI} {Q : Int → Prop} : wp_X11_isDivided p d i r Q ↔ Q (bz (0 < d ∧ p.tmod d = 0)) := by
  unfold wp_X11_isDivided s14_X11_isDivided s15_X11_isDivided bz
  grind
theorem fails_eq {p e : Int} {i r : MI} {Q : Int → MI → Prop} (he : ¬ e = 0) : wp_X12_fails p e i r Q ↔ (if p = 0 ∨ ¬ i 504 0 = 0 then Q (bz (¬ i 504 0 = 0)) i else Q 1 (st i 504 0 e)) := by
  unfold wp_X12_fails s16_X12_fails s28_X12_fails bz
  have h0 : st i 504 0 e 504 0 = e := st_eq
  grind
/-- the characters of a text of the class or the reference -/
def chS : Nat → List Int
  | 0 => [48, 49, 50, 51, 52, 53, 54, 55, 56, 57, 97, 98, 99, 100, 101, 102, 103, 104, 105, 108, 77, 78, 61, 91, 93, 43, 45, 42, 38, 124, 94, 60, 62]
  | 1 => [43, 45, 42, 38, 124, 94, 108]
  | 2 => [77, 78]
  | 3 => [97, 109, 103, 77, 78, 60, 62]
  | 4 => [97, 98, 99, 100, 101, 102, 103, 104, 105, 108, 77, 78, 61, 91, 93, 43, 45, 42, 38, 124, 94, 60, 62]
  | _ => []
def ixL : List Int → Int → Int → Int
  | [], _, _ => -1
  | a :: l, n, p => if a = p then n else ixL l (n + 1) p
def ixS (k : Nat) (p : Int) : Int := ixL (chS k) 0 p
theorem bS_ch : ∀ k < 5, ∀ j < lenS k, bS k (j : Int) = (chS k).getD j 0 ∧ 0 ≤ bS k (j : Int) ∧ bS k (j : Int) < 128 := by decide +kernel
theorem lenS_ch : ∀ k < 5, lenS k = (chS k).length ∧ 0 < lenS k ∧ lenS k < 40 := by decide +kernel
theorem i8_eq {p x : Int} (h0 : 0 ≤ p) (h1 : p < 65536) (h2 : p ≤ 255) (hx : 0 ≤ x ∧ x < 128) : x = (sJ p).toInt8.toInt32.toInt ↔ x = p := by
  have : (sJ p).toInt8.toInt32.toInt = Int.bmod p 256 := by
    unfold sJ
    simp
  rw [this]
  simp only [Int.bmod_def]
  omega
theorem ixL_drop (l : List Int) (p : Int) : ∀ n : Nat, (∀ j < n, l.getD j 0 ≠ p) → n ≤ l.length → ixL l 0 p = ixL (l.drop n) n p := by
  intro n
  induction n with
  | zero => intro _ _; simp
  | succ n ih =>
    intro h1 h2
    rw [ih (fun j hj => h1 j (by omega)) (by omega)]
    have h3 : l.drop n = l.getD n 0 :: l.drop (n + 1) := by
      rw [List.drop_eq_getElem_cons (by omega)]
      simp [List.getD, show n < l.length by omega]
    rw [h3]
    have := h1 n (by omega)
    have e : ixL (l.getD n 0 :: l.drop (n + 1)) n p = ixL (l.drop (n + 1)) (n + 1) p := by
      rw [ixL, if_neg this]
    rw [e]
    rfl
theorem indexOf_w {k : Nat} {p : Int} {i r : MI} {Q : Int → Prop} (hk : k < 5) (h0 : 0 ≤ p) (h1 : p < 65536) (hQ : Q (ixS k p)) : wp_J0_indexOf_0f7a4 k p i r Q := by
  obtain ⟨hl, hlp, hl40⟩ := lenS_ch k hk
  have hb := bS_ch k hk
  have hlen : iShr (lenS k : Int) 0 = lenS k := by
    have : ∀ k < 5, iShr (lenS k : Int) 0 = lenS k := by decide +kernel
    exact this k hk
  have hnone : (∀ j < lenS k, bS k (j : Int) ≠ p) → ixS k p = -1 := by
    intro h
    unfold ixS
    rw [ixL_drop (chS k) p (chS k).length (fun j hj => by rw [← (hb j (by omega)).1]; exact h j (by omega)) (Nat.le_refl _)]
    simp [ixL]
  unfold wp_J0_indexOf_0f7a4 wp_J0_indexOf_7cf53 wp_J0_isLatin1_aae02 s17_J0_isLatin1_aae02 s18_J0_isLatin1_aae02 wp_J0_length_8abf5 wp_J0_coder_7d493 s14_J0_coder_7d493 wp_J1_indexOf_4cfef wp_J1_canEncode_9a6ad s15_J1_canEncode_9a6ad s16_J1_canEncode_9a6ad s36_J0_indexOf_7cf53
  simp only [hlen]
  have h255 : 255 < p → Q (-1) := by
    intro h
    rw [← hnone (fun j hj => by have := hb j hj; omega)]
    exact hQ
  have key : ¬ 255 < p → wp_J1_indexOfChar_4cfef k p 0 (lenS k) i r Q := by
    intro h2
    unfold wp_J1_indexOfChar_4cfef
    refine Lp.rule (fun (x : Int) => 0 ≤ x ∧ x ≤ lenS k ∧ ∀ j : Nat, (j : Int) < x → bS k j ≠ p) (fun x => ((lenS k : Int) - x).toNat) ?_ 0 ⟨by omega, by omega, fun j hj => by omega⟩
    intro x C ⟨hx0, hx1, hx2⟩ hC
    unfold b7_J1_indexOfChar_4cfef
    obtain ⟨j, rfl⟩ := Int.eq_ofNat_of_zero_le hx0
    refine ⟨fun h => ?_, fun h => ⟨⟨hx0, by omega⟩, fun e => ?_, fun e => ?_⟩⟩
    · rw [← hnone (fun j' hj' => hx2 j' (by omega))]
      exact hQ
    · have hj := hb j (by omega)
      rw [i8_eq h0 h1 (by omega) hj.2] at e
      have : ixS k p = j := by
        unfold ixS
        rw [ixL_drop (chS k) p j (fun j' hj' => by rw [← (hb j' (by omega)).1]; exact hx2 j' (by omega)) (by omega)]
        have h3 : (chS k).drop j = (chS k).getD j 0 :: (chS k).drop (j + 1) := by
          rw [List.drop_eq_getElem_cons (by omega)]
          simp [List.getD, show j < (chS k).length by omega]
        rw [h3, ← hj.1, e]
        simp [ixL]
      rw [← this]; exact hQ
    · have hj := hb j (by omega)
      rw [i8_eq h0 h1 (by omega) hj.2] at e
      have hw : wr ((j : Int) + 1) = ((j + 1 : Nat) : Int) := by rw [wr_of (by omega) (by omega)]; omega
      rw [hw]
      refine hC _ ⟨by omega, by omega, fun j' hj' => ?_⟩ (by omega)
      by_cases e2 : j' = j
      · rw [e2]; exact e
      · exact hx2 j' (by omega)
  have hmm : max (0 : Int) 0 = 0 ∧ min (lenS k : Int) (lenS k) = lenS k := ⟨by omega, by omega⟩
  rw [hmm.1, hmm.2]
  grind
