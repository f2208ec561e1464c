/-! ===== pure part: helpers ===== -/
/-- 1 where it holds, else 0 -/
def bz (p : Prop) [Decidable p] : Int := if p then 1 else 0
theorem bz_0 {p : Prop} [Decidable p] : bz p = 0 ↔ ¬ p := by unfold bz; split <;> simp_all
theorem bz_1 {p : Prop} [Decidable p] : bz p = 1 ↔ p := by unfold bz; split <;> simp_all
theorem bz_01 {p : Prop} [Decidable p] : bz p = 0 ∨ bz p = 1 := by unfold bz; split <;> simp
theorem wr_of {x : Int} (h1 : -2147483648 ≤ x) (h2 : x < 2147483648) : wr x = x := wr_eq ⟨h1, h2⟩
theorem isWithin_eq {p a b : Int} {i r : MI} {Q : Int → Prop} : wp_X11_isWithin p a b i r Q ↔ Q (bz (a ≤ p ∧ p ≤ b)) := by
  unfold wp_X11_isWithin s14_X11_isWithin s15_X11_isWithin bz
  grind
theorem isDivided_eq {p d : Int} {i r : MI} {Q : Int → Prop} : wp_X11_isDivided p d i r Q ↔ Q (bz (0 < d ∧ p.tmod d = 0)) := by
  unfold wp_X11_isDivided s14_X11_isDivided s15_X11_isDivided bz
  grind
/-- the characters of a text of the class or the reference -/
def chS : Nat → List Int
  | 0 => [48, 49, 50, 51, 52, 53, 54, 55, 56, 57, 97, 98, 99, 100, 101, 102, 103, 104, 105, 108, 77, 78, 61, 91, 93, 43, 45, 42, 38, 124, 94, 60, 62]
  | 1 => [43, 45, 42, 38, 124, 94, 108]
  | 2 => [77, 78]
  | 3 => [97, 109, 103, 77, 78, 60, 62]
  | 4 => [97, 98, 99, 100, 101, 102, 103, 104, 105, 108, 77, 78, 61, 91, 93, 43, 45, 42, 38, 124, 94, 60, 62]
  | _ => []
def ixL : List Int → Int → Int → Int
  | [], _, _ => -1
  | a :: l, n, p => if a = p then n else ixL l (n + 1) p
def ixS (k : Nat) (p : Int) : Int := ixL (chS k) 0 p
theorem bS_ch : ∀ k < 4, ∀ j < lenS k, bS k (j : Int) = (chS k).getD j 0 ∧ 0 ≤ bS k (j : Int) ∧ bS k (j : Int) < 128 := by decide +kernel
theorem lenS_ch : ∀ k < 4, lenS k = (chS k).length ∧ 0 < lenS k ∧ lenS k < 40 := by decide +kernel
theorem i8_eq {p x : Int} (h0 : 0 ≤ p) (h1 : p < 65536) (h2 : p ≤ 255) (hx : 0 ≤ x ∧ x < 128) : x = (sJ p).toInt8.toInt32.toInt ↔ x = p := by
  have : (sJ p).toInt8.toInt32.toInt = Int.bmod p 256 := by
    unfold sJ
    simp
  rw [this]
  simp only [Int.bmod_def]
  omega
theorem ixL_drop (l : List Int) (p : Int) : ∀ n : Nat, (∀ j < n, l.getD j 0 ≠ p) → n ≤ l.length → ixL l 0 p = ixL (l.drop n) n p := by
  intro n
  induction n with
  | zero => intro _ _; simp
  | succ n ih =>
    intro h1 h2
    rw [ih (fun j hj => h1 j (by omega)) (by omega)]
    have h3 : l.drop n = l.getD n 0 :: l.drop (n + 1) := by
      rw [List.drop_eq_getElem_cons (by omega)]
      simp [List.getD, show n < l.length by omega]
    rw [h3]
    have := h1 n (by omega)
    have e : ixL (l.getD n 0 :: l.drop (n + 1)) n p = ixL (l.drop (n + 1)) (n + 1) p := by
      rw [ixL, if_neg this]
    rw [e]
    rfl
theorem indexOf_w {k : Nat} {p : Int} {i r : MI} {Q : Int → Prop} (hk : k < 4) (h0 : 0 ≤ p) (h1 : p < 65536) (hQ : Q (ixS k p)) : wp_J0_indexOf_0f7a4 k p i r Q := by
  obtain ⟨hl, hlp, hl40⟩ := lenS_ch k hk
  have hb := bS_ch k hk
  have hlen : iShr (lenS k : Int) 0 = lenS k := by
    have : ∀ k < 4, iShr (lenS k : Int) 0 = lenS k := by decide +kernel
    exact this k hk
  have hnone : (∀ j < lenS k, bS k (j : Int) ≠ p) → ixS k p = -1 := by
    intro h
    unfold ixS
    rw [ixL_drop (chS k) p (chS k).length (fun j hj => by rw [← (hb j (by omega)).1]; exact h j (by omega)) (Nat.le_refl _)]
    simp [ixL]
  unfold wp_J0_indexOf_0f7a4 wp_J0_indexOf_7cf53 wp_J0_isLatin1_aae02 s17_J0_isLatin1_aae02 s18_J0_isLatin1_aae02 wp_J0_length_8abf5 wp_J0_coder_7d493 s14_J0_coder_7d493 wp_J1_indexOf_4cfef wp_J1_canEncode_9a6ad s15_J1_canEncode_9a6ad s16_J1_canEncode_9a6ad s36_J0_indexOf_7cf53
  simp only [hlen]
  have h255 : 255 < p → Q (-1) := by
    intro h
    rw [← hnone (fun j hj => by have := hb j hj; omega)]
    exact hQ
  have key : ¬ 255 < p → wp_J1_indexOfChar_4cfef k p 0 (lenS k) i r Q := by
    intro h2
    unfold wp_J1_indexOfChar_4cfef
    refine Lp.rule (fun (x : Int) => 0 ≤ x ∧ x ≤ lenS k ∧ ∀ j : Nat, (j : Int) < x → bS k j ≠ p) (fun x => ((lenS k : Int) - x).toNat) ?_ 0 ⟨by omega, by omega, fun j hj => by omega⟩
    intro x C ⟨hx0, hx1, hx2⟩ hC
    unfold b7_J1_indexOfChar_4cfef
    obtain ⟨j, rfl⟩ := Int.eq_ofNat_of_zero_le hx0
    refine ⟨fun h => ?_, fun h => ⟨⟨hx0, by omega⟩, fun e => ?_, fun e => ?_⟩⟩
    · rw [← hnone (fun j' hj' => hx2 j' (by omega))]
      exact hQ
    · have hj := hb j (by omega)
      rw [i8_eq h0 h1 (by omega) hj.2] at e
      have : ixS k p = j := by
        unfold ixS
        rw [ixL_drop (chS k) p j (fun j' hj' => by rw [← (hb j' (by omega)).1]; exact hx2 j' (by omega)) (by omega)]
        have h3 : (chS k).drop j = (chS k).getD j 0 :: (chS k).drop (j + 1) := by
          rw [List.drop_eq_getElem_cons (by omega)]
          simp [List.getD, show j < (chS k).length by omega]
        rw [h3, ← hj.1, e]
        simp [ixL]
      rw [← this]; exact hQ
    · have hj := hb j (by omega)
      rw [i8_eq h0 h1 (by omega) hj.2] at e
      have hw : wr ((j : Int) + 1) = ((j + 1 : Nat) : Int) := by rw [wr_of (by omega) (by omega)]; omega
      rw [hw]
      refine hC _ ⟨by omega, by omega, fun j' hj' => ?_⟩ (by omega)
      by_cases e2 : j' = j
      · rw [e2]; exact e
      · exact hx2 j' (by omega)
  have hmm : max (0 : Int) 0 = 0 ∧ min (lenS k : Int) (lenS k) = lenS k := ⟨by omega, by omega⟩
  rw [hmm.1, hmm.2]
  grind

/-! ===== what an object is: the data that calls tell ===== -/
def Dat : Type := (Int) × (Int → Int) × (Int) × (Int) × (Int) × (Int) × (Int) × (Int → Int) × (Int → Int → Int) × (Int → Int) × (Int → Int) × (Int → Int → Int) × (Int → Int → Int) × (Int → Int → Int) × (Int → Int) × (Int → Int) × (Int → Int → Int) × (Int → Int → Int) × (Int → Int)
def Dat.many (x0 : Dat) : Int := (Prod.fst x0)
def Dat.tx (x0 : Dat) : Int → Int := (Prod.fst (Prod.snd x0))
def Dat.cnt (x0 : Dat) : Int := (Prod.fst (Prod.snd (Prod.snd x0)))
def Dat.fac (x0 : Dat) : Int := (Prod.fst (Prod.snd (Prod.snd (Prod.snd x0))))
def Dat.tur (x0 : Dat) : Int := (Prod.fst (Prod.snd (Prod.snd (Prod.snd (Prod.snd x0)))))
def Dat.bits (x0 : Dat) : Int := (Prod.fst (Prod.snd (Prod.snd (Prod.snd (Prod.snd (Prod.snd x0))))))
def Dat.inc (x0 : Dat) : Int := (Prod.fst (Prod.snd (Prod.snd (Prod.snd (Prod.snd (Prod.snd (Prod.snd x0)))))))
def Dat.inp (x0 : Dat) : Int → Int := (Prod.fst (Prod.snd (Prod.snd (Prod.snd (Prod.snd (Prod.snd (Prod.snd (Prod.snd x0))))))))
def Dat.told (x0 : Dat) : Int → Int → Int := (Prod.fst (Prod.snd (Prod.snd (Prod.snd (Prod.snd (Prod.snd (Prod.snd (Prod.snd (Prod.snd x0)))))))))
def Dat.un (x0 : Dat) : Int → Int := (Prod.fst (Prod.snd (Prod.snd (Prod.snd (Prod.snd (Prod.snd (Prod.snd (Prod.snd (Prod.snd (Prod.snd x0))))))))))
def Dat.cy (x0 : Dat) : Int → Int := (Prod.fst (Prod.snd (Prod.snd (Prod.snd (Prod.snd (Prod.snd (Prod.snd (Prod.snd (Prod.snd (Prod.snd (Prod.snd x0)))))))))))
def Dat.F (x0 : Dat) : Int → Int → Int := (Prod.fst (Prod.snd (Prod.snd (Prod.snd (Prod.snd (Prod.snd (Prod.snd (Prod.snd (Prod.snd (Prod.snd (Prod.snd (Prod.snd x0))))))))))))
def Dat.N (x0 : Dat) : Int → Int → Int := (Prod.fst (Prod.snd (Prod.snd (Prod.snd (Prod.snd (Prod.snd (Prod.snd (Prod.snd (Prod.snd (Prod.snd (Prod.snd (Prod.snd (Prod.snd x0)))))))))))))
def Dat.T (x0 : Dat) : Int → Int → Int := (Prod.fst (Prod.snd (Prod.snd (Prod.snd (Prod.snd (Prod.snd (Prod.snd (Prod.snd (Prod.snd (Prod.snd (Prod.snd (Prod.snd (Prod.snd (Prod.snd x0))))))))))))))
def Dat.O (x0 : Dat) : Int → Int := (Prod.fst (Prod.snd (Prod.snd (Prod.snd (Prod.snd (Prod.snd (Prod.snd (Prod.snd (Prod.snd (Prod.snd (Prod.snd (Prod.snd (Prod.snd (Prod.snd (Prod.snd x0)))))))))))))))
def Dat.ac (x0 : Dat) : Int → Int := (Prod.fst (Prod.snd (Prod.snd (Prod.snd (Prod.snd (Prod.snd (Prod.snd (Prod.snd (Prod.snd (Prod.snd (Prod.snd (Prod.snd (Prod.snd (Prod.snd (Prod.snd (Prod.snd x0))))))))))))))))
def Dat.ach (x0 : Dat) : Int → Int → Int := (Prod.fst (Prod.snd (Prod.snd (Prod.snd (Prod.snd (Prod.snd (Prod.snd (Prod.snd (Prod.snd (Prod.snd (Prod.snd (Prod.snd (Prod.snd (Prod.snd (Prod.snd (Prod.snd (Prod.snd x0)))))))))))))))))
def Dat.apt (x0 : Dat) : Int → Int → Int := (Prod.fst (Prod.snd (Prod.snd (Prod.snd (Prod.snd (Prod.snd (Prod.snd (Prod.snd (Prod.snd (Prod.snd (Prod.snd (Prod.snd (Prod.snd (Prod.snd (Prod.snd (Prod.snd (Prod.snd (Prod.snd x0))))))))))))))))))
def Dat.dep (x0 : Dat) : Int → Int := (Prod.snd (Prod.snd (Prod.snd (Prod.snd (Prod.snd (Prod.snd (Prod.snd (Prod.snd (Prod.snd (Prod.snd (Prod.snd (Prod.snd (Prod.snd (Prod.snd (Prod.snd (Prod.snd (Prod.snd (Prod.snd x0))))))))))))))))))
def Dat.mk (x0 : Int) (x1 : Int → Int) (x2 : Int) (x3 : Int) (x4 : Int) (x5 : Int) (x6 : Int) (x7 : Int → Int) (x8 : Int → Int → Int) (x9 : Int → Int) (x10 : Int → Int) (x11 : Int → Int → Int) (x12 : Int → Int → Int) (x13 : Int → Int → Int) (x14 : Int → Int) (x15 : Int → Int) (x16 : Int → Int → Int) (x17 : Int → Int → Int) (x18 : Int → Int) : Dat := (x0, x1, x2, x3, x4, x5, x6, x7, x8, x9, x10, x11, x12, x13, x14, x15, x16, x17, x18)
theorem Dat.k_many {x0 : Int} {x1 : Int → Int} {x2 : Int} {x3 : Int} {x4 : Int} {x5 : Int} {x6 : Int} {x7 : Int → Int} {x8 : Int → Int → Int} {x9 : Int → Int} {x10 : Int → Int} {x11 : Int → Int → Int} {x12 : Int → Int → Int} {x13 : Int → Int → Int} {x14 : Int → Int} {x15 : Int → Int} {x16 : Int → Int → Int} {x17 : Int → Int → Int} {x18 : Int → Int} : (Dat.mk x0 x1 x2 x3 x4 x5 x6 x7 x8 x9 x10 x11 x12 x13 x14 x15 x16 x17 x18).many = x0 := rfl
theorem Dat.k_tx {x0 : Int} {x1 : Int → Int} {x2 : Int} {x3 : Int} {x4 : Int} {x5 : Int} {x6 : Int} {x7 : Int → Int} {x8 : Int → Int → Int} {x9 : Int → Int} {x10 : Int → Int} {x11 : Int → Int → Int} {x12 : Int → Int → Int} {x13 : Int → Int → Int} {x14 : Int → Int} {x15 : Int → Int} {x16 : Int → Int → Int} {x17 : Int → Int → Int} {x18 : Int → Int} : (Dat.mk x0 x1 x2 x3 x4 x5 x6 x7 x8 x9 x10 x11 x12 x13 x14 x15 x16 x17 x18).tx = x1 := rfl
theorem Dat.k_cnt {x0 : Int} {x1 : Int → Int} {x2 : Int} {x3 : Int} {x4 : Int} {x5 : Int} {x6 : Int} {x7 : Int → Int} {x8 : Int → Int → Int} {x9 : Int → Int} {x10 : Int → Int} {x11 : Int → Int → Int} {x12 : Int → Int → Int} {x13 : Int → Int → Int} {x14 : Int → Int} {x15 : Int → Int} {x16 : Int → Int → Int} {x17 : Int → Int → Int} {x18 : Int → Int} : (Dat.mk x0 x1 x2 x3 x4 x5 x6 x7 x8 x9 x10 x11 x12 x13 x14 x15 x16 x17 x18).cnt = x2 := rfl
theorem Dat.k_fac {x0 : Int} {x1 : Int → Int} {x2 : Int} {x3 : Int} {x4 : Int} {x5 : Int} {x6 : Int} {x7 : Int → Int} {x8 : Int → Int → Int} {x9 : Int → Int} {x10 : Int → Int} {x11 : Int → Int → Int} {x12 : Int → Int → Int} {x13 : Int → Int → Int} {x14 : Int → Int} {x15 : Int → Int} {x16 : Int → Int → Int} {x17 : Int → Int → Int} {x18 : Int → Int} : (Dat.mk x0 x1 x2 x3 x4 x5 x6 x7 x8 x9 x10 x11 x12 x13 x14 x15 x16 x17 x18).fac = x3 := rfl
theorem Dat.k_tur {x0 : Int} {x1 : Int → Int} {x2 : Int} {x3 : Int} {x4 : Int} {x5 : Int} {x6 : Int} {x7 : Int → Int} {x8 : Int → Int → Int} {x9 : Int → Int} {x10 : Int → Int} {x11 : Int → Int → Int} {x12 : Int → Int → Int} {x13 : Int → Int → Int} {x14 : Int → Int} {x15 : Int → Int} {x16 : Int → Int → Int} {x17 : Int → Int → Int} {x18 : Int → Int} : (Dat.mk x0 x1 x2 x3 x4 x5 x6 x7 x8 x9 x10 x11 x12 x13 x14 x15 x16 x17 x18).tur = x4 := rfl
theorem Dat.k_bits {x0 : Int} {x1 : Int → Int} {x2 : Int} {x3 : Int} {x4 : Int} {x5 : Int} {x6 : Int} {x7 : Int → Int} {x8 : Int → Int → Int} {x9 : Int → Int} {x10 : Int → Int} {x11 : Int → Int → Int} {x12 : Int → Int → Int} {x13 : Int → Int → Int} {x14 : Int → Int} {x15 : Int → Int} {x16 : Int → Int → Int} {x17 : Int → Int → Int} {x18 : Int → Int} : (Dat.mk x0 x1 x2 x3 x4 x5 x6 x7 x8 x9 x10 x11 x12 x13 x14 x15 x16 x17 x18).bits = x5 := rfl
theorem Dat.k_inc {x0 : Int} {x1 : Int → Int} {x2 : Int} {x3 : Int} {x4 : Int} {x5 : Int} {x6 : Int} {x7 : Int → Int} {x8 : Int → Int → Int} {x9 : Int → Int} {x10 : Int → Int} {x11 : Int → Int → Int} {x12 : Int → Int → Int} {x13 : Int → Int → Int} {x14 : Int → Int} {x15 : Int → Int} {x16 : Int → Int → Int} {x17 : Int → Int → Int} {x18 : Int → Int} : (Dat.mk x0 x1 x2 x3 x4 x5 x6 x7 x8 x9 x10 x11 x12 x13 x14 x15 x16 x17 x18).inc = x6 := rfl
theorem Dat.k_inp {x0 : Int} {x1 : Int → Int} {x2 : Int} {x3 : Int} {x4 : Int} {x5 : Int} {x6 : Int} {x7 : Int → Int} {x8 : Int → Int → Int} {x9 : Int → Int} {x10 : Int → Int} {x11 : Int → Int → Int} {x12 : Int → Int → Int} {x13 : Int → Int → Int} {x14 : Int → Int} {x15 : Int → Int} {x16 : Int → Int → Int} {x17 : Int → Int → Int} {x18 : Int → Int} : (Dat.mk x0 x1 x2 x3 x4 x5 x6 x7 x8 x9 x10 x11 x12 x13 x14 x15 x16 x17 x18).inp = x7 := rfl
theorem Dat.k_told {x0 : Int} {x1 : Int → Int} {x2 : Int} {x3 : Int} {x4 : Int} {x5 : Int} {x6 : Int} {x7 : Int → Int} {x8 : Int → Int → Int} {x9 : Int → Int} {x10 : Int → Int} {x11 : Int → Int → Int} {x12 : Int → Int → Int} {x13 : Int → Int → Int} {x14 : Int → Int} {x15 : Int → Int} {x16 : Int → Int → Int} {x17 : Int → Int → Int} {x18 : Int → Int} : (Dat.mk x0 x1 x2 x3 x4 x5 x6 x7 x8 x9 x10 x11 x12 x13 x14 x15 x16 x17 x18).told = x8 := rfl
theorem Dat.k_un {x0 : Int} {x1 : Int → Int} {x2 : Int} {x3 : Int} {x4 : Int} {x5 : Int} {x6 : Int} {x7 : Int → Int} {x8 : Int → Int → Int} {x9 : Int → Int} {x10 : Int → Int} {x11 : Int → Int → Int} {x12 : Int → Int → Int} {x13 : Int → Int → Int} {x14 : Int → Int} {x15 : Int → Int} {x16 : Int → Int → Int} {x17 : Int → Int → Int} {x18 : Int → Int} : (Dat.mk x0 x1 x2 x3 x4 x5 x6 x7 x8 x9 x10 x11 x12 x13 x14 x15 x16 x17 x18).un = x9 := rfl
theorem Dat.k_cy {x0 : Int} {x1 : Int → Int} {x2 : Int} {x3 : Int} {x4 : Int} {x5 : Int} {x6 : Int} {x7 : Int → Int} {x8 : Int → Int → Int} {x9 : Int → Int} {x10 : Int → Int} {x11 : Int → Int → Int} {x12 : Int → Int → Int} {x13 : Int → Int → Int} {x14 : Int → Int} {x15 : Int → Int} {x16 : Int → Int → Int} {x17 : Int → Int → Int} {x18 : Int → Int} : (Dat.mk x0 x1 x2 x3 x4 x5 x6 x7 x8 x9 x10 x11 x12 x13 x14 x15 x16 x17 x18).cy = x10 := rfl
theorem Dat.k_F {x0 : Int} {x1 : Int → Int} {x2 : Int} {x3 : Int} {x4 : Int} {x5 : Int} {x6 : Int} {x7 : Int → Int} {x8 : Int → Int → Int} {x9 : Int → Int} {x10 : Int → Int} {x11 : Int → Int → Int} {x12 : Int → Int → Int} {x13 : Int → Int → Int} {x14 : Int → Int} {x15 : Int → Int} {x16 : Int → Int → Int} {x17 : Int → Int → Int} {x18 : Int → Int} : (Dat.mk x0 x1 x2 x3 x4 x5 x6 x7 x8 x9 x10 x11 x12 x13 x14 x15 x16 x17 x18).F = x11 := rfl
theorem Dat.k_N {x0 : Int} {x1 : Int → Int} {x2 : Int} {x3 : Int} {x4 : Int} {x5 : Int} {x6 : Int} {x7 : Int → Int} {x8 : Int → Int → Int} {x9 : Int → Int} {x10 : Int → Int} {x11 : Int → Int → Int} {x12 : Int → Int → Int} {x13 : Int → Int → Int} {x14 : Int → Int} {x15 : Int → Int} {x16 : Int → Int → Int} {x17 : Int → Int → Int} {x18 : Int → Int} : (Dat.mk x0 x1 x2 x3 x4 x5 x6 x7 x8 x9 x10 x11 x12 x13 x14 x15 x16 x17 x18).N = x12 := rfl
theorem Dat.k_T {x0 : Int} {x1 : Int → Int} {x2 : Int} {x3 : Int} {x4 : Int} {x5 : Int} {x6 : Int} {x7 : Int → Int} {x8 : Int → Int → Int} {x9 : Int → Int} {x10 : Int → Int} {x11 : Int → Int → Int} {x12 : Int → Int → Int} {x13 : Int → Int → Int} {x14 : Int → Int} {x15 : Int → Int} {x16 : Int → Int → Int} {x17 : Int → Int → Int} {x18 : Int → Int} : (Dat.mk x0 x1 x2 x3 x4 x5 x6 x7 x8 x9 x10 x11 x12 x13 x14 x15 x16 x17 x18).T = x13 := rfl
theorem Dat.k_O {x0 : Int} {x1 : Int → Int} {x2 : Int} {x3 : Int} {x4 : Int} {x5 : Int} {x6 : Int} {x7 : Int → Int} {x8 : Int → Int → Int} {x9 : Int → Int} {x10 : Int → Int} {x11 : Int → Int → Int} {x12 : Int → Int → Int} {x13 : Int → Int → Int} {x14 : Int → Int} {x15 : Int → Int} {x16 : Int → Int → Int} {x17 : Int → Int → Int} {x18 : Int → Int} : (Dat.mk x0 x1 x2 x3 x4 x5 x6 x7 x8 x9 x10 x11 x12 x13 x14 x15 x16 x17 x18).O = x14 := rfl
theorem Dat.k_ac {x0 : Int} {x1 : Int → Int} {x2 : Int} {x3 : Int} {x4 : Int} {x5 : Int} {x6 : Int} {x7 : Int → Int} {x8 : Int → Int → Int} {x9 : Int → Int} {x10 : Int → Int} {x11 : Int → Int → Int} {x12 : Int → Int → Int} {x13 : Int → Int → Int} {x14 : Int → Int} {x15 : Int → Int} {x16 : Int → Int → Int} {x17 : Int → Int → Int} {x18 : Int → Int} : (Dat.mk x0 x1 x2 x3 x4 x5 x6 x7 x8 x9 x10 x11 x12 x13 x14 x15 x16 x17 x18).ac = x15 := rfl
theorem Dat.k_ach {x0 : Int} {x1 : Int → Int} {x2 : Int} {x3 : Int} {x4 : Int} {x5 : Int} {x6 : Int} {x7 : Int → Int} {x8 : Int → Int → Int} {x9 : Int → Int} {x10 : Int → Int} {x11 : Int → Int → Int} {x12 : Int → Int → Int} {x13 : Int → Int → Int} {x14 : Int → Int} {x15 : Int → Int} {x16 : Int → Int → Int} {x17 : Int → Int → Int} {x18 : Int → Int} : (Dat.mk x0 x1 x2 x3 x4 x5 x6 x7 x8 x9 x10 x11 x12 x13 x14 x15 x16 x17 x18).ach = x16 := rfl
theorem Dat.k_apt {x0 : Int} {x1 : Int → Int} {x2 : Int} {x3 : Int} {x4 : Int} {x5 : Int} {x6 : Int} {x7 : Int → Int} {x8 : Int → Int → Int} {x9 : Int → Int} {x10 : Int → Int} {x11 : Int → Int → Int} {x12 : Int → Int → Int} {x13 : Int → Int → Int} {x14 : Int → Int} {x15 : Int → Int} {x16 : Int → Int → Int} {x17 : Int → Int → Int} {x18 : Int → Int} : (Dat.mk x0 x1 x2 x3 x4 x5 x6 x7 x8 x9 x10 x11 x12 x13 x14 x15 x16 x17 x18).apt = x17 := rfl
theorem Dat.k_dep {x0 : Int} {x1 : Int → Int} {x2 : Int} {x3 : Int} {x4 : Int} {x5 : Int} {x6 : Int} {x7 : Int → Int} {x8 : Int → Int → Int} {x9 : Int → Int} {x10 : Int → Int} {x11 : Int → Int → Int} {x12 : Int → Int → Int} {x13 : Int → Int → Int} {x14 : Int → Int} {x15 : Int → Int} {x16 : Int → Int → Int} {x17 : Int → Int → Int} {x18 : Int → Int} : (Dat.mk x0 x1 x2 x3 x4 x5 x6 x7 x8 x9 x10 x11 x12 x13 x14 x15 x16 x17 x18).dep = x18 := rfl
/-- a statement's row: forms, numbers, whether by the turn, operation (32: none) -/
def SOk (F N T : Int → Int) (O : Int) : Prop := (F 0 = 0 ∨ F 0 = 3 ∨ F 0 = 4 ∨ F 0 = 6) ∧ (0 ≤ F 1 ∧ F 1 ≤ 5) ∧ (O = 32 ∧ F 2 = -1 ∨ (O = 43 ∨ O = 45 ∨ O = 42 ∨ O = 38 ∨ O = 124 ∨ O = 94 ∨ O = 108) ∧ 0 ≤ F 2 ∧ F 2 ≤ 5) ∧ (∀ p, 0 ≤ p → p < 3 → F p = 0 → 0 ≤ N p ∧ N p ≤ 7) ∧ (∀ p, 0 ≤ p → p < 3 → F p = 1 → 0 ≤ N p ∧ N p ≤ 99) ∧ (∀ p, 0 ≤ p → p < 3 → F p = 3 ∨ F p = 4 → (T p = 0 ∧ 0 ≤ N p ∧ N p ≤ 99) ∨ (T p = 1 ∧ -9 ≤ N p ∧ N p ≤ 9)) ∧ (∀ p, 0 ≤ p → p < 3 → F p = 3 ∨ F p = 4 ∨ T p = 0)
theorem SOk.f0 {F N T : Int → Int} {O : Int} (h0 : SOk F N T O) : F 0 = 0 ∨ F 0 = 3 ∨ F 0 = 4 ∨ F 0 = 6 := h0.1
theorem SOk.f1 {F N T : Int → Int} {O : Int} (h0 : SOk F N T O) : 0 ≤ F 1 ∧ F 1 ≤ 5 := h0.2.1
theorem SOk.f2 {F N T : Int → Int} {O : Int} (h0 : SOk F N T O) : O = 32 ∧ F 2 = -1 ∨ (O = 43 ∨ O = 45 ∨ O = 42 ∨ O = 38 ∨ O = 124 ∨ O = 94 ∨ O = 108) ∧ 0 ≤ F 2 ∧ F 2 ≤ 5 := h0.2.2.1
theorem SOk.n0 {F N T : Int → Int} {O : Int} (h0 : SOk F N T O) : ∀ p, 0 ≤ p → p < 3 → F p = 0 → 0 ≤ N p ∧ N p ≤ 7 := h0.2.2.2.1
theorem SOk.n1 {F N T : Int → Int} {O : Int} (h0 : SOk F N T O) : ∀ p, 0 ≤ p → p < 3 → F p = 1 → 0 ≤ N p ∧ N p ≤ 99 := h0.2.2.2.2.1
theorem SOk.n3 {F N T : Int → Int} {O : Int} (h0 : SOk F N T O) : ∀ p, 0 ≤ p → p < 3 → F p = 3 ∨ F p = 4 → (T p = 0 ∧ 0 ≤ N p ∧ N p ≤ 99) ∨ (T p = 1 ∧ -9 ≤ N p ∧ N p ≤ 9) := h0.2.2.2.2.2.1
theorem SOk.t0 {F N T : Int → Int} {O : Int} (h0 : SOk F N T O) : ∀ p, 0 ≤ p → p < 3 → F p = 3 ∨ F p = 4 ∨ T p = 0 := h0.2.2.2.2.2.2
theorem SOk.mk {F N T : Int → Int} {O : Int} (h0 : F 0 = 0 ∨ F 0 = 3 ∨ F 0 = 4 ∨ F 0 = 6) (h1 : 0 ≤ F 1 ∧ F 1 ≤ 5) (h2 : O = 32 ∧ F 2 = -1 ∨ (O = 43 ∨ O = 45 ∨ O = 42 ∨ O = 38 ∨ O = 124 ∨ O = 94 ∨ O = 108) ∧ 0 ≤ F 2 ∧ F 2 ≤ 5) (h3 : ∀ p, 0 ≤ p → p < 3 → F p = 0 → 0 ≤ N p ∧ N p ≤ 7) (h4 : ∀ p, 0 ≤ p → p < 3 → F p = 1 → 0 ≤ N p ∧ N p ≤ 99) (h5 : ∀ p, 0 ≤ p → p < 3 → F p = 3 ∨ F p = 4 → (T p = 0 ∧ 0 ≤ N p ∧ N p ≤ 99) ∨ (T p = 1 ∧ -9 ≤ N p ∧ N p ≤ 9)) (h6 : ∀ p, 0 ≤ p → p < 3 → F p = 3 ∨ F p = 4 ∨ T p = 0) : SOk F N T O := ⟨h0, h1, h2, h3, h4, h5, h6⟩
def DOk (D : Dat) : Prop := (0 ≤ D.many ∧ D.many ≤ 24) ∧ (∀ k, 0 ≤ k → k < D.many → 0 ≤ D.tx k ∧ D.tx k < 65536) ∧ (0 ≤ D.cnt ∧ D.cnt ≤ 12) ∧ (1 ≤ D.fac ∧ D.fac ≤ 4) ∧ (D.cnt * D.fac ≤ 24) ∧ (1 ≤ D.tur ∧ D.tur ≤ 16) ∧ (D.tur.tmod D.fac = 0) ∧ (1 ≤ D.bits ∧ D.bits ≤ 16) ∧ (0 ≤ D.inc ∧ D.inc ≤ 32) ∧ (∀ k, 0 ≤ k → k < D.inc → 0 ≤ D.inp k ∧ D.inp k ≤ 65535) ∧ (∀ m p, 0 ≤ m → m < 2 → 0 ≤ p → p < 16 → 0 ≤ D.told m p ∧ D.told m p ≤ 65535) ∧ (∀ k, 0 ≤ k → k < 7 → 1 ≤ D.un k ∧ D.un k ≤ 4) ∧ (∀ k, 5 ≤ k → k < 7 → D.un k = 1) ∧ (∀ k, 0 ≤ k → k < 7 → 1 ≤ D.cy k ∧ D.cy k ≤ 5) ∧ (∀ k, 0 ≤ k → k < D.cnt → SOk (D.F k) (D.N k) (D.T k) (D.O k)) ∧ (∀ p, 0 ≤ p → p < 4 → 0 ≤ D.ac p ∧ D.ac p ≤ 16) ∧ (∀ p k, 0 ≤ p → p < 4 → 0 ≤ k → k < D.ac p → 0 ≤ D.ach p k ∧ D.ach p k < 4) ∧ (∀ p k, 0 ≤ p → p < 4 → 0 ≤ k → k < D.ac p → D.apt p k = 0 ∨ D.apt p k = 1) ∧ (∀ c, 0 ≤ c → c < 4 → 1 ≤ D.dep c ∧ D.dep c ≤ 16)
theorem DOk.many {D : Dat} (h0 : DOk D) : 0 ≤ D.many ∧ D.many ≤ 24 := h0.1
theorem DOk.tx {D : Dat} (h0 : DOk D) : ∀ k, 0 ≤ k → k < D.many → 0 ≤ D.tx k ∧ D.tx k < 65536 := h0.2.1
theorem DOk.cnt {D : Dat} (h0 : DOk D) : 0 ≤ D.cnt ∧ D.cnt ≤ 12 := h0.2.2.1
theorem DOk.fac {D : Dat} (h0 : DOk D) : 1 ≤ D.fac ∧ D.fac ≤ 4 := h0.2.2.2.1
theorem DOk.body {D : Dat} (h0 : DOk D) : D.cnt * D.fac ≤ 24 := h0.2.2.2.2.1
theorem DOk.tur {D : Dat} (h0 : DOk D) : 1 ≤ D.tur ∧ D.tur ≤ 16 := h0.2.2.2.2.2.1
theorem DOk.div {D : Dat} (h0 : DOk D) : D.tur.tmod D.fac = 0 := h0.2.2.2.2.2.2.1
theorem DOk.bits {D : Dat} (h0 : DOk D) : 1 ≤ D.bits ∧ D.bits ≤ 16 := h0.2.2.2.2.2.2.2.1
theorem DOk.inc {D : Dat} (h0 : DOk D) : 0 ≤ D.inc ∧ D.inc ≤ 32 := h0.2.2.2.2.2.2.2.2.1
theorem DOk.inp {D : Dat} (h0 : DOk D) : ∀ k, 0 ≤ k → k < D.inc → 0 ≤ D.inp k ∧ D.inp k ≤ 65535 := h0.2.2.2.2.2.2.2.2.2.1
theorem DOk.told {D : Dat} (h0 : DOk D) : ∀ m p, 0 ≤ m → m < 2 → 0 ≤ p → p < 16 → 0 ≤ D.told m p ∧ D.told m p ≤ 65535 := h0.2.2.2.2.2.2.2.2.2.2.1
theorem DOk.un {D : Dat} (h0 : DOk D) : ∀ k, 0 ≤ k → k < 7 → 1 ≤ D.un k ∧ D.un k ≤ 4 := h0.2.2.2.2.2.2.2.2.2.2.2.1
theorem DOk.un1 {D : Dat} (h0 : DOk D) : ∀ k, 5 ≤ k → k < 7 → D.un k = 1 := h0.2.2.2.2.2.2.2.2.2.2.2.2.1
theorem DOk.cy {D : Dat} (h0 : DOk D) : ∀ k, 0 ≤ k → k < 7 → 1 ≤ D.cy k ∧ D.cy k ≤ 5 := h0.2.2.2.2.2.2.2.2.2.2.2.2.2.1
theorem DOk.st {D : Dat} (h0 : DOk D) : ∀ k, 0 ≤ k → k < D.cnt → SOk (D.F k) (D.N k) (D.T k) (D.O k) := h0.2.2.2.2.2.2.2.2.2.2.2.2.2.2.1
theorem DOk.ac {D : Dat} (h0 : DOk D) : ∀ p, 0 ≤ p → p < 4 → 0 ≤ D.ac p ∧ D.ac p ≤ 16 := h0.2.2.2.2.2.2.2.2.2.2.2.2.2.2.2.1
theorem DOk.ach {D : Dat} (h0 : DOk D) : ∀ p k, 0 ≤ p → p < 4 → 0 ≤ k → k < D.ac p → 0 ≤ D.ach p k ∧ D.ach p k < 4 := h0.2.2.2.2.2.2.2.2.2.2.2.2.2.2.2.2.1
theorem DOk.apt {D : Dat} (h0 : DOk D) : ∀ p k, 0 ≤ p → p < 4 → 0 ≤ k → k < D.ac p → D.apt p k = 0 ∨ D.apt p k = 1 := h0.2.2.2.2.2.2.2.2.2.2.2.2.2.2.2.2.2.1
theorem DOk.dep {D : Dat} (h0 : DOk D) : ∀ c, 0 ≤ c → c < 4 → 1 ≤ D.dep c ∧ D.dep c ≤ 16 := h0.2.2.2.2.2.2.2.2.2.2.2.2.2.2.2.2.2.2
theorem DOk.mk {D : Dat} (h0 : 0 ≤ D.many ∧ D.many ≤ 24) (h1 : ∀ k, 0 ≤ k → k < D.many → 0 ≤ D.tx k ∧ D.tx k < 65536) (h2 : 0 ≤ D.cnt ∧ D.cnt ≤ 12) (h3 : 1 ≤ D.fac ∧ D.fac ≤ 4) (h4 : D.cnt * D.fac ≤ 24) (h5 : 1 ≤ D.tur ∧ D.tur ≤ 16) (h6 : D.tur.tmod D.fac = 0) (h7 : 1 ≤ D.bits ∧ D.bits ≤ 16) (h8 : 0 ≤ D.inc ∧ D.inc ≤ 32) (h9 : ∀ k, 0 ≤ k → k < D.inc → 0 ≤ D.inp k ∧ D.inp k ≤ 65535) (h10 : ∀ m p, 0 ≤ m → m < 2 → 0 ≤ p → p < 16 → 0 ≤ D.told m p ∧ D.told m p ≤ 65535) (h11 : ∀ k, 0 ≤ k → k < 7 → 1 ≤ D.un k ∧ D.un k ≤ 4) (h12 : ∀ k, 5 ≤ k → k < 7 → D.un k = 1) (h13 : ∀ k, 0 ≤ k → k < 7 → 1 ≤ D.cy k ∧ D.cy k ≤ 5) (h14 : ∀ k, 0 ≤ k → k < D.cnt → SOk (D.F k) (D.N k) (D.T k) (D.O k)) (h15 : ∀ p, 0 ≤ p → p < 4 → 0 ≤ D.ac p ∧ D.ac p ≤ 16) (h16 : ∀ p k, 0 ≤ p → p < 4 → 0 ≤ k → k < D.ac p → 0 ≤ D.ach p k ∧ D.ach p k < 4) (h17 : ∀ p k, 0 ≤ p → p < 4 → 0 ≤ k → k < D.ac p → D.apt p k = 0 ∨ D.apt p k = 1) (h18 : ∀ c, 0 ≤ c → c < 4 → 1 ≤ D.dep c ∧ D.dep c ≤ 16) : DOk D := ⟨h0, h1, h2, h3, h4, h5, h6, h7, h8, h9, h10, h11, h12, h13, h14, h15, h16, h17, h18⟩
/-- a statement of the class at an object -/
def StmAt (i : MI) (o : Int) (F N T : Int → Int) (O : Int) : Prop := (∀ p, 0 ≤ p → p < 3 → i (o + 1) p = F p) ∧ (∀ p, 0 ≤ p → p < 3 → i (o + 2) p = N p) ∧ (∀ p, 0 ≤ p → p < 3 → i (o + 3) p = T p) ∧ (i o 3 = O)
theorem StmAt.f {i : MI} {o : Int} {F N T : Int → Int} {O : Int} (h0 : StmAt i o F N T O) : ∀ p, 0 ≤ p → p < 3 → i (o + 1) p = F p := h0.1
theorem StmAt.n {i : MI} {o : Int} {F N T : Int → Int} {O : Int} (h0 : StmAt i o F N T O) : ∀ p, 0 ≤ p → p < 3 → i (o + 2) p = N p := h0.2.1
theorem StmAt.t {i : MI} {o : Int} {F N T : Int → Int} {O : Int} (h0 : StmAt i o F N T O) : ∀ p, 0 ≤ p → p < 3 → i (o + 3) p = T p := h0.2.2.1
theorem StmAt.o {i : MI} {o : Int} {F N T : Int → Int} {O : Int} (h0 : StmAt i o F N T O) : i o 3 = O := h0.2.2.2
theorem StmAt.mk {i : MI} {o : Int} {F N T : Int → Int} {O : Int} (h0 : ∀ p, 0 ≤ p → p < 3 → i (o + 1) p = F p) (h1 : ∀ p, 0 ≤ p → p < 3 → i (o + 2) p = N p) (h2 : ∀ p, 0 ≤ p → p < 3 → i (o + 3) p = T p) (h3 : i o 3 = O) : StmAt i o F N T O := ⟨h0, h1, h2, h3⟩
/-- the references that rows of statements keep -/
def RefP (r : MI) : Prop := (∀ k, 0 ≤ k → k < 12 → stm (r 4 k)) ∧ (stm (r 3 3)) ∧ (∀ k j, 0 ≤ k → k < 12 → 0 ≤ j → j < 12 → r 4 k = r 4 j → k = j) ∧ (∀ k, 0 ≤ k → k < 12 → r 4 k ≠ r 3 3)
theorem RefP.s {r : MI} (h0 : RefP r) : ∀ k, 0 ≤ k → k < 12 → stm (r 4 k) := h0.1
theorem RefP.p {r : MI} (h0 : RefP r) : stm (r 3 3) := h0.2.1
theorem RefP.d {r : MI} (h0 : RefP r) : ∀ k j, 0 ≤ k → k < 12 → 0 ≤ j → j < 12 → r 4 k = r 4 j → k = j := h0.2.2.1
theorem RefP.dp {r : MI} (h0 : RefP r) : ∀ k, 0 ≤ k → k < 12 → r 4 k ≠ r 3 3 := h0.2.2.2
theorem RefP.mk {r : MI} (h0 : ∀ k, 0 ≤ k → k < 12 → stm (r 4 k)) (h1 : stm (r 3 3)) (h2 : ∀ k j, 0 ≤ k → k < 12 → 0 ≤ j → j < 12 → r 4 k = r 4 j → k = j) (h3 : ∀ k, 0 ≤ k → k < 12 → r 4 k ≠ r 3 3) : RefP r := ⟨h0, h1, h2, h3⟩
def ClassP (D : Dat) (i r : MI) : Prop := (i 1 1 = D.many) ∧ (∀ k, 0 ≤ k → k < D.many → i 2 k = D.tx k) ∧ (i 3 4 = D.cnt) ∧ (i 3 5 = D.inc) ∧ (i 3 6 = D.tur) ∧ (i 3 7 = D.bits) ∧ (i 3 8 = D.fac) ∧ (∀ k, 0 ≤ k → k < D.inc → i 5 k = D.inp k) ∧ (∀ m p, 0 ≤ m → m < 2 → 0 ≤ p → p < 16 → i (7 + m) p = D.told m p) ∧ (∀ k, 0 ≤ k → k < 7 → i 69 k = D.un k) ∧ (∀ k, 0 ≤ k → k < 7 → i 70 k = D.cy k) ∧ (∀ k, 0 ≤ k → k < D.cnt → StmAt i (r 4 k) (D.F k) (D.N k) (D.T k) (D.O k)) ∧ (∀ p, 0 ≤ p → p < 4 → i 499 p = D.ac p) ∧ (∀ p k, 0 ≤ p → p < 4 → 0 ≤ k → k < D.ac p → i (490 + p) k = D.ach p k) ∧ (∀ p k, 0 ≤ p → p < 4 → 0 ≤ k → k < D.ac p → i (495 + p) k = 2 * D.apt p k - 1) ∧ (∀ c, 0 ≤ c → c < 4 → i 500 c = D.dep c) ∧ (RefP r) ∧ (0 ≤ D.cnt ∧ D.cnt ≤ 12)
theorem ClassP.many {D : Dat} {i r : MI} (h0 : ClassP D i r) : i 1 1 = D.many := h0.1
theorem ClassP.tx {D : Dat} {i r : MI} (h0 : ClassP D i r) : ∀ k, 0 ≤ k → k < D.many → i 2 k = D.tx k := h0.2.1
theorem ClassP.cnt {D : Dat} {i r : MI} (h0 : ClassP D i r) : i 3 4 = D.cnt := h0.2.2.1
theorem ClassP.inc {D : Dat} {i r : MI} (h0 : ClassP D i r) : i 3 5 = D.inc := h0.2.2.2.1
theorem ClassP.tur {D : Dat} {i r : MI} (h0 : ClassP D i r) : i 3 6 = D.tur := h0.2.2.2.2.1
theorem ClassP.bits {D : Dat} {i r : MI} (h0 : ClassP D i r) : i 3 7 = D.bits := h0.2.2.2.2.2.1
theorem ClassP.fac {D : Dat} {i r : MI} (h0 : ClassP D i r) : i 3 8 = D.fac := h0.2.2.2.2.2.2.1
theorem ClassP.inp {D : Dat} {i r : MI} (h0 : ClassP D i r) : ∀ k, 0 ≤ k → k < D.inc → i 5 k = D.inp k := h0.2.2.2.2.2.2.2.1
theorem ClassP.told {D : Dat} {i r : MI} (h0 : ClassP D i r) : ∀ m p, 0 ≤ m → m < 2 → 0 ≤ p → p < 16 → i (7 + m) p = D.told m p := h0.2.2.2.2.2.2.2.2.1
theorem ClassP.un {D : Dat} {i r : MI} (h0 : ClassP D i r) : ∀ k, 0 ≤ k → k < 7 → i 69 k = D.un k := h0.2.2.2.2.2.2.2.2.2.1
theorem ClassP.cy {D : Dat} {i r : MI} (h0 : ClassP D i r) : ∀ k, 0 ≤ k → k < 7 → i 70 k = D.cy k := h0.2.2.2.2.2.2.2.2.2.2.1
theorem ClassP.st {D : Dat} {i r : MI} (h0 : ClassP D i r) : ∀ k, 0 ≤ k → k < D.cnt → StmAt i (r 4 k) (D.F k) (D.N k) (D.T k) (D.O k) := h0.2.2.2.2.2.2.2.2.2.2.2.1
theorem ClassP.ac {D : Dat} {i r : MI} (h0 : ClassP D i r) : ∀ p, 0 ≤ p → p < 4 → i 499 p = D.ac p := h0.2.2.2.2.2.2.2.2.2.2.2.2.1
theorem ClassP.ach {D : Dat} {i r : MI} (h0 : ClassP D i r) : ∀ p k, 0 ≤ p → p < 4 → 0 ≤ k → k < D.ac p → i (490 + p) k = D.ach p k := h0.2.2.2.2.2.2.2.2.2.2.2.2.2.1
theorem ClassP.apt {D : Dat} {i r : MI} (h0 : ClassP D i r) : ∀ p k, 0 ≤ p → p < 4 → 0 ≤ k → k < D.ac p → i (495 + p) k = 2 * D.apt p k - 1 := h0.2.2.2.2.2.2.2.2.2.2.2.2.2.2.1
theorem ClassP.dep {D : Dat} {i r : MI} (h0 : ClassP D i r) : ∀ c, 0 ≤ c → c < 4 → i 500 c = D.dep c := h0.2.2.2.2.2.2.2.2.2.2.2.2.2.2.2.1
theorem ClassP.rf {D : Dat} {i r : MI} (h0 : ClassP D i r) : RefP r := h0.2.2.2.2.2.2.2.2.2.2.2.2.2.2.2.2.1
theorem ClassP.c12 {D : Dat} {i r : MI} (h0 : ClassP D i r) : 0 ≤ D.cnt ∧ D.cnt ≤ 12 := h0.2.2.2.2.2.2.2.2.2.2.2.2.2.2.2.2.2
theorem ClassP.mk {D : Dat} {i r : MI} (h0 : i 1 1 = D.many) (h1 : ∀ k, 0 ≤ k → k < D.many → i 2 k = D.tx k) (h2 : i 3 4 = D.cnt) (h3 : i 3 5 = D.inc) (h4 : i 3 6 = D.tur) (h5 : i 3 7 = D.bits) (h6 : i 3 8 = D.fac) (h7 : ∀ k, 0 ≤ k → k < D.inc → i 5 k = D.inp k) (h8 : ∀ m p, 0 ≤ m → m < 2 → 0 ≤ p → p < 16 → i (7 + m) p = D.told m p) (h9 : ∀ k, 0 ≤ k → k < 7 → i 69 k = D.un k) (h10 : ∀ k, 0 ≤ k → k < 7 → i 70 k = D.cy k) (h11 : ∀ k, 0 ≤ k → k < D.cnt → StmAt i (r 4 k) (D.F k) (D.N k) (D.T k) (D.O k)) (h12 : ∀ p, 0 ≤ p → p < 4 → i 499 p = D.ac p) (h13 : ∀ p k, 0 ≤ p → p < 4 → 0 ≤ k → k < D.ac p → i (490 + p) k = D.ach p k) (h14 : ∀ p k, 0 ≤ p → p < 4 → 0 ≤ k → k < D.ac p → i (495 + p) k = 2 * D.apt p k - 1) (h15 : ∀ c, 0 ≤ c → c < 4 → i 500 c = D.dep c) (h16 : RefP r) (h17 : 0 ≤ D.cnt ∧ D.cnt ≤ 12) : ClassP D i r := ⟨h0, h1, h2, h3, h4, h5, h6, h7, h8, h9, h10, h11, h12, h13, h14, h15, h16, h17⟩
/-- what a method of the class leaves alone: the reference -/
def Fc (i i' : MI) : Prop := ∀ a, 504 ≤ a → i' a = i a
/-- what a method of the reference leaves alone -/
def Fm (i i' : MI) : Prop := ∀ a, a < 504 ∨ 540 ≤ a → i' a = i a
theorem stm_rng {o : Int} (h : stm o) : 9 ≤ o ∧ o ≤ 57 ∧ (o - 9) % 4 = 0 := h
theorem StmAt.congr {i i' : MI} {o : Int} {F N T : Int → Int} {O : Int} (h : StmAt i o F N T O) (h1 : i' (o + 1) = i (o + 1)) (h2 : i' (o + 2) = i (o + 2)) (h3 : i' (o + 3) = i (o + 3)) (h0 : i' o = i o) : StmAt i' o F N T O := by
  apply StmAt.mk
  · rw [h1]; exact h.f
  · rw [h2]; exact h.n
  · rw [h3]; exact h.t
  · rw [h0]; exact h.o
/-- the rows that the class's data stand in -/
theorem ClassP.congr {D : Dat} {i i' r r' : MI} (h : ClassP D i r) (h1 : i' 1 1 = i 1 1) (h2 : i' 2 = i 2) (h3 : ∀ c, 4 ≤ c → i' 3 c = i 3 c) (h5 : i' 5 = i 5) (h7 : ∀ a, 7 ≤ a → a ≤ 8 → i' a = i a) (h9 : ∀ a, 9 ≤ a → a ≤ 60 → (a < r 3 3 ∨ r 3 3 + 3 < a) → i' a = i a) (h69 : i' 69 = i 69) (h70 : i' 70 = i 70) (h490 : ∀ a, 490 ≤ a → a ≤ 493 → i' a = i a) (h495 : ∀ a, 495 ≤ a → a ≤ 500 → i' a = i a) (hr4 : r' 4 = r 4) (hr3 : r' 3 = r 3) : ClassP D i' r' := by
  obtain ⟨hs, hp, hd, hdp⟩ := h.rf
  apply ClassP.mk
  · rw [h1]; exact h.many
  · rw [h2]; exact h.tx
  · rw [h3 _ (by decide)]; exact h.cnt
  · rw [h3 _ (by decide)]; exact h.inc
  · rw [h3 _ (by decide)]; exact h.tur
  · rw [h3 _ (by decide)]; exact h.bits
  · rw [h3 _ (by decide)]; exact h.fac
  · rw [h5]; exact h.inp
  · intro m p a b; rw [h7 (7 + m) (by omega) (by omega)]; exact h.told m p a b
  · rw [h69]; exact h.un
  · rw [h70]; exact h.cy
  · intro k k0 k1
    rw [hr4]
    have a1 := stm_rng (hs k k0 (by have := h.c12; omega))
    have a2 := stm_rng hp
    have a3 := hdp k k0 (by have := h.c12; omega)
    have g : ∀ a, r 4 k ≤ a → a ≤ r 4 k + 3 → i' a = i a := fun a b1 b2 => h9 a (by omega) (by omega) (by omega)
    exact (h.st k k0 k1).congr (g _ (by omega) (by omega)) (g _ (by omega) (by omega)) (g _ (by omega) (by omega)) (g _ (by omega) (by omega))
  · rw [h495 _ (by decide) (by decide)]; exact h.ac
  · intro p k a b; rw [h490 (490 + p) (by omega) (by omega)]; exact h.ach p k a b
  · intro p k a b; rw [h495 (495 + p) (by omega) (by omega)]; exact h.apt p k a b
  · rw [h495 _ (by decide) (by decide)]; exact h.dep
  · apply RefP.mk
    · rw [hr4]; exact hs
    · rw [hr3]; exact hp
    · rw [hr4]; exact hd
    · rw [hr4, hr3]; exact hdp
  · exact h.c12
/-! ===== small methods ===== -/
theorem StmAt.st' {i : MI} {o a k v : Int} {F N T : Int → Int} {O : Int} (h : StmAt i a F N T O) (ha : o < a ∨ a + 3 < o) : StmAt (st i o k v) a F N T O :=
  h.congr (st_row (by omega)) (st_row (by omega)) (st_row (by omega)) (st_row (by omega))
/-- cached rows are kept -/
def Kp (i i' : MI) : Prop := ∀ a, (61 ≤ a ∧ a ≤ 68) ∨ (71 ≤ a ∧ a ≤ 487) → i' a = i a
/-- after a call of the class: s says code, value and data -/
def Cl (s : Int × Int × Dat) (i i' r : MI) (md co : Int) : Prop := (ClassP s.2.2 i' r) ∧ (Kp i i') ∧ (∀ a, 504 ≤ a → a ≠ 540 → i' a = i a) ∧ (s.1 = 0 → i' 0 9 = md ∧ i' 0 10 = co) ∧ (s.1 ≠ 0 → i' 0 = i 0) ∧ (s.1 = 0 → i' 540 0 = jLo ((sJ s.2.1).toInt64) ∧ i' 540 1 = jHi ((sJ s.2.1).toInt64))
theorem Cl.p {s : Int × Int × Dat} {i i' r : MI} {md co : Int} (h0 : Cl s i i' r md co) : ClassP s.2.2 i' r := h0.1
theorem Cl.k {s : Int × Int × Dat} {i i' r : MI} {md co : Int} (h0 : Cl s i i' r md co) : Kp i i' := h0.2.1
theorem Cl.f {s : Int × Int × Dat} {i i' r : MI} {md co : Int} (h0 : Cl s i i' r md co) : ∀ a, 504 ≤ a → a ≠ 540 → i' a = i a := h0.2.2.1
theorem Cl.m {s : Int × Int × Dat} {i i' r : MI} {md co : Int} (h0 : Cl s i i' r md co) : s.1 = 0 → i' 0 9 = md ∧ i' 0 10 = co := h0.2.2.2.1
theorem Cl.m' {s : Int × Int × Dat} {i i' r : MI} {md co : Int} (h0 : Cl s i i' r md co) : s.1 ≠ 0 → i' 0 = i 0 := h0.2.2.2.2.1
theorem Cl.out {s : Int × Int × Dat} {i i' r : MI} {md co : Int} (h0 : Cl s i i' r md co) : s.1 = 0 → i' 540 0 = jLo ((sJ s.2.1).toInt64) ∧ i' 540 1 = jHi ((sJ s.2.1).toInt64) := h0.2.2.2.2.2
theorem Cl.mk {s : Int × Int × Dat} {i i' r : MI} {md co : Int} (h0 : ClassP s.2.2 i' r) (h1 : Kp i i') (h2 : ∀ a, 504 ≤ a → a ≠ 540 → i' a = i a) (h3 : s.1 = 0 → i' 0 9 = md ∧ i' 0 10 = co) (h4 : s.1 ≠ 0 → i' 0 = i 0) (h5 : s.1 = 0 → i' 540 0 = jLo ((sJ s.2.1).toInt64) ∧ i' 540 1 = jHi ((sJ s.2.1).toInt64)) : Cl s i i' r md co := ⟨h0, h1, h2, h3, h4, h5⟩
/-- an exception of the class: nothing has changed -/
theorem Cl.exc {D : Dat} {c : Int} {i r : MI} {md co : Int} (h : ClassP D i r) (hc : c ≠ 0) : Cl (c, 0, D) i i r md co :=
  ⟨h, fun _ _ => rfl, fun _ _ _ => rfl, fun q => absurd q hc, fun _ => rfl, fun q => absurd q hc⟩
def spTurns (D : Dat) (p : Int) : Int × Int × Dat := if 1 ≤ p ∧ p ≤ 16 then (if p.tmod D.fac = 0 then (0, D.tur, (Dat.mk (D.many) (D.tx) (D.cnt) (D.fac) (p) (D.bits) (D.inc) (D.inp) (D.told) (D.un) (D.cy) (D.F) (D.N) (D.T) (D.O) (D.ac) (D.ach) (D.apt) (D.dep))) else (2, 0, D)) else (1, 0, D)
def spBits (D : Dat) (p : Int) : Int × Int × Dat := if 1 ≤ p ∧ p ≤ 16 then (0, D.bits, (Dat.mk (D.many) (D.tx) (D.cnt) (D.fac) (D.tur) (p) (D.inc) (D.inp) (D.told) (D.un) (D.cy) (D.F) (D.N) (D.T) (D.O) (D.ac) (D.ach) (D.apt) (D.dep))) else (1, 0, D)
def spInput (D : Dat) (p : Int) : Int × Int × Dat := if 0 ≤ p ∧ p ≤ 65535 then (if D.inc < 32 then (0, D.inc + 1, (Dat.mk (D.many) (D.tx) (D.cnt) (D.fac) (D.tur) (D.bits) (D.inc + 1) (fun k => if k = D.inc then p else D.inp k) (D.told) (D.un) (D.cy) (D.F) (D.N) (D.T) (D.O) (D.ac) (D.ach) (D.apt) (D.dep))) else (2, 0, D)) else (1, 0, D)
def spMemory (D : Dat) (m p v : Int) : Int × Int × Dat := if (m = 77 ∨ m = 78) ∧ 0 ≤ p ∧ p ≤ 15 ∧ 0 ≤ v ∧ v ≤ 65535 then (0, D.told (m - 77) p, (Dat.mk (D.many) (D.tx) (D.cnt) (D.fac) (D.tur) (D.bits) (D.inc) (D.inp) (fun a b => if a = m - 77 ∧ b = p then v else D.told a b) (D.un) (D.cy) (D.F) (D.N) (D.T) (D.O) (D.ac) (D.ach) (D.apt) (D.dep))) else (1, 0, D)
theorem ixS_2 (p : Int) : ixS 2 p = if p = 77 then 0 else if p = 78 then 1 else -1 := by
  unfold ixS chS
  simp only [ixL]
  grind
theorem ixS_3 (p : Int) : ixS 3 p = if p = 97 then 0 else if p = 109 then 1 else if p = 103 then 2 else if p = 77 then 3 else if p = 78 then 4 else if p = 60 then 5 else if p = 62 then 6 else -1 := by
  unfold ixS chS
  simp only [ixL]
  grind
theorem ixS_rng {k : Nat} {p : Int} (hk : k < 4) : -1 ≤ ixS k p ∧ ixS k p < (chS k).length := by
  have g : ∀ (l : List Int) (n : Int), 0 ≤ n → -1 ≤ ixL l n p ∧ ixL l n p < n + l.length := by
    intro l
    induction l with
    | nil => intro n hn; simp [ixL]; omega
    | cons a l ih =>
      intro n hn
      unfold ixL
      have := ih (n + 1) (by omega)
      simp only [List.length_cons]
      split <;> omega
  have := g (chS k) 0 (by omega)
  unfold ixS
  omega
def spUnits (D : Dat) (k n : Int) : Int × Int × Dat := if ixS 3 k < 0 ∨ ¬ (1 ≤ n ∧ n ≤ 4) then (1, 0, D) else if 5 ≤ ixS 3 k ∧ 1 < n then (2, 0, D) else (0, D.un (ixS 3 k), (Dat.mk (D.many) (D.tx) (D.cnt) (D.fac) (D.tur) (D.bits) (D.inc) (D.inp) (D.told) (fun a => if a = ixS 3 k then n else D.un a) (D.cy) (D.F) (D.N) (D.T) (D.O) (D.ac) (D.ach) (D.apt) (D.dep)))
def spCycles (D : Dat) (k n : Int) : Int × Int × Dat := if ixS 3 k < 0 ∨ ¬ (1 ≤ n ∧ n ≤ 5) then (1, 0, D) else (0, D.cy (ixS 3 k), (Dat.mk (D.many) (D.tx) (D.cnt) (D.fac) (D.tur) (D.bits) (D.inc) (D.inp) (D.told) (D.un) (fun a => if a = ixS 3 k then n else D.cy a) (D.F) (D.N) (D.T) (D.O) (D.ac) (D.ach) (D.apt) (D.dep)))
def spType (D : Dat) (c : Int) : Int × Int × Dat := if ixS 0 c < 0 then (1, 0, D) else if 24 ≤ D.many then (2, 0, D) else (0, D.many + 1, (Dat.mk (D.many + 1) (fun a => if a = D.many then c else D.tx a) (D.cnt) (D.fac) (D.tur) (D.bits) (D.inc) (D.inp) (D.told) (D.un) (D.cy) (D.F) (D.N) (D.T) (D.O) (D.ac) (D.ach) (D.apt) (D.dep)))
theorem ixS_neg {k : Nat} {p : Int} : ixS k p < 0 ↔ p ∉ chS k := by
  have g : ∀ (l : List Int) (n : Int), 0 ≤ n → (ixL l n p < 0 ↔ p ∉ l) := by
    intro l
    induction l with
    | nil => intro n hn; simp [ixL]
    | cons a l ih =>
      intro n hn
      unfold ixL
      have := ih (n + 1) (by omega)
      split
      · rename_i e; simp [e]; omega
      · rename_i e; simp [this]; intro _ q; exact e q.symm
  exact g _ 0 (by omega)
theorem chS_40 (c : Int) : ixS 0 c < 0 ↔ ¬ (48 ≤ c ∧ c ≤ 57) ∧ ixS 4 c < 0 := by
  rw [ixS_neg, ixS_neg]
  simp only [chS, List.mem_cons, List.not_mem_nil, or_false]
  omega
theorem C_clear {D : Dat} {i r : MI} {Q : Int → MI → Prop} (h : ClassP D i r) (ok : DOk D) (hQ : ∀ i', Cl (1, 0, (Dat.mk (0) (D.tx) (D.cnt) (D.fac) (D.tur) (D.bits) (D.inc) (D.inp) (D.told) (D.un) (D.cy) (D.F) (D.N) (D.T) (D.O) (D.ac) (D.ach) (D.apt) (D.dep))) i i' r 0 0 ∧ i' 0 = i 0 → Q D.many i') : wp_X11_clear i r Q := by
  simp only [wp_X11_clear, wp_X10_empty, h.many]
  refine hQ _ ⟨⟨?_, ?_, ?_, fun q => absurd q (Int.one_ne_zero), fun _ => ?_, fun q => absurd q (Int.one_ne_zero)⟩, ?_⟩
  · clear hQ
    ((have hs9 := fun k a b => stm_rng (RefP.s (ClassP.rf h) k a b); have hs9' := stm_rng (RefP.p (ClassP.rf h)); have hc12 := ClassP.c12 h; apply ClassP.mk <;> intros <;> try (simp (disch := omega) only [st_row, st_ne, st_eq, Dat.k_many, Dat.k_tx, Dat.k_cnt, Dat.k_fac, Dat.k_tur, Dat.k_bits, Dat.k_inc, Dat.k_inp, Dat.k_told, Dat.k_un, Dat.k_cy, Dat.k_F, Dat.k_N, Dat.k_T, Dat.k_O, Dat.k_ac, Dat.k_ach, Dat.k_apt, Dat.k_dep])); all_goals (first | exact (ClassP.many h :) | exact (ClassP.cnt h :) | exact (ClassP.inc h :) | exact (ClassP.tur h :) | exact (ClassP.bits h :) | exact (ClassP.fac h :) | exact (ClassP.rf h :) | exact (ClassP.c12 h :) | (apply ClassP.tx h <;> assumption) | (apply ClassP.inp h <;> assumption) | (apply ClassP.told h <;> assumption) | (apply ClassP.un h <;> assumption) | (apply ClassP.cy h <;> assumption) | (apply ClassP.ac h <;> assumption) | (apply ClassP.ach h <;> assumption) | (apply ClassP.apt h <;> assumption) | (apply ClassP.dep h <;> assumption) | (rename_i kk ka kb; have hkb := Int.lt_of_lt_of_le kb hc12.2; have hk9 := hs9 kk ka hkb; (repeat' (apply StmAt.st')); (exact (ClassP.st h kk ka kb :)); (all_goals omega)) | (exfalso; (try simp only [Dat.k_many, Dat.k_tx, Dat.k_cnt, Dat.k_fac, Dat.k_tur, Dat.k_bits, Dat.k_inc, Dat.k_inp, Dat.k_told, Dat.k_un, Dat.k_cy, Dat.k_F, Dat.k_N, Dat.k_T, Dat.k_O, Dat.k_ac, Dat.k_ach, Dat.k_apt, Dat.k_dep] at *); omega) | (have u1 := ClassP.tx h; have u2 := ClassP.inp h; have u3 := ClassP.told h; have u4 := ClassP.un h; have u5 := ClassP.cy h; have u6 := ClassP.ac h; have u7 := ClassP.ach h; have u8 := ClassP.apt h; have u9 := ClassP.dep h; (try simp only [Dat.k_many, Dat.k_tx, Dat.k_cnt, Dat.k_fac, Dat.k_tur, Dat.k_bits, Dat.k_inc, Dat.k_inp, Dat.k_told, Dat.k_un, Dat.k_cy, Dat.k_F, Dat.k_N, Dat.k_T, Dat.k_O, Dat.k_ac, Dat.k_ach, Dat.k_apt, Dat.k_dep] at *); unfold Pilot.CSchedularyLaw_law_r8908_31b577.st; grind) | skip))
  · intro a ha; simp (disch := omega) only [st_row]
  · intro a ha hb; simp (disch := omega) only [st_row]
  · simp (disch := omega) only [st_row]
  · simp (disch := omega) only [st_row]
def spAction (D : Dat) (p c b : Int) : Int × Int × Dat := if 0 ≤ p ∧ p ≤ 3 ∧ 0 ≤ c ∧ c ≤ 3 then (if D.ac p < 16 then (0, D.ac p + 1, (Dat.mk (D.many) (D.tx) (D.cnt) (D.fac) (D.tur) (D.bits) (D.inc) (D.inp) (D.told) (D.un) (D.cy) (D.F) (D.N) (D.T) (D.O) (fun a => if a = p then D.ac p + 1 else D.ac a) (fun a k => if a = p ∧ k = D.ac p then c else D.ach a k) (fun a k => if a = p ∧ k = D.ac p then b else D.apt a k) (D.dep))) else (2, 0, D)) else (1, 0, D)
def spDepth (D : Dat) (c n : Int) : Int × Int × Dat := if 0 ≤ c ∧ c ≤ 3 ∧ 1 ≤ n ∧ n ≤ 16 then (0, D.dep c, (Dat.mk (D.many) (D.tx) (D.cnt) (D.fac) (D.tur) (D.bits) (D.inc) (D.inp) (D.told) (D.un) (D.cy) (D.F) (D.N) (D.T) (D.O) (D.ac) (D.ach) (D.apt) (fun a => if a = c then n else D.dep a))) else (1, 0, D)
/-! ===== reading a statement: the class ===== -/
def ch (m : Int) (tx : Int → Int) (a : Int) : Int := if a < m then tx a else 32
def TA (m : Int) (tx : Int → Int) (i : MI) (a : Int) : Prop := (i 1 1 = m) ∧ (∀ k, 0 ≤ k → k < m → i 2 k = tx k) ∧ (i 1 2 = a) ∧ (0 ≤ a ∧ a ≤ m ∧ m ≤ 24) ∧ (∀ k, 0 ≤ k → k < m → 0 ≤ tx k ∧ tx k < 65536)
theorem TA.c {m : Int} {tx : Int → Int} {i : MI} {a : Int} (h0 : TA m tx i a) : i 1 1 = m := h0.1
theorem TA.t {m : Int} {tx : Int → Int} {i : MI} {a : Int} (h0 : TA m tx i a) : ∀ k, 0 ≤ k → k < m → i 2 k = tx k := h0.2.1
theorem TA.p {m : Int} {tx : Int → Int} {i : MI} {a : Int} (h0 : TA m tx i a) : i 1 2 = a := h0.2.2.1
theorem TA.b {m : Int} {tx : Int → Int} {i : MI} {a : Int} (h0 : TA m tx i a) : 0 ≤ a ∧ a ≤ m ∧ m ≤ 24 := h0.2.2.2.1
theorem TA.x {m : Int} {tx : Int → Int} {i : MI} {a : Int} (h0 : TA m tx i a) : ∀ k, 0 ≤ k → k < m → 0 ≤ tx k ∧ tx k < 65536 := h0.2.2.2.2
theorem TA.mk {m : Int} {tx : Int → Int} {i : MI} {a : Int} (h0 : i 1 1 = m) (h1 : ∀ k, 0 ≤ k → k < m → i 2 k = tx k) (h2 : i 1 2 = a) (h3 : 0 ≤ a ∧ a ≤ m ∧ m ≤ 24) (h4 : ∀ k, 0 ≤ k → k < m → 0 ≤ tx k ∧ tx k < 65536) : TA m tx i a := ⟨h0, h1, h2, h3, h4⟩
def PF (o : Int) (i i' : MI) : Prop := (∀ b, b ≠ 1 → (b < o ∨ o + 3 < b) → i' b = i b) ∧ ∀ c, c ≠ 2 → i' 1 c = i 1 c
theorem PF.refl (o : Int) (i : MI) : PF o i i := ⟨fun _ _ _ => rfl, fun _ _ => rfl⟩
theorem PF.trans {o : Int} {i j k : MI} (h : PF o i j) (g : PF o j k) : PF o i k := ⟨fun b p q => (g.1 b p q).trans (h.1 b p q), fun c p => (g.2 c p).trans (h.2 c p)⟩
theorem PF.st1 {o v : Int} {i : MI} (ho : 9 ≤ o) : PF o i (st i 1 2 v) := ⟨fun b p _ => st_row (by omega), fun c p => st_ne (by omega)⟩
theorem PF.sto {o a k v : Int} {i : MI} (ho : 9 ≤ o) (h1 : o ≤ a) (h2 : a ≤ o + 3) : PF o i (st i a k v) := ⟨fun b p _ => st_row (by omega), fun c p => by rw [st_row (by omega)]⟩
theorem TA.pf {m a o : Int} {tx : Int → Int} {i i' : MI} (h : TA m tx i a) (ho : 9 ≤ o) (g : PF o i i') : ∀ b, 0 ≤ b → b ≤ m → i' 1 2 = b → TA m tx i' b := by
  intro b hb hb2 h2
  refine ⟨by rw [g.2 _ (by decide)]; exact h.c, ?_, h2, ⟨hb, hb2, h.b.2.2⟩, h.x⟩
  rw [g.1 2 (by decide) (by omega)]
  exact h.t
theorem TA.st1 {m a : Int} {tx : Int → Int} {i : MI} (h : TA m tx i a) {b : Int} (hb : 0 ≤ b) (hb2 : b ≤ m) : TA m tx (st i 1 2 b) b :=
  h.pf (o := 9) (by omega) (PF.st1 (by omega)) b hb hb2 st_eq
theorem TA.sto {m a o k v : Int} {tx : Int → Int} {i : MI} (h : TA m tx i a) (ho : 9 ≤ o) : TA m tx (st i o k v) a :=
  h.pf (o := o) ho (PF.sto ho (by omega) (by omega)) a h.b.1 h.b.2.1 (by rw [st_row (by omega)]; exact h.p)
theorem ch_lt {m a : Int} {tx : Int → Int} (h : ch m tx a ≠ 32) : a < m := by
  unfold ch at h
  split at h <;> simp_all
theorem TA.ch {m a : Int} {tx : Int → Int} {i : MI} (h : TA m tx i a) : 0 ≤ ch m tx a ∧ ch m tx a < 65536 := by
  unfold Pilot.CSchedularyLaw_law_r8908_31b577.ch
  have := h.x a h.b.1
  split <;> omega
theorem next_w {m a : Int} {tx : Int → Int} {i r : MI} {Q : Int → Prop} (h : TA m tx i a) (hQ : Q (ch m tx a)) : wp_X10_next i r Q := by
  have hr := h.ch
  unfold wp_X10_next s25_X10_next
  rw [h.c, h.p]
  have := h.b
  refine ⟨fun q => ⟨by omega, ?_⟩, fun q => ⟨by omega, ?_⟩⟩
  · rw [ch, if_neg (by omega)] at hQ; exact hQ
  · rw [h.t a (by omega) (by omega)]
    rw [ch, if_pos (by omega)] at hQ hr
    exact ⟨hr, hQ⟩
theorem next_e {m a : Int} {tx : Int → Int} {i r : MI} {Q : Int → Prop} (h : TA m tx i a) : wp_X10_next i r Q ↔ Q (ch m tx a) := by
  refine ⟨fun q => ?_, next_w h⟩
  unfold wp_X10_next s25_X10_next at q
  rw [h.c, h.p] at q
  have := h.b
  unfold ch
  split
  · have := (q.2 (by omega)).2.2
    rw [h.t a (by omega) (by omega)] at this
    exact this
  · exact (q.1 (by omega)).2
theorem isDigit_eq {c : Int} {i r : MI} {Q : Int → Prop} : wp_X10_isDigit c i r Q ↔ Q (bz (48 ≤ c ∧ c ≤ 57)) := by
  unfold wp_X10_isDigit s16_X10_isDigit s17_X10_isDigit bz
  grind
theorem readSign_e {m a c : Int} {tx : Int → Int} {i r : MI} {Q : Int → MI → Prop} (h : TA m tx i a) (hc : c ≠ 32) : wp_X10_readSign c i r Q ↔ (if ch m tx a = c then Q 1 (st i 1 2 (a + 1)) else Q 0 i) := by
  unfold wp_X10_readSign
  rw [next_e h, h.p]
  have := h.b
  by_cases e : ch m tx a = c
  · have := ch_lt (m := m) (tx := tx) (a := a) (by rw [e]; exact hc)
    rw [wr_of (by omega) (by omega)]
    simp [e]
  · simp [e]
/-- a number of at most so many digits, from a on, where a digit stands: the number, and behind it -/
def numP (c : Int → Int) (a most : Int) : Int × Int := if most = 2 ∧ 48 ≤ c (a + 1) ∧ c (a + 1) ≤ 57 then (10 * (c a - 48) + (c (a + 1) - 48), a + 2) else (c a - 48, a + 1)
theorem readNumber_e {m a most : Int} {tx : Int → Int} {i r : MI} {Q : Int → MI → Prop} (h : TA m tx i a) (hm : most = 1 ∨ most = 2) (hd : 48 ≤ ch m tx a ∧ ch m tx a ≤ 57) (hQ : Q (numP (ch m tx) a most).1 (st i 1 2 (numP (ch m tx) a most).2)) : wp_X10_readNumber most i r Q := by
  have hr := h.b
  have h1 : a < m := ch_lt (tx := tx) (by omega)
  have t1 := h.st1 (b := a + 1) (by omega) (by omega)
  unfold wp_X10_readNumber
  refine ⟨3, ?_⟩
  have e1 : wr (wr (wr (0 * 10) + ch m tx a) - 48) = ch m tx a - 48 := by
    rw [wr_of (x := 0 * 10) (by omega) (by omega), wr_of (x := _ + _) (by omega) (by omega), wr_of (by omega) (by omega)]; omega
  have e2 : wr (a + 1) = a + 1 := wr_of (by omega) (by omega)
  have e5 : wr (0 + 1) = 1 := by decide
  have e6 : wr (wr (0 + 1) + 1) = 2 := by decide
  simp only [LoopP, b4_X10_readNumber, s48_X10_readNumber, next_e h, isDigit_eq, e1, h.p, e2]
  simp only [next_e t1, isDigit_eq, e1, e2]
  refine ⟨fun q => by omega, fun _ => ⟨fun q => absurd hd (bz_0.1 q), fun _ => ⟨fun q => ?_, fun q => ⟨fun q2 => ?_, fun q2 => ?_⟩⟩⟩⟩
  · unfold numP at hQ
    rw [if_neg (by omega)] at hQ
    exact hQ
  · unfold numP at hQ
    rw [bz_0] at q2
    rw [if_neg (by omega)] at hQ
    exact hQ
  · rw [bz_0, Decidable.not_not] at q2
    unfold numP at hQ
    rw [if_pos (by omega)] at hQ
    have h2 : a + 1 < m := ch_lt (tx := tx) (by omega)
    have e3 : wr (wr (wr ((ch m tx a - 48) * 10) + ch m tx (a + 1)) - 48) = 10 * (ch m tx a - 48) + (ch m tx (a + 1) - 48) := by
      rw [wr_of (x := _ * 10) (by omega) (by omega), wr_of (x := _ + _) (by omega) (by omega), wr_of (by omega) (by omega)]; omega
    rw [e3, t1.p, wr_of (x := a + 1 + 1) (by omega) (by omega)]
    refine ⟨fun _ => ?_, fun q => by omega⟩
    have e4 : st (st i 1 2 (a + 1)) 1 2 (a + 1 + 1) = st i 1 2 (a + 2) := by
      funext x y; unfold st; split
      · omega
      · rfl
    rw [e4]
    exact hQ
