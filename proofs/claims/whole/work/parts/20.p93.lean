/-! ===== all cases, and the start ===== -/
theorem cases_inv : ∀ n : Nat, n < 49 → ∀ (xs : Nat → Int32) (L : Nat) (x5 : Int) (i r : MI), L ≤ 2048 → 0 ≤ x5 → x5 + 4 ≤ L → okI i → Wf r → Inv i r → wcAt n xs L Inv x5 i r := by
  intro n hn xs L x5 i r hL h0 h4 _ _ I
  have hb : 0 ≤ x5 ∧ x5 + 4 ≤ (L : Int) ∧ (L : Int) ≤ 2048 := by omega
  match n, hn with
  | 0, _ => exact (case_0 hb I : wc_0 xs L Inv x5 i r)
  | 1, _ => exact (case_1 I : wc_1 xs L Inv x5 i r)
  | 2, _ => exact (case_2 I : wc_2 xs L Inv x5 i r)
  | 3, _ => exact (case_3 I : wc_3 xs L Inv x5 i r)
  | 4, _ => exact (case_4 hb I : wc_4 xs L Inv x5 i r)
  | 5, _ => exact (case_5 hb I : wc_5 xs L Inv x5 i r)
  | 6, _ => exact (case_6 hb I : wc_6 xs L Inv x5 i r)
  | 7, _ => exact (case_7 hb I : wc_7 xs L Inv x5 i r)
  | 8, _ => exact (case_8 hb I : wc_8 xs L Inv x5 i r)
  | 9, _ => exact (case_9 hb I : wc_9 xs L Inv x5 i r)
  | 10, _ => exact (case_10 hb I : wc_10 xs L Inv x5 i r)
  | 11, _ => exact (case_11 hb I : wc_11 xs L Inv x5 i r)
  | 12, _ => exact (case_12 I : wc_12 xs L Inv x5 i r)
  | 13, _ => exact (case_13 hb I : wc_13 xs L Inv x5 i r)
  | 14, _ => exact (case_14 hb I : wc_14 xs L Inv x5 i r)
  | 15, _ => exact (case_15 hb I : wc_15 xs L Inv x5 i r)
  | 16, _ => exact (case_16 I : wc_16 xs L Inv x5 i r)
  | 17, _ => exact (case_17 I : wc_17 xs L Inv x5 i r)
  | 18, _ => exact (case_18 hb I : wc_18 xs L Inv x5 i r)
  | 19, _ => exact (case_19 hb I : wc_19 xs L Inv x5 i r)
  | 20, _ => exact (case_20 I : wc_20 xs L Inv x5 i r)
  | 21, _ => exact (case_21 hb I : wc_21 xs L Inv x5 i r)
  | 22, _ => exact (case_22 hb I : wc_22 xs L Inv x5 i r)
  | 23, _ => exact (case_23 hb I : wc_23 xs L Inv x5 i r)
  | 24, _ => exact (case_24 hb I : wc_24 xs L Inv x5 i r)
  | 25, _ => exact (case_25 I : wc_25 xs L Inv x5 i r)
  | 26, _ => exact (case_26 hb I : wc_26 xs L Inv x5 i r)
  | 27, _ => exact (case_27 I : wc_27 xs L Inv x5 i r)
  | 28, _ => exact (case_28 I : wc_28 xs L Inv x5 i r)
  | 29, _ => exact (case_29 I : wc_29 xs L Inv x5 i r)
  | 30, _ => exact (case_30 I : wc_30 xs L Inv x5 i r)
  | 31, _ => exact (case_31 I : wc_31 xs L Inv x5 i r)
  | 32, _ => exact (case_32 hb I : wc_32 xs L Inv x5 i r)
  | 33, _ => exact (case_33 I : wc_33 xs L Inv x5 i r)
  | 34, _ => exact (case_34 I : wc_34 xs L Inv x5 i r)
  | 35, _ => exact (case_35 I : wc_35 xs L Inv x5 i r)
  | 36, _ => exact (case_36 hb I : wc_36 xs L Inv x5 i r)
  | 37, _ => exact (case_37 hb I : wc_37 xs L Inv x5 i r)
  | 38, _ => exact (case_38 I : wc_38 xs L Inv x5 i r)
  | 39, _ => exact (case_39 hb I : wc_39 xs L Inv x5 i r)
  | 40, _ => exact (case_40 hb I : wc_40 xs L Inv x5 i r)
  | 41, _ => exact (case_41 I : wc_41 xs L Inv x5 i r)
  | 42, _ => exact (case_42 hb I : wc_42 xs L Inv x5 i r)
  | 43, _ => exact (case_43 I : wc_43 xs L Inv x5 i r)
  | 44, _ => exact (case_44 I : wc_44 xs L Inv x5 i r)
  | 45, _ => exact (case_45 I : wc_45 xs L Inv x5 i r)
  | 46, _ => exact (case_46 hb I : wc_46 xs L Inv x5 i r)
  | 47, _ => exact (case_47 I : wc_47 xs L Inv x5 i r)
  | 48, _ => exact (case_48 I : wc_48 xs L Inv x5 i r)
  | n + 49, h => omega
/-- what the object is made of -/
def D00 : Dat := Dat.mk 0 (fun _ => 0) 0 1 8 8 0 (fun _ => 0) (fun _ _ => 0) (fun _ => 1) (fun _ => 1) (fun _ _ => 0) (fun _ _ => 0) (fun _ _ => 0) (fun _ => 0) (fun _ => 0) (fun _ _ => 0) (fun _ _ => 0) (fun _ => 1)
theorem D00_ok : DOk D00 := by
  refine ⟨by decide, fun k a b => ?_, by decide, by decide, by decide, by decide, by decide, by decide, by decide, fun k a b => ?_, fun m p _ _ _ _ => by show (0:Int) ≤ 0 ∧ (0:Int) ≤ 65535; decide, fun k _ _ => by show (1:Int) ≤ 1 ∧ (1:Int) ≤ 4; decide, fun k _ _ => rfl, fun k _ _ => by show (1:Int) ≤ 1 ∧ (1:Int) ≤ 5; decide, fun k a b => ?_, fun p _ _ => by show (0:Int) ≤ 0 ∧ (0:Int) ≤ 16; decide, fun p k _ _ a b => ?_, fun p k _ _ a b => ?_, fun c _ _ => by show (1:Int) ≤ 1 ∧ (1:Int) ≤ 16; decide⟩
  · have b : k < 0 := b
    omega
  · have b : k < 0 := b
    omega
  · have b : k < 0 := b
    omega
  · have b : k < 0 := b
    omega
  · have b : k < 0 := b
    omega
theorem natR {P : Int → Prop} {n : Nat} (h : ∀ k, k < n → P ((k : Nat) : Int)) {k : Int} (h0 : 0 ≤ k) (h1 : k < n) : P k := by
  have := h k.toNat (by omega)
  rwa [show ((k.toNat : Nat) : Int) = k by omega] at this
set_option maxRecDepth 100000 in
theorem sI_one : iS 1 1 = 0 ∧ iS 3 4 = 0 ∧ iS 3 5 = 0 ∧ iS 3 6 = 8 ∧ iS 3 7 = 8 ∧ iS 3 8 = 1 ∧ iS 0 9 = 0 ∧ iS 0 10 = 0 ∧ iS 504 1 = 0 ∧ iS 504 6 = 0 ∧ iS 504 8 = 8 ∧ iS 504 9 = 8 ∧ iS 504 10 = 1 ∧ iS 504 11 = 0 := by decide +kernel
set_option maxRecDepth 100000 in
theorem sI_told : ∀ p < 16, iS 7 ((p : Nat) : Int) = 0 ∧ iS 8 ((p : Nat) : Int) = 0 ∧ iS 509 ((p : Nat) : Int) = 0 ∧ iS 509 (16 + ((p : Nat) : Int)) = 0 := by decide +kernel
set_option maxRecDepth 100000 in
theorem sI_k : ∀ k < 7, iS 69 ((k : Nat) : Int) = 1 ∧ iS 70 ((k : Nat) : Int) = 1 ∧ iS 510 ((k : Nat) : Int) = 1 ∧ iS 511 ((k : Nat) : Int) = 1 := by decide +kernel
set_option maxRecDepth 100000 in
theorem sI_p : ∀ k < 4, iS 499 ((k : Nat) : Int) = 0 ∧ iS 500 ((k : Nat) : Int) = 1 ∧ iS 535 ((k : Nat) : Int) = 0 ∧ iS 537 ((k : Nat) : Int) = 1 := by decide +kernel
set_option maxRecDepth 100000 in
theorem sR_k : ∀ j < 12, rS 4 ((j : Nat) : Int) = 13 + 4 * ((j : Nat) : Int) := by decide +kernel
theorem sR_33 : rS 3 3 = 9 := by decide +kernel
theorem inv_start : Inv iS rS := by
  obtain ⟨a1, a2, a3, a4, a5, a6, a7, a8, a9, a10, a11, a12, a13, a14⟩ := sI_one
  have rk : ∀ k, 0 ≤ k → k < 12 → rS 4 k = 13 + 4 * k := fun k x y => natR (P := fun k => rS 4 k = 13 + 4 * k) sR_k x y
  have tl : ∀ p, 0 ≤ p → p < 16 → iS 7 p = 0 ∧ iS 8 p = 0 ∧ iS 509 p = 0 ∧ iS 509 (16 + p) = 0 := fun p x y => natR (P := fun p => iS 7 p = 0 ∧ iS 8 p = 0 ∧ iS 509 p = 0 ∧ iS 509 (16 + p) = 0) sI_told x y
  have kk : ∀ k, 0 ≤ k → k < 7 → iS 69 k = 1 ∧ iS 70 k = 1 ∧ iS 510 k = 1 ∧ iS 511 k = 1 := fun k x y => natR (P := fun k => iS 69 k = 1 ∧ iS 70 k = 1 ∧ iS 510 k = 1 ∧ iS 511 k = 1) sI_k x y
  have pp : ∀ k, 0 ≤ k → k < 4 → iS 499 k = 0 ∧ iS 500 k = 1 ∧ iS 535 k = 0 ∧ iS 537 k = 1 := fun k x y => natR (P := fun k => iS 499 k = 0 ∧ iS 500 k = 1 ∧ iS 535 k = 0 ∧ iS 537 k = 1) sI_p x y
  refine ⟨D00, D00_ok, ?_, ?_, .inl a8, ?_⟩
  · refine ⟨a1, fun k x y => ?_, a2, a3, a4, a5, a6, fun k x y => ?_, fun m p m0 m1 p0 p1 => ?_, fun k x y => (kk k x y).1, fun k x y => (kk k x y).2.1, fun k x y => ?_, fun p x y => (pp p x y).1, fun p k x y z w => ?_, fun p k x y z w => ?_, fun c x y => (pp c x y).2.1, ⟨fun k x y => ?_, ?_, fun k j x y z w e => ?_, fun k x y => ?_⟩, by decide⟩
    · have y : k < 0 := y
      omega
    · have y : k < 0 := y
      omega
    · have : m = 0 ∨ m = 1 := by omega
      rcases this with rfl | rfl
      · exact (tl p p0 p1).1
      · exact (tl p p0 p1).2.1
    · have y : k < 0 := y
      omega
    · have w : k < 0 := w
      omega
    · have w : k < 0 := w
      omega
    · rw [rk k x y]; unfold stm; omega
    · rw [sR_33]; unfold stm; omega
    · rw [rk k x y, rk j z w] at e; omega
    · rw [rk k x y, sR_33]; omega
  · refine ⟨a9, fun k x y => ?_, a10, a11, a12, a13, a14, fun k x y => ?_, fun m p m0 m1 p0 p1 => ?_, fun k x y => (kk k x y).2.2.1, fun k x y => (kk k x y).2.2.2, fun k x y => ?_, fun p x y => (pp p x y).2.2.1, fun p k x y z w => ?_, fun c x y => (pp c x y).2.2.2⟩
    · have y : k < 0 := y
      omega
    · have y : k < 0 := y
      omega
    · have : m = 0 ∨ m = 1 := by omega
      rcases this with rfl | rfl
      · rw [show 16 * (0 : Int) + p = p by omega]; exact (tl p p0 p1).2.2.1
      · rw [show 16 * (1 : Int) + p = 16 + p by omega]; exact (tl p p0 p1).2.2.2
    · have y : k < 0 := y
      omega
    · have w : k < 0 := w
      omega
  · rw [a7]
    exact ⟨fun y => by omega, fun y => by omega, fun y => by omega, fun y => by omega, fun y => by omega⟩
