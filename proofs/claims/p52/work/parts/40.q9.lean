/-! ===== the law from its start ===== -/
def D00 : Dat := Dat.mk 0 (fun _ => 0) 0 1 8 8 0 (fun _ => 0) (fun _ _ => 0) (fun _ => 1) (fun _ => 1) (fun _ _ => 0) (fun _ _ => 0) (fun _ _ => 0) (fun _ => 0) (fun _ => 0) (fun _ _ => 0) (fun _ _ => 0) (fun _ => 1)
theorem D00_ok : DOk D00 := by
  refine ⟨by decide, fun k a b => ?_, by decide, by decide, by decide, by decide, by decide, by decide, by decide, fun k a b => ?_, fun m p _ _ _ _ => by show (0:Int) ≤ 0 ∧ (0:Int) ≤ 65535; decide, fun k _ _ => by show (1:Int) ≤ 1 ∧ (1:Int) ≤ 4; decide, fun k _ _ => rfl, fun k _ _ => by show (1:Int) ≤ 1 ∧ (1:Int) ≤ 5; decide, fun k a b => ?_, fun p _ _ => by show (0:Int) ≤ 0 ∧ (0:Int) ≤ 16; decide, fun p k _ _ a b => ?_, fun p k _ _ a b => ?_, fun c _ _ => by show (1:Int) ≤ 1 ∧ (1:Int) ≤ 16; decide⟩
  · have b : k < 0 := b
    omega
  · have b : k < 0 := b
    omega
  · have b : k < 0 := b
    omega
  · have b : k < 0 := b
    omega
  · have b : k < 0 := b
    omega
theorem natR {P : Int → Prop} {n : Nat} (h : ∀ k, k < n → P ((k : Nat) : Int)) {k : Int} (h0 : 0 ≤ k) (h1 : k < n) : P k := by
  have := h k.toNat (by omega)
  rwa [show ((k.toNat : Nat) : Int) = k by omega] at this
set_option maxRecDepth 100000 in
theorem sI_one : iP 1 1 = 0 ∧ iP 3 4 = 0 ∧ iP 3 5 = 0 ∧ iP 3 6 = 8 ∧ iP 3 7 = 8 ∧ iP 3 8 = 1 ∧ iP 0 9 = 0 ∧ iP 0 10 = 0 := by decide +kernel
set_option maxRecDepth 100000 in
theorem sI_told : ∀ p < 16, iP 7 ((p : Nat) : Int) = 0 ∧ iP 8 ((p : Nat) : Int) = 0 := by decide +kernel
set_option maxRecDepth 100000 in
theorem sI_k : ∀ k < 7, iP 69 ((k : Nat) : Int) = 1 ∧ iP 70 ((k : Nat) : Int) = 1 := by decide +kernel
set_option maxRecDepth 100000 in
theorem sI_p : ∀ k < 4, iP 499 ((k : Nat) : Int) = 0 ∧ iP 500 ((k : Nat) : Int) = 1 := by decide +kernel
set_option maxRecDepth 100000 in
theorem sR_k : ∀ j < 12, rP 4 ((j : Nat) : Int) = 13 + 4 * ((j : Nat) : Int) := by decide +kernel
theorem sR_33 : rP 3 3 = 9 := by decide +kernel
theorem JI_start : JI D00 iP rP := by
  obtain ⟨a1, a2, a3, a4, a5, a6, a7, a8⟩ := sI_one
  have rk : ∀ k, 0 ≤ k → k < 12 → rP 4 k = 13 + 4 * k := fun k x y => natR (P := fun k => rP 4 k = 13 + 4 * k) sR_k x y
  have tl : ∀ p, 0 ≤ p → p < 16 → iP 7 p = 0 ∧ iP 8 p = 0 := fun p x y => natR (P := fun p => iP 7 p = 0 ∧ iP 8 p = 0) sI_told x y
  have kk : ∀ k, 0 ≤ k → k < 7 → iP 69 k = 1 ∧ iP 70 k = 1 := fun k x y => natR (P := fun k => iP 69 k = 1 ∧ iP 70 k = 1) sI_k x y
  have pp : ∀ k, 0 ≤ k → k < 4 → iP 499 k = 0 ∧ iP 500 k = 1 := fun k x y => natR (P := fun k => iP 499 k = 0 ∧ iP 500 k = 1) sI_p x y
  refine ⟨D00_ok, ?_, .inl a8, ?_⟩
  · refine ⟨a1, fun k x y => ?_, a2, a3, a4, a5, a6, fun k x y => ?_, fun m p m0 m1 p0 p1 => ?_, fun k x y => (kk k x y).1, fun k x y => (kk k x y).2, fun k x y => ?_, fun p x y => (pp p x y).1, fun p k x y z w => ?_, fun p k x y z w => ?_, fun c x y => (pp c x y).2, ⟨fun k x y => ?_, ?_, fun k j x y z w e => ?_, fun k x y => ?_⟩, by decide⟩
    · have y : k < 0 := y
      omega
    · have y : k < 0 := y
      omega
    · have : m = 0 ∨ m = 1 := by omega
      rcases this with rfl | rfl
      · exact (tl p p0 p1).1
      · exact (tl p p0 p1).2
    · have y : k < 0 := y
      omega
    · have w : k < 0 := w
      omega
    · have w : k < 0 := w
      omega
    · rw [rk k x y]; unfold stm; omega
    · rw [sR_33]; unfold stm; omega
    · rw [rk k x y, rk j z w] at e; omega
    · rw [rk k x y, sR_33]; omega
  · rw [a7]
    exact ⟨fun y => by omega, fun y => by omega, fun y => by omega, fun y => by omega, fun y => by omega⟩
theorem law_true (L : Nat) (xs : Int → Int) (_ : L ≤ 260) (_ : ∀ k, sR (xs k)) : wp_LL iP rP L xs (fun x _ _ => x = 1) := by
  unfold wp_LL s52_LL
  refine ⟨by decide, isWritten_w JI_start rfl rfl rfl rfl rfl (fun _ _ => rfl) (fun _ _ => rfl) (fun D i1 r1 J1 wp => ⟨fun z => absurd z (by decide), fun _ => ⟨by decide, isSame_w J1 (fun i2 r2 J2 => ⟨fun z => absurd z (by decide), fun _ => ⟨by decide, areKept_w J2 wp (fun i3 r3 J3 => ⟨fun z => absurd z (by decide), fun _ => ⟨by decide, ?_⟩⟩)⟩⟩)⟩⟩)⟩
  unfold wp_L_areProcesses
  refine LP_w JI_start rfl (by decide) (fun _ _ _ => ⟨fun z => absurd z (by decide), fun _ => ⟨by decide, J_isSound J3 (fun i4 r4 J4 => ⟨fun z => absurd z (by decide), fun _ => ⟨by decide, .inr rfl, rfl⟩⟩)⟩⟩)
