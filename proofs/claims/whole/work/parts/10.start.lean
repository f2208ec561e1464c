/-! ===== the law's beginning ===== -/
def iZ : MI := fun a k => if 540 ≤ a ∧ k % 2 = 0 then -2147483648 else 0
def rZ : MI := fun _ _ => 0
def iS : MI := cI_X12 (cI_X11 iZ)
def rS : MI := cR_X12 (cR_X11 rZ)
theorem zf_Z : Zf 0 iZ rZ := by
  intro a ha k
  refine ⟨fun h => ?_, fun h => ?_, rfl⟩
  · exact if_neg (by omega)
  · have h1 : iZ a (2 * k) = -2147483648 := if_pos ⟨h, by omega⟩
    have h2 : iZ a (2 * k + 1) = 0 := if_neg (by omega)
    rw [h1, h2]
    decide +kernel
theorem okI_Z : okI iZ := by
  intro a k
  unfold iZ
  split
  · exact sR_l rfl
  · exact sR_l rfl
theorem okI_X8 (o : Nat) {i : MI} (h : okI i) : okI (cI_X8 o i) := by
  unfold cI_X8
  repeat first | exact h | refine okI_st ?_ (sR_l rfl)
theorem okI_X3 (o : Nat) {i : MI} (h : okI i) : okI (cI_X3 o i) := by
  unfold cI_X3
  repeat first | exact h | refine okI_st ?_ (sR_l rfl)
theorem okI_X7 (o : Nat) {i : MI} (h : okI i) : okI (cI_X7 o i) := by
  unfold cI_X7
  repeat first | exact h | refine okI_st ?_ (sR_l rfl)
theorem okI_X10 {i : MI} (h : okI i) : okI (cI_X10 i) := by
  unfold cI_X10
  repeat first | exact h | refine okI_st ?_ (sR_l rfl)
theorem okI_X9 {i : MI} (h : okI i) : okI (cI_X9 i) := by
  unfold cI_X9
  repeat first | exact h | refine okI_st ?_ (sR_l rfl)
theorem okI_X2 {i : MI} (h : okI i) : okI (cI_X2 i) := by
  unfold cI_X2
  repeat first | exact h | refine okI_st ?_ (sR_l rfl)
theorem okI_X4 {i : MI} (h : okI i) : okI (cI_X4 i) := by
  unfold cI_X4
  repeat first | exact h | refine okI_st ?_ (sR_l rfl)
theorem okI_X5 {i : MI} (h : okI i) : okI (cI_X5 i) := by
  unfold cI_X5
  repeat first | exact h | refine okI_st ?_ (sR_l rfl)
theorem okI_X12 {i : MI} (h : okI i) : okI (cI_X12 i) := by
  unfold cI_X12
  repeat first | exact h | refine okI_st ?_ (sR_l rfl)
theorem okI_X1 {i : MI} (h : okI i) : okI (cI_X1 i) := by
  unfold cI_X1
  repeat first | exact h | refine okI_st ?_ (sR_l rfl) | refine okI_X7 _ ?_
theorem okI_X6 {i : MI} (h : okI i) : okI (cI_X6 i) := by
  unfold cI_X6
  repeat first | exact h | refine okI_st ?_ (sR_l rfl) | refine okI_X8 _ ?_
theorem okI_X0 {i : MI} (h : okI i) : okI (cI_X0 i) := by
  unfold cI_X0
  repeat first | exact h | refine okI_st ?_ (sR_l rfl) | refine okI_X3 _ ?_
theorem okI_X11 {i : MI} (h : okI i) : okI (cI_X11 i) := by
  unfold cI_X11
  repeat first | exact h | refine okI_st ?_ (sR_l rfl) | refine okI_X10 ?_ | refine okI_X6 ?_ | refine okI_X7 _ ?_ | refine okI_X0 ?_ | refine okI_X2 ?_ | refine okI_X9 ?_ | refine okI_X4 ?_ | refine okI_X1 ?_ | refine okI_X5 ?_
theorem okI_S : okI iS := okI_X12 (okI_X11 okI_Z)
theorem nat_rng {P : Int → Prop} {n : Nat} (h : ∀ k, k < n → P ((k : Nat) : Int)) {k : Int} (h0 : 0 ≤ k) (h1 : k < n) : P k := by
  have := h k.toNat (by omega)
  rwa [show ((k.toNat : Nat) : Int) = k by omega] at this
set_option maxRecDepth 100000 in
theorem rS_c : ∀ p ∈ cL, rS p.1 p.2.1 = p.2.2 := by decide +kernel
set_option maxRecDepth 100000 in
theorem rS_r : ∀ p ∈ rL, ∀ k, k < p.2.1.toNat → rS p.1 ((k : Nat) : Int) = p.2.2 + ((k : Nat) : Int) := by decide +kernel
set_option maxRecDepth 100000 in
theorem rS_s : ∀ j, j < 13 → rS (9 + 4 * ((j : Nat) : Int)) 0 = 9 + 4 * ((j : Nat) : Int) + 1 ∧ rS (9 + 4 * ((j : Nat) : Int)) 1 = 9 + 4 * ((j : Nat) : Int) + 2 ∧ rS (9 + 4 * ((j : Nat) : Int)) 2 = 9 + 4 * ((j : Nat) : Int) + 3 := by decide +kernel
set_option maxRecDepth 100000 in
theorem rS_t : ∀ j, j < 12 → rS 4 ((j : Nat) : Int) = 13 + 4 * ((j : Nat) : Int) := by decide +kernel
set_option maxRecDepth 100000 in
theorem rS_n : ∀ j, j < 96 → rS (72 + ((j : Nat) : Int)) 0 = 0 := by decide +kernel
theorem Wf_S : Wf rS := by
  refine ⟨rS_c, fun p hp k h0 h1 => ?_, fun o ho => ?_, fun o ho => ?_, fun k h0 h1 => ?_, ?_, fun k h0 h1 => ?_⟩
  · have := rS_r p hp k.toNat (by omega)
    rwa [show ((k.toNat : Nat) : Int) = k by omega] at this
  · have h9 := ho.1
    have h57 := ho.2.1
    have hm := ho.2.2
    have := rS_s ((o - 9) / 4).toNat (by omega)
    rwa [show 9 + 4 * ((((o - 9) / 4).toNat : Nat) : Int) = o by omega] at this
  · rcases ho with rfl | rfl
    · decide +kernel
    · decide +kernel
  · have := rS_t k.toNat (by omega)
    rw [show ((k.toNat : Nat) : Int) = k by omega] at this
    rw [this]
    unfold stm
    omega
  · rw [show rS 3 3 = 9 by decide +kernel]
    unfold stm
    omega
  · left
    have := rS_n k.toNat (by omega)
    rwa [show ((k.toNat : Nat) : Int) = k by omega] at this
section VST
variable {Γ : Cx} {Δ : Wd} {l : Launch} {Q : State → Prop}
theorem V.forget {n : Nat} {i r : MI} {kc sl pc : Nat} {lv : List (Nat × Value)} {stk : List Value} (kk : V Γ Δ n false i r kc sl Q pc lv stk) : V Γ Δ n true i r kc sl Q pc lv stk := by
  obtain ⟨p, l', e, R', s, m, args, below, meth, c, nL'⟩ := Γ
  intro H locs ls hP hz hS hl
  exact kk H locs ls hP (fun q => by cases q) hS hl
set_option maxRecDepth 100000 in
set_option maxHeartbeats 4000000 in
theorem law_start {b fr lo mc ms : Nat} (hR : 10 ≤ fr ∧ 200 ≤ lo ∧ 1000 ≤ mc ∧ 200000 ≤ ms) (hG : okG Γ Δ l (sRx fr lo mc ms) cL_law "SchedularyLaw" 9) (kk : V Γ Δ 542 false iS rS 542 150213 Q 25 [(4, .ref (sA Δ 541)), (3, .ref (sA Δ 540)), (2, .ref (sA Δ 504)), (1, .ref (sA Δ 0)), (0, .ref b)] []) : V Γ Δ 0 true iZ rZ 0 0 Q 0 [(0, .ref b)] [] := by
  obtain ⟨r1, r2, r3, r4⟩ := hR
  have z0 := zf_Z
  have rr : ∀ {a b : Nat}, a ≤ 1000 → b ≤ 200000 → a ≤ (sRx fr lo mc ms).cells ∧ b ≤ (sRx fr lo mc ms).slots := fun h1 h2 => ⟨Nat.le_trans h1 r3, Nat.le_trans h2 r4⟩
  refine V.cnew (pc := 0) (ci := 13) (N := 11) (T := TX11) (ty := tyX11) hG hin_X11 rfl tyX11_ok kw_187 kw_188 kw_158 (by decide +kernel) (by decide) rfl defX11 (z0.z (by decide)) (rr (by decide) (by decide)) dL_law_0 ?_
  refine V.nn (n2 := 1) rfl ?_
  have z1 := z0.up (m := 1) (by omega)
  refine V.dup (pc := 3) hG dL_law_3 rfl ?_
  refine V.ccall (pc := 4) (n2 := 504) hG (ct_X11 l Δ z1) mY_X11_init rfl kw_189 kw_190 ⟨Nat.le_trans (by decide) r1, Nat.le_trans (by decide) r2, rr (by decide) (by decide)⟩ (Nat.le_of_ble_eq_true rfl) dL_law_4 ?_
  have z2 := zf_X11 z1
  refine V.astore_n (pc := 7) (lv' := [(1, .ref (sA Δ 0)), (0, .ref b)]) hG dL_law_7 rfl (by decide) rfl ?_
  refine V.cnew (pc := 8) (ci := 14) (N := 49) (T := TX12) (ty := tyX12) hG hin_X12 rfl tyX12_ok kw_1686 kw_1687 kw_170 (by decide +kernel) (by decide) rfl defX12 (z2.z (by decide)) (rr (by decide) (by decide)) dL_law_8 ?_
  refine V.nn (n2 := 505) rfl ?_
  have z3 := z2.up (m := 505) (by omega)
  refine V.dup (pc := 11) hG dL_law_11 rfl ?_
  refine V.ccall (pc := 12) (n2 := 540) hG (ct_X12 l Δ z3) mY_X12_init rfl kw_1688 kw_1689 ⟨Nat.le_trans (by decide) r1, Nat.le_trans (by decide) r2, rr (by decide) (by decide)⟩ (Nat.le_of_ble_eq_true rfl) dL_law_12 ?_
  have z4 := zf_X12 z3
  refine V.astore_n (pc := 15) (lv' := [(2, .ref (sA Δ 504)), (1, .ref (sA Δ 0)), (0, .ref b)]) hG dL_law_15 rfl (by decide) rfl ?_
  refine V.iconst (pc := 16) hG dL_law_16 ?_
  refine V.cnewaJ (pc := 17) (x := 1) (z := 1) hG kw_2274 (by decide +kernel) rfl (by decide) (by decide) (z4.zL (by decide)) (rr (by decide) (by decide)) dL_law_17 ?_
  refine V.nn (n2 := 541) rfl ?_
  have z5 := z4.up (m := 541) (by omega)
  refine V.astore_n (pc := 19) (lv' := [(3, .ref (sA Δ 540)), (2, .ref (sA Δ 504)), (1, .ref (sA Δ 0)), (0, .ref b)]) hG dL_law_19 rfl (by decide) rfl ?_
  refine V.iconst (pc := 20) hG dL_law_20 ?_
  refine V.cnewaD (pc := 21) (x := 1) (z := 1) hG kw_2275 (by decide +kernel) rfl (by decide) (by decide) (z5.zL (by decide)) (rr (by decide) (by decide)) dL_law_21 ?_
  refine V.nn (n2 := 542) rfl ?_
  refine V.astore (pc := 23) (lv' := [(4, .ref (sA Δ 541)), (3, .ref (sA Δ 540)), (2, .ref (sA Δ 504)), (1, .ref (sA Δ 0)), (0, .ref b)]) hG dL_law_23 (by decide) rfl ?_
  exact V.forget (V.ks (by decide) (by decide) kk)
end VST
