/-! ===== a made Schedulary: what the memory is then ===== -/
theorem zf_P : Zf 0 (fun _ _ => 0) (fun _ _ => 0) := fun _ _ _ => ⟨rfl, rfl⟩
theorem okI_X8 (o : Nat) {i : MI} (h : okI i) : okI (cI_X8 o i) := by
  unfold cI_X8
  repeat first | exact h | refine okI_st ?_ (sR_l rfl)
theorem okI_X3 (o : Nat) {i : MI} (h : okI i) : okI (cI_X3 o i) := by
  unfold cI_X3
  repeat first | exact h | refine okI_st ?_ (sR_l rfl)
theorem okI_X7 (o : Nat) {i : MI} (h : okI i) : okI (cI_X7 o i) := by
  unfold cI_X7
  repeat first | exact h | refine okI_st ?_ (sR_l rfl)
theorem okI_X10 {i : MI} (h : okI i) : okI (cI_X10 i) := by
  unfold cI_X10
  repeat first | exact h | refine okI_st ?_ (sR_l rfl)
theorem okI_X9 {i : MI} (h : okI i) : okI (cI_X9 i) := by
  unfold cI_X9
  repeat first | exact h | refine okI_st ?_ (sR_l rfl)
theorem okI_X2 {i : MI} (h : okI i) : okI (cI_X2 i) := by
  unfold cI_X2
  repeat first | exact h | refine okI_st ?_ (sR_l rfl)
theorem okI_X4 {i : MI} (h : okI i) : okI (cI_X4 i) := by
  unfold cI_X4
  repeat first | exact h | refine okI_st ?_ (sR_l rfl)
theorem okI_X5 {i : MI} (h : okI i) : okI (cI_X5 i) := by
  unfold cI_X5
  repeat first | exact h | refine okI_st ?_ (sR_l rfl)
theorem okI_X1 {i : MI} (h : okI i) : okI (cI_X1 i) := by
  unfold cI_X1
  repeat first | exact h | refine okI_st ?_ (sR_l rfl) | refine okI_X7 _ ?_
theorem okI_X6 {i : MI} (h : okI i) : okI (cI_X6 i) := by
  unfold cI_X6
  repeat first | exact h | refine okI_st ?_ (sR_l rfl) | refine okI_X8 _ ?_
theorem okI_X0 {i : MI} (h : okI i) : okI (cI_X0 i) := by
  unfold cI_X0
  repeat first | exact h | refine okI_st ?_ (sR_l rfl) | refine okI_X3 _ ?_
theorem okI_X11 {i : MI} (h : okI i) : okI (cI_X11 i) := by
  unfold cI_X11
  repeat first | exact h | refine okI_st ?_ (sR_l rfl) | refine okI_X10 ?_ | refine okI_X6 ?_ | refine okI_X7 _ ?_ | refine okI_X0 ?_ | refine okI_X2 ?_ | refine okI_X9 ?_ | refine okI_X4 ?_ | refine okI_X1 ?_ | refine okI_X5 ?_
theorem okI_P : okI iP := okI_X11 (fun _ _ => sR_0)
set_option maxRecDepth 100000 in
theorem rP_c : ∀ p ∈ cL, rP p.1 p.2.1 = p.2.2 := by decide +kernel
set_option maxRecDepth 100000 in
theorem rP_r : ∀ p ∈ rL, ∀ k, k < p.2.1.toNat → rP p.1 ((k : Nat) : Int) = p.2.2 + ((k : Nat) : Int) := by decide +kernel
set_option maxRecDepth 100000 in
theorem rP_s : ∀ j, j < 13 → rP (9 + 4 * ((j : Nat) : Int)) 0 = 9 + 4 * ((j : Nat) : Int) + 1 ∧ rP (9 + 4 * ((j : Nat) : Int)) 1 = 9 + 4 * ((j : Nat) : Int) + 2 ∧ rP (9 + 4 * ((j : Nat) : Int)) 2 = 9 + 4 * ((j : Nat) : Int) + 3 := by decide +kernel
set_option maxRecDepth 100000 in
theorem rP_t : ∀ j, j < 12 → rP 4 ((j : Nat) : Int) = 13 + 4 * ((j : Nat) : Int) := by decide +kernel
set_option maxRecDepth 100000 in
theorem rP_n : ∀ j, j < 96 → rP (72 + ((j : Nat) : Int)) 0 = 0 := by decide +kernel
theorem Wf_P : Wf rP := by
  refine ⟨rP_c, fun p hp k h0 h1 => ?_, fun o ho => ?_, fun o ho => ?_, fun k h0 h1 => ?_, ?_, fun k h0 h1 => ?_⟩
  · have := rP_r p hp k.toNat (by omega)
    rwa [show ((k.toNat : Nat) : Int) = k by omega] at this
  · have h9 := ho.1
    have h57 := ho.2.1
    have hm := ho.2.2
    have := rP_s ((o - 9) / 4).toNat (by omega)
    rwa [show 9 + 4 * ((((o - 9) / 4).toNat : Nat) : Int) = o by omega] at this
  · rcases ho with rfl | rfl
    · decide +kernel
    · decide +kernel
  · have := rP_t k.toNat (by omega)
    rw [show ((k.toNat : Nat) : Int) = k by omega] at this
    rw [this]
    unfold stm
    omega
  · rw [show rP 3 3 = 9 by decide +kernel]
    unfold stm
    omega
  · left
    have := rP_n k.toNat (by omega)
    rwa [show ((k.toNat : Nat) : Int) = k by omega] at this
section VST
variable {Γ : Cx} {Δ : Wd} {l : Launch} {Q : State → Prop}
theorem V.forget {n : Nat} {i r : MI} {kc sl pc : Nat} {lv : List (Nat × Value)} {stk : List Value} (kk : V Γ Δ n false i r kc sl Q pc lv stk) : V Γ Δ n true i r kc sl Q pc lv stk := by
  obtain ⟨p, l', e, R', s, m, args, below, meth, c, nL'⟩ := Γ
  intro H locs ls hP hz hS hl
  exact kk H locs ls hP (fun q => by cases q) hS hl
set_option maxRecDepth 100000 in
set_option maxHeartbeats 4000000 in
theorem proc_start {b fr lo mc ms : Nat} {p : Int} (hR : 10 ≤ fr ∧ 200 ≤ lo ∧ 6000 ≤ mc ∧ 39000 ≤ ms) (hG : okG Γ Δ l (sRx fr lo mc ms) cL_areProcesses "SchedularyLaw" 9) (kk : V Γ Δ 504 false iP rP 504 37579 Q 8 [(2, .ref (sA Δ 0)), (0, .ref b), (1, .int (sJ p))] []) : V Γ Δ 0 true (fun _ _ => 0) (fun _ _ => 0) 0 0 Q 0 [(0, .ref b), (1, .int (sJ p))] [] := by
  obtain ⟨r1, r2, r3, r4⟩ := hR
  have z0 := zf_P
  have rr : ∀ {a b : Nat}, a ≤ 6000 → b ≤ 39000 → a ≤ (sRx fr lo mc ms).cells ∧ b ≤ (sRx fr lo mc ms).slots := fun h1 h2 => ⟨Nat.le_trans h1 r3, Nat.le_trans h2 r4⟩
  refine V.cnew (pc := 0) (ci := 13) (N := 11) (T := TX11) (ty := tyX11) hG hin_X11 rfl tyX11_ok kw_136 kw_137 kw_102 (by decide +kernel) (by decide) rfl defX11 (z0.z (by decide)) (rr (by decide) (by decide)) dL_areProcesses_0 ?_
  refine V.nn (n2 := 1) rfl ?_
  have z1 := z0.up (m := 1) (by omega)
  refine V.dup (pc := 3) hG dL_areProcesses_3 rfl ?_
  refine V.ccall (pc := 4) (n2 := 504) hG (ct_X11 l Δ z1) mY_X11_init rfl kw_138 kw_139 ⟨Nat.le_trans (by decide) r1, Nat.le_trans (by decide) r2, rr (by decide) (by decide)⟩ (Nat.le_of_ble_eq_true rfl) dL_areProcesses_4 ?_
  refine V.astore_n (pc := 7) (lv' := [(2, .ref (sA Δ 0)), (0, .ref b), (1, .int (sJ p))]) hG dL_areProcesses_7 rfl (by decide) rfl ?_
  exact V.forget (V.ks (by decide) (by decide) kk)
set_option maxRecDepth 100000 in
set_option maxHeartbeats 4000000 in
theorem law_start {b fr lo mc ms : Nat} (hR : 10 ≤ fr ∧ 200 ≤ lo ∧ 6000 ≤ mc ∧ 39000 ≤ ms) (hG : okG Γ Δ l (sRx fr lo mc ms) cL_law "SchedularyLaw" 2) (kk : V Γ Δ 504 false iP rP 504 37579 Q 8 [(1, .ref (sA Δ 0)), (0, .ref b)] []) : V Γ Δ 0 true (fun _ _ => 0) (fun _ _ => 0) 0 0 Q 0 [(0, .ref b)] [] := by
  obtain ⟨r1, r2, r3, r4⟩ := hR
  have z0 := zf_P
  have rr : ∀ {a b : Nat}, a ≤ 6000 → b ≤ 39000 → a ≤ (sRx fr lo mc ms).cells ∧ b ≤ (sRx fr lo mc ms).slots := fun h1 h2 => ⟨Nat.le_trans h1 r3, Nat.le_trans h2 r4⟩
  refine V.cnew (pc := 0) (ci := 13) (N := 11) (T := TX11) (ty := tyX11) hG hin_X11 rfl tyX11_ok kw_136 kw_137 kw_102 (by decide +kernel) (by decide) rfl defX11 (z0.z (by decide)) (rr (by decide) (by decide)) dL_law_0 ?_
  refine V.nn (n2 := 1) rfl ?_
  have z1 := z0.up (m := 1) (by omega)
  refine V.dup (pc := 3) hG dL_law_3 rfl ?_
  refine V.ccall (pc := 4) (n2 := 504) hG (ct_X11 l Δ z1) mY_X11_init rfl kw_138 kw_139 ⟨Nat.le_trans (by decide) r1, Nat.le_trans (by decide) r2, rr (by decide) (by decide)⟩ (Nat.le_of_ble_eq_true rfl) dL_law_4 ?_
  refine V.astore_n (pc := 7) (lv' := [(1, .ref (sA Δ 0)), (0, .ref b)]) hG dL_law_7 rfl (by decide) rfl ?_
  exact V.forget (V.ks (by decide) (by decide) kk)
end VST
