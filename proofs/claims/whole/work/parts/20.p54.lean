/-! ===== units ===== -/
def kcN (D : Dat) (k : Int) : Int := ocL D (nds D) k
def MC (D : Dat) (i : MI) : Prop := (∀ k, 0 ≤ k → k < 7 → i 71 k = kcN D k) ∧ ∀ k, 0 ≤ k → k < 7 → i 69 k = D.un k
theorem kc_take {D : Dat} {k : Int} {x : Int} (h0 : 0 ≤ x) (h1 : x < nn D) : ocL D ((nds D).take (x + 1).toNat) k = ocL D ((nds D).take x.toNat) k + if kdv D x = k then 1 else 0 := by
  have hg := nd_get (D := D) (v := x.toNat) (by omega)
  rw [show ((x.toNat : Nat) : Int) = x by omega] at hg
  rw [show (x + 1).toNat = x.toNat + 1 by omega, List.take_add_one, hg]
  show ocL D (_ ++ [nd D x]) k = _
  rw [ocL_app]
  unfold iup kdv
  by_cases e : k = kdN D (nd D x)
  · rw [if_pos e, if_pos e.symm, e]
  · rw [if_neg e, if_neg (fun q => e q.symm)]; omega
theorem kcN_b {D : Dat} (ok : DOk D) {k : Int} : 0 ≤ kcN D k ∧ kcN D k ≤ 96 := by
  have := ocL_b (D := D) (L := nds D) (k := k)
  have := nds_len ok
  unfold kcN
  omega
/-- what a kind needs -/
def nIk (D : Dat) (k : Int) : Int := Int.tdiv (kcN D k + D.un k - 1) (D.un k)
theorem nIk_b {D : Dat} (ok : DOk D) {k : Int} (hk : 0 ≤ k ∧ k < 7) : 0 ≤ nIk D k ∧ nIk D k ≤ 96 := by
  have := kcN_b ok (k := k)
  have := ok.un k hk.1 hk.2
  unfold nIk
  rw [Int.tdiv_eq_ediv_of_nonneg (by omega)]
  generalize kcN D k = a at *
  generalize D.un k = b at *
  have : b = 1 ∨ b = 2 ∨ b = 3 ∨ b = 4 := by omega
  rcases this with rfl | rfl | rfl | rfl <;> omega
def uMx (D : Dat) : Nat → Int
  | 0 => 1
  | k + 1 => max (uMx D k) (nIk D k)
def uT (D : Dat) : Int := uMx D 7
theorem uMx_b {D : Dat} (ok : DOk D) : ∀ k : Nat, k ≤ 7 → 1 ≤ uMx D k ∧ uMx D k ≤ 96 := by
  intro k
  induction k with
  | zero => intro _; exact ⟨Int.le_refl 1, by show (1:Int) ≤ 96; decide⟩
  | succ k ih =>
    intro h
    have a := ih (by omega)
    have b := nIk_b ok (k := k) ⟨by omega, by omega⟩
    show 1 ≤ max (uMx D k) (nIk D k) ∧ max (uMx D k) (nIk D k) ≤ 96
    omega
theorem uMx_s {D : Dat} {x : Int} (h : 0 ≤ x) : uMx D (x + 1).toNat = max (uMx D x.toNat) (nIk D x) := by
  rw [show (x + 1).toNat = x.toNat + 1 by omega]
  show max (uMx D x.toNat) (nIk D ((x.toNat : Nat) : Int)) = _
  rw [show ((x.toNat : Nat) : Int) = x by omega]
theorem leastI_w {D : Dat} (ok : DOk D) {i r : MI} {k : Int} {Q : Int → Prop} (h : MC D i) (hk : 0 ≤ k ∧ k < 7) (hQ : Q (nIk D k)) : wp_X0_leastIntervalOf k i r Q := by
  unfold wp_X0_leastIntervalOf s28_X0_leastIntervalOf
  have a := kcN_b ok (k := k)
  have b := ok.un k hk.1 hk.2
  have c := nIk_b ok hk
  rw [h.1 k hk.1 hk.2, h.2 k hk.1 hk.2]
  rw [wr_of (x := kcN D k + D.un k) (by omega) (by omega), wr_of (x := kcN D k + D.un k - 1) (by omega) (by omega)]
  refine ⟨hk, fun _ => ⟨hk, by omega, ?_⟩, fun q => absurd b.1 q⟩
  show Q (wr (nIk D k))
  rw [wr_of (x := nIk D k) (by omega) (by omega)]
  exact hQ
theorem byUnits_w {D : Dat} (ok : DOk D) {i r : MI} {Q : Int → Prop} (h : MC D i) (hQ : Q (uT D)) : wp_X4_findByUnits i r Q := by
  unfold wp_X4_findByUnits
  refine Lp.r2 (fun (s x : Int) => 0 ≤ x ∧ x ≤ 7 ∧ s = uMx D x.toNat) (fun _ x => (7 - x).toNat) ?_ ⟨by decide, by decide, rfl⟩
  intro s x C ⟨h0, h1, h2⟩ hC
  dsimp only [b4_X4_findByUnits]
  refine ⟨fun q => ?_, fun q => leastI_w ok h ⟨h0, by omega⟩ ?_⟩
  · rw [h2, show x = 7 by omega]; exact hQ
  · rw [wr_of (x := x + 1) (by omega) (by omega)]
    exact hC _ _ ⟨by omega, by omega, by rw [uMx_s h0, h2]⟩ (by omega)
theorem needs_w {D : Dat} (ok : DOk D) {i r : MI} {k : Int} {Q : Int → Prop} (h : ME D i) (hk : 0 ≤ k ∧ k < 7) (hQ : Q (nIk D k)) : wp_X12_needs k i r Q := by
  have hn := nn_le ok
  unfold wp_X12_needs
  refine Lp.r2 (fun (s x : Int) => 0 ≤ x ∧ x ≤ nn D ∧ s = ocL D ((nds D).take x.toNat) k) (fun _ x => (nn D - x).toNat) ?_ ⟨by decide, hn.1, rfl⟩
  intro s x C ⟨h0, h1, h2⟩ hC
  dsimp only [b4_X12_needs, s28_X12_needs]
  have lb := ocL_b (D := D) (L := (nds D).take x.toNat) (k := k)
  have ll : ((nds D).take x.toNat).length ≤ 96 := by have := nds_len ok; rw [List.length_take]; omega
  rw [h.w.n]
  refine ⟨fun q => ?_, fun q => ⟨by omega, ?_⟩⟩
  · have e : s = kcN D k := by
      rw [h2, show x = nn D by omega]
      unfold nn kcN
      rw [show (((nds D).length : Nat) : Int).toNat = (nds D).length by omega, List.take_length]
    have a := kcN_b ok (k := k)
    have b := ok.un k hk.1 hk.2
    have c := nIk_b ok hk
    rw [e, h.p.un k hk.1 hk.2]
    rw [wr_of (x := kcN D k + D.un k) (by omega) (by omega), wr_of (x := kcN D k + D.un k - 1) (by omega) (by omega)]
    refine ⟨hk, hk, by omega, ?_⟩
    show Q (wr (nIk D k))
    rw [wr_of (x := nIk D k) (by omega) (by omega)]
    exact hQ
  · have st := kc_take (D := D) (k := k) h0 (by omega)
    rw [h.w.kd ⟨h0, by omega⟩, wr_of (x := x + 1) (by omega) (by omega), wr_of (x := s + 1) (by omega) (by omega), wr_of (x := s + 0) (by omega) (by omega)]
    refine ⟨fun q2 => hC _ _ ⟨by omega, by omega, ?_⟩ (by omega), fun q2 => hC _ _ ⟨by omega, by omega, ?_⟩ (by omega)⟩
    · rw [st, if_pos q2, h2]
    · rw [st, if_neg q2, h2]
theorem mbyUnits_w {D : Dat} (ok : DOk D) {i r : MI} {Q : Int → Prop} (h : ME D i) (hQ : Q (uT D)) : wp_X12_byAllUnits i r Q := by
  unfold wp_X12_byAllUnits
  refine Lp.r2 (fun (s x : Int) => 0 ≤ x ∧ x ≤ 7 ∧ s = uMx D x.toNat) (fun _ x => (7 - x).toNat) ?_ ⟨by decide, by decide, rfl⟩
  intro s x C ⟨h0, h1, h2⟩ hC
  dsimp only [b4_X12_byAllUnits]
  refine ⟨fun q => ?_, fun q => needs_w ok h ⟨h0, by omega⟩ ?_⟩
  · rw [h2, show x = 7 by omega]; exact hQ
  · rw [wr_of (x := x + 1) (by omega) (by omega)]
    exact hC _ _ ⟨by omega, by omega, by rw [uMx_s h0, h2]⟩ (by omega)
