/-! ===== waiting: the reference ===== -/
theorem mwait_w {D : Dat} (ok : DOk D) {la : Int → Int} {i r : MI} {Q : Int → MI → Prop} (h : ME D i) (li : IsList D la (i 531)) (he : IsEnd D (i 531) (i 504 48)) (hQ : ∀ m, IsWait D (i 531) (i 504 48) m → Q m i) : Lp (b13_X12_waiting i r Q) (0, 0) := by
  have hn := nn_le ok
  obtain ⟨lb, el⟩ := list_end ok li he
  have e0 := he.1
  have hb : ∀ u, 0 ≤ u → u < nn D → 0 ≤ i 531 u ∧ i 531 u + cyv D u ≤ i 504 48 := fun u a b => ⟨(lb u a b).1, he.2.1 u a b⟩
  refine Lp.r2 (fun (b y : Int) => 0 ≤ y ∧ y ≤ i 504 48 ∧ 0 ≤ b ∧ (∀ c, 0 ≤ c → c < y → ∃ x, CntP (liv D (i 531) (i 504 48) c) (nn D).toNat x ∧ x ≤ b) ∧ (b = 0 ∨ ∃ c, 0 ≤ c ∧ c < y ∧ CntP (liv D (i 531) (i 504 48) c) (nn D).toNat b)) (fun _ y => (i 504 48 - y).toNat) ?_ ⟨by decide, e0, by decide, fun c a b => by omega, .inl rfl⟩
  intro b y C ⟨j0, j1, j2, j3, j4⟩ hC
  dsimp only [b13_X12_waiting]
  refine ⟨fun q => hQ b ⟨j2, fun c a b' => j3 c a (by omega), j4.imp id (fun ⟨c, a, b', z⟩ => ⟨c, a, by omega, z⟩)⟩, fun q => ?_⟩
  refine Lp.r2 (fun (n x : Int) => 0 ≤ x ∧ x ≤ nn D ∧ CntP (liv D (i 531) (i 504 48) y) x.toNat n) (fun _ x => (nn D - x).toNat) ?_ ⟨by decide, hn.1, rfl⟩
  intro n x C2 ⟨k0, k1, k2⟩ hC2
  have nb := CntP.b _ _ k2
  dsimp only [b26_X12_waiting, s68_X12_waiting, s69_X12_waiting]
  rw [h.w.n, wr_of (x := x + 1) (by omega) (by omega), wr_of (x := n + 0) (by omega) (by omega), wr_of (x := n + 1) (by omega) (by omega), show n + 0 = n by omega]
  refine ⟨fun q2 => ?_, fun q2 => ⟨by omega, mcyc_w ok h.w ⟨k0, by omega⟩ ?_⟩⟩
  · have ex : nn D = x := by omega
    rw [← ex] at k2
    rw [wr_of (x := y + 1) (by omega) (by omega)]
    refine hC _ _ ⟨by omega, by omega, by clear j4; omega, fun c a b' => ?_, ?_⟩ (by clear j4; omega)
    · by_cases w : c = y
      · rw [w]; exact ⟨n, k2, by clear j4; omega⟩
      · obtain ⟨z, z1, z2⟩ := j3 c a (by omega)
        exact ⟨z, z1, by clear j4; omega⟩
    · rcases Int.le_total b n with z | z
      · rw [Int.max_eq_right z]; exact .inr ⟨y, j0, by omega, k2⟩
      · rw [Int.max_eq_left z]; exact j4.imp id (fun ⟨c, a, b', z⟩ => ⟨c, a, by omega, z⟩)
  · have hx := hb x k0 (by omega)
    have cx := cyv_r ok (v := x) ⟨k0, by omega⟩
    rw [wr_of (x := i 531 x + cyv D x) (by omega) (by omega)]
    have skip : ¬ liv D (i 531) (i 504 48) y x → C2 (n, x + 1) := fun w => hC2 _ _ ⟨by omega, by omega, k2.no k0 w⟩ (by omega)
    refine ⟨fun w => skip (fun z => by have := z.2.1; omega), fun w => mlastUse_w ok h.w ⟨k0, by omega⟩ rfl hb ⟨e0, el⟩ (fun m m0 hm => ⟨fun w2 => skip (fun z => by have := (hm y j0).2 ⟨z.1, z.2.2⟩; omega), fun w2 => ?_⟩)⟩
    have lv := (hm y j0).1 (by omega)
    exact hC2 _ _ ⟨by omega, by omega, k2.yes k0 ⟨lv.1, by omega, lv.2⟩⟩ (by omega)
