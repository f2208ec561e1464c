theorem sig_eq {D : Dat} {a b : Int} (hb : 0 ≤ b ∧ b < D.cnt) : (a * D.cnt + b) % D.cnt = b ∧ (a * D.cnt + b) / D.cnt = a := by
  rw [Int.add_comm, Int.add_mul_emod_self_right, Int.add_mul_ediv_right _ _ (by omega), Int.emod_eq_of_lt hb.1 hb.2, Int.ediv_eq_zero_of_lt hb.1 hb.2, Int.zero_add]
  exact ⟨rfl, rfl⟩
theorem sig_lt {D : Dat} (ok : DOk D) {a b : Int} (ha : 0 ≤ a ∧ a < D.fac) (hb : 0 ≤ b ∧ b < D.cnt) : 0 ≤ a * D.cnt + b ∧ a * D.cnt + b < D.cnt * D.fac ∧ a * D.cnt + b < 24 := by
  have h0 : 0 ≤ a * D.cnt := Int.mul_nonneg ha.1 (by omega)
  have : (a + 1) * D.cnt ≤ D.fac * D.cnt := Int.mul_le_mul_of_nonneg_right (by omega) (by omega)
  rw [Int.add_mul, Int.mul_comm D.fac] at this
  have := ok.body
  omega
theorem ndl_at {D : Dat} {n : Int} (h : 0 ≤ n) : ndl D (n + 1).toNat = ndl D n.toNat ++ (rls D (n % D.cnt)).map (fun q => (n, q)) := by
  have e : (n + 1).toNat = n.toNat + 1 := by omega
  rw [e]
  show ndl D n.toNat ++ (rls D ((n.toNat : Int) % D.cnt)).map (fun q => ((n.toNat : Int), q)) = _
  have e2 : (n.toNat : Int) = n := by omega
  rw [e2]
/-- the body's nodes stand in the class -/
def M1 (D : Dat) (i r : MI) : Prop := NLg i r (GA D (r 4) (nds D)) (ocL D (nds D))
theorem number_w {D : Dat} (ok : DOk D) {i r : MI} {Q : MI → MI → Prop} (h : ClassP D i r) (hQ : ∀ i' r', FA i r i' r' → M1 D i' r' → Q i' r') : wp_X0_number i r Q := by
  have hc := ok.cnt
  have hf := ok.fac
  have hbd := ok.body
  unfold wp_X0_number
  refine Lp.r2 (fun (x : Int) (m : MI) => 0 ≤ x ∧ x ≤ 7 ∧ FA i r m r ∧ m 67 4 = 0 ∧ ∀ k, 0 ≤ k → k < x → m 71 k = 0) (fun x _ => (7 - x).toNat) ?_ ⟨by decide, by decide, ⟨fun a p q s => st_row (by omega), fun _ _ => rfl⟩, st_eq, fun k a b => by omega⟩
  intro x m C ⟨h0, h1, h2, h3, h4⟩ hC
  dsimp only [b7_X0_number]
  refine ⟨fun q => ?_, fun q => ⟨⟨h0, by omega⟩, ?_⟩⟩
  · have n0 : NLg m r (GA D (r 4) (ndl D (0 * D.cnt).toNat)) (ocL D (ndl D (0 * D.cnt).toNat)) := by
      rw [Int.zero_mul]
      have e : GA D (r 4) (ndl D (0 : Int).toNat) = [] := by simp [ndl, GA]
      rw [e]
      refine ⟨by rw [h3]; rfl, ?_, fun k a b => by rw [h4 k a (by omega)]; rfl⟩
      intro v s g hv
      cases hv
    refine Lp.r3 (fun (x2 : Int) (m s : MI) => 0 ≤ x2 ∧ x2 ≤ D.fac ∧ FA i r m s ∧ NLg m s (GA D (s 4) (ndl D (x2 * D.cnt).toNat)) (ocL D (ndl D (x2 * D.cnt).toNat))) (fun x2 _ _ => (D.fac - x2).toNat) ?_ ⟨by decide, by omega, h2, n0⟩
    intro x2 m s C2 ⟨g0, g1, g2, g3⟩ hC2
    dsimp only [b28_X0_number]
    have hm := h.fa g2
    rw [hm.fac]
    refine ⟨fun q2 => hQ _ _ g2 ?_, fun q2 => ?_⟩
    · have e : x2 = D.fac := by omega
      rw [e, Int.mul_comm] at g3
      exact g3
    · refine Lp.r3 (fun (x3 : Int) (m s : MI) => 0 ≤ x3 ∧ x3 ≤ D.cnt ∧ FA i r m s ∧ NLg m s (GA D (s 4) (ndl D (x2 * D.cnt + x3).toNat)) (ocL D (ndl D (x2 * D.cnt + x3).toNat))) (fun x3 _ _ => (D.cnt - x3).toNat) ?_ ⟨by decide, by omega, g2, by rw [Int.add_zero]; exact g3⟩
      intro x3 m s C3 ⟨k0, k1, k2, k3⟩ hC3
      dsimp only [b38_X0_number]
      have hm3 := h.fa k2
      rw [hm3.cnt]
      refine ⟨fun q3 => ?_, fun q3 => ⟨by omega, ?_⟩⟩
      · rw [wr_of (by omega) (by omega)]
        refine hC2 _ _ _ ⟨by omega, by omega, k2, ?_⟩ (by omega)
        have e : x3 = D.cnt := by omega
        rw [e] at k3
        rw [Int.add_mul, Int.one_mul]
        exact k3
      · have hsl := sig_lt ok (a := x2) (b := x3) ⟨g0, by omega⟩ ⟨k0, by omega⟩
        have hse := sig_eq (D := D) (a := x2) (b := x3) ⟨k0, by omega⟩
        have hm0 : 0 ≤ x2 * D.cnt := Int.mul_nonneg g0 (by omega)
        rw [wr_of (x := x2 * D.cnt) (by omega) (by omega), wr_of (x := x2 * D.cnt + x3) (by omega) (by omega), wr_of (x := x3 + 1) (by omega) (by omega)]
        have key := numberOne_w ok (i := m) (r := s) (L := ndl D (x2 * D.cnt + x3).toNat) (s := x2 * D.cnt + x3) (Q := fun i12 r13 => C3 (x3 + 1, i12, r13)) hm3 (by omega) ⟨hsl.1, hsl.2.2⟩ k3 (by have := ndl_len (D := D) (x2 * D.cnt + x3).toNat; omega) (fun i' r' f n => by
          refine hC3 _ _ _ ⟨by omega, by omega, k2.trans f, ?_⟩ (by omega)
          rw [← Int.add_assoc, ndl_at hsl.1]
          have e4 : r' 4 = s 4 := f.r _ (by omega)
          rw [e4]
          exact n)
        rw [hse.1, hse.2] at key
        exact key
  · rw [wr_of (by omega) (by omega)]
    refine hC _ _ ⟨by omega, by omega, h2.trans ⟨fun a p q s => st_row (by omega), fun _ _ => rfl⟩, by rw [st_row (by decide)]; exact h3, fun k a b => ?_⟩ (by omega)
    by_cases e : k = x
    · rw [e, st_eq]
    · rw [st_ne (by omega)]; exact h4 k a (by omega)
theorem nds_len {D : Dat} (ok : DOk D) : (nds D).length ≤ 96 := by
  have := ndl_len (D := D) (D.cnt * D.fac).toNat
  have := ok.body
  have h0 : 0 ≤ D.cnt * D.fac := Int.mul_nonneg ok.cnt.1 (by have := ok.fac; omega)
  unfold nds
  omega
