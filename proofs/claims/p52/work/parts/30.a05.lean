theorem cell_uniq {n f t f' t' : Int} (h0 : 0 ≤ t) (h1 : t < n) (h2 : 0 ≤ t') (h3 : t' < n) (h : n * f + t = n * f' + t') : f = f' ∧ t = t' := by
  have e1 : (n * f + t) / n = f := by rw [Int.mul_add_ediv_left _ _ (by omega), Int.ediv_eq_zero_of_lt h0 h1]; omega
  have e2 : (n * f' + t') / n = f' := by rw [Int.mul_add_ediv_left _ _ (by omega), Int.ediv_eq_zero_of_lt h2 h3]; omega
  have : f = f' := by rw [← e1, ← e2, h]
  subst this
  exact ⟨rfl, by omega⟩
theorem rls_sorted {D : Dat} {k : Int} : (rls D k).Pairwise (fun a b => a < b) := by
  unfold rls
  repeat' split
  all_goals decide
theorem role_lt {D : Dat} (ok : DOk D) {u v : Int} (hu : 0 ≤ u ∧ u < nn D) (hv : 0 ≤ v ∧ v < nn D) (e : (nd D u).1 = (nd D v).1) (h : u < v) : (nd D u).2 < (nd D v).2 := by
  obtain ⟨j, e1, h1, _⟩ := seg_of ok hu
  obtain ⟨l, e2, h2, _⟩ := seg_of ok hv
  have ek : stK D (nd D u) = stK D (nd D v) := by unfold stK; rw [e]
  rw [ek] at h1
  rw [e] at e1
  have hjl : j < l := by omega
  have hs := List.pairwise_iff_getElem.1 (rls_sorted (D := D) (k := stK D (nd D v))) j l (get_lt h1) (get_lt h2) hjl
  rw [List.getElem?_eq_getElem (get_lt h1)] at h1
  rw [List.getElem?_eq_getElem (get_lt h2)] at h2
  have e3 := Option.some.inj h1
  have e4 := Option.some.inj h2
  rw [e3, e4] at hs
  exact hs
/-- to which node a node gives: the next of its statement that operates or writes -/
theorem with_iff {D : Dat} (ok : DOk D) {v t : Int} (hv : 0 ≤ v ∧ v < nn D) (ht : 0 ≤ t ∧ t < nn D) : withE D v t ↔ (v < t ∧ (nd D v).1 = (nd D t).1 ∧ (nd D v).2 ≠ 3 ∧ ((nd D t).2 = 2 ∨ (nd D t).2 = 3) ∧ ∀ k, v < k → k < t → ¬ ((nd D k).2 = 2 ∨ (nd D k).2 = 3)) := by
  obtain ⟨p1, p2, p3, p4⟩ := nd_prev ok ht
  constructor
  · intro h
    have hr := with_role ok ht hv.1 h
    obtain ⟨h1, h2, h3, h4⟩ := hr
    rcases h4 with e | ⟨e, e2, r1, r2⟩
    · refine ⟨h1, ?_⟩
      have key : nd D v = ((nd D t).1, (nd D v).2) ∧ (nd D v).2 ≠ 3 := by
        rw [e]
        by_cases q : (nd D t).2 = 2
        · by_cases r2 : isRd (D.F (stK D (nd D t)) 2)
          · have := (p1 q r2).2.1; rw [this]; exact ⟨rfl, show (1 : Int) ≠ 3 by decide⟩
          · have r1 : isRd (D.F (stK D (nd D t)) 1) := by
              unfold withE at h
              have e2 : g2N D t (nd D t) = -1 := by unfold g2N; exact if_neg (fun z => r2 z.2)
              by_cases w : isRd (D.F (stK D (nd D t)) 1)
              · exact w
              · have e1 : g1N D t (nd D t) = -1 := by unfold g1N; rw [if_pos q]; exact if_neg w
                omega
            have := (p2 q r2 r1).2; rw [this]; exact ⟨rfl, show (0 : Int) ≠ 3 by decide⟩
        · have q3 : (nd D t).2 = 3 := by omega
          by_cases o : D.O (stK D (nd D t)) = 32
          · have r1 : isRd (D.F (stK D (nd D t)) 1) := by
              unfold withE at h
              have e2 : g2N D t (nd D t) = -1 := by unfold g2N; exact if_neg (fun z => q z.1)
              by_cases w : D.O (stK D (nd D t)) ≠ 32 ∨ isRd (D.F (stK D (nd D t)) 1)
              · exact w.resolve_left (fun z => z o)
              · have e1 : g1N D t (nd D t) = -1 := by unfold g1N; rw [if_neg q, if_pos q3]; exact if_neg w
                omega
            have := (p4 q3 o r1).2; rw [this]; exact ⟨rfl, show (0 : Int) ≠ 3 by decide⟩
          · have := (p3 q3 o).2; rw [this]; exact ⟨rfl, show (2 : Int) ≠ 3 by decide⟩
      refine ⟨by rw [key.1], key.2, h3, fun k a b => by omega⟩
    · have n1 := (p1 e2 r2).2.1
      have n2 := ((p1 e2 r2).2.2 r1).2
      rw [← e] at n2
      refine ⟨h1, by rw [n2], by rw [n2]; exact (show (0 : Int) ≠ 3 by decide), h3, fun k a b => ?_⟩
      have : k = t - 1 := by omega
      rw [this, n1]
      exact (show ¬ ((1 : Int) = 2 ∨ (1 : Int) = 3) by decide)
  · rintro ⟨h1, h2, h3, h4, h5⟩
    have hlt := role_lt ok hv ht h2 h1
    obtain ⟨_, _, _, _, v5⟩ := nd_ok ok hv
    have ek : stK D (nd D v) = stK D (nd D t) := by unfold stK; rw [h2]
    rw [ek] at v5
    have hv2 := rls_mem v5
    have idv : ∀ u q, 0 ≤ u → u < nn D → nd D u = ((nd D t).1, q) → (nd D v).2 = q → v = u := by
      intro u q u0 u1 e e2
      refine nd_inj hv ⟨u0, u1⟩ ?_
      rw [e, ← h2, ← e2]
    unfold withE g1N g2N
    rcases h4 with q | q
    · rw [if_pos q]
      by_cases r2 : isRd (D.F (stK D (nd D t)) 2)
      · obtain ⟨a, b, c⟩ := p1 q r2
        rcases hv2 with z | z | z | z | z
        · left
          obtain ⟨c1, c2⟩ := c z.2
          rw [if_pos z.2, if_pos r2]
          exact idv _ _ (by omega) (by omega) c2 z.1
        · right
          rw [if_pos ⟨q, r2⟩]
          exact idv _ _ (by omega) (by omega) b z.1
        · omega
        · omega
        · omega
      · rcases hv2 with z | z | z | z | z
        · left
          obtain ⟨c1, c2⟩ := p2 q r2 z.2
          rw [if_pos z.2, if_neg r2]
          exact idv _ _ (by omega) (by omega) c2 z.1
        · exact absurd z.2.2 r2
        · omega
        · omega
        · omega
    · rw [if_neg (by omega), if_pos q]
      left
      by_cases o : D.O (stK D (nd D t)) = 32
      · rcases hv2 with z | z | z | z | z
        · rw [if_pos (.inr z.2)]
          exact idv _ _ (by have := (p4 q o z.2).1; omega) (by omega) (p4 q o z.2).2 z.1
        · exact absurd o z.2.1
        · exact absurd o z.2
        · omega
        · omega
      · obtain ⟨a, b⟩ := p3 q o
        rw [if_pos (.inl o)]
        have no2 : ¬ v < t - 1 := fun w => h5 (t - 1) w (by omega) (by rw [b]; exact .inl rfl)
        omega
def wtR (D : Dat) (v : Int) : RS := fun f t d w => f = v ∧ 0 ≤ t ∧ t < nn D ∧ withE D v t ∧ d = 0 ∧ w = cyv D v
def fmR (D : Dat) (p u : Int) : RS := ahR D p u
def laR (D : Dat) (p a w0 : Int) : RS := fun f t d w => f = a ∧ nextE D p a t d ∧ w = w0 - cyv D t
theorem wr_mem {D : Dat} {v : Int} : (wrN D (nd D v) ≠ -1 → isMem D v) ∧ (isMem D v → ((nd D v).2 = 0 ∨ (nd D v).2 = 1 ∨ (nd D v).2 = 3) → wrN D (nd D v) = if (nd D v).2 = 3 then 1 else 0) := by
  unfold wrN isMem kdv
  refine ⟨fun h => ?_, fun h1 h2 => ?_⟩
  · by_cases e : (nd D v).2 = 3 ∧ (kdN D (nd D v) = 3 ∨ kdN D (nd D v) = 4)
    · exact e.2
    · rw [if_neg e] at h
      by_cases e2 : ((nd D v).2 = 0 ∨ (nd D v).2 = 1) ∧ (kdN D (nd D v) = 3 ∨ kdN D (nd D v) = 4)
      · exact e2.2
      · rw [if_neg e2] at h; exact absurd rfl h
  · by_cases e : (nd D v).2 = 3
    · rw [if_pos ⟨e, h1⟩, if_pos e]
    · rw [if_neg (fun z => e z.1), if_pos ⟨by omega, h1⟩, if_neg e]
def mcR (D : Dat) (a : Int) : RS := fun f t d w => f = a ∧ chanE D a t d ∧ w = 1
theorem chan_rng {D : Dat} {f u d : Int} (h : chanE D f u d) : 0 ≤ u ∧ u < nn D := by
  rcases h.2.2.2 with ⟨a, _⟩ | ⟨_, a, _⟩ <;> exact ⟨a.1, a.2.1⟩
theorem bitr_one : ∀ a < 8, ∀ p < 8, (iAnd (iShr (iShl 1 ((a : Nat) : Int)) ((p : Nat) : Int)) 1 = 1 ↔ a = p) := by decide +kernel
theorem bitr_two : ∀ a < 8, ∀ b < 8, ∀ p < 8, (iAnd (iShr (iOr (iShl 1 ((a : Nat) : Int)) (iShl 1 ((b : Nat) : Int))) ((p : Nat) : Int)) 1 = 1 ↔ (a = p ∨ b = p)) := by decide +kernel
theorem bitr_z : ∀ p < 8, iAnd (iShr 0 ((p : Nat) : Int)) 1 = 0 := by decide +kernel
theorem usv_bit {D : Dat} (ok : DOk D) {v p : Int} (h : 0 ≤ v ∧ v < nn D) (hp : 0 ≤ p ∧ p < 8) : iAnd (iShr (usN D (nd D v)) p) 1 = 1 ↔ usv D v p := by
  obtain ⟨h1, h2, h3, h4, h5⟩ := nd_ok ok h
  obtain ⟨n, rfl⟩ := Int.eq_ofNat_of_zero_le hp.1
  have hn : n < 8 := by omega
  unfold usv usN
  have m1 := msk_c ok ⟨h3, h4⟩ (q := 1) (by decide)
  have m2 := msk_c ok ⟨h3, h4⟩ (q := 2) (by decide)
  by_cases e2 : (nd D v).2 = 2
  · rw [if_pos e2]
    rcases m1 with ⟨f1, a, ha, ea, ma⟩ | ⟨f1, ma⟩ <;> rcases m2 with ⟨f2, b, hb, eb, mb⟩ | ⟨f2, mb⟩
    · rw [ma, mb, bit_two a ha b hb n hn, bitr_two a ha b hb n hn]
    · rw [ma, mb, (bit_l a ha).1, bit_one a ha n hn, bitr_one a ha n hn]
    · rw [ma, mb, (bit_l b hb).2, bit_one b hb n hn, bitr_one b hb n hn]
    · rw [ma, mb, show iOr 0 0 = 0 by decide, bit_z n hn, bitr_z n hn]; simp
  · rw [if_neg e2]
    by_cases e4 : (nd D v).2 = 4 ∨ ((nd D v).2 = 3 ∧ D.O (stK D (nd D v)) = 32)
    · rw [if_pos e4]
      rcases m1 with ⟨f1, a, ha, ea, ma⟩ | ⟨f1, ma⟩
      · rw [ma, bit_one a ha n hn, bitr_one a ha n hn]
      · rw [ma, bit_z n hn, bitr_z n hn]; simp
    · rw [if_neg e4, bit_z n hn, bitr_z n hn]; simp
theorem mkv_r {D : Dat} (ok : DOk D) {v : Int} (h : 0 ≤ v ∧ v < nn D) : mkv D v = -1 ∨ (0 ≤ mkv D v ∧ mkv D v < 8) := by
  obtain ⟨h1, h2, h3, h4, h5⟩ := nd_ok ok h
  unfold mkv mkN
  split
  · rename_i e
    have := (ok.st _ h3 h4).n0 0 (by decide) (by decide) e.1
    omega
  · exact .inl rfl
/-- the edges that the reference finds at a node -/
def nodR (D : Dat) (a : Int) : RS := fun f t d w => wtR D a f t d w ∨ (mkv D a ≠ -1 ∧ laR D (mkv D a) a (1 + cyv D a) f t d w) ∨ (∃ p, 0 ≤ p ∧ p < 8 ∧ usv D a p ∧ (ahR D p a f t d w ∨ laR D p a 1 f t d w)) ∨ (∃ b, 0 ≤ b ∧ b < nn D ∧ plR D a b f t d w) ∨ mcR D a f t d w
theorem raw_nod {D : Dat} (ok : DOk D) {f t d w : Int} : Raw D f t d w ↔ ∃ a, 0 ≤ a ∧ a < nn D ∧ nodR D a f t d w := by
  constructor
  · rintro ⟨a1, a2, a3, a4, a5⟩
    rcases a5 with ⟨b1, b2, b3⟩ | ⟨p, p0, p1, b1, b2, b3⟩ | ⟨p, p0, p1, b1, ⟨b2, b3⟩ | ⟨b2, b3⟩⟩ | ⟨b1, b2⟩ | ⟨b1, b2⟩
    · exact ⟨f, a1, a2, .inl ⟨rfl, a3, a4, b1, b2, b3⟩⟩
    · exact ⟨t, a3, a4, .inr (.inr (.inl ⟨p, p0, p1, b1, .inl ⟨rfl, b2, b3⟩⟩))⟩
    · exact ⟨f, a1, a2, .inr (.inr (.inl ⟨p, p0, p1, b2, .inr ⟨rfl, b1, by omega⟩⟩))⟩
    · exact ⟨f, a1, a2, .inr (.inl ⟨by omega, rfl, by rw [b2]; exact b1, by omega⟩)⟩
    · exact ⟨f, a1, a2, .inr (.inr (.inr (.inl ⟨t, a3, a4, rfl, rfl, b1, b2⟩)))⟩
    · exact ⟨f, a1, a2, .inr (.inr (.inr (.inr ⟨rfl, b1, b2⟩)))⟩
  · rintro ⟨a, a0, a1, h⟩
    rcases h with ⟨rfl, c1, c2, c3, c4, c5⟩ | ⟨mk, rfl, c1, c2⟩ | ⟨p, p0, p1, u, ⟨rfl, c1, c2⟩ | ⟨rfl, c1, c2⟩⟩ | ⟨b, b0, b1, rfl, rfl, c1, c2⟩ | ⟨rfl, c1, c2⟩
    · exact ⟨a0, a1, c1, c2, .inl ⟨c3, c4, c5⟩⟩
    · have hr := next_rng c1
      have hm := mkv_r ok ⟨a0, a1⟩
      exact ⟨a0, a1, hr.1, hr.2, .inr (.inr (.inl ⟨mkv D f, by omega, by omega, c1, .inr ⟨rfl, by omega⟩⟩))⟩
    · have hr := make_rng c1
      exact ⟨hr.1, hr.2, a0, a1, .inr (.inl ⟨p, p0, p1, u, c1, c2⟩)⟩
    · have hr := next_rng c1
      exact ⟨a0, a1, hr.1, hr.2, .inr (.inr (.inl ⟨p, p0, p1, c1, .inl ⟨u, by omega⟩⟩))⟩
    · exact ⟨a0, a1, b0, b1, .inr (.inr (.inr (.inl ⟨c1, c2⟩)))⟩
    · have hr := chan_rng c1
      exact ⟨a0, a1, hr.1, hr.2, .inr (.inr (.inr (.inr ⟨c1, c2⟩)))⟩
/-! ===== steps as soon and as late ===== -/
def Ed (D : Dat) (f t d w : Int) : Prop := Mx (Raw D) f t d w
theorem raw_props {D : Dat} (ok : DOk D) {f t d w : Int} (h : Raw D f t d w) : (0 ≤ f ∧ f < nn D) ∧ (0 ≤ t ∧ t < nn D) ∧ 0 ≤ d ∧ d ≤ 21 ∧ (d = 0 → f < t) ∧ -4 ≤ w ∧ w ≤ cyv D f := by
  obtain ⟨a1, a2, a3, a4, a5⟩ := h
  have cf := cyv_r ok ⟨a1, a2⟩
  have ct := cyv_r ok ⟨a3, a4⟩
  refine ⟨⟨a1, a2⟩, ⟨a3, a4⟩, ?_⟩
  rcases a5 with ⟨b1, b2, b3⟩ | ⟨p, p0, p1, b1, b2, b3⟩ | ⟨p, p0, p1, b1, b2⟩ | ⟨b1, b2⟩ | ⟨b1, b2⟩
  · have := with_role ok ⟨a3, a4⟩ a1 b1
    exact ⟨by omega, by omega, fun _ => this.1, by omega, by omega⟩
  · rcases b2 with ⟨z, z2⟩ | ⟨z, z2, z3⟩
    · exact ⟨by omega, by omega, fun _ => z.2.2.1, by omega, by omega⟩
    · exact ⟨by omega, by omega, fun _ => by omega, by omega, by omega⟩
  · have hw : -4 ≤ w ∧ w ≤ cyv D f := by rcases b2 with ⟨_, y⟩ | ⟨_, y⟩ <;> omega
    rcases b1.2 with ⟨z, z2⟩ | ⟨z, z2, z3⟩
    · exact ⟨by omega, by omega, fun _ => z.2.2.1, hw.1, hw.2⟩
    · exact ⟨by omega, by omega, fun _ => by omega, hw.1, hw.2⟩
  · have hw : -4 ≤ w ∧ w ≤ cyv D f := by rcases b2 with ⟨_, y⟩ | ⟨_, _, y⟩ | ⟨_, _, y⟩ <;> omega
    have mf := b1.2.1
    have mt : isMem D t := by unfold isMem; rw [← b1.2.2.1]; exact mf
    have pf := mem_fp ok ⟨a1, a2⟩ mf
    have pt := mem_fp ok ⟨a3, a4⟩ mt
    have hd := b1.2.2.2.2
    have hfac := ok.fac
    unfold memD at hd
    by_cases e : tnN D (nd D f) = 1 ∧ tnN D (nd D t) = 1
    · rw [if_pos e] at hd
      have : d ≤ D.fac * d := by
        have := Int.mul_le_mul_of_nonneg_right hfac.1 hd.1
        omega
      exact ⟨hd.1, by omega, hd.2.2, hw.1, hw.2⟩
    · rw [if_neg e] at hd
      have hd2 := hd.2
      split at hd2
      · rename_i q; exact ⟨by omega, by omega, fun _ => q, hw.1, hw.2⟩
      · exact ⟨by omega, by omega, fun _ => by omega, hw.1, hw.2⟩
  · rcases b1.2.2.2 with ⟨z, z2⟩ | ⟨z, z2, z3⟩
    · exact ⟨by omega, by omega, fun _ => z.2.2.1, by omega, by omega⟩
    · exact ⟨by omega, by omega, fun _ => by omega, by omega, by omega⟩
theorem ed_props {D : Dat} (ok : DOk D) {f t d w : Int} (h : Ed D f t d w) : (0 ≤ f ∧ f < nn D) ∧ (0 ≤ t ∧ t < nn D) ∧ 0 ≤ d ∧ d ≤ 21 ∧ (d = 0 → f < t) ∧ -4 ≤ w ∧ w ≤ cyv D f := raw_props ok h.1
def sumN (D : Dat) : Nat → Int
  | 0 => 0
  | k + 1 => sumN D k + cyv D k
def sumC (D : Dat) (v : Int) : Int := sumN D v.toNat
theorem sumC_s {D : Dat} {v : Int} (h : 0 ≤ v) : sumC D (v + 1) = sumC D v + cyv D v := by
  unfold sumC
  rw [show (v + 1).toNat = v.toNat + 1 by omega]
  show sumN D v.toNat + cyv D (v.toNat : Int) = _
  rw [show (v.toNat : Int) = v by omega]
theorem sumC_mono {D : Dat} (ok : DOk D) {u v : Int} (h0 : 0 ≤ u) (h : u ≤ v) (hv : v ≤ nn D) : sumC D u ≤ sumC D v := by
  have key : ∀ k : Nat, u + k ≤ nn D → sumC D u ≤ sumC D (u + k) := by
    intro k
    induction k with
    | zero => intro _; simp
    | succ k ih =>
      intro hk
      have := ih (by omega)
      have c := cyv_r ok (v := u + k) ⟨by omega, by omega⟩
      rw [show u + ((k + 1 : Nat) : Int) = u + k + 1 by omega, sumC_s (by omega)]
      omega
  have := key (v - u).toNat (by omega)
  rw [show u + ((v - u).toNat : Int) = v by omega] at this
  exact this
theorem sumC_b {D : Dat} (ok : DOk D) {v : Int} (h0 : 0 ≤ v) (hv : v ≤ nn D) : 0 ≤ sumC D v ∧ sumC D v ≤ 5 * v := by
  have key : ∀ k : Nat, (k : Int) ≤ nn D → 0 ≤ sumC D k ∧ sumC D k ≤ 5 * k := by
    intro k
    induction k with
    | zero => intro _; exact ⟨by show (0 : Int) ≤ 0; omega, by show (0 : Int) ≤ _; omega⟩
    | succ k ih =>
      intro hk
      have := ih (by omega)
      have c := cyv_r ok (v := (k : Int)) ⟨by omega, by omega⟩
      rw [show ((k + 1 : Nat) : Int) = (k : Int) + 1 by omega, sumC_s (by omega)]
      omega
  have := key v.toNat (by omega)
  rw [show (v.toNat : Int) = v by omega] at this
  exact this
def IsSoon (D : Dat) (s : Int → Int) : Prop := ∀ v, 0 ≤ v → v < nn D → 0 ≤ s v ∧ s v ≤ sumC D v ∧ (∀ f w, Ed D f v 0 w → s f + w ≤ s v) ∧ (s v = 0 ∨ ∃ f w, Ed D f v 0 w ∧ s v = s f + w)
theorem soon_uniq {D : Dat} (ok : DOk D) {s s' : Int → Int} (h : IsSoon D s) (g : IsSoon D s') : ∀ v, 0 ≤ v → v < nn D → s v = s' v := by
  have key : ∀ (n : Nat) (v : Int), v < n → 0 ≤ v → v < nn D → s v = s' v := by
    intro n
    induction n with
    | zero => intro v a b; omega
    | succ n ih =>
      intro v a b c
      obtain ⟨h1, _, h2, h3⟩ := h v b c
      obtain ⟨g1, _, g2, g3⟩ := g v b c
      have ff : ∀ f w, Ed D f v 0 w → s f = s' f := fun f w z => by
        have := ed_props ok z
        exact ih f (by omega) this.1.1 this.1.2
      have l1 : s v ≤ s' v := by
        rcases h3 with e | ⟨f, w, e1, e2⟩
        · omega
        · have := g2 f w e1; rw [← ff f w e1] at this; omega
      have l2 : s' v ≤ s v := by
        rcases g3 with e | ⟨f, w, e1, e2⟩
        · omega
        · have := h2 f w e1; rw [ff f w e1] at this; omega
      omega
  exact fun v a b => key (v.toNat + 1) v (by omega) a b
/-- while soonest steps are pushed on: P are the edges that were gone through -/
def SI (D : Dat) (P : Int → Int → Int → Prop) (s : Int → Int) : Prop := ∀ v, 0 ≤ v → v < nn D → 0 ≤ s v ∧ s v ≤ sumC D v ∧ (∀ f w, P f v w → s f + w ≤ s v) ∧ (s v = 0 ∨ ∃ f w, P f v w ∧ s v = s f + w)
theorem SI_step {D : Dat} (ok : DOk D) {P : Int → Int → Int → Prop} {s : Int → Int} {x t w : Int} (h : SI D P s) (hP : ∀ f v w, P f v w → f ≤ x) (he : Ed D x t 0 w) : SI D (fun f v y => P f v y ∨ (f = x ∧ v = t ∧ y = w)) (iup s t (max (s t) (s x + w))) := by
  obtain ⟨hx, ht, _, _, hlt, _, hw⟩ := ed_props ok he
  have hlt := hlt rfl
  intro v v0 v1
  obtain ⟨h1, h2, h3, h4⟩ := h v v0 v1
  have old : ∀ f, f ≤ x → iup s t (max (s t) (s x + w)) f = s f := fun f hf => by unfold iup; rw [if_neg (by omega)]
  by_cases e : v = t
  · subst e
    have ev : iup s v (max (s v) (s x + w)) v = max (s v) (s x + w) := by unfold iup; rw [if_pos rfl]
    have x2 := (h x hx.1 hx.2).2.1
    have m1 := sumC_mono ok (u := x + 1) (v := v) (by omega) (by omega) (by omega)
    rw [sumC_s hx.1] at m1
    rw [ev]
    refine ⟨by clear h4; omega, by clear h4; omega, fun f y z => ?_, ?_⟩
    · rcases z with z | ⟨rfl, _, rfl⟩
      · rw [old f (hP _ _ _ z)]
        have := h3 f y z
        clear h4
        omega
      · rw [old f (Int.le_refl _)]; clear h4; omega
    · rcases Int.le_total (s v) (s x + w) with q | q
      · exact .inr ⟨x, w, .inr ⟨rfl, rfl, rfl⟩, by rw [old x (Int.le_refl _)]; clear h4; omega⟩
      · rcases h4 with z | ⟨f, y, z1, z2⟩
        · exact .inl (by omega)
        · exact .inr ⟨f, y, .inl z1, by rw [old f (hP _ _ _ z1)]; omega⟩
  · have ev : iup s t (max (s t) (s x + w)) v = s v := by unfold iup; rw [if_neg e]
    rw [ev]
    refine ⟨h1, h2, fun f y z => ?_, ?_⟩
    · rcases z with z | ⟨_, z, _⟩
      · rw [old f (hP _ _ _ z)]; exact h3 f y z
      · exact absurd z e
    · rcases h4 with z | ⟨f, y, z1, z2⟩
      · exact .inl z
      · exact .inr ⟨f, y, .inl z1, by rw [old f (hP _ _ _ z1)]; exact z2⟩
theorem GrC.ed {D : Dat} (ok : DOk D) {i : MI} (h : M2 D i) {f e : Int} (hf : 0 ≤ f ∧ f < nn D) (he : 0 ≤ e ∧ e < i 460 f) : Ed D f (i (170 + f) e) (i (267 + f) e) (i (364 + f) e) :=
  h.e f e hf.1 (by have := nn_le ok; omega) he.1 he.2
theorem GrC.fd {D : Dat} (ok : DOk D) {i : MI} (h : M2 D i) {f t d w : Int} (hE : Ed D f t d w) : ∃ e, 0 ≤ e ∧ e < i 460 f ∧ i (170 + f) e = t ∧ i (267 + f) e = d ∧ i (364 + f) e = w := by
  obtain ⟨e, a, b, c, d'⟩ := h.s f t d w hE.1
  have hf := (ed_props ok hE).1
  have := GrC.ed ok h hf ⟨a, b⟩
  rw [c, d'] at this
  exact ⟨e, a, b, c, d', Mx_uniq this hE⟩
/-- what ordering steps leaves alone -/
def FO (i i' : MI) : Prop := ∀ a, (a < 462 ∨ 468 < a) → i' a = i a
theorem FO.refl (i : MI) : FO i i := fun _ _ => rfl
theorem FO.trans {i j k : MI} (h : FO i j) (g : FO j k) : FO i k := fun a q => (g a q).trans (h a q)
theorem FO.st {a k v : Int} {i : MI} (h1 : 462 ≤ a ∧ a ≤ 468) : FO i (st i a k v) := fun b q => st_row (by omega)
theorem M2.fo {D : Dat} (ok : DOk D) {i i' : MI} (h : M2 D i) (g : FO i i') : M2 D i' := by
  have hn := nn_le ok
  refine ⟨?_, ?_, ?_, ?_, h.r, ?_⟩
  · rw [g _ (by omega)]; exact h.z
  · intro f e f0 f1; rw [g 460 (by omega), g _ (by omega), g _ (by omega), g _ (by omega)]; exact h.e f e f0 f1
  · intro f t d w hS
    have hf := hS.1
    have hf1 := hS.2.1
    rw [g 460 (by omega), g _ (by omega), g _ (by omega)]; exact h.s f t d w hS
  · intro f e e' f0 f1; rw [g 460 (by omega), g _ (by omega), g _ (by omega)]; exact h.u f e e' f0 f1
  · rw [g _ (by omega)]; exact h.c
theorem NV.fo {D : Dat} (ok : DOk D) {i i' : MI} (h : NV D i) (g : FO i i') : NV D i' := by
  have hn := nn_le ok
  refine ⟨by rw [g _ (by omega)]; exact h.n, fun v c v0 v1 c0 c1 => ?_, by rw [g _ (by omega)]; exact h.y⟩
  rw [g _ (by omega)]
  exact h.a v c v0 v1 c0 c1
theorem soonest_w {D : Dat} (ok : DOk D) {i r : MI} {Q : MI → Prop} (h : NV D i) (g : M2 D i) (hQ : ∀ i', FO i i' → IsSoon D (i' 462) → Q i') : wp_X9_orderSoonest i r Q := by
  have hn := nn_le ok
  unfold wp_X9_orderSoonest
  refine Lp.r2 (fun (x : Int) (m : MI) => 0 ≤ x ∧ x ≤ nn D ∧ FO i m ∧ ∀ v, 0 ≤ v → v < x → m 462 v = 0) (fun x _ => (nn D - x).toNat) ?_ ⟨by decide, hn.1, FO.refl i, fun v a b => by omega⟩
  intro x m C ⟨h0, h1, h2, h3⟩ hC
  dsimp only [b2_X9_orderSoonest]
  have hm := h.fo ok h2
  rw [hm.n]
  refine ⟨fun q => ?_, fun q => ⟨by omega, ?_⟩⟩
  · have s0 : SI D (fun f v w => Ed D f v 0 w ∧ f < 0) (m 462) := by
      intro v v0 v1
      have := sumC_b ok (v := v) v0 (by omega)
      rw [h3 v v0 (by omega)]
      exact ⟨by omega, this.1, fun f w z => by have := ed_props ok z.1; omega, .inl rfl⟩
    refine Lp.r2 (fun (x : Int) (m : MI) => 0 ≤ x ∧ x ≤ nn D ∧ FO i m ∧ SI D (fun f v w => Ed D f v 0 w ∧ f < x) (m 462)) (fun x _ => (nn D - x).toNat) ?_ ⟨by decide, hn.1, h2, s0⟩
    intro x m2 C2 ⟨k0, k1, k2, k3⟩ hC2
    dsimp only [b25_X9_orderSoonest]
    have hm2 := h.fo ok k2
    rw [hm2.n]
    refine ⟨fun q2 => hQ m2 k2 ?_, fun q2 => ?_⟩
    · have ex : x = nn D := by omega
      subst ex
      intro v v0 v1
      obtain ⟨a, b, c, d⟩ := k3 v v0 v1
      exact ⟨a, b, fun f w z => c f w ⟨z, (ed_props ok z).1.2⟩, d.elim .inl (fun ⟨f, w, z1, z2⟩ => .inr ⟨f, w, z1.1, z2⟩)⟩
    · have hx : 0 ≤ x ∧ x < nn D := ⟨k0, by omega⟩
      have gz := (g.fo ok k2).z x k0 (by omega)
      refine Lp.r2 (fun (y : Int) (m' : MI) => 0 ≤ y ∧ y ≤ i 460 x ∧ FO i m' ∧ SI D (fun f v w => (Ed D f v 0 w ∧ f < x) ∨ (f = x ∧ ∃ e, 0 ≤ e ∧ e < y ∧ i (170 + x) e = v ∧ i (267 + x) e = 0 ∧ i (364 + x) e = w)) (m' 462)) (fun y _ => (100 - y).toNat) ?_ ⟨by decide, by rw [k2 460 (by omega)] at gz; exact gz.1, k2, ?_⟩
      · intro y m3 C3 ⟨j0, j1, j2, j3⟩ hC3
        dsimp only [b36_X9_orderSoonest, s103_X9_orderSoonest]
        have gm := g.fo ok j2
        have gz3 := gm.z x k0 (by omega)
        have r460 : m3 460 = i 460 := j2 _ (by omega)
        have r170 : m3 (170 + x) = i (170 + x) := j2 _ (by omega)
        have r267 : m3 (267 + x) = i (267 + x) := j2 _ (by omega)
        have r364 : m3 (364 + x) = i (364 + x) := j2 _ (by omega)
        rw [r460] at gz3
        rw [r460, r170, r267, r364]
        refine ⟨by omega, fun q3 => ?_, fun q3 => ⟨by omega, by omega, ?_⟩⟩
        · rw [wr_of (by omega) (by omega)]
          refine hC2 _ _ ⟨by omega, by omega, j2, ?_⟩ (by omega)
          have ey : y = i 460 x := by omega
          intro v v0 v1
          obtain ⟨a, b, c, d⟩ := j3 v v0 v1
          refine ⟨a, b, fun f w z => c f w ?_, d.elim .inl (fun ⟨f, w, z1, z2⟩ => .inr ⟨f, w, ?_, z2⟩)⟩
          · by_cases ef : f = x
            · subst ef
              obtain ⟨e, e0, e1, e2, e3, e4⟩ := GrC.fd ok g z.1
              exact .inr ⟨rfl, e, e0, by omega, e2, e3, e4⟩
            · exact .inl ⟨z.1, by omega⟩
          · rcases z1 with z1 | ⟨rfl, e, e0, e1, e2, e3, e4⟩
            · exact ⟨z1.1, by omega⟩
            · have := GrC.ed ok g hx ⟨e0, by omega⟩
              rw [e2, e3, e4] at this
              exact ⟨this, by omega⟩
        · have he := GrC.ed ok g hx ⟨j0, by omega⟩
          rw [wr_of (x := y + 1) (by omega) (by omega)]
          refine ⟨fun e0 => ?_, fun e0 => ?_⟩
          · rw [e0] at he
            obtain ⟨_, ht, _, _, _, hw1, hw2⟩ := ed_props ok he
            have cx := cyv_r ok hx
            obtain ⟨a, b, _, _⟩ := j3 x hx.1 hx.2
            have sb := sumC_b ok (v := x) k0 (by omega)
            rw [wr_of (x := m3 462 x + i (364 + x) y) (by omega) (by omega)]
            refine ⟨by omega, by omega, by omega, by omega, by omega, by omega, by omega, ?_⟩
            refine hC3 _ _ ⟨by omega, by omega, j2.trans (FO.st (by decide)), ?_⟩ (by omega)
            have st2 := SI_step ok j3 (x := x) (fun f v w z => by rcases z with z | z <;> omega) he
            have er : st m3 462 (i (170 + x) y) (max (m3 462 (i (170 + x) y)) (m3 462 x + i (364 + x) y)) 462 = iup (m3 462) (i (170 + x) y) (max (m3 462 (i (170 + x) y)) (m3 462 x + i (364 + x) y)) := by
              funext c
              unfold iup
              by_cases z : c = i (170 + x) y
              · rw [z, st_eq, if_pos rfl]
              · rw [st_ne (by omega), if_neg z]
            rw [er]
            intro v v0 v1
            obtain ⟨a, b, c, d⟩ := st2 v v0 v1
            refine ⟨a, b, fun f w z => c f w ?_, d.elim .inl (fun ⟨f, w, z1, z2⟩ => .inr ⟨f, w, ?_, z2⟩)⟩
            · rcases z with z | ⟨rfl, e, e1, e2, e3, e4, e5⟩
              · exact .inl (.inl z)
              · by_cases ee : e = y
                · subst ee; exact .inr ⟨rfl, e3.symm, e5.symm⟩
                · exact .inl (.inr ⟨rfl, e, e1, by omega, e3, e4, e5⟩)
            · rcases z1 with (z | ⟨rfl, e, e1, e2, e3, e4, e5⟩) | ⟨rfl, rfl, rfl⟩
              · exact .inl z
              · exact .inr ⟨rfl, e, e1, by omega, e3, e4, e5⟩
              · exact .inr ⟨rfl, y, j0, by omega, rfl, e0, rfl⟩
          · refine hC3 _ _ ⟨by omega, by omega, j2, ?_⟩ (by omega)
            intro v v0 v1
            obtain ⟨a, b, c, d⟩ := j3 v v0 v1
            refine ⟨a, b, fun f w z => c f w ?_, d.elim .inl (fun ⟨f, w, z1, z2⟩ => .inr ⟨f, w, ?_, z2⟩)⟩
            · rcases z with z | ⟨rfl, e, e1, e2, e3, e4, e5⟩
              · exact .inl z
              · by_cases ee : e = y
                · subst ee; exact absurd e4 e0
                · exact .inr ⟨rfl, e, e1, by omega, e3, e4, e5⟩
            · rcases z1 with z | ⟨rfl, e, e1, e2, e3, e4, e5⟩
              · exact .inl z
              · exact .inr ⟨rfl, e, e1, by omega, e3, e4, e5⟩
      · intro v v0 v1
        obtain ⟨a, b, c, d⟩ := k3 v v0 v1
        refine ⟨a, b, fun f w z => ?_, d.elim .inl (fun ⟨f, w, z1, z2⟩ => .inr ⟨f, w, .inl z1, z2⟩)⟩
        rcases z with z | ⟨_, e, e1, e2, _⟩
        · exact c f w z
        · omega
  · rw [wr_of (by omega) (by omega)]
    refine hC _ _ ⟨by omega, by omega, h2.trans (FO.st (by decide)), fun v a b => ?_⟩ (by omega)
    by_cases e : v = x
    · rw [e, st_eq]
    · rw [st_ne (by omega)]; exact h3 v a (by omega)

def IsEnd (D : Dat) (b : Int → Int) (e : Int) : Prop := 0 ≤ e ∧ (∀ v, 0 ≤ v → v < nn D → b v + cyv D v ≤ e) ∧ (e = 0 ∨ ∃ v, 0 ≤ v ∧ v < nn D ∧ e = b v + cyv D v)
theorem end_uniq {D : Dat} {b b' : Int → Int} {e e' : Int} (hb : ∀ v, 0 ≤ v → v < nn D → b v = b' v) (h : IsEnd D b e) (g : IsEnd D b' e') : e = e' := by
  obtain ⟨h1, h2, h3⟩ := h
  obtain ⟨g1, g2, g3⟩ := g
  have l1 : e ≤ e' := by
    rcases h3 with q | ⟨v, a, c, q⟩
    · omega
    · have := g2 v a c; rw [← hb v a c] at this; omega
  have l2 : e' ≤ e := by
    rcases g3 with q | ⟨v, a, c, q⟩
    · omega
    · have := h2 v a c; rw [hb v a c] at this; omega
  omega
theorem endOf_w {D : Dat} (ok : DOk D) {i r : MI} {o : Int} {Q : Int → Prop} (h : NV D i) (hb : ∀ v, 0 ≤ v → v < nn D → -10 ≤ i o v ∧ i o v ≤ 100000) (hQ : ∀ e, IsEnd D (i o) e → Q e) : wp_X0_endOf o i r Q := by
  have hn := nn_le ok
  unfold wp_X0_endOf
  refine Lp.r2 (fun (e x : Int) => 0 ≤ x ∧ x ≤ nn D ∧ 0 ≤ e ∧ (∀ v, 0 ≤ v → v < x → i o v + cyv D v ≤ e) ∧ (e = 0 ∨ ∃ v, 0 ≤ v ∧ v < x ∧ e = i o v + cyv D v)) (fun _ x => (nn D - x).toNat) ?_ ⟨by decide, hn.1, by decide, fun v a b => by omega, .inl rfl⟩
  intro e x C ⟨h0, h1, h2, h3, h4⟩ hC
  dsimp only [b4_X0_endOf]
  rw [h.n]
  refine ⟨fun q => hQ e ⟨h2, fun v a b => h3 v a (by omega), h4.imp id (fun ⟨v, a, b, c⟩ => ⟨v, a, by omega, c⟩)⟩, fun q => ⟨by omega, ?_⟩⟩
  have hx : 0 ≤ x ∧ x < nn D := ⟨h0, by omega⟩
  have cx := cyv_r ok hx
  have bx := hb x hx.1 hx.2
  refine cyc_w ok h hx ?_
  rw [wr_of (x := i o x + cyv D x) (by clear h4; omega) (by clear h4; omega), wr_of (x := x + 1) (by clear h4; omega) (by clear h4; omega)]
  refine hC _ _ ⟨by omega, by omega, by clear h4; omega, fun v a b => ?_, ?_⟩ (by omega)
  · by_cases z : v = x
    · rw [z]; clear h4; omega
    · have := h3 v a (by omega); clear h4; omega
  · rcases Int.le_total e (i o x + cyv D x) with z | z
    · exact .inr ⟨x, h0, by omega, by clear h4; omega⟩
    · rw [Int.max_eq_left z]
      exact h4.imp id (fun ⟨v, a, b, c⟩ => ⟨v, a, by omega, c⟩)
def IsLate (D : Dat) (len : Int) (l : Int → Int) : Prop := ∀ v, 0 ≤ v → v < nn D → l v ≤ len - cyv D v ∧ (∀ t w, Ed D v t 0 w → l v ≤ l t - w) ∧ (l v = len - cyv D v ∨ ∃ t w, Ed D v t 0 w ∧ l v = l t - w)
theorem late_uniq {D : Dat} (ok : DOk D) {len : Int} {l l' : Int → Int} (h : IsLate D len l) (g : IsLate D len l') : ∀ v, 0 ≤ v → v < nn D → l v = l' v := by
  have key : ∀ (n : Nat) (v : Int), nn D - v < n → 0 ≤ v → v < nn D → l v = l' v := by
    intro n
    induction n with
    | zero => intro v a b; omega
    | succ n ih =>
      intro v a b c
      obtain ⟨h1, h2, h3⟩ := h v b c
      obtain ⟨g1, g2, g3⟩ := g v b c
      have ff : ∀ t w, Ed D v t 0 w → l t = l' t := fun t w z => by
        have := ed_props ok z
        exact ih t (by omega) this.2.1.1 this.2.1.2
      have l1 : l' v ≤ l v := by
        rcases h3 with e | ⟨t, w, e1, e2⟩
        · clear g3; omega
        · have := g2 t w e1; rw [← ff t w e1] at this; clear g3; omega
      have l2 : l v ≤ l' v := by
        rcases g3 with e | ⟨t, w, e1, e2⟩
        · clear h3; omega
        · have := h2 t w e1; rw [ff t w e1] at this; clear h3; omega
      omega
  exact fun v a b => key ((nn D - v).toNat + 1) v (by omega) a b
theorem late_ge {D : Dat} (ok : DOk D) {len : Int} {s l : Int → Int} (hs : IsSoon D s) (he : IsEnd D s len) (hl : IsLate D len l) : ∀ v, 0 ≤ v → v < nn D → s v ≤ l v := by
  have key : ∀ (n : Nat) (v : Int), nn D - v < n → 0 ≤ v → v < nn D → s v ≤ l v := by
    intro n
    induction n with
    | zero => intro v a b; omega
    | succ n ih =>
      intro v a b c
      obtain ⟨h1, h2, h3⟩ := hl v b c
      rcases h3 with e | ⟨t, w, e1, e2⟩
      · have := he.2.1 v b c; omega
      · have hp := ed_props ok e1
        have := ih t (by omega) hp.2.1.1 hp.2.1.2
        have := (hs t hp.2.1.1 hp.2.1.2).2.2.1 v w e1
        omega
  exact fun v a b => key ((nn D - v).toNat + 1) v (by omega) a b
theorem end_le {D : Dat} (ok : DOk D) {s : Int → Int} {e : Int} (hs : IsSoon D s) (he : IsEnd D s e) : e ≤ sumC D (nn D) := by
  have hn := nn_le ok
  have sb := sumC_b ok hn.1 (Int.le_refl _)
  rcases he.2.2 with q | ⟨v, a, b, q⟩
  · omega
  · have h1 := (hs v a b).2.1
    have h2 := sumC_mono ok (u := v + 1) (v := nn D) (by omega) (by omega) (Int.le_refl _)
    rw [sumC_s a] at h2
    omega
theorem latest_w {D : Dat} (ok : DOk D) {i r : MI} {Q : MI → Prop} (h : NV D i) (g : M2 D i) (hs : IsSoon D (i 462)) (hQ : ∀ i' e, FO i i' → i' 462 = i 462 → IsEnd D (i 462) e → IsLate D e (i' 463) → Q i') : wp_X9_orderLatest i r Q := by
  have hn := nn_le ok
  have sbn := sumC_b ok hn.1 (Int.le_refl _)
  unfold wp_X9_orderLatest
  have sb : ∀ v, 0 ≤ v → v < nn D → 0 ≤ i 462 v ∧ i 462 v ≤ 480 := fun v a b => by
    have h1 := (hs v a b).1
    have h2 := (hs v a b).2.1
    have h3 := sumC_b ok (v := v) a (by omega)
    omega
  refine endOf_w ok h (fun v a b => by have := sb v a b; omega) (fun len he => ?_)
  have hle := end_le ok hs he
  have he0 := he.1
  rw [h.n, wr_of (by omega) (by omega)]
  refine Lp.r2 (fun (x : Int) (m : MI) => -1 ≤ x ∧ x < nn D ∧ FO i m ∧ m 462 = i 462 ∧ ∀ v, x < v → v < nn D → i 462 v ≤ m 463 v ∧ m 463 v ≤ len - cyv D v ∧ (∀ t w, Ed D v t 0 w → m 463 v ≤ m 463 t - w) ∧ (m 463 v = len - cyv D v ∨ ∃ t w, Ed D v t 0 w ∧ m 463 v = m 463 t - w)) (fun x _ => (x + 1).toNat) ?_ ⟨by omega, by omega, FO.refl i, rfl, fun v a b => by omega⟩
  intro x m C ⟨h0, h1, h2, h3, h4⟩ hC
  dsimp only [b17_X9_orderLatest]
  have hm := h.fo ok h2
  refine ⟨fun q => hQ m len h2 h3 he (fun v a b => (h4 v (by omega) b).2), fun q => ?_⟩
  have hx : 0 ≤ x ∧ x < nn D := ⟨by omega, h1⟩
  have cx := cyv_r ok hx
  have ex := he.2.1 x hx.1 hx.2
  refine cyc_w ok hm hx ⟨by omega, ?_⟩
  rw [wr_of (x := len - cyv D x) (by omega) (by omega)]
  have up : ∀ t w, Ed D x t 0 w → x < t := fun t w z => (ed_props ok z).2.2.2.2.1 rfl
  refine Lp.r2 (fun (y : Int) (m' : MI) => 0 ≤ y ∧ y ≤ i 460 x ∧ FO i m' ∧ m' 462 = i 462 ∧ (∀ v, v ≠ x → m' 463 v = m 463 v) ∧ i 462 x ≤ m' 463 x ∧ m' 463 x ≤ len - cyv D x ∧ (∀ e, 0 ≤ e → e < y → i (267 + x) e = 0 → m' 463 x ≤ m 463 (i (170 + x) e) - i (364 + x) e) ∧ (m' 463 x = len - cyv D x ∨ ∃ e, 0 ≤ e ∧ e < y ∧ i (267 + x) e = 0 ∧ m' 463 x = m 463 (i (170 + x) e) - i (364 + x) e)) (fun y _ => (100 - y).toNat) ?_ ⟨by decide, by have := (g.z x hx.1 (by omega)).1; omega, h2.trans (FO.st (by decide)), by rw [st_row (by decide)]; exact h3, fun v z => by rw [st_ne (by omega)], by rw [st_eq]; omega, by rw [st_eq]; omega, fun e a b => by omega, .inl st_eq⟩
  intro y m3 C3 ⟨j0, j1, j2, j3, j4, j5, j6, j7, j8⟩ hC3
  dsimp only [b40_X9_orderLatest, s112_X9_orderLatest]
  have gz3 := g.z x hx.1 (by omega)
  have r460 : m3 460 = i 460 := j2 _ (by omega)
  have r170 : m3 (170 + x) = i (170 + x) := j2 _ (by omega)
  have r267 : m3 (267 + x) = i (267 + x) := j2 _ (by omega)
  have r364 : m3 (364 + x) = i (364 + x) := j2 _ (by omega)
  rw [r460, r170, r267, r364]
  refine ⟨by omega, fun q3 => ?_, fun q3 => ⟨by omega, by omega, ?_⟩⟩
  · rw [wr_of (by omega) (by omega), show x + (-1) = x - 1 by omega]
    refine hC _ _ ⟨by omega, by omega, j2, j3, fun v a b => ?_⟩ (by omega)
    have ey : y = i 460 x := by omega
    by_cases ev : v = x
    · subst ev
      refine ⟨j5, j6, fun t w z => ?_, ?_⟩
      · obtain ⟨e, e0, e1, e2, e3, e4⟩ := GrC.fd ok g z
        have := j7 e e0 (by omega) e3
        rw [e2, e4] at this
        rw [j4 t (by have := up t w z; omega)]
        exact this
      · rcases j8 with z | ⟨e, e0, e1, e2, e3⟩
        · exact .inl z
        · have hE := GrC.ed ok g hx ⟨e0, by omega⟩
          rw [e2] at hE
          have := up _ _ hE
          exact .inr ⟨i (170 + v) e, i (364 + v) e, hE, by rw [j4 (i (170 + v) e) (by omega)]; exact e3⟩
    · obtain ⟨a1, a2, a3, a4⟩ := h4 v (by omega) b
      have up2 : ∀ t w, Ed D v t 0 w → t ≠ x := fun t w z => by
        have := (ed_props ok z).2.2.2.2.1 rfl
        omega
      rw [j4 v ev]
      refine ⟨a1, a2, fun t w z => by rw [j4 t (up2 t w z)]; exact a3 t w z, ?_⟩
      rcases a4 with z | ⟨t, w, z1, z2⟩
      · exact .inl z
      · exact .inr ⟨t, w, z1, by rw [j4 t (up2 t w z1)]; exact z2⟩
  · have hE := GrC.ed ok g hx ⟨j0, by omega⟩
    rw [wr_of (x := y + 1) (by omega) (by omega)]
    refine ⟨fun e0 => ?_, fun e0 => ?_⟩
    · rw [e0] at hE
      have hut := up _ _ hE
      obtain ⟨_, ht, _, _, _, hw1, hw2⟩ := ed_props ok hE
      obtain ⟨a1, a2, _, _⟩ := h4 _ hut ht.2
      have sx := sb _ ht.1 ht.2
      have ct := cyv_r ok ht
      have ss := (hs _ ht.1 ht.2).2.2.1 x _ hE
      rw [j4 (i (170 + x) y) (by omega), wr_of (x := m 463 _ - i (364 + x) y) (by omega) (by omega)]
      refine ⟨by omega, by omega, by omega, by omega, by omega, by omega, by omega, ?_⟩
      have ev : st m3 463 x (min (m3 463 x) (m 463 (i (170 + x) y) - i (364 + x) y)) 463 x = min (m3 463 x) (m 463 (i (170 + x) y) - i (364 + x) y) := st_eq
      refine hC3 _ _ ⟨by omega, by omega, j2.trans (FO.st (by decide)), by rw [st_row (by decide)]; exact j3, fun v z => by rw [st_ne (by omega)]; exact j4 v z, ?_, ?_, ?_, ?_⟩ (by omega)
      · rw [ev]; clear j8; omega
      · rw [ev]; clear j8; omega
      · intro e a b c
        rw [ev]
        by_cases z : e = y
        · rw [z]; clear j8; omega
        · have := j7 e a (by omega) c; clear j8; omega
      · rw [ev]
        rcases Int.le_total (m3 463 x) (m 463 (i (170 + x) y) - i (364 + x) y) with z | z
        · rw [Int.min_eq_left z]
          rcases j8 with w | ⟨e, e1, e2, e3, e4⟩
          · exact .inl w
          · exact .inr ⟨e, e1, by omega, e3, e4⟩
        · exact .inr ⟨y, j0, by omega, e0, by rw [Int.min_eq_right z]⟩
    · refine hC3 _ _ ⟨by omega, by omega, j2, j3, j4, j5, j6, fun e a b c => ?_, ?_⟩ (by omega)
      · by_cases z : e = y
        · rw [z] at c; exact absurd c e0
        · exact j7 e a (by omega) c
      · rcases j8 with w | ⟨e, e1, e2, e3, e4⟩
        · exact .inl w
        · exact .inr ⟨e, e1, by omega, e3, e4⟩

/-! ===== steps by lists ===== -/
def cntN (D : Dat) (ls : Int → Int) (k c : Int) : Nat → Int
  | 0 => 0
  | n + 1 => cntN D ls k c n + if kdv D n = k ∧ ls n = c then 1 else 0
/-- how many nodes of a kind begin in a cycle -/
def cntL (D : Dat) (ls : Int → Int) (k c : Int) : Int := cntN D ls k c (nn D).toNat
theorem cntN_b {D : Dat} {ls : Int → Int} {k c : Int} (n : Nat) : 0 ≤ cntN D ls k c n ∧ cntN D ls k c n ≤ n := by
  induction n with
  | zero => exact ⟨Int.le_refl 0, Int.le_refl 0⟩
  | succ n ih =>
    show 0 ≤ cntN D ls k c n + _ ∧ cntN D ls k c n + _ ≤ _
    split <;> omega
theorem cntN_eq {D : Dat} {ls ls' : Int → Int} {k c : Int} : ∀ n : Nat, (∀ v : Int, 0 ≤ v → v < n → (kdv D v = k ∧ ls v = c ↔ kdv D v = k ∧ ls' v = c)) → cntN D ls k c n = cntN D ls' k c n := by
  intro n
  induction n with
  | zero => intro _; rfl
  | succ n ih =>
    intro h
    show cntN D ls k c n + _ = cntN D ls' k c n + _
    rw [ih (fun v a b => h v a (by omega))]
    have := h n (by omega) (by omega)
    by_cases q : kdv D n = k ∧ ls n = c
    · rw [if_pos q, if_pos (this.1 q)]
    · rw [if_neg q, if_neg (fun z => q (this.2 z))]
theorem cntN_zero {D : Dat} {ls : Int → Int} {k c : Int} : ∀ n : Nat, (∀ v : Int, 0 ≤ v → v < n → ls v ≠ c) → cntN D ls k c n = 0 := by
  intro n
  induction n with
  | zero => intro _; rfl
  | succ n ih =>
    intro h
    show cntN D ls k c n + _ = 0
    rw [ih (fun v a b => h v a (by omega)), if_neg (fun z => h n (by omega) (by omega) z.2)]
    rfl
/-- one more begins -/
theorem cntN_up {D : Dat} {ls : Int → Int} {k c x : Int} (hx : ls x ≠ c) : ∀ n : Nat, 0 ≤ x → cntN D (iup ls x c) k c n = cntN D ls k c n + if x < n ∧ kdv D x = k then 1 else 0 := by
  intro n
  induction n with
  | zero => intro h; rw [if_neg (by omega)]; rfl
  | succ n ih =>
    intro h
    show cntN D (iup ls x c) k c n + _ = cntN D ls k c n + _ + _
    rw [ih h]
    by_cases e : (n : Int) = x
    · have e1 : iup ls x c n = c := by unfold iup; rw [if_pos e]
      rw [e1, if_neg (show ¬ (x < (n : Int) ∧ kdv D x = k) by omega)]
      rw [if_neg (show ¬ (kdv D n = k ∧ ls n = c) from fun z => hx (by rw [← e]; exact z.2))]
      by_cases q : kdv D x = k
      · rw [if_pos ⟨by rw [e]; exact q, rfl⟩, if_pos ⟨by omega, q⟩] <;> omega
      · rw [if_neg (fun z => q (by rw [← e]; exact z.1)), if_neg (fun z => q z.2)] <;> omega
    · have e1 : iup ls x c n = ls n := by unfold iup; rw [if_neg e]
      rw [e1]
      by_cases q : x < (n : Int) ∧ kdv D x = k
      · rw [if_pos q, if_pos (show x < ((n + 1 : Nat) : Int) ∧ kdv D x = k from ⟨by omega, q.2⟩)] <;> omega
      · rw [if_neg q, if_neg (show ¬ (x < ((n + 1 : Nat) : Int) ∧ kdv D x = k) from fun z => q ⟨by omega, z.2⟩)] <;> omega
def ready (D : Dat) (c : Int) (ls : Int → Int) (k : Int) : Prop := 0 ≤ k ∧ k < nn D ∧ ls k = -1 ∧ (∀ f w, Ed D f k 0 w → ls f ≠ -1 ∧ ls f + w ≤ c) ∧ cntL D ls (kdv D k) c < D.un (kdv D k)
def chosen (D : Dat) (la : Int → Int) (c : Int) (ls : Int → Int) (k : Int) : Prop := ready D c ls k ∧ ∀ j, ready D c ls j → la k < la j ∨ (la k = la j ∧ k ≤ j)
def allL (D : Dat) (ls : Int → Int) : Prop := ∀ v, 0 ≤ v → v < nn D → ls v ≠ -1
/-- the run from a cycle with what is listed to the end, in so many choices and cycles -/
def LR (D : Dat) (la : Int → Int) : Nat → Int → (Int → Int) → (Int → Int) → Prop
  | 0, _, ls, fin => allL D ls ∧ ∀ v, 0 ≤ v → v < nn D → fin v = ls v
  | n + 1, c, ls, fin => (∃ k, chosen D la c ls k ∧ LR D la n c (iup ls k c) fin) ∨ (¬ allL D ls ∧ (∀ k, ¬ ready D c ls k) ∧ LR D la n (c + 1) ls fin)
theorem chosen_uniq {D : Dat} {la : Int → Int} {c : Int} {ls : Int → Int} {k j : Int} (h : chosen D la c ls k) (g : chosen D la c ls j) : k = j := by
  have h1 := h.2 j g.1
  have g1 := g.2 k h.1
  omega
theorem LR_uniq {D : Dat} {la : Int → Int} : ∀ (n m : Nat) (c : Int) (ls fin fin' : Int → Int), LR D la n c ls fin → LR D la m c ls fin' → ∀ v, 0 ≤ v → v < nn D → fin v = fin' v := by
  intro n
  induction n with
  | zero =>
    intro m c ls fin fin' h g v a b
    obtain ⟨h1, h2⟩ := h
    cases m with
    | zero => rw [h2 v a b, g.2 v a b]
    | succ m =>
      rcases g with ⟨k, g1, g2⟩ | ⟨g1, _⟩
      · exact absurd g1.1.2.2.1 (h1 k g1.1.1 g1.1.2.1)
      · exact absurd h1 g1
  | succ n ih =>
    intro m c ls fin fin' h g v a b
    rcases h with ⟨k, h1, h2⟩ | ⟨h1, h2, h3⟩
    · cases m with
      | zero => exact absurd h1.1.2.2.1 (g.1 k h1.1.1 h1.1.2.1)
      | succ m =>
        rcases g with ⟨j, g1, g2⟩ | ⟨_, g1, _⟩
        · have := chosen_uniq h1 g1
          subst this
          exact ih m c _ fin fin' h2 g2 v a b
        · exact absurd h1.1 (g1 k)
    · cases m with
      | zero => exact absurd g.1 h1
      | succ m =>
        rcases g with ⟨j, g1, g2⟩ | ⟨_, _, g3⟩
        · exact absurd g1.1 (h2 j)
        · exact ih m (c + 1) ls fin fin' h3 g3 v a b
/-- what holds on the way: listed steps stand ahead, and every cycle until now has a node that runs -/
def JL (D : Dat) (c : Int) (ls : Int → Int) : Prop := 0 ≤ c ∧ (∀ v, 0 ≤ v → v < nn D → ls v = -1 ∨ (0 ≤ ls v ∧ ls v ≤ c)) ∧ ∀ d, 0 ≤ d → d < c → ∃ v, 0 ≤ v ∧ v < nn D ∧ ls v ≠ -1 ∧ ls v ≤ d ∧ d < ls v + cyv D v
def unitsL (D : Dat) : Nat → List (Int × Int)
  | 0 => []
  | n + 1 => unitsL D n ++ (List.range (cyv D n).toNat).map (fun (o : Nat) => ((n : Int), (o : Int)))
theorem unitsL_len {D : Dat} (ok : DOk D) : ∀ n : Nat, (n : Int) ≤ nn D → ((unitsL D n).length : Int) = sumC D n := by
  intro n
  induction n with
  | zero => intro _; rfl
  | succ n ih =>
    intro h
    have := ih (by omega)
    have c := cyv_r ok (v := (n : Int)) ⟨by omega, by omega⟩
    rw [show ((n + 1 : Nat) : Int) = (n : Int) + 1 by omega, sumC_s (by omega), ← this]
    simp [unitsL]
    omega
theorem unitsL_mem {D : Dat} {v o : Int} (h0 : 0 ≤ v) (ho : 0 ≤ o ∧ o < cyv D v) : ∀ n : Nat, v < n → (v, o) ∈ unitsL D n := by
  intro n
  induction n with
  | zero => intro h; omega
  | succ n ih =>
    intro h
    by_cases e : v = n
    · refine List.mem_append_right _ (List.mem_map.2 ⟨o.toNat, List.mem_range.2 ?_, ?_⟩)
      · rw [← e]; omega
      · rw [e, show ((o.toNat : Nat) : Int) = o by omega]
    · exact List.mem_append_left _ (ih (by omega))
/-- cycles that are all covered by running nodes are no more than the cycles of all nodes -/
theorem cover_le {D : Dat} (ok : DOk D) {c : Int} {ls : Int → Int} (h : ∀ d, 0 ≤ d → d < c → ∃ v, 0 ≤ v ∧ v < nn D ∧ ls v ≤ d ∧ d < ls v + cyv D v) : c ≤ sumC D (nn D) := by
  have hn := nn_le ok
  have sb := sumC_b ok hn.1 (Int.le_refl _)
  have := pig (fun (m : Int × Int) (d : Nat) => (d : Int) = ls m.1 + m.2) (fun m x y a b => by omega) (List.range c.toNat) (unitsL D (nn D).toNat) List.nodup_range (fun d hd => by
    have := List.mem_range.1 hd
    obtain ⟨v, a, b, e, f⟩ := h d (by omega) (by omega)
    exact ⟨(v, (d : Int) - ls v), unitsL_mem a ⟨by omega, by omega⟩ _ (by omega), by dsimp only; omega⟩)
  have hl := unitsL_len ok (nn D).toNat (by omega)
  rw [show (((nn D).toNat : Nat) : Int) = nn D by omega] at hl
  simp at this
  omega
theorem JL_c {D : Dat} (ok : DOk D) {c : Int} {ls : Int → Int} (h : JL D c ls) : c ≤ 480 := by
  have hn := nn_le ok
  have sb := sumC_b ok hn.1 (Int.le_refl _)
  have := cover_le ok (c := c) (ls := ls) (fun d a b => by
    obtain ⟨v, h1, h2, _, h3, h4⟩ := h.2.2 d a b
    exact ⟨v, h1, h2, h3, h4⟩)
  omega
theorem JL_pick {D : Dat} {c k : Int} {ls : Int → Int} (h : JL D c ls) (hk : ready D c ls k) : JL D c (iup ls k c) := by
  obtain ⟨h0, h1, h2⟩ := h
  have hne : ∀ v, v ≠ k → iup ls k c v = ls v := fun v e => by unfold iup; rw [if_neg e]
  have hek : iup ls k c k = c := by unfold iup; rw [if_pos rfl]
  refine ⟨h0, fun v a b => ?_, fun d a b => ?_⟩
  · by_cases e : v = k
    · rw [e, hek]; exact .inr ⟨h0, Int.le_refl _⟩
    · rw [hne v e]; exact h1 v a b
  · obtain ⟨v, v0, v1, v2, v3, v4⟩ := h2 d a b
    have e : v ≠ k := fun z => v2 (by rw [z]; exact hk.2.2.1)
    exact ⟨v, v0, v1, by rw [hne v e]; exact v2, by rw [hne v e]; exact v3, by rw [hne v e]; exact v4⟩
/-- the least node that is not listed -/
theorem least_un {D : Dat} {ls : Int → Int} (h : ¬ allL D ls) : ∃ u, 0 ≤ u ∧ u < nn D ∧ ls u = -1 ∧ ∀ v, 0 ≤ v → v < u → ls v ≠ -1 := by
  have key : ∀ n : Nat, (n : Int) ≤ nn D → (∀ v, 0 ≤ v → v < (n : Int) → ls v ≠ -1) ∨ ∃ u, 0 ≤ u ∧ u < nn D ∧ ls u = -1 ∧ ∀ v, 0 ≤ v → v < u → ls v ≠ -1 := by
    intro n
    induction n with
    | zero => intro _; exact .inl (fun v a b => by omega)
    | succ n ih =>
      intro hn
      rcases ih (by omega) with q | q
      · by_cases e : ls n = -1
        · exact .inr ⟨n, by omega, by omega, e, q⟩
        · refine .inl (fun v a b => ?_)
          by_cases z : v = n
          · rw [z]; exact e
          · exact q v a (by omega)
      · exact .inr q
  have h0 : 0 ≤ nn D := by unfold nn; omega
  rcases key (nn D).toNat (by omega) with q | q
  · exact absurd (fun v a b => q v a (by omega)) h
  · exact q
theorem JL_next {D : Dat} (ok : DOk D) {c : Int} {ls : Int → Int} (h : JL D c ls) (ha : ¬ allL D ls) (hr : ∀ k, ¬ ready D c ls k) : JL D (c + 1) ls := by
  obtain ⟨h0, h1, h2⟩ := h
  refine ⟨by omega, fun v a b => (h1 v a b).imp id (fun z => ⟨z.1, by omega⟩), fun d a b => ?_⟩
  by_cases e : d = c
  · subst e
    -- otherwise the least node that is not listed could begin
    refine Classical.byContradiction (fun hno => ?_)
    have idle : ∀ v, 0 ≤ v → v < nn D → ls v ≠ -1 → ls v + cyv D v ≤ d := by
      intro v a b e
      have := h1 v a b
      rcases Int.lt_or_le d (ls v + cyv D v) with q | q
      · exact absurd ⟨v, a, b, e, by omega, q⟩ hno
      · exact q
    obtain ⟨u, u0, u1, u2, u3⟩ := least_un ha
    refine hr u ⟨u0, u1, u2, fun f w he => ?_, ?_⟩
    · have hp := ed_props ok he
      have hf := u3 f hp.1.1 (hp.2.2.2.2.1 rfl)
      have := idle f hp.1.1 hp.1.2 hf
      exact ⟨hf, by omega⟩
    · have hk := kdv_r ok ⟨u0, u1⟩
      have hu := ok.un _ hk.1 hk.2
      have hn := nn_le ok
      have : cntL D ls (kdv D u) d = 0 := by
        unfold cntL
        refine cntN_zero _ (fun v a b e => ?_)
        have cv := cyv_r ok (v := v) ⟨a, by omega⟩
        have := idle v a (by omega) (by omega)
        omega
      omega
  · exact h2 d a (by omega)

/-- the predecessors of a node, those of which something holds, as many as a number says -/
def PrL (D : Dat) (v : Int) (P : Int → Prop) (n : Int) : Prop := ∃ L : List Int, L.Nodup ∧ (∀ f, f ∈ L ↔ (∃ w, Ed D f v 0 w) ∧ P f) ∧ n = L.length
theorem PrL.le {D : Dat} (ok : DOk D) {v n : Int} {P : Int → Prop} (h : PrL D v P n) : 0 ≤ n ∧ n ≤ 96 := by
  obtain ⟨L, h1, h2, rfl⟩ := h
  have hn := nn_le ok
  have := pig (fun (m x : Int) => m = x) (fun m x y a b => by omega) L ((List.range 96).map (fun (k : Nat) => (k : Int))) h1 (fun x hx => by
    obtain ⟨⟨w, hw⟩, _⟩ := (h2 x).1 hx
    have := (ed_props ok hw).1
    exact ⟨x, List.mem_map.2 ⟨x.toNat, List.mem_range.2 (by omega), by omega⟩, rfl⟩)
  simp at this
  omega
theorem PrL.iff {D : Dat} {v n : Int} {P P' : Int → Prop} (h : PrL D v P n) (e : ∀ f, (∃ w, Ed D f v 0 w) → (P f ↔ P' f)) : PrL D v P' n := by
  obtain ⟨L, h1, h2, h3⟩ := h
  exact ⟨L, h1, fun f => by rw [h2]; exact ⟨fun z => ⟨z.1, (e f z.1).1 z.2⟩, fun z => ⟨z.1, (e f z.1).2 z.2⟩⟩, h3⟩
theorem PrL.add {D : Dat} {v n x : Int} {P : Int → Prop} (h : PrL D v P n) (hx : ∃ w, Ed D x v 0 w) (hp : ¬ P x) : PrL D v (fun f => P f ∨ f = x) (n + 1) := by
  obtain ⟨L, h1, h2, h3⟩ := h
  refine ⟨x :: L, List.nodup_cons.2 ⟨fun z => hp ((h2 x).1 z).2, h1⟩, fun f => ?_, by rw [h3]; simp⟩
  rw [List.mem_cons, h2]
  constructor
  · rintro (rfl | z)
    · exact ⟨hx, .inr rfl⟩
    · exact ⟨z.1, .inl z.2⟩
  · rintro ⟨z, z2 | rfl⟩
    · exact .inr ⟨z, z2⟩
    · exact .inl rfl
theorem PrL.rem {D : Dat} {v n x : Int} {P : Int → Prop} (h : PrL D v P n) (hx : ∃ w, Ed D x v 0 w) (hp : P x) : PrL D v (fun f => P f ∧ f ≠ x) (n - 1) := by
  obtain ⟨L, h1, h2, h3⟩ := h
  have hm := (h2 x).2 ⟨hx, hp⟩
  refine ⟨L.erase x, h1.erase x, fun f => ?_, ?_⟩
  · rw [h1.mem_erase_iff, h2]
    exact ⟨fun z => ⟨z.2.1, z.2.2, z.1⟩, fun z => ⟨z.2.2, z.1, z.2.1⟩⟩
  · have := List.length_erase_of_mem hm
    have := List.length_pos_of_mem hm
    rw [h3]; omega
theorem PrL.zero {D : Dat} {v : Int} {P : Int → Prop} (h : PrL D v P 0) : ∀ f w, Ed D f v 0 w → ¬ P f := by
  obtain ⟨L, h1, h2, h3⟩ := h
  have : L = [] := List.eq_nil_of_length_eq_zero (by omega)
  subst this
  intro f w hw hp
  have := (h2 f).2 ⟨⟨w, hw⟩, hp⟩
  cases this
theorem PrL.pos {D : Dat} {v n : Int} {P : Int → Prop} (h : PrL D v P n) (hn : n ≠ 0) : ∃ f, (∃ w, Ed D f v 0 w) ∧ P f := by
  obtain ⟨L, h1, h2, h3⟩ := h
  cases L with
  | nil => exact absurd h3 hn
  | cons x L => exact ⟨x, (h2 x).1 List.mem_cons_self⟩
def CL (D : Dat) (ls : Int → Int) (m : MI) : Prop := (∀ v, 0 ≤ v → v < nn D → m 464 v = ls v) ∧ (∀ v, 0 ≤ v → v < nn D → PrL D v (fun f => ls f = -1) (m 466 v)) ∧ (∀ v, 0 ≤ v → v < nn D → 0 ≤ m 465 v ∧ (∀ f w, Ed D f v 0 w → ls f ≠ -1 → ls f + w ≤ m 465 v) ∧ (m 465 v = 0 ∨ ∃ f w, Ed D f v 0 w ∧ ls f ≠ -1 ∧ m 465 v = ls f + w))
theorem CL.l {D : Dat} {ls : Int → Int} {m : MI} (h0 : CL D ls m) : ∀ v, 0 ≤ v → v < nn D → m 464 v = ls v := h0.1
theorem CL.u {D : Dat} {ls : Int → Int} {m : MI} (h0 : CL D ls m) : ∀ v, 0 ≤ v → v < nn D → PrL D v (fun f => ls f = -1) (m 466 v) := h0.2.1
theorem CL.e {D : Dat} {ls : Int → Int} {m : MI} (h0 : CL D ls m) : ∀ v, 0 ≤ v → v < nn D → 0 ≤ m 465 v ∧ (∀ f w, Ed D f v 0 w → ls f ≠ -1 → ls f + w ≤ m 465 v) ∧ (m 465 v = 0 ∨ ∃ f w, Ed D f v 0 w ∧ ls f ≠ -1 ∧ m 465 v = ls f + w) := h0.2.2
theorem CL.mk {D : Dat} {ls : Int → Int} {m : MI} (h0 : ∀ v, 0 ≤ v → v < nn D → m 464 v = ls v) (h1 : ∀ v, 0 ≤ v → v < nn D → PrL D v (fun f => ls f = -1) (m 466 v)) (h2 : ∀ v, 0 ≤ v → v < nn D → 0 ≤ m 465 v ∧ (∀ f w, Ed D f v 0 w → ls f ≠ -1 → ls f + w ≤ m 465 v) ∧ (m 465 v = 0 ∨ ∃ f w, Ed D f v 0 w ∧ ls f ≠ -1 ∧ m 465 v = ls f + w)) : CL D ls m := ⟨h0, h1, h2⟩
theorem CL.ready {D : Dat} {ls : Int → Int} {m : MI} {c : Int} (h : CL D ls m) (h0 : 0 ≤ c) {k : Int} (hk : 0 ≤ k ∧ k < nn D) : ready D c ls k ↔ m 464 k = -1 ∧ m 466 k = 0 ∧ m 465 k ≤ c ∧ cntL D ls (kdv D k) c < D.un (kdv D k) := by
  obtain ⟨e1, e2, e3⟩ := h.e k hk.1 hk.2
  have hu := h.u k hk.1 hk.2
  rw [h.l k hk.1 hk.2]
  constructor
  · rintro ⟨_, _, a, b, d⟩
    refine ⟨a, Classical.byContradiction (fun z => ?_), ?_, d⟩
    · obtain ⟨f, ⟨w, hw⟩, hf⟩ := hu.pos z
      exact (b f w hw).1 hf
    · rcases e3 with z | ⟨f, w, z1, z2, z3⟩
      · omega
      · have := (b f w z1).2; omega
  · rintro ⟨a, b, c', d⟩
    rw [b] at hu
    refine ⟨hk.1, hk.2, a, fun f w hw => ?_, d⟩
    have nf := hu.zero f w hw
    have := e2 f w hw nf
    exact ⟨nf, by omega⟩
theorem choose_w {D : Dat} (ok : DOk D) {i r : MI} {ls : Int → Int} {c : Int} {Q : Int → Prop} (h : NV D i) (hu : ∀ k, 0 ≤ k → k < 7 → i 69 k = D.un k) (cl : CL D ls i) (h0 : 0 ≤ c) (hb : ∀ k, 0 ≤ k → k < 7 → i 467 k = cntL D ls k c)
    (h1 : ∀ k, chosen D (i 463) c ls k → Q k) (hn1 : (∀ k, ¬ ready D c ls k) → Q (-1)) : wp_X9_chooseFor c i r Q := by
  have hn := nn_le ok
  unfold wp_X9_chooseFor
  refine Lp.r2 (fun (b x : Int) => 0 ≤ x ∧ x ≤ nn D ∧ ((b = -1 ∧ ∀ k, k < x → ¬ ready D c ls k) ∨ (b < x ∧ ready D c ls b ∧ ∀ k, k < x → ready D c ls k → i 463 b < i 463 k ∨ (i 463 b = i 463 k ∧ b ≤ k)))) (fun _ x => (nn D - x).toNat) ?_ ⟨by decide, hn.1, .inl ⟨rfl, fun k a z => by have := z.1; omega⟩⟩
  intro b x C ⟨g0, g1, g2⟩ hC
  dsimp only [b5_X9_chooseFor]
  rw [h.n]
  refine ⟨fun q => ?_, fun q => ⟨by omega, by omega, ?_⟩⟩
  · rcases g2 with ⟨rfl, z⟩ | ⟨z1, z2, z3⟩
    · exact hn1 (fun k w => z k (by have := w.2.1; omega) w)
    · exact h1 b ⟨z2, fun k w => z3 k (by have := w.2.1; omega) w⟩
  · have hx : 0 ≤ x ∧ x < nn D := ⟨g0, by omega⟩
    have hk := kdv_r ok hx
    have hr := cl.ready h0 hx
    have w1 : wr (x + 1) = x + 1 := wr_of (by omega) (by omega)
    unfold s96_X9_chooseFor s99_X9_chooseFor
    rw [w1, h.kd hx, hu _ hk.1 hk.2, hb _ hk.1 hk.2]
    have skip : ¬ ready D c ls x → C (b, x + 1) := by
      intro nr
      refine hC _ _ ⟨by omega, by omega, ?_⟩ (by omega)
      rcases g2 with ⟨z1, z⟩ | ⟨z1, z2, z3⟩
      · refine .inl ⟨z1, fun k a => ?_⟩
        by_cases e : k = x
        · rw [e]; exact nr
        · exact z k (by omega)
      · refine .inr ⟨by omega, z2, fun k a w => ?_⟩
        by_cases e : k = x
        · rw [e] at w; exact absurd w nr
        · exact z3 k (by omega) w
    refine ⟨fun e1 => ⟨by omega, fun e2 => ⟨by omega, fun e3 => skip (fun z => by have := (hr.1 z).2.2.1; omega), fun e3 => ⟨by omega, by omega, fun e4 => skip (fun z => by have := (hr.1 z).2.2.2; omega), fun e4 => ?_⟩⟩, fun e2 => skip (fun z => e2 (hr.1 z).2.1)⟩, fun e1 => skip (fun z => e1 (hr.1 z).1)⟩
    have rx : ready D c ls x := hr.2 ⟨e1, e2, by omega, by omega⟩
    refine ⟨fun eb => ?_, fun eb => ?_⟩
    · rcases g2 with ⟨z1, z⟩ | ⟨z1, z2, z3⟩
      · refine hC _ _ ⟨by omega, by omega, .inr ⟨by omega, rx, fun k a w => ?_⟩⟩ (by omega)
        by_cases e : k = x
        · rw [e]; exact .inr ⟨rfl, Int.le_refl _⟩
        · exact absurd w (z k (by omega))
      · have := z2.1; omega
    · rcases g2 with ⟨z1, z⟩ | ⟨z1, z2, z3⟩
      · exact absurd z1 eb
      · refine ⟨by omega, by have := z2.1; have := z2.2.1; omega, fun el => hC _ _ ⟨by omega, by omega, .inr ⟨by omega, z2, fun k a w => ?_⟩⟩ (by omega), fun el => hC _ _ ⟨by omega, by omega, .inr ⟨by omega, rx, fun k a w => ?_⟩⟩ (by omega)⟩
        · by_cases e : k = x
          · rw [e]; omega
          · exact z3 k (by omega) w
        · by_cases e : k = x
          · rw [e]; exact .inr ⟨rfl, Int.le_refl _⟩
          · have := z3 k (by omega) w; omega
theorem beginAt_w {D : Dat} (ok : DOk D) {i r : MI} {ls : Int → Int} {c x : Int} {Q : MI → Prop} (h : NV D i) (g : M2 D i) (cl : CL D ls i) (hc : 0 ≤ c ∧ c ≤ 480) (hb : ∀ k, 0 ≤ k → k < 7 → i 467 k = cntL D ls k c) (hx : ready D c ls x)
    (hQ : ∀ i', FO i i' → i' 462 = i 462 → i' 463 = i 463 → CL D (iup ls x c) i' → (∀ k, 0 ≤ k → k < 7 → i' 467 k = cntL D (iup ls x c) k c) → Q i') : wp_X9_beginAt x c i r Q := by
  have hn := nn_le ok
  obtain ⟨x0, x1, x2, x3, x4⟩ := hx
  have hk := kdv_r ok ⟨x0, x1⟩
  have xc : iup ls x c x = c := by unfold iup; rw [if_pos rfl]
  have xn : ∀ f, f ≠ x → iup ls x c f = ls f := fun f e => by unfold iup; rw [if_neg e]
  have cb : 0 ≤ cntL D ls (kdv D x) c ∧ cntL D ls (kdv D x) c ≤ 96 := by
    have := cntN_b (D := D) (ls := ls) (k := kdv D x) (c := c) (nn D).toNat
    unfold cntL; omega
  unfold wp_X9_beginAt
  have k3 : st i 464 x c (72 + x) 3 = kdv D x := by rw [st_row (by omega)]; exact h.kd ⟨x0, x1⟩
  rw [k3, st_row (a := 467) (by omega), hb _ hk.1 hk.2, wr_of (x := _ + 1) (by omega) (by omega)]
  refine ⟨by omega, by omega, hk, hk, ?_⟩
  have gz := g.z x x0 (by omega)
  have sE : ∀ v w, Ed D x v 0 w → ∃ e, 0 ≤ e ∧ e < i 460 x ∧ i (170 + x) e = v ∧ i (267 + x) e = 0 ∧ i (364 + x) e = w := fun v w z => GrC.fd ok g z
  refine Lp.r2 (fun (y : Int) (m : MI) => 0 ≤ y ∧ y ≤ i 460 x ∧ FO i m ∧ m 462 = i 462 ∧ m 463 = i 463 ∧ (∀ v, 0 ≤ v → v < nn D → m 464 v = iup ls x c v) ∧ (∀ k, 0 ≤ k → k < 7 → m 467 k = cntL D (iup ls x c) k c) ∧
    (∀ v, 0 ≤ v → v < nn D → PrL D v (fun f => ls f = -1 ∧ (f = x → ¬ ∃ e, 0 ≤ e ∧ e < y ∧ i (170 + x) e = v ∧ i (267 + x) e = 0)) (m 466 v)) ∧
    (∀ v, 0 ≤ v → v < nn D → 0 ≤ m 465 v ∧ (∀ f w, Ed D f v 0 w → (ls f ≠ -1 ∨ (f = x ∧ ∃ e, 0 ≤ e ∧ e < y ∧ i (170 + x) e = v ∧ i (267 + x) e = 0)) → iup ls x c f + w ≤ m 465 v) ∧ (m 465 v = 0 ∨ ∃ f w, Ed D f v 0 w ∧ (ls f ≠ -1 ∨ (f = x ∧ ∃ e, 0 ≤ e ∧ e < y ∧ i (170 + x) e = v ∧ i (267 + x) e = 0)) ∧ m 465 v = iup ls x c f + w))) (fun y _ => (100 - y).toNat) ?_ ⟨by decide, gz.1, (FO.st (by decide)).trans (FO.st (by decide)), by simp (disch := omega) only [st_row], by simp (disch := omega) only [st_row], fun v a b => ?_, fun k a b => ?_, fun v a b => ?_, fun v a b => ?_⟩
  · intro y m C ⟨j0, j1, j2, j3, jl, j4, j5, j6, j7⟩ hC
    dsimp only [b29_X9_beginAt, s103_X9_beginAt]
    have r460 : m 460 = i 460 := j2 _ (by omega)
    have r170 : m (170 + x) = i (170 + x) := j2 _ (by omega)
    have r267 : m (267 + x) = i (267 + x) := j2 _ (by omega)
    have r364 : m (364 + x) = i (364 + x) := j2 _ (by omega)
    rw [r460, r170, r267]
    refine ⟨by omega, fun q => ?_, fun q => ⟨by omega, by omega, ?_⟩⟩
    · have ey : y = i 460 x := by omega
      refine hQ m j2 j3 jl ⟨j4, fun v a b => (j6 v a b).iff (fun f hf => ?_), fun v a b => ?_⟩ j5
      · constructor
        · rintro ⟨z1, z2⟩
          by_cases e : f = x
          · subst e
            obtain ⟨w, hw⟩ := hf
            obtain ⟨e, e0, e1, e2, e3, _⟩ := sE v w hw
            exact absurd ⟨e, e0, by omega, e2, e3⟩ (z2 rfl)
          · rw [xn f e]; exact z1
        · intro z
          by_cases e : f = x
          · rw [e, xc] at z; omega
          · rw [xn f e] at z; exact ⟨z, fun w => absurd w e⟩
      · obtain ⟨a1, a2, a3⟩ := j7 v a b
        have eqv : ∀ f w, Ed D f v 0 w → ((ls f ≠ -1 ∨ (f = x ∧ ∃ e, 0 ≤ e ∧ e < y ∧ i (170 + x) e = v ∧ i (267 + x) e = 0)) ↔ iup ls x c f ≠ -1) := by
          intro f w hw
          by_cases e : f = x
          · subst e
            obtain ⟨e, e0, e1, e2, e3, _⟩ := sE v w hw
            rw [xc]
            exact ⟨fun _ => by omega, fun _ => .inr ⟨rfl, e, e0, by omega, e2, e3⟩⟩
          · rw [xn f e]
            exact ⟨fun z => z.elim id (fun z => absurd z.1 e), .inl⟩
        refine ⟨a1, fun f w hw z => a2 f w hw ((eqv f w hw).2 z), a3.imp id (fun ⟨f, w, z1, z2, z3⟩ => ⟨f, w, z1, (eqv f w z1).1 z2, z3⟩)⟩
    · have hE := GrC.ed ok g ⟨x0, x1⟩ ⟨j0, by omega⟩
      rw [wr_of (x := y + 1) (by omega) (by omega)]
      refine ⟨fun e0 => ?_, fun e0 => ?_⟩
      · rw [e0] at hE
        obtain ⟨_, ht, _, _, hlt, hw1, hw2⟩ := ed_props ok hE
        have hlt := hlt rfl
        have cx := cyv_r ok ⟨x0, x1⟩
        generalize htd : i (170 + x) y = t at *
        have r36 : st m 466 t (wr (m 466 t - 1)) (364 + x) y = i (364 + x) y := by rw [st_row (by omega), r364]
        have hp6 := (j6 t ht.1 ht.2).le ok
        rw [r36, st_row (a := 465) (by omega), wr_of (x := m 466 t - 1) (by omega) (by omega), wr_of (x := c + i (364 + x) y) (by omega) (by omega)]
        have old : ¬ ∃ e, 0 ≤ e ∧ e < y ∧ i (170 + x) e = t ∧ i (267 + x) e = 0 := by
          rintro ⟨e, e1, e2, e3, e4⟩
          have := g.u x e y x0 (by omega) e1 (by omega) j0 (by omega) (by rw [e3, htd]) (by rw [e4, e0])
          omega
        have done1 : ∀ v, v ≠ t → ((∃ e, 0 ≤ e ∧ e < y + 1 ∧ i (170 + x) e = v ∧ i (267 + x) e = 0) ↔ ∃ e, 0 ≤ e ∧ e < y ∧ i (170 + x) e = v ∧ i (267 + x) e = 0) := by
          intro v hv
          constructor
          · rintro ⟨e, e1, e2, e3, e4⟩
            by_cases ee : e = y
            · rw [ee, htd] at e3; exact absurd e3.symm hv
            · exact ⟨e, e1, by omega, e3, e4⟩
          · rintro ⟨e, e1, e2, e3, e4⟩
            exact ⟨e, e1, by omega, e3, e4⟩
        have done2 : ∃ e, 0 ≤ e ∧ e < y + 1 ∧ i (170 + x) e = t ∧ i (267 + x) e = 0 := ⟨y, j0, by omega, htd, e0⟩
        refine ⟨by omega, by omega, by omega, by omega, by omega, by omega, by omega, by omega, ?_⟩
        refine hC _ _ ⟨by omega, by omega, j2.trans ((FO.st (by decide)).trans (FO.st (by decide))), by simp (disch := omega) only [st_row]; exact j3, by simp (disch := omega) only [st_row]; exact jl, fun v a b => by simp (disch := omega) only [st_row]; exact j4 v a b, fun k a b => by simp (disch := omega) only [st_row]; exact j5 k a b, fun v a b => ?_, fun v a b => ?_⟩ (by omega)
        · rw [st_row (by decide)]
          by_cases ev : v = t
          · subst ev
            rw [st_eq]
            refine ((j6 v a b).rem ⟨_, hE⟩ ⟨x2, fun _ => old⟩).iff (fun f hf => ?_)
            constructor
            · rintro ⟨⟨z1, z2⟩, z3⟩; exact ⟨z1, fun w => absurd w z3⟩
            · rintro ⟨z1, z2⟩
              exact ⟨⟨z1, fun w => by have := z2 w; exact absurd done2 this⟩, fun w => z2 w done2⟩
          · rw [st_ne (by omega)]
            exact (j6 v a b).iff (fun f hf => by rw [done1 v ev])
        · obtain ⟨a1, a2, a3⟩ := j7 v a b
          by_cases ev : v = t
          · subst ev
            rw [st_eq]
            refine ⟨by clear a3; omega, fun f w hw z => ?_, ?_⟩
            · rcases z with z | ⟨rfl, _⟩
              · have := a2 f w hw (.inl z); clear a3; omega
              · have := Mx_uniq hw hE
                rw [xc, this]; clear a3; omega
            · rcases Int.le_total (m 465 v) (c + i (364 + x) y) with z | z
              · exact .inr ⟨x, _, hE, .inr ⟨rfl, done2⟩, by rw [xc, Int.max_eq_right z]⟩
              · rw [Int.max_eq_left z]
                refine a3.imp id (fun ⟨f, w, z1, z2, z3⟩ => ⟨f, w, z1, z2.imp id (fun z => absurd z.2 old), z3⟩)
          · rw [st_ne (by omega), st_row (by decide)]
            refine ⟨a1, fun f w hw z => a2 f w hw (z.imp id (fun z => ⟨z.1, (done1 v ev).1 z.2⟩)), a3.imp id (fun ⟨f, w, z1, z2, z3⟩ => ⟨f, w, z1, z2.imp id (fun z => ⟨z.1, (done1 v ev).2 z.2⟩), z3⟩)⟩
      · have done1 : ∀ v, ((∃ e, 0 ≤ e ∧ e < y + 1 ∧ i (170 + x) e = v ∧ i (267 + x) e = 0) ↔ ∃ e, 0 ≤ e ∧ e < y ∧ i (170 + x) e = v ∧ i (267 + x) e = 0) := by
          intro v
          constructor
          · rintro ⟨e, e1, e2, e3, e4⟩
            by_cases ee : e = y
            · rw [ee] at e4; exact absurd e4 e0
            · exact ⟨e, e1, by omega, e3, e4⟩
          · rintro ⟨e, e1, e2, e3, e4⟩
            exact ⟨e, e1, by omega, e3, e4⟩
        refine hC _ _ ⟨by omega, by omega, j2, j3, jl, j4, j5, fun v a b => (j6 v a b).iff (fun f hf => by rw [done1 v]), fun v a b => ?_⟩ (by omega)
        obtain ⟨a1, a2, a3⟩ := j7 v a b
        exact ⟨a1, fun f w hw z => a2 f w hw (z.imp id (fun z => ⟨z.1, (done1 v).1 z.2⟩)), a3.imp id (fun ⟨f, w, z1, z2, z3⟩ => ⟨f, w, z1, z2.imp id (fun z => ⟨z.1, (done1 v).2 z.2⟩), z3⟩)⟩
  · rw [st_row (by decide)]
    by_cases e : v = x
    · rw [e, st_eq, xc]
    · rw [st_ne (by omega), xn v e]; exact cl.l v a b
  · have hup := cntN_up (D := D) (ls := ls) (k := k) (c := c) (x := x) (by omega) (nn D).toNat x0
    have e1 : cntL D (iup ls x c) k c = cntL D ls k c + if x < (((nn D).toNat : Nat) : Int) ∧ kdv D x = k then 1 else 0 := hup
    rw [e1]
    by_cases e : k = kdv D x
    · rw [e, st_eq, if_pos ⟨by omega, rfl⟩]
    · rw [st_ne (by omega), st_row (by decide), if_neg (fun z => e z.2.symm), hb k a b]; omega
  · rw [st_row (by decide), st_row (by decide)]
    refine (cl.u v a b).iff (fun f hf => ⟨fun z => ⟨z, fun _ w => by obtain ⟨e, e1, e2, _⟩ := w; omega⟩, fun z => z.1⟩)
  · rw [st_row (by decide), st_row (by decide)]
    obtain ⟨a1, a2, a3⟩ := cl.e v a b
    refine ⟨a1, fun f w hw z => ?_, a3.imp id (fun ⟨f, w, z1, z2, z3⟩ => ⟨f, w, z1, .inl z2, ?_⟩)⟩
    · rcases z with z | ⟨_, e, e1, e2, _⟩
      · rw [xn f (fun w => z (by rw [w]; exact x2))]; exact a2 f w hw z
      · omega
    · rw [xn f (fun w => z2 (by rw [w]; exact x2))]; exact z3

def lsN (ls : Int → Int) : Nat → Int
  | 0 => 0
  | n + 1 => lsN ls n + if ls n = -1 then 0 else 1
def lsC (D : Dat) (ls : Int → Int) : Int := lsN ls (nn D).toNat
theorem lsN_up {ls : Int → Int} {x c : Int} (hx : ls x = -1) (hc : c ≠ -1) : ∀ n : Nat, 0 ≤ x → lsN (iup ls x c) n = lsN ls n + if x < n then 1 else 0 := by
  intro n
  induction n with
  | zero => intro h; rw [if_neg (by omega)]; rfl
  | succ n ih =>
    intro h
    show lsN (iup ls x c) n + _ = lsN ls n + _ + _
    rw [ih h]
    by_cases e : (n : Int) = x
    · have e1 : iup ls x c n = c := by unfold iup; rw [if_pos e]
      rw [e1, if_neg hc, if_neg (show ¬ x < (n : Int) by omega), if_pos (show ls n = -1 by rw [e]; exact hx), if_pos (show x < ((n + 1 : Nat) : Int) by omega)] <;> omega
    · have e1 : iup ls x c n = ls n := by unfold iup; rw [if_neg e]
      rw [e1]
      by_cases q : x < (n : Int)
      · rw [if_pos q, if_pos (show x < ((n + 1 : Nat) : Int) by omega)]; omega
      · rw [if_neg q, if_neg (show ¬ x < ((n + 1 : Nat) : Int) by omega)]; omega
theorem lsN_b {ls : Int → Int} : ∀ n : Nat, 0 ≤ lsN ls n ∧ lsN ls n ≤ n ∧ (lsN ls n = n ↔ ∀ v, 0 ≤ v → v < (n : Int) → ls v ≠ -1) := by
  intro n
  induction n with
  | zero => exact ⟨Int.le_refl 0, Int.le_refl 0, fun _ v a b => by omega, fun _ => rfl⟩
  | succ n ih =>
    obtain ⟨h1, h2, h3⟩ := ih
    have es : lsN ls (n + 1) = lsN ls n + if ls n = -1 then 0 else 1 := rfl
    rw [es]
    by_cases e : ls n = -1
    · rw [if_pos e]
      exact ⟨by omega, by omega, fun z => by omega, fun z => absurd e (z n (by omega) (by omega))⟩
    · rw [if_neg e]
      refine ⟨by omega, by omega, fun z v a b => ?_, fun z => ?_⟩
      · by_cases q : v = n
        · rw [q]; exact e
        · exact h3.1 (by omega) v a (by omega)
      · have := h3.2 (fun v a b => z v a (by omega)); omega
theorem lsC_all {D : Dat} (ok : DOk D) {ls : Int → Int} : 0 ≤ lsC D ls ∧ lsC D ls ≤ nn D ∧ (lsC D ls = nn D ↔ allL D ls) := by
  have hn := nn_le ok
  have := lsN_b (ls := ls) (nn D).toNat
  unfold lsC allL
  rw [show (((nn D).toNat : Nat) : Int) = nn D by omega] at this
  exact this
theorem lsC_up {D : Dat} (ok : DOk D) {ls : Int → Int} {x c : Int} (hx : 0 ≤ x ∧ x < nn D) (e : ls x = -1) (hc : 0 ≤ c) : lsC D (iup ls x c) = lsC D ls + 1 := by
  have := lsN_up (ls := ls) (x := x) (c := c) e (by omega) (nn D).toNat hx.1
  rw [if_pos (by omega)] at this
  exact this
def L00 : Int → Int := fun _ => -1
/-- the steps by lists: what the run from the start comes to -/
def IsList (D : Dat) (la fin : Int → Int) : Prop := (∃ n, LR D la n 0 L00 fin) ∧ allL D fin ∧ ∃ c, JL D c fin
theorem LR_fin {D : Dat} {la : Int → Int} : ∀ (n : Nat) (c : Int) (ls fin fin' : Int → Int), LR D la n c ls fin → (∀ v, 0 ≤ v → v < nn D → fin' v = fin v) → LR D la n c ls fin' := by
  intro n
  induction n with
  | zero => intro c ls fin fin' h e; exact ⟨h.1, fun v a b => by rw [e v a b]; exact h.2 v a b⟩
  | succ n ih =>
    intro c ls fin fin' h e
    rcases h with ⟨k, h1, h2⟩ | ⟨h1, h2, h3⟩
    · exact .inl ⟨k, h1, ih _ _ _ _ h2 e⟩
    · exact .inr ⟨h1, h2, ih _ _ _ _ h3 e⟩
theorem ready_ext {D : Dat} (ok : DOk D) {c : Int} {ls ls' : Int → Int} (e : ∀ v, 0 ≤ v → v < nn D → ls v = ls' v) {k : Int} : ready D c ls k → ready D c ls' k := by
  rintro ⟨a, b, h1, h2, h3⟩
  refine ⟨a, b, by rw [← e k a b]; exact h1, fun f w hw => ?_, ?_⟩
  · have hf := (ed_props ok hw).1
    rw [← e f hf.1 hf.2]; exact h2 f w hw
  · have : cntL D ls' (kdv D k) c = cntL D ls (kdv D k) c := cntN_eq _ (fun v x y => by rw [e v x (by omega)])
    rw [this]; exact h3
theorem LR_ext {D : Dat} (ok : DOk D) {la la' : Int → Int} (el : ∀ v, 0 ≤ v → v < nn D → la v = la' v) : ∀ (n : Nat) (c : Int) (ls ls' fin : Int → Int), LR D la n c ls fin → (∀ v, 0 ≤ v → v < nn D → ls v = ls' v) → LR D la' n c ls' fin := by
  intro n
  induction n with
  | zero => intro c ls ls' fin h e; exact ⟨fun v a b => by rw [← e v a b]; exact h.1 v a b, fun v a b => by rw [← e v a b]; exact h.2 v a b⟩
  | succ n ih =>
    intro c ls ls' fin h e
    have e' : ∀ v, 0 ≤ v → v < nn D → ls' v = ls v := fun v a b => (e v a b).symm
    rcases h with ⟨k, h1, h2⟩ | ⟨h1, h2, h3⟩
    · refine .inl ⟨k, ⟨ready_ext ok e h1.1, fun j hj => ?_⟩, ih _ _ _ _ h2 (fun v a b => by unfold iup; rw [e v a b])⟩
      have := h1.2 j (ready_ext ok e' hj)
      rw [← el k h1.1.1 h1.1.2.1, ← el j hj.1 hj.2.1]; exact this
    · exact .inr ⟨fun z => h1 (fun v a b => by rw [e v a b]; exact z v a b), fun k z => h2 k (ready_ext ok e' z), ih _ _ _ _ h3 e⟩
theorem list_uniq {D : Dat} (ok : DOk D) {la la' f f' : Int → Int} (el : ∀ v, 0 ≤ v → v < nn D → la v = la' v) (h : IsList D la f) (g : IsList D la' f') : ∀ v, 0 ≤ v → v < nn D → f v = f' v := by
  obtain ⟨⟨n, h1⟩, _⟩ := h
  obtain ⟨⟨m, g1⟩, _⟩ := g
  exact LR_uniq n m 0 _ _ _ (LR_ext ok el n 0 _ _ _ h1 (fun _ _ _ => rfl)) g1
theorem list_end {D : Dat} (ok : DOk D) {la f : Int → Int} {e : Int} (h : IsList D la f) (he : IsEnd D f e) : (∀ v, 0 ≤ v → v < nn D → 0 ≤ f v ∧ f v ≤ 480) ∧ e ≤ 480 := by
  have hn := nn_le ok
  have sb := sumC_b ok hn.1 (Int.le_refl _)
  obtain ⟨_, ha, c, hj⟩ := h
  have hc := JL_c ok hj
  refine ⟨fun v a b => ?_, ?_⟩
  · have := hj.2.1 v a b
    have := ha v a b
    omega
  · have := cover_le ok (c := e) (ls := f) (fun d a b => ?_)
    · omega
    · by_cases q : d < c
      · obtain ⟨v, h1, h2, _, h3, h4⟩ := hj.2.2 d a q
        exact ⟨v, h1, h2, h3, h4⟩
      · rcases he.2.2 with z | ⟨v, v0, v1, z⟩
        · omega
        · have := hj.2.1 v v0 v1
          have := ha v v0 v1
          exact ⟨v, v0, v1, by omega, by omega⟩
theorem allAt_w {D : Dat} (ok : DOk D) {i r : MI} {ls : Int → Int} {c : Int} {Q : Int → MI → Prop} (h : NV D i) (g : M2 D i) (hu : ∀ k, 0 ≤ k → k < 7 → i 69 k = D.un k) (cl : CL D ls i) (hj : JL D c ls) (hna : ¬ allL D ls) (hlt : ∀ v, 0 ≤ v → v < nn D → ls v < c)
    (hQ : ∀ i' ls', FO i i' → i' 462 = i 462 → i' 463 = i 463 → CL D ls' i' → (∀ n fin, LR D (i 463) n (c + 1) ls' fin → ¬ allL D ls' → ∃ m, LR D (i 463) m c ls fin) → (allL D ls' → JL D c ls' ∧ ∃ m, LR D (i 463) m c ls ls') → (¬ allL D ls' → JL D (c + 1) ls' ∧ ∀ v, 0 ≤ v → v < nn D → ls' v < c + 1) → Q (lsC D ls' - lsC D ls) i') : wp_X9_beginAllAt c i r Q := by
  have hn := nn_le ok
  have hc := JL_c ok hj
  have hc0 := hj.1
  unfold wp_X9_beginAllAt
  refine Lp.r2 (fun (x : Int) (m : MI) => 0 ≤ x ∧ x ≤ 7 ∧ FO i m ∧ m 462 = i 462 ∧ m 463 = i 463 ∧ CL D ls m ∧ ∀ k, 0 ≤ k → k < x → m 467 k = 0) (fun x _ => (7 - x).toNat) ?_ ⟨by decide, by decide, FO.refl i, rfl, rfl, cl, fun k a b => by omega⟩
  intro x m C ⟨h0, h1, h2, h3, h4, h5, h6⟩ hC
  dsimp only [b3_X9_beginAllAt]
  refine ⟨fun q => ?_, fun q => ⟨⟨h0, by omega⟩, ?_⟩⟩
  · have b0 : ∀ k, 0 ≤ k → k < 7 → m 467 k = cntL D ls k c := fun k a b => by
      rw [h6 k a (by omega)]
      exact (cntN_zero _ (fun v v0 v1 z => by have := hlt v v0 (by omega); omega)).symm
    refine Lp.r2 (fun (y : Int) (m' : MI) => ∃ ls', 0 ≤ y ∧ y ≤ nn D ∧ FO i m' ∧ m' 462 = i 462 ∧ m' 463 = i 463 ∧ CL D ls' m' ∧ JL D c ls' ∧ (∀ k, 0 ≤ k → k < 7 → m' 467 k = cntL D ls' k c) ∧ y = lsC D ls' - lsC D ls ∧ ∀ n fin, LR D (i 463) n c ls' fin → ∃ m, LR D (i 463) m c ls fin) (fun y _ => (nn D - y).toNat) ?_ ⟨ls, by decide, hn.1, h2, h3, h4, h5, hj, b0, by omega, fun n fin z => ⟨n, z⟩⟩
    intro y m2 C2 ⟨ls', k0, k1, k2, k3, k4, k5, k6, k7, k8, k9⟩ hC2
    dsimp only [b27_X9_beginAllAt]
    have hm2 := h.fo ok k2
    have gm2 := g.fo ok k2
    have hu2 : ∀ k, 0 ≤ k → k < 7 → m2 69 k = D.un k := fun k a b => by rw [k2 _ (by omega)]; exact hu k a b
    have ca := lsC_all ok (ls := ls')
    have cb := lsC_all ok (ls := ls)
    rw [hm2.n]
    have fin : (allL D ls' ∨ ∀ k, ¬ ready D c ls' k) → Q (lsC D ls' - lsC D ls) m2 := by
      intro hh
      refine hQ m2 ls' k2 k3 k4 k5 (fun n fin z na => ?_) (fun al => ⟨k6, k9 0 ls' ⟨al, fun _ _ _ => rfl⟩⟩) (fun na => ?_)
      · exact k9 (n + 1) fin (.inr ⟨na, hh.resolve_left na, z⟩)
      · have nr := hh.resolve_left na
        exact ⟨JL_next ok k6 na nr, fun v a b => by have := k6.2.1 v a b; omega⟩
    refine ⟨fun q2 => ?_, fun q2 => ?_⟩
    · have ey : lsC D ls' = nn D := by omega
      have := fin (.inl (ca.2.2.1 ey))
      rw [show nn D = lsC D ls' - lsC D ls by omega]
      exact this
    · refine choose_w ok hm2 hu2 k5 hc0 k7 (fun k hk => ⟨fun z => by have := hk.1.1; omega, fun _ => ?_⟩) (fun nr => ⟨fun _ => ?_, fun z => absurd rfl z⟩)
      · rw [k4] at hk
        refine beginAt_w ok hm2 gm2 k5 ⟨hc0, hc⟩ k7 hk.1 (fun i' f e1 e2 c2 b2 => ?_)
        rw [wr_of (by omega) (by omega)]
        have up := lsC_up ok (ls := ls') (x := k) (c := c) ⟨hk.1.1, hk.1.2.1⟩ hk.1.2.2.1 hc0
        exact hC2 _ _ ⟨iup ls' k c, by omega, by omega, k2.trans f, by rw [e1]; exact k3, by rw [e2]; exact k4, c2, JL_pick k6 hk.1, b2, by omega, fun n fin z => k9 (n + 1) fin (.inl ⟨k, hk, z⟩)⟩ (by omega)
      · have := fin (.inr nr)
        rw [← k8] at this
        exact this
  · rw [wr_of (by omega) (by omega)]
    refine hC _ _ ⟨by omega, by omega, h2.trans (FO.st (by decide)), by rw [st_row (by decide)]; exact h3, by rw [st_row (by decide)]; exact h4, ⟨by rw [st_row (by decide)]; exact h5.l, by rw [st_row (by decide)]; exact h5.u, by rw [st_row (by decide)]; exact h5.e⟩, fun k a b => ?_⟩ (by omega)
    by_cases e : k = x
    · rw [e, st_eq]
    · rw [st_ne (by omega)]; exact h6 k a (by omega)
theorem startL_w {D : Dat} (ok : DOk D) {i r : MI} {Q : MI → Prop} (h : NV D i) (g : M2 D i) (hQ : ∀ i', FO i i' → i' 462 = i 462 → i' 463 = i 463 → CL D L00 i' → Q i') : wp_X9_startLists i r Q := by
  have hn := nn_le ok
  unfold wp_X9_startLists
  refine Lp.r2 (fun (x : Int) (m : MI) => 0 ≤ x ∧ x ≤ nn D ∧ FO i m ∧ m 462 = i 462 ∧ m 463 = i 463 ∧ ∀ v, 0 ≤ v → v < x → m 464 v = -1 ∧ m 465 v = 0 ∧ m 466 v = 0) (fun x _ => (nn D - x).toNat) ?_ ⟨by decide, hn.1, FO.refl i, rfl, rfl, fun v a b => by omega⟩
  intro x m C ⟨h0, h1, h2, h3, h4, h5⟩ hC
  dsimp only [b2_X9_startLists]
  have hm := h.fo ok h2
  rw [hm.n]
  refine ⟨fun q => ?_, fun q => ⟨by omega, by omega, by omega, ?_⟩⟩
  · refine Lp.r2 (fun (x : Int) (m' : MI) => 0 ≤ x ∧ x ≤ nn D ∧ FO i m' ∧ m' 462 = i 462 ∧ m' 463 = i 463 ∧ (∀ v, 0 ≤ v → v < nn D → m' 464 v = -1 ∧ m' 465 v = 0) ∧ ∀ v, 0 ≤ v → v < nn D → PrL D v (fun f => f < x) (m' 466 v)) (fun x _ => (nn D - x).toNat) ?_ ⟨by decide, hn.1, h2, h3, h4, fun v a b => ⟨(h5 v a (by omega)).1, (h5 v a (by omega)).2.1⟩, fun v a b => by rw [(h5 v a (by omega)).2.2]; exact ⟨[], List.nodup_nil, fun f => ⟨fun z => (by cases z), fun z => by obtain ⟨⟨w, hw⟩, z⟩ := z; have := (ed_props ok hw).1; omega⟩, rfl⟩⟩
    intro x m2 C2 ⟨k0, k1, k2, k3, k4, k5, k6⟩ hC2
    dsimp only [b39_X9_startLists]
    have hm2 := h.fo ok k2
    rw [hm2.n]
    refine ⟨fun q2 => hQ m2 k2 k3 k4 ⟨fun v a b => (k5 v a b).1, fun v a b => (k6 v a b).iff (fun f hf => ?_), fun v a b => ?_⟩, fun q2 => ?_⟩
    · obtain ⟨w, hw⟩ := hf
      have := (ed_props ok hw).1
      exact ⟨fun _ => rfl, fun _ => by omega⟩
    · rw [(k5 v a b).2]
      exact ⟨Int.le_refl 0, fun f w hw z => absurd rfl z, .inl rfl⟩
    · have hx : 0 ≤ x ∧ x < nn D := ⟨k0, by omega⟩
      have gz := g.z x k0 (by omega)
      refine Lp.r2 (fun (y : Int) (m' : MI) => 0 ≤ y ∧ y ≤ i 460 x ∧ FO i m' ∧ m' 462 = i 462 ∧ m' 463 = i 463 ∧ (∀ v, 0 ≤ v → v < nn D → m' 464 v = -1 ∧ m' 465 v = 0) ∧ ∀ v, 0 ≤ v → v < nn D → PrL D v (fun f => f < x ∨ (f = x ∧ ∃ e, 0 ≤ e ∧ e < y ∧ i (170 + x) e = v ∧ i (267 + x) e = 0)) (m' 466 v)) (fun y _ => (100 - y).toNat) ?_ ⟨by decide, gz.1, k2, k3, k4, k5, fun v a b => (k6 v a b).iff (fun f hf => ⟨.inl, fun z => z.elim id (fun z => by obtain ⟨_, e, e1, e2, _⟩ := z; omega)⟩)⟩
      intro y m3 C3 ⟨j0, j1, j2, j3, jl, j4, j5⟩ hC3
      dsimp only [b50_X9_startLists, s91_X9_startLists]
      have r460 : m3 460 = i 460 := j2 _ (by omega)
      have r170 : m3 (170 + x) = i (170 + x) := j2 _ (by omega)
      have r267 : m3 (267 + x) = i (267 + x) := j2 _ (by omega)
      rw [r460, r170, r267]
      refine ⟨by omega, fun q3 => ?_, fun q3 => ⟨by omega, by omega, ?_⟩⟩
      · rw [wr_of (by omega) (by omega)]
        refine hC2 _ _ ⟨by omega, by omega, j2, j3, jl, j4, fun v a b => (j5 v a b).iff (fun f hf => ?_)⟩ (by omega)
        have ey : y = i 460 x := by omega
        constructor
        · rintro (z | ⟨z, _⟩) <;> omega
        · intro z
          by_cases e : f = x
          · subst e
            obtain ⟨w, hw⟩ := hf
            obtain ⟨e, e0, e1, e2, e3, _⟩ := GrC.fd ok g hw
            exact .inr ⟨rfl, e, e0, by omega, e2, e3⟩
          · exact .inl (by omega)
      · have hE := GrC.ed ok g hx ⟨j0, by omega⟩
        rw [wr_of (x := y + 1) (by omega) (by omega)]
        refine ⟨fun e0 => ?_, fun e0 => ?_⟩
        · rw [e0] at hE
          have ht := (ed_props ok hE).2.1
          generalize htd : i (170 + x) y = t at *
          have hp6 := (j5 t ht.1 ht.2).le ok
          rw [wr_of (x := m3 466 t + 1) (by omega) (by omega)]
          have old : ¬ (x < x ∨ (x = x ∧ ∃ e, 0 ≤ e ∧ e < y ∧ i (170 + x) e = t ∧ i (267 + x) e = 0)) := by
            rintro (z | ⟨_, e, e1, e2, e3, e4⟩)
            · omega
            · have := g.u x e y k0 (by omega) e1 (by omega) j0 (by omega) (by rw [e3, htd]) (by rw [e4, e0])
              omega
          refine ⟨by omega, by omega, by omega, by omega, ?_⟩
          refine hC3 _ _ ⟨by omega, by omega, j2.trans (FO.st (by decide)), by rw [st_row (by decide)]; exact j3, by rw [st_row (by decide)]; exact jl, fun v a b => by rw [st_row (by decide), st_row (by decide)]; exact j4 v a b, fun v a b => ?_⟩ (by omega)
          by_cases ev : v = t
          · subst ev
            rw [st_eq]
            refine ((j5 v a b).add ⟨_, hE⟩ old).iff (fun f hf => ?_)
            constructor
            · rintro ((z | ⟨z, e, e1, e2, e3, e4⟩) | rfl)
              · exact .inl z
              · exact .inr ⟨z, e, e1, by omega, e3, e4⟩
              · exact .inr ⟨rfl, y, j0, by omega, htd, e0⟩
            · rintro (z | ⟨rfl, _⟩)
              · exact .inl (.inl z)
              · exact .inr rfl
          · rw [st_ne (by omega)]
            refine (j5 v a b).iff (fun f hf => or_congr Iff.rfl (and_congr Iff.rfl ⟨fun ⟨e, e1, e2, e3, e4⟩ => ⟨e, e1, by omega, e3, e4⟩, fun ⟨e, e1, e2, e3, e4⟩ => ⟨e, e1, ?_, e3, e4⟩⟩))
            by_cases ee : e = y
            · rw [ee, htd] at e3; exact absurd e3.symm ev
            · omega
        · refine hC3 _ _ ⟨by omega, by omega, j2, j3, jl, j4, fun v a b => (j5 v a b).iff (fun f hf => or_congr Iff.rfl (and_congr Iff.rfl ⟨fun ⟨e, e1, e2, e3, e4⟩ => ⟨e, e1, by omega, e3, e4⟩, fun ⟨e, e1, e2, e3, e4⟩ => ⟨e, e1, ?_, e3, e4⟩⟩))⟩ (by omega)
          by_cases ee : e = y
          · rw [ee] at e4; exact absurd e4 e0
          · omega
  · rw [wr_of (by omega) (by omega)]
    refine hC _ _ ⟨by omega, by omega, h2.trans ((FO.st (by decide)).trans ((FO.st (by decide)).trans (FO.st (by decide)))), by simp (disch := omega) only [st_row]; exact h3, by simp (disch := omega) only [st_row]; exact h4, fun v a b => ?_⟩ (by omega)
    by_cases e : v = x
    · rw [e]
      simp (disch := omega) only [st_row, st_eq]
      exact ⟨trivial, trivial, trivial⟩
    · simp (disch := omega) only [st_row, st_ne]
      exact h5 v a (by omega)
theorem byLists_w {D : Dat} (ok : DOk D) {i r : MI} {Q : MI → Prop} (h : NV D i) (g : M2 D i) (hu : ∀ k, 0 ≤ k → k < 7 → i 69 k = D.un k) (hQ : ∀ i', FO i i' → i' 462 = i 462 → i' 463 = i 463 → IsList D (i 463) (i' 464) → Q i') : wp_X9_orderByLists i r Q := by
  have hn := nn_le ok
  unfold wp_X9_orderByLists
  refine startL_w ok h g (fun i1 f1 a1 b1 c1 => ?_)
  have hl0 : lsC D L00 = 0 := by
    have key : ∀ n : Nat, lsN L00 n = 0 := by
      intro n
      induction n with
      | zero => rfl
      | succ n ih => show lsN L00 n + _ = 0; rw [ih, if_pos (show L00 n = -1 from rfl)]; rfl
    exact key _
  rw [(h.fo ok f1).n]
  refine Lp.r3 (fun (x3 x4 : Int) (m : MI) => ∃ ls, 0 ≤ x4 ∧ x4 ≤ 481 ∧ FO i m ∧ m 462 = i 462 ∧ m 463 = i 463 ∧ CL D ls m ∧ x3 = nn D - lsC D ls ∧ (allL D ls → (∃ c, JL D c ls) ∧ ∃ n, LR D (i 463) n 0 L00 ls) ∧ (¬ allL D ls → JL D x4 ls ∧ (∀ v, 0 ≤ v → v < nn D → ls v < x4) ∧ ∀ n fin, LR D (i 463) n x4 ls fin → ∃ m, LR D (i 463) m 0 L00 fin)) (fun _ x4 _ => (481 - x4).toNat) ?_ ⟨L00, by decide, by decide, f1, a1, b1, c1, by omega, fun al => ⟨⟨0, Int.le_refl 0, fun v a b => .inl rfl, fun d a b => by omega⟩, 0, al, fun _ _ _ => rfl⟩, fun _ => ⟨⟨Int.le_refl 0, fun v a b => .inl rfl, fun d a b => by omega⟩, fun v a b => by show (-1 : Int) < 0; omega, fun n fin z => ⟨n, z⟩⟩⟩
  intro x3 x4 m C ⟨ls, h0, h1, h2, h3, h4, h5, h6, h7, h8⟩ hC
  dsimp only [b14_X9_orderByLists]
  unfold s43_X9_orderByLists
  have ca := lsC_all ok (ls := ls)
  have fin : allL D ls → Q m := by
    intro al
    obtain ⟨⟨c, hj⟩, n, hr⟩ := h7 al
    have el : ∀ v, 0 ≤ v → v < nn D → m 464 v = ls v := h5.l
    refine hQ m h2 h3 h4 ⟨⟨n, LR_fin n 0 _ _ _ hr el⟩, fun v a b => by rw [el v a b]; exact al v a b, c, ?_⟩
    refine ⟨hj.1, fun v a b => by rw [el v a b]; exact hj.2.1 v a b, fun d a b => ?_⟩
    obtain ⟨v, v0, v1, v2, v3, v4⟩ := hj.2.2 d a b
    exact ⟨v, v0, v1, by rw [el v v0 v1]; exact v2, by rw [el v v0 v1]; exact v3, by rw [el v v0 v1]; exact v4⟩
  by_cases al : allL D ls
  · have := ca.2.2.2 al
    exact ⟨fun _ => fin al, fun _ => ⟨fun _ => fin al, fun z => by omega⟩⟩
  · obtain ⟨j1, j2, j3⟩ := h8 al
    have hc := JL_c ok j1
    have nl : lsC D ls ≠ nn D := fun z => al (ca.2.2.1 z)
    refine ⟨fun z => by omega, fun z => ⟨fun z2 => by omega, fun z2 => ?_⟩⟩
    refine allAt_w ok (h.fo ok h2) (g.fo ok h2) (fun k a b => by rw [h2 _ (by omega)]; exact hu k a b) h5 j1 al j2 (fun i' ls' f e1 e2 c2 k1 k2 k3 => ?_)
    have cb := lsC_all ok (ls := ls')
    rw [wr_of (x := x3 - _) (by omega) (by omega), wr_of (x := x4 + 1) (by omega) (by omega)]
    rw [h4] at k1 k2
    refine hC _ _ _ ⟨ls', by omega, by omega, h2.trans f, by rw [e1]; exact h3, by rw [e2]; exact h4, c2, by omega, fun al' => ?_, fun na' => ?_⟩ (by omega)
    · obtain ⟨q1, n, q2⟩ := k2 al'
      exact ⟨⟨x4, q1⟩, j3 n ls' q2⟩
    · obtain ⟨q1, q2⟩ := k3 na'
      exact ⟨q1, q2, fun n fin z => by obtain ⟨m, hm⟩ := k1 n fin z na'; exact j3 m fin hm⟩
