/-! ===== the reference's edges ===== -/
def NW (D : Dat) (i : MI) : Prop := (i 504 21 = nn D) ∧ (∀ v c, 0 ≤ v → v < nn D → 515 ≤ c → c ≤ 520 → i c v = attm D (nd D v) c) ∧ (∀ v, 0 ≤ v → v < nn D → wrN D (nd D v) ≠ -1 → i 521 v = tnN D (nd D v) ∧ i 522 v = fpN D (nd D v)) ∧ (∀ k, 0 ≤ k → k < 7 → i 511 k = D.cy k) ∧ (i 504 10 = D.fac)
theorem NW.n {D : Dat} {i : MI} (h0 : NW D i) : i 504 21 = nn D := h0.1
theorem NW.a {D : Dat} {i : MI} (h0 : NW D i) : ∀ v c, 0 ≤ v → v < nn D → 515 ≤ c → c ≤ 520 → i c v = attm D (nd D v) c := h0.2.1
theorem NW.m {D : Dat} {i : MI} (h0 : NW D i) : ∀ v, 0 ≤ v → v < nn D → wrN D (nd D v) ≠ -1 → i 521 v = tnN D (nd D v) ∧ i 522 v = fpN D (nd D v) := h0.2.2.1
theorem NW.y {D : Dat} {i : MI} (h0 : NW D i) : ∀ k, 0 ≤ k → k < 7 → i 511 k = D.cy k := h0.2.2.2.1
theorem NW.f {D : Dat} {i : MI} (h0 : NW D i) : i 504 10 = D.fac := h0.2.2.2.2
theorem NW.mk {D : Dat} {i : MI} (h0 : i 504 21 = nn D) (h1 : ∀ v c, 0 ≤ v → v < nn D → 515 ≤ c → c ≤ 520 → i c v = attm D (nd D v) c) (h2 : ∀ v, 0 ≤ v → v < nn D → wrN D (nd D v) ≠ -1 → i 521 v = tnN D (nd D v) ∧ i 522 v = fpN D (nd D v)) (h3 : ∀ k, 0 ≤ k → k < 7 → i 511 k = D.cy k) (h4 : i 504 10 = D.fac) : NW D i := ⟨h0, h1, h2, h3, h4⟩
theorem NW.of {D : Dat} {i : MI} (h : ModelP D i) (m : NLk i (GM D (nds D))) : NW D i := by
  have hG : ∀ v : Int, 0 ≤ v → v < nn D → (GM D (nds D))[v.toNat]? = some (attm D (nd D v)) := by
    intro v v0 v1
    have hg := nd_get (D := D) (v := v.toNat) (by omega)
    rw [show ((v.toNat : Nat) : Int) = v by omega] at hg
    unfold GM
    rw [List.getElem?_map, hg]
    rfl
  refine ⟨by rw [m.n, GM_len]; rfl, fun v c v0 v1 c0 c1 => ?_, fun v v0 v1 hw => ?_, h.cy, h.fac⟩
  · have := (m.g _ _ (hG v v0 v1)).1 c c0 c1
    rw [show ((v.toNat : Nat) : Int) = v by omega] at this
    exact this
  · have := (m.g _ _ (hG v v0 v1)).2 hw
    rw [show ((v.toNat : Nat) : Int) = v by omega] at this
    exact this
/-- what joining leaves alone in the reference -/
def FJ (i i' : MI) : Prop := (∀ a, a ≠ 504 → (a < 523 ∨ 528 < a) → i' a = i a) ∧ (∀ c, c ≠ 30 → i' 504 c = i 504 c)
theorem FJ.i {i i' : MI} (h0 : FJ i i') : ∀ a, a ≠ 504 → (a < 523 ∨ 528 < a) → i' a = i a := h0.1
theorem FJ.c {i i' : MI} (h0 : FJ i i') : ∀ c, c ≠ 30 → i' 504 c = i 504 c := h0.2
theorem FJ.mk {i i' : MI} (h0 : ∀ a, a ≠ 504 → (a < 523 ∨ 528 < a) → i' a = i a) (h1 : ∀ c, c ≠ 30 → i' 504 c = i 504 c) : FJ i i' := ⟨h0, h1⟩
theorem FJ.refl (i : MI) : FJ i i := ⟨fun _ _ _ => rfl, fun _ _ => rfl⟩
theorem FJ.trans {i j k : MI} (h : FJ i j) (g : FJ j k) : FJ i k := ⟨fun a x y => (g.i a x y).trans (h.i a x y), fun a x => (g.c a x).trans (h.c a x)⟩
theorem FJ.sa {a k v : Int} {i : MI} (h : 523 ≤ a ∧ a ≤ 528) : FJ i (st i a k v) := ⟨fun b x y => st_row (by omega), fun c x => by rw [st_row (by omega)]⟩
theorem FJ.s4 {v : Int} {i : MI} : FJ i (st i 504 30 v) := ⟨fun b x y => st_row x, fun c x => st_ne (by omega)⟩
theorem NW.fj {D : Dat} {i i' : MI} (h : NW D i) (g : FJ i i') : NW D i' := by
  refine ⟨by rw [g.c _ (by decide)]; exact h.n, fun v c v0 v1 c0 c1 => ?_, fun v v0 v1 hw => ?_, by rw [g.i _ (by decide) (by decide)]; exact h.y, by rw [g.c _ (by decide)]; exact h.f⟩
  · rw [g.i _ (by omega) (by omega)]; exact h.a v c v0 v1 c0 c1
  · rw [g.i _ (by omega) (by omega), g.i _ (by omega) (by omega)]; exact h.m v v0 v1 hw
theorem NW.kd {D : Dat} {i : MI} (h : NW D i) {v : Int} (hv : 0 ≤ v ∧ v < nn D) : i 517 v = kdv D v := h.a v 517 hv.1 hv.2 (by decide) (by decide)
theorem NW.mk9 {D : Dat} {i : MI} (h : NW D i) {v : Int} (hv : 0 ≤ v ∧ v < nn D) : i 519 v = mkv D v := h.a v 519 hv.1 hv.2 (by decide) (by decide)
theorem mcyc_w {D : Dat} (ok : DOk D) {i r : MI} {v : Int} {Q : Int → Prop} (h : NW D i) (hv : 0 ≤ v ∧ v < nn D) (hQ : Q (cyv D v)) : wp_X12_cyclesOf v i r Q := by
  have hn := nn_le ok
  have hk := kdv_r ok hv
  unfold wp_X12_cyclesOf
  rw [h.kd hv, h.y _ hk.1 hk.2]
  exact ⟨by omega, by omega, hQ⟩
def samE (i : MI) (e f t : Int) : Prop := i 523 e = f ∧ i 524 e = t
/-- the greatest edge below m between f and t, or -1 -/
def topE (i : MI) (m f t h : Int) : Prop := (h = -1 ∧ ∀ e, 0 ≤ e → e < m → ¬ samE i e f t) ∨ (0 ≤ h ∧ h < m ∧ samE i h f t ∧ ∀ e, h < e → e < m → ¬ samE i e f t)
def GrM (D : Dat) (i : MI) (S : RS) : Prop := (0 ≤ i 504 30) ∧ (∀ e, 0 ≤ e → e < i 504 30 → Mx S (i 523 e) (i 524 e) (i 525 e) (i 526 e)) ∧ (∀ f t d w, S f t d w → ∃ e, 0 ≤ e ∧ e < i 504 30 ∧ samE i e f t ∧ i 525 e = d) ∧ (∀ e e', 0 ≤ e → e < i 504 30 → 0 ≤ e' → e' < i 504 30 → samE i e' (i 523 e) (i 524 e) → i 525 e = i 525 e' → e = e') ∧ (∀ f t d w, S f t d w → Raw D f t d w) ∧ (∀ f t, 0 ≤ f → f < nn D → 0 ≤ t → t < nn D → topE i (i 504 30) f t (i 528 (nn D * f + t))) ∧ (∀ e, 0 ≤ e → e < i 504 30 → topE i e (i 523 e) (i 524 e) (i 527 e))
theorem GrM.n {D : Dat} {i : MI} {S : RS} (h0 : GrM D i S) : 0 ≤ i 504 30 := h0.1
theorem GrM.e {D : Dat} {i : MI} {S : RS} (h0 : GrM D i S) : ∀ e, 0 ≤ e → e < i 504 30 → Mx S (i 523 e) (i 524 e) (i 525 e) (i 526 e) := h0.2.1
theorem GrM.s {D : Dat} {i : MI} {S : RS} (h0 : GrM D i S) : ∀ f t d w, S f t d w → ∃ e, 0 ≤ e ∧ e < i 504 30 ∧ samE i e f t ∧ i 525 e = d := h0.2.2.1
theorem GrM.u {D : Dat} {i : MI} {S : RS} (h0 : GrM D i S) : ∀ e e', 0 ≤ e → e < i 504 30 → 0 ≤ e' → e' < i 504 30 → samE i e' (i 523 e) (i 524 e) → i 525 e = i 525 e' → e = e' := h0.2.2.2.1
theorem GrM.r {D : Dat} {i : MI} {S : RS} (h0 : GrM D i S) : ∀ f t d w, S f t d w → Raw D f t d w := h0.2.2.2.2.1
theorem GrM.h {D : Dat} {i : MI} {S : RS} (h0 : GrM D i S) : ∀ f t, 0 ≤ f → f < nn D → 0 ≤ t → t < nn D → topE i (i 504 30) f t (i 528 (nn D * f + t)) := h0.2.2.2.2.2.1
theorem GrM.x {D : Dat} {i : MI} {S : RS} (h0 : GrM D i S) : ∀ e, 0 ≤ e → e < i 504 30 → topE i e (i 523 e) (i 524 e) (i 527 e) := h0.2.2.2.2.2.2
theorem GrM.mk {D : Dat} {i : MI} {S : RS} (h0 : 0 ≤ i 504 30) (h1 : ∀ e, 0 ≤ e → e < i 504 30 → Mx S (i 523 e) (i 524 e) (i 525 e) (i 526 e)) (h2 : ∀ f t d w, S f t d w → ∃ e, 0 ≤ e ∧ e < i 504 30 ∧ samE i e f t ∧ i 525 e = d) (h3 : ∀ e e', 0 ≤ e → e < i 504 30 → 0 ≤ e' → e' < i 504 30 → samE i e' (i 523 e) (i 524 e) → i 525 e = i 525 e' → e = e') (h4 : ∀ f t d w, S f t d w → Raw D f t d w) (h5 : ∀ f t, 0 ≤ f → f < nn D → 0 ≤ t → t < nn D → topE i (i 504 30) f t (i 528 (nn D * f + t))) (h6 : ∀ e, 0 ≤ e → e < i 504 30 → topE i e (i 523 e) (i 524 e) (i 527 e)) : GrM D i S := ⟨h0, h1, h2, h3, h4, h5, h6⟩
theorem GrM.iff {D : Dat} {i : MI} {S T : RS} (h : GrM D i S) (e : ∀ f t d w, S f t d w ↔ T f t d w) : GrM D i T := by
  have : S = T := by funext f t d w; exact propext (e f t d w)
  rw [← this]; exact h
def edL (i : MI) : List (Int × Int × Int) := (List.range (i 504 30).toNat).map (fun (e : Nat) => (i 523 (e : Int), i 524 (e : Int), i 525 (e : Int)))
theorem edL_ok {D : Dat} {i : MI} {S : RS} (h : GrM D i S) : (edL i).Nodup ∧ (∀ x : Int × Int × Int, x ∈ edL i ↔ ∃ w, S x.1 x.2.1 x.2.2 w) ∧ ((edL i).length : Int) = i 504 30 := by
  have hn := h.n
  refine ⟨?_, fun x => ⟨fun hx => ?_, fun hx => ?_⟩, ?_⟩
  · unfold edL List.Nodup
    rw [List.pairwise_map]
    refine List.Pairwise.imp_of_mem (fun ha hb hne e => ?_) List.nodup_range
    have a1 := List.mem_range.1 ha
    have b1 := List.mem_range.1 hb
    have e1 := Prod.mk.inj e
    have e2 := Prod.mk.inj e1.2
    have := h.u _ _ (Int.natCast_nonneg _) (by omega) (Int.natCast_nonneg _) (by omega) ⟨e1.1.symm, e2.1.symm⟩ e2.2
    omega
  · obtain ⟨e, he, e2⟩ := List.mem_map.1 hx
    have := List.mem_range.1 he
    rw [← e2]
    exact ⟨_, (h.e e (Int.natCast_nonneg _) (by omega)).1⟩
  · obtain ⟨w, hw⟩ := hx
    obtain ⟨e, e0, e1, e2, e3⟩ := h.s _ _ _ _ hw
    refine List.mem_map.2 ⟨e.toNat, List.mem_range.2 (by omega), ?_⟩
    rw [show ((e.toNat : Nat) : Int) = e by omega, e2.1, e2.2, e3]
  · unfold edL
    simp
    omega
theorem GrM.le {D : Dat} (ok : DOk D) {i : MI} {S : RS} (h : GrM D i S) : i 504 30 ≤ 9600 := by
  obtain ⟨a, b, c⟩ := edL_ok h
  have := raw_all ok (edL i) a (fun x hx => by
    obtain ⟨w, hw⟩ := (b x).1 hx
    exact ⟨w, h.r _ _ _ _ hw⟩)
  omega
theorem cell_uniq {n f t f' t' : Int} (h0 : 0 ≤ t) (h1 : t < n) (h2 : 0 ≤ t') (h3 : t' < n) (h : n * f + t = n * f' + t') : f = f' ∧ t = t' := by
  have e1 : (n * f + t) / n = f := by rw [Int.mul_add_ediv_left _ _ (by omega), Int.ediv_eq_zero_of_lt h0 h1]; omega
  have e2 : (n * f' + t') / n = f' := by rw [Int.mul_add_ediv_left _ _ (by omega), Int.ediv_eq_zero_of_lt h2 h3]; omega
  have : f = f' := by rw [← e1, ← e2, h]
  subst this
  exact ⟨rfl, by omega⟩
theorem mjoin_w {D : Dat} (ok : DOk D) {i r : MI} {S : RS} {f t d w : Int} {Q : MI → Prop} (h : GrM D i S) (hn : i 504 21 = nn D) (hr : Raw D f t d w) (hQ : ∀ i', FJ i i' → GrM D i' (orS S (oneR f t d w)) → Q i') : wp_X12_join f t d w i r Q := by
  have hnn := nn_le ok
  have hle := h.le ok
  have hge := h.n
  obtain ⟨f0, f1, t0, t1, -⟩ := id hr
  have hc0 : 0 ≤ nn D * f := Int.mul_nonneg hnn.1 f0
  have hc1 : nn D * f + nn D ≤ nn D * nn D := by
    have : nn D * (f + 1) ≤ nn D * nn D := Int.mul_le_mul_of_nonneg_left (by omega) hnn.1
    rw [Int.mul_add, Int.mul_one] at this
    exact this
  have hc2 : nn D * nn D ≤ 96 * 96 := Int.mul_le_mul hnn.2 hnn.2 hnn.1 (by omega)
  have wc : wr (wr (nn D * f) + t) = nn D * f + t := by rw [wr_of (x := nn D * f) (by omega) (by omega), wr_of (by omega) (by omega)]
  unfold wp_X12_join
  rw [hn, wc]
  refine ⟨by omega, ?_⟩
  have hh := h.h f t f0 f1 t0 t1
  have inv0 : -1 ≤ i 528 (nn D * f + t) ∧ i 528 (nn D * f + t) < i 504 30 ∧ (0 ≤ i 528 (nn D * f + t) → samE i (i 528 (nn D * f + t)) f t) ∧ ∀ e, i 528 (nn D * f + t) < e → e < i 504 30 → 0 ≤ e → samE i e f t → i 525 e ≠ d := by
    rcases hh with ⟨a, b⟩ | ⟨a, b, c, k⟩
    · exact ⟨by omega, by omega, fun z => by omega, fun e x y z y2 => absurd y2 (b e z y)⟩
    · exact ⟨by omega, by omega, fun _ => c, fun e x y z y2 => absurd y2 (k e x y)⟩
  refine Lp.r1 (fun (x : Int) => -1 ≤ x ∧ x < i 504 30 ∧ (0 ≤ x → samE i x f t) ∧ ∀ e, x < e → e < i 504 30 → 0 ≤ e → samE i e f t → i 525 e ≠ d) (fun x => (x + 1).toNat) ?_ inv0
  intro x C ⟨g0, g1, g2, g3⟩ hC
  dsimp only [b15_X12_join]
  simp (disch := omega) only [st_row]
  refine ⟨fun ex => ?_, fun ex => ?_⟩
  · -- a new edge
    have hno : ∀ w', ¬ S f t d w' := by
      intro w' hw'
      obtain ⟨e, e0, e1, e2, e3⟩ := h.s _ _ _ _ hw'
      exact g3 e (by omega) e1 e0 e2 e3
    simp only [hn, wc]
    rw [wr_of (x := i 504 30 + 1) (by omega) (by omega)]
    refine ⟨by omega, by omega, by omega, by omega, by omega, by omega, by omega, ?_⟩
    generalize hm : i 504 30 = m at *
    have r23 : ∀ e, st (st (st (st (st (st (st i 523 m f) 524 m t) 525 m d) 526 m w) 527 m (i 528 (nn D * f + t))) 528 (nn D * f + t) m) 504 30 (m + 1) 523 e = if e = m then f else i 523 e := by
      intro e; simp (disch := omega) only [st_row]
      by_cases z : e = m
      · rw [z, st_eq, if_pos rfl]
      · rw [st_ne (by omega), if_neg z]
    have r24 : ∀ e, st (st (st (st (st (st (st i 523 m f) 524 m t) 525 m d) 526 m w) 527 m (i 528 (nn D * f + t))) 528 (nn D * f + t) m) 504 30 (m + 1) 524 e = if e = m then t else i 524 e := by
      intro e; simp (disch := omega) only [st_row]
      by_cases z : e = m
      · rw [z, st_eq, if_pos rfl]
      · rw [st_ne (by omega), if_neg z, st_row (by omega)]
    have r25 : ∀ e, st (st (st (st (st (st (st i 523 m f) 524 m t) 525 m d) 526 m w) 527 m (i 528 (nn D * f + t))) 528 (nn D * f + t) m) 504 30 (m + 1) 525 e = if e = m then d else i 525 e := by
      intro e; rw [st_row (by omega), st_row (by omega), st_row (by omega), st_row (by omega)]
      by_cases z : e = m
      · rw [z, st_eq, if_pos rfl]
      · rw [st_ne (by omega), if_neg z, st_row (by omega), st_row (by omega)]
    have r26 : ∀ e, st (st (st (st (st (st (st i 523 m f) 524 m t) 525 m d) 526 m w) 527 m (i 528 (nn D * f + t))) 528 (nn D * f + t) m) 504 30 (m + 1) 526 e = if e = m then w else i 526 e := by
      intro e; rw [st_row (by omega), st_row (by omega), st_row (by omega)]
      by_cases z : e = m
      · rw [z, st_eq, if_pos rfl]
      · rw [st_ne (by omega), if_neg z]; simp (disch := omega) only [st_row]
    have r27 : ∀ e, st (st (st (st (st (st (st i 523 m f) 524 m t) 525 m d) 526 m w) 527 m (i 528 (nn D * f + t))) 528 (nn D * f + t) m) 504 30 (m + 1) 527 e = if e = m then i 528 (nn D * f + t) else i 527 e := by
      intro e; rw [st_row (by omega), st_row (by omega)]
      by_cases z : e = m
      · rw [z, st_eq, if_pos rfl]
      · rw [st_ne (by omega), if_neg z]; simp (disch := omega) only [st_row]
    have r28 : ∀ c, st (st (st (st (st (st (st i 523 m f) 524 m t) 525 m d) 526 m w) 527 m (i 528 (nn D * f + t))) 528 (nn D * f + t) m) 504 30 (m + 1) 528 c = if c = nn D * f + t then m else i 528 c := by
      intro c; rw [st_row (by omega)]
      by_cases z : c = nn D * f + t
      · rw [z, st_eq, if_pos rfl]
      · rw [st_ne (by omega), if_neg z]; simp (disch := omega) only [st_row]
    have r30 : st (st (st (st (st (st (st i 523 m f) 524 m t) 525 m d) 526 m w) 527 m (i 528 (nn D * f + t))) 528 (nn D * f + t) m) 504 30 (m + 1) 504 30 = m + 1 := st_eq
    have fr : FJ i (st (st (st (st (st (st (st i 523 m f) 524 m t) 525 m d) 526 m w) 527 m (i 528 (nn D * f + t))) 528 (nn D * f + t) m) 504 30 (m + 1)) := (((((FJ.sa (by decide)).trans (FJ.sa (by decide))).trans (FJ.sa (by decide))).trans (FJ.sa (by decide))).trans (FJ.sa (by decide))).trans ((FJ.sa (by decide)).trans FJ.s4)
    generalize st (st (st (st (st (st (st i 523 m f) 524 m t) 525 m d) 526 m w) 527 m (i 528 (nn D * f + t))) 528 (nn D * f + t) m) 504 30 (m + 1) = i' at *
    have sOld : ∀ e a b, e ≠ m → (samE i' e a b ↔ samE i e a b) := by
      intro e a b z; unfold samE; rw [r23, r24, if_neg z, if_neg z]
    have sNew : ∀ a b, samE i' m a b ↔ f = a ∧ t = b := by
      intro a b; unfold samE; rw [r23, r24, if_pos rfl, if_pos rfl]
    have topOld : ∀ k a b hd, k ≤ m → topE i k a b hd → topE i' k a b hd := by
      intro k a b hd hk z
      rcases z with ⟨z1, z2⟩ | ⟨z1, z2, z3, z4⟩
      · exact .inl ⟨z1, fun e x y => by rw [sOld e a b (by omega)]; exact z2 e x y⟩
      · exact .inr ⟨z1, z2, by rw [sOld hd a b (by omega)]; exact z3, fun e x y => by rw [sOld e a b (by omega)]; exact z4 e x y⟩
    refine hQ i' fr ⟨by omega, ?_, ?_, ?_, ?_, ?_, ?_⟩
    · intro e x y
      rw [r23, r24, r25, r26]
      by_cases z : e = m
      · rw [if_pos z, if_pos z, if_pos z, if_pos z]
        exact ⟨.inr ⟨rfl, rfl, rfl, rfl⟩, fun w' hw' => hw'.elim (fun z => absurd z (hno w')) (fun z => by have := z.2.2.2; omega)⟩
      · rw [if_neg z, if_neg z, if_neg z, if_neg z]
        have hx := h.e e x (by omega)
        refine ⟨.inl hx.1, fun w' hw' => hw'.elim (fun z => hx.2 w' z) (fun z => ?_)⟩
        obtain ⟨z1, z2, z3, z4⟩ := z
        rw [z1, z2, z3] at hx
        exact absurd hx.1 (hno _)
    · intro a b c x hx
      rcases hx with hx | ⟨rfl, rfl, rfl, rfl⟩
      · obtain ⟨e, e0, e1, e2, e3⟩ := h.s _ _ _ _ hx
        exact ⟨e, e0, by omega, by rw [sOld e _ _ (by omega)]; exact e2, by rw [r25, if_neg (by omega)]; exact e3⟩
      · exact ⟨m, by omega, by omega, (sNew _ _).2 ⟨rfl, rfl⟩, by rw [r25, if_pos rfl]⟩
    · intro e e' x y x' y' z z2
      rw [r30] at y y'
      rw [r25, r25] at z2
      rw [r23, r24] at z
      by_cases c1 : e = m <;> by_cases c2 : e' = m
      · omega
      · rw [if_pos c1, if_pos c1, sOld e' _ _ c2] at z
        rw [if_pos c1, if_neg c2] at z2
        exact absurd z2.symm (g3 e' (by omega) (by omega) x' z)
      · rw [if_neg c1, if_neg c1, c2, sNew] at z
        rw [if_neg c1, if_pos c2] at z2
        exact absurd z2 (g3 e (by omega) (by omega) x ⟨z.1.symm, z.2.symm⟩)
      · rw [if_neg c1, if_neg c1, sOld e' _ _ c2] at z
        rw [if_neg c1, if_neg c2] at z2
        exact h.u e e' x (by omega) x' (by omega) z z2
    · intro a b c x hx
      rcases hx with hx | ⟨rfl, rfl, rfl, rfl⟩
      · exact h.r _ _ _ _ hx
      · exact hr
    · intro a b a0 a1 b0 b1
      rw [r28, r30]
      by_cases z : nn D * a + b = nn D * f + t
      · obtain ⟨rfl, rfl⟩ := cell_uniq b0 b1 t0 t1 z
        rw [if_pos rfl]
        exact .inr ⟨by omega, by omega, (sNew _ _).2 ⟨rfl, rfl⟩, fun e x y => by omega⟩
      · rw [if_neg z]
        have nab : ¬ (f = a ∧ t = b) := fun q => z (by rw [q.1, q.2])
        rcases topOld m a b _ (Int.le_refl _) (by have := h.h a b a0 a1 b0 b1; rw [hm] at this; exact this) with ⟨z1, z2⟩ | ⟨z1, z2, z3, z4⟩
        · refine .inl ⟨z1, fun e x y => ?_⟩
          by_cases c : e = m
          · rw [c, sNew]; exact nab
          · exact z2 e x (by omega)
        · refine .inr ⟨z1, by omega, z3, fun e x y => ?_⟩
          by_cases c : e = m
          · rw [c, sNew]; exact nab
          · exact z4 e x (by omega)
    · intro e x y
      rw [r23, r24, r27]
      by_cases z : e = m
      · rw [if_pos z, if_pos z, if_pos z, z]
        exact topOld m f t _ (Int.le_refl _) (by have := h.h f t f0 f1 t0 t1; rw [hm] at this; exact this)
      · rw [if_neg z, if_neg z, if_neg z]
        exact topOld e _ _ _ (by omega) (h.x e x (by omega))
  · have x0 : 0 ≤ x := by omega
    have hx := h.e x x0 g1
    have sx := g2 x0
    refine ⟨by omega, fun e => ?_, fun e => ?_⟩
    · -- the edge was there
      have hS : ∀ a b c, (∃ x, orS S (oneR f t d w) a b c x) ↔ ∃ x, S a b c x := by
        intro a' b' c'
        constructor
        · rintro ⟨y, q | ⟨q1, q2, q3, q4⟩⟩
          · exact ⟨y, q⟩
          · rw [q1, q2, q3, ← sx.1, ← sx.2, ← e]; exact ⟨_, hx.1⟩
        · rintro ⟨y, q⟩; exact ⟨y, .inl q⟩
      refine ⟨by omega, by omega, hQ _ (FJ.sa (by decide)) ⟨?_, ?_, ?_, ?_, ?_, ?_, ?_⟩⟩
      · rw [st_row (by omega)]; exact h.n
      · intro e' y1 y2
        rw [st_row (a := 504) (by omega)] at y2
        rw [st_row (a := 523) (by omega), st_row (a := 524) (by omega), st_row (a := 525) (by omega)]
        by_cases z : e' = x
        · subst z
          rw [st_eq]
          rw [sx.1, sx.2, e] at hx ⊢
          refine ⟨?_, fun w' hw' => ?_⟩
          · rcases Int.le_total (i 526 e') w with q | q
            · rw [Int.max_eq_right q]; exact .inr ⟨rfl, rfl, rfl, rfl⟩
            · rw [Int.max_eq_left q]; exact .inl hx.1
          · rcases hw' with q | ⟨_, _, _, q⟩
            · have := hx.2 w' q; omega
            · omega
        · rw [st_ne (by omega)]
          have h2 := h.e e' y1 y2
          refine ⟨.inl h2.1, fun w' hw' => hw'.elim (fun q => h2.2 w' q) (fun q => ?_)⟩
          exfalso
          obtain ⟨q1, q2, q3, q4⟩ := q
          exact z (h.u e' x y1 y2 x0 g1 ⟨by rw [sx.1, q1], by rw [sx.2, q2]⟩ (by rw [q3, e]))
      · intro a b c y hy
        obtain ⟨y, hy⟩ := (hS a b c).1 ⟨y, hy⟩
        obtain ⟨e', a0, a1, a2, a3⟩ := h.s _ _ _ _ hy
        refine ⟨e', a0, by rw [st_row (by omega)]; exact a1, ?_, by rw [st_row (by omega)]; exact a3⟩
        unfold samE at a2 ⊢
        rw [st_row (by omega), st_row (by omega)]; exact a2
      · intro e1 e2 x1 y1 x2 y2 z z2
        unfold samE at z
        rw [st_row (a := 504) (by omega)] at y1 y2
        simp (disch := omega) only [st_row] at z z2
        exact h.u e1 e2 x1 y1 x2 y2 z z2
      · intro a b c y hy
        rcases hy with hy | ⟨rfl, rfl, rfl, rfl⟩
        · exact h.r _ _ _ _ hy
        · exact hr
      · intro a b a0 a1 b0 b1
        have := h.h a b a0 a1 b0 b1
        unfold topE samE at this ⊢
        simp (disch := omega) only [st_row]
        exact this
      · intro e' y1 y2
        rw [st_row (a := 504) (by omega)] at y2
        have := h.x e' y1 y2
        unfold topE samE at this ⊢
        simp (disch := omega) only [st_row]
        exact this
    · -- the next one
      refine ⟨by omega, ?_⟩
      have ht := h.x x x0 g1
      rw [sx.1, sx.2] at ht
      have rest : ∀ e', i 527 x < e' → e' < i 504 30 → 0 ≤ e' → samE i e' f t → i 525 e' ≠ d := by
        intro e' y1 y2 y3 y4
        rcases Int.lt_trichotomy e' x with z | z | z
        · rcases ht with ⟨q1, q2⟩ | ⟨q1, q2, q3, q4⟩
          · exact absurd y4 (q2 e' y3 z)
          · exact absurd y4 (q4 e' y1 z)
        · rw [z]; exact e
        · exact g3 e' z y2 y3 y4
      rcases ht with ⟨q1, q2⟩ | ⟨q1, q2, q3, q4⟩
      · exact hC _ ⟨by omega, by omega, fun z => by omega, rest⟩ (by omega)
      · exact hC _ ⟨by omega, by omega, fun _ => q3, rest⟩ (by omega)
