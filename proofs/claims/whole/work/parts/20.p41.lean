def IsEnd (D : Dat) (b : Int → Int) (e : Int) : Prop := 0 ≤ e ∧ (∀ v, 0 ≤ v → v < nn D → b v + cyv D v ≤ e) ∧ (e = 0 ∨ ∃ v, 0 ≤ v ∧ v < nn D ∧ e = b v + cyv D v)
theorem end_uniq {D : Dat} {b b' : Int → Int} {e e' : Int} (hb : ∀ v, 0 ≤ v → v < nn D → b v = b' v) (h : IsEnd D b e) (g : IsEnd D b' e') : e = e' := by
  obtain ⟨h1, h2, h3⟩ := h
  obtain ⟨g1, g2, g3⟩ := g
  have l1 : e ≤ e' := by
    rcases h3 with q | ⟨v, a, c, q⟩
    · omega
    · have := g2 v a c; rw [← hb v a c] at this; omega
  have l2 : e' ≤ e := by
    rcases g3 with q | ⟨v, a, c, q⟩
    · omega
    · have := h2 v a c; rw [hb v a c] at this; omega
  omega
theorem endOf_w {D : Dat} (ok : DOk D) {i r : MI} {o : Int} {Q : Int → Prop} (h : NV D i) (hb : ∀ v, 0 ≤ v → v < nn D → -10 ≤ i o v ∧ i o v ≤ 100000) (hQ : ∀ e, IsEnd D (i o) e → Q e) : wp_X0_endOf o i r Q := by
  have hn := nn_le ok
  unfold wp_X0_endOf
  refine Lp.r2 (fun (e x : Int) => 0 ≤ x ∧ x ≤ nn D ∧ 0 ≤ e ∧ (∀ v, 0 ≤ v → v < x → i o v + cyv D v ≤ e) ∧ (e = 0 ∨ ∃ v, 0 ≤ v ∧ v < x ∧ e = i o v + cyv D v)) (fun _ x => (nn D - x).toNat) ?_ ⟨by decide, hn.1, by decide, fun v a b => by omega, .inl rfl⟩
  intro e x C ⟨h0, h1, h2, h3, h4⟩ hC
  dsimp only [b4_X0_endOf]
  rw [h.n]
  refine ⟨fun q => hQ e ⟨h2, fun v a b => h3 v a (by omega), h4.imp id (fun ⟨v, a, b, c⟩ => ⟨v, a, by omega, c⟩)⟩, fun q => ⟨by omega, ?_⟩⟩
  have hx : 0 ≤ x ∧ x < nn D := ⟨h0, by omega⟩
  have cx := cyv_r ok hx
  have bx := hb x hx.1 hx.2
  refine cyc_w ok h hx ?_
  rw [wr_of (x := i o x + cyv D x) (by clear h4; omega) (by clear h4; omega), wr_of (x := x + 1) (by clear h4; omega) (by clear h4; omega)]
  refine hC _ _ ⟨by omega, by omega, by clear h4; omega, fun v a b => ?_, ?_⟩ (by omega)
  · by_cases z : v = x
    · rw [z]; clear h4; omega
    · have := h3 v a (by omega); clear h4; omega
  · rcases Int.le_total e (i o x + cyv D x) with z | z
    · exact .inr ⟨x, h0, by omega, by clear h4; omega⟩
    · rw [Int.max_eq_left z]
      exact h4.imp id (fun ⟨v, a, b, c⟩ => ⟨v, a, by omega, c⟩)
def IsLate (D : Dat) (len : Int) (l : Int → Int) : Prop := ∀ v, 0 ≤ v → v < nn D → l v ≤ len - cyv D v ∧ (∀ t w, Ed D v t 0 w → l v ≤ l t - w) ∧ (l v = len - cyv D v ∨ ∃ t w, Ed D v t 0 w ∧ l v = l t - w)
theorem late_uniq {D : Dat} (ok : DOk D) {len : Int} {l l' : Int → Int} (h : IsLate D len l) (g : IsLate D len l') : ∀ v, 0 ≤ v → v < nn D → l v = l' v := by
  have key : ∀ (n : Nat) (v : Int), nn D - v < n → 0 ≤ v → v < nn D → l v = l' v := by
    intro n
    induction n with
    | zero => intro v a b; omega
    | succ n ih =>
      intro v a b c
      obtain ⟨h1, h2, h3⟩ := h v b c
      obtain ⟨g1, g2, g3⟩ := g v b c
      have ff : ∀ t w, Ed D v t 0 w → l t = l' t := fun t w z => by
        have := ed_props ok z
        exact ih t (by omega) this.2.1.1 this.2.1.2
      have l1 : l' v ≤ l v := by
        rcases h3 with e | ⟨t, w, e1, e2⟩
        · clear g3; omega
        · have := g2 t w e1; rw [← ff t w e1] at this; clear g3; omega
      have l2 : l v ≤ l' v := by
        rcases g3 with e | ⟨t, w, e1, e2⟩
        · clear h3; omega
        · have := h2 t w e1; rw [ff t w e1] at this; clear h3; omega
      omega
  exact fun v a b => key ((nn D - v).toNat + 1) v (by omega) a b
theorem late_ge {D : Dat} (ok : DOk D) {len : Int} {s l : Int → Int} (hs : IsSoon D s) (he : IsEnd D s len) (hl : IsLate D len l) : ∀ v, 0 ≤ v → v < nn D → s v ≤ l v := by
  have key : ∀ (n : Nat) (v : Int), nn D - v < n → 0 ≤ v → v < nn D → s v ≤ l v := by
    intro n
    induction n with
    | zero => intro v a b; omega
    | succ n ih =>
      intro v a b c
      obtain ⟨h1, h2, h3⟩ := hl v b c
      rcases h3 with e | ⟨t, w, e1, e2⟩
      · have := he.2.1 v b c; omega
      · have hp := ed_props ok e1
        have := ih t (by omega) hp.2.1.1 hp.2.1.2
        have := (hs t hp.2.1.1 hp.2.1.2).2.2.1 v w e1
        omega
  exact fun v a b => key ((nn D - v).toNat + 1) v (by omega) a b
theorem end_le {D : Dat} (ok : DOk D) {s : Int → Int} {e : Int} (hs : IsSoon D s) (he : IsEnd D s e) : e ≤ sumC D (nn D) := by
  have hn := nn_le ok
  have sb := sumC_b ok hn.1 (Int.le_refl _)
  rcases he.2.2 with q | ⟨v, a, b, q⟩
  · omega
  · have h1 := (hs v a b).2.1
    have h2 := sumC_mono ok (u := v + 1) (v := nn D) (by omega) (by omega) (Int.le_refl _)
    rw [sumC_s a] at h2
    omega
theorem latest_w {D : Dat} (ok : DOk D) {i r : MI} {Q : MI → Prop} (h : NV D i) (g : M2 D i) (hs : IsSoon D (i 462)) (hQ : ∀ i' e, FO i i' → i' 462 = i 462 → IsEnd D (i 462) e → IsLate D e (i' 463) → Q i') : wp_X9_orderLatest i r Q := by
  have hn := nn_le ok
  have sbn := sumC_b ok hn.1 (Int.le_refl _)
  unfold wp_X9_orderLatest
  have sb : ∀ v, 0 ≤ v → v < nn D → 0 ≤ i 462 v ∧ i 462 v ≤ 480 := fun v a b => by
    have h1 := (hs v a b).1
    have h2 := (hs v a b).2.1
    have h3 := sumC_b ok (v := v) a (by omega)
    omega
  refine endOf_w ok h (fun v a b => by have := sb v a b; omega) (fun len he => ?_)
  have hle := end_le ok hs he
  have he0 := he.1
  rw [h.n, wr_of (by omega) (by omega)]
  refine Lp.r2 (fun (x : Int) (m : MI) => -1 ≤ x ∧ x < nn D ∧ FO i m ∧ m 462 = i 462 ∧ ∀ v, x < v → v < nn D → i 462 v ≤ m 463 v ∧ m 463 v ≤ len - cyv D v ∧ (∀ t w, Ed D v t 0 w → m 463 v ≤ m 463 t - w) ∧ (m 463 v = len - cyv D v ∨ ∃ t w, Ed D v t 0 w ∧ m 463 v = m 463 t - w)) (fun x _ => (x + 1).toNat) ?_ ⟨by omega, by omega, FO.refl i, rfl, fun v a b => by omega⟩
  intro x m C ⟨h0, h1, h2, h3, h4⟩ hC
  dsimp only [b17_X9_orderLatest]
  have hm := h.fo ok h2
  refine ⟨fun q => hQ m len h2 h3 he (fun v a b => (h4 v (by omega) b).2), fun q => ?_⟩
  have hx : 0 ≤ x ∧ x < nn D := ⟨by omega, h1⟩
  have cx := cyv_r ok hx
  have ex := he.2.1 x hx.1 hx.2
  refine cyc_w ok hm hx ⟨by omega, ?_⟩
  rw [wr_of (x := len - cyv D x) (by omega) (by omega)]
  have up : ∀ t w, Ed D x t 0 w → x < t := fun t w z => (ed_props ok z).2.2.2.2.1 rfl
  refine Lp.r2 (fun (y : Int) (m' : MI) => 0 ≤ y ∧ y ≤ i 460 x ∧ FO i m' ∧ m' 462 = i 462 ∧ (∀ v, v ≠ x → m' 463 v = m 463 v) ∧ i 462 x ≤ m' 463 x ∧ m' 463 x ≤ len - cyv D x ∧ (∀ e, 0 ≤ e → e < y → i (267 + x) e = 0 → m' 463 x ≤ m 463 (i (170 + x) e) - i (364 + x) e) ∧ (m' 463 x = len - cyv D x ∨ ∃ e, 0 ≤ e ∧ e < y ∧ i (267 + x) e = 0 ∧ m' 463 x = m 463 (i (170 + x) e) - i (364 + x) e)) (fun y _ => (100 - y).toNat) ?_ ⟨by decide, by have := (g.z x hx.1 (by omega)).1; omega, h2.trans (FO.st (by decide)), by rw [st_row (by decide)]; exact h3, fun v z => by rw [st_ne (by omega)], by rw [st_eq]; omega, by rw [st_eq]; omega, fun e a b => by omega, .inl st_eq⟩
  intro y m3 C3 ⟨j0, j1, j2, j3, j4, j5, j6, j7, j8⟩ hC3
  dsimp only [b40_X9_orderLatest, s112_X9_orderLatest]
  have gz3 := g.z x hx.1 (by omega)
  have r460 : m3 460 = i 460 := j2 _ (by omega)
  have r170 : m3 (170 + x) = i (170 + x) := j2 _ (by omega)
  have r267 : m3 (267 + x) = i (267 + x) := j2 _ (by omega)
  have r364 : m3 (364 + x) = i (364 + x) := j2 _ (by omega)
  rw [r460, r170, r267, r364]
  refine ⟨by omega, fun q3 => ?_, fun q3 => ⟨by omega, by omega, ?_⟩⟩
  · rw [wr_of (by omega) (by omega), show x + (-1) = x - 1 by omega]
    refine hC _ _ ⟨by omega, by omega, j2, j3, fun v a b => ?_⟩ (by omega)
    have ey : y = i 460 x := by omega
    by_cases ev : v = x
    · subst ev
      refine ⟨j5, j6, fun t w z => ?_, ?_⟩
      · obtain ⟨e, e0, e1, e2, e3, e4⟩ := GrC.fd ok g z
        have := j7 e e0 (by omega) e3
        rw [e2, e4] at this
        rw [j4 t (by have := up t w z; omega)]
        exact this
      · rcases j8 with z | ⟨e, e0, e1, e2, e3⟩
        · exact .inl z
        · have hE := GrC.ed ok g hx ⟨e0, by omega⟩
          rw [e2] at hE
          have := up _ _ hE
          exact .inr ⟨i (170 + v) e, i (364 + v) e, hE, by rw [j4 (i (170 + v) e) (by omega)]; exact e3⟩
    · obtain ⟨a1, a2, a3, a4⟩ := h4 v (by omega) b
      have up2 : ∀ t w, Ed D v t 0 w → t ≠ x := fun t w z => by
        have := (ed_props ok z).2.2.2.2.1 rfl
        omega
      rw [j4 v ev]
      refine ⟨a1, a2, fun t w z => by rw [j4 t (up2 t w z)]; exact a3 t w z, ?_⟩
      rcases a4 with z | ⟨t, w, z1, z2⟩
      · exact .inl z
      · exact .inr ⟨t, w, z1, by rw [j4 t (up2 t w z1)]; exact z2⟩
  · have hE := GrC.ed ok g hx ⟨j0, by omega⟩
    rw [wr_of (x := y + 1) (by omega) (by omega)]
    refine ⟨fun e0 => ?_, fun e0 => ?_⟩
    · rw [e0] at hE
      have hut := up _ _ hE
      obtain ⟨_, ht, _, _, _, hw1, hw2⟩ := ed_props ok hE
      obtain ⟨a1, a2, _, _⟩ := h4 _ hut ht.2
      have sx := sb _ ht.1 ht.2
      have ct := cyv_r ok ht
      have ss := (hs _ ht.1 ht.2).2.2.1 x _ hE
      rw [j4 (i (170 + x) y) (by omega), wr_of (x := m 463 _ - i (364 + x) y) (by omega) (by omega)]
      refine ⟨by omega, by omega, by omega, by omega, by omega, by omega, by omega, ?_⟩
      have ev : st m3 463 x (min (m3 463 x) (m 463 (i (170 + x) y) - i (364 + x) y)) 463 x = min (m3 463 x) (m 463 (i (170 + x) y) - i (364 + x) y) := st_eq
      refine hC3 _ _ ⟨by omega, by omega, j2.trans (FO.st (by decide)), by rw [st_row (by decide)]; exact j3, fun v z => by rw [st_ne (by omega)]; exact j4 v z, ?_, ?_, ?_, ?_⟩ (by omega)
      · rw [ev]; clear j8; omega
      · rw [ev]; clear j8; omega
      · intro e a b c
        rw [ev]
        by_cases z : e = y
        · rw [z]; clear j8; omega
        · have := j7 e a (by omega) c; clear j8; omega
      · rw [ev]
        rcases Int.le_total (m3 463 x) (m 463 (i (170 + x) y) - i (364 + x) y) with z | z
        · rw [Int.min_eq_left z]
          rcases j8 with w | ⟨e, e1, e2, e3, e4⟩
          · exact .inl w
          · exact .inr ⟨e, e1, by omega, e3, e4⟩
        · exact .inr ⟨y, j0, by omega, e0, by rw [Int.min_eq_right z]⟩
    · refine hC3 _ _ ⟨by omega, by omega, j2, j3, j4, j5, j6, fun e a b c => ?_, ?_⟩ (by omega)
      · by_cases z : e = y
        · rw [z] at c; exact absurd c e0
        · exact j7 e a (by omega) c
      · rcases j8 with w | ⟨e, e1, e2, e3, e4⟩
        · exact .inl w
        · exact .inr ⟨e, e1, by omega, e3, e4⟩
