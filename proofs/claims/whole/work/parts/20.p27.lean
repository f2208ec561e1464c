/-! ===== edges: what they are ===== -/
theorem pig {α β : Type} [DecidableEq β] (R : β → α → Prop) (hinj : ∀ m x y, R m x → R m y → x = y) : ∀ (L : List α) (M : List β), L.Nodup → (∀ x ∈ L, ∃ m ∈ M, R m x) → L.length ≤ M.length := by
  intro L
  induction L with
  | nil => intro M _ _; exact Nat.zero_le _
  | cons x L ih =>
    intro M hn hm
    obtain ⟨m, h1, h2⟩ := hm x (List.mem_cons_self)
    have hx := List.nodup_cons.1 hn
    have h3 := ih (M.erase m) hx.2 (fun y hy => by
      obtain ⟨m', h4, h5⟩ := hm y (List.mem_cons_of_mem _ hy)
      have hne : m' ≠ m := by
        intro e
        rw [e] at h5
        have := hinj m x y h2 h5
        rw [this] at hx
        exact hx.1 hy
      exact ⟨m', (List.mem_erase_of_ne hne).2 h4, h5⟩)
    rw [List.length_erase_of_mem h1] at h3
    have : 0 < M.length := List.length_pos_of_mem h1
    simp only [List.length_cons]
    omega
def nn (D : Dat) : Int := (nds D).length
def nd (D : Dat) (v : Int) : Int × Int := (nds D).getD v.toNat (0, 0)
def kdv (D : Dat) (v : Int) : Int := kdN D (nd D v)
def mkv (D : Dat) (v : Int) : Int := mkN D (nd D v)
def cyv (D : Dat) (v : Int) : Int := D.cy (kdv D v)
def usv (D : Dat) (v p : Int) : Prop := iAnd (usN D (nd D v)) (iShl 1 p) ≠ 0
theorem nd_get {D : Dat} {v : Nat} (h : (v : Int) < nn D) : (nds D)[v]? = some (nd D v) := by
  unfold nn at h
  have h1 : v < (nds D).length := by omega
  unfold nd
  rw [show ((v : Nat) : Int).toNat = v by omega]
  simp [List.getElem?_eq_getElem h1]
theorem nd_mem {D : Dat} {v : Int} (h : 0 ≤ v ∧ v < nn D) : nd D v ∈ nds D := by
  have := nd_get (D := D) (v := v.toNat) (by omega)
  rw [show ((v.toNat : Nat) : Int) = v by omega] at this
  exact List.mem_of_getElem? this
theorem rls_mem {D : Dat} {k q : Int} (h : q ∈ rls D k) : (q = 0 ∧ isRd (D.F k 1)) ∨ (q = 1 ∧ D.O k ≠ 32 ∧ isRd (D.F k 2)) ∨ (q = 2 ∧ D.O k ≠ 32) ∨ (q = 3 ∧ D.F k 0 ≠ 0) ∨ (q = 4 ∧ D.F k 0 = 0 ∧ D.O k = 32 ∧ ¬ isRd (D.F k 1)) := by
  unfold rls at h
  rcases List.mem_append.1 h with h | h
  · by_cases e : isRd (D.F k 1)
    · rw [if_pos e] at h; simp at h; exact .inl ⟨h, e⟩
    · rw [if_neg e] at h; cases h
  rcases List.mem_append.1 h with h | h
  · by_cases e : D.O k = 32
    · rw [if_pos e] at h; cases h
    · rw [if_neg e] at h
      rcases List.mem_append.1 h with h | h
      · by_cases e2 : isRd (D.F k 2)
        · rw [if_pos e2] at h; simp at h; exact .inr (.inl ⟨h, e, e2⟩)
        · rw [if_neg e2] at h; cases h
      · simp at h; exact .inr (.inr (.inl ⟨h, e⟩))
  · by_cases e : D.F k 0 = 0
    · rw [if_pos e] at h
      by_cases e2 : D.O k = 32 ∧ ¬ isRd (D.F k 1)
      · rw [if_pos e2] at h; simp at h; exact .inr (.inr (.inr (.inr ⟨h, e, e2.1, e2.2⟩)))
      · rw [if_neg e2] at h; cases h
    · rw [if_neg e] at h; simp at h; exact .inr (.inr (.inr (.inl ⟨h, e⟩)))
theorem rls_nodup {D : Dat} {k : Int} : (rls D k).Nodup := by
  unfold rls
  repeat' split
  all_goals decide
theorem ndl_mem {D : Dat} {x : Int × Int} : ∀ {n : Nat}, x ∈ ndl D n → 0 ≤ x.1 ∧ x.1 < n ∧ x.2 ∈ rls D (x.1 % D.cnt) := by
  intro n
  induction n with
  | zero => intro h; cases h
  | succ n ih =>
    intro h
    rcases List.mem_append.1 h with h | h
    · have := ih h
      refine ⟨this.1, by omega, this.2.2⟩
    · obtain ⟨q, hq, e⟩ := List.mem_map.1 h
      rw [← e]
      exact ⟨by dsimp only; omega, by dsimp only; omega, hq⟩
theorem ndl_nodup {D : Dat} (n : Nat) : (ndl D n).Nodup := by
  induction n with
  | zero => exact List.nodup_nil
  | succ n ih =>
    refine List.nodup_append.2 ⟨ih, ?_, ?_⟩
    · unfold List.Nodup
      rw [List.pairwise_map]
      exact List.Pairwise.imp (fun h e => h (Prod.mk.inj e).2) rls_nodup
    · intro a ha b hb e
      have h1 := ndl_mem ha
      obtain ⟨q, hq, e2⟩ := List.mem_map.1 hb
      rw [e, ← e2] at h1
      have := h1.2.1
      dsimp only at this
      omega
theorem nd_inj {D : Dat} {u v : Int} (hu : 0 ≤ u ∧ u < nn D) (hv : 0 ≤ v ∧ v < nn D) (e : nd D u = nd D v) : u = v := by
  have a := nd_get (D := D) (v := u.toNat) (by omega)
  have b := nd_get (D := D) (v := v.toNat) (by omega)
  rw [show ((u.toNat : Nat) : Int) = u by omega] at a
  rw [show ((v.toNat : Nat) : Int) = v by omega] at b
  rw [e, ← b] at a
  have hl := get_lt b
  have hl2 : u.toNat < (nds D).length := by unfold nn at hu; omega
  have := (ndl_nodup (D := D) (D.cnt * D.fac).toNat)
  have h2 := (List.getElem?_inj hl2 this).1 a
  omega
theorem nd_ok {D : Dat} (ok : DOk D) {v : Int} (h : 0 ≤ v ∧ v < nn D) : 0 ≤ (nd D v).1 ∧ (nd D v).1 < 24 ∧ 0 ≤ stK D (nd D v) ∧ stK D (nd D v) < D.cnt ∧ (nd D v).2 ∈ rls D (stK D (nd D v)) := by
  have h1 := ndl_mem (nd_mem h)
  have hb := ok.body
  have hc := ok.cnt
  have hf := ok.fac
  have h0 : 0 ≤ D.cnt * D.fac := Int.mul_nonneg hc.1 (by omega)
  have hpos : 0 < D.cnt := by
    rcases Int.lt_or_le 0 D.cnt with q | q
    · exact q
    · have : D.cnt = 0 := by omega
      rw [this, Int.zero_mul] at h1
      simp at h1
      omega
  refine ⟨h1.1, by omega, Int.emod_nonneg _ (by omega), Int.emod_lt_of_pos _ hpos, h1.2.2⟩
theorem nn_le {D : Dat} (ok : DOk D) : 0 ≤ nn D ∧ nn D ≤ 96 := by
  have := nds_len ok
  unfold nn
  omega
theorem kdv_r {D : Dat} (ok : DOk D) {v : Int} (h : 0 ≤ v ∧ v < nn D) : 0 ≤ kdv D v ∧ kdv D v < 7 := by
  obtain ⟨h1, h2, h3, h4, h5⟩ := nd_ok ok h
  have sok := ok.st _ h3 h4
  have f0 := sok.f0
  have := opk_r (D.O (stK D (nd D v)))
  unfold kdv kdN
  rcases rls_mem h5 with q | q | q | q | q
  · rw [if_pos q.1]; omega
  · rw [if_neg (by omega), if_pos q.1]; omega
  · rw [if_neg (by omega), if_neg (by omega), if_pos q.1]; omega
  · rw [if_neg (by omega), if_neg (by omega), if_neg (by omega), if_pos q.1]; omega
  · rw [if_neg (by omega), if_neg (by omega), if_neg (by omega), if_neg (by omega)]; omega
theorem cyv_r {D : Dat} (ok : DOk D) {v : Int} (h : 0 ≤ v ∧ v < nn D) : 1 ≤ cyv D v ∧ cyv D v ≤ 5 := by
  have := kdv_r ok h
  exact ok.cy _ this.1 this.2
theorem bit_one : ∀ a < 8, ∀ p < 8, (iAnd (iShl 1 ((a : Nat) : Int)) (iShl 1 ((p : Nat) : Int)) ≠ 0 ↔ a = p) := by decide +kernel
theorem bit_two : ∀ a < 8, ∀ b < 8, ∀ p < 8, (iAnd (iOr (iShl 1 ((a : Nat) : Int)) (iShl 1 ((b : Nat) : Int))) (iShl 1 ((p : Nat) : Int)) ≠ 0 ↔ (a = p ∨ b = p)) := by decide +kernel
theorem bit_l : ∀ a < 8, iOr (iShl 1 ((a : Nat) : Int)) 0 = iShl 1 ((a : Nat) : Int) ∧ iOr 0 (iShl 1 ((a : Nat) : Int)) = iShl 1 ((a : Nat) : Int) := by decide +kernel
theorem bit_z : ∀ p < 8, iAnd 0 (iShl 1 ((p : Nat) : Int)) = 0 := by decide +kernel
/-- which registers a node uses -/
def useP (D : Dat) (x : Int × Int) (p : Int) : Prop :=
  (x.2 = 2 ∧ ((D.F (stK D x) 1 = 0 ∧ D.N (stK D x) 1 = p) ∨ (D.F (stK D x) 2 = 0 ∧ D.N (stK D x) 2 = p))) ∨ ((x.2 = 4 ∨ (x.2 = 3 ∧ D.O (stK D x) = 32)) ∧ D.F (stK D x) 1 = 0 ∧ D.N (stK D x) 1 = p)
theorem msk_c {D : Dat} (ok : DOk D) {k q : Int} (hk : 0 ≤ k ∧ k < D.cnt) (hq : 0 ≤ q ∧ q < 3) : (D.F k q = 0 ∧ ∃ a : Nat, a < 8 ∧ D.N k q = a ∧ mskN D k q = iShl 1 (a : Int)) ∨ (D.F k q ≠ 0 ∧ mskN D k q = 0) := by
  by_cases e : D.F k q = 0
  · left
    have := (ok.st k hk.1 hk.2).n0 q hq.1 hq.2 e
    refine ⟨e, (D.N k q).toNat, by omega, by omega, ?_⟩
    unfold mskN
    rw [if_pos e, show (((D.N k q).toNat : Nat) : Int) = D.N k q by omega]
  · right
    unfold mskN
    rw [if_neg e]
    exact ⟨e, rfl⟩
theorem usv_iff {D : Dat} (ok : DOk D) {v p : Int} (h : 0 ≤ v ∧ v < nn D) (hp : 0 ≤ p ∧ p < 8) : usv D v p ↔ useP D (nd D v) p := by
  obtain ⟨h1, h2, h3, h4, h5⟩ := nd_ok ok h
  obtain ⟨n, rfl⟩ := Int.eq_ofNat_of_zero_le hp.1
  have hn : n < 8 := by omega
  unfold usv useP usN
  have m1 := msk_c ok ⟨h3, h4⟩ (q := 1) (by decide)
  have m2 := msk_c ok ⟨h3, h4⟩ (q := 2) (by decide)
  by_cases e2 : (nd D v).2 = 2
  · rw [if_pos e2]
    rcases m1 with ⟨f1, a, ha, ea, ma⟩ | ⟨f1, ma⟩ <;> rcases m2 with ⟨f2, b, hb, eb, mb⟩ | ⟨f2, mb⟩
    · rw [ma, mb, bit_two a ha b hb n hn]; simp [e2, f1, f2, ea, eb]; omega
    · rw [ma, mb, (bit_l a ha).1, bit_one a ha n hn]; simp [e2, f1, f2, ea]; omega
    · rw [ma, mb, (bit_l b hb).2, bit_one b hb n hn]; simp [e2, f1, f2, eb]; omega
    · rw [ma, mb, show iOr 0 0 = 0 by decide, bit_z n hn]; simp [e2, f1, f2]
  · rw [if_neg e2]
    by_cases e4 : (nd D v).2 = 4 ∨ ((nd D v).2 = 3 ∧ D.O (stK D (nd D v)) = 32)
    · rw [if_pos e4]
      rcases m1 with ⟨f1, a, ha, ea, ma⟩ | ⟨f1, ma⟩
      · rw [ma, bit_one a ha n hn]; simp [e2, e4, f1, ea]; omega
      · rw [ma, bit_z n hn]; simp [e2, f1]
    · rw [if_neg e4, bit_z n hn]; simp [e2, e4]
/-- two users of one statement are one -/
theorem user_one {D : Dat} (ok : DOk D) {u v p q : Int} (hu : 0 ≤ u ∧ u < nn D) (hv : 0 ≤ v ∧ v < nn D) (h1 : useP D (nd D u) p) (h2 : useP D (nd D v) q) (e : (nd D u).1 = (nd D v).1) : u = v := by
  obtain ⟨_, _, _, _, a5⟩ := nd_ok ok hu
  obtain ⟨_, _, _, _, b5⟩ := nd_ok ok hv
  refine nd_inj hu hv ?_
  have ek : stK D (nd D u) = stK D (nd D v) := by unfold stK; rw [e]
  rw [ek] at a5
  have : (nd D u).2 = (nd D v).2 := by
    unfold useP at h1 h2
    rw [ek] at h1
    rcases rls_mem a5 with w | w | w | w | w <;> rcases rls_mem b5 with z | z | z | z | z <;> omega
  exact Prod.ext e this
