theorem raw_all {D : Dat} (ok : DOk D) (L : List (Int × Int × Int)) (hn : L.Nodup) (hL : ∀ x ∈ L, ∃ w, Raw D x.1 x.2.1 x.2.2 w) : L.length ≤ 9600 := by
  have key : ∀ (m : Nat) (L : List (Int × Int × Int)), L.Nodup → (∀ x ∈ L, x.1 < m ∧ ∃ w, Raw D x.1 x.2.1 x.2.2 w) → L.length ≤ 100 * m := by
    intro m
    induction m with
    | zero =>
      intro L hn hL
      cases L with
      | nil => simp
      | cons x L =>
        obtain ⟨h1, w, h2⟩ := hL x List.mem_cons_self
        have := h2.1
        omega
    | succ m ih =>
      intro L hn hL
      have e := List.length_eq_countP_add_countP (fun x : Int × Int × Int => decide (x.1 < (m : Int))) (l := L)
      have h1 : List.countP (fun x : Int × Int × Int => decide (x.1 < (m : Int))) L ≤ 100 * m := by
        rw [List.countP_eq_length_filter]
        refine ih _ (List.Pairwise.filter _ hn) (fun x hx => ?_)
        have := List.mem_filter.1 hx
        exact ⟨by simpa using this.2, (hL x this.1).2⟩
      have h2 : List.countP (fun x : Int × Int × Int => decide (¬ (decide (x.1 < (m : Int))) = true)) L ≤ 100 := by
        rw [List.countP_eq_length_filter]
        have hm : ∀ x ∈ L.filter (fun x : Int × Int × Int => decide (¬ (decide (x.1 < (m : Int))) = true)), x.1 = m ∧ ∃ w, Raw D x.1 x.2.1 x.2.2 w := by
          intro x hx
          have := List.mem_filter.1 hx
          have h3 := hL x this.1
          have h4 : ¬ x.1 < (m : Int) := by simpa using this.2
          exact ⟨by omega, h3.2⟩
        have hnd : (L.filter (fun x : Int × Int × Int => decide (¬ (decide (x.1 < (m : Int))) = true))).Nodup := List.Pairwise.filter _ hn
        generalize L.filter (fun x : Int × Int × Int => decide (¬ (decide (x.1 < (m : Int))) = true)) = L2 at *
        cases hL2 : L2 with
        | nil => simp
        | cons y L3 =>
          rw [← hL2]
          obtain ⟨y1, w, y2⟩ := hm y (by rw [hL2]; exact List.mem_cons_self)
          have hf : 0 ≤ (m : Int) ∧ (m : Int) < nn D := by rw [← y1]; exact ⟨y2.1, y2.2.1⟩
          have := raw_100 ok hf (L2.map (fun x => x.2)) (by
            unfold List.Nodup
            rw [List.pairwise_map]
            refine List.Pairwise.imp_of_mem (fun ha hb h e => h (Prod.ext ?_ e)) hnd
            rw [(hm _ ha).1, (hm _ hb).1]) (fun x hx => by
            obtain ⟨z, hz, e⟩ := List.mem_map.1 hx
            obtain ⟨z1, w, z2⟩ := hm z hz
            rw [← e, ← z1]
            exact ⟨w, z2⟩)
          simpa using this
      omega
  have hnn := nn_le ok
  have := key 96 L hn (fun x hx => by
    obtain ⟨w, hw⟩ := hL x hx
    exact ⟨by have := hw.2.1; omega, w, hw⟩)
  omega
/-! ===== the class's graph ===== -/
abbrev RS : Type := Int → Int → Int → Int → Prop
def Mx (S : RS) (f t d w : Int) : Prop := S f t d w ∧ ∀ w', S f t d w' → w' ≤ w
def orS (S T : RS) : RS := fun a b c x => S a b c x ∨ T a b c x
def oneR (f t d w : Int) : RS := fun a b c x => a = f ∧ b = t ∧ c = d ∧ x = w
theorem Mx_uniq {S : RS} {f t d w w' : Int} (h : Mx S f t d w) (g : Mx S f t d w') : w = w' := by
  have h1 := h.2 _ g.1
  have h2 := g.2 _ h.1
  omega
def GrC (D : Dat) (i : MI) (S : RS) : Prop := (∀ f, 0 ≤ f → f < 96 → 0 ≤ i 460 f ∧ i 460 f ≤ 100) ∧ (∀ f e, 0 ≤ f → f < 96 → 0 ≤ e → e < i 460 f → Mx S f (i (170 + f) e) (i (267 + f) e) (i (364 + f) e)) ∧ (∀ f t d w, S f t d w → ∃ e, 0 ≤ e ∧ e < i 460 f ∧ i (170 + f) e = t ∧ i (267 + f) e = d) ∧ (∀ f e e', 0 ≤ f → f < 96 → 0 ≤ e → e < i 460 f → 0 ≤ e' → e' < i 460 f → i (170 + f) e = i (170 + f) e' → i (267 + f) e = i (267 + f) e' → e = e') ∧ (∀ f t d w, S f t d w → Raw D f t d w) ∧ (∃ L : List (Int × Int × Int), L.Nodup ∧ (∀ x : Int × Int × Int, x ∈ L ↔ ∃ w, S x.1 x.2.1 x.2.2 w) ∧ i 168 4 = L.length)
theorem GrC.z {D : Dat} {i : MI} {S : RS} (h0 : GrC D i S) : ∀ f, 0 ≤ f → f < 96 → 0 ≤ i 460 f ∧ i 460 f ≤ 100 := h0.1
theorem GrC.e {D : Dat} {i : MI} {S : RS} (h0 : GrC D i S) : ∀ f e, 0 ≤ f → f < 96 → 0 ≤ e → e < i 460 f → Mx S f (i (170 + f) e) (i (267 + f) e) (i (364 + f) e) := h0.2.1
theorem GrC.s {D : Dat} {i : MI} {S : RS} (h0 : GrC D i S) : ∀ f t d w, S f t d w → ∃ e, 0 ≤ e ∧ e < i 460 f ∧ i (170 + f) e = t ∧ i (267 + f) e = d := h0.2.2.1
theorem GrC.u {D : Dat} {i : MI} {S : RS} (h0 : GrC D i S) : ∀ f e e', 0 ≤ f → f < 96 → 0 ≤ e → e < i 460 f → 0 ≤ e' → e' < i 460 f → i (170 + f) e = i (170 + f) e' → i (267 + f) e = i (267 + f) e' → e = e' := h0.2.2.2.1
theorem GrC.r {D : Dat} {i : MI} {S : RS} (h0 : GrC D i S) : ∀ f t d w, S f t d w → Raw D f t d w := h0.2.2.2.2.1
theorem GrC.c {D : Dat} {i : MI} {S : RS} (h0 : GrC D i S) : ∃ L : List (Int × Int × Int), L.Nodup ∧ (∀ x : Int × Int × Int, x ∈ L ↔ ∃ w, S x.1 x.2.1 x.2.2 w) ∧ i 168 4 = L.length := h0.2.2.2.2.2
theorem GrC.mk {D : Dat} {i : MI} {S : RS} (h0 : ∀ f, 0 ≤ f → f < 96 → 0 ≤ i 460 f ∧ i 460 f ≤ 100) (h1 : ∀ f e, 0 ≤ f → f < 96 → 0 ≤ e → e < i 460 f → Mx S f (i (170 + f) e) (i (267 + f) e) (i (364 + f) e)) (h2 : ∀ f t d w, S f t d w → ∃ e, 0 ≤ e ∧ e < i 460 f ∧ i (170 + f) e = t ∧ i (267 + f) e = d) (h3 : ∀ f e e', 0 ≤ f → f < 96 → 0 ≤ e → e < i 460 f → 0 ≤ e' → e' < i 460 f → i (170 + f) e = i (170 + f) e' → i (267 + f) e = i (267 + f) e' → e = e') (h4 : ∀ f t d w, S f t d w → Raw D f t d w) (h5 : ∃ L : List (Int × Int × Int), L.Nodup ∧ (∀ x : Int × Int × Int, x ∈ L ↔ ∃ w, S x.1 x.2.1 x.2.2 w) ∧ i 168 4 = L.length) : GrC D i S := ⟨h0, h1, h2, h3, h4, h5⟩
/-- what joining leaves alone -/
def FG (i i' : MI) : Prop := ∀ a, a ≠ 168 → a ≠ 460 → (a < 170 ∨ 459 < a ∨ a = 266 ∨ a = 363) → i' a = i a
theorem FG.refl (i : MI) : FG i i := fun _ _ _ _ => rfl
theorem FG.trans {i j k : MI} (h : FG i j) (g : FG j k) : FG i k := fun a x y z => (g a x y z).trans (h a x y z)
theorem find_w {D : Dat} {i r : MI} {S : RS} {f t d : Int} {Q : Int → Prop} (h : GrC D i S) (hf : 0 ≤ f ∧ f < 96)
    (h1 : ∀ e, 0 ≤ e → e < i 460 f → i (170 + f) e = t → i (267 + f) e = d → Q e) (h0 : (∀ w, ¬ S f t d w) → Q (-1)) : wp_X2_find f t d i r Q := by
  have hz := h.z f hf.1 hf.2
  unfold wp_X2_find
  refine Lp.r1 (fun (x : Int) => 0 ≤ x ∧ x ≤ i 460 f ∧ ∀ e, 0 ≤ e → e < x → ¬ (i (170 + f) e = t ∧ i (267 + f) e = d)) (fun x => (100 - x).toNat) ?_ ⟨by decide, hz.1, fun e a b => by omega⟩
  intro x C ⟨g0, g1, g2⟩ hC
  dsimp only [b3_X2_find, s43_X2_find]
  have nxt : ¬ (i (170 + f) x = t ∧ i (267 + f) x = d) → ¬ i 460 f ≤ x → C (wr (x + 1)) := by
    intro q q2
    rw [wr_of (by omega) (by omega)]
    refine hC _ ⟨by omega, by omega, fun e a b => ?_⟩ (by omega)
    by_cases w : e = x
    · rw [w]; exact q
    · exact g2 e a (by omega)
  refine ⟨hf, fun q => h0 (fun w hw => ?_), fun q => ⟨hf, ⟨g0, by omega⟩, fun e1 => ⟨hf, ⟨g0, by omega⟩, fun e2 => h1 x g0 (by omega) e1 e2, fun e2 => nxt (fun z => e2 z.2) q⟩, fun e1 => nxt (fun z => e1 z.1) q⟩⟩
  obtain ⟨e, a, b, c⟩ := h.s f t d w hw
  exact g2 e a (by omega) c
theorem put_w {D : Dat} (ok : DOk D) {i r : MI} {S : RS} {f t d w : Int} {Q : MI → Prop} (h : GrC D i S) (hr : Raw D f t d w) (hQ : ∀ i', FG i i' → GrC D i' (orS S (oneR f t d w)) → Q i') : wp_X2_put f t d w i r Q := by
  have hnn := nn_le ok
  have hf : 0 ≤ f ∧ f < 96 := ⟨hr.1, by have := hr.2.1; omega⟩
  have hz := h.z f hf.1 hf.2
  unfold wp_X2_put s111_X2_put
  refine find_w h hf (fun e a b c1 c2 => ⟨fun q => by omega, fun _ => ⟨hf, hf, by omega, by omega, ?_⟩⟩) (fun hno => ⟨fun _ => ⟨hf, fun q => ?_, fun q => ⟨hf, hf, by omega, hf, by omega, hf, by omega, hf, ?_⟩⟩, fun q => absurd rfl q⟩)
  · -- the edge was there
    have hm := h.e f e hf.1 hf.2 a b
    rw [c1, c2] at hm
    have hS : ∀ a b c, (∃ x, orS S (oneR f t d w) a b c x) ↔ ∃ x, S a b c x := by
      intro a' b' c'
      constructor
      · rintro ⟨x, q | ⟨q1, q2, q3, q4⟩⟩
        · exact ⟨x, q⟩
        · rw [q1, q2, q3]; exact ⟨_, hm.1⟩
      · rintro ⟨x, q⟩; exact ⟨x, .inl q⟩
    refine hQ _ (fun b x y z => st_row (by omega)) ⟨?_, ?_, ?_, ?_, ?_, ?_⟩
    · intro g x y; rw [st_row (by omega)]; exact h.z g x y
    · intro g e' x y z1 z2
      rw [st_row (a := 460) (by omega)] at z2
      rw [st_row (a := 170 + g) (by omega), st_row (a := 267 + g) (by omega)]
      have h2 := h.e g e' x y z1 z2
      by_cases ee : g = f ∧ e' = e
      · rw [ee.1, ee.2, st_eq, c1, c2]
        refine ⟨?_, fun w' hw' => ?_⟩
        · rcases Int.le_total (i (364 + f) e) w with q | q
          · rw [Int.max_eq_right q]; exact .inr ⟨rfl, rfl, rfl, rfl⟩
          · rw [Int.max_eq_left q]; exact .inl hm.1
        · rcases hw' with q | ⟨_, _, _, q⟩
          · have := hm.2 w' q; omega
          · omega
      · rw [st_ne (by omega)]
        refine ⟨.inl h2.1, fun w' hw' => ?_⟩
        rcases hw' with q | ⟨q1, q2, q3, q4⟩
        · exact h2.2 w' q
        · exfalso
          apply ee
          rw [q1] at z2 q2 q3 ⊢
          exact ⟨rfl, h.u f e' e hf.1 hf.2 z1 z2 a b (by rw [q2, c1]) (by rw [q3, c2])⟩
    · intro g t' d' w' hw'
      obtain ⟨x, hx⟩ := (hS g t' d').1 ⟨w', hw'⟩
      obtain ⟨e', z1, z2, z3, z4⟩ := h.s g t' d' x hx
      have hg := (h.r _ _ _ _ hx)
      have hg2 : 0 ≤ g ∧ g < 96 := ⟨hg.1, by have := hg.2.1; omega⟩
      exact ⟨e', z1, by rw [st_row (by omega)]; exact z2, by rw [st_row (by omega)]; exact z3, by rw [st_row (by omega)]; exact z4⟩
    · intro g e1 e2 x y z1 z2 z3 z4
      rw [st_row (a := 460) (by omega)] at z2 z4
      rw [st_row (a := 170 + g) (by omega), st_row (a := 267 + g) (by omega)]
      exact h.u g e1 e2 x y z1 z2 z3 z4
    · intro g t' d' w' hw'
      rcases hw' with q | ⟨q1, q2, q3, q4⟩
      · exact h.r _ _ _ _ q
      · rw [q1, q2, q3, q4]; exact hr
    · obtain ⟨L, l1, l2, l3⟩ := h.c
      exact ⟨L, l1, fun x => by rw [l2, hS], by rw [st_row (by omega)]; exact l3⟩
  · -- there is room
    exfalso
    let L := (List.range 100).map (fun (e : Nat) => (i (170 + f) (e : Int), i (267 + f) (e : Int))) ++ [(t, d)]
    have := raw_100 ok ⟨hr.1, hr.2.1⟩ L (by
      refine List.nodup_append.2 ⟨?_, by simp, ?_⟩
      · unfold List.Nodup
        rw [List.pairwise_map]
        refine List.Pairwise.imp_of_mem (fun ha hb hne e => ?_) List.nodup_range
        have a1 := List.mem_range.1 ha
        have b1 := List.mem_range.1 hb
        have := h.u f _ _ hf.1 hf.2 (Int.natCast_nonneg _) (by omega) (Int.natCast_nonneg _) (by omega) (Prod.mk.inj e).1 (Prod.mk.inj e).2
        omega
      · intro a ha b hb e
        simp at hb
        obtain ⟨n, hn, e2⟩ := List.mem_map.1 ha
        have n1 := List.mem_range.1 hn
        have hm := h.e f n hf.1 hf.2 (Int.natCast_nonneg _) (by omega)
        rw [e, hb] at e2
        rw [(Prod.mk.inj e2).1, (Prod.mk.inj e2).2] at hm
        exact hno _ hm.1) (fun x hx => by
      rcases List.mem_append.1 hx with q | q
      · obtain ⟨n, hn, e2⟩ := List.mem_map.1 q
        have n1 := List.mem_range.1 hn
        have hm := h.e f n hf.1 hf.2 (Int.natCast_nonneg _) (by omega)
        rw [← e2]
        exact ⟨_, h.r _ _ _ _ hm.1⟩
      · simp at q
        rw [q]
        exact ⟨w, hr⟩)
    simp [L] at this
  · -- a new edge
    obtain ⟨L, l1, l2, l3⟩ := h.c
    have hnew : (f, t, d) ∉ L := fun z => by
      obtain ⟨x, hx⟩ := (l2 _).1 z
      exact hno x hx
    have hlen : L.length ≤ 9600 := raw_all ok L l1 (fun x hx => by
      obtain ⟨y, hy⟩ := (l2 x).1 hx
      exact ⟨y, h.r _ _ _ _ hy⟩)
    have e168 : (st (st (st (st i (170 + f) (i 460 f) t) (267 + f) (i 460 f) d) (364 + f) (i 460 f) w) 460 f (wr (i 460 f + 1))) 168 4 = L.length := by
      simp (disch := omega) only [st_row]; exact l3
    rw [e168, wr_of (x := (L.length : Int) + 1) (by omega) (by omega), wr_of (x := i 460 f + 1) (by omega) (by omega)]
    have r460 : ∀ g, st (st (st (st (st i (170 + f) (i 460 f) t) (267 + f) (i 460 f) d) (364 + f) (i 460 f) w) 460 f (i 460 f + 1)) 168 4 ((L.length : Int) + 1) 460 g = if g = f then i 460 f + 1 else i 460 g := by
      intro g
      rw [st_row (by omega)]
      by_cases e : g = f
      · rw [e, st_eq, if_pos rfl]
      · rw [st_ne (by omega), if_neg e]; simp (disch := omega) only [st_row]
    have rT : ∀ g e, 0 ≤ g → g < 96 → st (st (st (st (st i (170 + f) (i 460 f) t) (267 + f) (i 460 f) d) (364 + f) (i 460 f) w) 460 f (i 460 f + 1)) 168 4 ((L.length : Int) + 1) (170 + g) e = if g = f ∧ e = i 460 f then t else i (170 + g) e := by
      intro g e x y
      simp (disch := omega) only [st_row]
      by_cases q : g = f ∧ e = i 460 f
      · rw [q.1, q.2, st_eq, if_pos ⟨rfl, rfl⟩]
      · rw [st_ne (by omega), if_neg q]
    have rD : ∀ g e, 0 ≤ g → g < 96 → st (st (st (st (st i (170 + f) (i 460 f) t) (267 + f) (i 460 f) d) (364 + f) (i 460 f) w) 460 f (i 460 f + 1)) 168 4 ((L.length : Int) + 1) (267 + g) e = if g = f ∧ e = i 460 f then d else i (267 + g) e := by
      intro g e x y
      rw [st_row (by omega), st_row (by omega), st_row (by omega)]
      by_cases q : g = f ∧ e = i 460 f
      · rw [q.1, q.2, st_eq, if_pos ⟨rfl, rfl⟩]
      · rw [st_ne (by omega), if_neg q, st_row (by omega)]
    have rW : ∀ g e, 0 ≤ g → g < 96 → st (st (st (st (st i (170 + f) (i 460 f) t) (267 + f) (i 460 f) d) (364 + f) (i 460 f) w) 460 f (i 460 f + 1)) 168 4 ((L.length : Int) + 1) (364 + g) e = if g = f ∧ e = i 460 f then w else i (364 + g) e := by
      intro g e x y
      rw [st_row (by omega), st_row (by omega)]
      by_cases q : g = f ∧ e = i 460 f
      · rw [q.1, q.2, st_eq, if_pos ⟨rfl, rfl⟩]
      · rw [st_ne (by omega), if_neg q, st_row (by omega), st_row (by omega)]
    have rC : st (st (st (st (st i (170 + f) (i 460 f) t) (267 + f) (i 460 f) d) (364 + f) (i 460 f) w) 460 f (i 460 f + 1)) 168 4 ((L.length : Int) + 1) 168 4 = (L.length : Int) + 1 := st_eq
    have fr : FG i (st (st (st (st (st i (170 + f) (i 460 f) t) (267 + f) (i 460 f) d) (364 + f) (i 460 f) w) 460 f (i 460 f + 1)) 168 4 ((L.length : Int) + 1)) := by
      intro b x y z
      simp (disch := omega) only [st_row]
    generalize st (st (st (st (st i (170 + f) (i 460 f) t) (267 + f) (i 460 f) d) (364 + f) (i 460 f) w) 460 f (i 460 f + 1)) 168 4 ((L.length : Int) + 1) = m at *
    refine hQ m fr ⟨?_, ?_, ?_, ?_, ?_, ?_⟩
    · intro g x y
      rw [r460]
      have := h.z g x y
      split <;> omega
    · intro g e x y z1 z2
      rw [r460] at z2
      rw [rT g e x y, rD g e x y, rW g e x y]
      by_cases q2 : g = f ∧ e = i 460 f
      · rw [if_pos q2, if_pos q2, if_pos q2, q2.1]
        refine ⟨.inr ⟨rfl, rfl, rfl, rfl⟩, fun w' hw' => ?_⟩
        rcases hw' with z | ⟨_, _, _, z⟩
        · exact absurd z (hno w')
        · omega
      · rw [if_neg q2, if_neg q2, if_neg q2]
        have z3 : e < i 460 g := by
          by_cases ee : g = f
          · rw [if_pos ee] at z2; rw [ee]; omega
          · rw [if_neg ee] at z2; exact z2
        have hm := h.e g e x y z1 z3
        refine ⟨.inl hm.1, fun w' hw' => ?_⟩
        rcases hw' with z | ⟨z4, z5, z6, z7⟩
        · exact hm.2 w' z
        · exfalso
          rw [z5, z6, z4] at hm
          exact hno _ hm.1
    · intro g t' d' w' hw'
      rcases hw' with z | ⟨z4, z5, z6, z7⟩
      · have hg := h.r _ _ _ _ z
        have hg2 : 0 ≤ g ∧ g < 96 := ⟨hg.1, by have := hg.2.1; omega⟩
        obtain ⟨e, e1, e2, e3, e4⟩ := h.s g t' d' w' z
        have hne : ¬ (g = f ∧ e = i 460 f) := fun z => by rw [z.1, z.2] at e2; omega
        refine ⟨e, e1, ?_, ?_, ?_⟩
        · rw [r460]; split
          · rename_i ee; rw [ee] at e2; omega
          · exact e2
        · rw [rT g e hg2.1 hg2.2, if_neg hne]; exact e3
        · rw [rD g e hg2.1 hg2.2, if_neg hne]; exact e4
      · rw [z4]
        refine ⟨i 460 f, hz.1, ?_, ?_, ?_⟩
        · rw [r460, if_pos rfl]; omega
        · rw [rT f _ hf.1 hf.2, if_pos ⟨rfl, rfl⟩, z5]
        · rw [rD f _ hf.1 hf.2, if_pos ⟨rfl, rfl⟩, z6]
    · intro g e1 e2 x y z1 z2 z3 z4 z5 z6
      rw [r460] at z2 z4
      rw [rT g e1 x y, rT g e2 x y] at z5
      rw [rD g e1 x y, rD g e2 x y] at z6
      have old : ∀ e, 0 ≤ e → e < i 460 f → ¬ (i (170 + f) e = t ∧ i (267 + f) e = d) := by
        intro e a1 a2 a3
        have hm := h.e f e hf.1 hf.2 a1 a2
        rw [a3.1, a3.2] at hm
        exact hno _ hm.1
      by_cases eg : g = f
      · rw [eg] at z2 z4 z5 z6
        rw [if_pos rfl] at z2 z4
        by_cases c1 : e1 = i 460 f <;> by_cases c2 : e2 = i 460 f
        · omega
        · rw [if_pos ⟨rfl, c1⟩, if_neg (fun z => c2 z.2)] at z5 z6
          exact absurd ⟨z5.symm, z6.symm⟩ (old e2 z3 (by omega))
        · rw [if_neg (fun z => c1 z.2), if_pos ⟨rfl, c2⟩] at z5 z6
          exact absurd ⟨z5, z6⟩ (old e1 z1 (by omega))
        · rw [if_neg (fun z => c1 z.2), if_neg (fun z => c2 z.2)] at z5 z6
          exact h.u f e1 e2 hf.1 hf.2 z1 (by omega) z3 (by omega) z5 z6
      · rw [if_neg eg] at z2 z4
        rw [if_neg (fun z => eg z.1), if_neg (fun z => eg z.1)] at z5 z6
        exact h.u g e1 e2 x y z1 z2 z3 z4 z5 z6
    · intro g t' d' w' hw'
      rcases hw' with z | ⟨z4, z5, z6, z7⟩
      · exact h.r _ _ _ _ z
      · rw [z4, z5, z6, z7]; exact hr
    · refine ⟨(f, t, d) :: L, List.nodup_cons.2 ⟨hnew, l1⟩, fun x => ?_, by rw [rC]; simp⟩
      rw [List.mem_cons, l2]
      constructor
      · rintro (z | ⟨y, z⟩)
        · rw [z]; exact ⟨w, .inr ⟨rfl, rfl, rfl, rfl⟩⟩
        · exact ⟨y, .inl z⟩
      · rintro ⟨y, z | ⟨z4, z5, z6, z7⟩⟩
        · exact .inr ⟨y, z⟩
        · exact .inl (Prod.ext z4 (Prod.ext z5 z6))

theorem GrC.iff {D : Dat} {i : MI} {S T : RS} (h : GrC D i S) (e : ∀ f t d w, S f t d w ↔ T f t d w) : GrC D i T := by
  have : S = T := by funext f t d w; exact propext (e f t d w)
  rw [← this]; exact h
def NV (D : Dat) (i : MI) : Prop := (i 67 4 = nn D) ∧ (∀ v c, 0 ≤ v → v < nn D → 1 ≤ c → c ≤ 12 → i (72 + v) c = att D v (nd D v) c) ∧ (∀ k, 0 ≤ k → k < 7 → i 70 k = D.cy k)
theorem NV.n {D : Dat} {i : MI} (h0 : NV D i) : i 67 4 = nn D := h0.1
theorem NV.a {D : Dat} {i : MI} (h0 : NV D i) : ∀ v c, 0 ≤ v → v < nn D → 1 ≤ c → c ≤ 12 → i (72 + v) c = att D v (nd D v) c := h0.2.1
theorem NV.y {D : Dat} {i : MI} (h0 : NV D i) : ∀ k, 0 ≤ k → k < 7 → i 70 k = D.cy k := h0.2.2
theorem NV.mk {D : Dat} {i : MI} (h0 : i 67 4 = nn D) (h1 : ∀ v c, 0 ≤ v → v < nn D → 1 ≤ c → c ≤ 12 → i (72 + v) c = att D v (nd D v) c) (h2 : ∀ k, 0 ≤ k → k < 7 → i 70 k = D.cy k) : NV D i := ⟨h0, h1, h2⟩
theorem NV.of {D : Dat} {i r : MI} (h : ClassP D i r) (m : M1 D i r) : NV D i := by
  refine ⟨by rw [m.n, GA_len]; rfl, fun v c v0 v1 c0 c1 => ?_, h.cy⟩
  have hg := nd_get (D := D) (v := v.toNat) (by omega)
  rw [show ((v.toNat : Nat) : Int) = v by omega] at hg
  have hG : (GA D (r 4) (nds D))[v.toNat]? = some (r 4 (stK D (nd D v)), att D (v.toNat : Int) (nd D v)) := by
    unfold GA
    rw [List.getElem?_map, List.getElem?_zipIdx, hg]
    simp
  have := (m.g _ _ _ hG).2 c c0 c1
  rw [show ((v.toNat : Nat) : Int) = v by omega] at this
  exact this
theorem NV.fg {D : Dat} (ok : DOk D) {i i' : MI} (h : NV D i) (g : FG i i') : NV D i' := by
  have hn := nn_le ok
  refine ⟨by rw [g _ (by omega) (by omega) (by omega)]; exact h.n, fun v c v0 v1 c0 c1 => ?_, by rw [g _ (by omega) (by omega) (by omega)]; exact h.y⟩
  rw [g _ (by omega) (by omega) (by omega)]
  exact h.a v c v0 v1 c0 c1
theorem NV.kd {D : Dat} {i : MI} (h : NV D i) {v : Int} (hv : 0 ≤ v ∧ v < nn D) : i (72 + v) 3 = kdv D v := h.a v 3 hv.1 hv.2 (by decide) (by decide)
theorem NV.mk8 {D : Dat} {i : MI} (h : NV D i) {v : Int} (hv : 0 ≤ v ∧ v < nn D) : i (72 + v) 8 = mkv D v := h.a v 8 hv.1 hv.2 (by decide) (by decide)
theorem cyc_w {D : Dat} (ok : DOk D) {i r : MI} {v : Int} {Q : Int → Prop} (h : NV D i) (hv : 0 ≤ v ∧ v < nn D) (hQ : Q (cyv D v)) : wp_X0_cyclesOf v i r Q := by
  have hn := nn_le ok
  have hk := kdv_r ok hv
  unfold wp_X0_cyclesOf
  rw [h.kd hv, h.y _ hk.1 hk.2]
  exact ⟨by omega, by omega, hQ⟩
theorem using_w {D : Dat} {i r : MI} {v p : Int} {Q : Int → Prop} (h : NV D i) (hv : 0 ≤ v ∧ v < nn D) (h1 : usv D v p → Q 1) (h0 : ¬ usv D v p → Q 0) : wp_X3_isUsing (72 + v) p i r Q := by
  unfold wp_X3_isUsing s16_X3_isUsing
  rw [h.a v 7 hv.1 hv.2 (by decide) (by decide)]
  show (iAnd (usN D (nd D v)) (iShl 1 p) = 0 → _) ∧ _
  exact ⟨fun q => ⟨.inl rfl, h0 (fun z => z q)⟩, fun q => ⟨.inr rfl, h1 q⟩⟩
theorem lastM_w {D : Dat} (ok : DOk D) {i r : MI} {p u : Int} {Q : Int → Prop} (h : NV D i) (hu : 0 ≤ u ∧ u ≤ nn D) (h1 : ∀ m, isPrev D p m u → Q m) (h0 : noPrev D p u → Q (-1)) : wp_X0_lastMakerAhead p u i r Q := by
  have hn := nn_le ok
  unfold wp_X0_lastMakerAhead
  rw [wr_of (by omega) (by omega)]
  refine Lp.r1 (fun (x : Int) => -1 ≤ x ∧ x < u ∧ ∀ k, x < k → k < u → k < nn D → mkv D k ≠ p) (fun x => (x + 1).toNat) ?_ ⟨by omega, by omega, fun k a b => by omega⟩
  intro x C ⟨g0, g1, g2⟩ hC
  dsimp only [b4_X0_lastMakerAhead]
  refine ⟨fun q => h0 (fun k a b c => g2 k (by omega) b c), fun q => ⟨by omega, ?_⟩⟩
  rw [h.mk8 ⟨by omega, by omega⟩, wr_of (by omega) (by omega)]
  refine ⟨fun e => h1 x ⟨by omega, by omega, g1, e, g2⟩, fun e => hC _ ⟨by omega, by omega, fun k a b c => ?_⟩ (by omega)⟩
  by_cases w : k = x
  · rw [w]; exact e
  · exact g2 k (by omega) b c
theorem nextM_w {D : Dat} (ok : DOk D) {i r : MI} {p a : Int} {Q : Int → Prop} (h : NV D i) (ha : -1 ≤ a ∧ a < nn D) (h1 : ∀ m, isNext D p a m → Q m) (h0 : noNext D p a → Q (-1)) : wp_X0_nextMakerBehind p a i r Q := by
  have hn := nn_le ok
  unfold wp_X0_nextMakerBehind
  rw [wr_of (by omega) (by omega)]
  refine Lp.r1 (fun (x : Int) => a < x ∧ x ≤ nn D ∧ ∀ k, 0 ≤ k → a < k → k < x → mkv D k ≠ p) (fun x => (97 - x).toNat) ?_ ⟨by omega, by omega, fun k a b c => by omega⟩
  intro x C ⟨g0, g1, g2⟩ hC
  dsimp only [b4_X0_nextMakerBehind]
  rw [h.n]
  refine ⟨fun q => h0 (fun k a b c => g2 k a b (by omega)), fun q => ⟨by omega, ?_⟩⟩
  rw [h.mk8 ⟨by omega, by omega⟩, wr_of (by omega) (by omega)]
  refine ⟨fun e => h1 x ⟨by omega, by omega, g0, e, g2⟩, fun e => hC _ ⟨by omega, by omega, fun k a b c => ?_⟩ (by omega)⟩
  by_cases w : k = x
  · rw [w]; exact e
  · exact g2 k a b (by omega)
/-- one or two edges more -/
def noR : RS := fun _ _ _ _ => False
theorem or_no {S : RS} : orS S noR = S := by funext f t d w; simp [orS, noR]
def ahR (D : Dat) (p u : Int) : RS := fun f t d w => t = u ∧ makeE D p f u d ∧ w = cyv D f
def beR (D : Dat) (p a : Int) : RS := fun f t d w => f = a ∧ nextE D p a t d ∧ ((usv D a p ∧ w = 1 - cyv D t) ∨ (mkv D a = p ∧ w = 1 - cyv D t + cyv D a))
theorem make_rng {D : Dat} {p f u d : Int} (h : makeE D p f u d) : 0 ≤ f ∧ f < nn D := by
  rcases h with ⟨a, _⟩ | ⟨_, a, _⟩ <;> exact ⟨a.1, a.2.1⟩
theorem next_rng {D : Dat} {p f u d : Int} (h : nextE D p f u d) : 0 ≤ u ∧ u < nn D := by
  rcases h.2 with ⟨a, _⟩ | ⟨_, a, _⟩ <;> exact ⟨a.1, a.2.1⟩
theorem ahead_w {D : Dat} (ok : DOk D) {i r : MI} {S : RS} {p u : Int} {Q : MI → Prop} (h : NV D i) (g : GrC D i S) (hu : 0 ≤ u ∧ u < nn D) (hp : 0 ≤ p ∧ p < 8) (hus : usv D u p) (hQ : ∀ i', FG i i' → GrC D i' (orS S (ahR D p u)) → Q i') : wp_X2_joinMakerAhead p u i r Q := by
  have hn := nn_le ok
  have fin : ∀ m d, makeE D p m u d → m ≠ -1 → s31_X2_joinMakerAhead u d m i r Q := by
    intro m d hm hne
    have hmr := make_rng hm
    unfold s31_X2_joinMakerAhead s52_X2_joinMakerAhead
    refine ⟨fun z => absurd z hne, fun _ => cyc_w ok h hmr ?_⟩
    refine put_w ok g ⟨hmr.1, hmr.2, hu.1, hu.2, .inr (.inl ⟨p, hp.1, hp.2, hus, hm, rfl⟩)⟩ (fun i' f gr => hQ i' f (gr.iff (fun a b c x => or_congr Iff.rfl ?_)))
    constructor
    · rintro ⟨rfl, rfl, rfl, rfl⟩; exact ⟨rfl, hm, rfl⟩
    · rintro ⟨rfl, h2, rfl⟩
      have ea : a = m := by
        rcases hm with ⟨q, q2⟩ | ⟨q, q2, q3⟩ <;> rcases h2 with ⟨z, z2⟩ | ⟨z, z2, z3⟩
        · exact prev_uniq z q
        · exact absurd z (fun w => prev_no q w)
        · exact absurd q (fun w => prev_no z w)
        · exact prev_uniq z2 q2
      subst ea
      exact ⟨rfl, rfl, makeE_uniq h2 hm, rfl⟩
  unfold wp_X2_joinMakerAhead
  refine lastM_w ok h ⟨hu.1, by omega⟩ (fun m hm => ⟨fun z => by have := hm.1; omega, fun _ => fin m 0 (.inl ⟨hm, rfl⟩) (by have := hm.1; omega)⟩) (fun hno => ⟨fun _ => ?_, fun z => absurd rfl z⟩)
  rw [h.n]
  refine lastM_w ok h ⟨by omega, by omega⟩ (fun m hm => fin m 1 (.inr ⟨hno, hm, rfl⟩) (by have := hm.1; omega)) (fun hno2 => ?_)
  unfold s31_X2_joinMakerAhead s52_X2_joinMakerAhead
  refine ⟨fun _ => hQ i (FG.refl i) (g.iff (fun a b c x => ⟨fun z => .inl z, fun z => ?_⟩)), fun z => absurd rfl z⟩
  rcases z with z | ⟨rfl, ⟨z, _⟩ | ⟨_, z, _⟩, _⟩
  · exact z
  · exact absurd hno (fun w => prev_no z w)
  · exact absurd hno2 (fun w => prev_no z w)
theorem behind_w {D : Dat} (ok : DOk D) {i r : MI} {S : RS} {p a : Int} {Q : MI → Prop} (h : NV D i) (g : GrC D i S) (ha : 0 ≤ a ∧ a < nn D) (hp : 0 ≤ p ∧ p < 8) (hQ : ∀ i', FG i i' → GrC D i' (orS S (beR D p a)) → Q i') : wp_X2_joinMakerBehind p a i r Q := by
  have hn := nn_le ok
  have ca := cyv_r ok ha
  have none : (∀ t d, ¬ nextE D p a t d) → Q i := by
    intro hno
    refine hQ i (FG.refl i) (g.iff (fun f t d w => ⟨fun z => .inl z, fun z => ?_⟩))
    rcases z with z | ⟨_, z, _⟩
    · exact z
    · exact absurd z (hno _ _)
  have fin : ∀ m d, nextE D p a m d → s28_X2_joinMakerBehind p a d m i r Q := by
    intro m d hm
    have hmr := next_rng hm
    have cm := cyv_r ok hmr
    unfold s28_X2_joinMakerBehind s40_X2_joinMakerBehind
    refine ⟨fun z => by omega, fun _ => ⟨fun z => absurd z.symm hm.1, fun _ => cyc_w ok h hmr ⟨by omega, ?_⟩⟩⟩
    rw [wr_of (x := 1 - cyv D m) (by omega) (by omega)]
    have last : ∀ (i2 : MI) (T : RS), FG i i2 → GrC D i2 T → (∀ f t d' w, orS T (fun f t d' w => mkv D a = p ∧ oneR a m d (1 - cyv D m + cyv D a) f t d' w) f t d' w ↔ orS S (beR D p a) f t d' w) → s75_X2_joinMakerBehind p a d m (1 - cyv D m) i2 r Q := by
      intro i2 T f2 g2 hT
      have h2 := h.fg ok f2
      unfold s75_X2_joinMakerBehind s105_X2_joinMakerBehind
      rw [h2.mk8 ha]
      refine ⟨by omega, fun e => cyc_w ok h2 ha ?_, fun e => hQ i2 f2 (g2.iff (fun f t d' w => ?_))⟩
      · rw [wr_of (by omega) (by omega)]
        refine put_w ok g2 ⟨ha.1, ha.2, hmr.1, hmr.2, .inr (.inr (.inl ⟨p, hp.1, hp.2, hm, .inr ⟨e, rfl⟩⟩))⟩ (fun i' f gr => hQ i' (f2.trans f) (gr.iff (fun f t d' w => ?_)))
        rw [← hT]
        exact or_congr Iff.rfl ⟨fun z => ⟨e, z⟩, fun z => z.2⟩
      · rw [← hT]
        exact ⟨fun z => .inl z, fun z => z.elim id (fun y => absurd y.1 e)⟩
    have both : ∀ f t d' w, beR D p a f t d' w ↔ (usv D a p ∧ oneR a m d (1 - cyv D m) f t d' w) ∨ (mkv D a = p ∧ oneR a m d (1 - cyv D m + cyv D a) f t d' w) := by
      intro f t d' w
      constructor
      · rintro ⟨rfl, h2, h3⟩
        obtain ⟨rfl, rfl⟩ := nextE_uniq h2 hm
        rcases h3 with ⟨u, rfl⟩ | ⟨u, rfl⟩
        · exact .inl ⟨u, rfl, rfl, rfl, rfl⟩
        · exact .inr ⟨u, rfl, rfl, rfl, rfl⟩
      · rintro (⟨u, rfl, rfl, rfl, rfl⟩ | ⟨u, rfl, rfl, rfl, rfl⟩)
        · exact ⟨rfl, hm, .inl ⟨u, rfl⟩⟩
        · exact ⟨rfl, hm, .inr ⟨u, rfl⟩⟩
    refine using_w h ha (fun u => ⟨fun z => absurd z (by decide), fun _ => ?_⟩) (fun u => ⟨fun _ => ?_, fun z => absurd rfl z⟩)
    · refine put_w ok g ⟨ha.1, ha.2, hmr.1, hmr.2, .inr (.inr (.inl ⟨p, hp.1, hp.2, hm, .inl ⟨u, rfl⟩⟩))⟩ (fun i' f gr => last i' _ f gr (fun f t d' w => ?_))
      unfold orS
      rw [both, or_assoc]
      exact or_congr Iff.rfl (or_congr ⟨fun z => ⟨u, z⟩, fun z => z.2⟩ Iff.rfl)
    · refine last i S (FG.refl i) g (fun f t d' w => ?_)
      unfold orS
      rw [both]
      exact or_congr Iff.rfl ⟨fun z => .inr z, fun z => z.elim (fun y => absurd y.1 u) id⟩
  unfold wp_X2_joinMakerBehind
  refine nextM_w ok h ⟨by omega, ha.2⟩ (fun m hm => ⟨fun z => by have := hm.1; omega, fun _ => fin m 0 ⟨by have := hm.2.2.1; omega, .inl ⟨hm, rfl⟩⟩⟩) (fun hno => ⟨fun _ => ?_, fun z => absurd rfl z⟩)
  refine nextM_w ok h ⟨by omega, by omega⟩ (fun m hm => ?_) (fun hno2 => ?_)
  · by_cases e : m = a
    · unfold s28_X2_joinMakerBehind s40_X2_joinMakerBehind
      refine ⟨fun z => by omega, fun _ => ⟨fun _ => none (fun t d hq => ?_), fun z => absurd e z⟩⟩
      rcases hq.2 with ⟨z, _⟩ | ⟨_, z, _⟩
      · exact next_no z hno
      · exact hq.1 (by rw [← e]; exact next_uniq hm z)
    · exact fin m 1 ⟨fun z => e z.symm, .inr ⟨hno, hm, rfl⟩⟩
  · unfold s28_X2_joinMakerBehind s40_X2_joinMakerBehind
    refine ⟨fun _ => none (fun t d hq => ?_), fun z => absurd rfl z⟩
    rcases hq.2 with ⟨z, _⟩ | ⟨_, z, _⟩
    · exact next_no z hno
    · exact next_no z hno2

def regR (D : Dat) (p n : Int) : RS := fun f t d w => (0 ≤ t ∧ t < n ∧ usv D t p ∧ makeE D p f t d ∧ w = cyv D f) ∨ (0 ≤ f ∧ f < n ∧ nextE D p f t d ∧ ((usv D f p ∧ w = 1 - cyv D t) ∨ (mkv D f = p ∧ w = 1 - cyv D t + cyv D f)))
theorem regR_step {D : Dat} {p n : Int} (h0 : 0 ≤ n) : ∀ f t d w, regR D p (n + 1) f t d w ↔ regR D p n f t d w ∨ ((usv D n p ∧ ahR D p n f t d w) ∨ ((usv D n p ∨ mkv D n = p) ∧ beR D p n f t d w)) := by
  intro f t d w
  constructor
  · rintro (⟨a, b, c, e, g⟩ | ⟨a, b, c, e⟩)
    · by_cases q : t = n
      · subst q; exact .inr (.inl ⟨c, rfl, e, g⟩)
      · exact .inl (.inl ⟨a, by omega, c, e, g⟩)
    · by_cases q : f = n
      · subst q
        refine .inr (.inr ⟨?_, rfl, c, e⟩)
        rcases e with ⟨u, _⟩ | ⟨u, _⟩
        · exact .inl u
        · exact .inr u
      · exact .inl (.inr ⟨a, by omega, c, e⟩)
  · rintro ((⟨a, b, c, e, g⟩ | ⟨a, b, c, e⟩) | ⟨u, rfl, e, g⟩ | ⟨u, rfl, c, e⟩)
    · exact .inl ⟨a, by omega, c, e, g⟩
    · exact .inr ⟨a, by omega, c, e⟩
    · exact .inl ⟨h0, by omega, u, e, g⟩
    · exact .inr ⟨h0, by omega, c, e⟩
theorem joinReg_w {D : Dat} (ok : DOk D) {i r : MI} {S : RS} {p : Int} {Q : MI → Prop} (h : NV D i) (g : GrC D i S) (hp : 0 ≤ p ∧ p < 8) (hQ : ∀ i', FG i i' → GrC D i' (orS S (regR D p (nn D))) → Q i') : wp_X2_joinRegister p i r Q := by
  have hn := nn_le ok
  unfold wp_X2_joinRegister
  have body : Lp (b13_X2_joinRegister p r Q) (0, i) := by
    refine Lp.r2 (fun (x : Int) (m : MI) => 0 ≤ x ∧ x ≤ nn D ∧ FG i m ∧ GrC D m (orS S (regR D p x))) (fun x _ => (nn D - x).toNat) ?_ ⟨by decide, hn.1, FG.refl i, g.iff (fun f t d w => ⟨fun z => .inl z, fun z => z.elim id (fun y => by rcases y with ⟨a, b, _⟩ | ⟨a, b, _⟩ <;> omega)⟩)⟩
    intro x m C ⟨h0, h1, h2, h3⟩ hC
    dsimp only [b13_X2_joinRegister]
    have hm := h.fg ok h2
    rw [hm.n]
    refine ⟨fun q => hQ m h2 ?_, fun q => ⟨by omega, ?_⟩⟩
    · have e : x = nn D := by omega
      rw [e] at h3; exact h3
    · have hx : 0 ≤ x ∧ x < nn D := ⟨h0, by omega⟩
      have nxt : ∀ m', FG m m' → GrC D m' (orS (orS S (regR D p x)) (fun f t d w => (usv D x p ∧ ahR D p x f t d w) ∨ ((usv D x p ∨ mkv D x = p) ∧ beR D p x f t d w))) → C (wr (x + 1), m') := by
        intro m' f' g'
        rw [wr_of (by omega) (by omega)]
        refine hC _ _ ⟨by omega, by omega, h2.trans f', g'.iff (fun f t d w => ?_)⟩ (by omega)
        unfold orS
        rw [regR_step h0, or_assoc]
      have mb : ∀ (m' : MI) (T : RS) (x4 : Int), FG m m' → GrC D m' T → (∀ f t d w, orS T (beR D p x) f t d w ↔ orS (orS S (regR D p x)) (fun f t d w => (usv D x p ∧ ahR D p x f t d w) ∨ ((usv D x p ∨ mkv D x = p) ∧ beR D p x f t d w)) f t d w) → s75_X2_joinRegister p x m' r Q C := by
        intro m' T x4 f' g' hT
        unfold s75_X2_joinRegister s82_X2_joinRegister
        exact behind_w ok (hm.fg ok f') g' hx hp (fun m2 f2 g2 => nxt m2 (f'.trans f2) (g2.iff hT))
      have go : ∀ k0 : Int, (k0 = 0 ↔ ¬ mkv D x = p) → ∀ x4 : Int, (x4 = 0 ↔ ¬ usv D x p) → s51_X2_joinRegister p x x4 k0 m r Q C := by
        intro k0 hk0 x4 hx4
        unfold s51_X2_joinRegister s65_X2_joinRegister
        refine ⟨fun z => ⟨fun _ => ⟨fun z2 => ?_, fun z2 => ?_⟩, fun z2 => absurd z z2⟩, fun z => ?_⟩
        · have nu := hx4.1 z
          have nm := hk0.1 z2
          unfold s82_X2_joinRegister
          refine nxt m (FG.refl m) (h3.iff (fun f t d w => ⟨fun y => .inl y, fun y => y.elim id (fun y => ?_)⟩))
          rcases y with ⟨u, _⟩ | ⟨u | u, _⟩
          · exact absurd u nu
          · exact absurd u nu
          · exact absurd u nm
        · have nu := hx4.1 z
          have mk : mkv D x = p := Classical.byContradiction (fun w => z2 (hk0.2 w))
          refine mb m _ 0 (FG.refl m) h3 (fun f t d w => or_congr Iff.rfl ⟨fun y => .inr ⟨.inr mk, y⟩, fun y => ?_⟩)
          rcases y with ⟨u, _⟩ | ⟨_, y⟩
          · exact absurd u nu
          · exact y
        · have u : usv D x p := Classical.byContradiction (fun w => z (hx4.2 w))
          refine ahead_w ok hm h3 hx hp u (fun m2 f2 g2 => ⟨fun z2 => absurd z2 z, fun _ => ?_⟩)
          refine mb m2 _ 0 f2 g2 (fun f t d w => ?_)
          unfold orS
          rw [or_assoc]
          exact or_congr Iff.rfl (or_congr ⟨fun y => ⟨u, y⟩, fun y => y.2⟩ ⟨fun y => ⟨.inl u, y⟩, fun y => y.2⟩)
      have tail : ∀ x4 : Int, (x4 = 0 ↔ ¬ usv D x p) → ((0 ≤ x ∧ x < 96) ∧ ((m (72 + x) 8 = p → s51_X2_joinRegister p x x4 1 m r Q C) ∧ (¬ m (72 + x) 8 = p → s51_X2_joinRegister p x x4 0 m r Q C))) := by
        intro x4 hx4
        rw [hm.mk8 hx]
        exact ⟨by omega, fun e => go 1 ⟨fun z => absurd z (by decide), fun z => absurd e z⟩ x4 hx4, fun e => go 0 ⟨fun _ => e, fun _ => rfl⟩ x4 hx4⟩
      exact using_w hm hx (fun u => tail 1 ⟨fun z => absurd z (by decide), fun z => absurd u z⟩) (fun u => tail 0 ⟨fun _ => u, fun _ => rfl⟩)
  refine nextM_w ok h ⟨by omega, by omega⟩ (fun m hm => ⟨fun z => by have := hm.1; omega, fun _ => body⟩) (fun hno => ⟨fun _ => hQ i (FG.refl i) (g.iff (fun f t d w => ⟨fun z => .inl z, fun z => z.elim id (fun y => ?_)⟩)), fun z => absurd rfl z⟩)
  have nomk : ∀ k, 0 ≤ k → k < nn D → mkv D k ≠ p := fun k a b => hno k a (by omega) b
  rcases y with ⟨a, b, c, e, _⟩ | ⟨a, b, c, _⟩
  · rcases e with ⟨z, _⟩ | ⟨_, z, _⟩
    · exact absurd z.2.2.2.1 (nomk f z.1 z.2.1)
    · exact absurd z.2.2.2.1 (nomk f z.1 z.2.1)
  · rcases c.2 with ⟨z, _⟩ | ⟨_, z, _⟩
    · exact absurd z.2.2.2.1 (nomk t z.1 z.2.1)
    · exact absurd z.2.2.2.1 (nomk t z.1 z.2.1)
def wiR (D : Dat) (n : Int) : RS := fun f t d w => 0 ≤ f ∧ 0 ≤ t ∧ t < n ∧ withE D f t ∧ d = 0 ∧ w = cyv D f
theorem g_neg {D : Dat} {v : Int} {x : Int × Int} (hv : 0 ≤ v) : -2 ≤ g1N D v x ∧ g1N D v x < v ∧ -1 ≤ g2N D v x ∧ g2N D v x < v := by
  unfold g1N g2N
  repeat' split
  all_goals omega
theorem g_ok {D : Dat} (ok : DOk D) {v : Int} (h : 0 ≤ v ∧ v < nn D) : (g1N D v (nd D v) = -1 ∨ 0 ≤ g1N D v (nd D v)) ∧ g1N D v (nd D v) < v ∧ (g2N D v (nd D v) = -1 ∨ 0 ≤ g2N D v (nd D v)) ∧ g2N D v (nd D v) < v := by
  obtain ⟨p1, p2, p3, p4⟩ := nd_prev ok h
  have := g_neg (D := D) (x := nd D v) h.1
  refine ⟨?_, this.2.1, by omega, this.2.2.2⟩
  unfold g1N
  by_cases e2 : (nd D v).2 = 2
  · rw [if_pos e2]
    by_cases r1 : isRd (D.F (stK D (nd D v)) 1)
    · rw [if_pos r1]
      by_cases r2 : isRd (D.F (stK D (nd D v)) 2)
      · rw [if_pos r2]
        have := ((p1 e2 r2).2.2 r1).1
        omega
      · rw [if_neg r2]
        have := (p2 e2 r2 r1).1
        omega
    · rw [if_neg r1]; omega
  · rw [if_neg e2]
    split
    · split
      · rename_i e3 w
        by_cases o : D.O (stK D (nd D v)) = 32
        · have := (p4 e3 o (w.resolve_left (fun z => z o))).1; omega
        · have := (p3 e3 o).1; omega
      · omega
    · omega
theorem giver_w {D : Dat} (ok : DOk D) {i r : MI} {S : RS} {f t : Int} {Q : MI → Prop} (h : NV D i) (g : GrC D i S) (ht : 0 ≤ t ∧ t < nn D) (hw : withE D f t) (hf : f = -1 ∨ (0 ≤ f ∧ f < t)) (hQ : ∀ i', FG i i' → GrC D i' (orS S (fun a b c x => 0 ≤ f ∧ oneR f t 0 (cyv D f) a b c x)) → Q i') : wp_X2_joinGiver f t i r Q := by
  unfold wp_X2_joinGiver s17_X2_joinGiver
  refine ⟨fun e => hQ i (FG.refl i) (g.iff (fun a b c x => ⟨fun z => .inl z, fun z => z.elim id (fun y => by have := y.1; omega)⟩)), fun e => ?_⟩
  have hf2 : 0 ≤ f ∧ f < nn D := by omega
  refine cyc_w ok h hf2 ?_
  refine put_w ok g ⟨hf2.1, hf2.2, ht.1, ht.2, .inl ⟨hw, rfl, rfl⟩⟩ (fun i' fr gr => hQ i' fr (gr.iff (fun a b c x => or_congr Iff.rfl ⟨fun z => ⟨hf2.1, z⟩, fun z => z.2⟩)))
theorem within_w {D : Dat} (ok : DOk D) {i r : MI} {S : RS} {Q : MI → Prop} (h : NV D i) (g : GrC D i S) (hQ : ∀ i', FG i i' → GrC D i' (orS S (wiR D (nn D))) → Q i') : wp_X2_joinWithinStatements i r Q := by
  have hn := nn_le ok
  unfold wp_X2_joinWithinStatements
  refine Lp.r2 (fun (x : Int) (m : MI) => 0 ≤ x ∧ x ≤ nn D ∧ FG i m ∧ GrC D m (orS S (wiR D x))) (fun x _ => (nn D - x).toNat) ?_ ⟨by decide, hn.1, FG.refl i, g.iff (fun f t d w => ⟨fun z => .inl z, fun z => z.elim id (fun y => by obtain ⟨a, b, c, _⟩ := y; omega)⟩)⟩
  intro x m C ⟨h0, h1, h2, h3⟩ hC
  dsimp only [b2_X2_joinWithinStatements]
  have hm := h.fg ok h2
  rw [hm.n]
  refine ⟨fun q => hQ m h2 ?_, fun q => ⟨by omega, ?_⟩⟩
  · have e : x = nn D := by omega
    rw [e] at h3; exact h3
  · have hx : 0 ≤ x ∧ x < nn D := ⟨h0, by omega⟩
    have gk := g_ok ok hx
    rw [hm.a x 5 hx.1 hx.2 (by decide) (by decide)]
    show wp_X2_joinGiver (g1N D x (nd D x)) x m r _
    refine giver_w ok hm h3 hx (.inl rfl) (by omega) (fun m2 f2 g2 => ⟨by omega, ?_⟩)
    have hm2 := hm.fg ok f2
    rw [hm2.a x 6 hx.1 hx.2 (by decide) (by decide)]
    show wp_X2_joinGiver (g2N D x (nd D x)) x m2 r _
    refine giver_w ok hm2 g2 hx (.inr rfl) (by omega) (fun m3 f3 g3 => ?_)
    rw [wr_of (by omega) (by omega)]
    refine hC _ _ ⟨by omega, by omega, h2.trans (f2.trans f3), g3.iff (fun f t d w => ?_)⟩ (by omega)
    unfold orS
    rw [or_assoc, or_assoc]
    refine or_congr Iff.rfl ?_
    constructor
    · rintro (⟨a, b, c, e⟩ | ⟨a, rfl, rfl, rfl, rfl⟩ | ⟨a, rfl, rfl, rfl, rfl⟩)
      · exact ⟨a, b, by omega, e⟩
      · exact ⟨a, h0, by omega, .inl rfl, rfl, rfl⟩
      · exact ⟨a, h0, by omega, .inr rfl, rfl, rfl⟩
    · rintro ⟨a, b, c, e, k, l⟩
      by_cases z : t = x
      · subst z
        rcases e with e | e
        · exact .inr (.inl ⟨by rw [← e]; exact a, e, rfl, k, by rw [← e]; exact l⟩)
        · exact .inr (.inr ⟨by rw [← e]; exact a, e, rfl, k, by rw [← e]; exact l⟩)
      · exact .inl ⟨a, b, by omega, e, k, l⟩

theorem mem_fp {D : Dat} (ok : DOk D) {v : Int} (h : 0 ≤ v ∧ v < nn D) (hm : isMem D v) : -9 ≤ fpN D (nd D v) ∧ fpN D (nd D v) ≤ 99 ∧ (tnN D (nd D v) = 0 ∨ (tnN D (nd D v) = 1 ∧ fpN D (nd D v) ≤ 12)) := by
  obtain ⟨h1, h2, h3, h4, h5⟩ := nd_ok ok h
  have sok := ok.st _ h3 h4
  have hr := mem_role ok h hm
  have hs : 0 ≤ (nd D v).1 / D.cnt ∧ (nd D v).1 / D.cnt < 4 := by
    have hx := ndl_mem (nd_mem h)
    have hf := ok.fac
    have h0 : 0 ≤ D.cnt * D.fac := Int.mul_nonneg ok.cnt.1 (by omega)
    refine ⟨Int.ediv_nonneg h1 (by omega), Int.ediv_lt_of_lt_mul (by omega) ?_⟩
    have : D.cnt * D.fac ≤ D.cnt * 4 := Int.mul_le_mul_of_nonneg_left hf.2 (by omega)
    omega
  have hF : D.F (stK D (nd D v)) (plN (nd D v)) = 3 ∨ D.F (stK D (nd D v)) (plN (nd D v)) = 4 := by
    unfold isMem kdv kdN at hm
    unfold plN
    rcases hr with e | e | e
    · rw [if_pos e] at hm; rw [if_pos e]; exact hm
    · rw [if_neg (by omega), if_pos e] at hm; rw [if_neg (by omega), if_pos e]; exact hm
    · rw [if_neg (by omega), if_neg (by omega), if_neg (by omega), if_pos e] at hm
      rw [if_neg (by omega), if_neg (by omega)]; exact hm
  have hp : 0 ≤ plN (nd D v) ∧ plN (nd D v) < 3 := by
    unfold plN
    repeat' split
    all_goals omega
  have h3' := sok.n3 _ hp.1 hp.2 hF
  unfold fpN tnN
  rw [if_pos hr, if_pos hr]
  unfold plc
  rcases h3' with ⟨a, b, c⟩ | ⟨a, b, c⟩
  · rw [if_pos a]; omega
  · rw [if_neg (by omega)]; omega
theorem dist_w {D : Dat} (ok : DOk D) {i r : MI} {f t b : Int} {Q : Int → Prop} (h : NV D i) (hf : 0 ≤ f ∧ f < nn D) (ht : 0 ≤ t ∧ t < nn D) (hne : f ≠ t) (mf : isMem D f) (mt : isMem D t) (hb : b = if t ≤ f then 0 else 1)
    (h1 : ∀ d, memD D f t d → 0 ≤ d → d ≤ 21 → Q d) (h0 : (∀ d, ¬ memD D f t d) → Q (-1)) : wp_X2_distanceTo (72 + f) (72 + t) b D.fac i r Q := by
  have hfac := ok.fac
  have pf := mem_fp ok hf mf
  have pt := mem_fp ok ht mt
  unfold wp_X2_distanceTo
  have e10f : i (72 + f) 10 = tnN D (nd D f) := h.a f 10 hf.1 hf.2 (by decide) (by decide)
  have e10t : i (72 + t) 10 = tnN D (nd D t) := h.a t 10 ht.1 ht.2 (by decide) (by decide)
  have e9f : i (72 + f) 9 = fpN D (nd D f) := h.a f 9 hf.1 hf.2 (by decide) (by decide)
  have e9t : i (72 + t) 9 = fpN D (nd D t) := h.a t 9 ht.1 ht.2 (by decide) (by decide)
  rw [e10f, e10t, e9f, e9t, wr_of (x := fpN D (nd D f) - fpN D (nd D t)) (by omega) (by omega)]
  have mixed : ¬ (tnN D (nd D f) = 1 ∧ tnN D (nd D t) = 1) → s63_X2_distanceTo (72 + f) (72 + t) b (fpN D (nd D f) - fpN D (nd D t)) i r Q := by
    intro hmx
    unfold memD at h1 h0
    simp only [if_neg hmx] at h1 h0
    unfold s63_X2_distanceTo s84_X2_distanceTo s93_X2_distanceTo
    rw [e10f, e10t]
    have good : (tnN D (nd D f) = 0 ∧ tnN D (nd D t) = 0 → fpN D (nd D f) = fpN D (nd D t)) → (b = 0 → Q 1) ∧ (¬ b = 0 → Q 0) := by
      intro hg
      refine ⟨fun z => h1 1 ⟨hg, ?_⟩ (by decide) (by decide), fun z => h1 0 ⟨hg, ?_⟩ (by decide) (by decide)⟩
      · rw [if_neg (by by_cases w : t ≤ f; omega; rw [if_neg w] at hb; omega)]
      · rw [if_pos (by by_cases w : t ≤ f; rw [if_pos w] at hb; omega; omega)]
    refine ⟨fun z => ⟨fun z2 => ⟨fun z3 => good (fun _ => by omega), fun z3 => h0 (fun d hd => ?_)⟩, fun z2 => good (fun w => absurd w.2 z2)⟩, fun z => good (fun w => absurd w.1 z)⟩
    have := hd.1 ⟨z, z2⟩
    omega
  refine ⟨fun z => mixed (by omega), fun z => ⟨fun z2 => mixed (by omega), fun z2 => ?_⟩⟩
  have hb1 : tnN D (nd D f) = 1 ∧ tnN D (nd D t) = 1 := by omega
  unfold memD at h1 h0
  simp only [if_pos hb1] at h1 h0
  unfold s48_X2_distanceTo
  refine ⟨fun q => h0 (fun d hd => ?_), fun q => ?_⟩
  · have : 0 ≤ D.fac * d := Int.mul_nonneg (by omega) hd.1
    omega
  · rw [isDivided_eq, bz_0]
    have em : (fpN D (nd D f) - fpN D (nd D t)).tmod D.fac = (fpN D (nd D f) - fpN D (nd D t)) % D.fac := Int.tmod_eq_emod_of_nonneg (by omega)
    rw [em]
    refine ⟨fun q2 => h0 (fun d hd => q2 ⟨by omega, ?_⟩), fun q2 => ?_⟩
    · rw [hd.2.1]; exact Int.mul_emod_right _ _
    · rw [Decidable.not_not] at q2
      have ed : D.fac * ((fpN D (nd D f) - fpN D (nd D t)) / D.fac) = fpN D (nd D f) - fpN D (nd D t) := by
        have := Int.mul_ediv_add_emod (fpN D (nd D f) - fpN D (nd D t)) D.fac
        omega
      have d0 : 0 ≤ (fpN D (nd D f) - fpN D (nd D t)) / D.fac := Int.ediv_nonneg (by omega) (by omega)
      have d1 : (fpN D (nd D f) - fpN D (nd D t)) / D.fac ≤ 21 := by
        have := Int.ediv_le_self D.fac (a := fpN D (nd D f) - fpN D (nd D t)) (by omega)
        omega
      have fin : (fpN D (nd D f) - fpN D (nd D t) = 0 → f < t) → s50_X2_distanceTo D.fac (fpN D (nd D f) - fpN D (nd D t)) i r Q := by
        intro hlt
        unfold s50_X2_distanceTo s62_X2_distanceTo
        refine ⟨fun w => by omega, fun _ => ⟨by omega, ?_⟩⟩
        rw [Int.tdiv_eq_ediv_of_nonneg (by omega), wr_of (by omega) (by omega)]
        refine h1 _ ⟨d0, ed.symm, fun z => hlt ?_⟩ d0 d1
        rw [z, Int.mul_zero] at ed
        exact ed.symm
      refine ⟨fun e0 => ⟨fun w => h0 (fun d hd => ?_), fun w => fin (fun _ => ?_)⟩, fun e0 => fin (fun w => absurd w e0)⟩
      · have hd0 : d = 0 := by
          have : D.fac * d = 0 := by omega
          rcases Int.mul_eq_zero.1 this with y | y
          · omega
          · exact y
        have := hd.2.2 hd0
        rw [if_neg (by omega)] at hb
        omega
      · by_cases y : t ≤ f
        · rw [if_pos y] at hb; omega
        · omega
def meW (D : Dat) (f t w : Int) : Prop := (¬ wrv D t ∧ w = cyv D f) ∨ (wrv D t ∧ ¬ wrv D f ∧ w = 1 - cyv D t) ∨ (wrv D t ∧ wrv D f ∧ w = 1)
def plR (D : Dat) (f t : Int) : RS := fun a b d w => a = f ∧ b = t ∧ memE D f t d ∧ meW D f t w
theorem places_w {D : Dat} (ok : DOk D) {i r : MI} {S : RS} {f t : Int} {Q : MI → Prop} (h : NV D i) (g : GrC D i S) (hf : 0 ≤ f ∧ f < nn D) (ht : 0 ≤ t ∧ t < nn D) (hne : f ≠ t) (mf : isMem D f) (hk : kdv D f = kdv D t) (hQ : ∀ i', FG i i' → GrC D i' (orS S (plR D f t)) → Q i') : wp_X2_joinPlaces f t D.fac i r Q := by
  have hn := nn_le ok
  have mt : isMem D t := by unfold isMem; rw [← hk]; exact mf
  have cf := cyv_r ok hf
  have ct := cyv_r ok ht
  have e12 : ∀ v, 0 ≤ v ∧ v < nn D → (i (72 + v) 12 = 0 ↔ ¬ wrv D v) := by
    intro v hv
    rw [h.a v 12 hv.1 hv.2 (by decide) (by decide)]
    show (if (nd D v).2 = 3 then (1 : Int) else 0) = 0 ↔ _
    unfold wrv
    by_cases e : (nd D v).2 = 3 <;> simp [e]
  have none : (∀ d w, ¬ (memE D f t d ∧ meW D f t w)) → Q i := fun hno => hQ i (FG.refl i) (g.iff (fun a b c x => ⟨fun z => .inl z, fun z => z.elim id (fun y => absurd ⟨y.2.2.1, y.2.2.2⟩ (hno c x))⟩))
  have yes : (wrv D f ∨ wrv D t) → s33_X2_joinPlaces f t D.fac (72 + f) (72 + t) i r Q := by
    intro hw
    have one : ∀ d w, memD D f t d → meW D f t w → 0 ≤ d → wp_X2_put f t d w i r Q := by
      intro d w hd hww d0
      have hE : memE D f t d := ⟨hne, mf, hk, hw, hd⟩
      refine put_w ok g ⟨hf.1, hf.2, ht.1, ht.2, .inr (.inr (.inr (.inl ⟨hE, hww⟩)))⟩ (fun i' fr gr => hQ i' fr (gr.iff (fun a b c x => or_congr Iff.rfl ⟨?_, ?_⟩)))
      · rintro ⟨rfl, rfl, rfl, rfl⟩; exact ⟨rfl, rfl, hE, hww⟩
      · rintro ⟨rfl, rfl, h3, h4⟩
        refine ⟨rfl, rfl, memE_uniq ok h3 hE, ?_⟩
        unfold meW at h4 hww
        rcases h4 with ⟨y1, y2⟩ | ⟨y1, y2, y3⟩ | ⟨y1, y2, y3⟩ <;> rcases hww with ⟨z1, z2⟩ | ⟨z1, z2, z3⟩ | ⟨z1, z2, z3⟩
        · omega
        · exact absurd z1 y1
        · exact absurd z1 y1
        · exact absurd y1 z1
        · omega
        · exact absurd z2 y2
        · exact absurd y1 z1
        · exact absurd y2 z2
        · omega
    have key : ∀ b, b = (if t ≤ f then 0 else 1) → s47_X2_joinPlaces f t D.fac (72 + f) (72 + t) (72 + f) (72 + t) b i r Q := by
      intro b hb
      unfold s47_X2_joinPlaces s120_X2_joinPlaces
      refine dist_w ok h hf ht hne mf mt hb (fun d hd d0 d1 => ⟨fun z => by omega, fun _ => ?_⟩) (fun hno => ⟨fun _ => none (fun d w z => hno d z.1.2.2.2.2), fun z => absurd rfl z⟩)
      rw [e12 t ht, e12 f hf]
      refine ⟨fun z => cyc_w ok h hf (one d _ hd (.inl ⟨z, rfl⟩) d0), fun z => ?_⟩
      have z' : wrv D t := Classical.byContradiction z
      refine ⟨fun z2 => cyc_w ok h ht ?_, fun z2 => one d 1 hd (.inr (.inr ⟨z', Classical.byContradiction z2, rfl⟩)) d0⟩
      rw [wr_of (by omega) (by omega)]
      exact one d _ hd (.inr (.inl ⟨z', z2, rfl⟩)) d0
    unfold s33_X2_joinPlaces
    exact ⟨fun z => key 0 (by rw [if_pos z]), fun z => key 1 (by rw [if_neg z])⟩
  unfold wp_X2_joinPlaces
  rw [e12 f hf, e12 t ht]
  refine ⟨by omega, by omega, fun z => ⟨fun z2 => none (fun d w y => ?_), fun z2 => yes (.inr (Classical.byContradiction z2))⟩, fun z => yes (.inl (Classical.byContradiction z))⟩
  exact y.1.2.2.2.1.elim z z2
def meR (D : Dat) (k n : Int) : RS := fun f t d w => 0 ≤ f ∧ f < n ∧ 0 ≤ t ∧ t < nn D ∧ kdv D f = k ∧ memE D f t d ∧ meW D f t w
theorem joinMem_w {D : Dat} (ok : DOk D) {i r : MI} {S : RS} {k : Int} {Q : MI → Prop} (h : NV D i) (g : GrC D i S) (hk : k = 3 ∨ k = 4) (hQ : ∀ i', FG i i' → GrC D i' (orS S (meR D k (nn D))) → Q i') : wp_X2_joinMemory k D.fac i r Q := by
  have hn := nn_le ok
  unfold wp_X2_joinMemory
  refine Lp.r2 (fun (x : Int) (m : MI) => 0 ≤ x ∧ x ≤ nn D ∧ FG i m ∧ GrC D m (orS S (meR D k x))) (fun x _ => (nn D - x).toNat) ?_ ⟨by decide, hn.1, FG.refl i, g.iff (fun f t d w => ⟨fun z => .inl z, fun z => z.elim id (fun y => by have := y.1; have := y.2.1; omega)⟩)⟩
  intro x m C ⟨h0, h1, h2, h3⟩ hC
  dsimp only [b3_X2_joinMemory]
  have hm := h.fg ok h2
  rw [hm.n]
  refine ⟨fun q => hQ m h2 ?_, fun q => ⟨by omega, ?_⟩⟩
  · have e : x = nn D := by omega
    rw [e] at h3; exact h3
  · have hx : 0 ≤ x ∧ x < nn D := ⟨h0, by omega⟩
    rw [hm.kd hx]
    refine ⟨fun ek => ?_, fun ek => ?_⟩
    · have mx : isMem D x := by unfold isMem; omega
      refine Lp.r2 (fun (y : Int) (m' : MI) => 0 ≤ y ∧ y ≤ nn D ∧ FG i m' ∧ GrC D m' (orS (orS S (meR D k x)) (fun f t d w => 0 ≤ t ∧ t < y ∧ plR D x t f t d w))) (fun y _ => (nn D - y).toNat) ?_ ⟨by decide, hn.1, h2, h3.iff (fun f t d w => ⟨fun z => .inl z, fun z => z.elim id (fun y => by have := y.1; have := y.2.1; omega)⟩)⟩
      intro y m' C2 ⟨g0, g1, g2, g3⟩ hC2
      dsimp only [b32_X2_joinMemory, s78_X2_joinMemory, s72_X2_joinMemory]
      have hm' := h.fg ok g2
      rw [hm'.n]
      refine ⟨fun q2 => ?_, fun q2 => ?_⟩
      · rw [wr_of (by omega) (by omega)]
        refine hC _ _ ⟨by omega, by omega, g2, g3.iff (fun f t d w => ?_)⟩ (by omega)
        have e : y = nn D := by omega
        unfold orS
        rw [or_assoc, e]
        refine or_congr Iff.rfl ?_
        constructor
        · rintro (⟨a, b, c⟩ | ⟨a, b, rfl, _, c, e2⟩)
          · exact ⟨a, by omega, c⟩
          · exact ⟨h0, by omega, a, b, ek, c, e2⟩
        · rintro ⟨a, b, c, d2, e2, e3, e4⟩
          by_cases w2 : f = x
          · subst w2; exact .inr ⟨c, d2, rfl, rfl, e3, e4⟩
          · exact .inl ⟨a, by omega, c, d2, e2, e3, e4⟩
      · have hy : 0 ≤ y ∧ y < nn D := ⟨g0, by omega⟩
        have same : (∀ d w, ¬ (memE D x y d ∧ meW D x y w)) → C2 (wr (y + 1), m') := by
          intro hno
          rw [wr_of (by omega) (by omega)]
          refine hC2 _ _ ⟨by omega, by omega, g2, g3.iff (fun f t d w => or_congr Iff.rfl ⟨fun z => ⟨z.1, by have := z.2.1; omega, z.2.2⟩, fun z => ⟨z.1, ?_, z.2.2⟩⟩)⟩ (by omega)
          by_cases w2 : t = y
          · exfalso
            have := z.2.2
            rw [w2] at this
            exact hno d w ⟨this.2.2.1, this.2.2.2⟩
          · have := z.2.1; omega
        refine ⟨fun e => same (fun d w z => z.1.1 e.symm), fun e => ⟨by omega, ?_⟩⟩
        rw [hm'.kd hy]
        refine ⟨fun e2 => ?_, fun e2 => same (fun d w z => e2 (by rw [← z.1.2.2.1]; exact ek))⟩
        refine places_w ok hm' g3 hx hy (fun z => e z.symm) mx (by omega) (fun m2 f2 gr => ?_)
        rw [wr_of (by omega) (by omega)]
        refine hC2 _ _ ⟨by omega, by omega, g2.trans f2, gr.iff (fun f t d w => ?_)⟩ (by omega)
        unfold orS
        rw [or_assoc (a := S f t d w ∨ _)]
        refine or_congr Iff.rfl ?_
        constructor
        · rintro (⟨a, b, c⟩ | ⟨rfl, rfl, c⟩)
          · exact ⟨a, by omega, c⟩
          · exact ⟨g0, by omega, rfl, rfl, c⟩
        · rintro ⟨a, b, rfl, z, c⟩
          by_cases w2 : t = y
          · subst w2; exact .inr ⟨rfl, rfl, c⟩
          · exact .inl ⟨a, by omega, rfl, z, c⟩
    · unfold s78_X2_joinMemory
      rw [wr_of (by omega) (by omega)]
      refine hC _ _ ⟨by omega, by omega, h2, h3.iff (fun f t d w => or_congr Iff.rfl ⟨fun z => ⟨z.1, by have := z.2.1; omega, z.2.2⟩, fun z => ⟨z.1, ?_, z.2.2⟩⟩)⟩ (by omega)
      by_cases w2 : f = x
      · exfalso
        have := z.2.2.2.2.1
        rw [w2] at this
        exact ek this
      · have := z.2.1; omega

def chQ (D : Dat) (k n : Int) : RS := fun f t d w => 0 ≤ f ∧ f < nn D ∧ kdv D f = k ∧ isNextK D k f t ∧ t < n ∧ d = 0 ∧ w = 1
def chR (D : Dat) (k : Int) : RS := fun f t d w => 0 ≤ f ∧ f < nn D ∧ kdv D f = k ∧ chanE D f t d ∧ w = 1
theorem chan_w {D : Dat} (ok : DOk D) {i r : MI} {S : RS} {k : Int} {Q : MI → Prop} (h : NV D i) (g : GrC D i S) (hk : k = 5 ∨ k = 6) (hQ : ∀ i', FG i i' → GrC D i' (orS S (chR D k)) → Q i') : wp_X2_joinChannel k i r Q := by
  have hn := nn_le ok
  unfold wp_X2_joinChannel
  refine Lp.r4 (fun (a b x : Int) (m : MI) => 0 ≤ x ∧ x ≤ nn D ∧ FG i m ∧ GrC D m (orS S (chQ D k x)) ∧ ((a = -1 ∧ b = -1 ∧ ∀ j, 0 ≤ j → j < x → kdv D j ≠ k) ∨ (isNextK D k (-1) a ∧ 0 ≤ b ∧ b < x ∧ kdv D b = k ∧ ∀ j, b < j → j < x → kdv D j ≠ k))) (fun _ _ x _ => (nn D - x).toNat) ?_ ⟨by decide, hn.1, FG.refl i, g.iff (fun f t d w => ⟨fun z => .inl z, fun z => z.elim id (fun y => by have := y.2.2.2.1.1; have := y.2.2.2.2.1; omega)⟩), .inl ⟨rfl, rfl, fun j a b => by omega⟩⟩
  intro a b x m C ⟨h0, h1, h2, h3, h4⟩ hC
  dsimp only [b8_X2_joinChannel]
  have hm := h.fg ok h2
  rw [hm.n]
  refine ⟨fun q => ?_, fun q => ⟨by omega, ?_⟩⟩
  · have ex : x = nn D := by omega
    subst ex
    unfold s78_X2_joinChannel
    refine ⟨fun e => hQ m h2 (h3.iff (fun f t d w => or_congr Iff.rfl ?_)), fun e => ?_⟩
    · constructor
      · rintro ⟨c1, c2, c3, c4, c5, rfl, rfl⟩
        exact ⟨c1, c2, c3, ⟨by have := c4.2.2.1; omega, by omega, by rw [c3]; exact c4.2.2.2.1.symm, .inl ⟨by rw [c3]; exact c4, rfl⟩⟩, rfl⟩
      · rintro ⟨c1, c2, c3, ⟨n1, n2, n3, n4⟩, c5⟩
        rw [c3] at n4
        rcases n4 with ⟨n5, n6⟩ | ⟨n5, n6, n7⟩
        · exact ⟨c1, c2, c3, n5, n5.2.1, n6, c5⟩
        · exfalso
          rcases h4 with ⟨_, _, z⟩ | ⟨z1, z2, z3, z4, z5⟩
          · exact z f c1 c2 c3
          · have e1 : t = a := nextK_uniq n6 z1
            have e2 : f = b := by
              rcases Int.lt_trichotomy f b with y | y | y
              · exact absurd z4 (n5 b z2 y z3)
              · exact y
              · exact absurd c3 (z5 f y c2)
            exact n1 (by rw [e1, e2]; exact e)
    · rcases h4 with ⟨z1, z2, _⟩ | ⟨z1, z2, z3, z4, z5⟩
      · omega
      · have ne : noNextK D k b := fun j j0 j1 j2 => z5 j j1 j2
        have hE : chanE D b a 1 := ⟨e, by omega, by rw [z4]; exact z1.2.2.2.1.symm, .inr ⟨by rw [z4]; exact ne, by rw [z4]; exact z1, rfl⟩⟩
        refine put_w ok h3 ⟨z2, z3, z1.1, z1.2.1, .inr (.inr (.inr (.inr ⟨hE, rfl⟩)))⟩ (fun i' f gr => hQ i' (h2.trans f) (gr.iff (fun f t d w => ?_)))
        unfold orS
        rw [or_assoc]
        refine or_congr Iff.rfl ?_
        constructor
        · rintro (⟨c1, c2, c3, c4, c5, rfl, rfl⟩ | ⟨rfl, rfl, rfl, rfl⟩)
          · exact ⟨c1, c2, c3, ⟨by have := c4.2.2.1; omega, by omega, by rw [c3]; exact c4.2.2.2.1.symm, .inl ⟨by rw [c3]; exact c4, rfl⟩⟩, rfl⟩
          · exact ⟨z2, z3, z4, hE, rfl⟩
        · rintro ⟨c1, c2, c3, ⟨n1, n2, n3, n4⟩, c5⟩
          rw [c3] at n4
          rcases n4 with ⟨n5, n6⟩ | ⟨n5, n6, n7⟩
          · exact .inl ⟨c1, c2, c3, n5, n5.2.1, n6, c5⟩
          · have e1 : t = a := nextK_uniq n6 z1
            have e2 : f = b := by
              rcases Int.lt_trichotomy f b with y | y | y
              · exact absurd z4 (n5 b z2 y z3)
              · exact y
              · exact absurd c3 (z5 f y c2)
            exact .inr ⟨e2, e1, n7, c5⟩
  · have hx : 0 ≤ x ∧ x < nn D := ⟨h0, by omega⟩
    rw [hm.kd hx]
    have w1 : wr (x + 1) = x + 1 := wr_of (by omega) (by omega)
    unfold s53_X2_joinChannel s57_X2_joinChannel
    rw [w1]
    refine ⟨fun ek => ⟨fun eb => ?_, fun eb => ?_⟩, fun ek => ?_⟩
    · rcases h4 with ⟨z1, z2, z3⟩ | ⟨z1, z2, _⟩
      · have fst : isNextK D k (-1) x := ⟨h0, hx.2, by omega, ek, fun j a b c => z3 j a c⟩
        refine hC _ _ _ _ ⟨by omega, by omega, h2, h3.iff (fun f t d w => or_congr Iff.rfl ⟨fun y => ⟨y.1, y.2.1, y.2.2.1, y.2.2.2.1, by have := y.2.2.2.2.1; omega, y.2.2.2.2.2⟩, fun y => ?_⟩), .inr ⟨fst, h0, by omega, ek, fun j a b => by omega⟩⟩ (by omega)
        obtain ⟨y1, y2, y3, y4, y5, y6⟩ := y
        exfalso
        have := y4.2.2.1
        exact z3 f y1 (by omega) y3
      · omega
    · rcases h4 with ⟨z1, z2, z3⟩ | ⟨z1, z2, z3, z4, z5⟩
      · exact absurd z2 eb
      · have nk : isNextK D k b x := ⟨h0, hx.2, z3, ek, fun j a c d => z5 j c d⟩
        have hE : chanE D b x 0 := ⟨by omega, by omega, by omega, .inl ⟨by rw [z4]; exact nk, rfl⟩⟩
        refine put_w ok h3 ⟨z2, by omega, hx.1, hx.2, .inr (.inr (.inr (.inr ⟨hE, rfl⟩)))⟩ (fun i' f gr => ?_)
        refine hC _ _ _ _ ⟨by omega, by omega, h2.trans f, gr.iff (fun f t d w => ?_), .inr ⟨z1, h0, by omega, ek, fun j a b => by omega⟩⟩ (by omega)
        unfold orS
        rw [or_assoc]
        refine or_congr Iff.rfl ?_
        constructor
        · rintro (⟨c1, c2, c3, c4, c5, c6⟩ | ⟨rfl, rfl, rfl, rfl⟩)
          · exact ⟨c1, c2, c3, c4, by omega, c6⟩
          · exact ⟨z2, by omega, z4, nk, by omega, rfl, rfl⟩
        · rintro ⟨c1, c2, c3, c4, c5, c6, c7⟩
          by_cases et : t = x
          · subst et
            have e2 : f = b := by
              rcases Int.lt_trichotomy f b with y | y | y
              · exact absurd z4 (c4.2.2.2.2 b z2 y z3)
              · exact y
              · exact absurd c3 (z5 f y c4.2.2.1)
            exact .inr ⟨e2, rfl, c6, c7⟩
          · exact .inl ⟨c1, c2, c3, c4, by omega, c6, c7⟩
    · have low : ∀ t : Int, t < x + 1 → kdv D t = k → t < x := fun t a b => by
        by_cases et : t = x
        · rw [et] at b; exact absurd b ek
        · omega
      refine hC _ _ _ _ ⟨by omega, by omega, h2, h3.iff (fun f t d w => or_congr Iff.rfl ⟨fun y => ⟨y.1, y.2.1, y.2.2.1, y.2.2.2.1, by have := y.2.2.2.2.1; omega, y.2.2.2.2.2⟩, fun y => ⟨y.1, y.2.1, y.2.2.1, y.2.2.2.1, low t y.2.2.2.2.1 y.2.2.2.1.2.2.2.1, y.2.2.2.2.2⟩⟩), ?_⟩ (by omega)
      rcases h4 with ⟨z1, z2, z3⟩ | ⟨z1, z2, z3, z4, z5⟩
      · refine .inl ⟨z1, z2, fun j a b => ?_⟩
        by_cases et : j = x
        · rw [et]; exact ek
        · exact z3 j a (by omega)
      · refine .inr ⟨z1, z2, by omega, z4, fun j a b => ?_⟩
        by_cases et : j = x
        · rw [et]; exact ek
        · exact z5 j a (by omega)
/-- the class's graph holds the body's edges -/
def M2 (D : Dat) (i : MI) : Prop := GrC D i (Raw D)
theorem join_w {D : Dat} (ok : DOk D) {i r : MI} {Q : MI → Prop} (h : NV D i) (hQ : ∀ i', FG i i' → M2 D i' → Q i') : wp_X2_join D.fac i r Q := by
  have hn := nn_le ok
  unfold wp_X2_join
  refine Lp.r2 (fun (x : Int) (m : MI) => 0 ≤ x ∧ x ≤ 96 ∧ FG i m ∧ m 168 4 = 0 ∧ ∀ f, 0 ≤ f → f < x → m 460 f = 0) (fun x _ => (96 - x).toNat) ?_ ⟨by decide, by decide, fun a x y z => st_row x, st_eq, fun f a b => by omega⟩
  intro x m C ⟨h0, h1, h2, h3, h4⟩ hC
  dsimp only [b7_X2_join]
  refine ⟨fun q => ?_, fun q => ⟨⟨h0, by omega⟩, ?_⟩⟩
  · have hm := h.fg ok h2
    have z460 : ∀ f, 0 ≤ f → f < 96 → m 460 f = 0 := fun f a b => h4 f a (by omega)
    have g0 : GrC D m noR := by
      refine ⟨fun f a b => by rw [z460 f a b]; omega, fun f e a b c d => by rw [z460 f a b] at d; omega, fun f t d w z => absurd z id, fun f e e' a b c d => by rw [z460 f a b] at d; omega, fun f t d w z => absurd z id, ⟨[], List.nodup_nil, fun x => by simp [noR], by rw [h3]; rfl⟩⟩
    refine within_w ok hm g0 (fun i1 f1 g1 => ?_)
    refine Lp.r2 (fun (x : Int) (m' : MI) => 0 ≤ x ∧ x ≤ 8 ∧ FG i m' ∧ GrC D m' (orS (orS noR (wiR D (nn D))) (fun f t d w => ∃ p, 0 ≤ p ∧ p < x ∧ regR D p (nn D) f t d w))) (fun x _ => (8 - x).toNat) ?_ ⟨by decide, by decide, h2.trans f1, g1.iff (fun f t d w => ⟨fun z => .inl z, fun z => z.elim id (fun y => by obtain ⟨p, a, b, _⟩ := y; omega)⟩)⟩
    intro x m2 C2 ⟨k0, k1, k2, k3⟩ hC2
    dsimp only [b33_X2_join]
    have hm2 := h.fg ok k2
    refine ⟨fun q2 => ?_, fun q2 => ?_⟩
    · have ex : x = 8 := by omega
      subst ex
      refine Lp.r2 (fun (y : Int) (m' : MI) => 0 ≤ y ∧ y ≤ 2 ∧ FG i m' ∧ GrC D m' (orS (orS (orS noR (wiR D (nn D))) (fun f t d w => ∃ p, 0 ≤ p ∧ p < 8 ∧ regR D p (nn D) f t d w)) (fun f t d w => ∃ k, 3 ≤ k ∧ k < 3 + y ∧ meR D k (nn D) f t d w))) (fun y _ => (2 - y).toNat) ?_ ⟨by decide, by decide, k2, k3.iff (fun f t d w => ⟨fun z => .inl z, fun z => z.elim id (fun y => by obtain ⟨p, a, b, _⟩ := y; omega)⟩)⟩
      intro y m3 C3 ⟨j0, j1, j2, j3⟩ hC3
      dsimp only [b53_X2_join]
      have hm3 := h.fg ok j2
      refine ⟨fun q3 => ?_, fun q3 => ?_⟩
      · have ey : y = 2 := by omega
        subst ey
        refine chan_w ok hm3 j3 (.inl rfl) (fun i5 f5 g5 => ?_)
        refine chan_w ok (hm3.fg ok f5) g5 (.inr rfl) (fun i6 f6 g6 => hQ i6 ((j2.trans f5).trans f6) (g6.iff (fun f t d w => ?_)))
        constructor
        · intro z
          exact g6.r f t d w z
        · rintro ⟨a1, a2, a3, a4, a5⟩
          rcases a5 with ⟨b1, b2, b3⟩ | ⟨p, p0, p1, b1, b2, b3⟩ | ⟨p, p0, p1, b1, b2⟩ | ⟨b1, b2⟩ | ⟨b1, b2⟩
          · exact .inl (.inl (.inl (.inl (.inr ⟨a1, a3, a4, b1, b2, b3⟩))))
          · exact .inl (.inl (.inl (.inr ⟨p, p0, p1, .inl ⟨a3, a4, b1, b2, b3⟩⟩)))
          · exact .inl (.inl (.inl (.inr ⟨p, p0, p1, .inr ⟨a1, a2, b1, b2⟩⟩)))
          · refine .inl (.inl (.inr ⟨kdv D f, ?_, ?_, a1, a2, a3, a4, rfl, b1, b2⟩))
            · rcases b1.2.1 with e | e <;> omega
            · rcases b1.2.1 with e | e <;> omega
          · have hk := kdv_r ok ⟨a1, a2⟩
            have h5 := b1.2.1
            by_cases e : kdv D f = 5
            · exact .inl (.inr ⟨a1, a2, e, b1, b2⟩)
            · exact .inr ⟨a1, a2, by omega, b1, b2⟩
      · rw [wr_of (x := 3 + y) (by omega) (by omega), wr_of (x := y + 1) (by omega) (by omega)]
        refine joinMem_w ok hm3 j3 (by omega) (fun i5 f5 g5 => hC3 _ _ ⟨by omega, by omega, j2.trans f5, g5.iff (fun f t d w => ?_)⟩ (by omega))
        unfold orS
        rw [or_assoc (c := meR D (3 + y) (nn D) f t d w)]
        refine or_congr Iff.rfl ?_
        constructor
        · rintro (⟨k, a, b, c⟩ | c)
          · exact ⟨k, a, by omega, c⟩
          · exact ⟨3 + y, by omega, by omega, c⟩
        · rintro ⟨k, a, b, c⟩
          by_cases e : k = 3 + y
          · subst e; exact .inr c
          · exact .inl ⟨k, a, by omega, c⟩
    · rw [wr_of (x := x + 1) (by omega) (by omega)]
      refine joinReg_w ok hm2 k3 ⟨k0, by omega⟩ (fun i5 f5 g5 => hC2 _ _ ⟨by omega, by omega, k2.trans f5, g5.iff (fun f t d w => ?_)⟩ (by omega))
      unfold orS
      rw [or_assoc (c := regR D x (nn D) f t d w)]
      refine or_congr Iff.rfl ?_
      constructor
      · rintro (⟨k, a, b, c⟩ | c)
        · exact ⟨k, a, by omega, c⟩
        · exact ⟨x, by omega, by omega, c⟩
      · rintro ⟨k, a, b, c⟩
        by_cases e : k = x
        · subst e; exact .inr c
        · exact .inl ⟨k, a, by omega, c⟩
  · rw [wr_of (by omega) (by omega)]
    refine hC _ _ ⟨by omega, by omega, h2.trans (fun a x y z => st_row y), by rw [st_row (by decide)]; exact h3, fun f a b => ?_⟩ (by omega)
    by_cases e : f = x
    · rw [e, st_eq]
    · rw [st_ne (by omega)]; exact h4 f a (by omega)
