theorem raw_all {D : Dat} (ok : DOk D) (L : List (Int × Int × Int)) (hn : L.Nodup) (hL : ∀ x ∈ L, ∃ w, Raw D x.1 x.2.1 x.2.2 w) : L.length ≤ 9600 := by
  have key : ∀ (m : Nat) (L : List (Int × Int × Int)), L.Nodup → (∀ x ∈ L, x.1 < m ∧ ∃ w, Raw D x.1 x.2.1 x.2.2 w) → L.length ≤ 100 * m := by
    intro m
    induction m with
    | zero =>
      intro L hn hL
      cases L with
      | nil => simp
      | cons x L =>
        obtain ⟨h1, w, h2⟩ := hL x List.mem_cons_self
        have := h2.1
        omega
    | succ m ih =>
      intro L hn hL
      have e := List.length_eq_countP_add_countP (fun x : Int × Int × Int => decide (x.1 < (m : Int))) (l := L)
      have h1 : List.countP (fun x : Int × Int × Int => decide (x.1 < (m : Int))) L ≤ 100 * m := by
        rw [List.countP_eq_length_filter]
        refine ih _ (List.Pairwise.filter _ hn) (fun x hx => ?_)
        have := List.mem_filter.1 hx
        exact ⟨by simpa using this.2, (hL x this.1).2⟩
      have h2 : List.countP (fun x : Int × Int × Int => decide (¬ (decide (x.1 < (m : Int))) = true)) L ≤ 100 := by
        rw [List.countP_eq_length_filter]
        have hm : ∀ x ∈ L.filter (fun x : Int × Int × Int => decide (¬ (decide (x.1 < (m : Int))) = true)), x.1 = m ∧ ∃ w, Raw D x.1 x.2.1 x.2.2 w := by
          intro x hx
          have := List.mem_filter.1 hx
          have h3 := hL x this.1
          have h4 : ¬ x.1 < (m : Int) := by simpa using this.2
          exact ⟨by omega, h3.2⟩
        have hnd : (L.filter (fun x : Int × Int × Int => decide (¬ (decide (x.1 < (m : Int))) = true))).Nodup := List.Pairwise.filter _ hn
        generalize L.filter (fun x : Int × Int × Int => decide (¬ (decide (x.1 < (m : Int))) = true)) = L2 at *
        cases hL2 : L2 with
        | nil => simp
        | cons y L3 =>
          rw [← hL2]
          obtain ⟨y1, w, y2⟩ := hm y (by rw [hL2]; exact List.mem_cons_self)
          have hf : 0 ≤ (m : Int) ∧ (m : Int) < nn D := by rw [← y1]; exact ⟨y2.1, y2.2.1⟩
          have := raw_100 ok hf (L2.map (fun x => x.2)) (by
            unfold List.Nodup
            rw [List.pairwise_map]
            refine List.Pairwise.imp_of_mem (fun ha hb h e => h (Prod.ext ?_ e)) hnd
            rw [(hm _ ha).1, (hm _ hb).1]) (fun x hx => by
            obtain ⟨z, hz, e⟩ := List.mem_map.1 hx
            obtain ⟨z1, w, z2⟩ := hm z hz
            rw [← e, ← z1]
            exact ⟨w, z2⟩)
          simpa using this
      omega
  have hnn := nn_le ok
  have := key 96 L hn (fun x hx => by
    obtain ⟨w, hw⟩ := hL x hx
    exact ⟨by have := hw.2.1; omega, w, hw⟩)
  omega
/-! ===== the class's graph ===== -/
abbrev RS : Type := Int → Int → Int → Int → Prop
def Mx (S : RS) (f t d w : Int) : Prop := S f t d w ∧ ∀ w', S f t d w' → w' ≤ w
def orS (S T : RS) : RS := fun a b c x => S a b c x ∨ T a b c x
def oneR (f t d w : Int) : RS := fun a b c x => a = f ∧ b = t ∧ c = d ∧ x = w
theorem Mx_uniq {S : RS} {f t d w w' : Int} (h : Mx S f t d w) (g : Mx S f t d w') : w = w' := by
  have h1 := h.2 _ g.1
  have h2 := g.2 _ h.1
  omega
def GrC (D : Dat) (i : MI) (S : RS) : Prop := (∀ f, 0 ≤ f → f < 96 → 0 ≤ i 460 f ∧ i 460 f ≤ 100) ∧ (∀ f e, 0 ≤ f → f < 96 → 0 ≤ e → e < i 460 f → Mx S f (i (170 + f) e) (i (267 + f) e) (i (364 + f) e)) ∧ (∀ f t d w, S f t d w → ∃ e, 0 ≤ e ∧ e < i 460 f ∧ i (170 + f) e = t ∧ i (267 + f) e = d) ∧ (∀ f e e', 0 ≤ f → f < 96 → 0 ≤ e → e < i 460 f → 0 ≤ e' → e' < i 460 f → i (170 + f) e = i (170 + f) e' → i (267 + f) e = i (267 + f) e' → e = e') ∧ (∀ f t d w, S f t d w → Raw D f t d w) ∧ (∃ L : List (Int × Int × Int), L.Nodup ∧ (∀ x : Int × Int × Int, x ∈ L ↔ ∃ w, S x.1 x.2.1 x.2.2 w) ∧ i 168 4 = L.length)
theorem GrC.z {D : Dat} {i : MI} {S : RS} (h0 : GrC D i S) : ∀ f, 0 ≤ f → f < 96 → 0 ≤ i 460 f ∧ i 460 f ≤ 100 := h0.1
theorem GrC.e {D : Dat} {i : MI} {S : RS} (h0 : GrC D i S) : ∀ f e, 0 ≤ f → f < 96 → 0 ≤ e → e < i 460 f → Mx S f (i (170 + f) e) (i (267 + f) e) (i (364 + f) e) := h0.2.1
theorem GrC.s {D : Dat} {i : MI} {S : RS} (h0 : GrC D i S) : ∀ f t d w, S f t d w → ∃ e, 0 ≤ e ∧ e < i 460 f ∧ i (170 + f) e = t ∧ i (267 + f) e = d := h0.2.2.1
theorem GrC.u {D : Dat} {i : MI} {S : RS} (h0 : GrC D i S) : ∀ f e e', 0 ≤ f → f < 96 → 0 ≤ e → e < i 460 f → 0 ≤ e' → e' < i 460 f → i (170 + f) e = i (170 + f) e' → i (267 + f) e = i (267 + f) e' → e = e' := h0.2.2.2.1
theorem GrC.r {D : Dat} {i : MI} {S : RS} (h0 : GrC D i S) : ∀ f t d w, S f t d w → Raw D f t d w := h0.2.2.2.2.1
theorem GrC.c {D : Dat} {i : MI} {S : RS} (h0 : GrC D i S) : ∃ L : List (Int × Int × Int), L.Nodup ∧ (∀ x : Int × Int × Int, x ∈ L ↔ ∃ w, S x.1 x.2.1 x.2.2 w) ∧ i 168 4 = L.length := h0.2.2.2.2.2
theorem GrC.mk {D : Dat} {i : MI} {S : RS} (h0 : ∀ f, 0 ≤ f → f < 96 → 0 ≤ i 460 f ∧ i 460 f ≤ 100) (h1 : ∀ f e, 0 ≤ f → f < 96 → 0 ≤ e → e < i 460 f → Mx S f (i (170 + f) e) (i (267 + f) e) (i (364 + f) e)) (h2 : ∀ f t d w, S f t d w → ∃ e, 0 ≤ e ∧ e < i 460 f ∧ i (170 + f) e = t ∧ i (267 + f) e = d) (h3 : ∀ f e e', 0 ≤ f → f < 96 → 0 ≤ e → e < i 460 f → 0 ≤ e' → e' < i 460 f → i (170 + f) e = i (170 + f) e' → i (267 + f) e = i (267 + f) e' → e = e') (h4 : ∀ f t d w, S f t d w → Raw D f t d w) (h5 : ∃ L : List (Int × Int × Int), L.Nodup ∧ (∀ x : Int × Int × Int, x ∈ L ↔ ∃ w, S x.1 x.2.1 x.2.2 w) ∧ i 168 4 = L.length) : GrC D i S := ⟨h0, h1, h2, h3, h4, h5⟩
/-- what joining leaves alone -/
def FG (i i' : MI) : Prop := ∀ a, a ≠ 168 → a ≠ 460 → (a < 170 ∨ 459 < a ∨ a = 266 ∨ a = 363) → i' a = i a
theorem FG.refl (i : MI) : FG i i := fun _ _ _ _ => rfl
theorem FG.trans {i j k : MI} (h : FG i j) (g : FG j k) : FG i k := fun a x y z => (g a x y z).trans (h a x y z)
theorem find_w {D : Dat} {i r : MI} {S : RS} {f t d : Int} {Q : Int → Prop} (h : GrC D i S) (hf : 0 ≤ f ∧ f < 96)
    (h1 : ∀ e, 0 ≤ e → e < i 460 f → i (170 + f) e = t → i (267 + f) e = d → Q e) (h0 : (∀ w, ¬ S f t d w) → Q (-1)) : wp_X2_find f t d i r Q := by
  have hz := h.z f hf.1 hf.2
  unfold wp_X2_find
  refine Lp.r1 (fun (x : Int) => 0 ≤ x ∧ x ≤ i 460 f ∧ ∀ e, 0 ≤ e → e < x → ¬ (i (170 + f) e = t ∧ i (267 + f) e = d)) (fun x => (100 - x).toNat) ?_ ⟨by decide, hz.1, fun e a b => by omega⟩
  intro x C ⟨g0, g1, g2⟩ hC
  dsimp only [b3_X2_find, s43_X2_find]
  have nxt : ¬ (i (170 + f) x = t ∧ i (267 + f) x = d) → ¬ i 460 f ≤ x → C (wr (x + 1)) := by
    intro q q2
    rw [wr_of (by omega) (by omega)]
    refine hC _ ⟨by omega, by omega, fun e a b => ?_⟩ (by omega)
    by_cases w : e = x
    · rw [w]; exact q
    · exact g2 e a (by omega)
  refine ⟨hf, fun q => h0 (fun w hw => ?_), fun q => ⟨hf, ⟨g0, by omega⟩, fun e1 => ⟨hf, ⟨g0, by omega⟩, fun e2 => h1 x g0 (by omega) e1 e2, fun e2 => nxt (fun z => e2 z.2) q⟩, fun e1 => nxt (fun z => e1 z.1) q⟩⟩
  obtain ⟨e, a, b, c⟩ := h.s f t d w hw
  exact g2 e a (by omega) c
theorem put_w {D : Dat} (ok : DOk D) {i r : MI} {S : RS} {f t d w : Int} {Q : MI → Prop} (h : GrC D i S) (hr : Raw D f t d w) (hQ : ∀ i', FG i i' → GrC D i' (orS S (oneR f t d w)) → Q i') : wp_X2_put f t d w i r Q := by
  have hnn := nn_le ok
  have hf : 0 ≤ f ∧ f < 96 := ⟨hr.1, by have := hr.2.1; omega⟩
  have hz := h.z f hf.1 hf.2
  unfold wp_X2_put s111_X2_put
  refine find_w h hf (fun e a b c1 c2 => ⟨fun q => by omega, fun _ => ⟨hf, hf, by omega, by omega, ?_⟩⟩) (fun hno => ⟨fun _ => ⟨hf, fun q => ?_, fun q => ⟨hf, hf, by omega, hf, by omega, hf, by omega, hf, ?_⟩⟩, fun q => absurd rfl q⟩)
  · -- the edge was there
    have hm := h.e f e hf.1 hf.2 a b
    rw [c1, c2] at hm
    have hS : ∀ a b c, (∃ x, orS S (oneR f t d w) a b c x) ↔ ∃ x, S a b c x := by
      intro a' b' c'
      constructor
      · rintro ⟨x, q | ⟨q1, q2, q3, q4⟩⟩
        · exact ⟨x, q⟩
        · rw [q1, q2, q3]; exact ⟨_, hm.1⟩
      · rintro ⟨x, q⟩; exact ⟨x, .inl q⟩
    refine hQ _ (fun b x y z => st_row (by omega)) ⟨?_, ?_, ?_, ?_, ?_, ?_⟩
    · intro g x y; rw [st_row (by omega)]; exact h.z g x y
    · intro g e' x y z1 z2
      rw [st_row (a := 460) (by omega)] at z2
      rw [st_row (a := 170 + g) (by omega), st_row (a := 267 + g) (by omega)]
      have h2 := h.e g e' x y z1 z2
      by_cases ee : g = f ∧ e' = e
      · rw [ee.1, ee.2, st_eq, c1, c2]
        refine ⟨?_, fun w' hw' => ?_⟩
        · rcases Int.le_total (i (364 + f) e) w with q | q
          · rw [Int.max_eq_right q]; exact .inr ⟨rfl, rfl, rfl, rfl⟩
          · rw [Int.max_eq_left q]; exact .inl hm.1
        · rcases hw' with q | ⟨_, _, _, q⟩
          · have := hm.2 w' q; omega
          · omega
      · rw [st_ne (by omega)]
        refine ⟨.inl h2.1, fun w' hw' => ?_⟩
        rcases hw' with q | ⟨q1, q2, q3, q4⟩
        · exact h2.2 w' q
        · exfalso
          apply ee
          rw [q1] at z2 q2 q3 ⊢
          exact ⟨rfl, h.u f e' e hf.1 hf.2 z1 z2 a b (by rw [q2, c1]) (by rw [q3, c2])⟩
    · intro g t' d' w' hw'
      obtain ⟨x, hx⟩ := (hS g t' d').1 ⟨w', hw'⟩
      obtain ⟨e', z1, z2, z3, z4⟩ := h.s g t' d' x hx
      have hg := (h.r _ _ _ _ hx)
      have hg2 : 0 ≤ g ∧ g < 96 := ⟨hg.1, by have := hg.2.1; omega⟩
      exact ⟨e', z1, by rw [st_row (by omega)]; exact z2, by rw [st_row (by omega)]; exact z3, by rw [st_row (by omega)]; exact z4⟩
    · intro g e1 e2 x y z1 z2 z3 z4
      rw [st_row (a := 460) (by omega)] at z2 z4
      rw [st_row (a := 170 + g) (by omega), st_row (a := 267 + g) (by omega)]
      exact h.u g e1 e2 x y z1 z2 z3 z4
    · intro g t' d' w' hw'
      rcases hw' with q | ⟨q1, q2, q3, q4⟩
      · exact h.r _ _ _ _ q
      · rw [q1, q2, q3, q4]; exact hr
    · obtain ⟨L, l1, l2, l3⟩ := h.c
      exact ⟨L, l1, fun x => by rw [l2, hS], by rw [st_row (by omega)]; exact l3⟩
  · -- there is room
    exfalso
    let L := (List.range 100).map (fun (e : Nat) => (i (170 + f) (e : Int), i (267 + f) (e : Int))) ++ [(t, d)]
    have := raw_100 ok ⟨hr.1, hr.2.1⟩ L (by
      refine List.nodup_append.2 ⟨?_, by simp, ?_⟩
      · unfold List.Nodup
        rw [List.pairwise_map]
        refine List.Pairwise.imp_of_mem (fun ha hb hne e => ?_) List.nodup_range
        have a1 := List.mem_range.1 ha
        have b1 := List.mem_range.1 hb
        have := h.u f _ _ hf.1 hf.2 (Int.natCast_nonneg _) (by omega) (Int.natCast_nonneg _) (by omega) (Prod.mk.inj e).1 (Prod.mk.inj e).2
        omega
      · intro a ha b hb e
        simp at hb
        obtain ⟨n, hn, e2⟩ := List.mem_map.1 ha
        have n1 := List.mem_range.1 hn
        have hm := h.e f n hf.1 hf.2 (Int.natCast_nonneg _) (by omega)
        rw [e, hb] at e2
        rw [(Prod.mk.inj e2).1, (Prod.mk.inj e2).2] at hm
        exact hno _ hm.1) (fun x hx => by
      rcases List.mem_append.1 hx with q | q
      · obtain ⟨n, hn, e2⟩ := List.mem_map.1 q
        have n1 := List.mem_range.1 hn
        have hm := h.e f n hf.1 hf.2 (Int.natCast_nonneg _) (by omega)
        rw [← e2]
        exact ⟨_, h.r _ _ _ _ hm.1⟩
      · simp at q
        rw [q]
        exact ⟨w, hr⟩)
    simp [L] at this
  · -- a new edge
    obtain ⟨L, l1, l2, l3⟩ := h.c
    have hnew : (f, t, d) ∉ L := fun z => by
      obtain ⟨x, hx⟩ := (l2 _).1 z
      exact hno x hx
    have hlen : L.length ≤ 9600 := raw_all ok L l1 (fun x hx => by
      obtain ⟨y, hy⟩ := (l2 x).1 hx
      exact ⟨y, h.r _ _ _ _ hy⟩)
    have e168 : (st (st (st (st i (170 + f) (i 460 f) t) (267 + f) (i 460 f) d) (364 + f) (i 460 f) w) 460 f (wr (i 460 f + 1))) 168 4 = L.length := by
      simp (disch := omega) only [st_row]; exact l3
    rw [e168, wr_of (x := (L.length : Int) + 1) (by omega) (by omega), wr_of (x := i 460 f + 1) (by omega) (by omega)]
    have r460 : ∀ g, st (st (st (st (st i (170 + f) (i 460 f) t) (267 + f) (i 460 f) d) (364 + f) (i 460 f) w) 460 f (i 460 f + 1)) 168 4 ((L.length : Int) + 1) 460 g = if g = f then i 460 f + 1 else i 460 g := by
      intro g
      rw [st_row (by omega)]
      by_cases e : g = f
      · rw [e, st_eq, if_pos rfl]
      · rw [st_ne (by omega), if_neg e]; simp (disch := omega) only [st_row]
    have rT : ∀ g e, 0 ≤ g → g < 96 → st (st (st (st (st i (170 + f) (i 460 f) t) (267 + f) (i 460 f) d) (364 + f) (i 460 f) w) 460 f (i 460 f + 1)) 168 4 ((L.length : Int) + 1) (170 + g) e = if g = f ∧ e = i 460 f then t else i (170 + g) e := by
      intro g e x y
      simp (disch := omega) only [st_row]
      by_cases q : g = f ∧ e = i 460 f
      · rw [q.1, q.2, st_eq, if_pos ⟨rfl, rfl⟩]
      · rw [st_ne (by omega), if_neg q]
    have rD : ∀ g e, 0 ≤ g → g < 96 → st (st (st (st (st i (170 + f) (i 460 f) t) (267 + f) (i 460 f) d) (364 + f) (i 460 f) w) 460 f (i 460 f + 1)) 168 4 ((L.length : Int) + 1) (267 + g) e = if g = f ∧ e = i 460 f then d else i (267 + g) e := by
      intro g e x y
      rw [st_row (by omega), st_row (by omega), st_row (by omega)]
      by_cases q : g = f ∧ e = i 460 f
      · rw [q.1, q.2, st_eq, if_pos ⟨rfl, rfl⟩]
      · rw [st_ne (by omega), if_neg q, st_row (by omega)]
    have rW : ∀ g e, 0 ≤ g → g < 96 → st (st (st (st (st i (170 + f) (i 460 f) t) (267 + f) (i 460 f) d) (364 + f) (i 460 f) w) 460 f (i 460 f + 1)) 168 4 ((L.length : Int) + 1) (364 + g) e = if g = f ∧ e = i 460 f then w else i (364 + g) e := by
      intro g e x y
      rw [st_row (by omega), st_row (by omega)]
      by_cases q : g = f ∧ e = i 460 f
      · rw [q.1, q.2, st_eq, if_pos ⟨rfl, rfl⟩]
      · rw [st_ne (by omega), if_neg q, st_row (by omega), st_row (by omega)]
    have rC : st (st (st (st (st i (170 + f) (i 460 f) t) (267 + f) (i 460 f) d) (364 + f) (i 460 f) w) 460 f (i 460 f + 1)) 168 4 ((L.length : Int) + 1) 168 4 = (L.length : Int) + 1 := st_eq
    have fr : FG i (st (st (st (st (st i (170 + f) (i 460 f) t) (267 + f) (i 460 f) d) (364 + f) (i 460 f) w) 460 f (i 460 f + 1)) 168 4 ((L.length : Int) + 1)) := by
      intro b x y z
      simp (disch := omega) only [st_row]
    generalize st (st (st (st (st i (170 + f) (i 460 f) t) (267 + f) (i 460 f) d) (364 + f) (i 460 f) w) 460 f (i 460 f + 1)) 168 4 ((L.length : Int) + 1) = m at *
    refine hQ m fr ⟨?_, ?_, ?_, ?_, ?_, ?_⟩
    · intro g x y
      rw [r460]
      have := h.z g x y
      split <;> omega
    · intro g e x y z1 z2
      rw [r460] at z2
      rw [rT g e x y, rD g e x y, rW g e x y]
      by_cases q2 : g = f ∧ e = i 460 f
      · rw [if_pos q2, if_pos q2, if_pos q2, q2.1]
        refine ⟨.inr ⟨rfl, rfl, rfl, rfl⟩, fun w' hw' => ?_⟩
        rcases hw' with z | ⟨_, _, _, z⟩
        · exact absurd z (hno w')
        · omega
      · rw [if_neg q2, if_neg q2, if_neg q2]
        have z3 : e < i 460 g := by
          by_cases ee : g = f
          · rw [if_pos ee] at z2; rw [ee]; omega
          · rw [if_neg ee] at z2; exact z2
        have hm := h.e g e x y z1 z3
        refine ⟨.inl hm.1, fun w' hw' => ?_⟩
        rcases hw' with z | ⟨z4, z5, z6, z7⟩
        · exact hm.2 w' z
        · exfalso
          rw [z5, z6, z4] at hm
          exact hno _ hm.1
    · intro g t' d' w' hw'
      rcases hw' with z | ⟨z4, z5, z6, z7⟩
      · have hg := h.r _ _ _ _ z
        have hg2 : 0 ≤ g ∧ g < 96 := ⟨hg.1, by have := hg.2.1; omega⟩
        obtain ⟨e, e1, e2, e3, e4⟩ := h.s g t' d' w' z
        have hne : ¬ (g = f ∧ e = i 460 f) := fun z => by rw [z.1, z.2] at e2; omega
        refine ⟨e, e1, ?_, ?_, ?_⟩
        · rw [r460]; split
          · rename_i ee; rw [ee] at e2; omega
          · exact e2
        · rw [rT g e hg2.1 hg2.2, if_neg hne]; exact e3
        · rw [rD g e hg2.1 hg2.2, if_neg hne]; exact e4
      · rw [z4]
        refine ⟨i 460 f, hz.1, ?_, ?_, ?_⟩
        · rw [r460, if_pos rfl]; omega
        · rw [rT f _ hf.1 hf.2, if_pos ⟨rfl, rfl⟩, z5]
        · rw [rD f _ hf.1 hf.2, if_pos ⟨rfl, rfl⟩, z6]
    · intro g e1 e2 x y z1 z2 z3 z4 z5 z6
      rw [r460] at z2 z4
      rw [rT g e1 x y, rT g e2 x y] at z5
      rw [rD g e1 x y, rD g e2 x y] at z6
      have old : ∀ e, 0 ≤ e → e < i 460 f → ¬ (i (170 + f) e = t ∧ i (267 + f) e = d) := by
        intro e a1 a2 a3
        have hm := h.e f e hf.1 hf.2 a1 a2
        rw [a3.1, a3.2] at hm
        exact hno _ hm.1
      by_cases eg : g = f
      · rw [eg] at z2 z4 z5 z6
        rw [if_pos rfl] at z2 z4
        by_cases c1 : e1 = i 460 f <;> by_cases c2 : e2 = i 460 f
        · omega
        · rw [if_pos ⟨rfl, c1⟩, if_neg (fun z => c2 z.2)] at z5 z6
          exact absurd ⟨z5.symm, z6.symm⟩ (old e2 z3 (by omega))
        · rw [if_neg (fun z => c1 z.2), if_pos ⟨rfl, c2⟩] at z5 z6
          exact absurd ⟨z5, z6⟩ (old e1 z1 (by omega))
        · rw [if_neg (fun z => c1 z.2), if_neg (fun z => c2 z.2)] at z5 z6
          exact h.u f e1 e2 hf.1 hf.2 z1 (by omega) z3 (by omega) z5 z6
      · rw [if_neg eg] at z2 z4
        rw [if_neg (fun z => eg z.1), if_neg (fun z => eg z.1)] at z5 z6
        exact h.u g e1 e2 x y z1 z2 z3 z4 z5 z6
    · intro g t' d' w' hw'
      rcases hw' with z | ⟨z4, z5, z6, z7⟩
      · exact h.r _ _ _ _ z
      · rw [z4, z5, z6, z7]; exact hr
    · refine ⟨(f, t, d) :: L, List.nodup_cons.2 ⟨hnew, l1⟩, fun x => ?_, by rw [rC]; simp⟩
      rw [List.mem_cons, l2]
      constructor
      · rintro (z | ⟨y, z⟩)
        · rw [z]; exact ⟨w, .inr ⟨rfl, rfl, rfl, rfl⟩⟩
        · exact ⟨y, .inl z⟩
      · rintro ⟨y, z | ⟨z4, z5, z6, z7⟩⟩
        · exact .inr ⟨y, z⟩
        · exact .inl (Prod.ext z4 (Prod.ext z5 z6))
