/-! ===== nodes of the reference ===== -/
def wrN (D : Dat) (x : Int × Int) : Int := if x.2 = 3 ∧ (kdN D x = 3 ∨ kdN D x = 4) then 1 else if (x.2 = 0 ∨ x.2 = 1) ∧ (kdN D x = 3 ∨ kdN D x = 4) then 0 else -1
def attm (D : Dat) (x : Int × Int) (c : Int) : Int :=
  if c = 515 then x.1 else if c = 516 then x.2 else if c = 517 then kdN D x else if c = 518 then usN D x else if c = 519 then mkN D x
  else if c = 520 then wrN D x else if c = 521 then tnN D x else fpN D x
def NLk (i : MI) (G : List (Int → Int)) : Prop := (i 504 21 = G.length) ∧ (∀ (v : Nat) (g : Int → Int), G[v]? = some g → (∀ c, 515 ≤ c → c ≤ 520 → i c (v : Int) = g c) ∧ (g 520 ≠ -1 → i 521 (v : Int) = g 521 ∧ i 522 (v : Int) = g 522))
theorem NLk.n {i : MI} {G : List (Int → Int)} (h0 : NLk i G) : i 504 21 = G.length := h0.1
theorem NLk.g {i : MI} {G : List (Int → Int)} (h0 : NLk i G) : ∀ (v : Nat) (g : Int → Int), G[v]? = some g → (∀ c, 515 ≤ c → c ≤ 520 → i c (v : Int) = g c) ∧ (g 520 ≠ -1 → i 521 (v : Int) = g 521 ∧ i 522 (v : Int) = g 522) := h0.2
theorem NLk.mk {i : MI} {G : List (Int → Int)} (h0 : i 504 21 = G.length) (h1 : ∀ (v : Nat) (g : Int → Int), G[v]? = some g → (∀ c, 515 ≤ c → c ≤ 520 → i c (v : Int) = g c) ∧ (g 520 ≠ -1 → i 521 (v : Int) = g 521 ∧ i 522 (v : Int) = g 522)) : NLk i G := ⟨h0, h1⟩
def FB (i i' : MI) : Prop := (∀ a, a ≠ 504 → (a < 515 ∨ 522 < a) → i' a = i a) ∧ (∀ c, c ≠ 21 → i' 504 c = i 504 c)
theorem FB.i {i i' : MI} (h0 : FB i i') : ∀ a, a ≠ 504 → (a < 515 ∨ 522 < a) → i' a = i a := h0.1
theorem FB.c {i i' : MI} (h0 : FB i i') : ∀ c, c ≠ 21 → i' 504 c = i 504 c := h0.2
theorem FB.mk {i i' : MI} (h0 : ∀ a, a ≠ 504 → (a < 515 ∨ 522 < a) → i' a = i a) (h1 : ∀ c, c ≠ 21 → i' 504 c = i 504 c) : FB i i' := ⟨h0, h1⟩
theorem FB.refl (i : MI) : FB i i := ⟨fun _ _ _ => rfl, fun _ _ => rfl⟩
theorem FB.trans {i j k : MI} (h : FB i j) (g : FB j k) : FB i k := ⟨fun a x y => (g.i a x y).trans (h.i a x y), fun a x => (g.c a x).trans (h.c a x)⟩
theorem FB.sa {a k v : Int} {i : MI} (h : 515 ≤ a ∧ a ≤ 522) : FB i (st i a k v) := ⟨fun b x y => st_row (by omega), fun c x => by rw [st_row (by omega)]⟩
theorem FB.s4 {v : Int} {i : MI} : FB i (st i 504 21 v) := ⟨fun b x y => st_row x, fun c x => st_ne (by omega)⟩
theorem ModelP.fb {D : Dat} {i i' : MI} (h : ModelP D i) (g : FB i i') : ModelP D i' :=
  h.congr (fun c hc => g.c c (by omega)) (g.i _ (by decide) (by decide)) (fun a x y => g.i _ (by omega) (by omega)) (fun a x y => g.i _ (by omega) (by omega))
def gnm (s q kd : Int) : Int → Int := fun c => if c = 515 then s else if c = 516 then q else if c = 517 then kd else if c = 518 then 0 else -1
theorem addNode_w {i r : MI} {G : List (Int → Int)} {s q kd : Int} {Q : MI → Prop} (h : NLk i G) (hn : G.length < 96) (hQ : ∀ i', FB i i' → NLk i' (G ++ [gnm s q kd]) → Q i') : wp_X12_addNode s q kd i r Q := by
  unfold wp_X12_addNode
  simp (disch := omega) only [st_row]
  rw [h.n, wr_of (by omega) (by omega)]
  refine ⟨by omega, by omega, by omega, by omega, by omega, by omega, hQ _ ?_ ⟨?_, ?_⟩⟩
  · exact (((((FB.sa (by decide)).trans (FB.sa (by decide))).trans (FB.sa (by decide))).trans (FB.sa (by decide))).trans (FB.sa (by decide))).trans ((FB.sa (by decide)).trans FB.s4)
  · rw [st_eq]; simp
  · intro v g hv
    rcases get_app hv with ⟨q, w⟩ | ⟨q, w⟩
    · obtain ⟨a, b⟩ := h.g v g w
      refine ⟨fun c x y => ?_, fun z => ?_⟩
      · rw [← a c x y]
        simp (disch := omega) only [st_ne]
      · simp (disch := omega) only [st_ne]; exact b z
    · subst w
      rw [q]
      refine ⟨fun c x y => ?_, fun z => absurd rfl z⟩
      have : c = 515 ∨ c = 516 ∨ c = 517 ∨ c = 518 ∨ c = 519 ∨ c = 520 := by omega
      rcases this with rfl | rfl | rfl | rfl | rfl | rfl <;> simp (disch := omega) only [st_row, st_eq] <;> rfl
theorem setm_last {i : MI} {G : List (Int → Int)} {g : Int → Int} {c w : Int} (h : NLk i (G ++ [g])) (hc : 515 ≤ c ∧ c ≤ 519) : NLk (st i c (G.length : Int) w) (G ++ [iup g c w]) := by
  refine ⟨?_, ?_⟩
  · rw [st_row (by omega), h.n]; simp
  · intro v g' hv
    rcases get_app hv with ⟨q, e⟩ | ⟨q, e⟩
    · obtain ⟨a, b⟩ := h.g v g' (by rw [List.getElem?_append_left q]; exact e)
      refine ⟨fun c' x y => ?_, fun z => ?_⟩
      · rw [st_ne (by omega)]; exact a c' x y
      · rw [st_row (by omega), st_row (by omega)]; exact b z
    · subst e
      obtain ⟨a, b⟩ := h.g G.length g (by rw [List.getElem?_append_right (Nat.le_refl _)]; simp)
      rw [q]
      refine ⟨fun c' x y => ?_, fun z => ?_⟩
      · unfold iup
        by_cases e : c' = c
        · rw [e, st_eq, if_pos rfl]
        · rw [st_ne (by omega), if_neg e]; exact a c' x y
      · have e1 : ∀ d, d ≠ c → iup g c w d = g d := fun d hd => by unfold iup; rw [if_neg hd]
        rw [e1 520 (by omega)] at z
        rw [e1 521 (by omega), e1 522 (by omega), st_row (by omega), st_row (by omega)]
        exact b z
theorem rem_last {i : MI} {G : List (Int → Int)} {g : Int → Int} {w t o : Int} (h : NLk i (G ++ [g])) : NLk (st (st (st i 520 (G.length : Int) w) 521 (G.length : Int) t) 522 (G.length : Int) o) (G ++ [iup (iup (iup g 520 w) 521 t) 522 o]) := by
  refine ⟨?_, ?_⟩
  · simp (disch := omega) only [st_row]; rw [h.n]; simp
  · intro v g' hv
    rcases get_app hv with ⟨q, e⟩ | ⟨q, e⟩
    · obtain ⟨a, b⟩ := h.g v g' (by rw [List.getElem?_append_left q]; exact e)
      refine ⟨fun c' x y => ?_, fun z => ?_⟩
      · simp (disch := omega) only [st_ne]; exact a c' x y
      · simp (disch := omega) only [st_ne]; exact b z
    · subst e
      obtain ⟨a, b⟩ := h.g G.length g (by rw [List.getElem?_append_right (Nat.le_refl _)]; simp)
      rw [q]
      refine ⟨fun c' x y => ?_, fun z => ⟨?_, ?_⟩⟩
      · rw [st_row (by omega), st_row (by omega)]
        unfold iup
        rw [if_neg (by omega), if_neg (by omega)]
        by_cases e : c' = 520
        · rw [e, st_eq, if_pos rfl]
        · rw [st_ne (by omega), if_neg e]; exact a c' x y
      · rw [st_row (by omega), st_eq]; rfl
      · rw [st_eq]; rfl
theorem extm_last {i : MI} {G : List (Int → Int)} {g g' : Int → Int} (h : NLk i (G ++ [g])) (e : ∀ c, 515 ≤ c → c ≤ 520 → g c = g' c) (e2 : g' 520 ≠ -1 → g 521 = g' 521 ∧ g 522 = g' 522) : NLk i (G ++ [g']) := by
  refine ⟨by rw [h.n]; simp, ?_⟩
  intro v g2 hv
  rcases get_app hv with ⟨q, w⟩ | ⟨q, w⟩
  · exact h.g v g2 (by rw [List.getElem?_append_left q]; exact w)
  · subst w
    obtain ⟨a, b⟩ := h.g G.length g (by rw [List.getElem?_append_right (Nat.le_refl _)]; simp)
    rw [q]
    refine ⟨fun c x y => by rw [a c x y]; exact e c x y, fun z => ?_⟩
    rw [← e 520 (by decide) (by decide)] at z e2
    rw [(b z).1, (b z).2]
    exact e2 z
def GM (D : Dat) (L : List (Int × Int)) : List (Int → Int) := L.map (attm D)
theorem GM_len {D : Dat} {L : List (Int × Int)} : (GM D L).length = L.length := by simp [GM]
theorem GM_app {D : Dat} {L : List (Int × Int)} {x : Int × Int} : GM D (L ++ [x]) = GM D L ++ [attm D x] := by simp [GM]
theorem isRead_e {f : Int} {i r : MI} {Q : Int → Prop} : wp_X12_isRead f i r Q ↔ Q (bz (3 ≤ f ∧ f ≤ 5)) := by
  unfold wp_X12_isRead s15_X12_isRead s20_X12_isRead bz
  by_cases e1 : f = 3
  · simp [e1]
  by_cases e2 : f = 4
  · simp [e2]
  by_cases e3 : f = 5
  · simp [e3]
  · rw [if_neg (by omega)]; simp [e1, e2, e3]
theorem remember_w {D : Dat} (ok : DOk D) {i r : MI} {G : List (Int → Int)} {g : Int → Int} {s k p w : Int} {Q : MI → Prop} (hP : ModelP D i) (hk : 0 ≤ k ∧ k < D.cnt) (hp : p = 0 ∨ p = 1 ∨ (p = 2 ∧ D.O k ≠ 32)) (hF : D.F k p = 3 ∨ D.F k p = 4) (hs : 0 ≤ s ∧ s < 24) (h : NLk i (G ++ [g])) (hn : G.length < 96) (hw : w = 0 ∨ w = 1)
    (hQ : ∀ i', FB i i' → NLk i' (G ++ [iup (iup (iup g 520 w) 521 (D.T k p)) 522 (plc (D.T k p) (D.N k p) (s / D.cnt))]) → Q i') : wp_X12_remember s (13 * k + 4 * p) w i r Q := by
  have hc := ok.cnt
  have sok := ok.st k hk.1 hk.2
  have hn3 := sok.n3 p (by omega) (by omega) hF
  have hm : MPart i 507 (13 * k + 4 * p) (D.F k p) (D.N k p) (D.T k p) := by
    have := hP.st k hk.1 hk.2
    rcases hp with rfl | rfl | ⟨rfl, e⟩
    · rw [show 13 * k + 4 * (0 : Int) = 13 * k by omega]; exact this.p0
    · exact this.p1
    · exact this.p2 e
  have hsd : 0 ≤ s / D.cnt ∧ s / D.cnt ≤ 24 := ⟨Int.ediv_nonneg hs.1 (by omega), by have := Int.ediv_le_self D.cnt hs.1; omega⟩
  have w2 : wr (13 * k + 4 * p + 2) = 13 * k + 4 * p + 2 := wr_of (by omega) (by omega)
  have w3 : wr (13 * k + 4 * p + 3) = 13 * k + 4 * p + 3 := wr_of (by omega) (by omega)
  have hln : i 504 21 = G.length + 1 := by rw [h.n]; simp
  have hl : wr (i 504 21 - 1) = G.length := by rw [hln, wr_of (by omega) (by omega)]; omega
  unfold wp_X12_remember
  rw [hl]
  have key : s23_X12_remember s (13 * k + 4 * p) (G.length : Int) (G.length : Int) w i r Q := by
    unfold s23_X12_remember s47_X12_remember s82_X12_remember
    simp (disch := omega) only [w2, w3, st_row, st_eq]
    rw [(hm.t hF).1, (hm.t hF).2, hP.cnt]
    have hR := rem_last (w := w) (t := D.T k p) (o := plc (D.T k p) (D.N k p) (s / D.cnt)) h
    have hf : FB i (st (st (st i 520 (G.length : Int) w) 521 (G.length : Int) (D.T k p)) 522 (G.length : Int) (plc (D.T k p) (D.N k p) (s / D.cnt))) := ((FB.sa (by decide)).trans (FB.sa (by decide))).trans (FB.sa (by decide))
    have hQ := hQ _ hf hR
    refine ⟨by omega, by omega, fun e => ?_, fun e => ?_⟩
    · refine ⟨by omega, by simp, by omega, by omega, fun z => absurd z (by decide), fun _ => ⟨by omega, by omega, ?_⟩⟩
      rw [Int.tdiv_eq_ediv_of_nonneg hs.1, wr_of (x := s / D.cnt) (by omega) (by omega), wr_of (by omega) (by omega)]
      rw [e] at hQ
      unfold plc at hQ
      rw [if_neg (by decide), Int.add_comm] at hQ
      exact hQ
    · have e0 : D.T k p = 0 := by omega
      refine ⟨by omega, by simp, by omega, by omega, fun _ => ⟨by omega, ?_⟩, fun z => absurd (by trivial) z⟩
      rw [wr_of (by omega) (by omega)]
      rw [e0] at hQ
      unfold plc at hQ
      rw [if_pos rfl] at hQ
      rw [Int.add_zero]
      exact hQ
  rcases hw with rfl | rfl
  · exact ⟨fun _ => key, fun z => absurd rfl z⟩
  · exact ⟨fun z => absurd z (by decide), fun _ => key⟩
/-- a reading node of the reference -/
def gRm (D : Dat) (k p s q : Int) : Int → Int := if D.F k p = 5 then gnm s q 5 else iup (iup (iup (gnm s q (D.F k p)) 520 0) 521 (D.T k p)) 522 (plc (D.T k p) (D.N k p) (s / D.cnt))
theorem addRead_w {D : Dat} (ok : DOk D) {i r : MI} {G : List (Int → Int)} {s k p q : Int} {Q : MI → Prop} (hP : ModelP D i) (hk : 0 ≤ k ∧ k < D.cnt) (hp : p = 1 ∨ (p = 2 ∧ D.O k ≠ 32)) (hs : 0 ≤ s ∧ s < 24) (h : NLk i G) (hn : G.length < 96)
    (h1 : isRd (D.F k p) → ∀ i', FB i i' → NLk i' (G ++ [gRm D k p s q]) → Q i') (h0 : ¬ isRd (D.F k p) → Q i) : wp_X12_addRead s q (13 * k + 4 * p) i r Q := by
  have hc := ok.cnt
  have sok := ok.st k hk.1 hk.2
  have hm := mstm_p hP hk hp
  have hF : 0 ≤ D.F k p ∧ D.F k p ≤ 5 := by
    rcases hp with rfl | ⟨rfl, e⟩
    · exact sok.f1
    · rcases sok.f2 with q | q
      · exact absurd q.1 e
      · exact q.2
  have hk0 := hm.k
  rw [if_pos hF.2] at hk0
  unfold wp_X12_addRead s58_X12_addRead
  rw [hk0, isRead_e, bz_0]
  refine ⟨by omega, fun rd => h0 rd, fun rd => ⟨by omega, ?_⟩⟩
  rw [Decidable.not_not] at rd
  have h1 := h1 rd
  unfold gRm at h1
  unfold s38_X12_addRead s58_X12_addRead
  refine ⟨fun e => ?_, fun e => ⟨by omega, ?_⟩⟩
  · rw [if_pos e] at h1
    refine addNode_w h hn (fun i2 f n => ⟨by omega, fun _ => h1 _ f n, fun z => ?_⟩)
    rw [f.i _ (by decide) (by decide), hk0] at z
    exact absurd e z
  · rw [if_neg e] at h1
    have hF2 : D.F k p = 3 ∨ D.F k p = 4 := by omega
    unfold wp_X12_kindOfMemory s10_X12_kindOfMemory
    have key : ∀ kd, kd = D.F k p → wp_X12_addNode s q kd i r (fun i2 => (0 ≤ 13 * k + 4 * p ∧ 13 * k + 4 * p < 156) ∧ (i2 507 (13 * k + 4 * p) = 5 → Q i2) ∧ (¬i2 507 (13 * k + 4 * p) = 5 → wp_X12_remember s (13 * k + 4 * p) 0 i2 r fun i13 => Q i13)) := by
      intro kd hkd
      subst hkd
      refine addNode_w h hn (fun i2 f n => ⟨by omega, fun z => ?_, fun z => ?_⟩)
      · rw [f.i _ (by decide) (by decide), hk0] at z
        exact absurd z e
      · exact remember_w ok (hP.fb f) hk (by omega) hF2 hs n hn (.inl rfl) (fun i3 f3 n3 => h1 _ (f.trans f3) n3)
    exact ⟨fun e3 => key 3 e3.symm, fun e3 => key 4 (by omega)⟩
theorem msk_r {D : Dat} (ok : DOk D) {k p : Int} (hk : 0 ≤ k ∧ k < D.cnt) (hp : 0 ≤ p ∧ p < 3) : iOr 0 (mskN D k p) = mskN D k p := by
  unfold mskN
  split
  · rename_i e
    have := (ok.st k hk.1 hk.2).n0 p hp.1 hp.2 e
    have g : ∀ n : Nat, n < 8 → iOr 0 (iShl 1 (n : Int)) = iShl 1 (n : Int) := by decide +kernel
    have := g (D.N k p).toNat (by omega)
    rw [show (((D.N k p).toNat : Nat) : Int) = D.N k p by omega] at this
    exact this
  · decide
theorem uses_w {D : Dat} (ok : DOk D) {i r : MI} {G : List (Int → Int)} {g : Int → Int} {k p : Int} {Q : MI → Prop} (hP : ModelP D i) (hk : 0 ≤ k ∧ k < D.cnt) (hp : p = 1 ∨ (p = 2 ∧ D.O k ≠ 32)) (h : NLk i (G ++ [g])) (hn : G.length < 96)
    (hQ : ∀ i', FB i i' → NLk i' (G ++ [iup g 518 (iOr (g 518) (mskN D k p))]) → Q i') : wp_X12_uses (13 * k + 4 * p) i r Q := by
  have hc := ok.cnt
  have sok := ok.st k hk.1 hk.2
  have hm := mstm_p hP hk hp
  have hF : 0 ≤ D.F k p ∧ D.F k p ≤ 5 := by
    rcases hp with rfl | ⟨rfl, e⟩
    · exact sok.f1
    · rcases sok.f2 with q | q
      · exact absurd q.1 e
      · exact q.2
  have hk0 := hm.k
  rw [if_pos hF.2] at hk0
  have hln : i 504 21 = G.length + 1 := by rw [h.n]; simp
  have hl : wr (i 504 21 - 1) = G.length := by rw [hln, wr_of (by omega) (by omega)]; omega
  obtain ⟨a, b⟩ := h.g G.length g (by rw [List.getElem?_append_right (Nat.le_refl _)]; simp)
  have w1 : wr (13 * k + 4 * p + 1) = 13 * k + 4 * p + 1 := wr_of (by omega) (by omega)
  unfold wp_X12_uses s35_X12_uses
  rw [hl, hk0, w1, a 518 (by decide) (by decide)]
  have hQ := hQ _ (FB.sa (by decide)) (setm_last (c := 518) (w := iOr (g 518) (mskN D k p)) h (by decide))
  unfold mskN at hQ
  refine ⟨by omega, by omega, fun e => ⟨by omega, by omega, ?_⟩, fun e => ⟨by omega, ?_⟩⟩
  · rw [if_pos e] at hQ
    rw [hm.n (.inl e)]; exact hQ
  · rw [if_neg e] at hQ; exact hQ
