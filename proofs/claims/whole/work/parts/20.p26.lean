theorem c6 {P : Int → Prop} (h1 : P 515) (h2 : P 516) (h3 : P 517) (h4 : P 518) (h5 : P 519) (h6 : P 520) : ∀ c, 515 ≤ c → c ≤ 520 → P c := by
  intro c a b
  have : c = 515 ∨ c = 516 ∨ c = 517 ∨ c = 518 ∨ c = 519 ∨ c = 520 := by omega
  rcases this with rfl | rfl | rfl | rfl | rfl | rfl <;> assumption
theorem unit_e {O : Int} {i r : MI} {Q : Int → Prop} : wp_X12_unit O i r Q ↔ Q (opk O) := by
  unfold wp_X12_unit s18_X12_unit s33_X12_unit opk
  by_cases e1 : O = 42
  · simp [e1]
  by_cases e2 : O = 43
  · simp [e2]
  by_cases e3 : O = 45
  · simp [e3]
  by_cases e4 : O = 108
  · simp [e4]
  · simp [e1, e2, e3, e4]
theorem addStatement_w {D : Dat} (ok : DOk D) {i r : MI} {L : List (Int × Int)} {s : Int} {Q : MI → Prop} (hP : ModelP D i) (hk : 0 < D.cnt) (hs : 0 ≤ s ∧ s < 24) (h : NLk i (GM D L)) (hn : L.length + 4 ≤ 96)
    (hQ : ∀ i', FB i i' → NLk i' (GM D (L ++ (rls D (s % D.cnt)).map (fun q => (s, q)))) → Q i') : wp_X12_addStatement s i r Q := by
  have hkk : 0 ≤ s % D.cnt ∧ s % D.cnt < D.cnt := ⟨Int.emod_nonneg _ (by omega), Int.emod_lt_of_pos _ hk⟩
  have htm : Int.tmod s D.cnt = s % D.cnt := Int.tmod_eq_emod_of_nonneg hs.1
  have hst0 : ∀ q : Int, stK D (s, q) = s % D.cnt := fun q => rfl
  have sok := ok.st _ hkk.1 hkk.2
  have hcn := ok.cnt
  have hms := hP.st _ hkk.1 hkk.2
  unfold wp_X12_addStatement
  rw [hP.cnt, htm]
  generalize s % D.cnt = k at *
  have w0 : wr (13 * k) = 13 * k := wr_of (by omega) (by omega)
  have w4 : wr (13 * k + 4) = 13 * k + 4 := wr_of (by omega) (by omega)
  have w8 : wr (13 * k + 8) = 13 * k + 8 := wr_of (by omega) (by omega)
  have w12 : wr (13 * k + 12) = 13 * k + 12 := wr_of (by omega) (by omega)
  have w1 : wr (13 * k + 1) = 13 * k + 1 := wr_of (by omega) (by omega)
  simp only [w0, w4, w8, w12]
  have f0 := sok.f0
  have hln := h.n
  rw [GM_len] at hln
  rw [hln]
  have n0r : D.F k 0 = 0 → 0 ≤ D.N k 0 ∧ D.N k 0 ≤ 7 := fun e => sok.n0 0 (by decide) (by decide) e
  -- the last node's register
  have makes : ∀ (L' : List (Int × Int)) (g : Int → Int) (q : Int) (i' : MI), FB i i' → L'.length < 96 → NLk i' (GM D L' ++ [g]) → L' ++ [(s, q)] = L ++ (rls D k).map (fun q => (s, q)) → (∀ c, 515 ≤ c → c ≤ 520 → iup g 519 (if D.F k 0 = 0 then D.N k 0 else -1) c = attm D (s, q) c) → (wrN D (s, q) ≠ -1 → g 521 = tnN D (s, q) ∧ g 522 = fpN D (s, q)) → s154_X12_addStatement (13 * k) (i 507 (13 * k)) i' r Q := by
    intro L' g q i' f hl n hq ha ha2
    have hln' : i' 504 21 = L'.length + 1 := by rw [n.n]; simp [GM_len]
    have hl' : wr (i' 504 21 - 1) = L'.length := by rw [hln', wr_of (by omega) (by omega)]; omega
    unfold s154_X12_addStatement s181_X12_addStatement
    rw [hl', w1, hms.p0.k]
    have fin : ∀ w, w = (if D.F k 0 = 0 then D.N k 0 else -1) → Q (st i' 519 (L'.length : Int) w) := by
      intro w hw
      have n2 := setm_last (c := 519) (w := w) n (by decide)
      rw [GM_len] at n2
      rw [← hw] at ha
      have n3 := extm_last (g' := attm D (s, q)) n2 ha (fun z => by
        have e1 : attm D (s, q) 520 = wrN D (s, q) := rfl
        rw [e1] at z
        have := ha2 z
        exact ⟨this.1, this.2⟩)
      rw [← GM_app, hq] at n3
      exact hQ _ (f.trans (FB.sa (by decide))) n3
    refine ⟨fun e => ⟨by omega, by omega, ?_⟩, fun e => ⟨by omega, ?_⟩⟩
    · have e0 : D.F k 0 = 0 := by
        by_cases w : D.F k 0 ≤ 5
        · rw [if_pos w] at e; exact e
        · rw [if_neg w] at e; omega
      refine fin _ ?_
      rw [if_pos e0]
      rw [f.i 507 (by decide) (by decide)]
      exact hms.p0.n (.inl e0)
    · have e0 : D.F k 0 ≠ 0 := by
        intro w; rw [w] at e; exact e rfl
      refine fin _ ?_
      rw [if_neg e0]
  -- the uses of a statement without an operation, and then the register
  have lastS : ∀ (L' : List (Int × Int)) (g : Int → Int) (q : Int) (i' : MI), FB i i' → L'.length < 96 → NLk i' (GM D L' ++ [g]) → L' ++ [(s, q)] = L ++ (rls D k).map (fun q => (s, q)) → (∀ c, 515 ≤ c → c ≤ 520 → iup (iup g 518 (if D.O k = 32 then iOr (g 518) (mskN D k 1) else g 518)) 519 (if D.F k 0 = 0 then D.N k 0 else -1) c = attm D (s, q) c) → (wrN D (s, q) ≠ -1 → g 521 = tnN D (s, q) ∧ g 522 = fpN D (s, q)) → s142_X12_addStatement (13 * k) (i 507 (13 * k + 12)) (i 507 (13 * k)) i' r Q := by
    intro L' g q i' f hl n hq ha ha2
    unfold s142_X12_addStatement
    rw [w4, hms.o]
    refine ⟨fun e => ?_, fun e => ?_⟩
    · have hO : D.O k = 32 := by
        rcases sok.f2 with w | w
        · exact w.1
        · exfalso; unfold isOp at *; rw [if_neg (by omega)] at e; omega
      rw [if_pos hO] at ha
      have key := uses_w (p := 1) (Q := fun i15 => s154_X12_addStatement (13 * k) (i 507 (13 * k)) i' r Q → True) ok (hP.fb f) hkk (.inl rfl) n (by rw [GM_len]; exact hl) (fun _ _ _ _ => trivial) (r := r)
      refine uses_w (p := 1) ok (hP.fb f) hkk (.inl rfl) n (by rw [GM_len]; exact hl) (fun i2 f2 n2 => ?_)
      exact makes L' _ q i2 (f.trans f2) hl n2 hq ha ha2
    · have hO : D.O k ≠ 32 := by intro w; rw [if_pos w] at e; exact e rfl
      rw [if_neg hO] at ha
      have e1 : iup g 518 (g 518) = g := iup_self
      rw [e1] at ha
      exact makes L' g q i' f hl n hq ha ha2
  have kdW : kdN D (s, 3) = D.F k 0 := by simp [kdN, hst0]
  -- the writing, or a move
  have target : ∀ (L' : List (Int × Int)) (i' : MI), FB i i' → L'.length < 96 → NLk i' (GM D L') → D.F k 0 ≠ 0 → L' ++ [(s, 3)] = L ++ (rls D k).map (fun q => (s, q)) → s84_X12_addStatement s (13 * k) (L.length : Int) (i 507 (13 * k + 12)) (i 507 (13 * k)) i' r Q := by
    intro L' i' f hl n e0 hq
    unfold s84_X12_addStatement s108_X12_addStatement
    have hus : usN D (s, 3) = if D.O k = 32 then iOr 0 (mskN D k 1) else 0 := by
      rw [msk_r ok hkk (by decide)]; simp only [usN, hst0]; simp
    refine ⟨fun e => ?_, fun e => ⟨fun e5 => ?_, fun e5 => ?_⟩⟩
    · exfalso
      rw [hms.p0.k] at e
      by_cases w : D.F k 0 ≤ 5
      · rw [if_pos w] at e; exact e0 e
      · rw [if_neg w] at e; omega
    · have e6 : D.F k 0 = 6 := by
        rw [hms.p0.k] at e5
        by_cases w : D.F k 0 ≤ 5
        · rw [if_pos w] at e5; omega
        · omega
      refine addNode_w n (by rw [GM_len]; exact hl) (fun i2 f2 n2 => ⟨fun _ => ?_, fun z => absurd e5 z⟩)
      refine lastS L' _ 3 i2 (f.trans f2) hl n2 hq ?_ ?_
      · apply c6 <;> simp [iup, gnm, attm, wrN, mkN, hst0, kdW, e6, hus]
      · intro z; exfalso; apply z; simp [wrN, kdW, e6]
    · have e34 : D.F k 0 = 3 ∨ D.F k 0 = 4 := by
        rw [hms.p0.k] at e5
        by_cases w : D.F k 0 ≤ 5
        · omega
        · rw [if_neg w] at e5; exact absurd rfl e5
      have hmk : i 507 (13 * k) = D.F k 0 := by rw [hms.p0.k, if_pos (by omega)]
      unfold wp_X12_kindOfMemory s10_X12_kindOfMemory
      rw [hmk]
      have key : ∀ kd, kd = D.F k 0 → wp_X12_addNode s 3 kd i' r (fun i36 => (D.F k 0 = 5 → s142_X12_addStatement (13 * k) (i 507 (13 * k + 12)) (D.F k 0) i36 r Q) ∧ (¬D.F k 0 = 5 → wp_X12_remember s (13 * k) 1 i36 r fun i46 => s142_X12_addStatement (13 * k) (i 507 (13 * k + 12)) (D.F k 0) i46 r Q)) := by
        intro kd hkd
        subst hkd
        refine addNode_w n (by rw [GM_len]; exact hl) (fun i2 f2 n2 => ⟨fun z => by omega, fun _ => ?_⟩)
        have hrem := remember_w (p := 0) (w := 1) (s := s) (k := k) (r := r) (Q := fun i46 => s142_X12_addStatement (13 * k) (i 507 (13 * k + 12)) (D.F k 0) i46 r Q) ok ((hP.fb f).fb f2) hkk (.inl rfl) e34 hs n2 (by rw [GM_len]; exact hl) (.inr rfl) (fun i3 f3 n3 => by
          rw [← hmk]
          refine lastS L' _ 3 i3 ((f.trans f2).trans f3) hl n3 hq ?_ ?_
          · apply c6 <;> simp [iup, gnm, attm, wrN, mkN, hst0, kdW, hus, e34, e0]
          · intro _; simp [iup, tnN, fpN, plN, hst0])
        rw [show 13 * k + 4 * (0 : Int) = 13 * k by omega] at hrem
        exact hrem
      exact ⟨fun e3 => key 3 e3.symm, fun e3 => key 4 (by omega)⟩
  have attR : ∀ (p q : Int), (p = 1 ∧ q = 0 ∨ p = 2 ∧ q = 1) → isRd (D.F k p) → (q = 0 → D.F k 0 ≠ 0 ∨ D.O k ≠ 32) → (∀ c, 515 ≤ c → c ≤ 520 → gRm D k p s q c = attm D (s, q) c) ∧ (attm D (s, q) 520 ≠ -1 → gRm D k p s q 521 = attm D (s, q) 521 ∧ gRm D k p s q 522 = attm D (s, q) 522) := by
    intro p q hpq rd hh
    unfold gRm
    rcases hpq with ⟨rfl, rfl⟩ | ⟨rfl, rfl⟩
    · have hmk : ¬ (D.F k 0 = 0 ∧ D.O k = 32) := by have := hh rfl; omega
      have hmk' : D.F k 0 = 0 → ¬ D.O k = 32 := fun a b => hmk ⟨a, b⟩
      by_cases e5 : D.F k 1 = 5
      · rw [if_pos e5]
        refine ⟨?_, fun z => ?_⟩
        · apply c6 <;> simp [iup, gnm, attm, wrN, mkN, kdN, usN, hst0, e5]
          exact fun a b => absurd b (hmk' a)
        · exfalso; apply z; simp [attm, wrN, kdN, hst0, e5]
      · rw [if_neg e5]
        have e34 : D.F k 1 = 3 ∨ D.F k 1 = 4 := by omega
        refine ⟨?_, fun z => ?_⟩
        · apply c6 <;> simp [iup, gnm, attm, wrN, mkN, kdN, usN, hst0, e34]
          exact fun a b => absurd b (hmk' a)
        · simp [iup, attm, tnN, fpN, plN, hst0]
    · by_cases e5 : D.F k 2 = 5
      · rw [if_pos e5]
        refine ⟨?_, fun z => ?_⟩
        · apply c6 <;> simp [iup, gnm, attm, wrN, mkN, kdN, usN, hst0, e5]
        · exfalso; apply z; simp [attm, wrN, kdN, hst0, e5]
      · rw [if_neg e5]
        have e34 : D.F k 2 = 3 ∨ D.F k 2 = 4 := by omega
        refine ⟨?_, fun z => ?_⟩
        · apply c6 <;> simp [iup, gnm, attm, wrN, mkN, kdN, usN, hst0, e34]
        · simp [iup, attm, tnN, fpN, plN, hst0]
  have hO12 : (i 507 (13 * k + 12) = 0) ↔ D.O k = 32 := by
    rw [hms.o]
    rcases sok.f2 with w | w
    · simp [w.1]
    · have : ¬ D.O k = 32 := by omega
      rw [if_neg this]
      constructor <;> intro z <;> omega
  have start : wp_X12_addRead s 0 (13 * k + 4) i r (fun i135 => ((i 507 (13 * k + 12)) = 0 → s84_X12_addStatement s (13 * k) (L.length : Int) (i 507 (13 * k + 12)) (i 507 (13 * k)) i135 r Q) ∧ (¬ (i 507 (13 * k + 12)) = 0 → wp_X12_addRead s 1 (13 * k + 8) i135 r (fun i145 => wp_X12_unit (i 507 (13 * k + 12)) i145 r (fun v151 => wp_X12_addNode s 2 v151 i145 r (fun i159 => wp_X12_uses (13 * k + 4) i159 r (fun i166 => wp_X12_uses (13 * k + 8) i166 r (fun i173 => s84_X12_addStatement s (13 * k) (L.length : Int) (i 507 (13 * k + 12)) (i 507 (13 * k)) i173 r Q))))))) := by
    rw [show 13 * k + 4 = 13 * k + 4 * (1 : Int) by omega]
    have opS : ∀ (L2 : List (Int × Int)) (i' : MI), FB i i' → D.O k ≠ 32 → L2.length + 2 ≤ 96 → NLk i' (GM D L2) → (L2 ++ [(s, 2)]) ++ (if D.F k 0 = 0 then [] else [(s, 3)]) = L ++ (rls D k).map (fun q => (s, q)) → L.length ≤ L2.length → wp_X12_unit (i 507 (13 * k + 12)) i' r (fun v151 => wp_X12_addNode s 2 v151 i' r (fun i159 => wp_X12_uses (13 * k + 4 * 1) i159 r (fun i166 => wp_X12_uses (13 * k + 8) i166 r (fun i173 => s84_X12_addStatement s (13 * k) (L.length : Int) (i 507 (13 * k + 12)) (i 507 (13 * k)) i173 r Q)))) := by
      intro L2 i' f hO hl n hq hLe
      have eO : i 507 (13 * k + 12) = D.O k := by rw [hms.o, if_neg hO]
      rw [unit_e]
      conv in opk _ => rw [eO]
      refine addNode_w n (by rw [GM_len]; omega) (fun i2 f2 n2 => ?_)
      refine uses_w (p := 1) ok ((hP.fb f).fb f2) hkk (.inl rfl) n2 (by rw [GM_len]; omega) (fun i3 f3 n3 => ?_)
      rw [show 13 * k + 8 = 13 * k + 4 * (2 : Int) by omega]
      refine uses_w (p := 2) ok (((hP.fb f).fb f2).fb f3) hkk (.inr ⟨rfl, hO⟩) n3 (by rw [GM_len]; omega) (fun i4 f4 n4 => ?_)
      have hus : usN D (s, 2) = iOr (iOr 0 (mskN D k 1)) (mskN D k 2) := by
        rw [msk_r ok hkk (by decide)]; simp only [usN, hst0]; simp
      by_cases e0 : D.F k 0 = 0
      · rw [if_pos e0, List.append_nil] at hq
        unfold s84_X12_addStatement
        have e00 : i 507 (13 * k) = 0 := by rw [hms.p0.k, if_pos (by omega)]; exact e0
        have hl4 : i4 504 21 = L2.length + 1 := by rw [n4.n]; simp [GM_len]
        refine ⟨fun _ => ⟨fun z => by omega, fun _ => ?_⟩, fun z => absurd e00 z⟩
        refine lastS L2 _ 2 i4 (((f.trans f2).trans f3).trans f4) (by omega) n4 hq ?_ ?_
        · apply c6 <;> simp [iup, gnm, attm, wrN, mkN, kdN, hst0, e0, hO, hus]
        · intro z; exfalso; apply z; simp [wrN]
      · rw [if_neg e0] at hq
        have n5 : NLk i4 (GM D (L2 ++ [(s, 2)])) := by
          rw [GM_app]
          refine extm_last n4 ?_ ?_
          · apply c6 <;> simp [iup, gnm, attm, wrN, mkN, kdN, hst0, e0, hO, hus]
          · intro z; exfalso; apply z; simp [attm, wrN]
        exact target _ i4 (((f.trans f2).trans f3).trans f4) (by simp; omega) n5 e0 hq
    have sec : ∀ (L1 : List (Int × Int)) (i' : MI), FB i i' → D.O k ≠ 32 → L1.length + 3 ≤ 96 → NLk i' (GM D L1) → L1 = L ++ (if isRd (D.F k 1) then [(s, 0)] else []) → wp_X12_addRead s 1 (13 * k + 8) i' r (fun i145 => wp_X12_unit (i 507 (13 * k + 12)) i145 r (fun v151 => wp_X12_addNode s 2 v151 i145 r (fun i159 => wp_X12_uses (13 * k + 4 * 1) i159 r (fun i166 => wp_X12_uses (13 * k + 8) i166 r (fun i173 => s84_X12_addStatement s (13 * k) (L.length : Int) (i 507 (13 * k + 12)) (i 507 (13 * k)) i173 r Q))))) := by
      intro L1 i' f hO hl n hL
      have hLe : L.length ≤ L1.length := by rw [hL]; simp
      have e8 : 13 * k + 8 = 13 * k + 4 * (2 : Int) := by omega
      have opS' := opS
      rw [e8] at opS' ⊢
      refine addRead_w (p := 2) ok (hP.fb f) hkk (.inr ⟨rfl, hO⟩) hs n (by rw [GM_len]; omega) (fun rd2 i2 f2 n2 => ?_) (fun nrd2 => ?_)
      · have n3 : NLk i2 (GM D (L1 ++ [(s, 1)])) := by
          rw [GM_app]
          have := attR 2 1 (.inr ⟨rfl, rfl⟩) rd2 (fun z => absurd z (by decide))
          exact extm_last n2 this.1 this.2
        refine opS' _ i2 (f.trans f2) hO (by simp; omega) n3 ?_ (by simp; omega)
        rw [hL]; unfold rls; rw [if_neg hO, if_pos rd2]
        by_cases rd1 : isRd (D.F k 1)
        · simp only [if_pos rd1]
          by_cases e0 : D.F k 0 = 0 <;> simp [e0, hO]
        · simp only [if_neg rd1]
          by_cases e0 : D.F k 0 = 0 <;> simp [e0, hO]
      · refine opS' _ i' f hO (by omega) n ?_ hLe
        rw [hL]; unfold rls; rw [if_neg hO, if_neg nrd2]
        by_cases rd1 : isRd (D.F k 1)
        · simp only [if_pos rd1]
          by_cases e0 : D.F k 0 = 0 <;> simp [e0, hO]
        · simp only [if_neg rd1]
          by_cases e0 : D.F k 0 = 0 <;> simp [e0, hO]
    refine addRead_w (p := 1) ok hP hkk (.inl rfl) hs h (by rw [GM_len]; omega) (fun rd1 i1 f1 n1 => ⟨fun z => ?_, fun z => ?_⟩) (fun nrd1 => ⟨fun z => ?_, fun z => ?_⟩)
    · have hO := hO12.1 z
      by_cases e0 : D.F k 0 = 0
      · have hr : rls D k = [0] := by unfold rls; rw [if_pos rd1, if_pos hO, if_pos e0, if_neg (fun q => q.2 rd1)]; rfl
        unfold s84_X12_addStatement
        have e00 : i 507 (13 * k) = 0 := by rw [hms.p0.k, if_pos (by omega)]; exact e0
        have hl1 : i1 504 21 = L.length + 1 := by rw [n1.n]; simp [GM_len]
        refine ⟨fun _ => ⟨fun z => by omega, fun _ => ?_⟩, fun z => absurd e00 z⟩
        have hm1 : mskN D k 1 = 0 := by unfold mskN; rw [if_neg (by omega)]
        have or0 : iOr 0 0 = 0 := by decide
        refine lastS L _ 0 i1 f1 (by omega) n1 (by rw [hr]; rfl) ?_ ?_
        · unfold gRm
          by_cases e5 : D.F k 1 = 5
          · rw [if_pos e5]
            apply c6 <;> simp [iup, gnm, attm, wrN, mkN, kdN, usN, hst0, e5, e0, hO, hm1, or0]
          · rw [if_neg e5]
            have e34 : D.F k 1 = 3 ∨ D.F k 1 = 4 := by omega
            apply c6 <;> simp [iup, gnm, attm, wrN, mkN, kdN, usN, hst0, e34, e0, hO, hm1, or0]
        · intro w
          unfold gRm
          by_cases e5 : D.F k 1 = 5
          · exfalso; apply w; simp [wrN, kdN, hst0, e5]
          · rw [if_neg e5]; simp [iup, tnN, fpN, plN, hst0]
      · have hr : rls D k = [0, 3] := by unfold rls; rw [if_pos rd1, if_pos hO, if_neg e0]; rfl
        have n3 : NLk i1 (GM D (L ++ [(s, 0)])) := by
          rw [GM_app]
          have := attR 1 0 (.inl ⟨rfl, rfl⟩) rd1 (fun _ => .inl e0)
          exact extm_last n1 this.1 this.2
        exact target _ i1 f1 (by simp; omega) n3 e0 (by rw [hr]; simp)
    · have hO : D.O k ≠ 32 := fun w => z (hO12.2 w)
      have n3 : NLk i1 (GM D (L ++ [(s, 0)])) := by
        rw [GM_app]
        have := attR 1 0 (.inl ⟨rfl, rfl⟩) rd1 (fun _ => .inr hO)
        exact extm_last n1 this.1 this.2
      exact sec _ i1 f1 hO (by simp; omega) n3 (by rw [if_pos rd1])
    · have hO := hO12.1 z
      by_cases e0 : D.F k 0 = 0
      · have hr : rls D k = [4] := by unfold rls; rw [if_neg nrd1, if_pos hO, if_pos e0, if_pos ⟨hO, nrd1⟩]; rfl
        unfold s84_X12_addStatement
        have e00 : i 507 (13 * k) = 0 := by rw [hms.p0.k, if_pos (by omega)]; exact e0
        refine ⟨fun _ => ⟨fun _ => ?_, fun z => absurd hln z⟩, fun z => absurd e00 z⟩
        refine addNode_w h (by rw [GM_len]; omega) (fun i2 f2 n2 => ?_)
        refine lastS L _ 4 i2 f2 (by omega) n2 (by rw [hr]; rfl) ?_ ?_
        · apply c6 <;> simp [iup, gnm, attm, wrN, mkN, kdN, usN, hst0, e0, hO, msk_r ok hkk]
        · intro w; exfalso; apply w; simp [wrN]
      · have hr : rls D k = [3] := by unfold rls; rw [if_neg nrd1, if_pos hO, if_neg e0]; rfl
        exact target L i (FB.refl i) (by omega) h e0 (by rw [hr]; rfl)
    · have hO : D.O k ≠ 32 := fun w => z (hO12.2 w)
      exact sec L i (FB.refl i) hO (by omega) h (by rw [if_neg nrd1]; simp)
  exact ⟨by omega, by omega, by omega, start⟩
