def GA (D : Dat) (s4 : Int → Int) (L : List (Int × Int)) : List (Int × (Int → Int)) := L.zipIdx.map (fun y => (s4 (stK D y.1), att D (y.2 : Int) y.1))
def ocL (D : Dat) (L : List (Int × Int)) (k : Int) : Int := (L.countP (fun x => decide (kdN D x = k)) : Nat)
theorem GA_len {D : Dat} {s4 : Int → Int} {L : List (Int × Int)} : (GA D s4 L).length = L.length := by simp [GA]
theorem GA_app {D : Dat} {s4 : Int → Int} {L : List (Int × Int)} {x : Int × Int} : GA D s4 (L ++ [x]) = GA D s4 L ++ [(s4 (stK D x), att D (L.length : Int) x)] := by
  unfold GA
  rw [List.zipIdx_append]
  simp
theorem ocL_app {D : Dat} {L : List (Int × Int)} {x : Int × Int} : ocL D (L ++ [x]) = iup (ocL D L) (kdN D x) (ocL D L (kdN D x) + 1) := by
  funext k
  unfold ocL iup
  rw [List.countP_append]
  by_cases e : k = kdN D x
  · rw [if_pos e, e]; simp
  · rw [if_neg e]
    have e2 : ¬ kdN D x = k := fun q => e q.symm
    simp [List.countP_cons, e2]
theorem ocL_b {D : Dat} {L : List (Int × Int)} {k : Int} : 0 ≤ ocL D L k ∧ ocL D L k ≤ L.length := by
  unfold ocL
  have := List.countP_le_length (p := fun x => decide (kdN D x = k)) (l := L)
  omega
theorem rls_len {D : Dat} {k : Int} : (rls D k).length ≤ 4 := by
  unfold rls
  repeat' split
  all_goals simp
theorem ndl_len {D : Dat} (n : Nat) : (ndl D n).length ≤ 4 * n := by
  induction n with
  | zero => simp [ndl]
  | succ n ih =>
    have := rls_len (D := D) (k := (n : Int) % D.cnt)
    simp [ndl]
    omega
theorem mask_e {D : Dat} {i r : MI} {o k p : Int} {Q : Int → Prop} (hs : StmAt i o (D.F k) (D.N k) (D.T k) (D.O k)) (hp : 0 ≤ p ∧ p < 3) : wp_X8_maskOfRegister o p i r Q ↔ Q (mskN D k p) := by
  unfold wp_X8_maskOfRegister s21_X8_maskOfRegister mskN
  rw [hs.f p hp.1 hp.2, hs.n p hp.1 hp.2]
  by_cases e : D.F k p = 0
  · rw [if_pos e]; exact ⟨fun q => (q.2.1 e).2, fun q => ⟨hp, fun _ => ⟨hp, q⟩, fun z => absurd e z⟩⟩
  · rw [if_neg e]; exact ⟨fun q => q.2.2 e, fun q => ⟨hp, fun z => absurd z e, fun _ => q⟩⟩
theorem opk_e {i r : MI} {o : Int} {F N T : Int → Int} {O : Int} {Q : Int → Prop} (hs : StmAt i o F N T O) : wp_X8_kindOfOperation o i r Q ↔ Q (opk O) := by
  unfold wp_X8_kindOfOperation s48_X8_kindOfOperation opk
  rw [hs.o]
  by_cases e1 : O = 42
  · simp [e1]
  by_cases e2 : O = 43
  · simp [e2]
  by_cases e3 : O = 45
  · simp [e3]
  by_cases e4 : O = 108
  · simp [e4]
  · simp [e1, e2, e3, e4]
theorem opk_r (O : Int) : 0 ≤ opk O ∧ opk O ≤ 2 := by
  unfold opk
  repeat' split
  all_goals omega
/-- what a node that reads is, but for the register that it makes -/
def gRd (D : Dat) (k p s cp : Int) : Int → Int := iup (iup (iup (gnew s cp (D.F k p)) 4 p) 9 (plc (D.T k p) (D.N k p) cp)) 10 (D.T k p)
theorem read_w {D : Dat} (ok : DOk D) {i r : MI} {G : List (Int × (Int → Int))} {oc : Int → Int} {k p s cp : Int} {Q : Int → MI → MI → Prop} (hP : ClassP D i r) (hk : 0 ≤ k ∧ k < D.cnt) (hp : p = 1 ∨ p = 2) (h : NLg i r G oc) (hn : G.length < 96) (ho : ∀ k, 0 ≤ oc k ∧ oc k ≤ 96) (hcp : 0 ≤ cp ∧ cp ≤ 1000)
    (h1 : isRd (D.F k p) → ∀ i' r', FA i r i' r' → NLg i' r' (G ++ [(r 4 k, gRd D k p s cp)]) (iup oc (D.F k p) (oc (D.F k p) + 1)) → Q G.length i' r') (h0 : ¬ isRd (D.F k p) → Q (-1) i r) : wp_X0_appendReading (r 4 k) s cp p i r Q := by
  have hst := hP.st k hk.1 hk.2
  have hp3 : 0 ≤ p ∧ p < 3 := by omega
  unfold wp_X0_appendReading wp_X8_isReading s24_X8_isReading s25_X8_isReading
  rw [hst.f p hp3.1 hp3.2]
  refine ⟨hp3, fun q => ⟨.inl rfl, fun _ => h0 (by omega), fun z => absurd rfl z⟩, fun q => ⟨hp3, fun q2 => ⟨.inl rfl, fun _ => h0 (by omega), fun z => absurd rfl z⟩, fun q2 => ⟨.inr rfl, fun z => absurd z (by decide), fun _ => ⟨hp3, ?_⟩⟩⟩⟩
  refine app_w h hn (by omega) (ho _) (fun i' r' f n => ⟨by omega, by omega, ?_⟩)
  have e4 : r 4 = r' 4 := (f.r _ (by omega)).symm
  rw [e4] at n
  have n2 := set_last (c := 4) (w := p) n
  have hP2 := (hP.fa f).fa (FA.nod (i := i') (r := r') (v := (G.length : Int)) (c := 4) (w := p) (by omega))
  refine setPlace_w ok hP2 hk hp3 n2 hn (by show 0 ≤ cp ∧ cp ≤ 1000; exact hcp) (fun i2 f2 n3 => ?_)
  refine h1 (by omega) _ _ ((f.trans (FA.nod (by omega))).trans f2) ?_
  rw [e4]
  exact n3
theorem setPlace_v {D : Dat} (ok : DOk D) {i r : MI} {G : List (Int × (Int → Int))} {oc : Int → Int} {k p v : Int} {g : Int → Int} {Q : MI → Prop} (hv : v = (G.length : Int)) (hP : ClassP D i r) (hk : 0 ≤ k ∧ k < D.cnt) (hp : 0 ≤ p ∧ p < 3) (h : NLg i r (G ++ [(r 4 k, g)]) oc) (hn : G.length < 96) (hc : 0 ≤ g 2 ∧ g 2 ≤ 1000)
    (hQ : ∀ i', FA i r i' r → NLg i' r (G ++ [(r 4 k, iup (iup g 9 (plc (D.T k p) (D.N k p) (g 2))) 10 (D.T k p))]) oc → Q i') : wp_X3_setPlace (72 + v) p i r Q := by
  rw [hv]; exact setPlace_w ok hP hk hp h hn hc hQ
theorem c12 {P : Int → Prop} (h1 : P 1) (h2 : P 2) (h3 : P 3) (h4 : P 4) (h5 : P 5) (h6 : P 6) (h7 : P 7) (h8 : P 8) (h9 : P 9) (h10 : P 10) (h11 : P 11) (h12 : P 12) : ∀ c, 1 ≤ c → c ≤ 12 → P c := by
  intro c a b
  have : c = 1 ∨ c = 2 ∨ c = 3 ∨ c = 4 ∨ c = 5 ∨ c = 6 ∨ c = 7 ∨ c = 8 ∨ c = 9 ∨ c = 10 ∨ c = 11 ∨ c = 12 := by omega
  rcases this with rfl | rfl | rfl | rfl | rfl | rfl | rfl | rfl | rfl | rfl | rfl | rfl <;> assumption
theorem numberOne_w {D : Dat} (ok : DOk D) {i r : MI} {L : List (Int × Int)} {s : Int} {Q : MI → MI → Prop} (hP : ClassP D i r) (hk : 0 < D.cnt) (hs : 0 ≤ s ∧ s < 24) (h : NLg i r (GA D (r 4) L) (ocL D L)) (hn : L.length + 4 ≤ 96)
    (hQ : ∀ i' r', FA i r i' r' → NLg i' r' (GA D (r 4) (L ++ (rls D (s % D.cnt)).map (fun q => (s, q)))) (ocL D (L ++ (rls D (s % D.cnt)).map (fun q => (s, q)))) → Q i' r') : wp_X0_numberOne (r 4 (s % D.cnt)) s (s / D.cnt) i r Q := by
  have hkk : 0 ≤ s % D.cnt ∧ s % D.cnt < D.cnt := ⟨Int.emod_nonneg _ (by omega), Int.emod_lt_of_pos _ hk⟩
  have hcp : 0 ≤ s / D.cnt ∧ s / D.cnt ≤ 1000 := ⟨Int.ediv_nonneg hs.1 (by omega), by have := Int.ediv_le_self D.cnt hs.1; omega⟩
  have hst0 : ∀ q : Int, stK D (s, q) = s % D.cnt := fun q => rfl
  have sok := ok.st _ hkk.1 hkk.2
  have hcn := ok.cnt
  generalize hkd : s % D.cnt = k at *
  generalize hcd : s / D.cnt = cp at *
  have hR : ∀ L : List (Int × Int), ∀ k, 0 ≤ ocL D L k ∧ (L.length ≤ 96 → ocL D L k ≤ 96) := fun L k => by have := ocL_b (D := D) (L := L) (k := k); omega
  unfold wp_X0_numberOne
  -- the writing, and the register that is made, behind the last node
  have tail : ∀ (L' : List (Int × Int)) (g : Int → Int) (x7 : Int) (i' r' : MI), FA i r i' r' → D.F k 0 = 0 → x7 = L'.length → L'.length < 96 → NLg i' r' (GA D (r 4) L' ++ [(r 4 k, g)]) (ocL D (L ++ (rls D k).map (fun q => (s, q)))) → (∃ q : Int, L' ++ [(s, q)] = L ++ (rls D k).map (fun q => (s, q)) ∧ ∀ c, 1 ≤ c → c ≤ 12 → iup g 8 (D.N k 0) c = att D (L'.length : Int) (s, q) c) → s147_X0_numberOne (r 4 k) s cp (D.N k 0) x7 i' r' Q := by
    intro L' g x7 i' r' f e0 hx hl n ⟨q, hq, ha⟩
    have hn0 := sok.n0 0 (by decide) (by decide) e0
    unfold s147_X0_numberOne s183_X0_numberOne
    refine ⟨fun z => by omega, fun _ => ⟨fun z => by omega, fun _ => ⟨by omega, ?_⟩⟩⟩
    have n2 := set_last (c := 8) (w := D.N k 0) n
    rw [GA_len] at n2
    have n3 := ext_last n2 ha
    have e5 : GA D (r 4) L' ++ [(r 4 k, fun c => att D (L'.length : Int) (s, q) c)] = GA D (r 4) (L' ++ [(s, q)]) := by rw [GA_app, hst0]
    rw [show (fun c => att D (L'.length : Int) (s, q) c) = att D (L'.length : Int) (s, q) from rfl] at e5
    rw [e5, hq] at n3
    rw [hx]
    exact hQ _ _ (f.trans (FA.nod (by omega))) n3
  have wtail : ∀ (L' : List (Int × Int)) (x7 : Int) (i' r' : MI), FA i r i' r' → D.F k 0 ≠ 0 → x7 = (if D.O k ≠ 32 ∨ isRd (D.F k 1) then (L'.length : Int) - 1 else -1) → L'.length < 96 → NLg i' r' (GA D (r 4) L') (ocL D L') → L' ++ [(s, 3)] = L ++ (rls D k).map (fun q => (s, q)) → (L'.length = 0 → x7 = -1) → s147_X0_numberOne (r 4 k) s cp (-1) x7 i' r' Q := by
    intro L' x7 i' r' f e0 hx hl n hq hz
    have hP' := hP.fa f
    have f0 := sok.f0
    have e4 : r' 4 = r 4 := f.r _ (by omega)
    have hst := hP'.st k hkk.1 hkk.2
    rw [e4] at hst
    unfold s147_X0_numberOne s183_X0_numberOne
    refine ⟨fun _ => ?_, fun z => absurd rfl z⟩
    unfold wp_X0_appendWriting s71_X0_appendWriting
    rw [hst.f 0 (by decide) (by decide)]
    refine app_w n (by rw [GA_len]; exact hl) (by omega) ⟨(hR L' _).1, (hR L' _).2 (by omega)⟩ (fun i2 r2 f2 n2 => ?_)
    rw [GA_len] at *
    have e42 : r2 4 = r 4 := by rw [f2.r _ (by omega)]; exact e4
    have n3 := set_last (c := 12) (w := 1) n2
    rw [GA_len] at n3
    have hP3 := (hP'.fa f2).fa (FA.nod (i := i2) (r := r2) (v := (L'.length : Int)) (c := 12) (w := 1) (by omega))
    rw [← e42] at n3
    refine ⟨by omega, by omega, ?_⟩
    refine setPlace_v ok (G := GA D (r2 4) L') (by rw [GA_len]) hP3 hkk (by decide) n3 (by rw [GA_len]; exact hl) (by show 0 ≤ cp ∧ cp ≤ 1000; exact hcp) (fun i4 f4 n4 => ?_)
    have n5 := set_last (c := 5) (w := x7) n4
    rw [GA_len] at n5
    have hst4 := ((hP3.fa f4).fa (FA.nod (i := i4) (r := r2) (v := (L'.length : Int)) (c := 5) (w := x7) (by omega))).st k hkk.1 hkk.2
    rw [e42] at hst4
    have fin : ∀ u, u = usN D (s, 3) → Q (st (st i4 (72 + (L'.length : Int)) 5 x7) (72 + (L'.length : Int)) 7 u) r2 := by
      intro u hu
      have n6 := set_last (c := 7) (w := u) n5
      rw [GA_len] at n6
      have n7 : NLg (st (st i4 (72 + (L'.length : Int)) 5 x7) (72 + (L'.length : Int)) 7 u) r2 (GA D (r 4) L' ++ [(r 4 k, att D (L'.length : Int) (s, 3))]) (iup (ocL D L') (D.F k 0) (ocL D L' (D.F k 0) + 1)) := by
        rw [e42] at n6
        refine ext_last n6 ?_
        apply c12 <;> simp [iup, gnew, att, kdN, ptN, g1N, g2N, usN, mkN, plN, fpN, tnN, hst0, hcd, hx, hu]
      have e6 : kdN D (s, 3) = D.F k 0 := by simp [kdN, hst0]
      rw [← e6, ← ocL_app] at n7
      have e5 : GA D (r 4) L' ++ [(r 4 k, att D (L'.length : Int) (s, 3))] = GA D (r 4) (L' ++ [(s, 3)]) := by rw [GA_app, hst0]
      rw [e5, hq] at n7
      exact hQ _ _ (((f.trans f2).trans (FA.nod (by omega))).trans (f4.trans ((FA.nod (by omega)).trans (FA.nod (by omega))))) n7
    refine ⟨by omega, by omega, fun z => ?_, fun z => ?_⟩
    · rw [mask_e hst4 (by decide)]
      refine fin _ ?_
      have hO : D.O k = 32 := by
        rw [hx] at z
        by_cases w : D.O k ≠ 32 ∨ isRd (D.F k 1)
        · rw [if_pos w] at z
          by_cases w2 : L'.length = 0
          · exfalso
            have : D.O k ≠ 32 ∨ isRd (D.F k 1) := w
            have := congrArg List.length hq
            have hr : rls D k ≠ [3] := by
              unfold rls
              rcases w with w | w
              · rw [if_neg w, if_neg e0]
                intro hh
                have := congrArg List.length hh
                simp at this
                omega
              · rw [if_pos w]
                intro hh
                have := congrArg List.head? hh
                simp at this
            have hL : L = [] := by
              have h3 : L'.length + 1 = L.length + (rls D k).length := by simpa using this
              have h4 : 1 ≤ (rls D k).length := by unfold rls; rw [if_neg e0]; simp; omega
              exact List.eq_nil_of_length_eq_zero (by omega)
            rw [hL, List.eq_nil_of_length_eq_zero w2] at hq
            apply hr
            have h5 := congrArg (List.map Prod.snd) hq
            simp [Function.comp_def] at h5
            exact h5.symm
          · omega
        · omega
      simp [usN, hst0, hO]
    · refine fin _ ?_
      have hO : D.O k = 32 → D.F k 1 ≠ 0 := by
        intro w
        rw [hx] at z
        by_cases w2 : D.O k ≠ 32 ∨ isRd (D.F k 1)
        · rcases w2 with w2 | w2
          · exact absurd w w2
          · omega
        · rw [if_neg w2] at z; omega
      simp only [usN, hst0]
      by_cases w : D.O k = 32
      · simp [w, mskN, hO w]
      · simp [w]
  have regE : ∀ (i' r' : MI) (Q : Int → Prop), FA i r i' r' → (wp_X8_registerIn (r 4 k) 0 i' r' Q ↔ Q (if D.F k 0 = 0 then D.N k 0 else -1)) := by
    intro i' r' Q f
    have hst := (hP.fa f).st k hkk.1 hkk.2
    rw [f.r _ (by omega)] at hst
    unfold wp_X8_registerIn s19_X8_registerIn
    rw [hst.f 0 (by decide) (by decide), hst.n 0 (by decide) (by decide)]
    by_cases e : D.F k 0 = 0
    · rw [if_pos e]; exact ⟨fun q => (q.2.1 e).2, fun q => ⟨by decide, fun _ => ⟨by decide, q⟩, fun z => absurd e z⟩⟩
    · rw [if_neg e]; exact ⟨fun q => q.2.2 e, fun q => ⟨by decide, fun z => absurd z e, fun _ => q⟩⟩
  have stE : ∀ (i' r' : MI), FA i r i' r' → StmAt i' (r 4 k) (D.F k) (D.N k) (D.T k) (D.O k) := by
    intro i' r' f
    have hst := (hP.fa f).st k hkk.1 hkk.2
    rw [f.r _ (by omega)] at hst
    exact hst
  have n0r : D.F k 0 = 0 → 0 ≤ D.N k 0 ∧ D.N k 0 ≤ 7 := fun e => sok.n0 0 (by decide) (by decide) e
  have opS : ∀ (L2 : List (Int × Int)) (v33 v40 : Int) (i41 r42 : MI), FA i r i41 r42 → D.O k ≠ 32 → L2.length + 2 ≤ 96 → NLg i41 r42 (GA D (r 4) L2) (ocL D L2) → (L2 ++ [(s, 2)]) ++ (if D.F k 0 = 0 then [] else [(s, 3)]) = L ++ (rls D k).map (fun q => (s, q)) → v33 = g1N D (L2.length : Int) (s, 2) → v40 = g2N D (L2.length : Int) (s, 2) → (wp_X8_registerIn (r 4 k) 0 i41 r42 (fun v47 => wp_X8_hasOperation (r 4 k) i41 r42 (fun v54 => ((v54 = 0 → ((v33 = (-1) → ((v47 = (-1) → s147_X0_numberOne (r 4 k) s cp v47 v33 i41 r42 Q) ∧ (¬ v47 = (-1) → wp_X0_append (r 4 k) s cp 2 i41 r42 (fun v70 i71 r72 => ((0 ≤ v70 ∧ v70 < 96) ∧ wp_X8_maskOfRegister (r 4 k) 1 i71 r72 (fun v78 => s147_X0_numberOne (r 4 k) s cp v47 v70 (st i71 (72 + v70) 7 v78) r72 Q)))))) ∧ (¬ v33 = (-1) → s147_X0_numberOne (r 4 k) s cp v47 v33 i41 r42 Q))) ∧ (¬ v54 = 0 → wp_X8_kindOfOperation (r 4 k) i41 r42 (fun v89 => wp_X0_append (r 4 k) s cp v89 i41 r42 (fun v96 i97 r98 => ((0 ≤ v96 ∧ v96 < 96) ∧ ((0 ≤ v96 ∧ v96 < 96) ∧ ((0 ≤ v96 ∧ v96 < 96) ∧ ((0 ≤ v96 ∧ v96 < 96) ∧ wp_X8_maskOfRegister (r 4 k) 1 (st (st (st i97 (72 + v96) 11 1) (72 + v96) 5 v33) (72 + v96) 6 v40) r98 (fun v107 => wp_X8_maskOfRegister (r 4 k) 2 (st (st (st i97 (72 + v96) 11 1) (72 + v96) 5 v33) (72 + v96) 6 v40) r98 (fun v114 => s147_X0_numberOne (r 4 k) s cp v47 v96 (st (st (st (st i97 (72 + v96) 11 1) (72 + v96) 5 v33) (72 + v96) 6 v40) (72 + v96) 7 (iOr v107 v114)) r98 Q))))))))))))) := by
    intro L2 v33 v40 i41 r42 f hO hl n hq h33 h40
    rw [regE _ _ _ f]
    unfold wp_X8_hasOperation s14_X8_hasOperation
    rw [(stE _ _ f).o]
    refine ⟨fun z => absurd z hO, fun _ => ⟨.inr rfl, fun z => absurd z (by decide), fun _ => ?_⟩⟩
    rw [opk_e (stE _ _ f)]
    have hok := opk_r (D.O k)
    refine app_w n (by rw [GA_len]; omega) (by omega) ⟨(hR L2 _).1, (hR L2 _).2 (by omega)⟩ (fun i5 r5 f5 n5 => ?_)
    have m1 := set_last (c := 11) (w := 1) n5
    have m2 := set_last (c := 5) (w := v33) m1
    have m3 := set_last (c := 6) (w := v40) m2
    rw [GA_len] at *
    refine ⟨by omega, by omega, by omega, by omega, ?_⟩
    have f6 : FA i r (st (st (st i5 (72 + (L2.length : Int)) 11 1) (72 + (L2.length : Int)) 5 v33) (72 + (L2.length : Int)) 6 v40) r5 := (f.trans f5).trans ((FA.nod (by omega)).trans ((FA.nod (by omega)).trans (FA.nod (by omega))))
    rw [mask_e (stE _ _ f6) (by decide), mask_e (stE _ _ f6) (by decide)]
    have m4 := set_last (c := 7) (w := iOr (mskN D k 1) (mskN D k 2)) m3
    rw [GA_len] at m4
    have f7 := f6.trans (FA.nod (i := _) (r := r5) (v := (L2.length : Int)) (c := 7) (w := iOr (mskN D k 1) (mskN D k 2)) (by omega))
    have hkd2 : kdN D (s, 2) = opk (D.O k) := by simp [kdN, hst0]
    rw [← hkd2, ← ocL_app] at m4
    by_cases e0 : D.F k 0 = 0
    · rw [if_pos e0]
      rw [if_pos e0, List.append_nil] at hq
      rw [hq] at m4
      refine tail L2 _ _ _ _ f7 e0 rfl (by omega) m4 ⟨2, hq, ?_⟩
      apply c12 <;> simp [iup, gnew, att, kdN, ptN, g1N, g2N, usN, mkN, plN, fpN, tnN, hst0, hcd, h33, h40, e0]
    · rw [if_neg e0]
      rw [if_neg e0] at hq
      have m5 : NLg (st (st (st (st i5 (72 + (L2.length : Int)) 11 1) (72 + (L2.length : Int)) 5 v33) (72 + (L2.length : Int)) 6 v40) (72 + (L2.length : Int)) 7 (iOr (mskN D k 1) (mskN D k 2))) r5 (GA D (r 4) (L2 ++ [(s, 2)])) (ocL D (L2 ++ [(s, 2)])) := by
        rw [GA_app, hst0]
        refine ext_last m4 ?_
        apply c12 <;> simp [iup, gnew, att, kdN, ptN, g1N, g2N, usN, mkN, plN, fpN, tnN, hst0, hcd, h33, h40, e0]
      refine wtail _ _ _ _ f7 e0 ?_ (by simp; omega) m5 hq (fun z => by simp at z)
      rw [if_pos (.inl hO)]; simp
  have h96 : ∀ a, 0 ≤ ocL D L a ∧ ocL D L a ≤ 96 := fun a => ⟨(hR L a).1, (hR L a).2 (by omega)⟩
  have att0 : isRd (D.F k 1) → (D.F k 0 ≠ 0 ∨ D.O k ≠ 32) → ∀ c, 1 ≤ c → c ≤ 12 → gRd D k 1 s cp c = att D (L.length : Int) (s, 0) c := by
    intro rd hh
    have hmk : ¬ (D.F k 0 = 0 ∧ D.O k = 32) := by omega
    apply c12 <;> simp [gRd, iup, gnew, att, kdN, ptN, g1N, g2N, usN, mkN, plN, fpN, tnN, hst0, hcd]
    intro a b; exact absurd ⟨a, b⟩ hmk
  have att1 : ∀ v : Int, ∀ c, 1 ≤ c → c ≤ 12 → gRd D k 2 s cp c = att D v (s, 1) c := by
    intro v
    apply c12 <;> simp [gRd, iup, gnew, att, kdN, ptN, g1N, g2N, usN, mkN, plN, fpN, tnN, hst0, hcd]
  have kd0 : kdN D (s, 0) = D.F k 1 := by simp [kdN, hst0]
  have kd1 : kdN D (s, 1) = D.F k 2 := by simp [kdN, hst0]
  have kd4 : kdN D (s, 4) = 2 := by simp [kdN]
  -- the second reading and what follows
  have sec : ∀ (L1 : List (Int × Int)) (v33 : Int) (i1 r1 : MI), FA i r i1 r1 → D.O k ≠ 32 → L1.length + 3 ≤ 96 → NLg i1 r1 (GA D (r 4) L1) (ocL D L1) → L1 = L ++ (if isRd (D.F k 1) then [(s, 0)] else []) → v33 = (if isRd (D.F k 1) then (L1.length : Int) - 1 else -1) → wp_X0_appendReading (r 4 k) s cp 2 i1 r1 (fun v40 i41 r42 => (wp_X8_registerIn (r 4 k) 0 i41 r42 (fun v47 => wp_X8_hasOperation (r 4 k) i41 r42 (fun v54 => ((v54 = 0 → ((v33 = (-1) → ((v47 = (-1) → s147_X0_numberOne (r 4 k) s cp v47 v33 i41 r42 Q) ∧ (¬ v47 = (-1) → wp_X0_append (r 4 k) s cp 2 i41 r42 (fun v70 i71 r72 => ((0 ≤ v70 ∧ v70 < 96) ∧ wp_X8_maskOfRegister (r 4 k) 1 i71 r72 (fun v78 => s147_X0_numberOne (r 4 k) s cp v47 v70 (st i71 (72 + v70) 7 v78) r72 Q)))))) ∧ (¬ v33 = (-1) → s147_X0_numberOne (r 4 k) s cp v47 v33 i41 r42 Q))) ∧ (¬ v54 = 0 → wp_X8_kindOfOperation (r 4 k) i41 r42 (fun v89 => wp_X0_append (r 4 k) s cp v89 i41 r42 (fun v96 i97 r98 => ((0 ≤ v96 ∧ v96 < 96) ∧ ((0 ≤ v96 ∧ v96 < 96) ∧ ((0 ≤ v96 ∧ v96 < 96) ∧ ((0 ≤ v96 ∧ v96 < 96) ∧ wp_X8_maskOfRegister (r 4 k) 1 (st (st (st i97 (72 + v96) 11 1) (72 + v96) 5 v33) (72 + v96) 6 v40) r98 (fun v107 => wp_X8_maskOfRegister (r 4 k) 2 (st (st (st i97 (72 + v96) 11 1) (72 + v96) 5 v33) (72 + v96) 6 v40) r98 (fun v114 => s147_X0_numberOne (r 4 k) s cp v47 v96 (st (st (st (st i97 (72 + v96) 11 1) (72 + v96) 5 v33) (72 + v96) 6 v40) (72 + v96) 7 (iOr v107 v114)) r98 Q)))))))))))))) := by
    intro L1 v33 i1 r1 f hO hl n hL h33
    have e4 : r1 4 = r 4 := f.r _ (by omega)
    rw [← e4] at n ⊢
    refine read_w ok (hP.fa f) hkk (.inr rfl) n (by rw [GA_len]; omega) (fun a => ⟨(hR L1 a).1, (hR L1 a).2 (by omega)⟩) hcp (fun rd2 i2 r2 f2 n2 => ?_) (fun nrd2 => ?_)
    · rw [e4] at n2 ⊢
      have n3 := ext_last n2 (att1 (L1.length : Int))
      have e5 : GA D (r 4) L1 ++ [(r 4 k, att D (L1.length : Int) (s, 1))] = GA D (r 4) (L1 ++ [(s, 1)]) := by rw [GA_app, hst0]
      rw [e5, ← kd1, ← ocL_app] at n3
      rw [GA_len]
      refine opS (L1 ++ [(s, 1)]) _ _ _ _ (f.trans f2) hO (by simp; omega) n3 ?_ ?_ ?_
      · rw [hL]; unfold rls; rw [if_neg hO, if_pos rd2]
        by_cases rd1 : isRd (D.F k 1)
        · simp only [if_pos rd1]
          by_cases e0 : D.F k 0 = 0 <;> simp [e0, hO]
        · simp only [if_neg rd1]
          by_cases e0 : D.F k 0 = 0 <;> simp [e0, hO]
      · rw [h33]; unfold g1N; simp only [hst0]
        by_cases rd1 : isRd (D.F k 1)
        · simp [rd1, rd2]; omega
        · simp [rd1]
      · unfold g2N; simp only [hst0]; simp [rd2]
    · rw [e4] at n ⊢
      refine opS L1 _ _ _ _ f hO (by omega) n ?_ ?_ ?_
      · rw [hL]; unfold rls; rw [if_neg hO, if_neg nrd2]
        by_cases rd1 : isRd (D.F k 1)
        · simp only [if_pos rd1]
          by_cases e0 : D.F k 0 = 0 <;> simp [e0, hO]
        · simp only [if_neg rd1]
          by_cases e0 : D.F k 0 = 0 <;> simp [e0, hO]
      · rw [h33]; unfold g1N; simp only [hst0]
        by_cases rd1 : isRd (D.F k 1)
        · simp [rd1, nrd2]
        · simp [rd1]
      · unfold g2N; simp only [hst0]; simp [nrd2]
  by_cases hO : D.O k = 32
  · have f2 : D.F k 2 = -1 := by
      rcases sok.f2 with q | q
      · exact q.2
      · exfalso; unfold isOp at *; omega
    have sec0 : ∀ (G : List (Int × (Int → Int))) (oc : Int → Int) (v33 : Int) (i1 r1 : MI), FA i r i1 r1 → (wp_X8_registerIn (r 4 k) 0 i1 r1 (fun v47 => wp_X8_hasOperation (r 4 k) i1 r1 (fun v54 => ((v54 = 0 → ((v33 = (-1) → ((v47 = (-1) → s147_X0_numberOne (r 4 k) s cp v47 v33 i1 r1 Q) ∧ (¬ v47 = (-1) → wp_X0_append (r 4 k) s cp 2 i1 r1 (fun v70 i71 r72 => ((0 ≤ v70 ∧ v70 < 96) ∧ wp_X8_maskOfRegister (r 4 k) 1 i71 r72 (fun v78 => s147_X0_numberOne (r 4 k) s cp v47 v70 (st i71 (72 + v70) 7 v78) r72 Q)))))) ∧ (¬ v33 = (-1) → s147_X0_numberOne (r 4 k) s cp v47 v33 i1 r1 Q))) ∧ (¬ v54 = 0 → wp_X8_kindOfOperation (r 4 k) i1 r1 (fun v89 => wp_X0_append (r 4 k) s cp v89 i1 r1 (fun v96 i97 r98 => ((0 ≤ v96 ∧ v96 < 96) ∧ ((0 ≤ v96 ∧ v96 < 96) ∧ ((0 ≤ v96 ∧ v96 < 96) ∧ ((0 ≤ v96 ∧ v96 < 96) ∧ wp_X8_maskOfRegister (r 4 k) 1 (st (st (st i97 (72 + v96) 11 1) (72 + v96) 5 v33) (72 + v96) 6 (-1)) r98 (fun v107 => wp_X8_maskOfRegister (r 4 k) 2 (st (st (st i97 (72 + v96) 11 1) (72 + v96) 5 v33) (72 + v96) 6 (-1)) r98 (fun v114 => s147_X0_numberOne (r 4 k) s cp v47 v96 (st (st (st (st i97 (72 + v96) 11 1) (72 + v96) 5 v33) (72 + v96) 6 (-1)) (72 + v96) 7 (iOr v107 v114)) r98 Q))))))))))))) → wp_X0_appendReading (r 4 k) s cp 2 i1 r1 (fun v40 i41 r42 => (wp_X8_registerIn (r 4 k) 0 i41 r42 (fun v47 => wp_X8_hasOperation (r 4 k) i41 r42 (fun v54 => ((v54 = 0 → ((v33 = (-1) → ((v47 = (-1) → s147_X0_numberOne (r 4 k) s cp v47 v33 i41 r42 Q) ∧ (¬ v47 = (-1) → wp_X0_append (r 4 k) s cp 2 i41 r42 (fun v70 i71 r72 => ((0 ≤ v70 ∧ v70 < 96) ∧ wp_X8_maskOfRegister (r 4 k) 1 i71 r72 (fun v78 => s147_X0_numberOne (r 4 k) s cp v47 v70 (st i71 (72 + v70) 7 v78) r72 Q)))))) ∧ (¬ v33 = (-1) → s147_X0_numberOne (r 4 k) s cp v47 v33 i41 r42 Q))) ∧ (¬ v54 = 0 → wp_X8_kindOfOperation (r 4 k) i41 r42 (fun v89 => wp_X0_append (r 4 k) s cp v89 i41 r42 (fun v96 i97 r98 => ((0 ≤ v96 ∧ v96 < 96) ∧ ((0 ≤ v96 ∧ v96 < 96) ∧ ((0 ≤ v96 ∧ v96 < 96) ∧ ((0 ≤ v96 ∧ v96 < 96) ∧ wp_X8_maskOfRegister (r 4 k) 1 (st (st (st i97 (72 + v96) 11 1) (72 + v96) 5 v33) (72 + v96) 6 v40) r98 (fun v107 => wp_X8_maskOfRegister (r 4 k) 2 (st (st (st i97 (72 + v96) 11 1) (72 + v96) 5 v33) (72 + v96) 6 v40) r98 (fun v114 => s147_X0_numberOne (r 4 k) s cp v47 v96 (st (st (st (st i97 (72 + v96) 11 1) (72 + v96) 5 v33) (72 + v96) 6 v40) (72 + v96) 7 (iOr v107 v114)) r98 Q)))))))))))))) := by
      intro G oc v33 i1 r1 f hB
      have hst := stE _ _ f
      unfold wp_X0_appendReading wp_X8_isReading s24_X8_isReading s25_X8_isReading
      rw [hst.f 2 (by decide) (by decide), f2]
      exact ⟨by decide, fun _ => ⟨.inl rfl, fun _ => hB, fun z => absurd rfl z⟩, fun z => absurd (by decide) z⟩
    refine read_w ok hP hkk (.inl rfl) h (by rw [GA_len]; omega) h96 hcp (fun rd1 i1 r1 f1 n1 => ?_) (fun nrd1 => ?_)
    · rw [GA_len]
      refine sec0 [] (fun _ => 0) _ _ _ f1 ?_
      rw [regE _ _ _ f1]
      unfold wp_X8_hasOperation s14_X8_hasOperation
      rw [(stE _ _ f1).o]
      refine ⟨fun _ => ⟨.inl rfl, fun _ => ⟨fun z => by omega, fun _ => ?_⟩, fun z => absurd rfl z⟩, fun z => absurd hO z⟩
      rw [← kd0, ← ocL_app] at n1
      by_cases e0 : D.F k 0 = 0
      · rw [if_pos e0]
        have hr : rls D k = [0] := by unfold rls; rw [if_pos rd1, if_pos hO, if_pos e0, if_neg (fun q => q.2 rd1)]; rfl
        have e6 : L ++ (rls D k).map (fun q => (s, q)) = L ++ [(s, 0)] := by rw [hr]; rfl
        refine tail L _ _ _ _ f1 e0 rfl (by omega) (by rw [e6]; exact n1) ⟨0, by rw [e6], ?_⟩
        apply c12 <;> simp [gRd, iup, gnew, att, kdN, ptN, g1N, g2N, usN, mkN, plN, fpN, tnN, hst0, hcd, e0, hO]
      · rw [if_neg e0]
        have hr : rls D k = [0, 3] := by unfold rls; rw [if_pos rd1, if_pos hO, if_neg e0]; rfl
        have n3 := ext_last n1 (att0 rd1 (.inl e0))
        have e5 : GA D (r 4) L ++ [(r 4 k, att D (L.length : Int) (s, 0))] = GA D (r 4) (L ++ [(s, 0)]) := by rw [GA_app, hst0]
        rw [e5] at n3
        refine wtail _ _ _ _ f1 e0 ?_ (by simp; omega) n3 (by rw [hr]; simp) (fun z => by simp at z)
        rw [if_pos (.inr rd1)]; simp
    · refine sec0 [] (fun _ => 0) _ _ _ (FA.refl i r) ?_
      rw [regE _ _ _ (FA.refl i r)]
      unfold wp_X8_hasOperation s14_X8_hasOperation
      rw [(stE _ _ (FA.refl i r)).o]
      refine ⟨fun _ => ⟨.inl rfl, fun _ => ⟨fun _ => ?_, fun z => absurd rfl z⟩, fun z => absurd rfl z⟩, fun z => absurd hO z⟩
      by_cases e0 : D.F k 0 = 0
      · rw [if_pos e0]
        have hn0 := n0r e0
        have hr : rls D k = [4] := by unfold rls; rw [if_neg nrd1, if_pos hO, if_pos e0, if_pos ⟨hO, nrd1⟩]; rfl
        refine ⟨fun z => by omega, fun _ => ?_⟩
        refine app_w h (by rw [GA_len]; omega) (by decide) (h96 _) (fun i5 r5 f5 n5 => ?_)
        rw [GA_len] at *
        refine ⟨by omega, ?_⟩
        rw [mask_e (stE _ _ f5) (by decide)]
        have m4 := set_last (c := 7) (w := mskN D k 1) n5
        rw [GA_len, ← kd4, ← ocL_app] at m4
        have e6 : L ++ (rls D k).map (fun q => (s, q)) = L ++ [(s, 4)] := by rw [hr]; rfl
        refine tail L _ _ _ _ (f5.trans (FA.nod (by omega))) e0 rfl (by omega) (by rw [e6]; exact m4) ⟨4, by rw [e6], ?_⟩
        apply c12 <;> simp [gRd, iup, gnew, att, kdN, ptN, g1N, g2N, usN, mkN, plN, fpN, tnN, hst0, hcd, e0, hO]
      · rw [if_neg e0]
        have hr : rls D k = [3] := by unfold rls; rw [if_neg nrd1, if_pos hO, if_neg e0]; rfl
        refine ⟨fun _ => ?_, fun z => absurd rfl z⟩
        refine wtail L _ _ _ (FA.refl i r) e0 ?_ (by omega) h (by rw [hr]; rfl) (fun _ => rfl)
        rw [if_neg (by omega)]
  · refine read_w ok hP hkk (.inl rfl) h (by rw [GA_len]; omega) h96 hcp (fun rd1 i1 r1 f1 n1 => ?_) (fun nrd1 => ?_)
    · have n3 := ext_last n1 (att0 rd1 (.inr hO))
      have e5 : GA D (r 4) L ++ [(r 4 k, att D (L.length : Int) (s, 0))] = GA D (r 4) (L ++ [(s, 0)]) := by rw [GA_app, hst0]
      rw [e5, ← kd0, ← ocL_app] at n3
      rw [GA_len]
      refine sec (L ++ [(s, 0)]) _ _ _ f1 hO (by simp; omega) n3 (by rw [if_pos rd1]) ?_
      rw [if_pos rd1]; simp
    · refine sec L _ _ _ (FA.refl i r) hO (by omega) h (by rw [if_neg nrd1]; simp) ?_
      rw [if_neg nrd1]
