/-! ===== the circuit: what a node gets ===== -/
def RVq (D : Dat) (n q : Int) : Int := if q = 0 then valS D (n % D.cnt) 1 (n / D.cnt) (sg D n) else if q = 1 then valS D (n % D.cnt) 2 (n / D.cnt) (tkS D (n % D.cnt) 1 (sg D n)) else RVn D n
theorem RV_q {D : Dat} (ok : DOk D) {v τ : Int} (h : 0 ≤ v ∧ v < nn D) : RV D v τ = RVq D (Iv D v τ) (nd D v).2 := by
  have k := Iv_k ok (τ := τ) h
  unfold RV RVq
  rw [k.1, k.2]
theorem Sim.give {D : Dat} (ok : DOk D) {T : Int} {p : Int → Int} (h : AE D T p) {F B : Int → Int → Prop} {s : St} {val : Int → Int → Int} (S : Sim D F B s val) {x τ g q : Int} (hx : inR D x τ) (N : Now D T p F B x τ) (g0 : 0 ≤ g ∧ g < nn D) (w : withE D g x) (e : nd D g = ((nd D x).1, q)) : val g τ = RVq D (Iv D x τ) q := by
  have gi : inR D g τ := ⟨g0, hx.2⟩
  have l := give_ex h τ g0 hx.1 w
  rw [Et_eq] at l
  have cg := cyv_r ok g0
  have b := N.b2 g τ gi (by omega)
  have ei : Iv D g τ = Iv D x τ := by unfold Iv sv'; rw [e]
  rw [S.v g τ gi b, RV_q ok g0, ei, e]
theorem valS_dir {D : Dat} {k j i : Int} {s s' : St} (f : 0 ≤ D.F k j ∧ ¬ isRd (D.F k j) ∧ D.F k j ≤ 5) (e : D.F k j = 0 → s.reg (D.N k j) = s'.reg (D.N k j)) : valS D k j i s = valS D k j i s' := by
  unfold valS
  by_cases c : D.F k j = 0
  · rw [if_pos c, if_pos c]; exact e c
  · rw [if_neg c, if_neg c]
    by_cases c1 : D.F k j = 1
    · rw [if_pos c1, if_pos c1]
    · rw [if_neg c1, if_neg c1]
      have : D.F k j = 2 := by unfold isRd at f; omega
      rw [if_pos this, if_pos this]
theorem Sim.rd {D : Dat} (ok : DOk D) {T : Int} {p : Int → Int} (h : AE D T p) {F B : Int → Int → Prop} {s : St} {val : Int → Int → Int} (S : Sim D F B s val) {x τ j : Int} {σ : St} (hx : inR D x τ) (N : Now D T p F B x τ) (hj : (j = 1 ∧ (nd D x).2 = 0 ∧ σ = sg D (Iv D x τ)) ∨ (j = 2 ∧ (nd D x).2 = 1 ∧ σ = tkS D (kv D x) 1 (sg D (Iv D x τ)))) : valS D (kv D x) j (iv D x τ) s = valS D (kv D x) j (iv D x τ) σ := by
  obtain ⟨h1, h2, h3, h4, h5⟩ := nd_ok ok hx.1
  have ik := Iv_k ok (τ := τ) hx.1
  have kd : kdv D x = D.F (kv D x) j := by
    unfold kdv kdN kv
    rcases hj with ⟨a, b, _⟩ | ⟨a, b, _⟩
    · rw [if_pos b, a]
    · rw [if_neg (by omega), if_pos b, a]
  have rd : isRd (D.F (kv D x) j) := by
    unfold kv
    rcases rls_mem h5 with q | q | q | q | q <;> rcases hj with ⟨a, b, _⟩ | ⟨a, b, _⟩ <;> try omega
    · rw [a]; exact q.2
    · rw [a]; exact q.2.2
  have sm : σ.mem = (sg D (Iv D x τ)).mem := by
    rcases hj with ⟨_, _, c⟩ | ⟨_, _, c⟩
    · rw [c]
    · rw [c]; exact tkS_p.2.1
  have pl : plN (nd D x) = j := by
    unfold plN
    rcases hj with ⟨a, b, _⟩ | ⟨a, b, _⟩
    · rw [if_pos b, a]
    · rw [if_neg (by omega), if_pos b, a]
  unfold isRd at rd
  have m0 : ¬ D.F (kv D x) j = 0 := by omega
  have m1 : ¬ D.F (kv D x) j = 1 := by omega
  have m2 : ¬ D.F (kv D x) j = 2 := by omega
  unfold valS
  rw [if_neg m0, if_neg m0, if_neg m1, if_neg m1, if_neg m2, if_neg m2]
  by_cases c5 : D.F (kv D x) j = 5
  · rw [if_pos c5, if_pos c5]
    have t := S.tk ok h hx N (by rw [kd, c5])
    have : s.tak = σ.tak := by
      rw [t]
      unfold TK tpos
      rcases hj with ⟨_, b, c⟩ | ⟨_, b, c⟩
      · rw [if_neg (show ¬ (nd D x).2 = 1 by omega), if_pos (by omega), show (2 * Iv D x τ + 0) / 2 = Iv D x τ by omega, c]
      · rw [if_pos b, if_neg (by omega), show (2 * Iv D x τ + 1) / 2 = Iv D x τ by omega, ik.1, c]
    rw [this]
  · rw [if_neg c5, if_neg c5]
    unfold lookS
    by_cases c : 0 ≤ D.F (kv D x) j - 3 ∧ D.F (kv D x) j - 3 < 2 ∧ 0 ≤ plc (D.T (kv D x) j) (D.N (kv D x) j) (iv D x τ) ∧ plc (D.T (kv D x) j) (D.N (kv D x) j) (iv D x τ) < 16
    · rw [if_pos c, if_pos c, sm]
      refine S.mem ok h hx N ⟨c.1, c.2.1⟩ c.2.2 (fun z => ?_) (by omega) ?_
      · have z' : (nd D x).2 = 3 := z
        omega
      · rw [PL_plc ok hx.1 (by unfold isMem; omega), pl]
    · rw [if_neg c, if_neg c]
def Ev (D : Dat) (s : St) (val : Int → Int → Int) (x τ : Int) : Prop := ((nd D x).2 = 0 → valS D (kv D x) 1 (iv D x τ) s = RV D x τ) ∧ ((nd D x).2 = 1 → valS D (kv D x) 2 (iv D x τ) s = RV D x τ) ∧ ((nd D x).2 = 2 → ∃ a b, RV D x τ = cutD D (opS (D.O (kv D x)) a b) ∧ isCut D a ∧ isCut D b ∧ (isRd (D.F (kv D x) 1) → val (g1N D x (nd D x)) τ = a) ∧ (¬ isRd (D.F (kv D x) 1) → valS D (kv D x) 1 (iv D x τ) s = a) ∧ (isRd (D.F (kv D x) 2) → val (g2N D x (nd D x)) τ = b) ∧ (¬ isRd (D.F (kv D x) 2) → valS D (kv D x) 2 (iv D x τ) s = b)) ∧ ((nd D x).2 = 3 → D.O (kv D x) ≠ 32 → val (g1N D x (nd D x)) τ = RV D x τ) ∧ ((nd D x).2 = 3 → D.O (kv D x) = 32 → (isRd (D.F (kv D x) 1) → val (g1N D x (nd D x)) τ = RV D x τ) ∧ (¬ isRd (D.F (kv D x) 1) → valS D (kv D x) 1 (iv D x τ) s = RV D x τ)) ∧ ((nd D x).2 = 4 → valS D (kv D x) 1 (iv D x τ) s = RV D x τ)
theorem Ev.e0 {D : Dat} {s : St} {val : Int → Int → Int} {x τ : Int} (h0 : Ev D s val x τ) : (nd D x).2 = 0 → valS D (kv D x) 1 (iv D x τ) s = RV D x τ := h0.1
theorem Ev.e1 {D : Dat} {s : St} {val : Int → Int → Int} {x τ : Int} (h0 : Ev D s val x τ) : (nd D x).2 = 1 → valS D (kv D x) 2 (iv D x τ) s = RV D x τ := h0.2.1
theorem Ev.e2 {D : Dat} {s : St} {val : Int → Int → Int} {x τ : Int} (h0 : Ev D s val x τ) : (nd D x).2 = 2 → ∃ a b, RV D x τ = cutD D (opS (D.O (kv D x)) a b) ∧ isCut D a ∧ isCut D b ∧ (isRd (D.F (kv D x) 1) → val (g1N D x (nd D x)) τ = a) ∧ (¬ isRd (D.F (kv D x) 1) → valS D (kv D x) 1 (iv D x τ) s = a) ∧ (isRd (D.F (kv D x) 2) → val (g2N D x (nd D x)) τ = b) ∧ (¬ isRd (D.F (kv D x) 2) → valS D (kv D x) 2 (iv D x τ) s = b) := h0.2.2.1
theorem Ev.e3 {D : Dat} {s : St} {val : Int → Int → Int} {x τ : Int} (h0 : Ev D s val x τ) : (nd D x).2 = 3 → D.O (kv D x) ≠ 32 → val (g1N D x (nd D x)) τ = RV D x τ := h0.2.2.2.1
theorem Ev.e5 {D : Dat} {s : St} {val : Int → Int → Int} {x τ : Int} (h0 : Ev D s val x τ) : (nd D x).2 = 3 → D.O (kv D x) = 32 → (isRd (D.F (kv D x) 1) → val (g1N D x (nd D x)) τ = RV D x τ) ∧ (¬ isRd (D.F (kv D x) 1) → valS D (kv D x) 1 (iv D x τ) s = RV D x τ) := h0.2.2.2.2.1
theorem Ev.e4 {D : Dat} {s : St} {val : Int → Int → Int} {x τ : Int} (h0 : Ev D s val x τ) : (nd D x).2 = 4 → valS D (kv D x) 1 (iv D x τ) s = RV D x τ := h0.2.2.2.2.2
theorem Ev.mk {D : Dat} {s : St} {val : Int → Int → Int} {x τ : Int} (h0 : (nd D x).2 = 0 → valS D (kv D x) 1 (iv D x τ) s = RV D x τ) (h1 : (nd D x).2 = 1 → valS D (kv D x) 2 (iv D x τ) s = RV D x τ) (h2 : (nd D x).2 = 2 → ∃ a b, RV D x τ = cutD D (opS (D.O (kv D x)) a b) ∧ isCut D a ∧ isCut D b ∧ (isRd (D.F (kv D x) 1) → val (g1N D x (nd D x)) τ = a) ∧ (¬ isRd (D.F (kv D x) 1) → valS D (kv D x) 1 (iv D x τ) s = a) ∧ (isRd (D.F (kv D x) 2) → val (g2N D x (nd D x)) τ = b) ∧ (¬ isRd (D.F (kv D x) 2) → valS D (kv D x) 2 (iv D x τ) s = b)) (h3 : (nd D x).2 = 3 → D.O (kv D x) ≠ 32 → val (g1N D x (nd D x)) τ = RV D x τ) (h4 : (nd D x).2 = 3 → D.O (kv D x) = 32 → (isRd (D.F (kv D x) 1) → val (g1N D x (nd D x)) τ = RV D x τ) ∧ (¬ isRd (D.F (kv D x) 1) → valS D (kv D x) 1 (iv D x τ) s = RV D x τ)) (h5 : (nd D x).2 = 4 → valS D (kv D x) 1 (iv D x τ) s = RV D x τ) : Ev D s val x τ := ⟨h0, h1, h2, h3, h4, h5⟩
theorem Sim.ev {D : Dat} (ok : DOk D) {T : Int} {p : Int → Int} (h : AE D T p) {F B : Int → Int → Prop} {s : St} {val : Int → Int → Int} (S : Sim D F B s val) {x τ : Int} (hx : inR D x τ) (N : Now D T p F B x τ) : Ev D s val x τ := by
  obtain ⟨h1, h2, h3, h4, h5⟩ := nd_ok ok hx.1
  have ik := Iv_k ok (τ := τ) hx.1
  have rv := RV_q ok (τ := τ) hx.1
  have so := ok.st _ h3 h4
  have f1 := so.f1
  have f2 := so.f2
  have x1 : 0 ≤ x ∧ x < nn D := hx.1
  have hc : 0 < D.cnt := (sv_r ok hx.1).2.2.1
  obtain ⟨n1, n2, n3, n4⟩ := nd_prev ok hx.1
  have ro := rls_mem h5
  have c1 : isCut D (valS D (kv D x) 1 (iv D x τ) (sg D (Iv D x τ))) := val_cut ok ⟨h3, h4⟩ (by decide) (sg_ok ok _ hc)
  have c2 : isCut D (valS D (kv D x) 2 (iv D x τ) (tkS D (kv D x) 1 (sg D (Iv D x τ)))) := val_cut ok ⟨h3, h4⟩ (by decide) (tk_ok (sg_ok ok _ hc))
  have us : ∀ j, (j = 1 ∨ j = 2) → D.F (kv D x) j = 0 → useP D (nd D x) (D.N (kv D x) j) → s.reg (D.N (kv D x) j) = (sg D (Iv D x τ)).reg (D.N (kv D x) j) := by
    intro j hj f u
    have nb := so.n0 j (by omega) (by omega) f
    have nb' : 0 ≤ D.N (kv D x) j ∧ D.N (kv D x) j < 8 := ⟨nb.1, by have := nb.2; unfold kv; omega⟩
    exact S.reg ok h hx N nb' ((usv_iff ok hx.1 nb').2 u)
  have d1 : ((nd D x).2 = 2 ∨ ((nd D x).2 = 3 ∧ D.O (kv D x) = 32) ∨ (nd D x).2 = 4) → ¬ isRd (D.F (kv D x) 1) → valS D (kv D x) 1 (iv D x τ) s = valS D (kv D x) 1 (iv D x τ) (sg D (Iv D x τ)) := by
    intro q nr
    refine valS_dir ⟨f1.1, nr, f1.2⟩ (fun f => us 1 (.inl rfl) f ?_)
    unfold useP
    rcases q with q | q | q
    · exact .inl ⟨q, .inl ⟨f, rfl⟩⟩
    · exact .inr ⟨.inr q, f, rfl⟩
    · exact .inr ⟨.inl q, f, rfl⟩
  refine ⟨fun q => ?_, fun q => ?_, fun q => ?_, fun q o => ?_, fun q o => ?_, fun q => ?_⟩
  · rw [S.rd ok h (j := 1) hx N (.inl ⟨rfl, q, rfl⟩)]
    unfold RV
    rw [if_pos q]
  · rw [S.rd ok h (j := 2) hx N (.inr ⟨rfl, q, rfl⟩)]
    unfold RV
    rw [if_neg (by omega), if_pos q]
  · have o : D.O (kv D x) ≠ 32 := by
      rcases ro with z | z | z | z | z
      · omega
      · omega
      · exact z.2
      · omega
      · omega
    refine ⟨valS D (kv D x) 1 (iv D x τ) (sg D (Iv D x τ)), valS D (kv D x) 2 (iv D x τ) (tkS D (kv D x) 1 (sg D (Iv D x τ))), ?_, c1, c2, fun r => ?_, d1 (.inl q), fun r => ?_, fun r => ?_⟩
    · unfold RV RVn
      rw [if_neg (show ¬ (nd D x).2 = 0 by omega), if_neg (show ¬ (nd D x).2 = 1 by omega), ik.1, ik.2, if_neg o]
    · have g : ∃ g, g1N D x (nd D x) = g ∧ 0 ≤ g ∧ nd D g = ((nd D x).1, 0) := by
        refine ⟨_, rfl, ?_⟩
        unfold g1N
        rw [if_pos q, if_pos (show isRd (D.F (stK D (nd D x)) 1) from r)]
        by_cases r2 : isRd (D.F (stK D (nd D x)) 2)
        · rw [if_pos r2]
          have := (n1 q r2).2.2 r
          exact ⟨by omega, this.2⟩
        · rw [if_neg r2]
          have := n2 q r2 r
          exact ⟨by omega, this.2⟩
      obtain ⟨g, eg, g0, gn⟩ := g
      have gl := (g_neg (D := D) (x := nd D x) hx.1.1).2.1
      rw [eg, S.give ok h hx N ⟨g0, by omega⟩ (.inl eg.symm) gn]
      unfold RVq
      rw [if_pos rfl, ik.1, ik.2]
    · have eg : g2N D x (nd D x) = x - 1 := by unfold g2N; rw [if_pos ⟨q, r⟩]
      have := n1 q r
      rw [eg, S.give ok h hx N ⟨by omega, by omega⟩ (.inr eg.symm) this.2.1]
      unfold RVq
      rw [if_neg (by decide), if_pos rfl, ik.1, ik.2]
    · have ff : D.F (kv D x) 2 ≤ 5 ∧ 0 ≤ D.F (kv D x) 2 := by
        rcases f2 with z | z
        · exact absurd z.1 o
        · exact ⟨z.2.2, z.2.1⟩
      refine valS_dir ⟨ff.2, r, ff.1⟩ (fun f => ?_)
      rw [us 2 (.inr rfl) f (.inl ⟨q, .inr ⟨f, rfl⟩⟩), tkS_p.1]
  · have eg : g1N D x (nd D x) = x - 1 := by unfold g1N; rw [if_neg (show ¬ (nd D x).2 = 2 by omega), if_pos q, if_pos (.inl o)]
    have := n3 q o
    rw [eg, S.give ok h hx N ⟨by omega, by omega⟩ (.inl eg.symm) this.2, rv, q]
    unfold RVq
    rw [if_neg (by decide), if_neg (by decide), if_neg (by decide), if_neg (by decide)]
  · have e3 : RV D x τ = valS D (kv D x) 1 (iv D x τ) (sg D (Iv D x τ)) := by
      unfold RV RVn
      rw [if_neg (show ¬ (nd D x).2 = 0 by omega), if_neg (show ¬ (nd D x).2 = 1 by omega), ik.1, ik.2, if_pos o]
    refine ⟨fun r => ?_, fun r => ?_⟩
    · have eg : g1N D x (nd D x) = x - 1 := by unfold g1N; rw [if_neg (show ¬ (nd D x).2 = 2 by omega), if_pos q, if_pos (.inr r)]
      have := n4 q o r
      rw [eg, S.give ok h hx N ⟨by omega, by omega⟩ (.inl eg.symm) this.2, e3]
      unfold RVq
      rw [if_pos rfl, ik.1, ik.2]
    · rw [e3]; exact d1 (.inr (.inl ⟨q, o⟩)) r
  · have z : D.O (kv D x) = 32 ∧ ¬ isRd (D.F (kv D x) 1) := by
      rcases ro with z | z | z | z | z
      · omega
      · omega
      · omega
      · omega
      · exact z.2.2
    rw [d1 (.inr (.inr q)) z.2]
    unfold RV RVn
    rw [if_neg (show ¬ (nd D x).2 = 0 by omega), if_neg (show ¬ (nd D x).2 = 1 by omega), ik.1, ik.2, if_pos z.1]
