/-! ===== the circuit: the class goes on ===== -/
theorem Sim.outn {D : Dat} (ok : DOk D) {T : Int} {p : Int → Int} (h : AE D T p) {F B : Int → Int → Prop} {s : St} {val : Int → Int → Int} (S : Sim D F B s val) {x τ : Int} (hx : inR D x τ) (lst : Lst D x) (nf : ¬ F x τ) (f1 : ∀ v t, inR D v t → F v t → Et D T p v t ≤ Et D T p x τ) (f2 : ∀ v t, inR D v t → Et D T p v t < Et D T p x τ → F v t) (c : D.F (kv D x) 0 = 6) : s.outs < 192 := by
  have inn := Iv_n ok hx
  have nb := NS_b ok
  have kx : kdv D x = 6 := by rw [(lst3 lst (by omega)).2, c]
  have s0 := S.o (Iv D x τ) inn.1 (by omega) (fun v t i k => ⟨fun z => ?_, fun z => ?_⟩)
  · rw [s0.1]
    have := (run_cnt (D := D) (Iv D x τ).toNat).2.1
    show (runS D (Iv D x τ).toNat).outs < 192
    omega
  · exact f2 v t i (chan_ex h (c := 6) (by decide) i.1 hx.1 k kx (Iv_lx ok i.1 hx.1 z))
  · apply Classical.byContradiction
    intro w2
    have le := f1 v t i z
    by_cases eq : Iv D v t = Iv D x τ
    · obtain ⟨e1, e2⟩ := Iv_inj ok i.1 hx.1 eq
      have := lst_uniq ok i.1 hx.1 e2 (wr_lst ok i.1 (kd6 ok i.1 k).1) lst
      rw [e1, this] at z
      exact nf z
    · have := chan_ex h (c := 6) (by decide) hx.1 i.1 kx k (Iv_lx ok (τ := τ) (τ' := t) hx.1 i.1 (by omega))
      omega
theorem M4.congr {D : Dat} {i i' : MI} (h : M4 D i) (a : i' 469 = i 469) (b : i' 470 = i 470) : M4 D i' :=
  ⟨by rw [a]; exact h.r, by rw [a]; exact h.u, by rw [a]; exact h.t, by rw [a, b]; exact h.p⟩
def M5 (D : Dat) (i : MI) : Prop := CSt D 481 i (execS D)
theorem et_b {D : Dat} (ok : DOk D) {T e : Int} {p : Int → Int} (h : AE D T p) (hc : CycP D T p e) {v t : Int} (i : inR D v t) : Et D T p v t ≤ e ∧ Bt T p v t < e ∧ 0 ≤ Bt T p v t := by
  have i1 : 0 ≤ v ∧ v < nn D := i.1
  have i2 : 0 ≤ t ∧ t < BT D := i.2
  have hT := h.t
  have cv := cyv_r ok i1
  have z := h.z v i1.1 i1.2
  have m0 := Int.mul_nonneg (show 0 ≤ T by omega) i2.1
  rcases hc with ⟨a, _⟩ | ⟨_, x, ex, ee⟩
  · omega
  · have := ex.2.1 v i1.1 i1.2
    have m := Int.mul_le_mul_of_nonneg_left (show t ≤ BT D - 1 by omega) (show 0 ≤ T by omega)
    rw [Et_eq]
    unfold Bt
    omega
theorem turn_w {D : Dat} (ok : DOk D) {i r : MI} {Q : MI → Prop} (hP : ClassP D i r) (hv : NV D i) (nr : NR D r) (m4 : M4 D i) (hQ : ∀ i', FTn i i' → M5 D i' → Q i') : wp_X1_turn i r Q := by
  have nl := nn_le ok
  have bt := BT_b ok
  have tb := int_b m4.t
  have pl := m4.p
  have ae : AE D (i 469 5) (i 470) := AE.of ok m4.t m4.p
  have pb := pl_b ok (T := i 469 5) (by omega) (Int.le_refl _) m4.p
  unfold wp_X1_turn
  refine begin_w hP (.inr rfl) ok.inc.1 (fun i2 f2 c2 => ?_)
  have P2 := hP.fs (.inr rfl) f2
  refine bodyT_w ok P2 ?_
  have e469 : i2 469 = i 469 := f2 469 (by omega)
  have e470 : i2 470 = i 470 := f2 470 (by omega)
  refine countC_w ok (hv.fl ok f2.ft.fl) (m4.congr e469 e470) (fun e he => ?_)
  rw [e469, e470] at he
  generalize hT5 : i 469 5 = T at *
  generalize hp : i 470 = p at *
  have eb : 0 ≤ e ∧ e ≤ 60000 := by
    rcases he with ⟨_, z⟩ | ⟨_, x, ex, ee⟩
    · omega
    · have := end_b ok tb pl ex
      have := tb_b ok tb
      omega
  have etb : ∀ v t, inR D v t → Et D T p v t ≤ e ∧ Bt T p v t < e ∧ 0 ≤ Bt T p v t := fun v t iv' => et_b ok ae he iv'
  refine Lp.r2 (fun (c : Int) (m : MI) => 0 ≤ c ∧ c ≤ e + 1 ∧ FTn i m ∧ ∃ s, CSt D 481 m s ∧ Sim D (fun v t => Et D T p v t < c) (fun v t => Bt T p v t < c) s (fun v t => m 487 (16 * v + t))) (fun c _ => (e + 1 - c).toNat) ?_ ⟨by decide, by omega, f2.ft, _, c2, (Sim.start ok _).congr (fun v t iv' => ⟨fun z => z.elim, fun z => ?_⟩) (fun v t iv' => ⟨fun z => z.elim, fun z => ?_⟩)⟩
  · intro c m C ⟨c0, c1, f, s, cs, S⟩ hC
    dsimp only [b26_X1_turn]
    refine ⟨fun q => hQ m f ?_, fun q => ?_⟩
    · exact cs.same (S.done ok (fun v t iv' => by have := etb v t iv'; omega) (fun v t iv' => by have := etb v t iv'; omega))
    refine Lp.r2 (fun (x : Int) (m : MI) => 0 ≤ x ∧ x ≤ nn D ∧ FTn i m ∧ ∃ s, CSt D 481 m s ∧ Sim D (fun v t => Et D T p v t < c ∨ (Et D T p v t = c ∧ v < x)) (fun v t => Bt T p v t < c) s (fun v t => m 487 (16 * v + t))) (fun x _ => (nn D - x).toNat) ?_ ⟨by decide, nl.1, f, s, cs, S.congr (fun v t iv' => ⟨.inl, fun z => by have := iv'.1.1; omega⟩) (fun v t _ => Iff.rfl)⟩
    intro x m C2 ⟨x0, x1, f, s, cs, S⟩ hC2
    dsimp only [b36_X1_turn]
    have hv2 := hv.fl ok f.fl
    have P2 := hP.ft f
    rw [hv2.n]
    refine ⟨fun q1 => ?_, fun q1 => ⟨by omega, cyc_w ok hv2 ⟨x0, by omega⟩ ⟨by omega, ?_⟩⟩⟩
    · refine Lp.r2 (fun (x : Int) (m : MI) => 0 ≤ x ∧ x ≤ nn D ∧ FTn i m ∧ ∃ s, CSt D 481 m s ∧ Sim D (fun v t => Et D T p v t ≤ c) (fun v t => Bt T p v t < c ∨ (Bt T p v t = c ∧ v < x)) s (fun v t => m 487 (16 * v + t))) (fun x _ => (nn D - x).toNat) ?_ ⟨by decide, nl.1, f, s, cs, S.congr (fun v t iv' => ⟨fun z => by omega, fun z => by have := iv'.1.2; omega⟩) (fun v t iv' => ⟨.inl, fun z => by have := iv'.1.1; omega⟩)⟩
      intro x m C3 ⟨x0, x1, f, s, cs, S⟩ hC3
      dsimp only [b98_X1_turn]
      have hv2 := hv.fl ok f.fl
      have P2 := hP.ft f
      rw [hv2.n]
      refine ⟨fun q2 => ?_, fun q2 => ⟨by omega, by omega, ?_⟩⟩
      · rw [wr_of (x := c + 1) (by omega) (by omega)]
        exact hC _ _ ⟨by omega, by omega, f, s, cs, S.congr (fun v t iv' => by omega) (fun v t iv' => ⟨fun z => by omega, fun z => by have := iv'.1.2; omega⟩)⟩ (by omega)
      · have hx : 0 ≤ x ∧ x < nn D := ⟨x0, by omega⟩
        have px := pb x hx.1 hx.2
        rw [f 470 (by omega), f 469 (by omega), hp, hT5, wr_of (x := c - p x) (by omega) (by omega), wr_of (x := x + 1) (by omega) (by omega)]
        refine turnAfter_w ok (by omega) (by omega) (fun τ t0 t1 et => ?_) (fun no => ?_)
        · have ix : inR D x τ := ⟨hx, t0, t1⟩
          have eB : Bt T p x τ = c := by unfold Bt; omega
          have N : Now D T p (fun v t => Et D T p v t ≤ c) (fun v t => Bt T p v t < c ∨ (Bt T p v t = c ∧ v < x)) x τ := ⟨fun v t _ => by rw [eB], fun v t _ z => by rw [eB]; omega, fun v t _ z => by rw [eB] at z; omega, fun z => by
            have z' : Bt T p x τ < c ∨ (Bt T p x τ = c ∧ x < x) := z
            omega⟩
          refine xbegin_w ok P2 hv2 nr ix cs S.ok (S.ev ok ae ix N) (fun m' s' f' cs' a1 a2 a3 a4 a5 v1 v2 => ?_)
          refine hC3 _ _ ⟨by omega, by omega, f.trans f', s', cs', (S.beg ok ae ix N a1 a2 a3 a4 a5 v1 v2).congr (fun v t _ => Iff.rfl) (fun v t iv' => ⟨fun z => ?_, fun z => ?_⟩)⟩ (by omega)
          · rcases z with z | ⟨rfl, rfl⟩
            · omega
            · exact .inr ⟨eB, by omega⟩
          · by_cases w : v = x
            · rcases z with z | ⟨z, _⟩
              · exact .inl (.inl z)
              · refine .inr ⟨w, ?_⟩
                rw [w] at z
                unfold Bt at z eB
                exact tmul_inj tb.1 (by omega)
            · exact .inl (by omega)
        · unfold wp_X1_begin
          refine ⟨fun _ => hC3 _ _ ⟨by omega, by omega, f, s, cs, S.congr (fun v t _ => Iff.rfl) (fun v t iv' => ⟨fun z => by omega, fun z => ?_⟩)⟩ (by omega), fun z => absurd rfl z⟩
          by_cases w : v = x
          · refine .inl ?_
            rcases z with z | ⟨z, _⟩
            · exact z
            · rw [w] at z
              unfold Bt at z
              exact absurd (by omega) (no t iv'.2.1 iv'.2.2)
          · omega
    · have hx : 0 ≤ x ∧ x < nn D := ⟨x0, by omega⟩
      have px := pb x hx.1 hx.2
      have cx := cyv_r ok hx
      rw [f 470 (by omega), f 469 (by omega), hp, hT5, wr_of (x := c - p x) (by omega) (by omega), wr_of (x := c - p x - cyv D x) (by omega) (by omega), wr_of (x := x + 1) (by omega) (by omega)]
      refine turnAfter_w ok (by omega) (by omega) (fun τ t0 t1 et => ?_) (fun no => ?_)
      · have ix : inR D x τ := ⟨hx, t0, t1⟩
        have eE : Et D T p x τ = c := by unfold Et; omega
        have eB : Bt T p x τ < c := by unfold Bt; omega
        have f1 : ∀ v t, inR D v t → (Et D T p v t < c ∨ (Et D T p v t = c ∧ v < x)) → Et D T p v t ≤ Et D T p x τ := fun v t _ z => by rw [eE]; omega
        have f2 : ∀ v t, inR D v t → Et D T p v t < Et D T p x τ → (Et D T p v t < c ∨ (Et D T p v t = c ∧ v < x)) := fun v t _ z => by rw [eE] at z; exact .inl z
        have nf : ¬ (Et D T p x τ < c ∨ (Et D T p x τ = c ∧ x < x)) := by rw [eE]; omega
        have uniq : ∀ t, Et D T p x t = c → t = τ := fun t z => by
          unfold Et at z eE
          exact tmul_inj tb.1 (by omega)
        have iff' : ∀ v t, (Et D T p v t < c ∨ (Et D T p v t = c ∧ v < x)) ∨ (v = x ∧ t = τ) ↔ (Et D T p v t < c ∨ (Et D T p v t = c ∧ v < x + 1)) := fun v t => by
          constructor
          · rintro (z | ⟨rfl, rfl⟩)
            · omega
            · exact .inr ⟨eE, by omega⟩
          · intro z
            by_cases w : v = x
            · rcases z with z | ⟨z, _⟩
              · exact .inl (.inl z)
              · exact .inr ⟨w, uniq t (w ▸ z)⟩
            · exact .inl (by omega)
        have hout : Lst D x → D.F (kv D x) 0 = 6 → s.outs < 192 := fun l c6 => S.outn ok ae ix l nf f1 f2 c6
        by_cases l : Lst D x
        · refine xfinish_w ok P2 hv2 nr ix cs S.ok hout (fun _ m' f' cs' => ?_) (fun z => absurd l z)
          have S' := S.fin ok ae ix l eB nf f1 f2
          have e487 : m' 487 = m 487 := f' 487 (by omega)
          refine hC2 _ _ ⟨by omega, by omega, f.trans f'.ft, _, cs', ?_⟩ (by omega)
          rw [e487]
          exact S'.congr (fun v t _ => iff' v t) (fun v t _ => Iff.rfl)
        · refine xfinish_w ok P2 hv2 nr ix cs S.ok hout (fun z => absurd z l) (fun _ => ?_)
          refine hC2 _ _ ⟨by omega, by omega, f, s, cs, S.congrL ok (fun v t _ lv => ?_) (fun v t _ => Iff.rfl)⟩ (by omega)
          rw [← iff' v t]
          exact ⟨.inl, fun z => z.elim id (fun w => absurd (w.1 ▸ lv) l)⟩
      · unfold wp_X1_finish s56_X1_finish
        refine ⟨fun _ => hC2 _ _ ⟨by omega, by omega, f, s, cs, S.congr (fun v t iv' => ⟨fun z => by omega, fun z => ?_⟩) (fun v t _ => Iff.rfl)⟩ (by omega), fun z => absurd rfl z⟩
        by_cases w : v = x
        · rcases z with z | ⟨z, _⟩
          · exact .inl z
          · rw [w] at z
            unfold Et at z
            exact absurd (by omega) (no t iv'.2.1 iv'.2.2)
        · omega
  · have := (etb v t iv').1
    have := (etb v t iv').2.2
    have cv := cyv_r ok iv'.1
    rw [Et_eq] at z
    omega
  · have := (etb v t iv').2.2
    omega
