/-! ===== the circuit: the reference goes on ===== -/
theorem turnAt_w {D : Dat} (ok : DOk D) {i r : MI} {c st' T : Int} {Q : Int → Prop} (h : ModelP D i) (hT : 1 ≤ T ∧ T ≤ 481) (hs : -200000 ≤ c - st' ∧ c - st' ≤ 200000) (h1 : ∀ τ, 0 ≤ τ → τ < BT D → c - st' = T * τ → Q τ) (h0 : (∀ τ, 0 ≤ τ → τ < BT D → c - st' ≠ T * τ) → Q (-1)) : wp_X12_turnAt c st' T i r Q := by
  have b := BT_b ok
  have fc := ok.fac
  unfold wp_X12_turnAt s40_X12_turnAt s41_X12_turnAt
  rw [wr_of (x := c - st') (by omega) (by omega), h.fac, h.tur, show D.tur.tdiv D.fac = BT D from rfl, wr_of (x := BT D) (by omega) (by omega)]
  refine ⟨fun q => h0 (fun τ a _ e => ?_), fun q => ⟨by omega, fun q2 => ⟨by omega, by omega, ?_⟩, fun q2 => h0 (fun τ a _ e => ?_)⟩⟩
  · have := Int.mul_nonneg (show 0 ≤ T by omega) a
    omega
  · rw [Int.tmod_eq_emod_of_nonneg (by omega)] at q2
    have e := Int.mul_ediv_add_emod (c - st') T
    rw [q2, Int.add_zero] at e
    have n0 : 0 ≤ (c - st') / T := Int.ediv_nonneg (by omega) (by omega)
    have n1 : (c - st') / T ≤ c - st' := Int.ediv_le_self _ (by omega)
    rw [Int.tdiv_eq_ediv_of_nonneg (by omega), wr_of (x := (c - st') / T) (by omega) (by omega)]
    refine ⟨fun q3 => h0 (fun τ a d z => ?_), fun q3 => ⟨by omega, h1 _ n0 (by omega) e.symm⟩⟩
    have := tmul_inj hT.1 (e.trans z)
    omega
  · rw [e, Int.mul_tmod_right] at q2
    exact q2 rfl
theorem isLast_w {D : Dat} (ok : DOk D) {i r : MI} {x : Int} {Q : Int → Prop} (w : NW D i) (hx : 0 ≤ x ∧ x < nn D) (h1 : Lst D x → Q 1) (h0 : ¬ Lst D x → Q 0) : wp_X12_isLastOf x i r Q := by
  have nl := nn_le ok
  have l := lst_next ok hx
  unfold wp_X12_isLastOf s27_X12_isLastOf s32_X12_isLastOf
  rw [wr_of (x := x + 1) (by omega) (by omega), w.n]
  refine ⟨fun q => ⟨.inr rfl, h1 (l.2 (.inl q))⟩, fun q => ⟨by omega, by omega, ?_⟩⟩
  rw [w.s5 hx, w.s5 (v := x + 1) ⟨by omega, by omega⟩]
  exact ⟨fun q2 => ⟨.inl rfl, h0 (fun z => (l.1 z).elim q (fun y => y q2))⟩, fun q2 => ⟨.inr rfl, h1 (l.2 (.inr q2))⟩⟩
def FF (i i' : MI) : Prop := (∀ a, a ≠ 504 → (a < 512 ∨ (514 < a ∧ a ≠ 534)) → i' a = i a) ∧ (∀ c, c ≠ 19 → c ≠ 20 → i' 504 c = i 504 c)
theorem FF.i {i i' : MI} (h0 : FF i i') : ∀ a, a ≠ 504 → (a < 512 ∨ (514 < a ∧ a ≠ 534)) → i' a = i a := h0.1
theorem FF.c {i i' : MI} (h0 : FF i i') : ∀ c, c ≠ 19 → c ≠ 20 → i' 504 c = i 504 c := h0.2
theorem FF.mk {i i' : MI} (h0 : ∀ a, a ≠ 504 → (a < 512 ∨ (514 < a ∧ a ≠ 534)) → i' a = i a) (h1 : ∀ c, c ≠ 19 → c ≠ 20 → i' 504 c = i 504 c) : FF i i' := ⟨h0, h1⟩
theorem FF.refl (i : MI) : FF i i := ⟨fun _ _ _ => rfl, fun _ _ _ => rfl⟩
theorem FF.trans {i j k : MI} (h : FF i j) (g : FF j k) : FF i k := ⟨fun a x y => (g.i a x y).trans (h.i a x y), fun a x y => (g.c a x y).trans (h.c a x y)⟩
theorem FN.ff {i i' : MI} (h : FN i i') : FF i i' := ⟨fun a x y => h.1 a x (by omega), h.2⟩
theorem FF.s {k v : Int} {i : MI} : FF i (st i 534 k v) := ⟨fun b x y => st_row (by omega), fun c _ _ => by rw [st_row (by omega)]⟩
theorem FF.fm {i i' : MI} (h : FF i i') : Fm i i' := fun a ha => h.i a (by omega) (by omega)
theorem ModelP.ff {D : Dat} {i i' : MI} (h : ModelP D i) (g : FF i i') : ModelP D i' :=
  h.congr (fun c hc => g.c c (by omega) (by omega)) (g.i _ (by decide) (by decide)) (fun a x y => g.i _ (by omega) (by omega)) (fun a x y => g.i _ (by omega) (by omega))
theorem NW.ff {D : Dat} {i i' : MI} (h : NW D i) (g : FF i i') : NW D i' := by
  refine ⟨by rw [g.c _ (by decide) (by decide)]; exact h.n, fun v c v0 v1 c0 c1 => ?_, fun v v0 v1 hw => ?_, by rw [g.i _ (by decide) (by decide)]; exact h.y, by rw [g.c _ (by decide) (by decide)]; exact h.f⟩
  · rw [g.i _ (by omega) (by omega)]; exact h.a v c v0 v1 c0 c1
  · rw [g.i _ (by omega) (by omega), g.i _ (by omega) (by omega)]; exact h.m v v0 v1 hw
theorem MSt.st {i : MI} {s : St} {k v : Int} (h : MSt i s) : MSt (st i 534 k v) s :=
  ⟨fun k a b => by rw [st_row (by omega)]; exact h.r k a b, fun m p a b c d => by rw [st_row (by omega)]; exact h.m m p a b c d, fun k a b => by rw [st_row (by omega)]; exact h.x k a b, by rw [st_row (by omega)]; exact h.n, by rw [st_row (by omega)]; exact h.t⟩
theorem idm_inj {D : Dat} (ok : DOk D) {v t x τ : Int} (h : inR D v t) (g : inR D x τ) (ne : ¬ (v = x ∧ t = τ)) : 96 * t + v ≠ 96 * τ + x := by
  have b := nn_le ok
  have a1 : 0 ≤ v ∧ v < nn D := h.1
  have a2 : 0 ≤ x ∧ x < nn D := g.1
  omega
theorem goes_w {D : Dat} (ok : DOk D) {i r : MI} {T e : Int} {p : Int → Int} {Q : MI → Prop} (hP : ModelP D i) (w : NW D i) (hT : IsInt D T) (pl : PlU D T p (nn D)) (hp : i 532 = p) (he : CycP D T p e) (hQ : ∀ i', FF i i' → MSt i' (execS D) → Q i') : s34_X12_flow T e i r Q := by
  have nl := nn_le ok
  have bt := BT_b ok
  have tb := int_b hT
  have ae : AE D T p := AE.of ok hT pl
  have pb := pl_b ok (T := T) (by omega) (Int.le_refl _) pl
  have hc := ok.cnt
  unfold s34_X12_flow
  refine mbegin_w hP (fun i2 f2 c2 => ?_)
  have eb : 0 ≤ e ∧ e ≤ 60000 := by
    rcases he with ⟨_, z⟩ | ⟨_, x, ex, ee⟩
    · omega
    · have := end_b ok tb pl ex
      have := tb_b ok tb
      omega
  have etb : ∀ v t, inR D v t → Et D T p v t ≤ e ∧ Bt T p v t < e ∧ 0 ≤ Bt T p v t := fun v t iv' => et_b ok ae he iv'
  refine Lp.r2 (fun (c : Int) (m : MI) => 0 ≤ c ∧ c ≤ e + 1 ∧ FF i m ∧ ∃ s, MSt m s ∧ Sim D (fun v t => Et D T p v t < c) (fun v t => Bt T p v t < c) s (fun v t => m 534 (96 * t + v))) (fun c _ => (e + 1 - c).toNat) ?_ ⟨by decide, by omega, f2.ff, _, c2, (Sim.start ok _).congr (fun v t iv' => ⟨fun z => z.elim, fun z => ?_⟩) (fun v t iv' => ⟨fun z => z.elim, fun z => ?_⟩)⟩
  · intro c m C ⟨c0, c1, f, s, cs, S⟩ hC
    dsimp only [b41_X12_flow]
    refine ⟨fun q => hQ m f ?_, fun q => ?_⟩
    · exact cs.same (S.done ok (fun v t iv' => by have := etb v t iv'; omega) (fun v t iv' => by have := etb v t iv'; omega))
    refine Lp.r2 (fun (x : Int) (m : MI) => 0 ≤ x ∧ x ≤ nn D ∧ FF i m ∧ ∃ s, MSt m s ∧ Sim D (fun v t => Et D T p v t < c ∨ (Et D T p v t = c ∧ v < x)) (fun v t => Bt T p v t < c) s (fun v t => m 534 (96 * t + v))) (fun x _ => (nn D - x).toNat) ?_ ⟨by decide, nl.1, f, s, cs, S.congr (fun v t iv' => ⟨.inl, fun z => by have := iv'.1.1; omega⟩) (fun v t _ => Iff.rfl)⟩
    intro x m C2 ⟨x0, x1, f, s, cs, S⟩ hC2
    dsimp only [b49_X12_flow, s132_X12_flow]
    have hv2 := w.ff f
    have P2 := hP.ff f
    rw [hv2.n]
    refine ⟨fun q1 => ?_, fun q1 => ⟨by omega, mcyc_w ok hv2 ⟨x0, by omega⟩ ?_⟩⟩
    · refine Lp.r2 (fun (x : Int) (m : MI) => 0 ≤ x ∧ x ≤ nn D ∧ FF i m ∧ ∃ s, MSt m s ∧ Sim D (fun v t => Et D T p v t ≤ c) (fun v t => Bt T p v t < c ∨ (Bt T p v t = c ∧ v < x)) s (fun v t => m 534 (96 * t + v))) (fun x _ => (nn D - x).toNat) ?_ ⟨by decide, nl.1, f, s, cs, S.congr (fun v t iv' => ⟨fun z => by omega, fun z => by have := iv'.1.2; omega⟩) (fun v t iv' => ⟨.inl, fun z => by have := iv'.1.1; omega⟩)⟩
      intro x m C3 ⟨x0, x1, f, s, cs, S⟩ hC3
      dsimp only [b141_X12_flow, s192_X12_flow]
      have hv2 := w.ff f
      have P2 := hP.ff f
      rw [hv2.n]
      refine ⟨fun q2 => ?_, fun q2 => ⟨by omega, ?_⟩⟩
      · rw [wr_of (x := c + 1) (by omega) (by omega)]
        exact hC _ _ ⟨by omega, by omega, f, s, cs, S.congr (fun v t iv' => by omega) (fun v t iv' => ⟨fun z => by omega, fun z => by have := iv'.1.2; omega⟩)⟩ (by omega)
      · have hx : 0 ≤ x ∧ x < nn D := ⟨x0, by omega⟩
        have px := pb x hx.1 hx.2
        rw [f.i 532 (by decide) (by decide), hp, wr_of (x := x + 1) (by omega) (by omega)]
        refine turnAt_w ok P2 (by omega) (by omega) (fun τ t0 t1 et => ⟨fun z => by omega, fun _ => ?_⟩) (fun no => ⟨fun _ => ?_, fun z => absurd rfl z⟩)
        · have ix : inR D x τ := ⟨hx, t0, t1⟩
          have eB : Bt T p x τ = c := by unfold Bt; omega
          have N : Now D T p (fun v t => Et D T p v t ≤ c) (fun v t => Bt T p v t < c ∨ (Bt T p v t = c ∧ v < x)) x τ := ⟨fun v t _ => by rw [eB], fun v t _ z => by rw [eB]; omega, fun v t _ z => by rw [eB] at z; omega, fun z => by
            have z' : Bt T p x τ < c ∨ (Bt T p x τ = c ∧ x < x) := z
            omega⟩
          have tb' := S.tb
          refine mvalue_w ok P2 hv2 ix cs S.ok (by omega) (S.ev ok ae ix N) (fun m' s' f' cs' a1 a2 a3 a4 a5 => ?_)
          rw [wr_of (x := 96 * τ) (by omega) (by omega), wr_of (x := 96 * τ + x) (by omega) (by omega)]
          refine ⟨by omega, hC3 _ _ ⟨by omega, by omega, f.trans (f'.ff.trans FF.s), s', cs'.st, (S.beg ok ae ix N (val' := fun v t => (st m' 534 (96 * τ + x) (RV D x τ)) 534 (96 * t + v)) a1 a2 a3 a4 a5 st_eq (fun v t iv' ne => ?_)).congr (fun v t _ => Iff.rfl) (fun v t iv' => ⟨fun z => ?_, fun z => ?_⟩)⟩ (by omega)⟩
          · have := idm_inj ok iv' ix ne
            rw [st_ne (by omega), f'.1 534 (by decide) (by decide)]
          · rcases z with z | ⟨rfl, rfl⟩
            · omega
            · exact .inr ⟨eB, by omega⟩
          · by_cases w : v = x
            · rcases z with z | ⟨z, _⟩
              · exact .inl (.inl z)
              · refine .inr ⟨w, ?_⟩
                rw [w] at z
                unfold Bt at z eB
                exact tmul_inj tb.1 (by omega)
            · exact .inl (by omega)
        · refine hC3 _ _ ⟨by omega, by omega, f, s, cs, S.congr (fun v t _ => Iff.rfl) (fun v t iv' => ⟨fun z => by omega, fun z => ?_⟩)⟩ (by omega)
          by_cases w : v = x
          · refine .inl ?_
            rcases z with z | ⟨z, _⟩
            · exact z
            · rw [w] at z
              unfold Bt at z
              exact absurd (by omega) (no t iv'.2.1 iv'.2.2)
          · omega
    · have hx : 0 ≤ x ∧ x < nn D := ⟨x0, by omega⟩
      have px := pb x hx.1 hx.2
      have cx := cyv_r ok hx
      rw [f.i 532 (by decide) (by decide), hp, wr_of (x := p x + cyv D x) (by omega) (by omega), wr_of (x := x + 1) (by omega) (by omega)]
      refine turnAt_w ok P2 (by omega) (by omega) (fun τ t0 t1 et => ⟨fun z => by omega, fun _ => ?_⟩) (fun no => ⟨fun _ => ?_, fun z => absurd rfl z⟩)
      · have ix : inR D x τ := ⟨hx, t0, t1⟩
        have eE : Et D T p x τ = c := by unfold Et; omega
        have eB : Bt T p x τ < c := by unfold Bt; omega
        have f1 : ∀ v t, inR D v t → (Et D T p v t < c ∨ (Et D T p v t = c ∧ v < x)) → Et D T p v t ≤ Et D T p x τ := fun v t _ z => by rw [eE]; omega
        have f2 : ∀ v t, inR D v t → Et D T p v t < Et D T p x τ → (Et D T p v t < c ∨ (Et D T p v t = c ∧ v < x)) := fun v t _ z => by rw [eE] at z; exact .inl z
        have nf : ¬ (Et D T p x τ < c ∨ (Et D T p x τ = c ∧ x < x)) := by rw [eE]; omega
        have uniq : ∀ t, Et D T p x t = c → t = τ := fun t z => by
          unfold Et at z eE
          exact tmul_inj tb.1 (by omega)
        have iff' : ∀ v t, (Et D T p v t < c ∨ (Et D T p v t = c ∧ v < x)) ∨ (v = x ∧ t = τ) ↔ (Et D T p v t < c ∨ (Et D T p v t = c ∧ v < x + 1)) := fun v t => by
          constructor
          · rintro (z | ⟨rfl, rfl⟩)
            · omega
            · exact .inr ⟨eE, by omega⟩
          · intro z
            by_cases w : v = x
            · rcases z with z | ⟨z, _⟩
              · exact .inl (.inl z)
              · exact .inr ⟨w, uniq t (w ▸ z)⟩
            · exact .inl (by omega)
        have km := kmod ok P2 hv2 hx
        have sr := sv_r ok hx
        have ivr := iv_r ok ix.1 ix.2
        refine isLast_w ok hv2 hx (fun l => ⟨fun z => absurd z (by decide), fun _ => ⟨by omega, km.2, loopT_w ok P2 hv2 ix ?_⟩⟩) (fun l => ⟨fun _ => ?_, fun z => absurd rfl z⟩)
        · rw [km.1, wr_of (x := 96 * τ) (by omega) (by omega), wr_of (x := 96 * τ + x) (by omega) (by omega)]
          refine ⟨by omega, mwrite_w P2 ok ⟨sr.2.2.2.1, sr.2.2.2.2⟩ ⟨ivr.1, by omega⟩ cs S.ok (fun c6 => S.outn ok ae ix l nf f1 f2 c6) (fun m' f' cs' => ?_)⟩
          have S' := S.fin ok ae ix l eB nf f1 f2
          have e534 : m' 534 = m 534 := f'.1 534 (by decide) (by decide)
          refine hC2 _ _ ⟨by omega, by omega, f.trans f'.ff, _, cs', ?_⟩ (by omega)
          rw [e534]
          exact S'.congr (fun v t _ => iff' v t) (fun v t _ => Iff.rfl)
        · refine hC2 _ _ ⟨by omega, by omega, f, s, cs, S.congrL ok (fun v t _ lv => ?_) (fun v t _ => Iff.rfl)⟩ (by omega)
          rw [← iff' v t]
          exact ⟨.inl, fun z => z.elim id (fun w => absurd (w.1 ▸ lv) l)⟩
      · refine hC2 _ _ ⟨by omega, by omega, f, s, cs, S.congr (fun v t iv' => ⟨fun z => by omega, fun z => ?_⟩) (fun v t _ => Iff.rfl)⟩ (by omega)
        by_cases w : v = x
        · rcases z with z | ⟨z, _⟩
          · exact .inl z
          · rw [w] at z
            unfold Et at z
            exact absurd (by omega) (no t iv'.2.1 iv'.2.2)
        · omega
  · have := (etb v t iv').1
    have := (etb v t iv').2.2
    have cv := cyv_r ok iv'.1
    rw [Et_eq] at z
    omega
  · have := (etb v t iv').2.2
    omega
theorem flow_w {D : Dat} (ok : DOk D) {i r : MI} {Q : MI → Prop} (h : ModelP D i) (hQ : ∀ m, Fm i m → m 504 0 = i 504 0 → ModelP D m → MSt m (execS D) → Q m) : wp_X12_flow i r Q := by
  have b := BT_b ok
  have fc := ok.fac
  unfold wp_X12_flow
  refine mplaceAll_w ok h (fun T i1 m f1 f2 e2 iT p => ?_)
  have tb := int_b iT
  have tt := tb_b ok tb
  have pb := pl_b ok (T := T) (by omega) (Int.le_refl _) p
  have nl := nn_le ok
  have fin : ∀ e, CycP D T (m 532) e → s34_X12_flow T e m r Q := fun e he => goes_w ok e2.p e2.w iT p rfl he (fun m' f' c' => hQ m' (fun a ha => by rw [f'.fm a ha, f2.fm a ha, f1.fm a ha]) (by rw [f'.c 0 (by decide) (by decide), f2.c 0 (by decide), f1.c 0 (by decide) (by decide)]) (e2.p.ff f') c')
  rw [e2.w.n, e2.p.fac, e2.p.tur]
  refine ⟨fun q => fin 0 (.inl ⟨q, rfl⟩), fun q => longest_w ok e2 (fun v x y => by have := pb v x y; omega) (fun e he => ⟨by omega, ?_⟩)⟩
  have eb := end_b ok tb p he
  rw [show D.tur.tdiv D.fac = BT D from rfl]
  rw [wr_of (x := BT D) (by omega) (by omega), wr_of (x := BT D - 1) (by omega) (by omega), wr_of (x := T * (BT D - 1)) (by omega) (by omega), wr_of (x := e + T * (BT D - 1)) (by omega) (by omega)]
  exact fin _ (.inr ⟨q, e, he, rfl⟩)
