/-! ===== the circuit: a node is over ===== -/
theorem Iv_n {D : Dat} (ok : DOk D) {v τ : Int} (h : inR D v τ) : 0 ≤ Iv D v τ ∧ Iv D v τ < NS D := Iv_r ok h.1 h.2
theorem wrl_mem {D : Dat} (ok : DOk D) {v τ a q : Int} (h : inR D v τ) (l : Lst D v) (ha : 0 ≤ a ∧ a < 2) (w : wMem D (kv D v) (iv D v τ) a q) : wrv D v ∧ kdv D v = a + 3 ∧ PLv D v τ = q := by
  have z := lst3 l (by have := w.1; omega)
  have k : kdv D v = a + 3 := by rw [z.2, w.1]
  refine ⟨z.1, k, ?_⟩
  rw [PL_plc ok h.1 (by unfold isMem; omega)]
  unfold plN
  rw [if_neg (by omega), if_neg (by omega)]
  exact w.2
theorem mem_wr' {D : Dat} (ok : DOk D) {v τ a q : Int} (h : inR D v τ) (ha : 0 ≤ a ∧ a < 2) (w : wrv D v) (k : kdv D v = a + 3) (e : PLv D v τ = q) : wMem D (kv D v) (iv D v τ) a q := by
  have w3 : (nd D v).2 = 3 := w
  refine ⟨by rw [← wr_kd w3]; exact k, ?_⟩
  rw [PL_plc ok h.1 (by unfold isMem; omega)] at e
  unfold plN at e
  rw [if_neg (by omega), if_neg (by omega)] at e
  exact e
theorem Sim.fin {D : Dat} (ok : DOk D) {T : Int} {p : Int → Int} (h : AE D T p) {F B : Int → Int → Prop} {s : St} {val : Int → Int → Int} (S : Sim D F B s val) {x τ : Int} (hx : inR D x τ) (lst : Lst D x) (bx : B x τ) (nf : ¬ F x τ) (f1 : ∀ v t, inR D v t → F v t → Et D T p v t ≤ Et D T p x τ) (f2 : ∀ v t, inR D v t → Et D T p v t < Et D T p x τ → F v t) : Sim D (fun v t => F v t ∨ (v = x ∧ t = τ)) B (wriS D (kv D x) (iv D x τ) (val x τ) s) val := by
  have ik := Iv_k ok (τ := τ) hx.1
  have inn := Iv_n ok hx
  have sr := sv_r ok hx.1
  have hv : val x τ = RVn D (Iv D x τ) := by rw [S.v x τ hx bx, RV_lst ok hx.1 lst]
  have hcut : isCut D (val x τ) := by rw [hv]; exact RVn_cut ok (by omega)
  have late : ∀ v t, inR D v t → (F v t ∨ (v = x ∧ t = τ)) → Iv D x τ < Iv D v t → lx τ x t v ∧ Et D T p v t ≤ Et D T p x τ := by
    intro v t iv' f l
    refine ⟨Iv_lx ok hx.1 iv'.1 l, ?_⟩
    rcases f with f | ⟨rfl, rfl⟩
    · exact f1 v t iv' f
    · omega
  refine ⟨wri_ok S.ok hcut, S.v, ?_, ?_, ?_, fun P a b e => by rw [wri_tak]; exact S.t P a b e, by rw [wri_tak]; exact S.tb⟩
  · intro r m r0 r8 m0 m1 e
    rw [wri_reg]
    by_cases c : D.F (kv D x) 0 = 0 ∧ r = D.N (kv D x) 0
    · rw [if_pos c, hv]
      have mk : mkv D x = r := by rw [lst_reg ok hx.1 lst c.1]; exact c.2.symm
      have nm := (e x τ hx mk).2 (.inr ⟨rfl, rfl⟩)
      rw [const_to (f := fun n => (sg D n).reg r) (W := fun n => D.F (n % D.cnt) 0 = 0 ∧ r = D.N (n % D.cnt) 0) (fun n n0 w => by rw [sg_reg n0, if_neg w]) (a := Iv D x τ + 1) (b := m) (by omega) (by omega) (fun n n0 n1 w => ?_)]
      · rw [sg_reg inn.1, ik.1, if_pos c]
      · obtain ⟨v, t, i, l, en⟩ := st_node ok (n := n) ⟨by omega, by omega⟩
        have ev := (Iv_k ok (τ := t) i.1).1
        rw [en] at ev
        rw [ev] at w
        have mkv' : mkv D v = r := by rw [lst_reg ok i.1 l w.1]; exact w.2.symm
        obtain ⟨lxx, le⟩ := late v t i ((e v t i mkv').1 (by omega)) (by omega)
        have := maker_lx h ⟨r0, r8⟩ x v τ t hx.1.1 hx.1.2 i.1.1 i.1.2 mk mkv' lxx
        omega
    · rw [if_neg c]
      refine S.r r m r0 r8 m0 m1 (fun v t i k => (e v t i k).trans ⟨fun z => ?_, .inl⟩)
      rcases z with z | ⟨rfl, rfl⟩
      · exact z
      · have := mk_reg k r0
        exact absurd ⟨this.1, this.2.symm⟩ c
  · intro a q m a0 a1 q0 q1 m0 m1 e
    have w := wri_mem (D := D) (k := kv D x) (i := iv D x τ) (v := val x τ) (s := s) ⟨a0, a1⟩ ⟨q0, q1⟩
    by_cases c : wMem D (kv D x) (iv D x τ) a q
    · rw [w.1 c, hv]
      obtain ⟨wx, kx, px⟩ := wrl_mem ok hx lst ⟨a0, a1⟩ c
      have nm := (e x τ hx wx kx px).2 (.inr ⟨rfl, rfl⟩)
      rw [const_to (f := fun n => (sg D n).mem a q) (W := fun n => wMem D (n % D.cnt) (n / D.cnt) a q) (fun n n0 w => (sg_mem n0 ⟨a0, a1⟩ ⟨q0, q1⟩).2 w) (a := Iv D x τ + 1) (b := m) (by omega) (by omega) (fun n n0 n1 w => ?_)]
      · exact ((sg_mem inn.1 ⟨a0, a1⟩ ⟨q0, q1⟩).1 (by rw [ik.1, ik.2]; exact c)).symm
      · obtain ⟨v, t, i, l, en⟩ := st_node ok (n := n) ⟨by omega, by omega⟩
        have ev := Iv_k ok (τ := t) i.1
        rw [en] at ev
        rw [ev.1, ev.2] at w
        obtain ⟨wv, kv', pv⟩ := wrl_mem ok i l ⟨a0, a1⟩ w
        obtain ⟨lxx, le⟩ := late v t i ((e v t i wv kv' pv).1 (by omega)) (by omega)
        have := mem_ww ok h hx.1 i.1 (by unfold isMem; omega) (by rw [kx, kv']) wx wv (by rw [px, pv]) lxx
        omega
    · rw [w.2 c]
      refine S.m a q m a0 a1 q0 q1 m0 m1 (fun v t i k1 k2 k3 => (e v t i k1 k2 k3).trans ⟨fun z => ?_, .inl⟩)
      rcases z with z | ⟨rfl, rfl⟩
      · exact z
      · exact absurd (mem_wr' ok hx ⟨a0, a1⟩ k1 k2 k3) c
  · intro m m0 m1 e
    have w := wri_out (D := D) (k := kv D x) (i := iv D x τ) (v := val x τ) (s := s)
    by_cases c : D.F (kv D x) 0 = 6
    · have x3 := lst3 lst (by omega)
      have kx : kdv D x = 6 := by rw [x3.2, c]
      have nm := (e x τ hx kx).2 (.inr ⟨rfl, rfl⟩)
      have s0 := S.o (Iv D x τ) inn.1 (by omega) (fun v t i k => ⟨fun z => ?_, fun z => ?_⟩)
      · have hc : ((sg D m).outs, (sg D m).out) = ((sg D (Iv D x τ + 1)).outs, (sg D (Iv D x τ + 1)).out) := const_to (f := fun n => ((sg D n).outs, (sg D n).out)) (W := fun n => D.F (n % D.cnt) 0 = 6) (fun n n0 w => by
            have := (sg_out n0).2 w
            show ((sg D (n + 1)).outs, (sg D (n + 1)).out) = ((sg D n).outs, (sg D n).out)
            rw [this.1, this.2]) (by omega) (by omega) (fun n n0 n1 w => by
            obtain ⟨v, t, i, l, en⟩ := st_node ok (n := n) ⟨by omega, by omega⟩
            have ev := (Iv_k ok (τ := t) i.1).1
            rw [en] at ev
            rw [ev] at w
            have kv' : kdv D v = 6 := by rw [(lst3 l (by omega)).2, w]
            obtain ⟨lxx, le⟩ := late v t i ((e v t i kv').1 (by omega)) (by omega)
            have := chan_ex h (c := 6) (by decide) hx.1 i.1 kx kv' lxx
            omega)
        obtain ⟨c1, c2⟩ := Prod.mk.inj hc
        have so := (sg_out inn.1).1 (by rw [ik.1]; exact c)
        rw [c1, c2, (w.1 c).1, so.1, s0.1]
        refine ⟨rfl, fun k a b => ?_⟩
        rw [(w.1 c).2, so.2, hv, s0.1]
        by_cases z : k = (sg D (Iv D x τ)).outs
        · rw [if_pos z, if_pos z]
        · rw [if_neg z, if_neg z]
          exact s0.2 k a (by rw [s0.1]; omega)
      · exact f2 v t i (chan_ex h (c := 6) (by decide) i.1 hx.1 k kx (Iv_lx ok i.1 hx.1 z))
      · apply Classical.byContradiction
        intro w2
        have le := f1 v t i z
        by_cases eq : Iv D v t = Iv D x τ
        · obtain ⟨e1, e2⟩ := Iv_inj ok i.1 hx.1 eq
          have := lst_uniq ok i.1 hx.1 e2 (wr_lst ok i.1 (kd6 ok i.1 k).1) lst
          rw [e1, this] at z
          exact nf z
        · have := chan_ex h (c := 6) (by decide) hx.1 i.1 kx k (Iv_lx ok (τ := τ) (τ' := t) hx.1 i.1 (by omega))
          omega
    · rw [(w.2 c).1, (w.2 c).2]
      refine S.o m m0 m1 (fun v t i k => (e v t i k).trans ⟨fun z => ?_, .inl⟩)
      rcases z with z | ⟨rfl, rfl⟩
      · exact z
      · exact absurd (kd6 ok hx.1 k).2 c
