/-! ===== the circuit: it goes on, begins and ends ===== -/
theorem Sim.congrL {D : Dat} (ok : DOk D) {F B F' B' : Int → Int → Prop} {s : St} {val : Int → Int → Int} (S : Sim D F B s val) (hF : ∀ v τ, inR D v τ → Lst D v → (F v τ ↔ F' v τ)) (hB : ∀ v τ, inR D v τ → (B v τ ↔ B' v τ)) : Sim D F' B' s val :=
  ⟨S.ok, fun v τ i b => S.v v τ i ((hB v τ i).2 b), fun r m a b c d e => S.r r m a b c d (fun v τ i k => (e v τ i k).trans (hF v τ i (mk_lst ok i.1 k a)).symm),
   fun a q m x1 x2 x3 x4 x5 x6 e => S.m a q m x1 x2 x3 x4 x5 x6 (fun v τ i k1 k2 k3 => (e v τ i k1 k2 k3).trans (hF v τ i (wr_lst ok i.1 k1)).symm),
   fun m a b e => S.o m a b (fun v τ i k => (e v τ i k).trans (hF v τ i (wr_lst ok i.1 (kd6 ok i.1 k).1)).symm),
   fun P a b e => S.t P a b (fun v τ i k => (e v τ i k).trans (hB v τ i).symm), S.tb⟩
theorem TK_b {D : Dat} (ok : DOk D) {P : Int} (h : 0 ≤ P ∧ P ≤ 2 * NS D) : TK D P ≤ 400 := by
  have b := NS_b ok
  have c := (run_cnt (D := D) (P / 2).toNat).2.2.2
  unfold TK sg
  split
  · omega
  · rw [tkS_p.2.2.2.2]
    split <;> omega
theorem Sim.beg {D : Dat} (ok : DOk D) {T : Int} {p : Int → Int} (h : AE D T p) {F B : Int → Int → Prop} {s s' : St} {val val' : Int → Int → Int} (S : Sim D F B s val) {x τ : Int} (hx : inR D x τ) (N : Now D T p F B x τ) (s1 : s'.reg = s.reg) (s2 : s'.mem = s.mem) (s3 : s'.out = s.out) (s4 : s'.outs = s.outs) (s5 : s'.tak = s.tak + if kdv D x = 5 then 1 else 0) (v1 : val' x τ = RV D x τ) (v2 : ∀ v t, inR D v t → ¬ (v = x ∧ t = τ) → val' v t = val v t) : Sim D F (fun v t => B v t ∨ (v = x ∧ t = τ)) s' val' := by
  have so := S.ok
  have bnd : s'.tak ≤ 1000 := by
    rw [s5]
    by_cases k : kdv D x = 5
    · rw [if_pos k, S.tk ok h hx N k]
      have tn := node_isTk ok hx k
      have := TK_b ok (P := tpos D x τ) ⟨tn.2.1, by omega⟩
      omega
    · rw [if_neg k]
      have := S.tb
      omega
  refine ⟨⟨by rw [s1]; exact so.r, by rw [s2]; exact so.m, by rw [s4]; exact so.n, by rw [s5]; have := so.t; split <;> omega⟩, fun v t i b => ?_, by rw [s1]; exact S.r, by rw [s2]; exact S.m, by rw [s3, s4]; exact S.o, fun P a b e => ?_, bnd⟩
  · by_cases z : v = x ∧ t = τ
    · rw [z.1, z.2]; exact v1
    · rw [v2 v t i z]
      rcases b with b | b
      · exact S.v v t i b
      · exact absurd b z
  · rw [s5]
    by_cases k : kdv D x = 5
    · rw [if_pos k, S.tk ok h hx N k]
      have tn := node_isTk ok hx k
      have lt := (e x τ hx k).2 (.inr ⟨rfl, rfl⟩)
      rw [const_to (f := TK D) (W := isTk D) (fun n n0 w => (TK_s n0).2 w) (a := tpos D x τ + 1) (b := P) (by omega) (by omega) (fun n n0 n1 w => ?_), (TK_s tn.2.1).1 tn.1]
      obtain ⟨u, t, i, ku, eu⟩ := isTk_node ok ⟨by omega, by omega⟩ w
      have lxx := (tp_lx ok hx i k ku).1 (by omega)
      have bt := chan_lx h (c := 5) (by decide) x u τ t hx.1.1 hx.1.2 i.1.1 i.1.2 k ku lxx
      rcases (e u t i ku).1 (by omega) with z | z
      · have := N.b1 u t i z
        omega
      · rw [z.1, z.2] at eu
        omega
    · rw [if_neg k, Int.add_zero]
      refine S.t P a b (fun u t i ku => (e u t i ku).trans ⟨fun z => ?_, .inl⟩)
      rcases z with z | z
      · exact z
      · rw [z.1] at ku
        exact absurd ku k
theorem Sim.start {D : Dat} (ok : DOk D) (val : Int → Int → Int) : Sim D (fun _ _ => False) (fun _ _ => False) (begS D) val := by
  have none : ∀ (W : Int → Prop) (m : Int), m ≤ NS D → (∀ v t, inR D v t → Lst D v → W (Iv D v t) → Iv D v t < m → False) → ∀ n, 0 ≤ n → n < m → ¬ W n := by
    intro W m m1 e n n0 n1 w
    obtain ⟨v, t, i, l, en⟩ := st_node ok (n := n) ⟨n0, by omega⟩
    exact e v t i l (by rw [en]; exact w) (by omega)
  have e0 : sg D 0 = begS D := rfl
  refine ⟨beg_ok ok, fun v τ i b => b.elim, fun r m r0 r8 m0 m1 e => ?_, fun a q m a0 a1 q0 q1 m0 m1 e => ?_, fun m m0 m1 e => ?_, fun P a b e => ?_, by show (0:Int) ≤ 1000; decide⟩
  · rw [const_to (f := fun n => (sg D n).reg r) (W := fun n => D.F (n % D.cnt) 0 = 0 ∧ r = D.N (n % D.cnt) 0) (fun n n0 w => by rw [sg_reg n0, if_neg w]) (a := 0) (b := m) (by omega) m0 (none _ m m1 (fun v t i l w z => ?_))]
    · rfl
    · have ev := (Iv_k ok (τ := t) i.1).1
      rw [ev] at w
      exact (e v t i (by rw [lst_reg ok i.1 l w.1]; exact w.2.symm)).1 z
  · rw [const_to (f := fun n => (sg D n).mem a q) (W := fun n => wMem D (n % D.cnt) (n / D.cnt) a q) (fun n n0 w => (sg_mem n0 ⟨a0, a1⟩ ⟨q0, q1⟩).2 w) (a := 0) (b := m) (by omega) m0 (none _ m m1 (fun v t i l w z => ?_))]
    · rfl
    · have ev := Iv_k ok (τ := t) i.1
      rw [ev.1, ev.2] at w
      obtain ⟨wv, kv', pv⟩ := wrl_mem ok i l ⟨a0, a1⟩ w
      exact (e v t i wv kv' pv).1 z
  · have hc : ((sg D m).outs, (sg D m).out) = ((sg D 0).outs, (sg D 0).out) := const_to (f := fun n => ((sg D n).outs, (sg D n).out)) (W := fun n => D.F (n % D.cnt) 0 = 6) (fun n n0 w => by
        have := (sg_out n0).2 w
        show ((sg D (n + 1)).outs, (sg D (n + 1)).out) = ((sg D n).outs, (sg D n).out)
        rw [this.1, this.2]) (by omega) m0 (none _ m m1 (fun v t i l w z => by
          have ev := (Iv_k ok (τ := t) i.1).1
          rw [ev] at w
          exact (e v t i (by rw [(lst3 l (by omega)).2, w])).1 z))
    obtain ⟨c1, c2⟩ := Prod.mk.inj hc
    rw [c1, c2, e0]
    exact ⟨rfl, fun _ _ _ => rfl⟩
  · rw [const_to (f := TK D) (W := isTk D) (fun n n0 w => (TK_s n0).2 w) (a := 0) (b := P) (by omega) a (fun n n0 n1 w => ?_)]
    · rfl
    · obtain ⟨u, t, i, ku, eu⟩ := isTk_node ok ⟨by omega, by omega⟩ w
      exact (e u t i ku).1 (by omega)
/-- all is over -/
def Same (s s' : St) : Prop := (∀ r, 0 ≤ r → r < 8 → s.reg r = s'.reg r) ∧ (∀ a q, 0 ≤ a → a < 2 → 0 ≤ q → q < 16 → s.mem a q = s'.mem a q) ∧ (s.outs = s'.outs) ∧ (∀ k, 0 ≤ k → k < s.outs → s.out k = s'.out k) ∧ (s.tak = s'.tak)
theorem Same.r {s s' : St} (h0 : Same s s') : ∀ r, 0 ≤ r → r < 8 → s.reg r = s'.reg r := h0.1
theorem Same.m {s s' : St} (h0 : Same s s') : ∀ a q, 0 ≤ a → a < 2 → 0 ≤ q → q < 16 → s.mem a q = s'.mem a q := h0.2.1
theorem Same.n {s s' : St} (h0 : Same s s') : s.outs = s'.outs := h0.2.2.1
theorem Same.x {s s' : St} (h0 : Same s s') : ∀ k, 0 ≤ k → k < s.outs → s.out k = s'.out k := h0.2.2.2.1
theorem Same.t {s s' : St} (h0 : Same s s') : s.tak = s'.tak := h0.2.2.2.2
theorem Same.mk {s s' : St} (h0 : ∀ r, 0 ≤ r → r < 8 → s.reg r = s'.reg r) (h1 : ∀ a q, 0 ≤ a → a < 2 → 0 ≤ q → q < 16 → s.mem a q = s'.mem a q) (h2 : s.outs = s'.outs) (h3 : ∀ k, 0 ≤ k → k < s.outs → s.out k = s'.out k) (h4 : s.tak = s'.tak) : Same s s' := ⟨h0, h1, h2, h3, h4⟩
theorem Sim.done {D : Dat} (ok : DOk D) {F B : Int → Int → Prop} {s : St} {val : Int → Int → Int} (S : Sim D F B s val) (hF : ∀ v τ, inR D v τ → F v τ) (hB : ∀ v τ, inR D v τ → B v τ) : Same s (execS D) := by
  have nb := NS_b ok
  have lt : ∀ v τ, inR D v τ → (Iv D v τ < NS D ↔ F v τ) := fun v τ i => ⟨fun _ => hF v τ i, fun _ => (Iv_n ok i).2⟩
  have e : sg D (NS D) = execS D := rfl
  have o := S.o (NS D) nb.1 (Int.le_refl _) (fun v τ i _ => lt v τ i)
  refine ⟨fun r a b => S.r r _ a b nb.1 (Int.le_refl _) (fun v τ i _ => lt v τ i), fun a q x1 x2 x3 x4 => S.m a q _ x1 x2 x3 x4 nb.1 (Int.le_refl _) (fun v τ i _ _ _ => lt v τ i), o.1, o.2, ?_⟩
  rw [S.t (2 * NS D) (by omega) (Int.le_refl _) (fun u τ i k => ⟨fun _ => hB u τ i, fun _ => (node_isTk ok i k).2.2⟩)]
  unfold TK
  rw [if_pos (by omega), show 2 * NS D / 2 = NS D by omega, e]
theorem CSt.same {D : Dat} {o : Int} {i : MI} {s s' : St} (h : CSt D o i s) (e : Same s s') : CSt D o i s' :=
  ⟨fun k a b => by rw [← e.r k a b]; exact h.r k a b, fun m p a b c d => by rw [← e.m m p a b c d]; exact h.m m p a b c d, fun k a b => by rw [← e.x k a (by rw [e.n]; exact b)]; exact h.x k a (by rw [e.n]; exact b), by rw [← e.n]; exact h.n, by rw [← e.t]; exact h.t⟩
theorem MSt.same {i : MI} {s s' : St} (h : MSt i s) (e : Same s s') : MSt i s' :=
  ⟨fun k a b => by rw [← e.r k a b]; exact h.r k a b, fun m p a b c d => by rw [← e.m m p a b c d]; exact h.m m p a b c d, fun k a b => by rw [← e.x k a (by rw [e.n]; exact b)]; exact h.x k a (by rw [e.n]; exact b), by rw [← e.n]; exact h.n, by rw [← e.t]; exact h.t⟩
