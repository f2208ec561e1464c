/-! ===== the circuit: a node begins ===== -/
theorem role_first {D : Dat} (ok : DOk D) {u : Int} (hu : 0 ≤ u ∧ u < nn D) (q : (nd D u).2 = 0) : u = bs D (sv' D u) := by
  obtain ⟨j, a, b, c, d⟩ := seg_of ok hu
  rw [q] at b
  have r := rls_mem (List.mem_of_getElem? b)
  have r1 : isRd (D.F (stK D (nd D u)) 1) := by
    rcases r with r | r | r | r | r
    · exact r.2
    all_goals omega
  have e : (rls D (stK D (nd D u)))[0]? = some 0 := by unfold rls; rw [if_pos r1]; rfl
  have h2 : (rls D (stK D (nd D u)))[j]? = (rls D (stK D (nd D u)))[0]? := by rw [b, e]
  have := (List.getElem?_inj (get_lt b) (rls_nodup (D := D) (k := stK D (nd D u)))).1 h2
  have a' : u = bs D (sv' D u) + j := a
  omega
theorem role01 {D : Dat} (ok : DOk D) {u v : Int} (hu : 0 ≤ u ∧ u < nn D) (hv : 0 ≤ v ∧ v < nn D) (e : sv' D u = sv' D v) (qu : (nd D u).2 = 0) (qv : (nd D v).2 = 1) : u < v := by
  have a := role_first ok hu qu
  have b := v_seg ok hv
  rw [← e, ← a] at b
  by_cases z : u = v
  · rw [z] at qu; omega
  · omega
theorem tp_lx {D : Dat} (ok : DOk D) {u v t τ : Int} (hu : inR D u t) (hv : inR D v τ) (ku : kdv D u = 5) (kv' : kdv D v = 5) : tpos D u t < tpos D v τ ↔ lx t u τ v := by
  have ru := kd5 ok hu.1 ku
  have rv := kd5 ok hv.1 kv'
  unfold tpos
  constructor
  · intro z
    by_cases c : Iv D u t < Iv D v τ
    · exact Iv_lx ok hu.1 hv.1 c
    · have e : Iv D u t = Iv D v τ := by split at z <;> split at z <;> omega
      obtain ⟨e1, e2⟩ := Iv_inj ok hu.1 hv.1 e
      refine .inr ⟨e1, role01 ok hu.1 hv.1 e2 ?_ ?_⟩ <;> (split at z <;> split at z <;> omega)
  · intro z
    have l := lx_Iv ok hu.1 hv.1 z
    by_cases c : Iv D u t = Iv D v τ
    · obtain ⟨e1, e2⟩ := Iv_inj ok hu.1 hv.1 c
      have uv : u < v := by rcases z with z | z <;> omega
      rcases ru with ⟨a, _⟩ | ⟨a, _⟩ <;> rcases rv with ⟨b, _⟩ | ⟨b, _⟩
      · have := nd_inj hu.1 hv.1 (Prod.ext e2 (by rw [a, b])); omega
      · rw [if_neg (by omega), if_pos b]; omega
      · have := role01 ok hv.1 hu.1 e2.symm b a; omega
      · have := nd_inj hu.1 hv.1 (Prod.ext e2 (by rw [a, b])); omega
    · split <;> split <;> omega
theorem tp_inj {D : Dat} (ok : DOk D) {u v t τ : Int} (hu : inR D u t) (hv : inR D v τ) (ku : kdv D u = 5) (kv' : kdv D v = 5) (h : ¬ lx t u τ v) (h' : ¬ lx τ v t u) : u = v ∧ t = τ := by
  unfold lx at h h'
  omega
theorem isTk_node {D : Dat} (ok : DOk D) {P : Int} (h : 0 ≤ P ∧ P < 2 * NS D) (k : isTk D P) : ∃ u t, inR D u t ∧ kdv D u = 5 ∧ tpos D u t = P := by
  have hn : 0 ≤ P / 2 ∧ P / 2 < NS D := by omega
  unfold isTk at k
  by_cases e : P % 2 = 0
  · rw [if_pos e] at k
    have m : (0 : Int) ∈ rls D (P / 2 % D.cnt) := by
      unfold rls
      rw [if_pos (show isRd (D.F (P / 2 % D.cnt) 1) by omega)]
      exact List.mem_append_left _ (List.mem_singleton.2 rfl)
    obtain ⟨v, τ, a, b, c⟩ := rd_node ok hn m
    have ek := (Iv_k ok (τ := τ) a.1).1
    rw [c] at ek
    refine ⟨v, τ, a, ?_, ?_⟩
    · unfold kdv kdN
      rw [if_pos b]
      show D.F (kv D v) 1 = 5
      rw [← ek]; exact k
    · unfold tpos
      rw [c, if_neg (by omega)]; omega
  · rw [if_neg e] at k
    have m : (1 : Int) ∈ rls D (P / 2 % D.cnt) := by
      unfold rls
      rw [if_neg k.1, if_pos (show isRd (D.F (P / 2 % D.cnt) 2) by omega)]
      exact List.mem_append_right _ (List.mem_append_left _ (List.mem_append_left _ (List.mem_singleton.2 rfl)))
    obtain ⟨v, τ, a, b, c⟩ := rd_node ok hn m
    have ek := (Iv_k ok (τ := τ) a.1).1
    rw [c] at ek
    refine ⟨v, τ, a, ?_, ?_⟩
    · unfold kdv kdN
      rw [if_neg (by omega), if_pos b]
      show D.F (kv D v) 2 = 5
      rw [← ek]; exact k.2
    · unfold tpos
      rw [c, if_pos b]; omega
theorem node_isTk {D : Dat} (ok : DOk D) {u t : Int} (h : inR D u t) (k : kdv D u = 5) : isTk D (tpos D u t) ∧ 0 ≤ tpos D u t ∧ tpos D u t < 2 * NS D := by
  have i := Iv_n ok h
  have ek := (Iv_k ok (τ := t) h.1).1
  unfold isTk tpos
  rcases kd5 ok h.1 k with ⟨a, b⟩ | ⟨a, b, c⟩
  · rw [if_neg (show ¬ (nd D u).2 = 1 by omega), if_pos (by omega), show (2 * Iv D u t + 0) / 2 = Iv D u t by omega, ek]
    exact ⟨b, by omega, by omega⟩
  · rw [if_pos a, if_neg (by omega), show (2 * Iv D u t + 1) / 2 = Iv D u t by omega, ek]
    exact ⟨⟨b, c⟩, by omega, by omega⟩
/-- the time at which a node begins -/
def Now (D : Dat) (T : Int) (p : Int → Int) (F B : Int → Int → Prop) (x τ : Int) : Prop := (∀ v t, inR D v t → (F v t ↔ Et D T p v t ≤ Bt T p x τ)) ∧ (∀ v t, inR D v t → B v t → Bt T p v t ≤ Bt T p x τ) ∧ (∀ v t, inR D v t → Bt T p v t < Bt T p x τ → B v t) ∧ (¬ B x τ)
theorem Now.f {D : Dat} {T : Int} {p : Int → Int} {F B : Int → Int → Prop} {x τ : Int} (h0 : Now D T p F B x τ) : ∀ v t, inR D v t → (F v t ↔ Et D T p v t ≤ Bt T p x τ) := h0.1
theorem Now.b1 {D : Dat} {T : Int} {p : Int → Int} {F B : Int → Int → Prop} {x τ : Int} (h0 : Now D T p F B x τ) : ∀ v t, inR D v t → B v t → Bt T p v t ≤ Bt T p x τ := h0.2.1
theorem Now.b2 {D : Dat} {T : Int} {p : Int → Int} {F B : Int → Int → Prop} {x τ : Int} (h0 : Now D T p F B x τ) : ∀ v t, inR D v t → Bt T p v t < Bt T p x τ → B v t := h0.2.2.1
theorem Now.n {D : Dat} {T : Int} {p : Int → Int} {F B : Int → Int → Prop} {x τ : Int} (h0 : Now D T p F B x τ) : ¬ B x τ := h0.2.2.2
theorem Now.mk {D : Dat} {T : Int} {p : Int → Int} {F B : Int → Int → Prop} {x τ : Int} (h0 : ∀ v t, inR D v t → (F v t ↔ Et D T p v t ≤ Bt T p x τ)) (h1 : ∀ v t, inR D v t → B v t → Bt T p v t ≤ Bt T p x τ) (h2 : ∀ v t, inR D v t → Bt T p v t < Bt T p x τ → B v t) (h3 : ¬ B x τ) : Now D T p F B x τ := ⟨h0, h1, h2, h3⟩
theorem Sim.reg {D : Dat} (ok : DOk D) {T : Int} {p : Int → Int} (h : AE D T p) {F B : Int → Int → Prop} {s : St} {val : Int → Int → Int} (S : Sim D F B s val) {x τ : Int} (hx : inR D x τ) (N : Now D T p F B x τ) {r : Int} (hr : 0 ≤ r ∧ r < 8) (us : usv D x r) : s.reg r = (sg D (Iv D x τ)).reg r := by
  have inn := Iv_n ok hx
  refine S.r r _ hr.1 hr.2 inn.1 (by omega) (fun v t i k => ?_)
  rw [N.f v t i]
  constructor
  · intro z
    exact maker_use h hr i.1 hx.1 k us (Iv_lx ok i.1 hx.1 z)
  · intro z
    apply Classical.byContradiction
    intro w
    have : Bt T p x τ < Et D T p v t := by
      refine use_maker ok h hr i.1 hx.1 k us ?_
      by_cases e : Iv D v t = Iv D x τ
      · obtain ⟨e1, e2⟩ := Iv_inj ok i.1 hx.1 e
        have a := (lst_iff ok i.1).1 (mk_lst ok i.1 k hr.1)
        have b := v_seg ok hx.1
        rw [← e2, ← a] at b
        exact .inr ⟨e1.symm, by omega⟩
      · rcases Iv_lx ok (τ := τ) (τ' := t) hx.1 i.1 (by omega) with q | q
        · exact .inl q
        · exact .inr ⟨q.1, by omega⟩
    omega
theorem Sim.mem {D : Dat} (ok : DOk D) {T : Int} {p : Int → Int} (h : AE D T p) {F B : Int → Int → Prop} {s : St} {val : Int → Int → Int} (S : Sim D F B s val) {x τ a q : Int} (hx : inR D x τ) (N : Now D T p F B x τ) (ha : 0 ≤ a ∧ a < 2) (hq : 0 ≤ q ∧ q < 16) (nw : ¬ wrv D x) (kx : kdv D x = a + 3) (px : PLv D x τ = q) : s.mem a q = (sg D (Iv D x τ)).mem a q := by
  have inn := Iv_n ok hx
  refine S.m a q _ ha.1 ha.2 hq.1 hq.2 inn.1 (by omega) (fun v t i k1 k2 k3 => ?_)
  rw [N.f v t i]
  constructor
  · intro z
    exact mem_wr ok h i.1 hx.1 (by unfold isMem; omega) (by rw [k2, kx]) k1 nw (by rw [k3, px]) (Iv_lx ok i.1 hx.1 z)
  · intro z
    apply Classical.byContradiction
    intro w
    have : Bt T p x τ < Et D T p v t := by
      refine mem_rw ok h hx.1 i.1 (by unfold isMem; omega) (by rw [k2, kx]) nw k1 (by rw [k3, px]) ?_
      by_cases e : Iv D v t = Iv D x τ
      · obtain ⟨e1, e2⟩ := Iv_inj ok i.1 hx.1 e
        have a := (lst_iff ok i.1).1 (wr_lst ok i.1 k1)
        have b := v_seg ok hx.1
        rw [← e2, ← a] at b
        have : x ≠ v := fun z => nw (z ▸ k1)
        exact .inr ⟨e1.symm, by omega⟩
      · exact Iv_lx ok (τ := τ) (τ' := t) hx.1 i.1 (by omega)
    omega
theorem Sim.tk {D : Dat} (ok : DOk D) {T : Int} {p : Int → Int} (h : AE D T p) {F B : Int → Int → Prop} {s : St} {val : Int → Int → Int} (S : Sim D F B s val) {x τ : Int} (hx : inR D x τ) (N : Now D T p F B x τ) (kx : kdv D x = 5) : s.tak = TK D (tpos D x τ) := by
  have inn := Iv_n ok hx
  have tn := node_isTk ok hx kx
  refine S.t _ tn.2.1 (by omega) (fun u t i k => ?_)
  rw [tp_lx ok i hx k kx]
  constructor
  · intro z
    exact N.b2 u t i (chan_lx h (c := 5) (by decide) u x t τ i.1.1 i.1.2 hx.1.1 hx.1.2 k kx z)
  · intro z
    apply Classical.byContradiction
    intro w
    by_cases c : lx τ x t u
    · have := chan_lx h (c := 5) (by decide) x u τ t hx.1.1 hx.1.2 i.1.1 i.1.2 kx k c
      have := N.b1 u t i z
      omega
    · obtain ⟨e1, e2⟩ := tp_inj ok i hx k kx w c
      rw [e1, e2] at z
      exact N.n z
