/-! ===== the circuit: what holds while it goes on ===== -/
def inR (D : Dat) (v τ : Int) : Prop := (0 ≤ v ∧ v < nn D) ∧ (0 ≤ τ ∧ τ < BT D)
def NS (D : Dat) : Int := D.tur * D.cnt
/-- what a node has to give -/
def RV (D : Dat) (v τ : Int) : Int :=
  if (nd D v).2 = 0 then valS D (kv D v) 1 (iv D v τ) (sg D (Iv D v τ))
  else if (nd D v).2 = 1 then valS D (kv D v) 2 (iv D v τ) (tkS D (kv D v) 1 (sg D (Iv D v τ)))
  else RVn D (Iv D v τ)
def tpos (D : Dat) (u τ : Int) : Int := 2 * Iv D u τ + if (nd D u).2 = 1 then 1 else 0
def Sim (D : Dat) (F B : Int → Int → Prop) (s : St) (val : Int → Int → Int) : Prop := (StOk D s) ∧ (∀ v τ, inR D v τ → B v τ → val v τ = RV D v τ) ∧ (∀ r m, 0 ≤ r → r < 8 → 0 ≤ m → m ≤ NS D → (∀ v τ, inR D v τ → mkv D v = r → (Iv D v τ < m ↔ F v τ)) → s.reg r = (sg D m).reg r) ∧ (∀ a q m, 0 ≤ a → a < 2 → 0 ≤ q → q < 16 → 0 ≤ m → m ≤ NS D → (∀ v τ, inR D v τ → wrv D v → kdv D v = a + 3 → PLv D v τ = q → (Iv D v τ < m ↔ F v τ)) → s.mem a q = (sg D m).mem a q) ∧ (∀ m, 0 ≤ m → m ≤ NS D → (∀ v τ, inR D v τ → kdv D v = 6 → (Iv D v τ < m ↔ F v τ)) → s.outs = (sg D m).outs ∧ ∀ k, 0 ≤ k → k < s.outs → s.out k = (sg D m).out k) ∧ (∀ P, 0 ≤ P → P ≤ 2 * NS D → (∀ u τ, inR D u τ → kdv D u = 5 → (tpos D u τ < P ↔ B u τ)) → s.tak = TK D P) ∧ (s.tak ≤ 1000)
theorem Sim.ok {D : Dat} {F B : Int → Int → Prop} {s : St} {val : Int → Int → Int} (h0 : Sim D F B s val) : StOk D s := h0.1
theorem Sim.v {D : Dat} {F B : Int → Int → Prop} {s : St} {val : Int → Int → Int} (h0 : Sim D F B s val) : ∀ v τ, inR D v τ → B v τ → val v τ = RV D v τ := h0.2.1
theorem Sim.r {D : Dat} {F B : Int → Int → Prop} {s : St} {val : Int → Int → Int} (h0 : Sim D F B s val) : ∀ r m, 0 ≤ r → r < 8 → 0 ≤ m → m ≤ NS D → (∀ v τ, inR D v τ → mkv D v = r → (Iv D v τ < m ↔ F v τ)) → s.reg r = (sg D m).reg r := h0.2.2.1
theorem Sim.m {D : Dat} {F B : Int → Int → Prop} {s : St} {val : Int → Int → Int} (h0 : Sim D F B s val) : ∀ a q m, 0 ≤ a → a < 2 → 0 ≤ q → q < 16 → 0 ≤ m → m ≤ NS D → (∀ v τ, inR D v τ → wrv D v → kdv D v = a + 3 → PLv D v τ = q → (Iv D v τ < m ↔ F v τ)) → s.mem a q = (sg D m).mem a q := h0.2.2.2.1
theorem Sim.o {D : Dat} {F B : Int → Int → Prop} {s : St} {val : Int → Int → Int} (h0 : Sim D F B s val) : ∀ m, 0 ≤ m → m ≤ NS D → (∀ v τ, inR D v τ → kdv D v = 6 → (Iv D v τ < m ↔ F v τ)) → s.outs = (sg D m).outs ∧ ∀ k, 0 ≤ k → k < s.outs → s.out k = (sg D m).out k := h0.2.2.2.2.1
theorem Sim.t {D : Dat} {F B : Int → Int → Prop} {s : St} {val : Int → Int → Int} (h0 : Sim D F B s val) : ∀ P, 0 ≤ P → P ≤ 2 * NS D → (∀ u τ, inR D u τ → kdv D u = 5 → (tpos D u τ < P ↔ B u τ)) → s.tak = TK D P := h0.2.2.2.2.2.1
theorem Sim.tb {D : Dat} {F B : Int → Int → Prop} {s : St} {val : Int → Int → Int} (h0 : Sim D F B s val) : s.tak ≤ 1000 := h0.2.2.2.2.2.2
theorem Sim.mk {D : Dat} {F B : Int → Int → Prop} {s : St} {val : Int → Int → Int} (h0 : StOk D s) (h1 : ∀ v τ, inR D v τ → B v τ → val v τ = RV D v τ) (h2 : ∀ r m, 0 ≤ r → r < 8 → 0 ≤ m → m ≤ NS D → (∀ v τ, inR D v τ → mkv D v = r → (Iv D v τ < m ↔ F v τ)) → s.reg r = (sg D m).reg r) (h3 : ∀ a q m, 0 ≤ a → a < 2 → 0 ≤ q → q < 16 → 0 ≤ m → m ≤ NS D → (∀ v τ, inR D v τ → wrv D v → kdv D v = a + 3 → PLv D v τ = q → (Iv D v τ < m ↔ F v τ)) → s.mem a q = (sg D m).mem a q) (h4 : ∀ m, 0 ≤ m → m ≤ NS D → (∀ v τ, inR D v τ → kdv D v = 6 → (Iv D v τ < m ↔ F v τ)) → s.outs = (sg D m).outs ∧ ∀ k, 0 ≤ k → k < s.outs → s.out k = (sg D m).out k) (h5 : ∀ P, 0 ≤ P → P ≤ 2 * NS D → (∀ u τ, inR D u τ → kdv D u = 5 → (tpos D u τ < P ↔ B u τ)) → s.tak = TK D P) (h6 : s.tak ≤ 1000) : Sim D F B s val := ⟨h0, h1, h2, h3, h4, h5, h6⟩
theorem Sim.congr {D : Dat} {F B F' B' : Int → Int → Prop} {s : St} {val : Int → Int → Int} (S : Sim D F B s val) (hF : ∀ v τ, inR D v τ → (F v τ ↔ F' v τ)) (hB : ∀ v τ, inR D v τ → (B v τ ↔ B' v τ)) : Sim D F' B' s val :=
  ⟨S.ok, fun v τ i b => S.v v τ i ((hB v τ i).2 b), fun r m a b c d e => S.r r m a b c d (fun v τ i k => (e v τ i k).trans (hF v τ i).symm),
   fun a q m x1 x2 x3 x4 x5 x6 e => S.m a q m x1 x2 x3 x4 x5 x6 (fun v τ i k1 k2 k3 => (e v τ i k1 k2 k3).trans (hF v τ i).symm),
   fun m a b e => S.o m a b (fun v τ i k => (e v τ i k).trans (hF v τ i).symm),
   fun P a b e => S.t P a b (fun v τ i k => (e v τ i k).trans (hB v τ i).symm), S.tb⟩
theorem NS_b {D : Dat} (ok : DOk D) : 0 ≤ NS D ∧ NS D ≤ 192 ∧ BT D * SS D = NS D := by
  have b := BT_b ok
  have h := body_le ok
  refine ⟨h.1, h.2, ?_⟩
  unfold SS NS
  rw [← b.2.2, Int.mul_assoc, Int.mul_comm D.cnt]
theorem role_ex {D : Dat} {s q : Int} (hs : 0 ≤ s ∧ s < SS D) (hq : q ∈ rls D (s % D.cnt)) : ∃ v, 0 ≤ v ∧ v < nn D ∧ nd D v = (s, q) := by
  obtain ⟨j, hj⟩ := List.mem_iff_getElem?.1 hq
  obtain ⟨a, b, c⟩ := seg_at hs hj
  exact ⟨_, b, c, a⟩
/-- where a statement's turn stands -/
theorem n_at {D : Dat} (ok : DOk D) {n : Int} (h : 0 ≤ n ∧ n < NS D) : ∃ τ s, 0 ≤ τ ∧ τ < BT D ∧ 0 ≤ s ∧ s < SS D ∧ n = τ * SS D + s ∧ s % D.cnt = n % D.cnt := by
  have b := NS_b ok
  have bt := BT_b ok
  have s0 := SS_b ok
  have sp : 0 < SS D := by
    apply Classical.byContradiction
    intro c
    have : SS D = 0 := by omega
    rw [this, Int.mul_zero] at b
    omega
  have e := Int.mul_ediv_add_emod n (SS D)
  have m0 := Int.emod_nonneg n (show SS D ≠ 0 by omega)
  have m1 := Int.emod_lt_of_pos n sp
  refine ⟨n / SS D, n % SS D, Int.ediv_nonneg h.1 (by omega), Int.ediv_lt_of_lt_mul sp (by omega), m0, m1, by rw [Int.mul_comm]; omega, ?_⟩
  have d : D.cnt ∣ SS D := ⟨D.fac, rfl⟩
  exact Int.emod_emod_of_dvd n d
theorem st_node {D : Dat} (ok : DOk D) {n : Int} (h : 0 ≤ n ∧ n < NS D) : ∃ v τ, inR D v τ ∧ Lst D v ∧ Iv D v τ = n := by
  obtain ⟨τ, s, a, b, c, d, e, f⟩ := n_at ok h
  obtain ⟨v, v0, v1, v2, v3⟩ := lst_ex ok ⟨c, d⟩
  exact ⟨v, τ, ⟨⟨v0, v1⟩, a, b⟩, v3, by unfold Iv; rw [v2]; exact e.symm⟩
theorem rd_node {D : Dat} (ok : DOk D) {n q : Int} (h : 0 ≤ n ∧ n < NS D) (hq : q ∈ rls D (n % D.cnt)) : ∃ v τ, inR D v τ ∧ (nd D v).2 = q ∧ Iv D v τ = n := by
  obtain ⟨τ, s, a, b, c, d, e, f⟩ := n_at ok h
  obtain ⟨v, v0, v1, v2⟩ := role_ex (D := D) ⟨c, d⟩ (by rw [f]; exact hq)
  exact ⟨v, τ, ⟨⟨v0, v1⟩, a, b⟩, by rw [v2], by unfold Iv sv'; rw [v2]; exact e.symm⟩
theorem kd6 {D : Dat} (ok : DOk D) {v : Int} (h : 0 ≤ v ∧ v < nn D) (e : kdv D v = 6) : (nd D v).2 = 3 ∧ D.F (kv D v) 0 = 6 := by
  obtain ⟨h1, h2, h3, h4, h5⟩ := nd_ok ok h
  have so := ok.st _ h3 h4
  have f1 := so.f1
  have f2 := so.f2
  have o := opk_r (D.O (stK D (nd D v)))
  unfold kdv kdN at e
  unfold kv
  rcases rls_mem h5 with q | q | q | q | q
  · rw [if_pos q.1] at e; omega
  · rw [if_neg (by omega), if_pos q.1] at e; omega
  · rw [if_neg (by omega), if_neg (by omega), if_pos q.1] at e; omega
  · rw [if_neg (by omega), if_neg (by omega), if_neg (by omega), if_pos q.1] at e; exact ⟨q.1, e⟩
  · rw [if_neg (by omega), if_neg (by omega), if_neg (by omega), if_neg (by omega)] at e; omega
theorem kd5 {D : Dat} (ok : DOk D) {v : Int} (h : 0 ≤ v ∧ v < nn D) (e : kdv D v = 5) : ((nd D v).2 = 0 ∧ D.F (kv D v) 1 = 5) ∨ ((nd D v).2 = 1 ∧ D.O (kv D v) ≠ 32 ∧ D.F (kv D v) 2 = 5) := by
  obtain ⟨h1, h2, h3, h4, h5⟩ := nd_ok ok h
  have so := ok.st _ h3 h4
  have f0 := so.f0
  have o := opk_r (D.O (stK D (nd D v)))
  unfold kdv kdN at e
  unfold kv
  rcases rls_mem h5 with q | q | q | q | q
  · rw [if_pos q.1] at e; exact .inl ⟨q.1, e⟩
  · rw [if_neg (by omega), if_pos q.1] at e; exact .inr ⟨q.1, q.2.1, e⟩
  · rw [if_neg (by omega), if_neg (by omega), if_pos q.1] at e; omega
  · rw [if_neg (by omega), if_neg (by omega), if_neg (by omega), if_pos q.1] at e; omega
  · rw [if_neg (by omega), if_neg (by omega), if_neg (by omega), if_neg (by omega)] at e; omega
theorem wr_lst {D : Dat} (ok : DOk D) {v : Int} (h : 0 ≤ v ∧ v < nn D) (e : (nd D v).2 = 3) : Lst D v := (lst_mk ok h).2 (.inl e)
theorem lst3 {D : Dat} {v : Int} (l : Lst D v) (f : D.F (kv D v) 0 ≠ 0) : (nd D v).2 = 3 ∧ kdv D v = D.F (kv D v) 0 := by
  unfold Lst lrl at l
  rw [if_pos f] at l
  refine ⟨l, ?_⟩
  unfold kdv kdN kv
  rw [if_neg (by omega), if_neg (by omega), if_neg (by omega), if_pos l]
theorem wr_kd {D : Dat} {v : Int} (l : (nd D v).2 = 3) : kdv D v = D.F (kv D v) 0 := by
  unfold kdv kdN kv
  rw [if_neg (by omega), if_neg (by omega), if_neg (by omega), if_pos l]
theorem lst_reg {D : Dat} (ok : DOk D) {v : Int} (h : 0 ≤ v ∧ v < nn D) (l : Lst D v) (f : D.F (kv D v) 0 = 0) : mkv D v = D.N (kv D v) 0 := by
  have n3 : (nd D v).2 ≠ 3 := by
    intro z
    obtain ⟨h1, h2, h3, h4, h5⟩ := nd_ok ok h
    rcases rls_mem h5 with q | q | q | q | q
    · omega
    · omega
    · omega
    · exact q.2 f
    · omega
  have m := (lst_mk ok h).1 l
  rcases m with m | m
  · exact absurd m n3
  · unfold mkv mkN at m ⊢
    split at m
    · rename_i c; rw [if_pos c]; rfl
    · exact absurd rfl m
theorem mk_reg {D : Dat} {v r : Int} (h : mkv D v = r) (hr : 0 ≤ r) : D.F (kv D v) 0 = 0 ∧ D.N (kv D v) 0 = r := by
  unfold mkv mkN at h
  split at h
  · rename_i c; exact ⟨c.1, h⟩
  · omega
theorem mk_lst {D : Dat} (ok : DOk D) {v r : Int} (hv : 0 ≤ v ∧ v < nn D) (h : mkv D v = r) (hr : 0 ≤ r) : Lst D v := (lst_mk ok hv).2 (.inr (by omega))
theorem RV_lst {D : Dat} (ok : DOk D) {v τ : Int} (h : 0 ≤ v ∧ v < nn D) (l : Lst D v) : RV D v τ = RVn D (Iv D v τ) := by
  have k := Iv_k ok (τ := τ) h
  unfold RV
  by_cases q0 : (nd D v).2 = 0
  · rw [if_pos q0]
    unfold RVn
    rw [k.1, k.2]
    have : D.O (kv D v) = 32 := by
      rcases (lst_mk ok h).1 l with z | z
      · omega
      · unfold mkv mkN at z
        split at z
        · rename_i c
          rcases c.2 with w | w | w
          · omega
          · omega
          · exact w.2
        · exact absurd rfl z
    rw [if_pos this]
  · rw [if_neg q0]
    by_cases q1 : (nd D v).2 = 1
    · exfalso
      unfold Lst lrl at l
      rw [q1] at l
      split at l
      · omega
      split at l
      · omega
      split at l <;> omega
    · rw [if_neg q1]
theorem sg_ok {D : Dat} (ok : DOk D) (n : Int) (hc : 0 < D.cnt) : StOk D (sg D n) := run_ok ok _ hc
theorem RVn_cut {D : Dat} (ok : DOk D) {n : Int} (hc : 0 < D.cnt) : isCut D (RVn D n) := by
  have hk : 0 ≤ n % D.cnt ∧ n % D.cnt < D.cnt := ⟨Int.emod_nonneg _ (by omega), Int.emod_lt_of_pos _ hc⟩
  unfold RVn
  split
  · exact val_cut ok hk (by decide) (sg_ok ok n hc)
  · exact isCut_cut ok _
theorem PL_plc {D : Dat} (ok : DOk D) {v τ : Int} (h : 0 ≤ v ∧ v < nn D) (hm : isMem D v) : PLv D v τ = plc (D.T (kv D v) (plN (nd D v))) (D.N (kv D v) (plN (nd D v))) (iv D v τ) := by
  have ro := mem_role ok h hm
  have tn := mem_tn ok h hm
  have c : (nd D v).2 = 0 ∨ (nd D v).2 = 1 ∨ (nd D v).2 = 3 := ro
  unfold PLv fpN
  unfold tnN at tn ⊢
  rw [if_pos c] at tn ⊢
  rw [if_pos c]
  unfold plc iv kv sv'
  generalize D.T (stK D (nd D v)) (plN (nd D v)) = a at *
  rcases tn with t | t
  · rw [t]; simp
  · rw [t]; simp; omega
