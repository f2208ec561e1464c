/-! ===== statements and their nodes ===== -/
def sv' (D : Dat) (v : Int) : Int := (nd D v).1
def kv (D : Dat) (v : Int) : Int := stK D (nd D v)
def SS (D : Dat) : Int := D.cnt * D.fac
/-- the number of a statement's turn, and its i -/
def Iv (D : Dat) (v τ : Int) : Int := τ * SS D + sv' D v
def iv (D : Dat) (v τ : Int) : Int := D.fac * τ + sv' D v / D.cnt
theorem sv_r {D : Dat} (ok : DOk D) {v : Int} (h : 0 ≤ v ∧ v < nn D) : 0 ≤ sv' D v ∧ sv' D v < SS D ∧ 0 < D.cnt ∧ 0 ≤ kv D v ∧ kv D v < D.cnt := by
  obtain ⟨j, a, b, c, d⟩ := seg_of ok h
  obtain ⟨e1, e2, e3, e4, e5⟩ := nd_ok ok h
  exact ⟨c, d, by omega, e3, e4⟩
theorem SS_b {D : Dat} (ok : DOk D) : 0 ≤ SS D ∧ SS D ≤ 24 := ⟨Int.mul_nonneg ok.cnt.1 (by have := ok.fac; omega), ok.body⟩
theorem Iv_k {D : Dat} (ok : DOk D) {v τ : Int} (h : 0 ≤ v ∧ v < nn D) : Iv D v τ % D.cnt = kv D v ∧ Iv D v τ / D.cnt = iv D v τ := by
  have s := sv_r ok h
  have e : Iv D v τ = sv' D v + D.fac * τ * D.cnt := by
    unfold Iv SS
    rw [show τ * (D.cnt * D.fac) = D.fac * τ * D.cnt by rw [Int.mul_comm τ, Int.mul_assoc D.cnt, Int.mul_comm D.cnt]]
    omega
  rw [e, Int.add_mul_emod_self_right, Int.add_mul_ediv_right _ _ (by omega)]
  refine ⟨rfl, ?_⟩
  unfold iv
  omega
theorem Iv_r {D : Dat} (ok : DOk D) {v τ : Int} (h : 0 ≤ v ∧ v < nn D) (ht : 0 ≤ τ ∧ τ < BT D) : 0 ≤ Iv D v τ ∧ Iv D v τ < D.tur * D.cnt := by
  have s := sv_r ok h
  have b := BT_b ok
  have e : BT D * SS D = D.tur * D.cnt := by
    unfold SS
    rw [← b.2.2, Int.mul_assoc, Int.mul_comm D.cnt]
  have m0 : 0 ≤ τ * SS D := Int.mul_nonneg ht.1 (by omega)
  have m1 : (τ + 1) * SS D ≤ BT D * SS D := Int.mul_le_mul_of_nonneg_right (by omega) (by omega)
  rw [Int.add_mul, e] at m1
  unfold Iv
  omega
theorem iv_r {D : Dat} (ok : DOk D) {v τ : Int} (h : 0 ≤ v ∧ v < nn D) (ht : 0 ≤ τ ∧ τ < BT D) : 0 ≤ iv D v τ ∧ iv D v τ ≤ 100 := by
  have s := sv_r ok h
  have b := BT_b ok
  have f := ok.fac
  have t := ok.tur
  have ss := SS_b ok
  have q0 : 0 ≤ sv' D v / D.cnt := Int.ediv_nonneg s.1 (by omega)
  have q1 : sv' D v / D.cnt ≤ sv' D v := Int.ediv_le_self _ s.1
  have m0 : 0 ≤ D.fac * τ := Int.mul_nonneg (by omega) ht.1
  have m1 : D.fac * τ ≤ D.fac * BT D := Int.mul_le_mul_of_nonneg_left (by omega) (by omega)
  rw [Int.mul_comm D.fac (BT D)] at m1
  unfold iv
  omega
theorem bs_s {D : Dat} {s : Int} (h : 0 ≤ s) : bs D (s + 1) = bs D s + (rls D (s % D.cnt)).length := by
  unfold bs
  rw [show (s + 1).toNat = s.toNat + 1 by omega]
  show (((ndl D s.toNat ++ (rls D (((s.toNat : Nat) : Int) % D.cnt)).map (fun q => (((s.toNat : Nat) : Int), q))).length : Nat) : Int) = _
  rw [List.length_append, List.length_map, show ((s.toNat : Nat) : Int) = s by omega]
  omega
theorem bs_mono {D : Dat} {s t : Int} (h : 0 ≤ s) (l : s ≤ t) : bs D s ≤ bs D t := by
  have key : ∀ k : Nat, bs D s ≤ bs D (s + k) := by
    intro k
    induction k with
    | zero => rw [show s + ((0 : Nat) : Int) = s by omega]; exact Int.le_refl _
    | succ k ih =>
      rw [show s + ((k + 1 : Nat) : Int) = s + k + 1 by omega, bs_s (by omega)]
      omega
  have := key (t - s).toNat
  rw [show s + ((t - s).toNat : Int) = t by omega] at this
  exact this
theorem v_seg {D : Dat} (ok : DOk D) {v : Int} (h : 0 ≤ v ∧ v < nn D) : bs D (sv' D v) ≤ v ∧ v < bs D (sv' D v + 1) := by
  obtain ⟨j, a, b, c, d⟩ := seg_of ok h
  have l := get_lt b
  have e := bs_s (D := D) (s := sv' D v) c
  have ek : stK D (nd D v) = sv' D v % D.cnt := rfl
  rw [ek] at l
  have a' : v = bs D (sv' D v) + j := a
  omega
theorem sv_mono {D : Dat} (ok : DOk D) {u v : Int} (hu : 0 ≤ u ∧ u < nn D) (hv : 0 ≤ v ∧ v < nn D) (l : u ≤ v) : sv' D u ≤ sv' D v := by
  apply Classical.byContradiction
  intro c
  have a := v_seg ok hu
  have b := v_seg ok hv
  have m := bs_mono (D := D) (s := sv' D v + 1) (t := sv' D u) (by have := (sv_r ok hv).1; omega) (by omega)
  omega
theorem Iv_lx {D : Dat} (ok : DOk D) {a b τ τ' : Int} (ha : 0 ≤ a ∧ a < nn D) (hb : 0 ≤ b ∧ b < nn D) (l : Iv D a τ < Iv D b τ') : lx τ a τ' b := by
  have sa := sv_r ok ha
  have sb := sv_r ok hb
  unfold Iv at l
  rcases Int.lt_trichotomy τ τ' with z | z | z
  · exact .inl z
  · refine .inr ⟨z, Classical.byContradiction fun w => ?_⟩
    have := sv_mono ok hb ha (by omega)
    rw [z] at l
    omega
  · have m := Int.mul_le_mul_of_nonneg_right (show τ' + 1 ≤ τ by omega) (show 0 ≤ SS D by omega)
    rw [Int.add_mul] at m
    omega
theorem lx_Iv {D : Dat} (ok : DOk D) {a b τ τ' : Int} (ha : 0 ≤ a ∧ a < nn D) (hb : 0 ≤ b ∧ b < nn D) (l : lx τ a τ' b) : Iv D a τ ≤ Iv D b τ' := by
  have sa := sv_r ok ha
  have sb := sv_r ok hb
  unfold Iv
  rcases l with z | ⟨z, w⟩
  · have m := Int.mul_le_mul_of_nonneg_right (show τ + 1 ≤ τ' by omega) (show 0 ≤ SS D by omega)
    rw [Int.add_mul] at m
    omega
  · have := sv_mono ok ha hb (by omega)
    rw [z]
    omega
/-- one turn of one statement -/
theorem Iv_inj {D : Dat} (ok : DOk D) {a b τ τ' : Int} (ha : 0 ≤ a ∧ a < nn D) (hb : 0 ≤ b ∧ b < nn D) (e : Iv D a τ = Iv D b τ') : τ = τ' ∧ sv' D a = sv' D b := by
  have sa := sv_r ok ha
  have sb := sv_r ok hb
  unfold Iv at e
  rcases Int.lt_trichotomy τ τ' with z | z | z
  · have m := Int.mul_le_mul_of_nonneg_right (show τ + 1 ≤ τ' by omega) (show 0 ≤ SS D by omega)
    rw [Int.add_mul] at m
    omega
  · rw [z] at e
    exact ⟨z, by omega⟩
  · have m := Int.mul_le_mul_of_nonneg_right (show τ' + 1 ≤ τ by omega) (show 0 ≤ SS D by omega)
    rw [Int.add_mul] at m
    omega
/-- the last part of a statement -/
def lrl (D : Dat) (k : Int) : Int := if D.F k 0 ≠ 0 then 3 else if D.O k ≠ 32 then 2 else if isRd (D.F k 1) then 0 else 4
theorem rls_last (D : Dat) (k : Int) : ∃ l, rls D k = l ++ [lrl D k] := by
  unfold rls lrl
  by_cases f : D.F k 0 = 0
  · rw [if_pos f, if_neg (show ¬ D.F k 0 ≠ 0 from fun z => z f)]
    by_cases o : D.O k = 32
    · rw [if_pos o, if_neg (show ¬ D.O k ≠ 32 from fun z => z o)]
      by_cases r : isRd (D.F k 1)
      · rw [if_pos r, if_neg (show ¬ (D.O k = 32 ∧ ¬ isRd (D.F k 1)) from fun z => z.2 r), if_pos r]; exact ⟨[], rfl⟩
      · rw [if_neg r, if_pos (show D.O k = 32 ∧ ¬ isRd (D.F k 1) from ⟨o, r⟩), if_neg r]; exact ⟨[], rfl⟩
    · rw [if_neg o, if_pos (show D.O k ≠ 32 from o), if_neg (show ¬ (D.O k = 32 ∧ ¬ isRd (D.F k 1)) from fun z => o z.1), List.append_nil]
      exact ⟨(if isRd (D.F k 1) then [0] else []) ++ (if isRd (D.F k 2) then [1] else []), by rw [List.append_assoc]⟩
  · rw [if_neg f, if_pos (show D.F k 0 ≠ 0 from f)]
    exact ⟨(if isRd (D.F k 1) then [0] else []) ++ (if D.O k = 32 then [] else (if isRd (D.F k 2) then [1] else []) ++ [2]), by rw [List.append_assoc]⟩
def Lst (D : Dat) (v : Int) : Prop := (nd D v).2 = lrl D (kv D v)
theorem lst_ex {D : Dat} (ok : DOk D) {s : Int} (h : 0 ≤ s ∧ s < SS D) : ∃ v, 0 ≤ v ∧ v < nn D ∧ sv' D v = s ∧ Lst D v := by
  obtain ⟨l, e⟩ := rls_last D (s % D.cnt)
  have hj : (rls D (s % D.cnt))[l.length]? = some (lrl D (s % D.cnt)) := by rw [e]; simp
  obtain ⟨a, b, c⟩ := seg_at h hj
  refine ⟨_, b, c, by unfold sv'; rw [a], ?_⟩
  unfold Lst kv stK
  rw [a]
theorem lst_uniq {D : Dat} (ok : DOk D) {u v : Int} (hu : 0 ≤ u ∧ u < nn D) (hv : 0 ≤ v ∧ v < nn D) (e : sv' D u = sv' D v) (a : Lst D u) (b : Lst D v) : u = v := by
  refine nd_inj hu hv (Prod.ext e ?_)
  have : kv D u = kv D v := by unfold kv stK; unfold sv' at e; rw [e]
  rw [a, b, this]
theorem nodup_last {α : Type} {l : List α} {x : α} (h : (l ++ [x]).Nodup) {j : Nat} (e : (l ++ [x])[j]? = some x) : j = l.length := by
  have hl := get_lt e
  have e2 : (l ++ [x])[l.length]? = some x := by simp
  exact (List.getElem?_inj hl h).1 (by rw [e, e2])
theorem lst_iff {D : Dat} (ok : DOk D) {v : Int} (h : 0 ≤ v ∧ v < nn D) : Lst D v ↔ v + 1 = bs D (sv' D v + 1) := by
  obtain ⟨j, a, b, c, d⟩ := seg_of ok h
  have e := bs_s (D := D) (s := sv' D v) c
  have ek : stK D (nd D v) = sv' D v % D.cnt := rfl
  rw [ek] at b
  have a' : v = bs D (sv' D v) + j := a
  have nd' := rls_nodup (D := D) (k := sv' D v % D.cnt)
  obtain ⟨l, el⟩ := rls_last D (sv' D v % D.cnt)
  rw [el] at b e nd'
  rw [List.length_append, List.length_singleton] at e
  unfold Lst kv
  rw [ek]
  constructor
  · intro z
    rw [z] at b
    have := nodup_last nd' b
    omega
  · intro z
    have : j = l.length := by omega
    rw [this] at b
    simp at b
    exact b.symm
theorem bs_end {D : Dat} (ok : DOk D) : bs D (SS D) = nn D := rfl
/-- as the reference sees it -/
theorem lst_next {D : Dat} (ok : DOk D) {v : Int} (h : 0 ≤ v ∧ v < nn D) : Lst D v ↔ v + 1 = nn D ∨ (nd D (v + 1)).1 ≠ (nd D v).1 := by
  rw [lst_iff ok h]
  have s := sv_r ok h
  have a := v_seg ok h
  constructor
  · intro z
    by_cases c : v + 1 = nn D
    · exact .inl c
    · refine .inr (fun w => ?_)
      have b := v_seg ok (v := v + 1) ⟨by omega, by omega⟩
      have : sv' D (v + 1) = sv' D v := w
      rw [this] at b
      omega
  · rintro (z | z)
    · have m := bs_mono (D := D) (s := sv' D v + 1) (t := SS D) (by omega) (by omega)
      rw [bs_end ok] at m
      omega
    · by_cases c : v + 1 = nn D
      · have m := bs_mono (D := D) (s := sv' D v + 1) (t := SS D) (by omega) (by omega)
        rw [bs_end ok] at m
        omega
      · have b := v_seg ok (v := v + 1) ⟨by omega, by omega⟩
        have sb := sv_r ok (v := v + 1) ⟨by omega, by omega⟩
        have mo := sv_mono ok h (v := v + 1) ⟨by omega, by omega⟩ (by omega)
        have ne : sv' D (v + 1) ≠ sv' D v := z
        have m := bs_mono (D := D) (s := sv' D v + 1) (t := sv' D (v + 1)) (by omega) (by omega)
        omega
/-- as the class sees it -/
theorem lst_mk {D : Dat} (ok : DOk D) {v : Int} (h : 0 ≤ v ∧ v < nn D) : Lst D v ↔ (nd D v).2 = 3 ∨ mkv D v ≠ -1 := by
  obtain ⟨h1, h2, h3, h4, h5⟩ := nd_ok ok h
  have n0 := (ok.st _ h3 h4).n0 0 (by decide) (by decide)
  unfold Lst lrl mkv mkN kv
  have ro := rls_mem h5
  by_cases f : D.F (stK D (nd D v)) 0 = 0
  · have := n0 f
    rw [if_neg (by omega)]
    by_cases o : D.O (stK D (nd D v)) = 32
    · rw [if_neg (by omega)]
      by_cases r : isRd (D.F (stK D (nd D v)) 1)
      · rw [if_pos r]
        rcases ro with q | q | q | q | q
        · rw [if_pos ⟨f, .inr (.inr ⟨q.1, o⟩)⟩]; exact ⟨fun _ => .inr (by omega), fun _ => q.1⟩
        · exact absurd o q.2.1
        · exact absurd o q.2
        · exact absurd f q.2
        · exact absurd r q.2.2.2
      · rw [if_neg r]
        rcases ro with q | q | q | q | q
        · exact absurd q.2 r
        · exact absurd o q.2.1
        · exact absurd o q.2
        · exact absurd f q.2
        · rw [if_pos ⟨f, .inr (.inl q.1)⟩]; exact ⟨fun _ => .inr (by omega), fun _ => q.1⟩
    · rw [if_pos o]
      rcases ro with q | q | q | q | q
      · rw [if_neg (fun z => by rcases z.2 with w | w | w <;> omega)]; omega
      · rw [if_neg (fun z => by rcases z.2 with w | w | w <;> omega)]; omega
      · rw [if_pos ⟨f, .inl q.1⟩]; exact ⟨fun _ => .inr (by omega), fun _ => q.1⟩
      · exact absurd f q.2
      · exact absurd q.2.2.1 o
  · rw [if_pos f, if_neg (fun z => f z.1)]
    omega
