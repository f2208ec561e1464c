/-! ===== the circuit: the class ===== -/
theorem tmul_inj {T a b : Int} (h : 1 ≤ T) (e : T * a = T * b) : a = b := Int.eq_of_mul_eq_mul_left (by omega) e
theorem turnAfter_w {D : Dat} (ok : DOk D) {i r : MI} {since T : Int} {Q : Int → Prop} (hT : 1 ≤ T ∧ T ≤ 481) (hs : -200000 ≤ since ∧ since ≤ 200000) (h1 : ∀ τ, 0 ≤ τ → τ < BT D → since = T * τ → Q τ) (h0 : (∀ τ, 0 ≤ τ → τ < BT D → since ≠ T * τ) → Q (-1)) : wp_X1_turnAfter since T (BT D) i r Q := by
  have b := BT_b ok
  unfold wp_X1_turnAfter s15_X1_turnAfter s31_X1_turnAfter
  refine ⟨fun q => h0 (fun τ a _ e => ?_), fun q => ⟨fun q1 => by omega, fun _ => ⟨by omega, fun q2 => ⟨by omega, ?_⟩, fun q2 => h0 (fun τ a _ e => ?_)⟩⟩⟩
  · have := Int.mul_nonneg (show 0 ≤ T by omega) a
    omega
  · rw [Int.tmod_eq_emod_of_nonneg (by omega)] at q2
    have e := Int.mul_ediv_add_emod since T
    rw [q2, Int.add_zero] at e
    have n0 : 0 ≤ since / T := Int.ediv_nonneg (by omega) (by omega)
    have n1 : since / T ≤ since := Int.ediv_le_self _ (by omega)
    rw [Int.tdiv_eq_ediv_of_nonneg (by omega), wr_of (x := since / T) (by omega) (by omega)]
    refine ⟨fun q3 => h0 (fun τ a c z => ?_), fun q3 => h1 _ n0 (by omega) e.symm⟩
    have := tmul_inj hT.1 (e.trans z)
    omega
  · rw [e, Int.mul_tmod_right] at q2
    exact q2 rfl
def FTn (i i' : MI) : Prop := ∀ a, (a < 481 ∨ 487 < a) → i' a = i a
theorem FTn.refl (i : MI) : FTn i i := fun _ _ => rfl
theorem FTn.trans {i j k : MI} (h : FTn i j) (g : FTn j k) : FTn i k := fun a x => (g a x).trans (h a x)
theorem FTn.s7 {k v : Int} {i : MI} : FTn i (st i 487 k v) := fun b x => st_row (by omega)
theorem FS.ft {i i' : MI} (h : FS 481 i i') : FTn i i' := fun a x => h a (by omega)
theorem FTn.fl {i i' : MI} (h : FTn i i') : ∀ a, a < 462 → i' a = i a := fun a x => h a (by omega)
theorem ClassP.ft {D : Dat} {i i' r : MI} (h : ClassP D i r) (g : FTn i i') : ClassP D i' r := by
  refine h.congr ?_ ?_ ?_ ?_ ?_ ?_ ?_ ?_ ?_ ?_ rfl rfl
  all_goals (intros; rw [g _ (by omega)])
theorem vfrom_w {D : Dat} (ok : DOk D) {i r : MI} {v τ : Int} {Q : Int → Prop} (h : inR D v τ) (hQ : Q (i 487 (16 * v + τ))) : wp_X1_valueFrom v τ i r Q := by
  have b := BT_b ok
  have nl := nn_le ok
  have h1 : 0 ≤ v ∧ v < nn D := h.1
  have h2 : 0 ≤ τ ∧ τ < BT D := h.2
  unfold wp_X1_valueFrom
  rw [wr_of (x := v * 16) (by omega) (by omega), wr_of (x := v * 16 + τ) (by omega) (by omega), show v * 16 + τ = 16 * v + τ by omega]
  exact ⟨by omega, hQ⟩
theorem xiv {D : Dat} (ok : DOk D) {i r : MI} {v τ : Int} (hP : ClassP D i r) (hv : NV D i) (h : inR D v τ) : wr (wr (i 3 8 * τ) + i (72 + v) 2) = iv D v τ := by
  have b := iv_r ok h.1 h.2
  have s := sv_r ok h.1
  have h2 : 0 ≤ τ ∧ τ < BT D := h.2
  have bt := BT_b ok
  have f := ok.fac
  have m0 : 0 ≤ D.fac * τ := Int.mul_nonneg (by omega) h2.1
  have q0 : 0 ≤ sv' D v / D.cnt := Int.ediv_nonneg s.1 (by omega)
  have e2 : i (72 + v) 2 = sv' D v / D.cnt := hv.a v 2 h.1.1 h.1.2 (by decide) (by decide)
  unfold iv at b ⊢
  rw [hP.fac, e2, wr_of (x := D.fac * τ) (by omega) (by omega), wr_of (x := D.fac * τ + sv' D v / D.cnt) (by omega) (by omega)]
def NR (D : Dat) (r : MI) : Prop := ∀ v, 0 ≤ v → v < nn D → r (72 + v) 0 = r 4 (kv D v)
theorem M1.nr {D : Dat} {i r : MI} (m : M1 D i r) : NR D r := by
  intro v v0 v1
  have hg := nd_get (D := D) (v := v.toNat) (by omega)
  rw [show ((v.toNat : Nat) : Int) = v by omega] at hg
  have hG : (GA D (r 4) (nds D))[v.toNat]? = some (r 4 (stK D (nd D v)), att D (v.toNat : Int) (nd D v)) := by
    unfold GA
    rw [List.getElem?_map, List.getElem?_zipIdx, hg]
    simp
  have := (m.g _ _ _ hG).1
  rw [show ((v.toNat : Nat) : Int) = v by omega] at this
  exact this
theorem ref_ne {D : Dat} {i r : MI} (h : ClassP D i r) {k : Int} (hk : 0 ≤ k ∧ k < D.cnt) : ¬ r 4 k = 0 := by
  have c := h.c12
  have := stm_rng (h.rf.s k hk.1 (by omega))
  omega
theorem xfinish_w {D : Dat} (ok : DOk D) {i r : MI} {x τ : Int} {s : St} {Q : MI → Prop} (hP : ClassP D i r) (hv : NV D i) (nr : NR D r) (h : inR D x τ) (hs : CSt D 481 i s) (so : StOk D s) (hout : Lst D x → D.F (kv D x) 0 = 6 → s.outs < 192)
    (hL : Lst D x → ∀ i', FS 481 i i' → CSt D 481 i' (wriS D (kv D x) (iv D x τ) (i 487 (16 * x + τ)) s) → Q i') (hN : ¬ Lst D x → Q i) : wp_X1_finish (72 + x) x τ i r Q := by
  have h1 : 0 ≤ x ∧ x < nn D := h.1
  have h2 : 0 ≤ τ ∧ τ < BT D := h.2
  have kr := sv_r ok h1
  have b := iv_r ok h.1 h.2
  have e12 : i (72 + x) 12 = if (nd D x).2 = 3 then 1 else 0 := hv.a x 12 h1.1 h1.2 (by decide) (by decide)
  have e8 : i (72 + x) 8 = mkv D x := hv.mk8 h1
  have lm := lst_mk ok h1
  unfold wp_X1_finish s56_X1_finish s21_X1_finish
  rw [xiv ok hP hv h, nr x h1.1 h1.2, e8]
  have go : Lst D x → (¬ r 4 (kv D x) = 0 ∧ wp_X1_valueFrom x τ i r (fun v2 => wp_X6_write (r 4 (kv D x)) (iv D x τ) v2 481 i r (fun i10 => Q i10))) := fun l =>
    ⟨ref_ne hP ⟨kr.2.2.2.1, kr.2.2.2.2⟩, vfrom_w ok h (write_w hP ok ⟨kr.2.2.2.1, kr.2.2.2.2⟩ ⟨b.1, by omega⟩ (.inr rfl) hs so (hout l) (hL l))⟩
  refine ⟨fun q => by omega, fun _ => ⟨fun q => ⟨fun q2 => hN (fun l => ?_), fun q2 => go (lm.2 (.inr q2))⟩, fun q => go (lm.2 (.inl ?_))⟩⟩
  · rcases lm.1 l with z | z
    · rw [e12, if_pos z] at q; omega
    · exact z q2
  · rw [e12] at q
    split at q
    · assumption
    · exact absurd rfl q
