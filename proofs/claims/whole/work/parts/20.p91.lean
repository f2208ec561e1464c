/-! ===== the cases: figures ===== -/
theorem nan_ok {n m : Int} (hs : sR m) (hm : ¬ m = 0) : vf_n64 (FP.f2d (FP.fdiv (FP.i2f (sJ n)) (FP.i2f (sJ m)))) := by
  have h1 := FP.Core.i2f_mag (sJ n)
  have h2 := FP.Core.i2f_big (v := sJ m) (by rw [sJ_toInt hs]; exact hm)
  have h3 := FP.Core.fdiv_mag (K := 160) (L := 127) h1 h2.1 h2.2 (by decide) (by decide)
  have h4 : FP.Core.fIsNaN (FP.fdiv (FP.i2f (sJ n)) (FP.i2f (sJ m))) = false := by
    rw [← Bool.not_eq_true, FP.Core.isNaN_bits32]
    show ¬ 2139095040 < (FP.Core.fdiv (FP.Core.i2f (sJ n)) (FP.Core.i2f (sJ m))).toNat % 2 ^ 31
    omega
  have h5 : FP.Core.dIsNaN (FP.f2d (FP.fdiv (FP.i2f (sJ n)) (FP.i2f (sJ m)))) = false := (FP.f2d_nan _).trans h4
  rw [← Bool.not_eq_true, FP.Core.isNaN_bits] at h5
  unfold vf_n64
  rw [UInt64.le_iff_toNat_le, UInt64.toNat_and]
  rw [show (9223372036854775807 : UInt64).toNat = 2 ^ 63 - 1 from rfl, Nat.and_two_pow_sub_one_eq_mod]
  rw [show (9218868437227405312 : UInt64).toNat = 9218868437227405312 from rfl]
  omega
theorem nan_cmp {x : UInt64} (h : vf_n64 x) : (Op.cmpValue (FP.dcmp x x) .l).toInt = 0 := by
  have h1 : FP.Core.val64 x ≠ .nan := by
    intro z
    have z2 := (FP.Core.dIsNaN_iff x).2 z
    rw [FP.Core.isNaN_bits] at z2
    unfold vf_n64 at h
    rw [UInt64.le_iff_toNat_le, UInt64.toNat_and] at h
    rw [show (9223372036854775807 : UInt64).toNat = 2 ^ 63 - 1 from rfl, Nat.and_two_pow_sub_one_eq_mod] at h
    rw [show (9218868437227405312 : UInt64).toNat = 9218868437227405312 from rfl] at h
    omega
  rw [show FP.dcmp x x = some .eq from FP.Core.dcmp_self h1]
  rfl
theorem mplaceAll2_w {D : Dat} (ok : DOk D) {i r : MI} {Q : Int → MI → Prop} (h : ModelP D i) (hQ : ∀ T i1 m, FU i i1 → FY i1 m → ME D m → IsInt D T → PlU D T (m 532) (nn D) → m 531 = i 531 → Q T m) : wp_X12_placeAll i r Q := by
  have s4 := sum480 ok
  have ub := uT_b ok
  unfold wp_X12_placeAll
  refine mbuild_w ok h (fun i1 f1 e1 => rings_w ok e1 (fun R m1 g1 hR => ?_))
  have rl := ring_le ok hR
  have r1 := hR.1
  have e2 := e1.fy g1.fy
  refine mbyUnits_w ok e2 ?_
  refine Lp.r2 (fun (T : Int) (m : MI) => max R (uT D) ≤ T ∧ T ≤ 480 ∧ G2 m1 m ∧ ∀ c, max R (uT D) ≤ c → c < T → ¬ CanP D c) (fun T _ => (480 - T).toNat) ?_ ⟨Int.le_refl _, by omega, G2.refl m1, fun c a b => by omega⟩
  intro T m C ⟨t0, t1, f, no⟩ hC
  dsimp only [b16_X12_placeAll]
  refine canPlace_w ok (e2.fy f.fy) (by omega) (fun m2 f2 p2 => ⟨fun q => absurd q (by decide), fun _ => ?_⟩) (fun m2 f2 n2 l2 => ⟨fun _ => ?_, fun q => absurd rfl q⟩)
  · exact hQ T i1 m2 f1 (g1.fy.trans (f.fy.trans f2.fy)) (e2.fy (f.fy.trans f2.fy)) ⟨R, hR, t0, t1, ⟨_, p2⟩, no⟩ p2 (by rw [f2 531 (by decide), f 531 (by decide), g1 531 (by decide), f1.i 531 (by decide) (by decide)])
  · rw [wr_of (x := T + 1) (by omega) (by omega)]
    refine hC _ _ ⟨by omega, by omega, f.trans f2, fun c a b => ?_⟩ (by omega)
    by_cases z : c = T
    · rw [z]; exact n2
    · exact no c a (by omega)
def cks (ls p : Int → Int) : Nat → Int64
  | 0 => 0
  | n + 1 => cks ls p n * 31 + (sJ (ls n)).toInt64 + 7 * (sJ (p n)).toInt64
theorem cks_ext {ls p ls' p' : Int → Int} : ∀ n : Nat, (∀ v : Int, 0 ≤ v → v < n → ls v = ls' v ∧ p v = p' v) → cks ls p n = cks ls' p' n := by
  intro n
  induction n with
  | zero => intro _; rfl
  | succ n ih =>
    intro h
    have hn := h n (by omega) (by omega)
    show cks ls p n * 31 + (sJ (ls n)).toInt64 + 7 * (sJ (p n)).toInt64 = cks ls' p' n * 31 + (sJ (ls' n)).toInt64 + 7 * (sJ (p' n)).toInt64
    rw [ih (fun v a b => h v a (by omega)), hn.1, hn.2]
theorem cks_s {ls p : Int → Int} {x : Int} (h : 0 ≤ x) : cks ls p (x + 1).toNat = cks ls p x.toNat * 31 + (sJ (ls x)).toInt64 + 7 * (sJ (p x)).toInt64 := by
  rw [show (x + 1).toNat = x.toNat + 1 by omega]
  show cks ls p x.toNat * 31 + (sJ (ls ((x.toNat : Nat) : Int))).toInt64 + 7 * (sJ (p ((x.toNat : Nat) : Int))).toInt64 = _
  rw [show ((x.toNat : Nat) : Int) = x by omega]
theorem mul7 {p : Int} (h : 0 ≤ p ∧ p ≤ 100000) : (sJ (wr (7 * p))).toInt64 = 7 * (sJ p).toInt64 := by
  rw [wr_of (x := 7 * p) (by omega) (by omega)]
  apply Int64.toInt_inj.1
  rw [Int32.toInt_toInt64, Int64.toInt_mul, Int32.toInt_toInt64, sJ_toInt ⟨by omega, by omega⟩, sJ_toInt ⟨by omega, by omega⟩]
  rw [show (7 : Int64).toInt = 7 from rfl]
  exact (Int.bmod_eq_of_le (by omega) (by omega)).symm
