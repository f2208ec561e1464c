/-! ===== what comes out is the same ===== -/
theorem mem_loop {D : Dat} {i r : MI} {k B : Nat} {Q : Int → MI → MI → Prop} (I : JI D i r) (hk : k ≤ B) (hB : B + 192 ≤ 1500) (hQ : ∀ i' r', JI D i' r' → Q 1 i' r') : s94_L_isSame 1 i r k Q := by
  unfold s94_L_isSame
  refine Lp.r5 (fun (y x : Int) (m s : MI) (k : Nat) => y = 1 ∧ 0 ≤ x ∧ x ≤ 16 ∧ k ≤ B + 12 * x.toNat ∧ JI D m s) (fun _ x _ _ _ => (16 - x).toNat) ?_ ⟨rfl, by decide, by decide, by omega, I⟩
  intro y x m s k C ⟨ey, x0, x1, hk, J⟩ hC
  subst ey
  dsimp only [b96_L_isSame, s160_L_isSame, s153_L_isSame, s152_L_isSame]
  refine ⟨fun q => ⟨by omega, .inr rfl, hQ _ _ J⟩, fun q => ⟨fun z => absurd z (by decide), fun _ => ⟨by omega, ?_⟩⟩⟩
  rw [wr_of (x := x + 1) (by omega) (by omega)]
  refine A_21 J ⟨.inl rfl, x0, by omega⟩ (fun i1 r1 J1 => ⟨by omega, A_31 J1 ⟨.inl rfl, x0, by omega⟩ (fun i2 r2 J2 => ⟨fun _ => ⟨by omega, ?_⟩, fun z => absurd rfl z⟩)⟩)
  refine A_21 J2 ⟨.inr rfl, x0, by omega⟩ (fun i3 r3 J3 => ⟨by omega, A_31 J3 ⟨.inr rfl, x0, by omega⟩ (fun i4 r4 J4 => ⟨fun _ => ?_, fun z => absurd rfl z⟩)⟩)
  exact hC _ _ _ _ _ ⟨rfl, by omega, by omega, by omega, J4⟩ (by omega)
theorem isSame_w {D : Dat} {i r : MI} {Q : Int → MI → MI → Prop} (I : JI D i r) (hQ : ∀ i' r', JI D i' r' → Q 1 i' r') : wp_L_isSame i r Q := by
  have hn := exec_n I.1
  unfold wp_L_isSame
  refine ⟨by decide, J_outputs I (fun i1 J1 => ⟨by decide, J_isSame J1 (fun i2 r2 J2 => ⟨fun z => absurd z (by decide), fun _ => ⟨by decide, J_cOuts J2 (fun i3 r3 J3 => ⟨fun _ => ⟨by decide, ?_⟩, fun z => absurd rfl z⟩)⟩⟩)⟩)⟩
  refine A_20 J3 hn.1 (fun z => by omega) (fun _ i4 r4 J4 => ⟨fun _ => ⟨by decide, ?_⟩, fun z => absurd rfl z⟩)
  refine A_30 J4 hn.1 (fun z => by omega) (fun _ i5 r5 J5 => ⟨fun _ => ?_, fun z => absurd rfl z⟩)
  unfold s51_L_isSame
  refine Lp.r5 (fun (y x : Int) (m s : MI) (k : Nat) => y = 1 ∧ 0 ≤ x ∧ x ≤ (execS D).outs ∧ k ≤ 6 + 6 * x.toNat ∧ JI D m s) (fun _ x _ _ _ => ((execS D).outs - x).toNat) ?_ ⟨rfl, by decide, by omega, by omega, J5⟩
  intro y x m s k C ⟨ey, x0, x1, hk, J⟩ hC
  subst ey
  dsimp only [b54_L_isSame, s87_L_isSame]
  refine ⟨fun q => mem_loop (B := 1158) J (by omega) (by omega) hQ, fun q => ⟨fun z => absurd z (by decide), fun _ => ⟨by omega, ?_⟩⟩⟩
  rw [wr_of (x := x + 1) (by omega) (by omega)]
  refine A_20 J x0 (fun _ i6 r6 J6 => ⟨by omega, A_30 J6 x0 (fun _ i7 r7 J7 => ⟨fun _ => ?_, fun z => absurd rfl z⟩) (fun z => by omega)⟩) (fun z => by omega)
  exact hC _ _ _ _ _ ⟨rfl, by omega, by omega, by omega, J7⟩ (by omega)
/-! ===== rows of steps ===== -/
theorem row_w {D : Dat} {what : Int} {val : Int → Int} {i r : MI} {Q : Nat → (Int → Int) → MI → MI → Prop} (I : JI D i r) (hA : ∀ {i r : MI} {p : Int} {Q : Int → MI → MI → Prop}, JI D i r → 0 ≤ p ∧ p < nn D → (∀ i1 r1, JI D i1 r1 → Q (val p) i1 r1) → wp_L_ask what p 0 i r Q) (hQ : ∀ f i' r', JI D i' r' → (∀ v, 0 ≤ v → v < nn D → f v = val v) → Q (nn D).toNat f i' r') : wp_L_row what i r Q := by
  have nl := nn_le I.1
  unfold wp_L_row
  refine J_nodes I (fun i1 r1 J1 => ⟨nl, ?_⟩)
  refine Lp.r4 (fun (x : Int) (f : Int → Int) (m s : MI) => 0 ≤ x ∧ x ≤ nn D ∧ JI D m s ∧ ∀ v, 0 ≤ v → v < x → f v = val v) (fun x _ _ _ => (nn D - x).toNat) ?_ ⟨by decide, nl.1, J1, fun v a b => by omega⟩
  intro x f m s C ⟨x0, x1, J, hf⟩ hC
  dsimp only [bRow]
  refine ⟨fun q => hQ f m s J (fun v a b => hf v a (by omega)), fun q => ⟨x0, ?_⟩⟩
  refine hA J ⟨x0, by omega⟩ (fun i2 r2 J2 => ?_)
  rw [wr_of (x := x + 1) (by omega) (by omega)]
  refine hC _ _ _ _ ⟨by omega, by omega, J2, fun v a b => ?_⟩ (by omega)
  unfold updF
  by_cases z : v = x
  · rw [if_pos z, z]
  · rw [if_neg z]; exact hf v a (by omega)
/-! ===== units ===== -/
theorem fc_same {n m : Int} (hs : sR m) (hm : ¬ m = 0) : (Op.cmpValue (FP.fcmp (FP.fdiv (FP.i2f (sJ n)) (FP.i2f (sJ m))) (FP.fdiv (FP.i2f (sJ n)) (FP.i2f (sJ m)))) .l).toInt = 0 := by
  have h1 := FP.Core.i2f_mag (sJ n)
  have h2 := FP.Core.i2f_big (v := sJ m) (by rw [sJ_toInt hs]; exact hm)
  have h3 := FP.Core.fdiv_mag (K := 160) (L := 127) h1 h2.1 h2.2 (by decide) (by decide)
  have h4 : FP.Core.fIsNaN (FP.fdiv (FP.i2f (sJ n)) (FP.i2f (sJ m))) = false := by
    rw [← Bool.not_eq_true, FP.Core.isNaN_bits32]
    show ¬ 2139095040 < (FP.Core.fdiv (FP.Core.i2f (sJ n)) (FP.Core.i2f (sJ m))).toNat % 2 ^ 31
    omega
  have h5 : FP.Core.val32 (FP.fdiv (FP.i2f (sJ n)) (FP.i2f (sJ m))) ≠ .nan := fun z => by
    rw [(FP.Core.fIsNaN_iff _).2 z] at h4
    cases h4
  rw [show FP.fcmp (FP.fdiv (FP.i2f (sJ n)) (FP.i2f (sJ m))) (FP.fdiv (FP.i2f (sJ n)) (FP.i2f (sJ m))) = some .eq from FP.Core.fcmp_self h5]
  rfl
theorem told_w {p : Int} {i r : MI} {Q : Int → Prop} (h0 : p = 0 → Q 0) (h1 : ¬ p = 0 → Q 1) : wp_L_told p i r Q := by
  unfold wp_L_told s9_L_told
  exact ⟨h0, h1⟩
theorem units_w {D : Dat} {i r : MI} {k : Int} {Q : Int → MI → MI → Prop} (I : JI D i r) (hk : 0 ≤ k ∧ k < 7) (hQ : ∀ i' r', JI D i' r' → Q (D.un k) i' r') : wp_L_units (kch k) i r Q := by
  have hx := kch_i hk
  have u := I.1.un k hk.1 hk.2
  unfold wp_L_units
  refine ⟨by decide, A_8 I kch_b (by omega) (by decide) (.inr (by decide)) (fun i1 J1 => ⟨by decide, ?_⟩)⟩
  rw [hx] at J1 ⊢
  refine A_8 J1 kch_b (by omega) u (by by_cases z : k < 5; exact .inl (by omega); exact .inr (by have := I.1.un1 k (by omega) hk.2; omega)) (fun i2 J2 => ⟨by decide, ?_⟩)
  rw [hx] at J2
  have e : ((Dat.mk (D.many) (D.tx) (D.cnt) (D.fac) (D.tur) (D.bits) (D.inc) (D.inp) (D.told) (fun a => if a = k then D.un k else (if a = k then 1 else D.un a)) (D.cy) (D.F) (D.N) (D.T) (D.O) (D.ac) (D.ach) (D.apt) (D.dep)) : Dat) = D := by
    have e1 : (fun a => if a = k then D.un k else (if a = k then 1 else D.un a)) = D.un := by
      funext a
      by_cases z : a = k
      · rw [if_pos z, z]
      · rw [if_neg z, if_neg z]
    rw [e1]
    rfl
  have J3 : JI ((Dat.mk (D.many) (D.tx) (D.cnt) (D.fac) (D.tur) (D.bits) (D.inc) (D.inp) (D.told) (fun a => if a = k then D.un k else (if a = k then 1 else D.un a)) (D.cy) (D.F) (D.N) (D.T) (D.O) (D.ac) (D.ach) (D.apt) (D.dep)) : Dat) i2 r := J2
  rw [e] at J3
  exact hQ _ _ J3
/-- counting those of a kind that are with one of that kind -/
def cW (D : Dat) (a k : Int) (P : Int → Prop) (n : Nat) (x : Int) : Prop := CntP (fun u => (kdv D a = k ∧ kdv D u = k) ∧ P u) n x
theorem cW.up {D : Dat} {a k b y : Int} {P : Int → Prop} {x : Int} (h : cW D a k P b.toNat x) (hb : 0 ≤ b) (hy : ((kdv D a = k ∧ kdv D b = k) ∧ P b → y = x + 1) ∧ (¬ ((kdv D a = k ∧ kdv D b = k) ∧ P b) → y = x)) : cW D a k P (b + 1).toNat y := by
  unfold cW at h ⊢
  by_cases z : (kdv D a = k ∧ kdv D b = k) ∧ P b
  · rw [hy.1 z]; exact h.yes hb z
  · rw [hy.2 z]; exact h.no hb z
theorem cW.le {D : Dat} {a k m : Int} {P : Int → Prop} {n : Nat} {x : Int} (h : cW D a k P n x) (hm : 0 ≤ m) (hP : kdv D a = k → ∀ y, CntP (fun u => kdv D u = k ∧ P u) n y → y ≤ m) : x ≤ m := by
  unfold cW at h
  by_cases z : kdv D a = k
  · exact hP z x (h.iff _ _ (fun v _ _ => ⟨fun q => ⟨q.1.2, q.2⟩, fun q => ⟨⟨z, q.1⟩, q.2⟩⟩))
  · have h0 : CntP (fun _ => False) n x := h.iff _ _ (fun v _ _ => ⟨fun q => z q.1.1, fun q => q.elim⟩)
    have : ∀ n y, CntP (fun _ => False) n y → y = 0 := by
      intro n
      induction n with
      | zero => intro y h; exact h
      | succ n ih => intro y h; rcases h with ⟨h, _⟩ | ⟨_, h⟩; exact h.elim; exact ih y h
    have := this n x h0
    omega
theorem CntP.lt {P : Int → Prop} {n : Nat} {x : Int} (h : CntP P n x) : 0 ≤ x ∧ x ≤ n := CntP.b n x h
theorem s117_w {x3 x4 x5 x6 x7 x8 x9 x11 x12 x13 y : Int} {k1 : Int} {i r : MI} {k L1 L2 : Nat} {xs1 xs2 : Int → Int} {Q : Int → MI → MI → Prop} {C6 : Int × Int × MI × MI × Nat → Prop} {C36 C52 : Int × Int × Int × MI × MI × Nat → Prop} (hk : k ≤ 160000) (k01 : k1 = 0 ∨ k1 = 1) (h3 : ¬ x3 = 0) (h9 : 0 ≤ x9 ∧ x9 < (L2 : Int)) (h12 : 0 ≤ x12 ∧ x12 < (L2 : Int)) (hy : 0 ≤ y ∧ y < 1000) (h11 : 0 ≤ x11 ∧ x11 < 1000) (hC : ∀ z, (¬ x13 = 0 ∧ Int.tmod (xs2 x9) x3 = Int.tmod (xs2 x12) x3 → z = x11 + 1) → (¬ (¬ x13 = 0 ∧ Int.tmod (xs2 x9) x3 = Int.tmod (xs2 x12) x3) → z = x11) → C52 (y + k1, z, wr (x12 + 1), i, r, k)) : s117_L_areUnits x3 x4 x5 x6 x7 x8 x9 x11 x12 x13 y k1 i r k L1 xs1 L2 xs2 Q C6 C36 C52 := by
  have e0 : wr (x11 + 0) = x11 := by rw [Int.add_zero]; exact wr_of (by omega) (by omega)
  have e1 : wr (x11 + 1) = x11 + 1 := wr_of (by omega) (by omega)
  unfold s117_L_areUnits s149_L_areUnits s150_L_areUnits
  have key : ∀ v, v = k1 → (x13 = 0 → k ≤ 160000 ∧ wp_L_told 0 i r (fun v106 => C52 (wr (y + v), wr (x11 + v106), wr (x12 + 1), i, r, k))) ∧ (¬ x13 = 0 → ((0 ≤ x9 ∧ x9 < (L2 : Int)) ∧ (¬ x3 = 0 ∧ ((0 ≤ x12 ∧ x12 < (L2 : Int)) ∧ (¬ x3 = 0 ∧ (((Int.tmod (xs2 x9) x3) = (Int.tmod (xs2 x12) x3) → k ≤ 160000 ∧ wp_L_told 1 i r (fun v106 => C52 (wr (y + v), wr (x11 + v106), wr (x12 + 1), i, r, k))) ∧ (¬ (Int.tmod (xs2 x9) x3) = (Int.tmod (xs2 x12) x3) → k ≤ 160000 ∧ wp_L_told 0 i r (fun v106 => C52 (wr (y + v), wr (x11 + v106), wr (x12 + 1), i, r, k))))))))) := by
    intro v ev
    subst ev
    have ey : wr (y + v) = y + v := wr_of (by omega) (by omega)
    rw [ey]
    have no : ¬ (¬ x13 = 0 ∧ Int.tmod (xs2 x9) x3 = Int.tmod (xs2 x12) x3) → k ≤ 160000 ∧ wp_L_told 0 i r (fun v106 => C52 (y + v, wr (x11 + v106), wr (x12 + 1), i, r, k)) := fun z => ⟨hk, told_w (fun _ => by rw [e0]; exact hC _ (fun q => absurd q z) (fun _ => rfl)) (fun q => absurd rfl q)⟩
    refine ⟨fun q => no (fun z => z.1 q), fun q => ⟨h9, h3, h12, h3, fun w => ?_, fun w => no (fun z => w z.2)⟩⟩
    exact ⟨hk, told_w (fun z => absurd z (by decide)) (fun _ => by rw [e1]; exact hC _ (fun _ => rfl) (fun z => absurd ⟨q, w⟩ z))⟩
  exact ⟨hk, told_w (fun z => key 0 z.symm) (fun z => key 1 (by omega))⟩
theorem s92_w {x3 x4 x5 x6 x7 x8 x9 x10 x11 x12 k0 : Int} {i r : MI} {k L1 L2 : Nat} {xs1 xs2 : Int → Int} {Q : Int → MI → MI → Prop} {C6 : Int × Int × MI × MI × Nat → Prop} {C36 C52 : Int × Int × Int × MI × MI × Nat → Prop} (hk : k ≤ 160000) (h3 : ¬ x3 = 0) (h9 : 0 ≤ x9 ∧ x9 < (L1 : Int)) (h12 : 0 ≤ x12 ∧ x12 < (L1 : Int)) (el : L1 = L2) (h10 : 0 ≤ x10 ∧ x10 < 1000) (h11 : 0 ≤ x11 ∧ x11 < 1000) (hC : ∀ y z, (¬ k0 = 0 ∧ xs1 x9 = xs1 x12 → y = x10 + 1) → (¬ (¬ k0 = 0 ∧ xs1 x9 = xs1 x12) → y = x10) → (¬ k0 = 0 ∧ Int.tmod (xs2 x9) x3 = Int.tmod (xs2 x12) x3 → z = x11 + 1) → (¬ (¬ k0 = 0 ∧ Int.tmod (xs2 x9) x3 = Int.tmod (xs2 x12) x3) → z = x11) → C52 (y, z, wr (x12 + 1), i, r, k)) : s92_L_areUnits x3 x4 x5 x6 x7 x8 x9 x10 x11 x12 k0 i r k L1 xs1 L2 xs2 Q C6 C36 C52 := by
  subst el
  unfold s92_L_areUnits s116_L_areUnits
  have no : ¬ (¬ k0 = 0 ∧ xs1 x9 = xs1 x12) → s117_L_areUnits x3 x4 x5 x6 x7 x8 x9 x11 x12 k0 x10 0 i r k L1 xs1 L1 xs2 Q C6 C36 C52 := fun q => s117_w hk (.inl rfl) h3 h9 h12 h10 h11 (fun z a b => hC _ _ (fun w => absurd w q) (fun _ => Int.add_zero _) a b)
  refine ⟨fun q => no (fun z => z.1 q), fun q => ⟨h9, h12, fun w => ?_, fun w => no (fun z => w z.2)⟩⟩
  exact s117_w hk (.inr rfl) h3 h9 h12 h10 h11 (fun z a b => hC _ _ (fun _ => rfl) (fun y => absurd ⟨q, w⟩ y) a b)
theorem kch_inj {a b : Int} (ha : 0 ≤ a ∧ a < 7) (hb : 0 ≤ b ∧ b < 7) : kch a = kch b ↔ a = b := by
  refine ⟨fun h => ?_, fun h => by rw [h]⟩
  have := kch_i ha
  rw [h, kch_i hb] at this
  exact this.symm
/-- what the law knows of the rows -/
def RW (D : Dat) (T : Int) (L : Nat) (f g : Int → Int) : Prop := ((L : Int) = nn D) ∧ (nn D ≤ 60) ∧ (IsInt D T) ∧ (∀ v, 0 ≤ v → v < nn D → f v = stepV D v) ∧ (∀ v, 0 ≤ v → v < nn D → g v = placV D v) ∧ (ListP D (stepV D)) ∧ (PlaceP D (placV D))
theorem RW.l {D : Dat} {T : Int} {L : Nat} {f g : Int → Int} (h0 : RW D T L f g) : (L : Int) = nn D := h0.1
theorem RW.n {D : Dat} {T : Int} {L : Nat} {f g : Int → Int} (h0 : RW D T L f g) : nn D ≤ 60 := h0.2.1
theorem RW.t {D : Dat} {T : Int} {L : Nat} {f g : Int → Int} (h0 : RW D T L f g) : IsInt D T := h0.2.2.1
theorem RW.f {D : Dat} {T : Int} {L : Nat} {f g : Int → Int} (h0 : RW D T L f g) : ∀ v, 0 ≤ v → v < nn D → f v = stepV D v := h0.2.2.2.1
theorem RW.g {D : Dat} {T : Int} {L : Nat} {f g : Int → Int} (h0 : RW D T L f g) : ∀ v, 0 ≤ v → v < nn D → g v = placV D v := h0.2.2.2.2.1
theorem RW.s {D : Dat} {T : Int} {L : Nat} {f g : Int → Int} (h0 : RW D T L f g) : ListP D (stepV D) := h0.2.2.2.2.2.1
theorem RW.p {D : Dat} {T : Int} {L : Nat} {f g : Int → Int} (h0 : RW D T L f g) : PlaceP D (placV D) := h0.2.2.2.2.2.2
theorem RW.mk {D : Dat} {T : Int} {L : Nat} {f g : Int → Int} (h0 : (L : Int) = nn D) (h1 : nn D ≤ 60) (h2 : IsInt D T) (h3 : ∀ v, 0 ≤ v → v < nn D → f v = stepV D v) (h4 : ∀ v, 0 ≤ v → v < nn D → g v = placV D v) (h5 : ListP D (stepV D)) (h6 : PlaceP D (placV D)) : RW D T L f g := ⟨h0, h1, h2, h3, h4, h5, h6⟩
theorem RW.un {D : Dat} (ok : DOk D) {T : Int} {L : Nat} {f g : Int → Int} (w : RW D T L f g) {a k x : Int} (hk : 0 ≤ k ∧ k < 7) (ha : 0 ≤ a ∧ a < nn D) (h : cW D a k (fun u => f a = f u) (nn D).toNat x) : x ≤ D.un k := by
  have nl := nn_le ok
  have u := ok.un k hk.1 hk.2
  obtain ⟨la, _, li⟩ := w.s
  have lo := list_ok ok li
  refine h.le (by omega) (fun _ y hy => ?_)
  have b := (lo.2.2 a ha.1 ha.2).1
  have c := lo.2.1 k (stepV D a) hk.1 hk.2 b
  have e := CntP.uniq _ _ _ (hy.iff _ _ (R := fun u => kdv D u = k ∧ stepV D u = stepV D a) (fun v v0 v1 => ?_)) (cntN_P (nn D).toNat)
  · unfold cntL at c
    omega
  · rw [w.f a ha.1 ha.2, w.f v v0 (by omega)]
    exact ⟨fun q => ⟨q.1, q.2.symm⟩, fun q => ⟨q.1, q.2.symm⟩⟩
theorem RW.mo {D : Dat} (ok : DOk D) {T : Int} {L : Nat} {f g : Int → Int} (w : RW D T L f g) {a k x : Int} (hk : 0 ≤ k ∧ k < 7) (ha : 0 ≤ a ∧ a < nn D) (h : cW D a k (fun u => Int.tmod (g a) T = Int.tmod (g u) T) (nn D).toNat x) : x ≤ D.un k := by
  have nl := nn_le ok
  have u := ok.un k hk.1 hk.2
  obtain ⟨T', hT, pl⟩ := w.p
  rw [int_uniq hT w.t] at pl
  refine h.le (by omega) (fun _ y hy => ?_)
  refine pl_units ok pl (rest := Int.tmod (placV D a) T) hk (nn D).toNat (by omega) y (hy.iff _ _ (fun v v0 v1 => ?_))
  unfold UseP
  rw [w.g a ha.1 ha.2, w.g v v0 (by omega)]
  exact ⟨fun q => ⟨q.1, q.2.symm⟩, fun q => ⟨q.1, q.2.symm⟩⟩
