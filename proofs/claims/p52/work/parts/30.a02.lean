/-! ===== values of some bits ===== -/
def cutD (D : Dat) (v : Int) : Int := iAnd v (wr (iShl 1 D.bits - 1))
def isCut (D : Dat) (v : Int) : Prop := 0 ≤ v ∧ v < 2 ^ D.bits.toNat
theorem bv_of (x : Int) : ((sJ x).toBitVec.toNat : Int) = x % 4294967296 := by
  unfold sJ
  rw [Int32.toBitVec_ofInt]
  simp [BitVec.toNat_ofInt]
  omega
theorem sJ_small {b : BitVec 32} (h : b.toNat < 2147483648) : (Int32.ofBitVec b).toInt = b.toNat := by
  show b.toInt = _
  rw [BitVec.toInt_eq_toNat_of_lt (by omega)]
theorem and_nat (x y : Int) : (iAnd x y) = (Int32.ofBitVec ((sJ x).toBitVec &&& (sJ y).toBitVec)).toInt := rfl
theorem mask_nat {b : Int} (h1 : 1 ≤ b) (h2 : b ≤ 16) : (sJ (wr (iShl 1 b - 1))).toBitVec.toNat = 2 ^ b.toNat - 1 := by
  have : ∀ k : Nat, k < 17 → 1 ≤ k → (sJ (wr (iShl 1 (k : Int) - 1))).toBitVec.toNat = 2 ^ k - 1 := by decide +kernel
  have e := this b.toNat (by omega) (by omega)
  rw [show ((b.toNat : Nat) : Int) = b by omega] at e
  exact e
theorem pow_16 {b : Nat} (h2 : b ≤ 16) : 1 ≤ 2 ^ b ∧ 2 ^ b ≤ 65536 := by
  have : ∀ k : Nat, k < 17 → 1 ≤ 2 ^ k ∧ 2 ^ k ≤ 65536 := by decide
  exact this b (by omega)
theorem cut_mod {D : Dat} (ok : DOk D) (v : Int) : cutD D v = v % 2 ^ D.bits.toNat := by
  have hb := ok.bits
  unfold cutD
  rw [and_nat]
  have hp := pow_16 (b := D.bits.toNat) (by omega)
  have hn : ((sJ v).toBitVec &&& (sJ (wr (iShl 1 D.bits - 1))).toBitVec).toNat = (sJ v).toBitVec.toNat % 2 ^ D.bits.toNat := by
    rw [BitVec.toNat_and, mask_nat hb.1 hb.2, Nat.and_two_pow_sub_one_eq_mod]
  have hlt : (sJ v).toBitVec.toNat % 2 ^ D.bits.toNat < 2 ^ D.bits.toNat := Nat.mod_lt _ (by omega)
  rw [sJ_small (by omega), hn, Int.natCast_emod, bv_of]
  have e : ((2 ^ D.bits.toNat : Nat) : Int) = 2 ^ D.bits.toNat := by simp
  rw [e]
  have hd : (2 : Int) ^ D.bits.toNat ∣ 4294967296 := by
    have : ∀ k : Nat, k < 17 → (2 : Int) ^ k ∣ 4294967296 := by decide +kernel
    exact this _ (by omega)
  exact Int.emod_emod_of_dvd v hd
theorem isCut_cut {D : Dat} (ok : DOk D) (v : Int) : isCut D (cutD D v) := by
  rw [cut_mod ok]
  have hp : (0 : Int) < 2 ^ D.bits.toNat := by
    have := (pow_16 (b := D.bits.toNat) (by have := ok.bits; omega)).1
    have e : ((2 ^ D.bits.toNat : Nat) : Int) = 2 ^ D.bits.toNat := by simp
    omega
  exact ⟨Int.emod_nonneg _ (by omega), Int.emod_lt_of_pos _ hp⟩
theorem cut_of {D : Dat} (ok : DOk D) {v : Int} (h : isCut D v) : cutD D v = v := by
  rw [cut_mod ok]
  exact Int.emod_eq_of_lt h.1 h.2
theorem isCut_16 {D : Dat} (ok : DOk D) {v : Int} (h : isCut D v) : 0 ≤ v ∧ v < 65536 := by
  have := (pow_16 (b := D.bits.toNat) (by have := ok.bits; omega)).2
  have e : ((2 ^ D.bits.toNat : Nat) : Int) = 2 ^ D.bits.toNat := by simp
  have h1 := h.1
  have h2 := h.2
  omega
theorem isCut_0 {D : Dat} (ok : DOk D) : isCut D 0 := by
  have := (pow_16 (b := D.bits.toNat) (by have := ok.bits; omega)).1
  have e : ((2 ^ D.bits.toNat : Nat) : Int) = 2 ^ D.bits.toNat := by simp
  exact ⟨by omega, by omega⟩
theorem bits_cut {D : Dat} (ok : DOk D) {x y : Int} (hx : isCut D x) (hy : isCut D y) : isCut D (iAnd x y) ∧ isCut D (iOr x y) ∧ isCut D (iXor x y) := by
  have hp := pow_16 (b := D.bits.toNat) (by have := ok.bits; omega)
  have x16 := isCut_16 ok hx
  have y16 := isCut_16 ok hy
  have e : ((2 ^ D.bits.toNat : Nat) : Int) = 2 ^ D.bits.toNat := by simp
  have nx := bv_of x
  have ny := bv_of y
  have hx1 := hx.2
  have hy1 := hy.2
  have lx : (sJ x).toBitVec.toNat < 2 ^ D.bits.toNat := by omega
  have ly : (sJ y).toBitVec.toNat < 2 ^ D.bits.toNat := by omega
  have g : ∀ b : BitVec 32, b.toNat < 2 ^ D.bits.toNat → isCut D (Int32.ofBitVec b).toInt := by
    intro b hb
    rw [sJ_small (by omega)]
    exact ⟨by omega, by omega⟩
  refine ⟨?_, ?_, ?_⟩
  · refine g ((sJ x).toBitVec &&& (sJ y).toBitVec) ?_
    rw [BitVec.toNat_and]
    exact Nat.lt_of_le_of_lt Nat.and_le_left lx
  · refine g ((sJ x).toBitVec ||| (sJ y).toBitVec) ?_
    rw [BitVec.toNat_or]
    exact Nat.or_lt_two_pow lx ly
  · refine g ((sJ x).toBitVec ^^^ (sJ y).toBitVec) ?_
    rw [BitVec.toNat_xor]
    exact Nat.xor_lt_two_pow lx ly
/-! ===== one statement after the other ===== -/
def St : Type := (Int → Int) × (Int → Int → Int) × (Int → Int) × (Int) × (Int)
def St.reg (x0 : St) : Int → Int := (Prod.fst x0)
def St.mem (x0 : St) : Int → Int → Int := (Prod.fst (Prod.snd x0))
def St.out (x0 : St) : Int → Int := (Prod.fst (Prod.snd (Prod.snd x0)))
def St.outs (x0 : St) : Int := (Prod.fst (Prod.snd (Prod.snd (Prod.snd x0))))
def St.tak (x0 : St) : Int := (Prod.snd (Prod.snd (Prod.snd (Prod.snd x0))))
def St.mk (x0 : Int → Int) (x1 : Int → Int → Int) (x2 : Int → Int) (x3 : Int) (x4 : Int) : St := (x0, x1, x2, x3, x4)
theorem St.k_reg {x0 : Int → Int} {x1 : Int → Int → Int} {x2 : Int → Int} {x3 : Int} {x4 : Int} : (St.mk x0 x1 x2 x3 x4).reg = x0 := rfl
theorem St.k_mem {x0 : Int → Int} {x1 : Int → Int → Int} {x2 : Int → Int} {x3 : Int} {x4 : Int} : (St.mk x0 x1 x2 x3 x4).mem = x1 := rfl
theorem St.k_out {x0 : Int → Int} {x1 : Int → Int → Int} {x2 : Int → Int} {x3 : Int} {x4 : Int} : (St.mk x0 x1 x2 x3 x4).out = x2 := rfl
theorem St.k_outs {x0 : Int → Int} {x1 : Int → Int → Int} {x2 : Int → Int} {x3 : Int} {x4 : Int} : (St.mk x0 x1 x2 x3 x4).outs = x3 := rfl
theorem St.k_tak {x0 : Int → Int} {x1 : Int → Int → Int} {x2 : Int → Int} {x3 : Int} {x4 : Int} : (St.mk x0 x1 x2 x3 x4).tak = x4 := rfl
def plc (T N i : Int) : Int := if T = 0 then N else i + N
def lookS (s : St) (m p : Int) : Int := if 0 ≤ m ∧ m < 2 ∧ 0 ≤ p ∧ p < 16 then s.mem m p else 0
/-- an operand: its value, and the takes behind it -/
def valS (D : Dat) (k p i : Int) (s : St) : Int :=
  if D.F k p = 0 then s.reg (D.N k p)
  else if D.F k p = 1 then cutD D (D.N k p)
  else if D.F k p = 2 then cutD D i
  else if D.F k p = 5 then (if s.tak < D.inc then cutD D (D.inp s.tak) else 0)
  else lookS s (D.F k p - 3) (plc (D.T k p) (D.N k p) i)
def tkS (D : Dat) (k p : Int) (s : St) : St := if D.F k p = 5 then St.mk s.reg s.mem s.out s.outs (s.tak + 1) else s
def opS (O a b : Int) : Int :=
  if O = 38 then iAnd a b else if O = 42 then wr (a * b) else if O = 43 then wr (a + b) else if O = 45 then wr (a - b)
  else if O = 94 then iXor a b else if O = 124 then iOr a b else if a < b then 1 else 0
def wriS (D : Dat) (k i v : Int) (s : St) : St :=
  if D.F k 0 = 0 then St.mk (fun r => if r = D.N k 0 then v else s.reg r) s.mem s.out s.outs s.tak
  else if D.F k 0 = 6 then St.mk s.reg s.mem (fun x => if x = s.outs then v else s.out x) (s.outs + 1) s.tak
  else if 0 ≤ D.F k 0 - 3 ∧ D.F k 0 - 3 < 2 ∧ 0 ≤ plc (D.T k 0) (D.N k 0) i ∧ plc (D.T k 0) (D.N k 0) i < 16 then
    St.mk s.reg (fun m x => if m = D.F k 0 - 3 ∧ x = plc (D.T k 0) (D.N k 0) i then v else s.mem m x) s.out s.outs s.tak
  else s
def oneS (D : Dat) (k i : Int) (s : St) : St :=
  if D.O k = 32 then wriS D k i (valS D k 1 i s) (tkS D k 1 s)
  else wriS D k i (cutD D (opS (D.O k) (valS D k 1 i s) (valS D k 2 i (tkS D k 1 s)))) (tkS D k 2 (tkS D k 1 s))
def begS (D : Dat) : St := St.mk (fun _ => 0) (fun m p => cutD D (D.told m p)) (fun _ => 0) 0 0
/-- what the object's state is, of the class, at an object; of the reference -/
def CSt (D : Dat) (o : Int) (i : MI) (s : St) : Prop := (∀ k, 0 ≤ k → k < 8 → i (o + 1) k = s.reg k) ∧ (∀ m p, 0 ≤ m → m < 2 → 0 ≤ p → p < 16 → i (o + 3 + m) p = s.mem m p) ∧ (∀ k, 0 ≤ k → k < s.outs → i (o + 5) k = s.out k) ∧ (i o 3 = s.outs) ∧ (i o 4 = min s.tak D.inc)
theorem CSt.r {D : Dat} {o : Int} {i : MI} {s : St} (h0 : CSt D o i s) : ∀ k, 0 ≤ k → k < 8 → i (o + 1) k = s.reg k := h0.1
theorem CSt.m {D : Dat} {o : Int} {i : MI} {s : St} (h0 : CSt D o i s) : ∀ m p, 0 ≤ m → m < 2 → 0 ≤ p → p < 16 → i (o + 3 + m) p = s.mem m p := h0.2.1
theorem CSt.x {D : Dat} {o : Int} {i : MI} {s : St} (h0 : CSt D o i s) : ∀ k, 0 ≤ k → k < s.outs → i (o + 5) k = s.out k := h0.2.2.1
theorem CSt.n {D : Dat} {o : Int} {i : MI} {s : St} (h0 : CSt D o i s) : i o 3 = s.outs := h0.2.2.2.1
theorem CSt.t {D : Dat} {o : Int} {i : MI} {s : St} (h0 : CSt D o i s) : i o 4 = min s.tak D.inc := h0.2.2.2.2
theorem CSt.mk {D : Dat} {o : Int} {i : MI} {s : St} (h0 : ∀ k, 0 ≤ k → k < 8 → i (o + 1) k = s.reg k) (h1 : ∀ m p, 0 ≤ m → m < 2 → 0 ≤ p → p < 16 → i (o + 3 + m) p = s.mem m p) (h2 : ∀ k, 0 ≤ k → k < s.outs → i (o + 5) k = s.out k) (h3 : i o 3 = s.outs) (h4 : i o 4 = min s.tak D.inc) : CSt D o i s := ⟨h0, h1, h2, h3, h4⟩
/-- all values are cut, and takes are few -/
def StOk (D : Dat) (s : St) : Prop := (∀ k, 0 ≤ k → k < 8 → isCut D (s.reg k)) ∧ (∀ m p, 0 ≤ m → m < 2 → 0 ≤ p → p < 16 → isCut D (s.mem m p)) ∧ (0 ≤ s.outs) ∧ (0 ≤ s.tak)
theorem StOk.r {D : Dat} {s : St} (h0 : StOk D s) : ∀ k, 0 ≤ k → k < 8 → isCut D (s.reg k) := h0.1
theorem StOk.m {D : Dat} {s : St} (h0 : StOk D s) : ∀ m p, 0 ≤ m → m < 2 → 0 ≤ p → p < 16 → isCut D (s.mem m p) := h0.2.1
theorem StOk.n {D : Dat} {s : St} (h0 : StOk D s) : 0 ≤ s.outs := h0.2.2.1
theorem StOk.t {D : Dat} {s : St} (h0 : StOk D s) : 0 ≤ s.tak := h0.2.2.2
theorem StOk.mk {D : Dat} {s : St} (h0 : ∀ k, 0 ≤ k → k < 8 → isCut D (s.reg k)) (h1 : ∀ m p, 0 ≤ m → m < 2 → 0 ≤ p → p < 16 → isCut D (s.mem m p)) (h2 : 0 ≤ s.outs) (h3 : 0 ≤ s.tak) : StOk D s := ⟨h0, h1, h2, h3⟩

theorem plc_r {T N i : Int} (hi : 0 ≤ i ∧ i ≤ 1000) (h : (T = 0 ∧ 0 ≤ N ∧ N ≤ 99) ∨ (T = 1 ∧ -9 ≤ N ∧ N ≤ 9)) : -100 ≤ plc T N i ∧ plc T N i ≤ 2000 := by
  unfold plc
  split <;> omega
theorem val_cut {D : Dat} (ok : DOk D) {k p i : Int} {s : St} (hk : 0 ≤ k ∧ k < D.cnt) (hp : 0 ≤ p ∧ p < 3) (h : StOk D s) : isCut D (valS D k p i s) := by
  have hst := ok.st k hk.1 hk.2
  unfold valS lookS
  split
  · rename_i e
    have := hst.n0 p hp.1 hp.2 e
    exact h.r _ this.1 (by omega)
  split
  · exact isCut_cut ok _
  split
  · exact isCut_cut ok _
  split
  · split
    · exact isCut_cut ok _
    · exact isCut_0 ok
  · split
    · rename_i q
      exact h.m _ _ q.1 q.2.1 q.2.2.1 q.2.2.2
    · exact isCut_0 ok
theorem tk_ok {D : Dat} {k p : Int} {s : St} (h : StOk D s) : StOk D (tkS D k p s) := by
  unfold tkS
  split
  · exact ⟨h.r, h.m, h.n, by have := h.t; show 0 ≤ s.tak + 1; omega⟩
  · exact h
theorem wri_ok {D : Dat} {k i v : Int} {s : St} (h : StOk D s) (hv : isCut D v) : StOk D (wriS D k i v s) := by
  unfold wriS
  split
  · refine ⟨fun a x y => ?_, h.m, h.n, h.t⟩
    show isCut D (if a = D.N k 0 then v else s.reg a)
    split
    · exact hv
    · exact h.r a x y
  split
  · exact ⟨h.r, h.m, by have := h.n; show 0 ≤ s.outs + 1; omega, h.t⟩
  split
  · refine ⟨h.r, fun a b x y z w => ?_, h.n, h.t⟩
    show isCut D (if a = D.F k 0 - 3 ∧ b = plc (D.T k 0) (D.N k 0) i then v else s.mem a b)
    split
    · exact hv
    · exact h.m a b x y z w
  · exact h
theorem one_ok {D : Dat} (ok : DOk D) {k i : Int} {s : St} (hk : 0 ≤ k ∧ k < D.cnt) (h : StOk D s) : StOk D (oneS D k i s) := by
  unfold oneS
  split
  · exact wri_ok (tk_ok h) (val_cut ok hk (by decide) h)
  · exact wri_ok (tk_ok (tk_ok h)) (isCut_cut ok _)
theorem beg_ok {D : Dat} (ok : DOk D) : StOk D (begS D) :=
  ⟨fun _ _ _ => isCut_0 ok, fun _ _ _ _ _ _ => isCut_cut ok _, Int.le_refl 0, Int.le_refl 0⟩
/-! the class -/
def FS (o : Int) (i i' : MI) : Prop := ∀ a, (a < o ∨ o + 5 < a) → i' a = i a
theorem FS.refl (o : Int) (i : MI) : FS o i i := fun _ _ => rfl
theorem FS.trans {o : Int} {i j k : MI} (h : FS o i j) (g : FS o j k) : FS o i k := fun a q => (g a q).trans (h a q)
theorem FS.st {o a k v : Int} {i : MI} (h1 : o ≤ a) (h2 : a ≤ o + 5) : FS o i (st i a k v) := fun b q => st_row (by omega)
theorem sta_rng {o : Int} (h : sta o) : (61 ≤ o ∧ o ≤ 61) ∨ (481 ≤ o ∧ o ≤ 481) := by rcases h with rfl | rfl <;> decide
theorem ClassP.fs {D : Dat} {i i' r : MI} {o : Int} (h : ClassP D i r) (ho : sta o) (g : FS o i i') : ClassP D i' r := by
  have := sta_rng ho
  refine h.congr ?_ (g _ (by omega)) (fun c _ => ?_) (g _ (by omega)) (fun a x y => g _ (by omega)) (fun a x y z => g _ (by omega)) (g _ (by omega)) (g _ (by omega)) (fun a x y => g _ (by omega)) (fun a x y => g _ (by omega)) rfl rfl
  · rw [g _ (by omega)]
  · rw [g _ (by omega)]
theorem cut_e {D : Dat} {i r : MI} {v : Int} {Q : Int → Prop} (h : ClassP D i r) : wp_X6_cut v i r Q ↔ Q (cutD D v) := by
  unfold wp_X6_cut cutD
  rw [h.bits]
theorem CSt.tk {D : Dat} {o : Int} {i : MI} {s : St} {k p : Int} (h : CSt D o i s) (e : ¬ D.F k p = 5) : CSt D o i (tkS D k p s) := by
  unfold tkS
  rw [if_neg e]
  exact h
theorem isInside_e {m p : Int} {i r : MI} {Q : Int → Prop} : wp_X7_isInside m p i r Q ↔ Q (bz (0 ≤ m ∧ m < 2 ∧ 0 ≤ p ∧ p < 16)) := by
  unfold wp_X7_isInside s23_X7_isInside s24_X7_isInside bz
  by_cases h : 0 ≤ m ∧ m < 2 ∧ 0 ≤ p ∧ p < 16
  · rw [if_pos h]
    exact ⟨fun q => ((((q.2 (by omega)).2 (by omega)).2 (by omega)).2 (by omega)).2, fun q => ⟨fun _ => by omega, fun _ => ⟨fun _ => by omega, fun _ => ⟨fun _ => by omega, fun _ => ⟨fun _ => by omega, fun _ => ⟨.inr rfl, q⟩⟩⟩⟩⟩⟩
  · rw [if_neg h]
    refine ⟨fun q => ?_, fun q => ⟨fun _ => ⟨.inl rfl, q⟩, fun _ => ⟨fun _ => ⟨.inl rfl, q⟩, fun _ => ⟨fun _ => ⟨.inl rfl, q⟩, fun _ => ⟨fun _ => ⟨.inl rfl, q⟩, fun _ => by omega⟩⟩⟩⟩⟩
    by_cases h1 : m < 0
    · exact (q.1 h1).2
    by_cases h2 : 2 ≤ m
    · exact ((q.2 h1).1 h2).2
    by_cases h3 : p < 0
    · exact (((q.2 h1).2 h2).1 h3).2
    · exact ((((q.2 h1).2 h2).2 h3).1 (by omega)).2
theorem look_e {D : Dat} {o m p : Int} {i r : MI} {s : St} {Q : Int → Prop} (h : CSt D o i s) : wp_X7_look o m p i r Q ↔ Q (lookS s m p) := by
  unfold wp_X7_look s20_X7_look lookS
  rw [isInside_e]
  by_cases e : 0 ≤ m ∧ m < 2 ∧ 0 ≤ p ∧ p < 16
  · rw [h.m m p e.1 e.2.1 e.2.2.1 e.2.2.2, if_pos e, bz, if_pos e]
    exact ⟨fun q => (q.2 (by decide)).2.2, fun q => ⟨fun z => absurd z (by decide), fun _ => ⟨by omega, by omega, q⟩⟩⟩
  · rw [if_neg e, bz, if_neg e]
    exact ⟨fun q => q.1 rfl, fun q => ⟨fun _ => q, fun z => absurd rfl z⟩⟩
theorem placeOf_e {i r : MI} {o p t : Int} {F N T : Int → Int} {O : Int} {Q : Int → Prop} (hs : StmAt i o F N T O) (hp : 0 ≤ p ∧ p < 3) (ht : 0 ≤ t ∧ t ≤ 1000) (hT : (T p = 0 ∧ 0 ≤ N p ∧ N p ≤ 99) ∨ (T p = 1 ∧ -9 ≤ N p ∧ N p ≤ 9)) : wp_X8_placeOf o p t i r Q ↔ Q (plc (T p) (N p) t) := by
  unfold wp_X8_placeOf s26_X8_placeOf plc
  rw [hs.t p hp.1 hp.2, hs.n p hp.1 hp.2]
  by_cases e : T p = 0
  · rw [if_pos e]
    exact ⟨fun q => (q.2.1 e).2, fun q => ⟨hp, fun _ => ⟨hp, q⟩, fun z => absurd e z⟩⟩
  · rw [if_neg e, wr_of (by omega) (by omega)]
    exact ⟨fun q => (q.2.2 e).2, fun q => ⟨hp, fun z => absurd z e, fun _ => ⟨hp, q⟩⟩⟩
theorem valueOf_w {D : Dat} {i r : MI} {k p t o : Int} {s : St} {Q : Int → MI → Prop} (h : ClassP D i r) (ok : DOk D) (hk : 0 ≤ k ∧ k < D.cnt) (hp : p = 1 ∨ (p = 2 ∧ D.O k ≠ 32)) (ht : 0 ≤ t ∧ t ≤ 1000) (ho : sta o) (hs : CSt D o i s) (hso : StOk D s)
    (hQ : ∀ i', FS o i i' → CSt D o i' (tkS D k p s) → Q (valS D k p t s) i') : wp_X6_valueOf (r 4 k) p t o i r Q := by
  have hst := h.st k hk.1 hk.2
  have sok := ok.st k hk.1 hk.2
  have hp3 : 0 ≤ p ∧ p < 3 := by omega
  have hor := sta_rng ho
  have hic := ok.inc
  have hF : 0 ≤ D.F k p ∧ D.F k p ≤ 5 := by
    rcases hp with rfl | ⟨rfl, e⟩
    · exact sok.f1
    · rcases sok.f2 with q | q
      · exact absurd q.1 e
      · exact q.2
  unfold wp_X6_valueOf
  rw [hst.f p hp3.1 hp3.2, hst.n p hp3.1 hp3.2, cut_e h, cut_e h]
  unfold valS at hQ
  refine ⟨hp3, fun e0 => ?_, fun e0 => ⟨fun e1 => ?_, fun e1 => ⟨fun e2 => ?_, fun e2 => ?_⟩⟩⟩
  · rw [if_pos e0] at hQ
    have := sok.n0 p hp3.1 hp3.2 e0
    rw [hs.r _ this.1 (by omega)]
    exact ⟨hp3, by omega, hQ _ (FS.refl _ _) (hs.tk (by omega))⟩
  · rw [if_neg e0, if_pos e1] at hQ
    exact ⟨hp3, hQ _ (FS.refl _ _) (hs.tk (by omega))⟩
  · rw [if_neg e0, if_neg e1, if_pos e2] at hQ
    exact hQ _ (FS.refl _ _) (hs.tk (by omega))
  · rw [if_neg e0, if_neg e1, if_neg e2] at hQ
    have mem : D.F k p = 3 ∨ D.F k p = 4 → s81_X6_valueOf (r 4 k) p t o i r Q := by
      intro e
      rw [if_neg (by omega)] at hQ
      unfold s81_X6_valueOf
      rw [placeOf_e hst hp3 ht (sok.n3 p hp3.1 hp3.2 e), hst.f p hp3.1 hp3.2, look_e hs, wr_of (by omega) (by omega)]
      exact ⟨hp3, hQ _ (FS.refl _ _) (hs.tk (by omega))⟩
    refine ⟨fun e3 => mem (.inl e3), fun e3 => ⟨fun e4 => mem (.inr e4), fun e4 => ⟨fun e5 => ?_, fun e5 => by omega⟩⟩⟩
    rw [if_pos e5] at hQ
    unfold wp_X6_takeInput
    rw [cut_e h, hs.t, h.inc]
    have htk := hso.t
    have e6 : tkS D k p s = St.mk s.reg s.mem s.out s.outs (s.tak + 1) := by unfold tkS; rw [if_pos e5]
    rw [e6] at hQ
    refine ⟨fun q => ⟨by omega, ?_⟩, fun q => ?_⟩
    · have e7 : min s.tak D.inc = s.tak := by omega
      rw [e7, h.inp s.tak (by omega) (by omega), wr_of (by omega) (by omega)]
      rw [if_pos (by omega)] at hQ
      refine hQ _ (FS.st (by omega) (by omega)) ⟨?_, ?_, ?_, ?_, ?_⟩
      · rw [st_row (by omega)]; exact hs.r
      · intro m q a b; rw [st_row (by omega)]; exact hs.m m q a b
      · rw [st_row (by omega)]; exact hs.x
      · rw [st_ne (by omega)]; exact hs.n
      · rw [st_eq]; show s.tak + 1 = min (s.tak + 1) D.inc; omega
    · rw [if_neg (by omega)] at hQ
      refine hQ _ (FS.refl _ _) ⟨hs.r, hs.m, hs.x, hs.n, ?_⟩
      rw [hs.t]; show min s.tak D.inc = min (s.tak + 1) D.inc; omega
theorem write_w {D : Dat} {i r : MI} {k t v o : Int} {s : St} {Q : MI → Prop} (h : ClassP D i r) (ok : DOk D) (hk : 0 ≤ k ∧ k < D.cnt) (ht : 0 ≤ t ∧ t ≤ 1000) (ho : sta o) (hs : CSt D o i s) (hso : StOk D s) (hout : D.F k 0 = 6 → s.outs < 192)
    (hQ : ∀ i', FS o i i' → CSt D o i' (wriS D k t v s) → Q i') : wp_X6_write (r 4 k) t v o i r Q := by
  have hst := h.st k hk.1 hk.2
  have sok := ok.st k hk.1 hk.2
  have hor := sta_rng ho
  have hn := hso.n
  have f0 := sok.f0
  unfold wp_X6_write s61_X6_write
  rw [hst.f 0 (by decide) (by decide), hst.n 0 (by decide) (by decide)]
  unfold wriS at hQ
  refine ⟨fun e0 => ?_, fun e0 => ⟨fun e1 => ?_, fun e1 => ?_⟩⟩
  · rw [if_pos e0] at hQ
    have := sok.n0 0 (by decide) (by decide) e0
    refine ⟨by omega, hQ _ (FS.st (by omega) (by omega)) ⟨?_, ?_, ?_, ?_, ?_⟩⟩
    · intro a x y
      simp only [St.k_reg]
      by_cases e : a = D.N k 0
      · rw [e, st_eq]; simp
      · rw [st_ne (by omega)]; simp [e]; exact hs.r a x y
    · intro m q a b; rw [st_row (by omega)]; exact hs.m m q a b
    · rw [st_row (by omega)]; exact hs.x
    · rw [st_row (by omega)]; exact hs.n
    · rw [st_row (by omega)]; exact hs.t
  · rw [if_neg e0, if_pos e1] at hQ
    unfold wp_X7_putOut s30_X7_putOut
    have ho2 := hout e1
    rw [st_row (a := o) (by omega), hs.n, wr_of (by omega) (by omega)]
    refine ⟨fun q => by omega, fun _ => ⟨by omega, hQ _ ((FS.st (by omega) (by omega)).trans (FS.st (by omega) (by omega))) ⟨?_, ?_, ?_, ?_, ?_⟩⟩⟩
    · simp (disch := omega) only [st_row]; exact hs.r
    · intro m q a b; simp (disch := omega) only [st_row]; exact hs.m m q a b
    · intro a x y
      have y : a < s.outs + 1 := y
      rw [st_row (by omega)]
      simp only [St.k_out]
      by_cases e : a = s.outs
      · rw [e, st_eq]; simp
      · rw [st_ne (by omega)]; simp [e]; exact hs.x a x (by omega)
    · rw [st_eq]; rfl
    · simp (disch := omega) only [st_row, st_ne]; exact hs.t
  · rw [if_neg e0, if_neg e1] at hQ
    have e34 : D.F k 0 = 3 ∨ D.F k 0 = 4 := by omega
    rw [placeOf_e hst (by decide) ht (sok.n3 0 (by decide) (by decide) e34), wr_of (by omega) (by omega)]
    unfold wp_X7_keep s17_X7_keep
    rw [isInside_e]
    refine ⟨fun q => ?_, fun q => ?_⟩
    · rw [bz_0] at q
      rw [if_neg q] at hQ
      exact hQ _ (FS.refl _ _) hs
    · rw [bz_0, Decidable.not_not] at q
      rw [if_pos q] at hQ
      refine ⟨by omega, by omega, hQ _ (FS.st (by omega) (by omega)) ⟨?_, ?_, ?_, ?_, ?_⟩⟩
      · rw [st_row (by omega)]; exact hs.r
      · intro m x a b c d
        simp only [St.k_mem]
        by_cases e : m = D.F k 0 - 3 ∧ x = plc (D.T k 0) (D.N k 0) t
        · rw [e.1, e.2, st_eq]; simp
        · rw [st_ne (by omega), if_neg e]; exact hs.m m x a b c d
      · rw [st_row (by omega)]; exact hs.x
      · rw [st_row (by omega)]; exact hs.n
      · rw [st_row (by omega)]; exact hs.t
theorem operate_e {i r : MI} {o a b : Int} {F N T : Int → Int} {O : Int} {Q : Int → Prop} (hs : StmAt i o F N T O) : wp_X8_operate o a b i r Q ↔ Q (opS O a b) := by
  unfold wp_X8_operate s98_X8_operate opS
  rw [hs.o]
  by_cases e1 : O = 38
  · simp [e1]
  by_cases e2 : O = 42
  · simp [e2]
  by_cases e3 : O = 43
  · simp [e3]
  by_cases e4 : O = 45
  · simp [e4]
  by_cases e5 : O = 94
  · simp [e5]
  by_cases e6 : O = 124
  · simp [e6]
  · by_cases e7 : a < b
    · simp [e1, e2, e3, e4, e5, e6, e7]; omega
    · simp [e1, e2, e3, e4, e5, e6, e7]; omega
theorem carryOne_w {D : Dat} {i r : MI} {k t o : Int} {s : St} {Q : MI → Prop} (h : ClassP D i r) (ok : DOk D) (hk : 0 ≤ k ∧ k < D.cnt) (ht : 0 ≤ t ∧ t ≤ 1000) (ho : sta o) (hs : CSt D o i s) (hso : StOk D s) (hout : D.F k 0 = 6 → s.outs < 192)
    (hQ : ∀ i', FS o i i' → CSt D o i' (oneS D k t s) → Q i') : wp_X6_carryOutOne (r 4 k) t o i r Q := by
  unfold wp_X6_carryOutOne s37_X6_carryOutOne
  have tks : ∀ p s, (tkS D k p s).outs = s.outs := fun p s => by unfold tkS; split <;> rfl
  unfold oneS at hQ
  refine valueOf_w h ok hk (.inl rfl) ht ho hs hso (fun i1 f1 s1 => ?_)
  have h1 := h.fs ho f1
  have hst := h1.st k hk.1 hk.2
  unfold wp_X8_hasOperation s14_X8_hasOperation
  rw [hst.o]
  refine ⟨fun e => ⟨.inl rfl, fun _ => ?_, fun q => absurd rfl q⟩, fun e => ⟨.inr rfl, fun q => absurd q (by decide), fun _ => ?_⟩⟩
  · rw [if_pos e] at hQ
    exact write_w h1 ok hk ht ho s1 (tk_ok hso) (by rw [tks]; exact hout) (fun i2 f2 s2 => hQ _ (f1.trans f2) s2)
  · rw [if_neg e] at hQ
    refine valueOf_w h1 ok hk (.inr ⟨rfl, e⟩) ht ho s1 (tk_ok hso) (fun i2 f2 s2 => ?_)
    have h2 := h1.fs ho f2
    rw [operate_e (h2.st k hk.1 hk.2), cut_e h2]
    exact write_w h2 ok hk ht ho s2 (tk_ok (tk_ok hso)) (by rw [tks, tks]; exact hout) (fun i3 f3 s3 => hQ _ ((f1.trans f2).trans f3) s3)

def runS (D : Dat) : Nat → St
  | 0 => begS D
  | n + 1 => oneS D ((n : Int) % D.cnt) ((n : Int) / D.cnt) (runS D n)
theorem run_ok {D : Dat} (ok : DOk D) (n : Nat) (hc : 0 < D.cnt) : StOk D (runS D n) := by
  induction n with
  | zero => exact beg_ok ok
  | succ n ih => exact one_ok ok ⟨Int.emod_nonneg _ (by omega), Int.emod_lt_of_pos _ hc⟩ ih
theorem one_cnt {D : Dat} {k i : Int} {s : St} : s.outs ≤ (oneS D k i s).outs ∧ (oneS D k i s).outs ≤ s.outs + 1 ∧ s.tak ≤ (oneS D k i s).tak ∧ (oneS D k i s).tak ≤ s.tak + 2 := by
  have tk : ∀ p s, (tkS D k p s).outs = s.outs ∧ s.tak ≤ (tkS D k p s).tak ∧ (tkS D k p s).tak ≤ s.tak + 1 := fun p s => by
    unfold tkS
    split
    · exact ⟨rfl, by show s.tak ≤ s.tak + 1; omega, by show s.tak + 1 ≤ s.tak + 1; omega⟩
    · omega
  have wr1 : ∀ v s, s.outs ≤ (wriS D k i v s).outs ∧ (wriS D k i v s).outs ≤ s.outs + 1 ∧ (wriS D k i v s).tak = s.tak := fun v s => by
    unfold wriS
    split
    · exact ⟨by show s.outs ≤ s.outs; omega, by show s.outs ≤ s.outs + 1; omega, rfl⟩
    split
    · exact ⟨by show s.outs ≤ s.outs + 1; omega, by show s.outs + 1 ≤ s.outs + 1; omega, rfl⟩
    split
    · exact ⟨by show s.outs ≤ s.outs; omega, by show s.outs ≤ s.outs + 1; omega, rfl⟩
    · omega
  unfold oneS
  split
  · have a1 := tk 1 s
    have a2 := wr1 (valS D k 1 i s) (tkS D k 1 s)
    omega
  · have a1 := tk 1 s
    have a3 := tk 2 (tkS D k 1 s)
    have a2 := wr1 (cutD D (opS (D.O k) (valS D k 1 i s) (valS D k 2 i (tkS D k 1 s)))) (tkS D k 2 (tkS D k 1 s))
    omega
theorem run_cnt {D : Dat} (n : Nat) : 0 ≤ (runS D n).outs ∧ (runS D n).outs ≤ n ∧ 0 ≤ (runS D n).tak ∧ (runS D n).tak ≤ 2 * n := by
  induction n with
  | zero => exact ⟨Int.le_refl 0, Int.le_refl 0, Int.le_refl 0, Int.le_refl 0⟩
  | succ n ih =>
    have := one_cnt (D := D) (k := (n : Int) % D.cnt) (i := (n : Int) / D.cnt) (s := runS D n)
    have e : runS D (n + 1) = oneS D ((n : Int) % D.cnt) ((n : Int) / D.cnt) (runS D n) := rfl
    rw [e]
    omega
theorem run_at {D : Dat} {a b : Int} (ha : 0 ≤ a) (hb : 0 ≤ b ∧ b < D.cnt) : runS D (a * D.cnt + b + 1).toNat = oneS D b a (runS D (a * D.cnt + b).toNat) := by
  have h0 : 0 ≤ a * D.cnt := Int.mul_nonneg ha (by omega)
  have e : (a * D.cnt + b + 1).toNat = (a * D.cnt + b).toNat + 1 := by omega
  rw [e]
  show oneS D (((a * D.cnt + b).toNat : Int) % D.cnt) (((a * D.cnt + b).toNat : Int) / D.cnt) _ = _
  have e2 : ((a * D.cnt + b).toNat : Int) = b + a * D.cnt := by omega
  rw [e2, Int.add_mul_emod_self_right, Int.add_mul_ediv_right _ _ (by omega), Int.emod_eq_of_lt hb.1 hb.2, Int.ediv_eq_zero_of_lt hb.1 hb.2, Int.zero_add]
/-- the state when all is done -/
def execS (D : Dat) : St := runS D (D.tur * D.cnt).toNat
theorem begin_w {D : Dat} {i r : MI} {o : Int} {Q : MI → Prop} (h : ClassP D i r) (ho : sta o) (hic : 0 ≤ D.inc) (hQ : ∀ i', FS o i i' → CSt D o i' (begS D) → Q i') : wp_X7_begin o i r Q := by
  have hor := sta_rng ho
  unfold wp_X7_begin
  refine Lp.r2 (fun x m => 0 ≤ x ∧ x ≤ 8 ∧ FS o i m ∧ ∀ k, 0 ≤ k → k < x → m (o + 1) k = 0) (fun x _ => (8 - x).toNat) ?_ ⟨by decide, by decide, FS.refl _ _, fun k a b => by omega⟩
  intro x m C ⟨h0, h1, h2, h3⟩ hC
  unfold b2_X7_begin
  refine ⟨fun q => ?_, fun q => ⟨⟨h0, by omega⟩, hC _ _ ⟨?_, ?_, ?_, ?_⟩ ?_⟩⟩
  · refine Lp.r2 (fun y m => 0 ≤ y ∧ y ≤ 2 ∧ FS o i m ∧ (∀ k, 0 ≤ k → k < 8 → m (o + 1) k = 0) ∧ ∀ a p, 0 ≤ a → a < y → 0 ≤ p → p < 16 → m (o + 3 + a) p = cutD D (D.told a p)) (fun y _ => (2 - y).toNat) ?_ ⟨by decide, by decide, h2, fun k a b => h3 k a (by omega), fun k p a b => by omega⟩
    intro y m2 C2 ⟨g0, g1, g2, g3, g4⟩ hC2
    unfold b23_X7_begin
    refine ⟨fun q2 => ?_, fun q2 => ?_⟩
    · refine hQ _ (g2.trans ((FS.st (by omega) (by omega)).trans (FS.st (by omega) (by omega)))) ⟨?_, ?_, ?_, ?_, ?_⟩
      · intro k a b; simp (disch := omega) only [st_row]; exact g3 k a b
      · intro a p c d e f; simp (disch := omega) only [st_row]; exact g4 a p c (by omega) e f
      · intro k a b; have b : k < 0 := b; omega
      · simp (disch := omega) only [st_ne, st_eq]; rfl
      · rw [st_eq]; show 0 = min 0 D.inc; omega
    · refine Lp.r2 (fun z m => 0 ≤ z ∧ z ≤ 16 ∧ FS o i m ∧ (∀ k, 0 ≤ k → k < 8 → m (o + 1) k = 0) ∧ ∀ a p, 0 ≤ a → (a < y ∨ (a = y ∧ p < z)) → 0 ≤ p → p < 16 → m (o + 3 + a) p = cutD D (D.told a p)) (fun z _ => (16 - z).toNat) ?_ ⟨by decide, by decide, g2, g3, fun a p b c d e => g4 a p b (by omega) d e⟩
      intro z m3 C3 ⟨f0, f1, f2, f3, f4⟩ hC3
      unfold b30_X7_begin
      have h5 := h.fs ho f2
      refine ⟨fun q3 => ?_, fun q3 => ⟨by omega, by omega, by omega, ?_⟩⟩
      · rw [wr_of (by omega) (by omega)]
        exact hC2 _ _ ⟨by omega, by omega, f2, f3, fun a p b c d e => f4 a p b (by omega) d e⟩ (by omega)
      · rw [cut_e h5, h5.told y z (by omega) (by omega) (by omega) (by omega), wr_of (by omega) (by omega)]
        refine ⟨by omega, hC3 _ _ ⟨by omega, by omega, f2.trans (FS.st (by omega) (by omega)), ?_, ?_⟩ (by omega)⟩
        · intro k a b; rw [st_row (by omega)]; exact f3 k a b
        · intro a p b c d e
          by_cases ee : a = y ∧ p = z
          · rw [ee.1, ee.2, st_eq]
          · rw [st_ne (by omega)]; exact f4 a p b (by omega) d e
  · rw [wr_of (by omega) (by omega)]; omega
  · rw [wr_of (by omega) (by omega)]; omega
  · exact h2.trans (FS.st (by omega) (by omega))
  · intro k a b
    rw [wr_of (by omega) (by omega)] at b
    by_cases e : k = x
    · rw [e, st_eq]
    · rw [st_ne (by omega)]; exact h3 k a (by omega)
  · rw [wr_of (by omega) (by omega)]; omega
theorem body_le {D : Dat} (ok : DOk D) : 0 ≤ D.tur * D.cnt ∧ D.tur * D.cnt ≤ 192 := by
  have h1 := ok.tur
  have h2 := ok.cnt
  refine ⟨Int.mul_nonneg (by omega) (by omega), ?_⟩
  have : D.tur * D.cnt ≤ 16 * 12 := Int.mul_le_mul h1.2 h2.2 (by omega) (by omega)
  omega
theorem inst_lt {D : Dat} (ok : DOk D) {a b : Int} (ha : 0 ≤ a ∧ a < D.tur) (hb : 0 ≤ b ∧ b < D.cnt) : 0 ≤ a * D.cnt + b ∧ a * D.cnt + b < D.tur * D.cnt := by
  have h0 : 0 ≤ a * D.cnt := Int.mul_nonneg ha.1 (by omega)
  refine ⟨by omega, ?_⟩
  have : (a + 1) * D.cnt ≤ D.tur * D.cnt := Int.mul_le_mul_of_nonneg_right (by omega) (by omega)
  rw [Int.add_mul] at this
  omega
theorem carryOut_w {D : Dat} {i r : MI} {o : Int} {Q : MI → Prop} (h : ClassP D i r) (ok : DOk D) (ho : sta o) (hQ : ∀ i', FS o i i' → CSt D o i' (execS D) → Q i') : wp_X6_carryOut o i r Q := by
  have hc := ok.cnt
  have ht := ok.tur
  have hb := body_le ok
  unfold wp_X6_carryOut
  refine begin_w h ho ok.inc.1 (fun i1 f1 s1 => ?_)
  refine Lp.r2 (fun x m => 0 ≤ x ∧ x ≤ D.tur ∧ FS o i m ∧ CSt D o m (runS D (x * D.cnt).toNat)) (fun x _ => (D.tur - x).toNat) ?_ ⟨by decide, by omega, f1, by rw [Int.zero_mul]; exact s1⟩
  intro x m C ⟨h0, h1, h2, h3⟩ hC
  dsimp only [b7_X6_carryOut]
  have hm := h.fs ho h2
  rw [hm.tur]
  refine ⟨fun q => hQ _ h2 ?_, fun q => ?_⟩
  · have e : x = D.tur := by omega
    rw [e] at h3
    exact h3
  · refine Lp.r2 (fun y m => 0 ≤ y ∧ y ≤ D.cnt ∧ FS o i m ∧ CSt D o m (runS D (x * D.cnt + y).toNat)) (fun y _ => (D.cnt - y).toNat) ?_ ⟨by decide, by omega, h2, by rw [Int.add_zero]; exact h3⟩
    intro y m2 C2 ⟨g0, g1, g2, g3⟩ hC2
    dsimp only [b17_X6_carryOut]
    have hm2 := h.fs ho g2
    rw [hm2.cnt]
    refine ⟨fun q2 => ?_, fun q2 => ⟨by omega, ?_⟩⟩
    · rw [wr_of (by omega) (by omega)]
      refine hC _ _ ⟨by omega, by omega, g2, ?_⟩ (by omega)
      have e : y = D.cnt := by omega
      rw [e] at g3
      rw [Int.add_mul, Int.one_mul]
      exact g3
    · have hi := inst_lt ok (a := x) (b := y) ⟨h0, by omega⟩ ⟨g0, by omega⟩
      have hrc := run_cnt (D := D) (x * D.cnt + y).toNat
      refine carryOne_w hm2 ok ⟨g0, by omega⟩ ⟨h0, by omega⟩ ho g3 (run_ok ok _ (by omega)) (fun _ => by omega) (fun i3 f3 s3 => ?_)
      rw [wr_of (by omega) (by omega)]
      refine hC2 _ _ ⟨by omega, by omega, g2.trans f3, ?_⟩ (by omega)
      rw [← Int.add_assoc, run_at h0 ⟨g0, by omega⟩]
      exact s3

/-! ===== what is done in order, asked ===== -/
def RC (D : Dat) (i : MI) : Prop := i 0 10 = 0 ∨ CSt D 61 i (execS D)
/-- after a call of the class that may carry out: what it leaves -/
def Cq (D : Dat) (c v : Int) (i i' r : MI) : Prop := (ClassP D i' r) ∧ (RC D i') ∧ (∀ a, 67 ≤ a → a ≤ 487 → i' a = i a) ∧ (i' 0 9 = i 0 9) ∧ (∀ a, 504 ≤ a → a ≠ 540 → i' a = i a) ∧ (c = 0 → i' 540 0 = jLo ((sJ v).toInt64) ∧ i' 540 1 = jHi ((sJ v).toInt64))
theorem Cq.p {D : Dat} {c v : Int} {i i' r : MI} (h0 : Cq D c v i i' r) : ClassP D i' r := h0.1
theorem Cq.rc {D : Dat} {c v : Int} {i i' r : MI} (h0 : Cq D c v i i' r) : RC D i' := h0.2.1
theorem Cq.k {D : Dat} {c v : Int} {i i' r : MI} (h0 : Cq D c v i i' r) : ∀ a, 67 ≤ a → a ≤ 487 → i' a = i a := h0.2.2.1
theorem Cq.m {D : Dat} {c v : Int} {i i' r : MI} (h0 : Cq D c v i i' r) : i' 0 9 = i 0 9 := h0.2.2.2.1
theorem Cq.f {D : Dat} {c v : Int} {i i' r : MI} (h0 : Cq D c v i i' r) : ∀ a, 504 ≤ a → a ≠ 540 → i' a = i a := h0.2.2.2.2.1
theorem Cq.out {D : Dat} {c v : Int} {i i' r : MI} (h0 : Cq D c v i i' r) : c = 0 → i' 540 0 = jLo ((sJ v).toInt64) ∧ i' 540 1 = jHi ((sJ v).toInt64) := h0.2.2.2.2.2
theorem Cq.mk {D : Dat} {c v : Int} {i i' r : MI} (h0 : ClassP D i' r) (h1 : RC D i') (h2 : ∀ a, 67 ≤ a → a ≤ 487 → i' a = i a) (h3 : i' 0 9 = i 0 9) (h4 : ∀ a, 504 ≤ a → a ≠ 540 → i' a = i a) (h5 : c = 0 → i' 540 0 = jLo ((sJ v).toInt64) ∧ i' 540 1 = jHi ((sJ v).toInt64)) : Cq D c v i i' r := ⟨h0, h1, h2, h3, h4, h5⟩
theorem CSt.congr {D : Dat} {o : Int} {i i' : MI} {s : St} (h : CSt D o i s) (g : ∀ a, o ≤ a → a ≤ o + 5 → i' a = i a) : CSt D o i' s := by
  refine ⟨?_, ?_, ?_, ?_, ?_⟩
  · rw [g _ (by omega) (by omega)]; exact h.r
  · intro m p a b; rw [g _ (by omega) (by omega)]; exact h.m m p a b
  · rw [g _ (by omega) (by omega)]; exact h.x
  · rw [g _ (by omega) (by omega)]; exact h.n
  · rw [g _ (by omega) (by omega)]; exact h.t
/-- what carrying out leaves alone -/
def FR (i i' : MI) : Prop := (∀ a, a ≠ 0 → (a < 61 ∨ 66 < a) → i' a = i a) ∧ ∀ c, c ≠ 10 → i' 0 c = i 0 c
theorem ClassP.fr {D : Dat} {i i' r : MI} (h : ClassP D i r) (g : FR i i') : ClassP D i' r := by
  refine h.congr ?_ (g.1 _ (by omega) (by omega)) (fun c _ => ?_) (g.1 _ (by omega) (by omega)) (fun a x y => g.1 _ (by omega) (by omega)) (fun a x y z => g.1 _ (by omega) (by omega)) (g.1 _ (by omega) (by omega)) (g.1 _ (by omega) (by omega)) (fun a x y => g.1 _ (by omega) (by omega)) (fun a x y => g.1 _ (by omega) (by omega)) rfl rfl
  · rw [g.1 _ (by omega) (by omega)]
  · rw [g.1 _ (by omega) (by omega)]
theorem xcarry_w {D : Dat} {i r : MI} {Q : MI → Prop} (h : ClassP D i r) (ok : DOk D) (hr : RC D i) (hQ : ∀ i', FR i i' → CSt D 61 i' (execS D) → Q i') : wp_X11_carryOut i r Q := by
  unfold wp_X11_carryOut s23_X11_carryOut
  refine ⟨fun e => ?_, fun e => ?_⟩
  · refine carryOut_w h ok (.inl rfl) (fun i1 f s => hQ _ ⟨?_, ?_⟩ (s.congr ?_))
    · intro a h1 h2; rw [st_row h1]; exact f a (by omega)
    · intro c hc; rw [st_ne (by omega), f 0 (by omega)]
    · intro a h1 h2; exact st_row (by omega)
  · rcases hr with q | q
    · exact absurd q e
    · exact hQ _ ⟨fun _ _ _ => rfl, fun _ _ => rfl⟩ q
theorem Cq.of {D : Dat} {c v : Int} {i i1 r : MI} (h : ClassP D i r) (g : FR i i1) (s : CSt D 61 i1 (execS D)) (hc : c ≠ 0) : Cq D c v i i1 r :=
  ⟨h.fr g, .inr s, fun a _ _ => g.1 _ (by omega) (by omega), g.2 _ (by decide), fun a _ _ => g.1 _ (by omega) (by omega), fun q => absurd q hc⟩
theorem Cq.ret {D : Dat} {v : Int} {i i1 r : MI} (h : ClassP D i r) (g : FR i i1) (s : CSt D 61 i1 (execS D)) : Cq D 0 v i (st (st i1 540 0 (jLo ((sJ v).toInt64))) 540 1 (jHi ((sJ v).toInt64))) r := by
  have g' : FR i (st (st i1 540 0 (jLo ((sJ v).toInt64))) 540 1 (jHi ((sJ v).toInt64))) → False ∨ True := fun _ => .inr trivial
  refine ⟨?_, .inr (s.congr (fun a _ _ => by simp (disch := omega) only [st_row])), ?_, ?_, ?_, fun _ => ⟨?_, ?_⟩⟩
  · refine (h.fr g).congr ?_ ?_ ?_ ?_ ?_ ?_ ?_ ?_ ?_ ?_ rfl rfl
    all_goals (intros; simp (disch := omega) only [st_row])
  · intro a _ _; simp (disch := omega) only [st_row]; exact g.1 _ (by omega) (by omega)
  · simp (disch := omega) only [st_row]; exact g.2 _ (by decide)
  · intro a _ _; simp (disch := omega) only [st_row]; exact g.1 _ (by omega) (by omega)
  · simp (disch := omega) only [st_ne, st_eq]
  · simp (disch := omega) only [st_eq]
theorem C_outputs {D : Dat} {i r : MI} {Q : Int → MI → Prop} (h : ClassP D i r) (ok : DOk D) (hr : RC D i) (hQ : ∀ i', Cq D 1 0 i i' r → Q (execS D).outs i') : wp_X11_outputs i r Q := by
  unfold wp_X11_outputs
  refine xcarry_w h ok hr (fun i' g s => ?_)
  rw [s.n]
  exact hQ _ (Cq.of h g s (by decide))
def coOutput (D : Dat) (p : Int) : Int := if 0 ≤ p ∧ p < (execS D).outs then 0 else 1
theorem exec_n {D : Dat} (ok : DOk D) : 0 ≤ (execS D).outs ∧ (execS D).outs ≤ 192 := by
  have := run_cnt (D := D) (D.tur * D.cnt).toNat
  have hb := body_le ok
  unfold execS
  omega
theorem FR.refl (i : MI) : FR i i := ⟨fun _ _ _ => rfl, fun _ _ => rfl⟩
theorem Cq.exc {D : Dat} {c v : Int} {i r : MI} (h : ClassP D i r) (hr : RC D i) (hc : c ≠ 0) : Cq D c v i i r :=
  ⟨h, hr, fun _ _ _ => rfl, rfl, fun _ _ _ => rfl, fun q => absurd q hc⟩
def coPlace (m p : Int) : Int := if (m = 77 ∨ m = 78) ∧ 0 ≤ p ∧ p ≤ 15 then 0 else 1
theorem isPlace_w {m p : Int} {i r : MI} {Q : Int → Prop} (hm : 0 ≤ m ∧ m < 65536) (hQ : Q (bz ((m = 77 ∨ m = 78) ∧ 0 ≤ p ∧ p ≤ 15))) : wp_X11_isPlace m p i r Q := by
  unfold wp_X11_isPlace s23_X11_isPlace s24_X11_isPlace
  refine indexOf_w (by decide) hm.1 hm.2 ?_
  have hx := ixS_2 m
  rw [isWithin_eq]
  unfold bz at hQ ⊢
  by_cases e : m = 77 ∨ m = 78
  · have hx0 : ¬ ixS 2 m < 0 := by rw [hx]; rcases e with rfl | rfl <;> decide
    refine ⟨fun q => absurd q hx0, fun _ => ?_⟩
    by_cases e2 : 0 ≤ p ∧ p ≤ 15
    · rw [if_pos e2]
      rw [if_pos ⟨e, e2⟩] at hQ
      exact ⟨fun q => absurd q (by decide), fun _ => ⟨.inr rfl, hQ⟩⟩
    · rw [if_neg e2]
      rw [if_neg (by omega)] at hQ
      exact ⟨fun _ => ⟨.inl rfl, hQ⟩, fun q => absurd rfl q⟩
  · have hx0 : ixS 2 m < 0 := by rw [hx, if_neg (by omega), if_neg (by omega)]; decide
    rw [if_neg (by omega)] at hQ
    exact ⟨fun _ => ⟨.inl rfl, hQ⟩, fun q => absurd hx0 q⟩
theorem ixS_m {m : Int} (h : m = 77 ∨ m = 78) : ixS 2 m = m - 77 := by
  rcases h with rfl | rfl <;> decide
def coReg (c : Int) : Int := if 97 ≤ c ∧ c ≤ 104 then 0 else 1
theorem Fm.trans {i j k : MI} (h : Fm i j) (g : Fm j k) : Fm i k := fun a q => (g a q).trans (h a q)
theorem Fm.s4 {i : MI} {k v : Int} : Fm i (st i 504 k v) := fun a q => st_row (by omega)
/-! ===== processes ===== -/
abbrev PSt : Type := (Int → Int) × (Int → Int)
def chP (D : Dat) (s : PSt) (p : Int) : Int := D.ach p (s.1 p)
abbrev canP (D : Dat) (lim : Int → Int) (s : PSt) (p : Int) : Prop := s.1 p < D.ac p ∧ (D.apt p (s.1 p) = 1 → s.2 (chP D s p) < lim (chP D s p)) ∧ (D.apt p (s.1 p) = 0 → 0 < s.2 (chP D s p))
def actP (D : Dat) (s : PSt) (p : Int) : PSt := (fun q => if q = p then s.1 p + 1 else s.1 q, fun c => if c = chP D s p then s.2 c + (2 * D.apt p (s.1 p) - 1) else s.2 c)

def goF (D : Dat) (lim : Int → Int) (p : Int) : Nat → PSt → PSt
  | 0, s => s
  | n + 1, s => if canP D lim s p then goF D lim p n (actP D s p) else s
def goP (D : Dat) (lim : Int → Int) (p : Int) (s : PSt) : PSt := goF D lim p (D.ac p - s.1 p).toNat s
theorem goP_yes {D : Dat} {lim : Int → Int} {p : Int} {s : PSt} (h : canP D lim s p) : goP D lim p s = goP D lim p (actP D s p) := by
  unfold goP
  have h1 := h.1
  have e1 : (actP D s p).1 p = s.1 p + 1 := by unfold actP; simp
  obtain ⟨n, hn⟩ : ∃ n, (D.ac p - s.1 p).toNat = n + 1 := ⟨(D.ac p - s.1 p).toNat - 1, by omega⟩
  rw [e1, hn, show (D.ac p - (s.1 p + 1)).toNat = n by omega]
  show (if canP D lim s p then _ else _) = _
  rw [if_pos h]
theorem goP_no {D : Dat} {lim : Int → Int} {p : Int} {s : PSt} (h : ¬ canP D lim s p) : goP D lim p s = s := by
  unfold goP
  cases (D.ac p - s.1 p).toNat with
  | zero => rfl
  | succ n =>
    show (if canP D lim s p then _ else _) = _
    rw [if_neg h]
def okP (D : Dat) (lim : Int → Int) (s : PSt) : Prop := (∀ p, 0 ≤ p → p < 4 → 0 ≤ s.1 p ∧ s.1 p ≤ D.ac p) ∧ (∀ c, 0 ≤ c → c < 4 → 0 ≤ s.2 c ∧ s.2 c ≤ lim c)
theorem okP.a {D : Dat} {lim : Int → Int} {s : PSt} (h0 : okP D lim s) : ∀ p, 0 ≤ p → p < 4 → 0 ≤ s.1 p ∧ s.1 p ≤ D.ac p := h0.1
theorem okP.h {D : Dat} {lim : Int → Int} {s : PSt} (h0 : okP D lim s) : ∀ c, 0 ≤ c → c < 4 → 0 ≤ s.2 c ∧ s.2 c ≤ lim c := h0.2
theorem okP.mk {D : Dat} {lim : Int → Int} {s : PSt} (h0 : ∀ p, 0 ≤ p → p < 4 → 0 ≤ s.1 p ∧ s.1 p ≤ D.ac p) (h1 : ∀ c, 0 ≤ c → c < 4 → 0 ≤ s.2 c ∧ s.2 c ≤ lim c) : okP D lim s := ⟨h0, h1⟩
def limOk (lim : Int → Int) : Prop := ∀ c, 0 ≤ c → c < 4 → 1 ≤ lim c ∧ lim c ≤ 16
theorem ch_r {D : Dat} (ok : DOk D) {lim : Int → Int} {s : PSt} {p : Int} (hp : 0 ≤ p ∧ p < 4) (hs : okP D lim s) (h : s.1 p < D.ac p) : 0 ≤ chP D s p ∧ chP D s p < 4 ∧ (D.apt p (s.1 p) = 0 ∨ D.apt p (s.1 p) = 1) := by
  have ha := (hs.a p hp.1 hp.2).1
  have h1 := ok.ach p _ hp.1 hp.2 ha h
  exact ⟨h1.1, h1.2, ok.apt p _ hp.1 hp.2 ha h⟩
theorem act_ok {D : Dat} (ok : DOk D) {lim : Int → Int} {s : PSt} {p : Int} (hp : 0 ≤ p ∧ p < 4) (hs : okP D lim s) (h : canP D lim s p) : okP D lim (actP D s p) := by
  obtain ⟨h1, h2, h3⟩ := h
  have hc := ch_r ok hp hs h1
  refine ⟨fun q a b => ?_, fun c a b => ?_⟩
  · have e : (actP D s p).1 q = if q = p then s.1 p + 1 else s.1 q := rfl
    rw [e]
    have g1 := hs.a q a b
    have g2 := hs.a p hp.1 hp.2
    by_cases e : q = p
    · subst e; rw [if_pos rfl]; omega
    · rw [if_neg e]; omega
  · have e : (actP D s p).2 c = if c = chP D s p then s.2 c + (2 * D.apt p (s.1 p) - 1) else s.2 c := rfl
    rw [e]
    have g := hs.h c a b
    by_cases e : c = chP D s p
    · have g := hs.h _ hc.1 hc.2.1
      rw [if_pos e, e]
      rcases hc.2.2 with q | q
      · have := h3 q; rw [q]; omega
      · have := h2 q; rw [q]; omega
    · rw [if_neg e]; omega
def sumP (s : PSt) : Int := s.1 0 + s.1 1 + s.1 2 + s.1 3
theorem act_sum {D : Dat} {s : PSt} {p : Int} (hp : p = 0 ∨ p = 1 ∨ p = 2 ∨ p = 3) : sumP (actP D s p) = sumP s + 1 := by
  unfold sumP actP
  rcases hp with rfl | rfl | rfl | rfl <;> simp <;> omega
theorem sum_le {D : Dat} (ok : DOk D) {lim : Int → Int} {s : PSt} (hs : okP D lim s) : 0 ≤ sumP s ∧ sumP s ≤ 64 := by
  have a0 := hs.a 0 (by decide) (by decide)
  have a1 := hs.a 1 (by decide) (by decide)
  have a2 := hs.a 2 (by decide) (by decide)
  have a3 := hs.a 3 (by decide) (by decide)
  have b0 := ok.ac 0 (by decide) (by decide)
  have b1 := ok.ac 1 (by decide) (by decide)
  have b2 := ok.ac 2 (by decide) (by decide)
  have b3 := ok.ac 3 (by decide) (by decide)
  unfold sumP
  omega
def prP (D : Dat) (lim : Int → Int) (s : PSt) : Nat → PSt
  | 0 => s
  | k + 1 => goP D lim k (prP D lim s k)
def rndP (D : Dat) (lim : Int → Int) : Nat → PSt
  | 0 => (fun _ => 0, fun _ => 0)
  | n + 1 => prP D lim (rndP D lim n) 4
/-- the end of the processes' rounds -/
def FinP (D : Dat) (lim : Int → Int) (s : PSt) : Prop := ∃ n, s = rndP D lim n ∧ prP D lim s 4 = s
theorem fin_uniq {D : Dat} {lim : Int → Int} {s t : PSt} (h : FinP D lim s) (g : FinP D lim t) : s = t := by
  have key : ∀ n k, prP D lim (rndP D lim n) 4 = rndP D lim n → rndP D lim (n + k) = rndP D lim n := by
    intro n k hn
    induction k with
    | zero => rfl
    | succ k ih => show prP D lim (rndP D lim (n + k)) 4 = _; rw [ih, hn]
  obtain ⟨n, h1, h2⟩ := h
  obtain ⟨m, g1, g2⟩ := g
  rw [h1] at h2
  rw [g1] at g2
  rw [h1, g1]
  rcases Nat.le_total n m with q | q
  · have := key n (m - n) h2
    rw [show n + (m - n) = m by omega] at this
    exact this.symm
  · have := key m (n - m) g2
    rw [show m + (n - m) = n by omega] at this
    exact this
/-! the class -/
def CPS (i : MI) (lim : Int → Int) (s : PSt) : Prop := (∀ p, 0 ≤ p → p < 4 → i 503 p = s.1 p) ∧ (∀ c, 0 ≤ c → c < 4 → i 502 c = s.2 c) ∧ (∀ c, 0 ≤ c → c < 4 → i 501 c = lim c)
theorem CPS.a {i : MI} {lim : Int → Int} {s : PSt} (h0 : CPS i lim s) : ∀ p, 0 ≤ p → p < 4 → i 503 p = s.1 p := h0.1
theorem CPS.h {i : MI} {lim : Int → Int} {s : PSt} (h0 : CPS i lim s) : ∀ c, 0 ≤ c → c < 4 → i 502 c = s.2 c := h0.2.1
theorem CPS.l {i : MI} {lim : Int → Int} {s : PSt} (h0 : CPS i lim s) : ∀ c, 0 ≤ c → c < 4 → i 501 c = lim c := h0.2.2
theorem CPS.mk {i : MI} {lim : Int → Int} {s : PSt} (h0 : ∀ p, 0 ≤ p → p < 4 → i 503 p = s.1 p) (h1 : ∀ c, 0 ≤ c → c < 4 → i 502 c = s.2 c) (h2 : ∀ c, 0 ≤ c → c < 4 → i 501 c = lim c) : CPS i lim s := ⟨h0, h1, h2⟩
def FP (i i' : MI) : Prop := ∀ a, (a < 501 ∨ 503 < a) → i' a = i a
theorem FP.refl (i : MI) : FP i i := fun _ _ => rfl
theorem FP.trans {i j k : MI} (h : FP i j) (g : FP j k) : FP i k := fun a q => (g a q).trans (h a q)
theorem FP.st {a k v : Int} {i : MI} (h1 : 501 ≤ a ∧ a ≤ 503) : FP i (st i a k v) := fun b q => st_row (by omega)
theorem ClassP.fp {D : Dat} {i i' r : MI} (h : ClassP D i r) (g : FP i i') : ClassP D i' r := by
  refine h.congr ?_ (g _ (by omega)) (fun c _ => ?_) (g _ (by omega)) (fun a x y => g _ (by omega)) (fun a x y z => g _ (by omega)) (g _ (by omega)) (g _ (by omega)) (fun a x y => g _ (by omega)) (fun a x y => g _ (by omega)) rfl rfl
  · rw [g _ (by omega)]
  · rw [g _ (by omega)]
theorem goOn_w {D : Dat} {i r : MI} {lim : Int → Int} {p : Int} {s : PSt} {Q : MI → Prop} (h : ClassP D i r) (ok : DOk D) (hl : limOk lim) (hp : 0 ≤ p ∧ p < 4) (hs : CPS i lim s) (hso : okP D lim s)
    (hQ : ∀ i', FP i i' → CPS i' lim (goP D lim p s) → okP D lim (goP D lim p s) → sumP s ≤ sumP (goP D lim p s) → (i' 503 p ≤ i 503 p → goP D lim p s = s) → (¬ i' 503 p ≤ i 503 p → sumP s < sumP (goP D lim p s)) → Q i') : wp_X5_goOn p i r Q := by
  have hp4 : p = 0 ∨ p = 1 ∨ p = 2 ∨ p = 3 := by omega
  unfold wp_X5_goOn
  refine ⟨hp, ?_⟩
  have hac := ok.ac p hp.1 hp.2
  refine Lp.r2 (fun x m => ∃ s', FP i m ∧ CPS m lim s' ∧ okP D lim s' ∧ x = s'.1 p ∧ goP D lim p s = goP D lim p s' ∧ s.1 p ≤ x ∧ sumP s ≤ sumP s' ∧ (x = s.1 p → s' = s) ∧ (x ≠ s.1 p → sumP s < sumP s')) (fun x _ => (16 - x).toNat) ?_ ⟨s, FP.refl _, hs, hso, hs.a p hp.1 hp.2, rfl, by rw [hs.a p hp.1 hp.2]; omega, by omega, fun _ => rfl, fun q => absurd (hs.a p hp.1 hp.2) q⟩
  intro x m C ⟨s', f, cs, os, hx, hg, hle, hsum, hst, hmv⟩ hC
  dsimp only [b7_X5_goOn]
  have hm := h.fp f
  have ha := os.a p hp.1 hp.2
  have fin : ¬ canP D lim s' p → Q m := by
    intro hn
    rw [goP_no hn] at hg
    refine hQ m f (by rw [hg]; exact cs) (by rw [hg]; exact os) (by rw [hg]; exact hsum) ?_ ?_
    · rw [cs.a p hp.1 hp.2, hs.a p hp.1 hp.2, hg]
      intro q
      exact hst (by omega)
    · rw [cs.a p hp.1 hp.2, hs.a p hp.1 hp.2, hg]
      intro q
      exact hmv (by omega)
  rw [hm.ac p hp.1 hp.2]
  refine ⟨hp, fun q => fin (fun w => by have := w.1; omega), fun q => ⟨hp, by omega, ?_⟩⟩
  have h1 : s'.1 p < D.ac p := by omega
  have hc := ch_r ok hp os h1
  rw [hx, hm.ach p _ hp.1 hp.2 ha.1 h1, hm.apt p _ hp.1 hp.2 ha.1 h1]
  show (0 ≤ chP D s' p ∧ chP D s' p < 4) ∧ _
  rw [show D.ach p (s'.1 p) = chP D s' p from rfl, cs.h _ hc.1 hc.2.1, cs.l _ hc.1 hc.2.1]
  have gh := os.h _ hc.1 hc.2.1
  have gl := hl _ hc.1 hc.2.1
  rw [wr_of (x := s'.2 (chP D s' p) + _) (by omega) (by omega), wr_of (x := s'.1 p + 1) (by omega) (by omega)]
  unfold s59_X5_goOn
  refine ⟨by omega, hp, by omega, fun q2 => fin (fun w => ?_), fun q2 => ⟨by omega, fun q3 => ⟨by omega, hp, ?_⟩, fun q3 => fin (fun w => ?_)⟩⟩
  · rcases hc.2.2 with e | e
    · have := w.2.2 e; omega
    · omega
  · have hcan : canP D lim s' p := ⟨h1, fun e => by omega, fun e => by omega⟩
    refine hC _ _ ⟨actP D s' p, f.trans ((FP.st (by decide)).trans (FP.st (by decide))), ⟨?_, ?_, ?_⟩, act_ok ok hp os hcan, ?_, ?_, by omega, ?_, ?_, ?_⟩ (by omega)
    · intro q a b
      show _ = if q = p then s'.1 p + 1 else s'.1 q
      by_cases e : q = p
      · rw [e, st_eq, if_pos rfl]
      · rw [st_ne (by omega), st_row (by decide), if_neg e]; exact cs.a q a b
    · intro c a b
      show _ = if c = chP D s' p then s'.2 c + (2 * D.apt p (s'.1 p) - 1) else s'.2 c
      rw [st_row (by decide)]
      by_cases e : c = chP D s' p
      · rw [e, st_eq, if_pos rfl]
      · rw [st_ne (by omega), if_neg e]; exact cs.h c a b
    · intro c a b
      rw [st_row (by decide), st_row (by decide)]; exact cs.l c a b
    · show _ = if p = p then s'.1 p + 1 else s'.1 p
      rw [if_pos rfl]
    · rw [hg, goP_yes hcan]
    · rw [act_sum hp4]; omega
    · intro q; omega
    · intro q; rw [act_sum hp4]; omega
  · rcases hc.2.2 with e | e
    · omega
    · have := w.2.1 e; omega
theorem go_w {D : Dat} {i r : MI} {lim : Int → Int} {Q : MI → Prop} (h : ClassP D i r) (ok : DOk D) (hl : limOk lim) (hlim : ∀ c, 0 ≤ c → c < 4 → i 501 c = lim c)
    (hQ : ∀ i' s, FP i i' → CPS i' lim s → okP D lim s → FinP D lim s → Q i') : wp_X5_go i r Q := by
  unfold wp_X5_go
  refine Lp.r2 (fun x m => 0 ≤ x ∧ x ≤ 4 ∧ FP i m ∧ m 501 = i 501 ∧ ∀ k, 0 ≤ k → k < x → m 502 k = 0) (fun x _ => (4 - x).toNat) ?_ ⟨by decide, by decide, FP.refl _, rfl, fun k a b => by omega⟩
  intro x m C ⟨h0, h1, h2, h3, h4⟩ hC
  dsimp only [b2_X5_go]
  refine ⟨fun q => ?_, fun q => ⟨⟨h0, by omega⟩, ?_⟩⟩
  · refine Lp.r2 (fun x m => 0 ≤ x ∧ x ≤ 4 ∧ FP i m ∧ m 501 = i 501 ∧ (∀ k, 0 ≤ k → k < 4 → m 502 k = 0) ∧ ∀ k, 0 ≤ k → k < x → m 503 k = 0) (fun x _ => (4 - x).toNat) ?_ ⟨by decide, by decide, h2, h3, fun k a b => h4 k a (by omega), fun k a b => by omega⟩
    intro x m C ⟨h0, h1, h2, h3, h4, h5⟩ hC
    dsimp only [b22_X5_go]
    refine ⟨fun q => ?_, fun q => ⟨⟨h0, by omega⟩, ?_⟩⟩
    · have s0 : CPS m lim (rndP D lim 0) := ⟨fun p a b => h5 p a (by omega), fun c a b => h4 c a b, fun c a b => by rw [h3]; exact hlim c a b⟩
      have o0 : okP D lim (rndP D lim 0) := ⟨fun p a b => ⟨Int.le_refl 0, (ok.ac p a b).1⟩, fun c a b => ⟨Int.le_refl 0, by have := hl c a b; show (0 : Int) ≤ lim c; omega⟩⟩
      refine Lp.r3 (fun (x1 x2 : Int) (m : MI) => 0 ≤ x2 ∧ x2 ≤ 65 ∧ FP i m ∧ CPS m lim (rndP D lim x2.toNat) ∧ okP D lim (rndP D lim x2.toNat) ∧ (x1 = 0 → FinP D lim (rndP D lim x2.toNat)) ∧ (x1 ≠ 0 → x2 ≤ sumP (rndP D lim x2.toNat))) (fun _ x2 _ => (65 - x2).toNat) ?_ ⟨by decide, by decide, h2, s0, o0, fun q => absurd q (by decide), fun _ => (sum_le ok o0).1⟩
      intro x1 x2 m C ⟨g0, g1, g2, g3, g4, g5, g6⟩ hC
      dsimp only [b44_X5_go, s109_X5_go]
      have hsl := sum_le ok g4
      refine ⟨fun q => hQ m _ g2 g3 g4 ?_, fun q => ⟨fun q2 => hQ m _ g2 g3 g4 (g5 q2), fun q2 => ?_⟩⟩
      · by_cases e : x1 = 0
        · exact g5 e
        · have := g6 e; omega
      · refine Lp.r3 (fun (y1 y3 : Int) (m : MI) => 0 ≤ y3 ∧ y3 ≤ 4 ∧ FP i m ∧ CPS m lim (prP D lim (rndP D lim x2.toNat) y3.toNat) ∧ okP D lim (prP D lim (rndP D lim x2.toNat) y3.toNat) ∧ (y1 = 0 → prP D lim (rndP D lim x2.toNat) y3.toNat = rndP D lim x2.toNat) ∧ (y1 ≠ 0 → sumP (rndP D lim x2.toNat) < sumP (prP D lim (rndP D lim x2.toNat) y3.toNat))) (fun _ y3 _ => (4 - y3).toNat) ?_ ⟨by decide, by decide, g2, g3, g4, fun _ => rfl, fun q => absurd rfl q⟩
        intro y1 y3 m C2 ⟨k0, k1, k2, k3, k4, k5, k6⟩ hC2
        dsimp only [b58_X5_go, s91_X5_go, s96_X5_go]
        refine ⟨fun q3 => ?_, fun q3 => ⟨⟨k0, by omega⟩, ?_⟩⟩
        · have e4 : y3.toNat = 4 := by omega
          rw [e4] at k3 k4 k5 k6
          have e5 : (x2 + 1).toNat = x2.toNat + 1 := by omega
          have e6 : rndP D lim (x2.toNat + 1) = prP D lim (rndP D lim x2.toNat) 4 := rfl
          rw [wr_of (by omega) (by omega)]
          refine hC _ _ _ ⟨by omega, by omega, k2, by rw [e5, e6]; exact k3, by rw [e5, e6]; exact k4, fun z => ?_, fun z => ?_⟩ (by omega)
          · rw [e5, e6, k5 z]
            exact ⟨x2.toNat, rfl, k5 z⟩
          · rw [e5, e6]
            have := k6 z
            have := g6 (by omega)
            omega
        · have hm := h.fp k2
          refine goOn_w hm ok hl ⟨k0, by omega⟩ k3 k4 (fun i' f c o le st1 mv => ?_)
          have e7 : goP D lim y3 (prP D lim (rndP D lim x2.toNat) y3.toNat) = prP D lim (rndP D lim x2.toNat) (y3 + 1).toNat := by
            rw [show (y3 + 1).toNat = y3.toNat + 1 by omega]
            show _ = goP D lim (y3.toNat : Int) _
            rw [show (y3.toNat : Int) = y3 by omega]
          rw [e7] at c o le st1 mv
          rw [wr_of (x := y3 + 1) (by omega) (by omega)]
          refine ⟨fun z => ⟨⟨k0, by omega⟩, fun z2 => ?_, fun z2 => ?_⟩, fun z => ?_⟩
          · refine hC2 _ _ _ ⟨by omega, by omega, k2.trans f, c, o, fun _ => ?_, fun w => absurd rfl w⟩ (by omega)
            rw [st1 z2]; exact k5 z
          · refine hC2 _ _ _ ⟨by omega, by omega, k2.trans f, c, o, fun w => absurd w (by decide), fun _ => ?_⟩ (by omega)
            have := mv z2
            rw [k5 z] at this
            exact this
          · refine hC2 _ _ _ ⟨by omega, by omega, k2.trans f, c, o, fun w => absurd w (by decide), fun _ => ?_⟩ (by omega)
            have := k6 z
            omega
    · rw [wr_of (by omega) (by omega)]
      refine hC _ _ ⟨by omega, by omega, h2.trans (FP.st (by decide)), by rw [st_row (by decide)]; exact h3, fun k a b => by rw [st_row (by decide)]; exact h4 k a b, fun k a b => ?_⟩ (by omega)
      by_cases e : k = x
      · rw [e, st_eq]
      · rw [st_ne (by omega)]; exact h5 k a (by omega)
  · rw [wr_of (by omega) (by omega)]
    refine hC _ _ ⟨by omega, by omega, h2.trans (FP.st (by decide)), by rw [st_row (by decide)]; exact h3, fun k a b => ?_⟩ (by omega)
    by_cases e : k = x
    · rw [e, st_eq]
    · rw [st_ne (by omega)]; exact h4 k a (by omega)

def left (D : Dat) (s : PSt) : Prop := s.1 0 < D.ac 0 ∨ s.1 1 < D.ac 1 ∨ s.1 2 < D.ac 2 ∨ s.1 3 < D.ac 3
theorem left_of {D : Dat} {s : PSt} {p : Int} (hp : 0 ≤ p ∧ p < 4) (h : s.1 p < D.ac p) : left D s := by
  have : p = 0 ∨ p = 1 ∨ p = 2 ∨ p = 3 := by omega
  unfold left
  rcases this with rfl | rfl | rfl | rfl
  · exact .inl h
  · exact .inr (.inl h)
  · exact .inr (.inr (.inl h))
  · exact .inr (.inr (.inr h))
theorem left_no {D : Dat} {s : PSt} (h : ∀ p, 0 ≤ p → p < 4 → ¬ s.1 p < D.ac p) : ¬ left D s := by
  intro q
  rcases q with q | q | q | q
  · exact h 0 (by decide) (by decide) q
  · exact h 1 (by decide) (by decide) q
  · exact h 2 (by decide) (by decide) q
  · exact h 3 (by decide) (by decide) q
theorem isLeft_w {D : Dat} {i r : MI} {lim : Int → Int} {s : PSt} {Q : Int → Prop} (h : ClassP D i r) (cs : CPS i lim s) (h1 : left D s → Q 1) (h0 : ¬ left D s → Q 0) : wp_X5_isSomeLeft i r Q := by
  unfold wp_X5_isSomeLeft
  refine Lp.r1 (fun (x : Int) => 0 ≤ x ∧ x ≤ 4 ∧ ∀ p, 0 ≤ p → p < x → ¬ s.1 p < D.ac p) (fun x => (4 - x).toNat) ?_ ⟨by decide, by decide, fun p a b => by omega⟩
  intro x C ⟨g0, g1, g2⟩ hC
  dsimp only [b2_X5_isSomeLeft]
  refine ⟨fun q => h0 (left_no (fun p a b => g2 p a (by omega))), fun q => ⟨⟨g0, by omega⟩, ⟨g0, by omega⟩, ?_⟩⟩
  rw [h.ac x g0 (by omega), cs.a x g0 (by omega), wr_of (by omega) (by omega)]
  refine ⟨fun q2 => hC _ ⟨by omega, by omega, fun p a b => ?_⟩ (by omega), fun q2 => h1 (left_of ⟨g0, by omega⟩ (by omega))⟩
  by_cases e : p = x
  · rw [e]; omega
  · exact g2 p a (by omega)
theorem countDone_w {D : Dat} (ok : DOk D) {i r : MI} {lim : Int → Int} {s : PSt} {Q : Int → Prop} (cs : CPS i lim s) (os : okP D lim s) (hQ : Q (sumP s)) : wp_X5_countDone i r Q := by
  have a0 := os.a 0 (by decide) (by decide)
  have a1 := os.a 1 (by decide) (by decide)
  have a2 := os.a 2 (by decide) (by decide)
  have a3 := os.a 3 (by decide) (by decide)
  have b0 := ok.ac 0 (by decide) (by decide)
  have b1 := ok.ac 1 (by decide) (by decide)
  have b2 := ok.ac 2 (by decide) (by decide)
  have b3 := ok.ac 3 (by decide) (by decide)
  have e0 := cs.a 0 (by decide) (by decide)
  have e1 := cs.a 1 (by decide) (by decide)
  have e2 := cs.a 2 (by decide) (by decide)
  have e3 := cs.a 3 (by decide) (by decide)
  unfold wp_X5_countDone
  refine ⟨5, ?_⟩
  have w1 : wr (0 + 1) = 1 := by decide
  have w2 : wr (1 + 1) = 2 := by decide
  have w3 : wr (2 + 1) = 3 := by decide
  have w4 : wr (3 + 1) = 4 := by decide
  simp only [LoopP, b4_X5_countDone, w1, w2, w3, w4, e0, e1, e2, e3]
  rw [wr_of (x := 0 + s.1 0) (by omega) (by omega), wr_of (x := 0 + s.1 0 + s.1 1) (by omega) (by omega), wr_of (x := 0 + s.1 0 + s.1 1 + s.1 2) (by omega) (by omega), wr_of (x := 0 + s.1 0 + s.1 1 + s.1 2 + s.1 3) (by omega) (by omega)]
  have e : 0 + s.1 0 + s.1 1 + s.1 2 + s.1 3 = sumP s := by unfold sumP; omega
  rw [e]
  exact ⟨fun q => absurd q (by decide), fun _ => ⟨by decide, fun q => absurd q (by decide), fun _ => ⟨by decide, fun q => absurd q (by decide), fun _ => ⟨by decide, fun q => absurd q (by decide), fun _ => ⟨by decide, fun _ => hQ, fun q => absurd q (by decide)⟩⟩⟩⟩⟩
theorem goTheir_w {D : Dat} {i r : MI} {Q : MI → Prop} (h : ClassP D i r) (ok : DOk D)
    (hQ : ∀ i' s, FP i i' → CPS i' D.dep s → okP D D.dep s → FinP D D.dep s → Q i') : wp_X5_goWithTheirDepths i r Q := by
  unfold wp_X5_goWithTheirDepths
  refine Lp.r2 (fun (x : Int) (m : MI) => 0 ≤ x ∧ x ≤ 4 ∧ FP i m ∧ ∀ k, 0 ≤ k → k < x → m 501 k = D.dep k) (fun x _ => (4 - x).toNat) ?_ ⟨by decide, by decide, FP.refl _, fun k a b => by omega⟩
  intro x m C ⟨h0, h1, h2, h3⟩ hC
  dsimp only [b2_X5_goWithTheirDepths]
  have hm := h.fp h2
  refine ⟨fun q => ?_, fun q => ⟨⟨h0, by omega⟩, ⟨h0, by omega⟩, ?_⟩⟩
  · exact go_w hm ok (fun c a b => ok.dep c a b) (fun c a b => h3 c a (by omega)) (fun i' s f c o fi => hQ i' s (h2.trans f) c o fi)
  · rw [wr_of (by omega) (by omega), hm.dep x h0 (by omega)]
    refine hC _ _ ⟨by omega, by omega, h2.trans (FP.st (by decide)), fun k a b => ?_⟩ (by omega)
    by_cases e : k = x
    · rw [e, st_eq]
    · rw [st_ne (by omega)]; exact h3 k a (by omega)
/-- after a call of the class over processes -/
def Cg (D : Dat) (c v : Int) (i i' r : MI) : Prop := (ClassP D i' r) ∧ (∀ a, a ≤ 500 → i' a = i a) ∧ (∀ a, 504 ≤ a → a ≠ 540 → i' a = i a) ∧ (c = 0 → i' 540 0 = jLo ((sJ v).toInt64) ∧ i' 540 1 = jHi ((sJ v).toInt64))
theorem Cg.p {D : Dat} {c v : Int} {i i' r : MI} (h0 : Cg D c v i i' r) : ClassP D i' r := h0.1
theorem Cg.k {D : Dat} {c v : Int} {i i' r : MI} (h0 : Cg D c v i i' r) : ∀ a, a ≤ 500 → i' a = i a := h0.2.1
theorem Cg.f {D : Dat} {c v : Int} {i i' r : MI} (h0 : Cg D c v i i' r) : ∀ a, 504 ≤ a → a ≠ 540 → i' a = i a := h0.2.2.1
theorem Cg.out {D : Dat} {c v : Int} {i i' r : MI} (h0 : Cg D c v i i' r) : c = 0 → i' 540 0 = jLo ((sJ v).toInt64) ∧ i' 540 1 = jHi ((sJ v).toInt64) := h0.2.2.2
theorem Cg.mk {D : Dat} {c v : Int} {i i' r : MI} (h0 : ClassP D i' r) (h1 : ∀ a, a ≤ 500 → i' a = i a) (h2 : ∀ a, 504 ≤ a → a ≠ 540 → i' a = i a) (h3 : c = 0 → i' 540 0 = jLo ((sJ v).toInt64) ∧ i' 540 1 = jHi ((sJ v).toInt64)) : Cg D c v i i' r := ⟨h0, h1, h2, h3⟩
theorem cp540 {D : Dat} {i r : MI} {k v : Int} (h : ClassP D i r) : ClassP D (st i 540 k v) r := by
  refine h.congr ?_ ?_ ?_ ?_ ?_ ?_ ?_ ?_ ?_ ?_ rfl rfl
  all_goals (intros; simp (disch := omega) only [st_row])
theorem Cg.of {D : Dat} {c v : Int} {i i1 r : MI} (h : ClassP D i r) (g : FP i i1) (hc : c ≠ 0) : Cg D c v i i1 r :=
  ⟨h.fp g, fun a _ => g _ (by omega), fun a _ _ => g _ (by omega), fun q => absurd q hc⟩
theorem Cg.ret {D : Dat} {v : Int} {i i1 r : MI} (h : ClassP D i r) (g : FP i i1) : Cg D 0 v i (st (st i1 540 0 (jLo ((sJ v).toInt64))) 540 1 (jHi ((sJ v).toInt64))) r := by
  refine ⟨cp540 (cp540 (h.fp g)), ?_, ?_, fun _ => ⟨?_, ?_⟩⟩
  · intro a _; simp (disch := omega) only [st_row]; exact g _ (by omega)
  · intro a _ _; simp (disch := omega) only [st_row]; exact g _ (by omega)
  · simp (disch := omega) only [st_ne, st_eq]
  · simp (disch := omega) only [st_eq]
theorem C_done {D : Dat} {i r : MI} {Q : Int → MI → Prop} (h : ClassP D i r) (ok : DOk D) (hQ : ∀ s i', FinP D D.dep s → Cg D 1 0 i i' r → Q (sumP s) i') : wp_X11_done i r Q := by
  unfold wp_X11_done
  exact goTheir_w h ok (fun i' s f c o fi => countDone_w ok c o (hQ s i' fi (Cg.of h f (by decide))))
theorem C_areLocked {D : Dat} {i r : MI} {Q : Int → MI → Prop} (h : ClassP D i r) (ok : DOk D) (hQ : ∀ s i' v, FinP D D.dep s → Cg D 1 0 i i' r → (left D s → v = 1) → (¬ left D s → v = 0) → Q v i') : wp_X11_areLocked i r Q := by
  unfold wp_X11_areLocked
  refine goTheir_w h ok (fun i' s f c o fi => isLeft_w (h.fp f) c (fun l => ⟨.inr rfl, ?_⟩) (fun l => ⟨.inl rfl, ?_⟩))
  · exact hQ s i' 1 fi (Cg.of h f (by decide)) (fun _ => rfl) (fun q => absurd l q)
  · exact hQ s i' 0 fi (Cg.of h f (by decide)) (fun q => absurd q l) (fun _ => rfl)
def waitV (D : Dat) (s : PSt) (p : Int) : Int := if s.1 p < D.ac p then D.ach p (s.1 p) else -1
def coProc (p : Int) : Int := if 0 ≤ p ∧ p ≤ 3 then 0 else 1
/-- the least depth, or that there is none -/
def LeastD (D : Dat) (d : Int) : Prop := (∀ k, 1 ≤ k → k < d → ∃ s, FinP D (fun _ => k) s ∧ left D s) ∧ 1 ≤ d ∧ d ≤ 17 ∧ (d ≤ 16 → ∃ s, FinP D (fun _ => d) s ∧ ¬ left D s)
theorem least_uniq {D : Dat} {d e : Int} (h : LeastD D d) (g : LeastD D e) : d = e := by
  obtain ⟨h1, h2, h3, h4⟩ := h
  obtain ⟨g1, g2, g3, g4⟩ := g
  rcases Int.lt_trichotomy d e with q | q | q
  · obtain ⟨s, a, b⟩ := h4 (by omega)
    obtain ⟨t, a', b'⟩ := g1 d h2 q
    rw [fin_uniq a a'] at b
    exact absurd b' b
  · exact q
  · obtain ⟨s, a, b⟩ := g4 (by omega)
    obtain ⟨t, a', b'⟩ := h1 e g2 q
    rw [fin_uniq a a'] at b
    exact absurd b' b
def limA (D : Dat) (all : Int) : Int → Int := fun c => if all = 0 then D.dep c else all
theorem limA_ok {D : Dat} (ok : DOk D) {all : Int} (h : 0 ≤ all ∧ all ≤ 16) : limOk (limA D all) := by
  intro c a b
  unfold limA
  have := ok.dep c a b
  split <;> omega
