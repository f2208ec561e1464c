/-! ===== values of some bits ===== -/
def cutD (D : Dat) (v : Int) : Int := iAnd v (wr (iShl 1 D.bits - 1))
def isCut (D : Dat) (v : Int) : Prop := 0 ≤ v ∧ v < 2 ^ D.bits.toNat
theorem bv_of (x : Int) : ((sJ x).toBitVec.toNat : Int) = x % 4294967296 := by
  unfold sJ
  rw [Int32.toBitVec_ofInt]
  simp [BitVec.toNat_ofInt]
  omega
theorem sJ_small {b : BitVec 32} (h : b.toNat < 2147483648) : (Int32.ofBitVec b).toInt = b.toNat := by
  show b.toInt = _
  rw [BitVec.toInt_eq_toNat_of_lt (by omega)]
theorem and_nat (x y : Int) : (iAnd x y) = (Int32.ofBitVec ((sJ x).toBitVec &&& (sJ y).toBitVec)).toInt := rfl
theorem mask_nat {b : Int} (h1 : 1 ≤ b) (h2 : b ≤ 16) : (sJ (wr (iShl 1 b - 1))).toBitVec.toNat = 2 ^ b.toNat - 1 := by
  have : ∀ k : Nat, k < 17 → 1 ≤ k → (sJ (wr (iShl 1 (k : Int) - 1))).toBitVec.toNat = 2 ^ k - 1 := by decide +kernel
  have e := this b.toNat (by omega) (by omega)
  rw [show ((b.toNat : Nat) : Int) = b by omega] at e
  exact e
theorem pow_16 {b : Nat} (h2 : b ≤ 16) : 1 ≤ 2 ^ b ∧ 2 ^ b ≤ 65536 := by
  have : ∀ k : Nat, k < 17 → 1 ≤ 2 ^ k ∧ 2 ^ k ≤ 65536 := by decide
  exact this b (by omega)
theorem cut_mod {D : Dat} (ok : DOk D) (v : Int) : cutD D v = v % 2 ^ D.bits.toNat := by
  have hb := ok.bits
  unfold cutD
  rw [and_nat]
  have hp := pow_16 (b := D.bits.toNat) (by omega)
  have hn : ((sJ v).toBitVec &&& (sJ (wr (iShl 1 D.bits - 1))).toBitVec).toNat = (sJ v).toBitVec.toNat % 2 ^ D.bits.toNat := by
    rw [BitVec.toNat_and, mask_nat hb.1 hb.2, Nat.and_two_pow_sub_one_eq_mod]
  have hlt : (sJ v).toBitVec.toNat % 2 ^ D.bits.toNat < 2 ^ D.bits.toNat := Nat.mod_lt _ (by omega)
  rw [sJ_small (by omega), hn, Int.natCast_emod, bv_of]
  have e : ((2 ^ D.bits.toNat : Nat) : Int) = 2 ^ D.bits.toNat := by simp
  rw [e]
  have hd : (2 : Int) ^ D.bits.toNat ∣ 4294967296 := by
    have : ∀ k : Nat, k < 17 → (2 : Int) ^ k ∣ 4294967296 := by decide +kernel
    exact this _ (by omega)
  exact Int.emod_emod_of_dvd v hd
theorem isCut_cut {D : Dat} (ok : DOk D) (v : Int) : isCut D (cutD D v) := by
  rw [cut_mod ok]
  have hp : (0 : Int) < 2 ^ D.bits.toNat := by
    have := (pow_16 (b := D.bits.toNat) (by have := ok.bits; omega)).1
    have e : ((2 ^ D.bits.toNat : Nat) : Int) = 2 ^ D.bits.toNat := by simp
    omega
  exact ⟨Int.emod_nonneg _ (by omega), Int.emod_lt_of_pos _ hp⟩
theorem cut_of {D : Dat} (ok : DOk D) {v : Int} (h : isCut D v) : cutD D v = v := by
  rw [cut_mod ok]
  exact Int.emod_eq_of_lt h.1 h.2
theorem isCut_16 {D : Dat} (ok : DOk D) {v : Int} (h : isCut D v) : 0 ≤ v ∧ v < 65536 := by
  have := (pow_16 (b := D.bits.toNat) (by have := ok.bits; omega)).2
  have e : ((2 ^ D.bits.toNat : Nat) : Int) = 2 ^ D.bits.toNat := by simp
  have h1 := h.1
  have h2 := h.2
  omega
theorem isCut_0 {D : Dat} (ok : DOk D) : isCut D 0 := by
  have := (pow_16 (b := D.bits.toNat) (by have := ok.bits; omega)).1
  have e : ((2 ^ D.bits.toNat : Nat) : Int) = 2 ^ D.bits.toNat := by simp
  exact ⟨by omega, by omega⟩
theorem bits_cut {D : Dat} (ok : DOk D) {x y : Int} (hx : isCut D x) (hy : isCut D y) : isCut D (iAnd x y) ∧ isCut D (iOr x y) ∧ isCut D (iXor x y) := by
  have hp := pow_16 (b := D.bits.toNat) (by have := ok.bits; omega)
  have x16 := isCut_16 ok hx
  have y16 := isCut_16 ok hy
  have e : ((2 ^ D.bits.toNat : Nat) : Int) = 2 ^ D.bits.toNat := by simp
  have nx := bv_of x
  have ny := bv_of y
  have hx1 := hx.2
  have hy1 := hy.2
  have lx : (sJ x).toBitVec.toNat < 2 ^ D.bits.toNat := by omega
  have ly : (sJ y).toBitVec.toNat < 2 ^ D.bits.toNat := by omega
  have g : ∀ b : BitVec 32, b.toNat < 2 ^ D.bits.toNat → isCut D (Int32.ofBitVec b).toInt := by
    intro b hb
    rw [sJ_small (by omega)]
    exact ⟨by omega, by omega⟩
  refine ⟨?_, ?_, ?_⟩
  · refine g ((sJ x).toBitVec &&& (sJ y).toBitVec) ?_
    rw [BitVec.toNat_and]
    exact Nat.lt_of_le_of_lt Nat.and_le_left lx
  · refine g ((sJ x).toBitVec ||| (sJ y).toBitVec) ?_
    rw [BitVec.toNat_or]
    exact Nat.or_lt_two_pow lx ly
  · refine g ((sJ x).toBitVec ^^^ (sJ y).toBitVec) ?_
    rw [BitVec.toNat_xor]
    exact Nat.xor_lt_two_pow lx ly
/-! ===== one statement after the other ===== -/
def St : Type := (Int → Int) × (Int → Int → Int) × (Int → Int) × (Int) × (Int)
def St.reg (x0 : St) : Int → Int := (Prod.fst x0)
def St.mem (x0 : St) : Int → Int → Int := (Prod.fst (Prod.snd x0))
def St.out (x0 : St) : Int → Int := (Prod.fst (Prod.snd (Prod.snd x0)))
def St.outs (x0 : St) : Int := (Prod.fst (Prod.snd (Prod.snd (Prod.snd x0))))
def St.tak (x0 : St) : Int := (Prod.snd (Prod.snd (Prod.snd (Prod.snd x0))))
def St.mk (x0 : Int → Int) (x1 : Int → Int → Int) (x2 : Int → Int) (x3 : Int) (x4 : Int) : St := (x0, x1, x2, x3, x4)
theorem St.k_reg {x0 : Int → Int} {x1 : Int → Int → Int} {x2 : Int → Int} {x3 : Int} {x4 : Int} : (St.mk x0 x1 x2 x3 x4).reg = x0 := rfl
theorem St.k_mem {x0 : Int → Int} {x1 : Int → Int → Int} {x2 : Int → Int} {x3 : Int} {x4 : Int} : (St.mk x0 x1 x2 x3 x4).mem = x1 := rfl
theorem St.k_out {x0 : Int → Int} {x1 : Int → Int → Int} {x2 : Int → Int} {x3 : Int} {x4 : Int} : (St.mk x0 x1 x2 x3 x4).out = x2 := rfl
theorem St.k_outs {x0 : Int → Int} {x1 : Int → Int → Int} {x2 : Int → Int} {x3 : Int} {x4 : Int} : (St.mk x0 x1 x2 x3 x4).outs = x3 := rfl
theorem St.k_tak {x0 : Int → Int} {x1 : Int → Int → Int} {x2 : Int → Int} {x3 : Int} {x4 : Int} : (St.mk x0 x1 x2 x3 x4).tak = x4 := rfl
def plc (T N i : Int) : Int := if T = 0 then N else i + N
def lookS (s : St) (m p : Int) : Int := if 0 ≤ m ∧ m < 2 ∧ 0 ≤ p ∧ p < 16 then s.mem m p else 0
/-- an operand: its value, and the takes behind it -/
def valS (D : Dat) (k p i : Int) (s : St) : Int :=
  if D.F k p = 0 then s.reg (D.N k p)
  else if D.F k p = 1 then cutD D (D.N k p)
  else if D.F k p = 2 then cutD D i
  else if D.F k p = 5 then (if s.tak < D.inc then cutD D (D.inp s.tak) else 0)
  else lookS s (D.F k p - 3) (plc (D.T k p) (D.N k p) i)
def tkS (D : Dat) (k p : Int) (s : St) : St := if D.F k p = 5 then St.mk s.reg s.mem s.out s.outs (s.tak + 1) else s
def opS (O a b : Int) : Int :=
  if O = 38 then iAnd a b else if O = 42 then wr (a * b) else if O = 43 then wr (a + b) else if O = 45 then wr (a - b)
  else if O = 94 then iXor a b else if O = 124 then iOr a b else if a < b then 1 else 0
def wriS (D : Dat) (k i v : Int) (s : St) : St :=
  if D.F k 0 = 0 then St.mk (fun r => if r = D.N k 0 then v else s.reg r) s.mem s.out s.outs s.tak
  else if D.F k 0 = 6 then St.mk s.reg s.mem (fun x => if x = s.outs then v else s.out x) (s.outs + 1) s.tak
  else if 0 ≤ D.F k 0 - 3 ∧ D.F k 0 - 3 < 2 ∧ 0 ≤ plc (D.T k 0) (D.N k 0) i ∧ plc (D.T k 0) (D.N k 0) i < 16 then
    St.mk s.reg (fun m x => if m = D.F k 0 - 3 ∧ x = plc (D.T k 0) (D.N k 0) i then v else s.mem m x) s.out s.outs s.tak
  else s
def oneS (D : Dat) (k i : Int) (s : St) : St :=
  if D.O k = 32 then wriS D k i (valS D k 1 i s) (tkS D k 1 s)
  else wriS D k i (cutD D (opS (D.O k) (valS D k 1 i s) (valS D k 2 i (tkS D k 1 s)))) (tkS D k 2 (tkS D k 1 s))
def begS (D : Dat) : St := St.mk (fun _ => 0) (fun m p => cutD D (D.told m p)) (fun _ => 0) 0 0
/-- what the object's state is, of the class, at an object; of the reference -/
def CSt (D : Dat) (o : Int) (i : MI) (s : St) : Prop := (∀ k, 0 ≤ k → k < 8 → i (o + 1) k = s.reg k) ∧ (∀ m p, 0 ≤ m → m < 2 → 0 ≤ p → p < 16 → i (o + 3 + m) p = s.mem m p) ∧ (∀ k, 0 ≤ k → k < s.outs → i (o + 5) k = s.out k) ∧ (i o 3 = s.outs) ∧ (i o 4 = min s.tak D.inc)
theorem CSt.r {D : Dat} {o : Int} {i : MI} {s : St} (h0 : CSt D o i s) : ∀ k, 0 ≤ k → k < 8 → i (o + 1) k = s.reg k := h0.1
theorem CSt.m {D : Dat} {o : Int} {i : MI} {s : St} (h0 : CSt D o i s) : ∀ m p, 0 ≤ m → m < 2 → 0 ≤ p → p < 16 → i (o + 3 + m) p = s.mem m p := h0.2.1
theorem CSt.x {D : Dat} {o : Int} {i : MI} {s : St} (h0 : CSt D o i s) : ∀ k, 0 ≤ k → k < s.outs → i (o + 5) k = s.out k := h0.2.2.1
theorem CSt.n {D : Dat} {o : Int} {i : MI} {s : St} (h0 : CSt D o i s) : i o 3 = s.outs := h0.2.2.2.1
theorem CSt.t {D : Dat} {o : Int} {i : MI} {s : St} (h0 : CSt D o i s) : i o 4 = min s.tak D.inc := h0.2.2.2.2
theorem CSt.mk {D : Dat} {o : Int} {i : MI} {s : St} (h0 : ∀ k, 0 ≤ k → k < 8 → i (o + 1) k = s.reg k) (h1 : ∀ m p, 0 ≤ m → m < 2 → 0 ≤ p → p < 16 → i (o + 3 + m) p = s.mem m p) (h2 : ∀ k, 0 ≤ k → k < s.outs → i (o + 5) k = s.out k) (h3 : i o 3 = s.outs) (h4 : i o 4 = min s.tak D.inc) : CSt D o i s := ⟨h0, h1, h2, h3, h4⟩
def MSt (i : MI) (s : St) : Prop := (∀ k, 0 ≤ k → k < 8 → i 512 k = s.reg k) ∧ (∀ m p, 0 ≤ m → m < 2 → 0 ≤ p → p < 16 → i 513 (16 * m + p) = s.mem m p) ∧ (∀ k, 0 ≤ k → k < s.outs → i 514 k = s.out k) ∧ (i 504 19 = s.outs) ∧ (i 504 20 = s.tak)
theorem MSt.r {i : MI} {s : St} (h0 : MSt i s) : ∀ k, 0 ≤ k → k < 8 → i 512 k = s.reg k := h0.1
theorem MSt.m {i : MI} {s : St} (h0 : MSt i s) : ∀ m p, 0 ≤ m → m < 2 → 0 ≤ p → p < 16 → i 513 (16 * m + p) = s.mem m p := h0.2.1
theorem MSt.x {i : MI} {s : St} (h0 : MSt i s) : ∀ k, 0 ≤ k → k < s.outs → i 514 k = s.out k := h0.2.2.1
theorem MSt.n {i : MI} {s : St} (h0 : MSt i s) : i 504 19 = s.outs := h0.2.2.2.1
theorem MSt.t {i : MI} {s : St} (h0 : MSt i s) : i 504 20 = s.tak := h0.2.2.2.2
theorem MSt.mk {i : MI} {s : St} (h0 : ∀ k, 0 ≤ k → k < 8 → i 512 k = s.reg k) (h1 : ∀ m p, 0 ≤ m → m < 2 → 0 ≤ p → p < 16 → i 513 (16 * m + p) = s.mem m p) (h2 : ∀ k, 0 ≤ k → k < s.outs → i 514 k = s.out k) (h3 : i 504 19 = s.outs) (h4 : i 504 20 = s.tak) : MSt i s := ⟨h0, h1, h2, h3, h4⟩
/-- all values are cut, and takes are few -/
def StOk (D : Dat) (s : St) : Prop := (∀ k, 0 ≤ k → k < 8 → isCut D (s.reg k)) ∧ (∀ m p, 0 ≤ m → m < 2 → 0 ≤ p → p < 16 → isCut D (s.mem m p)) ∧ (0 ≤ s.outs) ∧ (0 ≤ s.tak)
theorem StOk.r {D : Dat} {s : St} (h0 : StOk D s) : ∀ k, 0 ≤ k → k < 8 → isCut D (s.reg k) := h0.1
theorem StOk.m {D : Dat} {s : St} (h0 : StOk D s) : ∀ m p, 0 ≤ m → m < 2 → 0 ≤ p → p < 16 → isCut D (s.mem m p) := h0.2.1
theorem StOk.n {D : Dat} {s : St} (h0 : StOk D s) : 0 ≤ s.outs := h0.2.2.1
theorem StOk.t {D : Dat} {s : St} (h0 : StOk D s) : 0 ≤ s.tak := h0.2.2.2
theorem StOk.mk {D : Dat} {s : St} (h0 : ∀ k, 0 ≤ k → k < 8 → isCut D (s.reg k)) (h1 : ∀ m p, 0 ≤ m → m < 2 → 0 ≤ p → p < 16 → isCut D (s.mem m p)) (h2 : 0 ≤ s.outs) (h3 : 0 ≤ s.tak) : StOk D s := ⟨h0, h1, h2, h3⟩
