theorem sR_nat {n : Nat} (h : n < 2147483648) : sR (n : Int) := ⟨by omega, by omega⟩
theorem kw_1437 : Cond.code yL_statement cL_statement 5 (some (.object "java/lang/String")) ∈ gW := gw_in (gt_6 (List.mem_of_getElem? (i := 136) (by decide +kernel))) (by decide +kernel)
theorem kw_1440 : Cond.code yL_register cL_register 2 (some (.object "java/lang/String")) ∈ gW := gw_in (gt_6 (List.mem_of_getElem? (i := 139) (by decide +kernel))) (by decide +kernel)
theorem kw_1470 : Cond.code yL_memory cL_memory 2 (some (.object "java/lang/String")) ∈ gW := gw_in (gt_6 (List.mem_of_getElem? (i := 169) (by decide +kernel))) (by decide +kernel)
theorem kw_1590 : Cond.code yL_index cL_index 3 (some (.object "java/lang/String")) ∈ gW := gw_in (gt_7 (List.mem_of_getElem? (i := 49) (by decide +kernel))) (by decide +kernel)
theorem kw_1688 : Cond.code yL_operand cL_operand 3 (some (.object "java/lang/String")) ∈ gW := gw_in (gt_7 (List.mem_of_getElem? (i := 147) (by decide +kernel))) (by decide +kernel)
theorem kw_1740 : Cond.code yL_row cL_row 4 (some (.array .int)) ∈ gW := gw_in (gt_7 (List.mem_of_getElem? (i := 199) (by decide +kernel))) (by decide +kernel)
theorem mY_L_add : mY yL_add cL_add 2 (some .int) 2 := ⟨kw_101, kw_1705, by decide, by decide, by decide +kernel⟩
theorem mY_L_areKept : mY yL_areKept cL_areKept 13 (some .boolean) 1 := ⟨kw_101, kw_1737, by decide, by decide, by decide +kernel⟩
theorem mY_L_areProcesses : mY yL_areProcesses cL_areProcesses 9 (some .boolean) 2 := ⟨kw_101, kw_1773, by decide, by decide, by decide +kernel⟩
theorem mY_L_areUnits : mY yL_areUnits cL_areUnits 14 (some .boolean) 4 := ⟨kw_101, kw_1751, by decide, by decide, by decide +kernel⟩
theorem mY_L_ask : mY yL_ask cL_ask 4 (some .int) 4 := ⟨kw_101, kw_919, by decide, by decide, by decide +kernel⟩
theorem mY_L_asked : mY yL_asked cL_asked 5 (some .int) 5 := ⟨kw_101, kw_1322, by decide, by decide, by decide +kernel⟩
theorem mY_L_cell : mY yL_cell cL_cell 3 (some .int) 2 := ⟨kw_101, kw_914, by decide, by decide, by decide +kernel⟩
theorem mY_L_depths : mY yL_depths cL_depths 4 (some .boolean) 2 := ⟨kw_101, kw_1776, by decide, by decide, by decide +kernel⟩
theorem mY_L_done : mY yL_done cL_done 5 (some .int) 5 := ⟨kw_101, kw_1008, by decide, by decide, by decide +kernel⟩
theorem mY_L_isSame : mY yL_isSame cL_isSame 4 (some .boolean) 1 := ⟨kw_101, kw_1722, by decide, by decide, by decide +kernel⟩
theorem mY_L_isWritten : mY yL_isWritten cL_isWritten 6 (some .boolean) 2 := ⟨kw_101, kw_908, by decide, by decide, by decide +kernel⟩
theorem mY_L_pick : mY yL_pick cL_pick 3 (some .int) 3 := ⟨kw_101, kw_911, by decide, by decide, by decide +kernel⟩
theorem mY_L_statement : mY yL_statement cL_statement 5 (some (.object "java/lang/String")) 2 := ⟨kw_101, kw_1437, by decide, by decide, by decide +kernel⟩
theorem mY_L_told : mY yL_told cL_told 1 (some .int) 1 := ⟨kw_101, kw_1757, by decide, by decide, by decide +kernel⟩
theorem mY_L_type : mY yL_type cL_type 3 none 2 := ⟨kw_101, kw_1712, by decide, by decide, by decide +kernel⟩
theorem mY_L_units : mY yL_units cL_units 3 (some .int) 2 := ⟨kw_101, kw_1754, by decide, by decide, by decide +kernel⟩
theorem kl_L_deed : Cond.codeWith yL_deed cL_deed 6 (some .int) [(0, 27, 28, 111), (0, 27, 33, 114), (0, 27, 38, 117), (0, 27, 43, 120), (0, 27, 48, 123)] ∈ gW := gw_in (gt_4 (List.mem_of_getElem? (i := 101) (by decide +kernel))) (by decide +kernel)
theorem mY_L_operand : mY yL_operand cL_operand 3 (some (.object "java/lang/String")) 2 := ⟨kw_101, kw_1688, by decide, by decide, by decide +kernel⟩
theorem mY_L_memory : mY yL_memory cL_memory 2 (some (.object "java/lang/String")) 2 := ⟨kw_101, kw_1470, by decide, by decide, by decide +kernel⟩
theorem mY_L_index : mY yL_index cL_index 3 (some (.object "java/lang/String")) 2 := ⟨kw_101, kw_1590, by decide, by decide, by decide +kernel⟩
theorem mY_L_register : mY yL_register cL_register 2 (some (.object "java/lang/String")) 2 := ⟨kw_101, kw_1440, by decide, by decide, by decide +kernel⟩
theorem mY_L_row : mY yL_row cL_row 4 (some (.array .int)) 2 := ⟨kw_101, kw_1740, by decide, by decide, by decide +kernel⟩
/-! ===== the law's texts ===== -/
theorem ushr8 (x : Int) : 0 ≤ iUshr x 8 ∧ iUshr x 8 < 16777216 := by
  unfold iUshr
  have e : (sJ 8).toUInt32 &&& Int32.toUInt32 31 = 8 := by decide +kernel
  rw [e]
  generalize (sJ x).toUInt32 = u
  have h : (u >>> 8).toNat = u.toNat / 256 := by
    rw [UInt32.toNat_shiftRight]
    show u.toNat >>> 8 = _
    rw [Nat.shiftRight_eq_div_pow]
  have hl := u.toNat_lt
  have h2 : ((u >>> 8).toInt32).toInt = ((u >>> 8).toNat : Int) := by
    show (u >>> 8).toBitVec.toInt = _
    rw [BitVec.toInt_eq_toNat_bmod]
    show Int.bmod ((u >>> 8).toNat : Int) (2 ^ 32) = _
    exact Int.bmod_eq_of_le (by omega) (by omega)
  rw [h2, h]
  omega
def pkC (L : Nat) (xs : Int → Int) (p : Int) : Int :=
  iXor (wr (iXor (wr (wr (69069 * wr ((if (L : Int) ≤ p then 0 else xs p) + wr (1009 * p))) + 12345)) (iUshr (wr (wr (69069 * wr ((if (L : Int) ≤ p then 0 else xs p) + wr (1009 * p))) + 12345)) 13) * 1103515245)) (iUshr (wr (iXor (wr (wr (69069 * wr ((if (L : Int) ≤ p then 0 else xs p) + wr (1009 * p))) + 12345)) (iUshr (wr (wr (69069 * wr ((if (L : Int) ≤ p then 0 else xs p) + wr (1009 * p))) + 12345)) 13) * 1103515245)) 16)
/-- a pick of m things at a cell -/
def pk (L : Nat) (xs : Int → Int) (p m : Int) : Int := Int.tmod (iUshr (pkC L xs p) 8) m
theorem pk_rng {L : Nat} {xs : Int → Int} {p m : Int} (hm : 0 < m) : 0 ≤ pk L xs p m ∧ pk L xs p m < m := by
  have h := ushr8 (pkC L xs p)
  exact ⟨Int.tmod_nonneg _ h.1, Int.tmod_lt_of_pos _ hm⟩
def lstF (l : List Int) : Int → Int := fun k => l.getD k.toNat 0
theorem lstF_ok {l : List Int} (h : ∀ x ∈ l, sR x) : ∀ k, sR (lstF l k) := by
  intro k
  unfold lstF
  rw [List.getD_eq_getElem?_getD]
  cases e : l[k.toNat]? with
  | none => exact sR_0
  | some v => exact h v (List.mem_of_getElem? e)
def digT (n : Int) : List Int := if n < 10 then [48 + n] else [48 + n / 10, 48 + n % 10]
def regT (L : Nat) (xs : Int → Int) (p : Int) : List Int := [97 + pk L xs p 4]
def idxT (L : Nat) (xs : Int → Int) (p : Int) : List Int :=
  if pk L xs p 4 = 0 then digT (pk L xs (p + 1) 20) else if pk L xs p 4 = 1 then [105] else if pk L xs p 4 = 2 then [105, 43] ++ digT (pk L xs (p + 1) 5) else [105, 45] ++ digT (pk L xs (p + 1) 4)
def memT (L : Nat) (xs : Int → Int) (p : Int) : List Int := (if 0 < pk L xs p 3 then [77, 91] else [78, 91]) ++ idxT L xs (p + 1) ++ [93]
def opdT (L : Nat) (xs : Int → Int) (p : Int) : List Int :=
  if pk L xs p 9 < 3 then regT L xs (p + 1) else if pk L xs p 9 < 6 then memT L xs (p + 1) else if pk L xs p 9 = 6 then digT (pk L xs (p + 1) 100) else if pk L xs p 9 = 7 then [105] else [60]
def trgT (L : Nat) (xs : Int → Int) (p : Int) : List Int := if pk L xs p 6 < 3 then regT L xs (p + 1) else if pk L xs p 6 < 5 then memT L xs (p + 1) else [62]
def opsT : List Int := [43, 45, 42, 38, 124, 94, 108]
def stmT (L : Nat) (xs : Int → Int) (p : Int) : List Int :=
  if pk L xs (p + 10) 4 = 0 then trgT L xs p ++ [61] ++ opdT L xs (p + 5) else trgT L xs p ++ [61] ++ opdT L xs (p + 5) ++ [opsT.getD (pk L xs (p + 11) 7).toNat 0] ++ opdT L xs (p + 12)
/-- letters, at most k of them -/
def okT (k : Nat) (l : List Int) : Prop := l.length ≤ k ∧ ∀ x ∈ l, 0 ≤ x ∧ x < 128
theorem okT.app {a b : Nat} {l m : List Int} (h : okT a l) (g : okT b m) : okT (a + b) (l ++ m) := ⟨by rw [List.length_append]; exact Nat.add_le_add h.1 g.1, fun x hx => by rcases List.mem_append.mp hx with q | q; exact h.2 x q; exact g.2 x q⟩
theorem okT.mono {a b : Nat} {l : List Int} (h : okT a l) (hab : a ≤ b) : okT b l := ⟨Nat.le_trans h.1 hab, h.2⟩
theorem okT.one {x : Int} (h : 0 ≤ x ∧ x < 128) : okT 1 [x] := ⟨Nat.le_refl _, fun y hy => by simp only [List.mem_cons, List.not_mem_nil, or_false] at hy; subst hy; exact h⟩
theorem okT.dgt {n : Int} (h : 0 ≤ n ∧ n < 100) : okT 2 (digT n) := by
  unfold digT
  split
  · exact (okT.one (by omega)).mono (by decide)
  · exact (okT.one (x := 48 + n / 10) (by omega)).app (okT.one (x := 48 + n % 10) (by omega))
theorem okT.reg {L : Nat} {xs : Int → Int} {p : Int} : okT 1 (regT L xs p) := okT.one (by have := pk_rng (L := L) (xs := xs) (p := p) (m := 4) (by decide); omega)
theorem okT.idx {L : Nat} {xs : Int → Int} {p : Int} : okT 4 (idxT L xs p) := by
  have h1 := pk_rng (L := L) (xs := xs) (p := p + 1) (m := 20) (by decide)
  have h2 := pk_rng (L := L) (xs := xs) (p := p + 1) (m := 5) (by decide)
  have h3 := pk_rng (L := L) (xs := xs) (p := p + 1) (m := 4) (by decide)
  unfold idxT
  split
  · exact (okT.dgt (by omega)).mono (by decide)
  · split
    · exact (okT.one (by decide)).mono (by decide)
    · split
      · exact ((okT.one (x := 105) (by decide)).app (okT.one (x := 43) (by decide))).app (okT.dgt (by omega))
      · exact ((okT.one (x := 105) (by decide)).app (okT.one (x := 45) (by decide))).app (okT.dgt (by omega))
theorem okT.mem {L : Nat} {xs : Int → Int} {p : Int} : okT 7 (memT L xs p) := by
  unfold memT
  refine okT.app (a := 6) (okT.app (a := 2) ?_ okT.idx) (okT.one (by decide))
  split
  · exact (okT.one (x := 77) (by decide)).app (okT.one (x := 91) (by decide))
  · exact (okT.one (x := 78) (by decide)).app (okT.one (x := 91) (by decide))
theorem okT.opd {L : Nat} {xs : Int → Int} {p : Int} : okT 7 (opdT L xs p) := by
  have h1 := pk_rng (L := L) (xs := xs) (p := p + 1) (m := 100) (by decide)
  unfold opdT
  split
  · exact okT.reg.mono (by decide)
  · split
    · exact okT.mem
    · split
      · exact (okT.dgt (by omega)).mono (by decide)
      · split
        · exact (okT.one (by decide)).mono (by decide)
        · exact (okT.one (by decide)).mono (by decide)
theorem okT.trg {L : Nat} {xs : Int → Int} {p : Int} : okT 7 (trgT L xs p) := by
  unfold trgT
  split
  · exact okT.reg.mono (by decide)
  · split
    · exact okT.mem
    · exact (okT.one (by decide)).mono (by decide)
theorem opsT_ok {k : Int} (h : 0 ≤ k ∧ k < 7) : 0 ≤ opsT.getD k.toNat 0 ∧ opsT.getD k.toNat 0 < 128 := by
  have key : ∀ j < 7, 0 ≤ opsT.getD j 0 ∧ opsT.getD j 0 < 128 := by decide +kernel
  exact key k.toNat (by omega)
theorem okT.stm {L : Nat} {xs : Int → Int} {p : Int} : okT 23 (stmT L xs p) := by
  have h1 := pk_rng (L := L) (xs := xs) (p := p + 11) (m := 7) (by decide)
  unfold stmT
  split
  · exact ((okT.trg.app (okT.one (by decide))).app okT.opd).mono (by decide)
  · exact (((okT.trg.app (okT.one (by decide))).app okT.opd).app (okT.one (opsT_ok h1))).app okT.opd
theorem stmT_ok (L : Nat) (xs : Int → Int) (p : Int) : ∀ x ∈ stmT L xs p, sR x := fun x hx => by have := okT.stm.2 x hx; exact ⟨by omega, by omega⟩
theorem stmT_len (L : Nat) (xs : Int → Int) (p : Int) : (stmT L xs p).length < 2147483648 := by have := (okT.stm (L := L) (xs := xs) (p := p)).1; omega
