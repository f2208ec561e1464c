/-! ===== numbers: an Int for each int ===== -/
def sJ (x : Int) : Int32 := Int32.ofInt x
def sR (x : Int) : Prop := -2147483648 ≤ x ∧ x < 2147483648
def wr (x : Int) : Int := Int.bmod x 4294967296
theorem sJ_toInt {x : Int} (h : sR x) : (sJ x).toInt = x := Int32.toInt_ofInt_of_le (by have := h.1; omega) (by have := h.2; omega)
theorem sJ_of (v : Int32) : sJ v.toInt = v := Int32.ofInt_toInt v
theorem sR_of (v : Int32) : sR v.toInt := ⟨by have := Int32.le_toInt v; omega, by have := Int32.toInt_lt v; omega⟩
theorem sR_wr (x : Int) : sR (wr x) := ⟨by have := Int.le_bmod (x := x) (m := 4294967296) (by decide); unfold wr; omega, by have := Int.bmod_lt (x := x) (m := 4294967296) (by decide); unfold wr; omega⟩
theorem wr_eq {x : Int} (h : sR x) : wr x = x := Int.bmod_eq_of_le (by have := h.1; omega) (by have := h.2; omega)
theorem sJ_inj {x y : Int} (hx : sR x) (hy : sR y) (h : sJ x = sJ y) : x = y := by rw [← sJ_toInt hx, ← sJ_toInt hy, h]
theorem sJ_wr (x : Int) : sJ (wr x) = sJ x := by
  apply Int32.toInt_inj.1
  rw [sJ_toInt (sR_wr x)]
  exact (Int32.toInt_ofInt (n := x)).symm
theorem sJ_toInt' (x : Int) : (sJ x).toInt = wr x := Int32.toInt_ofInt
theorem sJ_add (x y : Int) : sJ x + sJ y = sJ (wr (x + y)) := by rw [sJ_wr]; exact (Int32.ofInt_add x y).symm
theorem sJ_sub (x y : Int) : sJ x - sJ y = sJ (wr (x - y)) := by rw [sJ_wr]; exact (Int32.ofInt_sub x y).symm
theorem sJ_mul (x y : Int) : sJ x * sJ y = sJ (wr (x * y)) := by rw [sJ_wr]; exact (Int32.ofInt_mul x y).symm
theorem sJ_neg (x : Int) : - sJ x = sJ (wr (-x)) := by rw [sJ_wr]; exact (Int32.ofInt_neg x).symm
theorem sJ_lt {x y : Int} (hx : sR x) (hy : sR y) : sJ x < sJ y ↔ x < y := by rw [Int32.lt_iff_toInt_lt, sJ_toInt hx, sJ_toInt hy]
theorem sJ_le {x y : Int} (hx : sR x) (hy : sR y) : sJ x ≤ sJ y ↔ x ≤ y := by rw [Int32.le_iff_toInt_le, sJ_toInt hx, sJ_toInt hy]
theorem sJ_eq {x y : Int} (hx : sR x) (hy : sR y) : sJ x = sJ y ↔ x = y := ⟨sJ_inj hx hy, fun h => by rw [h]⟩
theorem sJ_zero : (0 : Int32) = sJ 0 := rfl
theorem sR_0 : sR 0 := ⟨by decide, by decide⟩
theorem sJ_div {x y : Int} (hx : sR x) (hy : sR y) : sJ x / sJ y = sJ (wr (x.tdiv y)) := by
  apply Int32.toInt_inj.1
  rw [Int32.toInt_div, sJ_toInt hx, sJ_toInt hy, sJ_toInt (sR_wr _)]
  rfl
theorem sR_tmod {x y : Int} (hx : sR x) : sR (x.tmod y) := by
  have h : (x.tmod y).natAbs ≤ x.natAbs := by rw [Int.natAbs_tmod]; exact Nat.mod_le _ _
  have h1 := hx.1
  have h2 := hx.2
  rcases Int.le_total 0 x with q | q
  · have := Int.tmod_nonneg (b := y) q
    constructor <;> omega
  · have := Int.tmod_nonneg (a := -x) y (by omega)
    rw [Int.neg_tmod] at this
    constructor <;> omega
theorem sJ_rem {x y : Int} (hx : sR x) (hy : sR y) : sJ x - sJ x / sJ y * sJ y = sJ (x.tmod y) := by
  rw [sJ_div hx hy, sJ_mul, sJ_sub]
  simp only [sJ_wr]
  unfold sJ
  rw [Int32.ofInt_sub]
  have h1 : Int32.ofInt (wr (wr (x.tdiv y) * y)) = Int32.ofInt (x.tdiv y * y) := by
    have := sJ_wr (wr (x.tdiv y) * y)
    unfold sJ at this
    rw [this, Int32.ofInt_mul, Int32.ofInt_mul]
    have h2 := sJ_wr (x.tdiv y)
    unfold sJ at h2
    rw [h2]
  rw [h1, ← Int32.ofInt_sub, Int.tmod_def, Int.mul_comm y]
def iAnd (x y : Int) : Int := (sJ x &&& sJ y).toInt
def iOr (x y : Int) : Int := (sJ x ||| sJ y).toInt
def iXor (x y : Int) : Int := (sJ x ^^^ sJ y).toInt
def iShl (x y : Int) : Int := (sJ x <<< (sJ y &&& 31)).toInt
def iShr (x y : Int) : Int := (sJ x >>> (sJ y &&& 31)).toInt
theorem sR_and (x y : Int) : sR (iAnd x y) := sR_of _
theorem sR_or (x y : Int) : sR (iOr x y) := sR_of _
theorem sR_xor (x y : Int) : sR (iXor x y) := sR_of _
theorem sR_shl (x y : Int) : sR (iShl x y) := sR_of _
theorem sR_shr (x y : Int) : sR (iShr x y) := sR_of _
theorem sR_c {x : Int} : sR (x % 65536) := by unfold sR; omega
theorem sR_z {x : Int} : sR (x % 2) := by unfold sR; omega
theorem sJ_i2c {x : Int} (hx : sR x) : ((sJ x).toUInt32 % 65536).toInt32 = sJ (x % 65536) := by
  rw [lg_i2c_nf]
  apply Int32.toInt_inj.1
  rw [lg_i2c_toInt, sJ_toInt hx, sJ_toInt sR_c]
  rfl
theorem sJ_clamp {x : Int} (hx : sR x) (h0 : 0 ≤ x) : (sJ x).toNatClampNeg = x.toNat := Int32.toNatClampNeg_ofInt_of_le (by have := hx.1; omega) (by have := hx.2; omega)
theorem sJ_in {x : Int} {n : Nat} (hx : sR x) (h : 0 ≤ x ∧ x < n) : vp_in (sJ x) n := by
  intro q
  rcases q with q | q
  · rw [sJ_zero, sJ_lt hx sR_0] at q; omega
  · rw [sJ_clamp hx h.1] at q; omega
/-! ===== memory: ints and references of all objects, by their numbers ===== -/
abbrev MI : Type := Int → Int → Int
def st (i : MI) (o k v : Int) : MI := fun a c => if a = o ∧ c = k then v else i a c
def okI (i : MI) : Prop := ∀ o k, sR (i o k)
theorem okI_st {i : MI} (h : okI i) {o k v : Int} (hv : sR v) : okI (st i o k v) := by
  intro a c
  unfold st
  split
  · exact hv
  · exact h a c
abbrev Wd : Type := (Nat → ClassId) × (Nat → Nat → Nat) × (Nat → ClassId) × Nat × (Nat → Nat) × (Nat → Nat) × (Nat → Prop) × (Heap → Prop) × State
/-- the addresses that may be written; what else the heap holds -/
def sFr (Δ : Wd) : Nat → Prop := Δ.2.2.2.2.2.2.1
def sE (Δ : Wd) : Heap → Prop := Δ.2.2.2.2.2.2.2.1
/-- the state whose tables are told of -/
def sS0 (Δ : Wd) : State := Δ.2.2.2.2.2.2.2.2
def sA (Δ : Wd) (o : Int) : Nat := Δ.2.2.2.1 + o.toNat
def sV (Δ : Wd) (o : Int) : Value := if o = 0 then .null else .ref (sA Δ o)
theorem sV_ref {Δ : Wd} {o : Int} (h : ¬ o = 0) : sV Δ o = .ref (sA Δ o) := if_neg h
def lay (k : Nat) : Nat × Nat := if k < 54 then if k < 26 then if k < 12 then if k < 5 then if k < 2 then if k < 1 then (13, 0) else (12, 0) else if k < 3 then (21, 24) else if k < 4 then (8, 0) else (25, 12) else if k < 7 then if k < 6 then (20, 32) else (27, 2) else if k < 9 then (20, 16) else if k < 10 then (10, 0) else (20, 3) else if k < 18 then if k < 14 then if k < 13 then (22, 3) else (10, 0) else if k < 16 then (20, 3) else if k < 17 then (22, 3) else (10, 0) else if k < 22 then if k < 20 then (20, 3) else if k < 21 then (22, 3) else (10, 0) else if k < 24 then (20, 3) else if k < 25 then (22, 3) else (10, 0) else if k < 40 then if k < 33 then if k < 29 then if k < 28 then (20, 3) else (22, 3) else if k < 30 then (10, 0) else if k < 32 then (20, 3) else (22, 3) else if k < 36 then if k < 34 then (10, 0) else (20, 3) else if k < 37 then (22, 3) else if k < 38 then (10, 0) else (20, 3) else if k < 46 then if k < 42 then if k < 41 then (22, 3) else (10, 0) else if k < 44 then (20, 3) else if k < 45 then (22, 3) else (10, 0) else if k < 50 then if k < 48 then (20, 3) else if k < 49 then (22, 3) else (10, 0) else if k < 52 then (20, 3) else if k < 53 then (22, 3) else (10, 0) else if k < 460 then if k < 67 then if k < 61 then if k < 57 then if k < 56 then (20, 3) else (22, 3) else if k < 58 then (10, 0) else if k < 60 then (20, 3) else (22, 3) else if k < 63 then if k < 62 then (9, 0) else (20, 8) else if k < 64 then (27, 2) else if k < 66 then (20, 16) else (20, 192) else if k < 169 then if k < 69 then if k < 68 then (2, 0) else (26, 96) else if k < 72 then (20, 7) else if k < 168 then (5, 0) else (4, 0) else if k < 267 then if k < 170 then (27, 96) else if k < 266 then (20, 100) else (27, 96) else if k < 363 then (20, 100) else if k < 364 then (27, 96) else (20, 100) else if k < 482 then if k < 469 then if k < 462 then if k < 461 then (20, 96) else (11, 0) else if k < 467 then (20, 96) else if k < 468 then (20, 7) else (20, 481) else if k < 473 then if k < 470 then (6, 0) else if k < 472 then (20, 96) else (27, 7) else if k < 480 then (20, 481) else if k < 481 then (3, 0) else (9, 0) else if k < 488 then if k < 484 then if k < 483 then (20, 8) else (27, 2) else if k < 486 then (20, 16) else if k < 487 then (20, 192) else (20, 1536) else if k < 494 then if k < 489 then (7, 0) else if k < 490 then (27, 4) else (20, 16) else if k < 495 then (27, 4) else if k < 499 then (20, 16) else (20, 4)
def rfk (ci k : Nat) : Bool := (ci == 2 && (k == 0 || k == 1 || k == 2 || k == 3)) || (ci == 3 && (k == 0 || k == 1)) || (ci == 4 && (k == 0 || k == 1 || k == 2 || k == 3)) || (ci == 5 && (k == 0)) || (ci == 6 && (k == 0 || k == 1 || k == 2)) || (ci == 7 && (k == 0 || k == 1 || k == 2 || k == 3 || k == 4 || k == 5 || k == 6)) || (ci == 8 && (k == 0 || k == 1 || k == 2 || k == 3)) || (ci == 9 && (k == 0 || k == 1 || k == 2)) || (ci == 10 && (k == 0 || k == 1 || k == 2)) || (ci == 11 && (k == 0 || k == 1 || k == 2 || k == 3 || k == 4 || k == 5 || k == 6)) || (ci == 12 && (k == 0)) || (ci == 13 && (k == 0 || k == 1 || k == 2 || k == 3 || k == 4 || k == 5 || k == 6 || k == 7 || k == 8))
def nfd (ci : Nat) : Nat := if ci = 2 then 5 else if ci = 3 then 2 else if ci = 4 then 5 else if ci = 5 then 13 else if ci = 6 then 6 else if ci = 7 then 7 else if ci = 8 then 9 else if ci = 9 then 5 else if ci = 10 then 4 else if ci = 11 then 7 else if ci = 12 then 3 else if ci = 13 then 11 else 0
def sFld (Δ : Wd) (ci k : Nat) (io ro : Int → Int) : Value := if rfk ci k then sV Δ (ro k) else .int (sJ (io k))
def sFs (Δ : Wd) (ci : Nat) (io ro : Int → Int) : List Value := (List.range (nfd ci)).map (fun k => sFld Δ ci k io ro)
def sQ (Δ : Wd) (o : Int) : Option Nat := if o = 0 then none else some (sA Δ o)
theorem sQ_rf (Δ : Wd) (o : Int) : va_rf (sQ Δ o) = sV Δ o := by unfold sQ sV; split <;> rfl
def jLo (v : Int64) : Int := v.toInt % 4294967296 - 2147483648
def jHi (v : Int64) : Int := v.toInt / 4294967296
def jMk (lo hi : Int) : Int64 := Int64.ofInt (hi * 4294967296 + (lo + 2147483648))
theorem jMk_eq (v : Int64) : jMk (jLo v) (jHi v) = v := by
  unfold jMk jLo jHi
  rw [show v.toInt / 4294967296 * 4294967296 + (v.toInt % 4294967296 - 2147483648 + 2147483648) = v.toInt by omega]
  exact Int64.ofInt_toInt v
theorem sR_jLo (v : Int64) : sR (jLo v) := by unfold sR jLo; omega
theorem sR_jHi (v : Int64) : sR (jHi v) := by
  have h1 := Int64.le_toInt v
  have h2 := Int64.toInt_lt v
  unfold sR jHi
  omega
def sEnt (Δ : Wd) (q : Nat × Nat) (io ro : Int → Int) : va_E :=
  if q.1 < 20 then .inr (q.1, sFs Δ q.1 io ro)
  else if q.1 < 23 then .inl (Δ.2.2.1 (q.1 - 20), q.2, .inl (fun j => sJ (io j)))
  else if q.1 = 23 then .inl (Δ.2.2.1 3, q.2, .inr (.inl (fun j => jMk (io (2 * j)) (io (2 * j + 1)))))
  else if q.1 = 24 then .inl (Δ.2.2.1 4, q.2, .inr (.inr (.inr (.inl (fun j => (jMk (io (2 * j)) (io (2 * j + 1))).toUInt64)))))
  else .inl (Δ.2.2.1 (q.1 - 20), q.2, .inr (.inr (.inr (.inr (fun j => sQ Δ (ro j))))))
def sWs (Δ : Wd) (n : Nat) (i r : MI) : va_W := (List.range n).map (fun k => (Δ.2.2.2.1 + k, sEnt Δ (lay k) (i k) (r k)))
theorem sWs_at {Δ : Wd} {n k : Nat} {i r : MI} (h : k < n) : (sWs Δ n i r)[k]? = some (Δ.2.2.2.1 + k, sEnt Δ (lay k) (i k) (r k)) := by
  unfold sWs
  rw [List.getElem?_map, List.getElem?_range h]
  rfl
theorem sWs_out {Δ : Wd} {n k : Nat} {i r : MI} (h : n ≤ k) : (sWs Δ n i r)[k]? = none := by
  unfold sWs
  rw [List.getElem?_map, List.getElem?_eq_none (by simpa using h)]
  rfl
theorem sWs_D {Δ : Wd} {n : Nat} {A : Nat → Prop} (hA : ∀ k : Nat, k < n → A (Δ.2.2.2.1 + k)) (i r : MI) : va_D A (sWs Δ n i r) := by
  have key : ∀ (k : Nat) (q : Nat × va_E), (sWs Δ n i r)[k]? = some q → q.1 = Δ.2.2.2.1 + k := by
    intro k q h
    rcases Nat.lt_or_ge k n with hk | hk
    · rw [sWs_at hk] at h
      rw [← Option.some.inj h]
    · rw [sWs_out hk] at h
      cases h
  refine ⟨fun a c p q hp hq e => ?_, fun k q h => ?_⟩
  · have h1 := key a p hp
    have h2 := key c q hq
    omega
  · rw [key k q h]
    rcases Nat.lt_or_ge k n with hk | hk
    · exact hA k hk
    · rw [sWs_out hk] at h
      cases h
theorem sWs_set {Δ : Wd} {n k : Nat} {i r i2 r2 : MI} (hk : k < n) {e : va_E} (he : e = sEnt Δ (lay k) (i2 k) (r2 k)) (hi : ∀ j : Nat, j ≠ k → i2 j = i j) (hr : ∀ j : Nat, j ≠ k → r2 j = r j) :
    (sWs Δ n i r).set k (Δ.2.2.2.1 + k, e) = sWs Δ n i2 r2 := by
  apply List.ext_getElem?
  intro j
  by_cases hj : j = k
  · subst hj
    rw [sWs_at hk, List.getElem?_set_self (by unfold sWs; simpa using hk), he]
  · rw [List.getElem?_set_ne (fun h => hj h.symm)]
    rcases Nat.lt_or_ge j n with h | h
    · rw [sWs_at h, sWs_at h, hi j hj, hr j hj]
    · rw [sWs_out h, sWs_out h]
theorem sFs_at {Δ : Wd} {ci k : Nat} {io ro : Int → Int} (h : k < nfd ci) : (sFs Δ ci io ro)[k]? = some (sFld Δ ci k io ro) := by
  unfold sFs
  rw [List.getElem?_map, List.getElem?_range h]
  rfl
theorem sFs_len {Δ : Wd} {ci : Nat} {io ro : Int → Int} : (sFs Δ ci io ro).length = nfd ci := by simp [sFs]
theorem sFs_set {Δ : Wd} {ci k : Nat} {io ro i2 r2 : Int → Int} (hk : k < nfd ci) {v : Value} (hv : v = sFld Δ ci k i2 r2) (hi : ∀ j : Nat, j ≠ k → i2 j = io j) (hr : ∀ j : Nat, j ≠ k → r2 j = ro j) : (sFs Δ ci io ro).set k v = sFs Δ ci i2 r2 := by
  apply List.ext_getElem?
  intro j
  by_cases hj : j = k
  · subst hj
    rw [sFs_at hk, List.getElem?_set_self (by rw [sFs_len]; exact hk), hv]
  · rw [List.getElem?_set_ne (fun h => hj h.symm)]
    rcases Nat.lt_or_ge j (nfd ci) with h | h
    · rw [sFs_at h, sFs_at h]
      unfold sFld
      rw [hi j hj, hr j hj]
    · rw [List.getElem?_eq_none (by rw [sFs_len]; exact h), List.getElem?_eq_none (by rw [sFs_len]; exact h)]
theorem st_row {i : MI} {o k v : Int} {a : Int} (h : ¬ a = o) : st i o k v a = i a := by funext c; unfold st; rw [if_neg (fun q => h q.1)]
theorem st_ne {i : MI} {o k v a c : Int} (h : ¬ (a = o ∧ c = k)) : st i o k v a c = i a c := if_neg h
theorem st_eq {i : MI} {o k v : Int} : st i o k v o k = v := if_pos ⟨rfl, rfl⟩
/-- an object's number and kind -/
def isA (o : Int) (q : Nat × Nat) : Prop := 0 ≤ o ∧ o < 504 ∧ lay o.toNat = q
theorem isA.n {o : Int} {q : Nat × Nat} (h : isA o q) : o.toNat < 504 := by have := h.2.1; have := h.1; omega

theorem isA.of {o : Int} {q : Nat × Nat} (h : (decide (0 ≤ o) && decide (o < 504) && decide (lay o.toNat = q)) = true) : isA o q := by
  simp only [Bool.and_eq_true, decide_eq_true_eq] at h
  exact ⟨h.1.1, h.1.2, h.2⟩

def nST : Nat := 13
def lenST : List Nat := [33, 7, 2, 7, 2, 2, 1, 2, 2, 1, 1, 1, 1]
def bytST : List (List Int32) := [[48, 49, 50, 51, 52, 53, 54, 55, 56, 57, 97, 98, 99, 100, 101, 102, 103, 104, 105, 108, 77, 78, 61, 91, 93, 43, 45, 42, 38, 124, 94, 60, 62], [43, 45, 42, 38, 124, 94, 108], [77, 78], [97, 109, 103, 77, 78, 60, 62], [77, 91], [78, 91], [105], [105, 43], [105, 45], [93], [62], [61], [60]]
def sST : List (String × Nat × String × Nat) := [("Schedulary", 80, "0123456789abcdefghilMN=[]+-*&|^<>", 0), ("Schedulary$Text", 77, "MN", 2), ("Schedulary$Text", 56, "+-*&|^l", 1), ("Schedulary", 195, "MN", 2), ("Schedulary", 197, "amgMN<>", 3), ("SchedularyLaw", 178, "M[", 4), ("SchedularyLaw", 180, "N[", 5), ("SchedularyLaw", 158, "i", 6), ("SchedularyLaw", 163, "i+", 7), ("SchedularyLaw", 176, "i-", 8), ("SchedularyLaw", 186, "]", 9), ("SchedularyLaw", 195, ">", 10), ("SchedularyLaw", 197, "=", 11), ("SchedularyLaw", 193, "<", 12), ("SchedularyLaw", 202, "+-*&|^l", 1), ("SchedularyLaw", 213, "amgMN<>", 3)]
def sMS : List (String × Nat × String) := [("Schedulary", 90, "no sign of a statement"), ("Schedulary", 100, "the buffer is full"), ("Schedulary", 119, "no statement"), ("Schedulary", 125, "too many statements"), ("Schedulary", 136, "no such statement"), ("Schedulary", 147, "1 to 16 turns"), ("Schedulary", 155, "the factor does not divide the turns"), ("Schedulary", 164, "1 to 16 bits"), ("Schedulary", 169, "factors are 1 to 4"), ("Schedulary", 171, "too many statements in a body"), ("Schedulary", 174, "values are 0 to 65535"), ("Schedulary", 179, "too many inputs"), ("Schedulary", 189, "no such place or value"), ("Schedulary", 199, "no such kind, or not 1 to 4 units"), ("Schedulary", 201, "a channel has one unit"), ("Schedulary", 212, "no such kind, or not 1 to 5 cycles"), ("Schedulary", 326, "no such process or channel"), ("Schedulary", 331, "too many actions"), ("Schedulary", 336, "no such channel, or not 1 to 16 deep"), ("Schedulary", 347, "no such process"), ("Schedulary", 223, "no such value"), ("Schedulary", 228, "no such place"), ("Schedulary", 233, "no such register"), ("Schedulary", 386, "no such node"), ("Schedulary", 267, "no such edge"), ("Schedulary", 359, "locked by 16, too"), ("java/util/Arrays", 337, " > "), ("Schedulary", 365, "no such kind")]
def cL : List (Int × Int × Int) := [(0, 0, 1), (0, 1, 3), (0, 2, 61), (0, 3, 67), (0, 4, 168), (0, 5, 461), (0, 6, 469), (0, 7, 480), (0, 8, 488), (1, 0, 2), (3, 0, 4), (3, 1, 5), (3, 2, 6), (67, 0, 68), (67, 1, 69), (67, 2, 70), (67, 3, 71), (168, 0, 169), (168, 1, 266), (168, 2, 363), (168, 3, 460), (461, 0, 462), (461, 1, 463), (461, 2, 464), (461, 3, 465), (461, 4, 466), (461, 5, 467), (461, 6, 468), (469, 0, 470), (469, 1, 471), (469, 2, 472), (480, 0, 481), (480, 1, 487), (488, 0, 489), (488, 1, 494), (488, 2, 499), (488, 3, 500), (488, 4, 501), (488, 5, 502), (488, 6, 503)]
def rL : List (Int × Int × Int) := [(6, 2, 7), (169, 96, 170), (266, 96, 267), (363, 96, 364), (472, 7, 473), (489, 4, 490), (494, 4, 495), (68, 96, 72)]
def stm (o : Int) : Prop := 9 ≤ o ∧ o ≤ 57 ∧ (o - 9) % 4 = 0
def sta (o : Int) : Prop := o = 61 ∨ o = 481
/-- what the references are, in every state behind the constructors -/
def Wf (r : MI) : Prop := (∀ p ∈ cL, r p.1 p.2.1 = p.2.2) ∧ (∀ p ∈ rL, ∀ k : Int, 0 ≤ k → k < p.2.1 → r p.1 k = p.2.2 + k) ∧ (∀ o, stm o → r o 0 = o + 1 ∧ r o 1 = o + 2 ∧ r o 2 = o + 3) ∧ (∀ o, sta o → r o 0 = o + 1 ∧ r o 1 = o + 2 ∧ r o 2 = o + 5 ∧ r (o + 2) 0 = o + 3 ∧ r (o + 2) 1 = o + 4) ∧ (∀ k : Int, 0 ≤ k → k < 12 → stm (r 4 k)) ∧ stm (r 3 3) ∧ (∀ k : Int, 0 ≤ k → k < 96 → r (72 + k) 0 = 0 ∨ stm (r (72 + k) 0))
theorem isA_rng (a m : Nat) (q : Nat × Nat) (hd : ((List.range m).all (fun k => decide (lay (a + k) = q)) && decide (a + m ≤ 504)) = true) {o : Int} (h1 : (a : Int) ≤ o) (h2 : o < (a : Int) + m) : isA o q := by
  simp only [Bool.and_eq_true, decide_eq_true_eq, List.all_eq_true, List.mem_range] at hd
  refine ⟨by omega, by omega, ?_⟩
  have := hd.1 (o.toNat - a) (by omega)
  rwa [show a + (o.toNat - a) = o.toNat by omega] at this
theorem isA_step (m : Nat) (d : Nat) (q : Nat × Nat) (hd : ((List.range m).all (fun k => decide (lay (d + 4 * k) = q)) && decide (d + 4 * m ≤ 507)) = true) {o : Int} (h1 : (d : Int) ≤ o) (h2 : o < (d : Int) + 4 * m) (h3 : (o - d) % 4 = 0) : isA o q := by
  simp only [Bool.and_eq_true, decide_eq_true_eq, List.all_eq_true, List.mem_range] at hd
  refine ⟨by omega, by omega, ?_⟩
  have := hd.1 ((o.toNat - d) / 4) (by omega)
  rwa [show d + 4 * ((o.toNat - d) / 4) = o.toNat by omega] at this
theorem stm.o {o : Int} (h : stm o) : isA o (10, 0) := isA_step 13 9 _ (by decide +kernel) h.1 (by have := h.2.1; omega) h.2.2
theorem stm.f {o : Int} (h : stm o) : isA (o + 1) (20, 3) := isA_step 13 10 _ (by decide +kernel) (by have := h.1; omega) (by have := h.2.1; omega) (by have := h.2.2; omega)
theorem stm.m {o : Int} (h : stm o) : isA (o + 2) (20, 3) := isA_step 13 11 _ (by decide +kernel) (by have := h.1; omega) (by have := h.2.1; omega) (by have := h.2.2; omega)
theorem stm.t {o : Int} (h : stm o) : isA (o + 3) (22, 3) := isA_step 13 12 _ (by decide +kernel) (by have := h.1; omega) (by have := h.2.1; omega) (by have := h.2.2; omega)
theorem stm.z {o : Int} (h : stm o) : ¬ o = 0 := by have := h.1; omega
theorem sta.o {o : Int} (h : sta o) : isA o (9, 0) := by rcases h with rfl | rfl <;> exact isA.of (by decide +kernel)
theorem sta.r {o : Int} (h : sta o) : isA (o + 1) (20, 8) := by rcases h with rfl | rfl <;> exact isA.of (by decide +kernel)
theorem sta.mm {o : Int} (h : sta o) : isA (o + 2) (27, 2) := by rcases h with rfl | rfl <;> exact isA.of (by decide +kernel)
theorem sta.m0 {o : Int} (h : sta o) : isA (o + 3) (20, 16) := by rcases h with rfl | rfl <;> exact isA.of (by decide +kernel)
theorem sta.m1 {o : Int} (h : sta o) : isA (o + 4) (20, 16) := by rcases h with rfl | rfl <;> exact isA.of (by decide +kernel)
theorem sta.out {o : Int} (h : sta o) : isA (o + 5) (20, 192) := by rcases h with rfl | rfl <;> exact isA.of (by decide +kernel)
theorem node_o {k : Int} (h0 : 0 ≤ k) (h1 : k < 96) : isA (72 + k) (5, 0) := isA_rng 72 96 _ (by decide +kernel) (by omega) (by omega)

/-! ===== the words, the world's tables, the judgement V ===== -/
def gW : List Cond := lw_tbl.filter goodWord
theorem gw_of {k : Nat} {w : Cond} (h : lw_tbl[k]? = some w) (hg : goodWord w = true) : w ∈ gW := List.mem_filter.mpr ⟨List.mem_of_getElem? h, hg⟩
theorem gW_good : ∀ w ∈ gW, ((w.onTables && w.keeps) = true ∨ ∃ ty, w = .arrayClass ty) := fun _ h => good_of_word (List.mem_filter.mp h).2
def isX : Cond → Bool
  | .fieldLinkNest .. => true
  | .methodLinkNest .. => true
  | .castable .. => true
  | .declares .. => true
  | _ => false
def gX : List Cond := lw_tbl.filter isX
theorem gx_of {k : Nat} {w : Cond} (h : lw_tbl[k]? = some w) (hg : isX w = true) : w ∈ gX := List.mem_filter.mpr ⟨List.mem_of_getElem? h, hg⟩
theorem gX_on {w : Cond} (h : isX w = true) : w.onTables = true := by
  cases w <;> first | rfl | (simp [isX] at h; done)
theorem gX_warm {s U : State} (hW : s.WarmedH U.vm) (h : ∀ w ∈ gX, va_Nw w s) : ∀ w ∈ gX, va_Nw w U := by
  intro w hw
  have h1 := (List.mem_filter.mp hw).2
  have h2 := h w hw
  cases w <;> first | exact va_Nw.warmF hW h2 | exact va_Nw.warmM hW h2 | exact va_Nw.warmC hW h2 | exact va_Nw.warmD hW h2 | (simp [isX] at h1; done)
def ncL : List (String × String) := [("java/lang/IllegalStateException", "java/lang/IllegalArgumentException"), ("java/lang/IllegalArgumentException", "java/lang/IndexOutOfBoundsException"), ("java/lang/UnsupportedOperationException", "java/lang/IllegalArgumentException"), ("java/lang/IllegalStateException", "java/lang/UnsupportedOperationException"), ("java/util/NoSuchElementException", "java/lang/IndexOutOfBoundsException"), ("java/lang/UnsupportedOperationException", "java/lang/IndexOutOfBoundsException"), ("java/util/NoSuchElementException", "java/lang/IllegalArgumentException"), ("java/util/NoSuchElementException", "java/lang/UnsupportedOperationException"), ("java/lang/IllegalStateException", "java/lang/IndexOutOfBoundsException"), ("java/lang/IllegalStateException", "java/util/NoSuchElementException")]
def aoL : List FieldType := [.object "Schedulary$Statement", .object "Schedulary$Node", .array .int]
theorem ao_moved {ty : FieldType} {u U : State} (hty : ty = .array .int ∨ ∃ C, ty = .object C) (hvm : u.vm.Alike U.vm) (h : (Cond.arrayOver ty).before #[] u = true) : (Cond.arrayOver ty).before #[] U = true := by
  rcases hty with rfl | ⟨C, rfl⟩
  · exact over_moved hvm h
  · exact va_AO.moved hvm h
theorem aoL_ty {ty : FieldType} (h : ty ∈ aoL) : ty = .array .int ∨ ∃ C, ty = .object C := by
  simp only [aoL, List.mem_cons, List.not_mem_nil, or_false] at h
  rcases h with rfl | rfl | rfl
  · exact Or.inr ⟨_, rfl⟩
  · exact Or.inr ⟨_, rfl⟩
  · exact Or.inl rfl
abbrev Cx : Type := Program × Launch × Env × Room × State × MethodId × Array Value × List Frame × Method × Code × Nat
def sTys (Δ : Wd) : List (ClassId × FieldType) := [(Δ.2.2.1 0, .int), (Δ.2.2.1 1, .char), (Δ.2.2.1 2, .boolean), (Δ.2.2.1 0, .int), (Δ.2.2.1 0, .int), (Δ.2.2.1 5, .object "Schedulary$Statement"), (Δ.2.2.1 6, .object "Schedulary$Node"), (Δ.2.2.1 7, .array .int), (Δ.2.2.1 8, .byte)]
abbrev sG (Δ : Wd) : va_G := (Δ.1, Δ.2.1)
/-- what the tables and the texts say, at a state -/
def KK (Δ : Wd) (U : State) : Prop := va_K (sG Δ) vwCl (sTys Δ) U ∧ vk_S nST lenST bytST Δ.2.2.2.2.1 Δ.2.2.2.2.2.1 (sFr Δ) U U.heap ∧ (∀ q ∈ sST, vk_R q.1 q.2.1 q.2.2.1 (Δ.2.2.2.2.1 q.2.2.2) U) ∧ va_Z "java/lang/String" "COMPACT_STRINGS" "Z" (.int 1) (sFr Δ) U U.heap ∧ (∀ w ∈ gX, va_Nw w U) ∧ va_Zq "jdk/internal/util/Preconditions" "SIOOBE_FORMATTER" "Ljava/util/function/BiFunction;" (sFr Δ) U U.heap ∧ vx_Zq Bundle.tN "UNASSIGNED_STACK" Bundle.steD (sFr Δ) U U.heap ∧ vx_Zq Bundle.tN "SUPPRESSED_SENTINEL" Bundle.listD (sFr Δ) U U.heap ∧ (∀ q ∈ sMS, ∃ a, vk_R q.1 q.2.1 q.2.2 a U) ∧ (∀ q ∈ ncL, va_Nc q.1 q.2 U) ∧ (∀ ty ∈ aoL, (Cond.arrayOver ty).before #[] U = true) ∧ (∀ H H1 : Heap, (∀ q : Nat, q < H.size → ¬ sFr Δ q → H1[q]? = H[q]?) → sE Δ H → sE Δ H1) ∧ (sS0 Δ).vm.Alike U.vm
def okG (Γ : Cx) (Δ : Wd) (l : Launch) (R : Room) (cc : ByteArray) (own : String) (nL : Nat) : Prop := match Γ with
  | (p, l', _, R', s, m, args, _, meth, c, nL') => p.tables.exec = Jvm.exec ∧ c.code = cc ∧ c.maxLocals = nL' ∧ s.vm.findClass own = some m.cls ∧ (∀ w ∈ gW, w.before args s = true) ∧ KK Δ s ∧ meth.locks = false ∧ nL' = nL ∧ l' = l ∧ R' = R
/-- the heap holds the object, may write it, and holds what else there is -/
def sH (Δ : Wd) (n : Nat) (i r : MI) (H : Heap) : Prop := va_P (sG Δ) vwCl (sWs Δ n i r) H ∧ (∀ k : Nat, k < n → sFr Δ (Δ.2.2.2.1 + k)) ∧ sE Δ H
theorem sH.D {Δ : Wd} {n : Nat} {i r : MI} {H : Heap} (h : sH Δ n i r H) : va_D (sFr Δ) (sWs Δ n i r) := sWs_D h.2.1 i r
theorem va_S.self {A : Nat → Prop} {H0 H : Heap} {locs : List Loc} (h : va_S A H0 H locs) : va_S A H H locs := ⟨Nat.le_refl _, fun _ _ _ => rfl, h.2.2⟩
theorem va_S.tr {A : Nat → Prop} {H0 H H1 : Heap} {locs locs1 : List Loc} (h : va_S A H0 H locs) (h1 : va_S A H H1 locs1) : va_S A H0 H1 locs1 := ⟨Nat.le_trans h.1 h1.1, fun q a b => (h1.2.1 q (Nat.lt_of_lt_of_le a h.1) b).trans (h.2.1 q a b), h1.2.2⟩
theorem KK.ap {Δ : Wd} {U : State} (h : KK Δ U) : ∀ H H1 : Heap, (∀ q : Nat, q < H.size → ¬ sFr Δ q → H1[q]? = H[q]?) → sE Δ H → sE Δ H1 := h.2.2.2.2.2.2.2.2.2.2.2.1
theorem KK.s0 {Δ : Wd} {U : State} (h : KK Δ U) : (sS0 Δ).vm.Alike U.vm := h.2.2.2.2.2.2.2.2.2.2.2.2
theorem sE_kept {Δ : Wd} {U : State} {H H1 : Heap} {locs1 : List Loc} (hK : KK Δ U) (hE : sE Δ H) (h1 : va_S (sFr Δ) H H1 locs1) : sE Δ H1 := hK.ap H H1 h1.2.1 hE
theorem sE_old {Δ : Wd} {U : State} {H H1 : Heap} (hK : KK Δ U) (hE : sE Δ H) (h1 : ∀ q : Nat, q < H.size → H1[q]? = H[q]?) : sE Δ H1 := hK.ap H H1 (fun q h _ => h1 q h) hE
theorem sH.old {Δ : Wd} {U : State} {n : Nat} {i r : MI} {H H1 : Heap} (hK : KK Δ U) (hP : sH Δ n i r H) (ho : ∀ q : Nat, q < H.size → H1[q]? = H[q]?) : sH Δ n i r H1 := ⟨hP.1.kept (fun k q hq => ho _ (hP.1 k q hq).lt), hP.2.1, sE_old hK hP.2.2 ho⟩
theorem sE_put {Δ : Wd} {U : State} {H H1 : Heap} {a : Nat} (hK : KK Δ U) (hE : sE Δ H) (ha : sFr Δ a) (oq : ∀ q : Nat, q ≠ a → H1[q]? = H[q]?) : sE Δ H1 := hK.ap H H1 (fun q _ hn => oq q (fun z => hn (by rw [z]; exact ha))) hE
def V (Γ : Cx) (Δ : Wd) (n : Nat) (ex : Bool) (i r : MI) (kc sl : Nat) (Q : State → Prop) (pc : Nat) (lv : List (Nat × Value)) (stk : List Value) : Prop := match Γ with
  | (p, l, e, R, s, m, args, below, meth, c, nL) => ∀ (H : Heap) (locs : List Loc) (ls : Array Slot), sH Δ n i r H → (ex = true → H.size = Δ.2.2.2.1 + n ∧ ∀ q, Δ.2.2.2.1 ≤ q → sFr Δ q) → va_S (sFr Δ) s.heap H locs → lv_has ls nL lv → W p l e R s m args below meth c H locs kc sl Q (F0 m pc ls stk)
def sPut (i : Nat) (v : Value) (lv : List (Nat × Value)) : List (Nat × Value) := (i, v) :: lv.filter (fun q => !(q.1 == i) && !(q.1 + 1 == i && q.2.category == 2))
section VROWS
variable {Γ : Cx} {Δ : Wd} {l : Launch} {R : Room} {n : Nat} {ex : Bool} {i r : MI} {kc sl : Nat} {Q : State → Prop} {pc : Nat} {lv lv' : List (Nat × Value)} {stk : List Value} {cc : ByteArray} {own : String} {nL : Nat}
theorem V.eq {pc2 : Nat} (hp : pc = pc2) (kk : V Γ Δ n ex i r kc sl Q pc2 lv stk) : V Γ Δ n ex i r kc sl Q pc lv stk := hp ▸ kk
theorem V.pick (ks : List Nat) (hl : lv_pick lv ks = lv') (kk : V Γ Δ n ex i r kc sl Q pc lv' stk) : V Γ Δ n ex i r kc sl Q pc lv stk := by
  obtain ⟨p, l, e, R, s, m, args, below, meth, c, nL'⟩ := Γ
  intro H locs ls hP hz hS h
  exact kk H locs ls hP hz hS (lv_sub h ks hl)
theorem V.iconst {x : Int} (h : okG Γ Δ l R cc own nL) (hdg : decode cc pc = .ok (.iconst x, 1)) (kk : V Γ Δ n ex i r kc sl Q (pc + 1) lv (.int (sJ x) :: stk)) : V Γ Δ n ex i r kc sl Q (pc) lv stk := by
  obtain ⟨p, l', e, R', s, m, args, below, meth, c, nL'⟩ := Γ
  obtain ⟨hx, hb, hml, hown, hts, hKK, hlk, rfl, rfl, rfl⟩ := h
  intro H locs ls hP hz hS hl
  exact lv_iconst (v := sJ x) hx hb hdg rfl (kk H locs ls hP hz hS hl)
theorem V.bipush {x : Int} (h : okG Γ Δ l R cc own nL) (hdg : decode cc pc = .ok (.bipush x, 2)) (hv : (Int8.ofInt x).toInt32 = sJ x) (kk : V Γ Δ n ex i r kc sl Q (pc + 2) lv (.int (sJ x) :: stk)) : V Γ Δ n ex i r kc sl Q (pc) lv stk := by
  obtain ⟨p, l', e, R', s, m, args, below, meth, c, nL'⟩ := Γ
  obtain ⟨hx, hb, hml, hown, hts, hKK, hlk, rfl, rfl, rfl⟩ := h
  intro H locs ls hP hz hS hl
  exact lv_bipush hx hb hdg hv (kk H locs ls hP hz hS hl)
theorem V.sipush {x : Int} (h : okG Γ Δ l R cc own nL) (hdg : decode cc pc = .ok (.sipush x, 3)) (hv : (Int16.ofInt x).toInt32 = sJ x) (kk : V Γ Δ n ex i r kc sl Q (pc + 3) lv (.int (sJ x) :: stk)) : V Γ Δ n ex i r kc sl Q (pc) lv stk := by
  obtain ⟨p, l', e, R', s, m, args, below, meth, c, nL'⟩ := Γ
  obtain ⟨hx, hb, hml, hown, hts, hKK, hlk, rfl, rfl, rfl⟩ := h
  intro H locs ls hP hz hS hl
  exact lv_sipush hx hb hdg hv (kk H locs ls hP hz hS hl)
theorem V.ldc {x : Int} {ix : Nat} (h : okG Γ Δ l R cc own nL) (hc : Cond.constant own ix (sJ x) ∈ gW) (hdg : decode cc pc = .ok (.ldc ix, 2)) (kk : V Γ Δ n ex i r kc sl Q (pc + 2) lv (.int (sJ x) :: stk)) : V Γ Δ n ex i r kc sl Q (pc) lv stk := by
  obtain ⟨p, l', e, R', s, m, args, below, meth, c, nL'⟩ := Γ
  obtain ⟨hx, hb, hml, hown, hts, hKK, hlk, rfl, rfl, rfl⟩ := h
  intro H locs ls hP hz hS hl
  exact lv_ldc hx hb hown (hts _ hc) hdg (kk H locs ls hP hz hS hl)
theorem V.iload_n {j : Fin 4} {x : Int} {jn : Nat} (h : okG Γ Δ l R cc own nL) (hdg : decode cc pc = .ok (.iload_n j, 1)) (hj : (j : Nat) = jn) (k : Nat) (hk : lv[k]? = some (jn, .int (sJ x))) (kk : V Γ Δ n ex i r kc sl Q (pc + 1) lv (.int (sJ x) :: stk)) : V Γ Δ n ex i r kc sl Q (pc) lv stk := by
  obtain ⟨p, l', e, R', s, m, args, below, meth, c, nL'⟩ := Γ
  obtain ⟨hx, hb, hml, hown, hts, hKK, hlk, rfl, rfl, rfl⟩ := h
  intro H locs ls hP hz hS hl
  exact lv_iload_n hx hb hdg hj (lv_at hl k hk) (kk H locs ls hP hz hS hl)
theorem V.iload {j : Nat} {x : Int} (h : okG Γ Δ l R cc own nL) (hdg : decode cc pc = .ok (.iload j, 2)) (k : Nat) (hk : lv[k]? = some (j, .int (sJ x))) (kk : V Γ Δ n ex i r kc sl Q (pc + 2) lv (.int (sJ x) :: stk)) : V Γ Δ n ex i r kc sl Q (pc) lv stk := by
  obtain ⟨p, l', e, R', s, m, args, below, meth, c, nL'⟩ := Γ
  obtain ⟨hx, hb, hml, hown, hts, hKK, hlk, rfl, rfl, rfl⟩ := h
  intro H locs ls hP hz hS hl
  exact lv_iload hx hb hdg (lv_at hl k hk) (kk H locs ls hP hz hS hl)
theorem V.aload_n {j : Fin 4} {x : Nat} {jn : Nat} (h : okG Γ Δ l R cc own nL) (hdg : decode cc pc = .ok (.aload_n j, 1)) (hj : (j : Nat) = jn) (k : Nat) (hk : lv[k]? = some (jn, .ref x)) (kk : V Γ Δ n ex i r kc sl Q (pc + 1) lv (.ref x :: stk)) : V Γ Δ n ex i r kc sl Q (pc) lv stk := by
  obtain ⟨p, l', e, R', s, m, args, below, meth, c, nL'⟩ := Γ
  obtain ⟨hx, hb, hml, hown, hts, hKK, hlk, rfl, rfl, rfl⟩ := h
  intro H locs ls hP hz hS hl
  exact lv_aload_n hx hb hdg hj (lv_at hl k hk) (kk H locs ls hP hz hS hl)
theorem V.aload {j : Nat} {x : Nat} (h : okG Γ Δ l R cc own nL) (hdg : decode cc pc = .ok (.aload j, 2)) (k : Nat) (hk : lv[k]? = some (j, .ref x)) (kk : V Γ Δ n ex i r kc sl Q (pc + 2) lv (.ref x :: stk)) : V Γ Δ n ex i r kc sl Q (pc) lv stk := by
  obtain ⟨p, l', e, R', s, m, args, below, meth, c, nL'⟩ := Γ
  obtain ⟨hx, hb, hml, hown, hts, hKK, hlk, rfl, rfl, rfl⟩ := h
  intro H locs ls hP hz hS hl
  exact lv_aload hx hb hdg (lv_at hl k hk) (kk H locs ls hP hz hS hl)
theorem V.lload_n {j : Fin 4} {x : Int64} {jn : Nat} (h : okG Γ Δ l R cc own nL) (hdg : decode cc pc = .ok (.lload_n j, 1)) (hj : (j : Nat) = jn) (k : Nat) (hk : lv[k]? = some (jn, .long x)) (kk : V Γ Δ n ex i r kc sl Q (pc + 1) lv (.long x :: stk)) : V Γ Δ n ex i r kc sl Q (pc) lv stk := by
  obtain ⟨p, l', e, R', s, m, args, below, meth, c, nL'⟩ := Γ
  obtain ⟨hx, hb, hml, hown, hts, hKK, hlk, rfl, rfl, rfl⟩ := h
  intro H locs ls hP hz hS hl
  exact lv_lload_n hx hb hdg hj (lv_at hl k hk) (kk H locs ls hP hz hS hl)
theorem V.lload {j : Nat} {x : Int64} (h : okG Γ Δ l R cc own nL) (hdg : decode cc pc = .ok (.lload j, 2)) (k : Nat) (hk : lv[k]? = some (j, .long x)) (kk : V Γ Δ n ex i r kc sl Q (pc + 2) lv (.long x :: stk)) : V Γ Δ n ex i r kc sl Q (pc) lv stk := by
  obtain ⟨p, l', e, R', s, m, args, below, meth, c, nL'⟩ := Γ
  obtain ⟨hx, hb, hml, hown, hts, hKK, hlk, rfl, rfl, rfl⟩ := h
  intro H locs ls hP hz hS hl
  exact lv_lload hx hb hdg (lv_at hl k hk) (kk H locs ls hP hz hS hl)
theorem V.fload_n {j : Fin 4} {x : UInt32} {jn : Nat} (h : okG Γ Δ l R cc own nL) (hdg : decode cc pc = .ok (.fload_n j, 1)) (hj : (j : Nat) = jn) (k : Nat) (hk : lv[k]? = some (jn, .float x)) (kk : V Γ Δ n ex i r kc sl Q (pc + 1) lv (.float x :: stk)) : V Γ Δ n ex i r kc sl Q (pc) lv stk := by
  obtain ⟨p, l', e, R', s, m, args, below, meth, c, nL'⟩ := Γ
  obtain ⟨hx, hb, hml, hown, hts, hKK, hlk, rfl, rfl, rfl⟩ := h
  intro H locs ls hP hz hS hl
  exact lv_fload_n hx hb hdg hj (lv_at hl k hk) (kk H locs ls hP hz hS hl)
theorem V.fload {j : Nat} {x : UInt32} (h : okG Γ Δ l R cc own nL) (hdg : decode cc pc = .ok (.fload j, 2)) (k : Nat) (hk : lv[k]? = some (j, .float x)) (kk : V Γ Δ n ex i r kc sl Q (pc + 2) lv (.float x :: stk)) : V Γ Δ n ex i r kc sl Q (pc) lv stk := by
  obtain ⟨p, l', e, R', s, m, args, below, meth, c, nL'⟩ := Γ
  obtain ⟨hx, hb, hml, hown, hts, hKK, hlk, rfl, rfl, rfl⟩ := h
  intro H locs ls hP hz hS hl
  exact lv_fload hx hb hdg (lv_at hl k hk) (kk H locs ls hP hz hS hl)
theorem V.dload_n {j : Fin 4} {x : UInt64} {jn : Nat} (h : okG Γ Δ l R cc own nL) (hdg : decode cc pc = .ok (.dload_n j, 1)) (hj : (j : Nat) = jn) (k : Nat) (hk : lv[k]? = some (jn, .double x)) (kk : V Γ Δ n ex i r kc sl Q (pc + 1) lv (.double x :: stk)) : V Γ Δ n ex i r kc sl Q (pc) lv stk := by
  obtain ⟨p, l', e, R', s, m, args, below, meth, c, nL'⟩ := Γ
  obtain ⟨hx, hb, hml, hown, hts, hKK, hlk, rfl, rfl, rfl⟩ := h
  intro H locs ls hP hz hS hl
  exact lv_dload_n hx hb hdg hj (lv_at hl k hk) (kk H locs ls hP hz hS hl)
theorem V.dload {j : Nat} {x : UInt64} (h : okG Γ Δ l R cc own nL) (hdg : decode cc pc = .ok (.dload j, 2)) (k : Nat) (hk : lv[k]? = some (j, .double x)) (kk : V Γ Δ n ex i r kc sl Q (pc + 2) lv (.double x :: stk)) : V Γ Δ n ex i r kc sl Q (pc) lv stk := by
  obtain ⟨p, l', e, R', s, m, args, below, meth, c, nL'⟩ := Γ
  obtain ⟨hx, hb, hml, hown, hts, hKK, hlk, rfl, rfl, rfl⟩ := h
  intro H locs ls hP hz hS hl
  exact lv_dload hx hb hdg (lv_at hl k hk) (kk H locs ls hP hz hS hl)
theorem V.istore_n {j : Fin 4} {x : Int} {jn : Nat} (h : okG Γ Δ l R cc own nL) (hdg : decode cc pc = .ok (.istore_n j, 1)) (hj : (j : Nat) = jn) (hn : jn < nL) (hv : sPut jn (.int (sJ x)) lv = lv') (kk : V Γ Δ n ex i r kc sl Q (pc + 1) lv' stk) : V Γ Δ n ex i r kc sl Q (pc) lv (.int (sJ x) :: stk) := by
  obtain ⟨p, l', e, R', s, m, args, below, meth, c, nL'⟩ := Γ
  obtain ⟨hx, hb, hml, hown, hts, hKK, hlk, rfl, rfl, rfl⟩ := h
  intro H locs ls hP hz hS hl
  exact lv_istore_n hx hb hdg hj hl hn hv (fun ls hl => kk H locs ls hP hz hS hl)
theorem V.istore {j : Nat} {x : Int} (h : okG Γ Δ l R cc own nL) (hdg : decode cc pc = .ok (.istore j, 2)) (hn : j < nL) (hv : sPut j (.int (sJ x)) lv = lv') (kk : V Γ Δ n ex i r kc sl Q (pc + 2) lv' stk) : V Γ Δ n ex i r kc sl Q (pc) lv (.int (sJ x) :: stk) := by
  obtain ⟨p, l', e, R', s, m, args, below, meth, c, nL'⟩ := Γ
  obtain ⟨hx, hb, hml, hown, hts, hKK, hlk, rfl, rfl, rfl⟩ := h
  intro H locs ls hP hz hS hl
  exact lv_istore hx hb hdg hl hn hv (fun ls hl => kk H locs ls hP hz hS hl)
theorem V.astore_n {j : Fin 4} {x : Nat} {jn : Nat} (h : okG Γ Δ l R cc own nL) (hdg : decode cc pc = .ok (.astore_n j, 1)) (hj : (j : Nat) = jn) (hn : jn < nL) (hv : sPut jn (.ref x) lv = lv') (kk : V Γ Δ n ex i r kc sl Q (pc + 1) lv' stk) : V Γ Δ n ex i r kc sl Q (pc) lv (.ref x :: stk) := by
  obtain ⟨p, l', e, R', s, m, args, below, meth, c, nL'⟩ := Γ
  obtain ⟨hx, hb, hml, hown, hts, hKK, hlk, rfl, rfl, rfl⟩ := h
  intro H locs ls hP hz hS hl
  exact lv_astore_n hx hb hdg hj hl hn hv (fun ls hl => kk H locs ls hP hz hS hl)
theorem V.astore {j : Nat} {x : Nat} (h : okG Γ Δ l R cc own nL) (hdg : decode cc pc = .ok (.astore j, 2)) (hn : j < nL) (hv : sPut j (.ref x) lv = lv') (kk : V Γ Δ n ex i r kc sl Q (pc + 2) lv' stk) : V Γ Δ n ex i r kc sl Q (pc) lv (.ref x :: stk) := by
  obtain ⟨p, l', e, R', s, m, args, below, meth, c, nL'⟩ := Γ
  obtain ⟨hx, hb, hml, hown, hts, hKK, hlk, rfl, rfl, rfl⟩ := h
  intro H locs ls hP hz hS hl
  exact lv_astore hx hb hdg hl hn hv (fun ls hl => kk H locs ls hP hz hS hl)
theorem V.iinc {j : Nat} {a x : Int} (h : okG Γ Δ l R cc own nL) (hdg : decode cc pc = .ok (.iinc j a, 3)) (k : Nat) (hk : lv[k]? = some (j, .int (sJ x))) (hn : j < nL) (hv : sPut j (.int (sJ (wr (x + a)))) lv = lv') (kk : V Γ Δ n ex i r kc sl Q (pc + 3) lv' stk) : V Γ Δ n ex i r kc sl Q (pc) lv stk := by
  obtain ⟨p, l', e, R', s, m, args, below, meth, c, nL'⟩ := Γ
  obtain ⟨hx, hb, hml, hown, hts, hKK, hlk, rfl, rfl, rfl⟩ := h
  intro H locs ls hP hz hS hl
  exact lv_iinc hx hb hdg hl hk (sJ_add x a) hn hv (fun ls hl => kk H locs ls hP hz hS hl)
theorem V.iadd {x y : Int} (h : okG Γ Δ l R cc own nL) (hdg : decode cc pc = .ok (.iadd, 1)) (kk : V Γ Δ n ex i r kc sl Q (pc + 1) lv (.int (sJ (wr (x + y))) :: stk)) : V Γ Δ n ex i r kc sl Q (pc) lv (.int (sJ y) :: .int (sJ x) :: stk) := by
  obtain ⟨p, l', e, R', s, m, args, below, meth, c, nL'⟩ := Γ
  obtain ⟨hx, hb, hml, hown, hts, hKK, hlk, rfl, rfl, rfl⟩ := h
  intro H locs ls hP hz hS hl
  exact lv_iadd hx hb hdg (by rw [sJ_add x y]; exact kk H locs ls hP hz hS hl)
theorem V.isub {x y : Int} (h : okG Γ Δ l R cc own nL) (hdg : decode cc pc = .ok (.isub, 1)) (kk : V Γ Δ n ex i r kc sl Q (pc + 1) lv (.int (sJ (wr (x - y))) :: stk)) : V Γ Δ n ex i r kc sl Q (pc) lv (.int (sJ y) :: .int (sJ x) :: stk) := by
  obtain ⟨p, l', e, R', s, m, args, below, meth, c, nL'⟩ := Γ
  obtain ⟨hx, hb, hml, hown, hts, hKK, hlk, rfl, rfl, rfl⟩ := h
  intro H locs ls hP hz hS hl
  exact lv_isub hx hb hdg (by rw [sJ_sub x y]; exact kk H locs ls hP hz hS hl)
theorem V.imul {x y : Int} (h : okG Γ Δ l R cc own nL) (hdg : decode cc pc = .ok (.imul, 1)) (kk : V Γ Δ n ex i r kc sl Q (pc + 1) lv (.int (sJ (wr (x * y))) :: stk)) : V Γ Δ n ex i r kc sl Q (pc) lv (.int (sJ y) :: .int (sJ x) :: stk) := by
  obtain ⟨p, l', e, R', s, m, args, below, meth, c, nL'⟩ := Γ
  obtain ⟨hx, hb, hml, hown, hts, hKK, hlk, rfl, rfl, rfl⟩ := h
  intro H locs ls hP hz hS hl
  exact lv_imul hx hb hdg (by rw [sJ_mul x y]; exact kk H locs ls hP hz hS hl)
theorem V.iand {x y : Int} (h : okG Γ Δ l R cc own nL) (hdg : decode cc pc = .ok (.iand, 1)) (kk : V Γ Δ n ex i r kc sl Q (pc + 1) lv (.int (sJ (iAnd x y)) :: stk)) : V Γ Δ n ex i r kc sl Q (pc) lv (.int (sJ y) :: .int (sJ x) :: stk) := by
  obtain ⟨p, l', e, R', s, m, args, below, meth, c, nL'⟩ := Γ
  obtain ⟨hx, hb, hml, hown, hts, hKK, hlk, rfl, rfl, rfl⟩ := h
  intro H locs ls hP hz hS hl
  have kk := kk H locs ls hP hz hS hl
  unfold iAnd at kk
  rw [sJ_of] at kk
  exact lv_iand hx hb hdg kk
theorem V.ior {x y : Int} (h : okG Γ Δ l R cc own nL) (hdg : decode cc pc = .ok (.ior, 1)) (kk : V Γ Δ n ex i r kc sl Q (pc + 1) lv (.int (sJ (iOr x y)) :: stk)) : V Γ Δ n ex i r kc sl Q (pc) lv (.int (sJ y) :: .int (sJ x) :: stk) := by
  obtain ⟨p, l', e, R', s, m, args, below, meth, c, nL'⟩ := Γ
  obtain ⟨hx, hb, hml, hown, hts, hKK, hlk, rfl, rfl, rfl⟩ := h
  intro H locs ls hP hz hS hl
  have kk := kk H locs ls hP hz hS hl
  unfold iOr at kk
  rw [sJ_of] at kk
  exact lv_ior hx hb hdg kk
theorem V.ixor {x y : Int} (h : okG Γ Δ l R cc own nL) (hdg : decode cc pc = .ok (.ixor, 1)) (kk : V Γ Δ n ex i r kc sl Q (pc + 1) lv (.int (sJ (iXor x y)) :: stk)) : V Γ Δ n ex i r kc sl Q (pc) lv (.int (sJ y) :: .int (sJ x) :: stk) := by
  obtain ⟨p, l', e, R', s, m, args, below, meth, c, nL'⟩ := Γ
  obtain ⟨hx, hb, hml, hown, hts, hKK, hlk, rfl, rfl, rfl⟩ := h
  intro H locs ls hP hz hS hl
  have kk := kk H locs ls hP hz hS hl
  unfold iXor at kk
  rw [sJ_of] at kk
  exact lv_ixor hx hb hdg kk
theorem V.ishl {x y : Int} (h : okG Γ Δ l R cc own nL) (hdg : decode cc pc = .ok (.ishl, 1)) (kk : V Γ Δ n ex i r kc sl Q (pc + 1) lv (.int (sJ (iShl x y)) :: stk)) : V Γ Δ n ex i r kc sl Q (pc) lv (.int (sJ y) :: .int (sJ x) :: stk) := by
  obtain ⟨p, l', e, R', s, m, args, below, meth, c, nL'⟩ := Γ
  obtain ⟨hx, hb, hml, hown, hts, hKK, hlk, rfl, rfl, rfl⟩ := h
  intro H locs ls hP hz hS hl
  have kk := kk H locs ls hP hz hS hl
  unfold iShl at kk
  rw [sJ_of] at kk
  exact lv_ishl hx hb hdg kk
theorem V.ishr {x y : Int} (h : okG Γ Δ l R cc own nL) (hdg : decode cc pc = .ok (.ishr, 1)) (kk : V Γ Δ n ex i r kc sl Q (pc + 1) lv (.int (sJ (iShr x y)) :: stk)) : V Γ Δ n ex i r kc sl Q (pc) lv (.int (sJ y) :: .int (sJ x) :: stk) := by
  obtain ⟨p, l', e, R', s, m, args, below, meth, c, nL'⟩ := Γ
  obtain ⟨hx, hb, hml, hown, hts, hKK, hlk, rfl, rfl, rfl⟩ := h
  intro H locs ls hP hz hS hl
  have kk := kk H locs ls hP hz hS hl
  unfold iShr at kk
  rw [sJ_of] at kk
  exact lv_ishr hx hb hdg kk
theorem V.idiv {x y : Int} (h : okG Γ Δ l R cc own nL) (hsx : sR x) (hsy : sR y) (hy : ¬ y = 0) (hdg : decode cc pc = .ok (.idiv, 1)) (kk : V Γ Δ n ex i r kc sl Q (pc + 1) lv (.int (sJ (wr (x.tdiv y))) :: stk)) : V Γ Δ n ex i r kc sl Q (pc) lv (.int (sJ y) :: .int (sJ x) :: stk) := by
  obtain ⟨p, l', e, R', s, m, args, below, meth, c, nL'⟩ := Γ
  obtain ⟨hx, hb, hml, hown, hts, hKK, hlk, rfl, rfl, rfl⟩ := h
  intro H locs ls hP hz hS hl
  exact lv_idiv hx hb hdg (fun q => hy (sJ_inj hsy sR_0 q)) (by rw [sJ_div hsx hsy]; exact kk H locs ls hP hz hS hl)
theorem V.irem {x y : Int} (h : okG Γ Δ l R cc own nL) (hsx : sR x) (hsy : sR y) (hy : ¬ y = 0) (hdg : decode cc pc = .ok (.irem, 1)) (kk : V Γ Δ n ex i r kc sl Q (pc + 1) lv (.int (sJ (x.tmod y)) :: stk)) : V Γ Δ n ex i r kc sl Q (pc) lv (.int (sJ y) :: .int (sJ x) :: stk) := by
  obtain ⟨p, l', e, R', s, m, args, below, meth, c, nL'⟩ := Γ
  obtain ⟨hx, hb, hml, hown, hts, hKK, hlk, rfl, rfl, rfl⟩ := h
  intro H locs ls hP hz hS hl
  exact lv_irem hx hb hdg (fun q => hy (sJ_inj hsy sR_0 q)) (by rw [sJ_rem hsx hsy]; exact kk H locs ls hP hz hS hl)
theorem V.ineg {x : Int} (h : okG Γ Δ l R cc own nL) (hdg : decode cc pc = .ok (.ineg, 1)) (kk : V Γ Δ n ex i r kc sl Q (pc + 1) lv (.int (sJ (wr (-x))) :: stk)) : V Γ Δ n ex i r kc sl Q (pc) lv (.int (sJ x) :: stk) := by
  obtain ⟨p, l', e, R', s, m, args, below, meth, c, nL'⟩ := Γ
  obtain ⟨hx, hb, hml, hown, hts, hKK, hlk, rfl, rfl, rfl⟩ := h
  intro H locs ls hP hz hS hl
  exact lv_ineg hx hb hdg (by rw [sJ_neg]; exact kk H locs ls hP hz hS hl)
theorem V.i2c {x : Int} (h : okG Γ Δ l R cc own nL) (hsx : sR x) (hdg : decode cc pc = .ok (.i2c, 1)) (kk : V Γ Δ n ex i r kc sl Q (pc + 1) lv (.int (sJ (x % 65536)) :: stk)) : V Γ Δ n ex i r kc sl Q (pc) lv (.int (sJ x) :: stk) := by
  obtain ⟨p, l', e, R', s, m, args, below, meth, c, nL'⟩ := Γ
  obtain ⟨hx, hb, hml, hown, hts, hKK, hlk, rfl, rfl, rfl⟩ := h
  intro H locs ls hP hz hS hl
  exact lv_i2c hx hb hdg (sJ_i2c hsx) (kk H locs ls hP hz hS hl)
theorem V.dup {v : Value} (h : okG Γ Δ l R cc own nL) (hdg : decode cc pc = .ok (.dup, 1)) (hv : v.category = 1) (kk : V Γ Δ n ex i r kc sl Q (pc + 1) lv (v :: v :: stk)) : V Γ Δ n ex i r kc sl Q (pc) lv (v :: stk) := by
  obtain ⟨p, l', e, R', s, m, args, below, meth, c, nL'⟩ := Γ
  obtain ⟨hx, hb, hml, hown, hts, hKK, hlk, rfl, rfl, rfl⟩ := h
  intro H locs ls hP hz hS hl
  exact lv_dup hx hb hdg hv (kk H locs ls hP hz hS hl)
theorem V.pop {v : Value} (h : okG Γ Δ l R cc own nL) (hdg : decode cc pc = .ok (.pop, 1)) (hv : v.category = 1) (kk : V Γ Δ n ex i r kc sl Q (pc + 1) lv stk) : V Γ Δ n ex i r kc sl Q (pc) lv (v :: stk) := by
  obtain ⟨p, l', e, R', s, m, args, below, meth, c, nL'⟩ := Γ
  obtain ⟨hx, hb, hml, hown, hts, hKK, hlk, rfl, rfl, rfl⟩ := h
  intro H locs ls hP hz hS hl
  exact lv_pop hx hb hdg hv (kk H locs ls hP hz hS hl)
theorem V.dup2 {v u : Value} (h : okG Γ Δ l R cc own nL) (hdg : decode cc pc = .ok (.dup2, 1)) (hv : v.category = 1) (hu : u.category = 1) (kk : V Γ Δ n ex i r kc sl Q (pc + 1) lv (v :: u :: v :: u :: stk)) : V Γ Δ n ex i r kc sl Q (pc) lv (v :: u :: stk) := by
  obtain ⟨p, l', e, R', s, m, args, below, meth, c, nL'⟩ := Γ
  obtain ⟨hx, hb, hml, hown, hts, hKK, hlk, rfl, rfl, rfl⟩ := h
  intro H locs ls hP hz hS hl
  exact lv_dup2_11 hx hb hdg hv hu (kk H locs ls hP hz hS hl)
theorem V.goto {off : Int} {tgt : Nat} (h : okG Γ Δ l R cc own nL) (hdg : decode cc pc = .ok (.goto off, 3)) (ht : (pc : Int) + off = (tgt : Int)) (kk : V Γ Δ n ex i r kc sl Q (tgt) lv stk) : V Γ Δ n ex i r kc sl Q (pc) lv stk := by
  obtain ⟨p, l', e, R', s, m, args, below, meth, c, nL'⟩ := Γ
  obtain ⟨hx, hb, hml, hown, hts, hKK, hlk, rfl, rfl, rfl⟩ := h
  intro H locs ls hP hz hS hl
  exact lv_goto hx hb hdg ht (kk H locs ls hP hz hS hl)
theorem V.icmp_eq {x y : Int} {off : Int} {tgt : Nat} (h : okG Γ Δ l R cc own nL) (hsx : sR x) (hsy : sR y) (hdg : decode cc pc = .ok (.if_icmp .eq off, 3)) (ht : (pc : Int) + off = (tgt : Int)) (kt : x = y → V Γ Δ n ex i r kc sl Q (tgt) lv stk) (kf : ¬ x = y → V Γ Δ n ex i r kc sl Q (pc + 3) lv stk) : V Γ Δ n ex i r kc sl Q (pc) lv (.int (sJ y) :: .int (sJ x) :: stk) := by
  obtain ⟨p, l', e, R', s, m, args, below, meth, c, nL'⟩ := Γ
  obtain ⟨hx, hb, hml, hown, hts, hKK, hlk, rfl, rfl, rfl⟩ := h
  intro H locs ls hP hz hS hl
  exact lv_icmp_eq hx hb hdg ht (fun q => kt ((sJ_eq hsx hsy).mp q) H locs ls hP hz hS hl) (fun q => kf (fun z => q ((sJ_eq hsx hsy).mpr z)) H locs ls hP hz hS hl)
theorem V.if_eq {x : Int} {off : Int} {tgt : Nat} (h : okG Γ Δ l R cc own nL) (hsx : sR x) (hdg : decode cc pc = .ok (.ifCond .eq off, 3)) (ht : (pc : Int) + off = (tgt : Int)) (kt : x = 0 → V Γ Δ n ex i r kc sl Q (tgt) lv stk) (kf : ¬ x = 0 → V Γ Δ n ex i r kc sl Q (pc + 3) lv stk) : V Γ Δ n ex i r kc sl Q (pc) lv (.int (sJ x) :: stk) := by
  obtain ⟨p, l', e, R', s, m, args, below, meth, c, nL'⟩ := Γ
  obtain ⟨hx, hb, hml, hown, hts, hKK, hlk, rfl, rfl, rfl⟩ := h
  intro H locs ls hP hz hS hl
  exact lv_if_eq hx hb hdg ht (fun q => kt ((sJ_eq hsx sR_0).mp q) H locs ls hP hz hS hl) (fun q => kf (fun z => q ((sJ_eq hsx sR_0).mpr z)) H locs ls hP hz hS hl)
theorem V.icmp_ne {x y : Int} {off : Int} {tgt : Nat} (h : okG Γ Δ l R cc own nL) (hsx : sR x) (hsy : sR y) (hdg : decode cc pc = .ok (.if_icmp .ne off, 3)) (ht : (pc : Int) + off = (tgt : Int)) (kt : ¬ x = y → V Γ Δ n ex i r kc sl Q (tgt) lv stk) (kf : x = y → V Γ Δ n ex i r kc sl Q (pc + 3) lv stk) : V Γ Δ n ex i r kc sl Q (pc) lv (.int (sJ y) :: .int (sJ x) :: stk) := by
  obtain ⟨p, l', e, R', s, m, args, below, meth, c, nL'⟩ := Γ
  obtain ⟨hx, hb, hml, hown, hts, hKK, hlk, rfl, rfl, rfl⟩ := h
  intro H locs ls hP hz hS hl
  exact lv_icmp_ne hx hb hdg ht (fun q => kt (fun z => q (by rw [z])) H locs ls hP hz hS hl) (fun q => kf (sJ_inj hsx hsy (by first | exact q | exact Decidable.not_not.mp q)) H locs ls hP hz hS hl)
theorem V.if_ne {x : Int} {off : Int} {tgt : Nat} (h : okG Γ Δ l R cc own nL) (hsx : sR x) (hdg : decode cc pc = .ok (.ifCond .ne off, 3)) (ht : (pc : Int) + off = (tgt : Int)) (kt : ¬ x = 0 → V Γ Δ n ex i r kc sl Q (tgt) lv stk) (kf : x = 0 → V Γ Δ n ex i r kc sl Q (pc + 3) lv stk) : V Γ Δ n ex i r kc sl Q (pc) lv (.int (sJ x) :: stk) := by
  obtain ⟨p, l', e, R', s, m, args, below, meth, c, nL'⟩ := Γ
  obtain ⟨hx, hb, hml, hown, hts, hKK, hlk, rfl, rfl, rfl⟩ := h
  intro H locs ls hP hz hS hl
  exact lv_if_ne hx hb hdg ht (fun q => kt (fun z => q (by rw [z]; rfl)) H locs ls hP hz hS hl) (fun q => kf (sJ_inj hsx sR_0 (by first | exact q | exact Decidable.not_not.mp q)) H locs ls hP hz hS hl)
theorem V.icmp_lt {x y : Int} {off : Int} {tgt : Nat} (h : okG Γ Δ l R cc own nL) (hsx : sR x) (hsy : sR y) (hdg : decode cc pc = .ok (.if_icmp .lt off, 3)) (ht : (pc : Int) + off = (tgt : Int)) (kt : x < y → V Γ Δ n ex i r kc sl Q (tgt) lv stk) (kf : ¬ x < y → V Γ Δ n ex i r kc sl Q (pc + 3) lv stk) : V Γ Δ n ex i r kc sl Q (pc) lv (.int (sJ y) :: .int (sJ x) :: stk) := by
  obtain ⟨p, l', e, R', s, m, args, below, meth, c, nL'⟩ := Γ
  obtain ⟨hx, hb, hml, hown, hts, hKK, hlk, rfl, rfl, rfl⟩ := h
  intro H locs ls hP hz hS hl
  exact lv_icmp_lt hx hb hdg ht (fun q => kt ((sJ_lt hsx hsy).mp q) H locs ls hP hz hS hl) (fun q => kf (fun z => q ((sJ_lt hsx hsy).mpr z)) H locs ls hP hz hS hl)
theorem V.if_lt {x : Int} {off : Int} {tgt : Nat} (h : okG Γ Δ l R cc own nL) (hsx : sR x) (hdg : decode cc pc = .ok (.ifCond .lt off, 3)) (ht : (pc : Int) + off = (tgt : Int)) (kt : x < 0 → V Γ Δ n ex i r kc sl Q (tgt) lv stk) (kf : ¬ x < 0 → V Γ Δ n ex i r kc sl Q (pc + 3) lv stk) : V Γ Δ n ex i r kc sl Q (pc) lv (.int (sJ x) :: stk) := by
  obtain ⟨p, l', e, R', s, m, args, below, meth, c, nL'⟩ := Γ
  obtain ⟨hx, hb, hml, hown, hts, hKK, hlk, rfl, rfl, rfl⟩ := h
  intro H locs ls hP hz hS hl
  exact lv_if_lt hx hb hdg ht (fun q => kt ((sJ_lt hsx sR_0).mp q) H locs ls hP hz hS hl) (fun q => kf (fun z => q ((sJ_lt hsx sR_0).mpr z)) H locs ls hP hz hS hl)
theorem V.icmp_ge {x y : Int} {off : Int} {tgt : Nat} (h : okG Γ Δ l R cc own nL) (hsx : sR x) (hsy : sR y) (hdg : decode cc pc = .ok (.if_icmp .ge off, 3)) (ht : (pc : Int) + off = (tgt : Int)) (kt : y ≤ x → V Γ Δ n ex i r kc sl Q (tgt) lv stk) (kf : ¬ y ≤ x → V Γ Δ n ex i r kc sl Q (pc + 3) lv stk) : V Γ Δ n ex i r kc sl Q (pc) lv (.int (sJ y) :: .int (sJ x) :: stk) := by
  obtain ⟨p, l', e, R', s, m, args, below, meth, c, nL'⟩ := Γ
  obtain ⟨hx, hb, hml, hown, hts, hKK, hlk, rfl, rfl, rfl⟩ := h
  intro H locs ls hP hz hS hl
  exact lv_icmp_ge hx hb hdg ht (fun q => kt ((sJ_le hsy hsx).mp q) H locs ls hP hz hS hl) (fun q => kf (fun z => q ((sJ_le hsy hsx).mpr z)) H locs ls hP hz hS hl)
theorem V.if_ge {x : Int} {off : Int} {tgt : Nat} (h : okG Γ Δ l R cc own nL) (hsx : sR x) (hdg : decode cc pc = .ok (.ifCond .ge off, 3)) (ht : (pc : Int) + off = (tgt : Int)) (kt : 0 ≤ x → V Γ Δ n ex i r kc sl Q (tgt) lv stk) (kf : ¬ 0 ≤ x → V Γ Δ n ex i r kc sl Q (pc + 3) lv stk) : V Γ Δ n ex i r kc sl Q (pc) lv (.int (sJ x) :: stk) := by
  obtain ⟨p, l', e, R', s, m, args, below, meth, c, nL'⟩ := Γ
  obtain ⟨hx, hb, hml, hown, hts, hKK, hlk, rfl, rfl, rfl⟩ := h
  intro H locs ls hP hz hS hl
  exact lv_if_ge hx hb hdg ht (fun q => kt ((sJ_le sR_0 hsx).mp q) H locs ls hP hz hS hl) (fun q => kf (fun z => q ((sJ_le sR_0 hsx).mpr z)) H locs ls hP hz hS hl)
theorem V.icmp_gt {x y : Int} {off : Int} {tgt : Nat} (h : okG Γ Δ l R cc own nL) (hsx : sR x) (hsy : sR y) (hdg : decode cc pc = .ok (.if_icmp .gt off, 3)) (ht : (pc : Int) + off = (tgt : Int)) (kt : y < x → V Γ Δ n ex i r kc sl Q (tgt) lv stk) (kf : ¬ y < x → V Γ Δ n ex i r kc sl Q (pc + 3) lv stk) : V Γ Δ n ex i r kc sl Q (pc) lv (.int (sJ y) :: .int (sJ x) :: stk) := by
  obtain ⟨p, l', e, R', s, m, args, below, meth, c, nL'⟩ := Γ
  obtain ⟨hx, hb, hml, hown, hts, hKK, hlk, rfl, rfl, rfl⟩ := h
  intro H locs ls hP hz hS hl
  exact lv_icmp_gt hx hb hdg ht (fun q => kt ((sJ_lt hsy hsx).mp q) H locs ls hP hz hS hl) (fun q => kf (fun z => q ((sJ_lt hsy hsx).mpr z)) H locs ls hP hz hS hl)
theorem V.if_gt {x : Int} {off : Int} {tgt : Nat} (h : okG Γ Δ l R cc own nL) (hsx : sR x) (hdg : decode cc pc = .ok (.ifCond .gt off, 3)) (ht : (pc : Int) + off = (tgt : Int)) (kt : 0 < x → V Γ Δ n ex i r kc sl Q (tgt) lv stk) (kf : ¬ 0 < x → V Γ Δ n ex i r kc sl Q (pc + 3) lv stk) : V Γ Δ n ex i r kc sl Q (pc) lv (.int (sJ x) :: stk) := by
  obtain ⟨p, l', e, R', s, m, args, below, meth, c, nL'⟩ := Γ
  obtain ⟨hx, hb, hml, hown, hts, hKK, hlk, rfl, rfl, rfl⟩ := h
  intro H locs ls hP hz hS hl
  exact lv_if_gt hx hb hdg ht (fun q => kt ((sJ_lt sR_0 hsx).mp q) H locs ls hP hz hS hl) (fun q => kf (fun z => q ((sJ_lt sR_0 hsx).mpr z)) H locs ls hP hz hS hl)
theorem V.icmp_le {x y : Int} {off : Int} {tgt : Nat} (h : okG Γ Δ l R cc own nL) (hsx : sR x) (hsy : sR y) (hdg : decode cc pc = .ok (.if_icmp .le off, 3)) (ht : (pc : Int) + off = (tgt : Int)) (kt : x ≤ y → V Γ Δ n ex i r kc sl Q (tgt) lv stk) (kf : ¬ x ≤ y → V Γ Δ n ex i r kc sl Q (pc + 3) lv stk) : V Γ Δ n ex i r kc sl Q (pc) lv (.int (sJ y) :: .int (sJ x) :: stk) := by
  obtain ⟨p, l', e, R', s, m, args, below, meth, c, nL'⟩ := Γ
  obtain ⟨hx, hb, hml, hown, hts, hKK, hlk, rfl, rfl, rfl⟩ := h
  intro H locs ls hP hz hS hl
  exact lv_icmp_le hx hb hdg ht (fun q => kt ((sJ_le hsx hsy).mp q) H locs ls hP hz hS hl) (fun q => kf (fun z => q ((sJ_le hsx hsy).mpr z)) H locs ls hP hz hS hl)
theorem V.if_le {x : Int} {off : Int} {tgt : Nat} (h : okG Γ Δ l R cc own nL) (hsx : sR x) (hdg : decode cc pc = .ok (.ifCond .le off, 3)) (ht : (pc : Int) + off = (tgt : Int)) (kt : x ≤ 0 → V Γ Δ n ex i r kc sl Q (tgt) lv stk) (kf : ¬ x ≤ 0 → V Γ Δ n ex i r kc sl Q (pc + 3) lv stk) : V Γ Δ n ex i r kc sl Q (pc) lv (.int (sJ x) :: stk) := by
  obtain ⟨p, l', e, R', s, m, args, below, meth, c, nL'⟩ := Γ
  obtain ⟨hx, hb, hml, hown, hts, hKK, hlk, rfl, rfl, rfl⟩ := h
  intro H locs ls hP hz hS hl
  exact lv_if_le hx hb hdg ht (fun q => kt ((sJ_le hsx sR_0).mp q) H locs ls hP hz hS hl) (fun q => kf (fun z => q ((sJ_le hsx sR_0).mpr z)) H locs ls hP hz hS hl)
theorem V.tableIn {x dflt lo hi : Int} {offs : Array Int} {len : Nat} {off : Int} {tgt : Nat} (h : okG Γ Δ l R cc own nL) (hsx : sR x) (hdg : decode cc pc = .ok (.tableswitch dflt lo hi offs, len)) (h1 : lo ≤ x) (h2 : x ≤ hi) (ho : offs[(x - lo).toNat]? = some off) (ht : (pc : Int) + off = (tgt : Int)) (kk : V Γ Δ n ex i r kc sl Q (tgt) lv stk) : V Γ Δ n ex i r kc sl Q (pc) lv (.int (sJ x) :: stk) := by
  obtain ⟨p, l', e, R', s, m, args, below, meth, c, nL'⟩ := Γ
  obtain ⟨hx, hb, hml, hown, hts, hKK, hlk, rfl, rfl, rfl⟩ := h
  intro H locs ls hP hz hS hl
  exact lv_tableIn hx hb hdg (by rw [sJ_toInt hsx]; omega) (by rw [sJ_toInt hsx]; omega) (by rw [sJ_toInt hsx]; exact ho) ht (kk H locs ls hP hz hS hl)
theorem V.tableOut {x dflt lo hi : Int} {offs : Array Int} {len : Nat} {tgt : Nat} (h : okG Γ Δ l R cc own nL) (hsx : sR x) (hdg : decode cc pc = .ok (.tableswitch dflt lo hi offs, len)) (h1 : x < lo ∨ hi < x) (ht : (pc : Int) + dflt = (tgt : Int)) (kk : V Γ Δ n ex i r kc sl Q (tgt) lv stk) : V Γ Δ n ex i r kc sl Q (pc) lv (.int (sJ x) :: stk) := by
  obtain ⟨p, l', e, R', s, m, args, below, meth, c, nL'⟩ := Γ
  obtain ⟨hx, hb, hml, hown, hts, hKK, hlk, rfl, rfl, rfl⟩ := h
  intro H locs ls hP hz hS hl
  exact lv_tableOut hx hb hdg (by rw [sJ_toInt hsx]; exact h1) ht (kk H locs ls hP hz hS hl)
theorem V.lookup {x dflt : Int} {ps : Array (Int × Int)} {len : Nat} {off : Int} {tgt : Nat} (h : okG Γ Δ l R cc own nL) (hsx : sR x) (hdg : decode cc pc = .ok (.lookupswitch dflt ps, len)) (hp : (ps.toList.zip (ps.toList.drop 1)).all (fun (a, next) => a.1 < next.1) = true) (ho : Op.lookupswitch.offset ps.toList dflt x = off) (ht : (pc : Int) + off = (tgt : Int)) (kk : V Γ Δ n ex i r kc sl Q (tgt) lv stk) : V Γ Δ n ex i r kc sl Q (pc) lv (.int (sJ x) :: stk) := by
  obtain ⟨p, l', e, R', s, m, args, below, meth, c, nL'⟩ := Γ
  obtain ⟨hx, hb, hml, hown, hts, hKK, hlk, rfl, rfl, rfl⟩ := h
  intro H locs ls hP hz hS hl
  exact lv_lookup hx hb hdg hp (by rw [sJ_toInt hsx]; exact ho) ht (kk H locs ls hP hz hS hl)
theorem V.mmax {x y : Int} {ix : Nat} (h : okG Γ Δ l R cc own nL) (hsx : sR x) (hsy : sR y) (hl1 : Cond.methodLink own ix Lib.Math.max.name ∈ gW) (hl2 : Cond.static Lib.Math.max.name ∈ gW) (hl3 : Cond.initialized "java/lang/Math" ∈ gW) (hl4 : Cond.code Lib.Math.max.name Lib.Math.max.code 2 (some .int) ∈ gW) (hR : 1 ≤ R.frames ∧ (stk.map fun v => v.category).sum + 13 ≤ R.locals ∧ kc ≤ R.cells ∧ sl ≤ R.slots) (hdg : decode cc pc = .ok (.invokestatic ix, 3)) (kk : V Γ Δ n ex i r kc sl Q (pc + 3) lv (.int (sJ (max x y)) :: stk)) : V Γ Δ n ex i r kc sl Q (pc) lv (.int (sJ y) :: .int (sJ x) :: stk) := by
  obtain ⟨p, l', e, R', s, m, args, below, meth, c, nL'⟩ := Γ
  obtain ⟨hx, hb, hml, hown, hts, hKK, hlk, rfl, rfl, rfl⟩ := h
  intro H locs ls hP hz hS hl
  refine va_mmax hx hb (hml.trans hl.1.symm) hown (hts _ hl1) (hts _ hl2) (hts _ hl3) (hts _ hl4) hR.1 hR.2.1 hR.2.2.1 hR.2.2.2 hdg ?_
  have e9 : (if sJ x < sJ y then sJ y else sJ x) = sJ (max x y) := by
    by_cases q : x < y
    · rw [if_pos ((sJ_lt hsx hsy).mpr q), Int.max_def]
      congr 1
      split <;> omega
    · rw [if_neg (fun z => q ((sJ_lt hsx hsy).mp z)), Int.max_def]
      congr 1
      split <;> omega
  rw [e9]
  exact kk H locs ls hP hz hS hl
theorem V.mmin {x y : Int} {ix : Nat} (h : okG Γ Δ l R cc own nL) (hsx : sR x) (hsy : sR y) (hl1 : Cond.methodLink own ix Lib.Math.min.name ∈ gW) (hl2 : Cond.static Lib.Math.min.name ∈ gW) (hl3 : Cond.initialized "java/lang/Math" ∈ gW) (hl4 : Cond.code Lib.Math.min.name Lib.Math.min.code 2 (some .int) ∈ gW) (hR : 1 ≤ R.frames ∧ (stk.map fun v => v.category).sum + 13 ≤ R.locals ∧ kc ≤ R.cells ∧ sl ≤ R.slots) (hdg : decode cc pc = .ok (.invokestatic ix, 3)) (kk : V Γ Δ n ex i r kc sl Q (pc + 3) lv (.int (sJ (min x y)) :: stk)) : V Γ Δ n ex i r kc sl Q (pc) lv (.int (sJ y) :: .int (sJ x) :: stk) := by
  obtain ⟨p, l', e, R', s, m, args, below, meth, c, nL'⟩ := Γ
  obtain ⟨hx, hb, hml, hown, hts, hKK, hlk, rfl, rfl, rfl⟩ := h
  intro H locs ls hP hz hS hl
  refine va_mmin hx hb (hml.trans hl.1.symm) hown (hts _ hl1) (hts _ hl2) (hts _ hl3) (hts _ hl4) hR.1 hR.2.1 hR.2.2.1 hR.2.2.2 hdg ?_
  have e9 : (if sJ y < sJ x then sJ y else sJ x) = sJ (min x y) := by
    by_cases q : y < x
    · rw [if_pos ((sJ_lt hsy hsx).mpr q), Int.min_def]
      congr 1
      split <;> omega
    · rw [if_neg (fun z => q ((sJ_lt hsy hsx).mp z)), Int.min_def]
      congr 1
      split <;> omega
  rw [e9]
  exact kk H locs ls hP hz hS hl
theorem isA.z {o : Int} {q : Nat × Nat} (h : isA o q) : ((o.toNat : Nat) : Int) = o := Int.toNat_of_nonneg h.1
theorem ent_at {Δ : Wd} {n : Nat} {i r : MI} {o : Int} {q : Nat × Nat} (h : isA o q) (hn : o.toNat < n) : (sWs Δ n i r)[o.toNat]? = some (sA Δ o, sEnt Δ q (i o) (r o)) := by
  rw [sWs_at hn, h.2.2, h.z]
  rfl
theorem sEnt_o {Δ : Wd} {ci z : Nat} {io ro : Int → Int} (h : ci < 20) : sEnt Δ (ci, z) io ro = .inr (ci, sFs Δ ci io ro) := if_pos h
theorem sEnt_i {Δ : Wd} {k z : Nat} {io ro : Int → Int} (h : k < 3) : sEnt Δ (20 + k, z) io ro = .inl (Δ.2.2.1 k, z, .inl (fun j => sJ (io j))) := by
  unfold sEnt
  rw [if_neg (by show ¬ 20 + k < 20; omega), if_pos (by show 20 + k < 23; omega)]
  show Sum.inl (Δ.2.2.1 (20 + k - 20), _) = _
  rw [Nat.add_sub_cancel_left]
theorem sEnt_q {Δ : Wd} {k z : Nat} {io ro : Int → Int} (h : 5 ≤ k) : sEnt Δ (20 + k, z) io ro = .inl (Δ.2.2.1 k, z, .inr (.inr (.inr (.inr (fun j => sQ Δ (ro j)))))) := by
  unfold sEnt
  rw [if_neg (by show ¬ 20 + k < 20; omega), if_neg (by show ¬ 20 + k < 23; omega), if_neg (by show ¬ 20 + k = 23; omega), if_neg (by show ¬ 20 + k = 24; omega)]
  show Sum.inl (Δ.2.2.1 (20 + k - 20), _) = _
  rw [Nat.add_sub_cancel_left]
theorem at_o {Δ : Wd} {n : Nat} {i r : MI} {o : Int} {ci : Nat} (h : isA o (ci, 0)) (hn : o.toNat < n) (hci : ci < 20) : (sWs Δ n i r)[o.toNat]? = some (sA Δ o, .inr (ci, sFs Δ ci (i o) (r o))) := by rw [ent_at h hn, sEnt_o hci]
theorem at_i {Δ : Wd} {n : Nat} {i r : MI} {o : Int} {k z : Nat} (h : isA o (20 + k, z)) (hn : o.toNat < n) (hk : k < 3) : (sWs Δ n i r)[o.toNat]? = some (sA Δ o, .inl (Δ.2.2.1 k, z, .inl (fun j => sJ (i o j)))) := by rw [ent_at h hn, sEnt_i hk]
theorem at_q {Δ : Wd} {n : Nat} {i r : MI} {o : Int} {k z : Nat} (h : isA o (20 + k, z)) (hn : o.toNat < n) (hk : 5 ≤ k) : (sWs Δ n i r)[o.toNat]? = some (sA Δ o, .inl (Δ.2.2.1 k, z, .inr (.inr (.inr (.inr (fun j => sQ Δ (r o j))))))) := by rw [ent_at h hn, sEnt_q hk]
theorem ws_putI {Δ : Wd} {n : Nat} {i r : MI} {o kz x : Int} {ci k : Nat} (h : isA o (ci, 0)) (hn : o.toNat < n) (hci : ci < 20) (hk : k < nfd ci) (hkz : (k : Int) = kz) (hrf : rfk ci k = false) :
    (sWs Δ n i r).set o.toNat (sA Δ o, .inr (ci, (sFs Δ ci (i o) (r o)).set k (.int (sJ x)))) = sWs Δ n (st i o kz x) r := by
  subst hkz
  refine sWs_set hn ?_ (fun j hj => st_row (fun q => hj (by omega))) (fun j _ => rfl)
  rw [h.2.2, sEnt_o hci, h.z]
  refine congrArg Sum.inr (congrArg (Prod.mk ci) (sFs_set hk ?_ (fun j hj => ?_) (fun j _ => rfl)))
  · unfold sFld
    rw [hrf, if_neg (by decide), st_eq]
  · exact st_ne (fun q => hj (by have := q.2; omega))
theorem ws_putR {Δ : Wd} {n : Nat} {i r : MI} {o kz x : Int} {ci k : Nat} (h : isA o (ci, 0)) (hn : o.toNat < n) (hci : ci < 20) (hk : k < nfd ci) (hkz : (k : Int) = kz) (hrf : rfk ci k = true) :
    (sWs Δ n i r).set o.toNat (sA Δ o, .inr (ci, (sFs Δ ci (i o) (r o)).set k (sV Δ x))) = sWs Δ n i (st r o kz x) := by
  subst hkz
  refine sWs_set hn ?_ (fun j _ => rfl) (fun j hj => st_row (fun q => hj (by omega)))
  rw [h.2.2, sEnt_o hci, h.z]
  refine congrArg Sum.inr (congrArg (Prod.mk ci) (sFs_set hk ?_ (fun j _ => rfl) (fun j hj => ?_)))
  · unfold sFld
    rw [hrf, if_pos rfl, st_eq]
  · exact st_ne (fun q => hj (by have := q.2; omega))
theorem ws_upd {Δ : Wd} {n : Nat} {i r : MI} {o x v : Int} {k z : Nat} (h : isA o (20 + k, z)) (hn : o.toNat < n) (hk : k < 3) (h0 : 0 ≤ x) :
    (sWs Δ n i r).set o.toNat (sA Δ o, .inl (Δ.2.2.1 k, z, .inl (upd (fun j => sJ (i o j)) x.toNat (sJ v)))) = sWs Δ n (st i o x v) r := by
  refine sWs_set hn ?_ (fun j hj => st_row (fun q => hj (by omega))) (fun j _ => rfl)
  rw [h.2.2, sEnt_i hk, h.z]
  refine congrArg Sum.inl (congrArg (Prod.mk _) (congrArg (Prod.mk z) (congrArg Sum.inl ?_)))
  funext j
  unfold upd
  by_cases q : j = x.toNat
  · rw [if_pos q]
    have e : (j : Int) = x := by omega
    rw [e, st_eq]
  · rw [if_neg q, st_ne (fun z => q (by have := z.2; omega))]
theorem ws_updR {Δ : Wd} {n : Nat} {i r : MI} {o x y : Int} {k z : Nat} (h : isA o (20 + k, z)) (hn : o.toNat < n) (hk : 5 ≤ k) (h0 : 0 ≤ x) (hy : ¬ y = 0) :
    (sWs Δ n i r).set o.toNat (sA Δ o, .inl (Δ.2.2.1 k, z, .inr (.inr (.inr (.inr (va_up (fun j => sQ Δ (r o j)) x.toNat (some (sA Δ y)))))))) = sWs Δ n i (st r o x y) := by
  refine sWs_set hn ?_ (fun j _ => rfl) (fun j hj => st_row (fun q => hj (by omega)))
  rw [h.2.2, sEnt_q hk, h.z]
  refine congrArg Sum.inl (congrArg (Prod.mk _) (congrArg (Prod.mk z) (congrArg (fun f => Sum.inr (Sum.inr (Sum.inr (Sum.inr f)))) ?_)))
  funext j
  unfold va_up
  by_cases q : j = x.toNat
  · rw [if_pos q]
    have e : (j : Int) = x := by omega
    rw [e, st_eq]
    exact (if_neg hy).symm
  · rw [if_neg q, st_ne (fun z => q (by have := z.2; omega))]
theorem ws_moved {Δ : Wd} {n : Nat} {i r : MI} {H : Heap} {A2 : Nat → Prop} {w w2 : va_W} (hP : va_P (sG Δ) vwCl w H) (e : w = w2) : va_P (sG Δ) vwCl w2 H := e ▸ hP
theorem V.getI {ci k M ix : Nat} {C : String} {T : u_T} {o kz : Int} (h : okG Γ Δ l R cc own nL) (ho : isA o (ci, 0)) (hn : o.toNat < n) (hci : ci < 20) (hin : ∀ w ∈ u_ws C T M, w ∈ gW) (hc : vwCl[ci]? = some (C, T, M)) (hk : k < M) (hk2 : k < nfd ci) (hkz : (k : Int) = kz) (hlink : Cond.fieldLink own ix (T k).1 (T k).2.1 (T k).2.2.1 ∈ gW) (hrf : rfk ci k = false) (hdg : decode cc pc = .ok (.getfield ix, 3)) (kk : V Γ Δ n ex i r kc sl Q (pc + 3) lv (.int (sJ (i o kz)) :: stk)) : V Γ Δ n ex i r kc sl Q (pc) lv (.ref (sA Δ o) :: stk) := by
  obtain ⟨p, l', e, R', s, m, args, below, meth, c, nL'⟩ := Γ
  obtain ⟨hx, hb, hml, hown, hts, hKK, hlk, rfl, rfl, rfl⟩ := h
  intro H locs ls hP hz hS hl
  have hK := hKK.1
  refine va_get (v := .int (sJ (i o kz))) hx hb hts hin hown hK hP.1 o.toNat (at_o ho hn hci) hc k hk (hts _ hlink) (fun _ q => q) ?_ hdg (kk H locs ls hP hz hS hl)
  rw [sFs_at hk2]
  unfold sFld
  rw [hrf, if_neg (by decide), hkz]
theorem V.getR {x : Int} {ci k M ix : Nat} {C : String} {T : u_T} {o kz : Int} (h : okG Γ Δ l R cc own nL) (ho : isA o (ci, 0)) (hn : o.toNat < n) (hci : ci < 20) (hin : ∀ w ∈ u_ws C T M, w ∈ gW) (hc : vwCl[ci]? = some (C, T, M)) (hk : k < M) (hk2 : k < nfd ci) (hkz : (k : Int) = kz) (hlink : Cond.fieldLink own ix (T k).1 (T k).2.1 (T k).2.2.1 ∈ gW) (hrf : rfk ci k = true) (hr : r o kz = x) (hx0 : ¬ x = 0) (hdg : decode cc pc = .ok (.getfield ix, 3)) (kk : V Γ Δ n ex i r kc sl Q (pc + 3) lv (.ref (sA Δ x) :: stk)) : V Γ Δ n ex i r kc sl Q (pc) lv (.ref (sA Δ o) :: stk) := by
  obtain ⟨p, l', e, R', s, m, args, below, meth, c, nL'⟩ := Γ
  obtain ⟨hx, hb, hml, hown, hts, hKK, hlk, rfl, rfl, rfl⟩ := h
  intro H locs ls hP hz hS hl
  have hK := hKK.1
  refine va_get (v := .ref (sA Δ x)) hx hb hts hin hown hK hP.1 o.toNat (at_o ho hn hci) hc k hk (hts _ hlink) (fun _ q => q) ?_ hdg (kk H locs ls hP hz hS hl)
  rw [sFs_at hk2]
  unfold sFld
  rw [hrf, if_pos rfl, hkz, hr, sV_ref hx0]
theorem V.putI {x : Int} {ci k M ix : Nat} {C : String} {T : u_T} {o kz : Int} (h : okG Γ Δ l R cc own nL) (ho : isA o (ci, 0)) (hn : o.toNat < n) (hci : ci < 20) (hin : ∀ w ∈ u_ws C T M, w ∈ gW) (hc : vwCl[ci]? = some (C, T, M)) (hk : k < M) (hk2 : k < nfd ci) (hkz : (k : Int) = kz) (hlink : Cond.fieldLink own ix (T k).1 (T k).2.1 (T k).2.2.1 ∈ gW) (hrf : rfk ci k = false) (ty0 : Nat → FieldType) (hty : ∀ k, k < M → parseFieldDescriptor (T k).2.2.1 = some (ty0 k)) (hnm : ∀ a, a < M → ∀ b, b < M → a ≠ b → (T a).2.1 ≠ (T b).2.1) (hfin : (T k).2.2.2 = false) {ty : FieldType} (hd : parseFieldDescriptor (T k).2.2.1 = some ty) (hnar : narrow ty (.int (sJ x)) = .int (sJ x)) (hfit : fits ty (.int (sJ x)) = true) (hdg : decode cc pc = .ok (.putfield ix, 3)) (kk : V Γ Δ n false (st i o kz x) r kc sl Q (pc + 3) lv stk) : V Γ Δ n false i r kc sl Q (pc) lv (.int (sJ x) :: .ref (sA Δ o) :: stk) := by
  obtain ⟨p, l', e, R', s, m, args, below, meth, c, nL'⟩ := Γ
  obtain ⟨hx, hb, hml, hown, hts, hKK, hlk, rfl, rfl, rfl⟩ := h
  intro H locs ls hP hz hS hl
  have hK := hKK.1
  refine va_put hx hb hts hin ty0 hty hnm hown hK hP.1 hP.D hS.self o.toNat (at_o ho hn hci) hc k hk (hts _ hlink) (fun _ q => q) hfin hd hnar hfit (by rw [sFs_len]; exact hk2) hdg (fun H1 locs1 hP1 hD1 hS1 => ?_)
  rw [ws_putI ho hn hci hk2 hkz hrf] at hP1
  exact kk H1 locs1 ls ⟨hP1, hP.2.1, sE_kept hKK hP.2.2 hS1⟩ (fun q => by cases q) (hS.tr hS1) hl
theorem V.putR {x : Int} {ci k M ix : Nat} {C : String} {T : u_T} {o kz : Int} (h : okG Γ Δ l R cc own nL) (ho : isA o (ci, 0)) (hn : o.toNat < n) (hci : ci < 20) (hin : ∀ w ∈ u_ws C T M, w ∈ gW) (hc : vwCl[ci]? = some (C, T, M)) (hk : k < M) (hk2 : k < nfd ci) (hkz : (k : Int) = kz) (hlink : Cond.fieldLink own ix (T k).1 (T k).2.1 (T k).2.2.1 ∈ gW) (hrf : rfk ci k = true) (ty0 : Nat → FieldType) (hty : ∀ k, k < M → parseFieldDescriptor (T k).2.2.1 = some (ty0 k)) (hnm : ∀ a, a < M → ∀ b, b < M → a ≠ b → (T a).2.1 ≠ (T b).2.1) (hfin : (T k).2.2.2 = false) {ty : FieldType} (hd : parseFieldDescriptor (T k).2.2.1 = some ty) (hx0 : ¬ x = 0) (hnar : ∀ a, narrow ty (.ref a) = .ref a) (hfit : ∀ a, fits ty (.ref a) = true) (hdg : decode cc pc = .ok (.putfield ix, 3)) (kk : V Γ Δ n false i (st r o kz x) kc sl Q (pc + 3) lv stk) : V Γ Δ n false i r kc sl Q (pc) lv (.ref (sA Δ x) :: .ref (sA Δ o) :: stk) := by
  obtain ⟨p, l', e, R', s, m, args, below, meth, c, nL'⟩ := Γ
  obtain ⟨hx, hb, hml, hown, hts, hKK, hlk, rfl, rfl, rfl⟩ := h
  intro H locs ls hP hz hS hl
  have hK := hKK.1
  refine va_put hx hb hts hin ty0 hty hnm hown hK hP.1 hP.D hS.self o.toNat (at_o ho hn hci) hc k hk (hts _ hlink) (fun _ q => q) hfin hd (hnar _) (hfit _) (by rw [sFs_len]; exact hk2) hdg (fun H1 locs1 hP1 hD1 hS1 => ?_)
  rw [← sV_ref hx0, ws_putR ho hn hci hk2 hkz hrf] at hP1
  exact kk H1 locs1 ls ⟨hP1, hP.2.1, sE_kept hKK hP.2.2 hS1⟩ (fun q => by cases q) (hS.tr hS1) hl
theorem V.getIN {ci k M ix : Nat} {C : String} {T : u_T} {o kz : Int} {host : String} (h : okG Γ Δ l R cc own nL) (ho : isA o (ci, 0)) (hn : o.toNat < n) (hci : ci < 20) (hin : ∀ w ∈ u_ws C T M, w ∈ gW) (hc : vwCl[ci]? = some (C, T, M)) (hk : k < M) (hk2 : k < nfd ci) (hkz : (k : Int) = kz) (hlink : Cond.fieldLinkNest own ix (T k).1 (T k).2.1 (T k).2.2.1 host ∈ gX) (hrf : rfk ci k = false) (hdg : decode cc pc = .ok (.getfield ix, 3)) (kk : V Γ Δ n ex i r kc sl Q (pc + 3) lv (.int (sJ (i o kz)) :: stk)) : V Γ Δ n ex i r kc sl Q (pc) lv (.ref (sA Δ o) :: stk) := by
  obtain ⟨p, l', e, R', s, m, args, below, meth, c, nL'⟩ := Γ
  obtain ⟨hx, hb, hml, hown, hts, hKK, hlk, rfl, rfl, rfl⟩ := h
  intro H locs ls hP hz hS hl
  have hK := hKK.1
  refine va_getN (v := .int (sJ (i o kz))) hx hb hts hin hown hK hP.1 o.toNat (at_o ho hn hci) hc k hk (va_Nw.use rfl (hKK.2.2.2.2.1 _ hlink)) (fun _ q => q) ?_ hdg (kk H locs ls hP hz hS hl)
  rw [sFs_at hk2]
  unfold sFld
  rw [hrf, if_neg (by decide), hkz]
theorem V.getRN {x : Int} {ci k M ix : Nat} {C : String} {T : u_T} {o kz : Int} {host : String} (h : okG Γ Δ l R cc own nL) (ho : isA o (ci, 0)) (hn : o.toNat < n) (hci : ci < 20) (hin : ∀ w ∈ u_ws C T M, w ∈ gW) (hc : vwCl[ci]? = some (C, T, M)) (hk : k < M) (hk2 : k < nfd ci) (hkz : (k : Int) = kz) (hlink : Cond.fieldLinkNest own ix (T k).1 (T k).2.1 (T k).2.2.1 host ∈ gX) (hrf : rfk ci k = true) (hr : r o kz = x) (hx0 : ¬ x = 0) (hdg : decode cc pc = .ok (.getfield ix, 3)) (kk : V Γ Δ n ex i r kc sl Q (pc + 3) lv (.ref (sA Δ x) :: stk)) : V Γ Δ n ex i r kc sl Q (pc) lv (.ref (sA Δ o) :: stk) := by
  obtain ⟨p, l', e, R', s, m, args, below, meth, c, nL'⟩ := Γ
  obtain ⟨hx, hb, hml, hown, hts, hKK, hlk, rfl, rfl, rfl⟩ := h
  intro H locs ls hP hz hS hl
  have hK := hKK.1
  refine va_getN (v := .ref (sA Δ x)) hx hb hts hin hown hK hP.1 o.toNat (at_o ho hn hci) hc k hk (va_Nw.use rfl (hKK.2.2.2.2.1 _ hlink)) (fun _ q => q) ?_ hdg (kk H locs ls hP hz hS hl)
  rw [sFs_at hk2]
  unfold sFld
  rw [hrf, if_pos rfl, hkz, hr, sV_ref hx0]
theorem V.putIN {x : Int} {ci k M ix : Nat} {C : String} {T : u_T} {o kz : Int} {host : String} (h : okG Γ Δ l R cc own nL) (ho : isA o (ci, 0)) (hn : o.toNat < n) (hci : ci < 20) (hin : ∀ w ∈ u_ws C T M, w ∈ gW) (hc : vwCl[ci]? = some (C, T, M)) (hk : k < M) (hk2 : k < nfd ci) (hkz : (k : Int) = kz) (hlink : Cond.fieldLinkNest own ix (T k).1 (T k).2.1 (T k).2.2.1 host ∈ gX) (hrf : rfk ci k = false) (ty0 : Nat → FieldType) (hty : ∀ k, k < M → parseFieldDescriptor (T k).2.2.1 = some (ty0 k)) (hnm : ∀ a, a < M → ∀ b, b < M → a ≠ b → (T a).2.1 ≠ (T b).2.1) (hfin : (T k).2.2.2 = false) {ty : FieldType} (hd : parseFieldDescriptor (T k).2.2.1 = some ty) (hnar : narrow ty (.int (sJ x)) = .int (sJ x)) (hfit : fits ty (.int (sJ x)) = true) (hdg : decode cc pc = .ok (.putfield ix, 3)) (kk : V Γ Δ n false (st i o kz x) r kc sl Q (pc + 3) lv stk) : V Γ Δ n false i r kc sl Q (pc) lv (.int (sJ x) :: .ref (sA Δ o) :: stk) := by
  obtain ⟨p, l', e, R', s, m, args, below, meth, c, nL'⟩ := Γ
  obtain ⟨hx, hb, hml, hown, hts, hKK, hlk, rfl, rfl, rfl⟩ := h
  intro H locs ls hP hz hS hl
  have hK := hKK.1
  refine va_putN hx hb hts hin ty0 hty hnm hown hK hP.1 hP.D hS.self o.toNat (at_o ho hn hci) hc k hk (va_Nw.use rfl (hKK.2.2.2.2.1 _ hlink)) (fun _ q => q) hfin hd hnar hfit (by rw [sFs_len]; exact hk2) hdg (fun H1 locs1 hP1 hD1 hS1 => ?_)
  rw [ws_putI ho hn hci hk2 hkz hrf] at hP1
  exact kk H1 locs1 ls ⟨hP1, hP.2.1, sE_kept hKK hP.2.2 hS1⟩ (fun q => by cases q) (hS.tr hS1) hl
theorem V.putRN {x : Int} {ci k M ix : Nat} {C : String} {T : u_T} {o kz : Int} {host : String} (h : okG Γ Δ l R cc own nL) (ho : isA o (ci, 0)) (hn : o.toNat < n) (hci : ci < 20) (hin : ∀ w ∈ u_ws C T M, w ∈ gW) (hc : vwCl[ci]? = some (C, T, M)) (hk : k < M) (hk2 : k < nfd ci) (hkz : (k : Int) = kz) (hlink : Cond.fieldLinkNest own ix (T k).1 (T k).2.1 (T k).2.2.1 host ∈ gX) (hrf : rfk ci k = true) (ty0 : Nat → FieldType) (hty : ∀ k, k < M → parseFieldDescriptor (T k).2.2.1 = some (ty0 k)) (hnm : ∀ a, a < M → ∀ b, b < M → a ≠ b → (T a).2.1 ≠ (T b).2.1) (hfin : (T k).2.2.2 = false) {ty : FieldType} (hd : parseFieldDescriptor (T k).2.2.1 = some ty) (hx0 : ¬ x = 0) (hnar : ∀ a, narrow ty (.ref a) = .ref a) (hfit : ∀ a, fits ty (.ref a) = true) (hdg : decode cc pc = .ok (.putfield ix, 3)) (kk : V Γ Δ n false i (st r o kz x) kc sl Q (pc + 3) lv stk) : V Γ Δ n false i r kc sl Q (pc) lv (.ref (sA Δ x) :: .ref (sA Δ o) :: stk) := by
  obtain ⟨p, l', e, R', s, m, args, below, meth, c, nL'⟩ := Γ
  obtain ⟨hx, hb, hml, hown, hts, hKK, hlk, rfl, rfl, rfl⟩ := h
  intro H locs ls hP hz hS hl
  have hK := hKK.1
  refine va_putN hx hb hts hin ty0 hty hnm hown hK hP.1 hP.D hS.self o.toNat (at_o ho hn hci) hc k hk (va_Nw.use rfl (hKK.2.2.2.2.1 _ hlink)) (fun _ q => q) hfin hd (hnar _) (hfit _) (by rw [sFs_len]; exact hk2) hdg (fun H1 locs1 hP1 hD1 hS1 => ?_)
  rw [← sV_ref hx0, ws_putR ho hn hci hk2 hkz hrf] at hP1
  exact kk H1 locs1 ls ⟨hP1, hP.2.1, sE_kept hKK hP.2.2 hS1⟩ (fun q => by cases q) (hS.tr hS1) hl
theorem V.iald {z : Nat} {o x : Int} (h : okG Γ Δ l R cc own nL) (ho : isA o (20, z)) (hn : o.toNat < n) (hsx : sR x) (hin : 0 ≤ x ∧ x < z) (hdg : decode cc pc = .ok (.iaload, 1)) (kk : V Γ Δ n ex i r kc sl Q (pc + 1) lv (.int (sJ (i o x)) :: stk)) : V Γ Δ n ex i r kc sl Q (pc) lv (.int (sJ x) :: .ref (sA Δ o) :: stk) := by
  obtain ⟨p, l', e, R', s, m, args, below, meth, c, nL'⟩ := Γ
  obtain ⟨hx, hb, hml, hown, hts, hKK, hlk, rfl, rfl, rfl⟩ := h
  intro H locs ls hP hz hS hl
  have hK := hKK.1
  refine va_iald hx hb hK hP.1 o.toNat 0 (at_i (k := 0) ho hn (by decide)) rfl (sJ_in hsx hin) hdg ?_
  rw [sJ_clamp hsx hin.1, Int.toNat_of_nonneg hin.1]
  exact kk H locs ls hP hz hS hl
theorem V.cald {z : Nat} {o x : Int} (h : okG Γ Δ l R cc own nL) (ho : isA o (21, z)) (hn : o.toNat < n) (hsx : sR x) (hin : 0 ≤ x ∧ x < z) (hdg : decode cc pc = .ok (.caload, 1)) (kk : V Γ Δ n ex i r kc sl Q (pc + 1) lv (.int (sJ (i o x)) :: stk)) : V Γ Δ n ex i r kc sl Q (pc) lv (.int (sJ x) :: .ref (sA Δ o) :: stk) := by
  obtain ⟨p, l', e, R', s, m, args, below, meth, c, nL'⟩ := Γ
  obtain ⟨hx, hb, hml, hown, hts, hKK, hlk, rfl, rfl, rfl⟩ := h
  intro H locs ls hP hz hS hl
  have hK := hKK.1
  refine va_cald hx hb hK hP.1 o.toNat 1 (at_i (k := 1) ho hn (by decide)) rfl (sJ_in hsx hin) hdg ?_
  rw [sJ_clamp hsx hin.1, Int.toNat_of_nonneg hin.1]
  exact kk H locs ls hP hz hS hl
theorem V.zald {z : Nat} {o x : Int} (h : okG Γ Δ l R cc own nL) (ho : isA o (22, z)) (hn : o.toNat < n) (hsx : sR x) (hin : 0 ≤ x ∧ x < z) (hdg : decode cc pc = .ok (.baload, 1)) (kk : V Γ Δ n ex i r kc sl Q (pc + 1) lv (.int (sJ (i o x)) :: stk)) : V Γ Δ n ex i r kc sl Q (pc) lv (.int (sJ x) :: .ref (sA Δ o) :: stk) := by
  obtain ⟨p, l', e, R', s, m, args, below, meth, c, nL'⟩ := Γ
  obtain ⟨hx, hb, hml, hown, hts, hKK, hlk, rfl, rfl, rfl⟩ := h
  intro H locs ls hP hz hS hl
  have hK := hKK.1
  refine va_zald hx hb hK hP.1 o.toNat 2 (at_i (k := 2) ho hn (by decide)) rfl (sJ_in hsx hin) hdg ?_
  rw [sJ_clamp hsx hin.1, Int.toNat_of_nonneg hin.1]
  exact kk H locs ls hP hz hS hl
theorem V.iast {z : Nat} {o x v : Int} (h : okG Γ Δ l R cc own nL) (ho : isA o (20, z)) (hn : o.toNat < n) (hsx : sR x) (hin : 0 ≤ x ∧ x < z) (hdg : decode cc pc = .ok (.iastore, 1)) (kk : V Γ Δ n false (st i o x v) r kc sl Q (pc + 1) lv stk) : V Γ Δ n false i r kc sl Q (pc) lv (.int (sJ v) :: .int (sJ x) :: .ref (sA Δ o) :: stk) := by
  obtain ⟨p, l', e, R', s, m, args, below, meth, c, nL'⟩ := Γ
  obtain ⟨hx, hb, hml, hown, hts, hKK, hlk, rfl, rfl, rfl⟩ := h
  intro H locs ls hP hz hS hl
  have hK := hKK.1
  refine va_iast hx hb hK hP.1 hP.D hS.self o.toNat 0 (at_i (k := 0) ho hn (by decide)) rfl (sJ_in hsx hin) hdg (fun H1 locs1 hP1 hD1 hS1 => ?_)
  rw [sJ_clamp hsx hin.1, ws_upd (k := 0) ho hn (by decide) hin.1] at hP1
  exact kk H1 locs1 ls ⟨hP1, hP.2.1, sE_kept hKK hP.2.2 hS1⟩ (fun q => by cases q) (hS.tr hS1) hl
theorem V.cast {z : Nat} {o x v : Int} (h : okG Γ Δ l R cc own nL) (ho : isA o (21, z)) (hn : o.toNat < n) (hsx : sR x) (hin : 0 ≤ x ∧ x < z) (hnar : vp_nar .char (sJ v) = sJ v) (hdg : decode cc pc = .ok (.castore, 1)) (kk : V Γ Δ n false (st i o x v) r kc sl Q (pc + 1) lv stk) : V Γ Δ n false i r kc sl Q (pc) lv (.int (sJ v) :: .int (sJ x) :: .ref (sA Δ o) :: stk) := by
  obtain ⟨p, l', e, R', s, m, args, below, meth, c, nL'⟩ := Γ
  obtain ⟨hx, hb, hml, hown, hts, hKK, hlk, rfl, rfl, rfl⟩ := h
  intro H locs ls hP hz hS hl
  have hK := hKK.1
  refine va_cast hx hb hK hP.1 hP.D hS.self o.toNat 1 (at_i (k := 1) ho hn (by decide)) rfl (sJ_in hsx hin) hdg (fun H1 locs1 hP1 hD1 hS1 => ?_)
  rw [hnar] at hP1
  rw [sJ_clamp hsx hin.1, ws_upd (k := 1) ho hn (by decide) hin.1] at hP1
  exact kk H1 locs1 ls ⟨hP1, hP.2.1, sE_kept hKK hP.2.2 hS1⟩ (fun q => by cases q) (hS.tr hS1) hl
theorem V.zast {z : Nat} {o x v : Int} (h : okG Γ Δ l R cc own nL) (ho : isA o (22, z)) (hn : o.toNat < n) (hsx : sR x) (hin : 0 ≤ x ∧ x < z) (hnar : vp_nar .boolean (sJ v) = sJ v) (hdg : decode cc pc = .ok (.bastore, 1)) (kk : V Γ Δ n false (st i o x v) r kc sl Q (pc + 1) lv stk) : V Γ Δ n false i r kc sl Q (pc) lv (.int (sJ v) :: .int (sJ x) :: .ref (sA Δ o) :: stk) := by
  obtain ⟨p, l', e, R', s, m, args, below, meth, c, nL'⟩ := Γ
  obtain ⟨hx, hb, hml, hown, hts, hKK, hlk, rfl, rfl, rfl⟩ := h
  intro H locs ls hP hz hS hl
  have hK := hKK.1
  refine va_zast hx hb hK hP.1 hP.D hS.self o.toNat 2 (at_i (k := 2) ho hn (by decide)) rfl (sJ_in hsx hin) hdg (fun H1 locs1 hP1 hD1 hS1 => ?_)
  rw [hnar] at hP1
  rw [sJ_clamp hsx hin.1, ws_upd (k := 2) ho hn (by decide) hin.1] at hP1
  exact kk H1 locs1 ls ⟨hP1, hP.2.1, sE_kept hKK hP.2.2 hS1⟩ (fun q => by cases q) (hS.tr hS1) hl
theorem V.aald (k : Nat) {z : Nat} {o x y : Int} (h : okG Γ Δ l R cc own nL) (ho : isA o (20 + k, z)) (hn : o.toNat < n) (hk : k = 5 ∨ k = 6 ∨ k = 7) (hsx : sR x) (hin : 0 ≤ x ∧ x < z) (hr : r o x = y) (hy : ¬ y = 0) (hdg : decode cc pc = .ok (.aaload, 1)) (kk : V Γ Δ n ex i r kc sl Q (pc + 1) lv (.ref (sA Δ y) :: stk)) : V Γ Δ n ex i r kc sl Q (pc) lv (.int (sJ x) :: .ref (sA Δ o) :: stk) := by
  obtain ⟨p, l', e, R', s, m, args, below, meth, c, nL'⟩ := Γ
  obtain ⟨hx, hb, hml, hown, hts, hKK, hlk, rfl, rfl, rfl⟩ := h
  intro H locs ls hP hz hS hl
  have hK := hKK.1
  obtain ⟨t0, ht0, ht1⟩ : ∃ ty : FieldType, (sTys Δ)[k]? = some (Δ.2.2.1 k, ty) ∧ ty.isReference = true := by
    rcases hk with rfl | rfl | rfl
    · exact ⟨_, rfl, rfl⟩
    · exact ⟨_, rfl, rfl⟩
    · exact ⟨_, rfl, rfl⟩
  have hlt : x.toNat < z := by have := hin.1; have := hin.2; omega
  refine W.aald (v := .ref (sA Δ y)) (ty := t0) hx hb (hP.1 o.toNat _ (at_q (k := k) ho hn (by omega))) ((hK.2 k _ ht0).1 z (fun j => va_rf (sQ Δ (r o j)))) ht1 (fun q => by cases q) (by show ¬ (_ < 0 ∨ (arrV _ _ _).slots.size ≤ _); rw [arrV_size]; exact sJ_in hsx hin) ?_ rfl rfl hdg (kk H locs ls hP hz hS hl)
  show (arrV _ _ _).slots[_]? = _
  rw [sJ_clamp hsx hin.1, arrV_read _ _ hlt]
  show some (va_rf (sQ Δ (r o (x.toNat : Int)))) = _
  rw [Int.toNat_of_nonneg hin.1, hr, sQ_rf, sV_ref hy]
theorem V.aast (k ck : Nat) {z : Nat} {o x y : Int} {q : vw_C} (h : okG Γ Δ l R cc own nL) (ho : isA o (20 + k, z)) (hn : o.toNat < n) (hk : 5 ≤ k) (hty : (sTys Δ)[k]? = some (Δ.2.2.1 k, .object q.1)) (hoy : isA y (ck, 0)) (hny : y.toNat < n) (hck : ck < 20) (hc : vwCl[ck]? = some q) (hsx : sR x) (hin : 0 ≤ x ∧ x < z) (hy : ¬ y = 0) (hdg : decode cc pc = .ok (.aastore, 1)) (kk : V Γ Δ n false i (st r o x y) kc sl Q (pc + 1) lv stk) : V Γ Δ n false i r kc sl Q (pc) lv (.ref (sA Δ y) :: .int (sJ x) :: .ref (sA Δ o) :: stk) := by
  obtain ⟨p, l', e, R', s, m, args, below, meth, c, nL'⟩ := Γ
  obtain ⟨hx, hb, hml, hown, hts, hKK, hlk, rfl, rfl, rfl⟩ := h
  intro H locs ls hP hz hS hl
  have hK := hKK.1
  refine va_astq hx hb hK hP.1 hP.D hS.self o.toNat k y.toNat ck (at_q (k := k) ho hn hk) hty (at_o hoy hny hck) hc (sJ_in hsx hin) hdg (fun H1 locs1 hP1 hD1 hS1 => ?_)
  rw [sJ_clamp hsx hin.1, ws_updR (k := k) ho hn hk hin.1 hy] at hP1
  exact kk H1 locs1 ls ⟨hP1, hP.2.1, sE_kept hKK hP.2.2 hS1⟩ (fun q => by cases q) (hS.tr hS1) hl
def bS (k : Nat) (x : Int) : Int := ((bytST.getD k []).getD x.toNat 0).toInt
def lenS (k : Nat) : Nat := lenST.getD k 0
def aK (Δ : Wd) (k : Nat) : Nat := Δ.2.2.2.2.1 k
def aV (Δ : Wd) (k : Nat) : Nat := Δ.2.2.2.2.2.1 k
theorem V.ldcS {ix : Nat} {tx : String} {k : Nat} (h : okG Γ Δ l R cc own nL) (hq : (own, ix, tx, k) ∈ sST) (hdg : decode cc pc = .ok (.ldc ix, 2)) (kk : V Γ Δ n ex i r kc sl Q (pc + 2) lv (.ref (aK Δ k) :: stk)) : V Γ Δ n ex i r kc sl Q (pc) lv stk := by
  obtain ⟨p, l', e, R', s, m, args, below, meth, c, nL'⟩ := Γ
  obtain ⟨hx, hb, hml, hown, hts, hKK, hlk, rfl, rfl, rfl⟩ := h
  intro H locs ls hP hz hS hl
  have hK := hKK.1
  exact va_ldcS hx hb hown (hKK.2.2.1 _ hq) hdg (kk H locs ls hP hz hS hl)
theorem V.sval {ix : Nat} {k : Nat} (h : okG Γ Δ l R cc own nL) (hk : k < 13) (hlink : Cond.fieldLink own ix "java/lang/String" "value" "[B" ∈ gW) (hdg : decode cc pc = .ok (.getfield ix, 3)) (kk : V Γ Δ n ex i r kc sl Q (pc + 3) lv (.ref (aV Δ k) :: stk)) : V Γ Δ n ex i r kc sl Q (pc) lv (.ref (aK Δ k) :: stk) := by
  obtain ⟨p, l', e, R', s, m, args, below, meth, c, nL'⟩ := Γ
  obtain ⟨hx, hb, hml, hown, hts, hKK, hlk, rfl, rfl, rfl⟩ := h
  intro H locs ls hP hz hS hl
  have hK := hKK.1
  exact vk_getf hx hb (hKK.2.1.1 k hk).2.2.1 hS hown (hts _ hlink) (fun _ q => q) hdg (kk H locs ls hP hz hS hl)
theorem V.scoder {ix : Nat} {k : Nat} (h : okG Γ Δ l R cc own nL) (hk : k < 13) (hlink : Cond.fieldLink own ix "java/lang/String" "coder" "B" ∈ gW) (hdg : decode cc pc = .ok (.getfield ix, 3)) (kk : V Γ Δ n ex i r kc sl Q (pc + 3) lv (.int (sJ 0) :: stk)) : V Γ Δ n ex i r kc sl Q (pc) lv (.ref (aK Δ k) :: stk) := by
  obtain ⟨p, l', e, R', s, m, args, below, meth, c, nL'⟩ := Γ
  obtain ⟨hx, hb, hml, hown, hts, hKK, hlk, rfl, rfl, rfl⟩ := h
  intro H locs ls hP hz hS hl
  have hK := hKK.1
  exact vk_getf hx hb (hKK.2.1.1 k hk).2.1 hS hown (hts _ hlink) (fun _ q => q) hdg (kk H locs ls hP hz hS hl)
theorem V.scs {ix : Nat} (h : okG Γ Δ l R cc own nL) (hlink : Cond.fieldLink own ix "java/lang/String" "COMPACT_STRINGS" "Z" ∈ gW) (hdg : decode cc pc = .ok (.getstatic ix, 3)) (kk : V Γ Δ n ex i r kc sl Q (pc + 3) lv (.int (sJ 1) :: stk)) : V Γ Δ n ex i r kc sl Q (pc) lv stk := by
  obtain ⟨p, l', e, R', s, m, args, below, meth, c, nL'⟩ := Γ
  obtain ⟨hx, hb, hml, hown, hts, hKK, hlk, rfl, rfl, rfl⟩ := h
  intro H locs ls hP hz hS hl
  have hK := hKK.1
  exact va_gets hx hb hKK.2.2.2.1 hS hown (hts _ hlink) (fun _ q => q) hdg (kk H locs ls hP hz hS hl)
theorem V.sfmt {ix : Nat} (h : okG Γ Δ l R cc own nL) (hlink : Cond.fieldLink own ix "jdk/internal/util/Preconditions" "SIOOBE_FORMATTER" "Ljava/util/function/BiFunction;" ∈ gW) (hdg : decode cc pc = .ok (.getstatic ix, 3)) (kk : ∀ v : Value, v.category = 1 → V Γ Δ n ex i r kc sl Q (pc + 3) lv (v :: stk)) : V Γ Δ n ex i r kc sl Q (pc) lv stk := by
  obtain ⟨p, l', e, R', s, m, args, below, meth, c, nL'⟩ := Γ
  obtain ⟨hx, hb, hml, hown, hts, hKK, hlk, rfl, rfl, rfl⟩ := h
  intro H locs ls hP hz hS hl
  have hK := hKK.1
  rcases hKK.2.2.2.2.2.1 with hZ | ⟨t, hZ⟩
  · exact va_gets hx hb hZ hS hown (hts _ hlink) (fun _ q => q) hdg (kk _ rfl H locs ls hP hz hS hl)
  · exact va_gets hx hb hZ hS hown (hts _ hlink) (fun _ q => q) hdg (kk _ rfl H locs ls hP hz hS hl)
theorem V.slen {k : Nat} (h : okG Γ Δ l R cc own nL) (hk : k < 13) (hdg : decode cc pc = .ok (.arraylength, 1)) (kk : V Γ Δ n ex i r kc sl Q (pc + 1) lv (.int (sJ (lenS k)) :: stk)) : V Γ Δ n ex i r kc sl Q (pc) lv (.ref (aV Δ k) :: stk) := by
  obtain ⟨p, l', e, R', s, m, args, below, meth, c, nL'⟩ := Γ
  obtain ⟨hx, hb, hml, hown, hts, hKK, hlk, rfl, rfl, rfl⟩ := h
  intro H locs ls hP hz hS hl
  have hK := hKK.1
  exact va_tlen hx hb (hKK.2.1.1 k hk).2.2.2 hS (v := sJ (lenS k)) Int32.ofInt_eq_ofNat.symm hdg (kk H locs ls hP hz hS hl)
theorem V.sbald {k : Nat} {x : Int} (h : okG Γ Δ l R cc own nL) (hk : k < 13) (hsx : sR x) (hin : 0 ≤ x ∧ x < lenS k) (hdg : decode cc pc = .ok (.baload, 1)) (kk : V Γ Δ n ex i r kc sl Q (pc + 1) lv (.int (sJ (bS k x)) :: stk)) : V Γ Δ n ex i r kc sl Q (pc) lv (.int (sJ x) :: .ref (aV Δ k) :: stk) := by
  obtain ⟨p, l', e, R', s, m, args, below, meth, c, nL'⟩ := Γ
  obtain ⟨hx, hb, hml, hown, hts, hKK, hlk, rfl, rfl, rfl⟩ := h
  intro H locs ls hP hz hS hl
  have hK := hKK.1
  refine va_tb hx hb (hKK.2.1.1 k hk).2.2.2 hS (sJ_in hsx hin) (v := .int (sJ (bS k x))) ?_ hdg (kk H locs ls hP hz hS hl)
  unfold bS
  rw [sJ_of, sJ_clamp hsx hin.1]
theorem V.i2b {x : Int} (h : okG Γ Δ l R cc own nL) (hdg : decode cc pc = .ok (.i2b, 1)) (kk : V Γ Δ n ex i r kc sl Q (pc + 1) lv (.int (sJ (sJ x).toInt8.toInt32.toInt) :: stk)) : V Γ Δ n ex i r kc sl Q (pc) lv (.int (sJ x) :: stk) := by
  obtain ⟨p, l', e, R', s, m, args, below, meth, c, nL'⟩ := Γ
  obtain ⟨hx, hb, hml, hown, hts, hKK, hlk, rfl, rfl, rfl⟩ := h
  intro H locs ls hP hz hS hl
  have hK := hKK.1
  have kk := kk H locs ls hP hz hS hl
  rw [sJ_of] at kk
  exact lv_i2b hx hb hdg rfl kk
end VROWS
/-! ===== contracts ===== -/
def sPc (Δ : Wd) (av : List Value) (i r : MI) : Array Value → State → Prop := va_Pc av (fun U => sH Δ 504 i r U.heap ∧ KK Δ U)
def sB (Δ : Wd) (u : MI × MI) (t : State) : Prop := sH Δ 504 u.1 u.2 t.heap
def sQi (Δ : Wd) (Qp : Int → MI → MI → Prop) : Array Value → State → Outcome → State → Prop := va_Qi (fun (v : Int32) (u : Int × MI × MI) => v = sJ u.1 ∧ sR u.1 ∧ okI u.2.1 ∧ Wf u.2.2 ∧ Qp u.1 u.2.1 u.2.2) (fun u t => sB Δ u.2 t) (sFr Δ)
def sQv (Δ : Wd) (Qp : MI → MI → Prop) : Array Value → State → Outcome → State → Prop := va_Qv (fun (u : MI × MI) => okI u.1 ∧ Wf u.2 ∧ Qp u.1 u.2) (sB Δ) (sFr Δ)
def sQl (Δ : Wd) (Qp : Int64 → MI → MI → Prop) : Array Value → State → Outcome → State → Prop := va_Ql (fun (v : Int64) (u : MI × MI) => okI u.1 ∧ Wf u.2 ∧ Qp v u.1 u.2) (sB Δ) (sFr Δ)
def sRm (fr lo : Nat) : Room := { frames := fr, cells := 0, slots := 0, locals := lo }
def mY (y : MethodName) (bytes : ByteArray) (maxL : Nat) (ret : Option FieldType) (na : Nat) : Prop := Cond.initialized y.cls ∈ gW ∧ Cond.code y bytes maxL ret ∈ gW ∧ y.cls ≠ "java/lang/invoke/MethodHandle" ∧ y.cls ≠ "java/lang/invoke/VarHandle" ∧ (parseMethodDescriptor y.desc).map (fun d => d.parameters.length) = some na
theorem KK_warm {Δ : Wd} {s U : State} {H : Heap} {locs : List Loc} (h : KK Δ s) (hW : s.WarmedH U.vm) (hS : va_S (sFr Δ) s.heap H locs) (hU : U.heap = H) : KK Δ U := by
  obtain ⟨h1, h2, h3, h4, h5, h6, h7, h8, h9, h10, h11, h12, h13⟩ := h
  subst hU
  exact ⟨va_K.moved hW.alike h1, vk_S.moved hW.alike (h2.kept hS.2.1), fun q hq => (h3 q hq).warm hW, va_Z.moved hW.alike (h4.kept hS.2.1), gX_warm hW h5, va_Zq.moved hW.alike (h6.kept hS.2.1), vx_Zq.moved hW.alike (h7.kept hS.2.1), vx_Zq.moved hW.alike (h8.kept hS.2.1), fun q hq => by obtain ⟨a, ha⟩ := h9 q hq; exact ⟨a, ha.warm hW⟩, fun q hq => va_Nc.moved hW.alike (h10 q hq), fun ty hty => ao_moved (aoL_ty hty) hW.alike (h11 ty hty), h12, h13.trans hW.alike⟩
theorem KK_calling {Δ : Wd} {U : State} {g : JFrame} {mk : MethodId} {a : Array Value} (h : KK Δ U) : KK Δ (U.calling g mk a) := by
  obtain ⟨h1, h2, h3, h4, h5, h6, h7, h8, h9, h10, h11, h12, h13⟩ := h
  exact ⟨va_K.moved (u := U) (U := U.calling g mk a) (Vm.Alike.refl U.vm) h1, vk_S.moved (u := U) (U := U.calling g mk a) (Vm.Alike.refl U.vm) h2, fun q hq => (h3 q hq).same rfl, va_Z.moved (u := U) (U := U.calling g mk a) (Vm.Alike.refl U.vm) h4, fun w hw => va_Nw.same (u := U) (U := U.calling g mk a) (gX_on (List.mem_filter.mp hw).2) rfl (h5 w hw), va_Zq.moved (u := U) (U := U.calling g mk a) (Vm.Alike.refl U.vm) h6, vx_Zq.moved (u := U) (U := U.calling g mk a) (Vm.Alike.refl U.vm) h7, vx_Zq.moved (u := U) (U := U.calling g mk a) (Vm.Alike.refl U.vm) h8, fun q hq => by obtain ⟨z, hz⟩ := h9 q hq; exact ⟨z, hz.same rfl⟩, fun q hq => va_Nc.moved (u := U) (U := U.calling g mk a) (Vm.Alike.refl U.vm) (h10 q hq), fun ty hty => ao_moved (u := U) (U := U.calling g mk a) (aoL_ty hty) (Vm.Alike.refl U.vm) (h11 ty hty), h12, h13⟩
theorem sPc_blind {Δ : Wd} {av : List Value} {i r : MI} : FrameBlind (sPc Δ av i r) := by
  intro a U g mk q
  exact ⟨q.1, q.2.1, KK_calling q.2.2⟩
theorem code_good {y : MethodName} {bytes : ByteArray} {maxL : Nat} {ret : Option FieldType} : goodWord (Cond.code y bytes maxL ret) = true := rfl
theorem gW_pay {y : MethodName} {bytes : ByteArray} {maxL : Nat} {ret : Option FieldType} {args : Array Value} {s : State} (hts : ∀ w ∈ gW, w.before args s = true) (hc : Cond.code y bytes maxL ret ∈ gW) : ∀ w ∈ Cond.code y bytes maxL ret :: gW, ∀ (a' : Array Value) (U : State), s.WarmedH U.vm → w.before a' U = true := by
  refine pay_in hts (fun w hw => ?_)
  rcases List.mem_cons.mp hw with rfl | hw
  · exact ⟨hc, good_of_word code_good⟩
  · exact ⟨hw, gW_good w hw⟩

theorem Ct.i {l : Launch} {Δ : Wd} {y : MethodName} {bytes : ByteArray} {maxL fr lo : Nat} {ret : Option FieldType} {av : List Value} {i r : MI} {ty : FieldType} {Qp : Int → MI → MI → Prop} (hy : plainName y.cls = true) (hret : ret = some ty) (hlen : (lg_sl av).length ≤ maxL) (walk : ∀ (Γ : Cx) (Q : State → Prop), okG Γ Δ l (sRm fr lo) bytes y.cls maxL → (∀ {pc : Nat} {lv : List (Nat × Value)} {x : Int} {i' r' : MI}, decode bytes pc = .ok (.ireturn, 1) → sR x → narrow ty (.int (sJ x)) = .int (sJ x) → okI i' → Wf r' → Qp x i' r' → V Γ Δ 504 false i' r' 0 0 Q pc lv [.int (sJ x)]) → V Γ Δ 504 false i r 0 0 Q 0 (lv_args 0 av) []) : Met l y (Cond.code y bytes maxL ret :: gW) (sRm fr lo) (sPc Δ av i r) (sQi Δ Qp) 0 0 (sFr Δ) := by
  refine Met.ofW (cc := bytes) (maxL := maxL) (ret := ret) hy rfl ?_
  intro p e s m args below meth c s₁ B hml hv
  obtain ⟨rfl, hP, hKK⟩ := hv
  have hts := atoms_spec (ws := Cond.code y bytes maxL ret :: gW) B.pre
  have hown : s.vm.findClass y.cls = some m.cls := findClass_of_methodNamed B.named
  have hlk : meth.locks = false := B.notSynchronized
  have hx := B.exec
  have hb := B.bytes
  have hr := B.returns
  have hl := lv_entry av (n := maxL) hlen
  rw [lg_entry_eq]
  generalize (lg_sl av ++ List.replicate (maxL - (lg_sl av).length) Slot.unset).toArray = ls at hl ⊢
  have hG : okG (p, l, e, sRm fr lo, s, m, av.toArray, below, meth, c, maxL) Δ l (sRm fr lo) bytes y.cls maxL := ⟨hx, hb, hml, hown, fun w hw => hts w (List.mem_cons_of_mem _ hw), hKK, hlk, rfl, rfl, rfl⟩
  refine walk _ _ hG ?_ s.heap [] ls hP (fun q => by cases q) va_S.rf hl
  intro pc lv x i' r' hdg hsx hnar hi hw hq H locs ls hP hz hS hl
  exact W.zret (v := sJ x) hx hb (hr.trans hret) hnar (fun t ht hW => ⟨⟨sJ x, (x, i', r'), rfl, ⟨rfl, hsx, hi, hw, hq⟩, by rw [← ht] at hP; exact hP⟩, hS.F ht⟩) hS.2.2 hdg hlk
theorem Ct.v {l : Launch} {Δ : Wd} {y : MethodName} {bytes : ByteArray} {maxL fr lo : Nat} {ret : Option FieldType} {av : List Value} {i r : MI} {Qp : MI → MI → Prop} (hy : plainName y.cls = true) (hret : ret = none) (hlen : (lg_sl av).length ≤ maxL) (walk : ∀ (Γ : Cx) (Q : State → Prop), okG Γ Δ l (sRm fr lo) bytes y.cls maxL → (∀ {pc : Nat} {lv : List (Nat × Value)} {i' r' : MI}, decode bytes pc = .ok (.return_, 1) → okI i' → Wf r' → Qp i' r' → V Γ Δ 504 false i' r' 0 0 Q pc lv []) → V Γ Δ 504 false i r 0 0 Q 0 (lv_args 0 av) []) : Met l y (Cond.code y bytes maxL ret :: gW) (sRm fr lo) (sPc Δ av i r) (sQv Δ Qp) 0 0 (sFr Δ) := by
  refine Met.ofW (cc := bytes) (maxL := maxL) (ret := ret) hy rfl ?_
  intro p e s m args below meth c s₁ B hml hv
  obtain ⟨rfl, hP, hKK⟩ := hv
  have hts := atoms_spec (ws := Cond.code y bytes maxL ret :: gW) B.pre
  have hown : s.vm.findClass y.cls = some m.cls := findClass_of_methodNamed B.named
  have hlk : meth.locks = false := B.notSynchronized
  have hx := B.exec
  have hb := B.bytes
  have hr := B.returns
  have hl := lv_entry av (n := maxL) hlen
  rw [lg_entry_eq]
  generalize (lg_sl av ++ List.replicate (maxL - (lg_sl av).length) Slot.unset).toArray = ls at hl ⊢
  have hG : okG (p, l, e, sRm fr lo, s, m, av.toArray, below, meth, c, maxL) Δ l (sRm fr lo) bytes y.cls maxL := ⟨hx, hb, hml, hown, fun w hw => hts w (List.mem_cons_of_mem _ hw), hKK, hlk, rfl, rfl, rfl⟩
  refine walk _ _ hG ?_ s.heap [] ls hP (fun q => by cases q) va_S.rf hl
  intro pc lv i' r' hdg hi hw hq H locs ls hP hz hS hl
  exact W.vret hx hb (hr.trans hret) (fun t ht hW => ⟨⟨(i', r'), rfl, ⟨hi, hw, hq⟩, by rw [← ht] at hP; exact hP⟩, hS.F ht⟩) hS.2.2 hdg hlk
theorem Ct.l {l : Launch} {Δ : Wd} {y : MethodName} {bytes : ByteArray} {maxL fr lo : Nat} {ret : Option FieldType} {av : List Value} {i r : MI} {Qp : Int64 → MI → MI → Prop} (hy : plainName y.cls = true) (hret : ret = some .long) (hlen : (lg_sl av).length ≤ maxL) (walk : ∀ (Γ : Cx) (Q : State → Prop), okG Γ Δ l (sRm fr lo) bytes y.cls maxL → (∀ {pc : Nat} {lv : List (Nat × Value)} {x : Int64} {i' r' : MI}, decode bytes pc = .ok (.lreturn, 1) → okI i' → Wf r' → Qp x i' r' → V Γ Δ 504 false i' r' 0 0 Q pc lv [.long x]) → V Γ Δ 504 false i r 0 0 Q 0 (lv_args 0 av) []) : Met l y (Cond.code y bytes maxL ret :: gW) (sRm fr lo) (sPc Δ av i r) (sQl Δ Qp) 0 0 (sFr Δ) := by
  refine Met.ofW (cc := bytes) (maxL := maxL) (ret := ret) hy rfl ?_
  intro p e s m args below meth c s₁ B hml hv
  obtain ⟨rfl, hP, hKK⟩ := hv
  have hts := atoms_spec (ws := Cond.code y bytes maxL ret :: gW) B.pre
  have hown : s.vm.findClass y.cls = some m.cls := findClass_of_methodNamed B.named
  have hlk : meth.locks = false := B.notSynchronized
  have hx := B.exec
  have hb := B.bytes
  have hr := B.returns
  have hl := lv_entry av (n := maxL) hlen
  rw [lg_entry_eq]
  generalize (lg_sl av ++ List.replicate (maxL - (lg_sl av).length) Slot.unset).toArray = ls at hl ⊢
  have hG : okG (p, l, e, sRm fr lo, s, m, av.toArray, below, meth, c, maxL) Δ l (sRm fr lo) bytes y.cls maxL := ⟨hx, hb, hml, hown, fun w hw => hts w (List.mem_cons_of_mem _ hw), hKK, hlk, rfl, rfl, rfl⟩
  refine walk _ _ hG ?_ s.heap [] ls hP (fun q => by cases q) va_S.rf hl
  intro pc lv x i' r' hdg hi hw hq H locs ls hP hz hS hl
  exact W.lret (v := x) hx hb (hr.trans hret) (fun t ht hW => ⟨⟨x, (i', r'), rfl, ⟨hi, hw, hq⟩, by rw [← ht] at hP; exact hP⟩, hS.F ht⟩) hS.2.2 hdg hlk
section VCALLS
variable {Γ : Cx} {Δ : Wd} {l : Launch} {R : Room} {i r : MI} {kc sl : Nat} {Q : State → Prop} {pc : Nat} {lv : List (Nat × Value)} {stk st0 As : List Value} {cc : ByteArray} {own : String} {nL : Nat}
theorem V.callVi {y : MethodName} {bytes : ByteArray} {maxL fr lo na ix : Nat} {ret : Option FieldType} {Qp : Int → MI → MI → Prop} {o : Int} {ci : Nat} {q : vw_C} (h : okG Γ Δ l R cc own nL) (hM : Met l y (Cond.code y bytes maxL ret :: gW) (sRm fr lo) (sPc Δ (.ref (sA Δ o) :: As) i r) (sQi Δ Qp) 0 0 (sFr Δ)) (hY : mY y bytes maxL ret na) (hl1 : Cond.methodLink own ix y ∈ gW) (hl2 : Cond.instanceMethod y ∈ gW) (hl3 : Cond.selects y.cls y y ∈ gW) (ho : isA o (ci, 0)) (hci : ci < 20) (hc : vwCl[ci]? = some q) (hC : q.1 = y.cls) (hR : fr + 1 ≤ R.frames ∧ 8 + (maxL + 11) + lo ≤ R.locals ∧ kc ≤ R.cells ∧ sl ≤ R.slots) (hlen : As.length = na) (hst : (stk.map fun v => v.category).sum ≤ 8) (hdg : decode cc pc = .ok (.invokevirtual ix, 3)) (hs : st0 = As.reverse ++ .ref (sA Δ o) :: stk) (kk : ∀ (x : Int) (i' r' : MI), sR x → okI i' → Wf r' → Qp x i' r' → V Γ Δ 504 false i' r' kc sl Q (pc + 3) lv (.int (sJ x) :: stk)) : V Γ Δ 504 false i r kc sl Q (pc) lv (st0) := by
  obtain ⟨p, l', e, R', s, m, args, below, meth, c, nL'⟩ := Γ
  obtain ⟨hx, hb, hml, hown, hts, hKK, hlk, rfl, rfl, rfl⟩ := h
  intro H locs ls hP hz hS hl
  subst hs
  obtain ⟨y1, y2, y3, y4, y5⟩ := hY
  exact va_calli (va_runV (As := As) (rest := stk) ⟨hx, hb, hml, hown, hts⟩ hM ⟨⟨rfl, rfl, hR.1, hR.2.1, gW_pay hts y2, List.mem_cons_self, hts _ y2, hts _ y1, ⟨y3, y4⟩, fun sig hh => by rw [hh] at y5; exact (Option.some.inj y5).symm, hts _ hl1⟩, hts _ hl2, hts _ hl3⟩ ⟨sPc_blind, by rw [← hC]; exact va_recv hKK.1 hP.1 hc (at_o ho ho.n hci), fun U hU hW => ⟨rfl, by rw [hU]; exact hP, KK_warm hKK hW hS hU⟩⟩ rfl hlen hl.1 rfl (lv_room hst) hdg ⟨hR.2.2.1, hR.2.2.2⟩) hS (fun _ _ q => q) (fun _ q => q) (fun v u t H1 locs1 ht hvm hw hB hz1 hk1 hS1 => by
    obtain ⟨x, i', r'⟩ := u
    obtain ⟨rfl, g1, g2, g3, g4⟩ := hw
    have hB : sH Δ 504 i' r' t.heap := hB
    rw [ht] at hB
    exact kk x i' r' g1 g2 g3 g4 H1 locs1 ls hB (fun q => by cases q) hS1 hl)
theorem V.callVNi {y : MethodName} {bytes : ByteArray} {maxL fr lo na ix : Nat} {ret : Option FieldType} {host : String} {Qp : Int → MI → MI → Prop} {o : Int} {ci : Nat} {q : vw_C} (h : okG Γ Δ l R cc own nL) (hM : Met l y (Cond.code y bytes maxL ret :: gW) (sRm fr lo) (sPc Δ (.ref (sA Δ o) :: As) i r) (sQi Δ Qp) 0 0 (sFr Δ)) (hY : mY y bytes maxL ret na) (hl1 : Cond.methodLinkNest own ix y host ∈ gX) (hl2 : Cond.instanceMethod y ∈ gW) (hl3 : Cond.selects y.cls y y ∈ gW) (ho : isA o (ci, 0)) (hci : ci < 20) (hc : vwCl[ci]? = some q) (hC : q.1 = y.cls) (hR : fr + 1 ≤ R.frames ∧ 8 + (maxL + 11) + lo ≤ R.locals ∧ kc ≤ R.cells ∧ sl ≤ R.slots) (hlen : As.length = na) (hst : (stk.map fun v => v.category).sum ≤ 8) (hdg : decode cc pc = .ok (.invokevirtual ix, 3)) (hs : st0 = As.reverse ++ .ref (sA Δ o) :: stk) (kk : ∀ (x : Int) (i' r' : MI), sR x → okI i' → Wf r' → Qp x i' r' → V Γ Δ 504 false i' r' kc sl Q (pc + 3) lv (.int (sJ x) :: stk)) : V Γ Δ 504 false i r kc sl Q (pc) lv (st0) := by
  obtain ⟨p, l', e, R', s, m, args, below, meth, c, nL'⟩ := Γ
  obtain ⟨hx, hb, hml, hown, hts, hKK, hlk, rfl, rfl, rfl⟩ := h
  intro H locs ls hP hz hS hl
  subst hs
  obtain ⟨y1, y2, y3, y4, y5⟩ := hY
  exact va_calli (va_runVN (As := As) (rest := stk) ⟨hx, hb, hml, hown, hts⟩ hM ⟨⟨⟨rfl, rfl, hR.1, hR.2.1, gW_pay hts y2, List.mem_cons_self⟩, hts _ y2, hts _ y1, ⟨y3, y4⟩, fun sig hh => by rw [hh] at y5; exact (Option.some.inj y5).symm, va_Nw.use rfl (hKK.2.2.2.2.1 _ hl1)⟩, hts _ hl2, hts _ hl3⟩ ⟨sPc_blind, by rw [← hC]; exact va_recv hKK.1 hP.1 hc (at_o ho ho.n hci), fun U hU hW => ⟨rfl, by rw [hU]; exact hP, KK_warm hKK hW hS hU⟩⟩ rfl hlen hl.1 rfl (lv_room hst) hdg ⟨hR.2.2.1, hR.2.2.2⟩) hS (fun _ _ q => q) (fun _ q => q) (fun v u t H1 locs1 ht hvm hw hB hz1 hk1 hS1 => by
    obtain ⟨x, i', r'⟩ := u
    obtain ⟨rfl, g1, g2, g3, g4⟩ := hw
    have hB : sH Δ 504 i' r' t.heap := hB
    rw [ht] at hB
    exact kk x i' r' g1 g2 g3 g4 H1 locs1 ls hB (fun q => by cases q) hS1 hl)
theorem V.callSi {y : MethodName} {bytes : ByteArray} {maxL fr lo na ix : Nat} {ret : Option FieldType} {Qp : Int → MI → MI → Prop} (h : okG Γ Δ l R cc own nL) (hM : Met l y (Cond.code y bytes maxL ret :: gW) (sRm fr lo) (sPc Δ As i r) (sQi Δ Qp) 0 0 (sFr Δ)) (hY : mY y bytes maxL ret na) (hl1 : Cond.methodLink own ix y ∈ gW) (hl2 : Cond.static y ∈ gW) (hR : fr + 1 ≤ R.frames ∧ 8 + (maxL + 11) + lo ≤ R.locals ∧ kc ≤ R.cells ∧ sl ≤ R.slots) (hlen : As.length = na) (hst : (stk.map fun v => v.category).sum ≤ 8) (hdg : decode cc pc = .ok (.invokestatic ix, 3)) (hs : st0 = As.reverse ++ stk) (kk : ∀ (x : Int) (i' r' : MI), sR x → okI i' → Wf r' → Qp x i' r' → V Γ Δ 504 false i' r' kc sl Q (pc + 3) lv (.int (sJ x) :: stk)) : V Γ Δ 504 false i r kc sl Q (pc) lv (st0) := by
  obtain ⟨p, l', e, R', s, m, args, below, meth, c, nL'⟩ := Γ
  obtain ⟨hx, hb, hml, hown, hts, hKK, hlk, rfl, rfl, rfl⟩ := h
  intro H locs ls hP hz hS hl
  subst hs
  obtain ⟨y1, y2, y3, y4, y5⟩ := hY
  exact va_calli (va_runS (As := As) (rest := stk) ⟨hx, hb, hml, hown, hts⟩ hM ⟨⟨rfl, rfl, hR.1, hR.2.1, gW_pay hts y2, List.mem_cons_self, hts _ y2, hts _ y1, ⟨y3, y4⟩, fun sig hh => by rw [hh] at y5; exact (Option.some.inj y5).symm, hts _ hl1⟩, hts _ hl2⟩ ⟨sPc_blind, fun U hU hW => ⟨rfl, by rw [hU]; exact hP, KK_warm hKK hW hS hU⟩⟩ rfl hlen hl.1 rfl (lv_room hst) hdg ⟨hR.2.2.1, hR.2.2.2⟩) hS (fun _ _ q => q) (fun _ q => q) (fun v u t H1 locs1 ht hvm hw hB hz1 hk1 hS1 => by
    obtain ⟨x, i', r'⟩ := u
    obtain ⟨rfl, g1, g2, g3, g4⟩ := hw
    have hB : sH Δ 504 i' r' t.heap := hB
    rw [ht] at hB
    exact kk x i' r' g1 g2 g3 g4 H1 locs1 ls hB (fun q => by cases q) hS1 hl)
theorem V.callSNi {y : MethodName} {bytes : ByteArray} {maxL fr lo na ix : Nat} {ret : Option FieldType} {host : String} {Qp : Int → MI → MI → Prop} (h : okG Γ Δ l R cc own nL) (hM : Met l y (Cond.code y bytes maxL ret :: gW) (sRm fr lo) (sPc Δ As i r) (sQi Δ Qp) 0 0 (sFr Δ)) (hY : mY y bytes maxL ret na) (hl1 : Cond.methodLinkNest own ix y host ∈ gX) (hl2 : Cond.static y ∈ gW) (hR : fr + 1 ≤ R.frames ∧ 8 + (maxL + 11) + lo ≤ R.locals ∧ kc ≤ R.cells ∧ sl ≤ R.slots) (hlen : As.length = na) (hst : (stk.map fun v => v.category).sum ≤ 8) (hdg : decode cc pc = .ok (.invokestatic ix, 3)) (hs : st0 = As.reverse ++ stk) (kk : ∀ (x : Int) (i' r' : MI), sR x → okI i' → Wf r' → Qp x i' r' → V Γ Δ 504 false i' r' kc sl Q (pc + 3) lv (.int (sJ x) :: stk)) : V Γ Δ 504 false i r kc sl Q (pc) lv (st0) := by
  obtain ⟨p, l', e, R', s, m, args, below, meth, c, nL'⟩ := Γ
  obtain ⟨hx, hb, hml, hown, hts, hKK, hlk, rfl, rfl, rfl⟩ := h
  intro H locs ls hP hz hS hl
  subst hs
  obtain ⟨y1, y2, y3, y4, y5⟩ := hY
  exact va_calli (va_runSN (As := As) (rest := stk) ⟨hx, hb, hml, hown, hts⟩ hM ⟨⟨⟨rfl, rfl, hR.1, hR.2.1, gW_pay hts y2, List.mem_cons_self⟩, hts _ y2, hts _ y1, ⟨y3, y4⟩, fun sig hh => by rw [hh] at y5; exact (Option.some.inj y5).symm, va_Nw.use rfl (hKK.2.2.2.2.1 _ hl1)⟩, hts _ hl2, trivial⟩ ⟨sPc_blind, fun U hU hW => ⟨rfl, by rw [hU]; exact hP, KK_warm hKK hW hS hU⟩⟩ rfl hlen hl.1 rfl (lv_room hst) hdg ⟨hR.2.2.1, hR.2.2.2⟩) hS (fun _ _ q => q) (fun _ q => q) (fun v u t H1 locs1 ht hvm hw hB hz1 hk1 hS1 => by
    obtain ⟨x, i', r'⟩ := u
    obtain ⟨rfl, g1, g2, g3, g4⟩ := hw
    have hB : sH Δ 504 i' r' t.heap := hB
    rw [ht] at hB
    exact kk x i' r' g1 g2 g3 g4 H1 locs1 ls hB (fun q => by cases q) hS1 hl)
theorem V.callVSi {y : MethodName} {bytes : ByteArray} {maxL fr lo na ix : Nat} {ret : Option FieldType} {Qp : Int → MI → MI → Prop} {k : Nat} (h : okG Γ Δ l R cc own nL) (hM : Met l y (Cond.code y bytes maxL ret :: gW) (sRm fr lo) (sPc Δ (.ref (aK Δ k) :: As) i r) (sQi Δ Qp) 0 0 (sFr Δ)) (hY : mY y bytes maxL ret na) (hl1 : Cond.methodLink own ix y ∈ gW) (hl2 : Cond.instanceMethod y ∈ gW) (hl3 : Cond.selects y.cls y y ∈ gW) (hk : k < 13) (hC : "java/lang/String" = y.cls) (hR : fr + 1 ≤ R.frames ∧ 8 + (maxL + 11) + lo ≤ R.locals ∧ kc ≤ R.cells ∧ sl ≤ R.slots) (hlen : As.length = na) (hst : (stk.map fun v => v.category).sum ≤ 8) (hdg : decode cc pc = .ok (.invokevirtual ix, 3)) (hs : st0 = As.reverse ++ .ref (aK Δ k) :: stk) (kk : ∀ (x : Int) (i' r' : MI), sR x → okI i' → Wf r' → Qp x i' r' → V Γ Δ 504 false i' r' kc sl Q (pc + 3) lv (.int (sJ x) :: stk)) : V Γ Δ 504 false i r kc sl Q (pc) lv (st0) := by
  obtain ⟨p, l', e, R', s, m, args, below, meth, c, nL'⟩ := Γ
  obtain ⟨hx, hb, hml, hown, hts, hKK, hlk, rfl, rfl, rfl⟩ := h
  intro H locs ls hP hz hS hl
  subst hs
  obtain ⟨y1, y2, y3, y4, y5⟩ := hY
  exact va_calli (va_runV (As := As) (rest := stk) ⟨hx, hb, hml, hown, hts⟩ hM ⟨⟨rfl, rfl, hR.1, hR.2.1, gW_pay hts y2, List.mem_cons_self, hts _ y2, hts _ y1, ⟨y3, y4⟩, fun sig hh => by rw [hh] at y5; exact (Option.some.inj y5).symm, hts _ hl1⟩, hts _ hl2, hts _ hl3⟩ ⟨sPc_blind, by rw [← hC]; exact vk_recv hKK.2.1 hk hS, fun U hU hW => ⟨rfl, by rw [hU]; exact hP, KK_warm hKK hW hS hU⟩⟩ rfl hlen hl.1 rfl (lv_room hst) hdg ⟨hR.2.2.1, hR.2.2.2⟩) hS (fun _ _ q => q) (fun _ q => q) (fun v u t H1 locs1 ht hvm hw hB hz1 hk1 hS1 => by
    obtain ⟨x, i', r'⟩ := u
    obtain ⟨rfl, g1, g2, g3, g4⟩ := hw
    have hB : sH Δ 504 i' r' t.heap := hB
    rw [ht] at hB
    exact kk x i' r' g1 g2 g3 g4 H1 locs1 ls hB (fun q => by cases q) hS1 hl)
theorem V.callVv {y : MethodName} {bytes : ByteArray} {maxL fr lo na ix : Nat} {ret : Option FieldType} {Qp : MI → MI → Prop} {o : Int} {ci : Nat} {q : vw_C} (h : okG Γ Δ l R cc own nL) (hM : Met l y (Cond.code y bytes maxL ret :: gW) (sRm fr lo) (sPc Δ (.ref (sA Δ o) :: As) i r) (sQv Δ Qp) 0 0 (sFr Δ)) (hY : mY y bytes maxL ret na) (hl1 : Cond.methodLink own ix y ∈ gW) (hl2 : Cond.instanceMethod y ∈ gW) (hl3 : Cond.selects y.cls y y ∈ gW) (ho : isA o (ci, 0)) (hci : ci < 20) (hc : vwCl[ci]? = some q) (hC : q.1 = y.cls) (hR : fr + 1 ≤ R.frames ∧ 8 + (maxL + 11) + lo ≤ R.locals ∧ kc ≤ R.cells ∧ sl ≤ R.slots) (hlen : As.length = na) (hst : (stk.map fun v => v.category).sum ≤ 8) (hdg : decode cc pc = .ok (.invokevirtual ix, 3)) (hs : st0 = As.reverse ++ .ref (sA Δ o) :: stk) (kk : ∀ (i' r' : MI), okI i' → Wf r' → Qp i' r' → V Γ Δ 504 false i' r' kc sl Q (pc + 3) lv (stk)) : V Γ Δ 504 false i r kc sl Q (pc) lv (st0) := by
  obtain ⟨p, l', e, R', s, m, args, below, meth, c, nL'⟩ := Γ
  obtain ⟨hx, hb, hml, hown, hts, hKK, hlk, rfl, rfl, rfl⟩ := h
  intro H locs ls hP hz hS hl
  subst hs
  obtain ⟨y1, y2, y3, y4, y5⟩ := hY
  exact va_callv (va_runV (As := As) (rest := stk) ⟨hx, hb, hml, hown, hts⟩ hM ⟨⟨rfl, rfl, hR.1, hR.2.1, gW_pay hts y2, List.mem_cons_self, hts _ y2, hts _ y1, ⟨y3, y4⟩, fun sig hh => by rw [hh] at y5; exact (Option.some.inj y5).symm, hts _ hl1⟩, hts _ hl2, hts _ hl3⟩ ⟨sPc_blind, by rw [← hC]; exact va_recv hKK.1 hP.1 hc (at_o ho ho.n hci), fun U hU hW => ⟨rfl, by rw [hU]; exact hP, KK_warm hKK hW hS hU⟩⟩ rfl hlen hl.1 rfl (lv_room hst) hdg ⟨hR.2.2.1, hR.2.2.2⟩) hS (fun _ _ q => q) (fun _ q => q) (fun u t H1 locs1 ht hvm hw hB hz1 hk1 hS1 => by
    obtain ⟨i', r'⟩ := u
    obtain ⟨g2, g3, g4⟩ := hw
    have hB : sH Δ 504 i' r' t.heap := hB
    rw [ht] at hB
    exact kk i' r' g2 g3 g4 H1 locs1 ls hB (fun q => by cases q) hS1 hl)
theorem V.callVNv {y : MethodName} {bytes : ByteArray} {maxL fr lo na ix : Nat} {ret : Option FieldType} {host : String} {Qp : MI → MI → Prop} {o : Int} {ci : Nat} {q : vw_C} (h : okG Γ Δ l R cc own nL) (hM : Met l y (Cond.code y bytes maxL ret :: gW) (sRm fr lo) (sPc Δ (.ref (sA Δ o) :: As) i r) (sQv Δ Qp) 0 0 (sFr Δ)) (hY : mY y bytes maxL ret na) (hl1 : Cond.methodLinkNest own ix y host ∈ gX) (hl2 : Cond.instanceMethod y ∈ gW) (hl3 : Cond.selects y.cls y y ∈ gW) (ho : isA o (ci, 0)) (hci : ci < 20) (hc : vwCl[ci]? = some q) (hC : q.1 = y.cls) (hR : fr + 1 ≤ R.frames ∧ 8 + (maxL + 11) + lo ≤ R.locals ∧ kc ≤ R.cells ∧ sl ≤ R.slots) (hlen : As.length = na) (hst : (stk.map fun v => v.category).sum ≤ 8) (hdg : decode cc pc = .ok (.invokevirtual ix, 3)) (hs : st0 = As.reverse ++ .ref (sA Δ o) :: stk) (kk : ∀ (i' r' : MI), okI i' → Wf r' → Qp i' r' → V Γ Δ 504 false i' r' kc sl Q (pc + 3) lv (stk)) : V Γ Δ 504 false i r kc sl Q (pc) lv (st0) := by
  obtain ⟨p, l', e, R', s, m, args, below, meth, c, nL'⟩ := Γ
  obtain ⟨hx, hb, hml, hown, hts, hKK, hlk, rfl, rfl, rfl⟩ := h
  intro H locs ls hP hz hS hl
  subst hs
  obtain ⟨y1, y2, y3, y4, y5⟩ := hY
  exact va_callv (va_runVN (As := As) (rest := stk) ⟨hx, hb, hml, hown, hts⟩ hM ⟨⟨⟨rfl, rfl, hR.1, hR.2.1, gW_pay hts y2, List.mem_cons_self⟩, hts _ y2, hts _ y1, ⟨y3, y4⟩, fun sig hh => by rw [hh] at y5; exact (Option.some.inj y5).symm, va_Nw.use rfl (hKK.2.2.2.2.1 _ hl1)⟩, hts _ hl2, hts _ hl3⟩ ⟨sPc_blind, by rw [← hC]; exact va_recv hKK.1 hP.1 hc (at_o ho ho.n hci), fun U hU hW => ⟨rfl, by rw [hU]; exact hP, KK_warm hKK hW hS hU⟩⟩ rfl hlen hl.1 rfl (lv_room hst) hdg ⟨hR.2.2.1, hR.2.2.2⟩) hS (fun _ _ q => q) (fun _ q => q) (fun u t H1 locs1 ht hvm hw hB hz1 hk1 hS1 => by
    obtain ⟨i', r'⟩ := u
    obtain ⟨g2, g3, g4⟩ := hw
    have hB : sH Δ 504 i' r' t.heap := hB
    rw [ht] at hB
    exact kk i' r' g2 g3 g4 H1 locs1 ls hB (fun q => by cases q) hS1 hl)
theorem V.callSv {y : MethodName} {bytes : ByteArray} {maxL fr lo na ix : Nat} {ret : Option FieldType} {Qp : MI → MI → Prop} (h : okG Γ Δ l R cc own nL) (hM : Met l y (Cond.code y bytes maxL ret :: gW) (sRm fr lo) (sPc Δ As i r) (sQv Δ Qp) 0 0 (sFr Δ)) (hY : mY y bytes maxL ret na) (hl1 : Cond.methodLink own ix y ∈ gW) (hl2 : Cond.static y ∈ gW) (hR : fr + 1 ≤ R.frames ∧ 8 + (maxL + 11) + lo ≤ R.locals ∧ kc ≤ R.cells ∧ sl ≤ R.slots) (hlen : As.length = na) (hst : (stk.map fun v => v.category).sum ≤ 8) (hdg : decode cc pc = .ok (.invokestatic ix, 3)) (hs : st0 = As.reverse ++ stk) (kk : ∀ (i' r' : MI), okI i' → Wf r' → Qp i' r' → V Γ Δ 504 false i' r' kc sl Q (pc + 3) lv (stk)) : V Γ Δ 504 false i r kc sl Q (pc) lv (st0) := by
  obtain ⟨p, l', e, R', s, m, args, below, meth, c, nL'⟩ := Γ
  obtain ⟨hx, hb, hml, hown, hts, hKK, hlk, rfl, rfl, rfl⟩ := h
  intro H locs ls hP hz hS hl
  subst hs
  obtain ⟨y1, y2, y3, y4, y5⟩ := hY
  exact va_callv (va_runS (As := As) (rest := stk) ⟨hx, hb, hml, hown, hts⟩ hM ⟨⟨rfl, rfl, hR.1, hR.2.1, gW_pay hts y2, List.mem_cons_self, hts _ y2, hts _ y1, ⟨y3, y4⟩, fun sig hh => by rw [hh] at y5; exact (Option.some.inj y5).symm, hts _ hl1⟩, hts _ hl2⟩ ⟨sPc_blind, fun U hU hW => ⟨rfl, by rw [hU]; exact hP, KK_warm hKK hW hS hU⟩⟩ rfl hlen hl.1 rfl (lv_room hst) hdg ⟨hR.2.2.1, hR.2.2.2⟩) hS (fun _ _ q => q) (fun _ q => q) (fun u t H1 locs1 ht hvm hw hB hz1 hk1 hS1 => by
    obtain ⟨i', r'⟩ := u
    obtain ⟨g2, g3, g4⟩ := hw
    have hB : sH Δ 504 i' r' t.heap := hB
    rw [ht] at hB
    exact kk i' r' g2 g3 g4 H1 locs1 ls hB (fun q => by cases q) hS1 hl)
theorem V.callSNv {y : MethodName} {bytes : ByteArray} {maxL fr lo na ix : Nat} {ret : Option FieldType} {host : String} {Qp : MI → MI → Prop} (h : okG Γ Δ l R cc own nL) (hM : Met l y (Cond.code y bytes maxL ret :: gW) (sRm fr lo) (sPc Δ As i r) (sQv Δ Qp) 0 0 (sFr Δ)) (hY : mY y bytes maxL ret na) (hl1 : Cond.methodLinkNest own ix y host ∈ gX) (hl2 : Cond.static y ∈ gW) (hR : fr + 1 ≤ R.frames ∧ 8 + (maxL + 11) + lo ≤ R.locals ∧ kc ≤ R.cells ∧ sl ≤ R.slots) (hlen : As.length = na) (hst : (stk.map fun v => v.category).sum ≤ 8) (hdg : decode cc pc = .ok (.invokestatic ix, 3)) (hs : st0 = As.reverse ++ stk) (kk : ∀ (i' r' : MI), okI i' → Wf r' → Qp i' r' → V Γ Δ 504 false i' r' kc sl Q (pc + 3) lv (stk)) : V Γ Δ 504 false i r kc sl Q (pc) lv (st0) := by
  obtain ⟨p, l', e, R', s, m, args, below, meth, c, nL'⟩ := Γ
  obtain ⟨hx, hb, hml, hown, hts, hKK, hlk, rfl, rfl, rfl⟩ := h
  intro H locs ls hP hz hS hl
  subst hs
  obtain ⟨y1, y2, y3, y4, y5⟩ := hY
  exact va_callv (va_runSN (As := As) (rest := stk) ⟨hx, hb, hml, hown, hts⟩ hM ⟨⟨⟨rfl, rfl, hR.1, hR.2.1, gW_pay hts y2, List.mem_cons_self⟩, hts _ y2, hts _ y1, ⟨y3, y4⟩, fun sig hh => by rw [hh] at y5; exact (Option.some.inj y5).symm, va_Nw.use rfl (hKK.2.2.2.2.1 _ hl1)⟩, hts _ hl2, trivial⟩ ⟨sPc_blind, fun U hU hW => ⟨rfl, by rw [hU]; exact hP, KK_warm hKK hW hS hU⟩⟩ rfl hlen hl.1 rfl (lv_room hst) hdg ⟨hR.2.2.1, hR.2.2.2⟩) hS (fun _ _ q => q) (fun _ q => q) (fun u t H1 locs1 ht hvm hw hB hz1 hk1 hS1 => by
    obtain ⟨i', r'⟩ := u
    obtain ⟨g2, g3, g4⟩ := hw
    have hB : sH Δ 504 i' r' t.heap := hB
    rw [ht] at hB
    exact kk i' r' g2 g3 g4 H1 locs1 ls hB (fun q => by cases q) hS1 hl)
theorem V.callVSv {y : MethodName} {bytes : ByteArray} {maxL fr lo na ix : Nat} {ret : Option FieldType} {Qp : MI → MI → Prop} {k : Nat} (h : okG Γ Δ l R cc own nL) (hM : Met l y (Cond.code y bytes maxL ret :: gW) (sRm fr lo) (sPc Δ (.ref (aK Δ k) :: As) i r) (sQv Δ Qp) 0 0 (sFr Δ)) (hY : mY y bytes maxL ret na) (hl1 : Cond.methodLink own ix y ∈ gW) (hl2 : Cond.instanceMethod y ∈ gW) (hl3 : Cond.selects y.cls y y ∈ gW) (hk : k < 13) (hC : "java/lang/String" = y.cls) (hR : fr + 1 ≤ R.frames ∧ 8 + (maxL + 11) + lo ≤ R.locals ∧ kc ≤ R.cells ∧ sl ≤ R.slots) (hlen : As.length = na) (hst : (stk.map fun v => v.category).sum ≤ 8) (hdg : decode cc pc = .ok (.invokevirtual ix, 3)) (hs : st0 = As.reverse ++ .ref (aK Δ k) :: stk) (kk : ∀ (i' r' : MI), okI i' → Wf r' → Qp i' r' → V Γ Δ 504 false i' r' kc sl Q (pc + 3) lv (stk)) : V Γ Δ 504 false i r kc sl Q (pc) lv (st0) := by
  obtain ⟨p, l', e, R', s, m, args, below, meth, c, nL'⟩ := Γ
  obtain ⟨hx, hb, hml, hown, hts, hKK, hlk, rfl, rfl, rfl⟩ := h
  intro H locs ls hP hz hS hl
  subst hs
  obtain ⟨y1, y2, y3, y4, y5⟩ := hY
  exact va_callv (va_runV (As := As) (rest := stk) ⟨hx, hb, hml, hown, hts⟩ hM ⟨⟨rfl, rfl, hR.1, hR.2.1, gW_pay hts y2, List.mem_cons_self, hts _ y2, hts _ y1, ⟨y3, y4⟩, fun sig hh => by rw [hh] at y5; exact (Option.some.inj y5).symm, hts _ hl1⟩, hts _ hl2, hts _ hl3⟩ ⟨sPc_blind, by rw [← hC]; exact vk_recv hKK.2.1 hk hS, fun U hU hW => ⟨rfl, by rw [hU]; exact hP, KK_warm hKK hW hS hU⟩⟩ rfl hlen hl.1 rfl (lv_room hst) hdg ⟨hR.2.2.1, hR.2.2.2⟩) hS (fun _ _ q => q) (fun _ q => q) (fun u t H1 locs1 ht hvm hw hB hz1 hk1 hS1 => by
    obtain ⟨i', r'⟩ := u
    obtain ⟨g2, g3, g4⟩ := hw
    have hB : sH Δ 504 i' r' t.heap := hB
    rw [ht] at hB
    exact kk i' r' g2 g3 g4 H1 locs1 ls hB (fun q => by cases q) hS1 hl)
theorem V.callVl {y : MethodName} {bytes : ByteArray} {maxL fr lo na ix : Nat} {ret : Option FieldType} {Qp : Int64 → MI → MI → Prop} {o : Int} {ci : Nat} {q : vw_C} (h : okG Γ Δ l R cc own nL) (hM : Met l y (Cond.code y bytes maxL ret :: gW) (sRm fr lo) (sPc Δ (.ref (sA Δ o) :: As) i r) (sQl Δ Qp) 0 0 (sFr Δ)) (hY : mY y bytes maxL ret na) (hl1 : Cond.methodLink own ix y ∈ gW) (hl2 : Cond.instanceMethod y ∈ gW) (hl3 : Cond.selects y.cls y y ∈ gW) (ho : isA o (ci, 0)) (hci : ci < 20) (hc : vwCl[ci]? = some q) (hC : q.1 = y.cls) (hR : fr + 1 ≤ R.frames ∧ 8 + (maxL + 11) + lo ≤ R.locals ∧ kc ≤ R.cells ∧ sl ≤ R.slots) (hlen : As.length = na) (hst : (stk.map fun v => v.category).sum ≤ 8) (hdg : decode cc pc = .ok (.invokevirtual ix, 3)) (hs : st0 = As.reverse ++ .ref (sA Δ o) :: stk) (kk : ∀ (x : Int64) (i' r' : MI), okI i' → Wf r' → Qp x i' r' → V Γ Δ 504 false i' r' kc sl Q (pc + 3) lv (.long x :: stk)) : V Γ Δ 504 false i r kc sl Q (pc) lv (st0) := by
  obtain ⟨p, l', e, R', s, m, args, below, meth, c, nL'⟩ := Γ
  obtain ⟨hx, hb, hml, hown, hts, hKK, hlk, rfl, rfl, rfl⟩ := h
  intro H locs ls hP hz hS hl
  subst hs
  obtain ⟨y1, y2, y3, y4, y5⟩ := hY
  exact va_calll (va_runV (As := As) (rest := stk) ⟨hx, hb, hml, hown, hts⟩ hM ⟨⟨rfl, rfl, hR.1, hR.2.1, gW_pay hts y2, List.mem_cons_self, hts _ y2, hts _ y1, ⟨y3, y4⟩, fun sig hh => by rw [hh] at y5; exact (Option.some.inj y5).symm, hts _ hl1⟩, hts _ hl2, hts _ hl3⟩ ⟨sPc_blind, by rw [← hC]; exact va_recv hKK.1 hP.1 hc (at_o ho ho.n hci), fun U hU hW => ⟨rfl, by rw [hU]; exact hP, KK_warm hKK hW hS hU⟩⟩ rfl hlen hl.1 rfl (lv_room hst) hdg ⟨hR.2.2.1, hR.2.2.2⟩) hS (fun _ _ q => q) (fun _ q => q) (fun v u t H1 locs1 ht hvm hw hB hz1 hk1 hS1 => by
    obtain ⟨i', r'⟩ := u
    obtain ⟨g2, g3, g4⟩ := hw
    have hB : sH Δ 504 i' r' t.heap := hB
    rw [ht] at hB
    exact kk v i' r' g2 g3 g4 H1 locs1 ls hB (fun q => by cases q) hS1 hl)
theorem V.callVNl {y : MethodName} {bytes : ByteArray} {maxL fr lo na ix : Nat} {ret : Option FieldType} {host : String} {Qp : Int64 → MI → MI → Prop} {o : Int} {ci : Nat} {q : vw_C} (h : okG Γ Δ l R cc own nL) (hM : Met l y (Cond.code y bytes maxL ret :: gW) (sRm fr lo) (sPc Δ (.ref (sA Δ o) :: As) i r) (sQl Δ Qp) 0 0 (sFr Δ)) (hY : mY y bytes maxL ret na) (hl1 : Cond.methodLinkNest own ix y host ∈ gX) (hl2 : Cond.instanceMethod y ∈ gW) (hl3 : Cond.selects y.cls y y ∈ gW) (ho : isA o (ci, 0)) (hci : ci < 20) (hc : vwCl[ci]? = some q) (hC : q.1 = y.cls) (hR : fr + 1 ≤ R.frames ∧ 8 + (maxL + 11) + lo ≤ R.locals ∧ kc ≤ R.cells ∧ sl ≤ R.slots) (hlen : As.length = na) (hst : (stk.map fun v => v.category).sum ≤ 8) (hdg : decode cc pc = .ok (.invokevirtual ix, 3)) (hs : st0 = As.reverse ++ .ref (sA Δ o) :: stk) (kk : ∀ (x : Int64) (i' r' : MI), okI i' → Wf r' → Qp x i' r' → V Γ Δ 504 false i' r' kc sl Q (pc + 3) lv (.long x :: stk)) : V Γ Δ 504 false i r kc sl Q (pc) lv (st0) := by
  obtain ⟨p, l', e, R', s, m, args, below, meth, c, nL'⟩ := Γ
  obtain ⟨hx, hb, hml, hown, hts, hKK, hlk, rfl, rfl, rfl⟩ := h
  intro H locs ls hP hz hS hl
  subst hs
  obtain ⟨y1, y2, y3, y4, y5⟩ := hY
  exact va_calll (va_runVN (As := As) (rest := stk) ⟨hx, hb, hml, hown, hts⟩ hM ⟨⟨⟨rfl, rfl, hR.1, hR.2.1, gW_pay hts y2, List.mem_cons_self⟩, hts _ y2, hts _ y1, ⟨y3, y4⟩, fun sig hh => by rw [hh] at y5; exact (Option.some.inj y5).symm, va_Nw.use rfl (hKK.2.2.2.2.1 _ hl1)⟩, hts _ hl2, hts _ hl3⟩ ⟨sPc_blind, by rw [← hC]; exact va_recv hKK.1 hP.1 hc (at_o ho ho.n hci), fun U hU hW => ⟨rfl, by rw [hU]; exact hP, KK_warm hKK hW hS hU⟩⟩ rfl hlen hl.1 rfl (lv_room hst) hdg ⟨hR.2.2.1, hR.2.2.2⟩) hS (fun _ _ q => q) (fun _ q => q) (fun v u t H1 locs1 ht hvm hw hB hz1 hk1 hS1 => by
    obtain ⟨i', r'⟩ := u
    obtain ⟨g2, g3, g4⟩ := hw
    have hB : sH Δ 504 i' r' t.heap := hB
    rw [ht] at hB
    exact kk v i' r' g2 g3 g4 H1 locs1 ls hB (fun q => by cases q) hS1 hl)
theorem V.callSl {y : MethodName} {bytes : ByteArray} {maxL fr lo na ix : Nat} {ret : Option FieldType} {Qp : Int64 → MI → MI → Prop} (h : okG Γ Δ l R cc own nL) (hM : Met l y (Cond.code y bytes maxL ret :: gW) (sRm fr lo) (sPc Δ As i r) (sQl Δ Qp) 0 0 (sFr Δ)) (hY : mY y bytes maxL ret na) (hl1 : Cond.methodLink own ix y ∈ gW) (hl2 : Cond.static y ∈ gW) (hR : fr + 1 ≤ R.frames ∧ 8 + (maxL + 11) + lo ≤ R.locals ∧ kc ≤ R.cells ∧ sl ≤ R.slots) (hlen : As.length = na) (hst : (stk.map fun v => v.category).sum ≤ 8) (hdg : decode cc pc = .ok (.invokestatic ix, 3)) (hs : st0 = As.reverse ++ stk) (kk : ∀ (x : Int64) (i' r' : MI), okI i' → Wf r' → Qp x i' r' → V Γ Δ 504 false i' r' kc sl Q (pc + 3) lv (.long x :: stk)) : V Γ Δ 504 false i r kc sl Q (pc) lv (st0) := by
  obtain ⟨p, l', e, R', s, m, args, below, meth, c, nL'⟩ := Γ
  obtain ⟨hx, hb, hml, hown, hts, hKK, hlk, rfl, rfl, rfl⟩ := h
  intro H locs ls hP hz hS hl
  subst hs
  obtain ⟨y1, y2, y3, y4, y5⟩ := hY
  exact va_calll (va_runS (As := As) (rest := stk) ⟨hx, hb, hml, hown, hts⟩ hM ⟨⟨rfl, rfl, hR.1, hR.2.1, gW_pay hts y2, List.mem_cons_self, hts _ y2, hts _ y1, ⟨y3, y4⟩, fun sig hh => by rw [hh] at y5; exact (Option.some.inj y5).symm, hts _ hl1⟩, hts _ hl2⟩ ⟨sPc_blind, fun U hU hW => ⟨rfl, by rw [hU]; exact hP, KK_warm hKK hW hS hU⟩⟩ rfl hlen hl.1 rfl (lv_room hst) hdg ⟨hR.2.2.1, hR.2.2.2⟩) hS (fun _ _ q => q) (fun _ q => q) (fun v u t H1 locs1 ht hvm hw hB hz1 hk1 hS1 => by
    obtain ⟨i', r'⟩ := u
    obtain ⟨g2, g3, g4⟩ := hw
    have hB : sH Δ 504 i' r' t.heap := hB
    rw [ht] at hB
    exact kk v i' r' g2 g3 g4 H1 locs1 ls hB (fun q => by cases q) hS1 hl)
theorem V.callSNl {y : MethodName} {bytes : ByteArray} {maxL fr lo na ix : Nat} {ret : Option FieldType} {host : String} {Qp : Int64 → MI → MI → Prop} (h : okG Γ Δ l R cc own nL) (hM : Met l y (Cond.code y bytes maxL ret :: gW) (sRm fr lo) (sPc Δ As i r) (sQl Δ Qp) 0 0 (sFr Δ)) (hY : mY y bytes maxL ret na) (hl1 : Cond.methodLinkNest own ix y host ∈ gX) (hl2 : Cond.static y ∈ gW) (hR : fr + 1 ≤ R.frames ∧ 8 + (maxL + 11) + lo ≤ R.locals ∧ kc ≤ R.cells ∧ sl ≤ R.slots) (hlen : As.length = na) (hst : (stk.map fun v => v.category).sum ≤ 8) (hdg : decode cc pc = .ok (.invokestatic ix, 3)) (hs : st0 = As.reverse ++ stk) (kk : ∀ (x : Int64) (i' r' : MI), okI i' → Wf r' → Qp x i' r' → V Γ Δ 504 false i' r' kc sl Q (pc + 3) lv (.long x :: stk)) : V Γ Δ 504 false i r kc sl Q (pc) lv (st0) := by
  obtain ⟨p, l', e, R', s, m, args, below, meth, c, nL'⟩ := Γ
  obtain ⟨hx, hb, hml, hown, hts, hKK, hlk, rfl, rfl, rfl⟩ := h
  intro H locs ls hP hz hS hl
  subst hs
  obtain ⟨y1, y2, y3, y4, y5⟩ := hY
  exact va_calll (va_runSN (As := As) (rest := stk) ⟨hx, hb, hml, hown, hts⟩ hM ⟨⟨⟨rfl, rfl, hR.1, hR.2.1, gW_pay hts y2, List.mem_cons_self⟩, hts _ y2, hts _ y1, ⟨y3, y4⟩, fun sig hh => by rw [hh] at y5; exact (Option.some.inj y5).symm, va_Nw.use rfl (hKK.2.2.2.2.1 _ hl1)⟩, hts _ hl2, trivial⟩ ⟨sPc_blind, fun U hU hW => ⟨rfl, by rw [hU]; exact hP, KK_warm hKK hW hS hU⟩⟩ rfl hlen hl.1 rfl (lv_room hst) hdg ⟨hR.2.2.1, hR.2.2.2⟩) hS (fun _ _ q => q) (fun _ q => q) (fun v u t H1 locs1 ht hvm hw hB hz1 hk1 hS1 => by
    obtain ⟨i', r'⟩ := u
    obtain ⟨g2, g3, g4⟩ := hw
    have hB : sH Δ 504 i' r' t.heap := hB
    rw [ht] at hB
    exact kk v i' r' g2 g3 g4 H1 locs1 ls hB (fun q => by cases q) hS1 hl)
theorem V.callVSl {y : MethodName} {bytes : ByteArray} {maxL fr lo na ix : Nat} {ret : Option FieldType} {Qp : Int64 → MI → MI → Prop} {k : Nat} (h : okG Γ Δ l R cc own nL) (hM : Met l y (Cond.code y bytes maxL ret :: gW) (sRm fr lo) (sPc Δ (.ref (aK Δ k) :: As) i r) (sQl Δ Qp) 0 0 (sFr Δ)) (hY : mY y bytes maxL ret na) (hl1 : Cond.methodLink own ix y ∈ gW) (hl2 : Cond.instanceMethod y ∈ gW) (hl3 : Cond.selects y.cls y y ∈ gW) (hk : k < 13) (hC : "java/lang/String" = y.cls) (hR : fr + 1 ≤ R.frames ∧ 8 + (maxL + 11) + lo ≤ R.locals ∧ kc ≤ R.cells ∧ sl ≤ R.slots) (hlen : As.length = na) (hst : (stk.map fun v => v.category).sum ≤ 8) (hdg : decode cc pc = .ok (.invokevirtual ix, 3)) (hs : st0 = As.reverse ++ .ref (aK Δ k) :: stk) (kk : ∀ (x : Int64) (i' r' : MI), okI i' → Wf r' → Qp x i' r' → V Γ Δ 504 false i' r' kc sl Q (pc + 3) lv (.long x :: stk)) : V Γ Δ 504 false i r kc sl Q (pc) lv (st0) := by
  obtain ⟨p, l', e, R', s, m, args, below, meth, c, nL'⟩ := Γ
  obtain ⟨hx, hb, hml, hown, hts, hKK, hlk, rfl, rfl, rfl⟩ := h
  intro H locs ls hP hz hS hl
  subst hs
  obtain ⟨y1, y2, y3, y4, y5⟩ := hY
  exact va_calll (va_runV (As := As) (rest := stk) ⟨hx, hb, hml, hown, hts⟩ hM ⟨⟨rfl, rfl, hR.1, hR.2.1, gW_pay hts y2, List.mem_cons_self, hts _ y2, hts _ y1, ⟨y3, y4⟩, fun sig hh => by rw [hh] at y5; exact (Option.some.inj y5).symm, hts _ hl1⟩, hts _ hl2, hts _ hl3⟩ ⟨sPc_blind, by rw [← hC]; exact vk_recv hKK.2.1 hk hS, fun U hU hW => ⟨rfl, by rw [hU]; exact hP, KK_warm hKK hW hS hU⟩⟩ rfl hlen hl.1 rfl (lv_room hst) hdg ⟨hR.2.2.1, hR.2.2.2⟩) hS (fun _ _ q => q) (fun _ q => q) (fun v u t H1 locs1 ht hvm hw hB hz1 hk1 hS1 => by
    obtain ⟨i', r'⟩ := u
    obtain ⟨g2, g3, g4⟩ := hw
    have hB : sH Δ 504 i' r' t.heap := hB
    rw [ht] at hB
    exact kk v i' r' g2 g3 g4 H1 locs1 ls hB (fun q => by cases q) hS1 hl)
end VCALLS
