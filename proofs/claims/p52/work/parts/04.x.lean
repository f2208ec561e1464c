/-! ===== longs; throwing ===== -/
def sPutJ (i : Nat) (v : Value) (lv : List (Nat × Value)) : List (Nat × Value) := (i, v) :: lv.filter (fun q => !(q.1 == i) && (!(q.1 == i + 1) && !(q.1 + 1 == i && q.2.category == 2)))
section VLONG
variable {Γ : Cx} {Δ : Wd} {l : Launch} {R : Room} {n : Nat} {ex : Bool} {i r : MI} {kc sl : Nat} {Q : State → Prop} {pc : Nat} {lv lv' : List (Nat × Value)} {stk : List Value} {cc : ByteArray} {own : String} {nL : Nat}
theorem V.lconst {a : Fin 2} {x : Int64} (h : okG Γ Δ l R cc own nL) (hdg : decode cc pc = .ok (.lconst a, 1)) (hv : Int64.ofNat (a : Nat) = x) (kk : V Γ Δ n ex i r kc sl Q (pc + 1) lv (.long x :: stk)) : V Γ Δ n ex i r kc sl Q (pc) lv stk := by
  obtain ⟨p, l', e, R', s, m, args, below, meth, c, nL'⟩ := Γ
  obtain ⟨hx, hb, hml, hown, hts, hKK, hlk, rfl, rfl, rfl⟩ := h
  intro H locs ls hP hz hS hl
  exact lv_lconst hx hb hdg hv (kk H locs ls hP hz hS hl)
theorem V.ldc2 {ix : Nat} {x : Int64} (h : okG Γ Δ l R cc own nL) (hc : Cond.constantLong own ix x ∈ gW) (hdg : decode cc pc = .ok (.ldc2_w ix, 3)) (kk : V Γ Δ n ex i r kc sl Q (pc + 3) lv (.long x :: stk)) : V Γ Δ n ex i r kc sl Q (pc) lv stk := by
  obtain ⟨p, l', e, R', s, m, args, below, meth, c, nL'⟩ := Γ
  obtain ⟨hx, hb, hml, hown, hts, hKK, hlk, rfl, rfl, rfl⟩ := h
  intro H locs ls hP hz hS hl
  exact lv_ldc2 hx hb hown (hts _ hc) hdg (kk H locs ls hP hz hS hl)
theorem V.lstore_n {j : Fin 4} {jn : Nat} {x : Int64} (h : okG Γ Δ l R cc own nL) (hdg : decode cc pc = .ok (.lstore_n j, 1)) (hj : (j : Nat) = jn) (hn : jn + 1 < nL) (hv : sPutJ jn (.long x) lv = lv') (kk : V Γ Δ n ex i r kc sl Q (pc + 1) lv' stk) : V Γ Δ n ex i r kc sl Q (pc) lv (.long x :: stk) := by
  obtain ⟨p, l', e, R', s, m, args, below, meth, c, nL'⟩ := Γ
  obtain ⟨hx, hb, hml, hown, hts, hKK, hlk, rfl, rfl, rfl⟩ := h
  intro H locs ls hP hz hS hl
  exact lv_lstore_n hx hb hdg hj hl hn hv (fun ls hl => kk H locs ls hP hz hS hl)
theorem V.lstore {j : Nat} {x : Int64} (h : okG Γ Δ l R cc own nL) (hdg : decode cc pc = .ok (.lstore j, 2)) (hn : j + 1 < nL) (hv : sPutJ j (.long x) lv = lv') (kk : V Γ Δ n ex i r kc sl Q (pc + 2) lv' stk) : V Γ Δ n ex i r kc sl Q (pc) lv (.long x :: stk) := by
  obtain ⟨p, l', e, R', s, m, args, below, meth, c, nL'⟩ := Γ
  obtain ⟨hx, hb, hml, hown, hts, hKK, hlk, rfl, rfl, rfl⟩ := h
  intro H locs ls hP hz hS hl
  exact lv_lstore hx hb hdg hl hn hv (fun ls hl => kk H locs ls hP hz hS hl)
theorem V.ladd {x y : Int64} (h : okG Γ Δ l R cc own nL) (hdg : decode cc pc = .ok (.ladd, 1)) (kk : V Γ Δ n ex i r kc sl Q (pc + 1) lv (.long (x + y) :: stk)) : V Γ Δ n ex i r kc sl Q (pc) lv (.long y :: .long x :: stk) := by
  obtain ⟨p, l', e, R', s, m, args, below, meth, c, nL'⟩ := Γ
  obtain ⟨hx, hb, hml, hown, hts, hKK, hlk, rfl, rfl, rfl⟩ := h
  intro H locs ls hP hz hS hl
  exact lv_ladd hx hb hdg (kk H locs ls hP hz hS hl)
theorem V.lmul {x y : Int64} (h : okG Γ Δ l R cc own nL) (hdg : decode cc pc = .ok (.lmul, 1)) (kk : V Γ Δ n ex i r kc sl Q (pc + 1) lv (.long (x * y) :: stk)) : V Γ Δ n ex i r kc sl Q (pc) lv (.long y :: .long x :: stk) := by
  obtain ⟨p, l', e, R', s, m, args, below, meth, c, nL'⟩ := Γ
  obtain ⟨hx, hb, hml, hown, hts, hKK, hlk, rfl, rfl, rfl⟩ := h
  intro H locs ls hP hz hS hl
  exact lv_lmul hx hb hdg (kk H locs ls hP hz hS hl)
theorem V.i2l {x : Int} (h : okG Γ Δ l R cc own nL) (hdg : decode cc pc = .ok (.i2l, 1)) (kk : V Γ Δ n ex i r kc sl Q (pc + 1) lv (.long (sJ x).toInt64 :: stk)) : V Γ Δ n ex i r kc sl Q (pc) lv (.int (sJ x) :: stk) := by
  obtain ⟨p, l', e, R', s, m, args, below, meth, c, nL'⟩ := Γ
  obtain ⟨hx, hb, hml, hown, hts, hKK, hlk, rfl, rfl, rfl⟩ := h
  intro H locs ls hP hz hS hl
  exact lv_i2l hx hb hdg rfl (kk H locs ls hP hz hS hl)
theorem V.i2f {x : Int} (h : okG Γ Δ l R cc own nL) (hdg : decode cc pc = .ok (.i2f, 1)) (kk : V Γ Δ n ex i r kc sl Q (pc + 1) lv (.float (FP.i2f (sJ x)) :: stk)) : V Γ Δ n ex i r kc sl Q (pc) lv (.int (sJ x) :: stk) := by
  obtain ⟨p, l', e, R', s, m, args, below, meth, c, nL'⟩ := Γ
  obtain ⟨hx, hb, hml, hown, hts, hKK, hlk, rfl, rfl, rfl⟩ := h
  intro H locs ls hP hz hS hl
  exact lv_i2f hx hb hdg (kk H locs ls hP hz hS hl)
theorem V.i2d {x : Int} (h : okG Γ Δ l R cc own nL) (hdg : decode cc pc = .ok (.i2d, 1)) (kk : V Γ Δ n ex i r kc sl Q (pc + 1) lv (.double (FP.i2d (sJ x)) :: stk)) : V Γ Δ n ex i r kc sl Q (pc) lv (.int (sJ x) :: stk) := by
  obtain ⟨p, l', e, R', s, m, args, below, meth, c, nL'⟩ := Γ
  obtain ⟨hx, hb, hml, hown, hts, hKK, hlk, rfl, rfl, rfl⟩ := h
  intro H locs ls hP hz hS hl
  exact lv_i2d hx hb hdg (kk H locs ls hP hz hS hl)
theorem V.fdiv {x y : UInt32} (h : okG Γ Δ l R cc own nL) (hne : vf_n32 (FP.fdiv x y)) (hdg : decode cc pc = .ok (.fdiv, 1)) (kk : V Γ Δ n ex i r kc sl Q (pc + 1) lv (.float (FP.fdiv x y) :: stk)) : V Γ Δ n ex i r kc sl Q (pc) lv (.float y :: .float x :: stk) := by
  obtain ⟨p, l', e, R', s, m, args, below, meth, c, nL'⟩ := Γ
  obtain ⟨hx, hb, hml, hown, hts, hKK, hlk, rfl, rfl, rfl⟩ := h
  intro H locs ls hP hz hS hl
  exact lv_fdiv hx hb hdg hne (kk H locs ls hP hz hS hl)
theorem V.ddiv {x y : UInt64} (h : okG Γ Δ l R cc own nL) (hne : vf_n64 (FP.ddiv x y)) (hdg : decode cc pc = .ok (.ddiv, 1)) (kk : V Γ Δ n ex i r kc sl Q (pc + 1) lv (.double (FP.ddiv x y) :: stk)) : V Γ Δ n ex i r kc sl Q (pc) lv (.double y :: .double x :: stk) := by
  obtain ⟨p, l', e, R', s, m, args, below, meth, c, nL'⟩ := Γ
  obtain ⟨hx, hb, hml, hown, hts, hKK, hlk, rfl, rfl, rfl⟩ := h
  intro H locs ls hP hz hS hl
  exact lv_ddiv hx hb hdg hne (kk H locs ls hP hz hS hl)
theorem V.f2d {x : UInt32} (h : okG Γ Δ l R cc own nL) (hne : vf_n64 (FP.f2d x)) (hdg : decode cc pc = .ok (.f2d, 1)) (kk : V Γ Δ n ex i r kc sl Q (pc + 1) lv (.double (FP.f2d x) :: stk)) : V Γ Δ n ex i r kc sl Q (pc) lv (.float x :: stk) := by
  obtain ⟨p, l', e, R', s, m, args, below, meth, c, nL'⟩ := Γ
  obtain ⟨hx, hb, hml, hown, hts, hKK, hlk, rfl, rfl, rfl⟩ := h
  intro H locs ls hP hz hS hl
  exact lv_f2d hx hb hdg hne (kk H locs ls hP hz hS hl)
theorem V.fconst0  (h : okG Γ Δ l R cc own nL) (hdg : decode cc pc = .ok (.fconst 0, 1)) (kk : V Γ Δ n ex i r kc sl Q (pc + 1) lv (.float FP.fconst0 :: stk)) : V Γ Δ n ex i r kc sl Q (pc) lv stk := by
  obtain ⟨p, l', e, R', s, m, args, below, meth, c, nL'⟩ := Γ
  obtain ⟨hx, hb, hml, hown, hts, hKK, hlk, rfl, rfl, rfl⟩ := h
  intro H locs ls hP hz hS hl
  exact lv_fconst0 hx hb hdg (kk H locs ls hP hz hS hl)
theorem V.dconst0  (h : okG Γ Δ l R cc own nL) (hdg : decode cc pc = .ok (.dconst 0, 1)) (kk : V Γ Δ n ex i r kc sl Q (pc + 1) lv (.double FP.dconst0 :: stk)) : V Γ Δ n ex i r kc sl Q (pc) lv stk := by
  obtain ⟨p, l', e, R', s, m, args, below, meth, c, nL'⟩ := Γ
  obtain ⟨hx, hb, hml, hown, hts, hKK, hlk, rfl, rfl, rfl⟩ := h
  intro H locs ls hP hz hS hl
  exact lv_dconst0 hx hb hdg (kk H locs ls hP hz hS hl)
theorem V.lcmp {x y : Int64} (h : okG Γ Δ l R cc own nL) (hdg : decode cc pc = .ok (.lcmp, 1)) (kk : V Γ Δ n ex i r kc sl Q (pc + 1) lv (.int (sJ (lg_cmp x y).toInt) :: stk)) : V Γ Δ n ex i r kc sl Q (pc) lv (.long y :: .long x :: stk) := by
  obtain ⟨p, l', e, R', s, m, args, below, meth, c, nL'⟩ := Γ
  obtain ⟨hx, hb, hml, hown, hts, hKK, hlk, rfl, rfl, rfl⟩ := h
  intro H locs ls hP hz hS hl
  exact W.lcmp hx hb hdg (by have kk := kk H locs ls hP hz hS hl; rw [sJ_of] at kk; exact kk)
theorem V.dcmp {x y : UInt64} {op : CmpOp} (h : okG Γ Δ l R cc own nL) (hdg : decode cc pc = .ok (.dcmp op, 1)) (kk : V Γ Δ n ex i r kc sl Q (pc + 1) lv (.int (sJ (Op.cmpValue (FP.dcmp x y) op).toInt) :: stk)) : V Γ Δ n ex i r kc sl Q (pc) lv (.double y :: .double x :: stk) := by
  obtain ⟨p, l', e, R', s, m, args, below, meth, c, nL'⟩ := Γ
  obtain ⟨hx, hb, hml, hown, hts, hKK, hlk, rfl, rfl, rfl⟩ := h
  intro H locs ls hP hz hS hl
  exact lv_dcmp hx hb hdg (by have kk := kk H locs ls hP hz hS hl; rw [sJ_of] at kk; exact kk)
theorem V.fcmp {x y : UInt32} {op : CmpOp} (h : okG Γ Δ l R cc own nL) (hdg : decode cc pc = .ok (.fcmp op, 1)) (kk : V Γ Δ n ex i r kc sl Q (pc + 1) lv (.int (sJ (Op.cmpValue (FP.fcmp x y) op).toInt) :: stk)) : V Γ Δ n ex i r kc sl Q (pc) lv (.float y :: .float x :: stk) := by
  obtain ⟨p, l', e, R', s, m, args, below, meth, c, nL'⟩ := Γ
  obtain ⟨hx, hb, hml, hown, hts, hKK, hlk, rfl, rfl, rfl⟩ := h
  intro H locs ls hP hz hS hl
  exact lv_fcmp hx hb hdg (by have kk := kk H locs ls hP hz hS hl; rw [sJ_of] at kk; exact kk)
theorem V.fstore {j : Nat} {x : UInt32} (h : okG Γ Δ l R cc own nL) (hdg : decode cc pc = .ok (.fstore j, 2)) (hn : j < nL) (hv : sPut j (.float x) lv = lv') (kk : V Γ Δ n ex i r kc sl Q (pc + 2) lv' stk) : V Γ Δ n ex i r kc sl Q (pc) lv (.float x :: stk) := by
  obtain ⟨p, l', e, R', s, m, args, below, meth, c, nL'⟩ := Γ
  obtain ⟨hx, hb, hml, hown, hts, hKK, hlk, rfl, rfl, rfl⟩ := h
  intro H locs ls hP hz hS hl
  exact lv_fstore hx hb hdg hl hn hv (fun ls hl => kk H locs ls hP hz hS hl)
theorem V.dstore {j : Nat} {x : UInt64} (h : okG Γ Δ l R cc own nL) (hdg : decode cc pc = .ok (.dstore j, 2)) (hn : j + 1 < nL) (hv : sPutJ j (.double x) lv = lv') (kk : V Γ Δ n ex i r kc sl Q (pc + 2) lv' stk) : V Γ Δ n ex i r kc sl Q (pc) lv (.double x :: stk) := by
  obtain ⟨p, l', e, R', s, m, args, below, meth, c, nL'⟩ := Γ
  obtain ⟨hx, hb, hml, hown, hts, hKK, hlk, rfl, rfl, rfl⟩ := h
  intro H locs ls hP hz hS hl
  exact lv_dstore hx hb hdg hl hn hv (fun ls hl => kk H locs ls hP hz hS hl)
theorem fdiv_ok {n m : Int} (hs : sR m) (hm : ¬ m = 0) : vf_n32 (FP.fdiv (FP.i2f (sJ n)) (FP.i2f (sJ m))) := by
  have h1 := FP.Core.i2f_mag (sJ n)
  have h2 := FP.Core.i2f_big (v := sJ m) (by rw [sJ_toInt hs]; exact hm)
  have h3 := FP.Core.fdiv_mag (K := 160) (L := 127) h1 h2.1 h2.2 (by decide) (by decide)
  unfold vf_n32
  show FP.Core.fdiv (FP.Core.i2f (sJ n)) (FP.Core.i2f (sJ m)) &&& 0x7fffffff ≤ 0x7f800000
  rw [UInt32.le_iff_toNat_le, UInt32.toNat_and]
  rw [show (0x7fffffff : UInt32).toNat = 2 ^ 31 - 1 from rfl, Nat.and_two_pow_sub_one_eq_mod]
  rw [show (0x7f800000 : UInt32).toNat = 255 * 2 ^ 23 from rfl]
  omega
theorem ddiv_ok {n m : Int} (hs : sR m) (hm : ¬ m = 0) : vf_n64 (FP.ddiv (FP.i2d (sJ n)) (FP.i2d (sJ m))) := by
  have h1 := FP.Core.i2d_mag (sJ n)
  have h2 := FP.Core.i2d_big (v := sJ m) (by rw [sJ_toInt hs]; exact hm)
  have h3 := FP.Core.ddiv_mag (K := 1056) (L := 1023) h1 h2.1 h2.2 (by decide) (by decide)
  unfold vf_n64
  show FP.Core.ddiv (FP.Core.i2d (sJ n)) (FP.Core.i2d (sJ m)) &&& 0x7fffffffffffffff ≤ 0x7ff0000000000000
  rw [UInt64.le_iff_toNat_le, UInt64.toNat_and]
  rw [show (0x7fffffffffffffff : UInt64).toNat = 2 ^ 63 - 1 from rfl, Nat.and_two_pow_sub_one_eq_mod]
  rw [show (0x7ff0000000000000 : UInt64).toNat = 2047 * 2 ^ 52 from rfl]
  omega
end VLONG
theorem sEnt_j {Δ : Wd} {z : Nat} {io ro : Int → Int} : sEnt Δ (23, z) io ro = .inl (Δ.2.2.1 3, z, .inr (.inl (fun j => jMk (io (2 * j)) (io (2 * j + 1))))) := by
  unfold sEnt
  rw [if_neg (by show ¬ (23 : Nat) < 20; decide), if_neg (by show ¬ (23 : Nat) < 23; decide), if_pos rfl]
theorem sEnt_d {Δ : Wd} {z : Nat} {io ro : Int → Int} : sEnt Δ (24, z) io ro = .inl (Δ.2.2.1 4, z, .inr (.inr (.inr (.inl (fun j => (jMk (io (2 * j)) (io (2 * j + 1))).toUInt64))))) := by
  unfold sEnt
  rw [if_neg (by show ¬ (24 : Nat) < 20; decide), if_neg (by show ¬ (24 : Nat) < 23; decide), if_neg (by show ¬ (24 : Nat) = 23; decide), if_pos rfl]
theorem st2_row {i : MI} {o x y : Int} {a : Int} (h : ¬ a = o) : st (st i o 0 x) o 1 y a = i a := by rw [st_row h, st_row h]
theorem st2_jmk {i : MI} {o : Int} {v : Int64} (j : Nat) : jMk (st (st i o 0 (jLo v)) o 1 (jHi v) o (2 * (j : Int))) (st (st i o 0 (jLo v)) o 1 (jHi v) o (2 * (j : Int) + 1)) = if j = 0 then v else jMk (i o (2 * (j : Int))) (i o (2 * (j : Int) + 1)) := by
  by_cases h : j = 0
  · subst h
    rw [if_pos rfl, st_ne (by omega)]
    show jMk (st i o 0 (jLo v) o 0) (st (st i o 0 (jLo v)) o 1 (jHi v) o 1) = v
    rw [st_eq, st_eq]
    exact jMk_eq v
  · rw [if_neg h, st_ne (by omega), st_ne (by omega), st_ne (by omega), st_ne (by omega)]
theorem ws_j {Δ : Wd} {n : Nat} {i r : MI} {o : Int} {z : Nat} {v : Int64} (h : isA o (23, z)) (hn : o.toNat < n) :
    (sWs Δ n i r).set o.toNat (sA Δ o, .inl (Δ.2.2.1 3, z, .inr (.inl (vp_updL (fun j => jMk (i o (2 * j)) (i o (2 * j + 1))) 0 v)))) = sWs Δ n (st (st i o 0 (jLo v)) o 1 (jHi v)) r := by
  refine sWs_set hn ?_ (fun j hj => st2_row (fun q => hj (by omega))) (fun j _ => rfl)
  rw [h.2.2, sEnt_j, h.z]
  refine congrArg Sum.inl (congrArg (Prod.mk _) (congrArg (Prod.mk z) (congrArg (fun f => Sum.inr (Sum.inl f)) ?_)))
  funext j
  exact (st2_jmk j).symm
theorem ws_d {Δ : Wd} {n : Nat} {i r : MI} {o : Int} {z : Nat} {v : UInt64} (h : isA o (24, z)) (hn : o.toNat < n) :
    (sWs Δ n i r).set o.toNat (sA Δ o, .inl (Δ.2.2.1 4, z, .inr (.inr (.inr (.inl (vf_upd (fun j => (jMk (i o (2 * j)) (i o (2 * j + 1))).toUInt64) 0 v)))))) = sWs Δ n (st (st i o 0 (jLo v.toInt64)) o 1 (jHi v.toInt64)) r := by
  refine sWs_set hn ?_ (fun j hj => st2_row (fun q => hj (by omega))) (fun j _ => rfl)
  rw [h.2.2, sEnt_d, h.z]
  refine congrArg Sum.inl (congrArg (Prod.mk _) (congrArg (Prod.mk z) (congrArg (fun f => Sum.inr (Sum.inr (Sum.inr (Sum.inl f)))) ?_)))
  funext j
  show (if j = 0 then v else _) = _
  rw [st2_jmk j]
  by_cases q : j = 0
  · rw [if_pos q, if_pos q]; exact (UInt64.toUInt64_toInt64 v).symm
  · rw [if_neg q, if_neg q]
section VLAW
variable {Γ : Cx} {Δ : Wd} {l : Launch} {R : Room} {n : Nat} {i r : MI} {kc sl : Nat} {Q : State → Prop} {pc : Nat} {lv lv' : List (Nat × Value)} {stk : List Value} {cc : ByteArray} {own : String} {nL : Nat}
end VLAW
def sRx (fr lo mc ms : Nat) : Room := { frames := fr, cells := mc, slots := ms, locals := lo }
def sX (Δ : Wd) (Xp : String → MI → MI → Prop) : String → State → State → Prop := vx_X (fun u : MI × MI => okI u.1 ∧ Wf u.2) (fun E u t => Xp E u.1 u.2 ∧ sB Δ u t) (sFr Δ)
/-- a thrown exception of the class E over the frame -/
def VX (Γ : Cx) (Δ : Wd) (i r : MI) (kc sl : Nat) (Q : State → Prop) (pc : Nat) (lv : List (Nat × Value)) (stk : List Value) (E : String) : Prop := match Γ with
  | (p, l, e, R, s, m, args, below, meth, c, nL) => ∀ (H : Heap) (locs : List Loc) (ls : Array Slot) (q : Addr) (ce : Cell), sH Δ 504 i r H → va_S (sFr Δ) s.heap H locs → lv_has ls nL lv → H[q]? = some ce → ce.vm = .none → s.vm.findClass E = some ce.cls → vx_W p l e R s m args below meth c H locs kc sl Q (F0 m pc ls stk) q
abbrev thN : List String := ["java/lang/RuntimeException", "java/lang/Exception"]
/-- what 'throw new E("text")' at pc wants -/
def thOk (cc : ByteArray) (own : String) (pc : Nat) (cls : String) : Prop := ∃ (ik is ic : Nat) (text : String), Bundle.fit cls = true ∧ Cond.classLink own ik cls ∈ gW ∧ Cond.initialized cls ∈ gW ∧ (own, is, text) ∈ sMS ∧ ((∀ w ∈ vx_atS own ic cls thN, w ∈ gW ∨ w ∈ gX) ∨ (∃ (ix : Nat) (rx : ByteArray), (decode rx 0 = .ok (.aload_n 0, 1) ∧ decode rx 1 = .ok (.aload_n 1, 1) ∧ decode rx 2 = .ok (.invokespecial ix, 3) ∧ decode rx 5 = .ok (.return_, 1)) ∧ ∀ w ∈ nzA own ic cls ix rx thN, w ∈ gW ∨ w ∈ gX)) ∧
  decode cc pc = .ok (.new ik, 3) ∧ decode cc (pc + 3) = .ok (.dup, 1) ∧ ((decode cc (pc + 4) = .ok (.ldc is, 2) ∧ decode cc (pc + 6) = .ok (.invokespecial ic, 3) ∧ decode cc (pc + 9) = .ok (.athrow, 1)) ∨ (decode cc (pc + 4) = .ok (.ldc_w is, 3) ∧ decode cc (pc + 7) = .ok (.invokespecial ic, 3) ∧ decode cc (pc + 10) = .ok (.athrow, 1)))
theorem gWX_ot {w : Cond} (h : w ∈ gW ∨ w ∈ gX) : vx_ot w = true := by
  unfold vx_ot
  rcases h with h | h
  · rw [(List.mem_filter.mp h).2, Bool.or_true]
  · rw [gX_on (List.mem_filter.mp h).2, Bool.true_or]
theorem Cx.i {l : Launch} {Δ : Wd} {y : MethodName} {bytes : ByteArray} {maxL fr lo mc ms : Nat} {ret : Option FieldType} {av : List Value} {i r : MI} {ty : FieldType} {Qp : Int → MI → MI → Prop} {Xp : String → MI → MI → Prop} (hy : plainName y.cls = true) (hret : ret = some ty) (hlen : (lg_sl av).length ≤ maxL) (hst : l.stackTraces = false) (hfr : 5 < fr) (hlo : 82 ≤ lo) (walk : ∀ (Γ : Cx) (Q : State → Prop), okG Γ Δ l (sRx fr lo mc ms) bytes y.cls maxL → (∀ {pc : Nat} {lv : List (Nat × Value)} {x : Int} {i' r' : MI} {kc sl : Nat}, decode bytes pc = .ok (.ireturn, 1) → sR x → narrow ty (.int (sJ x)) = .int (sJ x) → kc ≤ mc → sl ≤ ms → okI i' → Wf r' → Qp x i' r' → V Γ Δ 504 false i' r' kc sl Q pc lv [.int (sJ x)]) → (∀ {pc : Nat} {lv : List (Nat × Value)} {stk : List Value} {i' r' : MI} {kc sl : Nat} {E : String}, kc ≤ mc → sl ≤ ms → okI i' → Wf r' → Xp E i' r' → VX Γ Δ i' r' kc sl Q pc lv stk E) → (∀ {pc : Nat} {lv : List (Nat × Value)} {i' r' : MI} {kc sl : Nat} {cls : String}, thOk bytes y.cls pc cls → kc + 1 ≤ mc → sl + 6 ≤ ms → okI i' → Wf r' → Xp cls i' r' → V Γ Δ 504 false i' r' kc sl Q pc lv []) → V Γ Δ 504 false i r 0 0 Q 0 (lv_args 0 av) []) : vx_Met l y (Cond.code y bytes maxL ret :: gW) (sRx fr lo mc ms) (sPc Δ av i r) (sQi Δ Qp) (sX Δ Xp) mc ms (sFr Δ) := by
  refine vx_ofW (cc := bytes) (maxL := maxL) (ret := ret) hy rfl ?_
  intro p e s m args below meth c s₁ B hml ht hv
  obtain ⟨rfl, hP, hKK⟩ := hv
  have hts := atoms_spec (ws := Cond.code y bytes maxL ret :: gW) B.pre
  have hown : s.vm.findClass y.cls = some m.cls := findClass_of_methodNamed B.named
  have hlk : meth.locks = false := B.notSynchronized
  have hx := B.exec
  have hb := B.bytes
  have hr := B.returns
  have hl := lv_entry av (n := maxL) hlen
  rw [lg_entry_eq]
  generalize (lg_sl av ++ List.replicate (maxL - (lg_sl av).length) Slot.unset).toArray = ls at hl ⊢
  have hts' : ∀ w ∈ gW, w.before av.toArray s = true := fun w hw => hts w (List.mem_cons_of_mem _ hw)
  have hG : okG (p, l, e, sRx fr lo mc ms, s, m, av.toArray, below, meth, c, maxL) Δ l (sRx fr lo mc ms) bytes y.cls maxL := ⟨hx, hb, hml, hown, hts', hKK, hlk, rfl, rfl, rfl⟩
  refine walk _ _ hG ?_ ?_ ?_ s.heap [] ls hP (fun q => by cases q) va_S.rf hl
  · intro pc lv x i' r' kc sl hdg hsx hnar hkc hsl hi hw hq H locs ls hP hz hS hl
    exact W.widen hkc hsl (vx_ret (W.zret (v := sJ x) hx hb (hr.trans hret) hnar (fun t ht hW => ⟨⟨sJ x, (x, i', r'), rfl, ⟨rfl, hsx, hi, hw, hq⟩, by rw [← ht] at hP; exact hP⟩, hS.F ht⟩) hS.2.2 hdg hlk))
  · intro pc lv stk i' r' kc sl E hkc hsl hi hw hxp H locs ls q ce hP hS hl hq hv hcl
    exact vx_out (fun x hx => (ht x hx).elim) hlk hq hv hcl (fun t ht' hal => ⟨(i', r'), ⟨hi, hw⟩, ⟨hxp, by rw [← ht'] at hP; exact hP⟩, hS.F ht'⟩) hS.2.2 hkc hsl
  · intro pc lv i' r' kc sl cls hth hkc hsl hi hw hxp H locs ls hP hz hS hl
    obtain ⟨ik, is, ic, text, t1, t2, t3, t4, t5, d0, d3, dd⟩ := hth
    obtain ⟨sa, hsa⟩ := hKK.2.2.2.2.2.2.2.2.1 _ t4
    have hats : ∀ {L : List Cond}, (∀ w ∈ L, w ∈ gW ∨ w ∈ gX) → (∀ w ∈ L, w.before av.toArray s = true) ∧ (∀ w ∈ Cond.classLink y.cls ik cls :: Cond.initialized cls :: L, vx_ot w = true) := by
      intro L t5
      refine ⟨fun w hw => ?_, fun w hw => ?_⟩
      · rcases t5 w hw with h | h
        · exact hts' w h
        · exact va_Nw.use (gX_on (List.mem_filter.mp h).2) (hKK.2.2.2.2.1 w h)
      · rcases List.mem_cons.mp hw with rfl | hw
        · exact gWX_ot (Or.inl t2)
        · rcases List.mem_cons.mp hw with rfl | hw
          · exact gWX_ot (Or.inl t3)
          · exact gWX_ot (t5 w hw)
    rcases t5 with t5 | ⟨ix, rx, ⟨x0, x1, x2, x5⟩, t5⟩
    · obtain ⟨hat, hot⟩ := hats t5
      rcases dd with ⟨d4, d6, d9⟩ | ⟨d4, d6, d9⟩
      · exact vx_throwS hx hb hst (A := sFr Δ) (names := thN) hown t1 (by decide) (hts' _ t2) (hts' _ t3) hsa hat hot hKK.2.2.2.2.2.2.1 hKK.2.2.2.2.2.2.2.1 hS (hl.1.trans hml.symm) d0 d3 d4 d6 d9 (fun x hx => (ht x hx).elim) hfr hlo (by show kc + 1 ≤ mc; exact hkc) (by show sl + 6 ≤ ms; exact hsl) hlk (fun t hal hsz hkp => ⟨(i', r'), ⟨hi, hw⟩, ⟨hxp, hP.old hKK hkp⟩, ⟨Nat.le_trans hS.1 hsz, fun q h1 h2 => (hkp q (Nat.lt_of_lt_of_le h1 hS.1)).trans (hS.2.1 q h1 h2)⟩⟩) hS.2.2 hkc hsl
      · exact vx_throwSW hx hb hst (A := sFr Δ) (names := thN) hown t1 (by decide) (hts' _ t2) (hts' _ t3) hsa hat hot hKK.2.2.2.2.2.2.1 hKK.2.2.2.2.2.2.2.1 hS (hl.1.trans hml.symm) d0 d3 d4 d6 d9 (fun x hx => (ht x hx).elim) hfr hlo (by show kc + 1 ≤ mc; exact hkc) (by show sl + 6 ≤ ms; exact hsl) hlk (fun t hal hsz hkp => ⟨(i', r'), ⟨hi, hw⟩, ⟨hxp, hP.old hKK hkp⟩, ⟨Nat.le_trans hS.1 hsz, fun q h1 h2 => (hkp q (Nat.lt_of_lt_of_le h1 hS.1)).trans (hS.2.1 q h1 h2)⟩⟩) hS.2.2 hkc hsl
    · obtain ⟨hat, hot⟩ := hats t5
      rcases dd with ⟨d4, d6, d9⟩ | ⟨d4, d6, d9⟩
      · exact nz_throw (k := 2) (I := .ldc is) hx hb hst (A := sFr Δ) (names := thN) x0 x1 x2 x5 hown t1 (by decide) (hts' _ t2) (hts' _ t3) hsa hat hot hKK.2.2.2.2.2.2.1 hKK.2.2.2.2.2.2.2.1 hS (hl.1.trans hml.symm) d0 d3 ⟨Or.inl ⟨rfl, rfl⟩, d4⟩ d6 d9 (fun x hx => (ht x hx).elim) hfr hlo (by show kc + 1 ≤ mc; exact hkc) (by show sl + 6 ≤ ms; exact hsl) hlk (fun t hal hsz hkp => ⟨(i', r'), ⟨hi, hw⟩, ⟨hxp, hP.old hKK hkp⟩, ⟨Nat.le_trans hS.1 hsz, fun q h1 h2 => (hkp q (Nat.lt_of_lt_of_le h1 hS.1)).trans (hS.2.1 q h1 h2)⟩⟩) hS.2.2 hkc hsl
      · exact nz_throw (k := 3) (I := .ldc_w is) hx hb hst (A := sFr Δ) (names := thN) x0 x1 x2 x5 hown t1 (by decide) (hts' _ t2) (hts' _ t3) hsa hat hot hKK.2.2.2.2.2.2.1 hKK.2.2.2.2.2.2.2.1 hS (hl.1.trans hml.symm) d0 d3 ⟨Or.inr ⟨rfl, rfl⟩, d4⟩ d6 d9 (fun x hx => (ht x hx).elim) hfr hlo (by show kc + 1 ≤ mc; exact hkc) (by show sl + 6 ≤ ms; exact hsl) hlk (fun t hal hsz hkp => ⟨(i', r'), ⟨hi, hw⟩, ⟨hxp, hP.old hKK hkp⟩, ⟨Nat.le_trans hS.1 hsz, fun q h1 h2 => (hkp q (Nat.lt_of_lt_of_le h1 hS.1)).trans (hS.2.1 q h1 h2)⟩⟩) hS.2.2 hkc hsl

theorem Cx.v {l : Launch} {Δ : Wd} {y : MethodName} {bytes : ByteArray} {maxL fr lo mc ms : Nat} {ret : Option FieldType} {av : List Value} {i r : MI} {Qp : MI → MI → Prop} {Xp : String → MI → MI → Prop} (hy : plainName y.cls = true) (hret : ret = none) (hlen : (lg_sl av).length ≤ maxL) (hst : l.stackTraces = false) (hfr : 5 < fr) (hlo : 82 ≤ lo) (walk : ∀ (Γ : Cx) (Q : State → Prop), okG Γ Δ l (sRx fr lo mc ms) bytes y.cls maxL → (∀ {pc : Nat} {lv : List (Nat × Value)} {i' r' : MI} {kc sl : Nat}, decode bytes pc = .ok (.return_, 1) → kc ≤ mc → sl ≤ ms → okI i' → Wf r' → Qp i' r' → V Γ Δ 504 false i' r' kc sl Q pc lv []) → (∀ {pc : Nat} {lv : List (Nat × Value)} {stk : List Value} {i' r' : MI} {kc sl : Nat} {E : String}, kc ≤ mc → sl ≤ ms → okI i' → Wf r' → Xp E i' r' → VX Γ Δ i' r' kc sl Q pc lv stk E) → (∀ {pc : Nat} {lv : List (Nat × Value)} {i' r' : MI} {kc sl : Nat} {cls : String}, thOk bytes y.cls pc cls → kc + 1 ≤ mc → sl + 6 ≤ ms → okI i' → Wf r' → Xp cls i' r' → V Γ Δ 504 false i' r' kc sl Q pc lv []) → V Γ Δ 504 false i r 0 0 Q 0 (lv_args 0 av) []) : vx_Met l y (Cond.code y bytes maxL ret :: gW) (sRx fr lo mc ms) (sPc Δ av i r) (sQv Δ Qp) (sX Δ Xp) mc ms (sFr Δ) := by
  refine vx_ofW (cc := bytes) (maxL := maxL) (ret := ret) hy rfl ?_
  intro p e s m args below meth c s₁ B hml ht hv
  obtain ⟨rfl, hP, hKK⟩ := hv
  have hts := atoms_spec (ws := Cond.code y bytes maxL ret :: gW) B.pre
  have hown : s.vm.findClass y.cls = some m.cls := findClass_of_methodNamed B.named
  have hlk : meth.locks = false := B.notSynchronized
  have hx := B.exec
  have hb := B.bytes
  have hr := B.returns
  have hl := lv_entry av (n := maxL) hlen
  rw [lg_entry_eq]
  generalize (lg_sl av ++ List.replicate (maxL - (lg_sl av).length) Slot.unset).toArray = ls at hl ⊢
  have hts' : ∀ w ∈ gW, w.before av.toArray s = true := fun w hw => hts w (List.mem_cons_of_mem _ hw)
  have hG : okG (p, l, e, sRx fr lo mc ms, s, m, av.toArray, below, meth, c, maxL) Δ l (sRx fr lo mc ms) bytes y.cls maxL := ⟨hx, hb, hml, hown, hts', hKK, hlk, rfl, rfl, rfl⟩
  refine walk _ _ hG ?_ ?_ ?_ s.heap [] ls hP (fun q => by cases q) va_S.rf hl
  · intro pc lv i' r' kc sl hdg hkc hsl hi hw hq H locs ls hP hz hS hl
    exact W.widen hkc hsl (vx_ret (W.vret hx hb (hr.trans hret) (fun t ht hW => ⟨⟨(i', r'), rfl, ⟨hi, hw, hq⟩, by rw [← ht] at hP; exact hP⟩, hS.F ht⟩) hS.2.2 hdg hlk))
  · intro pc lv stk i' r' kc sl E hkc hsl hi hw hxp H locs ls q ce hP hS hl hq hv hcl
    exact vx_out (fun x hx => (ht x hx).elim) hlk hq hv hcl (fun t ht' hal => ⟨(i', r'), ⟨hi, hw⟩, ⟨hxp, by rw [← ht'] at hP; exact hP⟩, hS.F ht'⟩) hS.2.2 hkc hsl
  · intro pc lv i' r' kc sl cls hth hkc hsl hi hw hxp H locs ls hP hz hS hl
    obtain ⟨ik, is, ic, text, t1, t2, t3, t4, t5, d0, d3, dd⟩ := hth
    obtain ⟨sa, hsa⟩ := hKK.2.2.2.2.2.2.2.2.1 _ t4
    have hats : ∀ {L : List Cond}, (∀ w ∈ L, w ∈ gW ∨ w ∈ gX) → (∀ w ∈ L, w.before av.toArray s = true) ∧ (∀ w ∈ Cond.classLink y.cls ik cls :: Cond.initialized cls :: L, vx_ot w = true) := by
      intro L t5
      refine ⟨fun w hw => ?_, fun w hw => ?_⟩
      · rcases t5 w hw with h | h
        · exact hts' w h
        · exact va_Nw.use (gX_on (List.mem_filter.mp h).2) (hKK.2.2.2.2.1 w h)
      · rcases List.mem_cons.mp hw with rfl | hw
        · exact gWX_ot (Or.inl t2)
        · rcases List.mem_cons.mp hw with rfl | hw
          · exact gWX_ot (Or.inl t3)
          · exact gWX_ot (t5 w hw)
    rcases t5 with t5 | ⟨ix, rx, ⟨x0, x1, x2, x5⟩, t5⟩
    · obtain ⟨hat, hot⟩ := hats t5
      rcases dd with ⟨d4, d6, d9⟩ | ⟨d4, d6, d9⟩
      · exact vx_throwS hx hb hst (A := sFr Δ) (names := thN) hown t1 (by decide) (hts' _ t2) (hts' _ t3) hsa hat hot hKK.2.2.2.2.2.2.1 hKK.2.2.2.2.2.2.2.1 hS (hl.1.trans hml.symm) d0 d3 d4 d6 d9 (fun x hx => (ht x hx).elim) hfr hlo (by show kc + 1 ≤ mc; exact hkc) (by show sl + 6 ≤ ms; exact hsl) hlk (fun t hal hsz hkp => ⟨(i', r'), ⟨hi, hw⟩, ⟨hxp, hP.old hKK hkp⟩, ⟨Nat.le_trans hS.1 hsz, fun q h1 h2 => (hkp q (Nat.lt_of_lt_of_le h1 hS.1)).trans (hS.2.1 q h1 h2)⟩⟩) hS.2.2 hkc hsl
      · exact vx_throwSW hx hb hst (A := sFr Δ) (names := thN) hown t1 (by decide) (hts' _ t2) (hts' _ t3) hsa hat hot hKK.2.2.2.2.2.2.1 hKK.2.2.2.2.2.2.2.1 hS (hl.1.trans hml.symm) d0 d3 d4 d6 d9 (fun x hx => (ht x hx).elim) hfr hlo (by show kc + 1 ≤ mc; exact hkc) (by show sl + 6 ≤ ms; exact hsl) hlk (fun t hal hsz hkp => ⟨(i', r'), ⟨hi, hw⟩, ⟨hxp, hP.old hKK hkp⟩, ⟨Nat.le_trans hS.1 hsz, fun q h1 h2 => (hkp q (Nat.lt_of_lt_of_le h1 hS.1)).trans (hS.2.1 q h1 h2)⟩⟩) hS.2.2 hkc hsl
    · obtain ⟨hat, hot⟩ := hats t5
      rcases dd with ⟨d4, d6, d9⟩ | ⟨d4, d6, d9⟩
      · exact nz_throw (k := 2) (I := .ldc is) hx hb hst (A := sFr Δ) (names := thN) x0 x1 x2 x5 hown t1 (by decide) (hts' _ t2) (hts' _ t3) hsa hat hot hKK.2.2.2.2.2.2.1 hKK.2.2.2.2.2.2.2.1 hS (hl.1.trans hml.symm) d0 d3 ⟨Or.inl ⟨rfl, rfl⟩, d4⟩ d6 d9 (fun x hx => (ht x hx).elim) hfr hlo (by show kc + 1 ≤ mc; exact hkc) (by show sl + 6 ≤ ms; exact hsl) hlk (fun t hal hsz hkp => ⟨(i', r'), ⟨hi, hw⟩, ⟨hxp, hP.old hKK hkp⟩, ⟨Nat.le_trans hS.1 hsz, fun q h1 h2 => (hkp q (Nat.lt_of_lt_of_le h1 hS.1)).trans (hS.2.1 q h1 h2)⟩⟩) hS.2.2 hkc hsl
      · exact nz_throw (k := 3) (I := .ldc_w is) hx hb hst (A := sFr Δ) (names := thN) x0 x1 x2 x5 hown t1 (by decide) (hts' _ t2) (hts' _ t3) hsa hat hot hKK.2.2.2.2.2.2.1 hKK.2.2.2.2.2.2.2.1 hS (hl.1.trans hml.symm) d0 d3 ⟨Or.inr ⟨rfl, rfl⟩, d4⟩ d6 d9 (fun x hx => (ht x hx).elim) hfr hlo (by show kc + 1 ≤ mc; exact hkc) (by show sl + 6 ≤ ms; exact hsl) hlk (fun t hal hsz hkp => ⟨(i', r'), ⟨hi, hw⟩, ⟨hxp, hP.old hKK hkp⟩, ⟨Nat.le_trans hS.1 hsz, fun q h1 h2 => (hkp q (Nat.lt_of_lt_of_le h1 hS.1)).trans (hS.2.1 q h1 h2)⟩⟩) hS.2.2 hkc hsl

def sQf (Δ : Wd) (Qp : UInt32 → MI → MI → Prop) : Array Value → State → Outcome → State → Prop := va_Qf (fun (v : UInt32) (u : MI × MI) => okI u.1 ∧ Wf u.2 ∧ Qp v u.1 u.2) (sB Δ) (sFr Δ)
theorem Cx.f {l : Launch} {Δ : Wd} {y : MethodName} {bytes : ByteArray} {maxL fr lo mc ms : Nat} {ret : Option FieldType} {av : List Value} {i r : MI} {Qp : UInt32 → MI → MI → Prop} {Xp : String → MI → MI → Prop} (hy : plainName y.cls = true) (hret : ret = some .float) (hlen : (lg_sl av).length ≤ maxL) (hst : l.stackTraces = false) (hfr : 5 < fr) (hlo : 82 ≤ lo) (walk : ∀ (Γ : Cx) (Q : State → Prop), okG Γ Δ l (sRx fr lo mc ms) bytes y.cls maxL → (∀ {pc : Nat} {lv : List (Nat × Value)} {x : UInt32} {i' r' : MI} {kc sl : Nat}, decode bytes pc = .ok (.freturn, 1) → kc ≤ mc → sl ≤ ms → okI i' → Wf r' → Qp x i' r' → V Γ Δ 504 false i' r' kc sl Q pc lv [.float x]) → (∀ {pc : Nat} {lv : List (Nat × Value)} {stk : List Value} {i' r' : MI} {kc sl : Nat} {E : String}, kc ≤ mc → sl ≤ ms → okI i' → Wf r' → Xp E i' r' → VX Γ Δ i' r' kc sl Q pc lv stk E) → (∀ {pc : Nat} {lv : List (Nat × Value)} {i' r' : MI} {kc sl : Nat} {cls : String}, thOk bytes y.cls pc cls → kc + 1 ≤ mc → sl + 6 ≤ ms → okI i' → Wf r' → Xp cls i' r' → V Γ Δ 504 false i' r' kc sl Q pc lv []) → V Γ Δ 504 false i r 0 0 Q 0 (lv_args 0 av) []) : vx_Met l y (Cond.code y bytes maxL ret :: gW) (sRx fr lo mc ms) (sPc Δ av i r) (sQf Δ Qp) (sX Δ Xp) mc ms (sFr Δ) := by
  refine vx_ofW (cc := bytes) (maxL := maxL) (ret := ret) hy rfl ?_
  intro p e s m args below meth c s₁ B hml ht hv
  obtain ⟨rfl, hP, hKK⟩ := hv
  have hts := atoms_spec (ws := Cond.code y bytes maxL ret :: gW) B.pre
  have hown : s.vm.findClass y.cls = some m.cls := findClass_of_methodNamed B.named
  have hlk : meth.locks = false := B.notSynchronized
  have hx := B.exec
  have hb := B.bytes
  have hr := B.returns
  have hl := lv_entry av (n := maxL) hlen
  rw [lg_entry_eq]
  generalize (lg_sl av ++ List.replicate (maxL - (lg_sl av).length) Slot.unset).toArray = ls at hl ⊢
  have hts' : ∀ w ∈ gW, w.before av.toArray s = true := fun w hw => hts w (List.mem_cons_of_mem _ hw)
  have hG : okG (p, l, e, sRx fr lo mc ms, s, m, av.toArray, below, meth, c, maxL) Δ l (sRx fr lo mc ms) bytes y.cls maxL := ⟨hx, hb, hml, hown, hts', hKK, hlk, rfl, rfl, rfl⟩
  refine walk _ _ hG ?_ ?_ ?_ s.heap [] ls hP (fun q => by cases q) va_S.rf hl
  · intro pc lv x i' r' kc sl hdg hkc hsl hi hw hq H locs ls hP hz hS hl
    exact W.widen hkc hsl (vx_ret (W.fret (v := x) hx hb (hr.trans hret) (fun t ht hW => ⟨⟨x, (i', r'), rfl, ⟨hi, hw, hq⟩, by rw [← ht] at hP; exact hP⟩, hS.F ht⟩) hS.2.2 hdg hlk))
  · intro pc lv stk i' r' kc sl E hkc hsl hi hw hxp H locs ls q ce hP hS hl hq hv hcl
    exact vx_out (fun x hx => (ht x hx).elim) hlk hq hv hcl (fun t ht' hal => ⟨(i', r'), ⟨hi, hw⟩, ⟨hxp, by rw [← ht'] at hP; exact hP⟩, hS.F ht'⟩) hS.2.2 hkc hsl
  · intro pc lv i' r' kc sl cls hth hkc hsl hi hw hxp H locs ls hP hz hS hl
    obtain ⟨ik, is, ic, text, t1, t2, t3, t4, t5, d0, d3, dd⟩ := hth
    obtain ⟨sa, hsa⟩ := hKK.2.2.2.2.2.2.2.2.1 _ t4
    have hats : ∀ {L : List Cond}, (∀ w ∈ L, w ∈ gW ∨ w ∈ gX) → (∀ w ∈ L, w.before av.toArray s = true) ∧ (∀ w ∈ Cond.classLink y.cls ik cls :: Cond.initialized cls :: L, vx_ot w = true) := by
      intro L t5
      refine ⟨fun w hw => ?_, fun w hw => ?_⟩
      · rcases t5 w hw with h | h
        · exact hts' w h
        · exact va_Nw.use (gX_on (List.mem_filter.mp h).2) (hKK.2.2.2.2.1 w h)
      · rcases List.mem_cons.mp hw with rfl | hw
        · exact gWX_ot (Or.inl t2)
        · rcases List.mem_cons.mp hw with rfl | hw
          · exact gWX_ot (Or.inl t3)
          · exact gWX_ot (t5 w hw)
    rcases t5 with t5 | ⟨ix, rx, ⟨x0, x1, x2, x5⟩, t5⟩
    · obtain ⟨hat, hot⟩ := hats t5
      rcases dd with ⟨d4, d6, d9⟩ | ⟨d4, d6, d9⟩
      · exact vx_throwS hx hb hst (A := sFr Δ) (names := thN) hown t1 (by decide) (hts' _ t2) (hts' _ t3) hsa hat hot hKK.2.2.2.2.2.2.1 hKK.2.2.2.2.2.2.2.1 hS (hl.1.trans hml.symm) d0 d3 d4 d6 d9 (fun x hx => (ht x hx).elim) hfr hlo (by show kc + 1 ≤ mc; exact hkc) (by show sl + 6 ≤ ms; exact hsl) hlk (fun t hal hsz hkp => ⟨(i', r'), ⟨hi, hw⟩, ⟨hxp, hP.old hKK hkp⟩, ⟨Nat.le_trans hS.1 hsz, fun q h1 h2 => (hkp q (Nat.lt_of_lt_of_le h1 hS.1)).trans (hS.2.1 q h1 h2)⟩⟩) hS.2.2 hkc hsl
      · exact vx_throwSW hx hb hst (A := sFr Δ) (names := thN) hown t1 (by decide) (hts' _ t2) (hts' _ t3) hsa hat hot hKK.2.2.2.2.2.2.1 hKK.2.2.2.2.2.2.2.1 hS (hl.1.trans hml.symm) d0 d3 d4 d6 d9 (fun x hx => (ht x hx).elim) hfr hlo (by show kc + 1 ≤ mc; exact hkc) (by show sl + 6 ≤ ms; exact hsl) hlk (fun t hal hsz hkp => ⟨(i', r'), ⟨hi, hw⟩, ⟨hxp, hP.old hKK hkp⟩, ⟨Nat.le_trans hS.1 hsz, fun q h1 h2 => (hkp q (Nat.lt_of_lt_of_le h1 hS.1)).trans (hS.2.1 q h1 h2)⟩⟩) hS.2.2 hkc hsl
    · obtain ⟨hat, hot⟩ := hats t5
      rcases dd with ⟨d4, d6, d9⟩ | ⟨d4, d6, d9⟩
      · exact nz_throw (k := 2) (I := .ldc is) hx hb hst (A := sFr Δ) (names := thN) x0 x1 x2 x5 hown t1 (by decide) (hts' _ t2) (hts' _ t3) hsa hat hot hKK.2.2.2.2.2.2.1 hKK.2.2.2.2.2.2.2.1 hS (hl.1.trans hml.symm) d0 d3 ⟨Or.inl ⟨rfl, rfl⟩, d4⟩ d6 d9 (fun x hx => (ht x hx).elim) hfr hlo (by show kc + 1 ≤ mc; exact hkc) (by show sl + 6 ≤ ms; exact hsl) hlk (fun t hal hsz hkp => ⟨(i', r'), ⟨hi, hw⟩, ⟨hxp, hP.old hKK hkp⟩, ⟨Nat.le_trans hS.1 hsz, fun q h1 h2 => (hkp q (Nat.lt_of_lt_of_le h1 hS.1)).trans (hS.2.1 q h1 h2)⟩⟩) hS.2.2 hkc hsl
      · exact nz_throw (k := 3) (I := .ldc_w is) hx hb hst (A := sFr Δ) (names := thN) x0 x1 x2 x5 hown t1 (by decide) (hts' _ t2) (hts' _ t3) hsa hat hot hKK.2.2.2.2.2.2.1 hKK.2.2.2.2.2.2.2.1 hS (hl.1.trans hml.symm) d0 d3 ⟨Or.inr ⟨rfl, rfl⟩, d4⟩ d6 d9 (fun x hx => (ht x hx).elim) hfr hlo (by show kc + 1 ≤ mc; exact hkc) (by show sl + 6 ≤ ms; exact hsl) hlk (fun t hal hsz hkp => ⟨(i', r'), ⟨hi, hw⟩, ⟨hxp, hP.old hKK hkp⟩, ⟨Nat.le_trans hS.1 hsz, fun q h1 h2 => (hkp q (Nat.lt_of_lt_of_le h1 hS.1)).trans (hS.2.1 q h1 h2)⟩⟩) hS.2.2 hkc hsl

theorem Ct.f {l : Launch} {Δ : Wd} {y : MethodName} {bytes : ByteArray} {maxL fr lo : Nat} {ret : Option FieldType} {av : List Value} {i r : MI} {Qp : UInt32 → MI → MI → Prop} (hy : plainName y.cls = true) (hret : ret = some .float) (hlen : (lg_sl av).length ≤ maxL) (walk : ∀ (Γ : Cx) (Q : State → Prop), okG Γ Δ l (sRm fr lo) bytes y.cls maxL → (∀ {pc : Nat} {lv : List (Nat × Value)} {x : UInt32} {i' r' : MI}, decode bytes pc = .ok (.freturn, 1) → okI i' → Wf r' → Qp x i' r' → V Γ Δ 504 false i' r' 0 0 Q pc lv [.float x]) → V Γ Δ 504 false i r 0 0 Q 0 (lv_args 0 av) []) : Met l y (Cond.code y bytes maxL ret :: gW) (sRm fr lo) (sPc Δ av i r) (sQf Δ Qp) 0 0 (sFr Δ) := by
  refine Met.ofW (cc := bytes) (maxL := maxL) (ret := ret) hy rfl ?_
  intro p e s m args below meth c s₁ B hml hv
  obtain ⟨rfl, hP, hKK⟩ := hv
  have hts := atoms_spec (ws := Cond.code y bytes maxL ret :: gW) B.pre
  have hown : s.vm.findClass y.cls = some m.cls := findClass_of_methodNamed B.named
  have hlk : meth.locks = false := B.notSynchronized
  have hx := B.exec
  have hb := B.bytes
  have hr := B.returns
  have hl := lv_entry av (n := maxL) hlen
  rw [lg_entry_eq]
  generalize (lg_sl av ++ List.replicate (maxL - (lg_sl av).length) Slot.unset).toArray = ls at hl ⊢
  have hG : okG (p, l, e, sRm fr lo, s, m, av.toArray, below, meth, c, maxL) Δ l (sRm fr lo) bytes y.cls maxL := ⟨hx, hb, hml, hown, fun w hw => hts w (List.mem_cons_of_mem _ hw), hKK, hlk, rfl, rfl, rfl⟩
  refine walk _ _ hG ?_ s.heap [] ls hP (fun q => by cases q) va_S.rf hl
  intro pc lv x i' r' hdg hi hw hq H locs ls hP hz hS hl
  exact W.fret (v := x) hx hb (hr.trans hret) (fun t ht hW => ⟨⟨x, (i', r'), rfl, ⟨hi, hw, hq⟩, by rw [← ht] at hP; exact hP⟩, hS.F ht⟩) hS.2.2 hdg hlk
def sQd (Δ : Wd) (Qp : UInt64 → MI → MI → Prop) : Array Value → State → Outcome → State → Prop := va_Qd (fun (v : UInt64) (u : MI × MI) => okI u.1 ∧ Wf u.2 ∧ Qp v u.1 u.2) (sB Δ) (sFr Δ)
theorem Cx.d {l : Launch} {Δ : Wd} {y : MethodName} {bytes : ByteArray} {maxL fr lo mc ms : Nat} {ret : Option FieldType} {av : List Value} {i r : MI} {Qp : UInt64 → MI → MI → Prop} {Xp : String → MI → MI → Prop} (hy : plainName y.cls = true) (hret : ret = some .double) (hlen : (lg_sl av).length ≤ maxL) (hst : l.stackTraces = false) (hfr : 5 < fr) (hlo : 82 ≤ lo) (walk : ∀ (Γ : Cx) (Q : State → Prop), okG Γ Δ l (sRx fr lo mc ms) bytes y.cls maxL → (∀ {pc : Nat} {lv : List (Nat × Value)} {x : UInt64} {i' r' : MI} {kc sl : Nat}, decode bytes pc = .ok (.dreturn, 1) → kc ≤ mc → sl ≤ ms → okI i' → Wf r' → Qp x i' r' → V Γ Δ 504 false i' r' kc sl Q pc lv [.double x]) → (∀ {pc : Nat} {lv : List (Nat × Value)} {stk : List Value} {i' r' : MI} {kc sl : Nat} {E : String}, kc ≤ mc → sl ≤ ms → okI i' → Wf r' → Xp E i' r' → VX Γ Δ i' r' kc sl Q pc lv stk E) → (∀ {pc : Nat} {lv : List (Nat × Value)} {i' r' : MI} {kc sl : Nat} {cls : String}, thOk bytes y.cls pc cls → kc + 1 ≤ mc → sl + 6 ≤ ms → okI i' → Wf r' → Xp cls i' r' → V Γ Δ 504 false i' r' kc sl Q pc lv []) → V Γ Δ 504 false i r 0 0 Q 0 (lv_args 0 av) []) : vx_Met l y (Cond.code y bytes maxL ret :: gW) (sRx fr lo mc ms) (sPc Δ av i r) (sQd Δ Qp) (sX Δ Xp) mc ms (sFr Δ) := by
  refine vx_ofW (cc := bytes) (maxL := maxL) (ret := ret) hy rfl ?_
  intro p e s m args below meth c s₁ B hml ht hv
  obtain ⟨rfl, hP, hKK⟩ := hv
  have hts := atoms_spec (ws := Cond.code y bytes maxL ret :: gW) B.pre
  have hown : s.vm.findClass y.cls = some m.cls := findClass_of_methodNamed B.named
  have hlk : meth.locks = false := B.notSynchronized
  have hx := B.exec
  have hb := B.bytes
  have hr := B.returns
  have hl := lv_entry av (n := maxL) hlen
  rw [lg_entry_eq]
  generalize (lg_sl av ++ List.replicate (maxL - (lg_sl av).length) Slot.unset).toArray = ls at hl ⊢
  have hts' : ∀ w ∈ gW, w.before av.toArray s = true := fun w hw => hts w (List.mem_cons_of_mem _ hw)
  have hG : okG (p, l, e, sRx fr lo mc ms, s, m, av.toArray, below, meth, c, maxL) Δ l (sRx fr lo mc ms) bytes y.cls maxL := ⟨hx, hb, hml, hown, hts', hKK, hlk, rfl, rfl, rfl⟩
  refine walk _ _ hG ?_ ?_ ?_ s.heap [] ls hP (fun q => by cases q) va_S.rf hl
  · intro pc lv x i' r' kc sl hdg hkc hsl hi hw hq H locs ls hP hz hS hl
    exact W.widen hkc hsl (vx_ret (W.dret (v := x) hx hb (hr.trans hret) (fun t ht hW => ⟨⟨x, (i', r'), rfl, ⟨hi, hw, hq⟩, by rw [← ht] at hP; exact hP⟩, hS.F ht⟩) hS.2.2 hdg hlk))
  · intro pc lv stk i' r' kc sl E hkc hsl hi hw hxp H locs ls q ce hP hS hl hq hv hcl
    exact vx_out (fun x hx => (ht x hx).elim) hlk hq hv hcl (fun t ht' hal => ⟨(i', r'), ⟨hi, hw⟩, ⟨hxp, by rw [← ht'] at hP; exact hP⟩, hS.F ht'⟩) hS.2.2 hkc hsl
  · intro pc lv i' r' kc sl cls hth hkc hsl hi hw hxp H locs ls hP hz hS hl
    obtain ⟨ik, is, ic, text, t1, t2, t3, t4, t5, d0, d3, dd⟩ := hth
    obtain ⟨sa, hsa⟩ := hKK.2.2.2.2.2.2.2.2.1 _ t4
    have hats : ∀ {L : List Cond}, (∀ w ∈ L, w ∈ gW ∨ w ∈ gX) → (∀ w ∈ L, w.before av.toArray s = true) ∧ (∀ w ∈ Cond.classLink y.cls ik cls :: Cond.initialized cls :: L, vx_ot w = true) := by
      intro L t5
      refine ⟨fun w hw => ?_, fun w hw => ?_⟩
      · rcases t5 w hw with h | h
        · exact hts' w h
        · exact va_Nw.use (gX_on (List.mem_filter.mp h).2) (hKK.2.2.2.2.1 w h)
      · rcases List.mem_cons.mp hw with rfl | hw
        · exact gWX_ot (Or.inl t2)
        · rcases List.mem_cons.mp hw with rfl | hw
          · exact gWX_ot (Or.inl t3)
          · exact gWX_ot (t5 w hw)
    rcases t5 with t5 | ⟨ix, rx, ⟨x0, x1, x2, x5⟩, t5⟩
    · obtain ⟨hat, hot⟩ := hats t5
      rcases dd with ⟨d4, d6, d9⟩ | ⟨d4, d6, d9⟩
      · exact vx_throwS hx hb hst (A := sFr Δ) (names := thN) hown t1 (by decide) (hts' _ t2) (hts' _ t3) hsa hat hot hKK.2.2.2.2.2.2.1 hKK.2.2.2.2.2.2.2.1 hS (hl.1.trans hml.symm) d0 d3 d4 d6 d9 (fun x hx => (ht x hx).elim) hfr hlo (by show kc + 1 ≤ mc; exact hkc) (by show sl + 6 ≤ ms; exact hsl) hlk (fun t hal hsz hkp => ⟨(i', r'), ⟨hi, hw⟩, ⟨hxp, hP.old hKK hkp⟩, ⟨Nat.le_trans hS.1 hsz, fun q h1 h2 => (hkp q (Nat.lt_of_lt_of_le h1 hS.1)).trans (hS.2.1 q h1 h2)⟩⟩) hS.2.2 hkc hsl
      · exact vx_throwSW hx hb hst (A := sFr Δ) (names := thN) hown t1 (by decide) (hts' _ t2) (hts' _ t3) hsa hat hot hKK.2.2.2.2.2.2.1 hKK.2.2.2.2.2.2.2.1 hS (hl.1.trans hml.symm) d0 d3 d4 d6 d9 (fun x hx => (ht x hx).elim) hfr hlo (by show kc + 1 ≤ mc; exact hkc) (by show sl + 6 ≤ ms; exact hsl) hlk (fun t hal hsz hkp => ⟨(i', r'), ⟨hi, hw⟩, ⟨hxp, hP.old hKK hkp⟩, ⟨Nat.le_trans hS.1 hsz, fun q h1 h2 => (hkp q (Nat.lt_of_lt_of_le h1 hS.1)).trans (hS.2.1 q h1 h2)⟩⟩) hS.2.2 hkc hsl
    · obtain ⟨hat, hot⟩ := hats t5
      rcases dd with ⟨d4, d6, d9⟩ | ⟨d4, d6, d9⟩
      · exact nz_throw (k := 2) (I := .ldc is) hx hb hst (A := sFr Δ) (names := thN) x0 x1 x2 x5 hown t1 (by decide) (hts' _ t2) (hts' _ t3) hsa hat hot hKK.2.2.2.2.2.2.1 hKK.2.2.2.2.2.2.2.1 hS (hl.1.trans hml.symm) d0 d3 ⟨Or.inl ⟨rfl, rfl⟩, d4⟩ d6 d9 (fun x hx => (ht x hx).elim) hfr hlo (by show kc + 1 ≤ mc; exact hkc) (by show sl + 6 ≤ ms; exact hsl) hlk (fun t hal hsz hkp => ⟨(i', r'), ⟨hi, hw⟩, ⟨hxp, hP.old hKK hkp⟩, ⟨Nat.le_trans hS.1 hsz, fun q h1 h2 => (hkp q (Nat.lt_of_lt_of_le h1 hS.1)).trans (hS.2.1 q h1 h2)⟩⟩) hS.2.2 hkc hsl
      · exact nz_throw (k := 3) (I := .ldc_w is) hx hb hst (A := sFr Δ) (names := thN) x0 x1 x2 x5 hown t1 (by decide) (hts' _ t2) (hts' _ t3) hsa hat hot hKK.2.2.2.2.2.2.1 hKK.2.2.2.2.2.2.2.1 hS (hl.1.trans hml.symm) d0 d3 ⟨Or.inr ⟨rfl, rfl⟩, d4⟩ d6 d9 (fun x hx => (ht x hx).elim) hfr hlo (by show kc + 1 ≤ mc; exact hkc) (by show sl + 6 ≤ ms; exact hsl) hlk (fun t hal hsz hkp => ⟨(i', r'), ⟨hi, hw⟩, ⟨hxp, hP.old hKK hkp⟩, ⟨Nat.le_trans hS.1 hsz, fun q h1 h2 => (hkp q (Nat.lt_of_lt_of_le h1 hS.1)).trans (hS.2.1 q h1 h2)⟩⟩) hS.2.2 hkc hsl

theorem Ct.d {l : Launch} {Δ : Wd} {y : MethodName} {bytes : ByteArray} {maxL fr lo : Nat} {ret : Option FieldType} {av : List Value} {i r : MI} {Qp : UInt64 → MI → MI → Prop} (hy : plainName y.cls = true) (hret : ret = some .double) (hlen : (lg_sl av).length ≤ maxL) (walk : ∀ (Γ : Cx) (Q : State → Prop), okG Γ Δ l (sRm fr lo) bytes y.cls maxL → (∀ {pc : Nat} {lv : List (Nat × Value)} {x : UInt64} {i' r' : MI}, decode bytes pc = .ok (.dreturn, 1) → okI i' → Wf r' → Qp x i' r' → V Γ Δ 504 false i' r' 0 0 Q pc lv [.double x]) → V Γ Δ 504 false i r 0 0 Q 0 (lv_args 0 av) []) : Met l y (Cond.code y bytes maxL ret :: gW) (sRm fr lo) (sPc Δ av i r) (sQd Δ Qp) 0 0 (sFr Δ) := by
  refine Met.ofW (cc := bytes) (maxL := maxL) (ret := ret) hy rfl ?_
  intro p e s m args below meth c s₁ B hml hv
  obtain ⟨rfl, hP, hKK⟩ := hv
  have hts := atoms_spec (ws := Cond.code y bytes maxL ret :: gW) B.pre
  have hown : s.vm.findClass y.cls = some m.cls := findClass_of_methodNamed B.named
  have hlk : meth.locks = false := B.notSynchronized
  have hx := B.exec
  have hb := B.bytes
  have hr := B.returns
  have hl := lv_entry av (n := maxL) hlen
  rw [lg_entry_eq]
  generalize (lg_sl av ++ List.replicate (maxL - (lg_sl av).length) Slot.unset).toArray = ls at hl ⊢
  have hG : okG (p, l, e, sRm fr lo, s, m, av.toArray, below, meth, c, maxL) Δ l (sRm fr lo) bytes y.cls maxL := ⟨hx, hb, hml, hown, fun w hw => hts w (List.mem_cons_of_mem _ hw), hKK, hlk, rfl, rfl, rfl⟩
  refine walk _ _ hG ?_ s.heap [] ls hP (fun q => by cases q) va_S.rf hl
  intro pc lv x i' r' hdg hi hw hq H locs ls hP hz hS hl
  exact W.dret (v := x) hx hb (hr.trans hret) (fun t ht hW => ⟨⟨x, (i', r'), rfl, ⟨hi, hw, hq⟩, by rw [← ht] at hP; exact hP⟩, hS.F ht⟩) hS.2.2 hdg hlk
section VXCALLS
variable {Γ : Cx} {Δ : Wd} {l : Launch} {R : Room} {i r : MI} {kc sl : Nat} {Q : State → Prop} {pc : Nat} {lv : List (Nat × Value)} {stk st0 As : List Value} {cc : ByteArray} {own : String} {nL : Nat}
theorem V.xcallVi {y : MethodName} {bytes : ByteArray} {maxL fr lo mc ms na ix : Nat} {ret : Option FieldType} {Qp : Int → MI → MI → Prop} {Xp : String → MI → MI → Prop} {o : Int} {ci : Nat} {q : vw_C} (h : okG Γ Δ l R cc own nL) (hM : vx_Met l y (Cond.code y bytes maxL ret :: gW) (sRx fr lo mc ms) (sPc Δ (.ref (sA Δ o) :: As) i r) (sQi Δ Qp) (sX Δ Xp) mc ms (sFr Δ)) (hY : mY y bytes maxL ret na) (hl1 : Cond.methodLink own ix y ∈ gW) (hl2 : Cond.instanceMethod y ∈ gW) (hl3 : Cond.selects y.cls y y ∈ gW) (ho : isA o (ci, 0)) (hci : ci < 20) (hc : vwCl[ci]? = some q) (hC : q.1 = y.cls) (hR : fr + 1 ≤ R.frames ∧ 8 + (maxL + 11) + lo ≤ R.locals ∧ kc + mc ≤ R.cells ∧ sl + ms ≤ R.slots) (hlen : As.length = na) (hst : (stk.map fun v => v.category).sum ≤ 8) (hdg : decode cc pc = .ok (.invokevirtual ix, 3)) (hs : st0 = As.reverse ++ .ref (sA Δ o) :: stk) (kx : ∀ (E : String) (i' r' : MI), okI i' → Wf r' → Xp E i' r' → VX Γ Δ i' r' (kc + mc) (sl + ms) Q pc lv stk E) (kk : ∀ (x : Int) (i' r' : MI), sR x → okI i' → Wf r' → Qp x i' r' → V Γ Δ 504 false i' r' (kc + mc) (sl + ms) Q (pc + 3) lv (.int (sJ x) :: stk)) : V Γ Δ 504 false i r kc sl Q (pc) lv (st0) := by
  obtain ⟨p, l', e, R', s, m, args, below, meth, c, nL'⟩ := Γ
  obtain ⟨hx, hb, hml, hown, hts, hKK, hlk, rfl, rfl, rfl⟩ := h
  intro H locs ls hP hz hS hl
  subst hs
  obtain ⟨y1, y2, y3, y4, y5⟩ := hY
  exact vx_calli (vx_runV (As := As) (rest := stk) ⟨hx, hb, hml, hown, hts⟩ hM ⟨⟨rfl, rfl, hR.1, hR.2.1, gW_pay hts y2, List.mem_cons_self, hts _ y2, hts _ y1, ⟨y3, y4⟩, fun sig hh => by rw [hh] at y5; exact (Option.some.inj y5).symm, hts _ hl1⟩, hts _ hl2, hts _ hl3⟩ ⟨sPc_blind, by rw [← hC]; exact va_recv hKK.1 hP.1 hc (at_o ho ho.n hci), fun U hU hW => ⟨rfl, by rw [hU]; exact hP, KK_warm hKK hW hS hU⟩⟩ rfl hlen hl.1 rfl (lv_room hst) hdg ⟨hR.2.2.1, hR.2.2.2⟩) hS (fun _ _ q => q) (fun _ q => q) (fun _ _ q => q) (fun E ce q9 u t H1 locs1 ht hvm hw hB hz1 hk1 hS1 hq hv hcl => by
    obtain ⟨i', r'⟩ := u
    obtain ⟨g1, g2⟩ := hw
    obtain ⟨g3, hB⟩ := hB
    have hB : sH Δ 504 i' r' t.heap := hB
    rw [ht] at hB
    exact kx E i' r' g1 g2 g3 H1 locs1 ls q9 ce hB hS1 hl hq hv hcl) (fun v u t H1 locs1 ht hvm hw hB hz1 hk1 hS1 => by
    obtain ⟨x, i', r'⟩ := u
    obtain ⟨rfl, g1, g2, g3, g4⟩ := hw
    have hB : sH Δ 504 i' r' t.heap := hB
    rw [ht] at hB
    exact kk x i' r' g1 g2 g3 g4 H1 locs1 ls hB (fun q => by cases q) hS1 hl)
theorem V.xcallVv {y : MethodName} {bytes : ByteArray} {maxL fr lo mc ms na ix : Nat} {ret : Option FieldType} {Qp : MI → MI → Prop} {Xp : String → MI → MI → Prop} {o : Int} {ci : Nat} {q : vw_C} (h : okG Γ Δ l R cc own nL) (hM : vx_Met l y (Cond.code y bytes maxL ret :: gW) (sRx fr lo mc ms) (sPc Δ (.ref (sA Δ o) :: As) i r) (sQv Δ Qp) (sX Δ Xp) mc ms (sFr Δ)) (hY : mY y bytes maxL ret na) (hl1 : Cond.methodLink own ix y ∈ gW) (hl2 : Cond.instanceMethod y ∈ gW) (hl3 : Cond.selects y.cls y y ∈ gW) (ho : isA o (ci, 0)) (hci : ci < 20) (hc : vwCl[ci]? = some q) (hC : q.1 = y.cls) (hR : fr + 1 ≤ R.frames ∧ 8 + (maxL + 11) + lo ≤ R.locals ∧ kc + mc ≤ R.cells ∧ sl + ms ≤ R.slots) (hlen : As.length = na) (hst : (stk.map fun v => v.category).sum ≤ 8) (hdg : decode cc pc = .ok (.invokevirtual ix, 3)) (hs : st0 = As.reverse ++ .ref (sA Δ o) :: stk) (kx : ∀ (E : String) (i' r' : MI), okI i' → Wf r' → Xp E i' r' → VX Γ Δ i' r' (kc + mc) (sl + ms) Q pc lv stk E) (kk : ∀ (i' r' : MI), okI i' → Wf r' → Qp i' r' → V Γ Δ 504 false i' r' (kc + mc) (sl + ms) Q (pc + 3) lv (stk)) : V Γ Δ 504 false i r kc sl Q (pc) lv (st0) := by
  obtain ⟨p, l', e, R', s, m, args, below, meth, c, nL'⟩ := Γ
  obtain ⟨hx, hb, hml, hown, hts, hKK, hlk, rfl, rfl, rfl⟩ := h
  intro H locs ls hP hz hS hl
  subst hs
  obtain ⟨y1, y2, y3, y4, y5⟩ := hY
  exact vx_callv (vx_runV (As := As) (rest := stk) ⟨hx, hb, hml, hown, hts⟩ hM ⟨⟨rfl, rfl, hR.1, hR.2.1, gW_pay hts y2, List.mem_cons_self, hts _ y2, hts _ y1, ⟨y3, y4⟩, fun sig hh => by rw [hh] at y5; exact (Option.some.inj y5).symm, hts _ hl1⟩, hts _ hl2, hts _ hl3⟩ ⟨sPc_blind, by rw [← hC]; exact va_recv hKK.1 hP.1 hc (at_o ho ho.n hci), fun U hU hW => ⟨rfl, by rw [hU]; exact hP, KK_warm hKK hW hS hU⟩⟩ rfl hlen hl.1 rfl (lv_room hst) hdg ⟨hR.2.2.1, hR.2.2.2⟩) hS (fun _ _ q => q) (fun _ q => q) (fun _ _ q => q) (fun E ce q9 u t H1 locs1 ht hvm hw hB hz1 hk1 hS1 hq hv hcl => by
    obtain ⟨i', r'⟩ := u
    obtain ⟨g1, g2⟩ := hw
    obtain ⟨g3, hB⟩ := hB
    have hB : sH Δ 504 i' r' t.heap := hB
    rw [ht] at hB
    exact kx E i' r' g1 g2 g3 H1 locs1 ls q9 ce hB hS1 hl hq hv hcl) (fun u t H1 locs1 ht hvm hw hB hz1 hk1 hS1 => by
    obtain ⟨i', r'⟩ := u
    obtain ⟨g2, g3, g4⟩ := hw
    have hB : sH Δ 504 i' r' t.heap := hB
    rw [ht] at hB
    exact kk i' r' g2 g3 g4 H1 locs1 ls hB (fun q => by cases q) hS1 hl)
theorem V.xcallVf {y : MethodName} {bytes : ByteArray} {maxL fr lo mc ms na ix : Nat} {ret : Option FieldType} {Qp : UInt32 → MI → MI → Prop} {Xp : String → MI → MI → Prop} {o : Int} {ci : Nat} {q : vw_C} (h : okG Γ Δ l R cc own nL) (hM : vx_Met l y (Cond.code y bytes maxL ret :: gW) (sRx fr lo mc ms) (sPc Δ (.ref (sA Δ o) :: As) i r) (sQf Δ Qp) (sX Δ Xp) mc ms (sFr Δ)) (hY : mY y bytes maxL ret na) (hl1 : Cond.methodLink own ix y ∈ gW) (hl2 : Cond.instanceMethod y ∈ gW) (hl3 : Cond.selects y.cls y y ∈ gW) (ho : isA o (ci, 0)) (hci : ci < 20) (hc : vwCl[ci]? = some q) (hC : q.1 = y.cls) (hR : fr + 1 ≤ R.frames ∧ 8 + (maxL + 11) + lo ≤ R.locals ∧ kc + mc ≤ R.cells ∧ sl + ms ≤ R.slots) (hlen : As.length = na) (hst : (stk.map fun v => v.category).sum ≤ 8) (hdg : decode cc pc = .ok (.invokevirtual ix, 3)) (hs : st0 = As.reverse ++ .ref (sA Δ o) :: stk) (kx : ∀ (E : String) (i' r' : MI), okI i' → Wf r' → Xp E i' r' → VX Γ Δ i' r' (kc + mc) (sl + ms) Q pc lv stk E) (kk : ∀ (x : UInt32) (i' r' : MI), okI i' → Wf r' → Qp x i' r' → V Γ Δ 504 false i' r' (kc + mc) (sl + ms) Q (pc + 3) lv (.float x :: stk)) : V Γ Δ 504 false i r kc sl Q (pc) lv (st0) := by
  obtain ⟨p, l', e, R', s, m, args, below, meth, c, nL'⟩ := Γ
  obtain ⟨hx, hb, hml, hown, hts, hKK, hlk, rfl, rfl, rfl⟩ := h
  intro H locs ls hP hz hS hl
  subst hs
  obtain ⟨y1, y2, y3, y4, y5⟩ := hY
  exact vx_callf (vx_runV (As := As) (rest := stk) ⟨hx, hb, hml, hown, hts⟩ hM ⟨⟨rfl, rfl, hR.1, hR.2.1, gW_pay hts y2, List.mem_cons_self, hts _ y2, hts _ y1, ⟨y3, y4⟩, fun sig hh => by rw [hh] at y5; exact (Option.some.inj y5).symm, hts _ hl1⟩, hts _ hl2, hts _ hl3⟩ ⟨sPc_blind, by rw [← hC]; exact va_recv hKK.1 hP.1 hc (at_o ho ho.n hci), fun U hU hW => ⟨rfl, by rw [hU]; exact hP, KK_warm hKK hW hS hU⟩⟩ rfl hlen hl.1 rfl (lv_room hst) hdg ⟨hR.2.2.1, hR.2.2.2⟩) hS (fun _ _ q => q) (fun _ q => q) (fun _ _ q => q) (fun E ce q9 u t H1 locs1 ht hvm hw hB hz1 hk1 hS1 hq hv hcl => by
    obtain ⟨i', r'⟩ := u
    obtain ⟨g1, g2⟩ := hw
    obtain ⟨g3, hB⟩ := hB
    have hB : sH Δ 504 i' r' t.heap := hB
    rw [ht] at hB
    exact kx E i' r' g1 g2 g3 H1 locs1 ls q9 ce hB hS1 hl hq hv hcl) (fun v u t H1 locs1 ht hvm hw hB hz1 hk1 hS1 => by
    obtain ⟨i', r'⟩ := u
    obtain ⟨g2, g3, g4⟩ := hw
    have hB : sH Δ 504 i' r' t.heap := hB
    rw [ht] at hB
    exact kk v i' r' g2 g3 g4 H1 locs1 ls hB (fun q => by cases q) hS1 hl)
theorem V.xcallVd {y : MethodName} {bytes : ByteArray} {maxL fr lo mc ms na ix : Nat} {ret : Option FieldType} {Qp : UInt64 → MI → MI → Prop} {Xp : String → MI → MI → Prop} {o : Int} {ci : Nat} {q : vw_C} (h : okG Γ Δ l R cc own nL) (hM : vx_Met l y (Cond.code y bytes maxL ret :: gW) (sRx fr lo mc ms) (sPc Δ (.ref (sA Δ o) :: As) i r) (sQd Δ Qp) (sX Δ Xp) mc ms (sFr Δ)) (hY : mY y bytes maxL ret na) (hl1 : Cond.methodLink own ix y ∈ gW) (hl2 : Cond.instanceMethod y ∈ gW) (hl3 : Cond.selects y.cls y y ∈ gW) (ho : isA o (ci, 0)) (hci : ci < 20) (hc : vwCl[ci]? = some q) (hC : q.1 = y.cls) (hR : fr + 1 ≤ R.frames ∧ 8 + (maxL + 11) + lo ≤ R.locals ∧ kc + mc ≤ R.cells ∧ sl + ms ≤ R.slots) (hlen : As.length = na) (hst : (stk.map fun v => v.category).sum ≤ 8) (hdg : decode cc pc = .ok (.invokevirtual ix, 3)) (hs : st0 = As.reverse ++ .ref (sA Δ o) :: stk) (kx : ∀ (E : String) (i' r' : MI), okI i' → Wf r' → Xp E i' r' → VX Γ Δ i' r' (kc + mc) (sl + ms) Q pc lv stk E) (kk : ∀ (x : UInt64) (i' r' : MI), okI i' → Wf r' → Qp x i' r' → V Γ Δ 504 false i' r' (kc + mc) (sl + ms) Q (pc + 3) lv (.double x :: stk)) : V Γ Δ 504 false i r kc sl Q (pc) lv (st0) := by
  obtain ⟨p, l', e, R', s, m, args, below, meth, c, nL'⟩ := Γ
  obtain ⟨hx, hb, hml, hown, hts, hKK, hlk, rfl, rfl, rfl⟩ := h
  intro H locs ls hP hz hS hl
  subst hs
  obtain ⟨y1, y2, y3, y4, y5⟩ := hY
  exact vx_calld (vx_runV (As := As) (rest := stk) ⟨hx, hb, hml, hown, hts⟩ hM ⟨⟨rfl, rfl, hR.1, hR.2.1, gW_pay hts y2, List.mem_cons_self, hts _ y2, hts _ y1, ⟨y3, y4⟩, fun sig hh => by rw [hh] at y5; exact (Option.some.inj y5).symm, hts _ hl1⟩, hts _ hl2, hts _ hl3⟩ ⟨sPc_blind, by rw [← hC]; exact va_recv hKK.1 hP.1 hc (at_o ho ho.n hci), fun U hU hW => ⟨rfl, by rw [hU]; exact hP, KK_warm hKK hW hS hU⟩⟩ rfl hlen hl.1 rfl (lv_room hst) hdg ⟨hR.2.2.1, hR.2.2.2⟩) hS (fun _ _ q => q) (fun _ q => q) (fun _ _ q => q) (fun E ce q9 u t H1 locs1 ht hvm hw hB hz1 hk1 hS1 hq hv hcl => by
    obtain ⟨i', r'⟩ := u
    obtain ⟨g1, g2⟩ := hw
    obtain ⟨g3, hB⟩ := hB
    have hB : sH Δ 504 i' r' t.heap := hB
    rw [ht] at hB
    exact kx E i' r' g1 g2 g3 H1 locs1 ls q9 ce hB hS1 hl hq hv hcl) (fun v u t H1 locs1 ht hvm hw hB hz1 hk1 hS1 => by
    obtain ⟨i', r'⟩ := u
    obtain ⟨g2, g3, g4⟩ := hw
    have hB : sH Δ 504 i' r' t.heap := hB
    rw [ht] at hB
    exact kk v i' r' g2 g3 g4 H1 locs1 ls hB (fun q => by cases q) hS1 hl)
def okTab (Γ : Cx) (hh : List (Nat × Nat × Nat × Nat)) : Prop := match Γ with
  | (_, _, _, _, _, _, _, _, _, c, _) => c.exceptionTable.toList = tableOf hh
theorem V.catch {hh pre suf : List (Nat × Nat × Nat × Nat)} {x : Nat × Nat × Nat × Nat} {E name : String} (h : okG Γ Δ l R cc own nL) (hT : okTab Γ hh) (hsp : hh = pre ++ x :: suf)
    (hpass : ∀ z ∈ pre, ∃ nm : String, z.2.2.2 ≠ 0 ∧ Cond.classLink own z.2.2.2 nm ∈ gW ∧ (E, nm) ∈ ncL) (hx0 : covers ⟨x.1, x.2.1, x.2.2.1, x.2.2.2⟩ pc = true) (hx1 : x.2.2.2 ≠ 0)
    (hlink : Cond.classLink own x.2.2.2 name ∈ gW) (hcast : Cond.castable E name ∈ gX) (kk : ∀ q : Nat, V Γ Δ 504 false i r kc sl Q x.2.2.1 lv [.ref q]) : VX Γ Δ i r kc sl Q pc lv stk E := by
  obtain ⟨p, l', e, R', s, m, args, below, meth, c, nL'⟩ := Γ
  obtain ⟨hx, hb, hml, hown, hts, hKK, hlk, rfl, rfl, rfl⟩ := h
  intro H locs ls q ce hP hS hl hq hv hcl
  have hT : c.exceptionTable.toList = tableOf hh := hT
  refine vx_catch hown (tableOf pre) ⟨x.1, x.2.1, x.2.2.1, x.2.2.2⟩ (tableOf suf) (by rw [hT, hsp]; simp [tableOf]) (fun z hz => ?_) hx0 hx1 (hts _ hlink) (va_Nw.use rfl (hKK.2.2.2.2.1 _ hcast)) hq hv hcl (kk q H locs ls hP (fun z => by cases z) hS hl)
  obtain ⟨w, hw, rfl⟩ := List.mem_map.mp hz
  obtain ⟨nm, h0, h1, h2⟩ := hpass w hw
  exact Or.inr ⟨h0, nm, hts _ h1, hKK.2.2.2.2.2.2.2.2.2.1 _ h2⟩
theorem V.callSWi {y : MethodName} {bytes : ByteArray} {maxL fr lo mc ms na ix : Nat} {ret : Option FieldType} {hh : List (Nat × Nat × Nat × Nat)} {Qp : Int → MI → MI → Prop} (h : okG Γ Δ l R cc own nL) (hM : Met l y (Cond.codeWith y bytes maxL ret hh :: gW) (sRx fr lo mc ms) (sPc Δ As i r) (sQi Δ Qp) mc ms (sFr Δ)) (hY1 : Cond.initialized y.cls ∈ gW) (hY2 : Cond.codeWith y bytes maxL ret hh ∈ gW) (hY3 : y.cls ≠ "java/lang/invoke/MethodHandle" ∧ y.cls ≠ "java/lang/invoke/VarHandle") (hY4 : (parseMethodDescriptor y.desc).map (fun d => d.parameters.length) = some na) (hl1 : Cond.methodLink own ix y ∈ gW) (hl2 : Cond.static y ∈ gW)
    (hR : fr + 1 ≤ R.frames ∧ 8 + (maxL + 11) + lo ≤ R.locals ∧ kc + mc ≤ R.cells ∧ sl + ms ≤ R.slots) (hlen : As.length = na) (hst : (stk.map fun v => v.category).sum ≤ 8) (hdg : decode cc pc = .ok (.invokestatic ix, 3)) (hs : st0 = As.reverse ++ stk) (kk : ∀ (x : Int) (i' r' : MI), sR x → okI i' → Wf r' → Qp x i' r' → V Γ Δ 504 false i' r' (kc + mc) (sl + ms) Q (pc + 3) lv (.int (sJ x) :: stk)) : V Γ Δ 504 false i r kc sl Q (pc) lv (st0) := by
  obtain ⟨p, l', e, R', s, m, args, below, meth, c, nL'⟩ := Γ
  obtain ⟨hx, hb, hml, hown, hts, hKK, hlk, rfl, rfl, rfl⟩ := h
  intro H locs ls hP hz hS hl
  subst hs
  exact va_calli (vx_runSW (As := As) (rest := stk) ⟨hx, hb, hml, hown, hts⟩ hM ⟨⟨rfl, rfl, hR.1, hR.2.1, pay_in hts (fun w hw => by
    rcases List.mem_cons.mp hw with rfl | hw
    · exact ⟨hY2, gW_good _ hY2⟩
    · exact ⟨hw, gW_good w hw⟩), List.mem_cons_self⟩, hts _ hY2, hts _ hY1, hY3, fun sig hh => by rw [hh] at hY4; exact (Option.some.inj hY4).symm, hts _ hl1, hts _ hl2⟩ ⟨sPc_blind, fun U hU hW => ⟨rfl, by rw [hU]; exact hP, KK_warm hKK hW hS hU⟩⟩ rfl hlen hl.1 rfl (lv_room hst) hdg ⟨hR.2.2.1, hR.2.2.2⟩) hS (fun _ _ q => q) (fun _ q => q) (fun v u t H1 locs1 ht hvm hw hB hz1 hk1 hS1 => by
    obtain ⟨x, i', r'⟩ := u
    obtain ⟨rfl, g1, g2, g3, g4⟩ := hw
    have hB : sH Δ 504 i' r' t.heap := hB
    rw [ht] at hB
    exact kk x i' r' g1 g2 g3 g4 H1 locs1 ls hB (fun q => by cases q) hS1 hl)
end VXCALLS
theorem Cw.i {l : Launch} {Δ : Wd} {y : MethodName} {bytes : ByteArray} {maxL fr lo mc ms : Nat} {ret : Option FieldType} {av : List Value} {i r : MI} {hh : List (Nat × Nat × Nat × Nat)} {Qp : Int → MI → MI → Prop} (hy : plainName y.cls = true) (hret : ret = some .int) (hlen : (lg_sl av).length ≤ maxL) (walk : ∀ (Γ : Cx) (Q : State → Prop), okG Γ Δ l (sRx fr lo mc ms) bytes y.cls maxL → okTab Γ hh → (∀ {pc : Nat} {lv : List (Nat × Value)} {x : Int} {i' r' : MI} {kc sl : Nat}, decode bytes pc = .ok (.ireturn, 1) → sR x → kc ≤ mc → sl ≤ ms → okI i' → Wf r' → Qp x i' r' → V Γ Δ 504 false i' r' kc sl Q pc lv [.int (sJ x)]) → V Γ Δ 504 false i r 0 0 Q 0 (lv_args 0 av) []) : Met l y (Cond.codeWith y bytes maxL ret hh :: gW) (sRx fr lo mc ms) (sPc Δ av i r) (sQi Δ Qp) mc ms (sFr Δ) := by
  refine va_MetW (cc := bytes) (maxL := maxL) (ret := ret) hy rfl ?_
  intro p e s m args below meth c s₁ B hml hv
  obtain ⟨rfl, hP, hKK⟩ := hv
  have hts := atoms_spec (ws := Cond.codeWith y bytes maxL ret hh :: gW) B.pre
  have hown : s.vm.findClass y.cls = some m.cls := findClass_of_methodNamed B.named
  have hlk : meth.locks = false := B.notSynchronized
  have hx := B.exec
  have hb := B.bytes
  have hr := B.returns
  have htab : c.exceptionTable.toList = tableOf hh := vx_table (x := y) B (hts _ List.mem_cons_self)
  have hl := lv_entry av (n := maxL) hlen
  rw [lg_entry_eq]
  generalize (lg_sl av ++ List.replicate (maxL - (lg_sl av).length) Slot.unset).toArray = ls at hl ⊢
  have hG : okG (p, l, e, sRx fr lo mc ms, s, m, av.toArray, below, meth, c, maxL) Δ l (sRx fr lo mc ms) bytes y.cls maxL := ⟨hx, hb, hml, hown, fun w hw => hts w (List.mem_cons_of_mem _ hw), hKK, hlk, rfl, rfl, rfl⟩
  refine walk _ _ hG htab ?_ s.heap [] ls hP (fun q => by cases q) va_S.rf hl
  intro pc lv x i' r' kc sl hdg hsx hkc hsl hi hw hq H locs ls hP hz hS hl
  exact W.widen hkc hsl (W.zret (v := sJ x) hx hb (hr.trans hret) rfl (fun t ht hW => ⟨⟨sJ x, (x, i', r'), rfl, ⟨rfl, hsx, hi, hw, hq⟩, by rw [← ht] at hP; exact hP⟩, hS.F ht⟩) hS.2.2 hdg hlk)
