/-! ===== the law's own methods ===== -/
/-- an array of ints beside the world -/
def EA (Δ : Wd) (b L : Nat) (f : Int → Int) : Prop := (∀ H, sE Δ H → va_X b L (fun j : Nat => sJ (f j)) (sS0 Δ) H) ∧ (∀ k, sR (f k)) ∧ L < 2147483648
/-- a String beside the world, of bytes -/
def SK (A : Nat → Prop) (U : State) (a v n : Nat) (f : Int → Int) (H : Heap) : Prop := va_O "java/lang/String" a A U H ∧ va_OF "java/lang/String" "coder" "B" (.int 0) a A U H ∧ va_OF "java/lang/String" "value" "[B" (.ref v) a A U H ∧ va_T .byte v n (fun j : Nat => .int (sJ (f j))) A U H
theorem SK.moved {A : Nat → Prop} {u U : State} {a v n : Nat} {f : Int → Int} {H : Heap} (hvm : u.vm.Alike U.vm) (h : SK A u a v n f H) : SK A U a v n f H := ⟨va_O.moved hvm h.1, va_OF.moved hvm h.2.1, va_OF.moved hvm h.2.2.1, va_T.moved hvm h.2.2.2⟩
theorem SK.kept {A : Nat → Prop} {U : State} {a v n : Nat} {f : Int → Int} {H H1 : Heap} (h : SK A U a v n f H) (hq : ∀ q : Nat, q < H.size → ¬ A q → H1[q]? = H[q]?) : SK A U a v n f H1 := ⟨h.1.kept hq, h.2.1.kept hq, h.2.2.1.kept hq, h.2.2.2.kept hq⟩
def ES (Δ : Wd) (a v n : Nat) (f : Int → Int) : Prop := (∀ H, sE Δ H → SK (sFr Δ) (sS0 Δ) a v n f H) ∧ (∀ k, sR (f k)) ∧ n < 2147483648
/-- more is known of the heap beside the world -/
def eAnd (Δ : Wd) (P : Heap → Prop) : Wd := (Δ.1, Δ.2.1, Δ.2.2.1, Δ.2.2.2.1, Δ.2.2.2.2.1, Δ.2.2.2.2.2.1, Δ.2.2.2.2.2.2.1, fun H => sE Δ H ∧ P H, sS0 Δ)
def stab (Δ : Wd) (P : Heap → Prop) : Prop := ∀ H H1 : Heap, (∀ q : Nat, q < H.size → ¬ sFr Δ q → H1[q]? = H[q]?) → P H → P H1
theorem KK.and {Δ : Wd} {U : State} {P : Heap → Prop} (h : KK Δ U) (hs : stab Δ P) : KK (eAnd Δ P) U := by
  obtain ⟨h1, h2, h3, h4, h5, h6, h7, h8, h9, h10, h11, h12, h13⟩ := h
  exact ⟨h1, h2, h3, h4, h5, h6, h7, h8, h9, h10, h11, fun H H1 q e => ⟨h12 H H1 q e.1, hs H H1 q e.2⟩, h13⟩
theorem okG.and {Γ : Cx} {Δ : Wd} {l : Launch} {R : Room} {cc : ByteArray} {own : String} {nL : Nat} {P : Heap → Prop} (h : okG Γ Δ l R cc own nL) (hs : stab Δ P) : okG Γ (eAnd Δ P) l R cc own nL := by
  obtain ⟨p, l', e, R', s, m, args, below, meth, c, nL'⟩ := Γ
  obtain ⟨hx, hb, hml, hown, hts, hKK, hlk, rfl, rfl, rfl⟩ := h
  exact ⟨hx, hb, hml, hown, hts, hKK.and hs, hlk, rfl, rfl, rfl⟩
theorem V.drop {Γ : Cx} {Δ : Wd} {n : Nat} {ex : Bool} {i r : MI} {kc sl : Nat} {Q : State → Prop} {pc : Nat} {lv : List (Nat × Value)} {stk : List Value} {P : Heap → Prop} (kk : V Γ Δ n ex i r kc sl Q pc lv stk) : V Γ (eAnd Δ P) n ex i r kc sl Q pc lv stk := by
  obtain ⟨p, l', e, R', s, m, args, below, meth, c, nL'⟩ := Γ
  intro H locs ls hP hz hS hl
  exact kk H locs ls ⟨hP.1, hP.2.1, hP.2.2.1⟩ hz hS hl
theorem stab.SK {Δ : Wd} {a v n : Nat} {f : Int → Int} : stab Δ (SK (sFr Δ) (sS0 Δ) a v n f) := fun _ _ hq h => h.kept hq
theorem ES.mk {Δ : Wd} {a v n : Nat} {f : Int → Int} (hf : ∀ k, sR (f k)) (hn : n < 2147483648) : ES (eAnd Δ (SK (sFr Δ) (sS0 Δ) a v n f)) a v n f := ⟨fun _ h => h.2, hf, hn⟩
theorem EA.and {Δ : Wd} {b L : Nat} {f : Int → Int} {P : Heap → Prop} (h : EA Δ b L f) : EA (eAnd Δ P) b L f := ⟨fun H q => h.1 H q.1, h.2⟩
theorem ES.and {Δ : Wd} {a v n : Nat} {f : Int → Int} {P : Heap → Prop} (h : ES Δ a v n f) : ES (eAnd Δ P) a v n f := ⟨fun H q => h.1 H q.1, h.2⟩
def iUshr (x y : Int) : Int := ((sJ x).toUInt32 >>> ((sJ y).toUInt32 &&& Int32.toUInt32 31)).toInt32.toInt
theorem sR_ushr (x y : Int) : sR (iUshr x y) := sR_of _
section VY
variable {Γ : Cx} {Δ : Wd} {l : Launch} {R : Room} {n : Nat} {ex : Bool} {i r : MI} {kc sl : Nat} {Q : State → Prop} {pc : Nat} {lv lv' : List (Nat × Value)} {stk st0 As : List Value} {cc : ByteArray} {own : String} {nL : Nat}
theorem V.iushr {x y : Int} (h : okG Γ Δ l R cc own nL) (hdg : decode cc pc = .ok (.iushr, 1)) (kk : V Γ Δ n ex i r kc sl Q (pc + 1) lv (.int (sJ (iUshr x y)) :: stk)) : V Γ Δ n ex i r kc sl Q (pc) lv (.int (sJ y) :: .int (sJ x) :: stk) := by
  obtain ⟨p, l', e, R', s, m, args, below, meth, c, nL'⟩ := Γ
  obtain ⟨hx, hb, hml, hown, hts, hKK, hlk, rfl, rfl, rfl⟩ := h
  intro H locs ls hP hz hS hl
  have kk := kk H locs ls hP hz hS hl
  unfold iUshr at kk
  rw [sJ_of] at kk
  exact lv_iushr hx hb hdg rfl kk
theorem V.ealen {b L : Nat} {f : Int → Int} (h : okG Γ Δ l R cc own nL) (hE : EA Δ b L f) (hdg : decode cc pc = .ok (.arraylength, 1)) (kk : V Γ Δ n ex i r kc sl Q (pc + 1) lv (.int (sJ (L : Int)) :: stk)) : V Γ Δ n ex i r kc sl Q (pc) lv (.ref b :: stk) := by
  obtain ⟨p, l', e, R', s, m, args, below, meth, c, nL'⟩ := Γ
  obtain ⟨hx, hb, hml, hown, hts, hKK, hlk, rfl, rfl, rfl⟩ := h
  intro H locs ls hP hz hS hl
  obtain ⟨scr, h1, h2, h3, h4, h5⟩ := va_X.moved hKK.s0 (hE.1 H hP.2.2)
  exact W.alen (n := sJ (L : Int)) hx hb h1 h2 (by rw [h4]; exact Int32.ofInt_eq_ofNat.symm) rfl rfl hdg (kk H locs ls hP hz hS hl)
theorem V.eald {b L : Nat} {f : Int → Int} {x : Int} (h : okG Γ Δ l R cc own nL) (hE : EA Δ b L f) (hsx : sR x) (hin : 0 ≤ x ∧ x < (L : Int)) (hdg : decode cc pc = .ok (.iaload, 1)) (kk : V Γ Δ n ex i r kc sl Q (pc + 1) lv (.int (sJ (f x)) :: stk)) : V Γ Δ n ex i r kc sl Q (pc) lv (.int (sJ x) :: .ref b :: stk) := by
  obtain ⟨p, l', e, R', s, m, args, below, meth, c, nL'⟩ := Γ
  obtain ⟨hx, hb, hml, hown, hts, hKK, hlk, rfl, rfl, rfl⟩ := h
  intro H locs ls hP hz hS hl
  obtain ⟨scr, h1, h2, h3, h4, h5⟩ := va_X.moved hKK.s0 (hE.1 H hP.2.2)
  refine W.iald (v := .int (sJ (f x))) hx hb h1 h2 h3 (by rw [h4]; exact sJ_in hsx hin) ?_ rfl rfl hdg (kk H locs ls hP hz hS hl)
  rw [sJ_clamp hsx hin.1]
  refine (h5 _ (by omega)).trans ?_
  show some (Value.int (sJ (f ((x.toNat : Nat) : Int)))) = _
  rw [Int.toNat_of_nonneg hin.1]
theorem V.esval {a v n0 ix : Nat} {f : Int → Int} (h : okG Γ Δ l R cc own nL) (hE : ES Δ a v n0 f) (hlink : Cond.fieldLink own ix "java/lang/String" "value" "[B" ∈ gW) (hdg : decode cc pc = .ok (.getfield ix, 3)) (kk : V Γ Δ n ex i r kc sl Q (pc + 3) lv (.ref v :: stk)) : V Γ Δ n ex i r kc sl Q (pc) lv (.ref a :: stk) := by
  obtain ⟨p, l', e, R', s, m, args, below, meth, c, nL'⟩ := Γ
  obtain ⟨hx, hb, hml, hown, hts, hKK, hlk, rfl, rfl, rfl⟩ := h
  intro H locs ls hP hz hS hl
  obtain ⟨cf, k, fi, f', cell, h1, h2, h3, h4, h5, h6⟩ := va_OF.moved hKK.s0 (hE.1 H hP.2.2).2.2.1
  exact W.getf hx hb hown (hts _ hlink) h1 h2 h3 h4 (v := .ref v) h5 rfl rfl hdg (kk H locs ls hP hz hS hl)
theorem V.escoder {a v n0 ix : Nat} {f : Int → Int} (h : okG Γ Δ l R cc own nL) (hE : ES Δ a v n0 f) (hlink : Cond.fieldLink own ix "java/lang/String" "coder" "B" ∈ gW) (hdg : decode cc pc = .ok (.getfield ix, 3)) (kk : V Γ Δ n ex i r kc sl Q (pc + 3) lv (.int (sJ 0) :: stk)) : V Γ Δ n ex i r kc sl Q (pc) lv (.ref a :: stk) := by
  obtain ⟨p, l', e, R', s, m, args, below, meth, c, nL'⟩ := Γ
  obtain ⟨hx, hb, hml, hown, hts, hKK, hlk, rfl, rfl, rfl⟩ := h
  intro H locs ls hP hz hS hl
  obtain ⟨cf, k, fi, f', cell, h1, h2, h3, h4, h5, h6⟩ := va_OF.moved hKK.s0 (hE.1 H hP.2.2).2.1
  exact W.getf hx hb hown (hts _ hlink) h1 h2 h3 h4 (v := .int (sJ 0)) h5 rfl rfl hdg (kk H locs ls hP hz hS hl)
theorem V.eslen {a v n0 : Nat} {f : Int → Int} (h : okG Γ Δ l R cc own nL) (hE : ES Δ a v n0 f) (hdg : decode cc pc = .ok (.arraylength, 1)) (kk : V Γ Δ n ex i r kc sl Q (pc + 1) lv (.int (sJ (n0 : Int)) :: stk)) : V Γ Δ n ex i r kc sl Q (pc) lv (.ref v :: stk) := by
  obtain ⟨p, l', e, R', s, m, args, below, meth, c, nL'⟩ := Γ
  obtain ⟨hx, hb, hml, hown, hts, hKK, hlk, rfl, rfl, rfl⟩ := h
  intro H locs ls hP hz hS hl
  obtain ⟨cell, h1, h2, h3, h4, h5, h6, h7⟩ := va_T.moved hKK.s0 (hE.1 H hP.2.2).2.2.2
  have kk := kk H locs ls hP hz hS hl
  rw [show sJ (n0 : Int) = Int32.ofNat n0 from Int32.ofInt_eq_ofNat] at kk
  exact W.alen (n := Int32.ofNat n0) hx hb h1 h2 h5 rfl rfl hdg kk
theorem V.esbald {a v n0 : Nat} {f : Int → Int} {x : Int} (h : okG Γ Δ l R cc own nL) (hE : ES Δ a v n0 f) (hsx : sR x) (hin : 0 ≤ x ∧ x < (n0 : Int)) (hdg : decode cc pc = .ok (.baload, 1)) (kk : V Γ Δ n ex i r kc sl Q (pc + 1) lv (.int (sJ (f x)) :: stk)) : V Γ Δ n ex i r kc sl Q (pc) lv (.int (sJ x) :: .ref v :: stk) := by
  obtain ⟨p, l', e, R', s, m, args, below, meth, c, nL'⟩ := Γ
  obtain ⟨hx, hb, hml, hown, hts, hKK, hlk, rfl, rfl, rfl⟩ := h
  intro H locs ls hP hz hS hl
  obtain ⟨cell, h1, h2, h3, h4, h5, h6, h7⟩ := va_T.moved hKK.s0 (hE.1 H hP.2.2).2.2.2
  have hin2 := sJ_in hsx hin
  have hlt : (sJ x).toNatClampNeg < n0 := Nat.not_le.mp fun q => hin2 (Or.inr q)
  refine W.bald (v := .int (sJ (f x))) hx hb h1 h2 h3 (fun q => ?_) ?_ rfl rfl hdg (kk H locs ls hP hz hS hl)
  · rcases q with q | q
    · exact hin2 (Or.inl q)
    · omega
  · rw [h6 _ hlt, sJ_clamp hsx hin.1]
    show some (Value.int (sJ (f ((x.toNat : Nat) : Int)))) = _
    rw [Int.toNat_of_nonneg hin.1]
theorem ES.recv {a v n0 : Nat} {f : Int → Int} {s : State} {H : Heap} (hE : ES Δ a v n0 f) (hK : KK Δ s) (hH : sE Δ H) : ∃ cell : Cell, H[a]? = some cell ∧ cell.vm.isStatics = false ∧ s.vm.findClass "java/lang/String" = some cell.cls := by
  obtain ⟨cell, h1, h2, h3, -⟩ := va_O.moved hK.s0 (hE.1 H hH).1
  exact ⟨cell, h1, h2, h3⟩
end VY
section VYC
variable {Γ : Cx} {Δ : Wd} {l : Launch} {R : Room} {i r : MI} {kc sl : Nat} {Q : State → Prop} {pc : Nat} {lv : List (Nat × Value)} {stk st0 As : List Value} {cc : ByteArray} {own : String} {nL : Nat}
theorem V.callVDi {y : MethodName} {bytes : ByteArray} {maxL fr lo na ix : Nat} {ret : Option FieldType} {Qp : Int → MI → MI → Prop} {a v n0 : Nat} {f : Int → Int} (h : okG Γ Δ l R cc own nL) (hM : Met l y (Cond.code y bytes maxL ret :: gW) (sRm fr lo) (sPc Δ (.ref a :: As) i r) (sQi Δ Qp) 0 0 (sFr Δ)) (hY : mY y bytes maxL ret na) (hl1 : Cond.methodLink own ix y ∈ gW) (hl2 : Cond.instanceMethod y ∈ gW) (hl3 : Cond.selects y.cls y y ∈ gW) (hE : ES Δ a v n0 f) (hC : "java/lang/String" = y.cls)
    (hR : fr + 1 ≤ R.frames ∧ 8 + (maxL + 11) + lo ≤ R.locals ∧ kc ≤ R.cells ∧ sl ≤ R.slots) (hlen : As.length = na) (hst : (stk.map fun v => v.category).sum ≤ 8) (hdg : decode cc pc = .ok (.invokevirtual ix, 3)) (hs : st0 = As.reverse ++ .ref a :: stk) (kk : ∀ (x : Int) (i' r' : MI), sR x → okI i' → Wf r' → Qp x i' r' → V Γ Δ 504 false i' r' kc sl Q (pc + 3) lv (.int (sJ x) :: stk)) : V Γ Δ 504 false i r kc sl Q (pc) lv (st0) := by
  obtain ⟨p, l', e, R', s, m, args, below, meth, c, nL'⟩ := Γ
  obtain ⟨hx, hb, hml, hown, hts, hKK, hlk, rfl, rfl, rfl⟩ := h
  intro H locs ls hP hz hS hl
  subst hs
  obtain ⟨y1, y2, y3, y4, y5⟩ := hY
  exact va_calli (va_runV (As := As) (rest := stk) ⟨hx, hb, hml, hown, hts⟩ hM ⟨⟨rfl, rfl, hR.1, hR.2.1, gW_pay hts y2, List.mem_cons_self, hts _ y2, hts _ y1, ⟨y3, y4⟩, fun sig hh => by rw [hh] at y5; exact (Option.some.inj y5).symm, hts _ hl1⟩, hts _ hl2, hts _ hl3⟩ ⟨sPc_blind, by rw [← hC]; exact hE.recv hKK hP.2.2, fun U hU hW => ⟨rfl, by rw [hU]; exact hP, KK_warm hKK hW hS hU⟩⟩ rfl hlen hl.1 rfl (lv_room hst) hdg ⟨hR.2.2.1, hR.2.2.2⟩) hS (fun _ _ q => q) (fun _ q => q) (fun v u t H1 locs1 ht hvm hw hB hz1 hk1 hS1 => by
    obtain ⟨x, i', r'⟩ := u
    obtain ⟨rfl, g1, g2, g3, g4⟩ := hw
    have hB : sH Δ 504 i' r' t.heap := hB
    rw [ht] at hB
    exact kk x i' r' g1 g2 g3 g4 H1 locs1 ls hB (fun q => by cases q) hS1 hl)
theorem V.mcallSi {y : MethodName} {bytes : ByteArray} {maxL fr lo mc ms na ix : Nat} {ret : Option FieldType} {Qp : Int → MI → MI → Prop} (h : okG Γ Δ l R cc own nL) (hM : Met l y (Cond.code y bytes maxL ret :: gW) (sRx fr lo mc ms) (sPc Δ As i r) (sQi Δ Qp) mc ms (sFr Δ)) (hY : mY y bytes maxL ret na) (hl1 : Cond.methodLink own ix y ∈ gW) (hl2 : Cond.static y ∈ gW)
    (hR : fr + 1 ≤ R.frames ∧ 8 + (maxL + 11) + lo ≤ R.locals ∧ kc + mc ≤ R.cells ∧ sl + ms ≤ R.slots) (hlen : As.length = na) (hst : (stk.map fun v => v.category).sum ≤ 8) (hdg : decode cc pc = .ok (.invokestatic ix, 3)) (hs : st0 = As.reverse ++ stk) (kk : ∀ (x : Int) (i' r' : MI), sR x → okI i' → Wf r' → Qp x i' r' → V Γ Δ 504 false i' r' (kc + mc) (sl + ms) Q (pc + 3) lv (.int (sJ x) :: stk)) : V Γ Δ 504 false i r kc sl Q (pc) lv (st0) := by
  obtain ⟨p, l', e, R', s, m, args, below, meth, c, nL'⟩ := Γ
  obtain ⟨hx, hb, hml, hown, hts, hKK, hlk, rfl, rfl, rfl⟩ := h
  intro H locs ls hP hz hS hl
  subst hs
  obtain ⟨y1, y2, y3, y4, y5⟩ := hY
  exact va_calli (va_runS (As := As) (rest := stk) ⟨hx, hb, hml, hown, hts⟩ hM ⟨⟨rfl, rfl, hR.1, hR.2.1, gW_pay hts y2, List.mem_cons_self, hts _ y2, hts _ y1, ⟨y3, y4⟩, fun sig hh => by rw [hh] at y5; exact (Option.some.inj y5).symm, hts _ hl1⟩, hts _ hl2⟩ ⟨sPc_blind, fun U hU hW => ⟨rfl, by rw [hU]; exact hP, KK_warm hKK hW hS hU⟩⟩ rfl hlen hl.1 rfl (lv_room hst) hdg ⟨hR.2.2.1, hR.2.2.2⟩) hS (fun _ _ q => q) (fun _ q => q) (fun v u t H1 locs1 ht hvm hw hB hz1 hk1 hS1 => by
    obtain ⟨x, i', r'⟩ := u
    obtain ⟨rfl, g1, g2, g3, g4⟩ := hw
    have hB : sH Δ 504 i' r' t.heap := hB
    rw [ht] at hB
    exact kk x i' r' g1 g2 g3 g4 H1 locs1 ls hB (fun q => by cases q) hS1 hl)
theorem V.mcallSv {y : MethodName} {bytes : ByteArray} {maxL fr lo mc ms na ix : Nat} {ret : Option FieldType} {Qp : MI → MI → Prop} (h : okG Γ Δ l R cc own nL) (hM : Met l y (Cond.code y bytes maxL ret :: gW) (sRx fr lo mc ms) (sPc Δ As i r) (sQv Δ Qp) mc ms (sFr Δ)) (hY : mY y bytes maxL ret na) (hl1 : Cond.methodLink own ix y ∈ gW) (hl2 : Cond.static y ∈ gW)
    (hR : fr + 1 ≤ R.frames ∧ 8 + (maxL + 11) + lo ≤ R.locals ∧ kc + mc ≤ R.cells ∧ sl + ms ≤ R.slots) (hlen : As.length = na) (hst : (stk.map fun v => v.category).sum ≤ 8) (hdg : decode cc pc = .ok (.invokestatic ix, 3)) (hs : st0 = As.reverse ++ stk) (kk : ∀ (i' r' : MI), okI i' → Wf r' → Qp i' r' → V Γ Δ 504 false i' r' (kc + mc) (sl + ms) Q (pc + 3) lv (stk)) : V Γ Δ 504 false i r kc sl Q (pc) lv (st0) := by
  obtain ⟨p, l', e, R', s, m, args, below, meth, c, nL'⟩ := Γ
  obtain ⟨hx, hb, hml, hown, hts, hKK, hlk, rfl, rfl, rfl⟩ := h
  intro H locs ls hP hz hS hl
  subst hs
  obtain ⟨y1, y2, y3, y4, y5⟩ := hY
  exact va_callv (va_runS (As := As) (rest := stk) ⟨hx, hb, hml, hown, hts⟩ hM ⟨⟨rfl, rfl, hR.1, hR.2.1, gW_pay hts y2, List.mem_cons_self, hts _ y2, hts _ y1, ⟨y3, y4⟩, fun sig hh => by rw [hh] at y5; exact (Option.some.inj y5).symm, hts _ hl1⟩, hts _ hl2⟩ ⟨sPc_blind, fun U hU hW => ⟨rfl, by rw [hU]; exact hP, KK_warm hKK hW hS hU⟩⟩ rfl hlen hl.1 rfl (lv_room hst) hdg ⟨hR.2.2.1, hR.2.2.2⟩) hS (fun _ _ q => q) (fun _ q => q) (fun u t H1 locs1 ht hvm hw hB hz1 hk1 hS1 => by
    obtain ⟨i', r'⟩ := u
    obtain ⟨g2, g3, g4⟩ := hw
    have hB : sH Δ 504 i' r' t.heap := hB
    rw [ht] at hB
    exact kk i' r' g2 g3 g4 H1 locs1 ls hB (fun q => by cases q) hS1 hl)
/-- a String of these bytes comes back; the world is as it was -/
def sQs (Δ : Wd) (i r : MI) (n : Nat) (f : Int → Int) : Array Value → State → Outcome → State → Prop := va_Qr (fun (_ : Unit) => True) (fun _ a t => sH Δ 504 i r t.heap ∧ ∃ v, SK (sFr Δ) (sS0 Δ) a v n f t.heap) (sFr Δ)
theorem V.callSs {y : MethodName} {bytes : ByteArray} {maxL fr lo mc ms na ix n0 : Nat} {f : Int → Int} {ret : Option FieldType} (h : okG Γ Δ l R cc own nL) (hM : Met l y (Cond.code y bytes maxL ret :: gW) (sRx fr lo mc ms) (sPc Δ As i r) (sQs Δ i r n0 f) mc ms (sFr Δ)) (hY : mY y bytes maxL ret na) (hl1 : Cond.methodLink own ix y ∈ gW) (hl2 : Cond.static y ∈ gW)
    (hR : fr + 1 ≤ R.frames ∧ 8 + (maxL + 11) + lo ≤ R.locals ∧ kc + mc ≤ R.cells ∧ sl + ms ≤ R.slots) (hlen : As.length = na) (hst : (stk.map fun v => v.category).sum ≤ 8) (hdg : decode cc pc = .ok (.invokestatic ix, 3)) (hs : st0 = As.reverse ++ stk)
    (kk : ∀ a v : Nat, V Γ (eAnd Δ (SK (sFr Δ) (sS0 Δ) a v n0 f)) 504 false i r (kc + mc) (sl + ms) Q (pc + 3) lv (.ref a :: stk)) : V Γ Δ 504 false i r kc sl Q (pc) lv (st0) := by
  obtain ⟨p, l', e, R', s, m, args, below, meth, c, nL'⟩ := Γ
  obtain ⟨hx, hb, hml, hown, hts, hKK, hlk, rfl, rfl, rfl⟩ := h
  intro H locs ls hP hz hS hl
  subst hs
  obtain ⟨y1, y2, y3, y4, y5⟩ := hY
  exact va_callr (va_runS (As := As) (rest := stk) ⟨hx, hb, hml, hown, hts⟩ hM ⟨⟨rfl, rfl, hR.1, hR.2.1, gW_pay hts y2, List.mem_cons_self, hts _ y2, hts _ y1, ⟨y3, y4⟩, fun sig hh => by rw [hh] at y5; exact (Option.some.inj y5).symm, hts _ hl1⟩, hts _ hl2⟩ ⟨sPc_blind, fun U hU hW => ⟨rfl, by rw [hU]; exact hP, KK_warm hKK hW hS hU⟩⟩ rfl hlen hl.1 rfl (lv_room hst) hdg ⟨hR.2.2.1, hR.2.2.2⟩) hS (fun _ _ q => q) (fun _ q => q) (fun u a t H1 locs1 ht hvm hw hB hz1 hk1 hS1 => by
    obtain ⟨hB, v, hv⟩ := hB
    rw [ht] at hB hv
    exact kk a v H1 locs1 ls ⟨hB.1, hB.2.1, hB.2.2, hv⟩ (fun q => by cases q) hS1 hl)
theorem V.xcallSi {y : MethodName} {bytes : ByteArray} {maxL fr lo mc ms na ix : Nat} {ret : Option FieldType} {Qp : Int → MI → MI → Prop} {Xp : String → MI → MI → Prop} (h : okG Γ Δ l R cc own nL) (hM : vx_Met l y (Cond.code y bytes maxL ret :: gW) (sRx fr lo mc ms) (sPc Δ As i r) (sQi Δ Qp) (sX Δ Xp) mc ms (sFr Δ)) (hY : mY y bytes maxL ret na) (hl1 : Cond.methodLink own ix y ∈ gW) (hl2 : Cond.static y ∈ gW)
    (hR : fr + 1 ≤ R.frames ∧ 8 + (maxL + 11) + lo ≤ R.locals ∧ kc + mc ≤ R.cells ∧ sl + ms ≤ R.slots) (hlen : As.length = na) (hst : (stk.map fun v => v.category).sum ≤ 8) (hdg : decode cc pc = .ok (.invokestatic ix, 3)) (hs : st0 = As.reverse ++ stk) (kx : ∀ (E : String) (i' r' : MI), okI i' → Wf r' → Xp E i' r' → VX Γ Δ i' r' (kc + mc) (sl + ms) Q pc lv stk E) (kk : ∀ (x : Int) (i' r' : MI), sR x → okI i' → Wf r' → Qp x i' r' → V Γ Δ 504 false i' r' (kc + mc) (sl + ms) Q (pc + 3) lv (.int (sJ x) :: stk)) : V Γ Δ 504 false i r kc sl Q (pc) lv (st0) := by
  obtain ⟨p, l', e, R', s, m, args, below, meth, c, nL'⟩ := Γ
  obtain ⟨hx, hb, hml, hown, hts, hKK, hlk, rfl, rfl, rfl⟩ := h
  intro H locs ls hP hz hS hl
  subst hs
  obtain ⟨y1, y2, y3, y4, y5⟩ := hY
  exact vx_calli (vx_runS (As := As) (rest := stk) ⟨hx, hb, hml, hown, hts⟩ hM ⟨⟨rfl, rfl, hR.1, hR.2.1, gW_pay hts y2, List.mem_cons_self, hts _ y2, hts _ y1, ⟨y3, y4⟩, fun sig hh => by rw [hh] at y5; exact (Option.some.inj y5).symm, hts _ hl1⟩, hts _ hl2⟩ ⟨sPc_blind, fun U hU hW => ⟨rfl, by rw [hU]; exact hP, KK_warm hKK hW hS hU⟩⟩ rfl hlen hl.1 rfl (lv_room hst) hdg ⟨hR.2.2.1, hR.2.2.2⟩) hS (fun _ _ q => q) (fun _ q => q) (fun _ _ q => q) (fun E ce q9 u t H1 locs1 ht hvm hw hB hz1 hk1 hS1 hq hv hcl => by
    obtain ⟨i', r'⟩ := u
    obtain ⟨g1, g2⟩ := hw
    obtain ⟨g3, hB⟩ := hB
    have hB : sH Δ 504 i' r' t.heap := hB
    rw [ht] at hB
    exact kx E i' r' g1 g2 g3 H1 locs1 ls q9 ce hB hS1 hl hq hv hcl) (fun v u t H1 locs1 ht hvm hw hB hz1 hk1 hS1 => by
    obtain ⟨x, i', r'⟩ := u
    obtain ⟨rfl, g1, g2, g3, g4⟩ := hw
    have hB : sH Δ 504 i' r' t.heap := hB
    rw [ht] at hB
    exact kk x i' r' g1 g2 g3 g4 H1 locs1 ls hB (fun q => by cases q) hS1 hl)
end VYC
theorem Cm.i {l : Launch} {Δ : Wd} {y : MethodName} {bytes : ByteArray} {maxL fr lo mc ms : Nat} {ret : Option FieldType} {av : List Value} {i r : MI} {ty : FieldType} {Qp : Int → MI → MI → Prop} (hy : plainName y.cls = true) (hret : ret = some ty) (hlen : (lg_sl av).length ≤ maxL) (walk : ∀ (Γ : Cx) (Q : State → Prop), okG Γ Δ l (sRx fr lo mc ms) bytes y.cls maxL → (∀ {pc : Nat} {lv : List (Nat × Value)} {x : Int} {i' r' : MI} {kc sl : Nat}, decode bytes pc = .ok (.ireturn, 1) → sR x → narrow ty (.int (sJ x)) = .int (sJ x) → kc ≤ mc → sl ≤ ms → okI i' → Wf r' → Qp x i' r' → V Γ Δ 504 false i' r' kc sl Q pc lv [.int (sJ x)]) → V Γ Δ 504 false i r 0 0 Q 0 (lv_args 0 av) []) : Met l y (Cond.code y bytes maxL ret :: gW) (sRx fr lo mc ms) (sPc Δ av i r) (sQi Δ Qp) mc ms (sFr Δ) := by
  refine Met.ofW (cc := bytes) (maxL := maxL) (ret := ret) hy rfl ?_
  intro p e s m args below meth c s₁ B hml hv
  obtain ⟨rfl, hP, hKK⟩ := hv
  have hts := atoms_spec (ws := Cond.code y bytes maxL ret :: gW) B.pre
  have hown : s.vm.findClass y.cls = some m.cls := findClass_of_methodNamed B.named
  have hlk : meth.locks = false := B.notSynchronized
  have hx := B.exec
  have hb := B.bytes
  have hr := B.returns
  have hl := lv_entry av (n := maxL) hlen
  rw [lg_entry_eq]
  generalize (lg_sl av ++ List.replicate (maxL - (lg_sl av).length) Slot.unset).toArray = ls at hl ⊢
  have hG : okG (p, l, e, sRx fr lo mc ms, s, m, av.toArray, below, meth, c, maxL) Δ l (sRx fr lo mc ms) bytes y.cls maxL := ⟨hx, hb, hml, hown, fun w hw => hts w (List.mem_cons_of_mem _ hw), hKK, hlk, rfl, rfl, rfl⟩
  refine walk _ _ hG ?_ s.heap [] ls hP (fun q => by cases q) va_S.rf hl
  intro pc lv x i' r' kc sl hdg hsx hnar hkc hsl hi hw hq H locs ls hP hz hS hl
  exact W.widen hkc hsl (W.zret (v := sJ x) hx hb (hr.trans hret) hnar (fun t ht hW => ⟨⟨sJ x, (x, i', r'), rfl, ⟨rfl, hsx, hi, hw, hq⟩, by rw [← ht] at hP; exact hP⟩, hS.F ht⟩) hS.2.2 hdg hlk)
theorem Cm.v {l : Launch} {Δ : Wd} {y : MethodName} {bytes : ByteArray} {maxL fr lo mc ms : Nat} {ret : Option FieldType} {av : List Value} {i r : MI} {Qp : MI → MI → Prop} (hy : plainName y.cls = true) (hret : ret = none) (hlen : (lg_sl av).length ≤ maxL) (walk : ∀ (Γ : Cx) (Q : State → Prop), okG Γ Δ l (sRx fr lo mc ms) bytes y.cls maxL → (∀ {pc : Nat} {lv : List (Nat × Value)} {i' r' : MI} {kc sl : Nat}, decode bytes pc = .ok (.return_, 1) → kc ≤ mc → sl ≤ ms → okI i' → Wf r' → Qp i' r' → V Γ Δ 504 false i' r' kc sl Q pc lv []) → V Γ Δ 504 false i r 0 0 Q 0 (lv_args 0 av) []) : Met l y (Cond.code y bytes maxL ret :: gW) (sRx fr lo mc ms) (sPc Δ av i r) (sQv Δ Qp) mc ms (sFr Δ) := by
  refine Met.ofW (cc := bytes) (maxL := maxL) (ret := ret) hy rfl ?_
  intro p e s m args below meth c s₁ B hml hv
  obtain ⟨rfl, hP, hKK⟩ := hv
  have hts := atoms_spec (ws := Cond.code y bytes maxL ret :: gW) B.pre
  have hown : s.vm.findClass y.cls = some m.cls := findClass_of_methodNamed B.named
  have hlk : meth.locks = false := B.notSynchronized
  have hx := B.exec
  have hb := B.bytes
  have hr := B.returns
  have hl := lv_entry av (n := maxL) hlen
  rw [lg_entry_eq]
  generalize (lg_sl av ++ List.replicate (maxL - (lg_sl av).length) Slot.unset).toArray = ls at hl ⊢
  have hG : okG (p, l, e, sRx fr lo mc ms, s, m, av.toArray, below, meth, c, maxL) Δ l (sRx fr lo mc ms) bytes y.cls maxL := ⟨hx, hb, hml, hown, fun w hw => hts w (List.mem_cons_of_mem _ hw), hKK, hlk, rfl, rfl, rfl⟩
  refine walk _ _ hG ?_ s.heap [] ls hP (fun q => by cases q) va_S.rf hl
  intro pc lv i' r' kc sl hdg hkc hsl hi hw hq H locs ls hP hz hS hl
  exact W.widen hkc hsl (W.vret hx hb (hr.trans hret) (fun t ht hW => ⟨⟨(i', r'), rfl, ⟨hi, hw, hq⟩, by rw [← ht] at hP; exact hP⟩, hS.F ht⟩) hS.2.2 hdg hlk)
