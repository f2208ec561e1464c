theorem kw_1450 : Cond.code yJ1_toBytes_a14e5 cJ1_toBytes_a14e5 1 (some (.array .byte)) ∈ gW := gw_in (gt_6 (List.mem_of_getElem? (i := 149) (by decide +kernel))) (by decide +kernel)
theorem kw_1509 : Cond.code yJ5_append_cf1ce cJ5_append_cf1ce 3 (some (.object "java/lang/AbstractStringBuilder")) ∈ gW := gw_in (gt_6 (List.mem_of_getElem? (i := 208) (by decide +kernel))) (by decide +kernel)
theorem kw_1533 : Cond.code yJ7_copyOf_9075b cJ7_copyOf_9075b 3 (some (.array .byte)) ∈ gW := gw_in (gt_6 (List.mem_of_getElem? (i := 232) (by decide +kernel))) (by decide +kernel)
theorem kw_1535 : Cond.sameMethod "[B" "java/lang/Object" "clone" "()Ljava/lang/Object;" ∈ gW := gw_in (gt_6 (List.mem_of_getElem? (i := 234) (by decide +kernel))) (by decide +kernel)
theorem kw_1536 : Cond.native ⟨"java/lang/Object", "clone", "()Ljava/lang/Object;"⟩ ∈ gW := gw_in (gt_6 (List.mem_of_getElem? (i := 235) (by decide +kernel))) (by decide +kernel)
theorem kw_1544 : Cond.native ⟨"java/lang/System", "arraycopy", "(Ljava/lang/Object;ILjava/lang/Object;II)V"⟩ ∈ gW := gw_in (gt_7 (List.mem_of_getElem? (i := 3) (by decide +kernel))) (by decide +kernel)
theorem kw_1596 : Cond.code yJ6_toString_b52d3 cJ6_toString_b52d3 3 (some (.object "java/lang/String")) ∈ gW := gw_in (gt_7 (List.mem_of_getElem? (i := 55) (by decide +kernel))) (by decide +kernel)
theorem kw_1623 : Cond.code yJ5_append_c97b9 cJ5_append_c97b9 4 (some (.object "java/lang/AbstractStringBuilder")) ∈ gW := gw_in (gt_7 (List.mem_of_getElem? (i := 82) (by decide +kernel))) (by decide +kernel)
theorem kw_1645 : Cond.code yJ5_getValue_6d5f1 cJ5_getValue_6d5f1 1 (some (.array .byte)) ∈ gW := gw_in (gt_7 (List.mem_of_getElem? (i := 104) (by decide +kernel))) (by decide +kernel)
theorem kw_1648 : Cond.sameMethod "java/lang/AbstractStringBuilder" "java/lang/AbstractStringBuilder" "length" "()I" ∈ gW := gw_in (gt_7 (List.mem_of_getElem? (i := 107) (by decide +kernel))) (by decide +kernel)
theorem kw_1657 : Cond.code yJ7_copyOfRange_39247 cJ7_copyOfRange_39247 3 (some (.array .byte)) ∈ gW := gw_in (gt_7 (List.mem_of_getElem? (i := 116) (by decide +kernel))) (by decide +kernel)
theorem kw_1660 : Cond.code yJ7_copyOfRangeByte_39247 cJ7_copyOfRangeByte_39247 5 (some (.array .byte)) ∈ gW := gw_in (gt_7 (List.mem_of_getElem? (i := 119) (by decide +kernel))) (by decide +kernel)
theorem kw_1698 : Cond.code yJ5_append_3fe6f cJ5_append_3fe6f 2 (some (.object "java/lang/AbstractStringBuilder")) ∈ gW := gw_in (gt_7 (List.mem_of_getElem? (i := 157) (by decide +kernel))) (by decide +kernel)
theorem kw_1791 : Cond.sameMethod "java/lang/AbstractStringBuilder" "java/lang/AbstractStringBuilder" "append" "(Ljava/lang/String;)Ljava/lang/AbstractStringBuilder;" ∈ gW := gw_in (gt_8 (List.mem_of_getElem? (i := 10) (by decide +kernel))) (by decide +kernel)
theorem kw_1798 : Cond.sameMethod "java/lang/AbstractStringBuilder" "java/lang/AbstractStringBuilder" "append" "(I)Ljava/lang/AbstractStringBuilder;" ∈ gW := gw_in (gt_8 (List.mem_of_getElem? (i := 17) (by decide +kernel))) (by decide +kernel)
theorem kw_1799 : Cond.sameMethod "java/lang/AbstractStringBuilder" "java/lang/AbstractStringBuilder" "append" "(C)Ljava/lang/AbstractStringBuilder;" ∈ gW := gw_in (gt_8 (List.mem_of_getElem? (i := 18) (by decide +kernel))) (by decide +kernel)
theorem mY_J0_getBytes_840e7 : mY yJ0_getBytes_840e7 cJ0_getBytes_840e7 4 none 3 := ⟨kw_119, kw_1585, by decide, by decide, by decide +kernel⟩
theorem mY_J0_init_031fb : mY yJ0_init_031fb cJ0_init_031fb 3 none 2 := ⟨kw_119, kw_1453, by decide, by decide, by decide +kernel⟩
theorem mY_J0_init_81219 : mY yJ0_init_81219 cJ0_init_81219 2 none 1 := ⟨kw_119, kw_1637, by decide, by decide, by decide +kernel⟩
theorem mY_J0_init_db425 : mY yJ0_init_db425 cJ0_init_db425 5 none 2 := ⟨kw_119, kw_1640, by decide, by decide, by decide +kernel⟩
theorem mY_J1_toBytes_a14e5 : mY yJ1_toBytes_a14e5 cJ1_toBytes_a14e5 1 (some (.array .byte)) 1 := ⟨kw_120, kw_1450, by decide, by decide, by decide +kernel⟩
theorem mY_J4_length_8abf5 : mY yJ4_length_8abf5 cJ4_length_8abf5 1 (some .int) 0 := ⟨kw_130, kw_1651, by decide, by decide, by decide +kernel⟩
theorem mY_J5_append_3fe6f : mY yJ5_append_3fe6f cJ5_append_3fe6f 2 (some (.object "java/lang/AbstractStringBuilder")) 1 := ⟨kw_129, kw_1698, by decide, by decide, by decide +kernel⟩
theorem mY_J5_append_c97b9 : mY yJ5_append_c97b9 cJ5_append_c97b9 4 (some (.object "java/lang/AbstractStringBuilder")) 1 := ⟨kw_129, kw_1623, by decide, by decide, by decide +kernel⟩
theorem mY_J5_append_cf1ce : mY yJ5_append_cf1ce cJ5_append_cf1ce 3 (some (.object "java/lang/AbstractStringBuilder")) 1 := ⟨kw_129, kw_1509, by decide, by decide, by decide +kernel⟩
theorem mY_J5_ensureCapacityInternal_d00df : mY yJ5_ensureCapacityInternal_d00df cJ5_ensureCapacityInternal_d00df 3 none 1 := ⟨kw_129, kw_1517, by decide, by decide, by decide +kernel⟩
theorem mY_J5_getValue_6d5f1 : mY yJ5_getValue_6d5f1 cJ5_getValue_6d5f1 1 (some (.array .byte)) 0 := ⟨kw_129, kw_1645, by decide, by decide, by decide +kernel⟩
theorem mY_J5_inflateIfNeededFor_a7421 : mY yJ5_inflateIfNeededFor_a7421 cJ5_inflateIfNeededFor_a7421 2 none 1 := ⟨kw_129, kw_1561, by decide, by decide, by decide +kernel⟩
theorem mY_J5_init_d00df : mY yJ5_init_d00df cJ5_init_d00df 2 none 1 := ⟨kw_129, kw_1478, by decide, by decide, by decide +kernel⟩
theorem mY_J5_isLatin1_aae02 : mY yJ5_isLatin1_aae02 cJ5_isLatin1_aae02 1 (some .boolean) 0 := ⟨kw_129, kw_1549, by decide, by decide, by decide +kernel⟩
theorem mY_J5_length_8abf5 : mY yJ5_length_8abf5 cJ5_length_8abf5 1 (some .int) 0 := ⟨kw_129, kw_1653, by decide, by decide, by decide +kernel⟩
theorem mY_J5_newCapacity_0f7a4 : mY yJ5_newCapacity_0f7a4 cJ5_newCapacity_0f7a4 6 (some .int) 1 := ⟨kw_129, kw_1521, by decide, by decide, by decide +kernel⟩
theorem mY_J5_putStringAt_47b60 : mY yJ5_putStringAt_47b60 cJ5_putStringAt_47b60 3 none 2 := ⟨kw_129, kw_1557, by decide, by decide, by decide +kernel⟩
theorem mY_J6_getChars_ba4f3 : mY yJ6_getChars_ba4f3 cJ6_getChars_ba4f3 7 (some .int) 3 := ⟨kw_135, kw_1603, by decide, by decide, by decide +kernel⟩
theorem mY_J6_stringSize_0f7a4 : mY yJ6_stringSize_0f7a4 cJ6_stringSize_0f7a4 4 (some .int) 1 := ⟨kw_135, kw_1599, by decide, by decide, by decide +kernel⟩
theorem mY_J6_toString_b52d3 : mY yJ6_toString_b52d3 cJ6_toString_b52d3 3 (some (.object "java/lang/String")) 1 := ⟨kw_135, kw_1596, by decide, by decide, by decide +kernel⟩
theorem mY_J7_checkLength_df160 : mY yJ7_checkLength_df160 cJ7_checkLength_df160 2 none 2 := ⟨kw_132, kw_1663, by decide, by decide, by decide +kernel⟩
theorem mY_J7_copyOfRangeByte_39247 : mY yJ7_copyOfRangeByte_39247 cJ7_copyOfRangeByte_39247 5 (some (.array .byte)) 3 := ⟨kw_132, kw_1660, by decide, by decide, by decide +kernel⟩
theorem mY_J7_copyOfRange_39247 : mY yJ7_copyOfRange_39247 cJ7_copyOfRange_39247 3 (some (.array .byte)) 3 := ⟨kw_132, kw_1657, by decide, by decide, by decide +kernel⟩
theorem mY_J7_copyOf_9075b : mY yJ7_copyOf_9075b cJ7_copyOf_9075b 3 (some (.array .byte)) 2 := ⟨kw_132, kw_1533, by decide, by decide, by decide +kernel⟩
theorem mY_J8_newLength_cabcc : mY yJ8_newLength_cabcc cJ8_newLength_cabcc 4 (some .int) 3 := ⟨kw_131, kw_1524, by decide, by decide, by decide +kernel⟩
/-! ===== texts: what their methods stand on ===== -/
theorem sR_b {x : Int} (h : -2147483648 ≤ x ∧ x < 2147483648) : sR x := h
theorem shl0 {x : Int} (hx : sR x) : iShl x 0 = x := by
  unfold iShl
  have e : sJ 0 &&& 31 = 0 := by decide +kernel
  rw [e, Int32.shiftLeft_zero]
  exact sJ_toInt hx
theorem shr0 {x : Int} (hx : sR x) : iShr x 0 = x := by
  unfold iShr
  have e : sJ 0 &&& 31 = 0 := by decide +kernel
  rw [e, Int32.shiftRight_zero]
  exact sJ_toInt hx
theorem narB {x : Int} (h : 0 ≤ x ∧ x < 128) : vp_nar .byte (sJ x) = sJ x := by
  rw [vp_nar_byte]
  apply Int32.toInt_inj.1
  have hx : sR x := ⟨by omega, by omega⟩
  rw [Int8.toInt_toInt32, Int32.toInt_toInt8, sJ_toInt hx]
  exact Int.bmod_eq_of_le (by omega) (by omega)
theorem hin_J4 : ∀ w ∈ u_ws RJ4 TJ4 4, w ∈ gW := all_map (fun k hk => by
  by_cases e0 : k = 0; subst e0; exact kw_1492
  by_cases e1 : k = 1; subst e1; exact kw_1494
  by_cases e2 : k = 2; subst e2; exact kw_1496
  by_cases e3 : k = 3; subst e3; exact kw_1498
  omega)
section T2
variable {Γ : Cx} {Δ : Wd} {l : Launch} {R : Room} {es : List TE} {kc sl : Nat} {Q : State → Prop} {pc : Nat} {lv lv' : List (Nat × Value)} {stk : List Value} {cc : ByteArray} {own : String} {nL : Nat}
theorem T.iaddz {x y : Int} (z : Int) (h : okG Γ Δ l R cc own nL) (hdg : decode cc pc = .ok (.iadd, 1)) (hz : x + y = z) (hr : sR z) (kk : T Γ Δ es kc sl Q (pc + 1) lv (.int (sJ z) :: stk)) : T Γ Δ es kc sl Q (pc) lv (.int (sJ y) :: .int (sJ x) :: stk) := T.iadd h hdg (by rw [hz, wr_eq hr]; exact kk)
theorem T.isubz {x y : Int} (z : Int) (h : okG Γ Δ l R cc own nL) (hdg : decode cc pc = .ok (.isub, 1)) (hz : x - y = z) (hr : sR z) (kk : T Γ Δ es kc sl Q (pc + 1) lv (.int (sJ z) :: stk)) : T Γ Δ es kc sl Q (pc) lv (.int (sJ y) :: .int (sJ x) :: stk) := T.isub h hdg (by rw [hz, wr_eq hr]; exact kk)
theorem T.imulz {x y : Int} (z : Int) (h : okG Γ Δ l R cc own nL) (hdg : decode cc pc = .ok (.imul, 1)) (hz : x * y = z) (hr : sR z) (kk : T Γ Δ es kc sl Q (pc + 1) lv (.int (sJ z) :: stk)) : T Γ Δ es kc sl Q (pc) lv (.int (sJ y) :: .int (sJ x) :: stk) := T.imul h hdg (by rw [hz, wr_eq hr]; exact kk)
theorem T.inegz {x : Int} (z : Int) (h : okG Γ Δ l R cc own nL) (hdg : decode cc pc = .ok (.ineg, 1)) (hz : -x = z) (hr : sR z) (kk : T Γ Δ es kc sl Q (pc + 1) lv (.int (sJ z) :: stk)) : T Γ Δ es kc sl Q (pc) lv (.int (sJ x) :: stk) := T.ineg h hdg (by rw [hz, wr_eq hr]; exact kk)
theorem T.ishlz {x : Int} (h : okG Γ Δ l R cc own nL) (hdg : decode cc pc = .ok (.ishl, 1)) (hr : sR x) (kk : T Γ Δ es kc sl Q (pc + 1) lv (.int (sJ x) :: stk)) : T Γ Δ es kc sl Q (pc) lv (.int (sJ 0) :: .int (sJ x) :: stk) := T.ishl h hdg (by rw [shl0 hr]; exact kk)
theorem T.ishrz {x : Int} (h : okG Γ Δ l R cc own nL) (hdg : decode cc pc = .ok (.ishr, 1)) (hr : sR x) (kk : T Γ Δ es kc sl Q (pc + 1) lv (.int (sJ x) :: stk)) : T Γ Δ es kc sl Q (pc) lv (.int (sJ 0) :: .int (sJ x) :: stk) := T.ishr h hdg (by rw [shr0 hr]; exact kk)
theorem T.i2bz {x : Int} (h : okG Γ Δ l R cc own nL) (hdg : decode cc pc = .ok (.i2b, 1)) (hx : 0 ≤ x ∧ x < 128) (kk : T Γ Δ es kc sl Q (pc + 1) lv (.int (sJ x) :: stk)) : T Γ Δ es kc sl Q (pc) lv (.int (sJ x) :: stk) := T.i2b h hdg (by rw [sJ_of, ← vp_nar_byte, narB hx]; exact kk)
theorem T.i2cz {x : Int} (h : okG Γ Δ l R cc own nL) (hdg : decode cc pc = .ok (.i2c, 1)) (hx : 0 ≤ x ∧ x < 65536) (kk : T Γ Δ es kc sl Q (pc + 1) lv (.int (sJ x) :: stk)) : T Γ Δ es kc sl Q (pc) lv (.int (sJ x) :: stk) := T.i2c h ⟨by omega, by omega⟩ hdg (by rw [show x % 65536 = x by omega]; exact kk)
theorem T.iincz {j : Nat} {a x : Int} (z : Int) (h : okG Γ Δ l R cc own nL) (hdg : decode cc pc = .ok (.iinc j a, 3)) (k : Nat) (hk : lv[k]? = some (j, .int (sJ x))) (hn : j < nL) (hz : x + a = z) (hr : sR z) (hv : sPut j (.int (sJ z)) lv = lv') (kk : T Γ Δ es kc sl Q (pc + 3) lv' stk) : T Γ Δ es kc sl Q (pc) lv stk := T.iinc h hdg k hk hn (by rw [hz, wr_eq hr]; exact hv) kk
theorem T.iz {x z : Int} (hz : x = z) (kk : T Γ Δ es kc sl Q pc lv (.int (sJ z) :: stk)) : T Γ Δ es kc sl Q pc lv (.int (sJ x) :: stk) := by rw [hz]; exact kk
end T2
/-- the private methods of the builder, and its superclass, in the tables at the start -/
def tdL : List Cond := [.superclass RJ4 RJ5, .privateMethod yJ5_ensureCapacityInternal_d00df, .privateMethod yJ5_newCapacity_0f7a4, .privateMethod yJ5_putStringAt_47b60, .privateMethod yJ5_inflateIfNeededFor_a7421]
def dOnes (j : Nat) : Int := 48 + ((j % 10 : Nat) : Int)
def dTens (j : Nat) : Int := 48 + ((j / 10 : Nat) : Int)
def TD1 (Δ : Wd) (n : String) (f : Nat → Int) : Prop := ∃ t, ∀ H, sE Δ H → va_Z "java/lang/Integer" n "[B" (.ref t) (fun _ => False) (sS0 Δ) H ∧ va_T .byte t 100 (fun j => .int (sJ (f j))) (fun _ => False) (sS0 Δ) H
def TD (Δ : Wd) : Prop := (∀ w ∈ tdL, va_Nw w (sS0 Δ)) ∧ TD1 Δ "DigitOnes" dOnes ∧ TD1 Δ "DigitTens" dTens
theorem tsup_moved {a b : String} {u U : State} (hvm : u.vm.Alike U.vm) (h : va_Nw (.superclass a b) u) : va_Nw (.superclass a b) U := by
  unfold va_Nw Cond.before at *
  simp only [Cond.holds, Cond.value] at *
  cases e1 : u.vm.findClass a with
  | none => rw [e1] at h; simp at h
  | some c =>
    cases e2 : u.vm.findClass b with
    | none => rw [e1, e2] at h; simp at h
    | some q =>
      cases e3 : u.vm.classes[c]? with
      | none => rw [e1, e2] at h; simp [e3] at h
      | some k =>
        cases e4 : u.vm.classes[q]? with
        | none => rw [e1, e2] at h; simp [e3, e4] at h
        | some kp =>
          obtain ⟨k', g1, g2⟩ := hvm.2.2 _ _ e3
          obtain ⟨kp', g3, g4⟩ := hvm.2.2 _ _ e4
          have x1 : k'.super = k.super := by rw [g2]
          have x2 : k'.kind = k.kind := by rw [g2]
          have x3 : kp'.kind = kp.kind := by rw [g4]
          have x4 : k'.isInterface = k.isInterface := by rw [g2]; rfl
          rw [hvm.findClass, hvm.findClass, e1, e2]
          rw [e1, e2] at h
          simp only [e3, e4, Option.bind_some, Option.map_some] at h
          simp only [g1, g3, Option.bind_some, Option.map_some, x1, x2, x3, x4]
          exact h
theorem TD.sup {Δ : Wd} (h : TD Δ) : tWd Δ (.superclass RJ4 RJ5) := fun U A hK _ => va_Nw.use rfl (tsup_moved hK.s0 (h.1 _ (by simp [tdL])))
theorem tpriv_moved {y : MethodName} {u U : State} (hvm : u.vm.Alike U.vm) (h : va_Nw (.privateMethod y) u) : va_Nw (.privateMethod y) U := va_tabs rfl (rfl : (u.setVm U.vm).vm = U.vm) (by rw [Cond.privateMethod_setVm hvm]; exact h)
theorem TD.sel {Δ : Wd} (h : TD Δ) {y : MethodName} (hy : y.cls = RJ5) (hp : Cond.privateMethod y ∈ tdL) (hi : Cond.instanceMethod y ∈ gW) : tWd Δ (.selects RJ4 y y) := by
  intro U A hK hts
  have hpriv : (Cond.privateMethod y).before A U = true := va_Nw.use rfl (tpriv_moved hK.s0 (h.1 _ hp))
  have hinst := hts _ hi
  obtain ⟨hfc, kC, hkC, -⟩ := (hK.1.1 14 _ rfl).2
  have hsl := hts _ kw_1548
  obtain ⟨c2, r2, m2, q1, q2, q3, q4, kP, hkP, hkPi⟩ := Cond.selects_spec hsl
  obtain ⟨mk, methM, hnamed, hmethM, -, -⟩ := Cond.instanceMethod_spec hinst
  have hfound : U.methodFound? y.cls y.name y.desc = some mk := State.methodFound?_of_named hnamed (by rw [hy]; exact ⟨by decide, by decide⟩)
  have e1 : U.vm.findClass RJ5 = some m2.cls := findClass_of_methodNamed q3
  have e2 : U.vm.findClass y.cls = some mk.cls := findClass_of_methodNamed hnamed
  have hcls : mk.cls = m2.cls := by
    rw [hy] at e2
    exact Option.some.inj (e2.symm.trans e1)
  have hsel : selectMethod {} U.vm (Δ.1 14) mk = .method mk := selectMethod_private hmethM (Cond.privateMethod_at hpriv mk methM hnamed hmethM)
  have hfc : U.vm.findClass RJ4 = some (Δ.1 14) := hfc
  rw [← hcls] at hkP
  simp only [Cond.before, Cond.holds, Cond.value, hfc, hfound, hnamed, hsel, hkP]
  simp
  exact hkPi
section T3
variable {Γ : Cx} {Δ : Wd} {l : Launch} {R : Room} {es : List TE} {kc sl : Nat} {Q : State → Prop} {pc : Nat} {lv lv' : List (Nat × Value)} {stk : List Value} {cc : ByteArray} {own : String} {nL : Nat}
theorem T.dig {n : String} {f : Nat → Int} {ix : Nat} (h : okG Γ Δ l R cc own nL) (hD : TD1 Δ n f) (hlink : Cond.fieldLink own ix "java/lang/Integer" n "[B" ∈ gW) (hdg : decode cc pc = .ok (.getstatic ix, 3)) (kk : ∀ t, (∀ es1, BT Δ es1 t 100 f) → T Γ Δ es kc sl Q (pc + 3) lv (.ref t :: stk)) : T Γ Δ es kc sl Q (pc) lv stk := by
  obtain ⟨p, l', e, R', s, m, args, below, meth, c, nL'⟩ := Γ
  obtain ⟨hx, hb, hml, hown, hts, hKK, hlk, rfl, rfl, rfl⟩ := h
  intro H locs ls hP hS hl
  obtain ⟨t, ht⟩ := hD
  obtain ⟨cf, kf, fi, f', a, cell, h1, h2, h3, h4, h5, h6, h7, h8⟩ := va_Z.moved hKK.s0 (ht H hP.2.2.2).1
  exact W.gets hx hb hown (hts _ hlink) h1 h2 h3 h4 h5 (fun e => by rw [e] at h6; cases h6) h7 rfl hdg (kk t (fun es1 U H1 hK hq hT => va_T.moved hK.s0 (ht H1 hT.2.2.2).2) H locs ls hP hS hl)
end T3
/-- all letters -/
def AB (f : Nat → Int) : Prop := ∀ j : Nat, 0 ≤ f j ∧ f j < 128
theorem AB.ite {c : Nat → Prop} [DecidablePred c] {f g : Nat → Int} (hf : ∀ j, c j → 0 ≤ f j ∧ f j < 128) (hg : AB g) : AB (fun j => if c j then f j else g j) := by
  intro j
  show 0 ≤ (if c j then f j else g j) ∧ (if c j then f j else g j) < 128
  by_cases q : c j
  · rw [if_pos q]; exact hf j q
  · rw [if_neg q]; exact hg j
def asc (t : List Int) : Prop := ∀ x ∈ t, 0 ≤ x ∧ x < 128
/-- a builder that holds a text; its bytes stand below h -/
def SBT (es : List TE) (k : Nat) (t : List Int) (h : Nat) : Prop := ∃ (v L : Nat) (f : Nat → Int), es[k]? = some (tsb (some v) t.length) ∧ es[v]? = some (tba L f) ∧ k < v ∧ v < h ∧ t.length ≤ L ∧ (L = 16 ∨ L = 34) ∧ AB f ∧ ∀ j : Nat, j < t.length → f j = lstF t j
/-- a String of a text: a constant, or made, its bytes between a and b -/
def TX (Δ : Wd) (es : List TE) (x : Nat) (t : List Int) (a b : Nat) : Prop := (∃ k, k < 13 ∧ x = aK Δ k ∧ lenS k = t.length ∧ ∀ j : Nat, j < t.length → bS k j = lstF t j) ∨ ∃ (i j : Nat) (f : Nat → Int), x = tA Δ i ∧ es[i]? = some (tst (some j)) ∧ es[j]? = some (tba t.length f) ∧ a ≤ j ∧ j < b ∧ ∀ q : Nat, q < t.length → f q = lstF t q
theorem TX.mono {Δ : Wd} {es es1 : List TE} {x a b : Nat} {t : List Int} (h : TX Δ es x t a b) (ho : ∀ j, j < es.length → es1[j]? = es[j]?) : TX Δ es1 x t a b := by
  rcases h with h | ⟨i, j, f, h1, h2, h3, h4⟩
  · exact Or.inl h
  · exact Or.inr ⟨i, j, f, h1, (ho i (tlt h2)).trans h2, (ho j (tlt h3)).trans h3, h4⟩
theorem TX.keep {Δ : Wd} {es es1 : List TE} {x a b k : Nat} {t : List Int} {v : Option Nat} {n : Int} (h : TX Δ es x t a b) (hk : es[k]? = some (tsb v n)) (ho : ∀ j, j ≠ k → j < es.length → es1[j]? = es[j]?) : TX Δ es1 x t a b := by
  rcases h with h | ⟨i, j, f, h1, h2, h3, h4⟩
  · exact Or.inl h
  · exact Or.inr ⟨i, j, f, h1, (ho i (fun z => by rw [z, hk] at h2; cases h2) (tlt h2)).trans h2, (ho j (fun z => by rw [z, hk] at h3; cases h3) (tlt h3)).trans h3, h4⟩
theorem TX.st {Δ : Wd} {es : List TE} {x a b : Nat} {t : List Int} (h : TX Δ es x t a b) : ∃ (v : Nat) (f : Nat → Int), ST Δ es x v t.length f ∧ ∀ j : Nat, j < t.length → f j = lstF t j := by
  rcases h with ⟨k, h1, rfl, h3, h4⟩ | ⟨i, j, f, rfl, h2, h3, -, -, h4⟩
  · exact ⟨_, _, h3 ▸ ST.const h1, h4⟩
  · exact ⟨_, f, ST.st h2 h3, h4⟩
theorem TX.wide {Δ : Wd} {es : List TE} {x a b a2 b2 : Nat} {t : List Int} (h : TX Δ es x t a b) (ha : a2 ≤ a) (hb : b ≤ b2) : TX Δ es x t a2 b2 := by
  rcases h with h | ⟨i, j, f, h1, h2, h3, h4, h5, h6⟩
  · exact Or.inl h
  · exact Or.inr ⟨i, j, f, h1, h2, h3, Nat.le_trans ha h4, Nat.lt_of_lt_of_le h5 hb, h6⟩
theorem TX.rv {Δ : Wd} {es : List TE} {x a b : Nat} {t : List Int} (h : TX Δ es x t a b) : RV Δ es x "java/lang/String" := by
  obtain ⟨v, f, h1, -⟩ := h.st
  exact RV.st h1
theorem SBT.mono {es es1 : List TE} {k h : Nat} {t : List Int} (hs : SBT es k t h) (ho : ∀ j, j < es.length → es1[j]? = es[j]?) : SBT es1 k t h := by
  obtain ⟨v, L, f, h1, h2, h3⟩ := hs
  exact ⟨v, L, f, (ho k (tlt h1)).trans h1, (ho v (tlt h2)).trans h2, h3⟩
theorem SBT.rv {Δ : Wd} {es : List TE} {k h : Nat} {t : List Int} (hs : SBT es k t h) : RV Δ es (tA Δ k) "java/lang/StringBuilder" := by
  obtain ⟨v, L, f, h1, -⟩ := hs
  exact RV.sb h1
theorem lstF_app1 {t u : List Int} {j : Nat} (h : j < t.length) : lstF (t ++ u) j = lstF t j := by
  unfold lstF
  rw [List.getD_eq_getElem?_getD, List.getD_eq_getElem?_getD, Int.toNat_natCast, List.getElem?_append_left h]
theorem lstF_app2 {t u : List Int} {j : Nat} (h : t.length ≤ j) : lstF (t ++ u) j = lstF u ((j - t.length : Nat) : Int) := by
  unfold lstF
  rw [List.getD_eq_getElem?_getD, List.getD_eq_getElem?_getD, Int.toNat_natCast, Int.toNat_natCast, List.getElem?_append_right h]
theorem lstF_mem {t : List Int} {j : Nat} (h : j < t.length) : lstF t j ∈ t := by
  unfold lstF
  rw [Int.toNat_natCast, List.getD_eq_getElem?_getD, List.getElem?_eq_getElem h]
  exact List.getElem_mem h
theorem hin_J0 : ∀ w ∈ u_ws RJ0 TJ0 4, w ∈ gW := all_map (fun k hk => by
  by_cases e0 : k = 0; subst e0; exact kw_998
  by_cases e1 : k = 1; subst e1; exact kw_1000
  by_cases e2 : k = 2; subst e2; exact kw_1457
  by_cases e3 : k = 3; subst e3; exact kw_1459
  omega)
theorem defJ4 : ∀ j, j < 4 → defaultValue (tyJ4 j) = vp_V [.null, .int 0, .int 0, .int (sJ 0)] j := fun j hj => by
  rcases (show j = 0 ∨ j = 1 ∨ j = 2 ∨ j = 3 by omega) with rfl | rfl | rfl | rfl <;> rfl
theorem defJ0 : ∀ j, j < 4 → defaultValue (tyJ0 j) = vp_V [.null, .int 0, .int 0, .int 0] j := fun j hj => by
  rcases (show j = 0 ∨ j = 1 ∨ j = 2 ∨ j = 3 by omega) with rfl | rfl | rfl | rfl <;> rfl
theorem SBT.app {es : List TE} {k v L : Nat} {t u : List Int} {f g : Nat → Int} (he : es[k]? = some (tsb (some v) ((t ++ u).length : Int))) (hb : es[v]? = some (tba L g)) (hkv : k < v) (hL : L = 16 ∨ L = 34) (hl : (t ++ u).length ≤ L) (hf : ∀ j : Nat, j < t.length → f j = lstF t j) (h1 : ∀ j : Nat, j < t.length → g j = f j) (h2 : ∀ j : Nat, j < u.length → g (t.length + j) = lstF u j) (hg : AB g) : SBT es k (t ++ u) es.length := by
  refine ⟨v, L, g, he, hb, hkv, tlt hb, hl, hL, hg, fun j hj => ?_⟩
  rw [List.length_append] at hj
  rcases Nat.lt_or_ge j t.length with h | h
  · rw [h1 j h, hf j h, lstF_app1 h]
  · rw [lstF_app2 h, ← h2 _ (by omega)]
    congr 1
    omega
theorem asc_c {t : List Int} (h : t.all (fun x => decide (0 ≤ x) && decide (x < 128)) = true) : asc t := fun x hx => by
  have := List.all_eq_true.mp h x hx
  simp only [Bool.and_eq_true, decide_eq_true_eq] at this
  exact this
def cstL : List (List Int) := [[], [], [], [], [77, 91], [78, 91], [105], [105, 43], [105, 45], [93], [62], [61], [60]]
theorem TX.cst {Δ : Wd} {es : List TE} {t : List Int} (k : Nat) (h : (decide (4 ≤ k) && decide (k < 13) && decide (cstL[k]? = some t)) = true) : TX Δ es (aK Δ k) t 0 0 := by
  simp only [Bool.and_eq_true, decide_eq_true_eq] at h
  have key : ∀ k, k < 13 → 4 ≤ k → lenS k = ((cstL[k]?).getD []).length ∧ ∀ j, j < ((cstL[k]?).getD []).length → bS k j = lstF ((cstL[k]?).getD []) j := by decide +kernel
  have h1 := key k h.1.2 h.1.1
  rw [h.2] at h1
  exact Or.inl ⟨k, h.1.2, rfl, h1.1, h1.2⟩
theorem dOnes_b (j : Nat) : 0 ≤ dOnes j ∧ dOnes j < 128 := by unfold dOnes; omega
theorem dTens_b {j : Nat} (h : j < 100) : 0 ≤ dTens j ∧ dTens j < 128 := by unfold dTens; omega
theorem tGO : GoodIn gW (va_wsO "java/lang/String" 549 "java/lang/StringBuilder" "java/lang/AbstractStringBuilder" yJ5_length_8abf5 yJ4_length_8abf5 (Cond.code yJ4_length_8abf5 cJ4_length_8abf5 1 (some .int) :: gW)) := by
  intro w hw
  have h1 : w ∈ gW := by
    unfold va_wsO at hw
    rcases List.mem_append.mp hw with hw | hw
    · simp only [List.mem_cons, List.not_mem_nil, or_false] at hw
      rcases hw with rfl | rfl | rfl | rfl | rfl | rfl
      · exact kw_1646
      · exact kw_1648
      · exact kw_1647
      · exact kw_1649
      · exact kw_1650
      · exact kw_130
    · rcases List.mem_cons.mp hw with rfl | hw
      · exact kw_1651
      · exact hw
  exact ⟨h1, gW_good w h1⟩
theorem and255 {x : Int} (h : 0 ≤ x ∧ x < 128) : iAnd x 255 = x := by
  have key : ∀ j : Nat, j < 128 → iAnd (j : Int) 255 = (j : Int) := by decide +kernel
  have := key x.toNat (by omega)
  rwa [Int.toNat_of_nonneg h.1] at this
theorem asc_app {t u : List Int} (h : asc t) (g : asc u) : asc (t ++ u) := fun x hx => by
  rcases List.mem_append.mp hx with q | q
  · exact h x q
  · exact g x q
theorem asc_one {x : Int} (h : 0 ≤ x ∧ x < 128) : asc [x] := fun y hy => by
  simp only [List.mem_cons, List.not_mem_nil, or_false] at hy
  subst hy
  exact h
set_option maxRecDepth 100000 in
set_option maxHeartbeats 4000000 in
theorem tm_isL1 (l : Launch) (Δ : Wd) {es : List TE} {k : Nat} {v : Option Nat} {n : Int} (he : es[k]? = some (tsb v n)) : Met l yJ5_isLatin1_aae02 (Cond.code yJ5_isLatin1_aae02 cJ5_isLatin1_aae02 1 (some .boolean) :: gW) (sRx 2 100 0 0) (tPc Δ [.ref (tA Δ k)] es) (tQi Δ (fun x e => x = 1 ∧ e = es)) 0 0 (sFr Δ) := by
  refine Tm.i (ty := .boolean) (by decide) rfl (Nat.le_of_ble_eq_true rfl) (fun Γ Q hG fin => ?_)
  have hG : okG Γ Δ l (sRx 2 100 0 0) cJ5_isLatin1_aae02 "java/lang/AbstractStringBuilder" 1 := hG
  show T Γ Δ es 0 0 Q 0 [(0, .ref (tA Δ k))] []
  refine T.scs (pc := 0) hG kw_1480 dJ5_isLatin1_aae02_0 ?_
  refine T.if_eq (pc := 3) (tgt := 17) hG (sR_b (by omega)) dJ5_isLatin1_aae02_3 (by decide) (fun q => absurd q (by omega)) (fun _ => ?_)
  refine T.aload_n (pc := 6) hG dJ5_isLatin1_aae02_6 rfl 0 rfl ?_
  refine T.get (pc := 7) (ci := 14) (k := k) (fk := 1) (v := .int (sJ 0)) hG hin_J4 rfl he rfl (by decide) rfl kw_1489 dJ5_isLatin1_aae02_7 ?_
  refine T.if_ne (pc := 10) (tgt := 17) hG (sR_b (by omega)) dJ5_isLatin1_aae02_10 (by decide) (fun q => absurd q (by omega)) (fun _ => ?_)
  refine T.iconst (pc := 13) hG dJ5_isLatin1_aae02_13 ?_
  refine T.goto (pc := 14) (tgt := 18) hG dJ5_isLatin1_aae02_14 (by decide) ?_
  exact fin dJ5_isLatin1_aae02_18 (sR_b (by omega)) rfl (Nat.le_of_ble_eq_true rfl) (Nat.le_of_ble_eq_true rfl) ⟨rfl, rfl⟩
set_option maxRecDepth 100000 in
set_option maxHeartbeats 4000000 in
theorem tm_coder (l : Launch) (Δ : Wd) {es : List TE} {x v n : Nat} {f : Nat → Int} (hx : ST Δ es x v n f) : Met l yJ0_coder_7d493 (Cond.code yJ0_coder_7d493 cJ0_coder_7d493 1 (some .byte) :: gW) (sRx 2 100 0 0) (tPc Δ [.ref x] es) (tQi Δ (fun x e => x = 0 ∧ e = es)) 0 0 (sFr Δ) := by
  refine Tm.i (ty := .byte) (by decide) rfl (Nat.le_of_ble_eq_true rfl) (fun Γ Q hG fin => ?_)
  have hG : okG Γ Δ l (sRx 2 100 0 0) cJ0_coder_7d493 "java/lang/String" 1 := hG
  show T Γ Δ es 0 0 Q 0 [(0, .ref x)] []
  refine T.scs (pc := 0) hG kw_1026 dJ0_coder_7d493_0 ?_
  refine T.if_eq (pc := 3) (tgt := 13) hG (sR_b (by omega)) dJ0_coder_7d493_3 (by decide) (fun q => absurd q (by omega)) (fun _ => ?_)
  refine T.aload_n (pc := 6) hG dJ0_coder_7d493_6 rfl 0 rfl ?_
  refine T.scoder (pc := 7) hG hx kw_1456 dJ0_coder_7d493_7 ?_
  refine T.goto (pc := 10) (tgt := 14) hG dJ0_coder_7d493_10 (by decide) ?_
  exact fin dJ0_coder_7d493_14 (sR_b (by omega)) rfl (Nat.le_of_ble_eq_true rfl) (Nat.le_of_ble_eq_true rfl) ⟨rfl, rfl⟩
set_option maxRecDepth 100000 in
set_option maxHeartbeats 4000000 in
theorem tm_slen (l : Launch) (Δ : Wd) {es : List TE} {x v n : Nat} {f : Nat → Int} (hx : ST Δ es x v n f) (hn : n < 1000) : Met l yJ0_length_8abf5 (Cond.code yJ0_length_8abf5 cJ0_length_8abf5 1 (some .int) :: gW) (sRx 3 140 0 0) (tPc Δ [.ref x] es) (tQi Δ (fun x e => x = (n : Int) ∧ e = es)) 0 0 (sFr Δ) := by
  refine Tm.i (ty := .int) (by decide) rfl (Nat.le_of_ble_eq_true rfl) (fun Γ Q hG fin => ?_)
  have hG : okG Γ Δ l (sRx 3 140 0 0) cJ0_length_8abf5 "java/lang/String" 1 := hG
  show T Γ Δ es 0 0 Q 0 [(0, .ref x)] []
  refine T.aload_n (pc := 0) hG dJ0_length_8abf5_0 rfl 0 rfl ?_
  refine T.sval (pc := 1) hG hx kw_1455 dJ0_length_8abf5_1 ?_
  refine T.blen (pc := 4) hG (ST.bt hx) dJ0_length_8abf5_4 ?_
  refine T.aload_n (pc := 5) hG dJ0_length_8abf5_5 rfl 0 rfl ?_
  refine T.callVi (pc := 6) (C := "java/lang/String") (As := []) (stk := [.int (sJ (n : Int))]) hG (tm_coder l Δ hx) mY_J0_coder_7d493 kw_1032 kw_1033 (tWd.of kw_1034) (RV.st hx) ⟨Nat.le_of_ble_eq_true rfl, Nat.le_of_ble_eq_true rfl, Nat.le_of_ble_eq_true rfl, Nat.le_of_ble_eq_true rfl⟩ rfl (Nat.le_of_ble_eq_true rfl) dJ0_length_8abf5_6 rfl (fun x1 e2 _ hq => ?_)
  rw [hq.1, hq.2]
  refine T.ishrz (pc := 9) hG dJ0_length_8abf5_9 (sR_b (by omega)) ?_
  exact fin dJ0_length_8abf5_10 (sR_b (by omega)) rfl (Nat.le_of_ble_eq_true rfl) (Nat.le_of_ble_eq_true rfl) ⟨rfl, rfl⟩
set_option maxRecDepth 100000 in
set_option maxHeartbeats 4000000 in
theorem tm_newLen (l : Launch) (Δ : Wd) {es : List TE} {g : Int} (hg : 0 < g ∧ g ≤ 18) : Met l yJ8_newLength_cabcc (Cond.code yJ8_newLength_cabcc cJ8_newLength_cabcc 4 (some .int) :: gW) (sRx 2 100 0 0) (tPc Δ [.int (sJ 16), .int (sJ g), .int (sJ 18)] es) (tQi Δ (fun x e => x = 34 ∧ e = es)) 0 0 (sFr Δ) := by
  refine Tm.i (ty := .int) (by decide) rfl (Nat.le_of_ble_eq_true rfl) (fun Γ Q hG fin => ?_)
  have hG : okG Γ Δ l (sRx 2 100 0 0) cJ8_newLength_cabcc "jdk/internal/util/ArraysSupport" 4 := hG
  show T Γ Δ es 0 0 Q 0 [(0, .int (sJ 16)), (1, .int (sJ g)), (2, .int (sJ 18))] []
  refine T.iload_n (pc := 0) hG dJ8_newLength_cabcc_0 rfl 0 rfl ?_
  refine T.iload_n (pc := 1) hG dJ8_newLength_cabcc_1 rfl 1 rfl ?_
  refine T.iload_n (pc := 2) hG dJ8_newLength_cabcc_2 rfl 2 rfl ?_
  refine T.mmax (pc := 3) hG (sR_b (by omega)) (sR_b (by omega)) kw_1525 kw_699 kw_121 kw_max ⟨Nat.le_of_ble_eq_true rfl, Nat.le_of_ble_eq_true rfl, Nat.le_of_ble_eq_true rfl, Nat.le_of_ble_eq_true rfl⟩ dJ8_newLength_cabcc_3 ?_
  refine T.iz (z := 18) (by omega) ?_
  refine T.iaddz (pc := 6) (34) hG dJ8_newLength_cabcc_6 (by omega) (sR_b (by omega)) ?_
  refine T.istore_n (pc := 7) (lv' := [(3, .int (sJ 34)), (0, .int (sJ 16)), (1, .int (sJ g)), (2, .int (sJ 18))]) hG dJ8_newLength_cabcc_7 rfl (by decide) rfl ?_
  refine T.iconst (pc := 8) hG dJ8_newLength_cabcc_8 ?_
  refine T.iload_n (pc := 9) hG dJ8_newLength_cabcc_9 rfl 0 rfl ?_
  refine T.icmp_ge (pc := 10) (tgt := 21) hG (sR_b (by omega)) (sR_b (by omega)) dJ8_newLength_cabcc_10 (by decide) (fun q => absurd q (by omega)) (fun _ => ?_)
  refine T.iload_n (pc := 13) hG dJ8_newLength_cabcc_13 rfl 0 rfl ?_
  refine T.ldc (pc := 14) (x := 2147483639) hG kw_1526 dJ8_newLength_cabcc_14 ?_
  refine T.icmp_gt (pc := 16) (tgt := 21) hG (sR_b (by omega)) (sR_b (by omega)) dJ8_newLength_cabcc_16 (by decide) (fun q => absurd q (by omega)) (fun _ => ?_)
  refine T.iload_n (pc := 19) hG dJ8_newLength_cabcc_19 rfl 0 rfl ?_
  exact fin dJ8_newLength_cabcc_20 (sR_b (by omega)) rfl (Nat.le_of_ble_eq_true rfl) (Nat.le_of_ble_eq_true rfl) ⟨rfl, rfl⟩
set_option maxRecDepth 100000 in
set_option maxHeartbeats 4000000 in
theorem tm_newCap (l : Launch) (Δ : Wd) {es : List TE} {k v : Nat} {n : Int} {f : Nat → Int} (he : es[k]? = some (tsb (some v) n)) (hb : es[v]? = some (tba 16 f)) {m : Int} (hm : 16 < m ∧ m ≤ 34) : Met l yJ5_newCapacity_0f7a4 (Cond.code yJ5_newCapacity_0f7a4 cJ5_newCapacity_0f7a4 6 (some .int) :: gW) (sRx 3 150 0 0) (tPc Δ [.ref (tA Δ k), .int (sJ m)] es) (tQi Δ (fun x e => x = 34 ∧ e = es)) 0 0 (sFr Δ) := by
  refine Tm.i (ty := .int) (by decide) rfl (Nat.le_of_ble_eq_true rfl) (fun Γ Q hG fin => ?_)
  have hG : okG Γ Δ l (sRx 3 150 0 0) cJ5_newCapacity_0f7a4 "java/lang/AbstractStringBuilder" 6 := hG
  show T Γ Δ es 0 0 Q 0 [(0, .ref (tA Δ k)), (1, .int (sJ m))] []
  refine T.aload_n (pc := 0) hG dJ5_newCapacity_0f7a4_0 rfl 0 rfl ?_
  refine T.get (pc := 1) (ci := 14) (k := k) (fk := 0) (v := .ref (tA Δ v)) hG hin_J4 rfl he rfl (by decide) rfl kw_1488 dJ5_newCapacity_0f7a4_1 ?_
  refine T.blen (pc := 4) hG (BT.ba hb) dJ5_newCapacity_0f7a4_4 ?_
  refine T.istore_n (pc := 5) (lv' := [(2, .int (sJ 16)), (0, .ref (tA Δ k)), (1, .int (sJ m))]) hG dJ5_newCapacity_0f7a4_5 rfl (by decide) rfl ?_
  refine T.iload_n (pc := 6) hG dJ5_newCapacity_0f7a4_6 rfl 2 rfl ?_
  refine T.aload_n (pc := 7) hG dJ5_newCapacity_0f7a4_7 rfl 1 rfl ?_
  refine T.get (pc := 8) (ci := 14) (k := k) (fk := 1) (v := .int (sJ 0)) hG hin_J4 rfl he rfl (by decide) rfl kw_1489 dJ5_newCapacity_0f7a4_8 ?_
  refine T.ishlz (pc := 11) hG dJ5_newCapacity_0f7a4_11 (sR_b (by omega)) ?_
  refine T.istore_n (pc := 12) (lv' := [(3, .int (sJ m)), (2, .int (sJ 16)), (0, .ref (tA Δ k)), (1, .int (sJ m))]) hG dJ5_newCapacity_0f7a4_12 rfl (by decide) rfl ?_
  refine T.iload_n (pc := 13) hG dJ5_newCapacity_0f7a4_13 rfl 0 rfl ?_
  refine T.iload_n (pc := 14) hG dJ5_newCapacity_0f7a4_14 rfl 1 rfl ?_
  refine T.isubz (pc := 15) (m - 16) hG dJ5_newCapacity_0f7a4_15 (by omega) (sR_b (by omega)) ?_
  refine T.istore (pc := 16) (lv' := [(4, .int (sJ (m - 16))), (3, .int (sJ m)), (2, .int (sJ 16)), (0, .ref (tA Δ k)), (1, .int (sJ m))]) hG dJ5_newCapacity_0f7a4_16 (by decide) rfl ?_
  refine T.iload_n (pc := 18) hG dJ5_newCapacity_0f7a4_18 rfl 2 rfl ?_
  refine T.iload (pc := 19) hG dJ5_newCapacity_0f7a4_19 0 rfl ?_
  refine T.iload_n (pc := 21) hG dJ5_newCapacity_0f7a4_21 rfl 2 rfl ?_
  refine T.iconst (pc := 22) hG dJ5_newCapacity_0f7a4_22 ?_
  refine T.aload_n (pc := 23) hG dJ5_newCapacity_0f7a4_23 rfl 3 rfl ?_
  refine T.get (pc := 24) (ci := 14) (k := k) (fk := 1) (v := .int (sJ 0)) hG hin_J4 rfl he rfl (by decide) rfl kw_1489 dJ5_newCapacity_0f7a4_24 ?_
  refine T.ishlz (pc := 27) hG dJ5_newCapacity_0f7a4_27 (sR_b (by omega)) ?_
  refine T.iaddz (pc := 28) (18) hG dJ5_newCapacity_0f7a4_28 (by omega) (sR_b (by omega)) ?_
  refine T.callSi (pc := 29) (As := [.int (sJ 16), .int (sJ (m - 16)), .int (sJ 18)]) (stk := []) hG (tm_newLen l Δ (g := m - 16) (by omega)) mY_J8_newLength_cabcc kw_1522 kw_1523 ⟨Nat.le_of_ble_eq_true rfl, Nat.le_of_ble_eq_true rfl, Nat.le_of_ble_eq_true rfl, Nat.le_of_ble_eq_true rfl⟩ rfl (Nat.le_of_ble_eq_true rfl) dJ5_newCapacity_0f7a4_29 rfl (fun x1 e2 _ hq => ?_)
  rw [hq.1, hq.2]
  refine T.istore (pc := 32) (lv' := [(5, .int (sJ 34)), (4, .int (sJ (m - 16))), (3, .int (sJ m)), (2, .int (sJ 16)), (0, .ref (tA Δ k)), (1, .int (sJ m))]) hG dJ5_newCapacity_0f7a4_32 (by decide) rfl ?_
  refine T.iload (pc := 34) hG dJ5_newCapacity_0f7a4_34 0 rfl ?_
  refine T.ldc (pc := 36) (x := 2147483647) hG kw_1530 dJ5_newCapacity_0f7a4_36 ?_
  refine T.icmp_ne (pc := 38) (tgt := 51) hG (sR_b (by omega)) (sR_b (by omega)) dJ5_newCapacity_0f7a4_38 (by decide) (fun _ => ?_) (fun q => absurd q (by omega))
  refine T.iload (pc := 51) hG dJ5_newCapacity_0f7a4_51 0 rfl ?_
  refine T.aload_n (pc := 53) hG dJ5_newCapacity_0f7a4_53 rfl 4 rfl ?_
  refine T.get (pc := 54) (ci := 14) (k := k) (fk := 1) (v := .int (sJ 0)) hG hin_J4 rfl he rfl (by decide) rfl kw_1489 dJ5_newCapacity_0f7a4_54 ?_
  refine T.ishrz (pc := 57) hG dJ5_newCapacity_0f7a4_57 (sR_b (by omega)) ?_
  exact fin dJ5_newCapacity_0f7a4_58 (sR_b (by omega)) rfl (Nat.le_of_ble_eq_true rfl) (Nat.le_of_ble_eq_true rfl) ⟨rfl, rfl⟩
set_option maxRecDepth 100000 in
set_option maxHeartbeats 4000000 in
theorem tm_copyOf (l : Launch) (Δ : Wd) {es : List TE} {v : Nat} {f : Nat → Int} (hb : es[v]? = some (tba 16 f)) (hA : AB f) : Met l yJ7_copyOf_9075b (Cond.code yJ7_copyOf_9075b cJ7_copyOf_9075b 3 (some (.array .byte)) :: gW) (sRx 3 100 1 34) (tPc Δ [.ref (tA Δ v), .int (sJ 34)] es) (tQr Δ (fun a e => a = tA Δ es.length ∧ ∃ f', e[es.length]? = some (tba 34 f') ∧ AB f' ∧ (∀ j : Nat, j < 16 → f' j = f j) ∧ (∀ j, j < es.length → e[j]? = es[j]?) ∧ e.length = es.length + 1)) 1 34 (sFr Δ) := by
  refine Tm.r (rt := (.array .byte)) (by decide) rfl (Or.inr ⟨_, rfl⟩) (Nat.le_of_ble_eq_true rfl) (fun Γ Q hG fin => ?_)
  have hG : okG Γ Δ l (sRx 3 100 1 34) cJ7_copyOf_9075b "java/util/Arrays" 3 := hG
  have hlv := tlt hb
  show T Γ Δ es 0 0 Q 0 [(0, .ref (tA Δ v)), (1, .int (sJ 34))] []
  refine T.iload_n (pc := 0) hG dJ7_copyOf_9075b_0 rfl 1 rfl ?_
  refine T.aload_n (pc := 1) hG dJ7_copyOf_9075b_1 rfl 0 rfl ?_
  refine T.blen (pc := 2) hG (BT.ba hb) dJ7_copyOf_9075b_2 ?_
  refine T.icmp_ne (pc := 3) (tgt := 14) hG (sR_b (by omega)) (sR_b (by omega)) dJ7_copyOf_9075b_3 (by decide) (fun _ => ?_) (fun q => absurd q (by omega))
  refine T.iload_n (pc := 14) hG dJ7_copyOf_9075b_14 rfl 1 rfl ?_
  refine T.newB (pc := 15) (z := 34) hG kw_997 (by omega) (by omega) ⟨Nat.le_of_ble_eq_true rfl, Nat.le_of_ble_eq_true rfl⟩ dJ7_copyOf_9075b_15 (fun e1 h2 o3 n4 => ?_)
  have g6 := tlt hb
  have h5 := (o3 _ g6).trans hb
  have p7 : ∀ j, j < es.length → e1[j]? = es[j]? := fun j hj => (o3 j (by omega)).trans ((fun _ _ => rfl) j hj)
  refine T.astore_n (pc := 17) (lv' := [(2, .ref (tA Δ es.length)), (0, .ref (tA Δ v)), (1, .int (sJ 34))]) hG dJ7_copyOf_9075b_17 rfl (by decide) rfl ?_
  refine T.aload_n (pc := 18) hG dJ7_copyOf_9075b_18 rfl 1 rfl ?_
  refine T.iconst (pc := 19) hG dJ7_copyOf_9075b_19 ?_
  refine T.aload_n (pc := 20) hG dJ7_copyOf_9075b_20 rfl 0 rfl ?_
  refine T.iconst (pc := 21) hG dJ7_copyOf_9075b_21 ?_
  refine T.aload_n (pc := 22) hG dJ7_copyOf_9075b_22 rfl 1 rfl ?_
  refine T.blen (pc := 23) hG (BT.ba h5) dJ7_copyOf_9075b_23 ?_
  refine T.iload_n (pc := 24) hG dJ7_copyOf_9075b_24 rfl 2 rfl ?_
  refine T.mmin (pc := 25) hG (sR_b (by omega)) (sR_b (by omega)) kw_1541 kw_646 kw_121 kw_min ⟨Nat.le_of_ble_eq_true rfl, Nat.le_of_ble_eq_true rfl, Nat.le_of_ble_eq_true rfl, Nat.le_of_ble_eq_true rfl⟩ dJ7_copyOf_9075b_25 ?_
  refine T.iz (z := 16) (by omega) ?_
  refine T.copy (pc := 28) (f := f) hG (BT.ba h5) h2 (by omega) ⟨by omega, by omega⟩ ⟨by omega, by omega⟩ (fun j _ => hA j) kw_1542 kw_1544 kw_1543 kw_133 ⟨Nat.le_of_ble_eq_true rfl, by decide⟩ dJ7_copyOf_9075b_28 (fun e8 h9 o10 n11 => ?_)
  have h12 := (o10 v (by omega)).trans h5
  have p13 : ∀ j, j < es.length → e8[j]? = es[j]? := fun j hj => (o10 j (by omega)).trans (p7 j hj)
  refine T.aload_n (pc := 31) hG dJ7_copyOf_9075b_31 rfl 0 rfl ?_
  exact fin dJ7_copyOf_9075b_32 (Nat.le_of_ble_eq_true rfl) (Nat.le_of_ble_eq_true rfl) ⟨rfl, _, h9, AB.ite (fun _ _ => hA _) (fun _ => ⟨by decide, by decide⟩), fun j hj => (if_pos (show (0 : Int).toNat ≤ j ∧ j < (0 : Int).toNat + (16 : Int).toNat from ⟨Nat.zero_le _, by omega⟩)).trans (congrArg f (Nat.sub_zero j)), p13, by omega⟩
set_option maxRecDepth 100000 in
set_option maxHeartbeats 4000000 in
theorem tm_ens (l : Launch) (Δ : Wd) {es : List TE} (hD : TD Δ) {k v L : Nat} {n : Int} {f : Nat → Int} (he : es[k]? = some (tsb (some v) n)) (hb : es[v]? = some (tba L f)) (hkv : k < v) (hL : L = 16 ∨ L = 34) (hA : AB f) {m : Int} (hm : 0 ≤ m ∧ m ≤ 34) : Met l yJ5_ensureCapacityInternal_d00df (Cond.code yJ5_ensureCapacityInternal_d00df cJ5_ensureCapacityInternal_d00df 3 none :: gW) (sRx 4 200 1 34) (tPc Δ [.ref (tA Δ k), .int (sJ m)] es) (tQv Δ (fun e => ∃ (v' L' : Nat) (f' : Nat → Int), e[k]? = some (tsb (some v') n) ∧ e[v']? = some (tba L' f') ∧ k < v' ∧ (L' = 16 ∨ L' = 34) ∧ m ≤ (L' : Int) ∧ AB f' ∧ (∀ j : Nat, j < L → f' j = f j) ∧ L ≤ L' ∧ (∀ j, j ≠ k → j < es.length → e[j]? = es[j]?) ∧ es.length ≤ e.length)) 1 34 (sFr Δ) := by
  refine Tm.v (by decide) (Nat.le_of_ble_eq_true rfl) (fun Γ Q hG hini fin => ?_)
  have hG : okG Γ Δ l (sRx 4 200 1 34) cJ5_ensureCapacityInternal_d00df "java/lang/AbstractStringBuilder" 3 := hG
  have hlv := tlt hb
  show T Γ Δ es 0 0 Q 0 [(0, .ref (tA Δ k)), (1, .int (sJ m))] []
  refine T.aload_n (pc := 0) hG dJ5_ensureCapacityInternal_d00df_0 rfl 0 rfl ?_
  refine T.get (pc := 1) (ci := 14) (k := k) (fk := 0) (v := .ref (tA Δ v)) hG hin_J4 rfl he rfl (by decide) rfl kw_1488 dJ5_ensureCapacityInternal_d00df_1 ?_
  refine T.blen (pc := 4) hG (BT.ba hb) dJ5_ensureCapacityInternal_d00df_4 ?_
  refine T.aload_n (pc := 5) hG dJ5_ensureCapacityInternal_d00df_5 rfl 0 rfl ?_
  refine T.get (pc := 6) (ci := 14) (k := k) (fk := 1) (v := .int (sJ 0)) hG hin_J4 rfl he rfl (by decide) rfl kw_1489 dJ5_ensureCapacityInternal_d00df_6 ?_
  refine T.ishrz (pc := 9) hG dJ5_ensureCapacityInternal_d00df_9 (sR_b (by omega)) ?_
  refine T.istore_n (pc := 10) (lv' := [(2, .int (sJ (L : Int))), (0, .ref (tA Δ k)), (1, .int (sJ m))]) hG dJ5_ensureCapacityInternal_d00df_10 rfl (by decide) rfl ?_
  refine T.iload_n (pc := 11) hG dJ5_ensureCapacityInternal_d00df_11 rfl 2 rfl ?_
  refine T.iload_n (pc := 12) hG dJ5_ensureCapacityInternal_d00df_12 rfl 0 rfl ?_
  refine T.isubz (pc := 13) (m - (L : Int)) hG dJ5_ensureCapacityInternal_d00df_13 (by omega) (sR_b (by omega)) ?_
  refine T.if_le (pc := 14) (tgt := 38) hG (sR_b (by omega)) dJ5_ensureCapacityInternal_d00df_14 (by decide) (fun hg => ?_) (fun hg => ?_)
  · exact fin dJ5_ensureCapacityInternal_d00df_38 (Nat.le_of_ble_eq_true rfl) (Nat.le_of_ble_eq_true rfl) ⟨v, L, f, he, hb, hkv, hL, by omega, hA, fun _ _ => rfl, Nat.le_refl _, fun _ _ _ => rfl, by omega⟩
  · have h16 : L = 16 := by omega
    subst h16
    refine T.aload_n (pc := 17) hG dJ5_ensureCapacityInternal_d00df_17 rfl 1 rfl ?_
    refine T.aload_n (pc := 18) hG dJ5_ensureCapacityInternal_d00df_18 rfl 1 rfl ?_
    refine T.get (pc := 19) (ci := 14) (k := k) (fk := 0) (v := .ref (tA Δ v)) hG hin_J4 rfl he rfl (by decide) rfl kw_1488 dJ5_ensureCapacityInternal_d00df_19 ?_
    refine T.aload_n (pc := 22) hG dJ5_ensureCapacityInternal_d00df_22 rfl 1 rfl ?_
    refine T.iload_n (pc := 23) hG dJ5_ensureCapacityInternal_d00df_23 rfl 2 rfl ?_
    refine T.callVi (pc := 24) (C := "java/lang/StringBuilder") (As := [.int (sJ m)]) (stk := [.ref (tA Δ v), .ref (tA Δ k)]) hG (tm_newCap l Δ he hb (m := m) (by omega)) mY_J5_newCapacity_0f7a4 kw_1518 kw_1520 (hD.sel rfl (by simp [tdL]) kw_1520) (RV.sb he) ⟨Nat.le_of_ble_eq_true rfl, Nat.le_of_ble_eq_true rfl, Nat.le_of_ble_eq_true rfl, Nat.le_of_ble_eq_true rfl⟩ rfl (Nat.le_of_ble_eq_true rfl) dJ5_ensureCapacityInternal_d00df_24 rfl (fun x1 e2 _ hq => ?_)
    rw [hq.1, hq.2]
    refine T.aload_n (pc := 27) hG dJ5_ensureCapacityInternal_d00df_27 rfl 1 rfl ?_
    refine T.get (pc := 28) (ci := 14) (k := k) (fk := 1) (v := .int (sJ 0)) hG hin_J4 rfl he rfl (by decide) rfl kw_1489 dJ5_ensureCapacityInternal_d00df_28 ?_
    refine T.ishlz (pc := 31) hG dJ5_ensureCapacityInternal_d00df_31 (sR_b (by omega)) ?_
    refine T.callSr (pc := 32) (As := [.ref (tA Δ v), .int (sJ 34)]) (stk := [.ref (tA Δ k)]) hG (tm_copyOf l Δ hb hA) mY_J7_copyOf_9075b kw_1531 kw_1532 ⟨Nat.le_of_ble_eq_true rfl, Nat.le_of_ble_eq_true rfl, Nat.le_of_ble_eq_true rfl, Nat.le_of_ble_eq_true rfl⟩ rfl (Nat.le_of_ble_eq_true rfl) dJ5_ensureCapacityInternal_d00df_32 rfl (fun b3 e4 hq => ?_)
    obtain ⟨hb9, f5, h6, ab7, hf8, o9, n10⟩ := hq
    rw [hb9]
    have g12 := tlt he
    have h11 := (o9 _ g12).trans he
    have g14 := tlt hb
    have h13 := (o9 _ g14).trans hb
    have p15 : ∀ j, j < k → e4[j]? = es[j]? := fun j hj => (o9 j (by omega)).trans ((fun _ _ => rfl) j hj)
    refine T.put (pc := 35) (ci := 14) (k := k) (fk := 0) (e2 := tsb (some es.length) n) hG hin_J4 rfl h11 rfl rfl (by decide) (by show _ < 4; decide) kw_1488 tyJ4 tyJ4_ok nmJ4 rfl (ty := tyJ4 0) (tyJ4_ok 0 (by decide)) rfl rfl dJ5_ensureCapacityInternal_d00df_35 (fun e16 h17 o18 n19 => ?_)
    have h20 := (o18 v (by omega)).trans h13
    have h21 := (o18 es.length (by omega)).trans h6
    have p22 : ∀ j, j < k → e16[j]? = es[j]? := fun j hj => (o18 j (by omega)).trans (p15 j hj)
    exact fin dJ5_ensureCapacityInternal_d00df_38 (Nat.le_of_ble_eq_true rfl) (Nat.le_of_ble_eq_true rfl) ⟨_, 34, f5, h17, h21, by omega, Or.inr rfl, by omega, ab7, fun j hj => hf8 j (by omega), by omega, fun j h1 h2 => (o18 j h1).trans (o9 j h2), by omega⟩
set_option maxRecDepth 100000 in
set_option maxHeartbeats 4000000 in
theorem tm_infl (l : Launch) (Δ : Wd) {es : List TE} {k : Nat} {w : Option Nat} {n0 : Int} (he : es[k]? = some (tsb w n0)) {x v n : Nat} {f : Nat → Int} (hx : ST Δ es x v n f) : Met l yJ5_inflateIfNeededFor_a7421 (Cond.code yJ5_inflateIfNeededFor_a7421 cJ5_inflateIfNeededFor_a7421 2 none :: gW) (sRx 3 150 0 0) (tPc Δ [.ref (tA Δ k), .ref x] es) (tQv Δ (fun e => e = es)) 0 0 (sFr Δ) := by
  refine Tm.v (by decide) (Nat.le_of_ble_eq_true rfl) (fun Γ Q hG hini fin => ?_)
  have hG : okG Γ Δ l (sRx 3 150 0 0) cJ5_inflateIfNeededFor_a7421 "java/lang/AbstractStringBuilder" 2 := hG
  show T Γ Δ es 0 0 Q 0 [(0, .ref (tA Δ k)), (1, .ref x)] []
  refine T.scs (pc := 0) hG kw_1480 dJ5_inflateIfNeededFor_a7421_0 ?_
  refine T.if_eq (pc := 3) (tgt := 21) hG (sR_b (by omega)) dJ5_inflateIfNeededFor_a7421_3 (by decide) (fun q => absurd q (by omega)) (fun _ => ?_)
  refine T.aload_n (pc := 6) hG dJ5_inflateIfNeededFor_a7421_6 rfl 0 rfl ?_
  refine T.get (pc := 7) (ci := 14) (k := k) (fk := 1) (v := .int (sJ 0)) hG hin_J4 rfl he rfl (by decide) rfl kw_1489 dJ5_inflateIfNeededFor_a7421_7 ?_
  refine T.aload_n (pc := 10) hG dJ5_inflateIfNeededFor_a7421_10 rfl 1 rfl ?_
  refine T.callVi (pc := 11) (C := "java/lang/String") (As := []) (stk := [.int (sJ 0)]) hG (tm_coder l Δ hx) mY_J0_coder_7d493 kw_1562 kw_1033 (tWd.of kw_1034) (RV.st hx) ⟨Nat.le_of_ble_eq_true rfl, Nat.le_of_ble_eq_true rfl, Nat.le_of_ble_eq_true rfl, Nat.le_of_ble_eq_true rfl⟩ rfl (Nat.le_of_ble_eq_true rfl) dJ5_inflateIfNeededFor_a7421_11 rfl (fun x1 e2 _ hq => ?_)
  rw [hq.1, hq.2]
  refine T.icmp_eq (pc := 14) (tgt := 21) hG (sR_b (by omega)) (sR_b (by omega)) dJ5_inflateIfNeededFor_a7421_14 (by decide) (fun _ => ?_) (fun q => absurd q (by omega))
  exact fin dJ5_inflateIfNeededFor_a7421_21 (Nat.le_of_ble_eq_true rfl) (Nat.le_of_ble_eq_true rfl) rfl
set_option maxRecDepth 100000 in
set_option maxHeartbeats 4000000 in
theorem tm_gb (l : Launch) (Δ : Wd) {es : List TE} {x v n : Nat} {f : Nat → Int} (hx : ST Δ es x v n f) {d L : Nat} {g : Nat → Int} (hd : es[d]? = some (tba L g)) {p : Int} (hp : 0 ≤ p ∧ p + (n : Int) ≤ (L : Int)) (hL : L < 1000) (hf : ∀ j : Nat, j < n → 0 ≤ f j ∧ f j < 128) : Met l yJ0_getBytes_840e7 (Cond.code yJ0_getBytes_840e7 cJ0_getBytes_840e7 4 none :: gW) (sRx 3 150 0 0) (tPc Δ [.ref x, .ref (tA Δ d), .int (sJ p), .int (sJ 0)] es) (tQv Δ (fun e => e[d]? = some (tba L (fun j => if p.toNat ≤ j ∧ j < p.toNat + (n : Int).toNat then f (j - p.toNat) else g j)) ∧ (∀ j, j ≠ d → e[j]? = es[j]?) ∧ e.length = es.length)) 0 0 (sFr Δ) := by
  refine Tm.v (by decide) (Nat.le_of_ble_eq_true rfl) (fun Γ Q hG hini fin => ?_)
  have hG : okG Γ Δ l (sRx 3 150 0 0) cJ0_getBytes_840e7 "java/lang/String" 4 := hG
  show T Γ Δ es 0 0 Q 0 [(0, .ref x), (1, .ref (tA Δ d)), (2, .int (sJ p)), (3, .int (sJ 0))] []
  refine T.aload_n (pc := 0) hG dJ0_getBytes_840e7_0 rfl 0 rfl ?_
  refine T.callVi (pc := 1) (C := "java/lang/String") (As := []) (stk := []) hG (tm_coder l Δ hx) mY_J0_coder_7d493 kw_1032 kw_1033 (tWd.of kw_1034) (RV.st hx) ⟨Nat.le_of_ble_eq_true rfl, Nat.le_of_ble_eq_true rfl, Nat.le_of_ble_eq_true rfl, Nat.le_of_ble_eq_true rfl⟩ rfl (Nat.le_of_ble_eq_true rfl) dJ0_getBytes_840e7_1 rfl (fun x1 e2 _ hq => ?_)
  rw [hq.1, hq.2]
  refine T.iload_n (pc := 4) hG dJ0_getBytes_840e7_4 rfl 3 rfl ?_
  refine T.icmp_ne (pc := 5) (tgt := 28) hG (sR_b (by omega)) (sR_b (by omega)) dJ0_getBytes_840e7_5 (by decide) (fun q => absurd q (by omega)) (fun _ => ?_)
  refine T.aload_n (pc := 8) hG dJ0_getBytes_840e7_8 rfl 0 rfl ?_
  refine T.sval (pc := 9) hG hx kw_1455 dJ0_getBytes_840e7_9 ?_
  refine T.iconst (pc := 12) hG dJ0_getBytes_840e7_12 ?_
  refine T.aload_n (pc := 13) hG dJ0_getBytes_840e7_13 rfl 1 rfl ?_
  refine T.iload_n (pc := 14) hG dJ0_getBytes_840e7_14 rfl 2 rfl ?_
  refine T.iload_n (pc := 15) hG dJ0_getBytes_840e7_15 rfl 3 rfl ?_
  refine T.ishlz (pc := 16) hG dJ0_getBytes_840e7_16 (sR_b (by omega)) ?_
  refine T.aload_n (pc := 17) hG dJ0_getBytes_840e7_17 rfl 0 rfl ?_
  refine T.sval (pc := 18) hG hx kw_1455 dJ0_getBytes_840e7_18 ?_
  refine T.blen (pc := 21) hG (ST.bt hx) dJ0_getBytes_840e7_21 ?_
  refine T.copy (pc := 22) (f := f) hG (ST.bt hx) hd (by omega) ⟨by omega, by omega⟩ ⟨by omega, by omega⟩ (fun j hj => hf j (by omega)) kw_1586 kw_1544 kw_1543 kw_133 ⟨Nat.le_of_ble_eq_true rfl, by decide⟩ dJ0_getBytes_840e7_22 (fun e3 h4 o5 n6 => ?_)
  refine T.goto (pc := 25) (tgt := 43) hG dJ0_getBytes_840e7_25 (by decide) ?_
  exact fin dJ0_getBytes_840e7_43 (Nat.le_of_ble_eq_true rfl) (Nat.le_of_ble_eq_true rfl) ⟨h4, o5, by omega⟩
set_option maxRecDepth 100000 in
set_option maxHeartbeats 4000000 in
theorem tm_psa (l : Launch) (Δ : Wd) {es : List TE} (hD : TD Δ) {k : Nat} {n0 : Int} {d : Nat} (he : es[k]? = some (tsb (some d) n0)) {x v n : Nat} {f : Nat → Int} (hx : ST Δ es x v n f) {L : Nat} {g : Nat → Int} (hd : es[d]? = some (tba L g)) {p : Int} (hp : 0 ≤ p ∧ p + (n : Int) ≤ (L : Int)) (hL : L < 1000) (hf : ∀ j : Nat, j < n → 0 ≤ f j ∧ f j < 128) : Met l yJ5_putStringAt_47b60 (Cond.code yJ5_putStringAt_47b60 cJ5_putStringAt_47b60 3 none :: gW) (sRx 4 200 0 0) (tPc Δ [.ref (tA Δ k), .int (sJ p), .ref x] es) (tQv Δ (fun e => e[d]? = some (tba L (fun j => if p.toNat ≤ j ∧ j < p.toNat + (n : Int).toNat then f (j - p.toNat) else g j)) ∧ (∀ j, j ≠ d → e[j]? = es[j]?) ∧ e.length = es.length)) 0 0 (sFr Δ) := by
  refine Tm.v (by decide) (Nat.le_of_ble_eq_true rfl) (fun Γ Q hG hini fin => ?_)
  have hG : okG Γ Δ l (sRx 4 200 0 0) cJ5_putStringAt_47b60 "java/lang/AbstractStringBuilder" 3 := hG
  have hkd : k ≠ d := fun z => by rw [z, hd] at he; cases he
  show T Γ Δ es 0 0 Q 0 [(0, .ref (tA Δ k)), (1, .int (sJ p)), (2, .ref x)] []
  refine T.aload_n (pc := 0) hG dJ5_putStringAt_47b60_0 rfl 0 rfl ?_
  refine T.aload_n (pc := 1) hG dJ5_putStringAt_47b60_1 rfl 2 rfl ?_
  refine T.callVv (pc := 2) (C := "java/lang/StringBuilder") (As := [.ref x]) (stk := []) hG (tm_infl l Δ he hx) mY_J5_inflateIfNeededFor_a7421 kw_1558 kw_1560 (hD.sel rfl (by simp [tdL]) kw_1560) (RV.sb he) ⟨Nat.le_of_ble_eq_true rfl, Nat.le_of_ble_eq_true rfl, Nat.le_of_ble_eq_true rfl, Nat.le_of_ble_eq_true rfl⟩ rfl (Nat.le_of_ble_eq_true rfl) dJ5_putStringAt_47b60_2 rfl (fun e1 hq => ?_)
  rw [hq]
  refine T.aload_n (pc := 5) hG dJ5_putStringAt_47b60_5 rfl 2 rfl ?_
  refine T.aload_n (pc := 6) hG dJ5_putStringAt_47b60_6 rfl 0 rfl ?_
  refine T.get (pc := 7) (ci := 14) (k := k) (fk := 0) (v := .ref (tA Δ d)) hG hin_J4 rfl he rfl (by decide) rfl kw_1488 dJ5_putStringAt_47b60_7 ?_
  refine T.iload_n (pc := 10) hG dJ5_putStringAt_47b60_10 rfl 1 rfl ?_
  refine T.aload_n (pc := 11) hG dJ5_putStringAt_47b60_11 rfl 0 rfl ?_
  refine T.get (pc := 12) (ci := 14) (k := k) (fk := 1) (v := .int (sJ 0)) hG hin_J4 rfl he rfl (by decide) rfl kw_1489 dJ5_putStringAt_47b60_12 ?_
  refine T.callVv (pc := 15) (C := "java/lang/String") (As := [.ref (tA Δ d), .int (sJ p), .int (sJ 0)]) (stk := []) hG (tm_gb l Δ hx hd (p := p) (by omega) (by omega) hf) mY_J0_getBytes_840e7 kw_1582 kw_1583 (tWd.of kw_1584) (RV.st hx) ⟨Nat.le_of_ble_eq_true rfl, Nat.le_of_ble_eq_true rfl, Nat.le_of_ble_eq_true rfl, Nat.le_of_ble_eq_true rfl⟩ rfl (Nat.le_of_ble_eq_true rfl) dJ5_putStringAt_47b60_15 rfl (fun e2 hq => ?_)
  obtain ⟨h3, o4, n5⟩ := hq
  have h6 := (o4 k (by omega)).trans he
  exact fin dJ5_putStringAt_47b60_18 (Nat.le_of_ble_eq_true rfl) (Nat.le_of_ble_eq_true rfl) ⟨h3, o4, by omega⟩
set_option maxRecDepth 100000 in
set_option maxHeartbeats 4000000 in
theorem tm_appS (l : Launch) (Δ : Wd) {es : List TE} (hD : TD Δ) {k x : Nat} {t u : List Int} {H lo hi : Nat} (hs : SBT es k t H) (hx : TX Δ es x u lo hi) (hu : asc u) (hl : t.length + u.length ≤ 34) (hne : hi ≤ k ∨ H ≤ lo) : Met l yJ5_append_cf1ce (Cond.code yJ5_append_cf1ce cJ5_append_cf1ce 3 (some (.object "java/lang/AbstractStringBuilder")) :: gW) (sRx 5 250 1 34) (tPc Δ [.ref (tA Δ k), .ref x] es) (tQr Δ (fun a e => a = tA Δ k ∧ SBT e k (t ++ u) e.length ∧ (∀ j, j < k → e[j]? = es[j]?) ∧ es.length ≤ e.length)) 1 34 (sFr Δ) := by
  refine Tm.r (rt := (.object "java/lang/AbstractStringBuilder")) (by decide) rfl (Or.inl ⟨_, rfl⟩) (Nat.le_of_ble_eq_true rfl) (fun Γ Q hG fin => ?_)
  have hG : okG Γ Δ l (sRx 5 250 1 34) cJ5_append_cf1ce "java/lang/AbstractStringBuilder" 3 := hG
  obtain ⟨v, L, f, he, hb, hkv, -, htl, hL, hA, hft⟩ := hs
  have hlv := tlt hb
  have hla : (t ++ u).length = t.length + u.length := List.length_append
  obtain ⟨w1, g1, hX1, hg1⟩ := hx.st
  show T Γ Δ es 0 0 Q 0 [(0, .ref (tA Δ k)), (1, .ref x)] []
  refine T.aload_n (pc := 0) hG dJ5_append_cf1ce_0 rfl 1 rfl ?_
  refine T.ifnonnull (pc := 1) (tgt := 9) hG dJ5_append_cf1ce_1 (by decide) ?_
  refine T.aload_n (pc := 9) hG dJ5_append_cf1ce_9 rfl 1 rfl ?_
  refine T.callVi (pc := 10) (C := "java/lang/String") (As := []) (stk := []) hG (tm_slen l Δ hX1 (by omega)) mY_J0_length_8abf5 kw_1553 kw_1029 (tWd.of kw_1030) (RV.st hX1) ⟨Nat.le_of_ble_eq_true rfl, Nat.le_of_ble_eq_true rfl, Nat.le_of_ble_eq_true rfl, Nat.le_of_ble_eq_true rfl⟩ rfl (Nat.le_of_ble_eq_true rfl) dJ5_append_cf1ce_10 rfl (fun x1 e2 _ hq => ?_)
  rw [hq.1, hq.2]
  refine T.istore_n (pc := 13) (lv' := [(2, .int (sJ (u.length : Int))), (0, .ref (tA Δ k)), (1, .ref x)]) hG dJ5_append_cf1ce_13 rfl (by decide) rfl ?_
  refine T.aload_n (pc := 14) hG dJ5_append_cf1ce_14 rfl 1 rfl ?_
  refine T.aload_n (pc := 15) hG dJ5_append_cf1ce_15 rfl 1 rfl ?_
  refine T.get (pc := 16) (ci := 14) (k := k) (fk := 3) (v := .int (sJ (t.length : Int))) hG hin_J4 rfl he rfl (by decide) rfl kw_1491 dJ5_append_cf1ce_16 ?_
  refine T.iload_n (pc := 19) hG dJ5_append_cf1ce_19 rfl 0 rfl ?_
  refine T.iaddz (pc := 20) ((t.length : Int) + (u.length : Int)) hG dJ5_append_cf1ce_20 (by omega) (sR_b (by omega)) ?_
  refine T.callVv (pc := 21) (C := "java/lang/StringBuilder") (As := [.int (sJ ((t.length : Int) + (u.length : Int)))]) (stk := []) hG (tm_ens l Δ hD he hb hkv hL hA (m := (t.length : Int) + (u.length : Int)) (by omega)) mY_J5_ensureCapacityInternal_d00df kw_1514 kw_1516 (hD.sel rfl (by simp [tdL]) kw_1516) (RV.sb he) ⟨Nat.le_of_ble_eq_true rfl, Nat.le_of_ble_eq_true rfl, Nat.le_of_ble_eq_true rfl, Nat.le_of_ble_eq_true rfl⟩ rfl (Nat.le_of_ble_eq_true rfl) dJ5_append_cf1ce_21 rfl (fun e3 hq => ?_)
  obtain ⟨v4, L5, f6, h7, h8, kv9, hL10, hm11, ab12, hf13, hLL14, o15, n16⟩ := hq
  have p17 : ∀ j, j < k → e3[j]? = es[j]? := fun j hj => (o15 j (by omega) (by omega)).trans ((fun _ _ => rfl) j hj)
  have hx2 := hx.keep he o15
  obtain ⟨w2, g2, hX2, hg2⟩ := hx2.st
  refine T.aload_n (pc := 24) hG dJ5_append_cf1ce_24 rfl 1 rfl ?_
  refine T.aload_n (pc := 25) hG dJ5_append_cf1ce_25 rfl 1 rfl ?_
  refine T.get (pc := 26) (ci := 14) (k := k) (fk := 3) (v := .int (sJ (t.length : Int))) hG hin_J4 rfl h7 rfl (by decide) rfl kw_1491 dJ5_append_cf1ce_26 ?_
  refine T.aload_n (pc := 29) hG dJ5_append_cf1ce_29 rfl 2 rfl ?_
  refine T.callVv (pc := 30) (C := "java/lang/StringBuilder") (As := [.int (sJ (t.length : Int)), .ref x]) (stk := []) hG (tm_psa l Δ hD h7 hX2 h8 (p := (t.length : Int)) (by omega) (by omega) (fun j hj => by rw [hg2 j hj]; exact hu _ (lstF_mem hj))) mY_J5_putStringAt_47b60 kw_1554 kw_1556 (hD.sel rfl (by simp [tdL]) kw_1556) (RV.sb h7) ⟨Nat.le_of_ble_eq_true rfl, Nat.le_of_ble_eq_true rfl, Nat.le_of_ble_eq_true rfl, Nat.le_of_ble_eq_true rfl⟩ rfl (Nat.le_of_ble_eq_true rfl) dJ5_append_cf1ce_30 rfl (fun e18 hq => ?_)
  obtain ⟨h19, o20, n21⟩ := hq
  have h22 := (o20 k (by omega)).trans h7
  have p23 : ∀ j, j < k → e18[j]? = es[j]? := fun j hj => (o20 j (by omega)).trans (p17 j hj)
  refine T.aload_n (pc := 33) hG dJ5_append_cf1ce_33 rfl 1 rfl ?_
  refine T.dup (pc := 34) hG dJ5_append_cf1ce_34 rfl ?_
  refine T.get (pc := 35) (ci := 14) (k := k) (fk := 3) (v := .int (sJ (t.length : Int))) hG hin_J4 rfl h22 rfl (by decide) rfl kw_1491 dJ5_append_cf1ce_35 ?_
  refine T.iload_n (pc := 38) hG dJ5_append_cf1ce_38 rfl 0 rfl ?_
  refine T.iaddz (pc := 39) (((t ++ u).length : Int)) hG dJ5_append_cf1ce_39 (by omega) (sR_b (by omega)) ?_
  refine T.put (pc := 40) (ci := 14) (k := k) (fk := 3) (e2 := tsb (some v4) ((t ++ u).length : Int)) hG hin_J4 rfl h22 rfl rfl (by decide) (by show _ < 4; decide) kw_1491 tyJ4 tyJ4_ok nmJ4 rfl (ty := tyJ4 3) (tyJ4_ok 3 (by decide)) rfl rfl dJ5_append_cf1ce_40 (fun e24 h25 o26 n27 => ?_)
  have h28 := (o26 v4 (by omega)).trans h19
  have p29 : ∀ j, j < k → e24[j]? = es[j]? := fun j hj => (o26 j (by omega)).trans (p23 j hj)
  refine T.aload_n (pc := 43) hG dJ5_append_cf1ce_43 rfl 1 rfl ?_
  have hfin := SBT.app (t := t) (u := u) (f := f) h25 h28 kv9 hL10 (by rw [List.length_append]; omega) hft (fun j hj => (if_neg (by omega)).trans (hf13 j (by omega))) (fun j hj => (if_pos (by omega)).trans (by rw [show t.length + j - (t.length : Int).toNat = j by omega]; exact hg2 j hj)) (AB.ite (fun j hj => by rw [hg2 _ (by omega)]; exact hu _ (lstF_mem (by omega))) ab12)
  exact fin dJ5_append_cf1ce_44 (Nat.le_of_ble_eq_true rfl) (Nat.le_of_ble_eq_true rfl) ⟨rfl, hfin, p29, by omega⟩
set_option maxRecDepth 100000 in
set_option maxHeartbeats 4000000 in
theorem tm_sbS (l : Launch) (Δ : Wd) {es : List TE} (hD : TD Δ) {k x : Nat} {t u : List Int} {H lo hi : Nat} (hs : SBT es k t H) (hx : TX Δ es x u lo hi) (hu : asc u) (hl : t.length + u.length ≤ 34) (hne : hi ≤ k ∨ H ≤ lo) : Met l yJ4_append_15ec4 (Cond.code yJ4_append_15ec4 cJ4_append_15ec4 2 (some (.object "java/lang/StringBuilder")) :: gW) (sRx 6 300 1 34) (tPc Δ [.ref (tA Δ k), .ref x] es) (tQr Δ (fun a e => a = tA Δ k ∧ SBT e k (t ++ u) e.length ∧ (∀ j, j < k → e[j]? = es[j]?) ∧ es.length ≤ e.length)) 1 34 (sFr Δ) := by
  refine Tm.r (rt := (.object "java/lang/StringBuilder")) (by decide) rfl (Or.inl ⟨_, rfl⟩) (Nat.le_of_ble_eq_true rfl) (fun Γ Q hG fin => ?_)
  have hG : okG Γ Δ l (sRx 6 300 1 34) cJ4_append_15ec4 "java/lang/StringBuilder" 2 := hG
  show T Γ Δ es 0 0 Q 0 [(0, .ref (tA Δ k)), (1, .ref x)] []
  refine T.aload_n (pc := 0) hG dJ4_append_15ec4_0 rfl 0 rfl ?_
  refine T.aload_n (pc := 1) hG dJ4_append_15ec4_1 rfl 1 rfl ?_
  refine T.callPr (pc := 2) (C := "java/lang/StringBuilder") (ci := 14) (As := [.ref x]) (stk := []) hG (tm_appS l Δ hD (t := t) (u := u) hs hx hu (by (try simp only [List.length_append, List.length_cons, List.length_nil]); omega) (by omega)) mY_J5_append_cf1ce kw_1507 kw_1508 kw_1791 hD.sup (by decide) rfl (SBT.rv hs) ⟨Nat.le_of_ble_eq_true rfl, Nat.le_of_ble_eq_true rfl, Nat.le_of_ble_eq_true rfl, Nat.le_of_ble_eq_true rfl⟩ rfl (Nat.le_of_ble_eq_true rfl) dJ4_append_15ec4_2 rfl (fun b1 e2 hq => ?_)
  obtain ⟨hb9, h3, o4, n5⟩ := hq
  rw [hb9]
  have p6 : ∀ j, j < k → e2[j]? = es[j]? := fun j hj => (o4 j (by omega)).trans ((fun _ _ => rfl) j hj)
  refine T.pop (pc := 5) hG dJ4_append_15ec4_5 rfl ?_
  refine T.aload_n (pc := 6) hG dJ4_append_15ec4_6 rfl 0 rfl ?_
  exact fin dJ4_append_15ec4_7 (Nat.le_of_ble_eq_true rfl) (Nat.le_of_ble_eq_true rfl) ⟨rfl, h3, p6, by omega⟩
set_option maxRecDepth 100000 in
set_option maxHeartbeats 4000000 in
theorem tm_canE (l : Launch) (Δ : Wd) {es : List TE} {c : Int} (hc : 0 ≤ c ∧ c < 128) : Met l yJ1_canEncode_fc78d (Cond.code yJ1_canEncode_fc78d cJ1_canEncode_fc78d 1 (some .boolean) :: gW) (sRx 2 100 0 0) (tPc Δ [.int (sJ c)] es) (tQi Δ (fun x e => x = 1 ∧ e = es)) 0 0 (sFr Δ) := by
  refine Tm.i (ty := .boolean) (by decide) rfl (Nat.le_of_ble_eq_true rfl) (fun Γ Q hG fin => ?_)
  have hG : okG Γ Δ l (sRx 2 100 0 0) cJ1_canEncode_fc78d "java/lang/StringLatin1" 1 := hG
  show T Γ Δ es 0 0 Q 0 [(0, .int (sJ c))] []
  refine T.iload_n (pc := 0) hG dJ1_canEncode_fc78d_0 rfl 0 rfl ?_
  refine T.sipush (pc := 1) hG dJ1_canEncode_fc78d_1 (by decide) ?_
  refine T.icmp_gt (pc := 4) (tgt := 11) hG (sR_b (by omega)) (sR_b (by omega)) dJ1_canEncode_fc78d_4 (by decide) (fun q => absurd q (by omega)) (fun _ => ?_)
  refine T.iconst (pc := 7) hG dJ1_canEncode_fc78d_7 ?_
  refine T.goto (pc := 8) (tgt := 12) hG dJ1_canEncode_fc78d_8 (by decide) ?_
  exact fin dJ1_canEncode_fc78d_12 (sR_b (by omega)) rfl (Nat.le_of_ble_eq_true rfl) (Nat.le_of_ble_eq_true rfl) ⟨rfl, rfl⟩
set_option maxRecDepth 100000 in
set_option maxHeartbeats 4000000 in
theorem tm_appC (l : Launch) (Δ : Wd) {es : List TE} (hD : TD Δ) {k : Nat} {t : List Int} {H : Nat} (hs : SBT es k t H) {c : Int} (hc : 0 ≤ c ∧ c < 128) (hl : t.length + 1 ≤ 34) : Met l yJ5_append_3fe6f (Cond.code yJ5_append_3fe6f cJ5_append_3fe6f 2 (some (.object "java/lang/AbstractStringBuilder")) :: gW) (sRx 5 250 1 34) (tPc Δ [.ref (tA Δ k), .int (sJ c)] es) (tQr Δ (fun a e => a = tA Δ k ∧ SBT e k (t ++ [c]) e.length ∧ (∀ j, j < k → e[j]? = es[j]?) ∧ es.length ≤ e.length)) 1 34 (sFr Δ) := by
  refine Tm.r (rt := (.object "java/lang/AbstractStringBuilder")) (by decide) rfl (Or.inl ⟨_, rfl⟩) (Nat.le_of_ble_eq_true rfl) (fun Γ Q hG fin => ?_)
  have hG : okG Γ Δ l (sRx 5 250 1 34) cJ5_append_3fe6f "java/lang/AbstractStringBuilder" 2 := hG
  obtain ⟨v, L, f, he, hb, hkv, -, htl, hL, hA, hft⟩ := hs
  have hlv := tlt hb
  have hla : (t ++ [c]).length = t.length + 1 := List.length_append
  show T Γ Δ es 0 0 Q 0 [(0, .ref (tA Δ k)), (1, .int (sJ c))] []
  refine T.aload_n (pc := 0) hG dJ5_append_3fe6f_0 rfl 0 rfl ?_
  refine T.aload_n (pc := 1) hG dJ5_append_3fe6f_1 rfl 0 rfl ?_
  refine T.get (pc := 2) (ci := 14) (k := k) (fk := 3) (v := .int (sJ (t.length : Int))) hG hin_J4 rfl he rfl (by decide) rfl kw_1491 dJ5_append_3fe6f_2 ?_
  refine T.iconst (pc := 5) hG dJ5_append_3fe6f_5 ?_
  refine T.iaddz (pc := 6) (((t ++ [c]).length : Int)) hG dJ5_append_3fe6f_6 (by omega) (sR_b (by omega)) ?_
  refine T.callVv (pc := 7) (C := "java/lang/StringBuilder") (As := [.int (sJ ((t ++ [c]).length : Int))]) (stk := []) hG (tm_ens l Δ hD he hb hkv hL hA (m := ((t ++ [c]).length : Int)) (by omega)) mY_J5_ensureCapacityInternal_d00df kw_1514 kw_1516 (hD.sel rfl (by simp [tdL]) kw_1516) (RV.sb he) ⟨Nat.le_of_ble_eq_true rfl, Nat.le_of_ble_eq_true rfl, Nat.le_of_ble_eq_true rfl, Nat.le_of_ble_eq_true rfl⟩ rfl (Nat.le_of_ble_eq_true rfl) dJ5_append_3fe6f_7 rfl (fun e1 hq => ?_)
  obtain ⟨v2, L3, f4, h5, h6, kv7, hL8, hm9, ab10, hf11, hLL12, o13, n14⟩ := hq
  have p15 : ∀ j, j < k → e1[j]? = es[j]? := fun j hj => (o13 j (by omega) (by omega)).trans ((fun _ _ => rfl) j hj)
  refine T.aload_n (pc := 10) hG dJ5_append_3fe6f_10 rfl 0 rfl ?_
  refine T.callVi (pc := 11) (C := "java/lang/StringBuilder") (As := []) (stk := []) hG (tm_isL1 l Δ h5) mY_J5_isLatin1_aae02 kw_1545 kw_1546 (tWd.of kw_1548) (RV.sb h5) ⟨Nat.le_of_ble_eq_true rfl, Nat.le_of_ble_eq_true rfl, Nat.le_of_ble_eq_true rfl, Nat.le_of_ble_eq_true rfl⟩ rfl (Nat.le_of_ble_eq_true rfl) dJ5_append_3fe6f_11 rfl (fun x16 e17 _ hq => ?_)
  rw [hq.1, hq.2]
  refine T.if_eq (pc := 14) (tgt := 45) hG (sR_b (by omega)) dJ5_append_3fe6f_14 (by decide) (fun q => absurd q (by omega)) (fun _ => ?_)
  refine T.iload_n (pc := 17) hG dJ5_append_3fe6f_17 rfl 1 rfl ?_
  refine T.callSi (pc := 18) (As := [.int (sJ c)]) (stk := []) hG (tm_canE l Δ (c := c) (by omega)) mY_J1_canEncode_fc78d kw_1699 kw_1445 ⟨Nat.le_of_ble_eq_true rfl, Nat.le_of_ble_eq_true rfl, Nat.le_of_ble_eq_true rfl, Nat.le_of_ble_eq_true rfl⟩ rfl (Nat.le_of_ble_eq_true rfl) dJ5_append_3fe6f_18 rfl (fun x18 e19 _ hq => ?_)
  rw [hq.1, hq.2]
  refine T.if_eq (pc := 21) (tgt := 45) hG (sR_b (by omega)) dJ5_append_3fe6f_21 (by decide) (fun q => absurd q (by omega)) (fun _ => ?_)
  refine T.aload_n (pc := 24) hG dJ5_append_3fe6f_24 rfl 0 rfl ?_
  refine T.get (pc := 25) (ci := 14) (k := k) (fk := 0) (v := .ref (tA Δ v2)) hG hin_J4 rfl h5 rfl (by decide) rfl kw_1488 dJ5_append_3fe6f_25 ?_
  refine T.aload_n (pc := 28) hG dJ5_append_3fe6f_28 rfl 0 rfl ?_
  refine T.dup (pc := 29) hG dJ5_append_3fe6f_29 rfl ?_
  refine T.get (pc := 30) (ci := 14) (k := k) (fk := 3) (v := .int (sJ (t.length : Int))) hG hin_J4 rfl h5 rfl (by decide) rfl kw_1491 dJ5_append_3fe6f_30 ?_
  refine T.dup_x1 (pc := 33) hG dJ5_append_3fe6f_33 rfl rfl ?_
  refine T.iconst (pc := 34) hG dJ5_append_3fe6f_34 ?_
  refine T.iaddz (pc := 35) (((t ++ [c]).length : Int)) hG dJ5_append_3fe6f_35 (by omega) (sR_b (by omega)) ?_
  refine T.put (pc := 36) (ci := 14) (k := k) (fk := 3) (e2 := tsb (some v2) ((t ++ [c]).length : Int)) hG hin_J4 rfl h5 rfl rfl (by decide) (by show _ < 4; decide) kw_1491 tyJ4 tyJ4_ok nmJ4 rfl (ty := tyJ4 3) (tyJ4_ok 3 (by decide)) rfl rfl dJ5_append_3fe6f_36 (fun e20 h21 o22 n23 => ?_)
  have h24 := (o22 v2 (by omega)).trans h6
  have p25 : ∀ j, j < k → e20[j]? = es[j]? := fun j hj => (o22 j (by omega)).trans (p15 j hj)
  refine T.iload_n (pc := 39) hG dJ5_append_3fe6f_39 rfl 1 rfl ?_
  refine T.i2bz (pc := 40) hG dJ5_append_3fe6f_40 ⟨by omega, by omega⟩ ?_
  refine T.bast (pc := 41) hG h24 (sR_b (by omega)) ⟨by omega, by omega⟩ (narB ⟨by omega, by omega⟩) dJ5_append_3fe6f_41 (fun e26 h27 o28 n29 => ?_)
  have h30 := (o28 k (by omega)).trans h21
  have p31 : ∀ j, j < k → e26[j]? = es[j]? := fun j hj => (o28 j (by omega)).trans (p25 j hj)
  refine T.goto (pc := 42) (tgt := 75) hG dJ5_append_3fe6f_42 (by decide) ?_
  refine T.aload_n (pc := 75) hG dJ5_append_3fe6f_75 rfl 0 rfl ?_
  have hfin := SBT.app (t := t) (u := [c]) (f := f) h30 h27 kv7 hL8 (by rw [hla]; omega) hft (fun j hj => (if_neg (by omega)).trans (hf11 j (by omega))) (fun j hj => by obtain rfl : j = 0 := (by have hj2 : j < 1 := hj; omega); exact (if_pos (by omega)).trans rfl) (AB.ite (fun j _ => hc) ab10)
  exact fin dJ5_append_3fe6f_76 (Nat.le_of_ble_eq_true rfl) (Nat.le_of_ble_eq_true rfl) ⟨rfl, hfin, p31, by omega⟩
set_option maxRecDepth 100000 in
set_option maxHeartbeats 4000000 in
theorem tm_sbC (l : Launch) (Δ : Wd) {es : List TE} (hD : TD Δ) {k : Nat} {t : List Int} {H : Nat} (hs : SBT es k t H) {c : Int} (hc : 0 ≤ c ∧ c < 128) (hl : t.length + 1 ≤ 34) : Met l yJ4_append_cf468 (Cond.code yJ4_append_cf468 cJ4_append_cf468 2 (some (.object "java/lang/StringBuilder")) :: gW) (sRx 6 300 1 34) (tPc Δ [.ref (tA Δ k), .int (sJ c)] es) (tQr Δ (fun a e => a = tA Δ k ∧ SBT e k (t ++ [c]) e.length ∧ (∀ j, j < k → e[j]? = es[j]?) ∧ es.length ≤ e.length)) 1 34 (sFr Δ) := by
  refine Tm.r (rt := (.object "java/lang/StringBuilder")) (by decide) rfl (Or.inl ⟨_, rfl⟩) (Nat.le_of_ble_eq_true rfl) (fun Γ Q hG fin => ?_)
  have hG : okG Γ Δ l (sRx 6 300 1 34) cJ4_append_cf468 "java/lang/StringBuilder" 2 := hG
  show T Γ Δ es 0 0 Q 0 [(0, .ref (tA Δ k)), (1, .int (sJ c))] []
  refine T.aload_n (pc := 0) hG dJ4_append_cf468_0 rfl 0 rfl ?_
  refine T.iload_n (pc := 1) hG dJ4_append_cf468_1 rfl 1 rfl ?_
  refine T.callPr (pc := 2) (C := "java/lang/StringBuilder") (ci := 14) (As := [.int (sJ c)]) (stk := []) hG (tm_appC l Δ hD (t := t) hs (c := c) (by omega) (by (try simp only [List.length_append, List.length_cons, List.length_nil]); omega)) mY_J5_append_3fe6f kw_1696 kw_1697 kw_1799 hD.sup (by decide) rfl (SBT.rv hs) ⟨Nat.le_of_ble_eq_true rfl, Nat.le_of_ble_eq_true rfl, Nat.le_of_ble_eq_true rfl, Nat.le_of_ble_eq_true rfl⟩ rfl (Nat.le_of_ble_eq_true rfl) dJ4_append_cf468_2 rfl (fun b1 e2 hq => ?_)
  obtain ⟨hb9, h3, o4, n5⟩ := hq
  rw [hb9]
  have p6 : ∀ j, j < k → e2[j]? = es[j]? := fun j hj => (o4 j (by omega)).trans ((fun _ _ => rfl) j hj)
  refine T.pop (pc := 5) hG dJ4_append_cf468_5 rfl ?_
  refine T.aload_n (pc := 6) hG dJ4_append_cf468_6 rfl 0 rfl ?_
  exact fin dJ4_append_cf468_7 (Nat.le_of_ble_eq_true rfl) (Nat.le_of_ble_eq_true rfl) ⟨rfl, h3, p6, by omega⟩
set_option maxRecDepth 100000 in
set_option maxHeartbeats 4000000 in
theorem tm_ss (l : Launch) (Δ : Wd) {es : List TE} {n : Int} (hn : 0 ≤ n ∧ n < 100) : Met l yJ6_stringSize_0f7a4 (Cond.code yJ6_stringSize_0f7a4 cJ6_stringSize_0f7a4 4 (some .int) :: gW) (sRx 2 100 0 0) (tPc Δ [.int (sJ n)] es) (tQi Δ (fun x e => x = ((digT n).length : Int) ∧ e = es)) 0 0 (sFr Δ) := by
  refine Tm.i (ty := .int) (by decide) rfl (Nat.le_of_ble_eq_true rfl) (fun Γ Q hG fin => ?_)
  have hG : okG Γ Δ l (sRx 2 100 0 0) cJ6_stringSize_0f7a4 "java/lang/Integer" 4 := hG
  show T Γ Δ es 0 0 Q 0 [(0, .int (sJ n))] []
  refine T.iconst (pc := 0) hG dJ6_stringSize_0f7a4_0 ?_
  refine T.istore_n (pc := 1) (lv' := [(1, .int (sJ 1)), (0, .int (sJ n))]) hG dJ6_stringSize_0f7a4_1 rfl (by decide) rfl ?_
  refine T.iload_n (pc := 2) hG dJ6_stringSize_0f7a4_2 rfl 1 rfl ?_
  refine T.if_lt (pc := 3) (tgt := 11) hG (sR_b (by omega)) dJ6_stringSize_0f7a4_3 (by decide) (fun q => absurd q (by omega)) (fun _ => ?_)
  refine T.iconst (pc := 6) hG dJ6_stringSize_0f7a4_6 ?_
  refine T.istore_n (pc := 7) (lv' := [(1, .int (sJ 0)), (0, .int (sJ n))]) hG dJ6_stringSize_0f7a4_7 rfl (by decide) rfl ?_
  refine T.iload_n (pc := 8) hG dJ6_stringSize_0f7a4_8 rfl 1 rfl ?_
  refine T.inegz (pc := 9) (-n) hG dJ6_stringSize_0f7a4_9 (by omega) (sR_b (by omega)) ?_
  refine T.istore_n (pc := 10) (lv' := [(0, .int (sJ (-n))), (1, .int (sJ 0))]) hG dJ6_stringSize_0f7a4_10 rfl (by decide) rfl ?_
  refine T.bipush (pc := 11) hG dJ6_stringSize_0f7a4_11 (by decide) ?_
  refine T.istore_n (pc := 13) (lv' := [(2, .int (sJ (-10))), (0, .int (sJ (-n))), (1, .int (sJ 0))]) hG dJ6_stringSize_0f7a4_13 rfl (by decide) rfl ?_
  refine T.iconst (pc := 14) hG dJ6_stringSize_0f7a4_14 ?_
  refine T.istore_n (pc := 15) (lv' := [(3, .int (sJ 1)), (2, .int (sJ (-10))), (0, .int (sJ (-n))), (1, .int (sJ 0))]) hG dJ6_stringSize_0f7a4_15 rfl (by decide) rfl ?_
  refine T.iload_n (pc := 16) hG dJ6_stringSize_0f7a4_16 rfl 0 rfl ?_
  refine T.bipush (pc := 17) hG dJ6_stringSize_0f7a4_17 (by decide) ?_
  refine T.icmp_ge (pc := 19) (tgt := 42) hG (sR_b (by omega)) (sR_b (by omega)) dJ6_stringSize_0f7a4_19 (by decide) (fun q => absurd q (by omega)) (fun _ => ?_)
  refine T.iload_n (pc := 22) hG dJ6_stringSize_0f7a4_22 rfl 2 rfl ?_
  refine T.iload_n (pc := 23) hG dJ6_stringSize_0f7a4_23 rfl 1 rfl ?_
  refine T.icmp_le (pc := 24) (tgt := 31) hG (sR_b (by omega)) (sR_b (by omega)) dJ6_stringSize_0f7a4_24 (by decide) (fun hg => ?_) (fun hg => ?_)
  · refine T.bipush (pc := 31) hG dJ6_stringSize_0f7a4_31 (by decide) ?_
    refine T.iload_n (pc := 33) hG dJ6_stringSize_0f7a4_33 rfl 1 rfl ?_
    refine T.imulz (pc := 34) ((-100)) hG dJ6_stringSize_0f7a4_34 (by omega) (sR_b (by omega)) ?_
    refine T.istore_n (pc := 35) (lv' := [(2, .int (sJ (-100))), (3, .int (sJ 1)), (0, .int (sJ (-n))), (1, .int (sJ 0))]) hG dJ6_stringSize_0f7a4_35 rfl (by decide) rfl ?_
    refine T.iincz (pc := 36) (lv' := [(3, .int (sJ 2)), (2, .int (sJ (-100))), (0, .int (sJ (-n))), (1, .int (sJ 0))]) (2) hG dJ6_stringSize_0f7a4_36 1 rfl (by decide) (by omega) (sR_b (by omega)) rfl ?_
    refine T.goto (pc := 39) (tgt := 16) hG dJ6_stringSize_0f7a4_39 (by decide) ?_
    refine T.iload_n (pc := 16) hG dJ6_stringSize_0f7a4_16 rfl 0 rfl ?_
    refine T.bipush (pc := 17) hG dJ6_stringSize_0f7a4_17 (by decide) ?_
    refine T.icmp_ge (pc := 19) (tgt := 42) hG (sR_b (by omega)) (sR_b (by omega)) dJ6_stringSize_0f7a4_19 (by decide) (fun q => absurd q (by omega)) (fun _ => ?_)
    refine T.iload_n (pc := 22) hG dJ6_stringSize_0f7a4_22 rfl 2 rfl ?_
    refine T.iload_n (pc := 23) hG dJ6_stringSize_0f7a4_23 rfl 1 rfl ?_
    refine T.icmp_le (pc := 24) (tgt := 31) hG (sR_b (by omega)) (sR_b (by omega)) dJ6_stringSize_0f7a4_24 (by decide) (fun q => absurd q (by omega)) (fun _ => ?_)
    refine T.iload_n (pc := 27) hG dJ6_stringSize_0f7a4_27 rfl 0 rfl ?_
    refine T.iload_n (pc := 28) hG dJ6_stringSize_0f7a4_28 rfl 3 rfl ?_
    refine T.iaddz (pc := 29) (2) hG dJ6_stringSize_0f7a4_29 (by omega) (sR_b (by omega)) ?_
    exact fin dJ6_stringSize_0f7a4_30 (sR_b (by omega)) rfl (Nat.le_of_ble_eq_true rfl) (Nat.le_of_ble_eq_true rfl) ⟨by unfold digT; rw [if_neg (by omega)]; rfl, rfl⟩
  · refine T.iload_n (pc := 27) hG dJ6_stringSize_0f7a4_27 rfl 0 rfl ?_
    refine T.iload_n (pc := 28) hG dJ6_stringSize_0f7a4_28 rfl 3 rfl ?_
    refine T.iaddz (pc := 29) (1) hG dJ6_stringSize_0f7a4_29 (by omega) (sR_b (by omega)) ?_
    exact fin dJ6_stringSize_0f7a4_30 (sR_b (by omega)) rfl (Nat.le_of_ble_eq_true rfl) (Nat.le_of_ble_eq_true rfl) ⟨by unfold digT; rw [if_pos (by omega)]; rfl, rfl⟩
set_option maxRecDepth 100000 in
set_option maxHeartbeats 4000000 in
theorem tm_gc (l : Launch) (Δ : Wd) {es : List TE} (hD : TD Δ) {n : Int} (hn : 0 ≤ n ∧ n < 100) {d L : Nat} {g : Nat → Int} (hd : es[d]? = some (tba L g)) (hL : L < 1000) {p : Int} (hp : ((digT n).length : Int) ≤ p ∧ p ≤ (L : Int)) : Met l yJ6_getChars_ba4f3 (Cond.code yJ6_getChars_ba4f3 cJ6_getChars_ba4f3 7 (some .int) :: gW) (sRx 2 100 0 0) (tPc Δ [.int (sJ n), .int (sJ p), .ref (tA Δ d)] es) (tQi Δ (fun x e => ∃ G : Nat → Int, e[d]? = some (tba L G) ∧ (∀ q : Nat, q < (digT n).length → G (p.toNat - (digT n).length + q) = lstF (digT n) q) ∧ (∀ j : Nat, j < p.toNat - (digT n).length → G j = g j) ∧ (AB g → AB G) ∧ (∀ j, j ≠ d → e[j]? = es[j]?) ∧ e.length = es.length)) 0 0 (sFr Δ) := by
  refine Tm.i (ty := .int) (by decide) rfl (Nat.le_of_ble_eq_true rfl) (fun Γ Q hG fin => ?_)
  have hG : okG Γ Δ l (sRx 2 100 0 0) cJ6_getChars_ba4f3 "java/lang/Integer" 7 := hG
  have hdo := dOnes_b n.toNat
  have hdt := dTens_b (j := n.toNat) (by omega)
  have hdl : (n ≤ 9 ∧ (digT n).length = 1) ∨ (10 ≤ n ∧ (digT n).length = 2) := by unfold digT; split; exact Or.inl ⟨by omega, rfl⟩; exact Or.inr ⟨by omega, rfl⟩
  show T Γ Δ es 0 0 Q 0 [(0, .int (sJ n)), (1, .int (sJ p)), (2, .ref (tA Δ d))] []
  refine T.iload_n (pc := 0) hG dJ6_getChars_ba4f3_0 rfl 1 rfl ?_
  refine T.istore (pc := 1) (lv' := [(5, .int (sJ p)), (0, .int (sJ n)), (1, .int (sJ p)), (2, .ref (tA Δ d))]) hG dJ6_getChars_ba4f3_1 (by decide) rfl ?_
  refine T.iload_n (pc := 3) hG dJ6_getChars_ba4f3_3 rfl 1 rfl ?_
  refine T.if_ge (pc := 4) (tgt := 11) hG (sR_b (by omega)) dJ6_getChars_ba4f3_4 (by decide) (fun _ => ?_) (fun q => absurd q (by omega))
  refine T.iconst (pc := 11) hG dJ6_getChars_ba4f3_11 ?_
  refine T.istore (pc := 12) (lv' := [(6, .int (sJ 0)), (5, .int (sJ p)), (0, .int (sJ n)), (1, .int (sJ p)), (2, .ref (tA Δ d))]) hG dJ6_getChars_ba4f3_12 (by decide) rfl ?_
  refine T.iload (pc := 14) hG dJ6_getChars_ba4f3_14 0 rfl ?_
  refine T.if_ne (pc := 16) (tgt := 22) hG (sR_b (by omega)) dJ6_getChars_ba4f3_16 (by decide) (fun q => absurd q (by omega)) (fun _ => ?_)
  refine T.iload_n (pc := 19) hG dJ6_getChars_ba4f3_19 rfl 2 rfl ?_
  refine T.inegz (pc := 20) (-n) hG dJ6_getChars_ba4f3_20 (by omega) (sR_b (by omega)) ?_
  refine T.istore_n (pc := 21) (lv' := [(0, .int (sJ (-n))), (6, .int (sJ 0)), (5, .int (sJ p)), (1, .int (sJ p)), (2, .ref (tA Δ d))]) hG dJ6_getChars_ba4f3_21 rfl (by decide) rfl ?_
  refine T.iload_n (pc := 22) hG dJ6_getChars_ba4f3_22 rfl 0 rfl ?_
  refine T.bipush (pc := 23) hG dJ6_getChars_ba4f3_23 (by decide) ?_
  refine T.icmp_gt (pc := 25) (tgt := 72) hG (sR_b (by omega)) (sR_b (by omega)) dJ6_getChars_ba4f3_25 (by decide) (fun _ => ?_) (fun q => absurd q (by omega))
  refine T.aload_n (pc := 72) hG dJ6_getChars_ba4f3_72 rfl 4 rfl ?_
  refine T.iincz (pc := 73) (lv' := [(5, .int (sJ (p + (-1)))), (0, .int (sJ (-n))), (6, .int (sJ 0)), (1, .int (sJ p)), (2, .ref (tA Δ d))]) (p + (-1)) hG dJ6_getChars_ba4f3_73 2 rfl (by decide) (by omega) (sR_b (by omega)) rfl ?_
  refine T.iload (pc := 76) hG dJ6_getChars_ba4f3_76 0 rfl ?_
  refine T.dig (pc := 78) hG hD.2.1 kw_1604 dJ6_getChars_ba4f3_78 (fun t1 ht2 => ?_)
  refine T.iload_n (pc := 81) hG dJ6_getChars_ba4f3_81 rfl 1 rfl ?_
  refine T.inegz (pc := 82) (n) hG dJ6_getChars_ba4f3_82 (by omega) (sR_b (by omega)) ?_
  refine T.bald (pc := 83) hG (ht2 _) (sR_b (by omega)) ⟨by omega, by omega⟩ dJ6_getChars_ba4f3_83 ?_
  refine T.bast (pc := 84) hG hd (sR_b (by omega)) ⟨by omega, by omega⟩ (narB ⟨by omega, by omega⟩) dJ6_getChars_ba4f3_84 (fun e3 h4 o5 n6 => ?_)
  refine T.iload_n (pc := 85) hG dJ6_getChars_ba4f3_85 rfl 1 rfl ?_
  refine T.bipush (pc := 86) hG dJ6_getChars_ba4f3_86 (by decide) ?_
  refine T.icmp_ge (pc := 88) (tgt := 104) hG (sR_b (by omega)) (sR_b (by omega)) dJ6_getChars_ba4f3_88 (by decide) (fun hg => ?_) (fun hg => ?_)
  · refine T.iload (pc := 104) hG dJ6_getChars_ba4f3_104 2 rfl ?_
    refine T.if_eq (pc := 106) (tgt := 118) hG (sR_b (by omega)) dJ6_getChars_ba4f3_106 (by decide) (fun _ => ?_) (fun q => absurd q (by omega))
    refine T.iload (pc := 118) hG dJ6_getChars_ba4f3_118 0 rfl ?_
    have hd1 : digT n = [48 + n] := if_pos (by omega)
    have hd2 : (digT n).length = 1 := by rw [hd1]; rfl
    refine fin dJ6_getChars_ba4f3_120 (sR_b (by omega)) rfl (Nat.le_of_ble_eq_true rfl) (Nat.le_of_ble_eq_true rfl) ⟨_, h4, fun q hq => ?_, fun j hj => if_neg (by omega), fun hg => AB.ite (fun j _ => by unfold dOnes; omega) hg, o5, by omega⟩
    have e : q = 0 := by omega
    subst e
    rw [hd2, hd1]
    exact (if_pos (by omega)).trans (show dOnes n.toNat = 48 + n by unfold dOnes; omega)
  · refine T.aload_n (pc := 91) hG dJ6_getChars_ba4f3_91 rfl 4 rfl ?_
    refine T.iincz (pc := 92) (lv' := [(5, .int (sJ ((p + (-1)) + (-1)))), (0, .int (sJ (-n))), (6, .int (sJ 0)), (1, .int (sJ p)), (2, .ref (tA Δ d))]) ((p + (-1)) + (-1)) hG dJ6_getChars_ba4f3_92 0 rfl (by decide) (by omega) (sR_b (by omega)) rfl ?_
    refine T.iload (pc := 95) hG dJ6_getChars_ba4f3_95 0 rfl ?_
    refine T.dig (pc := 97) hG hD.2.2 kw_1606 dJ6_getChars_ba4f3_97 (fun t7 ht8 => ?_)
    refine T.iload_n (pc := 100) hG dJ6_getChars_ba4f3_100 rfl 1 rfl ?_
    refine T.inegz (pc := 101) (n) hG dJ6_getChars_ba4f3_101 (by omega) (sR_b (by omega)) ?_
    refine T.bald (pc := 102) hG (ht8 _) (sR_b (by omega)) ⟨by omega, by omega⟩ dJ6_getChars_ba4f3_102 ?_
    refine T.bast (pc := 103) hG h4 (sR_b (by omega)) ⟨by omega, by omega⟩ (narB ⟨by omega, by omega⟩) dJ6_getChars_ba4f3_103 (fun e9 h10 o11 n12 => ?_)
    refine T.iload (pc := 104) hG dJ6_getChars_ba4f3_104 2 rfl ?_
    refine T.if_eq (pc := 106) (tgt := 118) hG (sR_b (by omega)) dJ6_getChars_ba4f3_106 (by decide) (fun _ => ?_) (fun q => absurd q (by omega))
    refine T.iload (pc := 118) hG dJ6_getChars_ba4f3_118 0 rfl ?_
    have hd1 : digT n = [48 + n / 10, 48 + n % 10] := if_neg (by omega)
    have hd2 : (digT n).length = 2 := by rw [hd1]; rfl
    refine fin dJ6_getChars_ba4f3_120 (sR_b (by omega)) rfl (Nat.le_of_ble_eq_true rfl) (Nat.le_of_ble_eq_true rfl) ⟨_, h10, fun q hq => ?_, fun j hj => (if_neg (by omega)).trans (if_neg (by omega)), fun hg => AB.ite (fun j _ => by unfold dTens; omega) (AB.ite (fun j _ => by unfold dOnes; omega) hg), fun j hj => (o11 j hj).trans (o5 j hj), by omega⟩
    rcases (show q = 0 ∨ q = 1 by omega) with e | e
    · subst e
      rw [hd2, hd1]
      exact (if_pos (by omega)).trans (show dTens n.toNat = 48 + n / 10 by unfold dTens; omega)
    · subst e
      rw [hd2, hd1]
      exact (if_neg (by omega)).trans ((if_pos (by omega)).trans (show dOnes n.toNat = 48 + n % 10 by unfold dOnes; omega))
set_option maxRecDepth 100000 in
set_option maxHeartbeats 4000000 in
theorem tm_appI (l : Launch) (Δ : Wd) {es : List TE} (hD : TD Δ) {k : Nat} {t : List Int} {H : Nat} (hs : SBT es k t H) {n : Int} (hn : 0 ≤ n ∧ n < 100) (hl : t.length + 2 ≤ 34) : Met l yJ5_append_c97b9 (Cond.code yJ5_append_c97b9 cJ5_append_c97b9 4 (some (.object "java/lang/AbstractStringBuilder")) :: gW) (sRx 5 250 1 34) (tPc Δ [.ref (tA Δ k), .int (sJ n)] es) (tQr Δ (fun a e => a = tA Δ k ∧ SBT e k (t ++ (digT n)) e.length ∧ (∀ j, j < k → e[j]? = es[j]?) ∧ es.length ≤ e.length)) 1 34 (sFr Δ) := by
  refine Tm.r (rt := (.object "java/lang/AbstractStringBuilder")) (by decide) rfl (Or.inl ⟨_, rfl⟩) (Nat.le_of_ble_eq_true rfl) (fun Γ Q hG fin => ?_)
  have hG : okG Γ Δ l (sRx 5 250 1 34) cJ5_append_c97b9 "java/lang/AbstractStringBuilder" 4 := hG
  obtain ⟨v, L, f, he, hb, hkv, -, htl, hL, hA, hft⟩ := hs
  have hlv := tlt hb
  have hdl : (digT n).length = 1 ∨ (digT n).length = 2 := by unfold digT; split; exact Or.inl rfl; exact Or.inr rfl
  have hla : (t ++ digT n).length = t.length + (digT n).length := List.length_append
  show T Γ Δ es 0 0 Q 0 [(0, .ref (tA Δ k)), (1, .int (sJ n))] []
  refine T.aload_n (pc := 0) hG dJ5_append_c97b9_0 rfl 0 rfl ?_
  refine T.get (pc := 1) (ci := 14) (k := k) (fk := 3) (v := .int (sJ (t.length : Int))) hG hin_J4 rfl he rfl (by decide) rfl kw_1491 dJ5_append_c97b9_1 ?_
  refine T.istore_n (pc := 4) (lv' := [(2, .int (sJ (t.length : Int))), (0, .ref (tA Δ k)), (1, .int (sJ n))]) hG dJ5_append_c97b9_4 rfl (by decide) rfl ?_
  refine T.iload_n (pc := 5) hG dJ5_append_c97b9_5 rfl 0 rfl ?_
  refine T.iload_n (pc := 6) hG dJ5_append_c97b9_6 rfl 2 rfl ?_
  refine T.callSi (pc := 7) (As := [.int (sJ n)]) (stk := [.int (sJ (t.length : Int))]) hG (tm_ss l Δ (n := n) (by omega)) mY_J6_stringSize_0f7a4 kw_1624 kw_1598 ⟨Nat.le_of_ble_eq_true rfl, Nat.le_of_ble_eq_true rfl, Nat.le_of_ble_eq_true rfl, Nat.le_of_ble_eq_true rfl⟩ rfl (Nat.le_of_ble_eq_true rfl) dJ5_append_c97b9_7 rfl (fun x1 e2 _ hq => ?_)
  rw [hq.1, hq.2]
  refine T.iaddz (pc := 10) (((t ++ digT n).length : Int)) hG dJ5_append_c97b9_10 (by omega) (sR_b (by omega)) ?_
  refine T.istore_n (pc := 11) (lv' := [(3, .int (sJ ((t ++ digT n).length : Int))), (2, .int (sJ (t.length : Int))), (0, .ref (tA Δ k)), (1, .int (sJ n))]) hG dJ5_append_c97b9_11 rfl (by decide) rfl ?_
  refine T.aload_n (pc := 12) hG dJ5_append_c97b9_12 rfl 2 rfl ?_
  refine T.iload_n (pc := 13) hG dJ5_append_c97b9_13 rfl 0 rfl ?_
  refine T.callVv (pc := 14) (C := "java/lang/StringBuilder") (As := [.int (sJ ((t ++ digT n).length : Int))]) (stk := []) hG (tm_ens l Δ hD he hb hkv hL hA (m := ((t ++ digT n).length : Int)) (by omega)) mY_J5_ensureCapacityInternal_d00df kw_1514 kw_1516 (hD.sel rfl (by simp [tdL]) kw_1516) (RV.sb he) ⟨Nat.le_of_ble_eq_true rfl, Nat.le_of_ble_eq_true rfl, Nat.le_of_ble_eq_true rfl, Nat.le_of_ble_eq_true rfl⟩ rfl (Nat.le_of_ble_eq_true rfl) dJ5_append_c97b9_14 rfl (fun e3 hq => ?_)
  obtain ⟨v4, L5, f6, h7, h8, kv9, hL10, hm11, ab12, hf13, hLL14, o15, n16⟩ := hq
  have p17 : ∀ j, j < k → e3[j]? = es[j]? := fun j hj => (o15 j (by omega) (by omega)).trans ((fun _ _ => rfl) j hj)
  refine T.aload_n (pc := 17) hG dJ5_append_c97b9_17 rfl 2 rfl ?_
  refine T.callVi (pc := 18) (C := "java/lang/StringBuilder") (As := []) (stk := []) hG (tm_isL1 l Δ h7) mY_J5_isLatin1_aae02 kw_1545 kw_1546 (tWd.of kw_1548) (RV.sb h7) ⟨Nat.le_of_ble_eq_true rfl, Nat.le_of_ble_eq_true rfl, Nat.le_of_ble_eq_true rfl, Nat.le_of_ble_eq_true rfl⟩ rfl (Nat.le_of_ble_eq_true rfl) dJ5_append_c97b9_18 rfl (fun x18 e19 _ hq => ?_)
  rw [hq.1, hq.2]
  refine T.if_eq (pc := 21) (tgt := 37) hG (sR_b (by omega)) dJ5_append_c97b9_21 (by decide) (fun q => absurd q (by omega)) (fun _ => ?_)
  refine T.iload_n (pc := 24) hG dJ5_append_c97b9_24 rfl 3 rfl ?_
  refine T.iload_n (pc := 25) hG dJ5_append_c97b9_25 rfl 0 rfl ?_
  refine T.aload_n (pc := 26) hG dJ5_append_c97b9_26 rfl 2 rfl ?_
  refine T.get (pc := 27) (ci := 14) (k := k) (fk := 0) (v := .ref (tA Δ v4)) hG hin_J4 rfl h7 rfl (by decide) rfl kw_1488 dJ5_append_c97b9_27 ?_
  refine T.callSi (pc := 30) (As := [.int (sJ n), .int (sJ ((t ++ digT n).length : Int)), .ref (tA Δ v4)]) (stk := []) hG (tm_gc l Δ hD (n := n) (by omega) h8 (by omega) (p := ((t ++ digT n).length : Int)) (by omega)) mY_J6_getChars_ba4f3 kw_1625 kw_1602 ⟨Nat.le_of_ble_eq_true rfl, Nat.le_of_ble_eq_true rfl, Nat.le_of_ble_eq_true rfl, Nat.le_of_ble_eq_true rfl⟩ rfl (Nat.le_of_ble_eq_true rfl) dJ5_append_c97b9_30 rfl (fun x20 e21 _ hq => ?_)
  obtain ⟨G22, h23, q24, q25, q26, o27, n28⟩ := hq
  have h29 := (o27 k (by omega)).trans h7
  have p30 : ∀ j, j < k → e21[j]? = es[j]? := fun j hj => (o27 j (by omega)).trans (p17 j hj)
  refine T.pop (pc := 33) hG dJ5_append_c97b9_33 rfl ?_
  refine T.goto (pc := 34) (tgt := 48) hG dJ5_append_c97b9_34 (by decide) ?_
  refine T.aload_n (pc := 48) hG dJ5_append_c97b9_48 rfl 2 rfl ?_
  refine T.iload_n (pc := 49) hG dJ5_append_c97b9_49 rfl 0 rfl ?_
  refine T.put (pc := 50) (ci := 14) (k := k) (fk := 3) (e2 := tsb (some v4) ((t ++ digT n).length : Int)) hG hin_J4 rfl h29 rfl rfl (by decide) (by show _ < 4; decide) kw_1491 tyJ4 tyJ4_ok nmJ4 rfl (ty := tyJ4 3) (tyJ4_ok 3 (by decide)) rfl rfl dJ5_append_c97b9_50 (fun e31 h32 o33 n34 => ?_)
  have h35 := (o33 v4 (by omega)).trans h23
  have p36 : ∀ j, j < k → e31[j]? = es[j]? := fun j hj => (o33 j (by omega)).trans (p30 j hj)
  refine T.aload_n (pc := 53) hG dJ5_append_c97b9_53 rfl 2 rfl ?_
  have hfin := SBT.app (t := t) (u := digT n) (f := f) h32 h35 kv9 hL10 (by rw [List.length_append]; omega) hft (fun j hj => (q25 j (by omega)).trans (hf13 j (by omega))) (fun j hj => by have h9 := q24 j hj; rw [show ((t ++ digT n).length : Int).toNat - (digT n).length + j = t.length + j by omega] at h9; exact h9) (q26 ab12)
  exact fin dJ5_append_c97b9_54 (Nat.le_of_ble_eq_true rfl) (Nat.le_of_ble_eq_true rfl) ⟨rfl, hfin, p36, by omega⟩
set_option maxRecDepth 100000 in
set_option maxHeartbeats 4000000 in
theorem tm_sbI (l : Launch) (Δ : Wd) {es : List TE} (hD : TD Δ) {k : Nat} {t : List Int} {H : Nat} (hs : SBT es k t H) {n : Int} (hn : 0 ≤ n ∧ n < 100) (hl : t.length + 2 ≤ 34) : Met l yJ4_append_bf812 (Cond.code yJ4_append_bf812 cJ4_append_bf812 2 (some (.object "java/lang/StringBuilder")) :: gW) (sRx 6 300 1 34) (tPc Δ [.ref (tA Δ k), .int (sJ n)] es) (tQr Δ (fun a e => a = tA Δ k ∧ SBT e k (t ++ (digT n)) e.length ∧ (∀ j, j < k → e[j]? = es[j]?) ∧ es.length ≤ e.length)) 1 34 (sFr Δ) := by
  refine Tm.r (rt := (.object "java/lang/StringBuilder")) (by decide) rfl (Or.inl ⟨_, rfl⟩) (Nat.le_of_ble_eq_true rfl) (fun Γ Q hG fin => ?_)
  have hG : okG Γ Δ l (sRx 6 300 1 34) cJ4_append_bf812 "java/lang/StringBuilder" 2 := hG
  show T Γ Δ es 0 0 Q 0 [(0, .ref (tA Δ k)), (1, .int (sJ n))] []
  refine T.aload_n (pc := 0) hG dJ4_append_bf812_0 rfl 0 rfl ?_
  refine T.iload_n (pc := 1) hG dJ4_append_bf812_1 rfl 1 rfl ?_
  refine T.callPr (pc := 2) (C := "java/lang/StringBuilder") (ci := 14) (As := [.int (sJ n)]) (stk := []) hG (tm_appI l Δ hD (t := t) hs (n := n) (by omega) (by (try simp only [List.length_append, List.length_cons, List.length_nil]); omega)) mY_J5_append_c97b9 kw_1621 kw_1622 kw_1798 hD.sup (by decide) rfl (SBT.rv hs) ⟨Nat.le_of_ble_eq_true rfl, Nat.le_of_ble_eq_true rfl, Nat.le_of_ble_eq_true rfl, Nat.le_of_ble_eq_true rfl⟩ rfl (Nat.le_of_ble_eq_true rfl) dJ4_append_bf812_2 rfl (fun b1 e2 hq => ?_)
  obtain ⟨hb9, h3, o4, n5⟩ := hq
  rw [hb9]
  have p6 : ∀ j, j < k → e2[j]? = es[j]? := fun j hj => (o4 j (by omega)).trans ((fun _ _ => rfl) j hj)
  have l7 := (okT.dgt (n := n) (by omega)).1
  refine T.pop (pc := 5) hG dJ4_append_bf812_5 rfl ?_
  refine T.aload_n (pc := 6) hG dJ4_append_bf812_6 rfl 0 rfl ?_
  exact fin dJ4_append_bf812_7 (Nat.le_of_ble_eq_true rfl) (Nat.le_of_ble_eq_true rfl) ⟨rfl, h3, p6, by omega⟩
set_option maxRecDepth 100000 in
set_option maxHeartbeats 4000000 in
theorem tm_getV (l : Launch) (Δ : Wd) {es : List TE} {k v : Nat} {n : Int} (he : es[k]? = some (tsb (some v) n)) : Met l yJ5_getValue_6d5f1 (Cond.code yJ5_getValue_6d5f1 cJ5_getValue_6d5f1 1 (some (.array .byte)) :: gW) (sRx 2 100 0 0) (tPc Δ [.ref (tA Δ k)] es) (tQr Δ (fun a e => a = tA Δ v ∧ e = es)) 0 0 (sFr Δ) := by
  refine Tm.r (rt := (.array .byte)) (by decide) rfl (Or.inr ⟨_, rfl⟩) (Nat.le_of_ble_eq_true rfl) (fun Γ Q hG fin => ?_)
  have hG : okG Γ Δ l (sRx 2 100 0 0) cJ5_getValue_6d5f1 "java/lang/AbstractStringBuilder" 1 := hG
  show T Γ Δ es 0 0 Q 0 [(0, .ref (tA Δ k))] []
  refine T.aload_n (pc := 0) hG dJ5_getValue_6d5f1_0 rfl 0 rfl ?_
  refine T.get (pc := 1) (ci := 14) (k := k) (fk := 0) (v := .ref (tA Δ v)) hG hin_J4 rfl he rfl (by decide) rfl kw_1488 dJ5_getValue_6d5f1_1 ?_
  exact fin dJ5_getValue_6d5f1_4 (Nat.le_of_ble_eq_true rfl) (Nat.le_of_ble_eq_true rfl) ⟨rfl, rfl⟩
set_option maxRecDepth 100000 in
set_option maxHeartbeats 4000000 in
theorem tm_asLen (l : Launch) (Δ : Wd) {es : List TE} {k : Nat} {v : Option Nat} {n : Int} (he : es[k]? = some (tsb v n)) (hr : 0 ≤ n ∧ n < 1000) : Met l yJ5_length_8abf5 (Cond.code yJ5_length_8abf5 cJ5_length_8abf5 1 (some .int) :: gW) (sRx 2 100 0 0) (tPc Δ [.ref (tA Δ k)] es) (tQi Δ (fun x e => x = n ∧ e = es)) 0 0 (sFr Δ) := by
  refine Tm.i (ty := .int) (by decide) rfl (Nat.le_of_ble_eq_true rfl) (fun Γ Q hG fin => ?_)
  have hG : okG Γ Δ l (sRx 2 100 0 0) cJ5_length_8abf5 "java/lang/AbstractStringBuilder" 1 := hG
  show T Γ Δ es 0 0 Q 0 [(0, .ref (tA Δ k))] []
  refine T.aload_n (pc := 0) hG dJ5_length_8abf5_0 rfl 0 rfl ?_
  refine T.get (pc := 1) (ci := 14) (k := k) (fk := 3) (v := .int (sJ n)) hG hin_J4 rfl he rfl (by decide) rfl kw_1491 dJ5_length_8abf5_1 ?_
  exact fin dJ5_length_8abf5_4 (sR_b (by omega)) rfl (Nat.le_of_ble_eq_true rfl) (Nat.le_of_ble_eq_true rfl) ⟨rfl, rfl⟩
set_option maxRecDepth 100000 in
set_option maxHeartbeats 4000000 in
theorem tm_sbLen (l : Launch) (Δ : Wd) {es : List TE} (hD : TD Δ) {k : Nat} {v : Option Nat} {n : Int} (he : es[k]? = some (tsb v n)) (hr : 0 ≤ n ∧ n < 1000) : Met l yJ4_length_8abf5 (Cond.code yJ4_length_8abf5 cJ4_length_8abf5 1 (some .int) :: gW) (sRx 3 130 0 0) (tPc Δ [.ref (tA Δ k)] es) (tQi Δ (fun x e => x = n ∧ e = es)) 0 0 (sFr Δ) := by
  refine Tm.i (ty := .int) (by decide) rfl (Nat.le_of_ble_eq_true rfl) (fun Γ Q hG fin => ?_)
  have hG : okG Γ Δ l (sRx 3 130 0 0) cJ4_length_8abf5 "java/lang/StringBuilder" 1 := hG
  show T Γ Δ es 0 0 Q 0 [(0, .ref (tA Δ k))] []
  refine T.aload_n (pc := 0) hG dJ4_length_8abf5_0 rfl 0 rfl ?_
  refine T.callPi (pc := 1) (C := "java/lang/StringBuilder") (ci := 14) (As := []) (stk := []) hG (tm_asLen l Δ he (by omega)) mY_J5_length_8abf5 kw_1652 kw_1647 kw_1648 hD.sup (by decide) rfl (RV.sb he) ⟨Nat.le_of_ble_eq_true rfl, Nat.le_of_ble_eq_true rfl, Nat.le_of_ble_eq_true rfl, Nat.le_of_ble_eq_true rfl⟩ rfl (Nat.le_of_ble_eq_true rfl) dJ4_length_8abf5_1 rfl (fun x1 e2 _ hq => ?_)
  rw [hq.1, hq.2]
  exact fin dJ4_length_8abf5_4 (sR_b (by omega)) rfl (Nat.le_of_ble_eq_true rfl) (Nat.le_of_ble_eq_true rfl) ⟨rfl, rfl⟩
set_option maxRecDepth 100000 in
set_option maxHeartbeats 4000000 in
theorem tm_chkL (l : Launch) (Δ : Wd) {es : List TE} {n : Int} (hn : 0 ≤ n ∧ n < 1000) : Met l yJ7_checkLength_df160 (Cond.code yJ7_checkLength_df160 cJ7_checkLength_df160 2 none :: gW) (sRx 2 100 0 0) (tPc Δ [.int (sJ 0), .int (sJ n)] es) (tQv Δ (fun e => e = es)) 0 0 (sFr Δ) := by
  refine Tm.v (by decide) (Nat.le_of_ble_eq_true rfl) (fun Γ Q hG hini fin => ?_)
  have hG : okG Γ Δ l (sRx 2 100 0 0) cJ7_checkLength_df160 "java/util/Arrays" 2 := hG
  show T Γ Δ es 0 0 Q 0 [(0, .int (sJ 0)), (1, .int (sJ n))] []
  refine T.iload_n (pc := 0) hG dJ7_checkLength_df160_0 rfl 1 rfl ?_
  refine T.iload_n (pc := 1) hG dJ7_checkLength_df160_1 rfl 0 rfl ?_
  refine T.icmp_ge (pc := 2) (tgt := 37) hG (sR_b (by omega)) (sR_b (by omega)) dJ7_checkLength_df160_2 (by decide) (fun _ => ?_) (fun q => absurd q (by omega))
  exact fin dJ7_checkLength_df160_37 (Nat.le_of_ble_eq_true rfl) (Nat.le_of_ble_eq_true rfl) rfl
set_option maxRecDepth 100000 in
set_option maxHeartbeats 4000000 in
theorem tm_cRB (l : Launch) (Δ : Wd) {es : List TE} {v L n : Nat} {f : Nat → Int} (hb : es[v]? = some (tba L f)) (hA : AB f) (hn : n ≤ L) (hL : L ≤ 34) : Met l yJ7_copyOfRangeByte_39247 (Cond.code yJ7_copyOfRangeByte_39247 cJ7_copyOfRangeByte_39247 5 (some (.array .byte)) :: gW) (sRx 3 130 1 34) (tPc Δ [.ref (tA Δ v), .int (sJ 0), .int (sJ (n : Int))] es) (tQr Δ (fun a e => a = tA Δ es.length ∧ ∃ f', e[es.length]? = some (tba n f') ∧ (∀ j : Nat, j < n → f' j = f j) ∧ (∀ j, j < es.length → e[j]? = es[j]?) ∧ e.length = es.length + 1)) 1 34 (sFr Δ) := by
  refine Tm.r (rt := (.array .byte)) (by decide) rfl (Or.inr ⟨_, rfl⟩) (Nat.le_of_ble_eq_true rfl) (fun Γ Q hG fin => ?_)
  have hG : okG Γ Δ l (sRx 3 130 1 34) cJ7_copyOfRangeByte_39247 "java/util/Arrays" 5 := hG
  have hlv := tlt hb
  show T Γ Δ es 0 0 Q 0 [(0, .ref (tA Δ v)), (1, .int (sJ 0)), (2, .int (sJ (n : Int)))] []
  refine T.iload_n (pc := 0) hG dJ7_copyOfRangeByte_39247_0 rfl 1 rfl ?_
  refine T.iload_n (pc := 1) hG dJ7_copyOfRangeByte_39247_1 rfl 2 rfl ?_
  refine T.callSv (pc := 2) (As := [.int (sJ 0), .int (sJ (n : Int))]) (stk := []) hG (tm_chkL l Δ (n := (n : Int)) (by omega)) mY_J7_checkLength_df160 kw_1661 kw_1662 ⟨Nat.le_of_ble_eq_true rfl, Nat.le_of_ble_eq_true rfl, Nat.le_of_ble_eq_true rfl, Nat.le_of_ble_eq_true rfl⟩ rfl (Nat.le_of_ble_eq_true rfl) dJ7_copyOfRangeByte_39247_2 rfl (fun e1 hq => ?_)
  rw [hq]
  refine T.iload_n (pc := 5) hG dJ7_copyOfRangeByte_39247_5 rfl 2 rfl ?_
  refine T.iload_n (pc := 6) hG dJ7_copyOfRangeByte_39247_6 rfl 1 rfl ?_
  refine T.isubz (pc := 7) ((n : Int)) hG dJ7_copyOfRangeByte_39247_7 (by omega) (sR_b (by omega)) ?_
  refine T.istore_n (pc := 8) (lv' := [(3, .int (sJ (n : Int))), (0, .ref (tA Δ v)), (1, .int (sJ 0)), (2, .int (sJ (n : Int)))]) hG dJ7_copyOfRangeByte_39247_8 rfl (by decide) rfl ?_
  refine T.iload_n (pc := 9) hG dJ7_copyOfRangeByte_39247_9 rfl 0 rfl ?_
  refine T.newB (pc := 10) (z := n) hG kw_997 (by omega) (by omega) ⟨Nat.le_of_ble_eq_true rfl, (by show (0 + 0) + n ≤ 34; omega)⟩ dJ7_copyOfRangeByte_39247_10 (fun e2 h3 o4 n5 => ?_)
  have g7 := tlt hb
  have h6 := (o4 _ g7).trans hb
  have p8 : ∀ j, j < es.length → e2[j]? = es[j]? := fun j hj => (o4 j (by omega)).trans ((fun _ _ => rfl) j hj)
  refine T.astore (pc := 12) (lv' := [(4, .ref (tA Δ es.length)), (3, .int (sJ (n : Int))), (0, .ref (tA Δ v)), (1, .int (sJ 0)), (2, .int (sJ (n : Int)))]) hG dJ7_copyOfRangeByte_39247_12 (by decide) rfl ?_
  refine T.aload_n (pc := 14) hG dJ7_copyOfRangeByte_39247_14 rfl 2 rfl ?_
  refine T.iload_n (pc := 15) hG dJ7_copyOfRangeByte_39247_15 rfl 3 rfl ?_
  refine T.aload (pc := 16) hG dJ7_copyOfRangeByte_39247_16 0 rfl ?_
  refine T.iconst (pc := 18) hG dJ7_copyOfRangeByte_39247_18 ?_
  refine T.aload_n (pc := 19) hG dJ7_copyOfRangeByte_39247_19 rfl 2 rfl ?_
  refine T.blen (pc := 20) hG (BT.ba h6) dJ7_copyOfRangeByte_39247_20 ?_
  refine T.iload_n (pc := 21) hG dJ7_copyOfRangeByte_39247_21 rfl 3 rfl ?_
  refine T.isubz (pc := 22) ((L : Int)) hG dJ7_copyOfRangeByte_39247_22 (by omega) (sR_b (by omega)) ?_
  refine T.iload_n (pc := 23) hG dJ7_copyOfRangeByte_39247_23 rfl 1 rfl ?_
  refine T.mmin (pc := 24) hG (sR_b (by omega)) (sR_b (by omega)) kw_1541 kw_646 kw_121 kw_min ⟨Nat.le_of_ble_eq_true rfl, Nat.le_of_ble_eq_true rfl, Nat.le_of_ble_eq_true rfl, (by show ((0 + 0) + n) ≤ 34; omega)⟩ dJ7_copyOfRangeByte_39247_24 ?_
  refine T.iz (z := (n : Int)) (by omega) ?_
  refine T.copy (pc := 27) (f := f) hG (BT.ba h6) h3 (by omega) ⟨by omega, by omega⟩ ⟨by omega, by omega⟩ (fun j _ => hA j) kw_1542 kw_1544 kw_1543 kw_133 ⟨Nat.le_of_ble_eq_true rfl, by decide⟩ dJ7_copyOfRangeByte_39247_27 (fun e9 h10 o11 n12 => ?_)
  have h13 := (o11 v (by omega)).trans h6
  have p14 : ∀ j, j < es.length → e9[j]? = es[j]? := fun j hj => (o11 j (by omega)).trans (p8 j hj)
  refine T.aload (pc := 30) hG dJ7_copyOfRangeByte_39247_30 0 rfl ?_
  exact fin dJ7_copyOfRangeByte_39247_32 (Nat.le_of_ble_eq_true rfl) (by omega) ⟨rfl, _, h10, fun j hj => (if_pos (show (0 : Int).toNat ≤ j ∧ j < (0 : Int).toNat + (n : Int).toNat from ⟨Nat.zero_le _, by omega⟩)).trans (congrArg f (Nat.sub_zero j)), p14, by omega⟩
set_option maxRecDepth 100000 in
set_option maxHeartbeats 4000000 in
theorem tm_cR (l : Launch) (Δ : Wd) {es : List TE} {v L n : Nat} {f : Nat → Int} (hb : es[v]? = some (tba L f)) (hA : AB f) (hn : n ≤ L) (hL : L ≤ 34) : Met l yJ7_copyOfRange_39247 (Cond.code yJ7_copyOfRange_39247 cJ7_copyOfRange_39247 3 (some (.array .byte)) :: gW) (sRx 4 170 1 34) (tPc Δ [.ref (tA Δ v), .int (sJ 0), .int (sJ (n : Int))] es) (tQr Δ (fun a e => a = tA Δ es.length ∧ ∃ f', e[es.length]? = some (tba n f') ∧ (∀ j : Nat, j < n → f' j = f j) ∧ (∀ j, j < es.length → e[j]? = es[j]?) ∧ e.length = es.length + 1)) 1 34 (sFr Δ) := by
  refine Tm.r (rt := (.array .byte)) (by decide) rfl (Or.inr ⟨_, rfl⟩) (Nat.le_of_ble_eq_true rfl) (fun Γ Q hG fin => ?_)
  have hG : okG Γ Δ l (sRx 4 170 1 34) cJ7_copyOfRange_39247 "java/util/Arrays" 3 := hG
  have hlv := tlt hb
  show T Γ Δ es 0 0 Q 0 [(0, .ref (tA Δ v)), (1, .int (sJ 0)), (2, .int (sJ (n : Int)))] []
  refine T.iload_n (pc := 0) hG dJ7_copyOfRange_39247_0 rfl 1 rfl ?_
  refine T.if_ne (pc := 1) (tgt := 10) hG (sR_b (by omega)) dJ7_copyOfRange_39247_1 (by decide) (fun q => absurd q (by omega)) (fun _ => ?_)
  refine T.iload_n (pc := 4) hG dJ7_copyOfRange_39247_4 rfl 2 rfl ?_
  refine T.aload_n (pc := 5) hG dJ7_copyOfRange_39247_5 rfl 0 rfl ?_
  refine T.blen (pc := 6) hG (BT.ba hb) dJ7_copyOfRange_39247_6 ?_
  refine T.icmp_eq (pc := 7) (tgt := 17) hG (sR_b (by omega)) (sR_b (by omega)) dJ7_copyOfRange_39247_7 (by decide) (fun hg => ?_) (fun hg => ?_)
  · refine T.aload_n (pc := 17) hG dJ7_copyOfRange_39247_17 rfl 0 rfl ?_
    refine T.clone (pc := 18) hG hb (fun j _ => hA j) kw_1534 kw_1535 kw_1536 kw_1537 kw_1538 kw_1539 ⟨Nat.le_of_ble_eq_true rfl, by decide, Nat.le_of_ble_eq_true rfl, (by show 0 + L ≤ 34; omega)⟩ dJ7_copyOfRange_39247_18 (fun e1 h2 o3 n4 => ?_)
    have g6 := tlt hb
    have h5 := (o3 _ g6).trans hb
    have p7 : ∀ j, j < es.length → e1[j]? = es[j]? := fun j hj => (o3 j (by omega)).trans ((fun _ _ => rfl) j hj)
    refine T.castB (pc := 21) hG h2 kw_1540 dJ7_copyOfRange_39247_21 ?_
    have hnL : n = L := by omega
    exact fin dJ7_copyOfRange_39247_24 (Nat.le_of_ble_eq_true rfl) (by omega) ⟨rfl, _, hnL ▸ h2, fun _ _ => rfl, p7, by omega⟩
  · refine T.aload_n (pc := 10) hG dJ7_copyOfRange_39247_10 rfl 0 rfl ?_
    refine T.iload_n (pc := 11) hG dJ7_copyOfRange_39247_11 rfl 1 rfl ?_
    refine T.iload_n (pc := 12) hG dJ7_copyOfRange_39247_12 rfl 2 rfl ?_
    refine T.callSr (pc := 13) (As := [.ref (tA Δ v), .int (sJ 0), .int (sJ (n : Int))]) (stk := []) hG (tm_cRB l Δ hb hA (n := n) (by omega) (by omega)) mY_J7_copyOfRangeByte_39247 kw_1658 kw_1659 ⟨Nat.le_of_ble_eq_true rfl, Nat.le_of_ble_eq_true rfl, Nat.le_of_ble_eq_true rfl, Nat.le_of_ble_eq_true rfl⟩ rfl (Nat.le_of_ble_eq_true rfl) dJ7_copyOfRange_39247_13 rfl (fun b8 e9 hq => ?_)
    obtain ⟨hb9, f10, h11, hf12, o13, n14⟩ := hq
    rw [hb9]
    have g16 := tlt hb
    have h15 := (o13 _ g16).trans hb
    have p17 : ∀ j, j < es.length → e9[j]? = es[j]? := fun j hj => (o13 j (by omega)).trans ((fun _ _ => rfl) j hj)
    exact fin dJ7_copyOfRange_39247_16 (Nat.le_of_ble_eq_true rfl) (Nat.le_of_ble_eq_true rfl) ⟨rfl, _, h11, hf12, p17, by omega⟩
set_option maxRecDepth 100000 in
set_option maxHeartbeats 4000000 in
theorem tm_sInitA (l : Launch) (Δ : Wd) {es : List TE} (hD : TD Δ) {k k2 : Nat} {t : List Int} {H : Nat} (hs : SBT es k t H) (hk2 : es[k2]? = some (tst none)) (hl : t.length ≤ 34) : Met l yJ0_init_db425 (Cond.code yJ0_init_db425 cJ0_init_db425 5 none :: gW) (sRx 5 210 1 34) (tPc Δ [.ref (tA Δ k2), .ref (tA Δ k), .null] es) (tQv Δ (fun e => ∃ (j : Nat) (f : Nat → Int), e[k2]? = some (tst (some j)) ∧ e[j]? = some (tba t.length f) ∧ es.length ≤ j ∧ (∀ q : Nat, q < t.length → f q = lstF t q) ∧ (∀ q, q ≠ k2 → q < es.length → e[q]? = es[q]?) ∧ es.length ≤ e.length)) 1 34 (sFr Δ) := by
  refine Tm.v (by decide) (Nat.le_of_ble_eq_true rfl) (fun Γ Q hG hini fin => ?_)
  have hG : okG Γ Δ l (sRx 5 210 1 34) cJ0_init_db425 "java/lang/String" 5 := hG
  have hini : okIni Γ := hini rfl
  obtain ⟨v, L, f, he, hb, hkv, -, htl, hL, hA, hft⟩ := hs
  have hlv := tlt hb
  have hlk := tlt hk2
  have hlk1 := tlt he
  have hkk : k ≠ k2 := fun z => by rw [z, hk2] at he; cases he
  have hkv2 : v ≠ k2 := fun z => by rw [z, hk2] at hb; cases hb
  show T Γ Δ es 0 0 Q 0 [(0, .ref (tA Δ k2)), (1, .ref (tA Δ k)), (2, .null)] []
  refine T.aload_n (pc := 0) hG dJ0_init_db425_0 rfl 0 rfl ?_
  refine T.objInit (pc := 1) hG kw_1454 kw_142 ko_code ⟨Nat.le_of_ble_eq_true rfl, Nat.le_of_ble_eq_true rfl⟩ dJ0_init_db425_1 ?_
  refine T.aload_n (pc := 4) hG dJ0_init_db425_4 rfl 1 rfl ?_
  refine T.callVr (pc := 5) (C := "java/lang/StringBuilder") (As := []) (stk := []) hG (tm_getV l Δ he) mY_J5_getValue_6d5f1 kw_1641 kw_1642 (tWd.of kw_1644) (RV.sb he) ⟨Nat.le_of_ble_eq_true rfl, Nat.le_of_ble_eq_true rfl, Nat.le_of_ble_eq_true rfl, Nat.le_of_ble_eq_true rfl⟩ rfl (Nat.le_of_ble_eq_true rfl) dJ0_init_db425_5 rfl (fun b1 e2 hq => ?_)
  rw [hq.1, hq.2]
  refine T.astore_n (pc := 8) (lv' := [(3, .ref (tA Δ v)), (0, .ref (tA Δ k2)), (1, .ref (tA Δ k)), (2, .null)]) hG dJ0_init_db425_8 rfl (by decide) rfl ?_
  refine T.aload_n (pc := 9) hG dJ0_init_db425_9 rfl 2 rfl ?_
  refine T.callO (pc := 10) (x0 := yJ5_length_8abf5) (owner := "java/lang/AbstractStringBuilder") (C := "java/lang/StringBuilder") (As := []) (stk := []) hG (tm_sbLen l Δ hD he (by omega)) mY_J4_length_8abf5 tGO kw_1653 ⟨by decide, by decide, by decide +kernel⟩ (RV.sb he) ⟨Nat.le_of_ble_eq_true rfl, Nat.le_of_ble_eq_true rfl, Nat.le_of_ble_eq_true rfl, Nat.le_of_ble_eq_true rfl⟩ rfl (Nat.le_of_ble_eq_true rfl) dJ0_init_db425_10 rfl (fun x3 e4 _ hq => ?_)
  rw [hq.1, hq.2]
  refine T.istore (pc := 13) (lv' := [(4, .int (sJ (t.length : Int))), (3, .ref (tA Δ v)), (0, .ref (tA Δ k2)), (1, .ref (tA Δ k)), (2, .null)]) hG dJ0_init_db425_13 (by decide) rfl ?_
  refine T.aload_n (pc := 15) hG dJ0_init_db425_15 rfl 3 rfl ?_
  refine T.callVi (pc := 16) (C := "java/lang/StringBuilder") (As := []) (stk := []) hG (tm_isL1 l Δ he) mY_J5_isLatin1_aae02 kw_1654 kw_1546 (tWd.of kw_1548) (RV.sb he) ⟨Nat.le_of_ble_eq_true rfl, Nat.le_of_ble_eq_true rfl, Nat.le_of_ble_eq_true rfl, Nat.le_of_ble_eq_true rfl⟩ rfl (Nat.le_of_ble_eq_true rfl) dJ0_init_db425_16 rfl (fun x5 e6 _ hq => ?_)
  rw [hq.1, hq.2]
  refine T.if_eq (pc := 19) (tgt := 41) hG (sR_b (by omega)) dJ0_init_db425_19 (by decide) (fun q => absurd q (by omega)) (fun _ => ?_)
  refine T.aload_n (pc := 22) hG dJ0_init_db425_22 rfl 2 rfl ?_
  refine T.iconst (pc := 23) hG dJ0_init_db425_23 ?_
  refine T.putF (pc := 24) (ci := 0) (k := k2) (fk := 1) (e2 := tst none) hG hin_J0 rfl hk2 rfl rfl (by decide) (by show _ < 4; decide) kw_1456 tyJ0 tyJ0_ok nmJ0 rfl hini rfl (ty := tyJ0 1) (tyJ0_ok 1 (by decide)) rfl rfl dJ0_init_db425_24 (fun e7 h8 o9 n10 => ?_)
  have h11 := (o9 k (by omega)).trans he
  have h12 := (o9 v (by omega)).trans hb
  refine T.aload_n (pc := 27) hG dJ0_init_db425_27 rfl 2 rfl ?_
  refine T.aload_n (pc := 28) hG dJ0_init_db425_28 rfl 1 rfl ?_
  refine T.iconst (pc := 29) hG dJ0_init_db425_29 ?_
  refine T.iload (pc := 30) hG dJ0_init_db425_30 0 rfl ?_
  refine T.callSr (pc := 32) (As := [.ref (tA Δ v), .int (sJ 0), .int (sJ (t.length : Int))]) (stk := [.ref (tA Δ k2)]) hG (tm_cR l Δ h12 hA (n := t.length) (by omega) (by omega)) mY_J7_copyOfRange_39247 kw_1655 kw_1656 ⟨Nat.le_of_ble_eq_true rfl, Nat.le_of_ble_eq_true rfl, Nat.le_of_ble_eq_true rfl, Nat.le_of_ble_eq_true rfl⟩ rfl (Nat.le_of_ble_eq_true rfl) dJ0_init_db425_32 rfl (fun b13 e14 hq => ?_)
  obtain ⟨hb9, f15, h16, hf17, o18, n19⟩ := hq
  rw [hb9]
  have g21 := tlt h11
  have h20 := (o18 _ g21).trans h11
  have g23 := tlt h12
  have h22 := (o18 _ g23).trans h12
  have g25 := tlt h8
  have h24 := (o18 _ g25).trans h8
  refine T.putF (pc := 35) (ci := 0) (k := k2) (fk := 0) (e2 := tst (some e7.length)) hG hin_J0 rfl h24 rfl rfl (by decide) (by show _ < 4; decide) kw_1455 tyJ0 tyJ0_ok nmJ0 rfl hini rfl (ty := tyJ0 0) (tyJ0_ok 0 (by decide)) rfl rfl dJ0_init_db425_35 (fun e26 h27 o28 n29 => ?_)
  have h30 := (o28 k (by omega)).trans h20
  have h31 := (o28 v (by omega)).trans h22
  have h32 := (o28 e7.length (by omega)).trans h16
  refine T.goto (pc := 38) (tgt := 97) hG dJ0_init_db425_38 (by decide) ?_
  exact fin dJ0_init_db425_97 (Nat.le_of_ble_eq_true rfl) (Nat.le_of_ble_eq_true rfl) ⟨_, _, h27, h32, by omega, fun q hq => (hf17 q hq).trans (hft q hq), fun q h1 h2 => (o28 q h1).trans ((o18 q (by omega)).trans (o9 q h1)), by omega⟩
set_option maxRecDepth 100000 in
set_option maxHeartbeats 4000000 in
theorem tm_sInitB (l : Launch) (Δ : Wd) {es : List TE} (hD : TD Δ) {k k2 : Nat} {t : List Int} {H : Nat} (hs : SBT es k t H) (hk2 : es[k2]? = some (tst none)) (hl : t.length ≤ 34) : Met l yJ0_init_81219 (Cond.code yJ0_init_81219 cJ0_init_81219 2 none :: gW) (sRx 6 240 1 34) (tPc Δ [.ref (tA Δ k2), .ref (tA Δ k)] es) (tQv Δ (fun e => ∃ (j : Nat) (f : Nat → Int), e[k2]? = some (tst (some j)) ∧ e[j]? = some (tba t.length f) ∧ es.length ≤ j ∧ (∀ q : Nat, q < t.length → f q = lstF t q) ∧ (∀ q, q ≠ k2 → q < es.length → e[q]? = es[q]?) ∧ es.length ≤ e.length)) 1 34 (sFr Δ) := by
  refine Tm.v (by decide) (Nat.le_of_ble_eq_true rfl) (fun Γ Q hG hini fin => ?_)
  have hG : okG Γ Δ l (sRx 6 240 1 34) cJ0_init_81219 "java/lang/String" 2 := hG
  have hini : okIni Γ := hini rfl
  show T Γ Δ es 0 0 Q 0 [(0, .ref (tA Δ k2)), (1, .ref (tA Δ k))] []
  refine T.aload_n (pc := 0) hG dJ0_init_81219_0 rfl 0 rfl ?_
  refine T.aload_n (pc := 1) hG dJ0_init_81219_1 rfl 1 rfl ?_
  refine T.null (pc := 2) hG dJ0_init_81219_2 ?_
  refine T.callI (pc := 3) (As := [.ref (tA Δ k), .null]) (stk := []) hG (tm_sInitA l Δ hD hs hk2 (by omega)) mY_J0_init_db425 rfl kw_1638 kw_1639 ⟨Nat.le_of_ble_eq_true rfl, Nat.le_of_ble_eq_true rfl, Nat.le_of_ble_eq_true rfl, Nat.le_of_ble_eq_true rfl⟩ rfl (Nat.le_of_ble_eq_true rfl) dJ0_init_81219_3 rfl (fun e1 hq => ?_)
  obtain ⟨j2, f3, h4, h5, hj6, hf7, o8, n9⟩ := hq
  exact fin dJ0_init_81219_6 (Nat.le_of_ble_eq_true rfl) (Nat.le_of_ble_eq_true rfl) ⟨j2, f3, h4, h5, hj6, hf7, o8, n9⟩
set_option maxRecDepth 100000 in
set_option maxHeartbeats 4000000 in
theorem tm_sbTS (l : Launch) (Δ : Wd) {es : List TE} (hD : TD Δ) {k : Nat} {t : List Int} {H : Nat} (hs : SBT es k t H) (hl : t.length ≤ 34) : Met l yJ4_toString_0e30d (Cond.code yJ4_toString_0e30d cJ4_toString_0e30d 1 (some (.object "java/lang/String")) :: gW) (sRx 7 270 2 38) (tPc Δ [.ref (tA Δ k)] es) (tQr Δ (fun a e => TX Δ e a t es.length e.length ∧ (∀ j, j < es.length → e[j]? = es[j]?) ∧ es.length ≤ e.length)) 2 38 (sFr Δ) := by
  refine Tm.r (rt := (.object "java/lang/String")) (by decide) rfl (Or.inl ⟨_, rfl⟩) (Nat.le_of_ble_eq_true rfl) (fun Γ Q hG fin => ?_)
  have hG : okG Γ Δ l (sRx 7 270 2 38) cJ4_toString_0e30d "java/lang/StringBuilder" 1 := hG
  show T Γ Δ es 0 0 Q 0 [(0, .ref (tA Δ k))] []
  refine T.new (pc := 0) (ci := 0) (e := tst none) hG hin_J0 rfl tyJ0_ok kw_1634 kw_996 kw_119 rfl defJ0 ⟨Nat.le_of_ble_eq_true rfl, Nat.le_of_ble_eq_true rfl⟩ dJ4_toString_0e30d_0 (fun e1 h2 o3 n4 => ?_)
  have h5 := SBT.mono hs o3
  have p6 : ∀ j, j < es.length → e1[j]? = es[j]? := fun j hj => (o3 j (by omega)).trans ((fun _ _ => rfl) j hj)
  refine T.dup (pc := 3) hG dJ4_toString_0e30d_3 rfl ?_
  refine T.aload_n (pc := 4) hG dJ4_toString_0e30d_4 rfl 0 rfl ?_
  refine T.callI (pc := 5) (As := [.ref (tA Δ k)]) (stk := [.ref (tA Δ es.length)]) hG (tm_sInitB l Δ hD h5 h2 (by omega)) mY_J0_init_81219 rfl kw_1635 kw_1636 ⟨Nat.le_of_ble_eq_true rfl, Nat.le_of_ble_eq_true rfl, Nat.le_of_ble_eq_true rfl, Nat.le_of_ble_eq_true rfl⟩ rfl (Nat.le_of_ble_eq_true rfl) dJ4_toString_0e30d_5 rfl (fun e7 hq => ?_)
  obtain ⟨j8, f9, h10, h11, hj12, hf13, o14, n15⟩ := hq
  have p16 : ∀ j, j < es.length → e7[j]? = es[j]? := fun j hj => (o14 j (by omega) (by omega)).trans (p6 j hj)
  exact fin dJ4_toString_0e30d_8 (Nat.le_of_ble_eq_true rfl) (Nat.le_of_ble_eq_true rfl) ⟨Or.inr ⟨_, j8, f9, rfl, h10, h11, by omega, tlt h11, hf13⟩, p16, by omega⟩
set_option maxRecDepth 100000 in
set_option maxHeartbeats 4000000 in
theorem tm_asI (l : Launch) (Δ : Wd) {es : List TE} {k : Nat} (hk : es[k]? = some (tsb none 0)) : Met l yJ5_init_d00df (Cond.code yJ5_init_d00df cJ5_init_d00df 2 none :: gW) (sRx 3 100 1 16) (tPc Δ [.ref (tA Δ k), .int (sJ 16)] es) (tQv Δ (fun e => SBT e k [] e.length ∧ (∀ j, j < k → e[j]? = es[j]?) ∧ e.length = es.length + 1)) 1 16 (sFr Δ) := by
  refine Tm.v (by decide) (Nat.le_of_ble_eq_true rfl) (fun Γ Q hG hini fin => ?_)
  have hG : okG Γ Δ l (sRx 3 100 1 16) cJ5_init_d00df "java/lang/AbstractStringBuilder" 2 := hG
  have hini : okIni Γ := hini rfl
  have hlk := tlt hk
  show T Γ Δ es 0 0 Q 0 [(0, .ref (tA Δ k)), (1, .int (sJ 16))] []
  refine T.aload_n (pc := 0) hG dJ5_init_d00df_0 rfl 0 rfl ?_
  refine T.objInit (pc := 1) hG kw_1479 kw_142 ko_code ⟨Nat.le_of_ble_eq_true rfl, Nat.le_of_ble_eq_true rfl⟩ dJ5_init_d00df_1 ?_
  refine T.scs (pc := 4) hG kw_1480 dJ5_init_d00df_4 ?_
  refine T.if_eq (pc := 7) (tgt := 25) hG (sR_b (by omega)) dJ5_init_d00df_7 (by decide) (fun q => absurd q (by omega)) (fun _ => ?_)
  refine T.aload_n (pc := 10) hG dJ5_init_d00df_10 rfl 0 rfl ?_
  refine T.iload_n (pc := 11) hG dJ5_init_d00df_11 rfl 1 rfl ?_
  refine T.newB (pc := 12) (z := 16) hG kw_997 (by omega) (by omega) ⟨Nat.le_of_ble_eq_true rfl, Nat.le_of_ble_eq_true rfl⟩ dJ5_init_d00df_12 (fun e1 h2 o3 n4 => ?_)
  have g6 := tlt hk
  have h5 := (o3 _ g6).trans hk
  have p7 : ∀ j, j < k → e1[j]? = es[j]? := fun j hj => (o3 j (by omega)).trans ((fun _ _ => rfl) j hj)
  refine T.put (pc := 14) (ci := 14) (k := k) (fk := 0) (e2 := tsb (some es.length) 0) hG hin_J4 rfl h5 rfl rfl (by decide) (by show _ < 4; decide) kw_1488 tyJ4 tyJ4_ok nmJ4 rfl (ty := tyJ4 0) (tyJ4_ok 0 (by decide)) rfl rfl dJ5_init_d00df_14 (fun e8 h9 o10 n11 => ?_)
  have h12 := (o10 es.length (by omega)).trans h2
  have p13 : ∀ j, j < k → e8[j]? = es[j]? := fun j hj => (o10 j (by omega)).trans (p7 j hj)
  refine T.aload_n (pc := 17) hG dJ5_init_d00df_17 rfl 0 rfl ?_
  refine T.iconst (pc := 18) hG dJ5_init_d00df_18 ?_
  refine T.put (pc := 19) (ci := 14) (k := k) (fk := 1) (e2 := tsb (some es.length) 0) hG hin_J4 rfl h9 rfl rfl (by decide) (by show _ < 4; decide) kw_1489 tyJ4 tyJ4_ok nmJ4 rfl (ty := tyJ4 1) (tyJ4_ok 1 (by decide)) rfl rfl dJ5_init_d00df_19 (fun e14 h15 o16 n17 => ?_)
  have h18 := (o16 es.length (by omega)).trans h12
  have p19 : ∀ j, j < k → e14[j]? = es[j]? := fun j hj => (o16 j (by omega)).trans (p13 j hj)
  refine T.goto (pc := 22) (tgt := 38) hG dJ5_init_d00df_22 (by decide) ?_
  exact fin dJ5_init_d00df_38 (Nat.le_of_ble_eq_true rfl) (Nat.le_of_ble_eq_true rfl) ⟨⟨_, 16, _, h15, h18, by omega, by omega, by decide, Or.inl rfl, fun _ => by show (0 : Int) ≤ 0 ∧ (0 : Int) < 128; decide, fun j hj => absurd hj (Nat.not_lt_zero j)⟩, p19, by omega⟩
set_option maxRecDepth 100000 in
set_option maxHeartbeats 4000000 in
theorem tm_sbN (l : Launch) (Δ : Wd) {es : List TE} {k : Nat} (hk : es[k]? = some (tsb none 0)) : Met l yJ4_init_da8c8 (Cond.code yJ4_init_da8c8 cJ4_init_da8c8 1 none :: gW) (sRx 4 130 1 16) (tPc Δ [.ref (tA Δ k)] es) (tQv Δ (fun e => SBT e k [] e.length ∧ (∀ j, j < k → e[j]? = es[j]?) ∧ e.length = es.length + 1)) 1 16 (sFr Δ) := by
  refine Tm.v (by decide) (Nat.le_of_ble_eq_true rfl) (fun Γ Q hG hini fin => ?_)
  have hG : okG Γ Δ l (sRx 4 130 1 16) cJ4_init_da8c8 "java/lang/StringBuilder" 1 := hG
  have hini : okIni Γ := hini rfl
  show T Γ Δ es 0 0 Q 0 [(0, .ref (tA Δ k))] []
  refine T.aload_n (pc := 0) hG dJ4_init_da8c8_0 rfl 0 rfl ?_
  refine T.bipush (pc := 1) hG dJ4_init_da8c8_1 (by decide) ?_
  refine T.callI (pc := 3) (As := [.int (sJ 16)]) (stk := []) hG (tm_asI l Δ hk) mY_J5_init_d00df rfl kw_1476 kw_1477 ⟨Nat.le_of_ble_eq_true rfl, Nat.le_of_ble_eq_true rfl, Nat.le_of_ble_eq_true rfl, Nat.le_of_ble_eq_true rfl⟩ rfl (Nat.le_of_ble_eq_true rfl) dJ4_init_da8c8_3 rfl (fun e1 hq => ?_)
  obtain ⟨h2, o3, n4⟩ := hq
  have p5 : ∀ j, j < k → e1[j]? = es[j]? := fun j hj => (o3 j (by omega)).trans ((fun _ _ => rfl) j hj)
  exact fin dJ4_init_da8c8_6 (Nat.le_of_ble_eq_true rfl) (Nat.le_of_ble_eq_true rfl) ⟨h2, p5, by omega⟩
set_option maxRecDepth 100000 in
set_option maxHeartbeats 4000000 in
theorem tm_sInitC (l : Launch) (Δ : Wd) {es : List TE} {k2 d L : Nat} {f : Nat → Int} (hk2 : es[k2]? = some (tst none)) (hd : es[d]? = some (tba L f)) : Met l yJ0_init_031fb (Cond.code yJ0_init_031fb cJ0_init_031fb 3 none :: gW) (sRx 3 100 0 0) (tPc Δ [.ref (tA Δ k2), .ref (tA Δ d), .int (sJ 0)] es) (tQv Δ (fun e => e[k2]? = some (tst (some d)) ∧ (∀ j, j ≠ k2 → e[j]? = es[j]?) ∧ e.length = es.length)) 0 0 (sFr Δ) := by
  refine Tm.v (by decide) (Nat.le_of_ble_eq_true rfl) (fun Γ Q hG hini fin => ?_)
  have hG : okG Γ Δ l (sRx 3 100 0 0) cJ0_init_031fb "java/lang/String" 3 := hG
  have hini : okIni Γ := hini rfl
  have hkd : d ≠ k2 := fun z => by rw [z, hk2] at hd; cases hd
  show T Γ Δ es 0 0 Q 0 [(0, .ref (tA Δ k2)), (1, .ref (tA Δ d)), (2, .int (sJ 0))] []
  refine T.aload_n (pc := 0) hG dJ0_init_031fb_0 rfl 0 rfl ?_
  refine T.objInit (pc := 1) hG kw_1454 kw_142 ko_code ⟨Nat.le_of_ble_eq_true rfl, Nat.le_of_ble_eq_true rfl⟩ dJ0_init_031fb_1 ?_
  refine T.aload_n (pc := 4) hG dJ0_init_031fb_4 rfl 0 rfl ?_
  refine T.aload_n (pc := 5) hG dJ0_init_031fb_5 rfl 1 rfl ?_
  refine T.putF (pc := 6) (ci := 0) (k := k2) (fk := 0) (e2 := tst (some d)) hG hin_J0 rfl hk2 rfl rfl (by decide) (by show _ < 4; decide) kw_1455 tyJ0 tyJ0_ok nmJ0 rfl hini rfl (ty := tyJ0 0) (tyJ0_ok 0 (by decide)) rfl rfl dJ0_init_031fb_6 (fun e1 h2 o3 n4 => ?_)
  have h5 := (o3 d (by omega)).trans hd
  refine T.aload_n (pc := 9) hG dJ0_init_031fb_9 rfl 0 rfl ?_
  refine T.iload_n (pc := 10) hG dJ0_init_031fb_10 rfl 2 rfl ?_
  refine T.putF (pc := 11) (ci := 0) (k := k2) (fk := 1) (e2 := tst (some d)) hG hin_J0 rfl h2 rfl rfl (by decide) (by show _ < 4; decide) kw_1456 tyJ0 tyJ0_ok nmJ0 rfl hini rfl (ty := tyJ0 1) (tyJ0_ok 1 (by decide)) rfl rfl dJ0_init_031fb_11 (fun e6 h7 o8 n9 => ?_)
  have h10 := (o8 d (by omega)).trans h5
  exact fin dJ0_init_031fb_14 (Nat.le_of_ble_eq_true rfl) (Nat.le_of_ble_eq_true rfl) ⟨h7, fun j hj => (o8 j hj).trans (o3 j hj), by omega⟩
set_option maxRecDepth 100000 in
set_option maxHeartbeats 4000000 in
theorem tm_toB (l : Launch) (Δ : Wd) {es : List TE} {c : Int} (hc : 0 ≤ c ∧ c < 128) : Met l yJ1_toBytes_a14e5 (Cond.code yJ1_toBytes_a14e5 cJ1_toBytes_a14e5 1 (some (.array .byte)) :: gW) (sRx 2 100 1 1) (tPc Δ [.int (sJ c)] es) (tQr Δ (fun a e => a = tA Δ es.length ∧ ∃ f, e[es.length]? = some (tba 1 f) ∧ f 0 = c ∧ (∀ j, j < es.length → e[j]? = es[j]?) ∧ e.length = es.length + 1)) 1 1 (sFr Δ) := by
  refine Tm.r (rt := (.array .byte)) (by decide) rfl (Or.inr ⟨_, rfl⟩) (Nat.le_of_ble_eq_true rfl) (fun Γ Q hG fin => ?_)
  have hG : okG Γ Δ l (sRx 2 100 1 1) cJ1_toBytes_a14e5 "java/lang/StringLatin1" 1 := hG
  show T Γ Δ es 0 0 Q 0 [(0, .int (sJ c))] []
  refine T.iconst (pc := 0) hG dJ1_toBytes_a14e5_0 ?_
  refine T.newB (pc := 1) (z := 1) hG kw_997 (by omega) (by omega) ⟨Nat.le_of_ble_eq_true rfl, Nat.le_of_ble_eq_true rfl⟩ dJ1_toBytes_a14e5_1 (fun e1 h2 o3 n4 => ?_)
  have p5 : ∀ j, j < es.length → e1[j]? = es[j]? := fun j hj => (o3 j (by omega)).trans ((fun _ _ => rfl) j hj)
  refine T.dup (pc := 3) hG dJ1_toBytes_a14e5_3 rfl ?_
  refine T.iconst (pc := 4) hG dJ1_toBytes_a14e5_4 ?_
  refine T.iload_n (pc := 5) hG dJ1_toBytes_a14e5_5 rfl 0 rfl ?_
  refine T.i2bz (pc := 6) hG dJ1_toBytes_a14e5_6 ⟨by omega, by omega⟩ ?_
  refine T.bast (pc := 7) hG h2 (sR_b (by omega)) ⟨by omega, by omega⟩ (narB ⟨by omega, by omega⟩) dJ1_toBytes_a14e5_7 (fun e6 h7 o8 n9 => ?_)
  have p10 : ∀ j, j < es.length → e6[j]? = es[j]? := fun j hj => (o8 j (by omega)).trans (p5 j hj)
  exact fin dJ1_toBytes_a14e5_8 (Nat.le_of_ble_eq_true rfl) (Nat.le_of_ble_eq_true rfl) ⟨rfl, _, h7, if_pos rfl, p10, by omega⟩
set_option maxRecDepth 100000 in
set_option maxHeartbeats 4000000 in
theorem tm_vC (l : Launch) (Δ : Wd) {es : List TE} {c : Int} (hc : 0 ≤ c ∧ c < 128) : Met l yJ0_valueOf_756af (Cond.code yJ0_valueOf_756af cJ0_valueOf_756af 1 (some (.object "java/lang/String")) :: gW) (sRx 4 150 2 5) (tPc Δ [.int (sJ c)] es) (tQr Δ (fun a e => TX Δ e a [c] es.length e.length ∧ (∀ j, j < es.length → e[j]? = es[j]?) ∧ es.length ≤ e.length)) 2 5 (sFr Δ) := by
  refine Tm.r (rt := (.object "java/lang/String")) (by decide) rfl (Or.inl ⟨_, rfl⟩) (Nat.le_of_ble_eq_true rfl) (fun Γ Q hG fin => ?_)
  have hG : okG Γ Δ l (sRx 4 150 2 5) cJ0_valueOf_756af "java/lang/String" 1 := hG
  show T Γ Δ es 0 0 Q 0 [(0, .int (sJ c))] []
  refine T.scs (pc := 0) hG kw_1026 dJ0_valueOf_756af_0 ?_
  refine T.if_eq (pc := 3) (tgt := 26) hG (sR_b (by omega)) dJ0_valueOf_756af_3 (by decide) (fun q => absurd q (by omega)) (fun _ => ?_)
  refine T.iload_n (pc := 6) hG dJ0_valueOf_756af_6 rfl 0 rfl ?_
  refine T.callSi (pc := 7) (As := [.int (sJ c)]) (stk := []) hG (tm_canE l Δ (c := c) (by omega)) mY_J1_canEncode_fc78d kw_1444 kw_1445 ⟨Nat.le_of_ble_eq_true rfl, Nat.le_of_ble_eq_true rfl, Nat.le_of_ble_eq_true rfl, Nat.le_of_ble_eq_true rfl⟩ rfl (Nat.le_of_ble_eq_true rfl) dJ0_valueOf_756af_7 rfl (fun x1 e2 _ hq => ?_)
  rw [hq.1, hq.2]
  refine T.if_eq (pc := 10) (tgt := 26) hG (sR_b (by omega)) dJ0_valueOf_756af_10 (by decide) (fun q => absurd q (by omega)) (fun _ => ?_)
  refine T.new (pc := 13) (ci := 0) (e := tst none) hG hin_J0 rfl tyJ0_ok kw_1447 kw_996 kw_119 rfl defJ0 ⟨Nat.le_of_ble_eq_true rfl, Nat.le_of_ble_eq_true rfl⟩ dJ0_valueOf_756af_13 (fun e3 h4 o5 n6 => ?_)
  have p7 : ∀ j, j < es.length → e3[j]? = es[j]? := fun j hj => (o5 j (by omega)).trans ((fun _ _ => rfl) j hj)
  refine T.dup (pc := 16) hG dJ0_valueOf_756af_16 rfl ?_
  refine T.iload_n (pc := 17) hG dJ0_valueOf_756af_17 rfl 0 rfl ?_
  refine T.callSr (pc := 18) (As := [.int (sJ c)]) (stk := [.ref (tA Δ es.length), .ref (tA Δ es.length)]) hG (tm_toB l Δ (c := c) (by omega)) mY_J1_toBytes_a14e5 kw_1448 kw_1449 ⟨Nat.le_of_ble_eq_true rfl, Nat.le_of_ble_eq_true rfl, Nat.le_of_ble_eq_true rfl, Nat.le_of_ble_eq_true rfl⟩ rfl (Nat.le_of_ble_eq_true rfl) dJ0_valueOf_756af_18 rfl (fun b8 e9 hq => ?_)
  obtain ⟨hb9, f10, h11, hf12, o13, n14⟩ := hq
  rw [hb9]
  have g16 := tlt h4
  have h15 := (o13 _ g16).trans h4
  have p17 : ∀ j, j < es.length → e9[j]? = es[j]? := fun j hj => (o13 j (by omega)).trans (p7 j hj)
  refine T.iconst (pc := 21) hG dJ0_valueOf_756af_21 ?_
  refine T.callI (pc := 22) (As := [.ref (tA Δ e3.length), .int (sJ 0)]) (stk := [.ref (tA Δ es.length)]) hG (tm_sInitC l Δ h15 h11) mY_J0_init_031fb rfl kw_1451 kw_1452 ⟨Nat.le_of_ble_eq_true rfl, Nat.le_of_ble_eq_true rfl, Nat.le_of_ble_eq_true rfl, Nat.le_of_ble_eq_true rfl⟩ rfl (Nat.le_of_ble_eq_true rfl) dJ0_valueOf_756af_22 rfl (fun e18 hq => ?_)
  obtain ⟨h19, o20, n21⟩ := hq
  have p22 : ∀ j, j < es.length → e18[j]? = es[j]? := fun j hj => (o20 j (by omega)).trans (p17 j hj)
  have h23 := (o20 e3.length (by omega)).trans h11
  exact fin dJ0_valueOf_756af_25 (Nat.le_of_ble_eq_true rfl) (Nat.le_of_ble_eq_true rfl) ⟨Or.inr ⟨_, _, _, rfl, h19, h23, by omega, tlt h23, fun q hq => by obtain rfl : q = 0 := (by have hq2 : q < 1 := hq; omega); exact hf12.trans rfl⟩, p22, by omega⟩
set_option maxRecDepth 100000 in
set_option maxHeartbeats 4000000 in
theorem tm_iTS (l : Launch) (Δ : Wd) {es : List TE} (hD : TD Δ) {n : Int} (hn : 0 ≤ n ∧ n < 100) : Met l yJ6_toString_b52d3 (Cond.code yJ6_toString_b52d3 cJ6_toString_b52d3 3 (some (.object "java/lang/String")) :: gW) (sRx 4 150 2 6) (tPc Δ [.int (sJ n)] es) (tQr Δ (fun a e => TX Δ e a (digT n) es.length e.length ∧ (∀ j, j < es.length → e[j]? = es[j]?) ∧ es.length ≤ e.length)) 2 6 (sFr Δ) := by
  refine Tm.r (rt := (.object "java/lang/String")) (by decide) rfl (Or.inl ⟨_, rfl⟩) (Nat.le_of_ble_eq_true rfl) (fun Γ Q hG fin => ?_)
  have hG : okG Γ Δ l (sRx 4 150 2 6) cJ6_toString_b52d3 "java/lang/Integer" 3 := hG
  have hdl : (digT n).length = 1 ∨ (digT n).length = 2 := by unfold digT; split; exact Or.inl rfl; exact Or.inr rfl
  show T Γ Δ es 0 0 Q 0 [(0, .int (sJ n))] []
  refine T.iload_n (pc := 0) hG dJ6_toString_b52d3_0 rfl 0 rfl ?_
  refine T.callSi (pc := 1) (As := [.int (sJ n)]) (stk := []) hG (tm_ss l Δ (n := n) (by omega)) mY_J6_stringSize_0f7a4 kw_1597 kw_1598 ⟨Nat.le_of_ble_eq_true rfl, Nat.le_of_ble_eq_true rfl, Nat.le_of_ble_eq_true rfl, Nat.le_of_ble_eq_true rfl⟩ rfl (Nat.le_of_ble_eq_true rfl) dJ6_toString_b52d3_1 rfl (fun x1 e2 _ hq => ?_)
  rw [hq.1, hq.2]
  refine T.istore_n (pc := 4) (lv' := [(1, .int (sJ ((digT n).length : Int))), (0, .int (sJ n))]) hG dJ6_toString_b52d3_4 rfl (by decide) rfl ?_
  refine T.scs (pc := 5) hG kw_1600 dJ6_toString_b52d3_5 ?_
  refine T.if_eq (pc := 8) (tgt := 32) hG (sR_b (by omega)) dJ6_toString_b52d3_8 (by decide) (fun q => absurd q (by omega)) (fun _ => ?_)
  refine T.iload_n (pc := 11) hG dJ6_toString_b52d3_11 rfl 0 rfl ?_
  refine T.newB (pc := 12) (z := (digT n).length) hG kw_997 (by omega) (by omega) ⟨Nat.le_of_ble_eq_true rfl, (by show (0 + 0) + (digT n).length ≤ 6; omega)⟩ dJ6_toString_b52d3_12 (fun e3 h4 o5 n6 => ?_)
  have p7 : ∀ j, j < es.length → e3[j]? = es[j]? := fun j hj => (o5 j (by omega)).trans ((fun _ _ => rfl) j hj)
  refine T.astore_n (pc := 14) (lv' := [(2, .ref (tA Δ es.length)), (1, .int (sJ ((digT n).length : Int))), (0, .int (sJ n))]) hG dJ6_toString_b52d3_14 rfl (by decide) rfl ?_
  refine T.iload_n (pc := 15) hG dJ6_toString_b52d3_15 rfl 2 rfl ?_
  refine T.iload_n (pc := 16) hG dJ6_toString_b52d3_16 rfl 1 rfl ?_
  refine T.aload_n (pc := 17) hG dJ6_toString_b52d3_17 rfl 0 rfl ?_
  refine T.callSi (pc := 18) (As := [.int (sJ n), .int (sJ ((digT n).length : Int)), .ref (tA Δ es.length)]) (stk := []) hG (tm_gc l Δ hD (n := n) (by omega) h4 (by omega) (p := ((digT n).length : Int)) (by omega)) mY_J6_getChars_ba4f3 kw_1601 kw_1602 ⟨Nat.le_of_ble_eq_true rfl, Nat.le_of_ble_eq_true rfl, Nat.le_of_ble_eq_true rfl, (by show ((0 + 0) + (digT n).length) + 0 ≤ 6; omega)⟩ rfl (Nat.le_of_ble_eq_true rfl) dJ6_toString_b52d3_18 rfl (fun x8 e9 _ hq => ?_)
  obtain ⟨G10, h11, q12, q13, q14, o15, n16⟩ := hq
  have p17 : ∀ j, j < es.length → e9[j]? = es[j]? := fun j hj => (o15 j (by omega)).trans (p7 j hj)
  refine T.pop (pc := 21) hG dJ6_toString_b52d3_21 rfl ?_
  refine T.new (pc := 22) (ci := 0) (e := tst none) hG hin_J0 rfl tyJ0_ok kw_1608 kw_996 kw_119 rfl defJ0 ⟨Nat.le_of_ble_eq_true rfl, (by show (((0 + 0) + (digT n).length) + 0) + 4 ≤ 6; omega)⟩ dJ6_toString_b52d3_22 (fun e18 h19 o20 n21 => ?_)
  have g23 := tlt h11
  have h22 := (o20 _ g23).trans h11
  have p24 : ∀ j, j < es.length → e18[j]? = es[j]? := fun j hj => (o20 j (by omega)).trans (p17 j hj)
  refine T.dup (pc := 25) hG dJ6_toString_b52d3_25 rfl ?_
  refine T.aload_n (pc := 26) hG dJ6_toString_b52d3_26 rfl 0 rfl ?_
  refine T.iconst (pc := 27) hG dJ6_toString_b52d3_27 ?_
  refine T.callI (pc := 28) (As := [.ref (tA Δ es.length), .int (sJ 0)]) (stk := [.ref (tA Δ e9.length)]) hG (tm_sInitC l Δ h19 h22) mY_J0_init_031fb rfl kw_1609 kw_1452 ⟨Nat.le_of_ble_eq_true rfl, Nat.le_of_ble_eq_true rfl, Nat.le_of_ble_eq_true rfl, (by show ((((0 + 0) + (digT n).length) + 0) + 4) + 0 ≤ 6; omega)⟩ rfl (Nat.le_of_ble_eq_true rfl) dJ6_toString_b52d3_28 rfl (fun e25 hq => ?_)
  obtain ⟨h26, o27, n28⟩ := hq
  have p29 : ∀ j, j < es.length → e25[j]? = es[j]? := fun j hj => (o27 j (by omega)).trans (p24 j hj)
  have h30 := (o27 es.length (by omega)).trans h22
  exact fin dJ6_toString_b52d3_31 (Nat.le_of_ble_eq_true rfl) (by omega) ⟨Or.inr ⟨_, _, _, rfl, h26, h30, by omega, tlt h30, fun q hq => by have h9 := q12 q hq; rw [show ((digT n).length : Int).toNat - (digT n).length + q = q by omega] at h9; exact h9⟩, p29, by omega⟩
set_option maxRecDepth 100000 in
set_option maxHeartbeats 4000000 in
theorem tm_vI (l : Launch) (Δ : Wd) {es : List TE} (hD : TD Δ) {n : Int} (hn : 0 ≤ n ∧ n < 100) : Met l yJ0_valueOf_b52d3 (Cond.code yJ0_valueOf_b52d3 cJ0_valueOf_b52d3 1 (some (.object "java/lang/String")) :: gW) (sRx 5 190 2 6) (tPc Δ [.int (sJ n)] es) (tQr Δ (fun a e => TX Δ e a (digT n) es.length e.length ∧ (∀ j, j < es.length → e[j]? = es[j]?) ∧ es.length ≤ e.length)) 2 6 (sFr Δ) := by
  refine Tm.r (rt := (.object "java/lang/String")) (by decide) rfl (Or.inl ⟨_, rfl⟩) (Nat.le_of_ble_eq_true rfl) (fun Γ Q hG fin => ?_)
  have hG : okG Γ Δ l (sRx 5 190 2 6) cJ0_valueOf_b52d3 "java/lang/String" 1 := hG
  show T Γ Δ es 0 0 Q 0 [(0, .int (sJ n))] []
  refine T.iload_n (pc := 0) hG dJ0_valueOf_b52d3_0 rfl 0 rfl ?_
  refine T.callSr (pc := 1) (As := [.int (sJ n)]) (stk := []) hG (tm_iTS l Δ hD (n := n) (by omega)) mY_J6_toString_b52d3 kw_1594 kw_1595 ⟨Nat.le_of_ble_eq_true rfl, Nat.le_of_ble_eq_true rfl, Nat.le_of_ble_eq_true rfl, Nat.le_of_ble_eq_true rfl⟩ rfl (Nat.le_of_ble_eq_true rfl) dJ0_valueOf_b52d3_1 rfl (fun b1 e2 hq => ?_)
  obtain ⟨h3, o4, n5⟩ := hq
  have p6 : ∀ j, j < es.length → e2[j]? = es[j]? := fun j hj => (o4 j (by omega)).trans ((fun _ _ => rfl) j hj)
  have l7 := (okT.dgt (n := n) (by omega)).1
  exact fin dJ0_valueOf_b52d3_4 (Nat.le_of_ble_eq_true rfl) (Nat.le_of_ble_eq_true rfl) ⟨h3, p6, by omega⟩
set_option maxRecDepth 100000 in
set_option maxHeartbeats 4000000 in
theorem tm_sL1 (l : Launch) (Δ : Wd) {es : List TE} {x v n : Nat} {f : Nat → Int} (hx : ST Δ es x v n f) : Met l yJ0_isLatin1_aae02 (Cond.code yJ0_isLatin1_aae02 cJ0_isLatin1_aae02 1 (some .boolean) :: gW) (sRx 2 100 0 0) (tPc Δ [.ref x] es) (tQi Δ (fun x e => x = 1 ∧ e = es)) 0 0 (sFr Δ) := by
  refine Tm.i (ty := .boolean) (by decide) rfl (Nat.le_of_ble_eq_true rfl) (fun Γ Q hG fin => ?_)
  have hG : okG Γ Δ l (sRx 2 100 0 0) cJ0_isLatin1_aae02 "java/lang/String" 1 := hG
  show T Γ Δ es 0 0 Q 0 [(0, .ref x)] []
  refine T.scs (pc := 0) hG kw_1026 dJ0_isLatin1_aae02_0 ?_
  refine T.if_eq (pc := 3) (tgt := 17) hG (sR_b (by omega)) dJ0_isLatin1_aae02_3 (by decide) (fun q => absurd q (by omega)) (fun _ => ?_)
  refine T.aload_n (pc := 6) hG dJ0_isLatin1_aae02_6 rfl 0 rfl ?_
  refine T.scoder (pc := 7) hG hx kw_1456 dJ0_isLatin1_aae02_7 ?_
  refine T.if_ne (pc := 10) (tgt := 17) hG (sR_b (by omega)) dJ0_isLatin1_aae02_10 (by decide) (fun q => absurd q (by omega)) (fun _ => ?_)
  refine T.iconst (pc := 13) hG dJ0_isLatin1_aae02_13 ?_
  refine T.goto (pc := 14) (tgt := 18) hG dJ0_isLatin1_aae02_14 (by decide) ?_
  exact fin dJ0_isLatin1_aae02_18 (sR_b (by omega)) rfl (Nat.le_of_ble_eq_true rfl) (Nat.le_of_ble_eq_true rfl) ⟨rfl, rfl⟩
set_option maxRecDepth 100000 in
set_option maxHeartbeats 4000000 in
theorem tm_pCI (l : Launch) (Δ : Wd) {es : List TE} {i n : Int} {w : Value} (hw : w.category = 1) (hi : 0 ≤ i ∧ i < n) (hn : n < 1000) : Met l yJ3_checkIndex_8e157 (Cond.code yJ3_checkIndex_8e157 cJ3_checkIndex_8e157 3 (some .int) :: gW) (sRx 2 100 0 0) (tPc Δ [.int (sJ i), .int (sJ n), w] es) (tQi Δ (fun x e => x = i ∧ e = es)) 0 0 (sFr Δ) := by
  refine Tm.i (ty := .int) (by decide) rfl ((by simp only [lg_sl, List.flatMap_cons, List.flatMap_nil, hw]; exact Nat.le_of_ble_eq_true rfl)) (fun Γ Q hG fin => ?_)
  have hG : okG Γ Δ l (sRx 2 100 0 0) cJ3_checkIndex_8e157 "jdk/internal/util/Preconditions" 3 := hG
  show T Γ Δ es 0 0 Q 0 [(0, .int (sJ i)), (1, .int (sJ n)), (2, w)] []
  refine T.iload_n (pc := 0) hG dJ3_checkIndex_8e157_0 rfl 0 rfl ?_
  refine T.if_lt (pc := 1) (tgt := 9) hG (sR_b (by omega)) dJ3_checkIndex_8e157_1 (by decide) (fun q => absurd q (by omega)) (fun _ => ?_)
  refine T.iload_n (pc := 4) hG dJ3_checkIndex_8e157_4 rfl 0 rfl ?_
  refine T.iload_n (pc := 5) hG dJ3_checkIndex_8e157_5 rfl 1 rfl ?_
  refine T.icmp_lt (pc := 6) (tgt := 16) hG (sR_b (by omega)) (sR_b (by omega)) dJ3_checkIndex_8e157_6 (by decide) (fun _ => ?_) (fun q => absurd q (by omega))
  refine T.iload_n (pc := 16) hG dJ3_checkIndex_8e157_16 rfl 0 rfl ?_
  exact fin dJ3_checkIndex_8e157_17 (sR_b (by omega)) rfl (Nat.le_of_ble_eq_true rfl) (Nat.le_of_ble_eq_true rfl) ⟨rfl, rfl⟩
set_option maxRecDepth 100000 in
set_option maxHeartbeats 4000000 in
theorem tm_sCI (l : Launch) (Δ : Wd) {es : List TE} {i n : Int} (hi : 0 ≤ i ∧ i < n) (hn : n < 1000) : Met l yJ0_checkIndex_df160 (Cond.code yJ0_checkIndex_df160 cJ0_checkIndex_df160 2 none :: gW) (sRx 3 130 0 0) (tPc Δ [.int (sJ i), .int (sJ n)] es) (tQv Δ (fun e => e = es)) 0 0 (sFr Δ) := by
  refine Tm.v (by decide) (Nat.le_of_ble_eq_true rfl) (fun Γ Q hG hini fin => ?_)
  have hG : okG Γ Δ l (sRx 3 130 0 0) cJ0_checkIndex_df160 "java/lang/String" 2 := hG
  show T Γ Δ es 0 0 Q 0 [(0, .int (sJ i)), (1, .int (sJ n))] []
  refine T.iload_n (pc := 0) hG dJ0_checkIndex_df160_0 rfl 0 rfl ?_
  refine T.iload_n (pc := 1) hG dJ0_checkIndex_df160_1 rfl 1 rfl ?_
  refine T.sfmt (pc := 2) hG kw_1065 dJ0_checkIndex_df160_2 (fun w1 hw1 => ?_)
  refine T.callSi (pc := 5) (As := [.int (sJ i), .int (sJ n), w1]) (stk := []) hG (tm_pCI l Δ (i := i) (n := n) hw1 (by omega) (by omega)) mY_J3_checkIndex_8e157 kw_1358 kw_1359 ⟨Nat.le_of_ble_eq_true rfl, Nat.le_of_ble_eq_true rfl, Nat.le_of_ble_eq_true rfl, Nat.le_of_ble_eq_true rfl⟩ rfl (Nat.le_of_ble_eq_true rfl) dJ0_checkIndex_df160_5 rfl (fun x2 e3 _ hq => ?_)
  rw [hq.1, hq.2]
  refine T.pop (pc := 8) hG dJ0_checkIndex_df160_8 rfl ?_
  exact fin dJ0_checkIndex_df160_9 (Nat.le_of_ble_eq_true rfl) (Nat.le_of_ble_eq_true rfl) rfl
set_option maxRecDepth 100000 in
set_option maxHeartbeats 4000000 in
theorem tm_lCA (l : Launch) (Δ : Wd) {es : List TE} {a n : Nat} {f : Nat → Int} (hB : ∀ es1, BT Δ es1 a n f) {i : Int} (hi : 0 ≤ i ∧ i < (n : Int)) (hn : n < 1000) (hf : 0 ≤ f i.toNat ∧ f i.toNat < 128) : Met l yJ1_charAt_3b067 (Cond.code yJ1_charAt_3b067 cJ1_charAt_3b067 2 (some .char) :: gW) (sRx 4 170 0 0) (tPc Δ [.ref a, .int (sJ i)] es) (tQi Δ (fun x e => x = f i.toNat ∧ e = es)) 0 0 (sFr Δ) := by
  refine Tm.i (ty := .char) (by decide) rfl (Nat.le_of_ble_eq_true rfl) (fun Γ Q hG fin => ?_)
  have hG : okG Γ Δ l (sRx 4 170 0 0) cJ1_charAt_3b067 "java/lang/StringLatin1" 2 := hG
  show T Γ Δ es 0 0 Q 0 [(0, .ref a), (1, .int (sJ i))] []
  refine T.iload_n (pc := 0) hG dJ1_charAt_3b067_0 rfl 1 rfl ?_
  refine T.aload_n (pc := 1) hG dJ1_charAt_3b067_1 rfl 0 rfl ?_
  refine T.blen (pc := 2) hG (hB _) dJ1_charAt_3b067_2 ?_
  refine T.callSv (pc := 3) (As := [.int (sJ i), .int (sJ (n : Int))]) (stk := []) hG (tm_sCI l Δ (i := i) (n := (n : Int)) (by omega) (by omega)) mY_J0_checkIndex_df160 kw_1355 kw_1356 ⟨Nat.le_of_ble_eq_true rfl, Nat.le_of_ble_eq_true rfl, Nat.le_of_ble_eq_true rfl, Nat.le_of_ble_eq_true rfl⟩ rfl (Nat.le_of_ble_eq_true rfl) dJ1_charAt_3b067_3 rfl (fun e1 hq => ?_)
  rw [hq]
  refine T.aload_n (pc := 6) hG dJ1_charAt_3b067_6 rfl 0 rfl ?_
  refine T.iload_n (pc := 7) hG dJ1_charAt_3b067_7 rfl 1 rfl ?_
  refine T.bald (pc := 8) hG (hB _) (sR_b (by omega)) ⟨by omega, by omega⟩ dJ1_charAt_3b067_8 ?_
  refine T.sipush (pc := 9) hG dJ1_charAt_3b067_9 (by decide) ?_
  refine T.iand (pc := 12) hG dJ1_charAt_3b067_12 ?_
  refine T.iz (z := f i.toNat) (and255 (by omega)) ?_
  refine T.i2cz (pc := 13) hG dJ1_charAt_3b067_13 ⟨by omega, by omega⟩ ?_
  exact fin dJ1_charAt_3b067_14 (sR_b (by omega)) (nar_c (by omega)) (Nat.le_of_ble_eq_true rfl) (Nat.le_of_ble_eq_true rfl) ⟨rfl, rfl⟩
set_option maxRecDepth 100000 in
set_option maxHeartbeats 4000000 in
theorem tm_cA (l : Launch) (Δ : Wd) {es : List TE} {i : Int} (hi : 0 ≤ i ∧ i < 7) : Met l yJ0_charAt_5068e (Cond.code yJ0_charAt_5068e cJ0_charAt_5068e 2 (some .char) :: gW) (sRx 5 220 0 0) (tPc Δ [.ref (aK Δ 1), .int (sJ i)] es) (tQi Δ (fun x e => x = opsT.getD i.toNat 0 ∧ e = es)) 0 0 (sFr Δ) := by
  refine Tm.i (ty := .char) (by decide) rfl (Nat.le_of_ble_eq_true rfl) (fun Γ Q hG fin => ?_)
  have hG : okG Γ Δ l (sRx 5 220 0 0) cJ0_charAt_5068e "java/lang/String" 2 := hG
  have hl1 : (lenS 1 : Int) = 7 := rfl
  have hf0 : bS 1 (i.toNat : Int) = opsT.getD i.toNat 0 := (show ∀ j : Nat, j < 7 → bS 1 (j : Int) = opsT.getD j 0 by decide +kernel) _ (by omega)
  have hf1 : 0 ≤ bS 1 (i.toNat : Int) ∧ bS 1 (i.toNat : Int) < 128 := by rw [hf0]; exact opsT_ok hi
  show T Γ Δ es 0 0 Q 0 [(0, .ref (aK Δ 1)), (1, .int (sJ i))] []
  refine T.aload_n (pc := 0) hG dJ0_charAt_5068e_0 rfl 0 rfl ?_
  refine T.callVi (pc := 1) (C := "java/lang/String") (As := []) (stk := []) hG (tm_sL1 l Δ (ST.const (k := 1) (by decide))) mY_J0_isLatin1_aae02 kw_1022 kw_1023 (tWd.of kw_1024) (RV.st (ST.const (k := 1) (by decide))) ⟨Nat.le_of_ble_eq_true rfl, Nat.le_of_ble_eq_true rfl, Nat.le_of_ble_eq_true rfl, Nat.le_of_ble_eq_true rfl⟩ rfl (Nat.le_of_ble_eq_true rfl) dJ0_charAt_5068e_1 rfl (fun x1 e2 _ hq => ?_)
  rw [hq.1, hq.2]
  refine T.if_eq (pc := 4) (tgt := 16) hG (sR_b (by omega)) dJ0_charAt_5068e_4 (by decide) (fun q => absurd q (by omega)) (fun _ => ?_)
  refine T.aload_n (pc := 7) hG dJ0_charAt_5068e_7 rfl 0 rfl ?_
  refine T.sval (pc := 8) hG (ST.const (k := 1) (by decide)) kw_1455 dJ0_charAt_5068e_8 ?_
  refine T.iload_n (pc := 11) hG dJ0_charAt_5068e_11 rfl 1 rfl ?_
  refine T.callSi (pc := 12) (As := [.ref (aV Δ 1), .int (sJ i)]) (stk := []) hG (tm_lCA l Δ (fun es1 => (ST.const (k := 1) (by decide)).bt) (i := i) (by omega) (by decide) hf1) mY_J1_charAt_3b067 kw_1352 kw_1353 ⟨Nat.le_of_ble_eq_true rfl, Nat.le_of_ble_eq_true rfl, Nat.le_of_ble_eq_true rfl, Nat.le_of_ble_eq_true rfl⟩ rfl (Nat.le_of_ble_eq_true rfl) dJ0_charAt_5068e_12 rfl (fun x3 e4 _ hq => ?_)
  rw [hq.1, hq.2]
  exact fin dJ0_charAt_5068e_15 (sR_b (by omega)) (nar_c (by omega)) (Nat.le_of_ble_eq_true rfl) (Nat.le_of_ble_eq_true rfl) ⟨hf0, rfl⟩
