theorem kw_1533 : Cond.code yJ7_copyOf_9075b cJ7_copyOf_9075b 3 (some (.array .byte)) ∈ gW := gw_in (gt_6 (List.mem_of_getElem? (i := 232) (by decide +kernel))) (by decide +kernel)
theorem kw_1544 : Cond.native ⟨"java/lang/System", "arraycopy", "(Ljava/lang/Object;ILjava/lang/Object;II)V"⟩ ∈ gW := gw_in (gt_7 (List.mem_of_getElem? (i := 3) (by decide +kernel))) (by decide +kernel)
theorem mY_J0_getBytes_840e7 : mY yJ0_getBytes_840e7 cJ0_getBytes_840e7 4 none 3 := ⟨kw_119, kw_1585, by decide, by decide, by decide +kernel⟩
theorem mY_J5_ensureCapacityInternal_d00df : mY yJ5_ensureCapacityInternal_d00df cJ5_ensureCapacityInternal_d00df 3 none 1 := ⟨kw_129, kw_1517, by decide, by decide, by decide +kernel⟩
theorem mY_J5_inflateIfNeededFor_a7421 : mY yJ5_inflateIfNeededFor_a7421 cJ5_inflateIfNeededFor_a7421 2 none 1 := ⟨kw_129, kw_1561, by decide, by decide, by decide +kernel⟩
theorem mY_J5_newCapacity_0f7a4 : mY yJ5_newCapacity_0f7a4 cJ5_newCapacity_0f7a4 6 (some .int) 1 := ⟨kw_129, kw_1521, by decide, by decide, by decide +kernel⟩
theorem mY_J5_putStringAt_47b60 : mY yJ5_putStringAt_47b60 cJ5_putStringAt_47b60 3 none 2 := ⟨kw_129, kw_1557, by decide, by decide, by decide +kernel⟩
theorem mY_J7_copyOf_9075b : mY yJ7_copyOf_9075b cJ7_copyOf_9075b 3 (some (.array .byte)) 2 := ⟨kw_132, kw_1533, by decide, by decide, by decide +kernel⟩
theorem mY_J8_newLength_cabcc : mY yJ8_newLength_cabcc cJ8_newLength_cabcc 4 (some .int) 3 := ⟨kw_131, kw_1524, by decide, by decide, by decide +kernel⟩
/-! ===== texts: what their methods stand on ===== -/
theorem sR_b {x : Int} (h : -2147483648 ≤ x ∧ x < 2147483648) : sR x := h
theorem shl0 {x : Int} (hx : sR x) : iShl x 0 = x := by
  unfold iShl
  have e : sJ 0 &&& 31 = 0 := by decide +kernel
  rw [e, Int32.shiftLeft_zero]
  exact sJ_toInt hx
theorem shr0 {x : Int} (hx : sR x) : iShr x 0 = x := by
  unfold iShr
  have e : sJ 0 &&& 31 = 0 := by decide +kernel
  rw [e, Int32.shiftRight_zero]
  exact sJ_toInt hx
theorem narB {x : Int} (h : 0 ≤ x ∧ x < 128) : vp_nar .byte (sJ x) = sJ x := by
  rw [vp_nar_byte]
  apply Int32.toInt_inj.1
  have hx : sR x := ⟨by omega, by omega⟩
  rw [Int8.toInt_toInt32, Int32.toInt_toInt8, sJ_toInt hx]
  exact Int.bmod_eq_of_le (by omega) (by omega)
theorem hin_J4 : ∀ w ∈ u_ws RJ4 TJ4 4, w ∈ gW := all_map (fun k hk => by
  by_cases e0 : k = 0; subst e0; exact kw_1492
  by_cases e1 : k = 1; subst e1; exact kw_1494
  by_cases e2 : k = 2; subst e2; exact kw_1496
  by_cases e3 : k = 3; subst e3; exact kw_1498
  omega)
section T2
variable {Γ : Cx} {Δ : Wd} {l : Launch} {R : Room} {es : List TE} {kc sl : Nat} {Q : State → Prop} {pc : Nat} {lv lv' : List (Nat × Value)} {stk : List Value} {cc : ByteArray} {own : String} {nL : Nat}
theorem T.iaddz {x y : Int} (z : Int) (h : okG Γ Δ l R cc own nL) (hdg : decode cc pc = .ok (.iadd, 1)) (hz : x + y = z) (hr : sR z) (kk : T Γ Δ es kc sl Q (pc + 1) lv (.int (sJ z) :: stk)) : T Γ Δ es kc sl Q (pc) lv (.int (sJ y) :: .int (sJ x) :: stk) := T.iadd h hdg (by rw [hz, wr_eq hr]; exact kk)
theorem T.isubz {x y : Int} (z : Int) (h : okG Γ Δ l R cc own nL) (hdg : decode cc pc = .ok (.isub, 1)) (hz : x - y = z) (hr : sR z) (kk : T Γ Δ es kc sl Q (pc + 1) lv (.int (sJ z) :: stk)) : T Γ Δ es kc sl Q (pc) lv (.int (sJ y) :: .int (sJ x) :: stk) := T.isub h hdg (by rw [hz, wr_eq hr]; exact kk)
theorem T.imulz {x y : Int} (z : Int) (h : okG Γ Δ l R cc own nL) (hdg : decode cc pc = .ok (.imul, 1)) (hz : x * y = z) (hr : sR z) (kk : T Γ Δ es kc sl Q (pc + 1) lv (.int (sJ z) :: stk)) : T Γ Δ es kc sl Q (pc) lv (.int (sJ y) :: .int (sJ x) :: stk) := T.imul h hdg (by rw [hz, wr_eq hr]; exact kk)
theorem T.inegz {x : Int} (z : Int) (h : okG Γ Δ l R cc own nL) (hdg : decode cc pc = .ok (.ineg, 1)) (hz : -x = z) (hr : sR z) (kk : T Γ Δ es kc sl Q (pc + 1) lv (.int (sJ z) :: stk)) : T Γ Δ es kc sl Q (pc) lv (.int (sJ x) :: stk) := T.ineg h hdg (by rw [hz, wr_eq hr]; exact kk)
theorem T.ishlz {x : Int} (h : okG Γ Δ l R cc own nL) (hdg : decode cc pc = .ok (.ishl, 1)) (hr : sR x) (kk : T Γ Δ es kc sl Q (pc + 1) lv (.int (sJ x) :: stk)) : T Γ Δ es kc sl Q (pc) lv (.int (sJ 0) :: .int (sJ x) :: stk) := T.ishl h hdg (by rw [shl0 hr]; exact kk)
theorem T.ishrz {x : Int} (h : okG Γ Δ l R cc own nL) (hdg : decode cc pc = .ok (.ishr, 1)) (hr : sR x) (kk : T Γ Δ es kc sl Q (pc + 1) lv (.int (sJ x) :: stk)) : T Γ Δ es kc sl Q (pc) lv (.int (sJ 0) :: .int (sJ x) :: stk) := T.ishr h hdg (by rw [shr0 hr]; exact kk)
theorem T.i2bz {x : Int} (h : okG Γ Δ l R cc own nL) (hdg : decode cc pc = .ok (.i2b, 1)) (hx : 0 ≤ x ∧ x < 128) (kk : T Γ Δ es kc sl Q (pc + 1) lv (.int (sJ x) :: stk)) : T Γ Δ es kc sl Q (pc) lv (.int (sJ x) :: stk) := T.i2b h hdg (by rw [sJ_of, ← vp_nar_byte, narB hx]; exact kk)
theorem T.i2cz {x : Int} (h : okG Γ Δ l R cc own nL) (hdg : decode cc pc = .ok (.i2c, 1)) (hx : 0 ≤ x ∧ x < 65536) (kk : T Γ Δ es kc sl Q (pc + 1) lv (.int (sJ x) :: stk)) : T Γ Δ es kc sl Q (pc) lv (.int (sJ x) :: stk) := T.i2c h ⟨by omega, by omega⟩ hdg (by rw [show x % 65536 = x by omega]; exact kk)
theorem T.iincz {j : Nat} {a x : Int} (z : Int) (h : okG Γ Δ l R cc own nL) (hdg : decode cc pc = .ok (.iinc j a, 3)) (k : Nat) (hk : lv[k]? = some (j, .int (sJ x))) (hn : j < nL) (hz : x + a = z) (hr : sR z) (hv : sPut j (.int (sJ z)) lv = lv') (kk : T Γ Δ es kc sl Q (pc + 3) lv' stk) : T Γ Δ es kc sl Q (pc) lv stk := T.iinc h hdg k hk hn (by rw [hz, wr_eq hr]; exact hv) kk
theorem T.iz {x z : Int} (hz : x = z) (kk : T Γ Δ es kc sl Q pc lv (.int (sJ z) :: stk)) : T Γ Δ es kc sl Q pc lv (.int (sJ x) :: stk) := by rw [hz]; exact kk
end T2
/-- the private methods of the builder, and its superclass, in the tables at the start -/
def tdL : List Cond := [.superclass RJ4 RJ5, .privateMethod yJ5_ensureCapacityInternal_d00df, .privateMethod yJ5_newCapacity_0f7a4, .privateMethod yJ5_putStringAt_47b60, .privateMethod yJ5_inflateIfNeededFor_a7421]
def dOnes (j : Nat) : Int := 48 + ((j % 10 : Nat) : Int)
def dTens (j : Nat) : Int := 48 + ((j / 10 : Nat) : Int)
def TD1 (Δ : Wd) (n : String) (f : Nat → Int) : Prop := ∃ t, ∀ H, sE Δ H → va_Z "java/lang/Integer" n "[B" (.ref t) (fun _ => False) (sS0 Δ) H ∧ va_T .byte t 100 (fun j => .int (sJ (f j))) (fun _ => False) (sS0 Δ) H
def TD (Δ : Wd) : Prop := (∀ w ∈ tdL, va_Nw w (sS0 Δ)) ∧ TD1 Δ "DigitOnes" dOnes ∧ TD1 Δ "DigitTens" dTens
theorem tsup_moved {a b : String} {u U : State} (hvm : u.vm.Alike U.vm) (h : va_Nw (.superclass a b) u) : va_Nw (.superclass a b) U := by
  unfold va_Nw Cond.before at *
  simp only [Cond.holds, Cond.value] at *
  cases e1 : u.vm.findClass a with
  | none => rw [e1] at h; simp at h
  | some c =>
    cases e2 : u.vm.findClass b with
    | none => rw [e1, e2] at h; simp at h
    | some q =>
      cases e3 : u.vm.classes[c]? with
      | none => rw [e1, e2] at h; simp [e3] at h
      | some k =>
        cases e4 : u.vm.classes[q]? with
        | none => rw [e1, e2] at h; simp [e3, e4] at h
        | some kp =>
          obtain ⟨k', g1, g2⟩ := hvm.2.2 _ _ e3
          obtain ⟨kp', g3, g4⟩ := hvm.2.2 _ _ e4
          have x1 : k'.super = k.super := by rw [g2]
          have x2 : k'.kind = k.kind := by rw [g2]
          have x3 : kp'.kind = kp.kind := by rw [g4]
          have x4 : k'.isInterface = k.isInterface := by rw [g2]; rfl
          rw [hvm.findClass, hvm.findClass, e1, e2]
          rw [e1, e2] at h
          simp only [e3, e4, Option.bind_some, Option.map_some] at h
          simp only [g1, g3, Option.bind_some, Option.map_some, x1, x2, x3, x4]
          exact h
theorem TD.sup {Δ : Wd} (h : TD Δ) : tWd Δ (.superclass RJ4 RJ5) := fun U A hK _ => va_Nw.use rfl (tsup_moved hK.s0 (h.1 _ (by simp [tdL])))
theorem tpriv_moved {y : MethodName} {u U : State} (hvm : u.vm.Alike U.vm) (h : va_Nw (.privateMethod y) u) : va_Nw (.privateMethod y) U := va_tabs rfl (rfl : (u.setVm U.vm).vm = U.vm) (by rw [Cond.privateMethod_setVm hvm]; exact h)
theorem TD.sel {Δ : Wd} (h : TD Δ) {y : MethodName} (hy : y.cls = RJ5) (hp : Cond.privateMethod y ∈ tdL) (hi : Cond.instanceMethod y ∈ gW) : tWd Δ (.selects RJ4 y y) := by
  intro U A hK hts
  have hpriv : (Cond.privateMethod y).before A U = true := va_Nw.use rfl (tpriv_moved hK.s0 (h.1 _ hp))
  have hinst := hts _ hi
  obtain ⟨hfc, kC, hkC, -⟩ := (hK.1.1 14 _ rfl).2
  have hsl := hts _ kw_1548
  obtain ⟨c2, r2, m2, q1, q2, q3, q4, kP, hkP, hkPi⟩ := Cond.selects_spec hsl
  obtain ⟨mk, methM, hnamed, hmethM, -, -⟩ := Cond.instanceMethod_spec hinst
  have hfound : U.methodFound? y.cls y.name y.desc = some mk := State.methodFound?_of_named hnamed (by rw [hy]; exact ⟨by decide, by decide⟩)
  have e1 : U.vm.findClass RJ5 = some m2.cls := findClass_of_methodNamed q3
  have e2 : U.vm.findClass y.cls = some mk.cls := findClass_of_methodNamed hnamed
  have hcls : mk.cls = m2.cls := by
    rw [hy] at e2
    exact Option.some.inj (e2.symm.trans e1)
  have hsel : selectMethod {} U.vm (Δ.1 14) mk = .method mk := selectMethod_private hmethM (Cond.privateMethod_at hpriv mk methM hnamed hmethM)
  have hfc : U.vm.findClass RJ4 = some (Δ.1 14) := hfc
  rw [← hcls] at hkP
  simp only [Cond.before, Cond.holds, Cond.value, hfc, hfound, hnamed, hsel, hkP]
  simp
  exact hkPi
section T3
variable {Γ : Cx} {Δ : Wd} {l : Launch} {R : Room} {es : List TE} {kc sl : Nat} {Q : State → Prop} {pc : Nat} {lv lv' : List (Nat × Value)} {stk : List Value} {cc : ByteArray} {own : String} {nL : Nat}
theorem T.dig {n : String} {f : Nat → Int} {ix : Nat} (h : okG Γ Δ l R cc own nL) (hD : TD1 Δ n f) (hlink : Cond.fieldLink own ix "java/lang/Integer" n "[B" ∈ gW) (hdg : decode cc pc = .ok (.getstatic ix, 3)) (kk : ∀ t, (∀ es1, BT Δ es1 t 100 f) → T Γ Δ es kc sl Q (pc + 3) lv (.ref t :: stk)) : T Γ Δ es kc sl Q (pc) lv stk := by
  obtain ⟨p, l', e, R', s, m, args, below, meth, c, nL'⟩ := Γ
  obtain ⟨hx, hb, hml, hown, hts, hKK, hlk, rfl, rfl, rfl⟩ := h
  intro H locs ls hP hS hl
  obtain ⟨t, ht⟩ := hD
  obtain ⟨cf, kf, fi, f', a, cell, h1, h2, h3, h4, h5, h6, h7, h8⟩ := va_Z.moved hKK.s0 (ht H hP.2.2.2).1
  exact W.gets hx hb hown (hts _ hlink) h1 h2 h3 h4 h5 (fun e => by rw [e] at h6; cases h6) h7 rfl hdg (kk t (fun es1 U H1 hK hq hT => va_T.moved hK.s0 (ht H1 hT.2.2.2).2) H locs ls hP hS hl)
end T3
/-- all letters -/
def AB (f : Nat → Int) : Prop := ∀ j : Nat, 0 ≤ f j ∧ f j < 128
theorem AB.ite {c : Nat → Prop} [DecidablePred c] {f g : Nat → Int} (hf : ∀ j, c j → 0 ≤ f j ∧ f j < 128) (hg : AB g) : AB (fun j => if c j then f j else g j) := by
  intro j
  show 0 ≤ (if c j then f j else g j) ∧ (if c j then f j else g j) < 128
  by_cases q : c j
  · rw [if_pos q]; exact hf j q
  · rw [if_neg q]; exact hg j
def asc (t : List Int) : Prop := ∀ x ∈ t, 0 ≤ x ∧ x < 128
/-- a builder that holds a text; its bytes stand below h -/
def SBT (es : List TE) (k : Nat) (t : List Int) (h : Nat) : Prop := ∃ (v L : Nat) (f : Nat → Int), es[k]? = some (tsb (some v) t.length) ∧ es[v]? = some (tba L f) ∧ k < v ∧ v < h ∧ t.length ≤ L ∧ (L = 16 ∨ L = 34) ∧ AB f ∧ ∀ j : Nat, j < t.length → f j = lstF t j
/-- a String of a text: a constant, or made, its bytes between a and b -/
def TX (Δ : Wd) (es : List TE) (x : Nat) (t : List Int) (a b : Nat) : Prop := (∃ k, k < 13 ∧ x = aK Δ k ∧ lenS k = t.length ∧ ∀ j : Nat, j < t.length → bS k j = lstF t j) ∨ ∃ (i j : Nat) (f : Nat → Int), x = tA Δ i ∧ es[i]? = some (tst (some j)) ∧ es[j]? = some (tba t.length f) ∧ a ≤ j ∧ j < b ∧ ∀ q : Nat, q < t.length → f q = lstF t q
theorem TX.mono {Δ : Wd} {es es1 : List TE} {x a b : Nat} {t : List Int} (h : TX Δ es x t a b) (ho : ∀ j, j < es.length → es1[j]? = es[j]?) : TX Δ es1 x t a b := by
  rcases h with h | ⟨i, j, f, h1, h2, h3, h4⟩
  · exact Or.inl h
  · exact Or.inr ⟨i, j, f, h1, (ho i (tlt h2)).trans h2, (ho j (tlt h3)).trans h3, h4⟩
theorem TX.keep {Δ : Wd} {es es1 : List TE} {x a b k : Nat} {t : List Int} {v : Option Nat} {n : Int} (h : TX Δ es x t a b) (hk : es[k]? = some (tsb v n)) (ho : ∀ j, j ≠ k → j < es.length → es1[j]? = es[j]?) : TX Δ es1 x t a b := by
  rcases h with h | ⟨i, j, f, h1, h2, h3, h4⟩
  · exact Or.inl h
  · exact Or.inr ⟨i, j, f, h1, (ho i (fun z => by rw [z, hk] at h2; cases h2) (tlt h2)).trans h2, (ho j (fun z => by rw [z, hk] at h3; cases h3) (tlt h3)).trans h3, h4⟩
theorem TX.st {Δ : Wd} {es : List TE} {x a b : Nat} {t : List Int} (h : TX Δ es x t a b) : ∃ (v : Nat) (f : Nat → Int), ST Δ es x v t.length f ∧ ∀ j : Nat, j < t.length → f j = lstF t j := by
  rcases h with ⟨k, h1, rfl, h3, h4⟩ | ⟨i, j, f, rfl, h2, h3, -, -, h4⟩
  · exact ⟨_, _, h3 ▸ ST.const h1, h4⟩
  · exact ⟨_, f, ST.st h2 h3, h4⟩
theorem TX.wide {Δ : Wd} {es : List TE} {x a b a2 b2 : Nat} {t : List Int} (h : TX Δ es x t a b) (ha : a2 ≤ a) (hb : b ≤ b2) : TX Δ es x t a2 b2 := by
  rcases h with h | ⟨i, j, f, h1, h2, h3, h4, h5, h6⟩
  · exact Or.inl h
  · exact Or.inr ⟨i, j, f, h1, h2, h3, Nat.le_trans ha h4, Nat.lt_of_lt_of_le h5 hb, h6⟩
theorem TX.rv {Δ : Wd} {es : List TE} {x a b : Nat} {t : List Int} (h : TX Δ es x t a b) : RV Δ es x "java/lang/String" := by
  obtain ⟨v, f, h1, -⟩ := h.st
  exact RV.st h1
theorem SBT.mono {es es1 : List TE} {k h : Nat} {t : List Int} (hs : SBT es k t h) (ho : ∀ j, j < es.length → es1[j]? = es[j]?) : SBT es1 k t h := by
  obtain ⟨v, L, f, h1, h2, h3⟩ := hs
  exact ⟨v, L, f, (ho k (tlt h1)).trans h1, (ho v (tlt h2)).trans h2, h3⟩
theorem SBT.rv {Δ : Wd} {es : List TE} {k h : Nat} {t : List Int} (hs : SBT es k t h) : RV Δ es (tA Δ k) "java/lang/StringBuilder" := by
  obtain ⟨v, L, f, h1, -⟩ := hs
  exact RV.sb h1
theorem lstF_app1 {t u : List Int} {j : Nat} (h : j < t.length) : lstF (t ++ u) j = lstF t j := by
  unfold lstF
  rw [List.getD_eq_getElem?_getD, List.getD_eq_getElem?_getD, Int.toNat_natCast, List.getElem?_append_left h]
theorem lstF_app2 {t u : List Int} {j : Nat} (h : t.length ≤ j) : lstF (t ++ u) j = lstF u ((j - t.length : Nat) : Int) := by
  unfold lstF
  rw [List.getD_eq_getElem?_getD, List.getD_eq_getElem?_getD, Int.toNat_natCast, Int.toNat_natCast, List.getElem?_append_right h]
theorem lstF_mem {t : List Int} {j : Nat} (h : j < t.length) : lstF t j ∈ t := by
  unfold lstF
  rw [Int.toNat_natCast, List.getD_eq_getElem?_getD, List.getElem?_eq_getElem h]
  exact List.getElem_mem h
theorem hin_J0 : ∀ w ∈ u_ws RJ0 TJ0 4, w ∈ gW := all_map (fun k hk => by
  by_cases e0 : k = 0; subst e0; exact kw_998
  by_cases e1 : k = 1; subst e1; exact kw_1000
  by_cases e2 : k = 2; subst e2; exact kw_1457
  by_cases e3 : k = 3; subst e3; exact kw_1459
  omega)
theorem defJ4 : ∀ j, j < 4 → defaultValue (tyJ4 j) = vp_V [.null, .int 0, .int 0, .int (sJ 0)] j := fun j hj => by
  rcases (show j = 0 ∨ j = 1 ∨ j = 2 ∨ j = 3 by omega) with rfl | rfl | rfl | rfl <;> rfl
theorem defJ0 : ∀ j, j < 4 → defaultValue (tyJ0 j) = vp_V [.null, .int 0, .int 0, .int 0] j := fun j hj => by
  rcases (show j = 0 ∨ j = 1 ∨ j = 2 ∨ j = 3 by omega) with rfl | rfl | rfl | rfl <;> rfl
theorem SBT.app {es : List TE} {k v L : Nat} {t u : List Int} {f g : Nat → Int} (he : es[k]? = some (tsb (some v) ((t ++ u).length : Int))) (hb : es[v]? = some (tba L g)) (hkv : k < v) (hL : L = 16 ∨ L = 34) (hl : (t ++ u).length ≤ L) (hf : ∀ j : Nat, j < t.length → f j = lstF t j) (h1 : ∀ j : Nat, j < t.length → g j = f j) (h2 : ∀ j : Nat, j < u.length → g (t.length + j) = lstF u j) (hg : AB g) : SBT es k (t ++ u) es.length := by
  refine ⟨v, L, g, he, hb, hkv, tlt hb, hl, hL, hg, fun j hj => ?_⟩
  rw [List.length_append] at hj
  rcases Nat.lt_or_ge j t.length with h | h
  · rw [h1 j h, hf j h, lstF_app1 h]
  · rw [lstF_app2 h, ← h2 _ (by omega)]
    congr 1
    omega
set_option maxRecDepth 100000 in
set_option maxHeartbeats 4000000 in
theorem tm_isL1 (l : Launch) (Δ : Wd) {es : List TE} {k : Nat} {v : Option Nat} {n : Int} (he : es[k]? = some (tsb v n)) : Met l yJ5_isLatin1_aae02 (Cond.code yJ5_isLatin1_aae02 cJ5_isLatin1_aae02 1 (some .boolean) :: gW) (sRx 2 100 0 0) (tPc Δ [.ref (tA Δ k)] es) (tQi Δ (fun x e => x = 1 ∧ e = es)) 0 0 (sFr Δ) := by
  refine Tm.i (ty := .boolean) (by decide) rfl (Nat.le_of_ble_eq_true rfl) (fun Γ Q hG fin => ?_)
  have hG : okG Γ Δ l (sRx 2 100 0 0) cJ5_isLatin1_aae02 "java/lang/AbstractStringBuilder" 1 := hG
  show T Γ Δ es 0 0 Q 0 [(0, .ref (tA Δ k))] []
  refine T.scs (pc := 0) hG kw_1480 dJ5_isLatin1_aae02_0 ?_
  refine T.if_eq (pc := 3) (tgt := 17) hG (sR_b (by omega)) dJ5_isLatin1_aae02_3 (by decide) (fun q => absurd q (by omega)) (fun _ => ?_)
  refine T.aload_n (pc := 6) hG dJ5_isLatin1_aae02_6 rfl 0 rfl ?_
  refine T.get (pc := 7) (ci := 14) (k := k) (fk := 1) (v := .int (sJ 0)) hG hin_J4 rfl he rfl (by decide) rfl kw_1489 dJ5_isLatin1_aae02_7 ?_
  refine T.if_ne (pc := 10) (tgt := 17) hG (sR_b (by omega)) dJ5_isLatin1_aae02_10 (by decide) (fun q => absurd q (by omega)) (fun _ => ?_)
  refine T.iconst (pc := 13) hG dJ5_isLatin1_aae02_13 ?_
  refine T.goto (pc := 14) (tgt := 18) hG dJ5_isLatin1_aae02_14 (by decide) ?_
  exact fin dJ5_isLatin1_aae02_18 (sR_b (by omega)) rfl (Nat.le_of_ble_eq_true rfl) (Nat.le_of_ble_eq_true rfl) ⟨rfl, rfl⟩
set_option maxRecDepth 100000 in
set_option maxHeartbeats 4000000 in
theorem tm_coder (l : Launch) (Δ : Wd) {es : List TE} {x v n : Nat} {f : Nat → Int} (hx : ST Δ es x v n f) : Met l yJ0_coder_7d493 (Cond.code yJ0_coder_7d493 cJ0_coder_7d493 1 (some .byte) :: gW) (sRx 2 100 0 0) (tPc Δ [.ref x] es) (tQi Δ (fun x e => x = 0 ∧ e = es)) 0 0 (sFr Δ) := by
  refine Tm.i (ty := .byte) (by decide) rfl (Nat.le_of_ble_eq_true rfl) (fun Γ Q hG fin => ?_)
  have hG : okG Γ Δ l (sRx 2 100 0 0) cJ0_coder_7d493 "java/lang/String" 1 := hG
  show T Γ Δ es 0 0 Q 0 [(0, .ref x)] []
  refine T.scs (pc := 0) hG kw_1026 dJ0_coder_7d493_0 ?_
  refine T.if_eq (pc := 3) (tgt := 13) hG (sR_b (by omega)) dJ0_coder_7d493_3 (by decide) (fun q => absurd q (by omega)) (fun _ => ?_)
  refine T.aload_n (pc := 6) hG dJ0_coder_7d493_6 rfl 0 rfl ?_
  refine T.scoder (pc := 7) hG hx kw_1456 dJ0_coder_7d493_7 ?_
  refine T.goto (pc := 10) (tgt := 14) hG dJ0_coder_7d493_10 (by decide) ?_
  exact fin dJ0_coder_7d493_14 (sR_b (by omega)) rfl (Nat.le_of_ble_eq_true rfl) (Nat.le_of_ble_eq_true rfl) ⟨rfl, rfl⟩
set_option maxRecDepth 100000 in
set_option maxHeartbeats 4000000 in
theorem tm_slen (l : Launch) (Δ : Wd) {es : List TE} {x v n : Nat} {f : Nat → Int} (hx : ST Δ es x v n f) (hn : n < 1000) : Met l yJ0_length_8abf5 (Cond.code yJ0_length_8abf5 cJ0_length_8abf5 1 (some .int) :: gW) (sRx 3 140 0 0) (tPc Δ [.ref x] es) (tQi Δ (fun x e => x = (n : Int) ∧ e = es)) 0 0 (sFr Δ) := by
  refine Tm.i (ty := .int) (by decide) rfl (Nat.le_of_ble_eq_true rfl) (fun Γ Q hG fin => ?_)
  have hG : okG Γ Δ l (sRx 3 140 0 0) cJ0_length_8abf5 "java/lang/String" 1 := hG
  show T Γ Δ es 0 0 Q 0 [(0, .ref x)] []
  refine T.aload_n (pc := 0) hG dJ0_length_8abf5_0 rfl 0 rfl ?_
  refine T.sval (pc := 1) hG hx kw_1455 dJ0_length_8abf5_1 ?_
  refine T.blen (pc := 4) hG (ST.bt hx) dJ0_length_8abf5_4 ?_
  refine T.aload_n (pc := 5) hG dJ0_length_8abf5_5 rfl 0 rfl ?_
  refine T.callVi (pc := 6) (C := "java/lang/String") (As := []) (stk := [.int (sJ (n : Int))]) hG (tm_coder l Δ hx) mY_J0_coder_7d493 kw_1032 kw_1033 (tWd.of kw_1034) (RV.st hx) ⟨Nat.le_of_ble_eq_true rfl, Nat.le_of_ble_eq_true rfl, Nat.le_of_ble_eq_true rfl, Nat.le_of_ble_eq_true rfl⟩ rfl (Nat.le_of_ble_eq_true rfl) dJ0_length_8abf5_6 rfl (fun x1 e2 _ hq => ?_)
  rw [hq.1, hq.2]
  refine T.ishrz (pc := 9) hG dJ0_length_8abf5_9 (sR_b (by omega)) ?_
  exact fin dJ0_length_8abf5_10 (sR_b (by omega)) rfl (Nat.le_of_ble_eq_true rfl) (Nat.le_of_ble_eq_true rfl) ⟨rfl, rfl⟩
set_option maxRecDepth 100000 in
set_option maxHeartbeats 4000000 in
theorem tm_newLen (l : Launch) (Δ : Wd) {es : List TE} {g : Int} (hg : 0 < g ∧ g ≤ 18) : Met l yJ8_newLength_cabcc (Cond.code yJ8_newLength_cabcc cJ8_newLength_cabcc 4 (some .int) :: gW) (sRx 2 100 0 0) (tPc Δ [.int (sJ 16), .int (sJ g), .int (sJ 18)] es) (tQi Δ (fun x e => x = 34 ∧ e = es)) 0 0 (sFr Δ) := by
  refine Tm.i (ty := .int) (by decide) rfl (Nat.le_of_ble_eq_true rfl) (fun Γ Q hG fin => ?_)
  have hG : okG Γ Δ l (sRx 2 100 0 0) cJ8_newLength_cabcc "jdk/internal/util/ArraysSupport" 4 := hG
  show T Γ Δ es 0 0 Q 0 [(0, .int (sJ 16)), (1, .int (sJ g)), (2, .int (sJ 18))] []
  refine T.iload_n (pc := 0) hG dJ8_newLength_cabcc_0 rfl 0 rfl ?_
  refine T.iload_n (pc := 1) hG dJ8_newLength_cabcc_1 rfl 1 rfl ?_
  refine T.iload_n (pc := 2) hG dJ8_newLength_cabcc_2 rfl 2 rfl ?_
  refine T.mmax (pc := 3) hG (sR_b (by omega)) (sR_b (by omega)) kw_1525 kw_699 kw_121 kw_max ⟨Nat.le_of_ble_eq_true rfl, Nat.le_of_ble_eq_true rfl, Nat.le_of_ble_eq_true rfl, Nat.le_of_ble_eq_true rfl⟩ dJ8_newLength_cabcc_3 ?_
  refine T.iz (z := 18) (by omega) ?_
  refine T.iaddz (pc := 6) (34) hG dJ8_newLength_cabcc_6 (by omega) (sR_b (by omega)) ?_
  refine T.istore_n (pc := 7) (lv' := [(3, .int (sJ 34)), (0, .int (sJ 16)), (1, .int (sJ g)), (2, .int (sJ 18))]) hG dJ8_newLength_cabcc_7 rfl (by decide) rfl ?_
  refine T.iconst (pc := 8) hG dJ8_newLength_cabcc_8 ?_
  refine T.iload_n (pc := 9) hG dJ8_newLength_cabcc_9 rfl 0 rfl ?_
  refine T.icmp_ge (pc := 10) (tgt := 21) hG (sR_b (by omega)) (sR_b (by omega)) dJ8_newLength_cabcc_10 (by decide) (fun q => absurd q (by omega)) (fun _ => ?_)
  refine T.iload_n (pc := 13) hG dJ8_newLength_cabcc_13 rfl 0 rfl ?_
  refine T.ldc (pc := 14) (x := 2147483639) hG kw_1526 dJ8_newLength_cabcc_14 ?_
  refine T.icmp_gt (pc := 16) (tgt := 21) hG (sR_b (by omega)) (sR_b (by omega)) dJ8_newLength_cabcc_16 (by decide) (fun q => absurd q (by omega)) (fun _ => ?_)
  refine T.iload_n (pc := 19) hG dJ8_newLength_cabcc_19 rfl 0 rfl ?_
  exact fin dJ8_newLength_cabcc_20 (sR_b (by omega)) rfl (Nat.le_of_ble_eq_true rfl) (Nat.le_of_ble_eq_true rfl) ⟨rfl, rfl⟩
set_option maxRecDepth 100000 in
set_option maxHeartbeats 4000000 in
theorem tm_newCap (l : Launch) (Δ : Wd) {es : List TE} {k v : Nat} {n : Int} {f : Nat → Int} (he : es[k]? = some (tsb (some v) n)) (hb : es[v]? = some (tba 16 f)) {m : Int} (hm : 16 < m ∧ m ≤ 34) : Met l yJ5_newCapacity_0f7a4 (Cond.code yJ5_newCapacity_0f7a4 cJ5_newCapacity_0f7a4 6 (some .int) :: gW) (sRx 3 150 0 0) (tPc Δ [.ref (tA Δ k), .int (sJ m)] es) (tQi Δ (fun x e => x = 34 ∧ e = es)) 0 0 (sFr Δ) := by
  refine Tm.i (ty := .int) (by decide) rfl (Nat.le_of_ble_eq_true rfl) (fun Γ Q hG fin => ?_)
  have hG : okG Γ Δ l (sRx 3 150 0 0) cJ5_newCapacity_0f7a4 "java/lang/AbstractStringBuilder" 6 := hG
  show T Γ Δ es 0 0 Q 0 [(0, .ref (tA Δ k)), (1, .int (sJ m))] []
  refine T.aload_n (pc := 0) hG dJ5_newCapacity_0f7a4_0 rfl 0 rfl ?_
  refine T.get (pc := 1) (ci := 14) (k := k) (fk := 0) (v := .ref (tA Δ v)) hG hin_J4 rfl he rfl (by decide) rfl kw_1488 dJ5_newCapacity_0f7a4_1 ?_
  refine T.blen (pc := 4) hG (BT.ba hb) dJ5_newCapacity_0f7a4_4 ?_
  refine T.istore_n (pc := 5) (lv' := [(2, .int (sJ 16)), (0, .ref (tA Δ k)), (1, .int (sJ m))]) hG dJ5_newCapacity_0f7a4_5 rfl (by decide) rfl ?_
  refine T.iload_n (pc := 6) hG dJ5_newCapacity_0f7a4_6 rfl 2 rfl ?_
  refine T.aload_n (pc := 7) hG dJ5_newCapacity_0f7a4_7 rfl 1 rfl ?_
  refine T.get (pc := 8) (ci := 14) (k := k) (fk := 1) (v := .int (sJ 0)) hG hin_J4 rfl he rfl (by decide) rfl kw_1489 dJ5_newCapacity_0f7a4_8 ?_
  refine T.ishlz (pc := 11) hG dJ5_newCapacity_0f7a4_11 (sR_b (by omega)) ?_
  refine T.istore_n (pc := 12) (lv' := [(3, .int (sJ m)), (2, .int (sJ 16)), (0, .ref (tA Δ k)), (1, .int (sJ m))]) hG dJ5_newCapacity_0f7a4_12 rfl (by decide) rfl ?_
  refine T.iload_n (pc := 13) hG dJ5_newCapacity_0f7a4_13 rfl 0 rfl ?_
  refine T.iload_n (pc := 14) hG dJ5_newCapacity_0f7a4_14 rfl 1 rfl ?_
  refine T.isubz (pc := 15) (m - 16) hG dJ5_newCapacity_0f7a4_15 (by omega) (sR_b (by omega)) ?_
  refine T.istore (pc := 16) (lv' := [(4, .int (sJ (m - 16))), (3, .int (sJ m)), (2, .int (sJ 16)), (0, .ref (tA Δ k)), (1, .int (sJ m))]) hG dJ5_newCapacity_0f7a4_16 (by decide) rfl ?_
  refine T.iload_n (pc := 18) hG dJ5_newCapacity_0f7a4_18 rfl 2 rfl ?_
  refine T.iload (pc := 19) hG dJ5_newCapacity_0f7a4_19 0 rfl ?_
  refine T.iload_n (pc := 21) hG dJ5_newCapacity_0f7a4_21 rfl 2 rfl ?_
  refine T.iconst (pc := 22) hG dJ5_newCapacity_0f7a4_22 ?_
  refine T.aload_n (pc := 23) hG dJ5_newCapacity_0f7a4_23 rfl 3 rfl ?_
  refine T.get (pc := 24) (ci := 14) (k := k) (fk := 1) (v := .int (sJ 0)) hG hin_J4 rfl he rfl (by decide) rfl kw_1489 dJ5_newCapacity_0f7a4_24 ?_
  refine T.ishlz (pc := 27) hG dJ5_newCapacity_0f7a4_27 (sR_b (by omega)) ?_
  refine T.iaddz (pc := 28) (18) hG dJ5_newCapacity_0f7a4_28 (by omega) (sR_b (by omega)) ?_
  refine T.callSi (pc := 29) (As := [.int (sJ 16), .int (sJ (m - 16)), .int (sJ 18)]) (stk := []) hG (tm_newLen l Δ (g := m - 16) (by omega)) mY_J8_newLength_cabcc kw_1522 kw_1523 ⟨Nat.le_of_ble_eq_true rfl, Nat.le_of_ble_eq_true rfl, Nat.le_of_ble_eq_true rfl, Nat.le_of_ble_eq_true rfl⟩ rfl (Nat.le_of_ble_eq_true rfl) dJ5_newCapacity_0f7a4_29 rfl (fun x1 e2 _ hq => ?_)
  rw [hq.1, hq.2]
  refine T.istore (pc := 32) (lv' := [(5, .int (sJ 34)), (4, .int (sJ (m - 16))), (3, .int (sJ m)), (2, .int (sJ 16)), (0, .ref (tA Δ k)), (1, .int (sJ m))]) hG dJ5_newCapacity_0f7a4_32 (by decide) rfl ?_
  refine T.iload (pc := 34) hG dJ5_newCapacity_0f7a4_34 0 rfl ?_
  refine T.ldc (pc := 36) (x := 2147483647) hG kw_1530 dJ5_newCapacity_0f7a4_36 ?_
  refine T.icmp_ne (pc := 38) (tgt := 51) hG (sR_b (by omega)) (sR_b (by omega)) dJ5_newCapacity_0f7a4_38 (by decide) (fun _ => ?_) (fun q => absurd q (by omega))
  refine T.iload (pc := 51) hG dJ5_newCapacity_0f7a4_51 0 rfl ?_
  refine T.aload_n (pc := 53) hG dJ5_newCapacity_0f7a4_53 rfl 4 rfl ?_
  refine T.get (pc := 54) (ci := 14) (k := k) (fk := 1) (v := .int (sJ 0)) hG hin_J4 rfl he rfl (by decide) rfl kw_1489 dJ5_newCapacity_0f7a4_54 ?_
  refine T.ishrz (pc := 57) hG dJ5_newCapacity_0f7a4_57 (sR_b (by omega)) ?_
  exact fin dJ5_newCapacity_0f7a4_58 (sR_b (by omega)) rfl (Nat.le_of_ble_eq_true rfl) (Nat.le_of_ble_eq_true rfl) ⟨rfl, rfl⟩
set_option maxRecDepth 100000 in
set_option maxHeartbeats 4000000 in
theorem tm_copyOf (l : Launch) (Δ : Wd) {es : List TE} {v : Nat} {f : Nat → Int} (hb : es[v]? = some (tba 16 f)) (hA : AB f) : Met l yJ7_copyOf_9075b (Cond.code yJ7_copyOf_9075b cJ7_copyOf_9075b 3 (some (.array .byte)) :: gW) (sRx 3 100 1 34) (tPc Δ [.ref (tA Δ v), .int (sJ 34)] es) (tQr Δ (fun a e => a = tA Δ es.length ∧ ∃ f', e[es.length]? = some (tba 34 f') ∧ AB f' ∧ (∀ j : Nat, j < 16 → f' j = f j) ∧ (∀ j, j < es.length → e[j]? = es[j]?) ∧ e.length = es.length + 1)) 1 34 (sFr Δ) := by
  refine Tm.r (rt := (.array .byte)) (by decide) rfl (Or.inr ⟨_, rfl⟩) (Nat.le_of_ble_eq_true rfl) (fun Γ Q hG fin => ?_)
  have hG : okG Γ Δ l (sRx 3 100 1 34) cJ7_copyOf_9075b "java/util/Arrays" 3 := hG
  have hlv := tlt hb
  show T Γ Δ es 0 0 Q 0 [(0, .ref (tA Δ v)), (1, .int (sJ 34))] []
  refine T.iload_n (pc := 0) hG dJ7_copyOf_9075b_0 rfl 1 rfl ?_
  refine T.aload_n (pc := 1) hG dJ7_copyOf_9075b_1 rfl 0 rfl ?_
  refine T.blen (pc := 2) hG (BT.ba hb) dJ7_copyOf_9075b_2 ?_
  refine T.icmp_ne (pc := 3) (tgt := 14) hG (sR_b (by omega)) (sR_b (by omega)) dJ7_copyOf_9075b_3 (by decide) (fun _ => ?_) (fun q => absurd q (by omega))
  refine T.iload_n (pc := 14) hG dJ7_copyOf_9075b_14 rfl 1 rfl ?_
  refine T.newB (pc := 15) (z := 34) hG kw_997 (by omega) (by omega) ⟨Nat.le_of_ble_eq_true rfl, Nat.le_of_ble_eq_true rfl⟩ dJ7_copyOf_9075b_15 (fun e1 h2 o3 n4 => ?_)
  have g6 := tlt hb
  have h5 := (o3 _ g6).trans hb
  have p7 : ∀ j, j < es.length → e1[j]? = es[j]? := fun j hj => (o3 j (by omega)).trans ((fun _ _ => rfl) j hj)
  refine T.astore_n (pc := 17) (lv' := [(2, .ref (tA Δ es.length)), (0, .ref (tA Δ v)), (1, .int (sJ 34))]) hG dJ7_copyOf_9075b_17 rfl (by decide) rfl ?_
  refine T.aload_n (pc := 18) hG dJ7_copyOf_9075b_18 rfl 1 rfl ?_
  refine T.iconst (pc := 19) hG dJ7_copyOf_9075b_19 ?_
  refine T.aload_n (pc := 20) hG dJ7_copyOf_9075b_20 rfl 0 rfl ?_
  refine T.iconst (pc := 21) hG dJ7_copyOf_9075b_21 ?_
  refine T.aload_n (pc := 22) hG dJ7_copyOf_9075b_22 rfl 1 rfl ?_
  refine T.blen (pc := 23) hG (BT.ba h5) dJ7_copyOf_9075b_23 ?_
  refine T.iload_n (pc := 24) hG dJ7_copyOf_9075b_24 rfl 2 rfl ?_
  refine T.mmin (pc := 25) hG (sR_b (by omega)) (sR_b (by omega)) kw_1541 kw_646 kw_121 kw_min ⟨Nat.le_of_ble_eq_true rfl, Nat.le_of_ble_eq_true rfl, Nat.le_of_ble_eq_true rfl, Nat.le_of_ble_eq_true rfl⟩ dJ7_copyOf_9075b_25 ?_
  refine T.iz (z := 16) (by omega) ?_
  refine T.copy (pc := 28) (f := f) hG (BT.ba h5) h2 (by omega) ⟨by omega, by omega⟩ ⟨by omega, by omega⟩ (fun j _ => hA j) kw_1542 kw_1544 kw_1543 kw_133 ⟨Nat.le_of_ble_eq_true rfl, by decide⟩ dJ7_copyOf_9075b_28 (fun e8 h9 o10 n11 => ?_)
  have h12 := (o10 v (by omega)).trans h5
  have p13 : ∀ j, j < es.length → e8[j]? = es[j]? := fun j hj => (o10 j (by omega)).trans (p7 j hj)
  refine T.aload_n (pc := 31) hG dJ7_copyOf_9075b_31 rfl 0 rfl ?_
  exact fin dJ7_copyOf_9075b_32 (Nat.le_of_ble_eq_true rfl) (Nat.le_of_ble_eq_true rfl) ⟨rfl, _, h9, AB.ite (fun _ _ => hA _) (fun _ => ⟨by decide, by decide⟩), fun j hj => (if_pos (show (0 : Int).toNat ≤ j ∧ j < (0 : Int).toNat + (16 : Int).toNat from ⟨Nat.zero_le _, by omega⟩)).trans (congrArg f (Nat.sub_zero j)), p13, by omega⟩
set_option maxRecDepth 100000 in
set_option maxHeartbeats 4000000 in
theorem tm_ens (l : Launch) (Δ : Wd) {es : List TE} (hD : TD Δ) {k v L : Nat} {n : Int} {f : Nat → Int} (he : es[k]? = some (tsb (some v) n)) (hb : es[v]? = some (tba L f)) (hkv : k < v) (hL : L = 16 ∨ L = 34) (hA : AB f) {m : Int} (hm : 0 ≤ m ∧ m ≤ 34) : Met l yJ5_ensureCapacityInternal_d00df (Cond.code yJ5_ensureCapacityInternal_d00df cJ5_ensureCapacityInternal_d00df 3 none :: gW) (sRx 4 200 1 34) (tPc Δ [.ref (tA Δ k), .int (sJ m)] es) (tQv Δ (fun e => ∃ (v' L' : Nat) (f' : Nat → Int), e[k]? = some (tsb (some v') n) ∧ e[v']? = some (tba L' f') ∧ k < v' ∧ (L' = 16 ∨ L' = 34) ∧ m ≤ (L' : Int) ∧ AB f' ∧ (∀ j : Nat, j < L → f' j = f j) ∧ L ≤ L' ∧ (∀ j, j ≠ k → j < es.length → e[j]? = es[j]?) ∧ es.length ≤ e.length)) 1 34 (sFr Δ) := by
  refine Tm.v (by decide) (Nat.le_of_ble_eq_true rfl) (fun Γ Q hG hini fin => ?_)
  have hG : okG Γ Δ l (sRx 4 200 1 34) cJ5_ensureCapacityInternal_d00df "java/lang/AbstractStringBuilder" 3 := hG
  have hlv := tlt hb
  show T Γ Δ es 0 0 Q 0 [(0, .ref (tA Δ k)), (1, .int (sJ m))] []
  refine T.aload_n (pc := 0) hG dJ5_ensureCapacityInternal_d00df_0 rfl 0 rfl ?_
  refine T.get (pc := 1) (ci := 14) (k := k) (fk := 0) (v := .ref (tA Δ v)) hG hin_J4 rfl he rfl (by decide) rfl kw_1488 dJ5_ensureCapacityInternal_d00df_1 ?_
  refine T.blen (pc := 4) hG (BT.ba hb) dJ5_ensureCapacityInternal_d00df_4 ?_
  refine T.aload_n (pc := 5) hG dJ5_ensureCapacityInternal_d00df_5 rfl 0 rfl ?_
  refine T.get (pc := 6) (ci := 14) (k := k) (fk := 1) (v := .int (sJ 0)) hG hin_J4 rfl he rfl (by decide) rfl kw_1489 dJ5_ensureCapacityInternal_d00df_6 ?_
  refine T.ishrz (pc := 9) hG dJ5_ensureCapacityInternal_d00df_9 (sR_b (by omega)) ?_
  refine T.istore_n (pc := 10) (lv' := [(2, .int (sJ (L : Int))), (0, .ref (tA Δ k)), (1, .int (sJ m))]) hG dJ5_ensureCapacityInternal_d00df_10 rfl (by decide) rfl ?_
  refine T.iload_n (pc := 11) hG dJ5_ensureCapacityInternal_d00df_11 rfl 2 rfl ?_
  refine T.iload_n (pc := 12) hG dJ5_ensureCapacityInternal_d00df_12 rfl 0 rfl ?_
  refine T.isubz (pc := 13) (m - (L : Int)) hG dJ5_ensureCapacityInternal_d00df_13 (by omega) (sR_b (by omega)) ?_
  refine T.if_le (pc := 14) (tgt := 38) hG (sR_b (by omega)) dJ5_ensureCapacityInternal_d00df_14 (by decide) (fun hg => ?_) (fun hg => ?_)
  · exact fin dJ5_ensureCapacityInternal_d00df_38 (Nat.le_of_ble_eq_true rfl) (Nat.le_of_ble_eq_true rfl) ⟨v, L, f, he, hb, hkv, hL, by omega, hA, fun _ _ => rfl, Nat.le_refl _, fun _ _ _ => rfl, by omega⟩
  · have h16 : L = 16 := by omega
    subst h16
    refine T.aload_n (pc := 17) hG dJ5_ensureCapacityInternal_d00df_17 rfl 1 rfl ?_
    refine T.aload_n (pc := 18) hG dJ5_ensureCapacityInternal_d00df_18 rfl 1 rfl ?_
    refine T.get (pc := 19) (ci := 14) (k := k) (fk := 0) (v := .ref (tA Δ v)) hG hin_J4 rfl he rfl (by decide) rfl kw_1488 dJ5_ensureCapacityInternal_d00df_19 ?_
    refine T.aload_n (pc := 22) hG dJ5_ensureCapacityInternal_d00df_22 rfl 1 rfl ?_
    refine T.iload_n (pc := 23) hG dJ5_ensureCapacityInternal_d00df_23 rfl 2 rfl ?_
    refine T.callVi (pc := 24) (C := "java/lang/StringBuilder") (As := [.int (sJ m)]) (stk := [.ref (tA Δ v), .ref (tA Δ k)]) hG (tm_newCap l Δ he hb (m := m) (by omega)) mY_J5_newCapacity_0f7a4 kw_1518 kw_1520 (hD.sel rfl (by simp [tdL]) kw_1520) (RV.sb he) ⟨Nat.le_of_ble_eq_true rfl, Nat.le_of_ble_eq_true rfl, Nat.le_of_ble_eq_true rfl, Nat.le_of_ble_eq_true rfl⟩ rfl (Nat.le_of_ble_eq_true rfl) dJ5_ensureCapacityInternal_d00df_24 rfl (fun x1 e2 _ hq => ?_)
    rw [hq.1, hq.2]
    refine T.aload_n (pc := 27) hG dJ5_ensureCapacityInternal_d00df_27 rfl 1 rfl ?_
    refine T.get (pc := 28) (ci := 14) (k := k) (fk := 1) (v := .int (sJ 0)) hG hin_J4 rfl he rfl (by decide) rfl kw_1489 dJ5_ensureCapacityInternal_d00df_28 ?_
    refine T.ishlz (pc := 31) hG dJ5_ensureCapacityInternal_d00df_31 (sR_b (by omega)) ?_
    refine T.callSr (pc := 32) (As := [.ref (tA Δ v), .int (sJ 34)]) (stk := [.ref (tA Δ k)]) hG (tm_copyOf l Δ hb hA) mY_J7_copyOf_9075b kw_1531 kw_1532 ⟨Nat.le_of_ble_eq_true rfl, Nat.le_of_ble_eq_true rfl, Nat.le_of_ble_eq_true rfl, Nat.le_of_ble_eq_true rfl⟩ rfl (Nat.le_of_ble_eq_true rfl) dJ5_ensureCapacityInternal_d00df_32 rfl (fun b3 e4 hq => ?_)
    obtain ⟨hb9, f5, h6, ab7, hf8, o9, n10⟩ := hq
    rw [hb9]
    have g12 := tlt he
    have h11 := (o9 _ g12).trans he
    have g14 := tlt hb
    have h13 := (o9 _ g14).trans hb
    have p15 : ∀ j, j < k → e4[j]? = es[j]? := fun j hj => (o9 j (by omega)).trans ((fun _ _ => rfl) j hj)
    refine T.put (pc := 35) (ci := 14) (k := k) (fk := 0) (e2 := tsb (some es.length) n) hG hin_J4 rfl h11 rfl rfl (by decide) (by show _ < 4; decide) kw_1488 tyJ4 tyJ4_ok nmJ4 rfl (ty := tyJ4 0) (tyJ4_ok 0 (by decide)) rfl rfl dJ5_ensureCapacityInternal_d00df_35 (fun e16 h17 o18 n19 => ?_)
    have h20 := (o18 v (by omega)).trans h13
    have h21 := (o18 es.length (by omega)).trans h6
    have p22 : ∀ j, j < k → e16[j]? = es[j]? := fun j hj => (o18 j (by omega)).trans (p15 j hj)
    exact fin dJ5_ensureCapacityInternal_d00df_38 (Nat.le_of_ble_eq_true rfl) (Nat.le_of_ble_eq_true rfl) ⟨_, 34, f5, h17, h21, by omega, Or.inr rfl, by omega, ab7, fun j hj => hf8 j (by omega), by omega, fun j h1 h2 => (o18 j h1).trans (o9 j h2), by omega⟩
set_option maxRecDepth 100000 in
set_option maxHeartbeats 4000000 in
theorem tm_infl (l : Launch) (Δ : Wd) {es : List TE} {k : Nat} {w : Option Nat} {n0 : Int} (he : es[k]? = some (tsb w n0)) {x v n : Nat} {f : Nat → Int} (hx : ST Δ es x v n f) : Met l yJ5_inflateIfNeededFor_a7421 (Cond.code yJ5_inflateIfNeededFor_a7421 cJ5_inflateIfNeededFor_a7421 2 none :: gW) (sRx 3 150 0 0) (tPc Δ [.ref (tA Δ k), .ref x] es) (tQv Δ (fun e => e = es)) 0 0 (sFr Δ) := by
  refine Tm.v (by decide) (Nat.le_of_ble_eq_true rfl) (fun Γ Q hG hini fin => ?_)
  have hG : okG Γ Δ l (sRx 3 150 0 0) cJ5_inflateIfNeededFor_a7421 "java/lang/AbstractStringBuilder" 2 := hG
  show T Γ Δ es 0 0 Q 0 [(0, .ref (tA Δ k)), (1, .ref x)] []
  refine T.scs (pc := 0) hG kw_1480 dJ5_inflateIfNeededFor_a7421_0 ?_
  refine T.if_eq (pc := 3) (tgt := 21) hG (sR_b (by omega)) dJ5_inflateIfNeededFor_a7421_3 (by decide) (fun q => absurd q (by omega)) (fun _ => ?_)
  refine T.aload_n (pc := 6) hG dJ5_inflateIfNeededFor_a7421_6 rfl 0 rfl ?_
  refine T.get (pc := 7) (ci := 14) (k := k) (fk := 1) (v := .int (sJ 0)) hG hin_J4 rfl he rfl (by decide) rfl kw_1489 dJ5_inflateIfNeededFor_a7421_7 ?_
  refine T.aload_n (pc := 10) hG dJ5_inflateIfNeededFor_a7421_10 rfl 1 rfl ?_
  refine T.callVi (pc := 11) (C := "java/lang/String") (As := []) (stk := [.int (sJ 0)]) hG (tm_coder l Δ hx) mY_J0_coder_7d493 kw_1562 kw_1033 (tWd.of kw_1034) (RV.st hx) ⟨Nat.le_of_ble_eq_true rfl, Nat.le_of_ble_eq_true rfl, Nat.le_of_ble_eq_true rfl, Nat.le_of_ble_eq_true rfl⟩ rfl (Nat.le_of_ble_eq_true rfl) dJ5_inflateIfNeededFor_a7421_11 rfl (fun x1 e2 _ hq => ?_)
  rw [hq.1, hq.2]
  refine T.icmp_eq (pc := 14) (tgt := 21) hG (sR_b (by omega)) (sR_b (by omega)) dJ5_inflateIfNeededFor_a7421_14 (by decide) (fun _ => ?_) (fun q => absurd q (by omega))
  exact fin dJ5_inflateIfNeededFor_a7421_21 (Nat.le_of_ble_eq_true rfl) (Nat.le_of_ble_eq_true rfl) rfl
set_option maxRecDepth 100000 in
set_option maxHeartbeats 4000000 in
theorem tm_gb (l : Launch) (Δ : Wd) {es : List TE} {x v n : Nat} {f : Nat → Int} (hx : ST Δ es x v n f) {d L : Nat} {g : Nat → Int} (hd : es[d]? = some (tba L g)) {p : Int} (hp : 0 ≤ p ∧ p + (n : Int) ≤ (L : Int)) (hL : L < 1000) (hf : ∀ j : Nat, j < n → 0 ≤ f j ∧ f j < 128) : Met l yJ0_getBytes_840e7 (Cond.code yJ0_getBytes_840e7 cJ0_getBytes_840e7 4 none :: gW) (sRx 3 150 0 0) (tPc Δ [.ref x, .ref (tA Δ d), .int (sJ p), .int (sJ 0)] es) (tQv Δ (fun e => e[d]? = some (tba L (fun j => if p.toNat ≤ j ∧ j < p.toNat + (n : Int).toNat then f (j - p.toNat) else g j)) ∧ (∀ j, j ≠ d → e[j]? = es[j]?) ∧ e.length = es.length)) 0 0 (sFr Δ) := by
  refine Tm.v (by decide) (Nat.le_of_ble_eq_true rfl) (fun Γ Q hG hini fin => ?_)
  have hG : okG Γ Δ l (sRx 3 150 0 0) cJ0_getBytes_840e7 "java/lang/String" 4 := hG
  show T Γ Δ es 0 0 Q 0 [(0, .ref x), (1, .ref (tA Δ d)), (2, .int (sJ p)), (3, .int (sJ 0))] []
  refine T.aload_n (pc := 0) hG dJ0_getBytes_840e7_0 rfl 0 rfl ?_
  refine T.callVi (pc := 1) (C := "java/lang/String") (As := []) (stk := []) hG (tm_coder l Δ hx) mY_J0_coder_7d493 kw_1032 kw_1033 (tWd.of kw_1034) (RV.st hx) ⟨Nat.le_of_ble_eq_true rfl, Nat.le_of_ble_eq_true rfl, Nat.le_of_ble_eq_true rfl, Nat.le_of_ble_eq_true rfl⟩ rfl (Nat.le_of_ble_eq_true rfl) dJ0_getBytes_840e7_1 rfl (fun x1 e2 _ hq => ?_)
  rw [hq.1, hq.2]
  refine T.iload_n (pc := 4) hG dJ0_getBytes_840e7_4 rfl 3 rfl ?_
  refine T.icmp_ne (pc := 5) (tgt := 28) hG (sR_b (by omega)) (sR_b (by omega)) dJ0_getBytes_840e7_5 (by decide) (fun q => absurd q (by omega)) (fun _ => ?_)
  refine T.aload_n (pc := 8) hG dJ0_getBytes_840e7_8 rfl 0 rfl ?_
  refine T.sval (pc := 9) hG hx kw_1455 dJ0_getBytes_840e7_9 ?_
  refine T.iconst (pc := 12) hG dJ0_getBytes_840e7_12 ?_
  refine T.aload_n (pc := 13) hG dJ0_getBytes_840e7_13 rfl 1 rfl ?_
  refine T.iload_n (pc := 14) hG dJ0_getBytes_840e7_14 rfl 2 rfl ?_
  refine T.iload_n (pc := 15) hG dJ0_getBytes_840e7_15 rfl 3 rfl ?_
  refine T.ishlz (pc := 16) hG dJ0_getBytes_840e7_16 (sR_b (by omega)) ?_
  refine T.aload_n (pc := 17) hG dJ0_getBytes_840e7_17 rfl 0 rfl ?_
  refine T.sval (pc := 18) hG hx kw_1455 dJ0_getBytes_840e7_18 ?_
  refine T.blen (pc := 21) hG (ST.bt hx) dJ0_getBytes_840e7_21 ?_
  refine T.copy (pc := 22) (f := f) hG (ST.bt hx) hd (by omega) ⟨by omega, by omega⟩ ⟨by omega, by omega⟩ (fun j hj => hf j (by omega)) kw_1586 kw_1544 kw_1543 kw_133 ⟨Nat.le_of_ble_eq_true rfl, by decide⟩ dJ0_getBytes_840e7_22 (fun e3 h4 o5 n6 => ?_)
  refine T.goto (pc := 25) (tgt := 43) hG dJ0_getBytes_840e7_25 (by decide) ?_
  exact fin dJ0_getBytes_840e7_43 (Nat.le_of_ble_eq_true rfl) (Nat.le_of_ble_eq_true rfl) ⟨h4, o5, by omega⟩
set_option maxRecDepth 100000 in
set_option maxHeartbeats 4000000 in
theorem tm_psa (l : Launch) (Δ : Wd) {es : List TE} (hD : TD Δ) {k : Nat} {n0 : Int} {d : Nat} (he : es[k]? = some (tsb (some d) n0)) {x v n : Nat} {f : Nat → Int} (hx : ST Δ es x v n f) {L : Nat} {g : Nat → Int} (hd : es[d]? = some (tba L g)) {p : Int} (hp : 0 ≤ p ∧ p + (n : Int) ≤ (L : Int)) (hL : L < 1000) (hf : ∀ j : Nat, j < n → 0 ≤ f j ∧ f j < 128) : Met l yJ5_putStringAt_47b60 (Cond.code yJ5_putStringAt_47b60 cJ5_putStringAt_47b60 3 none :: gW) (sRx 4 200 0 0) (tPc Δ [.ref (tA Δ k), .int (sJ p), .ref x] es) (tQv Δ (fun e => e[d]? = some (tba L (fun j => if p.toNat ≤ j ∧ j < p.toNat + (n : Int).toNat then f (j - p.toNat) else g j)) ∧ (∀ j, j ≠ d → e[j]? = es[j]?) ∧ e.length = es.length)) 0 0 (sFr Δ) := by
  refine Tm.v (by decide) (Nat.le_of_ble_eq_true rfl) (fun Γ Q hG hini fin => ?_)
  have hG : okG Γ Δ l (sRx 4 200 0 0) cJ5_putStringAt_47b60 "java/lang/AbstractStringBuilder" 3 := hG
  have hkd : k ≠ d := fun z => by rw [z, hd] at he; cases he
  show T Γ Δ es 0 0 Q 0 [(0, .ref (tA Δ k)), (1, .int (sJ p)), (2, .ref x)] []
  refine T.aload_n (pc := 0) hG dJ5_putStringAt_47b60_0 rfl 0 rfl ?_
  refine T.aload_n (pc := 1) hG dJ5_putStringAt_47b60_1 rfl 2 rfl ?_
  refine T.callVv (pc := 2) (C := "java/lang/StringBuilder") (As := [.ref x]) (stk := []) hG (tm_infl l Δ he hx) mY_J5_inflateIfNeededFor_a7421 kw_1558 kw_1560 (hD.sel rfl (by simp [tdL]) kw_1560) (RV.sb he) ⟨Nat.le_of_ble_eq_true rfl, Nat.le_of_ble_eq_true rfl, Nat.le_of_ble_eq_true rfl, Nat.le_of_ble_eq_true rfl⟩ rfl (Nat.le_of_ble_eq_true rfl) dJ5_putStringAt_47b60_2 rfl (fun e1 hq => ?_)
  rw [hq]
  refine T.aload_n (pc := 5) hG dJ5_putStringAt_47b60_5 rfl 2 rfl ?_
  refine T.aload_n (pc := 6) hG dJ5_putStringAt_47b60_6 rfl 0 rfl ?_
  refine T.get (pc := 7) (ci := 14) (k := k) (fk := 0) (v := .ref (tA Δ d)) hG hin_J4 rfl he rfl (by decide) rfl kw_1488 dJ5_putStringAt_47b60_7 ?_
  refine T.iload_n (pc := 10) hG dJ5_putStringAt_47b60_10 rfl 1 rfl ?_
  refine T.aload_n (pc := 11) hG dJ5_putStringAt_47b60_11 rfl 0 rfl ?_
  refine T.get (pc := 12) (ci := 14) (k := k) (fk := 1) (v := .int (sJ 0)) hG hin_J4 rfl he rfl (by decide) rfl kw_1489 dJ5_putStringAt_47b60_12 ?_
  refine T.callVv (pc := 15) (C := "java/lang/String") (As := [.ref (tA Δ d), .int (sJ p), .int (sJ 0)]) (stk := []) hG (tm_gb l Δ hx hd (p := p) (by omega) (by omega) hf) mY_J0_getBytes_840e7 kw_1582 kw_1583 (tWd.of kw_1584) (RV.st hx) ⟨Nat.le_of_ble_eq_true rfl, Nat.le_of_ble_eq_true rfl, Nat.le_of_ble_eq_true rfl, Nat.le_of_ble_eq_true rfl⟩ rfl (Nat.le_of_ble_eq_true rfl) dJ5_putStringAt_47b60_15 rfl (fun e2 hq => ?_)
  obtain ⟨h3, o4, n5⟩ := hq
  have h6 := (o4 k (by omega)).trans he
  exact fin dJ5_putStringAt_47b60_18 (Nat.le_of_ble_eq_true rfl) (Nat.le_of_ble_eq_true rfl) ⟨h3, o4, by omega⟩
set_option maxRecDepth 100000 in
set_option maxHeartbeats 4000000 in
theorem tm_appS (l : Launch) (Δ : Wd) {es : List TE} (hD : TD Δ) {k x : Nat} {t u : List Int} {H lo hi : Nat} (hs : SBT es k t H) (hx : TX Δ es x u lo hi) (hu : asc u) (hl : t.length + u.length ≤ 34) (hne : hi ≤ k ∨ H ≤ lo) : Met l yJ5_append_cf1ce (Cond.code yJ5_append_cf1ce cJ5_append_cf1ce 3 (some (.object "java/lang/AbstractStringBuilder")) :: gW) (sRx 5 250 1 34) (tPc Δ [.ref (tA Δ k), .ref x] es) (tQr Δ (fun a e => a = tA Δ k ∧ SBT e k (t ++ u) e.length ∧ (∀ j, j < k → e[j]? = es[j]?) ∧ es.length ≤ e.length)) 1 34 (sFr Δ) := by
  refine Tm.r (rt := (.object "java/lang/AbstractStringBuilder")) (by decide) rfl (Or.inl ⟨_, rfl⟩) (Nat.le_of_ble_eq_true rfl) (fun Γ Q hG fin => ?_)
  have hG : okG Γ Δ l (sRx 5 250 1 34) cJ5_append_cf1ce "java/lang/AbstractStringBuilder" 3 := hG
  obtain ⟨v, L, f, he, hb, hkv, -, htl, hL, hA, hft⟩ := hs
  have hlv := tlt hb
  have hla : (t ++ u).length = t.length + u.length := List.length_append
  obtain ⟨w1, g1, hX1, hg1⟩ := hx.st
  show T Γ Δ es 0 0 Q 0 [(0, .ref (tA Δ k)), (1, .ref x)] []
  refine T.aload_n (pc := 0) hG dJ5_append_cf1ce_0 rfl 1 rfl ?_
  refine T.ifnonnull (pc := 1) (tgt := 9) hG dJ5_append_cf1ce_1 (by decide) ?_
  refine T.aload_n (pc := 9) hG dJ5_append_cf1ce_9 rfl 1 rfl ?_
  refine T.callVi (pc := 10) (C := "java/lang/String") (As := []) (stk := []) hG (tm_slen l Δ hX1 (by omega)) mY_J0_length_8abf5 kw_1553 kw_1029 (tWd.of kw_1030) (RV.st hX1) ⟨Nat.le_of_ble_eq_true rfl, Nat.le_of_ble_eq_true rfl, Nat.le_of_ble_eq_true rfl, Nat.le_of_ble_eq_true rfl⟩ rfl (Nat.le_of_ble_eq_true rfl) dJ5_append_cf1ce_10 rfl (fun x1 e2 _ hq => ?_)
  rw [hq.1, hq.2]
  refine T.istore_n (pc := 13) (lv' := [(2, .int (sJ (u.length : Int))), (0, .ref (tA Δ k)), (1, .ref x)]) hG dJ5_append_cf1ce_13 rfl (by decide) rfl ?_
  refine T.aload_n (pc := 14) hG dJ5_append_cf1ce_14 rfl 1 rfl ?_
  refine T.aload_n (pc := 15) hG dJ5_append_cf1ce_15 rfl 1 rfl ?_
  refine T.get (pc := 16) (ci := 14) (k := k) (fk := 3) (v := .int (sJ (t.length : Int))) hG hin_J4 rfl he rfl (by decide) rfl kw_1491 dJ5_append_cf1ce_16 ?_
  refine T.iload_n (pc := 19) hG dJ5_append_cf1ce_19 rfl 0 rfl ?_
  refine T.iaddz (pc := 20) ((t.length : Int) + (u.length : Int)) hG dJ5_append_cf1ce_20 (by omega) (sR_b (by omega)) ?_
  refine T.callVv (pc := 21) (C := "java/lang/StringBuilder") (As := [.int (sJ ((t.length : Int) + (u.length : Int)))]) (stk := []) hG (tm_ens l Δ hD he hb hkv hL hA (m := (t.length : Int) + (u.length : Int)) (by omega)) mY_J5_ensureCapacityInternal_d00df kw_1514 kw_1516 (hD.sel rfl (by simp [tdL]) kw_1516) (RV.sb he) ⟨Nat.le_of_ble_eq_true rfl, Nat.le_of_ble_eq_true rfl, Nat.le_of_ble_eq_true rfl, Nat.le_of_ble_eq_true rfl⟩ rfl (Nat.le_of_ble_eq_true rfl) dJ5_append_cf1ce_21 rfl (fun e3 hq => ?_)
  obtain ⟨v4, L5, f6, h7, h8, kv9, hL10, hm11, ab12, hf13, hLL14, o15, n16⟩ := hq
  have p17 : ∀ j, j < k → e3[j]? = es[j]? := fun j hj => (o15 j (by omega) (by omega)).trans ((fun _ _ => rfl) j hj)
  have hx2 := hx.keep he o15
  obtain ⟨w2, g2, hX2, hg2⟩ := hx2.st
  refine T.aload_n (pc := 24) hG dJ5_append_cf1ce_24 rfl 1 rfl ?_
  refine T.aload_n (pc := 25) hG dJ5_append_cf1ce_25 rfl 1 rfl ?_
  refine T.get (pc := 26) (ci := 14) (k := k) (fk := 3) (v := .int (sJ (t.length : Int))) hG hin_J4 rfl h7 rfl (by decide) rfl kw_1491 dJ5_append_cf1ce_26 ?_
  refine T.aload_n (pc := 29) hG dJ5_append_cf1ce_29 rfl 2 rfl ?_
  refine T.callVv (pc := 30) (C := "java/lang/StringBuilder") (As := [.int (sJ (t.length : Int)), .ref x]) (stk := []) hG (tm_psa l Δ hD h7 hX2 h8 (p := (t.length : Int)) (by omega) (by omega) (fun j hj => by rw [hg2 j hj]; exact hu _ (lstF_mem hj))) mY_J5_putStringAt_47b60 kw_1554 kw_1556 (hD.sel rfl (by simp [tdL]) kw_1556) (RV.sb h7) ⟨Nat.le_of_ble_eq_true rfl, Nat.le_of_ble_eq_true rfl, Nat.le_of_ble_eq_true rfl, Nat.le_of_ble_eq_true rfl⟩ rfl (Nat.le_of_ble_eq_true rfl) dJ5_append_cf1ce_30 rfl (fun e18 hq => ?_)
  obtain ⟨h19, o20, n21⟩ := hq
  have h22 := (o20 k (by omega)).trans h7
  have p23 : ∀ j, j < k → e18[j]? = es[j]? := fun j hj => (o20 j (by omega)).trans (p17 j hj)
  refine T.aload_n (pc := 33) hG dJ5_append_cf1ce_33 rfl 1 rfl ?_
  refine T.dup (pc := 34) hG dJ5_append_cf1ce_34 rfl ?_
  refine T.get (pc := 35) (ci := 14) (k := k) (fk := 3) (v := .int (sJ (t.length : Int))) hG hin_J4 rfl h22 rfl (by decide) rfl kw_1491 dJ5_append_cf1ce_35 ?_
  refine T.iload_n (pc := 38) hG dJ5_append_cf1ce_38 rfl 0 rfl ?_
  refine T.iaddz (pc := 39) (((t ++ u).length : Int)) hG dJ5_append_cf1ce_39 (by omega) (sR_b (by omega)) ?_
  refine T.put (pc := 40) (ci := 14) (k := k) (fk := 3) (e2 := tsb (some v4) ((t ++ u).length : Int)) hG hin_J4 rfl h22 rfl rfl (by decide) (by show _ < 4; decide) kw_1491 tyJ4 tyJ4_ok nmJ4 rfl (ty := tyJ4 3) (tyJ4_ok 3 (by decide)) rfl rfl dJ5_append_cf1ce_40 (fun e24 h25 o26 n27 => ?_)
  have h28 := (o26 v4 (by omega)).trans h19
  have p29 : ∀ j, j < k → e24[j]? = es[j]? := fun j hj => (o26 j (by omega)).trans (p23 j hj)
  refine T.aload_n (pc := 43) hG dJ5_append_cf1ce_43 rfl 1 rfl ?_
  have hfin := SBT.app (t := t) (u := u) (f := f) h25 h28 kv9 hL10 (by rw [List.length_append]; omega) hft (fun j hj => (if_neg (by omega)).trans (hf13 j (by omega))) (fun j hj => (if_pos (by omega)).trans (by rw [show t.length + j - (t.length : Int).toNat = j by omega]; exact hg2 j hj)) (AB.ite (fun j hj => by rw [hg2 _ (by omega)]; exact hu _ (lstF_mem (by omega))) ab12)
  exact fin dJ5_append_cf1ce_44 (Nat.le_of_ble_eq_true rfl) (Nat.le_of_ble_eq_true rfl) ⟨rfl, hfin, p29, by omega⟩
