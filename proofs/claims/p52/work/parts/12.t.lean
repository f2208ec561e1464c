/-! ===== the texts: cells that are made, one after another, at the heap's end ===== -/
abbrev TE : Type := (Option Nat × Int) ⊕ (Option Nat ⊕ (Nat × (Nat → Int)))
abbrev tsb (v : Option Nat) (n : Int) : TE := .inl (v, n)
abbrev tst (v : Option Nat) : TE := .inr (.inl v)
abbrev tba (L : Nat) (f : Nat → Int) : TE := .inr (.inr (L, f))
def tA (Δ : Wd) (j : Nat) : Nat := Δ.2.2.2.1 + j
def tR (Δ : Wd) (v : Option Nat) : Value := match v with
  | none => .null
  | some j => .ref (tA Δ j)
def tEnt (Δ : Wd) (e : TE) : va_E := match e with
  | .inl q => .inr (14, [tR Δ q.1, .int 0, .int 0, .int (sJ q.2)])
  | .inr (.inl v) => .inr (0, [tR Δ v, .int 0, .int 0, .int 0])
  | .inr (.inr q) => .inl (Δ.2.2.1 8, q.1, .inl (fun j => sJ (q.2 j)))
def tW (Δ : Wd) (es : List TE) : va_W := es.mapIdx (fun k e => (tA Δ k, tEnt Δ e))
theorem tW_at {Δ : Wd} {es : List TE} {k : Nat} {e : TE} (h : es[k]? = some e) : (tW Δ es)[k]? = some (tA Δ k, tEnt Δ e) := by
  unfold tW
  rw [List.getElem?_mapIdx, h]
  rfl
theorem tW_key {Δ : Wd} {es : List TE} {k : Nat} {q : Nat × va_E} (h : (tW Δ es)[k]? = some q) : q.1 = tA Δ k ∧ ∃ e, es[k]? = some e ∧ q = (tA Δ k, tEnt Δ e) := by
  unfold tW at h
  rw [List.getElem?_mapIdx] at h
  cases he : es[k]? with
  | none => rw [he] at h; cases h
  | some e =>
    rw [he] at h
    have h2 : (tA Δ k, tEnt Δ e) = q := Option.some.inj h
    exact ⟨by rw [← h2], e, rfl, h2.symm⟩
theorem tW_set {Δ : Wd} {es : List TE} {k : Nat} {e : TE} : (tW Δ es).set k (tA Δ k, tEnt Δ e) = tW Δ (es.set k e) := by
  apply List.ext_getElem?
  intro j
  unfold tW
  rw [List.getElem?_mapIdx, List.getElem?_set, List.getElem?_set, List.length_mapIdx, List.getElem?_mapIdx]
  by_cases hj : k = j
  · subst hj
    by_cases hl : k < es.length
    · simp [hl]
    · simp [hl]
  · simp [hj]
theorem tW_push {Δ : Wd} {es : List TE} {e : TE} : tW Δ (es ++ [e]) = tW Δ es ++ [(tA Δ es.length, tEnt Δ e)] := by
  unfold tW
  rw [List.mapIdx_append]
  simp
theorem tlt {es : List TE} {k : Nat} {e : TE} (h : es[k]? = some e) : k < es.length := (List.getElem?_eq_some_iff.mp h).1
/-- the cells from the base on are these; the rest of the heap is as it was -/
def sT (Δ : Wd) (es : List TE) (H : Heap) : Prop := va_P (sG Δ) vwCl (tW Δ es) H ∧ H.size = Δ.2.2.2.1 + es.length ∧ (∀ q : Nat, Δ.2.2.2.1 ≤ q → sFr Δ q) ∧ sE Δ H
theorem sT.D {Δ : Wd} {es : List TE} {H : Heap} (h : sT Δ es H) : va_D (sFr Δ) (tW Δ es) := by
  refine ⟨fun a c p q hp hq e => ?_, fun k q hq => ?_⟩
  · have h1 := (tW_key hp).1
    have h2 := (tW_key hq).1
    unfold tA at h1 h2
    omega
  · rw [(tW_key hq).1]
    exact h.2.2.1 _ (Nat.le_add_right _ _)
theorem sT.push {Δ : Wd} {U : State} {es : List TE} {e : TE} {H H1 : Heap} (hK : KK Δ U) (hP : sT Δ es H) (o1 : ∀ q : Nat, q < H.size → H1[q]? = H[q]?) (z1 : H1.size = H.size + 1) (hat : va_at (sG Δ) vwCl (H.size, tEnt Δ e) H1) : sT Δ (es ++ [e]) H1 := by
  refine ⟨?_, by rw [z1, hP.2.1, List.length_append]; rfl, hP.2.2.1, sE_old hK hP.2.2.2 o1⟩
  rw [tW_push]
  refine va_P.app (hP.1.kept (fun k x hx => o1 x.1 ((hP.1 k x hx).lt))) (fun k x hx => ?_)
  have hk : k < 1 := (List.getElem?_eq_some_iff.mp hx).1
  rw [show k = 0 by omega] at hx
  cases hx
  show va_at (sG Δ) vwCl (tA Δ es.length, tEnt Δ e) H1
  unfold tA
  rw [← hP.2.1]
  exact hat
theorem sT.put {Δ : Wd} {U : State} {es : List TE} {k : Nat} {e : TE} {H H1 : Heap} (hK : KK Δ U) (hP : sT Δ es H) (h1 : va_P (sG Δ) vwCl ((tW Δ es).set k (tA Δ k, tEnt Δ e)) H1) (z1 : H1.size = H.size) (oq : ∀ q : Nat, q ≠ tA Δ k → H1[q]? = H[q]?) : sT Δ (es.set k e) H1 := by
  refine ⟨by rw [← tW_set]; exact h1, by rw [z1, hP.2.1, List.length_set], hP.2.2.1, sE_put hK hP.2.2.2 (hP.2.2.1 (tA Δ k) (Nat.le_add_right _ _)) oq⟩
def T (Γ : Cx) (Δ : Wd) (es : List TE) (kc sl : Nat) (Q : State → Prop) (pc : Nat) (lv : List (Nat × Value)) (stk : List Value) : Prop := match Γ with
  | (p, l, e, R, s, m, args, below, meth, c, nL) => ∀ (H : Heap) (locs : List Loc) (ls : Array Slot), sT Δ es H → va_S (sFr Δ) s.heap H locs → lv_has ls nL lv → W p l e R s m args below meth c H locs kc sl Q (F0 m pc ls stk)
/-- a text that can be read: the String at x, its bytes at v -/
def ST (Δ : Wd) (es : List TE) (x v n : Nat) (f : Nat → Int) : Prop := ∀ (U : State) (H : Heap), KK Δ U → (∀ q : Nat, q < U.heap.size → ¬ sFr Δ q → H[q]? = U.heap[q]?) → sT Δ es H → va_O "java/lang/String" x (fun _ => False) U H ∧ va_OF "java/lang/String" "coder" "B" (.int 0) x (fun _ => False) U H ∧ va_OF "java/lang/String" "value" "[B" (.ref v) x (fun _ => False) U H ∧ va_T .byte v n (fun j : Nat => .int (sJ (f j))) (fun _ => False) U H
/-- bytes that can be read -/
def BT (Δ : Wd) (es : List TE) (v n : Nat) (f : Nat → Int) : Prop := ∀ (U : State) (H : Heap), KK Δ U → (∀ q : Nat, q < U.heap.size → ¬ sFr Δ q → H[q]? = U.heap[q]?) → sT Δ es H → va_T .byte v n (fun j : Nat => .int (sJ (f j))) (fun _ => False) U H
theorem ST.bt {Δ : Wd} {es : List TE} {x v n : Nat} {f : Nat → Int} (h : ST Δ es x v n f) : BT Δ es v n f := fun U H a b c => (h U H a b c).2.2.2
theorem ST.const {Δ : Wd} {es : List TE} {k : Nat} (hk : k < 13) : ST Δ es (aK Δ k) (aV Δ k) (lenS k) (fun j => bS k j) := by
  intro U H hK hq hT
  obtain ⟨h1, h2, h3, h4⟩ := hK.2.1.1 k hk
  refine ⟨(h1.kept hq).narrow (fun _ z => z.elim), (h2.kept hq).narrow (fun _ z => z.elim), (h3.kept hq).narrow (fun _ z => z.elim), ?_⟩
  have h5 := (h4.kept hq).narrow (B := fun _ => False) (fun _ z => z.elim)
  refine (show (fun j : Nat => Value.int ((bytST.getD k []).getD j 0)) = (fun j : Nat => Value.int (sJ (bS k j))) from funext fun j => ?_) ▸ h5
  unfold bS
  rw [sJ_of]
  rfl
theorem BT.ba {Δ : Wd} {es : List TE} {k L : Nat} {f : Nat → Int} (he : es[k]? = some (tba L f)) : BT Δ es (tA Δ k) L f := by
  intro U H hK hq hT
  have h1 : H[tA Δ k]? = some (arrV (Δ.2.2.1 8) L (fun j => .int (sJ (f j)))) := hT.1 k _ (tW_at he)
  exact ⟨_, h1, (hK.1.2 8 _ rfl).1 L _, fun q => (by cases q), Nat.le_of_eq (arrV_size _ _ _).symm, by rw [arrV_size], fun j hj => arrV_read _ _ hj, id⟩
theorem tOF {Δ : Wd} {U : State} {es : List TE} {H : Heap} {k fk : Nat} {v : Option Nat} {n d : String} {w : Value} (hK : KK Δ U) (hT : sT Δ es H) (he : es[k]? = some (tst v)) (hfk : fk < 4) (hn : (TJ0 fk).1 = "java/lang/String" ∧ (TJ0 fk).2.1 = n ∧ (TJ0 fk).2.2.1 = d) (hv : [tR Δ v, .int 0, .int 0, .int 0][fk]? = some w) (hst : ∀ (cf : ClassId) (k : Class) (i : Nat) (f : Field), U.fieldFound? "java/lang/String" n d = some (cf, k, i, f) → f.isStatic = false) : va_OF "java/lang/String" n d w (tA Δ k) (fun _ => False) U H := by
  obtain ⟨r, h1, cell, q1, q2, q3, q4⟩ := hT.1 k _ (tW_at he)
  have hr : r = (RJ0, TJ0, 4) := Option.some.inj (h1.symm.trans rfl)
  subst hr
  obtain ⟨hS, hfc, kC, hkC, hkind⟩ := hK.1.1 0 _ rfl
  obtain ⟨cf, kf, fi, f, hi, hsl⟩ := hS fk hfk
  have hi : U.fieldFound? (TJ0 fk).1 (TJ0 fk).2.1 (TJ0 fk).2.2.1 = some (cf, kf, fi, f) := hi
  rw [hn.1, hn.2.1, hn.2.2] at hi
  refine ⟨cf, kf, fi, f, cell, hi, hst _ _ _ _ hi, q1, (by rw [q3]; exact fun h => by cases h), ?_, id⟩
  rw [hsl, q4 fk hfk]
  exact (congrArg some (show vp_V [tR Δ v, .int 0, .int 0, .int 0] fk = w by unfold vp_V; rw [List.getD_eq_getElem?_getD, hv]; rfl))
theorem ST.st {Δ : Wd} {es : List TE} {k j L : Nat} {f : Nat → Int} (he : es[k]? = some (tst (some j))) (hb : es[j]? = some (tba L f)) : ST Δ es (tA Δ k) (tA Δ j) L f := by
  intro U H hK hq hT
  obtain ⟨-, c1, c2, -⟩ := hK.2.1.1 0 (by decide)
  obtain ⟨cf1, k1, i1, f1, cell1, e1, s1, -⟩ := c1
  obtain ⟨cf2, k2, i2, f2, cell2, e2, s2, -⟩ := c2
  refine ⟨?_, tOF (fk := 1) hK hT he (by decide) ⟨rfl, rfl, rfl⟩ rfl (fun _ _ _ _ hi => by rw [e1] at hi; cases hi; exact s1), tOF (fk := 0) hK hT he (by decide) ⟨rfl, rfl, rfl⟩ rfl (fun _ _ _ _ hi => by rw [e2] at hi; cases hi; exact s2), BT.ba hb U H hK hq hT⟩
  obtain ⟨cell, h1, h2, h3⟩ := va_recv hK.1 hT.1 (show vwCl[0]? = some (RJ0, TJ0, 4) from rfl) (tW_at he)
  exact ⟨cell, h1, h2, h3, id⟩
section TROWS
variable {Γ : Cx} {Δ : Wd} {l : Launch} {R : Room} {es : List TE} {kc sl : Nat} {Q : State → Prop} {pc : Nat} {lv lv' : List (Nat × Value)} {stk : List Value} {cc : ByteArray} {own : String} {nL : Nat}
theorem T.eq {pc2 : Nat} (hp : pc = pc2) (kk : T Γ Δ es kc sl Q pc2 lv stk) : T Γ Δ es kc sl Q pc lv stk := hp ▸ kk
theorem T.pick (ks : List Nat) (hl : lv_pick lv ks = lv') (kk : T Γ Δ es kc sl Q pc lv' stk) : T Γ Δ es kc sl Q pc lv stk := by
  obtain ⟨p, l, e, R, s, m, args, below, meth, c, nL'⟩ := Γ
  intro H locs ls hP hS h
  exact kk H locs ls hP hS (lv_sub h ks hl)
theorem T.iconst {x : Int} (h : okG Γ Δ l R cc own nL) (hdg : decode cc pc = .ok (.iconst x, 1)) (kk : T Γ Δ es kc sl Q (pc + 1) lv (.int (sJ x) :: stk)) : T Γ Δ es kc sl Q (pc) lv stk := by
  obtain ⟨p, l', e, R', s, m, args, below, meth, c, nL'⟩ := Γ
  obtain ⟨hx, hb, hml, hown, hts, hKK, hlk, rfl, rfl, rfl⟩ := h
  intro H locs ls hP hS hl
  exact lv_iconst (v := sJ x) hx hb hdg rfl (kk H locs ls hP hS hl)
theorem T.bipush {x : Int} (h : okG Γ Δ l R cc own nL) (hdg : decode cc pc = .ok (.bipush x, 2)) (hv : (Int8.ofInt x).toInt32 = sJ x) (kk : T Γ Δ es kc sl Q (pc + 2) lv (.int (sJ x) :: stk)) : T Γ Δ es kc sl Q (pc) lv stk := by
  obtain ⟨p, l', e, R', s, m, args, below, meth, c, nL'⟩ := Γ
  obtain ⟨hx, hb, hml, hown, hts, hKK, hlk, rfl, rfl, rfl⟩ := h
  intro H locs ls hP hS hl
  exact lv_bipush hx hb hdg hv (kk H locs ls hP hS hl)
theorem T.sipush {x : Int} (h : okG Γ Δ l R cc own nL) (hdg : decode cc pc = .ok (.sipush x, 3)) (hv : (Int16.ofInt x).toInt32 = sJ x) (kk : T Γ Δ es kc sl Q (pc + 3) lv (.int (sJ x) :: stk)) : T Γ Δ es kc sl Q (pc) lv stk := by
  obtain ⟨p, l', e, R', s, m, args, below, meth, c, nL'⟩ := Γ
  obtain ⟨hx, hb, hml, hown, hts, hKK, hlk, rfl, rfl, rfl⟩ := h
  intro H locs ls hP hS hl
  exact lv_sipush hx hb hdg hv (kk H locs ls hP hS hl)
theorem T.ldc {x : Int} {ix : Nat} (h : okG Γ Δ l R cc own nL) (hc : Cond.constant own ix (sJ x) ∈ gW) (hdg : decode cc pc = .ok (.ldc ix, 2)) (kk : T Γ Δ es kc sl Q (pc + 2) lv (.int (sJ x) :: stk)) : T Γ Δ es kc sl Q (pc) lv stk := by
  obtain ⟨p, l', e, R', s, m, args, below, meth, c, nL'⟩ := Γ
  obtain ⟨hx, hb, hml, hown, hts, hKK, hlk, rfl, rfl, rfl⟩ := h
  intro H locs ls hP hS hl
  exact lv_ldc hx hb hown (hts _ hc) hdg (kk H locs ls hP hS hl)
theorem T.iload_n {j : Fin 4} {x : Int} {jn : Nat} (h : okG Γ Δ l R cc own nL) (hdg : decode cc pc = .ok (.iload_n j, 1)) (hj : (j : Nat) = jn) (k : Nat) (hk : lv[k]? = some (jn, .int (sJ x))) (kk : T Γ Δ es kc sl Q (pc + 1) lv (.int (sJ x) :: stk)) : T Γ Δ es kc sl Q (pc) lv stk := by
  obtain ⟨p, l', e, R', s, m, args, below, meth, c, nL'⟩ := Γ
  obtain ⟨hx, hb, hml, hown, hts, hKK, hlk, rfl, rfl, rfl⟩ := h
  intro H locs ls hP hS hl
  exact lv_iload_n hx hb hdg hj (lv_at hl k hk) (kk H locs ls hP hS hl)
theorem T.iload {j : Nat} {x : Int} (h : okG Γ Δ l R cc own nL) (hdg : decode cc pc = .ok (.iload j, 2)) (k : Nat) (hk : lv[k]? = some (j, .int (sJ x))) (kk : T Γ Δ es kc sl Q (pc + 2) lv (.int (sJ x) :: stk)) : T Γ Δ es kc sl Q (pc) lv stk := by
  obtain ⟨p, l', e, R', s, m, args, below, meth, c, nL'⟩ := Γ
  obtain ⟨hx, hb, hml, hown, hts, hKK, hlk, rfl, rfl, rfl⟩ := h
  intro H locs ls hP hS hl
  exact lv_iload hx hb hdg (lv_at hl k hk) (kk H locs ls hP hS hl)
theorem T.aload_n {j : Fin 4} {x : Nat} {jn : Nat} (h : okG Γ Δ l R cc own nL) (hdg : decode cc pc = .ok (.aload_n j, 1)) (hj : (j : Nat) = jn) (k : Nat) (hk : lv[k]? = some (jn, .ref x)) (kk : T Γ Δ es kc sl Q (pc + 1) lv (.ref x :: stk)) : T Γ Δ es kc sl Q (pc) lv stk := by
  obtain ⟨p, l', e, R', s, m, args, below, meth, c, nL'⟩ := Γ
  obtain ⟨hx, hb, hml, hown, hts, hKK, hlk, rfl, rfl, rfl⟩ := h
  intro H locs ls hP hS hl
  exact lv_aload_n hx hb hdg hj (lv_at hl k hk) (kk H locs ls hP hS hl)
theorem T.aload {j : Nat} {x : Nat} (h : okG Γ Δ l R cc own nL) (hdg : decode cc pc = .ok (.aload j, 2)) (k : Nat) (hk : lv[k]? = some (j, .ref x)) (kk : T Γ Δ es kc sl Q (pc + 2) lv (.ref x :: stk)) : T Γ Δ es kc sl Q (pc) lv stk := by
  obtain ⟨p, l', e, R', s, m, args, below, meth, c, nL'⟩ := Γ
  obtain ⟨hx, hb, hml, hown, hts, hKK, hlk, rfl, rfl, rfl⟩ := h
  intro H locs ls hP hS hl
  exact lv_aload hx hb hdg (lv_at hl k hk) (kk H locs ls hP hS hl)
theorem T.istore_n {j : Fin 4} {x : Int} {jn : Nat} (h : okG Γ Δ l R cc own nL) (hdg : decode cc pc = .ok (.istore_n j, 1)) (hj : (j : Nat) = jn) (hn : jn < nL) (hv : sPut jn (.int (sJ x)) lv = lv') (kk : T Γ Δ es kc sl Q (pc + 1) lv' stk) : T Γ Δ es kc sl Q (pc) lv (.int (sJ x) :: stk) := by
  obtain ⟨p, l', e, R', s, m, args, below, meth, c, nL'⟩ := Γ
  obtain ⟨hx, hb, hml, hown, hts, hKK, hlk, rfl, rfl, rfl⟩ := h
  intro H locs ls hP hS hl
  exact lv_istore_n hx hb hdg hj hl hn hv (fun ls hl => kk H locs ls hP hS hl)
theorem T.istore {j : Nat} {x : Int} (h : okG Γ Δ l R cc own nL) (hdg : decode cc pc = .ok (.istore j, 2)) (hn : j < nL) (hv : sPut j (.int (sJ x)) lv = lv') (kk : T Γ Δ es kc sl Q (pc + 2) lv' stk) : T Γ Δ es kc sl Q (pc) lv (.int (sJ x) :: stk) := by
  obtain ⟨p, l', e, R', s, m, args, below, meth, c, nL'⟩ := Γ
  obtain ⟨hx, hb, hml, hown, hts, hKK, hlk, rfl, rfl, rfl⟩ := h
  intro H locs ls hP hS hl
  exact lv_istore hx hb hdg hl hn hv (fun ls hl => kk H locs ls hP hS hl)
theorem T.astore_n {j : Fin 4} {x : Nat} {jn : Nat} (h : okG Γ Δ l R cc own nL) (hdg : decode cc pc = .ok (.astore_n j, 1)) (hj : (j : Nat) = jn) (hn : jn < nL) (hv : sPut jn (.ref x) lv = lv') (kk : T Γ Δ es kc sl Q (pc + 1) lv' stk) : T Γ Δ es kc sl Q (pc) lv (.ref x :: stk) := by
  obtain ⟨p, l', e, R', s, m, args, below, meth, c, nL'⟩ := Γ
  obtain ⟨hx, hb, hml, hown, hts, hKK, hlk, rfl, rfl, rfl⟩ := h
  intro H locs ls hP hS hl
  exact lv_astore_n hx hb hdg hj hl hn hv (fun ls hl => kk H locs ls hP hS hl)
theorem T.astore {j : Nat} {x : Nat} (h : okG Γ Δ l R cc own nL) (hdg : decode cc pc = .ok (.astore j, 2)) (hn : j < nL) (hv : sPut j (.ref x) lv = lv') (kk : T Γ Δ es kc sl Q (pc + 2) lv' stk) : T Γ Δ es kc sl Q (pc) lv (.ref x :: stk) := by
  obtain ⟨p, l', e, R', s, m, args, below, meth, c, nL'⟩ := Γ
  obtain ⟨hx, hb, hml, hown, hts, hKK, hlk, rfl, rfl, rfl⟩ := h
  intro H locs ls hP hS hl
  exact lv_astore hx hb hdg hl hn hv (fun ls hl => kk H locs ls hP hS hl)
theorem T.iinc {j : Nat} {a x : Int} (h : okG Γ Δ l R cc own nL) (hdg : decode cc pc = .ok (.iinc j a, 3)) (k : Nat) (hk : lv[k]? = some (j, .int (sJ x))) (hn : j < nL) (hv : sPut j (.int (sJ (wr (x + a)))) lv = lv') (kk : T Γ Δ es kc sl Q (pc + 3) lv' stk) : T Γ Δ es kc sl Q (pc) lv stk := by
  obtain ⟨p, l', e, R', s, m, args, below, meth, c, nL'⟩ := Γ
  obtain ⟨hx, hb, hml, hown, hts, hKK, hlk, rfl, rfl, rfl⟩ := h
  intro H locs ls hP hS hl
  exact lv_iinc hx hb hdg hl hk (sJ_add x a) hn hv (fun ls hl => kk H locs ls hP hS hl)
theorem T.iadd {x y : Int} (h : okG Γ Δ l R cc own nL) (hdg : decode cc pc = .ok (.iadd, 1)) (kk : T Γ Δ es kc sl Q (pc + 1) lv (.int (sJ (wr (x + y))) :: stk)) : T Γ Δ es kc sl Q (pc) lv (.int (sJ y) :: .int (sJ x) :: stk) := by
  obtain ⟨p, l', e, R', s, m, args, below, meth, c, nL'⟩ := Γ
  obtain ⟨hx, hb, hml, hown, hts, hKK, hlk, rfl, rfl, rfl⟩ := h
  intro H locs ls hP hS hl
  exact lv_iadd hx hb hdg (by rw [sJ_add x y]; exact kk H locs ls hP hS hl)
theorem T.isub {x y : Int} (h : okG Γ Δ l R cc own nL) (hdg : decode cc pc = .ok (.isub, 1)) (kk : T Γ Δ es kc sl Q (pc + 1) lv (.int (sJ (wr (x - y))) :: stk)) : T Γ Δ es kc sl Q (pc) lv (.int (sJ y) :: .int (sJ x) :: stk) := by
  obtain ⟨p, l', e, R', s, m, args, below, meth, c, nL'⟩ := Γ
  obtain ⟨hx, hb, hml, hown, hts, hKK, hlk, rfl, rfl, rfl⟩ := h
  intro H locs ls hP hS hl
  exact lv_isub hx hb hdg (by rw [sJ_sub x y]; exact kk H locs ls hP hS hl)
theorem T.imul {x y : Int} (h : okG Γ Δ l R cc own nL) (hdg : decode cc pc = .ok (.imul, 1)) (kk : T Γ Δ es kc sl Q (pc + 1) lv (.int (sJ (wr (x * y))) :: stk)) : T Γ Δ es kc sl Q (pc) lv (.int (sJ y) :: .int (sJ x) :: stk) := by
  obtain ⟨p, l', e, R', s, m, args, below, meth, c, nL'⟩ := Γ
  obtain ⟨hx, hb, hml, hown, hts, hKK, hlk, rfl, rfl, rfl⟩ := h
  intro H locs ls hP hS hl
  exact lv_imul hx hb hdg (by rw [sJ_mul x y]; exact kk H locs ls hP hS hl)
theorem T.iand {x y : Int} (h : okG Γ Δ l R cc own nL) (hdg : decode cc pc = .ok (.iand, 1)) (kk : T Γ Δ es kc sl Q (pc + 1) lv (.int (sJ (iAnd x y)) :: stk)) : T Γ Δ es kc sl Q (pc) lv (.int (sJ y) :: .int (sJ x) :: stk) := by
  obtain ⟨p, l', e, R', s, m, args, below, meth, c, nL'⟩ := Γ
  obtain ⟨hx, hb, hml, hown, hts, hKK, hlk, rfl, rfl, rfl⟩ := h
  intro H locs ls hP hS hl
  have kk := kk H locs ls hP hS hl
  unfold iAnd at kk
  rw [sJ_of] at kk
  exact lv_iand hx hb hdg kk
theorem T.ixor {x y : Int} (h : okG Γ Δ l R cc own nL) (hdg : decode cc pc = .ok (.ixor, 1)) (kk : T Γ Δ es kc sl Q (pc + 1) lv (.int (sJ (iXor x y)) :: stk)) : T Γ Δ es kc sl Q (pc) lv (.int (sJ y) :: .int (sJ x) :: stk) := by
  obtain ⟨p, l', e, R', s, m, args, below, meth, c, nL'⟩ := Γ
  obtain ⟨hx, hb, hml, hown, hts, hKK, hlk, rfl, rfl, rfl⟩ := h
  intro H locs ls hP hS hl
  have kk := kk H locs ls hP hS hl
  unfold iXor at kk
  rw [sJ_of] at kk
  exact lv_ixor hx hb hdg kk
theorem T.ishl {x y : Int} (h : okG Γ Δ l R cc own nL) (hdg : decode cc pc = .ok (.ishl, 1)) (kk : T Γ Δ es kc sl Q (pc + 1) lv (.int (sJ (iShl x y)) :: stk)) : T Γ Δ es kc sl Q (pc) lv (.int (sJ y) :: .int (sJ x) :: stk) := by
  obtain ⟨p, l', e, R', s, m, args, below, meth, c, nL'⟩ := Γ
  obtain ⟨hx, hb, hml, hown, hts, hKK, hlk, rfl, rfl, rfl⟩ := h
  intro H locs ls hP hS hl
  have kk := kk H locs ls hP hS hl
  unfold iShl at kk
  rw [sJ_of] at kk
  exact lv_ishl hx hb hdg kk
theorem T.ishr {x y : Int} (h : okG Γ Δ l R cc own nL) (hdg : decode cc pc = .ok (.ishr, 1)) (kk : T Γ Δ es kc sl Q (pc + 1) lv (.int (sJ (iShr x y)) :: stk)) : T Γ Δ es kc sl Q (pc) lv (.int (sJ y) :: .int (sJ x) :: stk) := by
  obtain ⟨p, l', e, R', s, m, args, below, meth, c, nL'⟩ := Γ
  obtain ⟨hx, hb, hml, hown, hts, hKK, hlk, rfl, rfl, rfl⟩ := h
  intro H locs ls hP hS hl
  have kk := kk H locs ls hP hS hl
  unfold iShr at kk
  rw [sJ_of] at kk
  exact lv_ishr hx hb hdg kk
theorem T.iushr {x y : Int} (h : okG Γ Δ l R cc own nL) (hdg : decode cc pc = .ok (.iushr, 1)) (kk : T Γ Δ es kc sl Q (pc + 1) lv (.int (sJ (iUshr x y)) :: stk)) : T Γ Δ es kc sl Q (pc) lv (.int (sJ y) :: .int (sJ x) :: stk) := by
  obtain ⟨p, l', e, R', s, m, args, below, meth, c, nL'⟩ := Γ
  obtain ⟨hx, hb, hml, hown, hts, hKK, hlk, rfl, rfl, rfl⟩ := h
  intro H locs ls hP hS hl
  have kk := kk H locs ls hP hS hl
  unfold iUshr at kk
  rw [sJ_of] at kk
  exact lv_iushr hx hb hdg rfl kk
theorem T.irem {x y : Int} (h : okG Γ Δ l R cc own nL) (hsx : sR x) (hsy : sR y) (hy : ¬ y = 0) (hdg : decode cc pc = .ok (.irem, 1)) (kk : T Γ Δ es kc sl Q (pc + 1) lv (.int (sJ (x.tmod y)) :: stk)) : T Γ Δ es kc sl Q (pc) lv (.int (sJ y) :: .int (sJ x) :: stk) := by
  obtain ⟨p, l', e, R', s, m, args, below, meth, c, nL'⟩ := Γ
  obtain ⟨hx, hb, hml, hown, hts, hKK, hlk, rfl, rfl, rfl⟩ := h
  intro H locs ls hP hS hl
  exact lv_irem hx hb hdg (fun q => hy (sJ_inj hsy sR_0 q)) (by rw [sJ_rem hsx hsy]; exact kk H locs ls hP hS hl)
theorem T.ineg {x : Int} (h : okG Γ Δ l R cc own nL) (hdg : decode cc pc = .ok (.ineg, 1)) (kk : T Γ Δ es kc sl Q (pc + 1) lv (.int (sJ (wr (-x))) :: stk)) : T Γ Δ es kc sl Q (pc) lv (.int (sJ x) :: stk) := by
  obtain ⟨p, l', e, R', s, m, args, below, meth, c, nL'⟩ := Γ
  obtain ⟨hx, hb, hml, hown, hts, hKK, hlk, rfl, rfl, rfl⟩ := h
  intro H locs ls hP hS hl
  exact lv_ineg hx hb hdg (by rw [sJ_neg]; exact kk H locs ls hP hS hl)
theorem T.i2c {x : Int} (h : okG Γ Δ l R cc own nL) (hsx : sR x) (hdg : decode cc pc = .ok (.i2c, 1)) (kk : T Γ Δ es kc sl Q (pc + 1) lv (.int (sJ (x % 65536)) :: stk)) : T Γ Δ es kc sl Q (pc) lv (.int (sJ x) :: stk) := by
  obtain ⟨p, l', e, R', s, m, args, below, meth, c, nL'⟩ := Γ
  obtain ⟨hx, hb, hml, hown, hts, hKK, hlk, rfl, rfl, rfl⟩ := h
  intro H locs ls hP hS hl
  exact lv_i2c hx hb hdg (sJ_i2c hsx) (kk H locs ls hP hS hl)
theorem T.i2b {x : Int} (h : okG Γ Δ l R cc own nL) (hdg : decode cc pc = .ok (.i2b, 1)) (kk : T Γ Δ es kc sl Q (pc + 1) lv (.int (sJ (sJ x).toInt8.toInt32.toInt) :: stk)) : T Γ Δ es kc sl Q (pc) lv (.int (sJ x) :: stk) := by
  obtain ⟨p, l', e, R', s, m, args, below, meth, c, nL'⟩ := Γ
  obtain ⟨hx, hb, hml, hown, hts, hKK, hlk, rfl, rfl, rfl⟩ := h
  intro H locs ls hP hS hl
  have hK := hKK.1
  have kk := kk H locs ls hP hS hl
  rw [sJ_of] at kk
  exact lv_i2b hx hb hdg rfl kk
theorem T.dup {v : Value} (h : okG Γ Δ l R cc own nL) (hdg : decode cc pc = .ok (.dup, 1)) (hv : v.category = 1) (kk : T Γ Δ es kc sl Q (pc + 1) lv (v :: v :: stk)) : T Γ Δ es kc sl Q (pc) lv (v :: stk) := by
  obtain ⟨p, l', e, R', s, m, args, below, meth, c, nL'⟩ := Γ
  obtain ⟨hx, hb, hml, hown, hts, hKK, hlk, rfl, rfl, rfl⟩ := h
  intro H locs ls hP hS hl
  exact lv_dup hx hb hdg hv (kk H locs ls hP hS hl)
theorem T.pop {v : Value} (h : okG Γ Δ l R cc own nL) (hdg : decode cc pc = .ok (.pop, 1)) (hv : v.category = 1) (kk : T Γ Δ es kc sl Q (pc + 1) lv stk) : T Γ Δ es kc sl Q (pc) lv (v :: stk) := by
  obtain ⟨p, l', e, R', s, m, args, below, meth, c, nL'⟩ := Γ
  obtain ⟨hx, hb, hml, hown, hts, hKK, hlk, rfl, rfl, rfl⟩ := h
  intro H locs ls hP hS hl
  exact lv_pop hx hb hdg hv (kk H locs ls hP hS hl)
theorem T.goto {off : Int} {tgt : Nat} (h : okG Γ Δ l R cc own nL) (hdg : decode cc pc = .ok (.goto off, 3)) (ht : (pc : Int) + off = (tgt : Int)) (kk : T Γ Δ es kc sl Q (tgt) lv stk) : T Γ Δ es kc sl Q (pc) lv stk := by
  obtain ⟨p, l', e, R', s, m, args, below, meth, c, nL'⟩ := Γ
  obtain ⟨hx, hb, hml, hown, hts, hKK, hlk, rfl, rfl, rfl⟩ := h
  intro H locs ls hP hS hl
  exact lv_goto hx hb hdg ht (kk H locs ls hP hS hl)
theorem T.icmp_eq {x y : Int} {off : Int} {tgt : Nat} (h : okG Γ Δ l R cc own nL) (hsx : sR x) (hsy : sR y) (hdg : decode cc pc = .ok (.if_icmp .eq off, 3)) (ht : (pc : Int) + off = (tgt : Int)) (kt : x = y → T Γ Δ es kc sl Q (tgt) lv stk) (kf : ¬ x = y → T Γ Δ es kc sl Q (pc + 3) lv stk) : T Γ Δ es kc sl Q (pc) lv (.int (sJ y) :: .int (sJ x) :: stk) := by
  obtain ⟨p, l', e, R', s, m, args, below, meth, c, nL'⟩ := Γ
  obtain ⟨hx, hb, hml, hown, hts, hKK, hlk, rfl, rfl, rfl⟩ := h
  intro H locs ls hP hS hl
  exact lv_icmp_eq hx hb hdg ht (fun q => kt ((sJ_eq hsx hsy).mp q) H locs ls hP hS hl) (fun q => kf (fun z => q ((sJ_eq hsx hsy).mpr z)) H locs ls hP hS hl)
theorem T.if_eq {x : Int} {off : Int} {tgt : Nat} (h : okG Γ Δ l R cc own nL) (hsx : sR x) (hdg : decode cc pc = .ok (.ifCond .eq off, 3)) (ht : (pc : Int) + off = (tgt : Int)) (kt : x = 0 → T Γ Δ es kc sl Q (tgt) lv stk) (kf : ¬ x = 0 → T Γ Δ es kc sl Q (pc + 3) lv stk) : T Γ Δ es kc sl Q (pc) lv (.int (sJ x) :: stk) := by
  obtain ⟨p, l', e, R', s, m, args, below, meth, c, nL'⟩ := Γ
  obtain ⟨hx, hb, hml, hown, hts, hKK, hlk, rfl, rfl, rfl⟩ := h
  intro H locs ls hP hS hl
  exact lv_if_eq hx hb hdg ht (fun q => kt ((sJ_eq hsx sR_0).mp q) H locs ls hP hS hl) (fun q => kf (fun z => q ((sJ_eq hsx sR_0).mpr z)) H locs ls hP hS hl)
theorem T.icmp_ne {x y : Int} {off : Int} {tgt : Nat} (h : okG Γ Δ l R cc own nL) (hsx : sR x) (hsy : sR y) (hdg : decode cc pc = .ok (.if_icmp .ne off, 3)) (ht : (pc : Int) + off = (tgt : Int)) (kt : ¬ x = y → T Γ Δ es kc sl Q (tgt) lv stk) (kf : x = y → T Γ Δ es kc sl Q (pc + 3) lv stk) : T Γ Δ es kc sl Q (pc) lv (.int (sJ y) :: .int (sJ x) :: stk) := by
  obtain ⟨p, l', e, R', s, m, args, below, meth, c, nL'⟩ := Γ
  obtain ⟨hx, hb, hml, hown, hts, hKK, hlk, rfl, rfl, rfl⟩ := h
  intro H locs ls hP hS hl
  exact lv_icmp_ne hx hb hdg ht (fun q => kt (fun z => q (by rw [z])) H locs ls hP hS hl) (fun q => kf (sJ_inj hsx hsy (by first | exact q | exact Decidable.not_not.mp q)) H locs ls hP hS hl)
theorem T.if_ne {x : Int} {off : Int} {tgt : Nat} (h : okG Γ Δ l R cc own nL) (hsx : sR x) (hdg : decode cc pc = .ok (.ifCond .ne off, 3)) (ht : (pc : Int) + off = (tgt : Int)) (kt : ¬ x = 0 → T Γ Δ es kc sl Q (tgt) lv stk) (kf : x = 0 → T Γ Δ es kc sl Q (pc + 3) lv stk) : T Γ Δ es kc sl Q (pc) lv (.int (sJ x) :: stk) := by
  obtain ⟨p, l', e, R', s, m, args, below, meth, c, nL'⟩ := Γ
  obtain ⟨hx, hb, hml, hown, hts, hKK, hlk, rfl, rfl, rfl⟩ := h
  intro H locs ls hP hS hl
  exact lv_if_ne hx hb hdg ht (fun q => kt (fun z => q (by rw [z]; rfl)) H locs ls hP hS hl) (fun q => kf (sJ_inj hsx sR_0 (by first | exact q | exact Decidable.not_not.mp q)) H locs ls hP hS hl)
theorem T.icmp_lt {x y : Int} {off : Int} {tgt : Nat} (h : okG Γ Δ l R cc own nL) (hsx : sR x) (hsy : sR y) (hdg : decode cc pc = .ok (.if_icmp .lt off, 3)) (ht : (pc : Int) + off = (tgt : Int)) (kt : x < y → T Γ Δ es kc sl Q (tgt) lv stk) (kf : ¬ x < y → T Γ Δ es kc sl Q (pc + 3) lv stk) : T Γ Δ es kc sl Q (pc) lv (.int (sJ y) :: .int (sJ x) :: stk) := by
  obtain ⟨p, l', e, R', s, m, args, below, meth, c, nL'⟩ := Γ
  obtain ⟨hx, hb, hml, hown, hts, hKK, hlk, rfl, rfl, rfl⟩ := h
  intro H locs ls hP hS hl
  exact lv_icmp_lt hx hb hdg ht (fun q => kt ((sJ_lt hsx hsy).mp q) H locs ls hP hS hl) (fun q => kf (fun z => q ((sJ_lt hsx hsy).mpr z)) H locs ls hP hS hl)
theorem T.if_lt {x : Int} {off : Int} {tgt : Nat} (h : okG Γ Δ l R cc own nL) (hsx : sR x) (hdg : decode cc pc = .ok (.ifCond .lt off, 3)) (ht : (pc : Int) + off = (tgt : Int)) (kt : x < 0 → T Γ Δ es kc sl Q (tgt) lv stk) (kf : ¬ x < 0 → T Γ Δ es kc sl Q (pc + 3) lv stk) : T Γ Δ es kc sl Q (pc) lv (.int (sJ x) :: stk) := by
  obtain ⟨p, l', e, R', s, m, args, below, meth, c, nL'⟩ := Γ
  obtain ⟨hx, hb, hml, hown, hts, hKK, hlk, rfl, rfl, rfl⟩ := h
  intro H locs ls hP hS hl
  exact lv_if_lt hx hb hdg ht (fun q => kt ((sJ_lt hsx sR_0).mp q) H locs ls hP hS hl) (fun q => kf (fun z => q ((sJ_lt hsx sR_0).mpr z)) H locs ls hP hS hl)
theorem T.icmp_ge {x y : Int} {off : Int} {tgt : Nat} (h : okG Γ Δ l R cc own nL) (hsx : sR x) (hsy : sR y) (hdg : decode cc pc = .ok (.if_icmp .ge off, 3)) (ht : (pc : Int) + off = (tgt : Int)) (kt : y ≤ x → T Γ Δ es kc sl Q (tgt) lv stk) (kf : ¬ y ≤ x → T Γ Δ es kc sl Q (pc + 3) lv stk) : T Γ Δ es kc sl Q (pc) lv (.int (sJ y) :: .int (sJ x) :: stk) := by
  obtain ⟨p, l', e, R', s, m, args, below, meth, c, nL'⟩ := Γ
  obtain ⟨hx, hb, hml, hown, hts, hKK, hlk, rfl, rfl, rfl⟩ := h
  intro H locs ls hP hS hl
  exact lv_icmp_ge hx hb hdg ht (fun q => kt ((sJ_le hsy hsx).mp q) H locs ls hP hS hl) (fun q => kf (fun z => q ((sJ_le hsy hsx).mpr z)) H locs ls hP hS hl)
theorem T.if_ge {x : Int} {off : Int} {tgt : Nat} (h : okG Γ Δ l R cc own nL) (hsx : sR x) (hdg : decode cc pc = .ok (.ifCond .ge off, 3)) (ht : (pc : Int) + off = (tgt : Int)) (kt : 0 ≤ x → T Γ Δ es kc sl Q (tgt) lv stk) (kf : ¬ 0 ≤ x → T Γ Δ es kc sl Q (pc + 3) lv stk) : T Γ Δ es kc sl Q (pc) lv (.int (sJ x) :: stk) := by
  obtain ⟨p, l', e, R', s, m, args, below, meth, c, nL'⟩ := Γ
  obtain ⟨hx, hb, hml, hown, hts, hKK, hlk, rfl, rfl, rfl⟩ := h
  intro H locs ls hP hS hl
  exact lv_if_ge hx hb hdg ht (fun q => kt ((sJ_le sR_0 hsx).mp q) H locs ls hP hS hl) (fun q => kf (fun z => q ((sJ_le sR_0 hsx).mpr z)) H locs ls hP hS hl)
theorem T.icmp_gt {x y : Int} {off : Int} {tgt : Nat} (h : okG Γ Δ l R cc own nL) (hsx : sR x) (hsy : sR y) (hdg : decode cc pc = .ok (.if_icmp .gt off, 3)) (ht : (pc : Int) + off = (tgt : Int)) (kt : y < x → T Γ Δ es kc sl Q (tgt) lv stk) (kf : ¬ y < x → T Γ Δ es kc sl Q (pc + 3) lv stk) : T Γ Δ es kc sl Q (pc) lv (.int (sJ y) :: .int (sJ x) :: stk) := by
  obtain ⟨p, l', e, R', s, m, args, below, meth, c, nL'⟩ := Γ
  obtain ⟨hx, hb, hml, hown, hts, hKK, hlk, rfl, rfl, rfl⟩ := h
  intro H locs ls hP hS hl
  exact lv_icmp_gt hx hb hdg ht (fun q => kt ((sJ_lt hsy hsx).mp q) H locs ls hP hS hl) (fun q => kf (fun z => q ((sJ_lt hsy hsx).mpr z)) H locs ls hP hS hl)
theorem T.if_gt {x : Int} {off : Int} {tgt : Nat} (h : okG Γ Δ l R cc own nL) (hsx : sR x) (hdg : decode cc pc = .ok (.ifCond .gt off, 3)) (ht : (pc : Int) + off = (tgt : Int)) (kt : 0 < x → T Γ Δ es kc sl Q (tgt) lv stk) (kf : ¬ 0 < x → T Γ Δ es kc sl Q (pc + 3) lv stk) : T Γ Δ es kc sl Q (pc) lv (.int (sJ x) :: stk) := by
  obtain ⟨p, l', e, R', s, m, args, below, meth, c, nL'⟩ := Γ
  obtain ⟨hx, hb, hml, hown, hts, hKK, hlk, rfl, rfl, rfl⟩ := h
  intro H locs ls hP hS hl
  exact lv_if_gt hx hb hdg ht (fun q => kt ((sJ_lt sR_0 hsx).mp q) H locs ls hP hS hl) (fun q => kf (fun z => q ((sJ_lt sR_0 hsx).mpr z)) H locs ls hP hS hl)
theorem T.icmp_le {x y : Int} {off : Int} {tgt : Nat} (h : okG Γ Δ l R cc own nL) (hsx : sR x) (hsy : sR y) (hdg : decode cc pc = .ok (.if_icmp .le off, 3)) (ht : (pc : Int) + off = (tgt : Int)) (kt : x ≤ y → T Γ Δ es kc sl Q (tgt) lv stk) (kf : ¬ x ≤ y → T Γ Δ es kc sl Q (pc + 3) lv stk) : T Γ Δ es kc sl Q (pc) lv (.int (sJ y) :: .int (sJ x) :: stk) := by
  obtain ⟨p, l', e, R', s, m, args, below, meth, c, nL'⟩ := Γ
  obtain ⟨hx, hb, hml, hown, hts, hKK, hlk, rfl, rfl, rfl⟩ := h
  intro H locs ls hP hS hl
  exact lv_icmp_le hx hb hdg ht (fun q => kt ((sJ_le hsx hsy).mp q) H locs ls hP hS hl) (fun q => kf (fun z => q ((sJ_le hsx hsy).mpr z)) H locs ls hP hS hl)
theorem T.if_le {x : Int} {off : Int} {tgt : Nat} (h : okG Γ Δ l R cc own nL) (hsx : sR x) (hdg : decode cc pc = .ok (.ifCond .le off, 3)) (ht : (pc : Int) + off = (tgt : Int)) (kt : x ≤ 0 → T Γ Δ es kc sl Q (tgt) lv stk) (kf : ¬ x ≤ 0 → T Γ Δ es kc sl Q (pc + 3) lv stk) : T Γ Δ es kc sl Q (pc) lv (.int (sJ x) :: stk) := by
  obtain ⟨p, l', e, R', s, m, args, below, meth, c, nL'⟩ := Γ
  obtain ⟨hx, hb, hml, hown, hts, hKK, hlk, rfl, rfl, rfl⟩ := h
  intro H locs ls hP hS hl
  exact lv_if_le hx hb hdg ht (fun q => kt ((sJ_le hsx sR_0).mp q) H locs ls hP hS hl) (fun q => kf (fun z => q ((sJ_le hsx sR_0).mpr z)) H locs ls hP hS hl)
theorem T.mmax {x y : Int} {ix : Nat} (h : okG Γ Δ l R cc own nL) (hsx : sR x) (hsy : sR y) (hl1 : Cond.methodLink own ix Lib.Math.max.name ∈ gW) (hl2 : Cond.static Lib.Math.max.name ∈ gW) (hl3 : Cond.initialized "java/lang/Math" ∈ gW) (hl4 : Cond.code Lib.Math.max.name Lib.Math.max.code 2 (some .int) ∈ gW) (hR : 1 ≤ R.frames ∧ (stk.map fun v => v.category).sum + 13 ≤ R.locals ∧ kc ≤ R.cells ∧ sl ≤ R.slots) (hdg : decode cc pc = .ok (.invokestatic ix, 3)) (kk : T Γ Δ es kc sl Q (pc + 3) lv (.int (sJ (max x y)) :: stk)) : T Γ Δ es kc sl Q (pc) lv (.int (sJ y) :: .int (sJ x) :: stk) := by
  obtain ⟨p, l', e, R', s, m, args, below, meth, c, nL'⟩ := Γ
  obtain ⟨hx, hb, hml, hown, hts, hKK, hlk, rfl, rfl, rfl⟩ := h
  intro H locs ls hP hS hl
  refine va_mmax hx hb (hml.trans hl.1.symm) hown (hts _ hl1) (hts _ hl2) (hts _ hl3) (hts _ hl4) hR.1 hR.2.1 hR.2.2.1 hR.2.2.2 hdg ?_
  have e9 : (if sJ x < sJ y then sJ y else sJ x) = sJ (max x y) := by
    by_cases q : x < y
    · rw [if_pos ((sJ_lt hsx hsy).mpr q), Int.max_def]
      congr 1
      split <;> omega
    · rw [if_neg (fun z => q ((sJ_lt hsx hsy).mp z)), Int.max_def]
      congr 1
      split <;> omega
  rw [e9]
  exact kk H locs ls hP hS hl
theorem T.mmin {x y : Int} {ix : Nat} (h : okG Γ Δ l R cc own nL) (hsx : sR x) (hsy : sR y) (hl1 : Cond.methodLink own ix Lib.Math.min.name ∈ gW) (hl2 : Cond.static Lib.Math.min.name ∈ gW) (hl3 : Cond.initialized "java/lang/Math" ∈ gW) (hl4 : Cond.code Lib.Math.min.name Lib.Math.min.code 2 (some .int) ∈ gW) (hR : 1 ≤ R.frames ∧ (stk.map fun v => v.category).sum + 13 ≤ R.locals ∧ kc ≤ R.cells ∧ sl ≤ R.slots) (hdg : decode cc pc = .ok (.invokestatic ix, 3)) (kk : T Γ Δ es kc sl Q (pc + 3) lv (.int (sJ (min x y)) :: stk)) : T Γ Δ es kc sl Q (pc) lv (.int (sJ y) :: .int (sJ x) :: stk) := by
  obtain ⟨p, l', e, R', s, m, args, below, meth, c, nL'⟩ := Γ
  obtain ⟨hx, hb, hml, hown, hts, hKK, hlk, rfl, rfl, rfl⟩ := h
  intro H locs ls hP hS hl
  refine va_mmin hx hb (hml.trans hl.1.symm) hown (hts _ hl1) (hts _ hl2) (hts _ hl3) (hts _ hl4) hR.1 hR.2.1 hR.2.2.1 hR.2.2.2 hdg ?_
  have e9 : (if sJ y < sJ x then sJ y else sJ x) = sJ (min x y) := by
    by_cases q : y < x
    · rw [if_pos ((sJ_lt hsy hsx).mpr q), Int.min_def]
      congr 1
      split <;> omega
    · rw [if_neg (fun z => q ((sJ_lt hsy hsx).mp z)), Int.min_def]
      congr 1
      split <;> omega
  rw [e9]
  exact kk H locs ls hP hS hl
theorem T.ldcS {ix : Nat} {tx : String} {k : Nat} (h : okG Γ Δ l R cc own nL) (hq : (own, ix, tx, k) ∈ sST) (hdg : decode cc pc = .ok (.ldc ix, 2)) (kk : T Γ Δ es kc sl Q (pc + 2) lv (.ref (aK Δ k) :: stk)) : T Γ Δ es kc sl Q (pc) lv stk := by
  obtain ⟨p, l', e, R', s, m, args, below, meth, c, nL'⟩ := Γ
  obtain ⟨hx, hb, hml, hown, hts, hKK, hlk, rfl, rfl, rfl⟩ := h
  intro H locs ls hP hS hl
  have hK := hKK.1
  exact va_ldcS hx hb hown (hKK.2.2.1 _ hq) hdg (kk H locs ls hP hS hl)
theorem T.scs {ix : Nat} (h : okG Γ Δ l R cc own nL) (hlink : Cond.fieldLink own ix "java/lang/String" "COMPACT_STRINGS" "Z" ∈ gW) (hdg : decode cc pc = .ok (.getstatic ix, 3)) (kk : T Γ Δ es kc sl Q (pc + 3) lv (.int (sJ 1) :: stk)) : T Γ Δ es kc sl Q (pc) lv stk := by
  obtain ⟨p, l', e, R', s, m, args, below, meth, c, nL'⟩ := Γ
  obtain ⟨hx, hb, hml, hown, hts, hKK, hlk, rfl, rfl, rfl⟩ := h
  intro H locs ls hP hS hl
  have hK := hKK.1
  exact va_gets hx hb hKK.2.2.2.1 hS hown (hts _ hlink) (fun _ q => q) hdg (kk H locs ls hP hS hl)
theorem T.sfmt {ix : Nat} (h : okG Γ Δ l R cc own nL) (hlink : Cond.fieldLink own ix "jdk/internal/util/Preconditions" "SIOOBE_FORMATTER" "Ljava/util/function/BiFunction;" ∈ gW) (hdg : decode cc pc = .ok (.getstatic ix, 3)) (kk : ∀ v : Value, v.category = 1 → T Γ Δ es kc sl Q (pc + 3) lv (v :: stk)) : T Γ Δ es kc sl Q (pc) lv stk := by
  obtain ⟨p, l', e, R', s, m, args, below, meth, c, nL'⟩ := Γ
  obtain ⟨hx, hb, hml, hown, hts, hKK, hlk, rfl, rfl, rfl⟩ := h
  intro H locs ls hP hS hl
  have hK := hKK.1
  rcases hKK.2.2.2.2.2.1 with hZ | ⟨t, hZ⟩
  · exact va_gets hx hb hZ hS hown (hts _ hlink) (fun _ q => q) hdg (kk _ rfl H locs ls hP hS hl)
  · exact va_gets hx hb hZ hS hown (hts _ hlink) (fun _ q => q) hdg (kk _ rfl H locs ls hP hS hl)
theorem T.ealen {b L : Nat} {f : Int → Int} (h : okG Γ Δ l R cc own nL) (hE : EA Δ b L f) (hdg : decode cc pc = .ok (.arraylength, 1)) (kk : T Γ Δ es kc sl Q (pc + 1) lv (.int (sJ (L : Int)) :: stk)) : T Γ Δ es kc sl Q (pc) lv (.ref b :: stk) := by
  obtain ⟨p, l', e, R', s, m, args, below, meth, c, nL'⟩ := Γ
  obtain ⟨hx, hb, hml, hown, hts, hKK, hlk, rfl, rfl, rfl⟩ := h
  intro H locs ls hP hS hl
  obtain ⟨scr, h1, h2, h3, h4, h5⟩ := va_X.moved hKK.s0 (hE.1 H hP.2.2.2)
  exact W.alen (n := sJ (L : Int)) hx hb h1 h2 (by rw [h4]; exact Int32.ofInt_eq_ofNat.symm) rfl rfl hdg (kk H locs ls hP hS hl)
theorem T.eald {b L : Nat} {f : Int → Int} {x : Int} (h : okG Γ Δ l R cc own nL) (hE : EA Δ b L f) (hsx : sR x) (hin : 0 ≤ x ∧ x < (L : Int)) (hdg : decode cc pc = .ok (.iaload, 1)) (kk : T Γ Δ es kc sl Q (pc + 1) lv (.int (sJ (f x)) :: stk)) : T Γ Δ es kc sl Q (pc) lv (.int (sJ x) :: .ref b :: stk) := by
  obtain ⟨p, l', e, R', s, m, args, below, meth, c, nL'⟩ := Γ
  obtain ⟨hx, hb, hml, hown, hts, hKK, hlk, rfl, rfl, rfl⟩ := h
  intro H locs ls hP hS hl
  obtain ⟨scr, h1, h2, h3, h4, h5⟩ := va_X.moved hKK.s0 (hE.1 H hP.2.2.2)
  refine W.iald (v := .int (sJ (f x))) hx hb h1 h2 h3 (by rw [h4]; exact sJ_in hsx hin) ?_ rfl rfl hdg (kk H locs ls hP hS hl)
  rw [sJ_clamp hsx hin.1]
  refine (h5 _ (by omega)).trans ?_
  show some (Value.int (sJ (f ((x.toNat : Nat) : Int)))) = _
  rw [Int.toNat_of_nonneg hin.1]
theorem T.ks {kc2 sl2 : Nat} (h1 : kc ≤ kc2) (h2 : sl ≤ sl2) (kk : T Γ Δ es kc2 sl2 Q pc lv stk) : T Γ Δ es kc sl Q pc lv stk := by
  obtain ⟨p, l', e, R', s, m, args, below, meth, c, nL'⟩ := Γ
  intro H locs ls hP hS hl
  exact W.widen h1 h2 (kk H locs ls hP hS hl)
theorem T.dup_x1 {u v : Value} (h : okG Γ Δ l R cc own nL) (hdg : decode cc pc = .ok (.dup_x1, 1)) (hv : v.category = 1) (hu : u.category = 1) (kk : T Γ Δ es kc sl Q (pc + 1) lv (v :: u :: v :: stk)) : T Γ Δ es kc sl Q (pc) lv (v :: u :: stk) := by
  obtain ⟨p, l', e, R', s, m, args, below, meth, c, nL'⟩ := Γ
  obtain ⟨hx, hb, hml, hown, hts, hKK, hlk, rfl, rfl, rfl⟩ := h
  intro H locs ls hP hS hl
  exact lv_dup_x1 hx hb hdg hv hu (kk H locs ls hP hS hl)
theorem T.null (h : okG Γ Δ l R cc own nL) (hdg : decode cc pc = .ok (.aconst_null, 1)) (kk : T Γ Δ es kc sl Q (pc + 1) lv (.null :: stk)) : T Γ Δ es kc sl Q (pc) lv stk := by
  obtain ⟨p, l', e, R', s, m, args, below, meth, c, nL'⟩ := Γ
  obtain ⟨hx, hb, hml, hown, hts, hKK, hlk, rfl, rfl, rfl⟩ := h
  intro H locs ls hP hS hl
  exact lv_null hx hb hdg (kk H locs ls hP hS hl)
theorem T.ifnonnull {a : Nat} {off : Int} {tgt : Nat} (h : okG Γ Δ l R cc own nL) (hdg : decode cc pc = .ok (.ifnonnull off, 3)) (ht : (pc : Int) + off = (tgt : Int)) (kk : T Γ Δ es kc sl Q (tgt) lv stk) : T Γ Δ es kc sl Q (pc) lv (.ref a :: stk) := by
  obtain ⟨p, l', e, R', s, m, args, below, meth, c, nL'⟩ := Γ
  obtain ⟨hx, hb, hml, hown, hts, hKK, hlk, rfl, rfl, rfl⟩ := h
  intro H locs ls hP hS hl
  exact lv_ifnonnull hx hb hdg ht (kk H locs ls hP hS hl)
theorem T.objInit {ix : Nat} {a : Nat} (h : okG Γ Δ l R cc own nL) (hlink : Cond.methodLink own ix Lib.objectInit ∈ gW) (hinst : Cond.instanceMethod Lib.objectInit ∈ gW) (hcode : Cond.code Lib.objectInit ⟨#[0xb1]⟩ 1 none ∈ gW) (hR : 1 ≤ R.frames ∧ (stk.map fun v => v.category).sum + 12 ≤ R.locals) (hdg : decode cc pc = .ok (.invokespecial ix, 3)) (kk : T Γ Δ es kc sl Q (pc + 3) lv stk) : T Γ Δ es kc sl Q pc lv (.ref a :: stk) := by
  obtain ⟨p, l', e, R', s, m, args, below, meth, c, nL'⟩ := Γ
  obtain ⟨hx, hb, hml, hown, hts, hKK, hlk, rfl, rfl, rfl⟩ := h
  intro H locs ls hP hS hl
  exact W.objInit hx hb hown (hts _ hlink) (hts _ hinst) (hts _ hcode) rfl (hl.1.trans hml.symm) rfl hdg hR.1 (by show 2 * 0 + _ + 12 ≤ _; have := hR.2; omega) (kk H locs ls hP hS hl)
theorem T.new {ci N ix : Nat} {C : String} {X : u_T} {ty : Nat → FieldType} {fs : List Value} {e : TE} (h : okG Γ Δ l R cc own nL) (hin : ∀ w ∈ u_ws C X N, w ∈ gW) (hc : vwCl[ci]? = some (C, X, N)) (hty : ∀ k, k < N → parseFieldDescriptor (X k).2.2.1 = some (ty k)) (hl1 : Cond.classLink own ix C ∈ gW) (hl2 : Cond.instantiable C N ∈ gW) (hl3 : Cond.initialized C ∈ gW) (hE : tEnt Δ e = .inr (ci, fs)) (hdef : ∀ j, j < N → defaultValue (ty j) = vp_V fs j) (hR : kc + 1 ≤ R.cells ∧ sl + N ≤ R.slots) (hdg : decode cc pc = .ok (.new ix, 3))
    (kk : ∀ es1 : List TE, es1[es.length]? = some e → (∀ j, j < es.length → es1[j]? = es[j]?) → es1.length = es.length + 1 → T Γ Δ es1 (kc + 1) (sl + N) Q (pc + 3) lv (.ref (tA Δ es.length) :: stk)) : T Γ Δ es kc sl Q (pc) lv (stk) := by
  obtain ⟨p, l', e', R', s, m, args, below, meth, c, nL'⟩ := Γ
  obtain ⟨hx, hb, hml, hown, hts, hKK, hlk, rfl, rfl, rfl⟩ := h
  intro H locs ls hP hS hl
  have hK := hKK.1
  have hKn := hK.1 ci _ hc
  refine W.newcK hx hb hown (hts _ hl1) (hts _ hl2) (hts _ hl3) rfl hdg hR.1 hR.2 hKn.2.1 rfl fun H1 kC hkC e1 z1 o1 => ?_
  have hsz : H.size = tA Δ es.length := hP.2.1
  have hat : va_at (sG Δ) vwCl (H.size, tEnt Δ e) H1 := by
    rw [hE]
    exact ⟨_, hc, (u_born ty hts hin hKn hkC e1 hty).to hdef⟩
  have kk := kk (es ++ [e]) (by simp) (fun j hj => List.getElem?_append_left hj) (by simp) H1 locs ls (hP.push hKK o1 z1 hat) ⟨Nat.le_trans hS.1 (by omega), fun x h1 h2 => (o1 x (Nat.lt_of_lt_of_le h1 hS.1)).trans (hS.2.1 x h1 h2), hS.2.2⟩ hl
  rw [← hsz] at kk
  exact kk
theorem T.newB {x : Int} {z : Nat} (h : okG Γ Δ l R cc own nL) (harr : Cond.arrayClass .byte ∈ gW) (hxz : x = z) (hz2 : z < 1000) (hR : kc + 1 ≤ R.cells ∧ sl + z ≤ R.slots) (hdg : decode cc pc = .ok (.newarray .byte, 2))
    (kk : ∀ es1 : List TE, es1[es.length]? = some (tba z (fun _ => 0)) → (∀ j, j < es.length → es1[j]? = es[j]?) → es1.length = es.length + 1 → T Γ Δ es1 (kc + 1) (sl + z) Q (pc + 2) lv (.ref (tA Δ es.length) :: stk)) : T Γ Δ es kc sl Q (pc) lv (.int (sJ x) :: stk) := by
  obtain ⟨p, l', e, R', s, m, args, below, meth, c, nL'⟩ := Γ
  obtain ⟨hx, hb, hml, hown, hts, hKK, hlk, rfl, rfl, rfl⟩ := h
  intro H locs ls hP hS hl
  have hK := hKK.1
  have hsx : sR x := ⟨by omega, by omega⟩
  refine va_newaK (atype := .byte) hx hb (hts _ harr) rfl hdg rfl (fun q => by rw [sJ_zero, sJ_lt hsx sR_0] at q; omega) (N := z) (by rw [sJ_clamp hsx (by omega)]; omega) (Nat.le_trans (Nat.mul_le_mul_left z (show _ ≤ 8 by decide)) (by omega)) hR.1 hR.2 rfl fun H1 cA e1 z1 o1 hAr hNm => ?_
  have hcA : cA = Δ.2.2.1 8 := by
    have h2 := (hK.2 8 _ rfl).2
    exact Option.some.inj (hNm.symm.trans h2)
  subst hcA
  have hsz : H.size = tA Δ es.length := hP.2.1
  have hat : va_at (sG Δ) vwCl (H.size, tEnt Δ (tba z (fun _ => 0))) H1 := e1
  have kk := kk (es ++ [tba z (fun _ => 0)]) (by simp) (fun j hj => List.getElem?_append_left hj) (by simp) H1 locs ls (hP.push hKK o1 z1 hat) ⟨Nat.le_trans hS.1 (by omega), fun x h1 h2 => (o1 x (Nat.lt_of_lt_of_le h1 hS.1)).trans (hS.2.1 x h1 h2), hS.2.2⟩ hl
  rw [← hsz] at kk
  exact kk
theorem T.get {ci k fk M ix : Nat} {C : String} {X : u_T} {fs : List Value} {e : TE} {v : Value} (h : okG Γ Δ l R cc own nL) (hin : ∀ w ∈ u_ws C X M, w ∈ gW) (hc : vwCl[ci]? = some (C, X, M)) (he : es[k]? = some e) (hE : tEnt Δ e = .inr (ci, fs)) (hk : fk < M) (hv : fs[fk]? = some v) (hlink : Cond.fieldLink own ix (X fk).1 (X fk).2.1 (X fk).2.2.1 ∈ gW) (hdg : decode cc pc = .ok (.getfield ix, 3)) (kk : T Γ Δ es kc sl Q (pc + 3) lv (v :: stk)) : T Γ Δ es kc sl Q (pc) lv (.ref (tA Δ k) :: stk) := by
  obtain ⟨p, l', e', R', s, m, args, below, meth, c, nL'⟩ := Γ
  obtain ⟨hx, hb, hml, hown, hts, hKK, hlk, rfl, rfl, rfl⟩ := h
  intro H locs ls hP hS hl
  exact va_get hx hb hts hin hown hKK.1 hP.1 k (by rw [tW_at he, hE]) hc fk hk (hts _ hlink) (fun _ q => q) hv hdg (kk H locs ls hP hS hl)
theorem T.put {ci k fk M ix : Nat} {C : String} {X : u_T} {fs : List Value} {e e2 : TE} {v : Value} {ty : FieldType} (h : okG Γ Δ l R cc own nL) (hin : ∀ w ∈ u_ws C X M, w ∈ gW) (hc : vwCl[ci]? = some (C, X, M)) (he : es[k]? = some e) (hE : tEnt Δ e = .inr (ci, fs)) (hE2 : tEnt Δ e2 = .inr (ci, fs.set fk v)) (hk : fk < M) (hkl : fk < fs.length) (hlink : Cond.fieldLink own ix (X fk).1 (X fk).2.1 (X fk).2.2.1 ∈ gW) (ty0 : Nat → FieldType) (hty : ∀ k, k < M → parseFieldDescriptor (X k).2.2.1 = some (ty0 k)) (hnm : ∀ a, a < M → ∀ b, b < M → a ≠ b → (X a).2.1 ≠ (X b).2.1) (hfin : (X fk).2.2.2 = false) (hd : parseFieldDescriptor (X fk).2.2.1 = some ty) (hnar : narrow ty v = v) (hfit : fits ty v = true) (hdg : decode cc pc = .ok (.putfield ix, 3))
    (kk : ∀ es1 : List TE, es1[k]? = some e2 → (∀ j, j ≠ k → es1[j]? = es[j]?) → es1.length = es.length → T Γ Δ es1 kc sl Q (pc + 3) lv (stk)) : T Γ Δ es kc sl Q (pc) lv (v :: .ref (tA Δ k) :: stk) := by
  obtain ⟨p, l', e', R', s, m, args, below, meth, c, nL'⟩ := Γ
  obtain ⟨hx, hb, hml, hown, hts, hKK, hlk, rfl, rfl, rfl⟩ := h
  intro H locs ls hP hS hl
  have hK := hKK.1
  have hap := va_apart (own := own) hts hin ty0 hty hnm hK hc
  have he1 : (tW Δ es)[k]? = some (tA Δ k, .inr (ci, fs)) := by rw [tW_at he, hE]
  obtain ⟨rr, h1, cell, q1, q2, q3, q4⟩ := hP.1 k _ he1
  have hr : rr = (C, X, M) := Option.some.inj (h1.symm.trans hc)
  subst hr
  obtain ⟨hSl, hfc, kC, hkC, hkind⟩ := hK.1 ci _ hc
  obtain ⟨cf, kf, fi, f, hi, hsl⟩ := hSl fk hk
  have hlay := hts _ (hin _ (u_in_lay hk))
  unfold u_lay at hlay
  rw [if_neg (by rw [hfin]; decide)] at hlay
  have hst := (u_facts hfc hkC (u_lays hts hin hk) hi).1
  have h6 := u_store hfc hkC hkind hlay hi hd hnar hfit
  refine W.putK hx hb (f := f) ⟨hown, hts _ hlink, ⟨_, _, _, hi⟩, hst⟩ (by rw [q2]; exact h6) q1 q3 (by rw [hsl]; exact k2_hasslot (q4 fk hk)) rfl rfl hdg fun H' e1 e2' e3 => ?_
  rw [hsl] at e1 ⊢
  have hP1 := hP.1.set hP.D he1 (e := .inr (ci, fs.set fk v)) ⟨_, hc, t_OB.to (V := updV (vp_V fs) fk v) ⟨_, e1, q2, q3, t_set q4 hap hk _⟩ (fun j _ => vp_updV_set hkl _ j)⟩ e3
  rw [← hE2] at hP1
  exact kk (es.set k e2) (List.getElem?_set_self (tlt he)) (fun j hj => List.getElem?_set_ne (fun z => hj z.symm)) (by rw [List.length_set]) H' _ ls (hP.put hKK hP1 e2' e3) (hS.put e2' e3 (hP.2.2.1 _ (Nat.le_add_right _ _))) hl
theorem T.putF {ci k fk M ix : Nat} {C : String} {X : u_T} {fs : List Value} {e e2 : TE} {v : Value} {ty : FieldType} (h : okG Γ Δ l R cc own nL) (hin : ∀ w ∈ u_ws C X M, w ∈ gW) (hc : vwCl[ci]? = some (C, X, M)) (he : es[k]? = some e) (hE : tEnt Δ e = .inr (ci, fs)) (hE2 : tEnt Δ e2 = .inr (ci, fs.set fk v)) (hk : fk < M) (hkl : fk < fs.length) (hlink : Cond.fieldLink own ix (X fk).1 (X fk).2.1 (X fk).2.2.1 ∈ gW) (ty0 : Nat → FieldType) (hty : ∀ k, k < M → parseFieldDescriptor (X k).2.2.1 = some (ty0 k)) (hnm : ∀ a, a < M → ∀ b, b < M → a ≠ b → (X a).2.1 ≠ (X b).2.1) (hfin : (X fk).2.2.2 = true) (hinit : okIni Γ) (hdecl : (X fk).1 = own) (hd : parseFieldDescriptor (X fk).2.2.1 = some ty) (hnar : narrow ty v = v) (hfit : fits ty v = true) (hdg : decode cc pc = .ok (.putfield ix, 3))
    (kk : ∀ es1 : List TE, es1[k]? = some e2 → (∀ j, j ≠ k → es1[j]? = es[j]?) → es1.length = es.length → T Γ Δ es1 kc sl Q (pc + 3) lv (stk)) : T Γ Δ es kc sl Q (pc) lv (v :: .ref (tA Δ k) :: stk) := by
  obtain ⟨p, l', e', R', s, m, args, below, meth, c, nL'⟩ := Γ
  obtain ⟨hx, hb, hml, hown, hts, hKK, hlk, rfl, rfl, rfl⟩ := h
  intro H locs ls hP hS hl
  have hK := hKK.1
  have hap := va_apart (own := own) hts hin ty0 hty hnm hK hc
  have he1 : (tW Δ es)[k]? = some (tA Δ k, .inr (ci, fs)) := by rw [tW_at he, hE]
  obtain ⟨rr, h1, cell, q1, q2, q3, q4⟩ := hP.1 k _ he1
  have hr : rr = (C, X, M) := Option.some.inj (h1.symm.trans hc)
  subst hr
  obtain ⟨hSl, hfc, kC, hkC, hkind⟩ := hK.1 ci _ hc
  obtain ⟨cf, kf, fi, f, hi, hsl⟩ := hSl fk hk
  have hlay := hts _ (hin _ (u_in_lay hk))
  unfold u_lay at hlay
  rw [if_pos hfin] at hlay
  have hst := (u_facts hfc hkC (u_lays hts hin hk) hi).1
  have hcf : m.cls = cf := by
    obtain ⟨_, _, c', _, _, _, -, -, hf', -, -, -, hown2, -⟩ := Cond.laysFinal_spec hlay
    have e1 : c' = cf := by have := hi.symm.trans hf'; simp at this; exact this.1.symm
    rw [hdecl] at hown2
    rw [← e1]; exact Option.some.inj (hown.symm.trans hown2)
  have h6 := u_fits hfc hkC hkind (Or.inr hlay) hi hd hnar hfit
  refine W.putFinK hx hb hown (hts _ hlink) hi hst hcf hinit (by rw [q2]; exact h6) q1 q3 (by rw [hsl]; exact k2_hasslot (q4 fk hk)) rfl rfl hdg fun H' e1 e2' e3 => ?_
  rw [hsl] at e1 ⊢
  have hP1 := hP.1.set hP.D he1 (e := .inr (ci, fs.set fk v)) ⟨_, hc, t_OB.to (V := updV (vp_V fs) fk v) ⟨_, e1, q2, q3, t_set q4 hap hk _⟩ (fun j _ => vp_updV_set hkl _ j)⟩ e3
  rw [← hE2] at hP1
  exact kk (es.set k e2) (List.getElem?_set_self (tlt he)) (fun j hj => List.getElem?_set_ne (fun z => hj z.symm)) (by rw [List.length_set]) H' _ ls (hP.put hKK hP1 e2' e3) (hS.put e2' e3 (hP.2.2.1 _ (Nat.le_add_right _ _))) hl
theorem T.bast {k L : Nat} {f : Nat → Int} {x y : Int} (h : okG Γ Δ l R cc own nL) (he : es[k]? = some (tba L f)) (hsx : sR x) (hin : 0 ≤ x ∧ x < (L : Int)) (hnar : vp_nar .byte (sJ y) = sJ y) (hdg : decode cc pc = .ok (.bastore, 1))
    (kk : ∀ es1 : List TE, es1[k]? = some (tba L (fun j => if j = x.toNat then y else f j)) → (∀ j, j ≠ k → es1[j]? = es[j]?) → es1.length = es.length → T Γ Δ es1 kc sl Q (pc + 1) lv (stk)) : T Γ Δ es kc sl Q (pc) lv (.int (sJ y) :: .int (sJ x) :: .ref (tA Δ k) :: stk) := by
  obtain ⟨p, l', e, R', s, m, args, below, meth, c, nL'⟩ := Γ
  obtain ⟨hx, hb, hml, hown, hts, hKK, hlk, rfl, rfl, rfl⟩ := h
  intro H locs ls hP hS hl
  have hK := hKK.1
  have he1 : (tW Δ es)[k]? = some (tA Δ k, .inl (Δ.2.2.1 8, L, .inl (fun j => sJ (f j)))) := tW_at he
  refine W.bast hx hb (hP.1 k _ he1) ((hK.2 8 _ rfl).1 L (fun j => .int (sJ (f j)))) (fun q => by cases q) (by show ¬ (_ < 0 ∨ (arrV _ _ _).slots.size ≤ _); rw [arrV_size]; exact sJ_in hsx hin) rfl rfl hdg fun H1 e1 z1 oq => ?_
  have hP1 := hP.1.set hP.D he1 (e := tEnt Δ (tba L (fun j => if j = x.toNat then y else f j))) (by
    show H1[_]? = some (vp_cell _ _)
    rw [e1]
    rw [vp_cell_i, vp_cell_i, arrV_store, sJ_clamp hsx hin.1]
    congr 2
    funext q
    by_cases hq : q = x.toNat
    · subst hq
      have hn2 : Value.int (sJ y).toInt8.toInt32 = Value.int (sJ y) := by rw [← vp_nar_byte, hnar]
      simp [updV]
      exact hn2
    · simp [updV, hq]) oq
  exact kk (es.set k _) (List.getElem?_set_self (tlt he)) (fun j hj => List.getElem?_set_ne (fun z => hj z.symm)) (by rw [List.length_set]) H1 _ ls (hP.put hKK hP1 z1 oq) (hS.put z1 oq (hP.2.2.1 _ (Nat.le_add_right _ _))) hl
theorem T.blen {a L : Nat} {f : Nat → Int} (h : okG Γ Δ l R cc own nL) (hB : BT Δ es a L f) (hdg : decode cc pc = .ok (.arraylength, 1)) (kk : T Γ Δ es kc sl Q (pc + 1) lv (.int (sJ (L : Int)) :: stk)) : T Γ Δ es kc sl Q (pc) lv (.ref a :: stk) := by
  obtain ⟨p, l', e, R', s, m, args, below, meth, c, nL'⟩ := Γ
  obtain ⟨hx, hb, hml, hown, hts, hKK, hlk, rfl, rfl, rfl⟩ := h
  intro H locs ls hP hS hl
  obtain ⟨cell, h1, h2, h3, h4, h5, h6, -⟩ := hB s H hKK hS.2.1 hP
  exact W.alen (n := sJ (L : Int)) hx hb h1 h2 (h5.trans Int32.ofInt_eq_ofNat.symm) rfl rfl hdg (kk H locs ls hP hS hl)
theorem T.bald {a L : Nat} {f : Nat → Int} {x : Int} (h : okG Γ Δ l R cc own nL) (hB : BT Δ es a L f) (hsx : sR x) (hin : 0 ≤ x ∧ x < (L : Int)) (hdg : decode cc pc = .ok (.baload, 1)) (kk : T Γ Δ es kc sl Q (pc + 1) lv (.int (sJ (f x.toNat)) :: stk)) : T Γ Δ es kc sl Q (pc) lv (.int (sJ x) :: .ref a :: stk) := by
  obtain ⟨p, l', e, R', s, m, args, below, meth, c, nL'⟩ := Γ
  obtain ⟨hx, hb, hml, hown, hts, hKK, hlk, rfl, rfl, rfl⟩ := h
  intro H locs ls hP hS hl
  obtain ⟨cell, h1, h2, h3, h4, h5, h6, -⟩ := hB s H hKK hS.2.1 hP
  have hin' : ¬ (sJ x < 0 ∨ cell.slots.size ≤ (sJ x).toNatClampNeg) := by
    rw [sJ_clamp hsx hin.1, sJ_zero, sJ_lt hsx sR_0]
    omega
  exact W.bald (v := .int (sJ (f x.toNat))) hx hb h1 h2 h3 hin' (by rw [sJ_clamp hsx hin.1]; exact h6 _ (by omega)) rfl rfl hdg (kk H locs ls hP hS hl)
theorem T.sval {x v n ix : Nat} {f : Nat → Int} (h : okG Γ Δ l R cc own nL) (hE : ST Δ es x v n f) (hlink : Cond.fieldLink own ix "java/lang/String" "value" "[B" ∈ gW) (hdg : decode cc pc = .ok (.getfield ix, 3)) (kk : T Γ Δ es kc sl Q (pc + 3) lv (.ref v :: stk)) : T Γ Δ es kc sl Q (pc) lv (.ref x :: stk) := by
  obtain ⟨p, l', e, R', s, m, args, below, meth, c, nL'⟩ := Γ
  obtain ⟨hx, hb, hml, hown, hts, hKK, hlk, rfl, rfl, rfl⟩ := h
  intro H locs ls hP hS hl
  obtain ⟨cf, k, fi, f', cell, h1, h2, h3, h4, h5, h6⟩ := (hE s H hKK hS.2.1 hP).2.2.1
  exact W.getf hx hb hown (hts _ hlink) h1 h2 h3 h4 (v := .ref v) h5 rfl rfl hdg (kk H locs ls hP hS hl)
theorem T.scoder {x v n ix : Nat} {f : Nat → Int} (h : okG Γ Δ l R cc own nL) (hE : ST Δ es x v n f) (hlink : Cond.fieldLink own ix "java/lang/String" "coder" "B" ∈ gW) (hdg : decode cc pc = .ok (.getfield ix, 3)) (kk : T Γ Δ es kc sl Q (pc + 3) lv (.int (sJ 0) :: stk)) : T Γ Δ es kc sl Q (pc) lv (.ref x :: stk) := by
  obtain ⟨p, l', e, R', s, m, args, below, meth, c, nL'⟩ := Γ
  obtain ⟨hx, hb, hml, hown, hts, hKK, hlk, rfl, rfl, rfl⟩ := h
  intro H locs ls hP hS hl
  obtain ⟨cf, k, fi, f', cell, h1, h2, h3, h4, h5, h6⟩ := (hE s H hKK hS.2.1 hP).2.1
  exact W.getf hx hb hown (hts _ hlink) h1 h2 h3 h4 (v := .int (sJ 0)) h5 rfl rfl hdg (kk H locs ls hP hS hl)
theorem T.copy {k a L n0 ix : Nat} {f g : Nat → Int} {dp n : Int} (h : okG Γ Δ l R cc own nL) (hB : BT Δ es a n0 f) (he : es[k]? = some (tba L g)) (hL : L < 1000) (hn : 0 ≤ n ∧ n ≤ (n0 : Int)) (hd : 0 ≤ dp ∧ dp + n ≤ (L : Int)) (hfit : ∀ j : Nat, (j : Int) < n → 0 ≤ f j ∧ f j < 128) (hlink : Cond.methodLink own ix arraycopyName ∈ gW) (hnat : Cond.native arraycopyName ∈ gW) (hstat : Cond.static arraycopyName ∈ gW) (hini : Cond.initialized "java/lang/System" ∈ gW) (hR : 1 ≤ R.frames ∧ (stk.map fun v => v.category).sum + (nativeFrameWords "java/lang/System" "arraycopy" 5 + 11) ≤ R.locals) (hdg : decode cc pc = .ok (.invokestatic ix, 3))
    (kk : ∀ es1 : List TE, es1[k]? = some (tba L (fun j => if dp.toNat ≤ j ∧ j < dp.toNat + n.toNat then f (j - dp.toNat) else g j)) → (∀ j, j ≠ k → es1[j]? = es[j]?) → es1.length = es.length → T Γ Δ es1 kc sl Q (pc + 3) lv stk) : T Γ Δ es kc sl Q (pc) lv (.int (sJ n) :: .int (sJ dp) :: .ref (tA Δ k) :: .int (sJ 0) :: .ref a :: stk) := by
  obtain ⟨p, l', e, R', s, m, args, below, meth, c, nL'⟩ := Γ
  obtain ⟨hx, hb, hml, hown, hts, hKK, hlk, rfl, rfl, rfl⟩ := h
  intro H locs ls hP hS hl
  have hK := hKK.1
  have hsn : sR n := ⟨by omega, by omega⟩
  have hsd : sR dp := ⟨by omega, by omega⟩
  obtain ⟨scr, hc0, hs2, hs3, hs4, -, hs5, -⟩ := hB s H hKK hS.2.1 hP
  have he1 : (tW Δ es)[k]? = some (tA Δ k, .inl (Δ.2.2.1 8, L, .inl (fun j => sJ (g j)))) := tW_at he
  have hc1 : H[tA Δ k]? = some (vp_cell (Δ.2.2.1 8) (L, .inl (fun j => sJ (g j)))) := hP.1 k _ he1
  obtain ⟨hs6, k0, hk0, cm0, hkk0⟩ := hs2
  obtain ⟨-, k1, hk1, cm1, hkk1⟩ := (hK.2 8 _ rfl).1 L (fun j => .int (sJ (g j)))
  have z0 : (sJ 0).toNatClampNeg = 0 := rfl
  have zn : (sJ n).toNatClampNeg = n.toNat := sJ_clamp hsn hn.1
  have zd : (sJ dp).toNatClampNeg = dp.toNat := sJ_clamp hsd hd.1
  intro T hT X
  obtain ⟨vm', X', step⟩ := X.arraycopy hx hown (hts _ hlink) (hts _ hnat) (hts _ hstat) (hts _ hini) (src := a) (dst := tA Δ k) (cs := scr) (cd := vp_cell (Δ.2.2.1 8) (L, .inl (fun j => sJ (g j)))) (srcPos := sJ 0) (destPos := sJ dp) (n := sJ n) (by rw [hT]; exact hc0) (by rw [hT]; exact hc1)
    hs6 (fun _ h => by cases h) hs3 (fun h => by cases h) hk0 hk1 hkk0 hkk1 (by simp [refKind]) (by decide) (fun q => by rw [sJ_zero, sJ_lt hsd sR_0] at q; omega) (fun q => by rw [sJ_zero, sJ_lt hsn sR_0] at q; omega)
    (by rw [sJ_toInt sR_0, sJ_toInt hsn]; omega)
    (by rw [sJ_toInt hsd, sJ_toInt hsn]; show ¬ _ > ((arrV (Δ.2.2.1 8) L (fun j => .int (sJ (g j)))).slots.size : Int); rw [arrV_size]; omega)
    (fun vm₁ _ i hi => by
      rw [zn] at hi
      have e : scr.slots.getD ((sJ 0).toNatClampNeg + i) .null = .int (sJ (f i)) := by
        rw [z0, Nat.zero_add, Array.getD_eq_getD_getElem?, hs5 _ (by omega)]
        rfl
      have hf := hfit i (by omega)
      have hsf : sR (f i) := ⟨by omega, by omega⟩
      refine ⟨?_, ?_⟩
      · rw [e]
        show (decide (-128 ≤ sJ (f i)) && decide (sJ (f i) ≤ 127)) = true
        rw [show (-128 : Int32) = sJ (-128) from rfl, show (127 : Int32) = sJ 127 from rfl]
        simp only [Bool.and_eq_true, decide_eq_true_eq]
        exact ⟨(sJ_le (sR_l rfl) hsf).mpr (by omega), (sJ_le hsf (sR_l rfl)).mpr (by omega)⟩
      · rw [e]
        exact trivial)
    (g := F0 m pc ls (.int (sJ n) :: .int (sJ dp) :: .ref (tA Δ k) :: .int (sJ 0) :: .ref a :: stk)) rfl (by rw [hml]; exact hl.1) (rest := stk) rfl (by rw [hb]; exact hdg) hR.1 (by show 2 * 0 + _ + _ ≤ _; have := hR.2; omega)
  have e1 : copied scr (vp_cell (Δ.2.2.1 8) (L, .inl (fun j => sJ (g j)))) (sJ 0) (sJ dp) (sJ n) = vp_cell (Δ.2.2.1 8) (L, .inl (fun j => sJ (if dp.toNat ≤ j ∧ j < dp.toNat + n.toNat then f (j - dp.toNat) else g j))) := by
    have h9 : copied scr (vp_cell (Δ.2.2.1 8) (L, .inl (fun j => sJ (g j)))) (sJ 0) (sJ dp) (sJ n) = vp_cell (Δ.2.2.1 8) (L, .inl (va_cpy (fun j => sJ (f j)) (fun j => sJ (g j)) (sJ 0).toNatClampNeg (sJ dp).toNatClampNeg (sJ n).toNatClampNeg)) := va_copiedX (fun z => .int z) scr (Δ.2.2.1 8) (fun j => sJ (f j)) (fun j => sJ (g j)) hs5 (by rw [z0, zn]; omega)
    rw [h9, z0, zd, zn]
    congr 3
    funext j
    unfold va_cpy
    rw [Nat.zero_add]
    split <;> rfl
  rw [e1] at X' step
  generalize hnew : (vp_cell (Δ.2.2.1 8) (L, .inl (fun j => sJ (if dp.toNat ≤ j ∧ j < dp.toNat + n.toNat then f (j - dp.toNat) else g j)))) = nw at X' step
  have hlt : tA Δ k < H.size := (Array.getElem?_eq_some_iff.mp hc1).1
  have hheap : ((T.setVm vm').setCell (tA Δ k) nw).heap = H.setIfInBounds (tA Δ k) nw := by rw [← hT]; rfl
  have oq : ∀ q : Nat, q ≠ tA Δ k → (H.setIfInBounds (tA Δ k) nw)[q]? = H[q]? := fun q hq => by simp [Array.getElem?_setIfInBounds, Ne.symm hq]
  have z1 : (H.setIfInBounds (tA Δ k) nw).size = H.size := by simp
  have hP1 := hP.1.set hP.D he1 (e := tEnt Δ (tba L (fun j => if dp.toNat ≤ j ∧ j < dp.toNat + n.toNat then f (j - dp.toNat) else g j))) (show (H.setIfInBounds (tA Δ k) nw)[tA Δ k]? = some _ by rw [Array.getElem?_setIfInBounds, if_pos rfl, if_pos hlt, ← hnew]) oq
  obtain ⟨t, a1, b1⟩ := kk (es.set k _) (List.getElem?_set_self (tlt he)) (fun j hj => List.getElem?_set_ne (fun z => hj z.symm)) (by rw [List.length_set]) _ _ ls (hP.put hKK hP1 z1 oq) ⟨by rw [z1]; exact hS.1, fun q g1 g2 => by
      rw [oq q (fun e => g2 (by rw [e]; exact hP.2.2.1 _ (Nat.le_add_right _ _)))]
      exact hS.2.1 q g1 g2, fun q hq => by
      rcases List.mem_append.mp hq with h | h
      · exact hS.2.2 q h
      · obtain ⟨z, -, hz⟩ := List.mem_map.mp h
        rw [← hz]
        exact hP.2.2.1 _ (Nat.le_add_right _ _)⟩ hl _ hheap X'
  exact ⟨t, step t a1, b1⟩
theorem T.clone {k L ix : Nat} {f : Nat → Int} (h : okG Γ Δ l R cc own nL) (he : es[k]? = some (tba L f)) (hfit : ∀ j : Nat, j < L → 0 ≤ f j ∧ f j < 128) (hlink : Cond.methodLink own ix ⟨"[B", "clone", "()Ljava/lang/Object;"⟩ ∈ gW) (hsame : Cond.sameMethod "[B" "java/lang/Object" "clone" "()Ljava/lang/Object;" ∈ gW) (hnat : Cond.native ⟨"java/lang/Object", "clone", "()Ljava/lang/Object;"⟩ ∈ gW) (hinst : Cond.instanceMethod ⟨"java/lang/Object", "clone", "()Ljava/lang/Object;"⟩ ∈ gW) (hsel : Cond.selects "[B" ⟨"[B", "clone", "()Ljava/lang/Object;"⟩ ⟨"java/lang/Object", "clone", "()Ljava/lang/Object;"⟩ ∈ gW) (hcl : Cond.castable "[B" "java/lang/Cloneable" ∈ gX) (hR : 1 ≤ R.frames ∧ (stk.map fun v => v.category).sum + 14 ≤ R.locals ∧ kc + 1 ≤ R.cells ∧ sl + L ≤ R.slots) (hdg : decode cc pc = .ok (.invokevirtual ix, 3))
    (kk : ∀ es1 : List TE, es1[es.length]? = some (tba L f) → (∀ j, j < es.length → es1[j]? = es[j]?) → es1.length = es.length + 1 → T Γ Δ es1 (kc + 1) (sl + L) Q (pc + 3) lv (.ref (tA Δ es.length) :: stk)) : T Γ Δ es kc sl Q (pc) lv (.ref (tA Δ k) :: stk) := by
  obtain ⟨p, l', e, R', s, m, args, below, meth, c, nL'⟩ := Γ
  obtain ⟨hx, hb, hml, hown, hts, hKK, hlk, rfl, rfl, rfl⟩ := h
  intro H locs ls hP hS hl
  have hK := hKK.1
  have hc1 : H[tA Δ k]? = some (vp_cell (Δ.2.2.1 8) (L, .inl (fun j => sJ (f j)))) := hP.1 k _ (tW_at he)
  have hnm : s.vm.findClass "[B" = some (Δ.2.2.1 8) := va_nm_byte (hK.2 8 _ rfl).2
  obtain ⟨c0, t0', f1, f2, f3⟩ := Cond.castable_spec (va_Nw.use (A := args) rfl (hKK.2.2.2.2.1 _ hcl))
  cases hnm.symm.trans f1
  intro T hT X
  obtain ⟨-, kA, hkA, comp, hkind⟩ := State.isArrayOf_alike X.warmed.alike ((hK.2 8 _ rfl).1 0 (fun _ => .null))
  obtain ⟨-, kS, hkS, compS, hkindS⟩ := (hK.2 8 _ rfl).1 0 (fun _ => .null)
  obtain ⟨vm', X', st⟩ := X.cloneArray hx hown (hts _ hlink) (hts _ hsame) (hts _ hnat) (hts _ hinst) (hts _ hsel) (a := tA Δ k) (cell := vp_cell (Δ.2.2.1 8) (L, .inl (fun j => sJ (f j)))) (by rw [hT]; exact hc1) (fun k h => by cases h) (fun h => by cases h) hnm f2 f3
    (fun i v hv => by
      have hf : fits .byte v = true := va_fit (ty := .byte) (fun i hi => by
        have hf := hfit i hi
        have hsf : sR (f i) := ⟨by omega, by omega⟩
        show (decide (-128 ≤ sJ (f i)) && decide (sJ (f i) ≤ 127)) = true
        rw [show (-128 : Int32) = sJ (-128) from rfl, show (127 : Int32) = sJ 127 from rfl]
        simp only [Bool.and_eq_true, decide_eq_true_eq]
        exact ⟨(sJ_le (sR_l rfl) hsf).mpr (by omega), (sJ_le hsf (sR_l rfl)).mpr (by omega)⟩) i v hv
      have hk' : T.vm.classes[(vp_cell (Δ.2.2.1 8) (L, .inl (fun j => sJ (f j)))).cls]? = some kA := hkA
      simpa [State.fitsSlot, State.slotType?, hk', hkind] using hf)
    (g := F0 m pc ls (.ref (tA Δ k) :: stk)) rfl (by rw [hml]; exact hl.1) rfl (by rw [hb]; exact hdg) hR.1 (by show 2 * 0 + _ + 14 ≤ _; have := hR.2.1; omega) hR.2.2.1 (by show sl + (arrV _ _ _).slots.size ≤ _; rw [arrV_size]; exact hR.2.2.2) (hloader := Vm.clonesLoader_of_array hkS hkindS)
  have hcellE : ({ cls := (vp_cell (Δ.2.2.1 8) (L, .inl (fun j => sJ (f j)))).cls, slots := (vp_cell (Δ.2.2.1 8) (L, .inl (fun j => sJ (f j)))).slots } : Cell) = vp_cell (Δ.2.2.1 8) (L, .inl (fun j => sJ (f j))) := rfl
  have hsz : (vp_cell (Δ.2.2.1 8) (L, .inl (fun j => sJ (f j)))).slots.size = L := arrV_size _ _ _
  rw [hcellE, hsz] at X'
  generalize hH1 : H.push (vp_cell (Δ.2.2.1 8) (L, .inl (fun j => sJ (f j)))) = H1
  have z1 : H1.size = H.size + 1 := by rw [← hH1, Array.size_push]
  have e1 : H1[H.size]? = some (vp_cell (Δ.2.2.1 8) (L, .inl (fun j => sJ (f j)))) := by rw [← hH1, Array.getElem?_push_size]
  have o1 : ∀ q : Nat, q < H.size → H1[q]? = H[q]? := fun q hq => by rw [← hH1, Array.getElem?_push, if_neg (Nat.ne_of_lt hq)]
  have hz : H.size = tA Δ es.length := hP.2.1
  have kk := kk (es ++ [tba L f]) (by simp) (fun j hj => List.getElem?_append_left hj) (by simp) H1 locs ls (hP.push hKK o1 z1 e1) ⟨Nat.le_trans hS.1 (by omega), fun x h1 h2 => (o1 x (Nat.lt_of_lt_of_le h1 hS.1)).trans (hS.2.1 x h1 h2), hS.2.2⟩ hl
  rw [← hz] at kk
  obtain ⟨t, b1, b2⟩ := kk ((T.setVm vm').pushCell (vp_cell (Δ.2.2.1 8) (L, .inl (fun j => sJ (f j))))) (by rw [← hH1, ← hT]; rfl) X'
  refine ⟨t, st t ?_, b2⟩
  rw [hcellE, hT]
  exact b1
theorem T.castB {k L ix : Nat} {f : Nat → Int} (h : okG Γ Δ l R cc own nL) (he : es[k]? = some (tba L f)) (hlink : Cond.classLink own ix "[B" ∈ gW) (hdg : decode cc pc = .ok (.checkcast ix, 3)) (kk : T Γ Δ es kc sl Q (pc + 3) lv (.ref (tA Δ k) :: stk)) : T Γ Δ es kc sl Q (pc) lv (.ref (tA Δ k) :: stk) := by
  obtain ⟨p, l', e, R', s, m, args, below, meth, c, nL'⟩ := Γ
  obtain ⟨hx, hb, hml, hown, hts, hKK, hlk, rfl, rfl, rfl⟩ := h
  intro H locs ls hP hS hl
  have hK := hKK.1
  exact va_castA hx hb hown (hts _ hlink) hP.1 k (tW_at he) (va_nm_byte (hK.2 8 _ rfl).2) hdg (kk H locs ls hP hS hl)
end TROWS
/-! ===== contracts of the texts' methods ===== -/
def tPc (Δ : Wd) (av : List Value) (es : List TE) : Array Value → State → Prop := va_Pc av (fun U => sT Δ es U.heap ∧ KK Δ U)
def tQi (Δ : Wd) (Qp : Int → List TE → Prop) : Array Value → State → Outcome → State → Prop := va_Qi (fun (v : Int32) (u : Int × List TE) => v = sJ u.1 ∧ sR u.1 ∧ Qp u.1 u.2) (fun u t => sT Δ u.2 t.heap) (sFr Δ)
def tQv (Δ : Wd) (Qp : List TE → Prop) : Array Value → State → Outcome → State → Prop := va_Qv (fun (u : List TE) => Qp u) (fun u t => sT Δ u t.heap) (sFr Δ)
def tQr (Δ : Wd) (Qp : Nat → List TE → Prop) : Array Value → State → Outcome → State → Prop := va_Qr (fun (_ : List TE) => True) (fun u a t => Qp a u ∧ sT Δ u t.heap) (sFr Δ)
theorem tPc_blind {Δ : Wd} {av : List Value} {es : List TE} : FrameBlind (tPc Δ av es) := by
  intro a U g mk q
  exact ⟨q.1, q.2.1, KK_calling q.2.2⟩
theorem Tm.i {l : Launch} {Δ : Wd} {y : MethodName} {bytes : ByteArray} {maxL fr lo mc ms : Nat} {ret : Option FieldType} {av : List Value} {es : List TE} {ty : FieldType} {Qp : Int → List TE → Prop} (hy : plainName y.cls = true) (hret : ret = some ty) (hlen : (lg_sl av).length ≤ maxL) (walk : ∀ (Γ : Cx) (Q : State → Prop), okG Γ Δ l (sRx fr lo mc ms) bytes y.cls maxL → (∀ {pc : Nat} {lv : List (Nat × Value)} {x : Int} {es' : List TE} {kc sl : Nat}, decode bytes pc = .ok (.ireturn, 1) → sR x → narrow ty (.int (sJ x)) = .int (sJ x) → kc ≤ mc → sl ≤ ms → Qp x es' → T Γ Δ es' kc sl Q pc lv [.int (sJ x)]) → T Γ Δ es 0 0 Q 0 (lv_args 0 av) []) : Met l y (Cond.code y bytes maxL ret :: gW) (sRx fr lo mc ms) (tPc Δ av es) (tQi Δ Qp) mc ms (sFr Δ) := by
  refine Met.ofW (cc := bytes) (maxL := maxL) (ret := ret) hy rfl ?_
  intro p e s m args below meth c s₁ B hml hv
  obtain ⟨rfl, hP, hKK⟩ := hv
  have hts := atoms_spec (ws := Cond.code y bytes maxL ret :: gW) B.pre
  have hown : s.vm.findClass y.cls = some m.cls := findClass_of_methodNamed B.named
  have hlk : meth.locks = false := B.notSynchronized
  have hx := B.exec
  have hb := B.bytes
  have hr := B.returns
  have hl := lv_entry av (n := maxL) hlen
  rw [lg_entry_eq]
  generalize (lg_sl av ++ List.replicate (maxL - (lg_sl av).length) Slot.unset).toArray = ls at hl ⊢
  have hG : okG (p, l, e, sRx fr lo mc ms, s, m, av.toArray, below, meth, c, maxL) Δ l (sRx fr lo mc ms) bytes y.cls maxL := ⟨hx, hb, hml, hown, fun w hw => hts w (List.mem_cons_of_mem _ hw), hKK, hlk, rfl, rfl, rfl⟩
  refine walk _ _ hG ?_ s.heap [] ls hP va_S.rf hl
  intro pc lv x es' kc sl hdg hsx hnar hkc hsl hq H locs ls hP hS hl
  exact W.widen hkc hsl (W.zret (v := sJ x) hx hb (hr.trans hret) hnar (fun t ht hW => ⟨⟨sJ x, (x, es'), rfl, ⟨rfl, hsx, hq⟩, by rw [← ht] at hP; exact hP⟩, hS.F ht⟩) hS.2.2 hdg hlk)
theorem Tm.v {l : Launch} {Δ : Wd} {y : MethodName} {bytes : ByteArray} {maxL fr lo mc ms : Nat} {av : List Value} {es : List TE} {Qp : List TE → Prop} (hy : plainName y.cls = true) (hlen : (lg_sl av).length ≤ maxL) (walk : ∀ (Γ : Cx) (Q : State → Prop), okG Γ Δ l (sRx fr lo mc ms) bytes y.cls maxL → (y.name = "<init>" → okIni Γ) → (∀ {pc : Nat} {lv : List (Nat × Value)} {es' : List TE} {kc sl : Nat}, decode bytes pc = .ok (.return_, 1) → kc ≤ mc → sl ≤ ms → Qp es' → T Γ Δ es' kc sl Q pc lv []) → T Γ Δ es 0 0 Q 0 (lv_args 0 av) []) : Met l y (Cond.code y bytes maxL none :: gW) (sRx fr lo mc ms) (tPc Δ av es) (tQv Δ Qp) mc ms (sFr Δ) := by
  refine Met.ofW (cc := bytes) (maxL := maxL) (ret := none) hy rfl ?_
  intro p e s m args below meth c s₁ B hml hv
  obtain ⟨rfl, hP, hKK⟩ := hv
  have hts := atoms_spec (ws := Cond.code y bytes maxL none :: gW) B.pre
  have hown : s.vm.findClass y.cls = some m.cls := findClass_of_methodNamed B.named
  have hlk : meth.locks = false := B.notSynchronized
  have hx := B.exec
  have hb := B.bytes
  have hr := B.returns
  have hini : y.name = "<init>" → meth.name = "<init>" := fun hname => (name_of_methodNamed B.named B.method).1.trans hname
  have hl := lv_entry av (n := maxL) hlen
  rw [lg_entry_eq]
  generalize (lg_sl av ++ List.replicate (maxL - (lg_sl av).length) Slot.unset).toArray = ls at hl ⊢
  have hG : okG (p, l, e, sRx fr lo mc ms, s, m, av.toArray, below, meth, c, maxL) Δ l (sRx fr lo mc ms) bytes y.cls maxL := ⟨hx, hb, hml, hown, fun w hw => hts w (List.mem_cons_of_mem _ hw), hKK, hlk, rfl, rfl, rfl⟩
  refine walk _ _ hG hini ?_ s.heap [] ls hP va_S.rf hl
  intro pc lv es' kc sl hdg hkc hsl hq H locs ls hP hS hl
  exact W.widen hkc hsl (W.vret hx hb hr (fun t ht hW => ⟨⟨es', rfl, hq, by rw [← ht] at hP; exact hP⟩, hS.F ht⟩) hS.2.2 hdg hlk)
theorem Tm.r {l : Launch} {Δ : Wd} {y : MethodName} {bytes : ByteArray} {maxL fr lo mc ms : Nat} {ret : Option FieldType} {av : List Value} {es : List TE} {rt : FieldType} {Qp : Nat → List TE → Prop} (hy : plainName y.cls = true) (hret : ret = some rt) (hrt : (∃ n, rt = .object n) ∨ ∃ t, rt = .array t) (hlen : (lg_sl av).length ≤ maxL) (walk : ∀ (Γ : Cx) (Q : State → Prop), okG Γ Δ l (sRx fr lo mc ms) bytes y.cls maxL → (∀ {pc : Nat} {lv : List (Nat × Value)} {a : Nat} {es' : List TE} {kc sl : Nat}, decode bytes pc = .ok (.areturn, 1) → kc ≤ mc → sl ≤ ms → Qp a es' → T Γ Δ es' kc sl Q pc lv [.ref a]) → T Γ Δ es 0 0 Q 0 (lv_args 0 av) []) : Met l y (Cond.code y bytes maxL ret :: gW) (sRx fr lo mc ms) (tPc Δ av es) (tQr Δ Qp) mc ms (sFr Δ) := by
  refine Met.ofW (cc := bytes) (maxL := maxL) (ret := ret) hy rfl ?_
  intro p e s m args below meth c s₁ B hml hv
  obtain ⟨rfl, hP, hKK⟩ := hv
  have hts := atoms_spec (ws := Cond.code y bytes maxL ret :: gW) B.pre
  have hown : s.vm.findClass y.cls = some m.cls := findClass_of_methodNamed B.named
  have hlk : meth.locks = false := B.notSynchronized
  have hx := B.exec
  have hb := B.bytes
  have hr := B.returns
  have hl := lv_entry av (n := maxL) hlen
  rw [lg_entry_eq]
  generalize (lg_sl av ++ List.replicate (maxL - (lg_sl av).length) Slot.unset).toArray = ls at hl ⊢
  have hG : okG (p, l, e, sRx fr lo mc ms, s, m, av.toArray, below, meth, c, maxL) Δ l (sRx fr lo mc ms) bytes y.cls maxL := ⟨hx, hb, hml, hown, fun w hw => hts w (List.mem_cons_of_mem _ hw), hKK, hlk, rfl, rfl, rfl⟩
  refine walk _ _ hG ?_ s.heap [] ls hP va_S.rf hl
  intro pc lv a es' kc sl hdg hkc hsl hq H locs ls hP hS hl
  exact W.widen hkc hsl (W.aret (v := .ref a) hx hb (hr.trans hret) hrt (Or.inr ⟨a, rfl⟩) (fun t ht hW => ⟨⟨es', a, rfl, trivial, hq, by rw [← ht] at hP; exact hP⟩, hS.F ht⟩) hS.2.2 hdg hlk)
/-- who can be the receiver of a class's methods -/
def RV (Δ : Wd) (es : List TE) (a : Nat) (C : String) : Prop := ∀ (U : State) (H : Heap), KK Δ U → (∀ q : Nat, q < U.heap.size → ¬ sFr Δ q → H[q]? = U.heap[q]?) → sT Δ es H → ∃ cell : Cell, H[a]? = some cell ∧ cell.vm.isStatics = false ∧ U.vm.findClass C = some cell.cls
theorem RV.sb {Δ : Wd} {es : List TE} {k : Nat} {v : Option Nat} {n : Int} (he : es[k]? = some (tsb v n)) : RV Δ es (tA Δ k) "java/lang/StringBuilder" := fun U H hK hq hT => va_recv hK.1 hT.1 (show vwCl[14]? = some (RJ4, TJ4, 4) from rfl) (tW_at he)
theorem RV.st {Δ : Wd} {es : List TE} {x v n : Nat} {f : Nat → Int} (hE : ST Δ es x v n f) : RV Δ es x "java/lang/String" := fun U H hK hq hT => by
  obtain ⟨cell, h1, h2, h3, -⟩ := (hE U H hK hq hT).1
  exact ⟨cell, h1, h2, h3⟩
/-- a word that follows at every state of the tables -/
def tWd (Δ : Wd) (w : Cond) : Prop := ∀ (U : State) (A : Array Value), KK Δ U → (∀ w ∈ gW, w.before A U = true) → w.before A U = true
theorem tWd.of {Δ : Wd} {w : Cond} (h : w ∈ gW) : tWd Δ w := fun _ _ _ hts => hts _ h
section TCALL
variable {Γ : Cx} {Δ : Wd} {l : Launch} {R : Room} {es : List TE} {kc sl : Nat} {Q : State → Prop} {pc : Nat} {lv : List (Nat × Value)} {stk st0 As : List Value} {cc : ByteArray} {own : String} {nL : Nat}
section
variable {y : MethodName} {bytes : ByteArray} {maxL fr lo mc ms na ix : Nat} {ret : Option FieldType} {C : String} {a : Nat}
theorem T.callSi {Qp : Int → List TE → Prop} (h : okG Γ Δ l R cc own nL) (hM : Met l y (Cond.code y bytes maxL ret :: gW) (sRx fr lo mc ms) (tPc Δ As es) (tQi Δ Qp) mc ms (sFr Δ)) (hY : mY y bytes maxL ret na) (hl1 : Cond.methodLink own ix y ∈ gW) (hl2 : Cond.static y ∈ gW) (hR : fr + 1 ≤ R.frames ∧ 8 + (maxL + 11) + lo ≤ R.locals ∧ kc + mc ≤ R.cells ∧ sl + ms ≤ R.slots) (hlen : As.length = na) (hst : (stk.map fun v => v.category).sum ≤ 8) (hdg : decode cc pc = .ok (.invokestatic ix, 3)) (hs : st0 = As.reverse ++ stk) (kk : ∀ (x : Int) (es1 : List TE), sR x → Qp x es1 → T Γ Δ es1 (kc + mc) (sl + ms) Q (pc + 3) lv (.int (sJ x) :: stk)) : T Γ Δ es kc sl Q (pc) lv (st0) := by
  obtain ⟨p, l', e, R', s, m, args, below, meth, c, nL'⟩ := Γ
  obtain ⟨hx, hb, hml, hown, hts, hKK, hlk, rfl, rfl, rfl⟩ := h
  intro H locs ls hP hS hl
  subst hs
  obtain ⟨y1, y2, y3, y4, y5⟩ := hY
  exact va_calli (va_runS (As := As) (rest := stk) ⟨hx, hb, hml, hown, hts⟩ hM ⟨⟨rfl, rfl, hR.1, hR.2.1, gW_pay hts y2, List.mem_cons_self, hts _ y2, hts _ y1, ⟨y3, y4⟩, fun sig hh => by rw [hh] at y5; exact (Option.some.inj y5).symm, hts _ hl1⟩, hts _ hl2⟩ ⟨tPc_blind, fun U hU hW => ⟨rfl, by rw [hU]; exact hP, KK_warm hKK hW hS hU⟩⟩ rfl hlen hl.1 rfl (lv_room hst) hdg ⟨hR.2.2.1, hR.2.2.2⟩) hS (fun _ _ q => q) (fun _ q => q) (fun v u t H1 locs1 ht hvm hw hB hz1 hk1 hS1 => by
    obtain ⟨x, es1⟩ := u
    obtain ⟨rfl, g1, g2⟩ := hw
    have hB : sT Δ es1 t.heap := hB
    rw [ht] at hB
    exact kk x es1 g1 g2 H1 locs1 ls hB hS1 hl)
theorem T.callVi {Qp : Int → List TE → Prop} (h : okG Γ Δ l R cc own nL) (hM : Met l y (Cond.code y bytes maxL ret :: gW) (sRx fr lo mc ms) (tPc Δ (.ref a :: As) es) (tQi Δ Qp) mc ms (sFr Δ)) (hY : mY y bytes maxL ret na) (hl1 : Cond.methodLink own ix y ∈ gW) (hl2 : Cond.instanceMethod y ∈ gW) (hl3 : tWd Δ (Cond.selects C y y)) (hV : RV Δ es a C) (hR : fr + 1 ≤ R.frames ∧ 8 + (maxL + 11) + lo ≤ R.locals ∧ kc + mc ≤ R.cells ∧ sl + ms ≤ R.slots) (hlen : As.length = na) (hst : (stk.map fun v => v.category).sum ≤ 8) (hdg : decode cc pc = .ok (.invokevirtual ix, 3)) (hs : st0 = As.reverse ++ .ref a :: stk) (kk : ∀ (x : Int) (es1 : List TE), sR x → Qp x es1 → T Γ Δ es1 (kc + mc) (sl + ms) Q (pc + 3) lv (.int (sJ x) :: stk)) : T Γ Δ es kc sl Q (pc) lv (st0) := by
  obtain ⟨p, l', e, R', s, m, args, below, meth, c, nL'⟩ := Γ
  obtain ⟨hx, hb, hml, hown, hts, hKK, hlk, rfl, rfl, rfl⟩ := h
  intro H locs ls hP hS hl
  subst hs
  obtain ⟨y1, y2, y3, y4, y5⟩ := hY
  exact va_calli (va_runV (As := As) (rest := stk) ⟨hx, hb, hml, hown, hts⟩ hM ⟨⟨rfl, rfl, hR.1, hR.2.1, gW_pay hts y2, List.mem_cons_self, hts _ y2, hts _ y1, ⟨y3, y4⟩, fun sig hh => by rw [hh] at y5; exact (Option.some.inj y5).symm, hts _ hl1⟩, hts _ hl2, hl3 s args hKK hts⟩ ⟨tPc_blind, hV s H hKK hS.2.1 hP, fun U hU hW => ⟨rfl, by rw [hU]; exact hP, KK_warm hKK hW hS hU⟩⟩ rfl hlen hl.1 rfl (lv_room hst) hdg ⟨hR.2.2.1, hR.2.2.2⟩) hS (fun _ _ q => q) (fun _ q => q) (fun v u t H1 locs1 ht hvm hw hB hz1 hk1 hS1 => by
    obtain ⟨x, es1⟩ := u
    obtain ⟨rfl, g1, g2⟩ := hw
    have hB : sT Δ es1 t.heap := hB
    rw [ht] at hB
    exact kk x es1 g1 g2 H1 locs1 ls hB hS1 hl)
theorem T.callPi {Qp : Int → List TE → Prop} {ci N : Nat} {X : u_T} (h : okG Γ Δ l R cc own nL) (hM : Met l y (Cond.code y bytes maxL ret :: gW) (sRx fr lo mc ms) (tPc Δ (.ref a :: As) es) (tQi Δ Qp) mc ms (sFr Δ)) (hY : mY y bytes maxL ret na) (hl1 : Cond.methodLink own ix y ∈ gW) (hl2 : Cond.instanceMethod y ∈ gW) (hl3 : Cond.sameMethod y.cls y.cls y.name y.desc ∈ gW) (hl4 : tWd Δ (Cond.superclass own y.cls)) (hno : y.name ≠ "<init>") (hc : vwCl[ci]? = some (C, X, N)) (hV : RV Δ es a C) (hR : fr + 1 ≤ R.frames ∧ 8 + (maxL + 11) + lo ≤ R.locals ∧ kc + mc ≤ R.cells ∧ sl + ms ≤ R.slots) (hlen : As.length = na) (hst : (stk.map fun v => v.category).sum ≤ 8) (hdg : decode cc pc = .ok (.invokespecial ix, 3)) (hs : st0 = As.reverse ++ .ref a :: stk) (kk : ∀ (x : Int) (es1 : List TE), sR x → Qp x es1 → T Γ Δ es1 (kc + mc) (sl + ms) Q (pc + 3) lv (.int (sJ x) :: stk)) : T Γ Δ es kc sl Q (pc) lv (st0) := by
  obtain ⟨p, l', e, R', s, m, args, below, meth, c, nL'⟩ := Γ
  obtain ⟨hx, hb, hml, hown, hts, hKK, hlk, rfl, rfl, rfl⟩ := h
  intro H locs ls hP hS hl
  subst hs
  obtain ⟨y1, y2, y3, y4, y5⟩ := hY
  exact va_calli (va_runSU (As := As) (rest := stk) (hKK.1.1 ci _ hc).2 ⟨hx, hb, hml, hown, hts⟩ hM ⟨⟨rfl, rfl, hR.1, hR.2.1, gW_pay hts y2, List.mem_cons_self⟩, hts _ hl1, hts _ hl3, hl4 s args hKK hts, hts _ hl2, hts _ y1, hts _ y2, hno, fun sig hh => by rw [hh] at y5; exact (Option.some.inj y5).symm⟩ ⟨tPc_blind, hV s H hKK hS.2.1 hP, fun U hU hW => ⟨rfl, by rw [hU]; exact hP, KK_warm hKK hW hS hU⟩⟩ rfl hlen hl.1 rfl (lv_room hst) hdg ⟨hR.2.2.1, hR.2.2.2⟩) hS (fun _ _ q => q) (fun _ q => q) (fun v u t H1 locs1 ht hvm hw hB hz1 hk1 hS1 => by
    obtain ⟨x, es1⟩ := u
    obtain ⟨rfl, g1, g2⟩ := hw
    have hB : sT Δ es1 t.heap := hB
    rw [ht] at hB
    exact kk x es1 g1 g2 H1 locs1 ls hB hS1 hl)
theorem T.callSv {Qp : List TE → Prop} (h : okG Γ Δ l R cc own nL) (hM : Met l y (Cond.code y bytes maxL ret :: gW) (sRx fr lo mc ms) (tPc Δ As es) (tQv Δ Qp) mc ms (sFr Δ)) (hY : mY y bytes maxL ret na) (hl1 : Cond.methodLink own ix y ∈ gW) (hl2 : Cond.static y ∈ gW) (hR : fr + 1 ≤ R.frames ∧ 8 + (maxL + 11) + lo ≤ R.locals ∧ kc + mc ≤ R.cells ∧ sl + ms ≤ R.slots) (hlen : As.length = na) (hst : (stk.map fun v => v.category).sum ≤ 8) (hdg : decode cc pc = .ok (.invokestatic ix, 3)) (hs : st0 = As.reverse ++ stk) (kk : ∀ es1 : List TE, Qp es1 → T Γ Δ es1 (kc + mc) (sl + ms) Q (pc + 3) lv stk) : T Γ Δ es kc sl Q (pc) lv (st0) := by
  obtain ⟨p, l', e, R', s, m, args, below, meth, c, nL'⟩ := Γ
  obtain ⟨hx, hb, hml, hown, hts, hKK, hlk, rfl, rfl, rfl⟩ := h
  intro H locs ls hP hS hl
  subst hs
  obtain ⟨y1, y2, y3, y4, y5⟩ := hY
  exact va_callv (va_runS (As := As) (rest := stk) ⟨hx, hb, hml, hown, hts⟩ hM ⟨⟨rfl, rfl, hR.1, hR.2.1, gW_pay hts y2, List.mem_cons_self, hts _ y2, hts _ y1, ⟨y3, y4⟩, fun sig hh => by rw [hh] at y5; exact (Option.some.inj y5).symm, hts _ hl1⟩, hts _ hl2⟩ ⟨tPc_blind, fun U hU hW => ⟨rfl, by rw [hU]; exact hP, KK_warm hKK hW hS hU⟩⟩ rfl hlen hl.1 rfl (lv_room hst) hdg ⟨hR.2.2.1, hR.2.2.2⟩) hS (fun _ _ q => q) (fun _ q => q) (fun u t H1 locs1 ht hvm hw hB hz1 hk1 hS1 => by
    have hB : sT Δ u t.heap := hB
    rw [ht] at hB
    exact kk u hw H1 locs1 ls hB hS1 hl)
theorem T.callVv {Qp : List TE → Prop} (h : okG Γ Δ l R cc own nL) (hM : Met l y (Cond.code y bytes maxL ret :: gW) (sRx fr lo mc ms) (tPc Δ (.ref a :: As) es) (tQv Δ Qp) mc ms (sFr Δ)) (hY : mY y bytes maxL ret na) (hl1 : Cond.methodLink own ix y ∈ gW) (hl2 : Cond.instanceMethod y ∈ gW) (hl3 : tWd Δ (Cond.selects C y y)) (hV : RV Δ es a C) (hR : fr + 1 ≤ R.frames ∧ 8 + (maxL + 11) + lo ≤ R.locals ∧ kc + mc ≤ R.cells ∧ sl + ms ≤ R.slots) (hlen : As.length = na) (hst : (stk.map fun v => v.category).sum ≤ 8) (hdg : decode cc pc = .ok (.invokevirtual ix, 3)) (hs : st0 = As.reverse ++ .ref a :: stk) (kk : ∀ es1 : List TE, Qp es1 → T Γ Δ es1 (kc + mc) (sl + ms) Q (pc + 3) lv stk) : T Γ Δ es kc sl Q (pc) lv (st0) := by
  obtain ⟨p, l', e, R', s, m, args, below, meth, c, nL'⟩ := Γ
  obtain ⟨hx, hb, hml, hown, hts, hKK, hlk, rfl, rfl, rfl⟩ := h
  intro H locs ls hP hS hl
  subst hs
  obtain ⟨y1, y2, y3, y4, y5⟩ := hY
  exact va_callv (va_runV (As := As) (rest := stk) ⟨hx, hb, hml, hown, hts⟩ hM ⟨⟨rfl, rfl, hR.1, hR.2.1, gW_pay hts y2, List.mem_cons_self, hts _ y2, hts _ y1, ⟨y3, y4⟩, fun sig hh => by rw [hh] at y5; exact (Option.some.inj y5).symm, hts _ hl1⟩, hts _ hl2, hl3 s args hKK hts⟩ ⟨tPc_blind, hV s H hKK hS.2.1 hP, fun U hU hW => ⟨rfl, by rw [hU]; exact hP, KK_warm hKK hW hS hU⟩⟩ rfl hlen hl.1 rfl (lv_room hst) hdg ⟨hR.2.2.1, hR.2.2.2⟩) hS (fun _ _ q => q) (fun _ q => q) (fun u t H1 locs1 ht hvm hw hB hz1 hk1 hS1 => by
    have hB : sT Δ u t.heap := hB
    rw [ht] at hB
    exact kk u hw H1 locs1 ls hB hS1 hl)
theorem T.callPv {Qp : List TE → Prop} {ci N : Nat} {X : u_T} (h : okG Γ Δ l R cc own nL) (hM : Met l y (Cond.code y bytes maxL ret :: gW) (sRx fr lo mc ms) (tPc Δ (.ref a :: As) es) (tQv Δ Qp) mc ms (sFr Δ)) (hY : mY y bytes maxL ret na) (hl1 : Cond.methodLink own ix y ∈ gW) (hl2 : Cond.instanceMethod y ∈ gW) (hl3 : Cond.sameMethod y.cls y.cls y.name y.desc ∈ gW) (hl4 : tWd Δ (Cond.superclass own y.cls)) (hno : y.name ≠ "<init>") (hc : vwCl[ci]? = some (C, X, N)) (hV : RV Δ es a C) (hR : fr + 1 ≤ R.frames ∧ 8 + (maxL + 11) + lo ≤ R.locals ∧ kc + mc ≤ R.cells ∧ sl + ms ≤ R.slots) (hlen : As.length = na) (hst : (stk.map fun v => v.category).sum ≤ 8) (hdg : decode cc pc = .ok (.invokespecial ix, 3)) (hs : st0 = As.reverse ++ .ref a :: stk) (kk : ∀ es1 : List TE, Qp es1 → T Γ Δ es1 (kc + mc) (sl + ms) Q (pc + 3) lv stk) : T Γ Δ es kc sl Q (pc) lv (st0) := by
  obtain ⟨p, l', e, R', s, m, args, below, meth, c, nL'⟩ := Γ
  obtain ⟨hx, hb, hml, hown, hts, hKK, hlk, rfl, rfl, rfl⟩ := h
  intro H locs ls hP hS hl
  subst hs
  obtain ⟨y1, y2, y3, y4, y5⟩ := hY
  exact va_callv (va_runSU (As := As) (rest := stk) (hKK.1.1 ci _ hc).2 ⟨hx, hb, hml, hown, hts⟩ hM ⟨⟨rfl, rfl, hR.1, hR.2.1, gW_pay hts y2, List.mem_cons_self⟩, hts _ hl1, hts _ hl3, hl4 s args hKK hts, hts _ hl2, hts _ y1, hts _ y2, hno, fun sig hh => by rw [hh] at y5; exact (Option.some.inj y5).symm⟩ ⟨tPc_blind, hV s H hKK hS.2.1 hP, fun U hU hW => ⟨rfl, by rw [hU]; exact hP, KK_warm hKK hW hS hU⟩⟩ rfl hlen hl.1 rfl (lv_room hst) hdg ⟨hR.2.2.1, hR.2.2.2⟩) hS (fun _ _ q => q) (fun _ q => q) (fun u t H1 locs1 ht hvm hw hB hz1 hk1 hS1 => by
    have hB : sT Δ u t.heap := hB
    rw [ht] at hB
    exact kk u hw H1 locs1 ls hB hS1 hl)
theorem T.callSr {Qp : Nat → List TE → Prop} (h : okG Γ Δ l R cc own nL) (hM : Met l y (Cond.code y bytes maxL ret :: gW) (sRx fr lo mc ms) (tPc Δ As es) (tQr Δ Qp) mc ms (sFr Δ)) (hY : mY y bytes maxL ret na) (hl1 : Cond.methodLink own ix y ∈ gW) (hl2 : Cond.static y ∈ gW) (hR : fr + 1 ≤ R.frames ∧ 8 + (maxL + 11) + lo ≤ R.locals ∧ kc + mc ≤ R.cells ∧ sl + ms ≤ R.slots) (hlen : As.length = na) (hst : (stk.map fun v => v.category).sum ≤ 8) (hdg : decode cc pc = .ok (.invokestatic ix, 3)) (hs : st0 = As.reverse ++ stk) (kk : ∀ (b : Nat) (es1 : List TE), Qp b es1 → T Γ Δ es1 (kc + mc) (sl + ms) Q (pc + 3) lv (.ref b :: stk)) : T Γ Δ es kc sl Q (pc) lv (st0) := by
  obtain ⟨p, l', e, R', s, m, args, below, meth, c, nL'⟩ := Γ
  obtain ⟨hx, hb, hml, hown, hts, hKK, hlk, rfl, rfl, rfl⟩ := h
  intro H locs ls hP hS hl
  subst hs
  obtain ⟨y1, y2, y3, y4, y5⟩ := hY
  exact va_callr (va_runS (As := As) (rest := stk) ⟨hx, hb, hml, hown, hts⟩ hM ⟨⟨rfl, rfl, hR.1, hR.2.1, gW_pay hts y2, List.mem_cons_self, hts _ y2, hts _ y1, ⟨y3, y4⟩, fun sig hh => by rw [hh] at y5; exact (Option.some.inj y5).symm, hts _ hl1⟩, hts _ hl2⟩ ⟨tPc_blind, fun U hU hW => ⟨rfl, by rw [hU]; exact hP, KK_warm hKK hW hS hU⟩⟩ rfl hlen hl.1 rfl (lv_room hst) hdg ⟨hR.2.2.1, hR.2.2.2⟩) hS (fun _ _ q => q) (fun _ q => q) (fun u b t H1 locs1 ht hvm hw hB hz1 hk1 hS1 => by
    obtain ⟨hq, hB⟩ := hB
    rw [ht] at hB
    exact kk b u hq H1 locs1 ls hB hS1 hl)
theorem T.callVr {Qp : Nat → List TE → Prop} (h : okG Γ Δ l R cc own nL) (hM : Met l y (Cond.code y bytes maxL ret :: gW) (sRx fr lo mc ms) (tPc Δ (.ref a :: As) es) (tQr Δ Qp) mc ms (sFr Δ)) (hY : mY y bytes maxL ret na) (hl1 : Cond.methodLink own ix y ∈ gW) (hl2 : Cond.instanceMethod y ∈ gW) (hl3 : tWd Δ (Cond.selects C y y)) (hV : RV Δ es a C) (hR : fr + 1 ≤ R.frames ∧ 8 + (maxL + 11) + lo ≤ R.locals ∧ kc + mc ≤ R.cells ∧ sl + ms ≤ R.slots) (hlen : As.length = na) (hst : (stk.map fun v => v.category).sum ≤ 8) (hdg : decode cc pc = .ok (.invokevirtual ix, 3)) (hs : st0 = As.reverse ++ .ref a :: stk) (kk : ∀ (b : Nat) (es1 : List TE), Qp b es1 → T Γ Δ es1 (kc + mc) (sl + ms) Q (pc + 3) lv (.ref b :: stk)) : T Γ Δ es kc sl Q (pc) lv (st0) := by
  obtain ⟨p, l', e, R', s, m, args, below, meth, c, nL'⟩ := Γ
  obtain ⟨hx, hb, hml, hown, hts, hKK, hlk, rfl, rfl, rfl⟩ := h
  intro H locs ls hP hS hl
  subst hs
  obtain ⟨y1, y2, y3, y4, y5⟩ := hY
  exact va_callr (va_runV (As := As) (rest := stk) ⟨hx, hb, hml, hown, hts⟩ hM ⟨⟨rfl, rfl, hR.1, hR.2.1, gW_pay hts y2, List.mem_cons_self, hts _ y2, hts _ y1, ⟨y3, y4⟩, fun sig hh => by rw [hh] at y5; exact (Option.some.inj y5).symm, hts _ hl1⟩, hts _ hl2, hl3 s args hKK hts⟩ ⟨tPc_blind, hV s H hKK hS.2.1 hP, fun U hU hW => ⟨rfl, by rw [hU]; exact hP, KK_warm hKK hW hS hU⟩⟩ rfl hlen hl.1 rfl (lv_room hst) hdg ⟨hR.2.2.1, hR.2.2.2⟩) hS (fun _ _ q => q) (fun _ q => q) (fun u b t H1 locs1 ht hvm hw hB hz1 hk1 hS1 => by
    obtain ⟨hq, hB⟩ := hB
    rw [ht] at hB
    exact kk b u hq H1 locs1 ls hB hS1 hl)
theorem T.callPr {Qp : Nat → List TE → Prop} {ci N : Nat} {X : u_T} (h : okG Γ Δ l R cc own nL) (hM : Met l y (Cond.code y bytes maxL ret :: gW) (sRx fr lo mc ms) (tPc Δ (.ref a :: As) es) (tQr Δ Qp) mc ms (sFr Δ)) (hY : mY y bytes maxL ret na) (hl1 : Cond.methodLink own ix y ∈ gW) (hl2 : Cond.instanceMethod y ∈ gW) (hl3 : Cond.sameMethod y.cls y.cls y.name y.desc ∈ gW) (hl4 : tWd Δ (Cond.superclass own y.cls)) (hno : y.name ≠ "<init>") (hc : vwCl[ci]? = some (C, X, N)) (hV : RV Δ es a C) (hR : fr + 1 ≤ R.frames ∧ 8 + (maxL + 11) + lo ≤ R.locals ∧ kc + mc ≤ R.cells ∧ sl + ms ≤ R.slots) (hlen : As.length = na) (hst : (stk.map fun v => v.category).sum ≤ 8) (hdg : decode cc pc = .ok (.invokespecial ix, 3)) (hs : st0 = As.reverse ++ .ref a :: stk) (kk : ∀ (b : Nat) (es1 : List TE), Qp b es1 → T Γ Δ es1 (kc + mc) (sl + ms) Q (pc + 3) lv (.ref b :: stk)) : T Γ Δ es kc sl Q (pc) lv (st0) := by
  obtain ⟨p, l', e, R', s, m, args, below, meth, c, nL'⟩ := Γ
  obtain ⟨hx, hb, hml, hown, hts, hKK, hlk, rfl, rfl, rfl⟩ := h
  intro H locs ls hP hS hl
  subst hs
  obtain ⟨y1, y2, y3, y4, y5⟩ := hY
  exact va_callr (va_runSU (As := As) (rest := stk) (hKK.1.1 ci _ hc).2 ⟨hx, hb, hml, hown, hts⟩ hM ⟨⟨rfl, rfl, hR.1, hR.2.1, gW_pay hts y2, List.mem_cons_self⟩, hts _ hl1, hts _ hl3, hl4 s args hKK hts, hts _ hl2, hts _ y1, hts _ y2, hno, fun sig hh => by rw [hh] at y5; exact (Option.some.inj y5).symm⟩ ⟨tPc_blind, hV s H hKK hS.2.1 hP, fun U hU hW => ⟨rfl, by rw [hU]; exact hP, KK_warm hKK hW hS hU⟩⟩ rfl hlen hl.1 rfl (lv_room hst) hdg ⟨hR.2.2.1, hR.2.2.2⟩) hS (fun _ _ q => q) (fun _ q => q) (fun u b t H1 locs1 ht hvm hw hB hz1 hk1 hS1 => by
    obtain ⟨hq, hB⟩ := hB
    rw [ht] at hB
    exact kk b u hq H1 locs1 ls hB hS1 hl)
theorem T.callI {Qp : List TE → Prop} (h : okG Γ Δ l R cc own nL) (hM : Met l y (Cond.code y bytes maxL none :: gW) (sRx fr lo mc ms) (tPc Δ (.ref a :: As) es) (tQv Δ Qp) mc ms (sFr Δ)) (hY : mY y bytes maxL none na) (hname : y.name = "<init>") (hl1 : Cond.methodLink own ix y ∈ gW) (hl2 : Cond.instanceMethod y ∈ gW) (hR : fr + 1 ≤ R.frames ∧ 8 + (maxL + 11) + lo ≤ R.locals ∧ kc + mc ≤ R.cells ∧ sl + ms ≤ R.slots) (hlen : As.length = na) (hst : (stk.map fun v => v.category).sum ≤ 8) (hdg : decode cc pc = .ok (.invokespecial ix, 3)) (hs : st0 = As.reverse ++ .ref a :: stk) (kk : ∀ es1 : List TE, Qp es1 → T Γ Δ es1 (kc + mc) (sl + ms) Q (pc + 3) lv stk) : T Γ Δ es kc sl Q (pc) lv (st0) := by
  obtain ⟨p, l', e, R', s, m, args, below, meth, c, nL'⟩ := Γ
  obtain ⟨hx, hb, hml, hown, hts, hKK, hlk, rfl, rfl, rfl⟩ := h
  intro H locs ls hP hS hl
  subst hs
  obtain ⟨y1, y2, y3, y4, y5⟩ := hY
  exact va_callv (va_runI (As := As) (rest := stk) ⟨hx, hb, hml, hown, hts⟩ hM ⟨⟨rfl, rfl, hR.1, hR.2.1, gW_pay hts y2, List.mem_cons_self, hts _ y2, hts _ y1, ⟨y3, y4⟩, fun sig hh => by rw [hh] at y5; exact (Option.some.inj y5).symm, hts _ hl1⟩, hname, hts _ hl2⟩ ⟨tPc_blind, fun U hU hW => ⟨rfl, by rw [hU]; exact hP, KK_warm hKK hW hS hU⟩⟩ rfl hlen hl.1 rfl (lv_room hst) hdg ⟨hR.2.2.1, hR.2.2.2⟩) hS (fun _ _ q => q) (fun _ q => q) (fun u t H1 locs1 ht hvm hw hB hz1 hk1 hS1 => by
    have hB : sT Δ u t.heap := hB
    rw [ht] at hB
    exact kk u hw H1 locs1 ls hB hS1 hl)
theorem T.callO {Qp : Int → List TE → Prop} {x0 : MethodName} {owner : String} {b0 : ByteArray} {m0 : Nat} {r0 : Option FieldType} (h : okG Γ Δ l R cc own nL) (hM : Met l y (Cond.code y bytes maxL ret :: gW) (sRx fr lo mc ms) (tPc Δ (.ref a :: As) es) (tQi Δ Qp) mc ms (sFr Δ)) (hY : mY y bytes maxL ret na) (hG : GoodIn gW (va_wsO own ix C owner x0 y (Cond.code y bytes maxL ret :: gW))) (h0 : Cond.code ⟨owner, x0.name, x0.desc⟩ b0 m0 r0 ∈ gW) (hd : owner ≠ "java/lang/invoke/MethodHandle" ∧ owner ≠ "java/lang/invoke/VarHandle" ∧ (parseMethodDescriptor x0.desc).map (fun d => d.parameters.length) = some na) (hV : RV Δ es a C) (hR : fr + 1 ≤ R.frames ∧ 8 + (maxL + 11) + lo ≤ R.locals ∧ kc + mc ≤ R.cells ∧ sl + ms ≤ R.slots) (hlen : As.length = na) (hst : (stk.map fun v => v.category).sum ≤ 8) (hdg : decode cc pc = .ok (.invokevirtual ix, 3)) (hs : st0 = As.reverse ++ .ref a :: stk) (kk : ∀ (x : Int) (es1 : List TE), sR x → Qp x es1 → T Γ Δ es1 (kc + mc) (sl + ms) Q (pc + 3) lv (.int (sJ x) :: stk)) : T Γ Δ es kc sl Q (pc) lv (st0) := by
  obtain ⟨p, l', e, R', s, m, args, below, meth, c, nL'⟩ := Γ
  obtain ⟨hx, hb, hml, hown, hts, hKK, hlk, rfl, rfl, rfl⟩ := h
  intro H locs ls hP hS hl
  subst hs
  obtain ⟨y1, y2, y3, y4, y5⟩ := hY
  exact va_calli (va_runU (As := As) (rest := stk) ⟨hx, hb, hml, hown, hts⟩ hM (va_cwO (Ts := gW) na hts hG rfl rfl rfl h0 hd ⟨hR.1, hR.2.1⟩) ⟨tPc_blind, hV s H hKK hS.2.1 hP, fun U hU hW => ⟨rfl, by rw [hU]; exact hP, KK_warm hKK hW hS hU⟩⟩ rfl hlen hl.1 rfl (lv_room hst) hdg ⟨hR.2.2.1, hR.2.2.2⟩) hS (fun _ _ q => q) (fun _ q => q) (fun v u t H1 locs1 ht hvm hw hB hz1 hk1 hS1 => by
    obtain ⟨x, es1⟩ := u
    obtain ⟨rfl, g1, g2⟩ := hw
    have hB : sT Δ es1 t.heap := hB
    rw [ht] at hB
    exact kk x es1 g1 g2 H1 locs1 ls hB hS1 hl)
end
end TCALL
