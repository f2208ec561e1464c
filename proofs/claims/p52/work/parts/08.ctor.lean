/-! ===== constructors: the heap's size is exact, objects come in their order ===== -/
def zr (i r : MI) (n : Int) : Prop := (∀ k, i n k = 0) ∧ ∀ k, r n k = 0
theorem ws_push (Δ : Wd) (n : Nat) (i r : MI) : sWs Δ (n + 1) i r = sWs Δ n i r ++ [(Δ.2.2.2.1 + n, sEnt Δ (lay n) (i n) (r n))] := by
  unfold sWs
  rw [List.range_succ, List.map_append]
  rfl
theorem sA_nat (Δ : Wd) (n : Nat) : sA Δ (n : Int) = Δ.2.2.2.1 + n := rfl
theorem ws_grow {Δ : Wd} {n : Nat} {i r : MI} {H H1 : Heap} {e : va_E} (hP : va_P (sG Δ) vwCl (sWs Δ n i r) H) (ho : ∀ q : Nat, q < H.size → H1[q]? = H[q]?) (he : e = sEnt Δ (lay n) (i n) (r n)) (hat : va_at (sG Δ) vwCl (Δ.2.2.2.1 + n, e) H1) : va_P (sG Δ) vwCl (sWs Δ (n + 1) i r) H1 := by
  rw [ws_push]
  refine va_P.app (hP.kept (fun k x hx => ho x.1 ((hP k x hx).lt))) (fun k x hx => ?_)
  have hk : k < 1 := (List.getElem?_eq_some_iff.mp hx).1
  rw [show k = 0 by omega] at hx
  cases hx
  rw [← he]
  exact hat
theorem sH.grow {Δ : Wd} {U : State} {n : Nat} {i r : MI} {H H1 : Heap} {e : va_E} (hK : KK Δ U) (hP : sH Δ n i r H) (hup : ∀ q, Δ.2.2.2.1 ≤ q → sFr Δ q) (ho : ∀ q : Nat, q < H.size → H1[q]? = H[q]?) (he : e = sEnt Δ (lay n) (i n) (r n)) (hat : va_at (sG Δ) vwCl (Δ.2.2.2.1 + n, e) H1) : sH Δ (n + 1) i r H1 := ⟨ws_grow hP.1 ho he hat, fun k _ => hup _ (Nat.le_add_right _ _), sE_old hK hP.2.2 ho⟩
theorem arrV_ext {c : ClassId} {N : Nat} {f g : Nat → Value} (h : ∀ j, j < N → f j = g j) : arrV c N f = arrV c N g := by
  unfold arrV
  congr 1
  apply Array.ext_getElem?
  intro j
  by_cases hj : j < N
  · simp [hj, h j hj]
  · simp [hj]
section VCTOR
variable {Γ : Cx} {Δ : Wd} {l : Launch} {R : Room} {n : Nat} {i r : MI} {kc sl : Nat} {Q : State → Prop} {pc : Nat} {lv lv' : List (Nat × Value)} {stk st0 As : List Value} {cc : ByteArray} {own : String} {nL : Nat}
theorem V.ks {kc2 sl2 : Nat} {ex : Bool} (h1 : kc ≤ kc2) (h2 : sl ≤ sl2) (kk : V Γ Δ n ex i r kc2 sl2 Q pc lv stk) : V Γ Δ n ex i r kc sl Q pc lv stk := by
  obtain ⟨p, l', e, R', s, m, args, below, meth, c, nL'⟩ := Γ
  intro H locs ls hP hz hS hl
  exact W.widen h1 h2 (kk H locs ls hP hz hS hl)
theorem V.nn {n2 : Nat} {ex : Bool} (h1 : n = n2) (kk : V Γ Δ n2 ex i r kc sl Q pc lv stk) : V Γ Δ n ex i r kc sl Q pc lv stk := h1 ▸ kk
theorem V.cnew {ci N ix : Nat} {C : String} {T : u_T} {ty : Nat → FieldType} (h : okG Γ Δ l R cc own nL) (hin : ∀ w ∈ u_ws C T N, w ∈ gW) (hc : vwCl[ci]? = some (C, T, N)) (hty : ∀ k, k < N → parseFieldDescriptor (T k).2.2.1 = some (ty k)) (hl1 : Cond.classLink own ix C ∈ gW) (hl2 : Cond.instantiable C N ∈ gW) (hl3 : Cond.initialized C ∈ gW) (hlay : lay n = (ci, 0)) (hci : ci < 20) (hN : nfd ci = N) (hdef : ∀ j, j < N → defaultValue (ty j) = if rfk ci j then .null else .int 0) (hz0 : zr i r n) (hR : kc + 1 ≤ R.cells ∧ sl + N ≤ R.slots) (hdg : decode cc pc = .ok (.new ix, 3)) (kk : V Γ Δ (n + 1) true i r (kc + 1) (sl + N) Q (pc + 3) lv (.ref (sA Δ n) :: stk)) : V Γ Δ n true i r kc sl Q (pc) lv (stk) := by
  obtain ⟨p, l', e, R', s, m, args, below, meth, c, nL'⟩ := Γ
  obtain ⟨hx, hb, hml, hown, hts, hKK, hlk, rfl, rfl, rfl⟩ := h
  intro H locs ls hP hz hS hl
  obtain ⟨hsz, hup⟩ := hz rfl
  have hK := hKK.1
  have hKn := hK.1 ci _ hc
  refine W.newcK hx hb hown (hts _ hl1) (hts _ hl2) (hts _ hl3) rfl hdg hR.1 hR.2 hKn.2.1 rfl fun H1 kC hkC e1 z1 o1 => ?_
  rw [hsz] at e1 o1 z1 ⊢
  refine kk H1 locs ls (sH.grow hKK hP hup (fun q hq => o1 q (by rw [← hsz]; exact hq)) rfl ?_) (fun _ => ⟨by rw [z1]; omega, hup⟩) ⟨Nat.le_trans hS.1 (by omega), fun x h1 h2 => (o1 x (by rw [← hsz]; exact Nat.lt_of_lt_of_le h1 hS.1)).trans (hS.2.1 x h1 h2), hS.2.2⟩ hl
  rw [hlay, sEnt_o hci]
  refine ⟨_, hc, (u_born ty hts hin hKn hkC e1 hty).to (fun j hj => ?_)⟩
  unfold vp_V
  rw [List.getD_eq_getElem?_getD, sFs_at (by rw [hN]; exact hj), hdef j hj]
  unfold sFld
  rw [hz0.1, hz0.2]
  cases rfk ci j <;> rfl
theorem V.cnewaI {x : Int} {z : Nat} (h : okG Γ Δ l R cc own nL) (harr : Cond.arrayClass .int ∈ gW) (hlay : lay n = (20, z)) (hxz : x = z) (hz2 : z < 2147483648) (hby : z * 8 ≤ 536870912) (hz0 : zr i r n) (hR : kc + 1 ≤ R.cells ∧ sl + z ≤ R.slots) (hdg : decode cc pc = .ok (.newarray .int, 2)) (kk : V Γ Δ (n + 1) true i r (kc + 1) (sl + z) Q (pc + 2) lv (.ref (sA Δ n) :: stk)) : V Γ Δ n true i r kc sl Q (pc) lv (.int (sJ x) :: stk) := by
  obtain ⟨p, l', e, R', s, m, args, below, meth, c, nL'⟩ := Γ
  obtain ⟨hx, hb, hml, hown, hts, hKK, hlk, rfl, rfl, rfl⟩ := h
  intro H locs ls hP hz hS hl
  obtain ⟨hsz, hup⟩ := hz rfl
  have hK := hKK.1
  have hsx : sR x := ⟨by omega, by omega⟩
  refine va_newaK (atype := .int) hx hb (hts _ harr) rfl hdg rfl (fun q => by rw [sJ_zero, sJ_lt hsx sR_0] at q; omega) (N := z) (by rw [sJ_clamp hsx (by omega)]; omega) (Nat.le_trans (Nat.mul_le_mul_left z (by decide)) hby) hR.1 hR.2 rfl fun H1 cA e1 z1 o1 hAr hNm => ?_
  have hcA : cA = Δ.2.2.1 0 := by
    have h2 := (hK.2 0 _ rfl).2
    exact Option.some.inj (hNm.symm.trans h2)
  subst hcA
  rw [hsz] at e1 o1 z1 ⊢
  refine kk H1 locs ls (sH.grow hKK hP hup (fun q hq => o1 q (by rw [← hsz]; exact hq)) rfl ?_) (fun _ => ⟨by rw [z1]; omega, hup⟩) ⟨Nat.le_trans hS.1 (by omega), fun x h1 h2 => (o1 x (by rw [← hsz]; exact Nat.lt_of_lt_of_le h1 hS.1)).trans (hS.2.1 x h1 h2), hS.2.2⟩ hl
  rw [hlay, (sEnt_i (k := 0) (by decide))]
  refine e1.trans ?_
  show some (arrV _ _ _) = some (vp_cell _ _)
  rw [vp_cell_i]
  refine congrArg some (congrArg (arrV _ _) (funext fun j => ?_))
  rw [hz0.1]
  rfl
theorem V.cnewaC {x : Int} {z : Nat} (h : okG Γ Δ l R cc own nL) (harr : Cond.arrayClass .char ∈ gW) (hlay : lay n = (21, z)) (hxz : x = z) (hz2 : z < 2147483648) (hby : z * 8 ≤ 536870912) (hz0 : zr i r n) (hR : kc + 1 ≤ R.cells ∧ sl + z ≤ R.slots) (hdg : decode cc pc = .ok (.newarray .char, 2)) (kk : V Γ Δ (n + 1) true i r (kc + 1) (sl + z) Q (pc + 2) lv (.ref (sA Δ n) :: stk)) : V Γ Δ n true i r kc sl Q (pc) lv (.int (sJ x) :: stk) := by
  obtain ⟨p, l', e, R', s, m, args, below, meth, c, nL'⟩ := Γ
  obtain ⟨hx, hb, hml, hown, hts, hKK, hlk, rfl, rfl, rfl⟩ := h
  intro H locs ls hP hz hS hl
  obtain ⟨hsz, hup⟩ := hz rfl
  have hK := hKK.1
  have hsx : sR x := ⟨by omega, by omega⟩
  refine va_newaK (atype := .char) hx hb (hts _ harr) rfl hdg rfl (fun q => by rw [sJ_zero, sJ_lt hsx sR_0] at q; omega) (N := z) (by rw [sJ_clamp hsx (by omega)]; omega) (Nat.le_trans (Nat.mul_le_mul_left z (by decide)) hby) hR.1 hR.2 rfl fun H1 cA e1 z1 o1 hAr hNm => ?_
  have hcA : cA = Δ.2.2.1 1 := by
    have h2 := (hK.2 1 _ rfl).2
    exact Option.some.inj (hNm.symm.trans h2)
  subst hcA
  rw [hsz] at e1 o1 z1 ⊢
  refine kk H1 locs ls (sH.grow hKK hP hup (fun q hq => o1 q (by rw [← hsz]; exact hq)) rfl ?_) (fun _ => ⟨by rw [z1]; omega, hup⟩) ⟨Nat.le_trans hS.1 (by omega), fun x h1 h2 => (o1 x (by rw [← hsz]; exact Nat.lt_of_lt_of_le h1 hS.1)).trans (hS.2.1 x h1 h2), hS.2.2⟩ hl
  rw [hlay, (sEnt_i (k := 1) (by decide))]
  refine e1.trans ?_
  show some (arrV _ _ _) = some (vp_cell _ _)
  rw [vp_cell_i]
  refine congrArg some (congrArg (arrV _ _) (funext fun j => ?_))
  rw [hz0.1]
  rfl
theorem V.cnewaZ {x : Int} {z : Nat} (h : okG Γ Δ l R cc own nL) (harr : Cond.arrayClass .boolean ∈ gW) (hlay : lay n = (22, z)) (hxz : x = z) (hz2 : z < 2147483648) (hby : z * 8 ≤ 536870912) (hz0 : zr i r n) (hR : kc + 1 ≤ R.cells ∧ sl + z ≤ R.slots) (hdg : decode cc pc = .ok (.newarray .boolean, 2)) (kk : V Γ Δ (n + 1) true i r (kc + 1) (sl + z) Q (pc + 2) lv (.ref (sA Δ n) :: stk)) : V Γ Δ n true i r kc sl Q (pc) lv (.int (sJ x) :: stk) := by
  obtain ⟨p, l', e, R', s, m, args, below, meth, c, nL'⟩ := Γ
  obtain ⟨hx, hb, hml, hown, hts, hKK, hlk, rfl, rfl, rfl⟩ := h
  intro H locs ls hP hz hS hl
  obtain ⟨hsz, hup⟩ := hz rfl
  have hK := hKK.1
  have hsx : sR x := ⟨by omega, by omega⟩
  refine va_newaK (atype := .boolean) hx hb (hts _ harr) rfl hdg rfl (fun q => by rw [sJ_zero, sJ_lt hsx sR_0] at q; omega) (N := z) (by rw [sJ_clamp hsx (by omega)]; omega) (Nat.le_trans (Nat.mul_le_mul_left z (by decide)) hby) hR.1 hR.2 rfl fun H1 cA e1 z1 o1 hAr hNm => ?_
  have hcA : cA = Δ.2.2.1 2 := by
    have h2 := (hK.2 2 _ rfl).2
    exact Option.some.inj (hNm.symm.trans h2)
  subst hcA
  rw [hsz] at e1 o1 z1 ⊢
  refine kk H1 locs ls (sH.grow hKK hP hup (fun q hq => o1 q (by rw [← hsz]; exact hq)) rfl ?_) (fun _ => ⟨by rw [z1]; omega, hup⟩) ⟨Nat.le_trans hS.1 (by omega), fun x h1 h2 => (o1 x (by rw [← hsz]; exact Nat.lt_of_lt_of_le h1 hS.1)).trans (hS.2.1 x h1 h2), hS.2.2⟩ hl
  rw [hlay, (sEnt_i (k := 2) (by decide))]
  refine e1.trans ?_
  show some (arrV _ _ _) = some (vp_cell _ _)
  rw [vp_cell_i]
  refine congrArg some (congrArg (arrV _ _) (funext fun j => ?_))
  rw [hz0.1]
  rfl
/-- a long or a double of the law's rows: 0 as the two halves have it -/
def zrL (i r : MI) (n : Int) : Prop := ∀ k, jMk (i n (2 * k)) (i n (2 * k + 1)) = 0
theorem V.canew (k : Nat) {C : String} {x : Int} {z ix : Nat} (h : okG Γ Δ l R cc own nL) (hk : (k = 5 ∧ C = "Schedulary$Statement") ∨ (k = 6 ∧ C = "Schedulary$Node")) (hl1 : Cond.classLink own ix C ∈ gW) (hlay : lay n = (20 + k, z)) (hxz : x = z) (hz2 : z < 1000) (hz0 : zr i r n) (hR : kc + 1 ≤ R.cells ∧ sl + z ≤ R.slots) (hdg : decode cc pc = .ok (.anewarray ix, 3)) (kk : V Γ Δ (n + 1) true i r (kc + 1) (sl + z) Q (pc + 3) lv (.ref (sA Δ n) :: stk)) : V Γ Δ n true i r kc sl Q (pc) lv (.int (sJ x) :: stk) := by
  obtain ⟨p, l', e, R', s, m, args, below, meth, c, nL'⟩ := Γ
  obtain ⟨hx, hb, hml, hown, hts, hKK, hlk, rfl, rfl, rfl⟩ := h
  intro H locs ls hP hz hS hl
  obtain ⟨hsz, hup⟩ := hz rfl
  have hK := hKK.1
  have hsx : sR x := ⟨by omega, by omega⟩
  have hcl : (sJ x).toNatClampNeg = z := by rw [sJ_clamp hsx (by omega)]; omega
  have hao : (Cond.arrayOver (.object C)).before #[] s = true := hKK.2.2.2.2.2.2.2.2.2.2.1 _ (by rcases hk with ⟨-, rfl⟩ | ⟨-, rfl⟩ <;> simp [aoL])
  refine W.anew hx hb hown (hts _ hl1) hao rfl hdg rfl (fun q => by rw [sJ_zero, sJ_lt hsx sR_0] at q; omega) (by rw [hcl]; omega) hR.1 (by rw [hcl]; exact hR.2) fun cA kA comp f1 f2 f3 f4 => ?_
  rw [hcl]
  generalize hH1 : H.push ({ cls := cA, slots := Array.replicate z .null, vm := .none } : Cell) = H1
  have z1 : H1.size = H.size + 1 := by rw [← hH1, Array.size_push]
  have e1 : H1[H.size]? = some (arrV cA z (fun _ => .null)) := by rw [← hH1, Array.getElem?_push_size, ← arrV_new]
  have o1 : ∀ q : Nat, q < H.size → H1[q]? = H[q]? := fun q hq => by rw [← hH1, Array.getElem?_push, if_neg (Nat.ne_of_lt hq)]
  have hcA : cA = Δ.2.2.1 k := by
    rcases hk with ⟨rfl, rfl⟩ | ⟨rfl, rfl⟩
    · obtain ⟨_, _, _, _, _, h2⟩ := (hK.2 5 _ rfl).2
      exact Option.some.inj (f1.symm.trans h2)
    · obtain ⟨_, _, _, _, _, h2⟩ := (hK.2 6 _ rfl).2
      exact Option.some.inj (f1.symm.trans h2)
  subst hcA
  rw [hsz] at e1 o1 z1 ⊢
  refine kk H1 locs ls (sH.grow hKK hP hup (fun q hq => o1 q (by rw [← hsz]; exact hq)) rfl ?_) (fun _ => ⟨by rw [z1]; omega, hup⟩) ⟨Nat.le_trans hS.1 (by omega), fun x h1 h2 => (o1 x (by rw [← hsz]; exact Nat.lt_of_lt_of_le h1 hS.1)).trans (hS.2.1 x h1 h2), hS.2.2⟩ hl
  rw [hlay, sEnt_q (by rcases hk with ⟨rfl, -⟩ | ⟨rfl, -⟩ <;> decide)]
  refine e1.trans ?_
  show some (arrV _ _ _) = some (vp_cell _ _)
  rw [vp_cell_q]
  refine congrArg some (congrArg (arrV _ _) (funext fun j => ?_))
  rw [hz0.2]
  rfl
theorem V.cputI {ci k M ix : Nat} {C : String} {T : u_T} {o kz x : Int} {ty : FieldType} (h : okG Γ Δ l R cc own nL) (ho : isA o (ci, 0)) (hn : o.toNat < n) (hci : ci < 20) (hin : ∀ w ∈ u_ws C T M, w ∈ gW) (hc : vwCl[ci]? = some (C, T, M)) (hk : k < M) (hk2 : k < nfd ci) (hkz : (k : Int) = kz) (hlink : Cond.fieldLink own ix (T k).1 (T k).2.1 (T k).2.2.1 ∈ gW) (hrf : rfk ci k = false) (ty0 : Nat → FieldType) (hty : ∀ k, k < M → parseFieldDescriptor (T k).2.2.1 = some (ty0 k)) (hnm : ∀ a, a < M → ∀ b, b < M → a ≠ b → (T a).2.1 ≠ (T b).2.1) (hfin : (T k).2.2.2 = false) (hd : parseFieldDescriptor (T k).2.2.1 = some ty) (hnar : narrow ty (.int (sJ x)) = .int (sJ x)) (hfit : fits ty (.int (sJ x)) = true) (hdg : decode cc pc = .ok (.putfield ix, 3)) (kk : V Γ Δ n true (st i o kz x) r kc sl Q (pc + 3) lv (stk)) : V Γ Δ n true i r kc sl Q (pc) lv (.int (sJ x) :: .ref (sA Δ o) :: stk) := by
  obtain ⟨p, l', e, R', s, m, args, below, meth, c, nL'⟩ := Γ
  obtain ⟨hx, hb, hml, hown, hts, hKK, hlk, rfl, rfl, rfl⟩ := h
  intro H locs ls hP hz hS hl
  obtain ⟨hsz, hup⟩ := hz rfl
  have hK := hKK.1
  have hap := va_apart (own := own) hts hin ty0 hty hnm hK hc
  have he := at_o (Δ := Δ) (i := i) (r := r) ho hn hci
  obtain ⟨rr, h1, cell, q1, q2, q3, q4⟩ := hP.1 o.toNat _ he
  have hr : rr = (C, T, M) := Option.some.inj (h1.symm.trans hc)
  subst hr
  obtain ⟨hSl, hfc, kC, hkC, hkind⟩ := hK.1 ci _ hc
  obtain ⟨cf, kf, fi, f, hi, hsl⟩ := hSl k hk
  have hlay := hts _ (hin _ (u_in_lay hk))
  unfold u_lay at hlay
  rw [if_neg (by rw [hfin]; decide)] at hlay
  have hst := (u_facts hfc hkC (u_lays hts hin hk) hi).1
  have h6 := u_store hfc hkC hkind hlay hi hd hnar hfit
  refine W.putK hx hb (f := f) ⟨hown, hts _ hlink, ⟨_, _, _, hi⟩, hst⟩ (by rw [q2]; exact h6) q1 q3 (by rw [hsl]; exact k2_hasslot (q4 k hk)) rfl rfl hdg fun H' e1 e2 e3 => ?_
  rw [hsl] at e1 ⊢
  have hP1 := hP.1.set hP.D he (e := .inr (ci, (sFs Δ ci (i o) (r o)).set k (.int (sJ x)))) ⟨_, hc, t_OB.to (V := updV (vp_V (sFs Δ ci (i o) (r o))) k (.int (sJ x))) ⟨_, e1, q2, q3, t_set q4 hap hk _⟩ (fun j _ => vp_updV_set (by rw [sFs_len]; exact hk2) _ j)⟩ e3
  rw [ws_putI ho hn hci hk2 hkz hrf] at hP1
  exact kk H' _ ls ⟨hP1, hP.2.1, sE_put hKK hP.2.2 (hP.D.2 _ _ he) e3⟩ (fun _ => ⟨by rw [e2]; exact hsz, hup⟩) (hS.put e2 e3 (hP.D.2 _ _ he)) hl
theorem V.cputR {ci k M ix : Nat} {C : String} {T : u_T} {o kz x : Int} {ty : FieldType} (h : okG Γ Δ l R cc own nL) (ho : isA o (ci, 0)) (hn : o.toNat < n) (hci : ci < 20) (hin : ∀ w ∈ u_ws C T M, w ∈ gW) (hc : vwCl[ci]? = some (C, T, M)) (hk : k < M) (hk2 : k < nfd ci) (hkz : (k : Int) = kz) (hlink : Cond.fieldLink own ix (T k).1 (T k).2.1 (T k).2.2.1 ∈ gW) (hrf : rfk ci k = true) (ty0 : Nat → FieldType) (hty : ∀ k, k < M → parseFieldDescriptor (T k).2.2.1 = some (ty0 k)) (hnm : ∀ a, a < M → ∀ b, b < M → a ≠ b → (T a).2.1 ≠ (T b).2.1) (hfin : (T k).2.2.2 = false) (hd : parseFieldDescriptor (T k).2.2.1 = some ty) (hx0 : ¬ x = 0) (hnar : ∀ a, narrow ty (.ref a) = .ref a) (hfit : ∀ a, fits ty (.ref a) = true) (hdg : decode cc pc = .ok (.putfield ix, 3)) (kk : V Γ Δ n true i (st r o kz x) kc sl Q (pc + 3) lv (stk)) : V Γ Δ n true i r kc sl Q (pc) lv (.ref (sA Δ x) :: .ref (sA Δ o) :: stk) := by
  obtain ⟨p, l', e, R', s, m, args, below, meth, c, nL'⟩ := Γ
  obtain ⟨hx, hb, hml, hown, hts, hKK, hlk, rfl, rfl, rfl⟩ := h
  intro H locs ls hP hz hS hl
  obtain ⟨hsz, hup⟩ := hz rfl
  have hK := hKK.1
  have hap := va_apart (own := own) hts hin ty0 hty hnm hK hc
  have he := at_o (Δ := Δ) (i := i) (r := r) ho hn hci
  obtain ⟨rr, h1, cell, q1, q2, q3, q4⟩ := hP.1 o.toNat _ he
  have hr : rr = (C, T, M) := Option.some.inj (h1.symm.trans hc)
  subst hr
  obtain ⟨hSl, hfc, kC, hkC, hkind⟩ := hK.1 ci _ hc
  obtain ⟨cf, kf, fi, f, hi, hsl⟩ := hSl k hk
  have hlay := hts _ (hin _ (u_in_lay hk))
  unfold u_lay at hlay
  rw [if_neg (by rw [hfin]; decide)] at hlay
  have hst := (u_facts hfc hkC (u_lays hts hin hk) hi).1
  have h6 := u_store hfc hkC hkind hlay hi hd (hnar (sA Δ x)) (hfit (sA Δ x))
  refine W.putK hx hb (f := f) ⟨hown, hts _ hlink, ⟨_, _, _, hi⟩, hst⟩ (by rw [q2]; exact h6) q1 q3 (by rw [hsl]; exact k2_hasslot (q4 k hk)) rfl rfl hdg fun H' e1 e2 e3 => ?_
  rw [hsl] at e1 ⊢
  have hP1 := hP.1.set hP.D he (e := .inr (ci, (sFs Δ ci (i o) (r o)).set k (.ref (sA Δ x)))) ⟨_, hc, t_OB.to (V := updV (vp_V (sFs Δ ci (i o) (r o))) k (.ref (sA Δ x))) ⟨_, e1, q2, q3, t_set q4 hap hk _⟩ (fun j _ => vp_updV_set (by rw [sFs_len]; exact hk2) _ j)⟩ e3
  rw [← sV_ref hx0, ws_putR ho hn hci hk2 hkz hrf] at hP1
  exact kk H' _ ls ⟨hP1, hP.2.1, sE_put hKK hP.2.2 (hP.D.2 _ _ he) e3⟩ (fun _ => ⟨by rw [e2]; exact hsz, hup⟩) (hS.put e2 e3 (hP.D.2 _ _ he)) hl
def okIni (Γ : Cx) : Prop := match Γ with
  | (_, _, _, _, _, _, _, _, meth, _, _) => meth.name = "<init>"
theorem V.cputRF {ci k M ix : Nat} {C : String} {T : u_T} {o kz x : Int} {ty : FieldType} (h : okG Γ Δ l R cc own nL) (ho : isA o (ci, 0)) (hn : o.toNat < n) (hci : ci < 20) (hin : ∀ w ∈ u_ws C T M, w ∈ gW) (hc : vwCl[ci]? = some (C, T, M)) (hk : k < M) (hk2 : k < nfd ci) (hkz : (k : Int) = kz) (hlink : Cond.fieldLink own ix (T k).1 (T k).2.1 (T k).2.2.1 ∈ gW) (hrf : rfk ci k = true) (ty0 : Nat → FieldType) (hty : ∀ k, k < M → parseFieldDescriptor (T k).2.2.1 = some (ty0 k)) (hnm : ∀ a, a < M → ∀ b, b < M → a ≠ b → (T a).2.1 ≠ (T b).2.1) (hfin : (T k).2.2.2 = true) (hinit : okIni Γ) (hdecl : (T k).1 = own) (hd : parseFieldDescriptor (T k).2.2.1 = some ty) (hx0 : ¬ x = 0) (hnar : ∀ a, narrow ty (.ref a) = .ref a) (hfit : ∀ a, fits ty (.ref a) = true) (hdg : decode cc pc = .ok (.putfield ix, 3)) (kk : V Γ Δ n true i (st r o kz x) kc sl Q (pc + 3) lv (stk)) : V Γ Δ n true i r kc sl Q (pc) lv (.ref (sA Δ x) :: .ref (sA Δ o) :: stk) := by
  obtain ⟨p, l', e, R', s, m, args, below, meth, c, nL'⟩ := Γ
  obtain ⟨hx, hb, hml, hown, hts, hKK, hlk, rfl, rfl, rfl⟩ := h
  intro H locs ls hP hz hS hl
  obtain ⟨hsz, hup⟩ := hz rfl
  have hK := hKK.1
  have hap := va_apart (own := own) hts hin ty0 hty hnm hK hc
  have he := at_o (Δ := Δ) (i := i) (r := r) ho hn hci
  obtain ⟨rr, h1, cell, q1, q2, q3, q4⟩ := hP.1 o.toNat _ he
  have hr : rr = (C, T, M) := Option.some.inj (h1.symm.trans hc)
  subst hr
  obtain ⟨hSl, hfc, kC, hkC, hkind⟩ := hK.1 ci _ hc
  obtain ⟨cf, kf, fi, f, hi, hsl⟩ := hSl k hk
  have hlay := hts _ (hin _ (u_in_lay hk))
  unfold u_lay at hlay
  rw [if_pos hfin] at hlay
  have hst := (u_facts hfc hkC (u_lays hts hin hk) hi).1
  have hcf : m.cls = cf := by
    obtain ⟨_, _, c', _, _, _, -, -, hf', -, -, -, hown2, -⟩ := Cond.laysFinal_spec hlay
    have e1 : c' = cf := by have := hi.symm.trans hf'; simp at this; exact this.1.symm
    rw [hdecl] at hown2
    rw [← e1]; exact Option.some.inj (hown.symm.trans hown2)
  have h6 := u_fits hfc hkC hkind (Or.inr hlay) hi hd (hnar (sA Δ x)) (hfit (sA Δ x))
  refine W.putFinK hx hb hown (hts _ hlink) hi hst hcf hinit (by rw [q2]; exact h6) q1 q3 (by rw [hsl]; exact k2_hasslot (q4 k hk)) rfl rfl hdg fun H' e1 e2 e3 => ?_
  rw [hsl] at e1 ⊢
  have hP1 := hP.1.set hP.D he (e := .inr (ci, (sFs Δ ci (i o) (r o)).set k (.ref (sA Δ x)))) ⟨_, hc, t_OB.to (V := updV (vp_V (sFs Δ ci (i o) (r o))) k (.ref (sA Δ x))) ⟨_, e1, q2, q3, t_set q4 hap hk _⟩ (fun j _ => vp_updV_set (by rw [sFs_len]; exact hk2) _ j)⟩ e3
  rw [← sV_ref hx0, ws_putR ho hn hci hk2 hkz hrf] at hP1
  exact kk H' _ ls ⟨hP1, hP.2.1, sE_put hKK hP.2.2 (hP.D.2 _ _ he) e3⟩ (fun _ => ⟨by rw [e2]; exact hsz, hup⟩) (hS.put e2 e3 (hP.D.2 _ _ he)) hl
theorem V.ciast {z : Nat} {o x v : Int} (h : okG Γ Δ l R cc own nL) (ho : isA o (20, z)) (hn : o.toNat < n) (hsx : sR x) (hin : 0 ≤ x ∧ x < z) (hdg : decode cc pc = .ok (.iastore, 1)) (kk : V Γ Δ n true (st i o x v) r kc sl Q (pc + 1) lv (stk)) : V Γ Δ n true i r kc sl Q (pc) lv (.int (sJ v) :: .int (sJ x) :: .ref (sA Δ o) :: stk) := by
  obtain ⟨p, l', e, R', s, m, args, below, meth, c, nL'⟩ := Γ
  obtain ⟨hx, hb, hml, hown, hts, hKK, hlk, rfl, rfl, rfl⟩ := h
  intro H locs ls hP hz hS hl
  obtain ⟨hsz, hup⟩ := hz rfl
  have hK := hKK.1
  have he := at_i (Δ := Δ) (i := i) (r := r) (k := 0) ho hn (by decide)
  refine W.iast hx hb (hP.1 o.toNat _ he) ((hK.2 0 _ rfl).1 z (fun j => .int (sJ (i o j)))) (fun q => by cases q) (by show ¬ (_ < 0 ∨ (arrV _ _ _).slots.size ≤ _); rw [arrV_size]; exact sJ_in hsx hin) rfl rfl hdg fun H1 e1 z1 oq => ?_
  have hP1 := hP.1.set hP.D he (e := .inl (Δ.2.2.1 0, z, .inl (upd (fun j => sJ (i o j)) x.toNat (sJ v)))) (by
    show H1[_]? = some (vp_cell _ _)
    rw [e1]
    rw [vp_cell_i, vp_cell_i, arrV_store, sJ_clamp hsx hin.1]
    congr 2
    funext q
    by_cases hq : q = x.toNat
    · subst hq
      simp [updV, upd]
    · simp [updV, upd, hq]) oq
  rw [ws_upd (k := 0) ho hn (by decide) hin.1] at hP1
  exact kk H1 _ ls ⟨hP1, hP.2.1, sE_put hKK hP.2.2 (hP.D.2 _ _ he) oq⟩ (fun _ => ⟨by rw [z1]; exact hsz, hup⟩) (hS.put z1 oq (hP.D.2 _ _ he)) hl
theorem V.caast (k ck : Nat) {z : Nat} {o x y : Int} {q : vw_C} (h : okG Γ Δ l R cc own nL) (ho : isA o (20 + k, z)) (hn : o.toNat < n) (hk : 5 ≤ k) (hty : (sTys Δ)[k]? = some (Δ.2.2.1 k, .object q.1)) (hoy : isA y (ck, 0)) (hny : y.toNat < n) (hck : ck < 20) (hc : vwCl[ck]? = some q) (hsx : sR x) (hin : 0 ≤ x ∧ x < z) (hy : ¬ y = 0) (hdg : decode cc pc = .ok (.aastore, 1)) (kk : V Γ Δ n true i (st r o x y) kc sl Q (pc + 1) lv (stk)) : V Γ Δ n true i r kc sl Q (pc) lv (.ref (sA Δ y) :: .int (sJ x) :: .ref (sA Δ o) :: stk) := by
  obtain ⟨p, l', e, R', s, m, args, below, meth, c, nL'⟩ := Γ
  obtain ⟨hx, hb, hml, hown, hts, hKK, hlk, rfl, rfl, rfl⟩ := h
  intro H locs ls hP hz hS hl
  obtain ⟨hsz, hup⟩ := hz rfl
  have hK := hKK.1
  have he := at_q (Δ := Δ) (i := i) (r := r) (k := k) ho hn hk
  have hlt : x.toNat < z := by have := hin.1; have := hin.2; omega
  obtain ⟨r', hr', cellV, g1, g2, g3, -⟩ := hP.1 y.toNat _ (at_o hoy hny hck)
  have hcls := (hK.1 ck q hc).2
  obtain ⟨kA, comp, k1, k2, k3, -⟩ := (hK.2 k _ hty).2
  have hcomp : comp = Δ.1 ck := Option.some.inj (k3.symm.trans hcls.1)
  subst hcomp
  obtain ⟨kC, hkC, -⟩ := hcls.2
  refine W.aast hx hb (hP.1 o.toNat _ he) (fun q h => by cases h) (fun h => by cases h) k1 k2 rfl hkC ⟨fun q => by rw [sJ_zero, sJ_lt hsx sR_0] at q; omega, by show _ < (arrV _ _ _).slots.size; rw [arrV_size, sJ_clamp hsx hin.1]; exact hlt⟩ g1 (fun q h => by rw [g3] at h; cases h) (by rw [g2]; exact hkC) (by rw [g2]; exact va_assign hcls) rfl rfl hdg fun H1 e1 z1 oq => ?_
  have hP1 := hP.1.set hP.D he (e := .inl (Δ.2.2.1 k, z, .inr (.inr (.inr (.inr (va_up (fun j => sQ Δ (r o j)) x.toNat (some (sA Δ y)))))))) (by
    show H1[_]? = some (vp_cell _ _)
    rw [e1]
    rw [vp_cell_q, vp_cell_q, arrV_store, sJ_clamp hsx hin.1]
    congr 2
    funext q
    by_cases hq : q = x.toNat
    · subst hq
      simp [updV, va_up, va_rf]
    · simp [updV, va_up, hq]) oq
  rw [ws_updR (k := k) ho hn hk hin.1 hy] at hP1
  exact kk H1 _ ls ⟨hP1, hP.2.1, sE_put hKK hP.2.2 (hP.D.2 _ _ he) oq⟩ (fun _ => ⟨by rw [z1]; exact hsz, hup⟩) (hS.put z1 oq (hP.D.2 _ _ he)) hl
theorem vr_outer (c : ClassId) (N h0 : Nat) : ∀ i : Nat, Jvm.Free.Multi.outerC c N h0 i = arrV c N (fun j => va_rf (if j < i then some (h0 + 1 + j) else none))
  | 0 => by
    show ({ cls := c, slots := Array.replicate N .null, vm := .none } : Cell) = _
    rw [arrV_new]
    refine congrArg (arrV c N) (funext fun j => ?_)
    simp [va_rf]
  | i + 1 => by
    show (Jvm.Free.Multi.outerC c N h0 i).setSlot i (.ref (h0 + 1 + i)) = _
    rw [vr_outer c N h0 i, arrV_store]
    refine congrArg (arrV c N) (funext fun j => ?_)
    by_cases e : j = i
    · subst e
      simp [updV, va_rf]
    · by_cases h : j < i
      · simp [updV, e, h, Nat.lt_succ_of_lt h]
      · simp [updV, e, h, show ¬ j < i + 1 by omega]

def rowsR (r : MI) (n N : Int) : MI := fun a c => if a = n ∧ 0 ≤ c ∧ c < N then n + 1 + c else r a c
theorem rowsR_row {r : MI} {n N a : Int} (h : ¬ a = n) : rowsR r n N a = r a := by funext c; unfold rowsR; rw [if_neg (fun q => h q.1)]
theorem ws_growN {Δ : Wd} {n m : Nat} {i r i2 r2 : MI} {H H1 : Heap} (hP : va_P (sG Δ) vwCl (sWs Δ n i r) H) (ho : ∀ q : Nat, q < H.size → H1[q]? = H[q]?) (hi : ∀ k : Nat, k < n → i2 k = i k) (hr : ∀ k : Nat, k < n → r2 k = r k) (hnm : n ≤ m) (hat : ∀ k : Nat, n ≤ k → k < m → va_at (sG Δ) vwCl (Δ.2.2.2.1 + k, sEnt Δ (lay k) (i2 k) (r2 k)) H1) : va_P (sG Δ) vwCl (sWs Δ m i2 r2) H1 := by
  intro k q hk
  rcases Nat.lt_or_ge k m with h1 | h1
  · rw [sWs_at h1] at hk
    cases hk
    rcases Nat.lt_or_ge k n with h2 | h2
    · rw [hi k h2, hr k h2]
      have h3 := sWs_at (Δ := Δ) (i := i) (r := r) h2
      exact (hP k _ h3).kept (ho _ (hP k _ h3).lt)
    · exact hat k h2 h1
  · rw [sWs_out h1] at hk
    cases hk
theorem sH.growN {Δ : Wd} {U : State} {n m : Nat} {i r i2 r2 : MI} {H H1 : Heap} (hK : KK Δ U) (hP : sH Δ n i r H) (hup : ∀ q, Δ.2.2.2.1 ≤ q → sFr Δ q) (ho : ∀ q : Nat, q < H.size → H1[q]? = H[q]?) (hi : ∀ k : Nat, k < n → i2 k = i k) (hr : ∀ k : Nat, k < n → r2 k = r k) (hnm : n ≤ m) (hat : ∀ k : Nat, n ≤ k → k < m → va_at (sG Δ) vwCl (Δ.2.2.2.1 + k, sEnt Δ (lay k) (i2 k) (r2 k)) H1) : sH Δ m i2 r2 H1 := ⟨ws_growN hP.1 ho hi hr hnm hat, fun k _ => hup _ (Nat.le_add_right _ _), sE_old hK hP.2.2 ho⟩
theorem V.cmulti {N K ix : Nat} {x y : Int} (h : okG Γ Δ l R cc own nL) (hl1 : Cond.classLink own ix "[[I" ∈ gW) (harr : Cond.arrayClass .int ∈ gW) (hxN : x = N) (hyK : y = K) (hN : N < 1000) (hK9 : K < 1000) (hlay0 : lay n = (27, N)) (hlay1 : ∀ j : Nat, j < N → lay (n + 1 + j) = (20, K)) (hz0 : ∀ (j : Nat) (k : Int), j < N → i ((n : Int) + 1 + j) k = 0) (hR : kc + (1 + N) ≤ R.cells ∧ sl + (N + N * K) ≤ R.slots) (hdg : decode cc pc = .ok (.multianewarray ix 2, 4)) (kk : V Γ Δ (n + 1 + N) true i (rowsR r n N) (kc + 1 + N) (sl + N + N * K) Q (pc + 4) lv (.ref (sA Δ n) :: stk)) : V Γ Δ n true i r kc sl Q (pc) lv (.int (sJ y) :: .int (sJ x) :: stk) := by
  obtain ⟨p, l', e, R', s, m, args, below, meth, c, nL'⟩ := Γ
  obtain ⟨hx, hb, hml, hown, hts, hKK, hlk, rfl, rfl, rfl⟩ := h
  intro H locs ls hP hz hS hl
  obtain ⟨hsz, hup⟩ := hz rfl
  have hK := hKK.1
  have hsx : sR x := ⟨by omega, by omega⟩
  have hsy : sR y := ⟨by omega, by omega⟩
  have hcx : (sJ x).toNatClampNeg = N := by rw [sJ_clamp hsx (by omega)]; omega
  have hcy : (sJ y).toNatClampNeg = K := by rw [sJ_clamp hsy (by omega)]; omega
  have hao : (Cond.arrayOver (.array .int)).before #[] s = true := hKK.2.2.2.2.2.2.2.2.2.2.1 _ (by simp [aoL])
  intro T hT Xs
  obtain ⟨vm₁, cA, comp, -, fA, fC, hO, -, X', step⟩ := Xs.multianewarray2F hx (ty := .int) hown (hts _ hl1) hao (hts _ harr) (g := F0 m pc ls (.int (sJ y) :: .int (sJ x) :: stk)) rfl (by rw [hb]; exact hdg) rfl (fun q => by rw [sJ_zero, sJ_lt hsx sR_0] at q; omega) (fun q => by rw [sJ_zero, sJ_lt hsy sR_0] at q; omega) (by rw [hcx]; omega) (by rw [hcy]; show K * 4 ≤ _; omega) (by rw [hcy]; omega) rfl rfl (by rw [hcx]; exact hR.1) (by rw [hcx, hcy]; exact hR.2)
  rw [hcx, hcy] at X' step
  have hcA : cA = Δ.2.2.1 7 := Option.some.inj (fA.symm.trans (hK.2 7 _ rfl).2)
  have hcC : comp = Δ.2.2.1 0 := Option.some.inj (fC.symm.trans (hK.2 0 _ rfl).2)
  subst hcA
  subst hcC
  generalize hF : Jvm.Free.Multi.fill (T.setVm vm₁) (Δ.2.2.1 7) (Δ.2.2.1 0) N K (defaultValue .int) N = F at X' step
  have hTh : (T.setVm vm₁).heap = H := hT
  obtain ⟨f1, f2, -, -⟩ := Jvm.Free.Multi.fill_facts (T.setVm vm₁) (Δ.2.2.1 7) (Δ.2.2.1 0) N K (defaultValue .int) N
  rw [hF, hTh] at f1 f2
  have hold : ∀ x : Nat, x < H.size → F.heap[x]? = H[x]? := fun x hx => by
    have := Jvm.Free.Multi.fill_old (T.setVm vm₁) (Δ.2.2.1 7) (Δ.2.2.1 0) N K (defaultValue .int) (a := x) (by rw [hTh]; exact hx) N
    rw [hF, hTh] at this
    exact this
  have hrow : ∀ j : Nat, j < N → F.heap[H.size + 1 + j]? = some (vp_cell (Δ.2.2.1 0) (K, .inl (fun _ => 0))) := fun j hj => by
    have := Jvm.Free.Multi.fill_inner (T.setVm vm₁) (Δ.2.2.1 7) (Δ.2.2.1 0) N K (defaultValue .int) N j hj
    rw [hF, hTh] at this
    rw [this]
    refine congrArg some ?_
    rw [vp_cell_i]
    exact arrV_new _ _ _
  rw [vr_outer] at f2
  have hTT : T.heap.size = sA Δ n := by rw [hT, hsz]; rfl
  have hkk := kk F.heap locs ls (sH.growN (i2 := i) (r2 := rowsR r n N) hKK hP hup hold (fun _ _ => rfl) (fun k hk => rowsR_row (by omega)) (by omega) (fun k h1 h2 => ?_)) (fun _ => ⟨by rw [f1]; omega, hup⟩) ⟨Nat.le_trans hS.1 (by rw [f1]; omega), fun x h1 h2 => (hold x (Nat.lt_of_lt_of_le h1 hS.1)).trans (hS.2.1 x h1 h2), hS.2.2⟩ hl F rfl X'
  · obtain ⟨t, a1, b1⟩ := hkk
    refine ⟨t, step t ?_, b1⟩
    rw [hTT]
    exact a1
  · rcases Nat.lt_or_ge n k with h3 | h3
    · obtain ⟨j, rfl⟩ : ∃ j, k = n + 1 + j := ⟨k - (n + 1), by omega⟩
      rw [hlay1 j (by omega), sEnt_i (k := 0) (by decide)]
      show F.heap[_]? = some (vp_cell _ _)
      rw [show Δ.2.2.2.1 + (n + 1 + j) = H.size + 1 + j by omega, hrow j (by omega)]
      rw [vp_cell_i, vp_cell_i]
      refine congrArg some (congrArg (arrV _ _) (funext fun c => ?_))
      have := hz0 j c (by omega)
      rw [show ((n + 1 + j : Nat) : Int) = (n : Int) + 1 + j by omega, this]
      rfl
    · obtain rfl : k = n := by omega
      rw [hlay0, sEnt_q (k := 7) (by decide)]
      show F.heap[_]? = some (vp_cell _ _)
      rw [← hsz, f2, vp_cell_q]
      refine congrArg some (arrV_ext (fun j hj => ?_))
      rw [if_pos hj]
      show va_rf _ = va_rf (sQ Δ (if (k : Int) = k ∧ 0 ≤ (j : Int) ∧ (j : Int) < N then (k : Int) + 1 + j else r k j))
      rw [if_pos ⟨rfl, by omega, by omega⟩]
      unfold sQ
      rw [if_neg (by omega)]
      refine congrArg (fun z => va_rf (some z)) ?_
      unfold sA
      omega
end VCTOR
