/-! ===== a row: an array that is made beside the world ===== -/
def aT (Δ : Wd) (H0 : Heap) : Wd := (Δ.1, Δ.2.1, Δ.2.2.1, Δ.2.2.2.1, Δ.2.2.2.2.1, Δ.2.2.2.2.2.1, Δ.2.2.2.2.2.2.1, (fun H : Heap => ∀ q : Nat, q < H0.size → ¬ sFr Δ q → H[q]? = H0[q]?), sS0 Δ)
theorem KK.agree {Δ : Wd} {U : State} (hK : KK Δ U) (H0 : Heap) : KK (aT Δ H0) U := by
  obtain ⟨h1, h2, h3, h4, h5, h6, h7, h8, h9, h10, h11, h12, h13⟩ := hK
  refine ⟨h1, h2, h3, h4, h5, h6, h7, h8, h9, h10, h11, fun H H1 ho hq => fun q hlt hn => ?_, h13⟩
  have e0 : H[q]? = H0[q]? := hq q hlt hn
  have l0 : q < H.size := by
    rw [Array.getElem?_eq_getElem hlt] at e0
    exact (Array.getElem?_eq_some_iff.mp e0).1
  exact (ho q l0 hn).trans e0
theorem okG.agree {Γ : Cx} {Δ : Wd} {l : Launch} {R : Room} {cc : ByteArray} {own : String} {nL : Nat} (h : okG Γ Δ l R cc own nL) (H0 : Heap) : okG Γ (aT Δ H0) l R cc own nL := by
  obtain ⟨p, l', e, R', s, m, args, below, meth, c, nL'⟩ := Γ
  obtain ⟨hx, hb, hml, hown, hts, hKK, hlk, h8, h9, h10⟩ := h
  exact ⟨hx, hb, hml, hown, hts, hKK.agree H0, hlk, h8, h9, h10⟩
def RowP (Δ : Wd) (a n : Nat) (f : Int → Int) (H : Heap) : Prop := ¬ sFr Δ a ∧ va_P (sG Δ) vwCl [(a, .inl (Δ.2.2.1 0, n, .inl (fun j : Nat => sJ (f j))))] H ∧ ArrOfT (sS0 Δ) (Δ.2.2.1 0) .int
theorem stab.row {Δ : Wd} {a n : Nat} {f : Int → Int} : stab Δ (RowP Δ a n f) := by
  intro H H1 ho h
  refine ⟨h.1, h.2.1.kept (fun k q hq => ?_), h.2.2⟩
  have hk : k < 1 := (List.getElem?_eq_some_iff.mp hq).1
  have h2 := (h.2.1 k q hq).lt
  rw [show k = 0 by omega] at hq
  cases hq
  exact ho a h2 h.1
theorem EA.row {Δ : Wd} {a n : Nat} {f : Int → Int} (hf : ∀ k, sR (f k)) (hn : n < 2147483648) : EA (eAnd Δ (RowP Δ a n f)) a n f := ⟨fun _ h => ⟨_, h.2.2.1 0 _ rfl, h.2.2.2 n _, (fun q => by cases q), arrV_size _ _ _, fun j hj => arrV_read _ _ hj⟩, hf, hn⟩
def okS (Γ : Cx) (H0 : Heap) : Prop := match Γ with
  | (_, _, _, _, s, _, _, _, _, _, _) => s.heap.size ≤ H0.size
section VROW
variable {Γ : Cx} {Δ : Wd} {l : Launch} {R : Room} {i r : MI} {kc sl : Nat} {Q : State → Prop} {pc : Nat} {lv : List (Nat × Value)} {stk : List Value} {cc : ByteArray} {own : String} {nL : Nat}
theorem V.agree (h : okG Γ Δ l R cc own nL) (kk : ∀ H0 : Heap, okS Γ H0 → sE Δ H0 → Δ.2.2.2.1 + 504 ≤ H0.size → V Γ (aT Δ H0) 504 false i r kc sl Q pc lv stk) : V Γ Δ 504 false i r kc sl Q pc lv stk := by
  obtain ⟨p, l', e, R', s, m, args, below, meth, c, nL'⟩ := Γ
  intro H locs ls hP hz hS hl
  exact kk H hS.1 hP.2.2 hP.size H locs ls ⟨hP.1, hP.2.1, fun _ _ _ => rfl⟩ (fun q => by cases q) hS hl
theorem V.back {H0 : Heap} {P : Heap → Prop} (h : okG Γ Δ l R cc own nL) (hE : sE Δ H0) (kk : V Γ (eAnd Δ P) 504 false i r kc sl Q pc lv stk) : V Γ (eAnd (aT Δ H0) P) 504 false i r kc sl Q pc lv stk := by
  obtain ⟨p, l', e, R', s, m, args, below, meth, c, nL'⟩ := Γ
  obtain ⟨hx, hb, hml, hown, hts, hKK, hlk, h8, h9, h10⟩ := h
  intro H locs ls hP hz hS hl
  exact kk H locs ls ⟨hP.1, hP.2.1, hKK.ap H0 H hP.2.2.1 hE, hP.2.2.2⟩ (fun q => by cases q) hS hl
theorem V.newRow {H0 : Heap} {x : Int} {n : Nat} (h : okG Γ Δ l R cc own nL) (hnb : nb Δ) (hsz : Δ.2.2.2.1 + 504 ≤ H0.size) (harr : Cond.arrayClass .int ∈ gW) (hxz : x = n) (hz2 : n < 1000) (hR : kc + 1 ≤ R.cells ∧ sl + n ≤ R.slots) (hdg : decode cc pc = .ok (.newarray .int, 2))
    (kk : ∀ a, H0.size ≤ a → V Γ (eAnd (aT Δ H0) (RowP Δ a n (fun _ => 0))) 504 false i r (kc + 1) (sl + n) Q (pc + 2) lv (.ref a :: stk)) : V Γ (aT Δ H0) 504 false i r kc sl Q (pc) lv (.int (sJ x) :: stk) := by
  obtain ⟨p, l', e, R', s, m, args, below, meth, c, nL'⟩ := Γ
  obtain ⟨hx, hb, hml, hown, hts, hKK, hlk, rfl, rfl, rfl⟩ := h
  intro H locs ls hP hz hS hl
  have hK := hKK.1
  have hsx : sR x := ⟨by omega, by omega⟩
  refine va_newaK (atype := .int) hx hb (hts _ harr) rfl hdg rfl (fun q => by rw [sJ_zero, sJ_lt hsx sR_0] at q; omega) (N := n) (by rw [sJ_clamp hsx (by omega)]; omega) (Nat.le_trans (Nat.mul_le_mul_left n (show _ ≤ 8 by decide)) (by omega)) hR.1 hR.2 rfl fun H1 cA e1 z1 o1 hAr hNm => ?_
  have hcA : cA = Δ.2.2.1 0 := by
    have h2 := (hK.2 0 _ rfl).2
    exact Option.some.inj (hNm.symm.trans h2)
  subst hcA
  have hs2 : Δ.2.2.2.1 + 504 ≤ H.size := hP.size
  have hno : ¬ sFr Δ H.size := fun z => by have := hnb _ z; omega
  have hH0 : H0.size ≤ H.size := by
    rcases Nat.lt_or_ge H.size H0.size with q | q
    · have e9 : H[H.size]? = H0[H.size]? := hP.2.2 H.size q hno
      rw [Array.getElem?_eq_none (Nat.le_refl _), Array.getElem?_eq_getElem q] at e9
      cases e9
    · exact q
  refine kk H.size hH0 H1 locs ls ⟨hP.1.kept (fun k q hq => o1 _ (hP.1 k q hq).lt), hP.2.1, fun q hq hn => (o1 q (Nat.lt_of_lt_of_le hq hH0)).trans (hP.2.2 q hq hn), hno, fun k q hq => ?_, arrOfT_moved hKK.s0.symm hAr⟩ (fun q => by cases q) ⟨Nat.le_trans hS.1 (by omega), fun x h1 h2 => (o1 x (Nat.lt_of_lt_of_le h1 hS.1)).trans (hS.2.1 x h1 h2), hS.2.2⟩ hl
  have hk : k < 1 := (List.getElem?_eq_some_iff.mp hq).1
  rw [show k = 0 by omega] at hq
  cases hq
  exact e1
end VROW
theorem row_upd {c : ClassId} {n : Nat} {f : Int → Int} {x v : Int} (hsx : sR x) (h0 : 0 ≤ x) : (arrV c n (fun j : Nat => Value.int (sJ (f j)))).setSlot (sJ x).toNatClampNeg (.int (sJ v)) = arrV c n (fun j : Nat => Value.int (sJ (updF f x v j))) := by
  rw [arrV_store, sJ_clamp hsx h0]
  congr 1
  funext q
  unfold updF
  by_cases hq : q = x.toNat
  · subst hq
    rw [if_pos (by omega)]
    simp [updV]
  · rw [if_neg (by omega)]
    simp [updV, hq]
theorem row_apart {Δ : Wd} {i r : MI} {H H1 : Heap} {a : Nat} (hP : va_P (sG Δ) vwCl (sWs Δ 504 i r) H) (ha : Δ.2.2.2.1 + 504 ≤ a) (oq : ∀ q : Nat, q ≠ a → H1[q]? = H[q]?) : va_P (sG Δ) vwCl (sWs Δ 504 i r) H1 := by
  refine hP.kept (fun k q hq => oq _ (fun z => ?_))
  rcases Nat.lt_or_ge k 504 with hk | hk
  · rw [sWs_at hk] at hq
    have h9 : q.1 = Δ.2.2.2.1 + k := by rw [← Option.some.inj hq]
    omega
  · rw [sWs_out hk] at hq
    cases hq
