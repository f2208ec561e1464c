section VROW
variable {Γ : Cx} {Δ : Wd} {l : Launch} {R : Room} {i r : MI} {kc sl : Nat} {Q : State → Prop} {pc : Nat} {lv : List (Nat × Value)} {stk : List Value} {cc : ByteArray} {own : String} {nL : Nat}
theorem sH.row {H0 H1 : Heap} {a n : Nat} {g : Int → Int} (h1 : va_P (sG Δ) vwCl (sWs Δ 504 i r) H1) (h2 : ∀ k : Nat, k < 504 → sFr Δ (Δ.2.2.2.1 + k)) (h3 : ∀ q : Nat, q < H0.size → ¬ sFr Δ q → H1[q]? = H0[q]?) (h4 : RowP Δ a n g H1) : sH (eAnd (aT Δ H0) (RowP Δ a n g)) 504 i r H1 := ⟨h1, h2, h3, h4⟩
theorem sH.unrow {H0 H : Heap} {a n : Nat} {f : Int → Int} (hP : sH (eAnd (aT Δ H0) (RowP Δ a n f)) 504 i r H) : va_P (sG Δ) vwCl (sWs Δ 504 i r) H ∧ (∀ k : Nat, k < 504 → sFr Δ (Δ.2.2.2.1 + k)) ∧ (∀ q : Nat, q < H0.size → ¬ sFr Δ q → H[q]? = H0[q]?) ∧ RowP Δ a n f H := ⟨hP.1, hP.2.1, hP.2.2.1, hP.2.2.2⟩
theorem V.unrow {H0 : Heap} {a n : Nat} {f : Int → Int} (kk : match Γ with
  | (p, l, e, R, s, m, args, below, meth, c, nL) => ∀ (H : Heap) (locs : List Loc) (ls : Array Slot), va_P (sG Δ) vwCl (sWs Δ 504 i r) H → (∀ k : Nat, k < 504 → sFr Δ (Δ.2.2.2.1 + k)) → (∀ q : Nat, q < H0.size → ¬ sFr Δ q → H[q]? = H0[q]?) → RowP Δ a n f H → va_S (sFr Δ) s.heap H locs → lv_has ls nL lv → W p l e R s m args below meth c H locs kc sl Q (F0 m pc ls stk)) : V Γ (eAnd (aT Δ H0) (RowP Δ a n f)) 504 false i r kc sl Q pc lv stk := by
  obtain ⟨p, l', e, R', s, m, args, below, meth, c, nL'⟩ := Γ
  intro H locs ls hP hz hS hl
  obtain ⟨h1, h2, h3, h4⟩ := hP.unrow
  exact kk H locs ls h1 h2 h3 h4 hS hl
theorem V.row {H0 : Heap} {a n : Nat} {f : Int → Int} (kk : V Γ (eAnd (aT Δ H0) (RowP Δ a n f)) 504 false i r kc sl Q pc lv stk) : match Γ with
  | (p, l, e, R, s, m, args, below, meth, c, nL) => ∀ (H : Heap) (locs : List Loc) (ls : Array Slot), va_P (sG Δ) vwCl (sWs Δ 504 i r) H → (∀ k : Nat, k < 504 → sFr Δ (Δ.2.2.2.1 + k)) → (∀ q : Nat, q < H0.size → ¬ sFr Δ q → H[q]? = H0[q]?) → RowP Δ a n f H → va_S (sFr Δ) s.heap H locs → lv_has ls nL lv → W p l e R s m args below meth c H locs kc sl Q (F0 m pc ls stk) := by
  obtain ⟨p, l', e, R', s, m, args, below, meth, c, nL'⟩ := Γ
  intro H locs ls h1 h2 h3 h4 hS hl
  exact kk H locs ls (sH.row h1 h2 h3 h4) (fun q => by cases q) hS hl
theorem RowP.put {H H1 : Heap} {a n : Nat} {f : Int → Int} {x v : Int} (h : RowP Δ a n f H) (hsx : sR x) (h0 : 0 ≤ x) (e1 : H1[a]? = some ((vp_cell (Δ.2.2.1 0) (n, .inl (fun j : Nat => sJ (f j)))).setSlot (sJ x).toNatClampNeg (.int (sJ v)))) : RowP Δ a n (updF f x v) H1 := by
  refine ⟨h.1, fun k q hq => ?_, h.2.2⟩
  have hk : k < 1 := (List.getElem?_eq_some_iff.mp hq).1
  rw [show k = 0 by omega] at hq
  cases hq
  show H1[a]? = some (arrV (Δ.2.2.1 0) n (fun j : Nat => Value.int (sJ (updF f x v j))))
  rw [e1, vp_cell_i]
  exact congrArg some (row_upd hsx h0)
theorem V.putRow {H0 : Heap} {a n : Nat} {f : Int → Int} {x v : Int} (h : okG Γ Δ l R cc own nL) (hs : okS Γ H0) (hnb : nb Δ) (hsz : Δ.2.2.2.1 + 504 ≤ H0.size) (ha : H0.size ≤ a) (hsx : sR x) (hin : 0 ≤ x ∧ x < (n : Int)) (hdg : decode cc pc = .ok (.iastore, 1))
    (kk : V Γ (eAnd (aT Δ H0) (RowP Δ a n (updF f x v))) 504 false i r kc sl Q (pc + 1) lv stk) : V Γ (eAnd (aT Δ H0) (RowP Δ a n f)) 504 false i r kc sl Q (pc) lv (.int (sJ v) :: .int (sJ x) :: .ref a :: stk) := by
  have kk := kk.row
  apply V.unrow
  obtain ⟨p, l', e, R', s, m, args, below, meth, c, nL'⟩ := Γ
  obtain ⟨hx, hb, hml, hown, hts, hKK, hlk, rfl, rfl, rfl⟩ := h
  intro H locs ls hP1 hbase hPa hPr hS hl
  have hK := hKK.1
  have hat : H[a]? = some (vp_cell (Δ.2.2.1 0) (n, .inl (fun j : Nat => sJ (f j)))) := hPr.2.1 0 _ rfl
  refine W.iast hx hb hat ((hK.2 0 _ rfl).1 n (fun j => .int (sJ (f j)))) (fun q => by cases q) (by show ¬ (_ < 0 ∨ (arrV _ _ _).slots.size ≤ _); rw [arrV_size]; exact sJ_in hsx hin) rfl rfl hdg fun H1 e1 z1 oq => ?_
  have hs : s.heap.size ≤ H0.size := hs
  have hP4 : RowP Δ a n (updF f x v) H1 := hPr.put hsx hin.1 e1
  exact W.forget (L := [⟨a, (sJ x).toNatClampNeg⟩]) (fun q hq => by rw [List.mem_singleton.mp hq]; exact Nat.le_trans hs ha) (kk H1 locs ls (row_apart hP1 (Nat.le_trans hsz ha) oq) hbase (fun q hq hn => (oq q (Nat.ne_of_lt (Nat.lt_of_lt_of_le hq ha))).trans (hPa q hq hn)) hP4 ⟨by rw [z1]; exact hS.1, fun q h1 h2 => (oq q (Nat.ne_of_lt (Nat.lt_of_lt_of_le h1 (Nat.le_trans hs ha)))).trans (hS.2.1 q h1 h2), hS.2.2⟩ hl)
end VROW
