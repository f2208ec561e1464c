section VROW
variable {Γ : Cx} {Δ : Wd} {l : Launch} {R : Room} {i r : MI} {kc sl : Nat} {Q : State → Prop} {pc : Nat} {lv : List (Nat × Value)} {stk : List Value} {cc : ByteArray} {own : String} {nL : Nat}
theorem V.putRow {H0 : Heap} {a n : Nat} {f : Int → Int} {x v : Int} (h : okG Γ Δ l R cc own nL) (hs : okS Γ H0) (hnb : nb Δ) (hsz : Δ.2.2.2.1 + 504 ≤ H0.size) (ha : H0.size ≤ a) (hsx : sR x) (hin : 0 ≤ x ∧ x < (n : Int)) (hdg : decode cc pc = .ok (.iastore, 1))
    (kk : V Γ (eAnd (aT Δ H0) (RowP Δ a n (updF f x v))) 504 false i r kc sl Q (pc + 1) lv stk) : V Γ (eAnd (aT Δ H0) (RowP Δ a n f)) 504 false i r kc sl Q (pc) lv (.int (sJ v) :: .int (sJ x) :: .ref a :: stk) := by
  obtain ⟨p, l', e, R', s, m, args, below, meth, c, nL'⟩ := Γ
  obtain ⟨hx, hb, hml, hown, hts, hKK, hlk, rfl, rfl, rfl⟩ := h
  intro H locs ls hP hz hS hl
  have hK := hKK.1
  obtain ⟨hP1, hP2, hPa, hno, hPr⟩ := hP
  have hat : H[a]? = some (vp_cell (Δ.2.2.1 0) (n, .inl (fun j : Nat => sJ (f j)))) := hPr 0 _ rfl
  have hlt : a < H.size := (Array.getElem?_eq_some_iff.mp hat).1
  refine W.iast hx hb hat ((hK.2 0 _ rfl).1 n (fun j => .int (sJ (f j)))) (fun q => by cases q) (by show ¬ (_ < 0 ∨ (arrV _ _ _).slots.size ≤ _); rw [arrV_size]; exact sJ_in hsx hin) rfl rfl hdg fun H1 e1 z1 oq => ?_
  have hbase : ∀ k : Nat, k < 504 → sFr Δ (Δ.2.2.2.1 + k) := hP2
  have hs : s.heap.size ≤ H0.size := hs
  have hP3 : sH (eAnd (aT Δ H0) (RowP Δ a n (updF f x v))) 504 i r H1 := by
    refine ⟨row_apart (Δ := Δ) hP1 (Nat.le_trans hsz ha) oq, hbase, fun q hq hn => (oq q (Nat.ne_of_lt (Nat.lt_of_lt_of_le hq ha))).trans (hPa q hq hn), hno, fun k q hq => ?_⟩
    have hk : k < 1 := (List.getElem?_eq_some_iff.mp hq).1
    rw [show k = 0 by omega] at hq
    cases hq
    show H1[a]? = some (arrV (Δ.2.2.1 0) n (fun j : Nat => Value.int (sJ (updF f x v j))))
    rw [e1]
    exact congrArg some (row_upd hsx hin.1)
  exact W.forget (L := [⟨a, (sJ x).toNatClampNeg⟩]) (fun q hq => by rw [List.mem_singleton.mp hq]; exact Nat.le_trans hs ha) (kk H1 locs ls hP3 (fun q => by cases q) ⟨by rw [z1]; exact hS.1, fun q h1 h2 => (oq q (Nat.ne_of_lt (Nat.lt_of_lt_of_le h1 (Nat.le_trans hs ha)))).trans (hS.2.1 q h1 h2), hS.2.2⟩ hl)
end VROW
