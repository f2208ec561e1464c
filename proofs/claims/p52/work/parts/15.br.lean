/-! ===== the texts' world within the law's: cells behind the heap's end ===== -/
def nb (Δ : Wd) : Prop := ∀ q : Nat, sFr Δ q → q < Δ.2.2.2.1 + 504
def dT (Δ : Wd) (H : Heap) : Wd := (Δ.1, Δ.2.1, Δ.2.2.1, H.size, Δ.2.2.2.2.1, Δ.2.2.2.2.2.1, (fun q : Nat => H.size ≤ q), (fun H1 : Heap => ∀ q : Nat, q < H.size → H1[q]? = H[q]?), sS0 Δ)
theorem re_lt {H : Heap} {a : Nat} {cell : Cell} (h : H[a]? = some cell) : ¬ H.size ≤ a := Nat.not_le.mpr (Array.getElem?_eq_some_iff.mp h).1
theorem reO {E : String} {t : Nat} {A : Nat → Prop} {U : State} {H : Heap} (h : va_O E t A U H) : va_O E t (fun q => H.size ≤ q) U H := by
  obtain ⟨cell, h1, h2, h3, -⟩ := h
  exact ⟨cell, h1, h2, h3, re_lt h1⟩
theorem reOF {o n d : String} {v : Value} {t : Nat} {A : Nat → Prop} {U : State} {H : Heap} (h : va_OF o n d v t A U H) : va_OF o n d v t (fun q => H.size ≤ q) U H := by
  obtain ⟨cf, k, i, f, cell, h1, h2, h3, h4, h5, -⟩ := h
  exact ⟨cf, k, i, f, cell, h1, h2, h3, h4, h5, re_lt h3⟩
theorem reT {ty : FieldType} {t N : Nat} {f : Nat → Value} {A : Nat → Prop} {U : State} {H : Heap} (h : va_T ty t N f A U H) : va_T ty t N f (fun q => H.size ≤ q) U H := by
  obtain ⟨cell, h1, h2, h3, h4, h5, h6, -⟩ := h
  exact ⟨cell, h1, h2, h3, h4, h5, h6, re_lt h1⟩
theorem reZ {C n d : String} {v : Value} {A : Nat → Prop} {U : State} {H : Heap} (h : va_Z C n d v A U H) : va_Z C n d v (fun q => H.size ≤ q) U H := by
  obtain ⟨cf, kf, fi, f, a, cell, h1, h2, h3, h4, h5, h6, h7, -⟩ := h
  exact ⟨cf, kf, fi, f, a, cell, h1, h2, h3, h4, h5, h6, h7, re_lt h5⟩
theorem reZq {C n d : String} {A : Nat → Prop} {U : State} {H : Heap} (h : va_Zq C n d A U H) : va_Zq C n d (fun q => H.size ≤ q) U H := by
  rcases h with h | ⟨t, h⟩
  · exact Or.inl (reZ h)
  · exact Or.inr ⟨t, reZ h⟩
theorem reL {C n d : String} {A : Nat → Prop} {U : State} {H : Heap} (h : vx_Zq C n d A U H) : vx_Zq C n d (fun q => H.size ≤ q) U H := by
  refine ⟨reZq h.1, ?_⟩
  obtain ⟨c, k, i, f, a, cell, h1, h2, h3, h4, h5, h6, h7, h8, h9, -⟩ := h.2
  exact ⟨c, k, i, f, a, cell, h1, h2, h3, h4, h5, h6, h7, h8, h9, re_lt h5⟩
theorem KK.text {Δ : Wd} {U : State} {H : Heap} (hK : KK Δ U) (hU : U.heap = H) : KK (dT Δ H) U := by
  subst hU
  obtain ⟨h1, h2, h3, h4, h5, h6, h7, h8, h9, h10, h11, h12, h13⟩ := hK
  refine ⟨h1, ⟨fun i hi => ⟨reO (h2.1 i hi).1, reOF (h2.1 i hi).2.1, reOF (h2.1 i hi).2.2.1, reT (h2.1 i hi).2.2.2⟩, h2.2⟩, h3, reZ h4, h5, reZq h6, reL h7, reL h8, h9, h10, h11, fun H0 H1 ho hq => fun q hlt => ?_, h13⟩
  have hlt : q < U.heap.size := hlt
  have e0 : H0[q]? = U.heap[q]? := hq q hlt
  have l0 : q < H0.size := by
    rw [Array.getElem?_eq_getElem hlt] at e0
    exact (Array.getElem?_eq_some_iff.mp e0).1
  exact (ho q l0 (Nat.not_le.mpr hlt)).trans e0
theorem EA.text {Δ : Wd} {b L : Nat} {f : Int → Int} {H : Heap} (hE : EA Δ b L f) (hH : sE Δ H) : EA (dT Δ H) b L f := by
  refine ⟨fun H1 h1 => ?_, hE.2⟩
  obtain ⟨scr, g1, g2⟩ := hE.1 H hH
  exact va_X.kept ⟨scr, g1, g2⟩ (h1 b (Array.getElem?_eq_some_iff.mp g1).1)
theorem TD1.text {Δ : Wd} {n : String} {f : Nat → Int} {H : Heap} (h : TD1 Δ n f) (hH : sE Δ H) : TD1 (dT Δ H) n f := by
  obtain ⟨t, ht⟩ := h
  exact ⟨t, fun H1 h1 => ⟨(ht H hH).1.kept (fun a ha _ => h1 a ha), (ht H hH).2.kept (fun a ha _ => h1 a ha)⟩⟩
theorem TD.text {Δ : Wd} {H : Heap} (h : TD Δ) (hH : sE Δ H) : TD (dT Δ H) := ⟨h.1, h.2.1.text hH, h.2.2.text hH⟩
theorem TX.sk {Δ : Wd} {es : List TE} {H H1 : Heap} {U : State} {x : Nat} {t : List Int} (hK : KK Δ U) (hU : U.heap = H) (hnb : nb Δ) (hsz : Δ.2.2.2.1 + 504 ≤ H.size) (h : TX (dT Δ H) es x t 0 es.length) (hT : sT (dT Δ H) es H1) : ∃ v, SK (sFr Δ) (sS0 Δ) x v t.length (lstF t) H1 := by
  have hK2 := hK.text hU
  have hag : ∀ q : Nat, q < U.heap.size → ¬ sFr (dT Δ H) q → H1[q]? = U.heap[q]? := fun q hq _ => by rw [hU]; exact hT.2.2.2 q (by rw [← hU]; exact hq)
  have hold : ∀ q : Nat, q < U.heap.size → H1[q]? = U.heap[q]? := fun q hq => by rw [hU]; exact hT.2.2.2 q (by rw [← hU]; exact hq)
  have sy : U.vm.Alike (sS0 Δ).vm := hK.s0.symm
  have ext : ∀ (v : Nat) (f g : Nat → Int) (A : Nat → Prop), (∀ j : Nat, j < t.length → f j = g j) → va_T .byte v t.length (fun j : Nat => .int (sJ (f j))) A U H1 → va_T .byte v t.length (fun j : Nat => .int (sJ (g j))) A U H1 := by
    intro v f g A hfg h
    obtain ⟨cell, h1, h2, h3, h4, h5, h6, h7⟩ := h
    exact ⟨cell, h1, h2, h3, h4, h5, fun j hj => (h6 j hj).trans (congrArg (fun z => some (Value.int (sJ z))) (hfg j hj)), h7⟩
  rcases h with ⟨k, h1, rfl, h3, h4⟩ | ⟨i, j, f, rfl, h2, h3, -, -, h4⟩
  · obtain ⟨c1, c2, c3, c4⟩ := hK.2.1.1 k h1
    have ho : ∀ a : Nat, a < U.heap.size → ¬ sFr Δ a → H1[a]? = U.heap[a]? := fun a ha _ => hold a ha
    refine ⟨aV Δ k, va_O.moved sy (c1.kept ho), va_OF.moved sy (c2.kept ho), va_OF.moved sy (c3.kept ho), va_T.moved sy ?_⟩
    refine ext _ (fun j => bS k j) (fun j => lstF t j) _ h4 ?_
    have h5 := c4.kept ho
    rw [show lenST.getD k 0 = t.length from h3] at h5
    refine (show (fun j : Nat => Value.int ((bytST.getD k []).getD j 0)) = (fun j : Nat => Value.int (sJ (bS k j))) from funext fun j => ?_) ▸ h5
    unfold bS
    rw [sJ_of]
    rfl
  · obtain ⟨c1, c2, c3, c4⟩ := ST.st h2 h3 U H1 hK2 hag hT
    have no : ∀ q : Nat, ¬ sFr Δ (tA (dT Δ H) q) := fun q z => by
      have h9 := hnb _ z
      have h8 : tA (dT Δ H) q = H.size + q := rfl
      omega
    refine ⟨tA (dT Δ H) j, va_O.moved sy ?_, va_OF.moved sy ?_, va_OF.moved sy ?_, va_T.moved sy ?_⟩
    · obtain ⟨cell, g1, g2, g3, -⟩ := c1
      exact ⟨cell, g1, g2, g3, no i⟩
    · obtain ⟨cf, k, i', f', cell, g1, g2, g3, g4, g5, -⟩ := c2
      exact ⟨cf, k, i', f', cell, g1, g2, g3, g4, g5, no i⟩
    · obtain ⟨cf, k, i', f', cell, g1, g2, g3, g4, g5, -⟩ := c3
      exact ⟨cf, k, i', f', cell, g1, g2, g3, g4, g5, no i⟩
    · obtain ⟨cell, g1, g2, g3, g4, g5, g6, -⟩ := ext _ f (fun j => lstF t j) _ h4 c4
      exact ⟨cell, g1, g2, g3, g4, g5, g6, no j⟩
theorem sH.size {Δ : Wd} {i r : MI} {H : Heap} (h : sH Δ 504 i r H) : Δ.2.2.2.1 + 504 ≤ H.size := by
  have h1 := (h.1 503 _ (sWs_at (by decide))).lt
  show Δ.2.2.2.1 + 504 ≤ H.size
  have h1 : Δ.2.2.2.1 + 503 < H.size := h1
  omega
theorem V.callStm {Γ : Cx} {Δ : Wd} {l : Launch} {R : Room} {i r : MI} {kc sl : Nat} {Q : State → Prop} {pc : Nat} {lv : List (Nat × Value)} {stk : List Value} {cc : ByteArray} {own : String} {nL ix : Nat} {b L : Nat} {xs : Int → Int} {p : Int} (h : okG Γ Δ l R cc own nL) (hE : EA Δ b L xs) (hD : TD Δ) (hnb : nb Δ) (hp : 0 ≤ p ∧ p ≤ 1000) (hY : mY yL_statement cL_statement 5 (some (.object "java/lang/String")) 2) (hl1 : Cond.methodLink own ix yL_statement ∈ gW) (hl2 : Cond.static yL_statement ∈ gW)
    (hR : 20 + 1 ≤ R.frames ∧ 8 + (5 + 11) + 600 ≤ R.locals ∧ kc + 600 ≤ R.cells ∧ sl + 3600 ≤ R.slots) (hst : (stk.map fun v => v.category).sum ≤ 8) (hdg : decode cc pc = .ok (.invokestatic ix, 3))
    (kk : ∀ a v : Nat, V Γ (eAnd Δ (SK (sFr Δ) (sS0 Δ) a v (stmT L xs p).length (lstF (stmT L xs p)))) 504 false i r (kc + 600) (sl + 3600) Q (pc + 3) lv (.ref a :: stk)) : V Γ Δ 504 false i r kc sl Q (pc) lv (.int (sJ p) :: .ref b :: stk) := by
  obtain ⟨p', l', e, R', s, m, args, below, meth, c, nL'⟩ := Γ
  obtain ⟨hx, hb, hml, hown, hts, hKK, hlk, rfl, rfl, rfl⟩ := h
  intro H locs ls hP hz hS hl
  obtain ⟨y1, y2, y3, y4, y5⟩ := hY
  have hsz := hP.size
  have hM := tm_statement l' (dT Δ H) (es := []) (hE.text hP.2.2) (hD.text hP.2.2) (p := p) hp
  have hr := va_runS (p := p') (e := e) (R := R') (s := s) (m := m) (args := args) (below := below) (meth := meth) (c := c) (H := H) (locs := locs) (cells := kc) (slots := sl) (nL := nL') (own := own) (Ts := gW) (index := ix) (g := F0 m pc ls (.int (sJ p) :: .ref b :: stk)) (As := [.ref b, .int (sJ p)]) (rest := stk) ⟨hx, hb, hml, hown, hts⟩ hM ⟨⟨rfl, rfl, hR.1, hR.2.1, gW_pay hts y2, List.mem_cons_self, hts _ y2, hts _ y1, ⟨y3, y4⟩, fun sig hh => by rw [hh] at y5; exact (Option.some.inj y5).symm, hts _ hl1⟩, hts _ hl2⟩ ⟨tPc_blind, fun U hU hW => ⟨rfl, ⟨fun k q hq => absurd hq (by simp [tW]), by rw [hU]; rfl, fun _ q => q, by rw [hU]; exact fun _ _ => rfl⟩, (KK_warm hKK hW hS hU).text hU⟩⟩ rfl rfl hl.1 rfl (lv_room hst) hdg ⟨hR.2.2.1, hR.2.2.2⟩
  intro T hT X
  obtain ⟨v, st₀, t, T', L', h0, X', hL, e1, e2, ⟨⟨u, ra, hv, -, hq, hB⟩, hz1, hk1⟩, st⟩ := hr T hT X
  cases hv
  obtain ⟨hTX, -, -⟩ := hq
  have hW2 : s.WarmedH T'.vm := X'.warmed
  have hKs : KK Δ s := hKK
  have hB : sT (dT Δ H) u T'.heap := by rw [e1]; exact hB
  have hag : ∀ q : Nat, q < H.size → T'.heap[q]? = H[q]? := hB.2.2.2
  have hle : H.size ≤ T'.heap.size := by
    have := hB.2.1
    have e9 : (dT Δ H).2.2.2.1 = H.size := rfl
    omega
  have hKU : KK Δ (s.withHeap H) := by
    obtain ⟨h1, h2, h3, h4, h5, h6, h7, h8, h9, h10, h11, h12, h13⟩ := hKK
    exact ⟨va_K.moved (u := s) (U := s.withHeap H) (Vm.Alike.refl s.vm) h1, vk_S.moved (u := s) (U := s.withHeap H) (Vm.Alike.refl s.vm) (h2.kept hS.2.1), fun q hq => (h3 q hq).same rfl, va_Z.moved (u := s) (U := s.withHeap H) (Vm.Alike.refl s.vm) (h4.kept hS.2.1), fun w hw => va_Nw.same (u := s) (U := s.withHeap H) (gX_on (List.mem_filter.mp hw).2) rfl (h5 w hw), va_Zq.moved (u := s) (U := s.withHeap H) (Vm.Alike.refl s.vm) (h6.kept hS.2.1), vx_Zq.moved (u := s) (U := s.withHeap H) (Vm.Alike.refl s.vm) (h7.kept hS.2.1), vx_Zq.moved (u := s) (U := s.withHeap H) (Vm.Alike.refl s.vm) (h8.kept hS.2.1), fun q hq => by obtain ⟨z, hz⟩ := h9 q hq; exact ⟨z, hz.same rfl⟩, fun q hq => va_Nc.moved (u := s) (U := s.withHeap H) (Vm.Alike.refl s.vm) (h10 q hq), fun ty hty => ao_moved (u := s) (U := s.withHeap H) (aoL_ty hty) (Vm.Alike.refl s.vm) (h11 ty hty), h12, h13⟩
  obtain ⟨vv, hSK⟩ := TX.sk (H1 := T'.heap) hKU rfl hnb hsz (TX.wide hTX (Nat.zero_le _) (Nat.le_refl _)) hB
  have hP1 : sH (eAnd Δ (SK (sFr Δ) (sS0 Δ) ra vv (stmT L xs p).length (lstF (stmT L xs p)))) 504 i r T'.heap := by
    have := hP.old hKK hag
    exact ⟨this.1, this.2.1, this.2.2, hSK⟩
  have kk2 := kk ra vv T'.heap locs ls hP1 (fun q => by cases q) ⟨Nat.le_trans hS.1 hle, fun q h1 h2 => (hag q (Nat.lt_of_lt_of_le h1 hS.1)).trans (hS.2.1 q h1 h2), hS.2.2⟩ hl
  obtain ⟨t2, a1, b1⟩ := W.forget (L := L') (fun q hq => Nat.le_trans hS.1 (hL q hq)) kk2 T' rfl X'
  exact ⟨t2, st t2 a1, b1⟩
