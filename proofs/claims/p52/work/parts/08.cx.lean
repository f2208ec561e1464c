/-! ===== contracts of constructors: the heap's size is exact ===== -/
def sPn (Δ : Wd) (n : Nat) (av : List Value) (i r : MI) : Array Value → State → Prop := va_Pc av (fun U => (sH Δ n i r U.heap ∧ U.heap.size = Δ.2.2.2.1 + n ∧ ∀ q, Δ.2.2.2.1 ≤ q → sFr Δ q) ∧ KK Δ U)
def sQn (Δ : Wd) (n : Nat) (i r : MI) : Array Value → State → Outcome → State → Prop := va_Qv (fun (_ : Unit) => True) (fun _ t => sH Δ n i r t.heap ∧ t.heap.size = Δ.2.2.2.1 + n) (sFr Δ)
theorem sPn_blind {Δ : Wd} {n : Nat} {av : List Value} {i r : MI} : FrameBlind (sPn Δ n av i r) := by
  intro a U g mk q
  exact ⟨q.1, q.2.1, KK_calling q.2.2⟩
/-- nothing written yet at n and beyond -/
def Zf (n : Nat) (i r : MI) : Prop := ∀ a : Int, (n : Int) ≤ a → ∀ k, i a k = 0 ∧ r a k = 0
theorem Zf.up {n m : Nat} {i r : MI} (h : Zf n i r) (hm : n ≤ m) : Zf m i r := fun a ha => h a (by omega)
theorem Zf.sI {n : Nat} {i r : MI} {o kz x : Int} (h : Zf n i r) (ho : o < n) : Zf n (st i o kz x) r := fun a ha k => by rw [st_row (by omega)]; exact h a ha k
theorem Zf.sRf {n : Nat} {i r : MI} {o kz x : Int} (h : Zf n i r) (ho : o < n) : Zf n i (st r o kz x) := fun a ha k => by rw [st_row (by omega)]; exact h a ha k
theorem Zf.sM {n N : Nat} {i r : MI} (h : Zf n i r) : Zf (n + 1 + N) i (rowsR r n N) := fun a ha k => by rw [rowsR_row (by omega)]; exact h a (by omega) k
theorem Zf.z {n : Nat} {i r : MI} (h : Zf n i r) (hn : n < 540) : zr i r n := ⟨fun k => (h n (Int.le_refl _) k).1, fun k => (h n (Int.le_refl _) k).2⟩
theorem Zf.zM {n N : Nat} {i r : MI} (h : Zf n i r) (hN : n + 1 + N ≤ 540) : ∀ (j : Nat) (k : Int), j < N → i ((n : Int) + 1 + j) k = 0 := fun j k hj => (h _ (by omega) k).1

theorem Cc.v {l : Launch} {Δ : Wd} {y : MethodName} {bytes : ByteArray} {maxL fr lo mc ms n n2 : Nat} {av : List Value} {i r i2 r2 : MI} (hy : plainName y.cls = true) (hname : y.name = "<init>") (hlen : (lg_sl av).length ≤ maxL)
    (walk : ∀ (Γ : Cx) (Q : State → Prop), okG Γ Δ l (sRx fr lo mc ms) bytes y.cls maxL → okIni Γ → (∀ {pc : Nat} {lv : List (Nat × Value)} {kc sl : Nat}, decode bytes pc = .ok (.return_, 1) → kc ≤ mc → sl ≤ ms → V Γ Δ n2 true i2 r2 kc sl Q pc lv []) → V Γ Δ n true i r 0 0 Q 0 (lv_args 0 av) []) :
    Met l y (Cond.code y bytes maxL none :: gW) (sRx fr lo mc ms) (sPn Δ n av i r) (sQn Δ n2 i2 r2) mc ms (sFr Δ) := by
  refine Met.ofW (cc := bytes) (maxL := maxL) (ret := none) hy rfl ?_
  intro p e s m args below meth c s₁ B hml hv
  obtain ⟨rfl, ⟨hP, hsz⟩, hKK⟩ := hv
  have hts := atoms_spec (ws := Cond.code y bytes maxL none :: gW) B.pre
  have hown : s.vm.findClass y.cls = some m.cls := findClass_of_methodNamed B.named
  have hlk : meth.locks = false := B.notSynchronized
  have hx := B.exec
  have hb := B.bytes
  have hr := B.returns
  have hini : meth.name = "<init>" := (name_of_methodNamed B.named B.method).1.trans hname
  have hl := lv_entry av (n := maxL) hlen
  rw [lg_entry_eq]
  generalize (lg_sl av ++ List.replicate (maxL - (lg_sl av).length) Slot.unset).toArray = ls at hl ⊢
  have hG : okG (p, l, e, sRx fr lo mc ms, s, m, av.toArray, below, meth, c, maxL) Δ l (sRx fr lo mc ms) bytes y.cls maxL := ⟨hx, hb, hml, hown, fun w hw => hts w (List.mem_cons_of_mem _ hw), hKK, hlk, rfl, rfl, rfl⟩
  refine walk _ _ hG hini ?_ s.heap [] ls hP (fun _ => hsz) va_S.rf hl
  intro pc lv kc sl hdg hkc hsl H locs ls hP hz hS hl
  exact W.widen hkc hsl (W.vret hx hb hr (fun t ht hW => ⟨⟨(), rfl, trivial, by rw [← ht] at hP; exact hP, by rw [ht]; exact (hz rfl).1⟩, hS.F ht⟩) hS.2.2 hdg hlk)
section VCC
variable {Γ : Cx} {Δ : Wd} {l : Launch} {R : Room} {n : Nat} {i r : MI} {kc sl : Nat} {Q : State → Prop} {pc : Nat} {lv lv' : List (Nat × Value)} {stk : List Value} {cc : ByteArray} {own : String} {nL : Nat}
theorem V.objInit {ix : Nat} {o : Int} (h : okG Γ Δ l R cc own nL) (hlink : Cond.methodLink own ix Lib.objectInit ∈ gW) (hinst : Cond.instanceMethod Lib.objectInit ∈ gW) (hcode : Cond.code Lib.objectInit ⟨#[0xb1]⟩ 1 none ∈ gW) (hR : 1 ≤ R.frames ∧ (stk.map fun v => v.category).sum + 12 ≤ R.locals) (hdg : decode cc pc = .ok (.invokespecial ix, 3)) (kk : V Γ Δ n true i r kc sl Q (pc + 3) lv stk) : V Γ Δ n true i r kc sl Q pc lv (.ref (sA Δ o) :: stk) := by
  obtain ⟨p, l', e, R', s, m, args, below, meth, c, nL'⟩ := Γ
  obtain ⟨hx, hb, hml, hown, hts, hKK, hlk, rfl, rfl, rfl⟩ := h
  intro H locs ls hP hz hS hl
  exact W.objInit hx hb hown (hts _ hlink) (hts _ hinst) (hts _ hcode) rfl (hl.1.trans hml.symm) rfl hdg hR.1 (by show 2 * 0 + _ + 12 ≤ _; have := hR.2; omega) (kk H locs ls hP hz hS hl)
theorem V.ccallN {y : MethodName} {bytes : ByteArray} {maxL fr lo mc ms ix n2 : Nat} {host : String} {o : Int} {i2 r2 : MI} (h : okG Γ Δ l R cc own nL) (hM : Met l y (Cond.code y bytes maxL none :: gW) (sRx fr lo mc ms) (sPn Δ n [.ref (sA Δ o)] i r) (sQn Δ n2 i2 r2) mc ms (sFr Δ)) (hY : mY y bytes maxL none 0) (hname : y.name = "<init>") (hl1 : Cond.methodLinkNest own ix y host ∈ gX) (hl2 : Cond.instanceMethod y ∈ gW)
    (hR : fr + 1 ≤ R.frames ∧ 8 + (maxL + 11) + lo ≤ R.locals ∧ kc + mc ≤ R.cells ∧ sl + ms ≤ R.slots) (hst : (stk.map fun v => v.category).sum ≤ 8) (hdg : decode cc pc = .ok (.invokespecial ix, 3)) (kk : V Γ Δ n2 true i2 r2 (kc + mc) (sl + ms) Q (pc + 3) lv stk) : V Γ Δ n true i r kc sl Q pc lv (.ref (sA Δ o) :: stk) := by
  obtain ⟨p, l', e, R', s, m, args, below, meth, c, nL'⟩ := Γ
  obtain ⟨hx, hb, hml, hown, hts, hKK, hlk, rfl, rfl, rfl⟩ := h
  intro H locs ls hP hz hS hl
  obtain ⟨y1, y2, y3, y4, y5⟩ := hY
  exact va_callv (va_runIN (As := []) (rest := stk) ⟨hx, hb, hml, hown, hts⟩ hM ⟨⟨⟨rfl, rfl, hR.1, hR.2.1, gW_pay hts y2, List.mem_cons_self⟩, hts _ y2, hts _ y1, ⟨y3, y4⟩, fun sig hh => by rw [hh] at y5; exact (Option.some.inj y5).symm, va_Nw.use rfl (hKK.2.2.2.2.1 _ hl1)⟩, hname, hts _ hl2⟩ ⟨sPn_blind, fun U hU hW => ⟨rfl, ⟨by rw [hU]; exact hP, by rw [hU]; exact hz rfl⟩, KK_warm hKK hW hS hU⟩⟩ rfl rfl hl.1 rfl (lv_room hst) hdg ⟨hR.2.2.1, hR.2.2.2⟩) hS (fun _ _ q => q) (fun _ q => q) (fun u t H1 locs1 ht hvm hw hB hz1 hk1 hS1 => by
    obtain ⟨hB, hB2⟩ := hB
    rw [ht] at hB hB2
    exact kk H1 locs1 ls hB (fun _ => ⟨hB2, (hz rfl).2⟩) hS1 hl)
theorem V.ccall {y : MethodName} {bytes : ByteArray} {maxL fr lo mc ms ix n2 : Nat} {o : Int} {i2 r2 : MI} (h : okG Γ Δ l R cc own nL) (hM : Met l y (Cond.code y bytes maxL none :: gW) (sRx fr lo mc ms) (sPn Δ n [.ref (sA Δ o)] i r) (sQn Δ n2 i2 r2) mc ms (sFr Δ)) (hY : mY y bytes maxL none 0) (hname : y.name = "<init>") (hl1 : Cond.methodLink own ix y ∈ gW) (hl2 : Cond.instanceMethod y ∈ gW)
    (hR : fr + 1 ≤ R.frames ∧ 8 + (maxL + 11) + lo ≤ R.locals ∧ kc + mc ≤ R.cells ∧ sl + ms ≤ R.slots) (hst : (stk.map fun v => v.category).sum ≤ 8) (hdg : decode cc pc = .ok (.invokespecial ix, 3)) (kk : V Γ Δ n2 true i2 r2 (kc + mc) (sl + ms) Q (pc + 3) lv stk) : V Γ Δ n true i r kc sl Q pc lv (.ref (sA Δ o) :: stk) := by
  obtain ⟨p, l', e, R', s, m, args, below, meth, c, nL'⟩ := Γ
  obtain ⟨hx, hb, hml, hown, hts, hKK, hlk, rfl, rfl, rfl⟩ := h
  intro H locs ls hP hz hS hl
  obtain ⟨y1, y2, y3, y4, y5⟩ := hY
  exact va_callv (va_runI (As := []) (rest := stk) ⟨hx, hb, hml, hown, hts⟩ hM ⟨⟨rfl, rfl, hR.1, hR.2.1, gW_pay hts y2, List.mem_cons_self, hts _ y2, hts _ y1, ⟨y3, y4⟩, fun sig hh => by rw [hh] at y5; exact (Option.some.inj y5).symm, hts _ hl1⟩, hname, hts _ hl2⟩ ⟨sPn_blind, fun U hU hW => ⟨rfl, ⟨by rw [hU]; exact hP, by rw [hU]; exact hz rfl⟩, KK_warm hKK hW hS hU⟩⟩ rfl rfl hl.1 rfl (lv_room hst) hdg ⟨hR.2.2.1, hR.2.2.2⟩) hS (fun _ _ q => q) (fun _ q => q) (fun u t H1 locs1 ht hvm hw hB hz1 hk1 hS1 => by
    obtain ⟨hB, hB2⟩ := hB
    rw [ht] at hB hB2
    exact kk H1 locs1 ls hB (fun _ => ⟨hB2, (hz rfl).2⟩) hS1 hl)
end VCC
