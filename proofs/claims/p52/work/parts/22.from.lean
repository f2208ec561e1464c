/-! THE CLAIM OUT OF ONE WALK OF THE LAW'S BODY. Your part is whole_start (and what it stands on); all else here is the same for every law, but numbers. -/
def R_law : String := "SchedularyLaw"
def lw_P (b : Addr) (xs : List Int32) (args : Array Value) (s : State) : Prop := args = #[.ref b] ∧ s.IntsAt b xs ∧ xs.length ≤ 260 ∧ (Jvm.Cond.and given_1 narrow_1).before args s = true
/-- what a walk over the start with the record d0 says of its end, said of the start itself -/
theorem lw_closed {s t : State} {o : Outcome} {d0 : Drawn} {L : List Loc} {k n : Nat} (hd0 : s.drawn.sameBut d0 lw_cs) (hv : ∃ v, o = .returned v) (hW : (s.setDrawn d0).WarmedH t.vm) (hs : (s.setDrawn d0).sameButNew ({ t with vm := s.vm } : State) L k n) : State.butDraws s t lw_cs (fun t1 => Framed s o t1 L k n) := by
  have h2 : t.drawn = d0 := congrArg State.drawn hs.1
  refine ⟨⟨hv, hW, State.sameButNew.setDrawn hs s.drawn⟩, ?_, by decide⟩
  rw [h2]
  exact hd0
def lw_Q (_ : Array Value) (s : State) (o : Outcome) (t : State) : Prop := o = .returned (some (.int 1)) ∧ State.butDraws s t lw_cs (fun t1 => Framed s o t1 [] 600390 7290160)
def lw_Z (below : List Frame) (a : Array Value) (s : State) : State → Prop := fun t => ∃ o, t.status = .running ∧ Ended t below o ∧ lw_Q a s o t
/-- the law's own end, with 1 on the stack, nothing written that was there before, its room as the claim has it; d0: the record of draws at this point (at the entry s.drawn: begin with 'refine W.base ?_' and 'have hd0 := Drawn.sameBut.refl s.drawn lw_cs') -/
theorem lw_ret {p : Program} {l : Launch} {e : Env} {s : State} {m : MethodId} {below : List Frame} {meth : Method} {c : Code} {b : Nat} {d0 : Drawn} (hd0 : s.drawn.sameBut d0 lw_cs) (hx : p.tables.exec = Jvm.exec) (hb : c.code = code) (hr : meth.sig.returnType = ret) (hlocks : meth.locks = false) {pc : Nat} {H : Heap} {ls : Array Slot} (hdg : decode code pc = .ok (.ireturn, 1)) : W p l e room_1 (s.setDrawn d0) m #[Value.ref b] below meth c H [] 600390 7290160 (lw_Z below #[Value.ref b] s) (F0 m pc ls [.int 1]) := by
  intro T hT X
  obtain ⟨fs, hret, hrun, hended, hW, hframe⟩ := X.leave (v := some (.int 1)) (hlocks := hlocks) (fun h => by rw [hr] at h; cases h)
  have hmeth' : T.vm.method? m = some meth := X.method'
  refine ⟨T.setFrames fs, ?_, .returned (some (.int 1)), hrun, hended, rfl, lw_closed hd0 ⟨_, rfl⟩ hW hframe⟩
  jvm_step X.here [X.here.top, hx, hb, hdg, hmeth', hr, ret, narrow_b1]
  (try refine ⟨rfl, ?_⟩); (try refine ⟨rfl, ?_⟩)
  first | (intro acts; rw [hret _ acts rfl rfl rfl]) | rw [hret _ _ rfl rfl rfl]
  exact Steps.refl _
/-- what holds at the law's entry: the machine, the code, the tables' words (any of lw_tbl by 'hts w (by decide +kernel)'), the script of L ints xs at the cell b, what the Statement gives of the start (any of its parts by flat_of_before) -/
def lw_At (p : Program) (s : State) (m : MethodId) (meth : Method) (c : Code) (b L : Nat) (xs : Nat → Int32) : Prop :=
  p.tables.exec = Jvm.exec ∧ c.code = code ∧ meth.sig.returnType = ret ∧ c.maxLocals = 2 ∧ s.vm.findClass R_law = some m.cls ∧ (∀ w ∈ lw_tbl, w.before #[Value.ref b] s = true) ∧ va_X b L xs s s.heap ∧ b < s.heap.size ∧ meth.locks = false ∧ (Jvm.Cond.and given_1 narrow_1).before #[Value.ref b] s = true
/-! ===== the digit tables, the builder's words ===== -/
theorem en_tdL {args : Array Value} {s : State} (hts : ∀ w ∈ lw_tbl, w.before args s = true) : ∀ w ∈ tdL, va_Nw w s := by
  intro w hw
  simp only [tdL, List.mem_cons, List.not_mem_nil, or_false] at hw
  rcases hw with rfl | rfl | rfl | rfl | rfl
  · exact va_Nw.of rfl (hts (Cond.superclass "java/lang/StringBuilder" "java/lang/AbstractStringBuilder") (gt_6 (List.mem_of_getElem? (i := 199) (by decide +kernel))))
  · exact va_Nw.of rfl (hts (Cond.privateMethod yJ5_ensureCapacityInternal_d00df) (gt_6 (List.mem_of_getElem? (i := 214) (by decide +kernel))))
  · exact va_Nw.of rfl (hts (Cond.privateMethod yJ5_newCapacity_0f7a4) (gt_6 (List.mem_of_getElem? (i := 218) (by decide +kernel))))
  · exact va_Nw.of rfl (hts (Cond.privateMethod yJ5_putStringAt_47b60) (gt_7 (List.mem_of_getElem? (i := 14) (by decide +kernel))))
  · exact va_Nw.of rfl (hts (Cond.privateMethod yJ5_inflateIfNeededFor_a7421) (gt_7 (List.mem_of_getElem? (i := 18) (by decide +kernel))))
set_option maxRecDepth 100000 in
theorem en_DigitOnes {args : Array Value} {s : State} (hts : ∀ w ∈ lw_tbl, w.before args s = true) (hn : narrow_1.before args s = true) : ∃ t, va_Z "java/lang/Integer" "DigitOnes" "[B" (.ref t) (fun _ => False) s s.heap ∧ va_T .byte t 100 (fun j => .int (sJ (dOnes j))) (fun _ => False) s s.heap := by
  have key : ∀ j : Nat, j < 100 → (Term.elem (.static "java/lang/Integer" "DigitOnes" "[B") (.int (Int32.ofNat j))).eval args s none [] s = some (.int (sJ (dOnes j))) := by
    intro j hj
    match j, hj with
    | 0, _ => exact va_eqt (en_l (en_l (en_l (en_r (en_l (en_l (en_l (en_l (en_l hn)))))))))
    | 1, _ => exact va_eqt (en_l (en_r (en_l (en_l (en_r (en_l (en_l (en_l (en_l (en_l hn))))))))))
    | 2, _ => exact va_eqt (en_r (en_r (en_l (en_l (en_r (en_l (en_l (en_l (en_l (en_l hn))))))))))
    | 3, _ => exact va_eqt (en_l (en_r (en_l (en_r (en_l (en_l (en_l (en_l (en_l hn)))))))))
    | 4, _ => exact va_eqt (en_l (en_r (en_r (en_l (en_r (en_l (en_l (en_l (en_l (en_l hn))))))))))
    | 5, _ => exact va_eqt (en_r (en_r (en_r (en_l (en_r (en_l (en_l (en_l (en_l (en_l hn))))))))))
    | 6, _ => exact va_eqt (en_l (en_l (en_r (en_r (en_l (en_l (en_l (en_l (en_l hn)))))))))
    | 7, _ => exact va_eqt (en_l (en_r (en_l (en_r (en_r (en_l (en_l (en_l (en_l (en_l hn))))))))))
    | 8, _ => exact va_eqt (en_r (en_r (en_l (en_r (en_r (en_l (en_l (en_l (en_l (en_l hn))))))))))
    | 9, _ => exact va_eqt (en_l (en_l (en_r (en_r (en_r (en_l (en_l (en_l (en_l (en_l hn))))))))))
    | 10, _ => exact va_eqt (en_r (en_l (en_r (en_r (en_r (en_l (en_l (en_l (en_l (en_l hn))))))))))
    | 11, _ => exact va_eqt (en_l (en_r (en_r (en_r (en_r (en_l (en_l (en_l (en_l (en_l hn))))))))))
    | 12, _ => exact va_eqt (en_r (en_r (en_r (en_r (en_r (en_l (en_l (en_l (en_l (en_l hn))))))))))
    | 13, _ => exact va_eqt (en_l (en_l (en_l (en_l (en_r (en_l (en_l (en_l (en_l hn)))))))))
    | 14, _ => exact va_eqt (en_l (en_r (en_l (en_l (en_l (en_r (en_l (en_l (en_l (en_l hn))))))))))
    | 15, _ => exact va_eqt (en_r (en_r (en_l (en_l (en_l (en_r (en_l (en_l (en_l (en_l hn))))))))))
    | 16, _ => exact va_eqt (en_l (en_r (en_l (en_l (en_r (en_l (en_l (en_l (en_l hn)))))))))
    | 17, _ => exact va_eqt (en_l (en_r (en_r (en_l (en_l (en_r (en_l (en_l (en_l (en_l hn))))))))))
    | 18, _ => exact va_eqt (en_r (en_r (en_r (en_l (en_l (en_r (en_l (en_l (en_l (en_l hn))))))))))
    | 19, _ => exact va_eqt (en_l (en_l (en_r (en_l (en_r (en_l (en_l (en_l (en_l hn)))))))))
    | 20, _ => exact va_eqt (en_l (en_r (en_l (en_r (en_l (en_r (en_l (en_l (en_l (en_l hn))))))))))
    | 21, _ => exact va_eqt (en_r (en_r (en_l (en_r (en_l (en_r (en_l (en_l (en_l (en_l hn))))))))))
    | 22, _ => exact va_eqt (en_l (en_r (en_r (en_l (en_r (en_l (en_l (en_l (en_l hn)))))))))
    | 23, _ => exact va_eqt (en_l (en_r (en_r (en_r (en_l (en_r (en_l (en_l (en_l (en_l hn))))))))))
    | 24, _ => exact va_eqt (en_r (en_r (en_r (en_r (en_l (en_r (en_l (en_l (en_l (en_l hn))))))))))
    | 25, _ => exact va_eqt (en_l (en_l (en_l (en_r (en_r (en_l (en_l (en_l (en_l hn)))))))))
    | 26, _ => exact va_eqt (en_l (en_r (en_l (en_l (en_r (en_r (en_l (en_l (en_l (en_l hn))))))))))
    | 27, _ => exact va_eqt (en_r (en_r (en_l (en_l (en_r (en_r (en_l (en_l (en_l (en_l hn))))))))))
    | 28, _ => exact va_eqt (en_l (en_r (en_l (en_r (en_r (en_l (en_l (en_l (en_l hn)))))))))
    | 29, _ => exact va_eqt (en_l (en_r (en_r (en_l (en_r (en_r (en_l (en_l (en_l (en_l hn))))))))))
    | 30, _ => exact va_eqt (en_r (en_r (en_r (en_l (en_r (en_r (en_l (en_l (en_l (en_l hn))))))))))
    | 31, _ => exact va_eqt (en_l (en_l (en_r (en_r (en_r (en_l (en_l (en_l (en_l hn)))))))))
    | 32, _ => exact va_eqt (en_l (en_r (en_l (en_r (en_r (en_r (en_l (en_l (en_l (en_l hn))))))))))
    | 33, _ => exact va_eqt (en_r (en_r (en_l (en_r (en_r (en_r (en_l (en_l (en_l (en_l hn))))))))))
    | 34, _ => exact va_eqt (en_l (en_l (en_r (en_r (en_r (en_r (en_l (en_l (en_l (en_l hn))))))))))
    | 35, _ => exact va_eqt (en_r (en_l (en_r (en_r (en_r (en_r (en_l (en_l (en_l (en_l hn))))))))))
    | 36, _ => exact va_eqt (en_l (en_r (en_r (en_r (en_r (en_r (en_l (en_l (en_l (en_l hn))))))))))
    | 37, _ => exact va_eqt (en_r (en_r (en_r (en_r (en_r (en_r (en_l (en_l (en_l (en_l hn))))))))))
    | 38, _ => exact va_eqt (en_l (en_l (en_l (en_l (en_l (en_r (en_l (en_l (en_l hn)))))))))
    | 39, _ => exact va_eqt (en_l (en_r (en_l (en_l (en_l (en_l (en_r (en_l (en_l (en_l hn))))))))))
    | 40, _ => exact va_eqt (en_r (en_r (en_l (en_l (en_l (en_l (en_r (en_l (en_l (en_l hn))))))))))
    | 41, _ => exact va_eqt (en_l (en_r (en_l (en_l (en_l (en_r (en_l (en_l (en_l hn)))))))))
    | 42, _ => exact va_eqt (en_l (en_r (en_r (en_l (en_l (en_l (en_r (en_l (en_l (en_l hn))))))))))
    | 43, _ => exact va_eqt (en_r (en_r (en_r (en_l (en_l (en_l (en_r (en_l (en_l (en_l hn))))))))))
    | 44, _ => exact va_eqt (en_l (en_l (en_r (en_l (en_l (en_r (en_l (en_l (en_l hn)))))))))
    | 45, _ => exact va_eqt (en_l (en_r (en_l (en_r (en_l (en_l (en_r (en_l (en_l (en_l hn))))))))))
    | 46, _ => exact va_eqt (en_r (en_r (en_l (en_r (en_l (en_l (en_r (en_l (en_l (en_l hn))))))))))
    | 47, _ => exact va_eqt (en_l (en_r (en_r (en_l (en_l (en_r (en_l (en_l (en_l hn)))))))))
    | 48, _ => exact va_eqt (en_l (en_r (en_r (en_r (en_l (en_l (en_r (en_l (en_l (en_l hn))))))))))
    | 49, _ => exact va_eqt (en_r (en_r (en_r (en_r (en_l (en_l (en_r (en_l (en_l (en_l hn))))))))))
    | 50, _ => exact va_eqt (en_l (en_l (en_l (en_r (en_l (en_r (en_l (en_l (en_l hn)))))))))
    | 51, _ => exact va_eqt (en_l (en_r (en_l (en_l (en_r (en_l (en_r (en_l (en_l (en_l hn))))))))))
    | 52, _ => exact va_eqt (en_r (en_r (en_l (en_l (en_r (en_l (en_r (en_l (en_l (en_l hn))))))))))
    | 53, _ => exact va_eqt (en_l (en_r (en_l (en_r (en_l (en_r (en_l (en_l (en_l hn)))))))))
    | 54, _ => exact va_eqt (en_l (en_r (en_r (en_l (en_r (en_l (en_r (en_l (en_l (en_l hn))))))))))
    | 55, _ => exact va_eqt (en_r (en_r (en_r (en_l (en_r (en_l (en_r (en_l (en_l (en_l hn))))))))))
    | 56, _ => exact va_eqt (en_l (en_l (en_r (en_r (en_l (en_r (en_l (en_l (en_l hn)))))))))
    | 57, _ => exact va_eqt (en_l (en_r (en_l (en_r (en_r (en_l (en_r (en_l (en_l (en_l hn))))))))))
    | 58, _ => exact va_eqt (en_r (en_r (en_l (en_r (en_r (en_l (en_r (en_l (en_l (en_l hn))))))))))
    | 59, _ => exact va_eqt (en_l (en_l (en_r (en_r (en_r (en_l (en_r (en_l (en_l (en_l hn))))))))))
    | 60, _ => exact va_eqt (en_r (en_l (en_r (en_r (en_r (en_l (en_r (en_l (en_l (en_l hn))))))))))
    | 61, _ => exact va_eqt (en_l (en_r (en_r (en_r (en_r (en_l (en_r (en_l (en_l (en_l hn))))))))))
    | 62, _ => exact va_eqt (en_r (en_r (en_r (en_r (en_r (en_l (en_r (en_l (en_l (en_l hn))))))))))
    | 63, _ => exact va_eqt (en_l (en_l (en_l (en_l (en_r (en_r (en_l (en_l (en_l hn)))))))))
    | 64, _ => exact va_eqt (en_l (en_r (en_l (en_l (en_l (en_r (en_r (en_l (en_l (en_l hn))))))))))
    | 65, _ => exact va_eqt (en_r (en_r (en_l (en_l (en_l (en_r (en_r (en_l (en_l (en_l hn))))))))))
    | 66, _ => exact va_eqt (en_l (en_r (en_l (en_l (en_r (en_r (en_l (en_l (en_l hn)))))))))
    | 67, _ => exact va_eqt (en_l (en_r (en_r (en_l (en_l (en_r (en_r (en_l (en_l (en_l hn))))))))))
    | 68, _ => exact va_eqt (en_r (en_r (en_r (en_l (en_l (en_r (en_r (en_l (en_l (en_l hn))))))))))
    | 69, _ => exact va_eqt (en_l (en_l (en_r (en_l (en_r (en_r (en_l (en_l (en_l hn)))))))))
    | 70, _ => exact va_eqt (en_l (en_r (en_l (en_r (en_l (en_r (en_r (en_l (en_l (en_l hn))))))))))
    | 71, _ => exact va_eqt (en_r (en_r (en_l (en_r (en_l (en_r (en_r (en_l (en_l (en_l hn))))))))))
    | 72, _ => exact va_eqt (en_l (en_r (en_r (en_l (en_r (en_r (en_l (en_l (en_l hn)))))))))
    | 73, _ => exact va_eqt (en_l (en_r (en_r (en_r (en_l (en_r (en_r (en_l (en_l (en_l hn))))))))))
    | 74, _ => exact va_eqt (en_r (en_r (en_r (en_r (en_l (en_r (en_r (en_l (en_l (en_l hn))))))))))
    | 75, _ => exact va_eqt (en_l (en_l (en_l (en_r (en_r (en_r (en_l (en_l (en_l hn)))))))))
    | 76, _ => exact va_eqt (en_l (en_r (en_l (en_l (en_r (en_r (en_r (en_l (en_l (en_l hn))))))))))
    | 77, _ => exact va_eqt (en_r (en_r (en_l (en_l (en_r (en_r (en_r (en_l (en_l (en_l hn))))))))))
    | 78, _ => exact va_eqt (en_l (en_r (en_l (en_r (en_r (en_r (en_l (en_l (en_l hn)))))))))
    | 79, _ => exact va_eqt (en_l (en_r (en_r (en_l (en_r (en_r (en_r (en_l (en_l (en_l hn))))))))))
    | 80, _ => exact va_eqt (en_r (en_r (en_r (en_l (en_r (en_r (en_r (en_l (en_l (en_l hn))))))))))
    | 81, _ => exact va_eqt (en_l (en_l (en_r (en_r (en_r (en_r (en_l (en_l (en_l hn)))))))))
    | 82, _ => exact va_eqt (en_l (en_r (en_l (en_r (en_r (en_r (en_r (en_l (en_l (en_l hn))))))))))
    | 83, _ => exact va_eqt (en_r (en_r (en_l (en_r (en_r (en_r (en_r (en_l (en_l (en_l hn))))))))))
    | 84, _ => exact va_eqt (en_l (en_l (en_r (en_r (en_r (en_r (en_r (en_l (en_l (en_l hn))))))))))
    | 85, _ => exact va_eqt (en_r (en_l (en_r (en_r (en_r (en_r (en_r (en_l (en_l (en_l hn))))))))))
    | 86, _ => exact va_eqt (en_l (en_r (en_r (en_r (en_r (en_r (en_r (en_l (en_l (en_l hn))))))))))
    | 87, _ => exact va_eqt (en_r (en_r (en_r (en_r (en_r (en_r (en_r (en_l (en_l (en_l hn))))))))))
    | 88, _ => exact va_eqt (en_l (en_l (en_l (en_l (en_l (en_l (en_r (en_l (en_l hn)))))))))
    | 89, _ => exact va_eqt (en_l (en_r (en_l (en_l (en_l (en_l (en_l (en_r (en_l (en_l hn))))))))))
    | 90, _ => exact va_eqt (en_r (en_r (en_l (en_l (en_l (en_l (en_l (en_r (en_l (en_l hn))))))))))
    | 91, _ => exact va_eqt (en_l (en_r (en_l (en_l (en_l (en_l (en_r (en_l (en_l hn)))))))))
    | 92, _ => exact va_eqt (en_l (en_r (en_r (en_l (en_l (en_l (en_l (en_r (en_l (en_l hn))))))))))
    | 93, _ => exact va_eqt (en_r (en_r (en_r (en_l (en_l (en_l (en_l (en_r (en_l (en_l hn))))))))))
    | 94, _ => exact va_eqt (en_l (en_l (en_r (en_l (en_l (en_l (en_r (en_l (en_l hn)))))))))
    | 95, _ => exact va_eqt (en_l (en_r (en_l (en_r (en_l (en_l (en_l (en_r (en_l (en_l hn))))))))))
    | 96, _ => exact va_eqt (en_r (en_r (en_l (en_r (en_l (en_l (en_l (en_r (en_l (en_l hn))))))))))
    | 97, _ => exact va_eqt (en_l (en_r (en_r (en_l (en_l (en_l (en_r (en_l (en_l hn)))))))))
    | 98, _ => exact va_eqt (en_l (en_r (en_r (en_r (en_l (en_l (en_l (en_r (en_l (en_l hn))))))))))
    | 99, _ => exact va_eqt (en_r (en_r (en_r (en_r (en_l (en_l (en_l (en_r (en_l (en_l hn))))))))))
    | k + 100, h => omega
  obtain ⟨t, h1, h2⟩ := va_Tof (tm := .static "java/lang/Integer" "DigitOnes" "[B") (ty := .byte) (N := 100) (f := fun j => .int (sJ (dOnes j))) (A := fun _ => False) (by decide) (en_l (en_r (en_r (en_r (en_l (en_l (en_l (en_l (en_l (en_l hn)))))))))) (va_eqt (en_r (en_r (en_r (en_r (en_l (en_l (en_l (en_l (en_l (en_l hn))))))))))) key (fun _ _ q => q)
  exact ⟨t, va_Zref (hts (Cond.laysStatic "java/lang/Integer" "DigitOnes" "[B") (gt_7 (List.mem_of_getElem? (i := 64) (by decide +kernel)))) (hts (Cond.initialized "java/lang/Integer") (gt_1 (List.mem_of_getElem? (i := 34) (by decide +kernel)))) h1 (fun _ _ q => q), h2⟩
set_option maxRecDepth 100000 in
theorem en_DigitTens {args : Array Value} {s : State} (hts : ∀ w ∈ lw_tbl, w.before args s = true) (hn : narrow_1.before args s = true) : ∃ t, va_Z "java/lang/Integer" "DigitTens" "[B" (.ref t) (fun _ => False) s s.heap ∧ va_T .byte t 100 (fun j => .int (sJ (dTens j))) (fun _ => False) s s.heap := by
  have key : ∀ j : Nat, j < 100 → (Term.elem (.static "java/lang/Integer" "DigitTens" "[B") (.int (Int32.ofNat j))).eval args s none [] s = some (.int (sJ (dTens j))) := by
    intro j hj
    match j, hj with
    | 0, _ => exact va_eqt (en_l (en_r (en_l (en_r (en_l (en_l (en_r (en_l (en_l hn)))))))))
    | 1, _ => exact va_eqt (en_l (en_r (en_r (en_l (en_r (en_l (en_l (en_r (en_l (en_l hn))))))))))
    | 2, _ => exact va_eqt (en_r (en_r (en_r (en_l (en_r (en_l (en_l (en_r (en_l (en_l hn))))))))))
    | 3, _ => exact va_eqt (en_l (en_l (en_r (en_r (en_l (en_l (en_r (en_l (en_l hn)))))))))
    | 4, _ => exact va_eqt (en_l (en_r (en_l (en_r (en_r (en_l (en_l (en_r (en_l (en_l hn))))))))))
    | 5, _ => exact va_eqt (en_r (en_r (en_l (en_r (en_r (en_l (en_l (en_r (en_l (en_l hn))))))))))
    | 6, _ => exact va_eqt (en_l (en_l (en_r (en_r (en_r (en_l (en_l (en_r (en_l (en_l hn))))))))))
    | 7, _ => exact va_eqt (en_r (en_l (en_r (en_r (en_r (en_l (en_l (en_r (en_l (en_l hn))))))))))
    | 8, _ => exact va_eqt (en_l (en_r (en_r (en_r (en_r (en_l (en_l (en_r (en_l (en_l hn))))))))))
    | 9, _ => exact va_eqt (en_r (en_r (en_r (en_r (en_r (en_l (en_l (en_r (en_l (en_l hn))))))))))
    | 10, _ => exact va_eqt (en_l (en_l (en_l (en_l (en_r (en_l (en_r (en_l (en_l hn)))))))))
    | 11, _ => exact va_eqt (en_l (en_r (en_l (en_l (en_l (en_r (en_l (en_r (en_l (en_l hn))))))))))
    | 12, _ => exact va_eqt (en_r (en_r (en_l (en_l (en_l (en_r (en_l (en_r (en_l (en_l hn))))))))))
    | 13, _ => exact va_eqt (en_l (en_r (en_l (en_l (en_r (en_l (en_r (en_l (en_l hn)))))))))
    | 14, _ => exact va_eqt (en_l (en_r (en_r (en_l (en_l (en_r (en_l (en_r (en_l (en_l hn))))))))))
    | 15, _ => exact va_eqt (en_r (en_r (en_r (en_l (en_l (en_r (en_l (en_r (en_l (en_l hn))))))))))
    | 16, _ => exact va_eqt (en_l (en_l (en_r (en_l (en_r (en_l (en_r (en_l (en_l hn)))))))))
    | 17, _ => exact va_eqt (en_l (en_r (en_l (en_r (en_l (en_r (en_l (en_r (en_l (en_l hn))))))))))
    | 18, _ => exact va_eqt (en_r (en_r (en_l (en_r (en_l (en_r (en_l (en_r (en_l (en_l hn))))))))))
    | 19, _ => exact va_eqt (en_l (en_r (en_r (en_l (en_r (en_l (en_r (en_l (en_l hn)))))))))
    | 20, _ => exact va_eqt (en_l (en_r (en_r (en_r (en_l (en_r (en_l (en_r (en_l (en_l hn))))))))))
    | 21, _ => exact va_eqt (en_r (en_r (en_r (en_r (en_l (en_r (en_l (en_r (en_l (en_l hn))))))))))
    | 22, _ => exact va_eqt (en_l (en_l (en_l (en_r (en_r (en_l (en_r (en_l (en_l hn)))))))))
    | 23, _ => exact va_eqt (en_l (en_r (en_l (en_l (en_r (en_r (en_l (en_r (en_l (en_l hn))))))))))
    | 24, _ => exact va_eqt (en_r (en_r (en_l (en_l (en_r (en_r (en_l (en_r (en_l (en_l hn))))))))))
    | 25, _ => exact va_eqt (en_l (en_r (en_l (en_r (en_r (en_l (en_r (en_l (en_l hn)))))))))
    | 26, _ => exact va_eqt (en_l (en_r (en_r (en_l (en_r (en_r (en_l (en_r (en_l (en_l hn))))))))))
    | 27, _ => exact va_eqt (en_r (en_r (en_r (en_l (en_r (en_r (en_l (en_r (en_l (en_l hn))))))))))
    | 28, _ => exact va_eqt (en_l (en_l (en_r (en_r (en_r (en_l (en_r (en_l (en_l hn)))))))))
    | 29, _ => exact va_eqt (en_l (en_r (en_l (en_r (en_r (en_r (en_l (en_r (en_l (en_l hn))))))))))
    | 30, _ => exact va_eqt (en_r (en_r (en_l (en_r (en_r (en_r (en_l (en_r (en_l (en_l hn))))))))))
    | 31, _ => exact va_eqt (en_l (en_l (en_r (en_r (en_r (en_r (en_l (en_r (en_l (en_l hn))))))))))
    | 32, _ => exact va_eqt (en_r (en_l (en_r (en_r (en_r (en_r (en_l (en_r (en_l (en_l hn))))))))))
    | 33, _ => exact va_eqt (en_l (en_r (en_r (en_r (en_r (en_r (en_l (en_r (en_l (en_l hn))))))))))
    | 34, _ => exact va_eqt (en_r (en_r (en_r (en_r (en_r (en_r (en_l (en_r (en_l (en_l hn))))))))))
    | 35, _ => exact va_eqt (en_l (en_l (en_l (en_l (en_l (en_r (en_r (en_l (en_l hn)))))))))
    | 36, _ => exact va_eqt (en_l (en_r (en_l (en_l (en_l (en_l (en_r (en_r (en_l (en_l hn))))))))))
    | 37, _ => exact va_eqt (en_r (en_r (en_l (en_l (en_l (en_l (en_r (en_r (en_l (en_l hn))))))))))
    | 38, _ => exact va_eqt (en_l (en_r (en_l (en_l (en_l (en_r (en_r (en_l (en_l hn)))))))))
    | 39, _ => exact va_eqt (en_l (en_r (en_r (en_l (en_l (en_l (en_r (en_r (en_l (en_l hn))))))))))
    | 40, _ => exact va_eqt (en_r (en_r (en_r (en_l (en_l (en_l (en_r (en_r (en_l (en_l hn))))))))))
    | 41, _ => exact va_eqt (en_l (en_l (en_r (en_l (en_l (en_r (en_r (en_l (en_l hn)))))))))
    | 42, _ => exact va_eqt (en_l (en_r (en_l (en_r (en_l (en_l (en_r (en_r (en_l (en_l hn))))))))))
    | 43, _ => exact va_eqt (en_r (en_r (en_l (en_r (en_l (en_l (en_r (en_r (en_l (en_l hn))))))))))
    | 44, _ => exact va_eqt (en_l (en_r (en_r (en_l (en_l (en_r (en_r (en_l (en_l hn)))))))))
    | 45, _ => exact va_eqt (en_l (en_r (en_r (en_r (en_l (en_l (en_r (en_r (en_l (en_l hn))))))))))
    | 46, _ => exact va_eqt (en_r (en_r (en_r (en_r (en_l (en_l (en_r (en_r (en_l (en_l hn))))))))))
    | 47, _ => exact va_eqt (en_l (en_l (en_l (en_r (en_l (en_r (en_r (en_l (en_l hn)))))))))
    | 48, _ => exact va_eqt (en_l (en_r (en_l (en_l (en_r (en_l (en_r (en_r (en_l (en_l hn))))))))))
    | 49, _ => exact va_eqt (en_r (en_r (en_l (en_l (en_r (en_l (en_r (en_r (en_l (en_l hn))))))))))
    | 50, _ => exact va_eqt (en_l (en_r (en_l (en_r (en_l (en_r (en_r (en_l (en_l hn)))))))))
    | 51, _ => exact va_eqt (en_l (en_r (en_r (en_l (en_r (en_l (en_r (en_r (en_l (en_l hn))))))))))
    | 52, _ => exact va_eqt (en_r (en_r (en_r (en_l (en_r (en_l (en_r (en_r (en_l (en_l hn))))))))))
    | 53, _ => exact va_eqt (en_l (en_l (en_r (en_r (en_l (en_r (en_r (en_l (en_l hn)))))))))
    | 54, _ => exact va_eqt (en_l (en_r (en_l (en_r (en_r (en_l (en_r (en_r (en_l (en_l hn))))))))))
    | 55, _ => exact va_eqt (en_r (en_r (en_l (en_r (en_r (en_l (en_r (en_r (en_l (en_l hn))))))))))
    | 56, _ => exact va_eqt (en_l (en_l (en_r (en_r (en_r (en_l (en_r (en_r (en_l (en_l hn))))))))))
    | 57, _ => exact va_eqt (en_r (en_l (en_r (en_r (en_r (en_l (en_r (en_r (en_l (en_l hn))))))))))
    | 58, _ => exact va_eqt (en_l (en_r (en_r (en_r (en_r (en_l (en_r (en_r (en_l (en_l hn))))))))))
    | 59, _ => exact va_eqt (en_r (en_r (en_r (en_r (en_r (en_l (en_r (en_r (en_l (en_l hn))))))))))
    | 60, _ => exact va_eqt (en_l (en_l (en_l (en_l (en_r (en_r (en_r (en_l (en_l hn)))))))))
    | 61, _ => exact va_eqt (en_l (en_r (en_l (en_l (en_l (en_r (en_r (en_r (en_l (en_l hn))))))))))
    | 62, _ => exact va_eqt (en_r (en_r (en_l (en_l (en_l (en_r (en_r (en_r (en_l (en_l hn))))))))))
    | 63, _ => exact va_eqt (en_l (en_r (en_l (en_l (en_r (en_r (en_r (en_l (en_l hn)))))))))
    | 64, _ => exact va_eqt (en_l (en_r (en_r (en_l (en_l (en_r (en_r (en_r (en_l (en_l hn))))))))))
    | 65, _ => exact va_eqt (en_r (en_r (en_r (en_l (en_l (en_r (en_r (en_r (en_l (en_l hn))))))))))
    | 66, _ => exact va_eqt (en_l (en_l (en_r (en_l (en_r (en_r (en_r (en_l (en_l hn)))))))))
    | 67, _ => exact va_eqt (en_l (en_r (en_l (en_r (en_l (en_r (en_r (en_r (en_l (en_l hn))))))))))
    | 68, _ => exact va_eqt (en_r (en_r (en_l (en_r (en_l (en_r (en_r (en_r (en_l (en_l hn))))))))))
    | 69, _ => exact va_eqt (en_l (en_r (en_r (en_l (en_r (en_r (en_r (en_l (en_l hn)))))))))
    | 70, _ => exact va_eqt (en_l (en_r (en_r (en_r (en_l (en_r (en_r (en_r (en_l (en_l hn))))))))))
    | 71, _ => exact va_eqt (en_r (en_r (en_r (en_r (en_l (en_r (en_r (en_r (en_l (en_l hn))))))))))
    | 72, _ => exact va_eqt (en_l (en_l (en_l (en_r (en_r (en_r (en_r (en_l (en_l hn)))))))))
    | 73, _ => exact va_eqt (en_l (en_r (en_l (en_l (en_r (en_r (en_r (en_r (en_l (en_l hn))))))))))
    | 74, _ => exact va_eqt (en_r (en_r (en_l (en_l (en_r (en_r (en_r (en_r (en_l (en_l hn))))))))))
    | 75, _ => exact va_eqt (en_l (en_r (en_l (en_r (en_r (en_r (en_r (en_l (en_l hn)))))))))
    | 76, _ => exact va_eqt (en_l (en_r (en_r (en_l (en_r (en_r (en_r (en_r (en_l (en_l hn))))))))))
    | 77, _ => exact va_eqt (en_r (en_r (en_r (en_l (en_r (en_r (en_r (en_r (en_l (en_l hn))))))))))
    | 78, _ => exact va_eqt (en_l (en_l (en_r (en_r (en_r (en_r (en_r (en_l (en_l hn)))))))))
    | 79, _ => exact va_eqt (en_l (en_r (en_l (en_r (en_r (en_r (en_r (en_r (en_l (en_l hn))))))))))
    | 80, _ => exact va_eqt (en_r (en_r (en_l (en_r (en_r (en_r (en_r (en_r (en_l (en_l hn))))))))))
    | 81, _ => exact va_eqt (en_l (en_l (en_r (en_r (en_r (en_r (en_r (en_r (en_l (en_l hn))))))))))
    | 82, _ => exact va_eqt (en_r (en_l (en_r (en_r (en_r (en_r (en_r (en_r (en_l (en_l hn))))))))))
    | 83, _ => exact va_eqt (en_l (en_r (en_r (en_r (en_r (en_r (en_r (en_r (en_l (en_l hn))))))))))
    | 84, _ => exact va_eqt (en_r (en_r (en_r (en_r (en_r (en_r (en_r (en_r (en_l (en_l hn))))))))))
    | 85, _ => exact va_eqt (en_l (en_l (en_l (en_l (en_l (en_l (en_l (en_r (en_l hn)))))))))
    | 86, _ => exact va_eqt (en_l (en_r (en_l (en_l (en_l (en_l (en_l (en_l (en_r (en_l hn))))))))))
    | 87, _ => exact va_eqt (en_r (en_r (en_l (en_l (en_l (en_l (en_l (en_l (en_r (en_l hn))))))))))
    | 88, _ => exact va_eqt (en_l (en_r (en_l (en_l (en_l (en_l (en_l (en_r (en_l hn)))))))))
    | 89, _ => exact va_eqt (en_l (en_r (en_r (en_l (en_l (en_l (en_l (en_l (en_r (en_l hn))))))))))
    | 90, _ => exact va_eqt (en_r (en_r (en_r (en_l (en_l (en_l (en_l (en_l (en_r (en_l hn))))))))))
    | 91, _ => exact va_eqt (en_l (en_l (en_r (en_l (en_l (en_l (en_l (en_r (en_l hn)))))))))
    | 92, _ => exact va_eqt (en_l (en_r (en_l (en_r (en_l (en_l (en_l (en_l (en_r (en_l hn))))))))))
    | 93, _ => exact va_eqt (en_r (en_r (en_l (en_r (en_l (en_l (en_l (en_l (en_r (en_l hn))))))))))
    | 94, _ => exact va_eqt (en_l (en_r (en_r (en_l (en_l (en_l (en_l (en_r (en_l hn)))))))))
    | 95, _ => exact va_eqt (en_l (en_r (en_r (en_r (en_l (en_l (en_l (en_l (en_r (en_l hn))))))))))
    | 96, _ => exact va_eqt (en_r (en_r (en_r (en_r (en_l (en_l (en_l (en_l (en_r (en_l hn))))))))))
    | 97, _ => exact va_eqt (en_l (en_l (en_l (en_r (en_l (en_l (en_l (en_r (en_l hn)))))))))
    | 98, _ => exact va_eqt (en_l (en_r (en_l (en_l (en_r (en_l (en_l (en_l (en_r (en_l hn))))))))))
    | 99, _ => exact va_eqt (en_r (en_r (en_l (en_l (en_r (en_l (en_l (en_l (en_r (en_l hn))))))))))
    | k + 100, h => omega
  obtain ⟨t, h1, h2⟩ := va_Tof (tm := .static "java/lang/Integer" "DigitTens" "[B") (ty := .byte) (N := 100) (f := fun j => .int (sJ (dTens j))) (A := fun _ => False) (by decide) (en_l (en_r (en_l (en_l (en_r (en_l (en_l (en_r (en_l (en_l hn)))))))))) (va_eqt (en_r (en_r (en_l (en_l (en_r (en_l (en_l (en_r (en_l (en_l hn))))))))))) key (fun _ _ q => q)
  exact ⟨t, va_Zref (hts (Cond.laysStatic "java/lang/Integer" "DigitTens" "[B") (gt_7 (List.mem_of_getElem? (i := 66) (by decide +kernel)))) (hts (Cond.initialized "java/lang/Integer") (gt_1 (List.mem_of_getElem? (i := 34) (by decide +kernel)))) h1 (fun _ _ q => q), h2⟩
theorem en_TD {args : Array Value} {s : State} (hts : ∀ w ∈ lw_tbl, w.before args s = true) (hn : narrow_1.before args s = true) {Δ : Wd} (hE : ∀ H, sE Δ H → ∀ q : Nat, q < s.heap.size → H[q]? = s.heap[q]?) (hs0 : sS0 Δ = s) : TD Δ := by
  subst hs0
  refine ⟨en_tdL hts, ?_, ?_⟩
  · obtain ⟨t, h1, h2⟩ := en_DigitOnes hts hn
    exact ⟨t, fun H hH => ⟨h1.kept (fun a ha _ => hE H hH a ha), h2.kept (fun a ha _ => hE H hH a ha)⟩⟩
  · obtain ⟨t, h1, h2⟩ := en_DigitTens hts hn
    exact ⟨t, fun H hH => ⟨h1.kept (fun a ha _ => hE H hH a ha), h2.kept (fun a ha _ => hE H hH a ha)⟩⟩
/-- the law's world once the Schedulary is made: its own cells alone may be written -/
def rT (Δ : Wd) : Wd := (Δ.1, Δ.2.1, Δ.2.2.1, Δ.2.2.2.1, Δ.2.2.2.2.1, Δ.2.2.2.2.2.1, (fun q : Nat => Δ.2.2.2.1 ≤ q ∧ q < Δ.2.2.2.1 + 504), sE Δ, sS0 Δ)
theorem KK.range {Δ : Wd} {s : State} (hb : Δ.2.2.2.1 = s.heap.size) (hF : ∀ q, sFr Δ q ↔ s.heap.size ≤ q) (hE : ∀ H, sE Δ H ↔ ∀ q : Nat, q < s.heap.size → H[q]? = s.heap[q]?) (hK : KK Δ s) : KK (rT Δ) s := by
  obtain ⟨h1, h2, h3, h4, h5, h6, h7, h8, h9, h10, h11, h12, h13⟩ := hK
  have sub : ∀ q, sFr (rT Δ) q → sFr Δ q := fun q z => (hF q).mpr (hb ▸ z.1)
  refine ⟨h1, h2.narrow sub, h3, h4.narrow sub, h5, h6.narrow sub, h7.narrow sub, h8.narrow sub, h9, h10, h11, fun H H1 ho hq => ?_, h13⟩
  refine (hE H1).mpr (fun q hlt => ?_)
  have e0 : H[q]? = s.heap[q]? := (hE H).mp hq q hlt
  have l0 : q < H.size := by
    rw [Array.getElem?_eq_getElem hlt] at e0
    exact (Array.getElem?_eq_some_iff.mp e0).1
  exact (ho q l0 (fun z => by have h9 : Δ.2.2.2.1 ≤ q := z.1; omega)).trans e0
theorem V.range {Γ : Cx} {Δ : Wd} {l : Launch} {R : Room} {i r : MI} {kc sl : Nat} {Q : State → Prop} {pc : Nat} {lv : List (Nat × Value)} {stk : List Value} {cc : ByteArray} {own : String} {nL : Nat} (h : okG Γ Δ l R cc own nL) (hb : ∀ q, sFr Δ q → Δ.2.2.2.1 ≤ q) (hs : match Γ with | (_, _, _, _, s, _, _, _, _, _, _) => Δ.2.2.2.1 = s.heap.size) (kk : V Γ (rT Δ) 504 false i r kc sl Q pc lv stk) : V Γ Δ 504 false i r kc sl Q pc lv stk := by
  obtain ⟨p, l', e, R', s, m, args, below, meth, c, nL'⟩ := Γ
  intro H locs ls hP hz hS hl
  have hs : Δ.2.2.2.1 = s.heap.size := hs
  exact W.forget (locs := []) (fun q hq => by have := hb _ (hS.2.2 q hq); omega) (kk H [] ls ⟨hP.1, fun k hk => ⟨Nat.le_add_right _ _, Nat.add_lt_add_left hk _⟩, hP.2.2⟩ (fun q => by cases q) ⟨hS.1, fun q h1 _ => hS.2.1 q h1 (fun z => by have := hb _ z; omega), fun _ h => by cases h⟩ hl)
theorem whole_from (hLL : ∀ (L : Nat) (xs : Int → Int), L ≤ 260 → (∀ k, sR (xs k)) → wp_LL iP rP L xs (fun x _ _ => x = 1)) {p : Program} {e : Env} {s : State} {m : MethodId} {below : List Frame} {meth : Method} {c : Code} (l : Launch) (hflags : l.flags = flags0) {b L : Nat} {xs : Nat → Int32} (hL : L ≤ 260) (C0 : lw_At p s m meth c b L xs) : W p l e room_1 s m #[Value.ref b] below meth c s.heap [] 0 0 (lw_Z below #[Value.ref b] s) (entryFrame m ([Value.ref b] : List Value).toArray 2) := by
  obtain ⟨hx, hb, hr, hml, hown, hts, hX, hbl, hlk, hgv⟩ := C0
  obtain ⟨Δ, hΔ, hF, hE, hs0, hKK⟩ := en_KK hts hgv
  have hst : l.stackTraces = false := by
    unfold Launch.stackTraces
    rw [hflags]
    decide +kernel
  have hG : okG (p, l, e, room_1, s, m, #[Value.ref b], below, meth, c, 2) Δ l room_1 cL_law "SchedularyLaw" 2 := ⟨hx, hb, hml, hown, fun w hw => hts w (gW_tbl hw), hKK, hlk, rfl, rfl, rfl⟩
  have hG1 : okG (p, l, e, room_1, s, m, #[Value.ref b], below, meth, c, 2) (rT Δ) l room_1 cL_law "SchedularyLaw" 2 := ⟨hx, hb, hml, hown, fun w hw => hts w (gW_tbl hw), hKK.range hΔ hF hE, hlk, rfl, rfl, rfl⟩
  have hEm : ∀ H, sE (rT Δ) H → ∀ q : Nat, q < s.heap.size → H[q]? = s.heap[q]? := fun H h => (hE H).mp h
  have hEA : EA (rT Δ) b L (fun k : Int => (xs k.toNat).toInt) := by
    refine ⟨fun H hH => ?_, fun k => sR_of _, by omega⟩
    have h0 : va_X b L xs (sS0 Δ) s.heap := by rw [hs0]; exact hX
    have h1 : va_X b L xs (sS0 Δ) H := h0.kept (hEm H hH b hbl)
    obtain ⟨scr, g1, g2, g3, g4, g5⟩ := h1
    exact ⟨scr, g1, g2, g3, g4, fun j hj => by rw [g5 j hj]; show _ = some (Value.int (sJ ((xs ((j : Int)).toNat).toInt))); rw [sJ_of, Int.toNat_natCast]⟩
  have hTD : TD (rT Δ) := en_TD hts (en_r hgv) hEm hs0
  have hnb : nb (rT Δ) := fun q z => z.2
  have hl := lv_entry [Value.ref b] (n := 2) (Nat.le_of_ble_eq_true rfl)
  rw [lg_entry_eq]
  generalize (lg_sl [Value.ref b] ++ List.replicate (2 - (lg_sl [Value.ref b]).length) Slot.unset).toArray = ls at hl ⊢
  refine law_start (Γ := (p, l, e, room_1, s, m, #[Value.ref b], below, meth, c, 2)) (Δ := Δ) (Q := lw_Z below #[Value.ref b] s) ⟨by decide, by decide, by decide, by decide⟩ hG (V.range hG (fun q z => by rw [hΔ]; exact (hF q).mp z) hΔ ?_) s.heap [] ls ⟨fun k q hq => absurd hq (by simp [sWs]), fun k hk => absurd hk (Nat.not_lt_zero k), (hE _).mpr (fun _ _ => rfl)⟩ (fun _ => ⟨by rw [hΔ]; rfl, fun q h => (hF q).mpr (by rw [← hΔ]; exact h)⟩) va_S.rf hl
  refine V.pick [1, 0] rfl ?_
  refine V.ks (kc2 := 6270) (sl2 := 6 * 6270) (by decide) (by decide) ?_
  refine sm_LL hEA hTD hnb hst ⟨Nat.le_of_ble_eq_true rfl, Nat.le_of_ble_eq_true rfl, Nat.le_of_ble_eq_true rfl, Nat.le_of_ble_eq_true rfl⟩ hG1 ?_ okI_P Wf_P (hLL L _ hL (fun k => sR_of _))
  intro pc lv x i' r' kc sl hdg hsx hnar hkc hsl hi' hw' hq H locs ls2 hP2 hz hS2 hl2
  subst hq
  have h0 := W.forget (L := locs) (fun q hq => by have h9 : Δ.2.2.2.1 ≤ q.base := (hS2.2.2 q hq).1; rw [hΔ] at h9; exact h9) (lw_ret (p := p) (l := l) (e := e) (s := s) (m := m) (below := below) (meth := meth) (c := c) (b := b) (d0 := s.drawn) (H := H) (ls := ls2) (pc := pc) (Drawn.sameBut.refl s.drawn lw_cs) hx hb hr hlk hdg)
  refine W.widen (Nat.le_trans hkc ?_) (Nat.le_trans hsl ?_) h0 <;> decide
