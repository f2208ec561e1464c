/-! ===== the cases: what tells ===== -/
def SpOk (D : Dat) (s : Int × Int × Dat) (n : Int) : Prop := DOk s.2.2 ∧ (s.1 = 0 → sameC D s.2.2 n) ∧ (s.1 ≠ 0 → s.2.2 = D)
theorem SpOk.exc {D : Dat} (ok : DOk D) {c n : Int} (hc : c ≠ 0) : SpOk D (c, 0, D) n := ⟨ok, fun z => absurd z hc, fun _ => rfl⟩
theorem co_tur {D : Dat} {p : Int} {u y : Int → Int} : co u y D = co u y (Dat.mk (D.many) (D.tx) (D.cnt) (D.fac) (p) (D.bits) (D.inc) (D.inp) (D.told) (D.un) (D.cy) (D.F) (D.N) (D.T) (D.O) (D.ac) (D.ach) (D.apt) (D.dep)) := rfl
theorem spTurns_ok {D : Dat} (ok : DOk D) {p n : Int} (hn : n ≤ 4) : SpOk D (spTurns D p) n := by
  unfold spTurns
  split
  · rename_i h
    split
    · rename_i h2
      refine ⟨⟨ok.many, ok.tx, ok.cnt, ok.fac, ok.body, h, h2, ok.bits, ok.inc, ok.inp, ok.told, ok.un, ok.un1, ok.cy, ok.st, ok.ac, ok.ach, ok.apt, ok.dep⟩, fun _ => ⟨fun _ _ _ => rfl, fun _ => rfl, fun _ => rfl, fun z => by omega⟩, fun z => absurd rfl z⟩
    · exact .exc ok (by decide)
  · exact .exc ok (by decide)
theorem spBits_ok {D : Dat} (ok : DOk D) {p n : Int} (hn : n ≤ 4) : SpOk D (spBits D p) n := by
  unfold spBits
  split
  · rename_i h
    refine ⟨⟨ok.many, ok.tx, ok.cnt, ok.fac, ok.body, ok.tur, ok.div, h, ok.inc, ok.inp, ok.told, ok.un, ok.un1, ok.cy, ok.st, ok.ac, ok.ach, ok.apt, ok.dep⟩, fun _ => ⟨fun _ _ _ => rfl, fun _ => rfl, fun _ => rfl, fun z => by omega⟩, fun z => absurd rfl z⟩
  · exact .exc ok (by decide)
theorem spInput_ok {D : Dat} (ok : DOk D) {p n : Int} (hn : n ≤ 4) : SpOk D (spInput D p) n := by
  unfold spInput
  split
  · rename_i h
    split
    · rename_i h2
      have a := ok.inc
      refine ⟨⟨ok.many, ok.tx, ok.cnt, ok.fac, ok.body, ok.tur, ok.div, ok.bits, ?_, ?_, ok.told, ok.un, ok.un1, ok.cy, ok.st, ok.ac, ok.ach, ok.apt, ok.dep⟩, fun _ => ⟨fun _ _ _ => rfl, fun _ => rfl, fun _ => rfl, fun z => by omega⟩, fun z => absurd rfl z⟩
      · show 0 ≤ D.inc + 1 ∧ D.inc + 1 ≤ 32
        omega
      · intro k k0 k1
        have k1 : k < D.inc + 1 := k1
        show 0 ≤ (if k = D.inc then p else D.inp k) ∧ (if k = D.inc then p else D.inp k) ≤ 65535
        split
        · exact h
        · exact ok.inp k k0 (by omega)
    · exact .exc ok (by decide)
  · exact .exc ok (by decide)
theorem spMemory_ok {D : Dat} (ok : DOk D) {m p v n : Int} (hn : n ≤ 4) : SpOk D (spMemory D m p v) n := by
  unfold spMemory
  split
  · rename_i h
    refine ⟨⟨ok.many, ok.tx, ok.cnt, ok.fac, ok.body, ok.tur, ok.div, ok.bits, ok.inc, ok.inp, ?_, ok.un, ok.un1, ok.cy, ok.st, ok.ac, ok.ach, ok.apt, ok.dep⟩, fun _ => ⟨fun _ _ _ => rfl, fun _ => rfl, fun _ => rfl, fun z => by omega⟩, fun z => absurd rfl z⟩
    intro a b a0 a1 b0 b1
    show 0 ≤ (if a = m - 77 ∧ b = p then v else D.told a b) ∧ (if a = m - 77 ∧ b = p then v else D.told a b) ≤ 65535
    split
    · exact h.2.2.2
    · exact ok.told a b a0 a1 b0 b1
  · exact .exc ok (by decide)
theorem spUnits_ok {D : Dat} (ok : DOk D) {k m n : Int} (hn : n ≤ 2) : SpOk D (spUnits D k m) n := by
  unfold spUnits
  split
  · exact .exc ok (by decide)
  · rename_i h
    split
    · exact .exc ok (by decide)
    · rename_i h2
      refine ⟨⟨ok.many, ok.tx, ok.cnt, ok.fac, ok.body, ok.tur, ok.div, ok.bits, ok.inc, ok.inp, ok.told, ?_, ?_, ok.cy, ok.st, ok.ac, ok.ach, ok.apt, ok.dep⟩, fun _ => ⟨fun _ _ _ => rfl, fun _ => rfl, fun z => by omega, fun z => by omega⟩, fun z => absurd rfl z⟩
      · intro a a0 a1
        show 1 ≤ (if a = ixS 3 k then m else D.un a) ∧ (if a = ixS 3 k then m else D.un a) ≤ 4
        split
        · omega
        · exact ok.un a a0 a1
      · intro a a0 a1
        show (if a = ixS 3 k then m else D.un a) = 1
        split
        · omega
        · exact ok.un1 a a0 a1
theorem spCycles_ok {D : Dat} (ok : DOk D) {k m n : Int} (hn : n ≤ 1) : SpOk D (spCycles D k m) n := by
  unfold spCycles
  split
  · exact .exc ok (by decide)
  · rename_i h
    refine ⟨⟨ok.many, ok.tx, ok.cnt, ok.fac, ok.body, ok.tur, ok.div, ok.bits, ok.inc, ok.inp, ok.told, ok.un, ok.un1, ?_, ok.st, ok.ac, ok.ach, ok.apt, ok.dep⟩, fun _ => ⟨fun _ _ _ => rfl, fun z => by omega, fun z => by omega, fun z => by omega⟩, fun z => absurd rfl z⟩
    intro a a0 a1
    show 1 ≤ (if a = ixS 3 k then m else D.cy a) ∧ (if a = ixS 3 k then m else D.cy a) ≤ 5
    split
    · omega
    · exact ok.cy a a0 a1
theorem sameC.rfl' {D D' : Dat} {n : Int} (h1 : ∀ u y, co u y D = co u y D') (h2 : D.cy = D'.cy) (h3 : D.un = D'.un) (h5 : exd D = exd D') : sameC D D' n := ⟨fun _ => h1, fun _ => h2, fun _ => h3, fun _ => h5⟩
theorem spType_ok {D : Dat} (ok : DOk D) {c n : Int} (hc : 0 ≤ c ∧ c < 65536) : SpOk D (spType D c) n ∧ exd D = exd (spType D c).2.2 := by
  unfold spType
  split
  · exact ⟨.exc ok (by decide), rfl⟩
  · split
    · exact ⟨.exc ok (by decide), rfl⟩
    · rename_i h h2
      have a := ok.many
      refine ⟨⟨⟨?_, ?_, ok.cnt, ok.fac, ok.body, ok.tur, ok.div, ok.bits, ok.inc, ok.inp, ok.told, ok.un, ok.un1, ok.cy, ok.st, ok.ac, ok.ach, ok.apt, ok.dep⟩, fun _ => .rfl' (fun _ _ => rfl) rfl rfl rfl, fun z => absurd rfl z⟩, rfl⟩
      · show 0 ≤ D.many + 1 ∧ D.many + 1 ≤ 24
        omega
      · intro k k0 k1
        have k1 : k < D.many + 1 := k1
        show 0 ≤ (if k = D.many then c else D.tx k) ∧ (if k = D.many then c else D.tx k) < 65536
        split
        · exact hc
        · exact ok.tx k k0 (by omega)
theorem clear_ok {D : Dat} (ok : DOk D) : DOk (Dat.mk (0) (D.tx) (D.cnt) (D.fac) (D.tur) (D.bits) (D.inc) (D.inp) (D.told) (D.un) (D.cy) (D.F) (D.N) (D.T) (D.O) (D.ac) (D.ach) (D.apt) (D.dep)) :=
  ⟨by show (0:Int) ≤ 0 ∧ (0:Int) ≤ 24; decide, fun k a b => by have b : k < 0 := b; omega, ok.cnt, ok.fac, ok.body, ok.tur, ok.div, ok.bits, ok.inc, ok.inp, ok.told, ok.un, ok.un1, ok.cy, ok.st, ok.ac, ok.ach, ok.apt, ok.dep⟩
theorem spAction_ok {D : Dat} (ok : DOk D) {p c b n : Int} (hb : b = 0 ∨ b = 1) : SpOk D (spAction D p c b) n ∧ exd D = exd (spAction D p c b).2.2 := by
  unfold spAction
  split
  · rename_i h
    split
    · rename_i h2
      refine ⟨⟨⟨ok.many, ok.tx, ok.cnt, ok.fac, ok.body, ok.tur, ok.div, ok.bits, ok.inc, ok.inp, ok.told, ok.un, ok.un1, ok.cy, ok.st, ?_, ?_, ?_, ok.dep⟩, fun _ => .rfl' (fun _ _ => rfl) rfl rfl rfl, fun z => absurd rfl z⟩, rfl⟩
      · intro a a0 a1
        have := ok.ac a a0 a1
        have := ok.ac p h.1 (by omega)
        show 0 ≤ (if a = p then D.ac p + 1 else D.ac a) ∧ (if a = p then D.ac p + 1 else D.ac a) ≤ 16
        split <;> omega
      · intro a k a0 a1 k0 k1
        have k1 : k < (if a = p then D.ac p + 1 else D.ac a) := k1
        show 0 ≤ (if a = p ∧ k = D.ac p then c else D.ach a k) ∧ (if a = p ∧ k = D.ac p then c else D.ach a k) < 4
        by_cases z : a = p ∧ k = D.ac p
        · rw [if_pos z]; omega
        · rw [if_neg z]
          refine ok.ach a k a0 a1 k0 ?_
          split at k1
          · rename_i e; rw [e]; have : k ≠ D.ac p := fun y => z ⟨e, y⟩
            omega
          · exact k1
      · intro a k a0 a1 k0 k1
        have k1 : k < (if a = p then D.ac p + 1 else D.ac a) := k1
        show (if a = p ∧ k = D.ac p then b else D.apt a k) = 0 ∨ (if a = p ∧ k = D.ac p then b else D.apt a k) = 1
        by_cases z : a = p ∧ k = D.ac p
        · rw [if_pos z]; exact hb
        · rw [if_neg z]
          refine ok.apt a k a0 a1 k0 ?_
          split at k1
          · rename_i e; rw [e]; have : k ≠ D.ac p := fun y => z ⟨e, y⟩
            omega
          · exact k1
    · exact ⟨.exc ok (by decide), rfl⟩
  · exact ⟨.exc ok (by decide), rfl⟩
theorem spDepth_ok {D : Dat} (ok : DOk D) {c m n : Int} : SpOk D (spDepth D c m) n ∧ exd D = exd (spDepth D c m).2.2 := by
  unfold spDepth
  split
  · rename_i h
    refine ⟨⟨⟨ok.many, ok.tx, ok.cnt, ok.fac, ok.body, ok.tur, ok.div, ok.bits, ok.inc, ok.inp, ok.told, ok.un, ok.un1, ok.cy, ok.st, ok.ac, ok.ach, ok.apt, ?_⟩, fun _ => .rfl' (fun _ _ => rfl) rfl rfl rfl, fun z => absurd rfl z⟩, rfl⟩
    intro a a0 a1
    show 1 ≤ (if a = c then m else D.dep a) ∧ (if a = c then m else D.dep a) ≤ 16
    split
    · exact h.2.2
    · exact ok.dep a a0 a1
  · exact ⟨.exc ok (by decide), rfl⟩
