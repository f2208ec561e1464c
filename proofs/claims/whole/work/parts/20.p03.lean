/-! ===== small methods ===== -/
theorem StmAt.st {i : MI} {o a k v : Int} {F N T : Int → Int} {O : Int} (h : StmAt i a F N T O) (ha : o < a ∨ a + 3 < o) : StmAt (st i o k v) a F N T O :=
  h.congr (st_row (by omega)) (st_row (by omega)) (st_row (by omega)) (st_row (by omega))
theorem MPart.st {i : MI} {o b F N T a k v : Int} (h : MPart i o b F N T) (ha : a ≠ o) : MPart (st i a k v) o b F N T := by
  have e : Pilot.CSchedularyLaw_law_r7114_237193.st i a k v o = i o := st_row (fun q => ha q.symm)
  obtain ⟨a1, a2, a3⟩ := h
  constructor <;> (rw [e]; assumption)
theorem MStm.st {i : MI} {ob b a k v : Int} {F N T : Int → Int} {O : Int} (h : MStm i ob b F N T O) (ha : a ≠ ob) : MStm (st i a k v) ob b F N T O :=
  ⟨h.p0.st ha, h.p1.st ha, fun q => (h.p2 q).st ha, by rw [st_row (fun q => ha q.symm)]; exact h.o⟩
/-- cached rows are kept -/
def Kp (i i' : MI) : Prop := ∀ a, (61 ≤ a ∧ a ≤ 68) ∨ (71 ≤ a ∧ a ≤ 487) → i' a = i a
/-- after a call of the class: s says code, value and data -/
structure Cl (s : Int × Int × Dat) (i i' r : MI) (md co : Int) : Prop where
  p : ClassP s.2.2 i' r
  k : Kp i i'
  f : ∀ a, 504 ≤ a → a ≠ 540 → i' a = i a
  m : s.1 = 0 → i' 0 9 = md ∧ i' 0 10 = co
  m' : s.1 ≠ 0 → i' 0 = i 0
  out : s.1 = 0 → i' 540 0 = jLo ((sJ s.2.1).toInt64) ∧ i' 540 1 = jHi ((sJ s.2.1).toInt64)
structure Mo (s : Int × Int × Dat) (v : Int) (i i' : MI) : Prop where
  p : ModelP s.2.2 i'
  f : Fm i i'
  c : i' 504 0 = s.1
  v : s.1 = 0 → v = s.2.1
macro "clp" h:term : tactic => `(tactic| (
  have hs9 := fun k a b => stm_rng (RefP.s (ClassP.rf $h) k a b)
  have hs9' := stm_rng (RefP.p (ClassP.rf $h))
  have hc12 := ClassP.c12 $h
  constructor <;> intros <;> try (simp (disch := omega) only [st_row, st_ne, st_eq])
  all_goals first
    | exact ClassP.many $h | exact ClassP.cnt $h | exact ClassP.inc $h | exact ClassP.tur $h | exact ClassP.bits $h | exact ClassP.fac $h
    | exact ClassP.rf $h | exact ClassP.c12 $h
    | (apply ClassP.tx $h <;> assumption) | (apply ClassP.inp $h <;> assumption) | (apply ClassP.told $h <;> assumption)
    | (apply ClassP.un $h <;> assumption) | (apply ClassP.cy $h <;> assumption) | (apply ClassP.ac $h <;> assumption) | (apply ClassP.ach $h <;> assumption)
    | (apply ClassP.apt $h <;> assumption) | (apply ClassP.dep $h <;> assumption)
    | (rename_i kk ka kb
       have hkb := Int.lt_of_lt_of_le kb hc12.2
       have hk9 := hs9 kk ka hkb
       repeat' apply StmAt.st
       · exact ClassP.st $h kk ka kb
       all_goals omega)
    | (have u1 := ClassP.tx $h
       have u2 := ClassP.inp $h
       have u3 := ClassP.told $h
       have u4 := ClassP.un $h
       have u5 := ClassP.cy $h
       have u6 := ClassP.ac $h
       have u7 := ClassP.ach $h
       have u8 := ClassP.apt $h
       have u9 := ClassP.dep $h
       unfold Pilot.CSchedularyLaw_law_r7114_237193.st
       grind)
    | skip))
macro "mop" h:term : tactic => `(tactic| (
  constructor <;> intros <;> try (simp (disch := omega) only [st_row, st_ne, st_eq])
  all_goals first
    | exact ModelP.many $h | exact ModelP.cnt $h | exact ModelP.inc $h | exact ModelP.tur $h | exact ModelP.bits $h | exact ModelP.fac $h
    | (apply ModelP.tx $h <;> assumption) | (apply ModelP.inp $h <;> assumption) | (apply ModelP.told $h <;> assumption)
    | (apply ModelP.un $h <;> assumption) | (apply ModelP.cy $h <;> assumption) | (apply ModelP.ac $h <;> assumption) | (apply ModelP.act $h <;> assumption)
    | (apply ModelP.dep $h <;> assumption)
    | (repeat' apply MStm.st
       · apply ModelP.st $h <;> assumption
       all_goals decide)
    | (have u1 := ModelP.tx $h
       have u2 := ModelP.inp $h
       have u3 := ModelP.told $h
       have u4 := ModelP.un $h
       have u5 := ModelP.cy $h
       have u6 := ModelP.ac $h
       have u7 := ModelP.act $h
       have u9 := ModelP.dep $h
       unfold Pilot.CSchedularyLaw_law_r7114_237193.st
       grind)
    | skip))
macro "rowk" : tactic => `(tactic| (intro a; intros; simp (disch := omega) only [st_row]))
/-- an exception of the class: nothing has changed -/
theorem Cl.exc {D : Dat} {c : Int} {i r : MI} {md co : Int} (h : ClassP D i r) (hc : c ≠ 0) : Cl (c, 0, D) i i r md co :=
  ⟨h, fun _ _ => rfl, fun _ _ _ => rfl, fun q => absurd q hc, fun _ => rfl, fun q => absurd q hc⟩
macro "hsx" h:ident : tactic => `(tactic| ((try simp (disch := omega) only [if_pos, if_neg] at $h:ident); subst $h:ident))
/-- a leaf of the class: stores, the call's end -/
macro "cleaf" h:term : tactic => `(tactic| (
  refine ⟨?_, ?_, ?_, fun _ => ⟨?_, ?_⟩, fun q => absurd rfl q, fun _ => ⟨?_, ?_⟩⟩
  · clp $h
  · intro a ha; simp (disch := omega) only [st_row]
  · intro a ha hb; simp (disch := omega) only [st_row]
  all_goals try (simp (disch := omega) only [st_row, st_ne, st_eq])))
macro "mleaf" h:term : tactic => `(tactic| (
  refine ⟨?_, ?_, ?_, fun _ => ?_⟩
  · mop $h
  · intro a ha; simp (disch := omega) only [st_row]
  all_goals try (simp (disch := omega) only [st_row, st_ne, st_eq])))
macro "upd" h:term : tactic => `(tactic| (
  have hupd := $h
  unfold Pilot.CSchedularyLaw_law_r7114_237193.st
  grind))
macro "spl" : tactic => `(tactic| repeat' (first | (refine And.intro ?_ ?_) | intro _))
def spTurns (D : Dat) (p : Int) : Int × Int × Dat := if 1 ≤ p ∧ p ≤ 16 then (if p.tmod D.fac = 0 then (0, D.tur, {D with tur := p}) else (2, 0, D)) else (1, 0, D)
theorem L_setTurns {D : Dat} {i r : MI} {p : Int} {Q : Int → MI → Prop} (h : ClassP D i r) (ok : DOk D) (hQ : ∀ i', Cl (spTurns D p) i i' r (min (i 0 9) 4) 0 → Q (spTurns D p).1 i') : wp_L_setTurns p i r Q := by
  generalize hs : spTurns D p = s at hQ
  unfold spTurns at hs
  unfold wp_L_setTurns wp_X11_setTurns wp_X11_changeValues
  simp only [isWithin_eq, isDivided_eq, bz_0, h.fac, h.tur]
  have hf := ok.fac
  refine ⟨fun h1 => .inl ⟨trivial, ?_⟩, fun h1 => ⟨fun h2 => .inr ⟨trivial, ?_⟩, fun h2 => ?_⟩⟩
  · rw [if_neg h1] at hs; subst hs; exact hQ _ (Cl.exc h (by decide))
  · rw [if_pos (by omega), if_neg (by omega)] at hs; subst hs; exact hQ _ (Cl.exc h (by decide))
  · rw [if_pos (by omega), if_pos (by omega)] at hs; subst hs
    refine hQ _ ?_
    cleaf h
theorem M_setTurns {D : Dat} {i r : MI} {p : Int} {Q : Int → MI → Prop} (h : ModelP D i) (ok : DOk D) (hQ : ∀ v i', Mo (spTurns D p) v i i' → Q v i') : wp_X12_setTurns p i r Q := by
  generalize hs : spTurns D p = s at hQ
  unfold spTurns at hs
  unfold wp_X12_setTurns s21_X12_setTurns s43_X12_setTurns s50_X12_setTurns
  have hf := ok.fac
  simp (disch := omega) [in_eq, fails_eq, bz_0, st_row, st_ne, st_eq, h.fac, h.tur]
  refine ⟨fun h1 => ?_, fun h1 h2 => ⟨by omega, fun h3 => ?_, fun h3 => ?_⟩⟩ <;> hsx hs <;> refine hQ _ _ ?_ <;> mleaf h
def spBits (D : Dat) (p : Int) : Int × Int × Dat := if 1 ≤ p ∧ p ≤ 16 then (0, D.bits, {D with bits := p}) else (1, 0, D)
theorem L_setBits {D : Dat} {i r : MI} {p : Int} {Q : Int → MI → Prop} (h : ClassP D i r) (ok : DOk D) (hQ : ∀ i', Cl (spBits D p) i i' r (min (i 0 9) 4) 0 → Q (spBits D p).1 i') : wp_L_setBits p i r Q := by
  generalize hs : spBits D p = s at hQ
  unfold spBits at hs
  unfold wp_L_setBits wp_X11_setBits wp_X11_changeValues
  simp only [isWithin_eq, bz_0, h.bits]
  refine ⟨fun h1 => ⟨trivial, ?_⟩, fun h1 => ?_⟩ <;> hsx hs
  · exact hQ _ (Cl.exc h (by decide))
  · refine hQ _ ?_
    cleaf h
theorem M_setBits {D : Dat} {i r : MI} {p : Int} {Q : Int → MI → Prop} (h : ModelP D i) (ok : DOk D) (hQ : ∀ v i', Mo (spBits D p) v i i' → Q v i') : wp_X12_setBits p i r Q := by
  generalize hs : spBits D p = s at hQ
  unfold spBits at hs
  unfold wp_X12_setBits s21_X12_setBits
  simp (disch := omega) [in_eq, fails_eq, bz_0, st_row, st_ne, st_eq, h.bits]
  refine ⟨fun h1 => ?_, fun h1 h2 => ?_⟩ <;> hsx hs <;> refine hQ _ _ ?_ <;> mleaf h
def spInput (D : Dat) (p : Int) : Int × Int × Dat := if 0 ≤ p ∧ p ≤ 65535 then (if D.inc < 32 then (0, D.inc + 1, {D with inc := D.inc + 1, inp := fun k => if k = D.inc then p else D.inp k}) else (2, 0, D)) else (1, 0, D)
theorem L_input {D : Dat} {i r : MI} {p : Int} {Q : Int → MI → Prop} (h : ClassP D i r) (ok : DOk D) (hQ : ∀ i', Cl (spInput D p) i i' r (min (i 0 9) 4) 0 → Q (spInput D p).1 i') : wp_L_input p i r Q := by
  generalize hs : spInput D p = s at hQ
  unfold spInput at hs
  unfold wp_L_input wp_X11_input wp_X11_changeValues
  have hc := ok.inc
  simp (disch := omega) only [isWithin_eq, bz_0, st_row, st_ne, st_eq, h.inc, wr_of]
  refine ⟨fun h1 => .inl ⟨trivial, ?_⟩, fun h1 => ⟨fun h2 => ⟨⟨by omega, by omega⟩, ?_⟩, fun h2 => .inr ⟨trivial, ?_⟩⟩⟩ <;> hsx hs
  · exact hQ _ (Cl.exc h (by decide))
  · refine hQ _ ?_
    cleaf h
  · exact hQ _ (Cl.exc h (by decide))
theorem M_input {D : Dat} {i r : MI} {p : Int} {Q : Int → MI → Prop} (h : ModelP D i) (ok : DOk D) (hQ : ∀ v i', Mo (spInput D p) v i i' → Q v i') : wp_X12_input p i r Q := by
  generalize hs : spInput D p = s at hQ
  unfold spInput at hs
  unfold wp_X12_input s21_X12_input s43_X12_input s50_X12_input
  have hc := ok.inc
  simp (disch := omega) [in_eq, fails_eq, bz_0, st_row, st_ne, st_eq, h.inc, wr_of]
  refine ⟨fun h1 => ?_, fun h1 h2 => ⟨fun h3 => ?_, fun h3 => ⟨by omega, ?_⟩⟩⟩ <;> hsx hs <;> refine hQ _ _ ?_ <;> mleaf h
def spMemory (D : Dat) (m p v : Int) : Int × Int × Dat := if (m = 77 ∨ m = 78) ∧ 0 ≤ p ∧ p ≤ 15 ∧ 0 ≤ v ∧ v ≤ 65535 then (0, D.told (m - 77) p, {D with told := fun a b => if a = m - 77 ∧ b = p then v else D.told a b}) else (1, 0, D)
theorem ixS_2 (p : Int) : ixS 2 p = if p = 77 then 0 else if p = 78 then 1 else -1 := by
  unfold ixS chS
  simp only [ixL]
  grind
theorem ixS_3 (p : Int) : ixS 3 p = if p = 97 then 0 else if p = 109 then 1 else if p = 103 then 2 else if p = 77 then 3 else if p = 78 then 4 else if p = 60 then 5 else if p = 62 then 6 else -1 := by
  unfold ixS chS
  simp only [ixL]
  grind
theorem L_setMemory {D : Dat} {i r : MI} {m p v : Int} {Q : Int → MI → Prop} (h : ClassP D i r) (ok : DOk D) (hm : 0 ≤ m ∧ m < 65536) (hQ : ∀ i', Cl (spMemory D m p v) i i' r (min (i 0 9) 4) 0 → Q (spMemory D m p v).1 i') : wp_L_setMemory m p v i r Q := by
  generalize hs : spMemory D m p v = s at hQ
  unfold spMemory at hs
  simp only [wp_L_setMemory, wp_X11_setMemory, s18_X11_setMemory, wp_X11_changeValues, wp_X11_isPlace, s23_X11_isPlace, s24_X11_isPlace]
  refine indexOf_w (by decide) hm.1 hm.2 ?_
  have hx := ixS_2 m
  simp (disch := omega) [isWithin_eq, bz_0, st_row, st_ne, st_eq, wr_of]
  refine ⟨fun h1 => ?_, fun h1 => ⟨fun h2 => ?_, fun h2 h3 => ⟨fun h4 => ?_, fun h4 h5 => indexOf_w (by decide) hm.1 hm.2 ⟨by grind, by omega, ?_⟩⟩⟩⟩
  · rw [if_neg (by grind)] at hs; subst hs
    exact hQ _ (Cl.exc h (by decide))
  · rw [if_neg (by grind)] at hs; subst hs
    exact hQ _ (Cl.exc h (by decide))
  · rw [if_neg (by grind)] at hs; subst hs
    exact hQ _ (Cl.exc h (by decide))
  · have hx0 : ixS 2 m = m - 77 ∧ (m = 77 ∨ m = 78) := by grind
    rw [if_pos (by omega)] at hs; subst hs
    rw [hx0.1, h.told _ _ (by omega) (by omega) (by omega) (by omega)]
    refine hQ _ ?_
    cleaf h
theorem M_setMemory {D : Dat} {i r : MI} {m p v : Int} {Q : Int → MI → Prop} (h : ModelP D i) (ok : DOk D) (hm : 0 ≤ m ∧ m < 65536) (hQ : ∀ w i', Mo (spMemory D m p v) w i i' → Q w i') : wp_X12_setMemory m p v i r Q := by
  generalize hs : spMemory D m p v = s at hQ
  unfold spMemory at hs
  simp only [wp_X12_setMemory, s24_X12_setMemory, s29_X12_setMemory, wp_X12_noMemory, s22_X12_noMemory, s12_X12_noMemory, s27_X12_noMemory, wp_X12_cell, s12_X12_cell]
  by_cases hh : (m = 77 ∨ m = 78) ∧ 0 ≤ p ∧ p ≤ 15 ∧ 0 ≤ v ∧ v ≤ 65535
  · rw [if_pos hh] at hs; subst hs
    obtain ⟨h1, h2, h3, h4, h5⟩ := hh
    have e := h.told (m - 77) p (by omega) (by omega) (by omega) (by omega)
    rcases h1 with rfl | rfl <;> simp (disch := omega) [in_eq, fails_eq, bz_0, bz_1, bz, st_row, st_ne, st_eq, wr_of, h2, h3, h4, h5]
    · rw [show (16 * (77 - 77 : Int) + p) = p by omega] at e
      rw [e]
      refine ⟨by omega, hQ _ _ ?_⟩
      mleaf h
    · rw [show (16 * (78 - 77 : Int) + p) = 16 + p by omega] at e
      rw [e]
      refine ⟨by omega, hQ _ _ ?_⟩
      mleaf h
  · rw [if_neg hh] at hs; subst hs
    simp (disch := omega) [in_eq, fails_eq, bz_0, bz_1, bz, st_row, st_ne, st_eq, wr_of]
    have hE : Q 0 (st (st i 504 0 0) 504 0 1) := by
      refine hQ _ _ ?_
      mleaf h
    spl
    all_goals first | exact hE | (exfalso; omega)
