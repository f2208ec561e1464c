/-! ===== what is done in order, asked ===== -/
def RC (D : Dat) (i : MI) : Prop := i 0 10 = 0 ∨ CSt D 61 i (execS D)
/-- after a call of the class that may carry out: what it leaves -/
def Cq (D : Dat) (c v : Int) (i i' r : MI) : Prop := (ClassP D i' r) ∧ (RC D i') ∧ (∀ a, 67 ≤ a → a ≤ 487 → i' a = i a) ∧ (i' 0 9 = i 0 9) ∧ (∀ a, 504 ≤ a → a ≠ 540 → i' a = i a) ∧ (c = 0 → i' 540 0 = jLo ((sJ v).toInt64) ∧ i' 540 1 = jHi ((sJ v).toInt64))
theorem Cq.p {D : Dat} {c v : Int} {i i' r : MI} (h0 : Cq D c v i i' r) : ClassP D i' r := h0.1
theorem Cq.rc {D : Dat} {c v : Int} {i i' r : MI} (h0 : Cq D c v i i' r) : RC D i' := h0.2.1
theorem Cq.k {D : Dat} {c v : Int} {i i' r : MI} (h0 : Cq D c v i i' r) : ∀ a, 67 ≤ a → a ≤ 487 → i' a = i a := h0.2.2.1
theorem Cq.m {D : Dat} {c v : Int} {i i' r : MI} (h0 : Cq D c v i i' r) : i' 0 9 = i 0 9 := h0.2.2.2.1
theorem Cq.f {D : Dat} {c v : Int} {i i' r : MI} (h0 : Cq D c v i i' r) : ∀ a, 504 ≤ a → a ≠ 540 → i' a = i a := h0.2.2.2.2.1
theorem Cq.out {D : Dat} {c v : Int} {i i' r : MI} (h0 : Cq D c v i i' r) : c = 0 → i' 540 0 = jLo ((sJ v).toInt64) ∧ i' 540 1 = jHi ((sJ v).toInt64) := h0.2.2.2.2.2
theorem Cq.mk {D : Dat} {c v : Int} {i i' r : MI} (h0 : ClassP D i' r) (h1 : RC D i') (h2 : ∀ a, 67 ≤ a → a ≤ 487 → i' a = i a) (h3 : i' 0 9 = i 0 9) (h4 : ∀ a, 504 ≤ a → a ≠ 540 → i' a = i a) (h5 : c = 0 → i' 540 0 = jLo ((sJ v).toInt64) ∧ i' 540 1 = jHi ((sJ v).toInt64)) : Cq D c v i i' r := ⟨h0, h1, h2, h3, h4, h5⟩
def Mq (D : Dat) (c v w : Int) (i i' : MI) : Prop := (ModelP D i') ∧ (Fm i i') ∧ (i' 504 0 = c) ∧ (c = 0 → w = v)
theorem Mq.p {D : Dat} {c v w : Int} {i i' : MI} (h0 : Mq D c v w i i') : ModelP D i' := h0.1
theorem Mq.f {D : Dat} {c v w : Int} {i i' : MI} (h0 : Mq D c v w i i') : Fm i i' := h0.2.1
theorem Mq.c {D : Dat} {c v w : Int} {i i' : MI} (h0 : Mq D c v w i i') : i' 504 0 = c := h0.2.2.1
theorem Mq.v {D : Dat} {c v w : Int} {i i' : MI} (h0 : Mq D c v w i i') : c = 0 → w = v := h0.2.2.2
theorem Mq.mk {D : Dat} {c v w : Int} {i i' : MI} (h0 : ModelP D i') (h1 : Fm i i') (h2 : i' 504 0 = c) (h3 : c = 0 → w = v) : Mq D c v w i i' := ⟨h0, h1, h2, h3⟩
theorem CSt.congr {D : Dat} {o : Int} {i i' : MI} {s : St} (h : CSt D o i s) (g : ∀ a, o ≤ a → a ≤ o + 5 → i' a = i a) : CSt D o i' s := by
  refine ⟨?_, ?_, ?_, ?_, ?_⟩
  · rw [g _ (by omega) (by omega)]; exact h.r
  · intro m p a b; rw [g _ (by omega) (by omega)]; exact h.m m p a b
  · rw [g _ (by omega) (by omega)]; exact h.x
  · rw [g _ (by omega) (by omega)]; exact h.n
  · rw [g _ (by omega) (by omega)]; exact h.t
/-- what carrying out leaves alone -/
def FR (i i' : MI) : Prop := (∀ a, a ≠ 0 → (a < 61 ∨ 66 < a) → i' a = i a) ∧ ∀ c, c ≠ 10 → i' 0 c = i 0 c
theorem ClassP.fr {D : Dat} {i i' r : MI} (h : ClassP D i r) (g : FR i i') : ClassP D i' r := by
  refine h.congr ?_ (g.1 _ (by omega) (by omega)) (fun c _ => ?_) (g.1 _ (by omega) (by omega)) (fun a x y => g.1 _ (by omega) (by omega)) (fun a x y z => g.1 _ (by omega) (by omega)) (g.1 _ (by omega) (by omega)) (g.1 _ (by omega) (by omega)) (fun a x y => g.1 _ (by omega) (by omega)) (fun a x y => g.1 _ (by omega) (by omega)) rfl rfl
  · rw [g.1 _ (by omega) (by omega)]
  · rw [g.1 _ (by omega) (by omega)]
theorem xcarry_w {D : Dat} {i r : MI} {Q : MI → Prop} (h : ClassP D i r) (ok : DOk D) (hr : RC D i) (hQ : ∀ i', FR i i' → CSt D 61 i' (execS D) → Q i') : wp_X11_carryOut i r Q := by
  unfold wp_X11_carryOut s23_X11_carryOut
  refine ⟨fun e => ?_, fun e => ?_⟩
  · refine carryOut_w h ok (.inl rfl) (fun i1 f s => hQ _ ⟨?_, ?_⟩ (s.congr ?_))
    · intro a h1 h2; rw [st_row h1]; exact f a (by omega)
    · intro c hc; rw [st_ne (by omega), f 0 (by omega)]
    · intro a h1 h2; exact st_row (by omega)
  · rcases hr with q | q
    · exact absurd q e
    · exact hQ _ ⟨fun _ _ _ => rfl, fun _ _ => rfl⟩ q
theorem Cq.of {D : Dat} {c v : Int} {i i1 r : MI} (h : ClassP D i r) (g : FR i i1) (s : CSt D 61 i1 (execS D)) (hc : c ≠ 0) : Cq D c v i i1 r :=
  ⟨h.fr g, .inr s, fun a _ _ => g.1 _ (by omega) (by omega), g.2 _ (by decide), fun a _ _ => g.1 _ (by omega) (by omega), fun q => absurd q hc⟩
theorem Cq.ret {D : Dat} {v : Int} {i i1 r : MI} (h : ClassP D i r) (g : FR i i1) (s : CSt D 61 i1 (execS D)) : Cq D 0 v i (st (st i1 540 0 (jLo ((sJ v).toInt64))) 540 1 (jHi ((sJ v).toInt64))) r := by
  have g' : FR i (st (st i1 540 0 (jLo ((sJ v).toInt64))) 540 1 (jHi ((sJ v).toInt64))) → False ∨ True := fun _ => .inr trivial
  refine ⟨?_, .inr (s.congr (fun a _ _ => by simp (disch := omega) only [st_row])), ?_, ?_, ?_, fun _ => ⟨?_, ?_⟩⟩
  · refine (h.fr g).congr ?_ ?_ ?_ ?_ ?_ ?_ ?_ ?_ ?_ ?_ rfl rfl
    all_goals (intros; simp (disch := omega) only [st_row])
  · intro a _ _; simp (disch := omega) only [st_row]; exact g.1 _ (by omega) (by omega)
  · simp (disch := omega) only [st_row]; exact g.2 _ (by decide)
  · intro a _ _; simp (disch := omega) only [st_row]; exact g.1 _ (by omega) (by omega)
  · simp (disch := omega) only [st_ne, st_eq]
  · simp (disch := omega) only [st_eq]
theorem C_outputs {D : Dat} {i r : MI} {Q : Int → MI → Prop} (h : ClassP D i r) (ok : DOk D) (hr : RC D i) (hQ : ∀ i', Cq D 1 0 i i' r → Q (execS D).outs i') : wp_X11_outputs i r Q := by
  unfold wp_X11_outputs
  refine xcarry_w h ok hr (fun i' g s => ?_)
  rw [s.n]
  exact hQ _ (Cq.of h g s (by decide))
theorem C_taken {D : Dat} {i r : MI} {Q : Int → MI → Prop} (h : ClassP D i r) (ok : DOk D) (hr : RC D i) (hQ : ∀ i', Cq D 1 0 i i' r → Q (min (execS D).tak D.inc) i') : wp_X11_taken i r Q := by
  unfold wp_X11_taken
  refine xcarry_w h ok hr (fun i' g s => ?_)
  rw [s.t]
  exact hQ _ (Cq.of h g s (by decide))
def coOutput (D : Dat) (p : Int) : Int := if 0 ≤ p ∧ p < (execS D).outs then 0 else 1
theorem exec_n {D : Dat} (ok : DOk D) : 0 ≤ (execS D).outs ∧ (execS D).outs ≤ 192 := by
  have := run_cnt (D := D) (D.tur * D.cnt).toNat
  have hb := body_le ok
  unfold execS
  omega
theorem L_output {D : Dat} {i r : MI} {p : Int} {Q : Int → MI → Prop} (h : ClassP D i r) (ok : DOk D) (hr : RC D i) (hQ : ∀ i', Cq D (coOutput D p) ((execS D).out p) i i' r → Q (coOutput D p) i') : wp_L_output p i r Q := by
  simp only [wp_L_output, wp_X11_output, s19_X11_output]
  have hn := exec_n ok
  unfold coOutput at hQ
  refine xcarry_w h ok hr (fun i' g s => ?_)
  rw [s.n]
  refine ⟨fun e => ⟨trivial, ?_⟩, fun e => ⟨fun e2 => ⟨by omega, ?_⟩, fun e2 => ⟨trivial, ?_⟩⟩⟩
  · rw [if_neg (by omega)] at hQ; exact hQ _ (Cq.of h g s (by decide))
  · rw [if_pos (by omega)] at hQ
    rw [s.x p (by omega) e2]
    exact hQ _ (Cq.ret h g s)
  · rw [if_neg (by omega)] at hQ; exact hQ _ (Cq.of h g s (by decide))
theorem FR.refl (i : MI) : FR i i := ⟨fun _ _ _ => rfl, fun _ _ => rfl⟩
theorem Cq.exc {D : Dat} {c v : Int} {i r : MI} (h : ClassP D i r) (hr : RC D i) (hc : c ≠ 0) : Cq D c v i i r :=
  ⟨h, hr, fun _ _ _ => rfl, rfl, fun _ _ _ => rfl, fun q => absurd q hc⟩
def coPlace (m p : Int) : Int := if (m = 77 ∨ m = 78) ∧ 0 ≤ p ∧ p ≤ 15 then 0 else 1
theorem isPlace_w {m p : Int} {i r : MI} {Q : Int → Prop} (hm : 0 ≤ m ∧ m < 65536) (hQ : Q (bz ((m = 77 ∨ m = 78) ∧ 0 ≤ p ∧ p ≤ 15))) : wp_X11_isPlace m p i r Q := by
  unfold wp_X11_isPlace s23_X11_isPlace s24_X11_isPlace
  refine indexOf_w (by decide) hm.1 hm.2 ?_
  have hx := ixS_2 m
  rw [isWithin_eq]
  unfold bz at hQ ⊢
  by_cases e : m = 77 ∨ m = 78
  · have hx0 : ¬ ixS 2 m < 0 := by rw [hx]; rcases e with rfl | rfl <;> decide
    refine ⟨fun q => absurd q hx0, fun _ => ?_⟩
    by_cases e2 : 0 ≤ p ∧ p ≤ 15
    · rw [if_pos e2]
      rw [if_pos ⟨e, e2⟩] at hQ
      exact ⟨fun q => absurd q (by decide), fun _ => ⟨.inr rfl, hQ⟩⟩
    · rw [if_neg e2]
      rw [if_neg (by omega)] at hQ
      exact ⟨fun _ => ⟨.inl rfl, hQ⟩, fun q => absurd rfl q⟩
  · have hx0 : ixS 2 m < 0 := by rw [hx, if_neg (by omega), if_neg (by omega)]; decide
    rw [if_neg (by omega)] at hQ
    exact ⟨fun _ => ⟨.inl rfl, hQ⟩, fun q => absurd hx0 q⟩
theorem ixS_m {m : Int} (h : m = 77 ∨ m = 78) : ixS 2 m = m - 77 := by
  rcases h with rfl | rfl <;> decide
theorem L_memoryAt {D : Dat} {i r : MI} {m p : Int} {Q : Int → MI → Prop} (h : ClassP D i r) (ok : DOk D) (hr : RC D i) (hm : 0 ≤ m ∧ m < 65536) (hQ : ∀ i', Cq D (coPlace m p) ((execS D).mem (m - 77) p) i i' r → Q (coPlace m p) i') : wp_L_memoryAt m p i r Q := by
  simp only [wp_L_memoryAt, wp_X11_memoryAt]
  unfold coPlace at hQ
  refine isPlace_w hm ?_
  by_cases e : (m = 77 ∨ m = 78) ∧ 0 ≤ p ∧ p ≤ 15
  · rw [bz, if_pos e]
    rw [if_pos e] at hQ
    refine ⟨fun q => absurd q (by decide), fun _ => ?_⟩
    refine xcarry_w h ok hr (fun i' g s => indexOf_w (by decide) hm.1 hm.2 ?_)
    rw [look_e s, ixS_m e.1, lookS, if_pos (by omega)]
    exact hQ _ (Cq.ret h g s)
  · rw [bz, if_neg e]
    rw [if_neg e] at hQ
    exact ⟨fun _ => ⟨trivial, hQ _ (Cq.exc h hr (by decide))⟩, fun q => absurd rfl q⟩
def coReg (c : Int) : Int := if 97 ≤ c ∧ c ≤ 104 then 0 else 1
theorem L_register {D : Dat} {i r : MI} {c : Int} {Q : Int → MI → Prop} (h : ClassP D i r) (ok : DOk D) (hr : RC D i) (hQ : ∀ i', Cq D (coReg c) ((execS D).reg (c - 97)) i i' r → Q (coReg c) i') : wp_L_register c i r Q := by
  simp only [wp_L_register, wp_X11_register, isWithin_eq]
  unfold coReg at hQ
  by_cases e : 97 ≤ c ∧ c ≤ 104
  · rw [bz, if_pos e]
    rw [if_pos e] at hQ
    refine ⟨fun q => absurd q (by decide), fun _ => ?_⟩
    refine xcarry_w h ok hr (fun i' g s => ?_)
    rw [wr_of (by omega) (by omega)]
    refine ⟨by omega, ?_⟩
    rw [s.r _ (by omega) (by omega)]
    exact hQ _ (Cq.ret h g s)
  · rw [bz, if_neg e]
    rw [if_neg e] at hQ
    exact ⟨fun _ => ⟨trivial, hQ _ (Cq.exc h hr (by decide))⟩, fun q => absurd rfl q⟩
/-! the reference -/
theorem mp0 {D : Dat} {i : MI} {v : Int} (h : ModelP D i) : ModelP D (st i 504 0 v) :=
  h.congr (fun c hc => st_ne (by omega)) (st_row (by decide)) (fun a x y => st_row (by omega)) (fun a x y => st_row (by omega))
theorem FN.fm {i i' : MI} (g : FN i i') : Fm i i' := fun a ha => g.1 a (by omega) (by omega)
theorem Fm.trans {i j k : MI} (h : Fm i j) (g : Fm j k) : Fm i k := fun a q => (g a q).trans (h a q)
theorem Fm.s4 {i : MI} {k v : Int} : Fm i (st i 504 k v) := fun a q => st_row (by omega)
theorem M_outputs {D : Dat} {i r : MI} {Q : Int → MI → Prop} (h : ModelP D i) (ok : DOk D) (hQ : ∀ i', Mq D 0 (execS D).outs (execS D).outs i i' → Q (execS D).outs i') : wp_X12_outputs i r Q := by
  unfold wp_X12_outputs
  refine perform_w (mp0 h) ok (fun i' g s => ?_)
  rw [s.n]
  exact hQ _ ⟨(mp0 h).fn g, Fm.s4.trans g.fm, by rw [g.2 _ (by decide) (by decide)]; exact st_eq, fun _ => rfl⟩
theorem M_taken {D : Dat} {i r : MI} {Q : Int → MI → Prop} (h : ModelP D i) (ok : DOk D) (hQ : ∀ i', Mq D 0 (min (execS D).tak D.inc) (min (execS D).tak D.inc) i i' → Q (min (execS D).tak D.inc) i') : wp_X12_taken_ i r Q := by
  unfold wp_X12_taken_
  refine perform_w (mp0 h) ok (fun i' g s => ?_)
  rw [s.t, ((mp0 h).fn g).inc]
  exact hQ _ ⟨(mp0 h).fn g, Fm.s4.trans g.fm, by rw [g.2 _ (by decide) (by decide)]; exact st_eq, fun _ => rfl⟩
theorem M_output {D : Dat} {i r : MI} {p : Int} {Q : Int → MI → Prop} (h : ModelP D i) (ok : DOk D) (hQ : ∀ w i', Mq D (coOutput D p) ((execS D).out p) w i i' → Q w i') : wp_X12_output p i r Q := by
  unfold wp_X12_output s29_X12_output s46_X12_output
  have hn := exec_n ok
  unfold coOutput at hQ
  refine perform_w (mp0 h) ok (fun i' g s => ?_)
  have hm := (mp0 h).fn g
  have z0 : i' 504 0 = 0 := by rw [g.2 _ (by decide) (by decide)]; exact st_eq
  rw [in_eq, s.n, wr_of (by omega) (by omega)]
  by_cases e : 0 ≤ p ∧ p < (execS D).outs
  · rw [bz, if_pos (by omega)]
    rw [if_pos e] at hQ
    refine ⟨fun q => absurd q (by decide), fun _ => ?_⟩
    rw [fails_eq (by decide), if_pos (.inl rfl), bz, if_neg (by omega), s.x p e.1 e.2]
    exact ⟨fun _ => ⟨by omega, hQ _ _ ⟨hm, Fm.s4.trans g.fm, z0, fun _ => rfl⟩⟩, fun q => absurd rfl q⟩
  · rw [bz, if_neg (by omega)]
    rw [if_neg e] at hQ
    refine ⟨fun _ => ?_, fun q => absurd rfl q⟩
    rw [fails_eq (by decide), if_neg (by omega)]
    exact ⟨fun q => absurd q (by decide), fun _ => hQ _ _ ⟨mp0 hm, (Fm.s4.trans g.fm).trans Fm.s4, st_eq, fun q => absurd q (by decide)⟩⟩
theorem noMemory_e {m p : Int} {i r : MI} {Q : Int → Prop} : wp_X12_noMemory m p i r Q ↔ Q (bz (¬ ((m = 77 ∨ m = 78) ∧ 0 ≤ p ∧ p ≤ 15))) := by
  unfold wp_X12_noMemory s12_X12_noMemory s22_X12_noMemory s27_X12_noMemory
  simp only [in_eq]
  unfold bz
  by_cases e2 : 0 ≤ p ∧ p ≤ 15
  · by_cases e : m = 77
    · simp [e, e2]
    · by_cases e3 : m = 78
      · simp [e3, e2]
      · simp [e, e3]
  · by_cases e : m = 77
    · simp [e, e2]
    · by_cases e3 : m = 78
      · simp [e3, e2]
      · simp [e, e3]
theorem cell_e {m p : Int} {i r : MI} {Q : Int → Prop} (hm : m = 77 ∨ m = 78) (hp : 0 ≤ p ∧ p ≤ 15) : wp_X12_cell m p i r Q ↔ Q (16 * (m - 77) + p) := by
  unfold wp_X12_cell s12_X12_cell
  rcases hm with rfl | rfl
  · rw [wr_of (by omega) (by omega), show 16 * ((77 : Int) - 77) + p = 0 + p by omega]
    simp
  · rw [wr_of (x := 16 + p) (by omega) (by omega), show 16 * ((78 : Int) - 77) + p = 16 + p by omega]
    simp
theorem M_memoryAt {D : Dat} {i r : MI} {m p : Int} {Q : Int → MI → Prop} (h : ModelP D i) (ok : DOk D) (hQ : ∀ w i', Mq D (coPlace m p) ((execS D).mem (m - 77) p) w i i' → Q w i') : wp_X12_memoryAt m p i r Q := by
  unfold wp_X12_memoryAt
  unfold coPlace at hQ
  rw [noMemory_e]
  have z0 : ∀ v, st i 504 0 v 504 0 = v := fun v => st_eq
  by_cases e : (m = 77 ∨ m = 78) ∧ 0 ≤ p ∧ p ≤ 15
  · rw [if_pos e] at hQ
    have e1 : bz (¬ ((m = 77 ∨ m = 78) ∧ 0 ≤ p ∧ p ≤ 15)) = 0 := bz_0.2 (fun q => q e)
    rw [e1, fails_eq (by decide), if_pos (.inl rfl), bz, if_neg (by rw [z0]; omega)]
    refine ⟨fun _ => ?_, fun q => absurd rfl q⟩
    refine perform_w (mp0 h) ok (fun i' g s => ?_)
    rw [cell_e e.1 e.2, s.m _ _ (by omega) (by omega) (by omega) (by omega)]
    exact ⟨by omega, hQ _ _ ⟨(mp0 h).fn g, Fm.s4.trans g.fm, by rw [g.2 _ (by decide) (by decide)]; exact st_eq, fun _ => rfl⟩⟩
  · rw [if_neg e] at hQ
    have e1 : bz (¬ ((m = 77 ∨ m = 78) ∧ 0 ≤ p ∧ p ≤ 15)) = 1 := bz_1.2 e
    rw [e1, fails_eq (by decide), if_neg (by rw [z0]; omega)]
    refine ⟨fun q => absurd q (by decide), fun _ => hQ _ _ ⟨mp0 (mp0 h), Fm.s4.trans Fm.s4, st_eq, fun q => absurd q (by decide)⟩⟩
theorem M_register {D : Dat} {i r : MI} {c : Int} {Q : Int → MI → Prop} (h : ModelP D i) (ok : DOk D) (hQ : ∀ w i', Mq D (coReg c) ((execS D).reg (c - 97)) w i i' → Q w i') : wp_X12_register c i r Q := by
  unfold wp_X12_register s22_X12_register
  unfold coReg at hQ
  rw [in_eq]
  have z0 : ∀ v, st i 504 0 v 504 0 = v := fun v => st_eq
  by_cases e : 97 ≤ c ∧ c ≤ 104
  · rw [if_pos e] at hQ
    rw [bz, if_pos e]
    refine ⟨fun q => absurd q (by decide), fun _ => ?_⟩
    rw [fails_eq (by decide), if_pos (.inl rfl), bz, if_neg (by rw [z0]; omega)]
    refine ⟨fun _ => ?_, fun q => absurd rfl q⟩
    refine perform_w (mp0 h) ok (fun i' g s => ?_)
    rw [wr_of (by omega) (by omega), s.r _ (by omega) (by omega)]
    exact ⟨by omega, hQ _ _ ⟨(mp0 h).fn g, Fm.s4.trans g.fm, by rw [g.2 _ (by decide) (by decide)]; exact st_eq, fun _ => rfl⟩⟩
  · rw [if_neg e] at hQ
    rw [bz, if_neg e]
    refine ⟨fun _ => ?_, fun q => absurd rfl q⟩
    rw [fails_eq (by decide), if_neg (by rw [z0]; omega)]
    exact ⟨fun q => absurd q (by decide), fun _ => hQ _ _ ⟨mp0 (mp0 h), Fm.s4.trans Fm.s4, st_eq, fun q => absurd q (by decide)⟩⟩
