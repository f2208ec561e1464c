/-! ===== the calls of the law ===== -/
def eX (Q : Int → MI → MI → Prop) : String → MI → MI → Prop := fun E a b => (E = "java/lang/IndexOutOfBoundsException" ∧ Q (-200001) a b) ∨ (E = "java/lang/IllegalArgumentException" ∧ Q (-200002) a b) ∨ (E = "java/lang/UnsupportedOperationException" ∧ Q (-200004) a b) ∨ (E = "java/util/NoSuchElementException" ∧ Q (-200005) a b) ∨ (E = "java/lang/IllegalStateException" ∧ Q (-200003) a b)
theorem eX_ix {Q : Int → MI → MI → Prop} {a b : MI} (h : Q (-200001) a b) : eX Q "java/lang/IndexOutOfBoundsException" a b := .inl ⟨rfl, h⟩
theorem eX_no {Q : Int → MI → MI → Prop} {a b : MI} (h : Q (-200005) a b) : eX Q "java/util/NoSuchElementException" a b := .inr (.inr (.inr (.inl ⟨rfl, h⟩)))
theorem eX_st {Q : Int → MI → MI → Prop} {a b : MI} (h : Q (-200003) a b) : eX Q "java/lang/IllegalStateException" a b := .inr (.inr (.inr (.inr ⟨rfl, h⟩)))
theorem dd_20 {a b c : Int} {i r : MI} {Q : Int → MI → MI → Prop} (h : wp_X11_output a i r (fun v i2 => Q v i2 r) (fun E z => eX Q E z r)) : wp_L_deed 20 a b c i r Q := by
  unfold wp_L_deed
  refine ⟨fun _ => ?_, fun q => absurd (by decide) q⟩
  unfold wp_L_asked
  exact ⟨fun _ => h, fun q => absurd rfl q⟩
theorem dd_21 {a b c : Int} {i r : MI} {Q : Int → MI → MI → Prop} (h : wp_X11_memoryAt (a % 65536) b i r (fun v i2 => Q v i2 r) (fun E z => eX Q E z r)) : wp_L_deed 21 a b c i r Q := by
  unfold wp_L_deed
  refine ⟨fun _ => ?_, fun q => absurd (by decide) q⟩
  unfold wp_L_asked
  exact ⟨fun q => absurd q (by decide), fun _ => ⟨fun _ => h, fun q => absurd rfl q⟩⟩
theorem dd_23 {a b c : Int} {i r : MI} {Q : Int → MI → MI → Prop} (h : wp_X11_kindOf a i r (fun v i2 r3 => Q v i2 r3) (fun E z z2 => eX Q E z z2)) : wp_L_deed 23 a b c i r Q := by
  unfold wp_L_deed
  refine ⟨fun _ => ?_, fun q => absurd (by decide) q⟩
  unfold wp_L_asked
  exact ⟨fun q => absurd q (by decide), fun _ => ⟨fun q => absurd q (by decide), fun _ => ⟨fun q => absurd q (by decide), fun _ => ⟨fun _ => h, fun q => absurd rfl q⟩⟩⟩⟩
theorem dd_25 {a b c : Int} {i r : MI} {Q : Int → MI → MI → Prop} (h : wp_X11_weight a b c i r (fun v i2 r3 => Q v i2 r3) (fun E z z2 => eX Q E z z2)) : wp_L_deed 25 a b c i r Q := by
  unfold wp_L_deed
  refine ⟨fun _ => ?_, fun q => absurd (by decide) q⟩
  unfold wp_L_asked
  exact ⟨fun q => absurd q (by decide), fun _ => ⟨fun q => absurd q (by decide), fun _ => ⟨fun q => absurd q (by decide), fun _ => ⟨fun q => absurd q (by decide), fun _ => ⟨fun q => absurd q (by decide), fun _ => ⟨fun _ => h, fun q => absurd rfl q⟩⟩⟩⟩⟩⟩
theorem dd_26 {a b c : Int} {i r : MI} {Q : Int → MI → MI → Prop} (h : wp_X11_soon a i r (fun v i2 r3 => Q v i2 r3) (fun E z z2 => eX Q E z z2)) : wp_L_deed 26 a b c i r Q := by
  unfold wp_L_deed
  refine ⟨fun _ => ?_, fun q => absurd (by decide) q⟩
  unfold wp_L_asked
  exact ⟨fun q => absurd q (by decide), fun _ => ⟨fun q => absurd q (by decide), fun _ => ⟨fun q => absurd q (by decide), fun _ => ⟨fun q => absurd q (by decide), fun _ => ⟨fun q => absurd q (by decide), fun _ => ⟨fun q => absurd q (by decide), fun _ => ⟨fun _ => h, fun q => absurd rfl q⟩⟩⟩⟩⟩⟩⟩
theorem dd_27 {a b c : Int} {i r : MI} {Q : Int → MI → MI → Prop} (h : wp_X11_late a i r (fun v i2 r3 => Q v i2 r3) (fun E z z2 => eX Q E z z2)) : wp_L_deed 27 a b c i r Q := by
  unfold wp_L_deed
  refine ⟨fun _ => ?_, fun q => absurd (by decide) q⟩
  unfold wp_L_asked
  exact ⟨fun q => absurd q (by decide), fun _ => ⟨fun q => absurd q (by decide), fun _ => ⟨fun q => absurd q (by decide), fun _ => ⟨fun q => absurd q (by decide), fun _ => ⟨fun q => absurd q (by decide), fun _ => ⟨fun q => absurd q (by decide), fun _ => ⟨fun q => absurd q (by decide), fun _ => ⟨fun _ => h, fun q => absurd rfl q⟩⟩⟩⟩⟩⟩⟩⟩
theorem dd_28 {a b c : Int} {i r : MI} {Q : Int → MI → MI → Prop} (h : wp_X11_step a i r (fun v i2 r3 => Q v i2 r3) (fun E z z2 => eX Q E z z2)) : wp_L_deed 28 a b c i r Q := by
  unfold wp_L_deed
  refine ⟨fun _ => ?_, fun q => absurd (by decide) q⟩
  unfold wp_L_asked
  exact ⟨fun q => absurd q (by decide), fun _ => ⟨fun q => absurd q (by decide), fun _ => ⟨fun q => absurd q (by decide), fun _ => ⟨fun q => absurd q (by decide), fun _ => ⟨fun q => absurd q (by decide), fun _ => ⟨fun q => absurd q (by decide), fun _ => ⟨fun q => absurd q (by decide), fun _ => ⟨fun q => absurd q (by decide), fun _ => ⟨fun _ => h, fun q => absurd rfl q⟩⟩⟩⟩⟩⟩⟩⟩⟩
theorem dd_29 {a b c : Int} {i r : MI} {Q : Int → MI → MI → Prop} (h : wp_X11_place a i r (fun v i2 r3 => Q v i2 r3) (fun E z z2 => eX Q E z z2)) : wp_L_deed 29 a b c i r Q := by
  unfold wp_L_deed
  refine ⟨fun _ => ?_, fun q => absurd (by decide) q⟩
  unfold wp_L_asked
  exact ⟨fun q => absurd q (by decide), fun _ => ⟨fun q => absurd q (by decide), fun _ => ⟨fun q => absurd q (by decide), fun _ => ⟨fun q => absurd q (by decide), fun _ => ⟨fun q => absurd q (by decide), fun _ => ⟨fun q => absurd q (by decide), fun _ => ⟨fun q => absurd q (by decide), fun _ => ⟨fun q => absurd q (by decide), fun _ => ⟨fun q => absurd q (by decide), fun _ => ⟨fun _ => h, fun q => absurd rfl q⟩⟩⟩⟩⟩⟩⟩⟩⟩⟩
theorem dd_30 {a b c : Int} {i r : MI} {Q : Int → MI → MI → Prop} (h : wp_X11_circuitOutput a i r (fun v i2 r3 => Q v i2 r3) (fun E z z2 => eX Q E z z2)) : wp_L_deed 30 a b c i r Q := by
  unfold wp_L_deed
  refine ⟨fun _ => ?_, fun q => absurd (by decide) q⟩
  unfold wp_L_asked
  exact ⟨fun q => absurd q (by decide), fun _ => ⟨fun q => absurd q (by decide), fun _ => ⟨fun q => absurd q (by decide), fun _ => ⟨fun q => absurd q (by decide), fun _ => ⟨fun q => absurd q (by decide), fun _ => ⟨fun q => absurd q (by decide), fun _ => ⟨fun q => absurd q (by decide), fun _ => ⟨fun q => absurd q (by decide), fun _ => ⟨fun q => absurd q (by decide), fun _ => ⟨fun q => absurd q (by decide), fun _ => ⟨fun _ => h, fun q => absurd rfl q⟩⟩⟩⟩⟩⟩⟩⟩⟩⟩⟩
theorem dd_31 {a b c : Int} {i r : MI} {Q : Int → MI → MI → Prop} (h : wp_X11_circuitMemory (a % 65536) b i r (fun v i2 r3 => Q v i2 r3) (fun E z z2 => eX Q E z z2)) : wp_L_deed 31 a b c i r Q := by
  unfold wp_L_deed
  refine ⟨fun _ => ?_, fun q => absurd (by decide) q⟩
  unfold wp_L_asked
  exact ⟨fun q => absurd q (by decide), fun _ => ⟨fun q => absurd q (by decide), fun _ => ⟨fun q => absurd q (by decide), fun _ => ⟨fun q => absurd q (by decide), fun _ => ⟨fun q => absurd q (by decide), fun _ => ⟨fun q => absurd q (by decide), fun _ => ⟨fun q => absurd q (by decide), fun _ => ⟨fun q => absurd q (by decide), fun _ => ⟨fun q => absurd q (by decide), fun _ => ⟨fun q => absurd q (by decide), fun _ => ⟨fun q => absurd q (by decide), fun _ => ⟨fun _ => h, fun q => absurd rfl q⟩⟩⟩⟩⟩⟩⟩⟩⟩⟩⟩⟩
theorem dd_32 {a b c : Int} {i r : MI} {Q : Int → MI → MI → Prop} (h : wp_X11_leastDepth  i r (fun v i2 => Q v i2 r) (fun E z => eX Q E z r)) : wp_L_deed 32 a b c i r Q := by
  unfold wp_L_deed
  refine ⟨fun _ => ?_, fun q => absurd (by decide) q⟩
  unfold wp_L_asked
  exact ⟨fun q => absurd q (by decide), fun _ => ⟨fun q => absurd q (by decide), fun _ => ⟨fun q => absurd q (by decide), fun _ => ⟨fun q => absurd q (by decide), fun _ => ⟨fun q => absurd q (by decide), fun _ => ⟨fun q => absurd q (by decide), fun _ => ⟨fun q => absurd q (by decide), fun _ => ⟨fun q => absurd q (by decide), fun _ => ⟨fun q => absurd q (by decide), fun _ => ⟨fun q => absurd q (by decide), fun _ => ⟨fun q => absurd q (by decide), fun _ => ⟨fun q => absurd q (by decide), fun _ => h⟩⟩⟩⟩⟩⟩⟩⟩⟩⟩⟩⟩
theorem dd_0 {a b c : Int} {i r : MI} {Q : Int → MI → MI → Prop} (h : wp_X11_type (a % 65536) i r (fun v i2 => Q v i2 r) (fun E z => eX Q E z r)) : wp_L_deed 0 a b c i r Q := by
  unfold wp_L_deed
  refine ⟨fun q => absurd q (by decide), fun _ => ?_⟩
  unfold wp_L_done
  exact ⟨fun _ => h, fun q => absurd rfl q⟩
theorem dd_1 {a b c : Int} {i r : MI} {Q : Int → MI → MI → Prop} (h : wp_X11_add  i r (fun v i2 r3 => Q v i2 r3) (fun E z z2 => eX Q E z z2)) : wp_L_deed 1 a b c i r Q := by
  unfold wp_L_deed
  refine ⟨fun q => absurd q (by decide), fun _ => ?_⟩
  unfold wp_L_done
  exact ⟨fun q => absurd q (by decide), fun _ => ⟨fun _ => h, fun q => absurd rfl q⟩⟩
theorem dd_3 {a b c : Int} {i r : MI} {Q : Int → MI → MI → Prop} (h : wp_X11_setTurns a i r (fun v i2 => Q v i2 r) (fun E z => eX Q E z r)) : wp_L_deed 3 a b c i r Q := by
  unfold wp_L_deed
  refine ⟨fun q => absurd q (by decide), fun _ => ?_⟩
  unfold wp_L_done
  exact ⟨fun q => absurd q (by decide), fun _ => ⟨fun q => absurd q (by decide), fun _ => ⟨fun q => absurd q (by decide), fun _ => ⟨fun _ => h, fun q => absurd rfl q⟩⟩⟩⟩
theorem dd_4 {a b c : Int} {i r : MI} {Q : Int → MI → MI → Prop} (h : wp_X11_setBits a i r (fun v i2 => Q v i2 r) (fun E z => eX Q E z r)) : wp_L_deed 4 a b c i r Q := by
  unfold wp_L_deed
  refine ⟨fun q => absurd q (by decide), fun _ => ?_⟩
  unfold wp_L_done
  exact ⟨fun q => absurd q (by decide), fun _ => ⟨fun q => absurd q (by decide), fun _ => ⟨fun q => absurd q (by decide), fun _ => ⟨fun q => absurd q (by decide), fun _ => ⟨fun _ => h, fun q => absurd rfl q⟩⟩⟩⟩⟩
theorem dd_5 {a b c : Int} {i r : MI} {Q : Int → MI → MI → Prop} (h : wp_X11_unroll a i r (fun v i2 r3 => Q v i2 r3) (fun E z z2 => eX Q E z z2)) : wp_L_deed 5 a b c i r Q := by
  unfold wp_L_deed
  refine ⟨fun q => absurd q (by decide), fun _ => ?_⟩
  unfold wp_L_done
  exact ⟨fun q => absurd q (by decide), fun _ => ⟨fun q => absurd q (by decide), fun _ => ⟨fun q => absurd q (by decide), fun _ => ⟨fun q => absurd q (by decide), fun _ => ⟨fun q => absurd q (by decide), fun _ => ⟨fun _ => h, fun q => absurd rfl q⟩⟩⟩⟩⟩⟩
theorem dd_6 {a b c : Int} {i r : MI} {Q : Int → MI → MI → Prop} (h : wp_X11_input a i r (fun v i2 => Q v i2 r) (fun E z => eX Q E z r)) : wp_L_deed 6 a b c i r Q := by
  unfold wp_L_deed
  refine ⟨fun q => absurd q (by decide), fun _ => ?_⟩
  unfold wp_L_done
  exact ⟨fun q => absurd q (by decide), fun _ => ⟨fun q => absurd q (by decide), fun _ => ⟨fun q => absurd q (by decide), fun _ => ⟨fun q => absurd q (by decide), fun _ => ⟨fun q => absurd q (by decide), fun _ => ⟨fun q => absurd q (by decide), fun _ => ⟨fun _ => h, fun q => absurd rfl q⟩⟩⟩⟩⟩⟩⟩
theorem dd_7 {a b c : Int} {i r : MI} {Q : Int → MI → MI → Prop} (h : wp_X11_setMemory (a % 65536) b c i r (fun v i2 => Q v i2 r) (fun E z => eX Q E z r)) : wp_L_deed 7 a b c i r Q := by
  unfold wp_L_deed
  refine ⟨fun q => absurd q (by decide), fun _ => ?_⟩
  unfold wp_L_done
  exact ⟨fun q => absurd q (by decide), fun _ => ⟨fun q => absurd q (by decide), fun _ => ⟨fun q => absurd q (by decide), fun _ => ⟨fun q => absurd q (by decide), fun _ => ⟨fun q => absurd q (by decide), fun _ => ⟨fun q => absurd q (by decide), fun _ => ⟨fun q => absurd q (by decide), fun _ => ⟨fun _ => h, fun q => absurd rfl q⟩⟩⟩⟩⟩⟩⟩⟩
theorem dd_8 {a b c : Int} {i r : MI} {Q : Int → MI → MI → Prop} (h : wp_X11_setUnits (a % 65536) b i r (fun v i2 => Q v i2 r) (fun E z => eX Q E z r)) : wp_L_deed 8 a b c i r Q := by
  unfold wp_L_deed
  refine ⟨fun q => absurd q (by decide), fun _ => ?_⟩
  unfold wp_L_done
  exact ⟨fun q => absurd q (by decide), fun _ => ⟨fun q => absurd q (by decide), fun _ => ⟨fun q => absurd q (by decide), fun _ => ⟨fun q => absurd q (by decide), fun _ => ⟨fun q => absurd q (by decide), fun _ => ⟨fun q => absurd q (by decide), fun _ => ⟨fun q => absurd q (by decide), fun _ => ⟨fun q => absurd q (by decide), fun _ => ⟨fun _ => h, fun q => absurd rfl q⟩⟩⟩⟩⟩⟩⟩⟩⟩
theorem dd_9 {a b c : Int} {i r : MI} {Q : Int → MI → MI → Prop} (h : wp_X11_setCycles (a % 65536) b i r (fun v i2 => Q v i2 r) (fun E z => eX Q E z r)) : wp_L_deed 9 a b c i r Q := by
  unfold wp_L_deed
  refine ⟨fun q => absurd q (by decide), fun _ => ?_⟩
  unfold wp_L_done
  exact ⟨fun q => absurd q (by decide), fun _ => ⟨fun q => absurd q (by decide), fun _ => ⟨fun q => absurd q (by decide), fun _ => ⟨fun q => absurd q (by decide), fun _ => ⟨fun q => absurd q (by decide), fun _ => ⟨fun q => absurd q (by decide), fun _ => ⟨fun q => absurd q (by decide), fun _ => ⟨fun q => absurd q (by decide), fun _ => ⟨fun q => absurd q (by decide), fun _ => ⟨fun _ => h, fun q => absurd rfl q⟩⟩⟩⟩⟩⟩⟩⟩⟩⟩
theorem dd_10 {a b c : Int} {i r : MI} {Q : Int → MI → MI → Prop} (h : wp_X11_action a b (if c = 1 then 1 else 0) i r (fun v i2 => Q v i2 r) (fun E z => eX Q E z r)) : wp_L_deed 10 a b c i r Q := by
  unfold wp_L_deed
  refine ⟨fun q => absurd q (by decide), fun _ => ?_⟩
  unfold wp_L_done
  unfold s146_L_done
  exact ⟨fun q => absurd q (by decide), fun _ => ⟨fun q => absurd q (by decide), fun _ => ⟨fun q => absurd q (by decide), fun _ => ⟨fun q => absurd q (by decide), fun _ => ⟨fun q => absurd q (by decide), fun _ => ⟨fun q => absurd q (by decide), fun _ => ⟨fun q => absurd q (by decide), fun _ => ⟨fun q => absurd q (by decide), fun _ => ⟨fun q => absurd q (by decide), fun _ => ⟨fun q => absurd q (by decide), fun _ => ⟨fun _ => ⟨fun q => by rw [if_pos q] at h; exact h, fun q => by rw [if_neg q] at h; exact h⟩, fun q => absurd rfl q⟩⟩⟩⟩⟩⟩⟩⟩⟩⟩⟩
theorem dd_11 {a b c : Int} {i r : MI} {Q : Int → MI → MI → Prop} (h : wp_X11_setDepth a b i r (fun v i2 => Q v i2 r) (fun E z => eX Q E z r)) : wp_L_deed 11 a b c i r Q := by
  unfold wp_L_deed
  refine ⟨fun q => absurd q (by decide), fun _ => ?_⟩
  unfold wp_L_done
  exact ⟨fun q => absurd q (by decide), fun _ => ⟨fun q => absurd q (by decide), fun _ => ⟨fun q => absurd q (by decide), fun _ => ⟨fun q => absurd q (by decide), fun _ => ⟨fun q => absurd q (by decide), fun _ => ⟨fun q => absurd q (by decide), fun _ => ⟨fun q => absurd q (by decide), fun _ => ⟨fun q => absurd q (by decide), fun _ => ⟨fun q => absurd q (by decide), fun _ => ⟨fun q => absurd q (by decide), fun _ => ⟨fun q => absurd q (by decide), fun _ => ⟨fun _ => h, fun q => absurd rfl q⟩⟩⟩⟩⟩⟩⟩⟩⟩⟩⟩⟩
theorem dd_12 {a b c : Int} {i r : MI} {Q : Int → MI → MI → Prop} (h : wp_X11_waitsFor a i r (fun v i2 => Q v i2 r) (fun E z => eX Q E z r)) : wp_L_deed 12 a b c i r Q := by
  unfold wp_L_deed
  refine ⟨fun q => absurd q (by decide), fun _ => ?_⟩
  unfold wp_L_done
  exact ⟨fun q => absurd q (by decide), fun _ => ⟨fun q => absurd q (by decide), fun _ => ⟨fun q => absurd q (by decide), fun _ => ⟨fun q => absurd q (by decide), fun _ => ⟨fun q => absurd q (by decide), fun _ => ⟨fun q => absurd q (by decide), fun _ => ⟨fun q => absurd q (by decide), fun _ => ⟨fun q => absurd q (by decide), fun _ => ⟨fun q => absurd q (by decide), fun _ => ⟨fun q => absurd q (by decide), fun _ => ⟨fun q => absurd q (by decide), fun _ => ⟨fun q => absurd q (by decide), fun _ => h⟩⟩⟩⟩⟩⟩⟩⟩⟩⟩⟩⟩
theorem ask_of {n a b : Int} {i r : MI} {Q : Int → MI → MI → Prop} (h : wp_L_deed n a b 0 i r (fun v i2 r3 => (0 + 3) ≤ 3 ∧ Q v i2 r3)) : wp_L_ask n a b i r Q := ⟨by decide, h⟩
theorem ch16 {x : Int} (h : 0 ≤ x ∧ x < 65536) : x % 65536 = x := by omega
theorem A_26 {D : Dat} {i r : MI} {p : Int} {Q : Int → MI → MI → Prop} (I : JI D i r) (hp : 0 ≤ p ∧ p < nn D) (hQ : ∀ i1 r1, JI D i1 r1 → Q (soonV D p) i1 r1) : wp_L_ask 26 p 0 i r Q := by
  exact ask_of (dd_26 (J_soon I hp (fun i1 r1 J => ⟨by decide, hQ i1 r1 J⟩)))
theorem A_27 {D : Dat} {i r : MI} {p : Int} {Q : Int → MI → MI → Prop} (I : JI D i r) (hp : 0 ≤ p ∧ p < nn D) (hQ : ∀ i1 r1, JI D i1 r1 → Q (lateV D p) i1 r1) : wp_L_ask 27 p 0 i r Q := by
  exact ask_of (dd_27 (J_late I hp (fun i1 r1 J => ⟨by decide, hQ i1 r1 J⟩)))
theorem A_28 {D : Dat} {i r : MI} {p : Int} {Q : Int → MI → MI → Prop} (I : JI D i r) (hp : 0 ≤ p ∧ p < nn D) (hQ : ∀ i1 r1, JI D i1 r1 → Q (stepV D p) i1 r1) : wp_L_ask 28 p 0 i r Q := by
  exact ask_of (dd_28 (J_step I hp (fun i1 r1 J => ⟨by decide, hQ i1 r1 J⟩)))
theorem A_29 {D : Dat} {i r : MI} {p : Int} {Q : Int → MI → MI → Prop} (I : JI D i r) (hp : 0 ≤ p ∧ p < nn D) (hQ : ∀ i1 r1, JI D i1 r1 → Q (placV D p) i1 r1) : wp_L_ask 29 p 0 i r Q := by
  exact ask_of (dd_29 (J_place I hp (fun i1 r1 J => ⟨by decide, hQ i1 r1 J⟩)))
theorem A_23 {D : Dat} {i r : MI} {p : Int} {Q : Int → MI → MI → Prop} (I : JI D i r) (hp : 0 ≤ p ∧ p < nn D) (hQ : ∀ i1 r1, JI D i1 r1 → Q (kch (kdv D p)) i1 r1) : wp_L_ask 23 p 0 i r Q := by
  exact ask_of (dd_23 (J_kindOf I hp (fun i1 r1 J => ⟨by decide, hQ i1 r1 J⟩)))
theorem A_25 {D : Dat} {i r : MI} {a b d : Int} {Q : Int → MI → MI → Prop} (I : JI D i r) (ha : 0 ≤ a ∧ a < nn D) (hb : 0 ≤ b ∧ b < nn D) (hQ : ∀ w i1 r1, Ed D a b d w → JI D i1 r1 → Q w i1 r1) (hN : (∀ w, ¬ Raw D a b d w) → ∀ i1 r1, JI D i1 r1 → Q (-200005) i1 r1) : wp_L_deed 25 a b d i r Q :=
  dd_25 (J_weight I ha hb (fun w i1 r1 e J => hQ w i1 r1 e J) (fun no i1 r1 J => eX_no (hN no i1 r1 J)))
theorem A_20 {D : Dat} {i r : MI} {p : Int} {Q : Int → MI → MI → Prop} (I : JI D i r) (h0 : 0 ≤ p) (hQ : p < (execS D).outs → ∀ i1 r1, JI D i1 r1 → Q ((execS D).out p) i1 r1) (hN : ¬ p < (execS D).outs → ∀ i1 r1, JI D i1 r1 → Q (-200001) i1 r1) : wp_L_ask 20 p 0 i r Q :=
  ask_of (dd_20 (J_output I h0 (fun z i1 J => ⟨by decide, hQ z i1 r J⟩) (fun z i1 J => eX_ix ⟨by decide, hN z i1 r J⟩)))
theorem A_30 {D : Dat} {i r : MI} {p : Int} {Q : Int → MI → MI → Prop} (I : JI D i r) (h0 : 0 ≤ p) (hQ : p < (execS D).outs → ∀ i1 r1, JI D i1 r1 → Q ((execS D).out p) i1 r1) (hN : ¬ p < (execS D).outs → ∀ i1 r1, JI D i1 r1 → Q (-200001) i1 r1) : wp_L_ask 30 p 0 i r Q :=
  ask_of (dd_30 (J_cOut I h0 (fun z i1 r1 J => ⟨by decide, hQ z i1 r1 J⟩) (fun z i1 r1 J => eX_ix ⟨by decide, hN z i1 r1 J⟩)))
theorem A_21 {D : Dat} {i r : MI} {m p : Int} {Q : Int → MI → MI → Prop} (I : JI D i r) (e : (m = 77 ∨ m = 78) ∧ 0 ≤ p ∧ p ≤ 15) (hQ : ∀ i1 r1, JI D i1 r1 → Q ((execS D).mem (m - 77) p) i1 r1) : wp_L_ask 21 m p i r Q := by
  have hm : m % 65536 = m := ch16 (by omega)
  exact ask_of (dd_21 (by rw [hm]; exact J_memoryAt I e (fun i1 J => ⟨by decide, hQ i1 r J⟩)))
theorem A_31 {D : Dat} {i r : MI} {m p : Int} {Q : Int → MI → MI → Prop} (I : JI D i r) (e : (m = 77 ∨ m = 78) ∧ 0 ≤ p ∧ p ≤ 15) (hQ : ∀ i1 r1, JI D i1 r1 → Q ((execS D).mem (m - 77) p) i1 r1) : wp_L_ask 31 m p i r Q := by
  have hm : m % 65536 = m := ch16 (by omega)
  exact ask_of (dd_31 (by rw [hm]; exact J_cMem I e (fun i1 r1 J => ⟨by decide, hQ i1 r1 J⟩)))
theorem A_32 {D : Dat} {i r : MI} {Q : Int → MI → MI → Prop} (I : JI D i r) (hQ : ∀ d i1, LeastD D d → d ≤ 16 → JI D i1 r → Q d i1 r) (hN : ∀ i1, LeastD D 17 → JI D i1 r → Q (-200005) i1 r) : wp_L_ask 32 0 0 i r Q :=
  ask_of (dd_32 (J_least I (fun d i1 l z J => ⟨by decide, hQ d i1 l z J⟩) (fun i1 l J => eX_no ⟨by decide, hN i1 l J⟩)))
theorem A_0 {D : Dat} {i r : MI} {c : Int} {Q : Int → MI → MI → Prop} (I : JI D i r) (hc : 0 ≤ c ∧ c < 65536) (hx : 0 ≤ ixS 0 c) (h24 : D.many < 24) (hQ : ∀ i1, JI (Dat.mk (D.many + 1) (fun a => if a = D.many then c else D.tx a) (D.cnt) (D.fac) (D.tur) (D.bits) (D.inc) (D.inp) (D.told) (D.un) (D.cy) (D.F) (D.N) (D.T) (D.O) (D.ac) (D.ach) (D.apt) (D.dep)) i1 r → Q (D.many + 1) i1 r) : wp_L_ask 0 c 0 i r Q := by
  have hm := ch16 hc
  exact ask_of (dd_0 (by rw [hm]; exact J_type I hc hx h24 (fun i1 J => ⟨by decide, hQ i1 J⟩)))
theorem A_1 {D : Dat} {i r : MI} {Q : Int → MI → MI → Prop} (I : JI D i r) (he : (psD D).e = -1) (h12 : D.cnt + 1 ≤ 12) (h24 : (D.cnt + 1) * D.fac ≤ 24) (hQ : ∀ i1 r1, JI (putS D D.cnt (D.cnt + 1)) i1 r1 → Q (D.cnt + 1) i1 r1) : wp_L_ask 1 0 0 i r Q :=
  ask_of (dd_1 (J_add I he h12 h24 (fun i1 r1 J => ⟨by decide, hQ i1 r1 J⟩)))
theorem A_3 {D : Dat} {i r : MI} {p : Int} {Q : Int → MI → MI → Prop} (I : JI D i r) (h1 : 1 ≤ p ∧ p ≤ 16) (h2 : p.tmod D.fac = 0) (hQ : ∀ i1, JI (Dat.mk (D.many) (D.tx) (D.cnt) (D.fac) (p) (D.bits) (D.inc) (D.inp) (D.told) (D.un) (D.cy) (D.F) (D.N) (D.T) (D.O) (D.ac) (D.ach) (D.apt) (D.dep)) i1 r → Q D.tur i1 r) : wp_L_ask 3 p 0 i r Q :=
  ask_of (dd_3 (J_setTurns I h1 h2 (fun i1 J => ⟨by decide, hQ i1 J⟩)))
theorem A_4 {D : Dat} {i r : MI} {p : Int} {Q : Int → MI → MI → Prop} (I : JI D i r) (h1 : 1 ≤ p ∧ p ≤ 16) (hQ : ∀ i1, JI (Dat.mk (D.many) (D.tx) (D.cnt) (D.fac) (D.tur) (p) (D.inc) (D.inp) (D.told) (D.un) (D.cy) (D.F) (D.N) (D.T) (D.O) (D.ac) (D.ach) (D.apt) (D.dep)) i1 r → Q D.bits i1 r) : wp_L_ask 4 p 0 i r Q :=
  ask_of (dd_4 (J_setBits I h1 (fun i1 J => ⟨by decide, hQ i1 J⟩)))
theorem A_5 {D : Dat} {i r : MI} {p : Int} {Q : Int → MI → MI → Prop} (I : JI D i r) (hc : 1 ≤ p ∧ p ≤ 4) (hd : D.tur.tmod p = 0) (hl : D.cnt * p ≤ 24) (hQ : ∀ i1 r1, JI (Dat.mk (D.many) (D.tx) (D.cnt) (p) (D.tur) (D.bits) (D.inc) (D.inp) (D.told) (D.un) (D.cy) (D.F) (D.N) (D.T) (D.O) (D.ac) (D.ach) (D.apt) (D.dep)) i1 r1 → Q (nn (Dat.mk (D.many) (D.tx) (D.cnt) (p) (D.tur) (D.bits) (D.inc) (D.inp) (D.told) (D.un) (D.cy) (D.F) (D.N) (D.T) (D.O) (D.ac) (D.ach) (D.apt) (D.dep))) i1 r1) : wp_L_ask 5 p 0 i r Q :=
  ask_of (dd_5 (J_unroll I hc hd hl (fun i1 r1 J => ⟨by decide, hQ i1 r1 J⟩)))
theorem A_6 {D : Dat} {i r : MI} {p : Int} {Q : Int → MI → MI → Prop} (I : JI D i r) (h1 : 0 ≤ p ∧ p ≤ 65535) (h2 : D.inc < 32) (hQ : ∀ i1, JI (Dat.mk (D.many) (D.tx) (D.cnt) (D.fac) (D.tur) (D.bits) (D.inc + 1) (fun k => if k = D.inc then p else D.inp k) (D.told) (D.un) (D.cy) (D.F) (D.N) (D.T) (D.O) (D.ac) (D.ach) (D.apt) (D.dep)) i1 r → Q (D.inc + 1) i1 r) : wp_L_ask 6 p 0 i r Q :=
  ask_of (dd_6 (J_input I h1 h2 (fun i1 J => ⟨by decide, hQ i1 J⟩)))
theorem A_7 {D : Dat} {i r : MI} {m p v : Int} {Q : Int → MI → MI → Prop} (I : JI D i r) (h1 : (m = 77 ∨ m = 78) ∧ 0 ≤ p ∧ p ≤ 15) (h2 : 0 ≤ v ∧ v ≤ 65535) (hQ : ∀ x i1, JI (Dat.mk (D.many) (D.tx) (D.cnt) (D.fac) (D.tur) (D.bits) (D.inc) (D.inp) (fun a b => if a = m - 77 ∧ b = p then v else D.told a b) (D.un) (D.cy) (D.F) (D.N) (D.T) (D.O) (D.ac) (D.ach) (D.apt) (D.dep)) i1 r → Q x i1 r) : wp_L_deed 7 m p v i r Q := by
  have hm : m % 65536 = m := ch16 (by omega)
  exact dd_7 (by rw [hm]; exact J_setMemory I h1 h2 (fun i1 J => hQ _ i1 J))
theorem A_8 {D : Dat} {i r : MI} {k n : Int} {Q : Int → MI → MI → Prop} (I : JI D i r) (hk : 0 ≤ k ∧ k < 65536) (hx : 0 ≤ ixS 3 k) (hn : 1 ≤ n ∧ n ≤ 4) (h5 : ixS 3 k < 5 ∨ n ≤ 1) (hQ : ∀ i1, JI (Dat.mk (D.many) (D.tx) (D.cnt) (D.fac) (D.tur) (D.bits) (D.inc) (D.inp) (D.told) (fun a => if a = ixS 3 k then n else D.un a) (D.cy) (D.F) (D.N) (D.T) (D.O) (D.ac) (D.ach) (D.apt) (D.dep)) i1 r → Q (D.un (ixS 3 k)) i1 r) : wp_L_ask 8 k n i r Q := by
  have hm := ch16 hk
  exact ask_of (dd_8 (by rw [hm]; exact J_setUnits I hk hx hn h5 (fun i1 J => ⟨by decide, hQ i1 J⟩)))
theorem A_9 {D : Dat} {i r : MI} {k n : Int} {Q : Int → MI → MI → Prop} (I : JI D i r) (hk : 0 ≤ k ∧ k < 65536) (hx : 0 ≤ ixS 3 k) (hn : 1 ≤ n ∧ n ≤ 5) (hQ : ∀ i1, JI (Dat.mk (D.many) (D.tx) (D.cnt) (D.fac) (D.tur) (D.bits) (D.inc) (D.inp) (D.told) (D.un) (fun a => if a = ixS 3 k then n else D.cy a) (D.F) (D.N) (D.T) (D.O) (D.ac) (D.ach) (D.apt) (D.dep)) i1 r → Q (D.cy (ixS 3 k)) i1 r) : wp_L_ask 9 k n i r Q := by
  have hm := ch16 hk
  exact ask_of (dd_9 (by rw [hm]; exact J_setCycles I hk hx hn (fun i1 J => ⟨by decide, hQ i1 J⟩)))
theorem A_10 {D : Dat} {i r : MI} {p c b : Int} {Q : Int → MI → MI → Prop} (I : JI D i r) (hp : 0 ≤ p ∧ p ≤ 3) (hc : 0 ≤ c ∧ c ≤ 3) (hb : b = 0 ∨ b = 1) (hQ : D.ac p < 16 → ∀ i1, JI (spAction D p c b).2.2 i1 r → Q (D.ac p + 1) i1 r) (hX : ¬ D.ac p < 16 → Q (-200003) i r) : wp_L_deed 10 p c b i r Q := by
  have e : (if b = 1 then (1 : Int) else 0) = b := by split <;> omega
  exact dd_10 (by rw [e]; exact J_action I hp hc hb (fun z i1 J => hQ z i1 J) (fun z => eX_st (hX z)))
theorem A_11 {D : Dat} {i r : MI} {c n : Int} {Q : Int → MI → MI → Prop} (I : JI D i r) (hc : 0 ≤ c ∧ c ≤ 3) (hn : 1 ≤ n ∧ n ≤ 16) (hQ : ∀ i1, JI (Dat.mk (D.many) (D.tx) (D.cnt) (D.fac) (D.tur) (D.bits) (D.inc) (D.inp) (D.told) (D.un) (D.cy) (D.F) (D.N) (D.T) (D.O) (D.ac) (D.ach) (D.apt) (fun a => if a = c then n else D.dep a)) i1 r → Q (D.dep c) i1 r) : wp_L_ask 11 c n i r Q :=
  ask_of (dd_11 (J_setDepth I hc hn (fun i1 J => ⟨by decide, hQ i1 J⟩)))
theorem A_12 {D : Dat} {i r : MI} {p : Int} {Q : Int → MI → MI → Prop} (I : JI D i r) (e : 0 ≤ p ∧ p ≤ 3) (hQ : ∀ s i1, FinP D D.dep s → okP D D.dep s → JI D i1 r → Q (waitV D s p) i1 r) : wp_L_ask 12 p 0 i r Q :=
  ask_of (dd_12 (J_waitsFor I e (fun s i1 f o J => ⟨by decide, hQ s i1 f o J⟩)))
