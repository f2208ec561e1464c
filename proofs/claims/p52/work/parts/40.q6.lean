/-! ===== units, kind by kind ===== -/
theorem inner_w {D : Dat} {T : Int} {L L2 : Nat} {f g : Int → Int} {x5 x8 x9 : Int} {i r : MI} {k B : Nat} {Q : Int → MI → MI → Prop} {C6 : Int × Int × MI × MI × Nat → Prop} {C36 : Int × Int × Int × MI × MI × Nat → Prop} (I : JI D i r) (w : RW D T L f g) (el : L = L2) (h5 : 0 ≤ x5 ∧ x5 < 7) (h9 : 0 ≤ x9 ∧ x9 < nn D) (h8 : 0 ≤ x8 ∧ x8 ≤ 100) (hk : k ≤ B) (hB : B + 400 ≤ 160000)
    (hC : ∀ y i1 r1 k1, JI D i1 r1 → k1 ≤ B + 363 → (kdv D x9 = x5 → y = x8 + 1) → (¬ kdv D x9 = x5 → y = x8) → C36 (1, y, wr (x9 + 1), i1, r1, k1)) : Lp (b52_L_areUnits T 1 x5 (kch x5) (D.un x5) x8 x9 L f L2 g Q C6 C36) (0, 0, 0, i, r, k) := by
  subst el
  have ok := I.1
  have hl := w.l
  have n60 := w.n
  have tb := int_b w.t
  refine Lp.r6 (fun (x y b : Int) (m s : MI) (k : Nat) => 0 ≤ b ∧ b ≤ nn D ∧ JI D m s ∧ k ≤ B + 6 * b.toNat ∧ cW D x9 x5 (fun u => f x9 = f u) b.toNat x ∧ cW D x9 x5 (fun u => Int.tmod (g x9) T = Int.tmod (g u) T) b.toNat y) (fun _ _ b _ _ _ => (nn D - b).toNat) ?_ ⟨by decide, by omega, I, by omega, rfl, rfl⟩
  intro x y b m s k C ⟨b0, b1, J, hk, cx, cy⟩ hC2
  have bx := CntP.b _ _ cx
  have by' := CntP.b _ _ cy
  dsimp only [b52_L_areUnits]
  refine ⟨fun q => ?_, fun q => ⟨by omega, ?_⟩⟩
  · have e : b = nn D := by omega
    subst e
    have lx := w.un ok h5 h9 cx
    have ly := w.mo ok h5 h9 cy
    refine ⟨fun z => absurd z (by decide), fun _ => ⟨fun z => by omega, fun _ => ⟨fun z => by omega, fun _ => ?_⟩⟩⟩
    unfold s186_L_areUnits s209_L_areUnits
    refine ⟨by omega, A_23 J h9 (fun i1 r1 J1 => ?_)⟩
    have kd := kdv_r ok h9
    have e1 : wr (x8 + 1) = x8 + 1 := wr_of (by omega) (by omega)
    have e0 : wr (x8 + 0) = x8 := by rw [Int.add_zero]; exact wr_of (by omega) (by omega)
    refine ⟨fun z => ⟨by omega, told_w (fun z => absurd z (by decide)) (fun _ => ?_)⟩, fun z => ⟨by omega, told_w (fun _ => ?_) (fun z => absurd rfl z)⟩⟩
    · rw [kch_inj kd h5] at z
      rw [e1]
      exact hC _ _ _ _ J1 (by omega) (fun _ => rfl) (fun y => absurd z y)
    · rw [kch_inj kd h5] at z
      rw [e0]
      exact hC _ _ _ _ J1 (by omega) (fun y => absurd y z) (fun _ => rfl)
  · have hb : 0 ≤ b ∧ b < nn D := ⟨b0, by omega⟩
    have kd := kdv_r ok h9
    have kb := kdv_r ok hb
    have fin : ∀ (k0 : Int) (i1 r1 : MI) (k1 : Nat), JI D i1 r1 → k1 ≤ k + 6 → (¬ k0 = 0 ↔ (kdv D x9 = x5 ∧ kdv D b = x5)) → s92_L_areUnits T 1 x5 (kch x5) (D.un x5) x8 x9 x y b k0 i1 r1 k1 L f L g Q C6 C36 C := by
      intro k0 i1 r1 k1 J1 hk1 e0
      refine s92_w (by omega) (by omega) ⟨h9.1, by omega⟩ ⟨b0, by omega⟩ rfl ⟨bx.1, by omega⟩ ⟨by'.1, by omega⟩ (fun y' z' a1 a2 a3 a4 => ?_)
      rw [wr_of (x := b + 1) (by omega) (by omega)]
      refine hC2 _ _ _ _ _ _ ⟨by omega, by omega, J1, by omega, cx.up b0 ⟨fun z => a1 ⟨e0.2 z.1, z.2⟩, fun z => a2 (fun w => z ⟨e0.1 w.1, w.2⟩)⟩, cy.up b0 ⟨fun z => a3 ⟨e0.2 z.1, z.2⟩, fun z => a4 (fun w => z ⟨e0.1 w.1, w.2⟩)⟩⟩ (by omega)
    refine A_23 J h9 (fun i1 r1 J1 => ⟨fun z => ⟨by omega, A_23 J1 hb (fun i2 r2 J2 => ⟨fun z2 => ?_, fun z2 => ?_⟩)⟩, fun z => ?_⟩)
    · rw [kch_inj kd h5] at z
      rw [kch_inj kb h5] at z2
      exact fin 1 _ _ _ J2 (by omega) ⟨fun _ => ⟨z, z2⟩, fun _ => by decide⟩
    · rw [kch_inj kb h5] at z2
      unfold s91_L_areUnits
      exact fin 0 _ _ _ J2 (by omega) ⟨fun y => absurd rfl y, fun y => absurd y.2 z2⟩
    · rw [kch_inj kd h5] at z
      unfold s91_L_areUnits
      exact fin 0 _ _ _ J1 (by omega) ⟨fun y => absurd rfl y, fun y => absurd y.1 z⟩
theorem middle_w {D : Dat} {T : Int} {L L2 : Nat} {f g : Int → Int} {x5 : Int} {i r : MI} {k B : Nat} {Q : Int → MI → MI → Prop} {C6 : Int × Int × MI × MI × Nat → Prop} (I : JI D i r) (w : RW D T L f g) (el : L = L2) (h5 : 0 ≤ x5 ∧ x5 < 7) (hk : k ≤ B) (hB : B + 22200 ≤ 160000)
    (hC : ∀ i1 r1 k1, JI D i1 r1 → k1 ≤ B + 21781 → C6 (1, wr (x5 + 1), i1, r1, k1)) : Lp (b36_L_areUnits T x5 (kch x5) (D.un x5) L f L2 g Q C6) (1, 0, 0, i, r, k) := by
  subst el
  have ok := I.1
  have hl := w.l
  have n60 := w.n
  have nl := nn_le ok
  have tb := int_b w.t
  have u := ok.un x5 h5.1 h5.2
  have hx := kch_i h5
  refine Lp.r6 (fun (x y b : Int) (m s : MI) (k : Nat) => x = 1 ∧ 0 ≤ b ∧ b ≤ nn D ∧ JI D m s ∧ k ≤ B + 363 * b.toNat ∧ y = ocL D ((nds D).take b.toNat) x5) (fun _ _ b _ _ _ => (nn D - b).toNat) ?_ ⟨rfl, by decide, nl.1, I, by omega, rfl⟩
  intro x y b m s k C ⟨ex, b0, b1, J, hk, ey⟩ hC2
  subst ex
  have lb := ocL_b (D := D) (L := (nds D).take b.toNat) (k := x5)
  have ll : ((nds D).take b.toNat).length ≤ 96 := by have := nds_len ok; rw [List.length_take]; omega
  dsimp only [b36_L_areUnits]
  refine ⟨fun q => ⟨fun z => absurd z (by decide), fun _ => ⟨by omega, ?_⟩⟩, fun q => ?_⟩
  · have e : y = kcN D x5 := by
      rw [ey, show b = nn D by omega]
      unfold nn kcN
      rw [show (((nds D).length : Nat) : Int).toNat = (nds D).length by omega, List.take_length]
    have kb := kcN_b ok (k := x5)
    refine J_busy J kch_b (by omega) (fun T' i1 r1 hT J1 => ?_)
    rw [hx, int_uniq hT w.t, e]
    have ut := un_T ok h5 w.t
    have ew : wr (D.un x5 * T) = D.un x5 * T := wr_of (by omega) (by omega)
    rw [ew]
    refine ⟨by omega, fun _ => ⟨by omega, J_byUnits J1 (fun i2 r2 J2 => ⟨by omega, ?_, ?_⟩)⟩, fun z => absurd (fc_same (n := kcN D x5) (m := D.un x5 * T) ⟨by omega, by omega⟩ (by omega)) z⟩
    · intro z
      have e1 : wr (kcN D x5 + D.un x5) = kcN D x5 + D.un x5 := wr_of (by omega) (by omega)
      have e2 : wr (kcN D x5 + D.un x5 - 1) = kcN D x5 + D.un x5 - 1 := wr_of (by omega) (by omega)
      have nb := nIk_b ok h5
      have e3 : wr (Int.tdiv (kcN D x5 + D.un x5 - 1) (D.un x5)) = nIk D x5 := wr_of (by unfold nIk at nb; omega) (by unfold nIk at nb; omega)
      rw [e1, e2, e3] at z
      have := uMx_ge (D := D) 7 x5 h5.1 h5.2
      unfold uT at z
      omega
    · intro _
      unfold s267_L_areUnits
      exact hC _ _ _ J2 (by omega)
  · refine inner_w (B := B + 363 * b.toNat) J w rfl h5 ⟨b0, by omega⟩ ⟨by omega, by omega⟩ hk (by omega) (fun y' i1 r1 k1 J1 hk1 a1 a2 => ?_)
    rw [wr_of (x := b + 1) (by omega) (by omega)]
    refine hC2 _ _ _ _ _ _ ⟨rfl, by omega, by omega, J1, by omega, ?_⟩ (by omega)
    have st := kc_take (D := D) (k := x5) b0 (by omega)
    rw [st, ← ey]
    by_cases z : kdv D b = x5
    · rw [if_pos z]; exact a1 z
    · rw [if_neg z, Int.add_zero]; exact a2 z
theorem areUnits_w {D : Dat} {T : Int} {L L2 : Nat} {f g : Int → Int} {i r : MI} {Q : Int → MI → MI → Prop} (I : JI D i r) (w : RW D T L f g) (el : L = L2) (hQ : ∀ i' r', JI D i' r' → Q 1 i' r') : wp_L_areUnits T i r L f L2 g Q := by
  unfold wp_L_areUnits
  refine Lp.r5 (fun (y x : Int) (m s : MI) (k : Nat) => y = 1 ∧ 0 ≤ x ∧ x ≤ 7 ∧ k ≤ 21790 * x.toNat ∧ JI D m s) (fun _ x _ _ _ => (7 - x).toNat) ?_ ⟨rfl, by decide, by decide, by omega, I⟩
  intro y x m s k C ⟨ey, x0, x1, hk, J⟩ hC
  subst ey
  dsimp only [b6_L_areUnits]
  refine ⟨fun q => ⟨by omega, .inr rfl, hQ _ _ J⟩, fun q => ⟨by omega, kch_w ⟨x0, by omega⟩ (fun hb => ⟨by omega, units_w J ⟨x0, by omega⟩ (fun i1 r1 J1 => ?_)⟩)⟩⟩
  refine middle_w (B := k + 6) J1 w el ⟨x0, by omega⟩ (Nat.le_refl _) (by omega) (fun i2 r2 k2 J2 hk2 => ?_)
  rw [wr_of (x := x + 1) (by omega) (by omega)]
  exact hC _ _ _ _ _ ⟨rfl, by omega, by omega, by omega, J2⟩ (by omega)
/-! ===== edges ===== -/
theorem nn_60 {D : Dat} (ok : DOk D) (w : WP D) : nn D ≤ 60 := by
  have h := ndl_len (D := D) (D.cnt * D.fac).toNat
  have f1 := ok.fac
  have h1 : D.cnt * D.fac ≤ 5 * 3 := Int.mul_le_mul w.c.2 w.f (by omega) (by omega)
  unfold nn nds
  omega
theorem mem_fp2 {D : Dat} (ok : DOk D) (w : WP D) {v : Int} (h : 0 ≤ v ∧ v < nn D) (hm : isMem D v) (ht : tnN D (nd D v) = 1) : -3 ≤ fpN D (nd D v) ∧ fpN D (nd D v) ≤ D.fac + 3 := by
  obtain ⟨h1, h2, h3, h4, h5⟩ := nd_ok ok h
  have hr : (nd D v).2 = 0 ∨ (nd D v).2 = 1 ∨ (nd D v).2 = 3 := mem_role ok h hm
  have hf := ok.fac
  have hs : 0 ≤ (nd D v).1 / D.cnt ∧ (nd D v).1 / D.cnt < D.fac := by
    have hx := ndl_mem (nd_mem h)
    have h0 : 0 ≤ D.cnt * D.fac := Int.mul_nonneg ok.cnt.1 (by omega)
    refine ⟨Int.ediv_nonneg h1 (by omega), Int.ediv_lt_of_lt_mul (by omega) ?_⟩
    rw [Int.mul_comm]
    omega
  have hp : 0 ≤ plN (nd D v) ∧ plN (nd D v) < 3 := by unfold plN; split; decide; split <;> decide
  unfold tnN at ht
  rw [if_pos hr] at ht
  have sm := w.s (stK D (nd D v)) h3 h4 (plN (nd D v)) hp.1 hp.2 ht
  unfold fpN
  rw [if_pos hr]
  unfold plc
  rw [if_neg (by omega)]
  omega
theorem raw_d9 {D : Dat} (ok : DOk D) (w : WP D) {f t d x : Int} (h : Raw D f t d x) : d < 9 := by
  obtain ⟨a1, a2, a3, a4, a5⟩ := h
  rcases a5 with ⟨b1, b2, b3⟩ | ⟨p, p0, p1, b1, b2, b3⟩ | ⟨p, p0, p1, b1, b2⟩ | ⟨b1, b2⟩ | ⟨b1, b2⟩
  · omega
  · rcases b2 with ⟨z, z2⟩ | ⟨z, z2, z3⟩ <;> omega
  · rcases b1.2 with ⟨z, z2⟩ | ⟨z, z2, z3⟩ <;> omega
  · have mf := b1.2.1
    have mt : isMem D t := by unfold isMem; rw [← b1.2.2.1]; exact mf
    have hd := b1.2.2.2.2
    have hfac := ok.fac
    have w3 := w.f
    unfold memD at hd
    by_cases e : tnN D (nd D f) = 1 ∧ tnN D (nd D t) = 1
    · rw [if_pos e] at hd
      have pf := mem_fp2 ok w ⟨a1, a2⟩ mf e.1
      have pt := mem_fp2 ok w ⟨a3, a4⟩ mt e.2
      have e2 := hd.2.1
      have : D.fac = 1 ∨ D.fac = 2 ∨ D.fac = 3 := by omega
      rcases this with z | z | z <;> (rw [z] at e2 pf; omega)
    · rw [if_neg e] at hd
      have hd2 := hd.2
      split at hd2 <;> omega
  · rcases b1.2.2.2 with ⟨z, z2⟩ | ⟨z, z2, z3⟩ <;> omega
/-- edges found so far, in the order in which the law looks for them -/
def EC (D : Dat) (a b d x : Int) : Prop := ∃ M : List (Int × Int × Int), M.Nodup ∧ (∀ y : Int × Int × Int, y ∈ M ↔ (∃ w, Raw D y.1 y.2.1 y.2.2 w) ∧ (y.1 < a ∨ (y.1 = a ∧ (y.2.1 < b ∨ (y.2.1 = b ∧ y.2.2 < d))))) ∧ x = M.length
theorem EC.start {D : Dat} (ok : DOk D) : EC D 0 0 0 0 := by
  refine ⟨[], List.nodup_nil, fun y => ⟨fun h => (by cases h), fun h => ?_⟩, rfl⟩
  obtain ⟨⟨w, hw⟩, z⟩ := h
  have := raw_props ok hw
  omega
theorem EC.yes {D : Dat} {a b d x w : Int} (h : EC D a b d x) (r : Raw D a b d w) : EC D a b (d + 1) (x + 1) := by
  obtain ⟨M, h1, h2, h3⟩ := h
  refine ⟨(a, b, d) :: M, List.nodup_cons.2 ⟨fun z => ?_, h1⟩, fun y => ?_, ?_⟩
  · have := ((h2 (a, b, d)).1 z).2
    have : a < a ∨ (a = a ∧ (b < b ∨ (b = b ∧ d < d))) := this
    omega
  · rw [List.mem_cons, h2 y]
    refine ⟨fun z => ?_, fun z => ?_⟩
    · rcases z with z | z
      · rw [z]
        refine ⟨⟨w, r⟩, ?_⟩
        show a < a ∨ (a = a ∧ (b < b ∨ (b = b ∧ d < d + 1)))
        omega
      · exact ⟨z.1, by have := z.2; omega⟩
    · by_cases e : y.1 = a ∧ y.2.1 = b ∧ y.2.2 = d
      · exact .inl (Prod.ext e.1 (Prod.ext e.2.1 e.2.2))
      · exact .inr ⟨z.1, by have := z.2; omega⟩
  · rw [h3, List.length_cons]
    omega
theorem EC.no {D : Dat} {a b d x : Int} (h : EC D a b d x) (r : ∀ w, ¬ Raw D a b d w) : EC D a b (d + 1) x := by
  obtain ⟨M, h1, h2, h3⟩ := h
  refine ⟨M, h1, fun y => ?_, h3⟩
  rw [h2 y]
  refine ⟨fun z => ⟨z.1, by have := z.2; omega⟩, fun z => ⟨z.1, ?_⟩⟩
  obtain ⟨⟨w, hw⟩, z2⟩ := z
  by_cases e : y.1 = a ∧ y.2.1 = b ∧ y.2.2 = d
  · rw [e.1, e.2.1, e.2.2] at hw
    exact absurd hw (r w)
  · omega
theorem EC.nb {D : Dat} (ok : DOk D) (w : WP D) {a b x : Int} (h : EC D a b 9 x) : EC D a (b + 1) 0 x := by
  obtain ⟨M, h1, h2, h3⟩ := h
  refine ⟨M, h1, fun y => ?_, h3⟩
  rw [h2 y]
  refine and_congr_right (fun ⟨x', hx⟩ => ?_)
  have d1 := raw_props ok hx
  have d2 := raw_d9 ok w hx
  omega
theorem EC.na {D : Dat} (ok : DOk D) {a x : Int} (h : EC D a (nn D) 0 x) : EC D (a + 1) 0 0 x := by
  obtain ⟨M, h1, h2, h3⟩ := h
  refine ⟨M, h1, fun y => ?_, h3⟩
  rw [h2 y]
  refine and_congr_right (fun ⟨x', hx⟩ => ?_)
  have d1 := raw_props ok hx
  omega
theorem EC.le {D : Dat} (ok : DOk D) {a b d x : Int} (h : EC D a b d x) : 0 ≤ x ∧ x ≤ 9600 := by
  obtain ⟨M, h1, h2, h3⟩ := h
  have := raw_all ok M h1 (fun y hy => ((h2 y).1 hy).1)
  omega
theorem EC.fin {D : Dat} (ok : DOk D) {x y : Int} (h : EC D (nn D) 0 0 x) (g : ∃ L : List (Int × Int × Int), L.Nodup ∧ (∀ y : Int × Int × Int, y ∈ L ↔ ∃ w, Raw D y.1 y.2.1 y.2.2 w) ∧ y = L.length) : x = y := by
  obtain ⟨M, h1, h2, h3⟩ := h
  obtain ⟨L, g1, g2, g3⟩ := g
  have e : ∀ y : Int × Int × Int, y ∈ M ↔ y ∈ L := fun y => by
    rw [h2 y, g2 y]
    refine ⟨fun z => z.1, fun z => ⟨z, ?_⟩⟩
    obtain ⟨w, hw⟩ := z
    have := raw_props ok hw
    omega
  have l1 := pig (fun m x : Int × Int × Int => m = x) (fun m x y a b => a.symm.trans b) M L h1 (fun x hx => ⟨x, (e x).1 hx, rfl⟩)
  have l2 := pig (fun m x : Int × Int × Int => m = x) (fun m x y a b => a.symm.trans b) L M g1 (fun x hx => ⟨x, (e x).2 hx, rfl⟩)
  omega
