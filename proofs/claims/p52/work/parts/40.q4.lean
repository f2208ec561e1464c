/-! ===== what the law writes ===== -/
theorem Lp.r5 {A B D E F : Type} {B0 : (A × B × D × E × F → Prop) → A × B × D × E × F → Prop} (Iv0 : A → B → D → E → F → Prop) (μ : A → B → D → E → F → Nat) (h : ∀ (a : A) (b : B) (d : D) (e : E) (f : F) (C : A × B × D × E × F → Prop), Iv0 a b d e f → (∀ a' b' d' e' f', Iv0 a' b' d' e' f' → μ a' b' d' e' f' < μ a b d e f → C (a', b', d', e', f')) → B0 C (a, b, d, e, f)) {a : A} {b : B} {d : D} {e : E} {f : F} (h0 : Iv0 a b d e f) : Lp B0 (a, b, d, e, f) :=
  Lp.rule (fun s => Iv0 s.1 s.2.1 s.2.2.1 s.2.2.2.1 s.2.2.2.2) (fun s => μ s.1 s.2.1 s.2.2.1 s.2.2.2.1 s.2.2.2.2) (fun s C hi hc => h s.1 s.2.1 s.2.2.1 s.2.2.2.1 s.2.2.2.2 C hi (fun a' b' d' e' f' p q => hc (a', b', d', e', f') p q)) (a, b, d, e, f) h0
theorem Lp.r6 {A B D E F G : Type} {B0 : (A × B × D × E × F × G → Prop) → A × B × D × E × F × G → Prop} (Iv0 : A → B → D → E → F → G → Prop) (μ : A → B → D → E → F → G → Nat) (h : ∀ (a : A) (b : B) (d : D) (e : E) (f : F) (g : G) (C : A × B × D × E × F × G → Prop), Iv0 a b d e f g → (∀ a' b' d' e' f' g', Iv0 a' b' d' e' f' g' → μ a' b' d' e' f' g' < μ a b d e f g → C (a', b', d', e', f', g')) → B0 C (a, b, d, e, f, g)) {a : A} {b : B} {d : D} {e : E} {f : F} {g : G} (h0 : Iv0 a b d e f g) : Lp B0 (a, b, d, e, f, g) :=
  Lp.rule (fun s => Iv0 s.1 s.2.1 s.2.2.1 s.2.2.2.1 s.2.2.2.2.1 s.2.2.2.2.2) (fun s => μ s.1 s.2.1 s.2.2.1 s.2.2.2.1 s.2.2.2.2.1 s.2.2.2.2.2) (fun s C hi hc => h s.1 s.2.1 s.2.2.1 s.2.2.2.1 s.2.2.2.2.1 s.2.2.2.2.2 C hi (fun a' b' d' e' f' g' p q => hc (a', b', d', e', f', g') p q)) (a, b, d, e, f, g) h0
theorem pick_w {L : Nat} {xs : Int → Int} {p m : Int} {i r : MI} {Q : Int → Prop} (hp : 0 ≤ p) (hm : 0 < m) (hQ : 0 ≤ pk L xs p m → pk L xs p m < m → Q (pk L xs p m)) : wp_L_pick p m i r L xs Q := by
  have hr := pk_rng (L := L) (xs := xs) (p := p) hm
  have hQ := hQ hr.1 hr.2
  unfold wp_L_pick wp_L_cell s15_L_cell
  unfold pk pkC at hQ
  refine ⟨fun h => ⟨by omega, ?_⟩, fun h => ⟨⟨hp, by omega⟩, by omega, ?_⟩⟩
  · rw [if_pos h] at hQ; exact hQ
  · rw [if_neg h] at hQ; exact hQ
theorem shr_0 : ∀ n < 32, iShr ((n : Nat) : Int) 0 = ((n : Nat) : Int) := by decide +kernel
theorem and_255 : ∀ n < 128, iAnd ((n : Nat) : Int) 255 = ((n : Nat) : Int) := by decide +kernel
theorem ix_all : ∀ n < 128, (n : Nat) ∈ (chS 0).map Int.toNat → 0 ≤ ixS 0 ((n : Nat) : Int) := by decide +kernel
theorem kch_ix : ∀ k < 7, ixS 3 (kch ((k : Nat) : Int)) = ((k : Nat) : Int) := by decide +kernel
theorem kch_i {k : Int} (h : 0 ≤ k ∧ k < 7) : ixS 3 (kch k) = k := by
  have := kch_ix k.toNat (by omega)
  rwa [show ((k.toNat : Nat) : Int) = k by omega] at this
theorem kch_b {k : Int} : 0 ≤ kch k ∧ kch k < 65536 := by unfold kch; omega
theorem lenZ_w {n0 : Nat} {f0 : Int → Int} {i r : MI} {Q : Int → Prop} (hn : n0 < 32) (hQ : Q n0) : wp_J0_length_8abf5ZZ i r n0 f0 Q := by
  unfold wp_J0_length_8abf5ZZ wp_J0_coder_7d493ZZ s14_J0_coder_7d493ZZ
  refine ⟨fun q => absurd q (by decide), fun _ => ⟨by decide, ?_⟩⟩
  show Q (iShr (n0 : Int) 0)
  rw [shr_0 n0 hn]
  exact hQ
theorem chZ_w {n0 : Nat} {f0 : Int → Int} {p : Int} {i r : MI} {Q : Int → Prop} (hp : 0 ≤ p ∧ p < n0) (hc : 0 ≤ f0 p ∧ f0 p < 128) (hQ : Q (f0 p)) : wp_J0_charAt_5068eZZ p i r n0 f0 Q := by
  have e : iAnd (f0 p) 255 = f0 p := by
    have := and_255 (f0 p).toNat (by omega)
    rwa [show (((f0 p).toNat : Nat) : Int) = f0 p by omega] at this
  unfold wp_J0_charAt_5068eZZ wp_J0_isLatin1_aae02ZZ s17_J0_isLatin1_aae02ZZ s18_J0_isLatin1_aae02ZZ wp_J1_charAt_3b067ZZ wp_J0_checkIndex_df160 wp_J3_checkIndex_8e157 s9_J3_checkIndex_8e157
  rw [e, show f0 p % 65536 = f0 p by omega]
  exact ⟨fun q => absurd q (by decide), fun _ => ⟨fun _ => ⟨.inr rfl, fun q => absurd q (by decide), fun _ => ⟨fun q => by omega, fun _ => ⟨fun _ => ⟨hp, by omega, by omega, hQ⟩, fun q => by omega⟩⟩⟩, fun q => absurd rfl q⟩⟩
/-- letters that a statement may have -/
def okC (l : List Int) : Prop := ∀ x ∈ l, 0 ≤ x ∧ x < 128 ∧ 0 ≤ ixS 0 x
theorem okC.app {l m : List Int} (h : okC l) (g : okC m) : okC (l ++ m) := fun x hx => by rcases List.mem_append.mp hx with q | q; exact h x q; exact g x q
theorem okC.cons {a : Int} {l : List Int} (h : 0 ≤ a ∧ a < 128 ∧ 0 ≤ ixS 0 a) (g : okC l) : okC (a :: l) := fun x hx => by rcases List.mem_cons.mp hx with q | q; rw [q]; exact h; exact g x q
theorem okC.nil : okC [] := fun x hx => by cases hx
theorem ix_r : ∀ n < 128, (48 ≤ n ∧ n ≤ 57 ∨ 97 ≤ n ∧ n ≤ 105) → 0 ≤ ixS 0 ((n : Nat) : Int) := by decide +kernel
theorem okC_r {a : Int} (h : 48 ≤ a ∧ a ≤ 57 ∨ 97 ≤ a ∧ a ≤ 105) : 0 ≤ a ∧ a < 128 ∧ 0 ≤ ixS 0 a := by
  have := ix_r a.toNat (by omega) (by omega)
  rw [show ((a.toNat : Nat) : Int) = a by omega] at this
  exact ⟨by omega, by omega, this⟩
theorem okC.one {a : Int} (h : 0 ≤ a ∧ a < 128 ∧ 0 ≤ ixS 0 a) : okC [a] := okC.cons h okC.nil
theorem okC.dig {v : Int} (h : 0 ≤ v ∧ v < 100) : okC (digT v) := by
  unfold digT
  split
  · exact okC.one (okC_r (by omega))
  · exact okC.cons (okC_r (by omega)) (okC.one (okC_r (by omega)))
theorem okC.reg {L : Nat} {xs : Int → Int} {p : Int} : okC (regT L xs p) := okC.one (okC_r (by have := pk_rng (L := L) (xs := xs) (p := p) (m := 4) (by decide); omega))
theorem okC.idx {L : Nat} {xs : Int → Int} {p : Int} : okC (idxT L xs p) := by
  unfold idxT
  have r1 := pk_rng (L := L) (xs := xs) (p := p + 1) (m := 20) (by decide)
  have r2 := pk_rng (L := L) (xs := xs) (p := p + 1) (m := 5) (by decide)
  have r3 := pk_rng (L := L) (xs := xs) (p := p + 1) (m := 4) (by decide)
  split
  · exact okC.dig (by omega)
  split
  · exact okC.one (by decide)
  split
  · exact okC.app (okC.cons (by decide) (okC.one (by decide))) (okC.dig (by omega))
  · exact okC.app (okC.cons (by decide) (okC.one (by decide))) (okC.dig (by omega))
theorem okC.mem {L : Nat} {xs : Int → Int} {p : Int} : okC (memT L xs p) := by
  unfold memT
  refine okC.app (okC.app ?_ okC.idx) (okC.one (by decide))
  split
  · exact okC.cons (by decide) (okC.one (by decide))
  · exact okC.cons (by decide) (okC.one (by decide))
theorem okC.trg {L : Nat} {xs : Int → Int} {p : Int} : okC (trgT L xs p) := by
  unfold trgT
  split
  · exact okC.reg
  split
  · exact okC.mem
  · exact okC.one (by decide)
theorem okC.opd {L : Nat} {xs : Int → Int} {p : Int} : okC (opdT L xs p) := by
  unfold opdT
  have r1 := pk_rng (L := L) (xs := xs) (p := p + 1) (m := 100) (by decide)
  split
  · exact okC.reg
  split
  · exact okC.mem
  split
  · exact okC.dig r1
  split
  · exact okC.one (by decide)
  · exact okC.one (by decide)
theorem okC.stm {L : Nat} {xs : Int → Int} {p : Int} : okC (stmT L xs p) := by
  have r := pk_rng (L := L) (xs := xs) (p := p + 11) (m := 7) (by decide)
  unfold stmT
  split
  · exact okC.app (okC.app okC.trg (okC.one (by decide))) okC.opd
  · refine okC.app (okC.app (okC.app (okC.app okC.trg (okC.one (by decide))) okC.opd) (okC.one ?_)) okC.opd
    generalize pk L xs (p + 11) 7 = v at r
    have : v = 0 ∨ v = 1 ∨ v = 2 ∨ v = 3 ∨ v = 4 ∨ v = 5 ∨ v = 6 := by omega
    rcases this with rfl | rfl | rfl | rfl | rfl | rfl | rfl <;> decide
theorem lstF_at {l : List Int} {j : Nat} (h : j < l.length) : lstF l (j : Int) ∈ l := by
  unfold lstF
  rw [show ((j : Nat) : Int).toNat = j by omega, List.getD_eq_getElem?_getD, List.getElem?_eq_getElem h]
  exact List.getElem_mem h
/-- small steps of all statements -/
def Sml (D : Dat) : Prop := ∀ k, 0 ≤ k → k < D.cnt → SmS (D.F k) (D.N k) (D.T k)
theorem type_w {D : Dat} {i r : MI} {l : List Int} {Q : MI → MI → Prop} (I : JI D i r) (h0 : D.many = 0) (hl : l.length ≤ 23) (hc : okC l) (hQ : ∀ t i', JI (Dat.mk ((l.length : Int)) (t) (D.cnt) (D.fac) (D.tur) (D.bits) (D.inc) (D.inp) (D.told) (D.un) (D.cy) (D.F) (D.N) (D.T) (D.O) (D.ac) (D.ach) (D.apt) (D.dep)) i' r → (∀ j : Nat, j < l.length → t (j : Int) = lstF l (j : Int)) → Q i' r) : wp_L_type i r l.length (lstF l) Q := by
  unfold wp_L_type
  refine Lp.r4 (fun (x : Int) (m s : MI) (k : Nat) => ∃ y : Nat, x = (y : Int) ∧ y ≤ l.length ∧ s = r ∧ k = 3 * y ∧ ∃ t, JI (Dat.mk ((y : Int)) (t) (D.cnt) (D.fac) (D.tur) (D.bits) (D.inc) (D.inp) (D.told) (D.un) (D.cy) (D.F) (D.N) (D.T) (D.O) (D.ac) (D.ach) (D.apt) (D.dep)) m r ∧ ∀ j : Nat, j < y → t (j : Int) = lstF l (j : Int)) (fun x _ _ _ => (l.length - x.toNat)) ?_ ⟨0, rfl, by omega, rfl, rfl, D.tx, ?_, fun j hj => by omega⟩
  · intro x m s k C ⟨y, ex, hy, es, ek, t, J, ht⟩ hC
    subst ex es ek
    dsimp only [b2_L_type]
    refine ⟨by omega, lenZ_w (by omega) ⟨fun q => ⟨by omega, ?_⟩, fun q => ⟨by omega, ?_⟩⟩⟩
    · have e : y = l.length := by omega
      subst e
      exact hQ t m J ht
    · have hy2 : y < l.length := by omega
      have cy := hc _ (lstF_at hy2)
      refine chZ_w ⟨by omega, by omega⟩ ⟨cy.1, cy.2.1⟩ ⟨by omega, ?_⟩
      refine A_0 J ⟨cy.1, by omega⟩ cy.2.2 (by show (y : Int) < 24; omega) (fun i1 J1 => ?_)
      rw [wr_of (x := (y : Int) + 1) (by omega) (by omega)]
      refine hC _ _ _ _ ⟨y + 1, by omega, by omega, rfl, by omega, fun a => if a = (y : Int) then lstF l (y : Int) else t a, J1, fun j hj => ?_⟩ (by omega)
      show (if (j : Int) = (y : Int) then lstF l (y : Int) else t (j : Int)) = lstF l (j : Int)
      by_cases z : j = y
      · rw [z, if_pos rfl]
      · rw [if_neg (by omega)]; exact ht j (by omega)
  · have e : ((Dat.mk (((0 : Nat) : Int)) (D.tx) (D.cnt) (D.fac) (D.tur) (D.bits) (D.inc) (D.inp) (D.told) (D.un) (D.cy) (D.F) (D.N) (D.T) (D.O) (D.ac) (D.ach) (D.apt) (D.dep)) : Dat) = D := by
      rw [show ((0 : Nat) : Int) = D.many by rw [h0]; rfl]
      rfl
    rw [e]
    exact I
theorem addT_w {D : Dat} {i r : MI} {L : Nat} {xs : Int → Int} {p : Int} {Q : Int → MI → MI → Prop} (I : JI D i r) (h12 : D.cnt + 1 ≤ 12) (h24 : (D.cnt + 1) * D.fac ≤ 24) (sm : Sml D) (hQ : ∀ D' i' r', JI D' i' r' → D'.cnt = D.cnt + 1 → D'.fac = D.fac → D'.tur = D.tur → D'.un = D.un → D'.cy = D.cy → D'.inc = D.inc → Sml D' → Q (D.cnt + 1) i' r') : wp_L_add i r (stmT L xs p).length (lstF (stmT L xs p)) Q := by
  have hl := okT.stm (L := L) (xs := xs) (p := p)
  have hc := okC.stm (L := L) (xs := xs) (p := p)
  have hl1 := hl.1
  unfold wp_L_add
  refine ⟨by decide, J_clear I (fun i1 J1 => ⟨by decide, ?_⟩)⟩
  refine type_w J1 rfl hl1 hc (fun t i2 J2 ht => ⟨by decide, ?_⟩)
  have key : (psD (Dat.mk (((stmT L xs p).length : Int)) (t) (D.cnt) (D.fac) (D.tur) (D.bits) (D.inc) (D.inp) (D.told) (D.un) (D.cy) (D.F) (D.N) (D.T) (D.O) (D.ac) (D.ach) (D.apt) (D.dep))).e = -1 ∧ SmS (psD (Dat.mk (((stmT L xs p).length : Int)) (t) (D.cnt) (D.fac) (D.tur) (D.bits) (D.inc) (D.inp) (D.told) (D.un) (D.cy) (D.F) (D.N) (D.T) (D.O) (D.ac) (D.ach) (D.apt) (D.dep))).F (psD (Dat.mk (((stmT L xs p).length : Int)) (t) (D.cnt) (D.fac) (D.tur) (D.bits) (D.inc) (D.inp) (D.told) (D.un) (D.cy) (D.F) (D.N) (D.T) (D.O) (D.ac) (D.ach) (D.apt) (D.dep))).N (psD (Dat.mk (((stmT L xs p).length : Int)) (t) (D.cnt) (D.fac) (D.tur) (D.bits) (D.inc) (D.inp) (D.told) (D.un) (D.cy) (D.F) (D.N) (D.T) (D.O) (D.ac) (D.ach) (D.apt) (D.dep))).T := by
    have g : At (ch ((stmT L xs p).length : Int) t) 0 (stmT L xs p) := At_of (fun j hj => by
      rw [show (0 : Int) + (j : Int) = (j : Int) by omega]
      unfold ch
      rw [if_pos (by omega), ht j hj]
      unfold lstF
      rw [show ((j : Nat) : Int).toNat = j by omega])
    have he : ch ((stmT L xs p).length : Int) t ((stmT L xs p).length : Int) = 32 := by unfold ch; rw [if_neg (by omega)]
    exact stm_at g rfl he
  refine A_1 J2 key.1 h12 h24 (fun i3 r3 J3 => ⟨by decide, hQ _ _ _ J3 rfl rfl rfl rfl rfl rfl ?_⟩)
  intro k k0 k1
  have k1 : k < D.cnt + 1 := k1
  show SmS (if k = D.cnt then _ else D.F k) (if k = D.cnt then _ else D.N k) (if k = D.cnt then _ else D.T k)
  by_cases z : k = D.cnt
  · rw [if_pos z, if_pos z, if_pos z]; exact key.2
  · rw [if_neg z, if_neg z, if_neg z]; exact sm k k0 (by omega)
/-- a program of the law -/
def WP (D : Dat) : Prop := (0 ≤ D.cnt ∧ D.cnt ≤ 5) ∧ (D.fac ≤ 3) ∧ (Sml D)
theorem WP.c {D : Dat} (h0 : WP D) : 0 ≤ D.cnt ∧ D.cnt ≤ 5 := h0.1
theorem WP.f {D : Dat} (h0 : WP D) : D.fac ≤ 3 := h0.2.1
theorem WP.s {D : Dat} (h0 : WP D) : Sml D := h0.2.2
theorem WP.mk {D : Dat} (h0 : 0 ≤ D.cnt ∧ D.cnt ≤ 5) (h1 : D.fac ≤ 3) (h2 : Sml D) : WP D := ⟨h0, h1, h2⟩
theorem inp_w {D : Dat} {i r : MI} {k B : Nat} {L : Nat} {xs : Int → Int} {Q : Int → MI → MI → Prop} (I : JI D i r) (w : WP D) (h6 : D.tur = 6) (hi : D.inc = 0) (hk : k ≤ B) (hB : B + 48 ≤ 6000) (hQ : ∀ D' i' r', JI D' i' r' → WP D' → Q 1 i' r') : Lp (b187_L_isWritten 1 L xs Q) (0, i, r, k) := by
  refine Lp.r4 (fun (x : Int) (m s : MI) (k : Nat) => 0 ≤ x ∧ x ≤ 5 ∧ k ≤ B + 9 * x.toNat ∧ ∃ D', JI D' m s ∧ WP D' ∧ D'.tur = 6 ∧ D'.inc = x) (fun x _ _ _ => (5 - x).toNat) ?_ ⟨by decide, by decide, by omega, D, I, w, h6, hi⟩
  intro x m s k C ⟨x0, x1, hk, D1, J, w1, t1, i1⟩ hC
  dsimp only [b187_L_isWritten, s320_L_isWritten, s319_L_isWritten]
  refine ⟨fun q => ⟨by omega, ?_⟩, fun q => ⟨by omega, ?_⟩⟩
  · refine pick_w (by decide) (by decide) (fun v0 v1 => ⟨fun z => absurd z (by decide), fun _ => ⟨by omega, ?_⟩⟩)
    generalize pk L xs 16 3 = v at v0 v1
    rw [wr_of (x := 1 + v) (by omega) (by omega)]
    have hd : D1.tur.tmod (1 + v) = 0 := by
      rw [t1]
      have : v = 0 ∨ v = 1 ∨ v = 2 := by omega
      rcases this with rfl | rfl | rfl <;> decide
    have hl : D1.cnt * (1 + v) ≤ 24 := by
      have := w1.c
      have h1 : D1.cnt * (1 + v) ≤ 5 * 3 := Int.mul_le_mul this.2 (by omega) (by omega) (by omega)
      omega
    refine A_5 J (by omega) hd hl (fun i2 r2 J2 => ⟨by omega, J_nodes J2 (fun i3 r3 J3 => ⟨fun _ => ⟨by omega, .inr rfl, hQ _ _ _ J3 ⟨w1.c, by show 1 + v ≤ 3; omega, w1.s⟩⟩, fun z => absurd rfl z⟩)⟩)
  · rw [wr_of (x := 140 + x) (by omega) (by omega), wr_of (x := 150 + x) (by omega) (by omega), wr_of (x := 160 + x) (by omega) (by omega), wr_of (x := 170 + x) (by omega) (by omega), wr_of (x := 180 + x) (by omega) (by omega), wr_of (x := x + 1) (by omega) (by omega)]
    refine pick_w (by omega) (by decide) (fun v0 v1 => ⟨by omega, ?_⟩)
    refine A_6 J ⟨v0, by omega⟩ (by omega) (fun i2 J2 => ⟨by omega, ?_⟩)
    refine pick_w (by omega) (by decide) (fun a0 a1 => ⟨by omega, pick_w (by omega) (by decide) (fun b0 b1 => ⟨by omega, ?_⟩)⟩)
    refine A_7 J2 ⟨.inl rfl, a0, by omega⟩ ⟨b0, by omega⟩ (fun _ i3 J3 => ⟨by omega, ?_⟩)
    refine pick_w (by omega) (by decide) (fun c0 c1 => ⟨by omega, pick_w (by omega) (by decide) (fun d0 d1 => ⟨by omega, ?_⟩)⟩)
    refine A_7 J3 ⟨.inr rfl, c0, by omega⟩ ⟨d0, by omega⟩ (fun _ i4 J4 => ?_)
    exact hC _ _ _ _ ⟨by omega, by omega, by omega, _, J4, ⟨w1.c, w1.f, w1.s⟩, t1, by show D1.inc + 1 = x + 1; omega⟩ (by omega)
theorem kin_w {D : Dat} {i r : MI} {k B : Nat} {L : Nat} {xs : Int → Int} {Q : Int → MI → MI → Prop} (I : JI D i r) (w : WP D) (h6 : D.tur = 6) (hi : D.inc = 0) (hu : ∀ a, 0 ≤ a → D.un a = 1) (hy : ∀ a, 0 ≤ a → D.cy a = 1) (hk : k ≤ B) (hB : B + 100 ≤ 6000) (hQ : ∀ D' i' r', JI D' i' r' → WP D' → Q 1 i' r') : Lp (b99_L_isWritten L xs Q) (1, 0, i, r, k) := by
  refine Lp.r5 (fun (y x : Int) (m s : MI) (k : Nat) => y = 1 ∧ 0 ≤ x ∧ x ≤ 7 ∧ k ≤ B + 6 * x.toNat ∧ ∃ D', JI D' m s ∧ WP D' ∧ D'.tur = 6 ∧ D'.inc = 0 ∧ (∀ a, x ≤ a → D'.un a = 1) ∧ ∀ a, x ≤ a → D'.cy a = 1) (fun _ x _ _ _ => (7 - x).toNat) ?_ ⟨rfl, by decide, by decide, by omega, D, I, w, h6, hi, hu, hy⟩
  intro y x m s k C ⟨ey, x0, x1, hk, D1, J, w1, t1, i1, u1, y1⟩ hC
  subst ey
  dsimp only [b99_L_isWritten, s176_L_isWritten, s172_L_isWritten, s177_L_isWritten]
  refine ⟨fun q => inp_w (B := B + 42) J w1 t1 i1 (by omega) (by omega) hQ, fun q => ⟨by omega, ?_⟩⟩
  refine kch_w ⟨x0, by omega⟩ (fun hb => ⟨fun z => absurd z (by decide), fun _ => ⟨by omega, ?_⟩⟩)
  have hx := kch_i (k := x) ⟨x0, by omega⟩
  rw [wr_of (x := 2 + x) (by omega) (by omega), wr_of (x := 9 + x) (by omega) (by omega), wr_of (x := x + 1) (by omega) (by omega)]
  refine pick_w (by omega) (by decide) (fun v0 v1 => ⟨by omega, ?_⟩)
  rw [wr_of (x := 1 + pk L xs (2 + x) 3) (by omega) (by omega)]
  refine A_9 J hb (by omega) ⟨by omega, by omega⟩ (fun i2 J2 => ?_)
  rw [hx] at J2
  rw [hx, y1 x (Int.le_refl _)]
  refine ⟨fun _ => ⟨fun q4 => ?_, fun q4 => ⟨by omega, ?_⟩⟩, fun z => absurd rfl z⟩
  · refine hC _ _ _ _ _ ⟨rfl, by omega, by omega, by omega, _, J2, ⟨w1.c, w1.f, w1.s⟩, t1, i1, fun a ha => u1 a (by omega), fun a ha => ?_⟩ (by omega)
    show (if a = x then _ else D1.cy a) = 1
    rw [if_neg (by omega)]; exact y1 a (by omega)
  · refine pick_w (by omega) (by decide) (fun b0 b1 => ⟨by omega, ?_⟩)
    rw [wr_of (x := 1 + pk L xs (9 + x) 2) (by omega) (by omega)]
    refine A_8 J2 hb (by omega) ⟨by omega, by omega⟩ (.inl (by omega)) (fun i3 J3 => ?_)
    rw [hx] at J3
    rw [hx]
    have e : D1.un x = 1 := u1 x (Int.le_refl _)
    refine ⟨fun _ => ?_, fun z => absurd e z⟩
    refine hC _ _ _ _ _ ⟨rfl, by omega, by omega, by omega, _, J3, ⟨w1.c, w1.f, w1.s⟩, t1, i1, fun a ha => ?_, fun a ha => ?_⟩ (by omega)
    · show (if a = x then _ else D1.un a) = 1
      rw [if_neg (by omega)]; exact u1 a (by omega)
    · show (if a = x then _ else D1.cy a) = 1
      rw [if_neg (by omega)]; exact y1 a (by omega)
theorem isWritten_w {D : Dat} {i r : MI} {L : Nat} {xs : Int → Int} {Q : Int → MI → MI → Prop} (I : JI D i r) (h0 : D.cnt = 0) (hf : D.fac = 1) (ht : D.tur = 8) (hb : D.bits = 8) (hi : D.inc = 0) (hu : ∀ a, 0 ≤ a → D.un a = 1) (hy : ∀ a, 0 ≤ a → D.cy a = 1) (hQ : ∀ D' i' r', JI D' i' r' → WP D' → Q 1 i' r') : wp_L_isWritten i r L xs Q := by
  unfold wp_L_isWritten
  refine ⟨by decide, pick_w (by decide) (by decide) (fun v0 v1 => ⟨by decide, ?_⟩)⟩
  generalize pk L xs 0 4 = n at v0 v1
  rw [wr_of (x := 2 + n) (by omega) (by omega)]
  refine A_3 I (by decide) (by rw [hf]; decide) (fun i1 J1 => ?_)
  rw [ht]
  refine ⟨fun _ => ⟨by decide, pick_w (by decide) (by decide) (fun b0 b1 => ⟨by decide, ?_⟩)⟩, fun z => absurd rfl z⟩
  rw [wr_of (x := 1 + pk L xs 1 12) (by omega) (by omega)]
  refine A_4 J1 (by omega) (fun i2 J2 => ?_)
  refine ⟨fun _ => ?_, fun z => absurd hb z⟩
  unfold s47_L_isWritten
  refine Lp.r5 (fun (y x : Int) (m s : MI) (k : Nat) => y = 1 ∧ 0 ≤ x ∧ x ≤ 2 + n ∧ k ≤ 6 + 690 * x.toNat ∧ ∃ D', JI D' m s ∧ Sml D' ∧ D'.cnt = x ∧ D'.fac = 1 ∧ D'.tur = 6 ∧ D'.inc = 0 ∧ (∀ a, 0 ≤ a → D'.un a = 1) ∧ ∀ a, 0 ≤ a → D'.cy a = 1) (fun _ x _ _ _ => (2 + n - x).toNat) ?_ ⟨rfl, by decide, by omega, by omega, _, J2, ?_, h0, hf, rfl, hi, hu, hy⟩
  · intro y x m s k C ⟨ey, x0, x1, hk, D1, J, sm, c1, f1, t1, i1, u1, y1⟩ hC
    subst ey
    dsimp only [b51_L_isWritten, s88_L_isWritten, s89_L_isWritten]
    refine ⟨fun q => kin_w (B := 3456) J ⟨by omega, by omega, sm⟩ t1 i1 u1 y1 (by omega) (by omega) hQ, fun q => ⟨fun z => absurd z (by decide), fun _ => ⟨by omega, ?_⟩⟩⟩
    rw [wr_of (x := 20 * x) (by omega) (by omega), wr_of (x := 20 + 20 * x) (by omega) (by omega), wr_of (x := x + 1) (by omega) (by omega)]
    refine ⟨by omega, by omega, addT_w J (by omega) (by rw [f1]; omega) sm (fun D2 i3 r3 J3 c2 f2 t2 u2 y2 i2' sm2 => ?_)⟩
    rw [c1]
    refine ⟨fun _ => hC _ _ _ _ _ ⟨rfl, by omega, by omega, by omega, D2, J3, sm2, by rw [c2, c1], by rw [f2, f1], by rw [t2, t1], by rw [i2', i1], by rw [u2]; exact u1, by rw [y2]; exact y1⟩ (by omega), fun z => absurd rfl z⟩
  · intro k k0 k1
    have k1 : k < D.cnt := k1
    omega
