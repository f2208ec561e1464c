/-! ===== places: the class ===== -/
def FPl (i i' : MI) : Prop := ∀ a, a ≠ 470 → a ≠ 471 → (a < 473 ∨ 479 < a) → i' a = i a
theorem FPl.refl (i : MI) : FPl i i := fun _ _ _ _ => rfl
theorem FPl.trans {i j k : MI} (h : FPl i j) (g : FPl j k) : FPl i k := fun a x y z => (g a x y z).trans (h a x y z)
theorem FPl.s0 {k v : Int} {i : MI} : FPl i (st i 470 k v) := fun b x _ _ => st_row x
theorem FPl.s1 {k v : Int} {i : MI} : FPl i (st i 471 k v) := fun b _ x _ => st_row x
theorem FPl.sb {c k v : Int} {i : MI} (h : 0 ≤ c ∧ c < 7) : FPl i (st i (473 + c) k v) := fun b _ _ x => st_row (by omega)
theorem FPl.fl {i i' : MI} (h : FPl i i') : ∀ a, a < 462 → i' a = i a := fun a q => h a (by omega) (by omega) (by omega)
def LsP (D : Dat) (T : Int) (p l : Int → Int) (n : Int) (P : RS) : Prop := ∀ v, n ≤ v → v < nn D → 0 ≤ l v ∧ (∀ u d w, Ed D u v d w → P u v d w → p u + w - T * d ≤ l v) ∧ (l v = 0 ∨ ∃ u d w, Ed D u v d w ∧ P u v d w ∧ l v = p u + w - T * d)
theorem LsP.iff {D : Dat} {T n : Int} {p l : Int → Int} {P R : RS} (h : LsP D T p l n P) (e : ∀ u v d w, Ed D u v d w → (P u v d w ↔ R u v d w)) : LsP D T p l n R := by
  intro v a b
  obtain ⟨h0, h1, h2⟩ := h v a b
  refine ⟨h0, fun u d w ed r => h1 u d w ed ((e u v d w ed).2 r), h2.imp id ?_⟩
  rintro ⟨u, d, w, ed, r, z⟩
  exact ⟨u, d, w, ed, (e u v d w ed).1 r, z⟩
def CPl (D : Dat) (T : Int) (m : MI) (n : Int) : Prop := (PlU D T (m 470) n) ∧ (LsP D T (m 470) (m 471) n (fun u _ _ _ => u < n)) ∧ (∀ k rest, 0 ≤ k → k < 7 → 0 ≤ rest → rest < T → CntP (UseP D T (m 470) k rest) n.toNat (m (473 + k) rest))
theorem CPl.pl {D : Dat} {T : Int} {m : MI} {n : Int} (h0 : CPl D T m n) : PlU D T (m 470) n := h0.1
theorem CPl.ls {D : Dat} {T : Int} {m : MI} {n : Int} (h0 : CPl D T m n) : LsP D T (m 470) (m 471) n (fun u _ _ _ => u < n) := h0.2.1
theorem CPl.bg {D : Dat} {T : Int} {m : MI} {n : Int} (h0 : CPl D T m n) : ∀ k rest, 0 ≤ k → k < 7 → 0 ≤ rest → rest < T → CntP (UseP D T (m 470) k rest) n.toNat (m (473 + k) rest) := h0.2.2
theorem CPl.mk {D : Dat} {T : Int} {m : MI} {n : Int} (h0 : PlU D T (m 470) n) (h1 : LsP D T (m 470) (m 471) n (fun u _ _ _ => u < n)) (h2 : ∀ k rest, 0 ≤ k → k < 7 → 0 ≤ rest → rest < T → CntP (UseP D T (m 470) k rest) n.toNat (m (473 + k) rest)) : CPl D T m n := ⟨h0, h1, h2⟩
theorem CPl.fr {D : Dat} {T n : Int} {m : MI} (h : CPl D T m n) (hn : 0 ≤ n ∧ n < nn D) : FromP D T (m 470) n (m 471 n) := by
  obtain ⟨h0, h1, h2⟩ := h.ls n (Int.le_refl _) hn.2
  exact ⟨h0, h1, h2⟩
theorem rest_w {i r : MI} {s T : Int} {Q : Int → Prop} (hT : i 469 5 = T) (h1 : 1 ≤ T ∧ T ≤ 481) (hs : 0 ≤ s) (hQ : 0 ≤ Int.tmod s T → Int.tmod s T < T → Q (Int.tmod s T)) : wp_X4_restOf s i r Q := by
  unfold wp_X4_restOf s17_X4_restOf s34_X4_restOf wp_X11_isWithin s14_X11_isWithin s15_X11_isWithin
  rw [hT]
  have a : 0 ≤ Int.tmod s T := Int.tmod_nonneg _ hs
  have b : Int.tmod s T < T := Int.tmod_lt_of_pos _ (by omega)
  exact ⟨fun q => by omega, fun _ => ⟨by omega, fun q => by omega, fun _ => ⟨fun q => by omega, fun _ => ⟨.inr rfl, fun q => absurd q (by decide), fun _ => hQ a b⟩⟩⟩⟩
theorem findStep_w {D : Dat} (ok : DOk D) {i r : MI} {T n : Int} {Q : Int → Prop} (g : M2 D i) (hT : i 469 5 = T) (t1 : 1 ≤ T ∧ T ≤ 480) (hn : 0 ≤ n ∧ n < nn D) (c : CPl D T i n) (h1 : ∀ a s, PutP D T (i 470) n a s → Q s) (h0 : StuckP D T (i 470) n → Q (-1)) : wp_X4_findStep n (kdv D n) (D.un (kdv D n)) i r Q := by
  have nl := nn_le ok
  have kr := kdv_r ok hn
  have fr := c.fr hn
  have ab := from_b ok (T := T) (by omega) ⟨hn.1, by omega⟩ c.pl fr
  have pb := pl_b ok (T := T) (by omega) (n := n) (by omega) c.pl
  have gz := g.z n hn.1 (by omega)
  unfold wp_X4_findStep
  rw [hT, wr_of (x := i 471 n + T) (by omega) (by omega), wr_of (x := i 471 n + T - 1) (by omega) (by omega)]
  refine ⟨by omega, ?_⟩
  refine Lp.r2 (fun (x e : Int) => 0 ≤ e ∧ e ≤ i 460 n ∧ -10 ≤ x ∧ x ≤ 50000 ∧ ∀ s, s ≤ x ↔ s ≤ i 471 n + T - 1 ∧ ∀ e', 0 ≤ e' → e' < e → i (170 + n) e' < n → s + i (364 + n) e' - T * i (267 + n) e' ≤ i 470 (i (170 + n) e')) (fun _ e => (i 460 n - e).toNat) ?_ ⟨by decide, by omega, by omega, by omega, fun s => ⟨fun a => ⟨a, fun e a b => by omega⟩, fun a => a.1⟩⟩
  intro x e C ⟨e0, e1, x0, x1, hx⟩ hC
  dsimp only [b22_X4_findStep, s93_X4_findStep]
  refine ⟨by omega, fun q => ?_, fun q => ?_⟩
  · have hB : ∀ s, s ≤ x ↔ s ≤ i 471 n + T - 1 ∧ BackP D T (i 470) n s := by
      intro s
      rw [hx s]
      refine and_congr_right (fun _ => ⟨fun a t d w ed l => ?_, fun a e' a0 a1 l => ?_⟩)
      · obtain ⟨e', z0, z1, z2, z3, z4⟩ := GrC.fd ok g ed
        have := a e' z0 (by omega) (by rw [z2]; exact l)
        rw [z2, z3, z4] at this
        exact this
      · exact a _ _ _ (GrC.ed ok g hn ⟨a0, by omega⟩) l
    refine Lp.rule (fun (s : Int) => i 471 n ≤ s ∧ s ≤ 60000 ∧ (∀ c, i 471 n ≤ c → c < s → ¬ FitP D T (i 470) n c)) (fun s => (60001 - s).toNat) ?_ _ ⟨Int.le_refl _, by omega, fun c a b => by omega⟩
    intro s C2 ⟨s0, s1, no⟩ hC2
    dsimp only [b103_X4_findStep]
    refine ⟨fun q2 => h0 ⟨_, fr, fun c' a b z => ?_⟩, fun q2 => ⟨kr, ?_⟩⟩
    · by_cases w : c' < s
      · exact no c' a w z
      · have := (hB c').2 ⟨by omega, z.1⟩
        omega
    · refine rest_w hT (by omega) (by omega) (fun r0 r1 => ⟨by omega, fun q3 => ?_, fun q3 => ?_⟩)
      · rw [wr_of (x := s + 1) (by omega) (by omega)]
        refine hC2 _ ⟨by omega, by omega, fun c' a b z => ?_⟩ (by omega)
        by_cases w : c' = s
        · rw [w] at z
          obtain ⟨y, hy, yl⟩ := z.2
          have := CntP.uniq _ _ _ hy (c.bg _ _ kr.1 kr.2 r0 r1)
          omega
        · exact no c' a (by omega) z
      · have := (hB s).1 (by omega)
        exact h1 _ s ⟨fr, s0, by omega, ⟨this.2, _, c.bg _ _ kr.1 kr.2 r0 r1, by omega⟩, no⟩
  · have ed := GrC.ed ok g (f := n) (e := e) hn ⟨e0, by omega⟩
    obtain ⟨_, ⟨t0, t1'⟩, d0, d1, _, w0, w1⟩ := ed_props ok ed
    have td := td_b (T := T) (by omega) ⟨d0, d1⟩
    have cx := cyv_r ok (v := n) hn
    rw [wr_of (x := e + 1) (by omega) (by omega)]
    refine ⟨by omega, by omega, fun q2 => ?_, fun q2 => ⟨by omega, by omega, by omega, by omega, by omega, ?_⟩⟩
    · refine hC _ _ ⟨by omega, by omega, x0, x1, fun s => ?_⟩ (by omega)
      rw [hx s]
      refine and_congr_right (fun _ => ⟨fun a e' a0 a1 l => ?_, fun a e' a0 a1 l => a e' a0 (by omega) l⟩)
      by_cases w : e' = e
      · rw [w] at l; omega
      · exact a e' a0 (by omega) l
    · have pt := pb _ t0 (by omega)
      rw [hT, wr_of (x := T * i (267 + n) e) (by omega) (by omega), wr_of (x := i 470 (i (170 + n) e) + T * i (267 + n) e) (by omega) (by omega), wr_of (x := i 470 (i (170 + n) e) + T * i (267 + n) e - i (364 + n) e) (by omega) (by omega)]
      refine hC _ _ ⟨by omega, by omega, by omega, by omega, fun s => ?_⟩ (by omega)
      have m1 : s ≤ min x (i 470 (i (170 + n) e) + T * i (267 + n) e - i (364 + n) e) ↔ s ≤ x ∧ s + i (364 + n) e - T * i (267 + n) e ≤ i 470 (i (170 + n) e) := by omega
      rw [m1, hx s]
      constructor
      · rintro ⟨⟨a, b⟩, z⟩
        refine ⟨a, fun e' a0 a1 l => ?_⟩
        by_cases w : e' = e
        · rw [w]; exact z
        · exact b e' a0 (by omega) l
      · rintro ⟨a, b⟩
        exact ⟨⟨a, fun e' a0 a1 l => b e' a0 (by omega) l⟩, b e e0 (by omega) (by omega)⟩
