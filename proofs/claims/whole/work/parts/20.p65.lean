/-! ===== the circuit: what is done in order, by numbers ===== -/
def sg (D : Dat) (n : Int) : St := runS D n.toNat
theorem sg_s {D : Dat} {n : Int} (h : 0 ≤ n) : sg D (n + 1) = oneS D (n % D.cnt) (n / D.cnt) (sg D n) := by
  unfold sg
  rw [show (n + 1).toNat = n.toNat + 1 by omega]
  show oneS D (((n.toNat : Nat) : Int) % D.cnt) (((n.toNat : Nat) : Int) / D.cnt) _ = _
  rw [show ((n.toNat : Nat) : Int) = n by omega]
theorem const_to {α : Type} {f : Int → α} {W : Int → Prop} (hs : ∀ n, 0 ≤ n → ¬ W n → f (n + 1) = f n) {a b : Int} (a0 : 0 ≤ a) (ab : a ≤ b) (no : ∀ n, a ≤ n → n < b → ¬ W n) : f b = f a := by
  have key : ∀ k : Nat, a + k ≤ b → f (a + k) = f a := by
    intro k
    induction k with
    | zero => intro _; rw [show a + ((0 : Nat) : Int) = a by omega]
    | succ k ih =>
      intro h
      rw [show a + ((k + 1 : Nat) : Int) = a + k + 1 by omega, hs _ (by omega) (no _ (by omega) (by omega))]
      exact ih (by omega)
  have := key (b - a).toNat (by omega)
  rw [show a + ((b - a).toNat : Int) = b by omega] at this
  exact this
/-- what a statement's turn writes -/
def RVn (D : Dat) (n : Int) : Int := if D.O (n % D.cnt) = 32 then valS D (n % D.cnt) 1 (n / D.cnt) (sg D n) else cutD D (opS (D.O (n % D.cnt)) (valS D (n % D.cnt) 1 (n / D.cnt) (sg D n)) (valS D (n % D.cnt) 2 (n / D.cnt) (tkS D (n % D.cnt) 1 (sg D n))))
def tkk (D : Dat) (k : Int) (s : St) : St := if D.O k = 32 then tkS D k 1 s else tkS D k 2 (tkS D k 1 s)
theorem sg_w {D : Dat} {n : Int} (h : 0 ≤ n) : sg D (n + 1) = wriS D (n % D.cnt) (n / D.cnt) (RVn D n) (tkk D (n % D.cnt) (sg D n)) := by
  rw [sg_s h]
  unfold oneS RVn tkk
  by_cases o : D.O (n % D.cnt) = 32
  · rw [if_pos o, if_pos o, if_pos o]
  · rw [if_neg o, if_neg o, if_neg o]
theorem tkS_p {D : Dat} {k p : Int} {s : St} : (tkS D k p s).reg = s.reg ∧ (tkS D k p s).mem = s.mem ∧ (tkS D k p s).out = s.out ∧ (tkS D k p s).outs = s.outs ∧ (tkS D k p s).tak = s.tak + if D.F k p = 5 then 1 else 0 := by
  unfold tkS
  by_cases c : D.F k p = 5
  · rw [if_pos c, if_pos c]; exact ⟨rfl, rfl, rfl, rfl, rfl⟩
  · rw [if_neg c, if_neg c]; exact ⟨rfl, rfl, rfl, rfl, by omega⟩
theorem tkk_p {D : Dat} {k : Int} {s : St} : (tkk D k s).reg = s.reg ∧ (tkk D k s).mem = s.mem ∧ (tkk D k s).out = s.out ∧ (tkk D k s).outs = s.outs := by
  unfold tkk
  have a := tkS_p (D := D) (k := k) (p := 1) (s := s)
  have b := tkS_p (D := D) (k := k) (p := 2) (s := tkS D k 1 s)
  by_cases c : D.O k = 32
  · rw [if_pos c]; exact ⟨a.1, a.2.1, a.2.2.1, a.2.2.2.1⟩
  · rw [if_neg c]; exact ⟨b.1.trans a.1, b.2.1.trans a.2.1, b.2.2.1.trans a.2.2.1, b.2.2.2.1.trans a.2.2.2.1⟩
def wMem (D : Dat) (k i a q : Int) : Prop := D.F k 0 = a + 3 ∧ plc (D.T k 0) (D.N k 0) i = q
theorem wri_reg {D : Dat} {k i v r : Int} {s : St} : (wriS D k i v s).reg r = if D.F k 0 = 0 ∧ r = D.N k 0 then v else s.reg r := by
  unfold wriS
  by_cases c : D.F k 0 = 0
  · rw [if_pos c]
    show (if r = D.N k 0 then v else s.reg r) = _
    by_cases d : r = D.N k 0
    · rw [if_pos d, if_pos ⟨c, d⟩]
    · rw [if_neg d, if_neg (fun z => d z.2)]
  · rw [if_neg c, if_neg (show ¬ (D.F k 0 = 0 ∧ r = D.N k 0) from fun z => c z.1)]
    split
    · rfl
    split <;> rfl
theorem wri_mem {D : Dat} {k i v a q : Int} {s : St} (ha : 0 ≤ a ∧ a < 2) (hq : 0 ≤ q ∧ q < 16) : (wMem D k i a q → (wriS D k i v s).mem a q = v) ∧ (¬ wMem D k i a q → (wriS D k i v s).mem a q = s.mem a q) := by
  unfold wriS wMem
  by_cases c : D.F k 0 = 0
  · rw [if_pos c]; exact ⟨fun z => by omega, fun _ => rfl⟩
  rw [if_neg c]
  by_cases d : D.F k 0 = 6
  · rw [if_pos d]; exact ⟨fun z => by omega, fun _ => rfl⟩
  rw [if_neg d]
  by_cases e : 0 ≤ D.F k 0 - 3 ∧ D.F k 0 - 3 < 2 ∧ 0 ≤ plc (D.T k 0) (D.N k 0) i ∧ plc (D.T k 0) (D.N k 0) i < 16
  · rw [if_pos e]
    refine ⟨fun z => ?_, fun z => ?_⟩
    · show (if a = D.F k 0 - 3 ∧ q = plc (D.T k 0) (D.N k 0) i then v else s.mem a q) = v
      rw [if_pos ⟨by omega, z.2.symm⟩]
    · show (if a = D.F k 0 - 3 ∧ q = plc (D.T k 0) (D.N k 0) i then v else s.mem a q) = s.mem a q
      rw [if_neg (fun w => z ⟨by omega, w.2.symm⟩)]
  · rw [if_neg e]
    exact ⟨fun z => absurd ⟨by omega, by omega, by omega, by omega⟩ e, fun _ => rfl⟩
theorem wri_out {D : Dat} {k i v : Int} {s : St} : (D.F k 0 = 6 → (wriS D k i v s).outs = s.outs + 1 ∧ ∀ x, (wriS D k i v s).out x = if x = s.outs then v else s.out x) ∧ (D.F k 0 ≠ 6 → (wriS D k i v s).outs = s.outs ∧ (wriS D k i v s).out = s.out) := by
  unfold wriS
  by_cases c : D.F k 0 = 0
  · rw [if_pos c]; exact ⟨fun z => by omega, fun _ => ⟨rfl, rfl⟩⟩
  rw [if_neg c]
  by_cases d : D.F k 0 = 6
  · rw [if_pos d]; exact ⟨fun _ => ⟨rfl, fun x => rfl⟩, fun z => absurd d z⟩
  rw [if_neg d]
  refine ⟨fun z => absurd z d, fun _ => ?_⟩
  split <;> exact ⟨rfl, rfl⟩
theorem wri_tak {D : Dat} {k i v : Int} {s : St} : (wriS D k i v s).tak = s.tak := by
  unfold wriS
  split
  · rfl
  split
  · rfl
  split <;> rfl
theorem sg_reg {D : Dat} {n : Int} (h : 0 ≤ n) (r : Int) : (sg D (n + 1)).reg r = if D.F (n % D.cnt) 0 = 0 ∧ r = D.N (n % D.cnt) 0 then RVn D n else (sg D n).reg r := by
  rw [sg_w h, wri_reg, tkk_p.1]
theorem sg_mem {D : Dat} {n a q : Int} (h : 0 ≤ n) (ha : 0 ≤ a ∧ a < 2) (hq : 0 ≤ q ∧ q < 16) : (wMem D (n % D.cnt) (n / D.cnt) a q → (sg D (n + 1)).mem a q = RVn D n) ∧ (¬ wMem D (n % D.cnt) (n / D.cnt) a q → (sg D (n + 1)).mem a q = (sg D n).mem a q) := by
  rw [sg_w h]
  have w := wri_mem (D := D) (k := n % D.cnt) (i := n / D.cnt) (v := RVn D n) (s := tkk D (n % D.cnt) (sg D n)) ha hq
  rw [tkk_p.2.1] at w
  exact w
theorem sg_out {D : Dat} {n : Int} (h : 0 ≤ n) : (D.F (n % D.cnt) 0 = 6 → (sg D (n + 1)).outs = (sg D n).outs + 1 ∧ ∀ x, (sg D (n + 1)).out x = if x = (sg D n).outs then RVn D n else (sg D n).out x) ∧ (D.F (n % D.cnt) 0 ≠ 6 → (sg D (n + 1)).outs = (sg D n).outs ∧ (sg D (n + 1)).out = (sg D n).out) := by
  rw [sg_w h]
  have w := wri_out (D := D) (k := n % D.cnt) (i := n / D.cnt) (v := RVn D n) (s := tkk D (n % D.cnt) (sg D n))
  rw [tkk_p.2.2.1, tkk_p.2.2.2] at w
  exact w
/-- takes: places 2n and 2n+1 are the two operands of statement n -/
def TK (D : Dat) (P : Int) : Int := if P % 2 = 0 then (sg D (P / 2)).tak else (tkS D (P / 2 % D.cnt) 1 (sg D (P / 2))).tak
def isTk (D : Dat) (P : Int) : Prop := if P % 2 = 0 then D.F (P / 2 % D.cnt) 1 = 5 else D.O (P / 2 % D.cnt) ≠ 32 ∧ D.F (P / 2 % D.cnt) 2 = 5
theorem TK_s {D : Dat} {P : Int} (h : 0 ≤ P) : (isTk D P → TK D (P + 1) = TK D P + 1) ∧ (¬ isTk D P → TK D (P + 1) = TK D P) := by
  unfold TK isTk
  by_cases e : P % 2 = 0
  · rw [if_pos e, if_pos e, if_neg (by omega), show (P + 1) / 2 = P / 2 by omega, tkS_p.2.2.2.2]
    exact ⟨fun z => by rw [if_pos z], fun z => by rw [if_neg z]; omega⟩
  · rw [if_neg e, if_neg e, if_pos (show (P + 1) % 2 = 0 by omega), show (P + 1) / 2 = P / 2 + 1 by omega, sg_w (by omega), wri_tak]
    unfold tkk
    by_cases o : D.O (P / 2 % D.cnt) = 32
    · rw [if_pos o]
      exact ⟨fun z => absurd o z.1, fun _ => rfl⟩
    · rw [if_neg o, (tkS_p (p := 2)).2.2.2.2]
      exact ⟨fun z => by rw [if_pos z.2], fun z => by rw [if_neg (fun w => z ⟨o, w⟩)]; omega⟩
