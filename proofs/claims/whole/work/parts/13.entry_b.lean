/-! ===== the texts and the statics at the law's entry ===== -/
theorem en_l {args : Array Value} {s : State} {a b : Cond} (h : (Cond.and a b).before args s = true) : a.before args s = true := by
  rw [Cond.before_and, Bool.and_eq_true] at h
  exact h.1
theorem en_r {args : Array Value} {s : State} {a b : Cond} (h : (Cond.and a b).before args s = true) : b.before args s = true := by
  rw [Cond.before_and, Bool.and_eq_true] at h
  exact h.2
theorem en_eq {args : Array Value} {s : State} {a b : Term} {x : Nat} (h : (Cond.eq a b).before args s = true) (ha : a.eval args s none [] s = some (.ref x)) : b.eval args s none [] s = some (.ref x) := by
  simp only [Cond.before, Cond.holds, Cond.value, ha] at h
  cases hb : b.eval args s none [] s with
  | none => simp [hb] at h
  | some v => cases v <;> simp_all
theorem en_ne {args : Array Value} {s : State} {ti tj : Term} {x y : Int32} (F : Term → Term) (hF : ∀ t t' : Term, t.eval args s none [] s = t'.eval args s none [] s → (F t).eval args s none [] s = (F t').eval args s none [] s) (h1 : (Cond.exactly ti "java/lang/String").before args s = true) (h2 : (Cond.exactly tj "java/lang/String").before args s = true) (l1 : (Cond.eq (F ti) (.int x)).before args s = true) (l2 : (Cond.eq (F tj) (.int y)).before args s = true) (hxy : x ≠ y) : (Cond.not (Cond.eq ti tj)).before args s = true := by
  obtain ⟨a, _, _, _, e1, -⟩ := Cond.exactly_spec (args := args) (first := s) (o := none) (s := s) (idx := []) h1
  obtain ⟨b, _, _, _, e2, -⟩ := Cond.exactly_spec (args := args) (first := s) (o := none) (s := s) (idx := []) h2
  have v1 := va_eqt l1
  have v2 := va_eqt l2
  have hab : a ≠ b := by
    intro e
    subst e
    have h := hF ti tj (e1.trans e2.symm)
    rw [v1, v2] at h
    exact hxy (by injection h with t; injection t)
  simp [Cond.before, Cond.holds, Cond.value, e1, e2, hab]
def enT (i : Nat) : Term := [Term.string "Schedulary" 80, Term.string "Schedulary$Text" 56, Term.string "Schedulary$Text" 77, Term.string "Schedulary$Pace" 116, Term.string "SchedularyModel" 134].getD i (Term.string "Schedulary" 80)
set_option maxRecDepth 100000 in
theorem en_str {args : Array Value} {s : State} (hn : narrow_1.before args s = true) {A : Nat → Prop} (hA : ∀ a : Nat, a < s.heap.size → ¬ A a) : ∃ adK adV : Nat → Nat, vk_S nST lenST bytST adK adV A s s.heap ∧ ∀ i : Nat, i < nST → (enT i).eval args s none [] s = some (.ref (adK i)) := by
  refine vk_Sof (tm := enT) (fun i hi => ?_) (fun i hi => ?_) (fun i hi => ?_) (fun i hi => ?_) (fun i hi => ?_) (fun i hi j hj => ?_) (fun i j hi hj hij => ?_) hA
  all_goals (have hi : i < 5 := hi)
  · match i, hi with
    | 0, _ => exact (by decide)
    | 1, _ => exact (by decide)
    | 2, _ => exact (by decide)
    | 3, _ => exact (by decide)
    | 4, _ => exact (by decide)
    | k + 5, h => omega
  · match i, hi with
    | 0, _ => exact (en_r (en_r (en_l (en_r (en_l (en_r (en_l (en_r (en_l (en_l hn))))))))))
    | 1, _ => exact (en_l (en_r (en_l (en_l (en_r (en_l (en_l (en_r (en_l (en_l hn))))))))))
    | 2, _ => exact (en_r (en_r (en_l (en_r (en_l (en_l (en_l (en_r (en_l (en_l hn))))))))))
    | 3, _ => exact (en_l (en_r (en_r (en_r (en_r (en_l (en_l (en_r (en_l (en_l hn))))))))))
    | 4, _ => exact (en_l (en_r (en_r (en_l (en_l (en_l (en_r (en_r (en_r (en_r hn))))))))))
    | k + 5, h => omega
  · match i, hi with
    | 0, _ => exact (en_l (en_l (en_r (en_r (en_l (en_r (en_l (en_r (en_l (en_l hn))))))))))
    | 1, _ => exact (en_r (en_r (en_l (en_l (en_r (en_l (en_l (en_r (en_l (en_l hn))))))))))
    | 2, _ => exact (en_l (en_l (en_r (en_r (en_l (en_l (en_l (en_r (en_l (en_l hn))))))))))
    | 3, _ => exact (en_r (en_r (en_r (en_r (en_r (en_l (en_l (en_r (en_l (en_l hn))))))))))
    | 4, _ => exact (en_r (en_r (en_r (en_l (en_l (en_l (en_r (en_r (en_r (en_r hn))))))))))
    | k + 5, h => omega
  · match i, hi with
    | 0, _ => exact (en_r (en_l (en_r (en_r (en_l (en_r (en_l (en_r (en_l (en_l hn))))))))))
    | 1, _ => exact (en_l (en_l (en_r (en_l (en_r (en_l (en_l (en_r (en_l (en_l hn))))))))))
    | 2, _ => exact (en_r (en_l (en_r (en_r (en_l (en_l (en_l (en_r (en_l (en_l hn))))))))))
    | 3, _ => exact (en_l (en_l (en_l (en_l (en_r (en_l (en_r (en_l (en_l hn)))))))))
    | 4, _ => exact (en_l (en_l (en_r (en_l (en_l (en_r (en_r (en_r (en_r hn)))))))))
    | k + 5, h => omega
  · match i, hi with
    | 0, _ => exact (en_l (en_r (en_r (en_r (en_l (en_r (en_l (en_r (en_l (en_l hn))))))))))
    | 1, _ => exact (en_r (en_l (en_r (en_l (en_r (en_l (en_l (en_r (en_l (en_l hn))))))))))
    | 2, _ => exact (en_l (en_r (en_r (en_r (en_l (en_l (en_l (en_r (en_l (en_l hn))))))))))
    | 3, _ => exact (en_l (en_r (en_l (en_l (en_l (en_r (en_l (en_r (en_l (en_l hn))))))))))
    | 4, _ => exact (en_l (en_r (en_l (en_r (en_l (en_l (en_r (en_r (en_r (en_r hn))))))))))
    | k + 5, h => omega
  · match i, hi with
    | 0, _ =>
      have hj : j < 33 := hj
      match j, hj with
      | 0, _ => exact (en_r (en_r (en_r (en_r (en_l (en_r (en_l (en_r (en_l (en_l hn))))))))))
      | 1, _ => exact (en_l (en_l (en_l (en_r (en_r (en_l (en_r (en_l (en_l hn)))))))))
      | 2, _ => exact (en_l (en_r (en_l (en_l (en_r (en_r (en_l (en_r (en_l (en_l hn))))))))))
      | 3, _ => exact (en_r (en_r (en_l (en_l (en_r (en_r (en_l (en_r (en_l (en_l hn))))))))))
      | 4, _ => exact (en_l (en_l (en_r (en_l (en_r (en_r (en_l (en_r (en_l (en_l hn))))))))))
      | 5, _ => exact (en_r (en_l (en_r (en_l (en_r (en_r (en_l (en_r (en_l (en_l hn))))))))))
      | 6, _ => exact (en_l (en_r (en_r (en_l (en_r (en_r (en_l (en_r (en_l (en_l hn))))))))))
      | 7, _ => exact (en_r (en_r (en_r (en_l (en_r (en_r (en_l (en_r (en_l (en_l hn))))))))))
      | 8, _ => exact (en_l (en_l (en_l (en_r (en_r (en_r (en_l (en_r (en_l (en_l hn))))))))))
      | 9, _ => exact (en_r (en_l (en_l (en_r (en_r (en_r (en_l (en_r (en_l (en_l hn))))))))))
      | 10, _ => exact (en_l (en_r (en_l (en_r (en_r (en_r (en_l (en_r (en_l (en_l hn))))))))))
      | 11, _ => exact (en_r (en_r (en_l (en_r (en_r (en_r (en_l (en_r (en_l (en_l hn))))))))))
      | 12, _ => exact (en_l (en_l (en_r (en_r (en_r (en_r (en_l (en_r (en_l (en_l hn))))))))))
      | 13, _ => exact (en_r (en_l (en_r (en_r (en_r (en_r (en_l (en_r (en_l (en_l hn))))))))))
      | 14, _ => exact (en_l (en_r (en_r (en_r (en_r (en_r (en_l (en_r (en_l (en_l hn))))))))))
      | 15, _ => exact (en_r (en_r (en_r (en_r (en_r (en_r (en_l (en_r (en_l (en_l hn))))))))))
      | 16, _ => exact (en_l (en_l (en_l (en_l (en_l (en_r (en_r (en_l (en_l hn)))))))))
      | 17, _ => exact (en_l (en_r (en_l (en_l (en_l (en_l (en_r (en_r (en_l (en_l hn))))))))))
      | 18, _ => exact (en_r (en_r (en_l (en_l (en_l (en_l (en_r (en_r (en_l (en_l hn))))))))))
      | 19, _ => exact (en_l (en_l (en_r (en_l (en_l (en_l (en_r (en_r (en_l (en_l hn))))))))))
      | 20, _ => exact (en_r (en_l (en_r (en_l (en_l (en_l (en_r (en_r (en_l (en_l hn))))))))))
      | 21, _ => exact (en_l (en_r (en_r (en_l (en_l (en_l (en_r (en_r (en_l (en_l hn))))))))))
      | 22, _ => exact (en_r (en_r (en_r (en_l (en_l (en_l (en_r (en_r (en_l (en_l hn))))))))))
      | 23, _ => exact (en_l (en_l (en_r (en_l (en_l (en_r (en_r (en_l (en_l hn)))))))))
      | 24, _ => exact (en_l (en_r (en_l (en_r (en_l (en_l (en_r (en_r (en_l (en_l hn))))))))))
      | 25, _ => exact (en_r (en_r (en_l (en_r (en_l (en_l (en_r (en_r (en_l (en_l hn))))))))))
      | 26, _ => exact (en_l (en_l (en_r (en_r (en_l (en_l (en_r (en_r (en_l (en_l hn))))))))))
      | 27, _ => exact (en_r (en_l (en_r (en_r (en_l (en_l (en_r (en_r (en_l (en_l hn))))))))))
      | 28, _ => exact (en_l (en_r (en_r (en_r (en_l (en_l (en_r (en_r (en_l (en_l hn))))))))))
      | 29, _ => exact (en_r (en_r (en_r (en_r (en_l (en_l (en_r (en_r (en_l (en_l hn))))))))))
      | 30, _ => exact (en_l (en_l (en_l (en_r (en_l (en_r (en_r (en_l (en_l hn)))))))))
      | 31, _ => exact (en_l (en_r (en_l (en_l (en_r (en_l (en_r (en_r (en_l (en_l hn))))))))))
      | 32, _ => exact (en_r (en_r (en_l (en_l (en_r (en_l (en_r (en_r (en_l (en_l hn))))))))))
      | k + 33, h => omega
    | 1, _ =>
      have hj : j < 7 := hj
      match j, hj with
      | 0, _ => exact (en_l (en_r (en_r (en_l (en_r (en_l (en_l (en_r (en_l (en_l hn))))))))))
      | 1, _ => exact (en_r (en_r (en_r (en_l (en_r (en_l (en_l (en_r (en_l (en_l hn))))))))))
      | 2, _ => exact (en_l (en_l (en_r (en_r (en_l (en_l (en_r (en_l (en_l hn)))))))))
      | 3, _ => exact (en_l (en_r (en_l (en_r (en_r (en_l (en_l (en_r (en_l (en_l hn))))))))))
      | 4, _ => exact (en_r (en_r (en_l (en_r (en_r (en_l (en_l (en_r (en_l (en_l hn))))))))))
      | 5, _ => exact (en_l (en_l (en_r (en_r (en_r (en_l (en_l (en_r (en_l (en_l hn))))))))))
      | 6, _ => exact (en_r (en_l (en_r (en_r (en_r (en_l (en_l (en_r (en_l (en_l hn))))))))))
      | k + 7, h => omega
    | 2, _ =>
      have hj : j < 2 := hj
      match j, hj with
      | 0, _ => exact (en_r (en_r (en_r (en_r (en_l (en_l (en_l (en_r (en_l (en_l hn))))))))))
      | 1, _ => exact (en_l (en_l (en_l (en_r (en_l (en_l (en_r (en_l (en_l hn)))))))))
      | k + 2, h => omega
    | 3, _ =>
      have hj : j < 7 := hj
      match j, hj with
      | 0, _ => exact (en_r (en_r (en_l (en_l (en_l (en_r (en_l (en_r (en_l (en_l hn))))))))))
      | 1, _ => exact (en_l (en_l (en_r (en_l (en_l (en_r (en_l (en_r (en_l (en_l hn))))))))))
      | 2, _ => exact (en_r (en_l (en_r (en_l (en_l (en_r (en_l (en_r (en_l (en_l hn))))))))))
      | 3, _ => exact (en_l (en_r (en_r (en_l (en_l (en_r (en_l (en_r (en_l (en_l hn))))))))))
      | 4, _ => exact (en_r (en_r (en_r (en_l (en_l (en_r (en_l (en_r (en_l (en_l hn))))))))))
      | 5, _ => exact (en_l (en_l (en_r (en_l (en_r (en_l (en_r (en_l (en_l hn)))))))))
      | 6, _ => exact (en_l (en_r (en_l (en_r (en_l (en_r (en_l (en_r (en_l (en_l hn))))))))))
      | k + 7, h => omega
    | 4, _ =>
      have hj : j < 23 := hj
      match j, hj with
      | 0, _ => exact (en_r (en_r (en_l (en_r (en_l (en_l (en_r (en_r (en_r (en_r hn))))))))))
      | 1, _ => exact (en_l (en_l (en_r (en_r (en_l (en_l (en_r (en_r (en_r (en_r hn))))))))))
      | 2, _ => exact (en_r (en_l (en_r (en_r (en_l (en_l (en_r (en_r (en_r (en_r hn))))))))))
      | 3, _ => exact (en_l (en_r (en_r (en_r (en_l (en_l (en_r (en_r (en_r (en_r hn))))))))))
      | 4, _ => exact (en_r (en_r (en_r (en_r (en_l (en_l (en_r (en_r (en_r (en_r hn))))))))))
      | 5, _ => exact (en_l (en_l (en_l (en_r (en_l (en_r (en_r (en_r (en_r hn)))))))))
      | 6, _ => exact (en_l (en_r (en_l (en_l (en_r (en_l (en_r (en_r (en_r (en_r hn))))))))))
      | 7, _ => exact (en_r (en_r (en_l (en_l (en_r (en_l (en_r (en_r (en_r (en_r hn))))))))))
      | 8, _ => exact (en_l (en_l (en_r (en_l (en_r (en_l (en_r (en_r (en_r (en_r hn))))))))))
      | 9, _ => exact (en_r (en_l (en_r (en_l (en_r (en_l (en_r (en_r (en_r (en_r hn))))))))))
      | 10, _ => exact (en_l (en_r (en_r (en_l (en_r (en_l (en_r (en_r (en_r (en_r hn))))))))))
      | 11, _ => exact (en_r (en_r (en_r (en_l (en_r (en_l (en_r (en_r (en_r (en_r hn))))))))))
      | 12, _ => exact (en_l (en_l (en_r (en_r (en_l (en_r (en_r (en_r (en_r hn)))))))))
      | 13, _ => exact (en_l (en_r (en_l (en_r (en_r (en_l (en_r (en_r (en_r (en_r hn))))))))))
      | 14, _ => exact (en_r (en_r (en_l (en_r (en_r (en_l (en_r (en_r (en_r (en_r hn))))))))))
      | 15, _ => exact (en_l (en_l (en_r (en_r (en_r (en_l (en_r (en_r (en_r (en_r hn))))))))))
      | 16, _ => exact (en_r (en_l (en_r (en_r (en_r (en_l (en_r (en_r (en_r (en_r hn))))))))))
      | 17, _ => exact (en_l (en_r (en_r (en_r (en_r (en_l (en_r (en_r (en_r (en_r hn))))))))))
      | 18, _ => exact (en_r (en_r (en_r (en_r (en_r (en_l (en_r (en_r (en_r (en_r hn))))))))))
      | 19, _ => exact (en_l (en_l (en_l (en_l (en_r (en_r (en_r (en_r (en_r hn)))))))))
      | 20, _ => exact (en_l (en_r (en_l (en_l (en_l (en_r (en_r (en_r (en_r (en_r hn))))))))))
      | 21, _ => exact (en_r (en_r (en_l (en_l (en_l (en_r (en_r (en_r (en_r (en_r hn))))))))))
      | 22, _ => exact (en_l (en_l (en_r (en_l (en_l (en_r (en_r (en_r (en_r (en_r hn))))))))))
      | k + 23, h => omega
    | k + 5, h => omega
  · have hj : j < 5 := hj
    match i, hi, j, hj with
    | 0, _, 0, _ => exact absurd rfl hij
    | 0, _, 1, _ => exact Or.inl (en_ne (fun t => .length (.field t "java/lang/String" "value" "[B")) (fun t t' e => by simp only [Term.eval, e]) (en_r (en_r (en_l (en_r (en_l (en_r (en_l (en_r (en_l (en_l hn)))))))))) (en_l (en_r (en_l (en_l (en_r (en_l (en_l (en_r (en_l (en_l hn)))))))))) (en_l (en_r (en_r (en_r (en_l (en_r (en_l (en_r (en_l (en_l hn)))))))))) (en_r (en_l (en_r (en_l (en_r (en_l (en_l (en_r (en_l (en_l hn)))))))))) (by decide))
    | 0, _, 2, _ => exact Or.inl (en_ne (fun t => .length (.field t "java/lang/String" "value" "[B")) (fun t t' e => by simp only [Term.eval, e]) (en_r (en_r (en_l (en_r (en_l (en_r (en_l (en_r (en_l (en_l hn)))))))))) (en_r (en_r (en_l (en_r (en_l (en_l (en_l (en_r (en_l (en_l hn)))))))))) (en_l (en_r (en_r (en_r (en_l (en_r (en_l (en_r (en_l (en_l hn)))))))))) (en_l (en_r (en_r (en_r (en_l (en_l (en_l (en_r (en_l (en_l hn)))))))))) (by decide))
    | 0, _, 3, _ => exact Or.inl (en_ne (fun t => .length (.field t "java/lang/String" "value" "[B")) (fun t t' e => by simp only [Term.eval, e]) (en_r (en_r (en_l (en_r (en_l (en_r (en_l (en_r (en_l (en_l hn)))))))))) (en_l (en_r (en_r (en_r (en_r (en_l (en_l (en_r (en_l (en_l hn)))))))))) (en_l (en_r (en_r (en_r (en_l (en_r (en_l (en_r (en_l (en_l hn)))))))))) (en_l (en_r (en_l (en_l (en_l (en_r (en_l (en_r (en_l (en_l hn)))))))))) (by decide))
    | 0, _, 4, _ => exact Or.inl (en_ne (fun t => .length (.field t "java/lang/String" "value" "[B")) (fun t t' e => by simp only [Term.eval, e]) (en_r (en_r (en_l (en_r (en_l (en_r (en_l (en_r (en_l (en_l hn)))))))))) (en_l (en_r (en_r (en_l (en_l (en_l (en_r (en_r (en_r (en_r hn)))))))))) (en_l (en_r (en_r (en_r (en_l (en_r (en_l (en_r (en_l (en_l hn)))))))))) (en_l (en_r (en_l (en_r (en_l (en_l (en_r (en_r (en_r (en_r hn)))))))))) (by decide))
    | 1, _, 0, _ => exact Or.inl (en_ne (fun t => .length (.field t "java/lang/String" "value" "[B")) (fun t t' e => by simp only [Term.eval, e]) (en_l (en_r (en_l (en_l (en_r (en_l (en_l (en_r (en_l (en_l hn)))))))))) (en_r (en_r (en_l (en_r (en_l (en_r (en_l (en_r (en_l (en_l hn)))))))))) (en_r (en_l (en_r (en_l (en_r (en_l (en_l (en_r (en_l (en_l hn)))))))))) (en_l (en_r (en_r (en_r (en_l (en_r (en_l (en_r (en_l (en_l hn)))))))))) (by decide))
    | 1, _, 1, _ => exact absurd rfl hij
    | 1, _, 2, _ => exact Or.inl (en_ne (fun t => .length (.field t "java/lang/String" "value" "[B")) (fun t t' e => by simp only [Term.eval, e]) (en_l (en_r (en_l (en_l (en_r (en_l (en_l (en_r (en_l (en_l hn)))))))))) (en_r (en_r (en_l (en_r (en_l (en_l (en_l (en_r (en_l (en_l hn)))))))))) (en_r (en_l (en_r (en_l (en_r (en_l (en_l (en_r (en_l (en_l hn)))))))))) (en_l (en_r (en_r (en_r (en_l (en_l (en_l (en_r (en_l (en_l hn)))))))))) (by decide))
    | 1, _, 3, _ => exact Or.inl (en_ne (fun t => .elem (.field t "java/lang/String" "value" "[B") (.int 0)) (fun t t' e => by simp only [Term.eval, e]) (en_l (en_r (en_l (en_l (en_r (en_l (en_l (en_r (en_l (en_l hn)))))))))) (en_l (en_r (en_r (en_r (en_r (en_l (en_l (en_r (en_l (en_l hn)))))))))) (en_l (en_r (en_r (en_l (en_r (en_l (en_l (en_r (en_l (en_l hn)))))))))) (en_r (en_r (en_l (en_l (en_l (en_r (en_l (en_r (en_l (en_l hn)))))))))) (by decide))
    | 1, _, 4, _ => exact Or.inl (en_ne (fun t => .length (.field t "java/lang/String" "value" "[B")) (fun t t' e => by simp only [Term.eval, e]) (en_l (en_r (en_l (en_l (en_r (en_l (en_l (en_r (en_l (en_l hn)))))))))) (en_l (en_r (en_r (en_l (en_l (en_l (en_r (en_r (en_r (en_r hn)))))))))) (en_r (en_l (en_r (en_l (en_r (en_l (en_l (en_r (en_l (en_l hn)))))))))) (en_l (en_r (en_l (en_r (en_l (en_l (en_r (en_r (en_r (en_r hn)))))))))) (by decide))
    | 2, _, 0, _ => exact Or.inl (en_ne (fun t => .length (.field t "java/lang/String" "value" "[B")) (fun t t' e => by simp only [Term.eval, e]) (en_r (en_r (en_l (en_r (en_l (en_l (en_l (en_r (en_l (en_l hn)))))))))) (en_r (en_r (en_l (en_r (en_l (en_r (en_l (en_r (en_l (en_l hn)))))))))) (en_l (en_r (en_r (en_r (en_l (en_l (en_l (en_r (en_l (en_l hn)))))))))) (en_l (en_r (en_r (en_r (en_l (en_r (en_l (en_r (en_l (en_l hn)))))))))) (by decide))
    | 2, _, 1, _ => exact Or.inl (en_ne (fun t => .length (.field t "java/lang/String" "value" "[B")) (fun t t' e => by simp only [Term.eval, e]) (en_r (en_r (en_l (en_r (en_l (en_l (en_l (en_r (en_l (en_l hn)))))))))) (en_l (en_r (en_l (en_l (en_r (en_l (en_l (en_r (en_l (en_l hn)))))))))) (en_l (en_r (en_r (en_r (en_l (en_l (en_l (en_r (en_l (en_l hn)))))))))) (en_r (en_l (en_r (en_l (en_r (en_l (en_l (en_r (en_l (en_l hn)))))))))) (by decide))
    | 2, _, 2, _ => exact absurd rfl hij
    | 2, _, 3, _ => exact Or.inl (en_ne (fun t => .length (.field t "java/lang/String" "value" "[B")) (fun t t' e => by simp only [Term.eval, e]) (en_r (en_r (en_l (en_r (en_l (en_l (en_l (en_r (en_l (en_l hn)))))))))) (en_l (en_r (en_r (en_r (en_r (en_l (en_l (en_r (en_l (en_l hn)))))))))) (en_l (en_r (en_r (en_r (en_l (en_l (en_l (en_r (en_l (en_l hn)))))))))) (en_l (en_r (en_l (en_l (en_l (en_r (en_l (en_r (en_l (en_l hn)))))))))) (by decide))
    | 2, _, 4, _ => exact Or.inl (en_ne (fun t => .length (.field t "java/lang/String" "value" "[B")) (fun t t' e => by simp only [Term.eval, e]) (en_r (en_r (en_l (en_r (en_l (en_l (en_l (en_r (en_l (en_l hn)))))))))) (en_l (en_r (en_r (en_l (en_l (en_l (en_r (en_r (en_r (en_r hn)))))))))) (en_l (en_r (en_r (en_r (en_l (en_l (en_l (en_r (en_l (en_l hn)))))))))) (en_l (en_r (en_l (en_r (en_l (en_l (en_r (en_r (en_r (en_r hn)))))))))) (by decide))
    | 3, _, 0, _ => exact Or.inl (en_ne (fun t => .length (.field t "java/lang/String" "value" "[B")) (fun t t' e => by simp only [Term.eval, e]) (en_l (en_r (en_r (en_r (en_r (en_l (en_l (en_r (en_l (en_l hn)))))))))) (en_r (en_r (en_l (en_r (en_l (en_r (en_l (en_r (en_l (en_l hn)))))))))) (en_l (en_r (en_l (en_l (en_l (en_r (en_l (en_r (en_l (en_l hn)))))))))) (en_l (en_r (en_r (en_r (en_l (en_r (en_l (en_r (en_l (en_l hn)))))))))) (by decide))
    | 3, _, 1, _ => exact Or.inl (en_ne (fun t => .elem (.field t "java/lang/String" "value" "[B") (.int 0)) (fun t t' e => by simp only [Term.eval, e]) (en_l (en_r (en_r (en_r (en_r (en_l (en_l (en_r (en_l (en_l hn)))))))))) (en_l (en_r (en_l (en_l (en_r (en_l (en_l (en_r (en_l (en_l hn)))))))))) (en_r (en_r (en_l (en_l (en_l (en_r (en_l (en_r (en_l (en_l hn)))))))))) (en_l (en_r (en_r (en_l (en_r (en_l (en_l (en_r (en_l (en_l hn)))))))))) (by decide))
    | 3, _, 2, _ => exact Or.inl (en_ne (fun t => .length (.field t "java/lang/String" "value" "[B")) (fun t t' e => by simp only [Term.eval, e]) (en_l (en_r (en_r (en_r (en_r (en_l (en_l (en_r (en_l (en_l hn)))))))))) (en_r (en_r (en_l (en_r (en_l (en_l (en_l (en_r (en_l (en_l hn)))))))))) (en_l (en_r (en_l (en_l (en_l (en_r (en_l (en_r (en_l (en_l hn)))))))))) (en_l (en_r (en_r (en_r (en_l (en_l (en_l (en_r (en_l (en_l hn)))))))))) (by decide))
    | 3, _, 3, _ => exact absurd rfl hij
    | 3, _, 4, _ => exact Or.inl (en_ne (fun t => .length (.field t "java/lang/String" "value" "[B")) (fun t t' e => by simp only [Term.eval, e]) (en_l (en_r (en_r (en_r (en_r (en_l (en_l (en_r (en_l (en_l hn)))))))))) (en_l (en_r (en_r (en_l (en_l (en_l (en_r (en_r (en_r (en_r hn)))))))))) (en_l (en_r (en_l (en_l (en_l (en_r (en_l (en_r (en_l (en_l hn)))))))))) (en_l (en_r (en_l (en_r (en_l (en_l (en_r (en_r (en_r (en_r hn)))))))))) (by decide))
    | 4, _, 0, _ => exact Or.inl (en_ne (fun t => .length (.field t "java/lang/String" "value" "[B")) (fun t t' e => by simp only [Term.eval, e]) (en_l (en_r (en_r (en_l (en_l (en_l (en_r (en_r (en_r (en_r hn)))))))))) (en_r (en_r (en_l (en_r (en_l (en_r (en_l (en_r (en_l (en_l hn)))))))))) (en_l (en_r (en_l (en_r (en_l (en_l (en_r (en_r (en_r (en_r hn)))))))))) (en_l (en_r (en_r (en_r (en_l (en_r (en_l (en_r (en_l (en_l hn)))))))))) (by decide))
    | 4, _, 1, _ => exact Or.inl (en_ne (fun t => .length (.field t "java/lang/String" "value" "[B")) (fun t t' e => by simp only [Term.eval, e]) (en_l (en_r (en_r (en_l (en_l (en_l (en_r (en_r (en_r (en_r hn)))))))))) (en_l (en_r (en_l (en_l (en_r (en_l (en_l (en_r (en_l (en_l hn)))))))))) (en_l (en_r (en_l (en_r (en_l (en_l (en_r (en_r (en_r (en_r hn)))))))))) (en_r (en_l (en_r (en_l (en_r (en_l (en_l (en_r (en_l (en_l hn)))))))))) (by decide))
    | 4, _, 2, _ => exact Or.inl (en_ne (fun t => .length (.field t "java/lang/String" "value" "[B")) (fun t t' e => by simp only [Term.eval, e]) (en_l (en_r (en_r (en_l (en_l (en_l (en_r (en_r (en_r (en_r hn)))))))))) (en_r (en_r (en_l (en_r (en_l (en_l (en_l (en_r (en_l (en_l hn)))))))))) (en_l (en_r (en_l (en_r (en_l (en_l (en_r (en_r (en_r (en_r hn)))))))))) (en_l (en_r (en_r (en_r (en_l (en_l (en_l (en_r (en_l (en_l hn)))))))))) (by decide))
    | 4, _, 3, _ => exact Or.inl (en_ne (fun t => .length (.field t "java/lang/String" "value" "[B")) (fun t t' e => by simp only [Term.eval, e]) (en_l (en_r (en_r (en_l (en_l (en_l (en_r (en_r (en_r (en_r hn)))))))))) (en_l (en_r (en_r (en_r (en_r (en_l (en_l (en_r (en_l (en_l hn)))))))))) (en_l (en_r (en_l (en_r (en_l (en_l (en_r (en_r (en_r (en_r hn)))))))))) (en_l (en_r (en_l (en_l (en_l (en_r (en_l (en_r (en_l (en_l hn)))))))))) (by decide))
    | 4, _, 4, _ => exact absurd rfl hij
    | k + 5, h, _, _ => omega
    | _, _, k + 5, h => omega
