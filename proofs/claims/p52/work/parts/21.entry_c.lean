/-! ===== KK at the law's entry ===== -/
theorem en_ms {args : Array Value} {s : State} {own tx : String} {k : Nat} (h1 : (Cond.stringRef own k tx).before args s = true) (h2 : (Cond.exactly (Term.string own k) "java/lang/String").before args s = true) : ∃ a, vk_R own k tx a s := by
  obtain ⟨a, _, _, _, e1, -⟩ := Cond.exactly_spec (args := args) (first := s) (o := none) (s := s) (idx := []) h2
  exact ⟨a, vk_R.of h1 e1⟩
set_option maxRecDepth 100000 in
theorem en_KK {args : Array Value} {s : State} (hts : ∀ w ∈ lw_tbl, w.before args s = true) (hgv : (Jvm.Cond.and given_1 narrow_1).before args s = true) : ∃ Δ : Wd, Δ.2.2.2.1 = s.heap.size ∧ (∀ q, sFr Δ q ↔ s.heap.size ≤ q) ∧ (∀ H, sE Δ H ↔ ∀ q : Nat, q < s.heap.size → H[q]? = s.heap[q]?) ∧ sS0 Δ = s ∧ KK Δ s := by
  obtain ⟨p, hp⟩ := en_cls hts
  obtain ⟨f, t0, t1, t2, t5, t6, t7, t8⟩ := en_tys hts
  have hn := en_r hgv
  have hA : ∀ a : Nat, a < s.heap.size → ¬ (fun q : Nat => s.heap.size ≤ q) a := fun a h q => absurd h (Nat.not_lt.mpr q)
  obtain ⟨adK, adV, h1, h2⟩ := en_str hn (A := fun q => s.heap.size ≤ q) hA
  refine ⟨(fun c => (p c).1, fun c => (p c).2, f, s.heap.size, adK, adV, (fun q : Nat => s.heap.size ≤ q), (fun H : Heap => ∀ q : Nat, q < s.heap.size → H[q]? = s.heap[q]?), s), rfl, fun _ => Iff.rfl, fun _ => Iff.rfl, rfl, ⟨hp, fun k q hk => ?_⟩, h1, fun q hq => ?_, ?_, fun w hw => va_Nw.of (gX_on (List.mem_filter.mp hw).2) (hts w (List.mem_filter.mp hw).1), ?_, ?_, ?_, fun q hq => ?_, fun q hq => ?_, en_over hts, fun H H1 ho hq => fun q hlt => ?_, Vm.Alike.refl _⟩
  · match k with
    | 0 => cases hk; exact t0
    | 1 => cases hk; exact t1
    | 2 => cases hk; exact t2
    | 3 => cases hk; exact t0
    | 4 => cases hk; exact t0
    | 5 => cases hk; exact t5
    | 6 => cases hk; exact t6
    | 7 => cases hk; exact t7
    | 8 => cases hk; exact t8
    | k + 9 => simp [sTys] at hk
  · simp only [sST, List.mem_cons, List.not_mem_nil, or_false] at hq
    rcases hq with rfl | rfl | rfl | rfl | rfl | rfl | rfl | rfl | rfl | rfl | rfl | rfl | rfl | rfl | rfl | rfl
    · exact vk_R.of (hts (Cond.stringRef "Schedulary" 80 "0123456789abcdefghilMN=[]+-*&|^<>") (gt_4 (List.mem_of_getElem? (i := 192) (by decide +kernel)))) (h2 0 (by decide))
    · exact vk_R.of (hts (Cond.stringRef "Schedulary$Text" 77 "MN") (gt_5 (List.mem_of_getElem? (i := 103) (by decide +kernel)))) (h2 2 (by decide))
    · exact vk_R.of (hts (Cond.stringRef "Schedulary$Text" 56 "+-*&|^l") (gt_5 (List.mem_of_getElem? (i := 124) (by decide +kernel)))) (h2 1 (by decide))
    · exact vk_R.of (hts (Cond.stringRef "Schedulary" 195 "MN") (gt_5 (List.mem_of_getElem? (i := 209) (by decide +kernel)))) (en_eq (en_r (en_r (en_l (en_l (en_r (en_r (en_r (en_l (en_r (en_l (en_r hn))))))))))) (h2 2 (by decide)))
    · exact vk_R.of (hts (Cond.stringRef "Schedulary" 197 "amgMN<>") (gt_5 (List.mem_of_getElem? (i := 215) (by decide +kernel)))) (h2 3 (by decide))
    · exact vk_R.of (hts (Cond.stringRef "SchedularyLaw" 178 "M[") (gt_6 (List.mem_of_getElem? (i := 200) (by decide +kernel)))) (h2 4 (by decide))
    · exact vk_R.of (hts (Cond.stringRef "SchedularyLaw" 180 "N[") (gt_6 (List.mem_of_getElem? (i := 201) (by decide +kernel)))) (h2 5 (by decide))
    · exact vk_R.of (hts (Cond.stringRef "SchedularyLaw" 158 "i") (gt_7 (List.mem_of_getElem? (i := 74) (by decide +kernel)))) (h2 6 (by decide))
    · exact vk_R.of (hts (Cond.stringRef "SchedularyLaw" 163 "i+") (gt_7 (List.mem_of_getElem? (i := 75) (by decide +kernel)))) (h2 7 (by decide))
    · exact vk_R.of (hts (Cond.stringRef "SchedularyLaw" 176 "i-") (gt_7 (List.mem_of_getElem? (i := 141) (by decide +kernel)))) (h2 8 (by decide))
    · exact vk_R.of (hts (Cond.stringRef "SchedularyLaw" 186 "]") (gt_7 (List.mem_of_getElem? (i := 142) (by decide +kernel)))) (h2 9 (by decide))
    · exact vk_R.of (hts (Cond.stringRef "SchedularyLaw" 195 ">") (gt_7 (List.mem_of_getElem? (i := 143) (by decide +kernel)))) (h2 10 (by decide))
    · exact vk_R.of (hts (Cond.stringRef "SchedularyLaw" 197 "=") (gt_7 (List.mem_of_getElem? (i := 144) (by decide +kernel)))) (h2 11 (by decide))
    · exact vk_R.of (hts (Cond.stringRef "SchedularyLaw" 193 "<") (gt_7 (List.mem_of_getElem? (i := 148) (by decide +kernel)))) (h2 12 (by decide))
    · exact vk_R.of (hts (Cond.stringRef "SchedularyLaw" 202 "+-*&|^l") (gt_7 (List.mem_of_getElem? (i := 149) (by decide +kernel)))) (en_eq (en_l (en_r (en_r (en_r (en_r (en_l (en_l (en_r (en_r (en_r (en_r hn))))))))))) (h2 1 (by decide)))
    · exact vk_R.of (hts (Cond.stringRef "SchedularyLaw" 213 "amgMN<>") (gt_7 (List.mem_of_getElem? (i := 173) (by decide +kernel)))) (en_eq (en_l (en_r (en_r (en_r (en_l (en_r (en_l (en_r (en_r (en_r (en_r hn))))))))))) (h2 3 (by decide)))
  · exact va_Zof (hts (Cond.laysStatic "java/lang/String" "COMPACT_STRINGS" "Z") (gt_4 (List.mem_of_getElem? (i := 206) (by decide +kernel)))) (hts (Cond.initialized "java/lang/String") (gt_1 (List.mem_of_getElem? (i := 18) (by decide +kernel)))) (va_eqt (en_l (en_r (en_r (en_l (en_l (en_l (en_l (en_l (en_l (en_l hn))))))))))) hA
  · exact va_Zqof (hts (Cond.laysStatic "jdk/internal/util/Preconditions" "SIOOBE_FORMATTER" "Ljava/util/function/BiFunction;") (gt_5 (List.mem_of_getElem? (i := 5) (by decide +kernel)))) (hts (Cond.initialized "jdk/internal/util/Preconditions") (gt_1 (List.mem_of_getElem? (i := 22) (by decide +kernel)))) (en_r (en_r (en_r (en_l (en_l (en_l (en_l (en_l (en_l (en_l hn)))))))))) hA
  · exact vx_Zqof (hts (Cond.laysStatic "java/lang/Throwable" "UNASSIGNED_STACK" "[Ljava/lang/StackTraceElement;") (gt_4 (List.mem_of_getElem? (i := 120) (by decide +kernel)))) (hts (Cond.initialized "java/lang/Throwable") (gt_1 (List.mem_of_getElem? (i := 13) (by decide +kernel)))) (en_r (en_r (en_l (en_l (en_l (en_l (en_l (en_l (en_l (en_l hn)))))))))) hA
  · exact vx_Zqof (hts (Cond.laysStatic "java/lang/Throwable" "SUPPRESSED_SENTINEL" "Ljava/util/List;") (gt_4 (List.mem_of_getElem? (i := 122) (by decide +kernel)))) (hts (Cond.initialized "java/lang/Throwable") (gt_1 (List.mem_of_getElem? (i := 13) (by decide +kernel)))) (en_l (en_r (en_l (en_l (en_l (en_l (en_l (en_l (en_l hn))))))))) hA
  · simp only [sMS, List.mem_cons, List.not_mem_nil, or_false] at hq
    rcases hq with rfl | rfl | rfl | rfl | rfl | rfl | rfl | rfl | rfl | rfl | rfl | rfl | rfl | rfl | rfl | rfl | rfl | rfl | rfl | rfl | rfl | rfl | rfl | rfl | rfl | rfl | rfl | rfl
    · exact en_ms (hts (Cond.stringRef "Schedulary" 90 "no sign of a statement") (gt_5 (List.mem_of_getElem? (i := 44) (by decide +kernel)))) (en_r (en_r (en_r (en_r (en_l (en_r (en_r (en_r (en_r (en_l hn))))))))))
    · exact en_ms (hts (Cond.stringRef "Schedulary" 100 "the buffer is full") (gt_5 (List.mem_of_getElem? (i := 60) (by decide +kernel)))) (en_l (en_l (en_l (en_r (en_l (en_l (en_l (en_l (en_l (en_r hn))))))))))
    · exact en_ms (hts (Cond.stringRef "Schedulary" 119 "no statement") (gt_5 (List.mem_of_getElem? (i := 125) (by decide +kernel)))) (en_l (en_r (en_l (en_l (en_l (en_l (en_r (en_l (en_l (en_l (en_r hn)))))))))))
    · exact en_ms (hts (Cond.stringRef "Schedulary" 125 "too many statements") (gt_5 (List.mem_of_getElem? (i := 126) (by decide +kernel)))) (en_r (en_r (en_r (en_l (en_r (en_l (en_r (en_l (en_l (en_l (en_r hn)))))))))))
    · exact en_ms (hts (Cond.stringRef "Schedulary" 136 "no such statement") (gt_5 (List.mem_of_getElem? (i := 152) (by decide +kernel)))) (en_l (en_r (en_l (en_r (en_r (en_r (en_l (en_l (en_l (en_r hn))))))))))
    · exact en_ms (hts (Cond.stringRef "Schedulary" 147 "1 to 16 turns") (gt_5 (List.mem_of_getElem? (i := 161) (by decide +kernel)))) (en_r (en_r (en_r (en_r (en_l (en_l (en_l (en_r (en_l (en_l (en_r hn)))))))))))
    · exact en_ms (hts (Cond.stringRef "Schedulary" 155 "the factor does not divide the turns") (gt_5 (List.mem_of_getElem? (i := 172) (by decide +kernel)))) (en_l (en_r (en_l (en_l (en_r (en_l (en_r (en_l (en_l (en_r hn))))))))))
    · exact en_ms (hts (Cond.stringRef "Schedulary" 164 "1 to 16 bits") (gt_5 (List.mem_of_getElem? (i := 188) (by decide +kernel)))) (en_l (en_l (en_r (en_r (en_l (en_r (en_r (en_l (en_l (en_r hn))))))))))
    · exact en_ms (hts (Cond.stringRef "Schedulary" 169 "factors are 1 to 4") (gt_5 (List.mem_of_getElem? (i := 193) (by decide +kernel)))) (en_l (en_r (en_r (en_l (en_r (en_r (en_r (en_l (en_l (en_r hn))))))))))
    · exact en_ms (hts (Cond.stringRef "Schedulary" 171 "too many statements in a body") (gt_5 (List.mem_of_getElem? (i := 194) (by decide +kernel)))) (en_l (en_l (en_r (en_l (en_l (en_l (en_l (en_r (en_l (en_r hn))))))))))
    · exact en_ms (hts (Cond.stringRef "Schedulary" 174 "values are 0 to 65535") (gt_5 (List.mem_of_getElem? (i := 200) (by decide +kernel)))) (en_r (en_r (en_l (en_l (en_r (en_r (en_l (en_l (en_r (en_l (en_r hn)))))))))))
    · exact en_ms (hts (Cond.stringRef "Schedulary" 179 "too many inputs") (gt_5 (List.mem_of_getElem? (i := 201) (by decide +kernel)))) (en_r (en_r (en_l (en_l (en_r (en_l (en_r (en_l (en_r (en_l (en_r hn)))))))))))
    · exact en_ms (hts (Cond.stringRef "Schedulary" 189 "no such place or value") (gt_5 (List.mem_of_getElem? (i := 210) (by decide +kernel)))) (en_l (en_r (en_l (en_r (en_r (en_r (en_l (en_r (en_l (en_r hn))))))))))
    · exact en_ms (hts (Cond.stringRef "Schedulary" 199 "no such kind, or not 1 to 4 units") (gt_5 (List.mem_of_getElem? (i := 216) (by decide +kernel)))) (en_r (en_r (en_l (en_l (en_l (en_r (en_l (en_r (en_r (en_l (en_r hn)))))))))))
    · exact en_ms (hts (Cond.stringRef "Schedulary" 201 "a channel has one unit") (gt_5 (List.mem_of_getElem? (i := 217) (by decide +kernel)))) (en_r (en_r (en_l (en_l (en_r (en_l (en_r (en_r (en_r (en_l (en_r hn)))))))))))
    · exact en_ms (hts (Cond.stringRef "Schedulary" 212 "no such kind, or not 1 to 5 cycles") (gt_5 (List.mem_of_getElem? (i := 222) (by decide +kernel)))) (en_l (en_r (en_l (en_r (en_r (en_r (en_r (en_r (en_l (en_r hn))))))))))
    · exact en_ms (hts (Cond.stringRef "Schedulary" 326 "no such process or channel") (gt_5 (List.mem_of_getElem? (i := 227) (by decide +kernel)))) (en_l (en_r (en_r (en_l (en_l (en_r (en_l (en_l (en_l (en_r (en_r hn)))))))))))
    · exact en_ms (hts (Cond.stringRef "Schedulary" 331 "too many actions") (gt_5 (List.mem_of_getElem? (i := 228) (by decide +kernel)))) (en_l (en_r (en_r (en_r (en_l (en_l (en_r (en_l (en_l (en_r (en_r hn)))))))))))
    · exact en_ms (hts (Cond.stringRef "Schedulary" 336 "no such channel, or not 1 to 16 deep") (gt_5 (List.mem_of_getElem? (i := 237) (by decide +kernel)))) (en_l (en_l (en_r (en_l (en_r (en_r (en_l (en_l (en_r (en_r hn))))))))))
    · exact en_ms (hts (Cond.stringRef "Schedulary" 347 "no such process") (gt_6 (List.mem_of_getElem? (i := 2) (by decide +kernel)))) (en_l (en_r (en_r (en_r (en_r (en_l (en_l (en_r (en_l (en_r (en_r hn)))))))))))
    · exact en_ms (hts (Cond.stringRef "Schedulary" 223 "no such value") (gt_6 (List.mem_of_getElem? (i := 26) (by decide +kernel)))) (en_r (en_r (en_r (en_l (en_r (en_r (en_l (en_r (en_l (en_r (en_r hn)))))))))))
    · exact en_ms (hts (Cond.stringRef "Schedulary" 228 "no such place") (gt_6 (List.mem_of_getElem? (i := 31) (by decide +kernel)))) (en_l (en_r (en_r (en_r (en_l (en_l (en_r (en_r (en_l (en_r (en_r hn)))))))))))
    · exact en_ms (hts (Cond.stringRef "Schedulary" 233 "no such register") (gt_6 (List.mem_of_getElem? (i := 37) (by decide +kernel)))) (en_l (en_r (en_l (en_l (en_r (en_r (en_r (en_l (en_r (en_r hn))))))))))
    · exact en_ms (hts (Cond.stringRef "Schedulary" 386 "no such node") (gt_6 (List.mem_of_getElem? (i := 46) (by decide +kernel)))) (en_l (en_r (en_r (en_r (en_r (en_r (en_r (en_r (en_l (en_r (en_r hn)))))))))))
    · exact en_ms (hts (Cond.stringRef "Schedulary" 267 "no such edge") (gt_6 (List.mem_of_getElem? (i := 85) (by decide +kernel)))) (en_r (en_r (en_l (en_l (en_r (en_l (en_l (en_l (en_r (en_r (en_r hn)))))))))))
    · exact en_ms (hts (Cond.stringRef "Schedulary" 359 "locked by 16, too") (gt_6 (List.mem_of_getElem? (i := 128) (by decide +kernel)))) (en_l (en_l (en_r (en_l (en_r (en_l (en_l (en_r (en_r (en_r hn))))))))))
    · exact en_ms (hts (Cond.stringRef "java/util/Arrays" 337 " > ") (gt_7 (List.mem_of_getElem? (i := 127) (by decide +kernel)))) (en_r (en_r (en_l (en_l (en_l (en_r (en_r (en_l (en_r (en_r (en_r hn)))))))))))
    · exact en_ms (hts (Cond.stringRef "Schedulary" 365 "no such kind") (gt_7 (List.mem_of_getElem? (i := 221) (by decide +kernel)))) (en_r (en_r (en_r (en_r (en_l (en_r (en_l (en_r (en_r (en_r (en_r hn)))))))))))
  · simp only [ncL, List.mem_cons, List.not_mem_nil, or_false] at hq
    rcases hq with rfl | rfl | rfl | rfl | rfl | rfl | rfl | rfl | rfl | rfl
    · exact va_Nc.of (en_l (en_l (en_r (en_r (en_r (en_r (en_l (en_l (en_r (en_l hn))))))))))
    · exact va_Nc.of (en_r (en_r (en_l (en_l (en_l (en_r (en_l (en_l (en_r (en_l hn))))))))))
    · exact va_Nc.of (en_l (en_r (en_r (en_r (en_r (en_r (en_l (en_l (en_r (en_l hn))))))))))
    · exact va_Nc.of (en_l (en_r (en_r (en_l (en_r (en_l (en_r (en_l (en_r (en_l hn))))))))))
    · exact va_Nc.of (en_r (en_r (en_r (en_l (en_l (en_r (en_l (en_l (en_r (en_l hn))))))))))
    · exact va_Nc.of (en_l (en_r (en_r (en_l (en_l (en_r (en_l (en_l (en_r (en_l hn))))))))))
    · exact va_Nc.of (en_r (en_r (en_r (en_r (en_r (en_r (en_l (en_l (en_r (en_l hn))))))))))
    · exact va_Nc.of (en_l (en_l (en_r (en_r (en_l (en_r (en_l (en_r (en_l hn)))))))))
    · exact va_Nc.of (en_l (en_r (en_l (en_l (en_r (en_l (en_l (en_r (en_l hn)))))))))
    · exact va_Nc.of (en_l (en_r (en_r (en_r (en_l (en_r (en_r (en_l (en_r (en_l hn))))))))))
  · have e0 : H[q]? = s.heap[q]? := hq q hlt
    have l0 : q < H.size := by
      rw [Array.getElem?_eq_getElem hlt] at e0
      exact (Array.getElem?_eq_some_iff.mp e0).1
    exact (ho q l0 (Nat.not_le.mpr hlt)).trans e0
