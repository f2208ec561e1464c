/-! ===== KK at the law's entry ===== -/
theorem en_ms {args : Array Value} {s : State} {own tx : String} {k : Nat} (h1 : (Cond.stringRef own k tx).before args s = true) (h2 : (Cond.exactly (Term.string own k) "java/lang/String").before args s = true) : ∃ a, vk_R own k tx a s := by
  obtain ⟨a, _, _, _, e1, -⟩ := Cond.exactly_spec (args := args) (first := s) (o := none) (s := s) (idx := []) h2
  exact ⟨a, vk_R.of h1 e1⟩
set_option maxRecDepth 100000 in
theorem en_KK {args : Array Value} {s : State} (hts : ∀ w ∈ lw_tbl, w.before args s = true) (hgv : (Jvm.Cond.and given_1 narrow_1).before args s = true) : ∃ Δ : Wd, Δ.2.2.2.1 = s.heap.size ∧ KK Δ s := by
  obtain ⟨p, hp⟩ := en_cls hts
  obtain ⟨f, hf⟩ := en_tys hts
  have hn := en_r hgv
  have hA : ∀ a : Nat, a < s.heap.size → ¬ (fun q : Nat => s.heap.size ≤ q) a := fun a h q => absurd h (Nat.not_lt.mpr q)
  obtain ⟨adK, adV, h1, h2⟩ := en_str hn (A := fun q => s.heap.size ≤ q) hA
  refine ⟨(fun c => (p c).1, fun c => (p c).2, f, s.heap.size, adK, adV), rfl, ⟨hp, fun k q hk => ?_⟩, h1, fun q hq => ?_, ?_, fun w hw => va_Nw.of (gX_on (List.mem_filter.mp hw).2) (hts w (List.mem_filter.mp hw).1), ?_, ?_, ?_, fun q hq => ?_, fun q hq => ?_, en_over hts⟩
  · match k with
    | 0 => cases hk; exact hf 0 _ rfl
    | 1 => cases hk; exact hf 1 _ rfl
    | 2 => cases hk; exact hf 2 _ rfl
    | 3 => cases hk; exact hf 3 _ rfl
    | 4 => cases hk; exact hf 4 _ rfl
    | 5 => cases hk; exact hf 5 _ rfl
    | 6 => cases hk; exact hf 6 _ rfl
    | 7 => cases hk; exact hf 7 _ rfl
    | k + 8 => simp [sTys] at hk
  · simp only [sST, List.mem_cons, List.not_mem_nil, or_false] at hq
    rcases hq with rfl | rfl | rfl | rfl | rfl | rfl | rfl | rfl | rfl
    · exact vk_R.of (hts (Cond.stringRef "Schedulary$Text" 77 "MN") (gt_3 (List.mem_of_getElem? (i := 13) (by decide +kernel)))) (h2 2 (by decide))
    · exact vk_R.of (hts (Cond.stringRef "Schedulary$Text" 56 "+-*&|^l") (gt_3 (List.mem_of_getElem? (i := 119) (by decide +kernel)))) (h2 1 (by decide))
    · exact vk_R.of (hts (Cond.stringRef "Schedulary$Pace" 116 "amgMN<>") (gt_5 (List.mem_of_getElem? (i := 10) (by decide +kernel)))) (h2 3 (by decide))
    · exact vk_R.of (hts (Cond.stringRef "Schedulary" 80 "0123456789abcdefghilMN=[]+-*&|^<>") (gt_5 (List.mem_of_getElem? (i := 136) (by decide +kernel)))) (h2 0 (by decide))
    · exact vk_R.of (hts (Cond.stringRef "Schedulary" 195 "MN") (gt_6 (List.mem_of_getElem? (i := 119) (by decide +kernel)))) (en_eq (en_l (en_r (en_r (en_l (en_r (en_l (en_l (en_l (en_l (en_r hn)))))))))) (h2 2 (by decide)))
    · exact vk_R.of (hts (Cond.stringRef "Schedulary" 197 "amgMN<>") (gt_6 (List.mem_of_getElem? (i := 128) (by decide +kernel)))) (en_eq (en_l (en_r (en_l (en_l (en_l (en_l (en_r (en_l (en_l (en_r hn)))))))))) (h2 3 (by decide)))
    · exact vk_R.of (hts (Cond.stringRef "SchedularyModel" 134 "abcdefghilMN=[]+-*&|^<>") (gt_8 (List.mem_of_getElem? (i := 14) (by decide +kernel)))) (h2 4 (by decide))
    · exact vk_R.of (hts (Cond.stringRef "SchedularyModel" 180 "+-*&|^l") (gt_8 (List.mem_of_getElem? (i := 60) (by decide +kernel)))) (en_eq (en_l (en_r (en_l (en_l (en_r (en_r (en_r (en_r (en_r (en_r hn)))))))))) (h2 1 (by decide)))
    · exact vk_R.of (hts (Cond.stringRef "SchedularyModel" 211 "amgMN<>") (gt_8 (List.mem_of_getElem? (i := 166) (by decide +kernel)))) (en_eq (en_l (en_r (en_r (en_r (en_r (en_r (en_r (en_r (en_r (en_r hn)))))))))) (h2 3 (by decide)))
  · exact va_Zof (hts (Cond.laysStatic "java/lang/String" "COMPACT_STRINGS" "Z") (gt_3 (List.mem_of_getElem? (i := 27) (by decide +kernel)))) (hts (Cond.initialized "java/lang/String") (gt_1 (List.mem_of_getElem? (i := 14) (by decide +kernel)))) (va_eqt (en_r (en_r (en_l (en_l (en_l (en_l (en_l (en_l (en_l (en_l hn))))))))))) hA
  · exact va_Zqof (hts (Cond.laysStatic "jdk/internal/util/Preconditions" "SIOOBE_FORMATTER" "Ljava/util/function/BiFunction;") (gt_3 (List.mem_of_getElem? (i := 70) (by decide +kernel)))) (hts (Cond.initialized "jdk/internal/util/Preconditions") (gt_1 (List.mem_of_getElem? (i := 18) (by decide +kernel)))) (en_l (en_l (en_r (en_l (en_l (en_l (en_l (en_l (en_l (en_l hn)))))))))) hA
  · exact vx_Zqof (hts (Cond.laysStatic "java/lang/Throwable" "UNASSIGNED_STACK" "[Ljava/lang/StackTraceElement;") (gt_5 (List.mem_of_getElem? (i := 165) (by decide +kernel)))) (hts (Cond.initialized "java/lang/Throwable") (gt_1 (List.mem_of_getElem? (i := 20) (by decide +kernel)))) (en_l (en_l (en_r (en_l (en_l (en_l (en_l (en_l (en_l hn))))))))) hA
  · exact vx_Zqof (hts (Cond.laysStatic "java/lang/Throwable" "SUPPRESSED_SENTINEL" "Ljava/util/List;") (gt_5 (List.mem_of_getElem? (i := 167) (by decide +kernel)))) (hts (Cond.initialized "java/lang/Throwable") (gt_1 (List.mem_of_getElem? (i := 20) (by decide +kernel)))) (en_l (en_r (en_l (en_r (en_l (en_l (en_l (en_l (en_l (en_l hn)))))))))) hA
  · simp only [sMS, List.mem_cons, List.not_mem_nil, or_false] at hq
    rcases hq with rfl | rfl | rfl | rfl | rfl | rfl | rfl | rfl | rfl | rfl | rfl | rfl | rfl | rfl | rfl | rfl | rfl | rfl | rfl | rfl | rfl | rfl | rfl | rfl | rfl | rfl | rfl | rfl
    · exact en_ms (hts (Cond.stringRef "Schedulary" 90 "no sign of a statement") (gt_5 (List.mem_of_getElem? (i := 183) (by decide +kernel)))) (en_l (en_l (en_r (en_l (en_r (en_l (en_r (en_r (en_l (en_l hn))))))))))
    · exact en_ms (hts (Cond.stringRef "Schedulary" 100 "the buffer is full") (gt_5 (List.mem_of_getElem? (i := 218) (by decide +kernel)))) (en_l (en_r (en_l (en_l (en_r (en_r (en_r (en_r (en_l (en_l hn))))))))))
    · exact en_ms (hts (Cond.stringRef "Schedulary" 119 "no statement") (gt_5 (List.mem_of_getElem? (i := 236) (by decide +kernel)))) (en_l (en_r (en_l (en_r (en_l (en_l (en_l (en_l (en_r (en_l hn))))))))))
    · exact en_ms (hts (Cond.stringRef "Schedulary" 125 "too many statements") (gt_5 (List.mem_of_getElem? (i := 237) (by decide +kernel)))) (en_l (en_l (en_r (en_r (en_r (en_l (en_l (en_l (en_r (en_l hn))))))))))
    · exact en_ms (hts (Cond.stringRef "Schedulary" 136 "no such statement") (gt_6 (List.mem_of_getElem? (i := 46) (by decide +kernel)))) (en_l (en_r (en_r (en_l (en_r (en_r (en_l (en_l (en_r (en_l hn))))))))))
    · exact en_ms (hts (Cond.stringRef "Schedulary" 147 "1 to 16 turns") (gt_6 (List.mem_of_getElem? (i := 59) (by decide +kernel)))) (en_l (en_r (en_r (en_r (en_l (en_l (en_r (en_l (en_r (en_l hn))))))))))
    · exact en_ms (hts (Cond.stringRef "Schedulary" 155 "the factor does not divide the turns") (gt_6 (List.mem_of_getElem? (i := 70) (by decide +kernel)))) (en_l (en_r (en_l (en_l (en_l (en_r (en_r (en_l (en_r (en_l hn))))))))))
    · exact en_ms (hts (Cond.stringRef "Schedulary" 164 "1 to 16 bits") (gt_6 (List.mem_of_getElem? (i := 89) (by decide +kernel)))) (en_l (en_r (en_r (en_r (en_l (en_l (en_l (en_r (en_r (en_l hn))))))))))
    · exact en_ms (hts (Cond.stringRef "Schedulary" 169 "factors are 1 to 4") (gt_6 (List.mem_of_getElem? (i := 97) (by decide +kernel)))) (en_l (en_l (en_l (en_l (en_r (en_l (en_r (en_r (en_l hn)))))))))
    · exact en_ms (hts (Cond.stringRef "Schedulary" 171 "too many statements in a body") (gt_6 (List.mem_of_getElem? (i := 98) (by decide +kernel)))) (en_r (en_l (en_l (en_r (en_r (en_r (en_l (en_r (en_r (en_l hn))))))))))
    · exact en_ms (hts (Cond.stringRef "Schedulary" 174 "values are 0 to 65535") (gt_6 (List.mem_of_getElem? (i := 107) (by decide +kernel)))) (en_l (en_r (en_r (en_r (en_r (en_l (en_r (en_r (en_r (en_l hn))))))))))
    · exact en_ms (hts (Cond.stringRef "Schedulary" 179 "too many inputs") (gt_6 (List.mem_of_getElem? (i := 108) (by decide +kernel)))) (en_l (en_r (en_l (en_r (en_r (en_r (en_r (en_r (en_r (en_l hn))))))))))
    · exact en_ms (hts (Cond.stringRef "Schedulary" 189 "no such place or value") (gt_6 (List.mem_of_getElem? (i := 120) (by decide +kernel)))) (en_r (en_r (en_r (en_l (en_r (en_l (en_l (en_l (en_l (en_r hn))))))))))
    · exact en_ms (hts (Cond.stringRef "Schedulary" 199 "no such kind, or not 1 to 4 units") (gt_6 (List.mem_of_getElem? (i := 129) (by decide +kernel)))) (en_r (en_r (en_l (en_l (en_l (en_l (en_r (en_l (en_l (en_r hn))))))))))
    · exact en_ms (hts (Cond.stringRef "Schedulary" 201 "a channel has one unit") (gt_6 (List.mem_of_getElem? (i := 130) (by decide +kernel)))) (en_r (en_l (en_r (en_r (en_l (en_r (en_r (en_l (en_l (en_r hn))))))))))
    · exact en_ms (hts (Cond.stringRef "Schedulary" 212 "no such kind, or not 1 to 5 cycles") (gt_6 (List.mem_of_getElem? (i := 138) (by decide +kernel)))) (en_l (en_r (en_l (en_r (en_l (en_l (en_l (en_r (en_l (en_r hn))))))))))
    · exact en_ms (hts (Cond.stringRef "Schedulary" 223 "no such value") (gt_6 (List.mem_of_getElem? (i := 146) (by decide +kernel)))) (en_r (en_l (en_r (en_l (en_r (en_r (en_l (en_r (en_l (en_r hn))))))))))
    · exact en_ms (hts (Cond.stringRef "Schedulary" 228 "no such place") (gt_6 (List.mem_of_getElem? (i := 154) (by decide +kernel)))) (en_r (en_r (en_r (en_l (en_l (en_l (en_r (en_r (en_l (en_r hn))))))))))
    · exact en_ms (hts (Cond.stringRef "Schedulary" 233 "no such register") (gt_6 (List.mem_of_getElem? (i := 163) (by decide +kernel)))) (en_r (en_r (en_l (en_r (en_r (en_l (en_r (en_r (en_l (en_r hn))))))))))
    · exact en_ms (hts (Cond.stringRef "Schedulary" 386 "no such node") (gt_6 (List.mem_of_getElem? (i := 175) (by decide +kernel)))) (en_l (en_r (en_l (en_l (en_r (en_r (en_r (en_r (en_l (en_r hn))))))))))
    · exact en_ms (hts (Cond.stringRef "Schedulary" 267 "no such edge") (gt_6 (List.mem_of_getElem? (i := 202) (by decide +kernel)))) (en_r (en_r (en_l (en_l (en_l (en_l (en_l (en_l (en_r (en_r hn))))))))))
    · exact en_ms (hts (Cond.stringRef "Schedulary" 326 "no such process or channel") (gt_7 (List.mem_of_getElem? (i := 18) (by decide +kernel)))) (en_r (en_l (en_r (en_l (en_r (en_l (en_l (en_l (en_r (en_r hn))))))))))
    · exact en_ms (hts (Cond.stringRef "Schedulary" 331 "too many actions") (gt_7 (List.mem_of_getElem? (i := 19) (by decide +kernel)))) (en_r (en_r (en_r (en_l (en_r (en_r (en_l (en_l (en_r (en_r hn))))))))))
    · exact en_ms (hts (Cond.stringRef "Schedulary" 336 "no such channel, or not 1 to 16 deep") (gt_7 (List.mem_of_getElem? (i := 31) (by decide +kernel)))) (en_r (en_l (en_r (en_r (en_l (en_l (en_r (en_l (en_r (en_r hn))))))))))
    · exact en_ms (hts (Cond.stringRef "Schedulary" 347 "no such process") (gt_7 (List.mem_of_getElem? (i := 39) (by decide +kernel)))) (en_l (en_r (en_l (en_r (en_r (en_r (en_r (en_l (en_r (en_r hn))))))))))
    · exact en_ms (hts (Cond.stringRef "Schedulary" 359 "locked by 16, too") (gt_7 (List.mem_of_getElem? (i := 56) (by decide +kernel)))) (en_r (en_r (en_r (en_r (en_l (en_l (en_l (en_r (en_r (en_r hn))))))))))
    · exact en_ms (hts (Cond.stringRef "Schedulary" 365 "no such kind") (gt_7 (List.mem_of_getElem? (i := 64) (by decide +kernel)))) (en_r (en_r (en_r (en_l (en_l (en_r (en_l (en_r (en_r (en_r hn))))))))))
    · exact en_ms (hts (Cond.stringRef "Schedulary" 372 "no nodes") (gt_7 (List.mem_of_getElem? (i := 87) (by decide +kernel)))) (en_r (en_l (en_l (en_r (en_r (en_r (en_l (en_r (en_r (en_r hn))))))))))
  · simp only [ncL, List.mem_cons, List.not_mem_nil, or_false] at hq
    rcases hq with rfl | rfl | rfl | rfl | rfl
    · exact va_Nc.of (en_l (en_r (en_l (en_r (en_r (en_l (en_l (en_l (en_l (en_l hn))))))))))
    · exact va_Nc.of (en_r (en_l (en_r (en_l (en_l (en_l (en_r (en_l (en_l (en_l hn))))))))))
    · exact va_Nc.of (en_r (en_l (en_r (en_r (en_r (en_l (en_l (en_l (en_l (en_l hn))))))))))
    · exact va_Nc.of (en_r (en_r (en_l (en_r (en_r (en_l (en_r (en_l (en_l (en_l hn))))))))))
    · exact va_Nc.of (en_l (en_l (en_r (en_l (en_l (en_r (en_l (en_l (en_l hn)))))))))
