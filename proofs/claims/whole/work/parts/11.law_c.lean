def s311_LC0 (x5 : Int) (i r : MI) (xs : Nat → Int32) (L : Int) (C : MI → MI → Prop)  : Prop := C i r
def wc_0 (xs : Nat → Int32) (L : Int) (C : MI → MI → Prop) (x5 : Int) (i r : MI) : Prop := ((0 ≤ wr (x5 + 1) ∧ wr (x5 + 1) < L) ∧ wp_L_type (((sv xs (wr (x5 + 1)))) % 65536) i r (fun v2 i3 => ((0 ≤ wr (x5 + 1) ∧ wr (x5 + 1) < L) ∧ wp_X12_type (((sv xs (wr (x5 + 1)))) % 65536) i3 r (fun v10 i11 => wp_X12_thrown  i11 r (fun v17 => ((v17 = v2 → ((v2 = 0 → ((((lg_cmp (jMk (i11 540 0) (i11 540 1)) ((sJ v10).toInt64)).toInt) = 0 → s311_LC0 x5 i11 r xs L C) ∧ (¬ ((lg_cmp (jMk (i11 540 0) (i11 540 1)) ((sJ v10).toInt64)).toInt) = 0 → False))) ∧ (¬ v2 = 0 → s311_LC0 x5 i11 r xs L C))) ∧ (¬ v17 = v2 → False)))))))
def wc_1 (xs : Nat → Int32) (L : Int) (C : MI → MI → Prop) (x5 : Int) (i r : MI) : Prop := wp_X11_clear  i r (fun v1 i2 => wp_X12_clear  i2 r (fun v8 i9 => ((v1 = v8 → C i9 r) ∧ (¬ v1 = v8 → False))))
def wc_2 (xs : Nat → Int32) (L : Int) (C : MI → MI → Prop) (x5 : Int) (i r : MI) : Prop := wp_X11_fault  i r (fun v1 i2 => wp_X12_fault  i2 r (fun v8 i9 => ((v1 = v8 → C i9 r) ∧ (¬ v1 = v8 → False))))
def s381_LC3 (x5 : Int) (i r : MI) (xs : Nat → Int32) (L : Int) (C : MI → MI → Prop)  : Prop := C i r
def wc_3 (xs : Nat → Int32) (L : Int) (C : MI → MI → Prop) (x5 : Int) (i r : MI) : Prop := wp_L_add  i r (fun v1 i2 r3 => wp_X12_add  i2 r3 (fun v8 i9 => wp_X12_thrown  i9 r3 (fun v15 => ((v15 = v1 → ((v1 = 0 → ((((lg_cmp (jMk (i9 540 0) (i9 540 1)) ((sJ v8).toInt64)).toInt) = 0 → s381_LC3 x5 i9 r3 xs L C) ∧ (¬ ((lg_cmp (jMk (i9 540 0) (i9 540 1)) ((sJ v8).toInt64)).toInt) = 0 → False))) ∧ (¬ v1 = 0 → s381_LC3 x5 i9 r3 xs L C))) ∧ (¬ v15 = v1 → False)))))
def s437_LC4 (x5 : Int) (i r : MI) (xs : Nat → Int32) (L : Int) (C : MI → MI → Prop)  : Prop := C i r
def wc_4 (xs : Nat → Int32) (L : Int) (C : MI → MI → Prop) (x5 : Int) (i r : MI) : Prop := ((0 ≤ wr (x5 + 1) ∧ wr (x5 + 1) < L) ∧ wp_L_replace (sv xs (wr (x5 + 1))) i r (fun v2 i3 r4 => ((0 ≤ wr (x5 + 1) ∧ wr (x5 + 1) < L) ∧ wp_X12_replace (sv xs (wr (x5 + 1))) i3 r4 (fun v10 i11 => wp_X12_thrown  i11 r4 (fun v17 => ((v17 = v2 → ((v2 = 0 → ((((lg_cmp (jMk (i11 540 0) (i11 540 1)) ((sJ v10).toInt64)).toInt) = 0 → s437_LC4 x5 i11 r4 xs L C) ∧ (¬ ((lg_cmp (jMk (i11 540 0) (i11 540 1)) ((sJ v10).toInt64)).toInt) = 0 → False))) ∧ (¬ v2 = 0 → s437_LC4 x5 i11 r4 xs L C))) ∧ (¬ v17 = v2 → False)))))))
def s493_LC5 (x5 : Int) (i r : MI) (xs : Nat → Int32) (L : Int) (C : MI → MI → Prop)  : Prop := C i r
def wc_5 (xs : Nat → Int32) (L : Int) (C : MI → MI → Prop) (x5 : Int) (i r : MI) : Prop := ((0 ≤ wr (x5 + 1) ∧ wr (x5 + 1) < L) ∧ wp_L_setTurns (sv xs (wr (x5 + 1))) i r (fun v2 i3 => ((0 ≤ wr (x5 + 1) ∧ wr (x5 + 1) < L) ∧ wp_X12_setTurns (sv xs (wr (x5 + 1))) i3 r (fun v10 i11 => wp_X12_thrown  i11 r (fun v17 => ((v17 = v2 → ((v2 = 0 → ((((lg_cmp (jMk (i11 540 0) (i11 540 1)) ((sJ v10).toInt64)).toInt) = 0 → s493_LC5 x5 i11 r xs L C) ∧ (¬ ((lg_cmp (jMk (i11 540 0) (i11 540 1)) ((sJ v10).toInt64)).toInt) = 0 → False))) ∧ (¬ v2 = 0 → s493_LC5 x5 i11 r xs L C))) ∧ (¬ v17 = v2 → False)))))))
def s549_LC6 (x5 : Int) (i r : MI) (xs : Nat → Int32) (L : Int) (C : MI → MI → Prop)  : Prop := C i r
def wc_6 (xs : Nat → Int32) (L : Int) (C : MI → MI → Prop) (x5 : Int) (i r : MI) : Prop := ((0 ≤ wr (x5 + 1) ∧ wr (x5 + 1) < L) ∧ wp_L_setBits (sv xs (wr (x5 + 1))) i r (fun v2 i3 => ((0 ≤ wr (x5 + 1) ∧ wr (x5 + 1) < L) ∧ wp_X12_setBits (sv xs (wr (x5 + 1))) i3 r (fun v10 i11 => wp_X12_thrown  i11 r (fun v17 => ((v17 = v2 → ((v2 = 0 → ((((lg_cmp (jMk (i11 540 0) (i11 540 1)) ((sJ v10).toInt64)).toInt) = 0 → s549_LC6 x5 i11 r xs L C) ∧ (¬ ((lg_cmp (jMk (i11 540 0) (i11 540 1)) ((sJ v10).toInt64)).toInt) = 0 → False))) ∧ (¬ v2 = 0 → s549_LC6 x5 i11 r xs L C))) ∧ (¬ v17 = v2 → False)))))))
def s605_LC7 (x5 : Int) (i r : MI) (xs : Nat → Int32) (L : Int) (C : MI → MI → Prop)  : Prop := C i r
def wc_7 (xs : Nat → Int32) (L : Int) (C : MI → MI → Prop) (x5 : Int) (i r : MI) : Prop := ((0 ≤ wr (x5 + 1) ∧ wr (x5 + 1) < L) ∧ wp_L_unroll (sv xs (wr (x5 + 1))) i r (fun v2 i3 r4 => ((0 ≤ wr (x5 + 1) ∧ wr (x5 + 1) < L) ∧ wp_X12_unroll (sv xs (wr (x5 + 1))) i3 r4 (fun v10 i11 => wp_X12_thrown  i11 r4 (fun v17 => ((v17 = v2 → ((v2 = 0 → ((((lg_cmp (jMk (i11 540 0) (i11 540 1)) ((sJ v10).toInt64)).toInt) = 0 → s605_LC7 x5 i11 r4 xs L C) ∧ (¬ ((lg_cmp (jMk (i11 540 0) (i11 540 1)) ((sJ v10).toInt64)).toInt) = 0 → False))) ∧ (¬ v2 = 0 → s605_LC7 x5 i11 r4 xs L C))) ∧ (¬ v17 = v2 → False)))))))
def s661_LC8 (x5 : Int) (i r : MI) (xs : Nat → Int32) (L : Int) (C : MI → MI → Prop)  : Prop := C i r
def wc_8 (xs : Nat → Int32) (L : Int) (C : MI → MI → Prop) (x5 : Int) (i r : MI) : Prop := ((0 ≤ wr (x5 + 1) ∧ wr (x5 + 1) < L) ∧ wp_L_input (sv xs (wr (x5 + 1))) i r (fun v2 i3 => ((0 ≤ wr (x5 + 1) ∧ wr (x5 + 1) < L) ∧ wp_X12_input (sv xs (wr (x5 + 1))) i3 r (fun v10 i11 => wp_X12_thrown  i11 r (fun v17 => ((v17 = v2 → ((v2 = 0 → ((((lg_cmp (jMk (i11 540 0) (i11 540 1)) ((sJ v10).toInt64)).toInt) = 0 → s661_LC8 x5 i11 r xs L C) ∧ (¬ ((lg_cmp (jMk (i11 540 0) (i11 540 1)) ((sJ v10).toInt64)).toInt) = 0 → False))) ∧ (¬ v2 = 0 → s661_LC8 x5 i11 r xs L C))) ∧ (¬ v17 = v2 → False)))))))
def s743_LC9 (x5 : Int) (i r : MI) (xs : Nat → Int32) (L : Int) (C : MI → MI → Prop)  : Prop := C i r
def wc_9 (xs : Nat → Int32) (L : Int) (C : MI → MI → Prop) (x5 : Int) (i r : MI) : Prop := ((0 ≤ wr (x5 + 1) ∧ wr (x5 + 1) < L) ∧ ((0 ≤ wr (x5 + 2) ∧ wr (x5 + 2) < L) ∧ ((0 ≤ wr (x5 + 3) ∧ wr (x5 + 3) < L) ∧ wp_L_setMemory (((sv xs (wr (x5 + 1)))) % 65536) (sv xs (wr (x5 + 2))) (sv xs (wr (x5 + 3))) i r (fun v4 i5 => ((0 ≤ wr (x5 + 1) ∧ wr (x5 + 1) < L) ∧ ((0 ≤ wr (x5 + 2) ∧ wr (x5 + 2) < L) ∧ ((0 ≤ wr (x5 + 3) ∧ wr (x5 + 3) < L) ∧ wp_X12_setMemory (((sv xs (wr (x5 + 1)))) % 65536) (sv xs (wr (x5 + 2))) (sv xs (wr (x5 + 3))) i5 r (fun v14 i15 => wp_X12_thrown  i15 r (fun v21 => ((v21 = v4 → ((v4 = 0 → ((((lg_cmp (jMk (i15 540 0) (i15 540 1)) ((sJ v14).toInt64)).toInt) = 0 → s743_LC9 x5 i15 r xs L C) ∧ (¬ ((lg_cmp (jMk (i15 540 0) (i15 540 1)) ((sJ v14).toInt64)).toInt) = 0 → False))) ∧ (¬ v4 = 0 → s743_LC9 x5 i15 r xs L C))) ∧ (¬ v21 = v4 → False)))))))))))
def s813_LC10 (x5 : Int) (i r : MI) (xs : Nat → Int32) (L : Int) (C : MI → MI → Prop)  : Prop := C i r
def wc_10 (xs : Nat → Int32) (L : Int) (C : MI → MI → Prop) (x5 : Int) (i r : MI) : Prop := ((0 ≤ wr (x5 + 1) ∧ wr (x5 + 1) < L) ∧ ((0 ≤ wr (x5 + 2) ∧ wr (x5 + 2) < L) ∧ wp_L_setUnits (((sv xs (wr (x5 + 1)))) % 65536) (sv xs (wr (x5 + 2))) i r (fun v3 i4 => ((0 ≤ wr (x5 + 1) ∧ wr (x5 + 1) < L) ∧ ((0 ≤ wr (x5 + 2) ∧ wr (x5 + 2) < L) ∧ wp_X12_setUnits (((sv xs (wr (x5 + 1)))) % 65536) (sv xs (wr (x5 + 2))) i4 r (fun v12 i13 => wp_X12_thrown  i13 r (fun v19 => ((v19 = v3 → ((v3 = 0 → ((((lg_cmp (jMk (i13 540 0) (i13 540 1)) ((sJ v12).toInt64)).toInt) = 0 → s813_LC10 x5 i13 r xs L C) ∧ (¬ ((lg_cmp (jMk (i13 540 0) (i13 540 1)) ((sJ v12).toInt64)).toInt) = 0 → False))) ∧ (¬ v3 = 0 → s813_LC10 x5 i13 r xs L C))) ∧ (¬ v19 = v3 → False)))))))))
def s883_LC11 (x5 : Int) (i r : MI) (xs : Nat → Int32) (L : Int) (C : MI → MI → Prop)  : Prop := C i r
def wc_11 (xs : Nat → Int32) (L : Int) (C : MI → MI → Prop) (x5 : Int) (i r : MI) : Prop := ((0 ≤ wr (x5 + 1) ∧ wr (x5 + 1) < L) ∧ ((0 ≤ wr (x5 + 2) ∧ wr (x5 + 2) < L) ∧ wp_L_setCycles (((sv xs (wr (x5 + 1)))) % 65536) (sv xs (wr (x5 + 2))) i r (fun v3 i4 => ((0 ≤ wr (x5 + 1) ∧ wr (x5 + 1) < L) ∧ ((0 ≤ wr (x5 + 2) ∧ wr (x5 + 2) < L) ∧ wp_X12_setCycles (((sv xs (wr (x5 + 1)))) % 65536) (sv xs (wr (x5 + 2))) i4 r (fun v12 i13 => wp_X12_thrown  i13 r (fun v19 => ((v19 = v3 → ((v3 = 0 → ((((lg_cmp (jMk (i13 540 0) (i13 540 1)) ((sJ v12).toInt64)).toInt) = 0 → s883_LC11 x5 i13 r xs L C) ∧ (¬ ((lg_cmp (jMk (i13 540 0) (i13 540 1)) ((sJ v12).toInt64)).toInt) = 0 → False))) ∧ (¬ v3 = 0 → s883_LC11 x5 i13 r xs L C))) ∧ (¬ v19 = v3 → False)))))))))
def wc_12 (xs : Nat → Int32) (L : Int) (C : MI → MI → Prop) (x5 : Int) (i r : MI) : Prop := wp_X11_outputs  i r (fun v1 i2 => wp_X12_outputs  i2 r (fun v8 i9 => ((v1 = v8 → C i9 r) ∧ (¬ v1 = v8 → False))))
def s952_LC13 (x5 : Int) (i r : MI) (xs : Nat → Int32) (L : Int) (C : MI → MI → Prop)  : Prop := C i r
def wc_13 (xs : Nat → Int32) (L : Int) (C : MI → MI → Prop) (x5 : Int) (i r : MI) : Prop := ((0 ≤ wr (x5 + 1) ∧ wr (x5 + 1) < L) ∧ wp_L_output (sv xs (wr (x5 + 1))) i r (fun v2 i3 => ((0 ≤ wr (x5 + 1) ∧ wr (x5 + 1) < L) ∧ wp_X12_output (sv xs (wr (x5 + 1))) i3 r (fun v10 i11 => wp_X12_thrown  i11 r (fun v17 => ((v17 = v2 → ((v2 = 0 → ((((lg_cmp (jMk (i11 540 0) (i11 540 1)) ((sJ v10).toInt64)).toInt) = 0 → s952_LC13 x5 i11 r xs L C) ∧ (¬ ((lg_cmp (jMk (i11 540 0) (i11 540 1)) ((sJ v10).toInt64)).toInt) = 0 → False))) ∧ (¬ v2 = 0 → s952_LC13 x5 i11 r xs L C))) ∧ (¬ v17 = v2 → False)))))))
def s1022_LC14 (x5 : Int) (i r : MI) (xs : Nat → Int32) (L : Int) (C : MI → MI → Prop)  : Prop := C i r
def wc_14 (xs : Nat → Int32) (L : Int) (C : MI → MI → Prop) (x5 : Int) (i r : MI) : Prop := ((0 ≤ wr (x5 + 1) ∧ wr (x5 + 1) < L) ∧ ((0 ≤ wr (x5 + 2) ∧ wr (x5 + 2) < L) ∧ wp_L_memoryAt (((sv xs (wr (x5 + 1)))) % 65536) (sv xs (wr (x5 + 2))) i r (fun v3 i4 => ((0 ≤ wr (x5 + 1) ∧ wr (x5 + 1) < L) ∧ ((0 ≤ wr (x5 + 2) ∧ wr (x5 + 2) < L) ∧ wp_X12_memoryAt (((sv xs (wr (x5 + 1)))) % 65536) (sv xs (wr (x5 + 2))) i4 r (fun v12 i13 => wp_X12_thrown  i13 r (fun v19 => ((v19 = v3 → ((v3 = 0 → ((((lg_cmp (jMk (i13 540 0) (i13 540 1)) ((sJ v12).toInt64)).toInt) = 0 → s1022_LC14 x5 i13 r xs L C) ∧ (¬ ((lg_cmp (jMk (i13 540 0) (i13 540 1)) ((sJ v12).toInt64)).toInt) = 0 → False))) ∧ (¬ v3 = 0 → s1022_LC14 x5 i13 r xs L C))) ∧ (¬ v19 = v3 → False)))))))))
def s1080_LC15 (x5 : Int) (i r : MI) (xs : Nat → Int32) (L : Int) (C : MI → MI → Prop)  : Prop := C i r
def wc_15 (xs : Nat → Int32) (L : Int) (C : MI → MI → Prop) (x5 : Int) (i r : MI) : Prop := ((0 ≤ wr (x5 + 1) ∧ wr (x5 + 1) < L) ∧ wp_L_register (((sv xs (wr (x5 + 1)))) % 65536) i r (fun v2 i3 => ((0 ≤ wr (x5 + 1) ∧ wr (x5 + 1) < L) ∧ wp_X12_register (((sv xs (wr (x5 + 1)))) % 65536) i3 r (fun v10 i11 => wp_X12_thrown  i11 r (fun v17 => ((v17 = v2 → ((v2 = 0 → ((((lg_cmp (jMk (i11 540 0) (i11 540 1)) ((sJ v10).toInt64)).toInt) = 0 → s1080_LC15 x5 i11 r xs L C) ∧ (¬ ((lg_cmp (jMk (i11 540 0) (i11 540 1)) ((sJ v10).toInt64)).toInt) = 0 → False))) ∧ (¬ v2 = 0 → s1080_LC15 x5 i11 r xs L C))) ∧ (¬ v17 = v2 → False)))))))
def wc_16 (xs : Nat → Int32) (L : Int) (C : MI → MI → Prop) (x5 : Int) (i r : MI) : Prop := wp_X11_taken  i r (fun v1 i2 => wp_X12_taken_  i2 r (fun v8 i9 => ((v1 = v8 → C i9 r) ∧ (¬ v1 = v8 → False))))
def wc_17 (xs : Nat → Int32) (L : Int) (C : MI → MI → Prop) (x5 : Int) (i r : MI) : Prop := wp_X11_nodes  i r (fun v1 i2 r3 => wp_X12_nodes  i2 r3 (fun v8 i9 => ((v1 = v8 → C i9 r3) ∧ (¬ v1 = v8 → False))))
def s1162_LC18 (x5 : Int) (i r : MI) (xs : Nat → Int32) (L : Int) (C : MI → MI → Prop)  : Prop := C i r
def wc_18 (xs : Nat → Int32) (L : Int) (C : MI → MI → Prop) (x5 : Int) (i r : MI) : Prop := ((0 ≤ wr (x5 + 1) ∧ wr (x5 + 1) < L) ∧ wp_L_kindOf (sv xs (wr (x5 + 1))) i r (fun v2 i3 r4 => ((0 ≤ wr (x5 + 1) ∧ wr (x5 + 1) < L) ∧ wp_X12_kindOf (sv xs (wr (x5 + 1))) i3 r4 (fun v10 i11 => wp_X12_thrown  i11 r4 (fun v17 => ((v17 = v2 → ((v2 = 0 → ((((lg_cmp (jMk (i11 540 0) (i11 540 1)) ((sJ v10).toInt64)).toInt) = 0 → s1162_LC18 x5 i11 r4 xs L C) ∧ (¬ ((lg_cmp (jMk (i11 540 0) (i11 540 1)) ((sJ v10).toInt64)).toInt) = 0 → False))) ∧ (¬ v2 = 0 → s1162_LC18 x5 i11 r4 xs L C))) ∧ (¬ v17 = v2 → False)))))))
def s1218_LC19 (x5 : Int) (i r : MI) (xs : Nat → Int32) (L : Int) (C : MI → MI → Prop)  : Prop := C i r
def wc_19 (xs : Nat → Int32) (L : Int) (C : MI → MI → Prop) (x5 : Int) (i r : MI) : Prop := ((0 ≤ wr (x5 + 1) ∧ wr (x5 + 1) < L) ∧ wp_L_statementOf (sv xs (wr (x5 + 1))) i r (fun v2 i3 r4 => ((0 ≤ wr (x5 + 1) ∧ wr (x5 + 1) < L) ∧ wp_X12_statementOf (sv xs (wr (x5 + 1))) i3 r4 (fun v10 i11 => wp_X12_thrown  i11 r4 (fun v17 => ((v17 = v2 → ((v2 = 0 → ((((lg_cmp (jMk (i11 540 0) (i11 540 1)) ((sJ v10).toInt64)).toInt) = 0 → s1218_LC19 x5 i11 r4 xs L C) ∧ (¬ ((lg_cmp (jMk (i11 540 0) (i11 540 1)) ((sJ v10).toInt64)).toInt) = 0 → False))) ∧ (¬ v2 = 0 → s1218_LC19 x5 i11 r4 xs L C))) ∧ (¬ v17 = v2 → False)))))))
def wc_20 (xs : Nat → Int32) (L : Int) (C : MI → MI → Prop) (x5 : Int) (i r : MI) : Prop := wp_X11_edges  i r (fun v1 i2 r3 => wp_X12_edges  i2 r3 (fun v8 i9 => ((v1 = v8 → C i9 r3) ∧ (¬ v1 = v8 → False))))
def s1311_LC21 (x5 : Int) (i r : MI) (xs : Nat → Int32) (L : Int) (C : MI → MI → Prop)  : Prop := C i r
def wc_21 (xs : Nat → Int32) (L : Int) (C : MI → MI → Prop) (x5 : Int) (i r : MI) : Prop := ((0 ≤ wr (x5 + 1) ∧ wr (x5 + 1) < L) ∧ ((0 ≤ wr (x5 + 2) ∧ wr (x5 + 2) < L) ∧ ((0 ≤ wr (x5 + 3) ∧ wr (x5 + 3) < L) ∧ wp_L_weight (sv xs (wr (x5 + 1))) (sv xs (wr (x5 + 2))) (sv xs (wr (x5 + 3))) i r (fun v4 i5 r6 => ((0 ≤ wr (x5 + 1) ∧ wr (x5 + 1) < L) ∧ ((0 ≤ wr (x5 + 2) ∧ wr (x5 + 2) < L) ∧ ((0 ≤ wr (x5 + 3) ∧ wr (x5 + 3) < L) ∧ wp_X12_weight (sv xs (wr (x5 + 1))) (sv xs (wr (x5 + 2))) (sv xs (wr (x5 + 3))) i5 r6 (fun v14 i15 => wp_X12_thrown  i15 r6 (fun v21 => ((v21 = v4 → ((v4 = 0 → ((((lg_cmp (jMk (i15 540 0) (i15 540 1)) ((sJ v14).toInt64)).toInt) = 0 → s1311_LC21 x5 i15 r6 xs L C) ∧ (¬ ((lg_cmp (jMk (i15 540 0) (i15 540 1)) ((sJ v14).toInt64)).toInt) = 0 → False))) ∧ (¬ v4 = 0 → s1311_LC21 x5 i15 r6 xs L C))) ∧ (¬ v21 = v4 → False)))))))))))
def s1367_LC22 (x5 : Int) (i r : MI) (xs : Nat → Int32) (L : Int) (C : MI → MI → Prop)  : Prop := C i r
def wc_22 (xs : Nat → Int32) (L : Int) (C : MI → MI → Prop) (x5 : Int) (i r : MI) : Prop := ((0 ≤ wr (x5 + 1) ∧ wr (x5 + 1) < L) ∧ wp_L_soon (sv xs (wr (x5 + 1))) i r (fun v2 i3 r4 => ((0 ≤ wr (x5 + 1) ∧ wr (x5 + 1) < L) ∧ wp_X12_soon (sv xs (wr (x5 + 1))) i3 r4 (fun v10 i11 => wp_X12_thrown  i11 r4 (fun v17 => ((v17 = v2 → ((v2 = 0 → ((((lg_cmp (jMk (i11 540 0) (i11 540 1)) ((sJ v10).toInt64)).toInt) = 0 → s1367_LC22 x5 i11 r4 xs L C) ∧ (¬ ((lg_cmp (jMk (i11 540 0) (i11 540 1)) ((sJ v10).toInt64)).toInt) = 0 → False))) ∧ (¬ v2 = 0 → s1367_LC22 x5 i11 r4 xs L C))) ∧ (¬ v17 = v2 → False)))))))
def s1423_LC23 (x5 : Int) (i r : MI) (xs : Nat → Int32) (L : Int) (C : MI → MI → Prop)  : Prop := C i r
def wc_23 (xs : Nat → Int32) (L : Int) (C : MI → MI → Prop) (x5 : Int) (i r : MI) : Prop := ((0 ≤ wr (x5 + 1) ∧ wr (x5 + 1) < L) ∧ wp_L_late (sv xs (wr (x5 + 1))) i r (fun v2 i3 r4 => ((0 ≤ wr (x5 + 1) ∧ wr (x5 + 1) < L) ∧ wp_X12_late (sv xs (wr (x5 + 1))) i3 r4 (fun v10 i11 => wp_X12_thrown  i11 r4 (fun v17 => ((v17 = v2 → ((v2 = 0 → ((((lg_cmp (jMk (i11 540 0) (i11 540 1)) ((sJ v10).toInt64)).toInt) = 0 → s1423_LC23 x5 i11 r4 xs L C) ∧ (¬ ((lg_cmp (jMk (i11 540 0) (i11 540 1)) ((sJ v10).toInt64)).toInt) = 0 → False))) ∧ (¬ v2 = 0 → s1423_LC23 x5 i11 r4 xs L C))) ∧ (¬ v17 = v2 → False)))))))
def s1479_LC24 (x5 : Int) (i r : MI) (xs : Nat → Int32) (L : Int) (C : MI → MI → Prop)  : Prop := C i r
def wc_24 (xs : Nat → Int32) (L : Int) (C : MI → MI → Prop) (x5 : Int) (i r : MI) : Prop := ((0 ≤ wr (x5 + 1) ∧ wr (x5 + 1) < L) ∧ wp_L_step (sv xs (wr (x5 + 1))) i r (fun v2 i3 r4 => ((0 ≤ wr (x5 + 1) ∧ wr (x5 + 1) < L) ∧ wp_X12_step (sv xs (wr (x5 + 1))) i3 r4 (fun v10 i11 => wp_X12_thrown  i11 r4 (fun v17 => ((v17 = v2 → ((v2 = 0 → ((((lg_cmp (jMk (i11 540 0) (i11 540 1)) ((sJ v10).toInt64)).toInt) = 0 → s1479_LC24 x5 i11 r4 xs L C) ∧ (¬ ((lg_cmp (jMk (i11 540 0) (i11 540 1)) ((sJ v10).toInt64)).toInt) = 0 → False))) ∧ (¬ v2 = 0 → s1479_LC24 x5 i11 r4 xs L C))) ∧ (¬ v17 = v2 → False)))))))
def wc_25 (xs : Nat → Int32) (L : Int) (C : MI → MI → Prop) (x5 : Int) (i r : MI) : Prop := wp_X11_length  i r (fun v1 i2 r3 => wp_X12_length  i2 r3 (fun v8 i9 => ((v1 = v8 → C i9 r3) ∧ (¬ v1 = v8 → False))))
def wc_26 (xs : Nat → Int32) (L : Int) (C : MI → MI → Prop) (x5 : Int) (i r : MI) : Prop := ((0 ≤ wr (x5 + 1) ∧ wr (x5 + 1) < L) ∧ wp_X11_inStep (sv xs (wr (x5 + 1))) i r (fun v2 i3 r4 => ((0 ≤ wr (x5 + 1) ∧ wr (x5 + 1) < L) ∧ wp_X12_inStep (sv xs (wr (x5 + 1))) i3 r4 (fun v10 i11 => ((v2 = v10 → C i11 r4) ∧ (¬ v2 = v10 → False))))))
def wc_27 (xs : Nat → Int32) (L : Int) (C : MI → MI → Prop) (x5 : Int) (i r : MI) : Prop := wp_X11_waiting  i r (fun v1 i2 r3 => wp_X12_waiting  i2 r3 (fun v8 i9 => ((v1 = v8 → C i9 r3) ∧ (¬ v1 = v8 → False))))
def wc_28 (xs : Nat → Int32) (L : Int) (C : MI → MI → Prop) (x5 : Int) (i r : MI) : Prop := wp_X11_byRings  i r (fun v1 i2 r3 => wp_X12_byRings  i2 r3 (fun v8 i9 => ((v1 = v8 → C i9 r3) ∧ (¬ v1 = v8 → False))))
def wc_29 (xs : Nat → Int32) (L : Int) (C : MI → MI → Prop) (x5 : Int) (i r : MI) : Prop := wp_X11_byUnits  i r (fun v1 i2 r3 => wp_X12_byUnits  i2 r3 (fun v8 i9 => ((v1 = v8 → C i9 r3) ∧ (¬ v1 = v8 → False))))
def wc_30 (xs : Nat → Int32) (L : Int) (C : MI → MI → Prop) (x5 : Int) (i r : MI) : Prop := wp_X11_interval  i r (fun v1 i2 r3 => wp_X12_interval  i2 r3 (fun v8 i9 => ((v1 = v8 → C i9 r3) ∧ (¬ v1 = v8 → False))))
def wc_31 (xs : Nat → Int32) (L : Int) (C : MI → MI → Prop) (x5 : Int) (i r : MI) : Prop := wp_X11_binds  i r (fun v1 i2 r3 => wp_X12_binds  i2 r3 (fun v8 i9 => ((v1 = v8 → C i9 r3) ∧ (¬ v1 = v8 → False))))
def s1638_LC32 (x5 : Int) (i r : MI) (xs : Nat → Int32) (L : Int) (C : MI → MI → Prop)  : Prop := C i r
def wc_32 (xs : Nat → Int32) (L : Int) (C : MI → MI → Prop) (x5 : Int) (i r : MI) : Prop := ((0 ≤ wr (x5 + 1) ∧ wr (x5 + 1) < L) ∧ wp_L_place (sv xs (wr (x5 + 1))) i r (fun v2 i3 r4 => ((0 ≤ wr (x5 + 1) ∧ wr (x5 + 1) < L) ∧ wp_X12_place (sv xs (wr (x5 + 1))) i3 r4 (fun v10 i11 => wp_X12_thrown  i11 r4 (fun v17 => ((v17 = v2 → ((v2 = 0 → ((((lg_cmp (jMk (i11 540 0) (i11 540 1)) ((sJ v10).toInt64)).toInt) = 0 → s1638_LC32 x5 i11 r4 xs L C) ∧ (¬ ((lg_cmp (jMk (i11 540 0) (i11 540 1)) ((sJ v10).toInt64)).toInt) = 0 → False))) ∧ (¬ v2 = 0 → s1638_LC32 x5 i11 r4 xs L C))) ∧ (¬ v17 = v2 → False)))))))
def wc_33 (xs : Nat → Int32) (L : Int) (C : MI → MI → Prop) (x5 : Int) (i r : MI) : Prop := wp_X11_cycles  i r (fun v1 i2 r3 => wp_X12_cycles  i2 r3 (fun v8 i9 => ((v1 = v8 → C i9 r3) ∧ (¬ v1 = v8 → False))))
def wc_34 (xs : Nat → Int32) (L : Int) (C : MI → MI → Prop) (x5 : Int) (i r : MI) : Prop := wp_X11_oneByOne  i r (fun v1 i2 r3 => wp_X12_oneByOne  i2 r3 (fun v8 i9 => ((v1 = v8 → C i9 r3) ∧ (¬ v1 = v8 → False))))
def wc_35 (xs : Nat → Int32) (L : Int) (C : MI → MI → Prop) (x5 : Int) (i r : MI) : Prop := wp_X11_circuitOutputs  i r (fun v1 i2 r3 => wp_X12_circuitOutputs  i2 r3 (fun v8 i9 => ((v1 = v8 → C i9 r3) ∧ (¬ v1 = v8 → False))))
def s1733_LC36 (x5 : Int) (i r : MI) (xs : Nat → Int32) (L : Int) (C : MI → MI → Prop)  : Prop := C i r
def wc_36 (xs : Nat → Int32) (L : Int) (C : MI → MI → Prop) (x5 : Int) (i r : MI) : Prop := ((0 ≤ wr (x5 + 1) ∧ wr (x5 + 1) < L) ∧ wp_L_circuitOutput (sv xs (wr (x5 + 1))) i r (fun v2 i3 r4 => ((0 ≤ wr (x5 + 1) ∧ wr (x5 + 1) < L) ∧ wp_X12_circuitOutput (sv xs (wr (x5 + 1))) i3 r4 (fun v10 i11 => wp_X12_thrown  i11 r4 (fun v17 => ((v17 = v2 → ((v2 = 0 → ((((lg_cmp (jMk (i11 540 0) (i11 540 1)) ((sJ v10).toInt64)).toInt) = 0 → s1733_LC36 x5 i11 r4 xs L C) ∧ (¬ ((lg_cmp (jMk (i11 540 0) (i11 540 1)) ((sJ v10).toInt64)).toInt) = 0 → False))) ∧ (¬ v2 = 0 → s1733_LC36 x5 i11 r4 xs L C))) ∧ (¬ v17 = v2 → False)))))))
def s1803_LC37 (x5 : Int) (i r : MI) (xs : Nat → Int32) (L : Int) (C : MI → MI → Prop)  : Prop := C i r
def wc_37 (xs : Nat → Int32) (L : Int) (C : MI → MI → Prop) (x5 : Int) (i r : MI) : Prop := ((0 ≤ wr (x5 + 1) ∧ wr (x5 + 1) < L) ∧ ((0 ≤ wr (x5 + 2) ∧ wr (x5 + 2) < L) ∧ wp_L_circuitMemory (((sv xs (wr (x5 + 1)))) % 65536) (sv xs (wr (x5 + 2))) i r (fun v3 i4 r5 => ((0 ≤ wr (x5 + 1) ∧ wr (x5 + 1) < L) ∧ ((0 ≤ wr (x5 + 2) ∧ wr (x5 + 2) < L) ∧ wp_X12_circuitMemory (((sv xs (wr (x5 + 1)))) % 65536) (sv xs (wr (x5 + 2))) i4 r5 (fun v12 i13 => wp_X12_thrown  i13 r5 (fun v19 => ((v19 = v3 → ((v3 = 0 → ((((lg_cmp (jMk (i13 540 0) (i13 540 1)) ((sJ v12).toInt64)).toInt) = 0 → s1803_LC37 x5 i13 r5 xs L C) ∧ (¬ ((lg_cmp (jMk (i13 540 0) (i13 540 1)) ((sJ v12).toInt64)).toInt) = 0 → False))) ∧ (¬ v3 = 0 → s1803_LC37 x5 i13 r5 xs L C))) ∧ (¬ v19 = v3 → False)))))))))
def wc_38 (xs : Nat → Int32) (L : Int) (C : MI → MI → Prop) (x5 : Int) (i r : MI) : Prop := wp_X11_isSame  i r (fun v1 i2 r3 => wp_X12_isSame  i2 r3 (fun v8 i9 => ((v1 = v8 → C i9 r3) ∧ (¬ v1 = v8 → False))))
def s1912_LC39 (x5 : Int) (i r : MI) (xs : Nat → Int32) (L : Int) (C : MI → MI → Prop)  : Prop := C i r
def s1879_LC39 (x5 : Int) (x6 : Int) (k1 : Int) (k2 : Int) (k3 : Int) (i r : MI) (xs : Nat → Int32) (L : Int) (C : MI → MI → Prop)  : Prop := wp_X12_action k1 k2 k3 i r (fun v1 i2 => wp_X12_thrown  i2 r (fun v8 => ((v8 = x6 → ((x6 = 0 → ((((lg_cmp (jMk (i2 540 0) (i2 540 1)) ((sJ v1).toInt64)).toInt) = 0 → s1912_LC39 x5 i2 r xs L C) ∧ (¬ ((lg_cmp (jMk (i2 540 0) (i2 540 1)) ((sJ v1).toInt64)).toInt) = 0 → False))) ∧ (¬ x6 = 0 → s1912_LC39 x5 i2 r xs L C))) ∧ (¬ v8 = x6 → False))))
def s1846_LC39 (x5 : Int) (k1 : Int) (k2 : Int) (k3 : Int) (i r : MI) (xs : Nat → Int32) (L : Int) (C : MI → MI → Prop)  : Prop := wp_L_action k1 k2 k3 i r (fun v55 i56 => ((0 ≤ wr (x5 + 1) ∧ wr (x5 + 1) < L) ∧ ((0 ≤ wr (x5 + 2) ∧ wr (x5 + 2) < L) ∧ ((0 ≤ wr (x5 + 3) ∧ wr (x5 + 3) < L) ∧ (((sv xs (wr (x5 + 3))) = 0 → s1879_LC39 x5 v55 (sv xs (wr (x5 + 1))) (sv xs (wr (x5 + 2))) 0 i56 r xs L C) ∧ (¬ (sv xs (wr (x5 + 3))) = 0 → s1879_LC39 x5 v55 (sv xs (wr (x5 + 1))) (sv xs (wr (x5 + 2))) 1 i56 r xs L C))))))
def wc_39 (xs : Nat → Int32) (L : Int) (C : MI → MI → Prop) (x5 : Int) (i r : MI) : Prop := ((0 ≤ wr (x5 + 1) ∧ wr (x5 + 1) < L) ∧ ((0 ≤ wr (x5 + 2) ∧ wr (x5 + 2) < L) ∧ ((0 ≤ wr (x5 + 3) ∧ wr (x5 + 3) < L) ∧ (((sv xs (wr (x5 + 3))) = 0 → s1846_LC39 x5 (sv xs (wr (x5 + 1))) (sv xs (wr (x5 + 2))) 0 i r xs L C) ∧ (¬ (sv xs (wr (x5 + 3))) = 0 → s1846_LC39 x5 (sv xs (wr (x5 + 1))) (sv xs (wr (x5 + 2))) 1 i r xs L C)))))
def s1980_LC40 (x5 : Int) (i r : MI) (xs : Nat → Int32) (L : Int) (C : MI → MI → Prop)  : Prop := C i r
def wc_40 (xs : Nat → Int32) (L : Int) (C : MI → MI → Prop) (x5 : Int) (i r : MI) : Prop := ((0 ≤ wr (x5 + 1) ∧ wr (x5 + 1) < L) ∧ ((0 ≤ wr (x5 + 2) ∧ wr (x5 + 2) < L) ∧ wp_L_setDepth (sv xs (wr (x5 + 1))) (sv xs (wr (x5 + 2))) i r (fun v3 i4 => ((0 ≤ wr (x5 + 1) ∧ wr (x5 + 1) < L) ∧ ((0 ≤ wr (x5 + 2) ∧ wr (x5 + 2) < L) ∧ wp_X12_setDepth (sv xs (wr (x5 + 1))) (sv xs (wr (x5 + 2))) i4 r (fun v12 i13 => wp_X12_thrown  i13 r (fun v19 => ((v19 = v3 → ((v3 = 0 → ((((lg_cmp (jMk (i13 540 0) (i13 540 1)) ((sJ v12).toInt64)).toInt) = 0 → s1980_LC40 x5 i13 r xs L C) ∧ (¬ ((lg_cmp (jMk (i13 540 0) (i13 540 1)) ((sJ v12).toInt64)).toInt) = 0 → False))) ∧ (¬ v3 = 0 → s1980_LC40 x5 i13 r xs L C))) ∧ (¬ v19 = v3 → False)))))))))
def wc_41 (xs : Nat → Int32) (L : Int) (C : MI → MI → Prop) (x5 : Int) (i r : MI) : Prop := wp_X11_done  i r (fun v1 i2 => wp_X12_done  i2 r (fun v8 i9 => ((v1 = v8 → C i9 r) ∧ (¬ v1 = v8 → False))))
def s2049_LC42 (x5 : Int) (i r : MI) (xs : Nat → Int32) (L : Int) (C : MI → MI → Prop)  : Prop := C i r
def wc_42 (xs : Nat → Int32) (L : Int) (C : MI → MI → Prop) (x5 : Int) (i r : MI) : Prop := ((0 ≤ wr (x5 + 1) ∧ wr (x5 + 1) < L) ∧ wp_L_waitsFor (sv xs (wr (x5 + 1))) i r (fun v2 i3 => ((0 ≤ wr (x5 + 1) ∧ wr (x5 + 1) < L) ∧ wp_X12_waitsFor (sv xs (wr (x5 + 1))) i3 r (fun v10 i11 => wp_X12_thrown  i11 r (fun v17 => ((v17 = v2 → ((v2 = 0 → ((((lg_cmp (jMk (i11 540 0) (i11 540 1)) ((sJ v10).toInt64)).toInt) = 0 → s2049_LC42 x5 i11 r xs L C) ∧ (¬ ((lg_cmp (jMk (i11 540 0) (i11 540 1)) ((sJ v10).toInt64)).toInt) = 0 → False))) ∧ (¬ v2 = 0 → s2049_LC42 x5 i11 r xs L C))) ∧ (¬ v17 = v2 → False)))))))
def wc_43 (xs : Nat → Int32) (L : Int) (C : MI → MI → Prop) (x5 : Int) (i r : MI) : Prop := wp_X11_areLocked  i r (fun v1 i2 => wp_X12_areLocked  i2 r (fun v8 i9 => ((v1 = v8 → C i9 r) ∧ (¬ v1 = v8 → False))))
def s2106_LC44 (x5 : Int) (i r : MI) (xs : Nat → Int32) (L : Int) (C : MI → MI → Prop)  : Prop := C i r
def wc_44 (xs : Nat → Int32) (L : Int) (C : MI → MI → Prop) (x5 : Int) (i r : MI) : Prop := wp_L_leastDepth  i r (fun v1 i2 => wp_X12_leastDepth  i2 r (fun v8 i9 => wp_X12_thrown  i9 r (fun v15 => ((v15 = v1 → ((v1 = 0 → ((((lg_cmp (jMk (i9 540 0) (i9 540 1)) ((sJ v8).toInt64)).toInt) = 0 → s2106_LC44 x5 i9 r xs L C) ∧ (¬ ((lg_cmp (jMk (i9 540 0) (i9 540 1)) ((sJ v8).toInt64)).toInt) = 0 → False))) ∧ (¬ v1 = 0 → s2106_LC44 x5 i9 r xs L C))) ∧ (¬ v15 = v1 → False)))))
def wc_45 (xs : Nat → Int32) (L : Int) (C : MI → MI → Prop) (x5 : Int) (i r : MI) : Prop := wp_X11_checksum  i r (fun v1 i2 r3 => wp_X12_checksum  i2 r3 (fun v8 i9 => ((((lg_cmp v1 v8).toInt) = 0 → C i9 r3) ∧ (¬ ((lg_cmp v1 v8).toInt) = 0 → False))))
def s2200_LC46 (x5 : Int) (i r : MI) (xs : Nat → Int32) (L : Int) (C : MI → MI → Prop)  : Prop := C i r
def s2198_LC46  (i r : MI) (xs : Nat → Int32) (L : Int) (C : MI → MI → Prop)  : Prop := False
def wc_46 (xs : Nat → Int32) (L : Int) (C : MI → MI → Prop) (x5 : Int) (i r : MI) : Prop := ((0 ≤ wr (x5 + 1) ∧ wr (x5 + 1) < L) ∧ wp_L_busyShare (((sv xs (wr (x5 + 1)))) % 65536) i r (fun v2 i3 r4 => ((0 ≤ wr (x5 + 1) ∧ wr (x5 + 1) < L) ∧ wp_X12_busyShare (((sv xs (wr (x5 + 1)))) % 65536) i3 r4 (fun v10 i11 => wp_X12_thrown  i11 r4 (fun v17 => ((v17 = v2 → ((v2 = 0 → (vf_n64 (FP.f2d v10) ∧ ((((Op.cmpValue (FP.dcmp ((jMk (i11 541 0) (i11 541 1)).toUInt64) (FP.f2d v10)) .l).toInt) = 0 → s2200_LC46 x5 i11 r4 xs L C) ∧ (¬ ((Op.cmpValue (FP.dcmp ((jMk (i11 541 0) (i11 541 1)).toUInt64) (FP.f2d v10)) .l).toInt) = 0 → ((((Op.cmpValue (FP.dcmp ((jMk (i11 541 0) (i11 541 1)).toUInt64) ((jMk (i11 541 0) (i11 541 1)).toUInt64)) .l).toInt) = 0 → s2198_LC46 i11 r4 xs L C) ∧ (¬ ((Op.cmpValue (FP.dcmp ((jMk (i11 541 0) (i11 541 1)).toUInt64) ((jMk (i11 541 0) (i11 541 1)).toUInt64)) .l).toInt) = 0 → ((((Op.cmpValue (FP.fcmp v10 v10) .l).toInt) = 0 → s2198_LC46 i11 r4 xs L C) ∧ (¬ ((Op.cmpValue (FP.fcmp v10 v10) .l).toInt) = 0 → s2200_LC46 x5 i11 r4 xs L C)))))))) ∧ (¬ v2 = 0 → s2200_LC46 x5 i11 r4 xs L C))) ∧ (¬ v17 = v2 → False)))))))
def s2265_LC47 (x5 : Int) (i r : MI) (xs : Nat → Int32) (L : Int) (C : MI → MI → Prop)  : Prop := C i r
def s2263_LC47  (i r : MI) (xs : Nat → Int32) (L : Int) (C : MI → MI → Prop)  : Prop := False
def wc_47 (xs : Nat → Int32) (L : Int) (C : MI → MI → Prop) (x5 : Int) (i r : MI) : Prop := wp_L_meanStep  i r (fun v1 i2 r3 => wp_X12_meanStep  i2 r3 (fun v8 i9 => wp_X12_thrown  i9 r3 (fun v15 => ((v15 = v1 → ((v1 = 0 → ((((Op.cmpValue (FP.dcmp ((jMk (i9 541 0) (i9 541 1)).toUInt64) v8) .l).toInt) = 0 → s2265_LC47 x5 i9 r3 xs L C) ∧ (¬ ((Op.cmpValue (FP.dcmp ((jMk (i9 541 0) (i9 541 1)).toUInt64) v8) .l).toInt) = 0 → ((((Op.cmpValue (FP.dcmp ((jMk (i9 541 0) (i9 541 1)).toUInt64) ((jMk (i9 541 0) (i9 541 1)).toUInt64)) .l).toInt) = 0 → s2263_LC47 i9 r3 xs L C) ∧ (¬ ((Op.cmpValue (FP.dcmp ((jMk (i9 541 0) (i9 541 1)).toUInt64) ((jMk (i9 541 0) (i9 541 1)).toUInt64)) .l).toInt) = 0 → ((((Op.cmpValue (FP.dcmp v8 v8) .l).toInt) = 0 → s2263_LC47 i9 r3 xs L C) ∧ (¬ ((Op.cmpValue (FP.dcmp v8 v8) .l).toInt) = 0 → s2265_LC47 x5 i9 r3 xs L C))))))) ∧ (¬ v1 = 0 → s2265_LC47 x5 i9 r3 xs L C))) ∧ (¬ v15 = v1 → False)))))
def wc_48 (xs : Nat → Int32) (L : Int) (C : MI → MI → Prop) (x5 : Int) (i r : MI) : Prop := wp_X11_isSound  i r (fun v1 i2 r3 => wp_X12_isSound  i2 r3 (fun v8 i9 => ((v1 = v8 → C i9 r3) ∧ (¬ v1 = v8 → False))))
set_option maxRecDepth 100000 in
set_option maxHeartbeats 4000000 in
theorem lc_0 {Γ : Cx} {Δ : Wd} {l : Launch} {R : Room} {Q0 : State → Prop} {b : Nat} {xs : Nat → Int32} {L : Nat} {x5 : Int} {kc sl : Nat} {C : MI → MI → Prop} {i r : MI} (hst : l.stackTraces = false) (hG : okG Γ Δ l R cL_law "SchedularyLaw" 9) (hX : okS Γ Δ b L xs) (hR0 : 20 ≤ R.frames ∧ 10000 ≤ R.locals ∧ kc + 3 ≤ R.cells ∧ sl + 18 ≤ R.slots) (hx5 : sR x5) (hi : okI i) (hw : Wf r) (h : wc_0 xs L C x5 i r)
    (kk : ∀ i' r' : MI, okI i' → Wf r' → C i' r' → V Γ Δ 542 false i' r' (kc + 3) (sl + 18) Q0 2281 [(0, .ref b), (1, .ref (sA Δ 0)), (2, .ref (sA Δ 504)), (3, .ref (sA Δ 540)), (4, .ref (sA Δ 541)), (5, .int (sJ x5))] []) : V Γ Δ 542 false i r kc sl Q0 256 [(0, .ref b), (1, .ref (sA Δ 0)), (2, .ref (sA Δ 504)), (3, .ref (sA Δ 540)), (4, .ref (sA Δ 541)), (5, .int (sJ x5))] [] := by
  unfold wc_0 at h
  have jn311 : ∀  (ij311 : MI), okI ij311 → s311_LC0 x5 ij311 r xs L C → V Γ Δ 542 false ij311 r (kc + 3) (sl + 18) Q0 311 [(0, .ref b), (1, .ref (sA Δ 0)), (2, .ref (sA Δ 504)), (3, .ref (sA Δ 540)), (4, .ref (sA Δ 541)), (5, .int (sJ x5))] [] := by
    intro ij311 hij311 h
    refine V.goto (pc := 311) (tgt := 2281) hG dL_law_311 (by decide) ?_
    refine V.ks (kc2 := kc + 3) (sl2 := sl + 18) (by omega) (by omega) ?_
    exact kk ij311 r hij311 hw h
  refine V.aload_n (pc := 256) hG dL_law_256 rfl 1 rfl ?_
  refine V.aload_n (pc := 257) hG dL_law_257 rfl 0 rfl ?_
  refine V.iload (pc := 258) hG dL_law_258 5 rfl ?_
  refine V.iconst (pc := 260) hG dL_law_260 ?_
  refine V.iadd (pc := 261) hG dL_law_261 ?_
  obtain ⟨g1, h⟩ := h
  refine V.sld (pc := 262) hG hX ((sR_wr _)) g1 dL_law_262 ?_
  refine V.i2c (pc := 263) hG ((sR_sv _ _)) dL_law_263 ?_
  refine V.aload_n (pc := 264) hG dL_law_264 rfl 3 rfl ?_
  refine V.callSWi (pc := 265) (na := 3) (As := [.ref (sA Δ 0), .int (sJ (((sv xs (wr (x5 + 1)))) % 65536)), .ref (sA Δ 540)]) (stk := []) hG (sm_L_type l Δ sR_c hst hi hw h) kw_157 kl_L_type (by decide) (by decide +kernel) kw_1244 kw_1245 ⟨Nat.le_trans (Nat.le_of_ble_eq_true rfl) hR0.1, Nat.le_trans (Nat.le_of_ble_eq_true rfl) hR0.2.1, by omega, by omega⟩ rfl (Nat.le_of_ble_eq_true rfl) dL_law_265 rfl (fun v2 i3 r4 hv5 hi6 hw7 hq8 => ?_)
  obtain ⟨e38, h⟩ := hq8
  subst e38
  refine V.ks (kc2 := kc + 3) (sl2 := sl + 18) (by omega) (by omega) ?_
  refine V.istore (pc := 268) (lv' := [(6, .int (sJ v2)), (0, .ref b), (1, .ref (sA Δ 0)), (2, .ref (sA Δ 504)), (3, .ref (sA Δ 540)), (4, .ref (sA Δ 541)), (5, .int (sJ x5))]) hG dL_law_268 (by decide) rfl ?_
  refine V.aload_n (pc := 270) hG dL_law_270 rfl 3 rfl ?_
  refine V.aload_n (pc := 271) hG dL_law_271 rfl 1 rfl ?_
  refine V.iload (pc := 272) hG dL_law_272 6 rfl ?_
  refine V.iconst (pc := 274) hG dL_law_274 ?_
  refine V.iadd (pc := 275) hG dL_law_275 ?_
  obtain ⟨g9, h⟩ := h
  refine V.sld (pc := 276) hG hX ((sR_wr _)) g9 dL_law_276 ?_
  refine V.i2c (pc := 277) hG ((sR_sv _ _)) dL_law_277 ?_
  refine V.callVi (pc := 278) (As := [.int (sJ (((sv xs (wr (x5 + 1)))) % 65536))]) (stk := []) hG (sm_X12_type l Δ sR_c hi6 hw h) mY_X12_type kw_1844 kw_1845 kw_1846 a_504 (by decide) (q := (RX12, TX12, 49)) rfl rfl ⟨Nat.le_trans (Nat.le_of_ble_eq_true rfl) hR0.1, Nat.le_trans (Nat.le_of_ble_eq_true rfl) hR0.2.1, by omega, by omega⟩ rfl (Nat.le_of_ble_eq_true rfl) dL_law_278 rfl (fun v10 i11 r12 hv13 hi14 hw15 hq16 => ?_)
  obtain ⟨e36, h⟩ := hq16
  subst e36
  refine V.istore (pc := 281) (lv' := [(7, .int (sJ v10)), (6, .int (sJ v2)), (0, .ref b), (1, .ref (sA Δ 0)), (2, .ref (sA Δ 504)), (3, .ref (sA Δ 540)), (4, .ref (sA Δ 541)), (5, .int (sJ x5))]) hG dL_law_281 (by decide) rfl ?_
  refine V.aload_n (pc := 283) hG dL_law_283 rfl 4 rfl ?_
  refine V.callVi (pc := 284) (As := []) (stk := []) hG (sm_X12_thrown l Δ  hi14 hw h) mY_X12_thrown kw_1840 kw_1841 kw_1842 a_504 (by decide) (q := (RX12, TX12, 49)) rfl rfl ⟨Nat.le_trans (Nat.le_of_ble_eq_true rfl) hR0.1, Nat.le_trans (Nat.le_of_ble_eq_true rfl) hR0.2.1, by omega, by omega⟩ rfl (Nat.le_of_ble_eq_true rfl) dL_law_284 rfl (fun v17 i18 r19 hv20 hi21 hw22 hq23 => ?_)
  obtain ⟨e33, e34, h⟩ := hq23
  subst e33
  subst e34
  refine V.iload (pc := 287) hG dL_law_287 1 rfl ?_
  obtain ⟨t25, f26⟩ := h
  refine V.icmp_eq (pc := 289) (tgt := 294) hG hv20 hv5 dL_law_289 (by decide) (fun c24 => ?_) (fun c24 => ?_)
  · have h := t25 c24
    clear t25 f26
    refine V.iload (pc := 294) hG dL_law_294 1 rfl ?_
    obtain ⟨f29, t28⟩ := h
    refine V.if_ne (pc := 296) (tgt := 311) hG hv5 dL_law_296 (by decide) (fun c27 => ?_) (fun c27 => ?_)
    · have h := t28 c27
      clear t28 f29
      refine V.pick [2, 3, 4, 5, 6, 7] rfl ?_
      exact jn311 i11 hi14 h
    · have h := f29 c27
      clear t28 f29
      refine V.aload_n (pc := 299) hG dL_law_299 rfl 5 rfl ?_
      refine V.iconst (pc := 300) hG dL_law_300 ?_
      refine V.lald0 (pc := 301) (z := 1) (o := 540) hG a_540 a_540.n (by decide) dL_law_301 ?_
      refine V.iload (pc := 302) hG dL_law_302 0 rfl ?_
      refine V.i2l (pc := 304) hG dL_law_304 ?_
      refine V.lcmp (pc := 305) hG dL_law_305 ?_
      obtain ⟨t31, f32⟩ := h
      refine V.if_eq (pc := 306) (tgt := 311) hG ((sR_of _)) dL_law_306 (by decide) (fun c30 => ?_) (fun c30 => ?_)
      · have h := t31 c30
        clear t31 f32
        refine V.pick [2, 3, 4, 5, 6, 7] rfl ?_
        exact jn311 i11 hi14 h
      · have h := f32 c30
        clear t31 f32
        refine V.iconst (pc := 309) hG dL_law_309 ?_
        exact h.elim
  · have h := f26 c24
    clear t25 f26
    refine V.iconst (pc := 292) hG dL_law_292 ?_
    exact h.elim
set_option maxRecDepth 100000 in
set_option maxHeartbeats 4000000 in
theorem lc_1 {Γ : Cx} {Δ : Wd} {l : Launch} {R : Room} {Q0 : State → Prop} {b : Nat} {xs : Nat → Int32} {L : Nat} {x5 : Int} {kc sl : Nat} {C : MI → MI → Prop} {i r : MI} (hst : l.stackTraces = false) (hG : okG Γ Δ l R cL_law "SchedularyLaw" 9) (hX : okS Γ Δ b L xs) (hR0 : 20 ≤ R.frames ∧ 10000 ≤ R.locals ∧ kc + 3 ≤ R.cells ∧ sl + 18 ≤ R.slots) (hx5 : sR x5) (hi : okI i) (hw : Wf r) (h : wc_1 xs L C x5 i r)
    (kk : ∀ i' r' : MI, okI i' → Wf r' → C i' r' → V Γ Δ 542 false i' r' (kc + 3) (sl + 18) Q0 2281 [(0, .ref b), (1, .ref (sA Δ 0)), (2, .ref (sA Δ 504)), (3, .ref (sA Δ 540)), (4, .ref (sA Δ 541)), (5, .int (sJ x5))] []) : V Γ Δ 542 false i r kc sl Q0 314 [(0, .ref b), (1, .ref (sA Δ 0)), (2, .ref (sA Δ 504)), (3, .ref (sA Δ 540)), (4, .ref (sA Δ 541)), (5, .int (sJ x5))] [] := by
  refine V.ks (kc2 := kc + 3) (sl2 := sl + 18) (by omega) (by omega) ?_
  unfold wc_1 at h
  refine V.aload_n (pc := 314) hG dL_law_314 rfl 1 rfl ?_
  refine V.callVi (pc := 315) (As := []) (stk := []) hG (sm_X11_clear l Δ  hi hw h) mY_X11_clear kw_610 kw_611 kw_612 a_0 (by decide) (q := (RX11, TX11, 11)) rfl rfl ⟨Nat.le_trans (Nat.le_of_ble_eq_true rfl) hR0.1, Nat.le_trans (Nat.le_of_ble_eq_true rfl) hR0.2.1, by omega, by omega⟩ rfl (Nat.le_of_ble_eq_true rfl) dL_law_315 rfl (fun v1 i2 r3 hv4 hi5 hw6 hq7 => ?_)
  obtain ⟨e21, h⟩ := hq7
  subst e21
  refine V.aload_n (pc := 318) hG dL_law_318 rfl 2 rfl ?_
  refine V.callVi (pc := 319) (As := []) (stk := [.int (sJ v1)]) hG (sm_X12_clear l Δ  hi5 hw h) mY_X12_clear kw_1857 kw_1858 kw_1859 a_504 (by decide) (q := (RX12, TX12, 49)) rfl rfl ⟨Nat.le_trans (Nat.le_of_ble_eq_true rfl) hR0.1, Nat.le_trans (Nat.le_of_ble_eq_true rfl) hR0.2.1, by omega, by omega⟩ rfl (Nat.le_of_ble_eq_true rfl) dL_law_319 rfl (fun v8 i9 r10 hv11 hi12 hw13 hq14 => ?_)
  obtain ⟨e19, h⟩ := hq14
  subst e19
  obtain ⟨t16, f17⟩ := h
  refine V.icmp_eq (pc := 322) (tgt := 2281) hG hv4 hv11 dL_law_322 (by decide) (fun c15 => ?_) (fun c15 => ?_)
  · have h := t16 c15
    clear t16 f17
    exact kk i9 r hi12 hw h
  · have h := f17 c15
    clear t16 f17
    refine V.iconst (pc := 325) hG dL_law_325 ?_
    exact h.elim
set_option maxRecDepth 100000 in
set_option maxHeartbeats 4000000 in
theorem lc_2 {Γ : Cx} {Δ : Wd} {l : Launch} {R : Room} {Q0 : State → Prop} {b : Nat} {xs : Nat → Int32} {L : Nat} {x5 : Int} {kc sl : Nat} {C : MI → MI → Prop} {i r : MI} (hst : l.stackTraces = false) (hG : okG Γ Δ l R cL_law "SchedularyLaw" 9) (hX : okS Γ Δ b L xs) (hR0 : 20 ≤ R.frames ∧ 10000 ≤ R.locals ∧ kc + 3 ≤ R.cells ∧ sl + 18 ≤ R.slots) (hx5 : sR x5) (hi : okI i) (hw : Wf r) (h : wc_2 xs L C x5 i r)
    (kk : ∀ i' r' : MI, okI i' → Wf r' → C i' r' → V Γ Δ 542 false i' r' (kc + 3) (sl + 18) Q0 2281 [(0, .ref b), (1, .ref (sA Δ 0)), (2, .ref (sA Δ 504)), (3, .ref (sA Δ 540)), (4, .ref (sA Δ 541)), (5, .int (sJ x5))] []) : V Γ Δ 542 false i r kc sl Q0 327 [(0, .ref b), (1, .ref (sA Δ 0)), (2, .ref (sA Δ 504)), (3, .ref (sA Δ 540)), (4, .ref (sA Δ 541)), (5, .int (sJ x5))] [] := by
  refine V.ks (kc2 := kc + 3) (sl2 := sl + 18) (by omega) (by omega) ?_
  unfold wc_2 at h
  refine V.aload_n (pc := 327) hG dL_law_327 rfl 1 rfl ?_
  refine V.callVi (pc := 328) (As := []) (stk := []) hG (sm_X11_fault l Δ  hi hw h) mY_X11_fault kw_618 kw_619 kw_620 a_0 (by decide) (q := (RX11, TX11, 11)) rfl rfl ⟨Nat.le_trans (Nat.le_of_ble_eq_true rfl) hR0.1, Nat.le_trans (Nat.le_of_ble_eq_true rfl) hR0.2.1, by omega, by omega⟩ rfl (Nat.le_of_ble_eq_true rfl) dL_law_328 rfl (fun v1 i2 r3 hv4 hi5 hw6 hq7 => ?_)
  obtain ⟨e21, h⟩ := hq7
  subst e21
  refine V.aload_n (pc := 331) hG dL_law_331 rfl 2 rfl ?_
  refine V.callVi (pc := 332) (As := []) (stk := [.int (sJ v1)]) hG (sm_X12_fault l Δ  hi5 hw h) mY_X12_fault kw_1861 kw_1862 kw_1863 a_504 (by decide) (q := (RX12, TX12, 49)) rfl rfl ⟨Nat.le_trans (Nat.le_of_ble_eq_true rfl) hR0.1, Nat.le_trans (Nat.le_of_ble_eq_true rfl) hR0.2.1, by omega, by omega⟩ rfl (Nat.le_of_ble_eq_true rfl) dL_law_332 rfl (fun v8 i9 r10 hv11 hi12 hw13 hq14 => ?_)
  obtain ⟨e19, h⟩ := hq14
  subst e19
  obtain ⟨t16, f17⟩ := h
  refine V.icmp_eq (pc := 335) (tgt := 2281) hG hv4 hv11 dL_law_335 (by decide) (fun c15 => ?_) (fun c15 => ?_)
  · have h := t16 c15
    clear t16 f17
    exact kk i9 r hi12 hw h
  · have h := f17 c15
    clear t16 f17
    refine V.iconst (pc := 338) hG dL_law_338 ?_
    exact h.elim
set_option maxRecDepth 100000 in
set_option maxHeartbeats 4000000 in
theorem lc_3 {Γ : Cx} {Δ : Wd} {l : Launch} {R : Room} {Q0 : State → Prop} {b : Nat} {xs : Nat → Int32} {L : Nat} {x5 : Int} {kc sl : Nat} {C : MI → MI → Prop} {i r : MI} (hst : l.stackTraces = false) (hG : okG Γ Δ l R cL_law "SchedularyLaw" 9) (hX : okS Γ Δ b L xs) (hR0 : 20 ≤ R.frames ∧ 10000 ≤ R.locals ∧ kc + 3 ≤ R.cells ∧ sl + 18 ≤ R.slots) (hx5 : sR x5) (hi : okI i) (hw : Wf r) (h : wc_3 xs L C x5 i r)
    (kk : ∀ i' r' : MI, okI i' → Wf r' → C i' r' → V Γ Δ 542 false i' r' (kc + 3) (sl + 18) Q0 2281 [(0, .ref b), (1, .ref (sA Δ 0)), (2, .ref (sA Δ 504)), (3, .ref (sA Δ 540)), (4, .ref (sA Δ 541)), (5, .int (sJ x5))] []) : V Γ Δ 542 false i r kc sl Q0 340 [(0, .ref b), (1, .ref (sA Δ 0)), (2, .ref (sA Δ 504)), (3, .ref (sA Δ 540)), (4, .ref (sA Δ 541)), (5, .int (sJ x5))] [] := by
  unfold wc_3 at h
  have jn381 : ∀  (ij381 : MI) (rj381 : MI), okI ij381 → Wf rj381 → s381_LC3 x5 ij381 rj381 xs L C → V Γ Δ 542 false ij381 rj381 (kc + 3) (sl + 18) Q0 381 [(0, .ref b), (1, .ref (sA Δ 0)), (2, .ref (sA Δ 504)), (3, .ref (sA Δ 540)), (4, .ref (sA Δ 541)), (5, .int (sJ x5))] [] := by
    intro ij381 rj381 hij381 hwj381 h
    refine V.goto (pc := 381) (tgt := 2281) hG dL_law_381 (by decide) ?_
    refine V.ks (kc2 := kc + 3) (sl2 := sl + 18) (by omega) (by omega) ?_
    exact kk ij381 rj381 hij381 hwj381 h
  refine V.aload_n (pc := 340) hG dL_law_340 rfl 1 rfl ?_
  refine V.aload_n (pc := 341) hG dL_law_341 rfl 3 rfl ?_
  refine V.callSWi (pc := 342) (na := 2) (As := [.ref (sA Δ 0), .ref (sA Δ 540)]) (stk := []) hG (sm_L_add l Δ  hst hi hw h) kw_157 kl_L_add (by decide) (by decide +kernel) kw_1346 kw_1347 ⟨Nat.le_trans (Nat.le_of_ble_eq_true rfl) hR0.1, Nat.le_trans (Nat.le_of_ble_eq_true rfl) hR0.2.1, by omega, by omega⟩ rfl (Nat.le_of_ble_eq_true rfl) dL_law_342 rfl (fun v1 i2 r3 hv4 hi5 hw6 hq7 => ?_)
  have h := hq7
  refine V.ks (kc2 := kc + 3) (sl2 := sl + 18) (by omega) (by omega) ?_
  refine V.istore (pc := 345) (lv' := [(6, .int (sJ v1)), (0, .ref b), (1, .ref (sA Δ 0)), (2, .ref (sA Δ 504)), (3, .ref (sA Δ 540)), (4, .ref (sA Δ 541)), (5, .int (sJ x5))]) hG dL_law_345 (by decide) rfl ?_
  refine V.aload_n (pc := 347) hG dL_law_347 rfl 3 rfl ?_
  refine V.callVi (pc := 348) (As := []) (stk := []) hG (sm_X12_add l Δ  hi5 hw6 h) mY_X12_add kw_1898 kw_1899 kw_1900 a_504 (by decide) (q := (RX12, TX12, 49)) rfl rfl ⟨Nat.le_trans (Nat.le_of_ble_eq_true rfl) hR0.1, Nat.le_trans (Nat.le_of_ble_eq_true rfl) hR0.2.1, by omega, by omega⟩ rfl (Nat.le_of_ble_eq_true rfl) dL_law_348 rfl (fun v8 i9 r10 hv11 hi12 hw13 hq14 => ?_)
  obtain ⟨e34, h⟩ := hq14
  subst e34
  refine V.istore (pc := 351) (lv' := [(7, .int (sJ v8)), (6, .int (sJ v1)), (0, .ref b), (1, .ref (sA Δ 0)), (2, .ref (sA Δ 504)), (3, .ref (sA Δ 540)), (4, .ref (sA Δ 541)), (5, .int (sJ x5))]) hG dL_law_351 (by decide) rfl ?_
  refine V.aload_n (pc := 353) hG dL_law_353 rfl 4 rfl ?_
  refine V.callVi (pc := 354) (As := []) (stk := []) hG (sm_X12_thrown l Δ  hi12 hw6 h) mY_X12_thrown kw_1840 kw_1841 kw_1842 a_504 (by decide) (q := (RX12, TX12, 49)) rfl rfl ⟨Nat.le_trans (Nat.le_of_ble_eq_true rfl) hR0.1, Nat.le_trans (Nat.le_of_ble_eq_true rfl) hR0.2.1, by omega, by omega⟩ rfl (Nat.le_of_ble_eq_true rfl) dL_law_354 rfl (fun v15 i16 r17 hv18 hi19 hw20 hq21 => ?_)
  obtain ⟨e31, e32, h⟩ := hq21
  subst e31
  subst e32
  refine V.iload (pc := 357) hG dL_law_357 1 rfl ?_
  obtain ⟨t23, f24⟩ := h
  refine V.icmp_eq (pc := 359) (tgt := 364) hG hv18 hv4 dL_law_359 (by decide) (fun c22 => ?_) (fun c22 => ?_)
  · have h := t23 c22
    clear t23 f24
    refine V.iload (pc := 364) hG dL_law_364 1 rfl ?_
    obtain ⟨f27, t26⟩ := h
    refine V.if_ne (pc := 366) (tgt := 381) hG hv4 dL_law_366 (by decide) (fun c25 => ?_) (fun c25 => ?_)
    · have h := t26 c25
      clear t26 f27
      refine V.pick [2, 3, 4, 5, 6, 7] rfl ?_
      exact jn381 i9 r3 hi12 hw6 h
    · have h := f27 c25
      clear t26 f27
      refine V.aload_n (pc := 369) hG dL_law_369 rfl 5 rfl ?_
      refine V.iconst (pc := 370) hG dL_law_370 ?_
      refine V.lald0 (pc := 371) (z := 1) (o := 540) hG a_540 a_540.n (by decide) dL_law_371 ?_
      refine V.iload (pc := 372) hG dL_law_372 0 rfl ?_
      refine V.i2l (pc := 374) hG dL_law_374 ?_
      refine V.lcmp (pc := 375) hG dL_law_375 ?_
      obtain ⟨t29, f30⟩ := h
      refine V.if_eq (pc := 376) (tgt := 381) hG ((sR_of _)) dL_law_376 (by decide) (fun c28 => ?_) (fun c28 => ?_)
      · have h := t29 c28
        clear t29 f30
        refine V.pick [2, 3, 4, 5, 6, 7] rfl ?_
        exact jn381 i9 r3 hi12 hw6 h
      · have h := f30 c28
        clear t29 f30
        refine V.iconst (pc := 379) hG dL_law_379 ?_
        exact h.elim
  · have h := f24 c22
    clear t23 f24
    refine V.iconst (pc := 362) hG dL_law_362 ?_
    exact h.elim
set_option maxRecDepth 100000 in
set_option maxHeartbeats 4000000 in
theorem lc_4 {Γ : Cx} {Δ : Wd} {l : Launch} {R : Room} {Q0 : State → Prop} {b : Nat} {xs : Nat → Int32} {L : Nat} {x5 : Int} {kc sl : Nat} {C : MI → MI → Prop} {i r : MI} (hst : l.stackTraces = false) (hG : okG Γ Δ l R cL_law "SchedularyLaw" 9) (hX : okS Γ Δ b L xs) (hR0 : 20 ≤ R.frames ∧ 10000 ≤ R.locals ∧ kc + 3 ≤ R.cells ∧ sl + 18 ≤ R.slots) (hx5 : sR x5) (hi : okI i) (hw : Wf r) (h : wc_4 xs L C x5 i r)
    (kk : ∀ i' r' : MI, okI i' → Wf r' → C i' r' → V Γ Δ 542 false i' r' (kc + 3) (sl + 18) Q0 2281 [(0, .ref b), (1, .ref (sA Δ 0)), (2, .ref (sA Δ 504)), (3, .ref (sA Δ 540)), (4, .ref (sA Δ 541)), (5, .int (sJ x5))] []) : V Γ Δ 542 false i r kc sl Q0 384 [(0, .ref b), (1, .ref (sA Δ 0)), (2, .ref (sA Δ 504)), (3, .ref (sA Δ 540)), (4, .ref (sA Δ 541)), (5, .int (sJ x5))] [] := by
  unfold wc_4 at h
  have jn437 : ∀  (ij437 : MI) (rj437 : MI), okI ij437 → Wf rj437 → s437_LC4 x5 ij437 rj437 xs L C → V Γ Δ 542 false ij437 rj437 (kc + 3) (sl + 18) Q0 437 [(0, .ref b), (1, .ref (sA Δ 0)), (2, .ref (sA Δ 504)), (3, .ref (sA Δ 540)), (4, .ref (sA Δ 541)), (5, .int (sJ x5))] [] := by
    intro ij437 rj437 hij437 hwj437 h
    refine V.goto (pc := 437) (tgt := 2281) hG dL_law_437 (by decide) ?_
    refine V.ks (kc2 := kc + 3) (sl2 := sl + 18) (by omega) (by omega) ?_
    exact kk ij437 rj437 hij437 hwj437 h
  refine V.aload_n (pc := 384) hG dL_law_384 rfl 1 rfl ?_
  refine V.aload_n (pc := 385) hG dL_law_385 rfl 0 rfl ?_
  refine V.iload (pc := 386) hG dL_law_386 5 rfl ?_
  refine V.iconst (pc := 388) hG dL_law_388 ?_
  refine V.iadd (pc := 389) hG dL_law_389 ?_
  obtain ⟨g1, h⟩ := h
  refine V.sld (pc := 390) hG hX ((sR_wr _)) g1 dL_law_390 ?_
  refine V.aload_n (pc := 391) hG dL_law_391 rfl 3 rfl ?_
  refine V.callSWi (pc := 392) (na := 3) (As := [.ref (sA Δ 0), .int (sJ (sv xs (wr (x5 + 1)))), .ref (sA Δ 540)]) (stk := []) hG (sm_L_replace l Δ ((sR_sv _ _)) hst hi hw h) kw_157 kl_L_replace (by decide) (by decide +kernel) kw_1363 kw_1364 ⟨Nat.le_trans (Nat.le_of_ble_eq_true rfl) hR0.1, Nat.le_trans (Nat.le_of_ble_eq_true rfl) hR0.2.1, by omega, by omega⟩ rfl (Nat.le_of_ble_eq_true rfl) dL_law_392 rfl (fun v2 i3 r4 hv5 hi6 hw7 hq8 => ?_)
  have h := hq8
  refine V.ks (kc2 := kc + 3) (sl2 := sl + 18) (by omega) (by omega) ?_
  refine V.istore (pc := 395) (lv' := [(6, .int (sJ v2)), (0, .ref b), (1, .ref (sA Δ 0)), (2, .ref (sA Δ 504)), (3, .ref (sA Δ 540)), (4, .ref (sA Δ 541)), (5, .int (sJ x5))]) hG dL_law_395 (by decide) rfl ?_
  refine V.aload_n (pc := 397) hG dL_law_397 rfl 3 rfl ?_
  refine V.aload_n (pc := 398) hG dL_law_398 rfl 1 rfl ?_
  refine V.iload (pc := 399) hG dL_law_399 6 rfl ?_
  refine V.iconst (pc := 401) hG dL_law_401 ?_
  refine V.iadd (pc := 402) hG dL_law_402 ?_
  obtain ⟨g9, h⟩ := h
  refine V.sld (pc := 403) hG hX ((sR_wr _)) g9 dL_law_403 ?_
  refine V.callVi (pc := 404) (As := [.int (sJ (sv xs (wr (x5 + 1))))]) (stk := []) hG (sm_X12_replace l Δ ((sR_sv _ _)) hi6 hw7 h) mY_X12_replace kw_1906 kw_1907 kw_1908 a_504 (by decide) (q := (RX12, TX12, 49)) rfl rfl ⟨Nat.le_trans (Nat.le_of_ble_eq_true rfl) hR0.1, Nat.le_trans (Nat.le_of_ble_eq_true rfl) hR0.2.1, by omega, by omega⟩ rfl (Nat.le_of_ble_eq_true rfl) dL_law_404 rfl (fun v10 i11 r12 hv13 hi14 hw15 hq16 => ?_)
  obtain ⟨e36, h⟩ := hq16
  subst e36
  refine V.istore (pc := 407) (lv' := [(7, .int (sJ v10)), (6, .int (sJ v2)), (0, .ref b), (1, .ref (sA Δ 0)), (2, .ref (sA Δ 504)), (3, .ref (sA Δ 540)), (4, .ref (sA Δ 541)), (5, .int (sJ x5))]) hG dL_law_407 (by decide) rfl ?_
  refine V.aload_n (pc := 409) hG dL_law_409 rfl 4 rfl ?_
  refine V.callVi (pc := 410) (As := []) (stk := []) hG (sm_X12_thrown l Δ  hi14 hw7 h) mY_X12_thrown kw_1840 kw_1841 kw_1842 a_504 (by decide) (q := (RX12, TX12, 49)) rfl rfl ⟨Nat.le_trans (Nat.le_of_ble_eq_true rfl) hR0.1, Nat.le_trans (Nat.le_of_ble_eq_true rfl) hR0.2.1, by omega, by omega⟩ rfl (Nat.le_of_ble_eq_true rfl) dL_law_410 rfl (fun v17 i18 r19 hv20 hi21 hw22 hq23 => ?_)
  obtain ⟨e33, e34, h⟩ := hq23
  subst e33
  subst e34
  refine V.iload (pc := 413) hG dL_law_413 1 rfl ?_
  obtain ⟨t25, f26⟩ := h
  refine V.icmp_eq (pc := 415) (tgt := 420) hG hv20 hv5 dL_law_415 (by decide) (fun c24 => ?_) (fun c24 => ?_)
  · have h := t25 c24
    clear t25 f26
    refine V.iload (pc := 420) hG dL_law_420 1 rfl ?_
    obtain ⟨f29, t28⟩ := h
    refine V.if_ne (pc := 422) (tgt := 437) hG hv5 dL_law_422 (by decide) (fun c27 => ?_) (fun c27 => ?_)
    · have h := t28 c27
      clear t28 f29
      refine V.pick [2, 3, 4, 5, 6, 7] rfl ?_
      exact jn437 i11 r4 hi14 hw7 h
    · have h := f29 c27
      clear t28 f29
      refine V.aload_n (pc := 425) hG dL_law_425 rfl 5 rfl ?_
      refine V.iconst (pc := 426) hG dL_law_426 ?_
      refine V.lald0 (pc := 427) (z := 1) (o := 540) hG a_540 a_540.n (by decide) dL_law_427 ?_
      refine V.iload (pc := 428) hG dL_law_428 0 rfl ?_
      refine V.i2l (pc := 430) hG dL_law_430 ?_
      refine V.lcmp (pc := 431) hG dL_law_431 ?_
      obtain ⟨t31, f32⟩ := h
      refine V.if_eq (pc := 432) (tgt := 437) hG ((sR_of _)) dL_law_432 (by decide) (fun c30 => ?_) (fun c30 => ?_)
      · have h := t31 c30
        clear t31 f32
        refine V.pick [2, 3, 4, 5, 6, 7] rfl ?_
        exact jn437 i11 r4 hi14 hw7 h
      · have h := f32 c30
        clear t31 f32
        refine V.iconst (pc := 435) hG dL_law_435 ?_
        exact h.elim
  · have h := f26 c24
    clear t25 f26
    refine V.iconst (pc := 418) hG dL_law_418 ?_
    exact h.elim
set_option maxRecDepth 100000 in
set_option maxHeartbeats 4000000 in
theorem lc_5 {Γ : Cx} {Δ : Wd} {l : Launch} {R : Room} {Q0 : State → Prop} {b : Nat} {xs : Nat → Int32} {L : Nat} {x5 : Int} {kc sl : Nat} {C : MI → MI → Prop} {i r : MI} (hst : l.stackTraces = false) (hG : okG Γ Δ l R cL_law "SchedularyLaw" 9) (hX : okS Γ Δ b L xs) (hR0 : 20 ≤ R.frames ∧ 10000 ≤ R.locals ∧ kc + 3 ≤ R.cells ∧ sl + 18 ≤ R.slots) (hx5 : sR x5) (hi : okI i) (hw : Wf r) (h : wc_5 xs L C x5 i r)
    (kk : ∀ i' r' : MI, okI i' → Wf r' → C i' r' → V Γ Δ 542 false i' r' (kc + 3) (sl + 18) Q0 2281 [(0, .ref b), (1, .ref (sA Δ 0)), (2, .ref (sA Δ 504)), (3, .ref (sA Δ 540)), (4, .ref (sA Δ 541)), (5, .int (sJ x5))] []) : V Γ Δ 542 false i r kc sl Q0 440 [(0, .ref b), (1, .ref (sA Δ 0)), (2, .ref (sA Δ 504)), (3, .ref (sA Δ 540)), (4, .ref (sA Δ 541)), (5, .int (sJ x5))] [] := by
  unfold wc_5 at h
  have jn493 : ∀  (ij493 : MI), okI ij493 → s493_LC5 x5 ij493 r xs L C → V Γ Δ 542 false ij493 r (kc + 3) (sl + 18) Q0 493 [(0, .ref b), (1, .ref (sA Δ 0)), (2, .ref (sA Δ 504)), (3, .ref (sA Δ 540)), (4, .ref (sA Δ 541)), (5, .int (sJ x5))] [] := by
    intro ij493 hij493 h
    refine V.goto (pc := 493) (tgt := 2281) hG dL_law_493 (by decide) ?_
    refine V.ks (kc2 := kc + 3) (sl2 := sl + 18) (by omega) (by omega) ?_
    exact kk ij493 r hij493 hw h
  refine V.aload_n (pc := 440) hG dL_law_440 rfl 1 rfl ?_
  refine V.aload_n (pc := 441) hG dL_law_441 rfl 0 rfl ?_
  refine V.iload (pc := 442) hG dL_law_442 5 rfl ?_
  refine V.iconst (pc := 444) hG dL_law_444 ?_
  refine V.iadd (pc := 445) hG dL_law_445 ?_
  obtain ⟨g1, h⟩ := h
  refine V.sld (pc := 446) hG hX ((sR_wr _)) g1 dL_law_446 ?_
  refine V.aload_n (pc := 447) hG dL_law_447 rfl 3 rfl ?_
  refine V.callSWi (pc := 448) (na := 3) (As := [.ref (sA Δ 0), .int (sJ (sv xs (wr (x5 + 1)))), .ref (sA Δ 540)]) (stk := []) hG (sm_L_setTurns l Δ ((sR_sv _ _)) hst hi hw h) kw_157 kl_L_setTurns (by decide) (by decide +kernel) kw_1407 kw_1408 ⟨Nat.le_trans (Nat.le_of_ble_eq_true rfl) hR0.1, Nat.le_trans (Nat.le_of_ble_eq_true rfl) hR0.2.1, by omega, by omega⟩ rfl (Nat.le_of_ble_eq_true rfl) dL_law_448 rfl (fun v2 i3 r4 hv5 hi6 hw7 hq8 => ?_)
  obtain ⟨e38, h⟩ := hq8
  subst e38
  refine V.ks (kc2 := kc + 3) (sl2 := sl + 18) (by omega) (by omega) ?_
  refine V.istore (pc := 451) (lv' := [(6, .int (sJ v2)), (0, .ref b), (1, .ref (sA Δ 0)), (2, .ref (sA Δ 504)), (3, .ref (sA Δ 540)), (4, .ref (sA Δ 541)), (5, .int (sJ x5))]) hG dL_law_451 (by decide) rfl ?_
  refine V.aload_n (pc := 453) hG dL_law_453 rfl 3 rfl ?_
  refine V.aload_n (pc := 454) hG dL_law_454 rfl 1 rfl ?_
  refine V.iload (pc := 455) hG dL_law_455 6 rfl ?_
  refine V.iconst (pc := 457) hG dL_law_457 ?_
  refine V.iadd (pc := 458) hG dL_law_458 ?_
  obtain ⟨g9, h⟩ := h
  refine V.sld (pc := 459) hG hX ((sR_wr _)) g9 dL_law_459 ?_
  refine V.callVi (pc := 460) (As := [.int (sJ (sv xs (wr (x5 + 1))))]) (stk := []) hG (sm_X12_setTurns l Δ ((sR_sv _ _)) hi6 hw h) mY_X12_setTurns kw_1972 kw_1973 kw_1974 a_504 (by decide) (q := (RX12, TX12, 49)) rfl rfl ⟨Nat.le_trans (Nat.le_of_ble_eq_true rfl) hR0.1, Nat.le_trans (Nat.le_of_ble_eq_true rfl) hR0.2.1, by omega, by omega⟩ rfl (Nat.le_of_ble_eq_true rfl) dL_law_460 rfl (fun v10 i11 r12 hv13 hi14 hw15 hq16 => ?_)
  obtain ⟨e36, h⟩ := hq16
  subst e36
  refine V.istore (pc := 463) (lv' := [(7, .int (sJ v10)), (6, .int (sJ v2)), (0, .ref b), (1, .ref (sA Δ 0)), (2, .ref (sA Δ 504)), (3, .ref (sA Δ 540)), (4, .ref (sA Δ 541)), (5, .int (sJ x5))]) hG dL_law_463 (by decide) rfl ?_
  refine V.aload_n (pc := 465) hG dL_law_465 rfl 4 rfl ?_
  refine V.callVi (pc := 466) (As := []) (stk := []) hG (sm_X12_thrown l Δ  hi14 hw h) mY_X12_thrown kw_1840 kw_1841 kw_1842 a_504 (by decide) (q := (RX12, TX12, 49)) rfl rfl ⟨Nat.le_trans (Nat.le_of_ble_eq_true rfl) hR0.1, Nat.le_trans (Nat.le_of_ble_eq_true rfl) hR0.2.1, by omega, by omega⟩ rfl (Nat.le_of_ble_eq_true rfl) dL_law_466 rfl (fun v17 i18 r19 hv20 hi21 hw22 hq23 => ?_)
  obtain ⟨e33, e34, h⟩ := hq23
  subst e33
  subst e34
  refine V.iload (pc := 469) hG dL_law_469 1 rfl ?_
  obtain ⟨t25, f26⟩ := h
  refine V.icmp_eq (pc := 471) (tgt := 476) hG hv20 hv5 dL_law_471 (by decide) (fun c24 => ?_) (fun c24 => ?_)
  · have h := t25 c24
    clear t25 f26
    refine V.iload (pc := 476) hG dL_law_476 1 rfl ?_
    obtain ⟨f29, t28⟩ := h
    refine V.if_ne (pc := 478) (tgt := 493) hG hv5 dL_law_478 (by decide) (fun c27 => ?_) (fun c27 => ?_)
    · have h := t28 c27
      clear t28 f29
      refine V.pick [2, 3, 4, 5, 6, 7] rfl ?_
      exact jn493 i11 hi14 h
    · have h := f29 c27
      clear t28 f29
      refine V.aload_n (pc := 481) hG dL_law_481 rfl 5 rfl ?_
      refine V.iconst (pc := 482) hG dL_law_482 ?_
      refine V.lald0 (pc := 483) (z := 1) (o := 540) hG a_540 a_540.n (by decide) dL_law_483 ?_
      refine V.iload (pc := 484) hG dL_law_484 0 rfl ?_
      refine V.i2l (pc := 486) hG dL_law_486 ?_
      refine V.lcmp (pc := 487) hG dL_law_487 ?_
      obtain ⟨t31, f32⟩ := h
      refine V.if_eq (pc := 488) (tgt := 493) hG ((sR_of _)) dL_law_488 (by decide) (fun c30 => ?_) (fun c30 => ?_)
      · have h := t31 c30
        clear t31 f32
        refine V.pick [2, 3, 4, 5, 6, 7] rfl ?_
        exact jn493 i11 hi14 h
      · have h := f32 c30
        clear t31 f32
        refine V.iconst (pc := 491) hG dL_law_491 ?_
        exact h.elim
  · have h := f26 c24
    clear t25 f26
    refine V.iconst (pc := 474) hG dL_law_474 ?_
    exact h.elim
set_option maxRecDepth 100000 in
set_option maxHeartbeats 4000000 in
theorem lc_6 {Γ : Cx} {Δ : Wd} {l : Launch} {R : Room} {Q0 : State → Prop} {b : Nat} {xs : Nat → Int32} {L : Nat} {x5 : Int} {kc sl : Nat} {C : MI → MI → Prop} {i r : MI} (hst : l.stackTraces = false) (hG : okG Γ Δ l R cL_law "SchedularyLaw" 9) (hX : okS Γ Δ b L xs) (hR0 : 20 ≤ R.frames ∧ 10000 ≤ R.locals ∧ kc + 3 ≤ R.cells ∧ sl + 18 ≤ R.slots) (hx5 : sR x5) (hi : okI i) (hw : Wf r) (h : wc_6 xs L C x5 i r)
    (kk : ∀ i' r' : MI, okI i' → Wf r' → C i' r' → V Γ Δ 542 false i' r' (kc + 3) (sl + 18) Q0 2281 [(0, .ref b), (1, .ref (sA Δ 0)), (2, .ref (sA Δ 504)), (3, .ref (sA Δ 540)), (4, .ref (sA Δ 541)), (5, .int (sJ x5))] []) : V Γ Δ 542 false i r kc sl Q0 496 [(0, .ref b), (1, .ref (sA Δ 0)), (2, .ref (sA Δ 504)), (3, .ref (sA Δ 540)), (4, .ref (sA Δ 541)), (5, .int (sJ x5))] [] := by
  unfold wc_6 at h
  have jn549 : ∀  (ij549 : MI), okI ij549 → s549_LC6 x5 ij549 r xs L C → V Γ Δ 542 false ij549 r (kc + 3) (sl + 18) Q0 549 [(0, .ref b), (1, .ref (sA Δ 0)), (2, .ref (sA Δ 504)), (3, .ref (sA Δ 540)), (4, .ref (sA Δ 541)), (5, .int (sJ x5))] [] := by
    intro ij549 hij549 h
    refine V.goto (pc := 549) (tgt := 2281) hG dL_law_549 (by decide) ?_
    refine V.ks (kc2 := kc + 3) (sl2 := sl + 18) (by omega) (by omega) ?_
    exact kk ij549 r hij549 hw h
  refine V.aload_n (pc := 496) hG dL_law_496 rfl 1 rfl ?_
  refine V.aload_n (pc := 497) hG dL_law_497 rfl 0 rfl ?_
  refine V.iload (pc := 498) hG dL_law_498 5 rfl ?_
  refine V.iconst (pc := 500) hG dL_law_500 ?_
  refine V.iadd (pc := 501) hG dL_law_501 ?_
  obtain ⟨g1, h⟩ := h
  refine V.sld (pc := 502) hG hX ((sR_wr _)) g1 dL_law_502 ?_
  refine V.aload_n (pc := 503) hG dL_law_503 rfl 3 rfl ?_
  refine V.callSWi (pc := 504) (na := 3) (As := [.ref (sA Δ 0), .int (sJ (sv xs (wr (x5 + 1)))), .ref (sA Δ 540)]) (stk := []) hG (sm_L_setBits l Δ ((sR_sv _ _)) hst hi hw h) kw_157 kl_L_setBits (by decide) (by decide +kernel) kw_1439 kw_1440 ⟨Nat.le_trans (Nat.le_of_ble_eq_true rfl) hR0.1, Nat.le_trans (Nat.le_of_ble_eq_true rfl) hR0.2.1, by omega, by omega⟩ rfl (Nat.le_of_ble_eq_true rfl) dL_law_504 rfl (fun v2 i3 r4 hv5 hi6 hw7 hq8 => ?_)
  obtain ⟨e38, h⟩ := hq8
  subst e38
  refine V.ks (kc2 := kc + 3) (sl2 := sl + 18) (by omega) (by omega) ?_
  refine V.istore (pc := 507) (lv' := [(6, .int (sJ v2)), (0, .ref b), (1, .ref (sA Δ 0)), (2, .ref (sA Δ 504)), (3, .ref (sA Δ 540)), (4, .ref (sA Δ 541)), (5, .int (sJ x5))]) hG dL_law_507 (by decide) rfl ?_
  refine V.aload_n (pc := 509) hG dL_law_509 rfl 3 rfl ?_
  refine V.aload_n (pc := 510) hG dL_law_510 rfl 1 rfl ?_
  refine V.iload (pc := 511) hG dL_law_511 6 rfl ?_
  refine V.iconst (pc := 513) hG dL_law_513 ?_
  refine V.iadd (pc := 514) hG dL_law_514 ?_
  obtain ⟨g9, h⟩ := h
  refine V.sld (pc := 515) hG hX ((sR_wr _)) g9 dL_law_515 ?_
  refine V.callVi (pc := 516) (As := [.int (sJ (sv xs (wr (x5 + 1))))]) (stk := []) hG (sm_X12_setBits l Δ ((sR_sv _ _)) hi6 hw h) mY_X12_setBits kw_1976 kw_1977 kw_1978 a_504 (by decide) (q := (RX12, TX12, 49)) rfl rfl ⟨Nat.le_trans (Nat.le_of_ble_eq_true rfl) hR0.1, Nat.le_trans (Nat.le_of_ble_eq_true rfl) hR0.2.1, by omega, by omega⟩ rfl (Nat.le_of_ble_eq_true rfl) dL_law_516 rfl (fun v10 i11 r12 hv13 hi14 hw15 hq16 => ?_)
  obtain ⟨e36, h⟩ := hq16
  subst e36
  refine V.istore (pc := 519) (lv' := [(7, .int (sJ v10)), (6, .int (sJ v2)), (0, .ref b), (1, .ref (sA Δ 0)), (2, .ref (sA Δ 504)), (3, .ref (sA Δ 540)), (4, .ref (sA Δ 541)), (5, .int (sJ x5))]) hG dL_law_519 (by decide) rfl ?_
  refine V.aload_n (pc := 521) hG dL_law_521 rfl 4 rfl ?_
  refine V.callVi (pc := 522) (As := []) (stk := []) hG (sm_X12_thrown l Δ  hi14 hw h) mY_X12_thrown kw_1840 kw_1841 kw_1842 a_504 (by decide) (q := (RX12, TX12, 49)) rfl rfl ⟨Nat.le_trans (Nat.le_of_ble_eq_true rfl) hR0.1, Nat.le_trans (Nat.le_of_ble_eq_true rfl) hR0.2.1, by omega, by omega⟩ rfl (Nat.le_of_ble_eq_true rfl) dL_law_522 rfl (fun v17 i18 r19 hv20 hi21 hw22 hq23 => ?_)
  obtain ⟨e33, e34, h⟩ := hq23
  subst e33
  subst e34
  refine V.iload (pc := 525) hG dL_law_525 1 rfl ?_
  obtain ⟨t25, f26⟩ := h
  refine V.icmp_eq (pc := 527) (tgt := 532) hG hv20 hv5 dL_law_527 (by decide) (fun c24 => ?_) (fun c24 => ?_)
  · have h := t25 c24
    clear t25 f26
    refine V.iload (pc := 532) hG dL_law_532 1 rfl ?_
    obtain ⟨f29, t28⟩ := h
    refine V.if_ne (pc := 534) (tgt := 549) hG hv5 dL_law_534 (by decide) (fun c27 => ?_) (fun c27 => ?_)
    · have h := t28 c27
      clear t28 f29
      refine V.pick [2, 3, 4, 5, 6, 7] rfl ?_
      exact jn549 i11 hi14 h
    · have h := f29 c27
      clear t28 f29
      refine V.aload_n (pc := 537) hG dL_law_537 rfl 5 rfl ?_
      refine V.iconst (pc := 538) hG dL_law_538 ?_
      refine V.lald0 (pc := 539) (z := 1) (o := 540) hG a_540 a_540.n (by decide) dL_law_539 ?_
      refine V.iload (pc := 540) hG dL_law_540 0 rfl ?_
      refine V.i2l (pc := 542) hG dL_law_542 ?_
      refine V.lcmp (pc := 543) hG dL_law_543 ?_
      obtain ⟨t31, f32⟩ := h
      refine V.if_eq (pc := 544) (tgt := 549) hG ((sR_of _)) dL_law_544 (by decide) (fun c30 => ?_) (fun c30 => ?_)
      · have h := t31 c30
        clear t31 f32
        refine V.pick [2, 3, 4, 5, 6, 7] rfl ?_
        exact jn549 i11 hi14 h
      · have h := f32 c30
        clear t31 f32
        refine V.iconst (pc := 547) hG dL_law_547 ?_
        exact h.elim
  · have h := f26 c24
    clear t25 f26
    refine V.iconst (pc := 530) hG dL_law_530 ?_
    exact h.elim
set_option maxRecDepth 100000 in
set_option maxHeartbeats 4000000 in
theorem lc_7 {Γ : Cx} {Δ : Wd} {l : Launch} {R : Room} {Q0 : State → Prop} {b : Nat} {xs : Nat → Int32} {L : Nat} {x5 : Int} {kc sl : Nat} {C : MI → MI → Prop} {i r : MI} (hst : l.stackTraces = false) (hG : okG Γ Δ l R cL_law "SchedularyLaw" 9) (hX : okS Γ Δ b L xs) (hR0 : 20 ≤ R.frames ∧ 10000 ≤ R.locals ∧ kc + 3 ≤ R.cells ∧ sl + 18 ≤ R.slots) (hx5 : sR x5) (hi : okI i) (hw : Wf r) (h : wc_7 xs L C x5 i r)
    (kk : ∀ i' r' : MI, okI i' → Wf r' → C i' r' → V Γ Δ 542 false i' r' (kc + 3) (sl + 18) Q0 2281 [(0, .ref b), (1, .ref (sA Δ 0)), (2, .ref (sA Δ 504)), (3, .ref (sA Δ 540)), (4, .ref (sA Δ 541)), (5, .int (sJ x5))] []) : V Γ Δ 542 false i r kc sl Q0 552 [(0, .ref b), (1, .ref (sA Δ 0)), (2, .ref (sA Δ 504)), (3, .ref (sA Δ 540)), (4, .ref (sA Δ 541)), (5, .int (sJ x5))] [] := by
  unfold wc_7 at h
  have jn605 : ∀  (ij605 : MI) (rj605 : MI), okI ij605 → Wf rj605 → s605_LC7 x5 ij605 rj605 xs L C → V Γ Δ 542 false ij605 rj605 (kc + 3) (sl + 18) Q0 605 [(0, .ref b), (1, .ref (sA Δ 0)), (2, .ref (sA Δ 504)), (3, .ref (sA Δ 540)), (4, .ref (sA Δ 541)), (5, .int (sJ x5))] [] := by
    intro ij605 rj605 hij605 hwj605 h
    refine V.goto (pc := 605) (tgt := 2281) hG dL_law_605 (by decide) ?_
    refine V.ks (kc2 := kc + 3) (sl2 := sl + 18) (by omega) (by omega) ?_
    exact kk ij605 rj605 hij605 hwj605 h
  refine V.aload_n (pc := 552) hG dL_law_552 rfl 1 rfl ?_
  refine V.aload_n (pc := 553) hG dL_law_553 rfl 0 rfl ?_
  refine V.iload (pc := 554) hG dL_law_554 5 rfl ?_
  refine V.iconst (pc := 556) hG dL_law_556 ?_
  refine V.iadd (pc := 557) hG dL_law_557 ?_
  obtain ⟨g1, h⟩ := h
  refine V.sld (pc := 558) hG hX ((sR_wr _)) g1 dL_law_558 ?_
  refine V.aload_n (pc := 559) hG dL_law_559 rfl 3 rfl ?_
  refine V.callSWi (pc := 560) (na := 3) (As := [.ref (sA Δ 0), .int (sJ (sv xs (wr (x5 + 1)))), .ref (sA Δ 540)]) (stk := []) hG (sm_L_unroll l Δ ((sR_sv _ _)) hst hi hw h) kw_157 kl_L_unroll (by decide) (by decide +kernel) kw_1447 kw_1448 ⟨Nat.le_trans (Nat.le_of_ble_eq_true rfl) hR0.1, Nat.le_trans (Nat.le_of_ble_eq_true rfl) hR0.2.1, by omega, by omega⟩ rfl (Nat.le_of_ble_eq_true rfl) dL_law_560 rfl (fun v2 i3 r4 hv5 hi6 hw7 hq8 => ?_)
  have h := hq8
  refine V.ks (kc2 := kc + 3) (sl2 := sl + 18) (by omega) (by omega) ?_
  refine V.istore (pc := 563) (lv' := [(6, .int (sJ v2)), (0, .ref b), (1, .ref (sA Δ 0)), (2, .ref (sA Δ 504)), (3, .ref (sA Δ 540)), (4, .ref (sA Δ 541)), (5, .int (sJ x5))]) hG dL_law_563 (by decide) rfl ?_
  refine V.aload_n (pc := 565) hG dL_law_565 rfl 3 rfl ?_
  refine V.aload_n (pc := 566) hG dL_law_566 rfl 1 rfl ?_
  refine V.iload (pc := 567) hG dL_law_567 6 rfl ?_
  refine V.iconst (pc := 569) hG dL_law_569 ?_
  refine V.iadd (pc := 570) hG dL_law_570 ?_
  obtain ⟨g9, h⟩ := h
  refine V.sld (pc := 571) hG hX ((sR_wr _)) g9 dL_law_571 ?_
  refine V.callVi (pc := 572) (As := [.int (sJ (sv xs (wr (x5 + 1))))]) (stk := []) hG (sm_X12_unroll l Δ ((sR_sv _ _)) hi6 hw7 h) mY_X12_unroll kw_1980 kw_1981 kw_1982 a_504 (by decide) (q := (RX12, TX12, 49)) rfl rfl ⟨Nat.le_trans (Nat.le_of_ble_eq_true rfl) hR0.1, Nat.le_trans (Nat.le_of_ble_eq_true rfl) hR0.2.1, by omega, by omega⟩ rfl (Nat.le_of_ble_eq_true rfl) dL_law_572 rfl (fun v10 i11 r12 hv13 hi14 hw15 hq16 => ?_)
  obtain ⟨e36, h⟩ := hq16
  subst e36
  refine V.istore (pc := 575) (lv' := [(7, .int (sJ v10)), (6, .int (sJ v2)), (0, .ref b), (1, .ref (sA Δ 0)), (2, .ref (sA Δ 504)), (3, .ref (sA Δ 540)), (4, .ref (sA Δ 541)), (5, .int (sJ x5))]) hG dL_law_575 (by decide) rfl ?_
  refine V.aload_n (pc := 577) hG dL_law_577 rfl 4 rfl ?_
  refine V.callVi (pc := 578) (As := []) (stk := []) hG (sm_X12_thrown l Δ  hi14 hw7 h) mY_X12_thrown kw_1840 kw_1841 kw_1842 a_504 (by decide) (q := (RX12, TX12, 49)) rfl rfl ⟨Nat.le_trans (Nat.le_of_ble_eq_true rfl) hR0.1, Nat.le_trans (Nat.le_of_ble_eq_true rfl) hR0.2.1, by omega, by omega⟩ rfl (Nat.le_of_ble_eq_true rfl) dL_law_578 rfl (fun v17 i18 r19 hv20 hi21 hw22 hq23 => ?_)
  obtain ⟨e33, e34, h⟩ := hq23
  subst e33
  subst e34
  refine V.iload (pc := 581) hG dL_law_581 1 rfl ?_
  obtain ⟨t25, f26⟩ := h
  refine V.icmp_eq (pc := 583) (tgt := 588) hG hv20 hv5 dL_law_583 (by decide) (fun c24 => ?_) (fun c24 => ?_)
  · have h := t25 c24
    clear t25 f26
    refine V.iload (pc := 588) hG dL_law_588 1 rfl ?_
    obtain ⟨f29, t28⟩ := h
    refine V.if_ne (pc := 590) (tgt := 605) hG hv5 dL_law_590 (by decide) (fun c27 => ?_) (fun c27 => ?_)
    · have h := t28 c27
      clear t28 f29
      refine V.pick [2, 3, 4, 5, 6, 7] rfl ?_
      exact jn605 i11 r4 hi14 hw7 h
    · have h := f29 c27
      clear t28 f29
      refine V.aload_n (pc := 593) hG dL_law_593 rfl 5 rfl ?_
      refine V.iconst (pc := 594) hG dL_law_594 ?_
      refine V.lald0 (pc := 595) (z := 1) (o := 540) hG a_540 a_540.n (by decide) dL_law_595 ?_
      refine V.iload (pc := 596) hG dL_law_596 0 rfl ?_
      refine V.i2l (pc := 598) hG dL_law_598 ?_
      refine V.lcmp (pc := 599) hG dL_law_599 ?_
      obtain ⟨t31, f32⟩ := h
      refine V.if_eq (pc := 600) (tgt := 605) hG ((sR_of _)) dL_law_600 (by decide) (fun c30 => ?_) (fun c30 => ?_)
      · have h := t31 c30
        clear t31 f32
        refine V.pick [2, 3, 4, 5, 6, 7] rfl ?_
        exact jn605 i11 r4 hi14 hw7 h
      · have h := f32 c30
        clear t31 f32
        refine V.iconst (pc := 603) hG dL_law_603 ?_
        exact h.elim
  · have h := f26 c24
    clear t25 f26
    refine V.iconst (pc := 586) hG dL_law_586 ?_
    exact h.elim
set_option maxRecDepth 100000 in
set_option maxHeartbeats 4000000 in
theorem lc_8 {Γ : Cx} {Δ : Wd} {l : Launch} {R : Room} {Q0 : State → Prop} {b : Nat} {xs : Nat → Int32} {L : Nat} {x5 : Int} {kc sl : Nat} {C : MI → MI → Prop} {i r : MI} (hst : l.stackTraces = false) (hG : okG Γ Δ l R cL_law "SchedularyLaw" 9) (hX : okS Γ Δ b L xs) (hR0 : 20 ≤ R.frames ∧ 10000 ≤ R.locals ∧ kc + 3 ≤ R.cells ∧ sl + 18 ≤ R.slots) (hx5 : sR x5) (hi : okI i) (hw : Wf r) (h : wc_8 xs L C x5 i r)
    (kk : ∀ i' r' : MI, okI i' → Wf r' → C i' r' → V Γ Δ 542 false i' r' (kc + 3) (sl + 18) Q0 2281 [(0, .ref b), (1, .ref (sA Δ 0)), (2, .ref (sA Δ 504)), (3, .ref (sA Δ 540)), (4, .ref (sA Δ 541)), (5, .int (sJ x5))] []) : V Γ Δ 542 false i r kc sl Q0 608 [(0, .ref b), (1, .ref (sA Δ 0)), (2, .ref (sA Δ 504)), (3, .ref (sA Δ 540)), (4, .ref (sA Δ 541)), (5, .int (sJ x5))] [] := by
  unfold wc_8 at h
  have jn661 : ∀  (ij661 : MI), okI ij661 → s661_LC8 x5 ij661 r xs L C → V Γ Δ 542 false ij661 r (kc + 3) (sl + 18) Q0 661 [(0, .ref b), (1, .ref (sA Δ 0)), (2, .ref (sA Δ 504)), (3, .ref (sA Δ 540)), (4, .ref (sA Δ 541)), (5, .int (sJ x5))] [] := by
    intro ij661 hij661 h
    refine V.goto (pc := 661) (tgt := 2281) hG dL_law_661 (by decide) ?_
    refine V.ks (kc2 := kc + 3) (sl2 := sl + 18) (by omega) (by omega) ?_
    exact kk ij661 r hij661 hw h
  refine V.aload_n (pc := 608) hG dL_law_608 rfl 1 rfl ?_
  refine V.aload_n (pc := 609) hG dL_law_609 rfl 0 rfl ?_
  refine V.iload (pc := 610) hG dL_law_610 5 rfl ?_
  refine V.iconst (pc := 612) hG dL_law_612 ?_
  refine V.iadd (pc := 613) hG dL_law_613 ?_
  obtain ⟨g1, h⟩ := h
  refine V.sld (pc := 614) hG hX ((sR_wr _)) g1 dL_law_614 ?_
  refine V.aload_n (pc := 615) hG dL_law_615 rfl 3 rfl ?_
  refine V.callSWi (pc := 616) (na := 3) (As := [.ref (sA Δ 0), .int (sJ (sv xs (wr (x5 + 1)))), .ref (sA Δ 540)]) (stk := []) hG (sm_L_input l Δ ((sR_sv _ _)) hst hi hw h) kw_157 kl_L_input (by decide) (by decide +kernel) kw_1456 kw_1457 ⟨Nat.le_trans (Nat.le_of_ble_eq_true rfl) hR0.1, Nat.le_trans (Nat.le_of_ble_eq_true rfl) hR0.2.1, by omega, by omega⟩ rfl (Nat.le_of_ble_eq_true rfl) dL_law_616 rfl (fun v2 i3 r4 hv5 hi6 hw7 hq8 => ?_)
  obtain ⟨e38, h⟩ := hq8
  subst e38
  refine V.ks (kc2 := kc + 3) (sl2 := sl + 18) (by omega) (by omega) ?_
  refine V.istore (pc := 619) (lv' := [(6, .int (sJ v2)), (0, .ref b), (1, .ref (sA Δ 0)), (2, .ref (sA Δ 504)), (3, .ref (sA Δ 540)), (4, .ref (sA Δ 541)), (5, .int (sJ x5))]) hG dL_law_619 (by decide) rfl ?_
  refine V.aload_n (pc := 621) hG dL_law_621 rfl 3 rfl ?_
  refine V.aload_n (pc := 622) hG dL_law_622 rfl 1 rfl ?_
  refine V.iload (pc := 623) hG dL_law_623 6 rfl ?_
  refine V.iconst (pc := 625) hG dL_law_625 ?_
  refine V.iadd (pc := 626) hG dL_law_626 ?_
  obtain ⟨g9, h⟩ := h
  refine V.sld (pc := 627) hG hX ((sR_wr _)) g9 dL_law_627 ?_
  refine V.callVi (pc := 628) (As := [.int (sJ (sv xs (wr (x5 + 1))))]) (stk := []) hG (sm_X12_input l Δ ((sR_sv _ _)) hi6 hw h) mY_X12_input kw_1984 kw_1985 kw_1986 a_504 (by decide) (q := (RX12, TX12, 49)) rfl rfl ⟨Nat.le_trans (Nat.le_of_ble_eq_true rfl) hR0.1, Nat.le_trans (Nat.le_of_ble_eq_true rfl) hR0.2.1, by omega, by omega⟩ rfl (Nat.le_of_ble_eq_true rfl) dL_law_628 rfl (fun v10 i11 r12 hv13 hi14 hw15 hq16 => ?_)
  obtain ⟨e36, h⟩ := hq16
  subst e36
  refine V.istore (pc := 631) (lv' := [(7, .int (sJ v10)), (6, .int (sJ v2)), (0, .ref b), (1, .ref (sA Δ 0)), (2, .ref (sA Δ 504)), (3, .ref (sA Δ 540)), (4, .ref (sA Δ 541)), (5, .int (sJ x5))]) hG dL_law_631 (by decide) rfl ?_
  refine V.aload_n (pc := 633) hG dL_law_633 rfl 4 rfl ?_
  refine V.callVi (pc := 634) (As := []) (stk := []) hG (sm_X12_thrown l Δ  hi14 hw h) mY_X12_thrown kw_1840 kw_1841 kw_1842 a_504 (by decide) (q := (RX12, TX12, 49)) rfl rfl ⟨Nat.le_trans (Nat.le_of_ble_eq_true rfl) hR0.1, Nat.le_trans (Nat.le_of_ble_eq_true rfl) hR0.2.1, by omega, by omega⟩ rfl (Nat.le_of_ble_eq_true rfl) dL_law_634 rfl (fun v17 i18 r19 hv20 hi21 hw22 hq23 => ?_)
  obtain ⟨e33, e34, h⟩ := hq23
  subst e33
  subst e34
  refine V.iload (pc := 637) hG dL_law_637 1 rfl ?_
  obtain ⟨t25, f26⟩ := h
  refine V.icmp_eq (pc := 639) (tgt := 644) hG hv20 hv5 dL_law_639 (by decide) (fun c24 => ?_) (fun c24 => ?_)
  · have h := t25 c24
    clear t25 f26
    refine V.iload (pc := 644) hG dL_law_644 1 rfl ?_
    obtain ⟨f29, t28⟩ := h
    refine V.if_ne (pc := 646) (tgt := 661) hG hv5 dL_law_646 (by decide) (fun c27 => ?_) (fun c27 => ?_)
    · have h := t28 c27
      clear t28 f29
      refine V.pick [2, 3, 4, 5, 6, 7] rfl ?_
      exact jn661 i11 hi14 h
    · have h := f29 c27
      clear t28 f29
      refine V.aload_n (pc := 649) hG dL_law_649 rfl 5 rfl ?_
      refine V.iconst (pc := 650) hG dL_law_650 ?_
      refine V.lald0 (pc := 651) (z := 1) (o := 540) hG a_540 a_540.n (by decide) dL_law_651 ?_
      refine V.iload (pc := 652) hG dL_law_652 0 rfl ?_
      refine V.i2l (pc := 654) hG dL_law_654 ?_
      refine V.lcmp (pc := 655) hG dL_law_655 ?_
      obtain ⟨t31, f32⟩ := h
      refine V.if_eq (pc := 656) (tgt := 661) hG ((sR_of _)) dL_law_656 (by decide) (fun c30 => ?_) (fun c30 => ?_)
      · have h := t31 c30
        clear t31 f32
        refine V.pick [2, 3, 4, 5, 6, 7] rfl ?_
        exact jn661 i11 hi14 h
      · have h := f32 c30
        clear t31 f32
        refine V.iconst (pc := 659) hG dL_law_659 ?_
        exact h.elim
  · have h := f26 c24
    clear t25 f26
    refine V.iconst (pc := 642) hG dL_law_642 ?_
    exact h.elim
set_option maxRecDepth 100000 in
set_option maxHeartbeats 4000000 in
theorem lc_9 {Γ : Cx} {Δ : Wd} {l : Launch} {R : Room} {Q0 : State → Prop} {b : Nat} {xs : Nat → Int32} {L : Nat} {x5 : Int} {kc sl : Nat} {C : MI → MI → Prop} {i r : MI} (hst : l.stackTraces = false) (hG : okG Γ Δ l R cL_law "SchedularyLaw" 9) (hX : okS Γ Δ b L xs) (hR0 : 20 ≤ R.frames ∧ 10000 ≤ R.locals ∧ kc + 3 ≤ R.cells ∧ sl + 18 ≤ R.slots) (hx5 : sR x5) (hi : okI i) (hw : Wf r) (h : wc_9 xs L C x5 i r)
    (kk : ∀ i' r' : MI, okI i' → Wf r' → C i' r' → V Γ Δ 542 false i' r' (kc + 3) (sl + 18) Q0 2281 [(0, .ref b), (1, .ref (sA Δ 0)), (2, .ref (sA Δ 504)), (3, .ref (sA Δ 540)), (4, .ref (sA Δ 541)), (5, .int (sJ x5))] []) : V Γ Δ 542 false i r kc sl Q0 664 [(0, .ref b), (1, .ref (sA Δ 0)), (2, .ref (sA Δ 504)), (3, .ref (sA Δ 540)), (4, .ref (sA Δ 541)), (5, .int (sJ x5))] [] := by
  unfold wc_9 at h
  have jn743 : ∀  (ij743 : MI), okI ij743 → s743_LC9 x5 ij743 r xs L C → V Γ Δ 542 false ij743 r (kc + 3) (sl + 18) Q0 743 [(0, .ref b), (1, .ref (sA Δ 0)), (2, .ref (sA Δ 504)), (3, .ref (sA Δ 540)), (4, .ref (sA Δ 541)), (5, .int (sJ x5))] [] := by
    intro ij743 hij743 h
    refine V.goto (pc := 743) (tgt := 2281) hG dL_law_743 (by decide) ?_
    refine V.ks (kc2 := kc + 3) (sl2 := sl + 18) (by omega) (by omega) ?_
    exact kk ij743 r hij743 hw h
  refine V.aload_n (pc := 664) hG dL_law_664 rfl 1 rfl ?_
  refine V.aload_n (pc := 665) hG dL_law_665 rfl 0 rfl ?_
  refine V.iload (pc := 666) hG dL_law_666 5 rfl ?_
  refine V.iconst (pc := 668) hG dL_law_668 ?_
  refine V.iadd (pc := 669) hG dL_law_669 ?_
  obtain ⟨g1, h⟩ := h
  refine V.sld (pc := 670) hG hX ((sR_wr _)) g1 dL_law_670 ?_
  refine V.i2c (pc := 671) hG ((sR_sv _ _)) dL_law_671 ?_
  refine V.aload_n (pc := 672) hG dL_law_672 rfl 0 rfl ?_
  refine V.iload (pc := 673) hG dL_law_673 5 rfl ?_
  refine V.iconst (pc := 675) hG dL_law_675 ?_
  refine V.iadd (pc := 676) hG dL_law_676 ?_
  obtain ⟨g2, h⟩ := h
  refine V.sld (pc := 677) hG hX ((sR_wr _)) g2 dL_law_677 ?_
  refine V.aload_n (pc := 678) hG dL_law_678 rfl 0 rfl ?_
  refine V.iload (pc := 679) hG dL_law_679 5 rfl ?_
  refine V.iconst (pc := 681) hG dL_law_681 ?_
  refine V.iadd (pc := 682) hG dL_law_682 ?_
  obtain ⟨g3, h⟩ := h
  refine V.sld (pc := 683) hG hX ((sR_wr _)) g3 dL_law_683 ?_
  refine V.aload_n (pc := 684) hG dL_law_684 rfl 3 rfl ?_
  refine V.callSWi (pc := 685) (na := 5) (As := [.ref (sA Δ 0), .int (sJ (((sv xs (wr (x5 + 1)))) % 65536)), .int (sJ (sv xs (wr (x5 + 2)))), .int (sJ (sv xs (wr (x5 + 3)))), .ref (sA Δ 540)]) (stk := []) hG (sm_L_setMemory l Δ sR_c ((sR_sv _ _)) ((sR_sv _ _)) hst hi hw h) kw_157 kl_L_setMemory (by decide) (by decide +kernel) kw_1466 kw_1467 ⟨Nat.le_trans (Nat.le_of_ble_eq_true rfl) hR0.1, Nat.le_trans (Nat.le_of_ble_eq_true rfl) hR0.2.1, by omega, by omega⟩ rfl (Nat.le_of_ble_eq_true rfl) dL_law_685 rfl (fun v4 i5 r6 hv7 hi8 hw9 hq10 => ?_)
  obtain ⟨e42, h⟩ := hq10
  subst e42
  refine V.ks (kc2 := kc + 3) (sl2 := sl + 18) (by omega) (by omega) ?_
  refine V.istore (pc := 688) (lv' := [(6, .int (sJ v4)), (0, .ref b), (1, .ref (sA Δ 0)), (2, .ref (sA Δ 504)), (3, .ref (sA Δ 540)), (4, .ref (sA Δ 541)), (5, .int (sJ x5))]) hG dL_law_688 (by decide) rfl ?_
  refine V.aload_n (pc := 690) hG dL_law_690 rfl 3 rfl ?_
  refine V.aload_n (pc := 691) hG dL_law_691 rfl 1 rfl ?_
  refine V.iload (pc := 692) hG dL_law_692 6 rfl ?_
  refine V.iconst (pc := 694) hG dL_law_694 ?_
  refine V.iadd (pc := 695) hG dL_law_695 ?_
  obtain ⟨g11, h⟩ := h
  refine V.sld (pc := 696) hG hX ((sR_wr _)) g11 dL_law_696 ?_
  refine V.i2c (pc := 697) hG ((sR_sv _ _)) dL_law_697 ?_
  refine V.aload_n (pc := 698) hG dL_law_698 rfl 1 rfl ?_
  refine V.iload (pc := 699) hG dL_law_699 6 rfl ?_
  refine V.iconst (pc := 701) hG dL_law_701 ?_
  refine V.iadd (pc := 702) hG dL_law_702 ?_
  obtain ⟨g12, h⟩ := h
  refine V.sld (pc := 703) hG hX ((sR_wr _)) g12 dL_law_703 ?_
  refine V.aload_n (pc := 704) hG dL_law_704 rfl 1 rfl ?_
  refine V.iload (pc := 705) hG dL_law_705 6 rfl ?_
  refine V.iconst (pc := 707) hG dL_law_707 ?_
  refine V.iadd (pc := 708) hG dL_law_708 ?_
  obtain ⟨g13, h⟩ := h
  refine V.sld (pc := 709) hG hX ((sR_wr _)) g13 dL_law_709 ?_
  refine V.callVi (pc := 710) (As := [.int (sJ (((sv xs (wr (x5 + 1)))) % 65536)), .int (sJ (sv xs (wr (x5 + 2)))), .int (sJ (sv xs (wr (x5 + 3))))]) (stk := []) hG (sm_X12_setMemory l Δ sR_c ((sR_sv _ _)) ((sR_sv _ _)) hi8 hw h) mY_X12_setMemory kw_1989 kw_1990 kw_1991 a_504 (by decide) (q := (RX12, TX12, 49)) rfl rfl ⟨Nat.le_trans (Nat.le_of_ble_eq_true rfl) hR0.1, Nat.le_trans (Nat.le_of_ble_eq_true rfl) hR0.2.1, by omega, by omega⟩ rfl (Nat.le_of_ble_eq_true rfl) dL_law_710 rfl (fun v14 i15 r16 hv17 hi18 hw19 hq20 => ?_)
  obtain ⟨e40, h⟩ := hq20
  subst e40
  refine V.istore (pc := 713) (lv' := [(7, .int (sJ v14)), (6, .int (sJ v4)), (0, .ref b), (1, .ref (sA Δ 0)), (2, .ref (sA Δ 504)), (3, .ref (sA Δ 540)), (4, .ref (sA Δ 541)), (5, .int (sJ x5))]) hG dL_law_713 (by decide) rfl ?_
  refine V.aload_n (pc := 715) hG dL_law_715 rfl 4 rfl ?_
  refine V.callVi (pc := 716) (As := []) (stk := []) hG (sm_X12_thrown l Δ  hi18 hw h) mY_X12_thrown kw_1840 kw_1841 kw_1842 a_504 (by decide) (q := (RX12, TX12, 49)) rfl rfl ⟨Nat.le_trans (Nat.le_of_ble_eq_true rfl) hR0.1, Nat.le_trans (Nat.le_of_ble_eq_true rfl) hR0.2.1, by omega, by omega⟩ rfl (Nat.le_of_ble_eq_true rfl) dL_law_716 rfl (fun v21 i22 r23 hv24 hi25 hw26 hq27 => ?_)
  obtain ⟨e37, e38, h⟩ := hq27
  subst e37
  subst e38
  refine V.iload (pc := 719) hG dL_law_719 1 rfl ?_
  obtain ⟨t29, f30⟩ := h
  refine V.icmp_eq (pc := 721) (tgt := 726) hG hv24 hv7 dL_law_721 (by decide) (fun c28 => ?_) (fun c28 => ?_)
  · have h := t29 c28
    clear t29 f30
    refine V.iload (pc := 726) hG dL_law_726 1 rfl ?_
    obtain ⟨f33, t32⟩ := h
    refine V.if_ne (pc := 728) (tgt := 743) hG hv7 dL_law_728 (by decide) (fun c31 => ?_) (fun c31 => ?_)
    · have h := t32 c31
      clear t32 f33
      refine V.pick [2, 3, 4, 5, 6, 7] rfl ?_
      exact jn743 i15 hi18 h
    · have h := f33 c31
      clear t32 f33
      refine V.aload_n (pc := 731) hG dL_law_731 rfl 5 rfl ?_
      refine V.iconst (pc := 732) hG dL_law_732 ?_
      refine V.lald0 (pc := 733) (z := 1) (o := 540) hG a_540 a_540.n (by decide) dL_law_733 ?_
      refine V.iload (pc := 734) hG dL_law_734 0 rfl ?_
      refine V.i2l (pc := 736) hG dL_law_736 ?_
      refine V.lcmp (pc := 737) hG dL_law_737 ?_
      obtain ⟨t35, f36⟩ := h
      refine V.if_eq (pc := 738) (tgt := 743) hG ((sR_of _)) dL_law_738 (by decide) (fun c34 => ?_) (fun c34 => ?_)
      · have h := t35 c34
        clear t35 f36
        refine V.pick [2, 3, 4, 5, 6, 7] rfl ?_
        exact jn743 i15 hi18 h
      · have h := f36 c34
        clear t35 f36
        refine V.iconst (pc := 741) hG dL_law_741 ?_
        exact h.elim
  · have h := f30 c28
    clear t29 f30
    refine V.iconst (pc := 724) hG dL_law_724 ?_
    exact h.elim
set_option maxRecDepth 100000 in
set_option maxHeartbeats 4000000 in
theorem lc_10 {Γ : Cx} {Δ : Wd} {l : Launch} {R : Room} {Q0 : State → Prop} {b : Nat} {xs : Nat → Int32} {L : Nat} {x5 : Int} {kc sl : Nat} {C : MI → MI → Prop} {i r : MI} (hst : l.stackTraces = false) (hG : okG Γ Δ l R cL_law "SchedularyLaw" 9) (hX : okS Γ Δ b L xs) (hR0 : 20 ≤ R.frames ∧ 10000 ≤ R.locals ∧ kc + 3 ≤ R.cells ∧ sl + 18 ≤ R.slots) (hx5 : sR x5) (hi : okI i) (hw : Wf r) (h : wc_10 xs L C x5 i r)
    (kk : ∀ i' r' : MI, okI i' → Wf r' → C i' r' → V Γ Δ 542 false i' r' (kc + 3) (sl + 18) Q0 2281 [(0, .ref b), (1, .ref (sA Δ 0)), (2, .ref (sA Δ 504)), (3, .ref (sA Δ 540)), (4, .ref (sA Δ 541)), (5, .int (sJ x5))] []) : V Γ Δ 542 false i r kc sl Q0 746 [(0, .ref b), (1, .ref (sA Δ 0)), (2, .ref (sA Δ 504)), (3, .ref (sA Δ 540)), (4, .ref (sA Δ 541)), (5, .int (sJ x5))] [] := by
  unfold wc_10 at h
  have jn813 : ∀  (ij813 : MI), okI ij813 → s813_LC10 x5 ij813 r xs L C → V Γ Δ 542 false ij813 r (kc + 3) (sl + 18) Q0 813 [(0, .ref b), (1, .ref (sA Δ 0)), (2, .ref (sA Δ 504)), (3, .ref (sA Δ 540)), (4, .ref (sA Δ 541)), (5, .int (sJ x5))] [] := by
    intro ij813 hij813 h
    refine V.goto (pc := 813) (tgt := 2281) hG dL_law_813 (by decide) ?_
    refine V.ks (kc2 := kc + 3) (sl2 := sl + 18) (by omega) (by omega) ?_
    exact kk ij813 r hij813 hw h
  refine V.aload_n (pc := 746) hG dL_law_746 rfl 1 rfl ?_
  refine V.aload_n (pc := 747) hG dL_law_747 rfl 0 rfl ?_
  refine V.iload (pc := 748) hG dL_law_748 5 rfl ?_
  refine V.iconst (pc := 750) hG dL_law_750 ?_
  refine V.iadd (pc := 751) hG dL_law_751 ?_
  obtain ⟨g1, h⟩ := h
  refine V.sld (pc := 752) hG hX ((sR_wr _)) g1 dL_law_752 ?_
  refine V.i2c (pc := 753) hG ((sR_sv _ _)) dL_law_753 ?_
  refine V.aload_n (pc := 754) hG dL_law_754 rfl 0 rfl ?_
  refine V.iload (pc := 755) hG dL_law_755 5 rfl ?_
  refine V.iconst (pc := 757) hG dL_law_757 ?_
  refine V.iadd (pc := 758) hG dL_law_758 ?_
  obtain ⟨g2, h⟩ := h
  refine V.sld (pc := 759) hG hX ((sR_wr _)) g2 dL_law_759 ?_
  refine V.aload_n (pc := 760) hG dL_law_760 rfl 3 rfl ?_
  refine V.callSWi (pc := 761) (na := 4) (As := [.ref (sA Δ 0), .int (sJ (((sv xs (wr (x5 + 1)))) % 65536)), .int (sJ (sv xs (wr (x5 + 2)))), .ref (sA Δ 540)]) (stk := []) hG (sm_L_setUnits l Δ sR_c ((sR_sv _ _)) hst hi hw h) kw_157 kl_L_setUnits (by decide) (by decide +kernel) kw_1478 kw_1479 ⟨Nat.le_trans (Nat.le_of_ble_eq_true rfl) hR0.1, Nat.le_trans (Nat.le_of_ble_eq_true rfl) hR0.2.1, by omega, by omega⟩ rfl (Nat.le_of_ble_eq_true rfl) dL_law_761 rfl (fun v3 i4 r5 hv6 hi7 hw8 hq9 => ?_)
  obtain ⟨e40, h⟩ := hq9
  subst e40
  refine V.ks (kc2 := kc + 3) (sl2 := sl + 18) (by omega) (by omega) ?_
  refine V.istore (pc := 764) (lv' := [(6, .int (sJ v3)), (0, .ref b), (1, .ref (sA Δ 0)), (2, .ref (sA Δ 504)), (3, .ref (sA Δ 540)), (4, .ref (sA Δ 541)), (5, .int (sJ x5))]) hG dL_law_764 (by decide) rfl ?_
  refine V.aload_n (pc := 766) hG dL_law_766 rfl 3 rfl ?_
  refine V.aload_n (pc := 767) hG dL_law_767 rfl 1 rfl ?_
  refine V.iload (pc := 768) hG dL_law_768 6 rfl ?_
  refine V.iconst (pc := 770) hG dL_law_770 ?_
  refine V.iadd (pc := 771) hG dL_law_771 ?_
  obtain ⟨g10, h⟩ := h
  refine V.sld (pc := 772) hG hX ((sR_wr _)) g10 dL_law_772 ?_
  refine V.i2c (pc := 773) hG ((sR_sv _ _)) dL_law_773 ?_
  refine V.aload_n (pc := 774) hG dL_law_774 rfl 1 rfl ?_
  refine V.iload (pc := 775) hG dL_law_775 6 rfl ?_
  refine V.iconst (pc := 777) hG dL_law_777 ?_
  refine V.iadd (pc := 778) hG dL_law_778 ?_
  obtain ⟨g11, h⟩ := h
  refine V.sld (pc := 779) hG hX ((sR_wr _)) g11 dL_law_779 ?_
  refine V.callVi (pc := 780) (As := [.int (sJ (((sv xs (wr (x5 + 1)))) % 65536)), .int (sJ (sv xs (wr (x5 + 2))))]) (stk := []) hG (sm_X12_setUnits l Δ sR_c ((sR_sv _ _)) hi7 hw h) mY_X12_setUnits kw_1999 kw_2000 kw_2001 a_504 (by decide) (q := (RX12, TX12, 49)) rfl rfl ⟨Nat.le_trans (Nat.le_of_ble_eq_true rfl) hR0.1, Nat.le_trans (Nat.le_of_ble_eq_true rfl) hR0.2.1, by omega, by omega⟩ rfl (Nat.le_of_ble_eq_true rfl) dL_law_780 rfl (fun v12 i13 r14 hv15 hi16 hw17 hq18 => ?_)
  obtain ⟨e38, h⟩ := hq18
  subst e38
  refine V.istore (pc := 783) (lv' := [(7, .int (sJ v12)), (6, .int (sJ v3)), (0, .ref b), (1, .ref (sA Δ 0)), (2, .ref (sA Δ 504)), (3, .ref (sA Δ 540)), (4, .ref (sA Δ 541)), (5, .int (sJ x5))]) hG dL_law_783 (by decide) rfl ?_
  refine V.aload_n (pc := 785) hG dL_law_785 rfl 4 rfl ?_
  refine V.callVi (pc := 786) (As := []) (stk := []) hG (sm_X12_thrown l Δ  hi16 hw h) mY_X12_thrown kw_1840 kw_1841 kw_1842 a_504 (by decide) (q := (RX12, TX12, 49)) rfl rfl ⟨Nat.le_trans (Nat.le_of_ble_eq_true rfl) hR0.1, Nat.le_trans (Nat.le_of_ble_eq_true rfl) hR0.2.1, by omega, by omega⟩ rfl (Nat.le_of_ble_eq_true rfl) dL_law_786 rfl (fun v19 i20 r21 hv22 hi23 hw24 hq25 => ?_)
  obtain ⟨e35, e36, h⟩ := hq25
  subst e35
  subst e36
  refine V.iload (pc := 789) hG dL_law_789 1 rfl ?_
  obtain ⟨t27, f28⟩ := h
  refine V.icmp_eq (pc := 791) (tgt := 796) hG hv22 hv6 dL_law_791 (by decide) (fun c26 => ?_) (fun c26 => ?_)
  · have h := t27 c26
    clear t27 f28
    refine V.iload (pc := 796) hG dL_law_796 1 rfl ?_
    obtain ⟨f31, t30⟩ := h
    refine V.if_ne (pc := 798) (tgt := 813) hG hv6 dL_law_798 (by decide) (fun c29 => ?_) (fun c29 => ?_)
    · have h := t30 c29
      clear t30 f31
      refine V.pick [2, 3, 4, 5, 6, 7] rfl ?_
      exact jn813 i13 hi16 h
    · have h := f31 c29
      clear t30 f31
      refine V.aload_n (pc := 801) hG dL_law_801 rfl 5 rfl ?_
      refine V.iconst (pc := 802) hG dL_law_802 ?_
      refine V.lald0 (pc := 803) (z := 1) (o := 540) hG a_540 a_540.n (by decide) dL_law_803 ?_
      refine V.iload (pc := 804) hG dL_law_804 0 rfl ?_
      refine V.i2l (pc := 806) hG dL_law_806 ?_
      refine V.lcmp (pc := 807) hG dL_law_807 ?_
      obtain ⟨t33, f34⟩ := h
      refine V.if_eq (pc := 808) (tgt := 813) hG ((sR_of _)) dL_law_808 (by decide) (fun c32 => ?_) (fun c32 => ?_)
      · have h := t33 c32
        clear t33 f34
        refine V.pick [2, 3, 4, 5, 6, 7] rfl ?_
        exact jn813 i13 hi16 h
      · have h := f34 c32
        clear t33 f34
        refine V.iconst (pc := 811) hG dL_law_811 ?_
        exact h.elim
  · have h := f28 c26
    clear t27 f28
    refine V.iconst (pc := 794) hG dL_law_794 ?_
    exact h.elim
set_option maxRecDepth 100000 in
set_option maxHeartbeats 4000000 in
theorem lc_11 {Γ : Cx} {Δ : Wd} {l : Launch} {R : Room} {Q0 : State → Prop} {b : Nat} {xs : Nat → Int32} {L : Nat} {x5 : Int} {kc sl : Nat} {C : MI → MI → Prop} {i r : MI} (hst : l.stackTraces = false) (hG : okG Γ Δ l R cL_law "SchedularyLaw" 9) (hX : okS Γ Δ b L xs) (hR0 : 20 ≤ R.frames ∧ 10000 ≤ R.locals ∧ kc + 3 ≤ R.cells ∧ sl + 18 ≤ R.slots) (hx5 : sR x5) (hi : okI i) (hw : Wf r) (h : wc_11 xs L C x5 i r)
    (kk : ∀ i' r' : MI, okI i' → Wf r' → C i' r' → V Γ Δ 542 false i' r' (kc + 3) (sl + 18) Q0 2281 [(0, .ref b), (1, .ref (sA Δ 0)), (2, .ref (sA Δ 504)), (3, .ref (sA Δ 540)), (4, .ref (sA Δ 541)), (5, .int (sJ x5))] []) : V Γ Δ 542 false i r kc sl Q0 816 [(0, .ref b), (1, .ref (sA Δ 0)), (2, .ref (sA Δ 504)), (3, .ref (sA Δ 540)), (4, .ref (sA Δ 541)), (5, .int (sJ x5))] [] := by
  unfold wc_11 at h
  have jn883 : ∀  (ij883 : MI), okI ij883 → s883_LC11 x5 ij883 r xs L C → V Γ Δ 542 false ij883 r (kc + 3) (sl + 18) Q0 883 [(0, .ref b), (1, .ref (sA Δ 0)), (2, .ref (sA Δ 504)), (3, .ref (sA Δ 540)), (4, .ref (sA Δ 541)), (5, .int (sJ x5))] [] := by
    intro ij883 hij883 h
    refine V.goto (pc := 883) (tgt := 2281) hG dL_law_883 (by decide) ?_
    refine V.ks (kc2 := kc + 3) (sl2 := sl + 18) (by omega) (by omega) ?_
    exact kk ij883 r hij883 hw h
  refine V.aload_n (pc := 816) hG dL_law_816 rfl 1 rfl ?_
  refine V.aload_n (pc := 817) hG dL_law_817 rfl 0 rfl ?_
  refine V.iload (pc := 818) hG dL_law_818 5 rfl ?_
  refine V.iconst (pc := 820) hG dL_law_820 ?_
  refine V.iadd (pc := 821) hG dL_law_821 ?_
  obtain ⟨g1, h⟩ := h
  refine V.sld (pc := 822) hG hX ((sR_wr _)) g1 dL_law_822 ?_
  refine V.i2c (pc := 823) hG ((sR_sv _ _)) dL_law_823 ?_
  refine V.aload_n (pc := 824) hG dL_law_824 rfl 0 rfl ?_
  refine V.iload (pc := 825) hG dL_law_825 5 rfl ?_
  refine V.iconst (pc := 827) hG dL_law_827 ?_
  refine V.iadd (pc := 828) hG dL_law_828 ?_
  obtain ⟨g2, h⟩ := h
  refine V.sld (pc := 829) hG hX ((sR_wr _)) g2 dL_law_829 ?_
  refine V.aload_n (pc := 830) hG dL_law_830 rfl 3 rfl ?_
  refine V.callSWi (pc := 831) (na := 4) (As := [.ref (sA Δ 0), .int (sJ (((sv xs (wr (x5 + 1)))) % 65536)), .int (sJ (sv xs (wr (x5 + 2)))), .ref (sA Δ 540)]) (stk := []) hG (sm_L_setCycles l Δ sR_c ((sR_sv _ _)) hst hi hw h) kw_157 kl_L_setCycles (by decide) (by decide +kernel) kw_1488 kw_1489 ⟨Nat.le_trans (Nat.le_of_ble_eq_true rfl) hR0.1, Nat.le_trans (Nat.le_of_ble_eq_true rfl) hR0.2.1, by omega, by omega⟩ rfl (Nat.le_of_ble_eq_true rfl) dL_law_831 rfl (fun v3 i4 r5 hv6 hi7 hw8 hq9 => ?_)
  obtain ⟨e40, h⟩ := hq9
  subst e40
  refine V.ks (kc2 := kc + 3) (sl2 := sl + 18) (by omega) (by omega) ?_
  refine V.istore (pc := 834) (lv' := [(6, .int (sJ v3)), (0, .ref b), (1, .ref (sA Δ 0)), (2, .ref (sA Δ 504)), (3, .ref (sA Δ 540)), (4, .ref (sA Δ 541)), (5, .int (sJ x5))]) hG dL_law_834 (by decide) rfl ?_
  refine V.aload_n (pc := 836) hG dL_law_836 rfl 3 rfl ?_
  refine V.aload_n (pc := 837) hG dL_law_837 rfl 1 rfl ?_
  refine V.iload (pc := 838) hG dL_law_838 6 rfl ?_
  refine V.iconst (pc := 840) hG dL_law_840 ?_
  refine V.iadd (pc := 841) hG dL_law_841 ?_
  obtain ⟨g10, h⟩ := h
  refine V.sld (pc := 842) hG hX ((sR_wr _)) g10 dL_law_842 ?_
  refine V.i2c (pc := 843) hG ((sR_sv _ _)) dL_law_843 ?_
  refine V.aload_n (pc := 844) hG dL_law_844 rfl 1 rfl ?_
  refine V.iload (pc := 845) hG dL_law_845 6 rfl ?_
  refine V.iconst (pc := 847) hG dL_law_847 ?_
  refine V.iadd (pc := 848) hG dL_law_848 ?_
  obtain ⟨g11, h⟩ := h
  refine V.sld (pc := 849) hG hX ((sR_wr _)) g11 dL_law_849 ?_
  refine V.callVi (pc := 850) (As := [.int (sJ (((sv xs (wr (x5 + 1)))) % 65536)), .int (sJ (sv xs (wr (x5 + 2))))]) (stk := []) hG (sm_X12_setCycles l Δ sR_c ((sR_sv _ _)) hi7 hw h) mY_X12_setCycles kw_2004 kw_2005 kw_2006 a_504 (by decide) (q := (RX12, TX12, 49)) rfl rfl ⟨Nat.le_trans (Nat.le_of_ble_eq_true rfl) hR0.1, Nat.le_trans (Nat.le_of_ble_eq_true rfl) hR0.2.1, by omega, by omega⟩ rfl (Nat.le_of_ble_eq_true rfl) dL_law_850 rfl (fun v12 i13 r14 hv15 hi16 hw17 hq18 => ?_)
  obtain ⟨e38, h⟩ := hq18
  subst e38
  refine V.istore (pc := 853) (lv' := [(7, .int (sJ v12)), (6, .int (sJ v3)), (0, .ref b), (1, .ref (sA Δ 0)), (2, .ref (sA Δ 504)), (3, .ref (sA Δ 540)), (4, .ref (sA Δ 541)), (5, .int (sJ x5))]) hG dL_law_853 (by decide) rfl ?_
  refine V.aload_n (pc := 855) hG dL_law_855 rfl 4 rfl ?_
  refine V.callVi (pc := 856) (As := []) (stk := []) hG (sm_X12_thrown l Δ  hi16 hw h) mY_X12_thrown kw_1840 kw_1841 kw_1842 a_504 (by decide) (q := (RX12, TX12, 49)) rfl rfl ⟨Nat.le_trans (Nat.le_of_ble_eq_true rfl) hR0.1, Nat.le_trans (Nat.le_of_ble_eq_true rfl) hR0.2.1, by omega, by omega⟩ rfl (Nat.le_of_ble_eq_true rfl) dL_law_856 rfl (fun v19 i20 r21 hv22 hi23 hw24 hq25 => ?_)
  obtain ⟨e35, e36, h⟩ := hq25
  subst e35
  subst e36
  refine V.iload (pc := 859) hG dL_law_859 1 rfl ?_
  obtain ⟨t27, f28⟩ := h
  refine V.icmp_eq (pc := 861) (tgt := 866) hG hv22 hv6 dL_law_861 (by decide) (fun c26 => ?_) (fun c26 => ?_)
  · have h := t27 c26
    clear t27 f28
    refine V.iload (pc := 866) hG dL_law_866 1 rfl ?_
    obtain ⟨f31, t30⟩ := h
    refine V.if_ne (pc := 868) (tgt := 883) hG hv6 dL_law_868 (by decide) (fun c29 => ?_) (fun c29 => ?_)
    · have h := t30 c29
      clear t30 f31
      refine V.pick [2, 3, 4, 5, 6, 7] rfl ?_
      exact jn883 i13 hi16 h
    · have h := f31 c29
      clear t30 f31
      refine V.aload_n (pc := 871) hG dL_law_871 rfl 5 rfl ?_
      refine V.iconst (pc := 872) hG dL_law_872 ?_
      refine V.lald0 (pc := 873) (z := 1) (o := 540) hG a_540 a_540.n (by decide) dL_law_873 ?_
      refine V.iload (pc := 874) hG dL_law_874 0 rfl ?_
      refine V.i2l (pc := 876) hG dL_law_876 ?_
      refine V.lcmp (pc := 877) hG dL_law_877 ?_
      obtain ⟨t33, f34⟩ := h
      refine V.if_eq (pc := 878) (tgt := 883) hG ((sR_of _)) dL_law_878 (by decide) (fun c32 => ?_) (fun c32 => ?_)
      · have h := t33 c32
        clear t33 f34
        refine V.pick [2, 3, 4, 5, 6, 7] rfl ?_
        exact jn883 i13 hi16 h
      · have h := f34 c32
        clear t33 f34
        refine V.iconst (pc := 881) hG dL_law_881 ?_
        exact h.elim
  · have h := f28 c26
    clear t27 f28
    refine V.iconst (pc := 864) hG dL_law_864 ?_
    exact h.elim
set_option maxRecDepth 100000 in
set_option maxHeartbeats 4000000 in
theorem lc_12 {Γ : Cx} {Δ : Wd} {l : Launch} {R : Room} {Q0 : State → Prop} {b : Nat} {xs : Nat → Int32} {L : Nat} {x5 : Int} {kc sl : Nat} {C : MI → MI → Prop} {i r : MI} (hst : l.stackTraces = false) (hG : okG Γ Δ l R cL_law "SchedularyLaw" 9) (hX : okS Γ Δ b L xs) (hR0 : 20 ≤ R.frames ∧ 10000 ≤ R.locals ∧ kc + 3 ≤ R.cells ∧ sl + 18 ≤ R.slots) (hx5 : sR x5) (hi : okI i) (hw : Wf r) (h : wc_12 xs L C x5 i r)
    (kk : ∀ i' r' : MI, okI i' → Wf r' → C i' r' → V Γ Δ 542 false i' r' (kc + 3) (sl + 18) Q0 2281 [(0, .ref b), (1, .ref (sA Δ 0)), (2, .ref (sA Δ 504)), (3, .ref (sA Δ 540)), (4, .ref (sA Δ 541)), (5, .int (sJ x5))] []) : V Γ Δ 542 false i r kc sl Q0 886 [(0, .ref b), (1, .ref (sA Δ 0)), (2, .ref (sA Δ 504)), (3, .ref (sA Δ 540)), (4, .ref (sA Δ 541)), (5, .int (sJ x5))] [] := by
  refine V.ks (kc2 := kc + 3) (sl2 := sl + 18) (by omega) (by omega) ?_
  unfold wc_12 at h
  refine V.aload_n (pc := 886) hG dL_law_886 rfl 1 rfl ?_
  refine V.callVi (pc := 887) (As := []) (stk := []) hG (sm_X11_outputs l Δ  hi hw h) mY_X11_outputs kw_758 kw_759 kw_760 a_0 (by decide) (q := (RX11, TX11, 11)) rfl rfl ⟨Nat.le_trans (Nat.le_of_ble_eq_true rfl) hR0.1, Nat.le_trans (Nat.le_of_ble_eq_true rfl) hR0.2.1, by omega, by omega⟩ rfl (Nat.le_of_ble_eq_true rfl) dL_law_887 rfl (fun v1 i2 r3 hv4 hi5 hw6 hq7 => ?_)
  obtain ⟨e21, h⟩ := hq7
  subst e21
  refine V.aload_n (pc := 890) hG dL_law_890 rfl 2 rfl ?_
  refine V.callVi (pc := 891) (As := []) (stk := [.int (sJ v1)]) hG (sm_X12_outputs l Δ  hi5 hw h) mY_X12_outputs kw_2008 kw_2009 kw_2010 a_504 (by decide) (q := (RX12, TX12, 49)) rfl rfl ⟨Nat.le_trans (Nat.le_of_ble_eq_true rfl) hR0.1, Nat.le_trans (Nat.le_of_ble_eq_true rfl) hR0.2.1, by omega, by omega⟩ rfl (Nat.le_of_ble_eq_true rfl) dL_law_891 rfl (fun v8 i9 r10 hv11 hi12 hw13 hq14 => ?_)
  obtain ⟨e19, h⟩ := hq14
  subst e19
  obtain ⟨t16, f17⟩ := h
  refine V.icmp_eq (pc := 894) (tgt := 2281) hG hv4 hv11 dL_law_894 (by decide) (fun c15 => ?_) (fun c15 => ?_)
  · have h := t16 c15
    clear t16 f17
    exact kk i9 r hi12 hw h
  · have h := f17 c15
    clear t16 f17
    refine V.iconst (pc := 897) hG dL_law_897 ?_
    exact h.elim
set_option maxRecDepth 100000 in
set_option maxHeartbeats 4000000 in
theorem lc_13 {Γ : Cx} {Δ : Wd} {l : Launch} {R : Room} {Q0 : State → Prop} {b : Nat} {xs : Nat → Int32} {L : Nat} {x5 : Int} {kc sl : Nat} {C : MI → MI → Prop} {i r : MI} (hst : l.stackTraces = false) (hG : okG Γ Δ l R cL_law "SchedularyLaw" 9) (hX : okS Γ Δ b L xs) (hR0 : 20 ≤ R.frames ∧ 10000 ≤ R.locals ∧ kc + 3 ≤ R.cells ∧ sl + 18 ≤ R.slots) (hx5 : sR x5) (hi : okI i) (hw : Wf r) (h : wc_13 xs L C x5 i r)
    (kk : ∀ i' r' : MI, okI i' → Wf r' → C i' r' → V Γ Δ 542 false i' r' (kc + 3) (sl + 18) Q0 2281 [(0, .ref b), (1, .ref (sA Δ 0)), (2, .ref (sA Δ 504)), (3, .ref (sA Δ 540)), (4, .ref (sA Δ 541)), (5, .int (sJ x5))] []) : V Γ Δ 542 false i r kc sl Q0 899 [(0, .ref b), (1, .ref (sA Δ 0)), (2, .ref (sA Δ 504)), (3, .ref (sA Δ 540)), (4, .ref (sA Δ 541)), (5, .int (sJ x5))] [] := by
  unfold wc_13 at h
  have jn952 : ∀  (ij952 : MI), okI ij952 → s952_LC13 x5 ij952 r xs L C → V Γ Δ 542 false ij952 r (kc + 3) (sl + 18) Q0 952 [(0, .ref b), (1, .ref (sA Δ 0)), (2, .ref (sA Δ 504)), (3, .ref (sA Δ 540)), (4, .ref (sA Δ 541)), (5, .int (sJ x5))] [] := by
    intro ij952 hij952 h
    refine V.goto (pc := 952) (tgt := 2281) hG dL_law_952 (by decide) ?_
    refine V.ks (kc2 := kc + 3) (sl2 := sl + 18) (by omega) (by omega) ?_
    exact kk ij952 r hij952 hw h
  refine V.aload_n (pc := 899) hG dL_law_899 rfl 1 rfl ?_
  refine V.aload_n (pc := 900) hG dL_law_900 rfl 0 rfl ?_
  refine V.iload (pc := 901) hG dL_law_901 5 rfl ?_
  refine V.iconst (pc := 903) hG dL_law_903 ?_
  refine V.iadd (pc := 904) hG dL_law_904 ?_
  obtain ⟨g1, h⟩ := h
  refine V.sld (pc := 905) hG hX ((sR_wr _)) g1 dL_law_905 ?_
  refine V.aload_n (pc := 906) hG dL_law_906 rfl 3 rfl ?_
  refine V.callSWi (pc := 907) (na := 3) (As := [.ref (sA Δ 0), .int (sJ (sv xs (wr (x5 + 1)))), .ref (sA Δ 540)]) (stk := []) hG (sm_L_output l Δ ((sR_sv _ _)) hst hi hw h) kw_157 kl_L_output (by decide) (by decide +kernel) kw_1496 kw_1497 ⟨Nat.le_trans (Nat.le_of_ble_eq_true rfl) hR0.1, Nat.le_trans (Nat.le_of_ble_eq_true rfl) hR0.2.1, by omega, by omega⟩ rfl (Nat.le_of_ble_eq_true rfl) dL_law_907 rfl (fun v2 i3 r4 hv5 hi6 hw7 hq8 => ?_)
  obtain ⟨e38, h⟩ := hq8
  subst e38
  refine V.ks (kc2 := kc + 3) (sl2 := sl + 18) (by omega) (by omega) ?_
  refine V.istore (pc := 910) (lv' := [(6, .int (sJ v2)), (0, .ref b), (1, .ref (sA Δ 0)), (2, .ref (sA Δ 504)), (3, .ref (sA Δ 540)), (4, .ref (sA Δ 541)), (5, .int (sJ x5))]) hG dL_law_910 (by decide) rfl ?_
  refine V.aload_n (pc := 912) hG dL_law_912 rfl 3 rfl ?_
  refine V.aload_n (pc := 913) hG dL_law_913 rfl 1 rfl ?_
  refine V.iload (pc := 914) hG dL_law_914 6 rfl ?_
  refine V.iconst (pc := 916) hG dL_law_916 ?_
  refine V.iadd (pc := 917) hG dL_law_917 ?_
  obtain ⟨g9, h⟩ := h
  refine V.sld (pc := 918) hG hX ((sR_wr _)) g9 dL_law_918 ?_
  refine V.callVi (pc := 919) (As := [.int (sJ (sv xs (wr (x5 + 1))))]) (stk := []) hG (sm_X12_output l Δ ((sR_sv _ _)) hi6 hw h) mY_X12_output kw_2043 kw_2044 kw_2045 a_504 (by decide) (q := (RX12, TX12, 49)) rfl rfl ⟨Nat.le_trans (Nat.le_of_ble_eq_true rfl) hR0.1, Nat.le_trans (Nat.le_of_ble_eq_true rfl) hR0.2.1, by omega, by omega⟩ rfl (Nat.le_of_ble_eq_true rfl) dL_law_919 rfl (fun v10 i11 r12 hv13 hi14 hw15 hq16 => ?_)
  obtain ⟨e36, h⟩ := hq16
  subst e36
  refine V.istore (pc := 922) (lv' := [(7, .int (sJ v10)), (6, .int (sJ v2)), (0, .ref b), (1, .ref (sA Δ 0)), (2, .ref (sA Δ 504)), (3, .ref (sA Δ 540)), (4, .ref (sA Δ 541)), (5, .int (sJ x5))]) hG dL_law_922 (by decide) rfl ?_
  refine V.aload_n (pc := 924) hG dL_law_924 rfl 4 rfl ?_
  refine V.callVi (pc := 925) (As := []) (stk := []) hG (sm_X12_thrown l Δ  hi14 hw h) mY_X12_thrown kw_1840 kw_1841 kw_1842 a_504 (by decide) (q := (RX12, TX12, 49)) rfl rfl ⟨Nat.le_trans (Nat.le_of_ble_eq_true rfl) hR0.1, Nat.le_trans (Nat.le_of_ble_eq_true rfl) hR0.2.1, by omega, by omega⟩ rfl (Nat.le_of_ble_eq_true rfl) dL_law_925 rfl (fun v17 i18 r19 hv20 hi21 hw22 hq23 => ?_)
  obtain ⟨e33, e34, h⟩ := hq23
  subst e33
  subst e34
  refine V.iload (pc := 928) hG dL_law_928 1 rfl ?_
  obtain ⟨t25, f26⟩ := h
  refine V.icmp_eq (pc := 930) (tgt := 935) hG hv20 hv5 dL_law_930 (by decide) (fun c24 => ?_) (fun c24 => ?_)
  · have h := t25 c24
    clear t25 f26
    refine V.iload (pc := 935) hG dL_law_935 1 rfl ?_
    obtain ⟨f29, t28⟩ := h
    refine V.if_ne (pc := 937) (tgt := 952) hG hv5 dL_law_937 (by decide) (fun c27 => ?_) (fun c27 => ?_)
    · have h := t28 c27
      clear t28 f29
      refine V.pick [2, 3, 4, 5, 6, 7] rfl ?_
      exact jn952 i11 hi14 h
    · have h := f29 c27
      clear t28 f29
      refine V.aload_n (pc := 940) hG dL_law_940 rfl 5 rfl ?_
      refine V.iconst (pc := 941) hG dL_law_941 ?_
      refine V.lald0 (pc := 942) (z := 1) (o := 540) hG a_540 a_540.n (by decide) dL_law_942 ?_
      refine V.iload (pc := 943) hG dL_law_943 0 rfl ?_
      refine V.i2l (pc := 945) hG dL_law_945 ?_
      refine V.lcmp (pc := 946) hG dL_law_946 ?_
      obtain ⟨t31, f32⟩ := h
      refine V.if_eq (pc := 947) (tgt := 952) hG ((sR_of _)) dL_law_947 (by decide) (fun c30 => ?_) (fun c30 => ?_)
      · have h := t31 c30
        clear t31 f32
        refine V.pick [2, 3, 4, 5, 6, 7] rfl ?_
        exact jn952 i11 hi14 h
      · have h := f32 c30
        clear t31 f32
        refine V.iconst (pc := 950) hG dL_law_950 ?_
        exact h.elim
  · have h := f26 c24
    clear t25 f26
    refine V.iconst (pc := 933) hG dL_law_933 ?_
    exact h.elim
set_option maxRecDepth 100000 in
set_option maxHeartbeats 4000000 in
theorem lc_14 {Γ : Cx} {Δ : Wd} {l : Launch} {R : Room} {Q0 : State → Prop} {b : Nat} {xs : Nat → Int32} {L : Nat} {x5 : Int} {kc sl : Nat} {C : MI → MI → Prop} {i r : MI} (hst : l.stackTraces = false) (hG : okG Γ Δ l R cL_law "SchedularyLaw" 9) (hX : okS Γ Δ b L xs) (hR0 : 20 ≤ R.frames ∧ 10000 ≤ R.locals ∧ kc + 3 ≤ R.cells ∧ sl + 18 ≤ R.slots) (hx5 : sR x5) (hi : okI i) (hw : Wf r) (h : wc_14 xs L C x5 i r)
    (kk : ∀ i' r' : MI, okI i' → Wf r' → C i' r' → V Γ Δ 542 false i' r' (kc + 3) (sl + 18) Q0 2281 [(0, .ref b), (1, .ref (sA Δ 0)), (2, .ref (sA Δ 504)), (3, .ref (sA Δ 540)), (4, .ref (sA Δ 541)), (5, .int (sJ x5))] []) : V Γ Δ 542 false i r kc sl Q0 955 [(0, .ref b), (1, .ref (sA Δ 0)), (2, .ref (sA Δ 504)), (3, .ref (sA Δ 540)), (4, .ref (sA Δ 541)), (5, .int (sJ x5))] [] := by
  unfold wc_14 at h
  have jn1022 : ∀  (ij1022 : MI), okI ij1022 → s1022_LC14 x5 ij1022 r xs L C → V Γ Δ 542 false ij1022 r (kc + 3) (sl + 18) Q0 1022 [(0, .ref b), (1, .ref (sA Δ 0)), (2, .ref (sA Δ 504)), (3, .ref (sA Δ 540)), (4, .ref (sA Δ 541)), (5, .int (sJ x5))] [] := by
    intro ij1022 hij1022 h
    refine V.goto (pc := 1022) (tgt := 2281) hG dL_law_1022 (by decide) ?_
    refine V.ks (kc2 := kc + 3) (sl2 := sl + 18) (by omega) (by omega) ?_
    exact kk ij1022 r hij1022 hw h
  refine V.aload_n (pc := 955) hG dL_law_955 rfl 1 rfl ?_
  refine V.aload_n (pc := 956) hG dL_law_956 rfl 0 rfl ?_
  refine V.iload (pc := 957) hG dL_law_957 5 rfl ?_
  refine V.iconst (pc := 959) hG dL_law_959 ?_
  refine V.iadd (pc := 960) hG dL_law_960 ?_
  obtain ⟨g1, h⟩ := h
  refine V.sld (pc := 961) hG hX ((sR_wr _)) g1 dL_law_961 ?_
  refine V.i2c (pc := 962) hG ((sR_sv _ _)) dL_law_962 ?_
  refine V.aload_n (pc := 963) hG dL_law_963 rfl 0 rfl ?_
  refine V.iload (pc := 964) hG dL_law_964 5 rfl ?_
  refine V.iconst (pc := 966) hG dL_law_966 ?_
  refine V.iadd (pc := 967) hG dL_law_967 ?_
  obtain ⟨g2, h⟩ := h
  refine V.sld (pc := 968) hG hX ((sR_wr _)) g2 dL_law_968 ?_
  refine V.aload_n (pc := 969) hG dL_law_969 rfl 3 rfl ?_
  refine V.callSWi (pc := 970) (na := 4) (As := [.ref (sA Δ 0), .int (sJ (((sv xs (wr (x5 + 1)))) % 65536)), .int (sJ (sv xs (wr (x5 + 2)))), .ref (sA Δ 540)]) (stk := []) hG (sm_L_memoryAt l Δ sR_c ((sR_sv _ _)) hst hi hw h) kw_157 kl_L_memoryAt (by decide) (by decide +kernel) kw_1504 kw_1505 ⟨Nat.le_trans (Nat.le_of_ble_eq_true rfl) hR0.1, Nat.le_trans (Nat.le_of_ble_eq_true rfl) hR0.2.1, by omega, by omega⟩ rfl (Nat.le_of_ble_eq_true rfl) dL_law_970 rfl (fun v3 i4 r5 hv6 hi7 hw8 hq9 => ?_)
  obtain ⟨e40, h⟩ := hq9
  subst e40
  refine V.ks (kc2 := kc + 3) (sl2 := sl + 18) (by omega) (by omega) ?_
  refine V.istore (pc := 973) (lv' := [(6, .int (sJ v3)), (0, .ref b), (1, .ref (sA Δ 0)), (2, .ref (sA Δ 504)), (3, .ref (sA Δ 540)), (4, .ref (sA Δ 541)), (5, .int (sJ x5))]) hG dL_law_973 (by decide) rfl ?_
  refine V.aload_n (pc := 975) hG dL_law_975 rfl 3 rfl ?_
  refine V.aload_n (pc := 976) hG dL_law_976 rfl 1 rfl ?_
  refine V.iload (pc := 977) hG dL_law_977 6 rfl ?_
  refine V.iconst (pc := 979) hG dL_law_979 ?_
  refine V.iadd (pc := 980) hG dL_law_980 ?_
  obtain ⟨g10, h⟩ := h
  refine V.sld (pc := 981) hG hX ((sR_wr _)) g10 dL_law_981 ?_
  refine V.i2c (pc := 982) hG ((sR_sv _ _)) dL_law_982 ?_
  refine V.aload_n (pc := 983) hG dL_law_983 rfl 1 rfl ?_
  refine V.iload (pc := 984) hG dL_law_984 6 rfl ?_
  refine V.iconst (pc := 986) hG dL_law_986 ?_
  refine V.iadd (pc := 987) hG dL_law_987 ?_
  obtain ⟨g11, h⟩ := h
  refine V.sld (pc := 988) hG hX ((sR_wr _)) g11 dL_law_988 ?_
  refine V.callVi (pc := 989) (As := [.int (sJ (((sv xs (wr (x5 + 1)))) % 65536)), .int (sJ (sv xs (wr (x5 + 2))))]) (stk := []) hG (sm_X12_memoryAt l Δ sR_c ((sR_sv _ _)) hi7 hw h) mY_X12_memoryAt kw_2047 kw_2048 kw_2049 a_504 (by decide) (q := (RX12, TX12, 49)) rfl rfl ⟨Nat.le_trans (Nat.le_of_ble_eq_true rfl) hR0.1, Nat.le_trans (Nat.le_of_ble_eq_true rfl) hR0.2.1, by omega, by omega⟩ rfl (Nat.le_of_ble_eq_true rfl) dL_law_989 rfl (fun v12 i13 r14 hv15 hi16 hw17 hq18 => ?_)
  obtain ⟨e38, h⟩ := hq18
  subst e38
  refine V.istore (pc := 992) (lv' := [(7, .int (sJ v12)), (6, .int (sJ v3)), (0, .ref b), (1, .ref (sA Δ 0)), (2, .ref (sA Δ 504)), (3, .ref (sA Δ 540)), (4, .ref (sA Δ 541)), (5, .int (sJ x5))]) hG dL_law_992 (by decide) rfl ?_
  refine V.aload_n (pc := 994) hG dL_law_994 rfl 4 rfl ?_
  refine V.callVi (pc := 995) (As := []) (stk := []) hG (sm_X12_thrown l Δ  hi16 hw h) mY_X12_thrown kw_1840 kw_1841 kw_1842 a_504 (by decide) (q := (RX12, TX12, 49)) rfl rfl ⟨Nat.le_trans (Nat.le_of_ble_eq_true rfl) hR0.1, Nat.le_trans (Nat.le_of_ble_eq_true rfl) hR0.2.1, by omega, by omega⟩ rfl (Nat.le_of_ble_eq_true rfl) dL_law_995 rfl (fun v19 i20 r21 hv22 hi23 hw24 hq25 => ?_)
  obtain ⟨e35, e36, h⟩ := hq25
  subst e35
  subst e36
  refine V.iload (pc := 998) hG dL_law_998 1 rfl ?_
  obtain ⟨t27, f28⟩ := h
  refine V.icmp_eq (pc := 1000) (tgt := 1005) hG hv22 hv6 dL_law_1000 (by decide) (fun c26 => ?_) (fun c26 => ?_)
  · have h := t27 c26
    clear t27 f28
    refine V.iload (pc := 1005) hG dL_law_1005 1 rfl ?_
    obtain ⟨f31, t30⟩ := h
    refine V.if_ne (pc := 1007) (tgt := 1022) hG hv6 dL_law_1007 (by decide) (fun c29 => ?_) (fun c29 => ?_)
    · have h := t30 c29
      clear t30 f31
      refine V.pick [2, 3, 4, 5, 6, 7] rfl ?_
      exact jn1022 i13 hi16 h
    · have h := f31 c29
      clear t30 f31
      refine V.aload_n (pc := 1010) hG dL_law_1010 rfl 5 rfl ?_
      refine V.iconst (pc := 1011) hG dL_law_1011 ?_
      refine V.lald0 (pc := 1012) (z := 1) (o := 540) hG a_540 a_540.n (by decide) dL_law_1012 ?_
      refine V.iload (pc := 1013) hG dL_law_1013 0 rfl ?_
      refine V.i2l (pc := 1015) hG dL_law_1015 ?_
      refine V.lcmp (pc := 1016) hG dL_law_1016 ?_
      obtain ⟨t33, f34⟩ := h
      refine V.if_eq (pc := 1017) (tgt := 1022) hG ((sR_of _)) dL_law_1017 (by decide) (fun c32 => ?_) (fun c32 => ?_)
      · have h := t33 c32
        clear t33 f34
        refine V.pick [2, 3, 4, 5, 6, 7] rfl ?_
        exact jn1022 i13 hi16 h
      · have h := f34 c32
        clear t33 f34
        refine V.iconst (pc := 1020) hG dL_law_1020 ?_
        exact h.elim
  · have h := f28 c26
    clear t27 f28
    refine V.iconst (pc := 1003) hG dL_law_1003 ?_
    exact h.elim
set_option maxRecDepth 100000 in
set_option maxHeartbeats 4000000 in
theorem lc_15 {Γ : Cx} {Δ : Wd} {l : Launch} {R : Room} {Q0 : State → Prop} {b : Nat} {xs : Nat → Int32} {L : Nat} {x5 : Int} {kc sl : Nat} {C : MI → MI → Prop} {i r : MI} (hst : l.stackTraces = false) (hG : okG Γ Δ l R cL_law "SchedularyLaw" 9) (hX : okS Γ Δ b L xs) (hR0 : 20 ≤ R.frames ∧ 10000 ≤ R.locals ∧ kc + 3 ≤ R.cells ∧ sl + 18 ≤ R.slots) (hx5 : sR x5) (hi : okI i) (hw : Wf r) (h : wc_15 xs L C x5 i r)
    (kk : ∀ i' r' : MI, okI i' → Wf r' → C i' r' → V Γ Δ 542 false i' r' (kc + 3) (sl + 18) Q0 2281 [(0, .ref b), (1, .ref (sA Δ 0)), (2, .ref (sA Δ 504)), (3, .ref (sA Δ 540)), (4, .ref (sA Δ 541)), (5, .int (sJ x5))] []) : V Γ Δ 542 false i r kc sl Q0 1025 [(0, .ref b), (1, .ref (sA Δ 0)), (2, .ref (sA Δ 504)), (3, .ref (sA Δ 540)), (4, .ref (sA Δ 541)), (5, .int (sJ x5))] [] := by
  unfold wc_15 at h
  have jn1080 : ∀  (ij1080 : MI), okI ij1080 → s1080_LC15 x5 ij1080 r xs L C → V Γ Δ 542 false ij1080 r (kc + 3) (sl + 18) Q0 1080 [(0, .ref b), (1, .ref (sA Δ 0)), (2, .ref (sA Δ 504)), (3, .ref (sA Δ 540)), (4, .ref (sA Δ 541)), (5, .int (sJ x5))] [] := by
    intro ij1080 hij1080 h
    refine V.goto (pc := 1080) (tgt := 2281) hG dL_law_1080 (by decide) ?_
    refine V.ks (kc2 := kc + 3) (sl2 := sl + 18) (by omega) (by omega) ?_
    exact kk ij1080 r hij1080 hw h
  refine V.aload_n (pc := 1025) hG dL_law_1025 rfl 1 rfl ?_
  refine V.aload_n (pc := 1026) hG dL_law_1026 rfl 0 rfl ?_
  refine V.iload (pc := 1027) hG dL_law_1027 5 rfl ?_
  refine V.iconst (pc := 1029) hG dL_law_1029 ?_
  refine V.iadd (pc := 1030) hG dL_law_1030 ?_
  obtain ⟨g1, h⟩ := h
  refine V.sld (pc := 1031) hG hX ((sR_wr _)) g1 dL_law_1031 ?_
  refine V.i2c (pc := 1032) hG ((sR_sv _ _)) dL_law_1032 ?_
  refine V.aload_n (pc := 1033) hG dL_law_1033 rfl 3 rfl ?_
  refine V.callSWi (pc := 1034) (na := 3) (As := [.ref (sA Δ 0), .int (sJ (((sv xs (wr (x5 + 1)))) % 65536)), .ref (sA Δ 540)]) (stk := []) hG (sm_L_register l Δ sR_c hst hi hw h) kw_157 kl_L_register (by decide) (by decide +kernel) kw_1513 kw_1514 ⟨Nat.le_trans (Nat.le_of_ble_eq_true rfl) hR0.1, Nat.le_trans (Nat.le_of_ble_eq_true rfl) hR0.2.1, by omega, by omega⟩ rfl (Nat.le_of_ble_eq_true rfl) dL_law_1034 rfl (fun v2 i3 r4 hv5 hi6 hw7 hq8 => ?_)
  obtain ⟨e38, h⟩ := hq8
  subst e38
  refine V.ks (kc2 := kc + 3) (sl2 := sl + 18) (by omega) (by omega) ?_
  refine V.istore (pc := 1037) (lv' := [(6, .int (sJ v2)), (0, .ref b), (1, .ref (sA Δ 0)), (2, .ref (sA Δ 504)), (3, .ref (sA Δ 540)), (4, .ref (sA Δ 541)), (5, .int (sJ x5))]) hG dL_law_1037 (by decide) rfl ?_
  refine V.aload_n (pc := 1039) hG dL_law_1039 rfl 3 rfl ?_
  refine V.aload_n (pc := 1040) hG dL_law_1040 rfl 1 rfl ?_
  refine V.iload (pc := 1041) hG dL_law_1041 6 rfl ?_
  refine V.iconst (pc := 1043) hG dL_law_1043 ?_
  refine V.iadd (pc := 1044) hG dL_law_1044 ?_
  obtain ⟨g9, h⟩ := h
  refine V.sld (pc := 1045) hG hX ((sR_wr _)) g9 dL_law_1045 ?_
  refine V.i2c (pc := 1046) hG ((sR_sv _ _)) dL_law_1046 ?_
  refine V.callVi (pc := 1047) (As := [.int (sJ (((sv xs (wr (x5 + 1)))) % 65536))]) (stk := []) hG (sm_X12_register l Δ sR_c hi6 hw h) mY_X12_register kw_2051 kw_2052 kw_2053 a_504 (by decide) (q := (RX12, TX12, 49)) rfl rfl ⟨Nat.le_trans (Nat.le_of_ble_eq_true rfl) hR0.1, Nat.le_trans (Nat.le_of_ble_eq_true rfl) hR0.2.1, by omega, by omega⟩ rfl (Nat.le_of_ble_eq_true rfl) dL_law_1047 rfl (fun v10 i11 r12 hv13 hi14 hw15 hq16 => ?_)
  obtain ⟨e36, h⟩ := hq16
  subst e36
  refine V.istore (pc := 1050) (lv' := [(7, .int (sJ v10)), (6, .int (sJ v2)), (0, .ref b), (1, .ref (sA Δ 0)), (2, .ref (sA Δ 504)), (3, .ref (sA Δ 540)), (4, .ref (sA Δ 541)), (5, .int (sJ x5))]) hG dL_law_1050 (by decide) rfl ?_
  refine V.aload_n (pc := 1052) hG dL_law_1052 rfl 4 rfl ?_
  refine V.callVi (pc := 1053) (As := []) (stk := []) hG (sm_X12_thrown l Δ  hi14 hw h) mY_X12_thrown kw_1840 kw_1841 kw_1842 a_504 (by decide) (q := (RX12, TX12, 49)) rfl rfl ⟨Nat.le_trans (Nat.le_of_ble_eq_true rfl) hR0.1, Nat.le_trans (Nat.le_of_ble_eq_true rfl) hR0.2.1, by omega, by omega⟩ rfl (Nat.le_of_ble_eq_true rfl) dL_law_1053 rfl (fun v17 i18 r19 hv20 hi21 hw22 hq23 => ?_)
  obtain ⟨e33, e34, h⟩ := hq23
  subst e33
  subst e34
  refine V.iload (pc := 1056) hG dL_law_1056 1 rfl ?_
  obtain ⟨t25, f26⟩ := h
  refine V.icmp_eq (pc := 1058) (tgt := 1063) hG hv20 hv5 dL_law_1058 (by decide) (fun c24 => ?_) (fun c24 => ?_)
  · have h := t25 c24
    clear t25 f26
    refine V.iload (pc := 1063) hG dL_law_1063 1 rfl ?_
    obtain ⟨f29, t28⟩ := h
    refine V.if_ne (pc := 1065) (tgt := 1080) hG hv5 dL_law_1065 (by decide) (fun c27 => ?_) (fun c27 => ?_)
    · have h := t28 c27
      clear t28 f29
      refine V.pick [2, 3, 4, 5, 6, 7] rfl ?_
      exact jn1080 i11 hi14 h
    · have h := f29 c27
      clear t28 f29
      refine V.aload_n (pc := 1068) hG dL_law_1068 rfl 5 rfl ?_
      refine V.iconst (pc := 1069) hG dL_law_1069 ?_
      refine V.lald0 (pc := 1070) (z := 1) (o := 540) hG a_540 a_540.n (by decide) dL_law_1070 ?_
      refine V.iload (pc := 1071) hG dL_law_1071 0 rfl ?_
      refine V.i2l (pc := 1073) hG dL_law_1073 ?_
      refine V.lcmp (pc := 1074) hG dL_law_1074 ?_
      obtain ⟨t31, f32⟩ := h
      refine V.if_eq (pc := 1075) (tgt := 1080) hG ((sR_of _)) dL_law_1075 (by decide) (fun c30 => ?_) (fun c30 => ?_)
      · have h := t31 c30
        clear t31 f32
        refine V.pick [2, 3, 4, 5, 6, 7] rfl ?_
        exact jn1080 i11 hi14 h
      · have h := f32 c30
        clear t31 f32
        refine V.iconst (pc := 1078) hG dL_law_1078 ?_
        exact h.elim
  · have h := f26 c24
    clear t25 f26
    refine V.iconst (pc := 1061) hG dL_law_1061 ?_
    exact h.elim
set_option maxRecDepth 100000 in
set_option maxHeartbeats 4000000 in
theorem lc_16 {Γ : Cx} {Δ : Wd} {l : Launch} {R : Room} {Q0 : State → Prop} {b : Nat} {xs : Nat → Int32} {L : Nat} {x5 : Int} {kc sl : Nat} {C : MI → MI → Prop} {i r : MI} (hst : l.stackTraces = false) (hG : okG Γ Δ l R cL_law "SchedularyLaw" 9) (hX : okS Γ Δ b L xs) (hR0 : 20 ≤ R.frames ∧ 10000 ≤ R.locals ∧ kc + 3 ≤ R.cells ∧ sl + 18 ≤ R.slots) (hx5 : sR x5) (hi : okI i) (hw : Wf r) (h : wc_16 xs L C x5 i r)
    (kk : ∀ i' r' : MI, okI i' → Wf r' → C i' r' → V Γ Δ 542 false i' r' (kc + 3) (sl + 18) Q0 2281 [(0, .ref b), (1, .ref (sA Δ 0)), (2, .ref (sA Δ 504)), (3, .ref (sA Δ 540)), (4, .ref (sA Δ 541)), (5, .int (sJ x5))] []) : V Γ Δ 542 false i r kc sl Q0 1083 [(0, .ref b), (1, .ref (sA Δ 0)), (2, .ref (sA Δ 504)), (3, .ref (sA Δ 540)), (4, .ref (sA Δ 541)), (5, .int (sJ x5))] [] := by
  refine V.ks (kc2 := kc + 3) (sl2 := sl + 18) (by omega) (by omega) ?_
  unfold wc_16 at h
  refine V.aload_n (pc := 1083) hG dL_law_1083 rfl 1 rfl ?_
  refine V.callVi (pc := 1084) (As := []) (stk := []) hG (sm_X11_taken l Δ  hi hw h) mY_X11_taken kw_822 kw_823 kw_824 a_0 (by decide) (q := (RX11, TX11, 11)) rfl rfl ⟨Nat.le_trans (Nat.le_of_ble_eq_true rfl) hR0.1, Nat.le_trans (Nat.le_of_ble_eq_true rfl) hR0.2.1, by omega, by omega⟩ rfl (Nat.le_of_ble_eq_true rfl) dL_law_1084 rfl (fun v1 i2 r3 hv4 hi5 hw6 hq7 => ?_)
  obtain ⟨e21, h⟩ := hq7
  subst e21
  refine V.aload_n (pc := 1087) hG dL_law_1087 rfl 2 rfl ?_
  refine V.callVi (pc := 1088) (As := []) (stk := [.int (sJ v1)]) hG (sm_X12_taken_ l Δ  hi5 hw h) mY_X12_taken_ kw_2055 kw_2056 kw_2057 a_504 (by decide) (q := (RX12, TX12, 49)) rfl rfl ⟨Nat.le_trans (Nat.le_of_ble_eq_true rfl) hR0.1, Nat.le_trans (Nat.le_of_ble_eq_true rfl) hR0.2.1, by omega, by omega⟩ rfl (Nat.le_of_ble_eq_true rfl) dL_law_1088 rfl (fun v8 i9 r10 hv11 hi12 hw13 hq14 => ?_)
  obtain ⟨e19, h⟩ := hq14
  subst e19
  obtain ⟨t16, f17⟩ := h
  refine V.icmp_eq (pc := 1091) (tgt := 2281) hG hv4 hv11 dL_law_1091 (by decide) (fun c15 => ?_) (fun c15 => ?_)
  · have h := t16 c15
    clear t16 f17
    exact kk i9 r hi12 hw h
  · have h := f17 c15
    clear t16 f17
    refine V.iconst (pc := 1094) hG dL_law_1094 ?_
    exact h.elim
set_option maxRecDepth 100000 in
set_option maxHeartbeats 4000000 in
theorem lc_17 {Γ : Cx} {Δ : Wd} {l : Launch} {R : Room} {Q0 : State → Prop} {b : Nat} {xs : Nat → Int32} {L : Nat} {x5 : Int} {kc sl : Nat} {C : MI → MI → Prop} {i r : MI} (hst : l.stackTraces = false) (hG : okG Γ Δ l R cL_law "SchedularyLaw" 9) (hX : okS Γ Δ b L xs) (hR0 : 20 ≤ R.frames ∧ 10000 ≤ R.locals ∧ kc + 3 ≤ R.cells ∧ sl + 18 ≤ R.slots) (hx5 : sR x5) (hi : okI i) (hw : Wf r) (h : wc_17 xs L C x5 i r)
    (kk : ∀ i' r' : MI, okI i' → Wf r' → C i' r' → V Γ Δ 542 false i' r' (kc + 3) (sl + 18) Q0 2281 [(0, .ref b), (1, .ref (sA Δ 0)), (2, .ref (sA Δ 504)), (3, .ref (sA Δ 540)), (4, .ref (sA Δ 541)), (5, .int (sJ x5))] []) : V Γ Δ 542 false i r kc sl Q0 1096 [(0, .ref b), (1, .ref (sA Δ 0)), (2, .ref (sA Δ 504)), (3, .ref (sA Δ 540)), (4, .ref (sA Δ 541)), (5, .int (sJ x5))] [] := by
  refine V.ks (kc2 := kc + 3) (sl2 := sl + 18) (by omega) (by omega) ?_
  unfold wc_17 at h
  refine V.aload_n (pc := 1096) hG dL_law_1096 rfl 1 rfl ?_
  refine V.callVi (pc := 1097) (As := []) (stk := []) hG (sm_X11_nodes l Δ  hi hw h) mY_X11_nodes kw_826 kw_827 kw_828 a_0 (by decide) (q := (RX11, TX11, 11)) rfl rfl ⟨Nat.le_trans (Nat.le_of_ble_eq_true rfl) hR0.1, Nat.le_trans (Nat.le_of_ble_eq_true rfl) hR0.2.1, by omega, by omega⟩ rfl (Nat.le_of_ble_eq_true rfl) dL_law_1097 rfl (fun v1 i2 r3 hv4 hi5 hw6 hq7 => ?_)
  have h := hq7
  refine V.aload_n (pc := 1100) hG dL_law_1100 rfl 2 rfl ?_
  refine V.callVi (pc := 1101) (As := []) (stk := [.int (sJ v1)]) hG (sm_X12_nodes l Δ  hi5 hw6 h) mY_X12_nodes kw_2060 kw_2061 kw_2062 a_504 (by decide) (q := (RX12, TX12, 49)) rfl rfl ⟨Nat.le_trans (Nat.le_of_ble_eq_true rfl) hR0.1, Nat.le_trans (Nat.le_of_ble_eq_true rfl) hR0.2.1, by omega, by omega⟩ rfl (Nat.le_of_ble_eq_true rfl) dL_law_1101 rfl (fun v8 i9 r10 hv11 hi12 hw13 hq14 => ?_)
  obtain ⟨e19, h⟩ := hq14
  subst e19
  obtain ⟨t16, f17⟩ := h
  refine V.icmp_eq (pc := 1104) (tgt := 2281) hG hv4 hv11 dL_law_1104 (by decide) (fun c15 => ?_) (fun c15 => ?_)
  · have h := t16 c15
    clear t16 f17
    exact kk i9 r3 hi12 hw6 h
  · have h := f17 c15
    clear t16 f17
    refine V.iconst (pc := 1107) hG dL_law_1107 ?_
    exact h.elim
set_option maxRecDepth 100000 in
set_option maxHeartbeats 4000000 in
theorem lc_18 {Γ : Cx} {Δ : Wd} {l : Launch} {R : Room} {Q0 : State → Prop} {b : Nat} {xs : Nat → Int32} {L : Nat} {x5 : Int} {kc sl : Nat} {C : MI → MI → Prop} {i r : MI} (hst : l.stackTraces = false) (hG : okG Γ Δ l R cL_law "SchedularyLaw" 9) (hX : okS Γ Δ b L xs) (hR0 : 20 ≤ R.frames ∧ 10000 ≤ R.locals ∧ kc + 3 ≤ R.cells ∧ sl + 18 ≤ R.slots) (hx5 : sR x5) (hi : okI i) (hw : Wf r) (h : wc_18 xs L C x5 i r)
    (kk : ∀ i' r' : MI, okI i' → Wf r' → C i' r' → V Γ Δ 542 false i' r' (kc + 3) (sl + 18) Q0 2281 [(0, .ref b), (1, .ref (sA Δ 0)), (2, .ref (sA Δ 504)), (3, .ref (sA Δ 540)), (4, .ref (sA Δ 541)), (5, .int (sJ x5))] []) : V Γ Δ 542 false i r kc sl Q0 1109 [(0, .ref b), (1, .ref (sA Δ 0)), (2, .ref (sA Δ 504)), (3, .ref (sA Δ 540)), (4, .ref (sA Δ 541)), (5, .int (sJ x5))] [] := by
  unfold wc_18 at h
  have jn1162 : ∀  (ij1162 : MI) (rj1162 : MI), okI ij1162 → Wf rj1162 → s1162_LC18 x5 ij1162 rj1162 xs L C → V Γ Δ 542 false ij1162 rj1162 (kc + 3) (sl + 18) Q0 1162 [(0, .ref b), (1, .ref (sA Δ 0)), (2, .ref (sA Δ 504)), (3, .ref (sA Δ 540)), (4, .ref (sA Δ 541)), (5, .int (sJ x5))] [] := by
    intro ij1162 rj1162 hij1162 hwj1162 h
    refine V.goto (pc := 1162) (tgt := 2281) hG dL_law_1162 (by decide) ?_
    refine V.ks (kc2 := kc + 3) (sl2 := sl + 18) (by omega) (by omega) ?_
    exact kk ij1162 rj1162 hij1162 hwj1162 h
  refine V.aload_n (pc := 1109) hG dL_law_1109 rfl 1 rfl ?_
  refine V.aload_n (pc := 1110) hG dL_law_1110 rfl 0 rfl ?_
  refine V.iload (pc := 1111) hG dL_law_1111 5 rfl ?_
  refine V.iconst (pc := 1113) hG dL_law_1113 ?_
  refine V.iadd (pc := 1114) hG dL_law_1114 ?_
  obtain ⟨g1, h⟩ := h
  refine V.sld (pc := 1115) hG hX ((sR_wr _)) g1 dL_law_1115 ?_
  refine V.aload_n (pc := 1116) hG dL_law_1116 rfl 3 rfl ?_
  refine V.callSWi (pc := 1117) (na := 3) (As := [.ref (sA Δ 0), .int (sJ (sv xs (wr (x5 + 1)))), .ref (sA Δ 540)]) (stk := []) hG (sm_L_kindOf l Δ ((sR_sv _ _)) hst hi hw h) kw_157 kl_L_kindOf (by decide) (by decide +kernel) kw_1521 kw_1522 ⟨Nat.le_trans (Nat.le_of_ble_eq_true rfl) hR0.1, Nat.le_trans (Nat.le_of_ble_eq_true rfl) hR0.2.1, by omega, by omega⟩ rfl (Nat.le_of_ble_eq_true rfl) dL_law_1117 rfl (fun v2 i3 r4 hv5 hi6 hw7 hq8 => ?_)
  have h := hq8
  refine V.ks (kc2 := kc + 3) (sl2 := sl + 18) (by omega) (by omega) ?_
  refine V.istore (pc := 1120) (lv' := [(6, .int (sJ v2)), (0, .ref b), (1, .ref (sA Δ 0)), (2, .ref (sA Δ 504)), (3, .ref (sA Δ 540)), (4, .ref (sA Δ 541)), (5, .int (sJ x5))]) hG dL_law_1120 (by decide) rfl ?_
  refine V.aload_n (pc := 1122) hG dL_law_1122 rfl 3 rfl ?_
  refine V.aload_n (pc := 1123) hG dL_law_1123 rfl 1 rfl ?_
  refine V.iload (pc := 1124) hG dL_law_1124 6 rfl ?_
  refine V.iconst (pc := 1126) hG dL_law_1126 ?_
  refine V.iadd (pc := 1127) hG dL_law_1127 ?_
  obtain ⟨g9, h⟩ := h
  refine V.sld (pc := 1128) hG hX ((sR_wr _)) g9 dL_law_1128 ?_
  refine V.callVi (pc := 1129) (As := [.int (sJ (sv xs (wr (x5 + 1))))]) (stk := []) hG (sm_X12_kindOf l Δ ((sR_sv _ _)) hi6 hw7 h) mY_X12_kindOf kw_2064 kw_2065 kw_2066 a_504 (by decide) (q := (RX12, TX12, 49)) rfl rfl ⟨Nat.le_trans (Nat.le_of_ble_eq_true rfl) hR0.1, Nat.le_trans (Nat.le_of_ble_eq_true rfl) hR0.2.1, by omega, by omega⟩ rfl (Nat.le_of_ble_eq_true rfl) dL_law_1129 rfl (fun v10 i11 r12 hv13 hi14 hw15 hq16 => ?_)
  obtain ⟨e36, h⟩ := hq16
  subst e36
  refine V.istore (pc := 1132) (lv' := [(7, .int (sJ v10)), (6, .int (sJ v2)), (0, .ref b), (1, .ref (sA Δ 0)), (2, .ref (sA Δ 504)), (3, .ref (sA Δ 540)), (4, .ref (sA Δ 541)), (5, .int (sJ x5))]) hG dL_law_1132 (by decide) rfl ?_
  refine V.aload_n (pc := 1134) hG dL_law_1134 rfl 4 rfl ?_
  refine V.callVi (pc := 1135) (As := []) (stk := []) hG (sm_X12_thrown l Δ  hi14 hw7 h) mY_X12_thrown kw_1840 kw_1841 kw_1842 a_504 (by decide) (q := (RX12, TX12, 49)) rfl rfl ⟨Nat.le_trans (Nat.le_of_ble_eq_true rfl) hR0.1, Nat.le_trans (Nat.le_of_ble_eq_true rfl) hR0.2.1, by omega, by omega⟩ rfl (Nat.le_of_ble_eq_true rfl) dL_law_1135 rfl (fun v17 i18 r19 hv20 hi21 hw22 hq23 => ?_)
  obtain ⟨e33, e34, h⟩ := hq23
  subst e33
  subst e34
  refine V.iload (pc := 1138) hG dL_law_1138 1 rfl ?_
  obtain ⟨t25, f26⟩ := h
  refine V.icmp_eq (pc := 1140) (tgt := 1145) hG hv20 hv5 dL_law_1140 (by decide) (fun c24 => ?_) (fun c24 => ?_)
  · have h := t25 c24
    clear t25 f26
    refine V.iload (pc := 1145) hG dL_law_1145 1 rfl ?_
    obtain ⟨f29, t28⟩ := h
    refine V.if_ne (pc := 1147) (tgt := 1162) hG hv5 dL_law_1147 (by decide) (fun c27 => ?_) (fun c27 => ?_)
    · have h := t28 c27
      clear t28 f29
      refine V.pick [2, 3, 4, 5, 6, 7] rfl ?_
      exact jn1162 i11 r4 hi14 hw7 h
    · have h := f29 c27
      clear t28 f29
      refine V.aload_n (pc := 1150) hG dL_law_1150 rfl 5 rfl ?_
      refine V.iconst (pc := 1151) hG dL_law_1151 ?_
      refine V.lald0 (pc := 1152) (z := 1) (o := 540) hG a_540 a_540.n (by decide) dL_law_1152 ?_
      refine V.iload (pc := 1153) hG dL_law_1153 0 rfl ?_
      refine V.i2l (pc := 1155) hG dL_law_1155 ?_
      refine V.lcmp (pc := 1156) hG dL_law_1156 ?_
      obtain ⟨t31, f32⟩ := h
      refine V.if_eq (pc := 1157) (tgt := 1162) hG ((sR_of _)) dL_law_1157 (by decide) (fun c30 => ?_) (fun c30 => ?_)
      · have h := t31 c30
        clear t31 f32
        refine V.pick [2, 3, 4, 5, 6, 7] rfl ?_
        exact jn1162 i11 r4 hi14 hw7 h
      · have h := f32 c30
        clear t31 f32
        refine V.iconst (pc := 1160) hG dL_law_1160 ?_
        exact h.elim
  · have h := f26 c24
    clear t25 f26
    refine V.iconst (pc := 1143) hG dL_law_1143 ?_
    exact h.elim
set_option maxRecDepth 100000 in
set_option maxHeartbeats 4000000 in
theorem lc_19 {Γ : Cx} {Δ : Wd} {l : Launch} {R : Room} {Q0 : State → Prop} {b : Nat} {xs : Nat → Int32} {L : Nat} {x5 : Int} {kc sl : Nat} {C : MI → MI → Prop} {i r : MI} (hst : l.stackTraces = false) (hG : okG Γ Δ l R cL_law "SchedularyLaw" 9) (hX : okS Γ Δ b L xs) (hR0 : 20 ≤ R.frames ∧ 10000 ≤ R.locals ∧ kc + 3 ≤ R.cells ∧ sl + 18 ≤ R.slots) (hx5 : sR x5) (hi : okI i) (hw : Wf r) (h : wc_19 xs L C x5 i r)
    (kk : ∀ i' r' : MI, okI i' → Wf r' → C i' r' → V Γ Δ 542 false i' r' (kc + 3) (sl + 18) Q0 2281 [(0, .ref b), (1, .ref (sA Δ 0)), (2, .ref (sA Δ 504)), (3, .ref (sA Δ 540)), (4, .ref (sA Δ 541)), (5, .int (sJ x5))] []) : V Γ Δ 542 false i r kc sl Q0 1165 [(0, .ref b), (1, .ref (sA Δ 0)), (2, .ref (sA Δ 504)), (3, .ref (sA Δ 540)), (4, .ref (sA Δ 541)), (5, .int (sJ x5))] [] := by
  unfold wc_19 at h
  have jn1218 : ∀  (ij1218 : MI) (rj1218 : MI), okI ij1218 → Wf rj1218 → s1218_LC19 x5 ij1218 rj1218 xs L C → V Γ Δ 542 false ij1218 rj1218 (kc + 3) (sl + 18) Q0 1218 [(0, .ref b), (1, .ref (sA Δ 0)), (2, .ref (sA Δ 504)), (3, .ref (sA Δ 540)), (4, .ref (sA Δ 541)), (5, .int (sJ x5))] [] := by
    intro ij1218 rj1218 hij1218 hwj1218 h
    refine V.goto (pc := 1218) (tgt := 2281) hG dL_law_1218 (by decide) ?_
    refine V.ks (kc2 := kc + 3) (sl2 := sl + 18) (by omega) (by omega) ?_
    exact kk ij1218 rj1218 hij1218 hwj1218 h
  refine V.aload_n (pc := 1165) hG dL_law_1165 rfl 1 rfl ?_
  refine V.aload_n (pc := 1166) hG dL_law_1166 rfl 0 rfl ?_
  refine V.iload (pc := 1167) hG dL_law_1167 5 rfl ?_
  refine V.iconst (pc := 1169) hG dL_law_1169 ?_
  refine V.iadd (pc := 1170) hG dL_law_1170 ?_
  obtain ⟨g1, h⟩ := h
  refine V.sld (pc := 1171) hG hX ((sR_wr _)) g1 dL_law_1171 ?_
  refine V.aload_n (pc := 1172) hG dL_law_1172 rfl 3 rfl ?_
  refine V.callSWi (pc := 1173) (na := 3) (As := [.ref (sA Δ 0), .int (sJ (sv xs (wr (x5 + 1)))), .ref (sA Δ 540)]) (stk := []) hG (sm_L_statementOf l Δ ((sR_sv _ _)) hst hi hw h) kw_157 kl_L_statementOf (by decide) (by decide +kernel) kw_1534 kw_1535 ⟨Nat.le_trans (Nat.le_of_ble_eq_true rfl) hR0.1, Nat.le_trans (Nat.le_of_ble_eq_true rfl) hR0.2.1, by omega, by omega⟩ rfl (Nat.le_of_ble_eq_true rfl) dL_law_1173 rfl (fun v2 i3 r4 hv5 hi6 hw7 hq8 => ?_)
  have h := hq8
  refine V.ks (kc2 := kc + 3) (sl2 := sl + 18) (by omega) (by omega) ?_
  refine V.istore (pc := 1176) (lv' := [(6, .int (sJ v2)), (0, .ref b), (1, .ref (sA Δ 0)), (2, .ref (sA Δ 504)), (3, .ref (sA Δ 540)), (4, .ref (sA Δ 541)), (5, .int (sJ x5))]) hG dL_law_1176 (by decide) rfl ?_
  refine V.aload_n (pc := 1178) hG dL_law_1178 rfl 3 rfl ?_
  refine V.aload_n (pc := 1179) hG dL_law_1179 rfl 1 rfl ?_
  refine V.iload (pc := 1180) hG dL_law_1180 6 rfl ?_
  refine V.iconst (pc := 1182) hG dL_law_1182 ?_
  refine V.iadd (pc := 1183) hG dL_law_1183 ?_
  obtain ⟨g9, h⟩ := h
  refine V.sld (pc := 1184) hG hX ((sR_wr _)) g9 dL_law_1184 ?_
  refine V.callVi (pc := 1185) (As := [.int (sJ (sv xs (wr (x5 + 1))))]) (stk := []) hG (sm_X12_statementOf l Δ ((sR_sv _ _)) hi6 hw7 h) mY_X12_statementOf kw_2073 kw_2074 kw_2075 a_504 (by decide) (q := (RX12, TX12, 49)) rfl rfl ⟨Nat.le_trans (Nat.le_of_ble_eq_true rfl) hR0.1, Nat.le_trans (Nat.le_of_ble_eq_true rfl) hR0.2.1, by omega, by omega⟩ rfl (Nat.le_of_ble_eq_true rfl) dL_law_1185 rfl (fun v10 i11 r12 hv13 hi14 hw15 hq16 => ?_)
  obtain ⟨e36, h⟩ := hq16
  subst e36
  refine V.istore (pc := 1188) (lv' := [(7, .int (sJ v10)), (6, .int (sJ v2)), (0, .ref b), (1, .ref (sA Δ 0)), (2, .ref (sA Δ 504)), (3, .ref (sA Δ 540)), (4, .ref (sA Δ 541)), (5, .int (sJ x5))]) hG dL_law_1188 (by decide) rfl ?_
  refine V.aload_n (pc := 1190) hG dL_law_1190 rfl 4 rfl ?_
  refine V.callVi (pc := 1191) (As := []) (stk := []) hG (sm_X12_thrown l Δ  hi14 hw7 h) mY_X12_thrown kw_1840 kw_1841 kw_1842 a_504 (by decide) (q := (RX12, TX12, 49)) rfl rfl ⟨Nat.le_trans (Nat.le_of_ble_eq_true rfl) hR0.1, Nat.le_trans (Nat.le_of_ble_eq_true rfl) hR0.2.1, by omega, by omega⟩ rfl (Nat.le_of_ble_eq_true rfl) dL_law_1191 rfl (fun v17 i18 r19 hv20 hi21 hw22 hq23 => ?_)
  obtain ⟨e33, e34, h⟩ := hq23
  subst e33
  subst e34
  refine V.iload (pc := 1194) hG dL_law_1194 1 rfl ?_
  obtain ⟨t25, f26⟩ := h
  refine V.icmp_eq (pc := 1196) (tgt := 1201) hG hv20 hv5 dL_law_1196 (by decide) (fun c24 => ?_) (fun c24 => ?_)
  · have h := t25 c24
    clear t25 f26
    refine V.iload (pc := 1201) hG dL_law_1201 1 rfl ?_
    obtain ⟨f29, t28⟩ := h
    refine V.if_ne (pc := 1203) (tgt := 1218) hG hv5 dL_law_1203 (by decide) (fun c27 => ?_) (fun c27 => ?_)
    · have h := t28 c27
      clear t28 f29
      refine V.pick [2, 3, 4, 5, 6, 7] rfl ?_
      exact jn1218 i11 r4 hi14 hw7 h
    · have h := f29 c27
      clear t28 f29
      refine V.aload_n (pc := 1206) hG dL_law_1206 rfl 5 rfl ?_
      refine V.iconst (pc := 1207) hG dL_law_1207 ?_
      refine V.lald0 (pc := 1208) (z := 1) (o := 540) hG a_540 a_540.n (by decide) dL_law_1208 ?_
      refine V.iload (pc := 1209) hG dL_law_1209 0 rfl ?_
      refine V.i2l (pc := 1211) hG dL_law_1211 ?_
      refine V.lcmp (pc := 1212) hG dL_law_1212 ?_
      obtain ⟨t31, f32⟩ := h
      refine V.if_eq (pc := 1213) (tgt := 1218) hG ((sR_of _)) dL_law_1213 (by decide) (fun c30 => ?_) (fun c30 => ?_)
      · have h := t31 c30
        clear t31 f32
        refine V.pick [2, 3, 4, 5, 6, 7] rfl ?_
        exact jn1218 i11 r4 hi14 hw7 h
      · have h := f32 c30
        clear t31 f32
        refine V.iconst (pc := 1216) hG dL_law_1216 ?_
        exact h.elim
  · have h := f26 c24
    clear t25 f26
    refine V.iconst (pc := 1199) hG dL_law_1199 ?_
    exact h.elim
set_option maxRecDepth 100000 in
set_option maxHeartbeats 4000000 in
theorem lc_20 {Γ : Cx} {Δ : Wd} {l : Launch} {R : Room} {Q0 : State → Prop} {b : Nat} {xs : Nat → Int32} {L : Nat} {x5 : Int} {kc sl : Nat} {C : MI → MI → Prop} {i r : MI} (hst : l.stackTraces = false) (hG : okG Γ Δ l R cL_law "SchedularyLaw" 9) (hX : okS Γ Δ b L xs) (hR0 : 20 ≤ R.frames ∧ 10000 ≤ R.locals ∧ kc + 3 ≤ R.cells ∧ sl + 18 ≤ R.slots) (hx5 : sR x5) (hi : okI i) (hw : Wf r) (h : wc_20 xs L C x5 i r)
    (kk : ∀ i' r' : MI, okI i' → Wf r' → C i' r' → V Γ Δ 542 false i' r' (kc + 3) (sl + 18) Q0 2281 [(0, .ref b), (1, .ref (sA Δ 0)), (2, .ref (sA Δ 504)), (3, .ref (sA Δ 540)), (4, .ref (sA Δ 541)), (5, .int (sJ x5))] []) : V Γ Δ 542 false i r kc sl Q0 1221 [(0, .ref b), (1, .ref (sA Δ 0)), (2, .ref (sA Δ 504)), (3, .ref (sA Δ 540)), (4, .ref (sA Δ 541)), (5, .int (sJ x5))] [] := by
  refine V.ks (kc2 := kc + 3) (sl2 := sl + 18) (by omega) (by omega) ?_
  unfold wc_20 at h
  refine V.aload_n (pc := 1221) hG dL_law_1221 rfl 1 rfl ?_
  refine V.callVi (pc := 1222) (As := []) (stk := []) hG (sm_X11_edges l Δ  hi hw h) mY_X11_edges kw_1072 kw_1073 kw_1074 a_0 (by decide) (q := (RX11, TX11, 11)) rfl rfl ⟨Nat.le_trans (Nat.le_of_ble_eq_true rfl) hR0.1, Nat.le_trans (Nat.le_of_ble_eq_true rfl) hR0.2.1, by omega, by omega⟩ rfl (Nat.le_of_ble_eq_true rfl) dL_law_1222 rfl (fun v1 i2 r3 hv4 hi5 hw6 hq7 => ?_)
  have h := hq7
  refine V.aload_n (pc := 1225) hG dL_law_1225 rfl 2 rfl ?_
  refine V.callVi (pc := 1226) (As := []) (stk := [.int (sJ v1)]) hG (sm_X12_edges l Δ  hi5 hw6 h) mY_X12_edges kw_2077 kw_2078 kw_2079 a_504 (by decide) (q := (RX12, TX12, 49)) rfl rfl ⟨Nat.le_trans (Nat.le_of_ble_eq_true rfl) hR0.1, Nat.le_trans (Nat.le_of_ble_eq_true rfl) hR0.2.1, by omega, by omega⟩ rfl (Nat.le_of_ble_eq_true rfl) dL_law_1226 rfl (fun v8 i9 r10 hv11 hi12 hw13 hq14 => ?_)
  obtain ⟨e19, h⟩ := hq14
  subst e19
  obtain ⟨t16, f17⟩ := h
  refine V.icmp_eq (pc := 1229) (tgt := 2281) hG hv4 hv11 dL_law_1229 (by decide) (fun c15 => ?_) (fun c15 => ?_)
  · have h := t16 c15
    clear t16 f17
    exact kk i9 r3 hi12 hw6 h
  · have h := f17 c15
    clear t16 f17
    refine V.iconst (pc := 1232) hG dL_law_1232 ?_
    exact h.elim
set_option maxRecDepth 100000 in
set_option maxHeartbeats 4000000 in
theorem lc_21 {Γ : Cx} {Δ : Wd} {l : Launch} {R : Room} {Q0 : State → Prop} {b : Nat} {xs : Nat → Int32} {L : Nat} {x5 : Int} {kc sl : Nat} {C : MI → MI → Prop} {i r : MI} (hst : l.stackTraces = false) (hG : okG Γ Δ l R cL_law "SchedularyLaw" 9) (hX : okS Γ Δ b L xs) (hR0 : 20 ≤ R.frames ∧ 10000 ≤ R.locals ∧ kc + 3 ≤ R.cells ∧ sl + 18 ≤ R.slots) (hx5 : sR x5) (hi : okI i) (hw : Wf r) (h : wc_21 xs L C x5 i r)
    (kk : ∀ i' r' : MI, okI i' → Wf r' → C i' r' → V Γ Δ 542 false i' r' (kc + 3) (sl + 18) Q0 2281 [(0, .ref b), (1, .ref (sA Δ 0)), (2, .ref (sA Δ 504)), (3, .ref (sA Δ 540)), (4, .ref (sA Δ 541)), (5, .int (sJ x5))] []) : V Γ Δ 542 false i r kc sl Q0 1234 [(0, .ref b), (1, .ref (sA Δ 0)), (2, .ref (sA Δ 504)), (3, .ref (sA Δ 540)), (4, .ref (sA Δ 541)), (5, .int (sJ x5))] [] := by
  unfold wc_21 at h
  have jn1311 : ∀  (ij1311 : MI) (rj1311 : MI), okI ij1311 → Wf rj1311 → s1311_LC21 x5 ij1311 rj1311 xs L C → V Γ Δ 542 false ij1311 rj1311 (kc + 3) (sl + 18) Q0 1311 [(0, .ref b), (1, .ref (sA Δ 0)), (2, .ref (sA Δ 504)), (3, .ref (sA Δ 540)), (4, .ref (sA Δ 541)), (5, .int (sJ x5))] [] := by
    intro ij1311 rj1311 hij1311 hwj1311 h
    refine V.goto (pc := 1311) (tgt := 2281) hG dL_law_1311 (by decide) ?_
    refine V.ks (kc2 := kc + 3) (sl2 := sl + 18) (by omega) (by omega) ?_
    exact kk ij1311 rj1311 hij1311 hwj1311 h
  refine V.aload_n (pc := 1234) hG dL_law_1234 rfl 1 rfl ?_
  refine V.aload_n (pc := 1235) hG dL_law_1235 rfl 0 rfl ?_
  refine V.iload (pc := 1236) hG dL_law_1236 5 rfl ?_
  refine V.iconst (pc := 1238) hG dL_law_1238 ?_
  refine V.iadd (pc := 1239) hG dL_law_1239 ?_
  obtain ⟨g1, h⟩ := h
  refine V.sld (pc := 1240) hG hX ((sR_wr _)) g1 dL_law_1240 ?_
  refine V.aload_n (pc := 1241) hG dL_law_1241 rfl 0 rfl ?_
  refine V.iload (pc := 1242) hG dL_law_1242 5 rfl ?_
  refine V.iconst (pc := 1244) hG dL_law_1244 ?_
  refine V.iadd (pc := 1245) hG dL_law_1245 ?_
  obtain ⟨g2, h⟩ := h
  refine V.sld (pc := 1246) hG hX ((sR_wr _)) g2 dL_law_1246 ?_
  refine V.aload_n (pc := 1247) hG dL_law_1247 rfl 0 rfl ?_
  refine V.iload (pc := 1248) hG dL_law_1248 5 rfl ?_
  refine V.iconst (pc := 1250) hG dL_law_1250 ?_
  refine V.iadd (pc := 1251) hG dL_law_1251 ?_
  obtain ⟨g3, h⟩ := h
  refine V.sld (pc := 1252) hG hX ((sR_wr _)) g3 dL_law_1252 ?_
  refine V.aload_n (pc := 1253) hG dL_law_1253 rfl 3 rfl ?_
  refine V.callSWi (pc := 1254) (na := 5) (As := [.ref (sA Δ 0), .int (sJ (sv xs (wr (x5 + 1)))), .int (sJ (sv xs (wr (x5 + 2)))), .int (sJ (sv xs (wr (x5 + 3)))), .ref (sA Δ 540)]) (stk := []) hG (sm_L_weight l Δ ((sR_sv _ _)) ((sR_sv _ _)) ((sR_sv _ _)) hst hi hw h) kw_157 kl_L_weight (by decide) (by decide +kernel) kw_1541 kw_1542 ⟨Nat.le_trans (Nat.le_of_ble_eq_true rfl) hR0.1, Nat.le_trans (Nat.le_of_ble_eq_true rfl) hR0.2.1, by omega, by omega⟩ rfl (Nat.le_of_ble_eq_true rfl) dL_law_1254 rfl (fun v4 i5 r6 hv7 hi8 hw9 hq10 => ?_)
  have h := hq10
  refine V.ks (kc2 := kc + 3) (sl2 := sl + 18) (by omega) (by omega) ?_
  refine V.istore (pc := 1257) (lv' := [(6, .int (sJ v4)), (0, .ref b), (1, .ref (sA Δ 0)), (2, .ref (sA Δ 504)), (3, .ref (sA Δ 540)), (4, .ref (sA Δ 541)), (5, .int (sJ x5))]) hG dL_law_1257 (by decide) rfl ?_
  refine V.aload_n (pc := 1259) hG dL_law_1259 rfl 3 rfl ?_
  refine V.aload_n (pc := 1260) hG dL_law_1260 rfl 1 rfl ?_
  refine V.iload (pc := 1261) hG dL_law_1261 6 rfl ?_
  refine V.iconst (pc := 1263) hG dL_law_1263 ?_
  refine V.iadd (pc := 1264) hG dL_law_1264 ?_
  obtain ⟨g11, h⟩ := h
  refine V.sld (pc := 1265) hG hX ((sR_wr _)) g11 dL_law_1265 ?_
  refine V.aload_n (pc := 1266) hG dL_law_1266 rfl 1 rfl ?_
  refine V.iload (pc := 1267) hG dL_law_1267 6 rfl ?_
  refine V.iconst (pc := 1269) hG dL_law_1269 ?_
  refine V.iadd (pc := 1270) hG dL_law_1270 ?_
  obtain ⟨g12, h⟩ := h
  refine V.sld (pc := 1271) hG hX ((sR_wr _)) g12 dL_law_1271 ?_
  refine V.aload_n (pc := 1272) hG dL_law_1272 rfl 1 rfl ?_
  refine V.iload (pc := 1273) hG dL_law_1273 6 rfl ?_
  refine V.iconst (pc := 1275) hG dL_law_1275 ?_
  refine V.iadd (pc := 1276) hG dL_law_1276 ?_
  obtain ⟨g13, h⟩ := h
  refine V.sld (pc := 1277) hG hX ((sR_wr _)) g13 dL_law_1277 ?_
  refine V.callVi (pc := 1278) (As := [.int (sJ (sv xs (wr (x5 + 1)))), .int (sJ (sv xs (wr (x5 + 2)))), .int (sJ (sv xs (wr (x5 + 3))))]) (stk := []) hG (sm_X12_weight l Δ ((sR_sv _ _)) ((sR_sv _ _)) ((sR_sv _ _)) hi8 hw9 h) mY_X12_weight kw_2081 kw_2082 kw_2083 a_504 (by decide) (q := (RX12, TX12, 49)) rfl rfl ⟨Nat.le_trans (Nat.le_of_ble_eq_true rfl) hR0.1, Nat.le_trans (Nat.le_of_ble_eq_true rfl) hR0.2.1, by omega, by omega⟩ rfl (Nat.le_of_ble_eq_true rfl) dL_law_1278 rfl (fun v14 i15 r16 hv17 hi18 hw19 hq20 => ?_)
  obtain ⟨e40, h⟩ := hq20
  subst e40
  refine V.istore (pc := 1281) (lv' := [(7, .int (sJ v14)), (6, .int (sJ v4)), (0, .ref b), (1, .ref (sA Δ 0)), (2, .ref (sA Δ 504)), (3, .ref (sA Δ 540)), (4, .ref (sA Δ 541)), (5, .int (sJ x5))]) hG dL_law_1281 (by decide) rfl ?_
  refine V.aload_n (pc := 1283) hG dL_law_1283 rfl 4 rfl ?_
  refine V.callVi (pc := 1284) (As := []) (stk := []) hG (sm_X12_thrown l Δ  hi18 hw9 h) mY_X12_thrown kw_1840 kw_1841 kw_1842 a_504 (by decide) (q := (RX12, TX12, 49)) rfl rfl ⟨Nat.le_trans (Nat.le_of_ble_eq_true rfl) hR0.1, Nat.le_trans (Nat.le_of_ble_eq_true rfl) hR0.2.1, by omega, by omega⟩ rfl (Nat.le_of_ble_eq_true rfl) dL_law_1284 rfl (fun v21 i22 r23 hv24 hi25 hw26 hq27 => ?_)
  obtain ⟨e37, e38, h⟩ := hq27
  subst e37
  subst e38
  refine V.iload (pc := 1287) hG dL_law_1287 1 rfl ?_
  obtain ⟨t29, f30⟩ := h
  refine V.icmp_eq (pc := 1289) (tgt := 1294) hG hv24 hv7 dL_law_1289 (by decide) (fun c28 => ?_) (fun c28 => ?_)
  · have h := t29 c28
    clear t29 f30
    refine V.iload (pc := 1294) hG dL_law_1294 1 rfl ?_
    obtain ⟨f33, t32⟩ := h
    refine V.if_ne (pc := 1296) (tgt := 1311) hG hv7 dL_law_1296 (by decide) (fun c31 => ?_) (fun c31 => ?_)
    · have h := t32 c31
      clear t32 f33
      refine V.pick [2, 3, 4, 5, 6, 7] rfl ?_
      exact jn1311 i15 r6 hi18 hw9 h
    · have h := f33 c31
      clear t32 f33
      refine V.aload_n (pc := 1299) hG dL_law_1299 rfl 5 rfl ?_
      refine V.iconst (pc := 1300) hG dL_law_1300 ?_
      refine V.lald0 (pc := 1301) (z := 1) (o := 540) hG a_540 a_540.n (by decide) dL_law_1301 ?_
      refine V.iload (pc := 1302) hG dL_law_1302 0 rfl ?_
      refine V.i2l (pc := 1304) hG dL_law_1304 ?_
      refine V.lcmp (pc := 1305) hG dL_law_1305 ?_
      obtain ⟨t35, f36⟩ := h
      refine V.if_eq (pc := 1306) (tgt := 1311) hG ((sR_of _)) dL_law_1306 (by decide) (fun c34 => ?_) (fun c34 => ?_)
      · have h := t35 c34
        clear t35 f36
        refine V.pick [2, 3, 4, 5, 6, 7] rfl ?_
        exact jn1311 i15 r6 hi18 hw9 h
      · have h := f36 c34
        clear t35 f36
        refine V.iconst (pc := 1309) hG dL_law_1309 ?_
        exact h.elim
  · have h := f30 c28
    clear t29 f30
    refine V.iconst (pc := 1292) hG dL_law_1292 ?_
    exact h.elim
set_option maxRecDepth 100000 in
set_option maxHeartbeats 4000000 in
theorem lc_22 {Γ : Cx} {Δ : Wd} {l : Launch} {R : Room} {Q0 : State → Prop} {b : Nat} {xs : Nat → Int32} {L : Nat} {x5 : Int} {kc sl : Nat} {C : MI → MI → Prop} {i r : MI} (hst : l.stackTraces = false) (hG : okG Γ Δ l R cL_law "SchedularyLaw" 9) (hX : okS Γ Δ b L xs) (hR0 : 20 ≤ R.frames ∧ 10000 ≤ R.locals ∧ kc + 3 ≤ R.cells ∧ sl + 18 ≤ R.slots) (hx5 : sR x5) (hi : okI i) (hw : Wf r) (h : wc_22 xs L C x5 i r)
    (kk : ∀ i' r' : MI, okI i' → Wf r' → C i' r' → V Γ Δ 542 false i' r' (kc + 3) (sl + 18) Q0 2281 [(0, .ref b), (1, .ref (sA Δ 0)), (2, .ref (sA Δ 504)), (3, .ref (sA Δ 540)), (4, .ref (sA Δ 541)), (5, .int (sJ x5))] []) : V Γ Δ 542 false i r kc sl Q0 1314 [(0, .ref b), (1, .ref (sA Δ 0)), (2, .ref (sA Δ 504)), (3, .ref (sA Δ 540)), (4, .ref (sA Δ 541)), (5, .int (sJ x5))] [] := by
  unfold wc_22 at h
  have jn1367 : ∀  (ij1367 : MI) (rj1367 : MI), okI ij1367 → Wf rj1367 → s1367_LC22 x5 ij1367 rj1367 xs L C → V Γ Δ 542 false ij1367 rj1367 (kc + 3) (sl + 18) Q0 1367 [(0, .ref b), (1, .ref (sA Δ 0)), (2, .ref (sA Δ 504)), (3, .ref (sA Δ 540)), (4, .ref (sA Δ 541)), (5, .int (sJ x5))] [] := by
    intro ij1367 rj1367 hij1367 hwj1367 h
    refine V.goto (pc := 1367) (tgt := 2281) hG dL_law_1367 (by decide) ?_
    refine V.ks (kc2 := kc + 3) (sl2 := sl + 18) (by omega) (by omega) ?_
    exact kk ij1367 rj1367 hij1367 hwj1367 h
  refine V.aload_n (pc := 1314) hG dL_law_1314 rfl 1 rfl ?_
  refine V.aload_n (pc := 1315) hG dL_law_1315 rfl 0 rfl ?_
  refine V.iload (pc := 1316) hG dL_law_1316 5 rfl ?_
  refine V.iconst (pc := 1318) hG dL_law_1318 ?_
  refine V.iadd (pc := 1319) hG dL_law_1319 ?_
  obtain ⟨g1, h⟩ := h
  refine V.sld (pc := 1320) hG hX ((sR_wr _)) g1 dL_law_1320 ?_
  refine V.aload_n (pc := 1321) hG dL_law_1321 rfl 3 rfl ?_
  refine V.callSWi (pc := 1322) (na := 3) (As := [.ref (sA Δ 0), .int (sJ (sv xs (wr (x5 + 1)))), .ref (sA Δ 540)]) (stk := []) hG (sm_L_soon l Δ ((sR_sv _ _)) hst hi hw h) kw_157 kl_L_soon (by decide) (by decide +kernel) kw_1566 kw_1567 ⟨Nat.le_trans (Nat.le_of_ble_eq_true rfl) hR0.1, Nat.le_trans (Nat.le_of_ble_eq_true rfl) hR0.2.1, by omega, by omega⟩ rfl (Nat.le_of_ble_eq_true rfl) dL_law_1322 rfl (fun v2 i3 r4 hv5 hi6 hw7 hq8 => ?_)
  have h := hq8
  refine V.ks (kc2 := kc + 3) (sl2 := sl + 18) (by omega) (by omega) ?_
  refine V.istore (pc := 1325) (lv' := [(6, .int (sJ v2)), (0, .ref b), (1, .ref (sA Δ 0)), (2, .ref (sA Δ 504)), (3, .ref (sA Δ 540)), (4, .ref (sA Δ 541)), (5, .int (sJ x5))]) hG dL_law_1325 (by decide) rfl ?_
  refine V.aload_n (pc := 1327) hG dL_law_1327 rfl 3 rfl ?_
  refine V.aload_n (pc := 1328) hG dL_law_1328 rfl 1 rfl ?_
  refine V.iload (pc := 1329) hG dL_law_1329 6 rfl ?_
  refine V.iconst (pc := 1331) hG dL_law_1331 ?_
  refine V.iadd (pc := 1332) hG dL_law_1332 ?_
  obtain ⟨g9, h⟩ := h
  refine V.sld (pc := 1333) hG hX ((sR_wr _)) g9 dL_law_1333 ?_
  refine V.callVi (pc := 1334) (As := [.int (sJ (sv xs (wr (x5 + 1))))]) (stk := []) hG (sm_X12_soon l Δ ((sR_sv _ _)) hi6 hw7 h) mY_X12_soon kw_2085 kw_2086 kw_2087 a_504 (by decide) (q := (RX12, TX12, 49)) rfl rfl ⟨Nat.le_trans (Nat.le_of_ble_eq_true rfl) hR0.1, Nat.le_trans (Nat.le_of_ble_eq_true rfl) hR0.2.1, by omega, by omega⟩ rfl (Nat.le_of_ble_eq_true rfl) dL_law_1334 rfl (fun v10 i11 r12 hv13 hi14 hw15 hq16 => ?_)
  obtain ⟨e36, h⟩ := hq16
  subst e36
  refine V.istore (pc := 1337) (lv' := [(7, .int (sJ v10)), (6, .int (sJ v2)), (0, .ref b), (1, .ref (sA Δ 0)), (2, .ref (sA Δ 504)), (3, .ref (sA Δ 540)), (4, .ref (sA Δ 541)), (5, .int (sJ x5))]) hG dL_law_1337 (by decide) rfl ?_
  refine V.aload_n (pc := 1339) hG dL_law_1339 rfl 4 rfl ?_
  refine V.callVi (pc := 1340) (As := []) (stk := []) hG (sm_X12_thrown l Δ  hi14 hw7 h) mY_X12_thrown kw_1840 kw_1841 kw_1842 a_504 (by decide) (q := (RX12, TX12, 49)) rfl rfl ⟨Nat.le_trans (Nat.le_of_ble_eq_true rfl) hR0.1, Nat.le_trans (Nat.le_of_ble_eq_true rfl) hR0.2.1, by omega, by omega⟩ rfl (Nat.le_of_ble_eq_true rfl) dL_law_1340 rfl (fun v17 i18 r19 hv20 hi21 hw22 hq23 => ?_)
  obtain ⟨e33, e34, h⟩ := hq23
  subst e33
  subst e34
  refine V.iload (pc := 1343) hG dL_law_1343 1 rfl ?_
  obtain ⟨t25, f26⟩ := h
  refine V.icmp_eq (pc := 1345) (tgt := 1350) hG hv20 hv5 dL_law_1345 (by decide) (fun c24 => ?_) (fun c24 => ?_)
  · have h := t25 c24
    clear t25 f26
    refine V.iload (pc := 1350) hG dL_law_1350 1 rfl ?_
    obtain ⟨f29, t28⟩ := h
    refine V.if_ne (pc := 1352) (tgt := 1367) hG hv5 dL_law_1352 (by decide) (fun c27 => ?_) (fun c27 => ?_)
    · have h := t28 c27
      clear t28 f29
      refine V.pick [2, 3, 4, 5, 6, 7] rfl ?_
      exact jn1367 i11 r4 hi14 hw7 h
    · have h := f29 c27
      clear t28 f29
      refine V.aload_n (pc := 1355) hG dL_law_1355 rfl 5 rfl ?_
      refine V.iconst (pc := 1356) hG dL_law_1356 ?_
      refine V.lald0 (pc := 1357) (z := 1) (o := 540) hG a_540 a_540.n (by decide) dL_law_1357 ?_
      refine V.iload (pc := 1358) hG dL_law_1358 0 rfl ?_
      refine V.i2l (pc := 1360) hG dL_law_1360 ?_
      refine V.lcmp (pc := 1361) hG dL_law_1361 ?_
      obtain ⟨t31, f32⟩ := h
      refine V.if_eq (pc := 1362) (tgt := 1367) hG ((sR_of _)) dL_law_1362 (by decide) (fun c30 => ?_) (fun c30 => ?_)
      · have h := t31 c30
        clear t31 f32
        refine V.pick [2, 3, 4, 5, 6, 7] rfl ?_
        exact jn1367 i11 r4 hi14 hw7 h
      · have h := f32 c30
        clear t31 f32
        refine V.iconst (pc := 1365) hG dL_law_1365 ?_
        exact h.elim
  · have h := f26 c24
    clear t25 f26
    refine V.iconst (pc := 1348) hG dL_law_1348 ?_
    exact h.elim
set_option maxRecDepth 100000 in
set_option maxHeartbeats 4000000 in
theorem lc_23 {Γ : Cx} {Δ : Wd} {l : Launch} {R : Room} {Q0 : State → Prop} {b : Nat} {xs : Nat → Int32} {L : Nat} {x5 : Int} {kc sl : Nat} {C : MI → MI → Prop} {i r : MI} (hst : l.stackTraces = false) (hG : okG Γ Δ l R cL_law "SchedularyLaw" 9) (hX : okS Γ Δ b L xs) (hR0 : 20 ≤ R.frames ∧ 10000 ≤ R.locals ∧ kc + 3 ≤ R.cells ∧ sl + 18 ≤ R.slots) (hx5 : sR x5) (hi : okI i) (hw : Wf r) (h : wc_23 xs L C x5 i r)
    (kk : ∀ i' r' : MI, okI i' → Wf r' → C i' r' → V Γ Δ 542 false i' r' (kc + 3) (sl + 18) Q0 2281 [(0, .ref b), (1, .ref (sA Δ 0)), (2, .ref (sA Δ 504)), (3, .ref (sA Δ 540)), (4, .ref (sA Δ 541)), (5, .int (sJ x5))] []) : V Γ Δ 542 false i r kc sl Q0 1370 [(0, .ref b), (1, .ref (sA Δ 0)), (2, .ref (sA Δ 504)), (3, .ref (sA Δ 540)), (4, .ref (sA Δ 541)), (5, .int (sJ x5))] [] := by
  unfold wc_23 at h
  have jn1423 : ∀  (ij1423 : MI) (rj1423 : MI), okI ij1423 → Wf rj1423 → s1423_LC23 x5 ij1423 rj1423 xs L C → V Γ Δ 542 false ij1423 rj1423 (kc + 3) (sl + 18) Q0 1423 [(0, .ref b), (1, .ref (sA Δ 0)), (2, .ref (sA Δ 504)), (3, .ref (sA Δ 540)), (4, .ref (sA Δ 541)), (5, .int (sJ x5))] [] := by
    intro ij1423 rj1423 hij1423 hwj1423 h
    refine V.goto (pc := 1423) (tgt := 2281) hG dL_law_1423 (by decide) ?_
    refine V.ks (kc2 := kc + 3) (sl2 := sl + 18) (by omega) (by omega) ?_
    exact kk ij1423 rj1423 hij1423 hwj1423 h
  refine V.aload_n (pc := 1370) hG dL_law_1370 rfl 1 rfl ?_
  refine V.aload_n (pc := 1371) hG dL_law_1371 rfl 0 rfl ?_
  refine V.iload (pc := 1372) hG dL_law_1372 5 rfl ?_
  refine V.iconst (pc := 1374) hG dL_law_1374 ?_
  refine V.iadd (pc := 1375) hG dL_law_1375 ?_
  obtain ⟨g1, h⟩ := h
  refine V.sld (pc := 1376) hG hX ((sR_wr _)) g1 dL_law_1376 ?_
  refine V.aload_n (pc := 1377) hG dL_law_1377 rfl 3 rfl ?_
  refine V.callSWi (pc := 1378) (na := 3) (As := [.ref (sA Δ 0), .int (sJ (sv xs (wr (x5 + 1)))), .ref (sA Δ 540)]) (stk := []) hG (sm_L_late l Δ ((sR_sv _ _)) hst hi hw h) kw_157 kl_L_late (by decide) (by decide +kernel) kw_1573 kw_1574 ⟨Nat.le_trans (Nat.le_of_ble_eq_true rfl) hR0.1, Nat.le_trans (Nat.le_of_ble_eq_true rfl) hR0.2.1, by omega, by omega⟩ rfl (Nat.le_of_ble_eq_true rfl) dL_law_1378 rfl (fun v2 i3 r4 hv5 hi6 hw7 hq8 => ?_)
  have h := hq8
  refine V.ks (kc2 := kc + 3) (sl2 := sl + 18) (by omega) (by omega) ?_
  refine V.istore (pc := 1381) (lv' := [(6, .int (sJ v2)), (0, .ref b), (1, .ref (sA Δ 0)), (2, .ref (sA Δ 504)), (3, .ref (sA Δ 540)), (4, .ref (sA Δ 541)), (5, .int (sJ x5))]) hG dL_law_1381 (by decide) rfl ?_
  refine V.aload_n (pc := 1383) hG dL_law_1383 rfl 3 rfl ?_
  refine V.aload_n (pc := 1384) hG dL_law_1384 rfl 1 rfl ?_
  refine V.iload (pc := 1385) hG dL_law_1385 6 rfl ?_
  refine V.iconst (pc := 1387) hG dL_law_1387 ?_
  refine V.iadd (pc := 1388) hG dL_law_1388 ?_
  obtain ⟨g9, h⟩ := h
  refine V.sld (pc := 1389) hG hX ((sR_wr _)) g9 dL_law_1389 ?_
  refine V.callVi (pc := 1390) (As := [.int (sJ (sv xs (wr (x5 + 1))))]) (stk := []) hG (sm_X12_late l Δ ((sR_sv _ _)) hi6 hw7 h) mY_X12_late kw_2093 kw_2094 kw_2095 a_504 (by decide) (q := (RX12, TX12, 49)) rfl rfl ⟨Nat.le_trans (Nat.le_of_ble_eq_true rfl) hR0.1, Nat.le_trans (Nat.le_of_ble_eq_true rfl) hR0.2.1, by omega, by omega⟩ rfl (Nat.le_of_ble_eq_true rfl) dL_law_1390 rfl (fun v10 i11 r12 hv13 hi14 hw15 hq16 => ?_)
  obtain ⟨e36, h⟩ := hq16
  subst e36
  refine V.istore (pc := 1393) (lv' := [(7, .int (sJ v10)), (6, .int (sJ v2)), (0, .ref b), (1, .ref (sA Δ 0)), (2, .ref (sA Δ 504)), (3, .ref (sA Δ 540)), (4, .ref (sA Δ 541)), (5, .int (sJ x5))]) hG dL_law_1393 (by decide) rfl ?_
  refine V.aload_n (pc := 1395) hG dL_law_1395 rfl 4 rfl ?_
  refine V.callVi (pc := 1396) (As := []) (stk := []) hG (sm_X12_thrown l Δ  hi14 hw7 h) mY_X12_thrown kw_1840 kw_1841 kw_1842 a_504 (by decide) (q := (RX12, TX12, 49)) rfl rfl ⟨Nat.le_trans (Nat.le_of_ble_eq_true rfl) hR0.1, Nat.le_trans (Nat.le_of_ble_eq_true rfl) hR0.2.1, by omega, by omega⟩ rfl (Nat.le_of_ble_eq_true rfl) dL_law_1396 rfl (fun v17 i18 r19 hv20 hi21 hw22 hq23 => ?_)
  obtain ⟨e33, e34, h⟩ := hq23
  subst e33
  subst e34
  refine V.iload (pc := 1399) hG dL_law_1399 1 rfl ?_
  obtain ⟨t25, f26⟩ := h
  refine V.icmp_eq (pc := 1401) (tgt := 1406) hG hv20 hv5 dL_law_1401 (by decide) (fun c24 => ?_) (fun c24 => ?_)
  · have h := t25 c24
    clear t25 f26
    refine V.iload (pc := 1406) hG dL_law_1406 1 rfl ?_
    obtain ⟨f29, t28⟩ := h
    refine V.if_ne (pc := 1408) (tgt := 1423) hG hv5 dL_law_1408 (by decide) (fun c27 => ?_) (fun c27 => ?_)
    · have h := t28 c27
      clear t28 f29
      refine V.pick [2, 3, 4, 5, 6, 7] rfl ?_
      exact jn1423 i11 r4 hi14 hw7 h
    · have h := f29 c27
      clear t28 f29
      refine V.aload_n (pc := 1411) hG dL_law_1411 rfl 5 rfl ?_
      refine V.iconst (pc := 1412) hG dL_law_1412 ?_
      refine V.lald0 (pc := 1413) (z := 1) (o := 540) hG a_540 a_540.n (by decide) dL_law_1413 ?_
      refine V.iload (pc := 1414) hG dL_law_1414 0 rfl ?_
      refine V.i2l (pc := 1416) hG dL_law_1416 ?_
      refine V.lcmp (pc := 1417) hG dL_law_1417 ?_
      obtain ⟨t31, f32⟩ := h
      refine V.if_eq (pc := 1418) (tgt := 1423) hG ((sR_of _)) dL_law_1418 (by decide) (fun c30 => ?_) (fun c30 => ?_)
      · have h := t31 c30
        clear t31 f32
        refine V.pick [2, 3, 4, 5, 6, 7] rfl ?_
        exact jn1423 i11 r4 hi14 hw7 h
      · have h := f32 c30
        clear t31 f32
        refine V.iconst (pc := 1421) hG dL_law_1421 ?_
        exact h.elim
  · have h := f26 c24
    clear t25 f26
    refine V.iconst (pc := 1404) hG dL_law_1404 ?_
    exact h.elim
set_option maxRecDepth 100000 in
set_option maxHeartbeats 4000000 in
theorem lc_24 {Γ : Cx} {Δ : Wd} {l : Launch} {R : Room} {Q0 : State → Prop} {b : Nat} {xs : Nat → Int32} {L : Nat} {x5 : Int} {kc sl : Nat} {C : MI → MI → Prop} {i r : MI} (hst : l.stackTraces = false) (hG : okG Γ Δ l R cL_law "SchedularyLaw" 9) (hX : okS Γ Δ b L xs) (hR0 : 20 ≤ R.frames ∧ 10000 ≤ R.locals ∧ kc + 3 ≤ R.cells ∧ sl + 18 ≤ R.slots) (hx5 : sR x5) (hi : okI i) (hw : Wf r) (h : wc_24 xs L C x5 i r)
    (kk : ∀ i' r' : MI, okI i' → Wf r' → C i' r' → V Γ Δ 542 false i' r' (kc + 3) (sl + 18) Q0 2281 [(0, .ref b), (1, .ref (sA Δ 0)), (2, .ref (sA Δ 504)), (3, .ref (sA Δ 540)), (4, .ref (sA Δ 541)), (5, .int (sJ x5))] []) : V Γ Δ 542 false i r kc sl Q0 1426 [(0, .ref b), (1, .ref (sA Δ 0)), (2, .ref (sA Δ 504)), (3, .ref (sA Δ 540)), (4, .ref (sA Δ 541)), (5, .int (sJ x5))] [] := by
  unfold wc_24 at h
  have jn1479 : ∀  (ij1479 : MI) (rj1479 : MI), okI ij1479 → Wf rj1479 → s1479_LC24 x5 ij1479 rj1479 xs L C → V Γ Δ 542 false ij1479 rj1479 (kc + 3) (sl + 18) Q0 1479 [(0, .ref b), (1, .ref (sA Δ 0)), (2, .ref (sA Δ 504)), (3, .ref (sA Δ 540)), (4, .ref (sA Δ 541)), (5, .int (sJ x5))] [] := by
    intro ij1479 rj1479 hij1479 hwj1479 h
    refine V.goto (pc := 1479) (tgt := 2281) hG dL_law_1479 (by decide) ?_
    refine V.ks (kc2 := kc + 3) (sl2 := sl + 18) (by omega) (by omega) ?_
    exact kk ij1479 rj1479 hij1479 hwj1479 h
  refine V.aload_n (pc := 1426) hG dL_law_1426 rfl 1 rfl ?_
  refine V.aload_n (pc := 1427) hG dL_law_1427 rfl 0 rfl ?_
  refine V.iload (pc := 1428) hG dL_law_1428 5 rfl ?_
  refine V.iconst (pc := 1430) hG dL_law_1430 ?_
  refine V.iadd (pc := 1431) hG dL_law_1431 ?_
  obtain ⟨g1, h⟩ := h
  refine V.sld (pc := 1432) hG hX ((sR_wr _)) g1 dL_law_1432 ?_
  refine V.aload_n (pc := 1433) hG dL_law_1433 rfl 3 rfl ?_
  refine V.callSWi (pc := 1434) (na := 3) (As := [.ref (sA Δ 0), .int (sJ (sv xs (wr (x5 + 1)))), .ref (sA Δ 540)]) (stk := []) hG (sm_L_step l Δ ((sR_sv _ _)) hst hi hw h) kw_157 kl_L_step (by decide) (by decide +kernel) kw_1580 kw_1581 ⟨Nat.le_trans (Nat.le_of_ble_eq_true rfl) hR0.1, Nat.le_trans (Nat.le_of_ble_eq_true rfl) hR0.2.1, by omega, by omega⟩ rfl (Nat.le_of_ble_eq_true rfl) dL_law_1434 rfl (fun v2 i3 r4 hv5 hi6 hw7 hq8 => ?_)
  have h := hq8
  refine V.ks (kc2 := kc + 3) (sl2 := sl + 18) (by omega) (by omega) ?_
  refine V.istore (pc := 1437) (lv' := [(6, .int (sJ v2)), (0, .ref b), (1, .ref (sA Δ 0)), (2, .ref (sA Δ 504)), (3, .ref (sA Δ 540)), (4, .ref (sA Δ 541)), (5, .int (sJ x5))]) hG dL_law_1437 (by decide) rfl ?_
  refine V.aload_n (pc := 1439) hG dL_law_1439 rfl 3 rfl ?_
  refine V.aload_n (pc := 1440) hG dL_law_1440 rfl 1 rfl ?_
  refine V.iload (pc := 1441) hG dL_law_1441 6 rfl ?_
  refine V.iconst (pc := 1443) hG dL_law_1443 ?_
  refine V.iadd (pc := 1444) hG dL_law_1444 ?_
  obtain ⟨g9, h⟩ := h
  refine V.sld (pc := 1445) hG hX ((sR_wr _)) g9 dL_law_1445 ?_
  refine V.callVi (pc := 1446) (As := [.int (sJ (sv xs (wr (x5 + 1))))]) (stk := []) hG (sm_X12_step l Δ ((sR_sv _ _)) hi6 hw7 h) mY_X12_step kw_2097 kw_2098 kw_2099 a_504 (by decide) (q := (RX12, TX12, 49)) rfl rfl ⟨Nat.le_trans (Nat.le_of_ble_eq_true rfl) hR0.1, Nat.le_trans (Nat.le_of_ble_eq_true rfl) hR0.2.1, by omega, by omega⟩ rfl (Nat.le_of_ble_eq_true rfl) dL_law_1446 rfl (fun v10 i11 r12 hv13 hi14 hw15 hq16 => ?_)
  obtain ⟨e36, h⟩ := hq16
  subst e36
  refine V.istore (pc := 1449) (lv' := [(7, .int (sJ v10)), (6, .int (sJ v2)), (0, .ref b), (1, .ref (sA Δ 0)), (2, .ref (sA Δ 504)), (3, .ref (sA Δ 540)), (4, .ref (sA Δ 541)), (5, .int (sJ x5))]) hG dL_law_1449 (by decide) rfl ?_
  refine V.aload_n (pc := 1451) hG dL_law_1451 rfl 4 rfl ?_
  refine V.callVi (pc := 1452) (As := []) (stk := []) hG (sm_X12_thrown l Δ  hi14 hw7 h) mY_X12_thrown kw_1840 kw_1841 kw_1842 a_504 (by decide) (q := (RX12, TX12, 49)) rfl rfl ⟨Nat.le_trans (Nat.le_of_ble_eq_true rfl) hR0.1, Nat.le_trans (Nat.le_of_ble_eq_true rfl) hR0.2.1, by omega, by omega⟩ rfl (Nat.le_of_ble_eq_true rfl) dL_law_1452 rfl (fun v17 i18 r19 hv20 hi21 hw22 hq23 => ?_)
  obtain ⟨e33, e34, h⟩ := hq23
  subst e33
  subst e34
  refine V.iload (pc := 1455) hG dL_law_1455 1 rfl ?_
  obtain ⟨t25, f26⟩ := h
  refine V.icmp_eq (pc := 1457) (tgt := 1462) hG hv20 hv5 dL_law_1457 (by decide) (fun c24 => ?_) (fun c24 => ?_)
  · have h := t25 c24
    clear t25 f26
    refine V.iload (pc := 1462) hG dL_law_1462 1 rfl ?_
    obtain ⟨f29, t28⟩ := h
    refine V.if_ne (pc := 1464) (tgt := 1479) hG hv5 dL_law_1464 (by decide) (fun c27 => ?_) (fun c27 => ?_)
    · have h := t28 c27
      clear t28 f29
      refine V.pick [2, 3, 4, 5, 6, 7] rfl ?_
      exact jn1479 i11 r4 hi14 hw7 h
    · have h := f29 c27
      clear t28 f29
      refine V.aload_n (pc := 1467) hG dL_law_1467 rfl 5 rfl ?_
      refine V.iconst (pc := 1468) hG dL_law_1468 ?_
      refine V.lald0 (pc := 1469) (z := 1) (o := 540) hG a_540 a_540.n (by decide) dL_law_1469 ?_
      refine V.iload (pc := 1470) hG dL_law_1470 0 rfl ?_
      refine V.i2l (pc := 1472) hG dL_law_1472 ?_
      refine V.lcmp (pc := 1473) hG dL_law_1473 ?_
      obtain ⟨t31, f32⟩ := h
      refine V.if_eq (pc := 1474) (tgt := 1479) hG ((sR_of _)) dL_law_1474 (by decide) (fun c30 => ?_) (fun c30 => ?_)
      · have h := t31 c30
        clear t31 f32
        refine V.pick [2, 3, 4, 5, 6, 7] rfl ?_
        exact jn1479 i11 r4 hi14 hw7 h
      · have h := f32 c30
        clear t31 f32
        refine V.iconst (pc := 1477) hG dL_law_1477 ?_
        exact h.elim
  · have h := f26 c24
    clear t25 f26
    refine V.iconst (pc := 1460) hG dL_law_1460 ?_
    exact h.elim
set_option maxRecDepth 100000 in
set_option maxHeartbeats 4000000 in
theorem lc_25 {Γ : Cx} {Δ : Wd} {l : Launch} {R : Room} {Q0 : State → Prop} {b : Nat} {xs : Nat → Int32} {L : Nat} {x5 : Int} {kc sl : Nat} {C : MI → MI → Prop} {i r : MI} (hst : l.stackTraces = false) (hG : okG Γ Δ l R cL_law "SchedularyLaw" 9) (hX : okS Γ Δ b L xs) (hR0 : 20 ≤ R.frames ∧ 10000 ≤ R.locals ∧ kc + 3 ≤ R.cells ∧ sl + 18 ≤ R.slots) (hx5 : sR x5) (hi : okI i) (hw : Wf r) (h : wc_25 xs L C x5 i r)
    (kk : ∀ i' r' : MI, okI i' → Wf r' → C i' r' → V Γ Δ 542 false i' r' (kc + 3) (sl + 18) Q0 2281 [(0, .ref b), (1, .ref (sA Δ 0)), (2, .ref (sA Δ 504)), (3, .ref (sA Δ 540)), (4, .ref (sA Δ 541)), (5, .int (sJ x5))] []) : V Γ Δ 542 false i r kc sl Q0 1482 [(0, .ref b), (1, .ref (sA Δ 0)), (2, .ref (sA Δ 504)), (3, .ref (sA Δ 540)), (4, .ref (sA Δ 541)), (5, .int (sJ x5))] [] := by
  refine V.ks (kc2 := kc + 3) (sl2 := sl + 18) (by omega) (by omega) ?_
  unfold wc_25 at h
  refine V.aload_n (pc := 1482) hG dL_law_1482 rfl 1 rfl ?_
  refine V.callVi (pc := 1483) (As := []) (stk := []) hG (sm_X11_length l Δ  hi hw h) mY_X11_length kw_1076 kw_1077 kw_1078 a_0 (by decide) (q := (RX11, TX11, 11)) rfl rfl ⟨Nat.le_trans (Nat.le_of_ble_eq_true rfl) hR0.1, Nat.le_trans (Nat.le_of_ble_eq_true rfl) hR0.2.1, by omega, by omega⟩ rfl (Nat.le_of_ble_eq_true rfl) dL_law_1483 rfl (fun v1 i2 r3 hv4 hi5 hw6 hq7 => ?_)
  have h := hq7
  refine V.aload_n (pc := 1486) hG dL_law_1486 rfl 2 rfl ?_
  refine V.callVi (pc := 1487) (As := []) (stk := [.int (sJ v1)]) hG (sm_X12_length l Δ  hi5 hw6 h) mY_X12_length kw_2109 kw_2110 kw_2111 a_504 (by decide) (q := (RX12, TX12, 49)) rfl rfl ⟨Nat.le_trans (Nat.le_of_ble_eq_true rfl) hR0.1, Nat.le_trans (Nat.le_of_ble_eq_true rfl) hR0.2.1, by omega, by omega⟩ rfl (Nat.le_of_ble_eq_true rfl) dL_law_1487 rfl (fun v8 i9 r10 hv11 hi12 hw13 hq14 => ?_)
  obtain ⟨e19, h⟩ := hq14
  subst e19
  obtain ⟨t16, f17⟩ := h
  refine V.icmp_eq (pc := 1490) (tgt := 2281) hG hv4 hv11 dL_law_1490 (by decide) (fun c15 => ?_) (fun c15 => ?_)
  · have h := t16 c15
    clear t16 f17
    exact kk i9 r3 hi12 hw6 h
  · have h := f17 c15
    clear t16 f17
    refine V.iconst (pc := 1493) hG dL_law_1493 ?_
    exact h.elim
set_option maxRecDepth 100000 in
set_option maxHeartbeats 4000000 in
theorem lc_26 {Γ : Cx} {Δ : Wd} {l : Launch} {R : Room} {Q0 : State → Prop} {b : Nat} {xs : Nat → Int32} {L : Nat} {x5 : Int} {kc sl : Nat} {C : MI → MI → Prop} {i r : MI} (hst : l.stackTraces = false) (hG : okG Γ Δ l R cL_law "SchedularyLaw" 9) (hX : okS Γ Δ b L xs) (hR0 : 20 ≤ R.frames ∧ 10000 ≤ R.locals ∧ kc + 3 ≤ R.cells ∧ sl + 18 ≤ R.slots) (hx5 : sR x5) (hi : okI i) (hw : Wf r) (h : wc_26 xs L C x5 i r)
    (kk : ∀ i' r' : MI, okI i' → Wf r' → C i' r' → V Γ Δ 542 false i' r' (kc + 3) (sl + 18) Q0 2281 [(0, .ref b), (1, .ref (sA Δ 0)), (2, .ref (sA Δ 504)), (3, .ref (sA Δ 540)), (4, .ref (sA Δ 541)), (5, .int (sJ x5))] []) : V Γ Δ 542 false i r kc sl Q0 1495 [(0, .ref b), (1, .ref (sA Δ 0)), (2, .ref (sA Δ 504)), (3, .ref (sA Δ 540)), (4, .ref (sA Δ 541)), (5, .int (sJ x5))] [] := by
  refine V.ks (kc2 := kc + 3) (sl2 := sl + 18) (by omega) (by omega) ?_
  unfold wc_26 at h
  refine V.aload_n (pc := 1495) hG dL_law_1495 rfl 1 rfl ?_
  refine V.aload_n (pc := 1496) hG dL_law_1496 rfl 0 rfl ?_
  refine V.iload (pc := 1497) hG dL_law_1497 5 rfl ?_
  refine V.iconst (pc := 1499) hG dL_law_1499 ?_
  refine V.iadd (pc := 1500) hG dL_law_1500 ?_
  obtain ⟨g1, h⟩ := h
  refine V.sld (pc := 1501) hG hX ((sR_wr _)) g1 dL_law_1501 ?_
  refine V.callVi (pc := 1502) (As := [.int (sJ (sv xs (wr (x5 + 1))))]) (stk := []) hG (sm_X11_inStep l Δ ((sR_sv _ _)) hi hw h) mY_X11_inStep kw_1081 kw_1082 kw_1083 a_0 (by decide) (q := (RX11, TX11, 11)) rfl rfl ⟨Nat.le_trans (Nat.le_of_ble_eq_true rfl) hR0.1, Nat.le_trans (Nat.le_of_ble_eq_true rfl) hR0.2.1, by omega, by omega⟩ rfl (Nat.le_of_ble_eq_true rfl) dL_law_1502 rfl (fun v2 i3 r4 hv5 hi6 hw7 hq8 => ?_)
  have h := hq8
  refine V.aload_n (pc := 1505) hG dL_law_1505 rfl 2 rfl ?_
  refine V.aload_n (pc := 1506) hG dL_law_1506 rfl 0 rfl ?_
  refine V.iload (pc := 1507) hG dL_law_1507 5 rfl ?_
  refine V.iconst (pc := 1509) hG dL_law_1509 ?_
  refine V.iadd (pc := 1510) hG dL_law_1510 ?_
  obtain ⟨g9, h⟩ := h
  refine V.sld (pc := 1511) hG hX ((sR_wr _)) g9 dL_law_1511 ?_
  refine V.callVi (pc := 1512) (As := [.int (sJ (sv xs (wr (x5 + 1))))]) (stk := [.int (sJ v2)]) hG (sm_X12_inStep l Δ ((sR_sv _ _)) hi6 hw7 h) mY_X12_inStep kw_2113 kw_2114 kw_2115 a_504 (by decide) (q := (RX12, TX12, 49)) rfl rfl ⟨Nat.le_trans (Nat.le_of_ble_eq_true rfl) hR0.1, Nat.le_trans (Nat.le_of_ble_eq_true rfl) hR0.2.1, by omega, by omega⟩ rfl (Nat.le_of_ble_eq_true rfl) dL_law_1512 rfl (fun v10 i11 r12 hv13 hi14 hw15 hq16 => ?_)
  obtain ⟨e21, h⟩ := hq16
  subst e21
  obtain ⟨t18, f19⟩ := h
  refine V.icmp_eq (pc := 1515) (tgt := 2281) hG hv5 hv13 dL_law_1515 (by decide) (fun c17 => ?_) (fun c17 => ?_)
  · have h := t18 c17
    clear t18 f19
    exact kk i11 r4 hi14 hw7 h
  · have h := f19 c17
    clear t18 f19
    refine V.iconst (pc := 1518) hG dL_law_1518 ?_
    exact h.elim
set_option maxRecDepth 100000 in
set_option maxHeartbeats 4000000 in
theorem lc_27 {Γ : Cx} {Δ : Wd} {l : Launch} {R : Room} {Q0 : State → Prop} {b : Nat} {xs : Nat → Int32} {L : Nat} {x5 : Int} {kc sl : Nat} {C : MI → MI → Prop} {i r : MI} (hst : l.stackTraces = false) (hG : okG Γ Δ l R cL_law "SchedularyLaw" 9) (hX : okS Γ Δ b L xs) (hR0 : 20 ≤ R.frames ∧ 10000 ≤ R.locals ∧ kc + 3 ≤ R.cells ∧ sl + 18 ≤ R.slots) (hx5 : sR x5) (hi : okI i) (hw : Wf r) (h : wc_27 xs L C x5 i r)
    (kk : ∀ i' r' : MI, okI i' → Wf r' → C i' r' → V Γ Δ 542 false i' r' (kc + 3) (sl + 18) Q0 2281 [(0, .ref b), (1, .ref (sA Δ 0)), (2, .ref (sA Δ 504)), (3, .ref (sA Δ 540)), (4, .ref (sA Δ 541)), (5, .int (sJ x5))] []) : V Γ Δ 542 false i r kc sl Q0 1520 [(0, .ref b), (1, .ref (sA Δ 0)), (2, .ref (sA Δ 504)), (3, .ref (sA Δ 540)), (4, .ref (sA Δ 541)), (5, .int (sJ x5))] [] := by
  refine V.ks (kc2 := kc + 3) (sl2 := sl + 18) (by omega) (by omega) ?_
  unfold wc_27 at h
  refine V.aload_n (pc := 1520) hG dL_law_1520 rfl 1 rfl ?_
  refine V.callVi (pc := 1521) (As := []) (stk := []) hG (sm_X11_waiting l Δ  hi hw h) mY_X11_waiting kw_1089 kw_1090 kw_1091 a_0 (by decide) (q := (RX11, TX11, 11)) rfl rfl ⟨Nat.le_trans (Nat.le_of_ble_eq_true rfl) hR0.1, Nat.le_trans (Nat.le_of_ble_eq_true rfl) hR0.2.1, by omega, by omega⟩ rfl (Nat.le_of_ble_eq_true rfl) dL_law_1521 rfl (fun v1 i2 r3 hv4 hi5 hw6 hq7 => ?_)
  have h := hq7
  refine V.aload_n (pc := 1524) hG dL_law_1524 rfl 2 rfl ?_
  refine V.callVi (pc := 1525) (As := []) (stk := [.int (sJ v1)]) hG (sm_X12_waiting l Δ  hi5 hw6 h) mY_X12_waiting kw_2117 kw_2118 kw_2119 a_504 (by decide) (q := (RX12, TX12, 49)) rfl rfl ⟨Nat.le_trans (Nat.le_of_ble_eq_true rfl) hR0.1, Nat.le_trans (Nat.le_of_ble_eq_true rfl) hR0.2.1, by omega, by omega⟩ rfl (Nat.le_of_ble_eq_true rfl) dL_law_1525 rfl (fun v8 i9 r10 hv11 hi12 hw13 hq14 => ?_)
  obtain ⟨e19, h⟩ := hq14
  subst e19
  obtain ⟨t16, f17⟩ := h
  refine V.icmp_eq (pc := 1528) (tgt := 2281) hG hv4 hv11 dL_law_1528 (by decide) (fun c15 => ?_) (fun c15 => ?_)
  · have h := t16 c15
    clear t16 f17
    exact kk i9 r3 hi12 hw6 h
  · have h := f17 c15
    clear t16 f17
    refine V.iconst (pc := 1531) hG dL_law_1531 ?_
    exact h.elim
set_option maxRecDepth 100000 in
set_option maxHeartbeats 4000000 in
theorem lc_28 {Γ : Cx} {Δ : Wd} {l : Launch} {R : Room} {Q0 : State → Prop} {b : Nat} {xs : Nat → Int32} {L : Nat} {x5 : Int} {kc sl : Nat} {C : MI → MI → Prop} {i r : MI} (hst : l.stackTraces = false) (hG : okG Γ Δ l R cL_law "SchedularyLaw" 9) (hX : okS Γ Δ b L xs) (hR0 : 20 ≤ R.frames ∧ 10000 ≤ R.locals ∧ kc + 3 ≤ R.cells ∧ sl + 18 ≤ R.slots) (hx5 : sR x5) (hi : okI i) (hw : Wf r) (h : wc_28 xs L C x5 i r)
    (kk : ∀ i' r' : MI, okI i' → Wf r' → C i' r' → V Γ Δ 542 false i' r' (kc + 3) (sl + 18) Q0 2281 [(0, .ref b), (1, .ref (sA Δ 0)), (2, .ref (sA Δ 504)), (3, .ref (sA Δ 540)), (4, .ref (sA Δ 541)), (5, .int (sJ x5))] []) : V Γ Δ 542 false i r kc sl Q0 1533 [(0, .ref b), (1, .ref (sA Δ 0)), (2, .ref (sA Δ 504)), (3, .ref (sA Δ 540)), (4, .ref (sA Δ 541)), (5, .int (sJ x5))] [] := by
  refine V.ks (kc2 := kc + 3) (sl2 := sl + 18) (by omega) (by omega) ?_
  unfold wc_28 at h
  refine V.aload_n (pc := 1533) hG dL_law_1533 rfl 1 rfl ?_
  refine V.callVi (pc := 1534) (As := []) (stk := []) hG (sm_X11_byRings l Δ  hi hw h) mY_X11_byRings kw_1107 kw_1108 kw_1109 a_0 (by decide) (q := (RX11, TX11, 11)) rfl rfl ⟨Nat.le_trans (Nat.le_of_ble_eq_true rfl) hR0.1, Nat.le_trans (Nat.le_of_ble_eq_true rfl) hR0.2.1, by omega, by omega⟩ rfl (Nat.le_of_ble_eq_true rfl) dL_law_1534 rfl (fun v1 i2 r3 hv4 hi5 hw6 hq7 => ?_)
  have h := hq7
  refine V.aload_n (pc := 1537) hG dL_law_1537 rfl 2 rfl ?_
  refine V.callVi (pc := 1538) (As := []) (stk := [.int (sJ v1)]) hG (sm_X12_byRings l Δ  hi5 hw6 h) mY_X12_byRings kw_2125 kw_2126 kw_2127 a_504 (by decide) (q := (RX12, TX12, 49)) rfl rfl ⟨Nat.le_trans (Nat.le_of_ble_eq_true rfl) hR0.1, Nat.le_trans (Nat.le_of_ble_eq_true rfl) hR0.2.1, by omega, by omega⟩ rfl (Nat.le_of_ble_eq_true rfl) dL_law_1538 rfl (fun v8 i9 r10 hv11 hi12 hw13 hq14 => ?_)
  obtain ⟨e19, h⟩ := hq14
  subst e19
  obtain ⟨t16, f17⟩ := h
  refine V.icmp_eq (pc := 1541) (tgt := 2281) hG hv4 hv11 dL_law_1541 (by decide) (fun c15 => ?_) (fun c15 => ?_)
  · have h := t16 c15
    clear t16 f17
    exact kk i9 r3 hi12 hw6 h
  · have h := f17 c15
    clear t16 f17
    refine V.iconst (pc := 1544) hG dL_law_1544 ?_
    exact h.elim
set_option maxRecDepth 100000 in
set_option maxHeartbeats 4000000 in
theorem lc_29 {Γ : Cx} {Δ : Wd} {l : Launch} {R : Room} {Q0 : State → Prop} {b : Nat} {xs : Nat → Int32} {L : Nat} {x5 : Int} {kc sl : Nat} {C : MI → MI → Prop} {i r : MI} (hst : l.stackTraces = false) (hG : okG Γ Δ l R cL_law "SchedularyLaw" 9) (hX : okS Γ Δ b L xs) (hR0 : 20 ≤ R.frames ∧ 10000 ≤ R.locals ∧ kc + 3 ≤ R.cells ∧ sl + 18 ≤ R.slots) (hx5 : sR x5) (hi : okI i) (hw : Wf r) (h : wc_29 xs L C x5 i r)
    (kk : ∀ i' r' : MI, okI i' → Wf r' → C i' r' → V Γ Δ 542 false i' r' (kc + 3) (sl + 18) Q0 2281 [(0, .ref b), (1, .ref (sA Δ 0)), (2, .ref (sA Δ 504)), (3, .ref (sA Δ 540)), (4, .ref (sA Δ 541)), (5, .int (sJ x5))] []) : V Γ Δ 542 false i r kc sl Q0 1546 [(0, .ref b), (1, .ref (sA Δ 0)), (2, .ref (sA Δ 504)), (3, .ref (sA Δ 540)), (4, .ref (sA Δ 541)), (5, .int (sJ x5))] [] := by
  refine V.ks (kc2 := kc + 3) (sl2 := sl + 18) (by omega) (by omega) ?_
  unfold wc_29 at h
  refine V.aload_n (pc := 1546) hG dL_law_1546 rfl 1 rfl ?_
  refine V.callVi (pc := 1547) (As := []) (stk := []) hG (sm_X11_byUnits l Δ  hi hw h) mY_X11_byUnits kw_1111 kw_1112 kw_1113 a_0 (by decide) (q := (RX11, TX11, 11)) rfl rfl ⟨Nat.le_trans (Nat.le_of_ble_eq_true rfl) hR0.1, Nat.le_trans (Nat.le_of_ble_eq_true rfl) hR0.2.1, by omega, by omega⟩ rfl (Nat.le_of_ble_eq_true rfl) dL_law_1547 rfl (fun v1 i2 r3 hv4 hi5 hw6 hq7 => ?_)
  have h := hq7
  refine V.aload_n (pc := 1550) hG dL_law_1550 rfl 2 rfl ?_
  refine V.callVi (pc := 1551) (As := []) (stk := [.int (sJ v1)]) hG (sm_X12_byUnits l Δ  hi5 hw6 h) mY_X12_byUnits kw_2137 kw_2138 kw_2139 a_504 (by decide) (q := (RX12, TX12, 49)) rfl rfl ⟨Nat.le_trans (Nat.le_of_ble_eq_true rfl) hR0.1, Nat.le_trans (Nat.le_of_ble_eq_true rfl) hR0.2.1, by omega, by omega⟩ rfl (Nat.le_of_ble_eq_true rfl) dL_law_1551 rfl (fun v8 i9 r10 hv11 hi12 hw13 hq14 => ?_)
  obtain ⟨e19, h⟩ := hq14
  subst e19
  obtain ⟨t16, f17⟩ := h
  refine V.icmp_eq (pc := 1554) (tgt := 2281) hG hv4 hv11 dL_law_1554 (by decide) (fun c15 => ?_) (fun c15 => ?_)
  · have h := t16 c15
    clear t16 f17
    exact kk i9 r3 hi12 hw6 h
  · have h := f17 c15
    clear t16 f17
    refine V.iconst (pc := 1557) hG dL_law_1557 ?_
    exact h.elim
set_option maxRecDepth 100000 in
set_option maxHeartbeats 4000000 in
theorem lc_30 {Γ : Cx} {Δ : Wd} {l : Launch} {R : Room} {Q0 : State → Prop} {b : Nat} {xs : Nat → Int32} {L : Nat} {x5 : Int} {kc sl : Nat} {C : MI → MI → Prop} {i r : MI} (hst : l.stackTraces = false) (hG : okG Γ Δ l R cL_law "SchedularyLaw" 9) (hX : okS Γ Δ b L xs) (hR0 : 20 ≤ R.frames ∧ 10000 ≤ R.locals ∧ kc + 3 ≤ R.cells ∧ sl + 18 ≤ R.slots) (hx5 : sR x5) (hi : okI i) (hw : Wf r) (h : wc_30 xs L C x5 i r)
    (kk : ∀ i' r' : MI, okI i' → Wf r' → C i' r' → V Γ Δ 542 false i' r' (kc + 3) (sl + 18) Q0 2281 [(0, .ref b), (1, .ref (sA Δ 0)), (2, .ref (sA Δ 504)), (3, .ref (sA Δ 540)), (4, .ref (sA Δ 541)), (5, .int (sJ x5))] []) : V Γ Δ 542 false i r kc sl Q0 1559 [(0, .ref b), (1, .ref (sA Δ 0)), (2, .ref (sA Δ 504)), (3, .ref (sA Δ 540)), (4, .ref (sA Δ 541)), (5, .int (sJ x5))] [] := by
  refine V.ks (kc2 := kc + 3) (sl2 := sl + 18) (by omega) (by omega) ?_
  unfold wc_30 at h
  refine V.aload_n (pc := 1559) hG dL_law_1559 rfl 1 rfl ?_
  refine V.callVi (pc := 1560) (As := []) (stk := []) hG (sm_X11_interval l Δ  hi hw h) mY_X11_interval kw_1115 kw_1116 kw_1117 a_0 (by decide) (q := (RX11, TX11, 11)) rfl rfl ⟨Nat.le_trans (Nat.le_of_ble_eq_true rfl) hR0.1, Nat.le_trans (Nat.le_of_ble_eq_true rfl) hR0.2.1, by omega, by omega⟩ rfl (Nat.le_of_ble_eq_true rfl) dL_law_1560 rfl (fun v1 i2 r3 hv4 hi5 hw6 hq7 => ?_)
  have h := hq7
  refine V.aload_n (pc := 1563) hG dL_law_1563 rfl 2 rfl ?_
  refine V.callVi (pc := 1564) (As := []) (stk := [.int (sJ v1)]) hG (sm_X12_interval l Δ  hi5 hw6 h) mY_X12_interval kw_2149 kw_2150 kw_2151 a_504 (by decide) (q := (RX12, TX12, 49)) rfl rfl ⟨Nat.le_trans (Nat.le_of_ble_eq_true rfl) hR0.1, Nat.le_trans (Nat.le_of_ble_eq_true rfl) hR0.2.1, by omega, by omega⟩ rfl (Nat.le_of_ble_eq_true rfl) dL_law_1564 rfl (fun v8 i9 r10 hv11 hi12 hw13 hq14 => ?_)
  obtain ⟨e19, h⟩ := hq14
  subst e19
  obtain ⟨t16, f17⟩ := h
  refine V.icmp_eq (pc := 1567) (tgt := 2281) hG hv4 hv11 dL_law_1567 (by decide) (fun c15 => ?_) (fun c15 => ?_)
  · have h := t16 c15
    clear t16 f17
    exact kk i9 r3 hi12 hw6 h
  · have h := f17 c15
    clear t16 f17
    refine V.iconst (pc := 1570) hG dL_law_1570 ?_
    exact h.elim
set_option maxRecDepth 100000 in
set_option maxHeartbeats 4000000 in
theorem lc_31 {Γ : Cx} {Δ : Wd} {l : Launch} {R : Room} {Q0 : State → Prop} {b : Nat} {xs : Nat → Int32} {L : Nat} {x5 : Int} {kc sl : Nat} {C : MI → MI → Prop} {i r : MI} (hst : l.stackTraces = false) (hG : okG Γ Δ l R cL_law "SchedularyLaw" 9) (hX : okS Γ Δ b L xs) (hR0 : 20 ≤ R.frames ∧ 10000 ≤ R.locals ∧ kc + 3 ≤ R.cells ∧ sl + 18 ≤ R.slots) (hx5 : sR x5) (hi : okI i) (hw : Wf r) (h : wc_31 xs L C x5 i r)
    (kk : ∀ i' r' : MI, okI i' → Wf r' → C i' r' → V Γ Δ 542 false i' r' (kc + 3) (sl + 18) Q0 2281 [(0, .ref b), (1, .ref (sA Δ 0)), (2, .ref (sA Δ 504)), (3, .ref (sA Δ 540)), (4, .ref (sA Δ 541)), (5, .int (sJ x5))] []) : V Γ Δ 542 false i r kc sl Q0 1572 [(0, .ref b), (1, .ref (sA Δ 0)), (2, .ref (sA Δ 504)), (3, .ref (sA Δ 540)), (4, .ref (sA Δ 541)), (5, .int (sJ x5))] [] := by
  refine V.ks (kc2 := kc + 3) (sl2 := sl + 18) (by omega) (by omega) ?_
  unfold wc_31 at h
  refine V.aload_n (pc := 1572) hG dL_law_1572 rfl 1 rfl ?_
  refine V.callVi (pc := 1573) (As := []) (stk := []) hG (sm_X11_binds l Δ  hi hw h) mY_X11_binds kw_1119 kw_1120 kw_1121 a_0 (by decide) (q := (RX11, TX11, 11)) rfl rfl ⟨Nat.le_trans (Nat.le_of_ble_eq_true rfl) hR0.1, Nat.le_trans (Nat.le_of_ble_eq_true rfl) hR0.2.1, by omega, by omega⟩ rfl (Nat.le_of_ble_eq_true rfl) dL_law_1573 rfl (fun v1 i2 r3 hv4 hi5 hw6 hq7 => ?_)
  have h := hq7
  refine V.aload_n (pc := 1576) hG dL_law_1576 rfl 2 rfl ?_
  refine V.callVi (pc := 1577) (As := []) (stk := [.int (sJ v1)]) hG (sm_X12_binds l Δ  hi5 hw6 h) mY_X12_binds kw_2165 kw_2166 kw_2167 a_504 (by decide) (q := (RX12, TX12, 49)) rfl rfl ⟨Nat.le_trans (Nat.le_of_ble_eq_true rfl) hR0.1, Nat.le_trans (Nat.le_of_ble_eq_true rfl) hR0.2.1, by omega, by omega⟩ rfl (Nat.le_of_ble_eq_true rfl) dL_law_1577 rfl (fun v8 i9 r10 hv11 hi12 hw13 hq14 => ?_)
  obtain ⟨e19, h⟩ := hq14
  subst e19
  obtain ⟨t16, f17⟩ := h
  refine V.icmp_eq (pc := 1580) (tgt := 2281) hG hv4 hv11 dL_law_1580 (by decide) (fun c15 => ?_) (fun c15 => ?_)
  · have h := t16 c15
    clear t16 f17
    exact kk i9 r3 hi12 hw6 h
  · have h := f17 c15
    clear t16 f17
    refine V.iconst (pc := 1583) hG dL_law_1583 ?_
    exact h.elim
set_option maxRecDepth 100000 in
set_option maxHeartbeats 4000000 in
theorem lc_32 {Γ : Cx} {Δ : Wd} {l : Launch} {R : Room} {Q0 : State → Prop} {b : Nat} {xs : Nat → Int32} {L : Nat} {x5 : Int} {kc sl : Nat} {C : MI → MI → Prop} {i r : MI} (hst : l.stackTraces = false) (hG : okG Γ Δ l R cL_law "SchedularyLaw" 9) (hX : okS Γ Δ b L xs) (hR0 : 20 ≤ R.frames ∧ 10000 ≤ R.locals ∧ kc + 3 ≤ R.cells ∧ sl + 18 ≤ R.slots) (hx5 : sR x5) (hi : okI i) (hw : Wf r) (h : wc_32 xs L C x5 i r)
    (kk : ∀ i' r' : MI, okI i' → Wf r' → C i' r' → V Γ Δ 542 false i' r' (kc + 3) (sl + 18) Q0 2281 [(0, .ref b), (1, .ref (sA Δ 0)), (2, .ref (sA Δ 504)), (3, .ref (sA Δ 540)), (4, .ref (sA Δ 541)), (5, .int (sJ x5))] []) : V Γ Δ 542 false i r kc sl Q0 1585 [(0, .ref b), (1, .ref (sA Δ 0)), (2, .ref (sA Δ 504)), (3, .ref (sA Δ 540)), (4, .ref (sA Δ 541)), (5, .int (sJ x5))] [] := by
  unfold wc_32 at h
  have jn1638 : ∀  (ij1638 : MI) (rj1638 : MI), okI ij1638 → Wf rj1638 → s1638_LC32 x5 ij1638 rj1638 xs L C → V Γ Δ 542 false ij1638 rj1638 (kc + 3) (sl + 18) Q0 1638 [(0, .ref b), (1, .ref (sA Δ 0)), (2, .ref (sA Δ 504)), (3, .ref (sA Δ 540)), (4, .ref (sA Δ 541)), (5, .int (sJ x5))] [] := by
    intro ij1638 rj1638 hij1638 hwj1638 h
    refine V.goto (pc := 1638) (tgt := 2281) hG dL_law_1638 (by decide) ?_
    refine V.ks (kc2 := kc + 3) (sl2 := sl + 18) (by omega) (by omega) ?_
    exact kk ij1638 rj1638 hij1638 hwj1638 h
  refine V.aload_n (pc := 1585) hG dL_law_1585 rfl 1 rfl ?_
  refine V.aload_n (pc := 1586) hG dL_law_1586 rfl 0 rfl ?_
  refine V.iload (pc := 1587) hG dL_law_1587 5 rfl ?_
  refine V.iconst (pc := 1589) hG dL_law_1589 ?_
  refine V.iadd (pc := 1590) hG dL_law_1590 ?_
  obtain ⟨g1, h⟩ := h
  refine V.sld (pc := 1591) hG hX ((sR_wr _)) g1 dL_law_1591 ?_
  refine V.aload_n (pc := 1592) hG dL_law_1592 rfl 3 rfl ?_
  refine V.callSWi (pc := 1593) (na := 3) (As := [.ref (sA Δ 0), .int (sJ (sv xs (wr (x5 + 1)))), .ref (sA Δ 540)]) (stk := []) hG (sm_L_place l Δ ((sR_sv _ _)) hst hi hw h) kw_157 kl_L_place (by decide) (by decide +kernel) kw_1587 kw_1588 ⟨Nat.le_trans (Nat.le_of_ble_eq_true rfl) hR0.1, Nat.le_trans (Nat.le_of_ble_eq_true rfl) hR0.2.1, by omega, by omega⟩ rfl (Nat.le_of_ble_eq_true rfl) dL_law_1593 rfl (fun v2 i3 r4 hv5 hi6 hw7 hq8 => ?_)
  have h := hq8
  refine V.ks (kc2 := kc + 3) (sl2 := sl + 18) (by omega) (by omega) ?_
  refine V.istore (pc := 1596) (lv' := [(6, .int (sJ v2)), (0, .ref b), (1, .ref (sA Δ 0)), (2, .ref (sA Δ 504)), (3, .ref (sA Δ 540)), (4, .ref (sA Δ 541)), (5, .int (sJ x5))]) hG dL_law_1596 (by decide) rfl ?_
  refine V.aload_n (pc := 1598) hG dL_law_1598 rfl 3 rfl ?_
  refine V.aload_n (pc := 1599) hG dL_law_1599 rfl 1 rfl ?_
  refine V.iload (pc := 1600) hG dL_law_1600 6 rfl ?_
  refine V.iconst (pc := 1602) hG dL_law_1602 ?_
  refine V.iadd (pc := 1603) hG dL_law_1603 ?_
  obtain ⟨g9, h⟩ := h
  refine V.sld (pc := 1604) hG hX ((sR_wr _)) g9 dL_law_1604 ?_
  refine V.callVi (pc := 1605) (As := [.int (sJ (sv xs (wr (x5 + 1))))]) (stk := []) hG (sm_X12_place l Δ ((sR_sv _ _)) hi6 hw7 h) mY_X12_place kw_2169 kw_2170 kw_2171 a_504 (by decide) (q := (RX12, TX12, 49)) rfl rfl ⟨Nat.le_trans (Nat.le_of_ble_eq_true rfl) hR0.1, Nat.le_trans (Nat.le_of_ble_eq_true rfl) hR0.2.1, by omega, by omega⟩ rfl (Nat.le_of_ble_eq_true rfl) dL_law_1605 rfl (fun v10 i11 r12 hv13 hi14 hw15 hq16 => ?_)
  obtain ⟨e36, h⟩ := hq16
  subst e36
  refine V.istore (pc := 1608) (lv' := [(7, .int (sJ v10)), (6, .int (sJ v2)), (0, .ref b), (1, .ref (sA Δ 0)), (2, .ref (sA Δ 504)), (3, .ref (sA Δ 540)), (4, .ref (sA Δ 541)), (5, .int (sJ x5))]) hG dL_law_1608 (by decide) rfl ?_
  refine V.aload_n (pc := 1610) hG dL_law_1610 rfl 4 rfl ?_
  refine V.callVi (pc := 1611) (As := []) (stk := []) hG (sm_X12_thrown l Δ  hi14 hw7 h) mY_X12_thrown kw_1840 kw_1841 kw_1842 a_504 (by decide) (q := (RX12, TX12, 49)) rfl rfl ⟨Nat.le_trans (Nat.le_of_ble_eq_true rfl) hR0.1, Nat.le_trans (Nat.le_of_ble_eq_true rfl) hR0.2.1, by omega, by omega⟩ rfl (Nat.le_of_ble_eq_true rfl) dL_law_1611 rfl (fun v17 i18 r19 hv20 hi21 hw22 hq23 => ?_)
  obtain ⟨e33, e34, h⟩ := hq23
  subst e33
  subst e34
  refine V.iload (pc := 1614) hG dL_law_1614 1 rfl ?_
  obtain ⟨t25, f26⟩ := h
  refine V.icmp_eq (pc := 1616) (tgt := 1621) hG hv20 hv5 dL_law_1616 (by decide) (fun c24 => ?_) (fun c24 => ?_)
  · have h := t25 c24
    clear t25 f26
    refine V.iload (pc := 1621) hG dL_law_1621 1 rfl ?_
    obtain ⟨f29, t28⟩ := h
    refine V.if_ne (pc := 1623) (tgt := 1638) hG hv5 dL_law_1623 (by decide) (fun c27 => ?_) (fun c27 => ?_)
    · have h := t28 c27
      clear t28 f29
      refine V.pick [2, 3, 4, 5, 6, 7] rfl ?_
      exact jn1638 i11 r4 hi14 hw7 h
    · have h := f29 c27
      clear t28 f29
      refine V.aload_n (pc := 1626) hG dL_law_1626 rfl 5 rfl ?_
      refine V.iconst (pc := 1627) hG dL_law_1627 ?_
      refine V.lald0 (pc := 1628) (z := 1) (o := 540) hG a_540 a_540.n (by decide) dL_law_1628 ?_
      refine V.iload (pc := 1629) hG dL_law_1629 0 rfl ?_
      refine V.i2l (pc := 1631) hG dL_law_1631 ?_
      refine V.lcmp (pc := 1632) hG dL_law_1632 ?_
      obtain ⟨t31, f32⟩ := h
      refine V.if_eq (pc := 1633) (tgt := 1638) hG ((sR_of _)) dL_law_1633 (by decide) (fun c30 => ?_) (fun c30 => ?_)
      · have h := t31 c30
        clear t31 f32
        refine V.pick [2, 3, 4, 5, 6, 7] rfl ?_
        exact jn1638 i11 r4 hi14 hw7 h
      · have h := f32 c30
        clear t31 f32
        refine V.iconst (pc := 1636) hG dL_law_1636 ?_
        exact h.elim
  · have h := f26 c24
    clear t25 f26
    refine V.iconst (pc := 1619) hG dL_law_1619 ?_
    exact h.elim
set_option maxRecDepth 100000 in
set_option maxHeartbeats 4000000 in
theorem lc_33 {Γ : Cx} {Δ : Wd} {l : Launch} {R : Room} {Q0 : State → Prop} {b : Nat} {xs : Nat → Int32} {L : Nat} {x5 : Int} {kc sl : Nat} {C : MI → MI → Prop} {i r : MI} (hst : l.stackTraces = false) (hG : okG Γ Δ l R cL_law "SchedularyLaw" 9) (hX : okS Γ Δ b L xs) (hR0 : 20 ≤ R.frames ∧ 10000 ≤ R.locals ∧ kc + 3 ≤ R.cells ∧ sl + 18 ≤ R.slots) (hx5 : sR x5) (hi : okI i) (hw : Wf r) (h : wc_33 xs L C x5 i r)
    (kk : ∀ i' r' : MI, okI i' → Wf r' → C i' r' → V Γ Δ 542 false i' r' (kc + 3) (sl + 18) Q0 2281 [(0, .ref b), (1, .ref (sA Δ 0)), (2, .ref (sA Δ 504)), (3, .ref (sA Δ 540)), (4, .ref (sA Δ 541)), (5, .int (sJ x5))] []) : V Γ Δ 542 false i r kc sl Q0 1641 [(0, .ref b), (1, .ref (sA Δ 0)), (2, .ref (sA Δ 504)), (3, .ref (sA Δ 540)), (4, .ref (sA Δ 541)), (5, .int (sJ x5))] [] := by
  refine V.ks (kc2 := kc + 3) (sl2 := sl + 18) (by omega) (by omega) ?_
  unfold wc_33 at h
  refine V.aload_n (pc := 1641) hG dL_law_1641 rfl 1 rfl ?_
  refine V.callVi (pc := 1642) (As := []) (stk := []) hG (sm_X11_cycles l Δ  hi hw h) mY_X11_cycles kw_1148 kw_1149 kw_1150 a_0 (by decide) (q := (RX11, TX11, 11)) rfl rfl ⟨Nat.le_trans (Nat.le_of_ble_eq_true rfl) hR0.1, Nat.le_trans (Nat.le_of_ble_eq_true rfl) hR0.2.1, by omega, by omega⟩ rfl (Nat.le_of_ble_eq_true rfl) dL_law_1642 rfl (fun v1 i2 r3 hv4 hi5 hw6 hq7 => ?_)
  have h := hq7
  refine V.aload_n (pc := 1645) hG dL_law_1645 rfl 2 rfl ?_
  refine V.callVi (pc := 1646) (As := []) (stk := [.int (sJ v1)]) hG (sm_X12_cycles l Δ  hi5 hw6 h) mY_X12_cycles kw_2173 kw_2174 kw_2175 a_504 (by decide) (q := (RX12, TX12, 49)) rfl rfl ⟨Nat.le_trans (Nat.le_of_ble_eq_true rfl) hR0.1, Nat.le_trans (Nat.le_of_ble_eq_true rfl) hR0.2.1, by omega, by omega⟩ rfl (Nat.le_of_ble_eq_true rfl) dL_law_1646 rfl (fun v8 i9 r10 hv11 hi12 hw13 hq14 => ?_)
  obtain ⟨e19, h⟩ := hq14
  subst e19
  obtain ⟨t16, f17⟩ := h
  refine V.icmp_eq (pc := 1649) (tgt := 2281) hG hv4 hv11 dL_law_1649 (by decide) (fun c15 => ?_) (fun c15 => ?_)
  · have h := t16 c15
    clear t16 f17
    exact kk i9 r3 hi12 hw6 h
  · have h := f17 c15
    clear t16 f17
    refine V.iconst (pc := 1652) hG dL_law_1652 ?_
    exact h.elim
set_option maxRecDepth 100000 in
set_option maxHeartbeats 4000000 in
theorem lc_34 {Γ : Cx} {Δ : Wd} {l : Launch} {R : Room} {Q0 : State → Prop} {b : Nat} {xs : Nat → Int32} {L : Nat} {x5 : Int} {kc sl : Nat} {C : MI → MI → Prop} {i r : MI} (hst : l.stackTraces = false) (hG : okG Γ Δ l R cL_law "SchedularyLaw" 9) (hX : okS Γ Δ b L xs) (hR0 : 20 ≤ R.frames ∧ 10000 ≤ R.locals ∧ kc + 3 ≤ R.cells ∧ sl + 18 ≤ R.slots) (hx5 : sR x5) (hi : okI i) (hw : Wf r) (h : wc_34 xs L C x5 i r)
    (kk : ∀ i' r' : MI, okI i' → Wf r' → C i' r' → V Γ Δ 542 false i' r' (kc + 3) (sl + 18) Q0 2281 [(0, .ref b), (1, .ref (sA Δ 0)), (2, .ref (sA Δ 504)), (3, .ref (sA Δ 540)), (4, .ref (sA Δ 541)), (5, .int (sJ x5))] []) : V Γ Δ 542 false i r kc sl Q0 1654 [(0, .ref b), (1, .ref (sA Δ 0)), (2, .ref (sA Δ 504)), (3, .ref (sA Δ 540)), (4, .ref (sA Δ 541)), (5, .int (sJ x5))] [] := by
  refine V.ks (kc2 := kc + 3) (sl2 := sl + 18) (by omega) (by omega) ?_
  unfold wc_34 at h
  refine V.aload_n (pc := 1654) hG dL_law_1654 rfl 1 rfl ?_
  refine V.callVi (pc := 1655) (As := []) (stk := []) hG (sm_X11_oneByOne l Δ  hi hw h) mY_X11_oneByOne kw_1154 kw_1155 kw_1156 a_0 (by decide) (q := (RX11, TX11, 11)) rfl rfl ⟨Nat.le_trans (Nat.le_of_ble_eq_true rfl) hR0.1, Nat.le_trans (Nat.le_of_ble_eq_true rfl) hR0.2.1, by omega, by omega⟩ rfl (Nat.le_of_ble_eq_true rfl) dL_law_1655 rfl (fun v1 i2 r3 hv4 hi5 hw6 hq7 => ?_)
  have h := hq7
  refine V.aload_n (pc := 1658) hG dL_law_1658 rfl 2 rfl ?_
  refine V.callVi (pc := 1659) (As := []) (stk := [.int (sJ v1)]) hG (sm_X12_oneByOne l Δ  hi5 hw6 h) mY_X12_oneByOne kw_2181 kw_2182 kw_2183 a_504 (by decide) (q := (RX12, TX12, 49)) rfl rfl ⟨Nat.le_trans (Nat.le_of_ble_eq_true rfl) hR0.1, Nat.le_trans (Nat.le_of_ble_eq_true rfl) hR0.2.1, by omega, by omega⟩ rfl (Nat.le_of_ble_eq_true rfl) dL_law_1659 rfl (fun v8 i9 r10 hv11 hi12 hw13 hq14 => ?_)
  obtain ⟨e19, h⟩ := hq14
  subst e19
  obtain ⟨t16, f17⟩ := h
  refine V.icmp_eq (pc := 1662) (tgt := 2281) hG hv4 hv11 dL_law_1662 (by decide) (fun c15 => ?_) (fun c15 => ?_)
  · have h := t16 c15
    clear t16 f17
    exact kk i9 r3 hi12 hw6 h
  · have h := f17 c15
    clear t16 f17
    refine V.iconst (pc := 1665) hG dL_law_1665 ?_
    exact h.elim
set_option maxRecDepth 100000 in
set_option maxHeartbeats 4000000 in
theorem lc_35 {Γ : Cx} {Δ : Wd} {l : Launch} {R : Room} {Q0 : State → Prop} {b : Nat} {xs : Nat → Int32} {L : Nat} {x5 : Int} {kc sl : Nat} {C : MI → MI → Prop} {i r : MI} (hst : l.stackTraces = false) (hG : okG Γ Δ l R cL_law "SchedularyLaw" 9) (hX : okS Γ Δ b L xs) (hR0 : 20 ≤ R.frames ∧ 10000 ≤ R.locals ∧ kc + 3 ≤ R.cells ∧ sl + 18 ≤ R.slots) (hx5 : sR x5) (hi : okI i) (hw : Wf r) (h : wc_35 xs L C x5 i r)
    (kk : ∀ i' r' : MI, okI i' → Wf r' → C i' r' → V Γ Δ 542 false i' r' (kc + 3) (sl + 18) Q0 2281 [(0, .ref b), (1, .ref (sA Δ 0)), (2, .ref (sA Δ 504)), (3, .ref (sA Δ 540)), (4, .ref (sA Δ 541)), (5, .int (sJ x5))] []) : V Γ Δ 542 false i r kc sl Q0 1667 [(0, .ref b), (1, .ref (sA Δ 0)), (2, .ref (sA Δ 504)), (3, .ref (sA Δ 540)), (4, .ref (sA Δ 541)), (5, .int (sJ x5))] [] := by
  refine V.ks (kc2 := kc + 3) (sl2 := sl + 18) (by omega) (by omega) ?_
  unfold wc_35 at h
  refine V.aload_n (pc := 1667) hG dL_law_1667 rfl 1 rfl ?_
  refine V.callVi (pc := 1668) (As := []) (stk := []) hG (sm_X11_circuitOutputs l Δ  hi hw h) mY_X11_circuitOutputs kw_1159 kw_1160 kw_1161 a_0 (by decide) (q := (RX11, TX11, 11)) rfl rfl ⟨Nat.le_trans (Nat.le_of_ble_eq_true rfl) hR0.1, Nat.le_trans (Nat.le_of_ble_eq_true rfl) hR0.2.1, by omega, by omega⟩ rfl (Nat.le_of_ble_eq_true rfl) dL_law_1668 rfl (fun v1 i2 r3 hv4 hi5 hw6 hq7 => ?_)
  have h := hq7
  refine V.aload_n (pc := 1671) hG dL_law_1671 rfl 2 rfl ?_
  refine V.callVi (pc := 1672) (As := []) (stk := [.int (sJ v1)]) hG (sm_X12_circuitOutputs l Δ  hi5 hw6 h) mY_X12_circuitOutputs kw_2185 kw_2186 kw_2187 a_504 (by decide) (q := (RX12, TX12, 49)) rfl rfl ⟨Nat.le_trans (Nat.le_of_ble_eq_true rfl) hR0.1, Nat.le_trans (Nat.le_of_ble_eq_true rfl) hR0.2.1, by omega, by omega⟩ rfl (Nat.le_of_ble_eq_true rfl) dL_law_1672 rfl (fun v8 i9 r10 hv11 hi12 hw13 hq14 => ?_)
  obtain ⟨e19, h⟩ := hq14
  subst e19
  obtain ⟨t16, f17⟩ := h
  refine V.icmp_eq (pc := 1675) (tgt := 2281) hG hv4 hv11 dL_law_1675 (by decide) (fun c15 => ?_) (fun c15 => ?_)
  · have h := t16 c15
    clear t16 f17
    exact kk i9 r3 hi12 hw6 h
  · have h := f17 c15
    clear t16 f17
    refine V.iconst (pc := 1678) hG dL_law_1678 ?_
    exact h.elim
set_option maxRecDepth 100000 in
set_option maxHeartbeats 4000000 in
theorem lc_36 {Γ : Cx} {Δ : Wd} {l : Launch} {R : Room} {Q0 : State → Prop} {b : Nat} {xs : Nat → Int32} {L : Nat} {x5 : Int} {kc sl : Nat} {C : MI → MI → Prop} {i r : MI} (hst : l.stackTraces = false) (hG : okG Γ Δ l R cL_law "SchedularyLaw" 9) (hX : okS Γ Δ b L xs) (hR0 : 20 ≤ R.frames ∧ 10000 ≤ R.locals ∧ kc + 3 ≤ R.cells ∧ sl + 18 ≤ R.slots) (hx5 : sR x5) (hi : okI i) (hw : Wf r) (h : wc_36 xs L C x5 i r)
    (kk : ∀ i' r' : MI, okI i' → Wf r' → C i' r' → V Γ Δ 542 false i' r' (kc + 3) (sl + 18) Q0 2281 [(0, .ref b), (1, .ref (sA Δ 0)), (2, .ref (sA Δ 504)), (3, .ref (sA Δ 540)), (4, .ref (sA Δ 541)), (5, .int (sJ x5))] []) : V Γ Δ 542 false i r kc sl Q0 1680 [(0, .ref b), (1, .ref (sA Δ 0)), (2, .ref (sA Δ 504)), (3, .ref (sA Δ 540)), (4, .ref (sA Δ 541)), (5, .int (sJ x5))] [] := by
  unfold wc_36 at h
  have jn1733 : ∀  (ij1733 : MI) (rj1733 : MI), okI ij1733 → Wf rj1733 → s1733_LC36 x5 ij1733 rj1733 xs L C → V Γ Δ 542 false ij1733 rj1733 (kc + 3) (sl + 18) Q0 1733 [(0, .ref b), (1, .ref (sA Δ 0)), (2, .ref (sA Δ 504)), (3, .ref (sA Δ 540)), (4, .ref (sA Δ 541)), (5, .int (sJ x5))] [] := by
    intro ij1733 rj1733 hij1733 hwj1733 h
    refine V.goto (pc := 1733) (tgt := 2281) hG dL_law_1733 (by decide) ?_
    refine V.ks (kc2 := kc + 3) (sl2 := sl + 18) (by omega) (by omega) ?_
    exact kk ij1733 rj1733 hij1733 hwj1733 h
  refine V.aload_n (pc := 1680) hG dL_law_1680 rfl 1 rfl ?_
  refine V.aload_n (pc := 1681) hG dL_law_1681 rfl 0 rfl ?_
  refine V.iload (pc := 1682) hG dL_law_1682 5 rfl ?_
  refine V.iconst (pc := 1684) hG dL_law_1684 ?_
  refine V.iadd (pc := 1685) hG dL_law_1685 ?_
  obtain ⟨g1, h⟩ := h
  refine V.sld (pc := 1686) hG hX ((sR_wr _)) g1 dL_law_1686 ?_
  refine V.aload_n (pc := 1687) hG dL_law_1687 rfl 3 rfl ?_
  refine V.callSWi (pc := 1688) (na := 3) (As := [.ref (sA Δ 0), .int (sJ (sv xs (wr (x5 + 1)))), .ref (sA Δ 540)]) (stk := []) hG (sm_L_circuitOutput l Δ ((sR_sv _ _)) hst hi hw h) kw_157 kl_L_circuitOutput (by decide) (by decide +kernel) kw_1594 kw_1595 ⟨Nat.le_trans (Nat.le_of_ble_eq_true rfl) hR0.1, Nat.le_trans (Nat.le_of_ble_eq_true rfl) hR0.2.1, by omega, by omega⟩ rfl (Nat.le_of_ble_eq_true rfl) dL_law_1688 rfl (fun v2 i3 r4 hv5 hi6 hw7 hq8 => ?_)
  have h := hq8
  refine V.ks (kc2 := kc + 3) (sl2 := sl + 18) (by omega) (by omega) ?_
  refine V.istore (pc := 1691) (lv' := [(6, .int (sJ v2)), (0, .ref b), (1, .ref (sA Δ 0)), (2, .ref (sA Δ 504)), (3, .ref (sA Δ 540)), (4, .ref (sA Δ 541)), (5, .int (sJ x5))]) hG dL_law_1691 (by decide) rfl ?_
  refine V.aload_n (pc := 1693) hG dL_law_1693 rfl 3 rfl ?_
  refine V.aload_n (pc := 1694) hG dL_law_1694 rfl 1 rfl ?_
  refine V.iload (pc := 1695) hG dL_law_1695 6 rfl ?_
  refine V.iconst (pc := 1697) hG dL_law_1697 ?_
  refine V.iadd (pc := 1698) hG dL_law_1698 ?_
  obtain ⟨g9, h⟩ := h
  refine V.sld (pc := 1699) hG hX ((sR_wr _)) g9 dL_law_1699 ?_
  refine V.callVi (pc := 1700) (As := [.int (sJ (sv xs (wr (x5 + 1))))]) (stk := []) hG (sm_X12_circuitOutput l Δ ((sR_sv _ _)) hi6 hw7 h) mY_X12_circuitOutput kw_2213 kw_2214 kw_2215 a_504 (by decide) (q := (RX12, TX12, 49)) rfl rfl ⟨Nat.le_trans (Nat.le_of_ble_eq_true rfl) hR0.1, Nat.le_trans (Nat.le_of_ble_eq_true rfl) hR0.2.1, by omega, by omega⟩ rfl (Nat.le_of_ble_eq_true rfl) dL_law_1700 rfl (fun v10 i11 r12 hv13 hi14 hw15 hq16 => ?_)
  obtain ⟨e36, h⟩ := hq16
  subst e36
  refine V.istore (pc := 1703) (lv' := [(7, .int (sJ v10)), (6, .int (sJ v2)), (0, .ref b), (1, .ref (sA Δ 0)), (2, .ref (sA Δ 504)), (3, .ref (sA Δ 540)), (4, .ref (sA Δ 541)), (5, .int (sJ x5))]) hG dL_law_1703 (by decide) rfl ?_
  refine V.aload_n (pc := 1705) hG dL_law_1705 rfl 4 rfl ?_
  refine V.callVi (pc := 1706) (As := []) (stk := []) hG (sm_X12_thrown l Δ  hi14 hw7 h) mY_X12_thrown kw_1840 kw_1841 kw_1842 a_504 (by decide) (q := (RX12, TX12, 49)) rfl rfl ⟨Nat.le_trans (Nat.le_of_ble_eq_true rfl) hR0.1, Nat.le_trans (Nat.le_of_ble_eq_true rfl) hR0.2.1, by omega, by omega⟩ rfl (Nat.le_of_ble_eq_true rfl) dL_law_1706 rfl (fun v17 i18 r19 hv20 hi21 hw22 hq23 => ?_)
  obtain ⟨e33, e34, h⟩ := hq23
  subst e33
  subst e34
  refine V.iload (pc := 1709) hG dL_law_1709 1 rfl ?_
  obtain ⟨t25, f26⟩ := h
  refine V.icmp_eq (pc := 1711) (tgt := 1716) hG hv20 hv5 dL_law_1711 (by decide) (fun c24 => ?_) (fun c24 => ?_)
  · have h := t25 c24
    clear t25 f26
    refine V.iload (pc := 1716) hG dL_law_1716 1 rfl ?_
    obtain ⟨f29, t28⟩ := h
    refine V.if_ne (pc := 1718) (tgt := 1733) hG hv5 dL_law_1718 (by decide) (fun c27 => ?_) (fun c27 => ?_)
    · have h := t28 c27
      clear t28 f29
      refine V.pick [2, 3, 4, 5, 6, 7] rfl ?_
      exact jn1733 i11 r4 hi14 hw7 h
    · have h := f29 c27
      clear t28 f29
      refine V.aload_n (pc := 1721) hG dL_law_1721 rfl 5 rfl ?_
      refine V.iconst (pc := 1722) hG dL_law_1722 ?_
      refine V.lald0 (pc := 1723) (z := 1) (o := 540) hG a_540 a_540.n (by decide) dL_law_1723 ?_
      refine V.iload (pc := 1724) hG dL_law_1724 0 rfl ?_
      refine V.i2l (pc := 1726) hG dL_law_1726 ?_
      refine V.lcmp (pc := 1727) hG dL_law_1727 ?_
      obtain ⟨t31, f32⟩ := h
      refine V.if_eq (pc := 1728) (tgt := 1733) hG ((sR_of _)) dL_law_1728 (by decide) (fun c30 => ?_) (fun c30 => ?_)
      · have h := t31 c30
        clear t31 f32
        refine V.pick [2, 3, 4, 5, 6, 7] rfl ?_
        exact jn1733 i11 r4 hi14 hw7 h
      · have h := f32 c30
        clear t31 f32
        refine V.iconst (pc := 1731) hG dL_law_1731 ?_
        exact h.elim
  · have h := f26 c24
    clear t25 f26
    refine V.iconst (pc := 1714) hG dL_law_1714 ?_
    exact h.elim
set_option maxRecDepth 100000 in
set_option maxHeartbeats 4000000 in
theorem lc_37 {Γ : Cx} {Δ : Wd} {l : Launch} {R : Room} {Q0 : State → Prop} {b : Nat} {xs : Nat → Int32} {L : Nat} {x5 : Int} {kc sl : Nat} {C : MI → MI → Prop} {i r : MI} (hst : l.stackTraces = false) (hG : okG Γ Δ l R cL_law "SchedularyLaw" 9) (hX : okS Γ Δ b L xs) (hR0 : 20 ≤ R.frames ∧ 10000 ≤ R.locals ∧ kc + 3 ≤ R.cells ∧ sl + 18 ≤ R.slots) (hx5 : sR x5) (hi : okI i) (hw : Wf r) (h : wc_37 xs L C x5 i r)
    (kk : ∀ i' r' : MI, okI i' → Wf r' → C i' r' → V Γ Δ 542 false i' r' (kc + 3) (sl + 18) Q0 2281 [(0, .ref b), (1, .ref (sA Δ 0)), (2, .ref (sA Δ 504)), (3, .ref (sA Δ 540)), (4, .ref (sA Δ 541)), (5, .int (sJ x5))] []) : V Γ Δ 542 false i r kc sl Q0 1736 [(0, .ref b), (1, .ref (sA Δ 0)), (2, .ref (sA Δ 504)), (3, .ref (sA Δ 540)), (4, .ref (sA Δ 541)), (5, .int (sJ x5))] [] := by
  unfold wc_37 at h
  have jn1803 : ∀  (ij1803 : MI) (rj1803 : MI), okI ij1803 → Wf rj1803 → s1803_LC37 x5 ij1803 rj1803 xs L C → V Γ Δ 542 false ij1803 rj1803 (kc + 3) (sl + 18) Q0 1803 [(0, .ref b), (1, .ref (sA Δ 0)), (2, .ref (sA Δ 504)), (3, .ref (sA Δ 540)), (4, .ref (sA Δ 541)), (5, .int (sJ x5))] [] := by
    intro ij1803 rj1803 hij1803 hwj1803 h
    refine V.goto (pc := 1803) (tgt := 2281) hG dL_law_1803 (by decide) ?_
    refine V.ks (kc2 := kc + 3) (sl2 := sl + 18) (by omega) (by omega) ?_
    exact kk ij1803 rj1803 hij1803 hwj1803 h
  refine V.aload_n (pc := 1736) hG dL_law_1736 rfl 1 rfl ?_
  refine V.aload_n (pc := 1737) hG dL_law_1737 rfl 0 rfl ?_
  refine V.iload (pc := 1738) hG dL_law_1738 5 rfl ?_
  refine V.iconst (pc := 1740) hG dL_law_1740 ?_
  refine V.iadd (pc := 1741) hG dL_law_1741 ?_
  obtain ⟨g1, h⟩ := h
  refine V.sld (pc := 1742) hG hX ((sR_wr _)) g1 dL_law_1742 ?_
  refine V.i2c (pc := 1743) hG ((sR_sv _ _)) dL_law_1743 ?_
  refine V.aload_n (pc := 1744) hG dL_law_1744 rfl 0 rfl ?_
  refine V.iload (pc := 1745) hG dL_law_1745 5 rfl ?_
  refine V.iconst (pc := 1747) hG dL_law_1747 ?_
  refine V.iadd (pc := 1748) hG dL_law_1748 ?_
  obtain ⟨g2, h⟩ := h
  refine V.sld (pc := 1749) hG hX ((sR_wr _)) g2 dL_law_1749 ?_
  refine V.aload_n (pc := 1750) hG dL_law_1750 rfl 3 rfl ?_
  refine V.callSWi (pc := 1751) (na := 4) (As := [.ref (sA Δ 0), .int (sJ (((sv xs (wr (x5 + 1)))) % 65536)), .int (sJ (sv xs (wr (x5 + 2)))), .ref (sA Δ 540)]) (stk := []) hG (sm_L_circuitMemory l Δ sR_c ((sR_sv _ _)) hst hi hw h) kw_157 kl_L_circuitMemory (by decide) (by decide +kernel) kw_1601 kw_1602 ⟨Nat.le_trans (Nat.le_of_ble_eq_true rfl) hR0.1, Nat.le_trans (Nat.le_of_ble_eq_true rfl) hR0.2.1, by omega, by omega⟩ rfl (Nat.le_of_ble_eq_true rfl) dL_law_1751 rfl (fun v3 i4 r5 hv6 hi7 hw8 hq9 => ?_)
  have h := hq9
  refine V.ks (kc2 := kc + 3) (sl2 := sl + 18) (by omega) (by omega) ?_
  refine V.istore (pc := 1754) (lv' := [(6, .int (sJ v3)), (0, .ref b), (1, .ref (sA Δ 0)), (2, .ref (sA Δ 504)), (3, .ref (sA Δ 540)), (4, .ref (sA Δ 541)), (5, .int (sJ x5))]) hG dL_law_1754 (by decide) rfl ?_
  refine V.aload_n (pc := 1756) hG dL_law_1756 rfl 3 rfl ?_
  refine V.aload_n (pc := 1757) hG dL_law_1757 rfl 1 rfl ?_
  refine V.iload (pc := 1758) hG dL_law_1758 6 rfl ?_
  refine V.iconst (pc := 1760) hG dL_law_1760 ?_
  refine V.iadd (pc := 1761) hG dL_law_1761 ?_
  obtain ⟨g10, h⟩ := h
  refine V.sld (pc := 1762) hG hX ((sR_wr _)) g10 dL_law_1762 ?_
  refine V.i2c (pc := 1763) hG ((sR_sv _ _)) dL_law_1763 ?_
  refine V.aload_n (pc := 1764) hG dL_law_1764 rfl 1 rfl ?_
  refine V.iload (pc := 1765) hG dL_law_1765 6 rfl ?_
  refine V.iconst (pc := 1767) hG dL_law_1767 ?_
  refine V.iadd (pc := 1768) hG dL_law_1768 ?_
  obtain ⟨g11, h⟩ := h
  refine V.sld (pc := 1769) hG hX ((sR_wr _)) g11 dL_law_1769 ?_
  refine V.callVi (pc := 1770) (As := [.int (sJ (((sv xs (wr (x5 + 1)))) % 65536)), .int (sJ (sv xs (wr (x5 + 2))))]) (stk := []) hG (sm_X12_circuitMemory l Δ sR_c ((sR_sv _ _)) hi7 hw8 h) mY_X12_circuitMemory kw_2217 kw_2218 kw_2219 a_504 (by decide) (q := (RX12, TX12, 49)) rfl rfl ⟨Nat.le_trans (Nat.le_of_ble_eq_true rfl) hR0.1, Nat.le_trans (Nat.le_of_ble_eq_true rfl) hR0.2.1, by omega, by omega⟩ rfl (Nat.le_of_ble_eq_true rfl) dL_law_1770 rfl (fun v12 i13 r14 hv15 hi16 hw17 hq18 => ?_)
  obtain ⟨e38, h⟩ := hq18
  subst e38
  refine V.istore (pc := 1773) (lv' := [(7, .int (sJ v12)), (6, .int (sJ v3)), (0, .ref b), (1, .ref (sA Δ 0)), (2, .ref (sA Δ 504)), (3, .ref (sA Δ 540)), (4, .ref (sA Δ 541)), (5, .int (sJ x5))]) hG dL_law_1773 (by decide) rfl ?_
  refine V.aload_n (pc := 1775) hG dL_law_1775 rfl 4 rfl ?_
  refine V.callVi (pc := 1776) (As := []) (stk := []) hG (sm_X12_thrown l Δ  hi16 hw8 h) mY_X12_thrown kw_1840 kw_1841 kw_1842 a_504 (by decide) (q := (RX12, TX12, 49)) rfl rfl ⟨Nat.le_trans (Nat.le_of_ble_eq_true rfl) hR0.1, Nat.le_trans (Nat.le_of_ble_eq_true rfl) hR0.2.1, by omega, by omega⟩ rfl (Nat.le_of_ble_eq_true rfl) dL_law_1776 rfl (fun v19 i20 r21 hv22 hi23 hw24 hq25 => ?_)
  obtain ⟨e35, e36, h⟩ := hq25
  subst e35
  subst e36
  refine V.iload (pc := 1779) hG dL_law_1779 1 rfl ?_
  obtain ⟨t27, f28⟩ := h
  refine V.icmp_eq (pc := 1781) (tgt := 1786) hG hv22 hv6 dL_law_1781 (by decide) (fun c26 => ?_) (fun c26 => ?_)
  · have h := t27 c26
    clear t27 f28
    refine V.iload (pc := 1786) hG dL_law_1786 1 rfl ?_
    obtain ⟨f31, t30⟩ := h
    refine V.if_ne (pc := 1788) (tgt := 1803) hG hv6 dL_law_1788 (by decide) (fun c29 => ?_) (fun c29 => ?_)
    · have h := t30 c29
      clear t30 f31
      refine V.pick [2, 3, 4, 5, 6, 7] rfl ?_
      exact jn1803 i13 r5 hi16 hw8 h
    · have h := f31 c29
      clear t30 f31
      refine V.aload_n (pc := 1791) hG dL_law_1791 rfl 5 rfl ?_
      refine V.iconst (pc := 1792) hG dL_law_1792 ?_
      refine V.lald0 (pc := 1793) (z := 1) (o := 540) hG a_540 a_540.n (by decide) dL_law_1793 ?_
      refine V.iload (pc := 1794) hG dL_law_1794 0 rfl ?_
      refine V.i2l (pc := 1796) hG dL_law_1796 ?_
      refine V.lcmp (pc := 1797) hG dL_law_1797 ?_
      obtain ⟨t33, f34⟩ := h
      refine V.if_eq (pc := 1798) (tgt := 1803) hG ((sR_of _)) dL_law_1798 (by decide) (fun c32 => ?_) (fun c32 => ?_)
      · have h := t33 c32
        clear t33 f34
        refine V.pick [2, 3, 4, 5, 6, 7] rfl ?_
        exact jn1803 i13 r5 hi16 hw8 h
      · have h := f34 c32
        clear t33 f34
        refine V.iconst (pc := 1801) hG dL_law_1801 ?_
        exact h.elim
  · have h := f28 c26
    clear t27 f28
    refine V.iconst (pc := 1784) hG dL_law_1784 ?_
    exact h.elim
set_option maxRecDepth 100000 in
set_option maxHeartbeats 4000000 in
theorem lc_38 {Γ : Cx} {Δ : Wd} {l : Launch} {R : Room} {Q0 : State → Prop} {b : Nat} {xs : Nat → Int32} {L : Nat} {x5 : Int} {kc sl : Nat} {C : MI → MI → Prop} {i r : MI} (hst : l.stackTraces = false) (hG : okG Γ Δ l R cL_law "SchedularyLaw" 9) (hX : okS Γ Δ b L xs) (hR0 : 20 ≤ R.frames ∧ 10000 ≤ R.locals ∧ kc + 3 ≤ R.cells ∧ sl + 18 ≤ R.slots) (hx5 : sR x5) (hi : okI i) (hw : Wf r) (h : wc_38 xs L C x5 i r)
    (kk : ∀ i' r' : MI, okI i' → Wf r' → C i' r' → V Γ Δ 542 false i' r' (kc + 3) (sl + 18) Q0 2281 [(0, .ref b), (1, .ref (sA Δ 0)), (2, .ref (sA Δ 504)), (3, .ref (sA Δ 540)), (4, .ref (sA Δ 541)), (5, .int (sJ x5))] []) : V Γ Δ 542 false i r kc sl Q0 1806 [(0, .ref b), (1, .ref (sA Δ 0)), (2, .ref (sA Δ 504)), (3, .ref (sA Δ 540)), (4, .ref (sA Δ 541)), (5, .int (sJ x5))] [] := by
  refine V.ks (kc2 := kc + 3) (sl2 := sl + 18) (by omega) (by omega) ?_
  unfold wc_38 at h
  refine V.aload_n (pc := 1806) hG dL_law_1806 rfl 1 rfl ?_
  refine V.callVi (pc := 1807) (As := []) (stk := []) hG (sm_X11_isSame l Δ  hi hw h) mY_X11_isSame kw_1163 kw_1164 kw_1165 a_0 (by decide) (q := (RX11, TX11, 11)) rfl rfl ⟨Nat.le_trans (Nat.le_of_ble_eq_true rfl) hR0.1, Nat.le_trans (Nat.le_of_ble_eq_true rfl) hR0.2.1, by omega, by omega⟩ rfl (Nat.le_of_ble_eq_true rfl) dL_law_1807 rfl (fun v1 i2 r3 hv4 hi5 hw6 hq7 => ?_)
  have h := hq7
  refine V.aload_n (pc := 1810) hG dL_law_1810 rfl 2 rfl ?_
  refine V.callVi (pc := 1811) (As := []) (stk := [.int (sJ v1)]) hG (sm_X12_isSame l Δ  hi5 hw6 h) mY_X12_isSame kw_2221 kw_2222 kw_2223 a_504 (by decide) (q := (RX12, TX12, 49)) rfl rfl ⟨Nat.le_trans (Nat.le_of_ble_eq_true rfl) hR0.1, Nat.le_trans (Nat.le_of_ble_eq_true rfl) hR0.2.1, by omega, by omega⟩ rfl (Nat.le_of_ble_eq_true rfl) dL_law_1811 rfl (fun v8 i9 r10 hv11 hi12 hw13 hq14 => ?_)
  obtain ⟨e19, h⟩ := hq14
  subst e19
  obtain ⟨t16, f17⟩ := h
  refine V.icmp_eq (pc := 1814) (tgt := 2281) hG hv4 hv11 dL_law_1814 (by decide) (fun c15 => ?_) (fun c15 => ?_)
  · have h := t16 c15
    clear t16 f17
    exact kk i9 r3 hi12 hw6 h
  · have h := f17 c15
    clear t16 f17
    refine V.iconst (pc := 1817) hG dL_law_1817 ?_
    exact h.elim
set_option maxRecDepth 100000 in
set_option maxHeartbeats 4000000 in
theorem lc_39 {Γ : Cx} {Δ : Wd} {l : Launch} {R : Room} {Q0 : State → Prop} {b : Nat} {xs : Nat → Int32} {L : Nat} {x5 : Int} {kc sl : Nat} {C : MI → MI → Prop} {i r : MI} (hst : l.stackTraces = false) (hG : okG Γ Δ l R cL_law "SchedularyLaw" 9) (hX : okS Γ Δ b L xs) (hR0 : 20 ≤ R.frames ∧ 10000 ≤ R.locals ∧ kc + 3 ≤ R.cells ∧ sl + 18 ≤ R.slots) (hx5 : sR x5) (hi : okI i) (hw : Wf r) (h : wc_39 xs L C x5 i r)
    (kk : ∀ i' r' : MI, okI i' → Wf r' → C i' r' → V Γ Δ 542 false i' r' (kc + 3) (sl + 18) Q0 2281 [(0, .ref b), (1, .ref (sA Δ 0)), (2, .ref (sA Δ 504)), (3, .ref (sA Δ 540)), (4, .ref (sA Δ 541)), (5, .int (sJ x5))] []) : V Γ Δ 542 false i r kc sl Q0 1819 [(0, .ref b), (1, .ref (sA Δ 0)), (2, .ref (sA Δ 504)), (3, .ref (sA Δ 540)), (4, .ref (sA Δ 541)), (5, .int (sJ x5))] [] := by
  unfold wc_39 at h
  have jn1912 : ∀  (ij1912 : MI), okI ij1912 → s1912_LC39 x5 ij1912 r xs L C → V Γ Δ 542 false ij1912 r (kc + 3) (sl + 18) Q0 1912 [(0, .ref b), (1, .ref (sA Δ 0)), (2, .ref (sA Δ 504)), (3, .ref (sA Δ 540)), (4, .ref (sA Δ 541)), (5, .int (sJ x5))] [] := by
    intro ij1912 hij1912 h
    refine V.goto (pc := 1912) (tgt := 2281) hG dL_law_1912 (by decide) ?_
    refine V.ks (kc2 := kc + 3) (sl2 := sl + 18) (by omega) (by omega) ?_
    exact kk ij1912 r hij1912 hw h
  have jn1879 : ∀ (x6j1879 : Int) (k1j1879 : Int) (k2j1879 : Int) (k3j1879 : Int) (ij1879 : MI), sR x6j1879 → sR k1j1879 → sR k2j1879 → sR k3j1879 → okI ij1879 → s1879_LC39 x5 x6j1879 k1j1879 k2j1879 k3j1879 ij1879 r xs L C → V Γ Δ 542 false ij1879 r (kc + 3) (sl + 18) Q0 1879 [(0, .ref b), (1, .ref (sA Δ 0)), (2, .ref (sA Δ 504)), (3, .ref (sA Δ 540)), (4, .ref (sA Δ 541)), (5, .int (sJ x5)), (6, .int (sJ x6j1879))] [.int (sJ k3j1879), .int (sJ k2j1879), .int (sJ k1j1879), .ref (sA Δ 504)] := by
    intro x6j1879 k1j1879 k2j1879 k3j1879 ij1879 hx6j1879 hk1j1879 hk2j1879 hk3j1879 hij1879 h
    refine V.callVi (pc := 1879) (As := [.int (sJ k1j1879), .int (sJ k2j1879), .int (sJ k3j1879)]) (stk := []) hG (sm_X12_action l Δ hk1j1879 hk2j1879 hk3j1879 hij1879 hw h) mY_X12_action kw_2225 kw_2226 kw_2227 a_504 (by decide) (q := (RX12, TX12, 49)) rfl rfl ⟨Nat.le_trans (Nat.le_of_ble_eq_true rfl) hR0.1, Nat.le_trans (Nat.le_of_ble_eq_true rfl) hR0.2.1, by omega, by omega⟩ rfl (Nat.le_of_ble_eq_true rfl) dL_law_1879 rfl (fun v28 i29 r30 hv31 hi32 hw33 hq34 => ?_)
    obtain ⟨e54, h⟩ := hq34
    subst e54
    refine V.istore (pc := 1882) (lv' := [(7, .int (sJ v28)), (0, .ref b), (1, .ref (sA Δ 0)), (2, .ref (sA Δ 504)), (3, .ref (sA Δ 540)), (4, .ref (sA Δ 541)), (5, .int (sJ x5)), (6, .int (sJ x6j1879))]) hG dL_law_1882 (by decide) rfl ?_
    refine V.aload_n (pc := 1884) hG dL_law_1884 rfl 3 rfl ?_
    refine V.callVi (pc := 1885) (As := []) (stk := []) hG (sm_X12_thrown l Δ  hi32 hw h) mY_X12_thrown kw_1840 kw_1841 kw_1842 a_504 (by decide) (q := (RX12, TX12, 49)) rfl rfl ⟨Nat.le_trans (Nat.le_of_ble_eq_true rfl) hR0.1, Nat.le_trans (Nat.le_of_ble_eq_true rfl) hR0.2.1, by omega, by omega⟩ rfl (Nat.le_of_ble_eq_true rfl) dL_law_1885 rfl (fun v35 i36 r37 hv38 hi39 hw40 hq41 => ?_)
    obtain ⟨e51, e52, h⟩ := hq41
    subst e51
    subst e52
    refine V.iload (pc := 1888) hG dL_law_1888 7 rfl ?_
    obtain ⟨t43, f44⟩ := h
    refine V.icmp_eq (pc := 1890) (tgt := 1895) hG hv38 hx6j1879 dL_law_1890 (by decide) (fun c42 => ?_) (fun c42 => ?_)
    · have h := t43 c42
      clear t43 f44
      refine V.iload (pc := 1895) hG dL_law_1895 7 rfl ?_
      obtain ⟨f47, t46⟩ := h
      refine V.if_ne (pc := 1897) (tgt := 1912) hG hx6j1879 dL_law_1897 (by decide) (fun c45 => ?_) (fun c45 => ?_)
      · have h := t46 c45
        clear t46 f47
        refine V.pick [1, 2, 3, 4, 5, 6] rfl ?_
        exact jn1912 i29 hi32 h
      · have h := f47 c45
        clear t46 f47
        refine V.aload_n (pc := 1900) hG dL_law_1900 rfl 4 rfl ?_
        refine V.iconst (pc := 1901) hG dL_law_1901 ?_
        refine V.lald0 (pc := 1902) (z := 1) (o := 540) hG a_540 a_540.n (by decide) dL_law_1902 ?_
        refine V.iload (pc := 1903) hG dL_law_1903 0 rfl ?_
        refine V.i2l (pc := 1905) hG dL_law_1905 ?_
        refine V.lcmp (pc := 1906) hG dL_law_1906 ?_
        obtain ⟨t49, f50⟩ := h
        refine V.if_eq (pc := 1907) (tgt := 1912) hG ((sR_of _)) dL_law_1907 (by decide) (fun c48 => ?_) (fun c48 => ?_)
        · have h := t49 c48
          clear t49 f50
          refine V.pick [1, 2, 3, 4, 5, 6] rfl ?_
          exact jn1912 i29 hi32 h
        · have h := f50 c48
          clear t49 f50
          refine V.iconst (pc := 1910) hG dL_law_1910 ?_
          exact h.elim
    · have h := f44 c42
      clear t43 f44
      refine V.iconst (pc := 1893) hG dL_law_1893 ?_
      exact h.elim
  have jn1846 : ∀ (k1j1846 : Int) (k2j1846 : Int) (k3j1846 : Int) (ij1846 : MI), sR k1j1846 → sR k2j1846 → sR k3j1846 → okI ij1846 → s1846_LC39 x5 k1j1846 k2j1846 k3j1846 ij1846 r xs L C → V Γ Δ 542 false ij1846 r kc sl Q0 1846 [(0, .ref b), (1, .ref (sA Δ 0)), (2, .ref (sA Δ 504)), (3, .ref (sA Δ 540)), (4, .ref (sA Δ 541)), (5, .int (sJ x5))] [.int (sJ k3j1846), .int (sJ k2j1846), .int (sJ k1j1846), .ref (sA Δ 0)] := by
    intro k1j1846 k2j1846 k3j1846 ij1846 hk1j1846 hk2j1846 hk3j1846 hij1846 h
    refine V.aload_n (pc := 1846) hG dL_law_1846 rfl 3 rfl ?_
    refine V.callSWi (pc := 1847) (na := 5) (As := [.ref (sA Δ 0), .int (sJ k1j1846), .int (sJ k2j1846), .int (sJ k3j1846), .ref (sA Δ 540)]) (stk := []) hG (sm_L_action l Δ hk1j1846 hk2j1846 hk3j1846 hst hij1846 hw h) kw_157 kl_L_action (by decide) (by decide +kernel) kw_1608 kw_1609 ⟨Nat.le_trans (Nat.le_of_ble_eq_true rfl) hR0.1, Nat.le_trans (Nat.le_of_ble_eq_true rfl) hR0.2.1, by omega, by omega⟩ rfl (Nat.le_of_ble_eq_true rfl) dL_law_1847 rfl (fun v70 i71 r72 hv73 hi74 hw75 hq76 => ?_)
    obtain ⟨e84, h⟩ := hq76
    subst e84
    refine V.ks (kc2 := kc + 3) (sl2 := sl + 18) (by omega) (by omega) ?_
    refine V.istore (pc := 1850) (lv' := [(6, .int (sJ v70)), (0, .ref b), (1, .ref (sA Δ 0)), (2, .ref (sA Δ 504)), (3, .ref (sA Δ 540)), (4, .ref (sA Δ 541)), (5, .int (sJ x5))]) hG dL_law_1850 (by decide) rfl ?_
    refine V.aload_n (pc := 1852) hG dL_law_1852 rfl 3 rfl ?_
    refine V.aload_n (pc := 1853) hG dL_law_1853 rfl 1 rfl ?_
    refine V.iload (pc := 1854) hG dL_law_1854 6 rfl ?_
    refine V.iconst (pc := 1856) hG dL_law_1856 ?_
    refine V.iadd (pc := 1857) hG dL_law_1857 ?_
    obtain ⟨g77, h⟩ := h
    refine V.sld (pc := 1858) hG hX ((sR_wr _)) g77 dL_law_1858 ?_
    refine V.aload_n (pc := 1859) hG dL_law_1859 rfl 1 rfl ?_
    refine V.iload (pc := 1860) hG dL_law_1860 6 rfl ?_
    refine V.iconst (pc := 1862) hG dL_law_1862 ?_
    refine V.iadd (pc := 1863) hG dL_law_1863 ?_
    obtain ⟨g78, h⟩ := h
    refine V.sld (pc := 1864) hG hX ((sR_wr _)) g78 dL_law_1864 ?_
    refine V.aload_n (pc := 1865) hG dL_law_1865 rfl 1 rfl ?_
    refine V.iload (pc := 1866) hG dL_law_1866 6 rfl ?_
    refine V.iconst (pc := 1868) hG dL_law_1868 ?_
    refine V.iadd (pc := 1869) hG dL_law_1869 ?_
    obtain ⟨g79, h⟩ := h
    refine V.sld (pc := 1870) hG hX ((sR_wr _)) g79 dL_law_1870 ?_
    obtain ⟨t81, f82⟩ := h
    refine V.if_eq (pc := 1871) (tgt := 1878) hG ((sR_sv _ _)) dL_law_1871 (by decide) (fun c80 => ?_) (fun c80 => ?_)
    · have h := t81 c80
      clear t81 f82
      refine V.iconst (pc := 1878) hG dL_law_1878 ?_
      refine V.pick [1, 2, 3, 4, 5, 6, 0] rfl ?_
      exact jn1879 v70 (sv xs (wr (x5 + 1))) (sv xs (wr (x5 + 2))) 0 i71 hv73 ((sR_sv _ _)) ((sR_sv _ _)) ((sR_l rfl)) hi74 h
    · have h := f82 c80
      clear t81 f82
      refine V.iconst (pc := 1874) hG dL_law_1874 ?_
      refine V.goto (pc := 1875) (tgt := 1879) hG dL_law_1875 (by decide) ?_
      refine V.pick [1, 2, 3, 4, 5, 6, 0] rfl ?_
      exact jn1879 v70 (sv xs (wr (x5 + 1))) (sv xs (wr (x5 + 2))) 1 i71 hv73 ((sR_sv _ _)) ((sR_sv _ _)) ((sR_l rfl)) hi74 h
  refine V.aload_n (pc := 1819) hG dL_law_1819 rfl 1 rfl ?_
  refine V.aload_n (pc := 1820) hG dL_law_1820 rfl 0 rfl ?_
  refine V.iload (pc := 1821) hG dL_law_1821 5 rfl ?_
  refine V.iconst (pc := 1823) hG dL_law_1823 ?_
  refine V.iadd (pc := 1824) hG dL_law_1824 ?_
  obtain ⟨g85, h⟩ := h
  refine V.sld (pc := 1825) hG hX ((sR_wr _)) g85 dL_law_1825 ?_
  refine V.aload_n (pc := 1826) hG dL_law_1826 rfl 0 rfl ?_
  refine V.iload (pc := 1827) hG dL_law_1827 5 rfl ?_
  refine V.iconst (pc := 1829) hG dL_law_1829 ?_
  refine V.iadd (pc := 1830) hG dL_law_1830 ?_
  obtain ⟨g86, h⟩ := h
  refine V.sld (pc := 1831) hG hX ((sR_wr _)) g86 dL_law_1831 ?_
  refine V.aload_n (pc := 1832) hG dL_law_1832 rfl 0 rfl ?_
  refine V.iload (pc := 1833) hG dL_law_1833 5 rfl ?_
  refine V.iconst (pc := 1835) hG dL_law_1835 ?_
  refine V.iadd (pc := 1836) hG dL_law_1836 ?_
  obtain ⟨g87, h⟩ := h
  refine V.sld (pc := 1837) hG hX ((sR_wr _)) g87 dL_law_1837 ?_
  obtain ⟨t89, f90⟩ := h
  refine V.if_eq (pc := 1838) (tgt := 1845) hG ((sR_sv _ _)) dL_law_1838 (by decide) (fun c88 => ?_) (fun c88 => ?_)
  · have h := t89 c88
    clear t89 f90
    refine V.iconst (pc := 1845) hG dL_law_1845 ?_
    exact jn1846 (sv xs (wr (x5 + 1))) (sv xs (wr (x5 + 2))) 0 i ((sR_sv _ _)) ((sR_sv _ _)) ((sR_l rfl)) hi h
  · have h := f90 c88
    clear t89 f90
    refine V.iconst (pc := 1841) hG dL_law_1841 ?_
    refine V.goto (pc := 1842) (tgt := 1846) hG dL_law_1842 (by decide) ?_
    exact jn1846 (sv xs (wr (x5 + 1))) (sv xs (wr (x5 + 2))) 1 i ((sR_sv _ _)) ((sR_sv _ _)) ((sR_l rfl)) hi h
set_option maxRecDepth 100000 in
set_option maxHeartbeats 4000000 in
theorem lc_40 {Γ : Cx} {Δ : Wd} {l : Launch} {R : Room} {Q0 : State → Prop} {b : Nat} {xs : Nat → Int32} {L : Nat} {x5 : Int} {kc sl : Nat} {C : MI → MI → Prop} {i r : MI} (hst : l.stackTraces = false) (hG : okG Γ Δ l R cL_law "SchedularyLaw" 9) (hX : okS Γ Δ b L xs) (hR0 : 20 ≤ R.frames ∧ 10000 ≤ R.locals ∧ kc + 3 ≤ R.cells ∧ sl + 18 ≤ R.slots) (hx5 : sR x5) (hi : okI i) (hw : Wf r) (h : wc_40 xs L C x5 i r)
    (kk : ∀ i' r' : MI, okI i' → Wf r' → C i' r' → V Γ Δ 542 false i' r' (kc + 3) (sl + 18) Q0 2281 [(0, .ref b), (1, .ref (sA Δ 0)), (2, .ref (sA Δ 504)), (3, .ref (sA Δ 540)), (4, .ref (sA Δ 541)), (5, .int (sJ x5))] []) : V Γ Δ 542 false i r kc sl Q0 1915 [(0, .ref b), (1, .ref (sA Δ 0)), (2, .ref (sA Δ 504)), (3, .ref (sA Δ 540)), (4, .ref (sA Δ 541)), (5, .int (sJ x5))] [] := by
  unfold wc_40 at h
  have jn1980 : ∀  (ij1980 : MI), okI ij1980 → s1980_LC40 x5 ij1980 r xs L C → V Γ Δ 542 false ij1980 r (kc + 3) (sl + 18) Q0 1980 [(0, .ref b), (1, .ref (sA Δ 0)), (2, .ref (sA Δ 504)), (3, .ref (sA Δ 540)), (4, .ref (sA Δ 541)), (5, .int (sJ x5))] [] := by
    intro ij1980 hij1980 h
    refine V.goto (pc := 1980) (tgt := 2281) hG dL_law_1980 (by decide) ?_
    refine V.ks (kc2 := kc + 3) (sl2 := sl + 18) (by omega) (by omega) ?_
    exact kk ij1980 r hij1980 hw h
  refine V.aload_n (pc := 1915) hG dL_law_1915 rfl 1 rfl ?_
  refine V.aload_n (pc := 1916) hG dL_law_1916 rfl 0 rfl ?_
  refine V.iload (pc := 1917) hG dL_law_1917 5 rfl ?_
  refine V.iconst (pc := 1919) hG dL_law_1919 ?_
  refine V.iadd (pc := 1920) hG dL_law_1920 ?_
  obtain ⟨g1, h⟩ := h
  refine V.sld (pc := 1921) hG hX ((sR_wr _)) g1 dL_law_1921 ?_
  refine V.aload_n (pc := 1922) hG dL_law_1922 rfl 0 rfl ?_
  refine V.iload (pc := 1923) hG dL_law_1923 5 rfl ?_
  refine V.iconst (pc := 1925) hG dL_law_1925 ?_
  refine V.iadd (pc := 1926) hG dL_law_1926 ?_
  obtain ⟨g2, h⟩ := h
  refine V.sld (pc := 1927) hG hX ((sR_wr _)) g2 dL_law_1927 ?_
  refine V.aload_n (pc := 1928) hG dL_law_1928 rfl 3 rfl ?_
  refine V.callSWi (pc := 1929) (na := 4) (As := [.ref (sA Δ 0), .int (sJ (sv xs (wr (x5 + 1)))), .int (sJ (sv xs (wr (x5 + 2)))), .ref (sA Δ 540)]) (stk := []) hG (sm_L_setDepth l Δ ((sR_sv _ _)) ((sR_sv _ _)) hst hi hw h) kw_157 kl_L_setDepth (by decide) (by decide +kernel) kw_1621 kw_1622 ⟨Nat.le_trans (Nat.le_of_ble_eq_true rfl) hR0.1, Nat.le_trans (Nat.le_of_ble_eq_true rfl) hR0.2.1, by omega, by omega⟩ rfl (Nat.le_of_ble_eq_true rfl) dL_law_1929 rfl (fun v3 i4 r5 hv6 hi7 hw8 hq9 => ?_)
  obtain ⟨e40, h⟩ := hq9
  subst e40
  refine V.ks (kc2 := kc + 3) (sl2 := sl + 18) (by omega) (by omega) ?_
  refine V.istore (pc := 1932) (lv' := [(6, .int (sJ v3)), (0, .ref b), (1, .ref (sA Δ 0)), (2, .ref (sA Δ 504)), (3, .ref (sA Δ 540)), (4, .ref (sA Δ 541)), (5, .int (sJ x5))]) hG dL_law_1932 (by decide) rfl ?_
  refine V.aload_n (pc := 1934) hG dL_law_1934 rfl 3 rfl ?_
  refine V.aload_n (pc := 1935) hG dL_law_1935 rfl 1 rfl ?_
  refine V.iload (pc := 1936) hG dL_law_1936 6 rfl ?_
  refine V.iconst (pc := 1938) hG dL_law_1938 ?_
  refine V.iadd (pc := 1939) hG dL_law_1939 ?_
  obtain ⟨g10, h⟩ := h
  refine V.sld (pc := 1940) hG hX ((sR_wr _)) g10 dL_law_1940 ?_
  refine V.aload_n (pc := 1941) hG dL_law_1941 rfl 1 rfl ?_
  refine V.iload (pc := 1942) hG dL_law_1942 6 rfl ?_
  refine V.iconst (pc := 1944) hG dL_law_1944 ?_
  refine V.iadd (pc := 1945) hG dL_law_1945 ?_
  obtain ⟨g11, h⟩ := h
  refine V.sld (pc := 1946) hG hX ((sR_wr _)) g11 dL_law_1946 ?_
  refine V.callVi (pc := 1947) (As := [.int (sJ (sv xs (wr (x5 + 1)))), .int (sJ (sv xs (wr (x5 + 2))))]) (stk := []) hG (sm_X12_setDepth l Δ ((sR_sv _ _)) ((sR_sv _ _)) hi7 hw h) mY_X12_setDepth kw_2229 kw_2230 kw_2231 a_504 (by decide) (q := (RX12, TX12, 49)) rfl rfl ⟨Nat.le_trans (Nat.le_of_ble_eq_true rfl) hR0.1, Nat.le_trans (Nat.le_of_ble_eq_true rfl) hR0.2.1, by omega, by omega⟩ rfl (Nat.le_of_ble_eq_true rfl) dL_law_1947 rfl (fun v12 i13 r14 hv15 hi16 hw17 hq18 => ?_)
  obtain ⟨e38, h⟩ := hq18
  subst e38
  refine V.istore (pc := 1950) (lv' := [(7, .int (sJ v12)), (6, .int (sJ v3)), (0, .ref b), (1, .ref (sA Δ 0)), (2, .ref (sA Δ 504)), (3, .ref (sA Δ 540)), (4, .ref (sA Δ 541)), (5, .int (sJ x5))]) hG dL_law_1950 (by decide) rfl ?_
  refine V.aload_n (pc := 1952) hG dL_law_1952 rfl 4 rfl ?_
  refine V.callVi (pc := 1953) (As := []) (stk := []) hG (sm_X12_thrown l Δ  hi16 hw h) mY_X12_thrown kw_1840 kw_1841 kw_1842 a_504 (by decide) (q := (RX12, TX12, 49)) rfl rfl ⟨Nat.le_trans (Nat.le_of_ble_eq_true rfl) hR0.1, Nat.le_trans (Nat.le_of_ble_eq_true rfl) hR0.2.1, by omega, by omega⟩ rfl (Nat.le_of_ble_eq_true rfl) dL_law_1953 rfl (fun v19 i20 r21 hv22 hi23 hw24 hq25 => ?_)
  obtain ⟨e35, e36, h⟩ := hq25
  subst e35
  subst e36
  refine V.iload (pc := 1956) hG dL_law_1956 1 rfl ?_
  obtain ⟨t27, f28⟩ := h
  refine V.icmp_eq (pc := 1958) (tgt := 1963) hG hv22 hv6 dL_law_1958 (by decide) (fun c26 => ?_) (fun c26 => ?_)
  · have h := t27 c26
    clear t27 f28
    refine V.iload (pc := 1963) hG dL_law_1963 1 rfl ?_
    obtain ⟨f31, t30⟩ := h
    refine V.if_ne (pc := 1965) (tgt := 1980) hG hv6 dL_law_1965 (by decide) (fun c29 => ?_) (fun c29 => ?_)
    · have h := t30 c29
      clear t30 f31
      refine V.pick [2, 3, 4, 5, 6, 7] rfl ?_
      exact jn1980 i13 hi16 h
    · have h := f31 c29
      clear t30 f31
      refine V.aload_n (pc := 1968) hG dL_law_1968 rfl 5 rfl ?_
      refine V.iconst (pc := 1969) hG dL_law_1969 ?_
      refine V.lald0 (pc := 1970) (z := 1) (o := 540) hG a_540 a_540.n (by decide) dL_law_1970 ?_
      refine V.iload (pc := 1971) hG dL_law_1971 0 rfl ?_
      refine V.i2l (pc := 1973) hG dL_law_1973 ?_
      refine V.lcmp (pc := 1974) hG dL_law_1974 ?_
      obtain ⟨t33, f34⟩ := h
      refine V.if_eq (pc := 1975) (tgt := 1980) hG ((sR_of _)) dL_law_1975 (by decide) (fun c32 => ?_) (fun c32 => ?_)
      · have h := t33 c32
        clear t33 f34
        refine V.pick [2, 3, 4, 5, 6, 7] rfl ?_
        exact jn1980 i13 hi16 h
      · have h := f34 c32
        clear t33 f34
        refine V.iconst (pc := 1978) hG dL_law_1978 ?_
        exact h.elim
  · have h := f28 c26
    clear t27 f28
    refine V.iconst (pc := 1961) hG dL_law_1961 ?_
    exact h.elim
set_option maxRecDepth 100000 in
set_option maxHeartbeats 4000000 in
theorem lc_41 {Γ : Cx} {Δ : Wd} {l : Launch} {R : Room} {Q0 : State → Prop} {b : Nat} {xs : Nat → Int32} {L : Nat} {x5 : Int} {kc sl : Nat} {C : MI → MI → Prop} {i r : MI} (hst : l.stackTraces = false) (hG : okG Γ Δ l R cL_law "SchedularyLaw" 9) (hX : okS Γ Δ b L xs) (hR0 : 20 ≤ R.frames ∧ 10000 ≤ R.locals ∧ kc + 3 ≤ R.cells ∧ sl + 18 ≤ R.slots) (hx5 : sR x5) (hi : okI i) (hw : Wf r) (h : wc_41 xs L C x5 i r)
    (kk : ∀ i' r' : MI, okI i' → Wf r' → C i' r' → V Γ Δ 542 false i' r' (kc + 3) (sl + 18) Q0 2281 [(0, .ref b), (1, .ref (sA Δ 0)), (2, .ref (sA Δ 504)), (3, .ref (sA Δ 540)), (4, .ref (sA Δ 541)), (5, .int (sJ x5))] []) : V Γ Δ 542 false i r kc sl Q0 1983 [(0, .ref b), (1, .ref (sA Δ 0)), (2, .ref (sA Δ 504)), (3, .ref (sA Δ 540)), (4, .ref (sA Δ 541)), (5, .int (sJ x5))] [] := by
  refine V.ks (kc2 := kc + 3) (sl2 := sl + 18) (by omega) (by omega) ?_
  unfold wc_41 at h
  refine V.aload_n (pc := 1983) hG dL_law_1983 rfl 1 rfl ?_
  refine V.callVi (pc := 1984) (As := []) (stk := []) hG (sm_X11_done l Δ  hi hw h) mY_X11_done kw_1179 kw_1180 kw_1181 a_0 (by decide) (q := (RX11, TX11, 11)) rfl rfl ⟨Nat.le_trans (Nat.le_of_ble_eq_true rfl) hR0.1, Nat.le_trans (Nat.le_of_ble_eq_true rfl) hR0.2.1, by omega, by omega⟩ rfl (Nat.le_of_ble_eq_true rfl) dL_law_1984 rfl (fun v1 i2 r3 hv4 hi5 hw6 hq7 => ?_)
  obtain ⟨e21, h⟩ := hq7
  subst e21
  refine V.aload_n (pc := 1987) hG dL_law_1987 rfl 2 rfl ?_
  refine V.callVi (pc := 1988) (As := []) (stk := [.int (sJ v1)]) hG (sm_X12_done l Δ  hi5 hw h) mY_X12_done kw_2233 kw_2234 kw_2235 a_504 (by decide) (q := (RX12, TX12, 49)) rfl rfl ⟨Nat.le_trans (Nat.le_of_ble_eq_true rfl) hR0.1, Nat.le_trans (Nat.le_of_ble_eq_true rfl) hR0.2.1, by omega, by omega⟩ rfl (Nat.le_of_ble_eq_true rfl) dL_law_1988 rfl (fun v8 i9 r10 hv11 hi12 hw13 hq14 => ?_)
  obtain ⟨e19, h⟩ := hq14
  subst e19
  obtain ⟨t16, f17⟩ := h
  refine V.icmp_eq (pc := 1991) (tgt := 2281) hG hv4 hv11 dL_law_1991 (by decide) (fun c15 => ?_) (fun c15 => ?_)
  · have h := t16 c15
    clear t16 f17
    exact kk i9 r hi12 hw h
  · have h := f17 c15
    clear t16 f17
    refine V.iconst (pc := 1994) hG dL_law_1994 ?_
    exact h.elim
set_option maxRecDepth 100000 in
set_option maxHeartbeats 4000000 in
theorem lc_42 {Γ : Cx} {Δ : Wd} {l : Launch} {R : Room} {Q0 : State → Prop} {b : Nat} {xs : Nat → Int32} {L : Nat} {x5 : Int} {kc sl : Nat} {C : MI → MI → Prop} {i r : MI} (hst : l.stackTraces = false) (hG : okG Γ Δ l R cL_law "SchedularyLaw" 9) (hX : okS Γ Δ b L xs) (hR0 : 20 ≤ R.frames ∧ 10000 ≤ R.locals ∧ kc + 3 ≤ R.cells ∧ sl + 18 ≤ R.slots) (hx5 : sR x5) (hi : okI i) (hw : Wf r) (h : wc_42 xs L C x5 i r)
    (kk : ∀ i' r' : MI, okI i' → Wf r' → C i' r' → V Γ Δ 542 false i' r' (kc + 3) (sl + 18) Q0 2281 [(0, .ref b), (1, .ref (sA Δ 0)), (2, .ref (sA Δ 504)), (3, .ref (sA Δ 540)), (4, .ref (sA Δ 541)), (5, .int (sJ x5))] []) : V Γ Δ 542 false i r kc sl Q0 1996 [(0, .ref b), (1, .ref (sA Δ 0)), (2, .ref (sA Δ 504)), (3, .ref (sA Δ 540)), (4, .ref (sA Δ 541)), (5, .int (sJ x5))] [] := by
  unfold wc_42 at h
  have jn2049 : ∀  (ij2049 : MI), okI ij2049 → s2049_LC42 x5 ij2049 r xs L C → V Γ Δ 542 false ij2049 r (kc + 3) (sl + 18) Q0 2049 [(0, .ref b), (1, .ref (sA Δ 0)), (2, .ref (sA Δ 504)), (3, .ref (sA Δ 540)), (4, .ref (sA Δ 541)), (5, .int (sJ x5))] [] := by
    intro ij2049 hij2049 h
    refine V.goto (pc := 2049) (tgt := 2281) hG dL_law_2049 (by decide) ?_
    refine V.ks (kc2 := kc + 3) (sl2 := sl + 18) (by omega) (by omega) ?_
    exact kk ij2049 r hij2049 hw h
  refine V.aload_n (pc := 1996) hG dL_law_1996 rfl 1 rfl ?_
  refine V.aload_n (pc := 1997) hG dL_law_1997 rfl 0 rfl ?_
  refine V.iload (pc := 1998) hG dL_law_1998 5 rfl ?_
  refine V.iconst (pc := 2000) hG dL_law_2000 ?_
  refine V.iadd (pc := 2001) hG dL_law_2001 ?_
  obtain ⟨g1, h⟩ := h
  refine V.sld (pc := 2002) hG hX ((sR_wr _)) g1 dL_law_2002 ?_
  refine V.aload_n (pc := 2003) hG dL_law_2003 rfl 3 rfl ?_
  refine V.callSWi (pc := 2004) (na := 3) (As := [.ref (sA Δ 0), .int (sJ (sv xs (wr (x5 + 1)))), .ref (sA Δ 540)]) (stk := []) hG (sm_L_waitsFor l Δ ((sR_sv _ _)) hst hi hw h) kw_157 kl_L_waitsFor (by decide) (by decide +kernel) kw_1629 kw_1630 ⟨Nat.le_trans (Nat.le_of_ble_eq_true rfl) hR0.1, Nat.le_trans (Nat.le_of_ble_eq_true rfl) hR0.2.1, by omega, by omega⟩ rfl (Nat.le_of_ble_eq_true rfl) dL_law_2004 rfl (fun v2 i3 r4 hv5 hi6 hw7 hq8 => ?_)
  obtain ⟨e38, h⟩ := hq8
  subst e38
  refine V.ks (kc2 := kc + 3) (sl2 := sl + 18) (by omega) (by omega) ?_
  refine V.istore (pc := 2007) (lv' := [(6, .int (sJ v2)), (0, .ref b), (1, .ref (sA Δ 0)), (2, .ref (sA Δ 504)), (3, .ref (sA Δ 540)), (4, .ref (sA Δ 541)), (5, .int (sJ x5))]) hG dL_law_2007 (by decide) rfl ?_
  refine V.aload_n (pc := 2009) hG dL_law_2009 rfl 3 rfl ?_
  refine V.aload_n (pc := 2010) hG dL_law_2010 rfl 1 rfl ?_
  refine V.iload (pc := 2011) hG dL_law_2011 6 rfl ?_
  refine V.iconst (pc := 2013) hG dL_law_2013 ?_
  refine V.iadd (pc := 2014) hG dL_law_2014 ?_
  obtain ⟨g9, h⟩ := h
  refine V.sld (pc := 2015) hG hX ((sR_wr _)) g9 dL_law_2015 ?_
  refine V.callVi (pc := 2016) (As := [.int (sJ (sv xs (wr (x5 + 1))))]) (stk := []) hG (sm_X12_waitsFor l Δ ((sR_sv _ _)) hi6 hw h) mY_X12_waitsFor kw_2245 kw_2246 kw_2247 a_504 (by decide) (q := (RX12, TX12, 49)) rfl rfl ⟨Nat.le_trans (Nat.le_of_ble_eq_true rfl) hR0.1, Nat.le_trans (Nat.le_of_ble_eq_true rfl) hR0.2.1, by omega, by omega⟩ rfl (Nat.le_of_ble_eq_true rfl) dL_law_2016 rfl (fun v10 i11 r12 hv13 hi14 hw15 hq16 => ?_)
  obtain ⟨e36, h⟩ := hq16
  subst e36
  refine V.istore (pc := 2019) (lv' := [(7, .int (sJ v10)), (6, .int (sJ v2)), (0, .ref b), (1, .ref (sA Δ 0)), (2, .ref (sA Δ 504)), (3, .ref (sA Δ 540)), (4, .ref (sA Δ 541)), (5, .int (sJ x5))]) hG dL_law_2019 (by decide) rfl ?_
  refine V.aload_n (pc := 2021) hG dL_law_2021 rfl 4 rfl ?_
  refine V.callVi (pc := 2022) (As := []) (stk := []) hG (sm_X12_thrown l Δ  hi14 hw h) mY_X12_thrown kw_1840 kw_1841 kw_1842 a_504 (by decide) (q := (RX12, TX12, 49)) rfl rfl ⟨Nat.le_trans (Nat.le_of_ble_eq_true rfl) hR0.1, Nat.le_trans (Nat.le_of_ble_eq_true rfl) hR0.2.1, by omega, by omega⟩ rfl (Nat.le_of_ble_eq_true rfl) dL_law_2022 rfl (fun v17 i18 r19 hv20 hi21 hw22 hq23 => ?_)
  obtain ⟨e33, e34, h⟩ := hq23
  subst e33
  subst e34
  refine V.iload (pc := 2025) hG dL_law_2025 1 rfl ?_
  obtain ⟨t25, f26⟩ := h
  refine V.icmp_eq (pc := 2027) (tgt := 2032) hG hv20 hv5 dL_law_2027 (by decide) (fun c24 => ?_) (fun c24 => ?_)
  · have h := t25 c24
    clear t25 f26
    refine V.iload (pc := 2032) hG dL_law_2032 1 rfl ?_
    obtain ⟨f29, t28⟩ := h
    refine V.if_ne (pc := 2034) (tgt := 2049) hG hv5 dL_law_2034 (by decide) (fun c27 => ?_) (fun c27 => ?_)
    · have h := t28 c27
      clear t28 f29
      refine V.pick [2, 3, 4, 5, 6, 7] rfl ?_
      exact jn2049 i11 hi14 h
    · have h := f29 c27
      clear t28 f29
      refine V.aload_n (pc := 2037) hG dL_law_2037 rfl 5 rfl ?_
      refine V.iconst (pc := 2038) hG dL_law_2038 ?_
      refine V.lald0 (pc := 2039) (z := 1) (o := 540) hG a_540 a_540.n (by decide) dL_law_2039 ?_
      refine V.iload (pc := 2040) hG dL_law_2040 0 rfl ?_
      refine V.i2l (pc := 2042) hG dL_law_2042 ?_
      refine V.lcmp (pc := 2043) hG dL_law_2043 ?_
      obtain ⟨t31, f32⟩ := h
      refine V.if_eq (pc := 2044) (tgt := 2049) hG ((sR_of _)) dL_law_2044 (by decide) (fun c30 => ?_) (fun c30 => ?_)
      · have h := t31 c30
        clear t31 f32
        refine V.pick [2, 3, 4, 5, 6, 7] rfl ?_
        exact jn2049 i11 hi14 h
      · have h := f32 c30
        clear t31 f32
        refine V.iconst (pc := 2047) hG dL_law_2047 ?_
        exact h.elim
  · have h := f26 c24
    clear t25 f26
    refine V.iconst (pc := 2030) hG dL_law_2030 ?_
    exact h.elim
set_option maxRecDepth 100000 in
set_option maxHeartbeats 4000000 in
theorem lc_43 {Γ : Cx} {Δ : Wd} {l : Launch} {R : Room} {Q0 : State → Prop} {b : Nat} {xs : Nat → Int32} {L : Nat} {x5 : Int} {kc sl : Nat} {C : MI → MI → Prop} {i r : MI} (hst : l.stackTraces = false) (hG : okG Γ Δ l R cL_law "SchedularyLaw" 9) (hX : okS Γ Δ b L xs) (hR0 : 20 ≤ R.frames ∧ 10000 ≤ R.locals ∧ kc + 3 ≤ R.cells ∧ sl + 18 ≤ R.slots) (hx5 : sR x5) (hi : okI i) (hw : Wf r) (h : wc_43 xs L C x5 i r)
    (kk : ∀ i' r' : MI, okI i' → Wf r' → C i' r' → V Γ Δ 542 false i' r' (kc + 3) (sl + 18) Q0 2281 [(0, .ref b), (1, .ref (sA Δ 0)), (2, .ref (sA Δ 504)), (3, .ref (sA Δ 540)), (4, .ref (sA Δ 541)), (5, .int (sJ x5))] []) : V Γ Δ 542 false i r kc sl Q0 2052 [(0, .ref b), (1, .ref (sA Δ 0)), (2, .ref (sA Δ 504)), (3, .ref (sA Δ 540)), (4, .ref (sA Δ 541)), (5, .int (sJ x5))] [] := by
  refine V.ks (kc2 := kc + 3) (sl2 := sl + 18) (by omega) (by omega) ?_
  unfold wc_43 at h
  refine V.aload_n (pc := 2052) hG dL_law_2052 rfl 1 rfl ?_
  refine V.callVi (pc := 2053) (As := []) (stk := []) hG (sm_X11_areLocked l Δ  hi hw h) mY_X11_areLocked kw_1199 kw_1200 kw_1201 a_0 (by decide) (q := (RX11, TX11, 11)) rfl rfl ⟨Nat.le_trans (Nat.le_of_ble_eq_true rfl) hR0.1, Nat.le_trans (Nat.le_of_ble_eq_true rfl) hR0.2.1, by omega, by omega⟩ rfl (Nat.le_of_ble_eq_true rfl) dL_law_2053 rfl (fun v1 i2 r3 hv4 hi5 hw6 hq7 => ?_)
  obtain ⟨e21, h⟩ := hq7
  subst e21
  refine V.aload_n (pc := 2056) hG dL_law_2056 rfl 2 rfl ?_
  refine V.callVi (pc := 2057) (As := []) (stk := [.int (sJ v1)]) hG (sm_X12_areLocked l Δ  hi5 hw h) mY_X12_areLocked kw_2249 kw_2250 kw_2251 a_504 (by decide) (q := (RX12, TX12, 49)) rfl rfl ⟨Nat.le_trans (Nat.le_of_ble_eq_true rfl) hR0.1, Nat.le_trans (Nat.le_of_ble_eq_true rfl) hR0.2.1, by omega, by omega⟩ rfl (Nat.le_of_ble_eq_true rfl) dL_law_2057 rfl (fun v8 i9 r10 hv11 hi12 hw13 hq14 => ?_)
  obtain ⟨e19, h⟩ := hq14
  subst e19
  obtain ⟨t16, f17⟩ := h
  refine V.icmp_eq (pc := 2060) (tgt := 2281) hG hv4 hv11 dL_law_2060 (by decide) (fun c15 => ?_) (fun c15 => ?_)
  · have h := t16 c15
    clear t16 f17
    exact kk i9 r hi12 hw h
  · have h := f17 c15
    clear t16 f17
    refine V.iconst (pc := 2063) hG dL_law_2063 ?_
    exact h.elim
set_option maxRecDepth 100000 in
set_option maxHeartbeats 4000000 in
theorem lc_44 {Γ : Cx} {Δ : Wd} {l : Launch} {R : Room} {Q0 : State → Prop} {b : Nat} {xs : Nat → Int32} {L : Nat} {x5 : Int} {kc sl : Nat} {C : MI → MI → Prop} {i r : MI} (hst : l.stackTraces = false) (hG : okG Γ Δ l R cL_law "SchedularyLaw" 9) (hX : okS Γ Δ b L xs) (hR0 : 20 ≤ R.frames ∧ 10000 ≤ R.locals ∧ kc + 3 ≤ R.cells ∧ sl + 18 ≤ R.slots) (hx5 : sR x5) (hi : okI i) (hw : Wf r) (h : wc_44 xs L C x5 i r)
    (kk : ∀ i' r' : MI, okI i' → Wf r' → C i' r' → V Γ Δ 542 false i' r' (kc + 3) (sl + 18) Q0 2281 [(0, .ref b), (1, .ref (sA Δ 0)), (2, .ref (sA Δ 504)), (3, .ref (sA Δ 540)), (4, .ref (sA Δ 541)), (5, .int (sJ x5))] []) : V Γ Δ 542 false i r kc sl Q0 2065 [(0, .ref b), (1, .ref (sA Δ 0)), (2, .ref (sA Δ 504)), (3, .ref (sA Δ 540)), (4, .ref (sA Δ 541)), (5, .int (sJ x5))] [] := by
  unfold wc_44 at h
  have jn2106 : ∀  (ij2106 : MI), okI ij2106 → s2106_LC44 x5 ij2106 r xs L C → V Γ Δ 542 false ij2106 r (kc + 3) (sl + 18) Q0 2106 [(0, .ref b), (1, .ref (sA Δ 0)), (2, .ref (sA Δ 504)), (3, .ref (sA Δ 540)), (4, .ref (sA Δ 541)), (5, .int (sJ x5))] [] := by
    intro ij2106 hij2106 h
    refine V.goto (pc := 2106) (tgt := 2281) hG dL_law_2106 (by decide) ?_
    refine V.ks (kc2 := kc + 3) (sl2 := sl + 18) (by omega) (by omega) ?_
    exact kk ij2106 r hij2106 hw h
  refine V.aload_n (pc := 2065) hG dL_law_2065 rfl 1 rfl ?_
  refine V.aload_n (pc := 2066) hG dL_law_2066 rfl 3 rfl ?_
  refine V.callSWi (pc := 2067) (na := 2) (As := [.ref (sA Δ 0), .ref (sA Δ 540)]) (stk := []) hG (sm_L_leastDepth l Δ  hst hi hw h) kw_157 kl_L_leastDepth (by decide) (by decide +kernel) kw_1641 kw_1642 ⟨Nat.le_trans (Nat.le_of_ble_eq_true rfl) hR0.1, Nat.le_trans (Nat.le_of_ble_eq_true rfl) hR0.2.1, by omega, by omega⟩ rfl (Nat.le_of_ble_eq_true rfl) dL_law_2067 rfl (fun v1 i2 r3 hv4 hi5 hw6 hq7 => ?_)
  obtain ⟨e36, h⟩ := hq7
  subst e36
  refine V.ks (kc2 := kc + 3) (sl2 := sl + 18) (by omega) (by omega) ?_
  refine V.istore (pc := 2070) (lv' := [(6, .int (sJ v1)), (0, .ref b), (1, .ref (sA Δ 0)), (2, .ref (sA Δ 504)), (3, .ref (sA Δ 540)), (4, .ref (sA Δ 541)), (5, .int (sJ x5))]) hG dL_law_2070 (by decide) rfl ?_
  refine V.aload_n (pc := 2072) hG dL_law_2072 rfl 3 rfl ?_
  refine V.callVi (pc := 2073) (As := []) (stk := []) hG (sm_X12_leastDepth l Δ  hi5 hw h) mY_X12_leastDepth kw_2253 kw_2254 kw_2255 a_504 (by decide) (q := (RX12, TX12, 49)) rfl rfl ⟨Nat.le_trans (Nat.le_of_ble_eq_true rfl) hR0.1, Nat.le_trans (Nat.le_of_ble_eq_true rfl) hR0.2.1, by omega, by omega⟩ rfl (Nat.le_of_ble_eq_true rfl) dL_law_2073 rfl (fun v8 i9 r10 hv11 hi12 hw13 hq14 => ?_)
  obtain ⟨e34, h⟩ := hq14
  subst e34
  refine V.istore (pc := 2076) (lv' := [(7, .int (sJ v8)), (6, .int (sJ v1)), (0, .ref b), (1, .ref (sA Δ 0)), (2, .ref (sA Δ 504)), (3, .ref (sA Δ 540)), (4, .ref (sA Δ 541)), (5, .int (sJ x5))]) hG dL_law_2076 (by decide) rfl ?_
  refine V.aload_n (pc := 2078) hG dL_law_2078 rfl 4 rfl ?_
  refine V.callVi (pc := 2079) (As := []) (stk := []) hG (sm_X12_thrown l Δ  hi12 hw h) mY_X12_thrown kw_1840 kw_1841 kw_1842 a_504 (by decide) (q := (RX12, TX12, 49)) rfl rfl ⟨Nat.le_trans (Nat.le_of_ble_eq_true rfl) hR0.1, Nat.le_trans (Nat.le_of_ble_eq_true rfl) hR0.2.1, by omega, by omega⟩ rfl (Nat.le_of_ble_eq_true rfl) dL_law_2079 rfl (fun v15 i16 r17 hv18 hi19 hw20 hq21 => ?_)
  obtain ⟨e31, e32, h⟩ := hq21
  subst e31
  subst e32
  refine V.iload (pc := 2082) hG dL_law_2082 1 rfl ?_
  obtain ⟨t23, f24⟩ := h
  refine V.icmp_eq (pc := 2084) (tgt := 2089) hG hv18 hv4 dL_law_2084 (by decide) (fun c22 => ?_) (fun c22 => ?_)
  · have h := t23 c22
    clear t23 f24
    refine V.iload (pc := 2089) hG dL_law_2089 1 rfl ?_
    obtain ⟨f27, t26⟩ := h
    refine V.if_ne (pc := 2091) (tgt := 2106) hG hv4 dL_law_2091 (by decide) (fun c25 => ?_) (fun c25 => ?_)
    · have h := t26 c25
      clear t26 f27
      refine V.pick [2, 3, 4, 5, 6, 7] rfl ?_
      exact jn2106 i9 hi12 h
    · have h := f27 c25
      clear t26 f27
      refine V.aload_n (pc := 2094) hG dL_law_2094 rfl 5 rfl ?_
      refine V.iconst (pc := 2095) hG dL_law_2095 ?_
      refine V.lald0 (pc := 2096) (z := 1) (o := 540) hG a_540 a_540.n (by decide) dL_law_2096 ?_
      refine V.iload (pc := 2097) hG dL_law_2097 0 rfl ?_
      refine V.i2l (pc := 2099) hG dL_law_2099 ?_
      refine V.lcmp (pc := 2100) hG dL_law_2100 ?_
      obtain ⟨t29, f30⟩ := h
      refine V.if_eq (pc := 2101) (tgt := 2106) hG ((sR_of _)) dL_law_2101 (by decide) (fun c28 => ?_) (fun c28 => ?_)
      · have h := t29 c28
        clear t29 f30
        refine V.pick [2, 3, 4, 5, 6, 7] rfl ?_
        exact jn2106 i9 hi12 h
      · have h := f30 c28
        clear t29 f30
        refine V.iconst (pc := 2104) hG dL_law_2104 ?_
        exact h.elim
  · have h := f24 c22
    clear t23 f24
    refine V.iconst (pc := 2087) hG dL_law_2087 ?_
    exact h.elim
set_option maxRecDepth 100000 in
set_option maxHeartbeats 4000000 in
theorem lc_45 {Γ : Cx} {Δ : Wd} {l : Launch} {R : Room} {Q0 : State → Prop} {b : Nat} {xs : Nat → Int32} {L : Nat} {x5 : Int} {kc sl : Nat} {C : MI → MI → Prop} {i r : MI} (hst : l.stackTraces = false) (hG : okG Γ Δ l R cL_law "SchedularyLaw" 9) (hX : okS Γ Δ b L xs) (hR0 : 20 ≤ R.frames ∧ 10000 ≤ R.locals ∧ kc + 3 ≤ R.cells ∧ sl + 18 ≤ R.slots) (hx5 : sR x5) (hi : okI i) (hw : Wf r) (h : wc_45 xs L C x5 i r)
    (kk : ∀ i' r' : MI, okI i' → Wf r' → C i' r' → V Γ Δ 542 false i' r' (kc + 3) (sl + 18) Q0 2281 [(0, .ref b), (1, .ref (sA Δ 0)), (2, .ref (sA Δ 504)), (3, .ref (sA Δ 540)), (4, .ref (sA Δ 541)), (5, .int (sJ x5))] []) : V Γ Δ 542 false i r kc sl Q0 2109 [(0, .ref b), (1, .ref (sA Δ 0)), (2, .ref (sA Δ 504)), (3, .ref (sA Δ 540)), (4, .ref (sA Δ 541)), (5, .int (sJ x5))] [] := by
  refine V.ks (kc2 := kc + 3) (sl2 := sl + 18) (by omega) (by omega) ?_
  unfold wc_45 at h
  refine V.aload_n (pc := 2109) hG dL_law_2109 rfl 1 rfl ?_
  refine V.callVl (pc := 2110) (As := []) (stk := []) hG (sm_X11_checksum l Δ  hi hw h) mY_X11_checksum kw_1207 kw_1208 kw_1209 a_0 (by decide) (q := (RX11, TX11, 11)) rfl rfl ⟨Nat.le_trans (Nat.le_of_ble_eq_true rfl) hR0.1, Nat.le_trans (Nat.le_of_ble_eq_true rfl) hR0.2.1, by omega, by omega⟩ rfl (Nat.le_of_ble_eq_true rfl) dL_law_2110 rfl (fun v1 i2 r3 hi5 hw6 hq7 => ?_)
  have h := hq7
  refine V.aload_n (pc := 2113) hG dL_law_2113 rfl 2 rfl ?_
  refine V.callVl (pc := 2114) (As := []) (stk := [.long v1]) hG (sm_X12_checksum l Δ  hi5 hw6 h) mY_X12_checksum kw_2257 kw_2258 kw_2259 a_504 (by decide) (q := (RX12, TX12, 49)) rfl rfl ⟨Nat.le_trans (Nat.le_of_ble_eq_true rfl) hR0.1, Nat.le_trans (Nat.le_of_ble_eq_true rfl) hR0.2.1, by omega, by omega⟩ rfl (Nat.le_of_ble_eq_true rfl) dL_law_2114 rfl (fun v8 i9 r10 hi12 hw13 hq14 => ?_)
  obtain ⟨e19, h⟩ := hq14
  subst e19
  refine V.lcmp (pc := 2117) hG dL_law_2117 ?_
  obtain ⟨t16, f17⟩ := h
  refine V.if_eq (pc := 2118) (tgt := 2281) hG ((sR_of _)) dL_law_2118 (by decide) (fun c15 => ?_) (fun c15 => ?_)
  · have h := t16 c15
    clear t16 f17
    exact kk i9 r3 hi12 hw6 h
  · have h := f17 c15
    clear t16 f17
    refine V.iconst (pc := 2121) hG dL_law_2121 ?_
    exact h.elim
set_option maxRecDepth 100000 in
set_option maxHeartbeats 4000000 in
theorem lc_46 {Γ : Cx} {Δ : Wd} {l : Launch} {R : Room} {Q0 : State → Prop} {b : Nat} {xs : Nat → Int32} {L : Nat} {x5 : Int} {kc sl : Nat} {C : MI → MI → Prop} {i r : MI} (hst : l.stackTraces = false) (hG : okG Γ Δ l R cL_law "SchedularyLaw" 9) (hX : okS Γ Δ b L xs) (hR0 : 20 ≤ R.frames ∧ 10000 ≤ R.locals ∧ kc + 3 ≤ R.cells ∧ sl + 18 ≤ R.slots) (hx5 : sR x5) (hi : okI i) (hw : Wf r) (h : wc_46 xs L C x5 i r)
    (kk : ∀ i' r' : MI, okI i' → Wf r' → C i' r' → V Γ Δ 542 false i' r' (kc + 3) (sl + 18) Q0 2281 [(0, .ref b), (1, .ref (sA Δ 0)), (2, .ref (sA Δ 504)), (3, .ref (sA Δ 540)), (4, .ref (sA Δ 541)), (5, .int (sJ x5))] []) : V Γ Δ 542 false i r kc sl Q0 2123 [(0, .ref b), (1, .ref (sA Δ 0)), (2, .ref (sA Δ 504)), (3, .ref (sA Δ 540)), (4, .ref (sA Δ 541)), (5, .int (sJ x5))] [] := by
  unfold wc_46 at h
  have jn2200 : ∀  (ij2200 : MI) (rj2200 : MI), okI ij2200 → Wf rj2200 → s2200_LC46 x5 ij2200 rj2200 xs L C → V Γ Δ 542 false ij2200 rj2200 (kc + 3) (sl + 18) Q0 2200 [(0, .ref b), (1, .ref (sA Δ 0)), (2, .ref (sA Δ 504)), (3, .ref (sA Δ 540)), (4, .ref (sA Δ 541)), (5, .int (sJ x5))] [] := by
    intro ij2200 rj2200 hij2200 hwj2200 h
    refine V.goto (pc := 2200) (tgt := 2281) hG dL_law_2200 (by decide) ?_
    refine V.ks (kc2 := kc + 3) (sl2 := sl + 18) (by omega) (by omega) ?_
    exact kk ij2200 rj2200 hij2200 hwj2200 h
  have jn2198 : ∀  (ij2198 : MI) (rj2198 : MI), okI ij2198 → Wf rj2198 → s2198_LC46 ij2198 rj2198 xs L C → V Γ Δ 542 false ij2198 rj2198 (kc + 3) (sl + 18) Q0 2198 [] [] := by
    intro ij2198 rj2198 hij2198 hwj2198 h
    refine V.iconst (pc := 2198) hG dL_law_2198 ?_
    exact h.elim
  refine V.aload_n (pc := 2123) hG dL_law_2123 rfl 1 rfl ?_
  refine V.aload_n (pc := 2124) hG dL_law_2124 rfl 0 rfl ?_
  refine V.iload (pc := 2125) hG dL_law_2125 5 rfl ?_
  refine V.iconst (pc := 2127) hG dL_law_2127 ?_
  refine V.iadd (pc := 2128) hG dL_law_2128 ?_
  obtain ⟨g1, h⟩ := h
  refine V.sld (pc := 2129) hG hX ((sR_wr _)) g1 dL_law_2129 ?_
  refine V.i2c (pc := 2130) hG ((sR_sv _ _)) dL_law_2130 ?_
  refine V.aload (pc := 2131) hG dL_law_2131 4 rfl ?_
  refine V.callSWi (pc := 2133) (na := 3) (As := [.ref (sA Δ 0), .int (sJ (((sv xs (wr (x5 + 1)))) % 65536)), .ref (sA Δ 541)]) (stk := []) hG (sm_L_busyShare l Δ sR_c hst hi hw h) kw_157 kl_L_busyShare (by decide) (by decide +kernel) kw_1654 kw_1655 ⟨Nat.le_trans (Nat.le_of_ble_eq_true rfl) hR0.1, Nat.le_trans (Nat.le_of_ble_eq_true rfl) hR0.2.1, by omega, by omega⟩ rfl (Nat.le_of_ble_eq_true rfl) dL_law_2133 rfl (fun v2 i3 r4 hv5 hi6 hw7 hq8 => ?_)
  have h := hq8
  refine V.ks (kc2 := kc + 3) (sl2 := sl + 18) (by omega) (by omega) ?_
  refine V.istore (pc := 2136) (lv' := [(6, .int (sJ v2)), (0, .ref b), (1, .ref (sA Δ 0)), (2, .ref (sA Δ 504)), (3, .ref (sA Δ 540)), (4, .ref (sA Δ 541)), (5, .int (sJ x5))]) hG dL_law_2136 (by decide) rfl ?_
  refine V.aload_n (pc := 2138) hG dL_law_2138 rfl 3 rfl ?_
  refine V.aload_n (pc := 2139) hG dL_law_2139 rfl 1 rfl ?_
  refine V.iload (pc := 2140) hG dL_law_2140 6 rfl ?_
  refine V.iconst (pc := 2142) hG dL_law_2142 ?_
  refine V.iadd (pc := 2143) hG dL_law_2143 ?_
  obtain ⟨g9, h⟩ := h
  refine V.sld (pc := 2144) hG hX ((sR_wr _)) g9 dL_law_2144 ?_
  refine V.i2c (pc := 2145) hG ((sR_sv _ _)) dL_law_2145 ?_
  refine V.callVf (pc := 2146) (As := [.int (sJ (((sv xs (wr (x5 + 1)))) % 65536))]) (stk := []) hG (sm_X12_busyShare l Δ sR_c hi6 hw7 h) mY_X12_busyShare kw_2262 kw_2263 kw_2264 a_504 (by decide) (q := (RX12, TX12, 49)) rfl rfl ⟨Nat.le_trans (Nat.le_of_ble_eq_true rfl) hR0.1, Nat.le_trans (Nat.le_of_ble_eq_true rfl) hR0.2.1, by omega, by omega⟩ rfl (Nat.le_of_ble_eq_true rfl) dL_law_2146 rfl (fun v10 i11 r12 hi14 hw15 hq16 => ?_)
  obtain ⟨e43, h⟩ := hq16
  subst e43
  refine V.fstore (pc := 2149) (lv' := [(7, .float v10), (6, .int (sJ v2)), (0, .ref b), (1, .ref (sA Δ 0)), (2, .ref (sA Δ 504)), (3, .ref (sA Δ 540)), (4, .ref (sA Δ 541)), (5, .int (sJ x5))]) hG dL_law_2149 (by decide) rfl ?_
  refine V.aload_n (pc := 2151) hG dL_law_2151 rfl 4 rfl ?_
  refine V.callVi (pc := 2152) (As := []) (stk := []) hG (sm_X12_thrown l Δ  hi14 hw7 h) mY_X12_thrown kw_1840 kw_1841 kw_1842 a_504 (by decide) (q := (RX12, TX12, 49)) rfl rfl ⟨Nat.le_trans (Nat.le_of_ble_eq_true rfl) hR0.1, Nat.le_trans (Nat.le_of_ble_eq_true rfl) hR0.2.1, by omega, by omega⟩ rfl (Nat.le_of_ble_eq_true rfl) dL_law_2152 rfl (fun v17 i18 r19 hv20 hi21 hw22 hq23 => ?_)
  obtain ⟨e40, e41, h⟩ := hq23
  subst e40
  subst e41
  refine V.iload (pc := 2155) hG dL_law_2155 1 rfl ?_
  obtain ⟨t25, f26⟩ := h
  refine V.icmp_eq (pc := 2157) (tgt := 2162) hG hv20 hv5 dL_law_2157 (by decide) (fun c24 => ?_) (fun c24 => ?_)
  · have h := t25 c24
    clear t25 f26
    refine V.iload (pc := 2162) hG dL_law_2162 1 rfl ?_
    obtain ⟨f29, t28⟩ := h
    refine V.if_ne (pc := 2164) (tgt := 2200) hG hv5 dL_law_2164 (by decide) (fun c27 => ?_) (fun c27 => ?_)
    · have h := t28 c27
      clear t28 f29
      refine V.pick [2, 3, 4, 5, 6, 7] rfl ?_
      exact jn2200 i11 r4 hi14 hw7 h
    · have h := f29 c27
      clear t28 f29
      refine V.aload (pc := 2167) hG dL_law_2167 6 rfl ?_
      refine V.iconst (pc := 2169) hG dL_law_2169 ?_
      refine V.dald0 (pc := 2170) (z := 1) (o := 541) hG a_541 a_541.n (by decide) dL_law_2170 ?_
      refine V.fload (pc := 2171) hG dL_law_2171 0 rfl ?_
      obtain ⟨g30, h⟩ := h
      refine V.f2d (pc := 2173) hG g30 dL_law_2173 ?_
      refine V.dcmp (pc := 2174) hG dL_law_2174 ?_
      obtain ⟨t32, f33⟩ := h
      refine V.if_eq (pc := 2175) (tgt := 2200) hG ((sR_of _)) dL_law_2175 (by decide) (fun c31 => ?_) (fun c31 => ?_)
      · have h := t32 c31
        clear t32 f33
        refine V.pick [2, 3, 4, 5, 6, 7] rfl ?_
        exact jn2200 i11 r4 hi14 hw7 h
      · have h := f33 c31
        clear t32 f33
        refine V.aload (pc := 2178) hG dL_law_2178 6 rfl ?_
        refine V.iconst (pc := 2180) hG dL_law_2180 ?_
        refine V.dald0 (pc := 2181) (z := 1) (o := 541) hG a_541 a_541.n (by decide) dL_law_2181 ?_
        refine V.aload (pc := 2182) hG dL_law_2182 6 rfl ?_
        refine V.iconst (pc := 2184) hG dL_law_2184 ?_
        refine V.dald0 (pc := 2185) (z := 1) (o := 541) hG a_541 a_541.n (by decide) dL_law_2185 ?_
        refine V.dcmp (pc := 2186) hG dL_law_2186 ?_
        obtain ⟨t35, f36⟩ := h
        refine V.if_eq (pc := 2187) (tgt := 2198) hG ((sR_of _)) dL_law_2187 (by decide) (fun c34 => ?_) (fun c34 => ?_)
        · have h := t35 c34
          clear t35 f36
          refine V.pick [] rfl ?_
          exact jn2198 i11 r4 hi14 hw7 h
        · have h := f36 c34
          clear t35 f36
          refine V.fload (pc := 2190) hG dL_law_2190 0 rfl ?_
          refine V.fload (pc := 2192) hG dL_law_2192 0 rfl ?_
          refine V.fcmp (pc := 2194) hG dL_law_2194 ?_
          obtain ⟨f39, t38⟩ := h
          refine V.if_ne (pc := 2195) (tgt := 2200) hG ((sR_of _)) dL_law_2195 (by decide) (fun c37 => ?_) (fun c37 => ?_)
          · have h := t38 c37
            clear t38 f39
            refine V.pick [2, 3, 4, 5, 6, 7] rfl ?_
            exact jn2200 i11 r4 hi14 hw7 h
          · have h := f39 c37
            clear t38 f39
            refine V.pick [] rfl ?_
            exact jn2198 i11 r4 hi14 hw7 h
  · have h := f26 c24
    clear t25 f26
    refine V.iconst (pc := 2160) hG dL_law_2160 ?_
    exact h.elim
set_option maxRecDepth 100000 in
set_option maxHeartbeats 4000000 in
theorem lc_47 {Γ : Cx} {Δ : Wd} {l : Launch} {R : Room} {Q0 : State → Prop} {b : Nat} {xs : Nat → Int32} {L : Nat} {x5 : Int} {kc sl : Nat} {C : MI → MI → Prop} {i r : MI} (hst : l.stackTraces = false) (hG : okG Γ Δ l R cL_law "SchedularyLaw" 9) (hX : okS Γ Δ b L xs) (hR0 : 20 ≤ R.frames ∧ 10000 ≤ R.locals ∧ kc + 3 ≤ R.cells ∧ sl + 18 ≤ R.slots) (hx5 : sR x5) (hi : okI i) (hw : Wf r) (h : wc_47 xs L C x5 i r)
    (kk : ∀ i' r' : MI, okI i' → Wf r' → C i' r' → V Γ Δ 542 false i' r' (kc + 3) (sl + 18) Q0 2281 [(0, .ref b), (1, .ref (sA Δ 0)), (2, .ref (sA Δ 504)), (3, .ref (sA Δ 540)), (4, .ref (sA Δ 541)), (5, .int (sJ x5))] []) : V Γ Δ 542 false i r kc sl Q0 2203 [(0, .ref b), (1, .ref (sA Δ 0)), (2, .ref (sA Δ 504)), (3, .ref (sA Δ 540)), (4, .ref (sA Δ 541)), (5, .int (sJ x5))] [] := by
  unfold wc_47 at h
  have jn2265 : ∀  (ij2265 : MI) (rj2265 : MI), okI ij2265 → Wf rj2265 → s2265_LC47 x5 ij2265 rj2265 xs L C → V Γ Δ 542 false ij2265 rj2265 (kc + 3) (sl + 18) Q0 2265 [(0, .ref b), (1, .ref (sA Δ 0)), (2, .ref (sA Δ 504)), (3, .ref (sA Δ 540)), (4, .ref (sA Δ 541)), (5, .int (sJ x5))] [] := by
    intro ij2265 rj2265 hij2265 hwj2265 h
    refine V.goto (pc := 2265) (tgt := 2281) hG dL_law_2265 (by decide) ?_
    refine V.ks (kc2 := kc + 3) (sl2 := sl + 18) (by omega) (by omega) ?_
    exact kk ij2265 rj2265 hij2265 hwj2265 h
  have jn2263 : ∀  (ij2263 : MI) (rj2263 : MI), okI ij2263 → Wf rj2263 → s2263_LC47 ij2263 rj2263 xs L C → V Γ Δ 542 false ij2263 rj2263 (kc + 3) (sl + 18) Q0 2263 [] [] := by
    intro ij2263 rj2263 hij2263 hwj2263 h
    refine V.iconst (pc := 2263) hG dL_law_2263 ?_
    exact h.elim
  refine V.aload_n (pc := 2203) hG dL_law_2203 rfl 1 rfl ?_
  refine V.aload (pc := 2204) hG dL_law_2204 4 rfl ?_
  refine V.callSWi (pc := 2206) (na := 2) (As := [.ref (sA Δ 0), .ref (sA Δ 541)]) (stk := []) hG (sm_L_meanStep l Δ  hst hi hw h) kw_157 kl_L_meanStep (by decide) (by decide +kernel) kw_1662 kw_1663 ⟨Nat.le_trans (Nat.le_of_ble_eq_true rfl) hR0.1, Nat.le_trans (Nat.le_of_ble_eq_true rfl) hR0.2.1, by omega, by omega⟩ rfl (Nat.le_of_ble_eq_true rfl) dL_law_2206 rfl (fun v1 i2 r3 hv4 hi5 hw6 hq7 => ?_)
  have h := hq7
  refine V.ks (kc2 := kc + 3) (sl2 := sl + 18) (by omega) (by omega) ?_
  refine V.istore (pc := 2209) (lv' := [(6, .int (sJ v1)), (0, .ref b), (1, .ref (sA Δ 0)), (2, .ref (sA Δ 504)), (3, .ref (sA Δ 540)), (4, .ref (sA Δ 541)), (5, .int (sJ x5))]) hG dL_law_2209 (by decide) rfl ?_
  refine V.aload_n (pc := 2211) hG dL_law_2211 rfl 3 rfl ?_
  refine V.callVd (pc := 2212) (As := []) (stk := []) hG (sm_X12_meanStep l Δ  hi5 hw6 h) mY_X12_meanStep kw_2266 kw_2267 kw_2268 a_504 (by decide) (q := (RX12, TX12, 49)) rfl rfl ⟨Nat.le_trans (Nat.le_of_ble_eq_true rfl) hR0.1, Nat.le_trans (Nat.le_of_ble_eq_true rfl) hR0.2.1, by omega, by omega⟩ rfl (Nat.le_of_ble_eq_true rfl) dL_law_2212 rfl (fun v8 i9 r10 hi12 hw13 hq14 => ?_)
  obtain ⟨e40, h⟩ := hq14
  subst e40
  refine V.dstore (pc := 2215) (lv' := [(7, .double v8), (6, .int (sJ v1)), (0, .ref b), (1, .ref (sA Δ 0)), (2, .ref (sA Δ 504)), (3, .ref (sA Δ 540)), (4, .ref (sA Δ 541)), (5, .int (sJ x5))]) hG dL_law_2215 (by decide) rfl ?_
  refine V.aload_n (pc := 2217) hG dL_law_2217 rfl 4 rfl ?_
  refine V.callVi (pc := 2218) (As := []) (stk := []) hG (sm_X12_thrown l Δ  hi12 hw6 h) mY_X12_thrown kw_1840 kw_1841 kw_1842 a_504 (by decide) (q := (RX12, TX12, 49)) rfl rfl ⟨Nat.le_trans (Nat.le_of_ble_eq_true rfl) hR0.1, Nat.le_trans (Nat.le_of_ble_eq_true rfl) hR0.2.1, by omega, by omega⟩ rfl (Nat.le_of_ble_eq_true rfl) dL_law_2218 rfl (fun v15 i16 r17 hv18 hi19 hw20 hq21 => ?_)
  obtain ⟨e37, e38, h⟩ := hq21
  subst e37
  subst e38
  refine V.iload (pc := 2221) hG dL_law_2221 1 rfl ?_
  obtain ⟨t23, f24⟩ := h
  refine V.icmp_eq (pc := 2223) (tgt := 2228) hG hv18 hv4 dL_law_2223 (by decide) (fun c22 => ?_) (fun c22 => ?_)
  · have h := t23 c22
    clear t23 f24
    refine V.iload (pc := 2228) hG dL_law_2228 1 rfl ?_
    obtain ⟨f27, t26⟩ := h
    refine V.if_ne (pc := 2230) (tgt := 2265) hG hv4 dL_law_2230 (by decide) (fun c25 => ?_) (fun c25 => ?_)
    · have h := t26 c25
      clear t26 f27
      refine V.pick [2, 3, 4, 5, 6, 7] rfl ?_
      exact jn2265 i9 r3 hi12 hw6 h
    · have h := f27 c25
      clear t26 f27
      refine V.aload (pc := 2233) hG dL_law_2233 6 rfl ?_
      refine V.iconst (pc := 2235) hG dL_law_2235 ?_
      refine V.dald0 (pc := 2236) (z := 1) (o := 541) hG a_541 a_541.n (by decide) dL_law_2236 ?_
      refine V.dload (pc := 2237) hG dL_law_2237 0 rfl ?_
      refine V.dcmp (pc := 2239) hG dL_law_2239 ?_
      obtain ⟨t29, f30⟩ := h
      refine V.if_eq (pc := 2240) (tgt := 2265) hG ((sR_of _)) dL_law_2240 (by decide) (fun c28 => ?_) (fun c28 => ?_)
      · have h := t29 c28
        clear t29 f30
        refine V.pick [2, 3, 4, 5, 6, 7] rfl ?_
        exact jn2265 i9 r3 hi12 hw6 h
      · have h := f30 c28
        clear t29 f30
        refine V.aload (pc := 2243) hG dL_law_2243 6 rfl ?_
        refine V.iconst (pc := 2245) hG dL_law_2245 ?_
        refine V.dald0 (pc := 2246) (z := 1) (o := 541) hG a_541 a_541.n (by decide) dL_law_2246 ?_
        refine V.aload (pc := 2247) hG dL_law_2247 6 rfl ?_
        refine V.iconst (pc := 2249) hG dL_law_2249 ?_
        refine V.dald0 (pc := 2250) (z := 1) (o := 541) hG a_541 a_541.n (by decide) dL_law_2250 ?_
        refine V.dcmp (pc := 2251) hG dL_law_2251 ?_
        obtain ⟨t32, f33⟩ := h
        refine V.if_eq (pc := 2252) (tgt := 2263) hG ((sR_of _)) dL_law_2252 (by decide) (fun c31 => ?_) (fun c31 => ?_)
        · have h := t32 c31
          clear t32 f33
          refine V.pick [] rfl ?_
          exact jn2263 i9 r3 hi12 hw6 h
        · have h := f33 c31
          clear t32 f33
          refine V.dload (pc := 2255) hG dL_law_2255 0 rfl ?_
          refine V.dload (pc := 2257) hG dL_law_2257 0 rfl ?_
          refine V.dcmp (pc := 2259) hG dL_law_2259 ?_
          obtain ⟨f36, t35⟩ := h
          refine V.if_ne (pc := 2260) (tgt := 2265) hG ((sR_of _)) dL_law_2260 (by decide) (fun c34 => ?_) (fun c34 => ?_)
          · have h := t35 c34
            clear t35 f36
            refine V.pick [2, 3, 4, 5, 6, 7] rfl ?_
            exact jn2265 i9 r3 hi12 hw6 h
          · have h := f36 c34
            clear t35 f36
            refine V.pick [] rfl ?_
            exact jn2263 i9 r3 hi12 hw6 h
  · have h := f24 c22
    clear t23 f24
    refine V.iconst (pc := 2226) hG dL_law_2226 ?_
    exact h.elim
set_option maxRecDepth 100000 in
set_option maxHeartbeats 4000000 in
theorem lc_48 {Γ : Cx} {Δ : Wd} {l : Launch} {R : Room} {Q0 : State → Prop} {b : Nat} {xs : Nat → Int32} {L : Nat} {x5 : Int} {kc sl : Nat} {C : MI → MI → Prop} {i r : MI} (hst : l.stackTraces = false) (hG : okG Γ Δ l R cL_law "SchedularyLaw" 9) (hX : okS Γ Δ b L xs) (hR0 : 20 ≤ R.frames ∧ 10000 ≤ R.locals ∧ kc + 3 ≤ R.cells ∧ sl + 18 ≤ R.slots) (hx5 : sR x5) (hi : okI i) (hw : Wf r) (h : wc_48 xs L C x5 i r)
    (kk : ∀ i' r' : MI, okI i' → Wf r' → C i' r' → V Γ Δ 542 false i' r' (kc + 3) (sl + 18) Q0 2281 [(0, .ref b), (1, .ref (sA Δ 0)), (2, .ref (sA Δ 504)), (3, .ref (sA Δ 540)), (4, .ref (sA Δ 541)), (5, .int (sJ x5))] []) : V Γ Δ 542 false i r kc sl Q0 2268 [(0, .ref b), (1, .ref (sA Δ 0)), (2, .ref (sA Δ 504)), (3, .ref (sA Δ 540)), (4, .ref (sA Δ 541)), (5, .int (sJ x5))] [] := by
  refine V.ks (kc2 := kc + 3) (sl2 := sl + 18) (by omega) (by omega) ?_
  unfold wc_48 at h
  refine V.aload_n (pc := 2268) hG dL_law_2268 rfl 1 rfl ?_
  refine V.callVi (pc := 2269) (As := []) (stk := []) hG (sm_X11_isSound l Δ  hi hw h) mY_X11_isSound kw_1213 kw_1214 kw_1215 a_0 (by decide) (q := (RX11, TX11, 11)) rfl rfl ⟨Nat.le_trans (Nat.le_of_ble_eq_true rfl) hR0.1, Nat.le_trans (Nat.le_of_ble_eq_true rfl) hR0.2.1, by omega, by omega⟩ rfl (Nat.le_of_ble_eq_true rfl) dL_law_2269 rfl (fun v1 i2 r3 hv4 hi5 hw6 hq7 => ?_)
  have h := hq7
  refine V.aload_n (pc := 2272) hG dL_law_2272 rfl 2 rfl ?_
  refine V.callVi (pc := 2273) (As := []) (stk := [.int (sJ v1)]) hG (sm_X12_isSound l Δ  hi5 hw6 h) mY_X12_isSound kw_2270 kw_2271 kw_2272 a_504 (by decide) (q := (RX12, TX12, 49)) rfl rfl ⟨Nat.le_trans (Nat.le_of_ble_eq_true rfl) hR0.1, Nat.le_trans (Nat.le_of_ble_eq_true rfl) hR0.2.1, by omega, by omega⟩ rfl (Nat.le_of_ble_eq_true rfl) dL_law_2273 rfl (fun v8 i9 r10 hv11 hi12 hw13 hq14 => ?_)
  obtain ⟨e19, h⟩ := hq14
  subst e19
  obtain ⟨t16, f17⟩ := h
  refine V.icmp_eq (pc := 2276) (tgt := 2281) hG hv4 hv11 dL_law_2276 (by decide) (fun c15 => ?_) (fun c15 => ?_)
  · have h := t16 c15
    clear t16 f17
    exact kk i9 r3 hi12 hw6 h
  · have h := f17 c15
    clear t16 f17
    refine V.iconst (pc := 2279) hG dL_law_2279 ?_
    exact h.elim
