/-! ===== the loop over the script ===== -/
def wcAt (n : Nat) : (Nat → Int32) → Int → (MI → MI → Prop) → Int → MI → MI → Prop := match n with
  | 0 => wc_0
  | 1 => wc_1
  | 2 => wc_2
  | 3 => wc_3
  | 4 => wc_4
  | 5 => wc_5
  | 6 => wc_6
  | 7 => wc_7
  | 8 => wc_8
  | 9 => wc_9
  | 10 => wc_10
  | 11 => wc_11
  | 12 => wc_12
  | 13 => wc_13
  | 14 => wc_14
  | 15 => wc_15
  | 16 => wc_16
  | 17 => wc_17
  | 18 => wc_18
  | 19 => wc_19
  | 20 => wc_20
  | 21 => wc_21
  | 22 => wc_22
  | 23 => wc_23
  | 24 => wc_24
  | 25 => wc_25
  | 26 => wc_26
  | 27 => wc_27
  | 28 => wc_28
  | 29 => wc_29
  | 30 => wc_30
  | 31 => wc_31
  | 32 => wc_32
  | 33 => wc_33
  | 34 => wc_34
  | 35 => wc_35
  | 36 => wc_36
  | 37 => wc_37
  | 38 => wc_38
  | 39 => wc_39
  | 40 => wc_40
  | 41 => wc_41
  | 42 => wc_42
  | 43 => wc_43
  | 44 => wc_44
  | 45 => wc_45
  | 46 => wc_46
  | 47 => wc_47
  | 48 => wc_48
  | _ => fun _ _ _ _ _ _ => True
/-- what the pure part owes: every case keeps Inv -/
def Cases (Inv : MI → MI → Prop) : Prop := ∀ n : Nat, n < 49 → ∀ (xs : Nat → Int32) (L : Nat) (x5 : Int) (i r : MI), L ≤ 2048 → 0 ≤ x5 → x5 + 4 ≤ L → okI i → Wf r → Inv i r → wcAt n xs L Inv x5 i r
set_option maxRecDepth 100000 in
set_option maxHeartbeats 4000000 in
theorem law_loop {Γ : Cx} {Δ : Wd} {l : Launch} {R : Room} {Q0 : State → Prop} {b L : Nat} {xs : Nat → Int32} (hst : l.stackTraces = false) (hG : okG Γ Δ l R cL_law "SchedularyLaw" 9) (hX : okS Γ Δ b L xs) (hL : L ≤ 2048) (hR0 : 20 ≤ R.frames ∧ 10000 ≤ R.locals ∧ 603072 ≤ R.cells ∧ 7207018 ≤ R.slots) {Inv : MI → MI → Prop} (hC : Cases Inv)
    (fin : ∀ {i r : MI} {kc sl : Nat} {lv : List (Nat × Value)}, okI i → Wf r → kc ≤ 603072 → sl ≤ 7207018 → V Γ Δ 542 false i r kc sl Q0 2288 lv [.int (sJ 1)]) :
    ∀ (k : Nat) (x5 : Int) (i r : MI) (kc sl : Nat), ((L : Int) + 4 - x5).toNat < k → 0 ≤ x5 → x5 ≤ (L : Int) + 4 → (kc : Int) ≤ 542 + x5 → (sl : Int) ≤ 150213 + 6 * x5 → okI i → Wf r → Inv i r → V Γ Δ 542 false i r kc sl Q0 28 [(0, .ref b), (1, .ref (sA Δ 0)), (2, .ref (sA Δ 504)), (3, .ref (sA Δ 540)), (4, .ref (sA Δ 541)), (5, .int (sJ x5))] [] := by
  intro k
  induction k with
  | zero => intro x5 i r kc sl hk; omega
  | succ k ih =>
    intro x5 i r kc sl hk h0 h1 hkc hsl hi hw hI
    have hx5 : sR x5 := ⟨by omega, by omega⟩
    have hwl : wr ((L : Int) - 4) = L - 4 := wr_eq ⟨by omega, by omega⟩
    refine V.iload (pc := 28) hG dL_law_28 5 rfl ?_
    refine V.aload_n (pc := 30) hG dL_law_30 rfl 0 rfl ?_
    refine V.sclen (pc := 31) hG hX dL_law_31 ?_
    refine V.iconst (pc := 32) hG dL_law_32 ?_
    refine V.isub (pc := 33) hG dL_law_33 ?_
    refine V.icmp_gt (pc := 34) (tgt := 2287) hG hx5 (sR_wr _) dL_law_34 (by decide) (fun c => ?_) (fun c => ?_)
    · refine V.iconst (pc := 2287) hG dL_law_2287 ?_
      exact fin hi hw (by omega) (by omega)
    · rw [hwl] at c
      refine V.aload_n (pc := 37) hG dL_law_37 rfl 0 rfl ?_
      refine V.iload (pc := 38) hG dL_law_38 5 rfl ?_
      refine V.sld (pc := 40) hG hX hx5 ⟨h0, by omega⟩ dL_law_40 ?_
      refine V.bipush (pc := 41) hG dL_law_41 (by decide) ?_
      refine V.iand (pc := 43) hG dL_law_43 ?_
      have tail : ∀ i' r' : MI, okI i' → Wf r' → Inv i' r' → V Γ Δ 542 false i' r' (kc + 3) (sl + 18) Q0 2281 [(0, .ref b), (1, .ref (sA Δ 0)), (2, .ref (sA Δ 504)), (3, .ref (sA Δ 540)), (4, .ref (sA Δ 541)), (5, .int (sJ x5))] [] := by
        intro i' r' hi' hw' hI'
        refine V.iinc (pc := 2281) (x := x5) (lv' := [(5, .int (sJ (x5 + 4))), (0, .ref b), (1, .ref (sA Δ 0)), (2, .ref (sA Δ 504)), (3, .ref (sA Δ 540)), (4, .ref (sA Δ 541))]) hG dL_law_2281 5 rfl (by decide) ?_ ?_
        · rw [show wr (x5 + 4) = x5 + 4 from wr_eq ⟨by omega, by omega⟩]
          rfl
        · refine V.goto (pc := 2284) (tgt := 28) hG dL_law_2284 (by decide) ?_
          refine V.pick [1, 2, 3, 4, 5, 0] rfl ?_
          exact ih (x5 + 4) i' r' (kc + 3) (sl + 18) (by omega) (by omega) (by omega) (by omega) (by omega) hi' hw' hI'
      have hp : ∀ n : Nat, n < 49 → wcAt n xs L Inv x5 i r := fun n hn => hC n hn xs L x5 i r hL h0 (by omega) hi hw hI
      have hRc : 20 ≤ R.frames ∧ 10000 ≤ R.locals ∧ kc + 3 ≤ R.cells ∧ sl + 18 ≤ R.slots := ⟨hR0.1, hR0.2.1, by omega, by omega⟩
      by_cases ho : iAnd (sv xs x5) 63 < 0 ∨ 48 < iAnd (sv xs x5) 63
      · refine V.tableOut (pc := 44) (tgt := 2281) hG (sR_and _ _) dL_law_44 ho (by decide) ?_
        exact V.ks (kc2 := kc + 3) (sl2 := sl + 18) (by omega) (by omega) (tail i r hi hw hI)
      have b0 : 0 ≤ iAnd (sv xs x5) 63 := by omega
      have bu : iAnd (sv xs x5) 63 ≤ 48 := by omega
      clear ho
      by_cases c0 : iAnd (sv xs x5) 63 = 0
      · refine V.tableIn (pc := 44) (tgt := 256) (off := 212) hG (sR_and _ _) dL_law_44 (by omega) (by omega) (by rw [c0]; rfl) (by decide) ?_
        exact lc_0 hst hG hX hRc hx5 hi hw (hp 0 (by decide)) tail
      have b1 : 1 ≤ iAnd (sv xs x5) 63 := by omega
      clear c0 b0
      by_cases c1 : iAnd (sv xs x5) 63 = 1
      · refine V.tableIn (pc := 44) (tgt := 314) (off := 270) hG (sR_and _ _) dL_law_44 (by omega) (by omega) (by rw [c1]; rfl) (by decide) ?_
        exact lc_1 hst hG hX hRc hx5 hi hw (hp 1 (by decide)) tail
      have b2 : 2 ≤ iAnd (sv xs x5) 63 := by omega
      clear c1 b1
      by_cases c2 : iAnd (sv xs x5) 63 = 2
      · refine V.tableIn (pc := 44) (tgt := 327) (off := 283) hG (sR_and _ _) dL_law_44 (by omega) (by omega) (by rw [c2]; rfl) (by decide) ?_
        exact lc_2 hst hG hX hRc hx5 hi hw (hp 2 (by decide)) tail
      have b3 : 3 ≤ iAnd (sv xs x5) 63 := by omega
      clear c2 b2
      by_cases c3 : iAnd (sv xs x5) 63 = 3
      · refine V.tableIn (pc := 44) (tgt := 340) (off := 296) hG (sR_and _ _) dL_law_44 (by omega) (by omega) (by rw [c3]; rfl) (by decide) ?_
        exact lc_3 hst hG hX hRc hx5 hi hw (hp 3 (by decide)) tail
      have b4 : 4 ≤ iAnd (sv xs x5) 63 := by omega
      clear c3 b3
      by_cases c4 : iAnd (sv xs x5) 63 = 4
      · refine V.tableIn (pc := 44) (tgt := 384) (off := 340) hG (sR_and _ _) dL_law_44 (by omega) (by omega) (by rw [c4]; rfl) (by decide) ?_
        exact lc_4 hst hG hX hRc hx5 hi hw (hp 4 (by decide)) tail
      have b5 : 5 ≤ iAnd (sv xs x5) 63 := by omega
      clear c4 b4
      by_cases c5 : iAnd (sv xs x5) 63 = 5
      · refine V.tableIn (pc := 44) (tgt := 440) (off := 396) hG (sR_and _ _) dL_law_44 (by omega) (by omega) (by rw [c5]; rfl) (by decide) ?_
        exact lc_5 hst hG hX hRc hx5 hi hw (hp 5 (by decide)) tail
      have b6 : 6 ≤ iAnd (sv xs x5) 63 := by omega
      clear c5 b5
      by_cases c6 : iAnd (sv xs x5) 63 = 6
      · refine V.tableIn (pc := 44) (tgt := 496) (off := 452) hG (sR_and _ _) dL_law_44 (by omega) (by omega) (by rw [c6]; rfl) (by decide) ?_
        exact lc_6 hst hG hX hRc hx5 hi hw (hp 6 (by decide)) tail
      have b7 : 7 ≤ iAnd (sv xs x5) 63 := by omega
      clear c6 b6
      by_cases c7 : iAnd (sv xs x5) 63 = 7
      · refine V.tableIn (pc := 44) (tgt := 552) (off := 508) hG (sR_and _ _) dL_law_44 (by omega) (by omega) (by rw [c7]; rfl) (by decide) ?_
        exact lc_7 hst hG hX hRc hx5 hi hw (hp 7 (by decide)) tail
      have b8 : 8 ≤ iAnd (sv xs x5) 63 := by omega
      clear c7 b7
      by_cases c8 : iAnd (sv xs x5) 63 = 8
      · refine V.tableIn (pc := 44) (tgt := 608) (off := 564) hG (sR_and _ _) dL_law_44 (by omega) (by omega) (by rw [c8]; rfl) (by decide) ?_
        exact lc_8 hst hG hX hRc hx5 hi hw (hp 8 (by decide)) tail
      have b9 : 9 ≤ iAnd (sv xs x5) 63 := by omega
      clear c8 b8
      by_cases c9 : iAnd (sv xs x5) 63 = 9
      · refine V.tableIn (pc := 44) (tgt := 664) (off := 620) hG (sR_and _ _) dL_law_44 (by omega) (by omega) (by rw [c9]; rfl) (by decide) ?_
        exact lc_9 hst hG hX hRc hx5 hi hw (hp 9 (by decide)) tail
      have b10 : 10 ≤ iAnd (sv xs x5) 63 := by omega
      clear c9 b9
      by_cases c10 : iAnd (sv xs x5) 63 = 10
      · refine V.tableIn (pc := 44) (tgt := 746) (off := 702) hG (sR_and _ _) dL_law_44 (by omega) (by omega) (by rw [c10]; rfl) (by decide) ?_
        exact lc_10 hst hG hX hRc hx5 hi hw (hp 10 (by decide)) tail
      have b11 : 11 ≤ iAnd (sv xs x5) 63 := by omega
      clear c10 b10
      by_cases c11 : iAnd (sv xs x5) 63 = 11
      · refine V.tableIn (pc := 44) (tgt := 816) (off := 772) hG (sR_and _ _) dL_law_44 (by omega) (by omega) (by rw [c11]; rfl) (by decide) ?_
        exact lc_11 hst hG hX hRc hx5 hi hw (hp 11 (by decide)) tail
      have b12 : 12 ≤ iAnd (sv xs x5) 63 := by omega
      clear c11 b11
      by_cases c12 : iAnd (sv xs x5) 63 = 12
      · refine V.tableIn (pc := 44) (tgt := 886) (off := 842) hG (sR_and _ _) dL_law_44 (by omega) (by omega) (by rw [c12]; rfl) (by decide) ?_
        exact lc_12 hst hG hX hRc hx5 hi hw (hp 12 (by decide)) tail
      have b13 : 13 ≤ iAnd (sv xs x5) 63 := by omega
      clear c12 b12
      by_cases c13 : iAnd (sv xs x5) 63 = 13
      · refine V.tableIn (pc := 44) (tgt := 899) (off := 855) hG (sR_and _ _) dL_law_44 (by omega) (by omega) (by rw [c13]; rfl) (by decide) ?_
        exact lc_13 hst hG hX hRc hx5 hi hw (hp 13 (by decide)) tail
      have b14 : 14 ≤ iAnd (sv xs x5) 63 := by omega
      clear c13 b13
      by_cases c14 : iAnd (sv xs x5) 63 = 14
      · refine V.tableIn (pc := 44) (tgt := 955) (off := 911) hG (sR_and _ _) dL_law_44 (by omega) (by omega) (by rw [c14]; rfl) (by decide) ?_
        exact lc_14 hst hG hX hRc hx5 hi hw (hp 14 (by decide)) tail
      have b15 : 15 ≤ iAnd (sv xs x5) 63 := by omega
      clear c14 b14
      by_cases c15 : iAnd (sv xs x5) 63 = 15
      · refine V.tableIn (pc := 44) (tgt := 1025) (off := 981) hG (sR_and _ _) dL_law_44 (by omega) (by omega) (by rw [c15]; rfl) (by decide) ?_
        exact lc_15 hst hG hX hRc hx5 hi hw (hp 15 (by decide)) tail
      have b16 : 16 ≤ iAnd (sv xs x5) 63 := by omega
      clear c15 b15
      by_cases c16 : iAnd (sv xs x5) 63 = 16
      · refine V.tableIn (pc := 44) (tgt := 1083) (off := 1039) hG (sR_and _ _) dL_law_44 (by omega) (by omega) (by rw [c16]; rfl) (by decide) ?_
        exact lc_16 hst hG hX hRc hx5 hi hw (hp 16 (by decide)) tail
      have b17 : 17 ≤ iAnd (sv xs x5) 63 := by omega
      clear c16 b16
      by_cases c17 : iAnd (sv xs x5) 63 = 17
      · refine V.tableIn (pc := 44) (tgt := 1096) (off := 1052) hG (sR_and _ _) dL_law_44 (by omega) (by omega) (by rw [c17]; rfl) (by decide) ?_
        exact lc_17 hst hG hX hRc hx5 hi hw (hp 17 (by decide)) tail
      have b18 : 18 ≤ iAnd (sv xs x5) 63 := by omega
      clear c17 b17
      by_cases c18 : iAnd (sv xs x5) 63 = 18
      · refine V.tableIn (pc := 44) (tgt := 1109) (off := 1065) hG (sR_and _ _) dL_law_44 (by omega) (by omega) (by rw [c18]; rfl) (by decide) ?_
        exact lc_18 hst hG hX hRc hx5 hi hw (hp 18 (by decide)) tail
      have b19 : 19 ≤ iAnd (sv xs x5) 63 := by omega
      clear c18 b18
      by_cases c19 : iAnd (sv xs x5) 63 = 19
      · refine V.tableIn (pc := 44) (tgt := 1165) (off := 1121) hG (sR_and _ _) dL_law_44 (by omega) (by omega) (by rw [c19]; rfl) (by decide) ?_
        exact lc_19 hst hG hX hRc hx5 hi hw (hp 19 (by decide)) tail
      have b20 : 20 ≤ iAnd (sv xs x5) 63 := by omega
      clear c19 b19
      by_cases c20 : iAnd (sv xs x5) 63 = 20
      · refine V.tableIn (pc := 44) (tgt := 1221) (off := 1177) hG (sR_and _ _) dL_law_44 (by omega) (by omega) (by rw [c20]; rfl) (by decide) ?_
        exact lc_20 hst hG hX hRc hx5 hi hw (hp 20 (by decide)) tail
      have b21 : 21 ≤ iAnd (sv xs x5) 63 := by omega
      clear c20 b20
      by_cases c21 : iAnd (sv xs x5) 63 = 21
      · refine V.tableIn (pc := 44) (tgt := 1234) (off := 1190) hG (sR_and _ _) dL_law_44 (by omega) (by omega) (by rw [c21]; rfl) (by decide) ?_
        exact lc_21 hst hG hX hRc hx5 hi hw (hp 21 (by decide)) tail
      have b22 : 22 ≤ iAnd (sv xs x5) 63 := by omega
      clear c21 b21
      by_cases c22 : iAnd (sv xs x5) 63 = 22
      · refine V.tableIn (pc := 44) (tgt := 1314) (off := 1270) hG (sR_and _ _) dL_law_44 (by omega) (by omega) (by rw [c22]; rfl) (by decide) ?_
        exact lc_22 hst hG hX hRc hx5 hi hw (hp 22 (by decide)) tail
      have b23 : 23 ≤ iAnd (sv xs x5) 63 := by omega
      clear c22 b22
      by_cases c23 : iAnd (sv xs x5) 63 = 23
      · refine V.tableIn (pc := 44) (tgt := 1370) (off := 1326) hG (sR_and _ _) dL_law_44 (by omega) (by omega) (by rw [c23]; rfl) (by decide) ?_
        exact lc_23 hst hG hX hRc hx5 hi hw (hp 23 (by decide)) tail
      have b24 : 24 ≤ iAnd (sv xs x5) 63 := by omega
      clear c23 b23
      by_cases c24 : iAnd (sv xs x5) 63 = 24
      · refine V.tableIn (pc := 44) (tgt := 1426) (off := 1382) hG (sR_and _ _) dL_law_44 (by omega) (by omega) (by rw [c24]; rfl) (by decide) ?_
        exact lc_24 hst hG hX hRc hx5 hi hw (hp 24 (by decide)) tail
      have b25 : 25 ≤ iAnd (sv xs x5) 63 := by omega
      clear c24 b24
      by_cases c25 : iAnd (sv xs x5) 63 = 25
      · refine V.tableIn (pc := 44) (tgt := 1482) (off := 1438) hG (sR_and _ _) dL_law_44 (by omega) (by omega) (by rw [c25]; rfl) (by decide) ?_
        exact lc_25 hst hG hX hRc hx5 hi hw (hp 25 (by decide)) tail
      have b26 : 26 ≤ iAnd (sv xs x5) 63 := by omega
      clear c25 b25
      by_cases c26 : iAnd (sv xs x5) 63 = 26
      · refine V.tableIn (pc := 44) (tgt := 1495) (off := 1451) hG (sR_and _ _) dL_law_44 (by omega) (by omega) (by rw [c26]; rfl) (by decide) ?_
        exact lc_26 hst hG hX hRc hx5 hi hw (hp 26 (by decide)) tail
      have b27 : 27 ≤ iAnd (sv xs x5) 63 := by omega
      clear c26 b26
      by_cases c27 : iAnd (sv xs x5) 63 = 27
      · refine V.tableIn (pc := 44) (tgt := 1520) (off := 1476) hG (sR_and _ _) dL_law_44 (by omega) (by omega) (by rw [c27]; rfl) (by decide) ?_
        exact lc_27 hst hG hX hRc hx5 hi hw (hp 27 (by decide)) tail
      have b28 : 28 ≤ iAnd (sv xs x5) 63 := by omega
      clear c27 b27
      by_cases c28 : iAnd (sv xs x5) 63 = 28
      · refine V.tableIn (pc := 44) (tgt := 1533) (off := 1489) hG (sR_and _ _) dL_law_44 (by omega) (by omega) (by rw [c28]; rfl) (by decide) ?_
        exact lc_28 hst hG hX hRc hx5 hi hw (hp 28 (by decide)) tail
      have b29 : 29 ≤ iAnd (sv xs x5) 63 := by omega
      clear c28 b28
      by_cases c29 : iAnd (sv xs x5) 63 = 29
      · refine V.tableIn (pc := 44) (tgt := 1546) (off := 1502) hG (sR_and _ _) dL_law_44 (by omega) (by omega) (by rw [c29]; rfl) (by decide) ?_
        exact lc_29 hst hG hX hRc hx5 hi hw (hp 29 (by decide)) tail
      have b30 : 30 ≤ iAnd (sv xs x5) 63 := by omega
      clear c29 b29
      by_cases c30 : iAnd (sv xs x5) 63 = 30
      · refine V.tableIn (pc := 44) (tgt := 1559) (off := 1515) hG (sR_and _ _) dL_law_44 (by omega) (by omega) (by rw [c30]; rfl) (by decide) ?_
        exact lc_30 hst hG hX hRc hx5 hi hw (hp 30 (by decide)) tail
      have b31 : 31 ≤ iAnd (sv xs x5) 63 := by omega
      clear c30 b30
      by_cases c31 : iAnd (sv xs x5) 63 = 31
      · refine V.tableIn (pc := 44) (tgt := 1572) (off := 1528) hG (sR_and _ _) dL_law_44 (by omega) (by omega) (by rw [c31]; rfl) (by decide) ?_
        exact lc_31 hst hG hX hRc hx5 hi hw (hp 31 (by decide)) tail
      have b32 : 32 ≤ iAnd (sv xs x5) 63 := by omega
      clear c31 b31
      by_cases c32 : iAnd (sv xs x5) 63 = 32
      · refine V.tableIn (pc := 44) (tgt := 1585) (off := 1541) hG (sR_and _ _) dL_law_44 (by omega) (by omega) (by rw [c32]; rfl) (by decide) ?_
        exact lc_32 hst hG hX hRc hx5 hi hw (hp 32 (by decide)) tail
      have b33 : 33 ≤ iAnd (sv xs x5) 63 := by omega
      clear c32 b32
      by_cases c33 : iAnd (sv xs x5) 63 = 33
      · refine V.tableIn (pc := 44) (tgt := 1641) (off := 1597) hG (sR_and _ _) dL_law_44 (by omega) (by omega) (by rw [c33]; rfl) (by decide) ?_
        exact lc_33 hst hG hX hRc hx5 hi hw (hp 33 (by decide)) tail
      have b34 : 34 ≤ iAnd (sv xs x5) 63 := by omega
      clear c33 b33
      by_cases c34 : iAnd (sv xs x5) 63 = 34
      · refine V.tableIn (pc := 44) (tgt := 1654) (off := 1610) hG (sR_and _ _) dL_law_44 (by omega) (by omega) (by rw [c34]; rfl) (by decide) ?_
        exact lc_34 hst hG hX hRc hx5 hi hw (hp 34 (by decide)) tail
      have b35 : 35 ≤ iAnd (sv xs x5) 63 := by omega
      clear c34 b34
      by_cases c35 : iAnd (sv xs x5) 63 = 35
      · refine V.tableIn (pc := 44) (tgt := 1667) (off := 1623) hG (sR_and _ _) dL_law_44 (by omega) (by omega) (by rw [c35]; rfl) (by decide) ?_
        exact lc_35 hst hG hX hRc hx5 hi hw (hp 35 (by decide)) tail
      have b36 : 36 ≤ iAnd (sv xs x5) 63 := by omega
      clear c35 b35
      by_cases c36 : iAnd (sv xs x5) 63 = 36
      · refine V.tableIn (pc := 44) (tgt := 1680) (off := 1636) hG (sR_and _ _) dL_law_44 (by omega) (by omega) (by rw [c36]; rfl) (by decide) ?_
        exact lc_36 hst hG hX hRc hx5 hi hw (hp 36 (by decide)) tail
      have b37 : 37 ≤ iAnd (sv xs x5) 63 := by omega
      clear c36 b36
      by_cases c37 : iAnd (sv xs x5) 63 = 37
      · refine V.tableIn (pc := 44) (tgt := 1736) (off := 1692) hG (sR_and _ _) dL_law_44 (by omega) (by omega) (by rw [c37]; rfl) (by decide) ?_
        exact lc_37 hst hG hX hRc hx5 hi hw (hp 37 (by decide)) tail
      have b38 : 38 ≤ iAnd (sv xs x5) 63 := by omega
      clear c37 b37
      by_cases c38 : iAnd (sv xs x5) 63 = 38
      · refine V.tableIn (pc := 44) (tgt := 1806) (off := 1762) hG (sR_and _ _) dL_law_44 (by omega) (by omega) (by rw [c38]; rfl) (by decide) ?_
        exact lc_38 hst hG hX hRc hx5 hi hw (hp 38 (by decide)) tail
      have b39 : 39 ≤ iAnd (sv xs x5) 63 := by omega
      clear c38 b38
      by_cases c39 : iAnd (sv xs x5) 63 = 39
      · refine V.tableIn (pc := 44) (tgt := 1819) (off := 1775) hG (sR_and _ _) dL_law_44 (by omega) (by omega) (by rw [c39]; rfl) (by decide) ?_
        exact lc_39 hst hG hX hRc hx5 hi hw (hp 39 (by decide)) tail
      have b40 : 40 ≤ iAnd (sv xs x5) 63 := by omega
      clear c39 b39
      by_cases c40 : iAnd (sv xs x5) 63 = 40
      · refine V.tableIn (pc := 44) (tgt := 1915) (off := 1871) hG (sR_and _ _) dL_law_44 (by omega) (by omega) (by rw [c40]; rfl) (by decide) ?_
        exact lc_40 hst hG hX hRc hx5 hi hw (hp 40 (by decide)) tail
      have b41 : 41 ≤ iAnd (sv xs x5) 63 := by omega
      clear c40 b40
      by_cases c41 : iAnd (sv xs x5) 63 = 41
      · refine V.tableIn (pc := 44) (tgt := 1983) (off := 1939) hG (sR_and _ _) dL_law_44 (by omega) (by omega) (by rw [c41]; rfl) (by decide) ?_
        exact lc_41 hst hG hX hRc hx5 hi hw (hp 41 (by decide)) tail
      have b42 : 42 ≤ iAnd (sv xs x5) 63 := by omega
      clear c41 b41
      by_cases c42 : iAnd (sv xs x5) 63 = 42
      · refine V.tableIn (pc := 44) (tgt := 1996) (off := 1952) hG (sR_and _ _) dL_law_44 (by omega) (by omega) (by rw [c42]; rfl) (by decide) ?_
        exact lc_42 hst hG hX hRc hx5 hi hw (hp 42 (by decide)) tail
      have b43 : 43 ≤ iAnd (sv xs x5) 63 := by omega
      clear c42 b42
      by_cases c43 : iAnd (sv xs x5) 63 = 43
      · refine V.tableIn (pc := 44) (tgt := 2052) (off := 2008) hG (sR_and _ _) dL_law_44 (by omega) (by omega) (by rw [c43]; rfl) (by decide) ?_
        exact lc_43 hst hG hX hRc hx5 hi hw (hp 43 (by decide)) tail
      have b44 : 44 ≤ iAnd (sv xs x5) 63 := by omega
      clear c43 b43
      by_cases c44 : iAnd (sv xs x5) 63 = 44
      · refine V.tableIn (pc := 44) (tgt := 2065) (off := 2021) hG (sR_and _ _) dL_law_44 (by omega) (by omega) (by rw [c44]; rfl) (by decide) ?_
        exact lc_44 hst hG hX hRc hx5 hi hw (hp 44 (by decide)) tail
      have b45 : 45 ≤ iAnd (sv xs x5) 63 := by omega
      clear c44 b44
      by_cases c45 : iAnd (sv xs x5) 63 = 45
      · refine V.tableIn (pc := 44) (tgt := 2109) (off := 2065) hG (sR_and _ _) dL_law_44 (by omega) (by omega) (by rw [c45]; rfl) (by decide) ?_
        exact lc_45 hst hG hX hRc hx5 hi hw (hp 45 (by decide)) tail
      have b46 : 46 ≤ iAnd (sv xs x5) 63 := by omega
      clear c45 b45
      by_cases c46 : iAnd (sv xs x5) 63 = 46
      · refine V.tableIn (pc := 44) (tgt := 2123) (off := 2079) hG (sR_and _ _) dL_law_44 (by omega) (by omega) (by rw [c46]; rfl) (by decide) ?_
        exact lc_46 hst hG hX hRc hx5 hi hw (hp 46 (by decide)) tail
      have b47 : 47 ≤ iAnd (sv xs x5) 63 := by omega
      clear c46 b46
      by_cases c47 : iAnd (sv xs x5) 63 = 47
      · refine V.tableIn (pc := 44) (tgt := 2203) (off := 2159) hG (sR_and _ _) dL_law_44 (by omega) (by omega) (by rw [c47]; rfl) (by decide) ?_
        exact lc_47 hst hG hX hRc hx5 hi hw (hp 47 (by decide)) tail
      have b48 : 48 ≤ iAnd (sv xs x5) 63 := by omega
      clear c47 b47
      by_cases c48 : iAnd (sv xs x5) 63 = 48
      · refine V.tableIn (pc := 44) (tgt := 2268) (off := 2224) hG (sR_and _ _) dL_law_44 (by omega) (by omega) (by rw [c48]; rfl) (by decide) ?_
        exact lc_48 hst hG hX hRc hx5 hi hw (hp 48 (by decide)) tail
      have b49 : 49 ≤ iAnd (sv xs x5) 63 := by omega
      clear c48 b48
      exact absurd bu (by omega)
set_option maxRecDepth 100000 in
theorem law_all {Γ : Cx} {Δ : Wd} {l : Launch} {R : Room} {Q0 : State → Prop} {b L : Nat} {xs : Nat → Int32} (hst : l.stackTraces = false) (hG : okG Γ Δ l R cL_law "SchedularyLaw" 9) (hX : okS Γ Δ b L xs) (hL : L ≤ 2048) (hR0 : 20 ≤ R.frames ∧ 10000 ≤ R.locals ∧ 603072 ≤ R.cells ∧ 7207018 ≤ R.slots) {Inv : MI → MI → Prop} (hC : Cases Inv) (hS : Inv iS rS)
    (fin : ∀ {i r : MI} {kc sl : Nat} {lv : List (Nat × Value)}, okI i → Wf r → kc ≤ 603072 → sl ≤ 7207018 → V Γ Δ 542 false i r kc sl Q0 2288 lv [.int (sJ 1)]) : V Γ Δ 542 false iS rS 542 150213 Q0 25 [(4, .ref (sA Δ 541)), (3, .ref (sA Δ 540)), (2, .ref (sA Δ 504)), (1, .ref (sA Δ 0)), (0, .ref b)] [] := by
  refine V.iconst (pc := 25) hG dL_law_25 ?_
  refine V.istore (pc := 26) (lv' := [(5, .int (sJ 0)), (4, .ref (sA Δ 541)), (3, .ref (sA Δ 540)), (2, .ref (sA Δ 504)), (1, .ref (sA Δ 0)), (0, .ref b)]) hG dL_law_26 (by decide) rfl ?_
  refine V.pick [5, 4, 3, 2, 1, 0] rfl ?_
  exact law_loop hst hG hX hL hR0 hC fin (L + 5) 0 iS rS 542 150213 (by omega) (by decide) (by omega) (by decide) (by decide) okI_S Wf_S hS
