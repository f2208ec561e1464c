def cI_X11 (i : MI) : MI := (st (st (cI_X5 (cI_X1 (cI_X4 (cI_X9 (cI_X2 (cI_X0 (cI_X7 61 (cI_X6 (cI_X10 i))))))))) 0 9 0) 0 10 0)
def cR_X11 (r : MI) : MI := (st (cR_X5 (st (cR_X1 (st (cR_X4 (st (cR_X9 (st (cR_X2 (st (cR_X0 (st (cR_X7 61 (st (cR_X6 (st (cR_X10 r) 0 0 1)) 0 1 3)) 0 2 61)) 0 3 67)) 0 4 168)) 0 5 461)) 0 6 469)) 0 7 480)) 0 8 488)
theorem mY_X11_init : mY yX11_init cX11_init 1 none 0 := ⟨kw_102, kw_140, by decide, by decide, by decide +kernel⟩
set_option maxRecDepth 100000 in
set_option maxHeartbeats 4000000 in
theorem ct_X11 (l : Launch) (Δ : Wd) {i r : MI}  (z0 : Zf (1) i r) : Met l yX11_init (Cond.code yX11_init cX11_init 1 none :: gW) (sRx 3 100 503 37568) (sPn Δ (1) [.ref (sA Δ 0)] i r) (sQn Δ (504) (cI_X11 i) (cR_X11 r)) 503 37568 (sFr Δ) := by
  refine Cc.v (by decide) rfl (Nat.le_of_ble_eq_true rfl) (fun Γ Q0 hG hini fin => ?_)
  have hG : okG Γ Δ l (sRx 3 100 503 37568) cX11_init "Schedulary" 1 := hG
  show V Γ Δ (1) true i r 0 0 Q0 0 [(0, .ref (sA Δ 0))] []
  refine V.aload_n (pc := 0) hG dX11_init_0 rfl 0 rfl ?_
  refine V.objInit (pc := 1) hG kw_141 kw_142 ko_code (by decide) dX11_init_1 ?_
  refine V.aload_n (pc := 4) hG dX11_init_4 rfl 0 rfl ?_
  refine V.cnew (pc := 5) (ci := 12) (N := 3) (T := TX10) (ty := tyX10) hG hin_X10 rfl tyX10_ok kw_144 kw_145 kw_103 (by decide +kernel) (by decide) rfl defX10 (z0.z (by decide)) ⟨by decide, by decide⟩ dX11_init_5 ?_
  refine V.nn (n2 := 2) rfl ?_
  have z1 := z0.up (m := 2) (by omega)
  refine V.dup (pc := 8) hG dX11_init_8 rfl ?_
  refine V.ccallN (pc := 9) (n2 := 3) hG (ct_X10 l Δ  z1) mY_X10_init rfl kw_146 kw_147 ⟨by decide, by decide, by decide, by decide⟩ (Nat.le_of_ble_eq_true rfl) dX11_init_9 ?_
  have z2 := zf_X10 z1
  refine V.cputRF (pc := 12) (ci := 13) (k := 0) (M := 11) (T := TX11) (o := 0) (kz := 0) (x := 1) hG (isA.of (by decide +kernel)) (by decide) (by decide) hin_X11 rfl (by decide) (by decide) rfl kw_523 rfl tyX11 tyX11_ok nmX11 rfl hini rfl (ty := tyX11 0) (tyX11_ok 0 (by decide)) (by decide) (fun _ => rfl) (fun _ => rfl) dX11_init_12 ?_
  have z3 := z2.sRf (o := 0) (kz := 0) (x := 1) (by decide)
  refine V.aload_n (pc := 15) hG dX11_init_15 rfl 0 rfl ?_
  refine V.cnew (pc := 16) (ci := 8) (N := 9) (T := TX6) (ty := tyX6) hG hin_X6 rfl tyX6_ok kw_162 kw_163 kw_104 (by decide +kernel) (by decide) rfl defX6 (z3.z (by decide)) ⟨by decide, by decide⟩ dX11_init_16 ?_
  refine V.nn (n2 := 4) rfl ?_
  have z4 := z3.up (m := 4) (by omega)
  refine V.dup (pc := 19) hG dX11_init_19 rfl ?_
  refine V.ccallN (pc := 20) (n2 := 61) hG (ct_X6 l Δ  z4) mY_X6_init rfl kw_164 kw_165 ⟨by decide, by decide, by decide, by decide⟩ (Nat.le_of_ble_eq_true rfl) dX11_init_20 ?_
  have z5 := zf_X6 z4
  refine V.cputRF (pc := 23) (ci := 13) (k := 1) (M := 11) (T := TX11) (o := 0) (kz := 1) (x := 3) hG (isA.of (by decide +kernel)) (by decide) (by decide) hin_X11 rfl (by decide) (by decide) rfl kw_524 rfl tyX11 tyX11_ok nmX11 rfl hini rfl (ty := tyX11 1) (tyX11_ok 1 (by decide)) (by decide) (fun _ => rfl) (fun _ => rfl) dX11_init_23 ?_
  have z6 := z5.sRf (o := 0) (kz := 1) (x := 3) (by decide)
  refine V.aload_n (pc := 26) hG dX11_init_26 rfl 0 rfl ?_
  refine V.cnew (pc := 27) (ci := 9) (N := 5) (T := TX7) (ty := tyX7) hG hin_X7 rfl tyX7_ok kw_241 kw_242 kw_106 (by decide +kernel) (by decide) rfl defX7 (z6.z (by decide)) ⟨by decide, by decide⟩ dX11_init_27 ?_
  refine V.nn (n2 := 62) rfl ?_
  have z7 := z6.up (m := 62) (by omega)
  refine V.dup (pc := 30) hG dX11_init_30 rfl ?_
  refine V.ccallN (pc := 31) (n2 := 67) hG (ct_X7 l Δ (61) (isA.of (by decide +kernel)) (isA.of (by decide +kernel)) (isA.of (by decide +kernel)) (isA.of (by decide +kernel)) (isA.of (by decide +kernel)) (isA.of (by decide +kernel)) (by decide +kernel) (by decide +kernel) (by decide +kernel) (by decide +kernel) (by decide +kernel) (by decide) z7) mY_X7_init rfl kw_243 kw_244 ⟨by decide, by decide, by decide, by decide⟩ (Nat.le_of_ble_eq_true rfl) dX11_init_31 ?_
  have z8 := zf_X7 61 z7
  refine V.cputRF (pc := 34) (ci := 13) (k := 2) (M := 11) (T := TX11) (o := 0) (kz := 2) (x := 61) hG (isA.of (by decide +kernel)) (by decide) (by decide) hin_X11 rfl (by decide) (by decide) rfl kw_525 rfl tyX11 tyX11_ok nmX11 rfl hini rfl (ty := tyX11 2) (tyX11_ok 2 (by decide)) (by decide) (fun _ => rfl) (fun _ => rfl) dX11_init_34 ?_
  have z9 := z8.sRf (o := 0) (kz := 2) (x := 61) (by decide)
  refine V.aload_n (pc := 37) hG dX11_init_37 rfl 0 rfl ?_
  refine V.cnew (pc := 38) (ci := 2) (N := 5) (T := TX0) (ty := tyX0) hG hin_X0 rfl tyX0_ok kw_269 kw_270 kw_107 (by decide +kernel) (by decide) rfl defX0 (z9.z (by decide)) ⟨by decide, by decide⟩ dX11_init_38 ?_
  refine V.nn (n2 := 68) rfl ?_
  have z10 := z9.up (m := 68) (by omega)
  refine V.dup (pc := 41) hG dX11_init_41 rfl ?_
  refine V.ccallN (pc := 42) (n2 := 168) hG (ct_X0 l Δ  z10) mY_X0_init rfl kw_271 kw_272 ⟨by decide, by decide, by decide, by decide⟩ (Nat.le_of_ble_eq_true rfl) dX11_init_42 ?_
  have z11 := zf_X0 z10
  refine V.cputRF (pc := 45) (ci := 13) (k := 3) (M := 11) (T := TX11) (o := 0) (kz := 3) (x := 67) hG (isA.of (by decide +kernel)) (by decide) (by decide) hin_X11 rfl (by decide) (by decide) rfl kw_526 rfl tyX11 tyX11_ok nmX11 rfl hini rfl (ty := tyX11 3) (tyX11_ok 3 (by decide)) (by decide) (fun _ => rfl) (fun _ => rfl) dX11_init_45 ?_
  have z12 := z11.sRf (o := 0) (kz := 3) (x := 67) (by decide)
  refine V.aload_n (pc := 48) hG dX11_init_48 rfl 0 rfl ?_
  refine V.cnew (pc := 49) (ci := 4) (N := 5) (T := TX2) (ty := tyX2) hG hin_X2 rfl tyX2_ok kw_380 kw_381 kw_109 (by decide +kernel) (by decide) rfl defX2 (z12.z (by decide)) ⟨by decide, by decide⟩ dX11_init_49 ?_
  refine V.nn (n2 := 169) rfl ?_
  have z13 := z12.up (m := 169) (by omega)
  refine V.dup (pc := 52) hG dX11_init_52 rfl ?_
  refine V.ccallN (pc := 53) (n2 := 461) hG (ct_X2 l Δ  z13) mY_X2_init rfl kw_382 kw_383 ⟨by decide, by decide, by decide, by decide⟩ (Nat.le_of_ble_eq_true rfl) dX11_init_53 ?_
  have z14 := zf_X2 z13
  refine V.cputRF (pc := 56) (ci := 13) (k := 4) (M := 11) (T := TX11) (o := 0) (kz := 4) (x := 168) hG (isA.of (by decide +kernel)) (by decide) (by decide) hin_X11 rfl (by decide) (by decide) rfl kw_527 rfl tyX11 tyX11_ok nmX11 rfl hini rfl (ty := tyX11 4) (tyX11_ok 4 (by decide)) (by decide) (fun _ => rfl) (fun _ => rfl) dX11_init_56 ?_
  have z15 := z14.sRf (o := 0) (kz := 4) (x := 168) (by decide)
  refine V.aload_n (pc := 59) hG dX11_init_59 rfl 0 rfl ?_
  refine V.cnew (pc := 60) (ci := 11) (N := 7) (T := TX9) (ty := tyX9) hG hin_X9 rfl tyX9_ok kw_413 kw_414 kw_110 (by decide +kernel) (by decide) rfl defX9 (z15.z (by decide)) ⟨by decide, by decide⟩ dX11_init_60 ?_
  refine V.nn (n2 := 462) rfl ?_
  have z16 := z15.up (m := 462) (by omega)
  refine V.dup (pc := 63) hG dX11_init_63 rfl ?_
  refine V.ccallN (pc := 64) (n2 := 469) hG (ct_X9 l Δ  z16) mY_X9_init rfl kw_415 kw_416 ⟨by decide, by decide, by decide, by decide⟩ (Nat.le_of_ble_eq_true rfl) dX11_init_64 ?_
  have z17 := zf_X9 z16
  refine V.cputRF (pc := 67) (ci := 13) (k := 5) (M := 11) (T := TX11) (o := 0) (kz := 5) (x := 461) hG (isA.of (by decide +kernel)) (by decide) (by decide) hin_X11 rfl (by decide) (by decide) rfl kw_528 rfl tyX11 tyX11_ok nmX11 rfl hini rfl (ty := tyX11 5) (tyX11_ok 5 (by decide)) (by decide) (fun _ => rfl) (fun _ => rfl) dX11_init_67 ?_
  have z18 := z17.sRf (o := 0) (kz := 5) (x := 461) (by decide)
  refine V.aload_n (pc := 70) hG dX11_init_70 rfl 0 rfl ?_
  refine V.cnew (pc := 71) (ci := 6) (N := 6) (T := TX4) (ty := tyX4) hG hin_X4 rfl tyX4_ok kw_444 kw_445 kw_111 (by decide +kernel) (by decide) rfl defX4 (z18.z (by decide)) ⟨by decide, by decide⟩ dX11_init_71 ?_
  refine V.nn (n2 := 470) rfl ?_
  have z19 := z18.up (m := 470) (by omega)
  refine V.dup (pc := 74) hG dX11_init_74 rfl ?_
  refine V.ccallN (pc := 75) (n2 := 480) hG (ct_X4 l Δ  z19) mY_X4_init rfl kw_446 kw_447 ⟨by decide, by decide, by decide, by decide⟩ (Nat.le_of_ble_eq_true rfl) dX11_init_75 ?_
  have z20 := zf_X4 z19
  refine V.cputRF (pc := 78) (ci := 13) (k := 6) (M := 11) (T := TX11) (o := 0) (kz := 6) (x := 469) hG (isA.of (by decide +kernel)) (by decide) (by decide) hin_X11 rfl (by decide) (by decide) rfl kw_529 rfl tyX11 tyX11_ok nmX11 rfl hini rfl (ty := tyX11 6) (tyX11_ok 6 (by decide)) (by decide) (fun _ => rfl) (fun _ => rfl) dX11_init_78 ?_
  have z21 := z20.sRf (o := 0) (kz := 6) (x := 469) (by decide)
  refine V.aload_n (pc := 81) hG dX11_init_81 rfl 0 rfl ?_
  refine V.cnew (pc := 82) (ci := 3) (N := 2) (T := TX1) (ty := tyX1) hG hin_X1 rfl tyX1_ok kw_476 kw_477 kw_112 (by decide +kernel) (by decide) rfl defX1 (z21.z (by decide)) ⟨by decide, by decide⟩ dX11_init_82 ?_
  refine V.nn (n2 := 481) rfl ?_
  have z22 := z21.up (m := 481) (by omega)
  refine V.dup (pc := 85) hG dX11_init_85 rfl ?_
  refine V.ccallN (pc := 86) (n2 := 488) hG (ct_X1 l Δ  z22) mY_X1_init rfl kw_478 kw_479 ⟨by decide, by decide, by decide, by decide⟩ (Nat.le_of_ble_eq_true rfl) dX11_init_86 ?_
  have z23 := zf_X1 z22
  refine V.cputRF (pc := 89) (ci := 13) (k := 7) (M := 11) (T := TX11) (o := 0) (kz := 7) (x := 480) hG (isA.of (by decide +kernel)) (by decide) (by decide) hin_X11 rfl (by decide) (by decide) rfl kw_530 rfl tyX11 tyX11_ok nmX11 rfl hini rfl (ty := tyX11 7) (tyX11_ok 7 (by decide)) (by decide) (fun _ => rfl) (fun _ => rfl) dX11_init_89 ?_
  have z24 := z23.sRf (o := 0) (kz := 7) (x := 480) (by decide)
  refine V.aload_n (pc := 92) hG dX11_init_92 rfl 0 rfl ?_
  refine V.cnew (pc := 93) (ci := 7) (N := 7) (T := TX5) (ty := tyX5) hG hin_X5 rfl tyX5_ok kw_492 kw_493 kw_113 (by decide +kernel) (by decide) rfl defX5 (z24.z (by decide)) ⟨by decide, by decide⟩ dX11_init_93 ?_
  refine V.nn (n2 := 489) rfl ?_
  have z25 := z24.up (m := 489) (by omega)
  refine V.dup (pc := 96) hG dX11_init_96 rfl ?_
  refine V.ccallN (pc := 97) (n2 := 504) hG (ct_X5 l Δ  z25) mY_X5_init rfl kw_494 kw_495 ⟨by decide, by decide, by decide, by decide⟩ (Nat.le_of_ble_eq_true rfl) dX11_init_97 ?_
  have z26 := zf_X5 z25
  refine V.cputRF (pc := 100) (ci := 13) (k := 8) (M := 11) (T := TX11) (o := 0) (kz := 8) (x := 488) hG (isA.of (by decide +kernel)) (by decide) (by decide) hin_X11 rfl (by decide) (by decide) rfl kw_531 rfl tyX11 tyX11_ok nmX11 rfl hini rfl (ty := tyX11 8) (tyX11_ok 8 (by decide)) (by decide) (fun _ => rfl) (fun _ => rfl) dX11_init_100 ?_
  have z27 := z26.sRf (o := 0) (kz := 8) (x := 488) (by decide)
  refine V.aload_n (pc := 103) hG dX11_init_103 rfl 0 rfl ?_
  refine V.iconst (pc := 104) hG dX11_init_104 ?_
  refine V.cputI (pc := 105) (ci := 13) (k := 9) (M := 11) (T := TX11) (o := 0) (kz := 9) (x := 0) hG (isA.of (by decide +kernel)) (by decide) (by decide) hin_X11 rfl (by decide) (by decide) rfl kw_532 rfl tyX11 tyX11_ok nmX11 rfl (ty := tyX11 9) (tyX11_ok 9 (by decide)) rfl rfl dX11_init_105 ?_
  have z28 := z27.sI (o := 0) (kz := 9) (x := 0) (by decide)
  refine V.aload_n (pc := 108) hG dX11_init_108 rfl 0 rfl ?_
  refine V.iconst (pc := 109) hG dX11_init_109 ?_
  refine V.cputI (pc := 110) (ci := 13) (k := 10) (M := 11) (T := TX11) (o := 0) (kz := 10) (x := 0) hG (isA.of (by decide +kernel)) (by decide) (by decide) hin_X11 rfl (by decide) (by decide) rfl kw_533 rfl tyX11 tyX11_ok nmX11 rfl (ty := tyX11 10) (tyX11_ok 10 (by decide)) (nar_z (by decide)) (fit_z (by decide)) dX11_init_110 ?_
  have z29 := z28.sI (o := 0) (kz := 10) (x := 0) (by decide)
  exact fin dX11_init_113 (by decide) (by decide)
set_option maxRecDepth 100000 in
theorem zf_X11 {i r : MI} (z0 : Zf (1) i r) : Zf (504) (cI_X11 i) (cR_X11 r) := by
  have z1 := z0.up (m := 2) (by omega)
  have z2 := zf_X10 z1
  have z3 := z2.sRf (o := 0) (kz := 0) (x := 1) (by decide)
  have z4 := z3.up (m := 4) (by omega)
  have z5 := zf_X6 z4
  have z6 := z5.sRf (o := 0) (kz := 1) (x := 3) (by decide)
  have z7 := z6.up (m := 62) (by omega)
  have z8 := zf_X7 61 z7
  have z9 := z8.sRf (o := 0) (kz := 2) (x := 61) (by decide)
  have z10 := z9.up (m := 68) (by omega)
  have z11 := zf_X0 z10
  have z12 := z11.sRf (o := 0) (kz := 3) (x := 67) (by decide)
  have z13 := z12.up (m := 169) (by omega)
  have z14 := zf_X2 z13
  have z15 := z14.sRf (o := 0) (kz := 4) (x := 168) (by decide)
  have z16 := z15.up (m := 462) (by omega)
  have z17 := zf_X9 z16
  have z18 := z17.sRf (o := 0) (kz := 5) (x := 461) (by decide)
  have z19 := z18.up (m := 470) (by omega)
  have z20 := zf_X4 z19
  have z21 := z20.sRf (o := 0) (kz := 6) (x := 469) (by decide)
  have z22 := z21.up (m := 481) (by omega)
  have z23 := zf_X1 z22
  have z24 := z23.sRf (o := 0) (kz := 7) (x := 480) (by decide)
  have z25 := z24.up (m := 489) (by omega)
  have z26 := zf_X5 z25
  have z27 := z26.sRf (o := 0) (kz := 8) (x := 488) (by decide)
  have z28 := z27.sI (o := 0) (kz := 9) (x := 0) (by decide)
  have z29 := z28.sI (o := 0) (kz := 10) (x := 0) (by decide)
  exact z29
set_option maxRecDepth 100000 in
theorem fr_X11 {r : MI} {a : Int} (ha : a < 0) : cR_X11 r a = r a := by
  unfold cR_X11
  repeat first | rfl | rw [st_row (by omega)] | rw [rowsR_row (by omega)] | rw [fr_X8 _ (by omega)] | rw [fr_X3 _ (by omega)] | rw [fr_X7 _ (by omega)] | rw [fr_X10 (by omega)] | rw [fr_X6 (by omega)] | rw [fr_X0 (by omega)] | rw [fr_X2 (by omega)] | rw [fr_X9 (by omega)] | rw [fr_X4 (by omega)] | rw [fr_X1 (by omega)] | rw [fr_X5 (by omega)]
