def cI_X0 (i : MI) : MI := (st (st (st (st (st (st (st (st (st (st (st (st (st (st (cI_X3 167 (cI_X3 166 (cI_X3 165 (cI_X3 164 (cI_X3 163 (cI_X3 162 (cI_X3 161 (cI_X3 160 (cI_X3 159 (cI_X3 158 (cI_X3 157 (cI_X3 156 (cI_X3 155 (cI_X3 154 (cI_X3 153 (cI_X3 152 (cI_X3 151 (cI_X3 150 (cI_X3 149 (cI_X3 148 (cI_X3 147 (cI_X3 146 (cI_X3 145 (cI_X3 144 (cI_X3 143 (cI_X3 142 (cI_X3 141 (cI_X3 140 (cI_X3 139 (cI_X3 138 (cI_X3 137 (cI_X3 136 (cI_X3 135 (cI_X3 134 (cI_X3 133 (cI_X3 132 (cI_X3 131 (cI_X3 130 (cI_X3 129 (cI_X3 128 (cI_X3 127 (cI_X3 126 (cI_X3 125 (cI_X3 124 (cI_X3 123 (cI_X3 122 (cI_X3 121 (cI_X3 120 (cI_X3 119 (cI_X3 118 (cI_X3 117 (cI_X3 116 (cI_X3 115 (cI_X3 114 (cI_X3 113 (cI_X3 112 (cI_X3 111 (cI_X3 110 (cI_X3 109 (cI_X3 108 (cI_X3 107 (cI_X3 106 (cI_X3 105 (cI_X3 104 (cI_X3 103 (cI_X3 102 (cI_X3 101 (cI_X3 100 (cI_X3 99 (cI_X3 98 (cI_X3 97 (cI_X3 96 (cI_X3 95 (cI_X3 94 (cI_X3 93 (cI_X3 92 (cI_X3 91 (cI_X3 90 (cI_X3 89 (cI_X3 88 (cI_X3 87 (cI_X3 86 (cI_X3 85 (cI_X3 84 (cI_X3 83 (cI_X3 82 (cI_X3 81 (cI_X3 80 (cI_X3 79 (cI_X3 78 (cI_X3 77 (cI_X3 76 (cI_X3 75 (cI_X3 74 (cI_X3 73 (cI_X3 72 i)))))))))))))))))))))))))))))))))))))))))))))))))))))))))))))))))))))))))))))))))))))))))))))))) 69 0 1) 70 0 1) 69 1 1) 70 1 1) 69 2 1) 70 2 1) 69 3 1) 70 3 1) 69 4 1) 70 4 1) 69 5 1) 70 5 1) 69 6 1) 70 6 1)
def cR_X0 (r : MI) : MI := (st (cR_X3 167 (st (cR_X3 166 (st (cR_X3 165 (st (cR_X3 164 (st (cR_X3 163 (st (cR_X3 162 (st (cR_X3 161 (st (cR_X3 160 (st (cR_X3 159 (st (cR_X3 158 (st (cR_X3 157 (st (cR_X3 156 (st (cR_X3 155 (st (cR_X3 154 (st (cR_X3 153 (st (cR_X3 152 (st (cR_X3 151 (st (cR_X3 150 (st (cR_X3 149 (st (cR_X3 148 (st (cR_X3 147 (st (cR_X3 146 (st (cR_X3 145 (st (cR_X3 144 (st (cR_X3 143 (st (cR_X3 142 (st (cR_X3 141 (st (cR_X3 140 (st (cR_X3 139 (st (cR_X3 138 (st (cR_X3 137 (st (cR_X3 136 (st (cR_X3 135 (st (cR_X3 134 (st (cR_X3 133 (st (cR_X3 132 (st (cR_X3 131 (st (cR_X3 130 (st (cR_X3 129 (st (cR_X3 128 (st (cR_X3 127 (st (cR_X3 126 (st (cR_X3 125 (st (cR_X3 124 (st (cR_X3 123 (st (cR_X3 122 (st (cR_X3 121 (st (cR_X3 120 (st (cR_X3 119 (st (cR_X3 118 (st (cR_X3 117 (st (cR_X3 116 (st (cR_X3 115 (st (cR_X3 114 (st (cR_X3 113 (st (cR_X3 112 (st (cR_X3 111 (st (cR_X3 110 (st (cR_X3 109 (st (cR_X3 108 (st (cR_X3 107 (st (cR_X3 106 (st (cR_X3 105 (st (cR_X3 104 (st (cR_X3 103 (st (cR_X3 102 (st (cR_X3 101 (st (cR_X3 100 (st (cR_X3 99 (st (cR_X3 98 (st (cR_X3 97 (st (cR_X3 96 (st (cR_X3 95 (st (cR_X3 94 (st (cR_X3 93 (st (cR_X3 92 (st (cR_X3 91 (st (cR_X3 90 (st (cR_X3 89 (st (cR_X3 88 (st (cR_X3 87 (st (cR_X3 86 (st (cR_X3 85 (st (cR_X3 84 (st (cR_X3 83 (st (cR_X3 82 (st (cR_X3 81 (st (cR_X3 80 (st (cR_X3 79 (st (cR_X3 78 (st (cR_X3 77 (st (cR_X3 76 (st (cR_X3 75 (st (cR_X3 74 (st (cR_X3 73 (st (cR_X3 72 (st (st (st (st r 67 0 68) 67 1 69) 67 2 70) 67 3 71)) 68 0 72)) 68 1 73)) 68 2 74)) 68 3 75)) 68 4 76)) 68 5 77)) 68 6 78)) 68 7 79)) 68 8 80)) 68 9 81)) 68 10 82)) 68 11 83)) 68 12 84)) 68 13 85)) 68 14 86)) 68 15 87)) 68 16 88)) 68 17 89)) 68 18 90)) 68 19 91)) 68 20 92)) 68 21 93)) 68 22 94)) 68 23 95)) 68 24 96)) 68 25 97)) 68 26 98)) 68 27 99)) 68 28 100)) 68 29 101)) 68 30 102)) 68 31 103)) 68 32 104)) 68 33 105)) 68 34 106)) 68 35 107)) 68 36 108)) 68 37 109)) 68 38 110)) 68 39 111)) 68 40 112)) 68 41 113)) 68 42 114)) 68 43 115)) 68 44 116)) 68 45 117)) 68 46 118)) 68 47 119)) 68 48 120)) 68 49 121)) 68 50 122)) 68 51 123)) 68 52 124)) 68 53 125)) 68 54 126)) 68 55 127)) 68 56 128)) 68 57 129)) 68 58 130)) 68 59 131)) 68 60 132)) 68 61 133)) 68 62 134)) 68 63 135)) 68 64 136)) 68 65 137)) 68 66 138)) 68 67 139)) 68 68 140)) 68 69 141)) 68 70 142)) 68 71 143)) 68 72 144)) 68 73 145)) 68 74 146)) 68 75 147)) 68 76 148)) 68 77 149)) 68 78 150)) 68 79 151)) 68 80 152)) 68 81 153)) 68 82 154)) 68 83 155)) 68 84 156)) 68 85 157)) 68 86 158)) 68 87 159)) 68 88 160)) 68 89 161)) 68 90 162)) 68 91 163)) 68 92 164)) 68 93 165)) 68 94 166)) 68 95 167)
theorem mY_X0_init : mY yX0_init cX0_init 2 none 0 := ⟨kw_107, kw_273, by decide, by decide, by decide +kernel⟩
set_option maxRecDepth 100000 in
set_option maxHeartbeats 4000000 in
theorem ct_X0 (l : Launch) (Δ : Wd) {i r : MI}  (z0 : Zf (68) i r) : Met l yX0_init (Cond.code yX0_init cX0_init 2 none :: gW) (sRx 2 60 100 1365) (sPn Δ (68) [.ref (sA Δ 67)] i r) (sQn Δ (168) (cI_X0 i) (cR_X0 r)) 100 1365 (sFr Δ) := by
  refine Cc.v (by decide) rfl (Nat.le_of_ble_eq_true rfl) (fun Γ Q0 hG hini fin => ?_)
  have hG : okG Γ Δ l (sRx 2 60 100 1365) cX0_init "Schedulary$Body" 2 := hG
  show V Γ Δ (68) true i r 0 0 Q0 0 [(0, .ref (sA Δ 67))] []
  refine V.aload_n (pc := 0) hG dX0_init_0 rfl 0 rfl ?_
  refine V.objInit (pc := 1) hG kw_274 kw_142 ko_code (by decide) dX0_init_1 ?_
  refine V.aload_n (pc := 4) hG dX0_init_4 rfl 0 rfl ?_
  refine V.bipush (pc := 5) hG dX0_init_5 (by decide) ?_
  refine V.canew 6 (pc := 7) (x := 96) (z := 96) hG (by decide) kw_275 (by decide +kernel) rfl (by decide) (z0.z (by decide)) ⟨by decide, by decide⟩ dX0_init_7 ?_
  refine V.nn (n2 := 69) rfl ?_
  have z1 := z0.up (m := 69) (by omega)
  refine V.cputRF (pc := 10) (ci := 2) (k := 0) (M := 5) (T := TX0) (o := 67) (kz := 0) (x := 68) hG (isA.of (by decide +kernel)) (by decide) (by decide) hin_X0 rfl (by decide) (by decide) rfl kw_349 rfl tyX0 tyX0_ok nmX0 rfl hini rfl (ty := tyX0 0) (tyX0_ok 0 (by decide)) (by decide) (fun _ => rfl) (fun _ => rfl) dX0_init_10 ?_
  have z2 := z1.sRf (o := 67) (kz := 0) (x := 68) (by decide)
  have f0 : (st r 67 0 68) 67 0 = 68 := st_eq
  refine V.aload_n (pc := 13) hG dX0_init_13 rfl 0 rfl ?_
  refine V.bipush (pc := 14) hG dX0_init_14 (by decide) ?_
  refine V.cnewaI (pc := 16) (x := 7) (z := 7) hG kw_198 (by decide +kernel) rfl (by decide) (by decide) (z2.z (by decide)) ⟨by decide, by decide⟩ dX0_init_16 ?_
  refine V.nn (n2 := 70) rfl ?_
  have z3 := z2.up (m := 70) (by omega)
  refine V.cputRF (pc := 18) (ci := 2) (k := 1) (M := 5) (T := TX0) (o := 67) (kz := 1) (x := 69) hG (isA.of (by decide +kernel)) (by decide) (by decide) hin_X0 rfl (by decide) (by decide) rfl kw_355 rfl tyX0 tyX0_ok nmX0 rfl hini rfl (ty := tyX0 1) (tyX0_ok 1 (by decide)) (by decide) (fun _ => rfl) (fun _ => rfl) dX0_init_18 ?_
  have z4 := z3.sRf (o := 67) (kz := 1) (x := 69) (by decide)
  have f1 := (st_ne (o := 67) (k := 1) (v := 69) (by decide)).trans f0
  have f2 : (st (st r 67 0 68) 67 1 69) 67 1 = 69 := st_eq
  refine V.aload_n (pc := 21) hG dX0_init_21 rfl 0 rfl ?_
  refine V.bipush (pc := 22) hG dX0_init_22 (by decide) ?_
  refine V.cnewaI (pc := 24) (x := 7) (z := 7) hG kw_198 (by decide +kernel) rfl (by decide) (by decide) (z4.z (by decide)) ⟨by decide, by decide⟩ dX0_init_24 ?_
  refine V.nn (n2 := 71) rfl ?_
  have z5 := z4.up (m := 71) (by omega)
  refine V.cputRF (pc := 26) (ci := 2) (k := 2) (M := 5) (T := TX0) (o := 67) (kz := 2) (x := 70) hG (isA.of (by decide +kernel)) (by decide) (by decide) hin_X0 rfl (by decide) (by decide) rfl kw_359 rfl tyX0 tyX0_ok nmX0 rfl hini rfl (ty := tyX0 2) (tyX0_ok 2 (by decide)) (by decide) (fun _ => rfl) (fun _ => rfl) dX0_init_26 ?_
  have z6 := z5.sRf (o := 67) (kz := 2) (x := 70) (by decide)
  have f3 := (st_ne (o := 67) (k := 2) (v := 70) (by decide)).trans f1
  have f4 := (st_ne (o := 67) (k := 2) (v := 70) (by decide)).trans f2
  have f5 : (st (st (st r 67 0 68) 67 1 69) 67 2 70) 67 2 = 70 := st_eq
  refine V.aload_n (pc := 29) hG dX0_init_29 rfl 0 rfl ?_
  refine V.bipush (pc := 30) hG dX0_init_30 (by decide) ?_
  refine V.cnewaI (pc := 32) (x := 7) (z := 7) hG kw_198 (by decide +kernel) rfl (by decide) (by decide) (z6.z (by decide)) ⟨by decide, by decide⟩ dX0_init_32 ?_
  refine V.nn (n2 := 72) rfl ?_
  have z7 := z6.up (m := 72) (by omega)
  refine V.cputRF (pc := 34) (ci := 2) (k := 3) (M := 5) (T := TX0) (o := 67) (kz := 3) (x := 71) hG (isA.of (by decide +kernel)) (by decide) (by decide) hin_X0 rfl (by decide) (by decide) rfl kw_361 rfl tyX0 tyX0_ok nmX0 rfl hini rfl (ty := tyX0 3) (tyX0_ok 3 (by decide)) (by decide) (fun _ => rfl) (fun _ => rfl) dX0_init_34 ?_
  have z8 := z7.sRf (o := 67) (kz := 3) (x := 71) (by decide)
  have f6 := (st_ne (o := 67) (k := 3) (v := 71) (by decide)).trans f3
  have f7 := (st_ne (o := 67) (k := 3) (v := 71) (by decide)).trans f4
  have f8 := (st_ne (o := 67) (k := 3) (v := 71) (by decide)).trans f5
  refine V.iconst (pc := 37) hG dX0_init_37 ?_
  refine V.istore_n (pc := 38) (lv' := [(1, .int (sJ 0)), (0, .ref (sA Δ 67))]) hG dX0_init_38 rfl (by decide) rfl ?_
  refine V.iload_n (pc := 39) (x := 0) hG dX0_init_39 rfl 0 rfl ?_
  refine V.bipush (pc := 40) hG dX0_init_40 (by decide) ?_
  refine V.icmp_ge (pc := 42) (tgt := 64) hG (sR_l rfl) (sR_l rfl) dX0_init_42 (by decide) (fun c1 => absurd c1 (by decide)) (fun _ => ?_)
  refine V.aload_n (pc := 45) hG dX0_init_45 rfl 1 rfl ?_
  refine V.getR (x := 68) (pc := 46) (ci := 2) (k := 0) (M := 5) (T := TX0) (o := 67) (kz := 0) hG (isA.of (by decide +kernel)) (by decide) (by decide) hin_X0 rfl (by decide) (by decide) rfl kw_349 rfl f6 (by decide) dX0_init_46 ?_
  refine V.iload_n (pc := 49) (x := 0) hG dX0_init_49 rfl 0 rfl ?_
  refine V.cnew (pc := 50) (ci := 5) (N := 13) (T := TX3) (ty := tyX3) hG hin_X3 rfl tyX3_ok kw_275 kw_277 kw_108 (by decide +kernel) (by decide) rfl defX3 (z8.z (by decide)) ⟨by decide, by decide⟩ dX0_init_50 ?_
  refine V.nn (n2 := 73) rfl ?_
  have z9 := z8.up (m := 73) (by omega)
  refine V.dup (pc := 53) hG dX0_init_53 rfl ?_
  refine V.ccallN (pc := 54) (n2 := 73) hG (ct_X3 l Δ (72) (isA.of (by decide +kernel))  (by decide) z9) mY_X3_init rfl kw_278 kw_279 ⟨by decide, by decide, by decide, by decide⟩ (Nat.le_of_ble_eq_true rfl) dX0_init_54 ?_
  have z10 := zf_X3 72 z9
  have f9 := (congrFun (fr_X3 72 (by decide)) _).trans f6
  have f10 := (congrFun (fr_X3 72 (by decide)) _).trans f7
  have f11 := (congrFun (fr_X3 72 (by decide)) _).trans f8
  refine V.caast 6 5 (pc := 57) (z := 96) (o := 68) (x := 0) (y := 72) hG (isA.of (by decide +kernel)) (by decide) (by decide) rfl (isA.of (by decide +kernel)) (by decide) (by decide) rfl (sR_l rfl) (by decide) (by decide) dX0_init_57 ?_
  have z11 := z10.sRf (o := 68) (kz := 0) (x := 72) (by decide)
  have f12 := (st_ne (o := 68) (k := 0) (v := 72) (by decide)).trans f9
  have f13 := (st_ne (o := 68) (k := 0) (v := 72) (by decide)).trans f10
  have f14 := (st_ne (o := 68) (k := 0) (v := 72) (by decide)).trans f11
  refine V.iinc (pc := 58) (x := 0) (lv' := [(1, .int (sJ 1)), (0, .ref (sA Δ 67))]) hG dX0_init_58 0 rfl (by decide) rfl ?_
  refine V.goto (pc := 61) (tgt := 39) hG dX0_init_61 (by decide) ?_
  refine V.iload_n (pc := 39) (x := 1) hG dX0_init_39 rfl 0 rfl ?_
  refine V.bipush (pc := 40) hG dX0_init_40 (by decide) ?_
  refine V.icmp_ge (pc := 42) (tgt := 64) hG (sR_l rfl) (sR_l rfl) dX0_init_42 (by decide) (fun c1 => absurd c1 (by decide)) (fun _ => ?_)
  refine V.aload_n (pc := 45) hG dX0_init_45 rfl 1 rfl ?_
  refine V.getR (x := 68) (pc := 46) (ci := 2) (k := 0) (M := 5) (T := TX0) (o := 67) (kz := 0) hG (isA.of (by decide +kernel)) (by decide) (by decide) hin_X0 rfl (by decide) (by decide) rfl kw_349 rfl f12 (by decide) dX0_init_46 ?_
  refine V.iload_n (pc := 49) (x := 1) hG dX0_init_49 rfl 0 rfl ?_
  refine V.cnew (pc := 50) (ci := 5) (N := 13) (T := TX3) (ty := tyX3) hG hin_X3 rfl tyX3_ok kw_275 kw_277 kw_108 (by decide +kernel) (by decide) rfl defX3 (z11.z (by decide)) ⟨by decide, by decide⟩ dX0_init_50 ?_
  refine V.nn (n2 := 74) rfl ?_
  have z12 := z11.up (m := 74) (by omega)
  refine V.dup (pc := 53) hG dX0_init_53 rfl ?_
  refine V.ccallN (pc := 54) (n2 := 74) hG (ct_X3 l Δ (73) (isA.of (by decide +kernel))  (by decide) z12) mY_X3_init rfl kw_278 kw_279 ⟨by decide, by decide, by decide, by decide⟩ (Nat.le_of_ble_eq_true rfl) dX0_init_54 ?_
  have z13 := zf_X3 73 z12
  have f15 := (congrFun (fr_X3 73 (by decide)) _).trans f12
  have f16 := (congrFun (fr_X3 73 (by decide)) _).trans f13
  have f17 := (congrFun (fr_X3 73 (by decide)) _).trans f14
  refine V.caast 6 5 (pc := 57) (z := 96) (o := 68) (x := 1) (y := 73) hG (isA.of (by decide +kernel)) (by decide) (by decide) rfl (isA.of (by decide +kernel)) (by decide) (by decide) rfl (sR_l rfl) (by decide) (by decide) dX0_init_57 ?_
  have z14 := z13.sRf (o := 68) (kz := 1) (x := 73) (by decide)
  have f18 := (st_ne (o := 68) (k := 1) (v := 73) (by decide)).trans f15
  have f19 := (st_ne (o := 68) (k := 1) (v := 73) (by decide)).trans f16
  have f20 := (st_ne (o := 68) (k := 1) (v := 73) (by decide)).trans f17
  refine V.iinc (pc := 58) (x := 1) (lv' := [(1, .int (sJ 2)), (0, .ref (sA Δ 67))]) hG dX0_init_58 0 rfl (by decide) rfl ?_
  refine V.goto (pc := 61) (tgt := 39) hG dX0_init_61 (by decide) ?_
  refine V.iload_n (pc := 39) (x := 2) hG dX0_init_39 rfl 0 rfl ?_
  refine V.bipush (pc := 40) hG dX0_init_40 (by decide) ?_
  refine V.icmp_ge (pc := 42) (tgt := 64) hG (sR_l rfl) (sR_l rfl) dX0_init_42 (by decide) (fun c1 => absurd c1 (by decide)) (fun _ => ?_)
  refine V.aload_n (pc := 45) hG dX0_init_45 rfl 1 rfl ?_
  refine V.getR (x := 68) (pc := 46) (ci := 2) (k := 0) (M := 5) (T := TX0) (o := 67) (kz := 0) hG (isA.of (by decide +kernel)) (by decide) (by decide) hin_X0 rfl (by decide) (by decide) rfl kw_349 rfl f18 (by decide) dX0_init_46 ?_
  refine V.iload_n (pc := 49) (x := 2) hG dX0_init_49 rfl 0 rfl ?_
  refine V.cnew (pc := 50) (ci := 5) (N := 13) (T := TX3) (ty := tyX3) hG hin_X3 rfl tyX3_ok kw_275 kw_277 kw_108 (by decide +kernel) (by decide) rfl defX3 (z14.z (by decide)) ⟨by decide, by decide⟩ dX0_init_50 ?_
  refine V.nn (n2 := 75) rfl ?_
  have z15 := z14.up (m := 75) (by omega)
  refine V.dup (pc := 53) hG dX0_init_53 rfl ?_
  refine V.ccallN (pc := 54) (n2 := 75) hG (ct_X3 l Δ (74) (isA.of (by decide +kernel))  (by decide) z15) mY_X3_init rfl kw_278 kw_279 ⟨by decide, by decide, by decide, by decide⟩ (Nat.le_of_ble_eq_true rfl) dX0_init_54 ?_
  have z16 := zf_X3 74 z15
  have f21 := (congrFun (fr_X3 74 (by decide)) _).trans f18
  have f22 := (congrFun (fr_X3 74 (by decide)) _).trans f19
  have f23 := (congrFun (fr_X3 74 (by decide)) _).trans f20
  refine V.caast 6 5 (pc := 57) (z := 96) (o := 68) (x := 2) (y := 74) hG (isA.of (by decide +kernel)) (by decide) (by decide) rfl (isA.of (by decide +kernel)) (by decide) (by decide) rfl (sR_l rfl) (by decide) (by decide) dX0_init_57 ?_
  have z17 := z16.sRf (o := 68) (kz := 2) (x := 74) (by decide)
  have f24 := (st_ne (o := 68) (k := 2) (v := 74) (by decide)).trans f21
  have f25 := (st_ne (o := 68) (k := 2) (v := 74) (by decide)).trans f22
  have f26 := (st_ne (o := 68) (k := 2) (v := 74) (by decide)).trans f23
  refine V.iinc (pc := 58) (x := 2) (lv' := [(1, .int (sJ 3)), (0, .ref (sA Δ 67))]) hG dX0_init_58 0 rfl (by decide) rfl ?_
  refine V.goto (pc := 61) (tgt := 39) hG dX0_init_61 (by decide) ?_
  refine V.iload_n (pc := 39) (x := 3) hG dX0_init_39 rfl 0 rfl ?_
  refine V.bipush (pc := 40) hG dX0_init_40 (by decide) ?_
  refine V.icmp_ge (pc := 42) (tgt := 64) hG (sR_l rfl) (sR_l rfl) dX0_init_42 (by decide) (fun c1 => absurd c1 (by decide)) (fun _ => ?_)
  refine V.aload_n (pc := 45) hG dX0_init_45 rfl 1 rfl ?_
  refine V.getR (x := 68) (pc := 46) (ci := 2) (k := 0) (M := 5) (T := TX0) (o := 67) (kz := 0) hG (isA.of (by decide +kernel)) (by decide) (by decide) hin_X0 rfl (by decide) (by decide) rfl kw_349 rfl f24 (by decide) dX0_init_46 ?_
  refine V.iload_n (pc := 49) (x := 3) hG dX0_init_49 rfl 0 rfl ?_
  refine V.cnew (pc := 50) (ci := 5) (N := 13) (T := TX3) (ty := tyX3) hG hin_X3 rfl tyX3_ok kw_275 kw_277 kw_108 (by decide +kernel) (by decide) rfl defX3 (z17.z (by decide)) ⟨by decide, by decide⟩ dX0_init_50 ?_
  refine V.nn (n2 := 76) rfl ?_
  have z18 := z17.up (m := 76) (by omega)
  refine V.dup (pc := 53) hG dX0_init_53 rfl ?_
  refine V.ccallN (pc := 54) (n2 := 76) hG (ct_X3 l Δ (75) (isA.of (by decide +kernel))  (by decide) z18) mY_X3_init rfl kw_278 kw_279 ⟨by decide, by decide, by decide, by decide⟩ (Nat.le_of_ble_eq_true rfl) dX0_init_54 ?_
  have z19 := zf_X3 75 z18
  have f27 := (congrFun (fr_X3 75 (by decide)) _).trans f24
  have f28 := (congrFun (fr_X3 75 (by decide)) _).trans f25
  have f29 := (congrFun (fr_X3 75 (by decide)) _).trans f26
  refine V.caast 6 5 (pc := 57) (z := 96) (o := 68) (x := 3) (y := 75) hG (isA.of (by decide +kernel)) (by decide) (by decide) rfl (isA.of (by decide +kernel)) (by decide) (by decide) rfl (sR_l rfl) (by decide) (by decide) dX0_init_57 ?_
  have z20 := z19.sRf (o := 68) (kz := 3) (x := 75) (by decide)
  have f30 := (st_ne (o := 68) (k := 3) (v := 75) (by decide)).trans f27
  have f31 := (st_ne (o := 68) (k := 3) (v := 75) (by decide)).trans f28
  have f32 := (st_ne (o := 68) (k := 3) (v := 75) (by decide)).trans f29
  refine V.iinc (pc := 58) (x := 3) (lv' := [(1, .int (sJ 4)), (0, .ref (sA Δ 67))]) hG dX0_init_58 0 rfl (by decide) rfl ?_
  refine V.goto (pc := 61) (tgt := 39) hG dX0_init_61 (by decide) ?_
  refine V.iload_n (pc := 39) (x := 4) hG dX0_init_39 rfl 0 rfl ?_
  refine V.bipush (pc := 40) hG dX0_init_40 (by decide) ?_
  refine V.icmp_ge (pc := 42) (tgt := 64) hG (sR_l rfl) (sR_l rfl) dX0_init_42 (by decide) (fun c1 => absurd c1 (by decide)) (fun _ => ?_)
  refine V.aload_n (pc := 45) hG dX0_init_45 rfl 1 rfl ?_
  refine V.getR (x := 68) (pc := 46) (ci := 2) (k := 0) (M := 5) (T := TX0) (o := 67) (kz := 0) hG (isA.of (by decide +kernel)) (by decide) (by decide) hin_X0 rfl (by decide) (by decide) rfl kw_349 rfl f30 (by decide) dX0_init_46 ?_
  refine V.iload_n (pc := 49) (x := 4) hG dX0_init_49 rfl 0 rfl ?_
  refine V.cnew (pc := 50) (ci := 5) (N := 13) (T := TX3) (ty := tyX3) hG hin_X3 rfl tyX3_ok kw_275 kw_277 kw_108 (by decide +kernel) (by decide) rfl defX3 (z20.z (by decide)) ⟨by decide, by decide⟩ dX0_init_50 ?_
  refine V.nn (n2 := 77) rfl ?_
  have z21 := z20.up (m := 77) (by omega)
  refine V.dup (pc := 53) hG dX0_init_53 rfl ?_
  refine V.ccallN (pc := 54) (n2 := 77) hG (ct_X3 l Δ (76) (isA.of (by decide +kernel))  (by decide) z21) mY_X3_init rfl kw_278 kw_279 ⟨by decide, by decide, by decide, by decide⟩ (Nat.le_of_ble_eq_true rfl) dX0_init_54 ?_
  have z22 := zf_X3 76 z21
  have f33 := (congrFun (fr_X3 76 (by decide)) _).trans f30
  have f34 := (congrFun (fr_X3 76 (by decide)) _).trans f31
  have f35 := (congrFun (fr_X3 76 (by decide)) _).trans f32
  refine V.caast 6 5 (pc := 57) (z := 96) (o := 68) (x := 4) (y := 76) hG (isA.of (by decide +kernel)) (by decide) (by decide) rfl (isA.of (by decide +kernel)) (by decide) (by decide) rfl (sR_l rfl) (by decide) (by decide) dX0_init_57 ?_
  have z23 := z22.sRf (o := 68) (kz := 4) (x := 76) (by decide)
  have f36 := (st_ne (o := 68) (k := 4) (v := 76) (by decide)).trans f33
  have f37 := (st_ne (o := 68) (k := 4) (v := 76) (by decide)).trans f34
  have f38 := (st_ne (o := 68) (k := 4) (v := 76) (by decide)).trans f35
  refine V.iinc (pc := 58) (x := 4) (lv' := [(1, .int (sJ 5)), (0, .ref (sA Δ 67))]) hG dX0_init_58 0 rfl (by decide) rfl ?_
  refine V.goto (pc := 61) (tgt := 39) hG dX0_init_61 (by decide) ?_
  refine V.iload_n (pc := 39) (x := 5) hG dX0_init_39 rfl 0 rfl ?_
  refine V.bipush (pc := 40) hG dX0_init_40 (by decide) ?_
  refine V.icmp_ge (pc := 42) (tgt := 64) hG (sR_l rfl) (sR_l rfl) dX0_init_42 (by decide) (fun c1 => absurd c1 (by decide)) (fun _ => ?_)
  refine V.aload_n (pc := 45) hG dX0_init_45 rfl 1 rfl ?_
  refine V.getR (x := 68) (pc := 46) (ci := 2) (k := 0) (M := 5) (T := TX0) (o := 67) (kz := 0) hG (isA.of (by decide +kernel)) (by decide) (by decide) hin_X0 rfl (by decide) (by decide) rfl kw_349 rfl f36 (by decide) dX0_init_46 ?_
  refine V.iload_n (pc := 49) (x := 5) hG dX0_init_49 rfl 0 rfl ?_
  refine V.cnew (pc := 50) (ci := 5) (N := 13) (T := TX3) (ty := tyX3) hG hin_X3 rfl tyX3_ok kw_275 kw_277 kw_108 (by decide +kernel) (by decide) rfl defX3 (z23.z (by decide)) ⟨by decide, by decide⟩ dX0_init_50 ?_
  refine V.nn (n2 := 78) rfl ?_
  have z24 := z23.up (m := 78) (by omega)
  refine V.dup (pc := 53) hG dX0_init_53 rfl ?_
  refine V.ccallN (pc := 54) (n2 := 78) hG (ct_X3 l Δ (77) (isA.of (by decide +kernel))  (by decide) z24) mY_X3_init rfl kw_278 kw_279 ⟨by decide, by decide, by decide, by decide⟩ (Nat.le_of_ble_eq_true rfl) dX0_init_54 ?_
  have z25 := zf_X3 77 z24
  have f39 := (congrFun (fr_X3 77 (by decide)) _).trans f36
  have f40 := (congrFun (fr_X3 77 (by decide)) _).trans f37
  have f41 := (congrFun (fr_X3 77 (by decide)) _).trans f38
  refine V.caast 6 5 (pc := 57) (z := 96) (o := 68) (x := 5) (y := 77) hG (isA.of (by decide +kernel)) (by decide) (by decide) rfl (isA.of (by decide +kernel)) (by decide) (by decide) rfl (sR_l rfl) (by decide) (by decide) dX0_init_57 ?_
  have z26 := z25.sRf (o := 68) (kz := 5) (x := 77) (by decide)
  have f42 := (st_ne (o := 68) (k := 5) (v := 77) (by decide)).trans f39
  have f43 := (st_ne (o := 68) (k := 5) (v := 77) (by decide)).trans f40
  have f44 := (st_ne (o := 68) (k := 5) (v := 77) (by decide)).trans f41
  refine V.iinc (pc := 58) (x := 5) (lv' := [(1, .int (sJ 6)), (0, .ref (sA Δ 67))]) hG dX0_init_58 0 rfl (by decide) rfl ?_
  refine V.goto (pc := 61) (tgt := 39) hG dX0_init_61 (by decide) ?_
  refine V.iload_n (pc := 39) (x := 6) hG dX0_init_39 rfl 0 rfl ?_
  refine V.bipush (pc := 40) hG dX0_init_40 (by decide) ?_
  refine V.icmp_ge (pc := 42) (tgt := 64) hG (sR_l rfl) (sR_l rfl) dX0_init_42 (by decide) (fun c1 => absurd c1 (by decide)) (fun _ => ?_)
  refine V.aload_n (pc := 45) hG dX0_init_45 rfl 1 rfl ?_
  refine V.getR (x := 68) (pc := 46) (ci := 2) (k := 0) (M := 5) (T := TX0) (o := 67) (kz := 0) hG (isA.of (by decide +kernel)) (by decide) (by decide) hin_X0 rfl (by decide) (by decide) rfl kw_349 rfl f42 (by decide) dX0_init_46 ?_
  refine V.iload_n (pc := 49) (x := 6) hG dX0_init_49 rfl 0 rfl ?_
  refine V.cnew (pc := 50) (ci := 5) (N := 13) (T := TX3) (ty := tyX3) hG hin_X3 rfl tyX3_ok kw_275 kw_277 kw_108 (by decide +kernel) (by decide) rfl defX3 (z26.z (by decide)) ⟨by decide, by decide⟩ dX0_init_50 ?_
  refine V.nn (n2 := 79) rfl ?_
  have z27 := z26.up (m := 79) (by omega)
  refine V.dup (pc := 53) hG dX0_init_53 rfl ?_
  refine V.ccallN (pc := 54) (n2 := 79) hG (ct_X3 l Δ (78) (isA.of (by decide +kernel))  (by decide) z27) mY_X3_init rfl kw_278 kw_279 ⟨by decide, by decide, by decide, by decide⟩ (Nat.le_of_ble_eq_true rfl) dX0_init_54 ?_
  have z28 := zf_X3 78 z27
  have f45 := (congrFun (fr_X3 78 (by decide)) _).trans f42
  have f46 := (congrFun (fr_X3 78 (by decide)) _).trans f43
  have f47 := (congrFun (fr_X3 78 (by decide)) _).trans f44
  refine V.caast 6 5 (pc := 57) (z := 96) (o := 68) (x := 6) (y := 78) hG (isA.of (by decide +kernel)) (by decide) (by decide) rfl (isA.of (by decide +kernel)) (by decide) (by decide) rfl (sR_l rfl) (by decide) (by decide) dX0_init_57 ?_
  have z29 := z28.sRf (o := 68) (kz := 6) (x := 78) (by decide)
  have f48 := (st_ne (o := 68) (k := 6) (v := 78) (by decide)).trans f45
  have f49 := (st_ne (o := 68) (k := 6) (v := 78) (by decide)).trans f46
  have f50 := (st_ne (o := 68) (k := 6) (v := 78) (by decide)).trans f47
  refine V.iinc (pc := 58) (x := 6) (lv' := [(1, .int (sJ 7)), (0, .ref (sA Δ 67))]) hG dX0_init_58 0 rfl (by decide) rfl ?_
  refine V.goto (pc := 61) (tgt := 39) hG dX0_init_61 (by decide) ?_
  refine V.iload_n (pc := 39) (x := 7) hG dX0_init_39 rfl 0 rfl ?_
  refine V.bipush (pc := 40) hG dX0_init_40 (by decide) ?_
  refine V.icmp_ge (pc := 42) (tgt := 64) hG (sR_l rfl) (sR_l rfl) dX0_init_42 (by decide) (fun c1 => absurd c1 (by decide)) (fun _ => ?_)
  refine V.aload_n (pc := 45) hG dX0_init_45 rfl 1 rfl ?_
  refine V.getR (x := 68) (pc := 46) (ci := 2) (k := 0) (M := 5) (T := TX0) (o := 67) (kz := 0) hG (isA.of (by decide +kernel)) (by decide) (by decide) hin_X0 rfl (by decide) (by decide) rfl kw_349 rfl f48 (by decide) dX0_init_46 ?_
  refine V.iload_n (pc := 49) (x := 7) hG dX0_init_49 rfl 0 rfl ?_
  refine V.cnew (pc := 50) (ci := 5) (N := 13) (T := TX3) (ty := tyX3) hG hin_X3 rfl tyX3_ok kw_275 kw_277 kw_108 (by decide +kernel) (by decide) rfl defX3 (z29.z (by decide)) ⟨by decide, by decide⟩ dX0_init_50 ?_
  refine V.nn (n2 := 80) rfl ?_
  have z30 := z29.up (m := 80) (by omega)
  refine V.dup (pc := 53) hG dX0_init_53 rfl ?_
  refine V.ccallN (pc := 54) (n2 := 80) hG (ct_X3 l Δ (79) (isA.of (by decide +kernel))  (by decide) z30) mY_X3_init rfl kw_278 kw_279 ⟨by decide, by decide, by decide, by decide⟩ (Nat.le_of_ble_eq_true rfl) dX0_init_54 ?_
  have z31 := zf_X3 79 z30
  have f51 := (congrFun (fr_X3 79 (by decide)) _).trans f48
  have f52 := (congrFun (fr_X3 79 (by decide)) _).trans f49
  have f53 := (congrFun (fr_X3 79 (by decide)) _).trans f50
  refine V.caast 6 5 (pc := 57) (z := 96) (o := 68) (x := 7) (y := 79) hG (isA.of (by decide +kernel)) (by decide) (by decide) rfl (isA.of (by decide +kernel)) (by decide) (by decide) rfl (sR_l rfl) (by decide) (by decide) dX0_init_57 ?_
  have z32 := z31.sRf (o := 68) (kz := 7) (x := 79) (by decide)
  have f54 := (st_ne (o := 68) (k := 7) (v := 79) (by decide)).trans f51
  have f55 := (st_ne (o := 68) (k := 7) (v := 79) (by decide)).trans f52
  have f56 := (st_ne (o := 68) (k := 7) (v := 79) (by decide)).trans f53
  refine V.iinc (pc := 58) (x := 7) (lv' := [(1, .int (sJ 8)), (0, .ref (sA Δ 67))]) hG dX0_init_58 0 rfl (by decide) rfl ?_
  refine V.goto (pc := 61) (tgt := 39) hG dX0_init_61 (by decide) ?_
  refine V.iload_n (pc := 39) (x := 8) hG dX0_init_39 rfl 0 rfl ?_
  refine V.bipush (pc := 40) hG dX0_init_40 (by decide) ?_
  refine V.icmp_ge (pc := 42) (tgt := 64) hG (sR_l rfl) (sR_l rfl) dX0_init_42 (by decide) (fun c1 => absurd c1 (by decide)) (fun _ => ?_)
  refine V.aload_n (pc := 45) hG dX0_init_45 rfl 1 rfl ?_
  refine V.getR (x := 68) (pc := 46) (ci := 2) (k := 0) (M := 5) (T := TX0) (o := 67) (kz := 0) hG (isA.of (by decide +kernel)) (by decide) (by decide) hin_X0 rfl (by decide) (by decide) rfl kw_349 rfl f54 (by decide) dX0_init_46 ?_
  refine V.iload_n (pc := 49) (x := 8) hG dX0_init_49 rfl 0 rfl ?_
  refine V.cnew (pc := 50) (ci := 5) (N := 13) (T := TX3) (ty := tyX3) hG hin_X3 rfl tyX3_ok kw_275 kw_277 kw_108 (by decide +kernel) (by decide) rfl defX3 (z32.z (by decide)) ⟨by decide, by decide⟩ dX0_init_50 ?_
  refine V.nn (n2 := 81) rfl ?_
  have z33 := z32.up (m := 81) (by omega)
  refine V.dup (pc := 53) hG dX0_init_53 rfl ?_
  refine V.ccallN (pc := 54) (n2 := 81) hG (ct_X3 l Δ (80) (isA.of (by decide +kernel))  (by decide) z33) mY_X3_init rfl kw_278 kw_279 ⟨by decide, by decide, by decide, by decide⟩ (Nat.le_of_ble_eq_true rfl) dX0_init_54 ?_
  have z34 := zf_X3 80 z33
  have f57 := (congrFun (fr_X3 80 (by decide)) _).trans f54
  have f58 := (congrFun (fr_X3 80 (by decide)) _).trans f55
  have f59 := (congrFun (fr_X3 80 (by decide)) _).trans f56
  refine V.caast 6 5 (pc := 57) (z := 96) (o := 68) (x := 8) (y := 80) hG (isA.of (by decide +kernel)) (by decide) (by decide) rfl (isA.of (by decide +kernel)) (by decide) (by decide) rfl (sR_l rfl) (by decide) (by decide) dX0_init_57 ?_
  have z35 := z34.sRf (o := 68) (kz := 8) (x := 80) (by decide)
  have f60 := (st_ne (o := 68) (k := 8) (v := 80) (by decide)).trans f57
  have f61 := (st_ne (o := 68) (k := 8) (v := 80) (by decide)).trans f58
  have f62 := (st_ne (o := 68) (k := 8) (v := 80) (by decide)).trans f59
  refine V.iinc (pc := 58) (x := 8) (lv' := [(1, .int (sJ 9)), (0, .ref (sA Δ 67))]) hG dX0_init_58 0 rfl (by decide) rfl ?_
  refine V.goto (pc := 61) (tgt := 39) hG dX0_init_61 (by decide) ?_
  refine V.iload_n (pc := 39) (x := 9) hG dX0_init_39 rfl 0 rfl ?_
  refine V.bipush (pc := 40) hG dX0_init_40 (by decide) ?_
  refine V.icmp_ge (pc := 42) (tgt := 64) hG (sR_l rfl) (sR_l rfl) dX0_init_42 (by decide) (fun c1 => absurd c1 (by decide)) (fun _ => ?_)
  refine V.aload_n (pc := 45) hG dX0_init_45 rfl 1 rfl ?_
  refine V.getR (x := 68) (pc := 46) (ci := 2) (k := 0) (M := 5) (T := TX0) (o := 67) (kz := 0) hG (isA.of (by decide +kernel)) (by decide) (by decide) hin_X0 rfl (by decide) (by decide) rfl kw_349 rfl f60 (by decide) dX0_init_46 ?_
  refine V.iload_n (pc := 49) (x := 9) hG dX0_init_49 rfl 0 rfl ?_
  refine V.cnew (pc := 50) (ci := 5) (N := 13) (T := TX3) (ty := tyX3) hG hin_X3 rfl tyX3_ok kw_275 kw_277 kw_108 (by decide +kernel) (by decide) rfl defX3 (z35.z (by decide)) ⟨by decide, by decide⟩ dX0_init_50 ?_
  refine V.nn (n2 := 82) rfl ?_
  have z36 := z35.up (m := 82) (by omega)
  refine V.dup (pc := 53) hG dX0_init_53 rfl ?_
  refine V.ccallN (pc := 54) (n2 := 82) hG (ct_X3 l Δ (81) (isA.of (by decide +kernel))  (by decide) z36) mY_X3_init rfl kw_278 kw_279 ⟨by decide, by decide, by decide, by decide⟩ (Nat.le_of_ble_eq_true rfl) dX0_init_54 ?_
  have z37 := zf_X3 81 z36
  have f63 := (congrFun (fr_X3 81 (by decide)) _).trans f60
  have f64 := (congrFun (fr_X3 81 (by decide)) _).trans f61
  have f65 := (congrFun (fr_X3 81 (by decide)) _).trans f62
  refine V.caast 6 5 (pc := 57) (z := 96) (o := 68) (x := 9) (y := 81) hG (isA.of (by decide +kernel)) (by decide) (by decide) rfl (isA.of (by decide +kernel)) (by decide) (by decide) rfl (sR_l rfl) (by decide) (by decide) dX0_init_57 ?_
  have z38 := z37.sRf (o := 68) (kz := 9) (x := 81) (by decide)
  have f66 := (st_ne (o := 68) (k := 9) (v := 81) (by decide)).trans f63
  have f67 := (st_ne (o := 68) (k := 9) (v := 81) (by decide)).trans f64
  have f68 := (st_ne (o := 68) (k := 9) (v := 81) (by decide)).trans f65
  refine V.iinc (pc := 58) (x := 9) (lv' := [(1, .int (sJ 10)), (0, .ref (sA Δ 67))]) hG dX0_init_58 0 rfl (by decide) rfl ?_
  refine V.goto (pc := 61) (tgt := 39) hG dX0_init_61 (by decide) ?_
  refine V.iload_n (pc := 39) (x := 10) hG dX0_init_39 rfl 0 rfl ?_
  refine V.bipush (pc := 40) hG dX0_init_40 (by decide) ?_
  refine V.icmp_ge (pc := 42) (tgt := 64) hG (sR_l rfl) (sR_l rfl) dX0_init_42 (by decide) (fun c1 => absurd c1 (by decide)) (fun _ => ?_)
  refine V.aload_n (pc := 45) hG dX0_init_45 rfl 1 rfl ?_
  refine V.getR (x := 68) (pc := 46) (ci := 2) (k := 0) (M := 5) (T := TX0) (o := 67) (kz := 0) hG (isA.of (by decide +kernel)) (by decide) (by decide) hin_X0 rfl (by decide) (by decide) rfl kw_349 rfl f66 (by decide) dX0_init_46 ?_
  refine V.iload_n (pc := 49) (x := 10) hG dX0_init_49 rfl 0 rfl ?_
  refine V.cnew (pc := 50) (ci := 5) (N := 13) (T := TX3) (ty := tyX3) hG hin_X3 rfl tyX3_ok kw_275 kw_277 kw_108 (by decide +kernel) (by decide) rfl defX3 (z38.z (by decide)) ⟨by decide, by decide⟩ dX0_init_50 ?_
  refine V.nn (n2 := 83) rfl ?_
  have z39 := z38.up (m := 83) (by omega)
  refine V.dup (pc := 53) hG dX0_init_53 rfl ?_
  refine V.ccallN (pc := 54) (n2 := 83) hG (ct_X3 l Δ (82) (isA.of (by decide +kernel))  (by decide) z39) mY_X3_init rfl kw_278 kw_279 ⟨by decide, by decide, by decide, by decide⟩ (Nat.le_of_ble_eq_true rfl) dX0_init_54 ?_
  have z40 := zf_X3 82 z39
  have f69 := (congrFun (fr_X3 82 (by decide)) _).trans f66
  have f70 := (congrFun (fr_X3 82 (by decide)) _).trans f67
  have f71 := (congrFun (fr_X3 82 (by decide)) _).trans f68
  refine V.caast 6 5 (pc := 57) (z := 96) (o := 68) (x := 10) (y := 82) hG (isA.of (by decide +kernel)) (by decide) (by decide) rfl (isA.of (by decide +kernel)) (by decide) (by decide) rfl (sR_l rfl) (by decide) (by decide) dX0_init_57 ?_
  have z41 := z40.sRf (o := 68) (kz := 10) (x := 82) (by decide)
  have f72 := (st_ne (o := 68) (k := 10) (v := 82) (by decide)).trans f69
  have f73 := (st_ne (o := 68) (k := 10) (v := 82) (by decide)).trans f70
  have f74 := (st_ne (o := 68) (k := 10) (v := 82) (by decide)).trans f71
  refine V.iinc (pc := 58) (x := 10) (lv' := [(1, .int (sJ 11)), (0, .ref (sA Δ 67))]) hG dX0_init_58 0 rfl (by decide) rfl ?_
  refine V.goto (pc := 61) (tgt := 39) hG dX0_init_61 (by decide) ?_
  refine V.iload_n (pc := 39) (x := 11) hG dX0_init_39 rfl 0 rfl ?_
  refine V.bipush (pc := 40) hG dX0_init_40 (by decide) ?_
  refine V.icmp_ge (pc := 42) (tgt := 64) hG (sR_l rfl) (sR_l rfl) dX0_init_42 (by decide) (fun c1 => absurd c1 (by decide)) (fun _ => ?_)
  refine V.aload_n (pc := 45) hG dX0_init_45 rfl 1 rfl ?_
  refine V.getR (x := 68) (pc := 46) (ci := 2) (k := 0) (M := 5) (T := TX0) (o := 67) (kz := 0) hG (isA.of (by decide +kernel)) (by decide) (by decide) hin_X0 rfl (by decide) (by decide) rfl kw_349 rfl f72 (by decide) dX0_init_46 ?_
  refine V.iload_n (pc := 49) (x := 11) hG dX0_init_49 rfl 0 rfl ?_
  refine V.cnew (pc := 50) (ci := 5) (N := 13) (T := TX3) (ty := tyX3) hG hin_X3 rfl tyX3_ok kw_275 kw_277 kw_108 (by decide +kernel) (by decide) rfl defX3 (z41.z (by decide)) ⟨by decide, by decide⟩ dX0_init_50 ?_
  refine V.nn (n2 := 84) rfl ?_
  have z42 := z41.up (m := 84) (by omega)
  refine V.dup (pc := 53) hG dX0_init_53 rfl ?_
  refine V.ccallN (pc := 54) (n2 := 84) hG (ct_X3 l Δ (83) (isA.of (by decide +kernel))  (by decide) z42) mY_X3_init rfl kw_278 kw_279 ⟨by decide, by decide, by decide, by decide⟩ (Nat.le_of_ble_eq_true rfl) dX0_init_54 ?_
  have z43 := zf_X3 83 z42
  have f75 := (congrFun (fr_X3 83 (by decide)) _).trans f72
  have f76 := (congrFun (fr_X3 83 (by decide)) _).trans f73
  have f77 := (congrFun (fr_X3 83 (by decide)) _).trans f74
  refine V.caast 6 5 (pc := 57) (z := 96) (o := 68) (x := 11) (y := 83) hG (isA.of (by decide +kernel)) (by decide) (by decide) rfl (isA.of (by decide +kernel)) (by decide) (by decide) rfl (sR_l rfl) (by decide) (by decide) dX0_init_57 ?_
  have z44 := z43.sRf (o := 68) (kz := 11) (x := 83) (by decide)
  have f78 := (st_ne (o := 68) (k := 11) (v := 83) (by decide)).trans f75
  have f79 := (st_ne (o := 68) (k := 11) (v := 83) (by decide)).trans f76
  have f80 := (st_ne (o := 68) (k := 11) (v := 83) (by decide)).trans f77
  refine V.iinc (pc := 58) (x := 11) (lv' := [(1, .int (sJ 12)), (0, .ref (sA Δ 67))]) hG dX0_init_58 0 rfl (by decide) rfl ?_
  refine V.goto (pc := 61) (tgt := 39) hG dX0_init_61 (by decide) ?_
  refine V.iload_n (pc := 39) (x := 12) hG dX0_init_39 rfl 0 rfl ?_
  refine V.bipush (pc := 40) hG dX0_init_40 (by decide) ?_
  refine V.icmp_ge (pc := 42) (tgt := 64) hG (sR_l rfl) (sR_l rfl) dX0_init_42 (by decide) (fun c1 => absurd c1 (by decide)) (fun _ => ?_)
  refine V.aload_n (pc := 45) hG dX0_init_45 rfl 1 rfl ?_
  refine V.getR (x := 68) (pc := 46) (ci := 2) (k := 0) (M := 5) (T := TX0) (o := 67) (kz := 0) hG (isA.of (by decide +kernel)) (by decide) (by decide) hin_X0 rfl (by decide) (by decide) rfl kw_349 rfl f78 (by decide) dX0_init_46 ?_
  refine V.iload_n (pc := 49) (x := 12) hG dX0_init_49 rfl 0 rfl ?_
  refine V.cnew (pc := 50) (ci := 5) (N := 13) (T := TX3) (ty := tyX3) hG hin_X3 rfl tyX3_ok kw_275 kw_277 kw_108 (by decide +kernel) (by decide) rfl defX3 (z44.z (by decide)) ⟨by decide, by decide⟩ dX0_init_50 ?_
  refine V.nn (n2 := 85) rfl ?_
  have z45 := z44.up (m := 85) (by omega)
  refine V.dup (pc := 53) hG dX0_init_53 rfl ?_
  refine V.ccallN (pc := 54) (n2 := 85) hG (ct_X3 l Δ (84) (isA.of (by decide +kernel))  (by decide) z45) mY_X3_init rfl kw_278 kw_279 ⟨by decide, by decide, by decide, by decide⟩ (Nat.le_of_ble_eq_true rfl) dX0_init_54 ?_
  have z46 := zf_X3 84 z45
  have f81 := (congrFun (fr_X3 84 (by decide)) _).trans f78
  have f82 := (congrFun (fr_X3 84 (by decide)) _).trans f79
  have f83 := (congrFun (fr_X3 84 (by decide)) _).trans f80
  refine V.caast 6 5 (pc := 57) (z := 96) (o := 68) (x := 12) (y := 84) hG (isA.of (by decide +kernel)) (by decide) (by decide) rfl (isA.of (by decide +kernel)) (by decide) (by decide) rfl (sR_l rfl) (by decide) (by decide) dX0_init_57 ?_
  have z47 := z46.sRf (o := 68) (kz := 12) (x := 84) (by decide)
  have f84 := (st_ne (o := 68) (k := 12) (v := 84) (by decide)).trans f81
  have f85 := (st_ne (o := 68) (k := 12) (v := 84) (by decide)).trans f82
  have f86 := (st_ne (o := 68) (k := 12) (v := 84) (by decide)).trans f83
  refine V.iinc (pc := 58) (x := 12) (lv' := [(1, .int (sJ 13)), (0, .ref (sA Δ 67))]) hG dX0_init_58 0 rfl (by decide) rfl ?_
  refine V.goto (pc := 61) (tgt := 39) hG dX0_init_61 (by decide) ?_
  refine V.iload_n (pc := 39) (x := 13) hG dX0_init_39 rfl 0 rfl ?_
  refine V.bipush (pc := 40) hG dX0_init_40 (by decide) ?_
  refine V.icmp_ge (pc := 42) (tgt := 64) hG (sR_l rfl) (sR_l rfl) dX0_init_42 (by decide) (fun c1 => absurd c1 (by decide)) (fun _ => ?_)
  refine V.aload_n (pc := 45) hG dX0_init_45 rfl 1 rfl ?_
  refine V.getR (x := 68) (pc := 46) (ci := 2) (k := 0) (M := 5) (T := TX0) (o := 67) (kz := 0) hG (isA.of (by decide +kernel)) (by decide) (by decide) hin_X0 rfl (by decide) (by decide) rfl kw_349 rfl f84 (by decide) dX0_init_46 ?_
  refine V.iload_n (pc := 49) (x := 13) hG dX0_init_49 rfl 0 rfl ?_
  refine V.cnew (pc := 50) (ci := 5) (N := 13) (T := TX3) (ty := tyX3) hG hin_X3 rfl tyX3_ok kw_275 kw_277 kw_108 (by decide +kernel) (by decide) rfl defX3 (z47.z (by decide)) ⟨by decide, by decide⟩ dX0_init_50 ?_
  refine V.nn (n2 := 86) rfl ?_
  have z48 := z47.up (m := 86) (by omega)
  refine V.dup (pc := 53) hG dX0_init_53 rfl ?_
  refine V.ccallN (pc := 54) (n2 := 86) hG (ct_X3 l Δ (85) (isA.of (by decide +kernel))  (by decide) z48) mY_X3_init rfl kw_278 kw_279 ⟨by decide, by decide, by decide, by decide⟩ (Nat.le_of_ble_eq_true rfl) dX0_init_54 ?_
  have z49 := zf_X3 85 z48
  have f87 := (congrFun (fr_X3 85 (by decide)) _).trans f84
  have f88 := (congrFun (fr_X3 85 (by decide)) _).trans f85
  have f89 := (congrFun (fr_X3 85 (by decide)) _).trans f86
  refine V.caast 6 5 (pc := 57) (z := 96) (o := 68) (x := 13) (y := 85) hG (isA.of (by decide +kernel)) (by decide) (by decide) rfl (isA.of (by decide +kernel)) (by decide) (by decide) rfl (sR_l rfl) (by decide) (by decide) dX0_init_57 ?_
  have z50 := z49.sRf (o := 68) (kz := 13) (x := 85) (by decide)
  have f90 := (st_ne (o := 68) (k := 13) (v := 85) (by decide)).trans f87
  have f91 := (st_ne (o := 68) (k := 13) (v := 85) (by decide)).trans f88
  have f92 := (st_ne (o := 68) (k := 13) (v := 85) (by decide)).trans f89
  refine V.iinc (pc := 58) (x := 13) (lv' := [(1, .int (sJ 14)), (0, .ref (sA Δ 67))]) hG dX0_init_58 0 rfl (by decide) rfl ?_
  refine V.goto (pc := 61) (tgt := 39) hG dX0_init_61 (by decide) ?_
  refine V.iload_n (pc := 39) (x := 14) hG dX0_init_39 rfl 0 rfl ?_
  refine V.bipush (pc := 40) hG dX0_init_40 (by decide) ?_
  refine V.icmp_ge (pc := 42) (tgt := 64) hG (sR_l rfl) (sR_l rfl) dX0_init_42 (by decide) (fun c1 => absurd c1 (by decide)) (fun _ => ?_)
  refine V.aload_n (pc := 45) hG dX0_init_45 rfl 1 rfl ?_
  refine V.getR (x := 68) (pc := 46) (ci := 2) (k := 0) (M := 5) (T := TX0) (o := 67) (kz := 0) hG (isA.of (by decide +kernel)) (by decide) (by decide) hin_X0 rfl (by decide) (by decide) rfl kw_349 rfl f90 (by decide) dX0_init_46 ?_
  refine V.iload_n (pc := 49) (x := 14) hG dX0_init_49 rfl 0 rfl ?_
  refine V.cnew (pc := 50) (ci := 5) (N := 13) (T := TX3) (ty := tyX3) hG hin_X3 rfl tyX3_ok kw_275 kw_277 kw_108 (by decide +kernel) (by decide) rfl defX3 (z50.z (by decide)) ⟨by decide, by decide⟩ dX0_init_50 ?_
  refine V.nn (n2 := 87) rfl ?_
  have z51 := z50.up (m := 87) (by omega)
  refine V.dup (pc := 53) hG dX0_init_53 rfl ?_
  refine V.ccallN (pc := 54) (n2 := 87) hG (ct_X3 l Δ (86) (isA.of (by decide +kernel))  (by decide) z51) mY_X3_init rfl kw_278 kw_279 ⟨by decide, by decide, by decide, by decide⟩ (Nat.le_of_ble_eq_true rfl) dX0_init_54 ?_
  have z52 := zf_X3 86 z51
  have f93 := (congrFun (fr_X3 86 (by decide)) _).trans f90
  have f94 := (congrFun (fr_X3 86 (by decide)) _).trans f91
  have f95 := (congrFun (fr_X3 86 (by decide)) _).trans f92
  refine V.caast 6 5 (pc := 57) (z := 96) (o := 68) (x := 14) (y := 86) hG (isA.of (by decide +kernel)) (by decide) (by decide) rfl (isA.of (by decide +kernel)) (by decide) (by decide) rfl (sR_l rfl) (by decide) (by decide) dX0_init_57 ?_
  have z53 := z52.sRf (o := 68) (kz := 14) (x := 86) (by decide)
  have f96 := (st_ne (o := 68) (k := 14) (v := 86) (by decide)).trans f93
  have f97 := (st_ne (o := 68) (k := 14) (v := 86) (by decide)).trans f94
  have f98 := (st_ne (o := 68) (k := 14) (v := 86) (by decide)).trans f95
  refine V.iinc (pc := 58) (x := 14) (lv' := [(1, .int (sJ 15)), (0, .ref (sA Δ 67))]) hG dX0_init_58 0 rfl (by decide) rfl ?_
  refine V.goto (pc := 61) (tgt := 39) hG dX0_init_61 (by decide) ?_
  refine V.iload_n (pc := 39) (x := 15) hG dX0_init_39 rfl 0 rfl ?_
  refine V.bipush (pc := 40) hG dX0_init_40 (by decide) ?_
  refine V.icmp_ge (pc := 42) (tgt := 64) hG (sR_l rfl) (sR_l rfl) dX0_init_42 (by decide) (fun c1 => absurd c1 (by decide)) (fun _ => ?_)
  refine V.aload_n (pc := 45) hG dX0_init_45 rfl 1 rfl ?_
  refine V.getR (x := 68) (pc := 46) (ci := 2) (k := 0) (M := 5) (T := TX0) (o := 67) (kz := 0) hG (isA.of (by decide +kernel)) (by decide) (by decide) hin_X0 rfl (by decide) (by decide) rfl kw_349 rfl f96 (by decide) dX0_init_46 ?_
  refine V.iload_n (pc := 49) (x := 15) hG dX0_init_49 rfl 0 rfl ?_
  refine V.cnew (pc := 50) (ci := 5) (N := 13) (T := TX3) (ty := tyX3) hG hin_X3 rfl tyX3_ok kw_275 kw_277 kw_108 (by decide +kernel) (by decide) rfl defX3 (z53.z (by decide)) ⟨by decide, by decide⟩ dX0_init_50 ?_
  refine V.nn (n2 := 88) rfl ?_
  have z54 := z53.up (m := 88) (by omega)
  refine V.dup (pc := 53) hG dX0_init_53 rfl ?_
  refine V.ccallN (pc := 54) (n2 := 88) hG (ct_X3 l Δ (87) (isA.of (by decide +kernel))  (by decide) z54) mY_X3_init rfl kw_278 kw_279 ⟨by decide, by decide, by decide, by decide⟩ (Nat.le_of_ble_eq_true rfl) dX0_init_54 ?_
  have z55 := zf_X3 87 z54
  have f99 := (congrFun (fr_X3 87 (by decide)) _).trans f96
  have f100 := (congrFun (fr_X3 87 (by decide)) _).trans f97
  have f101 := (congrFun (fr_X3 87 (by decide)) _).trans f98
  refine V.caast 6 5 (pc := 57) (z := 96) (o := 68) (x := 15) (y := 87) hG (isA.of (by decide +kernel)) (by decide) (by decide) rfl (isA.of (by decide +kernel)) (by decide) (by decide) rfl (sR_l rfl) (by decide) (by decide) dX0_init_57 ?_
  have z56 := z55.sRf (o := 68) (kz := 15) (x := 87) (by decide)
  have f102 := (st_ne (o := 68) (k := 15) (v := 87) (by decide)).trans f99
  have f103 := (st_ne (o := 68) (k := 15) (v := 87) (by decide)).trans f100
  have f104 := (st_ne (o := 68) (k := 15) (v := 87) (by decide)).trans f101
  refine V.iinc (pc := 58) (x := 15) (lv' := [(1, .int (sJ 16)), (0, .ref (sA Δ 67))]) hG dX0_init_58 0 rfl (by decide) rfl ?_
  refine V.goto (pc := 61) (tgt := 39) hG dX0_init_61 (by decide) ?_
  refine V.iload_n (pc := 39) (x := 16) hG dX0_init_39 rfl 0 rfl ?_
  refine V.bipush (pc := 40) hG dX0_init_40 (by decide) ?_
  refine V.icmp_ge (pc := 42) (tgt := 64) hG (sR_l rfl) (sR_l rfl) dX0_init_42 (by decide) (fun c1 => absurd c1 (by decide)) (fun _ => ?_)
  refine V.aload_n (pc := 45) hG dX0_init_45 rfl 1 rfl ?_
  refine V.getR (x := 68) (pc := 46) (ci := 2) (k := 0) (M := 5) (T := TX0) (o := 67) (kz := 0) hG (isA.of (by decide +kernel)) (by decide) (by decide) hin_X0 rfl (by decide) (by decide) rfl kw_349 rfl f102 (by decide) dX0_init_46 ?_
  refine V.iload_n (pc := 49) (x := 16) hG dX0_init_49 rfl 0 rfl ?_
  refine V.cnew (pc := 50) (ci := 5) (N := 13) (T := TX3) (ty := tyX3) hG hin_X3 rfl tyX3_ok kw_275 kw_277 kw_108 (by decide +kernel) (by decide) rfl defX3 (z56.z (by decide)) ⟨by decide, by decide⟩ dX0_init_50 ?_
  refine V.nn (n2 := 89) rfl ?_
  have z57 := z56.up (m := 89) (by omega)
  refine V.dup (pc := 53) hG dX0_init_53 rfl ?_
  refine V.ccallN (pc := 54) (n2 := 89) hG (ct_X3 l Δ (88) (isA.of (by decide +kernel))  (by decide) z57) mY_X3_init rfl kw_278 kw_279 ⟨by decide, by decide, by decide, by decide⟩ (Nat.le_of_ble_eq_true rfl) dX0_init_54 ?_
  have z58 := zf_X3 88 z57
  have f105 := (congrFun (fr_X3 88 (by decide)) _).trans f102
  have f106 := (congrFun (fr_X3 88 (by decide)) _).trans f103
  have f107 := (congrFun (fr_X3 88 (by decide)) _).trans f104
  refine V.caast 6 5 (pc := 57) (z := 96) (o := 68) (x := 16) (y := 88) hG (isA.of (by decide +kernel)) (by decide) (by decide) rfl (isA.of (by decide +kernel)) (by decide) (by decide) rfl (sR_l rfl) (by decide) (by decide) dX0_init_57 ?_
  have z59 := z58.sRf (o := 68) (kz := 16) (x := 88) (by decide)
  have f108 := (st_ne (o := 68) (k := 16) (v := 88) (by decide)).trans f105
  have f109 := (st_ne (o := 68) (k := 16) (v := 88) (by decide)).trans f106
  have f110 := (st_ne (o := 68) (k := 16) (v := 88) (by decide)).trans f107
  refine V.iinc (pc := 58) (x := 16) (lv' := [(1, .int (sJ 17)), (0, .ref (sA Δ 67))]) hG dX0_init_58 0 rfl (by decide) rfl ?_
  refine V.goto (pc := 61) (tgt := 39) hG dX0_init_61 (by decide) ?_
  refine V.iload_n (pc := 39) (x := 17) hG dX0_init_39 rfl 0 rfl ?_
  refine V.bipush (pc := 40) hG dX0_init_40 (by decide) ?_
  refine V.icmp_ge (pc := 42) (tgt := 64) hG (sR_l rfl) (sR_l rfl) dX0_init_42 (by decide) (fun c1 => absurd c1 (by decide)) (fun _ => ?_)
  refine V.aload_n (pc := 45) hG dX0_init_45 rfl 1 rfl ?_
  refine V.getR (x := 68) (pc := 46) (ci := 2) (k := 0) (M := 5) (T := TX0) (o := 67) (kz := 0) hG (isA.of (by decide +kernel)) (by decide) (by decide) hin_X0 rfl (by decide) (by decide) rfl kw_349 rfl f108 (by decide) dX0_init_46 ?_
  refine V.iload_n (pc := 49) (x := 17) hG dX0_init_49 rfl 0 rfl ?_
  refine V.cnew (pc := 50) (ci := 5) (N := 13) (T := TX3) (ty := tyX3) hG hin_X3 rfl tyX3_ok kw_275 kw_277 kw_108 (by decide +kernel) (by decide) rfl defX3 (z59.z (by decide)) ⟨by decide, by decide⟩ dX0_init_50 ?_
  refine V.nn (n2 := 90) rfl ?_
  have z60 := z59.up (m := 90) (by omega)
  refine V.dup (pc := 53) hG dX0_init_53 rfl ?_
  refine V.ccallN (pc := 54) (n2 := 90) hG (ct_X3 l Δ (89) (isA.of (by decide +kernel))  (by decide) z60) mY_X3_init rfl kw_278 kw_279 ⟨by decide, by decide, by decide, by decide⟩ (Nat.le_of_ble_eq_true rfl) dX0_init_54 ?_
  have z61 := zf_X3 89 z60
  have f111 := (congrFun (fr_X3 89 (by decide)) _).trans f108
  have f112 := (congrFun (fr_X3 89 (by decide)) _).trans f109
  have f113 := (congrFun (fr_X3 89 (by decide)) _).trans f110
  refine V.caast 6 5 (pc := 57) (z := 96) (o := 68) (x := 17) (y := 89) hG (isA.of (by decide +kernel)) (by decide) (by decide) rfl (isA.of (by decide +kernel)) (by decide) (by decide) rfl (sR_l rfl) (by decide) (by decide) dX0_init_57 ?_
  have z62 := z61.sRf (o := 68) (kz := 17) (x := 89) (by decide)
  have f114 := (st_ne (o := 68) (k := 17) (v := 89) (by decide)).trans f111
  have f115 := (st_ne (o := 68) (k := 17) (v := 89) (by decide)).trans f112
  have f116 := (st_ne (o := 68) (k := 17) (v := 89) (by decide)).trans f113
  refine V.iinc (pc := 58) (x := 17) (lv' := [(1, .int (sJ 18)), (0, .ref (sA Δ 67))]) hG dX0_init_58 0 rfl (by decide) rfl ?_
  refine V.goto (pc := 61) (tgt := 39) hG dX0_init_61 (by decide) ?_
  refine V.iload_n (pc := 39) (x := 18) hG dX0_init_39 rfl 0 rfl ?_
  refine V.bipush (pc := 40) hG dX0_init_40 (by decide) ?_
  refine V.icmp_ge (pc := 42) (tgt := 64) hG (sR_l rfl) (sR_l rfl) dX0_init_42 (by decide) (fun c1 => absurd c1 (by decide)) (fun _ => ?_)
  refine V.aload_n (pc := 45) hG dX0_init_45 rfl 1 rfl ?_
  refine V.getR (x := 68) (pc := 46) (ci := 2) (k := 0) (M := 5) (T := TX0) (o := 67) (kz := 0) hG (isA.of (by decide +kernel)) (by decide) (by decide) hin_X0 rfl (by decide) (by decide) rfl kw_349 rfl f114 (by decide) dX0_init_46 ?_
  refine V.iload_n (pc := 49) (x := 18) hG dX0_init_49 rfl 0 rfl ?_
  refine V.cnew (pc := 50) (ci := 5) (N := 13) (T := TX3) (ty := tyX3) hG hin_X3 rfl tyX3_ok kw_275 kw_277 kw_108 (by decide +kernel) (by decide) rfl defX3 (z62.z (by decide)) ⟨by decide, by decide⟩ dX0_init_50 ?_
  refine V.nn (n2 := 91) rfl ?_
  have z63 := z62.up (m := 91) (by omega)
  refine V.dup (pc := 53) hG dX0_init_53 rfl ?_
  refine V.ccallN (pc := 54) (n2 := 91) hG (ct_X3 l Δ (90) (isA.of (by decide +kernel))  (by decide) z63) mY_X3_init rfl kw_278 kw_279 ⟨by decide, by decide, by decide, by decide⟩ (Nat.le_of_ble_eq_true rfl) dX0_init_54 ?_
  have z64 := zf_X3 90 z63
  have f117 := (congrFun (fr_X3 90 (by decide)) _).trans f114
  have f118 := (congrFun (fr_X3 90 (by decide)) _).trans f115
  have f119 := (congrFun (fr_X3 90 (by decide)) _).trans f116
  refine V.caast 6 5 (pc := 57) (z := 96) (o := 68) (x := 18) (y := 90) hG (isA.of (by decide +kernel)) (by decide) (by decide) rfl (isA.of (by decide +kernel)) (by decide) (by decide) rfl (sR_l rfl) (by decide) (by decide) dX0_init_57 ?_
  have z65 := z64.sRf (o := 68) (kz := 18) (x := 90) (by decide)
  have f120 := (st_ne (o := 68) (k := 18) (v := 90) (by decide)).trans f117
  have f121 := (st_ne (o := 68) (k := 18) (v := 90) (by decide)).trans f118
  have f122 := (st_ne (o := 68) (k := 18) (v := 90) (by decide)).trans f119
  refine V.iinc (pc := 58) (x := 18) (lv' := [(1, .int (sJ 19)), (0, .ref (sA Δ 67))]) hG dX0_init_58 0 rfl (by decide) rfl ?_
  refine V.goto (pc := 61) (tgt := 39) hG dX0_init_61 (by decide) ?_
  refine V.iload_n (pc := 39) (x := 19) hG dX0_init_39 rfl 0 rfl ?_
  refine V.bipush (pc := 40) hG dX0_init_40 (by decide) ?_
  refine V.icmp_ge (pc := 42) (tgt := 64) hG (sR_l rfl) (sR_l rfl) dX0_init_42 (by decide) (fun c1 => absurd c1 (by decide)) (fun _ => ?_)
  refine V.aload_n (pc := 45) hG dX0_init_45 rfl 1 rfl ?_
  refine V.getR (x := 68) (pc := 46) (ci := 2) (k := 0) (M := 5) (T := TX0) (o := 67) (kz := 0) hG (isA.of (by decide +kernel)) (by decide) (by decide) hin_X0 rfl (by decide) (by decide) rfl kw_349 rfl f120 (by decide) dX0_init_46 ?_
  refine V.iload_n (pc := 49) (x := 19) hG dX0_init_49 rfl 0 rfl ?_
  refine V.cnew (pc := 50) (ci := 5) (N := 13) (T := TX3) (ty := tyX3) hG hin_X3 rfl tyX3_ok kw_275 kw_277 kw_108 (by decide +kernel) (by decide) rfl defX3 (z65.z (by decide)) ⟨by decide, by decide⟩ dX0_init_50 ?_
  refine V.nn (n2 := 92) rfl ?_
  have z66 := z65.up (m := 92) (by omega)
  refine V.dup (pc := 53) hG dX0_init_53 rfl ?_
  refine V.ccallN (pc := 54) (n2 := 92) hG (ct_X3 l Δ (91) (isA.of (by decide +kernel))  (by decide) z66) mY_X3_init rfl kw_278 kw_279 ⟨by decide, by decide, by decide, by decide⟩ (Nat.le_of_ble_eq_true rfl) dX0_init_54 ?_
  have z67 := zf_X3 91 z66
  have f123 := (congrFun (fr_X3 91 (by decide)) _).trans f120
  have f124 := (congrFun (fr_X3 91 (by decide)) _).trans f121
  have f125 := (congrFun (fr_X3 91 (by decide)) _).trans f122
  refine V.caast 6 5 (pc := 57) (z := 96) (o := 68) (x := 19) (y := 91) hG (isA.of (by decide +kernel)) (by decide) (by decide) rfl (isA.of (by decide +kernel)) (by decide) (by decide) rfl (sR_l rfl) (by decide) (by decide) dX0_init_57 ?_
  have z68 := z67.sRf (o := 68) (kz := 19) (x := 91) (by decide)
  have f126 := (st_ne (o := 68) (k := 19) (v := 91) (by decide)).trans f123
  have f127 := (st_ne (o := 68) (k := 19) (v := 91) (by decide)).trans f124
  have f128 := (st_ne (o := 68) (k := 19) (v := 91) (by decide)).trans f125
  refine V.iinc (pc := 58) (x := 19) (lv' := [(1, .int (sJ 20)), (0, .ref (sA Δ 67))]) hG dX0_init_58 0 rfl (by decide) rfl ?_
  refine V.goto (pc := 61) (tgt := 39) hG dX0_init_61 (by decide) ?_
  refine V.iload_n (pc := 39) (x := 20) hG dX0_init_39 rfl 0 rfl ?_
  refine V.bipush (pc := 40) hG dX0_init_40 (by decide) ?_
  refine V.icmp_ge (pc := 42) (tgt := 64) hG (sR_l rfl) (sR_l rfl) dX0_init_42 (by decide) (fun c1 => absurd c1 (by decide)) (fun _ => ?_)
  refine V.aload_n (pc := 45) hG dX0_init_45 rfl 1 rfl ?_
  refine V.getR (x := 68) (pc := 46) (ci := 2) (k := 0) (M := 5) (T := TX0) (o := 67) (kz := 0) hG (isA.of (by decide +kernel)) (by decide) (by decide) hin_X0 rfl (by decide) (by decide) rfl kw_349 rfl f126 (by decide) dX0_init_46 ?_
  refine V.iload_n (pc := 49) (x := 20) hG dX0_init_49 rfl 0 rfl ?_
  refine V.cnew (pc := 50) (ci := 5) (N := 13) (T := TX3) (ty := tyX3) hG hin_X3 rfl tyX3_ok kw_275 kw_277 kw_108 (by decide +kernel) (by decide) rfl defX3 (z68.z (by decide)) ⟨by decide, by decide⟩ dX0_init_50 ?_
  refine V.nn (n2 := 93) rfl ?_
  have z69 := z68.up (m := 93) (by omega)
  refine V.dup (pc := 53) hG dX0_init_53 rfl ?_
  refine V.ccallN (pc := 54) (n2 := 93) hG (ct_X3 l Δ (92) (isA.of (by decide +kernel))  (by decide) z69) mY_X3_init rfl kw_278 kw_279 ⟨by decide, by decide, by decide, by decide⟩ (Nat.le_of_ble_eq_true rfl) dX0_init_54 ?_
  have z70 := zf_X3 92 z69
  have f129 := (congrFun (fr_X3 92 (by decide)) _).trans f126
  have f130 := (congrFun (fr_X3 92 (by decide)) _).trans f127
  have f131 := (congrFun (fr_X3 92 (by decide)) _).trans f128
  refine V.caast 6 5 (pc := 57) (z := 96) (o := 68) (x := 20) (y := 92) hG (isA.of (by decide +kernel)) (by decide) (by decide) rfl (isA.of (by decide +kernel)) (by decide) (by decide) rfl (sR_l rfl) (by decide) (by decide) dX0_init_57 ?_
  have z71 := z70.sRf (o := 68) (kz := 20) (x := 92) (by decide)
  have f132 := (st_ne (o := 68) (k := 20) (v := 92) (by decide)).trans f129
  have f133 := (st_ne (o := 68) (k := 20) (v := 92) (by decide)).trans f130
  have f134 := (st_ne (o := 68) (k := 20) (v := 92) (by decide)).trans f131
  refine V.iinc (pc := 58) (x := 20) (lv' := [(1, .int (sJ 21)), (0, .ref (sA Δ 67))]) hG dX0_init_58 0 rfl (by decide) rfl ?_
  refine V.goto (pc := 61) (tgt := 39) hG dX0_init_61 (by decide) ?_
  refine V.iload_n (pc := 39) (x := 21) hG dX0_init_39 rfl 0 rfl ?_
  refine V.bipush (pc := 40) hG dX0_init_40 (by decide) ?_
  refine V.icmp_ge (pc := 42) (tgt := 64) hG (sR_l rfl) (sR_l rfl) dX0_init_42 (by decide) (fun c1 => absurd c1 (by decide)) (fun _ => ?_)
  refine V.aload_n (pc := 45) hG dX0_init_45 rfl 1 rfl ?_
  refine V.getR (x := 68) (pc := 46) (ci := 2) (k := 0) (M := 5) (T := TX0) (o := 67) (kz := 0) hG (isA.of (by decide +kernel)) (by decide) (by decide) hin_X0 rfl (by decide) (by decide) rfl kw_349 rfl f132 (by decide) dX0_init_46 ?_
  refine V.iload_n (pc := 49) (x := 21) hG dX0_init_49 rfl 0 rfl ?_
  refine V.cnew (pc := 50) (ci := 5) (N := 13) (T := TX3) (ty := tyX3) hG hin_X3 rfl tyX3_ok kw_275 kw_277 kw_108 (by decide +kernel) (by decide) rfl defX3 (z71.z (by decide)) ⟨by decide, by decide⟩ dX0_init_50 ?_
  refine V.nn (n2 := 94) rfl ?_
  have z72 := z71.up (m := 94) (by omega)
  refine V.dup (pc := 53) hG dX0_init_53 rfl ?_
  refine V.ccallN (pc := 54) (n2 := 94) hG (ct_X3 l Δ (93) (isA.of (by decide +kernel))  (by decide) z72) mY_X3_init rfl kw_278 kw_279 ⟨by decide, by decide, by decide, by decide⟩ (Nat.le_of_ble_eq_true rfl) dX0_init_54 ?_
  have z73 := zf_X3 93 z72
  have f135 := (congrFun (fr_X3 93 (by decide)) _).trans f132
  have f136 := (congrFun (fr_X3 93 (by decide)) _).trans f133
  have f137 := (congrFun (fr_X3 93 (by decide)) _).trans f134
  refine V.caast 6 5 (pc := 57) (z := 96) (o := 68) (x := 21) (y := 93) hG (isA.of (by decide +kernel)) (by decide) (by decide) rfl (isA.of (by decide +kernel)) (by decide) (by decide) rfl (sR_l rfl) (by decide) (by decide) dX0_init_57 ?_
  have z74 := z73.sRf (o := 68) (kz := 21) (x := 93) (by decide)
  have f138 := (st_ne (o := 68) (k := 21) (v := 93) (by decide)).trans f135
  have f139 := (st_ne (o := 68) (k := 21) (v := 93) (by decide)).trans f136
  have f140 := (st_ne (o := 68) (k := 21) (v := 93) (by decide)).trans f137
  refine V.iinc (pc := 58) (x := 21) (lv' := [(1, .int (sJ 22)), (0, .ref (sA Δ 67))]) hG dX0_init_58 0 rfl (by decide) rfl ?_
  refine V.goto (pc := 61) (tgt := 39) hG dX0_init_61 (by decide) ?_
  refine V.iload_n (pc := 39) (x := 22) hG dX0_init_39 rfl 0 rfl ?_
  refine V.bipush (pc := 40) hG dX0_init_40 (by decide) ?_
  refine V.icmp_ge (pc := 42) (tgt := 64) hG (sR_l rfl) (sR_l rfl) dX0_init_42 (by decide) (fun c1 => absurd c1 (by decide)) (fun _ => ?_)
  refine V.aload_n (pc := 45) hG dX0_init_45 rfl 1 rfl ?_
  refine V.getR (x := 68) (pc := 46) (ci := 2) (k := 0) (M := 5) (T := TX0) (o := 67) (kz := 0) hG (isA.of (by decide +kernel)) (by decide) (by decide) hin_X0 rfl (by decide) (by decide) rfl kw_349 rfl f138 (by decide) dX0_init_46 ?_
  refine V.iload_n (pc := 49) (x := 22) hG dX0_init_49 rfl 0 rfl ?_
  refine V.cnew (pc := 50) (ci := 5) (N := 13) (T := TX3) (ty := tyX3) hG hin_X3 rfl tyX3_ok kw_275 kw_277 kw_108 (by decide +kernel) (by decide) rfl defX3 (z74.z (by decide)) ⟨by decide, by decide⟩ dX0_init_50 ?_
  refine V.nn (n2 := 95) rfl ?_
  have z75 := z74.up (m := 95) (by omega)
  refine V.dup (pc := 53) hG dX0_init_53 rfl ?_
  refine V.ccallN (pc := 54) (n2 := 95) hG (ct_X3 l Δ (94) (isA.of (by decide +kernel))  (by decide) z75) mY_X3_init rfl kw_278 kw_279 ⟨by decide, by decide, by decide, by decide⟩ (Nat.le_of_ble_eq_true rfl) dX0_init_54 ?_
  have z76 := zf_X3 94 z75
  have f141 := (congrFun (fr_X3 94 (by decide)) _).trans f138
  have f142 := (congrFun (fr_X3 94 (by decide)) _).trans f139
  have f143 := (congrFun (fr_X3 94 (by decide)) _).trans f140
  refine V.caast 6 5 (pc := 57) (z := 96) (o := 68) (x := 22) (y := 94) hG (isA.of (by decide +kernel)) (by decide) (by decide) rfl (isA.of (by decide +kernel)) (by decide) (by decide) rfl (sR_l rfl) (by decide) (by decide) dX0_init_57 ?_
  have z77 := z76.sRf (o := 68) (kz := 22) (x := 94) (by decide)
  have f144 := (st_ne (o := 68) (k := 22) (v := 94) (by decide)).trans f141
  have f145 := (st_ne (o := 68) (k := 22) (v := 94) (by decide)).trans f142
  have f146 := (st_ne (o := 68) (k := 22) (v := 94) (by decide)).trans f143
  refine V.iinc (pc := 58) (x := 22) (lv' := [(1, .int (sJ 23)), (0, .ref (sA Δ 67))]) hG dX0_init_58 0 rfl (by decide) rfl ?_
  refine V.goto (pc := 61) (tgt := 39) hG dX0_init_61 (by decide) ?_
  refine V.iload_n (pc := 39) (x := 23) hG dX0_init_39 rfl 0 rfl ?_
  refine V.bipush (pc := 40) hG dX0_init_40 (by decide) ?_
  refine V.icmp_ge (pc := 42) (tgt := 64) hG (sR_l rfl) (sR_l rfl) dX0_init_42 (by decide) (fun c1 => absurd c1 (by decide)) (fun _ => ?_)
  refine V.aload_n (pc := 45) hG dX0_init_45 rfl 1 rfl ?_
  refine V.getR (x := 68) (pc := 46) (ci := 2) (k := 0) (M := 5) (T := TX0) (o := 67) (kz := 0) hG (isA.of (by decide +kernel)) (by decide) (by decide) hin_X0 rfl (by decide) (by decide) rfl kw_349 rfl f144 (by decide) dX0_init_46 ?_
  refine V.iload_n (pc := 49) (x := 23) hG dX0_init_49 rfl 0 rfl ?_
  refine V.cnew (pc := 50) (ci := 5) (N := 13) (T := TX3) (ty := tyX3) hG hin_X3 rfl tyX3_ok kw_275 kw_277 kw_108 (by decide +kernel) (by decide) rfl defX3 (z77.z (by decide)) ⟨by decide, by decide⟩ dX0_init_50 ?_
  refine V.nn (n2 := 96) rfl ?_
  have z78 := z77.up (m := 96) (by omega)
  refine V.dup (pc := 53) hG dX0_init_53 rfl ?_
  refine V.ccallN (pc := 54) (n2 := 96) hG (ct_X3 l Δ (95) (isA.of (by decide +kernel))  (by decide) z78) mY_X3_init rfl kw_278 kw_279 ⟨by decide, by decide, by decide, by decide⟩ (Nat.le_of_ble_eq_true rfl) dX0_init_54 ?_
  have z79 := zf_X3 95 z78
  have f147 := (congrFun (fr_X3 95 (by decide)) _).trans f144
  have f148 := (congrFun (fr_X3 95 (by decide)) _).trans f145
  have f149 := (congrFun (fr_X3 95 (by decide)) _).trans f146
  refine V.caast 6 5 (pc := 57) (z := 96) (o := 68) (x := 23) (y := 95) hG (isA.of (by decide +kernel)) (by decide) (by decide) rfl (isA.of (by decide +kernel)) (by decide) (by decide) rfl (sR_l rfl) (by decide) (by decide) dX0_init_57 ?_
  have z80 := z79.sRf (o := 68) (kz := 23) (x := 95) (by decide)
  have f150 := (st_ne (o := 68) (k := 23) (v := 95) (by decide)).trans f147
  have f151 := (st_ne (o := 68) (k := 23) (v := 95) (by decide)).trans f148
  have f152 := (st_ne (o := 68) (k := 23) (v := 95) (by decide)).trans f149
  refine V.iinc (pc := 58) (x := 23) (lv' := [(1, .int (sJ 24)), (0, .ref (sA Δ 67))]) hG dX0_init_58 0 rfl (by decide) rfl ?_
  refine V.goto (pc := 61) (tgt := 39) hG dX0_init_61 (by decide) ?_
  refine V.iload_n (pc := 39) (x := 24) hG dX0_init_39 rfl 0 rfl ?_
  refine V.bipush (pc := 40) hG dX0_init_40 (by decide) ?_
  refine V.icmp_ge (pc := 42) (tgt := 64) hG (sR_l rfl) (sR_l rfl) dX0_init_42 (by decide) (fun c1 => absurd c1 (by decide)) (fun _ => ?_)
  refine V.aload_n (pc := 45) hG dX0_init_45 rfl 1 rfl ?_
  refine V.getR (x := 68) (pc := 46) (ci := 2) (k := 0) (M := 5) (T := TX0) (o := 67) (kz := 0) hG (isA.of (by decide +kernel)) (by decide) (by decide) hin_X0 rfl (by decide) (by decide) rfl kw_349 rfl f150 (by decide) dX0_init_46 ?_
  refine V.iload_n (pc := 49) (x := 24) hG dX0_init_49 rfl 0 rfl ?_
  refine V.cnew (pc := 50) (ci := 5) (N := 13) (T := TX3) (ty := tyX3) hG hin_X3 rfl tyX3_ok kw_275 kw_277 kw_108 (by decide +kernel) (by decide) rfl defX3 (z80.z (by decide)) ⟨by decide, by decide⟩ dX0_init_50 ?_
  refine V.nn (n2 := 97) rfl ?_
  have z81 := z80.up (m := 97) (by omega)
  refine V.dup (pc := 53) hG dX0_init_53 rfl ?_
  refine V.ccallN (pc := 54) (n2 := 97) hG (ct_X3 l Δ (96) (isA.of (by decide +kernel))  (by decide) z81) mY_X3_init rfl kw_278 kw_279 ⟨by decide, by decide, by decide, by decide⟩ (Nat.le_of_ble_eq_true rfl) dX0_init_54 ?_
  have z82 := zf_X3 96 z81
  have f153 := (congrFun (fr_X3 96 (by decide)) _).trans f150
  have f154 := (congrFun (fr_X3 96 (by decide)) _).trans f151
  have f155 := (congrFun (fr_X3 96 (by decide)) _).trans f152
  refine V.caast 6 5 (pc := 57) (z := 96) (o := 68) (x := 24) (y := 96) hG (isA.of (by decide +kernel)) (by decide) (by decide) rfl (isA.of (by decide +kernel)) (by decide) (by decide) rfl (sR_l rfl) (by decide) (by decide) dX0_init_57 ?_
  have z83 := z82.sRf (o := 68) (kz := 24) (x := 96) (by decide)
  have f156 := (st_ne (o := 68) (k := 24) (v := 96) (by decide)).trans f153
  have f157 := (st_ne (o := 68) (k := 24) (v := 96) (by decide)).trans f154
  have f158 := (st_ne (o := 68) (k := 24) (v := 96) (by decide)).trans f155
  refine V.iinc (pc := 58) (x := 24) (lv' := [(1, .int (sJ 25)), (0, .ref (sA Δ 67))]) hG dX0_init_58 0 rfl (by decide) rfl ?_
  refine V.goto (pc := 61) (tgt := 39) hG dX0_init_61 (by decide) ?_
  refine V.iload_n (pc := 39) (x := 25) hG dX0_init_39 rfl 0 rfl ?_
  refine V.bipush (pc := 40) hG dX0_init_40 (by decide) ?_
  refine V.icmp_ge (pc := 42) (tgt := 64) hG (sR_l rfl) (sR_l rfl) dX0_init_42 (by decide) (fun c1 => absurd c1 (by decide)) (fun _ => ?_)
  refine V.aload_n (pc := 45) hG dX0_init_45 rfl 1 rfl ?_
  refine V.getR (x := 68) (pc := 46) (ci := 2) (k := 0) (M := 5) (T := TX0) (o := 67) (kz := 0) hG (isA.of (by decide +kernel)) (by decide) (by decide) hin_X0 rfl (by decide) (by decide) rfl kw_349 rfl f156 (by decide) dX0_init_46 ?_
  refine V.iload_n (pc := 49) (x := 25) hG dX0_init_49 rfl 0 rfl ?_
  refine V.cnew (pc := 50) (ci := 5) (N := 13) (T := TX3) (ty := tyX3) hG hin_X3 rfl tyX3_ok kw_275 kw_277 kw_108 (by decide +kernel) (by decide) rfl defX3 (z83.z (by decide)) ⟨by decide, by decide⟩ dX0_init_50 ?_
  refine V.nn (n2 := 98) rfl ?_
  have z84 := z83.up (m := 98) (by omega)
  refine V.dup (pc := 53) hG dX0_init_53 rfl ?_
  refine V.ccallN (pc := 54) (n2 := 98) hG (ct_X3 l Δ (97) (isA.of (by decide +kernel))  (by decide) z84) mY_X3_init rfl kw_278 kw_279 ⟨by decide, by decide, by decide, by decide⟩ (Nat.le_of_ble_eq_true rfl) dX0_init_54 ?_
  have z85 := zf_X3 97 z84
  have f159 := (congrFun (fr_X3 97 (by decide)) _).trans f156
  have f160 := (congrFun (fr_X3 97 (by decide)) _).trans f157
  have f161 := (congrFun (fr_X3 97 (by decide)) _).trans f158
  refine V.caast 6 5 (pc := 57) (z := 96) (o := 68) (x := 25) (y := 97) hG (isA.of (by decide +kernel)) (by decide) (by decide) rfl (isA.of (by decide +kernel)) (by decide) (by decide) rfl (sR_l rfl) (by decide) (by decide) dX0_init_57 ?_
  have z86 := z85.sRf (o := 68) (kz := 25) (x := 97) (by decide)
  have f162 := (st_ne (o := 68) (k := 25) (v := 97) (by decide)).trans f159
  have f163 := (st_ne (o := 68) (k := 25) (v := 97) (by decide)).trans f160
  have f164 := (st_ne (o := 68) (k := 25) (v := 97) (by decide)).trans f161
  refine V.iinc (pc := 58) (x := 25) (lv' := [(1, .int (sJ 26)), (0, .ref (sA Δ 67))]) hG dX0_init_58 0 rfl (by decide) rfl ?_
  refine V.goto (pc := 61) (tgt := 39) hG dX0_init_61 (by decide) ?_
  refine V.iload_n (pc := 39) (x := 26) hG dX0_init_39 rfl 0 rfl ?_
  refine V.bipush (pc := 40) hG dX0_init_40 (by decide) ?_
  refine V.icmp_ge (pc := 42) (tgt := 64) hG (sR_l rfl) (sR_l rfl) dX0_init_42 (by decide) (fun c1 => absurd c1 (by decide)) (fun _ => ?_)
  refine V.aload_n (pc := 45) hG dX0_init_45 rfl 1 rfl ?_
  refine V.getR (x := 68) (pc := 46) (ci := 2) (k := 0) (M := 5) (T := TX0) (o := 67) (kz := 0) hG (isA.of (by decide +kernel)) (by decide) (by decide) hin_X0 rfl (by decide) (by decide) rfl kw_349 rfl f162 (by decide) dX0_init_46 ?_
  refine V.iload_n (pc := 49) (x := 26) hG dX0_init_49 rfl 0 rfl ?_
  refine V.cnew (pc := 50) (ci := 5) (N := 13) (T := TX3) (ty := tyX3) hG hin_X3 rfl tyX3_ok kw_275 kw_277 kw_108 (by decide +kernel) (by decide) rfl defX3 (z86.z (by decide)) ⟨by decide, by decide⟩ dX0_init_50 ?_
  refine V.nn (n2 := 99) rfl ?_
  have z87 := z86.up (m := 99) (by omega)
  refine V.dup (pc := 53) hG dX0_init_53 rfl ?_
  refine V.ccallN (pc := 54) (n2 := 99) hG (ct_X3 l Δ (98) (isA.of (by decide +kernel))  (by decide) z87) mY_X3_init rfl kw_278 kw_279 ⟨by decide, by decide, by decide, by decide⟩ (Nat.le_of_ble_eq_true rfl) dX0_init_54 ?_
  have z88 := zf_X3 98 z87
  have f165 := (congrFun (fr_X3 98 (by decide)) _).trans f162
  have f166 := (congrFun (fr_X3 98 (by decide)) _).trans f163
  have f167 := (congrFun (fr_X3 98 (by decide)) _).trans f164
  refine V.caast 6 5 (pc := 57) (z := 96) (o := 68) (x := 26) (y := 98) hG (isA.of (by decide +kernel)) (by decide) (by decide) rfl (isA.of (by decide +kernel)) (by decide) (by decide) rfl (sR_l rfl) (by decide) (by decide) dX0_init_57 ?_
  have z89 := z88.sRf (o := 68) (kz := 26) (x := 98) (by decide)
  have f168 := (st_ne (o := 68) (k := 26) (v := 98) (by decide)).trans f165
  have f169 := (st_ne (o := 68) (k := 26) (v := 98) (by decide)).trans f166
  have f170 := (st_ne (o := 68) (k := 26) (v := 98) (by decide)).trans f167
  refine V.iinc (pc := 58) (x := 26) (lv' := [(1, .int (sJ 27)), (0, .ref (sA Δ 67))]) hG dX0_init_58 0 rfl (by decide) rfl ?_
  refine V.goto (pc := 61) (tgt := 39) hG dX0_init_61 (by decide) ?_
  refine V.iload_n (pc := 39) (x := 27) hG dX0_init_39 rfl 0 rfl ?_
  refine V.bipush (pc := 40) hG dX0_init_40 (by decide) ?_
  refine V.icmp_ge (pc := 42) (tgt := 64) hG (sR_l rfl) (sR_l rfl) dX0_init_42 (by decide) (fun c1 => absurd c1 (by decide)) (fun _ => ?_)
  refine V.aload_n (pc := 45) hG dX0_init_45 rfl 1 rfl ?_
  refine V.getR (x := 68) (pc := 46) (ci := 2) (k := 0) (M := 5) (T := TX0) (o := 67) (kz := 0) hG (isA.of (by decide +kernel)) (by decide) (by decide) hin_X0 rfl (by decide) (by decide) rfl kw_349 rfl f168 (by decide) dX0_init_46 ?_
  refine V.iload_n (pc := 49) (x := 27) hG dX0_init_49 rfl 0 rfl ?_
  refine V.cnew (pc := 50) (ci := 5) (N := 13) (T := TX3) (ty := tyX3) hG hin_X3 rfl tyX3_ok kw_275 kw_277 kw_108 (by decide +kernel) (by decide) rfl defX3 (z89.z (by decide)) ⟨by decide, by decide⟩ dX0_init_50 ?_
  refine V.nn (n2 := 100) rfl ?_
  have z90 := z89.up (m := 100) (by omega)
  refine V.dup (pc := 53) hG dX0_init_53 rfl ?_
  refine V.ccallN (pc := 54) (n2 := 100) hG (ct_X3 l Δ (99) (isA.of (by decide +kernel))  (by decide) z90) mY_X3_init rfl kw_278 kw_279 ⟨by decide, by decide, by decide, by decide⟩ (Nat.le_of_ble_eq_true rfl) dX0_init_54 ?_
  have z91 := zf_X3 99 z90
  have f171 := (congrFun (fr_X3 99 (by decide)) _).trans f168
  have f172 := (congrFun (fr_X3 99 (by decide)) _).trans f169
  have f173 := (congrFun (fr_X3 99 (by decide)) _).trans f170
  refine V.caast 6 5 (pc := 57) (z := 96) (o := 68) (x := 27) (y := 99) hG (isA.of (by decide +kernel)) (by decide) (by decide) rfl (isA.of (by decide +kernel)) (by decide) (by decide) rfl (sR_l rfl) (by decide) (by decide) dX0_init_57 ?_
  have z92 := z91.sRf (o := 68) (kz := 27) (x := 99) (by decide)
  have f174 := (st_ne (o := 68) (k := 27) (v := 99) (by decide)).trans f171
  have f175 := (st_ne (o := 68) (k := 27) (v := 99) (by decide)).trans f172
  have f176 := (st_ne (o := 68) (k := 27) (v := 99) (by decide)).trans f173
  refine V.iinc (pc := 58) (x := 27) (lv' := [(1, .int (sJ 28)), (0, .ref (sA Δ 67))]) hG dX0_init_58 0 rfl (by decide) rfl ?_
  refine V.goto (pc := 61) (tgt := 39) hG dX0_init_61 (by decide) ?_
  refine V.iload_n (pc := 39) (x := 28) hG dX0_init_39 rfl 0 rfl ?_
  refine V.bipush (pc := 40) hG dX0_init_40 (by decide) ?_
  refine V.icmp_ge (pc := 42) (tgt := 64) hG (sR_l rfl) (sR_l rfl) dX0_init_42 (by decide) (fun c1 => absurd c1 (by decide)) (fun _ => ?_)
  refine V.aload_n (pc := 45) hG dX0_init_45 rfl 1 rfl ?_
  refine V.getR (x := 68) (pc := 46) (ci := 2) (k := 0) (M := 5) (T := TX0) (o := 67) (kz := 0) hG (isA.of (by decide +kernel)) (by decide) (by decide) hin_X0 rfl (by decide) (by decide) rfl kw_349 rfl f174 (by decide) dX0_init_46 ?_
  refine V.iload_n (pc := 49) (x := 28) hG dX0_init_49 rfl 0 rfl ?_
  refine V.cnew (pc := 50) (ci := 5) (N := 13) (T := TX3) (ty := tyX3) hG hin_X3 rfl tyX3_ok kw_275 kw_277 kw_108 (by decide +kernel) (by decide) rfl defX3 (z92.z (by decide)) ⟨by decide, by decide⟩ dX0_init_50 ?_
  refine V.nn (n2 := 101) rfl ?_
  have z93 := z92.up (m := 101) (by omega)
  refine V.dup (pc := 53) hG dX0_init_53 rfl ?_
  refine V.ccallN (pc := 54) (n2 := 101) hG (ct_X3 l Δ (100) (isA.of (by decide +kernel))  (by decide) z93) mY_X3_init rfl kw_278 kw_279 ⟨by decide, by decide, by decide, by decide⟩ (Nat.le_of_ble_eq_true rfl) dX0_init_54 ?_
  have z94 := zf_X3 100 z93
  have f177 := (congrFun (fr_X3 100 (by decide)) _).trans f174
  have f178 := (congrFun (fr_X3 100 (by decide)) _).trans f175
  have f179 := (congrFun (fr_X3 100 (by decide)) _).trans f176
  refine V.caast 6 5 (pc := 57) (z := 96) (o := 68) (x := 28) (y := 100) hG (isA.of (by decide +kernel)) (by decide) (by decide) rfl (isA.of (by decide +kernel)) (by decide) (by decide) rfl (sR_l rfl) (by decide) (by decide) dX0_init_57 ?_
  have z95 := z94.sRf (o := 68) (kz := 28) (x := 100) (by decide)
  have f180 := (st_ne (o := 68) (k := 28) (v := 100) (by decide)).trans f177
  have f181 := (st_ne (o := 68) (k := 28) (v := 100) (by decide)).trans f178
  have f182 := (st_ne (o := 68) (k := 28) (v := 100) (by decide)).trans f179
  refine V.iinc (pc := 58) (x := 28) (lv' := [(1, .int (sJ 29)), (0, .ref (sA Δ 67))]) hG dX0_init_58 0 rfl (by decide) rfl ?_
  refine V.goto (pc := 61) (tgt := 39) hG dX0_init_61 (by decide) ?_
  refine V.iload_n (pc := 39) (x := 29) hG dX0_init_39 rfl 0 rfl ?_
  refine V.bipush (pc := 40) hG dX0_init_40 (by decide) ?_
  refine V.icmp_ge (pc := 42) (tgt := 64) hG (sR_l rfl) (sR_l rfl) dX0_init_42 (by decide) (fun c1 => absurd c1 (by decide)) (fun _ => ?_)
  refine V.aload_n (pc := 45) hG dX0_init_45 rfl 1 rfl ?_
  refine V.getR (x := 68) (pc := 46) (ci := 2) (k := 0) (M := 5) (T := TX0) (o := 67) (kz := 0) hG (isA.of (by decide +kernel)) (by decide) (by decide) hin_X0 rfl (by decide) (by decide) rfl kw_349 rfl f180 (by decide) dX0_init_46 ?_
  refine V.iload_n (pc := 49) (x := 29) hG dX0_init_49 rfl 0 rfl ?_
  refine V.cnew (pc := 50) (ci := 5) (N := 13) (T := TX3) (ty := tyX3) hG hin_X3 rfl tyX3_ok kw_275 kw_277 kw_108 (by decide +kernel) (by decide) rfl defX3 (z95.z (by decide)) ⟨by decide, by decide⟩ dX0_init_50 ?_
  refine V.nn (n2 := 102) rfl ?_
  have z96 := z95.up (m := 102) (by omega)
  refine V.dup (pc := 53) hG dX0_init_53 rfl ?_
  refine V.ccallN (pc := 54) (n2 := 102) hG (ct_X3 l Δ (101) (isA.of (by decide +kernel))  (by decide) z96) mY_X3_init rfl kw_278 kw_279 ⟨by decide, by decide, by decide, by decide⟩ (Nat.le_of_ble_eq_true rfl) dX0_init_54 ?_
  have z97 := zf_X3 101 z96
  have f183 := (congrFun (fr_X3 101 (by decide)) _).trans f180
  have f184 := (congrFun (fr_X3 101 (by decide)) _).trans f181
  have f185 := (congrFun (fr_X3 101 (by decide)) _).trans f182
  refine V.caast 6 5 (pc := 57) (z := 96) (o := 68) (x := 29) (y := 101) hG (isA.of (by decide +kernel)) (by decide) (by decide) rfl (isA.of (by decide +kernel)) (by decide) (by decide) rfl (sR_l rfl) (by decide) (by decide) dX0_init_57 ?_
  have z98 := z97.sRf (o := 68) (kz := 29) (x := 101) (by decide)
  have f186 := (st_ne (o := 68) (k := 29) (v := 101) (by decide)).trans f183
  have f187 := (st_ne (o := 68) (k := 29) (v := 101) (by decide)).trans f184
  have f188 := (st_ne (o := 68) (k := 29) (v := 101) (by decide)).trans f185
  refine V.iinc (pc := 58) (x := 29) (lv' := [(1, .int (sJ 30)), (0, .ref (sA Δ 67))]) hG dX0_init_58 0 rfl (by decide) rfl ?_
  refine V.goto (pc := 61) (tgt := 39) hG dX0_init_61 (by decide) ?_
  refine V.iload_n (pc := 39) (x := 30) hG dX0_init_39 rfl 0 rfl ?_
  refine V.bipush (pc := 40) hG dX0_init_40 (by decide) ?_
  refine V.icmp_ge (pc := 42) (tgt := 64) hG (sR_l rfl) (sR_l rfl) dX0_init_42 (by decide) (fun c1 => absurd c1 (by decide)) (fun _ => ?_)
  refine V.aload_n (pc := 45) hG dX0_init_45 rfl 1 rfl ?_
  refine V.getR (x := 68) (pc := 46) (ci := 2) (k := 0) (M := 5) (T := TX0) (o := 67) (kz := 0) hG (isA.of (by decide +kernel)) (by decide) (by decide) hin_X0 rfl (by decide) (by decide) rfl kw_349 rfl f186 (by decide) dX0_init_46 ?_
  refine V.iload_n (pc := 49) (x := 30) hG dX0_init_49 rfl 0 rfl ?_
  refine V.cnew (pc := 50) (ci := 5) (N := 13) (T := TX3) (ty := tyX3) hG hin_X3 rfl tyX3_ok kw_275 kw_277 kw_108 (by decide +kernel) (by decide) rfl defX3 (z98.z (by decide)) ⟨by decide, by decide⟩ dX0_init_50 ?_
  refine V.nn (n2 := 103) rfl ?_
  have z99 := z98.up (m := 103) (by omega)
  refine V.dup (pc := 53) hG dX0_init_53 rfl ?_
  refine V.ccallN (pc := 54) (n2 := 103) hG (ct_X3 l Δ (102) (isA.of (by decide +kernel))  (by decide) z99) mY_X3_init rfl kw_278 kw_279 ⟨by decide, by decide, by decide, by decide⟩ (Nat.le_of_ble_eq_true rfl) dX0_init_54 ?_
  have z100 := zf_X3 102 z99
  have f189 := (congrFun (fr_X3 102 (by decide)) _).trans f186
  have f190 := (congrFun (fr_X3 102 (by decide)) _).trans f187
  have f191 := (congrFun (fr_X3 102 (by decide)) _).trans f188
  refine V.caast 6 5 (pc := 57) (z := 96) (o := 68) (x := 30) (y := 102) hG (isA.of (by decide +kernel)) (by decide) (by decide) rfl (isA.of (by decide +kernel)) (by decide) (by decide) rfl (sR_l rfl) (by decide) (by decide) dX0_init_57 ?_
  have z101 := z100.sRf (o := 68) (kz := 30) (x := 102) (by decide)
  have f192 := (st_ne (o := 68) (k := 30) (v := 102) (by decide)).trans f189
  have f193 := (st_ne (o := 68) (k := 30) (v := 102) (by decide)).trans f190
  have f194 := (st_ne (o := 68) (k := 30) (v := 102) (by decide)).trans f191
  refine V.iinc (pc := 58) (x := 30) (lv' := [(1, .int (sJ 31)), (0, .ref (sA Δ 67))]) hG dX0_init_58 0 rfl (by decide) rfl ?_
  refine V.goto (pc := 61) (tgt := 39) hG dX0_init_61 (by decide) ?_
  refine V.iload_n (pc := 39) (x := 31) hG dX0_init_39 rfl 0 rfl ?_
  refine V.bipush (pc := 40) hG dX0_init_40 (by decide) ?_
  refine V.icmp_ge (pc := 42) (tgt := 64) hG (sR_l rfl) (sR_l rfl) dX0_init_42 (by decide) (fun c1 => absurd c1 (by decide)) (fun _ => ?_)
  refine V.aload_n (pc := 45) hG dX0_init_45 rfl 1 rfl ?_
  refine V.getR (x := 68) (pc := 46) (ci := 2) (k := 0) (M := 5) (T := TX0) (o := 67) (kz := 0) hG (isA.of (by decide +kernel)) (by decide) (by decide) hin_X0 rfl (by decide) (by decide) rfl kw_349 rfl f192 (by decide) dX0_init_46 ?_
  refine V.iload_n (pc := 49) (x := 31) hG dX0_init_49 rfl 0 rfl ?_
  refine V.cnew (pc := 50) (ci := 5) (N := 13) (T := TX3) (ty := tyX3) hG hin_X3 rfl tyX3_ok kw_275 kw_277 kw_108 (by decide +kernel) (by decide) rfl defX3 (z101.z (by decide)) ⟨by decide, by decide⟩ dX0_init_50 ?_
  refine V.nn (n2 := 104) rfl ?_
  have z102 := z101.up (m := 104) (by omega)
  refine V.dup (pc := 53) hG dX0_init_53 rfl ?_
  refine V.ccallN (pc := 54) (n2 := 104) hG (ct_X3 l Δ (103) (isA.of (by decide +kernel))  (by decide) z102) mY_X3_init rfl kw_278 kw_279 ⟨by decide, by decide, by decide, by decide⟩ (Nat.le_of_ble_eq_true rfl) dX0_init_54 ?_
  have z103 := zf_X3 103 z102
  have f195 := (congrFun (fr_X3 103 (by decide)) _).trans f192
  have f196 := (congrFun (fr_X3 103 (by decide)) _).trans f193
  have f197 := (congrFun (fr_X3 103 (by decide)) _).trans f194
  refine V.caast 6 5 (pc := 57) (z := 96) (o := 68) (x := 31) (y := 103) hG (isA.of (by decide +kernel)) (by decide) (by decide) rfl (isA.of (by decide +kernel)) (by decide) (by decide) rfl (sR_l rfl) (by decide) (by decide) dX0_init_57 ?_
  have z104 := z103.sRf (o := 68) (kz := 31) (x := 103) (by decide)
  have f198 := (st_ne (o := 68) (k := 31) (v := 103) (by decide)).trans f195
  have f199 := (st_ne (o := 68) (k := 31) (v := 103) (by decide)).trans f196
  have f200 := (st_ne (o := 68) (k := 31) (v := 103) (by decide)).trans f197
  refine V.iinc (pc := 58) (x := 31) (lv' := [(1, .int (sJ 32)), (0, .ref (sA Δ 67))]) hG dX0_init_58 0 rfl (by decide) rfl ?_
  refine V.goto (pc := 61) (tgt := 39) hG dX0_init_61 (by decide) ?_
  refine V.iload_n (pc := 39) (x := 32) hG dX0_init_39 rfl 0 rfl ?_
  refine V.bipush (pc := 40) hG dX0_init_40 (by decide) ?_
  refine V.icmp_ge (pc := 42) (tgt := 64) hG (sR_l rfl) (sR_l rfl) dX0_init_42 (by decide) (fun c1 => absurd c1 (by decide)) (fun _ => ?_)
  refine V.aload_n (pc := 45) hG dX0_init_45 rfl 1 rfl ?_
  refine V.getR (x := 68) (pc := 46) (ci := 2) (k := 0) (M := 5) (T := TX0) (o := 67) (kz := 0) hG (isA.of (by decide +kernel)) (by decide) (by decide) hin_X0 rfl (by decide) (by decide) rfl kw_349 rfl f198 (by decide) dX0_init_46 ?_
  refine V.iload_n (pc := 49) (x := 32) hG dX0_init_49 rfl 0 rfl ?_
  refine V.cnew (pc := 50) (ci := 5) (N := 13) (T := TX3) (ty := tyX3) hG hin_X3 rfl tyX3_ok kw_275 kw_277 kw_108 (by decide +kernel) (by decide) rfl defX3 (z104.z (by decide)) ⟨by decide, by decide⟩ dX0_init_50 ?_
  refine V.nn (n2 := 105) rfl ?_
  have z105 := z104.up (m := 105) (by omega)
  refine V.dup (pc := 53) hG dX0_init_53 rfl ?_
  refine V.ccallN (pc := 54) (n2 := 105) hG (ct_X3 l Δ (104) (isA.of (by decide +kernel))  (by decide) z105) mY_X3_init rfl kw_278 kw_279 ⟨by decide, by decide, by decide, by decide⟩ (Nat.le_of_ble_eq_true rfl) dX0_init_54 ?_
  have z106 := zf_X3 104 z105
  have f201 := (congrFun (fr_X3 104 (by decide)) _).trans f198
  have f202 := (congrFun (fr_X3 104 (by decide)) _).trans f199
  have f203 := (congrFun (fr_X3 104 (by decide)) _).trans f200
  refine V.caast 6 5 (pc := 57) (z := 96) (o := 68) (x := 32) (y := 104) hG (isA.of (by decide +kernel)) (by decide) (by decide) rfl (isA.of (by decide +kernel)) (by decide) (by decide) rfl (sR_l rfl) (by decide) (by decide) dX0_init_57 ?_
  have z107 := z106.sRf (o := 68) (kz := 32) (x := 104) (by decide)
  have f204 := (st_ne (o := 68) (k := 32) (v := 104) (by decide)).trans f201
  have f205 := (st_ne (o := 68) (k := 32) (v := 104) (by decide)).trans f202
  have f206 := (st_ne (o := 68) (k := 32) (v := 104) (by decide)).trans f203
  refine V.iinc (pc := 58) (x := 32) (lv' := [(1, .int (sJ 33)), (0, .ref (sA Δ 67))]) hG dX0_init_58 0 rfl (by decide) rfl ?_
  refine V.goto (pc := 61) (tgt := 39) hG dX0_init_61 (by decide) ?_
  refine V.iload_n (pc := 39) (x := 33) hG dX0_init_39 rfl 0 rfl ?_
  refine V.bipush (pc := 40) hG dX0_init_40 (by decide) ?_
  refine V.icmp_ge (pc := 42) (tgt := 64) hG (sR_l rfl) (sR_l rfl) dX0_init_42 (by decide) (fun c1 => absurd c1 (by decide)) (fun _ => ?_)
  refine V.aload_n (pc := 45) hG dX0_init_45 rfl 1 rfl ?_
  refine V.getR (x := 68) (pc := 46) (ci := 2) (k := 0) (M := 5) (T := TX0) (o := 67) (kz := 0) hG (isA.of (by decide +kernel)) (by decide) (by decide) hin_X0 rfl (by decide) (by decide) rfl kw_349 rfl f204 (by decide) dX0_init_46 ?_
  refine V.iload_n (pc := 49) (x := 33) hG dX0_init_49 rfl 0 rfl ?_
  refine V.cnew (pc := 50) (ci := 5) (N := 13) (T := TX3) (ty := tyX3) hG hin_X3 rfl tyX3_ok kw_275 kw_277 kw_108 (by decide +kernel) (by decide) rfl defX3 (z107.z (by decide)) ⟨by decide, by decide⟩ dX0_init_50 ?_
  refine V.nn (n2 := 106) rfl ?_
  have z108 := z107.up (m := 106) (by omega)
  refine V.dup (pc := 53) hG dX0_init_53 rfl ?_
  refine V.ccallN (pc := 54) (n2 := 106) hG (ct_X3 l Δ (105) (isA.of (by decide +kernel))  (by decide) z108) mY_X3_init rfl kw_278 kw_279 ⟨by decide, by decide, by decide, by decide⟩ (Nat.le_of_ble_eq_true rfl) dX0_init_54 ?_
  have z109 := zf_X3 105 z108
  have f207 := (congrFun (fr_X3 105 (by decide)) _).trans f204
  have f208 := (congrFun (fr_X3 105 (by decide)) _).trans f205
  have f209 := (congrFun (fr_X3 105 (by decide)) _).trans f206
  refine V.caast 6 5 (pc := 57) (z := 96) (o := 68) (x := 33) (y := 105) hG (isA.of (by decide +kernel)) (by decide) (by decide) rfl (isA.of (by decide +kernel)) (by decide) (by decide) rfl (sR_l rfl) (by decide) (by decide) dX0_init_57 ?_
  have z110 := z109.sRf (o := 68) (kz := 33) (x := 105) (by decide)
  have f210 := (st_ne (o := 68) (k := 33) (v := 105) (by decide)).trans f207
  have f211 := (st_ne (o := 68) (k := 33) (v := 105) (by decide)).trans f208
  have f212 := (st_ne (o := 68) (k := 33) (v := 105) (by decide)).trans f209
  refine V.iinc (pc := 58) (x := 33) (lv' := [(1, .int (sJ 34)), (0, .ref (sA Δ 67))]) hG dX0_init_58 0 rfl (by decide) rfl ?_
  refine V.goto (pc := 61) (tgt := 39) hG dX0_init_61 (by decide) ?_
  refine V.iload_n (pc := 39) (x := 34) hG dX0_init_39 rfl 0 rfl ?_
  refine V.bipush (pc := 40) hG dX0_init_40 (by decide) ?_
  refine V.icmp_ge (pc := 42) (tgt := 64) hG (sR_l rfl) (sR_l rfl) dX0_init_42 (by decide) (fun c1 => absurd c1 (by decide)) (fun _ => ?_)
  refine V.aload_n (pc := 45) hG dX0_init_45 rfl 1 rfl ?_
  refine V.getR (x := 68) (pc := 46) (ci := 2) (k := 0) (M := 5) (T := TX0) (o := 67) (kz := 0) hG (isA.of (by decide +kernel)) (by decide) (by decide) hin_X0 rfl (by decide) (by decide) rfl kw_349 rfl f210 (by decide) dX0_init_46 ?_
  refine V.iload_n (pc := 49) (x := 34) hG dX0_init_49 rfl 0 rfl ?_
  refine V.cnew (pc := 50) (ci := 5) (N := 13) (T := TX3) (ty := tyX3) hG hin_X3 rfl tyX3_ok kw_275 kw_277 kw_108 (by decide +kernel) (by decide) rfl defX3 (z110.z (by decide)) ⟨by decide, by decide⟩ dX0_init_50 ?_
  refine V.nn (n2 := 107) rfl ?_
  have z111 := z110.up (m := 107) (by omega)
  refine V.dup (pc := 53) hG dX0_init_53 rfl ?_
  refine V.ccallN (pc := 54) (n2 := 107) hG (ct_X3 l Δ (106) (isA.of (by decide +kernel))  (by decide) z111) mY_X3_init rfl kw_278 kw_279 ⟨by decide, by decide, by decide, by decide⟩ (Nat.le_of_ble_eq_true rfl) dX0_init_54 ?_
  have z112 := zf_X3 106 z111
  have f213 := (congrFun (fr_X3 106 (by decide)) _).trans f210
  have f214 := (congrFun (fr_X3 106 (by decide)) _).trans f211
  have f215 := (congrFun (fr_X3 106 (by decide)) _).trans f212
  refine V.caast 6 5 (pc := 57) (z := 96) (o := 68) (x := 34) (y := 106) hG (isA.of (by decide +kernel)) (by decide) (by decide) rfl (isA.of (by decide +kernel)) (by decide) (by decide) rfl (sR_l rfl) (by decide) (by decide) dX0_init_57 ?_
  have z113 := z112.sRf (o := 68) (kz := 34) (x := 106) (by decide)
  have f216 := (st_ne (o := 68) (k := 34) (v := 106) (by decide)).trans f213
  have f217 := (st_ne (o := 68) (k := 34) (v := 106) (by decide)).trans f214
  have f218 := (st_ne (o := 68) (k := 34) (v := 106) (by decide)).trans f215
  refine V.iinc (pc := 58) (x := 34) (lv' := [(1, .int (sJ 35)), (0, .ref (sA Δ 67))]) hG dX0_init_58 0 rfl (by decide) rfl ?_
  refine V.goto (pc := 61) (tgt := 39) hG dX0_init_61 (by decide) ?_
  refine V.iload_n (pc := 39) (x := 35) hG dX0_init_39 rfl 0 rfl ?_
  refine V.bipush (pc := 40) hG dX0_init_40 (by decide) ?_
  refine V.icmp_ge (pc := 42) (tgt := 64) hG (sR_l rfl) (sR_l rfl) dX0_init_42 (by decide) (fun c1 => absurd c1 (by decide)) (fun _ => ?_)
  refine V.aload_n (pc := 45) hG dX0_init_45 rfl 1 rfl ?_
  refine V.getR (x := 68) (pc := 46) (ci := 2) (k := 0) (M := 5) (T := TX0) (o := 67) (kz := 0) hG (isA.of (by decide +kernel)) (by decide) (by decide) hin_X0 rfl (by decide) (by decide) rfl kw_349 rfl f216 (by decide) dX0_init_46 ?_
  refine V.iload_n (pc := 49) (x := 35) hG dX0_init_49 rfl 0 rfl ?_
  refine V.cnew (pc := 50) (ci := 5) (N := 13) (T := TX3) (ty := tyX3) hG hin_X3 rfl tyX3_ok kw_275 kw_277 kw_108 (by decide +kernel) (by decide) rfl defX3 (z113.z (by decide)) ⟨by decide, by decide⟩ dX0_init_50 ?_
  refine V.nn (n2 := 108) rfl ?_
  have z114 := z113.up (m := 108) (by omega)
  refine V.dup (pc := 53) hG dX0_init_53 rfl ?_
  refine V.ccallN (pc := 54) (n2 := 108) hG (ct_X3 l Δ (107) (isA.of (by decide +kernel))  (by decide) z114) mY_X3_init rfl kw_278 kw_279 ⟨by decide, by decide, by decide, by decide⟩ (Nat.le_of_ble_eq_true rfl) dX0_init_54 ?_
  have z115 := zf_X3 107 z114
  have f219 := (congrFun (fr_X3 107 (by decide)) _).trans f216
  have f220 := (congrFun (fr_X3 107 (by decide)) _).trans f217
  have f221 := (congrFun (fr_X3 107 (by decide)) _).trans f218
  refine V.caast 6 5 (pc := 57) (z := 96) (o := 68) (x := 35) (y := 107) hG (isA.of (by decide +kernel)) (by decide) (by decide) rfl (isA.of (by decide +kernel)) (by decide) (by decide) rfl (sR_l rfl) (by decide) (by decide) dX0_init_57 ?_
  have z116 := z115.sRf (o := 68) (kz := 35) (x := 107) (by decide)
  have f222 := (st_ne (o := 68) (k := 35) (v := 107) (by decide)).trans f219
  have f223 := (st_ne (o := 68) (k := 35) (v := 107) (by decide)).trans f220
  have f224 := (st_ne (o := 68) (k := 35) (v := 107) (by decide)).trans f221
  refine V.iinc (pc := 58) (x := 35) (lv' := [(1, .int (sJ 36)), (0, .ref (sA Δ 67))]) hG dX0_init_58 0 rfl (by decide) rfl ?_
  refine V.goto (pc := 61) (tgt := 39) hG dX0_init_61 (by decide) ?_
  refine V.iload_n (pc := 39) (x := 36) hG dX0_init_39 rfl 0 rfl ?_
  refine V.bipush (pc := 40) hG dX0_init_40 (by decide) ?_
  refine V.icmp_ge (pc := 42) (tgt := 64) hG (sR_l rfl) (sR_l rfl) dX0_init_42 (by decide) (fun c1 => absurd c1 (by decide)) (fun _ => ?_)
  refine V.aload_n (pc := 45) hG dX0_init_45 rfl 1 rfl ?_
  refine V.getR (x := 68) (pc := 46) (ci := 2) (k := 0) (M := 5) (T := TX0) (o := 67) (kz := 0) hG (isA.of (by decide +kernel)) (by decide) (by decide) hin_X0 rfl (by decide) (by decide) rfl kw_349 rfl f222 (by decide) dX0_init_46 ?_
  refine V.iload_n (pc := 49) (x := 36) hG dX0_init_49 rfl 0 rfl ?_
  refine V.cnew (pc := 50) (ci := 5) (N := 13) (T := TX3) (ty := tyX3) hG hin_X3 rfl tyX3_ok kw_275 kw_277 kw_108 (by decide +kernel) (by decide) rfl defX3 (z116.z (by decide)) ⟨by decide, by decide⟩ dX0_init_50 ?_
  refine V.nn (n2 := 109) rfl ?_
  have z117 := z116.up (m := 109) (by omega)
  refine V.dup (pc := 53) hG dX0_init_53 rfl ?_
  refine V.ccallN (pc := 54) (n2 := 109) hG (ct_X3 l Δ (108) (isA.of (by decide +kernel))  (by decide) z117) mY_X3_init rfl kw_278 kw_279 ⟨by decide, by decide, by decide, by decide⟩ (Nat.le_of_ble_eq_true rfl) dX0_init_54 ?_
  have z118 := zf_X3 108 z117
  have f225 := (congrFun (fr_X3 108 (by decide)) _).trans f222
  have f226 := (congrFun (fr_X3 108 (by decide)) _).trans f223
  have f227 := (congrFun (fr_X3 108 (by decide)) _).trans f224
  refine V.caast 6 5 (pc := 57) (z := 96) (o := 68) (x := 36) (y := 108) hG (isA.of (by decide +kernel)) (by decide) (by decide) rfl (isA.of (by decide +kernel)) (by decide) (by decide) rfl (sR_l rfl) (by decide) (by decide) dX0_init_57 ?_
  have z119 := z118.sRf (o := 68) (kz := 36) (x := 108) (by decide)
  have f228 := (st_ne (o := 68) (k := 36) (v := 108) (by decide)).trans f225
  have f229 := (st_ne (o := 68) (k := 36) (v := 108) (by decide)).trans f226
  have f230 := (st_ne (o := 68) (k := 36) (v := 108) (by decide)).trans f227
  refine V.iinc (pc := 58) (x := 36) (lv' := [(1, .int (sJ 37)), (0, .ref (sA Δ 67))]) hG dX0_init_58 0 rfl (by decide) rfl ?_
  refine V.goto (pc := 61) (tgt := 39) hG dX0_init_61 (by decide) ?_
  refine V.iload_n (pc := 39) (x := 37) hG dX0_init_39 rfl 0 rfl ?_
  refine V.bipush (pc := 40) hG dX0_init_40 (by decide) ?_
  refine V.icmp_ge (pc := 42) (tgt := 64) hG (sR_l rfl) (sR_l rfl) dX0_init_42 (by decide) (fun c1 => absurd c1 (by decide)) (fun _ => ?_)
  refine V.aload_n (pc := 45) hG dX0_init_45 rfl 1 rfl ?_
  refine V.getR (x := 68) (pc := 46) (ci := 2) (k := 0) (M := 5) (T := TX0) (o := 67) (kz := 0) hG (isA.of (by decide +kernel)) (by decide) (by decide) hin_X0 rfl (by decide) (by decide) rfl kw_349 rfl f228 (by decide) dX0_init_46 ?_
  refine V.iload_n (pc := 49) (x := 37) hG dX0_init_49 rfl 0 rfl ?_
  refine V.cnew (pc := 50) (ci := 5) (N := 13) (T := TX3) (ty := tyX3) hG hin_X3 rfl tyX3_ok kw_275 kw_277 kw_108 (by decide +kernel) (by decide) rfl defX3 (z119.z (by decide)) ⟨by decide, by decide⟩ dX0_init_50 ?_
  refine V.nn (n2 := 110) rfl ?_
  have z120 := z119.up (m := 110) (by omega)
  refine V.dup (pc := 53) hG dX0_init_53 rfl ?_
  refine V.ccallN (pc := 54) (n2 := 110) hG (ct_X3 l Δ (109) (isA.of (by decide +kernel))  (by decide) z120) mY_X3_init rfl kw_278 kw_279 ⟨by decide, by decide, by decide, by decide⟩ (Nat.le_of_ble_eq_true rfl) dX0_init_54 ?_
  have z121 := zf_X3 109 z120
  have f231 := (congrFun (fr_X3 109 (by decide)) _).trans f228
  have f232 := (congrFun (fr_X3 109 (by decide)) _).trans f229
  have f233 := (congrFun (fr_X3 109 (by decide)) _).trans f230
  refine V.caast 6 5 (pc := 57) (z := 96) (o := 68) (x := 37) (y := 109) hG (isA.of (by decide +kernel)) (by decide) (by decide) rfl (isA.of (by decide +kernel)) (by decide) (by decide) rfl (sR_l rfl) (by decide) (by decide) dX0_init_57 ?_
  have z122 := z121.sRf (o := 68) (kz := 37) (x := 109) (by decide)
  have f234 := (st_ne (o := 68) (k := 37) (v := 109) (by decide)).trans f231
  have f235 := (st_ne (o := 68) (k := 37) (v := 109) (by decide)).trans f232
  have f236 := (st_ne (o := 68) (k := 37) (v := 109) (by decide)).trans f233
  refine V.iinc (pc := 58) (x := 37) (lv' := [(1, .int (sJ 38)), (0, .ref (sA Δ 67))]) hG dX0_init_58 0 rfl (by decide) rfl ?_
  refine V.goto (pc := 61) (tgt := 39) hG dX0_init_61 (by decide) ?_
  refine V.iload_n (pc := 39) (x := 38) hG dX0_init_39 rfl 0 rfl ?_
  refine V.bipush (pc := 40) hG dX0_init_40 (by decide) ?_
  refine V.icmp_ge (pc := 42) (tgt := 64) hG (sR_l rfl) (sR_l rfl) dX0_init_42 (by decide) (fun c1 => absurd c1 (by decide)) (fun _ => ?_)
  refine V.aload_n (pc := 45) hG dX0_init_45 rfl 1 rfl ?_
  refine V.getR (x := 68) (pc := 46) (ci := 2) (k := 0) (M := 5) (T := TX0) (o := 67) (kz := 0) hG (isA.of (by decide +kernel)) (by decide) (by decide) hin_X0 rfl (by decide) (by decide) rfl kw_349 rfl f234 (by decide) dX0_init_46 ?_
  refine V.iload_n (pc := 49) (x := 38) hG dX0_init_49 rfl 0 rfl ?_
  refine V.cnew (pc := 50) (ci := 5) (N := 13) (T := TX3) (ty := tyX3) hG hin_X3 rfl tyX3_ok kw_275 kw_277 kw_108 (by decide +kernel) (by decide) rfl defX3 (z122.z (by decide)) ⟨by decide, by decide⟩ dX0_init_50 ?_
  refine V.nn (n2 := 111) rfl ?_
  have z123 := z122.up (m := 111) (by omega)
  refine V.dup (pc := 53) hG dX0_init_53 rfl ?_
  refine V.ccallN (pc := 54) (n2 := 111) hG (ct_X3 l Δ (110) (isA.of (by decide +kernel))  (by decide) z123) mY_X3_init rfl kw_278 kw_279 ⟨by decide, by decide, by decide, by decide⟩ (Nat.le_of_ble_eq_true rfl) dX0_init_54 ?_
  have z124 := zf_X3 110 z123
  have f237 := (congrFun (fr_X3 110 (by decide)) _).trans f234
  have f238 := (congrFun (fr_X3 110 (by decide)) _).trans f235
  have f239 := (congrFun (fr_X3 110 (by decide)) _).trans f236
  refine V.caast 6 5 (pc := 57) (z := 96) (o := 68) (x := 38) (y := 110) hG (isA.of (by decide +kernel)) (by decide) (by decide) rfl (isA.of (by decide +kernel)) (by decide) (by decide) rfl (sR_l rfl) (by decide) (by decide) dX0_init_57 ?_
  have z125 := z124.sRf (o := 68) (kz := 38) (x := 110) (by decide)
  have f240 := (st_ne (o := 68) (k := 38) (v := 110) (by decide)).trans f237
  have f241 := (st_ne (o := 68) (k := 38) (v := 110) (by decide)).trans f238
  have f242 := (st_ne (o := 68) (k := 38) (v := 110) (by decide)).trans f239
  refine V.iinc (pc := 58) (x := 38) (lv' := [(1, .int (sJ 39)), (0, .ref (sA Δ 67))]) hG dX0_init_58 0 rfl (by decide) rfl ?_
  refine V.goto (pc := 61) (tgt := 39) hG dX0_init_61 (by decide) ?_
  refine V.iload_n (pc := 39) (x := 39) hG dX0_init_39 rfl 0 rfl ?_
  refine V.bipush (pc := 40) hG dX0_init_40 (by decide) ?_
  refine V.icmp_ge (pc := 42) (tgt := 64) hG (sR_l rfl) (sR_l rfl) dX0_init_42 (by decide) (fun c1 => absurd c1 (by decide)) (fun _ => ?_)
  refine V.aload_n (pc := 45) hG dX0_init_45 rfl 1 rfl ?_
  refine V.getR (x := 68) (pc := 46) (ci := 2) (k := 0) (M := 5) (T := TX0) (o := 67) (kz := 0) hG (isA.of (by decide +kernel)) (by decide) (by decide) hin_X0 rfl (by decide) (by decide) rfl kw_349 rfl f240 (by decide) dX0_init_46 ?_
  refine V.iload_n (pc := 49) (x := 39) hG dX0_init_49 rfl 0 rfl ?_
  refine V.cnew (pc := 50) (ci := 5) (N := 13) (T := TX3) (ty := tyX3) hG hin_X3 rfl tyX3_ok kw_275 kw_277 kw_108 (by decide +kernel) (by decide) rfl defX3 (z125.z (by decide)) ⟨by decide, by decide⟩ dX0_init_50 ?_
  refine V.nn (n2 := 112) rfl ?_
  have z126 := z125.up (m := 112) (by omega)
  refine V.dup (pc := 53) hG dX0_init_53 rfl ?_
  refine V.ccallN (pc := 54) (n2 := 112) hG (ct_X3 l Δ (111) (isA.of (by decide +kernel))  (by decide) z126) mY_X3_init rfl kw_278 kw_279 ⟨by decide, by decide, by decide, by decide⟩ (Nat.le_of_ble_eq_true rfl) dX0_init_54 ?_
  have z127 := zf_X3 111 z126
  have f243 := (congrFun (fr_X3 111 (by decide)) _).trans f240
  have f244 := (congrFun (fr_X3 111 (by decide)) _).trans f241
  have f245 := (congrFun (fr_X3 111 (by decide)) _).trans f242
  refine V.caast 6 5 (pc := 57) (z := 96) (o := 68) (x := 39) (y := 111) hG (isA.of (by decide +kernel)) (by decide) (by decide) rfl (isA.of (by decide +kernel)) (by decide) (by decide) rfl (sR_l rfl) (by decide) (by decide) dX0_init_57 ?_
  have z128 := z127.sRf (o := 68) (kz := 39) (x := 111) (by decide)
  have f246 := (st_ne (o := 68) (k := 39) (v := 111) (by decide)).trans f243
  have f247 := (st_ne (o := 68) (k := 39) (v := 111) (by decide)).trans f244
  have f248 := (st_ne (o := 68) (k := 39) (v := 111) (by decide)).trans f245
  refine V.iinc (pc := 58) (x := 39) (lv' := [(1, .int (sJ 40)), (0, .ref (sA Δ 67))]) hG dX0_init_58 0 rfl (by decide) rfl ?_
  refine V.goto (pc := 61) (tgt := 39) hG dX0_init_61 (by decide) ?_
  refine V.iload_n (pc := 39) (x := 40) hG dX0_init_39 rfl 0 rfl ?_
  refine V.bipush (pc := 40) hG dX0_init_40 (by decide) ?_
  refine V.icmp_ge (pc := 42) (tgt := 64) hG (sR_l rfl) (sR_l rfl) dX0_init_42 (by decide) (fun c1 => absurd c1 (by decide)) (fun _ => ?_)
  refine V.aload_n (pc := 45) hG dX0_init_45 rfl 1 rfl ?_
  refine V.getR (x := 68) (pc := 46) (ci := 2) (k := 0) (M := 5) (T := TX0) (o := 67) (kz := 0) hG (isA.of (by decide +kernel)) (by decide) (by decide) hin_X0 rfl (by decide) (by decide) rfl kw_349 rfl f246 (by decide) dX0_init_46 ?_
  refine V.iload_n (pc := 49) (x := 40) hG dX0_init_49 rfl 0 rfl ?_
  refine V.cnew (pc := 50) (ci := 5) (N := 13) (T := TX3) (ty := tyX3) hG hin_X3 rfl tyX3_ok kw_275 kw_277 kw_108 (by decide +kernel) (by decide) rfl defX3 (z128.z (by decide)) ⟨by decide, by decide⟩ dX0_init_50 ?_
  refine V.nn (n2 := 113) rfl ?_
  have z129 := z128.up (m := 113) (by omega)
  refine V.dup (pc := 53) hG dX0_init_53 rfl ?_
  refine V.ccallN (pc := 54) (n2 := 113) hG (ct_X3 l Δ (112) (isA.of (by decide +kernel))  (by decide) z129) mY_X3_init rfl kw_278 kw_279 ⟨by decide, by decide, by decide, by decide⟩ (Nat.le_of_ble_eq_true rfl) dX0_init_54 ?_
  have z130 := zf_X3 112 z129
  have f249 := (congrFun (fr_X3 112 (by decide)) _).trans f246
  have f250 := (congrFun (fr_X3 112 (by decide)) _).trans f247
  have f251 := (congrFun (fr_X3 112 (by decide)) _).trans f248
  refine V.caast 6 5 (pc := 57) (z := 96) (o := 68) (x := 40) (y := 112) hG (isA.of (by decide +kernel)) (by decide) (by decide) rfl (isA.of (by decide +kernel)) (by decide) (by decide) rfl (sR_l rfl) (by decide) (by decide) dX0_init_57 ?_
  have z131 := z130.sRf (o := 68) (kz := 40) (x := 112) (by decide)
  have f252 := (st_ne (o := 68) (k := 40) (v := 112) (by decide)).trans f249
  have f253 := (st_ne (o := 68) (k := 40) (v := 112) (by decide)).trans f250
  have f254 := (st_ne (o := 68) (k := 40) (v := 112) (by decide)).trans f251
  refine V.iinc (pc := 58) (x := 40) (lv' := [(1, .int (sJ 41)), (0, .ref (sA Δ 67))]) hG dX0_init_58 0 rfl (by decide) rfl ?_
  refine V.goto (pc := 61) (tgt := 39) hG dX0_init_61 (by decide) ?_
  refine V.iload_n (pc := 39) (x := 41) hG dX0_init_39 rfl 0 rfl ?_
  refine V.bipush (pc := 40) hG dX0_init_40 (by decide) ?_
  refine V.icmp_ge (pc := 42) (tgt := 64) hG (sR_l rfl) (sR_l rfl) dX0_init_42 (by decide) (fun c1 => absurd c1 (by decide)) (fun _ => ?_)
  refine V.aload_n (pc := 45) hG dX0_init_45 rfl 1 rfl ?_
  refine V.getR (x := 68) (pc := 46) (ci := 2) (k := 0) (M := 5) (T := TX0) (o := 67) (kz := 0) hG (isA.of (by decide +kernel)) (by decide) (by decide) hin_X0 rfl (by decide) (by decide) rfl kw_349 rfl f252 (by decide) dX0_init_46 ?_
  refine V.iload_n (pc := 49) (x := 41) hG dX0_init_49 rfl 0 rfl ?_
  refine V.cnew (pc := 50) (ci := 5) (N := 13) (T := TX3) (ty := tyX3) hG hin_X3 rfl tyX3_ok kw_275 kw_277 kw_108 (by decide +kernel) (by decide) rfl defX3 (z131.z (by decide)) ⟨by decide, by decide⟩ dX0_init_50 ?_
  refine V.nn (n2 := 114) rfl ?_
  have z132 := z131.up (m := 114) (by omega)
  refine V.dup (pc := 53) hG dX0_init_53 rfl ?_
  refine V.ccallN (pc := 54) (n2 := 114) hG (ct_X3 l Δ (113) (isA.of (by decide +kernel))  (by decide) z132) mY_X3_init rfl kw_278 kw_279 ⟨by decide, by decide, by decide, by decide⟩ (Nat.le_of_ble_eq_true rfl) dX0_init_54 ?_
  have z133 := zf_X3 113 z132
  have f255 := (congrFun (fr_X3 113 (by decide)) _).trans f252
  have f256 := (congrFun (fr_X3 113 (by decide)) _).trans f253
  have f257 := (congrFun (fr_X3 113 (by decide)) _).trans f254
  refine V.caast 6 5 (pc := 57) (z := 96) (o := 68) (x := 41) (y := 113) hG (isA.of (by decide +kernel)) (by decide) (by decide) rfl (isA.of (by decide +kernel)) (by decide) (by decide) rfl (sR_l rfl) (by decide) (by decide) dX0_init_57 ?_
  have z134 := z133.sRf (o := 68) (kz := 41) (x := 113) (by decide)
  have f258 := (st_ne (o := 68) (k := 41) (v := 113) (by decide)).trans f255
  have f259 := (st_ne (o := 68) (k := 41) (v := 113) (by decide)).trans f256
  have f260 := (st_ne (o := 68) (k := 41) (v := 113) (by decide)).trans f257
  refine V.iinc (pc := 58) (x := 41) (lv' := [(1, .int (sJ 42)), (0, .ref (sA Δ 67))]) hG dX0_init_58 0 rfl (by decide) rfl ?_
  refine V.goto (pc := 61) (tgt := 39) hG dX0_init_61 (by decide) ?_
  refine V.iload_n (pc := 39) (x := 42) hG dX0_init_39 rfl 0 rfl ?_
  refine V.bipush (pc := 40) hG dX0_init_40 (by decide) ?_
  refine V.icmp_ge (pc := 42) (tgt := 64) hG (sR_l rfl) (sR_l rfl) dX0_init_42 (by decide) (fun c1 => absurd c1 (by decide)) (fun _ => ?_)
  refine V.aload_n (pc := 45) hG dX0_init_45 rfl 1 rfl ?_
  refine V.getR (x := 68) (pc := 46) (ci := 2) (k := 0) (M := 5) (T := TX0) (o := 67) (kz := 0) hG (isA.of (by decide +kernel)) (by decide) (by decide) hin_X0 rfl (by decide) (by decide) rfl kw_349 rfl f258 (by decide) dX0_init_46 ?_
  refine V.iload_n (pc := 49) (x := 42) hG dX0_init_49 rfl 0 rfl ?_
  refine V.cnew (pc := 50) (ci := 5) (N := 13) (T := TX3) (ty := tyX3) hG hin_X3 rfl tyX3_ok kw_275 kw_277 kw_108 (by decide +kernel) (by decide) rfl defX3 (z134.z (by decide)) ⟨by decide, by decide⟩ dX0_init_50 ?_
  refine V.nn (n2 := 115) rfl ?_
  have z135 := z134.up (m := 115) (by omega)
  refine V.dup (pc := 53) hG dX0_init_53 rfl ?_
  refine V.ccallN (pc := 54) (n2 := 115) hG (ct_X3 l Δ (114) (isA.of (by decide +kernel))  (by decide) z135) mY_X3_init rfl kw_278 kw_279 ⟨by decide, by decide, by decide, by decide⟩ (Nat.le_of_ble_eq_true rfl) dX0_init_54 ?_
  have z136 := zf_X3 114 z135
  have f261 := (congrFun (fr_X3 114 (by decide)) _).trans f258
  have f262 := (congrFun (fr_X3 114 (by decide)) _).trans f259
  have f263 := (congrFun (fr_X3 114 (by decide)) _).trans f260
  refine V.caast 6 5 (pc := 57) (z := 96) (o := 68) (x := 42) (y := 114) hG (isA.of (by decide +kernel)) (by decide) (by decide) rfl (isA.of (by decide +kernel)) (by decide) (by decide) rfl (sR_l rfl) (by decide) (by decide) dX0_init_57 ?_
  have z137 := z136.sRf (o := 68) (kz := 42) (x := 114) (by decide)
  have f264 := (st_ne (o := 68) (k := 42) (v := 114) (by decide)).trans f261
  have f265 := (st_ne (o := 68) (k := 42) (v := 114) (by decide)).trans f262
  have f266 := (st_ne (o := 68) (k := 42) (v := 114) (by decide)).trans f263
  refine V.iinc (pc := 58) (x := 42) (lv' := [(1, .int (sJ 43)), (0, .ref (sA Δ 67))]) hG dX0_init_58 0 rfl (by decide) rfl ?_
  refine V.goto (pc := 61) (tgt := 39) hG dX0_init_61 (by decide) ?_
  refine V.iload_n (pc := 39) (x := 43) hG dX0_init_39 rfl 0 rfl ?_
  refine V.bipush (pc := 40) hG dX0_init_40 (by decide) ?_
  refine V.icmp_ge (pc := 42) (tgt := 64) hG (sR_l rfl) (sR_l rfl) dX0_init_42 (by decide) (fun c1 => absurd c1 (by decide)) (fun _ => ?_)
  refine V.aload_n (pc := 45) hG dX0_init_45 rfl 1 rfl ?_
  refine V.getR (x := 68) (pc := 46) (ci := 2) (k := 0) (M := 5) (T := TX0) (o := 67) (kz := 0) hG (isA.of (by decide +kernel)) (by decide) (by decide) hin_X0 rfl (by decide) (by decide) rfl kw_349 rfl f264 (by decide) dX0_init_46 ?_
  refine V.iload_n (pc := 49) (x := 43) hG dX0_init_49 rfl 0 rfl ?_
  refine V.cnew (pc := 50) (ci := 5) (N := 13) (T := TX3) (ty := tyX3) hG hin_X3 rfl tyX3_ok kw_275 kw_277 kw_108 (by decide +kernel) (by decide) rfl defX3 (z137.z (by decide)) ⟨by decide, by decide⟩ dX0_init_50 ?_
  refine V.nn (n2 := 116) rfl ?_
  have z138 := z137.up (m := 116) (by omega)
  refine V.dup (pc := 53) hG dX0_init_53 rfl ?_
  refine V.ccallN (pc := 54) (n2 := 116) hG (ct_X3 l Δ (115) (isA.of (by decide +kernel))  (by decide) z138) mY_X3_init rfl kw_278 kw_279 ⟨by decide, by decide, by decide, by decide⟩ (Nat.le_of_ble_eq_true rfl) dX0_init_54 ?_
  have z139 := zf_X3 115 z138
  have f267 := (congrFun (fr_X3 115 (by decide)) _).trans f264
  have f268 := (congrFun (fr_X3 115 (by decide)) _).trans f265
  have f269 := (congrFun (fr_X3 115 (by decide)) _).trans f266
  refine V.caast 6 5 (pc := 57) (z := 96) (o := 68) (x := 43) (y := 115) hG (isA.of (by decide +kernel)) (by decide) (by decide) rfl (isA.of (by decide +kernel)) (by decide) (by decide) rfl (sR_l rfl) (by decide) (by decide) dX0_init_57 ?_
  have z140 := z139.sRf (o := 68) (kz := 43) (x := 115) (by decide)
  have f270 := (st_ne (o := 68) (k := 43) (v := 115) (by decide)).trans f267
  have f271 := (st_ne (o := 68) (k := 43) (v := 115) (by decide)).trans f268
  have f272 := (st_ne (o := 68) (k := 43) (v := 115) (by decide)).trans f269
  refine V.iinc (pc := 58) (x := 43) (lv' := [(1, .int (sJ 44)), (0, .ref (sA Δ 67))]) hG dX0_init_58 0 rfl (by decide) rfl ?_
  refine V.goto (pc := 61) (tgt := 39) hG dX0_init_61 (by decide) ?_
  refine V.iload_n (pc := 39) (x := 44) hG dX0_init_39 rfl 0 rfl ?_
  refine V.bipush (pc := 40) hG dX0_init_40 (by decide) ?_
  refine V.icmp_ge (pc := 42) (tgt := 64) hG (sR_l rfl) (sR_l rfl) dX0_init_42 (by decide) (fun c1 => absurd c1 (by decide)) (fun _ => ?_)
  refine V.aload_n (pc := 45) hG dX0_init_45 rfl 1 rfl ?_
  refine V.getR (x := 68) (pc := 46) (ci := 2) (k := 0) (M := 5) (T := TX0) (o := 67) (kz := 0) hG (isA.of (by decide +kernel)) (by decide) (by decide) hin_X0 rfl (by decide) (by decide) rfl kw_349 rfl f270 (by decide) dX0_init_46 ?_
  refine V.iload_n (pc := 49) (x := 44) hG dX0_init_49 rfl 0 rfl ?_
  refine V.cnew (pc := 50) (ci := 5) (N := 13) (T := TX3) (ty := tyX3) hG hin_X3 rfl tyX3_ok kw_275 kw_277 kw_108 (by decide +kernel) (by decide) rfl defX3 (z140.z (by decide)) ⟨by decide, by decide⟩ dX0_init_50 ?_
  refine V.nn (n2 := 117) rfl ?_
  have z141 := z140.up (m := 117) (by omega)
  refine V.dup (pc := 53) hG dX0_init_53 rfl ?_
  refine V.ccallN (pc := 54) (n2 := 117) hG (ct_X3 l Δ (116) (isA.of (by decide +kernel))  (by decide) z141) mY_X3_init rfl kw_278 kw_279 ⟨by decide, by decide, by decide, by decide⟩ (Nat.le_of_ble_eq_true rfl) dX0_init_54 ?_
  have z142 := zf_X3 116 z141
  have f273 := (congrFun (fr_X3 116 (by decide)) _).trans f270
  have f274 := (congrFun (fr_X3 116 (by decide)) _).trans f271
  have f275 := (congrFun (fr_X3 116 (by decide)) _).trans f272
  refine V.caast 6 5 (pc := 57) (z := 96) (o := 68) (x := 44) (y := 116) hG (isA.of (by decide +kernel)) (by decide) (by decide) rfl (isA.of (by decide +kernel)) (by decide) (by decide) rfl (sR_l rfl) (by decide) (by decide) dX0_init_57 ?_
  have z143 := z142.sRf (o := 68) (kz := 44) (x := 116) (by decide)
  have f276 := (st_ne (o := 68) (k := 44) (v := 116) (by decide)).trans f273
  have f277 := (st_ne (o := 68) (k := 44) (v := 116) (by decide)).trans f274
  have f278 := (st_ne (o := 68) (k := 44) (v := 116) (by decide)).trans f275
  refine V.iinc (pc := 58) (x := 44) (lv' := [(1, .int (sJ 45)), (0, .ref (sA Δ 67))]) hG dX0_init_58 0 rfl (by decide) rfl ?_
  refine V.goto (pc := 61) (tgt := 39) hG dX0_init_61 (by decide) ?_
  refine V.iload_n (pc := 39) (x := 45) hG dX0_init_39 rfl 0 rfl ?_
  refine V.bipush (pc := 40) hG dX0_init_40 (by decide) ?_
  refine V.icmp_ge (pc := 42) (tgt := 64) hG (sR_l rfl) (sR_l rfl) dX0_init_42 (by decide) (fun c1 => absurd c1 (by decide)) (fun _ => ?_)
  refine V.aload_n (pc := 45) hG dX0_init_45 rfl 1 rfl ?_
  refine V.getR (x := 68) (pc := 46) (ci := 2) (k := 0) (M := 5) (T := TX0) (o := 67) (kz := 0) hG (isA.of (by decide +kernel)) (by decide) (by decide) hin_X0 rfl (by decide) (by decide) rfl kw_349 rfl f276 (by decide) dX0_init_46 ?_
  refine V.iload_n (pc := 49) (x := 45) hG dX0_init_49 rfl 0 rfl ?_
  refine V.cnew (pc := 50) (ci := 5) (N := 13) (T := TX3) (ty := tyX3) hG hin_X3 rfl tyX3_ok kw_275 kw_277 kw_108 (by decide +kernel) (by decide) rfl defX3 (z143.z (by decide)) ⟨by decide, by decide⟩ dX0_init_50 ?_
  refine V.nn (n2 := 118) rfl ?_
  have z144 := z143.up (m := 118) (by omega)
  refine V.dup (pc := 53) hG dX0_init_53 rfl ?_
  refine V.ccallN (pc := 54) (n2 := 118) hG (ct_X3 l Δ (117) (isA.of (by decide +kernel))  (by decide) z144) mY_X3_init rfl kw_278 kw_279 ⟨by decide, by decide, by decide, by decide⟩ (Nat.le_of_ble_eq_true rfl) dX0_init_54 ?_
  have z145 := zf_X3 117 z144
  have f279 := (congrFun (fr_X3 117 (by decide)) _).trans f276
  have f280 := (congrFun (fr_X3 117 (by decide)) _).trans f277
  have f281 := (congrFun (fr_X3 117 (by decide)) _).trans f278
  refine V.caast 6 5 (pc := 57) (z := 96) (o := 68) (x := 45) (y := 117) hG (isA.of (by decide +kernel)) (by decide) (by decide) rfl (isA.of (by decide +kernel)) (by decide) (by decide) rfl (sR_l rfl) (by decide) (by decide) dX0_init_57 ?_
  have z146 := z145.sRf (o := 68) (kz := 45) (x := 117) (by decide)
  have f282 := (st_ne (o := 68) (k := 45) (v := 117) (by decide)).trans f279
  have f283 := (st_ne (o := 68) (k := 45) (v := 117) (by decide)).trans f280
  have f284 := (st_ne (o := 68) (k := 45) (v := 117) (by decide)).trans f281
  refine V.iinc (pc := 58) (x := 45) (lv' := [(1, .int (sJ 46)), (0, .ref (sA Δ 67))]) hG dX0_init_58 0 rfl (by decide) rfl ?_
  refine V.goto (pc := 61) (tgt := 39) hG dX0_init_61 (by decide) ?_
  refine V.iload_n (pc := 39) (x := 46) hG dX0_init_39 rfl 0 rfl ?_
  refine V.bipush (pc := 40) hG dX0_init_40 (by decide) ?_
  refine V.icmp_ge (pc := 42) (tgt := 64) hG (sR_l rfl) (sR_l rfl) dX0_init_42 (by decide) (fun c1 => absurd c1 (by decide)) (fun _ => ?_)
  refine V.aload_n (pc := 45) hG dX0_init_45 rfl 1 rfl ?_
  refine V.getR (x := 68) (pc := 46) (ci := 2) (k := 0) (M := 5) (T := TX0) (o := 67) (kz := 0) hG (isA.of (by decide +kernel)) (by decide) (by decide) hin_X0 rfl (by decide) (by decide) rfl kw_349 rfl f282 (by decide) dX0_init_46 ?_
  refine V.iload_n (pc := 49) (x := 46) hG dX0_init_49 rfl 0 rfl ?_
  refine V.cnew (pc := 50) (ci := 5) (N := 13) (T := TX3) (ty := tyX3) hG hin_X3 rfl tyX3_ok kw_275 kw_277 kw_108 (by decide +kernel) (by decide) rfl defX3 (z146.z (by decide)) ⟨by decide, by decide⟩ dX0_init_50 ?_
  refine V.nn (n2 := 119) rfl ?_
  have z147 := z146.up (m := 119) (by omega)
  refine V.dup (pc := 53) hG dX0_init_53 rfl ?_
  refine V.ccallN (pc := 54) (n2 := 119) hG (ct_X3 l Δ (118) (isA.of (by decide +kernel))  (by decide) z147) mY_X3_init rfl kw_278 kw_279 ⟨by decide, by decide, by decide, by decide⟩ (Nat.le_of_ble_eq_true rfl) dX0_init_54 ?_
  have z148 := zf_X3 118 z147
  have f285 := (congrFun (fr_X3 118 (by decide)) _).trans f282
  have f286 := (congrFun (fr_X3 118 (by decide)) _).trans f283
  have f287 := (congrFun (fr_X3 118 (by decide)) _).trans f284
  refine V.caast 6 5 (pc := 57) (z := 96) (o := 68) (x := 46) (y := 118) hG (isA.of (by decide +kernel)) (by decide) (by decide) rfl (isA.of (by decide +kernel)) (by decide) (by decide) rfl (sR_l rfl) (by decide) (by decide) dX0_init_57 ?_
  have z149 := z148.sRf (o := 68) (kz := 46) (x := 118) (by decide)
  have f288 := (st_ne (o := 68) (k := 46) (v := 118) (by decide)).trans f285
  have f289 := (st_ne (o := 68) (k := 46) (v := 118) (by decide)).trans f286
  have f290 := (st_ne (o := 68) (k := 46) (v := 118) (by decide)).trans f287
  refine V.iinc (pc := 58) (x := 46) (lv' := [(1, .int (sJ 47)), (0, .ref (sA Δ 67))]) hG dX0_init_58 0 rfl (by decide) rfl ?_
  refine V.goto (pc := 61) (tgt := 39) hG dX0_init_61 (by decide) ?_
  refine V.iload_n (pc := 39) (x := 47) hG dX0_init_39 rfl 0 rfl ?_
  refine V.bipush (pc := 40) hG dX0_init_40 (by decide) ?_
  refine V.icmp_ge (pc := 42) (tgt := 64) hG (sR_l rfl) (sR_l rfl) dX0_init_42 (by decide) (fun c1 => absurd c1 (by decide)) (fun _ => ?_)
  refine V.aload_n (pc := 45) hG dX0_init_45 rfl 1 rfl ?_
  refine V.getR (x := 68) (pc := 46) (ci := 2) (k := 0) (M := 5) (T := TX0) (o := 67) (kz := 0) hG (isA.of (by decide +kernel)) (by decide) (by decide) hin_X0 rfl (by decide) (by decide) rfl kw_349 rfl f288 (by decide) dX0_init_46 ?_
  refine V.iload_n (pc := 49) (x := 47) hG dX0_init_49 rfl 0 rfl ?_
  refine V.cnew (pc := 50) (ci := 5) (N := 13) (T := TX3) (ty := tyX3) hG hin_X3 rfl tyX3_ok kw_275 kw_277 kw_108 (by decide +kernel) (by decide) rfl defX3 (z149.z (by decide)) ⟨by decide, by decide⟩ dX0_init_50 ?_
  refine V.nn (n2 := 120) rfl ?_
  have z150 := z149.up (m := 120) (by omega)
  refine V.dup (pc := 53) hG dX0_init_53 rfl ?_
  refine V.ccallN (pc := 54) (n2 := 120) hG (ct_X3 l Δ (119) (isA.of (by decide +kernel))  (by decide) z150) mY_X3_init rfl kw_278 kw_279 ⟨by decide, by decide, by decide, by decide⟩ (Nat.le_of_ble_eq_true rfl) dX0_init_54 ?_
  have z151 := zf_X3 119 z150
  have f291 := (congrFun (fr_X3 119 (by decide)) _).trans f288
  have f292 := (congrFun (fr_X3 119 (by decide)) _).trans f289
  have f293 := (congrFun (fr_X3 119 (by decide)) _).trans f290
  refine V.caast 6 5 (pc := 57) (z := 96) (o := 68) (x := 47) (y := 119) hG (isA.of (by decide +kernel)) (by decide) (by decide) rfl (isA.of (by decide +kernel)) (by decide) (by decide) rfl (sR_l rfl) (by decide) (by decide) dX0_init_57 ?_
  have z152 := z151.sRf (o := 68) (kz := 47) (x := 119) (by decide)
  have f294 := (st_ne (o := 68) (k := 47) (v := 119) (by decide)).trans f291
  have f295 := (st_ne (o := 68) (k := 47) (v := 119) (by decide)).trans f292
  have f296 := (st_ne (o := 68) (k := 47) (v := 119) (by decide)).trans f293
  refine V.iinc (pc := 58) (x := 47) (lv' := [(1, .int (sJ 48)), (0, .ref (sA Δ 67))]) hG dX0_init_58 0 rfl (by decide) rfl ?_
  refine V.goto (pc := 61) (tgt := 39) hG dX0_init_61 (by decide) ?_
  refine V.iload_n (pc := 39) (x := 48) hG dX0_init_39 rfl 0 rfl ?_
  refine V.bipush (pc := 40) hG dX0_init_40 (by decide) ?_
  refine V.icmp_ge (pc := 42) (tgt := 64) hG (sR_l rfl) (sR_l rfl) dX0_init_42 (by decide) (fun c1 => absurd c1 (by decide)) (fun _ => ?_)
  refine V.aload_n (pc := 45) hG dX0_init_45 rfl 1 rfl ?_
  refine V.getR (x := 68) (pc := 46) (ci := 2) (k := 0) (M := 5) (T := TX0) (o := 67) (kz := 0) hG (isA.of (by decide +kernel)) (by decide) (by decide) hin_X0 rfl (by decide) (by decide) rfl kw_349 rfl f294 (by decide) dX0_init_46 ?_
  refine V.iload_n (pc := 49) (x := 48) hG dX0_init_49 rfl 0 rfl ?_
  refine V.cnew (pc := 50) (ci := 5) (N := 13) (T := TX3) (ty := tyX3) hG hin_X3 rfl tyX3_ok kw_275 kw_277 kw_108 (by decide +kernel) (by decide) rfl defX3 (z152.z (by decide)) ⟨by decide, by decide⟩ dX0_init_50 ?_
  refine V.nn (n2 := 121) rfl ?_
  have z153 := z152.up (m := 121) (by omega)
  refine V.dup (pc := 53) hG dX0_init_53 rfl ?_
  refine V.ccallN (pc := 54) (n2 := 121) hG (ct_X3 l Δ (120) (isA.of (by decide +kernel))  (by decide) z153) mY_X3_init rfl kw_278 kw_279 ⟨by decide, by decide, by decide, by decide⟩ (Nat.le_of_ble_eq_true rfl) dX0_init_54 ?_
  have z154 := zf_X3 120 z153
  have f297 := (congrFun (fr_X3 120 (by decide)) _).trans f294
  have f298 := (congrFun (fr_X3 120 (by decide)) _).trans f295
  have f299 := (congrFun (fr_X3 120 (by decide)) _).trans f296
  refine V.caast 6 5 (pc := 57) (z := 96) (o := 68) (x := 48) (y := 120) hG (isA.of (by decide +kernel)) (by decide) (by decide) rfl (isA.of (by decide +kernel)) (by decide) (by decide) rfl (sR_l rfl) (by decide) (by decide) dX0_init_57 ?_
  have z155 := z154.sRf (o := 68) (kz := 48) (x := 120) (by decide)
  have f300 := (st_ne (o := 68) (k := 48) (v := 120) (by decide)).trans f297
  have f301 := (st_ne (o := 68) (k := 48) (v := 120) (by decide)).trans f298
  have f302 := (st_ne (o := 68) (k := 48) (v := 120) (by decide)).trans f299
  refine V.iinc (pc := 58) (x := 48) (lv' := [(1, .int (sJ 49)), (0, .ref (sA Δ 67))]) hG dX0_init_58 0 rfl (by decide) rfl ?_
  refine V.goto (pc := 61) (tgt := 39) hG dX0_init_61 (by decide) ?_
  refine V.iload_n (pc := 39) (x := 49) hG dX0_init_39 rfl 0 rfl ?_
  refine V.bipush (pc := 40) hG dX0_init_40 (by decide) ?_
  refine V.icmp_ge (pc := 42) (tgt := 64) hG (sR_l rfl) (sR_l rfl) dX0_init_42 (by decide) (fun c1 => absurd c1 (by decide)) (fun _ => ?_)
  refine V.aload_n (pc := 45) hG dX0_init_45 rfl 1 rfl ?_
  refine V.getR (x := 68) (pc := 46) (ci := 2) (k := 0) (M := 5) (T := TX0) (o := 67) (kz := 0) hG (isA.of (by decide +kernel)) (by decide) (by decide) hin_X0 rfl (by decide) (by decide) rfl kw_349 rfl f300 (by decide) dX0_init_46 ?_
  refine V.iload_n (pc := 49) (x := 49) hG dX0_init_49 rfl 0 rfl ?_
  refine V.cnew (pc := 50) (ci := 5) (N := 13) (T := TX3) (ty := tyX3) hG hin_X3 rfl tyX3_ok kw_275 kw_277 kw_108 (by decide +kernel) (by decide) rfl defX3 (z155.z (by decide)) ⟨by decide, by decide⟩ dX0_init_50 ?_
  refine V.nn (n2 := 122) rfl ?_
  have z156 := z155.up (m := 122) (by omega)
  refine V.dup (pc := 53) hG dX0_init_53 rfl ?_
  refine V.ccallN (pc := 54) (n2 := 122) hG (ct_X3 l Δ (121) (isA.of (by decide +kernel))  (by decide) z156) mY_X3_init rfl kw_278 kw_279 ⟨by decide, by decide, by decide, by decide⟩ (Nat.le_of_ble_eq_true rfl) dX0_init_54 ?_
  have z157 := zf_X3 121 z156
  have f303 := (congrFun (fr_X3 121 (by decide)) _).trans f300
  have f304 := (congrFun (fr_X3 121 (by decide)) _).trans f301
  have f305 := (congrFun (fr_X3 121 (by decide)) _).trans f302
  refine V.caast 6 5 (pc := 57) (z := 96) (o := 68) (x := 49) (y := 121) hG (isA.of (by decide +kernel)) (by decide) (by decide) rfl (isA.of (by decide +kernel)) (by decide) (by decide) rfl (sR_l rfl) (by decide) (by decide) dX0_init_57 ?_
  have z158 := z157.sRf (o := 68) (kz := 49) (x := 121) (by decide)
  have f306 := (st_ne (o := 68) (k := 49) (v := 121) (by decide)).trans f303
  have f307 := (st_ne (o := 68) (k := 49) (v := 121) (by decide)).trans f304
  have f308 := (st_ne (o := 68) (k := 49) (v := 121) (by decide)).trans f305
  refine V.iinc (pc := 58) (x := 49) (lv' := [(1, .int (sJ 50)), (0, .ref (sA Δ 67))]) hG dX0_init_58 0 rfl (by decide) rfl ?_
  refine V.goto (pc := 61) (tgt := 39) hG dX0_init_61 (by decide) ?_
  refine V.iload_n (pc := 39) (x := 50) hG dX0_init_39 rfl 0 rfl ?_
  refine V.bipush (pc := 40) hG dX0_init_40 (by decide) ?_
  refine V.icmp_ge (pc := 42) (tgt := 64) hG (sR_l rfl) (sR_l rfl) dX0_init_42 (by decide) (fun c1 => absurd c1 (by decide)) (fun _ => ?_)
  refine V.aload_n (pc := 45) hG dX0_init_45 rfl 1 rfl ?_
  refine V.getR (x := 68) (pc := 46) (ci := 2) (k := 0) (M := 5) (T := TX0) (o := 67) (kz := 0) hG (isA.of (by decide +kernel)) (by decide) (by decide) hin_X0 rfl (by decide) (by decide) rfl kw_349 rfl f306 (by decide) dX0_init_46 ?_
  refine V.iload_n (pc := 49) (x := 50) hG dX0_init_49 rfl 0 rfl ?_
  refine V.cnew (pc := 50) (ci := 5) (N := 13) (T := TX3) (ty := tyX3) hG hin_X3 rfl tyX3_ok kw_275 kw_277 kw_108 (by decide +kernel) (by decide) rfl defX3 (z158.z (by decide)) ⟨by decide, by decide⟩ dX0_init_50 ?_
  refine V.nn (n2 := 123) rfl ?_
  have z159 := z158.up (m := 123) (by omega)
  refine V.dup (pc := 53) hG dX0_init_53 rfl ?_
  refine V.ccallN (pc := 54) (n2 := 123) hG (ct_X3 l Δ (122) (isA.of (by decide +kernel))  (by decide) z159) mY_X3_init rfl kw_278 kw_279 ⟨by decide, by decide, by decide, by decide⟩ (Nat.le_of_ble_eq_true rfl) dX0_init_54 ?_
  have z160 := zf_X3 122 z159
  have f309 := (congrFun (fr_X3 122 (by decide)) _).trans f306
  have f310 := (congrFun (fr_X3 122 (by decide)) _).trans f307
  have f311 := (congrFun (fr_X3 122 (by decide)) _).trans f308
  refine V.caast 6 5 (pc := 57) (z := 96) (o := 68) (x := 50) (y := 122) hG (isA.of (by decide +kernel)) (by decide) (by decide) rfl (isA.of (by decide +kernel)) (by decide) (by decide) rfl (sR_l rfl) (by decide) (by decide) dX0_init_57 ?_
  have z161 := z160.sRf (o := 68) (kz := 50) (x := 122) (by decide)
  have f312 := (st_ne (o := 68) (k := 50) (v := 122) (by decide)).trans f309
  have f313 := (st_ne (o := 68) (k := 50) (v := 122) (by decide)).trans f310
  have f314 := (st_ne (o := 68) (k := 50) (v := 122) (by decide)).trans f311
  refine V.iinc (pc := 58) (x := 50) (lv' := [(1, .int (sJ 51)), (0, .ref (sA Δ 67))]) hG dX0_init_58 0 rfl (by decide) rfl ?_
  refine V.goto (pc := 61) (tgt := 39) hG dX0_init_61 (by decide) ?_
  refine V.iload_n (pc := 39) (x := 51) hG dX0_init_39 rfl 0 rfl ?_
  refine V.bipush (pc := 40) hG dX0_init_40 (by decide) ?_
  refine V.icmp_ge (pc := 42) (tgt := 64) hG (sR_l rfl) (sR_l rfl) dX0_init_42 (by decide) (fun c1 => absurd c1 (by decide)) (fun _ => ?_)
  refine V.aload_n (pc := 45) hG dX0_init_45 rfl 1 rfl ?_
  refine V.getR (x := 68) (pc := 46) (ci := 2) (k := 0) (M := 5) (T := TX0) (o := 67) (kz := 0) hG (isA.of (by decide +kernel)) (by decide) (by decide) hin_X0 rfl (by decide) (by decide) rfl kw_349 rfl f312 (by decide) dX0_init_46 ?_
  refine V.iload_n (pc := 49) (x := 51) hG dX0_init_49 rfl 0 rfl ?_
  refine V.cnew (pc := 50) (ci := 5) (N := 13) (T := TX3) (ty := tyX3) hG hin_X3 rfl tyX3_ok kw_275 kw_277 kw_108 (by decide +kernel) (by decide) rfl defX3 (z161.z (by decide)) ⟨by decide, by decide⟩ dX0_init_50 ?_
  refine V.nn (n2 := 124) rfl ?_
  have z162 := z161.up (m := 124) (by omega)
  refine V.dup (pc := 53) hG dX0_init_53 rfl ?_
  refine V.ccallN (pc := 54) (n2 := 124) hG (ct_X3 l Δ (123) (isA.of (by decide +kernel))  (by decide) z162) mY_X3_init rfl kw_278 kw_279 ⟨by decide, by decide, by decide, by decide⟩ (Nat.le_of_ble_eq_true rfl) dX0_init_54 ?_
  have z163 := zf_X3 123 z162
  have f315 := (congrFun (fr_X3 123 (by decide)) _).trans f312
  have f316 := (congrFun (fr_X3 123 (by decide)) _).trans f313
  have f317 := (congrFun (fr_X3 123 (by decide)) _).trans f314
  refine V.caast 6 5 (pc := 57) (z := 96) (o := 68) (x := 51) (y := 123) hG (isA.of (by decide +kernel)) (by decide) (by decide) rfl (isA.of (by decide +kernel)) (by decide) (by decide) rfl (sR_l rfl) (by decide) (by decide) dX0_init_57 ?_
  have z164 := z163.sRf (o := 68) (kz := 51) (x := 123) (by decide)
  have f318 := (st_ne (o := 68) (k := 51) (v := 123) (by decide)).trans f315
  have f319 := (st_ne (o := 68) (k := 51) (v := 123) (by decide)).trans f316
  have f320 := (st_ne (o := 68) (k := 51) (v := 123) (by decide)).trans f317
  refine V.iinc (pc := 58) (x := 51) (lv' := [(1, .int (sJ 52)), (0, .ref (sA Δ 67))]) hG dX0_init_58 0 rfl (by decide) rfl ?_
  refine V.goto (pc := 61) (tgt := 39) hG dX0_init_61 (by decide) ?_
  refine V.iload_n (pc := 39) (x := 52) hG dX0_init_39 rfl 0 rfl ?_
  refine V.bipush (pc := 40) hG dX0_init_40 (by decide) ?_
  refine V.icmp_ge (pc := 42) (tgt := 64) hG (sR_l rfl) (sR_l rfl) dX0_init_42 (by decide) (fun c1 => absurd c1 (by decide)) (fun _ => ?_)
  refine V.aload_n (pc := 45) hG dX0_init_45 rfl 1 rfl ?_
  refine V.getR (x := 68) (pc := 46) (ci := 2) (k := 0) (M := 5) (T := TX0) (o := 67) (kz := 0) hG (isA.of (by decide +kernel)) (by decide) (by decide) hin_X0 rfl (by decide) (by decide) rfl kw_349 rfl f318 (by decide) dX0_init_46 ?_
  refine V.iload_n (pc := 49) (x := 52) hG dX0_init_49 rfl 0 rfl ?_
  refine V.cnew (pc := 50) (ci := 5) (N := 13) (T := TX3) (ty := tyX3) hG hin_X3 rfl tyX3_ok kw_275 kw_277 kw_108 (by decide +kernel) (by decide) rfl defX3 (z164.z (by decide)) ⟨by decide, by decide⟩ dX0_init_50 ?_
  refine V.nn (n2 := 125) rfl ?_
  have z165 := z164.up (m := 125) (by omega)
  refine V.dup (pc := 53) hG dX0_init_53 rfl ?_
  refine V.ccallN (pc := 54) (n2 := 125) hG (ct_X3 l Δ (124) (isA.of (by decide +kernel))  (by decide) z165) mY_X3_init rfl kw_278 kw_279 ⟨by decide, by decide, by decide, by decide⟩ (Nat.le_of_ble_eq_true rfl) dX0_init_54 ?_
  have z166 := zf_X3 124 z165
  have f321 := (congrFun (fr_X3 124 (by decide)) _).trans f318
  have f322 := (congrFun (fr_X3 124 (by decide)) _).trans f319
  have f323 := (congrFun (fr_X3 124 (by decide)) _).trans f320
  refine V.caast 6 5 (pc := 57) (z := 96) (o := 68) (x := 52) (y := 124) hG (isA.of (by decide +kernel)) (by decide) (by decide) rfl (isA.of (by decide +kernel)) (by decide) (by decide) rfl (sR_l rfl) (by decide) (by decide) dX0_init_57 ?_
  have z167 := z166.sRf (o := 68) (kz := 52) (x := 124) (by decide)
  have f324 := (st_ne (o := 68) (k := 52) (v := 124) (by decide)).trans f321
  have f325 := (st_ne (o := 68) (k := 52) (v := 124) (by decide)).trans f322
  have f326 := (st_ne (o := 68) (k := 52) (v := 124) (by decide)).trans f323
  refine V.iinc (pc := 58) (x := 52) (lv' := [(1, .int (sJ 53)), (0, .ref (sA Δ 67))]) hG dX0_init_58 0 rfl (by decide) rfl ?_
  refine V.goto (pc := 61) (tgt := 39) hG dX0_init_61 (by decide) ?_
  refine V.iload_n (pc := 39) (x := 53) hG dX0_init_39 rfl 0 rfl ?_
  refine V.bipush (pc := 40) hG dX0_init_40 (by decide) ?_
  refine V.icmp_ge (pc := 42) (tgt := 64) hG (sR_l rfl) (sR_l rfl) dX0_init_42 (by decide) (fun c1 => absurd c1 (by decide)) (fun _ => ?_)
  refine V.aload_n (pc := 45) hG dX0_init_45 rfl 1 rfl ?_
  refine V.getR (x := 68) (pc := 46) (ci := 2) (k := 0) (M := 5) (T := TX0) (o := 67) (kz := 0) hG (isA.of (by decide +kernel)) (by decide) (by decide) hin_X0 rfl (by decide) (by decide) rfl kw_349 rfl f324 (by decide) dX0_init_46 ?_
  refine V.iload_n (pc := 49) (x := 53) hG dX0_init_49 rfl 0 rfl ?_
  refine V.cnew (pc := 50) (ci := 5) (N := 13) (T := TX3) (ty := tyX3) hG hin_X3 rfl tyX3_ok kw_275 kw_277 kw_108 (by decide +kernel) (by decide) rfl defX3 (z167.z (by decide)) ⟨by decide, by decide⟩ dX0_init_50 ?_
  refine V.nn (n2 := 126) rfl ?_
  have z168 := z167.up (m := 126) (by omega)
  refine V.dup (pc := 53) hG dX0_init_53 rfl ?_
  refine V.ccallN (pc := 54) (n2 := 126) hG (ct_X3 l Δ (125) (isA.of (by decide +kernel))  (by decide) z168) mY_X3_init rfl kw_278 kw_279 ⟨by decide, by decide, by decide, by decide⟩ (Nat.le_of_ble_eq_true rfl) dX0_init_54 ?_
  have z169 := zf_X3 125 z168
  have f327 := (congrFun (fr_X3 125 (by decide)) _).trans f324
  have f328 := (congrFun (fr_X3 125 (by decide)) _).trans f325
  have f329 := (congrFun (fr_X3 125 (by decide)) _).trans f326
  refine V.caast 6 5 (pc := 57) (z := 96) (o := 68) (x := 53) (y := 125) hG (isA.of (by decide +kernel)) (by decide) (by decide) rfl (isA.of (by decide +kernel)) (by decide) (by decide) rfl (sR_l rfl) (by decide) (by decide) dX0_init_57 ?_
  have z170 := z169.sRf (o := 68) (kz := 53) (x := 125) (by decide)
  have f330 := (st_ne (o := 68) (k := 53) (v := 125) (by decide)).trans f327
  have f331 := (st_ne (o := 68) (k := 53) (v := 125) (by decide)).trans f328
  have f332 := (st_ne (o := 68) (k := 53) (v := 125) (by decide)).trans f329
  refine V.iinc (pc := 58) (x := 53) (lv' := [(1, .int (sJ 54)), (0, .ref (sA Δ 67))]) hG dX0_init_58 0 rfl (by decide) rfl ?_
  refine V.goto (pc := 61) (tgt := 39) hG dX0_init_61 (by decide) ?_
  refine V.iload_n (pc := 39) (x := 54) hG dX0_init_39 rfl 0 rfl ?_
  refine V.bipush (pc := 40) hG dX0_init_40 (by decide) ?_
  refine V.icmp_ge (pc := 42) (tgt := 64) hG (sR_l rfl) (sR_l rfl) dX0_init_42 (by decide) (fun c1 => absurd c1 (by decide)) (fun _ => ?_)
  refine V.aload_n (pc := 45) hG dX0_init_45 rfl 1 rfl ?_
  refine V.getR (x := 68) (pc := 46) (ci := 2) (k := 0) (M := 5) (T := TX0) (o := 67) (kz := 0) hG (isA.of (by decide +kernel)) (by decide) (by decide) hin_X0 rfl (by decide) (by decide) rfl kw_349 rfl f330 (by decide) dX0_init_46 ?_
  refine V.iload_n (pc := 49) (x := 54) hG dX0_init_49 rfl 0 rfl ?_
  refine V.cnew (pc := 50) (ci := 5) (N := 13) (T := TX3) (ty := tyX3) hG hin_X3 rfl tyX3_ok kw_275 kw_277 kw_108 (by decide +kernel) (by decide) rfl defX3 (z170.z (by decide)) ⟨by decide, by decide⟩ dX0_init_50 ?_
  refine V.nn (n2 := 127) rfl ?_
  have z171 := z170.up (m := 127) (by omega)
  refine V.dup (pc := 53) hG dX0_init_53 rfl ?_
  refine V.ccallN (pc := 54) (n2 := 127) hG (ct_X3 l Δ (126) (isA.of (by decide +kernel))  (by decide) z171) mY_X3_init rfl kw_278 kw_279 ⟨by decide, by decide, by decide, by decide⟩ (Nat.le_of_ble_eq_true rfl) dX0_init_54 ?_
  have z172 := zf_X3 126 z171
  have f333 := (congrFun (fr_X3 126 (by decide)) _).trans f330
  have f334 := (congrFun (fr_X3 126 (by decide)) _).trans f331
  have f335 := (congrFun (fr_X3 126 (by decide)) _).trans f332
  refine V.caast 6 5 (pc := 57) (z := 96) (o := 68) (x := 54) (y := 126) hG (isA.of (by decide +kernel)) (by decide) (by decide) rfl (isA.of (by decide +kernel)) (by decide) (by decide) rfl (sR_l rfl) (by decide) (by decide) dX0_init_57 ?_
  have z173 := z172.sRf (o := 68) (kz := 54) (x := 126) (by decide)
  have f336 := (st_ne (o := 68) (k := 54) (v := 126) (by decide)).trans f333
  have f337 := (st_ne (o := 68) (k := 54) (v := 126) (by decide)).trans f334
  have f338 := (st_ne (o := 68) (k := 54) (v := 126) (by decide)).trans f335
  refine V.iinc (pc := 58) (x := 54) (lv' := [(1, .int (sJ 55)), (0, .ref (sA Δ 67))]) hG dX0_init_58 0 rfl (by decide) rfl ?_
  refine V.goto (pc := 61) (tgt := 39) hG dX0_init_61 (by decide) ?_
  refine V.iload_n (pc := 39) (x := 55) hG dX0_init_39 rfl 0 rfl ?_
  refine V.bipush (pc := 40) hG dX0_init_40 (by decide) ?_
  refine V.icmp_ge (pc := 42) (tgt := 64) hG (sR_l rfl) (sR_l rfl) dX0_init_42 (by decide) (fun c1 => absurd c1 (by decide)) (fun _ => ?_)
  refine V.aload_n (pc := 45) hG dX0_init_45 rfl 1 rfl ?_
  refine V.getR (x := 68) (pc := 46) (ci := 2) (k := 0) (M := 5) (T := TX0) (o := 67) (kz := 0) hG (isA.of (by decide +kernel)) (by decide) (by decide) hin_X0 rfl (by decide) (by decide) rfl kw_349 rfl f336 (by decide) dX0_init_46 ?_
  refine V.iload_n (pc := 49) (x := 55) hG dX0_init_49 rfl 0 rfl ?_
  refine V.cnew (pc := 50) (ci := 5) (N := 13) (T := TX3) (ty := tyX3) hG hin_X3 rfl tyX3_ok kw_275 kw_277 kw_108 (by decide +kernel) (by decide) rfl defX3 (z173.z (by decide)) ⟨by decide, by decide⟩ dX0_init_50 ?_
  refine V.nn (n2 := 128) rfl ?_
  have z174 := z173.up (m := 128) (by omega)
  refine V.dup (pc := 53) hG dX0_init_53 rfl ?_
  refine V.ccallN (pc := 54) (n2 := 128) hG (ct_X3 l Δ (127) (isA.of (by decide +kernel))  (by decide) z174) mY_X3_init rfl kw_278 kw_279 ⟨by decide, by decide, by decide, by decide⟩ (Nat.le_of_ble_eq_true rfl) dX0_init_54 ?_
  have z175 := zf_X3 127 z174
  have f339 := (congrFun (fr_X3 127 (by decide)) _).trans f336
  have f340 := (congrFun (fr_X3 127 (by decide)) _).trans f337
  have f341 := (congrFun (fr_X3 127 (by decide)) _).trans f338
  refine V.caast 6 5 (pc := 57) (z := 96) (o := 68) (x := 55) (y := 127) hG (isA.of (by decide +kernel)) (by decide) (by decide) rfl (isA.of (by decide +kernel)) (by decide) (by decide) rfl (sR_l rfl) (by decide) (by decide) dX0_init_57 ?_
  have z176 := z175.sRf (o := 68) (kz := 55) (x := 127) (by decide)
  have f342 := (st_ne (o := 68) (k := 55) (v := 127) (by decide)).trans f339
  have f343 := (st_ne (o := 68) (k := 55) (v := 127) (by decide)).trans f340
  have f344 := (st_ne (o := 68) (k := 55) (v := 127) (by decide)).trans f341
  refine V.iinc (pc := 58) (x := 55) (lv' := [(1, .int (sJ 56)), (0, .ref (sA Δ 67))]) hG dX0_init_58 0 rfl (by decide) rfl ?_
  refine V.goto (pc := 61) (tgt := 39) hG dX0_init_61 (by decide) ?_
  refine V.iload_n (pc := 39) (x := 56) hG dX0_init_39 rfl 0 rfl ?_
  refine V.bipush (pc := 40) hG dX0_init_40 (by decide) ?_
  refine V.icmp_ge (pc := 42) (tgt := 64) hG (sR_l rfl) (sR_l rfl) dX0_init_42 (by decide) (fun c1 => absurd c1 (by decide)) (fun _ => ?_)
  refine V.aload_n (pc := 45) hG dX0_init_45 rfl 1 rfl ?_
  refine V.getR (x := 68) (pc := 46) (ci := 2) (k := 0) (M := 5) (T := TX0) (o := 67) (kz := 0) hG (isA.of (by decide +kernel)) (by decide) (by decide) hin_X0 rfl (by decide) (by decide) rfl kw_349 rfl f342 (by decide) dX0_init_46 ?_
  refine V.iload_n (pc := 49) (x := 56) hG dX0_init_49 rfl 0 rfl ?_
  refine V.cnew (pc := 50) (ci := 5) (N := 13) (T := TX3) (ty := tyX3) hG hin_X3 rfl tyX3_ok kw_275 kw_277 kw_108 (by decide +kernel) (by decide) rfl defX3 (z176.z (by decide)) ⟨by decide, by decide⟩ dX0_init_50 ?_
  refine V.nn (n2 := 129) rfl ?_
  have z177 := z176.up (m := 129) (by omega)
  refine V.dup (pc := 53) hG dX0_init_53 rfl ?_
  refine V.ccallN (pc := 54) (n2 := 129) hG (ct_X3 l Δ (128) (isA.of (by decide +kernel))  (by decide) z177) mY_X3_init rfl kw_278 kw_279 ⟨by decide, by decide, by decide, by decide⟩ (Nat.le_of_ble_eq_true rfl) dX0_init_54 ?_
  have z178 := zf_X3 128 z177
  have f345 := (congrFun (fr_X3 128 (by decide)) _).trans f342
  have f346 := (congrFun (fr_X3 128 (by decide)) _).trans f343
  have f347 := (congrFun (fr_X3 128 (by decide)) _).trans f344
  refine V.caast 6 5 (pc := 57) (z := 96) (o := 68) (x := 56) (y := 128) hG (isA.of (by decide +kernel)) (by decide) (by decide) rfl (isA.of (by decide +kernel)) (by decide) (by decide) rfl (sR_l rfl) (by decide) (by decide) dX0_init_57 ?_
  have z179 := z178.sRf (o := 68) (kz := 56) (x := 128) (by decide)
  have f348 := (st_ne (o := 68) (k := 56) (v := 128) (by decide)).trans f345
  have f349 := (st_ne (o := 68) (k := 56) (v := 128) (by decide)).trans f346
  have f350 := (st_ne (o := 68) (k := 56) (v := 128) (by decide)).trans f347
  refine V.iinc (pc := 58) (x := 56) (lv' := [(1, .int (sJ 57)), (0, .ref (sA Δ 67))]) hG dX0_init_58 0 rfl (by decide) rfl ?_
  refine V.goto (pc := 61) (tgt := 39) hG dX0_init_61 (by decide) ?_
  refine V.iload_n (pc := 39) (x := 57) hG dX0_init_39 rfl 0 rfl ?_
  refine V.bipush (pc := 40) hG dX0_init_40 (by decide) ?_
  refine V.icmp_ge (pc := 42) (tgt := 64) hG (sR_l rfl) (sR_l rfl) dX0_init_42 (by decide) (fun c1 => absurd c1 (by decide)) (fun _ => ?_)
  refine V.aload_n (pc := 45) hG dX0_init_45 rfl 1 rfl ?_
  refine V.getR (x := 68) (pc := 46) (ci := 2) (k := 0) (M := 5) (T := TX0) (o := 67) (kz := 0) hG (isA.of (by decide +kernel)) (by decide) (by decide) hin_X0 rfl (by decide) (by decide) rfl kw_349 rfl f348 (by decide) dX0_init_46 ?_
  refine V.iload_n (pc := 49) (x := 57) hG dX0_init_49 rfl 0 rfl ?_
  refine V.cnew (pc := 50) (ci := 5) (N := 13) (T := TX3) (ty := tyX3) hG hin_X3 rfl tyX3_ok kw_275 kw_277 kw_108 (by decide +kernel) (by decide) rfl defX3 (z179.z (by decide)) ⟨by decide, by decide⟩ dX0_init_50 ?_
  refine V.nn (n2 := 130) rfl ?_
  have z180 := z179.up (m := 130) (by omega)
  refine V.dup (pc := 53) hG dX0_init_53 rfl ?_
  refine V.ccallN (pc := 54) (n2 := 130) hG (ct_X3 l Δ (129) (isA.of (by decide +kernel))  (by decide) z180) mY_X3_init rfl kw_278 kw_279 ⟨by decide, by decide, by decide, by decide⟩ (Nat.le_of_ble_eq_true rfl) dX0_init_54 ?_
  have z181 := zf_X3 129 z180
  have f351 := (congrFun (fr_X3 129 (by decide)) _).trans f348
  have f352 := (congrFun (fr_X3 129 (by decide)) _).trans f349
  have f353 := (congrFun (fr_X3 129 (by decide)) _).trans f350
  refine V.caast 6 5 (pc := 57) (z := 96) (o := 68) (x := 57) (y := 129) hG (isA.of (by decide +kernel)) (by decide) (by decide) rfl (isA.of (by decide +kernel)) (by decide) (by decide) rfl (sR_l rfl) (by decide) (by decide) dX0_init_57 ?_
  have z182 := z181.sRf (o := 68) (kz := 57) (x := 129) (by decide)
  have f354 := (st_ne (o := 68) (k := 57) (v := 129) (by decide)).trans f351
  have f355 := (st_ne (o := 68) (k := 57) (v := 129) (by decide)).trans f352
  have f356 := (st_ne (o := 68) (k := 57) (v := 129) (by decide)).trans f353
  refine V.iinc (pc := 58) (x := 57) (lv' := [(1, .int (sJ 58)), (0, .ref (sA Δ 67))]) hG dX0_init_58 0 rfl (by decide) rfl ?_
  refine V.goto (pc := 61) (tgt := 39) hG dX0_init_61 (by decide) ?_
  refine V.iload_n (pc := 39) (x := 58) hG dX0_init_39 rfl 0 rfl ?_
  refine V.bipush (pc := 40) hG dX0_init_40 (by decide) ?_
  refine V.icmp_ge (pc := 42) (tgt := 64) hG (sR_l rfl) (sR_l rfl) dX0_init_42 (by decide) (fun c1 => absurd c1 (by decide)) (fun _ => ?_)
  refine V.aload_n (pc := 45) hG dX0_init_45 rfl 1 rfl ?_
  refine V.getR (x := 68) (pc := 46) (ci := 2) (k := 0) (M := 5) (T := TX0) (o := 67) (kz := 0) hG (isA.of (by decide +kernel)) (by decide) (by decide) hin_X0 rfl (by decide) (by decide) rfl kw_349 rfl f354 (by decide) dX0_init_46 ?_
  refine V.iload_n (pc := 49) (x := 58) hG dX0_init_49 rfl 0 rfl ?_
  refine V.cnew (pc := 50) (ci := 5) (N := 13) (T := TX3) (ty := tyX3) hG hin_X3 rfl tyX3_ok kw_275 kw_277 kw_108 (by decide +kernel) (by decide) rfl defX3 (z182.z (by decide)) ⟨by decide, by decide⟩ dX0_init_50 ?_
  refine V.nn (n2 := 131) rfl ?_
  have z183 := z182.up (m := 131) (by omega)
  refine V.dup (pc := 53) hG dX0_init_53 rfl ?_
  refine V.ccallN (pc := 54) (n2 := 131) hG (ct_X3 l Δ (130) (isA.of (by decide +kernel))  (by decide) z183) mY_X3_init rfl kw_278 kw_279 ⟨by decide, by decide, by decide, by decide⟩ (Nat.le_of_ble_eq_true rfl) dX0_init_54 ?_
  have z184 := zf_X3 130 z183
  have f357 := (congrFun (fr_X3 130 (by decide)) _).trans f354
  have f358 := (congrFun (fr_X3 130 (by decide)) _).trans f355
  have f359 := (congrFun (fr_X3 130 (by decide)) _).trans f356
  refine V.caast 6 5 (pc := 57) (z := 96) (o := 68) (x := 58) (y := 130) hG (isA.of (by decide +kernel)) (by decide) (by decide) rfl (isA.of (by decide +kernel)) (by decide) (by decide) rfl (sR_l rfl) (by decide) (by decide) dX0_init_57 ?_
  have z185 := z184.sRf (o := 68) (kz := 58) (x := 130) (by decide)
  have f360 := (st_ne (o := 68) (k := 58) (v := 130) (by decide)).trans f357
  have f361 := (st_ne (o := 68) (k := 58) (v := 130) (by decide)).trans f358
  have f362 := (st_ne (o := 68) (k := 58) (v := 130) (by decide)).trans f359
  refine V.iinc (pc := 58) (x := 58) (lv' := [(1, .int (sJ 59)), (0, .ref (sA Δ 67))]) hG dX0_init_58 0 rfl (by decide) rfl ?_
  refine V.goto (pc := 61) (tgt := 39) hG dX0_init_61 (by decide) ?_
  refine V.iload_n (pc := 39) (x := 59) hG dX0_init_39 rfl 0 rfl ?_
  refine V.bipush (pc := 40) hG dX0_init_40 (by decide) ?_
  refine V.icmp_ge (pc := 42) (tgt := 64) hG (sR_l rfl) (sR_l rfl) dX0_init_42 (by decide) (fun c1 => absurd c1 (by decide)) (fun _ => ?_)
  refine V.aload_n (pc := 45) hG dX0_init_45 rfl 1 rfl ?_
  refine V.getR (x := 68) (pc := 46) (ci := 2) (k := 0) (M := 5) (T := TX0) (o := 67) (kz := 0) hG (isA.of (by decide +kernel)) (by decide) (by decide) hin_X0 rfl (by decide) (by decide) rfl kw_349 rfl f360 (by decide) dX0_init_46 ?_
  refine V.iload_n (pc := 49) (x := 59) hG dX0_init_49 rfl 0 rfl ?_
  refine V.cnew (pc := 50) (ci := 5) (N := 13) (T := TX3) (ty := tyX3) hG hin_X3 rfl tyX3_ok kw_275 kw_277 kw_108 (by decide +kernel) (by decide) rfl defX3 (z185.z (by decide)) ⟨by decide, by decide⟩ dX0_init_50 ?_
  refine V.nn (n2 := 132) rfl ?_
  have z186 := z185.up (m := 132) (by omega)
  refine V.dup (pc := 53) hG dX0_init_53 rfl ?_
  refine V.ccallN (pc := 54) (n2 := 132) hG (ct_X3 l Δ (131) (isA.of (by decide +kernel))  (by decide) z186) mY_X3_init rfl kw_278 kw_279 ⟨by decide, by decide, by decide, by decide⟩ (Nat.le_of_ble_eq_true rfl) dX0_init_54 ?_
  have z187 := zf_X3 131 z186
  have f363 := (congrFun (fr_X3 131 (by decide)) _).trans f360
  have f364 := (congrFun (fr_X3 131 (by decide)) _).trans f361
  have f365 := (congrFun (fr_X3 131 (by decide)) _).trans f362
  refine V.caast 6 5 (pc := 57) (z := 96) (o := 68) (x := 59) (y := 131) hG (isA.of (by decide +kernel)) (by decide) (by decide) rfl (isA.of (by decide +kernel)) (by decide) (by decide) rfl (sR_l rfl) (by decide) (by decide) dX0_init_57 ?_
  have z188 := z187.sRf (o := 68) (kz := 59) (x := 131) (by decide)
  have f366 := (st_ne (o := 68) (k := 59) (v := 131) (by decide)).trans f363
  have f367 := (st_ne (o := 68) (k := 59) (v := 131) (by decide)).trans f364
  have f368 := (st_ne (o := 68) (k := 59) (v := 131) (by decide)).trans f365
  refine V.iinc (pc := 58) (x := 59) (lv' := [(1, .int (sJ 60)), (0, .ref (sA Δ 67))]) hG dX0_init_58 0 rfl (by decide) rfl ?_
  refine V.goto (pc := 61) (tgt := 39) hG dX0_init_61 (by decide) ?_
  refine V.iload_n (pc := 39) (x := 60) hG dX0_init_39 rfl 0 rfl ?_
  refine V.bipush (pc := 40) hG dX0_init_40 (by decide) ?_
  refine V.icmp_ge (pc := 42) (tgt := 64) hG (sR_l rfl) (sR_l rfl) dX0_init_42 (by decide) (fun c1 => absurd c1 (by decide)) (fun _ => ?_)
  refine V.aload_n (pc := 45) hG dX0_init_45 rfl 1 rfl ?_
  refine V.getR (x := 68) (pc := 46) (ci := 2) (k := 0) (M := 5) (T := TX0) (o := 67) (kz := 0) hG (isA.of (by decide +kernel)) (by decide) (by decide) hin_X0 rfl (by decide) (by decide) rfl kw_349 rfl f366 (by decide) dX0_init_46 ?_
  refine V.iload_n (pc := 49) (x := 60) hG dX0_init_49 rfl 0 rfl ?_
  refine V.cnew (pc := 50) (ci := 5) (N := 13) (T := TX3) (ty := tyX3) hG hin_X3 rfl tyX3_ok kw_275 kw_277 kw_108 (by decide +kernel) (by decide) rfl defX3 (z188.z (by decide)) ⟨by decide, by decide⟩ dX0_init_50 ?_
  refine V.nn (n2 := 133) rfl ?_
  have z189 := z188.up (m := 133) (by omega)
  refine V.dup (pc := 53) hG dX0_init_53 rfl ?_
  refine V.ccallN (pc := 54) (n2 := 133) hG (ct_X3 l Δ (132) (isA.of (by decide +kernel))  (by decide) z189) mY_X3_init rfl kw_278 kw_279 ⟨by decide, by decide, by decide, by decide⟩ (Nat.le_of_ble_eq_true rfl) dX0_init_54 ?_
  have z190 := zf_X3 132 z189
  have f369 := (congrFun (fr_X3 132 (by decide)) _).trans f366
  have f370 := (congrFun (fr_X3 132 (by decide)) _).trans f367
  have f371 := (congrFun (fr_X3 132 (by decide)) _).trans f368
  refine V.caast 6 5 (pc := 57) (z := 96) (o := 68) (x := 60) (y := 132) hG (isA.of (by decide +kernel)) (by decide) (by decide) rfl (isA.of (by decide +kernel)) (by decide) (by decide) rfl (sR_l rfl) (by decide) (by decide) dX0_init_57 ?_
  have z191 := z190.sRf (o := 68) (kz := 60) (x := 132) (by decide)
  have f372 := (st_ne (o := 68) (k := 60) (v := 132) (by decide)).trans f369
  have f373 := (st_ne (o := 68) (k := 60) (v := 132) (by decide)).trans f370
  have f374 := (st_ne (o := 68) (k := 60) (v := 132) (by decide)).trans f371
  refine V.iinc (pc := 58) (x := 60) (lv' := [(1, .int (sJ 61)), (0, .ref (sA Δ 67))]) hG dX0_init_58 0 rfl (by decide) rfl ?_
  refine V.goto (pc := 61) (tgt := 39) hG dX0_init_61 (by decide) ?_
  refine V.iload_n (pc := 39) (x := 61) hG dX0_init_39 rfl 0 rfl ?_
  refine V.bipush (pc := 40) hG dX0_init_40 (by decide) ?_
  refine V.icmp_ge (pc := 42) (tgt := 64) hG (sR_l rfl) (sR_l rfl) dX0_init_42 (by decide) (fun c1 => absurd c1 (by decide)) (fun _ => ?_)
  refine V.aload_n (pc := 45) hG dX0_init_45 rfl 1 rfl ?_
  refine V.getR (x := 68) (pc := 46) (ci := 2) (k := 0) (M := 5) (T := TX0) (o := 67) (kz := 0) hG (isA.of (by decide +kernel)) (by decide) (by decide) hin_X0 rfl (by decide) (by decide) rfl kw_349 rfl f372 (by decide) dX0_init_46 ?_
  refine V.iload_n (pc := 49) (x := 61) hG dX0_init_49 rfl 0 rfl ?_
  refine V.cnew (pc := 50) (ci := 5) (N := 13) (T := TX3) (ty := tyX3) hG hin_X3 rfl tyX3_ok kw_275 kw_277 kw_108 (by decide +kernel) (by decide) rfl defX3 (z191.z (by decide)) ⟨by decide, by decide⟩ dX0_init_50 ?_
  refine V.nn (n2 := 134) rfl ?_
  have z192 := z191.up (m := 134) (by omega)
  refine V.dup (pc := 53) hG dX0_init_53 rfl ?_
  refine V.ccallN (pc := 54) (n2 := 134) hG (ct_X3 l Δ (133) (isA.of (by decide +kernel))  (by decide) z192) mY_X3_init rfl kw_278 kw_279 ⟨by decide, by decide, by decide, by decide⟩ (Nat.le_of_ble_eq_true rfl) dX0_init_54 ?_
  have z193 := zf_X3 133 z192
  have f375 := (congrFun (fr_X3 133 (by decide)) _).trans f372
  have f376 := (congrFun (fr_X3 133 (by decide)) _).trans f373
  have f377 := (congrFun (fr_X3 133 (by decide)) _).trans f374
  refine V.caast 6 5 (pc := 57) (z := 96) (o := 68) (x := 61) (y := 133) hG (isA.of (by decide +kernel)) (by decide) (by decide) rfl (isA.of (by decide +kernel)) (by decide) (by decide) rfl (sR_l rfl) (by decide) (by decide) dX0_init_57 ?_
  have z194 := z193.sRf (o := 68) (kz := 61) (x := 133) (by decide)
  have f378 := (st_ne (o := 68) (k := 61) (v := 133) (by decide)).trans f375
  have f379 := (st_ne (o := 68) (k := 61) (v := 133) (by decide)).trans f376
  have f380 := (st_ne (o := 68) (k := 61) (v := 133) (by decide)).trans f377
  refine V.iinc (pc := 58) (x := 61) (lv' := [(1, .int (sJ 62)), (0, .ref (sA Δ 67))]) hG dX0_init_58 0 rfl (by decide) rfl ?_
  refine V.goto (pc := 61) (tgt := 39) hG dX0_init_61 (by decide) ?_
  refine V.iload_n (pc := 39) (x := 62) hG dX0_init_39 rfl 0 rfl ?_
  refine V.bipush (pc := 40) hG dX0_init_40 (by decide) ?_
  refine V.icmp_ge (pc := 42) (tgt := 64) hG (sR_l rfl) (sR_l rfl) dX0_init_42 (by decide) (fun c1 => absurd c1 (by decide)) (fun _ => ?_)
  refine V.aload_n (pc := 45) hG dX0_init_45 rfl 1 rfl ?_
  refine V.getR (x := 68) (pc := 46) (ci := 2) (k := 0) (M := 5) (T := TX0) (o := 67) (kz := 0) hG (isA.of (by decide +kernel)) (by decide) (by decide) hin_X0 rfl (by decide) (by decide) rfl kw_349 rfl f378 (by decide) dX0_init_46 ?_
  refine V.iload_n (pc := 49) (x := 62) hG dX0_init_49 rfl 0 rfl ?_
  refine V.cnew (pc := 50) (ci := 5) (N := 13) (T := TX3) (ty := tyX3) hG hin_X3 rfl tyX3_ok kw_275 kw_277 kw_108 (by decide +kernel) (by decide) rfl defX3 (z194.z (by decide)) ⟨by decide, by decide⟩ dX0_init_50 ?_
  refine V.nn (n2 := 135) rfl ?_
  have z195 := z194.up (m := 135) (by omega)
  refine V.dup (pc := 53) hG dX0_init_53 rfl ?_
  refine V.ccallN (pc := 54) (n2 := 135) hG (ct_X3 l Δ (134) (isA.of (by decide +kernel))  (by decide) z195) mY_X3_init rfl kw_278 kw_279 ⟨by decide, by decide, by decide, by decide⟩ (Nat.le_of_ble_eq_true rfl) dX0_init_54 ?_
  have z196 := zf_X3 134 z195
  have f381 := (congrFun (fr_X3 134 (by decide)) _).trans f378
  have f382 := (congrFun (fr_X3 134 (by decide)) _).trans f379
  have f383 := (congrFun (fr_X3 134 (by decide)) _).trans f380
  refine V.caast 6 5 (pc := 57) (z := 96) (o := 68) (x := 62) (y := 134) hG (isA.of (by decide +kernel)) (by decide) (by decide) rfl (isA.of (by decide +kernel)) (by decide) (by decide) rfl (sR_l rfl) (by decide) (by decide) dX0_init_57 ?_
  have z197 := z196.sRf (o := 68) (kz := 62) (x := 134) (by decide)
  have f384 := (st_ne (o := 68) (k := 62) (v := 134) (by decide)).trans f381
  have f385 := (st_ne (o := 68) (k := 62) (v := 134) (by decide)).trans f382
  have f386 := (st_ne (o := 68) (k := 62) (v := 134) (by decide)).trans f383
  refine V.iinc (pc := 58) (x := 62) (lv' := [(1, .int (sJ 63)), (0, .ref (sA Δ 67))]) hG dX0_init_58 0 rfl (by decide) rfl ?_
  refine V.goto (pc := 61) (tgt := 39) hG dX0_init_61 (by decide) ?_
  refine V.iload_n (pc := 39) (x := 63) hG dX0_init_39 rfl 0 rfl ?_
  refine V.bipush (pc := 40) hG dX0_init_40 (by decide) ?_
  refine V.icmp_ge (pc := 42) (tgt := 64) hG (sR_l rfl) (sR_l rfl) dX0_init_42 (by decide) (fun c1 => absurd c1 (by decide)) (fun _ => ?_)
  refine V.aload_n (pc := 45) hG dX0_init_45 rfl 1 rfl ?_
  refine V.getR (x := 68) (pc := 46) (ci := 2) (k := 0) (M := 5) (T := TX0) (o := 67) (kz := 0) hG (isA.of (by decide +kernel)) (by decide) (by decide) hin_X0 rfl (by decide) (by decide) rfl kw_349 rfl f384 (by decide) dX0_init_46 ?_
  refine V.iload_n (pc := 49) (x := 63) hG dX0_init_49 rfl 0 rfl ?_
  refine V.cnew (pc := 50) (ci := 5) (N := 13) (T := TX3) (ty := tyX3) hG hin_X3 rfl tyX3_ok kw_275 kw_277 kw_108 (by decide +kernel) (by decide) rfl defX3 (z197.z (by decide)) ⟨by decide, by decide⟩ dX0_init_50 ?_
  refine V.nn (n2 := 136) rfl ?_
  have z198 := z197.up (m := 136) (by omega)
  refine V.dup (pc := 53) hG dX0_init_53 rfl ?_
  refine V.ccallN (pc := 54) (n2 := 136) hG (ct_X3 l Δ (135) (isA.of (by decide +kernel))  (by decide) z198) mY_X3_init rfl kw_278 kw_279 ⟨by decide, by decide, by decide, by decide⟩ (Nat.le_of_ble_eq_true rfl) dX0_init_54 ?_
  have z199 := zf_X3 135 z198
  have f387 := (congrFun (fr_X3 135 (by decide)) _).trans f384
  have f388 := (congrFun (fr_X3 135 (by decide)) _).trans f385
  have f389 := (congrFun (fr_X3 135 (by decide)) _).trans f386
  refine V.caast 6 5 (pc := 57) (z := 96) (o := 68) (x := 63) (y := 135) hG (isA.of (by decide +kernel)) (by decide) (by decide) rfl (isA.of (by decide +kernel)) (by decide) (by decide) rfl (sR_l rfl) (by decide) (by decide) dX0_init_57 ?_
  have z200 := z199.sRf (o := 68) (kz := 63) (x := 135) (by decide)
  have f390 := (st_ne (o := 68) (k := 63) (v := 135) (by decide)).trans f387
  have f391 := (st_ne (o := 68) (k := 63) (v := 135) (by decide)).trans f388
  have f392 := (st_ne (o := 68) (k := 63) (v := 135) (by decide)).trans f389
  refine V.iinc (pc := 58) (x := 63) (lv' := [(1, .int (sJ 64)), (0, .ref (sA Δ 67))]) hG dX0_init_58 0 rfl (by decide) rfl ?_
  refine V.goto (pc := 61) (tgt := 39) hG dX0_init_61 (by decide) ?_
  refine V.iload_n (pc := 39) (x := 64) hG dX0_init_39 rfl 0 rfl ?_
  refine V.bipush (pc := 40) hG dX0_init_40 (by decide) ?_
  refine V.icmp_ge (pc := 42) (tgt := 64) hG (sR_l rfl) (sR_l rfl) dX0_init_42 (by decide) (fun c1 => absurd c1 (by decide)) (fun _ => ?_)
  refine V.aload_n (pc := 45) hG dX0_init_45 rfl 1 rfl ?_
  refine V.getR (x := 68) (pc := 46) (ci := 2) (k := 0) (M := 5) (T := TX0) (o := 67) (kz := 0) hG (isA.of (by decide +kernel)) (by decide) (by decide) hin_X0 rfl (by decide) (by decide) rfl kw_349 rfl f390 (by decide) dX0_init_46 ?_
  refine V.iload_n (pc := 49) (x := 64) hG dX0_init_49 rfl 0 rfl ?_
  refine V.cnew (pc := 50) (ci := 5) (N := 13) (T := TX3) (ty := tyX3) hG hin_X3 rfl tyX3_ok kw_275 kw_277 kw_108 (by decide +kernel) (by decide) rfl defX3 (z200.z (by decide)) ⟨by decide, by decide⟩ dX0_init_50 ?_
  refine V.nn (n2 := 137) rfl ?_
  have z201 := z200.up (m := 137) (by omega)
  refine V.dup (pc := 53) hG dX0_init_53 rfl ?_
  refine V.ccallN (pc := 54) (n2 := 137) hG (ct_X3 l Δ (136) (isA.of (by decide +kernel))  (by decide) z201) mY_X3_init rfl kw_278 kw_279 ⟨by decide, by decide, by decide, by decide⟩ (Nat.le_of_ble_eq_true rfl) dX0_init_54 ?_
  have z202 := zf_X3 136 z201
  have f393 := (congrFun (fr_X3 136 (by decide)) _).trans f390
  have f394 := (congrFun (fr_X3 136 (by decide)) _).trans f391
  have f395 := (congrFun (fr_X3 136 (by decide)) _).trans f392
  refine V.caast 6 5 (pc := 57) (z := 96) (o := 68) (x := 64) (y := 136) hG (isA.of (by decide +kernel)) (by decide) (by decide) rfl (isA.of (by decide +kernel)) (by decide) (by decide) rfl (sR_l rfl) (by decide) (by decide) dX0_init_57 ?_
  have z203 := z202.sRf (o := 68) (kz := 64) (x := 136) (by decide)
  have f396 := (st_ne (o := 68) (k := 64) (v := 136) (by decide)).trans f393
  have f397 := (st_ne (o := 68) (k := 64) (v := 136) (by decide)).trans f394
  have f398 := (st_ne (o := 68) (k := 64) (v := 136) (by decide)).trans f395
  refine V.iinc (pc := 58) (x := 64) (lv' := [(1, .int (sJ 65)), (0, .ref (sA Δ 67))]) hG dX0_init_58 0 rfl (by decide) rfl ?_
  refine V.goto (pc := 61) (tgt := 39) hG dX0_init_61 (by decide) ?_
  refine V.iload_n (pc := 39) (x := 65) hG dX0_init_39 rfl 0 rfl ?_
  refine V.bipush (pc := 40) hG dX0_init_40 (by decide) ?_
  refine V.icmp_ge (pc := 42) (tgt := 64) hG (sR_l rfl) (sR_l rfl) dX0_init_42 (by decide) (fun c1 => absurd c1 (by decide)) (fun _ => ?_)
  refine V.aload_n (pc := 45) hG dX0_init_45 rfl 1 rfl ?_
  refine V.getR (x := 68) (pc := 46) (ci := 2) (k := 0) (M := 5) (T := TX0) (o := 67) (kz := 0) hG (isA.of (by decide +kernel)) (by decide) (by decide) hin_X0 rfl (by decide) (by decide) rfl kw_349 rfl f396 (by decide) dX0_init_46 ?_
  refine V.iload_n (pc := 49) (x := 65) hG dX0_init_49 rfl 0 rfl ?_
  refine V.cnew (pc := 50) (ci := 5) (N := 13) (T := TX3) (ty := tyX3) hG hin_X3 rfl tyX3_ok kw_275 kw_277 kw_108 (by decide +kernel) (by decide) rfl defX3 (z203.z (by decide)) ⟨by decide, by decide⟩ dX0_init_50 ?_
  refine V.nn (n2 := 138) rfl ?_
  have z204 := z203.up (m := 138) (by omega)
  refine V.dup (pc := 53) hG dX0_init_53 rfl ?_
  refine V.ccallN (pc := 54) (n2 := 138) hG (ct_X3 l Δ (137) (isA.of (by decide +kernel))  (by decide) z204) mY_X3_init rfl kw_278 kw_279 ⟨by decide, by decide, by decide, by decide⟩ (Nat.le_of_ble_eq_true rfl) dX0_init_54 ?_
  have z205 := zf_X3 137 z204
  have f399 := (congrFun (fr_X3 137 (by decide)) _).trans f396
  have f400 := (congrFun (fr_X3 137 (by decide)) _).trans f397
  have f401 := (congrFun (fr_X3 137 (by decide)) _).trans f398
  refine V.caast 6 5 (pc := 57) (z := 96) (o := 68) (x := 65) (y := 137) hG (isA.of (by decide +kernel)) (by decide) (by decide) rfl (isA.of (by decide +kernel)) (by decide) (by decide) rfl (sR_l rfl) (by decide) (by decide) dX0_init_57 ?_
  have z206 := z205.sRf (o := 68) (kz := 65) (x := 137) (by decide)
  have f402 := (st_ne (o := 68) (k := 65) (v := 137) (by decide)).trans f399
  have f403 := (st_ne (o := 68) (k := 65) (v := 137) (by decide)).trans f400
  have f404 := (st_ne (o := 68) (k := 65) (v := 137) (by decide)).trans f401
  refine V.iinc (pc := 58) (x := 65) (lv' := [(1, .int (sJ 66)), (0, .ref (sA Δ 67))]) hG dX0_init_58 0 rfl (by decide) rfl ?_
  refine V.goto (pc := 61) (tgt := 39) hG dX0_init_61 (by decide) ?_
  refine V.iload_n (pc := 39) (x := 66) hG dX0_init_39 rfl 0 rfl ?_
  refine V.bipush (pc := 40) hG dX0_init_40 (by decide) ?_
  refine V.icmp_ge (pc := 42) (tgt := 64) hG (sR_l rfl) (sR_l rfl) dX0_init_42 (by decide) (fun c1 => absurd c1 (by decide)) (fun _ => ?_)
  refine V.aload_n (pc := 45) hG dX0_init_45 rfl 1 rfl ?_
  refine V.getR (x := 68) (pc := 46) (ci := 2) (k := 0) (M := 5) (T := TX0) (o := 67) (kz := 0) hG (isA.of (by decide +kernel)) (by decide) (by decide) hin_X0 rfl (by decide) (by decide) rfl kw_349 rfl f402 (by decide) dX0_init_46 ?_
  refine V.iload_n (pc := 49) (x := 66) hG dX0_init_49 rfl 0 rfl ?_
  refine V.cnew (pc := 50) (ci := 5) (N := 13) (T := TX3) (ty := tyX3) hG hin_X3 rfl tyX3_ok kw_275 kw_277 kw_108 (by decide +kernel) (by decide) rfl defX3 (z206.z (by decide)) ⟨by decide, by decide⟩ dX0_init_50 ?_
  refine V.nn (n2 := 139) rfl ?_
  have z207 := z206.up (m := 139) (by omega)
  refine V.dup (pc := 53) hG dX0_init_53 rfl ?_
  refine V.ccallN (pc := 54) (n2 := 139) hG (ct_X3 l Δ (138) (isA.of (by decide +kernel))  (by decide) z207) mY_X3_init rfl kw_278 kw_279 ⟨by decide, by decide, by decide, by decide⟩ (Nat.le_of_ble_eq_true rfl) dX0_init_54 ?_
  have z208 := zf_X3 138 z207
  have f405 := (congrFun (fr_X3 138 (by decide)) _).trans f402
  have f406 := (congrFun (fr_X3 138 (by decide)) _).trans f403
  have f407 := (congrFun (fr_X3 138 (by decide)) _).trans f404
  refine V.caast 6 5 (pc := 57) (z := 96) (o := 68) (x := 66) (y := 138) hG (isA.of (by decide +kernel)) (by decide) (by decide) rfl (isA.of (by decide +kernel)) (by decide) (by decide) rfl (sR_l rfl) (by decide) (by decide) dX0_init_57 ?_
  have z209 := z208.sRf (o := 68) (kz := 66) (x := 138) (by decide)
  have f408 := (st_ne (o := 68) (k := 66) (v := 138) (by decide)).trans f405
  have f409 := (st_ne (o := 68) (k := 66) (v := 138) (by decide)).trans f406
  have f410 := (st_ne (o := 68) (k := 66) (v := 138) (by decide)).trans f407
  refine V.iinc (pc := 58) (x := 66) (lv' := [(1, .int (sJ 67)), (0, .ref (sA Δ 67))]) hG dX0_init_58 0 rfl (by decide) rfl ?_
  refine V.goto (pc := 61) (tgt := 39) hG dX0_init_61 (by decide) ?_
  refine V.iload_n (pc := 39) (x := 67) hG dX0_init_39 rfl 0 rfl ?_
  refine V.bipush (pc := 40) hG dX0_init_40 (by decide) ?_
  refine V.icmp_ge (pc := 42) (tgt := 64) hG (sR_l rfl) (sR_l rfl) dX0_init_42 (by decide) (fun c1 => absurd c1 (by decide)) (fun _ => ?_)
  refine V.aload_n (pc := 45) hG dX0_init_45 rfl 1 rfl ?_
  refine V.getR (x := 68) (pc := 46) (ci := 2) (k := 0) (M := 5) (T := TX0) (o := 67) (kz := 0) hG (isA.of (by decide +kernel)) (by decide) (by decide) hin_X0 rfl (by decide) (by decide) rfl kw_349 rfl f408 (by decide) dX0_init_46 ?_
  refine V.iload_n (pc := 49) (x := 67) hG dX0_init_49 rfl 0 rfl ?_
  refine V.cnew (pc := 50) (ci := 5) (N := 13) (T := TX3) (ty := tyX3) hG hin_X3 rfl tyX3_ok kw_275 kw_277 kw_108 (by decide +kernel) (by decide) rfl defX3 (z209.z (by decide)) ⟨by decide, by decide⟩ dX0_init_50 ?_
  refine V.nn (n2 := 140) rfl ?_
  have z210 := z209.up (m := 140) (by omega)
  refine V.dup (pc := 53) hG dX0_init_53 rfl ?_
  refine V.ccallN (pc := 54) (n2 := 140) hG (ct_X3 l Δ (139) (isA.of (by decide +kernel))  (by decide) z210) mY_X3_init rfl kw_278 kw_279 ⟨by decide, by decide, by decide, by decide⟩ (Nat.le_of_ble_eq_true rfl) dX0_init_54 ?_
  have z211 := zf_X3 139 z210
  have f411 := (congrFun (fr_X3 139 (by decide)) _).trans f408
  have f412 := (congrFun (fr_X3 139 (by decide)) _).trans f409
  have f413 := (congrFun (fr_X3 139 (by decide)) _).trans f410
  refine V.caast 6 5 (pc := 57) (z := 96) (o := 68) (x := 67) (y := 139) hG (isA.of (by decide +kernel)) (by decide) (by decide) rfl (isA.of (by decide +kernel)) (by decide) (by decide) rfl (sR_l rfl) (by decide) (by decide) dX0_init_57 ?_
  have z212 := z211.sRf (o := 68) (kz := 67) (x := 139) (by decide)
  have f414 := (st_ne (o := 68) (k := 67) (v := 139) (by decide)).trans f411
  have f415 := (st_ne (o := 68) (k := 67) (v := 139) (by decide)).trans f412
  have f416 := (st_ne (o := 68) (k := 67) (v := 139) (by decide)).trans f413
  refine V.iinc (pc := 58) (x := 67) (lv' := [(1, .int (sJ 68)), (0, .ref (sA Δ 67))]) hG dX0_init_58 0 rfl (by decide) rfl ?_
  refine V.goto (pc := 61) (tgt := 39) hG dX0_init_61 (by decide) ?_
  refine V.iload_n (pc := 39) (x := 68) hG dX0_init_39 rfl 0 rfl ?_
  refine V.bipush (pc := 40) hG dX0_init_40 (by decide) ?_
  refine V.icmp_ge (pc := 42) (tgt := 64) hG (sR_l rfl) (sR_l rfl) dX0_init_42 (by decide) (fun c1 => absurd c1 (by decide)) (fun _ => ?_)
  refine V.aload_n (pc := 45) hG dX0_init_45 rfl 1 rfl ?_
  refine V.getR (x := 68) (pc := 46) (ci := 2) (k := 0) (M := 5) (T := TX0) (o := 67) (kz := 0) hG (isA.of (by decide +kernel)) (by decide) (by decide) hin_X0 rfl (by decide) (by decide) rfl kw_349 rfl f414 (by decide) dX0_init_46 ?_
  refine V.iload_n (pc := 49) (x := 68) hG dX0_init_49 rfl 0 rfl ?_
  refine V.cnew (pc := 50) (ci := 5) (N := 13) (T := TX3) (ty := tyX3) hG hin_X3 rfl tyX3_ok kw_275 kw_277 kw_108 (by decide +kernel) (by decide) rfl defX3 (z212.z (by decide)) ⟨by decide, by decide⟩ dX0_init_50 ?_
  refine V.nn (n2 := 141) rfl ?_
  have z213 := z212.up (m := 141) (by omega)
  refine V.dup (pc := 53) hG dX0_init_53 rfl ?_
  refine V.ccallN (pc := 54) (n2 := 141) hG (ct_X3 l Δ (140) (isA.of (by decide +kernel))  (by decide) z213) mY_X3_init rfl kw_278 kw_279 ⟨by decide, by decide, by decide, by decide⟩ (Nat.le_of_ble_eq_true rfl) dX0_init_54 ?_
  have z214 := zf_X3 140 z213
  have f417 := (congrFun (fr_X3 140 (by decide)) _).trans f414
  have f418 := (congrFun (fr_X3 140 (by decide)) _).trans f415
  have f419 := (congrFun (fr_X3 140 (by decide)) _).trans f416
  refine V.caast 6 5 (pc := 57) (z := 96) (o := 68) (x := 68) (y := 140) hG (isA.of (by decide +kernel)) (by decide) (by decide) rfl (isA.of (by decide +kernel)) (by decide) (by decide) rfl (sR_l rfl) (by decide) (by decide) dX0_init_57 ?_
  have z215 := z214.sRf (o := 68) (kz := 68) (x := 140) (by decide)
  have f420 := (st_ne (o := 68) (k := 68) (v := 140) (by decide)).trans f417
  have f421 := (st_ne (o := 68) (k := 68) (v := 140) (by decide)).trans f418
  have f422 := (st_ne (o := 68) (k := 68) (v := 140) (by decide)).trans f419
  refine V.iinc (pc := 58) (x := 68) (lv' := [(1, .int (sJ 69)), (0, .ref (sA Δ 67))]) hG dX0_init_58 0 rfl (by decide) rfl ?_
  refine V.goto (pc := 61) (tgt := 39) hG dX0_init_61 (by decide) ?_
  refine V.iload_n (pc := 39) (x := 69) hG dX0_init_39 rfl 0 rfl ?_
  refine V.bipush (pc := 40) hG dX0_init_40 (by decide) ?_
  refine V.icmp_ge (pc := 42) (tgt := 64) hG (sR_l rfl) (sR_l rfl) dX0_init_42 (by decide) (fun c1 => absurd c1 (by decide)) (fun _ => ?_)
  refine V.aload_n (pc := 45) hG dX0_init_45 rfl 1 rfl ?_
  refine V.getR (x := 68) (pc := 46) (ci := 2) (k := 0) (M := 5) (T := TX0) (o := 67) (kz := 0) hG (isA.of (by decide +kernel)) (by decide) (by decide) hin_X0 rfl (by decide) (by decide) rfl kw_349 rfl f420 (by decide) dX0_init_46 ?_
  refine V.iload_n (pc := 49) (x := 69) hG dX0_init_49 rfl 0 rfl ?_
  refine V.cnew (pc := 50) (ci := 5) (N := 13) (T := TX3) (ty := tyX3) hG hin_X3 rfl tyX3_ok kw_275 kw_277 kw_108 (by decide +kernel) (by decide) rfl defX3 (z215.z (by decide)) ⟨by decide, by decide⟩ dX0_init_50 ?_
  refine V.nn (n2 := 142) rfl ?_
  have z216 := z215.up (m := 142) (by omega)
  refine V.dup (pc := 53) hG dX0_init_53 rfl ?_
  refine V.ccallN (pc := 54) (n2 := 142) hG (ct_X3 l Δ (141) (isA.of (by decide +kernel))  (by decide) z216) mY_X3_init rfl kw_278 kw_279 ⟨by decide, by decide, by decide, by decide⟩ (Nat.le_of_ble_eq_true rfl) dX0_init_54 ?_
  have z217 := zf_X3 141 z216
  have f423 := (congrFun (fr_X3 141 (by decide)) _).trans f420
  have f424 := (congrFun (fr_X3 141 (by decide)) _).trans f421
  have f425 := (congrFun (fr_X3 141 (by decide)) _).trans f422
  refine V.caast 6 5 (pc := 57) (z := 96) (o := 68) (x := 69) (y := 141) hG (isA.of (by decide +kernel)) (by decide) (by decide) rfl (isA.of (by decide +kernel)) (by decide) (by decide) rfl (sR_l rfl) (by decide) (by decide) dX0_init_57 ?_
  have z218 := z217.sRf (o := 68) (kz := 69) (x := 141) (by decide)
  have f426 := (st_ne (o := 68) (k := 69) (v := 141) (by decide)).trans f423
  have f427 := (st_ne (o := 68) (k := 69) (v := 141) (by decide)).trans f424
  have f428 := (st_ne (o := 68) (k := 69) (v := 141) (by decide)).trans f425
  refine V.iinc (pc := 58) (x := 69) (lv' := [(1, .int (sJ 70)), (0, .ref (sA Δ 67))]) hG dX0_init_58 0 rfl (by decide) rfl ?_
  refine V.goto (pc := 61) (tgt := 39) hG dX0_init_61 (by decide) ?_
  refine V.iload_n (pc := 39) (x := 70) hG dX0_init_39 rfl 0 rfl ?_
  refine V.bipush (pc := 40) hG dX0_init_40 (by decide) ?_
  refine V.icmp_ge (pc := 42) (tgt := 64) hG (sR_l rfl) (sR_l rfl) dX0_init_42 (by decide) (fun c1 => absurd c1 (by decide)) (fun _ => ?_)
  refine V.aload_n (pc := 45) hG dX0_init_45 rfl 1 rfl ?_
  refine V.getR (x := 68) (pc := 46) (ci := 2) (k := 0) (M := 5) (T := TX0) (o := 67) (kz := 0) hG (isA.of (by decide +kernel)) (by decide) (by decide) hin_X0 rfl (by decide) (by decide) rfl kw_349 rfl f426 (by decide) dX0_init_46 ?_
  refine V.iload_n (pc := 49) (x := 70) hG dX0_init_49 rfl 0 rfl ?_
  refine V.cnew (pc := 50) (ci := 5) (N := 13) (T := TX3) (ty := tyX3) hG hin_X3 rfl tyX3_ok kw_275 kw_277 kw_108 (by decide +kernel) (by decide) rfl defX3 (z218.z (by decide)) ⟨by decide, by decide⟩ dX0_init_50 ?_
  refine V.nn (n2 := 143) rfl ?_
  have z219 := z218.up (m := 143) (by omega)
  refine V.dup (pc := 53) hG dX0_init_53 rfl ?_
  refine V.ccallN (pc := 54) (n2 := 143) hG (ct_X3 l Δ (142) (isA.of (by decide +kernel))  (by decide) z219) mY_X3_init rfl kw_278 kw_279 ⟨by decide, by decide, by decide, by decide⟩ (Nat.le_of_ble_eq_true rfl) dX0_init_54 ?_
  have z220 := zf_X3 142 z219
  have f429 := (congrFun (fr_X3 142 (by decide)) _).trans f426
  have f430 := (congrFun (fr_X3 142 (by decide)) _).trans f427
  have f431 := (congrFun (fr_X3 142 (by decide)) _).trans f428
  refine V.caast 6 5 (pc := 57) (z := 96) (o := 68) (x := 70) (y := 142) hG (isA.of (by decide +kernel)) (by decide) (by decide) rfl (isA.of (by decide +kernel)) (by decide) (by decide) rfl (sR_l rfl) (by decide) (by decide) dX0_init_57 ?_
  have z221 := z220.sRf (o := 68) (kz := 70) (x := 142) (by decide)
  have f432 := (st_ne (o := 68) (k := 70) (v := 142) (by decide)).trans f429
  have f433 := (st_ne (o := 68) (k := 70) (v := 142) (by decide)).trans f430
  have f434 := (st_ne (o := 68) (k := 70) (v := 142) (by decide)).trans f431
  refine V.iinc (pc := 58) (x := 70) (lv' := [(1, .int (sJ 71)), (0, .ref (sA Δ 67))]) hG dX0_init_58 0 rfl (by decide) rfl ?_
  refine V.goto (pc := 61) (tgt := 39) hG dX0_init_61 (by decide) ?_
  refine V.iload_n (pc := 39) (x := 71) hG dX0_init_39 rfl 0 rfl ?_
  refine V.bipush (pc := 40) hG dX0_init_40 (by decide) ?_
  refine V.icmp_ge (pc := 42) (tgt := 64) hG (sR_l rfl) (sR_l rfl) dX0_init_42 (by decide) (fun c1 => absurd c1 (by decide)) (fun _ => ?_)
  refine V.aload_n (pc := 45) hG dX0_init_45 rfl 1 rfl ?_
  refine V.getR (x := 68) (pc := 46) (ci := 2) (k := 0) (M := 5) (T := TX0) (o := 67) (kz := 0) hG (isA.of (by decide +kernel)) (by decide) (by decide) hin_X0 rfl (by decide) (by decide) rfl kw_349 rfl f432 (by decide) dX0_init_46 ?_
  refine V.iload_n (pc := 49) (x := 71) hG dX0_init_49 rfl 0 rfl ?_
  refine V.cnew (pc := 50) (ci := 5) (N := 13) (T := TX3) (ty := tyX3) hG hin_X3 rfl tyX3_ok kw_275 kw_277 kw_108 (by decide +kernel) (by decide) rfl defX3 (z221.z (by decide)) ⟨by decide, by decide⟩ dX0_init_50 ?_
  refine V.nn (n2 := 144) rfl ?_
  have z222 := z221.up (m := 144) (by omega)
  refine V.dup (pc := 53) hG dX0_init_53 rfl ?_
  refine V.ccallN (pc := 54) (n2 := 144) hG (ct_X3 l Δ (143) (isA.of (by decide +kernel))  (by decide) z222) mY_X3_init rfl kw_278 kw_279 ⟨by decide, by decide, by decide, by decide⟩ (Nat.le_of_ble_eq_true rfl) dX0_init_54 ?_
  have z223 := zf_X3 143 z222
  have f435 := (congrFun (fr_X3 143 (by decide)) _).trans f432
  have f436 := (congrFun (fr_X3 143 (by decide)) _).trans f433
  have f437 := (congrFun (fr_X3 143 (by decide)) _).trans f434
  refine V.caast 6 5 (pc := 57) (z := 96) (o := 68) (x := 71) (y := 143) hG (isA.of (by decide +kernel)) (by decide) (by decide) rfl (isA.of (by decide +kernel)) (by decide) (by decide) rfl (sR_l rfl) (by decide) (by decide) dX0_init_57 ?_
  have z224 := z223.sRf (o := 68) (kz := 71) (x := 143) (by decide)
  have f438 := (st_ne (o := 68) (k := 71) (v := 143) (by decide)).trans f435
  have f439 := (st_ne (o := 68) (k := 71) (v := 143) (by decide)).trans f436
  have f440 := (st_ne (o := 68) (k := 71) (v := 143) (by decide)).trans f437
  refine V.iinc (pc := 58) (x := 71) (lv' := [(1, .int (sJ 72)), (0, .ref (sA Δ 67))]) hG dX0_init_58 0 rfl (by decide) rfl ?_
  refine V.goto (pc := 61) (tgt := 39) hG dX0_init_61 (by decide) ?_
  refine V.iload_n (pc := 39) (x := 72) hG dX0_init_39 rfl 0 rfl ?_
  refine V.bipush (pc := 40) hG dX0_init_40 (by decide) ?_
  refine V.icmp_ge (pc := 42) (tgt := 64) hG (sR_l rfl) (sR_l rfl) dX0_init_42 (by decide) (fun c1 => absurd c1 (by decide)) (fun _ => ?_)
  refine V.aload_n (pc := 45) hG dX0_init_45 rfl 1 rfl ?_
  refine V.getR (x := 68) (pc := 46) (ci := 2) (k := 0) (M := 5) (T := TX0) (o := 67) (kz := 0) hG (isA.of (by decide +kernel)) (by decide) (by decide) hin_X0 rfl (by decide) (by decide) rfl kw_349 rfl f438 (by decide) dX0_init_46 ?_
  refine V.iload_n (pc := 49) (x := 72) hG dX0_init_49 rfl 0 rfl ?_
  refine V.cnew (pc := 50) (ci := 5) (N := 13) (T := TX3) (ty := tyX3) hG hin_X3 rfl tyX3_ok kw_275 kw_277 kw_108 (by decide +kernel) (by decide) rfl defX3 (z224.z (by decide)) ⟨by decide, by decide⟩ dX0_init_50 ?_
  refine V.nn (n2 := 145) rfl ?_
  have z225 := z224.up (m := 145) (by omega)
  refine V.dup (pc := 53) hG dX0_init_53 rfl ?_
  refine V.ccallN (pc := 54) (n2 := 145) hG (ct_X3 l Δ (144) (isA.of (by decide +kernel))  (by decide) z225) mY_X3_init rfl kw_278 kw_279 ⟨by decide, by decide, by decide, by decide⟩ (Nat.le_of_ble_eq_true rfl) dX0_init_54 ?_
  have z226 := zf_X3 144 z225
  have f441 := (congrFun (fr_X3 144 (by decide)) _).trans f438
  have f442 := (congrFun (fr_X3 144 (by decide)) _).trans f439
  have f443 := (congrFun (fr_X3 144 (by decide)) _).trans f440
  refine V.caast 6 5 (pc := 57) (z := 96) (o := 68) (x := 72) (y := 144) hG (isA.of (by decide +kernel)) (by decide) (by decide) rfl (isA.of (by decide +kernel)) (by decide) (by decide) rfl (sR_l rfl) (by decide) (by decide) dX0_init_57 ?_
  have z227 := z226.sRf (o := 68) (kz := 72) (x := 144) (by decide)
  have f444 := (st_ne (o := 68) (k := 72) (v := 144) (by decide)).trans f441
  have f445 := (st_ne (o := 68) (k := 72) (v := 144) (by decide)).trans f442
  have f446 := (st_ne (o := 68) (k := 72) (v := 144) (by decide)).trans f443
  refine V.iinc (pc := 58) (x := 72) (lv' := [(1, .int (sJ 73)), (0, .ref (sA Δ 67))]) hG dX0_init_58 0 rfl (by decide) rfl ?_
  refine V.goto (pc := 61) (tgt := 39) hG dX0_init_61 (by decide) ?_
  refine V.iload_n (pc := 39) (x := 73) hG dX0_init_39 rfl 0 rfl ?_
  refine V.bipush (pc := 40) hG dX0_init_40 (by decide) ?_
  refine V.icmp_ge (pc := 42) (tgt := 64) hG (sR_l rfl) (sR_l rfl) dX0_init_42 (by decide) (fun c1 => absurd c1 (by decide)) (fun _ => ?_)
  refine V.aload_n (pc := 45) hG dX0_init_45 rfl 1 rfl ?_
  refine V.getR (x := 68) (pc := 46) (ci := 2) (k := 0) (M := 5) (T := TX0) (o := 67) (kz := 0) hG (isA.of (by decide +kernel)) (by decide) (by decide) hin_X0 rfl (by decide) (by decide) rfl kw_349 rfl f444 (by decide) dX0_init_46 ?_
  refine V.iload_n (pc := 49) (x := 73) hG dX0_init_49 rfl 0 rfl ?_
  refine V.cnew (pc := 50) (ci := 5) (N := 13) (T := TX3) (ty := tyX3) hG hin_X3 rfl tyX3_ok kw_275 kw_277 kw_108 (by decide +kernel) (by decide) rfl defX3 (z227.z (by decide)) ⟨by decide, by decide⟩ dX0_init_50 ?_
  refine V.nn (n2 := 146) rfl ?_
  have z228 := z227.up (m := 146) (by omega)
  refine V.dup (pc := 53) hG dX0_init_53 rfl ?_
  refine V.ccallN (pc := 54) (n2 := 146) hG (ct_X3 l Δ (145) (isA.of (by decide +kernel))  (by decide) z228) mY_X3_init rfl kw_278 kw_279 ⟨by decide, by decide, by decide, by decide⟩ (Nat.le_of_ble_eq_true rfl) dX0_init_54 ?_
  have z229 := zf_X3 145 z228
  have f447 := (congrFun (fr_X3 145 (by decide)) _).trans f444
  have f448 := (congrFun (fr_X3 145 (by decide)) _).trans f445
  have f449 := (congrFun (fr_X3 145 (by decide)) _).trans f446
  refine V.caast 6 5 (pc := 57) (z := 96) (o := 68) (x := 73) (y := 145) hG (isA.of (by decide +kernel)) (by decide) (by decide) rfl (isA.of (by decide +kernel)) (by decide) (by decide) rfl (sR_l rfl) (by decide) (by decide) dX0_init_57 ?_
  have z230 := z229.sRf (o := 68) (kz := 73) (x := 145) (by decide)
  have f450 := (st_ne (o := 68) (k := 73) (v := 145) (by decide)).trans f447
  have f451 := (st_ne (o := 68) (k := 73) (v := 145) (by decide)).trans f448
  have f452 := (st_ne (o := 68) (k := 73) (v := 145) (by decide)).trans f449
  refine V.iinc (pc := 58) (x := 73) (lv' := [(1, .int (sJ 74)), (0, .ref (sA Δ 67))]) hG dX0_init_58 0 rfl (by decide) rfl ?_
  refine V.goto (pc := 61) (tgt := 39) hG dX0_init_61 (by decide) ?_
  refine V.iload_n (pc := 39) (x := 74) hG dX0_init_39 rfl 0 rfl ?_
  refine V.bipush (pc := 40) hG dX0_init_40 (by decide) ?_
  refine V.icmp_ge (pc := 42) (tgt := 64) hG (sR_l rfl) (sR_l rfl) dX0_init_42 (by decide) (fun c1 => absurd c1 (by decide)) (fun _ => ?_)
  refine V.aload_n (pc := 45) hG dX0_init_45 rfl 1 rfl ?_
  refine V.getR (x := 68) (pc := 46) (ci := 2) (k := 0) (M := 5) (T := TX0) (o := 67) (kz := 0) hG (isA.of (by decide +kernel)) (by decide) (by decide) hin_X0 rfl (by decide) (by decide) rfl kw_349 rfl f450 (by decide) dX0_init_46 ?_
  refine V.iload_n (pc := 49) (x := 74) hG dX0_init_49 rfl 0 rfl ?_
  refine V.cnew (pc := 50) (ci := 5) (N := 13) (T := TX3) (ty := tyX3) hG hin_X3 rfl tyX3_ok kw_275 kw_277 kw_108 (by decide +kernel) (by decide) rfl defX3 (z230.z (by decide)) ⟨by decide, by decide⟩ dX0_init_50 ?_
  refine V.nn (n2 := 147) rfl ?_
  have z231 := z230.up (m := 147) (by omega)
  refine V.dup (pc := 53) hG dX0_init_53 rfl ?_
  refine V.ccallN (pc := 54) (n2 := 147) hG (ct_X3 l Δ (146) (isA.of (by decide +kernel))  (by decide) z231) mY_X3_init rfl kw_278 kw_279 ⟨by decide, by decide, by decide, by decide⟩ (Nat.le_of_ble_eq_true rfl) dX0_init_54 ?_
  have z232 := zf_X3 146 z231
  have f453 := (congrFun (fr_X3 146 (by decide)) _).trans f450
  have f454 := (congrFun (fr_X3 146 (by decide)) _).trans f451
  have f455 := (congrFun (fr_X3 146 (by decide)) _).trans f452
  refine V.caast 6 5 (pc := 57) (z := 96) (o := 68) (x := 74) (y := 146) hG (isA.of (by decide +kernel)) (by decide) (by decide) rfl (isA.of (by decide +kernel)) (by decide) (by decide) rfl (sR_l rfl) (by decide) (by decide) dX0_init_57 ?_
  have z233 := z232.sRf (o := 68) (kz := 74) (x := 146) (by decide)
  have f456 := (st_ne (o := 68) (k := 74) (v := 146) (by decide)).trans f453
  have f457 := (st_ne (o := 68) (k := 74) (v := 146) (by decide)).trans f454
  have f458 := (st_ne (o := 68) (k := 74) (v := 146) (by decide)).trans f455
  refine V.iinc (pc := 58) (x := 74) (lv' := [(1, .int (sJ 75)), (0, .ref (sA Δ 67))]) hG dX0_init_58 0 rfl (by decide) rfl ?_
  refine V.goto (pc := 61) (tgt := 39) hG dX0_init_61 (by decide) ?_
  refine V.iload_n (pc := 39) (x := 75) hG dX0_init_39 rfl 0 rfl ?_
  refine V.bipush (pc := 40) hG dX0_init_40 (by decide) ?_
  refine V.icmp_ge (pc := 42) (tgt := 64) hG (sR_l rfl) (sR_l rfl) dX0_init_42 (by decide) (fun c1 => absurd c1 (by decide)) (fun _ => ?_)
  refine V.aload_n (pc := 45) hG dX0_init_45 rfl 1 rfl ?_
  refine V.getR (x := 68) (pc := 46) (ci := 2) (k := 0) (M := 5) (T := TX0) (o := 67) (kz := 0) hG (isA.of (by decide +kernel)) (by decide) (by decide) hin_X0 rfl (by decide) (by decide) rfl kw_349 rfl f456 (by decide) dX0_init_46 ?_
  refine V.iload_n (pc := 49) (x := 75) hG dX0_init_49 rfl 0 rfl ?_
  refine V.cnew (pc := 50) (ci := 5) (N := 13) (T := TX3) (ty := tyX3) hG hin_X3 rfl tyX3_ok kw_275 kw_277 kw_108 (by decide +kernel) (by decide) rfl defX3 (z233.z (by decide)) ⟨by decide, by decide⟩ dX0_init_50 ?_
  refine V.nn (n2 := 148) rfl ?_
  have z234 := z233.up (m := 148) (by omega)
  refine V.dup (pc := 53) hG dX0_init_53 rfl ?_
  refine V.ccallN (pc := 54) (n2 := 148) hG (ct_X3 l Δ (147) (isA.of (by decide +kernel))  (by decide) z234) mY_X3_init rfl kw_278 kw_279 ⟨by decide, by decide, by decide, by decide⟩ (Nat.le_of_ble_eq_true rfl) dX0_init_54 ?_
  have z235 := zf_X3 147 z234
  have f459 := (congrFun (fr_X3 147 (by decide)) _).trans f456
  have f460 := (congrFun (fr_X3 147 (by decide)) _).trans f457
  have f461 := (congrFun (fr_X3 147 (by decide)) _).trans f458
  refine V.caast 6 5 (pc := 57) (z := 96) (o := 68) (x := 75) (y := 147) hG (isA.of (by decide +kernel)) (by decide) (by decide) rfl (isA.of (by decide +kernel)) (by decide) (by decide) rfl (sR_l rfl) (by decide) (by decide) dX0_init_57 ?_
  have z236 := z235.sRf (o := 68) (kz := 75) (x := 147) (by decide)
  have f462 := (st_ne (o := 68) (k := 75) (v := 147) (by decide)).trans f459
  have f463 := (st_ne (o := 68) (k := 75) (v := 147) (by decide)).trans f460
  have f464 := (st_ne (o := 68) (k := 75) (v := 147) (by decide)).trans f461
  refine V.iinc (pc := 58) (x := 75) (lv' := [(1, .int (sJ 76)), (0, .ref (sA Δ 67))]) hG dX0_init_58 0 rfl (by decide) rfl ?_
  refine V.goto (pc := 61) (tgt := 39) hG dX0_init_61 (by decide) ?_
  refine V.iload_n (pc := 39) (x := 76) hG dX0_init_39 rfl 0 rfl ?_
  refine V.bipush (pc := 40) hG dX0_init_40 (by decide) ?_
  refine V.icmp_ge (pc := 42) (tgt := 64) hG (sR_l rfl) (sR_l rfl) dX0_init_42 (by decide) (fun c1 => absurd c1 (by decide)) (fun _ => ?_)
  refine V.aload_n (pc := 45) hG dX0_init_45 rfl 1 rfl ?_
  refine V.getR (x := 68) (pc := 46) (ci := 2) (k := 0) (M := 5) (T := TX0) (o := 67) (kz := 0) hG (isA.of (by decide +kernel)) (by decide) (by decide) hin_X0 rfl (by decide) (by decide) rfl kw_349 rfl f462 (by decide) dX0_init_46 ?_
  refine V.iload_n (pc := 49) (x := 76) hG dX0_init_49 rfl 0 rfl ?_
  refine V.cnew (pc := 50) (ci := 5) (N := 13) (T := TX3) (ty := tyX3) hG hin_X3 rfl tyX3_ok kw_275 kw_277 kw_108 (by decide +kernel) (by decide) rfl defX3 (z236.z (by decide)) ⟨by decide, by decide⟩ dX0_init_50 ?_
  refine V.nn (n2 := 149) rfl ?_
  have z237 := z236.up (m := 149) (by omega)
  refine V.dup (pc := 53) hG dX0_init_53 rfl ?_
  refine V.ccallN (pc := 54) (n2 := 149) hG (ct_X3 l Δ (148) (isA.of (by decide +kernel))  (by decide) z237) mY_X3_init rfl kw_278 kw_279 ⟨by decide, by decide, by decide, by decide⟩ (Nat.le_of_ble_eq_true rfl) dX0_init_54 ?_
  have z238 := zf_X3 148 z237
  have f465 := (congrFun (fr_X3 148 (by decide)) _).trans f462
  have f466 := (congrFun (fr_X3 148 (by decide)) _).trans f463
  have f467 := (congrFun (fr_X3 148 (by decide)) _).trans f464
  refine V.caast 6 5 (pc := 57) (z := 96) (o := 68) (x := 76) (y := 148) hG (isA.of (by decide +kernel)) (by decide) (by decide) rfl (isA.of (by decide +kernel)) (by decide) (by decide) rfl (sR_l rfl) (by decide) (by decide) dX0_init_57 ?_
  have z239 := z238.sRf (o := 68) (kz := 76) (x := 148) (by decide)
  have f468 := (st_ne (o := 68) (k := 76) (v := 148) (by decide)).trans f465
  have f469 := (st_ne (o := 68) (k := 76) (v := 148) (by decide)).trans f466
  have f470 := (st_ne (o := 68) (k := 76) (v := 148) (by decide)).trans f467
  refine V.iinc (pc := 58) (x := 76) (lv' := [(1, .int (sJ 77)), (0, .ref (sA Δ 67))]) hG dX0_init_58 0 rfl (by decide) rfl ?_
  refine V.goto (pc := 61) (tgt := 39) hG dX0_init_61 (by decide) ?_
  refine V.iload_n (pc := 39) (x := 77) hG dX0_init_39 rfl 0 rfl ?_
  refine V.bipush (pc := 40) hG dX0_init_40 (by decide) ?_
  refine V.icmp_ge (pc := 42) (tgt := 64) hG (sR_l rfl) (sR_l rfl) dX0_init_42 (by decide) (fun c1 => absurd c1 (by decide)) (fun _ => ?_)
  refine V.aload_n (pc := 45) hG dX0_init_45 rfl 1 rfl ?_
  refine V.getR (x := 68) (pc := 46) (ci := 2) (k := 0) (M := 5) (T := TX0) (o := 67) (kz := 0) hG (isA.of (by decide +kernel)) (by decide) (by decide) hin_X0 rfl (by decide) (by decide) rfl kw_349 rfl f468 (by decide) dX0_init_46 ?_
  refine V.iload_n (pc := 49) (x := 77) hG dX0_init_49 rfl 0 rfl ?_
  refine V.cnew (pc := 50) (ci := 5) (N := 13) (T := TX3) (ty := tyX3) hG hin_X3 rfl tyX3_ok kw_275 kw_277 kw_108 (by decide +kernel) (by decide) rfl defX3 (z239.z (by decide)) ⟨by decide, by decide⟩ dX0_init_50 ?_
  refine V.nn (n2 := 150) rfl ?_
  have z240 := z239.up (m := 150) (by omega)
  refine V.dup (pc := 53) hG dX0_init_53 rfl ?_
  refine V.ccallN (pc := 54) (n2 := 150) hG (ct_X3 l Δ (149) (isA.of (by decide +kernel))  (by decide) z240) mY_X3_init rfl kw_278 kw_279 ⟨by decide, by decide, by decide, by decide⟩ (Nat.le_of_ble_eq_true rfl) dX0_init_54 ?_
  have z241 := zf_X3 149 z240
  have f471 := (congrFun (fr_X3 149 (by decide)) _).trans f468
  have f472 := (congrFun (fr_X3 149 (by decide)) _).trans f469
  have f473 := (congrFun (fr_X3 149 (by decide)) _).trans f470
  refine V.caast 6 5 (pc := 57) (z := 96) (o := 68) (x := 77) (y := 149) hG (isA.of (by decide +kernel)) (by decide) (by decide) rfl (isA.of (by decide +kernel)) (by decide) (by decide) rfl (sR_l rfl) (by decide) (by decide) dX0_init_57 ?_
  have z242 := z241.sRf (o := 68) (kz := 77) (x := 149) (by decide)
  have f474 := (st_ne (o := 68) (k := 77) (v := 149) (by decide)).trans f471
  have f475 := (st_ne (o := 68) (k := 77) (v := 149) (by decide)).trans f472
  have f476 := (st_ne (o := 68) (k := 77) (v := 149) (by decide)).trans f473
  refine V.iinc (pc := 58) (x := 77) (lv' := [(1, .int (sJ 78)), (0, .ref (sA Δ 67))]) hG dX0_init_58 0 rfl (by decide) rfl ?_
  refine V.goto (pc := 61) (tgt := 39) hG dX0_init_61 (by decide) ?_
  refine V.iload_n (pc := 39) (x := 78) hG dX0_init_39 rfl 0 rfl ?_
  refine V.bipush (pc := 40) hG dX0_init_40 (by decide) ?_
  refine V.icmp_ge (pc := 42) (tgt := 64) hG (sR_l rfl) (sR_l rfl) dX0_init_42 (by decide) (fun c1 => absurd c1 (by decide)) (fun _ => ?_)
  refine V.aload_n (pc := 45) hG dX0_init_45 rfl 1 rfl ?_
  refine V.getR (x := 68) (pc := 46) (ci := 2) (k := 0) (M := 5) (T := TX0) (o := 67) (kz := 0) hG (isA.of (by decide +kernel)) (by decide) (by decide) hin_X0 rfl (by decide) (by decide) rfl kw_349 rfl f474 (by decide) dX0_init_46 ?_
  refine V.iload_n (pc := 49) (x := 78) hG dX0_init_49 rfl 0 rfl ?_
  refine V.cnew (pc := 50) (ci := 5) (N := 13) (T := TX3) (ty := tyX3) hG hin_X3 rfl tyX3_ok kw_275 kw_277 kw_108 (by decide +kernel) (by decide) rfl defX3 (z242.z (by decide)) ⟨by decide, by decide⟩ dX0_init_50 ?_
  refine V.nn (n2 := 151) rfl ?_
  have z243 := z242.up (m := 151) (by omega)
  refine V.dup (pc := 53) hG dX0_init_53 rfl ?_
  refine V.ccallN (pc := 54) (n2 := 151) hG (ct_X3 l Δ (150) (isA.of (by decide +kernel))  (by decide) z243) mY_X3_init rfl kw_278 kw_279 ⟨by decide, by decide, by decide, by decide⟩ (Nat.le_of_ble_eq_true rfl) dX0_init_54 ?_
  have z244 := zf_X3 150 z243
  have f477 := (congrFun (fr_X3 150 (by decide)) _).trans f474
  have f478 := (congrFun (fr_X3 150 (by decide)) _).trans f475
  have f479 := (congrFun (fr_X3 150 (by decide)) _).trans f476
  refine V.caast 6 5 (pc := 57) (z := 96) (o := 68) (x := 78) (y := 150) hG (isA.of (by decide +kernel)) (by decide) (by decide) rfl (isA.of (by decide +kernel)) (by decide) (by decide) rfl (sR_l rfl) (by decide) (by decide) dX0_init_57 ?_
  have z245 := z244.sRf (o := 68) (kz := 78) (x := 150) (by decide)
  have f480 := (st_ne (o := 68) (k := 78) (v := 150) (by decide)).trans f477
  have f481 := (st_ne (o := 68) (k := 78) (v := 150) (by decide)).trans f478
  have f482 := (st_ne (o := 68) (k := 78) (v := 150) (by decide)).trans f479
  refine V.iinc (pc := 58) (x := 78) (lv' := [(1, .int (sJ 79)), (0, .ref (sA Δ 67))]) hG dX0_init_58 0 rfl (by decide) rfl ?_
  refine V.goto (pc := 61) (tgt := 39) hG dX0_init_61 (by decide) ?_
  refine V.iload_n (pc := 39) (x := 79) hG dX0_init_39 rfl 0 rfl ?_
  refine V.bipush (pc := 40) hG dX0_init_40 (by decide) ?_
  refine V.icmp_ge (pc := 42) (tgt := 64) hG (sR_l rfl) (sR_l rfl) dX0_init_42 (by decide) (fun c1 => absurd c1 (by decide)) (fun _ => ?_)
  refine V.aload_n (pc := 45) hG dX0_init_45 rfl 1 rfl ?_
  refine V.getR (x := 68) (pc := 46) (ci := 2) (k := 0) (M := 5) (T := TX0) (o := 67) (kz := 0) hG (isA.of (by decide +kernel)) (by decide) (by decide) hin_X0 rfl (by decide) (by decide) rfl kw_349 rfl f480 (by decide) dX0_init_46 ?_
  refine V.iload_n (pc := 49) (x := 79) hG dX0_init_49 rfl 0 rfl ?_
  refine V.cnew (pc := 50) (ci := 5) (N := 13) (T := TX3) (ty := tyX3) hG hin_X3 rfl tyX3_ok kw_275 kw_277 kw_108 (by decide +kernel) (by decide) rfl defX3 (z245.z (by decide)) ⟨by decide, by decide⟩ dX0_init_50 ?_
  refine V.nn (n2 := 152) rfl ?_
  have z246 := z245.up (m := 152) (by omega)
  refine V.dup (pc := 53) hG dX0_init_53 rfl ?_
  refine V.ccallN (pc := 54) (n2 := 152) hG (ct_X3 l Δ (151) (isA.of (by decide +kernel))  (by decide) z246) mY_X3_init rfl kw_278 kw_279 ⟨by decide, by decide, by decide, by decide⟩ (Nat.le_of_ble_eq_true rfl) dX0_init_54 ?_
  have z247 := zf_X3 151 z246
  have f483 := (congrFun (fr_X3 151 (by decide)) _).trans f480
  have f484 := (congrFun (fr_X3 151 (by decide)) _).trans f481
  have f485 := (congrFun (fr_X3 151 (by decide)) _).trans f482
  refine V.caast 6 5 (pc := 57) (z := 96) (o := 68) (x := 79) (y := 151) hG (isA.of (by decide +kernel)) (by decide) (by decide) rfl (isA.of (by decide +kernel)) (by decide) (by decide) rfl (sR_l rfl) (by decide) (by decide) dX0_init_57 ?_
  have z248 := z247.sRf (o := 68) (kz := 79) (x := 151) (by decide)
  have f486 := (st_ne (o := 68) (k := 79) (v := 151) (by decide)).trans f483
  have f487 := (st_ne (o := 68) (k := 79) (v := 151) (by decide)).trans f484
  have f488 := (st_ne (o := 68) (k := 79) (v := 151) (by decide)).trans f485
  refine V.iinc (pc := 58) (x := 79) (lv' := [(1, .int (sJ 80)), (0, .ref (sA Δ 67))]) hG dX0_init_58 0 rfl (by decide) rfl ?_
  refine V.goto (pc := 61) (tgt := 39) hG dX0_init_61 (by decide) ?_
  refine V.iload_n (pc := 39) (x := 80) hG dX0_init_39 rfl 0 rfl ?_
  refine V.bipush (pc := 40) hG dX0_init_40 (by decide) ?_
  refine V.icmp_ge (pc := 42) (tgt := 64) hG (sR_l rfl) (sR_l rfl) dX0_init_42 (by decide) (fun c1 => absurd c1 (by decide)) (fun _ => ?_)
  refine V.aload_n (pc := 45) hG dX0_init_45 rfl 1 rfl ?_
  refine V.getR (x := 68) (pc := 46) (ci := 2) (k := 0) (M := 5) (T := TX0) (o := 67) (kz := 0) hG (isA.of (by decide +kernel)) (by decide) (by decide) hin_X0 rfl (by decide) (by decide) rfl kw_349 rfl f486 (by decide) dX0_init_46 ?_
  refine V.iload_n (pc := 49) (x := 80) hG dX0_init_49 rfl 0 rfl ?_
  refine V.cnew (pc := 50) (ci := 5) (N := 13) (T := TX3) (ty := tyX3) hG hin_X3 rfl tyX3_ok kw_275 kw_277 kw_108 (by decide +kernel) (by decide) rfl defX3 (z248.z (by decide)) ⟨by decide, by decide⟩ dX0_init_50 ?_
  refine V.nn (n2 := 153) rfl ?_
  have z249 := z248.up (m := 153) (by omega)
  refine V.dup (pc := 53) hG dX0_init_53 rfl ?_
  refine V.ccallN (pc := 54) (n2 := 153) hG (ct_X3 l Δ (152) (isA.of (by decide +kernel))  (by decide) z249) mY_X3_init rfl kw_278 kw_279 ⟨by decide, by decide, by decide, by decide⟩ (Nat.le_of_ble_eq_true rfl) dX0_init_54 ?_
  have z250 := zf_X3 152 z249
  have f489 := (congrFun (fr_X3 152 (by decide)) _).trans f486
  have f490 := (congrFun (fr_X3 152 (by decide)) _).trans f487
  have f491 := (congrFun (fr_X3 152 (by decide)) _).trans f488
  refine V.caast 6 5 (pc := 57) (z := 96) (o := 68) (x := 80) (y := 152) hG (isA.of (by decide +kernel)) (by decide) (by decide) rfl (isA.of (by decide +kernel)) (by decide) (by decide) rfl (sR_l rfl) (by decide) (by decide) dX0_init_57 ?_
  have z251 := z250.sRf (o := 68) (kz := 80) (x := 152) (by decide)
  have f492 := (st_ne (o := 68) (k := 80) (v := 152) (by decide)).trans f489
  have f493 := (st_ne (o := 68) (k := 80) (v := 152) (by decide)).trans f490
  have f494 := (st_ne (o := 68) (k := 80) (v := 152) (by decide)).trans f491
  refine V.iinc (pc := 58) (x := 80) (lv' := [(1, .int (sJ 81)), (0, .ref (sA Δ 67))]) hG dX0_init_58 0 rfl (by decide) rfl ?_
  refine V.goto (pc := 61) (tgt := 39) hG dX0_init_61 (by decide) ?_
  refine V.iload_n (pc := 39) (x := 81) hG dX0_init_39 rfl 0 rfl ?_
  refine V.bipush (pc := 40) hG dX0_init_40 (by decide) ?_
  refine V.icmp_ge (pc := 42) (tgt := 64) hG (sR_l rfl) (sR_l rfl) dX0_init_42 (by decide) (fun c1 => absurd c1 (by decide)) (fun _ => ?_)
  refine V.aload_n (pc := 45) hG dX0_init_45 rfl 1 rfl ?_
  refine V.getR (x := 68) (pc := 46) (ci := 2) (k := 0) (M := 5) (T := TX0) (o := 67) (kz := 0) hG (isA.of (by decide +kernel)) (by decide) (by decide) hin_X0 rfl (by decide) (by decide) rfl kw_349 rfl f492 (by decide) dX0_init_46 ?_
  refine V.iload_n (pc := 49) (x := 81) hG dX0_init_49 rfl 0 rfl ?_
  refine V.cnew (pc := 50) (ci := 5) (N := 13) (T := TX3) (ty := tyX3) hG hin_X3 rfl tyX3_ok kw_275 kw_277 kw_108 (by decide +kernel) (by decide) rfl defX3 (z251.z (by decide)) ⟨by decide, by decide⟩ dX0_init_50 ?_
  refine V.nn (n2 := 154) rfl ?_
  have z252 := z251.up (m := 154) (by omega)
  refine V.dup (pc := 53) hG dX0_init_53 rfl ?_
  refine V.ccallN (pc := 54) (n2 := 154) hG (ct_X3 l Δ (153) (isA.of (by decide +kernel))  (by decide) z252) mY_X3_init rfl kw_278 kw_279 ⟨by decide, by decide, by decide, by decide⟩ (Nat.le_of_ble_eq_true rfl) dX0_init_54 ?_
  have z253 := zf_X3 153 z252
  have f495 := (congrFun (fr_X3 153 (by decide)) _).trans f492
  have f496 := (congrFun (fr_X3 153 (by decide)) _).trans f493
  have f497 := (congrFun (fr_X3 153 (by decide)) _).trans f494
  refine V.caast 6 5 (pc := 57) (z := 96) (o := 68) (x := 81) (y := 153) hG (isA.of (by decide +kernel)) (by decide) (by decide) rfl (isA.of (by decide +kernel)) (by decide) (by decide) rfl (sR_l rfl) (by decide) (by decide) dX0_init_57 ?_
  have z254 := z253.sRf (o := 68) (kz := 81) (x := 153) (by decide)
  have f498 := (st_ne (o := 68) (k := 81) (v := 153) (by decide)).trans f495
  have f499 := (st_ne (o := 68) (k := 81) (v := 153) (by decide)).trans f496
  have f500 := (st_ne (o := 68) (k := 81) (v := 153) (by decide)).trans f497
  refine V.iinc (pc := 58) (x := 81) (lv' := [(1, .int (sJ 82)), (0, .ref (sA Δ 67))]) hG dX0_init_58 0 rfl (by decide) rfl ?_
  refine V.goto (pc := 61) (tgt := 39) hG dX0_init_61 (by decide) ?_
  refine V.iload_n (pc := 39) (x := 82) hG dX0_init_39 rfl 0 rfl ?_
  refine V.bipush (pc := 40) hG dX0_init_40 (by decide) ?_
  refine V.icmp_ge (pc := 42) (tgt := 64) hG (sR_l rfl) (sR_l rfl) dX0_init_42 (by decide) (fun c1 => absurd c1 (by decide)) (fun _ => ?_)
  refine V.aload_n (pc := 45) hG dX0_init_45 rfl 1 rfl ?_
  refine V.getR (x := 68) (pc := 46) (ci := 2) (k := 0) (M := 5) (T := TX0) (o := 67) (kz := 0) hG (isA.of (by decide +kernel)) (by decide) (by decide) hin_X0 rfl (by decide) (by decide) rfl kw_349 rfl f498 (by decide) dX0_init_46 ?_
  refine V.iload_n (pc := 49) (x := 82) hG dX0_init_49 rfl 0 rfl ?_
  refine V.cnew (pc := 50) (ci := 5) (N := 13) (T := TX3) (ty := tyX3) hG hin_X3 rfl tyX3_ok kw_275 kw_277 kw_108 (by decide +kernel) (by decide) rfl defX3 (z254.z (by decide)) ⟨by decide, by decide⟩ dX0_init_50 ?_
  refine V.nn (n2 := 155) rfl ?_
  have z255 := z254.up (m := 155) (by omega)
  refine V.dup (pc := 53) hG dX0_init_53 rfl ?_
  refine V.ccallN (pc := 54) (n2 := 155) hG (ct_X3 l Δ (154) (isA.of (by decide +kernel))  (by decide) z255) mY_X3_init rfl kw_278 kw_279 ⟨by decide, by decide, by decide, by decide⟩ (Nat.le_of_ble_eq_true rfl) dX0_init_54 ?_
  have z256 := zf_X3 154 z255
  have f501 := (congrFun (fr_X3 154 (by decide)) _).trans f498
  have f502 := (congrFun (fr_X3 154 (by decide)) _).trans f499
  have f503 := (congrFun (fr_X3 154 (by decide)) _).trans f500
  refine V.caast 6 5 (pc := 57) (z := 96) (o := 68) (x := 82) (y := 154) hG (isA.of (by decide +kernel)) (by decide) (by decide) rfl (isA.of (by decide +kernel)) (by decide) (by decide) rfl (sR_l rfl) (by decide) (by decide) dX0_init_57 ?_
  have z257 := z256.sRf (o := 68) (kz := 82) (x := 154) (by decide)
  have f504 := (st_ne (o := 68) (k := 82) (v := 154) (by decide)).trans f501
  have f505 := (st_ne (o := 68) (k := 82) (v := 154) (by decide)).trans f502
  have f506 := (st_ne (o := 68) (k := 82) (v := 154) (by decide)).trans f503
  refine V.iinc (pc := 58) (x := 82) (lv' := [(1, .int (sJ 83)), (0, .ref (sA Δ 67))]) hG dX0_init_58 0 rfl (by decide) rfl ?_
  refine V.goto (pc := 61) (tgt := 39) hG dX0_init_61 (by decide) ?_
  refine V.iload_n (pc := 39) (x := 83) hG dX0_init_39 rfl 0 rfl ?_
  refine V.bipush (pc := 40) hG dX0_init_40 (by decide) ?_
  refine V.icmp_ge (pc := 42) (tgt := 64) hG (sR_l rfl) (sR_l rfl) dX0_init_42 (by decide) (fun c1 => absurd c1 (by decide)) (fun _ => ?_)
  refine V.aload_n (pc := 45) hG dX0_init_45 rfl 1 rfl ?_
  refine V.getR (x := 68) (pc := 46) (ci := 2) (k := 0) (M := 5) (T := TX0) (o := 67) (kz := 0) hG (isA.of (by decide +kernel)) (by decide) (by decide) hin_X0 rfl (by decide) (by decide) rfl kw_349 rfl f504 (by decide) dX0_init_46 ?_
  refine V.iload_n (pc := 49) (x := 83) hG dX0_init_49 rfl 0 rfl ?_
  refine V.cnew (pc := 50) (ci := 5) (N := 13) (T := TX3) (ty := tyX3) hG hin_X3 rfl tyX3_ok kw_275 kw_277 kw_108 (by decide +kernel) (by decide) rfl defX3 (z257.z (by decide)) ⟨by decide, by decide⟩ dX0_init_50 ?_
  refine V.nn (n2 := 156) rfl ?_
  have z258 := z257.up (m := 156) (by omega)
  refine V.dup (pc := 53) hG dX0_init_53 rfl ?_
  refine V.ccallN (pc := 54) (n2 := 156) hG (ct_X3 l Δ (155) (isA.of (by decide +kernel))  (by decide) z258) mY_X3_init rfl kw_278 kw_279 ⟨by decide, by decide, by decide, by decide⟩ (Nat.le_of_ble_eq_true rfl) dX0_init_54 ?_
  have z259 := zf_X3 155 z258
  have f507 := (congrFun (fr_X3 155 (by decide)) _).trans f504
  have f508 := (congrFun (fr_X3 155 (by decide)) _).trans f505
  have f509 := (congrFun (fr_X3 155 (by decide)) _).trans f506
  refine V.caast 6 5 (pc := 57) (z := 96) (o := 68) (x := 83) (y := 155) hG (isA.of (by decide +kernel)) (by decide) (by decide) rfl (isA.of (by decide +kernel)) (by decide) (by decide) rfl (sR_l rfl) (by decide) (by decide) dX0_init_57 ?_
  have z260 := z259.sRf (o := 68) (kz := 83) (x := 155) (by decide)
  have f510 := (st_ne (o := 68) (k := 83) (v := 155) (by decide)).trans f507
  have f511 := (st_ne (o := 68) (k := 83) (v := 155) (by decide)).trans f508
  have f512 := (st_ne (o := 68) (k := 83) (v := 155) (by decide)).trans f509
  refine V.iinc (pc := 58) (x := 83) (lv' := [(1, .int (sJ 84)), (0, .ref (sA Δ 67))]) hG dX0_init_58 0 rfl (by decide) rfl ?_
  refine V.goto (pc := 61) (tgt := 39) hG dX0_init_61 (by decide) ?_
  refine V.iload_n (pc := 39) (x := 84) hG dX0_init_39 rfl 0 rfl ?_
  refine V.bipush (pc := 40) hG dX0_init_40 (by decide) ?_
  refine V.icmp_ge (pc := 42) (tgt := 64) hG (sR_l rfl) (sR_l rfl) dX0_init_42 (by decide) (fun c1 => absurd c1 (by decide)) (fun _ => ?_)
  refine V.aload_n (pc := 45) hG dX0_init_45 rfl 1 rfl ?_
  refine V.getR (x := 68) (pc := 46) (ci := 2) (k := 0) (M := 5) (T := TX0) (o := 67) (kz := 0) hG (isA.of (by decide +kernel)) (by decide) (by decide) hin_X0 rfl (by decide) (by decide) rfl kw_349 rfl f510 (by decide) dX0_init_46 ?_
  refine V.iload_n (pc := 49) (x := 84) hG dX0_init_49 rfl 0 rfl ?_
  refine V.cnew (pc := 50) (ci := 5) (N := 13) (T := TX3) (ty := tyX3) hG hin_X3 rfl tyX3_ok kw_275 kw_277 kw_108 (by decide +kernel) (by decide) rfl defX3 (z260.z (by decide)) ⟨by decide, by decide⟩ dX0_init_50 ?_
  refine V.nn (n2 := 157) rfl ?_
  have z261 := z260.up (m := 157) (by omega)
  refine V.dup (pc := 53) hG dX0_init_53 rfl ?_
  refine V.ccallN (pc := 54) (n2 := 157) hG (ct_X3 l Δ (156) (isA.of (by decide +kernel))  (by decide) z261) mY_X3_init rfl kw_278 kw_279 ⟨by decide, by decide, by decide, by decide⟩ (Nat.le_of_ble_eq_true rfl) dX0_init_54 ?_
  have z262 := zf_X3 156 z261
  have f513 := (congrFun (fr_X3 156 (by decide)) _).trans f510
  have f514 := (congrFun (fr_X3 156 (by decide)) _).trans f511
  have f515 := (congrFun (fr_X3 156 (by decide)) _).trans f512
  refine V.caast 6 5 (pc := 57) (z := 96) (o := 68) (x := 84) (y := 156) hG (isA.of (by decide +kernel)) (by decide) (by decide) rfl (isA.of (by decide +kernel)) (by decide) (by decide) rfl (sR_l rfl) (by decide) (by decide) dX0_init_57 ?_
  have z263 := z262.sRf (o := 68) (kz := 84) (x := 156) (by decide)
  have f516 := (st_ne (o := 68) (k := 84) (v := 156) (by decide)).trans f513
  have f517 := (st_ne (o := 68) (k := 84) (v := 156) (by decide)).trans f514
  have f518 := (st_ne (o := 68) (k := 84) (v := 156) (by decide)).trans f515
  refine V.iinc (pc := 58) (x := 84) (lv' := [(1, .int (sJ 85)), (0, .ref (sA Δ 67))]) hG dX0_init_58 0 rfl (by decide) rfl ?_
  refine V.goto (pc := 61) (tgt := 39) hG dX0_init_61 (by decide) ?_
  refine V.iload_n (pc := 39) (x := 85) hG dX0_init_39 rfl 0 rfl ?_
  refine V.bipush (pc := 40) hG dX0_init_40 (by decide) ?_
  refine V.icmp_ge (pc := 42) (tgt := 64) hG (sR_l rfl) (sR_l rfl) dX0_init_42 (by decide) (fun c1 => absurd c1 (by decide)) (fun _ => ?_)
  refine V.aload_n (pc := 45) hG dX0_init_45 rfl 1 rfl ?_
  refine V.getR (x := 68) (pc := 46) (ci := 2) (k := 0) (M := 5) (T := TX0) (o := 67) (kz := 0) hG (isA.of (by decide +kernel)) (by decide) (by decide) hin_X0 rfl (by decide) (by decide) rfl kw_349 rfl f516 (by decide) dX0_init_46 ?_
  refine V.iload_n (pc := 49) (x := 85) hG dX0_init_49 rfl 0 rfl ?_
  refine V.cnew (pc := 50) (ci := 5) (N := 13) (T := TX3) (ty := tyX3) hG hin_X3 rfl tyX3_ok kw_275 kw_277 kw_108 (by decide +kernel) (by decide) rfl defX3 (z263.z (by decide)) ⟨by decide, by decide⟩ dX0_init_50 ?_
  refine V.nn (n2 := 158) rfl ?_
  have z264 := z263.up (m := 158) (by omega)
  refine V.dup (pc := 53) hG dX0_init_53 rfl ?_
  refine V.ccallN (pc := 54) (n2 := 158) hG (ct_X3 l Δ (157) (isA.of (by decide +kernel))  (by decide) z264) mY_X3_init rfl kw_278 kw_279 ⟨by decide, by decide, by decide, by decide⟩ (Nat.le_of_ble_eq_true rfl) dX0_init_54 ?_
  have z265 := zf_X3 157 z264
  have f519 := (congrFun (fr_X3 157 (by decide)) _).trans f516
  have f520 := (congrFun (fr_X3 157 (by decide)) _).trans f517
  have f521 := (congrFun (fr_X3 157 (by decide)) _).trans f518
  refine V.caast 6 5 (pc := 57) (z := 96) (o := 68) (x := 85) (y := 157) hG (isA.of (by decide +kernel)) (by decide) (by decide) rfl (isA.of (by decide +kernel)) (by decide) (by decide) rfl (sR_l rfl) (by decide) (by decide) dX0_init_57 ?_
  have z266 := z265.sRf (o := 68) (kz := 85) (x := 157) (by decide)
  have f522 := (st_ne (o := 68) (k := 85) (v := 157) (by decide)).trans f519
  have f523 := (st_ne (o := 68) (k := 85) (v := 157) (by decide)).trans f520
  have f524 := (st_ne (o := 68) (k := 85) (v := 157) (by decide)).trans f521
  refine V.iinc (pc := 58) (x := 85) (lv' := [(1, .int (sJ 86)), (0, .ref (sA Δ 67))]) hG dX0_init_58 0 rfl (by decide) rfl ?_
  refine V.goto (pc := 61) (tgt := 39) hG dX0_init_61 (by decide) ?_
  refine V.iload_n (pc := 39) (x := 86) hG dX0_init_39 rfl 0 rfl ?_
  refine V.bipush (pc := 40) hG dX0_init_40 (by decide) ?_
  refine V.icmp_ge (pc := 42) (tgt := 64) hG (sR_l rfl) (sR_l rfl) dX0_init_42 (by decide) (fun c1 => absurd c1 (by decide)) (fun _ => ?_)
  refine V.aload_n (pc := 45) hG dX0_init_45 rfl 1 rfl ?_
  refine V.getR (x := 68) (pc := 46) (ci := 2) (k := 0) (M := 5) (T := TX0) (o := 67) (kz := 0) hG (isA.of (by decide +kernel)) (by decide) (by decide) hin_X0 rfl (by decide) (by decide) rfl kw_349 rfl f522 (by decide) dX0_init_46 ?_
  refine V.iload_n (pc := 49) (x := 86) hG dX0_init_49 rfl 0 rfl ?_
  refine V.cnew (pc := 50) (ci := 5) (N := 13) (T := TX3) (ty := tyX3) hG hin_X3 rfl tyX3_ok kw_275 kw_277 kw_108 (by decide +kernel) (by decide) rfl defX3 (z266.z (by decide)) ⟨by decide, by decide⟩ dX0_init_50 ?_
  refine V.nn (n2 := 159) rfl ?_
  have z267 := z266.up (m := 159) (by omega)
  refine V.dup (pc := 53) hG dX0_init_53 rfl ?_
  refine V.ccallN (pc := 54) (n2 := 159) hG (ct_X3 l Δ (158) (isA.of (by decide +kernel))  (by decide) z267) mY_X3_init rfl kw_278 kw_279 ⟨by decide, by decide, by decide, by decide⟩ (Nat.le_of_ble_eq_true rfl) dX0_init_54 ?_
  have z268 := zf_X3 158 z267
  have f525 := (congrFun (fr_X3 158 (by decide)) _).trans f522
  have f526 := (congrFun (fr_X3 158 (by decide)) _).trans f523
  have f527 := (congrFun (fr_X3 158 (by decide)) _).trans f524
  refine V.caast 6 5 (pc := 57) (z := 96) (o := 68) (x := 86) (y := 158) hG (isA.of (by decide +kernel)) (by decide) (by decide) rfl (isA.of (by decide +kernel)) (by decide) (by decide) rfl (sR_l rfl) (by decide) (by decide) dX0_init_57 ?_
  have z269 := z268.sRf (o := 68) (kz := 86) (x := 158) (by decide)
  have f528 := (st_ne (o := 68) (k := 86) (v := 158) (by decide)).trans f525
  have f529 := (st_ne (o := 68) (k := 86) (v := 158) (by decide)).trans f526
  have f530 := (st_ne (o := 68) (k := 86) (v := 158) (by decide)).trans f527
  refine V.iinc (pc := 58) (x := 86) (lv' := [(1, .int (sJ 87)), (0, .ref (sA Δ 67))]) hG dX0_init_58 0 rfl (by decide) rfl ?_
  refine V.goto (pc := 61) (tgt := 39) hG dX0_init_61 (by decide) ?_
  refine V.iload_n (pc := 39) (x := 87) hG dX0_init_39 rfl 0 rfl ?_
  refine V.bipush (pc := 40) hG dX0_init_40 (by decide) ?_
  refine V.icmp_ge (pc := 42) (tgt := 64) hG (sR_l rfl) (sR_l rfl) dX0_init_42 (by decide) (fun c1 => absurd c1 (by decide)) (fun _ => ?_)
  refine V.aload_n (pc := 45) hG dX0_init_45 rfl 1 rfl ?_
  refine V.getR (x := 68) (pc := 46) (ci := 2) (k := 0) (M := 5) (T := TX0) (o := 67) (kz := 0) hG (isA.of (by decide +kernel)) (by decide) (by decide) hin_X0 rfl (by decide) (by decide) rfl kw_349 rfl f528 (by decide) dX0_init_46 ?_
  refine V.iload_n (pc := 49) (x := 87) hG dX0_init_49 rfl 0 rfl ?_
  refine V.cnew (pc := 50) (ci := 5) (N := 13) (T := TX3) (ty := tyX3) hG hin_X3 rfl tyX3_ok kw_275 kw_277 kw_108 (by decide +kernel) (by decide) rfl defX3 (z269.z (by decide)) ⟨by decide, by decide⟩ dX0_init_50 ?_
  refine V.nn (n2 := 160) rfl ?_
  have z270 := z269.up (m := 160) (by omega)
  refine V.dup (pc := 53) hG dX0_init_53 rfl ?_
  refine V.ccallN (pc := 54) (n2 := 160) hG (ct_X3 l Δ (159) (isA.of (by decide +kernel))  (by decide) z270) mY_X3_init rfl kw_278 kw_279 ⟨by decide, by decide, by decide, by decide⟩ (Nat.le_of_ble_eq_true rfl) dX0_init_54 ?_
  have z271 := zf_X3 159 z270
  have f531 := (congrFun (fr_X3 159 (by decide)) _).trans f528
  have f532 := (congrFun (fr_X3 159 (by decide)) _).trans f529
  have f533 := (congrFun (fr_X3 159 (by decide)) _).trans f530
  refine V.caast 6 5 (pc := 57) (z := 96) (o := 68) (x := 87) (y := 159) hG (isA.of (by decide +kernel)) (by decide) (by decide) rfl (isA.of (by decide +kernel)) (by decide) (by decide) rfl (sR_l rfl) (by decide) (by decide) dX0_init_57 ?_
  have z272 := z271.sRf (o := 68) (kz := 87) (x := 159) (by decide)
  have f534 := (st_ne (o := 68) (k := 87) (v := 159) (by decide)).trans f531
  have f535 := (st_ne (o := 68) (k := 87) (v := 159) (by decide)).trans f532
  have f536 := (st_ne (o := 68) (k := 87) (v := 159) (by decide)).trans f533
  refine V.iinc (pc := 58) (x := 87) (lv' := [(1, .int (sJ 88)), (0, .ref (sA Δ 67))]) hG dX0_init_58 0 rfl (by decide) rfl ?_
  refine V.goto (pc := 61) (tgt := 39) hG dX0_init_61 (by decide) ?_
  refine V.iload_n (pc := 39) (x := 88) hG dX0_init_39 rfl 0 rfl ?_
  refine V.bipush (pc := 40) hG dX0_init_40 (by decide) ?_
  refine V.icmp_ge (pc := 42) (tgt := 64) hG (sR_l rfl) (sR_l rfl) dX0_init_42 (by decide) (fun c1 => absurd c1 (by decide)) (fun _ => ?_)
  refine V.aload_n (pc := 45) hG dX0_init_45 rfl 1 rfl ?_
  refine V.getR (x := 68) (pc := 46) (ci := 2) (k := 0) (M := 5) (T := TX0) (o := 67) (kz := 0) hG (isA.of (by decide +kernel)) (by decide) (by decide) hin_X0 rfl (by decide) (by decide) rfl kw_349 rfl f534 (by decide) dX0_init_46 ?_
  refine V.iload_n (pc := 49) (x := 88) hG dX0_init_49 rfl 0 rfl ?_
  refine V.cnew (pc := 50) (ci := 5) (N := 13) (T := TX3) (ty := tyX3) hG hin_X3 rfl tyX3_ok kw_275 kw_277 kw_108 (by decide +kernel) (by decide) rfl defX3 (z272.z (by decide)) ⟨by decide, by decide⟩ dX0_init_50 ?_
  refine V.nn (n2 := 161) rfl ?_
  have z273 := z272.up (m := 161) (by omega)
  refine V.dup (pc := 53) hG dX0_init_53 rfl ?_
  refine V.ccallN (pc := 54) (n2 := 161) hG (ct_X3 l Δ (160) (isA.of (by decide +kernel))  (by decide) z273) mY_X3_init rfl kw_278 kw_279 ⟨by decide, by decide, by decide, by decide⟩ (Nat.le_of_ble_eq_true rfl) dX0_init_54 ?_
  have z274 := zf_X3 160 z273
  have f537 := (congrFun (fr_X3 160 (by decide)) _).trans f534
  have f538 := (congrFun (fr_X3 160 (by decide)) _).trans f535
  have f539 := (congrFun (fr_X3 160 (by decide)) _).trans f536
  refine V.caast 6 5 (pc := 57) (z := 96) (o := 68) (x := 88) (y := 160) hG (isA.of (by decide +kernel)) (by decide) (by decide) rfl (isA.of (by decide +kernel)) (by decide) (by decide) rfl (sR_l rfl) (by decide) (by decide) dX0_init_57 ?_
  have z275 := z274.sRf (o := 68) (kz := 88) (x := 160) (by decide)
  have f540 := (st_ne (o := 68) (k := 88) (v := 160) (by decide)).trans f537
  have f541 := (st_ne (o := 68) (k := 88) (v := 160) (by decide)).trans f538
  have f542 := (st_ne (o := 68) (k := 88) (v := 160) (by decide)).trans f539
  refine V.iinc (pc := 58) (x := 88) (lv' := [(1, .int (sJ 89)), (0, .ref (sA Δ 67))]) hG dX0_init_58 0 rfl (by decide) rfl ?_
  refine V.goto (pc := 61) (tgt := 39) hG dX0_init_61 (by decide) ?_
  refine V.iload_n (pc := 39) (x := 89) hG dX0_init_39 rfl 0 rfl ?_
  refine V.bipush (pc := 40) hG dX0_init_40 (by decide) ?_
  refine V.icmp_ge (pc := 42) (tgt := 64) hG (sR_l rfl) (sR_l rfl) dX0_init_42 (by decide) (fun c1 => absurd c1 (by decide)) (fun _ => ?_)
  refine V.aload_n (pc := 45) hG dX0_init_45 rfl 1 rfl ?_
  refine V.getR (x := 68) (pc := 46) (ci := 2) (k := 0) (M := 5) (T := TX0) (o := 67) (kz := 0) hG (isA.of (by decide +kernel)) (by decide) (by decide) hin_X0 rfl (by decide) (by decide) rfl kw_349 rfl f540 (by decide) dX0_init_46 ?_
  refine V.iload_n (pc := 49) (x := 89) hG dX0_init_49 rfl 0 rfl ?_
  refine V.cnew (pc := 50) (ci := 5) (N := 13) (T := TX3) (ty := tyX3) hG hin_X3 rfl tyX3_ok kw_275 kw_277 kw_108 (by decide +kernel) (by decide) rfl defX3 (z275.z (by decide)) ⟨by decide, by decide⟩ dX0_init_50 ?_
  refine V.nn (n2 := 162) rfl ?_
  have z276 := z275.up (m := 162) (by omega)
  refine V.dup (pc := 53) hG dX0_init_53 rfl ?_
  refine V.ccallN (pc := 54) (n2 := 162) hG (ct_X3 l Δ (161) (isA.of (by decide +kernel))  (by decide) z276) mY_X3_init rfl kw_278 kw_279 ⟨by decide, by decide, by decide, by decide⟩ (Nat.le_of_ble_eq_true rfl) dX0_init_54 ?_
  have z277 := zf_X3 161 z276
  have f543 := (congrFun (fr_X3 161 (by decide)) _).trans f540
  have f544 := (congrFun (fr_X3 161 (by decide)) _).trans f541
  have f545 := (congrFun (fr_X3 161 (by decide)) _).trans f542
  refine V.caast 6 5 (pc := 57) (z := 96) (o := 68) (x := 89) (y := 161) hG (isA.of (by decide +kernel)) (by decide) (by decide) rfl (isA.of (by decide +kernel)) (by decide) (by decide) rfl (sR_l rfl) (by decide) (by decide) dX0_init_57 ?_
  have z278 := z277.sRf (o := 68) (kz := 89) (x := 161) (by decide)
  have f546 := (st_ne (o := 68) (k := 89) (v := 161) (by decide)).trans f543
  have f547 := (st_ne (o := 68) (k := 89) (v := 161) (by decide)).trans f544
  have f548 := (st_ne (o := 68) (k := 89) (v := 161) (by decide)).trans f545
  refine V.iinc (pc := 58) (x := 89) (lv' := [(1, .int (sJ 90)), (0, .ref (sA Δ 67))]) hG dX0_init_58 0 rfl (by decide) rfl ?_
  refine V.goto (pc := 61) (tgt := 39) hG dX0_init_61 (by decide) ?_
  refine V.iload_n (pc := 39) (x := 90) hG dX0_init_39 rfl 0 rfl ?_
  refine V.bipush (pc := 40) hG dX0_init_40 (by decide) ?_
  refine V.icmp_ge (pc := 42) (tgt := 64) hG (sR_l rfl) (sR_l rfl) dX0_init_42 (by decide) (fun c1 => absurd c1 (by decide)) (fun _ => ?_)
  refine V.aload_n (pc := 45) hG dX0_init_45 rfl 1 rfl ?_
  refine V.getR (x := 68) (pc := 46) (ci := 2) (k := 0) (M := 5) (T := TX0) (o := 67) (kz := 0) hG (isA.of (by decide +kernel)) (by decide) (by decide) hin_X0 rfl (by decide) (by decide) rfl kw_349 rfl f546 (by decide) dX0_init_46 ?_
  refine V.iload_n (pc := 49) (x := 90) hG dX0_init_49 rfl 0 rfl ?_
  refine V.cnew (pc := 50) (ci := 5) (N := 13) (T := TX3) (ty := tyX3) hG hin_X3 rfl tyX3_ok kw_275 kw_277 kw_108 (by decide +kernel) (by decide) rfl defX3 (z278.z (by decide)) ⟨by decide, by decide⟩ dX0_init_50 ?_
  refine V.nn (n2 := 163) rfl ?_
  have z279 := z278.up (m := 163) (by omega)
  refine V.dup (pc := 53) hG dX0_init_53 rfl ?_
  refine V.ccallN (pc := 54) (n2 := 163) hG (ct_X3 l Δ (162) (isA.of (by decide +kernel))  (by decide) z279) mY_X3_init rfl kw_278 kw_279 ⟨by decide, by decide, by decide, by decide⟩ (Nat.le_of_ble_eq_true rfl) dX0_init_54 ?_
  have z280 := zf_X3 162 z279
  have f549 := (congrFun (fr_X3 162 (by decide)) _).trans f546
  have f550 := (congrFun (fr_X3 162 (by decide)) _).trans f547
  have f551 := (congrFun (fr_X3 162 (by decide)) _).trans f548
  refine V.caast 6 5 (pc := 57) (z := 96) (o := 68) (x := 90) (y := 162) hG (isA.of (by decide +kernel)) (by decide) (by decide) rfl (isA.of (by decide +kernel)) (by decide) (by decide) rfl (sR_l rfl) (by decide) (by decide) dX0_init_57 ?_
  have z281 := z280.sRf (o := 68) (kz := 90) (x := 162) (by decide)
  have f552 := (st_ne (o := 68) (k := 90) (v := 162) (by decide)).trans f549
  have f553 := (st_ne (o := 68) (k := 90) (v := 162) (by decide)).trans f550
  have f554 := (st_ne (o := 68) (k := 90) (v := 162) (by decide)).trans f551
  refine V.iinc (pc := 58) (x := 90) (lv' := [(1, .int (sJ 91)), (0, .ref (sA Δ 67))]) hG dX0_init_58 0 rfl (by decide) rfl ?_
  refine V.goto (pc := 61) (tgt := 39) hG dX0_init_61 (by decide) ?_
  refine V.iload_n (pc := 39) (x := 91) hG dX0_init_39 rfl 0 rfl ?_
  refine V.bipush (pc := 40) hG dX0_init_40 (by decide) ?_
  refine V.icmp_ge (pc := 42) (tgt := 64) hG (sR_l rfl) (sR_l rfl) dX0_init_42 (by decide) (fun c1 => absurd c1 (by decide)) (fun _ => ?_)
  refine V.aload_n (pc := 45) hG dX0_init_45 rfl 1 rfl ?_
  refine V.getR (x := 68) (pc := 46) (ci := 2) (k := 0) (M := 5) (T := TX0) (o := 67) (kz := 0) hG (isA.of (by decide +kernel)) (by decide) (by decide) hin_X0 rfl (by decide) (by decide) rfl kw_349 rfl f552 (by decide) dX0_init_46 ?_
  refine V.iload_n (pc := 49) (x := 91) hG dX0_init_49 rfl 0 rfl ?_
  refine V.cnew (pc := 50) (ci := 5) (N := 13) (T := TX3) (ty := tyX3) hG hin_X3 rfl tyX3_ok kw_275 kw_277 kw_108 (by decide +kernel) (by decide) rfl defX3 (z281.z (by decide)) ⟨by decide, by decide⟩ dX0_init_50 ?_
  refine V.nn (n2 := 164) rfl ?_
  have z282 := z281.up (m := 164) (by omega)
  refine V.dup (pc := 53) hG dX0_init_53 rfl ?_
  refine V.ccallN (pc := 54) (n2 := 164) hG (ct_X3 l Δ (163) (isA.of (by decide +kernel))  (by decide) z282) mY_X3_init rfl kw_278 kw_279 ⟨by decide, by decide, by decide, by decide⟩ (Nat.le_of_ble_eq_true rfl) dX0_init_54 ?_
  have z283 := zf_X3 163 z282
  have f555 := (congrFun (fr_X3 163 (by decide)) _).trans f552
  have f556 := (congrFun (fr_X3 163 (by decide)) _).trans f553
  have f557 := (congrFun (fr_X3 163 (by decide)) _).trans f554
  refine V.caast 6 5 (pc := 57) (z := 96) (o := 68) (x := 91) (y := 163) hG (isA.of (by decide +kernel)) (by decide) (by decide) rfl (isA.of (by decide +kernel)) (by decide) (by decide) rfl (sR_l rfl) (by decide) (by decide) dX0_init_57 ?_
  have z284 := z283.sRf (o := 68) (kz := 91) (x := 163) (by decide)
  have f558 := (st_ne (o := 68) (k := 91) (v := 163) (by decide)).trans f555
  have f559 := (st_ne (o := 68) (k := 91) (v := 163) (by decide)).trans f556
  have f560 := (st_ne (o := 68) (k := 91) (v := 163) (by decide)).trans f557
  refine V.iinc (pc := 58) (x := 91) (lv' := [(1, .int (sJ 92)), (0, .ref (sA Δ 67))]) hG dX0_init_58 0 rfl (by decide) rfl ?_
  refine V.goto (pc := 61) (tgt := 39) hG dX0_init_61 (by decide) ?_
  refine V.iload_n (pc := 39) (x := 92) hG dX0_init_39 rfl 0 rfl ?_
  refine V.bipush (pc := 40) hG dX0_init_40 (by decide) ?_
  refine V.icmp_ge (pc := 42) (tgt := 64) hG (sR_l rfl) (sR_l rfl) dX0_init_42 (by decide) (fun c1 => absurd c1 (by decide)) (fun _ => ?_)
  refine V.aload_n (pc := 45) hG dX0_init_45 rfl 1 rfl ?_
  refine V.getR (x := 68) (pc := 46) (ci := 2) (k := 0) (M := 5) (T := TX0) (o := 67) (kz := 0) hG (isA.of (by decide +kernel)) (by decide) (by decide) hin_X0 rfl (by decide) (by decide) rfl kw_349 rfl f558 (by decide) dX0_init_46 ?_
  refine V.iload_n (pc := 49) (x := 92) hG dX0_init_49 rfl 0 rfl ?_
  refine V.cnew (pc := 50) (ci := 5) (N := 13) (T := TX3) (ty := tyX3) hG hin_X3 rfl tyX3_ok kw_275 kw_277 kw_108 (by decide +kernel) (by decide) rfl defX3 (z284.z (by decide)) ⟨by decide, by decide⟩ dX0_init_50 ?_
  refine V.nn (n2 := 165) rfl ?_
  have z285 := z284.up (m := 165) (by omega)
  refine V.dup (pc := 53) hG dX0_init_53 rfl ?_
  refine V.ccallN (pc := 54) (n2 := 165) hG (ct_X3 l Δ (164) (isA.of (by decide +kernel))  (by decide) z285) mY_X3_init rfl kw_278 kw_279 ⟨by decide, by decide, by decide, by decide⟩ (Nat.le_of_ble_eq_true rfl) dX0_init_54 ?_
  have z286 := zf_X3 164 z285
  have f561 := (congrFun (fr_X3 164 (by decide)) _).trans f558
  have f562 := (congrFun (fr_X3 164 (by decide)) _).trans f559
  have f563 := (congrFun (fr_X3 164 (by decide)) _).trans f560
  refine V.caast 6 5 (pc := 57) (z := 96) (o := 68) (x := 92) (y := 164) hG (isA.of (by decide +kernel)) (by decide) (by decide) rfl (isA.of (by decide +kernel)) (by decide) (by decide) rfl (sR_l rfl) (by decide) (by decide) dX0_init_57 ?_
  have z287 := z286.sRf (o := 68) (kz := 92) (x := 164) (by decide)
  have f564 := (st_ne (o := 68) (k := 92) (v := 164) (by decide)).trans f561
  have f565 := (st_ne (o := 68) (k := 92) (v := 164) (by decide)).trans f562
  have f566 := (st_ne (o := 68) (k := 92) (v := 164) (by decide)).trans f563
  refine V.iinc (pc := 58) (x := 92) (lv' := [(1, .int (sJ 93)), (0, .ref (sA Δ 67))]) hG dX0_init_58 0 rfl (by decide) rfl ?_
  refine V.goto (pc := 61) (tgt := 39) hG dX0_init_61 (by decide) ?_
  refine V.iload_n (pc := 39) (x := 93) hG dX0_init_39 rfl 0 rfl ?_
  refine V.bipush (pc := 40) hG dX0_init_40 (by decide) ?_
  refine V.icmp_ge (pc := 42) (tgt := 64) hG (sR_l rfl) (sR_l rfl) dX0_init_42 (by decide) (fun c1 => absurd c1 (by decide)) (fun _ => ?_)
  refine V.aload_n (pc := 45) hG dX0_init_45 rfl 1 rfl ?_
  refine V.getR (x := 68) (pc := 46) (ci := 2) (k := 0) (M := 5) (T := TX0) (o := 67) (kz := 0) hG (isA.of (by decide +kernel)) (by decide) (by decide) hin_X0 rfl (by decide) (by decide) rfl kw_349 rfl f564 (by decide) dX0_init_46 ?_
  refine V.iload_n (pc := 49) (x := 93) hG dX0_init_49 rfl 0 rfl ?_
  refine V.cnew (pc := 50) (ci := 5) (N := 13) (T := TX3) (ty := tyX3) hG hin_X3 rfl tyX3_ok kw_275 kw_277 kw_108 (by decide +kernel) (by decide) rfl defX3 (z287.z (by decide)) ⟨by decide, by decide⟩ dX0_init_50 ?_
  refine V.nn (n2 := 166) rfl ?_
  have z288 := z287.up (m := 166) (by omega)
  refine V.dup (pc := 53) hG dX0_init_53 rfl ?_
  refine V.ccallN (pc := 54) (n2 := 166) hG (ct_X3 l Δ (165) (isA.of (by decide +kernel))  (by decide) z288) mY_X3_init rfl kw_278 kw_279 ⟨by decide, by decide, by decide, by decide⟩ (Nat.le_of_ble_eq_true rfl) dX0_init_54 ?_
  have z289 := zf_X3 165 z288
  have f567 := (congrFun (fr_X3 165 (by decide)) _).trans f564
  have f568 := (congrFun (fr_X3 165 (by decide)) _).trans f565
  have f569 := (congrFun (fr_X3 165 (by decide)) _).trans f566
  refine V.caast 6 5 (pc := 57) (z := 96) (o := 68) (x := 93) (y := 165) hG (isA.of (by decide +kernel)) (by decide) (by decide) rfl (isA.of (by decide +kernel)) (by decide) (by decide) rfl (sR_l rfl) (by decide) (by decide) dX0_init_57 ?_
  have z290 := z289.sRf (o := 68) (kz := 93) (x := 165) (by decide)
  have f570 := (st_ne (o := 68) (k := 93) (v := 165) (by decide)).trans f567
  have f571 := (st_ne (o := 68) (k := 93) (v := 165) (by decide)).trans f568
  have f572 := (st_ne (o := 68) (k := 93) (v := 165) (by decide)).trans f569
  refine V.iinc (pc := 58) (x := 93) (lv' := [(1, .int (sJ 94)), (0, .ref (sA Δ 67))]) hG dX0_init_58 0 rfl (by decide) rfl ?_
  refine V.goto (pc := 61) (tgt := 39) hG dX0_init_61 (by decide) ?_
  refine V.iload_n (pc := 39) (x := 94) hG dX0_init_39 rfl 0 rfl ?_
  refine V.bipush (pc := 40) hG dX0_init_40 (by decide) ?_
  refine V.icmp_ge (pc := 42) (tgt := 64) hG (sR_l rfl) (sR_l rfl) dX0_init_42 (by decide) (fun c1 => absurd c1 (by decide)) (fun _ => ?_)
  refine V.aload_n (pc := 45) hG dX0_init_45 rfl 1 rfl ?_
  refine V.getR (x := 68) (pc := 46) (ci := 2) (k := 0) (M := 5) (T := TX0) (o := 67) (kz := 0) hG (isA.of (by decide +kernel)) (by decide) (by decide) hin_X0 rfl (by decide) (by decide) rfl kw_349 rfl f570 (by decide) dX0_init_46 ?_
  refine V.iload_n (pc := 49) (x := 94) hG dX0_init_49 rfl 0 rfl ?_
  refine V.cnew (pc := 50) (ci := 5) (N := 13) (T := TX3) (ty := tyX3) hG hin_X3 rfl tyX3_ok kw_275 kw_277 kw_108 (by decide +kernel) (by decide) rfl defX3 (z290.z (by decide)) ⟨by decide, by decide⟩ dX0_init_50 ?_
  refine V.nn (n2 := 167) rfl ?_
  have z291 := z290.up (m := 167) (by omega)
  refine V.dup (pc := 53) hG dX0_init_53 rfl ?_
  refine V.ccallN (pc := 54) (n2 := 167) hG (ct_X3 l Δ (166) (isA.of (by decide +kernel))  (by decide) z291) mY_X3_init rfl kw_278 kw_279 ⟨by decide, by decide, by decide, by decide⟩ (Nat.le_of_ble_eq_true rfl) dX0_init_54 ?_
  have z292 := zf_X3 166 z291
  have f573 := (congrFun (fr_X3 166 (by decide)) _).trans f570
  have f574 := (congrFun (fr_X3 166 (by decide)) _).trans f571
  have f575 := (congrFun (fr_X3 166 (by decide)) _).trans f572
  refine V.caast 6 5 (pc := 57) (z := 96) (o := 68) (x := 94) (y := 166) hG (isA.of (by decide +kernel)) (by decide) (by decide) rfl (isA.of (by decide +kernel)) (by decide) (by decide) rfl (sR_l rfl) (by decide) (by decide) dX0_init_57 ?_
  have z293 := z292.sRf (o := 68) (kz := 94) (x := 166) (by decide)
  have f576 := (st_ne (o := 68) (k := 94) (v := 166) (by decide)).trans f573
  have f577 := (st_ne (o := 68) (k := 94) (v := 166) (by decide)).trans f574
  have f578 := (st_ne (o := 68) (k := 94) (v := 166) (by decide)).trans f575
  refine V.iinc (pc := 58) (x := 94) (lv' := [(1, .int (sJ 95)), (0, .ref (sA Δ 67))]) hG dX0_init_58 0 rfl (by decide) rfl ?_
  refine V.goto (pc := 61) (tgt := 39) hG dX0_init_61 (by decide) ?_
  refine V.iload_n (pc := 39) (x := 95) hG dX0_init_39 rfl 0 rfl ?_
  refine V.bipush (pc := 40) hG dX0_init_40 (by decide) ?_
  refine V.icmp_ge (pc := 42) (tgt := 64) hG (sR_l rfl) (sR_l rfl) dX0_init_42 (by decide) (fun c1 => absurd c1 (by decide)) (fun _ => ?_)
  refine V.aload_n (pc := 45) hG dX0_init_45 rfl 1 rfl ?_
  refine V.getR (x := 68) (pc := 46) (ci := 2) (k := 0) (M := 5) (T := TX0) (o := 67) (kz := 0) hG (isA.of (by decide +kernel)) (by decide) (by decide) hin_X0 rfl (by decide) (by decide) rfl kw_349 rfl f576 (by decide) dX0_init_46 ?_
  refine V.iload_n (pc := 49) (x := 95) hG dX0_init_49 rfl 0 rfl ?_
  refine V.cnew (pc := 50) (ci := 5) (N := 13) (T := TX3) (ty := tyX3) hG hin_X3 rfl tyX3_ok kw_275 kw_277 kw_108 (by decide +kernel) (by decide) rfl defX3 (z293.z (by decide)) ⟨by decide, by decide⟩ dX0_init_50 ?_
  refine V.nn (n2 := 168) rfl ?_
  have z294 := z293.up (m := 168) (by omega)
  refine V.dup (pc := 53) hG dX0_init_53 rfl ?_
  refine V.ccallN (pc := 54) (n2 := 168) hG (ct_X3 l Δ (167) (isA.of (by decide +kernel))  (by decide) z294) mY_X3_init rfl kw_278 kw_279 ⟨by decide, by decide, by decide, by decide⟩ (Nat.le_of_ble_eq_true rfl) dX0_init_54 ?_
  have z295 := zf_X3 167 z294
  have f579 := (congrFun (fr_X3 167 (by decide)) _).trans f576
  have f580 := (congrFun (fr_X3 167 (by decide)) _).trans f577
  have f581 := (congrFun (fr_X3 167 (by decide)) _).trans f578
  refine V.caast 6 5 (pc := 57) (z := 96) (o := 68) (x := 95) (y := 167) hG (isA.of (by decide +kernel)) (by decide) (by decide) rfl (isA.of (by decide +kernel)) (by decide) (by decide) rfl (sR_l rfl) (by decide) (by decide) dX0_init_57 ?_
  have z296 := z295.sRf (o := 68) (kz := 95) (x := 167) (by decide)
  have f582 := (st_ne (o := 68) (k := 95) (v := 167) (by decide)).trans f579
  have f583 := (st_ne (o := 68) (k := 95) (v := 167) (by decide)).trans f580
  have f584 := (st_ne (o := 68) (k := 95) (v := 167) (by decide)).trans f581
  refine V.iinc (pc := 58) (x := 95) (lv' := [(1, .int (sJ 96)), (0, .ref (sA Δ 67))]) hG dX0_init_58 0 rfl (by decide) rfl ?_
  refine V.goto (pc := 61) (tgt := 39) hG dX0_init_61 (by decide) ?_
  refine V.iload_n (pc := 39) (x := 96) hG dX0_init_39 rfl 0 rfl ?_
  refine V.bipush (pc := 40) hG dX0_init_40 (by decide) ?_
  refine V.icmp_ge (pc := 42) (tgt := 64) hG (sR_l rfl) (sR_l rfl) dX0_init_42 (by decide) (fun _ => ?_) (fun c1 => absurd (by decide) c1)
  refine V.iconst (pc := 64) hG dX0_init_64 ?_
  refine V.istore_n (pc := 65) (lv' := [(1, .int (sJ 0)), (0, .ref (sA Δ 67))]) hG dX0_init_65 rfl (by decide) rfl ?_
  refine V.iload_n (pc := 66) (x := 0) hG dX0_init_66 rfl 0 rfl ?_
  refine V.bipush (pc := 67) hG dX0_init_67 (by decide) ?_
  refine V.icmp_ge (pc := 69) (tgt := 92) hG (sR_l rfl) (sR_l rfl) dX0_init_69 (by decide) (fun c1 => absurd c1 (by decide)) (fun _ => ?_)
  refine V.aload_n (pc := 72) hG dX0_init_72 rfl 1 rfl ?_
  refine V.getR (x := 69) (pc := 73) (ci := 2) (k := 1) (M := 5) (T := TX0) (o := 67) (kz := 1) hG (isA.of (by decide +kernel)) (by decide) (by decide) hin_X0 rfl (by decide) (by decide) rfl kw_355 rfl f583 (by decide) dX0_init_73 ?_
  refine V.iload_n (pc := 76) (x := 0) hG dX0_init_76 rfl 0 rfl ?_
  refine V.iconst (pc := 77) hG dX0_init_77 ?_
  refine V.ciast (pc := 78) (z := 7) (o := 69) (x := 0) (v := 1) hG (isA.of (by decide +kernel)) (by decide) (sR_l rfl) (by decide) dX0_init_78 ?_
  have z297 := z296.sI (o := 69) (kz := 0) (x := 1) (by decide)
  refine V.aload_n (pc := 79) hG dX0_init_79 rfl 1 rfl ?_
  refine V.getR (x := 70) (pc := 80) (ci := 2) (k := 2) (M := 5) (T := TX0) (o := 67) (kz := 2) hG (isA.of (by decide +kernel)) (by decide) (by decide) hin_X0 rfl (by decide) (by decide) rfl kw_359 rfl f584 (by decide) dX0_init_80 ?_
  refine V.iload_n (pc := 83) (x := 0) hG dX0_init_83 rfl 0 rfl ?_
  refine V.iconst (pc := 84) hG dX0_init_84 ?_
  refine V.ciast (pc := 85) (z := 7) (o := 70) (x := 0) (v := 1) hG (isA.of (by decide +kernel)) (by decide) (sR_l rfl) (by decide) dX0_init_85 ?_
  have z298 := z297.sI (o := 70) (kz := 0) (x := 1) (by decide)
  refine V.iinc (pc := 86) (x := 0) (lv' := [(1, .int (sJ 1)), (0, .ref (sA Δ 67))]) hG dX0_init_86 0 rfl (by decide) rfl ?_
  refine V.goto (pc := 89) (tgt := 66) hG dX0_init_89 (by decide) ?_
  refine V.iload_n (pc := 66) (x := 1) hG dX0_init_66 rfl 0 rfl ?_
  refine V.bipush (pc := 67) hG dX0_init_67 (by decide) ?_
  refine V.icmp_ge (pc := 69) (tgt := 92) hG (sR_l rfl) (sR_l rfl) dX0_init_69 (by decide) (fun c1 => absurd c1 (by decide)) (fun _ => ?_)
  refine V.aload_n (pc := 72) hG dX0_init_72 rfl 1 rfl ?_
  refine V.getR (x := 69) (pc := 73) (ci := 2) (k := 1) (M := 5) (T := TX0) (o := 67) (kz := 1) hG (isA.of (by decide +kernel)) (by decide) (by decide) hin_X0 rfl (by decide) (by decide) rfl kw_355 rfl f583 (by decide) dX0_init_73 ?_
  refine V.iload_n (pc := 76) (x := 1) hG dX0_init_76 rfl 0 rfl ?_
  refine V.iconst (pc := 77) hG dX0_init_77 ?_
  refine V.ciast (pc := 78) (z := 7) (o := 69) (x := 1) (v := 1) hG (isA.of (by decide +kernel)) (by decide) (sR_l rfl) (by decide) dX0_init_78 ?_
  have z299 := z298.sI (o := 69) (kz := 1) (x := 1) (by decide)
  refine V.aload_n (pc := 79) hG dX0_init_79 rfl 1 rfl ?_
  refine V.getR (x := 70) (pc := 80) (ci := 2) (k := 2) (M := 5) (T := TX0) (o := 67) (kz := 2) hG (isA.of (by decide +kernel)) (by decide) (by decide) hin_X0 rfl (by decide) (by decide) rfl kw_359 rfl f584 (by decide) dX0_init_80 ?_
  refine V.iload_n (pc := 83) (x := 1) hG dX0_init_83 rfl 0 rfl ?_
  refine V.iconst (pc := 84) hG dX0_init_84 ?_
  refine V.ciast (pc := 85) (z := 7) (o := 70) (x := 1) (v := 1) hG (isA.of (by decide +kernel)) (by decide) (sR_l rfl) (by decide) dX0_init_85 ?_
  have z300 := z299.sI (o := 70) (kz := 1) (x := 1) (by decide)
  refine V.iinc (pc := 86) (x := 1) (lv' := [(1, .int (sJ 2)), (0, .ref (sA Δ 67))]) hG dX0_init_86 0 rfl (by decide) rfl ?_
  refine V.goto (pc := 89) (tgt := 66) hG dX0_init_89 (by decide) ?_
  refine V.iload_n (pc := 66) (x := 2) hG dX0_init_66 rfl 0 rfl ?_
  refine V.bipush (pc := 67) hG dX0_init_67 (by decide) ?_
  refine V.icmp_ge (pc := 69) (tgt := 92) hG (sR_l rfl) (sR_l rfl) dX0_init_69 (by decide) (fun c1 => absurd c1 (by decide)) (fun _ => ?_)
  refine V.aload_n (pc := 72) hG dX0_init_72 rfl 1 rfl ?_
  refine V.getR (x := 69) (pc := 73) (ci := 2) (k := 1) (M := 5) (T := TX0) (o := 67) (kz := 1) hG (isA.of (by decide +kernel)) (by decide) (by decide) hin_X0 rfl (by decide) (by decide) rfl kw_355 rfl f583 (by decide) dX0_init_73 ?_
  refine V.iload_n (pc := 76) (x := 2) hG dX0_init_76 rfl 0 rfl ?_
  refine V.iconst (pc := 77) hG dX0_init_77 ?_
  refine V.ciast (pc := 78) (z := 7) (o := 69) (x := 2) (v := 1) hG (isA.of (by decide +kernel)) (by decide) (sR_l rfl) (by decide) dX0_init_78 ?_
  have z301 := z300.sI (o := 69) (kz := 2) (x := 1) (by decide)
  refine V.aload_n (pc := 79) hG dX0_init_79 rfl 1 rfl ?_
  refine V.getR (x := 70) (pc := 80) (ci := 2) (k := 2) (M := 5) (T := TX0) (o := 67) (kz := 2) hG (isA.of (by decide +kernel)) (by decide) (by decide) hin_X0 rfl (by decide) (by decide) rfl kw_359 rfl f584 (by decide) dX0_init_80 ?_
  refine V.iload_n (pc := 83) (x := 2) hG dX0_init_83 rfl 0 rfl ?_
  refine V.iconst (pc := 84) hG dX0_init_84 ?_
  refine V.ciast (pc := 85) (z := 7) (o := 70) (x := 2) (v := 1) hG (isA.of (by decide +kernel)) (by decide) (sR_l rfl) (by decide) dX0_init_85 ?_
  have z302 := z301.sI (o := 70) (kz := 2) (x := 1) (by decide)
  refine V.iinc (pc := 86) (x := 2) (lv' := [(1, .int (sJ 3)), (0, .ref (sA Δ 67))]) hG dX0_init_86 0 rfl (by decide) rfl ?_
  refine V.goto (pc := 89) (tgt := 66) hG dX0_init_89 (by decide) ?_
  refine V.iload_n (pc := 66) (x := 3) hG dX0_init_66 rfl 0 rfl ?_
  refine V.bipush (pc := 67) hG dX0_init_67 (by decide) ?_
  refine V.icmp_ge (pc := 69) (tgt := 92) hG (sR_l rfl) (sR_l rfl) dX0_init_69 (by decide) (fun c1 => absurd c1 (by decide)) (fun _ => ?_)
  refine V.aload_n (pc := 72) hG dX0_init_72 rfl 1 rfl ?_
  refine V.getR (x := 69) (pc := 73) (ci := 2) (k := 1) (M := 5) (T := TX0) (o := 67) (kz := 1) hG (isA.of (by decide +kernel)) (by decide) (by decide) hin_X0 rfl (by decide) (by decide) rfl kw_355 rfl f583 (by decide) dX0_init_73 ?_
  refine V.iload_n (pc := 76) (x := 3) hG dX0_init_76 rfl 0 rfl ?_
  refine V.iconst (pc := 77) hG dX0_init_77 ?_
  refine V.ciast (pc := 78) (z := 7) (o := 69) (x := 3) (v := 1) hG (isA.of (by decide +kernel)) (by decide) (sR_l rfl) (by decide) dX0_init_78 ?_
  have z303 := z302.sI (o := 69) (kz := 3) (x := 1) (by decide)
  refine V.aload_n (pc := 79) hG dX0_init_79 rfl 1 rfl ?_
  refine V.getR (x := 70) (pc := 80) (ci := 2) (k := 2) (M := 5) (T := TX0) (o := 67) (kz := 2) hG (isA.of (by decide +kernel)) (by decide) (by decide) hin_X0 rfl (by decide) (by decide) rfl kw_359 rfl f584 (by decide) dX0_init_80 ?_
  refine V.iload_n (pc := 83) (x := 3) hG dX0_init_83 rfl 0 rfl ?_
  refine V.iconst (pc := 84) hG dX0_init_84 ?_
  refine V.ciast (pc := 85) (z := 7) (o := 70) (x := 3) (v := 1) hG (isA.of (by decide +kernel)) (by decide) (sR_l rfl) (by decide) dX0_init_85 ?_
  have z304 := z303.sI (o := 70) (kz := 3) (x := 1) (by decide)
  refine V.iinc (pc := 86) (x := 3) (lv' := [(1, .int (sJ 4)), (0, .ref (sA Δ 67))]) hG dX0_init_86 0 rfl (by decide) rfl ?_
  refine V.goto (pc := 89) (tgt := 66) hG dX0_init_89 (by decide) ?_
  refine V.iload_n (pc := 66) (x := 4) hG dX0_init_66 rfl 0 rfl ?_
  refine V.bipush (pc := 67) hG dX0_init_67 (by decide) ?_
  refine V.icmp_ge (pc := 69) (tgt := 92) hG (sR_l rfl) (sR_l rfl) dX0_init_69 (by decide) (fun c1 => absurd c1 (by decide)) (fun _ => ?_)
  refine V.aload_n (pc := 72) hG dX0_init_72 rfl 1 rfl ?_
  refine V.getR (x := 69) (pc := 73) (ci := 2) (k := 1) (M := 5) (T := TX0) (o := 67) (kz := 1) hG (isA.of (by decide +kernel)) (by decide) (by decide) hin_X0 rfl (by decide) (by decide) rfl kw_355 rfl f583 (by decide) dX0_init_73 ?_
  refine V.iload_n (pc := 76) (x := 4) hG dX0_init_76 rfl 0 rfl ?_
  refine V.iconst (pc := 77) hG dX0_init_77 ?_
  refine V.ciast (pc := 78) (z := 7) (o := 69) (x := 4) (v := 1) hG (isA.of (by decide +kernel)) (by decide) (sR_l rfl) (by decide) dX0_init_78 ?_
  have z305 := z304.sI (o := 69) (kz := 4) (x := 1) (by decide)
  refine V.aload_n (pc := 79) hG dX0_init_79 rfl 1 rfl ?_
  refine V.getR (x := 70) (pc := 80) (ci := 2) (k := 2) (M := 5) (T := TX0) (o := 67) (kz := 2) hG (isA.of (by decide +kernel)) (by decide) (by decide) hin_X0 rfl (by decide) (by decide) rfl kw_359 rfl f584 (by decide) dX0_init_80 ?_
  refine V.iload_n (pc := 83) (x := 4) hG dX0_init_83 rfl 0 rfl ?_
  refine V.iconst (pc := 84) hG dX0_init_84 ?_
  refine V.ciast (pc := 85) (z := 7) (o := 70) (x := 4) (v := 1) hG (isA.of (by decide +kernel)) (by decide) (sR_l rfl) (by decide) dX0_init_85 ?_
  have z306 := z305.sI (o := 70) (kz := 4) (x := 1) (by decide)
  refine V.iinc (pc := 86) (x := 4) (lv' := [(1, .int (sJ 5)), (0, .ref (sA Δ 67))]) hG dX0_init_86 0 rfl (by decide) rfl ?_
  refine V.goto (pc := 89) (tgt := 66) hG dX0_init_89 (by decide) ?_
  refine V.iload_n (pc := 66) (x := 5) hG dX0_init_66 rfl 0 rfl ?_
  refine V.bipush (pc := 67) hG dX0_init_67 (by decide) ?_
  refine V.icmp_ge (pc := 69) (tgt := 92) hG (sR_l rfl) (sR_l rfl) dX0_init_69 (by decide) (fun c1 => absurd c1 (by decide)) (fun _ => ?_)
  refine V.aload_n (pc := 72) hG dX0_init_72 rfl 1 rfl ?_
  refine V.getR (x := 69) (pc := 73) (ci := 2) (k := 1) (M := 5) (T := TX0) (o := 67) (kz := 1) hG (isA.of (by decide +kernel)) (by decide) (by decide) hin_X0 rfl (by decide) (by decide) rfl kw_355 rfl f583 (by decide) dX0_init_73 ?_
  refine V.iload_n (pc := 76) (x := 5) hG dX0_init_76 rfl 0 rfl ?_
  refine V.iconst (pc := 77) hG dX0_init_77 ?_
  refine V.ciast (pc := 78) (z := 7) (o := 69) (x := 5) (v := 1) hG (isA.of (by decide +kernel)) (by decide) (sR_l rfl) (by decide) dX0_init_78 ?_
  have z307 := z306.sI (o := 69) (kz := 5) (x := 1) (by decide)
  refine V.aload_n (pc := 79) hG dX0_init_79 rfl 1 rfl ?_
  refine V.getR (x := 70) (pc := 80) (ci := 2) (k := 2) (M := 5) (T := TX0) (o := 67) (kz := 2) hG (isA.of (by decide +kernel)) (by decide) (by decide) hin_X0 rfl (by decide) (by decide) rfl kw_359 rfl f584 (by decide) dX0_init_80 ?_
  refine V.iload_n (pc := 83) (x := 5) hG dX0_init_83 rfl 0 rfl ?_
  refine V.iconst (pc := 84) hG dX0_init_84 ?_
  refine V.ciast (pc := 85) (z := 7) (o := 70) (x := 5) (v := 1) hG (isA.of (by decide +kernel)) (by decide) (sR_l rfl) (by decide) dX0_init_85 ?_
  have z308 := z307.sI (o := 70) (kz := 5) (x := 1) (by decide)
  refine V.iinc (pc := 86) (x := 5) (lv' := [(1, .int (sJ 6)), (0, .ref (sA Δ 67))]) hG dX0_init_86 0 rfl (by decide) rfl ?_
  refine V.goto (pc := 89) (tgt := 66) hG dX0_init_89 (by decide) ?_
  refine V.iload_n (pc := 66) (x := 6) hG dX0_init_66 rfl 0 rfl ?_
  refine V.bipush (pc := 67) hG dX0_init_67 (by decide) ?_
  refine V.icmp_ge (pc := 69) (tgt := 92) hG (sR_l rfl) (sR_l rfl) dX0_init_69 (by decide) (fun c1 => absurd c1 (by decide)) (fun _ => ?_)
  refine V.aload_n (pc := 72) hG dX0_init_72 rfl 1 rfl ?_
  refine V.getR (x := 69) (pc := 73) (ci := 2) (k := 1) (M := 5) (T := TX0) (o := 67) (kz := 1) hG (isA.of (by decide +kernel)) (by decide) (by decide) hin_X0 rfl (by decide) (by decide) rfl kw_355 rfl f583 (by decide) dX0_init_73 ?_
  refine V.iload_n (pc := 76) (x := 6) hG dX0_init_76 rfl 0 rfl ?_
  refine V.iconst (pc := 77) hG dX0_init_77 ?_
  refine V.ciast (pc := 78) (z := 7) (o := 69) (x := 6) (v := 1) hG (isA.of (by decide +kernel)) (by decide) (sR_l rfl) (by decide) dX0_init_78 ?_
  have z309 := z308.sI (o := 69) (kz := 6) (x := 1) (by decide)
  refine V.aload_n (pc := 79) hG dX0_init_79 rfl 1 rfl ?_
  refine V.getR (x := 70) (pc := 80) (ci := 2) (k := 2) (M := 5) (T := TX0) (o := 67) (kz := 2) hG (isA.of (by decide +kernel)) (by decide) (by decide) hin_X0 rfl (by decide) (by decide) rfl kw_359 rfl f584 (by decide) dX0_init_80 ?_
  refine V.iload_n (pc := 83) (x := 6) hG dX0_init_83 rfl 0 rfl ?_
  refine V.iconst (pc := 84) hG dX0_init_84 ?_
  refine V.ciast (pc := 85) (z := 7) (o := 70) (x := 6) (v := 1) hG (isA.of (by decide +kernel)) (by decide) (sR_l rfl) (by decide) dX0_init_85 ?_
  have z310 := z309.sI (o := 70) (kz := 6) (x := 1) (by decide)
  refine V.iinc (pc := 86) (x := 6) (lv' := [(1, .int (sJ 7)), (0, .ref (sA Δ 67))]) hG dX0_init_86 0 rfl (by decide) rfl ?_
  refine V.goto (pc := 89) (tgt := 66) hG dX0_init_89 (by decide) ?_
  refine V.iload_n (pc := 66) (x := 7) hG dX0_init_66 rfl 0 rfl ?_
  refine V.bipush (pc := 67) hG dX0_init_67 (by decide) ?_
  refine V.icmp_ge (pc := 69) (tgt := 92) hG (sR_l rfl) (sR_l rfl) dX0_init_69 (by decide) (fun _ => ?_) (fun c1 => absurd (by decide) c1)
  exact fin dX0_init_92 (by decide) (by decide)
set_option maxRecDepth 100000 in
theorem zf_X0 {i r : MI} (z0 : Zf (68) i r) : Zf (168) (cI_X0 i) (cR_X0 r) := by
  have z1 := z0.up (m := 69) (by omega)
  have z2 := z1.sRf (o := 67) (kz := 0) (x := 68) (by decide)
  have z3 := z2.up (m := 70) (by omega)
  have z4 := z3.sRf (o := 67) (kz := 1) (x := 69) (by decide)
  have z5 := z4.up (m := 71) (by omega)
  have z6 := z5.sRf (o := 67) (kz := 2) (x := 70) (by decide)
  have z7 := z6.up (m := 72) (by omega)
  have z8 := z7.sRf (o := 67) (kz := 3) (x := 71) (by decide)
  have z9 := z8.up (m := 73) (by omega)
  have z10 := zf_X3 72 z9
  have z11 := z10.sRf (o := 68) (kz := 0) (x := 72) (by decide)
  have z12 := z11.up (m := 74) (by omega)
  have z13 := zf_X3 73 z12
  have z14 := z13.sRf (o := 68) (kz := 1) (x := 73) (by decide)
  have z15 := z14.up (m := 75) (by omega)
  have z16 := zf_X3 74 z15
  have z17 := z16.sRf (o := 68) (kz := 2) (x := 74) (by decide)
  have z18 := z17.up (m := 76) (by omega)
  have z19 := zf_X3 75 z18
  have z20 := z19.sRf (o := 68) (kz := 3) (x := 75) (by decide)
  have z21 := z20.up (m := 77) (by omega)
  have z22 := zf_X3 76 z21
  have z23 := z22.sRf (o := 68) (kz := 4) (x := 76) (by decide)
  have z24 := z23.up (m := 78) (by omega)
  have z25 := zf_X3 77 z24
  have z26 := z25.sRf (o := 68) (kz := 5) (x := 77) (by decide)
  have z27 := z26.up (m := 79) (by omega)
  have z28 := zf_X3 78 z27
  have z29 := z28.sRf (o := 68) (kz := 6) (x := 78) (by decide)
  have z30 := z29.up (m := 80) (by omega)
  have z31 := zf_X3 79 z30
  have z32 := z31.sRf (o := 68) (kz := 7) (x := 79) (by decide)
  have z33 := z32.up (m := 81) (by omega)
  have z34 := zf_X3 80 z33
  have z35 := z34.sRf (o := 68) (kz := 8) (x := 80) (by decide)
  have z36 := z35.up (m := 82) (by omega)
  have z37 := zf_X3 81 z36
  have z38 := z37.sRf (o := 68) (kz := 9) (x := 81) (by decide)
  have z39 := z38.up (m := 83) (by omega)
  have z40 := zf_X3 82 z39
  have z41 := z40.sRf (o := 68) (kz := 10) (x := 82) (by decide)
  have z42 := z41.up (m := 84) (by omega)
  have z43 := zf_X3 83 z42
  have z44 := z43.sRf (o := 68) (kz := 11) (x := 83) (by decide)
  have z45 := z44.up (m := 85) (by omega)
  have z46 := zf_X3 84 z45
  have z47 := z46.sRf (o := 68) (kz := 12) (x := 84) (by decide)
  have z48 := z47.up (m := 86) (by omega)
  have z49 := zf_X3 85 z48
  have z50 := z49.sRf (o := 68) (kz := 13) (x := 85) (by decide)
  have z51 := z50.up (m := 87) (by omega)
  have z52 := zf_X3 86 z51
  have z53 := z52.sRf (o := 68) (kz := 14) (x := 86) (by decide)
  have z54 := z53.up (m := 88) (by omega)
  have z55 := zf_X3 87 z54
  have z56 := z55.sRf (o := 68) (kz := 15) (x := 87) (by decide)
  have z57 := z56.up (m := 89) (by omega)
  have z58 := zf_X3 88 z57
  have z59 := z58.sRf (o := 68) (kz := 16) (x := 88) (by decide)
  have z60 := z59.up (m := 90) (by omega)
  have z61 := zf_X3 89 z60
  have z62 := z61.sRf (o := 68) (kz := 17) (x := 89) (by decide)
  have z63 := z62.up (m := 91) (by omega)
  have z64 := zf_X3 90 z63
  have z65 := z64.sRf (o := 68) (kz := 18) (x := 90) (by decide)
  have z66 := z65.up (m := 92) (by omega)
  have z67 := zf_X3 91 z66
  have z68 := z67.sRf (o := 68) (kz := 19) (x := 91) (by decide)
  have z69 := z68.up (m := 93) (by omega)
  have z70 := zf_X3 92 z69
  have z71 := z70.sRf (o := 68) (kz := 20) (x := 92) (by decide)
  have z72 := z71.up (m := 94) (by omega)
  have z73 := zf_X3 93 z72
  have z74 := z73.sRf (o := 68) (kz := 21) (x := 93) (by decide)
  have z75 := z74.up (m := 95) (by omega)
  have z76 := zf_X3 94 z75
  have z77 := z76.sRf (o := 68) (kz := 22) (x := 94) (by decide)
  have z78 := z77.up (m := 96) (by omega)
  have z79 := zf_X3 95 z78
  have z80 := z79.sRf (o := 68) (kz := 23) (x := 95) (by decide)
  have z81 := z80.up (m := 97) (by omega)
  have z82 := zf_X3 96 z81
  have z83 := z82.sRf (o := 68) (kz := 24) (x := 96) (by decide)
  have z84 := z83.up (m := 98) (by omega)
  have z85 := zf_X3 97 z84
  have z86 := z85.sRf (o := 68) (kz := 25) (x := 97) (by decide)
  have z87 := z86.up (m := 99) (by omega)
  have z88 := zf_X3 98 z87
  have z89 := z88.sRf (o := 68) (kz := 26) (x := 98) (by decide)
  have z90 := z89.up (m := 100) (by omega)
  have z91 := zf_X3 99 z90
  have z92 := z91.sRf (o := 68) (kz := 27) (x := 99) (by decide)
  have z93 := z92.up (m := 101) (by omega)
  have z94 := zf_X3 100 z93
  have z95 := z94.sRf (o := 68) (kz := 28) (x := 100) (by decide)
  have z96 := z95.up (m := 102) (by omega)
  have z97 := zf_X3 101 z96
  have z98 := z97.sRf (o := 68) (kz := 29) (x := 101) (by decide)
  have z99 := z98.up (m := 103) (by omega)
  have z100 := zf_X3 102 z99
  have z101 := z100.sRf (o := 68) (kz := 30) (x := 102) (by decide)
  have z102 := z101.up (m := 104) (by omega)
  have z103 := zf_X3 103 z102
  have z104 := z103.sRf (o := 68) (kz := 31) (x := 103) (by decide)
  have z105 := z104.up (m := 105) (by omega)
  have z106 := zf_X3 104 z105
  have z107 := z106.sRf (o := 68) (kz := 32) (x := 104) (by decide)
  have z108 := z107.up (m := 106) (by omega)
  have z109 := zf_X3 105 z108
  have z110 := z109.sRf (o := 68) (kz := 33) (x := 105) (by decide)
  have z111 := z110.up (m := 107) (by omega)
  have z112 := zf_X3 106 z111
  have z113 := z112.sRf (o := 68) (kz := 34) (x := 106) (by decide)
  have z114 := z113.up (m := 108) (by omega)
  have z115 := zf_X3 107 z114
  have z116 := z115.sRf (o := 68) (kz := 35) (x := 107) (by decide)
  have z117 := z116.up (m := 109) (by omega)
  have z118 := zf_X3 108 z117
  have z119 := z118.sRf (o := 68) (kz := 36) (x := 108) (by decide)
  have z120 := z119.up (m := 110) (by omega)
  have z121 := zf_X3 109 z120
  have z122 := z121.sRf (o := 68) (kz := 37) (x := 109) (by decide)
  have z123 := z122.up (m := 111) (by omega)
  have z124 := zf_X3 110 z123
  have z125 := z124.sRf (o := 68) (kz := 38) (x := 110) (by decide)
  have z126 := z125.up (m := 112) (by omega)
  have z127 := zf_X3 111 z126
  have z128 := z127.sRf (o := 68) (kz := 39) (x := 111) (by decide)
  have z129 := z128.up (m := 113) (by omega)
  have z130 := zf_X3 112 z129
  have z131 := z130.sRf (o := 68) (kz := 40) (x := 112) (by decide)
  have z132 := z131.up (m := 114) (by omega)
  have z133 := zf_X3 113 z132
  have z134 := z133.sRf (o := 68) (kz := 41) (x := 113) (by decide)
  have z135 := z134.up (m := 115) (by omega)
  have z136 := zf_X3 114 z135
  have z137 := z136.sRf (o := 68) (kz := 42) (x := 114) (by decide)
  have z138 := z137.up (m := 116) (by omega)
  have z139 := zf_X3 115 z138
  have z140 := z139.sRf (o := 68) (kz := 43) (x := 115) (by decide)
  have z141 := z140.up (m := 117) (by omega)
  have z142 := zf_X3 116 z141
  have z143 := z142.sRf (o := 68) (kz := 44) (x := 116) (by decide)
  have z144 := z143.up (m := 118) (by omega)
  have z145 := zf_X3 117 z144
  have z146 := z145.sRf (o := 68) (kz := 45) (x := 117) (by decide)
  have z147 := z146.up (m := 119) (by omega)
  have z148 := zf_X3 118 z147
  have z149 := z148.sRf (o := 68) (kz := 46) (x := 118) (by decide)
  have z150 := z149.up (m := 120) (by omega)
  have z151 := zf_X3 119 z150
  have z152 := z151.sRf (o := 68) (kz := 47) (x := 119) (by decide)
  have z153 := z152.up (m := 121) (by omega)
  have z154 := zf_X3 120 z153
  have z155 := z154.sRf (o := 68) (kz := 48) (x := 120) (by decide)
  have z156 := z155.up (m := 122) (by omega)
  have z157 := zf_X3 121 z156
  have z158 := z157.sRf (o := 68) (kz := 49) (x := 121) (by decide)
  have z159 := z158.up (m := 123) (by omega)
  have z160 := zf_X3 122 z159
  have z161 := z160.sRf (o := 68) (kz := 50) (x := 122) (by decide)
  have z162 := z161.up (m := 124) (by omega)
  have z163 := zf_X3 123 z162
  have z164 := z163.sRf (o := 68) (kz := 51) (x := 123) (by decide)
  have z165 := z164.up (m := 125) (by omega)
  have z166 := zf_X3 124 z165
  have z167 := z166.sRf (o := 68) (kz := 52) (x := 124) (by decide)
  have z168 := z167.up (m := 126) (by omega)
  have z169 := zf_X3 125 z168
  have z170 := z169.sRf (o := 68) (kz := 53) (x := 125) (by decide)
  have z171 := z170.up (m := 127) (by omega)
  have z172 := zf_X3 126 z171
  have z173 := z172.sRf (o := 68) (kz := 54) (x := 126) (by decide)
  have z174 := z173.up (m := 128) (by omega)
  have z175 := zf_X3 127 z174
  have z176 := z175.sRf (o := 68) (kz := 55) (x := 127) (by decide)
  have z177 := z176.up (m := 129) (by omega)
  have z178 := zf_X3 128 z177
  have z179 := z178.sRf (o := 68) (kz := 56) (x := 128) (by decide)
  have z180 := z179.up (m := 130) (by omega)
  have z181 := zf_X3 129 z180
  have z182 := z181.sRf (o := 68) (kz := 57) (x := 129) (by decide)
  have z183 := z182.up (m := 131) (by omega)
  have z184 := zf_X3 130 z183
  have z185 := z184.sRf (o := 68) (kz := 58) (x := 130) (by decide)
  have z186 := z185.up (m := 132) (by omega)
  have z187 := zf_X3 131 z186
  have z188 := z187.sRf (o := 68) (kz := 59) (x := 131) (by decide)
  have z189 := z188.up (m := 133) (by omega)
  have z190 := zf_X3 132 z189
  have z191 := z190.sRf (o := 68) (kz := 60) (x := 132) (by decide)
  have z192 := z191.up (m := 134) (by omega)
  have z193 := zf_X3 133 z192
  have z194 := z193.sRf (o := 68) (kz := 61) (x := 133) (by decide)
  have z195 := z194.up (m := 135) (by omega)
  have z196 := zf_X3 134 z195
  have z197 := z196.sRf (o := 68) (kz := 62) (x := 134) (by decide)
  have z198 := z197.up (m := 136) (by omega)
  have z199 := zf_X3 135 z198
  have z200 := z199.sRf (o := 68) (kz := 63) (x := 135) (by decide)
  have z201 := z200.up (m := 137) (by omega)
  have z202 := zf_X3 136 z201
  have z203 := z202.sRf (o := 68) (kz := 64) (x := 136) (by decide)
  have z204 := z203.up (m := 138) (by omega)
  have z205 := zf_X3 137 z204
  have z206 := z205.sRf (o := 68) (kz := 65) (x := 137) (by decide)
  have z207 := z206.up (m := 139) (by omega)
  have z208 := zf_X3 138 z207
  have z209 := z208.sRf (o := 68) (kz := 66) (x := 138) (by decide)
  have z210 := z209.up (m := 140) (by omega)
  have z211 := zf_X3 139 z210
  have z212 := z211.sRf (o := 68) (kz := 67) (x := 139) (by decide)
  have z213 := z212.up (m := 141) (by omega)
  have z214 := zf_X3 140 z213
  have z215 := z214.sRf (o := 68) (kz := 68) (x := 140) (by decide)
  have z216 := z215.up (m := 142) (by omega)
  have z217 := zf_X3 141 z216
  have z218 := z217.sRf (o := 68) (kz := 69) (x := 141) (by decide)
  have z219 := z218.up (m := 143) (by omega)
  have z220 := zf_X3 142 z219
  have z221 := z220.sRf (o := 68) (kz := 70) (x := 142) (by decide)
  have z222 := z221.up (m := 144) (by omega)
  have z223 := zf_X3 143 z222
  have z224 := z223.sRf (o := 68) (kz := 71) (x := 143) (by decide)
  have z225 := z224.up (m := 145) (by omega)
  have z226 := zf_X3 144 z225
  have z227 := z226.sRf (o := 68) (kz := 72) (x := 144) (by decide)
  have z228 := z227.up (m := 146) (by omega)
  have z229 := zf_X3 145 z228
  have z230 := z229.sRf (o := 68) (kz := 73) (x := 145) (by decide)
  have z231 := z230.up (m := 147) (by omega)
  have z232 := zf_X3 146 z231
  have z233 := z232.sRf (o := 68) (kz := 74) (x := 146) (by decide)
  have z234 := z233.up (m := 148) (by omega)
  have z235 := zf_X3 147 z234
  have z236 := z235.sRf (o := 68) (kz := 75) (x := 147) (by decide)
  have z237 := z236.up (m := 149) (by omega)
  have z238 := zf_X3 148 z237
  have z239 := z238.sRf (o := 68) (kz := 76) (x := 148) (by decide)
  have z240 := z239.up (m := 150) (by omega)
  have z241 := zf_X3 149 z240
  have z242 := z241.sRf (o := 68) (kz := 77) (x := 149) (by decide)
  have z243 := z242.up (m := 151) (by omega)
  have z244 := zf_X3 150 z243
  have z245 := z244.sRf (o := 68) (kz := 78) (x := 150) (by decide)
  have z246 := z245.up (m := 152) (by omega)
  have z247 := zf_X3 151 z246
  have z248 := z247.sRf (o := 68) (kz := 79) (x := 151) (by decide)
  have z249 := z248.up (m := 153) (by omega)
  have z250 := zf_X3 152 z249
  have z251 := z250.sRf (o := 68) (kz := 80) (x := 152) (by decide)
  have z252 := z251.up (m := 154) (by omega)
  have z253 := zf_X3 153 z252
  have z254 := z253.sRf (o := 68) (kz := 81) (x := 153) (by decide)
  have z255 := z254.up (m := 155) (by omega)
  have z256 := zf_X3 154 z255
  have z257 := z256.sRf (o := 68) (kz := 82) (x := 154) (by decide)
  have z258 := z257.up (m := 156) (by omega)
  have z259 := zf_X3 155 z258
  have z260 := z259.sRf (o := 68) (kz := 83) (x := 155) (by decide)
  have z261 := z260.up (m := 157) (by omega)
  have z262 := zf_X3 156 z261
  have z263 := z262.sRf (o := 68) (kz := 84) (x := 156) (by decide)
  have z264 := z263.up (m := 158) (by omega)
  have z265 := zf_X3 157 z264
  have z266 := z265.sRf (o := 68) (kz := 85) (x := 157) (by decide)
  have z267 := z266.up (m := 159) (by omega)
  have z268 := zf_X3 158 z267
  have z269 := z268.sRf (o := 68) (kz := 86) (x := 158) (by decide)
  have z270 := z269.up (m := 160) (by omega)
  have z271 := zf_X3 159 z270
  have z272 := z271.sRf (o := 68) (kz := 87) (x := 159) (by decide)
  have z273 := z272.up (m := 161) (by omega)
  have z274 := zf_X3 160 z273
  have z275 := z274.sRf (o := 68) (kz := 88) (x := 160) (by decide)
  have z276 := z275.up (m := 162) (by omega)
  have z277 := zf_X3 161 z276
  have z278 := z277.sRf (o := 68) (kz := 89) (x := 161) (by decide)
  have z279 := z278.up (m := 163) (by omega)
  have z280 := zf_X3 162 z279
  have z281 := z280.sRf (o := 68) (kz := 90) (x := 162) (by decide)
  have z282 := z281.up (m := 164) (by omega)
  have z283 := zf_X3 163 z282
  have z284 := z283.sRf (o := 68) (kz := 91) (x := 163) (by decide)
  have z285 := z284.up (m := 165) (by omega)
  have z286 := zf_X3 164 z285
  have z287 := z286.sRf (o := 68) (kz := 92) (x := 164) (by decide)
  have z288 := z287.up (m := 166) (by omega)
  have z289 := zf_X3 165 z288
  have z290 := z289.sRf (o := 68) (kz := 93) (x := 165) (by decide)
  have z291 := z290.up (m := 167) (by omega)
  have z292 := zf_X3 166 z291
  have z293 := z292.sRf (o := 68) (kz := 94) (x := 166) (by decide)
  have z294 := z293.up (m := 168) (by omega)
  have z295 := zf_X3 167 z294
  have z296 := z295.sRf (o := 68) (kz := 95) (x := 167) (by decide)
  have z297 := z296.sI (o := 69) (kz := 0) (x := 1) (by decide)
  have z298 := z297.sI (o := 70) (kz := 0) (x := 1) (by decide)
  have z299 := z298.sI (o := 69) (kz := 1) (x := 1) (by decide)
  have z300 := z299.sI (o := 70) (kz := 1) (x := 1) (by decide)
  have z301 := z300.sI (o := 69) (kz := 2) (x := 1) (by decide)
  have z302 := z301.sI (o := 70) (kz := 2) (x := 1) (by decide)
  have z303 := z302.sI (o := 69) (kz := 3) (x := 1) (by decide)
  have z304 := z303.sI (o := 70) (kz := 3) (x := 1) (by decide)
  have z305 := z304.sI (o := 69) (kz := 4) (x := 1) (by decide)
  have z306 := z305.sI (o := 70) (kz := 4) (x := 1) (by decide)
  have z307 := z306.sI (o := 69) (kz := 5) (x := 1) (by decide)
  have z308 := z307.sI (o := 70) (kz := 5) (x := 1) (by decide)
  have z309 := z308.sI (o := 69) (kz := 6) (x := 1) (by decide)
  have z310 := z309.sI (o := 70) (kz := 6) (x := 1) (by decide)
  exact z310
set_option maxRecDepth 100000 in
theorem fr_X0 {r : MI} {a : Int} (ha : a < 67) : cR_X0 r a = r a := by
  unfold cR_X0
  repeat first | rfl | rw [st_row (by omega)] | rw [rowsR_row (by omega)] | rw [fr_X8 _ (by omega)] | rw [fr_X3 _ (by omega)] | rw [fr_X7 _ (by omega)] | rw [fr_X10 (by omega)] | rw [fr_X6 (by omega)] | rw [fr_X0 (by omega)] | rw [fr_X2 (by omega)] | rw [fr_X9 (by omega)] | rw [fr_X4 (by omega)] | rw [fr_X1 (by omega)] | rw [fr_X5 (by omega)]
