/-! ===== the constructors ===== -/
theorem defX0 : ∀ j, j < 5 → defaultValue (tyX0 j) = if rfk 2 j then .null else .int 0 := by decide +kernel
theorem defX1 : ∀ j, j < 2 → defaultValue (tyX1 j) = if rfk 3 j then .null else .int 0 := by decide +kernel
theorem defX2 : ∀ j, j < 5 → defaultValue (tyX2 j) = if rfk 4 j then .null else .int 0 := by decide +kernel
theorem defX3 : ∀ j, j < 13 → defaultValue (tyX3 j) = if rfk 5 j then .null else .int 0 := by decide +kernel
theorem defX4 : ∀ j, j < 6 → defaultValue (tyX4 j) = if rfk 6 j then .null else .int 0 := by decide +kernel
theorem defX5 : ∀ j, j < 7 → defaultValue (tyX5 j) = if rfk 7 j then .null else .int 0 := by decide +kernel
theorem defX6 : ∀ j, j < 9 → defaultValue (tyX6 j) = if rfk 8 j then .null else .int 0 := by decide +kernel
theorem defX7 : ∀ j, j < 5 → defaultValue (tyX7 j) = if rfk 9 j then .null else .int 0 := by decide +kernel
theorem defX8 : ∀ j, j < 4 → defaultValue (tyX8 j) = if rfk 10 j then .null else .int 0 := by decide +kernel
theorem defX9 : ∀ j, j < 7 → defaultValue (tyX9 j) = if rfk 11 j then .null else .int 0 := by decide +kernel
theorem defX10 : ∀ j, j < 3 → defaultValue (tyX10 j) = if rfk 12 j then .null else .int 0 := by decide +kernel
theorem defX11 : ∀ j, j < 11 → defaultValue (tyX11 j) = if rfk 13 j then .null else .int 0 := by decide +kernel
theorem ko_code : Cond.code Lib.objectInit ⟨#[0xb1]⟩ 1 none ∈ gW := gw_in (gt_1 (List.mem_of_getElem? (i := 42) (by decide +kernel))) (by decide +kernel)
def cI_X8 (o : Nat) (i : MI) : MI := (st i (((o : Nat)) : Int) 3 32)
def cR_X8 (o : Nat) (r : MI) : MI := (st (st (st r (((o : Nat)) : Int) 0 (((o + 1 : Nat)) : Int)) (((o : Nat)) : Int) 1 (((o + 2 : Nat)) : Int)) (((o : Nat)) : Int) 2 (((o + 3 : Nat)) : Int))
theorem mY_X8_init : mY yX8_init cX8_init 1 none 0 := ⟨kw_105, kw_175, by decide, by decide, by decide +kernel⟩
set_option maxRecDepth 100000 in
set_option maxHeartbeats 4000000 in
theorem ct_X8 (l : Launch) (Δ : Wd) (o : Nat) {i r : MI} (ha0 : isA (((o : Nat)) : Int) (10, 0)) (ha1 : isA (((o + 1 : Nat)) : Int) (20, 3)) (ha2 : isA (((o + 2 : Nat)) : Int) (20, 3)) (ha3 : isA (((o + 3 : Nat)) : Int) (22, 3)) (hl1 : lay (o + 1) = (20, 3)) (hl2 : lay (o + 2) = (20, 3)) (hl3 : lay (o + 3) = (22, 3)) (ho : o < 500) (z0 : Zf (o + 1) i r) : Met l yX8_init (Cond.code yX8_init cX8_init 1 none :: gW) (sRx 1 30 3 9) (sPn Δ (o + 1) [.ref (sA Δ (((o : Nat)) : Int))] i r) (sQn Δ (o + 4) (cI_X8 o i) (cR_X8 o r)) 3 9 (sFr Δ) := by
  refine Cc.v (by decide) rfl (Nat.le_of_ble_eq_true rfl) (fun Γ Q0 hG hini fin => ?_)
  have hG : okG Γ Δ l (sRx 1 30 3 9) cX8_init "Schedulary$Statement" 1 := hG
  show V Γ Δ (o + 1) true i r 0 0 Q0 0 [(0, .ref (sA Δ (((o : Nat)) : Int)))] []
  refine V.aload_n (pc := 0) hG dX8_init_0 rfl 0 rfl ?_
  refine V.objInit (pc := 1) hG kw_176 kw_142 ko_code (by decide) dX8_init_1 ?_
  refine V.aload_n (pc := 4) hG dX8_init_4 rfl 0 rfl ?_
  refine V.iconst (pc := 5) hG dX8_init_5 ?_
  refine V.cnewaI (pc := 6) (x := 3) (z := 3) hG kw_198 hl1 rfl (by decide) (by decide) (z0.z (by omega)) ⟨by decide, by decide⟩ dX8_init_6 ?_
  refine V.nn (n2 := o + 2) rfl ?_
  have z1 := z0.up (m := o + 2) (by omega)
  refine V.cputRF (pc := 8) (ci := 10) (k := 0) (M := 4) (T := TX8) (o := (((o : Nat)) : Int)) (kz := 0) (x := (((o + 1 : Nat)) : Int)) hG ha0 (by omega) (by decide) hin_X8 rfl (by decide) (by decide) rfl kw_177 rfl tyX8 tyX8_ok nmX8 rfl hini rfl (ty := tyX8 0) (tyX8_ok 0 (by decide)) (by omega) (fun _ => rfl) (fun _ => rfl) dX8_init_8 ?_
  have z2 := z1.sRf (o := (((o : Nat)) : Int)) (kz := 0) (x := (((o + 1 : Nat)) : Int)) (by omega)
  refine V.aload_n (pc := 11) hG dX8_init_11 rfl 0 rfl ?_
  refine V.iconst (pc := 12) hG dX8_init_12 ?_
  refine V.cnewaI (pc := 13) (x := 3) (z := 3) hG kw_198 hl2 rfl (by decide) (by decide) (z2.z (by omega)) ⟨by decide, by decide⟩ dX8_init_13 ?_
  refine V.nn (n2 := o + 3) rfl ?_
  have z3 := z2.up (m := o + 3) (by omega)
  refine V.cputRF (pc := 15) (ci := 10) (k := 1) (M := 4) (T := TX8) (o := (((o : Nat)) : Int)) (kz := 1) (x := (((o + 2 : Nat)) : Int)) hG ha0 (by omega) (by decide) hin_X8 rfl (by decide) (by decide) rfl kw_181 rfl tyX8 tyX8_ok nmX8 rfl hini rfl (ty := tyX8 1) (tyX8_ok 1 (by decide)) (by omega) (fun _ => rfl) (fun _ => rfl) dX8_init_15 ?_
  have z4 := z3.sRf (o := (((o : Nat)) : Int)) (kz := 1) (x := (((o + 2 : Nat)) : Int)) (by omega)
  refine V.aload_n (pc := 18) hG dX8_init_18 rfl 0 rfl ?_
  refine V.iconst (pc := 19) hG dX8_init_19 ?_
  refine V.cnewaZ (pc := 20) (x := 3) (z := 3) hG kw_199 hl3 rfl (by decide) (by decide) (z4.z (by omega)) ⟨by decide, by decide⟩ dX8_init_20 ?_
  refine V.nn (n2 := o + 4) rfl ?_
  have z5 := z4.up (m := o + 4) (by omega)
  refine V.cputRF (pc := 22) (ci := 10) (k := 2) (M := 4) (T := TX8) (o := (((o : Nat)) : Int)) (kz := 2) (x := (((o + 3 : Nat)) : Int)) hG ha0 (by omega) (by decide) hin_X8 rfl (by decide) (by decide) rfl kw_184 rfl tyX8 tyX8_ok nmX8 rfl hini rfl (ty := tyX8 2) (tyX8_ok 2 (by decide)) (by omega) (fun _ => rfl) (fun _ => rfl) dX8_init_22 ?_
  have z6 := z5.sRf (o := (((o : Nat)) : Int)) (kz := 2) (x := (((o + 3 : Nat)) : Int)) (by omega)
  refine V.aload_n (pc := 25) hG dX8_init_25 rfl 0 rfl ?_
  refine V.bipush (pc := 26) hG dX8_init_26 (by decide) ?_
  refine V.cputI (pc := 28) (ci := 10) (k := 3) (M := 4) (T := TX8) (o := (((o : Nat)) : Int)) (kz := 3) (x := 32) hG ha0 (by omega) (by decide) hin_X8 rfl (by decide) (by decide) rfl kw_187 rfl tyX8 tyX8_ok nmX8 rfl (ty := tyX8 3) (tyX8_ok 3 (by decide)) (nar_c (by decide)) (fit_c (by decide)) dX8_init_28 ?_
  have z7 := z6.sI (o := (((o : Nat)) : Int)) (kz := 3) (x := 32) (by omega)
  exact fin dX8_init_31 (by decide) (by decide)
set_option maxRecDepth 100000 in
theorem zf_X8 (o : Nat) {i r : MI} (z0 : Zf (o + 1) i r) : Zf (o + 4) (cI_X8 o i) (cR_X8 o r) := by
  have z1 := z0.up (m := o + 2) (by omega)
  have z2 := z1.sRf (o := (((o : Nat)) : Int)) (kz := 0) (x := (((o + 1 : Nat)) : Int)) (by omega)
  have z3 := z2.up (m := o + 3) (by omega)
  have z4 := z3.sRf (o := (((o : Nat)) : Int)) (kz := 1) (x := (((o + 2 : Nat)) : Int)) (by omega)
  have z5 := z4.up (m := o + 4) (by omega)
  have z6 := z5.sRf (o := (((o : Nat)) : Int)) (kz := 2) (x := (((o + 3 : Nat)) : Int)) (by omega)
  have z7 := z6.sI (o := (((o : Nat)) : Int)) (kz := 3) (x := 32) (by omega)
  exact z7
set_option maxRecDepth 100000 in
theorem fr_X8 (o : Nat) {r : MI} {a : Int} (ha : a < (((o : Nat)) : Int)) : cR_X8 o r a = r a := by
  unfold cR_X8
  repeat first | rfl | rw [st_row (by omega)] | rw [rowsR_row (by omega)]
def cI_X3 (o : Nat) (i : MI) : MI := i
def cR_X3 (o : Nat) (r : MI) : MI := r
theorem mY_X3_init : mY yX3_init cX3_init 1 none 0 := ⟨kw_108, kw_280, by decide, by decide, by decide +kernel⟩
set_option maxRecDepth 100000 in
set_option maxHeartbeats 4000000 in
theorem ct_X3 (l : Launch) (Δ : Wd) (o : Nat) {i r : MI} (ha0 : isA (((o : Nat)) : Int) (5, 0))  (ho : o < 500) (z0 : Zf (o + 1) i r) : Met l yX3_init (Cond.code yX3_init cX3_init 1 none :: gW) (sRx 1 30 0 0) (sPn Δ (o + 1) [.ref (sA Δ (((o : Nat)) : Int))] i r) (sQn Δ (o + 1) (cI_X3 o i) (cR_X3 o r)) 0 0 (sFr Δ) := by
  refine Cc.v (by decide) rfl (Nat.le_of_ble_eq_true rfl) (fun Γ Q0 hG hini fin => ?_)
  have hG : okG Γ Δ l (sRx 1 30 0 0) cX3_init "Schedulary$Node" 1 := hG
  show V Γ Δ (o + 1) true i r 0 0 Q0 0 [(0, .ref (sA Δ (((o : Nat)) : Int)))] []
  refine V.aload_n (pc := 0) hG dX3_init_0 rfl 0 rfl ?_
  refine V.objInit (pc := 1) hG kw_281 kw_142 ko_code (by decide) dX3_init_1 ?_
  exact fin dX3_init_4 (by decide) (by decide)
set_option maxRecDepth 100000 in
theorem zf_X3 (o : Nat) {i r : MI} (z0 : Zf (o + 1) i r) : Zf (o + 1) (cI_X3 o i) (cR_X3 o r) := by
  
  exact z0
set_option maxRecDepth 100000 in
theorem fr_X3 (o : Nat) {r : MI} {a : Int} (ha : a < (((o : Nat)) : Int)) : cR_X3 o r a = r a := by
  unfold cR_X3
  repeat first | rfl | rw [st_row (by omega)] | rw [rowsR_row (by omega)]
def cI_X7 (o : Nat) (i : MI) : MI := i
def cR_X7 (o : Nat) (r : MI) : MI := (st (st (rowsR (st r (((o : Nat)) : Int) 0 (((o + 1 : Nat)) : Int)) (o + 2) 2) (((o : Nat)) : Int) 1 (((o + 2 : Nat)) : Int)) (((o : Nat)) : Int) 2 (((o + 5 : Nat)) : Int))
theorem mY_X7_init : mY yX7_init cX7_init 1 none 0 := ⟨kw_106, kw_245, by decide, by decide, by decide +kernel⟩
set_option maxRecDepth 100000 in
set_option maxHeartbeats 4000000 in
theorem ct_X7 (l : Launch) (Δ : Wd) (o : Nat) {i r : MI} (ha0 : isA (((o : Nat)) : Int) (9, 0)) (ha1 : isA (((o + 1 : Nat)) : Int) (20, 8)) (ha2 : isA (((o + 2 : Nat)) : Int) (27, 2)) (ha3 : isA (((o + 3 : Nat)) : Int) (20, 16)) (ha4 : isA (((o + 4 : Nat)) : Int) (20, 16)) (ha5 : isA (((o + 5 : Nat)) : Int) (20, 192)) (hl1 : lay (o + 1) = (20, 8)) (hl2 : lay (o + 2) = (27, 2)) (hl3 : lay (o + 3) = (20, 16)) (hl4 : lay (o + 4) = (20, 16)) (hl5 : lay (o + 5) = (20, 192)) (ho : o < 500) (z0 : Zf (o + 1) i r) : Met l yX7_init (Cond.code yX7_init cX7_init 1 none :: gW) (sRx 1 30 5 234) (sPn Δ (o + 1) [.ref (sA Δ (((o : Nat)) : Int))] i r) (sQn Δ (o + 6) (cI_X7 o i) (cR_X7 o r)) 5 234 (sFr Δ) := by
  refine Cc.v (by decide) rfl (Nat.le_of_ble_eq_true rfl) (fun Γ Q0 hG hini fin => ?_)
  have hG : okG Γ Δ l (sRx 1 30 5 234) cX7_init "Schedulary$State" 1 := hG
  show V Γ Δ (o + 1) true i r 0 0 Q0 0 [(0, .ref (sA Δ (((o : Nat)) : Int)))] []
  refine V.aload_n (pc := 0) hG dX7_init_0 rfl 0 rfl ?_
  refine V.objInit (pc := 1) hG kw_246 kw_142 ko_code (by decide) dX7_init_1 ?_
  refine V.aload_n (pc := 4) hG dX7_init_4 rfl 0 rfl ?_
  refine V.bipush (pc := 5) hG dX7_init_5 (by decide) ?_
  refine V.cnewaI (pc := 7) (x := 8) (z := 8) hG kw_198 hl1 rfl (by decide) (by decide) (z0.z (by omega)) ⟨by decide, by decide⟩ dX7_init_7 ?_
  refine V.nn (n2 := o + 2) rfl ?_
  have z1 := z0.up (m := o + 2) (by omega)
  refine V.cputRF (pc := 9) (ci := 9) (k := 0) (M := 5) (T := TX7) (o := (((o : Nat)) : Int)) (kz := 0) (x := (((o + 1 : Nat)) : Int)) hG ha0 (by omega) (by decide) hin_X7 rfl (by decide) (by decide) rfl kw_248 rfl tyX7 tyX7_ok nmX7 rfl hini rfl (ty := tyX7 0) (tyX7_ok 0 (by decide)) (by omega) (fun _ => rfl) (fun _ => rfl) dX7_init_9 ?_
  have z2 := z1.sRf (o := (((o : Nat)) : Int)) (kz := 0) (x := (((o + 1 : Nat)) : Int)) (by omega)
  refine V.aload_n (pc := 12) hG dX7_init_12 rfl 0 rfl ?_
  refine V.iconst (pc := 13) hG dX7_init_13 ?_
  refine V.bipush (pc := 14) hG dX7_init_14 (by decide) ?_
  refine V.cmulti (pc := 16) (x := 2) (y := 16) (N := 2) (K := 16) hG kw_247 kw_198 rfl rfl (by decide) (by decide) hl2 (fun j hj => by rcases (show j = 0 ∨ j = 1 by omega) with rfl | rfl; exact hl3; exact hl4) (z2.zM (by omega)) ⟨by decide, by decide⟩ dX7_init_16 ?_
  have z3 := z2.sM (N := 2)
  refine V.nn (n2 := o + 5) rfl ?_
  have z4 := z3.up (m := o + 5) (by omega)
  refine V.cputRF (pc := 20) (ci := 9) (k := 1) (M := 5) (T := TX7) (o := (((o : Nat)) : Int)) (kz := 1) (x := (((o + 2 : Nat)) : Int)) hG ha0 (by omega) (by decide) hin_X7 rfl (by decide) (by decide) rfl kw_251 rfl tyX7 tyX7_ok nmX7 rfl hini rfl (ty := tyX7 1) (tyX7_ok 1 (by decide)) (by omega) (fun _ => rfl) (fun _ => rfl) dX7_init_20 ?_
  have z5 := z4.sRf (o := (((o : Nat)) : Int)) (kz := 1) (x := (((o + 2 : Nat)) : Int)) (by omega)
  refine V.aload_n (pc := 23) hG dX7_init_23 rfl 0 rfl ?_
  refine V.sipush (pc := 24) hG dX7_init_24 (by decide) ?_
  refine V.cnewaI (pc := 27) (x := 192) (z := 192) hG kw_198 hl5 rfl (by decide) (by decide) (z5.z (by omega)) ⟨by decide, by decide⟩ dX7_init_27 ?_
  refine V.nn (n2 := o + 6) rfl ?_
  have z6 := z5.up (m := o + 6) (by omega)
  refine V.cputRF (pc := 29) (ci := 9) (k := 2) (M := 5) (T := TX7) (o := (((o : Nat)) : Int)) (kz := 2) (x := (((o + 5 : Nat)) : Int)) hG ha0 (by omega) (by decide) hin_X7 rfl (by decide) (by decide) rfl kw_252 rfl tyX7 tyX7_ok nmX7 rfl hini rfl (ty := tyX7 2) (tyX7_ok 2 (by decide)) (by omega) (fun _ => rfl) (fun _ => rfl) dX7_init_29 ?_
  have z7 := z6.sRf (o := (((o : Nat)) : Int)) (kz := 2) (x := (((o + 5 : Nat)) : Int)) (by omega)
  exact fin dX7_init_32 (by decide) (by decide)
set_option maxRecDepth 100000 in
theorem zf_X7 (o : Nat) {i r : MI} (z0 : Zf (o + 1) i r) : Zf (o + 6) (cI_X7 o i) (cR_X7 o r) := by
  have z1 := z0.up (m := o + 2) (by omega)
  have z2 := z1.sRf (o := (((o : Nat)) : Int)) (kz := 0) (x := (((o + 1 : Nat)) : Int)) (by omega)
  have z3 := z2.sM (N := 2)
  have z4 := z3.up (m := o + 5) (by omega)
  have z5 := z4.sRf (o := (((o : Nat)) : Int)) (kz := 1) (x := (((o + 2 : Nat)) : Int)) (by omega)
  have z6 := z5.up (m := o + 6) (by omega)
  have z7 := z6.sRf (o := (((o : Nat)) : Int)) (kz := 2) (x := (((o + 5 : Nat)) : Int)) (by omega)
  exact z7
set_option maxRecDepth 100000 in
theorem fr_X7 (o : Nat) {r : MI} {a : Int} (ha : a < (((o : Nat)) : Int)) : cR_X7 o r a = r a := by
  unfold cR_X7
  repeat first | rfl | rw [st_row (by omega)] | rw [rowsR_row (by omega)]
def cI_X10 (i : MI) : MI := i
def cR_X10 (r : MI) : MI := (st r 1 0 2)
theorem mY_X10_init : mY yX10_init cX10_init 1 none 0 := ⟨kw_103, kw_148, by decide, by decide, by decide +kernel⟩
set_option maxRecDepth 100000 in
set_option maxHeartbeats 4000000 in
theorem ct_X10 (l : Launch) (Δ : Wd) {i r : MI}  (z0 : Zf (2) i r) : Met l yX10_init (Cond.code yX10_init cX10_init 1 none :: gW) (sRx 1 30 1 24) (sPn Δ (2) [.ref (sA Δ 1)] i r) (sQn Δ (3) (cI_X10 i) (cR_X10 r)) 1 24 (sFr Δ) := by
  refine Cc.v (by decide) rfl (Nat.le_of_ble_eq_true rfl) (fun Γ Q0 hG hini fin => ?_)
  have hG : okG Γ Δ l (sRx 1 30 1 24) cX10_init "Schedulary$Text" 1 := hG
  show V Γ Δ (2) true i r 0 0 Q0 0 [(0, .ref (sA Δ 1))] []
  refine V.aload_n (pc := 0) hG dX10_init_0 rfl 0 rfl ?_
  refine V.objInit (pc := 1) hG kw_149 kw_142 ko_code (by decide) dX10_init_1 ?_
  refine V.aload_n (pc := 4) hG dX10_init_4 rfl 0 rfl ?_
  refine V.bipush (pc := 5) hG dX10_init_5 (by decide) ?_
  refine V.cnewaC (pc := 7) (x := 24) (z := 24) hG kw_161 (by decide +kernel) rfl (by decide) (by decide) (z0.z (by decide)) ⟨by decide, by decide⟩ dX10_init_7 ?_
  refine V.nn (n2 := 3) rfl ?_
  have z1 := z0.up (m := 3) (by omega)
  refine V.cputRF (pc := 9) (ci := 12) (k := 0) (M := 3) (T := TX10) (o := 1) (kz := 0) (x := 2) hG (isA.of (by decide +kernel)) (by decide) (by decide) hin_X10 rfl (by decide) (by decide) rfl kw_150 rfl tyX10 tyX10_ok nmX10 rfl hini rfl (ty := tyX10 0) (tyX10_ok 0 (by decide)) (by decide) (fun _ => rfl) (fun _ => rfl) dX10_init_9 ?_
  have z2 := z1.sRf (o := 1) (kz := 0) (x := 2) (by decide)
  exact fin dX10_init_12 (by decide) (by decide)
set_option maxRecDepth 100000 in
theorem zf_X10 {i r : MI} (z0 : Zf (2) i r) : Zf (3) (cI_X10 i) (cR_X10 r) := by
  have z1 := z0.up (m := 3) (by omega)
  have z2 := z1.sRf (o := 1) (kz := 0) (x := 2) (by decide)
  exact z2
set_option maxRecDepth 100000 in
theorem fr_X10 {r : MI} {a : Int} (ha : a < 1) : cR_X10 r a = r a := by
  unfold cR_X10
  repeat first | rfl | rw [st_row (by omega)] | rw [rowsR_row (by omega)]
def cI_X9 (i : MI) : MI := i
def cR_X9 (r : MI) : MI := (st (st (st (st (st (st (st r 461 0 462) 461 1 463) 461 2 464) 461 3 465) 461 4 466) 461 5 467) 461 6 468)
theorem mY_X9_init : mY yX9_init cX9_init 1 none 0 := ⟨kw_110, kw_417, by decide, by decide, by decide +kernel⟩
set_option maxRecDepth 100000 in
set_option maxHeartbeats 4000000 in
theorem ct_X9 (l : Launch) (Δ : Wd) {i r : MI}  (z0 : Zf (462) i r) : Met l yX9_init (Cond.code yX9_init cX9_init 1 none :: gW) (sRx 1 30 7 968) (sPn Δ (462) [.ref (sA Δ 461)] i r) (sQn Δ (469) (cI_X9 i) (cR_X9 r)) 7 968 (sFr Δ) := by
  refine Cc.v (by decide) rfl (Nat.le_of_ble_eq_true rfl) (fun Γ Q0 hG hini fin => ?_)
  have hG : okG Γ Δ l (sRx 1 30 7 968) cX9_init "Schedulary$Steps" 1 := hG
  show V Γ Δ (462) true i r 0 0 Q0 0 [(0, .ref (sA Δ 461))] []
  refine V.aload_n (pc := 0) hG dX9_init_0 rfl 0 rfl ?_
  refine V.objInit (pc := 1) hG kw_418 kw_142 ko_code (by decide) dX9_init_1 ?_
  refine V.aload_n (pc := 4) hG dX9_init_4 rfl 0 rfl ?_
  refine V.bipush (pc := 5) hG dX9_init_5 (by decide) ?_
  refine V.cnewaI (pc := 7) (x := 96) (z := 96) hG kw_198 (by decide +kernel) rfl (by decide) (by decide) (z0.z (by decide)) ⟨by decide, by decide⟩ dX9_init_7 ?_
  refine V.nn (n2 := 463) rfl ?_
  have z1 := z0.up (m := 463) (by omega)
  refine V.cputRF (pc := 9) (ci := 11) (k := 0) (M := 7) (T := TX9) (o := 461) (kz := 0) (x := 462) hG (isA.of (by decide +kernel)) (by decide) (by decide) hin_X9 rfl (by decide) (by decide) rfl kw_419 rfl tyX9 tyX9_ok nmX9 rfl hini rfl (ty := tyX9 0) (tyX9_ok 0 (by decide)) (by decide) (fun _ => rfl) (fun _ => rfl) dX9_init_9 ?_
  have z2 := z1.sRf (o := 461) (kz := 0) (x := 462) (by decide)
  refine V.aload_n (pc := 12) hG dX9_init_12 rfl 0 rfl ?_
  refine V.bipush (pc := 13) hG dX9_init_13 (by decide) ?_
  refine V.cnewaI (pc := 15) (x := 96) (z := 96) hG kw_198 (by decide +kernel) rfl (by decide) (by decide) (z2.z (by decide)) ⟨by decide, by decide⟩ dX9_init_15 ?_
  refine V.nn (n2 := 464) rfl ?_
  have z3 := z2.up (m := 464) (by omega)
  refine V.cputRF (pc := 17) (ci := 11) (k := 1) (M := 7) (T := TX9) (o := 461) (kz := 1) (x := 463) hG (isA.of (by decide +kernel)) (by decide) (by decide) hin_X9 rfl (by decide) (by decide) rfl kw_421 rfl tyX9 tyX9_ok nmX9 rfl hini rfl (ty := tyX9 1) (tyX9_ok 1 (by decide)) (by decide) (fun _ => rfl) (fun _ => rfl) dX9_init_17 ?_
  have z4 := z3.sRf (o := 461) (kz := 1) (x := 463) (by decide)
  refine V.aload_n (pc := 20) hG dX9_init_20 rfl 0 rfl ?_
  refine V.bipush (pc := 21) hG dX9_init_21 (by decide) ?_
  refine V.cnewaI (pc := 23) (x := 96) (z := 96) hG kw_198 (by decide +kernel) rfl (by decide) (by decide) (z4.z (by decide)) ⟨by decide, by decide⟩ dX9_init_23 ?_
  refine V.nn (n2 := 465) rfl ?_
  have z5 := z4.up (m := 465) (by omega)
  refine V.cputRF (pc := 25) (ci := 11) (k := 2) (M := 7) (T := TX9) (o := 461) (kz := 2) (x := 464) hG (isA.of (by decide +kernel)) (by decide) (by decide) hin_X9 rfl (by decide) (by decide) rfl kw_423 rfl tyX9 tyX9_ok nmX9 rfl hini rfl (ty := tyX9 2) (tyX9_ok 2 (by decide)) (by decide) (fun _ => rfl) (fun _ => rfl) dX9_init_25 ?_
  have z6 := z5.sRf (o := 461) (kz := 2) (x := 464) (by decide)
  refine V.aload_n (pc := 28) hG dX9_init_28 rfl 0 rfl ?_
  refine V.bipush (pc := 29) hG dX9_init_29 (by decide) ?_
  refine V.cnewaI (pc := 31) (x := 96) (z := 96) hG kw_198 (by decide +kernel) rfl (by decide) (by decide) (z6.z (by decide)) ⟨by decide, by decide⟩ dX9_init_31 ?_
  refine V.nn (n2 := 466) rfl ?_
  have z7 := z6.up (m := 466) (by omega)
  refine V.cputRF (pc := 33) (ci := 11) (k := 3) (M := 7) (T := TX9) (o := 461) (kz := 3) (x := 465) hG (isA.of (by decide +kernel)) (by decide) (by decide) hin_X9 rfl (by decide) (by decide) rfl kw_425 rfl tyX9 tyX9_ok nmX9 rfl hini rfl (ty := tyX9 3) (tyX9_ok 3 (by decide)) (by decide) (fun _ => rfl) (fun _ => rfl) dX9_init_33 ?_
  have z8 := z7.sRf (o := 461) (kz := 3) (x := 465) (by decide)
  refine V.aload_n (pc := 36) hG dX9_init_36 rfl 0 rfl ?_
  refine V.bipush (pc := 37) hG dX9_init_37 (by decide) ?_
  refine V.cnewaI (pc := 39) (x := 96) (z := 96) hG kw_198 (by decide +kernel) rfl (by decide) (by decide) (z8.z (by decide)) ⟨by decide, by decide⟩ dX9_init_39 ?_
  refine V.nn (n2 := 467) rfl ?_
  have z9 := z8.up (m := 467) (by omega)
  refine V.cputRF (pc := 41) (ci := 11) (k := 4) (M := 7) (T := TX9) (o := 461) (kz := 4) (x := 466) hG (isA.of (by decide +kernel)) (by decide) (by decide) hin_X9 rfl (by decide) (by decide) rfl kw_426 rfl tyX9 tyX9_ok nmX9 rfl hini rfl (ty := tyX9 4) (tyX9_ok 4 (by decide)) (by decide) (fun _ => rfl) (fun _ => rfl) dX9_init_41 ?_
  have z10 := z9.sRf (o := 461) (kz := 4) (x := 466) (by decide)
  refine V.aload_n (pc := 44) hG dX9_init_44 rfl 0 rfl ?_
  refine V.bipush (pc := 45) hG dX9_init_45 (by decide) ?_
  refine V.cnewaI (pc := 47) (x := 7) (z := 7) hG kw_198 (by decide +kernel) rfl (by decide) (by decide) (z10.z (by decide)) ⟨by decide, by decide⟩ dX9_init_47 ?_
  refine V.nn (n2 := 468) rfl ?_
  have z11 := z10.up (m := 468) (by omega)
  refine V.cputRF (pc := 49) (ci := 11) (k := 5) (M := 7) (T := TX9) (o := 461) (kz := 5) (x := 467) hG (isA.of (by decide +kernel)) (by decide) (by decide) hin_X9 rfl (by decide) (by decide) rfl kw_427 rfl tyX9 tyX9_ok nmX9 rfl hini rfl (ty := tyX9 5) (tyX9_ok 5 (by decide)) (by decide) (fun _ => rfl) (fun _ => rfl) dX9_init_49 ?_
  have z12 := z11.sRf (o := 461) (kz := 5) (x := 467) (by decide)
  refine V.aload_n (pc := 52) hG dX9_init_52 rfl 0 rfl ?_
  refine V.sipush (pc := 53) hG dX9_init_53 (by decide) ?_
  refine V.cnewaI (pc := 56) (x := 481) (z := 481) hG kw_198 (by decide +kernel) rfl (by decide) (by decide) (z12.z (by decide)) ⟨by decide, by decide⟩ dX9_init_56 ?_
  refine V.nn (n2 := 469) rfl ?_
  have z13 := z12.up (m := 469) (by omega)
  refine V.cputRF (pc := 58) (ci := 11) (k := 6) (M := 7) (T := TX9) (o := 461) (kz := 6) (x := 468) hG (isA.of (by decide +kernel)) (by decide) (by decide) hin_X9 rfl (by decide) (by decide) rfl kw_428 rfl tyX9 tyX9_ok nmX9 rfl hini rfl (ty := tyX9 6) (tyX9_ok 6 (by decide)) (by decide) (fun _ => rfl) (fun _ => rfl) dX9_init_58 ?_
  have z14 := z13.sRf (o := 461) (kz := 6) (x := 468) (by decide)
  exact fin dX9_init_61 (by decide) (by decide)
set_option maxRecDepth 100000 in
theorem zf_X9 {i r : MI} (z0 : Zf (462) i r) : Zf (469) (cI_X9 i) (cR_X9 r) := by
  have z1 := z0.up (m := 463) (by omega)
  have z2 := z1.sRf (o := 461) (kz := 0) (x := 462) (by decide)
  have z3 := z2.up (m := 464) (by omega)
  have z4 := z3.sRf (o := 461) (kz := 1) (x := 463) (by decide)
  have z5 := z4.up (m := 465) (by omega)
  have z6 := z5.sRf (o := 461) (kz := 2) (x := 464) (by decide)
  have z7 := z6.up (m := 466) (by omega)
  have z8 := z7.sRf (o := 461) (kz := 3) (x := 465) (by decide)
  have z9 := z8.up (m := 467) (by omega)
  have z10 := z9.sRf (o := 461) (kz := 4) (x := 466) (by decide)
  have z11 := z10.up (m := 468) (by omega)
  have z12 := z11.sRf (o := 461) (kz := 5) (x := 467) (by decide)
  have z13 := z12.up (m := 469) (by omega)
  have z14 := z13.sRf (o := 461) (kz := 6) (x := 468) (by decide)
  exact z14
set_option maxRecDepth 100000 in
theorem fr_X9 {r : MI} {a : Int} (ha : a < 461) : cR_X9 r a = r a := by
  unfold cR_X9
  repeat first | rfl | rw [st_row (by omega)] | rw [rowsR_row (by omega)]
def cI_X2 (i : MI) : MI := i
def cR_X2 (r : MI) : MI := (st (st (rowsR (st (rowsR (st (rowsR r 169 96) 168 0 169) 266 96) 168 1 266) 363 96) 168 2 363) 168 3 460)
theorem mY_X2_init : mY yX2_init cX2_init 1 none 0 := ⟨kw_109, kw_384, by decide, by decide, by decide +kernel⟩
set_option maxRecDepth 100000 in
set_option maxHeartbeats 4000000 in
theorem ct_X2 (l : Launch) (Δ : Wd) {i r : MI}  (z0 : Zf (169) i r) : Met l yX2_init (Cond.code yX2_init cX2_init 1 none :: gW) (sRx 1 30 292 29184) (sPn Δ (169) [.ref (sA Δ 168)] i r) (sQn Δ (461) (cI_X2 i) (cR_X2 r)) 292 29184 (sFr Δ) := by
  refine Cc.v (by decide) rfl (Nat.le_of_ble_eq_true rfl) (fun Γ Q0 hG hini fin => ?_)
  have hG : okG Γ Δ l (sRx 1 30 292 29184) cX2_init "Schedulary$Graph" 1 := hG
  show V Γ Δ (169) true i r 0 0 Q0 0 [(0, .ref (sA Δ 168))] []
  refine V.aload_n (pc := 0) hG dX2_init_0 rfl 0 rfl ?_
  refine V.objInit (pc := 1) hG kw_385 kw_142 ko_code (by decide) dX2_init_1 ?_
  refine V.aload_n (pc := 4) hG dX2_init_4 rfl 0 rfl ?_
  refine V.bipush (pc := 5) hG dX2_init_5 (by decide) ?_
  refine V.bipush (pc := 7) hG dX2_init_7 (by decide) ?_
  refine V.cmulti (pc := 9) (x := 96) (y := 100) (N := 96) (K := 100) hG kw_386 kw_198 rfl rfl (by decide) (by decide) (by decide +kernel) (by decide +kernel) (z0.zM (by omega)) ⟨by decide, by decide⟩ dX2_init_9 ?_
  have z1 := z0.sM (N := 96)
  refine V.nn (n2 := 266) rfl ?_
  have z2 := z1.up (m := 266) (by omega)
  refine V.cputRF (pc := 13) (ci := 4) (k := 0) (M := 5) (T := TX2) (o := 168) (kz := 0) (x := 169) hG (isA.of (by decide +kernel)) (by decide) (by decide) hin_X2 rfl (by decide) (by decide) rfl kw_387 rfl tyX2 tyX2_ok nmX2 rfl hini rfl (ty := tyX2 0) (tyX2_ok 0 (by decide)) (by decide) (fun _ => rfl) (fun _ => rfl) dX2_init_13 ?_
  have z3 := z2.sRf (o := 168) (kz := 0) (x := 169) (by decide)
  refine V.aload_n (pc := 16) hG dX2_init_16 rfl 0 rfl ?_
  refine V.bipush (pc := 17) hG dX2_init_17 (by decide) ?_
  refine V.bipush (pc := 19) hG dX2_init_19 (by decide) ?_
  refine V.cmulti (pc := 21) (x := 96) (y := 100) (N := 96) (K := 100) hG kw_386 kw_198 rfl rfl (by decide) (by decide) (by decide +kernel) (by decide +kernel) (z3.zM (by omega)) ⟨by decide, by decide⟩ dX2_init_21 ?_
  have z4 := z3.sM (N := 96)
  refine V.nn (n2 := 363) rfl ?_
  have z5 := z4.up (m := 363) (by omega)
  refine V.cputRF (pc := 25) (ci := 4) (k := 1) (M := 5) (T := TX2) (o := 168) (kz := 1) (x := 266) hG (isA.of (by decide +kernel)) (by decide) (by decide) hin_X2 rfl (by decide) (by decide) rfl kw_390 rfl tyX2 tyX2_ok nmX2 rfl hini rfl (ty := tyX2 1) (tyX2_ok 1 (by decide)) (by decide) (fun _ => rfl) (fun _ => rfl) dX2_init_25 ?_
  have z6 := z5.sRf (o := 168) (kz := 1) (x := 266) (by decide)
  refine V.aload_n (pc := 28) hG dX2_init_28 rfl 0 rfl ?_
  refine V.bipush (pc := 29) hG dX2_init_29 (by decide) ?_
  refine V.bipush (pc := 31) hG dX2_init_31 (by decide) ?_
  refine V.cmulti (pc := 33) (x := 96) (y := 100) (N := 96) (K := 100) hG kw_386 kw_198 rfl rfl (by decide) (by decide) (by decide +kernel) (by decide +kernel) (z6.zM (by omega)) ⟨by decide, by decide⟩ dX2_init_33 ?_
  have z7 := z6.sM (N := 96)
  refine V.nn (n2 := 460) rfl ?_
  have z8 := z7.up (m := 460) (by omega)
  refine V.cputRF (pc := 37) (ci := 4) (k := 2) (M := 5) (T := TX2) (o := 168) (kz := 2) (x := 363) hG (isA.of (by decide +kernel)) (by decide) (by decide) hin_X2 rfl (by decide) (by decide) rfl kw_393 rfl tyX2 tyX2_ok nmX2 rfl hini rfl (ty := tyX2 2) (tyX2_ok 2 (by decide)) (by decide) (fun _ => rfl) (fun _ => rfl) dX2_init_37 ?_
  have z9 := z8.sRf (o := 168) (kz := 2) (x := 363) (by decide)
  refine V.aload_n (pc := 40) hG dX2_init_40 rfl 0 rfl ?_
  refine V.bipush (pc := 41) hG dX2_init_41 (by decide) ?_
  refine V.cnewaI (pc := 43) (x := 96) (z := 96) hG kw_198 (by decide +kernel) rfl (by decide) (by decide) (z9.z (by decide)) ⟨by decide, by decide⟩ dX2_init_43 ?_
  refine V.nn (n2 := 461) rfl ?_
  have z10 := z9.up (m := 461) (by omega)
  refine V.cputRF (pc := 45) (ci := 4) (k := 3) (M := 5) (T := TX2) (o := 168) (kz := 3) (x := 460) hG (isA.of (by decide +kernel)) (by decide) (by decide) hin_X2 rfl (by decide) (by decide) rfl kw_397 rfl tyX2 tyX2_ok nmX2 rfl hini rfl (ty := tyX2 3) (tyX2_ok 3 (by decide)) (by decide) (fun _ => rfl) (fun _ => rfl) dX2_init_45 ?_
  have z11 := z10.sRf (o := 168) (kz := 3) (x := 460) (by decide)
  exact fin dX2_init_48 (by decide) (by decide)
set_option maxRecDepth 100000 in
theorem zf_X2 {i r : MI} (z0 : Zf (169) i r) : Zf (461) (cI_X2 i) (cR_X2 r) := by
  have z1 := z0.sM (N := 96)
  have z2 := z1.up (m := 266) (by omega)
  have z3 := z2.sRf (o := 168) (kz := 0) (x := 169) (by decide)
  have z4 := z3.sM (N := 96)
  have z5 := z4.up (m := 363) (by omega)
  have z6 := z5.sRf (o := 168) (kz := 1) (x := 266) (by decide)
  have z7 := z6.sM (N := 96)
  have z8 := z7.up (m := 460) (by omega)
  have z9 := z8.sRf (o := 168) (kz := 2) (x := 363) (by decide)
  have z10 := z9.up (m := 461) (by omega)
  have z11 := z10.sRf (o := 168) (kz := 3) (x := 460) (by decide)
  exact z11
set_option maxRecDepth 100000 in
theorem fr_X2 {r : MI} {a : Int} (ha : a < 168) : cR_X2 r a = r a := by
  unfold cR_X2
  repeat first | rfl | rw [st_row (by omega)] | rw [rowsR_row (by omega)]
def cI_X4 (i : MI) : MI := (st (st (st i 469 3 1) 469 4 1) 469 5 1)
def cR_X4 (r : MI) : MI := (st (rowsR (st (st r 469 0 470) 469 1 471) 472 7) 469 2 472)
theorem mY_X4_init : mY yX4_init cX4_init 1 none 0 := ⟨kw_111, kw_448, by decide, by decide, by decide +kernel⟩
set_option maxRecDepth 100000 in
set_option maxHeartbeats 4000000 in
theorem ct_X4 (l : Launch) (Δ : Wd) {i r : MI}  (z0 : Zf (470) i r) : Met l yX4_init (Cond.code yX4_init cX4_init 1 none :: gW) (sRx 1 30 10 3566) (sPn Δ (470) [.ref (sA Δ 469)] i r) (sQn Δ (480) (cI_X4 i) (cR_X4 r)) 10 3566 (sFr Δ) := by
  refine Cc.v (by decide) rfl (Nat.le_of_ble_eq_true rfl) (fun Γ Q0 hG hini fin => ?_)
  have hG : okG Γ Δ l (sRx 1 30 10 3566) cX4_init "Schedulary$Pace" 1 := hG
  show V Γ Δ (470) true i r 0 0 Q0 0 [(0, .ref (sA Δ 469))] []
  refine V.aload_n (pc := 0) hG dX4_init_0 rfl 0 rfl ?_
  refine V.objInit (pc := 1) hG kw_449 kw_142 ko_code (by decide) dX4_init_1 ?_
  refine V.aload_n (pc := 4) hG dX4_init_4 rfl 0 rfl ?_
  refine V.bipush (pc := 5) hG dX4_init_5 (by decide) ?_
  refine V.cnewaI (pc := 7) (x := 96) (z := 96) hG kw_198 (by decide +kernel) rfl (by decide) (by decide) (z0.z (by decide)) ⟨by decide, by decide⟩ dX4_init_7 ?_
  refine V.nn (n2 := 471) rfl ?_
  have z1 := z0.up (m := 471) (by omega)
  refine V.cputRF (pc := 9) (ci := 6) (k := 0) (M := 6) (T := TX4) (o := 469) (kz := 0) (x := 470) hG (isA.of (by decide +kernel)) (by decide) (by decide) hin_X4 rfl (by decide) (by decide) rfl kw_451 rfl tyX4 tyX4_ok nmX4 rfl hini rfl (ty := tyX4 0) (tyX4_ok 0 (by decide)) (by decide) (fun _ => rfl) (fun _ => rfl) dX4_init_9 ?_
  have z2 := z1.sRf (o := 469) (kz := 0) (x := 470) (by decide)
  refine V.aload_n (pc := 12) hG dX4_init_12 rfl 0 rfl ?_
  refine V.bipush (pc := 13) hG dX4_init_13 (by decide) ?_
  refine V.cnewaI (pc := 15) (x := 96) (z := 96) hG kw_198 (by decide +kernel) rfl (by decide) (by decide) (z2.z (by decide)) ⟨by decide, by decide⟩ dX4_init_15 ?_
  refine V.nn (n2 := 472) rfl ?_
  have z3 := z2.up (m := 472) (by omega)
  refine V.cputRF (pc := 17) (ci := 6) (k := 1) (M := 6) (T := TX4) (o := 469) (kz := 1) (x := 471) hG (isA.of (by decide +kernel)) (by decide) (by decide) hin_X4 rfl (by decide) (by decide) rfl kw_454 rfl tyX4 tyX4_ok nmX4 rfl hini rfl (ty := tyX4 1) (tyX4_ok 1 (by decide)) (by decide) (fun _ => rfl) (fun _ => rfl) dX4_init_17 ?_
  have z4 := z3.sRf (o := 469) (kz := 1) (x := 471) (by decide)
  refine V.aload_n (pc := 20) hG dX4_init_20 rfl 0 rfl ?_
  refine V.bipush (pc := 21) hG dX4_init_21 (by decide) ?_
  refine V.sipush (pc := 23) hG dX4_init_23 (by decide) ?_
  refine V.cmulti (pc := 26) (x := 7) (y := 481) (N := 7) (K := 481) hG kw_450 kw_198 rfl rfl (by decide) (by decide) (by decide +kernel) (by decide +kernel) (z4.zM (by omega)) ⟨by decide, by decide⟩ dX4_init_26 ?_
  have z5 := z4.sM (N := 7)
  refine V.nn (n2 := 480) rfl ?_
  have z6 := z5.up (m := 480) (by omega)
  refine V.cputRF (pc := 30) (ci := 6) (k := 2) (M := 6) (T := TX4) (o := 469) (kz := 2) (x := 472) hG (isA.of (by decide +kernel)) (by decide) (by decide) hin_X4 rfl (by decide) (by decide) rfl kw_455 rfl tyX4 tyX4_ok nmX4 rfl hini rfl (ty := tyX4 2) (tyX4_ok 2 (by decide)) (by decide) (fun _ => rfl) (fun _ => rfl) dX4_init_30 ?_
  have z7 := z6.sRf (o := 469) (kz := 2) (x := 472) (by decide)
  refine V.aload_n (pc := 33) hG dX4_init_33 rfl 0 rfl ?_
  refine V.iconst (pc := 34) hG dX4_init_34 ?_
  refine V.cputI (pc := 35) (ci := 6) (k := 3) (M := 6) (T := TX4) (o := 469) (kz := 3) (x := 1) hG (isA.of (by decide +kernel)) (by decide) (by decide) hin_X4 rfl (by decide) (by decide) rfl kw_456 rfl tyX4 tyX4_ok nmX4 rfl (ty := tyX4 3) (tyX4_ok 3 (by decide)) rfl rfl dX4_init_35 ?_
  have z8 := z7.sI (o := 469) (kz := 3) (x := 1) (by decide)
  refine V.aload_n (pc := 38) hG dX4_init_38 rfl 0 rfl ?_
  refine V.iconst (pc := 39) hG dX4_init_39 ?_
  refine V.cputI (pc := 40) (ci := 6) (k := 4) (M := 6) (T := TX4) (o := 469) (kz := 4) (x := 1) hG (isA.of (by decide +kernel)) (by decide) (by decide) hin_X4 rfl (by decide) (by decide) rfl kw_458 rfl tyX4 tyX4_ok nmX4 rfl (ty := tyX4 4) (tyX4_ok 4 (by decide)) rfl rfl dX4_init_40 ?_
  have z9 := z8.sI (o := 469) (kz := 4) (x := 1) (by decide)
  refine V.aload_n (pc := 43) hG dX4_init_43 rfl 0 rfl ?_
  refine V.iconst (pc := 44) hG dX4_init_44 ?_
  refine V.cputI (pc := 45) (ci := 6) (k := 5) (M := 6) (T := TX4) (o := 469) (kz := 5) (x := 1) hG (isA.of (by decide +kernel)) (by decide) (by decide) hin_X4 rfl (by decide) (by decide) rfl kw_460 rfl tyX4 tyX4_ok nmX4 rfl (ty := tyX4 5) (tyX4_ok 5 (by decide)) rfl rfl dX4_init_45 ?_
  have z10 := z9.sI (o := 469) (kz := 5) (x := 1) (by decide)
  exact fin dX4_init_48 (by decide) (by decide)
set_option maxRecDepth 100000 in
theorem zf_X4 {i r : MI} (z0 : Zf (470) i r) : Zf (480) (cI_X4 i) (cR_X4 r) := by
  have z1 := z0.up (m := 471) (by omega)
  have z2 := z1.sRf (o := 469) (kz := 0) (x := 470) (by decide)
  have z3 := z2.up (m := 472) (by omega)
  have z4 := z3.sRf (o := 469) (kz := 1) (x := 471) (by decide)
  have z5 := z4.sM (N := 7)
  have z6 := z5.up (m := 480) (by omega)
  have z7 := z6.sRf (o := 469) (kz := 2) (x := 472) (by decide)
  have z8 := z7.sI (o := 469) (kz := 3) (x := 1) (by decide)
  have z9 := z8.sI (o := 469) (kz := 4) (x := 1) (by decide)
  have z10 := z9.sI (o := 469) (kz := 5) (x := 1) (by decide)
  exact z10
set_option maxRecDepth 100000 in
theorem fr_X4 {r : MI} {a : Int} (ha : a < 469) : cR_X4 r a = r a := by
  unfold cR_X4
  repeat first | rfl | rw [st_row (by omega)] | rw [rowsR_row (by omega)]
def cI_X5 (i : MI) : MI := (st (st (st (st i 500 0 1) 500 1 1) 500 2 1) 500 3 1)
def cR_X5 (r : MI) : MI := (st (st (st (st (st (st (rowsR (st (rowsR r 489 4) 488 0 489) 494 4) 488 1 494) 488 2 499) 488 3 500) 488 4 501) 488 5 502) 488 6 503)
theorem mY_X5_init : mY yX5_init cX5_init 2 none 0 := ⟨kw_113, kw_496, by decide, by decide, by decide +kernel⟩
set_option maxRecDepth 100000 in
set_option maxHeartbeats 4000000 in
theorem ct_X5 (l : Launch) (Δ : Wd) {i r : MI}  (z0 : Zf (489) i r) : Met l yX5_init (Cond.code yX5_init cX5_init 2 none :: gW) (sRx 1 30 15 156) (sPn Δ (489) [.ref (sA Δ 488)] i r) (sQn Δ (504) (cI_X5 i) (cR_X5 r)) 15 156 (sFr Δ) := by
  refine Cc.v (by decide) rfl (Nat.le_of_ble_eq_true rfl) (fun Γ Q0 hG hini fin => ?_)
  have hG : okG Γ Δ l (sRx 1 30 15 156) cX5_init "Schedulary$Processes" 2 := hG
  show V Γ Δ (489) true i r 0 0 Q0 0 [(0, .ref (sA Δ 488))] []
  refine V.aload_n (pc := 0) hG dX5_init_0 rfl 0 rfl ?_
  refine V.objInit (pc := 1) hG kw_497 kw_142 ko_code (by decide) dX5_init_1 ?_
  refine V.aload_n (pc := 4) hG dX5_init_4 rfl 0 rfl ?_
  refine V.iconst (pc := 5) hG dX5_init_5 ?_
  refine V.bipush (pc := 6) hG dX5_init_6 (by decide) ?_
  refine V.cmulti (pc := 8) (x := 4) (y := 16) (N := 4) (K := 16) hG kw_498 kw_198 rfl rfl (by decide) (by decide) (by decide +kernel) (by decide +kernel) (z0.zM (by omega)) ⟨by decide, by decide⟩ dX5_init_8 ?_
  have z1 := z0.sM (N := 4)
  refine V.nn (n2 := 494) rfl ?_
  have z2 := z1.up (m := 494) (by omega)
  refine V.cputRF (pc := 12) (ci := 7) (k := 0) (M := 7) (T := TX5) (o := 488) (kz := 0) (x := 489) hG (isA.of (by decide +kernel)) (by decide) (by decide) hin_X5 rfl (by decide) (by decide) rfl kw_499 rfl tyX5 tyX5_ok nmX5 rfl hini rfl (ty := tyX5 0) (tyX5_ok 0 (by decide)) (by decide) (fun _ => rfl) (fun _ => rfl) dX5_init_12 ?_
  have z3 := z2.sRf (o := 488) (kz := 0) (x := 489) (by decide)
  refine V.aload_n (pc := 15) hG dX5_init_15 rfl 0 rfl ?_
  refine V.iconst (pc := 16) hG dX5_init_16 ?_
  refine V.bipush (pc := 17) hG dX5_init_17 (by decide) ?_
  refine V.cmulti (pc := 19) (x := 4) (y := 16) (N := 4) (K := 16) hG kw_498 kw_198 rfl rfl (by decide) (by decide) (by decide +kernel) (by decide +kernel) (z3.zM (by omega)) ⟨by decide, by decide⟩ dX5_init_19 ?_
  have z4 := z3.sM (N := 4)
  refine V.nn (n2 := 499) rfl ?_
  have z5 := z4.up (m := 499) (by omega)
  refine V.cputRF (pc := 23) (ci := 7) (k := 1) (M := 7) (T := TX5) (o := 488) (kz := 1) (x := 494) hG (isA.of (by decide +kernel)) (by decide) (by decide) hin_X5 rfl (by decide) (by decide) rfl kw_500 rfl tyX5 tyX5_ok nmX5 rfl hini rfl (ty := tyX5 1) (tyX5_ok 1 (by decide)) (by decide) (fun _ => rfl) (fun _ => rfl) dX5_init_23 ?_
  have z6 := z5.sRf (o := 488) (kz := 1) (x := 494) (by decide)
  refine V.aload_n (pc := 26) hG dX5_init_26 rfl 0 rfl ?_
  refine V.iconst (pc := 27) hG dX5_init_27 ?_
  refine V.cnewaI (pc := 28) (x := 4) (z := 4) hG kw_198 (by decide +kernel) rfl (by decide) (by decide) (z6.z (by decide)) ⟨by decide, by decide⟩ dX5_init_28 ?_
  refine V.nn (n2 := 500) rfl ?_
  have z7 := z6.up (m := 500) (by omega)
  refine V.cputRF (pc := 30) (ci := 7) (k := 2) (M := 7) (T := TX5) (o := 488) (kz := 2) (x := 499) hG (isA.of (by decide +kernel)) (by decide) (by decide) hin_X5 rfl (by decide) (by decide) rfl kw_501 rfl tyX5 tyX5_ok nmX5 rfl hini rfl (ty := tyX5 2) (tyX5_ok 2 (by decide)) (by decide) (fun _ => rfl) (fun _ => rfl) dX5_init_30 ?_
  have z8 := z7.sRf (o := 488) (kz := 2) (x := 499) (by decide)
  refine V.aload_n (pc := 33) hG dX5_init_33 rfl 0 rfl ?_
  refine V.iconst (pc := 34) hG dX5_init_34 ?_
  refine V.cnewaI (pc := 35) (x := 4) (z := 4) hG kw_198 (by decide +kernel) rfl (by decide) (by decide) (z8.z (by decide)) ⟨by decide, by decide⟩ dX5_init_35 ?_
  refine V.nn (n2 := 501) rfl ?_
  have z9 := z8.up (m := 501) (by omega)
  refine V.cputRF (pc := 37) (ci := 7) (k := 3) (M := 7) (T := TX5) (o := 488) (kz := 3) (x := 500) hG (isA.of (by decide +kernel)) (by decide) (by decide) hin_X5 rfl (by decide) (by decide) rfl kw_503 rfl tyX5 tyX5_ok nmX5 rfl hini rfl (ty := tyX5 3) (tyX5_ok 3 (by decide)) (by decide) (fun _ => rfl) (fun _ => rfl) dX5_init_37 ?_
  have z10 := z9.sRf (o := 488) (kz := 3) (x := 500) (by decide)
  have f0 : (st (st (st (rowsR (st (rowsR r 489 4) 488 0 489) 494 4) 488 1 494) 488 2 499) 488 3 500) 488 3 = 500 := st_eq
  refine V.aload_n (pc := 40) hG dX5_init_40 rfl 0 rfl ?_
  refine V.iconst (pc := 41) hG dX5_init_41 ?_
  refine V.cnewaI (pc := 42) (x := 4) (z := 4) hG kw_198 (by decide +kernel) rfl (by decide) (by decide) (z10.z (by decide)) ⟨by decide, by decide⟩ dX5_init_42 ?_
  refine V.nn (n2 := 502) rfl ?_
  have z11 := z10.up (m := 502) (by omega)
  refine V.cputRF (pc := 44) (ci := 7) (k := 4) (M := 7) (T := TX5) (o := 488) (kz := 4) (x := 501) hG (isA.of (by decide +kernel)) (by decide) (by decide) hin_X5 rfl (by decide) (by decide) rfl kw_505 rfl tyX5 tyX5_ok nmX5 rfl hini rfl (ty := tyX5 4) (tyX5_ok 4 (by decide)) (by decide) (fun _ => rfl) (fun _ => rfl) dX5_init_44 ?_
  have z12 := z11.sRf (o := 488) (kz := 4) (x := 501) (by decide)
  have f1 := (st_ne (o := 488) (k := 4) (v := 501) (by decide)).trans f0
  refine V.aload_n (pc := 47) hG dX5_init_47 rfl 0 rfl ?_
  refine V.iconst (pc := 48) hG dX5_init_48 ?_
  refine V.cnewaI (pc := 49) (x := 4) (z := 4) hG kw_198 (by decide +kernel) rfl (by decide) (by decide) (z12.z (by decide)) ⟨by decide, by decide⟩ dX5_init_49 ?_
  refine V.nn (n2 := 503) rfl ?_
  have z13 := z12.up (m := 503) (by omega)
  refine V.cputRF (pc := 51) (ci := 7) (k := 5) (M := 7) (T := TX5) (o := 488) (kz := 5) (x := 502) hG (isA.of (by decide +kernel)) (by decide) (by decide) hin_X5 rfl (by decide) (by decide) rfl kw_506 rfl tyX5 tyX5_ok nmX5 rfl hini rfl (ty := tyX5 5) (tyX5_ok 5 (by decide)) (by decide) (fun _ => rfl) (fun _ => rfl) dX5_init_51 ?_
  have z14 := z13.sRf (o := 488) (kz := 5) (x := 502) (by decide)
  have f2 := (st_ne (o := 488) (k := 5) (v := 502) (by decide)).trans f1
  refine V.aload_n (pc := 54) hG dX5_init_54 rfl 0 rfl ?_
  refine V.iconst (pc := 55) hG dX5_init_55 ?_
  refine V.cnewaI (pc := 56) (x := 4) (z := 4) hG kw_198 (by decide +kernel) rfl (by decide) (by decide) (z14.z (by decide)) ⟨by decide, by decide⟩ dX5_init_56 ?_
  refine V.nn (n2 := 504) rfl ?_
  have z15 := z14.up (m := 504) (by omega)
  refine V.cputRF (pc := 58) (ci := 7) (k := 6) (M := 7) (T := TX5) (o := 488) (kz := 6) (x := 503) hG (isA.of (by decide +kernel)) (by decide) (by decide) hin_X5 rfl (by decide) (by decide) rfl kw_507 rfl tyX5 tyX5_ok nmX5 rfl hini rfl (ty := tyX5 6) (tyX5_ok 6 (by decide)) (by decide) (fun _ => rfl) (fun _ => rfl) dX5_init_58 ?_
  have z16 := z15.sRf (o := 488) (kz := 6) (x := 503) (by decide)
  have f3 := (st_ne (o := 488) (k := 6) (v := 503) (by decide)).trans f2
  refine V.iconst (pc := 61) hG dX5_init_61 ?_
  refine V.istore_n (pc := 62) (lv' := [(1, .int (sJ 0)), (0, .ref (sA Δ 488))]) hG dX5_init_62 rfl (by decide) rfl ?_
  refine V.iload_n (pc := 63) (x := 0) hG dX5_init_63 rfl 0 rfl ?_
  refine V.iconst (pc := 64) hG dX5_init_64 ?_
  refine V.icmp_ge (pc := 65) (tgt := 81) hG (sR_l rfl) (sR_l rfl) dX5_init_65 (by decide) (fun c1 => absurd c1 (by decide)) (fun _ => ?_)
  refine V.aload_n (pc := 68) hG dX5_init_68 rfl 1 rfl ?_
  refine V.getR (x := 500) (pc := 69) (ci := 7) (k := 3) (M := 7) (T := TX5) (o := 488) (kz := 3) hG (isA.of (by decide +kernel)) (by decide) (by decide) hin_X5 rfl (by decide) (by decide) rfl kw_503 rfl f3 (by decide) dX5_init_69 ?_
  refine V.iload_n (pc := 72) (x := 0) hG dX5_init_72 rfl 0 rfl ?_
  refine V.iconst (pc := 73) hG dX5_init_73 ?_
  refine V.ciast (pc := 74) (z := 4) (o := 500) (x := 0) (v := 1) hG (isA.of (by decide +kernel)) (by decide) (sR_l rfl) (by decide) dX5_init_74 ?_
  have z17 := z16.sI (o := 500) (kz := 0) (x := 1) (by decide)
  refine V.iinc (pc := 75) (x := 0) (lv' := [(1, .int (sJ 1)), (0, .ref (sA Δ 488))]) hG dX5_init_75 0 rfl (by decide) rfl ?_
  refine V.goto (pc := 78) (tgt := 63) hG dX5_init_78 (by decide) ?_
  refine V.iload_n (pc := 63) (x := 1) hG dX5_init_63 rfl 0 rfl ?_
  refine V.iconst (pc := 64) hG dX5_init_64 ?_
  refine V.icmp_ge (pc := 65) (tgt := 81) hG (sR_l rfl) (sR_l rfl) dX5_init_65 (by decide) (fun c1 => absurd c1 (by decide)) (fun _ => ?_)
  refine V.aload_n (pc := 68) hG dX5_init_68 rfl 1 rfl ?_
  refine V.getR (x := 500) (pc := 69) (ci := 7) (k := 3) (M := 7) (T := TX5) (o := 488) (kz := 3) hG (isA.of (by decide +kernel)) (by decide) (by decide) hin_X5 rfl (by decide) (by decide) rfl kw_503 rfl f3 (by decide) dX5_init_69 ?_
  refine V.iload_n (pc := 72) (x := 1) hG dX5_init_72 rfl 0 rfl ?_
  refine V.iconst (pc := 73) hG dX5_init_73 ?_
  refine V.ciast (pc := 74) (z := 4) (o := 500) (x := 1) (v := 1) hG (isA.of (by decide +kernel)) (by decide) (sR_l rfl) (by decide) dX5_init_74 ?_
  have z18 := z17.sI (o := 500) (kz := 1) (x := 1) (by decide)
  refine V.iinc (pc := 75) (x := 1) (lv' := [(1, .int (sJ 2)), (0, .ref (sA Δ 488))]) hG dX5_init_75 0 rfl (by decide) rfl ?_
  refine V.goto (pc := 78) (tgt := 63) hG dX5_init_78 (by decide) ?_
  refine V.iload_n (pc := 63) (x := 2) hG dX5_init_63 rfl 0 rfl ?_
  refine V.iconst (pc := 64) hG dX5_init_64 ?_
  refine V.icmp_ge (pc := 65) (tgt := 81) hG (sR_l rfl) (sR_l rfl) dX5_init_65 (by decide) (fun c1 => absurd c1 (by decide)) (fun _ => ?_)
  refine V.aload_n (pc := 68) hG dX5_init_68 rfl 1 rfl ?_
  refine V.getR (x := 500) (pc := 69) (ci := 7) (k := 3) (M := 7) (T := TX5) (o := 488) (kz := 3) hG (isA.of (by decide +kernel)) (by decide) (by decide) hin_X5 rfl (by decide) (by decide) rfl kw_503 rfl f3 (by decide) dX5_init_69 ?_
  refine V.iload_n (pc := 72) (x := 2) hG dX5_init_72 rfl 0 rfl ?_
  refine V.iconst (pc := 73) hG dX5_init_73 ?_
  refine V.ciast (pc := 74) (z := 4) (o := 500) (x := 2) (v := 1) hG (isA.of (by decide +kernel)) (by decide) (sR_l rfl) (by decide) dX5_init_74 ?_
  have z19 := z18.sI (o := 500) (kz := 2) (x := 1) (by decide)
  refine V.iinc (pc := 75) (x := 2) (lv' := [(1, .int (sJ 3)), (0, .ref (sA Δ 488))]) hG dX5_init_75 0 rfl (by decide) rfl ?_
  refine V.goto (pc := 78) (tgt := 63) hG dX5_init_78 (by decide) ?_
  refine V.iload_n (pc := 63) (x := 3) hG dX5_init_63 rfl 0 rfl ?_
  refine V.iconst (pc := 64) hG dX5_init_64 ?_
  refine V.icmp_ge (pc := 65) (tgt := 81) hG (sR_l rfl) (sR_l rfl) dX5_init_65 (by decide) (fun c1 => absurd c1 (by decide)) (fun _ => ?_)
  refine V.aload_n (pc := 68) hG dX5_init_68 rfl 1 rfl ?_
  refine V.getR (x := 500) (pc := 69) (ci := 7) (k := 3) (M := 7) (T := TX5) (o := 488) (kz := 3) hG (isA.of (by decide +kernel)) (by decide) (by decide) hin_X5 rfl (by decide) (by decide) rfl kw_503 rfl f3 (by decide) dX5_init_69 ?_
  refine V.iload_n (pc := 72) (x := 3) hG dX5_init_72 rfl 0 rfl ?_
  refine V.iconst (pc := 73) hG dX5_init_73 ?_
  refine V.ciast (pc := 74) (z := 4) (o := 500) (x := 3) (v := 1) hG (isA.of (by decide +kernel)) (by decide) (sR_l rfl) (by decide) dX5_init_74 ?_
  have z20 := z19.sI (o := 500) (kz := 3) (x := 1) (by decide)
  refine V.iinc (pc := 75) (x := 3) (lv' := [(1, .int (sJ 4)), (0, .ref (sA Δ 488))]) hG dX5_init_75 0 rfl (by decide) rfl ?_
  refine V.goto (pc := 78) (tgt := 63) hG dX5_init_78 (by decide) ?_
  refine V.iload_n (pc := 63) (x := 4) hG dX5_init_63 rfl 0 rfl ?_
  refine V.iconst (pc := 64) hG dX5_init_64 ?_
  refine V.icmp_ge (pc := 65) (tgt := 81) hG (sR_l rfl) (sR_l rfl) dX5_init_65 (by decide) (fun _ => ?_) (fun c1 => absurd (by decide) c1)
  exact fin dX5_init_81 (by decide) (by decide)
set_option maxRecDepth 100000 in
theorem zf_X5 {i r : MI} (z0 : Zf (489) i r) : Zf (504) (cI_X5 i) (cR_X5 r) := by
  have z1 := z0.sM (N := 4)
  have z2 := z1.up (m := 494) (by omega)
  have z3 := z2.sRf (o := 488) (kz := 0) (x := 489) (by decide)
  have z4 := z3.sM (N := 4)
  have z5 := z4.up (m := 499) (by omega)
  have z6 := z5.sRf (o := 488) (kz := 1) (x := 494) (by decide)
  have z7 := z6.up (m := 500) (by omega)
  have z8 := z7.sRf (o := 488) (kz := 2) (x := 499) (by decide)
  have z9 := z8.up (m := 501) (by omega)
  have z10 := z9.sRf (o := 488) (kz := 3) (x := 500) (by decide)
  have z11 := z10.up (m := 502) (by omega)
  have z12 := z11.sRf (o := 488) (kz := 4) (x := 501) (by decide)
  have z13 := z12.up (m := 503) (by omega)
  have z14 := z13.sRf (o := 488) (kz := 5) (x := 502) (by decide)
  have z15 := z14.up (m := 504) (by omega)
  have z16 := z15.sRf (o := 488) (kz := 6) (x := 503) (by decide)
  have z17 := z16.sI (o := 500) (kz := 0) (x := 1) (by decide)
  have z18 := z17.sI (o := 500) (kz := 1) (x := 1) (by decide)
  have z19 := z18.sI (o := 500) (kz := 2) (x := 1) (by decide)
  have z20 := z19.sI (o := 500) (kz := 3) (x := 1) (by decide)
  exact z20
set_option maxRecDepth 100000 in
theorem fr_X5 {r : MI} {a : Int} (ha : a < 488) : cR_X5 r a = r a := by
  unfold cR_X5
  repeat first | rfl | rw [st_row (by omega)] | rw [rowsR_row (by omega)]
def cI_X1 (i : MI) : MI := (cI_X7 481 i)
def cR_X1 (r : MI) : MI := (st (st (cR_X7 481 r) 480 0 481) 480 1 487)
theorem mY_X1_init : mY yX1_init cX1_init 1 none 0 := ⟨kw_112, kw_480, by decide, by decide, by decide +kernel⟩
set_option maxRecDepth 100000 in
set_option maxHeartbeats 4000000 in
theorem ct_X1 (l : Launch) (Δ : Wd) {i r : MI}  (z0 : Zf (481) i r) : Met l yX1_init (Cond.code yX1_init cX1_init 1 none :: gW) (sRx 2 60 7 1775) (sPn Δ (481) [.ref (sA Δ 480)] i r) (sQn Δ (488) (cI_X1 i) (cR_X1 r)) 7 1775 (sFr Δ) := by
  refine Cc.v (by decide) rfl (Nat.le_of_ble_eq_true rfl) (fun Γ Q0 hG hini fin => ?_)
  have hG : okG Γ Δ l (sRx 2 60 7 1775) cX1_init "Schedulary$Circuit" 1 := hG
  show V Γ Δ (481) true i r 0 0 Q0 0 [(0, .ref (sA Δ 480))] []
  refine V.aload_n (pc := 0) hG dX1_init_0 rfl 0 rfl ?_
  refine V.objInit (pc := 1) hG kw_481 kw_142 ko_code (by decide) dX1_init_1 ?_
  refine V.aload_n (pc := 4) hG dX1_init_4 rfl 0 rfl ?_
  refine V.cnew (pc := 5) (ci := 9) (N := 5) (T := TX7) (ty := tyX7) hG hin_X7 rfl tyX7_ok kw_482 kw_242 kw_106 (by decide +kernel) (by decide) rfl defX7 (z0.z (by decide)) ⟨by decide, by decide⟩ dX1_init_5 ?_
  refine V.nn (n2 := 482) rfl ?_
  have z1 := z0.up (m := 482) (by omega)
  refine V.dup (pc := 8) hG dX1_init_8 rfl ?_
  refine V.ccallN (pc := 9) (n2 := 487) hG (ct_X7 l Δ (481) (isA.of (by decide +kernel)) (isA.of (by decide +kernel)) (isA.of (by decide +kernel)) (isA.of (by decide +kernel)) (isA.of (by decide +kernel)) (isA.of (by decide +kernel)) (by decide +kernel) (by decide +kernel) (by decide +kernel) (by decide +kernel) (by decide +kernel) (by decide) z1) mY_X7_init rfl kw_483 kw_244 ⟨by decide, by decide, by decide, by decide⟩ (Nat.le_of_ble_eq_true rfl) dX1_init_9 ?_
  have z2 := zf_X7 481 z1
  refine V.cputRF (pc := 12) (ci := 3) (k := 0) (M := 2) (T := TX1) (o := 480) (kz := 0) (x := 481) hG (isA.of (by decide +kernel)) (by decide) (by decide) hin_X1 rfl (by decide) (by decide) rfl kw_484 rfl tyX1 tyX1_ok nmX1 rfl hini rfl (ty := tyX1 0) (tyX1_ok 0 (by decide)) (by decide) (fun _ => rfl) (fun _ => rfl) dX1_init_12 ?_
  have z3 := z2.sRf (o := 480) (kz := 0) (x := 481) (by decide)
  refine V.aload_n (pc := 15) hG dX1_init_15 rfl 0 rfl ?_
  refine V.sipush (pc := 16) hG dX1_init_16 (by decide) ?_
  refine V.cnewaI (pc := 19) (x := 1536) (z := 1536) hG kw_198 (by decide +kernel) rfl (by decide) (by decide) (z3.z (by decide)) ⟨by decide, by decide⟩ dX1_init_19 ?_
  refine V.nn (n2 := 488) rfl ?_
  have z4 := z3.up (m := 488) (by omega)
  refine V.cputRF (pc := 21) (ci := 3) (k := 1) (M := 2) (T := TX1) (o := 480) (kz := 1) (x := 487) hG (isA.of (by decide +kernel)) (by decide) (by decide) hin_X1 rfl (by decide) (by decide) rfl kw_486 rfl tyX1 tyX1_ok nmX1 rfl hini rfl (ty := tyX1 1) (tyX1_ok 1 (by decide)) (by decide) (fun _ => rfl) (fun _ => rfl) dX1_init_21 ?_
  have z5 := z4.sRf (o := 480) (kz := 1) (x := 487) (by decide)
  exact fin dX1_init_24 (by decide) (by decide)
set_option maxRecDepth 100000 in
theorem zf_X1 {i r : MI} (z0 : Zf (481) i r) : Zf (488) (cI_X1 i) (cR_X1 r) := by
  have z1 := z0.up (m := 482) (by omega)
  have z2 := zf_X7 481 z1
  have z3 := z2.sRf (o := 480) (kz := 0) (x := 481) (by decide)
  have z4 := z3.up (m := 488) (by omega)
  have z5 := z4.sRf (o := 480) (kz := 1) (x := 487) (by decide)
  exact z5
set_option maxRecDepth 100000 in
theorem fr_X1 {r : MI} {a : Int} (ha : a < 480) : cR_X1 r a = r a := by
  unfold cR_X1
  repeat first | rfl | rw [st_row (by omega)] | rw [rowsR_row (by omega)] | rw [fr_X8 _ (by omega)] | rw [fr_X3 _ (by omega)] | rw [fr_X7 _ (by omega)] | rw [fr_X10 (by omega)] | rw [fr_X6 (by omega)] | rw [fr_X0 (by omega)] | rw [fr_X2 (by omega)] | rw [fr_X9 (by omega)] | rw [fr_X4 (by omega)] | rw [fr_X1 (by omega)] | rw [fr_X5 (by omega)]
def cI_X6 (i : MI) : MI := (cI_X8 57 (cI_X8 53 (cI_X8 49 (cI_X8 45 (cI_X8 41 (cI_X8 37 (cI_X8 33 (cI_X8 29 (cI_X8 25 (cI_X8 21 (cI_X8 17 (cI_X8 13 (st (st (st (cI_X8 9 i) 3 6 8) 3 7 8) 3 8 1)))))))))))))
def cR_X6 (r : MI) : MI := (st (cR_X8 57 (st (cR_X8 53 (st (cR_X8 49 (st (cR_X8 45 (st (cR_X8 41 (st (cR_X8 37 (st (cR_X8 33 (st (cR_X8 29 (st (cR_X8 25 (st (cR_X8 21 (st (cR_X8 17 (st (cR_X8 13 (st (cR_X8 9 (st (rowsR (st (st r 3 0 4) 3 1 5) 6 2) 3 2 6)) 3 3 9)) 4 0 13)) 4 1 17)) 4 2 21)) 4 3 25)) 4 4 29)) 4 5 33)) 4 6 37)) 4 7 41)) 4 8 45)) 4 9 49)) 4 10 53)) 4 11 57)
theorem mY_X6_init : mY yX6_init cX6_init 2 none 0 := ⟨kw_104, kw_166, by decide, by decide, by decide +kernel⟩
set_option maxRecDepth 100000 in
set_option maxHeartbeats 4000000 in
theorem ct_X6 (l : Launch) (Δ : Wd) {i r : MI}  (z0 : Zf (4) i r) : Met l yX6_init (Cond.code yX6_init cX6_init 2 none :: gW) (sRx 2 60 57 247) (sPn Δ (4) [.ref (sA Δ 3)] i r) (sQn Δ (61) (cI_X6 i) (cR_X6 r)) 57 247 (sFr Δ) := by
  refine Cc.v (by decide) rfl (Nat.le_of_ble_eq_true rfl) (fun Γ Q0 hG hini fin => ?_)
  have hG : okG Γ Δ l (sRx 2 60 57 247) cX6_init "Schedulary$Program" 2 := hG
  show V Γ Δ (4) true i r 0 0 Q0 0 [(0, .ref (sA Δ 3))] []
  refine V.aload_n (pc := 0) hG dX6_init_0 rfl 0 rfl ?_
  refine V.objInit (pc := 1) hG kw_167 kw_142 ko_code (by decide) dX6_init_1 ?_
  refine V.aload_n (pc := 4) hG dX6_init_4 rfl 0 rfl ?_
  refine V.bipush (pc := 5) hG dX6_init_5 (by decide) ?_
  refine V.canew 5 (pc := 7) (x := 12) (z := 12) hG (by decide) kw_168 (by decide +kernel) rfl (by decide) (z0.z (by decide)) ⟨by decide, by decide⟩ dX6_init_7 ?_
  refine V.nn (n2 := 5) rfl ?_
  have z1 := z0.up (m := 5) (by omega)
  refine V.cputRF (pc := 10) (ci := 8) (k := 0) (M := 9) (T := TX6) (o := 3) (kz := 0) (x := 4) hG (isA.of (by decide +kernel)) (by decide) (by decide) hin_X6 rfl (by decide) (by decide) rfl kw_200 rfl tyX6 tyX6_ok nmX6 rfl hini rfl (ty := tyX6 0) (tyX6_ok 0 (by decide)) (by decide) (fun _ => rfl) (fun _ => rfl) dX6_init_10 ?_
  have z2 := z1.sRf (o := 3) (kz := 0) (x := 4) (by decide)
  have f0 : (st r 3 0 4) 3 0 = 4 := st_eq
  refine V.aload_n (pc := 13) hG dX6_init_13 rfl 0 rfl ?_
  refine V.bipush (pc := 14) hG dX6_init_14 (by decide) ?_
  refine V.cnewaI (pc := 16) (x := 32) (z := 32) hG kw_198 (by decide +kernel) rfl (by decide) (by decide) (z2.z (by decide)) ⟨by decide, by decide⟩ dX6_init_16 ?_
  refine V.nn (n2 := 6) rfl ?_
  have z3 := z2.up (m := 6) (by omega)
  refine V.cputRF (pc := 18) (ci := 8) (k := 1) (M := 9) (T := TX6) (o := 3) (kz := 1) (x := 5) hG (isA.of (by decide +kernel)) (by decide) (by decide) hin_X6 rfl (by decide) (by decide) rfl kw_202 rfl tyX6 tyX6_ok nmX6 rfl hini rfl (ty := tyX6 1) (tyX6_ok 1 (by decide)) (by decide) (fun _ => rfl) (fun _ => rfl) dX6_init_18 ?_
  have z4 := z3.sRf (o := 3) (kz := 1) (x := 5) (by decide)
  have f1 := (st_ne (o := 3) (k := 1) (v := 5) (by decide)).trans f0
  refine V.aload_n (pc := 21) hG dX6_init_21 rfl 0 rfl ?_
  refine V.iconst (pc := 22) hG dX6_init_22 ?_
  refine V.bipush (pc := 23) hG dX6_init_23 (by decide) ?_
  refine V.cmulti (pc := 25) (x := 2) (y := 16) (N := 2) (K := 16) hG kw_170 kw_198 rfl rfl (by decide) (by decide) (by decide +kernel) (by decide +kernel) (z4.zM (by omega)) ⟨by decide, by decide⟩ dX6_init_25 ?_
  have z5 := z4.sM (N := 2)
  have f2 := (congrFun (rowsR_row (n := 6) (N := 2) (by decide)) _).trans f1
  refine V.nn (n2 := 9) rfl ?_
  have z6 := z5.up (m := 9) (by omega)
  refine V.cputRF (pc := 29) (ci := 8) (k := 2) (M := 9) (T := TX6) (o := 3) (kz := 2) (x := 6) hG (isA.of (by decide +kernel)) (by decide) (by decide) hin_X6 rfl (by decide) (by decide) rfl kw_204 rfl tyX6 tyX6_ok nmX6 rfl hini rfl (ty := tyX6 2) (tyX6_ok 2 (by decide)) (by decide) (fun _ => rfl) (fun _ => rfl) dX6_init_29 ?_
  have z7 := z6.sRf (o := 3) (kz := 2) (x := 6) (by decide)
  have f3 := (st_ne (o := 3) (k := 2) (v := 6) (by decide)).trans f2
  refine V.aload_n (pc := 32) hG dX6_init_32 rfl 0 rfl ?_
  refine V.cnew (pc := 33) (ci := 10) (N := 4) (T := TX8) (ty := tyX8) hG hin_X8 rfl tyX8_ok kw_168 kw_172 kw_105 (by decide +kernel) (by decide) rfl defX8 (z7.z (by decide)) ⟨by decide, by decide⟩ dX6_init_33 ?_
  refine V.nn (n2 := 10) rfl ?_
  have z8 := z7.up (m := 10) (by omega)
  refine V.dup (pc := 36) hG dX6_init_36 rfl ?_
  refine V.ccallN (pc := 37) (n2 := 13) hG (ct_X8 l Δ (9) (isA.of (by decide +kernel)) (isA.of (by decide +kernel)) (isA.of (by decide +kernel)) (isA.of (by decide +kernel)) (by decide +kernel) (by decide +kernel) (by decide +kernel) (by decide) z8) mY_X8_init rfl kw_173 kw_174 ⟨by decide, by decide, by decide, by decide⟩ (Nat.le_of_ble_eq_true rfl) dX6_init_37 ?_
  have z9 := zf_X8 9 z8
  have f4 := (congrFun (fr_X8 9 (by decide)) _).trans f3
  refine V.cputR (pc := 40) (ci := 8) (k := 3) (M := 9) (T := TX6) (o := 3) (kz := 3) (x := 9) hG (isA.of (by decide +kernel)) (by decide) (by decide) hin_X6 rfl (by decide) (by decide) rfl kw_207 rfl tyX6 tyX6_ok nmX6 rfl (ty := tyX6 3) (tyX6_ok 3 (by decide)) (by decide) (fun _ => rfl) (fun _ => rfl) dX6_init_40 ?_
  have z10 := z9.sRf (o := 3) (kz := 3) (x := 9) (by decide)
  have f5 := (st_ne (o := 3) (k := 3) (v := 9) (by decide)).trans f4
  refine V.aload_n (pc := 43) hG dX6_init_43 rfl 0 rfl ?_
  refine V.bipush (pc := 44) hG dX6_init_44 (by decide) ?_
  refine V.cputI (pc := 46) (ci := 8) (k := 6) (M := 9) (T := TX6) (o := 3) (kz := 6) (x := 8) hG (isA.of (by decide +kernel)) (by decide) (by decide) hin_X6 rfl (by decide) (by decide) rfl kw_214 rfl tyX6 tyX6_ok nmX6 rfl (ty := tyX6 6) (tyX6_ok 6 (by decide)) rfl rfl dX6_init_46 ?_
  have z11 := z10.sI (o := 3) (kz := 6) (x := 8) (by decide)
  refine V.aload_n (pc := 49) hG dX6_init_49 rfl 0 rfl ?_
  refine V.bipush (pc := 50) hG dX6_init_50 (by decide) ?_
  refine V.cputI (pc := 52) (ci := 8) (k := 7) (M := 9) (T := TX6) (o := 3) (kz := 7) (x := 8) hG (isA.of (by decide +kernel)) (by decide) (by decide) hin_X6 rfl (by decide) (by decide) rfl kw_216 rfl tyX6 tyX6_ok nmX6 rfl (ty := tyX6 7) (tyX6_ok 7 (by decide)) rfl rfl dX6_init_52 ?_
  have z12 := z11.sI (o := 3) (kz := 7) (x := 8) (by decide)
  refine V.aload_n (pc := 55) hG dX6_init_55 rfl 0 rfl ?_
  refine V.iconst (pc := 56) hG dX6_init_56 ?_
  refine V.cputI (pc := 57) (ci := 8) (k := 8) (M := 9) (T := TX6) (o := 3) (kz := 8) (x := 1) hG (isA.of (by decide +kernel)) (by decide) (by decide) hin_X6 rfl (by decide) (by decide) rfl kw_218 rfl tyX6 tyX6_ok nmX6 rfl (ty := tyX6 8) (tyX6_ok 8 (by decide)) rfl rfl dX6_init_57 ?_
  have z13 := z12.sI (o := 3) (kz := 8) (x := 1) (by decide)
  refine V.iconst (pc := 60) hG dX6_init_60 ?_
  refine V.istore_n (pc := 61) (lv' := [(1, .int (sJ 0)), (0, .ref (sA Δ 3))]) hG dX6_init_61 rfl (by decide) rfl ?_
  refine V.iload_n (pc := 62) (x := 0) hG dX6_init_62 rfl 0 rfl ?_
  refine V.bipush (pc := 63) hG dX6_init_63 (by decide) ?_
  refine V.icmp_ge (pc := 65) (tgt := 87) hG (sR_l rfl) (sR_l rfl) dX6_init_65 (by decide) (fun c1 => absurd c1 (by decide)) (fun _ => ?_)
  refine V.aload_n (pc := 68) hG dX6_init_68 rfl 1 rfl ?_
  refine V.getR (x := 4) (pc := 69) (ci := 8) (k := 0) (M := 9) (T := TX6) (o := 3) (kz := 0) hG (isA.of (by decide +kernel)) (by decide) (by decide) hin_X6 rfl (by decide) (by decide) rfl kw_200 rfl f5 (by decide) dX6_init_69 ?_
  refine V.iload_n (pc := 72) (x := 0) hG dX6_init_72 rfl 0 rfl ?_
  refine V.cnew (pc := 73) (ci := 10) (N := 4) (T := TX8) (ty := tyX8) hG hin_X8 rfl tyX8_ok kw_168 kw_172 kw_105 (by decide +kernel) (by decide) rfl defX8 (z13.z (by decide)) ⟨by decide, by decide⟩ dX6_init_73 ?_
  refine V.nn (n2 := 14) rfl ?_
  have z14 := z13.up (m := 14) (by omega)
  refine V.dup (pc := 76) hG dX6_init_76 rfl ?_
  refine V.ccallN (pc := 77) (n2 := 17) hG (ct_X8 l Δ (13) (isA.of (by decide +kernel)) (isA.of (by decide +kernel)) (isA.of (by decide +kernel)) (isA.of (by decide +kernel)) (by decide +kernel) (by decide +kernel) (by decide +kernel) (by decide) z14) mY_X8_init rfl kw_173 kw_174 ⟨by decide, by decide, by decide, by decide⟩ (Nat.le_of_ble_eq_true rfl) dX6_init_77 ?_
  have z15 := zf_X8 13 z14
  have f6 := (congrFun (fr_X8 13 (by decide)) _).trans f5
  refine V.caast 5 10 (pc := 80) (z := 12) (o := 4) (x := 0) (y := 13) hG (isA.of (by decide +kernel)) (by decide) (by decide) rfl (isA.of (by decide +kernel)) (by decide) (by decide) rfl (sR_l rfl) (by decide) (by decide) dX6_init_80 ?_
  have z16 := z15.sRf (o := 4) (kz := 0) (x := 13) (by decide)
  have f7 := (st_ne (o := 4) (k := 0) (v := 13) (by decide)).trans f6
  refine V.iinc (pc := 81) (x := 0) (lv' := [(1, .int (sJ 1)), (0, .ref (sA Δ 3))]) hG dX6_init_81 0 rfl (by decide) rfl ?_
  refine V.goto (pc := 84) (tgt := 62) hG dX6_init_84 (by decide) ?_
  refine V.iload_n (pc := 62) (x := 1) hG dX6_init_62 rfl 0 rfl ?_
  refine V.bipush (pc := 63) hG dX6_init_63 (by decide) ?_
  refine V.icmp_ge (pc := 65) (tgt := 87) hG (sR_l rfl) (sR_l rfl) dX6_init_65 (by decide) (fun c1 => absurd c1 (by decide)) (fun _ => ?_)
  refine V.aload_n (pc := 68) hG dX6_init_68 rfl 1 rfl ?_
  refine V.getR (x := 4) (pc := 69) (ci := 8) (k := 0) (M := 9) (T := TX6) (o := 3) (kz := 0) hG (isA.of (by decide +kernel)) (by decide) (by decide) hin_X6 rfl (by decide) (by decide) rfl kw_200 rfl f7 (by decide) dX6_init_69 ?_
  refine V.iload_n (pc := 72) (x := 1) hG dX6_init_72 rfl 0 rfl ?_
  refine V.cnew (pc := 73) (ci := 10) (N := 4) (T := TX8) (ty := tyX8) hG hin_X8 rfl tyX8_ok kw_168 kw_172 kw_105 (by decide +kernel) (by decide) rfl defX8 (z16.z (by decide)) ⟨by decide, by decide⟩ dX6_init_73 ?_
  refine V.nn (n2 := 18) rfl ?_
  have z17 := z16.up (m := 18) (by omega)
  refine V.dup (pc := 76) hG dX6_init_76 rfl ?_
  refine V.ccallN (pc := 77) (n2 := 21) hG (ct_X8 l Δ (17) (isA.of (by decide +kernel)) (isA.of (by decide +kernel)) (isA.of (by decide +kernel)) (isA.of (by decide +kernel)) (by decide +kernel) (by decide +kernel) (by decide +kernel) (by decide) z17) mY_X8_init rfl kw_173 kw_174 ⟨by decide, by decide, by decide, by decide⟩ (Nat.le_of_ble_eq_true rfl) dX6_init_77 ?_
  have z18 := zf_X8 17 z17
  have f8 := (congrFun (fr_X8 17 (by decide)) _).trans f7
  refine V.caast 5 10 (pc := 80) (z := 12) (o := 4) (x := 1) (y := 17) hG (isA.of (by decide +kernel)) (by decide) (by decide) rfl (isA.of (by decide +kernel)) (by decide) (by decide) rfl (sR_l rfl) (by decide) (by decide) dX6_init_80 ?_
  have z19 := z18.sRf (o := 4) (kz := 1) (x := 17) (by decide)
  have f9 := (st_ne (o := 4) (k := 1) (v := 17) (by decide)).trans f8
  refine V.iinc (pc := 81) (x := 1) (lv' := [(1, .int (sJ 2)), (0, .ref (sA Δ 3))]) hG dX6_init_81 0 rfl (by decide) rfl ?_
  refine V.goto (pc := 84) (tgt := 62) hG dX6_init_84 (by decide) ?_
  refine V.iload_n (pc := 62) (x := 2) hG dX6_init_62 rfl 0 rfl ?_
  refine V.bipush (pc := 63) hG dX6_init_63 (by decide) ?_
  refine V.icmp_ge (pc := 65) (tgt := 87) hG (sR_l rfl) (sR_l rfl) dX6_init_65 (by decide) (fun c1 => absurd c1 (by decide)) (fun _ => ?_)
  refine V.aload_n (pc := 68) hG dX6_init_68 rfl 1 rfl ?_
  refine V.getR (x := 4) (pc := 69) (ci := 8) (k := 0) (M := 9) (T := TX6) (o := 3) (kz := 0) hG (isA.of (by decide +kernel)) (by decide) (by decide) hin_X6 rfl (by decide) (by decide) rfl kw_200 rfl f9 (by decide) dX6_init_69 ?_
  refine V.iload_n (pc := 72) (x := 2) hG dX6_init_72 rfl 0 rfl ?_
  refine V.cnew (pc := 73) (ci := 10) (N := 4) (T := TX8) (ty := tyX8) hG hin_X8 rfl tyX8_ok kw_168 kw_172 kw_105 (by decide +kernel) (by decide) rfl defX8 (z19.z (by decide)) ⟨by decide, by decide⟩ dX6_init_73 ?_
  refine V.nn (n2 := 22) rfl ?_
  have z20 := z19.up (m := 22) (by omega)
  refine V.dup (pc := 76) hG dX6_init_76 rfl ?_
  refine V.ccallN (pc := 77) (n2 := 25) hG (ct_X8 l Δ (21) (isA.of (by decide +kernel)) (isA.of (by decide +kernel)) (isA.of (by decide +kernel)) (isA.of (by decide +kernel)) (by decide +kernel) (by decide +kernel) (by decide +kernel) (by decide) z20) mY_X8_init rfl kw_173 kw_174 ⟨by decide, by decide, by decide, by decide⟩ (Nat.le_of_ble_eq_true rfl) dX6_init_77 ?_
  have z21 := zf_X8 21 z20
  have f10 := (congrFun (fr_X8 21 (by decide)) _).trans f9
  refine V.caast 5 10 (pc := 80) (z := 12) (o := 4) (x := 2) (y := 21) hG (isA.of (by decide +kernel)) (by decide) (by decide) rfl (isA.of (by decide +kernel)) (by decide) (by decide) rfl (sR_l rfl) (by decide) (by decide) dX6_init_80 ?_
  have z22 := z21.sRf (o := 4) (kz := 2) (x := 21) (by decide)
  have f11 := (st_ne (o := 4) (k := 2) (v := 21) (by decide)).trans f10
  refine V.iinc (pc := 81) (x := 2) (lv' := [(1, .int (sJ 3)), (0, .ref (sA Δ 3))]) hG dX6_init_81 0 rfl (by decide) rfl ?_
  refine V.goto (pc := 84) (tgt := 62) hG dX6_init_84 (by decide) ?_
  refine V.iload_n (pc := 62) (x := 3) hG dX6_init_62 rfl 0 rfl ?_
  refine V.bipush (pc := 63) hG dX6_init_63 (by decide) ?_
  refine V.icmp_ge (pc := 65) (tgt := 87) hG (sR_l rfl) (sR_l rfl) dX6_init_65 (by decide) (fun c1 => absurd c1 (by decide)) (fun _ => ?_)
  refine V.aload_n (pc := 68) hG dX6_init_68 rfl 1 rfl ?_
  refine V.getR (x := 4) (pc := 69) (ci := 8) (k := 0) (M := 9) (T := TX6) (o := 3) (kz := 0) hG (isA.of (by decide +kernel)) (by decide) (by decide) hin_X6 rfl (by decide) (by decide) rfl kw_200 rfl f11 (by decide) dX6_init_69 ?_
  refine V.iload_n (pc := 72) (x := 3) hG dX6_init_72 rfl 0 rfl ?_
  refine V.cnew (pc := 73) (ci := 10) (N := 4) (T := TX8) (ty := tyX8) hG hin_X8 rfl tyX8_ok kw_168 kw_172 kw_105 (by decide +kernel) (by decide) rfl defX8 (z22.z (by decide)) ⟨by decide, by decide⟩ dX6_init_73 ?_
  refine V.nn (n2 := 26) rfl ?_
  have z23 := z22.up (m := 26) (by omega)
  refine V.dup (pc := 76) hG dX6_init_76 rfl ?_
  refine V.ccallN (pc := 77) (n2 := 29) hG (ct_X8 l Δ (25) (isA.of (by decide +kernel)) (isA.of (by decide +kernel)) (isA.of (by decide +kernel)) (isA.of (by decide +kernel)) (by decide +kernel) (by decide +kernel) (by decide +kernel) (by decide) z23) mY_X8_init rfl kw_173 kw_174 ⟨by decide, by decide, by decide, by decide⟩ (Nat.le_of_ble_eq_true rfl) dX6_init_77 ?_
  have z24 := zf_X8 25 z23
  have f12 := (congrFun (fr_X8 25 (by decide)) _).trans f11
  refine V.caast 5 10 (pc := 80) (z := 12) (o := 4) (x := 3) (y := 25) hG (isA.of (by decide +kernel)) (by decide) (by decide) rfl (isA.of (by decide +kernel)) (by decide) (by decide) rfl (sR_l rfl) (by decide) (by decide) dX6_init_80 ?_
  have z25 := z24.sRf (o := 4) (kz := 3) (x := 25) (by decide)
  have f13 := (st_ne (o := 4) (k := 3) (v := 25) (by decide)).trans f12
  refine V.iinc (pc := 81) (x := 3) (lv' := [(1, .int (sJ 4)), (0, .ref (sA Δ 3))]) hG dX6_init_81 0 rfl (by decide) rfl ?_
  refine V.goto (pc := 84) (tgt := 62) hG dX6_init_84 (by decide) ?_
  refine V.iload_n (pc := 62) (x := 4) hG dX6_init_62 rfl 0 rfl ?_
  refine V.bipush (pc := 63) hG dX6_init_63 (by decide) ?_
  refine V.icmp_ge (pc := 65) (tgt := 87) hG (sR_l rfl) (sR_l rfl) dX6_init_65 (by decide) (fun c1 => absurd c1 (by decide)) (fun _ => ?_)
  refine V.aload_n (pc := 68) hG dX6_init_68 rfl 1 rfl ?_
  refine V.getR (x := 4) (pc := 69) (ci := 8) (k := 0) (M := 9) (T := TX6) (o := 3) (kz := 0) hG (isA.of (by decide +kernel)) (by decide) (by decide) hin_X6 rfl (by decide) (by decide) rfl kw_200 rfl f13 (by decide) dX6_init_69 ?_
  refine V.iload_n (pc := 72) (x := 4) hG dX6_init_72 rfl 0 rfl ?_
  refine V.cnew (pc := 73) (ci := 10) (N := 4) (T := TX8) (ty := tyX8) hG hin_X8 rfl tyX8_ok kw_168 kw_172 kw_105 (by decide +kernel) (by decide) rfl defX8 (z25.z (by decide)) ⟨by decide, by decide⟩ dX6_init_73 ?_
  refine V.nn (n2 := 30) rfl ?_
  have z26 := z25.up (m := 30) (by omega)
  refine V.dup (pc := 76) hG dX6_init_76 rfl ?_
  refine V.ccallN (pc := 77) (n2 := 33) hG (ct_X8 l Δ (29) (isA.of (by decide +kernel)) (isA.of (by decide +kernel)) (isA.of (by decide +kernel)) (isA.of (by decide +kernel)) (by decide +kernel) (by decide +kernel) (by decide +kernel) (by decide) z26) mY_X8_init rfl kw_173 kw_174 ⟨by decide, by decide, by decide, by decide⟩ (Nat.le_of_ble_eq_true rfl) dX6_init_77 ?_
  have z27 := zf_X8 29 z26
  have f14 := (congrFun (fr_X8 29 (by decide)) _).trans f13
  refine V.caast 5 10 (pc := 80) (z := 12) (o := 4) (x := 4) (y := 29) hG (isA.of (by decide +kernel)) (by decide) (by decide) rfl (isA.of (by decide +kernel)) (by decide) (by decide) rfl (sR_l rfl) (by decide) (by decide) dX6_init_80 ?_
  have z28 := z27.sRf (o := 4) (kz := 4) (x := 29) (by decide)
  have f15 := (st_ne (o := 4) (k := 4) (v := 29) (by decide)).trans f14
  refine V.iinc (pc := 81) (x := 4) (lv' := [(1, .int (sJ 5)), (0, .ref (sA Δ 3))]) hG dX6_init_81 0 rfl (by decide) rfl ?_
  refine V.goto (pc := 84) (tgt := 62) hG dX6_init_84 (by decide) ?_
  refine V.iload_n (pc := 62) (x := 5) hG dX6_init_62 rfl 0 rfl ?_
  refine V.bipush (pc := 63) hG dX6_init_63 (by decide) ?_
  refine V.icmp_ge (pc := 65) (tgt := 87) hG (sR_l rfl) (sR_l rfl) dX6_init_65 (by decide) (fun c1 => absurd c1 (by decide)) (fun _ => ?_)
  refine V.aload_n (pc := 68) hG dX6_init_68 rfl 1 rfl ?_
  refine V.getR (x := 4) (pc := 69) (ci := 8) (k := 0) (M := 9) (T := TX6) (o := 3) (kz := 0) hG (isA.of (by decide +kernel)) (by decide) (by decide) hin_X6 rfl (by decide) (by decide) rfl kw_200 rfl f15 (by decide) dX6_init_69 ?_
  refine V.iload_n (pc := 72) (x := 5) hG dX6_init_72 rfl 0 rfl ?_
  refine V.cnew (pc := 73) (ci := 10) (N := 4) (T := TX8) (ty := tyX8) hG hin_X8 rfl tyX8_ok kw_168 kw_172 kw_105 (by decide +kernel) (by decide) rfl defX8 (z28.z (by decide)) ⟨by decide, by decide⟩ dX6_init_73 ?_
  refine V.nn (n2 := 34) rfl ?_
  have z29 := z28.up (m := 34) (by omega)
  refine V.dup (pc := 76) hG dX6_init_76 rfl ?_
  refine V.ccallN (pc := 77) (n2 := 37) hG (ct_X8 l Δ (33) (isA.of (by decide +kernel)) (isA.of (by decide +kernel)) (isA.of (by decide +kernel)) (isA.of (by decide +kernel)) (by decide +kernel) (by decide +kernel) (by decide +kernel) (by decide) z29) mY_X8_init rfl kw_173 kw_174 ⟨by decide, by decide, by decide, by decide⟩ (Nat.le_of_ble_eq_true rfl) dX6_init_77 ?_
  have z30 := zf_X8 33 z29
  have f16 := (congrFun (fr_X8 33 (by decide)) _).trans f15
  refine V.caast 5 10 (pc := 80) (z := 12) (o := 4) (x := 5) (y := 33) hG (isA.of (by decide +kernel)) (by decide) (by decide) rfl (isA.of (by decide +kernel)) (by decide) (by decide) rfl (sR_l rfl) (by decide) (by decide) dX6_init_80 ?_
  have z31 := z30.sRf (o := 4) (kz := 5) (x := 33) (by decide)
  have f17 := (st_ne (o := 4) (k := 5) (v := 33) (by decide)).trans f16
  refine V.iinc (pc := 81) (x := 5) (lv' := [(1, .int (sJ 6)), (0, .ref (sA Δ 3))]) hG dX6_init_81 0 rfl (by decide) rfl ?_
  refine V.goto (pc := 84) (tgt := 62) hG dX6_init_84 (by decide) ?_
  refine V.iload_n (pc := 62) (x := 6) hG dX6_init_62 rfl 0 rfl ?_
  refine V.bipush (pc := 63) hG dX6_init_63 (by decide) ?_
  refine V.icmp_ge (pc := 65) (tgt := 87) hG (sR_l rfl) (sR_l rfl) dX6_init_65 (by decide) (fun c1 => absurd c1 (by decide)) (fun _ => ?_)
  refine V.aload_n (pc := 68) hG dX6_init_68 rfl 1 rfl ?_
  refine V.getR (x := 4) (pc := 69) (ci := 8) (k := 0) (M := 9) (T := TX6) (o := 3) (kz := 0) hG (isA.of (by decide +kernel)) (by decide) (by decide) hin_X6 rfl (by decide) (by decide) rfl kw_200 rfl f17 (by decide) dX6_init_69 ?_
  refine V.iload_n (pc := 72) (x := 6) hG dX6_init_72 rfl 0 rfl ?_
  refine V.cnew (pc := 73) (ci := 10) (N := 4) (T := TX8) (ty := tyX8) hG hin_X8 rfl tyX8_ok kw_168 kw_172 kw_105 (by decide +kernel) (by decide) rfl defX8 (z31.z (by decide)) ⟨by decide, by decide⟩ dX6_init_73 ?_
  refine V.nn (n2 := 38) rfl ?_
  have z32 := z31.up (m := 38) (by omega)
  refine V.dup (pc := 76) hG dX6_init_76 rfl ?_
  refine V.ccallN (pc := 77) (n2 := 41) hG (ct_X8 l Δ (37) (isA.of (by decide +kernel)) (isA.of (by decide +kernel)) (isA.of (by decide +kernel)) (isA.of (by decide +kernel)) (by decide +kernel) (by decide +kernel) (by decide +kernel) (by decide) z32) mY_X8_init rfl kw_173 kw_174 ⟨by decide, by decide, by decide, by decide⟩ (Nat.le_of_ble_eq_true rfl) dX6_init_77 ?_
  have z33 := zf_X8 37 z32
  have f18 := (congrFun (fr_X8 37 (by decide)) _).trans f17
  refine V.caast 5 10 (pc := 80) (z := 12) (o := 4) (x := 6) (y := 37) hG (isA.of (by decide +kernel)) (by decide) (by decide) rfl (isA.of (by decide +kernel)) (by decide) (by decide) rfl (sR_l rfl) (by decide) (by decide) dX6_init_80 ?_
  have z34 := z33.sRf (o := 4) (kz := 6) (x := 37) (by decide)
  have f19 := (st_ne (o := 4) (k := 6) (v := 37) (by decide)).trans f18
  refine V.iinc (pc := 81) (x := 6) (lv' := [(1, .int (sJ 7)), (0, .ref (sA Δ 3))]) hG dX6_init_81 0 rfl (by decide) rfl ?_
  refine V.goto (pc := 84) (tgt := 62) hG dX6_init_84 (by decide) ?_
  refine V.iload_n (pc := 62) (x := 7) hG dX6_init_62 rfl 0 rfl ?_
  refine V.bipush (pc := 63) hG dX6_init_63 (by decide) ?_
  refine V.icmp_ge (pc := 65) (tgt := 87) hG (sR_l rfl) (sR_l rfl) dX6_init_65 (by decide) (fun c1 => absurd c1 (by decide)) (fun _ => ?_)
  refine V.aload_n (pc := 68) hG dX6_init_68 rfl 1 rfl ?_
  refine V.getR (x := 4) (pc := 69) (ci := 8) (k := 0) (M := 9) (T := TX6) (o := 3) (kz := 0) hG (isA.of (by decide +kernel)) (by decide) (by decide) hin_X6 rfl (by decide) (by decide) rfl kw_200 rfl f19 (by decide) dX6_init_69 ?_
  refine V.iload_n (pc := 72) (x := 7) hG dX6_init_72 rfl 0 rfl ?_
  refine V.cnew (pc := 73) (ci := 10) (N := 4) (T := TX8) (ty := tyX8) hG hin_X8 rfl tyX8_ok kw_168 kw_172 kw_105 (by decide +kernel) (by decide) rfl defX8 (z34.z (by decide)) ⟨by decide, by decide⟩ dX6_init_73 ?_
  refine V.nn (n2 := 42) rfl ?_
  have z35 := z34.up (m := 42) (by omega)
  refine V.dup (pc := 76) hG dX6_init_76 rfl ?_
  refine V.ccallN (pc := 77) (n2 := 45) hG (ct_X8 l Δ (41) (isA.of (by decide +kernel)) (isA.of (by decide +kernel)) (isA.of (by decide +kernel)) (isA.of (by decide +kernel)) (by decide +kernel) (by decide +kernel) (by decide +kernel) (by decide) z35) mY_X8_init rfl kw_173 kw_174 ⟨by decide, by decide, by decide, by decide⟩ (Nat.le_of_ble_eq_true rfl) dX6_init_77 ?_
  have z36 := zf_X8 41 z35
  have f20 := (congrFun (fr_X8 41 (by decide)) _).trans f19
  refine V.caast 5 10 (pc := 80) (z := 12) (o := 4) (x := 7) (y := 41) hG (isA.of (by decide +kernel)) (by decide) (by decide) rfl (isA.of (by decide +kernel)) (by decide) (by decide) rfl (sR_l rfl) (by decide) (by decide) dX6_init_80 ?_
  have z37 := z36.sRf (o := 4) (kz := 7) (x := 41) (by decide)
  have f21 := (st_ne (o := 4) (k := 7) (v := 41) (by decide)).trans f20
  refine V.iinc (pc := 81) (x := 7) (lv' := [(1, .int (sJ 8)), (0, .ref (sA Δ 3))]) hG dX6_init_81 0 rfl (by decide) rfl ?_
  refine V.goto (pc := 84) (tgt := 62) hG dX6_init_84 (by decide) ?_
  refine V.iload_n (pc := 62) (x := 8) hG dX6_init_62 rfl 0 rfl ?_
  refine V.bipush (pc := 63) hG dX6_init_63 (by decide) ?_
  refine V.icmp_ge (pc := 65) (tgt := 87) hG (sR_l rfl) (sR_l rfl) dX6_init_65 (by decide) (fun c1 => absurd c1 (by decide)) (fun _ => ?_)
  refine V.aload_n (pc := 68) hG dX6_init_68 rfl 1 rfl ?_
  refine V.getR (x := 4) (pc := 69) (ci := 8) (k := 0) (M := 9) (T := TX6) (o := 3) (kz := 0) hG (isA.of (by decide +kernel)) (by decide) (by decide) hin_X6 rfl (by decide) (by decide) rfl kw_200 rfl f21 (by decide) dX6_init_69 ?_
  refine V.iload_n (pc := 72) (x := 8) hG dX6_init_72 rfl 0 rfl ?_
  refine V.cnew (pc := 73) (ci := 10) (N := 4) (T := TX8) (ty := tyX8) hG hin_X8 rfl tyX8_ok kw_168 kw_172 kw_105 (by decide +kernel) (by decide) rfl defX8 (z37.z (by decide)) ⟨by decide, by decide⟩ dX6_init_73 ?_
  refine V.nn (n2 := 46) rfl ?_
  have z38 := z37.up (m := 46) (by omega)
  refine V.dup (pc := 76) hG dX6_init_76 rfl ?_
  refine V.ccallN (pc := 77) (n2 := 49) hG (ct_X8 l Δ (45) (isA.of (by decide +kernel)) (isA.of (by decide +kernel)) (isA.of (by decide +kernel)) (isA.of (by decide +kernel)) (by decide +kernel) (by decide +kernel) (by decide +kernel) (by decide) z38) mY_X8_init rfl kw_173 kw_174 ⟨by decide, by decide, by decide, by decide⟩ (Nat.le_of_ble_eq_true rfl) dX6_init_77 ?_
  have z39 := zf_X8 45 z38
  have f22 := (congrFun (fr_X8 45 (by decide)) _).trans f21
  refine V.caast 5 10 (pc := 80) (z := 12) (o := 4) (x := 8) (y := 45) hG (isA.of (by decide +kernel)) (by decide) (by decide) rfl (isA.of (by decide +kernel)) (by decide) (by decide) rfl (sR_l rfl) (by decide) (by decide) dX6_init_80 ?_
  have z40 := z39.sRf (o := 4) (kz := 8) (x := 45) (by decide)
  have f23 := (st_ne (o := 4) (k := 8) (v := 45) (by decide)).trans f22
  refine V.iinc (pc := 81) (x := 8) (lv' := [(1, .int (sJ 9)), (0, .ref (sA Δ 3))]) hG dX6_init_81 0 rfl (by decide) rfl ?_
  refine V.goto (pc := 84) (tgt := 62) hG dX6_init_84 (by decide) ?_
  refine V.iload_n (pc := 62) (x := 9) hG dX6_init_62 rfl 0 rfl ?_
  refine V.bipush (pc := 63) hG dX6_init_63 (by decide) ?_
  refine V.icmp_ge (pc := 65) (tgt := 87) hG (sR_l rfl) (sR_l rfl) dX6_init_65 (by decide) (fun c1 => absurd c1 (by decide)) (fun _ => ?_)
  refine V.aload_n (pc := 68) hG dX6_init_68 rfl 1 rfl ?_
  refine V.getR (x := 4) (pc := 69) (ci := 8) (k := 0) (M := 9) (T := TX6) (o := 3) (kz := 0) hG (isA.of (by decide +kernel)) (by decide) (by decide) hin_X6 rfl (by decide) (by decide) rfl kw_200 rfl f23 (by decide) dX6_init_69 ?_
  refine V.iload_n (pc := 72) (x := 9) hG dX6_init_72 rfl 0 rfl ?_
  refine V.cnew (pc := 73) (ci := 10) (N := 4) (T := TX8) (ty := tyX8) hG hin_X8 rfl tyX8_ok kw_168 kw_172 kw_105 (by decide +kernel) (by decide) rfl defX8 (z40.z (by decide)) ⟨by decide, by decide⟩ dX6_init_73 ?_
  refine V.nn (n2 := 50) rfl ?_
  have z41 := z40.up (m := 50) (by omega)
  refine V.dup (pc := 76) hG dX6_init_76 rfl ?_
  refine V.ccallN (pc := 77) (n2 := 53) hG (ct_X8 l Δ (49) (isA.of (by decide +kernel)) (isA.of (by decide +kernel)) (isA.of (by decide +kernel)) (isA.of (by decide +kernel)) (by decide +kernel) (by decide +kernel) (by decide +kernel) (by decide) z41) mY_X8_init rfl kw_173 kw_174 ⟨by decide, by decide, by decide, by decide⟩ (Nat.le_of_ble_eq_true rfl) dX6_init_77 ?_
  have z42 := zf_X8 49 z41
  have f24 := (congrFun (fr_X8 49 (by decide)) _).trans f23
  refine V.caast 5 10 (pc := 80) (z := 12) (o := 4) (x := 9) (y := 49) hG (isA.of (by decide +kernel)) (by decide) (by decide) rfl (isA.of (by decide +kernel)) (by decide) (by decide) rfl (sR_l rfl) (by decide) (by decide) dX6_init_80 ?_
  have z43 := z42.sRf (o := 4) (kz := 9) (x := 49) (by decide)
  have f25 := (st_ne (o := 4) (k := 9) (v := 49) (by decide)).trans f24
  refine V.iinc (pc := 81) (x := 9) (lv' := [(1, .int (sJ 10)), (0, .ref (sA Δ 3))]) hG dX6_init_81 0 rfl (by decide) rfl ?_
  refine V.goto (pc := 84) (tgt := 62) hG dX6_init_84 (by decide) ?_
  refine V.iload_n (pc := 62) (x := 10) hG dX6_init_62 rfl 0 rfl ?_
  refine V.bipush (pc := 63) hG dX6_init_63 (by decide) ?_
  refine V.icmp_ge (pc := 65) (tgt := 87) hG (sR_l rfl) (sR_l rfl) dX6_init_65 (by decide) (fun c1 => absurd c1 (by decide)) (fun _ => ?_)
  refine V.aload_n (pc := 68) hG dX6_init_68 rfl 1 rfl ?_
  refine V.getR (x := 4) (pc := 69) (ci := 8) (k := 0) (M := 9) (T := TX6) (o := 3) (kz := 0) hG (isA.of (by decide +kernel)) (by decide) (by decide) hin_X6 rfl (by decide) (by decide) rfl kw_200 rfl f25 (by decide) dX6_init_69 ?_
  refine V.iload_n (pc := 72) (x := 10) hG dX6_init_72 rfl 0 rfl ?_
  refine V.cnew (pc := 73) (ci := 10) (N := 4) (T := TX8) (ty := tyX8) hG hin_X8 rfl tyX8_ok kw_168 kw_172 kw_105 (by decide +kernel) (by decide) rfl defX8 (z43.z (by decide)) ⟨by decide, by decide⟩ dX6_init_73 ?_
  refine V.nn (n2 := 54) rfl ?_
  have z44 := z43.up (m := 54) (by omega)
  refine V.dup (pc := 76) hG dX6_init_76 rfl ?_
  refine V.ccallN (pc := 77) (n2 := 57) hG (ct_X8 l Δ (53) (isA.of (by decide +kernel)) (isA.of (by decide +kernel)) (isA.of (by decide +kernel)) (isA.of (by decide +kernel)) (by decide +kernel) (by decide +kernel) (by decide +kernel) (by decide) z44) mY_X8_init rfl kw_173 kw_174 ⟨by decide, by decide, by decide, by decide⟩ (Nat.le_of_ble_eq_true rfl) dX6_init_77 ?_
  have z45 := zf_X8 53 z44
  have f26 := (congrFun (fr_X8 53 (by decide)) _).trans f25
  refine V.caast 5 10 (pc := 80) (z := 12) (o := 4) (x := 10) (y := 53) hG (isA.of (by decide +kernel)) (by decide) (by decide) rfl (isA.of (by decide +kernel)) (by decide) (by decide) rfl (sR_l rfl) (by decide) (by decide) dX6_init_80 ?_
  have z46 := z45.sRf (o := 4) (kz := 10) (x := 53) (by decide)
  have f27 := (st_ne (o := 4) (k := 10) (v := 53) (by decide)).trans f26
  refine V.iinc (pc := 81) (x := 10) (lv' := [(1, .int (sJ 11)), (0, .ref (sA Δ 3))]) hG dX6_init_81 0 rfl (by decide) rfl ?_
  refine V.goto (pc := 84) (tgt := 62) hG dX6_init_84 (by decide) ?_
  refine V.iload_n (pc := 62) (x := 11) hG dX6_init_62 rfl 0 rfl ?_
  refine V.bipush (pc := 63) hG dX6_init_63 (by decide) ?_
  refine V.icmp_ge (pc := 65) (tgt := 87) hG (sR_l rfl) (sR_l rfl) dX6_init_65 (by decide) (fun c1 => absurd c1 (by decide)) (fun _ => ?_)
  refine V.aload_n (pc := 68) hG dX6_init_68 rfl 1 rfl ?_
  refine V.getR (x := 4) (pc := 69) (ci := 8) (k := 0) (M := 9) (T := TX6) (o := 3) (kz := 0) hG (isA.of (by decide +kernel)) (by decide) (by decide) hin_X6 rfl (by decide) (by decide) rfl kw_200 rfl f27 (by decide) dX6_init_69 ?_
  refine V.iload_n (pc := 72) (x := 11) hG dX6_init_72 rfl 0 rfl ?_
  refine V.cnew (pc := 73) (ci := 10) (N := 4) (T := TX8) (ty := tyX8) hG hin_X8 rfl tyX8_ok kw_168 kw_172 kw_105 (by decide +kernel) (by decide) rfl defX8 (z46.z (by decide)) ⟨by decide, by decide⟩ dX6_init_73 ?_
  refine V.nn (n2 := 58) rfl ?_
  have z47 := z46.up (m := 58) (by omega)
  refine V.dup (pc := 76) hG dX6_init_76 rfl ?_
  refine V.ccallN (pc := 77) (n2 := 61) hG (ct_X8 l Δ (57) (isA.of (by decide +kernel)) (isA.of (by decide +kernel)) (isA.of (by decide +kernel)) (isA.of (by decide +kernel)) (by decide +kernel) (by decide +kernel) (by decide +kernel) (by decide) z47) mY_X8_init rfl kw_173 kw_174 ⟨by decide, by decide, by decide, by decide⟩ (Nat.le_of_ble_eq_true rfl) dX6_init_77 ?_
  have z48 := zf_X8 57 z47
  have f28 := (congrFun (fr_X8 57 (by decide)) _).trans f27
  refine V.caast 5 10 (pc := 80) (z := 12) (o := 4) (x := 11) (y := 57) hG (isA.of (by decide +kernel)) (by decide) (by decide) rfl (isA.of (by decide +kernel)) (by decide) (by decide) rfl (sR_l rfl) (by decide) (by decide) dX6_init_80 ?_
  have z49 := z48.sRf (o := 4) (kz := 11) (x := 57) (by decide)
  have f29 := (st_ne (o := 4) (k := 11) (v := 57) (by decide)).trans f28
  refine V.iinc (pc := 81) (x := 11) (lv' := [(1, .int (sJ 12)), (0, .ref (sA Δ 3))]) hG dX6_init_81 0 rfl (by decide) rfl ?_
  refine V.goto (pc := 84) (tgt := 62) hG dX6_init_84 (by decide) ?_
  refine V.iload_n (pc := 62) (x := 12) hG dX6_init_62 rfl 0 rfl ?_
  refine V.bipush (pc := 63) hG dX6_init_63 (by decide) ?_
  refine V.icmp_ge (pc := 65) (tgt := 87) hG (sR_l rfl) (sR_l rfl) dX6_init_65 (by decide) (fun _ => ?_) (fun c1 => absurd (by decide) c1)
  exact fin dX6_init_87 (by decide) (by decide)
set_option maxRecDepth 100000 in
theorem zf_X6 {i r : MI} (z0 : Zf (4) i r) : Zf (61) (cI_X6 i) (cR_X6 r) := by
  have z1 := z0.up (m := 5) (by omega)
  have z2 := z1.sRf (o := 3) (kz := 0) (x := 4) (by decide)
  have z3 := z2.up (m := 6) (by omega)
  have z4 := z3.sRf (o := 3) (kz := 1) (x := 5) (by decide)
  have z5 := z4.sM (N := 2)
  have z6 := z5.up (m := 9) (by omega)
  have z7 := z6.sRf (o := 3) (kz := 2) (x := 6) (by decide)
  have z8 := z7.up (m := 10) (by omega)
  have z9 := zf_X8 9 z8
  have z10 := z9.sRf (o := 3) (kz := 3) (x := 9) (by decide)
  have z11 := z10.sI (o := 3) (kz := 6) (x := 8) (by decide)
  have z12 := z11.sI (o := 3) (kz := 7) (x := 8) (by decide)
  have z13 := z12.sI (o := 3) (kz := 8) (x := 1) (by decide)
  have z14 := z13.up (m := 14) (by omega)
  have z15 := zf_X8 13 z14
  have z16 := z15.sRf (o := 4) (kz := 0) (x := 13) (by decide)
  have z17 := z16.up (m := 18) (by omega)
  have z18 := zf_X8 17 z17
  have z19 := z18.sRf (o := 4) (kz := 1) (x := 17) (by decide)
  have z20 := z19.up (m := 22) (by omega)
  have z21 := zf_X8 21 z20
  have z22 := z21.sRf (o := 4) (kz := 2) (x := 21) (by decide)
  have z23 := z22.up (m := 26) (by omega)
  have z24 := zf_X8 25 z23
  have z25 := z24.sRf (o := 4) (kz := 3) (x := 25) (by decide)
  have z26 := z25.up (m := 30) (by omega)
  have z27 := zf_X8 29 z26
  have z28 := z27.sRf (o := 4) (kz := 4) (x := 29) (by decide)
  have z29 := z28.up (m := 34) (by omega)
  have z30 := zf_X8 33 z29
  have z31 := z30.sRf (o := 4) (kz := 5) (x := 33) (by decide)
  have z32 := z31.up (m := 38) (by omega)
  have z33 := zf_X8 37 z32
  have z34 := z33.sRf (o := 4) (kz := 6) (x := 37) (by decide)
  have z35 := z34.up (m := 42) (by omega)
  have z36 := zf_X8 41 z35
  have z37 := z36.sRf (o := 4) (kz := 7) (x := 41) (by decide)
  have z38 := z37.up (m := 46) (by omega)
  have z39 := zf_X8 45 z38
  have z40 := z39.sRf (o := 4) (kz := 8) (x := 45) (by decide)
  have z41 := z40.up (m := 50) (by omega)
  have z42 := zf_X8 49 z41
  have z43 := z42.sRf (o := 4) (kz := 9) (x := 49) (by decide)
  have z44 := z43.up (m := 54) (by omega)
  have z45 := zf_X8 53 z44
  have z46 := z45.sRf (o := 4) (kz := 10) (x := 53) (by decide)
  have z47 := z46.up (m := 58) (by omega)
  have z48 := zf_X8 57 z47
  have z49 := z48.sRf (o := 4) (kz := 11) (x := 57) (by decide)
  exact z49
set_option maxRecDepth 100000 in
theorem fr_X6 {r : MI} {a : Int} (ha : a < 3) : cR_X6 r a = r a := by
  unfold cR_X6
  repeat first | rfl | rw [st_row (by omega)] | rw [rowsR_row (by omega)] | rw [fr_X8 _ (by omega)] | rw [fr_X3 _ (by omega)] | rw [fr_X7 _ (by omega)] | rw [fr_X10 (by omega)] | rw [fr_X6 (by omega)] | rw [fr_X0 (by omega)] | rw [fr_X2 (by omega)] | rw [fr_X9 (by omega)] | rw [fr_X4 (by omega)] | rw [fr_X1 (by omega)] | rw [fr_X5 (by omega)]
