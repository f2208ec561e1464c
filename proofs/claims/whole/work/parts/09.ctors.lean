/-! ===== the constructors ===== -/
theorem defX0 : ∀ j, j < 5 → defaultValue (tyX0 j) = if rfk 2 j then .null else .int 0 := by decide +kernel
theorem defX1 : ∀ j, j < 2 → defaultValue (tyX1 j) = if rfk 3 j then .null else .int 0 := by decide +kernel
theorem defX2 : ∀ j, j < 5 → defaultValue (tyX2 j) = if rfk 4 j then .null else .int 0 := by decide +kernel
theorem defX3 : ∀ j, j < 13 → defaultValue (tyX3 j) = if rfk 5 j then .null else .int 0 := by decide +kernel
theorem defX4 : ∀ j, j < 6 → defaultValue (tyX4 j) = if rfk 6 j then .null else .int 0 := by decide +kernel
theorem defX5 : ∀ j, j < 7 → defaultValue (tyX5 j) = if rfk 7 j then .null else .int 0 := by decide +kernel
theorem defX6 : ∀ j, j < 9 → defaultValue (tyX6 j) = if rfk 8 j then .null else .int 0 := by decide +kernel
theorem defX7 : ∀ j, j < 5 → defaultValue (tyX7 j) = if rfk 9 j then .null else .int 0 := by decide +kernel
theorem defX8 : ∀ j, j < 4 → defaultValue (tyX8 j) = if rfk 10 j then .null else .int 0 := by decide +kernel
theorem defX9 : ∀ j, j < 7 → defaultValue (tyX9 j) = if rfk 11 j then .null else .int 0 := by decide +kernel
theorem defX10 : ∀ j, j < 3 → defaultValue (tyX10 j) = if rfk 12 j then .null else .int 0 := by decide +kernel
theorem defX11 : ∀ j, j < 11 → defaultValue (tyX11 j) = if rfk 13 j then .null else .int 0 := by decide +kernel
theorem defX12 : ∀ j, j < 49 → defaultValue (tyX12 j) = if rfk 14 j then .null else .int 0 := by decide +kernel
def cI_X8 (o : Nat) (i : MI) : MI := (st i (((o : Nat)) : Int) 3 32)
def cR_X8 (o : Nat) (r : MI) : MI := (st (st (st r (((o : Nat)) : Int) 0 (((o + 1 : Nat)) : Int)) (((o : Nat)) : Int) 1 (((o + 2 : Nat)) : Int)) (((o : Nat)) : Int) 2 (((o + 3 : Nat)) : Int))
theorem mY_X8_init : mY yX8_init cX8_init 1 none 0 := ⟨kw_161, kw_226, by decide, by decide, by decide +kernel⟩
set_option maxRecDepth 100000 in
set_option maxHeartbeats 4000000 in
theorem ct_X8 (l : Launch) (Δ : Wd) (o : Nat) {i r : MI} (ha0 : isA (((o : Nat)) : Int) (10, 0)) (ha1 : isA (((o + 1 : Nat)) : Int) (20, 3)) (ha2 : isA (((o + 2 : Nat)) : Int) (20, 3)) (ha3 : isA (((o + 3 : Nat)) : Int) (22, 3)) (hl1 : lay (o + 1) = (20, 3)) (hl2 : lay (o + 2) = (20, 3)) (hl3 : lay (o + 3) = (22, 3)) (z0 : Zf (o + 1) i r) : Met l yX8_init (Cond.code yX8_init cX8_init 1 none :: gW) (sRx 1 30 3 9) (sPn Δ (o + 1) [.ref (sA Δ (((o : Nat)) : Int))] i r) (sQn Δ (o + 4) (cI_X8 o i) (cR_X8 o r)) 3 9 (sFr Δ) := by
  refine Cc.v (by decide) rfl (Nat.le_of_ble_eq_true rfl) (fun Γ Q0 hG hini fin => ?_)
  have hG : okG Γ Δ l (sRx 1 30 3 9) cX8_init "Schedulary$Statement" 1 := hG
  show V Γ Δ (o + 1) true i r 0 0 Q0 0 [(0, .ref (sA Δ (((o : Nat)) : Int)))] []
  refine V.aload_n (pc := 0) hG dX8_init_0 rfl 0 rfl ?_
  refine V.objInit (pc := 1) hG kw_227 kw_193 kw_194 (by decide) dX8_init_1 ?_
  refine V.aload_n (pc := 4) hG dX8_init_4 rfl 0 rfl ?_
  refine V.iconst (pc := 5) hG dX8_init_5 ?_
  refine V.cnewaI (pc := 6) (x := 3) (z := 3) hG kw_249 hl1 rfl (by decide) (by decide) z0.z ⟨by decide, by decide⟩ dX8_init_6 ?_
  refine V.nn (n2 := o + 2) rfl ?_
  have z1 := z0.up (m := o + 2) (by omega)
  refine V.cputRF (pc := 8) (ci := 10) (k := 0) (M := 4) (T := TX8) (o := (((o : Nat)) : Int)) (kz := 0) (x := (((o + 1 : Nat)) : Int)) hG ha0 (by omega) (by decide) hin_X8 rfl (by decide) (by decide) rfl kw_228 rfl tyX8 tyX8_ok nmX8 rfl hini rfl (ty := tyX8 0) (tyX8_ok 0 (by decide)) (by omega) (fun _ => rfl) (fun _ => rfl) dX8_init_8 ?_
  have z2 := z1.sRf (o := (((o : Nat)) : Int)) (kz := 0) (x := (((o + 1 : Nat)) : Int)) (by omega)
  refine V.aload_n (pc := 11) hG dX8_init_11 rfl 0 rfl ?_
  refine V.iconst (pc := 12) hG dX8_init_12 ?_
  refine V.cnewaI (pc := 13) (x := 3) (z := 3) hG kw_249 hl2 rfl (by decide) (by decide) z2.z ⟨by decide, by decide⟩ dX8_init_13 ?_
  refine V.nn (n2 := o + 3) rfl ?_
  have z3 := z2.up (m := o + 3) (by omega)
  refine V.cputRF (pc := 15) (ci := 10) (k := 1) (M := 4) (T := TX8) (o := (((o : Nat)) : Int)) (kz := 1) (x := (((o + 2 : Nat)) : Int)) hG ha0 (by omega) (by decide) hin_X8 rfl (by decide) (by decide) rfl kw_232 rfl tyX8 tyX8_ok nmX8 rfl hini rfl (ty := tyX8 1) (tyX8_ok 1 (by decide)) (by omega) (fun _ => rfl) (fun _ => rfl) dX8_init_15 ?_
  have z4 := z3.sRf (o := (((o : Nat)) : Int)) (kz := 1) (x := (((o + 2 : Nat)) : Int)) (by omega)
  refine V.aload_n (pc := 18) hG dX8_init_18 rfl 0 rfl ?_
  refine V.iconst (pc := 19) hG dX8_init_19 ?_
  refine V.cnewaZ (pc := 20) (x := 3) (z := 3) hG kw_250 hl3 rfl (by decide) (by decide) z4.z ⟨by decide, by decide⟩ dX8_init_20 ?_
  refine V.nn (n2 := o + 4) rfl ?_
  have z5 := z4.up (m := o + 4) (by omega)
  refine V.cputRF (pc := 22) (ci := 10) (k := 2) (M := 4) (T := TX8) (o := (((o : Nat)) : Int)) (kz := 2) (x := (((o + 3 : Nat)) : Int)) hG ha0 (by omega) (by decide) hin_X8 rfl (by decide) (by decide) rfl kw_235 rfl tyX8 tyX8_ok nmX8 rfl hini rfl (ty := tyX8 2) (tyX8_ok 2 (by decide)) (by omega) (fun _ => rfl) (fun _ => rfl) dX8_init_22 ?_
  have z6 := z5.sRf (o := (((o : Nat)) : Int)) (kz := 2) (x := (((o + 3 : Nat)) : Int)) (by omega)
  refine V.aload_n (pc := 25) hG dX8_init_25 rfl 0 rfl ?_
  refine V.bipush (pc := 26) hG dX8_init_26 (by decide) ?_
  refine V.cputI (pc := 28) (ci := 10) (k := 3) (M := 4) (T := TX8) (o := (((o : Nat)) : Int)) (kz := 3) (x := 32) hG ha0 (by omega) (by decide) hin_X8 rfl (by decide) (by decide) rfl kw_238 rfl tyX8 tyX8_ok nmX8 rfl (ty := tyX8 3) (tyX8_ok 3 (by decide)) (nar_c (by decide)) (fit_c (by decide)) dX8_init_28 ?_
  have z7 := z6.sI (o := (((o : Nat)) : Int)) (kz := 3) (x := 32) (by omega)
  exact fin dX8_init_31 (by decide) (by decide)
set_option maxRecDepth 100000 in
theorem zf_X8 (o : Nat) {i r : MI} (z0 : Zf (o + 1) i r) : Zf (o + 4) (cI_X8 o i) (cR_X8 o r) := by
  have z1 := z0.up (m := o + 2) (by omega)
  have z2 := z1.sRf (o := (((o : Nat)) : Int)) (kz := 0) (x := (((o + 1 : Nat)) : Int)) (by omega)
  have z3 := z2.up (m := o + 3) (by omega)
  have z4 := z3.sRf (o := (((o : Nat)) : Int)) (kz := 1) (x := (((o + 2 : Nat)) : Int)) (by omega)
  have z5 := z4.up (m := o + 4) (by omega)
  have z6 := z5.sRf (o := (((o : Nat)) : Int)) (kz := 2) (x := (((o + 3 : Nat)) : Int)) (by omega)
  have z7 := z6.sI (o := (((o : Nat)) : Int)) (kz := 3) (x := 32) (by omega)
  exact z7
set_option maxRecDepth 100000 in
theorem fr_X8 (o : Nat) {r : MI} {a : Int} (ha : a < (((o : Nat)) : Int)) : cR_X8 o r a = r a := by
  unfold cR_X8
  repeat first | rfl | rw [st_row (by omega)] | rw [rowsR_row (by omega)]
def cI_X3 (o : Nat) (i : MI) : MI := i
def cR_X3 (o : Nat) (r : MI) : MI := r
theorem mY_X3_init : mY yX3_init cX3_init 1 none 0 := ⟨kw_164, kw_332, by decide, by decide, by decide +kernel⟩
set_option maxRecDepth 100000 in
set_option maxHeartbeats 4000000 in
theorem ct_X3 (l : Launch) (Δ : Wd) (o : Nat) {i r : MI} (ha0 : isA (((o : Nat)) : Int) (5, 0))  (z0 : Zf (o + 1) i r) : Met l yX3_init (Cond.code yX3_init cX3_init 1 none :: gW) (sRx 1 30 0 0) (sPn Δ (o + 1) [.ref (sA Δ (((o : Nat)) : Int))] i r) (sQn Δ (o + 1) (cI_X3 o i) (cR_X3 o r)) 0 0 (sFr Δ) := by
  refine Cc.v (by decide) rfl (Nat.le_of_ble_eq_true rfl) (fun Γ Q0 hG hini fin => ?_)
  have hG : okG Γ Δ l (sRx 1 30 0 0) cX3_init "Schedulary$Node" 1 := hG
  show V Γ Δ (o + 1) true i r 0 0 Q0 0 [(0, .ref (sA Δ (((o : Nat)) : Int)))] []
  refine V.aload_n (pc := 0) hG dX3_init_0 rfl 0 rfl ?_
  refine V.objInit (pc := 1) hG kw_333 kw_193 kw_194 (by decide) dX3_init_1 ?_
  exact fin dX3_init_4 (by decide) (by decide)
set_option maxRecDepth 100000 in
theorem zf_X3 (o : Nat) {i r : MI} (z0 : Zf (o + 1) i r) : Zf (o + 1) (cI_X3 o i) (cR_X3 o r) := by
  
  exact z0
set_option maxRecDepth 100000 in
theorem fr_X3 (o : Nat) {r : MI} {a : Int} (ha : a < (((o : Nat)) : Int)) : cR_X3 o r a = r a := by
  unfold cR_X3
  repeat first | rfl | rw [st_row (by omega)] | rw [rowsR_row (by omega)]
def cI_X7 (o : Nat) (i : MI) : MI := i
def cR_X7 (o : Nat) (r : MI) : MI := (st (st (rowsR (st r (((o : Nat)) : Int) 0 (((o + 1 : Nat)) : Int)) (o + 2) 2) (((o : Nat)) : Int) 1 (((o + 2 : Nat)) : Int)) (((o : Nat)) : Int) 2 (((o + 5 : Nat)) : Int))
theorem mY_X7_init : mY yX7_init cX7_init 1 none 0 := ⟨kw_162, kw_296, by decide, by decide, by decide +kernel⟩
set_option maxRecDepth 100000 in
set_option maxHeartbeats 4000000 in
theorem ct_X7 (l : Launch) (Δ : Wd) (o : Nat) {i r : MI} (ha0 : isA (((o : Nat)) : Int) (9, 0)) (ha1 : isA (((o + 1 : Nat)) : Int) (20, 8)) (ha2 : isA (((o + 2 : Nat)) : Int) (27, 2)) (ha3 : isA (((o + 3 : Nat)) : Int) (20, 16)) (ha4 : isA (((o + 4 : Nat)) : Int) (20, 16)) (ha5 : isA (((o + 5 : Nat)) : Int) (20, 192)) (hl1 : lay (o + 1) = (20, 8)) (hl2 : lay (o + 2) = (27, 2)) (hl3 : lay (o + 3) = (20, 16)) (hl4 : lay (o + 4) = (20, 16)) (hl5 : lay (o + 5) = (20, 192)) (z0 : Zf (o + 1) i r) : Met l yX7_init (Cond.code yX7_init cX7_init 1 none :: gW) (sRx 1 30 5 234) (sPn Δ (o + 1) [.ref (sA Δ (((o : Nat)) : Int))] i r) (sQn Δ (o + 6) (cI_X7 o i) (cR_X7 o r)) 5 234 (sFr Δ) := by
  refine Cc.v (by decide) rfl (Nat.le_of_ble_eq_true rfl) (fun Γ Q0 hG hini fin => ?_)
  have hG : okG Γ Δ l (sRx 1 30 5 234) cX7_init "Schedulary$State" 1 := hG
  show V Γ Δ (o + 1) true i r 0 0 Q0 0 [(0, .ref (sA Δ (((o : Nat)) : Int)))] []
  refine V.aload_n (pc := 0) hG dX7_init_0 rfl 0 rfl ?_
  refine V.objInit (pc := 1) hG kw_297 kw_193 kw_194 (by decide) dX7_init_1 ?_
  refine V.aload_n (pc := 4) hG dX7_init_4 rfl 0 rfl ?_
  refine V.bipush (pc := 5) hG dX7_init_5 (by decide) ?_
  refine V.cnewaI (pc := 7) (x := 8) (z := 8) hG kw_249 hl1 rfl (by decide) (by decide) z0.z ⟨by decide, by decide⟩ dX7_init_7 ?_
  refine V.nn (n2 := o + 2) rfl ?_
  have z1 := z0.up (m := o + 2) (by omega)
  refine V.cputRF (pc := 9) (ci := 9) (k := 0) (M := 5) (T := TX7) (o := (((o : Nat)) : Int)) (kz := 0) (x := (((o + 1 : Nat)) : Int)) hG ha0 (by omega) (by decide) hin_X7 rfl (by decide) (by decide) rfl kw_299 rfl tyX7 tyX7_ok nmX7 rfl hini rfl (ty := tyX7 0) (tyX7_ok 0 (by decide)) (by omega) (fun _ => rfl) (fun _ => rfl) dX7_init_9 ?_
  have z2 := z1.sRf (o := (((o : Nat)) : Int)) (kz := 0) (x := (((o + 1 : Nat)) : Int)) (by omega)
  refine V.aload_n (pc := 12) hG dX7_init_12 rfl 0 rfl ?_
  refine V.iconst (pc := 13) hG dX7_init_13 ?_
  refine V.bipush (pc := 14) hG dX7_init_14 (by decide) ?_
  refine V.cmulti (pc := 16) (x := 2) (y := 16) (N := 2) (K := 16) hG kw_298 kw_249 rfl rfl (by decide) (by decide) hl2 (fun j hj => by rcases (show j = 0 ∨ j = 1 by omega) with rfl | rfl; exact hl3; exact hl4) z2.zM ⟨by decide, by decide⟩ dX7_init_16 ?_
  have z3 := z2.sM (N := 2)
  refine V.nn (n2 := o + 5) rfl ?_
  have z4 := z3.up (m := o + 5) (by omega)
  refine V.cputRF (pc := 20) (ci := 9) (k := 1) (M := 5) (T := TX7) (o := (((o : Nat)) : Int)) (kz := 1) (x := (((o + 2 : Nat)) : Int)) hG ha0 (by omega) (by decide) hin_X7 rfl (by decide) (by decide) rfl kw_302 rfl tyX7 tyX7_ok nmX7 rfl hini rfl (ty := tyX7 1) (tyX7_ok 1 (by decide)) (by omega) (fun _ => rfl) (fun _ => rfl) dX7_init_20 ?_
  have z5 := z4.sRf (o := (((o : Nat)) : Int)) (kz := 1) (x := (((o + 2 : Nat)) : Int)) (by omega)
  refine V.aload_n (pc := 23) hG dX7_init_23 rfl 0 rfl ?_
  refine V.sipush (pc := 24) hG dX7_init_24 (by decide) ?_
  refine V.cnewaI (pc := 27) (x := 192) (z := 192) hG kw_249 hl5 rfl (by decide) (by decide) z5.z ⟨by decide, by decide⟩ dX7_init_27 ?_
  refine V.nn (n2 := o + 6) rfl ?_
  have z6 := z5.up (m := o + 6) (by omega)
  refine V.cputRF (pc := 29) (ci := 9) (k := 2) (M := 5) (T := TX7) (o := (((o : Nat)) : Int)) (kz := 2) (x := (((o + 5 : Nat)) : Int)) hG ha0 (by omega) (by decide) hin_X7 rfl (by decide) (by decide) rfl kw_303 rfl tyX7 tyX7_ok nmX7 rfl hini rfl (ty := tyX7 2) (tyX7_ok 2 (by decide)) (by omega) (fun _ => rfl) (fun _ => rfl) dX7_init_29 ?_
  have z7 := z6.sRf (o := (((o : Nat)) : Int)) (kz := 2) (x := (((o + 5 : Nat)) : Int)) (by omega)
  exact fin dX7_init_32 (by decide) (by decide)
set_option maxRecDepth 100000 in
theorem zf_X7 (o : Nat) {i r : MI} (z0 : Zf (o + 1) i r) : Zf (o + 6) (cI_X7 o i) (cR_X7 o r) := by
  have z1 := z0.up (m := o + 2) (by omega)
  have z2 := z1.sRf (o := (((o : Nat)) : Int)) (kz := 0) (x := (((o + 1 : Nat)) : Int)) (by omega)
  have z3 := z2.sM (N := 2)
  have z4 := z3.up (m := o + 5) (by omega)
  have z5 := z4.sRf (o := (((o : Nat)) : Int)) (kz := 1) (x := (((o + 2 : Nat)) : Int)) (by omega)
  have z6 := z5.up (m := o + 6) (by omega)
  have z7 := z6.sRf (o := (((o : Nat)) : Int)) (kz := 2) (x := (((o + 5 : Nat)) : Int)) (by omega)
  exact z7
set_option maxRecDepth 100000 in
theorem fr_X7 (o : Nat) {r : MI} {a : Int} (ha : a < (((o : Nat)) : Int)) : cR_X7 o r a = r a := by
  unfold cR_X7
  repeat first | rfl | rw [st_row (by omega)] | rw [rowsR_row (by omega)]
def cI_X10 (i : MI) : MI := i
def cR_X10 (r : MI) : MI := (st r 1 0 2)
theorem mY_X10_init : mY yX10_init cX10_init 1 none 0 := ⟨kw_159, kw_199, by decide, by decide, by decide +kernel⟩
set_option maxRecDepth 100000 in
set_option maxHeartbeats 4000000 in
theorem ct_X10 (l : Launch) (Δ : Wd) {i r : MI}  (z0 : Zf (2) i r) : Met l yX10_init (Cond.code yX10_init cX10_init 1 none :: gW) (sRx 1 30 1 24) (sPn Δ (2) [.ref (sA Δ 1)] i r) (sQn Δ (3) (cI_X10 i) (cR_X10 r)) 1 24 (sFr Δ) := by
  refine Cc.v (by decide) rfl (Nat.le_of_ble_eq_true rfl) (fun Γ Q0 hG hini fin => ?_)
  have hG : okG Γ Δ l (sRx 1 30 1 24) cX10_init "Schedulary$Text" 1 := hG
  show V Γ Δ (2) true i r 0 0 Q0 0 [(0, .ref (sA Δ 1))] []
  refine V.aload_n (pc := 0) hG dX10_init_0 rfl 0 rfl ?_
  refine V.objInit (pc := 1) hG kw_200 kw_193 kw_194 (by decide) dX10_init_1 ?_
  refine V.aload_n (pc := 4) hG dX10_init_4 rfl 0 rfl ?_
  refine V.bipush (pc := 5) hG dX10_init_5 (by decide) ?_
  refine V.cnewaC (pc := 7) (x := 24) (z := 24) hG kw_212 (by decide +kernel) rfl (by decide) (by decide) z0.z ⟨by decide, by decide⟩ dX10_init_7 ?_
  refine V.nn (n2 := 3) rfl ?_
  have z1 := z0.up (m := 3) (by omega)
  refine V.cputRF (pc := 9) (ci := 12) (k := 0) (M := 3) (T := TX10) (o := 1) (kz := 0) (x := 2) hG (isA.of (by decide +kernel)) (by decide) (by decide) hin_X10 rfl (by decide) (by decide) rfl kw_201 rfl tyX10 tyX10_ok nmX10 rfl hini rfl (ty := tyX10 0) (tyX10_ok 0 (by decide)) (by decide) (fun _ => rfl) (fun _ => rfl) dX10_init_9 ?_
  have z2 := z1.sRf (o := 1) (kz := 0) (x := 2) (by decide)
  exact fin dX10_init_12 (by decide) (by decide)
set_option maxRecDepth 100000 in
theorem zf_X10 {i r : MI} (z0 : Zf (2) i r) : Zf (3) (cI_X10 i) (cR_X10 r) := by
  have z1 := z0.up (m := 3) (by omega)
  have z2 := z1.sRf (o := 1) (kz := 0) (x := 2) (by decide)
  exact z2
set_option maxRecDepth 100000 in
theorem fr_X10 {r : MI} {a : Int} (ha : a < 1) : cR_X10 r a = r a := by
  unfold cR_X10
  repeat first | rfl | rw [st_row (by omega)] | rw [rowsR_row (by omega)]
def cI_X9 (i : MI) : MI := i
def cR_X9 (r : MI) : MI := (st (st (st (st (st (st (st r 460 0 461) 460 1 462) 460 2 463) 460 3 464) 460 4 465) 460 5 466) 460 6 467)
theorem mY_X9_init : mY yX9_init cX9_init 1 none 0 := ⟨kw_166, kw_470, by decide, by decide, by decide +kernel⟩
set_option maxRecDepth 100000 in
set_option maxHeartbeats 4000000 in
theorem ct_X9 (l : Launch) (Δ : Wd) {i r : MI}  (z0 : Zf (461) i r) : Met l yX9_init (Cond.code yX9_init cX9_init 1 none :: gW) (sRx 1 30 7 968) (sPn Δ (461) [.ref (sA Δ 460)] i r) (sQn Δ (468) (cI_X9 i) (cR_X9 r)) 7 968 (sFr Δ) := by
  refine Cc.v (by decide) rfl (Nat.le_of_ble_eq_true rfl) (fun Γ Q0 hG hini fin => ?_)
  have hG : okG Γ Δ l (sRx 1 30 7 968) cX9_init "Schedulary$Steps" 1 := hG
  show V Γ Δ (461) true i r 0 0 Q0 0 [(0, .ref (sA Δ 460))] []
  refine V.aload_n (pc := 0) hG dX9_init_0 rfl 0 rfl ?_
  refine V.objInit (pc := 1) hG kw_471 kw_193 kw_194 (by decide) dX9_init_1 ?_
  refine V.aload_n (pc := 4) hG dX9_init_4 rfl 0 rfl ?_
  refine V.bipush (pc := 5) hG dX9_init_5 (by decide) ?_
  refine V.cnewaI (pc := 7) (x := 96) (z := 96) hG kw_249 (by decide +kernel) rfl (by decide) (by decide) z0.z ⟨by decide, by decide⟩ dX9_init_7 ?_
  refine V.nn (n2 := 462) rfl ?_
  have z1 := z0.up (m := 462) (by omega)
  refine V.cputRF (pc := 9) (ci := 11) (k := 0) (M := 7) (T := TX9) (o := 460) (kz := 0) (x := 461) hG (isA.of (by decide +kernel)) (by decide) (by decide) hin_X9 rfl (by decide) (by decide) rfl kw_472 rfl tyX9 tyX9_ok nmX9 rfl hini rfl (ty := tyX9 0) (tyX9_ok 0 (by decide)) (by decide) (fun _ => rfl) (fun _ => rfl) dX9_init_9 ?_
  have z2 := z1.sRf (o := 460) (kz := 0) (x := 461) (by decide)
  refine V.aload_n (pc := 12) hG dX9_init_12 rfl 0 rfl ?_
  refine V.bipush (pc := 13) hG dX9_init_13 (by decide) ?_
  refine V.cnewaI (pc := 15) (x := 96) (z := 96) hG kw_249 (by decide +kernel) rfl (by decide) (by decide) z2.z ⟨by decide, by decide⟩ dX9_init_15 ?_
  refine V.nn (n2 := 463) rfl ?_
  have z3 := z2.up (m := 463) (by omega)
  refine V.cputRF (pc := 17) (ci := 11) (k := 1) (M := 7) (T := TX9) (o := 460) (kz := 1) (x := 462) hG (isA.of (by decide +kernel)) (by decide) (by decide) hin_X9 rfl (by decide) (by decide) rfl kw_474 rfl tyX9 tyX9_ok nmX9 rfl hini rfl (ty := tyX9 1) (tyX9_ok 1 (by decide)) (by decide) (fun _ => rfl) (fun _ => rfl) dX9_init_17 ?_
  have z4 := z3.sRf (o := 460) (kz := 1) (x := 462) (by decide)
  refine V.aload_n (pc := 20) hG dX9_init_20 rfl 0 rfl ?_
  refine V.bipush (pc := 21) hG dX9_init_21 (by decide) ?_
  refine V.cnewaI (pc := 23) (x := 96) (z := 96) hG kw_249 (by decide +kernel) rfl (by decide) (by decide) z4.z ⟨by decide, by decide⟩ dX9_init_23 ?_
  refine V.nn (n2 := 464) rfl ?_
  have z5 := z4.up (m := 464) (by omega)
  refine V.cputRF (pc := 25) (ci := 11) (k := 2) (M := 7) (T := TX9) (o := 460) (kz := 2) (x := 463) hG (isA.of (by decide +kernel)) (by decide) (by decide) hin_X9 rfl (by decide) (by decide) rfl kw_476 rfl tyX9 tyX9_ok nmX9 rfl hini rfl (ty := tyX9 2) (tyX9_ok 2 (by decide)) (by decide) (fun _ => rfl) (fun _ => rfl) dX9_init_25 ?_
  have z6 := z5.sRf (o := 460) (kz := 2) (x := 463) (by decide)
  refine V.aload_n (pc := 28) hG dX9_init_28 rfl 0 rfl ?_
  refine V.bipush (pc := 29) hG dX9_init_29 (by decide) ?_
  refine V.cnewaI (pc := 31) (x := 96) (z := 96) hG kw_249 (by decide +kernel) rfl (by decide) (by decide) z6.z ⟨by decide, by decide⟩ dX9_init_31 ?_
  refine V.nn (n2 := 465) rfl ?_
  have z7 := z6.up (m := 465) (by omega)
  refine V.cputRF (pc := 33) (ci := 11) (k := 3) (M := 7) (T := TX9) (o := 460) (kz := 3) (x := 464) hG (isA.of (by decide +kernel)) (by decide) (by decide) hin_X9 rfl (by decide) (by decide) rfl kw_478 rfl tyX9 tyX9_ok nmX9 rfl hini rfl (ty := tyX9 3) (tyX9_ok 3 (by decide)) (by decide) (fun _ => rfl) (fun _ => rfl) dX9_init_33 ?_
  have z8 := z7.sRf (o := 460) (kz := 3) (x := 464) (by decide)
  refine V.aload_n (pc := 36) hG dX9_init_36 rfl 0 rfl ?_
  refine V.bipush (pc := 37) hG dX9_init_37 (by decide) ?_
  refine V.cnewaI (pc := 39) (x := 96) (z := 96) hG kw_249 (by decide +kernel) rfl (by decide) (by decide) z8.z ⟨by decide, by decide⟩ dX9_init_39 ?_
  refine V.nn (n2 := 466) rfl ?_
  have z9 := z8.up (m := 466) (by omega)
  refine V.cputRF (pc := 41) (ci := 11) (k := 4) (M := 7) (T := TX9) (o := 460) (kz := 4) (x := 465) hG (isA.of (by decide +kernel)) (by decide) (by decide) hin_X9 rfl (by decide) (by decide) rfl kw_479 rfl tyX9 tyX9_ok nmX9 rfl hini rfl (ty := tyX9 4) (tyX9_ok 4 (by decide)) (by decide) (fun _ => rfl) (fun _ => rfl) dX9_init_41 ?_
  have z10 := z9.sRf (o := 460) (kz := 4) (x := 465) (by decide)
  refine V.aload_n (pc := 44) hG dX9_init_44 rfl 0 rfl ?_
  refine V.bipush (pc := 45) hG dX9_init_45 (by decide) ?_
  refine V.cnewaI (pc := 47) (x := 7) (z := 7) hG kw_249 (by decide +kernel) rfl (by decide) (by decide) z10.z ⟨by decide, by decide⟩ dX9_init_47 ?_
  refine V.nn (n2 := 467) rfl ?_
  have z11 := z10.up (m := 467) (by omega)
  refine V.cputRF (pc := 49) (ci := 11) (k := 5) (M := 7) (T := TX9) (o := 460) (kz := 5) (x := 466) hG (isA.of (by decide +kernel)) (by decide) (by decide) hin_X9 rfl (by decide) (by decide) rfl kw_480 rfl tyX9 tyX9_ok nmX9 rfl hini rfl (ty := tyX9 5) (tyX9_ok 5 (by decide)) (by decide) (fun _ => rfl) (fun _ => rfl) dX9_init_49 ?_
  have z12 := z11.sRf (o := 460) (kz := 5) (x := 466) (by decide)
  refine V.aload_n (pc := 52) hG dX9_init_52 rfl 0 rfl ?_
  refine V.sipush (pc := 53) hG dX9_init_53 (by decide) ?_
  refine V.cnewaI (pc := 56) (x := 481) (z := 481) hG kw_249 (by decide +kernel) rfl (by decide) (by decide) z12.z ⟨by decide, by decide⟩ dX9_init_56 ?_
  refine V.nn (n2 := 468) rfl ?_
  have z13 := z12.up (m := 468) (by omega)
  refine V.cputRF (pc := 58) (ci := 11) (k := 6) (M := 7) (T := TX9) (o := 460) (kz := 6) (x := 467) hG (isA.of (by decide +kernel)) (by decide) (by decide) hin_X9 rfl (by decide) (by decide) rfl kw_481 rfl tyX9 tyX9_ok nmX9 rfl hini rfl (ty := tyX9 6) (tyX9_ok 6 (by decide)) (by decide) (fun _ => rfl) (fun _ => rfl) dX9_init_58 ?_
  have z14 := z13.sRf (o := 460) (kz := 6) (x := 467) (by decide)
  exact fin dX9_init_61 (by decide) (by decide)
set_option maxRecDepth 100000 in
theorem zf_X9 {i r : MI} (z0 : Zf (461) i r) : Zf (468) (cI_X9 i) (cR_X9 r) := by
  have z1 := z0.up (m := 462) (by omega)
  have z2 := z1.sRf (o := 460) (kz := 0) (x := 461) (by decide)
  have z3 := z2.up (m := 463) (by omega)
  have z4 := z3.sRf (o := 460) (kz := 1) (x := 462) (by decide)
  have z5 := z4.up (m := 464) (by omega)
  have z6 := z5.sRf (o := 460) (kz := 2) (x := 463) (by decide)
  have z7 := z6.up (m := 465) (by omega)
  have z8 := z7.sRf (o := 460) (kz := 3) (x := 464) (by decide)
  have z9 := z8.up (m := 466) (by omega)
  have z10 := z9.sRf (o := 460) (kz := 4) (x := 465) (by decide)
  have z11 := z10.up (m := 467) (by omega)
  have z12 := z11.sRf (o := 460) (kz := 5) (x := 466) (by decide)
  have z13 := z12.up (m := 468) (by omega)
  have z14 := z13.sRf (o := 460) (kz := 6) (x := 467) (by decide)
  exact z14
set_option maxRecDepth 100000 in
theorem fr_X9 {r : MI} {a : Int} (ha : a < 460) : cR_X9 r a = r a := by
  unfold cR_X9
  repeat first | rfl | rw [st_row (by omega)] | rw [rowsR_row (by omega)]
def cI_X2 (i : MI) : MI := i
def cR_X2 (r : MI) : MI := (st (st (rowsR (st (rowsR (st (rowsR r 169 96) 168 0 169) 266 96) 168 1 266) 363 96) 168 2 363) 168 3 460)
theorem mY_X2_init : mY yX2_init cX2_init 1 none 0 := ⟨kw_165, kw_437, by decide, by decide, by decide +kernel⟩
set_option maxRecDepth 100000 in
set_option maxHeartbeats 4000000 in
theorem ct_X2 (l : Launch) (Δ : Wd) {i r : MI}  (z0 : Zf (169) i r) : Met l yX2_init (Cond.code yX2_init cX2_init 1 none :: gW) (sRx 1 30 292 29184) (sPn Δ (169) [.ref (sA Δ 168)] i r) (sQn Δ (461) (cI_X2 i) (cR_X2 r)) 292 29184 (sFr Δ) := by
  refine Cc.v (by decide) rfl (Nat.le_of_ble_eq_true rfl) (fun Γ Q0 hG hini fin => ?_)
  have hG : okG Γ Δ l (sRx 1 30 292 29184) cX2_init "Schedulary$Graph" 1 := hG
  show V Γ Δ (169) true i r 0 0 Q0 0 [(0, .ref (sA Δ 168))] []
  refine V.aload_n (pc := 0) hG dX2_init_0 rfl 0 rfl ?_
  refine V.objInit (pc := 1) hG kw_438 kw_193 kw_194 (by decide) dX2_init_1 ?_
  refine V.aload_n (pc := 4) hG dX2_init_4 rfl 0 rfl ?_
  refine V.bipush (pc := 5) hG dX2_init_5 (by decide) ?_
  refine V.bipush (pc := 7) hG dX2_init_7 (by decide) ?_
  refine V.cmulti (pc := 9) (x := 96) (y := 100) (N := 96) (K := 100) hG kw_439 kw_249 rfl rfl (by decide) (by decide) (by decide +kernel) (by decide +kernel) z0.zM ⟨by decide, by decide⟩ dX2_init_9 ?_
  have z1 := z0.sM (N := 96)
  refine V.nn (n2 := 266) rfl ?_
  have z2 := z1.up (m := 266) (by omega)
  refine V.cputRF (pc := 13) (ci := 4) (k := 0) (M := 5) (T := TX2) (o := 168) (kz := 0) (x := 169) hG (isA.of (by decide +kernel)) (by decide) (by decide) hin_X2 rfl (by decide) (by decide) rfl kw_440 rfl tyX2 tyX2_ok nmX2 rfl hini rfl (ty := tyX2 0) (tyX2_ok 0 (by decide)) (by decide) (fun _ => rfl) (fun _ => rfl) dX2_init_13 ?_
  have z3 := z2.sRf (o := 168) (kz := 0) (x := 169) (by decide)
  refine V.aload_n (pc := 16) hG dX2_init_16 rfl 0 rfl ?_
  refine V.bipush (pc := 17) hG dX2_init_17 (by decide) ?_
  refine V.bipush (pc := 19) hG dX2_init_19 (by decide) ?_
  refine V.cmulti (pc := 21) (x := 96) (y := 100) (N := 96) (K := 100) hG kw_439 kw_249 rfl rfl (by decide) (by decide) (by decide +kernel) (by decide +kernel) z3.zM ⟨by decide, by decide⟩ dX2_init_21 ?_
  have z4 := z3.sM (N := 96)
  refine V.nn (n2 := 363) rfl ?_
  have z5 := z4.up (m := 363) (by omega)
  refine V.cputRF (pc := 25) (ci := 4) (k := 1) (M := 5) (T := TX2) (o := 168) (kz := 1) (x := 266) hG (isA.of (by decide +kernel)) (by decide) (by decide) hin_X2 rfl (by decide) (by decide) rfl kw_443 rfl tyX2 tyX2_ok nmX2 rfl hini rfl (ty := tyX2 1) (tyX2_ok 1 (by decide)) (by decide) (fun _ => rfl) (fun _ => rfl) dX2_init_25 ?_
  have z6 := z5.sRf (o := 168) (kz := 1) (x := 266) (by decide)
  refine V.aload_n (pc := 28) hG dX2_init_28 rfl 0 rfl ?_
  refine V.bipush (pc := 29) hG dX2_init_29 (by decide) ?_
  refine V.bipush (pc := 31) hG dX2_init_31 (by decide) ?_
  refine V.cmulti (pc := 33) (x := 96) (y := 100) (N := 96) (K := 100) hG kw_439 kw_249 rfl rfl (by decide) (by decide) (by decide +kernel) (by decide +kernel) z6.zM ⟨by decide, by decide⟩ dX2_init_33 ?_
  have z7 := z6.sM (N := 96)
  refine V.nn (n2 := 460) rfl ?_
  have z8 := z7.up (m := 460) (by omega)
  refine V.cputRF (pc := 37) (ci := 4) (k := 2) (M := 5) (T := TX2) (o := 168) (kz := 2) (x := 363) hG (isA.of (by decide +kernel)) (by decide) (by decide) hin_X2 rfl (by decide) (by decide) rfl kw_446 rfl tyX2 tyX2_ok nmX2 rfl hini rfl (ty := tyX2 2) (tyX2_ok 2 (by decide)) (by decide) (fun _ => rfl) (fun _ => rfl) dX2_init_37 ?_
  have z9 := z8.sRf (o := 168) (kz := 2) (x := 363) (by decide)
  refine V.aload_n (pc := 40) hG dX2_init_40 rfl 0 rfl ?_
  refine V.bipush (pc := 41) hG dX2_init_41 (by decide) ?_
  refine V.cnewaI (pc := 43) (x := 96) (z := 96) hG kw_249 (by decide +kernel) rfl (by decide) (by decide) z9.z ⟨by decide, by decide⟩ dX2_init_43 ?_
  refine V.nn (n2 := 461) rfl ?_
  have z10 := z9.up (m := 461) (by omega)
  refine V.cputRF (pc := 45) (ci := 4) (k := 3) (M := 5) (T := TX2) (o := 168) (kz := 3) (x := 460) hG (isA.of (by decide +kernel)) (by decide) (by decide) hin_X2 rfl (by decide) (by decide) rfl kw_450 rfl tyX2 tyX2_ok nmX2 rfl hini rfl (ty := tyX2 3) (tyX2_ok 3 (by decide)) (by decide) (fun _ => rfl) (fun _ => rfl) dX2_init_45 ?_
  have z11 := z10.sRf (o := 168) (kz := 3) (x := 460) (by decide)
  exact fin dX2_init_48 (by decide) (by decide)
set_option maxRecDepth 100000 in
theorem zf_X2 {i r : MI} (z0 : Zf (169) i r) : Zf (461) (cI_X2 i) (cR_X2 r) := by
  have z1 := z0.sM (N := 96)
  have z2 := z1.up (m := 266) (by omega)
  have z3 := z2.sRf (o := 168) (kz := 0) (x := 169) (by decide)
  have z4 := z3.sM (N := 96)
  have z5 := z4.up (m := 363) (by omega)
  have z6 := z5.sRf (o := 168) (kz := 1) (x := 266) (by decide)
  have z7 := z6.sM (N := 96)
  have z8 := z7.up (m := 460) (by omega)
  have z9 := z8.sRf (o := 168) (kz := 2) (x := 363) (by decide)
  have z10 := z9.up (m := 461) (by omega)
  have z11 := z10.sRf (o := 168) (kz := 3) (x := 460) (by decide)
  exact z11
set_option maxRecDepth 100000 in
theorem fr_X2 {r : MI} {a : Int} (ha : a < 168) : cR_X2 r a = r a := by
  unfold cR_X2
  repeat first | rfl | rw [st_row (by omega)] | rw [rowsR_row (by omega)]
def cI_X4 (i : MI) : MI := (st (st (st i 468 3 1) 468 4 1) 468 5 1)
def cR_X4 (r : MI) : MI := (st (rowsR (st (st r 468 0 469) 468 1 470) 471 7) 468 2 471)
theorem mY_X4_init : mY yX4_init cX4_init 1 none 0 := ⟨kw_167, kw_501, by decide, by decide, by decide +kernel⟩
set_option maxRecDepth 100000 in
set_option maxHeartbeats 4000000 in
theorem ct_X4 (l : Launch) (Δ : Wd) {i r : MI}  (z0 : Zf (469) i r) : Met l yX4_init (Cond.code yX4_init cX4_init 1 none :: gW) (sRx 1 30 10 3566) (sPn Δ (469) [.ref (sA Δ 468)] i r) (sQn Δ (479) (cI_X4 i) (cR_X4 r)) 10 3566 (sFr Δ) := by
  refine Cc.v (by decide) rfl (Nat.le_of_ble_eq_true rfl) (fun Γ Q0 hG hini fin => ?_)
  have hG : okG Γ Δ l (sRx 1 30 10 3566) cX4_init "Schedulary$Pace" 1 := hG
  show V Γ Δ (469) true i r 0 0 Q0 0 [(0, .ref (sA Δ 468))] []
  refine V.aload_n (pc := 0) hG dX4_init_0 rfl 0 rfl ?_
  refine V.objInit (pc := 1) hG kw_502 kw_193 kw_194 (by decide) dX4_init_1 ?_
  refine V.aload_n (pc := 4) hG dX4_init_4 rfl 0 rfl ?_
  refine V.bipush (pc := 5) hG dX4_init_5 (by decide) ?_
  refine V.cnewaI (pc := 7) (x := 96) (z := 96) hG kw_249 (by decide +kernel) rfl (by decide) (by decide) z0.z ⟨by decide, by decide⟩ dX4_init_7 ?_
  refine V.nn (n2 := 470) rfl ?_
  have z1 := z0.up (m := 470) (by omega)
  refine V.cputRF (pc := 9) (ci := 6) (k := 0) (M := 6) (T := TX4) (o := 468) (kz := 0) (x := 469) hG (isA.of (by decide +kernel)) (by decide) (by decide) hin_X4 rfl (by decide) (by decide) rfl kw_504 rfl tyX4 tyX4_ok nmX4 rfl hini rfl (ty := tyX4 0) (tyX4_ok 0 (by decide)) (by decide) (fun _ => rfl) (fun _ => rfl) dX4_init_9 ?_
  have z2 := z1.sRf (o := 468) (kz := 0) (x := 469) (by decide)
  refine V.aload_n (pc := 12) hG dX4_init_12 rfl 0 rfl ?_
  refine V.bipush (pc := 13) hG dX4_init_13 (by decide) ?_
  refine V.cnewaI (pc := 15) (x := 96) (z := 96) hG kw_249 (by decide +kernel) rfl (by decide) (by decide) z2.z ⟨by decide, by decide⟩ dX4_init_15 ?_
  refine V.nn (n2 := 471) rfl ?_
  have z3 := z2.up (m := 471) (by omega)
  refine V.cputRF (pc := 17) (ci := 6) (k := 1) (M := 6) (T := TX4) (o := 468) (kz := 1) (x := 470) hG (isA.of (by decide +kernel)) (by decide) (by decide) hin_X4 rfl (by decide) (by decide) rfl kw_507 rfl tyX4 tyX4_ok nmX4 rfl hini rfl (ty := tyX4 1) (tyX4_ok 1 (by decide)) (by decide) (fun _ => rfl) (fun _ => rfl) dX4_init_17 ?_
  have z4 := z3.sRf (o := 468) (kz := 1) (x := 470) (by decide)
  refine V.aload_n (pc := 20) hG dX4_init_20 rfl 0 rfl ?_
  refine V.bipush (pc := 21) hG dX4_init_21 (by decide) ?_
  refine V.sipush (pc := 23) hG dX4_init_23 (by decide) ?_
  refine V.cmulti (pc := 26) (x := 7) (y := 481) (N := 7) (K := 481) hG kw_503 kw_249 rfl rfl (by decide) (by decide) (by decide +kernel) (by decide +kernel) z4.zM ⟨by decide, by decide⟩ dX4_init_26 ?_
  have z5 := z4.sM (N := 7)
  refine V.nn (n2 := 479) rfl ?_
  have z6 := z5.up (m := 479) (by omega)
  refine V.cputRF (pc := 30) (ci := 6) (k := 2) (M := 6) (T := TX4) (o := 468) (kz := 2) (x := 471) hG (isA.of (by decide +kernel)) (by decide) (by decide) hin_X4 rfl (by decide) (by decide) rfl kw_508 rfl tyX4 tyX4_ok nmX4 rfl hini rfl (ty := tyX4 2) (tyX4_ok 2 (by decide)) (by decide) (fun _ => rfl) (fun _ => rfl) dX4_init_30 ?_
  have z7 := z6.sRf (o := 468) (kz := 2) (x := 471) (by decide)
  refine V.aload_n (pc := 33) hG dX4_init_33 rfl 0 rfl ?_
  refine V.iconst (pc := 34) hG dX4_init_34 ?_
  refine V.cputI (pc := 35) (ci := 6) (k := 3) (M := 6) (T := TX4) (o := 468) (kz := 3) (x := 1) hG (isA.of (by decide +kernel)) (by decide) (by decide) hin_X4 rfl (by decide) (by decide) rfl kw_509 rfl tyX4 tyX4_ok nmX4 rfl (ty := tyX4 3) (tyX4_ok 3 (by decide)) rfl rfl dX4_init_35 ?_
  have z8 := z7.sI (o := 468) (kz := 3) (x := 1) (by decide)
  refine V.aload_n (pc := 38) hG dX4_init_38 rfl 0 rfl ?_
  refine V.iconst (pc := 39) hG dX4_init_39 ?_
  refine V.cputI (pc := 40) (ci := 6) (k := 4) (M := 6) (T := TX4) (o := 468) (kz := 4) (x := 1) hG (isA.of (by decide +kernel)) (by decide) (by decide) hin_X4 rfl (by decide) (by decide) rfl kw_511 rfl tyX4 tyX4_ok nmX4 rfl (ty := tyX4 4) (tyX4_ok 4 (by decide)) rfl rfl dX4_init_40 ?_
  have z9 := z8.sI (o := 468) (kz := 4) (x := 1) (by decide)
  refine V.aload_n (pc := 43) hG dX4_init_43 rfl 0 rfl ?_
  refine V.iconst (pc := 44) hG dX4_init_44 ?_
  refine V.cputI (pc := 45) (ci := 6) (k := 5) (M := 6) (T := TX4) (o := 468) (kz := 5) (x := 1) hG (isA.of (by decide +kernel)) (by decide) (by decide) hin_X4 rfl (by decide) (by decide) rfl kw_513 rfl tyX4 tyX4_ok nmX4 rfl (ty := tyX4 5) (tyX4_ok 5 (by decide)) rfl rfl dX4_init_45 ?_
  have z10 := z9.sI (o := 468) (kz := 5) (x := 1) (by decide)
  exact fin dX4_init_48 (by decide) (by decide)
set_option maxRecDepth 100000 in
theorem zf_X4 {i r : MI} (z0 : Zf (469) i r) : Zf (479) (cI_X4 i) (cR_X4 r) := by
  have z1 := z0.up (m := 470) (by omega)
  have z2 := z1.sRf (o := 468) (kz := 0) (x := 469) (by decide)
  have z3 := z2.up (m := 471) (by omega)
  have z4 := z3.sRf (o := 468) (kz := 1) (x := 470) (by decide)
  have z5 := z4.sM (N := 7)
  have z6 := z5.up (m := 479) (by omega)
  have z7 := z6.sRf (o := 468) (kz := 2) (x := 471) (by decide)
  have z8 := z7.sI (o := 468) (kz := 3) (x := 1) (by decide)
  have z9 := z8.sI (o := 468) (kz := 4) (x := 1) (by decide)
  have z10 := z9.sI (o := 468) (kz := 5) (x := 1) (by decide)
  exact z10
set_option maxRecDepth 100000 in
theorem fr_X4 {r : MI} {a : Int} (ha : a < 468) : cR_X4 r a = r a := by
  unfold cR_X4
  repeat first | rfl | rw [st_row (by omega)] | rw [rowsR_row (by omega)]
def cI_X5 (i : MI) : MI := (st (st (st (st i 500 0 1) 500 1 1) 500 2 1) 500 3 1)
def cR_X5 (r : MI) : MI := (st (st (st (st (st (st (rowsR (st (rowsR r 489 4) 488 0 489) 494 4) 488 1 494) 488 2 499) 488 3 500) 488 4 501) 488 5 502) 488 6 503)
theorem mY_X5_init : mY yX5_init cX5_init 2 none 0 := ⟨kw_169, kw_549, by decide, by decide, by decide +kernel⟩
set_option maxRecDepth 100000 in
set_option maxHeartbeats 4000000 in
theorem ct_X5 (l : Launch) (Δ : Wd) {i r : MI}  (z0 : Zf (489) i r) : Met l yX5_init (Cond.code yX5_init cX5_init 2 none :: gW) (sRx 1 30 15 156) (sPn Δ (489) [.ref (sA Δ 488)] i r) (sQn Δ (504) (cI_X5 i) (cR_X5 r)) 15 156 (sFr Δ) := by
  refine Cc.v (by decide) rfl (Nat.le_of_ble_eq_true rfl) (fun Γ Q0 hG hini fin => ?_)
  have hG : okG Γ Δ l (sRx 1 30 15 156) cX5_init "Schedulary$Processes" 2 := hG
  show V Γ Δ (489) true i r 0 0 Q0 0 [(0, .ref (sA Δ 488))] []
  refine V.aload_n (pc := 0) hG dX5_init_0 rfl 0 rfl ?_
  refine V.objInit (pc := 1) hG kw_550 kw_193 kw_194 (by decide) dX5_init_1 ?_
  refine V.aload_n (pc := 4) hG dX5_init_4 rfl 0 rfl ?_
  refine V.iconst (pc := 5) hG dX5_init_5 ?_
  refine V.bipush (pc := 6) hG dX5_init_6 (by decide) ?_
  refine V.cmulti (pc := 8) (x := 4) (y := 16) (N := 4) (K := 16) hG kw_551 kw_249 rfl rfl (by decide) (by decide) (by decide +kernel) (by decide +kernel) z0.zM ⟨by decide, by decide⟩ dX5_init_8 ?_
  have z1 := z0.sM (N := 4)
  refine V.nn (n2 := 494) rfl ?_
  have z2 := z1.up (m := 494) (by omega)
  refine V.cputRF (pc := 12) (ci := 7) (k := 0) (M := 7) (T := TX5) (o := 488) (kz := 0) (x := 489) hG (isA.of (by decide +kernel)) (by decide) (by decide) hin_X5 rfl (by decide) (by decide) rfl kw_552 rfl tyX5 tyX5_ok nmX5 rfl hini rfl (ty := tyX5 0) (tyX5_ok 0 (by decide)) (by decide) (fun _ => rfl) (fun _ => rfl) dX5_init_12 ?_
  have z3 := z2.sRf (o := 488) (kz := 0) (x := 489) (by decide)
  refine V.aload_n (pc := 15) hG dX5_init_15 rfl 0 rfl ?_
  refine V.iconst (pc := 16) hG dX5_init_16 ?_
  refine V.bipush (pc := 17) hG dX5_init_17 (by decide) ?_
  refine V.cmulti (pc := 19) (x := 4) (y := 16) (N := 4) (K := 16) hG kw_551 kw_249 rfl rfl (by decide) (by decide) (by decide +kernel) (by decide +kernel) z3.zM ⟨by decide, by decide⟩ dX5_init_19 ?_
  have z4 := z3.sM (N := 4)
  refine V.nn (n2 := 499) rfl ?_
  have z5 := z4.up (m := 499) (by omega)
  refine V.cputRF (pc := 23) (ci := 7) (k := 1) (M := 7) (T := TX5) (o := 488) (kz := 1) (x := 494) hG (isA.of (by decide +kernel)) (by decide) (by decide) hin_X5 rfl (by decide) (by decide) rfl kw_553 rfl tyX5 tyX5_ok nmX5 rfl hini rfl (ty := tyX5 1) (tyX5_ok 1 (by decide)) (by decide) (fun _ => rfl) (fun _ => rfl) dX5_init_23 ?_
  have z6 := z5.sRf (o := 488) (kz := 1) (x := 494) (by decide)
  refine V.aload_n (pc := 26) hG dX5_init_26 rfl 0 rfl ?_
  refine V.iconst (pc := 27) hG dX5_init_27 ?_
  refine V.cnewaI (pc := 28) (x := 4) (z := 4) hG kw_249 (by decide +kernel) rfl (by decide) (by decide) z6.z ⟨by decide, by decide⟩ dX5_init_28 ?_
  refine V.nn (n2 := 500) rfl ?_
  have z7 := z6.up (m := 500) (by omega)
  refine V.cputRF (pc := 30) (ci := 7) (k := 2) (M := 7) (T := TX5) (o := 488) (kz := 2) (x := 499) hG (isA.of (by decide +kernel)) (by decide) (by decide) hin_X5 rfl (by decide) (by decide) rfl kw_554 rfl tyX5 tyX5_ok nmX5 rfl hini rfl (ty := tyX5 2) (tyX5_ok 2 (by decide)) (by decide) (fun _ => rfl) (fun _ => rfl) dX5_init_30 ?_
  have z8 := z7.sRf (o := 488) (kz := 2) (x := 499) (by decide)
  refine V.aload_n (pc := 33) hG dX5_init_33 rfl 0 rfl ?_
  refine V.iconst (pc := 34) hG dX5_init_34 ?_
  refine V.cnewaI (pc := 35) (x := 4) (z := 4) hG kw_249 (by decide +kernel) rfl (by decide) (by decide) z8.z ⟨by decide, by decide⟩ dX5_init_35 ?_
  refine V.nn (n2 := 501) rfl ?_
  have z9 := z8.up (m := 501) (by omega)
  refine V.cputRF (pc := 37) (ci := 7) (k := 3) (M := 7) (T := TX5) (o := 488) (kz := 3) (x := 500) hG (isA.of (by decide +kernel)) (by decide) (by decide) hin_X5 rfl (by decide) (by decide) rfl kw_556 rfl tyX5 tyX5_ok nmX5 rfl hini rfl (ty := tyX5 3) (tyX5_ok 3 (by decide)) (by decide) (fun _ => rfl) (fun _ => rfl) dX5_init_37 ?_
  have z10 := z9.sRf (o := 488) (kz := 3) (x := 500) (by decide)
  refine V.aload_n (pc := 40) hG dX5_init_40 rfl 0 rfl ?_
  refine V.iconst (pc := 41) hG dX5_init_41 ?_
  refine V.cnewaI (pc := 42) (x := 4) (z := 4) hG kw_249 (by decide +kernel) rfl (by decide) (by decide) z10.z ⟨by decide, by decide⟩ dX5_init_42 ?_
  refine V.nn (n2 := 502) rfl ?_
  have z11 := z10.up (m := 502) (by omega)
  refine V.cputRF (pc := 44) (ci := 7) (k := 4) (M := 7) (T := TX5) (o := 488) (kz := 4) (x := 501) hG (isA.of (by decide +kernel)) (by decide) (by decide) hin_X5 rfl (by decide) (by decide) rfl kw_558 rfl tyX5 tyX5_ok nmX5 rfl hini rfl (ty := tyX5 4) (tyX5_ok 4 (by decide)) (by decide) (fun _ => rfl) (fun _ => rfl) dX5_init_44 ?_
  have z12 := z11.sRf (o := 488) (kz := 4) (x := 501) (by decide)
  refine V.aload_n (pc := 47) hG dX5_init_47 rfl 0 rfl ?_
  refine V.iconst (pc := 48) hG dX5_init_48 ?_
  refine V.cnewaI (pc := 49) (x := 4) (z := 4) hG kw_249 (by decide +kernel) rfl (by decide) (by decide) z12.z ⟨by decide, by decide⟩ dX5_init_49 ?_
  refine V.nn (n2 := 503) rfl ?_
  have z13 := z12.up (m := 503) (by omega)
  refine V.cputRF (pc := 51) (ci := 7) (k := 5) (M := 7) (T := TX5) (o := 488) (kz := 5) (x := 502) hG (isA.of (by decide +kernel)) (by decide) (by decide) hin_X5 rfl (by decide) (by decide) rfl kw_559 rfl tyX5 tyX5_ok nmX5 rfl hini rfl (ty := tyX5 5) (tyX5_ok 5 (by decide)) (by decide) (fun _ => rfl) (fun _ => rfl) dX5_init_51 ?_
  have z14 := z13.sRf (o := 488) (kz := 5) (x := 502) (by decide)
  refine V.aload_n (pc := 54) hG dX5_init_54 rfl 0 rfl ?_
  refine V.iconst (pc := 55) hG dX5_init_55 ?_
  refine V.cnewaI (pc := 56) (x := 4) (z := 4) hG kw_249 (by decide +kernel) rfl (by decide) (by decide) z14.z ⟨by decide, by decide⟩ dX5_init_56 ?_
  refine V.nn (n2 := 504) rfl ?_
  have z15 := z14.up (m := 504) (by omega)
  refine V.cputRF (pc := 58) (ci := 7) (k := 6) (M := 7) (T := TX5) (o := 488) (kz := 6) (x := 503) hG (isA.of (by decide +kernel)) (by decide) (by decide) hin_X5 rfl (by decide) (by decide) rfl kw_560 rfl tyX5 tyX5_ok nmX5 rfl hini rfl (ty := tyX5 6) (tyX5_ok 6 (by decide)) (by decide) (fun _ => rfl) (fun _ => rfl) dX5_init_58 ?_
  have z16 := z15.sRf (o := 488) (kz := 6) (x := 503) (by decide)
  refine V.iconst (pc := 61) hG dX5_init_61 ?_
  refine V.istore_n (pc := 62) (lv' := [(1, .int (sJ 0)), (0, .ref (sA Δ 488))]) hG dX5_init_62 rfl (by decide) rfl ?_
  refine V.iload_n (pc := 63) (x := 0) hG dX5_init_63 rfl 0 rfl ?_
  refine V.iconst (pc := 64) hG dX5_init_64 ?_
  refine V.icmp_ge (pc := 65) (tgt := 81) hG (sR_l rfl) (sR_l rfl) dX5_init_65 (by decide) (fun c1 => absurd c1 (by decide)) (fun _ => ?_)
  refine V.aload_n (pc := 68) hG dX5_init_68 rfl 1 rfl ?_
  have f0 := (st_ne (by decide)).trans ((st_ne (by decide)).trans ((st_ne (by decide)).trans (st_eq)))
  refine V.getR (x := 500) (pc := 69) (ci := 7) (k := 3) (M := 7) (T := TX5) (o := 488) (kz := 3) hG (isA.of (by decide +kernel)) (by decide) (by decide) hin_X5 rfl (by decide) (by decide) rfl kw_556 rfl f0 (by decide) dX5_init_69 ?_
  refine V.iload_n (pc := 72) (x := 0) hG dX5_init_72 rfl 0 rfl ?_
  refine V.iconst (pc := 73) hG dX5_init_73 ?_
  refine V.ciast (pc := 74) (z := 4) (o := 500) (x := 0) (v := 1) hG (isA.of (by decide +kernel)) (by decide) (sR_l rfl) (by decide) dX5_init_74 ?_
  have z17 := z16.sI (o := 500) (kz := 0) (x := 1) (by decide)
  refine V.iinc (pc := 75) (x := 0) (lv' := [(1, .int (sJ 1)), (0, .ref (sA Δ 488))]) hG dX5_init_75 0 rfl (by decide) rfl ?_
  refine V.goto (pc := 78) (tgt := 63) hG dX5_init_78 (by decide) ?_
  refine V.iload_n (pc := 63) (x := 1) hG dX5_init_63 rfl 0 rfl ?_
  refine V.iconst (pc := 64) hG dX5_init_64 ?_
  refine V.icmp_ge (pc := 65) (tgt := 81) hG (sR_l rfl) (sR_l rfl) dX5_init_65 (by decide) (fun c1 => absurd c1 (by decide)) (fun _ => ?_)
  refine V.aload_n (pc := 68) hG dX5_init_68 rfl 1 rfl ?_
  have f1 := f0
  refine V.getR (x := 500) (pc := 69) (ci := 7) (k := 3) (M := 7) (T := TX5) (o := 488) (kz := 3) hG (isA.of (by decide +kernel)) (by decide) (by decide) hin_X5 rfl (by decide) (by decide) rfl kw_556 rfl f1 (by decide) dX5_init_69 ?_
  refine V.iload_n (pc := 72) (x := 1) hG dX5_init_72 rfl 0 rfl ?_
  refine V.iconst (pc := 73) hG dX5_init_73 ?_
  refine V.ciast (pc := 74) (z := 4) (o := 500) (x := 1) (v := 1) hG (isA.of (by decide +kernel)) (by decide) (sR_l rfl) (by decide) dX5_init_74 ?_
  have z18 := z17.sI (o := 500) (kz := 1) (x := 1) (by decide)
  refine V.iinc (pc := 75) (x := 1) (lv' := [(1, .int (sJ 2)), (0, .ref (sA Δ 488))]) hG dX5_init_75 0 rfl (by decide) rfl ?_
  refine V.goto (pc := 78) (tgt := 63) hG dX5_init_78 (by decide) ?_
  refine V.iload_n (pc := 63) (x := 2) hG dX5_init_63 rfl 0 rfl ?_
  refine V.iconst (pc := 64) hG dX5_init_64 ?_
  refine V.icmp_ge (pc := 65) (tgt := 81) hG (sR_l rfl) (sR_l rfl) dX5_init_65 (by decide) (fun c1 => absurd c1 (by decide)) (fun _ => ?_)
  refine V.aload_n (pc := 68) hG dX5_init_68 rfl 1 rfl ?_
  have f2 := f1
  refine V.getR (x := 500) (pc := 69) (ci := 7) (k := 3) (M := 7) (T := TX5) (o := 488) (kz := 3) hG (isA.of (by decide +kernel)) (by decide) (by decide) hin_X5 rfl (by decide) (by decide) rfl kw_556 rfl f2 (by decide) dX5_init_69 ?_
  refine V.iload_n (pc := 72) (x := 2) hG dX5_init_72 rfl 0 rfl ?_
  refine V.iconst (pc := 73) hG dX5_init_73 ?_
  refine V.ciast (pc := 74) (z := 4) (o := 500) (x := 2) (v := 1) hG (isA.of (by decide +kernel)) (by decide) (sR_l rfl) (by decide) dX5_init_74 ?_
  have z19 := z18.sI (o := 500) (kz := 2) (x := 1) (by decide)
  refine V.iinc (pc := 75) (x := 2) (lv' := [(1, .int (sJ 3)), (0, .ref (sA Δ 488))]) hG dX5_init_75 0 rfl (by decide) rfl ?_
  refine V.goto (pc := 78) (tgt := 63) hG dX5_init_78 (by decide) ?_
  refine V.iload_n (pc := 63) (x := 3) hG dX5_init_63 rfl 0 rfl ?_
  refine V.iconst (pc := 64) hG dX5_init_64 ?_
  refine V.icmp_ge (pc := 65) (tgt := 81) hG (sR_l rfl) (sR_l rfl) dX5_init_65 (by decide) (fun c1 => absurd c1 (by decide)) (fun _ => ?_)
  refine V.aload_n (pc := 68) hG dX5_init_68 rfl 1 rfl ?_
  have f3 := f2
  refine V.getR (x := 500) (pc := 69) (ci := 7) (k := 3) (M := 7) (T := TX5) (o := 488) (kz := 3) hG (isA.of (by decide +kernel)) (by decide) (by decide) hin_X5 rfl (by decide) (by decide) rfl kw_556 rfl f3 (by decide) dX5_init_69 ?_
  refine V.iload_n (pc := 72) (x := 3) hG dX5_init_72 rfl 0 rfl ?_
  refine V.iconst (pc := 73) hG dX5_init_73 ?_
  refine V.ciast (pc := 74) (z := 4) (o := 500) (x := 3) (v := 1) hG (isA.of (by decide +kernel)) (by decide) (sR_l rfl) (by decide) dX5_init_74 ?_
  have z20 := z19.sI (o := 500) (kz := 3) (x := 1) (by decide)
  refine V.iinc (pc := 75) (x := 3) (lv' := [(1, .int (sJ 4)), (0, .ref (sA Δ 488))]) hG dX5_init_75 0 rfl (by decide) rfl ?_
  refine V.goto (pc := 78) (tgt := 63) hG dX5_init_78 (by decide) ?_
  refine V.iload_n (pc := 63) (x := 4) hG dX5_init_63 rfl 0 rfl ?_
  refine V.iconst (pc := 64) hG dX5_init_64 ?_
  refine V.icmp_ge (pc := 65) (tgt := 81) hG (sR_l rfl) (sR_l rfl) dX5_init_65 (by decide) (fun _ => ?_) (fun c1 => absurd (by decide) c1)
  exact fin dX5_init_81 (by decide) (by decide)
set_option maxRecDepth 100000 in
theorem zf_X5 {i r : MI} (z0 : Zf (489) i r) : Zf (504) (cI_X5 i) (cR_X5 r) := by
  have z1 := z0.sM (N := 4)
  have z2 := z1.up (m := 494) (by omega)
  have z3 := z2.sRf (o := 488) (kz := 0) (x := 489) (by decide)
  have z4 := z3.sM (N := 4)
  have z5 := z4.up (m := 499) (by omega)
  have z6 := z5.sRf (o := 488) (kz := 1) (x := 494) (by decide)
  have z7 := z6.up (m := 500) (by omega)
  have z8 := z7.sRf (o := 488) (kz := 2) (x := 499) (by decide)
  have z9 := z8.up (m := 501) (by omega)
  have z10 := z9.sRf (o := 488) (kz := 3) (x := 500) (by decide)
  have z11 := z10.up (m := 502) (by omega)
  have z12 := z11.sRf (o := 488) (kz := 4) (x := 501) (by decide)
  have z13 := z12.up (m := 503) (by omega)
  have z14 := z13.sRf (o := 488) (kz := 5) (x := 502) (by decide)
  have z15 := z14.up (m := 504) (by omega)
  have z16 := z15.sRf (o := 488) (kz := 6) (x := 503) (by decide)
  have z17 := z16.sI (o := 500) (kz := 0) (x := 1) (by decide)
  have z18 := z17.sI (o := 500) (kz := 1) (x := 1) (by decide)
  have z19 := z18.sI (o := 500) (kz := 2) (x := 1) (by decide)
  have z20 := z19.sI (o := 500) (kz := 3) (x := 1) (by decide)
  exact z20
set_option maxRecDepth 100000 in
theorem fr_X5 {r : MI} {a : Int} (ha : a < 488) : cR_X5 r a = r a := by
  unfold cR_X5
  repeat first | rfl | rw [st_row (by omega)] | rw [rowsR_row (by omega)]
def cI_X12 (i : MI) : MI := (st (st (st (st (st (st (st (st (st (st (st (st (st (st (st (st (st (st (st (st (st i 504 8 8) 504 9 8) 504 10 1) 510 0 1) 511 0 1) 510 1 1) 511 1 1) 510 2 1) 511 2 1) 510 3 1) 511 3 1) 510 4 1) 511 4 1) 510 5 1) 511 5 1) 510 6 1) 511 6 1) 537 0 1) 537 1 1) 537 2 1) 537 3 1)
def cR_X12 (r : MI) : MI := (st (st (st (st (st (st (st (st (st (st (st (st (st (st (st (st (st (st (st (st (st (st (st (st (st (st (st (st (st (st (st (st (st (st (st r 504 2 505) 504 3 506) 504 7 507) 504 12 508) 504 13 509) 504 14 510) 504 15 511) 504 16 512) 504 17 513) 504 18 514) 504 22 515) 504 23 516) 504 24 517) 504 25 518) 504 26 519) 504 27 520) 504 28 521) 504 29 522) 504 31 523) 504 32 524) 504 33 525) 504 34 526) 504 35 527) 504 36 528) 504 37 529) 504 38 530) 504 39 531) 504 40 532) 504 41 533) 504 42 534) 504 43 535) 504 44 536) 504 45 537) 504 46 538) 504 47 539)
theorem mY_X12_init : mY yX12_init cX12_init 2 none 0 := ⟨kw_170, kw_1690, by decide, by decide, by decide +kernel⟩
set_option maxRecDepth 100000 in
set_option maxHeartbeats 4000000 in
theorem ct_X12 (l : Launch) (Δ : Wd) {i r : MI}  (z0 : Zf (505) i r) : Met l yX12_init (Cond.code yX12_init cX12_init 2 none :: gW) (sRx 1 30 35 112583) (sPn Δ (505) [.ref (sA Δ 504)] i r) (sQn Δ (540) (cI_X12 i) (cR_X12 r)) 35 112583 (sFr Δ) := by
  refine Cc.v (by decide) rfl (Nat.le_of_ble_eq_true rfl) (fun Γ Q0 hG hini fin => ?_)
  have hG : okG Γ Δ l (sRx 1 30 35 112583) cX12_init "SchedularyModel" 2 := hG
  show V Γ Δ (505) true i r 0 0 Q0 0 [(0, .ref (sA Δ 504))] []
  refine V.aload_n (pc := 0) hG dX12_init_0 rfl 0 rfl ?_
  refine V.objInit (pc := 1) hG kw_1691 kw_193 kw_194 (by decide) dX12_init_1 ?_
  refine V.aload_n (pc := 4) hG dX12_init_4 rfl 0 rfl ?_
  refine V.bipush (pc := 5) hG dX12_init_5 (by decide) ?_
  refine V.cnewaC (pc := 7) (x := 24) (z := 24) hG kw_212 (by decide +kernel) rfl (by decide) (by decide) z0.z ⟨by decide, by decide⟩ dX12_init_7 ?_
  refine V.nn (n2 := 506) rfl ?_
  have z1 := z0.up (m := 506) (by omega)
  refine V.cputRF (pc := 9) (ci := 14) (k := 2) (M := 49) (T := TX12) (o := 504) (kz := 2) (x := 505) hG (isA.of (by decide +kernel)) (by decide) (by decide) hin_X12 rfl (by decide) (by decide) rfl kw_1694 rfl tyX12 tyX12_ok nmX12 rfl hini rfl (ty := tyX12 2) (tyX12_ok 2 (by decide)) (by decide) (fun _ => rfl) (fun _ => rfl) dX12_init_9 ?_
  have z2 := z1.sRf (o := 504) (kz := 2) (x := 505) (by decide)
  refine V.aload_n (pc := 12) hG dX12_init_12 rfl 0 rfl ?_
  refine V.bipush (pc := 13) hG dX12_init_13 (by decide) ?_
  refine V.cnewaI (pc := 15) (x := 13) (z := 13) hG kw_249 (by decide +kernel) rfl (by decide) (by decide) z2.z ⟨by decide, by decide⟩ dX12_init_15 ?_
  refine V.nn (n2 := 507) rfl ?_
  have z3 := z2.up (m := 507) (by omega)
  refine V.cputRF (pc := 17) (ci := 14) (k := 3) (M := 49) (T := TX12) (o := 504) (kz := 3) (x := 506) hG (isA.of (by decide +kernel)) (by decide) (by decide) hin_X12 rfl (by decide) (by decide) rfl kw_1695 rfl tyX12 tyX12_ok nmX12 rfl hini rfl (ty := tyX12 3) (tyX12_ok 3 (by decide)) (by decide) (fun _ => rfl) (fun _ => rfl) dX12_init_17 ?_
  have z4 := z3.sRf (o := 504) (kz := 3) (x := 506) (by decide)
  refine V.aload_n (pc := 20) hG dX12_init_20 rfl 0 rfl ?_
  refine V.sipush (pc := 21) hG dX12_init_21 (by decide) ?_
  refine V.cnewaI (pc := 24) (x := 156) (z := 156) hG kw_249 (by decide +kernel) rfl (by decide) (by decide) z4.z ⟨by decide, by decide⟩ dX12_init_24 ?_
  refine V.nn (n2 := 508) rfl ?_
  have z5 := z4.up (m := 508) (by omega)
  refine V.cputRF (pc := 26) (ci := 14) (k := 7) (M := 49) (T := TX12) (o := 504) (kz := 7) (x := 507) hG (isA.of (by decide +kernel)) (by decide) (by decide) hin_X12 rfl (by decide) (by decide) rfl kw_1699 rfl tyX12 tyX12_ok nmX12 rfl hini rfl (ty := tyX12 7) (tyX12_ok 7 (by decide)) (by decide) (fun _ => rfl) (fun _ => rfl) dX12_init_26 ?_
  have z6 := z5.sRf (o := 504) (kz := 7) (x := 507) (by decide)
  refine V.aload_n (pc := 29) hG dX12_init_29 rfl 0 rfl ?_
  refine V.bipush (pc := 30) hG dX12_init_30 (by decide) ?_
  refine V.cputI (pc := 32) (ci := 14) (k := 8) (M := 49) (T := TX12) (o := 504) (kz := 8) (x := 8) hG (isA.of (by decide +kernel)) (by decide) (by decide) hin_X12 rfl (by decide) (by decide) rfl kw_1700 rfl tyX12 tyX12_ok nmX12 rfl (ty := tyX12 8) (tyX12_ok 8 (by decide)) rfl rfl dX12_init_32 ?_
  have z7 := z6.sI (o := 504) (kz := 8) (x := 8) (by decide)
  refine V.aload_n (pc := 35) hG dX12_init_35 rfl 0 rfl ?_
  refine V.bipush (pc := 36) hG dX12_init_36 (by decide) ?_
  refine V.cputI (pc := 38) (ci := 14) (k := 9) (M := 49) (T := TX12) (o := 504) (kz := 9) (x := 8) hG (isA.of (by decide +kernel)) (by decide) (by decide) hin_X12 rfl (by decide) (by decide) rfl kw_1701 rfl tyX12 tyX12_ok nmX12 rfl (ty := tyX12 9) (tyX12_ok 9 (by decide)) rfl rfl dX12_init_38 ?_
  have z8 := z7.sI (o := 504) (kz := 9) (x := 8) (by decide)
  refine V.aload_n (pc := 41) hG dX12_init_41 rfl 0 rfl ?_
  refine V.iconst (pc := 42) hG dX12_init_42 ?_
  refine V.cputI (pc := 43) (ci := 14) (k := 10) (M := 49) (T := TX12) (o := 504) (kz := 10) (x := 1) hG (isA.of (by decide +kernel)) (by decide) (by decide) hin_X12 rfl (by decide) (by decide) rfl kw_1702 rfl tyX12 tyX12_ok nmX12 rfl (ty := tyX12 10) (tyX12_ok 10 (by decide)) rfl rfl dX12_init_43 ?_
  have z9 := z8.sI (o := 504) (kz := 10) (x := 1) (by decide)
  refine V.aload_n (pc := 46) hG dX12_init_46 rfl 0 rfl ?_
  refine V.bipush (pc := 47) hG dX12_init_47 (by decide) ?_
  refine V.cnewaI (pc := 49) (x := 32) (z := 32) hG kw_249 (by decide +kernel) rfl (by decide) (by decide) z9.z ⟨by decide, by decide⟩ dX12_init_49 ?_
  refine V.nn (n2 := 509) rfl ?_
  have z10 := z9.up (m := 509) (by omega)
  refine V.cputRF (pc := 51) (ci := 14) (k := 12) (M := 49) (T := TX12) (o := 504) (kz := 12) (x := 508) hG (isA.of (by decide +kernel)) (by decide) (by decide) hin_X12 rfl (by decide) (by decide) rfl kw_1704 rfl tyX12 tyX12_ok nmX12 rfl hini rfl (ty := tyX12 12) (tyX12_ok 12 (by decide)) (by decide) (fun _ => rfl) (fun _ => rfl) dX12_init_51 ?_
  have z11 := z10.sRf (o := 504) (kz := 12) (x := 508) (by decide)
  refine V.aload_n (pc := 54) hG dX12_init_54 rfl 0 rfl ?_
  refine V.bipush (pc := 55) hG dX12_init_55 (by decide) ?_
  refine V.cnewaI (pc := 57) (x := 32) (z := 32) hG kw_249 (by decide +kernel) rfl (by decide) (by decide) z11.z ⟨by decide, by decide⟩ dX12_init_57 ?_
  refine V.nn (n2 := 510) rfl ?_
  have z12 := z11.up (m := 510) (by omega)
  refine V.cputRF (pc := 59) (ci := 14) (k := 13) (M := 49) (T := TX12) (o := 504) (kz := 13) (x := 509) hG (isA.of (by decide +kernel)) (by decide) (by decide) hin_X12 rfl (by decide) (by decide) rfl kw_1705 rfl tyX12 tyX12_ok nmX12 rfl hini rfl (ty := tyX12 13) (tyX12_ok 13 (by decide)) (by decide) (fun _ => rfl) (fun _ => rfl) dX12_init_59 ?_
  have z13 := z12.sRf (o := 504) (kz := 13) (x := 509) (by decide)
  refine V.aload_n (pc := 62) hG dX12_init_62 rfl 0 rfl ?_
  refine V.bipush (pc := 63) hG dX12_init_63 (by decide) ?_
  refine V.cnewaI (pc := 65) (x := 7) (z := 7) hG kw_249 (by decide +kernel) rfl (by decide) (by decide) z13.z ⟨by decide, by decide⟩ dX12_init_65 ?_
  refine V.nn (n2 := 511) rfl ?_
  have z14 := z13.up (m := 511) (by omega)
  refine V.cputRF (pc := 67) (ci := 14) (k := 14) (M := 49) (T := TX12) (o := 504) (kz := 14) (x := 510) hG (isA.of (by decide +kernel)) (by decide) (by decide) hin_X12 rfl (by decide) (by decide) rfl kw_1706 rfl tyX12 tyX12_ok nmX12 rfl hini rfl (ty := tyX12 14) (tyX12_ok 14 (by decide)) (by decide) (fun _ => rfl) (fun _ => rfl) dX12_init_67 ?_
  have z15 := z14.sRf (o := 504) (kz := 14) (x := 510) (by decide)
  refine V.aload_n (pc := 70) hG dX12_init_70 rfl 0 rfl ?_
  refine V.bipush (pc := 71) hG dX12_init_71 (by decide) ?_
  refine V.cnewaI (pc := 73) (x := 7) (z := 7) hG kw_249 (by decide +kernel) rfl (by decide) (by decide) z15.z ⟨by decide, by decide⟩ dX12_init_73 ?_
  refine V.nn (n2 := 512) rfl ?_
  have z16 := z15.up (m := 512) (by omega)
  refine V.cputRF (pc := 75) (ci := 14) (k := 15) (M := 49) (T := TX12) (o := 504) (kz := 15) (x := 511) hG (isA.of (by decide +kernel)) (by decide) (by decide) hin_X12 rfl (by decide) (by decide) rfl kw_1707 rfl tyX12 tyX12_ok nmX12 rfl hini rfl (ty := tyX12 15) (tyX12_ok 15 (by decide)) (by decide) (fun _ => rfl) (fun _ => rfl) dX12_init_75 ?_
  have z17 := z16.sRf (o := 504) (kz := 15) (x := 511) (by decide)
  refine V.aload_n (pc := 78) hG dX12_init_78 rfl 0 rfl ?_
  refine V.bipush (pc := 79) hG dX12_init_79 (by decide) ?_
  refine V.cnewaI (pc := 81) (x := 8) (z := 8) hG kw_249 (by decide +kernel) rfl (by decide) (by decide) z17.z ⟨by decide, by decide⟩ dX12_init_81 ?_
  refine V.nn (n2 := 513) rfl ?_
  have z18 := z17.up (m := 513) (by omega)
  refine V.cputRF (pc := 83) (ci := 14) (k := 16) (M := 49) (T := TX12) (o := 504) (kz := 16) (x := 512) hG (isA.of (by decide +kernel)) (by decide) (by decide) hin_X12 rfl (by decide) (by decide) rfl kw_1708 rfl tyX12 tyX12_ok nmX12 rfl hini rfl (ty := tyX12 16) (tyX12_ok 16 (by decide)) (by decide) (fun _ => rfl) (fun _ => rfl) dX12_init_83 ?_
  have z19 := z18.sRf (o := 504) (kz := 16) (x := 512) (by decide)
  refine V.aload_n (pc := 86) hG dX12_init_86 rfl 0 rfl ?_
  refine V.bipush (pc := 87) hG dX12_init_87 (by decide) ?_
  refine V.cnewaI (pc := 89) (x := 32) (z := 32) hG kw_249 (by decide +kernel) rfl (by decide) (by decide) z19.z ⟨by decide, by decide⟩ dX12_init_89 ?_
  refine V.nn (n2 := 514) rfl ?_
  have z20 := z19.up (m := 514) (by omega)
  refine V.cputRF (pc := 91) (ci := 14) (k := 17) (M := 49) (T := TX12) (o := 504) (kz := 17) (x := 513) hG (isA.of (by decide +kernel)) (by decide) (by decide) hin_X12 rfl (by decide) (by decide) rfl kw_1709 rfl tyX12 tyX12_ok nmX12 rfl hini rfl (ty := tyX12 17) (tyX12_ok 17 (by decide)) (by decide) (fun _ => rfl) (fun _ => rfl) dX12_init_91 ?_
  have z21 := z20.sRf (o := 504) (kz := 17) (x := 513) (by decide)
  refine V.aload_n (pc := 94) hG dX12_init_94 rfl 0 rfl ?_
  refine V.sipush (pc := 95) hG dX12_init_95 (by decide) ?_
  refine V.cnewaI (pc := 98) (x := 192) (z := 192) hG kw_249 (by decide +kernel) rfl (by decide) (by decide) z21.z ⟨by decide, by decide⟩ dX12_init_98 ?_
  refine V.nn (n2 := 515) rfl ?_
  have z22 := z21.up (m := 515) (by omega)
  refine V.cputRF (pc := 100) (ci := 14) (k := 18) (M := 49) (T := TX12) (o := 504) (kz := 18) (x := 514) hG (isA.of (by decide +kernel)) (by decide) (by decide) hin_X12 rfl (by decide) (by decide) rfl kw_1710 rfl tyX12 tyX12_ok nmX12 rfl hini rfl (ty := tyX12 18) (tyX12_ok 18 (by decide)) (by decide) (fun _ => rfl) (fun _ => rfl) dX12_init_100 ?_
  have z23 := z22.sRf (o := 504) (kz := 18) (x := 514) (by decide)
  refine V.aload_n (pc := 103) hG dX12_init_103 rfl 0 rfl ?_
  refine V.bipush (pc := 104) hG dX12_init_104 (by decide) ?_
  refine V.cnewaI (pc := 106) (x := 96) (z := 96) hG kw_249 (by decide +kernel) rfl (by decide) (by decide) z23.z ⟨by decide, by decide⟩ dX12_init_106 ?_
  refine V.nn (n2 := 516) rfl ?_
  have z24 := z23.up (m := 516) (by omega)
  refine V.cputRF (pc := 108) (ci := 14) (k := 22) (M := 49) (T := TX12) (o := 504) (kz := 22) (x := 515) hG (isA.of (by decide +kernel)) (by decide) (by decide) hin_X12 rfl (by decide) (by decide) rfl kw_1714 rfl tyX12 tyX12_ok nmX12 rfl hini rfl (ty := tyX12 22) (tyX12_ok 22 (by decide)) (by decide) (fun _ => rfl) (fun _ => rfl) dX12_init_108 ?_
  have z25 := z24.sRf (o := 504) (kz := 22) (x := 515) (by decide)
  refine V.aload_n (pc := 111) hG dX12_init_111 rfl 0 rfl ?_
  refine V.bipush (pc := 112) hG dX12_init_112 (by decide) ?_
  refine V.cnewaI (pc := 114) (x := 96) (z := 96) hG kw_249 (by decide +kernel) rfl (by decide) (by decide) z25.z ⟨by decide, by decide⟩ dX12_init_114 ?_
  refine V.nn (n2 := 517) rfl ?_
  have z26 := z25.up (m := 517) (by omega)
  refine V.cputRF (pc := 116) (ci := 14) (k := 23) (M := 49) (T := TX12) (o := 504) (kz := 23) (x := 516) hG (isA.of (by decide +kernel)) (by decide) (by decide) hin_X12 rfl (by decide) (by decide) rfl kw_1715 rfl tyX12 tyX12_ok nmX12 rfl hini rfl (ty := tyX12 23) (tyX12_ok 23 (by decide)) (by decide) (fun _ => rfl) (fun _ => rfl) dX12_init_116 ?_
  have z27 := z26.sRf (o := 504) (kz := 23) (x := 516) (by decide)
  refine V.aload_n (pc := 119) hG dX12_init_119 rfl 0 rfl ?_
  refine V.bipush (pc := 120) hG dX12_init_120 (by decide) ?_
  refine V.cnewaI (pc := 122) (x := 96) (z := 96) hG kw_249 (by decide +kernel) rfl (by decide) (by decide) z27.z ⟨by decide, by decide⟩ dX12_init_122 ?_
  refine V.nn (n2 := 518) rfl ?_
  have z28 := z27.up (m := 518) (by omega)
  refine V.cputRF (pc := 124) (ci := 14) (k := 24) (M := 49) (T := TX12) (o := 504) (kz := 24) (x := 517) hG (isA.of (by decide +kernel)) (by decide) (by decide) hin_X12 rfl (by decide) (by decide) rfl kw_1716 rfl tyX12 tyX12_ok nmX12 rfl hini rfl (ty := tyX12 24) (tyX12_ok 24 (by decide)) (by decide) (fun _ => rfl) (fun _ => rfl) dX12_init_124 ?_
  have z29 := z28.sRf (o := 504) (kz := 24) (x := 517) (by decide)
  refine V.aload_n (pc := 127) hG dX12_init_127 rfl 0 rfl ?_
  refine V.bipush (pc := 128) hG dX12_init_128 (by decide) ?_
  refine V.cnewaI (pc := 130) (x := 96) (z := 96) hG kw_249 (by decide +kernel) rfl (by decide) (by decide) z29.z ⟨by decide, by decide⟩ dX12_init_130 ?_
  refine V.nn (n2 := 519) rfl ?_
  have z30 := z29.up (m := 519) (by omega)
  refine V.cputRF (pc := 132) (ci := 14) (k := 25) (M := 49) (T := TX12) (o := 504) (kz := 25) (x := 518) hG (isA.of (by decide +kernel)) (by decide) (by decide) hin_X12 rfl (by decide) (by decide) rfl kw_1717 rfl tyX12 tyX12_ok nmX12 rfl hini rfl (ty := tyX12 25) (tyX12_ok 25 (by decide)) (by decide) (fun _ => rfl) (fun _ => rfl) dX12_init_132 ?_
  have z31 := z30.sRf (o := 504) (kz := 25) (x := 518) (by decide)
  refine V.aload_n (pc := 135) hG dX12_init_135 rfl 0 rfl ?_
  refine V.bipush (pc := 136) hG dX12_init_136 (by decide) ?_
  refine V.cnewaI (pc := 138) (x := 96) (z := 96) hG kw_249 (by decide +kernel) rfl (by decide) (by decide) z31.z ⟨by decide, by decide⟩ dX12_init_138 ?_
  refine V.nn (n2 := 520) rfl ?_
  have z32 := z31.up (m := 520) (by omega)
  refine V.cputRF (pc := 140) (ci := 14) (k := 26) (M := 49) (T := TX12) (o := 504) (kz := 26) (x := 519) hG (isA.of (by decide +kernel)) (by decide) (by decide) hin_X12 rfl (by decide) (by decide) rfl kw_1718 rfl tyX12 tyX12_ok nmX12 rfl hini rfl (ty := tyX12 26) (tyX12_ok 26 (by decide)) (by decide) (fun _ => rfl) (fun _ => rfl) dX12_init_140 ?_
  have z33 := z32.sRf (o := 504) (kz := 26) (x := 519) (by decide)
  refine V.aload_n (pc := 143) hG dX12_init_143 rfl 0 rfl ?_
  refine V.bipush (pc := 144) hG dX12_init_144 (by decide) ?_
  refine V.cnewaI (pc := 146) (x := 96) (z := 96) hG kw_249 (by decide +kernel) rfl (by decide) (by decide) z33.z ⟨by decide, by decide⟩ dX12_init_146 ?_
  refine V.nn (n2 := 521) rfl ?_
  have z34 := z33.up (m := 521) (by omega)
  refine V.cputRF (pc := 148) (ci := 14) (k := 27) (M := 49) (T := TX12) (o := 504) (kz := 27) (x := 520) hG (isA.of (by decide +kernel)) (by decide) (by decide) hin_X12 rfl (by decide) (by decide) rfl kw_1719 rfl tyX12 tyX12_ok nmX12 rfl hini rfl (ty := tyX12 27) (tyX12_ok 27 (by decide)) (by decide) (fun _ => rfl) (fun _ => rfl) dX12_init_148 ?_
  have z35 := z34.sRf (o := 504) (kz := 27) (x := 520) (by decide)
  refine V.aload_n (pc := 151) hG dX12_init_151 rfl 0 rfl ?_
  refine V.bipush (pc := 152) hG dX12_init_152 (by decide) ?_
  refine V.cnewaZ (pc := 154) (x := 96) (z := 96) hG kw_250 (by decide +kernel) rfl (by decide) (by decide) z35.z ⟨by decide, by decide⟩ dX12_init_154 ?_
  refine V.nn (n2 := 522) rfl ?_
  have z36 := z35.up (m := 522) (by omega)
  refine V.cputRF (pc := 156) (ci := 14) (k := 28) (M := 49) (T := TX12) (o := 504) (kz := 28) (x := 521) hG (isA.of (by decide +kernel)) (by decide) (by decide) hin_X12 rfl (by decide) (by decide) rfl kw_1720 rfl tyX12 tyX12_ok nmX12 rfl hini rfl (ty := tyX12 28) (tyX12_ok 28 (by decide)) (by decide) (fun _ => rfl) (fun _ => rfl) dX12_init_156 ?_
  have z37 := z36.sRf (o := 504) (kz := 28) (x := 521) (by decide)
  refine V.aload_n (pc := 159) hG dX12_init_159 rfl 0 rfl ?_
  refine V.bipush (pc := 160) hG dX12_init_160 (by decide) ?_
  refine V.cnewaI (pc := 162) (x := 96) (z := 96) hG kw_249 (by decide +kernel) rfl (by decide) (by decide) z37.z ⟨by decide, by decide⟩ dX12_init_162 ?_
  refine V.nn (n2 := 523) rfl ?_
  have z38 := z37.up (m := 523) (by omega)
  refine V.cputRF (pc := 164) (ci := 14) (k := 29) (M := 49) (T := TX12) (o := 504) (kz := 29) (x := 522) hG (isA.of (by decide +kernel)) (by decide) (by decide) hin_X12 rfl (by decide) (by decide) rfl kw_1721 rfl tyX12 tyX12_ok nmX12 rfl hini rfl (ty := tyX12 29) (tyX12_ok 29 (by decide)) (by decide) (fun _ => rfl) (fun _ => rfl) dX12_init_164 ?_
  have z39 := z38.sRf (o := 504) (kz := 29) (x := 522) (by decide)
  refine V.aload_n (pc := 167) hG dX12_init_167 rfl 0 rfl ?_
  refine V.sipush (pc := 168) hG dX12_init_168 (by decide) ?_
  refine V.cnewaI (pc := 171) (x := 20000) (z := 20000) hG kw_249 (by decide +kernel) rfl (by decide) (by decide) z39.z ⟨by decide, by decide⟩ dX12_init_171 ?_
  refine V.nn (n2 := 524) rfl ?_
  have z40 := z39.up (m := 524) (by omega)
  refine V.cputRF (pc := 173) (ci := 14) (k := 31) (M := 49) (T := TX12) (o := 504) (kz := 31) (x := 523) hG (isA.of (by decide +kernel)) (by decide) (by decide) hin_X12 rfl (by decide) (by decide) rfl kw_1723 rfl tyX12 tyX12_ok nmX12 rfl hini rfl (ty := tyX12 31) (tyX12_ok 31 (by decide)) (by decide) (fun _ => rfl) (fun _ => rfl) dX12_init_173 ?_
  have z41 := z40.sRf (o := 504) (kz := 31) (x := 523) (by decide)
  refine V.aload_n (pc := 176) hG dX12_init_176 rfl 0 rfl ?_
  refine V.sipush (pc := 177) hG dX12_init_177 (by decide) ?_
  refine V.cnewaI (pc := 180) (x := 20000) (z := 20000) hG kw_249 (by decide +kernel) rfl (by decide) (by decide) z41.z ⟨by decide, by decide⟩ dX12_init_180 ?_
  refine V.nn (n2 := 525) rfl ?_
  have z42 := z41.up (m := 525) (by omega)
  refine V.cputRF (pc := 182) (ci := 14) (k := 32) (M := 49) (T := TX12) (o := 504) (kz := 32) (x := 524) hG (isA.of (by decide +kernel)) (by decide) (by decide) hin_X12 rfl (by decide) (by decide) rfl kw_1724 rfl tyX12 tyX12_ok nmX12 rfl hini rfl (ty := tyX12 32) (tyX12_ok 32 (by decide)) (by decide) (fun _ => rfl) (fun _ => rfl) dX12_init_182 ?_
  have z43 := z42.sRf (o := 504) (kz := 32) (x := 524) (by decide)
  refine V.aload_n (pc := 185) hG dX12_init_185 rfl 0 rfl ?_
  refine V.sipush (pc := 186) hG dX12_init_186 (by decide) ?_
  refine V.cnewaI (pc := 189) (x := 20000) (z := 20000) hG kw_249 (by decide +kernel) rfl (by decide) (by decide) z43.z ⟨by decide, by decide⟩ dX12_init_189 ?_
  refine V.nn (n2 := 526) rfl ?_
  have z44 := z43.up (m := 526) (by omega)
  refine V.cputRF (pc := 191) (ci := 14) (k := 33) (M := 49) (T := TX12) (o := 504) (kz := 33) (x := 525) hG (isA.of (by decide +kernel)) (by decide) (by decide) hin_X12 rfl (by decide) (by decide) rfl kw_1725 rfl tyX12 tyX12_ok nmX12 rfl hini rfl (ty := tyX12 33) (tyX12_ok 33 (by decide)) (by decide) (fun _ => rfl) (fun _ => rfl) dX12_init_191 ?_
  have z45 := z44.sRf (o := 504) (kz := 33) (x := 525) (by decide)
  refine V.aload_n (pc := 194) hG dX12_init_194 rfl 0 rfl ?_
  refine V.sipush (pc := 195) hG dX12_init_195 (by decide) ?_
  refine V.cnewaI (pc := 198) (x := 20000) (z := 20000) hG kw_249 (by decide +kernel) rfl (by decide) (by decide) z45.z ⟨by decide, by decide⟩ dX12_init_198 ?_
  refine V.nn (n2 := 527) rfl ?_
  have z46 := z45.up (m := 527) (by omega)
  refine V.cputRF (pc := 200) (ci := 14) (k := 34) (M := 49) (T := TX12) (o := 504) (kz := 34) (x := 526) hG (isA.of (by decide +kernel)) (by decide) (by decide) hin_X12 rfl (by decide) (by decide) rfl kw_1726 rfl tyX12 tyX12_ok nmX12 rfl hini rfl (ty := tyX12 34) (tyX12_ok 34 (by decide)) (by decide) (fun _ => rfl) (fun _ => rfl) dX12_init_200 ?_
  have z47 := z46.sRf (o := 504) (kz := 34) (x := 526) (by decide)
  refine V.aload_n (pc := 203) hG dX12_init_203 rfl 0 rfl ?_
  refine V.sipush (pc := 204) hG dX12_init_204 (by decide) ?_
  refine V.cnewaI (pc := 207) (x := 20000) (z := 20000) hG kw_249 (by decide +kernel) rfl (by decide) (by decide) z47.z ⟨by decide, by decide⟩ dX12_init_207 ?_
  refine V.nn (n2 := 528) rfl ?_
  have z48 := z47.up (m := 528) (by omega)
  refine V.cputRF (pc := 209) (ci := 14) (k := 35) (M := 49) (T := TX12) (o := 504) (kz := 35) (x := 527) hG (isA.of (by decide +kernel)) (by decide) (by decide) hin_X12 rfl (by decide) (by decide) rfl kw_1727 rfl tyX12 tyX12_ok nmX12 rfl hini rfl (ty := tyX12 35) (tyX12_ok 35 (by decide)) (by decide) (fun _ => rfl) (fun _ => rfl) dX12_init_209 ?_
  have z49 := z48.sRf (o := 504) (kz := 35) (x := 527) (by decide)
  refine V.aload_n (pc := 212) hG dX12_init_212 rfl 0 rfl ?_
  refine V.sipush (pc := 213) hG dX12_init_213 (by decide) ?_
  refine V.cnewaI (pc := 216) (x := 9216) (z := 9216) hG kw_249 (by decide +kernel) rfl (by decide) (by decide) z49.z ⟨by decide, by decide⟩ dX12_init_216 ?_
  refine V.nn (n2 := 529) rfl ?_
  have z50 := z49.up (m := 529) (by omega)
  refine V.cputRF (pc := 218) (ci := 14) (k := 36) (M := 49) (T := TX12) (o := 504) (kz := 36) (x := 528) hG (isA.of (by decide +kernel)) (by decide) (by decide) hin_X12 rfl (by decide) (by decide) rfl kw_1728 rfl tyX12 tyX12_ok nmX12 rfl hini rfl (ty := tyX12 36) (tyX12_ok 36 (by decide)) (by decide) (fun _ => rfl) (fun _ => rfl) dX12_init_218 ?_
  have z51 := z50.sRf (o := 504) (kz := 36) (x := 528) (by decide)
  refine V.aload_n (pc := 221) hG dX12_init_221 rfl 0 rfl ?_
  refine V.bipush (pc := 222) hG dX12_init_222 (by decide) ?_
  refine V.cnewaI (pc := 224) (x := 96) (z := 96) hG kw_249 (by decide +kernel) rfl (by decide) (by decide) z51.z ⟨by decide, by decide⟩ dX12_init_224 ?_
  refine V.nn (n2 := 530) rfl ?_
  have z52 := z51.up (m := 530) (by omega)
  refine V.cputRF (pc := 226) (ci := 14) (k := 37) (M := 49) (T := TX12) (o := 504) (kz := 37) (x := 529) hG (isA.of (by decide +kernel)) (by decide) (by decide) hin_X12 rfl (by decide) (by decide) rfl kw_1729 rfl tyX12 tyX12_ok nmX12 rfl hini rfl (ty := tyX12 37) (tyX12_ok 37 (by decide)) (by decide) (fun _ => rfl) (fun _ => rfl) dX12_init_226 ?_
  have z53 := z52.sRf (o := 504) (kz := 37) (x := 529) (by decide)
  refine V.aload_n (pc := 229) hG dX12_init_229 rfl 0 rfl ?_
  refine V.bipush (pc := 230) hG dX12_init_230 (by decide) ?_
  refine V.cnewaI (pc := 232) (x := 96) (z := 96) hG kw_249 (by decide +kernel) rfl (by decide) (by decide) z53.z ⟨by decide, by decide⟩ dX12_init_232 ?_
  refine V.nn (n2 := 531) rfl ?_
  have z54 := z53.up (m := 531) (by omega)
  refine V.cputRF (pc := 234) (ci := 14) (k := 38) (M := 49) (T := TX12) (o := 504) (kz := 38) (x := 530) hG (isA.of (by decide +kernel)) (by decide) (by decide) hin_X12 rfl (by decide) (by decide) rfl kw_1730 rfl tyX12 tyX12_ok nmX12 rfl hini rfl (ty := tyX12 38) (tyX12_ok 38 (by decide)) (by decide) (fun _ => rfl) (fun _ => rfl) dX12_init_234 ?_
  have z55 := z54.sRf (o := 504) (kz := 38) (x := 530) (by decide)
  refine V.aload_n (pc := 237) hG dX12_init_237 rfl 0 rfl ?_
  refine V.bipush (pc := 238) hG dX12_init_238 (by decide) ?_
  refine V.cnewaI (pc := 240) (x := 96) (z := 96) hG kw_249 (by decide +kernel) rfl (by decide) (by decide) z55.z ⟨by decide, by decide⟩ dX12_init_240 ?_
  refine V.nn (n2 := 532) rfl ?_
  have z56 := z55.up (m := 532) (by omega)
  refine V.cputRF (pc := 242) (ci := 14) (k := 39) (M := 49) (T := TX12) (o := 504) (kz := 39) (x := 531) hG (isA.of (by decide +kernel)) (by decide) (by decide) hin_X12 rfl (by decide) (by decide) rfl kw_1731 rfl tyX12 tyX12_ok nmX12 rfl hini rfl (ty := tyX12 39) (tyX12_ok 39 (by decide)) (by decide) (fun _ => rfl) (fun _ => rfl) dX12_init_242 ?_
  have z57 := z56.sRf (o := 504) (kz := 39) (x := 531) (by decide)
  refine V.aload_n (pc := 245) hG dX12_init_245 rfl 0 rfl ?_
  refine V.bipush (pc := 246) hG dX12_init_246 (by decide) ?_
  refine V.cnewaI (pc := 248) (x := 96) (z := 96) hG kw_249 (by decide +kernel) rfl (by decide) (by decide) z57.z ⟨by decide, by decide⟩ dX12_init_248 ?_
  refine V.nn (n2 := 533) rfl ?_
  have z58 := z57.up (m := 533) (by omega)
  refine V.cputRF (pc := 250) (ci := 14) (k := 40) (M := 49) (T := TX12) (o := 504) (kz := 40) (x := 532) hG (isA.of (by decide +kernel)) (by decide) (by decide) hin_X12 rfl (by decide) (by decide) rfl kw_1732 rfl tyX12 tyX12_ok nmX12 rfl hini rfl (ty := tyX12 40) (tyX12_ok 40 (by decide)) (by decide) (fun _ => rfl) (fun _ => rfl) dX12_init_250 ?_
  have z59 := z58.sRf (o := 504) (kz := 40) (x := 532) (by decide)
  refine V.aload_n (pc := 253) hG dX12_init_253 rfl 0 rfl ?_
  refine V.bipush (pc := 254) hG dX12_init_254 (by decide) ?_
  refine V.cnewaI (pc := 256) (x := 96) (z := 96) hG kw_249 (by decide +kernel) rfl (by decide) (by decide) z59.z ⟨by decide, by decide⟩ dX12_init_256 ?_
  refine V.nn (n2 := 534) rfl ?_
  have z60 := z59.up (m := 534) (by omega)
  refine V.cputRF (pc := 258) (ci := 14) (k := 41) (M := 49) (T := TX12) (o := 504) (kz := 41) (x := 533) hG (isA.of (by decide +kernel)) (by decide) (by decide) hin_X12 rfl (by decide) (by decide) rfl kw_1733 rfl tyX12 tyX12_ok nmX12 rfl hini rfl (ty := tyX12 41) (tyX12_ok 41 (by decide)) (by decide) (fun _ => rfl) (fun _ => rfl) dX12_init_258 ?_
  have z61 := z60.sRf (o := 504) (kz := 41) (x := 533) (by decide)
  refine V.aload_n (pc := 261) hG dX12_init_261 rfl 0 rfl ?_
  refine V.sipush (pc := 262) hG dX12_init_262 (by decide) ?_
  refine V.cnewaI (pc := 265) (x := 1536) (z := 1536) hG kw_249 (by decide +kernel) rfl (by decide) (by decide) z61.z ⟨by decide, by decide⟩ dX12_init_265 ?_
  refine V.nn (n2 := 535) rfl ?_
  have z62 := z61.up (m := 535) (by omega)
  refine V.cputRF (pc := 267) (ci := 14) (k := 42) (M := 49) (T := TX12) (o := 504) (kz := 42) (x := 534) hG (isA.of (by decide +kernel)) (by decide) (by decide) hin_X12 rfl (by decide) (by decide) rfl kw_1734 rfl tyX12 tyX12_ok nmX12 rfl hini rfl (ty := tyX12 42) (tyX12_ok 42 (by decide)) (by decide) (fun _ => rfl) (fun _ => rfl) dX12_init_267 ?_
  have z63 := z62.sRf (o := 504) (kz := 42) (x := 534) (by decide)
  refine V.aload_n (pc := 270) hG dX12_init_270 rfl 0 rfl ?_
  refine V.iconst (pc := 271) hG dX12_init_271 ?_
  refine V.cnewaI (pc := 272) (x := 4) (z := 4) hG kw_249 (by decide +kernel) rfl (by decide) (by decide) z63.z ⟨by decide, by decide⟩ dX12_init_272 ?_
  refine V.nn (n2 := 536) rfl ?_
  have z64 := z63.up (m := 536) (by omega)
  refine V.cputRF (pc := 274) (ci := 14) (k := 43) (M := 49) (T := TX12) (o := 504) (kz := 43) (x := 535) hG (isA.of (by decide +kernel)) (by decide) (by decide) hin_X12 rfl (by decide) (by decide) rfl kw_1735 rfl tyX12 tyX12_ok nmX12 rfl hini rfl (ty := tyX12 43) (tyX12_ok 43 (by decide)) (by decide) (fun _ => rfl) (fun _ => rfl) dX12_init_274 ?_
  have z65 := z64.sRf (o := 504) (kz := 43) (x := 535) (by decide)
  refine V.aload_n (pc := 277) hG dX12_init_277 rfl 0 rfl ?_
  refine V.bipush (pc := 278) hG dX12_init_278 (by decide) ?_
  refine V.cnewaI (pc := 280) (x := 64) (z := 64) hG kw_249 (by decide +kernel) rfl (by decide) (by decide) z65.z ⟨by decide, by decide⟩ dX12_init_280 ?_
  refine V.nn (n2 := 537) rfl ?_
  have z66 := z65.up (m := 537) (by omega)
  refine V.cputRF (pc := 282) (ci := 14) (k := 44) (M := 49) (T := TX12) (o := 504) (kz := 44) (x := 536) hG (isA.of (by decide +kernel)) (by decide) (by decide) hin_X12 rfl (by decide) (by decide) rfl kw_1736 rfl tyX12 tyX12_ok nmX12 rfl hini rfl (ty := tyX12 44) (tyX12_ok 44 (by decide)) (by decide) (fun _ => rfl) (fun _ => rfl) dX12_init_282 ?_
  have z67 := z66.sRf (o := 504) (kz := 44) (x := 536) (by decide)
  refine V.aload_n (pc := 285) hG dX12_init_285 rfl 0 rfl ?_
  refine V.iconst (pc := 286) hG dX12_init_286 ?_
  refine V.cnewaI (pc := 287) (x := 4) (z := 4) hG kw_249 (by decide +kernel) rfl (by decide) (by decide) z67.z ⟨by decide, by decide⟩ dX12_init_287 ?_
  refine V.nn (n2 := 538) rfl ?_
  have z68 := z67.up (m := 538) (by omega)
  refine V.cputRF (pc := 289) (ci := 14) (k := 45) (M := 49) (T := TX12) (o := 504) (kz := 45) (x := 537) hG (isA.of (by decide +kernel)) (by decide) (by decide) hin_X12 rfl (by decide) (by decide) rfl kw_1737 rfl tyX12 tyX12_ok nmX12 rfl hini rfl (ty := tyX12 45) (tyX12_ok 45 (by decide)) (by decide) (fun _ => rfl) (fun _ => rfl) dX12_init_289 ?_
  have z69 := z68.sRf (o := 504) (kz := 45) (x := 537) (by decide)
  refine V.aload_n (pc := 292) hG dX12_init_292 rfl 0 rfl ?_
  refine V.iconst (pc := 293) hG dX12_init_293 ?_
  refine V.cnewaI (pc := 294) (x := 4) (z := 4) hG kw_249 (by decide +kernel) rfl (by decide) (by decide) z69.z ⟨by decide, by decide⟩ dX12_init_294 ?_
  refine V.nn (n2 := 539) rfl ?_
  have z70 := z69.up (m := 539) (by omega)
  refine V.cputRF (pc := 296) (ci := 14) (k := 46) (M := 49) (T := TX12) (o := 504) (kz := 46) (x := 538) hG (isA.of (by decide +kernel)) (by decide) (by decide) hin_X12 rfl (by decide) (by decide) rfl kw_1738 rfl tyX12 tyX12_ok nmX12 rfl hini rfl (ty := tyX12 46) (tyX12_ok 46 (by decide)) (by decide) (fun _ => rfl) (fun _ => rfl) dX12_init_296 ?_
  have z71 := z70.sRf (o := 504) (kz := 46) (x := 538) (by decide)
  refine V.aload_n (pc := 299) hG dX12_init_299 rfl 0 rfl ?_
  refine V.iconst (pc := 300) hG dX12_init_300 ?_
  refine V.cnewaI (pc := 301) (x := 4) (z := 4) hG kw_249 (by decide +kernel) rfl (by decide) (by decide) z71.z ⟨by decide, by decide⟩ dX12_init_301 ?_
  refine V.nn (n2 := 540) rfl ?_
  have z72 := z71.up (m := 540) (by omega)
  refine V.cputRF (pc := 303) (ci := 14) (k := 47) (M := 49) (T := TX12) (o := 504) (kz := 47) (x := 539) hG (isA.of (by decide +kernel)) (by decide) (by decide) hin_X12 rfl (by decide) (by decide) rfl kw_1739 rfl tyX12 tyX12_ok nmX12 rfl hini rfl (ty := tyX12 47) (tyX12_ok 47 (by decide)) (by decide) (fun _ => rfl) (fun _ => rfl) dX12_init_303 ?_
  have z73 := z72.sRf (o := 504) (kz := 47) (x := 539) (by decide)
  refine V.iconst (pc := 306) hG dX12_init_306 ?_
  refine V.istore_n (pc := 307) (lv' := [(1, .int (sJ 0)), (0, .ref (sA Δ 504))]) hG dX12_init_307 rfl (by decide) rfl ?_
  refine V.iload_n (pc := 308) (x := 0) hG dX12_init_308 rfl 0 rfl ?_
  refine V.bipush (pc := 309) hG dX12_init_309 (by decide) ?_
  refine V.icmp_ge (pc := 311) (tgt := 334) hG (sR_l rfl) (sR_l rfl) dX12_init_311 (by decide) (fun c1 => absurd c1 (by decide)) (fun _ => ?_)
  refine V.aload_n (pc := 314) hG dX12_init_314 rfl 1 rfl ?_
  have f0 := (st_ne (by decide)).trans ((st_ne (by decide)).trans ((st_ne (by decide)).trans ((st_ne (by decide)).trans ((st_ne (by decide)).trans ((st_ne (by decide)).trans ((st_ne (by decide)).trans ((st_ne (by decide)).trans ((st_ne (by decide)).trans ((st_ne (by decide)).trans ((st_ne (by decide)).trans ((st_ne (by decide)).trans ((st_ne (by decide)).trans ((st_ne (by decide)).trans ((st_ne (by decide)).trans ((st_ne (by decide)).trans ((st_ne (by decide)).trans ((st_ne (by decide)).trans ((st_ne (by decide)).trans ((st_ne (by decide)).trans ((st_ne (by decide)).trans ((st_ne (by decide)).trans ((st_ne (by decide)).trans ((st_ne (by decide)).trans ((st_ne (by decide)).trans ((st_ne (by decide)).trans ((st_ne (by decide)).trans ((st_ne (by decide)).trans ((st_ne (by decide)).trans (st_eq)))))))))))))))))))))))))))))
  refine V.getR (x := 510) (pc := 315) (ci := 14) (k := 14) (M := 49) (T := TX12) (o := 504) (kz := 14) hG (isA.of (by decide +kernel)) (by decide) (by decide) hin_X12 rfl (by decide) (by decide) rfl kw_1706 rfl f0 (by decide) dX12_init_315 ?_
  refine V.iload_n (pc := 318) (x := 0) hG dX12_init_318 rfl 0 rfl ?_
  refine V.iconst (pc := 319) hG dX12_init_319 ?_
  refine V.ciast (pc := 320) (z := 7) (o := 510) (x := 0) (v := 1) hG (isA.of (by decide +kernel)) (by decide) (sR_l rfl) (by decide) dX12_init_320 ?_
  have z74 := z73.sI (o := 510) (kz := 0) (x := 1) (by decide)
  refine V.aload_n (pc := 321) hG dX12_init_321 rfl 1 rfl ?_
  have f1 := (st_ne (by decide)).trans ((st_ne (by decide)).trans ((st_ne (by decide)).trans ((st_ne (by decide)).trans ((st_ne (by decide)).trans ((st_ne (by decide)).trans ((st_ne (by decide)).trans ((st_ne (by decide)).trans ((st_ne (by decide)).trans ((st_ne (by decide)).trans ((st_ne (by decide)).trans ((st_ne (by decide)).trans ((st_ne (by decide)).trans ((st_ne (by decide)).trans ((st_ne (by decide)).trans ((st_ne (by decide)).trans ((st_ne (by decide)).trans ((st_ne (by decide)).trans ((st_ne (by decide)).trans ((st_ne (by decide)).trans ((st_ne (by decide)).trans ((st_ne (by decide)).trans ((st_ne (by decide)).trans ((st_ne (by decide)).trans ((st_ne (by decide)).trans ((st_ne (by decide)).trans ((st_ne (by decide)).trans ((st_ne (by decide)).trans (st_eq))))))))))))))))))))))))))))
  refine V.getR (x := 511) (pc := 322) (ci := 14) (k := 15) (M := 49) (T := TX12) (o := 504) (kz := 15) hG (isA.of (by decide +kernel)) (by decide) (by decide) hin_X12 rfl (by decide) (by decide) rfl kw_1707 rfl f1 (by decide) dX12_init_322 ?_
  refine V.iload_n (pc := 325) (x := 0) hG dX12_init_325 rfl 0 rfl ?_
  refine V.iconst (pc := 326) hG dX12_init_326 ?_
  refine V.ciast (pc := 327) (z := 7) (o := 511) (x := 0) (v := 1) hG (isA.of (by decide +kernel)) (by decide) (sR_l rfl) (by decide) dX12_init_327 ?_
  have z75 := z74.sI (o := 511) (kz := 0) (x := 1) (by decide)
  refine V.iinc (pc := 328) (x := 0) (lv' := [(1, .int (sJ 1)), (0, .ref (sA Δ 504))]) hG dX12_init_328 0 rfl (by decide) rfl ?_
  refine V.goto (pc := 331) (tgt := 308) hG dX12_init_331 (by decide) ?_
  refine V.iload_n (pc := 308) (x := 1) hG dX12_init_308 rfl 0 rfl ?_
  refine V.bipush (pc := 309) hG dX12_init_309 (by decide) ?_
  refine V.icmp_ge (pc := 311) (tgt := 334) hG (sR_l rfl) (sR_l rfl) dX12_init_311 (by decide) (fun c1 => absurd c1 (by decide)) (fun _ => ?_)
  refine V.aload_n (pc := 314) hG dX12_init_314 rfl 1 rfl ?_
  have f2 := f0
  refine V.getR (x := 510) (pc := 315) (ci := 14) (k := 14) (M := 49) (T := TX12) (o := 504) (kz := 14) hG (isA.of (by decide +kernel)) (by decide) (by decide) hin_X12 rfl (by decide) (by decide) rfl kw_1706 rfl f2 (by decide) dX12_init_315 ?_
  refine V.iload_n (pc := 318) (x := 1) hG dX12_init_318 rfl 0 rfl ?_
  refine V.iconst (pc := 319) hG dX12_init_319 ?_
  refine V.ciast (pc := 320) (z := 7) (o := 510) (x := 1) (v := 1) hG (isA.of (by decide +kernel)) (by decide) (sR_l rfl) (by decide) dX12_init_320 ?_
  have z76 := z75.sI (o := 510) (kz := 1) (x := 1) (by decide)
  refine V.aload_n (pc := 321) hG dX12_init_321 rfl 1 rfl ?_
  have f3 := f1
  refine V.getR (x := 511) (pc := 322) (ci := 14) (k := 15) (M := 49) (T := TX12) (o := 504) (kz := 15) hG (isA.of (by decide +kernel)) (by decide) (by decide) hin_X12 rfl (by decide) (by decide) rfl kw_1707 rfl f3 (by decide) dX12_init_322 ?_
  refine V.iload_n (pc := 325) (x := 1) hG dX12_init_325 rfl 0 rfl ?_
  refine V.iconst (pc := 326) hG dX12_init_326 ?_
  refine V.ciast (pc := 327) (z := 7) (o := 511) (x := 1) (v := 1) hG (isA.of (by decide +kernel)) (by decide) (sR_l rfl) (by decide) dX12_init_327 ?_
  have z77 := z76.sI (o := 511) (kz := 1) (x := 1) (by decide)
  refine V.iinc (pc := 328) (x := 1) (lv' := [(1, .int (sJ 2)), (0, .ref (sA Δ 504))]) hG dX12_init_328 0 rfl (by decide) rfl ?_
  refine V.goto (pc := 331) (tgt := 308) hG dX12_init_331 (by decide) ?_
  refine V.iload_n (pc := 308) (x := 2) hG dX12_init_308 rfl 0 rfl ?_
  refine V.bipush (pc := 309) hG dX12_init_309 (by decide) ?_
  refine V.icmp_ge (pc := 311) (tgt := 334) hG (sR_l rfl) (sR_l rfl) dX12_init_311 (by decide) (fun c1 => absurd c1 (by decide)) (fun _ => ?_)
  refine V.aload_n (pc := 314) hG dX12_init_314 rfl 1 rfl ?_
  have f4 := f2
  refine V.getR (x := 510) (pc := 315) (ci := 14) (k := 14) (M := 49) (T := TX12) (o := 504) (kz := 14) hG (isA.of (by decide +kernel)) (by decide) (by decide) hin_X12 rfl (by decide) (by decide) rfl kw_1706 rfl f4 (by decide) dX12_init_315 ?_
  refine V.iload_n (pc := 318) (x := 2) hG dX12_init_318 rfl 0 rfl ?_
  refine V.iconst (pc := 319) hG dX12_init_319 ?_
  refine V.ciast (pc := 320) (z := 7) (o := 510) (x := 2) (v := 1) hG (isA.of (by decide +kernel)) (by decide) (sR_l rfl) (by decide) dX12_init_320 ?_
  have z78 := z77.sI (o := 510) (kz := 2) (x := 1) (by decide)
  refine V.aload_n (pc := 321) hG dX12_init_321 rfl 1 rfl ?_
  have f5 := f3
  refine V.getR (x := 511) (pc := 322) (ci := 14) (k := 15) (M := 49) (T := TX12) (o := 504) (kz := 15) hG (isA.of (by decide +kernel)) (by decide) (by decide) hin_X12 rfl (by decide) (by decide) rfl kw_1707 rfl f5 (by decide) dX12_init_322 ?_
  refine V.iload_n (pc := 325) (x := 2) hG dX12_init_325 rfl 0 rfl ?_
  refine V.iconst (pc := 326) hG dX12_init_326 ?_
  refine V.ciast (pc := 327) (z := 7) (o := 511) (x := 2) (v := 1) hG (isA.of (by decide +kernel)) (by decide) (sR_l rfl) (by decide) dX12_init_327 ?_
  have z79 := z78.sI (o := 511) (kz := 2) (x := 1) (by decide)
  refine V.iinc (pc := 328) (x := 2) (lv' := [(1, .int (sJ 3)), (0, .ref (sA Δ 504))]) hG dX12_init_328 0 rfl (by decide) rfl ?_
  refine V.goto (pc := 331) (tgt := 308) hG dX12_init_331 (by decide) ?_
  refine V.iload_n (pc := 308) (x := 3) hG dX12_init_308 rfl 0 rfl ?_
  refine V.bipush (pc := 309) hG dX12_init_309 (by decide) ?_
  refine V.icmp_ge (pc := 311) (tgt := 334) hG (sR_l rfl) (sR_l rfl) dX12_init_311 (by decide) (fun c1 => absurd c1 (by decide)) (fun _ => ?_)
  refine V.aload_n (pc := 314) hG dX12_init_314 rfl 1 rfl ?_
  have f6 := f4
  refine V.getR (x := 510) (pc := 315) (ci := 14) (k := 14) (M := 49) (T := TX12) (o := 504) (kz := 14) hG (isA.of (by decide +kernel)) (by decide) (by decide) hin_X12 rfl (by decide) (by decide) rfl kw_1706 rfl f6 (by decide) dX12_init_315 ?_
  refine V.iload_n (pc := 318) (x := 3) hG dX12_init_318 rfl 0 rfl ?_
  refine V.iconst (pc := 319) hG dX12_init_319 ?_
  refine V.ciast (pc := 320) (z := 7) (o := 510) (x := 3) (v := 1) hG (isA.of (by decide +kernel)) (by decide) (sR_l rfl) (by decide) dX12_init_320 ?_
  have z80 := z79.sI (o := 510) (kz := 3) (x := 1) (by decide)
  refine V.aload_n (pc := 321) hG dX12_init_321 rfl 1 rfl ?_
  have f7 := f5
  refine V.getR (x := 511) (pc := 322) (ci := 14) (k := 15) (M := 49) (T := TX12) (o := 504) (kz := 15) hG (isA.of (by decide +kernel)) (by decide) (by decide) hin_X12 rfl (by decide) (by decide) rfl kw_1707 rfl f7 (by decide) dX12_init_322 ?_
  refine V.iload_n (pc := 325) (x := 3) hG dX12_init_325 rfl 0 rfl ?_
  refine V.iconst (pc := 326) hG dX12_init_326 ?_
  refine V.ciast (pc := 327) (z := 7) (o := 511) (x := 3) (v := 1) hG (isA.of (by decide +kernel)) (by decide) (sR_l rfl) (by decide) dX12_init_327 ?_
  have z81 := z80.sI (o := 511) (kz := 3) (x := 1) (by decide)
  refine V.iinc (pc := 328) (x := 3) (lv' := [(1, .int (sJ 4)), (0, .ref (sA Δ 504))]) hG dX12_init_328 0 rfl (by decide) rfl ?_
  refine V.goto (pc := 331) (tgt := 308) hG dX12_init_331 (by decide) ?_
  refine V.iload_n (pc := 308) (x := 4) hG dX12_init_308 rfl 0 rfl ?_
  refine V.bipush (pc := 309) hG dX12_init_309 (by decide) ?_
  refine V.icmp_ge (pc := 311) (tgt := 334) hG (sR_l rfl) (sR_l rfl) dX12_init_311 (by decide) (fun c1 => absurd c1 (by decide)) (fun _ => ?_)
  refine V.aload_n (pc := 314) hG dX12_init_314 rfl 1 rfl ?_
  have f8 := f6
  refine V.getR (x := 510) (pc := 315) (ci := 14) (k := 14) (M := 49) (T := TX12) (o := 504) (kz := 14) hG (isA.of (by decide +kernel)) (by decide) (by decide) hin_X12 rfl (by decide) (by decide) rfl kw_1706 rfl f8 (by decide) dX12_init_315 ?_
  refine V.iload_n (pc := 318) (x := 4) hG dX12_init_318 rfl 0 rfl ?_
  refine V.iconst (pc := 319) hG dX12_init_319 ?_
  refine V.ciast (pc := 320) (z := 7) (o := 510) (x := 4) (v := 1) hG (isA.of (by decide +kernel)) (by decide) (sR_l rfl) (by decide) dX12_init_320 ?_
  have z82 := z81.sI (o := 510) (kz := 4) (x := 1) (by decide)
  refine V.aload_n (pc := 321) hG dX12_init_321 rfl 1 rfl ?_
  have f9 := f7
  refine V.getR (x := 511) (pc := 322) (ci := 14) (k := 15) (M := 49) (T := TX12) (o := 504) (kz := 15) hG (isA.of (by decide +kernel)) (by decide) (by decide) hin_X12 rfl (by decide) (by decide) rfl kw_1707 rfl f9 (by decide) dX12_init_322 ?_
  refine V.iload_n (pc := 325) (x := 4) hG dX12_init_325 rfl 0 rfl ?_
  refine V.iconst (pc := 326) hG dX12_init_326 ?_
  refine V.ciast (pc := 327) (z := 7) (o := 511) (x := 4) (v := 1) hG (isA.of (by decide +kernel)) (by decide) (sR_l rfl) (by decide) dX12_init_327 ?_
  have z83 := z82.sI (o := 511) (kz := 4) (x := 1) (by decide)
  refine V.iinc (pc := 328) (x := 4) (lv' := [(1, .int (sJ 5)), (0, .ref (sA Δ 504))]) hG dX12_init_328 0 rfl (by decide) rfl ?_
  refine V.goto (pc := 331) (tgt := 308) hG dX12_init_331 (by decide) ?_
  refine V.iload_n (pc := 308) (x := 5) hG dX12_init_308 rfl 0 rfl ?_
  refine V.bipush (pc := 309) hG dX12_init_309 (by decide) ?_
  refine V.icmp_ge (pc := 311) (tgt := 334) hG (sR_l rfl) (sR_l rfl) dX12_init_311 (by decide) (fun c1 => absurd c1 (by decide)) (fun _ => ?_)
  refine V.aload_n (pc := 314) hG dX12_init_314 rfl 1 rfl ?_
  have f10 := f8
  refine V.getR (x := 510) (pc := 315) (ci := 14) (k := 14) (M := 49) (T := TX12) (o := 504) (kz := 14) hG (isA.of (by decide +kernel)) (by decide) (by decide) hin_X12 rfl (by decide) (by decide) rfl kw_1706 rfl f10 (by decide) dX12_init_315 ?_
  refine V.iload_n (pc := 318) (x := 5) hG dX12_init_318 rfl 0 rfl ?_
  refine V.iconst (pc := 319) hG dX12_init_319 ?_
  refine V.ciast (pc := 320) (z := 7) (o := 510) (x := 5) (v := 1) hG (isA.of (by decide +kernel)) (by decide) (sR_l rfl) (by decide) dX12_init_320 ?_
  have z84 := z83.sI (o := 510) (kz := 5) (x := 1) (by decide)
  refine V.aload_n (pc := 321) hG dX12_init_321 rfl 1 rfl ?_
  have f11 := f9
  refine V.getR (x := 511) (pc := 322) (ci := 14) (k := 15) (M := 49) (T := TX12) (o := 504) (kz := 15) hG (isA.of (by decide +kernel)) (by decide) (by decide) hin_X12 rfl (by decide) (by decide) rfl kw_1707 rfl f11 (by decide) dX12_init_322 ?_
  refine V.iload_n (pc := 325) (x := 5) hG dX12_init_325 rfl 0 rfl ?_
  refine V.iconst (pc := 326) hG dX12_init_326 ?_
  refine V.ciast (pc := 327) (z := 7) (o := 511) (x := 5) (v := 1) hG (isA.of (by decide +kernel)) (by decide) (sR_l rfl) (by decide) dX12_init_327 ?_
  have z85 := z84.sI (o := 511) (kz := 5) (x := 1) (by decide)
  refine V.iinc (pc := 328) (x := 5) (lv' := [(1, .int (sJ 6)), (0, .ref (sA Δ 504))]) hG dX12_init_328 0 rfl (by decide) rfl ?_
  refine V.goto (pc := 331) (tgt := 308) hG dX12_init_331 (by decide) ?_
  refine V.iload_n (pc := 308) (x := 6) hG dX12_init_308 rfl 0 rfl ?_
  refine V.bipush (pc := 309) hG dX12_init_309 (by decide) ?_
  refine V.icmp_ge (pc := 311) (tgt := 334) hG (sR_l rfl) (sR_l rfl) dX12_init_311 (by decide) (fun c1 => absurd c1 (by decide)) (fun _ => ?_)
  refine V.aload_n (pc := 314) hG dX12_init_314 rfl 1 rfl ?_
  have f12 := f10
  refine V.getR (x := 510) (pc := 315) (ci := 14) (k := 14) (M := 49) (T := TX12) (o := 504) (kz := 14) hG (isA.of (by decide +kernel)) (by decide) (by decide) hin_X12 rfl (by decide) (by decide) rfl kw_1706 rfl f12 (by decide) dX12_init_315 ?_
  refine V.iload_n (pc := 318) (x := 6) hG dX12_init_318 rfl 0 rfl ?_
  refine V.iconst (pc := 319) hG dX12_init_319 ?_
  refine V.ciast (pc := 320) (z := 7) (o := 510) (x := 6) (v := 1) hG (isA.of (by decide +kernel)) (by decide) (sR_l rfl) (by decide) dX12_init_320 ?_
  have z86 := z85.sI (o := 510) (kz := 6) (x := 1) (by decide)
  refine V.aload_n (pc := 321) hG dX12_init_321 rfl 1 rfl ?_
  have f13 := f11
  refine V.getR (x := 511) (pc := 322) (ci := 14) (k := 15) (M := 49) (T := TX12) (o := 504) (kz := 15) hG (isA.of (by decide +kernel)) (by decide) (by decide) hin_X12 rfl (by decide) (by decide) rfl kw_1707 rfl f13 (by decide) dX12_init_322 ?_
  refine V.iload_n (pc := 325) (x := 6) hG dX12_init_325 rfl 0 rfl ?_
  refine V.iconst (pc := 326) hG dX12_init_326 ?_
  refine V.ciast (pc := 327) (z := 7) (o := 511) (x := 6) (v := 1) hG (isA.of (by decide +kernel)) (by decide) (sR_l rfl) (by decide) dX12_init_327 ?_
  have z87 := z86.sI (o := 511) (kz := 6) (x := 1) (by decide)
  refine V.iinc (pc := 328) (x := 6) (lv' := [(1, .int (sJ 7)), (0, .ref (sA Δ 504))]) hG dX12_init_328 0 rfl (by decide) rfl ?_
  refine V.goto (pc := 331) (tgt := 308) hG dX12_init_331 (by decide) ?_
  refine V.iload_n (pc := 308) (x := 7) hG dX12_init_308 rfl 0 rfl ?_
  refine V.bipush (pc := 309) hG dX12_init_309 (by decide) ?_
  refine V.icmp_ge (pc := 311) (tgt := 334) hG (sR_l rfl) (sR_l rfl) dX12_init_311 (by decide) (fun _ => ?_) (fun c1 => absurd (by decide) c1)
  refine V.iconst (pc := 334) hG dX12_init_334 ?_
  refine V.istore_n (pc := 335) (lv' := [(1, .int (sJ 0)), (0, .ref (sA Δ 504))]) hG dX12_init_335 rfl (by decide) rfl ?_
  refine V.iload_n (pc := 336) (x := 0) hG dX12_init_336 rfl 0 rfl ?_
  refine V.iconst (pc := 337) hG dX12_init_337 ?_
  refine V.icmp_ge (pc := 338) (tgt := 354) hG (sR_l rfl) (sR_l rfl) dX12_init_338 (by decide) (fun c1 => absurd c1 (by decide)) (fun _ => ?_)
  refine V.aload_n (pc := 341) hG dX12_init_341 rfl 1 rfl ?_
  have f14 := (st_ne (by decide)).trans ((st_ne (by decide)).trans (st_eq))
  refine V.getR (x := 537) (pc := 342) (ci := 14) (k := 45) (M := 49) (T := TX12) (o := 504) (kz := 45) hG (isA.of (by decide +kernel)) (by decide) (by decide) hin_X12 rfl (by decide) (by decide) rfl kw_1737 rfl f14 (by decide) dX12_init_342 ?_
  refine V.iload_n (pc := 345) (x := 0) hG dX12_init_345 rfl 0 rfl ?_
  refine V.iconst (pc := 346) hG dX12_init_346 ?_
  refine V.ciast (pc := 347) (z := 4) (o := 537) (x := 0) (v := 1) hG (isA.of (by decide +kernel)) (by decide) (sR_l rfl) (by decide) dX12_init_347 ?_
  have z88 := z87.sI (o := 537) (kz := 0) (x := 1) (by decide)
  refine V.iinc (pc := 348) (x := 0) (lv' := [(1, .int (sJ 1)), (0, .ref (sA Δ 504))]) hG dX12_init_348 0 rfl (by decide) rfl ?_
  refine V.goto (pc := 351) (tgt := 336) hG dX12_init_351 (by decide) ?_
  refine V.iload_n (pc := 336) (x := 1) hG dX12_init_336 rfl 0 rfl ?_
  refine V.iconst (pc := 337) hG dX12_init_337 ?_
  refine V.icmp_ge (pc := 338) (tgt := 354) hG (sR_l rfl) (sR_l rfl) dX12_init_338 (by decide) (fun c1 => absurd c1 (by decide)) (fun _ => ?_)
  refine V.aload_n (pc := 341) hG dX12_init_341 rfl 1 rfl ?_
  have f15 := f14
  refine V.getR (x := 537) (pc := 342) (ci := 14) (k := 45) (M := 49) (T := TX12) (o := 504) (kz := 45) hG (isA.of (by decide +kernel)) (by decide) (by decide) hin_X12 rfl (by decide) (by decide) rfl kw_1737 rfl f15 (by decide) dX12_init_342 ?_
  refine V.iload_n (pc := 345) (x := 1) hG dX12_init_345 rfl 0 rfl ?_
  refine V.iconst (pc := 346) hG dX12_init_346 ?_
  refine V.ciast (pc := 347) (z := 4) (o := 537) (x := 1) (v := 1) hG (isA.of (by decide +kernel)) (by decide) (sR_l rfl) (by decide) dX12_init_347 ?_
  have z89 := z88.sI (o := 537) (kz := 1) (x := 1) (by decide)
  refine V.iinc (pc := 348) (x := 1) (lv' := [(1, .int (sJ 2)), (0, .ref (sA Δ 504))]) hG dX12_init_348 0 rfl (by decide) rfl ?_
  refine V.goto (pc := 351) (tgt := 336) hG dX12_init_351 (by decide) ?_
  refine V.iload_n (pc := 336) (x := 2) hG dX12_init_336 rfl 0 rfl ?_
  refine V.iconst (pc := 337) hG dX12_init_337 ?_
  refine V.icmp_ge (pc := 338) (tgt := 354) hG (sR_l rfl) (sR_l rfl) dX12_init_338 (by decide) (fun c1 => absurd c1 (by decide)) (fun _ => ?_)
  refine V.aload_n (pc := 341) hG dX12_init_341 rfl 1 rfl ?_
  have f16 := f15
  refine V.getR (x := 537) (pc := 342) (ci := 14) (k := 45) (M := 49) (T := TX12) (o := 504) (kz := 45) hG (isA.of (by decide +kernel)) (by decide) (by decide) hin_X12 rfl (by decide) (by decide) rfl kw_1737 rfl f16 (by decide) dX12_init_342 ?_
  refine V.iload_n (pc := 345) (x := 2) hG dX12_init_345 rfl 0 rfl ?_
  refine V.iconst (pc := 346) hG dX12_init_346 ?_
  refine V.ciast (pc := 347) (z := 4) (o := 537) (x := 2) (v := 1) hG (isA.of (by decide +kernel)) (by decide) (sR_l rfl) (by decide) dX12_init_347 ?_
  have z90 := z89.sI (o := 537) (kz := 2) (x := 1) (by decide)
  refine V.iinc (pc := 348) (x := 2) (lv' := [(1, .int (sJ 3)), (0, .ref (sA Δ 504))]) hG dX12_init_348 0 rfl (by decide) rfl ?_
  refine V.goto (pc := 351) (tgt := 336) hG dX12_init_351 (by decide) ?_
  refine V.iload_n (pc := 336) (x := 3) hG dX12_init_336 rfl 0 rfl ?_
  refine V.iconst (pc := 337) hG dX12_init_337 ?_
  refine V.icmp_ge (pc := 338) (tgt := 354) hG (sR_l rfl) (sR_l rfl) dX12_init_338 (by decide) (fun c1 => absurd c1 (by decide)) (fun _ => ?_)
  refine V.aload_n (pc := 341) hG dX12_init_341 rfl 1 rfl ?_
  have f17 := f16
  refine V.getR (x := 537) (pc := 342) (ci := 14) (k := 45) (M := 49) (T := TX12) (o := 504) (kz := 45) hG (isA.of (by decide +kernel)) (by decide) (by decide) hin_X12 rfl (by decide) (by decide) rfl kw_1737 rfl f17 (by decide) dX12_init_342 ?_
  refine V.iload_n (pc := 345) (x := 3) hG dX12_init_345 rfl 0 rfl ?_
  refine V.iconst (pc := 346) hG dX12_init_346 ?_
  refine V.ciast (pc := 347) (z := 4) (o := 537) (x := 3) (v := 1) hG (isA.of (by decide +kernel)) (by decide) (sR_l rfl) (by decide) dX12_init_347 ?_
  have z91 := z90.sI (o := 537) (kz := 3) (x := 1) (by decide)
  refine V.iinc (pc := 348) (x := 3) (lv' := [(1, .int (sJ 4)), (0, .ref (sA Δ 504))]) hG dX12_init_348 0 rfl (by decide) rfl ?_
  refine V.goto (pc := 351) (tgt := 336) hG dX12_init_351 (by decide) ?_
  refine V.iload_n (pc := 336) (x := 4) hG dX12_init_336 rfl 0 rfl ?_
  refine V.iconst (pc := 337) hG dX12_init_337 ?_
  refine V.icmp_ge (pc := 338) (tgt := 354) hG (sR_l rfl) (sR_l rfl) dX12_init_338 (by decide) (fun _ => ?_) (fun c1 => absurd (by decide) c1)
  exact fin dX12_init_354 (by decide) (by decide)
set_option maxRecDepth 100000 in
theorem zf_X12 {i r : MI} (z0 : Zf (505) i r) : Zf (540) (cI_X12 i) (cR_X12 r) := by
  have z1 := z0.up (m := 506) (by omega)
  have z2 := z1.sRf (o := 504) (kz := 2) (x := 505) (by decide)
  have z3 := z2.up (m := 507) (by omega)
  have z4 := z3.sRf (o := 504) (kz := 3) (x := 506) (by decide)
  have z5 := z4.up (m := 508) (by omega)
  have z6 := z5.sRf (o := 504) (kz := 7) (x := 507) (by decide)
  have z7 := z6.sI (o := 504) (kz := 8) (x := 8) (by decide)
  have z8 := z7.sI (o := 504) (kz := 9) (x := 8) (by decide)
  have z9 := z8.sI (o := 504) (kz := 10) (x := 1) (by decide)
  have z10 := z9.up (m := 509) (by omega)
  have z11 := z10.sRf (o := 504) (kz := 12) (x := 508) (by decide)
  have z12 := z11.up (m := 510) (by omega)
  have z13 := z12.sRf (o := 504) (kz := 13) (x := 509) (by decide)
  have z14 := z13.up (m := 511) (by omega)
  have z15 := z14.sRf (o := 504) (kz := 14) (x := 510) (by decide)
  have z16 := z15.up (m := 512) (by omega)
  have z17 := z16.sRf (o := 504) (kz := 15) (x := 511) (by decide)
  have z18 := z17.up (m := 513) (by omega)
  have z19 := z18.sRf (o := 504) (kz := 16) (x := 512) (by decide)
  have z20 := z19.up (m := 514) (by omega)
  have z21 := z20.sRf (o := 504) (kz := 17) (x := 513) (by decide)
  have z22 := z21.up (m := 515) (by omega)
  have z23 := z22.sRf (o := 504) (kz := 18) (x := 514) (by decide)
  have z24 := z23.up (m := 516) (by omega)
  have z25 := z24.sRf (o := 504) (kz := 22) (x := 515) (by decide)
  have z26 := z25.up (m := 517) (by omega)
  have z27 := z26.sRf (o := 504) (kz := 23) (x := 516) (by decide)
  have z28 := z27.up (m := 518) (by omega)
  have z29 := z28.sRf (o := 504) (kz := 24) (x := 517) (by decide)
  have z30 := z29.up (m := 519) (by omega)
  have z31 := z30.sRf (o := 504) (kz := 25) (x := 518) (by decide)
  have z32 := z31.up (m := 520) (by omega)
  have z33 := z32.sRf (o := 504) (kz := 26) (x := 519) (by decide)
  have z34 := z33.up (m := 521) (by omega)
  have z35 := z34.sRf (o := 504) (kz := 27) (x := 520) (by decide)
  have z36 := z35.up (m := 522) (by omega)
  have z37 := z36.sRf (o := 504) (kz := 28) (x := 521) (by decide)
  have z38 := z37.up (m := 523) (by omega)
  have z39 := z38.sRf (o := 504) (kz := 29) (x := 522) (by decide)
  have z40 := z39.up (m := 524) (by omega)
  have z41 := z40.sRf (o := 504) (kz := 31) (x := 523) (by decide)
  have z42 := z41.up (m := 525) (by omega)
  have z43 := z42.sRf (o := 504) (kz := 32) (x := 524) (by decide)
  have z44 := z43.up (m := 526) (by omega)
  have z45 := z44.sRf (o := 504) (kz := 33) (x := 525) (by decide)
  have z46 := z45.up (m := 527) (by omega)
  have z47 := z46.sRf (o := 504) (kz := 34) (x := 526) (by decide)
  have z48 := z47.up (m := 528) (by omega)
  have z49 := z48.sRf (o := 504) (kz := 35) (x := 527) (by decide)
  have z50 := z49.up (m := 529) (by omega)
  have z51 := z50.sRf (o := 504) (kz := 36) (x := 528) (by decide)
  have z52 := z51.up (m := 530) (by omega)
  have z53 := z52.sRf (o := 504) (kz := 37) (x := 529) (by decide)
  have z54 := z53.up (m := 531) (by omega)
  have z55 := z54.sRf (o := 504) (kz := 38) (x := 530) (by decide)
  have z56 := z55.up (m := 532) (by omega)
  have z57 := z56.sRf (o := 504) (kz := 39) (x := 531) (by decide)
  have z58 := z57.up (m := 533) (by omega)
  have z59 := z58.sRf (o := 504) (kz := 40) (x := 532) (by decide)
  have z60 := z59.up (m := 534) (by omega)
  have z61 := z60.sRf (o := 504) (kz := 41) (x := 533) (by decide)
  have z62 := z61.up (m := 535) (by omega)
  have z63 := z62.sRf (o := 504) (kz := 42) (x := 534) (by decide)
  have z64 := z63.up (m := 536) (by omega)
  have z65 := z64.sRf (o := 504) (kz := 43) (x := 535) (by decide)
  have z66 := z65.up (m := 537) (by omega)
  have z67 := z66.sRf (o := 504) (kz := 44) (x := 536) (by decide)
  have z68 := z67.up (m := 538) (by omega)
  have z69 := z68.sRf (o := 504) (kz := 45) (x := 537) (by decide)
  have z70 := z69.up (m := 539) (by omega)
  have z71 := z70.sRf (o := 504) (kz := 46) (x := 538) (by decide)
  have z72 := z71.up (m := 540) (by omega)
  have z73 := z72.sRf (o := 504) (kz := 47) (x := 539) (by decide)
  have z74 := z73.sI (o := 510) (kz := 0) (x := 1) (by decide)
  have z75 := z74.sI (o := 511) (kz := 0) (x := 1) (by decide)
  have z76 := z75.sI (o := 510) (kz := 1) (x := 1) (by decide)
  have z77 := z76.sI (o := 511) (kz := 1) (x := 1) (by decide)
  have z78 := z77.sI (o := 510) (kz := 2) (x := 1) (by decide)
  have z79 := z78.sI (o := 511) (kz := 2) (x := 1) (by decide)
  have z80 := z79.sI (o := 510) (kz := 3) (x := 1) (by decide)
  have z81 := z80.sI (o := 511) (kz := 3) (x := 1) (by decide)
  have z82 := z81.sI (o := 510) (kz := 4) (x := 1) (by decide)
  have z83 := z82.sI (o := 511) (kz := 4) (x := 1) (by decide)
  have z84 := z83.sI (o := 510) (kz := 5) (x := 1) (by decide)
  have z85 := z84.sI (o := 511) (kz := 5) (x := 1) (by decide)
  have z86 := z85.sI (o := 510) (kz := 6) (x := 1) (by decide)
  have z87 := z86.sI (o := 511) (kz := 6) (x := 1) (by decide)
  have z88 := z87.sI (o := 537) (kz := 0) (x := 1) (by decide)
  have z89 := z88.sI (o := 537) (kz := 1) (x := 1) (by decide)
  have z90 := z89.sI (o := 537) (kz := 2) (x := 1) (by decide)
  have z91 := z90.sI (o := 537) (kz := 3) (x := 1) (by decide)
  exact z91
set_option maxRecDepth 100000 in
theorem fr_X12 {r : MI} {a : Int} (ha : a < 504) : cR_X12 r a = r a := by
  unfold cR_X12
  repeat first | rfl | rw [st_row (by omega)] | rw [rowsR_row (by omega)]
def cI_X1 (i : MI) : MI := (cI_X7 481 i)
def cR_X1 (r : MI) : MI := (st (st (cR_X7 481 r) 480 0 481) 480 1 487)
theorem mY_X1_init : mY yX1_init cX1_init 1 none 0 := ⟨kw_168, kw_533, by decide, by decide, by decide +kernel⟩
set_option maxRecDepth 100000 in
set_option maxHeartbeats 4000000 in
theorem ct_X1 (l : Launch) (Δ : Wd) {i r : MI}  (z0 : Zf (481) i r) : Met l yX1_init (Cond.code yX1_init cX1_init 1 none :: gW) (sRx 2 60 7 1775) (sPn Δ (481) [.ref (sA Δ 480)] i r) (sQn Δ (488) (cI_X1 i) (cR_X1 r)) 7 1775 (sFr Δ) := by
  refine Cc.v (by decide) rfl (Nat.le_of_ble_eq_true rfl) (fun Γ Q0 hG hini fin => ?_)
  have hG : okG Γ Δ l (sRx 2 60 7 1775) cX1_init "Schedulary$Circuit" 1 := hG
  show V Γ Δ (481) true i r 0 0 Q0 0 [(0, .ref (sA Δ 480))] []
  refine V.aload_n (pc := 0) hG dX1_init_0 rfl 0 rfl ?_
  refine V.objInit (pc := 1) hG kw_534 kw_193 kw_194 (by decide) dX1_init_1 ?_
  refine V.aload_n (pc := 4) hG dX1_init_4 rfl 0 rfl ?_
  refine V.cnew (pc := 5) (ci := 9) (N := 5) (T := TX7) (ty := tyX7) hG hin_X7 rfl tyX7_ok kw_535 kw_293 kw_162 (by decide +kernel) (by decide) rfl defX7 z0.z ⟨by decide, by decide⟩ dX1_init_5 ?_
  refine V.nn (n2 := 482) rfl ?_
  have z1 := z0.up (m := 482) (by omega)
  refine V.dup (pc := 8) hG dX1_init_8 rfl ?_
  refine V.ccallN (pc := 9) (n2 := 487) hG (ct_X7 l Δ (481) (isA.of (by decide +kernel)) (isA.of (by decide +kernel)) (isA.of (by decide +kernel)) (isA.of (by decide +kernel)) (isA.of (by decide +kernel)) (isA.of (by decide +kernel)) (by decide +kernel) (by decide +kernel) (by decide +kernel) (by decide +kernel) (by decide +kernel) z1) mY_X7_init rfl kw_536 kw_295 ⟨by decide, by decide, by decide, by decide⟩ (by decide) dX1_init_9 ?_
  have z2 := zf_X7 481 z1
  refine V.cputRF (pc := 12) (ci := 3) (k := 0) (M := 2) (T := TX1) (o := 480) (kz := 0) (x := 481) hG (isA.of (by decide +kernel)) (by decide) (by decide) hin_X1 rfl (by decide) (by decide) rfl kw_537 rfl tyX1 tyX1_ok nmX1 rfl hini rfl (ty := tyX1 0) (tyX1_ok 0 (by decide)) (by decide) (fun _ => rfl) (fun _ => rfl) dX1_init_12 ?_
  have z3 := z2.sRf (o := 480) (kz := 0) (x := 481) (by decide)
  refine V.aload_n (pc := 15) hG dX1_init_15 rfl 0 rfl ?_
  refine V.sipush (pc := 16) hG dX1_init_16 (by decide) ?_
  refine V.cnewaI (pc := 19) (x := 1536) (z := 1536) hG kw_249 (by decide +kernel) rfl (by decide) (by decide) z3.z ⟨by decide, by decide⟩ dX1_init_19 ?_
  refine V.nn (n2 := 488) rfl ?_
  have z4 := z3.up (m := 488) (by omega)
  refine V.cputRF (pc := 21) (ci := 3) (k := 1) (M := 2) (T := TX1) (o := 480) (kz := 1) (x := 487) hG (isA.of (by decide +kernel)) (by decide) (by decide) hin_X1 rfl (by decide) (by decide) rfl kw_539 rfl tyX1 tyX1_ok nmX1 rfl hini rfl (ty := tyX1 1) (tyX1_ok 1 (by decide)) (by decide) (fun _ => rfl) (fun _ => rfl) dX1_init_21 ?_
  have z5 := z4.sRf (o := 480) (kz := 1) (x := 487) (by decide)
  exact fin dX1_init_24 (by decide) (by decide)
set_option maxRecDepth 100000 in
theorem zf_X1 {i r : MI} (z0 : Zf (481) i r) : Zf (488) (cI_X1 i) (cR_X1 r) := by
  have z1 := z0.up (m := 482) (by omega)
  have z2 := zf_X7 481 z1
  have z3 := z2.sRf (o := 480) (kz := 0) (x := 481) (by decide)
  have z4 := z3.up (m := 488) (by omega)
  have z5 := z4.sRf (o := 480) (kz := 1) (x := 487) (by decide)
  exact z5
set_option maxRecDepth 100000 in
theorem fr_X1 {r : MI} {a : Int} (ha : a < 480) : cR_X1 r a = r a := by
  unfold cR_X1
  repeat first | rfl | rw [st_row (by omega)] | rw [rowsR_row (by omega)] | rw [fr_X8 _ (by omega)] | rw [fr_X3 _ (by omega)] | rw [fr_X7 _ (by omega)] | rw [fr_X10 (by omega)] | rw [fr_X6 (by omega)] | rw [fr_X0 (by omega)] | rw [fr_X2 (by omega)] | rw [fr_X9 (by omega)] | rw [fr_X4 (by omega)] | rw [fr_X1 (by omega)] | rw [fr_X5 (by omega)]
def cI_X6 (i : MI) : MI := (cI_X8 57 (cI_X8 53 (cI_X8 49 (cI_X8 45 (cI_X8 41 (cI_X8 37 (cI_X8 33 (cI_X8 29 (cI_X8 25 (cI_X8 21 (cI_X8 17 (cI_X8 13 (st (st (st (cI_X8 9 i) 3 6 8) 3 7 8) 3 8 1)))))))))))))
def cR_X6 (r : MI) : MI := (st (cR_X8 57 (st (cR_X8 53 (st (cR_X8 49 (st (cR_X8 45 (st (cR_X8 41 (st (cR_X8 37 (st (cR_X8 33 (st (cR_X8 29 (st (cR_X8 25 (st (cR_X8 21 (st (cR_X8 17 (st (cR_X8 13 (st (cR_X8 9 (st (rowsR (st (st r 3 0 4) 3 1 5) 6 2) 3 2 6)) 3 3 9)) 4 0 13)) 4 1 17)) 4 2 21)) 4 3 25)) 4 4 29)) 4 5 33)) 4 6 37)) 4 7 41)) 4 8 45)) 4 9 49)) 4 10 53)) 4 11 57)
theorem mY_X6_init : mY yX6_init cX6_init 2 none 0 := ⟨kw_160, kw_217, by decide, by decide, by decide +kernel⟩
set_option maxRecDepth 100000 in
set_option maxHeartbeats 4000000 in
theorem ct_X6 (l : Launch) (Δ : Wd) {i r : MI}  (z0 : Zf (4) i r) : Met l yX6_init (Cond.code yX6_init cX6_init 2 none :: gW) (sRx 2 60 57 247) (sPn Δ (4) [.ref (sA Δ 3)] i r) (sQn Δ (61) (cI_X6 i) (cR_X6 r)) 57 247 (sFr Δ) := by
  refine Cc.v (by decide) rfl (Nat.le_of_ble_eq_true rfl) (fun Γ Q0 hG hini fin => ?_)
  have hG : okG Γ Δ l (sRx 2 60 57 247) cX6_init "Schedulary$Program" 2 := hG
  show V Γ Δ (4) true i r 0 0 Q0 0 [(0, .ref (sA Δ 3))] []
  refine V.aload_n (pc := 0) hG dX6_init_0 rfl 0 rfl ?_
  refine V.objInit (pc := 1) hG kw_218 kw_193 kw_194 (by decide) dX6_init_1 ?_
  refine V.aload_n (pc := 4) hG dX6_init_4 rfl 0 rfl ?_
  refine V.bipush (pc := 5) hG dX6_init_5 (by decide) ?_
  refine V.canew 5 (pc := 7) (x := 12) (z := 12) hG (by decide) kw_219 (by decide +kernel) rfl (by decide) z0.z ⟨by decide, by decide⟩ dX6_init_7 ?_
  refine V.nn (n2 := 5) rfl ?_
  have z1 := z0.up (m := 5) (by omega)
  refine V.cputRF (pc := 10) (ci := 8) (k := 0) (M := 9) (T := TX6) (o := 3) (kz := 0) (x := 4) hG (isA.of (by decide +kernel)) (by decide) (by decide) hin_X6 rfl (by decide) (by decide) rfl kw_251 rfl tyX6 tyX6_ok nmX6 rfl hini rfl (ty := tyX6 0) (tyX6_ok 0 (by decide)) (by decide) (fun _ => rfl) (fun _ => rfl) dX6_init_10 ?_
  have z2 := z1.sRf (o := 3) (kz := 0) (x := 4) (by decide)
  refine V.aload_n (pc := 13) hG dX6_init_13 rfl 0 rfl ?_
  refine V.bipush (pc := 14) hG dX6_init_14 (by decide) ?_
  refine V.cnewaI (pc := 16) (x := 32) (z := 32) hG kw_249 (by decide +kernel) rfl (by decide) (by decide) z2.z ⟨by decide, by decide⟩ dX6_init_16 ?_
  refine V.nn (n2 := 6) rfl ?_
  have z3 := z2.up (m := 6) (by omega)
  refine V.cputRF (pc := 18) (ci := 8) (k := 1) (M := 9) (T := TX6) (o := 3) (kz := 1) (x := 5) hG (isA.of (by decide +kernel)) (by decide) (by decide) hin_X6 rfl (by decide) (by decide) rfl kw_253 rfl tyX6 tyX6_ok nmX6 rfl hini rfl (ty := tyX6 1) (tyX6_ok 1 (by decide)) (by decide) (fun _ => rfl) (fun _ => rfl) dX6_init_18 ?_
  have z4 := z3.sRf (o := 3) (kz := 1) (x := 5) (by decide)
  refine V.aload_n (pc := 21) hG dX6_init_21 rfl 0 rfl ?_
  refine V.iconst (pc := 22) hG dX6_init_22 ?_
  refine V.bipush (pc := 23) hG dX6_init_23 (by decide) ?_
  refine V.cmulti (pc := 25) (x := 2) (y := 16) (N := 2) (K := 16) hG kw_221 kw_249 rfl rfl (by decide) (by decide) (by decide +kernel) (by decide +kernel) z4.zM ⟨by decide, by decide⟩ dX6_init_25 ?_
  have z5 := z4.sM (N := 2)
  refine V.nn (n2 := 9) rfl ?_
  have z6 := z5.up (m := 9) (by omega)
  refine V.cputRF (pc := 29) (ci := 8) (k := 2) (M := 9) (T := TX6) (o := 3) (kz := 2) (x := 6) hG (isA.of (by decide +kernel)) (by decide) (by decide) hin_X6 rfl (by decide) (by decide) rfl kw_255 rfl tyX6 tyX6_ok nmX6 rfl hini rfl (ty := tyX6 2) (tyX6_ok 2 (by decide)) (by decide) (fun _ => rfl) (fun _ => rfl) dX6_init_29 ?_
  have z7 := z6.sRf (o := 3) (kz := 2) (x := 6) (by decide)
  refine V.aload_n (pc := 32) hG dX6_init_32 rfl 0 rfl ?_
  refine V.cnew (pc := 33) (ci := 10) (N := 4) (T := TX8) (ty := tyX8) hG hin_X8 rfl tyX8_ok kw_219 kw_223 kw_161 (by decide +kernel) (by decide) rfl defX8 z7.z ⟨by decide, by decide⟩ dX6_init_33 ?_
  refine V.nn (n2 := 10) rfl ?_
  have z8 := z7.up (m := 10) (by omega)
  refine V.dup (pc := 36) hG dX6_init_36 rfl ?_
  refine V.ccallN (pc := 37) (n2 := 13) hG (ct_X8 l Δ (9) (isA.of (by decide +kernel)) (isA.of (by decide +kernel)) (isA.of (by decide +kernel)) (isA.of (by decide +kernel)) (by decide +kernel) (by decide +kernel) (by decide +kernel) z8) mY_X8_init rfl kw_224 kw_225 ⟨by decide, by decide, by decide, by decide⟩ (by decide) dX6_init_37 ?_
  have z9 := zf_X8 9 z8
  refine V.cputR (pc := 40) (ci := 8) (k := 3) (M := 9) (T := TX6) (o := 3) (kz := 3) (x := 9) hG (isA.of (by decide +kernel)) (by decide) (by decide) hin_X6 rfl (by decide) (by decide) rfl kw_258 rfl tyX6 tyX6_ok nmX6 rfl (ty := tyX6 3) (tyX6_ok 3 (by decide)) (by decide) (fun _ => rfl) (fun _ => rfl) dX6_init_40 ?_
  have z10 := z9.sRf (o := 3) (kz := 3) (x := 9) (by decide)
  refine V.aload_n (pc := 43) hG dX6_init_43 rfl 0 rfl ?_
  refine V.bipush (pc := 44) hG dX6_init_44 (by decide) ?_
  refine V.cputI (pc := 46) (ci := 8) (k := 6) (M := 9) (T := TX6) (o := 3) (kz := 6) (x := 8) hG (isA.of (by decide +kernel)) (by decide) (by decide) hin_X6 rfl (by decide) (by decide) rfl kw_265 rfl tyX6 tyX6_ok nmX6 rfl (ty := tyX6 6) (tyX6_ok 6 (by decide)) rfl rfl dX6_init_46 ?_
  have z11 := z10.sI (o := 3) (kz := 6) (x := 8) (by decide)
  refine V.aload_n (pc := 49) hG dX6_init_49 rfl 0 rfl ?_
  refine V.bipush (pc := 50) hG dX6_init_50 (by decide) ?_
  refine V.cputI (pc := 52) (ci := 8) (k := 7) (M := 9) (T := TX6) (o := 3) (kz := 7) (x := 8) hG (isA.of (by decide +kernel)) (by decide) (by decide) hin_X6 rfl (by decide) (by decide) rfl kw_267 rfl tyX6 tyX6_ok nmX6 rfl (ty := tyX6 7) (tyX6_ok 7 (by decide)) rfl rfl dX6_init_52 ?_
  have z12 := z11.sI (o := 3) (kz := 7) (x := 8) (by decide)
  refine V.aload_n (pc := 55) hG dX6_init_55 rfl 0 rfl ?_
  refine V.iconst (pc := 56) hG dX6_init_56 ?_
  refine V.cputI (pc := 57) (ci := 8) (k := 8) (M := 9) (T := TX6) (o := 3) (kz := 8) (x := 1) hG (isA.of (by decide +kernel)) (by decide) (by decide) hin_X6 rfl (by decide) (by decide) rfl kw_269 rfl tyX6 tyX6_ok nmX6 rfl (ty := tyX6 8) (tyX6_ok 8 (by decide)) rfl rfl dX6_init_57 ?_
  have z13 := z12.sI (o := 3) (kz := 8) (x := 1) (by decide)
  refine V.iconst (pc := 60) hG dX6_init_60 ?_
  refine V.istore_n (pc := 61) (lv' := [(1, .int (sJ 0)), (0, .ref (sA Δ 3))]) hG dX6_init_61 rfl (by decide) rfl ?_
  refine V.iload_n (pc := 62) (x := 0) hG dX6_init_62 rfl 0 rfl ?_
  refine V.bipush (pc := 63) hG dX6_init_63 (by decide) ?_
  refine V.icmp_ge (pc := 65) (tgt := 87) hG (sR_l rfl) (sR_l rfl) dX6_init_65 (by decide) (fun c1 => absurd c1 (by decide)) (fun _ => ?_)
  refine V.aload_n (pc := 68) hG dX6_init_68 rfl 1 rfl ?_
  have f0 := (st_ne (by decide)).trans ((congrFun (fr_X8 9 (by decide)) _).trans ((st_ne (by decide)).trans ((congrFun (rowsR_row (by decide)) _).trans ((st_ne (by decide)).trans (st_eq)))))
  refine V.getR (x := 4) (pc := 69) (ci := 8) (k := 0) (M := 9) (T := TX6) (o := 3) (kz := 0) hG (isA.of (by decide +kernel)) (by decide) (by decide) hin_X6 rfl (by decide) (by decide) rfl kw_251 rfl f0 (by decide) dX6_init_69 ?_
  refine V.iload_n (pc := 72) (x := 0) hG dX6_init_72 rfl 0 rfl ?_
  refine V.cnew (pc := 73) (ci := 10) (N := 4) (T := TX8) (ty := tyX8) hG hin_X8 rfl tyX8_ok kw_219 kw_223 kw_161 (by decide +kernel) (by decide) rfl defX8 z13.z ⟨by decide, by decide⟩ dX6_init_73 ?_
  refine V.nn (n2 := 14) rfl ?_
  have z14 := z13.up (m := 14) (by omega)
  refine V.dup (pc := 76) hG dX6_init_76 rfl ?_
  refine V.ccallN (pc := 77) (n2 := 17) hG (ct_X8 l Δ (13) (isA.of (by decide +kernel)) (isA.of (by decide +kernel)) (isA.of (by decide +kernel)) (isA.of (by decide +kernel)) (by decide +kernel) (by decide +kernel) (by decide +kernel) z14) mY_X8_init rfl kw_224 kw_225 ⟨by decide, by decide, by decide, by decide⟩ (by decide) dX6_init_77 ?_
  have z15 := zf_X8 13 z14
  refine V.caast 5 10 (pc := 80) (z := 12) (o := 4) (x := 0) (y := 13) hG (isA.of (by decide +kernel)) (by decide) (by decide) rfl (isA.of (by decide +kernel)) (by decide) (by decide) rfl (sR_l rfl) (by decide) (by decide) dX6_init_80 ?_
  have z16 := z15.sRf (o := 4) (kz := 0) (x := 13) (by decide)
  refine V.iinc (pc := 81) (x := 0) (lv' := [(1, .int (sJ 1)), (0, .ref (sA Δ 3))]) hG dX6_init_81 0 rfl (by decide) rfl ?_
  refine V.goto (pc := 84) (tgt := 62) hG dX6_init_84 (by decide) ?_
  refine V.iload_n (pc := 62) (x := 1) hG dX6_init_62 rfl 0 rfl ?_
  refine V.bipush (pc := 63) hG dX6_init_63 (by decide) ?_
  refine V.icmp_ge (pc := 65) (tgt := 87) hG (sR_l rfl) (sR_l rfl) dX6_init_65 (by decide) (fun c1 => absurd c1 (by decide)) (fun _ => ?_)
  refine V.aload_n (pc := 68) hG dX6_init_68 rfl 1 rfl ?_
  have f1 := (st_ne (by decide)).trans ((congrFun (fr_X8 13 (by decide)) _).trans (f0))
  refine V.getR (x := 4) (pc := 69) (ci := 8) (k := 0) (M := 9) (T := TX6) (o := 3) (kz := 0) hG (isA.of (by decide +kernel)) (by decide) (by decide) hin_X6 rfl (by decide) (by decide) rfl kw_251 rfl f1 (by decide) dX6_init_69 ?_
  refine V.iload_n (pc := 72) (x := 1) hG dX6_init_72 rfl 0 rfl ?_
  refine V.cnew (pc := 73) (ci := 10) (N := 4) (T := TX8) (ty := tyX8) hG hin_X8 rfl tyX8_ok kw_219 kw_223 kw_161 (by decide +kernel) (by decide) rfl defX8 z16.z ⟨by decide, by decide⟩ dX6_init_73 ?_
  refine V.nn (n2 := 18) rfl ?_
  have z17 := z16.up (m := 18) (by omega)
  refine V.dup (pc := 76) hG dX6_init_76 rfl ?_
  refine V.ccallN (pc := 77) (n2 := 21) hG (ct_X8 l Δ (17) (isA.of (by decide +kernel)) (isA.of (by decide +kernel)) (isA.of (by decide +kernel)) (isA.of (by decide +kernel)) (by decide +kernel) (by decide +kernel) (by decide +kernel) z17) mY_X8_init rfl kw_224 kw_225 ⟨by decide, by decide, by decide, by decide⟩ (by decide) dX6_init_77 ?_
  have z18 := zf_X8 17 z17
  refine V.caast 5 10 (pc := 80) (z := 12) (o := 4) (x := 1) (y := 17) hG (isA.of (by decide +kernel)) (by decide) (by decide) rfl (isA.of (by decide +kernel)) (by decide) (by decide) rfl (sR_l rfl) (by decide) (by decide) dX6_init_80 ?_
  have z19 := z18.sRf (o := 4) (kz := 1) (x := 17) (by decide)
  refine V.iinc (pc := 81) (x := 1) (lv' := [(1, .int (sJ 2)), (0, .ref (sA Δ 3))]) hG dX6_init_81 0 rfl (by decide) rfl ?_
  refine V.goto (pc := 84) (tgt := 62) hG dX6_init_84 (by decide) ?_
  refine V.iload_n (pc := 62) (x := 2) hG dX6_init_62 rfl 0 rfl ?_
  refine V.bipush (pc := 63) hG dX6_init_63 (by decide) ?_
  refine V.icmp_ge (pc := 65) (tgt := 87) hG (sR_l rfl) (sR_l rfl) dX6_init_65 (by decide) (fun c1 => absurd c1 (by decide)) (fun _ => ?_)
  refine V.aload_n (pc := 68) hG dX6_init_68 rfl 1 rfl ?_
  have f2 := (st_ne (by decide)).trans ((congrFun (fr_X8 17 (by decide)) _).trans (f1))
  refine V.getR (x := 4) (pc := 69) (ci := 8) (k := 0) (M := 9) (T := TX6) (o := 3) (kz := 0) hG (isA.of (by decide +kernel)) (by decide) (by decide) hin_X6 rfl (by decide) (by decide) rfl kw_251 rfl f2 (by decide) dX6_init_69 ?_
  refine V.iload_n (pc := 72) (x := 2) hG dX6_init_72 rfl 0 rfl ?_
  refine V.cnew (pc := 73) (ci := 10) (N := 4) (T := TX8) (ty := tyX8) hG hin_X8 rfl tyX8_ok kw_219 kw_223 kw_161 (by decide +kernel) (by decide) rfl defX8 z19.z ⟨by decide, by decide⟩ dX6_init_73 ?_
  refine V.nn (n2 := 22) rfl ?_
  have z20 := z19.up (m := 22) (by omega)
  refine V.dup (pc := 76) hG dX6_init_76 rfl ?_
  refine V.ccallN (pc := 77) (n2 := 25) hG (ct_X8 l Δ (21) (isA.of (by decide +kernel)) (isA.of (by decide +kernel)) (isA.of (by decide +kernel)) (isA.of (by decide +kernel)) (by decide +kernel) (by decide +kernel) (by decide +kernel) z20) mY_X8_init rfl kw_224 kw_225 ⟨by decide, by decide, by decide, by decide⟩ (by decide) dX6_init_77 ?_
  have z21 := zf_X8 21 z20
  refine V.caast 5 10 (pc := 80) (z := 12) (o := 4) (x := 2) (y := 21) hG (isA.of (by decide +kernel)) (by decide) (by decide) rfl (isA.of (by decide +kernel)) (by decide) (by decide) rfl (sR_l rfl) (by decide) (by decide) dX6_init_80 ?_
  have z22 := z21.sRf (o := 4) (kz := 2) (x := 21) (by decide)
  refine V.iinc (pc := 81) (x := 2) (lv' := [(1, .int (sJ 3)), (0, .ref (sA Δ 3))]) hG dX6_init_81 0 rfl (by decide) rfl ?_
  refine V.goto (pc := 84) (tgt := 62) hG dX6_init_84 (by decide) ?_
  refine V.iload_n (pc := 62) (x := 3) hG dX6_init_62 rfl 0 rfl ?_
  refine V.bipush (pc := 63) hG dX6_init_63 (by decide) ?_
  refine V.icmp_ge (pc := 65) (tgt := 87) hG (sR_l rfl) (sR_l rfl) dX6_init_65 (by decide) (fun c1 => absurd c1 (by decide)) (fun _ => ?_)
  refine V.aload_n (pc := 68) hG dX6_init_68 rfl 1 rfl ?_
  have f3 := (st_ne (by decide)).trans ((congrFun (fr_X8 21 (by decide)) _).trans (f2))
  refine V.getR (x := 4) (pc := 69) (ci := 8) (k := 0) (M := 9) (T := TX6) (o := 3) (kz := 0) hG (isA.of (by decide +kernel)) (by decide) (by decide) hin_X6 rfl (by decide) (by decide) rfl kw_251 rfl f3 (by decide) dX6_init_69 ?_
  refine V.iload_n (pc := 72) (x := 3) hG dX6_init_72 rfl 0 rfl ?_
  refine V.cnew (pc := 73) (ci := 10) (N := 4) (T := TX8) (ty := tyX8) hG hin_X8 rfl tyX8_ok kw_219 kw_223 kw_161 (by decide +kernel) (by decide) rfl defX8 z22.z ⟨by decide, by decide⟩ dX6_init_73 ?_
  refine V.nn (n2 := 26) rfl ?_
  have z23 := z22.up (m := 26) (by omega)
  refine V.dup (pc := 76) hG dX6_init_76 rfl ?_
  refine V.ccallN (pc := 77) (n2 := 29) hG (ct_X8 l Δ (25) (isA.of (by decide +kernel)) (isA.of (by decide +kernel)) (isA.of (by decide +kernel)) (isA.of (by decide +kernel)) (by decide +kernel) (by decide +kernel) (by decide +kernel) z23) mY_X8_init rfl kw_224 kw_225 ⟨by decide, by decide, by decide, by decide⟩ (by decide) dX6_init_77 ?_
  have z24 := zf_X8 25 z23
  refine V.caast 5 10 (pc := 80) (z := 12) (o := 4) (x := 3) (y := 25) hG (isA.of (by decide +kernel)) (by decide) (by decide) rfl (isA.of (by decide +kernel)) (by decide) (by decide) rfl (sR_l rfl) (by decide) (by decide) dX6_init_80 ?_
  have z25 := z24.sRf (o := 4) (kz := 3) (x := 25) (by decide)
  refine V.iinc (pc := 81) (x := 3) (lv' := [(1, .int (sJ 4)), (0, .ref (sA Δ 3))]) hG dX6_init_81 0 rfl (by decide) rfl ?_
  refine V.goto (pc := 84) (tgt := 62) hG dX6_init_84 (by decide) ?_
  refine V.iload_n (pc := 62) (x := 4) hG dX6_init_62 rfl 0 rfl ?_
  refine V.bipush (pc := 63) hG dX6_init_63 (by decide) ?_
  refine V.icmp_ge (pc := 65) (tgt := 87) hG (sR_l rfl) (sR_l rfl) dX6_init_65 (by decide) (fun c1 => absurd c1 (by decide)) (fun _ => ?_)
  refine V.aload_n (pc := 68) hG dX6_init_68 rfl 1 rfl ?_
  have f4 := (st_ne (by decide)).trans ((congrFun (fr_X8 25 (by decide)) _).trans (f3))
  refine V.getR (x := 4) (pc := 69) (ci := 8) (k := 0) (M := 9) (T := TX6) (o := 3) (kz := 0) hG (isA.of (by decide +kernel)) (by decide) (by decide) hin_X6 rfl (by decide) (by decide) rfl kw_251 rfl f4 (by decide) dX6_init_69 ?_
  refine V.iload_n (pc := 72) (x := 4) hG dX6_init_72 rfl 0 rfl ?_
  refine V.cnew (pc := 73) (ci := 10) (N := 4) (T := TX8) (ty := tyX8) hG hin_X8 rfl tyX8_ok kw_219 kw_223 kw_161 (by decide +kernel) (by decide) rfl defX8 z25.z ⟨by decide, by decide⟩ dX6_init_73 ?_
  refine V.nn (n2 := 30) rfl ?_
  have z26 := z25.up (m := 30) (by omega)
  refine V.dup (pc := 76) hG dX6_init_76 rfl ?_
  refine V.ccallN (pc := 77) (n2 := 33) hG (ct_X8 l Δ (29) (isA.of (by decide +kernel)) (isA.of (by decide +kernel)) (isA.of (by decide +kernel)) (isA.of (by decide +kernel)) (by decide +kernel) (by decide +kernel) (by decide +kernel) z26) mY_X8_init rfl kw_224 kw_225 ⟨by decide, by decide, by decide, by decide⟩ (by decide) dX6_init_77 ?_
  have z27 := zf_X8 29 z26
  refine V.caast 5 10 (pc := 80) (z := 12) (o := 4) (x := 4) (y := 29) hG (isA.of (by decide +kernel)) (by decide) (by decide) rfl (isA.of (by decide +kernel)) (by decide) (by decide) rfl (sR_l rfl) (by decide) (by decide) dX6_init_80 ?_
  have z28 := z27.sRf (o := 4) (kz := 4) (x := 29) (by decide)
  refine V.iinc (pc := 81) (x := 4) (lv' := [(1, .int (sJ 5)), (0, .ref (sA Δ 3))]) hG dX6_init_81 0 rfl (by decide) rfl ?_
  refine V.goto (pc := 84) (tgt := 62) hG dX6_init_84 (by decide) ?_
  refine V.iload_n (pc := 62) (x := 5) hG dX6_init_62 rfl 0 rfl ?_
  refine V.bipush (pc := 63) hG dX6_init_63 (by decide) ?_
  refine V.icmp_ge (pc := 65) (tgt := 87) hG (sR_l rfl) (sR_l rfl) dX6_init_65 (by decide) (fun c1 => absurd c1 (by decide)) (fun _ => ?_)
  refine V.aload_n (pc := 68) hG dX6_init_68 rfl 1 rfl ?_
  have f5 := (st_ne (by decide)).trans ((congrFun (fr_X8 29 (by decide)) _).trans (f4))
  refine V.getR (x := 4) (pc := 69) (ci := 8) (k := 0) (M := 9) (T := TX6) (o := 3) (kz := 0) hG (isA.of (by decide +kernel)) (by decide) (by decide) hin_X6 rfl (by decide) (by decide) rfl kw_251 rfl f5 (by decide) dX6_init_69 ?_
  refine V.iload_n (pc := 72) (x := 5) hG dX6_init_72 rfl 0 rfl ?_
  refine V.cnew (pc := 73) (ci := 10) (N := 4) (T := TX8) (ty := tyX8) hG hin_X8 rfl tyX8_ok kw_219 kw_223 kw_161 (by decide +kernel) (by decide) rfl defX8 z28.z ⟨by decide, by decide⟩ dX6_init_73 ?_
  refine V.nn (n2 := 34) rfl ?_
  have z29 := z28.up (m := 34) (by omega)
  refine V.dup (pc := 76) hG dX6_init_76 rfl ?_
  refine V.ccallN (pc := 77) (n2 := 37) hG (ct_X8 l Δ (33) (isA.of (by decide +kernel)) (isA.of (by decide +kernel)) (isA.of (by decide +kernel)) (isA.of (by decide +kernel)) (by decide +kernel) (by decide +kernel) (by decide +kernel) z29) mY_X8_init rfl kw_224 kw_225 ⟨by decide, by decide, by decide, by decide⟩ (by decide) dX6_init_77 ?_
  have z30 := zf_X8 33 z29
  refine V.caast 5 10 (pc := 80) (z := 12) (o := 4) (x := 5) (y := 33) hG (isA.of (by decide +kernel)) (by decide) (by decide) rfl (isA.of (by decide +kernel)) (by decide) (by decide) rfl (sR_l rfl) (by decide) (by decide) dX6_init_80 ?_
  have z31 := z30.sRf (o := 4) (kz := 5) (x := 33) (by decide)
  refine V.iinc (pc := 81) (x := 5) (lv' := [(1, .int (sJ 6)), (0, .ref (sA Δ 3))]) hG dX6_init_81 0 rfl (by decide) rfl ?_
  refine V.goto (pc := 84) (tgt := 62) hG dX6_init_84 (by decide) ?_
  refine V.iload_n (pc := 62) (x := 6) hG dX6_init_62 rfl 0 rfl ?_
  refine V.bipush (pc := 63) hG dX6_init_63 (by decide) ?_
  refine V.icmp_ge (pc := 65) (tgt := 87) hG (sR_l rfl) (sR_l rfl) dX6_init_65 (by decide) (fun c1 => absurd c1 (by decide)) (fun _ => ?_)
  refine V.aload_n (pc := 68) hG dX6_init_68 rfl 1 rfl ?_
  have f6 := (st_ne (by decide)).trans ((congrFun (fr_X8 33 (by decide)) _).trans (f5))
  refine V.getR (x := 4) (pc := 69) (ci := 8) (k := 0) (M := 9) (T := TX6) (o := 3) (kz := 0) hG (isA.of (by decide +kernel)) (by decide) (by decide) hin_X6 rfl (by decide) (by decide) rfl kw_251 rfl f6 (by decide) dX6_init_69 ?_
  refine V.iload_n (pc := 72) (x := 6) hG dX6_init_72 rfl 0 rfl ?_
  refine V.cnew (pc := 73) (ci := 10) (N := 4) (T := TX8) (ty := tyX8) hG hin_X8 rfl tyX8_ok kw_219 kw_223 kw_161 (by decide +kernel) (by decide) rfl defX8 z31.z ⟨by decide, by decide⟩ dX6_init_73 ?_
  refine V.nn (n2 := 38) rfl ?_
  have z32 := z31.up (m := 38) (by omega)
  refine V.dup (pc := 76) hG dX6_init_76 rfl ?_
  refine V.ccallN (pc := 77) (n2 := 41) hG (ct_X8 l Δ (37) (isA.of (by decide +kernel)) (isA.of (by decide +kernel)) (isA.of (by decide +kernel)) (isA.of (by decide +kernel)) (by decide +kernel) (by decide +kernel) (by decide +kernel) z32) mY_X8_init rfl kw_224 kw_225 ⟨by decide, by decide, by decide, by decide⟩ (by decide) dX6_init_77 ?_
  have z33 := zf_X8 37 z32
  refine V.caast 5 10 (pc := 80) (z := 12) (o := 4) (x := 6) (y := 37) hG (isA.of (by decide +kernel)) (by decide) (by decide) rfl (isA.of (by decide +kernel)) (by decide) (by decide) rfl (sR_l rfl) (by decide) (by decide) dX6_init_80 ?_
  have z34 := z33.sRf (o := 4) (kz := 6) (x := 37) (by decide)
  refine V.iinc (pc := 81) (x := 6) (lv' := [(1, .int (sJ 7)), (0, .ref (sA Δ 3))]) hG dX6_init_81 0 rfl (by decide) rfl ?_
  refine V.goto (pc := 84) (tgt := 62) hG dX6_init_84 (by decide) ?_
  refine V.iload_n (pc := 62) (x := 7) hG dX6_init_62 rfl 0 rfl ?_
  refine V.bipush (pc := 63) hG dX6_init_63 (by decide) ?_
  refine V.icmp_ge (pc := 65) (tgt := 87) hG (sR_l rfl) (sR_l rfl) dX6_init_65 (by decide) (fun c1 => absurd c1 (by decide)) (fun _ => ?_)
  refine V.aload_n (pc := 68) hG dX6_init_68 rfl 1 rfl ?_
  have f7 := (st_ne (by decide)).trans ((congrFun (fr_X8 37 (by decide)) _).trans (f6))
  refine V.getR (x := 4) (pc := 69) (ci := 8) (k := 0) (M := 9) (T := TX6) (o := 3) (kz := 0) hG (isA.of (by decide +kernel)) (by decide) (by decide) hin_X6 rfl (by decide) (by decide) rfl kw_251 rfl f7 (by decide) dX6_init_69 ?_
  refine V.iload_n (pc := 72) (x := 7) hG dX6_init_72 rfl 0 rfl ?_
  refine V.cnew (pc := 73) (ci := 10) (N := 4) (T := TX8) (ty := tyX8) hG hin_X8 rfl tyX8_ok kw_219 kw_223 kw_161 (by decide +kernel) (by decide) rfl defX8 z34.z ⟨by decide, by decide⟩ dX6_init_73 ?_
  refine V.nn (n2 := 42) rfl ?_
  have z35 := z34.up (m := 42) (by omega)
  refine V.dup (pc := 76) hG dX6_init_76 rfl ?_
  refine V.ccallN (pc := 77) (n2 := 45) hG (ct_X8 l Δ (41) (isA.of (by decide +kernel)) (isA.of (by decide +kernel)) (isA.of (by decide +kernel)) (isA.of (by decide +kernel)) (by decide +kernel) (by decide +kernel) (by decide +kernel) z35) mY_X8_init rfl kw_224 kw_225 ⟨by decide, by decide, by decide, by decide⟩ (by decide) dX6_init_77 ?_
  have z36 := zf_X8 41 z35
  refine V.caast 5 10 (pc := 80) (z := 12) (o := 4) (x := 7) (y := 41) hG (isA.of (by decide +kernel)) (by decide) (by decide) rfl (isA.of (by decide +kernel)) (by decide) (by decide) rfl (sR_l rfl) (by decide) (by decide) dX6_init_80 ?_
  have z37 := z36.sRf (o := 4) (kz := 7) (x := 41) (by decide)
  refine V.iinc (pc := 81) (x := 7) (lv' := [(1, .int (sJ 8)), (0, .ref (sA Δ 3))]) hG dX6_init_81 0 rfl (by decide) rfl ?_
  refine V.goto (pc := 84) (tgt := 62) hG dX6_init_84 (by decide) ?_
  refine V.iload_n (pc := 62) (x := 8) hG dX6_init_62 rfl 0 rfl ?_
  refine V.bipush (pc := 63) hG dX6_init_63 (by decide) ?_
  refine V.icmp_ge (pc := 65) (tgt := 87) hG (sR_l rfl) (sR_l rfl) dX6_init_65 (by decide) (fun c1 => absurd c1 (by decide)) (fun _ => ?_)
  refine V.aload_n (pc := 68) hG dX6_init_68 rfl 1 rfl ?_
  have f8 := (st_ne (by decide)).trans ((congrFun (fr_X8 41 (by decide)) _).trans (f7))
  refine V.getR (x := 4) (pc := 69) (ci := 8) (k := 0) (M := 9) (T := TX6) (o := 3) (kz := 0) hG (isA.of (by decide +kernel)) (by decide) (by decide) hin_X6 rfl (by decide) (by decide) rfl kw_251 rfl f8 (by decide) dX6_init_69 ?_
  refine V.iload_n (pc := 72) (x := 8) hG dX6_init_72 rfl 0 rfl ?_
  refine V.cnew (pc := 73) (ci := 10) (N := 4) (T := TX8) (ty := tyX8) hG hin_X8 rfl tyX8_ok kw_219 kw_223 kw_161 (by decide +kernel) (by decide) rfl defX8 z37.z ⟨by decide, by decide⟩ dX6_init_73 ?_
  refine V.nn (n2 := 46) rfl ?_
  have z38 := z37.up (m := 46) (by omega)
  refine V.dup (pc := 76) hG dX6_init_76 rfl ?_
  refine V.ccallN (pc := 77) (n2 := 49) hG (ct_X8 l Δ (45) (isA.of (by decide +kernel)) (isA.of (by decide +kernel)) (isA.of (by decide +kernel)) (isA.of (by decide +kernel)) (by decide +kernel) (by decide +kernel) (by decide +kernel) z38) mY_X8_init rfl kw_224 kw_225 ⟨by decide, by decide, by decide, by decide⟩ (by decide) dX6_init_77 ?_
  have z39 := zf_X8 45 z38
  refine V.caast 5 10 (pc := 80) (z := 12) (o := 4) (x := 8) (y := 45) hG (isA.of (by decide +kernel)) (by decide) (by decide) rfl (isA.of (by decide +kernel)) (by decide) (by decide) rfl (sR_l rfl) (by decide) (by decide) dX6_init_80 ?_
  have z40 := z39.sRf (o := 4) (kz := 8) (x := 45) (by decide)
  refine V.iinc (pc := 81) (x := 8) (lv' := [(1, .int (sJ 9)), (0, .ref (sA Δ 3))]) hG dX6_init_81 0 rfl (by decide) rfl ?_
  refine V.goto (pc := 84) (tgt := 62) hG dX6_init_84 (by decide) ?_
  refine V.iload_n (pc := 62) (x := 9) hG dX6_init_62 rfl 0 rfl ?_
  refine V.bipush (pc := 63) hG dX6_init_63 (by decide) ?_
  refine V.icmp_ge (pc := 65) (tgt := 87) hG (sR_l rfl) (sR_l rfl) dX6_init_65 (by decide) (fun c1 => absurd c1 (by decide)) (fun _ => ?_)
  refine V.aload_n (pc := 68) hG dX6_init_68 rfl 1 rfl ?_
  have f9 := (st_ne (by decide)).trans ((congrFun (fr_X8 45 (by decide)) _).trans (f8))
  refine V.getR (x := 4) (pc := 69) (ci := 8) (k := 0) (M := 9) (T := TX6) (o := 3) (kz := 0) hG (isA.of (by decide +kernel)) (by decide) (by decide) hin_X6 rfl (by decide) (by decide) rfl kw_251 rfl f9 (by decide) dX6_init_69 ?_
  refine V.iload_n (pc := 72) (x := 9) hG dX6_init_72 rfl 0 rfl ?_
  refine V.cnew (pc := 73) (ci := 10) (N := 4) (T := TX8) (ty := tyX8) hG hin_X8 rfl tyX8_ok kw_219 kw_223 kw_161 (by decide +kernel) (by decide) rfl defX8 z40.z ⟨by decide, by decide⟩ dX6_init_73 ?_
  refine V.nn (n2 := 50) rfl ?_
  have z41 := z40.up (m := 50) (by omega)
  refine V.dup (pc := 76) hG dX6_init_76 rfl ?_
  refine V.ccallN (pc := 77) (n2 := 53) hG (ct_X8 l Δ (49) (isA.of (by decide +kernel)) (isA.of (by decide +kernel)) (isA.of (by decide +kernel)) (isA.of (by decide +kernel)) (by decide +kernel) (by decide +kernel) (by decide +kernel) z41) mY_X8_init rfl kw_224 kw_225 ⟨by decide, by decide, by decide, by decide⟩ (by decide) dX6_init_77 ?_
  have z42 := zf_X8 49 z41
  refine V.caast 5 10 (pc := 80) (z := 12) (o := 4) (x := 9) (y := 49) hG (isA.of (by decide +kernel)) (by decide) (by decide) rfl (isA.of (by decide +kernel)) (by decide) (by decide) rfl (sR_l rfl) (by decide) (by decide) dX6_init_80 ?_
  have z43 := z42.sRf (o := 4) (kz := 9) (x := 49) (by decide)
  refine V.iinc (pc := 81) (x := 9) (lv' := [(1, .int (sJ 10)), (0, .ref (sA Δ 3))]) hG dX6_init_81 0 rfl (by decide) rfl ?_
  refine V.goto (pc := 84) (tgt := 62) hG dX6_init_84 (by decide) ?_
  refine V.iload_n (pc := 62) (x := 10) hG dX6_init_62 rfl 0 rfl ?_
  refine V.bipush (pc := 63) hG dX6_init_63 (by decide) ?_
  refine V.icmp_ge (pc := 65) (tgt := 87) hG (sR_l rfl) (sR_l rfl) dX6_init_65 (by decide) (fun c1 => absurd c1 (by decide)) (fun _ => ?_)
  refine V.aload_n (pc := 68) hG dX6_init_68 rfl 1 rfl ?_
  have f10 := (st_ne (by decide)).trans ((congrFun (fr_X8 49 (by decide)) _).trans (f9))
  refine V.getR (x := 4) (pc := 69) (ci := 8) (k := 0) (M := 9) (T := TX6) (o := 3) (kz := 0) hG (isA.of (by decide +kernel)) (by decide) (by decide) hin_X6 rfl (by decide) (by decide) rfl kw_251 rfl f10 (by decide) dX6_init_69 ?_
  refine V.iload_n (pc := 72) (x := 10) hG dX6_init_72 rfl 0 rfl ?_
  refine V.cnew (pc := 73) (ci := 10) (N := 4) (T := TX8) (ty := tyX8) hG hin_X8 rfl tyX8_ok kw_219 kw_223 kw_161 (by decide +kernel) (by decide) rfl defX8 z43.z ⟨by decide, by decide⟩ dX6_init_73 ?_
  refine V.nn (n2 := 54) rfl ?_
  have z44 := z43.up (m := 54) (by omega)
  refine V.dup (pc := 76) hG dX6_init_76 rfl ?_
  refine V.ccallN (pc := 77) (n2 := 57) hG (ct_X8 l Δ (53) (isA.of (by decide +kernel)) (isA.of (by decide +kernel)) (isA.of (by decide +kernel)) (isA.of (by decide +kernel)) (by decide +kernel) (by decide +kernel) (by decide +kernel) z44) mY_X8_init rfl kw_224 kw_225 ⟨by decide, by decide, by decide, by decide⟩ (by decide) dX6_init_77 ?_
  have z45 := zf_X8 53 z44
  refine V.caast 5 10 (pc := 80) (z := 12) (o := 4) (x := 10) (y := 53) hG (isA.of (by decide +kernel)) (by decide) (by decide) rfl (isA.of (by decide +kernel)) (by decide) (by decide) rfl (sR_l rfl) (by decide) (by decide) dX6_init_80 ?_
  have z46 := z45.sRf (o := 4) (kz := 10) (x := 53) (by decide)
  refine V.iinc (pc := 81) (x := 10) (lv' := [(1, .int (sJ 11)), (0, .ref (sA Δ 3))]) hG dX6_init_81 0 rfl (by decide) rfl ?_
  refine V.goto (pc := 84) (tgt := 62) hG dX6_init_84 (by decide) ?_
  refine V.iload_n (pc := 62) (x := 11) hG dX6_init_62 rfl 0 rfl ?_
  refine V.bipush (pc := 63) hG dX6_init_63 (by decide) ?_
  refine V.icmp_ge (pc := 65) (tgt := 87) hG (sR_l rfl) (sR_l rfl) dX6_init_65 (by decide) (fun c1 => absurd c1 (by decide)) (fun _ => ?_)
  refine V.aload_n (pc := 68) hG dX6_init_68 rfl 1 rfl ?_
  have f11 := (st_ne (by decide)).trans ((congrFun (fr_X8 53 (by decide)) _).trans (f10))
  refine V.getR (x := 4) (pc := 69) (ci := 8) (k := 0) (M := 9) (T := TX6) (o := 3) (kz := 0) hG (isA.of (by decide +kernel)) (by decide) (by decide) hin_X6 rfl (by decide) (by decide) rfl kw_251 rfl f11 (by decide) dX6_init_69 ?_
  refine V.iload_n (pc := 72) (x := 11) hG dX6_init_72 rfl 0 rfl ?_
  refine V.cnew (pc := 73) (ci := 10) (N := 4) (T := TX8) (ty := tyX8) hG hin_X8 rfl tyX8_ok kw_219 kw_223 kw_161 (by decide +kernel) (by decide) rfl defX8 z46.z ⟨by decide, by decide⟩ dX6_init_73 ?_
  refine V.nn (n2 := 58) rfl ?_
  have z47 := z46.up (m := 58) (by omega)
  refine V.dup (pc := 76) hG dX6_init_76 rfl ?_
  refine V.ccallN (pc := 77) (n2 := 61) hG (ct_X8 l Δ (57) (isA.of (by decide +kernel)) (isA.of (by decide +kernel)) (isA.of (by decide +kernel)) (isA.of (by decide +kernel)) (by decide +kernel) (by decide +kernel) (by decide +kernel) z47) mY_X8_init rfl kw_224 kw_225 ⟨by decide, by decide, by decide, by decide⟩ (by decide) dX6_init_77 ?_
  have z48 := zf_X8 57 z47
  refine V.caast 5 10 (pc := 80) (z := 12) (o := 4) (x := 11) (y := 57) hG (isA.of (by decide +kernel)) (by decide) (by decide) rfl (isA.of (by decide +kernel)) (by decide) (by decide) rfl (sR_l rfl) (by decide) (by decide) dX6_init_80 ?_
  have z49 := z48.sRf (o := 4) (kz := 11) (x := 57) (by decide)
  refine V.iinc (pc := 81) (x := 11) (lv' := [(1, .int (sJ 12)), (0, .ref (sA Δ 3))]) hG dX6_init_81 0 rfl (by decide) rfl ?_
  refine V.goto (pc := 84) (tgt := 62) hG dX6_init_84 (by decide) ?_
  refine V.iload_n (pc := 62) (x := 12) hG dX6_init_62 rfl 0 rfl ?_
  refine V.bipush (pc := 63) hG dX6_init_63 (by decide) ?_
  refine V.icmp_ge (pc := 65) (tgt := 87) hG (sR_l rfl) (sR_l rfl) dX6_init_65 (by decide) (fun _ => ?_) (fun c1 => absurd (by decide) c1)
  exact fin dX6_init_87 (by decide) (by decide)
set_option maxRecDepth 100000 in
theorem zf_X6 {i r : MI} (z0 : Zf (4) i r) : Zf (61) (cI_X6 i) (cR_X6 r) := by
  have z1 := z0.up (m := 5) (by omega)
  have z2 := z1.sRf (o := 3) (kz := 0) (x := 4) (by decide)
  have z3 := z2.up (m := 6) (by omega)
  have z4 := z3.sRf (o := 3) (kz := 1) (x := 5) (by decide)
  have z5 := z4.sM (N := 2)
  have z6 := z5.up (m := 9) (by omega)
  have z7 := z6.sRf (o := 3) (kz := 2) (x := 6) (by decide)
  have z8 := z7.up (m := 10) (by omega)
  have z9 := zf_X8 9 z8
  have z10 := z9.sRf (o := 3) (kz := 3) (x := 9) (by decide)
  have z11 := z10.sI (o := 3) (kz := 6) (x := 8) (by decide)
  have z12 := z11.sI (o := 3) (kz := 7) (x := 8) (by decide)
  have z13 := z12.sI (o := 3) (kz := 8) (x := 1) (by decide)
  have z14 := z13.up (m := 14) (by omega)
  have z15 := zf_X8 13 z14
  have z16 := z15.sRf (o := 4) (kz := 0) (x := 13) (by decide)
  have z17 := z16.up (m := 18) (by omega)
  have z18 := zf_X8 17 z17
  have z19 := z18.sRf (o := 4) (kz := 1) (x := 17) (by decide)
  have z20 := z19.up (m := 22) (by omega)
  have z21 := zf_X8 21 z20
  have z22 := z21.sRf (o := 4) (kz := 2) (x := 21) (by decide)
  have z23 := z22.up (m := 26) (by omega)
  have z24 := zf_X8 25 z23
  have z25 := z24.sRf (o := 4) (kz := 3) (x := 25) (by decide)
  have z26 := z25.up (m := 30) (by omega)
  have z27 := zf_X8 29 z26
  have z28 := z27.sRf (o := 4) (kz := 4) (x := 29) (by decide)
  have z29 := z28.up (m := 34) (by omega)
  have z30 := zf_X8 33 z29
  have z31 := z30.sRf (o := 4) (kz := 5) (x := 33) (by decide)
  have z32 := z31.up (m := 38) (by omega)
  have z33 := zf_X8 37 z32
  have z34 := z33.sRf (o := 4) (kz := 6) (x := 37) (by decide)
  have z35 := z34.up (m := 42) (by omega)
  have z36 := zf_X8 41 z35
  have z37 := z36.sRf (o := 4) (kz := 7) (x := 41) (by decide)
  have z38 := z37.up (m := 46) (by omega)
  have z39 := zf_X8 45 z38
  have z40 := z39.sRf (o := 4) (kz := 8) (x := 45) (by decide)
  have z41 := z40.up (m := 50) (by omega)
  have z42 := zf_X8 49 z41
  have z43 := z42.sRf (o := 4) (kz := 9) (x := 49) (by decide)
  have z44 := z43.up (m := 54) (by omega)
  have z45 := zf_X8 53 z44
  have z46 := z45.sRf (o := 4) (kz := 10) (x := 53) (by decide)
  have z47 := z46.up (m := 58) (by omega)
  have z48 := zf_X8 57 z47
  have z49 := z48.sRf (o := 4) (kz := 11) (x := 57) (by decide)
  exact z49
set_option maxRecDepth 100000 in
theorem fr_X6 {r : MI} {a : Int} (ha : a < 3) : cR_X6 r a = r a := by
  unfold cR_X6
  repeat first | rfl | rw [st_row (by omega)] | rw [rowsR_row (by omega)] | rw [fr_X8 _ (by omega)] | rw [fr_X3 _ (by omega)] | rw [fr_X7 _ (by omega)] | rw [fr_X10 (by omega)] | rw [fr_X6 (by omega)] | rw [fr_X0 (by omega)] | rw [fr_X2 (by omega)] | rw [fr_X9 (by omega)] | rw [fr_X4 (by omega)] | rw [fr_X1 (by omega)] | rw [fr_X5 (by omega)]
def cI_X0 (i : MI) : MI := (st (st (st (st (st (st (st (st (st (st (st (st (st (st (cI_X3 167 (cI_X3 166 (cI_X3 165 (cI_X3 164 (cI_X3 163 (cI_X3 162 (cI_X3 161 (cI_X3 160 (cI_X3 159 (cI_X3 158 (cI_X3 157 (cI_X3 156 (cI_X3 155 (cI_X3 154 (cI_X3 153 (cI_X3 152 (cI_X3 151 (cI_X3 150 (cI_X3 149 (cI_X3 148 (cI_X3 147 (cI_X3 146 (cI_X3 145 (cI_X3 144 (cI_X3 143 (cI_X3 142 (cI_X3 141 (cI_X3 140 (cI_X3 139 (cI_X3 138 (cI_X3 137 (cI_X3 136 (cI_X3 135 (cI_X3 134 (cI_X3 133 (cI_X3 132 (cI_X3 131 (cI_X3 130 (cI_X3 129 (cI_X3 128 (cI_X3 127 (cI_X3 126 (cI_X3 125 (cI_X3 124 (cI_X3 123 (cI_X3 122 (cI_X3 121 (cI_X3 120 (cI_X3 119 (cI_X3 118 (cI_X3 117 (cI_X3 116 (cI_X3 115 (cI_X3 114 (cI_X3 113 (cI_X3 112 (cI_X3 111 (cI_X3 110 (cI_X3 109 (cI_X3 108 (cI_X3 107 (cI_X3 106 (cI_X3 105 (cI_X3 104 (cI_X3 103 (cI_X3 102 (cI_X3 101 (cI_X3 100 (cI_X3 99 (cI_X3 98 (cI_X3 97 (cI_X3 96 (cI_X3 95 (cI_X3 94 (cI_X3 93 (cI_X3 92 (cI_X3 91 (cI_X3 90 (cI_X3 89 (cI_X3 88 (cI_X3 87 (cI_X3 86 (cI_X3 85 (cI_X3 84 (cI_X3 83 (cI_X3 82 (cI_X3 81 (cI_X3 80 (cI_X3 79 (cI_X3 78 (cI_X3 77 (cI_X3 76 (cI_X3 75 (cI_X3 74 (cI_X3 73 (cI_X3 72 i)))))))))))))))))))))))))))))))))))))))))))))))))))))))))))))))))))))))))))))))))))))))))))))))) 69 0 1) 70 0 1) 69 1 1) 70 1 1) 69 2 1) 70 2 1) 69 3 1) 70 3 1) 69 4 1) 70 4 1) 69 5 1) 70 5 1) 69 6 1) 70 6 1)
def cR_X0 (r : MI) : MI := (st (cR_X3 167 (st (cR_X3 166 (st (cR_X3 165 (st (cR_X3 164 (st (cR_X3 163 (st (cR_X3 162 (st (cR_X3 161 (st (cR_X3 160 (st (cR_X3 159 (st (cR_X3 158 (st (cR_X3 157 (st (cR_X3 156 (st (cR_X3 155 (st (cR_X3 154 (st (cR_X3 153 (st (cR_X3 152 (st (cR_X3 151 (st (cR_X3 150 (st (cR_X3 149 (st (cR_X3 148 (st (cR_X3 147 (st (cR_X3 146 (st (cR_X3 145 (st (cR_X3 144 (st (cR_X3 143 (st (cR_X3 142 (st (cR_X3 141 (st (cR_X3 140 (st (cR_X3 139 (st (cR_X3 138 (st (cR_X3 137 (st (cR_X3 136 (st (cR_X3 135 (st (cR_X3 134 (st (cR_X3 133 (st (cR_X3 132 (st (cR_X3 131 (st (cR_X3 130 (st (cR_X3 129 (st (cR_X3 128 (st (cR_X3 127 (st (cR_X3 126 (st (cR_X3 125 (st (cR_X3 124 (st (cR_X3 123 (st (cR_X3 122 (st (cR_X3 121 (st (cR_X3 120 (st (cR_X3 119 (st (cR_X3 118 (st (cR_X3 117 (st (cR_X3 116 (st (cR_X3 115 (st (cR_X3 114 (st (cR_X3 113 (st (cR_X3 112 (st (cR_X3 111 (st (cR_X3 110 (st (cR_X3 109 (st (cR_X3 108 (st (cR_X3 107 (st (cR_X3 106 (st (cR_X3 105 (st (cR_X3 104 (st (cR_X3 103 (st (cR_X3 102 (st (cR_X3 101 (st (cR_X3 100 (st (cR_X3 99 (st (cR_X3 98 (st (cR_X3 97 (st (cR_X3 96 (st (cR_X3 95 (st (cR_X3 94 (st (cR_X3 93 (st (cR_X3 92 (st (cR_X3 91 (st (cR_X3 90 (st (cR_X3 89 (st (cR_X3 88 (st (cR_X3 87 (st (cR_X3 86 (st (cR_X3 85 (st (cR_X3 84 (st (cR_X3 83 (st (cR_X3 82 (st (cR_X3 81 (st (cR_X3 80 (st (cR_X3 79 (st (cR_X3 78 (st (cR_X3 77 (st (cR_X3 76 (st (cR_X3 75 (st (cR_X3 74 (st (cR_X3 73 (st (cR_X3 72 (st (st (st (st r 67 0 68) 67 1 69) 67 2 70) 67 3 71)) 68 0 72)) 68 1 73)) 68 2 74)) 68 3 75)) 68 4 76)) 68 5 77)) 68 6 78)) 68 7 79)) 68 8 80)) 68 9 81)) 68 10 82)) 68 11 83)) 68 12 84)) 68 13 85)) 68 14 86)) 68 15 87)) 68 16 88)) 68 17 89)) 68 18 90)) 68 19 91)) 68 20 92)) 68 21 93)) 68 22 94)) 68 23 95)) 68 24 96)) 68 25 97)) 68 26 98)) 68 27 99)) 68 28 100)) 68 29 101)) 68 30 102)) 68 31 103)) 68 32 104)) 68 33 105)) 68 34 106)) 68 35 107)) 68 36 108)) 68 37 109)) 68 38 110)) 68 39 111)) 68 40 112)) 68 41 113)) 68 42 114)) 68 43 115)) 68 44 116)) 68 45 117)) 68 46 118)) 68 47 119)) 68 48 120)) 68 49 121)) 68 50 122)) 68 51 123)) 68 52 124)) 68 53 125)) 68 54 126)) 68 55 127)) 68 56 128)) 68 57 129)) 68 58 130)) 68 59 131)) 68 60 132)) 68 61 133)) 68 62 134)) 68 63 135)) 68 64 136)) 68 65 137)) 68 66 138)) 68 67 139)) 68 68 140)) 68 69 141)) 68 70 142)) 68 71 143)) 68 72 144)) 68 73 145)) 68 74 146)) 68 75 147)) 68 76 148)) 68 77 149)) 68 78 150)) 68 79 151)) 68 80 152)) 68 81 153)) 68 82 154)) 68 83 155)) 68 84 156)) 68 85 157)) 68 86 158)) 68 87 159)) 68 88 160)) 68 89 161)) 68 90 162)) 68 91 163)) 68 92 164)) 68 93 165)) 68 94 166)) 68 95 167)
theorem mY_X0_init : mY yX0_init cX0_init 2 none 0 := ⟨kw_163, kw_325, by decide, by decide, by decide +kernel⟩
set_option maxRecDepth 100000 in
set_option maxHeartbeats 4000000 in
theorem ct_X0 (l : Launch) (Δ : Wd) {i r : MI}  (z0 : Zf (68) i r) : Met l yX0_init (Cond.code yX0_init cX0_init 2 none :: gW) (sRx 2 60 100 1365) (sPn Δ (68) [.ref (sA Δ 67)] i r) (sQn Δ (168) (cI_X0 i) (cR_X0 r)) 100 1365 (sFr Δ) := by
  refine Cc.v (by decide) rfl (Nat.le_of_ble_eq_true rfl) (fun Γ Q0 hG hini fin => ?_)
  have hG : okG Γ Δ l (sRx 2 60 100 1365) cX0_init "Schedulary$Body" 2 := hG
  show V Γ Δ (68) true i r 0 0 Q0 0 [(0, .ref (sA Δ 67))] []
  refine V.aload_n (pc := 0) hG dX0_init_0 rfl 0 rfl ?_
  refine V.objInit (pc := 1) hG kw_326 kw_193 kw_194 (by decide) dX0_init_1 ?_
  refine V.aload_n (pc := 4) hG dX0_init_4 rfl 0 rfl ?_
  refine V.bipush (pc := 5) hG dX0_init_5 (by decide) ?_
  refine V.canew 6 (pc := 7) (x := 96) (z := 96) hG (by decide) kw_327 (by decide +kernel) rfl (by decide) z0.z ⟨by decide, by decide⟩ dX0_init_7 ?_
  refine V.nn (n2 := 69) rfl ?_
  have z1 := z0.up (m := 69) (by omega)
  refine V.cputRF (pc := 10) (ci := 2) (k := 0) (M := 5) (T := TX0) (o := 67) (kz := 0) (x := 68) hG (isA.of (by decide +kernel)) (by decide) (by decide) hin_X0 rfl (by decide) (by decide) rfl kw_402 rfl tyX0 tyX0_ok nmX0 rfl hini rfl (ty := tyX0 0) (tyX0_ok 0 (by decide)) (by decide) (fun _ => rfl) (fun _ => rfl) dX0_init_10 ?_
  have z2 := z1.sRf (o := 67) (kz := 0) (x := 68) (by decide)
  refine V.aload_n (pc := 13) hG dX0_init_13 rfl 0 rfl ?_
  refine V.bipush (pc := 14) hG dX0_init_14 (by decide) ?_
  refine V.cnewaI (pc := 16) (x := 7) (z := 7) hG kw_249 (by decide +kernel) rfl (by decide) (by decide) z2.z ⟨by decide, by decide⟩ dX0_init_16 ?_
  refine V.nn (n2 := 70) rfl ?_
  have z3 := z2.up (m := 70) (by omega)
  refine V.cputRF (pc := 18) (ci := 2) (k := 1) (M := 5) (T := TX0) (o := 67) (kz := 1) (x := 69) hG (isA.of (by decide +kernel)) (by decide) (by decide) hin_X0 rfl (by decide) (by decide) rfl kw_408 rfl tyX0 tyX0_ok nmX0 rfl hini rfl (ty := tyX0 1) (tyX0_ok 1 (by decide)) (by decide) (fun _ => rfl) (fun _ => rfl) dX0_init_18 ?_
  have z4 := z3.sRf (o := 67) (kz := 1) (x := 69) (by decide)
  refine V.aload_n (pc := 21) hG dX0_init_21 rfl 0 rfl ?_
  refine V.bipush (pc := 22) hG dX0_init_22 (by decide) ?_
  refine V.cnewaI (pc := 24) (x := 7) (z := 7) hG kw_249 (by decide +kernel) rfl (by decide) (by decide) z4.z ⟨by decide, by decide⟩ dX0_init_24 ?_
  refine V.nn (n2 := 71) rfl ?_
  have z5 := z4.up (m := 71) (by omega)
  refine V.cputRF (pc := 26) (ci := 2) (k := 2) (M := 5) (T := TX0) (o := 67) (kz := 2) (x := 70) hG (isA.of (by decide +kernel)) (by decide) (by decide) hin_X0 rfl (by decide) (by decide) rfl kw_412 rfl tyX0 tyX0_ok nmX0 rfl hini rfl (ty := tyX0 2) (tyX0_ok 2 (by decide)) (by decide) (fun _ => rfl) (fun _ => rfl) dX0_init_26 ?_
  have z6 := z5.sRf (o := 67) (kz := 2) (x := 70) (by decide)
  refine V.aload_n (pc := 29) hG dX0_init_29 rfl 0 rfl ?_
  refine V.bipush (pc := 30) hG dX0_init_30 (by decide) ?_
  refine V.cnewaI (pc := 32) (x := 7) (z := 7) hG kw_249 (by decide +kernel) rfl (by decide) (by decide) z6.z ⟨by decide, by decide⟩ dX0_init_32 ?_
  refine V.nn (n2 := 72) rfl ?_
  have z7 := z6.up (m := 72) (by omega)
  refine V.cputRF (pc := 34) (ci := 2) (k := 3) (M := 5) (T := TX0) (o := 67) (kz := 3) (x := 71) hG (isA.of (by decide +kernel)) (by decide) (by decide) hin_X0 rfl (by decide) (by decide) rfl kw_414 rfl tyX0 tyX0_ok nmX0 rfl hini rfl (ty := tyX0 3) (tyX0_ok 3 (by decide)) (by decide) (fun _ => rfl) (fun _ => rfl) dX0_init_34 ?_
  have z8 := z7.sRf (o := 67) (kz := 3) (x := 71) (by decide)
  refine V.iconst (pc := 37) hG dX0_init_37 ?_
  refine V.istore_n (pc := 38) (lv' := [(1, .int (sJ 0)), (0, .ref (sA Δ 67))]) hG dX0_init_38 rfl (by decide) rfl ?_
  refine V.iload_n (pc := 39) (x := 0) hG dX0_init_39 rfl 0 rfl ?_
  refine V.bipush (pc := 40) hG dX0_init_40 (by decide) ?_
  refine V.icmp_ge (pc := 42) (tgt := 64) hG (sR_l rfl) (sR_l rfl) dX0_init_42 (by decide) (fun c1 => absurd c1 (by decide)) (fun _ => ?_)
  refine V.aload_n (pc := 45) hG dX0_init_45 rfl 1 rfl ?_
  have f0 := (st_ne (by decide)).trans ((st_ne (by decide)).trans ((st_ne (by decide)).trans (st_eq)))
  refine V.getR (x := 68) (pc := 46) (ci := 2) (k := 0) (M := 5) (T := TX0) (o := 67) (kz := 0) hG (isA.of (by decide +kernel)) (by decide) (by decide) hin_X0 rfl (by decide) (by decide) rfl kw_402 rfl f0 (by decide) dX0_init_46 ?_
  refine V.iload_n (pc := 49) (x := 0) hG dX0_init_49 rfl 0 rfl ?_
  refine V.cnew (pc := 50) (ci := 5) (N := 13) (T := TX3) (ty := tyX3) hG hin_X3 rfl tyX3_ok kw_327 kw_329 kw_164 (by decide +kernel) (by decide) rfl defX3 z8.z ⟨by decide, by decide⟩ dX0_init_50 ?_
  refine V.nn (n2 := 73) rfl ?_
  have z9 := z8.up (m := 73) (by omega)
  refine V.dup (pc := 53) hG dX0_init_53 rfl ?_
  refine V.ccallN (pc := 54) (n2 := 73) hG (ct_X3 l Δ (72) (isA.of (by decide +kernel))  z9) mY_X3_init rfl kw_330 kw_331 ⟨by decide, by decide, by decide, by decide⟩ (by decide) dX0_init_54 ?_
  have z10 := zf_X3 72 z9
  refine V.caast 6 5 (pc := 57) (z := 96) (o := 68) (x := 0) (y := 72) hG (isA.of (by decide +kernel)) (by decide) (by decide) rfl (isA.of (by decide +kernel)) (by decide) (by decide) rfl (sR_l rfl) (by decide) (by decide) dX0_init_57 ?_
  have z11 := z10.sRf (o := 68) (kz := 0) (x := 72) (by decide)
  refine V.iinc (pc := 58) (x := 0) (lv' := [(1, .int (sJ 1)), (0, .ref (sA Δ 67))]) hG dX0_init_58 0 rfl (by decide) rfl ?_
  refine V.goto (pc := 61) (tgt := 39) hG dX0_init_61 (by decide) ?_
  refine V.iload_n (pc := 39) (x := 1) hG dX0_init_39 rfl 0 rfl ?_
  refine V.bipush (pc := 40) hG dX0_init_40 (by decide) ?_
  refine V.icmp_ge (pc := 42) (tgt := 64) hG (sR_l rfl) (sR_l rfl) dX0_init_42 (by decide) (fun c1 => absurd c1 (by decide)) (fun _ => ?_)
  refine V.aload_n (pc := 45) hG dX0_init_45 rfl 1 rfl ?_
  have f1 := (st_ne (by decide)).trans ((congrFun (fr_X3 72 (by decide)) _).trans (f0))
  refine V.getR (x := 68) (pc := 46) (ci := 2) (k := 0) (M := 5) (T := TX0) (o := 67) (kz := 0) hG (isA.of (by decide +kernel)) (by decide) (by decide) hin_X0 rfl (by decide) (by decide) rfl kw_402 rfl f1 (by decide) dX0_init_46 ?_
  refine V.iload_n (pc := 49) (x := 1) hG dX0_init_49 rfl 0 rfl ?_
  refine V.cnew (pc := 50) (ci := 5) (N := 13) (T := TX3) (ty := tyX3) hG hin_X3 rfl tyX3_ok kw_327 kw_329 kw_164 (by decide +kernel) (by decide) rfl defX3 z11.z ⟨by decide, by decide⟩ dX0_init_50 ?_
  refine V.nn (n2 := 74) rfl ?_
  have z12 := z11.up (m := 74) (by omega)
  refine V.dup (pc := 53) hG dX0_init_53 rfl ?_
  refine V.ccallN (pc := 54) (n2 := 74) hG (ct_X3 l Δ (73) (isA.of (by decide +kernel))  z12) mY_X3_init rfl kw_330 kw_331 ⟨by decide, by decide, by decide, by decide⟩ (by decide) dX0_init_54 ?_
  have z13 := zf_X3 73 z12
  refine V.caast 6 5 (pc := 57) (z := 96) (o := 68) (x := 1) (y := 73) hG (isA.of (by decide +kernel)) (by decide) (by decide) rfl (isA.of (by decide +kernel)) (by decide) (by decide) rfl (sR_l rfl) (by decide) (by decide) dX0_init_57 ?_
  have z14 := z13.sRf (o := 68) (kz := 1) (x := 73) (by decide)
  refine V.iinc (pc := 58) (x := 1) (lv' := [(1, .int (sJ 2)), (0, .ref (sA Δ 67))]) hG dX0_init_58 0 rfl (by decide) rfl ?_
  refine V.goto (pc := 61) (tgt := 39) hG dX0_init_61 (by decide) ?_
  refine V.iload_n (pc := 39) (x := 2) hG dX0_init_39 rfl 0 rfl ?_
  refine V.bipush (pc := 40) hG dX0_init_40 (by decide) ?_
  refine V.icmp_ge (pc := 42) (tgt := 64) hG (sR_l rfl) (sR_l rfl) dX0_init_42 (by decide) (fun c1 => absurd c1 (by decide)) (fun _ => ?_)
  refine V.aload_n (pc := 45) hG dX0_init_45 rfl 1 rfl ?_
  have f2 := (st_ne (by decide)).trans ((congrFun (fr_X3 73 (by decide)) _).trans (f1))
  refine V.getR (x := 68) (pc := 46) (ci := 2) (k := 0) (M := 5) (T := TX0) (o := 67) (kz := 0) hG (isA.of (by decide +kernel)) (by decide) (by decide) hin_X0 rfl (by decide) (by decide) rfl kw_402 rfl f2 (by decide) dX0_init_46 ?_
  refine V.iload_n (pc := 49) (x := 2) hG dX0_init_49 rfl 0 rfl ?_
  refine V.cnew (pc := 50) (ci := 5) (N := 13) (T := TX3) (ty := tyX3) hG hin_X3 rfl tyX3_ok kw_327 kw_329 kw_164 (by decide +kernel) (by decide) rfl defX3 z14.z ⟨by decide, by decide⟩ dX0_init_50 ?_
  refine V.nn (n2 := 75) rfl ?_
  have z15 := z14.up (m := 75) (by omega)
  refine V.dup (pc := 53) hG dX0_init_53 rfl ?_
  refine V.ccallN (pc := 54) (n2 := 75) hG (ct_X3 l Δ (74) (isA.of (by decide +kernel))  z15) mY_X3_init rfl kw_330 kw_331 ⟨by decide, by decide, by decide, by decide⟩ (by decide) dX0_init_54 ?_
  have z16 := zf_X3 74 z15
  refine V.caast 6 5 (pc := 57) (z := 96) (o := 68) (x := 2) (y := 74) hG (isA.of (by decide +kernel)) (by decide) (by decide) rfl (isA.of (by decide +kernel)) (by decide) (by decide) rfl (sR_l rfl) (by decide) (by decide) dX0_init_57 ?_
  have z17 := z16.sRf (o := 68) (kz := 2) (x := 74) (by decide)
  refine V.iinc (pc := 58) (x := 2) (lv' := [(1, .int (sJ 3)), (0, .ref (sA Δ 67))]) hG dX0_init_58 0 rfl (by decide) rfl ?_
  refine V.goto (pc := 61) (tgt := 39) hG dX0_init_61 (by decide) ?_
  refine V.iload_n (pc := 39) (x := 3) hG dX0_init_39 rfl 0 rfl ?_
  refine V.bipush (pc := 40) hG dX0_init_40 (by decide) ?_
  refine V.icmp_ge (pc := 42) (tgt := 64) hG (sR_l rfl) (sR_l rfl) dX0_init_42 (by decide) (fun c1 => absurd c1 (by decide)) (fun _ => ?_)
  refine V.aload_n (pc := 45) hG dX0_init_45 rfl 1 rfl ?_
  have f3 := (st_ne (by decide)).trans ((congrFun (fr_X3 74 (by decide)) _).trans (f2))
  refine V.getR (x := 68) (pc := 46) (ci := 2) (k := 0) (M := 5) (T := TX0) (o := 67) (kz := 0) hG (isA.of (by decide +kernel)) (by decide) (by decide) hin_X0 rfl (by decide) (by decide) rfl kw_402 rfl f3 (by decide) dX0_init_46 ?_
  refine V.iload_n (pc := 49) (x := 3) hG dX0_init_49 rfl 0 rfl ?_
  refine V.cnew (pc := 50) (ci := 5) (N := 13) (T := TX3) (ty := tyX3) hG hin_X3 rfl tyX3_ok kw_327 kw_329 kw_164 (by decide +kernel) (by decide) rfl defX3 z17.z ⟨by decide, by decide⟩ dX0_init_50 ?_
  refine V.nn (n2 := 76) rfl ?_
  have z18 := z17.up (m := 76) (by omega)
  refine V.dup (pc := 53) hG dX0_init_53 rfl ?_
  refine V.ccallN (pc := 54) (n2 := 76) hG (ct_X3 l Δ (75) (isA.of (by decide +kernel))  z18) mY_X3_init rfl kw_330 kw_331 ⟨by decide, by decide, by decide, by decide⟩ (by decide) dX0_init_54 ?_
  have z19 := zf_X3 75 z18
  refine V.caast 6 5 (pc := 57) (z := 96) (o := 68) (x := 3) (y := 75) hG (isA.of (by decide +kernel)) (by decide) (by decide) rfl (isA.of (by decide +kernel)) (by decide) (by decide) rfl (sR_l rfl) (by decide) (by decide) dX0_init_57 ?_
  have z20 := z19.sRf (o := 68) (kz := 3) (x := 75) (by decide)
  refine V.iinc (pc := 58) (x := 3) (lv' := [(1, .int (sJ 4)), (0, .ref (sA Δ 67))]) hG dX0_init_58 0 rfl (by decide) rfl ?_
  refine V.goto (pc := 61) (tgt := 39) hG dX0_init_61 (by decide) ?_
  refine V.iload_n (pc := 39) (x := 4) hG dX0_init_39 rfl 0 rfl ?_
  refine V.bipush (pc := 40) hG dX0_init_40 (by decide) ?_
  refine V.icmp_ge (pc := 42) (tgt := 64) hG (sR_l rfl) (sR_l rfl) dX0_init_42 (by decide) (fun c1 => absurd c1 (by decide)) (fun _ => ?_)
  refine V.aload_n (pc := 45) hG dX0_init_45 rfl 1 rfl ?_
  have f4 := (st_ne (by decide)).trans ((congrFun (fr_X3 75 (by decide)) _).trans (f3))
  refine V.getR (x := 68) (pc := 46) (ci := 2) (k := 0) (M := 5) (T := TX0) (o := 67) (kz := 0) hG (isA.of (by decide +kernel)) (by decide) (by decide) hin_X0 rfl (by decide) (by decide) rfl kw_402 rfl f4 (by decide) dX0_init_46 ?_
  refine V.iload_n (pc := 49) (x := 4) hG dX0_init_49 rfl 0 rfl ?_
  refine V.cnew (pc := 50) (ci := 5) (N := 13) (T := TX3) (ty := tyX3) hG hin_X3 rfl tyX3_ok kw_327 kw_329 kw_164 (by decide +kernel) (by decide) rfl defX3 z20.z ⟨by decide, by decide⟩ dX0_init_50 ?_
  refine V.nn (n2 := 77) rfl ?_
  have z21 := z20.up (m := 77) (by omega)
  refine V.dup (pc := 53) hG dX0_init_53 rfl ?_
  refine V.ccallN (pc := 54) (n2 := 77) hG (ct_X3 l Δ (76) (isA.of (by decide +kernel))  z21) mY_X3_init rfl kw_330 kw_331 ⟨by decide, by decide, by decide, by decide⟩ (by decide) dX0_init_54 ?_
  have z22 := zf_X3 76 z21
  refine V.caast 6 5 (pc := 57) (z := 96) (o := 68) (x := 4) (y := 76) hG (isA.of (by decide +kernel)) (by decide) (by decide) rfl (isA.of (by decide +kernel)) (by decide) (by decide) rfl (sR_l rfl) (by decide) (by decide) dX0_init_57 ?_
  have z23 := z22.sRf (o := 68) (kz := 4) (x := 76) (by decide)
  refine V.iinc (pc := 58) (x := 4) (lv' := [(1, .int (sJ 5)), (0, .ref (sA Δ 67))]) hG dX0_init_58 0 rfl (by decide) rfl ?_
  refine V.goto (pc := 61) (tgt := 39) hG dX0_init_61 (by decide) ?_
  refine V.iload_n (pc := 39) (x := 5) hG dX0_init_39 rfl 0 rfl ?_
  refine V.bipush (pc := 40) hG dX0_init_40 (by decide) ?_
  refine V.icmp_ge (pc := 42) (tgt := 64) hG (sR_l rfl) (sR_l rfl) dX0_init_42 (by decide) (fun c1 => absurd c1 (by decide)) (fun _ => ?_)
  refine V.aload_n (pc := 45) hG dX0_init_45 rfl 1 rfl ?_
  have f5 := (st_ne (by decide)).trans ((congrFun (fr_X3 76 (by decide)) _).trans (f4))
  refine V.getR (x := 68) (pc := 46) (ci := 2) (k := 0) (M := 5) (T := TX0) (o := 67) (kz := 0) hG (isA.of (by decide +kernel)) (by decide) (by decide) hin_X0 rfl (by decide) (by decide) rfl kw_402 rfl f5 (by decide) dX0_init_46 ?_
  refine V.iload_n (pc := 49) (x := 5) hG dX0_init_49 rfl 0 rfl ?_
  refine V.cnew (pc := 50) (ci := 5) (N := 13) (T := TX3) (ty := tyX3) hG hin_X3 rfl tyX3_ok kw_327 kw_329 kw_164 (by decide +kernel) (by decide) rfl defX3 z23.z ⟨by decide, by decide⟩ dX0_init_50 ?_
  refine V.nn (n2 := 78) rfl ?_
  have z24 := z23.up (m := 78) (by omega)
  refine V.dup (pc := 53) hG dX0_init_53 rfl ?_
  refine V.ccallN (pc := 54) (n2 := 78) hG (ct_X3 l Δ (77) (isA.of (by decide +kernel))  z24) mY_X3_init rfl kw_330 kw_331 ⟨by decide, by decide, by decide, by decide⟩ (by decide) dX0_init_54 ?_
  have z25 := zf_X3 77 z24
  refine V.caast 6 5 (pc := 57) (z := 96) (o := 68) (x := 5) (y := 77) hG (isA.of (by decide +kernel)) (by decide) (by decide) rfl (isA.of (by decide +kernel)) (by decide) (by decide) rfl (sR_l rfl) (by decide) (by decide) dX0_init_57 ?_
  have z26 := z25.sRf (o := 68) (kz := 5) (x := 77) (by decide)
  refine V.iinc (pc := 58) (x := 5) (lv' := [(1, .int (sJ 6)), (0, .ref (sA Δ 67))]) hG dX0_init_58 0 rfl (by decide) rfl ?_
  refine V.goto (pc := 61) (tgt := 39) hG dX0_init_61 (by decide) ?_
  refine V.iload_n (pc := 39) (x := 6) hG dX0_init_39 rfl 0 rfl ?_
  refine V.bipush (pc := 40) hG dX0_init_40 (by decide) ?_
  refine V.icmp_ge (pc := 42) (tgt := 64) hG (sR_l rfl) (sR_l rfl) dX0_init_42 (by decide) (fun c1 => absurd c1 (by decide)) (fun _ => ?_)
  refine V.aload_n (pc := 45) hG dX0_init_45 rfl 1 rfl ?_
  have f6 := (st_ne (by decide)).trans ((congrFun (fr_X3 77 (by decide)) _).trans (f5))
  refine V.getR (x := 68) (pc := 46) (ci := 2) (k := 0) (M := 5) (T := TX0) (o := 67) (kz := 0) hG (isA.of (by decide +kernel)) (by decide) (by decide) hin_X0 rfl (by decide) (by decide) rfl kw_402 rfl f6 (by decide) dX0_init_46 ?_
  refine V.iload_n (pc := 49) (x := 6) hG dX0_init_49 rfl 0 rfl ?_
  refine V.cnew (pc := 50) (ci := 5) (N := 13) (T := TX3) (ty := tyX3) hG hin_X3 rfl tyX3_ok kw_327 kw_329 kw_164 (by decide +kernel) (by decide) rfl defX3 z26.z ⟨by decide, by decide⟩ dX0_init_50 ?_
  refine V.nn (n2 := 79) rfl ?_
  have z27 := z26.up (m := 79) (by omega)
  refine V.dup (pc := 53) hG dX0_init_53 rfl ?_
  refine V.ccallN (pc := 54) (n2 := 79) hG (ct_X3 l Δ (78) (isA.of (by decide +kernel))  z27) mY_X3_init rfl kw_330 kw_331 ⟨by decide, by decide, by decide, by decide⟩ (by decide) dX0_init_54 ?_
  have z28 := zf_X3 78 z27
  refine V.caast 6 5 (pc := 57) (z := 96) (o := 68) (x := 6) (y := 78) hG (isA.of (by decide +kernel)) (by decide) (by decide) rfl (isA.of (by decide +kernel)) (by decide) (by decide) rfl (sR_l rfl) (by decide) (by decide) dX0_init_57 ?_
  have z29 := z28.sRf (o := 68) (kz := 6) (x := 78) (by decide)
  refine V.iinc (pc := 58) (x := 6) (lv' := [(1, .int (sJ 7)), (0, .ref (sA Δ 67))]) hG dX0_init_58 0 rfl (by decide) rfl ?_
  refine V.goto (pc := 61) (tgt := 39) hG dX0_init_61 (by decide) ?_
  refine V.iload_n (pc := 39) (x := 7) hG dX0_init_39 rfl 0 rfl ?_
  refine V.bipush (pc := 40) hG dX0_init_40 (by decide) ?_
  refine V.icmp_ge (pc := 42) (tgt := 64) hG (sR_l rfl) (sR_l rfl) dX0_init_42 (by decide) (fun c1 => absurd c1 (by decide)) (fun _ => ?_)
  refine V.aload_n (pc := 45) hG dX0_init_45 rfl 1 rfl ?_
  have f7 := (st_ne (by decide)).trans ((congrFun (fr_X3 78 (by decide)) _).trans (f6))
  refine V.getR (x := 68) (pc := 46) (ci := 2) (k := 0) (M := 5) (T := TX0) (o := 67) (kz := 0) hG (isA.of (by decide +kernel)) (by decide) (by decide) hin_X0 rfl (by decide) (by decide) rfl kw_402 rfl f7 (by decide) dX0_init_46 ?_
  refine V.iload_n (pc := 49) (x := 7) hG dX0_init_49 rfl 0 rfl ?_
  refine V.cnew (pc := 50) (ci := 5) (N := 13) (T := TX3) (ty := tyX3) hG hin_X3 rfl tyX3_ok kw_327 kw_329 kw_164 (by decide +kernel) (by decide) rfl defX3 z29.z ⟨by decide, by decide⟩ dX0_init_50 ?_
  refine V.nn (n2 := 80) rfl ?_
  have z30 := z29.up (m := 80) (by omega)
  refine V.dup (pc := 53) hG dX0_init_53 rfl ?_
  refine V.ccallN (pc := 54) (n2 := 80) hG (ct_X3 l Δ (79) (isA.of (by decide +kernel))  z30) mY_X3_init rfl kw_330 kw_331 ⟨by decide, by decide, by decide, by decide⟩ (by decide) dX0_init_54 ?_
  have z31 := zf_X3 79 z30
  refine V.caast 6 5 (pc := 57) (z := 96) (o := 68) (x := 7) (y := 79) hG (isA.of (by decide +kernel)) (by decide) (by decide) rfl (isA.of (by decide +kernel)) (by decide) (by decide) rfl (sR_l rfl) (by decide) (by decide) dX0_init_57 ?_
  have z32 := z31.sRf (o := 68) (kz := 7) (x := 79) (by decide)
  refine V.iinc (pc := 58) (x := 7) (lv' := [(1, .int (sJ 8)), (0, .ref (sA Δ 67))]) hG dX0_init_58 0 rfl (by decide) rfl ?_
  refine V.goto (pc := 61) (tgt := 39) hG dX0_init_61 (by decide) ?_
  refine V.iload_n (pc := 39) (x := 8) hG dX0_init_39 rfl 0 rfl ?_
  refine V.bipush (pc := 40) hG dX0_init_40 (by decide) ?_
  refine V.icmp_ge (pc := 42) (tgt := 64) hG (sR_l rfl) (sR_l rfl) dX0_init_42 (by decide) (fun c1 => absurd c1 (by decide)) (fun _ => ?_)
  refine V.aload_n (pc := 45) hG dX0_init_45 rfl 1 rfl ?_
  have f8 := (st_ne (by decide)).trans ((congrFun (fr_X3 79 (by decide)) _).trans (f7))
  refine V.getR (x := 68) (pc := 46) (ci := 2) (k := 0) (M := 5) (T := TX0) (o := 67) (kz := 0) hG (isA.of (by decide +kernel)) (by decide) (by decide) hin_X0 rfl (by decide) (by decide) rfl kw_402 rfl f8 (by decide) dX0_init_46 ?_
  refine V.iload_n (pc := 49) (x := 8) hG dX0_init_49 rfl 0 rfl ?_
  refine V.cnew (pc := 50) (ci := 5) (N := 13) (T := TX3) (ty := tyX3) hG hin_X3 rfl tyX3_ok kw_327 kw_329 kw_164 (by decide +kernel) (by decide) rfl defX3 z32.z ⟨by decide, by decide⟩ dX0_init_50 ?_
  refine V.nn (n2 := 81) rfl ?_
  have z33 := z32.up (m := 81) (by omega)
  refine V.dup (pc := 53) hG dX0_init_53 rfl ?_
  refine V.ccallN (pc := 54) (n2 := 81) hG (ct_X3 l Δ (80) (isA.of (by decide +kernel))  z33) mY_X3_init rfl kw_330 kw_331 ⟨by decide, by decide, by decide, by decide⟩ (by decide) dX0_init_54 ?_
  have z34 := zf_X3 80 z33
  refine V.caast 6 5 (pc := 57) (z := 96) (o := 68) (x := 8) (y := 80) hG (isA.of (by decide +kernel)) (by decide) (by decide) rfl (isA.of (by decide +kernel)) (by decide) (by decide) rfl (sR_l rfl) (by decide) (by decide) dX0_init_57 ?_
  have z35 := z34.sRf (o := 68) (kz := 8) (x := 80) (by decide)
  refine V.iinc (pc := 58) (x := 8) (lv' := [(1, .int (sJ 9)), (0, .ref (sA Δ 67))]) hG dX0_init_58 0 rfl (by decide) rfl ?_
  refine V.goto (pc := 61) (tgt := 39) hG dX0_init_61 (by decide) ?_
  refine V.iload_n (pc := 39) (x := 9) hG dX0_init_39 rfl 0 rfl ?_
  refine V.bipush (pc := 40) hG dX0_init_40 (by decide) ?_
  refine V.icmp_ge (pc := 42) (tgt := 64) hG (sR_l rfl) (sR_l rfl) dX0_init_42 (by decide) (fun c1 => absurd c1 (by decide)) (fun _ => ?_)
  refine V.aload_n (pc := 45) hG dX0_init_45 rfl 1 rfl ?_
  have f9 := (st_ne (by decide)).trans ((congrFun (fr_X3 80 (by decide)) _).trans (f8))
  refine V.getR (x := 68) (pc := 46) (ci := 2) (k := 0) (M := 5) (T := TX0) (o := 67) (kz := 0) hG (isA.of (by decide +kernel)) (by decide) (by decide) hin_X0 rfl (by decide) (by decide) rfl kw_402 rfl f9 (by decide) dX0_init_46 ?_
  refine V.iload_n (pc := 49) (x := 9) hG dX0_init_49 rfl 0 rfl ?_
  refine V.cnew (pc := 50) (ci := 5) (N := 13) (T := TX3) (ty := tyX3) hG hin_X3 rfl tyX3_ok kw_327 kw_329 kw_164 (by decide +kernel) (by decide) rfl defX3 z35.z ⟨by decide, by decide⟩ dX0_init_50 ?_
  refine V.nn (n2 := 82) rfl ?_
  have z36 := z35.up (m := 82) (by omega)
  refine V.dup (pc := 53) hG dX0_init_53 rfl ?_
  refine V.ccallN (pc := 54) (n2 := 82) hG (ct_X3 l Δ (81) (isA.of (by decide +kernel))  z36) mY_X3_init rfl kw_330 kw_331 ⟨by decide, by decide, by decide, by decide⟩ (by decide) dX0_init_54 ?_
  have z37 := zf_X3 81 z36
  refine V.caast 6 5 (pc := 57) (z := 96) (o := 68) (x := 9) (y := 81) hG (isA.of (by decide +kernel)) (by decide) (by decide) rfl (isA.of (by decide +kernel)) (by decide) (by decide) rfl (sR_l rfl) (by decide) (by decide) dX0_init_57 ?_
  have z38 := z37.sRf (o := 68) (kz := 9) (x := 81) (by decide)
  refine V.iinc (pc := 58) (x := 9) (lv' := [(1, .int (sJ 10)), (0, .ref (sA Δ 67))]) hG dX0_init_58 0 rfl (by decide) rfl ?_
  refine V.goto (pc := 61) (tgt := 39) hG dX0_init_61 (by decide) ?_
  refine V.iload_n (pc := 39) (x := 10) hG dX0_init_39 rfl 0 rfl ?_
  refine V.bipush (pc := 40) hG dX0_init_40 (by decide) ?_
  refine V.icmp_ge (pc := 42) (tgt := 64) hG (sR_l rfl) (sR_l rfl) dX0_init_42 (by decide) (fun c1 => absurd c1 (by decide)) (fun _ => ?_)
  refine V.aload_n (pc := 45) hG dX0_init_45 rfl 1 rfl ?_
  have f10 := (st_ne (by decide)).trans ((congrFun (fr_X3 81 (by decide)) _).trans (f9))
  refine V.getR (x := 68) (pc := 46) (ci := 2) (k := 0) (M := 5) (T := TX0) (o := 67) (kz := 0) hG (isA.of (by decide +kernel)) (by decide) (by decide) hin_X0 rfl (by decide) (by decide) rfl kw_402 rfl f10 (by decide) dX0_init_46 ?_
  refine V.iload_n (pc := 49) (x := 10) hG dX0_init_49 rfl 0 rfl ?_
  refine V.cnew (pc := 50) (ci := 5) (N := 13) (T := TX3) (ty := tyX3) hG hin_X3 rfl tyX3_ok kw_327 kw_329 kw_164 (by decide +kernel) (by decide) rfl defX3 z38.z ⟨by decide, by decide⟩ dX0_init_50 ?_
  refine V.nn (n2 := 83) rfl ?_
  have z39 := z38.up (m := 83) (by omega)
  refine V.dup (pc := 53) hG dX0_init_53 rfl ?_
  refine V.ccallN (pc := 54) (n2 := 83) hG (ct_X3 l Δ (82) (isA.of (by decide +kernel))  z39) mY_X3_init rfl kw_330 kw_331 ⟨by decide, by decide, by decide, by decide⟩ (by decide) dX0_init_54 ?_
  have z40 := zf_X3 82 z39
  refine V.caast 6 5 (pc := 57) (z := 96) (o := 68) (x := 10) (y := 82) hG (isA.of (by decide +kernel)) (by decide) (by decide) rfl (isA.of (by decide +kernel)) (by decide) (by decide) rfl (sR_l rfl) (by decide) (by decide) dX0_init_57 ?_
  have z41 := z40.sRf (o := 68) (kz := 10) (x := 82) (by decide)
  refine V.iinc (pc := 58) (x := 10) (lv' := [(1, .int (sJ 11)), (0, .ref (sA Δ 67))]) hG dX0_init_58 0 rfl (by decide) rfl ?_
  refine V.goto (pc := 61) (tgt := 39) hG dX0_init_61 (by decide) ?_
  refine V.iload_n (pc := 39) (x := 11) hG dX0_init_39 rfl 0 rfl ?_
  refine V.bipush (pc := 40) hG dX0_init_40 (by decide) ?_
  refine V.icmp_ge (pc := 42) (tgt := 64) hG (sR_l rfl) (sR_l rfl) dX0_init_42 (by decide) (fun c1 => absurd c1 (by decide)) (fun _ => ?_)
  refine V.aload_n (pc := 45) hG dX0_init_45 rfl 1 rfl ?_
  have f11 := (st_ne (by decide)).trans ((congrFun (fr_X3 82 (by decide)) _).trans (f10))
  refine V.getR (x := 68) (pc := 46) (ci := 2) (k := 0) (M := 5) (T := TX0) (o := 67) (kz := 0) hG (isA.of (by decide +kernel)) (by decide) (by decide) hin_X0 rfl (by decide) (by decide) rfl kw_402 rfl f11 (by decide) dX0_init_46 ?_
  refine V.iload_n (pc := 49) (x := 11) hG dX0_init_49 rfl 0 rfl ?_
  refine V.cnew (pc := 50) (ci := 5) (N := 13) (T := TX3) (ty := tyX3) hG hin_X3 rfl tyX3_ok kw_327 kw_329 kw_164 (by decide +kernel) (by decide) rfl defX3 z41.z ⟨by decide, by decide⟩ dX0_init_50 ?_
  refine V.nn (n2 := 84) rfl ?_
  have z42 := z41.up (m := 84) (by omega)
  refine V.dup (pc := 53) hG dX0_init_53 rfl ?_
  refine V.ccallN (pc := 54) (n2 := 84) hG (ct_X3 l Δ (83) (isA.of (by decide +kernel))  z42) mY_X3_init rfl kw_330 kw_331 ⟨by decide, by decide, by decide, by decide⟩ (by decide) dX0_init_54 ?_
  have z43 := zf_X3 83 z42
  refine V.caast 6 5 (pc := 57) (z := 96) (o := 68) (x := 11) (y := 83) hG (isA.of (by decide +kernel)) (by decide) (by decide) rfl (isA.of (by decide +kernel)) (by decide) (by decide) rfl (sR_l rfl) (by decide) (by decide) dX0_init_57 ?_
  have z44 := z43.sRf (o := 68) (kz := 11) (x := 83) (by decide)
  refine V.iinc (pc := 58) (x := 11) (lv' := [(1, .int (sJ 12)), (0, .ref (sA Δ 67))]) hG dX0_init_58 0 rfl (by decide) rfl ?_
  refine V.goto (pc := 61) (tgt := 39) hG dX0_init_61 (by decide) ?_
  refine V.iload_n (pc := 39) (x := 12) hG dX0_init_39 rfl 0 rfl ?_
  refine V.bipush (pc := 40) hG dX0_init_40 (by decide) ?_
  refine V.icmp_ge (pc := 42) (tgt := 64) hG (sR_l rfl) (sR_l rfl) dX0_init_42 (by decide) (fun c1 => absurd c1 (by decide)) (fun _ => ?_)
  refine V.aload_n (pc := 45) hG dX0_init_45 rfl 1 rfl ?_
  have f12 := (st_ne (by decide)).trans ((congrFun (fr_X3 83 (by decide)) _).trans (f11))
  refine V.getR (x := 68) (pc := 46) (ci := 2) (k := 0) (M := 5) (T := TX0) (o := 67) (kz := 0) hG (isA.of (by decide +kernel)) (by decide) (by decide) hin_X0 rfl (by decide) (by decide) rfl kw_402 rfl f12 (by decide) dX0_init_46 ?_
  refine V.iload_n (pc := 49) (x := 12) hG dX0_init_49 rfl 0 rfl ?_
  refine V.cnew (pc := 50) (ci := 5) (N := 13) (T := TX3) (ty := tyX3) hG hin_X3 rfl tyX3_ok kw_327 kw_329 kw_164 (by decide +kernel) (by decide) rfl defX3 z44.z ⟨by decide, by decide⟩ dX0_init_50 ?_
  refine V.nn (n2 := 85) rfl ?_
  have z45 := z44.up (m := 85) (by omega)
  refine V.dup (pc := 53) hG dX0_init_53 rfl ?_
  refine V.ccallN (pc := 54) (n2 := 85) hG (ct_X3 l Δ (84) (isA.of (by decide +kernel))  z45) mY_X3_init rfl kw_330 kw_331 ⟨by decide, by decide, by decide, by decide⟩ (by decide) dX0_init_54 ?_
  have z46 := zf_X3 84 z45
  refine V.caast 6 5 (pc := 57) (z := 96) (o := 68) (x := 12) (y := 84) hG (isA.of (by decide +kernel)) (by decide) (by decide) rfl (isA.of (by decide +kernel)) (by decide) (by decide) rfl (sR_l rfl) (by decide) (by decide) dX0_init_57 ?_
  have z47 := z46.sRf (o := 68) (kz := 12) (x := 84) (by decide)
  refine V.iinc (pc := 58) (x := 12) (lv' := [(1, .int (sJ 13)), (0, .ref (sA Δ 67))]) hG dX0_init_58 0 rfl (by decide) rfl ?_
  refine V.goto (pc := 61) (tgt := 39) hG dX0_init_61 (by decide) ?_
  refine V.iload_n (pc := 39) (x := 13) hG dX0_init_39 rfl 0 rfl ?_
  refine V.bipush (pc := 40) hG dX0_init_40 (by decide) ?_
  refine V.icmp_ge (pc := 42) (tgt := 64) hG (sR_l rfl) (sR_l rfl) dX0_init_42 (by decide) (fun c1 => absurd c1 (by decide)) (fun _ => ?_)
  refine V.aload_n (pc := 45) hG dX0_init_45 rfl 1 rfl ?_
  have f13 := (st_ne (by decide)).trans ((congrFun (fr_X3 84 (by decide)) _).trans (f12))
  refine V.getR (x := 68) (pc := 46) (ci := 2) (k := 0) (M := 5) (T := TX0) (o := 67) (kz := 0) hG (isA.of (by decide +kernel)) (by decide) (by decide) hin_X0 rfl (by decide) (by decide) rfl kw_402 rfl f13 (by decide) dX0_init_46 ?_
  refine V.iload_n (pc := 49) (x := 13) hG dX0_init_49 rfl 0 rfl ?_
  refine V.cnew (pc := 50) (ci := 5) (N := 13) (T := TX3) (ty := tyX3) hG hin_X3 rfl tyX3_ok kw_327 kw_329 kw_164 (by decide +kernel) (by decide) rfl defX3 z47.z ⟨by decide, by decide⟩ dX0_init_50 ?_
  refine V.nn (n2 := 86) rfl ?_
  have z48 := z47.up (m := 86) (by omega)
  refine V.dup (pc := 53) hG dX0_init_53 rfl ?_
  refine V.ccallN (pc := 54) (n2 := 86) hG (ct_X3 l Δ (85) (isA.of (by decide +kernel))  z48) mY_X3_init rfl kw_330 kw_331 ⟨by decide, by decide, by decide, by decide⟩ (by decide) dX0_init_54 ?_
  have z49 := zf_X3 85 z48
  refine V.caast 6 5 (pc := 57) (z := 96) (o := 68) (x := 13) (y := 85) hG (isA.of (by decide +kernel)) (by decide) (by decide) rfl (isA.of (by decide +kernel)) (by decide) (by decide) rfl (sR_l rfl) (by decide) (by decide) dX0_init_57 ?_
  have z50 := z49.sRf (o := 68) (kz := 13) (x := 85) (by decide)
  refine V.iinc (pc := 58) (x := 13) (lv' := [(1, .int (sJ 14)), (0, .ref (sA Δ 67))]) hG dX0_init_58 0 rfl (by decide) rfl ?_
  refine V.goto (pc := 61) (tgt := 39) hG dX0_init_61 (by decide) ?_
  refine V.iload_n (pc := 39) (x := 14) hG dX0_init_39 rfl 0 rfl ?_
  refine V.bipush (pc := 40) hG dX0_init_40 (by decide) ?_
  refine V.icmp_ge (pc := 42) (tgt := 64) hG (sR_l rfl) (sR_l rfl) dX0_init_42 (by decide) (fun c1 => absurd c1 (by decide)) (fun _ => ?_)
  refine V.aload_n (pc := 45) hG dX0_init_45 rfl 1 rfl ?_
  have f14 := (st_ne (by decide)).trans ((congrFun (fr_X3 85 (by decide)) _).trans (f13))
  refine V.getR (x := 68) (pc := 46) (ci := 2) (k := 0) (M := 5) (T := TX0) (o := 67) (kz := 0) hG (isA.of (by decide +kernel)) (by decide) (by decide) hin_X0 rfl (by decide) (by decide) rfl kw_402 rfl f14 (by decide) dX0_init_46 ?_
  refine V.iload_n (pc := 49) (x := 14) hG dX0_init_49 rfl 0 rfl ?_
  refine V.cnew (pc := 50) (ci := 5) (N := 13) (T := TX3) (ty := tyX3) hG hin_X3 rfl tyX3_ok kw_327 kw_329 kw_164 (by decide +kernel) (by decide) rfl defX3 z50.z ⟨by decide, by decide⟩ dX0_init_50 ?_
  refine V.nn (n2 := 87) rfl ?_
  have z51 := z50.up (m := 87) (by omega)
  refine V.dup (pc := 53) hG dX0_init_53 rfl ?_
  refine V.ccallN (pc := 54) (n2 := 87) hG (ct_X3 l Δ (86) (isA.of (by decide +kernel))  z51) mY_X3_init rfl kw_330 kw_331 ⟨by decide, by decide, by decide, by decide⟩ (by decide) dX0_init_54 ?_
  have z52 := zf_X3 86 z51
  refine V.caast 6 5 (pc := 57) (z := 96) (o := 68) (x := 14) (y := 86) hG (isA.of (by decide +kernel)) (by decide) (by decide) rfl (isA.of (by decide +kernel)) (by decide) (by decide) rfl (sR_l rfl) (by decide) (by decide) dX0_init_57 ?_
  have z53 := z52.sRf (o := 68) (kz := 14) (x := 86) (by decide)
  refine V.iinc (pc := 58) (x := 14) (lv' := [(1, .int (sJ 15)), (0, .ref (sA Δ 67))]) hG dX0_init_58 0 rfl (by decide) rfl ?_
  refine V.goto (pc := 61) (tgt := 39) hG dX0_init_61 (by decide) ?_
  refine V.iload_n (pc := 39) (x := 15) hG dX0_init_39 rfl 0 rfl ?_
  refine V.bipush (pc := 40) hG dX0_init_40 (by decide) ?_
  refine V.icmp_ge (pc := 42) (tgt := 64) hG (sR_l rfl) (sR_l rfl) dX0_init_42 (by decide) (fun c1 => absurd c1 (by decide)) (fun _ => ?_)
  refine V.aload_n (pc := 45) hG dX0_init_45 rfl 1 rfl ?_
  have f15 := (st_ne (by decide)).trans ((congrFun (fr_X3 86 (by decide)) _).trans (f14))
  refine V.getR (x := 68) (pc := 46) (ci := 2) (k := 0) (M := 5) (T := TX0) (o := 67) (kz := 0) hG (isA.of (by decide +kernel)) (by decide) (by decide) hin_X0 rfl (by decide) (by decide) rfl kw_402 rfl f15 (by decide) dX0_init_46 ?_
  refine V.iload_n (pc := 49) (x := 15) hG dX0_init_49 rfl 0 rfl ?_
  refine V.cnew (pc := 50) (ci := 5) (N := 13) (T := TX3) (ty := tyX3) hG hin_X3 rfl tyX3_ok kw_327 kw_329 kw_164 (by decide +kernel) (by decide) rfl defX3 z53.z ⟨by decide, by decide⟩ dX0_init_50 ?_
  refine V.nn (n2 := 88) rfl ?_
  have z54 := z53.up (m := 88) (by omega)
  refine V.dup (pc := 53) hG dX0_init_53 rfl ?_
  refine V.ccallN (pc := 54) (n2 := 88) hG (ct_X3 l Δ (87) (isA.of (by decide +kernel))  z54) mY_X3_init rfl kw_330 kw_331 ⟨by decide, by decide, by decide, by decide⟩ (by decide) dX0_init_54 ?_
  have z55 := zf_X3 87 z54
  refine V.caast 6 5 (pc := 57) (z := 96) (o := 68) (x := 15) (y := 87) hG (isA.of (by decide +kernel)) (by decide) (by decide) rfl (isA.of (by decide +kernel)) (by decide) (by decide) rfl (sR_l rfl) (by decide) (by decide) dX0_init_57 ?_
  have z56 := z55.sRf (o := 68) (kz := 15) (x := 87) (by decide)
  refine V.iinc (pc := 58) (x := 15) (lv' := [(1, .int (sJ 16)), (0, .ref (sA Δ 67))]) hG dX0_init_58 0 rfl (by decide) rfl ?_
  refine V.goto (pc := 61) (tgt := 39) hG dX0_init_61 (by decide) ?_
  refine V.iload_n (pc := 39) (x := 16) hG dX0_init_39 rfl 0 rfl ?_
  refine V.bipush (pc := 40) hG dX0_init_40 (by decide) ?_
  refine V.icmp_ge (pc := 42) (tgt := 64) hG (sR_l rfl) (sR_l rfl) dX0_init_42 (by decide) (fun c1 => absurd c1 (by decide)) (fun _ => ?_)
  refine V.aload_n (pc := 45) hG dX0_init_45 rfl 1 rfl ?_
  have f16 := (st_ne (by decide)).trans ((congrFun (fr_X3 87 (by decide)) _).trans (f15))
  refine V.getR (x := 68) (pc := 46) (ci := 2) (k := 0) (M := 5) (T := TX0) (o := 67) (kz := 0) hG (isA.of (by decide +kernel)) (by decide) (by decide) hin_X0 rfl (by decide) (by decide) rfl kw_402 rfl f16 (by decide) dX0_init_46 ?_
  refine V.iload_n (pc := 49) (x := 16) hG dX0_init_49 rfl 0 rfl ?_
  refine V.cnew (pc := 50) (ci := 5) (N := 13) (T := TX3) (ty := tyX3) hG hin_X3 rfl tyX3_ok kw_327 kw_329 kw_164 (by decide +kernel) (by decide) rfl defX3 z56.z ⟨by decide, by decide⟩ dX0_init_50 ?_
  refine V.nn (n2 := 89) rfl ?_
  have z57 := z56.up (m := 89) (by omega)
  refine V.dup (pc := 53) hG dX0_init_53 rfl ?_
  refine V.ccallN (pc := 54) (n2 := 89) hG (ct_X3 l Δ (88) (isA.of (by decide +kernel))  z57) mY_X3_init rfl kw_330 kw_331 ⟨by decide, by decide, by decide, by decide⟩ (by decide) dX0_init_54 ?_
  have z58 := zf_X3 88 z57
  refine V.caast 6 5 (pc := 57) (z := 96) (o := 68) (x := 16) (y := 88) hG (isA.of (by decide +kernel)) (by decide) (by decide) rfl (isA.of (by decide +kernel)) (by decide) (by decide) rfl (sR_l rfl) (by decide) (by decide) dX0_init_57 ?_
  have z59 := z58.sRf (o := 68) (kz := 16) (x := 88) (by decide)
  refine V.iinc (pc := 58) (x := 16) (lv' := [(1, .int (sJ 17)), (0, .ref (sA Δ 67))]) hG dX0_init_58 0 rfl (by decide) rfl ?_
  refine V.goto (pc := 61) (tgt := 39) hG dX0_init_61 (by decide) ?_
  refine V.iload_n (pc := 39) (x := 17) hG dX0_init_39 rfl 0 rfl ?_
  refine V.bipush (pc := 40) hG dX0_init_40 (by decide) ?_
  refine V.icmp_ge (pc := 42) (tgt := 64) hG (sR_l rfl) (sR_l rfl) dX0_init_42 (by decide) (fun c1 => absurd c1 (by decide)) (fun _ => ?_)
  refine V.aload_n (pc := 45) hG dX0_init_45 rfl 1 rfl ?_
  have f17 := (st_ne (by decide)).trans ((congrFun (fr_X3 88 (by decide)) _).trans (f16))
  refine V.getR (x := 68) (pc := 46) (ci := 2) (k := 0) (M := 5) (T := TX0) (o := 67) (kz := 0) hG (isA.of (by decide +kernel)) (by decide) (by decide) hin_X0 rfl (by decide) (by decide) rfl kw_402 rfl f17 (by decide) dX0_init_46 ?_
  refine V.iload_n (pc := 49) (x := 17) hG dX0_init_49 rfl 0 rfl ?_
  refine V.cnew (pc := 50) (ci := 5) (N := 13) (T := TX3) (ty := tyX3) hG hin_X3 rfl tyX3_ok kw_327 kw_329 kw_164 (by decide +kernel) (by decide) rfl defX3 z59.z ⟨by decide, by decide⟩ dX0_init_50 ?_
  refine V.nn (n2 := 90) rfl ?_
  have z60 := z59.up (m := 90) (by omega)
  refine V.dup (pc := 53) hG dX0_init_53 rfl ?_
  refine V.ccallN (pc := 54) (n2 := 90) hG (ct_X3 l Δ (89) (isA.of (by decide +kernel))  z60) mY_X3_init rfl kw_330 kw_331 ⟨by decide, by decide, by decide, by decide⟩ (by decide) dX0_init_54 ?_
  have z61 := zf_X3 89 z60
  refine V.caast 6 5 (pc := 57) (z := 96) (o := 68) (x := 17) (y := 89) hG (isA.of (by decide +kernel)) (by decide) (by decide) rfl (isA.of (by decide +kernel)) (by decide) (by decide) rfl (sR_l rfl) (by decide) (by decide) dX0_init_57 ?_
  have z62 := z61.sRf (o := 68) (kz := 17) (x := 89) (by decide)
  refine V.iinc (pc := 58) (x := 17) (lv' := [(1, .int (sJ 18)), (0, .ref (sA Δ 67))]) hG dX0_init_58 0 rfl (by decide) rfl ?_
  refine V.goto (pc := 61) (tgt := 39) hG dX0_init_61 (by decide) ?_
  refine V.iload_n (pc := 39) (x := 18) hG dX0_init_39 rfl 0 rfl ?_
  refine V.bipush (pc := 40) hG dX0_init_40 (by decide) ?_
  refine V.icmp_ge (pc := 42) (tgt := 64) hG (sR_l rfl) (sR_l rfl) dX0_init_42 (by decide) (fun c1 => absurd c1 (by decide)) (fun _ => ?_)
  refine V.aload_n (pc := 45) hG dX0_init_45 rfl 1 rfl ?_
  have f18 := (st_ne (by decide)).trans ((congrFun (fr_X3 89 (by decide)) _).trans (f17))
  refine V.getR (x := 68) (pc := 46) (ci := 2) (k := 0) (M := 5) (T := TX0) (o := 67) (kz := 0) hG (isA.of (by decide +kernel)) (by decide) (by decide) hin_X0 rfl (by decide) (by decide) rfl kw_402 rfl f18 (by decide) dX0_init_46 ?_
  refine V.iload_n (pc := 49) (x := 18) hG dX0_init_49 rfl 0 rfl ?_
  refine V.cnew (pc := 50) (ci := 5) (N := 13) (T := TX3) (ty := tyX3) hG hin_X3 rfl tyX3_ok kw_327 kw_329 kw_164 (by decide +kernel) (by decide) rfl defX3 z62.z ⟨by decide, by decide⟩ dX0_init_50 ?_
  refine V.nn (n2 := 91) rfl ?_
  have z63 := z62.up (m := 91) (by omega)
  refine V.dup (pc := 53) hG dX0_init_53 rfl ?_
  refine V.ccallN (pc := 54) (n2 := 91) hG (ct_X3 l Δ (90) (isA.of (by decide +kernel))  z63) mY_X3_init rfl kw_330 kw_331 ⟨by decide, by decide, by decide, by decide⟩ (by decide) dX0_init_54 ?_
  have z64 := zf_X3 90 z63
  refine V.caast 6 5 (pc := 57) (z := 96) (o := 68) (x := 18) (y := 90) hG (isA.of (by decide +kernel)) (by decide) (by decide) rfl (isA.of (by decide +kernel)) (by decide) (by decide) rfl (sR_l rfl) (by decide) (by decide) dX0_init_57 ?_
  have z65 := z64.sRf (o := 68) (kz := 18) (x := 90) (by decide)
  refine V.iinc (pc := 58) (x := 18) (lv' := [(1, .int (sJ 19)), (0, .ref (sA Δ 67))]) hG dX0_init_58 0 rfl (by decide) rfl ?_
  refine V.goto (pc := 61) (tgt := 39) hG dX0_init_61 (by decide) ?_
  refine V.iload_n (pc := 39) (x := 19) hG dX0_init_39 rfl 0 rfl ?_
  refine V.bipush (pc := 40) hG dX0_init_40 (by decide) ?_
  refine V.icmp_ge (pc := 42) (tgt := 64) hG (sR_l rfl) (sR_l rfl) dX0_init_42 (by decide) (fun c1 => absurd c1 (by decide)) (fun _ => ?_)
  refine V.aload_n (pc := 45) hG dX0_init_45 rfl 1 rfl ?_
  have f19 := (st_ne (by decide)).trans ((congrFun (fr_X3 90 (by decide)) _).trans (f18))
  refine V.getR (x := 68) (pc := 46) (ci := 2) (k := 0) (M := 5) (T := TX0) (o := 67) (kz := 0) hG (isA.of (by decide +kernel)) (by decide) (by decide) hin_X0 rfl (by decide) (by decide) rfl kw_402 rfl f19 (by decide) dX0_init_46 ?_
  refine V.iload_n (pc := 49) (x := 19) hG dX0_init_49 rfl 0 rfl ?_
  refine V.cnew (pc := 50) (ci := 5) (N := 13) (T := TX3) (ty := tyX3) hG hin_X3 rfl tyX3_ok kw_327 kw_329 kw_164 (by decide +kernel) (by decide) rfl defX3 z65.z ⟨by decide, by decide⟩ dX0_init_50 ?_
  refine V.nn (n2 := 92) rfl ?_
  have z66 := z65.up (m := 92) (by omega)
  refine V.dup (pc := 53) hG dX0_init_53 rfl ?_
  refine V.ccallN (pc := 54) (n2 := 92) hG (ct_X3 l Δ (91) (isA.of (by decide +kernel))  z66) mY_X3_init rfl kw_330 kw_331 ⟨by decide, by decide, by decide, by decide⟩ (by decide) dX0_init_54 ?_
  have z67 := zf_X3 91 z66
  refine V.caast 6 5 (pc := 57) (z := 96) (o := 68) (x := 19) (y := 91) hG (isA.of (by decide +kernel)) (by decide) (by decide) rfl (isA.of (by decide +kernel)) (by decide) (by decide) rfl (sR_l rfl) (by decide) (by decide) dX0_init_57 ?_
  have z68 := z67.sRf (o := 68) (kz := 19) (x := 91) (by decide)
  refine V.iinc (pc := 58) (x := 19) (lv' := [(1, .int (sJ 20)), (0, .ref (sA Δ 67))]) hG dX0_init_58 0 rfl (by decide) rfl ?_
  refine V.goto (pc := 61) (tgt := 39) hG dX0_init_61 (by decide) ?_
  refine V.iload_n (pc := 39) (x := 20) hG dX0_init_39 rfl 0 rfl ?_
  refine V.bipush (pc := 40) hG dX0_init_40 (by decide) ?_
  refine V.icmp_ge (pc := 42) (tgt := 64) hG (sR_l rfl) (sR_l rfl) dX0_init_42 (by decide) (fun c1 => absurd c1 (by decide)) (fun _ => ?_)
  refine V.aload_n (pc := 45) hG dX0_init_45 rfl 1 rfl ?_
  have f20 := (st_ne (by decide)).trans ((congrFun (fr_X3 91 (by decide)) _).trans (f19))
  refine V.getR (x := 68) (pc := 46) (ci := 2) (k := 0) (M := 5) (T := TX0) (o := 67) (kz := 0) hG (isA.of (by decide +kernel)) (by decide) (by decide) hin_X0 rfl (by decide) (by decide) rfl kw_402 rfl f20 (by decide) dX0_init_46 ?_
  refine V.iload_n (pc := 49) (x := 20) hG dX0_init_49 rfl 0 rfl ?_
  refine V.cnew (pc := 50) (ci := 5) (N := 13) (T := TX3) (ty := tyX3) hG hin_X3 rfl tyX3_ok kw_327 kw_329 kw_164 (by decide +kernel) (by decide) rfl defX3 z68.z ⟨by decide, by decide⟩ dX0_init_50 ?_
  refine V.nn (n2 := 93) rfl ?_
  have z69 := z68.up (m := 93) (by omega)
  refine V.dup (pc := 53) hG dX0_init_53 rfl ?_
  refine V.ccallN (pc := 54) (n2 := 93) hG (ct_X3 l Δ (92) (isA.of (by decide +kernel))  z69) mY_X3_init rfl kw_330 kw_331 ⟨by decide, by decide, by decide, by decide⟩ (by decide) dX0_init_54 ?_
  have z70 := zf_X3 92 z69
  refine V.caast 6 5 (pc := 57) (z := 96) (o := 68) (x := 20) (y := 92) hG (isA.of (by decide +kernel)) (by decide) (by decide) rfl (isA.of (by decide +kernel)) (by decide) (by decide) rfl (sR_l rfl) (by decide) (by decide) dX0_init_57 ?_
  have z71 := z70.sRf (o := 68) (kz := 20) (x := 92) (by decide)
  refine V.iinc (pc := 58) (x := 20) (lv' := [(1, .int (sJ 21)), (0, .ref (sA Δ 67))]) hG dX0_init_58 0 rfl (by decide) rfl ?_
  refine V.goto (pc := 61) (tgt := 39) hG dX0_init_61 (by decide) ?_
  refine V.iload_n (pc := 39) (x := 21) hG dX0_init_39 rfl 0 rfl ?_
  refine V.bipush (pc := 40) hG dX0_init_40 (by decide) ?_
  refine V.icmp_ge (pc := 42) (tgt := 64) hG (sR_l rfl) (sR_l rfl) dX0_init_42 (by decide) (fun c1 => absurd c1 (by decide)) (fun _ => ?_)
  refine V.aload_n (pc := 45) hG dX0_init_45 rfl 1 rfl ?_
  have f21 := (st_ne (by decide)).trans ((congrFun (fr_X3 92 (by decide)) _).trans (f20))
  refine V.getR (x := 68) (pc := 46) (ci := 2) (k := 0) (M := 5) (T := TX0) (o := 67) (kz := 0) hG (isA.of (by decide +kernel)) (by decide) (by decide) hin_X0 rfl (by decide) (by decide) rfl kw_402 rfl f21 (by decide) dX0_init_46 ?_
  refine V.iload_n (pc := 49) (x := 21) hG dX0_init_49 rfl 0 rfl ?_
  refine V.cnew (pc := 50) (ci := 5) (N := 13) (T := TX3) (ty := tyX3) hG hin_X3 rfl tyX3_ok kw_327 kw_329 kw_164 (by decide +kernel) (by decide) rfl defX3 z71.z ⟨by decide, by decide⟩ dX0_init_50 ?_
  refine V.nn (n2 := 94) rfl ?_
  have z72 := z71.up (m := 94) (by omega)
  refine V.dup (pc := 53) hG dX0_init_53 rfl ?_
  refine V.ccallN (pc := 54) (n2 := 94) hG (ct_X3 l Δ (93) (isA.of (by decide +kernel))  z72) mY_X3_init rfl kw_330 kw_331 ⟨by decide, by decide, by decide, by decide⟩ (by decide) dX0_init_54 ?_
  have z73 := zf_X3 93 z72
  refine V.caast 6 5 (pc := 57) (z := 96) (o := 68) (x := 21) (y := 93) hG (isA.of (by decide +kernel)) (by decide) (by decide) rfl (isA.of (by decide +kernel)) (by decide) (by decide) rfl (sR_l rfl) (by decide) (by decide) dX0_init_57 ?_
  have z74 := z73.sRf (o := 68) (kz := 21) (x := 93) (by decide)
  refine V.iinc (pc := 58) (x := 21) (lv' := [(1, .int (sJ 22)), (0, .ref (sA Δ 67))]) hG dX0_init_58 0 rfl (by decide) rfl ?_
  refine V.goto (pc := 61) (tgt := 39) hG dX0_init_61 (by decide) ?_
  refine V.iload_n (pc := 39) (x := 22) hG dX0_init_39 rfl 0 rfl ?_
  refine V.bipush (pc := 40) hG dX0_init_40 (by decide) ?_
  refine V.icmp_ge (pc := 42) (tgt := 64) hG (sR_l rfl) (sR_l rfl) dX0_init_42 (by decide) (fun c1 => absurd c1 (by decide)) (fun _ => ?_)
  refine V.aload_n (pc := 45) hG dX0_init_45 rfl 1 rfl ?_
  have f22 := (st_ne (by decide)).trans ((congrFun (fr_X3 93 (by decide)) _).trans (f21))
  refine V.getR (x := 68) (pc := 46) (ci := 2) (k := 0) (M := 5) (T := TX0) (o := 67) (kz := 0) hG (isA.of (by decide +kernel)) (by decide) (by decide) hin_X0 rfl (by decide) (by decide) rfl kw_402 rfl f22 (by decide) dX0_init_46 ?_
  refine V.iload_n (pc := 49) (x := 22) hG dX0_init_49 rfl 0 rfl ?_
  refine V.cnew (pc := 50) (ci := 5) (N := 13) (T := TX3) (ty := tyX3) hG hin_X3 rfl tyX3_ok kw_327 kw_329 kw_164 (by decide +kernel) (by decide) rfl defX3 z74.z ⟨by decide, by decide⟩ dX0_init_50 ?_
  refine V.nn (n2 := 95) rfl ?_
  have z75 := z74.up (m := 95) (by omega)
  refine V.dup (pc := 53) hG dX0_init_53 rfl ?_
  refine V.ccallN (pc := 54) (n2 := 95) hG (ct_X3 l Δ (94) (isA.of (by decide +kernel))  z75) mY_X3_init rfl kw_330 kw_331 ⟨by decide, by decide, by decide, by decide⟩ (by decide) dX0_init_54 ?_
  have z76 := zf_X3 94 z75
  refine V.caast 6 5 (pc := 57) (z := 96) (o := 68) (x := 22) (y := 94) hG (isA.of (by decide +kernel)) (by decide) (by decide) rfl (isA.of (by decide +kernel)) (by decide) (by decide) rfl (sR_l rfl) (by decide) (by decide) dX0_init_57 ?_
  have z77 := z76.sRf (o := 68) (kz := 22) (x := 94) (by decide)
  refine V.iinc (pc := 58) (x := 22) (lv' := [(1, .int (sJ 23)), (0, .ref (sA Δ 67))]) hG dX0_init_58 0 rfl (by decide) rfl ?_
  refine V.goto (pc := 61) (tgt := 39) hG dX0_init_61 (by decide) ?_
  refine V.iload_n (pc := 39) (x := 23) hG dX0_init_39 rfl 0 rfl ?_
  refine V.bipush (pc := 40) hG dX0_init_40 (by decide) ?_
  refine V.icmp_ge (pc := 42) (tgt := 64) hG (sR_l rfl) (sR_l rfl) dX0_init_42 (by decide) (fun c1 => absurd c1 (by decide)) (fun _ => ?_)
  refine V.aload_n (pc := 45) hG dX0_init_45 rfl 1 rfl ?_
  have f23 := (st_ne (by decide)).trans ((congrFun (fr_X3 94 (by decide)) _).trans (f22))
  refine V.getR (x := 68) (pc := 46) (ci := 2) (k := 0) (M := 5) (T := TX0) (o := 67) (kz := 0) hG (isA.of (by decide +kernel)) (by decide) (by decide) hin_X0 rfl (by decide) (by decide) rfl kw_402 rfl f23 (by decide) dX0_init_46 ?_
  refine V.iload_n (pc := 49) (x := 23) hG dX0_init_49 rfl 0 rfl ?_
  refine V.cnew (pc := 50) (ci := 5) (N := 13) (T := TX3) (ty := tyX3) hG hin_X3 rfl tyX3_ok kw_327 kw_329 kw_164 (by decide +kernel) (by decide) rfl defX3 z77.z ⟨by decide, by decide⟩ dX0_init_50 ?_
  refine V.nn (n2 := 96) rfl ?_
  have z78 := z77.up (m := 96) (by omega)
  refine V.dup (pc := 53) hG dX0_init_53 rfl ?_
  refine V.ccallN (pc := 54) (n2 := 96) hG (ct_X3 l Δ (95) (isA.of (by decide +kernel))  z78) mY_X3_init rfl kw_330 kw_331 ⟨by decide, by decide, by decide, by decide⟩ (by decide) dX0_init_54 ?_
  have z79 := zf_X3 95 z78
  refine V.caast 6 5 (pc := 57) (z := 96) (o := 68) (x := 23) (y := 95) hG (isA.of (by decide +kernel)) (by decide) (by decide) rfl (isA.of (by decide +kernel)) (by decide) (by decide) rfl (sR_l rfl) (by decide) (by decide) dX0_init_57 ?_
  have z80 := z79.sRf (o := 68) (kz := 23) (x := 95) (by decide)
  refine V.iinc (pc := 58) (x := 23) (lv' := [(1, .int (sJ 24)), (0, .ref (sA Δ 67))]) hG dX0_init_58 0 rfl (by decide) rfl ?_
  refine V.goto (pc := 61) (tgt := 39) hG dX0_init_61 (by decide) ?_
  refine V.iload_n (pc := 39) (x := 24) hG dX0_init_39 rfl 0 rfl ?_
  refine V.bipush (pc := 40) hG dX0_init_40 (by decide) ?_
  refine V.icmp_ge (pc := 42) (tgt := 64) hG (sR_l rfl) (sR_l rfl) dX0_init_42 (by decide) (fun c1 => absurd c1 (by decide)) (fun _ => ?_)
  refine V.aload_n (pc := 45) hG dX0_init_45 rfl 1 rfl ?_
  have f24 := (st_ne (by decide)).trans ((congrFun (fr_X3 95 (by decide)) _).trans (f23))
  refine V.getR (x := 68) (pc := 46) (ci := 2) (k := 0) (M := 5) (T := TX0) (o := 67) (kz := 0) hG (isA.of (by decide +kernel)) (by decide) (by decide) hin_X0 rfl (by decide) (by decide) rfl kw_402 rfl f24 (by decide) dX0_init_46 ?_
  refine V.iload_n (pc := 49) (x := 24) hG dX0_init_49 rfl 0 rfl ?_
  refine V.cnew (pc := 50) (ci := 5) (N := 13) (T := TX3) (ty := tyX3) hG hin_X3 rfl tyX3_ok kw_327 kw_329 kw_164 (by decide +kernel) (by decide) rfl defX3 z80.z ⟨by decide, by decide⟩ dX0_init_50 ?_
  refine V.nn (n2 := 97) rfl ?_
  have z81 := z80.up (m := 97) (by omega)
  refine V.dup (pc := 53) hG dX0_init_53 rfl ?_
  refine V.ccallN (pc := 54) (n2 := 97) hG (ct_X3 l Δ (96) (isA.of (by decide +kernel))  z81) mY_X3_init rfl kw_330 kw_331 ⟨by decide, by decide, by decide, by decide⟩ (by decide) dX0_init_54 ?_
  have z82 := zf_X3 96 z81
  refine V.caast 6 5 (pc := 57) (z := 96) (o := 68) (x := 24) (y := 96) hG (isA.of (by decide +kernel)) (by decide) (by decide) rfl (isA.of (by decide +kernel)) (by decide) (by decide) rfl (sR_l rfl) (by decide) (by decide) dX0_init_57 ?_
  have z83 := z82.sRf (o := 68) (kz := 24) (x := 96) (by decide)
  refine V.iinc (pc := 58) (x := 24) (lv' := [(1, .int (sJ 25)), (0, .ref (sA Δ 67))]) hG dX0_init_58 0 rfl (by decide) rfl ?_
  refine V.goto (pc := 61) (tgt := 39) hG dX0_init_61 (by decide) ?_
  refine V.iload_n (pc := 39) (x := 25) hG dX0_init_39 rfl 0 rfl ?_
  refine V.bipush (pc := 40) hG dX0_init_40 (by decide) ?_
  refine V.icmp_ge (pc := 42) (tgt := 64) hG (sR_l rfl) (sR_l rfl) dX0_init_42 (by decide) (fun c1 => absurd c1 (by decide)) (fun _ => ?_)
  refine V.aload_n (pc := 45) hG dX0_init_45 rfl 1 rfl ?_
  have f25 := (st_ne (by decide)).trans ((congrFun (fr_X3 96 (by decide)) _).trans (f24))
  refine V.getR (x := 68) (pc := 46) (ci := 2) (k := 0) (M := 5) (T := TX0) (o := 67) (kz := 0) hG (isA.of (by decide +kernel)) (by decide) (by decide) hin_X0 rfl (by decide) (by decide) rfl kw_402 rfl f25 (by decide) dX0_init_46 ?_
  refine V.iload_n (pc := 49) (x := 25) hG dX0_init_49 rfl 0 rfl ?_
  refine V.cnew (pc := 50) (ci := 5) (N := 13) (T := TX3) (ty := tyX3) hG hin_X3 rfl tyX3_ok kw_327 kw_329 kw_164 (by decide +kernel) (by decide) rfl defX3 z83.z ⟨by decide, by decide⟩ dX0_init_50 ?_
  refine V.nn (n2 := 98) rfl ?_
  have z84 := z83.up (m := 98) (by omega)
  refine V.dup (pc := 53) hG dX0_init_53 rfl ?_
  refine V.ccallN (pc := 54) (n2 := 98) hG (ct_X3 l Δ (97) (isA.of (by decide +kernel))  z84) mY_X3_init rfl kw_330 kw_331 ⟨by decide, by decide, by decide, by decide⟩ (by decide) dX0_init_54 ?_
  have z85 := zf_X3 97 z84
  refine V.caast 6 5 (pc := 57) (z := 96) (o := 68) (x := 25) (y := 97) hG (isA.of (by decide +kernel)) (by decide) (by decide) rfl (isA.of (by decide +kernel)) (by decide) (by decide) rfl (sR_l rfl) (by decide) (by decide) dX0_init_57 ?_
  have z86 := z85.sRf (o := 68) (kz := 25) (x := 97) (by decide)
  refine V.iinc (pc := 58) (x := 25) (lv' := [(1, .int (sJ 26)), (0, .ref (sA Δ 67))]) hG dX0_init_58 0 rfl (by decide) rfl ?_
  refine V.goto (pc := 61) (tgt := 39) hG dX0_init_61 (by decide) ?_
  refine V.iload_n (pc := 39) (x := 26) hG dX0_init_39 rfl 0 rfl ?_
  refine V.bipush (pc := 40) hG dX0_init_40 (by decide) ?_
  refine V.icmp_ge (pc := 42) (tgt := 64) hG (sR_l rfl) (sR_l rfl) dX0_init_42 (by decide) (fun c1 => absurd c1 (by decide)) (fun _ => ?_)
  refine V.aload_n (pc := 45) hG dX0_init_45 rfl 1 rfl ?_
  have f26 := (st_ne (by decide)).trans ((congrFun (fr_X3 97 (by decide)) _).trans (f25))
  refine V.getR (x := 68) (pc := 46) (ci := 2) (k := 0) (M := 5) (T := TX0) (o := 67) (kz := 0) hG (isA.of (by decide +kernel)) (by decide) (by decide) hin_X0 rfl (by decide) (by decide) rfl kw_402 rfl f26 (by decide) dX0_init_46 ?_
  refine V.iload_n (pc := 49) (x := 26) hG dX0_init_49 rfl 0 rfl ?_
  refine V.cnew (pc := 50) (ci := 5) (N := 13) (T := TX3) (ty := tyX3) hG hin_X3 rfl tyX3_ok kw_327 kw_329 kw_164 (by decide +kernel) (by decide) rfl defX3 z86.z ⟨by decide, by decide⟩ dX0_init_50 ?_
  refine V.nn (n2 := 99) rfl ?_
  have z87 := z86.up (m := 99) (by omega)
  refine V.dup (pc := 53) hG dX0_init_53 rfl ?_
  refine V.ccallN (pc := 54) (n2 := 99) hG (ct_X3 l Δ (98) (isA.of (by decide +kernel))  z87) mY_X3_init rfl kw_330 kw_331 ⟨by decide, by decide, by decide, by decide⟩ (by decide) dX0_init_54 ?_
  have z88 := zf_X3 98 z87
  refine V.caast 6 5 (pc := 57) (z := 96) (o := 68) (x := 26) (y := 98) hG (isA.of (by decide +kernel)) (by decide) (by decide) rfl (isA.of (by decide +kernel)) (by decide) (by decide) rfl (sR_l rfl) (by decide) (by decide) dX0_init_57 ?_
  have z89 := z88.sRf (o := 68) (kz := 26) (x := 98) (by decide)
  refine V.iinc (pc := 58) (x := 26) (lv' := [(1, .int (sJ 27)), (0, .ref (sA Δ 67))]) hG dX0_init_58 0 rfl (by decide) rfl ?_
  refine V.goto (pc := 61) (tgt := 39) hG dX0_init_61 (by decide) ?_
  refine V.iload_n (pc := 39) (x := 27) hG dX0_init_39 rfl 0 rfl ?_
  refine V.bipush (pc := 40) hG dX0_init_40 (by decide) ?_
  refine V.icmp_ge (pc := 42) (tgt := 64) hG (sR_l rfl) (sR_l rfl) dX0_init_42 (by decide) (fun c1 => absurd c1 (by decide)) (fun _ => ?_)
  refine V.aload_n (pc := 45) hG dX0_init_45 rfl 1 rfl ?_
  have f27 := (st_ne (by decide)).trans ((congrFun (fr_X3 98 (by decide)) _).trans (f26))
  refine V.getR (x := 68) (pc := 46) (ci := 2) (k := 0) (M := 5) (T := TX0) (o := 67) (kz := 0) hG (isA.of (by decide +kernel)) (by decide) (by decide) hin_X0 rfl (by decide) (by decide) rfl kw_402 rfl f27 (by decide) dX0_init_46 ?_
  refine V.iload_n (pc := 49) (x := 27) hG dX0_init_49 rfl 0 rfl ?_
  refine V.cnew (pc := 50) (ci := 5) (N := 13) (T := TX3) (ty := tyX3) hG hin_X3 rfl tyX3_ok kw_327 kw_329 kw_164 (by decide +kernel) (by decide) rfl defX3 z89.z ⟨by decide, by decide⟩ dX0_init_50 ?_
  refine V.nn (n2 := 100) rfl ?_
  have z90 := z89.up (m := 100) (by omega)
  refine V.dup (pc := 53) hG dX0_init_53 rfl ?_
  refine V.ccallN (pc := 54) (n2 := 100) hG (ct_X3 l Δ (99) (isA.of (by decide +kernel))  z90) mY_X3_init rfl kw_330 kw_331 ⟨by decide, by decide, by decide, by decide⟩ (by decide) dX0_init_54 ?_
  have z91 := zf_X3 99 z90
  refine V.caast 6 5 (pc := 57) (z := 96) (o := 68) (x := 27) (y := 99) hG (isA.of (by decide +kernel)) (by decide) (by decide) rfl (isA.of (by decide +kernel)) (by decide) (by decide) rfl (sR_l rfl) (by decide) (by decide) dX0_init_57 ?_
  have z92 := z91.sRf (o := 68) (kz := 27) (x := 99) (by decide)
  refine V.iinc (pc := 58) (x := 27) (lv' := [(1, .int (sJ 28)), (0, .ref (sA Δ 67))]) hG dX0_init_58 0 rfl (by decide) rfl ?_
  refine V.goto (pc := 61) (tgt := 39) hG dX0_init_61 (by decide) ?_
  refine V.iload_n (pc := 39) (x := 28) hG dX0_init_39 rfl 0 rfl ?_
  refine V.bipush (pc := 40) hG dX0_init_40 (by decide) ?_
  refine V.icmp_ge (pc := 42) (tgt := 64) hG (sR_l rfl) (sR_l rfl) dX0_init_42 (by decide) (fun c1 => absurd c1 (by decide)) (fun _ => ?_)
  refine V.aload_n (pc := 45) hG dX0_init_45 rfl 1 rfl ?_
  have f28 := (st_ne (by decide)).trans ((congrFun (fr_X3 99 (by decide)) _).trans (f27))
  refine V.getR (x := 68) (pc := 46) (ci := 2) (k := 0) (M := 5) (T := TX0) (o := 67) (kz := 0) hG (isA.of (by decide +kernel)) (by decide) (by decide) hin_X0 rfl (by decide) (by decide) rfl kw_402 rfl f28 (by decide) dX0_init_46 ?_
  refine V.iload_n (pc := 49) (x := 28) hG dX0_init_49 rfl 0 rfl ?_
  refine V.cnew (pc := 50) (ci := 5) (N := 13) (T := TX3) (ty := tyX3) hG hin_X3 rfl tyX3_ok kw_327 kw_329 kw_164 (by decide +kernel) (by decide) rfl defX3 z92.z ⟨by decide, by decide⟩ dX0_init_50 ?_
  refine V.nn (n2 := 101) rfl ?_
  have z93 := z92.up (m := 101) (by omega)
  refine V.dup (pc := 53) hG dX0_init_53 rfl ?_
  refine V.ccallN (pc := 54) (n2 := 101) hG (ct_X3 l Δ (100) (isA.of (by decide +kernel))  z93) mY_X3_init rfl kw_330 kw_331 ⟨by decide, by decide, by decide, by decide⟩ (by decide) dX0_init_54 ?_
  have z94 := zf_X3 100 z93
  refine V.caast 6 5 (pc := 57) (z := 96) (o := 68) (x := 28) (y := 100) hG (isA.of (by decide +kernel)) (by decide) (by decide) rfl (isA.of (by decide +kernel)) (by decide) (by decide) rfl (sR_l rfl) (by decide) (by decide) dX0_init_57 ?_
  have z95 := z94.sRf (o := 68) (kz := 28) (x := 100) (by decide)
  refine V.iinc (pc := 58) (x := 28) (lv' := [(1, .int (sJ 29)), (0, .ref (sA Δ 67))]) hG dX0_init_58 0 rfl (by decide) rfl ?_
  refine V.goto (pc := 61) (tgt := 39) hG dX0_init_61 (by decide) ?_
  refine V.iload_n (pc := 39) (x := 29) hG dX0_init_39 rfl 0 rfl ?_
  refine V.bipush (pc := 40) hG dX0_init_40 (by decide) ?_
  refine V.icmp_ge (pc := 42) (tgt := 64) hG (sR_l rfl) (sR_l rfl) dX0_init_42 (by decide) (fun c1 => absurd c1 (by decide)) (fun _ => ?_)
  refine V.aload_n (pc := 45) hG dX0_init_45 rfl 1 rfl ?_
  have f29 := (st_ne (by decide)).trans ((congrFun (fr_X3 100 (by decide)) _).trans (f28))
  refine V.getR (x := 68) (pc := 46) (ci := 2) (k := 0) (M := 5) (T := TX0) (o := 67) (kz := 0) hG (isA.of (by decide +kernel)) (by decide) (by decide) hin_X0 rfl (by decide) (by decide) rfl kw_402 rfl f29 (by decide) dX0_init_46 ?_
  refine V.iload_n (pc := 49) (x := 29) hG dX0_init_49 rfl 0 rfl ?_
  refine V.cnew (pc := 50) (ci := 5) (N := 13) (T := TX3) (ty := tyX3) hG hin_X3 rfl tyX3_ok kw_327 kw_329 kw_164 (by decide +kernel) (by decide) rfl defX3 z95.z ⟨by decide, by decide⟩ dX0_init_50 ?_
  refine V.nn (n2 := 102) rfl ?_
  have z96 := z95.up (m := 102) (by omega)
  refine V.dup (pc := 53) hG dX0_init_53 rfl ?_
  refine V.ccallN (pc := 54) (n2 := 102) hG (ct_X3 l Δ (101) (isA.of (by decide +kernel))  z96) mY_X3_init rfl kw_330 kw_331 ⟨by decide, by decide, by decide, by decide⟩ (by decide) dX0_init_54 ?_
  have z97 := zf_X3 101 z96
  refine V.caast 6 5 (pc := 57) (z := 96) (o := 68) (x := 29) (y := 101) hG (isA.of (by decide +kernel)) (by decide) (by decide) rfl (isA.of (by decide +kernel)) (by decide) (by decide) rfl (sR_l rfl) (by decide) (by decide) dX0_init_57 ?_
  have z98 := z97.sRf (o := 68) (kz := 29) (x := 101) (by decide)
  refine V.iinc (pc := 58) (x := 29) (lv' := [(1, .int (sJ 30)), (0, .ref (sA Δ 67))]) hG dX0_init_58 0 rfl (by decide) rfl ?_
  refine V.goto (pc := 61) (tgt := 39) hG dX0_init_61 (by decide) ?_
  refine V.iload_n (pc := 39) (x := 30) hG dX0_init_39 rfl 0 rfl ?_
  refine V.bipush (pc := 40) hG dX0_init_40 (by decide) ?_
  refine V.icmp_ge (pc := 42) (tgt := 64) hG (sR_l rfl) (sR_l rfl) dX0_init_42 (by decide) (fun c1 => absurd c1 (by decide)) (fun _ => ?_)
  refine V.aload_n (pc := 45) hG dX0_init_45 rfl 1 rfl ?_
  have f30 := (st_ne (by decide)).trans ((congrFun (fr_X3 101 (by decide)) _).trans (f29))
  refine V.getR (x := 68) (pc := 46) (ci := 2) (k := 0) (M := 5) (T := TX0) (o := 67) (kz := 0) hG (isA.of (by decide +kernel)) (by decide) (by decide) hin_X0 rfl (by decide) (by decide) rfl kw_402 rfl f30 (by decide) dX0_init_46 ?_
  refine V.iload_n (pc := 49) (x := 30) hG dX0_init_49 rfl 0 rfl ?_
  refine V.cnew (pc := 50) (ci := 5) (N := 13) (T := TX3) (ty := tyX3) hG hin_X3 rfl tyX3_ok kw_327 kw_329 kw_164 (by decide +kernel) (by decide) rfl defX3 z98.z ⟨by decide, by decide⟩ dX0_init_50 ?_
  refine V.nn (n2 := 103) rfl ?_
  have z99 := z98.up (m := 103) (by omega)
  refine V.dup (pc := 53) hG dX0_init_53 rfl ?_
  refine V.ccallN (pc := 54) (n2 := 103) hG (ct_X3 l Δ (102) (isA.of (by decide +kernel))  z99) mY_X3_init rfl kw_330 kw_331 ⟨by decide, by decide, by decide, by decide⟩ (by decide) dX0_init_54 ?_
  have z100 := zf_X3 102 z99
  refine V.caast 6 5 (pc := 57) (z := 96) (o := 68) (x := 30) (y := 102) hG (isA.of (by decide +kernel)) (by decide) (by decide) rfl (isA.of (by decide +kernel)) (by decide) (by decide) rfl (sR_l rfl) (by decide) (by decide) dX0_init_57 ?_
  have z101 := z100.sRf (o := 68) (kz := 30) (x := 102) (by decide)
  refine V.iinc (pc := 58) (x := 30) (lv' := [(1, .int (sJ 31)), (0, .ref (sA Δ 67))]) hG dX0_init_58 0 rfl (by decide) rfl ?_
  refine V.goto (pc := 61) (tgt := 39) hG dX0_init_61 (by decide) ?_
  refine V.iload_n (pc := 39) (x := 31) hG dX0_init_39 rfl 0 rfl ?_
  refine V.bipush (pc := 40) hG dX0_init_40 (by decide) ?_
  refine V.icmp_ge (pc := 42) (tgt := 64) hG (sR_l rfl) (sR_l rfl) dX0_init_42 (by decide) (fun c1 => absurd c1 (by decide)) (fun _ => ?_)
  refine V.aload_n (pc := 45) hG dX0_init_45 rfl 1 rfl ?_
  have f31 := (st_ne (by decide)).trans ((congrFun (fr_X3 102 (by decide)) _).trans (f30))
  refine V.getR (x := 68) (pc := 46) (ci := 2) (k := 0) (M := 5) (T := TX0) (o := 67) (kz := 0) hG (isA.of (by decide +kernel)) (by decide) (by decide) hin_X0 rfl (by decide) (by decide) rfl kw_402 rfl f31 (by decide) dX0_init_46 ?_
  refine V.iload_n (pc := 49) (x := 31) hG dX0_init_49 rfl 0 rfl ?_
  refine V.cnew (pc := 50) (ci := 5) (N := 13) (T := TX3) (ty := tyX3) hG hin_X3 rfl tyX3_ok kw_327 kw_329 kw_164 (by decide +kernel) (by decide) rfl defX3 z101.z ⟨by decide, by decide⟩ dX0_init_50 ?_
  refine V.nn (n2 := 104) rfl ?_
  have z102 := z101.up (m := 104) (by omega)
  refine V.dup (pc := 53) hG dX0_init_53 rfl ?_
  refine V.ccallN (pc := 54) (n2 := 104) hG (ct_X3 l Δ (103) (isA.of (by decide +kernel))  z102) mY_X3_init rfl kw_330 kw_331 ⟨by decide, by decide, by decide, by decide⟩ (by decide) dX0_init_54 ?_
  have z103 := zf_X3 103 z102
  refine V.caast 6 5 (pc := 57) (z := 96) (o := 68) (x := 31) (y := 103) hG (isA.of (by decide +kernel)) (by decide) (by decide) rfl (isA.of (by decide +kernel)) (by decide) (by decide) rfl (sR_l rfl) (by decide) (by decide) dX0_init_57 ?_
  have z104 := z103.sRf (o := 68) (kz := 31) (x := 103) (by decide)
  refine V.iinc (pc := 58) (x := 31) (lv' := [(1, .int (sJ 32)), (0, .ref (sA Δ 67))]) hG dX0_init_58 0 rfl (by decide) rfl ?_
  refine V.goto (pc := 61) (tgt := 39) hG dX0_init_61 (by decide) ?_
  refine V.iload_n (pc := 39) (x := 32) hG dX0_init_39 rfl 0 rfl ?_
  refine V.bipush (pc := 40) hG dX0_init_40 (by decide) ?_
  refine V.icmp_ge (pc := 42) (tgt := 64) hG (sR_l rfl) (sR_l rfl) dX0_init_42 (by decide) (fun c1 => absurd c1 (by decide)) (fun _ => ?_)
  refine V.aload_n (pc := 45) hG dX0_init_45 rfl 1 rfl ?_
  have f32 := (st_ne (by decide)).trans ((congrFun (fr_X3 103 (by decide)) _).trans (f31))
  refine V.getR (x := 68) (pc := 46) (ci := 2) (k := 0) (M := 5) (T := TX0) (o := 67) (kz := 0) hG (isA.of (by decide +kernel)) (by decide) (by decide) hin_X0 rfl (by decide) (by decide) rfl kw_402 rfl f32 (by decide) dX0_init_46 ?_
  refine V.iload_n (pc := 49) (x := 32) hG dX0_init_49 rfl 0 rfl ?_
  refine V.cnew (pc := 50) (ci := 5) (N := 13) (T := TX3) (ty := tyX3) hG hin_X3 rfl tyX3_ok kw_327 kw_329 kw_164 (by decide +kernel) (by decide) rfl defX3 z104.z ⟨by decide, by decide⟩ dX0_init_50 ?_
  refine V.nn (n2 := 105) rfl ?_
  have z105 := z104.up (m := 105) (by omega)
  refine V.dup (pc := 53) hG dX0_init_53 rfl ?_
  refine V.ccallN (pc := 54) (n2 := 105) hG (ct_X3 l Δ (104) (isA.of (by decide +kernel))  z105) mY_X3_init rfl kw_330 kw_331 ⟨by decide, by decide, by decide, by decide⟩ (by decide) dX0_init_54 ?_
  have z106 := zf_X3 104 z105
  refine V.caast 6 5 (pc := 57) (z := 96) (o := 68) (x := 32) (y := 104) hG (isA.of (by decide +kernel)) (by decide) (by decide) rfl (isA.of (by decide +kernel)) (by decide) (by decide) rfl (sR_l rfl) (by decide) (by decide) dX0_init_57 ?_
  have z107 := z106.sRf (o := 68) (kz := 32) (x := 104) (by decide)
  refine V.iinc (pc := 58) (x := 32) (lv' := [(1, .int (sJ 33)), (0, .ref (sA Δ 67))]) hG dX0_init_58 0 rfl (by decide) rfl ?_
  refine V.goto (pc := 61) (tgt := 39) hG dX0_init_61 (by decide) ?_
  refine V.iload_n (pc := 39) (x := 33) hG dX0_init_39 rfl 0 rfl ?_
  refine V.bipush (pc := 40) hG dX0_init_40 (by decide) ?_
  refine V.icmp_ge (pc := 42) (tgt := 64) hG (sR_l rfl) (sR_l rfl) dX0_init_42 (by decide) (fun c1 => absurd c1 (by decide)) (fun _ => ?_)
  refine V.aload_n (pc := 45) hG dX0_init_45 rfl 1 rfl ?_
  have f33 := (st_ne (by decide)).trans ((congrFun (fr_X3 104 (by decide)) _).trans (f32))
  refine V.getR (x := 68) (pc := 46) (ci := 2) (k := 0) (M := 5) (T := TX0) (o := 67) (kz := 0) hG (isA.of (by decide +kernel)) (by decide) (by decide) hin_X0 rfl (by decide) (by decide) rfl kw_402 rfl f33 (by decide) dX0_init_46 ?_
  refine V.iload_n (pc := 49) (x := 33) hG dX0_init_49 rfl 0 rfl ?_
  refine V.cnew (pc := 50) (ci := 5) (N := 13) (T := TX3) (ty := tyX3) hG hin_X3 rfl tyX3_ok kw_327 kw_329 kw_164 (by decide +kernel) (by decide) rfl defX3 z107.z ⟨by decide, by decide⟩ dX0_init_50 ?_
  refine V.nn (n2 := 106) rfl ?_
  have z108 := z107.up (m := 106) (by omega)
  refine V.dup (pc := 53) hG dX0_init_53 rfl ?_
  refine V.ccallN (pc := 54) (n2 := 106) hG (ct_X3 l Δ (105) (isA.of (by decide +kernel))  z108) mY_X3_init rfl kw_330 kw_331 ⟨by decide, by decide, by decide, by decide⟩ (by decide) dX0_init_54 ?_
  have z109 := zf_X3 105 z108
  refine V.caast 6 5 (pc := 57) (z := 96) (o := 68) (x := 33) (y := 105) hG (isA.of (by decide +kernel)) (by decide) (by decide) rfl (isA.of (by decide +kernel)) (by decide) (by decide) rfl (sR_l rfl) (by decide) (by decide) dX0_init_57 ?_
  have z110 := z109.sRf (o := 68) (kz := 33) (x := 105) (by decide)
  refine V.iinc (pc := 58) (x := 33) (lv' := [(1, .int (sJ 34)), (0, .ref (sA Δ 67))]) hG dX0_init_58 0 rfl (by decide) rfl ?_
  refine V.goto (pc := 61) (tgt := 39) hG dX0_init_61 (by decide) ?_
  refine V.iload_n (pc := 39) (x := 34) hG dX0_init_39 rfl 0 rfl ?_
  refine V.bipush (pc := 40) hG dX0_init_40 (by decide) ?_
  refine V.icmp_ge (pc := 42) (tgt := 64) hG (sR_l rfl) (sR_l rfl) dX0_init_42 (by decide) (fun c1 => absurd c1 (by decide)) (fun _ => ?_)
  refine V.aload_n (pc := 45) hG dX0_init_45 rfl 1 rfl ?_
  have f34 := (st_ne (by decide)).trans ((congrFun (fr_X3 105 (by decide)) _).trans (f33))
  refine V.getR (x := 68) (pc := 46) (ci := 2) (k := 0) (M := 5) (T := TX0) (o := 67) (kz := 0) hG (isA.of (by decide +kernel)) (by decide) (by decide) hin_X0 rfl (by decide) (by decide) rfl kw_402 rfl f34 (by decide) dX0_init_46 ?_
  refine V.iload_n (pc := 49) (x := 34) hG dX0_init_49 rfl 0 rfl ?_
  refine V.cnew (pc := 50) (ci := 5) (N := 13) (T := TX3) (ty := tyX3) hG hin_X3 rfl tyX3_ok kw_327 kw_329 kw_164 (by decide +kernel) (by decide) rfl defX3 z110.z ⟨by decide, by decide⟩ dX0_init_50 ?_
  refine V.nn (n2 := 107) rfl ?_
  have z111 := z110.up (m := 107) (by omega)
  refine V.dup (pc := 53) hG dX0_init_53 rfl ?_
  refine V.ccallN (pc := 54) (n2 := 107) hG (ct_X3 l Δ (106) (isA.of (by decide +kernel))  z111) mY_X3_init rfl kw_330 kw_331 ⟨by decide, by decide, by decide, by decide⟩ (by decide) dX0_init_54 ?_
  have z112 := zf_X3 106 z111
  refine V.caast 6 5 (pc := 57) (z := 96) (o := 68) (x := 34) (y := 106) hG (isA.of (by decide +kernel)) (by decide) (by decide) rfl (isA.of (by decide +kernel)) (by decide) (by decide) rfl (sR_l rfl) (by decide) (by decide) dX0_init_57 ?_
  have z113 := z112.sRf (o := 68) (kz := 34) (x := 106) (by decide)
  refine V.iinc (pc := 58) (x := 34) (lv' := [(1, .int (sJ 35)), (0, .ref (sA Δ 67))]) hG dX0_init_58 0 rfl (by decide) rfl ?_
  refine V.goto (pc := 61) (tgt := 39) hG dX0_init_61 (by decide) ?_
  refine V.iload_n (pc := 39) (x := 35) hG dX0_init_39 rfl 0 rfl ?_
  refine V.bipush (pc := 40) hG dX0_init_40 (by decide) ?_
  refine V.icmp_ge (pc := 42) (tgt := 64) hG (sR_l rfl) (sR_l rfl) dX0_init_42 (by decide) (fun c1 => absurd c1 (by decide)) (fun _ => ?_)
  refine V.aload_n (pc := 45) hG dX0_init_45 rfl 1 rfl ?_
  have f35 := (st_ne (by decide)).trans ((congrFun (fr_X3 106 (by decide)) _).trans (f34))
  refine V.getR (x := 68) (pc := 46) (ci := 2) (k := 0) (M := 5) (T := TX0) (o := 67) (kz := 0) hG (isA.of (by decide +kernel)) (by decide) (by decide) hin_X0 rfl (by decide) (by decide) rfl kw_402 rfl f35 (by decide) dX0_init_46 ?_
  refine V.iload_n (pc := 49) (x := 35) hG dX0_init_49 rfl 0 rfl ?_
  refine V.cnew (pc := 50) (ci := 5) (N := 13) (T := TX3) (ty := tyX3) hG hin_X3 rfl tyX3_ok kw_327 kw_329 kw_164 (by decide +kernel) (by decide) rfl defX3 z113.z ⟨by decide, by decide⟩ dX0_init_50 ?_
  refine V.nn (n2 := 108) rfl ?_
  have z114 := z113.up (m := 108) (by omega)
  refine V.dup (pc := 53) hG dX0_init_53 rfl ?_
  refine V.ccallN (pc := 54) (n2 := 108) hG (ct_X3 l Δ (107) (isA.of (by decide +kernel))  z114) mY_X3_init rfl kw_330 kw_331 ⟨by decide, by decide, by decide, by decide⟩ (by decide) dX0_init_54 ?_
  have z115 := zf_X3 107 z114
  refine V.caast 6 5 (pc := 57) (z := 96) (o := 68) (x := 35) (y := 107) hG (isA.of (by decide +kernel)) (by decide) (by decide) rfl (isA.of (by decide +kernel)) (by decide) (by decide) rfl (sR_l rfl) (by decide) (by decide) dX0_init_57 ?_
  have z116 := z115.sRf (o := 68) (kz := 35) (x := 107) (by decide)
  refine V.iinc (pc := 58) (x := 35) (lv' := [(1, .int (sJ 36)), (0, .ref (sA Δ 67))]) hG dX0_init_58 0 rfl (by decide) rfl ?_
  refine V.goto (pc := 61) (tgt := 39) hG dX0_init_61 (by decide) ?_
  refine V.iload_n (pc := 39) (x := 36) hG dX0_init_39 rfl 0 rfl ?_
  refine V.bipush (pc := 40) hG dX0_init_40 (by decide) ?_
  refine V.icmp_ge (pc := 42) (tgt := 64) hG (sR_l rfl) (sR_l rfl) dX0_init_42 (by decide) (fun c1 => absurd c1 (by decide)) (fun _ => ?_)
  refine V.aload_n (pc := 45) hG dX0_init_45 rfl 1 rfl ?_
  have f36 := (st_ne (by decide)).trans ((congrFun (fr_X3 107 (by decide)) _).trans (f35))
  refine V.getR (x := 68) (pc := 46) (ci := 2) (k := 0) (M := 5) (T := TX0) (o := 67) (kz := 0) hG (isA.of (by decide +kernel)) (by decide) (by decide) hin_X0 rfl (by decide) (by decide) rfl kw_402 rfl f36 (by decide) dX0_init_46 ?_
  refine V.iload_n (pc := 49) (x := 36) hG dX0_init_49 rfl 0 rfl ?_
  refine V.cnew (pc := 50) (ci := 5) (N := 13) (T := TX3) (ty := tyX3) hG hin_X3 rfl tyX3_ok kw_327 kw_329 kw_164 (by decide +kernel) (by decide) rfl defX3 z116.z ⟨by decide, by decide⟩ dX0_init_50 ?_
  refine V.nn (n2 := 109) rfl ?_
  have z117 := z116.up (m := 109) (by omega)
  refine V.dup (pc := 53) hG dX0_init_53 rfl ?_
  refine V.ccallN (pc := 54) (n2 := 109) hG (ct_X3 l Δ (108) (isA.of (by decide +kernel))  z117) mY_X3_init rfl kw_330 kw_331 ⟨by decide, by decide, by decide, by decide⟩ (by decide) dX0_init_54 ?_
  have z118 := zf_X3 108 z117
  refine V.caast 6 5 (pc := 57) (z := 96) (o := 68) (x := 36) (y := 108) hG (isA.of (by decide +kernel)) (by decide) (by decide) rfl (isA.of (by decide +kernel)) (by decide) (by decide) rfl (sR_l rfl) (by decide) (by decide) dX0_init_57 ?_
  have z119 := z118.sRf (o := 68) (kz := 36) (x := 108) (by decide)
  refine V.iinc (pc := 58) (x := 36) (lv' := [(1, .int (sJ 37)), (0, .ref (sA Δ 67))]) hG dX0_init_58 0 rfl (by decide) rfl ?_
  refine V.goto (pc := 61) (tgt := 39) hG dX0_init_61 (by decide) ?_
  refine V.iload_n (pc := 39) (x := 37) hG dX0_init_39 rfl 0 rfl ?_
  refine V.bipush (pc := 40) hG dX0_init_40 (by decide) ?_
  refine V.icmp_ge (pc := 42) (tgt := 64) hG (sR_l rfl) (sR_l rfl) dX0_init_42 (by decide) (fun c1 => absurd c1 (by decide)) (fun _ => ?_)
  refine V.aload_n (pc := 45) hG dX0_init_45 rfl 1 rfl ?_
  have f37 := (st_ne (by decide)).trans ((congrFun (fr_X3 108 (by decide)) _).trans (f36))
  refine V.getR (x := 68) (pc := 46) (ci := 2) (k := 0) (M := 5) (T := TX0) (o := 67) (kz := 0) hG (isA.of (by decide +kernel)) (by decide) (by decide) hin_X0 rfl (by decide) (by decide) rfl kw_402 rfl f37 (by decide) dX0_init_46 ?_
  refine V.iload_n (pc := 49) (x := 37) hG dX0_init_49 rfl 0 rfl ?_
  refine V.cnew (pc := 50) (ci := 5) (N := 13) (T := TX3) (ty := tyX3) hG hin_X3 rfl tyX3_ok kw_327 kw_329 kw_164 (by decide +kernel) (by decide) rfl defX3 z119.z ⟨by decide, by decide⟩ dX0_init_50 ?_
  refine V.nn (n2 := 110) rfl ?_
  have z120 := z119.up (m := 110) (by omega)
  refine V.dup (pc := 53) hG dX0_init_53 rfl ?_
  refine V.ccallN (pc := 54) (n2 := 110) hG (ct_X3 l Δ (109) (isA.of (by decide +kernel))  z120) mY_X3_init rfl kw_330 kw_331 ⟨by decide, by decide, by decide, by decide⟩ (by decide) dX0_init_54 ?_
  have z121 := zf_X3 109 z120
  refine V.caast 6 5 (pc := 57) (z := 96) (o := 68) (x := 37) (y := 109) hG (isA.of (by decide +kernel)) (by decide) (by decide) rfl (isA.of (by decide +kernel)) (by decide) (by decide) rfl (sR_l rfl) (by decide) (by decide) dX0_init_57 ?_
  have z122 := z121.sRf (o := 68) (kz := 37) (x := 109) (by decide)
  refine V.iinc (pc := 58) (x := 37) (lv' := [(1, .int (sJ 38)), (0, .ref (sA Δ 67))]) hG dX0_init_58 0 rfl (by decide) rfl ?_
  refine V.goto (pc := 61) (tgt := 39) hG dX0_init_61 (by decide) ?_
  refine V.iload_n (pc := 39) (x := 38) hG dX0_init_39 rfl 0 rfl ?_
  refine V.bipush (pc := 40) hG dX0_init_40 (by decide) ?_
  refine V.icmp_ge (pc := 42) (tgt := 64) hG (sR_l rfl) (sR_l rfl) dX0_init_42 (by decide) (fun c1 => absurd c1 (by decide)) (fun _ => ?_)
  refine V.aload_n (pc := 45) hG dX0_init_45 rfl 1 rfl ?_
  have f38 := (st_ne (by decide)).trans ((congrFun (fr_X3 109 (by decide)) _).trans (f37))
  refine V.getR (x := 68) (pc := 46) (ci := 2) (k := 0) (M := 5) (T := TX0) (o := 67) (kz := 0) hG (isA.of (by decide +kernel)) (by decide) (by decide) hin_X0 rfl (by decide) (by decide) rfl kw_402 rfl f38 (by decide) dX0_init_46 ?_
  refine V.iload_n (pc := 49) (x := 38) hG dX0_init_49 rfl 0 rfl ?_
  refine V.cnew (pc := 50) (ci := 5) (N := 13) (T := TX3) (ty := tyX3) hG hin_X3 rfl tyX3_ok kw_327 kw_329 kw_164 (by decide +kernel) (by decide) rfl defX3 z122.z ⟨by decide, by decide⟩ dX0_init_50 ?_
  refine V.nn (n2 := 111) rfl ?_
  have z123 := z122.up (m := 111) (by omega)
  refine V.dup (pc := 53) hG dX0_init_53 rfl ?_
  refine V.ccallN (pc := 54) (n2 := 111) hG (ct_X3 l Δ (110) (isA.of (by decide +kernel))  z123) mY_X3_init rfl kw_330 kw_331 ⟨by decide, by decide, by decide, by decide⟩ (by decide) dX0_init_54 ?_
  have z124 := zf_X3 110 z123
  refine V.caast 6 5 (pc := 57) (z := 96) (o := 68) (x := 38) (y := 110) hG (isA.of (by decide +kernel)) (by decide) (by decide) rfl (isA.of (by decide +kernel)) (by decide) (by decide) rfl (sR_l rfl) (by decide) (by decide) dX0_init_57 ?_
  have z125 := z124.sRf (o := 68) (kz := 38) (x := 110) (by decide)
  refine V.iinc (pc := 58) (x := 38) (lv' := [(1, .int (sJ 39)), (0, .ref (sA Δ 67))]) hG dX0_init_58 0 rfl (by decide) rfl ?_
  refine V.goto (pc := 61) (tgt := 39) hG dX0_init_61 (by decide) ?_
  refine V.iload_n (pc := 39) (x := 39) hG dX0_init_39 rfl 0 rfl ?_
  refine V.bipush (pc := 40) hG dX0_init_40 (by decide) ?_
  refine V.icmp_ge (pc := 42) (tgt := 64) hG (sR_l rfl) (sR_l rfl) dX0_init_42 (by decide) (fun c1 => absurd c1 (by decide)) (fun _ => ?_)
  refine V.aload_n (pc := 45) hG dX0_init_45 rfl 1 rfl ?_
  have f39 := (st_ne (by decide)).trans ((congrFun (fr_X3 110 (by decide)) _).trans (f38))
  refine V.getR (x := 68) (pc := 46) (ci := 2) (k := 0) (M := 5) (T := TX0) (o := 67) (kz := 0) hG (isA.of (by decide +kernel)) (by decide) (by decide) hin_X0 rfl (by decide) (by decide) rfl kw_402 rfl f39 (by decide) dX0_init_46 ?_
  refine V.iload_n (pc := 49) (x := 39) hG dX0_init_49 rfl 0 rfl ?_
  refine V.cnew (pc := 50) (ci := 5) (N := 13) (T := TX3) (ty := tyX3) hG hin_X3 rfl tyX3_ok kw_327 kw_329 kw_164 (by decide +kernel) (by decide) rfl defX3 z125.z ⟨by decide, by decide⟩ dX0_init_50 ?_
  refine V.nn (n2 := 112) rfl ?_
  have z126 := z125.up (m := 112) (by omega)
  refine V.dup (pc := 53) hG dX0_init_53 rfl ?_
  refine V.ccallN (pc := 54) (n2 := 112) hG (ct_X3 l Δ (111) (isA.of (by decide +kernel))  z126) mY_X3_init rfl kw_330 kw_331 ⟨by decide, by decide, by decide, by decide⟩ (by decide) dX0_init_54 ?_
  have z127 := zf_X3 111 z126
  refine V.caast 6 5 (pc := 57) (z := 96) (o := 68) (x := 39) (y := 111) hG (isA.of (by decide +kernel)) (by decide) (by decide) rfl (isA.of (by decide +kernel)) (by decide) (by decide) rfl (sR_l rfl) (by decide) (by decide) dX0_init_57 ?_
  have z128 := z127.sRf (o := 68) (kz := 39) (x := 111) (by decide)
  refine V.iinc (pc := 58) (x := 39) (lv' := [(1, .int (sJ 40)), (0, .ref (sA Δ 67))]) hG dX0_init_58 0 rfl (by decide) rfl ?_
  refine V.goto (pc := 61) (tgt := 39) hG dX0_init_61 (by decide) ?_
  refine V.iload_n (pc := 39) (x := 40) hG dX0_init_39 rfl 0 rfl ?_
  refine V.bipush (pc := 40) hG dX0_init_40 (by decide) ?_
  refine V.icmp_ge (pc := 42) (tgt := 64) hG (sR_l rfl) (sR_l rfl) dX0_init_42 (by decide) (fun c1 => absurd c1 (by decide)) (fun _ => ?_)
  refine V.aload_n (pc := 45) hG dX0_init_45 rfl 1 rfl ?_
  have f40 := (st_ne (by decide)).trans ((congrFun (fr_X3 111 (by decide)) _).trans (f39))
  refine V.getR (x := 68) (pc := 46) (ci := 2) (k := 0) (M := 5) (T := TX0) (o := 67) (kz := 0) hG (isA.of (by decide +kernel)) (by decide) (by decide) hin_X0 rfl (by decide) (by decide) rfl kw_402 rfl f40 (by decide) dX0_init_46 ?_
  refine V.iload_n (pc := 49) (x := 40) hG dX0_init_49 rfl 0 rfl ?_
  refine V.cnew (pc := 50) (ci := 5) (N := 13) (T := TX3) (ty := tyX3) hG hin_X3 rfl tyX3_ok kw_327 kw_329 kw_164 (by decide +kernel) (by decide) rfl defX3 z128.z ⟨by decide, by decide⟩ dX0_init_50 ?_
  refine V.nn (n2 := 113) rfl ?_
  have z129 := z128.up (m := 113) (by omega)
  refine V.dup (pc := 53) hG dX0_init_53 rfl ?_
  refine V.ccallN (pc := 54) (n2 := 113) hG (ct_X3 l Δ (112) (isA.of (by decide +kernel))  z129) mY_X3_init rfl kw_330 kw_331 ⟨by decide, by decide, by decide, by decide⟩ (by decide) dX0_init_54 ?_
  have z130 := zf_X3 112 z129
  refine V.caast 6 5 (pc := 57) (z := 96) (o := 68) (x := 40) (y := 112) hG (isA.of (by decide +kernel)) (by decide) (by decide) rfl (isA.of (by decide +kernel)) (by decide) (by decide) rfl (sR_l rfl) (by decide) (by decide) dX0_init_57 ?_
  have z131 := z130.sRf (o := 68) (kz := 40) (x := 112) (by decide)
  refine V.iinc (pc := 58) (x := 40) (lv' := [(1, .int (sJ 41)), (0, .ref (sA Δ 67))]) hG dX0_init_58 0 rfl (by decide) rfl ?_
  refine V.goto (pc := 61) (tgt := 39) hG dX0_init_61 (by decide) ?_
  refine V.iload_n (pc := 39) (x := 41) hG dX0_init_39 rfl 0 rfl ?_
  refine V.bipush (pc := 40) hG dX0_init_40 (by decide) ?_
  refine V.icmp_ge (pc := 42) (tgt := 64) hG (sR_l rfl) (sR_l rfl) dX0_init_42 (by decide) (fun c1 => absurd c1 (by decide)) (fun _ => ?_)
  refine V.aload_n (pc := 45) hG dX0_init_45 rfl 1 rfl ?_
  have f41 := (st_ne (by decide)).trans ((congrFun (fr_X3 112 (by decide)) _).trans (f40))
  refine V.getR (x := 68) (pc := 46) (ci := 2) (k := 0) (M := 5) (T := TX0) (o := 67) (kz := 0) hG (isA.of (by decide +kernel)) (by decide) (by decide) hin_X0 rfl (by decide) (by decide) rfl kw_402 rfl f41 (by decide) dX0_init_46 ?_
  refine V.iload_n (pc := 49) (x := 41) hG dX0_init_49 rfl 0 rfl ?_
  refine V.cnew (pc := 50) (ci := 5) (N := 13) (T := TX3) (ty := tyX3) hG hin_X3 rfl tyX3_ok kw_327 kw_329 kw_164 (by decide +kernel) (by decide) rfl defX3 z131.z ⟨by decide, by decide⟩ dX0_init_50 ?_
  refine V.nn (n2 := 114) rfl ?_
  have z132 := z131.up (m := 114) (by omega)
  refine V.dup (pc := 53) hG dX0_init_53 rfl ?_
  refine V.ccallN (pc := 54) (n2 := 114) hG (ct_X3 l Δ (113) (isA.of (by decide +kernel))  z132) mY_X3_init rfl kw_330 kw_331 ⟨by decide, by decide, by decide, by decide⟩ (by decide) dX0_init_54 ?_
  have z133 := zf_X3 113 z132
  refine V.caast 6 5 (pc := 57) (z := 96) (o := 68) (x := 41) (y := 113) hG (isA.of (by decide +kernel)) (by decide) (by decide) rfl (isA.of (by decide +kernel)) (by decide) (by decide) rfl (sR_l rfl) (by decide) (by decide) dX0_init_57 ?_
  have z134 := z133.sRf (o := 68) (kz := 41) (x := 113) (by decide)
  refine V.iinc (pc := 58) (x := 41) (lv' := [(1, .int (sJ 42)), (0, .ref (sA Δ 67))]) hG dX0_init_58 0 rfl (by decide) rfl ?_
  refine V.goto (pc := 61) (tgt := 39) hG dX0_init_61 (by decide) ?_
  refine V.iload_n (pc := 39) (x := 42) hG dX0_init_39 rfl 0 rfl ?_
  refine V.bipush (pc := 40) hG dX0_init_40 (by decide) ?_
  refine V.icmp_ge (pc := 42) (tgt := 64) hG (sR_l rfl) (sR_l rfl) dX0_init_42 (by decide) (fun c1 => absurd c1 (by decide)) (fun _ => ?_)
  refine V.aload_n (pc := 45) hG dX0_init_45 rfl 1 rfl ?_
  have f42 := (st_ne (by decide)).trans ((congrFun (fr_X3 113 (by decide)) _).trans (f41))
  refine V.getR (x := 68) (pc := 46) (ci := 2) (k := 0) (M := 5) (T := TX0) (o := 67) (kz := 0) hG (isA.of (by decide +kernel)) (by decide) (by decide) hin_X0 rfl (by decide) (by decide) rfl kw_402 rfl f42 (by decide) dX0_init_46 ?_
  refine V.iload_n (pc := 49) (x := 42) hG dX0_init_49 rfl 0 rfl ?_
  refine V.cnew (pc := 50) (ci := 5) (N := 13) (T := TX3) (ty := tyX3) hG hin_X3 rfl tyX3_ok kw_327 kw_329 kw_164 (by decide +kernel) (by decide) rfl defX3 z134.z ⟨by decide, by decide⟩ dX0_init_50 ?_
  refine V.nn (n2 := 115) rfl ?_
  have z135 := z134.up (m := 115) (by omega)
  refine V.dup (pc := 53) hG dX0_init_53 rfl ?_
  refine V.ccallN (pc := 54) (n2 := 115) hG (ct_X3 l Δ (114) (isA.of (by decide +kernel))  z135) mY_X3_init rfl kw_330 kw_331 ⟨by decide, by decide, by decide, by decide⟩ (by decide) dX0_init_54 ?_
  have z136 := zf_X3 114 z135
  refine V.caast 6 5 (pc := 57) (z := 96) (o := 68) (x := 42) (y := 114) hG (isA.of (by decide +kernel)) (by decide) (by decide) rfl (isA.of (by decide +kernel)) (by decide) (by decide) rfl (sR_l rfl) (by decide) (by decide) dX0_init_57 ?_
  have z137 := z136.sRf (o := 68) (kz := 42) (x := 114) (by decide)
  refine V.iinc (pc := 58) (x := 42) (lv' := [(1, .int (sJ 43)), (0, .ref (sA Δ 67))]) hG dX0_init_58 0 rfl (by decide) rfl ?_
  refine V.goto (pc := 61) (tgt := 39) hG dX0_init_61 (by decide) ?_
  refine V.iload_n (pc := 39) (x := 43) hG dX0_init_39 rfl 0 rfl ?_
  refine V.bipush (pc := 40) hG dX0_init_40 (by decide) ?_
  refine V.icmp_ge (pc := 42) (tgt := 64) hG (sR_l rfl) (sR_l rfl) dX0_init_42 (by decide) (fun c1 => absurd c1 (by decide)) (fun _ => ?_)
  refine V.aload_n (pc := 45) hG dX0_init_45 rfl 1 rfl ?_
  have f43 := (st_ne (by decide)).trans ((congrFun (fr_X3 114 (by decide)) _).trans (f42))
  refine V.getR (x := 68) (pc := 46) (ci := 2) (k := 0) (M := 5) (T := TX0) (o := 67) (kz := 0) hG (isA.of (by decide +kernel)) (by decide) (by decide) hin_X0 rfl (by decide) (by decide) rfl kw_402 rfl f43 (by decide) dX0_init_46 ?_
  refine V.iload_n (pc := 49) (x := 43) hG dX0_init_49 rfl 0 rfl ?_
  refine V.cnew (pc := 50) (ci := 5) (N := 13) (T := TX3) (ty := tyX3) hG hin_X3 rfl tyX3_ok kw_327 kw_329 kw_164 (by decide +kernel) (by decide) rfl defX3 z137.z ⟨by decide, by decide⟩ dX0_init_50 ?_
  refine V.nn (n2 := 116) rfl ?_
  have z138 := z137.up (m := 116) (by omega)
  refine V.dup (pc := 53) hG dX0_init_53 rfl ?_
  refine V.ccallN (pc := 54) (n2 := 116) hG (ct_X3 l Δ (115) (isA.of (by decide +kernel))  z138) mY_X3_init rfl kw_330 kw_331 ⟨by decide, by decide, by decide, by decide⟩ (by decide) dX0_init_54 ?_
  have z139 := zf_X3 115 z138
  refine V.caast 6 5 (pc := 57) (z := 96) (o := 68) (x := 43) (y := 115) hG (isA.of (by decide +kernel)) (by decide) (by decide) rfl (isA.of (by decide +kernel)) (by decide) (by decide) rfl (sR_l rfl) (by decide) (by decide) dX0_init_57 ?_
  have z140 := z139.sRf (o := 68) (kz := 43) (x := 115) (by decide)
  refine V.iinc (pc := 58) (x := 43) (lv' := [(1, .int (sJ 44)), (0, .ref (sA Δ 67))]) hG dX0_init_58 0 rfl (by decide) rfl ?_
  refine V.goto (pc := 61) (tgt := 39) hG dX0_init_61 (by decide) ?_
  refine V.iload_n (pc := 39) (x := 44) hG dX0_init_39 rfl 0 rfl ?_
  refine V.bipush (pc := 40) hG dX0_init_40 (by decide) ?_
  refine V.icmp_ge (pc := 42) (tgt := 64) hG (sR_l rfl) (sR_l rfl) dX0_init_42 (by decide) (fun c1 => absurd c1 (by decide)) (fun _ => ?_)
  refine V.aload_n (pc := 45) hG dX0_init_45 rfl 1 rfl ?_
  have f44 := (st_ne (by decide)).trans ((congrFun (fr_X3 115 (by decide)) _).trans (f43))
  refine V.getR (x := 68) (pc := 46) (ci := 2) (k := 0) (M := 5) (T := TX0) (o := 67) (kz := 0) hG (isA.of (by decide +kernel)) (by decide) (by decide) hin_X0 rfl (by decide) (by decide) rfl kw_402 rfl f44 (by decide) dX0_init_46 ?_
  refine V.iload_n (pc := 49) (x := 44) hG dX0_init_49 rfl 0 rfl ?_
  refine V.cnew (pc := 50) (ci := 5) (N := 13) (T := TX3) (ty := tyX3) hG hin_X3 rfl tyX3_ok kw_327 kw_329 kw_164 (by decide +kernel) (by decide) rfl defX3 z140.z ⟨by decide, by decide⟩ dX0_init_50 ?_
  refine V.nn (n2 := 117) rfl ?_
  have z141 := z140.up (m := 117) (by omega)
  refine V.dup (pc := 53) hG dX0_init_53 rfl ?_
  refine V.ccallN (pc := 54) (n2 := 117) hG (ct_X3 l Δ (116) (isA.of (by decide +kernel))  z141) mY_X3_init rfl kw_330 kw_331 ⟨by decide, by decide, by decide, by decide⟩ (by decide) dX0_init_54 ?_
  have z142 := zf_X3 116 z141
  refine V.caast 6 5 (pc := 57) (z := 96) (o := 68) (x := 44) (y := 116) hG (isA.of (by decide +kernel)) (by decide) (by decide) rfl (isA.of (by decide +kernel)) (by decide) (by decide) rfl (sR_l rfl) (by decide) (by decide) dX0_init_57 ?_
  have z143 := z142.sRf (o := 68) (kz := 44) (x := 116) (by decide)
  refine V.iinc (pc := 58) (x := 44) (lv' := [(1, .int (sJ 45)), (0, .ref (sA Δ 67))]) hG dX0_init_58 0 rfl (by decide) rfl ?_
  refine V.goto (pc := 61) (tgt := 39) hG dX0_init_61 (by decide) ?_
  refine V.iload_n (pc := 39) (x := 45) hG dX0_init_39 rfl 0 rfl ?_
  refine V.bipush (pc := 40) hG dX0_init_40 (by decide) ?_
  refine V.icmp_ge (pc := 42) (tgt := 64) hG (sR_l rfl) (sR_l rfl) dX0_init_42 (by decide) (fun c1 => absurd c1 (by decide)) (fun _ => ?_)
  refine V.aload_n (pc := 45) hG dX0_init_45 rfl 1 rfl ?_
  have f45 := (st_ne (by decide)).trans ((congrFun (fr_X3 116 (by decide)) _).trans (f44))
  refine V.getR (x := 68) (pc := 46) (ci := 2) (k := 0) (M := 5) (T := TX0) (o := 67) (kz := 0) hG (isA.of (by decide +kernel)) (by decide) (by decide) hin_X0 rfl (by decide) (by decide) rfl kw_402 rfl f45 (by decide) dX0_init_46 ?_
  refine V.iload_n (pc := 49) (x := 45) hG dX0_init_49 rfl 0 rfl ?_
  refine V.cnew (pc := 50) (ci := 5) (N := 13) (T := TX3) (ty := tyX3) hG hin_X3 rfl tyX3_ok kw_327 kw_329 kw_164 (by decide +kernel) (by decide) rfl defX3 z143.z ⟨by decide, by decide⟩ dX0_init_50 ?_
  refine V.nn (n2 := 118) rfl ?_
  have z144 := z143.up (m := 118) (by omega)
  refine V.dup (pc := 53) hG dX0_init_53 rfl ?_
  refine V.ccallN (pc := 54) (n2 := 118) hG (ct_X3 l Δ (117) (isA.of (by decide +kernel))  z144) mY_X3_init rfl kw_330 kw_331 ⟨by decide, by decide, by decide, by decide⟩ (by decide) dX0_init_54 ?_
  have z145 := zf_X3 117 z144
  refine V.caast 6 5 (pc := 57) (z := 96) (o := 68) (x := 45) (y := 117) hG (isA.of (by decide +kernel)) (by decide) (by decide) rfl (isA.of (by decide +kernel)) (by decide) (by decide) rfl (sR_l rfl) (by decide) (by decide) dX0_init_57 ?_
  have z146 := z145.sRf (o := 68) (kz := 45) (x := 117) (by decide)
  refine V.iinc (pc := 58) (x := 45) (lv' := [(1, .int (sJ 46)), (0, .ref (sA Δ 67))]) hG dX0_init_58 0 rfl (by decide) rfl ?_
  refine V.goto (pc := 61) (tgt := 39) hG dX0_init_61 (by decide) ?_
  refine V.iload_n (pc := 39) (x := 46) hG dX0_init_39 rfl 0 rfl ?_
  refine V.bipush (pc := 40) hG dX0_init_40 (by decide) ?_
  refine V.icmp_ge (pc := 42) (tgt := 64) hG (sR_l rfl) (sR_l rfl) dX0_init_42 (by decide) (fun c1 => absurd c1 (by decide)) (fun _ => ?_)
  refine V.aload_n (pc := 45) hG dX0_init_45 rfl 1 rfl ?_
  have f46 := (st_ne (by decide)).trans ((congrFun (fr_X3 117 (by decide)) _).trans (f45))
  refine V.getR (x := 68) (pc := 46) (ci := 2) (k := 0) (M := 5) (T := TX0) (o := 67) (kz := 0) hG (isA.of (by decide +kernel)) (by decide) (by decide) hin_X0 rfl (by decide) (by decide) rfl kw_402 rfl f46 (by decide) dX0_init_46 ?_
  refine V.iload_n (pc := 49) (x := 46) hG dX0_init_49 rfl 0 rfl ?_
  refine V.cnew (pc := 50) (ci := 5) (N := 13) (T := TX3) (ty := tyX3) hG hin_X3 rfl tyX3_ok kw_327 kw_329 kw_164 (by decide +kernel) (by decide) rfl defX3 z146.z ⟨by decide, by decide⟩ dX0_init_50 ?_
  refine V.nn (n2 := 119) rfl ?_
  have z147 := z146.up (m := 119) (by omega)
  refine V.dup (pc := 53) hG dX0_init_53 rfl ?_
  refine V.ccallN (pc := 54) (n2 := 119) hG (ct_X3 l Δ (118) (isA.of (by decide +kernel))  z147) mY_X3_init rfl kw_330 kw_331 ⟨by decide, by decide, by decide, by decide⟩ (by decide) dX0_init_54 ?_
  have z148 := zf_X3 118 z147
  refine V.caast 6 5 (pc := 57) (z := 96) (o := 68) (x := 46) (y := 118) hG (isA.of (by decide +kernel)) (by decide) (by decide) rfl (isA.of (by decide +kernel)) (by decide) (by decide) rfl (sR_l rfl) (by decide) (by decide) dX0_init_57 ?_
  have z149 := z148.sRf (o := 68) (kz := 46) (x := 118) (by decide)
  refine V.iinc (pc := 58) (x := 46) (lv' := [(1, .int (sJ 47)), (0, .ref (sA Δ 67))]) hG dX0_init_58 0 rfl (by decide) rfl ?_
  refine V.goto (pc := 61) (tgt := 39) hG dX0_init_61 (by decide) ?_
  refine V.iload_n (pc := 39) (x := 47) hG dX0_init_39 rfl 0 rfl ?_
  refine V.bipush (pc := 40) hG dX0_init_40 (by decide) ?_
  refine V.icmp_ge (pc := 42) (tgt := 64) hG (sR_l rfl) (sR_l rfl) dX0_init_42 (by decide) (fun c1 => absurd c1 (by decide)) (fun _ => ?_)
  refine V.aload_n (pc := 45) hG dX0_init_45 rfl 1 rfl ?_
  have f47 := (st_ne (by decide)).trans ((congrFun (fr_X3 118 (by decide)) _).trans (f46))
  refine V.getR (x := 68) (pc := 46) (ci := 2) (k := 0) (M := 5) (T := TX0) (o := 67) (kz := 0) hG (isA.of (by decide +kernel)) (by decide) (by decide) hin_X0 rfl (by decide) (by decide) rfl kw_402 rfl f47 (by decide) dX0_init_46 ?_
  refine V.iload_n (pc := 49) (x := 47) hG dX0_init_49 rfl 0 rfl ?_
  refine V.cnew (pc := 50) (ci := 5) (N := 13) (T := TX3) (ty := tyX3) hG hin_X3 rfl tyX3_ok kw_327 kw_329 kw_164 (by decide +kernel) (by decide) rfl defX3 z149.z ⟨by decide, by decide⟩ dX0_init_50 ?_
  refine V.nn (n2 := 120) rfl ?_
  have z150 := z149.up (m := 120) (by omega)
  refine V.dup (pc := 53) hG dX0_init_53 rfl ?_
  refine V.ccallN (pc := 54) (n2 := 120) hG (ct_X3 l Δ (119) (isA.of (by decide +kernel))  z150) mY_X3_init rfl kw_330 kw_331 ⟨by decide, by decide, by decide, by decide⟩ (by decide) dX0_init_54 ?_
  have z151 := zf_X3 119 z150
  refine V.caast 6 5 (pc := 57) (z := 96) (o := 68) (x := 47) (y := 119) hG (isA.of (by decide +kernel)) (by decide) (by decide) rfl (isA.of (by decide +kernel)) (by decide) (by decide) rfl (sR_l rfl) (by decide) (by decide) dX0_init_57 ?_
  have z152 := z151.sRf (o := 68) (kz := 47) (x := 119) (by decide)
  refine V.iinc (pc := 58) (x := 47) (lv' := [(1, .int (sJ 48)), (0, .ref (sA Δ 67))]) hG dX0_init_58 0 rfl (by decide) rfl ?_
  refine V.goto (pc := 61) (tgt := 39) hG dX0_init_61 (by decide) ?_
  refine V.iload_n (pc := 39) (x := 48) hG dX0_init_39 rfl 0 rfl ?_
  refine V.bipush (pc := 40) hG dX0_init_40 (by decide) ?_
  refine V.icmp_ge (pc := 42) (tgt := 64) hG (sR_l rfl) (sR_l rfl) dX0_init_42 (by decide) (fun c1 => absurd c1 (by decide)) (fun _ => ?_)
  refine V.aload_n (pc := 45) hG dX0_init_45 rfl 1 rfl ?_
  have f48 := (st_ne (by decide)).trans ((congrFun (fr_X3 119 (by decide)) _).trans (f47))
  refine V.getR (x := 68) (pc := 46) (ci := 2) (k := 0) (M := 5) (T := TX0) (o := 67) (kz := 0) hG (isA.of (by decide +kernel)) (by decide) (by decide) hin_X0 rfl (by decide) (by decide) rfl kw_402 rfl f48 (by decide) dX0_init_46 ?_
  refine V.iload_n (pc := 49) (x := 48) hG dX0_init_49 rfl 0 rfl ?_
  refine V.cnew (pc := 50) (ci := 5) (N := 13) (T := TX3) (ty := tyX3) hG hin_X3 rfl tyX3_ok kw_327 kw_329 kw_164 (by decide +kernel) (by decide) rfl defX3 z152.z ⟨by decide, by decide⟩ dX0_init_50 ?_
  refine V.nn (n2 := 121) rfl ?_
  have z153 := z152.up (m := 121) (by omega)
  refine V.dup (pc := 53) hG dX0_init_53 rfl ?_
  refine V.ccallN (pc := 54) (n2 := 121) hG (ct_X3 l Δ (120) (isA.of (by decide +kernel))  z153) mY_X3_init rfl kw_330 kw_331 ⟨by decide, by decide, by decide, by decide⟩ (by decide) dX0_init_54 ?_
  have z154 := zf_X3 120 z153
  refine V.caast 6 5 (pc := 57) (z := 96) (o := 68) (x := 48) (y := 120) hG (isA.of (by decide +kernel)) (by decide) (by decide) rfl (isA.of (by decide +kernel)) (by decide) (by decide) rfl (sR_l rfl) (by decide) (by decide) dX0_init_57 ?_
  have z155 := z154.sRf (o := 68) (kz := 48) (x := 120) (by decide)
  refine V.iinc (pc := 58) (x := 48) (lv' := [(1, .int (sJ 49)), (0, .ref (sA Δ 67))]) hG dX0_init_58 0 rfl (by decide) rfl ?_
  refine V.goto (pc := 61) (tgt := 39) hG dX0_init_61 (by decide) ?_
  refine V.iload_n (pc := 39) (x := 49) hG dX0_init_39 rfl 0 rfl ?_
  refine V.bipush (pc := 40) hG dX0_init_40 (by decide) ?_
  refine V.icmp_ge (pc := 42) (tgt := 64) hG (sR_l rfl) (sR_l rfl) dX0_init_42 (by decide) (fun c1 => absurd c1 (by decide)) (fun _ => ?_)
  refine V.aload_n (pc := 45) hG dX0_init_45 rfl 1 rfl ?_
  have f49 := (st_ne (by decide)).trans ((congrFun (fr_X3 120 (by decide)) _).trans (f48))
  refine V.getR (x := 68) (pc := 46) (ci := 2) (k := 0) (M := 5) (T := TX0) (o := 67) (kz := 0) hG (isA.of (by decide +kernel)) (by decide) (by decide) hin_X0 rfl (by decide) (by decide) rfl kw_402 rfl f49 (by decide) dX0_init_46 ?_
  refine V.iload_n (pc := 49) (x := 49) hG dX0_init_49 rfl 0 rfl ?_
  refine V.cnew (pc := 50) (ci := 5) (N := 13) (T := TX3) (ty := tyX3) hG hin_X3 rfl tyX3_ok kw_327 kw_329 kw_164 (by decide +kernel) (by decide) rfl defX3 z155.z ⟨by decide, by decide⟩ dX0_init_50 ?_
  refine V.nn (n2 := 122) rfl ?_
  have z156 := z155.up (m := 122) (by omega)
  refine V.dup (pc := 53) hG dX0_init_53 rfl ?_
  refine V.ccallN (pc := 54) (n2 := 122) hG (ct_X3 l Δ (121) (isA.of (by decide +kernel))  z156) mY_X3_init rfl kw_330 kw_331 ⟨by decide, by decide, by decide, by decide⟩ (by decide) dX0_init_54 ?_
  have z157 := zf_X3 121 z156
  refine V.caast 6 5 (pc := 57) (z := 96) (o := 68) (x := 49) (y := 121) hG (isA.of (by decide +kernel)) (by decide) (by decide) rfl (isA.of (by decide +kernel)) (by decide) (by decide) rfl (sR_l rfl) (by decide) (by decide) dX0_init_57 ?_
  have z158 := z157.sRf (o := 68) (kz := 49) (x := 121) (by decide)
  refine V.iinc (pc := 58) (x := 49) (lv' := [(1, .int (sJ 50)), (0, .ref (sA Δ 67))]) hG dX0_init_58 0 rfl (by decide) rfl ?_
  refine V.goto (pc := 61) (tgt := 39) hG dX0_init_61 (by decide) ?_
  refine V.iload_n (pc := 39) (x := 50) hG dX0_init_39 rfl 0 rfl ?_
  refine V.bipush (pc := 40) hG dX0_init_40 (by decide) ?_
  refine V.icmp_ge (pc := 42) (tgt := 64) hG (sR_l rfl) (sR_l rfl) dX0_init_42 (by decide) (fun c1 => absurd c1 (by decide)) (fun _ => ?_)
  refine V.aload_n (pc := 45) hG dX0_init_45 rfl 1 rfl ?_
  have f50 := (st_ne (by decide)).trans ((congrFun (fr_X3 121 (by decide)) _).trans (f49))
  refine V.getR (x := 68) (pc := 46) (ci := 2) (k := 0) (M := 5) (T := TX0) (o := 67) (kz := 0) hG (isA.of (by decide +kernel)) (by decide) (by decide) hin_X0 rfl (by decide) (by decide) rfl kw_402 rfl f50 (by decide) dX0_init_46 ?_
  refine V.iload_n (pc := 49) (x := 50) hG dX0_init_49 rfl 0 rfl ?_
  refine V.cnew (pc := 50) (ci := 5) (N := 13) (T := TX3) (ty := tyX3) hG hin_X3 rfl tyX3_ok kw_327 kw_329 kw_164 (by decide +kernel) (by decide) rfl defX3 z158.z ⟨by decide, by decide⟩ dX0_init_50 ?_
  refine V.nn (n2 := 123) rfl ?_
  have z159 := z158.up (m := 123) (by omega)
  refine V.dup (pc := 53) hG dX0_init_53 rfl ?_
  refine V.ccallN (pc := 54) (n2 := 123) hG (ct_X3 l Δ (122) (isA.of (by decide +kernel))  z159) mY_X3_init rfl kw_330 kw_331 ⟨by decide, by decide, by decide, by decide⟩ (by decide) dX0_init_54 ?_
  have z160 := zf_X3 122 z159
  refine V.caast 6 5 (pc := 57) (z := 96) (o := 68) (x := 50) (y := 122) hG (isA.of (by decide +kernel)) (by decide) (by decide) rfl (isA.of (by decide +kernel)) (by decide) (by decide) rfl (sR_l rfl) (by decide) (by decide) dX0_init_57 ?_
  have z161 := z160.sRf (o := 68) (kz := 50) (x := 122) (by decide)
  refine V.iinc (pc := 58) (x := 50) (lv' := [(1, .int (sJ 51)), (0, .ref (sA Δ 67))]) hG dX0_init_58 0 rfl (by decide) rfl ?_
  refine V.goto (pc := 61) (tgt := 39) hG dX0_init_61 (by decide) ?_
  refine V.iload_n (pc := 39) (x := 51) hG dX0_init_39 rfl 0 rfl ?_
  refine V.bipush (pc := 40) hG dX0_init_40 (by decide) ?_
  refine V.icmp_ge (pc := 42) (tgt := 64) hG (sR_l rfl) (sR_l rfl) dX0_init_42 (by decide) (fun c1 => absurd c1 (by decide)) (fun _ => ?_)
  refine V.aload_n (pc := 45) hG dX0_init_45 rfl 1 rfl ?_
  have f51 := (st_ne (by decide)).trans ((congrFun (fr_X3 122 (by decide)) _).trans (f50))
  refine V.getR (x := 68) (pc := 46) (ci := 2) (k := 0) (M := 5) (T := TX0) (o := 67) (kz := 0) hG (isA.of (by decide +kernel)) (by decide) (by decide) hin_X0 rfl (by decide) (by decide) rfl kw_402 rfl f51 (by decide) dX0_init_46 ?_
  refine V.iload_n (pc := 49) (x := 51) hG dX0_init_49 rfl 0 rfl ?_
  refine V.cnew (pc := 50) (ci := 5) (N := 13) (T := TX3) (ty := tyX3) hG hin_X3 rfl tyX3_ok kw_327 kw_329 kw_164 (by decide +kernel) (by decide) rfl defX3 z161.z ⟨by decide, by decide⟩ dX0_init_50 ?_
  refine V.nn (n2 := 124) rfl ?_
  have z162 := z161.up (m := 124) (by omega)
  refine V.dup (pc := 53) hG dX0_init_53 rfl ?_
  refine V.ccallN (pc := 54) (n2 := 124) hG (ct_X3 l Δ (123) (isA.of (by decide +kernel))  z162) mY_X3_init rfl kw_330 kw_331 ⟨by decide, by decide, by decide, by decide⟩ (by decide) dX0_init_54 ?_
  have z163 := zf_X3 123 z162
  refine V.caast 6 5 (pc := 57) (z := 96) (o := 68) (x := 51) (y := 123) hG (isA.of (by decide +kernel)) (by decide) (by decide) rfl (isA.of (by decide +kernel)) (by decide) (by decide) rfl (sR_l rfl) (by decide) (by decide) dX0_init_57 ?_
  have z164 := z163.sRf (o := 68) (kz := 51) (x := 123) (by decide)
  refine V.iinc (pc := 58) (x := 51) (lv' := [(1, .int (sJ 52)), (0, .ref (sA Δ 67))]) hG dX0_init_58 0 rfl (by decide) rfl ?_
  refine V.goto (pc := 61) (tgt := 39) hG dX0_init_61 (by decide) ?_
  refine V.iload_n (pc := 39) (x := 52) hG dX0_init_39 rfl 0 rfl ?_
  refine V.bipush (pc := 40) hG dX0_init_40 (by decide) ?_
  refine V.icmp_ge (pc := 42) (tgt := 64) hG (sR_l rfl) (sR_l rfl) dX0_init_42 (by decide) (fun c1 => absurd c1 (by decide)) (fun _ => ?_)
  refine V.aload_n (pc := 45) hG dX0_init_45 rfl 1 rfl ?_
  have f52 := (st_ne (by decide)).trans ((congrFun (fr_X3 123 (by decide)) _).trans (f51))
  refine V.getR (x := 68) (pc := 46) (ci := 2) (k := 0) (M := 5) (T := TX0) (o := 67) (kz := 0) hG (isA.of (by decide +kernel)) (by decide) (by decide) hin_X0 rfl (by decide) (by decide) rfl kw_402 rfl f52 (by decide) dX0_init_46 ?_
  refine V.iload_n (pc := 49) (x := 52) hG dX0_init_49 rfl 0 rfl ?_
  refine V.cnew (pc := 50) (ci := 5) (N := 13) (T := TX3) (ty := tyX3) hG hin_X3 rfl tyX3_ok kw_327 kw_329 kw_164 (by decide +kernel) (by decide) rfl defX3 z164.z ⟨by decide, by decide⟩ dX0_init_50 ?_
  refine V.nn (n2 := 125) rfl ?_
  have z165 := z164.up (m := 125) (by omega)
  refine V.dup (pc := 53) hG dX0_init_53 rfl ?_
  refine V.ccallN (pc := 54) (n2 := 125) hG (ct_X3 l Δ (124) (isA.of (by decide +kernel))  z165) mY_X3_init rfl kw_330 kw_331 ⟨by decide, by decide, by decide, by decide⟩ (by decide) dX0_init_54 ?_
  have z166 := zf_X3 124 z165
  refine V.caast 6 5 (pc := 57) (z := 96) (o := 68) (x := 52) (y := 124) hG (isA.of (by decide +kernel)) (by decide) (by decide) rfl (isA.of (by decide +kernel)) (by decide) (by decide) rfl (sR_l rfl) (by decide) (by decide) dX0_init_57 ?_
  have z167 := z166.sRf (o := 68) (kz := 52) (x := 124) (by decide)
  refine V.iinc (pc := 58) (x := 52) (lv' := [(1, .int (sJ 53)), (0, .ref (sA Δ 67))]) hG dX0_init_58 0 rfl (by decide) rfl ?_
  refine V.goto (pc := 61) (tgt := 39) hG dX0_init_61 (by decide) ?_
  refine V.iload_n (pc := 39) (x := 53) hG dX0_init_39 rfl 0 rfl ?_
  refine V.bipush (pc := 40) hG dX0_init_40 (by decide) ?_
  refine V.icmp_ge (pc := 42) (tgt := 64) hG (sR_l rfl) (sR_l rfl) dX0_init_42 (by decide) (fun c1 => absurd c1 (by decide)) (fun _ => ?_)
  refine V.aload_n (pc := 45) hG dX0_init_45 rfl 1 rfl ?_
  have f53 := (st_ne (by decide)).trans ((congrFun (fr_X3 124 (by decide)) _).trans (f52))
  refine V.getR (x := 68) (pc := 46) (ci := 2) (k := 0) (M := 5) (T := TX0) (o := 67) (kz := 0) hG (isA.of (by decide +kernel)) (by decide) (by decide) hin_X0 rfl (by decide) (by decide) rfl kw_402 rfl f53 (by decide) dX0_init_46 ?_
  refine V.iload_n (pc := 49) (x := 53) hG dX0_init_49 rfl 0 rfl ?_
  refine V.cnew (pc := 50) (ci := 5) (N := 13) (T := TX3) (ty := tyX3) hG hin_X3 rfl tyX3_ok kw_327 kw_329 kw_164 (by decide +kernel) (by decide) rfl defX3 z167.z ⟨by decide, by decide⟩ dX0_init_50 ?_
  refine V.nn (n2 := 126) rfl ?_
  have z168 := z167.up (m := 126) (by omega)
  refine V.dup (pc := 53) hG dX0_init_53 rfl ?_
  refine V.ccallN (pc := 54) (n2 := 126) hG (ct_X3 l Δ (125) (isA.of (by decide +kernel))  z168) mY_X3_init rfl kw_330 kw_331 ⟨by decide, by decide, by decide, by decide⟩ (by decide) dX0_init_54 ?_
  have z169 := zf_X3 125 z168
  refine V.caast 6 5 (pc := 57) (z := 96) (o := 68) (x := 53) (y := 125) hG (isA.of (by decide +kernel)) (by decide) (by decide) rfl (isA.of (by decide +kernel)) (by decide) (by decide) rfl (sR_l rfl) (by decide) (by decide) dX0_init_57 ?_
  have z170 := z169.sRf (o := 68) (kz := 53) (x := 125) (by decide)
  refine V.iinc (pc := 58) (x := 53) (lv' := [(1, .int (sJ 54)), (0, .ref (sA Δ 67))]) hG dX0_init_58 0 rfl (by decide) rfl ?_
  refine V.goto (pc := 61) (tgt := 39) hG dX0_init_61 (by decide) ?_
  refine V.iload_n (pc := 39) (x := 54) hG dX0_init_39 rfl 0 rfl ?_
  refine V.bipush (pc := 40) hG dX0_init_40 (by decide) ?_
  refine V.icmp_ge (pc := 42) (tgt := 64) hG (sR_l rfl) (sR_l rfl) dX0_init_42 (by decide) (fun c1 => absurd c1 (by decide)) (fun _ => ?_)
  refine V.aload_n (pc := 45) hG dX0_init_45 rfl 1 rfl ?_
  have f54 := (st_ne (by decide)).trans ((congrFun (fr_X3 125 (by decide)) _).trans (f53))
  refine V.getR (x := 68) (pc := 46) (ci := 2) (k := 0) (M := 5) (T := TX0) (o := 67) (kz := 0) hG (isA.of (by decide +kernel)) (by decide) (by decide) hin_X0 rfl (by decide) (by decide) rfl kw_402 rfl f54 (by decide) dX0_init_46 ?_
  refine V.iload_n (pc := 49) (x := 54) hG dX0_init_49 rfl 0 rfl ?_
  refine V.cnew (pc := 50) (ci := 5) (N := 13) (T := TX3) (ty := tyX3) hG hin_X3 rfl tyX3_ok kw_327 kw_329 kw_164 (by decide +kernel) (by decide) rfl defX3 z170.z ⟨by decide, by decide⟩ dX0_init_50 ?_
  refine V.nn (n2 := 127) rfl ?_
  have z171 := z170.up (m := 127) (by omega)
  refine V.dup (pc := 53) hG dX0_init_53 rfl ?_
  refine V.ccallN (pc := 54) (n2 := 127) hG (ct_X3 l Δ (126) (isA.of (by decide +kernel))  z171) mY_X3_init rfl kw_330 kw_331 ⟨by decide, by decide, by decide, by decide⟩ (by decide) dX0_init_54 ?_
  have z172 := zf_X3 126 z171
  refine V.caast 6 5 (pc := 57) (z := 96) (o := 68) (x := 54) (y := 126) hG (isA.of (by decide +kernel)) (by decide) (by decide) rfl (isA.of (by decide +kernel)) (by decide) (by decide) rfl (sR_l rfl) (by decide) (by decide) dX0_init_57 ?_
  have z173 := z172.sRf (o := 68) (kz := 54) (x := 126) (by decide)
  refine V.iinc (pc := 58) (x := 54) (lv' := [(1, .int (sJ 55)), (0, .ref (sA Δ 67))]) hG dX0_init_58 0 rfl (by decide) rfl ?_
  refine V.goto (pc := 61) (tgt := 39) hG dX0_init_61 (by decide) ?_
  refine V.iload_n (pc := 39) (x := 55) hG dX0_init_39 rfl 0 rfl ?_
  refine V.bipush (pc := 40) hG dX0_init_40 (by decide) ?_
  refine V.icmp_ge (pc := 42) (tgt := 64) hG (sR_l rfl) (sR_l rfl) dX0_init_42 (by decide) (fun c1 => absurd c1 (by decide)) (fun _ => ?_)
  refine V.aload_n (pc := 45) hG dX0_init_45 rfl 1 rfl ?_
  have f55 := (st_ne (by decide)).trans ((congrFun (fr_X3 126 (by decide)) _).trans (f54))
  refine V.getR (x := 68) (pc := 46) (ci := 2) (k := 0) (M := 5) (T := TX0) (o := 67) (kz := 0) hG (isA.of (by decide +kernel)) (by decide) (by decide) hin_X0 rfl (by decide) (by decide) rfl kw_402 rfl f55 (by decide) dX0_init_46 ?_
  refine V.iload_n (pc := 49) (x := 55) hG dX0_init_49 rfl 0 rfl ?_
  refine V.cnew (pc := 50) (ci := 5) (N := 13) (T := TX3) (ty := tyX3) hG hin_X3 rfl tyX3_ok kw_327 kw_329 kw_164 (by decide +kernel) (by decide) rfl defX3 z173.z ⟨by decide, by decide⟩ dX0_init_50 ?_
  refine V.nn (n2 := 128) rfl ?_
  have z174 := z173.up (m := 128) (by omega)
  refine V.dup (pc := 53) hG dX0_init_53 rfl ?_
  refine V.ccallN (pc := 54) (n2 := 128) hG (ct_X3 l Δ (127) (isA.of (by decide +kernel))  z174) mY_X3_init rfl kw_330 kw_331 ⟨by decide, by decide, by decide, by decide⟩ (by decide) dX0_init_54 ?_
  have z175 := zf_X3 127 z174
  refine V.caast 6 5 (pc := 57) (z := 96) (o := 68) (x := 55) (y := 127) hG (isA.of (by decide +kernel)) (by decide) (by decide) rfl (isA.of (by decide +kernel)) (by decide) (by decide) rfl (sR_l rfl) (by decide) (by decide) dX0_init_57 ?_
  have z176 := z175.sRf (o := 68) (kz := 55) (x := 127) (by decide)
  refine V.iinc (pc := 58) (x := 55) (lv' := [(1, .int (sJ 56)), (0, .ref (sA Δ 67))]) hG dX0_init_58 0 rfl (by decide) rfl ?_
  refine V.goto (pc := 61) (tgt := 39) hG dX0_init_61 (by decide) ?_
  refine V.iload_n (pc := 39) (x := 56) hG dX0_init_39 rfl 0 rfl ?_
  refine V.bipush (pc := 40) hG dX0_init_40 (by decide) ?_
  refine V.icmp_ge (pc := 42) (tgt := 64) hG (sR_l rfl) (sR_l rfl) dX0_init_42 (by decide) (fun c1 => absurd c1 (by decide)) (fun _ => ?_)
  refine V.aload_n (pc := 45) hG dX0_init_45 rfl 1 rfl ?_
  have f56 := (st_ne (by decide)).trans ((congrFun (fr_X3 127 (by decide)) _).trans (f55))
  refine V.getR (x := 68) (pc := 46) (ci := 2) (k := 0) (M := 5) (T := TX0) (o := 67) (kz := 0) hG (isA.of (by decide +kernel)) (by decide) (by decide) hin_X0 rfl (by decide) (by decide) rfl kw_402 rfl f56 (by decide) dX0_init_46 ?_
  refine V.iload_n (pc := 49) (x := 56) hG dX0_init_49 rfl 0 rfl ?_
  refine V.cnew (pc := 50) (ci := 5) (N := 13) (T := TX3) (ty := tyX3) hG hin_X3 rfl tyX3_ok kw_327 kw_329 kw_164 (by decide +kernel) (by decide) rfl defX3 z176.z ⟨by decide, by decide⟩ dX0_init_50 ?_
  refine V.nn (n2 := 129) rfl ?_
  have z177 := z176.up (m := 129) (by omega)
  refine V.dup (pc := 53) hG dX0_init_53 rfl ?_
  refine V.ccallN (pc := 54) (n2 := 129) hG (ct_X3 l Δ (128) (isA.of (by decide +kernel))  z177) mY_X3_init rfl kw_330 kw_331 ⟨by decide, by decide, by decide, by decide⟩ (by decide) dX0_init_54 ?_
  have z178 := zf_X3 128 z177
  refine V.caast 6 5 (pc := 57) (z := 96) (o := 68) (x := 56) (y := 128) hG (isA.of (by decide +kernel)) (by decide) (by decide) rfl (isA.of (by decide +kernel)) (by decide) (by decide) rfl (sR_l rfl) (by decide) (by decide) dX0_init_57 ?_
  have z179 := z178.sRf (o := 68) (kz := 56) (x := 128) (by decide)
  refine V.iinc (pc := 58) (x := 56) (lv' := [(1, .int (sJ 57)), (0, .ref (sA Δ 67))]) hG dX0_init_58 0 rfl (by decide) rfl ?_
  refine V.goto (pc := 61) (tgt := 39) hG dX0_init_61 (by decide) ?_
  refine V.iload_n (pc := 39) (x := 57) hG dX0_init_39 rfl 0 rfl ?_
  refine V.bipush (pc := 40) hG dX0_init_40 (by decide) ?_
  refine V.icmp_ge (pc := 42) (tgt := 64) hG (sR_l rfl) (sR_l rfl) dX0_init_42 (by decide) (fun c1 => absurd c1 (by decide)) (fun _ => ?_)
  refine V.aload_n (pc := 45) hG dX0_init_45 rfl 1 rfl ?_
  have f57 := (st_ne (by decide)).trans ((congrFun (fr_X3 128 (by decide)) _).trans (f56))
  refine V.getR (x := 68) (pc := 46) (ci := 2) (k := 0) (M := 5) (T := TX0) (o := 67) (kz := 0) hG (isA.of (by decide +kernel)) (by decide) (by decide) hin_X0 rfl (by decide) (by decide) rfl kw_402 rfl f57 (by decide) dX0_init_46 ?_
  refine V.iload_n (pc := 49) (x := 57) hG dX0_init_49 rfl 0 rfl ?_
  refine V.cnew (pc := 50) (ci := 5) (N := 13) (T := TX3) (ty := tyX3) hG hin_X3 rfl tyX3_ok kw_327 kw_329 kw_164 (by decide +kernel) (by decide) rfl defX3 z179.z ⟨by decide, by decide⟩ dX0_init_50 ?_
  refine V.nn (n2 := 130) rfl ?_
  have z180 := z179.up (m := 130) (by omega)
  refine V.dup (pc := 53) hG dX0_init_53 rfl ?_
  refine V.ccallN (pc := 54) (n2 := 130) hG (ct_X3 l Δ (129) (isA.of (by decide +kernel))  z180) mY_X3_init rfl kw_330 kw_331 ⟨by decide, by decide, by decide, by decide⟩ (by decide) dX0_init_54 ?_
  have z181 := zf_X3 129 z180
  refine V.caast 6 5 (pc := 57) (z := 96) (o := 68) (x := 57) (y := 129) hG (isA.of (by decide +kernel)) (by decide) (by decide) rfl (isA.of (by decide +kernel)) (by decide) (by decide) rfl (sR_l rfl) (by decide) (by decide) dX0_init_57 ?_
  have z182 := z181.sRf (o := 68) (kz := 57) (x := 129) (by decide)
  refine V.iinc (pc := 58) (x := 57) (lv' := [(1, .int (sJ 58)), (0, .ref (sA Δ 67))]) hG dX0_init_58 0 rfl (by decide) rfl ?_
  refine V.goto (pc := 61) (tgt := 39) hG dX0_init_61 (by decide) ?_
  refine V.iload_n (pc := 39) (x := 58) hG dX0_init_39 rfl 0 rfl ?_
  refine V.bipush (pc := 40) hG dX0_init_40 (by decide) ?_
  refine V.icmp_ge (pc := 42) (tgt := 64) hG (sR_l rfl) (sR_l rfl) dX0_init_42 (by decide) (fun c1 => absurd c1 (by decide)) (fun _ => ?_)
  refine V.aload_n (pc := 45) hG dX0_init_45 rfl 1 rfl ?_
  have f58 := (st_ne (by decide)).trans ((congrFun (fr_X3 129 (by decide)) _).trans (f57))
  refine V.getR (x := 68) (pc := 46) (ci := 2) (k := 0) (M := 5) (T := TX0) (o := 67) (kz := 0) hG (isA.of (by decide +kernel)) (by decide) (by decide) hin_X0 rfl (by decide) (by decide) rfl kw_402 rfl f58 (by decide) dX0_init_46 ?_
  refine V.iload_n (pc := 49) (x := 58) hG dX0_init_49 rfl 0 rfl ?_
  refine V.cnew (pc := 50) (ci := 5) (N := 13) (T := TX3) (ty := tyX3) hG hin_X3 rfl tyX3_ok kw_327 kw_329 kw_164 (by decide +kernel) (by decide) rfl defX3 z182.z ⟨by decide, by decide⟩ dX0_init_50 ?_
  refine V.nn (n2 := 131) rfl ?_
  have z183 := z182.up (m := 131) (by omega)
  refine V.dup (pc := 53) hG dX0_init_53 rfl ?_
  refine V.ccallN (pc := 54) (n2 := 131) hG (ct_X3 l Δ (130) (isA.of (by decide +kernel))  z183) mY_X3_init rfl kw_330 kw_331 ⟨by decide, by decide, by decide, by decide⟩ (by decide) dX0_init_54 ?_
  have z184 := zf_X3 130 z183
  refine V.caast 6 5 (pc := 57) (z := 96) (o := 68) (x := 58) (y := 130) hG (isA.of (by decide +kernel)) (by decide) (by decide) rfl (isA.of (by decide +kernel)) (by decide) (by decide) rfl (sR_l rfl) (by decide) (by decide) dX0_init_57 ?_
  have z185 := z184.sRf (o := 68) (kz := 58) (x := 130) (by decide)
  refine V.iinc (pc := 58) (x := 58) (lv' := [(1, .int (sJ 59)), (0, .ref (sA Δ 67))]) hG dX0_init_58 0 rfl (by decide) rfl ?_
  refine V.goto (pc := 61) (tgt := 39) hG dX0_init_61 (by decide) ?_
  refine V.iload_n (pc := 39) (x := 59) hG dX0_init_39 rfl 0 rfl ?_
  refine V.bipush (pc := 40) hG dX0_init_40 (by decide) ?_
  refine V.icmp_ge (pc := 42) (tgt := 64) hG (sR_l rfl) (sR_l rfl) dX0_init_42 (by decide) (fun c1 => absurd c1 (by decide)) (fun _ => ?_)
  refine V.aload_n (pc := 45) hG dX0_init_45 rfl 1 rfl ?_
  have f59 := (st_ne (by decide)).trans ((congrFun (fr_X3 130 (by decide)) _).trans (f58))
  refine V.getR (x := 68) (pc := 46) (ci := 2) (k := 0) (M := 5) (T := TX0) (o := 67) (kz := 0) hG (isA.of (by decide +kernel)) (by decide) (by decide) hin_X0 rfl (by decide) (by decide) rfl kw_402 rfl f59 (by decide) dX0_init_46 ?_
  refine V.iload_n (pc := 49) (x := 59) hG dX0_init_49 rfl 0 rfl ?_
  refine V.cnew (pc := 50) (ci := 5) (N := 13) (T := TX3) (ty := tyX3) hG hin_X3 rfl tyX3_ok kw_327 kw_329 kw_164 (by decide +kernel) (by decide) rfl defX3 z185.z ⟨by decide, by decide⟩ dX0_init_50 ?_
  refine V.nn (n2 := 132) rfl ?_
  have z186 := z185.up (m := 132) (by omega)
  refine V.dup (pc := 53) hG dX0_init_53 rfl ?_
  refine V.ccallN (pc := 54) (n2 := 132) hG (ct_X3 l Δ (131) (isA.of (by decide +kernel))  z186) mY_X3_init rfl kw_330 kw_331 ⟨by decide, by decide, by decide, by decide⟩ (by decide) dX0_init_54 ?_
  have z187 := zf_X3 131 z186
  refine V.caast 6 5 (pc := 57) (z := 96) (o := 68) (x := 59) (y := 131) hG (isA.of (by decide +kernel)) (by decide) (by decide) rfl (isA.of (by decide +kernel)) (by decide) (by decide) rfl (sR_l rfl) (by decide) (by decide) dX0_init_57 ?_
  have z188 := z187.sRf (o := 68) (kz := 59) (x := 131) (by decide)
  refine V.iinc (pc := 58) (x := 59) (lv' := [(1, .int (sJ 60)), (0, .ref (sA Δ 67))]) hG dX0_init_58 0 rfl (by decide) rfl ?_
  refine V.goto (pc := 61) (tgt := 39) hG dX0_init_61 (by decide) ?_
  refine V.iload_n (pc := 39) (x := 60) hG dX0_init_39 rfl 0 rfl ?_
  refine V.bipush (pc := 40) hG dX0_init_40 (by decide) ?_
  refine V.icmp_ge (pc := 42) (tgt := 64) hG (sR_l rfl) (sR_l rfl) dX0_init_42 (by decide) (fun c1 => absurd c1 (by decide)) (fun _ => ?_)
  refine V.aload_n (pc := 45) hG dX0_init_45 rfl 1 rfl ?_
  have f60 := (st_ne (by decide)).trans ((congrFun (fr_X3 131 (by decide)) _).trans (f59))
  refine V.getR (x := 68) (pc := 46) (ci := 2) (k := 0) (M := 5) (T := TX0) (o := 67) (kz := 0) hG (isA.of (by decide +kernel)) (by decide) (by decide) hin_X0 rfl (by decide) (by decide) rfl kw_402 rfl f60 (by decide) dX0_init_46 ?_
  refine V.iload_n (pc := 49) (x := 60) hG dX0_init_49 rfl 0 rfl ?_
  refine V.cnew (pc := 50) (ci := 5) (N := 13) (T := TX3) (ty := tyX3) hG hin_X3 rfl tyX3_ok kw_327 kw_329 kw_164 (by decide +kernel) (by decide) rfl defX3 z188.z ⟨by decide, by decide⟩ dX0_init_50 ?_
  refine V.nn (n2 := 133) rfl ?_
  have z189 := z188.up (m := 133) (by omega)
  refine V.dup (pc := 53) hG dX0_init_53 rfl ?_
  refine V.ccallN (pc := 54) (n2 := 133) hG (ct_X3 l Δ (132) (isA.of (by decide +kernel))  z189) mY_X3_init rfl kw_330 kw_331 ⟨by decide, by decide, by decide, by decide⟩ (by decide) dX0_init_54 ?_
  have z190 := zf_X3 132 z189
  refine V.caast 6 5 (pc := 57) (z := 96) (o := 68) (x := 60) (y := 132) hG (isA.of (by decide +kernel)) (by decide) (by decide) rfl (isA.of (by decide +kernel)) (by decide) (by decide) rfl (sR_l rfl) (by decide) (by decide) dX0_init_57 ?_
  have z191 := z190.sRf (o := 68) (kz := 60) (x := 132) (by decide)
  refine V.iinc (pc := 58) (x := 60) (lv' := [(1, .int (sJ 61)), (0, .ref (sA Δ 67))]) hG dX0_init_58 0 rfl (by decide) rfl ?_
  refine V.goto (pc := 61) (tgt := 39) hG dX0_init_61 (by decide) ?_
  refine V.iload_n (pc := 39) (x := 61) hG dX0_init_39 rfl 0 rfl ?_
  refine V.bipush (pc := 40) hG dX0_init_40 (by decide) ?_
  refine V.icmp_ge (pc := 42) (tgt := 64) hG (sR_l rfl) (sR_l rfl) dX0_init_42 (by decide) (fun c1 => absurd c1 (by decide)) (fun _ => ?_)
  refine V.aload_n (pc := 45) hG dX0_init_45 rfl 1 rfl ?_
  have f61 := (st_ne (by decide)).trans ((congrFun (fr_X3 132 (by decide)) _).trans (f60))
  refine V.getR (x := 68) (pc := 46) (ci := 2) (k := 0) (M := 5) (T := TX0) (o := 67) (kz := 0) hG (isA.of (by decide +kernel)) (by decide) (by decide) hin_X0 rfl (by decide) (by decide) rfl kw_402 rfl f61 (by decide) dX0_init_46 ?_
  refine V.iload_n (pc := 49) (x := 61) hG dX0_init_49 rfl 0 rfl ?_
  refine V.cnew (pc := 50) (ci := 5) (N := 13) (T := TX3) (ty := tyX3) hG hin_X3 rfl tyX3_ok kw_327 kw_329 kw_164 (by decide +kernel) (by decide) rfl defX3 z191.z ⟨by decide, by decide⟩ dX0_init_50 ?_
  refine V.nn (n2 := 134) rfl ?_
  have z192 := z191.up (m := 134) (by omega)
  refine V.dup (pc := 53) hG dX0_init_53 rfl ?_
  refine V.ccallN (pc := 54) (n2 := 134) hG (ct_X3 l Δ (133) (isA.of (by decide +kernel))  z192) mY_X3_init rfl kw_330 kw_331 ⟨by decide, by decide, by decide, by decide⟩ (by decide) dX0_init_54 ?_
  have z193 := zf_X3 133 z192
  refine V.caast 6 5 (pc := 57) (z := 96) (o := 68) (x := 61) (y := 133) hG (isA.of (by decide +kernel)) (by decide) (by decide) rfl (isA.of (by decide +kernel)) (by decide) (by decide) rfl (sR_l rfl) (by decide) (by decide) dX0_init_57 ?_
  have z194 := z193.sRf (o := 68) (kz := 61) (x := 133) (by decide)
  refine V.iinc (pc := 58) (x := 61) (lv' := [(1, .int (sJ 62)), (0, .ref (sA Δ 67))]) hG dX0_init_58 0 rfl (by decide) rfl ?_
  refine V.goto (pc := 61) (tgt := 39) hG dX0_init_61 (by decide) ?_
  refine V.iload_n (pc := 39) (x := 62) hG dX0_init_39 rfl 0 rfl ?_
  refine V.bipush (pc := 40) hG dX0_init_40 (by decide) ?_
  refine V.icmp_ge (pc := 42) (tgt := 64) hG (sR_l rfl) (sR_l rfl) dX0_init_42 (by decide) (fun c1 => absurd c1 (by decide)) (fun _ => ?_)
  refine V.aload_n (pc := 45) hG dX0_init_45 rfl 1 rfl ?_
  have f62 := (st_ne (by decide)).trans ((congrFun (fr_X3 133 (by decide)) _).trans (f61))
  refine V.getR (x := 68) (pc := 46) (ci := 2) (k := 0) (M := 5) (T := TX0) (o := 67) (kz := 0) hG (isA.of (by decide +kernel)) (by decide) (by decide) hin_X0 rfl (by decide) (by decide) rfl kw_402 rfl f62 (by decide) dX0_init_46 ?_
  refine V.iload_n (pc := 49) (x := 62) hG dX0_init_49 rfl 0 rfl ?_
  refine V.cnew (pc := 50) (ci := 5) (N := 13) (T := TX3) (ty := tyX3) hG hin_X3 rfl tyX3_ok kw_327 kw_329 kw_164 (by decide +kernel) (by decide) rfl defX3 z194.z ⟨by decide, by decide⟩ dX0_init_50 ?_
  refine V.nn (n2 := 135) rfl ?_
  have z195 := z194.up (m := 135) (by omega)
  refine V.dup (pc := 53) hG dX0_init_53 rfl ?_
  refine V.ccallN (pc := 54) (n2 := 135) hG (ct_X3 l Δ (134) (isA.of (by decide +kernel))  z195) mY_X3_init rfl kw_330 kw_331 ⟨by decide, by decide, by decide, by decide⟩ (by decide) dX0_init_54 ?_
  have z196 := zf_X3 134 z195
  refine V.caast 6 5 (pc := 57) (z := 96) (o := 68) (x := 62) (y := 134) hG (isA.of (by decide +kernel)) (by decide) (by decide) rfl (isA.of (by decide +kernel)) (by decide) (by decide) rfl (sR_l rfl) (by decide) (by decide) dX0_init_57 ?_
  have z197 := z196.sRf (o := 68) (kz := 62) (x := 134) (by decide)
  refine V.iinc (pc := 58) (x := 62) (lv' := [(1, .int (sJ 63)), (0, .ref (sA Δ 67))]) hG dX0_init_58 0 rfl (by decide) rfl ?_
  refine V.goto (pc := 61) (tgt := 39) hG dX0_init_61 (by decide) ?_
  refine V.iload_n (pc := 39) (x := 63) hG dX0_init_39 rfl 0 rfl ?_
  refine V.bipush (pc := 40) hG dX0_init_40 (by decide) ?_
  refine V.icmp_ge (pc := 42) (tgt := 64) hG (sR_l rfl) (sR_l rfl) dX0_init_42 (by decide) (fun c1 => absurd c1 (by decide)) (fun _ => ?_)
  refine V.aload_n (pc := 45) hG dX0_init_45 rfl 1 rfl ?_
  have f63 := (st_ne (by decide)).trans ((congrFun (fr_X3 134 (by decide)) _).trans (f62))
  refine V.getR (x := 68) (pc := 46) (ci := 2) (k := 0) (M := 5) (T := TX0) (o := 67) (kz := 0) hG (isA.of (by decide +kernel)) (by decide) (by decide) hin_X0 rfl (by decide) (by decide) rfl kw_402 rfl f63 (by decide) dX0_init_46 ?_
  refine V.iload_n (pc := 49) (x := 63) hG dX0_init_49 rfl 0 rfl ?_
  refine V.cnew (pc := 50) (ci := 5) (N := 13) (T := TX3) (ty := tyX3) hG hin_X3 rfl tyX3_ok kw_327 kw_329 kw_164 (by decide +kernel) (by decide) rfl defX3 z197.z ⟨by decide, by decide⟩ dX0_init_50 ?_
  refine V.nn (n2 := 136) rfl ?_
  have z198 := z197.up (m := 136) (by omega)
  refine V.dup (pc := 53) hG dX0_init_53 rfl ?_
  refine V.ccallN (pc := 54) (n2 := 136) hG (ct_X3 l Δ (135) (isA.of (by decide +kernel))  z198) mY_X3_init rfl kw_330 kw_331 ⟨by decide, by decide, by decide, by decide⟩ (by decide) dX0_init_54 ?_
  have z199 := zf_X3 135 z198
  refine V.caast 6 5 (pc := 57) (z := 96) (o := 68) (x := 63) (y := 135) hG (isA.of (by decide +kernel)) (by decide) (by decide) rfl (isA.of (by decide +kernel)) (by decide) (by decide) rfl (sR_l rfl) (by decide) (by decide) dX0_init_57 ?_
  have z200 := z199.sRf (o := 68) (kz := 63) (x := 135) (by decide)
  refine V.iinc (pc := 58) (x := 63) (lv' := [(1, .int (sJ 64)), (0, .ref (sA Δ 67))]) hG dX0_init_58 0 rfl (by decide) rfl ?_
  refine V.goto (pc := 61) (tgt := 39) hG dX0_init_61 (by decide) ?_
  refine V.iload_n (pc := 39) (x := 64) hG dX0_init_39 rfl 0 rfl ?_
  refine V.bipush (pc := 40) hG dX0_init_40 (by decide) ?_
  refine V.icmp_ge (pc := 42) (tgt := 64) hG (sR_l rfl) (sR_l rfl) dX0_init_42 (by decide) (fun c1 => absurd c1 (by decide)) (fun _ => ?_)
  refine V.aload_n (pc := 45) hG dX0_init_45 rfl 1 rfl ?_
  have f64 := (st_ne (by decide)).trans ((congrFun (fr_X3 135 (by decide)) _).trans (f63))
  refine V.getR (x := 68) (pc := 46) (ci := 2) (k := 0) (M := 5) (T := TX0) (o := 67) (kz := 0) hG (isA.of (by decide +kernel)) (by decide) (by decide) hin_X0 rfl (by decide) (by decide) rfl kw_402 rfl f64 (by decide) dX0_init_46 ?_
  refine V.iload_n (pc := 49) (x := 64) hG dX0_init_49 rfl 0 rfl ?_
  refine V.cnew (pc := 50) (ci := 5) (N := 13) (T := TX3) (ty := tyX3) hG hin_X3 rfl tyX3_ok kw_327 kw_329 kw_164 (by decide +kernel) (by decide) rfl defX3 z200.z ⟨by decide, by decide⟩ dX0_init_50 ?_
  refine V.nn (n2 := 137) rfl ?_
  have z201 := z200.up (m := 137) (by omega)
  refine V.dup (pc := 53) hG dX0_init_53 rfl ?_
  refine V.ccallN (pc := 54) (n2 := 137) hG (ct_X3 l Δ (136) (isA.of (by decide +kernel))  z201) mY_X3_init rfl kw_330 kw_331 ⟨by decide, by decide, by decide, by decide⟩ (by decide) dX0_init_54 ?_
  have z202 := zf_X3 136 z201
  refine V.caast 6 5 (pc := 57) (z := 96) (o := 68) (x := 64) (y := 136) hG (isA.of (by decide +kernel)) (by decide) (by decide) rfl (isA.of (by decide +kernel)) (by decide) (by decide) rfl (sR_l rfl) (by decide) (by decide) dX0_init_57 ?_
  have z203 := z202.sRf (o := 68) (kz := 64) (x := 136) (by decide)
  refine V.iinc (pc := 58) (x := 64) (lv' := [(1, .int (sJ 65)), (0, .ref (sA Δ 67))]) hG dX0_init_58 0 rfl (by decide) rfl ?_
  refine V.goto (pc := 61) (tgt := 39) hG dX0_init_61 (by decide) ?_
  refine V.iload_n (pc := 39) (x := 65) hG dX0_init_39 rfl 0 rfl ?_
  refine V.bipush (pc := 40) hG dX0_init_40 (by decide) ?_
  refine V.icmp_ge (pc := 42) (tgt := 64) hG (sR_l rfl) (sR_l rfl) dX0_init_42 (by decide) (fun c1 => absurd c1 (by decide)) (fun _ => ?_)
  refine V.aload_n (pc := 45) hG dX0_init_45 rfl 1 rfl ?_
  have f65 := (st_ne (by decide)).trans ((congrFun (fr_X3 136 (by decide)) _).trans (f64))
  refine V.getR (x := 68) (pc := 46) (ci := 2) (k := 0) (M := 5) (T := TX0) (o := 67) (kz := 0) hG (isA.of (by decide +kernel)) (by decide) (by decide) hin_X0 rfl (by decide) (by decide) rfl kw_402 rfl f65 (by decide) dX0_init_46 ?_
  refine V.iload_n (pc := 49) (x := 65) hG dX0_init_49 rfl 0 rfl ?_
  refine V.cnew (pc := 50) (ci := 5) (N := 13) (T := TX3) (ty := tyX3) hG hin_X3 rfl tyX3_ok kw_327 kw_329 kw_164 (by decide +kernel) (by decide) rfl defX3 z203.z ⟨by decide, by decide⟩ dX0_init_50 ?_
  refine V.nn (n2 := 138) rfl ?_
  have z204 := z203.up (m := 138) (by omega)
  refine V.dup (pc := 53) hG dX0_init_53 rfl ?_
  refine V.ccallN (pc := 54) (n2 := 138) hG (ct_X3 l Δ (137) (isA.of (by decide +kernel))  z204) mY_X3_init rfl kw_330 kw_331 ⟨by decide, by decide, by decide, by decide⟩ (by decide) dX0_init_54 ?_
  have z205 := zf_X3 137 z204
  refine V.caast 6 5 (pc := 57) (z := 96) (o := 68) (x := 65) (y := 137) hG (isA.of (by decide +kernel)) (by decide) (by decide) rfl (isA.of (by decide +kernel)) (by decide) (by decide) rfl (sR_l rfl) (by decide) (by decide) dX0_init_57 ?_
  have z206 := z205.sRf (o := 68) (kz := 65) (x := 137) (by decide)
  refine V.iinc (pc := 58) (x := 65) (lv' := [(1, .int (sJ 66)), (0, .ref (sA Δ 67))]) hG dX0_init_58 0 rfl (by decide) rfl ?_
  refine V.goto (pc := 61) (tgt := 39) hG dX0_init_61 (by decide) ?_
  refine V.iload_n (pc := 39) (x := 66) hG dX0_init_39 rfl 0 rfl ?_
  refine V.bipush (pc := 40) hG dX0_init_40 (by decide) ?_
  refine V.icmp_ge (pc := 42) (tgt := 64) hG (sR_l rfl) (sR_l rfl) dX0_init_42 (by decide) (fun c1 => absurd c1 (by decide)) (fun _ => ?_)
  refine V.aload_n (pc := 45) hG dX0_init_45 rfl 1 rfl ?_
  have f66 := (st_ne (by decide)).trans ((congrFun (fr_X3 137 (by decide)) _).trans (f65))
  refine V.getR (x := 68) (pc := 46) (ci := 2) (k := 0) (M := 5) (T := TX0) (o := 67) (kz := 0) hG (isA.of (by decide +kernel)) (by decide) (by decide) hin_X0 rfl (by decide) (by decide) rfl kw_402 rfl f66 (by decide) dX0_init_46 ?_
  refine V.iload_n (pc := 49) (x := 66) hG dX0_init_49 rfl 0 rfl ?_
  refine V.cnew (pc := 50) (ci := 5) (N := 13) (T := TX3) (ty := tyX3) hG hin_X3 rfl tyX3_ok kw_327 kw_329 kw_164 (by decide +kernel) (by decide) rfl defX3 z206.z ⟨by decide, by decide⟩ dX0_init_50 ?_
  refine V.nn (n2 := 139) rfl ?_
  have z207 := z206.up (m := 139) (by omega)
  refine V.dup (pc := 53) hG dX0_init_53 rfl ?_
  refine V.ccallN (pc := 54) (n2 := 139) hG (ct_X3 l Δ (138) (isA.of (by decide +kernel))  z207) mY_X3_init rfl kw_330 kw_331 ⟨by decide, by decide, by decide, by decide⟩ (by decide) dX0_init_54 ?_
  have z208 := zf_X3 138 z207
  refine V.caast 6 5 (pc := 57) (z := 96) (o := 68) (x := 66) (y := 138) hG (isA.of (by decide +kernel)) (by decide) (by decide) rfl (isA.of (by decide +kernel)) (by decide) (by decide) rfl (sR_l rfl) (by decide) (by decide) dX0_init_57 ?_
  have z209 := z208.sRf (o := 68) (kz := 66) (x := 138) (by decide)
  refine V.iinc (pc := 58) (x := 66) (lv' := [(1, .int (sJ 67)), (0, .ref (sA Δ 67))]) hG dX0_init_58 0 rfl (by decide) rfl ?_
  refine V.goto (pc := 61) (tgt := 39) hG dX0_init_61 (by decide) ?_
  refine V.iload_n (pc := 39) (x := 67) hG dX0_init_39 rfl 0 rfl ?_
  refine V.bipush (pc := 40) hG dX0_init_40 (by decide) ?_
  refine V.icmp_ge (pc := 42) (tgt := 64) hG (sR_l rfl) (sR_l rfl) dX0_init_42 (by decide) (fun c1 => absurd c1 (by decide)) (fun _ => ?_)
  refine V.aload_n (pc := 45) hG dX0_init_45 rfl 1 rfl ?_
  have f67 := (st_ne (by decide)).trans ((congrFun (fr_X3 138 (by decide)) _).trans (f66))
  refine V.getR (x := 68) (pc := 46) (ci := 2) (k := 0) (M := 5) (T := TX0) (o := 67) (kz := 0) hG (isA.of (by decide +kernel)) (by decide) (by decide) hin_X0 rfl (by decide) (by decide) rfl kw_402 rfl f67 (by decide) dX0_init_46 ?_
  refine V.iload_n (pc := 49) (x := 67) hG dX0_init_49 rfl 0 rfl ?_
  refine V.cnew (pc := 50) (ci := 5) (N := 13) (T := TX3) (ty := tyX3) hG hin_X3 rfl tyX3_ok kw_327 kw_329 kw_164 (by decide +kernel) (by decide) rfl defX3 z209.z ⟨by decide, by decide⟩ dX0_init_50 ?_
  refine V.nn (n2 := 140) rfl ?_
  have z210 := z209.up (m := 140) (by omega)
  refine V.dup (pc := 53) hG dX0_init_53 rfl ?_
  refine V.ccallN (pc := 54) (n2 := 140) hG (ct_X3 l Δ (139) (isA.of (by decide +kernel))  z210) mY_X3_init rfl kw_330 kw_331 ⟨by decide, by decide, by decide, by decide⟩ (by decide) dX0_init_54 ?_
  have z211 := zf_X3 139 z210
  refine V.caast 6 5 (pc := 57) (z := 96) (o := 68) (x := 67) (y := 139) hG (isA.of (by decide +kernel)) (by decide) (by decide) rfl (isA.of (by decide +kernel)) (by decide) (by decide) rfl (sR_l rfl) (by decide) (by decide) dX0_init_57 ?_
  have z212 := z211.sRf (o := 68) (kz := 67) (x := 139) (by decide)
  refine V.iinc (pc := 58) (x := 67) (lv' := [(1, .int (sJ 68)), (0, .ref (sA Δ 67))]) hG dX0_init_58 0 rfl (by decide) rfl ?_
  refine V.goto (pc := 61) (tgt := 39) hG dX0_init_61 (by decide) ?_
  refine V.iload_n (pc := 39) (x := 68) hG dX0_init_39 rfl 0 rfl ?_
  refine V.bipush (pc := 40) hG dX0_init_40 (by decide) ?_
  refine V.icmp_ge (pc := 42) (tgt := 64) hG (sR_l rfl) (sR_l rfl) dX0_init_42 (by decide) (fun c1 => absurd c1 (by decide)) (fun _ => ?_)
  refine V.aload_n (pc := 45) hG dX0_init_45 rfl 1 rfl ?_
  have f68 := (st_ne (by decide)).trans ((congrFun (fr_X3 139 (by decide)) _).trans (f67))
  refine V.getR (x := 68) (pc := 46) (ci := 2) (k := 0) (M := 5) (T := TX0) (o := 67) (kz := 0) hG (isA.of (by decide +kernel)) (by decide) (by decide) hin_X0 rfl (by decide) (by decide) rfl kw_402 rfl f68 (by decide) dX0_init_46 ?_
  refine V.iload_n (pc := 49) (x := 68) hG dX0_init_49 rfl 0 rfl ?_
  refine V.cnew (pc := 50) (ci := 5) (N := 13) (T := TX3) (ty := tyX3) hG hin_X3 rfl tyX3_ok kw_327 kw_329 kw_164 (by decide +kernel) (by decide) rfl defX3 z212.z ⟨by decide, by decide⟩ dX0_init_50 ?_
  refine V.nn (n2 := 141) rfl ?_
  have z213 := z212.up (m := 141) (by omega)
  refine V.dup (pc := 53) hG dX0_init_53 rfl ?_
  refine V.ccallN (pc := 54) (n2 := 141) hG (ct_X3 l Δ (140) (isA.of (by decide +kernel))  z213) mY_X3_init rfl kw_330 kw_331 ⟨by decide, by decide, by decide, by decide⟩ (by decide) dX0_init_54 ?_
  have z214 := zf_X3 140 z213
  refine V.caast 6 5 (pc := 57) (z := 96) (o := 68) (x := 68) (y := 140) hG (isA.of (by decide +kernel)) (by decide) (by decide) rfl (isA.of (by decide +kernel)) (by decide) (by decide) rfl (sR_l rfl) (by decide) (by decide) dX0_init_57 ?_
  have z215 := z214.sRf (o := 68) (kz := 68) (x := 140) (by decide)
  refine V.iinc (pc := 58) (x := 68) (lv' := [(1, .int (sJ 69)), (0, .ref (sA Δ 67))]) hG dX0_init_58 0 rfl (by decide) rfl ?_
  refine V.goto (pc := 61) (tgt := 39) hG dX0_init_61 (by decide) ?_
  refine V.iload_n (pc := 39) (x := 69) hG dX0_init_39 rfl 0 rfl ?_
  refine V.bipush (pc := 40) hG dX0_init_40 (by decide) ?_
  refine V.icmp_ge (pc := 42) (tgt := 64) hG (sR_l rfl) (sR_l rfl) dX0_init_42 (by decide) (fun c1 => absurd c1 (by decide)) (fun _ => ?_)
  refine V.aload_n (pc := 45) hG dX0_init_45 rfl 1 rfl ?_
  have f69 := (st_ne (by decide)).trans ((congrFun (fr_X3 140 (by decide)) _).trans (f68))
  refine V.getR (x := 68) (pc := 46) (ci := 2) (k := 0) (M := 5) (T := TX0) (o := 67) (kz := 0) hG (isA.of (by decide +kernel)) (by decide) (by decide) hin_X0 rfl (by decide) (by decide) rfl kw_402 rfl f69 (by decide) dX0_init_46 ?_
  refine V.iload_n (pc := 49) (x := 69) hG dX0_init_49 rfl 0 rfl ?_
  refine V.cnew (pc := 50) (ci := 5) (N := 13) (T := TX3) (ty := tyX3) hG hin_X3 rfl tyX3_ok kw_327 kw_329 kw_164 (by decide +kernel) (by decide) rfl defX3 z215.z ⟨by decide, by decide⟩ dX0_init_50 ?_
  refine V.nn (n2 := 142) rfl ?_
  have z216 := z215.up (m := 142) (by omega)
  refine V.dup (pc := 53) hG dX0_init_53 rfl ?_
  refine V.ccallN (pc := 54) (n2 := 142) hG (ct_X3 l Δ (141) (isA.of (by decide +kernel))  z216) mY_X3_init rfl kw_330 kw_331 ⟨by decide, by decide, by decide, by decide⟩ (by decide) dX0_init_54 ?_
  have z217 := zf_X3 141 z216
  refine V.caast 6 5 (pc := 57) (z := 96) (o := 68) (x := 69) (y := 141) hG (isA.of (by decide +kernel)) (by decide) (by decide) rfl (isA.of (by decide +kernel)) (by decide) (by decide) rfl (sR_l rfl) (by decide) (by decide) dX0_init_57 ?_
  have z218 := z217.sRf (o := 68) (kz := 69) (x := 141) (by decide)
  refine V.iinc (pc := 58) (x := 69) (lv' := [(1, .int (sJ 70)), (0, .ref (sA Δ 67))]) hG dX0_init_58 0 rfl (by decide) rfl ?_
  refine V.goto (pc := 61) (tgt := 39) hG dX0_init_61 (by decide) ?_
  refine V.iload_n (pc := 39) (x := 70) hG dX0_init_39 rfl 0 rfl ?_
  refine V.bipush (pc := 40) hG dX0_init_40 (by decide) ?_
  refine V.icmp_ge (pc := 42) (tgt := 64) hG (sR_l rfl) (sR_l rfl) dX0_init_42 (by decide) (fun c1 => absurd c1 (by decide)) (fun _ => ?_)
  refine V.aload_n (pc := 45) hG dX0_init_45 rfl 1 rfl ?_
  have f70 := (st_ne (by decide)).trans ((congrFun (fr_X3 141 (by decide)) _).trans (f69))
  refine V.getR (x := 68) (pc := 46) (ci := 2) (k := 0) (M := 5) (T := TX0) (o := 67) (kz := 0) hG (isA.of (by decide +kernel)) (by decide) (by decide) hin_X0 rfl (by decide) (by decide) rfl kw_402 rfl f70 (by decide) dX0_init_46 ?_
  refine V.iload_n (pc := 49) (x := 70) hG dX0_init_49 rfl 0 rfl ?_
  refine V.cnew (pc := 50) (ci := 5) (N := 13) (T := TX3) (ty := tyX3) hG hin_X3 rfl tyX3_ok kw_327 kw_329 kw_164 (by decide +kernel) (by decide) rfl defX3 z218.z ⟨by decide, by decide⟩ dX0_init_50 ?_
  refine V.nn (n2 := 143) rfl ?_
  have z219 := z218.up (m := 143) (by omega)
  refine V.dup (pc := 53) hG dX0_init_53 rfl ?_
  refine V.ccallN (pc := 54) (n2 := 143) hG (ct_X3 l Δ (142) (isA.of (by decide +kernel))  z219) mY_X3_init rfl kw_330 kw_331 ⟨by decide, by decide, by decide, by decide⟩ (by decide) dX0_init_54 ?_
  have z220 := zf_X3 142 z219
  refine V.caast 6 5 (pc := 57) (z := 96) (o := 68) (x := 70) (y := 142) hG (isA.of (by decide +kernel)) (by decide) (by decide) rfl (isA.of (by decide +kernel)) (by decide) (by decide) rfl (sR_l rfl) (by decide) (by decide) dX0_init_57 ?_
  have z221 := z220.sRf (o := 68) (kz := 70) (x := 142) (by decide)
  refine V.iinc (pc := 58) (x := 70) (lv' := [(1, .int (sJ 71)), (0, .ref (sA Δ 67))]) hG dX0_init_58 0 rfl (by decide) rfl ?_
  refine V.goto (pc := 61) (tgt := 39) hG dX0_init_61 (by decide) ?_
  refine V.iload_n (pc := 39) (x := 71) hG dX0_init_39 rfl 0 rfl ?_
  refine V.bipush (pc := 40) hG dX0_init_40 (by decide) ?_
  refine V.icmp_ge (pc := 42) (tgt := 64) hG (sR_l rfl) (sR_l rfl) dX0_init_42 (by decide) (fun c1 => absurd c1 (by decide)) (fun _ => ?_)
  refine V.aload_n (pc := 45) hG dX0_init_45 rfl 1 rfl ?_
  have f71 := (st_ne (by decide)).trans ((congrFun (fr_X3 142 (by decide)) _).trans (f70))
  refine V.getR (x := 68) (pc := 46) (ci := 2) (k := 0) (M := 5) (T := TX0) (o := 67) (kz := 0) hG (isA.of (by decide +kernel)) (by decide) (by decide) hin_X0 rfl (by decide) (by decide) rfl kw_402 rfl f71 (by decide) dX0_init_46 ?_
  refine V.iload_n (pc := 49) (x := 71) hG dX0_init_49 rfl 0 rfl ?_
  refine V.cnew (pc := 50) (ci := 5) (N := 13) (T := TX3) (ty := tyX3) hG hin_X3 rfl tyX3_ok kw_327 kw_329 kw_164 (by decide +kernel) (by decide) rfl defX3 z221.z ⟨by decide, by decide⟩ dX0_init_50 ?_
  refine V.nn (n2 := 144) rfl ?_
  have z222 := z221.up (m := 144) (by omega)
  refine V.dup (pc := 53) hG dX0_init_53 rfl ?_
  refine V.ccallN (pc := 54) (n2 := 144) hG (ct_X3 l Δ (143) (isA.of (by decide +kernel))  z222) mY_X3_init rfl kw_330 kw_331 ⟨by decide, by decide, by decide, by decide⟩ (by decide) dX0_init_54 ?_
  have z223 := zf_X3 143 z222
  refine V.caast 6 5 (pc := 57) (z := 96) (o := 68) (x := 71) (y := 143) hG (isA.of (by decide +kernel)) (by decide) (by decide) rfl (isA.of (by decide +kernel)) (by decide) (by decide) rfl (sR_l rfl) (by decide) (by decide) dX0_init_57 ?_
  have z224 := z223.sRf (o := 68) (kz := 71) (x := 143) (by decide)
  refine V.iinc (pc := 58) (x := 71) (lv' := [(1, .int (sJ 72)), (0, .ref (sA Δ 67))]) hG dX0_init_58 0 rfl (by decide) rfl ?_
  refine V.goto (pc := 61) (tgt := 39) hG dX0_init_61 (by decide) ?_
  refine V.iload_n (pc := 39) (x := 72) hG dX0_init_39 rfl 0 rfl ?_
  refine V.bipush (pc := 40) hG dX0_init_40 (by decide) ?_
  refine V.icmp_ge (pc := 42) (tgt := 64) hG (sR_l rfl) (sR_l rfl) dX0_init_42 (by decide) (fun c1 => absurd c1 (by decide)) (fun _ => ?_)
  refine V.aload_n (pc := 45) hG dX0_init_45 rfl 1 rfl ?_
  have f72 := (st_ne (by decide)).trans ((congrFun (fr_X3 143 (by decide)) _).trans (f71))
  refine V.getR (x := 68) (pc := 46) (ci := 2) (k := 0) (M := 5) (T := TX0) (o := 67) (kz := 0) hG (isA.of (by decide +kernel)) (by decide) (by decide) hin_X0 rfl (by decide) (by decide) rfl kw_402 rfl f72 (by decide) dX0_init_46 ?_
  refine V.iload_n (pc := 49) (x := 72) hG dX0_init_49 rfl 0 rfl ?_
  refine V.cnew (pc := 50) (ci := 5) (N := 13) (T := TX3) (ty := tyX3) hG hin_X3 rfl tyX3_ok kw_327 kw_329 kw_164 (by decide +kernel) (by decide) rfl defX3 z224.z ⟨by decide, by decide⟩ dX0_init_50 ?_
  refine V.nn (n2 := 145) rfl ?_
  have z225 := z224.up (m := 145) (by omega)
  refine V.dup (pc := 53) hG dX0_init_53 rfl ?_
  refine V.ccallN (pc := 54) (n2 := 145) hG (ct_X3 l Δ (144) (isA.of (by decide +kernel))  z225) mY_X3_init rfl kw_330 kw_331 ⟨by decide, by decide, by decide, by decide⟩ (by decide) dX0_init_54 ?_
  have z226 := zf_X3 144 z225
  refine V.caast 6 5 (pc := 57) (z := 96) (o := 68) (x := 72) (y := 144) hG (isA.of (by decide +kernel)) (by decide) (by decide) rfl (isA.of (by decide +kernel)) (by decide) (by decide) rfl (sR_l rfl) (by decide) (by decide) dX0_init_57 ?_
  have z227 := z226.sRf (o := 68) (kz := 72) (x := 144) (by decide)
  refine V.iinc (pc := 58) (x := 72) (lv' := [(1, .int (sJ 73)), (0, .ref (sA Δ 67))]) hG dX0_init_58 0 rfl (by decide) rfl ?_
  refine V.goto (pc := 61) (tgt := 39) hG dX0_init_61 (by decide) ?_
  refine V.iload_n (pc := 39) (x := 73) hG dX0_init_39 rfl 0 rfl ?_
  refine V.bipush (pc := 40) hG dX0_init_40 (by decide) ?_
  refine V.icmp_ge (pc := 42) (tgt := 64) hG (sR_l rfl) (sR_l rfl) dX0_init_42 (by decide) (fun c1 => absurd c1 (by decide)) (fun _ => ?_)
  refine V.aload_n (pc := 45) hG dX0_init_45 rfl 1 rfl ?_
  have f73 := (st_ne (by decide)).trans ((congrFun (fr_X3 144 (by decide)) _).trans (f72))
  refine V.getR (x := 68) (pc := 46) (ci := 2) (k := 0) (M := 5) (T := TX0) (o := 67) (kz := 0) hG (isA.of (by decide +kernel)) (by decide) (by decide) hin_X0 rfl (by decide) (by decide) rfl kw_402 rfl f73 (by decide) dX0_init_46 ?_
  refine V.iload_n (pc := 49) (x := 73) hG dX0_init_49 rfl 0 rfl ?_
  refine V.cnew (pc := 50) (ci := 5) (N := 13) (T := TX3) (ty := tyX3) hG hin_X3 rfl tyX3_ok kw_327 kw_329 kw_164 (by decide +kernel) (by decide) rfl defX3 z227.z ⟨by decide, by decide⟩ dX0_init_50 ?_
  refine V.nn (n2 := 146) rfl ?_
  have z228 := z227.up (m := 146) (by omega)
  refine V.dup (pc := 53) hG dX0_init_53 rfl ?_
  refine V.ccallN (pc := 54) (n2 := 146) hG (ct_X3 l Δ (145) (isA.of (by decide +kernel))  z228) mY_X3_init rfl kw_330 kw_331 ⟨by decide, by decide, by decide, by decide⟩ (by decide) dX0_init_54 ?_
  have z229 := zf_X3 145 z228
  refine V.caast 6 5 (pc := 57) (z := 96) (o := 68) (x := 73) (y := 145) hG (isA.of (by decide +kernel)) (by decide) (by decide) rfl (isA.of (by decide +kernel)) (by decide) (by decide) rfl (sR_l rfl) (by decide) (by decide) dX0_init_57 ?_
  have z230 := z229.sRf (o := 68) (kz := 73) (x := 145) (by decide)
  refine V.iinc (pc := 58) (x := 73) (lv' := [(1, .int (sJ 74)), (0, .ref (sA Δ 67))]) hG dX0_init_58 0 rfl (by decide) rfl ?_
  refine V.goto (pc := 61) (tgt := 39) hG dX0_init_61 (by decide) ?_
  refine V.iload_n (pc := 39) (x := 74) hG dX0_init_39 rfl 0 rfl ?_
  refine V.bipush (pc := 40) hG dX0_init_40 (by decide) ?_
  refine V.icmp_ge (pc := 42) (tgt := 64) hG (sR_l rfl) (sR_l rfl) dX0_init_42 (by decide) (fun c1 => absurd c1 (by decide)) (fun _ => ?_)
  refine V.aload_n (pc := 45) hG dX0_init_45 rfl 1 rfl ?_
  have f74 := (st_ne (by decide)).trans ((congrFun (fr_X3 145 (by decide)) _).trans (f73))
  refine V.getR (x := 68) (pc := 46) (ci := 2) (k := 0) (M := 5) (T := TX0) (o := 67) (kz := 0) hG (isA.of (by decide +kernel)) (by decide) (by decide) hin_X0 rfl (by decide) (by decide) rfl kw_402 rfl f74 (by decide) dX0_init_46 ?_
  refine V.iload_n (pc := 49) (x := 74) hG dX0_init_49 rfl 0 rfl ?_
  refine V.cnew (pc := 50) (ci := 5) (N := 13) (T := TX3) (ty := tyX3) hG hin_X3 rfl tyX3_ok kw_327 kw_329 kw_164 (by decide +kernel) (by decide) rfl defX3 z230.z ⟨by decide, by decide⟩ dX0_init_50 ?_
  refine V.nn (n2 := 147) rfl ?_
  have z231 := z230.up (m := 147) (by omega)
  refine V.dup (pc := 53) hG dX0_init_53 rfl ?_
  refine V.ccallN (pc := 54) (n2 := 147) hG (ct_X3 l Δ (146) (isA.of (by decide +kernel))  z231) mY_X3_init rfl kw_330 kw_331 ⟨by decide, by decide, by decide, by decide⟩ (by decide) dX0_init_54 ?_
  have z232 := zf_X3 146 z231
  refine V.caast 6 5 (pc := 57) (z := 96) (o := 68) (x := 74) (y := 146) hG (isA.of (by decide +kernel)) (by decide) (by decide) rfl (isA.of (by decide +kernel)) (by decide) (by decide) rfl (sR_l rfl) (by decide) (by decide) dX0_init_57 ?_
  have z233 := z232.sRf (o := 68) (kz := 74) (x := 146) (by decide)
  refine V.iinc (pc := 58) (x := 74) (lv' := [(1, .int (sJ 75)), (0, .ref (sA Δ 67))]) hG dX0_init_58 0 rfl (by decide) rfl ?_
  refine V.goto (pc := 61) (tgt := 39) hG dX0_init_61 (by decide) ?_
  refine V.iload_n (pc := 39) (x := 75) hG dX0_init_39 rfl 0 rfl ?_
  refine V.bipush (pc := 40) hG dX0_init_40 (by decide) ?_
  refine V.icmp_ge (pc := 42) (tgt := 64) hG (sR_l rfl) (sR_l rfl) dX0_init_42 (by decide) (fun c1 => absurd c1 (by decide)) (fun _ => ?_)
  refine V.aload_n (pc := 45) hG dX0_init_45 rfl 1 rfl ?_
  have f75 := (st_ne (by decide)).trans ((congrFun (fr_X3 146 (by decide)) _).trans (f74))
  refine V.getR (x := 68) (pc := 46) (ci := 2) (k := 0) (M := 5) (T := TX0) (o := 67) (kz := 0) hG (isA.of (by decide +kernel)) (by decide) (by decide) hin_X0 rfl (by decide) (by decide) rfl kw_402 rfl f75 (by decide) dX0_init_46 ?_
  refine V.iload_n (pc := 49) (x := 75) hG dX0_init_49 rfl 0 rfl ?_
  refine V.cnew (pc := 50) (ci := 5) (N := 13) (T := TX3) (ty := tyX3) hG hin_X3 rfl tyX3_ok kw_327 kw_329 kw_164 (by decide +kernel) (by decide) rfl defX3 z233.z ⟨by decide, by decide⟩ dX0_init_50 ?_
  refine V.nn (n2 := 148) rfl ?_
  have z234 := z233.up (m := 148) (by omega)
  refine V.dup (pc := 53) hG dX0_init_53 rfl ?_
  refine V.ccallN (pc := 54) (n2 := 148) hG (ct_X3 l Δ (147) (isA.of (by decide +kernel))  z234) mY_X3_init rfl kw_330 kw_331 ⟨by decide, by decide, by decide, by decide⟩ (by decide) dX0_init_54 ?_
  have z235 := zf_X3 147 z234
  refine V.caast 6 5 (pc := 57) (z := 96) (o := 68) (x := 75) (y := 147) hG (isA.of (by decide +kernel)) (by decide) (by decide) rfl (isA.of (by decide +kernel)) (by decide) (by decide) rfl (sR_l rfl) (by decide) (by decide) dX0_init_57 ?_
  have z236 := z235.sRf (o := 68) (kz := 75) (x := 147) (by decide)
  refine V.iinc (pc := 58) (x := 75) (lv' := [(1, .int (sJ 76)), (0, .ref (sA Δ 67))]) hG dX0_init_58 0 rfl (by decide) rfl ?_
  refine V.goto (pc := 61) (tgt := 39) hG dX0_init_61 (by decide) ?_
  refine V.iload_n (pc := 39) (x := 76) hG dX0_init_39 rfl 0 rfl ?_
  refine V.bipush (pc := 40) hG dX0_init_40 (by decide) ?_
  refine V.icmp_ge (pc := 42) (tgt := 64) hG (sR_l rfl) (sR_l rfl) dX0_init_42 (by decide) (fun c1 => absurd c1 (by decide)) (fun _ => ?_)
  refine V.aload_n (pc := 45) hG dX0_init_45 rfl 1 rfl ?_
  have f76 := (st_ne (by decide)).trans ((congrFun (fr_X3 147 (by decide)) _).trans (f75))
  refine V.getR (x := 68) (pc := 46) (ci := 2) (k := 0) (M := 5) (T := TX0) (o := 67) (kz := 0) hG (isA.of (by decide +kernel)) (by decide) (by decide) hin_X0 rfl (by decide) (by decide) rfl kw_402 rfl f76 (by decide) dX0_init_46 ?_
  refine V.iload_n (pc := 49) (x := 76) hG dX0_init_49 rfl 0 rfl ?_
  refine V.cnew (pc := 50) (ci := 5) (N := 13) (T := TX3) (ty := tyX3) hG hin_X3 rfl tyX3_ok kw_327 kw_329 kw_164 (by decide +kernel) (by decide) rfl defX3 z236.z ⟨by decide, by decide⟩ dX0_init_50 ?_
  refine V.nn (n2 := 149) rfl ?_
  have z237 := z236.up (m := 149) (by omega)
  refine V.dup (pc := 53) hG dX0_init_53 rfl ?_
  refine V.ccallN (pc := 54) (n2 := 149) hG (ct_X3 l Δ (148) (isA.of (by decide +kernel))  z237) mY_X3_init rfl kw_330 kw_331 ⟨by decide, by decide, by decide, by decide⟩ (by decide) dX0_init_54 ?_
  have z238 := zf_X3 148 z237
  refine V.caast 6 5 (pc := 57) (z := 96) (o := 68) (x := 76) (y := 148) hG (isA.of (by decide +kernel)) (by decide) (by decide) rfl (isA.of (by decide +kernel)) (by decide) (by decide) rfl (sR_l rfl) (by decide) (by decide) dX0_init_57 ?_
  have z239 := z238.sRf (o := 68) (kz := 76) (x := 148) (by decide)
  refine V.iinc (pc := 58) (x := 76) (lv' := [(1, .int (sJ 77)), (0, .ref (sA Δ 67))]) hG dX0_init_58 0 rfl (by decide) rfl ?_
  refine V.goto (pc := 61) (tgt := 39) hG dX0_init_61 (by decide) ?_
  refine V.iload_n (pc := 39) (x := 77) hG dX0_init_39 rfl 0 rfl ?_
  refine V.bipush (pc := 40) hG dX0_init_40 (by decide) ?_
  refine V.icmp_ge (pc := 42) (tgt := 64) hG (sR_l rfl) (sR_l rfl) dX0_init_42 (by decide) (fun c1 => absurd c1 (by decide)) (fun _ => ?_)
  refine V.aload_n (pc := 45) hG dX0_init_45 rfl 1 rfl ?_
  have f77 := (st_ne (by decide)).trans ((congrFun (fr_X3 148 (by decide)) _).trans (f76))
  refine V.getR (x := 68) (pc := 46) (ci := 2) (k := 0) (M := 5) (T := TX0) (o := 67) (kz := 0) hG (isA.of (by decide +kernel)) (by decide) (by decide) hin_X0 rfl (by decide) (by decide) rfl kw_402 rfl f77 (by decide) dX0_init_46 ?_
  refine V.iload_n (pc := 49) (x := 77) hG dX0_init_49 rfl 0 rfl ?_
  refine V.cnew (pc := 50) (ci := 5) (N := 13) (T := TX3) (ty := tyX3) hG hin_X3 rfl tyX3_ok kw_327 kw_329 kw_164 (by decide +kernel) (by decide) rfl defX3 z239.z ⟨by decide, by decide⟩ dX0_init_50 ?_
  refine V.nn (n2 := 150) rfl ?_
  have z240 := z239.up (m := 150) (by omega)
  refine V.dup (pc := 53) hG dX0_init_53 rfl ?_
  refine V.ccallN (pc := 54) (n2 := 150) hG (ct_X3 l Δ (149) (isA.of (by decide +kernel))  z240) mY_X3_init rfl kw_330 kw_331 ⟨by decide, by decide, by decide, by decide⟩ (by decide) dX0_init_54 ?_
  have z241 := zf_X3 149 z240
  refine V.caast 6 5 (pc := 57) (z := 96) (o := 68) (x := 77) (y := 149) hG (isA.of (by decide +kernel)) (by decide) (by decide) rfl (isA.of (by decide +kernel)) (by decide) (by decide) rfl (sR_l rfl) (by decide) (by decide) dX0_init_57 ?_
  have z242 := z241.sRf (o := 68) (kz := 77) (x := 149) (by decide)
  refine V.iinc (pc := 58) (x := 77) (lv' := [(1, .int (sJ 78)), (0, .ref (sA Δ 67))]) hG dX0_init_58 0 rfl (by decide) rfl ?_
  refine V.goto (pc := 61) (tgt := 39) hG dX0_init_61 (by decide) ?_
  refine V.iload_n (pc := 39) (x := 78) hG dX0_init_39 rfl 0 rfl ?_
  refine V.bipush (pc := 40) hG dX0_init_40 (by decide) ?_
  refine V.icmp_ge (pc := 42) (tgt := 64) hG (sR_l rfl) (sR_l rfl) dX0_init_42 (by decide) (fun c1 => absurd c1 (by decide)) (fun _ => ?_)
  refine V.aload_n (pc := 45) hG dX0_init_45 rfl 1 rfl ?_
  have f78 := (st_ne (by decide)).trans ((congrFun (fr_X3 149 (by decide)) _).trans (f77))
  refine V.getR (x := 68) (pc := 46) (ci := 2) (k := 0) (M := 5) (T := TX0) (o := 67) (kz := 0) hG (isA.of (by decide +kernel)) (by decide) (by decide) hin_X0 rfl (by decide) (by decide) rfl kw_402 rfl f78 (by decide) dX0_init_46 ?_
  refine V.iload_n (pc := 49) (x := 78) hG dX0_init_49 rfl 0 rfl ?_
  refine V.cnew (pc := 50) (ci := 5) (N := 13) (T := TX3) (ty := tyX3) hG hin_X3 rfl tyX3_ok kw_327 kw_329 kw_164 (by decide +kernel) (by decide) rfl defX3 z242.z ⟨by decide, by decide⟩ dX0_init_50 ?_
  refine V.nn (n2 := 151) rfl ?_
  have z243 := z242.up (m := 151) (by omega)
  refine V.dup (pc := 53) hG dX0_init_53 rfl ?_
  refine V.ccallN (pc := 54) (n2 := 151) hG (ct_X3 l Δ (150) (isA.of (by decide +kernel))  z243) mY_X3_init rfl kw_330 kw_331 ⟨by decide, by decide, by decide, by decide⟩ (by decide) dX0_init_54 ?_
  have z244 := zf_X3 150 z243
  refine V.caast 6 5 (pc := 57) (z := 96) (o := 68) (x := 78) (y := 150) hG (isA.of (by decide +kernel)) (by decide) (by decide) rfl (isA.of (by decide +kernel)) (by decide) (by decide) rfl (sR_l rfl) (by decide) (by decide) dX0_init_57 ?_
  have z245 := z244.sRf (o := 68) (kz := 78) (x := 150) (by decide)
  refine V.iinc (pc := 58) (x := 78) (lv' := [(1, .int (sJ 79)), (0, .ref (sA Δ 67))]) hG dX0_init_58 0 rfl (by decide) rfl ?_
  refine V.goto (pc := 61) (tgt := 39) hG dX0_init_61 (by decide) ?_
  refine V.iload_n (pc := 39) (x := 79) hG dX0_init_39 rfl 0 rfl ?_
  refine V.bipush (pc := 40) hG dX0_init_40 (by decide) ?_
  refine V.icmp_ge (pc := 42) (tgt := 64) hG (sR_l rfl) (sR_l rfl) dX0_init_42 (by decide) (fun c1 => absurd c1 (by decide)) (fun _ => ?_)
  refine V.aload_n (pc := 45) hG dX0_init_45 rfl 1 rfl ?_
  have f79 := (st_ne (by decide)).trans ((congrFun (fr_X3 150 (by decide)) _).trans (f78))
  refine V.getR (x := 68) (pc := 46) (ci := 2) (k := 0) (M := 5) (T := TX0) (o := 67) (kz := 0) hG (isA.of (by decide +kernel)) (by decide) (by decide) hin_X0 rfl (by decide) (by decide) rfl kw_402 rfl f79 (by decide) dX0_init_46 ?_
  refine V.iload_n (pc := 49) (x := 79) hG dX0_init_49 rfl 0 rfl ?_
  refine V.cnew (pc := 50) (ci := 5) (N := 13) (T := TX3) (ty := tyX3) hG hin_X3 rfl tyX3_ok kw_327 kw_329 kw_164 (by decide +kernel) (by decide) rfl defX3 z245.z ⟨by decide, by decide⟩ dX0_init_50 ?_
  refine V.nn (n2 := 152) rfl ?_
  have z246 := z245.up (m := 152) (by omega)
  refine V.dup (pc := 53) hG dX0_init_53 rfl ?_
  refine V.ccallN (pc := 54) (n2 := 152) hG (ct_X3 l Δ (151) (isA.of (by decide +kernel))  z246) mY_X3_init rfl kw_330 kw_331 ⟨by decide, by decide, by decide, by decide⟩ (by decide) dX0_init_54 ?_
  have z247 := zf_X3 151 z246
  refine V.caast 6 5 (pc := 57) (z := 96) (o := 68) (x := 79) (y := 151) hG (isA.of (by decide +kernel)) (by decide) (by decide) rfl (isA.of (by decide +kernel)) (by decide) (by decide) rfl (sR_l rfl) (by decide) (by decide) dX0_init_57 ?_
  have z248 := z247.sRf (o := 68) (kz := 79) (x := 151) (by decide)
  refine V.iinc (pc := 58) (x := 79) (lv' := [(1, .int (sJ 80)), (0, .ref (sA Δ 67))]) hG dX0_init_58 0 rfl (by decide) rfl ?_
  refine V.goto (pc := 61) (tgt := 39) hG dX0_init_61 (by decide) ?_
  refine V.iload_n (pc := 39) (x := 80) hG dX0_init_39 rfl 0 rfl ?_
  refine V.bipush (pc := 40) hG dX0_init_40 (by decide) ?_
  refine V.icmp_ge (pc := 42) (tgt := 64) hG (sR_l rfl) (sR_l rfl) dX0_init_42 (by decide) (fun c1 => absurd c1 (by decide)) (fun _ => ?_)
  refine V.aload_n (pc := 45) hG dX0_init_45 rfl 1 rfl ?_
  have f80 := (st_ne (by decide)).trans ((congrFun (fr_X3 151 (by decide)) _).trans (f79))
  refine V.getR (x := 68) (pc := 46) (ci := 2) (k := 0) (M := 5) (T := TX0) (o := 67) (kz := 0) hG (isA.of (by decide +kernel)) (by decide) (by decide) hin_X0 rfl (by decide) (by decide) rfl kw_402 rfl f80 (by decide) dX0_init_46 ?_
  refine V.iload_n (pc := 49) (x := 80) hG dX0_init_49 rfl 0 rfl ?_
  refine V.cnew (pc := 50) (ci := 5) (N := 13) (T := TX3) (ty := tyX3) hG hin_X3 rfl tyX3_ok kw_327 kw_329 kw_164 (by decide +kernel) (by decide) rfl defX3 z248.z ⟨by decide, by decide⟩ dX0_init_50 ?_
  refine V.nn (n2 := 153) rfl ?_
  have z249 := z248.up (m := 153) (by omega)
  refine V.dup (pc := 53) hG dX0_init_53 rfl ?_
  refine V.ccallN (pc := 54) (n2 := 153) hG (ct_X3 l Δ (152) (isA.of (by decide +kernel))  z249) mY_X3_init rfl kw_330 kw_331 ⟨by decide, by decide, by decide, by decide⟩ (by decide) dX0_init_54 ?_
  have z250 := zf_X3 152 z249
  refine V.caast 6 5 (pc := 57) (z := 96) (o := 68) (x := 80) (y := 152) hG (isA.of (by decide +kernel)) (by decide) (by decide) rfl (isA.of (by decide +kernel)) (by decide) (by decide) rfl (sR_l rfl) (by decide) (by decide) dX0_init_57 ?_
  have z251 := z250.sRf (o := 68) (kz := 80) (x := 152) (by decide)
  refine V.iinc (pc := 58) (x := 80) (lv' := [(1, .int (sJ 81)), (0, .ref (sA Δ 67))]) hG dX0_init_58 0 rfl (by decide) rfl ?_
  refine V.goto (pc := 61) (tgt := 39) hG dX0_init_61 (by decide) ?_
  refine V.iload_n (pc := 39) (x := 81) hG dX0_init_39 rfl 0 rfl ?_
  refine V.bipush (pc := 40) hG dX0_init_40 (by decide) ?_
  refine V.icmp_ge (pc := 42) (tgt := 64) hG (sR_l rfl) (sR_l rfl) dX0_init_42 (by decide) (fun c1 => absurd c1 (by decide)) (fun _ => ?_)
  refine V.aload_n (pc := 45) hG dX0_init_45 rfl 1 rfl ?_
  have f81 := (st_ne (by decide)).trans ((congrFun (fr_X3 152 (by decide)) _).trans (f80))
  refine V.getR (x := 68) (pc := 46) (ci := 2) (k := 0) (M := 5) (T := TX0) (o := 67) (kz := 0) hG (isA.of (by decide +kernel)) (by decide) (by decide) hin_X0 rfl (by decide) (by decide) rfl kw_402 rfl f81 (by decide) dX0_init_46 ?_
  refine V.iload_n (pc := 49) (x := 81) hG dX0_init_49 rfl 0 rfl ?_
  refine V.cnew (pc := 50) (ci := 5) (N := 13) (T := TX3) (ty := tyX3) hG hin_X3 rfl tyX3_ok kw_327 kw_329 kw_164 (by decide +kernel) (by decide) rfl defX3 z251.z ⟨by decide, by decide⟩ dX0_init_50 ?_
  refine V.nn (n2 := 154) rfl ?_
  have z252 := z251.up (m := 154) (by omega)
  refine V.dup (pc := 53) hG dX0_init_53 rfl ?_
  refine V.ccallN (pc := 54) (n2 := 154) hG (ct_X3 l Δ (153) (isA.of (by decide +kernel))  z252) mY_X3_init rfl kw_330 kw_331 ⟨by decide, by decide, by decide, by decide⟩ (by decide) dX0_init_54 ?_
  have z253 := zf_X3 153 z252
  refine V.caast 6 5 (pc := 57) (z := 96) (o := 68) (x := 81) (y := 153) hG (isA.of (by decide +kernel)) (by decide) (by decide) rfl (isA.of (by decide +kernel)) (by decide) (by decide) rfl (sR_l rfl) (by decide) (by decide) dX0_init_57 ?_
  have z254 := z253.sRf (o := 68) (kz := 81) (x := 153) (by decide)
  refine V.iinc (pc := 58) (x := 81) (lv' := [(1, .int (sJ 82)), (0, .ref (sA Δ 67))]) hG dX0_init_58 0 rfl (by decide) rfl ?_
  refine V.goto (pc := 61) (tgt := 39) hG dX0_init_61 (by decide) ?_
  refine V.iload_n (pc := 39) (x := 82) hG dX0_init_39 rfl 0 rfl ?_
  refine V.bipush (pc := 40) hG dX0_init_40 (by decide) ?_
  refine V.icmp_ge (pc := 42) (tgt := 64) hG (sR_l rfl) (sR_l rfl) dX0_init_42 (by decide) (fun c1 => absurd c1 (by decide)) (fun _ => ?_)
  refine V.aload_n (pc := 45) hG dX0_init_45 rfl 1 rfl ?_
  have f82 := (st_ne (by decide)).trans ((congrFun (fr_X3 153 (by decide)) _).trans (f81))
  refine V.getR (x := 68) (pc := 46) (ci := 2) (k := 0) (M := 5) (T := TX0) (o := 67) (kz := 0) hG (isA.of (by decide +kernel)) (by decide) (by decide) hin_X0 rfl (by decide) (by decide) rfl kw_402 rfl f82 (by decide) dX0_init_46 ?_
  refine V.iload_n (pc := 49) (x := 82) hG dX0_init_49 rfl 0 rfl ?_
  refine V.cnew (pc := 50) (ci := 5) (N := 13) (T := TX3) (ty := tyX3) hG hin_X3 rfl tyX3_ok kw_327 kw_329 kw_164 (by decide +kernel) (by decide) rfl defX3 z254.z ⟨by decide, by decide⟩ dX0_init_50 ?_
  refine V.nn (n2 := 155) rfl ?_
  have z255 := z254.up (m := 155) (by omega)
  refine V.dup (pc := 53) hG dX0_init_53 rfl ?_
  refine V.ccallN (pc := 54) (n2 := 155) hG (ct_X3 l Δ (154) (isA.of (by decide +kernel))  z255) mY_X3_init rfl kw_330 kw_331 ⟨by decide, by decide, by decide, by decide⟩ (by decide) dX0_init_54 ?_
  have z256 := zf_X3 154 z255
  refine V.caast 6 5 (pc := 57) (z := 96) (o := 68) (x := 82) (y := 154) hG (isA.of (by decide +kernel)) (by decide) (by decide) rfl (isA.of (by decide +kernel)) (by decide) (by decide) rfl (sR_l rfl) (by decide) (by decide) dX0_init_57 ?_
  have z257 := z256.sRf (o := 68) (kz := 82) (x := 154) (by decide)
  refine V.iinc (pc := 58) (x := 82) (lv' := [(1, .int (sJ 83)), (0, .ref (sA Δ 67))]) hG dX0_init_58 0 rfl (by decide) rfl ?_
  refine V.goto (pc := 61) (tgt := 39) hG dX0_init_61 (by decide) ?_
  refine V.iload_n (pc := 39) (x := 83) hG dX0_init_39 rfl 0 rfl ?_
  refine V.bipush (pc := 40) hG dX0_init_40 (by decide) ?_
  refine V.icmp_ge (pc := 42) (tgt := 64) hG (sR_l rfl) (sR_l rfl) dX0_init_42 (by decide) (fun c1 => absurd c1 (by decide)) (fun _ => ?_)
  refine V.aload_n (pc := 45) hG dX0_init_45 rfl 1 rfl ?_
  have f83 := (st_ne (by decide)).trans ((congrFun (fr_X3 154 (by decide)) _).trans (f82))
  refine V.getR (x := 68) (pc := 46) (ci := 2) (k := 0) (M := 5) (T := TX0) (o := 67) (kz := 0) hG (isA.of (by decide +kernel)) (by decide) (by decide) hin_X0 rfl (by decide) (by decide) rfl kw_402 rfl f83 (by decide) dX0_init_46 ?_
  refine V.iload_n (pc := 49) (x := 83) hG dX0_init_49 rfl 0 rfl ?_
  refine V.cnew (pc := 50) (ci := 5) (N := 13) (T := TX3) (ty := tyX3) hG hin_X3 rfl tyX3_ok kw_327 kw_329 kw_164 (by decide +kernel) (by decide) rfl defX3 z257.z ⟨by decide, by decide⟩ dX0_init_50 ?_
  refine V.nn (n2 := 156) rfl ?_
  have z258 := z257.up (m := 156) (by omega)
  refine V.dup (pc := 53) hG dX0_init_53 rfl ?_
  refine V.ccallN (pc := 54) (n2 := 156) hG (ct_X3 l Δ (155) (isA.of (by decide +kernel))  z258) mY_X3_init rfl kw_330 kw_331 ⟨by decide, by decide, by decide, by decide⟩ (by decide) dX0_init_54 ?_
  have z259 := zf_X3 155 z258
  refine V.caast 6 5 (pc := 57) (z := 96) (o := 68) (x := 83) (y := 155) hG (isA.of (by decide +kernel)) (by decide) (by decide) rfl (isA.of (by decide +kernel)) (by decide) (by decide) rfl (sR_l rfl) (by decide) (by decide) dX0_init_57 ?_
  have z260 := z259.sRf (o := 68) (kz := 83) (x := 155) (by decide)
  refine V.iinc (pc := 58) (x := 83) (lv' := [(1, .int (sJ 84)), (0, .ref (sA Δ 67))]) hG dX0_init_58 0 rfl (by decide) rfl ?_
  refine V.goto (pc := 61) (tgt := 39) hG dX0_init_61 (by decide) ?_
  refine V.iload_n (pc := 39) (x := 84) hG dX0_init_39 rfl 0 rfl ?_
  refine V.bipush (pc := 40) hG dX0_init_40 (by decide) ?_
  refine V.icmp_ge (pc := 42) (tgt := 64) hG (sR_l rfl) (sR_l rfl) dX0_init_42 (by decide) (fun c1 => absurd c1 (by decide)) (fun _ => ?_)
  refine V.aload_n (pc := 45) hG dX0_init_45 rfl 1 rfl ?_
  have f84 := (st_ne (by decide)).trans ((congrFun (fr_X3 155 (by decide)) _).trans (f83))
  refine V.getR (x := 68) (pc := 46) (ci := 2) (k := 0) (M := 5) (T := TX0) (o := 67) (kz := 0) hG (isA.of (by decide +kernel)) (by decide) (by decide) hin_X0 rfl (by decide) (by decide) rfl kw_402 rfl f84 (by decide) dX0_init_46 ?_
  refine V.iload_n (pc := 49) (x := 84) hG dX0_init_49 rfl 0 rfl ?_
  refine V.cnew (pc := 50) (ci := 5) (N := 13) (T := TX3) (ty := tyX3) hG hin_X3 rfl tyX3_ok kw_327 kw_329 kw_164 (by decide +kernel) (by decide) rfl defX3 z260.z ⟨by decide, by decide⟩ dX0_init_50 ?_
  refine V.nn (n2 := 157) rfl ?_
  have z261 := z260.up (m := 157) (by omega)
  refine V.dup (pc := 53) hG dX0_init_53 rfl ?_
  refine V.ccallN (pc := 54) (n2 := 157) hG (ct_X3 l Δ (156) (isA.of (by decide +kernel))  z261) mY_X3_init rfl kw_330 kw_331 ⟨by decide, by decide, by decide, by decide⟩ (by decide) dX0_init_54 ?_
  have z262 := zf_X3 156 z261
  refine V.caast 6 5 (pc := 57) (z := 96) (o := 68) (x := 84) (y := 156) hG (isA.of (by decide +kernel)) (by decide) (by decide) rfl (isA.of (by decide +kernel)) (by decide) (by decide) rfl (sR_l rfl) (by decide) (by decide) dX0_init_57 ?_
  have z263 := z262.sRf (o := 68) (kz := 84) (x := 156) (by decide)
  refine V.iinc (pc := 58) (x := 84) (lv' := [(1, .int (sJ 85)), (0, .ref (sA Δ 67))]) hG dX0_init_58 0 rfl (by decide) rfl ?_
  refine V.goto (pc := 61) (tgt := 39) hG dX0_init_61 (by decide) ?_
  refine V.iload_n (pc := 39) (x := 85) hG dX0_init_39 rfl 0 rfl ?_
  refine V.bipush (pc := 40) hG dX0_init_40 (by decide) ?_
  refine V.icmp_ge (pc := 42) (tgt := 64) hG (sR_l rfl) (sR_l rfl) dX0_init_42 (by decide) (fun c1 => absurd c1 (by decide)) (fun _ => ?_)
  refine V.aload_n (pc := 45) hG dX0_init_45 rfl 1 rfl ?_
  have f85 := (st_ne (by decide)).trans ((congrFun (fr_X3 156 (by decide)) _).trans (f84))
  refine V.getR (x := 68) (pc := 46) (ci := 2) (k := 0) (M := 5) (T := TX0) (o := 67) (kz := 0) hG (isA.of (by decide +kernel)) (by decide) (by decide) hin_X0 rfl (by decide) (by decide) rfl kw_402 rfl f85 (by decide) dX0_init_46 ?_
  refine V.iload_n (pc := 49) (x := 85) hG dX0_init_49 rfl 0 rfl ?_
  refine V.cnew (pc := 50) (ci := 5) (N := 13) (T := TX3) (ty := tyX3) hG hin_X3 rfl tyX3_ok kw_327 kw_329 kw_164 (by decide +kernel) (by decide) rfl defX3 z263.z ⟨by decide, by decide⟩ dX0_init_50 ?_
  refine V.nn (n2 := 158) rfl ?_
  have z264 := z263.up (m := 158) (by omega)
  refine V.dup (pc := 53) hG dX0_init_53 rfl ?_
  refine V.ccallN (pc := 54) (n2 := 158) hG (ct_X3 l Δ (157) (isA.of (by decide +kernel))  z264) mY_X3_init rfl kw_330 kw_331 ⟨by decide, by decide, by decide, by decide⟩ (by decide) dX0_init_54 ?_
  have z265 := zf_X3 157 z264
  refine V.caast 6 5 (pc := 57) (z := 96) (o := 68) (x := 85) (y := 157) hG (isA.of (by decide +kernel)) (by decide) (by decide) rfl (isA.of (by decide +kernel)) (by decide) (by decide) rfl (sR_l rfl) (by decide) (by decide) dX0_init_57 ?_
  have z266 := z265.sRf (o := 68) (kz := 85) (x := 157) (by decide)
  refine V.iinc (pc := 58) (x := 85) (lv' := [(1, .int (sJ 86)), (0, .ref (sA Δ 67))]) hG dX0_init_58 0 rfl (by decide) rfl ?_
  refine V.goto (pc := 61) (tgt := 39) hG dX0_init_61 (by decide) ?_
  refine V.iload_n (pc := 39) (x := 86) hG dX0_init_39 rfl 0 rfl ?_
  refine V.bipush (pc := 40) hG dX0_init_40 (by decide) ?_
  refine V.icmp_ge (pc := 42) (tgt := 64) hG (sR_l rfl) (sR_l rfl) dX0_init_42 (by decide) (fun c1 => absurd c1 (by decide)) (fun _ => ?_)
  refine V.aload_n (pc := 45) hG dX0_init_45 rfl 1 rfl ?_
  have f86 := (st_ne (by decide)).trans ((congrFun (fr_X3 157 (by decide)) _).trans (f85))
  refine V.getR (x := 68) (pc := 46) (ci := 2) (k := 0) (M := 5) (T := TX0) (o := 67) (kz := 0) hG (isA.of (by decide +kernel)) (by decide) (by decide) hin_X0 rfl (by decide) (by decide) rfl kw_402 rfl f86 (by decide) dX0_init_46 ?_
  refine V.iload_n (pc := 49) (x := 86) hG dX0_init_49 rfl 0 rfl ?_
  refine V.cnew (pc := 50) (ci := 5) (N := 13) (T := TX3) (ty := tyX3) hG hin_X3 rfl tyX3_ok kw_327 kw_329 kw_164 (by decide +kernel) (by decide) rfl defX3 z266.z ⟨by decide, by decide⟩ dX0_init_50 ?_
  refine V.nn (n2 := 159) rfl ?_
  have z267 := z266.up (m := 159) (by omega)
  refine V.dup (pc := 53) hG dX0_init_53 rfl ?_
  refine V.ccallN (pc := 54) (n2 := 159) hG (ct_X3 l Δ (158) (isA.of (by decide +kernel))  z267) mY_X3_init rfl kw_330 kw_331 ⟨by decide, by decide, by decide, by decide⟩ (by decide) dX0_init_54 ?_
  have z268 := zf_X3 158 z267
  refine V.caast 6 5 (pc := 57) (z := 96) (o := 68) (x := 86) (y := 158) hG (isA.of (by decide +kernel)) (by decide) (by decide) rfl (isA.of (by decide +kernel)) (by decide) (by decide) rfl (sR_l rfl) (by decide) (by decide) dX0_init_57 ?_
  have z269 := z268.sRf (o := 68) (kz := 86) (x := 158) (by decide)
  refine V.iinc (pc := 58) (x := 86) (lv' := [(1, .int (sJ 87)), (0, .ref (sA Δ 67))]) hG dX0_init_58 0 rfl (by decide) rfl ?_
  refine V.goto (pc := 61) (tgt := 39) hG dX0_init_61 (by decide) ?_
  refine V.iload_n (pc := 39) (x := 87) hG dX0_init_39 rfl 0 rfl ?_
  refine V.bipush (pc := 40) hG dX0_init_40 (by decide) ?_
  refine V.icmp_ge (pc := 42) (tgt := 64) hG (sR_l rfl) (sR_l rfl) dX0_init_42 (by decide) (fun c1 => absurd c1 (by decide)) (fun _ => ?_)
  refine V.aload_n (pc := 45) hG dX0_init_45 rfl 1 rfl ?_
  have f87 := (st_ne (by decide)).trans ((congrFun (fr_X3 158 (by decide)) _).trans (f86))
  refine V.getR (x := 68) (pc := 46) (ci := 2) (k := 0) (M := 5) (T := TX0) (o := 67) (kz := 0) hG (isA.of (by decide +kernel)) (by decide) (by decide) hin_X0 rfl (by decide) (by decide) rfl kw_402 rfl f87 (by decide) dX0_init_46 ?_
  refine V.iload_n (pc := 49) (x := 87) hG dX0_init_49 rfl 0 rfl ?_
  refine V.cnew (pc := 50) (ci := 5) (N := 13) (T := TX3) (ty := tyX3) hG hin_X3 rfl tyX3_ok kw_327 kw_329 kw_164 (by decide +kernel) (by decide) rfl defX3 z269.z ⟨by decide, by decide⟩ dX0_init_50 ?_
  refine V.nn (n2 := 160) rfl ?_
  have z270 := z269.up (m := 160) (by omega)
  refine V.dup (pc := 53) hG dX0_init_53 rfl ?_
  refine V.ccallN (pc := 54) (n2 := 160) hG (ct_X3 l Δ (159) (isA.of (by decide +kernel))  z270) mY_X3_init rfl kw_330 kw_331 ⟨by decide, by decide, by decide, by decide⟩ (by decide) dX0_init_54 ?_
  have z271 := zf_X3 159 z270
  refine V.caast 6 5 (pc := 57) (z := 96) (o := 68) (x := 87) (y := 159) hG (isA.of (by decide +kernel)) (by decide) (by decide) rfl (isA.of (by decide +kernel)) (by decide) (by decide) rfl (sR_l rfl) (by decide) (by decide) dX0_init_57 ?_
  have z272 := z271.sRf (o := 68) (kz := 87) (x := 159) (by decide)
  refine V.iinc (pc := 58) (x := 87) (lv' := [(1, .int (sJ 88)), (0, .ref (sA Δ 67))]) hG dX0_init_58 0 rfl (by decide) rfl ?_
  refine V.goto (pc := 61) (tgt := 39) hG dX0_init_61 (by decide) ?_
  refine V.iload_n (pc := 39) (x := 88) hG dX0_init_39 rfl 0 rfl ?_
  refine V.bipush (pc := 40) hG dX0_init_40 (by decide) ?_
  refine V.icmp_ge (pc := 42) (tgt := 64) hG (sR_l rfl) (sR_l rfl) dX0_init_42 (by decide) (fun c1 => absurd c1 (by decide)) (fun _ => ?_)
  refine V.aload_n (pc := 45) hG dX0_init_45 rfl 1 rfl ?_
  have f88 := (st_ne (by decide)).trans ((congrFun (fr_X3 159 (by decide)) _).trans (f87))
  refine V.getR (x := 68) (pc := 46) (ci := 2) (k := 0) (M := 5) (T := TX0) (o := 67) (kz := 0) hG (isA.of (by decide +kernel)) (by decide) (by decide) hin_X0 rfl (by decide) (by decide) rfl kw_402 rfl f88 (by decide) dX0_init_46 ?_
  refine V.iload_n (pc := 49) (x := 88) hG dX0_init_49 rfl 0 rfl ?_
  refine V.cnew (pc := 50) (ci := 5) (N := 13) (T := TX3) (ty := tyX3) hG hin_X3 rfl tyX3_ok kw_327 kw_329 kw_164 (by decide +kernel) (by decide) rfl defX3 z272.z ⟨by decide, by decide⟩ dX0_init_50 ?_
  refine V.nn (n2 := 161) rfl ?_
  have z273 := z272.up (m := 161) (by omega)
  refine V.dup (pc := 53) hG dX0_init_53 rfl ?_
  refine V.ccallN (pc := 54) (n2 := 161) hG (ct_X3 l Δ (160) (isA.of (by decide +kernel))  z273) mY_X3_init rfl kw_330 kw_331 ⟨by decide, by decide, by decide, by decide⟩ (by decide) dX0_init_54 ?_
  have z274 := zf_X3 160 z273
  refine V.caast 6 5 (pc := 57) (z := 96) (o := 68) (x := 88) (y := 160) hG (isA.of (by decide +kernel)) (by decide) (by decide) rfl (isA.of (by decide +kernel)) (by decide) (by decide) rfl (sR_l rfl) (by decide) (by decide) dX0_init_57 ?_
  have z275 := z274.sRf (o := 68) (kz := 88) (x := 160) (by decide)
  refine V.iinc (pc := 58) (x := 88) (lv' := [(1, .int (sJ 89)), (0, .ref (sA Δ 67))]) hG dX0_init_58 0 rfl (by decide) rfl ?_
  refine V.goto (pc := 61) (tgt := 39) hG dX0_init_61 (by decide) ?_
  refine V.iload_n (pc := 39) (x := 89) hG dX0_init_39 rfl 0 rfl ?_
  refine V.bipush (pc := 40) hG dX0_init_40 (by decide) ?_
  refine V.icmp_ge (pc := 42) (tgt := 64) hG (sR_l rfl) (sR_l rfl) dX0_init_42 (by decide) (fun c1 => absurd c1 (by decide)) (fun _ => ?_)
  refine V.aload_n (pc := 45) hG dX0_init_45 rfl 1 rfl ?_
  have f89 := (st_ne (by decide)).trans ((congrFun (fr_X3 160 (by decide)) _).trans (f88))
  refine V.getR (x := 68) (pc := 46) (ci := 2) (k := 0) (M := 5) (T := TX0) (o := 67) (kz := 0) hG (isA.of (by decide +kernel)) (by decide) (by decide) hin_X0 rfl (by decide) (by decide) rfl kw_402 rfl f89 (by decide) dX0_init_46 ?_
  refine V.iload_n (pc := 49) (x := 89) hG dX0_init_49 rfl 0 rfl ?_
  refine V.cnew (pc := 50) (ci := 5) (N := 13) (T := TX3) (ty := tyX3) hG hin_X3 rfl tyX3_ok kw_327 kw_329 kw_164 (by decide +kernel) (by decide) rfl defX3 z275.z ⟨by decide, by decide⟩ dX0_init_50 ?_
  refine V.nn (n2 := 162) rfl ?_
  have z276 := z275.up (m := 162) (by omega)
  refine V.dup (pc := 53) hG dX0_init_53 rfl ?_
  refine V.ccallN (pc := 54) (n2 := 162) hG (ct_X3 l Δ (161) (isA.of (by decide +kernel))  z276) mY_X3_init rfl kw_330 kw_331 ⟨by decide, by decide, by decide, by decide⟩ (by decide) dX0_init_54 ?_
  have z277 := zf_X3 161 z276
  refine V.caast 6 5 (pc := 57) (z := 96) (o := 68) (x := 89) (y := 161) hG (isA.of (by decide +kernel)) (by decide) (by decide) rfl (isA.of (by decide +kernel)) (by decide) (by decide) rfl (sR_l rfl) (by decide) (by decide) dX0_init_57 ?_
  have z278 := z277.sRf (o := 68) (kz := 89) (x := 161) (by decide)
  refine V.iinc (pc := 58) (x := 89) (lv' := [(1, .int (sJ 90)), (0, .ref (sA Δ 67))]) hG dX0_init_58 0 rfl (by decide) rfl ?_
  refine V.goto (pc := 61) (tgt := 39) hG dX0_init_61 (by decide) ?_
  refine V.iload_n (pc := 39) (x := 90) hG dX0_init_39 rfl 0 rfl ?_
  refine V.bipush (pc := 40) hG dX0_init_40 (by decide) ?_
  refine V.icmp_ge (pc := 42) (tgt := 64) hG (sR_l rfl) (sR_l rfl) dX0_init_42 (by decide) (fun c1 => absurd c1 (by decide)) (fun _ => ?_)
  refine V.aload_n (pc := 45) hG dX0_init_45 rfl 1 rfl ?_
  have f90 := (st_ne (by decide)).trans ((congrFun (fr_X3 161 (by decide)) _).trans (f89))
  refine V.getR (x := 68) (pc := 46) (ci := 2) (k := 0) (M := 5) (T := TX0) (o := 67) (kz := 0) hG (isA.of (by decide +kernel)) (by decide) (by decide) hin_X0 rfl (by decide) (by decide) rfl kw_402 rfl f90 (by decide) dX0_init_46 ?_
  refine V.iload_n (pc := 49) (x := 90) hG dX0_init_49 rfl 0 rfl ?_
  refine V.cnew (pc := 50) (ci := 5) (N := 13) (T := TX3) (ty := tyX3) hG hin_X3 rfl tyX3_ok kw_327 kw_329 kw_164 (by decide +kernel) (by decide) rfl defX3 z278.z ⟨by decide, by decide⟩ dX0_init_50 ?_
  refine V.nn (n2 := 163) rfl ?_
  have z279 := z278.up (m := 163) (by omega)
  refine V.dup (pc := 53) hG dX0_init_53 rfl ?_
  refine V.ccallN (pc := 54) (n2 := 163) hG (ct_X3 l Δ (162) (isA.of (by decide +kernel))  z279) mY_X3_init rfl kw_330 kw_331 ⟨by decide, by decide, by decide, by decide⟩ (by decide) dX0_init_54 ?_
  have z280 := zf_X3 162 z279
  refine V.caast 6 5 (pc := 57) (z := 96) (o := 68) (x := 90) (y := 162) hG (isA.of (by decide +kernel)) (by decide) (by decide) rfl (isA.of (by decide +kernel)) (by decide) (by decide) rfl (sR_l rfl) (by decide) (by decide) dX0_init_57 ?_
  have z281 := z280.sRf (o := 68) (kz := 90) (x := 162) (by decide)
  refine V.iinc (pc := 58) (x := 90) (lv' := [(1, .int (sJ 91)), (0, .ref (sA Δ 67))]) hG dX0_init_58 0 rfl (by decide) rfl ?_
  refine V.goto (pc := 61) (tgt := 39) hG dX0_init_61 (by decide) ?_
  refine V.iload_n (pc := 39) (x := 91) hG dX0_init_39 rfl 0 rfl ?_
  refine V.bipush (pc := 40) hG dX0_init_40 (by decide) ?_
  refine V.icmp_ge (pc := 42) (tgt := 64) hG (sR_l rfl) (sR_l rfl) dX0_init_42 (by decide) (fun c1 => absurd c1 (by decide)) (fun _ => ?_)
  refine V.aload_n (pc := 45) hG dX0_init_45 rfl 1 rfl ?_
  have f91 := (st_ne (by decide)).trans ((congrFun (fr_X3 162 (by decide)) _).trans (f90))
  refine V.getR (x := 68) (pc := 46) (ci := 2) (k := 0) (M := 5) (T := TX0) (o := 67) (kz := 0) hG (isA.of (by decide +kernel)) (by decide) (by decide) hin_X0 rfl (by decide) (by decide) rfl kw_402 rfl f91 (by decide) dX0_init_46 ?_
  refine V.iload_n (pc := 49) (x := 91) hG dX0_init_49 rfl 0 rfl ?_
  refine V.cnew (pc := 50) (ci := 5) (N := 13) (T := TX3) (ty := tyX3) hG hin_X3 rfl tyX3_ok kw_327 kw_329 kw_164 (by decide +kernel) (by decide) rfl defX3 z281.z ⟨by decide, by decide⟩ dX0_init_50 ?_
  refine V.nn (n2 := 164) rfl ?_
  have z282 := z281.up (m := 164) (by omega)
  refine V.dup (pc := 53) hG dX0_init_53 rfl ?_
  refine V.ccallN (pc := 54) (n2 := 164) hG (ct_X3 l Δ (163) (isA.of (by decide +kernel))  z282) mY_X3_init rfl kw_330 kw_331 ⟨by decide, by decide, by decide, by decide⟩ (by decide) dX0_init_54 ?_
  have z283 := zf_X3 163 z282
  refine V.caast 6 5 (pc := 57) (z := 96) (o := 68) (x := 91) (y := 163) hG (isA.of (by decide +kernel)) (by decide) (by decide) rfl (isA.of (by decide +kernel)) (by decide) (by decide) rfl (sR_l rfl) (by decide) (by decide) dX0_init_57 ?_
  have z284 := z283.sRf (o := 68) (kz := 91) (x := 163) (by decide)
  refine V.iinc (pc := 58) (x := 91) (lv' := [(1, .int (sJ 92)), (0, .ref (sA Δ 67))]) hG dX0_init_58 0 rfl (by decide) rfl ?_
  refine V.goto (pc := 61) (tgt := 39) hG dX0_init_61 (by decide) ?_
  refine V.iload_n (pc := 39) (x := 92) hG dX0_init_39 rfl 0 rfl ?_
  refine V.bipush (pc := 40) hG dX0_init_40 (by decide) ?_
  refine V.icmp_ge (pc := 42) (tgt := 64) hG (sR_l rfl) (sR_l rfl) dX0_init_42 (by decide) (fun c1 => absurd c1 (by decide)) (fun _ => ?_)
  refine V.aload_n (pc := 45) hG dX0_init_45 rfl 1 rfl ?_
  have f92 := (st_ne (by decide)).trans ((congrFun (fr_X3 163 (by decide)) _).trans (f91))
  refine V.getR (x := 68) (pc := 46) (ci := 2) (k := 0) (M := 5) (T := TX0) (o := 67) (kz := 0) hG (isA.of (by decide +kernel)) (by decide) (by decide) hin_X0 rfl (by decide) (by decide) rfl kw_402 rfl f92 (by decide) dX0_init_46 ?_
  refine V.iload_n (pc := 49) (x := 92) hG dX0_init_49 rfl 0 rfl ?_
  refine V.cnew (pc := 50) (ci := 5) (N := 13) (T := TX3) (ty := tyX3) hG hin_X3 rfl tyX3_ok kw_327 kw_329 kw_164 (by decide +kernel) (by decide) rfl defX3 z284.z ⟨by decide, by decide⟩ dX0_init_50 ?_
  refine V.nn (n2 := 165) rfl ?_
  have z285 := z284.up (m := 165) (by omega)
  refine V.dup (pc := 53) hG dX0_init_53 rfl ?_
  refine V.ccallN (pc := 54) (n2 := 165) hG (ct_X3 l Δ (164) (isA.of (by decide +kernel))  z285) mY_X3_init rfl kw_330 kw_331 ⟨by decide, by decide, by decide, by decide⟩ (by decide) dX0_init_54 ?_
  have z286 := zf_X3 164 z285
  refine V.caast 6 5 (pc := 57) (z := 96) (o := 68) (x := 92) (y := 164) hG (isA.of (by decide +kernel)) (by decide) (by decide) rfl (isA.of (by decide +kernel)) (by decide) (by decide) rfl (sR_l rfl) (by decide) (by decide) dX0_init_57 ?_
  have z287 := z286.sRf (o := 68) (kz := 92) (x := 164) (by decide)
  refine V.iinc (pc := 58) (x := 92) (lv' := [(1, .int (sJ 93)), (0, .ref (sA Δ 67))]) hG dX0_init_58 0 rfl (by decide) rfl ?_
  refine V.goto (pc := 61) (tgt := 39) hG dX0_init_61 (by decide) ?_
  refine V.iload_n (pc := 39) (x := 93) hG dX0_init_39 rfl 0 rfl ?_
  refine V.bipush (pc := 40) hG dX0_init_40 (by decide) ?_
  refine V.icmp_ge (pc := 42) (tgt := 64) hG (sR_l rfl) (sR_l rfl) dX0_init_42 (by decide) (fun c1 => absurd c1 (by decide)) (fun _ => ?_)
  refine V.aload_n (pc := 45) hG dX0_init_45 rfl 1 rfl ?_
  have f93 := (st_ne (by decide)).trans ((congrFun (fr_X3 164 (by decide)) _).trans (f92))
  refine V.getR (x := 68) (pc := 46) (ci := 2) (k := 0) (M := 5) (T := TX0) (o := 67) (kz := 0) hG (isA.of (by decide +kernel)) (by decide) (by decide) hin_X0 rfl (by decide) (by decide) rfl kw_402 rfl f93 (by decide) dX0_init_46 ?_
  refine V.iload_n (pc := 49) (x := 93) hG dX0_init_49 rfl 0 rfl ?_
  refine V.cnew (pc := 50) (ci := 5) (N := 13) (T := TX3) (ty := tyX3) hG hin_X3 rfl tyX3_ok kw_327 kw_329 kw_164 (by decide +kernel) (by decide) rfl defX3 z287.z ⟨by decide, by decide⟩ dX0_init_50 ?_
  refine V.nn (n2 := 166) rfl ?_
  have z288 := z287.up (m := 166) (by omega)
  refine V.dup (pc := 53) hG dX0_init_53 rfl ?_
  refine V.ccallN (pc := 54) (n2 := 166) hG (ct_X3 l Δ (165) (isA.of (by decide +kernel))  z288) mY_X3_init rfl kw_330 kw_331 ⟨by decide, by decide, by decide, by decide⟩ (by decide) dX0_init_54 ?_
  have z289 := zf_X3 165 z288
  refine V.caast 6 5 (pc := 57) (z := 96) (o := 68) (x := 93) (y := 165) hG (isA.of (by decide +kernel)) (by decide) (by decide) rfl (isA.of (by decide +kernel)) (by decide) (by decide) rfl (sR_l rfl) (by decide) (by decide) dX0_init_57 ?_
  have z290 := z289.sRf (o := 68) (kz := 93) (x := 165) (by decide)
  refine V.iinc (pc := 58) (x := 93) (lv' := [(1, .int (sJ 94)), (0, .ref (sA Δ 67))]) hG dX0_init_58 0 rfl (by decide) rfl ?_
  refine V.goto (pc := 61) (tgt := 39) hG dX0_init_61 (by decide) ?_
  refine V.iload_n (pc := 39) (x := 94) hG dX0_init_39 rfl 0 rfl ?_
  refine V.bipush (pc := 40) hG dX0_init_40 (by decide) ?_
  refine V.icmp_ge (pc := 42) (tgt := 64) hG (sR_l rfl) (sR_l rfl) dX0_init_42 (by decide) (fun c1 => absurd c1 (by decide)) (fun _ => ?_)
  refine V.aload_n (pc := 45) hG dX0_init_45 rfl 1 rfl ?_
  have f94 := (st_ne (by decide)).trans ((congrFun (fr_X3 165 (by decide)) _).trans (f93))
  refine V.getR (x := 68) (pc := 46) (ci := 2) (k := 0) (M := 5) (T := TX0) (o := 67) (kz := 0) hG (isA.of (by decide +kernel)) (by decide) (by decide) hin_X0 rfl (by decide) (by decide) rfl kw_402 rfl f94 (by decide) dX0_init_46 ?_
  refine V.iload_n (pc := 49) (x := 94) hG dX0_init_49 rfl 0 rfl ?_
  refine V.cnew (pc := 50) (ci := 5) (N := 13) (T := TX3) (ty := tyX3) hG hin_X3 rfl tyX3_ok kw_327 kw_329 kw_164 (by decide +kernel) (by decide) rfl defX3 z290.z ⟨by decide, by decide⟩ dX0_init_50 ?_
  refine V.nn (n2 := 167) rfl ?_
  have z291 := z290.up (m := 167) (by omega)
  refine V.dup (pc := 53) hG dX0_init_53 rfl ?_
  refine V.ccallN (pc := 54) (n2 := 167) hG (ct_X3 l Δ (166) (isA.of (by decide +kernel))  z291) mY_X3_init rfl kw_330 kw_331 ⟨by decide, by decide, by decide, by decide⟩ (by decide) dX0_init_54 ?_
  have z292 := zf_X3 166 z291
  refine V.caast 6 5 (pc := 57) (z := 96) (o := 68) (x := 94) (y := 166) hG (isA.of (by decide +kernel)) (by decide) (by decide) rfl (isA.of (by decide +kernel)) (by decide) (by decide) rfl (sR_l rfl) (by decide) (by decide) dX0_init_57 ?_
  have z293 := z292.sRf (o := 68) (kz := 94) (x := 166) (by decide)
  refine V.iinc (pc := 58) (x := 94) (lv' := [(1, .int (sJ 95)), (0, .ref (sA Δ 67))]) hG dX0_init_58 0 rfl (by decide) rfl ?_
  refine V.goto (pc := 61) (tgt := 39) hG dX0_init_61 (by decide) ?_
  refine V.iload_n (pc := 39) (x := 95) hG dX0_init_39 rfl 0 rfl ?_
  refine V.bipush (pc := 40) hG dX0_init_40 (by decide) ?_
  refine V.icmp_ge (pc := 42) (tgt := 64) hG (sR_l rfl) (sR_l rfl) dX0_init_42 (by decide) (fun c1 => absurd c1 (by decide)) (fun _ => ?_)
  refine V.aload_n (pc := 45) hG dX0_init_45 rfl 1 rfl ?_
  have f95 := (st_ne (by decide)).trans ((congrFun (fr_X3 166 (by decide)) _).trans (f94))
  refine V.getR (x := 68) (pc := 46) (ci := 2) (k := 0) (M := 5) (T := TX0) (o := 67) (kz := 0) hG (isA.of (by decide +kernel)) (by decide) (by decide) hin_X0 rfl (by decide) (by decide) rfl kw_402 rfl f95 (by decide) dX0_init_46 ?_
  refine V.iload_n (pc := 49) (x := 95) hG dX0_init_49 rfl 0 rfl ?_
  refine V.cnew (pc := 50) (ci := 5) (N := 13) (T := TX3) (ty := tyX3) hG hin_X3 rfl tyX3_ok kw_327 kw_329 kw_164 (by decide +kernel) (by decide) rfl defX3 z293.z ⟨by decide, by decide⟩ dX0_init_50 ?_
  refine V.nn (n2 := 168) rfl ?_
  have z294 := z293.up (m := 168) (by omega)
  refine V.dup (pc := 53) hG dX0_init_53 rfl ?_
  refine V.ccallN (pc := 54) (n2 := 168) hG (ct_X3 l Δ (167) (isA.of (by decide +kernel))  z294) mY_X3_init rfl kw_330 kw_331 ⟨by decide, by decide, by decide, by decide⟩ (by decide) dX0_init_54 ?_
  have z295 := zf_X3 167 z294
  refine V.caast 6 5 (pc := 57) (z := 96) (o := 68) (x := 95) (y := 167) hG (isA.of (by decide +kernel)) (by decide) (by decide) rfl (isA.of (by decide +kernel)) (by decide) (by decide) rfl (sR_l rfl) (by decide) (by decide) dX0_init_57 ?_
  have z296 := z295.sRf (o := 68) (kz := 95) (x := 167) (by decide)
  refine V.iinc (pc := 58) (x := 95) (lv' := [(1, .int (sJ 96)), (0, .ref (sA Δ 67))]) hG dX0_init_58 0 rfl (by decide) rfl ?_
  refine V.goto (pc := 61) (tgt := 39) hG dX0_init_61 (by decide) ?_
  refine V.iload_n (pc := 39) (x := 96) hG dX0_init_39 rfl 0 rfl ?_
  refine V.bipush (pc := 40) hG dX0_init_40 (by decide) ?_
  refine V.icmp_ge (pc := 42) (tgt := 64) hG (sR_l rfl) (sR_l rfl) dX0_init_42 (by decide) (fun _ => ?_) (fun c1 => absurd (by decide) c1)
  refine V.iconst (pc := 64) hG dX0_init_64 ?_
  refine V.istore_n (pc := 65) (lv' := [(1, .int (sJ 0)), (0, .ref (sA Δ 67))]) hG dX0_init_65 rfl (by decide) rfl ?_
  refine V.iload_n (pc := 66) (x := 0) hG dX0_init_66 rfl 0 rfl ?_
  refine V.bipush (pc := 67) hG dX0_init_67 (by decide) ?_
  refine V.icmp_ge (pc := 69) (tgt := 92) hG (sR_l rfl) (sR_l rfl) dX0_init_69 (by decide) (fun c1 => absurd c1 (by decide)) (fun _ => ?_)
  refine V.aload_n (pc := 72) hG dX0_init_72 rfl 1 rfl ?_
  have f96 := (st_ne (by decide)).trans ((congrFun (fr_X3 167 (by decide)) _).trans ((st_ne (by decide)).trans ((congrFun (fr_X3 166 (by decide)) _).trans ((st_ne (by decide)).trans ((congrFun (fr_X3 165 (by decide)) _).trans ((st_ne (by decide)).trans ((congrFun (fr_X3 164 (by decide)) _).trans ((st_ne (by decide)).trans ((congrFun (fr_X3 163 (by decide)) _).trans ((st_ne (by decide)).trans ((congrFun (fr_X3 162 (by decide)) _).trans ((st_ne (by decide)).trans ((congrFun (fr_X3 161 (by decide)) _).trans ((st_ne (by decide)).trans ((congrFun (fr_X3 160 (by decide)) _).trans ((st_ne (by decide)).trans ((congrFun (fr_X3 159 (by decide)) _).trans ((st_ne (by decide)).trans ((congrFun (fr_X3 158 (by decide)) _).trans ((st_ne (by decide)).trans ((congrFun (fr_X3 157 (by decide)) _).trans ((st_ne (by decide)).trans ((congrFun (fr_X3 156 (by decide)) _).trans ((st_ne (by decide)).trans ((congrFun (fr_X3 155 (by decide)) _).trans ((st_ne (by decide)).trans ((congrFun (fr_X3 154 (by decide)) _).trans ((st_ne (by decide)).trans ((congrFun (fr_X3 153 (by decide)) _).trans ((st_ne (by decide)).trans ((congrFun (fr_X3 152 (by decide)) _).trans ((st_ne (by decide)).trans ((congrFun (fr_X3 151 (by decide)) _).trans ((st_ne (by decide)).trans ((congrFun (fr_X3 150 (by decide)) _).trans ((st_ne (by decide)).trans ((congrFun (fr_X3 149 (by decide)) _).trans ((st_ne (by decide)).trans ((congrFun (fr_X3 148 (by decide)) _).trans ((st_ne (by decide)).trans ((congrFun (fr_X3 147 (by decide)) _).trans ((st_ne (by decide)).trans ((congrFun (fr_X3 146 (by decide)) _).trans ((st_ne (by decide)).trans ((congrFun (fr_X3 145 (by decide)) _).trans ((st_ne (by decide)).trans ((congrFun (fr_X3 144 (by decide)) _).trans ((st_ne (by decide)).trans ((congrFun (fr_X3 143 (by decide)) _).trans ((st_ne (by decide)).trans ((congrFun (fr_X3 142 (by decide)) _).trans ((st_ne (by decide)).trans ((congrFun (fr_X3 141 (by decide)) _).trans ((st_ne (by decide)).trans ((congrFun (fr_X3 140 (by decide)) _).trans ((st_ne (by decide)).trans ((congrFun (fr_X3 139 (by decide)) _).trans ((st_ne (by decide)).trans ((congrFun (fr_X3 138 (by decide)) _).trans ((st_ne (by decide)).trans ((congrFun (fr_X3 137 (by decide)) _).trans ((st_ne (by decide)).trans ((congrFun (fr_X3 136 (by decide)) _).trans ((st_ne (by decide)).trans ((congrFun (fr_X3 135 (by decide)) _).trans ((st_ne (by decide)).trans ((congrFun (fr_X3 134 (by decide)) _).trans ((st_ne (by decide)).trans ((congrFun (fr_X3 133 (by decide)) _).trans ((st_ne (by decide)).trans ((congrFun (fr_X3 132 (by decide)) _).trans ((st_ne (by decide)).trans ((congrFun (fr_X3 131 (by decide)) _).trans ((st_ne (by decide)).trans ((congrFun (fr_X3 130 (by decide)) _).trans ((st_ne (by decide)).trans ((congrFun (fr_X3 129 (by decide)) _).trans ((st_ne (by decide)).trans ((congrFun (fr_X3 128 (by decide)) _).trans ((st_ne (by decide)).trans ((congrFun (fr_X3 127 (by decide)) _).trans ((st_ne (by decide)).trans ((congrFun (fr_X3 126 (by decide)) _).trans ((st_ne (by decide)).trans ((congrFun (fr_X3 125 (by decide)) _).trans ((st_ne (by decide)).trans ((congrFun (fr_X3 124 (by decide)) _).trans ((st_ne (by decide)).trans ((congrFun (fr_X3 123 (by decide)) _).trans ((st_ne (by decide)).trans ((congrFun (fr_X3 122 (by decide)) _).trans ((st_ne (by decide)).trans ((congrFun (fr_X3 121 (by decide)) _).trans ((st_ne (by decide)).trans ((congrFun (fr_X3 120 (by decide)) _).trans ((st_ne (by decide)).trans ((congrFun (fr_X3 119 (by decide)) _).trans ((st_ne (by decide)).trans ((congrFun (fr_X3 118 (by decide)) _).trans ((st_ne (by decide)).trans ((congrFun (fr_X3 117 (by decide)) _).trans ((st_ne (by decide)).trans ((congrFun (fr_X3 116 (by decide)) _).trans ((st_ne (by decide)).trans ((congrFun (fr_X3 115 (by decide)) _).trans ((st_ne (by decide)).trans ((congrFun (fr_X3 114 (by decide)) _).trans ((st_ne (by decide)).trans ((congrFun (fr_X3 113 (by decide)) _).trans ((st_ne (by decide)).trans ((congrFun (fr_X3 112 (by decide)) _).trans ((st_ne (by decide)).trans ((congrFun (fr_X3 111 (by decide)) _).trans ((st_ne (by decide)).trans ((congrFun (fr_X3 110 (by decide)) _).trans ((st_ne (by decide)).trans ((congrFun (fr_X3 109 (by decide)) _).trans ((st_ne (by decide)).trans ((congrFun (fr_X3 108 (by decide)) _).trans ((st_ne (by decide)).trans ((congrFun (fr_X3 107 (by decide)) _).trans ((st_ne (by decide)).trans ((congrFun (fr_X3 106 (by decide)) _).trans ((st_ne (by decide)).trans ((congrFun (fr_X3 105 (by decide)) _).trans ((st_ne (by decide)).trans ((congrFun (fr_X3 104 (by decide)) _).trans ((st_ne (by decide)).trans ((congrFun (fr_X3 103 (by decide)) _).trans ((st_ne (by decide)).trans ((congrFun (fr_X3 102 (by decide)) _).trans ((st_ne (by decide)).trans ((congrFun (fr_X3 101 (by decide)) _).trans ((st_ne (by decide)).trans ((congrFun (fr_X3 100 (by decide)) _).trans ((st_ne (by decide)).trans ((congrFun (fr_X3 99 (by decide)) _).trans ((st_ne (by decide)).trans ((congrFun (fr_X3 98 (by decide)) _).trans ((st_ne (by decide)).trans ((congrFun (fr_X3 97 (by decide)) _).trans ((st_ne (by decide)).trans ((congrFun (fr_X3 96 (by decide)) _).trans ((st_ne (by decide)).trans ((congrFun (fr_X3 95 (by decide)) _).trans ((st_ne (by decide)).trans ((congrFun (fr_X3 94 (by decide)) _).trans ((st_ne (by decide)).trans ((congrFun (fr_X3 93 (by decide)) _).trans ((st_ne (by decide)).trans ((congrFun (fr_X3 92 (by decide)) _).trans ((st_ne (by decide)).trans ((congrFun (fr_X3 91 (by decide)) _).trans ((st_ne (by decide)).trans ((congrFun (fr_X3 90 (by decide)) _).trans ((st_ne (by decide)).trans ((congrFun (fr_X3 89 (by decide)) _).trans ((st_ne (by decide)).trans ((congrFun (fr_X3 88 (by decide)) _).trans ((st_ne (by decide)).trans ((congrFun (fr_X3 87 (by decide)) _).trans ((st_ne (by decide)).trans ((congrFun (fr_X3 86 (by decide)) _).trans ((st_ne (by decide)).trans ((congrFun (fr_X3 85 (by decide)) _).trans ((st_ne (by decide)).trans ((congrFun (fr_X3 84 (by decide)) _).trans ((st_ne (by decide)).trans ((congrFun (fr_X3 83 (by decide)) _).trans ((st_ne (by decide)).trans ((congrFun (fr_X3 82 (by decide)) _).trans ((st_ne (by decide)).trans ((congrFun (fr_X3 81 (by decide)) _).trans ((st_ne (by decide)).trans ((congrFun (fr_X3 80 (by decide)) _).trans ((st_ne (by decide)).trans ((congrFun (fr_X3 79 (by decide)) _).trans ((st_ne (by decide)).trans ((congrFun (fr_X3 78 (by decide)) _).trans ((st_ne (by decide)).trans ((congrFun (fr_X3 77 (by decide)) _).trans ((st_ne (by decide)).trans ((congrFun (fr_X3 76 (by decide)) _).trans ((st_ne (by decide)).trans ((congrFun (fr_X3 75 (by decide)) _).trans ((st_ne (by decide)).trans ((congrFun (fr_X3 74 (by decide)) _).trans ((st_ne (by decide)).trans ((congrFun (fr_X3 73 (by decide)) _).trans ((st_ne (by decide)).trans ((congrFun (fr_X3 72 (by decide)) _).trans ((st_ne (by decide)).trans ((st_ne (by decide)).trans (st_eq))))))))))))))))))))))))))))))))))))))))))))))))))))))))))))))))))))))))))))))))))))))))))))))))))))))))))))))))))))))))))))))))))))))))))))))))))))))))))))))))))))))))))))))))))))))))))))))))))
  refine V.getR (x := 69) (pc := 73) (ci := 2) (k := 1) (M := 5) (T := TX0) (o := 67) (kz := 1) hG (isA.of (by decide +kernel)) (by decide) (by decide) hin_X0 rfl (by decide) (by decide) rfl kw_408 rfl f96 (by decide) dX0_init_73 ?_
  refine V.iload_n (pc := 76) (x := 0) hG dX0_init_76 rfl 0 rfl ?_
  refine V.iconst (pc := 77) hG dX0_init_77 ?_
  refine V.ciast (pc := 78) (z := 7) (o := 69) (x := 0) (v := 1) hG (isA.of (by decide +kernel)) (by decide) (sR_l rfl) (by decide) dX0_init_78 ?_
  have z297 := z296.sI (o := 69) (kz := 0) (x := 1) (by decide)
  refine V.aload_n (pc := 79) hG dX0_init_79 rfl 1 rfl ?_
  have f97 := (st_ne (by decide)).trans ((congrFun (fr_X3 167 (by decide)) _).trans ((st_ne (by decide)).trans ((congrFun (fr_X3 166 (by decide)) _).trans ((st_ne (by decide)).trans ((congrFun (fr_X3 165 (by decide)) _).trans ((st_ne (by decide)).trans ((congrFun (fr_X3 164 (by decide)) _).trans ((st_ne (by decide)).trans ((congrFun (fr_X3 163 (by decide)) _).trans ((st_ne (by decide)).trans ((congrFun (fr_X3 162 (by decide)) _).trans ((st_ne (by decide)).trans ((congrFun (fr_X3 161 (by decide)) _).trans ((st_ne (by decide)).trans ((congrFun (fr_X3 160 (by decide)) _).trans ((st_ne (by decide)).trans ((congrFun (fr_X3 159 (by decide)) _).trans ((st_ne (by decide)).trans ((congrFun (fr_X3 158 (by decide)) _).trans ((st_ne (by decide)).trans ((congrFun (fr_X3 157 (by decide)) _).trans ((st_ne (by decide)).trans ((congrFun (fr_X3 156 (by decide)) _).trans ((st_ne (by decide)).trans ((congrFun (fr_X3 155 (by decide)) _).trans ((st_ne (by decide)).trans ((congrFun (fr_X3 154 (by decide)) _).trans ((st_ne (by decide)).trans ((congrFun (fr_X3 153 (by decide)) _).trans ((st_ne (by decide)).trans ((congrFun (fr_X3 152 (by decide)) _).trans ((st_ne (by decide)).trans ((congrFun (fr_X3 151 (by decide)) _).trans ((st_ne (by decide)).trans ((congrFun (fr_X3 150 (by decide)) _).trans ((st_ne (by decide)).trans ((congrFun (fr_X3 149 (by decide)) _).trans ((st_ne (by decide)).trans ((congrFun (fr_X3 148 (by decide)) _).trans ((st_ne (by decide)).trans ((congrFun (fr_X3 147 (by decide)) _).trans ((st_ne (by decide)).trans ((congrFun (fr_X3 146 (by decide)) _).trans ((st_ne (by decide)).trans ((congrFun (fr_X3 145 (by decide)) _).trans ((st_ne (by decide)).trans ((congrFun (fr_X3 144 (by decide)) _).trans ((st_ne (by decide)).trans ((congrFun (fr_X3 143 (by decide)) _).trans ((st_ne (by decide)).trans ((congrFun (fr_X3 142 (by decide)) _).trans ((st_ne (by decide)).trans ((congrFun (fr_X3 141 (by decide)) _).trans ((st_ne (by decide)).trans ((congrFun (fr_X3 140 (by decide)) _).trans ((st_ne (by decide)).trans ((congrFun (fr_X3 139 (by decide)) _).trans ((st_ne (by decide)).trans ((congrFun (fr_X3 138 (by decide)) _).trans ((st_ne (by decide)).trans ((congrFun (fr_X3 137 (by decide)) _).trans ((st_ne (by decide)).trans ((congrFun (fr_X3 136 (by decide)) _).trans ((st_ne (by decide)).trans ((congrFun (fr_X3 135 (by decide)) _).trans ((st_ne (by decide)).trans ((congrFun (fr_X3 134 (by decide)) _).trans ((st_ne (by decide)).trans ((congrFun (fr_X3 133 (by decide)) _).trans ((st_ne (by decide)).trans ((congrFun (fr_X3 132 (by decide)) _).trans ((st_ne (by decide)).trans ((congrFun (fr_X3 131 (by decide)) _).trans ((st_ne (by decide)).trans ((congrFun (fr_X3 130 (by decide)) _).trans ((st_ne (by decide)).trans ((congrFun (fr_X3 129 (by decide)) _).trans ((st_ne (by decide)).trans ((congrFun (fr_X3 128 (by decide)) _).trans ((st_ne (by decide)).trans ((congrFun (fr_X3 127 (by decide)) _).trans ((st_ne (by decide)).trans ((congrFun (fr_X3 126 (by decide)) _).trans ((st_ne (by decide)).trans ((congrFun (fr_X3 125 (by decide)) _).trans ((st_ne (by decide)).trans ((congrFun (fr_X3 124 (by decide)) _).trans ((st_ne (by decide)).trans ((congrFun (fr_X3 123 (by decide)) _).trans ((st_ne (by decide)).trans ((congrFun (fr_X3 122 (by decide)) _).trans ((st_ne (by decide)).trans ((congrFun (fr_X3 121 (by decide)) _).trans ((st_ne (by decide)).trans ((congrFun (fr_X3 120 (by decide)) _).trans ((st_ne (by decide)).trans ((congrFun (fr_X3 119 (by decide)) _).trans ((st_ne (by decide)).trans ((congrFun (fr_X3 118 (by decide)) _).trans ((st_ne (by decide)).trans ((congrFun (fr_X3 117 (by decide)) _).trans ((st_ne (by decide)).trans ((congrFun (fr_X3 116 (by decide)) _).trans ((st_ne (by decide)).trans ((congrFun (fr_X3 115 (by decide)) _).trans ((st_ne (by decide)).trans ((congrFun (fr_X3 114 (by decide)) _).trans ((st_ne (by decide)).trans ((congrFun (fr_X3 113 (by decide)) _).trans ((st_ne (by decide)).trans ((congrFun (fr_X3 112 (by decide)) _).trans ((st_ne (by decide)).trans ((congrFun (fr_X3 111 (by decide)) _).trans ((st_ne (by decide)).trans ((congrFun (fr_X3 110 (by decide)) _).trans ((st_ne (by decide)).trans ((congrFun (fr_X3 109 (by decide)) _).trans ((st_ne (by decide)).trans ((congrFun (fr_X3 108 (by decide)) _).trans ((st_ne (by decide)).trans ((congrFun (fr_X3 107 (by decide)) _).trans ((st_ne (by decide)).trans ((congrFun (fr_X3 106 (by decide)) _).trans ((st_ne (by decide)).trans ((congrFun (fr_X3 105 (by decide)) _).trans ((st_ne (by decide)).trans ((congrFun (fr_X3 104 (by decide)) _).trans ((st_ne (by decide)).trans ((congrFun (fr_X3 103 (by decide)) _).trans ((st_ne (by decide)).trans ((congrFun (fr_X3 102 (by decide)) _).trans ((st_ne (by decide)).trans ((congrFun (fr_X3 101 (by decide)) _).trans ((st_ne (by decide)).trans ((congrFun (fr_X3 100 (by decide)) _).trans ((st_ne (by decide)).trans ((congrFun (fr_X3 99 (by decide)) _).trans ((st_ne (by decide)).trans ((congrFun (fr_X3 98 (by decide)) _).trans ((st_ne (by decide)).trans ((congrFun (fr_X3 97 (by decide)) _).trans ((st_ne (by decide)).trans ((congrFun (fr_X3 96 (by decide)) _).trans ((st_ne (by decide)).trans ((congrFun (fr_X3 95 (by decide)) _).trans ((st_ne (by decide)).trans ((congrFun (fr_X3 94 (by decide)) _).trans ((st_ne (by decide)).trans ((congrFun (fr_X3 93 (by decide)) _).trans ((st_ne (by decide)).trans ((congrFun (fr_X3 92 (by decide)) _).trans ((st_ne (by decide)).trans ((congrFun (fr_X3 91 (by decide)) _).trans ((st_ne (by decide)).trans ((congrFun (fr_X3 90 (by decide)) _).trans ((st_ne (by decide)).trans ((congrFun (fr_X3 89 (by decide)) _).trans ((st_ne (by decide)).trans ((congrFun (fr_X3 88 (by decide)) _).trans ((st_ne (by decide)).trans ((congrFun (fr_X3 87 (by decide)) _).trans ((st_ne (by decide)).trans ((congrFun (fr_X3 86 (by decide)) _).trans ((st_ne (by decide)).trans ((congrFun (fr_X3 85 (by decide)) _).trans ((st_ne (by decide)).trans ((congrFun (fr_X3 84 (by decide)) _).trans ((st_ne (by decide)).trans ((congrFun (fr_X3 83 (by decide)) _).trans ((st_ne (by decide)).trans ((congrFun (fr_X3 82 (by decide)) _).trans ((st_ne (by decide)).trans ((congrFun (fr_X3 81 (by decide)) _).trans ((st_ne (by decide)).trans ((congrFun (fr_X3 80 (by decide)) _).trans ((st_ne (by decide)).trans ((congrFun (fr_X3 79 (by decide)) _).trans ((st_ne (by decide)).trans ((congrFun (fr_X3 78 (by decide)) _).trans ((st_ne (by decide)).trans ((congrFun (fr_X3 77 (by decide)) _).trans ((st_ne (by decide)).trans ((congrFun (fr_X3 76 (by decide)) _).trans ((st_ne (by decide)).trans ((congrFun (fr_X3 75 (by decide)) _).trans ((st_ne (by decide)).trans ((congrFun (fr_X3 74 (by decide)) _).trans ((st_ne (by decide)).trans ((congrFun (fr_X3 73 (by decide)) _).trans ((st_ne (by decide)).trans ((congrFun (fr_X3 72 (by decide)) _).trans ((st_ne (by decide)).trans (st_eq)))))))))))))))))))))))))))))))))))))))))))))))))))))))))))))))))))))))))))))))))))))))))))))))))))))))))))))))))))))))))))))))))))))))))))))))))))))))))))))))))))))))))))))))))))))))))))))))))
  refine V.getR (x := 70) (pc := 80) (ci := 2) (k := 2) (M := 5) (T := TX0) (o := 67) (kz := 2) hG (isA.of (by decide +kernel)) (by decide) (by decide) hin_X0 rfl (by decide) (by decide) rfl kw_412 rfl f97 (by decide) dX0_init_80 ?_
  refine V.iload_n (pc := 83) (x := 0) hG dX0_init_83 rfl 0 rfl ?_
  refine V.iconst (pc := 84) hG dX0_init_84 ?_
  refine V.ciast (pc := 85) (z := 7) (o := 70) (x := 0) (v := 1) hG (isA.of (by decide +kernel)) (by decide) (sR_l rfl) (by decide) dX0_init_85 ?_
  have z298 := z297.sI (o := 70) (kz := 0) (x := 1) (by decide)
  refine V.iinc (pc := 86) (x := 0) (lv' := [(1, .int (sJ 1)), (0, .ref (sA Δ 67))]) hG dX0_init_86 0 rfl (by decide) rfl ?_
  refine V.goto (pc := 89) (tgt := 66) hG dX0_init_89 (by decide) ?_
  refine V.iload_n (pc := 66) (x := 1) hG dX0_init_66 rfl 0 rfl ?_
  refine V.bipush (pc := 67) hG dX0_init_67 (by decide) ?_
  refine V.icmp_ge (pc := 69) (tgt := 92) hG (sR_l rfl) (sR_l rfl) dX0_init_69 (by decide) (fun c1 => absurd c1 (by decide)) (fun _ => ?_)
  refine V.aload_n (pc := 72) hG dX0_init_72 rfl 1 rfl ?_
  have f98 := f96
  refine V.getR (x := 69) (pc := 73) (ci := 2) (k := 1) (M := 5) (T := TX0) (o := 67) (kz := 1) hG (isA.of (by decide +kernel)) (by decide) (by decide) hin_X0 rfl (by decide) (by decide) rfl kw_408 rfl f98 (by decide) dX0_init_73 ?_
  refine V.iload_n (pc := 76) (x := 1) hG dX0_init_76 rfl 0 rfl ?_
  refine V.iconst (pc := 77) hG dX0_init_77 ?_
  refine V.ciast (pc := 78) (z := 7) (o := 69) (x := 1) (v := 1) hG (isA.of (by decide +kernel)) (by decide) (sR_l rfl) (by decide) dX0_init_78 ?_
  have z299 := z298.sI (o := 69) (kz := 1) (x := 1) (by decide)
  refine V.aload_n (pc := 79) hG dX0_init_79 rfl 1 rfl ?_
  have f99 := f97
  refine V.getR (x := 70) (pc := 80) (ci := 2) (k := 2) (M := 5) (T := TX0) (o := 67) (kz := 2) hG (isA.of (by decide +kernel)) (by decide) (by decide) hin_X0 rfl (by decide) (by decide) rfl kw_412 rfl f99 (by decide) dX0_init_80 ?_
  refine V.iload_n (pc := 83) (x := 1) hG dX0_init_83 rfl 0 rfl ?_
  refine V.iconst (pc := 84) hG dX0_init_84 ?_
  refine V.ciast (pc := 85) (z := 7) (o := 70) (x := 1) (v := 1) hG (isA.of (by decide +kernel)) (by decide) (sR_l rfl) (by decide) dX0_init_85 ?_
  have z300 := z299.sI (o := 70) (kz := 1) (x := 1) (by decide)
  refine V.iinc (pc := 86) (x := 1) (lv' := [(1, .int (sJ 2)), (0, .ref (sA Δ 67))]) hG dX0_init_86 0 rfl (by decide) rfl ?_
  refine V.goto (pc := 89) (tgt := 66) hG dX0_init_89 (by decide) ?_
  refine V.iload_n (pc := 66) (x := 2) hG dX0_init_66 rfl 0 rfl ?_
  refine V.bipush (pc := 67) hG dX0_init_67 (by decide) ?_
  refine V.icmp_ge (pc := 69) (tgt := 92) hG (sR_l rfl) (sR_l rfl) dX0_init_69 (by decide) (fun c1 => absurd c1 (by decide)) (fun _ => ?_)
  refine V.aload_n (pc := 72) hG dX0_init_72 rfl 1 rfl ?_
  have f100 := f98
  refine V.getR (x := 69) (pc := 73) (ci := 2) (k := 1) (M := 5) (T := TX0) (o := 67) (kz := 1) hG (isA.of (by decide +kernel)) (by decide) (by decide) hin_X0 rfl (by decide) (by decide) rfl kw_408 rfl f100 (by decide) dX0_init_73 ?_
  refine V.iload_n (pc := 76) (x := 2) hG dX0_init_76 rfl 0 rfl ?_
  refine V.iconst (pc := 77) hG dX0_init_77 ?_
  refine V.ciast (pc := 78) (z := 7) (o := 69) (x := 2) (v := 1) hG (isA.of (by decide +kernel)) (by decide) (sR_l rfl) (by decide) dX0_init_78 ?_
  have z301 := z300.sI (o := 69) (kz := 2) (x := 1) (by decide)
  refine V.aload_n (pc := 79) hG dX0_init_79 rfl 1 rfl ?_
  have f101 := f99
  refine V.getR (x := 70) (pc := 80) (ci := 2) (k := 2) (M := 5) (T := TX0) (o := 67) (kz := 2) hG (isA.of (by decide +kernel)) (by decide) (by decide) hin_X0 rfl (by decide) (by decide) rfl kw_412 rfl f101 (by decide) dX0_init_80 ?_
  refine V.iload_n (pc := 83) (x := 2) hG dX0_init_83 rfl 0 rfl ?_
  refine V.iconst (pc := 84) hG dX0_init_84 ?_
  refine V.ciast (pc := 85) (z := 7) (o := 70) (x := 2) (v := 1) hG (isA.of (by decide +kernel)) (by decide) (sR_l rfl) (by decide) dX0_init_85 ?_
  have z302 := z301.sI (o := 70) (kz := 2) (x := 1) (by decide)
  refine V.iinc (pc := 86) (x := 2) (lv' := [(1, .int (sJ 3)), (0, .ref (sA Δ 67))]) hG dX0_init_86 0 rfl (by decide) rfl ?_
  refine V.goto (pc := 89) (tgt := 66) hG dX0_init_89 (by decide) ?_
  refine V.iload_n (pc := 66) (x := 3) hG dX0_init_66 rfl 0 rfl ?_
  refine V.bipush (pc := 67) hG dX0_init_67 (by decide) ?_
  refine V.icmp_ge (pc := 69) (tgt := 92) hG (sR_l rfl) (sR_l rfl) dX0_init_69 (by decide) (fun c1 => absurd c1 (by decide)) (fun _ => ?_)
  refine V.aload_n (pc := 72) hG dX0_init_72 rfl 1 rfl ?_
  have f102 := f100
  refine V.getR (x := 69) (pc := 73) (ci := 2) (k := 1) (M := 5) (T := TX0) (o := 67) (kz := 1) hG (isA.of (by decide +kernel)) (by decide) (by decide) hin_X0 rfl (by decide) (by decide) rfl kw_408 rfl f102 (by decide) dX0_init_73 ?_
  refine V.iload_n (pc := 76) (x := 3) hG dX0_init_76 rfl 0 rfl ?_
  refine V.iconst (pc := 77) hG dX0_init_77 ?_
  refine V.ciast (pc := 78) (z := 7) (o := 69) (x := 3) (v := 1) hG (isA.of (by decide +kernel)) (by decide) (sR_l rfl) (by decide) dX0_init_78 ?_
  have z303 := z302.sI (o := 69) (kz := 3) (x := 1) (by decide)
  refine V.aload_n (pc := 79) hG dX0_init_79 rfl 1 rfl ?_
  have f103 := f101
  refine V.getR (x := 70) (pc := 80) (ci := 2) (k := 2) (M := 5) (T := TX0) (o := 67) (kz := 2) hG (isA.of (by decide +kernel)) (by decide) (by decide) hin_X0 rfl (by decide) (by decide) rfl kw_412 rfl f103 (by decide) dX0_init_80 ?_
  refine V.iload_n (pc := 83) (x := 3) hG dX0_init_83 rfl 0 rfl ?_
  refine V.iconst (pc := 84) hG dX0_init_84 ?_
  refine V.ciast (pc := 85) (z := 7) (o := 70) (x := 3) (v := 1) hG (isA.of (by decide +kernel)) (by decide) (sR_l rfl) (by decide) dX0_init_85 ?_
  have z304 := z303.sI (o := 70) (kz := 3) (x := 1) (by decide)
  refine V.iinc (pc := 86) (x := 3) (lv' := [(1, .int (sJ 4)), (0, .ref (sA Δ 67))]) hG dX0_init_86 0 rfl (by decide) rfl ?_
  refine V.goto (pc := 89) (tgt := 66) hG dX0_init_89 (by decide) ?_
  refine V.iload_n (pc := 66) (x := 4) hG dX0_init_66 rfl 0 rfl ?_
  refine V.bipush (pc := 67) hG dX0_init_67 (by decide) ?_
  refine V.icmp_ge (pc := 69) (tgt := 92) hG (sR_l rfl) (sR_l rfl) dX0_init_69 (by decide) (fun c1 => absurd c1 (by decide)) (fun _ => ?_)
  refine V.aload_n (pc := 72) hG dX0_init_72 rfl 1 rfl ?_
  have f104 := f102
  refine V.getR (x := 69) (pc := 73) (ci := 2) (k := 1) (M := 5) (T := TX0) (o := 67) (kz := 1) hG (isA.of (by decide +kernel)) (by decide) (by decide) hin_X0 rfl (by decide) (by decide) rfl kw_408 rfl f104 (by decide) dX0_init_73 ?_
  refine V.iload_n (pc := 76) (x := 4) hG dX0_init_76 rfl 0 rfl ?_
  refine V.iconst (pc := 77) hG dX0_init_77 ?_
  refine V.ciast (pc := 78) (z := 7) (o := 69) (x := 4) (v := 1) hG (isA.of (by decide +kernel)) (by decide) (sR_l rfl) (by decide) dX0_init_78 ?_
  have z305 := z304.sI (o := 69) (kz := 4) (x := 1) (by decide)
  refine V.aload_n (pc := 79) hG dX0_init_79 rfl 1 rfl ?_
  have f105 := f103
  refine V.getR (x := 70) (pc := 80) (ci := 2) (k := 2) (M := 5) (T := TX0) (o := 67) (kz := 2) hG (isA.of (by decide +kernel)) (by decide) (by decide) hin_X0 rfl (by decide) (by decide) rfl kw_412 rfl f105 (by decide) dX0_init_80 ?_
  refine V.iload_n (pc := 83) (x := 4) hG dX0_init_83 rfl 0 rfl ?_
  refine V.iconst (pc := 84) hG dX0_init_84 ?_
  refine V.ciast (pc := 85) (z := 7) (o := 70) (x := 4) (v := 1) hG (isA.of (by decide +kernel)) (by decide) (sR_l rfl) (by decide) dX0_init_85 ?_
  have z306 := z305.sI (o := 70) (kz := 4) (x := 1) (by decide)
  refine V.iinc (pc := 86) (x := 4) (lv' := [(1, .int (sJ 5)), (0, .ref (sA Δ 67))]) hG dX0_init_86 0 rfl (by decide) rfl ?_
  refine V.goto (pc := 89) (tgt := 66) hG dX0_init_89 (by decide) ?_
  refine V.iload_n (pc := 66) (x := 5) hG dX0_init_66 rfl 0 rfl ?_
  refine V.bipush (pc := 67) hG dX0_init_67 (by decide) ?_
  refine V.icmp_ge (pc := 69) (tgt := 92) hG (sR_l rfl) (sR_l rfl) dX0_init_69 (by decide) (fun c1 => absurd c1 (by decide)) (fun _ => ?_)
  refine V.aload_n (pc := 72) hG dX0_init_72 rfl 1 rfl ?_
  have f106 := f104
  refine V.getR (x := 69) (pc := 73) (ci := 2) (k := 1) (M := 5) (T := TX0) (o := 67) (kz := 1) hG (isA.of (by decide +kernel)) (by decide) (by decide) hin_X0 rfl (by decide) (by decide) rfl kw_408 rfl f106 (by decide) dX0_init_73 ?_
  refine V.iload_n (pc := 76) (x := 5) hG dX0_init_76 rfl 0 rfl ?_
  refine V.iconst (pc := 77) hG dX0_init_77 ?_
  refine V.ciast (pc := 78) (z := 7) (o := 69) (x := 5) (v := 1) hG (isA.of (by decide +kernel)) (by decide) (sR_l rfl) (by decide) dX0_init_78 ?_
  have z307 := z306.sI (o := 69) (kz := 5) (x := 1) (by decide)
  refine V.aload_n (pc := 79) hG dX0_init_79 rfl 1 rfl ?_
  have f107 := f105
  refine V.getR (x := 70) (pc := 80) (ci := 2) (k := 2) (M := 5) (T := TX0) (o := 67) (kz := 2) hG (isA.of (by decide +kernel)) (by decide) (by decide) hin_X0 rfl (by decide) (by decide) rfl kw_412 rfl f107 (by decide) dX0_init_80 ?_
  refine V.iload_n (pc := 83) (x := 5) hG dX0_init_83 rfl 0 rfl ?_
  refine V.iconst (pc := 84) hG dX0_init_84 ?_
  refine V.ciast (pc := 85) (z := 7) (o := 70) (x := 5) (v := 1) hG (isA.of (by decide +kernel)) (by decide) (sR_l rfl) (by decide) dX0_init_85 ?_
  have z308 := z307.sI (o := 70) (kz := 5) (x := 1) (by decide)
  refine V.iinc (pc := 86) (x := 5) (lv' := [(1, .int (sJ 6)), (0, .ref (sA Δ 67))]) hG dX0_init_86 0 rfl (by decide) rfl ?_
  refine V.goto (pc := 89) (tgt := 66) hG dX0_init_89 (by decide) ?_
  refine V.iload_n (pc := 66) (x := 6) hG dX0_init_66 rfl 0 rfl ?_
  refine V.bipush (pc := 67) hG dX0_init_67 (by decide) ?_
  refine V.icmp_ge (pc := 69) (tgt := 92) hG (sR_l rfl) (sR_l rfl) dX0_init_69 (by decide) (fun c1 => absurd c1 (by decide)) (fun _ => ?_)
  refine V.aload_n (pc := 72) hG dX0_init_72 rfl 1 rfl ?_
  have f108 := f106
  refine V.getR (x := 69) (pc := 73) (ci := 2) (k := 1) (M := 5) (T := TX0) (o := 67) (kz := 1) hG (isA.of (by decide +kernel)) (by decide) (by decide) hin_X0 rfl (by decide) (by decide) rfl kw_408 rfl f108 (by decide) dX0_init_73 ?_
  refine V.iload_n (pc := 76) (x := 6) hG dX0_init_76 rfl 0 rfl ?_
  refine V.iconst (pc := 77) hG dX0_init_77 ?_
  refine V.ciast (pc := 78) (z := 7) (o := 69) (x := 6) (v := 1) hG (isA.of (by decide +kernel)) (by decide) (sR_l rfl) (by decide) dX0_init_78 ?_
  have z309 := z308.sI (o := 69) (kz := 6) (x := 1) (by decide)
  refine V.aload_n (pc := 79) hG dX0_init_79 rfl 1 rfl ?_
  have f109 := f107
  refine V.getR (x := 70) (pc := 80) (ci := 2) (k := 2) (M := 5) (T := TX0) (o := 67) (kz := 2) hG (isA.of (by decide +kernel)) (by decide) (by decide) hin_X0 rfl (by decide) (by decide) rfl kw_412 rfl f109 (by decide) dX0_init_80 ?_
  refine V.iload_n (pc := 83) (x := 6) hG dX0_init_83 rfl 0 rfl ?_
  refine V.iconst (pc := 84) hG dX0_init_84 ?_
  refine V.ciast (pc := 85) (z := 7) (o := 70) (x := 6) (v := 1) hG (isA.of (by decide +kernel)) (by decide) (sR_l rfl) (by decide) dX0_init_85 ?_
  have z310 := z309.sI (o := 70) (kz := 6) (x := 1) (by decide)
  refine V.iinc (pc := 86) (x := 6) (lv' := [(1, .int (sJ 7)), (0, .ref (sA Δ 67))]) hG dX0_init_86 0 rfl (by decide) rfl ?_
  refine V.goto (pc := 89) (tgt := 66) hG dX0_init_89 (by decide) ?_
  refine V.iload_n (pc := 66) (x := 7) hG dX0_init_66 rfl 0 rfl ?_
  refine V.bipush (pc := 67) hG dX0_init_67 (by decide) ?_
  refine V.icmp_ge (pc := 69) (tgt := 92) hG (sR_l rfl) (sR_l rfl) dX0_init_69 (by decide) (fun _ => ?_) (fun c1 => absurd (by decide) c1)
  exact fin dX0_init_92 (by decide) (by decide)
set_option maxRecDepth 100000 in
theorem zf_X0 {i r : MI} (z0 : Zf (68) i r) : Zf (168) (cI_X0 i) (cR_X0 r) := by
  have z1 := z0.up (m := 69) (by omega)
  have z2 := z1.sRf (o := 67) (kz := 0) (x := 68) (by decide)
  have z3 := z2.up (m := 70) (by omega)
  have z4 := z3.sRf (o := 67) (kz := 1) (x := 69) (by decide)
  have z5 := z4.up (m := 71) (by omega)
  have z6 := z5.sRf (o := 67) (kz := 2) (x := 70) (by decide)
  have z7 := z6.up (m := 72) (by omega)
  have z8 := z7.sRf (o := 67) (kz := 3) (x := 71) (by decide)
  have z9 := z8.up (m := 73) (by omega)
  have z10 := zf_X3 72 z9
  have z11 := z10.sRf (o := 68) (kz := 0) (x := 72) (by decide)
  have z12 := z11.up (m := 74) (by omega)
  have z13 := zf_X3 73 z12
  have z14 := z13.sRf (o := 68) (kz := 1) (x := 73) (by decide)
  have z15 := z14.up (m := 75) (by omega)
  have z16 := zf_X3 74 z15
  have z17 := z16.sRf (o := 68) (kz := 2) (x := 74) (by decide)
  have z18 := z17.up (m := 76) (by omega)
  have z19 := zf_X3 75 z18
  have z20 := z19.sRf (o := 68) (kz := 3) (x := 75) (by decide)
  have z21 := z20.up (m := 77) (by omega)
  have z22 := zf_X3 76 z21
  have z23 := z22.sRf (o := 68) (kz := 4) (x := 76) (by decide)
  have z24 := z23.up (m := 78) (by omega)
  have z25 := zf_X3 77 z24
  have z26 := z25.sRf (o := 68) (kz := 5) (x := 77) (by decide)
  have z27 := z26.up (m := 79) (by omega)
  have z28 := zf_X3 78 z27
  have z29 := z28.sRf (o := 68) (kz := 6) (x := 78) (by decide)
  have z30 := z29.up (m := 80) (by omega)
  have z31 := zf_X3 79 z30
  have z32 := z31.sRf (o := 68) (kz := 7) (x := 79) (by decide)
  have z33 := z32.up (m := 81) (by omega)
  have z34 := zf_X3 80 z33
  have z35 := z34.sRf (o := 68) (kz := 8) (x := 80) (by decide)
  have z36 := z35.up (m := 82) (by omega)
  have z37 := zf_X3 81 z36
  have z38 := z37.sRf (o := 68) (kz := 9) (x := 81) (by decide)
  have z39 := z38.up (m := 83) (by omega)
  have z40 := zf_X3 82 z39
  have z41 := z40.sRf (o := 68) (kz := 10) (x := 82) (by decide)
  have z42 := z41.up (m := 84) (by omega)
  have z43 := zf_X3 83 z42
  have z44 := z43.sRf (o := 68) (kz := 11) (x := 83) (by decide)
  have z45 := z44.up (m := 85) (by omega)
  have z46 := zf_X3 84 z45
  have z47 := z46.sRf (o := 68) (kz := 12) (x := 84) (by decide)
  have z48 := z47.up (m := 86) (by omega)
  have z49 := zf_X3 85 z48
  have z50 := z49.sRf (o := 68) (kz := 13) (x := 85) (by decide)
  have z51 := z50.up (m := 87) (by omega)
  have z52 := zf_X3 86 z51
  have z53 := z52.sRf (o := 68) (kz := 14) (x := 86) (by decide)
  have z54 := z53.up (m := 88) (by omega)
  have z55 := zf_X3 87 z54
  have z56 := z55.sRf (o := 68) (kz := 15) (x := 87) (by decide)
  have z57 := z56.up (m := 89) (by omega)
  have z58 := zf_X3 88 z57
  have z59 := z58.sRf (o := 68) (kz := 16) (x := 88) (by decide)
  have z60 := z59.up (m := 90) (by omega)
  have z61 := zf_X3 89 z60
  have z62 := z61.sRf (o := 68) (kz := 17) (x := 89) (by decide)
  have z63 := z62.up (m := 91) (by omega)
  have z64 := zf_X3 90 z63
  have z65 := z64.sRf (o := 68) (kz := 18) (x := 90) (by decide)
  have z66 := z65.up (m := 92) (by omega)
  have z67 := zf_X3 91 z66
  have z68 := z67.sRf (o := 68) (kz := 19) (x := 91) (by decide)
  have z69 := z68.up (m := 93) (by omega)
  have z70 := zf_X3 92 z69
  have z71 := z70.sRf (o := 68) (kz := 20) (x := 92) (by decide)
  have z72 := z71.up (m := 94) (by omega)
  have z73 := zf_X3 93 z72
  have z74 := z73.sRf (o := 68) (kz := 21) (x := 93) (by decide)
  have z75 := z74.up (m := 95) (by omega)
  have z76 := zf_X3 94 z75
  have z77 := z76.sRf (o := 68) (kz := 22) (x := 94) (by decide)
  have z78 := z77.up (m := 96) (by omega)
  have z79 := zf_X3 95 z78
  have z80 := z79.sRf (o := 68) (kz := 23) (x := 95) (by decide)
  have z81 := z80.up (m := 97) (by omega)
  have z82 := zf_X3 96 z81
  have z83 := z82.sRf (o := 68) (kz := 24) (x := 96) (by decide)
  have z84 := z83.up (m := 98) (by omega)
  have z85 := zf_X3 97 z84
  have z86 := z85.sRf (o := 68) (kz := 25) (x := 97) (by decide)
  have z87 := z86.up (m := 99) (by omega)
  have z88 := zf_X3 98 z87
  have z89 := z88.sRf (o := 68) (kz := 26) (x := 98) (by decide)
  have z90 := z89.up (m := 100) (by omega)
  have z91 := zf_X3 99 z90
  have z92 := z91.sRf (o := 68) (kz := 27) (x := 99) (by decide)
  have z93 := z92.up (m := 101) (by omega)
  have z94 := zf_X3 100 z93
  have z95 := z94.sRf (o := 68) (kz := 28) (x := 100) (by decide)
  have z96 := z95.up (m := 102) (by omega)
  have z97 := zf_X3 101 z96
  have z98 := z97.sRf (o := 68) (kz := 29) (x := 101) (by decide)
  have z99 := z98.up (m := 103) (by omega)
  have z100 := zf_X3 102 z99
  have z101 := z100.sRf (o := 68) (kz := 30) (x := 102) (by decide)
  have z102 := z101.up (m := 104) (by omega)
  have z103 := zf_X3 103 z102
  have z104 := z103.sRf (o := 68) (kz := 31) (x := 103) (by decide)
  have z105 := z104.up (m := 105) (by omega)
  have z106 := zf_X3 104 z105
  have z107 := z106.sRf (o := 68) (kz := 32) (x := 104) (by decide)
  have z108 := z107.up (m := 106) (by omega)
  have z109 := zf_X3 105 z108
  have z110 := z109.sRf (o := 68) (kz := 33) (x := 105) (by decide)
  have z111 := z110.up (m := 107) (by omega)
  have z112 := zf_X3 106 z111
  have z113 := z112.sRf (o := 68) (kz := 34) (x := 106) (by decide)
  have z114 := z113.up (m := 108) (by omega)
  have z115 := zf_X3 107 z114
  have z116 := z115.sRf (o := 68) (kz := 35) (x := 107) (by decide)
  have z117 := z116.up (m := 109) (by omega)
  have z118 := zf_X3 108 z117
  have z119 := z118.sRf (o := 68) (kz := 36) (x := 108) (by decide)
  have z120 := z119.up (m := 110) (by omega)
  have z121 := zf_X3 109 z120
  have z122 := z121.sRf (o := 68) (kz := 37) (x := 109) (by decide)
  have z123 := z122.up (m := 111) (by omega)
  have z124 := zf_X3 110 z123
  have z125 := z124.sRf (o := 68) (kz := 38) (x := 110) (by decide)
  have z126 := z125.up (m := 112) (by omega)
  have z127 := zf_X3 111 z126
  have z128 := z127.sRf (o := 68) (kz := 39) (x := 111) (by decide)
  have z129 := z128.up (m := 113) (by omega)
  have z130 := zf_X3 112 z129
  have z131 := z130.sRf (o := 68) (kz := 40) (x := 112) (by decide)
  have z132 := z131.up (m := 114) (by omega)
  have z133 := zf_X3 113 z132
  have z134 := z133.sRf (o := 68) (kz := 41) (x := 113) (by decide)
  have z135 := z134.up (m := 115) (by omega)
  have z136 := zf_X3 114 z135
  have z137 := z136.sRf (o := 68) (kz := 42) (x := 114) (by decide)
  have z138 := z137.up (m := 116) (by omega)
  have z139 := zf_X3 115 z138
  have z140 := z139.sRf (o := 68) (kz := 43) (x := 115) (by decide)
  have z141 := z140.up (m := 117) (by omega)
  have z142 := zf_X3 116 z141
  have z143 := z142.sRf (o := 68) (kz := 44) (x := 116) (by decide)
  have z144 := z143.up (m := 118) (by omega)
  have z145 := zf_X3 117 z144
  have z146 := z145.sRf (o := 68) (kz := 45) (x := 117) (by decide)
  have z147 := z146.up (m := 119) (by omega)
  have z148 := zf_X3 118 z147
  have z149 := z148.sRf (o := 68) (kz := 46) (x := 118) (by decide)
  have z150 := z149.up (m := 120) (by omega)
  have z151 := zf_X3 119 z150
  have z152 := z151.sRf (o := 68) (kz := 47) (x := 119) (by decide)
  have z153 := z152.up (m := 121) (by omega)
  have z154 := zf_X3 120 z153
  have z155 := z154.sRf (o := 68) (kz := 48) (x := 120) (by decide)
  have z156 := z155.up (m := 122) (by omega)
  have z157 := zf_X3 121 z156
  have z158 := z157.sRf (o := 68) (kz := 49) (x := 121) (by decide)
  have z159 := z158.up (m := 123) (by omega)
  have z160 := zf_X3 122 z159
  have z161 := z160.sRf (o := 68) (kz := 50) (x := 122) (by decide)
  have z162 := z161.up (m := 124) (by omega)
  have z163 := zf_X3 123 z162
  have z164 := z163.sRf (o := 68) (kz := 51) (x := 123) (by decide)
  have z165 := z164.up (m := 125) (by omega)
  have z166 := zf_X3 124 z165
  have z167 := z166.sRf (o := 68) (kz := 52) (x := 124) (by decide)
  have z168 := z167.up (m := 126) (by omega)
  have z169 := zf_X3 125 z168
  have z170 := z169.sRf (o := 68) (kz := 53) (x := 125) (by decide)
  have z171 := z170.up (m := 127) (by omega)
  have z172 := zf_X3 126 z171
  have z173 := z172.sRf (o := 68) (kz := 54) (x := 126) (by decide)
  have z174 := z173.up (m := 128) (by omega)
  have z175 := zf_X3 127 z174
  have z176 := z175.sRf (o := 68) (kz := 55) (x := 127) (by decide)
  have z177 := z176.up (m := 129) (by omega)
  have z178 := zf_X3 128 z177
  have z179 := z178.sRf (o := 68) (kz := 56) (x := 128) (by decide)
  have z180 := z179.up (m := 130) (by omega)
  have z181 := zf_X3 129 z180
  have z182 := z181.sRf (o := 68) (kz := 57) (x := 129) (by decide)
  have z183 := z182.up (m := 131) (by omega)
  have z184 := zf_X3 130 z183
  have z185 := z184.sRf (o := 68) (kz := 58) (x := 130) (by decide)
  have z186 := z185.up (m := 132) (by omega)
  have z187 := zf_X3 131 z186
  have z188 := z187.sRf (o := 68) (kz := 59) (x := 131) (by decide)
  have z189 := z188.up (m := 133) (by omega)
  have z190 := zf_X3 132 z189
  have z191 := z190.sRf (o := 68) (kz := 60) (x := 132) (by decide)
  have z192 := z191.up (m := 134) (by omega)
  have z193 := zf_X3 133 z192
  have z194 := z193.sRf (o := 68) (kz := 61) (x := 133) (by decide)
  have z195 := z194.up (m := 135) (by omega)
  have z196 := zf_X3 134 z195
  have z197 := z196.sRf (o := 68) (kz := 62) (x := 134) (by decide)
  have z198 := z197.up (m := 136) (by omega)
  have z199 := zf_X3 135 z198
  have z200 := z199.sRf (o := 68) (kz := 63) (x := 135) (by decide)
  have z201 := z200.up (m := 137) (by omega)
  have z202 := zf_X3 136 z201
  have z203 := z202.sRf (o := 68) (kz := 64) (x := 136) (by decide)
  have z204 := z203.up (m := 138) (by omega)
  have z205 := zf_X3 137 z204
  have z206 := z205.sRf (o := 68) (kz := 65) (x := 137) (by decide)
  have z207 := z206.up (m := 139) (by omega)
  have z208 := zf_X3 138 z207
  have z209 := z208.sRf (o := 68) (kz := 66) (x := 138) (by decide)
  have z210 := z209.up (m := 140) (by omega)
  have z211 := zf_X3 139 z210
  have z212 := z211.sRf (o := 68) (kz := 67) (x := 139) (by decide)
  have z213 := z212.up (m := 141) (by omega)
  have z214 := zf_X3 140 z213
  have z215 := z214.sRf (o := 68) (kz := 68) (x := 140) (by decide)
  have z216 := z215.up (m := 142) (by omega)
  have z217 := zf_X3 141 z216
  have z218 := z217.sRf (o := 68) (kz := 69) (x := 141) (by decide)
  have z219 := z218.up (m := 143) (by omega)
  have z220 := zf_X3 142 z219
  have z221 := z220.sRf (o := 68) (kz := 70) (x := 142) (by decide)
  have z222 := z221.up (m := 144) (by omega)
  have z223 := zf_X3 143 z222
  have z224 := z223.sRf (o := 68) (kz := 71) (x := 143) (by decide)
  have z225 := z224.up (m := 145) (by omega)
  have z226 := zf_X3 144 z225
  have z227 := z226.sRf (o := 68) (kz := 72) (x := 144) (by decide)
  have z228 := z227.up (m := 146) (by omega)
  have z229 := zf_X3 145 z228
  have z230 := z229.sRf (o := 68) (kz := 73) (x := 145) (by decide)
  have z231 := z230.up (m := 147) (by omega)
  have z232 := zf_X3 146 z231
  have z233 := z232.sRf (o := 68) (kz := 74) (x := 146) (by decide)
  have z234 := z233.up (m := 148) (by omega)
  have z235 := zf_X3 147 z234
  have z236 := z235.sRf (o := 68) (kz := 75) (x := 147) (by decide)
  have z237 := z236.up (m := 149) (by omega)
  have z238 := zf_X3 148 z237
  have z239 := z238.sRf (o := 68) (kz := 76) (x := 148) (by decide)
  have z240 := z239.up (m := 150) (by omega)
  have z241 := zf_X3 149 z240
  have z242 := z241.sRf (o := 68) (kz := 77) (x := 149) (by decide)
  have z243 := z242.up (m := 151) (by omega)
  have z244 := zf_X3 150 z243
  have z245 := z244.sRf (o := 68) (kz := 78) (x := 150) (by decide)
  have z246 := z245.up (m := 152) (by omega)
  have z247 := zf_X3 151 z246
  have z248 := z247.sRf (o := 68) (kz := 79) (x := 151) (by decide)
  have z249 := z248.up (m := 153) (by omega)
  have z250 := zf_X3 152 z249
  have z251 := z250.sRf (o := 68) (kz := 80) (x := 152) (by decide)
  have z252 := z251.up (m := 154) (by omega)
  have z253 := zf_X3 153 z252
  have z254 := z253.sRf (o := 68) (kz := 81) (x := 153) (by decide)
  have z255 := z254.up (m := 155) (by omega)
  have z256 := zf_X3 154 z255
  have z257 := z256.sRf (o := 68) (kz := 82) (x := 154) (by decide)
  have z258 := z257.up (m := 156) (by omega)
  have z259 := zf_X3 155 z258
  have z260 := z259.sRf (o := 68) (kz := 83) (x := 155) (by decide)
  have z261 := z260.up (m := 157) (by omega)
  have z262 := zf_X3 156 z261
  have z263 := z262.sRf (o := 68) (kz := 84) (x := 156) (by decide)
  have z264 := z263.up (m := 158) (by omega)
  have z265 := zf_X3 157 z264
  have z266 := z265.sRf (o := 68) (kz := 85) (x := 157) (by decide)
  have z267 := z266.up (m := 159) (by omega)
  have z268 := zf_X3 158 z267
  have z269 := z268.sRf (o := 68) (kz := 86) (x := 158) (by decide)
  have z270 := z269.up (m := 160) (by omega)
  have z271 := zf_X3 159 z270
  have z272 := z271.sRf (o := 68) (kz := 87) (x := 159) (by decide)
  have z273 := z272.up (m := 161) (by omega)
  have z274 := zf_X3 160 z273
  have z275 := z274.sRf (o := 68) (kz := 88) (x := 160) (by decide)
  have z276 := z275.up (m := 162) (by omega)
  have z277 := zf_X3 161 z276
  have z278 := z277.sRf (o := 68) (kz := 89) (x := 161) (by decide)
  have z279 := z278.up (m := 163) (by omega)
  have z280 := zf_X3 162 z279
  have z281 := z280.sRf (o := 68) (kz := 90) (x := 162) (by decide)
  have z282 := z281.up (m := 164) (by omega)
  have z283 := zf_X3 163 z282
  have z284 := z283.sRf (o := 68) (kz := 91) (x := 163) (by decide)
  have z285 := z284.up (m := 165) (by omega)
  have z286 := zf_X3 164 z285
  have z287 := z286.sRf (o := 68) (kz := 92) (x := 164) (by decide)
  have z288 := z287.up (m := 166) (by omega)
  have z289 := zf_X3 165 z288
  have z290 := z289.sRf (o := 68) (kz := 93) (x := 165) (by decide)
  have z291 := z290.up (m := 167) (by omega)
  have z292 := zf_X3 166 z291
  have z293 := z292.sRf (o := 68) (kz := 94) (x := 166) (by decide)
  have z294 := z293.up (m := 168) (by omega)
  have z295 := zf_X3 167 z294
  have z296 := z295.sRf (o := 68) (kz := 95) (x := 167) (by decide)
  have z297 := z296.sI (o := 69) (kz := 0) (x := 1) (by decide)
  have z298 := z297.sI (o := 70) (kz := 0) (x := 1) (by decide)
  have z299 := z298.sI (o := 69) (kz := 1) (x := 1) (by decide)
  have z300 := z299.sI (o := 70) (kz := 1) (x := 1) (by decide)
  have z301 := z300.sI (o := 69) (kz := 2) (x := 1) (by decide)
  have z302 := z301.sI (o := 70) (kz := 2) (x := 1) (by decide)
  have z303 := z302.sI (o := 69) (kz := 3) (x := 1) (by decide)
  have z304 := z303.sI (o := 70) (kz := 3) (x := 1) (by decide)
  have z305 := z304.sI (o := 69) (kz := 4) (x := 1) (by decide)
  have z306 := z305.sI (o := 70) (kz := 4) (x := 1) (by decide)
  have z307 := z306.sI (o := 69) (kz := 5) (x := 1) (by decide)
  have z308 := z307.sI (o := 70) (kz := 5) (x := 1) (by decide)
  have z309 := z308.sI (o := 69) (kz := 6) (x := 1) (by decide)
  have z310 := z309.sI (o := 70) (kz := 6) (x := 1) (by decide)
  exact z310
set_option maxRecDepth 100000 in
theorem fr_X0 {r : MI} {a : Int} (ha : a < 67) : cR_X0 r a = r a := by
  unfold cR_X0
  repeat first | rfl | rw [st_row (by omega)] | rw [rowsR_row (by omega)] | rw [fr_X8 _ (by omega)] | rw [fr_X3 _ (by omega)] | rw [fr_X7 _ (by omega)] | rw [fr_X10 (by omega)] | rw [fr_X6 (by omega)] | rw [fr_X0 (by omega)] | rw [fr_X2 (by omega)] | rw [fr_X9 (by omega)] | rw [fr_X4 (by omega)] | rw [fr_X1 (by omega)] | rw [fr_X5 (by omega)]
def cI_X11 (i : MI) : MI := (st (st (cI_X5 (cI_X1 (cI_X4 (cI_X9 (cI_X2 (cI_X0 (cI_X7 61 (cI_X6 (cI_X10 i))))))))) 0 9 0) 0 10 0)
def cR_X11 (r : MI) : MI := (st (cR_X5 (st (cR_X1 (st (cR_X4 (st (cR_X9 (st (cR_X2 (st (cR_X0 (st (cR_X7 61 (st (cR_X6 (st (cR_X10 r) 0 0 1)) 0 1 3)) 0 2 61)) 0 3 67)) 0 4 168)) 0 5 461)) 0 6 469)) 0 7 480)) 0 8 488)
theorem mY_X11_init : mY yX11_init cX11_init 1 none 0 := ⟨kw_158, kw_191, by decide, by decide, by decide +kernel⟩
set_option maxRecDepth 100000 in
set_option maxHeartbeats 4000000 in
theorem ct_X11 (l : Launch) (Δ : Wd) {i r : MI}  (z0 : Zf (1) i r) : Met l yX11_init (Cond.code yX11_init cX11_init 1 none :: gW) (sRx 3 100 503 37568) (sPn Δ (1) [.ref (sA Δ 0)] i r) (sQn Δ (504) (cI_X11 i) (cR_X11 r)) 503 37568 (sFr Δ) := by
  refine Cc.v (by decide) rfl (Nat.le_of_ble_eq_true rfl) (fun Γ Q0 hG hini fin => ?_)
  have hG : okG Γ Δ l (sRx 3 100 503 37568) cX11_init "Schedulary" 1 := hG
  show V Γ Δ (1) true i r 0 0 Q0 0 [(0, .ref (sA Δ 0))] []
  refine V.aload_n (pc := 0) hG dX11_init_0 rfl 0 rfl ?_
  refine V.objInit (pc := 1) hG kw_192 kw_193 kw_194 (by decide) dX11_init_1 ?_
  refine V.aload_n (pc := 4) hG dX11_init_4 rfl 0 rfl ?_
  refine V.cnew (pc := 5) (ci := 12) (N := 3) (T := TX10) (ty := tyX10) hG hin_X10 rfl tyX10_ok kw_195 kw_196 kw_159 (by decide +kernel) (by decide) rfl defX10 z0.z ⟨by decide, by decide⟩ dX11_init_5 ?_
  refine V.nn (n2 := 2) rfl ?_
  have z1 := z0.up (m := 2) (by omega)
  refine V.dup (pc := 8) hG dX11_init_8 rfl ?_
  refine V.ccallN (pc := 9) (n2 := 3) hG (ct_X10 l Δ  z1) mY_X10_init rfl kw_197 kw_198 ⟨by decide, by decide, by decide, by decide⟩ (by decide) dX11_init_9 ?_
  have z2 := zf_X10 z1
  refine V.cputRF (pc := 12) (ci := 13) (k := 0) (M := 11) (T := TX11) (o := 0) (kz := 0) (x := 1) hG (isA.of (by decide +kernel)) (by decide) (by decide) hin_X11 rfl (by decide) (by decide) rfl kw_576 rfl tyX11 tyX11_ok nmX11 rfl hini rfl (ty := tyX11 0) (tyX11_ok 0 (by decide)) (by decide) (fun _ => rfl) (fun _ => rfl) dX11_init_12 ?_
  have z3 := z2.sRf (o := 0) (kz := 0) (x := 1) (by decide)
  refine V.aload_n (pc := 15) hG dX11_init_15 rfl 0 rfl ?_
  refine V.cnew (pc := 16) (ci := 8) (N := 9) (T := TX6) (ty := tyX6) hG hin_X6 rfl tyX6_ok kw_213 kw_214 kw_160 (by decide +kernel) (by decide) rfl defX6 z3.z ⟨by decide, by decide⟩ dX11_init_16 ?_
  refine V.nn (n2 := 4) rfl ?_
  have z4 := z3.up (m := 4) (by omega)
  refine V.dup (pc := 19) hG dX11_init_19 rfl ?_
  refine V.ccallN (pc := 20) (n2 := 61) hG (ct_X6 l Δ  z4) mY_X6_init rfl kw_215 kw_216 ⟨by decide, by decide, by decide, by decide⟩ (by decide) dX11_init_20 ?_
  have z5 := zf_X6 z4
  refine V.cputRF (pc := 23) (ci := 13) (k := 1) (M := 11) (T := TX11) (o := 0) (kz := 1) (x := 3) hG (isA.of (by decide +kernel)) (by decide) (by decide) hin_X11 rfl (by decide) (by decide) rfl kw_577 rfl tyX11 tyX11_ok nmX11 rfl hini rfl (ty := tyX11 1) (tyX11_ok 1 (by decide)) (by decide) (fun _ => rfl) (fun _ => rfl) dX11_init_23 ?_
  have z6 := z5.sRf (o := 0) (kz := 1) (x := 3) (by decide)
  refine V.aload_n (pc := 26) hG dX11_init_26 rfl 0 rfl ?_
  refine V.cnew (pc := 27) (ci := 9) (N := 5) (T := TX7) (ty := tyX7) hG hin_X7 rfl tyX7_ok kw_292 kw_293 kw_162 (by decide +kernel) (by decide) rfl defX7 z6.z ⟨by decide, by decide⟩ dX11_init_27 ?_
  refine V.nn (n2 := 62) rfl ?_
  have z7 := z6.up (m := 62) (by omega)
  refine V.dup (pc := 30) hG dX11_init_30 rfl ?_
  refine V.ccallN (pc := 31) (n2 := 67) hG (ct_X7 l Δ (61) (isA.of (by decide +kernel)) (isA.of (by decide +kernel)) (isA.of (by decide +kernel)) (isA.of (by decide +kernel)) (isA.of (by decide +kernel)) (isA.of (by decide +kernel)) (by decide +kernel) (by decide +kernel) (by decide +kernel) (by decide +kernel) (by decide +kernel) z7) mY_X7_init rfl kw_294 kw_295 ⟨by decide, by decide, by decide, by decide⟩ (by decide) dX11_init_31 ?_
  have z8 := zf_X7 61 z7
  refine V.cputRF (pc := 34) (ci := 13) (k := 2) (M := 11) (T := TX11) (o := 0) (kz := 2) (x := 61) hG (isA.of (by decide +kernel)) (by decide) (by decide) hin_X11 rfl (by decide) (by decide) rfl kw_578 rfl tyX11 tyX11_ok nmX11 rfl hini rfl (ty := tyX11 2) (tyX11_ok 2 (by decide)) (by decide) (fun _ => rfl) (fun _ => rfl) dX11_init_34 ?_
  have z9 := z8.sRf (o := 0) (kz := 2) (x := 61) (by decide)
  refine V.aload_n (pc := 37) hG dX11_init_37 rfl 0 rfl ?_
  refine V.cnew (pc := 38) (ci := 2) (N := 5) (T := TX0) (ty := tyX0) hG hin_X0 rfl tyX0_ok kw_321 kw_322 kw_163 (by decide +kernel) (by decide) rfl defX0 z9.z ⟨by decide, by decide⟩ dX11_init_38 ?_
  refine V.nn (n2 := 68) rfl ?_
  have z10 := z9.up (m := 68) (by omega)
  refine V.dup (pc := 41) hG dX11_init_41 rfl ?_
  refine V.ccallN (pc := 42) (n2 := 168) hG (ct_X0 l Δ  z10) mY_X0_init rfl kw_323 kw_324 ⟨by decide, by decide, by decide, by decide⟩ (by decide) dX11_init_42 ?_
  have z11 := zf_X0 z10
  refine V.cputRF (pc := 45) (ci := 13) (k := 3) (M := 11) (T := TX11) (o := 0) (kz := 3) (x := 67) hG (isA.of (by decide +kernel)) (by decide) (by decide) hin_X11 rfl (by decide) (by decide) rfl kw_579 rfl tyX11 tyX11_ok nmX11 rfl hini rfl (ty := tyX11 3) (tyX11_ok 3 (by decide)) (by decide) (fun _ => rfl) (fun _ => rfl) dX11_init_45 ?_
  have z12 := z11.sRf (o := 0) (kz := 3) (x := 67) (by decide)
  refine V.aload_n (pc := 48) hG dX11_init_48 rfl 0 rfl ?_
  refine V.cnew (pc := 49) (ci := 4) (N := 5) (T := TX2) (ty := tyX2) hG hin_X2 rfl tyX2_ok kw_433 kw_434 kw_165 (by decide +kernel) (by decide) rfl defX2 z12.z ⟨by decide, by decide⟩ dX11_init_49 ?_
  refine V.nn (n2 := 169) rfl ?_
  have z13 := z12.up (m := 169) (by omega)
  refine V.dup (pc := 52) hG dX11_init_52 rfl ?_
  refine V.ccallN (pc := 53) (n2 := 461) hG (ct_X2 l Δ  z13) mY_X2_init rfl kw_435 kw_436 ⟨by decide, by decide, by decide, by decide⟩ (by decide) dX11_init_53 ?_
  have z14 := zf_X2 z13
  refine V.cputRF (pc := 56) (ci := 13) (k := 4) (M := 11) (T := TX11) (o := 0) (kz := 4) (x := 168) hG (isA.of (by decide +kernel)) (by decide) (by decide) hin_X11 rfl (by decide) (by decide) rfl kw_580 rfl tyX11 tyX11_ok nmX11 rfl hini rfl (ty := tyX11 4) (tyX11_ok 4 (by decide)) (by decide) (fun _ => rfl) (fun _ => rfl) dX11_init_56 ?_
  have z15 := z14.sRf (o := 0) (kz := 4) (x := 168) (by decide)
  refine V.aload_n (pc := 59) hG dX11_init_59 rfl 0 rfl ?_
  refine V.cnew (pc := 60) (ci := 11) (N := 7) (T := TX9) (ty := tyX9) hG hin_X9 rfl tyX9_ok kw_466 kw_467 kw_166 (by decide +kernel) (by decide) rfl defX9 z15.z ⟨by decide, by decide⟩ dX11_init_60 ?_
  refine V.nn (n2 := 462) rfl ?_
  have z16 := z15.up (m := 462) (by omega)
  refine V.dup (pc := 63) hG dX11_init_63 rfl ?_
  refine V.ccallN (pc := 64) (n2 := 469) hG (ct_X9 l Δ  z16) mY_X9_init rfl kw_468 kw_469 ⟨by decide, by decide, by decide, by decide⟩ (by decide) dX11_init_64 ?_
  have z17 := zf_X9 z16
  refine V.cputRF (pc := 67) (ci := 13) (k := 5) (M := 11) (T := TX11) (o := 0) (kz := 5) (x := 461) hG (isA.of (by decide +kernel)) (by decide) (by decide) hin_X11 rfl (by decide) (by decide) rfl kw_581 rfl tyX11 tyX11_ok nmX11 rfl hini rfl (ty := tyX11 5) (tyX11_ok 5 (by decide)) (by decide) (fun _ => rfl) (fun _ => rfl) dX11_init_67 ?_
  have z18 := z17.sRf (o := 0) (kz := 5) (x := 461) (by decide)
  refine V.aload_n (pc := 70) hG dX11_init_70 rfl 0 rfl ?_
  refine V.cnew (pc := 71) (ci := 6) (N := 6) (T := TX4) (ty := tyX4) hG hin_X4 rfl tyX4_ok kw_497 kw_498 kw_167 (by decide +kernel) (by decide) rfl defX4 z18.z ⟨by decide, by decide⟩ dX11_init_71 ?_
  refine V.nn (n2 := 470) rfl ?_
  have z19 := z18.up (m := 470) (by omega)
  refine V.dup (pc := 74) hG dX11_init_74 rfl ?_
  refine V.ccallN (pc := 75) (n2 := 480) hG (ct_X4 l Δ  z19) mY_X4_init rfl kw_499 kw_500 ⟨by decide, by decide, by decide, by decide⟩ (by decide) dX11_init_75 ?_
  have z20 := zf_X4 z19
  refine V.cputRF (pc := 78) (ci := 13) (k := 6) (M := 11) (T := TX11) (o := 0) (kz := 6) (x := 469) hG (isA.of (by decide +kernel)) (by decide) (by decide) hin_X11 rfl (by decide) (by decide) rfl kw_582 rfl tyX11 tyX11_ok nmX11 rfl hini rfl (ty := tyX11 6) (tyX11_ok 6 (by decide)) (by decide) (fun _ => rfl) (fun _ => rfl) dX11_init_78 ?_
  have z21 := z20.sRf (o := 0) (kz := 6) (x := 469) (by decide)
  refine V.aload_n (pc := 81) hG dX11_init_81 rfl 0 rfl ?_
  refine V.cnew (pc := 82) (ci := 3) (N := 2) (T := TX1) (ty := tyX1) hG hin_X1 rfl tyX1_ok kw_529 kw_530 kw_168 (by decide +kernel) (by decide) rfl defX1 z21.z ⟨by decide, by decide⟩ dX11_init_82 ?_
  refine V.nn (n2 := 481) rfl ?_
  have z22 := z21.up (m := 481) (by omega)
  refine V.dup (pc := 85) hG dX11_init_85 rfl ?_
  refine V.ccallN (pc := 86) (n2 := 488) hG (ct_X1 l Δ  z22) mY_X1_init rfl kw_531 kw_532 ⟨by decide, by decide, by decide, by decide⟩ (by decide) dX11_init_86 ?_
  have z23 := zf_X1 z22
  refine V.cputRF (pc := 89) (ci := 13) (k := 7) (M := 11) (T := TX11) (o := 0) (kz := 7) (x := 480) hG (isA.of (by decide +kernel)) (by decide) (by decide) hin_X11 rfl (by decide) (by decide) rfl kw_583 rfl tyX11 tyX11_ok nmX11 rfl hini rfl (ty := tyX11 7) (tyX11_ok 7 (by decide)) (by decide) (fun _ => rfl) (fun _ => rfl) dX11_init_89 ?_
  have z24 := z23.sRf (o := 0) (kz := 7) (x := 480) (by decide)
  refine V.aload_n (pc := 92) hG dX11_init_92 rfl 0 rfl ?_
  refine V.cnew (pc := 93) (ci := 7) (N := 7) (T := TX5) (ty := tyX5) hG hin_X5 rfl tyX5_ok kw_545 kw_546 kw_169 (by decide +kernel) (by decide) rfl defX5 z24.z ⟨by decide, by decide⟩ dX11_init_93 ?_
  refine V.nn (n2 := 489) rfl ?_
  have z25 := z24.up (m := 489) (by omega)
  refine V.dup (pc := 96) hG dX11_init_96 rfl ?_
  refine V.ccallN (pc := 97) (n2 := 504) hG (ct_X5 l Δ  z25) mY_X5_init rfl kw_547 kw_548 ⟨by decide, by decide, by decide, by decide⟩ (by decide) dX11_init_97 ?_
  have z26 := zf_X5 z25
  refine V.cputRF (pc := 100) (ci := 13) (k := 8) (M := 11) (T := TX11) (o := 0) (kz := 8) (x := 488) hG (isA.of (by decide +kernel)) (by decide) (by decide) hin_X11 rfl (by decide) (by decide) rfl kw_584 rfl tyX11 tyX11_ok nmX11 rfl hini rfl (ty := tyX11 8) (tyX11_ok 8 (by decide)) (by decide) (fun _ => rfl) (fun _ => rfl) dX11_init_100 ?_
  have z27 := z26.sRf (o := 0) (kz := 8) (x := 488) (by decide)
  refine V.aload_n (pc := 103) hG dX11_init_103 rfl 0 rfl ?_
  refine V.iconst (pc := 104) hG dX11_init_104 ?_
  refine V.cputI (pc := 105) (ci := 13) (k := 9) (M := 11) (T := TX11) (o := 0) (kz := 9) (x := 0) hG (isA.of (by decide +kernel)) (by decide) (by decide) hin_X11 rfl (by decide) (by decide) rfl kw_585 rfl tyX11 tyX11_ok nmX11 rfl (ty := tyX11 9) (tyX11_ok 9 (by decide)) rfl rfl dX11_init_105 ?_
  have z28 := z27.sI (o := 0) (kz := 9) (x := 0) (by decide)
  refine V.aload_n (pc := 108) hG dX11_init_108 rfl 0 rfl ?_
  refine V.iconst (pc := 109) hG dX11_init_109 ?_
  refine V.cputI (pc := 110) (ci := 13) (k := 10) (M := 11) (T := TX11) (o := 0) (kz := 10) (x := 0) hG (isA.of (by decide +kernel)) (by decide) (by decide) hin_X11 rfl (by decide) (by decide) rfl kw_586 rfl tyX11 tyX11_ok nmX11 rfl (ty := tyX11 10) (tyX11_ok 10 (by decide)) (nar_z (by decide)) (fit_z (by decide)) dX11_init_110 ?_
  have z29 := z28.sI (o := 0) (kz := 10) (x := 0) (by decide)
  exact fin dX11_init_113 (by decide) (by decide)
set_option maxRecDepth 100000 in
theorem zf_X11 {i r : MI} (z0 : Zf (1) i r) : Zf (504) (cI_X11 i) (cR_X11 r) := by
  have z1 := z0.up (m := 2) (by omega)
  have z2 := zf_X10 z1
  have z3 := z2.sRf (o := 0) (kz := 0) (x := 1) (by decide)
  have z4 := z3.up (m := 4) (by omega)
  have z5 := zf_X6 z4
  have z6 := z5.sRf (o := 0) (kz := 1) (x := 3) (by decide)
  have z7 := z6.up (m := 62) (by omega)
  have z8 := zf_X7 61 z7
  have z9 := z8.sRf (o := 0) (kz := 2) (x := 61) (by decide)
  have z10 := z9.up (m := 68) (by omega)
  have z11 := zf_X0 z10
  have z12 := z11.sRf (o := 0) (kz := 3) (x := 67) (by decide)
  have z13 := z12.up (m := 169) (by omega)
  have z14 := zf_X2 z13
  have z15 := z14.sRf (o := 0) (kz := 4) (x := 168) (by decide)
  have z16 := z15.up (m := 462) (by omega)
  have z17 := zf_X9 z16
  have z18 := z17.sRf (o := 0) (kz := 5) (x := 461) (by decide)
  have z19 := z18.up (m := 470) (by omega)
  have z20 := zf_X4 z19
  have z21 := z20.sRf (o := 0) (kz := 6) (x := 469) (by decide)
  have z22 := z21.up (m := 481) (by omega)
  have z23 := zf_X1 z22
  have z24 := z23.sRf (o := 0) (kz := 7) (x := 480) (by decide)
  have z25 := z24.up (m := 489) (by omega)
  have z26 := zf_X5 z25
  have z27 := z26.sRf (o := 0) (kz := 8) (x := 488) (by decide)
  have z28 := z27.sI (o := 0) (kz := 9) (x := 0) (by decide)
  have z29 := z28.sI (o := 0) (kz := 10) (x := 0) (by decide)
  exact z29
set_option maxRecDepth 100000 in
theorem fr_X11 {r : MI} {a : Int} (ha : a < 0) : cR_X11 r a = r a := by
  unfold cR_X11
  repeat first | rfl | rw [st_row (by omega)] | rw [rowsR_row (by omega)] | rw [fr_X8 _ (by omega)] | rw [fr_X3 _ (by omega)] | rw [fr_X7 _ (by omega)] | rw [fr_X10 (by omega)] | rw [fr_X6 (by omega)] | rw [fr_X0 (by omega)] | rw [fr_X2 (by omega)] | rw [fr_X9 (by omega)] | rw [fr_X4 (by omega)] | rw [fr_X1 (by omega)] | rw [fr_X5 (by omega)]
