/-! ===== the constructors ===== -/
theorem defX0 : ∀ j, j < 5 → defaultValue (tyX0 j) = if rfk 2 j then .null else .int 0 := by decide +kernel
theorem defX1 : ∀ j, j < 2 → defaultValue (tyX1 j) = if rfk 3 j then .null else .int 0 := by decide +kernel
theorem defX2 : ∀ j, j < 5 → defaultValue (tyX2 j) = if rfk 4 j then .null else .int 0 := by decide +kernel
theorem defX3 : ∀ j, j < 13 → defaultValue (tyX3 j) = if rfk 5 j then .null else .int 0 := by decide +kernel
theorem defX4 : ∀ j, j < 6 → defaultValue (tyX4 j) = if rfk 6 j then .null else .int 0 := by decide +kernel
theorem defX5 : ∀ j, j < 7 → defaultValue (tyX5 j) = if rfk 7 j then .null else .int 0 := by decide +kernel
theorem defX6 : ∀ j, j < 9 → defaultValue (tyX6 j) = if rfk 8 j then .null else .int 0 := by decide +kernel
theorem defX7 : ∀ j, j < 5 → defaultValue (tyX7 j) = if rfk 9 j then .null else .int 0 := by decide +kernel
theorem defX8 : ∀ j, j < 4 → defaultValue (tyX8 j) = if rfk 10 j then .null else .int 0 := by decide +kernel
theorem defX9 : ∀ j, j < 7 → defaultValue (tyX9 j) = if rfk 11 j then .null else .int 0 := by decide +kernel
theorem defX10 : ∀ j, j < 3 → defaultValue (tyX10 j) = if rfk 12 j then .null else .int 0 := by decide +kernel
theorem defX11 : ∀ j, j < 11 → defaultValue (tyX11 j) = if rfk 13 j then .null else .int 0 := by decide +kernel
theorem defX12 : ∀ j, j < 49 → defaultValue (tyX12 j) = if rfk 14 j then .null else .int 0 := by decide +kernel
theorem ko_code : Cond.code Lib.objectInit ⟨#[0xb1]⟩ 1 none ∈ gW := gw_in (gt_1 (List.mem_of_getElem? (i := 37) (by decide +kernel))) (by decide +kernel)
def cI_X8 (o : Nat) (i : MI) : MI := (st i (((o : Nat)) : Int) 3 32)
def cR_X8 (o : Nat) (r : MI) : MI := (st (st (st r (((o : Nat)) : Int) 0 (((o + 1 : Nat)) : Int)) (((o : Nat)) : Int) 1 (((o + 2 : Nat)) : Int)) (((o : Nat)) : Int) 2 (((o + 3 : Nat)) : Int))
theorem mY_X8_init : mY yX8_init cX8_init 1 none 0 := ⟨kw_161, kw_226, by decide, by decide, by decide +kernel⟩
set_option maxRecDepth 100000 in
set_option maxHeartbeats 4000000 in
theorem ct_X8 (l : Launch) (Δ : Wd) (o : Nat) {i r : MI} (ha0 : isA (((o : Nat)) : Int) (10, 0)) (ha1 : isA (((o + 1 : Nat)) : Int) (20, 3)) (ha2 : isA (((o + 2 : Nat)) : Int) (20, 3)) (ha3 : isA (((o + 3 : Nat)) : Int) (22, 3)) (hl1 : lay (o + 1) = (20, 3)) (hl2 : lay (o + 2) = (20, 3)) (hl3 : lay (o + 3) = (22, 3)) (ho : o < 500) (z0 : Zf (o + 1) i r) : Met l yX8_init (Cond.code yX8_init cX8_init 1 none :: gW) (sRx 1 30 3 9) (sPn Δ (o + 1) [.ref (sA Δ (((o : Nat)) : Int))] i r) (sQn Δ (o + 4) (cI_X8 o i) (cR_X8 o r)) 3 9 (sFr Δ) := by
  refine Cc.v (by decide) rfl (Nat.le_of_ble_eq_true rfl) (fun Γ Q0 hG hini fin => ?_)
  have hG : okG Γ Δ l (sRx 1 30 3 9) cX8_init "Schedulary$Statement" 1 := hG
  show V Γ Δ (o + 1) true i r 0 0 Q0 0 [(0, .ref (sA Δ (((o : Nat)) : Int)))] []
  refine V.aload_n (pc := 0) hG dX8_init_0 rfl 0 rfl ?_
  refine V.objInit (pc := 1) hG kw_227 kw_193 ko_code (by decide) dX8_init_1 ?_
  refine V.aload_n (pc := 4) hG dX8_init_4 rfl 0 rfl ?_
  refine V.iconst (pc := 5) hG dX8_init_5 ?_
  refine V.cnewaI (pc := 6) (x := 3) (z := 3) hG kw_249 hl1 rfl (by decide) (by decide) (z0.z (by omega)) ⟨by decide, by decide⟩ dX8_init_6 ?_
  refine V.nn (n2 := o + 2) rfl ?_
  have z1 := z0.up (m := o + 2) (by omega)
  refine V.cputRF (pc := 8) (ci := 10) (k := 0) (M := 4) (T := TX8) (o := (((o : Nat)) : Int)) (kz := 0) (x := (((o + 1 : Nat)) : Int)) hG ha0 (by omega) (by decide) hin_X8 rfl (by decide) (by decide) rfl kw_228 rfl tyX8 tyX8_ok nmX8 rfl hini rfl (ty := tyX8 0) (tyX8_ok 0 (by decide)) (by omega) (fun _ => rfl) (fun _ => rfl) dX8_init_8 ?_
  have z2 := z1.sRf (o := (((o : Nat)) : Int)) (kz := 0) (x := (((o + 1 : Nat)) : Int)) (by omega)
  refine V.aload_n (pc := 11) hG dX8_init_11 rfl 0 rfl ?_
  refine V.iconst (pc := 12) hG dX8_init_12 ?_
  refine V.cnewaI (pc := 13) (x := 3) (z := 3) hG kw_249 hl2 rfl (by decide) (by decide) (z2.z (by omega)) ⟨by decide, by decide⟩ dX8_init_13 ?_
  refine V.nn (n2 := o + 3) rfl ?_
  have z3 := z2.up (m := o + 3) (by omega)
  refine V.cputRF (pc := 15) (ci := 10) (k := 1) (M := 4) (T := TX8) (o := (((o : Nat)) : Int)) (kz := 1) (x := (((o + 2 : Nat)) : Int)) hG ha0 (by omega) (by decide) hin_X8 rfl (by decide) (by decide) rfl kw_232 rfl tyX8 tyX8_ok nmX8 rfl hini rfl (ty := tyX8 1) (tyX8_ok 1 (by decide)) (by omega) (fun _ => rfl) (fun _ => rfl) dX8_init_15 ?_
  have z4 := z3.sRf (o := (((o : Nat)) : Int)) (kz := 1) (x := (((o + 2 : Nat)) : Int)) (by omega)
  refine V.aload_n (pc := 18) hG dX8_init_18 rfl 0 rfl ?_
  refine V.iconst (pc := 19) hG dX8_init_19 ?_
  refine V.cnewaZ (pc := 20) (x := 3) (z := 3) hG kw_250 hl3 rfl (by decide) (by decide) (z4.z (by omega)) ⟨by decide, by decide⟩ dX8_init_20 ?_
  refine V.nn (n2 := o + 4) rfl ?_
  have z5 := z4.up (m := o + 4) (by omega)
  refine V.cputRF (pc := 22) (ci := 10) (k := 2) (M := 4) (T := TX8) (o := (((o : Nat)) : Int)) (kz := 2) (x := (((o + 3 : Nat)) : Int)) hG ha0 (by omega) (by decide) hin_X8 rfl (by decide) (by decide) rfl kw_235 rfl tyX8 tyX8_ok nmX8 rfl hini rfl (ty := tyX8 2) (tyX8_ok 2 (by decide)) (by omega) (fun _ => rfl) (fun _ => rfl) dX8_init_22 ?_
  have z6 := z5.sRf (o := (((o : Nat)) : Int)) (kz := 2) (x := (((o + 3 : Nat)) : Int)) (by omega)
  refine V.aload_n (pc := 25) hG dX8_init_25 rfl 0 rfl ?_
  refine V.bipush (pc := 26) hG dX8_init_26 (by decide) ?_
  refine V.cputI (pc := 28) (ci := 10) (k := 3) (M := 4) (T := TX8) (o := (((o : Nat)) : Int)) (kz := 3) (x := 32) hG ha0 (by omega) (by decide) hin_X8 rfl (by decide) (by decide) rfl kw_238 rfl tyX8 tyX8_ok nmX8 rfl (ty := tyX8 3) (tyX8_ok 3 (by decide)) (nar_c (by decide)) (fit_c (by decide)) dX8_init_28 ?_
  have z7 := z6.sI (o := (((o : Nat)) : Int)) (kz := 3) (x := 32) (by omega)
  exact fin dX8_init_31 (by decide) (by decide)
set_option maxRecDepth 100000 in
theorem zf_X8 (o : Nat) {i r : MI} (z0 : Zf (o + 1) i r) : Zf (o + 4) (cI_X8 o i) (cR_X8 o r) := by
  have z1 := z0.up (m := o + 2) (by omega)
  have z2 := z1.sRf (o := (((o : Nat)) : Int)) (kz := 0) (x := (((o + 1 : Nat)) : Int)) (by omega)
  have z3 := z2.up (m := o + 3) (by omega)
  have z4 := z3.sRf (o := (((o : Nat)) : Int)) (kz := 1) (x := (((o + 2 : Nat)) : Int)) (by omega)
  have z5 := z4.up (m := o + 4) (by omega)
  have z6 := z5.sRf (o := (((o : Nat)) : Int)) (kz := 2) (x := (((o + 3 : Nat)) : Int)) (by omega)
  have z7 := z6.sI (o := (((o : Nat)) : Int)) (kz := 3) (x := 32) (by omega)
  exact z7
set_option maxRecDepth 100000 in
theorem fr_X8 (o : Nat) {r : MI} {a : Int} (ha : a < (((o : Nat)) : Int)) : cR_X8 o r a = r a := by
  unfold cR_X8
  repeat first | rfl | rw [st_row (by omega)] | rw [rowsR_row (by omega)]
def cI_X3 (o : Nat) (i : MI) : MI := i
def cR_X3 (o : Nat) (r : MI) : MI := r
theorem mY_X3_init : mY yX3_init cX3_init 1 none 0 := ⟨kw_164, kw_332, by decide, by decide, by decide +kernel⟩
set_option maxRecDepth 100000 in
set_option maxHeartbeats 4000000 in
theorem ct_X3 (l : Launch) (Δ : Wd) (o : Nat) {i r : MI} (ha0 : isA (((o : Nat)) : Int) (5, 0))  (ho : o < 500) (z0 : Zf (o + 1) i r) : Met l yX3_init (Cond.code yX3_init cX3_init 1 none :: gW) (sRx 1 30 0 0) (sPn Δ (o + 1) [.ref (sA Δ (((o : Nat)) : Int))] i r) (sQn Δ (o + 1) (cI_X3 o i) (cR_X3 o r)) 0 0 (sFr Δ) := by
  refine Cc.v (by decide) rfl (Nat.le_of_ble_eq_true rfl) (fun Γ Q0 hG hini fin => ?_)
  have hG : okG Γ Δ l (sRx 1 30 0 0) cX3_init "Schedulary$Node" 1 := hG
  show V Γ Δ (o + 1) true i r 0 0 Q0 0 [(0, .ref (sA Δ (((o : Nat)) : Int)))] []
  refine V.aload_n (pc := 0) hG dX3_init_0 rfl 0 rfl ?_
  refine V.objInit (pc := 1) hG kw_333 kw_193 ko_code (by decide) dX3_init_1 ?_
  exact fin dX3_init_4 (by decide) (by decide)
set_option maxRecDepth 100000 in
theorem zf_X3 (o : Nat) {i r : MI} (z0 : Zf (o + 1) i r) : Zf (o + 1) (cI_X3 o i) (cR_X3 o r) := by
  
  exact z0
set_option maxRecDepth 100000 in
theorem fr_X3 (o : Nat) {r : MI} {a : Int} (ha : a < (((o : Nat)) : Int)) : cR_X3 o r a = r a := by
  unfold cR_X3
  repeat first | rfl | rw [st_row (by omega)] | rw [rowsR_row (by omega)]
