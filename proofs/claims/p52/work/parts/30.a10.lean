/-! ===== what depends on statements, unrolling, units and cycles alone ===== -/
/-- the data without the rest -/
def co (u y : Int → Int) (D : Dat) : Dat := Dat.mk 0 (fun _ => 0) D.cnt D.fac 1 1 0 (fun _ => 0) (fun _ _ => 0) u y D.F D.N D.T D.O (fun _ => 0) (fun _ _ => 0) (fun _ _ => 0) (fun _ => 0)
theorem cnt_cor {u y : Int → Int} {D : Dat} : (co u y D).cnt = D.cnt := rfl
theorem fac_cor {u y : Int → Int} {D : Dat} : (co u y D).fac = D.fac := rfl
theorem un_cor {u y : Int → Int} {D : Dat} : (co u y D).un = u := rfl
theorem cy_cor {u y : Int → Int} {D : Dat} : (co u y D).cy = y := rfl
theorem F_cor {u y : Int → Int} {D : Dat} : (co u y D).F = D.F := rfl
theorem N_cor {u y : Int → Int} {D : Dat} : (co u y D).N = D.N := rfl
theorem T_cor {u y : Int → Int} {D : Dat} : (co u y D).T = D.T := rfl
theorem O_cor {u y : Int → Int} {D : Dat} : (co u y D).O = D.O := rfl
theorem rls_cor {u y : Int → Int} {D : Dat} : rls (co u y D) = rls D := rfl
theorem stK_cor {u y : Int → Int} {D : Dat} : stK (co u y D) = stK D := rfl
theorem ndl_cor {u y : Int → Int} {D : Dat} : ∀ n : Nat, ndl (co u y D) n = ndl D n := by
  intro n
  induction n with
  | zero => rfl
  | succ n ih =>
    show ndl (co u y D) n ++ (rls (co u y D) ((n : Int) % (co u y D).cnt)).map (fun q => ((n : Int), q)) = ndl D n ++ (rls D ((n : Int) % D.cnt)).map (fun q => ((n : Int), q))
    rw [ih, rls_cor, cnt_cor]
theorem nds_cor {u y : Int → Int} {D : Dat} : nds (co u y D) = nds D := by unfold nds; rw [ndl_cor, cnt_cor, fac_cor]
theorem nn_cor {u y : Int → Int} {D : Dat} : nn (co u y D) = nn D := by unfold nn; rw [nds_cor]
theorem nd_cor {u y : Int → Int} {D : Dat} : nd (co u y D) = nd D := by funext v; unfold nd; rw [nds_cor]
theorem kdN_cor {u y : Int → Int} {D : Dat} : kdN (co u y D) = kdN D := rfl
theorem mkN_cor {u y : Int → Int} {D : Dat} : mkN (co u y D) = mkN D := rfl
theorem usN_cor {u y : Int → Int} {D : Dat} : usN (co u y D) = usN D := rfl
theorem g1N_cor {u y : Int → Int} {D : Dat} : g1N (co u y D) = g1N D := rfl
theorem g2N_cor {u y : Int → Int} {D : Dat} : g2N (co u y D) = g2N D := rfl
theorem fpN_cor {u y : Int → Int} {D : Dat} : fpN (co u y D) = fpN D := rfl
theorem tnN_cor {u y : Int → Int} {D : Dat} : tnN (co u y D) = tnN D := rfl
theorem att_cor {u y : Int → Int} {D : Dat} : att (co u y D) = att D := rfl
theorem kdv_cor {u y : Int → Int} {D : Dat} : kdv (co u y D) = kdv D := by funext v; unfold kdv; rw [nd_cor, kdN_cor]
theorem mkv_cor {u y : Int → Int} {D : Dat} : mkv (co u y D) = mkv D := by funext v; unfold mkv; rw [nd_cor, mkN_cor]
theorem cyv_cor {u : Int → Int} {D : Dat} : cyv (co u D.cy D) = cyv D := by funext v; unfold cyv; rw [kdv_cor, cy_cor]
theorem usv_cor {u y : Int → Int} {D : Dat} : usv (co u y D) = usv D := by funext v p; unfold usv; rw [nd_cor, usN_cor]
theorem wrv_cor {u y : Int → Int} {D : Dat} : wrv (co u y D) = wrv D := by funext v; unfold wrv; rw [nd_cor]
theorem isMem_cor {u y : Int → Int} {D : Dat} : isMem (co u y D) = isMem D := by funext v; unfold isMem; rw [kdv_cor]
theorem isPrev_cor {u y : Int → Int} {D : Dat} : isPrev (co u y D) = isPrev D := by funext a b c; unfold isPrev; rw [nn_cor, mkv_cor]
theorem noPrev_cor {u y : Int → Int} {D : Dat} : noPrev (co u y D) = noPrev D := by funext a b; unfold noPrev; rw [nn_cor, mkv_cor]
theorem isNext_cor {u y : Int → Int} {D : Dat} : isNext (co u y D) = isNext D := by funext a b c; unfold isNext; rw [nn_cor, mkv_cor]
theorem noNext_cor {u y : Int → Int} {D : Dat} : noNext (co u y D) = noNext D := by funext a b; unfold noNext; rw [nn_cor, mkv_cor]
theorem isNextK_cor {u y : Int → Int} {D : Dat} : isNextK (co u y D) = isNextK D := by funext a b c; unfold isNextK; rw [nn_cor, kdv_cor]
theorem noNextK_cor {u y : Int → Int} {D : Dat} : noNextK (co u y D) = noNextK D := by funext a b; unfold noNextK; rw [nn_cor, kdv_cor]
theorem makeE_cor {u y : Int → Int} {D : Dat} : makeE (co u y D) = makeE D := by funext a b c d; unfold makeE; rw [isPrev_cor, noPrev_cor, nn_cor]
theorem nextE_cor {u y : Int → Int} {D : Dat} : nextE (co u y D) = nextE D := by funext a b c d; unfold nextE; rw [isNext_cor, noNext_cor]
theorem chanE_cor {u y : Int → Int} {D : Dat} : chanE (co u y D) = chanE D := by funext a b c; unfold chanE; rw [isNextK_cor, noNextK_cor, kdv_cor]
theorem memD_cor {u y : Int → Int} {D : Dat} : memD (co u y D) = memD D := by funext a b c; unfold memD; rw [nd_cor, tnN_cor, fpN_cor, fac_cor]
theorem memE_cor {u y : Int → Int} {D : Dat} : memE (co u y D) = memE D := by funext a b c; unfold memE; rw [memD_cor, kdv_cor, wrv_cor, isMem_cor]
theorem withE_cor {u y : Int → Int} {D : Dat} : withE (co u y D) = withE D := by funext a b; unfold withE; rw [nd_cor, g1N_cor, g2N_cor]
theorem Raw_cor {u : Int → Int} {D : Dat} : Raw (co u D.cy D) = Raw D := by funext a b c d; unfold Raw; rw [nn_cor, withE_cor, cyv_cor, usv_cor, makeE_cor, nextE_cor, mkv_cor, memE_cor, wrv_cor, chanE_cor]
theorem Ed_cor {u : Int → Int} {D : Dat} : Ed (co u D.cy D) = Ed D := by funext a b c d; unfold Ed; rw [Raw_cor]
theorem ocL_cor {u y : Int → Int} {D : Dat} : ocL (co u y D) = ocL D := rfl
theorem GA_cor {u y : Int → Int} {D : Dat} : GA (co u y D) = GA D := rfl
theorem M1_cor {u y : Int → Int} {D : Dat} {i r : MI} : M1 (co u y D) i r = M1 D i r := by unfold M1; rw [nds_cor, ocL_cor, GA_cor]
theorem M2_cor {u : Int → Int} {D : Dat} {i : MI} : M2 (co u D.cy D) i = M2 D i := by unfold M2 GrC; rw [Raw_cor]
theorem IsSoon_cor {u : Int → Int} {D : Dat} : IsSoon (co u D.cy D) = IsSoon D := by
  have s : ∀ n, sumN (co u D.cy D) n = sumN D n := by
    intro n
    induction n with
    | zero => rfl
    | succ n ih => show sumN (co u D.cy D) n + cyv (co u D.cy D) n = sumN D n + cyv D n; rw [ih, cyv_cor]
  have sc : sumC (co u D.cy D) = sumC D := by funext v; unfold sumC; rw [s]
  funext a; unfold IsSoon; rw [nn_cor, sc, Ed_cor]
theorem IsEnd_cor {u : Int → Int} {D : Dat} : IsEnd (co u D.cy D) = IsEnd D := by funext a b; unfold IsEnd; rw [nn_cor, cyv_cor]
theorem IsLate_cor {u : Int → Int} {D : Dat} : IsLate (co u D.cy D) = IsLate D := by funext a b; unfold IsLate; rw [nn_cor, cyv_cor, Ed_cor]
theorem cntN_cor {u : Int → Int} {D : Dat} : ∀ ls k c n, cntN (co u D.cy D) ls k c n = cntN D ls k c n := by
  intro ls k c n
  induction n with
  | zero => rfl
  | succ n ih => show cntN (co u D.cy D) ls k c n + (if kdv (co u D.cy D) n = k ∧ ls n = c then 1 else 0) = cntN D ls k c n + (if kdv D n = k ∧ ls n = c then 1 else 0); rw [ih, kdv_cor]
theorem cntL_cor {u : Int → Int} {D : Dat} : cntL (co u D.cy D) = cntL D := by funext a b c; unfold cntL; rw [cntN_cor, nn_cor]
theorem ready_cor {D : Dat} : ready (co D.un D.cy D) = ready D := by funext a b c; unfold ready; rw [nn_cor, Ed_cor, cntL_cor, kdv_cor, un_cor]
theorem chosen_cor {D : Dat} : chosen (co D.un D.cy D) = chosen D := by funext a b c d; unfold chosen; rw [ready_cor]
theorem allL_cor {D : Dat} : allL (co D.un D.cy D) = allL D := by funext a; unfold allL; rw [nn_cor]
theorem LR_cor {D : Dat} {la : Int → Int} : ∀ n c ls fin, LR (co D.un D.cy D) la n c ls fin = LR D la n c ls fin := by
  intro n
  induction n with
  | zero => intro c ls fin; show (allL (co D.un D.cy D) ls ∧ ∀ v, 0 ≤ v → v < nn (co D.un D.cy D) → fin v = ls v) = (allL D ls ∧ ∀ v, 0 ≤ v → v < nn D → fin v = ls v); rw [allL_cor, nn_cor]
  | succ n ih =>
    intro c ls fin
    show ((∃ k, chosen (co D.un D.cy D) la c ls k ∧ LR (co D.un D.cy D) la n c (iup ls k c) fin) ∨ (¬ allL (co D.un D.cy D) ls ∧ (∀ k, ¬ ready (co D.un D.cy D) c ls k) ∧ LR (co D.un D.cy D) la n (c + 1) ls fin)) = ((∃ k, chosen D la c ls k ∧ LR D la n c (iup ls k c) fin) ∨ (¬ allL D ls ∧ (∀ k, ¬ ready D c ls k) ∧ LR D la n (c + 1) ls fin))
    simp only [ih, chosen_cor, allL_cor, ready_cor]
theorem JL_cor {D : Dat} : JL (co D.un D.cy D) = JL D := by funext a b; unfold JL; rw [nn_cor, cyv_cor]
theorem IsList_cor {D : Dat} : IsList (co D.un D.cy D) = IsList D := by funext a b; unfold IsList; simp only [LR_cor, allL_cor, JL_cor]
theorem M3_cor {D : Dat} {i : MI} : M3 (co D.un D.cy D) i = M3 D i := by unfold M3; rw [IsSoon_cor, IsEnd_cor, IsLate_cor, IsList_cor]
theorem Feas_cor {D : Dat} : Feas (co D.un D.cy D) = Feas D := by funext a b; unfold Feas; rw [nn_cor, Ed_cor]
theorem CanR_cor {D : Dat} : CanR (co D.un D.cy D) = CanR D := by funext a; unfold CanR; rw [Feas_cor]
theorem IsRing_cor {D : Dat} : IsRing (co D.un D.cy D) = IsRing D := by funext a; unfold IsRing; rw [CanR_cor]
theorem nIk_cor {D : Dat} : nIk (co D.un D.cy D) = nIk D := by funext k; unfold nIk kcN; rw [nds_cor, ocL_cor, un_cor]
theorem uMx_cor {D : Dat} : ∀ n, uMx (co D.un D.cy D) n = uMx D n := by
  intro n
  induction n with
  | zero => rfl
  | succ n ih => show max (uMx (co D.un D.cy D) n) (nIk (co D.un D.cy D) n) = max (uMx D n) (nIk D n); rw [ih, nIk_cor]
theorem uT_cor {D : Dat} : uT (co D.un D.cy D) = uT D := uMx_cor 7
theorem FromP_cor {D : Dat} : FromP (co D.un D.cy D) = FromP D := by funext a b c d; unfold FromP; rw [Ed_cor]
theorem BackP_cor {D : Dat} : BackP (co D.un D.cy D) = BackP D := by funext a b c d; unfold BackP; rw [Ed_cor]
theorem UseP_cor {D : Dat} : UseP (co D.un D.cy D) = UseP D := by funext a b c d e; unfold UseP; rw [kdv_cor]
theorem FreeP_cor {D : Dat} : FreeP (co D.un D.cy D) = FreeP D := by funext a b c d; unfold FreeP; rw [UseP_cor, kdv_cor, un_cor]
theorem FitP_cor {D : Dat} : FitP (co D.un D.cy D) = FitP D := by funext a b c d; unfold FitP; rw [BackP_cor, FreeP_cor]
theorem PutP_cor {D : Dat} : PutP (co D.un D.cy D) = PutP D := by funext a b c d e; unfold PutP; rw [FromP_cor, FitP_cor]
theorem PlU_cor {D : Dat} : PlU (co D.un D.cy D) = PlU D := by funext a b c; unfold PlU; rw [PutP_cor]
theorem CanP_cor {D : Dat} : CanP (co D.un D.cy D) = CanP D := by funext a; unfold CanP; rw [PlU_cor, nn_cor]
theorem IsInt_cor {D : Dat} : IsInt (co D.un D.cy D) = IsInt D := by funext a; unfold IsInt; rw [IsRing_cor, uT_cor, CanP_cor]
theorem M4_cor {D : Dat} {i : MI} : M4 (co D.un D.cy D) i = M4 D i := by unfold M4; rw [IsRing_cor, uT_cor, IsInt_cor, PlU_cor, nn_cor]

/-! ===== what has been made ===== -/
def KPn (D : Dat) (n : Int) (i r : MI) : Prop := (1 ≤ n → M1 D i r) ∧ (2 ≤ n → M2 D i) ∧ (3 ≤ n → M3 D i) ∧ (4 ≤ n → M4 D i) ∧ (5 ≤ n → M5 D i)
theorem KPn.m1 {D : Dat} {n : Int} {i r : MI} (h0 : KPn D n i r) : 1 ≤ n → M1 D i r := h0.1
theorem KPn.m2 {D : Dat} {n : Int} {i r : MI} (h0 : KPn D n i r) : 2 ≤ n → M2 D i := h0.2.1
theorem KPn.m3 {D : Dat} {n : Int} {i r : MI} (h0 : KPn D n i r) : 3 ≤ n → M3 D i := h0.2.2.1
theorem KPn.m4 {D : Dat} {n : Int} {i r : MI} (h0 : KPn D n i r) : 4 ≤ n → M4 D i := h0.2.2.2.1
theorem KPn.m5 {D : Dat} {n : Int} {i r : MI} (h0 : KPn D n i r) : 5 ≤ n → M5 D i := h0.2.2.2.2
theorem KPn.mk {D : Dat} {n : Int} {i r : MI} (h0 : 1 ≤ n → M1 D i r) (h1 : 2 ≤ n → M2 D i) (h2 : 3 ≤ n → M3 D i) (h3 : 4 ≤ n → M4 D i) (h4 : 5 ≤ n → M5 D i) : KPn D n i r := ⟨h0, h1, h2, h3, h4⟩
theorem M1.keep {D : Dat} (ok : DOk D) {i i' r r' : MI} (h : M1 D i r) (g : ∀ a, 67 ≤ a → a < 168 → a ≠ 69 → a ≠ 70 → i' a = i a) (gr : ∀ a, 72 ≤ a → a < 168 → r' a = r a) (g4 : r' 4 = r 4) : M1 D i' r' := by
  have nl := nds_len ok
  unfold M1 at h ⊢
  rw [g4]
  refine ⟨by rw [g 67 (by decide) (by decide) (by decide) (by decide)]; exact h.n, fun v s f hv => ?_, fun k a b => by rw [g 71 (by decide) (by decide) (by decide) (by decide)]; exact h.o k a b⟩
  have l := get_lt hv
  rw [GA_len] at l
  have := h.g v s f hv
  rw [gr _ (by omega) (by omega)]
  exact ⟨this.1, fun c c0 c1 => by rw [g _ (by omega) (by omega) (by omega) (by omega)]; exact this.2 c c0 c1⟩
theorem M3.keep {D : Dat} {i i' : MI} (h : M3 D i) (g : ∀ a, 462 ≤ a → a ≤ 464 → i' a = i a) : M3 D i' :=
  ⟨by rw [g 462 (by decide) (by decide)]; exact h.so, by rw [g 462 (by decide) (by decide), g 463 (by decide) (by decide)]; exact h.la, by rw [g 463 (by decide) (by decide), g 464 (by decide) (by decide)]; exact h.li⟩
theorem KPn.keep {D : Dat} (ok : DOk D) {n : Int} {i i' r r' : MI} (h : KPn D n i r) (g : ∀ a, 67 ≤ a → a ≤ 487 → a ≠ 69 → a ≠ 70 → i' a = i a) (gr : ∀ a, 72 ≤ a → a < 168 → r' a = r a) (g4 : r' 4 = r 4) : KPn D n i' r' := by
  refine ⟨fun z => (h.m1 z).keep ok (fun a x y z w => g a x (by omega) z w) gr g4, fun z => ?_, fun z => (h.m3 z).keep (fun a x y => g a (by omega) (by omega) (by omega) (by omega)), fun z => (h.m4 z).congr (g 469 (by decide) (by decide) (by decide) (by decide)) (g 470 (by decide) (by decide) (by decide) (by decide)), fun z => CSt.congr (h.m5 z) (fun a x y => g a (by omega) (by omega) (by omega) (by omega))⟩
  have nl := nn_le ok
  have m := h.m2 z
  refine ⟨?_, ?_, ?_, ?_, m.r, ?_⟩
  · rw [g _ (by omega) (by omega) (by omega) (by omega)]; exact m.z
  · intro f e f0 f1; rw [g 460 (by omega) (by omega) (by omega) (by omega), g _ (by omega) (by omega) (by omega) (by omega), g _ (by omega) (by omega) (by omega) (by omega), g _ (by omega) (by omega) (by omega) (by omega)]; exact m.e f e f0 f1
  · intro f t d w hS
    have hf := hS.1
    have hf1 := hS.2.1
    rw [g 460 (by omega) (by omega) (by omega) (by omega), g _ (by omega) (by omega) (by omega) (by omega), g _ (by omega) (by omega) (by omega) (by omega)]; exact m.s f t d w hS
  · intro f e e' f0 f1; rw [g 460 (by omega) (by omega) (by omega) (by omega), g _ (by omega) (by omega) (by omega) (by omega), g _ (by omega) (by omega) (by omega) (by omega)]; exact m.u f e e' f0 f1
  · rw [g _ (by omega) (by omega) (by omega) (by omega)]; exact m.c
theorem KPn.le {D : Dat} {n n' : Int} {i r : MI} (h : KPn D n i r) (l : n' ≤ n) : KPn D n' i r :=
  ⟨fun z => h.m1 (by omega), fun z => h.m2 (by omega), fun z => h.m3 (by omega), fun z => h.m4 (by omega), fun z => h.m5 (by omega)⟩
theorem M1.nv {D : Dat} {i r : MI} (h : ClassP D i r) (m : M1 D i r) : NV D i := NV.of h m
theorem M1.mc {D : Dat} {i r : MI} (h : ClassP D i r) (m : M1 D i r) : MC D i := ⟨fun k a b => m.o k a b, h.un⟩
/-- what preparing leaves -/
def Pq (D : Dat) (k : Int) (i r i' r' : MI) : Prop := (ClassP D i' r') ∧ (KPn D (i' 0 9) i' r') ∧ (k ≤ i' 0 9) ∧ (∀ c, c ≠ 9 → i' 0 c = i 0 c) ∧ (∀ a, 1 ≤ a → a ≤ 66 → i' a = i a) ∧ (∀ a, 488 ≤ a → i' a = i a)
theorem Pq.p {D : Dat} {k : Int} {i r i' r' : MI} (h0 : Pq D k i r i' r') : ClassP D i' r' := h0.1
theorem Pq.kp {D : Dat} {k : Int} {i r i' r' : MI} (h0 : Pq D k i r i' r') : KPn D (i' 0 9) i' r' := h0.2.1
theorem Pq.ge {D : Dat} {k : Int} {i r i' r' : MI} (h0 : Pq D k i r i' r') : k ≤ i' 0 9 := h0.2.2.1
theorem Pq.c {D : Dat} {k : Int} {i r i' r' : MI} (h0 : Pq D k i r i' r') : ∀ c, c ≠ 9 → i' 0 c = i 0 c := h0.2.2.2.1
theorem Pq.lo {D : Dat} {k : Int} {i r i' r' : MI} (h0 : Pq D k i r i' r') : ∀ a, 1 ≤ a → a ≤ 66 → i' a = i a := h0.2.2.2.2.1
theorem Pq.hi {D : Dat} {k : Int} {i r i' r' : MI} (h0 : Pq D k i r i' r') : ∀ a, 488 ≤ a → i' a = i a := h0.2.2.2.2.2
theorem Pq.mk {D : Dat} {k : Int} {i r i' r' : MI} (h0 : ClassP D i' r') (h1 : KPn D (i' 0 9) i' r') (h2 : k ≤ i' 0 9) (h3 : ∀ c, c ≠ 9 → i' 0 c = i 0 c) (h4 : ∀ a, 1 ≤ a → a ≤ 66 → i' a = i a) (h5 : ∀ a, 488 ≤ a → i' a = i a) : Pq D k i r i' r' := ⟨h0, h1, h2, h3, h4, h5⟩
/-- what the stages leave alone -/
def Fk (i i' : MI) : Prop := (∀ a, a ≤ 66 → i' a = i a) ∧ (∀ a, 488 ≤ a → i' a = i a)
theorem Fk.lo {i i' : MI} (h0 : Fk i i') : ∀ a, a ≤ 66 → i' a = i a := h0.1
theorem Fk.hi {i i' : MI} (h0 : Fk i i') : ∀ a, 488 ≤ a → i' a = i a := h0.2
theorem Fk.mk {i i' : MI} (h0 : ∀ a, a ≤ 66 → i' a = i a) (h1 : ∀ a, 488 ≤ a → i' a = i a) : Fk i i' := ⟨h0, h1⟩
theorem Fk.refl (i : MI) : Fk i i := ⟨fun _ _ => rfl, fun _ _ => rfl⟩
theorem Fk.trans {i j k : MI} (h : Fk i j) (g : Fk j k) : Fk i k := ⟨fun a x => (g.lo a x).trans (h.lo a x), fun a x => (g.hi a x).trans (h.hi a x)⟩
theorem ClassP.fg {D : Dat} {i i' r : MI} (h : ClassP D i r) (g : FG i i') : ClassP D i' r := by
  refine h.congr ?_ ?_ ?_ ?_ ?_ ?_ ?_ ?_ ?_ ?_ rfl rfl
  all_goals (intros; rw [g _ (by omega) (by omega) (by omega)])
theorem ClassP.fo {D : Dat} {i i' r : MI} (h : ClassP D i r) (g : FO i i') : ClassP D i' r := by
  refine h.congr ?_ ?_ ?_ ?_ ?_ ?_ ?_ ?_ ?_ ?_ rfl rfl
  all_goals (intros; rw [g _ (by omega)])
theorem ClassP.fpc {D : Dat} {i i' r : MI} (h : ClassP D i r) (g : FPc i i') : ClassP D i' r := by
  refine h.congr ?_ ?_ ?_ ?_ ?_ ?_ ?_ ?_ ?_ ?_ rfl rfl
  all_goals (intros; rw [g _ (by omega)])
theorem classP_s0 {D : Dat} {i r : MI} {k v : Int} (h : ClassP D i r) : ClassP D (st i 0 k v) r := by
  refine h.congr ?_ ?_ ?_ ?_ ?_ ?_ ?_ ?_ ?_ ?_ rfl rfl
  all_goals (intros; rw [st_row (by omega)])
theorem prepare_w {D : Dat} (ok : DOk D) {i r : MI} {k : Int} {Q : MI → MI → Prop} (hP : ClassP D i r) (hK : KPn D (i 0 9) i r) (hk : 1 ≤ k ∧ k ≤ 5) (hQ : ∀ i' r', Pq D k i r i' r' → Q i' r') : wp_X11_prepare k i r Q := by
  generalize hm : i 0 9 = m at hK
  have e9 : ∀ {i1 : MI}, Fk i i1 → i1 0 9 = m := fun f => by rw [f.lo 0 (by decide)]; exact hm
  have s6 : ∀ (i1 r1 : MI), Fk i i1 → ClassP D i1 r1 → KPn D (max m (min 5 k)) i1 r1 → s143_X11_prepare k i1 r1 Q := by
    intro i1 r1 f p kp
    unfold s143_X11_prepare
    rw [e9 f]
    refine hQ _ _ ⟨classP_s0 p, ?_, by rw [st_eq]; omega, fun c hc => by rw [st_ne (by omega), f.lo 0 (by decide)], fun a x y => by rw [st_row (by omega), f.lo a y], fun a x => by rw [st_row (by omega), f.hi a x]⟩
    rw [st_eq]
    exact (kp.le (by omega)).keep ok (fun a x y _ _ => st_row (by omega)) (fun _ _ _ => rfl) rfl
  have s5 : ∀ (i1 r1 : MI), Fk i i1 → ClassP D i1 r1 → KPn D (max m (min 4 k)) i1 r1 → s111_X11_prepare k i1 r1 Q := by
    intro i1 r1 f p kp
    unfold s111_X11_prepare
    rw [e9 f]
    refine ⟨fun q => s6 i1 r1 f p (kp.le (by omega)), fun q => ⟨fun q2 => s6 i1 r1 f p (kp.le (by omega)), fun q2 => ?_⟩⟩
    have m1 := kp.m1 (by omega)
    refine turn_w ok p (m1.nv p) m1.nr (kp.m4 (by omega)) (fun i2 g m5 => s6 i2 r1 (f.trans ⟨fun a x => g a (by omega), fun a x => g a (by omega)⟩) (p.ft g) ?_)
    refine ⟨fun _ => m1.keep ok (fun a x y _ _ => g a (by omega)) (fun _ _ _ => rfl) rfl, fun _ => (kp.m2 (by omega)).fl ok g.fl, fun _ => (kp.m3 (by omega)).keep (fun a x y => g a (by omega)), fun _ => (kp.m4 (by omega)).congr (g 469 (by omega)) (g 470 (by omega)), fun _ => m5⟩
  have s4 : ∀ (i1 r1 : MI), Fk i i1 → ClassP D i1 r1 → KPn D (max m (min 3 k)) i1 r1 → s83_X11_prepare k i1 r1 Q := by
    intro i1 r1 f p kp
    unfold s83_X11_prepare
    rw [e9 f]
    refine ⟨fun q => s5 i1 r1 f p (kp.le (by omega)), fun q => ⟨fun q2 => s5 i1 r1 f p (kp.le (by omega)), fun q2 => ?_⟩⟩
    have m1 := kp.m1 (by omega)
    refine xfind_w ok (m1.nv p) (kp.m2 (by omega)) (m1.mc p) (fun i2 g m4 => s5 i2 r1 (f.trans ⟨fun a x => g a (by omega), fun a x => g a (by omega)⟩) (p.fpc g) ?_)
    refine ⟨fun _ => m1.keep ok (fun a x y _ _ => g a (by omega)) (fun _ _ _ => rfl) rfl, fun _ => (kp.m2 (by omega)).fl ok g.fl, fun _ => (kp.m3 (by omega)).keep (fun a x y => g a (by omega)), fun _ => m4, fun z => by omega⟩
  have s3 : ∀ (i1 r1 : MI), Fk i i1 → ClassP D i1 r1 → KPn D (max m (min 2 k)) i1 r1 → s55_X11_prepare k i1 r1 Q := by
    intro i1 r1 f p kp
    unfold s55_X11_prepare
    rw [e9 f]
    refine ⟨fun q => s4 i1 r1 f p (kp.le (by omega)), fun q => ⟨fun q2 => s4 i1 r1 f p (kp.le (by omega)), fun q2 => ?_⟩⟩
    have m1 := kp.m1 (by omega)
    refine order_w ok (m1.nv p) (kp.m2 (by omega)) p.un (fun i2 g m3 => s4 i2 r1 (f.trans ⟨fun a x => g a (by omega), fun a x => g a (by omega)⟩) (p.fo g) ?_)
    refine ⟨fun _ => m1.keep ok (fun a x y _ _ => g a (by omega)) (fun _ _ _ => rfl) rfl, fun _ => (kp.m2 (by omega)).fl ok (fun a x => g a (by omega)), fun _ => m3, fun z => by omega, fun z => by omega⟩
  have s2 : ∀ (i1 r1 : MI), Fk i i1 → ClassP D i1 r1 → KPn D (max m (min 1 k)) i1 r1 → s24_X11_prepare k i1 r1 Q := by
    intro i1 r1 f p kp
    unfold s24_X11_prepare
    rw [e9 f]
    refine ⟨fun q => s3 i1 r1 f p (kp.le (by omega)), fun q => ⟨fun q2 => s3 i1 r1 f p (kp.le (by omega)), fun q2 => ?_⟩⟩
    have m1 := kp.m1 (by omega)
    rw [p.fac]
    refine join_w ok (m1.nv p) (fun i2 g m2 => s3 i2 r1 (f.trans ⟨fun a x => g a (by omega) (by omega) (by omega), fun a x => g a (by omega) (by omega) (by omega)⟩) (p.fg g) ?_)
    refine ⟨fun _ => m1.keep ok (fun a x y _ _ => g a (by omega) (by omega) (by omega)) (fun _ _ _ => rfl) rfl, fun _ => m2, fun z => by omega, fun z => by omega, fun z => by omega⟩
  unfold wp_X11_prepare
  rw [hm]
  refine ⟨fun q => s2 i r (Fk.refl i) hP (hK.le (by omega)), fun q => ⟨fun q2 => s2 i r (Fk.refl i) hP (hK.le (by omega)), fun q2 => ?_⟩⟩
  refine number_w ok hP (fun i2 r2 g m1 => s2 i2 r2 ⟨fun a x => g.i a (by omega) (by omega) (by omega), fun a x => g.i a (by omega) (by omega) (by omega)⟩ (hP.fa g) ?_)
  exact ⟨fun _ => m1, fun z => by omega, fun z => by omega, fun z => by omega, fun z => by omega⟩
