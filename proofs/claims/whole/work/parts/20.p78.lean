/-! ===== what depends on statements, unrolling, units and cycles alone ===== -/
/-- the data without the rest -/
def co (u y : Int → Int) (D : Dat) : Dat := Dat.mk 0 (fun _ => 0) D.cnt D.fac 1 1 0 (fun _ => 0) (fun _ _ => 0) u y D.F D.N D.T D.O (fun _ => 0) (fun _ _ => 0) (fun _ _ => 0) (fun _ => 0)
theorem cnt_cor {u y : Int → Int} {D : Dat} : (co u y D).cnt = D.cnt := rfl
theorem fac_cor {u y : Int → Int} {D : Dat} : (co u y D).fac = D.fac := rfl
theorem un_cor {u y : Int → Int} {D : Dat} : (co u y D).un = u := rfl
theorem cy_cor {u y : Int → Int} {D : Dat} : (co u y D).cy = y := rfl
theorem F_cor {u y : Int → Int} {D : Dat} : (co u y D).F = D.F := rfl
theorem N_cor {u y : Int → Int} {D : Dat} : (co u y D).N = D.N := rfl
theorem T_cor {u y : Int → Int} {D : Dat} : (co u y D).T = D.T := rfl
theorem O_cor {u y : Int → Int} {D : Dat} : (co u y D).O = D.O := rfl
theorem rls_cor {u y : Int → Int} {D : Dat} : rls (co u y D) = rls D := rfl
theorem stK_cor {u y : Int → Int} {D : Dat} : stK (co u y D) = stK D := rfl
theorem ndl_cor {u y : Int → Int} {D : Dat} : ∀ n : Nat, ndl (co u y D) n = ndl D n := by
  intro n
  induction n with
  | zero => rfl
  | succ n ih =>
    show ndl (co u y D) n ++ (rls (co u y D) ((n : Int) % (co u y D).cnt)).map (fun q => ((n : Int), q)) = ndl D n ++ (rls D ((n : Int) % D.cnt)).map (fun q => ((n : Int), q))
    rw [ih, rls_cor, cnt_cor]
theorem nds_cor {u y : Int → Int} {D : Dat} : nds (co u y D) = nds D := by unfold nds; rw [ndl_cor, cnt_cor, fac_cor]
theorem nn_cor {u y : Int → Int} {D : Dat} : nn (co u y D) = nn D := by unfold nn; rw [nds_cor]
theorem nd_cor {u y : Int → Int} {D : Dat} : nd (co u y D) = nd D := by funext v; unfold nd; rw [nds_cor]
theorem kdN_cor {u y : Int → Int} {D : Dat} : kdN (co u y D) = kdN D := rfl
theorem mkN_cor {u y : Int → Int} {D : Dat} : mkN (co u y D) = mkN D := rfl
theorem usN_cor {u y : Int → Int} {D : Dat} : usN (co u y D) = usN D := rfl
theorem g1N_cor {u y : Int → Int} {D : Dat} : g1N (co u y D) = g1N D := rfl
theorem g2N_cor {u y : Int → Int} {D : Dat} : g2N (co u y D) = g2N D := rfl
theorem fpN_cor {u y : Int → Int} {D : Dat} : fpN (co u y D) = fpN D := rfl
theorem tnN_cor {u y : Int → Int} {D : Dat} : tnN (co u y D) = tnN D := rfl
theorem att_cor {u y : Int → Int} {D : Dat} : att (co u y D) = att D := rfl
theorem kdv_cor {u y : Int → Int} {D : Dat} : kdv (co u y D) = kdv D := by funext v; unfold kdv; rw [nd_cor, kdN_cor]
theorem mkv_cor {u y : Int → Int} {D : Dat} : mkv (co u y D) = mkv D := by funext v; unfold mkv; rw [nd_cor, mkN_cor]
theorem cyv_cor {u : Int → Int} {D : Dat} : cyv (co u D.cy D) = cyv D := by funext v; unfold cyv; rw [kdv_cor, cy_cor]
theorem usv_cor {u y : Int → Int} {D : Dat} : usv (co u y D) = usv D := by funext v p; unfold usv; rw [nd_cor, usN_cor]
theorem wrv_cor {u y : Int → Int} {D : Dat} : wrv (co u y D) = wrv D := by funext v; unfold wrv; rw [nd_cor]
theorem isMem_cor {u y : Int → Int} {D : Dat} : isMem (co u y D) = isMem D := by funext v; unfold isMem; rw [kdv_cor]
theorem isPrev_cor {u y : Int → Int} {D : Dat} : isPrev (co u y D) = isPrev D := by funext a b c; unfold isPrev; rw [nn_cor, mkv_cor]
theorem noPrev_cor {u y : Int → Int} {D : Dat} : noPrev (co u y D) = noPrev D := by funext a b; unfold noPrev; rw [nn_cor, mkv_cor]
theorem isNext_cor {u y : Int → Int} {D : Dat} : isNext (co u y D) = isNext D := by funext a b c; unfold isNext; rw [nn_cor, mkv_cor]
theorem noNext_cor {u y : Int → Int} {D : Dat} : noNext (co u y D) = noNext D := by funext a b; unfold noNext; rw [nn_cor, mkv_cor]
theorem isNextK_cor {u y : Int → Int} {D : Dat} : isNextK (co u y D) = isNextK D := by funext a b c; unfold isNextK; rw [nn_cor, kdv_cor]
theorem noNextK_cor {u y : Int → Int} {D : Dat} : noNextK (co u y D) = noNextK D := by funext a b; unfold noNextK; rw [nn_cor, kdv_cor]
theorem makeE_cor {u y : Int → Int} {D : Dat} : makeE (co u y D) = makeE D := by funext a b c d; unfold makeE; rw [isPrev_cor, noPrev_cor, nn_cor]
theorem nextE_cor {u y : Int → Int} {D : Dat} : nextE (co u y D) = nextE D := by funext a b c d; unfold nextE; rw [isNext_cor, noNext_cor]
theorem chanE_cor {u y : Int → Int} {D : Dat} : chanE (co u y D) = chanE D := by funext a b c; unfold chanE; rw [isNextK_cor, noNextK_cor, kdv_cor]
theorem memD_cor {u y : Int → Int} {D : Dat} : memD (co u y D) = memD D := by funext a b c; unfold memD; rw [nd_cor, tnN_cor, fpN_cor, fac_cor]
theorem memE_cor {u y : Int → Int} {D : Dat} : memE (co u y D) = memE D := by funext a b c; unfold memE; rw [memD_cor, kdv_cor, wrv_cor, isMem_cor]
theorem withE_cor {u y : Int → Int} {D : Dat} : withE (co u y D) = withE D := by funext a b; unfold withE; rw [nd_cor, g1N_cor, g2N_cor]
theorem Raw_cor {u : Int → Int} {D : Dat} : Raw (co u D.cy D) = Raw D := by funext a b c d; unfold Raw; rw [nn_cor, withE_cor, cyv_cor, usv_cor, makeE_cor, nextE_cor, mkv_cor, memE_cor, wrv_cor, chanE_cor]
theorem Ed_cor {u : Int → Int} {D : Dat} : Ed (co u D.cy D) = Ed D := by funext a b c d; unfold Ed; rw [Raw_cor]
theorem ocL_cor {u y : Int → Int} {D : Dat} : ocL (co u y D) = ocL D := rfl
theorem GA_cor {u y : Int → Int} {D : Dat} : GA (co u y D) = GA D := rfl
theorem M1_cor {u y : Int → Int} {D : Dat} {i r : MI} : M1 (co u y D) i r = M1 D i r := by unfold M1; rw [nds_cor, ocL_cor, GA_cor]
theorem M2_cor {u : Int → Int} {D : Dat} {i : MI} : M2 (co u D.cy D) i = M2 D i := by unfold M2 GrC; rw [Raw_cor]
theorem IsSoon_cor {u : Int → Int} {D : Dat} : IsSoon (co u D.cy D) = IsSoon D := by
  have s : ∀ n, sumN (co u D.cy D) n = sumN D n := by
    intro n
    induction n with
    | zero => rfl
    | succ n ih => show sumN (co u D.cy D) n + cyv (co u D.cy D) n = sumN D n + cyv D n; rw [ih, cyv_cor]
  have sc : sumC (co u D.cy D) = sumC D := by funext v; unfold sumC; rw [s]
  funext a; unfold IsSoon; rw [nn_cor, sc, Ed_cor]
theorem IsEnd_cor {u : Int → Int} {D : Dat} : IsEnd (co u D.cy D) = IsEnd D := by funext a b; unfold IsEnd; rw [nn_cor, cyv_cor]
theorem IsLate_cor {u : Int → Int} {D : Dat} : IsLate (co u D.cy D) = IsLate D := by funext a b; unfold IsLate; rw [nn_cor, cyv_cor, Ed_cor]
theorem cntN_cor {u : Int → Int} {D : Dat} : ∀ ls k c n, cntN (co u D.cy D) ls k c n = cntN D ls k c n := by
  intro ls k c n
  induction n with
  | zero => rfl
  | succ n ih => show cntN (co u D.cy D) ls k c n + (if kdv (co u D.cy D) n = k ∧ ls n = c then 1 else 0) = cntN D ls k c n + (if kdv D n = k ∧ ls n = c then 1 else 0); rw [ih, kdv_cor]
theorem cntL_cor {u : Int → Int} {D : Dat} : cntL (co u D.cy D) = cntL D := by funext a b c; unfold cntL; rw [cntN_cor, nn_cor]
theorem ready_cor {D : Dat} : ready (co D.un D.cy D) = ready D := by funext a b c; unfold ready; rw [nn_cor, Ed_cor, cntL_cor, kdv_cor, un_cor]
theorem chosen_cor {D : Dat} : chosen (co D.un D.cy D) = chosen D := by funext a b c d; unfold chosen; rw [ready_cor]
theorem allL_cor {D : Dat} : allL (co D.un D.cy D) = allL D := by funext a; unfold allL; rw [nn_cor]
theorem LR_cor {D : Dat} {la : Int → Int} : ∀ n c ls fin, LR (co D.un D.cy D) la n c ls fin = LR D la n c ls fin := by
  intro n
  induction n with
  | zero => intro c ls fin; show (allL (co D.un D.cy D) ls ∧ ∀ v, 0 ≤ v → v < nn (co D.un D.cy D) → fin v = ls v) = (allL D ls ∧ ∀ v, 0 ≤ v → v < nn D → fin v = ls v); rw [allL_cor, nn_cor]
  | succ n ih =>
    intro c ls fin
    show ((∃ k, chosen (co D.un D.cy D) la c ls k ∧ LR (co D.un D.cy D) la n c (iup ls k c) fin) ∨ (¬ allL (co D.un D.cy D) ls ∧ (∀ k, ¬ ready (co D.un D.cy D) c ls k) ∧ LR (co D.un D.cy D) la n (c + 1) ls fin)) = ((∃ k, chosen D la c ls k ∧ LR D la n c (iup ls k c) fin) ∨ (¬ allL D ls ∧ (∀ k, ¬ ready D c ls k) ∧ LR D la n (c + 1) ls fin))
    simp only [ih, chosen_cor, allL_cor, ready_cor]
theorem JL_cor {D : Dat} : JL (co D.un D.cy D) = JL D := by funext a b; unfold JL; rw [nn_cor, cyv_cor]
theorem IsList_cor {D : Dat} : IsList (co D.un D.cy D) = IsList D := by funext a b; unfold IsList; simp only [LR_cor, allL_cor, JL_cor]
theorem M3_cor {D : Dat} {i : MI} : M3 (co D.un D.cy D) i = M3 D i := by unfold M3; rw [IsSoon_cor, IsEnd_cor, IsLate_cor, IsList_cor]
theorem Feas_cor {D : Dat} : Feas (co D.un D.cy D) = Feas D := by funext a b; unfold Feas; rw [nn_cor, Ed_cor]
theorem CanR_cor {D : Dat} : CanR (co D.un D.cy D) = CanR D := by funext a; unfold CanR; rw [Feas_cor]
theorem IsRing_cor {D : Dat} : IsRing (co D.un D.cy D) = IsRing D := by funext a; unfold IsRing; rw [CanR_cor]
theorem nIk_cor {D : Dat} : nIk (co D.un D.cy D) = nIk D := by funext k; unfold nIk kcN; rw [nds_cor, ocL_cor, un_cor]
theorem uMx_cor {D : Dat} : ∀ n, uMx (co D.un D.cy D) n = uMx D n := by
  intro n
  induction n with
  | zero => rfl
  | succ n ih => show max (uMx (co D.un D.cy D) n) (nIk (co D.un D.cy D) n) = max (uMx D n) (nIk D n); rw [ih, nIk_cor]
theorem uT_cor {D : Dat} : uT (co D.un D.cy D) = uT D := uMx_cor 7
theorem FromP_cor {D : Dat} : FromP (co D.un D.cy D) = FromP D := by funext a b c d; unfold FromP; rw [Ed_cor]
theorem BackP_cor {D : Dat} : BackP (co D.un D.cy D) = BackP D := by funext a b c d; unfold BackP; rw [Ed_cor]
theorem UseP_cor {D : Dat} : UseP (co D.un D.cy D) = UseP D := by funext a b c d e; unfold UseP; rw [kdv_cor]
theorem FreeP_cor {D : Dat} : FreeP (co D.un D.cy D) = FreeP D := by funext a b c d; unfold FreeP; rw [UseP_cor, kdv_cor, un_cor]
theorem FitP_cor {D : Dat} : FitP (co D.un D.cy D) = FitP D := by funext a b c d; unfold FitP; rw [BackP_cor, FreeP_cor]
theorem PutP_cor {D : Dat} : PutP (co D.un D.cy D) = PutP D := by funext a b c d e; unfold PutP; rw [FromP_cor, FitP_cor]
theorem PlU_cor {D : Dat} : PlU (co D.un D.cy D) = PlU D := by funext a b c; unfold PlU; rw [PutP_cor]
theorem CanP_cor {D : Dat} : CanP (co D.un D.cy D) = CanP D := by funext a; unfold CanP; rw [PlU_cor, nn_cor]
theorem IsInt_cor {D : Dat} : IsInt (co D.un D.cy D) = IsInt D := by funext a; unfold IsInt; rw [IsRing_cor, uT_cor, CanP_cor]
theorem M4_cor {D : Dat} {i : MI} : M4 (co D.un D.cy D) i = M4 D i := by unfold M4; rw [IsRing_cor, uT_cor, IsInt_cor, PlU_cor, nn_cor]
