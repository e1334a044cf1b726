/-! nothing is unmade -/
section
variable {nx : Nat} {ls st : List Value} {M : GM}
theorem nw_n : (nw M).1 = M.1 + 1 := rfl
theorem xII_m {f} : (xII f nx ls st M).2.2.2.2.1 = M.1 := by unfold xII; split <;> rfl
theorem xLL_m {f} : (xLL f nx ls st M).2.2.2.2.1 = M.1 := by unfold xLL; split <;> rfl
theorem xI_m {f} : (xI f nx ls st M).2.2.2.2.1 = M.1 := by unfold xI; split <;> rfl
theorem xCnd_m {f d t} : (xCnd f d t nx ls st M).2.2.2.2.1 = M.1 := by unfold xCnd; split <;> rfl
theorem xCmp_m {f d t} : (xCmp f d t nx ls st M).2.2.2.2.1 = M.1 := by unfold xCmp; split <;> rfl
theorem xIld_m {i} : (xIld i nx ls st M).2.2.2.2.1 = M.1 := by unfold xIld; split <;> rfl
theorem xLld_m {i} : (xLld i nx ls st M).2.2.2.2.1 = M.1 := by unfold xLld; split <;> rfl
theorem xAld_m {i} : (xAld i nx ls st M).2.2.2.2.1 = M.1 := by unfold xAld; split <;> rfl
theorem xIst_m {i} : (xIst i nx ls st M).2.2.2.2.1 = M.1 := by unfold xIst; split <;> rfl
theorem xLst_m {i} : (xLst i nx ls st M).2.2.2.2.1 = M.1 := by unfold xLst; split <;> rfl
theorem xAst_m {i} : (xAst i nx ls st M).2.2.2.2.1 = M.1 := by unfold xAst; split <;> rfl
theorem xGet_m {l} : (xGet l nx ls st M).2.2.2.2.1 = M.1 := by
  unfold xGet; split
  · cases Nat.blt l.1 2
    · rfl
    · dsimp only [cond_true]; split <;> first | rfl | (cases Nat.beq l.2.1 8 <;> rfl)
  · rfl
theorem xPut_m {l} : (xPut l nx ls st M).2.2.2.2.1 = M.1 := by
  unfold xPut; split
  · cases Nat.blt l.1 2
    · rfl
    · dsimp only [cond_true]; split <;> rfl
  · rfl
theorem xAldI_m {k} : (xAldI k nx ls st M).2.2.2.2.1 = M.1 := by unfold xAldI; split <;> rfl
theorem xB_m : (xB nx ls st M).2.2.2.2.1 = M.1 := by unfold xB; split <;> rfl
theorem xIal_m : (xIal nx ls st M).2.2.2.2.1 = M.1 := by unfold xIal; split <;> rfl
theorem xLal_m : (xLal nx ls st M).2.2.2.2.1 = M.1 := by unfold xLal; split <;> rfl
theorem xAal_m : (xAal nx ls st M).2.2.2.2.1 = M.1 := by unfold xAal; split <;> rfl
theorem xIas_m : (xIas nx ls st M).2.2.2.2.1 = M.1 := by unfold xIas; split <;> rfl
theorem xCas_m : (xCas nx ls st M).2.2.2.2.1 = M.1 := by unfold xCas; split <;> rfl
theorem xBas_m : (xBas nx ls st M).2.2.2.2.1 = M.1 := by unfold xBas; split <;> rfl
theorem xLas_m : (xLas nx ls st M).2.2.2.2.1 = M.1 := by unfold xLas; split <;> rfl
theorem xAas_m : (xAas nx ls st M).2.2.2.2.1 = M.1 := by unfold xAas; split <;> rfl
theorem xAln_m : (xAln nx ls st M).2.2.2.2.1 = M.1 := by unfold xAln; split <;> rfl
theorem xNwa_m {k} : M.1 ≤ (xNwa k nx ls st M).2.2.2.2.1 := by
  unfold xNwa; split
  · exact Nat.le_succ _
  · exact Nat.le_refl _
theorem xMna_m {l} : M.1 ≤ (xMna l nx ls st M).2.2.2.2.1 := by
  unfold xMna; split
  · show M.1 ≤ (nwm _ M).1
    rw [nwm_n]; omega
  · exact Nat.le_refl _
theorem xNul_m {t1 t2} : (xNul t1 t2 nx ls st M).2.2.2.2.1 = M.1 := by unfold xNul; split <;> rfl
theorem xPrim_m {k} : (xPrim k nx ls st M).2.2.2.2.1 = M.1 := by unfold xPrim; split <;> rfl
theorem xDup_m : (xDup nx ls st M).2.2.2.2.1 = M.1 := by unfold xDup; split <;> rfl
theorem xDup2_m : (xDup2 nx ls st M).2.2.2.2.1 = M.1 := by unfold xDup2; split <;> rfl
theorem xPop_m : (xPop nx ls st M).2.2.2.2.1 = M.1 := by unfold xPop; split <;> rfl
theorem xDivI_m {f} : (xDivI f nx ls st M).2.2.2.2.1 = M.1 := by unfold xDivI; split <;> rfl
theorem xDivL_m {f} : (xDivL f nx ls st M).2.2.2.2.1 = M.1 := by unfold xDivL; split <;> rfl
theorem xSw_m {s d} : (xSw s d nx ls st M).2.2.2.2.1 = M.1 := by unfold xSw; split <;> rfl
theorem xLcmp_m : (xLcmp nx ls st M).2.2.2.2.1 = M.1 := by unfold xLcmp; split <;> rfl
theorem xI2l_m : (xI2l nx ls st M).2.2.2.2.1 = M.1 := by unfold xI2l; split <;> rfl
theorem xOb_m {l} : (xOb l nx ls st M).2.2.2.2.1 = M.1 := by unfold xOb; split <;> rfl
theorem xIdx_m {l} : (xIdx l nx ls st M).2.2.2.2.1 = M.1 := by unfold xIdx; split <;> rfl
theorem xInc_m {i v} : (xInc i v nx ls st M).2.2.2.2.1 = M.1 := by unfold xInc; split <;> rfl
theorem bifN_m {b : Bool} {k : Nat} : M.1 ≤ (bif b then xNwa k nx ls st M else (false, nx, ls, st, M)).2.2.2.2.1 := by
  cases b
  · exact Nat.le_refl _
  · exact xNwa_m
theorem bifP_m {b : Bool} {k : Nat} : M.1 ≤ (bif b then xPrim k nx ls st M else (false, nx, ls, st, M)).2.2.2.2.1 := by
  cases b
  · exact Nat.le_refl _
  · exact Nat.le_of_eq xPrim_m.symm
theorem xLdc_m {l} : (xLdc l nx ls st M).2.2.2.2.1 = M.1 := by unfold xLdc; split <;> rfl
end
theorem stp_mono {lk : List (Nat × LK)} {en : EN} {ls st : List Value} {M : GM} : M.1 ≤ (stp lk en ls st M).2.2.2.2.1 := by
  unfold stp
  split <;> first
    | with_reducible exact Nat.le_refl _
    | with_reducible exact xNwa_m
    | with_reducible exact xMna_m
    | (simp only [xII_m, xLL_m, xI_m, xCnd_m, xCmp_m, xIld_m, xLld_m, xAld_m, xIst_m, xLst_m, xAst_m, xGet_m, xPut_m, xAldI_m, xB_m, xIal_m, xLal_m, xAal_m, xIas_m, xCas_m, xBas_m, xLas_m, xAas_m, xAln_m, xNul_m, xPrim_m, xDup_m, xDup2_m, xPop_m, xDivI_m, xDivL_m, xSw_m, xLcmp_m, xI2l_m, xOb_m, xIdx_m, xInc_m, xLdc_m, Nat.le_refl]; done)
    | exact Nat.le_succ _
    | with_reducible exact bifN_m
    | with_reducible exact bifP_m
