theorem Z0_small {k : Nat} (h : k < 336) : Z0 k ≤ 60000000 := (by decide +kernel : ∀ k, k < 336 → Z0 k ≤ 60000000) k h
theorem Z0_outer {k : Nat} (h : k < 336) : 25 < K0 k → K0 k < 28 → 0 < Z0 k := (by decide +kernel : ∀ k, k < 336 → 25 < K0 k → K0 k < 28 → 0 < Z0 k) k h
theorem mna_small {M : GM} {ko ki : Nat} {k : Int32} (h : K0 M.1 = ko) (ha : ∀ j, j < Z0 M.1 → K0 (M.1 + 1 + j) = ki ∧ Z0 (M.1 + 1 + j) = k.toNatClampNeg) (h1 : 25 < ko := by decide) (h2 : ko < 28 := by decide) (h3 : ki < 99 := by decide) : k.toNatClampNeg ≤ 60000000 := by
  obtain ⟨g1, g2⟩ := ha 0 (Z0_outer (K0_lt (by omega)) (by omega) (by omega))
  rw [← g2]
  exact Z0_small (K0_lt (by omega))
section
variable {p : Program} {l : Launch} {e : Env} {R : Room} {s : State} {m : MethodId} {args : Array Value} {below : List Frame} {meth : Method} {c : Code} {Q : State → Prop} {D : va_G} {cT : Nat → ClassId} {A : Nat × Nat × Nat} {d mid : Nat} {res : Option Value × GM} {cF sF : Nat}
variable {pc pc' t nx : Nat} {ls lsx st st' r : List Value} {M M1 : GM} {H H1 : Heap} {locs locs1 : List Loc}
theorem sum_cv (A : Nat × Nat × Nat) (r : List Value) : ((r.map (cv A)).map fun v => v.category) = r.map fun v => v.category := by
  rw [List.map_map]
  exact List.map_congr_left fun v _ => cv_cat A v
theorem stp_prim (hF : Fx p l e R s m args below meth c Q D cT A d mid res cF sF) {i : Nat} (hd : decode (cB mid) pc = .ok (.invokestatic i, 3)) (h12 : (lkf (lnO (clM mid)) i).1 = 12) (hok : (xPrim (lkf (lnO (clM mid)) i).2.1 (pc + 3) ls st M).1 = true)
    (hk : Gx p l e R s m args below meth c Q D cT A mid res cF sF (xPrim (lkf (lnO (clM mid)) i).2.1 (pc + 3) ls st M).2) : Gx p l e R s m args below meth c Q D cT A mid res cF sF (pc, ls, st, M) := by
  obtain ⟨hx, hb, hml, hown, -, hC, hd1, hd2, hcF, hsF, -, hO, h1d, -⟩ := hF
  have hL := @okL_of mid hO i
  generalize lkf (lnO (clM mid)) i = L at hok hk hL h12
  obtain ⟨tag, ci, k, pos, vi, vl⟩ := L
  dsimp only at h12 hok hk
  subst h12
  have hL := hL (by simp)
  obtain ⟨hm1, hm2, hm3⟩ := mw_max
  obtain ⟨hn1, hn2⟩ := mw_min
  obtain ⟨ho1, ho2⟩ := mw_maxl
  obtain ⟨hp1, hp2⟩ := mw_minl
  obtain ⟨e0, e1, e2, e3⟩ := yJ9_eq
  unfold xPrim at hok hk
  split at hok
  · have hr := Nat.le_of_ble_eq_true hok
    refine hk.pure fun H locs cells slots ls' hP kk => ?_
    rw [← sum_cv A] at hr
    exact va_mmax hx hb (hml.trans hP.2.2.2.2.2.2.1.symm) hown (by rw [← e0]; exact wAt_of hC hL rfl args) (hC.1 _ hm1 rfl args) (hC.1 _ hm3 rfl args) (hC.1 _ hm2 rfl args) (by omega) (by omega) (by have := hP.2.1; omega) (by have := hP.2.2.1; omega) hd kk
  · have hr := Nat.le_of_ble_eq_true hok
    refine hk.pure fun H locs cells slots ls' hP kk => ?_
    rw [← sum_cv A] at hr
    exact va_mmin hx hb (hml.trans hP.2.2.2.2.2.2.1.symm) hown (by rw [← e1]; exact wAt_of hC hL rfl args) (hC.1 _ hn1 rfl args) (hC.1 _ hm3 rfl args) (hC.1 _ hn2 rfl args) (by omega) (by omega) (by have := hP.2.1; omega) (by have := hP.2.2.1; omega) hd kk
  · have hr := Nat.le_of_ble_eq_true hok
    refine hk.pure fun H locs cells slots ls' hP kk => ?_
    rw [← sum_cv A] at hr
    exact va_mmax_long hx hb (hml.trans hP.2.2.2.2.2.2.1.symm) hown (by rw [← e2]; exact wAt_of hC hL rfl args) (hC.1 _ ho1 rfl args) (hC.1 _ hm3 rfl args) (hC.1 _ ho2 rfl args) (by omega) (by omega) (by have := hP.2.1; omega) (by have := hP.2.2.1; omega) hd kk
  · have hr := Nat.le_of_ble_eq_true hok
    refine hk.pure fun H locs cells slots ls' hP kk => ?_
    rw [← sum_cv A] at hr
    exact va_mmin_long hx hb (hml.trans hP.2.2.2.2.2.2.1.symm) hown (by rw [← e3]; exact wAt_of hC hL rfl args) (hC.1 _ hp1 rfl args) (hC.1 _ hm3 rfl args) (hC.1 _ hp2 rfl args) (by omega) (by omega) (by have := hP.2.1; omega) (by have := hP.2.2.1; omega) hd kk
  · cases hok
theorem stp_obj (hF : Fx p l e R s m args below meth c Q D cT A d mid res cF sF) {i : Nat} (hd : decode (cB mid) pc = .ok (.invokespecial i, 3)) (hok : (xOb (lkf (lnO (clM mid)) i) (pc + 3) ls st M).1 = true)
    (hk : Gx p l e R s m args below meth c Q D cT A mid res cF sF (xOb (lkf (lnO (clM mid)) i) (pc + 3) ls st M).2) : Gx p l e R s m args below meth c Q D cT A mid res cF sF (pc, ls, st, M) := by
  obtain ⟨hx, hb, hml, hown, -, hC, hd1, hd2, hcF, hsF, -, hO, h1d, -⟩ := hF
  have hL := @okL_of mid hO i
  generalize lkf (lnO (clM mid)) i = L at hok hk hL
  obtain ⟨tag, ci, k, pos, vi, vl⟩ := L
  unfold xOb at hok hk
  split at hok
  · simp only [Bool.and_eq_true] at hok
    have h11 : tag = 11 := Nat.eq_of_beq_eq_true hok.1
    subst h11
    have hr := Nat.le_of_ble_eq_true hok.2
    have hL := hL (by simp)
    obtain ⟨hm1, hm2⟩ := mw_obj
    refine hk.pure fun H locs cells slots ls' hP kk => ?_
    rw [← sum_cv A] at hr
    exact W.objInit hx hb hown (wAt_of hC hL rfl args) (hC.1 _ hm1 rfl args) (hC.1 _ hm2 rfl args) rfl (hP.2.2.2.2.2.2.1.trans hml.symm) rfl hd (by omega) (by show 2 * 0 + _ + 12 ≤ _; omega) kk
  · cases hok
theorem stp_idx (hF : Fx p l e R s m args below meth c Q D cT A d mid res cF sF) {i : Nat} (hd : decode (cB mid) pc = .ok (.invokevirtual i, 3)) (hok : (xIdx (lkf (lnO (clM mid)) i) (pc + 3) ls st M).1 = true)
    (hk : Gx p l e R s m args below meth c Q D cT A mid res cF sF (xIdx (lkf (lnO (clM mid)) i) (pc + 3) ls st M).2) : Gx p l e R s m args below meth c Q D cT A mid res cF sF (pc, ls, st, M) := by
  obtain ⟨hx, hb, hml, hown, -, hC, hd1, hd2, hcF, hsF, -, hO, h1d, -⟩ := hF
  have hL := @okL_of mid hO i
  generalize lkf (lnO (clM mid)) i = L at hok hk hL
  obtain ⟨tag, ci, k, pos, vi, vl⟩ := L
  unfold xIdx at hok hk
  split at hok
  · rename_i ch r
    simp only [Bool.and_eq_true, decide_eq_true_eq] at hok
    obtain ⟨⟨⟨h13, hr⟩, h0⟩, h1⟩ := hok
    have h13 : tag = 13 := Nat.eq_of_beq_eq_true h13
    subst h13
    have hr := Nat.le_of_ble_eq_true hr
    have hL := hL (by simp)
    have hlk : Cond.methodLink (RC (clM mid)) i yq_ix1 ∈ lw_tbl := List.mem_of_getElem? (of_decide_eq_true hL)
    refine hk.pure fun H locs cells slots ls' hP kk => ?_
    obtain ⟨aV, hS⟩ := hP.2.2.2.2.1.2.2.2.2.2
    exact jV hx hb (hml.trans hP.2.2.2.2.2.2.1.symm) hown hC hS (mq_ix1 l D cT A aV h0 h1) wq_ix1 hlk wm_ix1 wv_ix1 wi_str (n := 1) (by decide +kernel) rfl (by omega) (by omega) (by rw [sum_cv]; exact hr) (by have := hP.2.1; omega) (by have := hP.2.2.1; omega) hd (av := [.int ch]) (rest := r.map (cv A)) rfl kk
  · cases hok
set_option maxHeartbeats 4000000 in
/-- ONE STEP -/
theorem Gx.step (hF : Fx p l e R s m args below meth c Q D cT A d mid res cF sF) (hle : (stp (lnO (clM mid)) (ftc (cdO mid) pc) ls st M).2.2.2.2.1 ≤ res.2.1) (hok : (stp (lnO (clM mid)) (ftc (cdO mid) pc) ls st M).1 = true)
    (hk : Gx p l e R s m args below meth c Q D cT A mid res cF sF (stp (lnO (clM mid)) (ftc (cdO mid) pc) ls st M).2) : Gx p l e R s m args below meth c Q D cT A mid res cF sF (pc, ls, st, M) := by
  have hO : OKM mid := hF.2.2.2.2.2.2.2.2.2.2.2.1
  have hC : Cx D cT s := hF.2.2.2.2.2.1
  have hx := hF.1
  have hb := hF.2.1
  have hown := hF.2.2.2.1
  have hmem := @ftc_mem (cdO mid) pc
  generalize ftc (cdO mid) pc = en at hle hok hk hmem
  obtain ⟨pc0, ins, len, tg, imm, sw⟩ := en
  have hne : ¬ ins = .nop := fun q => by subst q; cases hok
  obtain ⟨hmm, hpc⟩ := hmem hne
  dsimp only at hpc
  subst hpc
  obtain ⟨hd, hI⟩ := okE_of hO hmm
  have hP := List.all_eq_true.mp hO.2.2 _ hmm
  dsimp only at hd
  cases ins with
  | iconst n =>
    simp only [okI, Bool.and_eq_true, decide_eq_true_eq] at hI
    have hlen : len = 1 := Nat.eq_of_beq_eq_true hI.2
    subst hlen
    exact hk.const fun H locs cells slots ls' rest kk => lv_iconst hx hb hd hI.1 kk
  | bipush n =>
    simp only [okI, Bool.and_eq_true, decide_eq_true_eq] at hI
    have hlen : len = 2 := Nat.eq_of_beq_eq_true hI.2
    subst hlen
    exact hk.const fun H locs cells slots ls' rest kk => lv_bipush hx hb hd hI.1 kk
  | sipush n =>
    simp only [okI, Bool.and_eq_true, decide_eq_true_eq] at hI
    have hlen : len = 3 := Nat.eq_of_beq_eq_true hI.2
    subst hlen
    exact hk.const fun H locs cells slots ls' rest kk => lv_sipush hx hb hd hI.1 kk
  | lconst n =>
    have hlen : len = 1 := Nat.eq_of_beq_eq_true hI
    subst hlen
    exact hk.const fun H locs cells slots ls' rest kk => lv_lconst hx hb hd rfl kk
  | aconst_null =>
    have hlen : len = 1 := Nat.eq_of_beq_eq_true hI
    subst hlen
    exact hk.const fun H locs cells slots ls' rest kk => lv_null hx hb hd kk
  | ldc i =>
    have hlen : len = 2 := Nat.eq_of_beq_eq_true hI
    subst hlen
    have hL := @okL_of mid hO i
    have hok : (xLdc (lkf (lnO (clM mid)) i) (pc0 + 2) ls st M).1 = true := hok
    have hk2 : Gx p l e R s m args below meth c Q D cT A mid res cF sF (xLdc (lkf (lnO (clM mid)) i) (pc0 + 2) ls st M).2 := hk
    generalize lkf (lnO (clM mid)) i = L at hok hk2 hL
    obtain ⟨tag, ci, k, pos, vi, vl⟩ := L
    unfold xLdc at hok hk2
    dsimp only at hok hk2
    split at hok
    · have hL := hL (by simp)
      exact hk2.const fun H locs cells slots ls' rest kk => lv_ldc hx hb hown (wAt_of hC hL rfl args) hd kk
    · have hL := hL (by simp)
      simp only [okL, Bool.and_eq_true, decide_eq_true_eq] at hL
      have h137 : i = 137 := Nat.eq_of_beq_eq_true hL.2
      subst h137
      refine hk2.pure fun H locs cells slots ls' hPx kk => ?_
      rw [hL.1.2] at hown
      exact va_ldcS hx hb hown hPx.2.2.2.2.1.2.2.2.2.1 hd kk
    · cases hok
  | ldc_w i =>
    have hlen : len = 3 := Nat.eq_of_beq_eq_true hI
    subst hlen
    have h8 : (lkf (lnO (clM mid)) i).1 = 8 := Nat.eq_of_beq_eq_true hok
    have hL := @okL_of mid hO i (by rw [h8]; decide)
    have hk : Gx p l e R s m args below meth c Q D cT A mid res cF sF (pc0 + 3, ls, .int (lkf (lnO (clM mid)) i).2.2.2.2.1 :: st, M) := hk
    generalize lkf (lnO (clM mid)) i = L at hk hL h8
    obtain ⟨tag, ci, k, pos, vi, vl⟩ := L
    dsimp only at h8
    subst h8
    exact hk.const fun H locs cells slots ls' rest kk => lv_ldcw hx hb hown (wAt_of hC hL rfl args) hd kk
  | ldc2_w i =>
    have hlen : len = 3 := Nat.eq_of_beq_eq_true hI
    subst hlen
    have h8 : (lkf (lnO (clM mid)) i).1 = 9 := Nat.eq_of_beq_eq_true hok
    have hL := @okL_of mid hO i (by rw [h8]; decide)
    have hk : Gx p l e R s m args below meth c Q D cT A mid res cF sF (pc0 + 3, ls, .long (lkf (lnO (clM mid)) i).2.2.2.2.2 :: st, M) := hk
    generalize lkf (lnO (clM mid)) i = L at hk hL h8
    obtain ⟨tag, ci, k, pos, vi, vl⟩ := L
    dsimp only at h8
    subst h8
    exact hk.const fun H locs cells slots ls' rest kk => lv_ldc2 hx hb hown (wAt_of hC hL rfl args) hd kk
  | iload_n i =>
    have hlen : len = 1 := Nat.eq_of_beq_eq_true hI
    subst hlen
    exact Gx.xIld hok hk fun H locs cells slots ls' x rest hg kk => lv_iload_n hx hb hd rfl hg kk
  | iload i =>
    have hlen : len = 2 := Nat.eq_of_beq_eq_true hI
    subst hlen
    exact Gx.xIld hok hk fun H locs cells slots ls' x rest hg kk => lv_iload hx hb hd hg kk
  | lload_n i =>
    have hlen : len = 1 := Nat.eq_of_beq_eq_true hI
    subst hlen
    exact Gx.xLld hok hk fun H locs cells slots ls' x rest hg kk => lv_lload_n hx hb hd rfl hg kk
  | lload i =>
    have hlen : len = 2 := Nat.eq_of_beq_eq_true hI
    subst hlen
    exact Gx.xLld hok hk fun H locs cells slots ls' x rest hg kk => lv_lload hx hb hd hg kk
  | aload_n i =>
    have hlen : len = 1 := Nat.eq_of_beq_eq_true hI
    subst hlen
    exact Gx.xAld hok hk (fun H locs cells slots ls' x rest hg kk => lv_aload_n hx hb hd rfl hg kk) (fun H locs cells slots ls' rest hg kk => lv_aload_nN hx hb hd rfl hg kk)
  | aload i =>
    have hlen : len = 2 := Nat.eq_of_beq_eq_true hI
    subst hlen
    exact Gx.xAld hok hk (fun H locs cells slots ls' x rest hg kk => lv_aload hx hb hd hg kk) (fun H locs cells slots ls' rest hg kk => lv_aloadN hx hb hd hg kk)
  | istore_n i =>
    have hlen : len = 1 := Nat.eq_of_beq_eq_true hI
    subst hlen
    obtain ⟨x, r, rfl, hi, e1⟩ := xIst_s hok
    have hk : Gx p l e R s m args below meth c Q D cT A mid res cF sF (xIst (i : Nat) (pc0 + 1) ls (.int x :: r) M).2 := hk
    rw [e1] at hk
    exact Gx.loc1 hF hi rfl hk fun H locs cells slots ls' lv hl hn _ kk => lv_istore_n hx hb hd rfl hl hn rfl kk
  | istore i =>
    have hlen : len = 2 := Nat.eq_of_beq_eq_true hI
    subst hlen
    obtain ⟨x, r, rfl, hi, e1⟩ := xIst_s hok
    have hk : Gx p l e R s m args below meth c Q D cT A mid res cF sF (xIst i (pc0 + 2) ls (.int x :: r) M).2 := hk
    rw [e1] at hk
    exact Gx.loc1 hF hi rfl hk fun H locs cells slots ls' lv hl hn _ kk => lv_istore hx hb hd hl hn rfl kk
  | lstore_n i =>
    have hlen : len = 1 := Nat.eq_of_beq_eq_true hI
    subst hlen
    obtain ⟨x, r, rfl, hi, e1⟩ := xLst_s hok
    have hk : Gx p l e R s m args below meth c Q D cT A mid res cF sF (xLst (i : Nat) (pc0 + 1) ls (.long x :: r) M).2 := hk
    rw [e1] at hk
    exact Gx.loc2 hF hi hk fun H locs cells slots ls' lv hl hn kk => lv_lstore_n hx hb hd rfl hl hn rfl kk
  | lstore i =>
    have hlen : len = 2 := Nat.eq_of_beq_eq_true hI
    subst hlen
    obtain ⟨x, r, rfl, hi, e1⟩ := xLst_s hok
    have hk : Gx p l e R s m args below meth c Q D cT A mid res cF sF (xLst i (pc0 + 2) ls (.long x :: r) M).2 := hk
    rw [e1] at hk
    exact Gx.loc2 hF hi hk fun H locs cells slots ls' lv hl hn kk => lv_lstore hx hb hd hl hn rfl kk
  | astore_n i =>
    have hlen : len = 1 := Nat.eq_of_beq_eq_true hI
    subst hlen
    obtain ⟨v, r, hv, rfl, hi, e1⟩ := xAst_s hok
    have hk : Gx p l e R s m args below meth c Q D cT A mid res cF sF (xAst (i : Nat) (pc0 + 1) ls (v :: r) M).2 := hk
    rw [e1] at hk
    rcases hv with ⟨x, rfl⟩ | rfl
    · exact Gx.loc1 hF hi rfl hk fun H locs cells slots ls' lv hl hn _ kk => lv_astore_n hx hb hd rfl hl hn rfl kk
    · exact Gx.loc1 hF hi rfl hk fun H locs cells slots ls' lv hl hn _ kk => lv_astore_nN hx hb hd rfl hl hn rfl kk
  | astore i =>
    have hlen : len = 2 := Nat.eq_of_beq_eq_true hI
    subst hlen
    obtain ⟨v, r, hv, rfl, hi, e1⟩ := xAst_s hok
    have hk : Gx p l e R s m args below meth c Q D cT A mid res cF sF (xAst i (pc0 + 2) ls (v :: r) M).2 := hk
    rw [e1] at hk
    rcases hv with ⟨x, rfl⟩ | rfl
    · exact Gx.loc1 hF hi rfl hk fun H locs cells slots ls' lv hl hn _ kk => lv_astore hx hb hd hl hn rfl kk
    · exact Gx.loc1 hF hi rfl hk fun H locs cells slots ls' lv hl hn _ kk => lv_astoreN hx hb hd hl hn rfl kk
  | iinc i n =>
    simp only [okI, Bool.and_eq_true, decide_eq_true_eq] at hI
    have hlen : len = 3 := Nat.eq_of_beq_eq_true hI.2
    subst hlen
    obtain ⟨x, hg, hi, e1⟩ := xInc_s hok
    have hk : Gx p l e R s m args below meth c Q D cT A mid res cF sF (xInc i imm (pc0 + 3) ls st M).2 := hk
    rw [e1] at hk
    refine Gx.loc1 hF hi rfl hk fun H locs cells slots ls' lv hl hn hLR kk => ?_
    have hl2 : lv_has ls' (mxL mid) ((i, .int x) :: lv) := ⟨hl.1, hl.2.1, fun q hq => by
      rcases List.mem_cons.mp hq with rfl | hq
      · exact hLR.2.2.2 i _ hg (by simp)
      · exact hl.2.2 q hq⟩
    refine lv_iinc (k := 0) (v := x + imm) hx hb hd hl2 rfl (by rw [hI.1]) hn rfl fun l2 h2 => kk l2 ⟨h2.1, h2.2.1, fun q hq => h2.2.2 q ?_⟩
    rcases List.mem_cons.mp hq with rfl | hq
    · exact List.mem_cons_self
    · refine List.mem_cons_of_mem _ ?_
      obtain ⟨q1, q2⟩ := List.mem_filter.mp hq
      exact List.mem_filter.mpr ⟨List.mem_cons_of_mem _ q1, q2⟩
  | iadd =>
    have hlen : len = 1 := Nat.eq_of_beq_eq_true hI
    subst hlen
    exact Gx.xII hok hk fun H locs cells slots ls' x y rest kk => lv_iadd hx hb hd kk
  | isub =>
    have hlen : len = 1 := Nat.eq_of_beq_eq_true hI
    subst hlen
    exact Gx.xII hok hk fun H locs cells slots ls' x y rest kk => lv_isub hx hb hd kk
  | imul =>
    have hlen : len = 1 := Nat.eq_of_beq_eq_true hI
    subst hlen
    exact Gx.xII hok hk fun H locs cells slots ls' x y rest kk => lv_imul hx hb hd kk
  | iand =>
    have hlen : len = 1 := Nat.eq_of_beq_eq_true hI
    subst hlen
    exact Gx.xII hok hk fun H locs cells slots ls' x y rest kk => lv_iand hx hb hd kk
  | ior =>
    have hlen : len = 1 := Nat.eq_of_beq_eq_true hI
    subst hlen
    exact Gx.xII hok hk fun H locs cells slots ls' x y rest kk => lv_ior hx hb hd kk
  | ixor =>
    have hlen : len = 1 := Nat.eq_of_beq_eq_true hI
    subst hlen
    exact Gx.xII hok hk fun H locs cells slots ls' x y rest kk => lv_ixor hx hb hd kk
  | ishl =>
    have hlen : len = 1 := Nat.eq_of_beq_eq_true hI
    subst hlen
    exact Gx.xII hok hk fun H locs cells slots ls' x y rest kk => lv_ishl hx hb hd kk
  | ishr =>
    have hlen : len = 1 := Nat.eq_of_beq_eq_true hI
    subst hlen
    exact Gx.xII hok hk fun H locs cells slots ls' x y rest kk => lv_ishr hx hb hd kk
  | iushr =>
    have hlen : len = 1 := Nat.eq_of_beq_eq_true hI
    subst hlen
    exact Gx.xII hok hk fun H locs cells slots ls' x y rest kk => lv_iushr hx hb hd rfl kk
  | idiv =>
    have hlen : len = 1 := Nat.eq_of_beq_eq_true hI
    subst hlen
    exact Gx.xDivI hok hk fun H locs cells slots ls' x y rest hne kk => lv_idiv hx hb hd hne kk
  | irem =>
    have hlen : len = 1 := Nat.eq_of_beq_eq_true hI
    subst hlen
    exact Gx.xDivI hok hk fun H locs cells slots ls' x y rest hne kk => lv_irem hx hb hd hne kk
  | ladd =>
    have hlen : len = 1 := Nat.eq_of_beq_eq_true hI
    subst hlen
    exact Gx.xLL hok hk fun H locs cells slots ls' x y rest kk => lv_ladd hx hb hd kk
  | lsub =>
    have hlen : len = 1 := Nat.eq_of_beq_eq_true hI
    subst hlen
    exact Gx.xLL hok hk fun H locs cells slots ls' x y rest kk => lv_lsub hx hb hd kk
  | lmul =>
    have hlen : len = 1 := Nat.eq_of_beq_eq_true hI
    subst hlen
    exact Gx.xLL hok hk fun H locs cells slots ls' x y rest kk => lv_lmul hx hb hd kk
  | ldiv =>
    have hlen : len = 1 := Nat.eq_of_beq_eq_true hI
    subst hlen
    exact Gx.xDivL hok hk fun H locs cells slots ls' x y rest hne kk => lv_ldiv hx hb hd hne kk
  | lrem =>
    have hlen : len = 1 := Nat.eq_of_beq_eq_true hI
    subst hlen
    exact Gx.xDivL hok hk fun H locs cells slots ls' x y rest hne kk => lv_lrem hx hb hd hne kk
  | lcmp =>
    have hlen : len = 1 := Nat.eq_of_beq_eq_true hI
    subst hlen
    obtain ⟨x, y, r, rfl, e1⟩ := xLcmp_s hok
    have hk : Gx p l e R s m args below meth c Q D cT A mid res cF sF (xLcmp (pc0 + 1) ls (.long y :: .long x :: r) M).2 := hk
    rw [e1] at hk
    exact hk.pure fun H locs cells slots ls' _ kk => W.lcmp hx hb hd kk
  | i2l =>
    have hlen : len = 1 := Nat.eq_of_beq_eq_true hI
    subst hlen
    obtain ⟨x, r, rfl, e1⟩ := xI2l_s hok
    have hk : Gx p l e R s m args below meth c Q D cT A mid res cF sF (xI2l (pc0 + 1) ls (.int x :: r) M).2 := hk
    rw [e1] at hk
    exact hk.pure fun H locs cells slots ls' _ kk => lv_i2l hx hb hd rfl kk
  | i2b =>
    have hlen : len = 1 := Nat.eq_of_beq_eq_true hI
    subst hlen
    exact Gx.xI hok hk fun H locs cells slots ls' x rest kk => lv_i2b hx hb hd rfl kk
  | i2c =>
    have hlen : len = 1 := Nat.eq_of_beq_eq_true hI
    subst hlen
    exact Gx.xI hok hk fun H locs cells slots ls' x rest kk => lv_i2c hx hb hd rfl kk
  | dup =>
    have hlen : len = 1 := Nat.eq_of_beq_eq_true hI
    subst hlen
    obtain ⟨v, r, rfl, hv, e1⟩ := xDup_s hok
    have hk : Gx p l e R s m args below meth c Q D cT A mid res cF sF (xDup (pc0 + 1) ls (v :: r) M).2 := hk
    rw [e1] at hk
    exact hk.pure fun H locs cells slots ls' _ kk => lv_dup hx hb hd (by rw [cv_cat]; exact hv) kk
  | dup2 =>
    have hlen : len = 1 := Nat.eq_of_beq_eq_true hI
    subst hlen
    obtain ⟨v, w, r, rfl, hv, hw, e1⟩ := xDup2_s hok
    have hk : Gx p l e R s m args below meth c Q D cT A mid res cF sF (xDup2 (pc0 + 1) ls (v :: w :: r) M).2 := hk
    rw [e1] at hk
    exact hk.pure fun H locs cells slots ls' _ kk => lv_dup2_11 hx hb hd (by rw [cv_cat]; exact hv) (by rw [cv_cat]; exact hw) kk
  | pop =>
    have hlen : len = 1 := Nat.eq_of_beq_eq_true hI
    subst hlen
    obtain ⟨v, r, rfl, hv, e1⟩ := xPop_s hok
    have hk : Gx p l e R s m args below meth c Q D cT A mid res cF sF (xPop (pc0 + 1) ls (v :: r) M).2 := hk
    rw [e1] at hk
    exact hk.pure fun H locs cells slots ls' _ kk => lv_pop hx hb hd (by rw [cv_cat]; exact hv) kk
  | goto o =>
    simp only [okI, Bool.and_eq_true] at hI
    have hlen : len = 3 := Nat.eq_of_beq_eq_true hI.2
    subst hlen
    exact Gx.pure hk fun H locs cells slots ls' _ kk => lv_goto hx hb hd (jmp_of hI.1) kk
  | ifCond q o =>
    simp only [okI, Bool.and_eq_true] at hI
    have hlen : len = 3 := Nat.eq_of_beq_eq_true hI.2
    subst hlen
    cases q with
    | eq => exact Gx.xCnd hok hk fun H locs cells slots ls' x rest k1 k2 => lv_if_eq hx hb hd (jmp_of hI.1) k1 k2
    | ne => exact Gx.xCnd hok hk fun H locs cells slots ls' x rest k1 k2 => lv_if_ne hx hb hd (jmp_of hI.1) k2 k1
    | lt => exact Gx.xCnd hok hk fun H locs cells slots ls' x rest k1 k2 => lv_if_lt hx hb hd (jmp_of hI.1) k1 k2
    | ge => exact Gx.xCnd hok hk fun H locs cells slots ls' x rest k1 k2 => lv_if_ge hx hb hd (jmp_of hI.1) (fun z => k2 (Int32.not_lt.mpr z)) (fun z => k1 (Int32.not_le.mp z))
    | gt => exact Gx.xCnd hok hk fun H locs cells slots ls' x rest k1 k2 => lv_if_gt hx hb hd (jmp_of hI.1) k1 k2
    | le => exact Gx.xCnd hok hk fun H locs cells slots ls' x rest k1 k2 => lv_if_le hx hb hd (jmp_of hI.1) (fun z => k2 (Int32.not_lt.mpr z)) (fun z => k1 (Int32.not_le.mp z))
  | if_icmp q o =>
    simp only [okI, Bool.and_eq_true] at hI
    have hlen : len = 3 := Nat.eq_of_beq_eq_true hI.2
    subst hlen
    cases q with
    | eq => exact Gx.xCmp hok hk fun H locs cells slots ls' x y rest k1 k2 => lv_icmp_eq hx hb hd (jmp_of hI.1) k1 k2
    | ne => exact Gx.xCmp hok hk fun H locs cells slots ls' x y rest k1 k2 => lv_icmp_ne hx hb hd (jmp_of hI.1) k2 k1
    | lt => exact Gx.xCmp hok hk fun H locs cells slots ls' x y rest k1 k2 => lv_icmp_lt hx hb hd (jmp_of hI.1) k1 k2
    | ge => exact Gx.xCmp hok hk fun H locs cells slots ls' x y rest k1 k2 => lv_icmp_ge hx hb hd (jmp_of hI.1) (fun z => k2 (Int32.not_lt.mpr z)) (fun z => k1 (Int32.not_le.mp z))
    | gt => exact Gx.xCmp hok hk fun H locs cells slots ls' x y rest k1 k2 => lv_icmp_gt hx hb hd (jmp_of hI.1) k1 k2
    | le => exact Gx.xCmp hok hk fun H locs cells slots ls' x y rest k1 k2 => lv_icmp_le hx hb hd (jmp_of hI.1) (fun z => k2 (Int32.not_lt.mpr z)) (fun z => k1 (Int32.not_le.mp z))
  | ifnull o =>
    simp only [okI, Bool.and_eq_true] at hI
    have hlen : len = 3 := Nat.eq_of_beq_eq_true hI.2
    subst hlen
    have hk : Gx p l e R s m args below meth c Q D cT A mid res cF sF (xNul tg (pc0 + 3) (pc0 + 3) ls st M).2 := hk
    obtain ⟨r, ⟨rfl, e1⟩ | ⟨x, rfl, e1⟩⟩ := xNul_s hok
    · rw [e1] at hk
      exact hk.pure fun H locs cells slots ls' _ kk => lv_ifnullN hx hb hd (jmp_of hI.1) kk
    · rw [e1] at hk
      exact hk.pure fun H locs cells slots ls' _ kk => lv_ifnull hx hb hd kk
  | ifnonnull o =>
    simp only [okI, Bool.and_eq_true] at hI
    have hlen : len = 3 := Nat.eq_of_beq_eq_true hI.2
    subst hlen
    have hk : Gx p l e R s m args below meth c Q D cT A mid res cF sF (xNul (pc0 + 3) tg (pc0 + 3) ls st M).2 := hk
    obtain ⟨r, ⟨rfl, e1⟩ | ⟨x, rfl, e1⟩⟩ := xNul_s hok
    · rw [e1] at hk
      exact hk.pure fun H locs cells slots ls' _ kk => lv_ifnonnullN hx hb hd kk
    · rw [e1] at hk
      exact hk.pure fun H locs cells slots ls' _ kk => lv_ifnonnull hx hb hd (jmp_of hI.1) kk
  | tableswitch dd lo hi offs =>
    simp only [okI, Bool.and_eq_true, decide_eq_true_eq] at hI
    obtain ⟨⟨h1, h2⟩, h3⟩ := hI
    have hk : Gx p l e R s m args below meth c Q D cT A mid res cF sF (xSw sw tg (pc0 + len) ls st M).2 := hk
    obtain ⟨x, r, rfl, e1⟩ := xSw_s hok
    rw [e1] at hk
    refine hk.pure fun H locs cells slots ls' _ kk => ?_
    by_cases hin : x.toInt < lo ∨ hi < x.toInt
    · rw [swl_out (lo := lo) (hi := hi) _ _ _ _ _ _ h3 (by omega)] at kk
      exact lv_tableOut hx hb hd hin (jmp_of h1) kk
    · obtain ⟨off, g1, g2⟩ := swl_in (lo := lo) _ _ _ _ tg x h3 (by omega) (by omega)
      rw [Array.getElem?_toList] at g1
      exact lv_tableIn hx hb hd (fun z => hin (Or.inl z)) (fun z => hin (Or.inr z)) g1 g2 kk
  | lookupswitch dd ps =>
    simp only [okI, Bool.and_eq_true] at hI
    obtain ⟨⟨h1, h2⟩, h3⟩ := hI
    have hk : Gx p l e R s m args below meth c Q D cT A mid res cF sF (xSw sw tg (pc0 + len) ls st M).2 := hk
    obtain ⟨x, r, rfl, e1⟩ := xSw_s hok
    rw [e1] at hk
    refine hk.pure fun H locs cells slots ls' _ kk => ?_
    exact lv_lookup hx hb hd h2 rfl (swl_lk _ _ _ _ x h3 (jmp_of h1)) kk
  | getfield i =>
    have hlen : len = 3 := Nat.eq_of_beq_eq_true hI
    subst hlen
    exact stp_getf hF hd hok hk
  | putfield i =>
    have hlen : len = 3 := Nat.eq_of_beq_eq_true hI
    subst hlen
    exact stp_putf hF hd hP hok hk
  | iaload =>
    have hlen : len = 1 := Nat.eq_of_beq_eq_true hI
    subst hlen
    have hok : (xIal (pc0 + 1) ls st M).1 = true := hok
    have hk : Gx p l e R s m args below meth c Q D cT A mid res cF sF (xIal (pc0 + 1) ls st M).2 := hk
    unfold xIal at hok hk
    split at hok
    · exact Gx.iald hF hd hok hk
    · exact Gx.sld hF hd hok hk
    · cases hok
  | baload =>
    have hlen : len = 1 := Nat.eq_of_beq_eq_true hI
    subst hlen
    have hok : (xB (pc0 + 1) ls st M).1 = true := hok
    have hk : Gx p l e R s m args below meth c Q D cT A mid res cF sF (xB (pc0 + 1) ls st M).2 := hk
    unfold xB at hok hk
    split at hok
    · exact Gx.bald hF hd hok hk
    · cases hok
  | caload =>
    have hlen : len = 1 := Nat.eq_of_beq_eq_true hI
    subst hlen
    have hok : (xAldI 23 (pc0 + 1) ls st M).1 = true := hok
    have hk : Gx p l e R s m args below meth c Q D cT A mid res cF sF (xAldI 23 (pc0 + 1) ls st M).2 := hk
    unfold xAldI at hok hk
    split at hok
    · exact Gx.cald hF hd hok hk
    · cases hok
  | laload =>
    have hlen : len = 1 := Nat.eq_of_beq_eq_true hI
    subst hlen
    have hok : (xLal (pc0 + 1) ls st M).1 = true := hok
    have hk : Gx p l e R s m args below meth c Q D cT A mid res cF sF (xLal (pc0 + 1) ls st M).2 := hk
    unfold xLal at hok hk
    split at hok
    · exact Gx.lald hF hd hok hk
    · cases hok
  | aaload =>
    have hlen : len = 1 := Nat.eq_of_beq_eq_true hI
    subst hlen
    have hok : (xAal (pc0 + 1) ls st M).1 = true := hok
    have hk : Gx p l e R s m args below meth c Q D cT A mid res cF sF (xAal (pc0 + 1) ls st M).2 := hk
    unfold xAal at hok hk
    split at hok
    · exact Gx.aald hF hd hok hk
    · cases hok
  | iastore =>
    have hlen : len = 1 := Nat.eq_of_beq_eq_true hI
    subst hlen
    have hok : (xIas (pc0 + 1) ls st M).1 = true := hok
    have hk : Gx p l e R s m args below meth c Q D cT A mid res cF sF (xIas (pc0 + 1) ls st M).2 := hk
    unfold xIas at hok hk
    split at hok
    · exact Gx.iast hF hd hok hk
    · cases hok
  | bastore =>
    have hlen : len = 1 := Nat.eq_of_beq_eq_true hI
    subst hlen
    have hok : (xBas (pc0 + 1) ls st M).1 = true := hok
    have hk : Gx p l e R s m args below meth c Q D cT A mid res cF sF (xBas (pc0 + 1) ls st M).2 := hk
    unfold xBas at hok hk
    split at hok
    · exact Gx.bast hF hd hok hk
    · cases hok
  | castore =>
    have hlen : len = 1 := Nat.eq_of_beq_eq_true hI
    subst hlen
    have hok : (xCas (pc0 + 1) ls st M).1 = true := hok
    have hk : Gx p l e R s m args below meth c Q D cT A mid res cF sF (xCas (pc0 + 1) ls st M).2 := hk
    unfold xCas at hok hk
    split at hok
    · exact Gx.cast hF hd hok hk
    · cases hok
  | lastore =>
    have hlen : len = 1 := Nat.eq_of_beq_eq_true hI
    subst hlen
    have hok : (xLas (pc0 + 1) ls st M).1 = true := hok
    have hk : Gx p l e R s m args below meth c Q D cT A mid res cF sF (xLas (pc0 + 1) ls st M).2 := hk
    unfold xLas at hok hk
    split at hok
    · exact Gx.last hF hd hok hk
    · cases hok
  | aastore =>
    have hlen : len = 1 := Nat.eq_of_beq_eq_true hI
    subst hlen
    have hok : (xAas (pc0 + 1) ls st M).1 = true := hok
    have hk : Gx p l e R s m args below meth c Q D cT A mid res cF sF (xAas (pc0 + 1) ls st M).2 := hk
    unfold xAas at hok hk
    split at hok
    · exact Gx.aast hF hd hok hk
    · cases hok
  | arraylength =>
    have hlen : len = 1 := Nat.eq_of_beq_eq_true hI
    subst hlen
    have hok : (xAln (pc0 + 1) ls st M).1 = true := hok
    have hk : Gx p l e R s m args below meth c Q D cT A mid res cF sF (xAln (pc0 + 1) ls st M).2 := hk
    unfold xAln at hok hk
    split at hok
    · exact Gx.alen hF hd hok hk
    · exact Gx.slen hF hd hk
    · cases hok
  | new i =>
    have hlen : len = 3 := Nat.eq_of_beq_eq_true hI
    subst hlen
    have hok : (xNew (lkf (lnO (clM mid)) i) (pc0 + 3) ls st M).1 = true := hok
    have hle : (nw M).1 ≤ res.2.1 := hle
    have hk : Gx p l e R s m args below meth c Q D cT A mid res cF sF (pc0 + 3, ls, .ref M.1 :: st, nw M) := hk
    unfold xNew at hok
    simp only [Bool.and_eq_true] at hok
    have h7 := Nat.eq_of_beq_eq_true hok.1.1
    have hK := Nat.eq_of_beq_eq_true hok.1.2
    have hZ := Nat.eq_of_beq_eq_true hok.2
    have hL := @okL_of mid hO i (by rw [h7]; decide)
    generalize lkf (lnO (clM mid)) i = L at hL h7 hK hZ
    obtain ⟨tag, ci, k, pos, vi, vl⟩ := L
    dsimp only at h7 hK hZ
    subst h7
    simp only [okL, Bool.and_eq_true, blt_iff] at hL
    exact Gx.new hF hL.2 hK hZ (fun x => wAt_of hC hL.1 rfl x) hd hle hk
  | newarray t =>
    have hlen : len = 2 := Nat.eq_of_beq_eq_true hI
    subst hlen
    have hok : (xNwa (kAT t) (pc0 + 2) ls st M).1 = true := hok
    have hle : (xNwa (kAT t) (pc0 + 2) ls st M).2.2.2.2.1 ≤ res.2.1 := hle
    have hk : Gx p l e R s m args below meth c Q D cT A mid res cF sF (xNwa (kAT t) (pc0 + 2) ls st M).2 := hk
    unfold xNwa at hok hk hle
    split at hok
    · simp only [Bool.and_eq_true, decide_eq_true_eq] at hok
      have hK := Nat.eq_of_beq_eq_true hok.1.1
      have h98 := K0_98 M.1
      exact Gx.nwa hF hK hok.1.2 (Nat.eq_of_beq_eq_true hok.2) hd hle (Z0_small (K0_lt (by rw [hK]; intro z; cases t <;> cases z))) hk
    · cases hok
  | anewarray i =>
    have hlen : len = 3 := Nat.eq_of_beq_eq_true hI
    subst hlen
    have hok : (bif Nat.beq (lkf (lnO (clM mid)) i).1 7 && Nat.beq (lkf (lnO (clM mid)) i).2.1 8 then xNwa 25 (pc0 + 3) ls st M else (false, pc0 + 3, ls, st, M)).1 = true := hok
    have hle : (bif Nat.beq (lkf (lnO (clM mid)) i).1 7 && Nat.beq (lkf (lnO (clM mid)) i).2.1 8 then xNwa 25 (pc0 + 3) ls st M else (false, pc0 + 3, ls, st, M)).2.2.2.2.1 ≤ res.2.1 := hle
    have hk : Gx p l e R s m args below meth c Q D cT A mid res cF sF (bif Nat.beq (lkf (lnO (clM mid)) i).1 7 && Nat.beq (lkf (lnO (clM mid)) i).2.1 8 then xNwa 25 (pc0 + 3) ls st M else (false, pc0 + 3, ls, st, M)).2 := hk
    cases hb7 : (Nat.beq (lkf (lnO (clM mid)) i).1 7 && Nat.beq (lkf (lnO (clM mid)) i).2.1 8)
    · rw [hb7] at hok; cases hok
    · rw [hb7] at hok hle hk
      dsimp only [cond_true] at hok hle hk
      simp only [Bool.and_eq_true] at hb7
      have h7 := Nat.eq_of_beq_eq_true hb7.1
      have h8 := Nat.eq_of_beq_eq_true hb7.2
      have hL := @okL_of mid hO i (by rw [h7]; decide)
      generalize lkf (lnO (clM mid)) i = L at hL h7 h8
      obtain ⟨tag, ci, k, pos, vi, vl⟩ := L
      dsimp only at h7 h8
      subst h7
      subst h8
      simp only [okL, Bool.and_eq_true, blt_iff] at hL
      unfold xNwa at hok hk hle
      split at hok
      · simp only [Bool.and_eq_true, decide_eq_true_eq] at hok
        have hK := Nat.eq_of_beq_eq_true hok.1.1
        exact Gx.anew hF hK hok.1.2 (Nat.eq_of_beq_eq_true hok.2) (fun x => wAt_of hC hL.1 rfl x) hd hle (Z0_small (K0_lt (by omega))) hk
      · cases hok
  | multianewarray i dm =>
    match dm, hd, hI, hok, hk, hle with
    | 2, hd, hI, hok, hk, hle =>
      have hlen : len = 4 := Nat.eq_of_beq_eq_true hI
      subst hlen
      have hok : (xMna (lkf (lnO (clM mid)) i) (pc0 + 4) ls st M).1 = true := hok
      have hle : (xMna (lkf (lnO (clM mid)) i) (pc0 + 4) ls st M).2.2.2.2.1 ≤ res.2.1 := hle
      have hk : Gx p l e R s m args below meth c Q D cT A mid res cF sF (xMna (lkf (lnO (clM mid)) i) (pc0 + 4) ls st M).2 := hk
      unfold xMna at hok hk hle
      split at hok
      · simp only [Bool.and_eq_true, decide_eq_true_eq] at hok
        obtain ⟨⟨⟨⟨⟨h15, hKo⟩, hn⟩, hk0⟩, hZ⟩, hall⟩ := hok
        have h15 := Nat.eq_of_beq_eq_true h15
        have hKo := Nat.eq_of_beq_eq_true hKo
        have hZ := Nat.eq_of_beq_eq_true hZ
        have hL := @okL_of mid hO i (by rw [h15]; decide)
        generalize lkf (lnO (clM mid)) i = L at hL h15 hKo hall
        obtain ⟨tag, ko, ki, pos, vi, vl⟩ := L
        dsimp only at h15 hKo hall
        subst h15
        have hall' : ∀ j, j < Z0 M.1 → K0 (M.1 + 1 + j) = ki ∧ Z0 (M.1 + 1 + j) = Int32.toNatClampNeg _ := fun j hj => by
          have h1 := List.all_eq_true.mp hall j (List.mem_range.mpr hj)
          simp only [Bool.and_eq_true] at h1
          exact ⟨Nat.eq_of_beq_eq_true h1.1, Nat.eq_of_beq_eq_true h1.2⟩
        have hle : (nwm (Z0 M.1) M).1 ≤ res.2.1 := hle
        rw [nwm_n] at hle
        have hsm : ∀ k : Int32, k.toNatClampNeg ≤ 60000000 ∨ 0 < Z0 M.1 → k.toNatClampNeg ≤ 60000000 ∨ 0 < Z0 M.1 := fun _ h => h
        simp only [okL] at hL
        split at hL
        · simp only [Bool.and_eq_true] at hL
          have hki := Nat.eq_of_beq_eq_true hL.2
          subst hki
          exact Gx.mna (ty := .int) (ko := 26) (ki := 20) (jo := 6) (ji := 0) hF hn hk0 hZ rfl (Z0_small (K0_lt (by omega))) (mna_small hKo hall') (Or.inl ⟨rfl, rfl, rfl, rfl, rfl⟩) hKo rfl hall' (fun x => wAt_of hC hL.1 rfl x) hd hle hk
        · simp only [Bool.and_eq_true] at hL
          have hki := Nat.eq_of_beq_eq_true hL.2
          subst hki
          exact Gx.mna (ty := .long) (ko := 27) (ki := 21) (jo := 7) (ji := 1) hF hn hk0 hZ rfl (Z0_small (K0_lt (by omega))) (mna_small hKo hall') (Or.inr ⟨rfl, rfl, rfl, rfl, rfl⟩) hKo rfl hall' (fun x => wAt_of hC hL.1 rfl x) hd hle hk
        · cases hL
      · cases hok
    | 0, hd, hI, hok, hk, hle => cases hok
    | 1, hd, hI, hok, hk, hle => cases hok
    | n + 3, hd, hI, hok, hk, hle => cases hok
  | invokestatic i =>
    have hlen : len = 3 := Nat.eq_of_beq_eq_true hI
    subst hlen
    have hok : (bif Nat.beq (lkf (lnO (clM mid)) i).1 12 then xPrim (lkf (lnO (clM mid)) i).2.1 (pc0 + 3) ls st M else (false, pc0 + 3, ls, st, M)).1 = true := hok
    have hk : Gx p l e R s m args below meth c Q D cT A mid res cF sF (bif Nat.beq (lkf (lnO (clM mid)) i).1 12 then xPrim (lkf (lnO (clM mid)) i).2.1 (pc0 + 3) ls st M else (false, pc0 + 3, ls, st, M)).2 := hk
    cases hb7 : Nat.beq (lkf (lnO (clM mid)) i).1 12
    · rw [hb7] at hok; cases hok
    · rw [hb7] at hok hk
      exact stp_prim hF hd (Nat.eq_of_beq_eq_true hb7) hok hk
  | invokespecial i =>
    have hlen : len = 3 := Nat.eq_of_beq_eq_true hI
    subst hlen
    exact stp_obj hF hd hok hk
  | invokevirtual i =>
    have hlen : len = 3 := Nat.eq_of_beq_eq_true hI
    subst hlen
    exact stp_idx hF hd hok hk
  | _ => cases hok
end
