theorem RMc_l (d mc ms : Nat) : (RMc d mc ms).locals = 41 * d + 300 := rfl
theorem RMc_ok {d mc ms x K : Nat} (hx : x ≤ 22) (h : 41 * (d + 1) + 300 ≤ K) : 8 + (x + 11) + (RMc d mc ms).locals ≤ K := by
  have e := RMc_l d mc ms
  generalize (RMc d mc ms).locals = z at e ⊢
  omega
section
variable {d mid mid' : Nat} {pc i : Nat} {ls ls2 st av rest : List Value} {M M1 : GM} {res : Option Value × GM} {v : Option Value}
/-- behind a call's machine -/
theorem Gx.after {p : Program} {l : Launch} {e : Env} {R : Room} {s : State} {m : MethodId} {args : Array Value} {below : List Frame} {meth : Method} {c : Code} {Q : State → Prop} {D : va_G} {cT : Nat → ClassId} {A : Nat × Nat × Nat} {cF sF : Nat} {H : Heap} {locs : List Loc} {cells slots : Nat} {ls' : Array Slot} {g : List Value} {a : Array Value}
    (hF : Fx p l e R s m args below meth c Q D cT A (d + 1) mid res cF sF) (hP : Px s D cT A mid res cF sF (pc, ls, st, M) H locs cells slots ls') (hle : M.1 ≤ M1.1)
    (hrun : va_Run p l e R s m args below meth c H locs cells slots (M1.1 - M.1) (SZ M1.1 - SZ M.1) (F0 m pc ls' g) (rest.map (cv A)) (Qcx D cT A (v, M1) a) (fun q => A.1 ≤ q))
    (hk : Gx p l e R s m args below meth c Q D cT A mid res cF sF (pc + 3, ls, v.toList ++ rest, M1)) (hle2 : M1.1 ≤ res.2.1) : W p l e R s m args below meth c H locs cells slots Q (F0 m pc ls' g) := by
  obtain ⟨h1, h2, h3, h4, h5, h6⟩ := hP
  dsimp only at h1 h2 h3 h5
  intro T hT X
  obtain ⟨v', st₀, t, T', L, e0, X', hL, e1, e2, ⟨hv, hHt, hz, hbel⟩, st⟩ := hrun T hT X
  have hv' : v' = v.map (cv A) := by cases hv; rfl
  subst hv'
  have hW : s.WarmedH t.vm := by rw [← e2]; exact X'.warmed
  rw [e0] at hz hbel
  have hA : A.1 ≤ H.size := h5.le
  have hHR : HR D cT A M1 s T'.heap := by
    rw [e1]
    refine ⟨hHt.1, hHt.2.1, hHt.2.2.1.moved hW.alike.symm, h5.2.2.2.kept hA hbel⟩
  have hz1 := SZ_mono hle
  have hz2 := SZ_mono hle2
  have hS : va_S (fun q => A.1 ≤ q) s.heap T'.heap (locs ++ L) := by
    rw [e1]
    refine ⟨Nat.le_trans h4.1 hz, fun q q1 q2 => (hbel q (Nat.not_le.mp q2)).trans (h4.2.1 q q1 q2), fun q hq => ?_⟩
    rcases List.mem_append.mp hq with h | h
    · exact h4.2.2 q h
    · exact hL q h
  obtain ⟨t2, a1, b1⟩ := hk T'.heap (locs ++ L) (cells + (M1.1 - M.1)) (slots + (SZ M1.1 - SZ M.1)) ls' ⟨hle2, by show cells + (M1.1 - M.1) + (res.2.1 - M1.1) = cF; omega, by show slots + (SZ M1.1 - SZ M.1) + (SZ res.2.1 - SZ M1.1) = sF; omega, hS, hHR, h6⟩ T' rfl X'
  refine ⟨t2, st t2 ?_, b1⟩
  have e3 : (v.map (cv A)).toList ++ rest.map (cv A) = (v.toList ++ rest).map (cv A) := by cases v <;> rfl
  rw [e3]
  exact a1
/-- what a method's word list says of a callee -/
theorem okM_spec {D : va_G} {cT : Nat → ClassId} {s : State} (hC : Cx D cT s) (h : okM mid' = true) : (∀ a : Array Value, (Cond.initialized (yM mid').cls).before a s = true) ∧ ((yM mid').cls ≠ "java/lang/invoke/MethodHandle" ∧ (yM mid').cls ≠ "java/lang/invoke/VarHandle" ∧ (parseMethodDescriptor (yM mid').desc).map (fun d => d.parameters.length) = some (naM mid')) ∧ mxL mid' ≤ 22 ∧ (yM mid').cls = RC (clM mid') ∧
    (kdM mid' = 0 → ∀ a : Array Value, (Cond.static (yM mid')).before a s = true) ∧ (kdM mid' = 1 → ∀ a : Array Value, (Cond.instanceMethod (yM mid')).before a s = true ∧ (Cond.selects (yM mid').cls (yM mid') (yM mid')).before a s = true) ∧ (kdM mid' = 2 → (∀ a : Array Value, (Cond.instanceMethod (yM mid')).before a s = true) ∧ (yM mid').name = "<init>") := by
  unfold okM at h
  simp only [Bool.and_eq_true, decide_eq_true_eq] at h
  obtain ⟨⟨⟨⟨⟨h1, h2⟩, h3⟩, -⟩, h5⟩, h6⟩ := h
  refine ⟨fun a => wAt_of hC h1 rfl a, h2, Nat.le_of_ble_eq_true h3, h5, fun q a => ?_, fun q a => ?_, fun q => ?_⟩
  · rw [q] at h6; exact wAt_of hC h6 rfl a
  · rw [q] at h6
    simp only [Bool.and_eq_true] at h6
    exact ⟨wAt_of hC h6.1 rfl a, wAt_of hC h6.2 rfl a⟩
  · rw [q] at h6
    simp only [Bool.and_eq_true, decide_eq_true_eq] at h6
    exact ⟨fun a => wAt_of hC h6.1 rfl a, h6.2⟩
theorem HR.recv {D : va_G} {cT : Nat → ClassId} {A : Nat × Nat × Nat} {s : State} {H : Heap} {a ci : Nat} (hC : Cx D cT s) (hH : HR D cT A M s H) (ha : a < M.1) (hK : K0 a = ci) (hci : ci < 13) : ∃ cell : Cell, H[A.1 + a]? = some cell ∧ cell.vm.isStatics = false ∧ s.vm.findClass (RC ci) = some cell.cls := by
  obtain ⟨cell, q1, q2, q3, -⟩ := hH.obj ha hK hci
  exact ⟨cell, q1, by rw [q3]; rfl, by rw [q2]; exact (hC.2.1.1 ci _ (cl13_at hci)).2.1⟩
/-- a call by the receiver -/
theorem Rc.callV {a : Nat} (hi : (ftc (cdO mid) pc).2.1 = .invokevirtual i) (hl : (lkf (lnO (clM mid)) i).1 = 4) (hm : (lkf (lnO (clM mid)) i).2.1 = mid') (hcw : CwM mid') (hkc : kc M.1 a (clM mid') = true) (hci : clM mid' < 13) (hn : av.length = naM mid') (hr : (rest.map fun v => v.category).sum ≤ 8)
    (hE : Ex d mid' (.ref a :: av) M (v, M1)) (hk : Rc (d + 1) mid (pc + 3, ls, v.toList ++ rest, M1) res) : Rc (d + 1) mid (pc, ls, av.reverse ++ .ref a :: rest, M) res := by
  refine ⟨Nat.le_trans hE.1 hk.1, fun p l e R s m args below meth c Q D cT A cF sF hF H locs cells slots ls' hP => ?_⟩
  refine Gx.after hF hP hE.1 ?_ (hk.2 p l e R s m args below meth c Q D cT A cF sF hF) hk.1 (v := v) (rest := rest) (a := (Value.ref (A.1 + a) :: av.map (cv A)).toArray)
  obtain ⟨hx, hb, hml, hown, -, hC, hd1, hd2, hcF, hsF, -, hO, h1d, -⟩ := hF
  obtain ⟨h1, h2, h3, h4, h5, h6⟩ := hP
  dsimp only at h1 h2 h3 h5 h6
  have hmem := @ftc_mem (cdO mid) pc
  generalize ftc (cdO mid) pc = en at hi hmem
  obtain ⟨pc0, ins, len, tg, imm, sw⟩ := en
  dsimp only at hi hmem
  subst hi
  obtain ⟨hmm, hpc⟩ := hmem (by simp)
  subst hpc
  obtain ⟨hd, hI⟩ := okE_of hO hmm
  have hlen : len = 3 := Nat.eq_of_beq_eq_true hI
  subst hlen
  have hL := @okL_of mid hO i (by rw [hl]; decide)
  generalize lkf (lnO (clM mid)) i = L at hL hl hm
  obtain ⟨tag, mm, k, pos, vi, vl⟩ := L
  dsimp only at hl hm
  subst hl; subst hm
  simp only [okL, Bool.and_eq_true] at hL
  obtain ⟨⟨hlk, hoM⟩, hkd⟩ := hL
  obtain ⟨hini, hds, hmx, hcl, -, hvi, -⟩ := okM_spec hC hoM
  have hvi := hvi (Nat.eq_of_beq_eq_true hkd)
  obtain ⟨hKa, haM⟩ := kc_iff.mp hkc
  have hcw' : Cond.code (yM mm) (cB mm) (mxL mm) (rtM mm) ∈ lw_tbl := List.mem_of_getElem? hcw
  have hts : ∀ w ∈ [Cond.code (yM mm) (cB mm) (mxL mm) (rtM mm)], w.before args s = true := fun w hw => by rw [List.mem_singleton.mp hw]; exact hC.1 _ hcw' rfl args
  have hz1 := SZ_mono hE.1
  have hz2 := SZ_mono hk.1
  have hle2 := hk.1
  have hle1 := hE.1
  dsimp only at hle2 hle1 hz1 hz2
  refine va_runV (Ts := [Cond.code (yM mm) (cB mm) (mxL mm) (rtM mm)]) (C := (yM mm).cls) (rm := RMc d (M1.1 - M.1) (SZ M1.1 - SZ M.1)) (As := av.map (cv A)) ⟨hx, hb, hml, hown, hts⟩ (hE.2 l D cT A) ⟨callB_of (naM mm) hts (GoodIn_code List.mem_cons_self) rfl rfl rfl (hini args) (wAt_of hC hlk rfl args) hds ⟨hd1, RMc_ok (by omega) (by assumption)⟩, (hvi args).1, (hvi args).2⟩ ?_ rfl (by simpa using hn) h6.2.1 ?_ (lv_room (by rw [sum_cv]; exact hr)) hd ⟨by show cells + (M1.1 - M.1) ≤ _; omega, by show slots + (SZ M1.1 - SZ M.1) ≤ _; omega⟩
  · refine ⟨Pcx_blind _ _ _ _ _, ?_, fun U hU hW => ⟨rfl, hC.moved hW, by rw [hU]; exact h5.moved hW⟩⟩
    rw [hcl]
    exact h5.recv hC haM hKa hci
  · show (av.reverse ++ Value.ref a :: rest).map (cv A) = _
    simp [cv_ref]
/-- a constructor's call -/
theorem Rc.callI {a : Nat} (hi : (ftc (cdO mid) pc).2.1 = .invokespecial i) (hl : (lkf (lnO (clM mid)) i).1 = 6) (hm : (lkf (lnO (clM mid)) i).2.1 = mid') (hcw : CwM mid') (hrt : rtM mid' = none) (hn : av.length = naM mid') (hr : (rest.map fun v => v.category).sum ≤ 8)
    (hE : Ex d mid' (.ref a :: av) M (v, M1)) (hk : Rc (d + 1) mid (pc + 3, ls, v.toList ++ rest, M1) res) : Rc (d + 1) mid (pc, ls, av.reverse ++ .ref a :: rest, M) res := by
  refine ⟨Nat.le_trans hE.1 hk.1, fun p l e R s m args below meth c Q D cT A cF sF hF H locs cells slots ls' hP => ?_⟩
  refine Gx.after hF hP hE.1 ?_ (hk.2 p l e R s m args below meth c Q D cT A cF sF hF) hk.1 (v := v) (rest := rest) (a := (Value.ref (A.1 + a) :: av.map (cv A)).toArray)
  obtain ⟨hx, hb, hml, hown, -, hC, hd1, hd2, hcF, hsF, -, hO, h1d, -⟩ := hF
  obtain ⟨h1, h2, h3, h4, h5, h6⟩ := hP
  dsimp only at h1 h2 h3 h5 h6
  have hmem := @ftc_mem (cdO mid) pc
  generalize ftc (cdO mid) pc = en at hi hmem
  obtain ⟨pc0, ins, len, tg, imm, sw⟩ := en
  dsimp only at hi hmem
  subst hi
  obtain ⟨hmm, hpc⟩ := hmem (by simp)
  subst hpc
  obtain ⟨hd, hI⟩ := okE_of hO hmm
  have hlen : len = 3 := Nat.eq_of_beq_eq_true hI
  subst hlen
  have hL := @okL_of mid hO i (by rw [hl]; decide)
  generalize lkf (lnO (clM mid)) i = L at hL hl hm
  obtain ⟨tag, mm, k, pos, vi, vl⟩ := L
  dsimp only at hl hm
  subst hl; subst hm
  simp only [okL, Bool.and_eq_true] at hL
  obtain ⟨⟨hlk, hoM⟩, hkd⟩ := hL
  obtain ⟨hini, hds, hmx, hcl, -, -, hin⟩ := okM_spec hC hoM
  obtain ⟨hin, hnm⟩ := hin (Nat.eq_of_beq_eq_true hkd)
  have hcw' : Cond.code (yM mm) (cB mm) (mxL mm) (rtM mm) ∈ lw_tbl := List.mem_of_getElem? hcw
  have hM := hE.2 l D cT A
  rw [hrt] at hM hcw'
  have hts : ∀ w ∈ [Cond.code (yM mm) (cB mm) (mxL mm) none], w.before args s = true := fun w hw => by rw [List.mem_singleton.mp hw]; exact hC.1 _ hcw' rfl args
  have hz1 := SZ_mono hE.1
  have hz2 := SZ_mono hk.1
  have hle2 := hk.1
  have hle1 := hE.1
  dsimp only at hle2 hle1 hz1 hz2
  refine va_runI (Ts := [Cond.code (yM mm) (cB mm) (mxL mm) none]) (rm := RMc d (M1.1 - M.1) (SZ M1.1 - SZ M.1)) (As := av.map (cv A)) ⟨hx, hb, hml, hown, hts⟩ hM ⟨callB_of (naM mm) hts (GoodIn_code List.mem_cons_self) rfl rfl rfl (hini args) (wAt_of hC hlk rfl args) hds ⟨hd1, RMc_ok (by omega) (by assumption)⟩, hnm, hin args⟩ ?_ rfl (by simpa using hn) h6.2.1 ?_ (lv_room (by rw [sum_cv]; exact hr)) hd ⟨by show cells + (M1.1 - M.1) ≤ _; omega, by show slots + (SZ M1.1 - SZ M.1) ≤ _; omega⟩
  · exact ⟨Pcx_blind _ _ _ _ _, fun U hU hW => ⟨rfl, hC.moved hW, by rw [hU]; exact h5.moved hW⟩⟩
  · show (av.reverse ++ Value.ref a :: rest).map (cv A) = _
    simp [cv_ref]
/-- a static call -/
theorem Rc.callS (hi : (ftc (cdO mid) pc).2.1 = .invokestatic i) (hl : (lkf (lnO (clM mid)) i).1 = 2 ∨ (lkf (lnO (clM mid)) i).1 = 3) (hm : (lkf (lnO (clM mid)) i).2.1 = mid') (hcw : CwM mid') (hn : av.length = naM mid') (hr : (rest.map fun v => v.category).sum ≤ 8)
    (hE : Ex d mid' av M (v, M1)) (hk : Rc (d + 1) mid (pc + 3, ls, v.toList ++ rest, M1) res) : Rc (d + 1) mid (pc, ls, av.reverse ++ rest, M) res := by
  refine ⟨Nat.le_trans hE.1 hk.1, fun p l e R s m args below meth c Q D cT A cF sF hF H locs cells slots ls' hP => ?_⟩
  refine Gx.after hF hP hE.1 ?_ (hk.2 p l e R s m args below meth c Q D cT A cF sF hF) hk.1 (v := v) (rest := rest) (a := (av.map (cv A)).toArray)
  obtain ⟨hx, hb, hml, hown, -, hC, hd1, hd2, hcF, hsF, -, hO, h1d, -⟩ := hF
  obtain ⟨h1, h2, h3, h4, h5, h6⟩ := hP
  dsimp only at h1 h2 h3 h5 h6
  have hmem := @ftc_mem (cdO mid) pc
  generalize ftc (cdO mid) pc = en at hi hmem
  obtain ⟨pc0, ins, len, tg, imm, sw⟩ := en
  dsimp only at hi hmem
  subst hi
  obtain ⟨hmm, hpc⟩ := hmem (by simp)
  subst hpc
  obtain ⟨hd, hI⟩ := okE_of hO hmm
  have hlen : len = 3 := Nat.eq_of_beq_eq_true hI
  subst hlen
  have hL := @okL_of mid hO i (by rcases hl with q | q <;> rw [q] <;> decide)
  generalize lkf (lnO (clM mid)) i = L at hL hl hm
  obtain ⟨tag, mm, k, pos, vi, vl⟩ := L
  dsimp only at hl hm
  subst hm
  have hcw' : Cond.code (yM mm) (cB mm) (mxL mm) (rtM mm) ∈ lw_tbl := List.mem_of_getElem? hcw
  have hts : ∀ w ∈ [Cond.code (yM mm) (cB mm) (mxL mm) (rtM mm)], w.before args s = true := fun w hw => by rw [List.mem_singleton.mp hw]; exact hC.1 _ hcw' rfl args
  have hz1 := SZ_mono hE.1
  have hz2 := SZ_mono hk.1
  have hle2 := hk.1
  have hle1 := hE.1
  dsimp only at hle2 hle1 hz1 hz2
  have hst : (av.reverse ++ rest).map (cv A) = (av.map (cv A)).reverse ++ rest.map (cv A) := by simp
  rcases hl with hl | hl
  · subst hl
    simp only [okL, Bool.and_eq_true] at hL
    obtain ⟨⟨hlk, hoM⟩, hkd⟩ := hL
    obtain ⟨hini, hds, hmx, hcl, hsta, -⟩ := okM_spec hC hoM
    have hsta := hsta (Nat.eq_of_beq_eq_true hkd)
    exact va_runS (Ts := [Cond.code (yM mm) (cB mm) (mxL mm) (rtM mm)]) (rm := RMc d (M1.1 - M.1) (SZ M1.1 - SZ M.1)) (As := av.map (cv A)) ⟨hx, hb, hml, hown, hts⟩ (hE.2 l D cT A) ⟨callB_of (naM mm) hts (GoodIn_code List.mem_cons_self) rfl rfl rfl (hini args) (wAt_of hC hlk rfl args) hds ⟨hd1, RMc_ok (by omega) (by assumption)⟩, hsta args⟩
      ⟨Pcx_blind _ _ _ _ _, fun U hU hW => ⟨rfl, hC.moved hW, by rw [hU]; exact h5.moved hW⟩⟩ rfl (by simpa using hn) h6.2.1 hst (lv_room (by rw [sum_cv]; exact hr)) hd ⟨by show cells + (M1.1 - M.1) ≤ _; omega, by show slots + (SZ M1.1 - SZ M.1) ≤ _; omega⟩
  · subst hl
    simp only [okL, Bool.and_eq_true] at hL
    obtain ⟨⟨hlk, hoM⟩, hkd⟩ := hL
    obtain ⟨hini, hds, hmx, hcl, hsta, -⟩ := okM_spec hC hoM
    have hsta := hsta (Nat.eq_of_beq_eq_true hkd)
    exact va_runSN (Ts := [Cond.code (yM mm) (cB mm) (mxL mm) (rtM mm)]) (rm := RMc d (M1.1 - M.1) (SZ M1.1 - SZ M.1)) (As := av.map (cv A)) ⟨hx, hb, hml, hown, hts⟩ (hE.2 l D cT A) ⟨va_cnB (naM mm) hts (GoodIn_code List.mem_cons_self) rfl rfl rfl (wAt_of hC hlk rfl #[]) (hini args) hds ⟨hd1, RMc_ok (by omega) (by assumption)⟩, hsta args, trivial⟩
      ⟨Pcx_blind _ _ _ _ _, fun U hU hW => ⟨rfl, hC.moved hW, by rw [hU]; exact h5.moved hW⟩⟩ rfl (by simpa using hn) h6.2.1 hst (lv_room (by rw [sum_cv]; exact hr)) hd ⟨by show cells + (M1.1 - M.1) ≤ _; omega, by show slots + (SZ M1.1 - SZ M.1) ≤ _; omega⟩
end
