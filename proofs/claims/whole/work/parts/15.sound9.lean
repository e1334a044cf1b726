section
variable {p : Program} {l : Launch} {e : Env} {R : Room} {s : State} {m : MethodId} {args : Array Value} {below : List Frame} {meth : Method} {c : Code} {Q : State → Prop} {D : va_G} {cT : Nat → ClassId} {A : Nat × Nat × Nat} {d mid : Nat} {res : Option Value × GM} {cF sF : Nat}
variable {pc pc' t nx : Nat} {ls lsx st st' r : List Value} {M M1 : GM} {H H1 : Heap} {locs locs1 : List Loc}
theorem stp_getf (hF : Fx p l e R s m args below meth c Q D cT A d mid res cF sF) {i : Nat} (hd : decode (cB mid) pc = .ok (.getfield i, 3)) (hok : (xGet (lkf (lnO (clM mid)) i) (pc + 3) ls st M).1 = true)
    (hk : Gx p l e R s m args below meth c Q D cT A mid res cF sF (xGet (lkf (lnO (clM mid)) i) (pc + 3) ls st M).2) : Gx p l e R s m args below meth c Q D cT A mid res cF sF (pc, ls, st, M) := by
  have hO : OKM mid := hF.2.2.2.2.2.2.2.2.2.2.2.1
  have hC : Cx D cT s := hF.2.2.2.2.2.1
  have hL := @okL_of mid hO i
  generalize lkf (lnO (clM mid)) i = L at hok hk hL
  obtain ⟨tag, ci, k, pos, vi, vl⟩ := L
  unfold xGet at hok hk
  split at hok
  case h_2 => cases hok
  case h_1 a r' =>
  dsimp only at hok hk
  cases ht : Nat.blt tag 2
  · rw [ht] at hok; cases hok
  · rw [ht] at hok hk
    dsimp only [cond_true] at hok hk
    have ht2 : tag < 2 := blt_iff.mp ht
    have hL := hL (by show ¬ tag = 99; omega)
    have key : (ci < 13 ∧ k < nf ci ∧ (TC ci k).1 = RC ci) ∧ ((∀ x : Array Value, (Cond.fieldLink (RC (clM mid)) i (RC ci) (TC ci k).2.1 (TC ci k).2.2.1).before x s = true) ∨ (∀ x : Array Value, (Cond.fieldLinkNest (RC (clM mid)) i (RC ci) (TC ci k).2.1 (TC ci k).2.2.1 "FrameRents").before x s = true)) := by
      rcases (show tag = 0 ∨ tag = 1 by omega) with rfl | rfl
      · simp only [okL, Bool.and_eq_true, blt_iff, decide_eq_true_eq] at hL
        exact ⟨⟨hL.1.2, hL.2, hL.1.1.2⟩, Or.inl fun x => wAt_of hC hL.1.1.1 rfl x⟩
      · simp only [okL, Bool.and_eq_true, blt_iff, decide_eq_true_eq] at hL
        exact ⟨⟨hL.1.2, hL.2, hL.1.1.2⟩, Or.inr fun x => wAt_of hC hL.1.1.1 rfl x⟩
    obtain ⟨⟨h13, hkn, hrf⟩, hl⟩ := key
    have fin : ∀ (v : Value), K0 a = ci ∧ a < M.1 → cv A v = fval A M ci a k → Gx p l e R s m args below meth c Q D cT A mid res cF sF (pc + 3, ls, v :: r', M) → Gx p l e R s m args below meth c Q D cT A mid res cF sF (pc, ls, .ref a :: r', M) :=
      fun v hK hv hk => Gx.getf hF h13 hkn hK.1 hK.2 hl hrf hd hv hk
    split at hok
    · next h0 => simp only [h0] at hk; exact fin _ (kc_iff.mp hok) (by simp only [fval, h0]; rfl) hk
    · next h0 => simp only [h0] at hk; exact fin _ (kc_iff.mp hok) (by simp only [fval, h0]; rfl) hk
    · next h0 => simp only [h0] at hk; exact fin _ (kc_iff.mp hok) (by simp only [fval, h0]; rfl) hk
    · next h0 =>
      simp only [h0] at hk
      simp only [Bool.and_eq_true, decide_eq_true_eq] at hok
      refine fin _ (kc_iff.mp hok.1) ?_ hk
      simp only [fval, h0]
      rw [if_neg (fun q => hok.2 (by rw [q]; decide))]
      rfl
    · next h0 =>
      simp only [h0] at hk
      cases h8 : Nat.beq ci 8
      · rw [h8] at hok hk
        exact fin _ (kc_iff.mp hok) (by simp only [fval, h0]) hk
      · rw [h8] at hok hk
        have h8 : ci = 8 := Nat.eq_of_beq_eq_true h8
        subst h8
        dsimp only [cond_true] at hok hk
        simp only [Bool.and_eq_true, decide_eq_true_eq] at hok
        exact fin _ (kc_iff.mp hok.1) (by simp only [fval, h0, hok.2]; rfl) hk
    · cases hok
theorem sI_f {a k j ci : Nat} {v : Int32} : fval A (sI M a k v) ci a j = if j = k then (match fk ci k with
    | 0 => Value.int v
    | 4 => Value.int v
    | 3 => if v = -1 then .null else .ref (A.1 + v.toNatClampNeg)
    | _ => fval A M ci a j) else fval A M ci a j := by
  by_cases h : j = k
  · subst h
    rw [if_pos rfl]
    unfold fval
    split <;> simp_all [sI, upI_e]
  · rw [if_neg h]
    unfold fval
    split <;> simp_all [sI, upI_e]
theorem sL_f {a k j ci : Nat} {v : Int64} : fval A (sL M a k v) ci a j = if j = k then (match fk ci k with
    | 1 => Value.long v
    | _ => fval A M ci a j) else fval A M ci a j := by
  by_cases h : j = k
  · subst h
    rw [if_pos rfl]
    unfold fval
    split <;> simp_all [sL, upL_e] <;> rfl
  · rw [if_neg h]
    unfold fval
    split <;> simp_all [sL, upL_e] <;> rfl
theorem sR_f {a k j ci b : Nat} : fval A (sR M a k (some b)) ci a j = if j = k then (match fk ci k with
    | 2 => Value.ref (A.1 + b)
    | _ => fval A M ci a j) else fval A M ci a j := by
  by_cases h : j = k
  · subst h
    rw [if_pos rfl]
    unfold fval
    split <;> simp_all [sR, upR_e, rv, cv] <;> rfl
  · rw [if_neg h]
    unfold fval
    split <;> simp_all [sR, upR_e] <;> rfl
theorem ofNat_pos {b : Nat} (h : b < 1000) : ¬ Int32.ofNat b = -1 ∧ (Int32.ofNat b).toNatClampNeg = b := by
  have h2 : (Int32.ofNat b).toInt = (b : Int) := nI_toInt (by omega)
  refine ⟨fun q => ?_, ?_⟩
  · rw [q] at h2
    have : (-1 : Int32).toInt = -1 := by decide
    omega
  · show (Int32.ofNat b).toInt.toNat = b
    rw [h2]; rfl
theorem stp_putf (hF : Fx p l e R s m args below meth c Q D cT A d mid res cF sF) {i : Nat} (hd : decode (cB mid) pc = .ok (.putfield i, 3)) (hp : (!((TC (lkf (lnO (clM mid)) i).2.1 (lkf (lnO (clM mid)) i).2.2.1).2.2.2) || (Nat.beq (kdM mid) 2 && Nat.beq (clM mid) (lkf (lnO (clM mid)) i).2.1 && Nat.beq (lkf (lnO (clM mid)) i).1 0)) = true) (hok : (xPut (lkf (lnO (clM mid)) i) (pc + 3) ls st M).1 = true)
    (hk : Gx p l e R s m args below meth c Q D cT A mid res cF sF (xPut (lkf (lnO (clM mid)) i) (pc + 3) ls st M).2) : Gx p l e R s m args below meth c Q D cT A mid res cF sF (pc, ls, st, M) := by
  have hO : OKM mid := hF.2.2.2.2.2.2.2.2.2.2.2.1
  have hC : Cx D cT s := hF.2.2.2.2.2.1
  have hL := @okL_of mid hO i
  generalize lkf (lnO (clM mid)) i = L at hok hk hL hp
  obtain ⟨tag, ci, k, pos, vi, vl⟩ := L
  unfold xPut at hok hk
  split at hok
  case h_2 => cases hok
  case h_1 v a r' =>
  dsimp only at hok hk hp
  cases ht : Nat.blt tag 2
  · rw [ht] at hok; cases hok
  · rw [ht] at hok hk
    dsimp only [cond_true] at hok hk
    have ht2 : tag < 2 := blt_iff.mp ht
    have hL := hL (by show ¬ tag = 99; omega)
    have hfin : (TC ci k).2.2.2 = true → kdM mid = 2 ∧ clM mid = ci ∧ tag = 0 := fun q => by
      rw [q] at hp
      simp only [Bool.not_true, Bool.false_or, Bool.and_eq_true] at hp
      exact ⟨Nat.eq_of_beq_eq_true hp.1.1, Nat.eq_of_beq_eq_true hp.1.2, Nat.eq_of_beq_eq_true hp.2⟩
    have key : (ci < 13 ∧ k < nf ci ∧ (TC ci k).1 = RC ci) ∧ ((∀ x : Array Value, (Cond.fieldLink (RC (clM mid)) i (RC ci) (TC ci k).2.1 (TC ci k).2.2.1).before x s = true) ∨ ((TC ci k).2.2.2 = false ∧ ∀ x : Array Value, (Cond.fieldLinkNest (RC (clM mid)) i (RC ci) (TC ci k).2.1 (TC ci k).2.2.1 "FrameRents").before x s = true)) := by
      rcases (show tag = 0 ∨ tag = 1 by omega) with rfl | rfl
      · simp only [okL, Bool.and_eq_true, blt_iff, decide_eq_true_eq] at hL
        exact ⟨⟨hL.1.2, hL.2, hL.1.1.2⟩, Or.inl fun x => wAt_of hC hL.1.1.1 rfl x⟩
      · simp only [okL, Bool.and_eq_true, blt_iff, decide_eq_true_eq] at hL
        refine ⟨⟨hL.1.2, hL.2, hL.1.1.2⟩, Or.inr ⟨?_, fun x => wAt_of hC hL.1.1.1 rfl x⟩⟩
        cases hf : (TC ci k).2.2.2
        · rfl
        · have := (hfin hf).2.2
          omega
    obtain ⟨⟨h13, hkn, hrf⟩, hl⟩ := key
    obtain ⟨hfd, -, -⟩ := okC_at h13 hkn
    have ne8 : K0 a = ci → 9998 ≠ a := fun q z => by rw [← z, K0_9998] at q; omega
    have ne9 : K0 a = ci → 9999 ≠ a := fun q z => by rw [← z, K0_9999] at q; omega
    have fin : ∀ (M1 : GM), Gx p l e R s m args below meth c Q D cT A mid res cF sF (pc + 3, ls, r', M1) → K0 a = ci ∧ a < M.1 → M1.1 = M.1 → narrow (tyC ci k) (cv A v) = cv A v → fits (tyC ci k) (cv A v) = true → (∀ j, j < nf ci → fval A M1 ci a j = if j = k then cv A v else fval A M ci a j) → (∀ j, j ≠ a → cE A cT M1 j = cE A cT M j) → M1.2.2.1 9998 = M.2.2.1 9998 → M1.2.2.1 9999 = M.2.2.1 9999 → Gx p l e R s m args below meth c Q D cT A mid res cF sF (pc, ls, v :: .ref a :: r', M) :=
      fun M1 hk hK hM hn hf hfv ho h8 h9 => Gx.putf hF h13 hkn hK.1 hK.2 hl hrf (fun q => ⟨(hfin q).1, (hfin q).2.1⟩) hd hn hf hM hfv ho h8 h9 hk
    split at hok
    · next h0 =>
      simp only [h0] at hk hfd
      have hK := kc_iff.mp hok
      have hty : tyC ci k = .int := by revert hfd; unfold fdk; split <;> simp_all
      refine fin _ hk hK rfl (by rw [hty]; rfl) (by rw [hty]; rfl) (fun j _ => by rw [sI_f, h0]; rfl) (fun j hj => cE_congr rfl (upI_ne hj) rfl) (upI_ne (ne8 hK.1)) (upI_ne (ne9 hK.1))
    · next h0 =>
      simp only [h0] at hk hfd
      simp only [Bool.and_eq_true, Bool.or_eq_true, decide_eq_true_eq] at hok
      have hK := kc_iff.mp hok.1
      have hty : tyC ci k = .boolean := by revert hfd; unfold fdk; split <;> simp_all
      refine fin _ hk hK rfl (by rw [hty]; rcases hok.2 with q | q <;> rw [q, cv_int] <;> decide) (by rw [hty]; rcases hok.2 with q | q <;> rw [q, cv_int] <;> decide) (fun j _ => by rw [sI_f, h0]; rfl) (fun j hj => cE_congr rfl (upI_ne hj) rfl) (upI_ne (ne8 hK.1)) (upI_ne (ne9 hK.1))
    · next h0 =>
      simp only [h0] at hk hfd
      have hK := kc_iff.mp hok
      have hty : tyC ci k = .long := by revert hfd; unfold fdk; split <;> simp_all
      exact fin _ hk hK rfl (by rw [hty]; rfl) (by rw [hty]; rfl) (fun j _ => by rw [sL_f, h0]; rfl) (fun j hj => cE_congr rfl rfl (upL_ne hj)) rfl rfl
    · next b h0 =>
      simp only [h0] at hk hfd
      simp only [Bool.and_eq_true, blt_iff] at hok
      have hK := kc_iff.mp hok.1
      have hb := ofNat_pos hok.2
      have hty : ∃ C, tyC ci k = .object C := by revert hfd; unfold fdk; split <;> simp_all
      obtain ⟨C, hty⟩ := hty
      refine fin _ hk hK rfl (by rw [hty]; rfl) (by rw [hty]; rfl) (fun j _ => by rw [sI_f, h0]; simp only [if_neg hb.1, hb.2]; rfl) (fun j hj => cE_congr rfl (upI_ne hj) rfl) (upI_ne (ne8 hK.1)) (upI_ne (ne9 hK.1))
    · next b h0 =>
      simp only [h0] at hk hfd
      have hK := kc_iff.mp hok
      have hty : (∃ C, tyC ci k = .object C) ∨ ∃ C, tyC ci k = .array C := by revert hfd; unfold fdk; split <;> simp_all
      rcases hty with ⟨C, hty⟩ | ⟨C, hty⟩
      · exact fin _ hk hK rfl (by rw [hty]; rfl) (by rw [hty]; rfl) (fun j _ => by rw [sR_f, h0]; rfl) (fun j hj => cE_congr (upR_ne hj) rfl rfl) rfl rfl
      · exact fin _ hk hK rfl (by rw [hty]; rfl) (by rw [hty]; rfl) (fun j _ => by rw [sR_f, h0]; rfl) (fun j hj => cE_congr (upR_ne hj) rfl rfl) rfl rfl
    · cases hok
end
