/-! what the pure pictures rest on; 64-bit comparisons; the facts of a frame's week -/
theorem Eq1.of1 {s : Nat → Nat → Prop} {M M' : SM} (h : M'.1 = M.1) : Eq1 s M M' := fun c i _ => by rw [h]
theorem Eq1.tr {s : Nat → Nat → Prop} {M M' M'' : SM} (h : Eq1 s M M') (h2 : Eq1 s M' M'') : Eq1 s M M'' := fun c i q => (h2 c i q).trans (h c i q)
theorem Eq1.rf {s : Nat → Nat → Prop} {M : SM} : Eq1 s M M := fun _ _ _ => rfl
theorem frM_E {M M' : SM} (e : Eq1 sTn M M') : frM M' = frM M := by unfold frM; rw [e 179 3 (by unfold sTn; omega)]
theorem nwM_E {M M' : SM} (e : Eq1 sTn M M') : nwM M' = nwM M := by unfold nwM; rw [e 179 0 (by unfold sTn; omega)]
theorem msM_E {M M' : SM} (e : Eq1 sTn M M') : msM M' = msM M := by unfold msM; rw [e 179 1 (by unfold sTn; omega)]
theorem knM_E {M M' : SM} (e : Eq1 sTn M M') : knM M' = knM M := by unfold knM; rw [e 179 2 (by unfold sTn; omega)]
theorem hold_E {M M' : SM} (e : Eq1 sTn M M') {f : Nat} (hf : f < 16) (w : Nat) : M'.1 (187 + f) w = M.1 (187 + f) w := e _ _ (by unfold sTn; omega)
theorem enM_E {M M' : SM} (e : Eq1 sEn M M') : enM M' = enM M := by unfold enM; rw [e 210 0 (by unfold sEn; omega)]
theorem knN_E {M M' : SM} (e : Eq1 sEn M M') (f w : Nat) (t : Int32) (n : Nat) : knN M' f w t n = knN M f w t n :=
  knN_same (fun i => e _ i (by unfold sEn; omega)) (fun i => e _ i (by unfold sEn; omega)) (fun i => e _ i (by unfold sEn; omega)) f w t n
theorem wkB_E {M M' : SM} (e : Eq1 sEn M M') (f : Nat) (t : Int32) (w : Nat) : wkB M' f t w = wkB M f t w := by
  unfold wkB
  rw [enM_E e, knN_E e, e 215 _ (by unfold sEn; omega)]
theorem idN_E {M M' : SM} (et : Eq1 sTn M M') (e : Eq1 sEn M M') {f : Nat} (hf : f < 16) (t : Int32) : ∀ w, idN M' f t w = idN M f t w
  | 0 => by unfold idN wkB; rw [enM_E e, knN_E e, e 215 _ (by unfold sEn; omega), hold_E et hf]
  | w + 1 => by rw [idN_s, idN_s]; unfold wkB; rw [enM_E e, knN_E e, e 215 _ (by unfold sEn; omega), hold_E et hf, hold_E et hf, idN_E et e hf t w]
theorem fhN_E {M M' : SM} (e : Eq1 sTn M M') (x : Int32) (w : Nat) : ∀ n, n ≤ 16 → fhN M' x w n = fhN M x w n
  | 0, _ => rfl
  | n + 1, h => by unfold fhN; rw [fhN_E e x w n (by omega), hold_E e (by omega)]
theorem kO_E {M M' : SM} (e : Eq1 sTn M M') (f : Nat) : kO M' f = kO M f := by
  unfold kO
  rw [e 185 f (by unfold sTn; omega), e 184 f (by unfold sTn; omega), e 180 _ (by unfold sTn; omega)]
/-- a fact, by its number -/
def fcI (M : SM) (f w : Nat) (t : Int32) (i : Nat) : Int32 :=
  if i = 0 then M.1 183 f
  else if i = 1 then (if knN M f w t (enM M) = -1 then 0 else M.1 215 (Int32.toNatClampNeg (knN M f w t (enM M))))
  else if i = 2 then (if knN M f w t (enM M) = -1 then 0 else M.1 214 (Int32.toNatClampNeg (knN M f w t (enM M))))
  else if i = 3 then (if knN M f w t (enM M) = -1 then 0 else M.1 216 (Int32.toNatClampNeg (knN M f w t (enM M))))
  else if i = 4 then (if knN M f w t (enM M) = -1 then 0 else M.1 217 (Int32.toNatClampNeg (knN M f w t (enM M))))
  else if i = 5 then nI (fhN M (M.1 (187 + f) w) w (frM M))
  else if i = 6 then M.1 182 (Int32.toNatClampNeg (M.1 (187 + f) w))
  else if i = 7 then nI (idN M f t w)
  else if i = 8 then kO M f
  else nI w
def fcN (M : SM) (f w : Nat) (t : Int32) (i : Nat) : Int64 := Int32.toInt64 (fcI M f w t i)
theorem fcI_E {M M' : SM} (et : Eq1 sTn M M') (e : Eq1 sEn M M') {f : Nat} (hf : f < 16) (h16 : frM M ≤ 16) (w : Nat) (t : Int32) (i : Nat) : fcI M' f w t i = fcI M f w t i := by
  unfold fcI
  rw [knN_E e, enM_E e, et 183 f (by unfold sTn; omega), e 215 _ (by unfold sEn; omega), e 214 _ (by unfold sEn; omega), e 216 _ (by unfold sEn; omega), e 217 _ (by unfold sEn; omega), hold_E et hf, frM_E et, fhN_E et _ _ _ h16, et 182 _ (by unfold sTn; omega), idN_E et e hf, kO_E et]
theorem fcN_E {M M' : SM} (et : Eq1 sTn M M') (e : Eq1 sEn M M') {f : Nat} (hf : f < 16) (h16 : frM M ≤ 16) (w : Nat) (t : Int32) (i : Nat) : fcN M' f w t i = fcN M f w t i := by
  unfold fcN; rw [fcI_E et e hf h16]
/-- the ints stay; of the longs only one row changes -/
def oL (k : Nat) (M M' : SM) : Prop := M'.1 = M.1 ∧ ∀ c, c ≠ k → M'.2 c = M.2 c
theorem oL.rf (k : Nat) (M : SM) : oL k M M := ⟨rfl, fun _ _ => rfl⟩
theorem oL.w {k : Nat} {M M' : SM} (h : oL k M M') (i : Nat) (v : Int64) : oL k M (wL M' k i v) := ⟨h.1, fun c hc => by
  rw [← h.2 c hc]
  funext j
  rw [wL_2, if_neg (fun q => hc q.1)]⟩
theorem oL.tr {k : Nat} {M M' M'' : SM} (h : oL k M M') (h2 : oL k M' M'') : oL k M M'' := ⟨h2.1.trans h.1, fun c hc => (h2.2 c hc).trans (h.2 c hc)⟩
theorem setFact_g {M : SM} {x : Int32} {k : Nat} (hx : x = nI k) (hk : k < 10) (n : Int32) : qpr_setFact x n M = some ((), wL M 175 k (Int32.toInt64 n)) := by
  subst hx
  unfold qpr_setFact
  rw [if_neg (nI_lt0 (by omega)), if_pos (nl_10 hk), ck_ib (by omega) (by omega), ck_t, nI_cl (by omega)]
theorem hold_k {M : SM} (ht : I_tn M) {f w : Nat} (hf : f < frM M) (hw : w < 520) (hh : ¬ M.1 (187 + f) w = -1) : ∃ k, k < knM M ∧ M.1 (187 + f) w = nI k := (ht.hd f hf w hw).2.resolve_left hh
theorem setFacts_g {M : SM} (ht : I_tn M) {f w : Nat} (hf : f < frM M) (hw : w < 520) (hh : ¬ M.1 (187 + f) w = -1) (t : Int32) : ∃ M1 : SM, qfr_setFactsOfFrame (nI f) (nI w) M = some ((), M1) ∧ oL 175 M M1 ∧ ∀ i, M1.2 175 i = if i = 0 ∨ i = 5 ∨ i = 6 ∨ i = 8 ∨ i = 9 then fcN M f w t i else M.2 175 i := by
  obtain ⟨k, hk, ek⟩ := hold_k ht hf hw hh
  have hkn := ht.kn
  refine ⟨wL (wL (wL (wL (wL M 175 0 (fcN M f w t 0)) 175 5 (fcN M f w t 5)) 175 6 (fcN M f w t 6)) 175 8 (fcN M f w t 8)) 175 9 (fcN M f w t 9), ?_, (((((oL.rf _ _).w _ _).w _ _).w _ _).w _ _).w _ _, fun i => ?_⟩
  · unfold qfr_setFactsOfFrame
    rw [holderAt_g ht hf hw, ob_s, gaugeOf_g ht hf, ob_s, setFact_g (x := 0) (k := 0) rfl (by omega), ob_s]
    rw [framesHeld_g (M := wL M 175 0 (Int32.toInt64 (M.1 183 f))) ht hw, ob_s, setFact_g (x := 5) (k := 5) rfl (by omega), ob_s, ek]
    rw [headsOf_g (M := wL (wL M 175 0 (Int32.toInt64 (M.1 183 f))) 175 5 _) ht hk, ob_s, setFact_g (x := 6) (k := 6) rfl (by omega), ob_s]
    rw [kindOfOwner_g (M := wL (wL (wL M 175 0 (Int32.toInt64 (M.1 183 f))) 175 5 _) 175 6 _) ht hf, ob_s, setFact_g (x := 8) (k := 8) rfl (by omega), ob_s, setFact_g (x := 9) (k := 9) rfl (by omega), ob_s]
    have e5 : fcN M f w t 5 = Int32.toInt64 (nI (fhN (wL M 175 0 (Int32.toInt64 (M.1 183 f))) (nI k) w (frM (wL M 175 0 (Int32.toInt64 (M.1 183 f)))))) := by
      show Int32.toInt64 (nI (fhN M (M.1 (187 + f) w) w (frM M))) = _
      rw [ek, frM_E (M := M) (M' := wL M 175 0 (Int32.toInt64 (M.1 183 f))) (Eq1.of1 rfl), fhN_E (M := M) (M' := wL M 175 0 (Int32.toInt64 (M.1 183 f))) (Eq1.of1 rfl) _ _ _ ht.fs.2.1]
    have e6 : fcN M f w t 6 = Int32.toInt64 (M.1 182 k) := by
      show Int32.toInt64 (M.1 182 (Int32.toNatClampNeg (M.1 (187 + f) w))) = _
      rw [ek, nI_cl (by omega)]
    have e8 : ∀ M' : SM, M'.1 = M.1 → fcN M f w t 8 = Int32.toInt64 (kO M' f) := fun M' h => by
      show Int32.toInt64 (kO M f) = _
      rw [kO_E (M := M) (M' := M') (Eq1.of1 h)]
    rw [e5, e6, e8 _ rfl]
    rfl
  · simp only [wL_2]
    by_cases h9 : i = 9
    · subst h9; simp
    · by_cases h8 : i = 8
      · subst h8; simp
      · by_cases h6 : i = 6
        · subst h6; simp
        · by_cases h5 : i = 5
          · subst h5; simp
          · by_cases h0 : i = 0
            · subst h0; simp
            · simp [h9, h8, h6, h5, h0]
theorem setsFacts_g {M : SM} (ht : I_tn M) {f w : Nat} (hf : f < frM M) (hw : w < 520) (hh : ¬ M.1 (187 + f) w = -1) (t : Int32) : ∃ M1 : SM, qmd_setsFacts (nI f) (nI w) M = some ((), M1) ∧ oL 307 M M1 ∧ ∀ i, M1.2 307 i = if i = 0 ∨ i = 5 ∨ i = 6 ∨ i = 8 ∨ i = 9 then fcN M f w t i else M.2 307 i := by
  obtain ⟨k, hk, ek⟩ := hold_k ht hf hw hh
  have hkn := ht.kn
  have hms := ht.ms
  have hfs := ht.fs
  obtain ⟨b1, b2, b3, ⟨m, hm, b4⟩, b6⟩ := ht.fa f hf
  refine ⟨wL (wL (wL (wL (wL M 307 0 (fcN M f w t 0)) 307 5 (fcN M f w t 5)) 307 6 (fcN M f w t 6)) 307 8 (fcN M f w t 8)) 307 9 (fcN M f w t 9), ?_, (((((oL.rf _ _).w _ _).w _ _).w _ _).w _ _).w _ _, fun i => ?_⟩
  · have e5 : fcN M f w t 5 = Int32.toInt64 (nI (fhN (wL M 307 0 (Int32.toInt64 (M.1 183 f))) (nI k) w (frM (wL M 307 0 (Int32.toInt64 (M.1 183 f)))))) := by
      show Int32.toInt64 (nI (fhN M (M.1 (187 + f) w) w (frM M))) = _
      rw [ek, frM_E (M := M) (M' := wL M 307 0 (Int32.toInt64 (M.1 183 f))) (Eq1.of1 rfl), fhN_E (M := M) (M' := wL M 307 0 (Int32.toInt64 (M.1 183 f))) (Eq1.of1 rfl) _ _ _ ht.fs.2.1]
    have e6 : fcN M f w t 6 = Int32.toInt64 (M.1 282 k) := by
      show Int32.toInt64 (M.1 182 (Int32.toNatClampNeg (M.1 (187 + f) w))) = _
      rw [ek, nI_cl (by omega), (ht.he k hk).1]
    have e0 : fcN M f w t 0 = Int32.toInt64 (M.1 183 f) := rfl
    have e9 : fcN M f w t 9 = Int32.toInt64 (nI w) := rfl
    have e8 : fcN M f w t 8 = if M.1 185 f = -1 then (if M.1 180 m = -1 then 0 else 1) else 2 := by
      show Int32.toInt64 (kO M f) = _
      unfold kO
      rw [b4, nI_cl (by omega)]
      by_cases q1 : M.1 185 f = -1
      · rw [if_pos q1, if_pos q1]
        by_cases q2 : M.1 180 m = -1
        · rw [if_pos q2, if_pos q2]; rfl
        · rw [if_neg q2, if_neg q2]; rfl
      · rw [if_neg q1, if_neg q1]; rfl
    unfold qmd_setsFacts
    rw [hirerOf_g ht hf hw, ob_s, ck_ib (by omega) (by omega), show (0 : Int32) = nI 0 from rfl, ck_ib (by omega) (by omega), ck_t, nI_cl (by omega), nI_cl (by omega), b1, ek]
    rw [framesOf_g (M := wL M 307 0 (Int32.toInt64 (M.1 183 f))) ht hw, ob_s, show (5 : Int32) = nI 5 from rfl, show (6 : Int32) = nI 6 from rfl, show (8 : Int32) = nI 8 from rfl, show (9 : Int32) = nI 9 from rfl, ck_ib (by omega) (by omega), ck_ib (by omega) (by omega), ck_ib (by omega) (by omega), ck_ib (by omega) (by omega), ck_t]
    simp only [ck_ib (show 8 < 10 by omega) (show 10 ≤ 2147483648 by omega), ck_ib (show 9 < 10 by omega) (show 10 ≤ 2147483648 by omega), ck_ib (show f < 16 by omega) (show 16 ≤ 2147483648 by omega), ck_t, nI_cl (show 5 < 2147483648 by omega), nI_cl (show 6 < 2147483648 by omega), nI_cl (show 8 < 2147483648 by omega), nI_cl (show 9 < 2147483648 by omega), nI_cl (show f < 2147483648 by omega), nI_cl (show k < 2147483648 by omega), wL_1, b2, b3, b4]
    rw [ck_ib (by omega) (by omega), ck_t, nI_cl (by omega), ht.ho m hm, e5, e6, e8, e0, e9]
    by_cases q1 : M.1 185 f = -1
    · rw [if_pos q1, if_pos q1]
      by_cases q2 : M.1 180 m = -1
      · rw [if_pos q2, if_pos q2]
      · rw [if_neg q2, if_neg q2]
    · rw [if_neg q1, if_neg q1]
  · simp only [wL_2]
    by_cases h9 : i = 9
    · subst h9; simp
    · by_cases h8 : i = 8
      · subst h8; simp
      · by_cases h6 : i = 6
        · subst h6; simp
        · by_cases h5 : i = 5
          · subst h5; simp
          · by_cases h0 : i = 0
            · subst h0; simp
            · simp [h9, h8, h6, h5, h0]
