/-! a week's work in the reference; week, earned, beside -/
theorem iN_0 {α : Type} {a : Nat} (h : a < 2147483648) {d : Decidable (nI a = (0 : Int32))} {x y : α} : @ite α (nI a = (0 : Int32)) d x y = if a = 0 then x else y := by
  by_cases q : a = 0
  · subst q; rw [if_pos (show nI 0 = (0 : Int32) from rfl), if_pos rfl]
  · rw [if_neg (show ¬ nI a = (0 : Int32) from fun z => q (nI_inj (b := 0) h (by decide) z)), if_neg q]
theorem iN_1 {α : Type} {a : Nat} (h : a < 2147483648) {d : Decidable (nI a = (1 : Int32))} {x y : α} : @ite α (nI a = (1 : Int32)) d x y = if a = 1 then x else y := by
  by_cases q : a = 1
  · subst q; rw [if_pos (show nI 1 = (1 : Int32) from rfl), if_pos rfl]
  · rw [if_neg (show ¬ nI a = (1 : Int32) from fun z => q (nI_inj (b := 1) h (by decide) z)), if_neg q]
theorem iN_2 {α : Type} {a : Nat} (h : a < 2147483648) {d : Decidable (nI a = (2 : Int32))} {x y : α} : @ite α (nI a = (2 : Int32)) d x y = if a = 2 then x else y := by
  by_cases q : a = 2
  · subst q; rw [if_pos (show nI 2 = (2 : Int32) from rfl), if_pos rfl]
  · rw [if_neg (show ¬ nI a = (2 : Int32) from fun z => q (nI_inj (b := 2) h (by decide) z)), if_neg q]
theorem iN_3 {α : Type} {a : Nat} (h : a < 2147483648) {d : Decidable (nI a = (3 : Int32))} {x y : α} : @ite α (nI a = (3 : Int32)) d x y = if a = 3 then x else y := by
  by_cases q : a = 3
  · subst q; rw [if_pos (show nI 3 = (3 : Int32) from rfl), if_pos rfl]
  · rw [if_neg (show ¬ nI a = (3 : Int32) from fun z => q (nI_inj (b := 3) h (by decide) z)), if_neg q]
theorem iN_4 {α : Type} {a : Nat} (h : a < 2147483648) {d : Decidable (nI a = (4 : Int32))} {x y : α} : @ite α (nI a = (4 : Int32)) d x y = if a = 4 then x else y := by
  by_cases q : a = 4
  · subst q; rw [if_pos (show nI 4 = (4 : Int32) from rfl), if_pos rfl]
  · rw [if_neg (show ¬ nI a = (4 : Int32) from fun z => q (nI_inj (b := 4) h (by decide) z)), if_neg q]
theorem iN_5 {α : Type} {a : Nat} (h : a < 2147483648) {d : Decidable (nI a = (5 : Int32))} {x y : α} : @ite α (nI a = (5 : Int32)) d x y = if a = 5 then x else y := by
  by_cases q : a = 5
  · subst q; rw [if_pos (show nI 5 = (5 : Int32) from rfl), if_pos rfl]
  · rw [if_neg (show ¬ nI a = (5 : Int32) from fun z => q (nI_inj (b := 5) h (by decide) z)), if_neg q]
theorem iN_6 {α : Type} {a : Nat} (h : a < 2147483648) {d : Decidable (nI a = (6 : Int32))} {x y : α} : @ite α (nI a = (6 : Int32)) d x y = if a = 6 then x else y := by
  by_cases q : a = 6
  · subst q; rw [if_pos (show nI 6 = (6 : Int32) from rfl), if_pos rfl]
  · rw [if_neg (show ¬ nI a = (6 : Int32) from fun z => q (nI_inj (b := 6) h (by decide) z)), if_neg q]
theorem iN_7 {α : Type} {a : Nat} (h : a < 2147483648) {d : Decidable (nI a = (7 : Int32))} {x y : α} : @ite α (nI a = (7 : Int32)) d x y = if a = 7 then x else y := by
  by_cases q : a = 7
  · subst q; rw [if_pos (show nI 7 = (7 : Int32) from rfl), if_pos rfl]
  · rw [if_neg (show ¬ nI a = (7 : Int32) from fun z => q (nI_inj (b := 7) h (by decide) z)), if_neg q]
section
variable {M : SM} {V : Nat → FA → LE} {B : Nat → FA → LE → Int64}
/-- the reference's own longs in use -/
def oM (M M' : SM) : Prop := M'.1 = M.1 ∧ ∀ c, ¬ (c = 280 ∨ 307 ≤ c ∧ c ≤ 309) → M'.2 c = M.2 c
theorem oM.rf (M : SM) : oM M M := ⟨rfl, fun _ _ => rfl⟩
theorem oM.tr {M M' M'' : SM} (h : oM M M') (h2 : oM M' M'') : oM M M'' := ⟨h2.1.trans h.1, fun c q1 => (h2.2 c q1).trans (h.2 c q1)⟩
theorem oL.m {k : Nat} {M M' : SM} (h : oL k M M') (hk : k = 280 ∨ 307 ≤ k ∧ k ≤ 309) : oM M M' := ⟨h.1, fun c q => h.2 c (by omega)⟩
theorem oM.e {s : Nat → Nat → Prop} {M M' : SM} (h : oM M M') : Eq1 s M M' := Eq1.of1 h.1
theorem comesTo_g (ht : I_tn M) (hu : I_us M) (hp : PR M V B) {f w : Nat} (hf : f < frM M) {l : Int32} (hl : okli M l) (F : FA) (eF : ∀ i, i < 10 → M.2 307 i = F i) :
    ∃ M' : SM, qmd_comesTo (nI f) (nI w) l M = some ((), M') ∧ oM M M' ∧ M'.2 307 = M.2 307 ∧ M'.2 280 54 = wkN M V B F f w l 22 ∧ M'.2 280 55 = wkN M V B F f w l 17 ∧ M'.2 280 56 = wkN M V B F f w l 2 ∧ M'.2 280 57 = wkN M V B F f w l 19 := by
  have fs := ht.fs
  obtain ⟨-, -, b3, -, -⟩ := ht.fa f hf
  obtain ⟨M1, a1, a2, a3, a4⟩ := worths_g hu hp hl M Eq1.rf
  have eL : ∀ x, x < 26 → LV V l (M.2 307) x = LV V l F x := fun x _ => by
    unfold LV
    rcases hl with rfl | ⟨k, hk, rfl⟩
    · rw [if_pos rfl, if_pos rfl]
    · have := hu.1
      rw [if_neg (nI_ne_m1 (by omega)), if_neg (nI_ne_m1 (by omega)), nI_cl (by omega)]
      exact (hp.2.1 k hk).2.2.1 _ _ eF x
  have hx : ∀ x, ¬ x = 17 → wkN M V B F f w l x = clN (bdN M B F (LV V l F) w x (acM M)) := fun x h => by
    unfold wkN; rw [if_neg (fun z => h z.1)]
  have e7 : M1.2 307 = M.2 307 := a4 _ (by omega) (by omega)
  obtain ⟨M2, c1, c2⟩ := bounded_g hp w 22 (by omega) F (LV V l F) M1 (Eq1.of1 a3) (fun i hi => by rw [e7]; exact eF i hi) (fun x hx => by rw [a2 x hx]; exact eL x hx) (ch := 87) rfl
  rw [← hx 22 (by omega)] at c1
  have p2 : (wL M2 280 54 (wkN M V B F f w l 22)).1 = M.1 := c2.1.trans a3
  have q2 : ∀ c, c ≠ 280 → c ≠ 309 → (wL M2 280 54 (wkN M V B F f w l 22)).2 c = M1.2 c := fun c h1 h2 => by
    funext j; rw [wL_2, if_neg (by omega), c2.2 c h2]
  obtain ⟨M3, d1, d2⟩ := bounded_g hp w 17 (by omega) F (LV V l F) _ (Eq1.of1 p2) (fun i hi => by rw [q2 _ (by omega) (by omega), e7]; exact eF i hi) (fun x hx => by rw [q2 _ (by omega) (by omega), a2 x hx]; exact eL x hx) (ch := 82) rfl
  have p3 : M3.1 = M.1 := d2.1.trans p2
  generalize hr : (if M.1 185 f = -1 then clN (bdN M B F (LV V l F) w 17 (acM M)) else 0) = r17
  have e17 : wkN M V B F f w l 17 = r17 := by
    unfold wkN
    rw [← hr]
    by_cases q : M.1 185 f = -1
    · rw [if_neg (fun z => z.2 q), if_pos q]
    · rw [if_pos ⟨rfl, q⟩, if_neg q]; rfl
  generalize hN4 : wL (wL M3 280 55 (clN (bdN M B F (LV V l F) w 17 (acM M)))) 280 55 r17 = N4
  have p4 : N4.1 = M.1 := by rw [← hN4]; exact p3
  have q4 : ∀ c, c ≠ 280 → c ≠ 309 → N4.2 c = M1.2 c := fun c h1 h2 => by
    rw [← hN4]; funext j; rw [wL_2, if_neg (by omega), wL_2, if_neg (by omega), d2.2 c h2, q2 c h1 h2]
  have v4 : N4.2 280 54 = wkN M V B F f w l 22 ∧ N4.2 280 55 = r17 := by
    rw [← hN4]
    refine ⟨?_, ?_⟩
    · rw [wL_2, if_neg (by omega), wL_2, if_neg (by omega), d2.2 280 (by omega), wL_2, if_pos ⟨rfl, rfl⟩]
    · rw [wL_2, if_pos ⟨rfl, rfl⟩]
  obtain ⟨M5, g1, g2⟩ := bounded_g hp w 2 (by omega) F (LV V l F) N4 (Eq1.of1 p4) (fun i hi => by rw [q4 _ (by omega) (by omega), e7]; exact eF i hi) (fun x hx => by rw [q4 _ (by omega) (by omega), a2 x hx]; exact eL x hx) (ch := 67) rfl
  rw [← hx 2 (by omega)] at g1
  have p5 : (wL M5 280 56 (wkN M V B F f w l 2)).1 = M.1 := g2.1.trans p4
  have q5 : ∀ c, c ≠ 280 → c ≠ 309 → (wL M5 280 56 (wkN M V B F f w l 2)).2 c = M1.2 c := fun c h1 h2 => by
    funext j; rw [wL_2, if_neg (by omega), g2.2 c h2, q4 c h1 h2]
  obtain ⟨M6, k1, k2⟩ := bounded_g hp w 19 (by omega) F (LV V l F) _ (Eq1.of1 p5) (fun i hi => by rw [q5 _ (by omega) (by omega), e7]; exact eF i hi) (fun x hx => by rw [q5 _ (by omega) (by omega), a2 x hx]; exact eL x hx) (ch := 84) rfl
  rw [← hx 19 (by omega)] at k1
  refine ⟨wL M6 280 57 (wkN M V B F f w l 19), ?_, ⟨k2.1.trans p5, fun c hc => ?_⟩, ?_, ?_, ?_, ?_, ?_⟩
  · unfold qmd_comesTo
    simp only [jn_ap]
    rw [a1, ob_s, c1, ob_s, d1, ob_s, ck_ib (by omega) (by omega), ck_t, nI_cl (by omega), p3, b3]
    by_cases q : M.1 185 f = -1
    · rw [if_pos q] at hr
      rw [if_pos q]
      rw [show wL (wL M3 280 55 (clN (bdN M B F (LV V l F) w 17 (acM M)))) 280 55 (clN (bdN M B F (LV V l F) w 17 (acM M))) = N4 from by rw [← hN4, hr], g1, ob_s, k1, ob_s]
    · rw [if_neg q] at hr
      rw [if_neg q]
      rw [show wL (wL M3 280 55 (clN (bdN M B F (LV V l F) w 17 (acM M)))) 280 55 0 = N4 from by rw [← hN4, hr], g1, ob_s, k1, ob_s]
  · funext j; rw [wL_2, if_neg (by omega), k2.2 c (by omega), q5 c (by omega) (by omega), a4 c (by omega) (by omega)]
  · funext j; rw [wL_2, if_neg (by omega), k2.2 _ (by omega), q5 _ (by omega) (by omega), e7]
  · rw [wL_2, if_neg (by omega), k2.2 _ (by omega), wL_2, if_neg (by omega), g2.2 _ (by omega)]; exact v4.1
  · rw [wL_2, if_neg (by omega), k2.2 _ (by omega), wL_2, if_neg (by omega), g2.2 _ (by omega), e17]; exact v4.2
  · rw [wL_2, if_neg (by omega), k2.2 _ (by omega), wL_2, if_pos ⟨rfl, rfl⟩]
  · rw [wL_2, if_pos ⟨rfl, rfl⟩]
/-- what the reference keeps of a frame's weeks -/
def GT (M : SM) (f : Nat) (t : Int32) : Prop := (∀ w, w < 520 → M.1 318 w = knN M f w t (enM M)) ∧ ∀ w, w < 520 → M.1 319 w = nI (idN M f t w)
theorem weekOf_n (ht : I_tn M) {f w : Nat} (hf : f < frM M) (hw : w < 520) (hh : M.1 (187 + f) w = -1) (l : Int32) : qmd_weekOf (nI f) (nI w) l M = some (0, M) := by
  unfold qmd_weekOf
  rw [hirerOf_g ht hf hw, ob_s, if_pos hh]
theorem weekOf_g (ht : I_tn M) (he : I_en M) (hu : I_us M) (hp : PR M V B) {f w : Nat} (hf : f < frM M) (hw : w < 520) (hh : ¬ M.1 (187 + f) w = -1) (t : Int32) (hg : GT M f t) {l : Int32} (hl : okli M l) :
    ∃ M' : SM, qmd_weekOf (nI f) (nI w) l M = some (1, M') ∧ oM M M' ∧ M'.2 280 54 = wkN M V B (fcN M f w t) f w l 22 ∧ M'.2 280 55 = wkN M V B (fcN M f w t) f w l 17 ∧ M'.2 280 56 = wkN M V B (fcN M f w t) f w l 2 ∧ M'.2 280 57 = wkN M V B (fcN M f w t) f w l 19 := by
  have fs := ht.fs
  have a := he.1
  obtain ⟨M1, f1, f2, f3⟩ := setsFacts_g ht hf hw hh t
  have key : ∀ v1 v2 v3 v4 : Int64, v1 = fcN M f w t 1 → v2 = fcN M f w t 2 → v3 = fcN M f w t 3 → v4 = fcN M f w t 4 → ∃ M' : SM, qmd_comesTo (nI f) (nI w) l (wL (wL (wL (wL (wL M1 307 1 v1) 307 2 v2) 307 3 v3) 307 4 v4) 307 7 (Int32.toInt64 (nI (idN M f t w)))) = some ((), M') ∧ oM M M' ∧ M'.2 280 54 = wkN M V B (fcN M f w t) f w l 22 ∧ M'.2 280 55 = wkN M V B (fcN M f w t) f w l 17 ∧ M'.2 280 56 = wkN M V B (fcN M f w t) f w l 2 ∧ M'.2 280 57 = wkN M V B (fcN M f w t) f w l 19 := by
    intro v1 v2 v3 v4 e1 e2 e3 e4
    generalize hN : wL (wL (wL (wL (wL M1 307 1 v1) 307 2 v2) 307 3 v3) 307 4 v4) 307 7 (Int32.toInt64 (nI (idN M f t w))) = N
    have oN : oL 307 M N := by rw [← hN]; exact ((((f2.w _ _).w _ _).w _ _).w _ _).w _ _
    have eT : Eq1 sTn M N := Eq1.of1 oN.1
    have eU : Eq1 sUs M N := Eq1.of1 oN.1
    have eP : Eq1 sPr M N := Eq1.of1 oN.1
    have hl' : okli N l := by unfold okli; rw [lsM_E eP]; exact hl
    obtain ⟨M2, g1, g2, g2', g3, g4, g5, g6⟩ := comesTo_g (ht.fr eT) (hu.fr eU) (hp.fr hu.1.2.1 eP) (f := f) (w := w) (by rw [frM_E eT]; exact hf) hl' (fcN M f w t) (fun i hi => by
      rw [← hN]
      simp only [wL_2, f3]
      rcases (show i = 0 ∨ i = 1 ∨ i = 2 ∨ i = 3 ∨ i = 4 ∨ i = 5 ∨ i = 6 ∨ i = 7 ∨ i = 8 ∨ i = 9 by omega) with rfl | rfl | rfl | rfl | rfl | rfl | rfl | rfl | rfl | rfl <;> simp
      · exact e1
      · exact e2
      · exact e3
      · exact e4
      · rfl)
    have ew : ∀ x, x < 26 → wkN N V B (fcN M f w t) f w l x = wkN M V B (fcN M f w t) f w l x := fun x hx => by
      unfold wkN
      rw [oN.1, acM_E eP, bdN_E (M := M) (M' := N) B (F := fcN M f w t) (G := fcN M f w t) (K := LV V l (fcN M f w t)) (L := LV V l (fcN M f w t)) w x (fun _ _ _ _ => by rw [oN.1]) (fun _ _ => rfl) (fun _ _ => rfl) hx _ (fun a ha => (hp.2.2 a ha).2.2.1)]
    rw [ew _ (by omega)] at g3 g4 g5 g6
    exact ⟨M2, g1, (oN.m (by omega)).tr g2, g3, g4, g5, g6⟩
  have e318 : M1.1 318 w = knN M f w t (enM M) := by rw [f2.1]; exact hg.1 w hw
  have e319 : ∀ N : SM, N.1 = M1.1 → N.1 319 w = nI (idN M f t w) := fun N h => by rw [h, f2.1]; exact hg.2 w hw
  unfold qmd_weekOf
  simp only [jn_ap]
  rw [hirerOf_g ht hf hw, ob_s, if_neg hh, f1, ob_s, ck_ib (by omega) (by omega), ck_t, nI_cl (by omega), e318]
  simp only [show ib 10 (1 : Int32) = true by decide, show ib 10 (2 : Int32) = true by decide, show ib 10 (3 : Int32) = true by decide, show ib 10 (4 : Int32) = true by decide, show ib 10 (7 : Int32) = true by decide, Bool.true_and, ck_ib hw (show 520 ≤ 2147483648 by omega), ck_t, show Int32.toNatClampNeg (1 : Int32) = 1 from rfl, show Int32.toNatClampNeg (2 : Int32) = 2 from rfl, show Int32.toNatClampNeg (3 : Int32) = 3 from rfl, show Int32.toNatClampNeg (4 : Int32) = 4 from rfl, show Int32.toNatClampNeg (7 : Int32) = 7 from rfl]
  rcases knN_or M f w t (enM M) with q | ⟨e, hl', q, -, -⟩
  · obtain ⟨M2, g1, g2⟩ := key 0 0 0 0 (by show _ = Int32.toInt64 (if knN M f w t (enM M) = -1 then _ else _); rw [if_pos q]; rfl) (by show _ = Int32.toInt64 (if knN M f w t (enM M) = -1 then _ else _); rw [if_pos q]; rfl) (by show _ = Int32.toInt64 (if knN M f w t (enM M) = -1 then _ else _); rw [if_pos q]; rfl) (by show _ = Int32.toInt64 (if knN M f w t (enM M) = -1 then _ else _); rw [if_pos q]; rfl)
    refine ⟨M2, ?_, g2⟩
    rw [q]
    simp only [if_true, wL_1, e319 M1 rfl, nI_cl (show w < 2147483648 by omega)]
    rw [g1, ob_s]
  · have qn : ¬ knN M f w t (enM M) = -1 := by rw [q]; exact nI_ne_m1 (by omega)
    have qc : Int32.toNatClampNeg (knN M f w t (enM M)) = e := by rw [q, nI_cl (by omega)]
    have r : ∀ k, k < 8 → M1.1 (310 + k) e = M.1 (212 + k) e := fun k hk => by rw [f2.1]; exact he.2.1 k hk e hl'
    obtain ⟨M2, g1, g2⟩ := key (Int32.toInt64 (M.1 215 e)) (Int32.toInt64 (M.1 214 e)) (Int32.toInt64 (M.1 216 e)) (Int32.toInt64 (M.1 217 e)) (by show _ = Int32.toInt64 (if knN M f w t (enM M) = -1 then _ else _); rw [if_neg qn, qc]) (by show _ = Int32.toInt64 (if knN M f w t (enM M) = -1 then _ else _); rw [if_neg qn, qc]) (by show _ = Int32.toInt64 (if knN M f w t (enM M) = -1 then _ else _); rw [if_neg qn, qc]) (by show _ = Int32.toInt64 (if knN M f w t (enM M) = -1 then _ else _); rw [if_neg qn, qc])
    refine ⟨M2, ?_, g2⟩
    rw [q]
    simp only [if_neg (nI_ne_m1 (show e < 2147483648 by omega)), ck_ib (show e < 300 by omega) (show 300 ≤ 2147483648 by omega), ck_t, nI_cl (show e < 2147483648 by omega), nI_cl (show w < 2147483648 by omega), wL_1, e319 M1 rfl, show M1.1 313 e = M.1 215 e from r 3 (by omega), show M1.1 312 e = M.1 214 e from r 2 (by omega), show M1.1 314 e = M.1 216 e from r 4 (by omega), show M1.1 315 e = M.1 217 e from r 5 (by omega)]
    rw [g1, ob_s]
theorem left_g : qmd_left M = some (M.2 280 54 - M.2 280 55 - M.2 280 56, M) := rfl
theorem paid_g (h : ¬ M.2 280 57 < 0) : qmd_paidInTruck M = some (lmx 0 (lmn (M.2 280 57) (M.2 280 54 - M.2 280 55 - M.2 280 56)), M) := by
  unfold qmd_paidInTruck
  rw [left_g, ob_s, left_g, ob_s, left_g, ob_s]
  generalize M.2 280 54 - M.2 280 55 - M.2 280 56 = n
  rw [ic_gt, ic_lt, lmx_i, lmn_i]
  rw [Int64.lt_iff_toInt_lt, show (0 : Int64).toInt = 0 from rfl] at h
  have z : ∀ x : Int64, x.toInt = 0 → x = 0 := fun x hx => Int64.toInt_inj.mp (by rw [hx]; rfl)
  by_cases h1 : 0 < n
  · rw [if_pos h1]
    rw [Int64.lt_iff_toInt_lt, show (0 : Int64).toInt = 0 from rfl] at h1
    by_cases h2 : M.2 280 57 < n
    · rw [if_pos h2]
      rw [Int64.lt_iff_toInt_lt] at h2
      rw [if_neg (show ¬ n < M.2 280 57 from fun q => by rw [Int64.lt_iff_toInt_lt] at q; omega), if_neg (fun q => by rw [Int64.lt_iff_toInt_lt, show (0 : Int64).toInt = 0 from rfl] at q; omega)]
    · rw [if_neg h2]
      rw [Int64.lt_iff_toInt_lt] at h2
      by_cases h3 : n < M.2 280 57
      · rw [if_pos h3, if_neg (fun q => by rw [Int64.lt_iff_toInt_lt, show (0 : Int64).toInt = 0 from rfl] at q; omega)]
      · rw [if_neg h3]
        rw [Int64.lt_iff_toInt_lt] at h3
        rw [if_neg (fun q => by rw [Int64.lt_iff_toInt_lt, show (0 : Int64).toInt = 0 from rfl] at q; omega), Int64.toInt_inj.mp (show n.toInt = (M.2 280 57).toInt by omega)]
  · rw [if_neg h1]
    rw [Int64.lt_iff_toInt_lt, show (0 : Int64).toInt = 0 from rfl] at h1
    by_cases h3 : n < M.2 280 57
    · rw [if_pos h3]
      by_cases h4 : n < 0
      · rw [if_pos h4]
      · rw [if_neg h4, z n (by rw [Int64.lt_iff_toInt_lt, show (0 : Int64).toInt = 0 from rfl] at h4; omega)]
    · rw [if_neg h3]
      rw [Int64.lt_iff_toInt_lt] at h3
      rw [z (M.2 280 57) (by omega)]
      rfl
theorem clN_nn (v : Int64) : ¬ clN v < 0 := by
  rw [cl_eq]
  by_cases h : v < 0
  · rw [if_pos h]; decide
  · rw [if_neg h]
    by_cases h2 : 1000000000 < v
    · rw [if_pos h2]; decide
    · rw [if_neg h2]; exact h
/-- net, and truck -/
def neN (M : SM) (V : Nat → FA → LE) (B : Nat → FA → LE → Int64) (f w : Nat) (t l : Int32) : Int64 := wkN M V B (fcN M f w t) f w l 22 - wkN M V B (fcN M f w t) f w l 17 - wkN M V B (fcN M f w t) f w l 2
def trN (M : SM) (V : Nat → FA → LE) (B : Nat → FA → LE → Int64) (f w : Nat) (t l : Int32) : Int64 := lmx 0 (lmn (wkN M V B (fcN M f w t) f w l 19) (neN M V B f w t l))
/-- what the reference writes of its own when it goes through weeks -/
def oW (M M' : SM) : Prop := (∀ c j, ¬ (c = 318 ∨ c = 319) → M'.1 c j = M.1 c j) ∧ ∀ c, ¬ (c = 280 ∨ 307 ≤ c ∧ c ≤ 309) → M'.2 c = M.2 c
theorem oW.rf (M : SM) : oW M M := ⟨fun _ _ _ => rfl, fun _ _ => rfl⟩
theorem oW.tr {M M' M'' : SM} (h : oW M M') (h2 : oW M' M'') : oW M M'' := ⟨fun c i q => (h2.1 c i q).trans (h.1 c i q), fun c q1 => (h2.2 c q1).trans (h.2 c q1)⟩
theorem oM.w {M M' : SM} (h : oM M M') : oW M M' := ⟨fun c j _ => by rw [h.1], h.2⟩
theorem oW.tn {M M' : SM} (h : oW M M') : Eq1 sTn M M' := fun c i q => h.1 c i (by unfold sTn at q; omega)
theorem oW.en {M M' : SM} (h : oW M M') : Eq1 sEn M M' := fun c i q => h.1 c i (by unfold sEn at q; omega)
theorem oW.pr {M M' : SM} (h : oW M M') : Eq1 sPr M M' := fun c i q => h.1 c i (by unfold sPr at q; omega)
theorem oW.us {M M' : SM} (h : oW M M') : Eq1 sUs M M' := fun c i q => h.1 c i (by unfold sUs at q; omega)
theorem goes_W (ht : I_tn M) (he : I_en M) {f : Nat} (hf : f < frM M) (t : Int32) : ∃ M' : SM, qmd_goesThrough (nI f) t M = some ((), M') ∧ oW M M' ∧ M'.2 = M.2 ∧ GT M' f t := by
  have fs := ht.fs
  obtain ⟨M1, g1, g2, g3, g4, g5⟩ := goesThrough_g ht he hf t
  have o : oW M M1 := ⟨fun c j q => g3 c j (by omega) (by omega), fun c _ => by rw [g2]⟩
  refine ⟨M1, g1, o, g2, fun w hw => ?_, fun w hw => ?_⟩
  · rw [g4 w hw, enM_E o.en, knN_E o.en]
  · rw [g5 w hw, idN_E o.tn o.en (by omega)]
theorem wkN_E {M M' : SM} (hp : PR M V B) (et : Eq1 sTn M M') (ep : Eq1 sPr M M') (F : FA) {f : Nat} (hf : f < 16) (w : Nat) (l : Int32) {x : Nat} (hx : x < 26) : wkN M' V B F f w l x = wkN M V B F f w l x := by
  unfold wkN
  rw [et 185 f (by unfold sTn; omega), acM_E ep, bdN_E (M := M) (M' := M') B (F := F) (G := F) (K := LV V l F) (L := LV V l F) w x (fun _ _ a b => ep _ _ (by unfold sPr; omega)) (fun _ _ => rfl) (fun _ _ => rfl) hx _ (fun a ha => (hp.2.2 a ha).2.2.1)]
theorem fcN_F {M M' : SM} (et : Eq1 sTn M M') (e : Eq1 sEn M M') {f : Nat} (hf : f < 16) (h16 : frM M ≤ 16) (w : Nat) (t : Int32) : fcN M' f w t = fcN M f w t := funext fun i => fcN_E et e hf h16 w t i
/-- the same, both sides: a week by a list -/
theorem week_c (ht : I_tn M) (he : I_en M) (hu : I_us M) (hp : PR M V B) {f w : Nat} (hf : f < frM M) (hw : w < 520) (hh : ¬ M.1 (187 + f) w = -1) (t : Int32) {l : Int32} (hl : okli M l) (M' : SM) (o : oC M M') :
    ∃ M1 : SM, qfr_reckonWeek (nI f) (nI w) t l M' = some (1, M1) ∧ oC M M1 ∧ qpr_wages M1 = some (wkN M V B (fcN M f w t) f w l 22, M1) ∧ qpr_rent M1 = some (wkN M V B (fcN M f w t) f w l 17, M1) ∧ qpr_charges M1 = some (wkN M V B (fcN M f w t) f w l 2, M1) ∧ qpr_netWages M1 = some (neN M V B f w t l, M1) ∧ qpr_truck M1 = some (trN M V B f w t l, M1) := by
  have fs := ht.fs
  obtain ⟨M1, f1, f2, f3⟩ := reckonWeek_g (ht.fr o.tn) (he.fr o.en) (hu.fr o.us) (hp.fr hu.1.2.1 o.pr) (f := f) (w := w) (by rw [frM_E o.tn]; exact hf) hw (by rw [hold_E o.tn (by omega)]; exact hh) t (l := l) (by unfold okli; rw [lsM_E o.pr]; exact hl)
  have f4 : ∀ x, x < 26 → clN (M1.2 177 x) = wkN M V B (fcN M f w t) f w l x := fun x hx => by
    rw [f3 x hx, wkN_E hp o.tn o.pr _ (by omega) w l hx, fcN_F o.tn o.en (by omega) fs.2.1]
  refine ⟨M1, f1, o.tr f2, ?_, ?_, ?_, ?_, ?_⟩
  · rw [wages_g, f4 _ (by omega)]
  · rw [rent_g, f4 _ (by omega)]
  · rw [charges_g, f4 _ (by omega)]
  · rw [netWages_g, f4 _ (by omega), f4 _ (by omega), f4 _ (by omega)]; rfl
  · rw [truck_g, f4 _ (by omega), f4 _ (by omega), f4 _ (by omega), f4 _ (by omega)]; rfl
theorem week_m (ht : I_tn M) (he : I_en M) (hu : I_us M) (hp : PR M V B) {f w : Nat} (hf : f < frM M) (hw : w < 520) (hh : ¬ M.1 (187 + f) w = -1) (t : Int32) {l : Int32} (hl : okli M l) (M' : SM) (ot : Eq1 sTn M M') (oe : Eq1 sEn M M') (ou : Eq1 sUs M M') (op : Eq1 sPr M M') (hg : GT M' f t) :
    ∃ M1 : SM, qmd_weekOf (nI f) (nI w) l M' = some (1, M1) ∧ oM M' M1 ∧ M1.2 280 54 = wkN M V B (fcN M f w t) f w l 22 ∧ M1.2 280 55 = wkN M V B (fcN M f w t) f w l 17 ∧ M1.2 280 56 = wkN M V B (fcN M f w t) f w l 2 ∧ qmd_left M1 = some (neN M V B f w t l, M1) ∧ qmd_paidInTruck M1 = some (trN M V B f w t l, M1) := by
  have fs := ht.fs
  obtain ⟨M1, f1, f2, f3, f4, f5, f6⟩ := weekOf_g (ht.fr ot) (he.fr oe) (hu.fr ou) (hp.fr hu.1.2.1 op) (f := f) (w := w) (by rw [frM_E ot]; exact hf) hw (by rw [hold_E ot (by omega)]; exact hh) t hg (l := l) (by unfold okli; rw [lsM_E op]; exact hl)
  rw [wkN_E hp ot op _ (by omega) w l (by omega), fcN_F ot oe (by omega) fs.2.1] at f3 f4 f5 f6
  refine ⟨M1, f1, f2, f3, f4, f5, ?_, ?_⟩
  · rw [left_g, f3, f4, f5]; rfl
  · rw [paid_g (by rw [f6]; exact clN_nn _), f3, f4, f5, f6]; rfl
theorem okli_u (ht : I_tn M) (hu : I_us M) {m w : Nat} (hm : m < 6) (hw : w < 520) : okli M (M.1 (204 + m) w) := (hu.2 m hm w hw).2
/-- all that both sides write of their own while they reckon -/
def sRk (c i : Nat) : Prop := (c = 12 ∧ i = 8) ∨ c = 318 ∨ c = 319
def sRkL (c : Nat) : Prop := (175 ≤ c ∧ c ≤ 178) ∨ c = 280 ∨ (307 ≤ c ∧ c ≤ 309)
theorem oC.v {M M' : SM} (h : oC M M') : Ov sRk sRkL M M' := ⟨fun c i q => h.1 c i (fun z => q (by unfold sRk; omega)), fun c q => h.2 c (fun z => q (by unfold sRkL; omega))⟩
theorem oW.v {M M' : SM} (h : oW M M') : Ov sRk sRkL M M' := ⟨fun c i q => h.1 c i (fun z => q (by unfold sRk; omega)), fun c q => h.2 c (fun z => q (by unfold sRkL; omega))⟩
theorem Ov.tn {M M' : SM} (h : Ov sRk sRkL M M') : Eq1 sTn M M' := fun c i q => h.1 c i (by unfold sTn at q; unfold sRk; omega)
theorem Ov.en {M M' : SM} (h : Ov sRk sRkL M M') : Eq1 sEn M M' := fun c i q => h.1 c i (by unfold sEn at q; unfold sRk; omega)
theorem Ov.pr {M M' : SM} (h : Ov sRk sRkL M M') : Eq1 sPr M M' := fun c i q => h.1 c i (by unfold sPr at q; unfold sRk; omega)
theorem Ov.us {M M' : SM} (h : Ov sRk sRkL M M') : Eq1 sUs M M' := fun c i q => h.1 c i (by unfold sUs at q; unfold sRk; omega)
theorem week_p (ht : I_tn M) (he : I_en M) (hu : I_us M) (hp : PR M V B) (x1 x2 x3 x4 : Int32) : Pr M (qfr_week x1 x2 x3 x4) (qmd_week x1 x2 x3 x4) (fun M2 => Ov sRk sRkL M M2) := by
  have fs := ht.fs
  have no : qfr_week x1 x2 x3 x4 M = some (-1, M) → qmd_week x1 x2 x3 x4 M = some (-1, M) → Pr M (qfr_week x1 x2 x3 x4) (qmd_week x1 x2 x3 x4) (fun M2 => Ov sRk sRkL M M2) := fun e1 e2 => Pr.mk e1 e2 (Ov.rf _ _ _)
  rcases ix x1 (frM M) (by omega) with ⟨f, hf, rfl⟩ | hb
  rotate_left
  · exact no (by unfold qfr_week; rw [hasFrame_b ht hb, ob_s, if_pos rfl]) (by unfold qmd_week; rw [md_isFrame_b ht hb, ob_s, if_pos rfl])
  rcases ix x2 520 (by omega) with ⟨w, hw, rfl⟩ | hb
  rotate_left
  · exact no (by unfold qfr_week; rw [hasFrame_g ht hf, ob_s, if_neg (by decide), isWeek_b hb, ob_s, if_pos rfl]) (by unfold qmd_week; rw [md_isFrame_g ht hf, ob_s, if_neg (by decide), md_isWeek_b hb, ob_s, if_pos rfl])
  rcases ix x3 520 (by omega) with ⟨t, ht5, rfl⟩ | hb
  rotate_left
  · exact no (by unfold qfr_week; rw [hasFrame_g ht hf, ob_s, if_neg (by decide), isWeek_g hw, ob_s, if_neg (by decide), isWeek_b hb, ob_s, if_pos rfl]) (by unfold qmd_week; rw [md_isFrame_g ht hf, ob_s, if_neg (by decide), md_isWeek_g hw, ob_s, if_neg (by decide), md_isWeek_b hb, ob_s, if_pos rfl])
  rcases rg x4 0 7 0 7 rfl rfl with ⟨wh, hw1, hw2, rfl, a1, a2⟩ | hb
  rotate_left
  · exact no (by unfold qfr_week; rw [hasFrame_g ht hf, ob_s, if_neg (by decide), isWeek_g hw, ob_s, if_neg (by decide), isWeek_g ht5, ob_s, if_neg (by decide), within_f hb, ob_s, if_pos rfl]) (by unfold qmd_week; rw [md_isFrame_g ht hf, ob_s, if_neg (by decide), md_isWeek_g hw, ob_s, if_neg (by decide), md_isWeek_g ht5, ob_s, if_neg (by decide), md_in_f hb, ob_s, if_pos rfl])
  obtain ⟨b1, b2, b3, ⟨m, hm, b4⟩, b6⟩ := ht.fa f hf
  have am := ht.ms
  have hl := okli_u ht hu (m := m) (by omega) hw
  by_cases hh : M.1 (187 + f) w = -1
  · -- nobody had it
    obtain ⟨M2, g1, g2, g3, g4⟩ := goes_W ht he hf (nI t)
    have h2 : M2.1 (187 + f) w = -1 := by rw [hold_E g2.tn (by omega)]; exact hh
    have ht2 := ht.fr g2.tn
    have f2 : f < frM M2 := by rw [frM_E g2.tn]; exact hf
    refine Pr.mk (r := Int32.toInt64 (if wh = 7 then knN M f w (nI t) (enM M) else if wh = 6 then -1 else 0)) (M1 := M) (M2 := M2) ?_ ?_ g2.v
    · unfold qfr_week
      rw [hasFrame_g ht hf, ob_s, if_neg (by decide), isWeek_g hw, ob_s, if_neg (by decide), isWeek_g ht5, ob_s, if_neg (by decide), within_t a1 a2, ob_s, if_neg (by decide), idleWeeks_g ht he hf hw, ob_s, holderAt_g ht hf hw, ob_s, hh, knownAt_g he (by omega) hw, ob_s, masterOf_g ht hf, ob_s, b4, listIn_g ht hm hw, ob_s, reckonWeek_n ht hf hw hh, ob_s, if_pos (show (0 : Int32) = 0 from rfl), idN_hold hh, iN_5 (by omega), iN_6 (by omega), iN_7 (by omega)]
      rcases (show wh = 0 ∨ wh = 1 ∨ wh = 2 ∨ wh = 3 ∨ wh = 4 ∨ wh = 5 ∨ wh = 6 ∨ wh = 7 by omega) with rfl | rfl | rfl | rfl | rfl | rfl | rfl | rfl <;> rfl
    · unfold qmd_week
      rw [md_isFrame_g ht hf, ob_s, if_neg (by decide), md_isWeek_g hw, ob_s, if_neg (by decide), md_isWeek_g ht5, ob_s, if_neg (by decide), md_in_t a1 a2, ob_s, if_neg (by decide), g1, ob_s, ck_ib (by omega) (by omega), ck_t, hirerOf_g ht2 f2 hw, ob_s, ck_ib (by omega) (by omega), nI_cl (by omega), nI_cl (by omega), g2.1 284 f (by omega), b2, b4, show (520 : Int32) = nI 520 from rfl, nI_mul, nI_add, ck_ib (by omega) (by omega), ck_t, weekOf_n ht2 f2 hw h2, ob_s, if_pos (show (0 : Int32) = 0 from rfl), h2, g4.1 w hw, knN_E g2.en, enM_E g2.en, iN_7 (by omega), iN_6 (by omega)]
      rcases (show wh = 0 ∨ wh = 1 ∨ wh = 2 ∨ wh = 3 ∨ wh = 4 ∨ wh = 5 ∨ wh = 6 ∨ wh = 7 by omega) with rfl | rfl | rfl | rfl | rfl | rfl | rfl | rfl <;> rfl
  · obtain ⟨M1, c1, c2, c3, c4, c5, c6, c7⟩ := week_c ht he hu hp hf hw hh (nI t) hl M (oC.rf M)
    have fr1 : ∀ M' : SM, (M' = M ∨ M' = M1) → oC M M' := fun M' h => h.elim (fun q => by rw [q]; exact oC.rf M) (fun q => by rw [q]; exact c2)
    have md : ∀ M' : SM, oC M M' → ∃ M2 : SM, Ov sRk sRkL M M2 ∧ qmd_week (nI f) (nI w) (nI t) (nI wh) M' = some (if wh = 7 then Int32.toInt64 (knN M f w (nI t) (enM M)) else if wh = 6 then Int32.toInt64 (M.1 (187 + f) w) else if wh = 0 then wkN M V B (fcN M f w (nI t)) f w (M.1 (204 + m) w) 22 else if wh = 1 then wkN M V B (fcN M f w (nI t)) f w (M.1 (204 + m) w) 17 else if wh = 2 then wkN M V B (fcN M f w (nI t)) f w (M.1 (204 + m) w) 2 else if wh = 3 then trN M V B f w (nI t) (M.1 (204 + m) w) else if wh = 4 then neN M V B f w (nI t) (M.1 (204 + m) w) else Int32.toInt64 (nI (idN M f (nI t) w)), M2) := by
      intro M' o
      have ht' := ht.fr o.tn
      have he' := he.fr o.en
      have f' : f < frM M' := by rw [frM_E o.tn]; exact hf
      obtain ⟨M2, g1, g2, g3, g4⟩ := goes_W ht' he' f' (nI t)
      have et : Eq1 sTn M M2 := Eq1.tr o.tn g2.tn
      have ee : Eq1 sEn M M2 := Eq1.tr o.en g2.en
      have eu : Eq1 sUs M M2 := Eq1.tr o.us g2.us
      have ep : Eq1 sPr M M2 := Eq1.tr o.pr g2.pr
      obtain ⟨M3, k1, k2, k3, k4, k5, k6, k7⟩ := week_m ht he hu hp hf hw hh (nI t) hl M2 et ee eu ep g4
      have hd : qmd_hirerOf (nI f) (nI w) M2 = some (M.1 (187 + f) w, M2) := by
        rw [hirerOf_g (ht.fr et) (by rw [frM_E et]; exact hf) hw, hold_E et (by omega)]
      have l1 : M2.1 287 (520 * m + w) = M.1 (204 + m) w := by rw [eu _ _ (by unfold sUs; omega)]; exact (hu.2 m (by omega) w hw).1
      have l2 : M2.1 284 f = nI m := by rw [et _ _ (by unfold sTn; omega), b2]; exact b4
      have l3 : M2.1 318 w = knN M f w (nI t) (enM M) := by rw [g4.1 w hw, knN_E ee, enM_E ee]
      have l4 : M3.1 319 w = nI (idN M f (nI t) w) := by rw [k2.1, g4.2 w hw, idN_E et ee (by omega)]
      have e2 : Ov sRk sRkL M M2 := o.v.tr g2.v
      have e3 : Ov sRk sRkL M M3 := e2.tr k2.w.v
      have com : qmd_week (nI f) (nI w) (nI t) (nI wh) M' = (if wh = 7 then some (Int32.toInt64 (knN M f w (nI t) (enM M)), M2) else if wh = 6 then some (Int32.toInt64 (M.1 (187 + f) w), M2) else if wh = 0 then some (wkN M V B (fcN M f w (nI t)) f w (M.1 (204 + m) w) 22, M3) else if wh = 1 then some (wkN M V B (fcN M f w (nI t)) f w (M.1 (204 + m) w) 17, M3) else if wh = 2 then some (wkN M V B (fcN M f w (nI t)) f w (M.1 (204 + m) w) 2, M3) else if wh = 3 then some (trN M V B f w (nI t) (M.1 (204 + m) w), M3) else if wh = 4 then some (neN M V B f w (nI t) (M.1 (204 + m) w), M3) else some (Int32.toInt64 (nI (idN M f (nI t) w)), M3)) := by
        unfold qmd_week
        rw [md_isFrame_g ht' f', ob_s, if_neg (by decide), md_isWeek_g hw, ob_s, if_neg (by decide), md_isWeek_g ht5, ob_s, if_neg (by decide), md_in_t a1 a2, ob_s, if_neg (by decide), g1, ob_s, ck_ib (by omega) (by omega), ck_t, hd, ob_s, ck_ib (by omega) (by omega), nI_cl (by omega), nI_cl (by omega), l2, show (520 : Int32) = nI 520 from rfl, nI_mul, nI_add, ck_ib (by omega) (by omega), ck_t, nI_cl (by omega), l1, k1, ob_s, if_neg (show ¬ (1 : Int32) = 0 by decide), k3, k4, k5, k6, ob_s, k7, ob_s, ck_ib (by omega) (by omega), ck_t, l3, l4, iN_7 (by omega), iN_6 (by omega), iN_0 (by omega), iN_1 (by omega), iN_2 (by omega), iN_3 (by omega), iN_4 (by omega)]
      rw [com]
      by_cases h7 : wh = 7
      · rw [if_pos h7, if_pos h7]; exact ⟨M2, e2, rfl⟩
      rw [if_neg h7, if_neg h7]
      by_cases h6 : wh = 6
      · rw [if_pos h6, if_pos h6]; exact ⟨M2, e2, rfl⟩
      rw [if_neg h6, if_neg h6]
      by_cases h0 : wh = 0
      · rw [if_pos h0, if_pos h0]; exact ⟨M3, e3, rfl⟩
      rw [if_neg h0, if_neg h0]
      by_cases h1 : wh = 1
      · rw [if_pos h1, if_pos h1]; exact ⟨M3, e3, rfl⟩
      rw [if_neg h1, if_neg h1]
      by_cases h2 : wh = 2
      · rw [if_pos h2, if_pos h2]; exact ⟨M3, e3, rfl⟩
      rw [if_neg h2, if_neg h2]
      by_cases h3 : wh = 3
      · rw [if_pos h3, if_pos h3]; exact ⟨M3, e3, rfl⟩
      rw [if_neg h3, if_neg h3]
      by_cases h4 : wh = 4
      · rw [if_pos h4, if_pos h4]; exact ⟨M3, e3, rfl⟩
      rw [if_neg h4, if_neg h4]
      exact ⟨M3, e3, rfl⟩
    have com : qfr_week (nI f) (nI w) (nI t) (nI wh) M = (if wh = 5 then some (Int32.toInt64 (nI (idN M f (nI t) w)), M) else if wh = 6 then some (Int32.toInt64 (M.1 (187 + f) w), M) else if wh = 7 then some (Int32.toInt64 (knN M f w (nI t) (enM M)), M) else if wh = 0 then some (wkN M V B (fcN M f w (nI t)) f w (M.1 (204 + m) w) 22, M1) else if wh = 1 then some (wkN M V B (fcN M f w (nI t)) f w (M.1 (204 + m) w) 17, M1) else if wh = 2 then some (wkN M V B (fcN M f w (nI t)) f w (M.1 (204 + m) w) 2, M1) else if wh = 3 then some (trN M V B f w (nI t) (M.1 (204 + m) w), M1) else some (neN M V B f w (nI t) (M.1 (204 + m) w), M1)) := by
      unfold qfr_week
      rw [hasFrame_g ht hf, ob_s, if_neg (by decide), isWeek_g hw, ob_s, if_neg (by decide), isWeek_g ht5, ob_s, if_neg (by decide), within_t a1 a2, ob_s, if_neg (by decide), idleWeeks_g ht he hf hw, ob_s, holderAt_g ht hf hw, ob_s, knownAt_g he (by omega) hw, ob_s, masterOf_g ht hf, ob_s, b4, listIn_g ht hm hw, ob_s, c1, ob_s, if_neg (show ¬ (1 : Int32) = 0 by decide), c3, ob_s, c4, ob_s, c5, ob_s, c7, ob_s, c6, ob_s, iN_5 (by omega), iN_6 (by omega), iN_7 (by omega), iN_0 (by omega), iN_1 (by omega), iN_2 (by omega), iN_3 (by omega)]
    have fin : ∀ (M' : SM) (r : Int64), oC M M' → qfr_week (nI f) (nI w) (nI t) (nI wh) M = some (r, M') → r = (if wh = 7 then Int32.toInt64 (knN M f w (nI t) (enM M)) else if wh = 6 then Int32.toInt64 (M.1 (187 + f) w) else if wh = 0 then wkN M V B (fcN M f w (nI t)) f w (M.1 (204 + m) w) 22 else if wh = 1 then wkN M V B (fcN M f w (nI t)) f w (M.1 (204 + m) w) 17 else if wh = 2 then wkN M V B (fcN M f w (nI t)) f w (M.1 (204 + m) w) 2 else if wh = 3 then trN M V B f w (nI t) (M.1 (204 + m) w) else if wh = 4 then neN M V B f w (nI t) (M.1 (204 + m) w) else Int32.toInt64 (nI (idN M f (nI t) w))) → Pr M (qfr_week (nI f) (nI w) (nI t) (nI wh)) (qmd_week (nI f) (nI w) (nI t) (nI wh)) (fun M2 => Ov sRk sRkL M M2) := fun M' r o h1 h2 => by
      obtain ⟨M2, e2, e3⟩ := md M' o
      exact Pr.mk (h1.trans (by rw [h2])) e3 e2 o.sc
    by_cases h5 : wh = 5
    · refine fin M _ (oC.rf M) (com.trans (if_pos h5)) ?_
      rw [if_neg (show ¬ wh = 7 by omega), if_neg (show ¬ wh = 6 by omega), if_neg (show ¬ wh = 0 by omega), if_neg (show ¬ wh = 1 by omega), if_neg (show ¬ wh = 2 by omega), if_neg (show ¬ wh = 3 by omega), if_neg (show ¬ wh = 4 by omega)]
    rw [if_neg h5] at com
    by_cases h6 : wh = 6
    · refine fin M _ (oC.rf M) (com.trans (if_pos h6)) ?_
      rw [if_neg (show ¬ wh = 7 by omega), if_pos h6]
    rw [if_neg h6] at com
    by_cases h7 : wh = 7
    · refine fin M _ (oC.rf M) (com.trans (if_pos h7)) ?_
      rw [if_pos h7]
    rw [if_neg h7] at com
    by_cases h0 : wh = 0
    · refine fin M1 _ c2 (com.trans (if_pos h0)) ?_
      rw [if_neg h7, if_neg h6, if_pos h0]
    rw [if_neg h0] at com
    by_cases h1 : wh = 1
    · refine fin M1 _ c2 (com.trans (if_pos h1)) ?_
      rw [if_neg h7, if_neg h6, if_neg h0, if_pos h1]
    rw [if_neg h1] at com
    by_cases h2 : wh = 2
    · refine fin M1 _ c2 (com.trans (if_pos h2)) ?_
      rw [if_neg h7, if_neg h6, if_neg h0, if_neg h1, if_pos h2]
    rw [if_neg h2] at com
    by_cases h3 : wh = 3
    · refine fin M1 _ c2 (com.trans (if_pos h3)) ?_
      rw [if_neg h7, if_neg h6, if_neg h0, if_neg h1, if_neg h2, if_pos h3]
    rw [if_neg h3] at com
    refine fin M1 _ c2 com ?_
    rw [if_neg h7, if_neg h6, if_neg h0, if_neg h1, if_neg h2, if_neg h3, if_pos (show wh = 4 by omega)]
end
