/-! a week's work, on both sides -/
section
variable {M : SM} {V : Nat → FA → LE} {B : Nat → FA → LE → Int64}
/-- the class' own rows in use: ints but one, longs but four -/
def oC (M M' : SM) : Prop := (∀ c i, ¬ (c = 12 ∧ i = 8) → M'.1 c i = M.1 c i) ∧ ∀ c, ¬ (175 ≤ c ∧ c ≤ 178) → M'.2 c = M.2 c
theorem oC.sc {M M' : SM} (h : oC M M') : Sc M M' := fun c i q => h.1 c i (by omega)
theorem oC.rf (M : SM) : oC M M := ⟨fun _ _ _ => rfl, fun _ _ => rfl⟩
theorem oC.tr {M M' M'' : SM} (h : oC M M') (h2 : oC M' M'') : oC M M'' := ⟨fun c i q => (h2.1 c i q).trans (h.1 c i q), fun c q1 => (h2.2 c q1).trans (h.2 c q1)⟩
theorem oC.eq {s : Nat → Nat → Prop} {M M' : SM} (h : oC M M') (hs : ∀ c i, s c i → ¬ (c = 12 ∧ i = 8)) : Eq1 s M M' := fun c i q => h.1 c i (hs c i q)
theorem oL.c {k : Nat} {M M' : SM} (h : oL k M M') (hk : 175 ≤ k ∧ k ≤ 178) : oC M M' := ⟨fun c i _ => by rw [h.1], fun c q => h.2 c (by omega)⟩
theorem oP.c {M M' : SM} (h : oP M M') : oC M M' := ⟨h.1, fun c q => h.2 c (by omega) (by omega)⟩
theorem oC.tn {M M' : SM} (h : oC M M') : Eq1 sTn M M' := h.eq fun c i q => by unfold sTn at q; omega
theorem oC.en {M M' : SM} (h : oC M M') : Eq1 sEn M M' := h.eq fun c i q => by unfold sEn at q; omega
theorem oC.pr {M M' : SM} (h : oC M M') : Eq1 sPr M M' := h.eq fun c i q => by unfold sPr at q; omega
theorem oC.us {M M' : SM} (h : oC M M') : Eq1 sUs M M' := h.eq fun c i q => by unfold sUs at q; omega
/-- the worths of a week: by list l, at the facts F -/
def wkN (M : SM) (V : Nat → FA → LE) (B : Nat → FA → LE → Int64) (F : FA) (f w : Nat) (l : Int32) (x : Nat) : Int64 := clN (if x = 17 ∧ ¬ M.1 185 f = -1 then 0 else bdN M B F (LV V l F) w x (acM M))
theorem isOwn_v (ht : I_tn M) {f : Nat} (hf : f < frM M) : ∃ y, qtn_isOwn (nI f) M = some (y, M) ∧ (y = 0 ∨ y = 1) ∧ ((¬ y = 0) = ¬ M.1 185 f = -1) := by
  refine ⟨_, isOwn_g ht hf, ?_, ?_⟩
  · split
    · exact Or.inl rfl
    · exact Or.inr rfl
  · by_cases q : M.1 185 f = -1
    · rw [if_pos q]; simp [q]
    · rw [if_neg q]; simp [q]
/-- letters and bounds, the facts being set -/
theorem price_g (ht : I_tn M) (hu : I_us M) (hp : PR M V B) {f w : Nat} (hf : f < frM M) {l : Int32} (hl : okli M l) (M' : SM) (e : oC M M') (F : FA) (eF : ∀ i, i < 10 → M'.2 175 i = F i) :
    ∃ M'' : SM, (ob (qpr_listAt l M') (fun r65 M66 =>
                        ob (qpr_reckonLetters r65 M66) (fun _ M68 =>
                        ob (qtn_isOwn (nI f) M68) (fun r71 M72 =>
                        ob (qpr_boundWorths (nI w) r71 M72) (fun _ M74 =>
                        some ((1 : Int32), M74)))))) = some (1, M'') ∧ oC M' M'' ∧ ∀ x, x < 26 → clN (M''.2 177 x) = wkN M V B F f w l x := by
  obtain ⟨o, M1, f1, f2, f3, f4, f5⟩ := letters_g hu hp hl M' e.pr
  have c1 : oC M' M1 := ⟨f4, fun c q => f5 c (by omega) (by omega)⟩
  have fs := ht.fs
  have ht1 : I_tn M1 := ht.fr (e.tr c1).tn
  obtain ⟨y, g1, g2, g3⟩ := isOwn_v ht1 (f := f) (by rw [frM_E (e.tr c1).tn]; exact hf)
  have x5 : ∀ i, i < 10 → M1.2 175 i = F i := fun i hi => by rw [f5 _ (by omega) (by omega)]; exact eF i hi
  obtain ⟨M2, k1, k2, k3⟩ := boundWorths_g hp w g2 (LV V l (M'.2 175)) M1 (e.tr c1).pr f3
  refine ⟨M2, ?_, c1.tr k2.c, fun x hx => ?_⟩
  · rw [f1, ob_s, f2, ob_s, g1, ob_s, k1, ob_s]
  · rw [k3 x hx]
    unfold wkN
    have hB : ∀ a, a < acM M → exB (B a) := fun a ha => (hp.2.2 a ha).2.2.1
    have eL : ∀ x, x < 26 → LV V l (M'.2 175) x = LV V l F x := fun x _ => by
      unfold LV
      rcases hl with rfl | ⟨k, hk, rfl⟩
      · rw [if_pos rfl, if_pos rfl]
      · have := hu.1
        rw [if_neg (nI_ne_m1 (by omega)), if_neg (nI_ne_m1 (by omega)), nI_cl (by omega)]
        exact (hp.2.1 k hk).2.2.1 _ _ eF x
    rw [bdN_E (M := M) (M' := M) B (F := M1.2 175) (G := F) w x (fun _ _ _ _ => rfl) x5 eL hx _ hB]
    congr 1
    by_cases z : x = 17 ∧ ¬ y = 0
    · rw [if_pos z, if_pos ⟨z.1, by have := z.2; rwa [g3, (e.tr c1).1 185 f (by omega)] at this⟩]
    · rw [if_neg z, if_neg (fun v => z ⟨v.1, by rw [g3, (e.tr c1).1 185 f (by omega)]; exact v.2⟩)]
theorem reckonWeek_n (ht : I_tn M) {f w : Nat} (hf : f < frM M) (hw : w < 520) (hh : M.1 (187 + f) w = -1) (t l : Int32) : qfr_reckonWeek (nI f) (nI w) t l M = some (0, M) := by
  unfold qfr_reckonWeek
  rw [holderAt_g ht hf hw, ob_s, if_pos hh]
theorem reckonWeek_g (ht : I_tn M) (he : I_en M) (hu : I_us M) (hp : PR M V B) {f w : Nat} (hf : f < frM M) (hw : w < 520) (hh : ¬ M.1 (187 + f) w = -1) (t : Int32) {l : Int32} (hl : okli M l) :
    ∃ M' : SM, qfr_reckonWeek (nI f) (nI w) t l M = some (1, M') ∧ oC M M' ∧ ∀ x, x < 26 → clN (M'.2 177 x) = wkN M V B (fcN M f w t) f w l x := by
  have fs := ht.fs
  have a := he.1
  obtain ⟨M1, f1, f2, f3⟩ := setFacts_g ht hf hw hh t
  have key : ∀ v1 v2 v3 v4 : Int32, v1 = fcI M f w t 1 → v2 = fcI M f w t 2 → v3 = fcI M f w t 3 → v4 = fcI M f w t 4 → ∃ M' : SM, (ob (qpr_setFact 4 v4 (wL (wL (wL M1 175 1 (Int32.toInt64 v1)) 175 2 (Int32.toInt64 v2)) 175 3 (Int32.toInt64 v3))) (fun _ M56 =>
                        ob (qfr_idleWeeks (nI f) (nI w) t M56) (fun r59 M60 =>
                        ob (qpr_setFact (7 : Int32) r59 M60) (fun _ M62 =>
                        ob (qpr_listAt l M62) (fun r65 M66 =>
                        ob (qpr_reckonLetters r65 M66) (fun _ M68 =>
                        ob (qtn_isOwn (nI f) M68) (fun r71 M72 =>
                        ob (qpr_boundWorths (nI w) r71 M72) (fun _ M74 =>
                        some ((1 : Int32), M74))))))))) = some (1, M') ∧ oC M M' ∧ ∀ x, x < 26 → clN (M'.2 177 x) = wkN M V B (fcN M f w t) f w l x := by
    intro v1 v2 v3 v4 e1 e2 e3 e4
    generalize hN : wL (wL (wL (wL M1 175 1 (Int32.toInt64 v1)) 175 2 (Int32.toInt64 v2)) 175 3 (Int32.toInt64 v3)) 175 4 (Int32.toInt64 v4) = N
    have oN : oL 175 M N := by rw [← hN]; exact (((f2.w _ _).w _ _).w _ _).w _ _
    have oc := oN.c (by omega)
    have idl := idleWeeks_g (M := N) (ht.fr oc.tn) (he.fr oc.en) (f := f) (by rw [frM_E oc.tn]; exact hf) hw t
    rw [idN_E oc.tn oc.en (by omega)] at idl
    have oN2 : oL 175 M (wL N 175 7 (Int32.toInt64 (nI (idN M f t w)))) := oN.w _ _
    obtain ⟨M2, g1, g2, g3⟩ := price_g ht hu hp (w := w) hf hl _ (oN2.c (by omega)) (fcN M f w t) (fun i hi => by
      rw [wL_2, ← hN]
      simp only [wL_2, f3]
      rcases (show i = 0 ∨ i = 1 ∨ i = 2 ∨ i = 3 ∨ i = 4 ∨ i = 5 ∨ i = 6 ∨ i = 7 ∨ i = 8 ∨ i = 9 by omega) with rfl | rfl | rfl | rfl | rfl | rfl | rfl | rfl | rfl | rfl <;> simp
      · rw [e1]; rfl
      · rw [e2]; rfl
      · rw [e3]; rfl
      · rw [e4]; rfl
      · rfl)
    refine ⟨M2, ?_, (oN2.c (by omega)).tr g2, g3⟩
    rw [setFact_g (x := 4) (k := 4) rfl (by omega), ob_s, hN, idl, ob_s, setFact_g (x := 7) (k := 7) rfl (by omega), ob_s]
    exact g1
  have oc1 : ∀ N : SM, N.1 = M.1 → qen_at = qen_at := fun _ _ => rfl
  unfold qfr_reckonWeek
  simp only [jn_ap]
  rw [holderAt_g ht hf hw, ob_s, if_neg hh, knownAt_g he (by omega) hw, ob_s]
  rcases knN_or M f w t (enM M) with q | ⟨e, hl', q, -, -⟩
  · rw [q, if_pos rfl, f1, ob_s, if_neg (by decide), setFact_g (x := 1) (k := 1) rfl (by omega), ob_s, if_neg (by decide), setFact_g (x := 2) (k := 2) rfl (by omega), ob_s, if_neg (by decide), setFact_g (x := 3) (k := 3) rfl (by omega), ob_s, if_neg (by decide)]
    exact key 0 0 0 0 (by show _ = if knN M f w t (enM M) = -1 then _ else _; rw [if_pos q]) (by show _ = if knN M f w t (enM M) = -1 then _ else _; rw [if_pos q]) (by show _ = if knN M f w t (enM M) = -1 then _ else _; rw [if_pos q]) (by show _ = if knN M f w t (enM M) = -1 then _ else _; rw [if_pos q])
  · have qn : ¬ knN M f w t (enM M) = -1 := by rw [q]; exact nI_ne_m1 (by omega)
    have qc : Int32.toNatClampNeg (knN M f w t (enM M)) = e := by rw [q, nI_cl (by omega)]
    have at_g : ∀ (N : SM) (k : Nat), N.1 = M.1 → k < 8 → qen_at (nI e) (nI k) N = some (M.1 (212 + k) e, N) := fun N k h hk => by
      rw [en_at_g (M := N) (s := enM M) (by rw [h]; exact a.1) a.2.1 hl' hk, h]
    rw [q, if_neg (nI_ne_m1 (by omega)), f1, ob_s, if_pos trivial, show (3 : Int32) = nI 3 from rfl, at_g M1 3 f2.1 (by omega), ob_s, setFact_g (x := 1) (k := 1) rfl (by omega), ob_s, if_pos trivial]
    rw [show qen_at (nI e) (2 : Int32) (wL M1 175 1 (Int32.toInt64 (M.1 (212 + 3) e))) = some (M.1 (212 + 2) e, wL M1 175 1 (Int32.toInt64 (M.1 (212 + 3) e))) from at_g _ 2 f2.1 (by omega), ob_s, setFact_g (x := 2) (k := 2) rfl (by omega), ob_s, if_pos trivial]
    rw [show qen_at (nI e) (4 : Int32) (wL (wL M1 175 1 (Int32.toInt64 (M.1 (212 + 3) e))) 175 2 (Int32.toInt64 (M.1 (212 + 2) e))) = some (M.1 (212 + 4) e, (wL (wL M1 175 1 (Int32.toInt64 (M.1 (212 + 3) e))) 175 2 (Int32.toInt64 (M.1 (212 + 2) e)))) from at_g _ 4 f2.1 (by omega), ob_s, setFact_g (x := nI 3) (k := 3) rfl (by omega), ob_s, if_pos trivial]
    rw [show qen_at (nI e) (5 : Int32) (wL (wL (wL M1 175 1 (Int32.toInt64 (M.1 (212 + 3) e))) 175 2 (Int32.toInt64 (M.1 (212 + 2) e))) 175 3 (Int32.toInt64 (M.1 (212 + 4) e))) = some (M.1 (212 + 5) e, (wL (wL (wL M1 175 1 (Int32.toInt64 (M.1 (212 + 3) e))) 175 2 (Int32.toInt64 (M.1 (212 + 2) e))) 175 3 (Int32.toInt64 (M.1 (212 + 4) e)))) from at_g _ 5 f2.1 (by omega), ob_s]
    exact key _ _ _ _ (by show _ = if knN M f w t (enM M) = -1 then _ else _; rw [if_neg qn, qc]) (by show _ = if knN M f w t (enM M) = -1 then _ else _; rw [if_neg qn, qc]) (by show _ = if knN M f w t (enM M) = -1 then _ else _; rw [if_neg qn, qc]) (by show _ = if knN M f w t (enM M) = -1 then _ else _; rw [if_neg qn, qc])
theorem worthOf_g {x : Nat} (hx : x < 26) : qpr_worthOf (nI x) M = some (clN (M.2 177 x), M) := by
  unfold qpr_worthOf
  rw [if_neg (nI_lt0 (by omega)), if_pos (nl_26 hx), ck_ib (by omega) (by omega), ck_t, nI_cl (by omega)]
  rfl
theorem wages_g : qpr_wages M = some (clN (M.2 177 22), M) := by
  unfold qpr_wages; rw [show (22 : Int32) = nI 22 from rfl, worthOf_g (by omega), ob_s]
theorem rent_g : qpr_rent M = some (clN (M.2 177 17), M) := by
  unfold qpr_rent; rw [show (17 : Int32) = nI 17 from rfl, worthOf_g (by omega), ob_s]
theorem charges_g : qpr_charges M = some (clN (M.2 177 2), M) := by
  unfold qpr_charges; rw [show (2 : Int32) = nI 2 from rfl, worthOf_g (by omega), ob_s]
theorem netWages_g : qpr_netWages M = some (clN (M.2 177 22) - clN (M.2 177 17) - clN (M.2 177 2), M) := by
  unfold qpr_netWages; rw [wages_g, ob_s, rent_g, ob_s, charges_g, ob_s]
theorem truck_g : qpr_truck M = some (lmx 0 (lmn (clN (M.2 177 19)) (clN (M.2 177 22) - clN (M.2 177 17) - clN (M.2 177 2))), M) := by
  unfold qpr_truck; rw [show (19 : Int32) = nI 19 from rfl, worthOf_g (by omega), ob_s, netWages_g, ob_s]
/-! the reference -/
theorem mw_L2_g {K : Int32 → SM → Option (Unit × SM)} (x : Int32) : ∀ fu i M, 26 - i < fu → i ≤ 26 → ∃ M' : SM, qmd_worths_L2 K fu x (nI i) M = K x M' ∧ oL 308 M M' ∧ ∀ j, M'.2 308 j = if i ≤ j ∧ j < 26 then 0 else M.2 308 j := by
  intro fu
  induction fu with
  | zero => intro i M hn; omega
  | succ n ih =>
    intro i M hn hi
    unfold qmd_worths_L2
    by_cases hlt : i < 26
    · rw [if_pos (show nI i < (26 : Int32) from nl_26 hlt), ck_ib (by omega) (by omega), ck_t, nI_1, nI_cl (by omega)]
      obtain ⟨M', e1, e2, e3⟩ := ih (i + 1) (wL M 308 i 0) (by omega) (by omega)
      refine ⟨M', e1, ((oL.rf 308 M).w i 0).tr e2, fun j => ?_⟩
      rw [e3 j, wL_2]
      by_cases h1 : i + 1 ≤ j ∧ j < 26
      · rw [if_pos h1, if_pos ⟨by omega, h1.2⟩]
      · rw [if_neg h1]
        by_cases h2 : j = i
        · rw [if_pos ⟨rfl, h2⟩, if_pos ⟨by omega, by omega⟩]
        · rw [if_neg (by omega), if_neg (by omega)]
    · obtain rfl : i = 26 := by omega
      rw [if_neg (by decide)]
      exact ⟨M, rfl, oL.rf _ _, fun j => by rw [if_neg (by omega)]⟩
theorem worths_g (hu : I_us M) (hp : PR M V B) {l : Int32} (hl : okli M l) (M' : SM) (e : Eq1 sPr M M') : ∃ M'' : SM, qmd_worths l M' = some ((), M'') ∧ (∀ x, x < 26 → M''.2 308 x = LV V l (M'.2 307) x) ∧ M''.1 = M'.1 ∧ ∀ c, c ≠ 308 → c ≠ 309 → M''.2 c = M'.2 c := by
  have a := hu.1
  rcases hl with rfl | ⟨k, hk, rfl⟩
  · obtain ⟨M1, f1, f2, f3⟩ := mw_L2_g (K := fun y1_3 M4 => qmd_worths_L23 FU y1_3 (0 : Int32) M4) (-1) FU 0 M' (by unfold FU; omega) (by omega)
    refine ⟨M1, ?_, fun x hx => ?_, f2.1, fun c hc _ => f2.2 c hc⟩
    · unfold qmd_worths
      refine Eq.trans f1 ?_
      show qmd_worths_L23 (999999 + 1) (-1) _ M1 = _
      unfold qmd_worths_L23
      rw [if_pos rfl]
    · rw [f3, if_pos ⟨by omega, hx⟩]; unfold LV; rw [if_pos rfl]
  · obtain ⟨c1, c2, c3, c4⟩ := hp.2.1 k hk
    obtain ⟨M1, f1, f2, f3, f4⟩ := c2 M' (fun c i q => e c i (by unfold rLs at q; unfold sPr; omega))
    refine ⟨M1, f1, fun x hx => ?_, f3, f4⟩
    rw [f2 x hx]; unfold LV; rw [if_neg (nI_ne_m1 (by omega)), nI_cl (by omega)]
theorem lmx_i (x y : Int64) : lmx x y = if y < x then x else y := rfl
theorem lmn_i (x y : Int64) : lmn x y = if y < x then y else x := rfl
theorem cl_eq (v : Int64) : clN v = if v < 0 then 0 else if 1000000000 < v then 1000000000 else v := by
  unfold clN
  rw [lmx_i, lmn_i]
  by_cases h : v < 0
  · rw [if_pos h, if_pos h]; rfl
  · rw [if_neg h, if_neg h]
    by_cases h2 : 1000000000 < v
    · rw [if_pos h2, if_neg (fun q => by rw [Int64.lt_iff_toInt_lt] at q h2; omega)]
    · rw [if_neg h2]
      by_cases h3 : v < 1000000000
      · rw [if_pos h3]
      · rw [if_neg h3]
        apply Int64.toInt_inj.mp
        rw [Int64.lt_iff_toInt_lt] at h2 h3
        omega
theorem bounded_g (hp : PR M V B) (w x : Nat) (hx : x < 26) (F : FA) (L : LE) (M' : SM) (e : Eq1 sPr M M') (eF : ∀ i, i < 10 → M'.2 307 i = F i) (eL : ∀ x, x < 26 → M'.2 308 x = L x) {ch : Int32} (hch : ch = nI (x + 65)) :
    ∃ M'' : SM, qmd_bounded ch (nI w) M' = some (clN (bdN M B F L w x (acM M)), M'') ∧ oL 309 M' M'' := by
  have h1 := hp.1
  have hs : ch - (65 : Int32) = nI x := by
    subst hch
    rw [show (65 : Int32) = nI 65 from rfl, nI_subN (by omega)]
    congr 1
  have key : ∀ (K : Int64 → SM → Option (Int64 × SM)) fu a (N : SM), acM M - a < fu → a ≤ acM M → oL 309 M' N → ∃ N' : SM, qmd_bounded_L13 K fu ch (nI w) (bdN M B F L w x a) (nI a) N = K (bdN M B F L w x (acM M)) N' ∧ oL 309 M' N' := by
    intro K fu
    induction fu with
    | zero => intro a N hf; omega
    | succ fu ih =>
      intro a N hf ha o
      have eN : Eq1 sPr M N := Eq1.tr e (Eq1.of1 o.1)
      have e3 : N.1 280 28 = nI (acM M) := (eN _ _ (by unfold sPr; omega)).trans h1.2.2
      unfold qmd_bounded_L13
      simp only [jn_ap]
      rw [e3]
      by_cases hlt : a < acM M
      · obtain ⟨c1, c2, c3, r1, ⟨x', hx', r2, r3⟩, r4, r5, r6⟩ := hp.2.2 a hlt
        have eb : bdN M B F L w x (a + 1) = if M.1 305 a = nI x ∧ ¬ nI w < M.1 303 a ∧ ¬ M.1 304 a < nI w then (if M.1 306 a = 0 then lmx (bdN M B F L w x a) (B a F L) else lmn (bdN M B F L w x a) (B a F L)) else bdN M B F L w x a := rfl
        have skip : ∀ N' : SM, oL 309 M' N' → ¬ (M.1 305 a = nI x ∧ ¬ nI w < M.1 303 a ∧ ¬ M.1 304 a < nI w) → ∃ N'' : SM, qmd_bounded_L13 K fu ch (nI w) (bdN M B F L w x a) (nI (a + 1)) N' = K (bdN M B F L w x (acM M)) N'' ∧ oL 309 M' N'' := fun N' o' q => by
          have := ih (a + 1) N' (by omega) (by omega) o'
          rwa [eb, if_neg q] at this
        rw [if_pos ((nI_ltI (by omega) (by omega)).mpr hlt), ck_ib (by omega) (by omega), ck_t, nI_cl (by omega), eN 305 a (by unfold sPr; omega), hs, nI_1]
        by_cases q1 : M.1 305 a = nI x
        · rw [if_pos q1, ck_ib (by omega) (by omega), ck_ib (by omega) (by omega), ck_t, eN 303 a (by unfold sPr; omega), eN 304 a (by unfold sPr; omega)]
          by_cases q2 : nI w < M.1 303 a
          · rw [md_in_f (Or.inl q2), ob_s, if_pos rfl]
            exact skip N o (fun z => z.2.1 q2)
          · by_cases q3 : M.1 304 a < nI w
            · rw [md_in_f (Or.inr q3), ob_s, if_pos rfl]
              exact skip N o (fun z => z.2.2 q3)
            · obtain ⟨N1, f1, f2, f3⟩ := c2 N (fun c i q => eN c i (by unfold rAs at q; unfold sPr; omega))
              have o1 : oL 309 M' N1 := o.tr ⟨f2, f3⟩
              rw [md_in_t q2 q3, ob_s, if_neg (by decide), ck_ib (by omega) (by omega), ck_t, show (80 : Int32) = nI 80 from rfl, nI_mul, eN 302 a (by unfold sPr; omega), f1, ob_s, ck_ib (by omega) (by omega), ck_t, f2, eN 306 a (by unfold sPr; omega)]
              have eB : B a (N.2 307) (N.2 308) = B a F L := c3 _ _ _ _ (fun i hi => by rw [o.2 _ (by omega)]; exact eF i hi) (fun y hy => by rw [o.2 _ (by omega)]; exact eL y hy)
              rw [eB, ic_gt, ic_lt]
              have := ih (a + 1) N1 (by omega) (by omega) o1
              rw [eb, if_pos ⟨q1, q2, q3⟩, lmx_i, lmn_i] at this
              by_cases q4 : M.1 306 a = 0
              · rw [if_pos q4] at this
                rw [if_pos q4]
                by_cases q5 : bdN M B F L w x a < B a F L
                · rw [if_neg (fun q => by rw [Int64.lt_iff_toInt_lt] at q q5; omega)] at this
                  rw [if_pos q5, if_neg (by decide)]
                  exact this
                · rw [if_neg q5, if_pos trivial]
                  by_cases q6 : B a F L < bdN M B F L w x a
                  · rw [if_pos q6] at this; exact this
                  · rw [if_neg q6] at this
                    have e9 : B a F L = bdN M B F L w x a := by
                      apply Int64.toInt_inj.mp
                      rw [Int64.lt_iff_toInt_lt] at q5 q6
                      omega
                    rw [e9] at this
                    exact this
              · rw [if_neg q4] at this
                rw [if_neg q4]
                by_cases q5 : B a F L < bdN M B F L w x a
                · rw [if_pos q5] at this
                  rw [if_pos q5, if_neg (by decide)]; exact this
                · rw [if_neg q5] at this
                  rw [if_neg q5, if_pos trivial]; exact this
        · rw [if_neg q1]
          exact skip N o (fun z => q1 z.1)
      · obtain rfl : a = acM M := by omega
        rw [if_neg (nI_nlt (Nat.le_refl _) (by omega))]
        exact ⟨N, rfl, o⟩
  obtain ⟨N', f1, f2⟩ := key (fun y3_27 M28 =>
  if (lg_cmp y3_27 (0 : Int64)) < 0 then
    (some ((0 : Int64), M28)) else
    (if 0 < (lg_cmp y3_27 (1000000000 : Int64)) then
      (some ((1000000000 : Int64), M28)) else
      (some (y3_27, M28)))) FU 0 M' (by unfold FU; omega) (by omega) (oL.rf _ _)
  refine ⟨N', ?_, f2⟩
  unfold qmd_bounded
  rw [hs, ck_ib (by omega) (by omega), ck_t, nI_cl (by omega), eL x hx]
  refine Eq.trans f1 ?_
  show (if lg_cmp _ 0 < 0 then _ else _) = _
  rw [ic_lt, ic_gt, cl_eq]
  by_cases q : bdN M B F L w x (acM M) < 0
  · rw [if_pos q, if_pos q]
  · rw [if_neg q, if_neg q]
    by_cases q2 : 1000000000 < bdN M B F L w x (acM M)
    · rw [if_pos q2, if_pos q2]
    · rw [if_neg q2, if_neg q2]
end
