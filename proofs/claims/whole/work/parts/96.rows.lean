/-! the frames of an order -/
section
variable {M : SM} {V : Nat → FA → LE} {B : Nat → FA → LE → Int64}
def roN (M : SM) (m : Int32) (w : Nat) : Nat → List Nat
  | 0 => []
  | f + 1 => if (roN M m w f).length < 10 ∧ M.1 184 f = m ∧ ¬ M.1 (187 + f) w = -1 then roN M m w f ++ [f] else roN M m w f
theorem roN_s (M : SM) (m : Int32) (w f : Nat) : roN M m w (f + 1) = if (roN M m w f).length < 10 ∧ M.1 184 f = m ∧ ¬ M.1 (187 + f) w = -1 then roN M m w f ++ [f] else roN M m w f := rfl
theorem roN_10 (M : SM) (m : Int32) (w : Nat) : ∀ f, (roN M m w f).length ≤ 10 ∧ ∀ x ∈ roN M m w f, x < f ∧ M.1 184 x = m ∧ ¬ M.1 (187 + x) w = -1
  | 0 => ⟨Nat.zero_le _, fun x h => by cases h⟩
  | f + 1 => by
    obtain ⟨h1, h2⟩ := roN_10 M m w f
    rw [roN_s]
    by_cases q : (roN M m w f).length < 10 ∧ M.1 184 f = m ∧ ¬ M.1 (187 + f) w = -1
    · rw [if_pos q]
      refine ⟨by rw [List.length_append, List.length_singleton]; omega, fun x hx => ?_⟩
      rcases List.mem_append.mp hx with hx | hx
      · have := h2 x hx; exact ⟨by omega, this.2⟩
      · obtain rfl := List.mem_singleton.mp hx
        exact ⟨by omega, q.2⟩
    · rw [if_neg q]
      exact ⟨h1, fun x hx => by have := h2 x hx; exact ⟨by omega, this.2⟩⟩
theorem roN_st {M : SM} {m : Int32} {w f : Nat} (h : ¬ (roN M m w f).length < 10) : ∀ d, roN M m w (f + d) = roN M m w f
  | 0 => rfl
  | d + 1 => by
    rw [← Nat.add_assoc, roN_s, roN_st h d, if_neg (fun z => h z.1)]
def gS (M : SM) (V : Nat → FA → LE) (B : Nat → FA → LE → Int64) (l : Int32) (sh nr yn pr : Nat) (M' : SM) (R : List Nat) : Prop := oG M M' ∧ M'.1 244 7 = nI R.length ∧ (∀ i x, R[i]? = some x → M'.1 245 i = nI x) ∧ ∀ i x, R[i]? = some x → ∀ k, k < 25 → M'.2 (247 + i) k = gaN M V B (nwM M) (M.1 179 0) l sh nr yn pr x k
theorem fG_L41 (ht : I_tn M) (he : I_en M) (hu : I_us M) (hp : PR M V B) {m sh nr yn pr : Nat} {l : Int32} (hl : okli M l) (e1 : M.1 244 1 = nI m) (e2 : M.1 244 2 = nI sh) (e4 : M.1 244 4 = nI nr) (e5 : M.1 244 5 = nI yn) (e6 : M.1 244 6 = nI pr) : ∀ (d fu f : Nat) (M' : SM), frM M - f = d → d < fu → f ≤ frM M → gS M V B l sh nr yn pr M' (roN M (nI m) (nwM M) f) →
    ∃ M'' : SM, qfr_fillGains_L41 fu (nI (nwM M)) (oLi l) (nI f) M' = some ((), M'') ∧ gS M V B l sh nr yn pr M'' (roN M (nI m) (nwM M) (frM M)) := by
  have fs := ht.fs
  have an := ht.nw
  intro d
  induction d with
  | zero =>
    intro fu f M' e hfu hf hs
    obtain ⟨fu, rfl⟩ : ∃ y, fu = y + 1 := ⟨fu - 1, by omega⟩
    obtain rfl : f = frM M := by omega
    refine ⟨M', ?_, hs⟩
    unfold qfr_fillGains_L41
    rw [hs.1.1 179 3 (by omega), fs.1, if_neg (nI_nlt (Nat.le_refl _) (by omega))]
  | succ d ih =>
    intro fu f M' e hfu hf hs
    obtain ⟨fu, rfl⟩ : ∃ y, fu = y + 1 := ⟨fu - 1, by omega⟩
    have hlt : f < frM M := by omega
    obtain ⟨o, s7, s45, sg⟩ := id hs
    obtain ⟨r1, r2⟩ := roN_10 M (nI m) (nwM M) f
    have ht' := ht.fr o.tn
    have f' : f < frM M' := by rw [frM_E o.tn]; exact hlt
    unfold qfr_fillGains_L41
    rw [o.1 179 3 (by omega), fs.1, if_pos ((nI_ltI (by omega) (by omega)).mpr hlt), s7]
    by_cases q10 : (roN M (nI m) (nwM M) f).length < 10
    rotate_left
    · rw [if_neg (nn_10 (by omega) (by omega))]
      refine ⟨M', rfl, ?_⟩
      have := roN_st q10 (frM M - f)
      rw [show f + (frM M - f) = frM M by omega] at this
      rw [this]; exact hs
    rw [if_pos (nl_10 q10), masterOf_g ht' f', ob_s, o.1 184 f (by omega), o.1 244 1 (by omega), e1]
    have skip : ¬ (M.1 184 f = nI m ∧ ¬ M.1 (187 + f) (nwM M) = -1) → ∃ M'' : SM, qfr_fillGains_L41 fu (nI (nwM M)) (oLi l) (nI (f + 1)) M' = some ((), M'') ∧ gS M V B l sh nr yn pr M'' (roN M (nI m) (nwM M) (frM M)) := fun q => ih fu (f + 1) M' (by omega) (by omega) (by omega) (by rw [roN_s, if_neg (fun z => q z.2)]; exact hs)
    by_cases qm : M.1 184 f = nI m
    rotate_left
    · rw [if_neg qm, nI_1]
      exact skip (fun z => qm z.1)
    rw [if_pos qm, holderAt_g ht' f' (by omega), ob_s, o.1 (187 + f) _ (by omega)]
    by_cases qh : M.1 (187 + f) (nwM M) = -1
    · rw [if_pos qh, nI_1]
      exact skip (fun z => z.2 qh)
    rw [if_neg qh]
    obtain ⟨M1, a1, a2, a3⟩ := setFacts_g ht' f' (w := nwM M) (by omega) (by rw [o.1 (187 + f) _ (by omega)]; exact qh) (M.1 179 0)
    have oc := a2.c (k := 175) (by omega)
    have o1 : oG M M1 := o.tr oc.g
    have o2 : oG M (wL M1 175 2 (Int32.toInt64 (nI sh))) := o1.tr ⟨fun _ _ _ => rfl, fun c q => by funext i; rw [wL_2, if_neg (by omega)]⟩
    obtain ⟨M3, b1, b2, b3, b4, b5⟩ := fG_L122 ht he hu hp (sh := sh) (nr := nr) (yn := yn) (pr := pr) (r := (roN M (nI m) (nwM M) f).length) hlt qh hl q10 e4 e5 e6 (K := fun y1_58 y2_59 y3_60 M61 =>
            ob (qod_addFrame y3_60 M61) (fun _ M62 =>
              qfr_fillGains_L41 fu y1_58 y2_59 (y3_60 + (1 : Int32)) M62)) 25 FU 0 (wL M1 175 2 (Int32.toInt64 (nI sh))) (by omega) (by unfold FU; omega) (by omega) o2 (by show M1.1 244 7 = _; rw [a2.1]; exact s7) (fun i hi => by
        rw [wL_2, if_neg (by omega), a3 i, if_pos (by omega), fcN_E o.tn o.en (by omega) fs.2.1]) (by rw [wL_2, if_pos ⟨rfl, rfl⟩]) (fun j hj => by omega)
    have e3 : M3.1 244 7 = nI (roN M (nI m) (nwM M) f).length := by rw [b3 244 7 (by omega)]; show M1.1 244 7 = _; rw [a2.1]; exact s7
    have hadd : qod_addFrame (nI f) M3 = some ((), wI (wI M3 245 (roN M (nI m) (nwM M) f).length (nI f)) 244 7 (nI ((roN M (nI m) (nwM M) f).length + 1))) := by
      unfold qod_addFrame
      rw [hasRoomO e3 q10, ob_s, if_neg (by decide), e3, ck_ib (by omega) (by omega), ck_t, nI_cl (by omega), nI_1]
    generalize hM4 : wI (wI M3 245 (roN M (nI m) (nwM M) f).length (nI f)) 244 7 (nI ((roN M (nI m) (nwM M) f).length + 1)) = M4 at hadd
    have g4 : ∀ c i, M4.1 c i = if c = 244 ∧ i = 7 then nI ((roN M (nI m) (nwM M) f).length + 1) else if c = 245 ∧ i = (roN M (nI m) (nwM M) f).length then nI f else M3.1 c i := fun c i => by rw [← hM4, wI_1, wI_1]
    have g42 : M4.2 = M3.2 := by rw [← hM4]; rfl
    have er : roN M (nI m) (nwM M) (f + 1) = roN M (nI m) (nwM M) f ++ [f] := by rw [roN_s, if_pos ⟨q10, qm, qh⟩]
    obtain ⟨M5, z1, z2⟩ := ih fu (f + 1) M4 (by omega) (by omega) (by omega) ⟨b2.tr ⟨fun c i q => by rw [g4, if_neg (by omega), if_neg (by omega)], fun c _ => by rw [g42]⟩, by rw [g4, if_pos ⟨rfl, rfl⟩, er, List.length_append, List.length_singleton], fun i x hx => by
        rw [er] at hx
        rcases getElem?_snoc hx with ⟨h1, h2⟩ | ⟨rfl, rfl⟩
        · rw [g4, if_neg (by omega), if_neg (by omega), b3 245 i (by omega)]
          show M1.1 245 i = _
          rw [a2.1]; exact s45 i x h2
        · rw [g4, if_neg (by omega), if_pos ⟨rfl, rfl⟩], fun i x hx k hk => by
        rw [er] at hx
        rw [g42]
        rcases getElem?_snoc hx with ⟨h1, h2⟩ | ⟨rfl, rfl⟩
        · rw [b4 (247 + i) (by omega) (by omega), wL_2, if_neg (by omega), a2.2 (247 + i) (by omega)]
          exact sg i x h2 k hk
        · exact b5 k hk⟩
    refine ⟨M5, ?_, z2⟩
    rw [a1, ob_s, show M1.1 244 2 = nI sh by rw [a2.1, o.1 244 2 (by omega)]; exact e2, setFact_g (x := 2) (k := 2) rfl (by omega), ob_s]
    refine Eq.trans b1 ?_
    rw [hadd, ob_s, nI_1]
    exact z1
theorem fillGains_g (ht : I_tn M) (he : I_en M) (hu : I_us M) (hp : PR M V B) {m sh nr yn pr : Nat} (hm : m < msM M) (e1 : M.1 244 1 = nI m) (e2 : M.1 244 2 = nI sh) (e4 : M.1 244 4 = nI nr) (e5 : M.1 244 5 = nI yn) (e6 : M.1 244 6 = nI pr) :
    ∃ M'' : SM, qfr_fillGains M = some ((), M'') ∧ gS M V B (M.1 (204 + m) (nwM M)) sh nr yn pr M'' (roN M (nI m) (nwM M) (frM M)) := by
  have an := ht.nw
  have am := ht.ms
  have fs := ht.fs
  have hl := okli_u ht hu (m := m) (w := nwM M) (by omega) (by omega)
  obtain ⟨M1, h1, h2⟩ := fG_L41 ht he hu hp hl e1 e2 e4 e5 e6 (frM M) FU 0 (wI M 244 7 (0 : Int32)) (by omega) (by unfold FU; omega) (by omega) ⟨⟨fun c i q => by rw [wI_1, if_neg (by omega)], fun _ _ => rfl⟩, by rw [wI_1, if_pos ⟨rfl, rfl⟩]; rfl, (fun i x hx => by cases hx), (fun i x hx => by cases hx)⟩
  refine ⟨M1, ?_, h2⟩
  unfold qfr_fillGains
  rw [e1, an.1, listIn_g ht hm (by omega), ob_s, listAt_o hu hl, ob_s]
  exact h1
/-! the reference -/
theorem gain_eq (a w r c : Int64) : a - w + r + c = a - (w - r - c) := by
  rw [Int64.sub_eq_add_neg, Int64.sub_eq_add_neg a, Int64.sub_eq_add_neg, Int64.sub_eq_add_neg]
  rw [Int64.neg_add, Int64.neg_add, Int64.sub_eq_add_neg, Int64.sub_eq_add_neg, Int64.neg_neg, Int64.neg_neg, Int64.add_assoc, Int64.add_assoc, Int64.add_assoc]
def oH (M M' : SM) : Prop := (∀ c i, ¬ ((c = 280 ∧ i = 75) ∨ c = 318 ∨ c = 319 ∨ c = 326) → M'.1 c i = M.1 c i) ∧ ∀ c, ¬ (c = 280 ∨ (307 ≤ c ∧ c ≤ 309) ∨ c = 328) → M'.2 c = M.2 c
theorem oH.rf (M : SM) : oH M M := ⟨fun _ _ _ => rfl, fun _ _ => rfl⟩
theorem oH.tr {M M' M'' : SM} (h : oH M M') (h2 : oH M' M'') : oH M M'' := ⟨fun c i q => (h2.1 c i q).trans (h.1 c i q), fun c q1 => (h2.2 c q1).trans (h.2 c q1)⟩
theorem oH.eq {s : Nat → Nat → Prop} {M M' : SM} (h : oH M M') (hs : ∀ c i, s c i → ¬ ((c = 280 ∧ i = 75) ∨ c = 318 ∨ c = 319 ∨ c = 326)) : Eq1 s M M' := fun c i q => h.1 c i (hs c i q)
theorem oH.tn {M M' : SM} (h : oH M M') : Eq1 sTn M M' := h.eq fun c i q => by unfold sTn at q; omega
theorem oH.en {M M' : SM} (h : oH M M') : Eq1 sEn M M' := h.eq fun c i q => by unfold sEn at q; omega
theorem oH.pr {M M' : SM} (h : oH M M') : Eq1 sPr M M' := h.eq fun c i q => by unfold sPr at q; omega
theorem oH.us {M M' : SM} (h : oH M M') : Eq1 sUs M M' := h.eq fun c i q => by unfold sUs at q; omega
theorem oM.h {M M' : SM} (h : oM M M') : oH M M' := ⟨fun c i _ => by rw [h.1], fun c q => h.2 c (by omega)⟩
theorem wG_L93 (ht : I_tn M) (he : I_en M) (hu : I_us M) (hp : PR M V B) {f m sh nr yn pr r : Nat} (hf : f < frM M) (hm : m < msM M) (hr : r < 10) (e1 : M.1 280 69 = nI m) (e2 : M.1 280 70 = nI sh) (e4 : M.1 280 72 = nI nr) (e5 : M.1 280 73 = nI yn) (e6 : M.1 280 74 = nI pr) {K : Int32 → SM → Option (Unit × SM)} : ∀ (d fu k : Nat) (M' : SM), 25 - k = d → d < fu → k ≤ 25 → oH M M' → M'.1 280 75 = nI r → (∀ i, i = 0 ∨ i = 5 ∨ i = 6 ∨ i = 8 ∨ i = 9 → M'.2 307 i = fcN M f (nwM M) (M.1 179 0) i) → (∀ j, j < k → M'.2 328 (25 * r + j) = gaN M V B (nwM M) (M.1 179 0) (M.1 (204 + m) (nwM M)) sh nr yn pr f j) →
    ∃ M'' : SM, qmd_weighs_L93 K fu (nI f) (nI (iaN M f (M.1 179 0) (nwM M))) (nI k) M' = K (nI f) M'' ∧ oH M M'' ∧ M''.1 = M'.1 ∧ (∀ i, i < 25 * r → M''.2 328 i = M'.2 328 i) ∧ ∀ j, j < 25 → M''.2 328 (25 * r + j) = gaN M V B (nwM M) (M.1 179 0) (M.1 (204 + m) (nwM M)) sh nr yn pr f j := by
  have fs := ht.fs
  have an := ht.nw
  have am := ht.ms
  have hl := okli_u ht hu (m := m) (w := nwM M) (by omega) (by omega)
  intro d
  induction d with
  | zero =>
    intro fu k M' e hfu hk o e7 hx hg
    obtain ⟨fu, rfl⟩ : ∃ y, fu = y + 1 := ⟨fu - 1, by omega⟩
    obtain rfl : k = 25 := by omega
    refine ⟨M', ?_, o, rfl, fun _ _ => rfl, hg⟩
    unfold qmd_weighs_L93
    rw [if_pos (by decide)]
  | succ d ih =>
    intro fu k M' e hfu hk o e7 hx hg
    obtain ⟨fu, rfl⟩ : ∃ y, fu = y + 1 := ⟨fu - 1, by omega⟩
    have ka : ∀ a, a ≤ 100 → k * a ≤ 24 * 100 := fun a ha => Nat.mul_le_mul (by omega) ha
    obtain ⟨v7, ev7⟩ : ∃ v7 : Int64, v7 = (if 0 < k then 0 else Int32.toInt64 (nI (iaN M f (M.1 179 0) (nwM M)))) := ⟨_, rfl⟩
    generalize hM1 : wL (wL (wL (wL (wL M' 307 1 (Int32.toInt64 (nI k))) 307 2 (Int32.toInt64 (nI sh))) 307 3 (Int32.toInt64 (nI (k * nr)))) 307 4 (Int32.toInt64 (nI (k * yn)))) 307 7 v7 = M1
    have g1 : ∀ c i, M1.2 c i = if c = 307 ∧ i = 7 then v7 else if c = 307 ∧ i = 4 then Int32.toInt64 (nI (k * yn)) else if c = 307 ∧ i = 3 then Int32.toInt64 (nI (k * nr)) else if c = 307 ∧ i = 2 then Int32.toInt64 (nI sh) else if c = 307 ∧ i = 1 then Int32.toInt64 (nI k) else M'.2 c i := fun c i => by rw [← hM1, wL_2, wL_2, wL_2, wL_2, wL_2]
    have i1 : M1.1 = M'.1 := by rw [← hM1]; rfl
    have o1 : oH M M1 := o.tr ⟨fun c i _ => by rw [i1], fun c q => by funext i; rw [g1, if_neg (by omega), if_neg (by omega), if_neg (by omega), if_neg (by omega), if_neg (by omega)]⟩
    have eF : ∀ i, i < 10 → M1.2 307 i = orF M f (nwM M) (M.1 179 0) sh nr yn k i := fun i hi => by
      rw [g1]
      unfold orF
      rcases (show i = 0 ∨ i = 1 ∨ i = 2 ∨ i = 3 ∨ i = 4 ∨ i = 5 ∨ i = 6 ∨ i = 7 ∨ i = 8 ∨ i = 9 by omega) with rfl | rfl | rfl | rfl | rfl | rfl | rfl | rfl | rfl | rfl
      · simpa using hx 0 (by omega)
      · simp
      · simp
      · simp
      · simp
      · simpa using hx 5 (by omega)
      · simpa using hx 6 (by omega)
      · simp only [ev7]; simp
      · simpa using hx 8 (by omega)
      · simpa using hx 9 (by omega)
    obtain ⟨M2, c1, c2, c3, c4, c5, c6, -⟩ := comesTo_g (ht.fr o1.tn) (hu.fr o1.us) (hp.fr hu.1.2.1 o1.pr) (f := f) (w := nwM M) (by rw [frM_E o1.tn]; exact hf) (l := M.1 (204 + m) (nwM M)) (by unfold okli; rw [lsM_E o1.pr]; exact hl) (orF M f (nwM M) (M.1 179 0) sh nr yn k) eF
    rw [wkN_E hp o1.tn o1.pr _ (by omega) _ _ (by omega)] at c4 c5 c6
    have i2 : M2.1 = M'.1 := c2.1.trans i1
    have hval : ((((Int32.toInt64 (nI k)) * (Int32.toInt64 (nI pr))) - (M2.2 280 54)) + (M2.2 280 55)) + (M2.2 280 56) = gaN M V B (nwM M) (M.1 179 0) (M.1 (204 + m) (nwM M)) sh nr yn pr f k := by
      rw [c4, c5, c6, gain_eq]; rfl
    have o2 : oH M M2 := o1.tr c2.h
    have o3 : oH M (wL M2 328 (25 * r + k) (gaN M V B (nwM M) (M.1 179 0) (M.1 (204 + m) (nwM M)) sh nr yn pr f k)) := o2.tr ⟨fun _ _ _ => rfl, fun c q => by funext i; rw [wL_2, if_neg (by omega)]⟩
    obtain ⟨M'', z1, z2, z3, z4, z5⟩ := ih fu (k + 1) _ (by omega) (by omega) (by omega) o3 (by show M2.1 280 75 = _; rw [i2]; exact e7) (fun i hi => by
        rw [wL_2, if_neg (by omega), c3, eF i (by omega)]
        unfold orF
        rw [if_neg (by omega), if_neg (by omega), if_neg (by omega), if_neg (by omega), if_neg (by omega)]) (fun j hj => by
        rw [wL_2]
        by_cases q : j = k
        · rw [if_pos ⟨rfl, by rw [q]⟩, q]
        · rw [if_neg (by omega), c2.2 328 (by omega), g1, if_neg (by omega), if_neg (by omega), if_neg (by omega), if_neg (by omega), if_neg (by omega)]
          exact hg j (by omega))
    refine ⟨M'', ?_, z2, z3.trans i2, fun i hi => ?_, z5⟩
    · have e0 : M'.1 280 0 = nI (nwM M) := by rw [o.1 280 0 (by omega)]; exact an.2.2
      have e69 : M'.1 280 69 = nI m := by rw [o.1 280 69 (by omega)]; exact e1
      have e287 : M'.1 287 (520 * m + nwM M) = M.1 (204 + m) (nwM M) := by rw [o.1 287 _ (by omega)]; exact (hu.2 m (by omega) _ (by omega)).1
      have tailE : (ck (ib 10 (7 : Int32) && (ib 3120 (((520 : Int32) * (M'.1 280 69)) + (M'.1 280 0)) && true)) (
          ob (qmd_comesTo (nI f) (M'.1 280 0) (M'.1 287 (Int32.toNatClampNeg (((520 : Int32) * (M'.1 280 69)) + (M'.1 280 0)))) M1) (fun _ M22 =>
          ck (ib 250 (((25 : Int32) * (M22.1 280 75)) + nI k) && true) (
          qmd_weighs_L93 K fu (nI f) (nI (iaN M f (M.1 179 0) (nwM M))) (nI k + (1 : Int32)) (wL M22 328 (Int32.toNatClampNeg (((25 : Int32) * (M22.1 280 75)) + nI k)) (((((Int32.toInt64 (nI k)) * (Int32.toInt64 (M22.1 280 74))) - (M22.2 280 54)) + (M22.2 280 55)) + (M22.2 280 56))))))) = K (nI f) M'' := by
        rw [e69, e0, show (520 : Int32) = nI 520 from rfl, nI_mul, nI_add, show (7 : Int32) = nI 7 from rfl, ck_ib (by omega) (by omega), ck_ib (by omega) (by omega), ck_t, nI_cl (by omega), e287, c1, ob_s, i2, e7, show (25 : Int32) = nI 25 from rfl, nI_mul, nI_add, ck_ib (by omega) (by omega), ck_t, nI_cl (by omega), show M'.1 280 74 = nI pr by rw [o.1 280 74 (by omega)]; exact e6, hval, nI_1]
        exact z1
      have four : ck (ib 10 (1 : Int32) && (ib 10 (2 : Int32) && (ib 10 (3 : Int32) && (ib 10 (4 : Int32) && true)))) (some ((), M)) = some ((), M) := rfl
      unfold qmd_weighs_L93
      simp only [jn_ap]
      rw [if_neg (show ¬ (24 : Int32) < nI k from nI_nlt (a := 24) (b := k) (by omega) (by omega)), ckb (b := (ib 10 (1 : Int32) && (ib 10 (2 : Int32) && (ib 10 (3 : Int32) && (ib 10 (4 : Int32) && true))))) (by decide), show M'.1 280 70 = nI sh by rw [o.1 280 70 (by omega)]; exact e2, show M'.1 280 72 = nI nr by rw [o.1 280 72 (by omega)]; exact e4, show M'.1 280 73 = nI yn by rw [o.1 280 73 (by omega)]; exact e5, nI_mul, nI_mul]
      by_cases q : 0 < k
      · rw [if_pos (show (0 : Int32) < nI k from (nI_ltI (a := 0) (by omega) (by omega)).mpr q)]
        rw [if_pos q] at ev7
        subst ev7
        rw [← hM1] at tailE
        exact tailE
      · rw [if_neg (show ¬ (0 : Int32) < nI k from fun z => q ((nI_ltI (a := 0) (by omega) (by omega)).mp z))]
        rw [if_neg q] at ev7
        subst ev7
        rw [← hM1] at tailE
        exact tailE
    · rw [z4 i hi, wL_2, if_neg (by omega), c2.2 328 (by omega), g1, if_neg (by omega), if_neg (by omega), if_neg (by omega), if_neg (by omega), if_neg (by omega)]
def hSt (M : SM) (V : Nat → FA → LE) (B : Nat → FA → LE → Int64) (l : Int32) (sh nr yn pr : Nat) (M' : SM) (R : List Nat) : Prop := oH M M' ∧ M'.1 280 75 = nI R.length ∧ (∀ i x, R[i]? = some x → M'.1 326 i = nI x) ∧ ∀ i x, R[i]? = some x → ∀ k, k < 25 → M'.2 328 (25 * i + k) = gaN M V B (nwM M) (M.1 179 0) l sh nr yn pr x k
theorem wG_L7 (ht : I_tn M) (he : I_en M) (hu : I_us M) (hp : PR M V B) {m sh nr yn pr : Nat} (hm : m < msM M) (e1 : M.1 280 69 = nI m) (e2 : M.1 280 70 = nI sh) (e4 : M.1 280 72 = nI nr) (e5 : M.1 280 73 = nI yn) (e6 : M.1 280 74 = nI pr) : ∀ (d fu f : Nat) (M' : SM), frM M - f = d → d < fu → f ≤ frM M → hSt M V B (M.1 (204 + m) (nwM M)) sh nr yn pr M' (roN M (nI m) (nwM M) f) →
    ∃ M'' : SM, qmd_weighs_L7 fu (nI f) M' = some ((), M'') ∧ hSt M V B (M.1 (204 + m) (nwM M)) sh nr yn pr M'' (roN M (nI m) (nwM M) (frM M)) := by
  have fs := ht.fs
  have an := ht.nw
  intro d
  induction d with
  | zero =>
    intro fu f M' e hfu hf hs
    obtain ⟨fu, rfl⟩ : ∃ y, fu = y + 1 := ⟨fu - 1, by omega⟩
    obtain rfl : f = frM M := by omega
    refine ⟨M', ?_, hs⟩
    unfold qmd_weighs_L7
    rw [hs.1.1 280 3 (by omega), fs.2.2, if_neg (nI_nlt (Nat.le_refl _) (by omega))]
  | succ d ih =>
    intro fu f M' e hfu hf hs
    obtain ⟨fu, rfl⟩ : ∃ y, fu = y + 1 := ⟨fu - 1, by omega⟩
    have hlt : f < frM M := by omega
    obtain ⟨o, s7, s45, sg⟩ := id hs
    obtain ⟨r1, r2⟩ := roN_10 M (nI m) (nwM M) f
    have ht' := ht.fr o.tn
    have f' : f < frM M' := by rw [frM_E o.tn]; exact hlt
    obtain ⟨b1, b2, b3, -, -⟩ := ht.fa f hlt
    unfold qmd_weighs_L7
    rw [o.1 280 3 (by omega), fs.2.2, if_pos ((nI_ltI (by omega) (by omega)).mpr hlt), s7]
    by_cases q10 : (roN M (nI m) (nwM M) f).length < 10
    rotate_left
    · rw [if_neg (nn_10 (by omega) (by omega))]
      refine ⟨M', rfl, ?_⟩
      have := roN_st q10 (frM M - f)
      rw [show f + (frM M - f) = frM M by omega] at this
      rw [this]; exact hs
    rw [if_pos (nl_10 q10), ck_ib (by omega) (by omega), ck_t, nI_cl (by omega), o.1 284 f (by omega), b2, o.1 280 69 (by omega), e1]
    have skip : ¬ (M.1 184 f = nI m ∧ ¬ M.1 (187 + f) (nwM M) = -1) → ∃ M'' : SM, qmd_weighs_L7 fu (nI (f + 1)) M' = some ((), M'') ∧ hSt M V B (M.1 (204 + m) (nwM M)) sh nr yn pr M'' (roN M (nI m) (nwM M) (frM M)) := fun q => ih fu (f + 1) M' (by omega) (by omega) (by omega) (by rw [roN_s, if_neg (fun z => q z.2)]; exact hs)
    by_cases qm : M.1 184 f = nI m
    rotate_left
    · rw [if_neg qm, nI_1]
      exact skip (fun z => qm z.1)
    rw [if_pos qm, o.1 280 0 (by omega), an.2.2, hirerOf_g ht' f' (by omega), ob_s, o.1 (187 + f) _ (by omega)]
    by_cases qh : M.1 (187 + f) (nwM M) = -1
    · rw [if_pos qh, nI_1]
      exact skip (fun z => z.2 qh)
    rw [if_neg qh, s7, ck_ib (by omega) (by omega), ck_t, nI_cl (by omega), o.1 280 0 (by omega), an.2.2]
    generalize hR : roN M (nI m) (nwM M) f = R at *
    generalize hM1 : wI M' 326 R.length (nI f) = M1
    have g1 : ∀ c i, M1.1 c i = if c = 326 ∧ i = R.length then nI f else M'.1 c i := fun c i => by rw [← hM1, wI_1]
    have g12 : M1.2 = M'.2 := by rw [← hM1]; rfl
    have o1 : oH M M1 := o.tr ⟨fun c i q => by rw [g1, if_neg (by omega)], fun c _ => by rw [g12]⟩
    have ht1 := ht.fr o1.tn
    have he1 := he.fr o1.en
    have f1 : f < frM M1 := by rw [frM_E o1.tn]; exact hlt
    obtain ⟨M2, p1, p2, p3, p4, p5⟩ := goesThrough_g ht1 he1 f1 (nI (nwM M))
    have o2 : oH M M2 := o1.tr ⟨fun c i q => p3 c i (by omega) (by omega), fun c _ => by rw [p2]⟩
    have hid := idleAnew_g (M := M2) ht1 f1 (w := nwM M) (t := nI (nwM M)) (by omega) p3 (fun j hj => p5 j (by omega))
    rw [iaN_E o1.tn o1.en (by omega)] at hid
    have ht2 := ht.fr o2.tn
    obtain ⟨M3, u1, u2, u3⟩ := setsFacts_g ht2 (f := f) (w := nwM M) (by rw [frM_E o2.tn]; exact hlt) (by omega) (by rw [o2.1 (187 + f) _ (by omega)]; exact qh) (M.1 179 0)
    have o3 : oH M M3 := o2.tr (u2.m (k := 307) (by omega)).h
    have e75 : M3.1 280 75 = nI R.length := by rw [u2.1, p3 280 75 (by omega) (by omega), g1, if_neg (by omega)]; exact s7
    obtain ⟨M4, v1, v2, v3, v4, v5⟩ := wG_L93 ht he hu hp (f := f) (m := m) (sh := sh) (nr := nr) (yn := yn) (pr := pr) (r := R.length) hlt hm q10 e1 e2 e4 e5 e6 (K := fun y1_29 M30 => qmd_weighs_L7 fu (y1_29 + (1 : Int32)) (wI M30 280 75 ((M30.1 280 75) + (1 : Int32)))) 25 FU 0 M3 (by omega) (by unfold FU; omega) (by omega) o3 e75 (fun i hi => by rw [u3 i, if_pos hi, fcN_E o2.tn o2.en (by omega) fs.2.1]) (fun j hj => by omega)
    have e75' : M4.1 280 75 = nI R.length := by rw [v3]; exact e75
    have er : roN M (nI m) (nwM M) (f + 1) = R ++ [f] := by rw [roN_s, hR, if_pos ⟨q10, qm, qh⟩]
    generalize hM5 : wI M4 280 75 (nI (R.length + 1)) = M5
    have g5 : ∀ c i, M5.1 c i = if c = 280 ∧ i = 75 then nI (R.length + 1) else M4.1 c i := fun c i => by rw [← hM5, wI_1]
    have g52 : M5.2 = M4.2 := by rw [← hM5]; rfl
    obtain ⟨M6, z1, z2⟩ := ih fu (f + 1) M5 (by omega) (by omega) (by omega) ⟨v2.tr ⟨fun c i q => by rw [g5, if_neg (by omega)], fun c _ => by rw [g52]⟩, by rw [g5, if_pos ⟨rfl, rfl⟩, er, List.length_append, List.length_singleton], fun i x hx => by
        rw [er] at hx
        have e326 : M5.1 326 i = M1.1 326 i := by rw [g5, if_neg (by omega), v3, u2.1, p3 326 i (by omega) (by omega)]
        rw [e326, g1]
        rcases getElem?_snoc hx with ⟨h1, h2⟩ | ⟨rfl, rfl⟩
        · rw [if_neg (by omega)]; exact s45 i x h2
        · rw [if_pos ⟨rfl, rfl⟩], fun i x hx k hk => by
        rw [er] at hx
        rw [g52]
        rcases getElem?_snoc hx with ⟨h1, h2⟩ | ⟨rfl, rfl⟩
        · rw [v4 _ (by omega), u2.2 328 (by omega), p2, g12]
          exact sg i x h2 k hk
        · exact v5 k hk⟩
    refine ⟨M6, ?_, z2⟩
    have hgt : qmd_goesThrough (nI f) (nI (nwM M)) M1 = some ((), M2) := p1
    rw [hgt, ob_s, show M2.1 280 0 = nI (nwM M) by rw [o2.1 280 0 (by omega)]; exact an.2.2, hid, ob_s, show M2.1 280 0 = nI (nwM M) by rw [o2.1 280 0 (by omega)]; exact an.2.2, u1, ob_s]
    rw [an.1] at v1
    refine Eq.trans v1 ?_
    rw [e75', nI_1, nI_1, hM5]
    exact z1
theorem weighs_g (ht : I_tn M) (he : I_en M) (hu : I_us M) (hp : PR M V B) {m sh nr yn pr : Nat} (hm : m < msM M) (e1 : M.1 280 69 = nI m) (e2 : M.1 280 70 = nI sh) (e4 : M.1 280 72 = nI nr) (e5 : M.1 280 73 = nI yn) (e6 : M.1 280 74 = nI pr) :
    ∃ M'' : SM, qmd_weighs M = some ((), M'') ∧ hSt M V B (M.1 (204 + m) (nwM M)) sh nr yn pr M'' (roN M (nI m) (nwM M) (frM M)) := by
  have fs := ht.fs
  exact wG_L7 ht he hu hp hm e1 e2 e4 e5 e6 (frM M) FU 0 (wI M 280 75 (0 : Int32)) (by omega) (by unfold FU; omega) (by omega) ⟨⟨fun c i q => by rw [wI_1, if_neg (by omega)], fun _ _ => rfl⟩, by rw [wI_1, if_pos ⟨rfl, rfl⟩]; rfl, (fun i x hx => by cases hx), (fun i x hx => by cases hx)⟩
end
