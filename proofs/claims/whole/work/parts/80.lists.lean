/-! a list's text on both sides -/
def mM (M : SM) (fs : List FE) (ds : List yL) : Prop := rA M ds.flatten ∧ M.1 280 20 = nI fs.length ∧ (∀ k t, fs[k]? = some t → M.1 292 k = nI t.1 ∧ M.1 293 k = nI t.2.1) ∧ (0 < fs.length → ∀ k, k ≤ fs.length → M.1 294 k = nI (ds.take k).flatten.length)
def gOk (fs : List FE) (ds : List yL) (p : Nat) : Prop := ds.length = fs.length ∧ ds.flatten.length ≤ p ∧ ∀ k t c, fs[k]? = some t → ds[k]? = some c → yCp (ds.take k).flatten.length c t.2.2
def rlR (c i : Nat) : Prop := rpR c i ∨ (c = 280 ∧ i = 20) ∨ (292 ≤ c ∧ c ≤ 294)
def flt (M : SM) (g : Nat × Nat) : Prop := M.1 280 16 = ((-1000 : Int32) * nI g.1) - nI g.2
theorem tE.frA {M M' : SM} {sg : Nat → Nat} {n s : Nat} (hs : 15 ≤ s) (h : tE M sg n) (o : Ou (rdA s) M M') : tE M' sg n := by
  obtain ⟨⟨T, h1, h2, h3⟩, h4⟩ := h
  exact ⟨⟨T, by rw [o.1 1 1 (by unfold rdA; omega)]; exact h1, h2, h3⟩, fun p hp => by rw [o.1 2 p (by unfold rdA; omega)]; exact h4 p hp⟩
theorem tR.frL {M M' : SM} {sg : Nat → Nat} {n : Nat} (h : tR M sg n) (o : Ou rlR M M') : tR M' sg n := ⟨h.1, fun p hp => by rw [o.1 289 p (by unfold rlR rpR; omega)]; exact h.2 p hp⟩
theorem rpR_L {c i : Nat} (h : rpR c i) : rlR c i := Or.inl h
section
variable {sg : Nat → Nat} {n s z : Nat}
theorem next_fl {M : SM} {g : Nat × Nat} (h : cFl M s n g) : qrd_next M = some (-1, M) := by
  unfold qrd_next
  rw [if_neg (fault_ne h.2.2.1.1 h.2.2.1.2.1 h.2.2.1.2.2)]
theorem end_fl {M : SM} {g : Nat × Nat} (h : cFl M s n g) : qrd_expectEnd M = some ((), M) := by
  unfold qrd_expectEnd qrd_fail
  rw [if_neg (fault_ne h.2.2.1.1 h.2.2.1.2.1 h.2.2.1.2.2), ob_s]
  split <;> rfl
theorem end_at {M : SM} {p : Nat} (hp : p ≤ n) (hn : n ≤ 200) (hs : 15 ≤ s) (h : cSh M s n p) : ∃ M' : SM, qrd_expectEnd M = some ((), M') ∧ Ou (rdA s) M M' ∧ (if p < n then cFl M' s n (1, p) else M' = M) := by
  obtain ⟨a1, a2, a3, a4⟩ := h
  unfold qrd_expectEnd
  rw [a3, a2]
  by_cases q : p < n
  · refine ⟨wI (wI M 3 4 (nI 1)) 3 5 (nI p), ?_, ((Ou.rf _ _).wI (by unfold rdA; omega)).wI (by unfold rdA; omega), ?_⟩
    · rw [if_pos ((nI_ltI (by omega) (by omega)).mpr q)]
      unfold qrd_fail; rw [if_pos a4, a3, ob_s]; rfl
    · rw [if_pos q]
      refine ⟨?_, ?_, ⟨Nat.le_refl _, by show 1 ≤ 9; omega, ?_⟩, ?_⟩
      · rw [wI_1, if_neg (by omega), wI_1, if_neg (by omega)]; exact a1
      · rw [wI_1, if_neg (by omega), wI_1, if_neg (by omega)]; exact a2
      · rw [wI_1, if_neg (by omega), wI_1, if_pos (by omega)]
      · rw [wI_1, if_pos ⟨rfl, rfl⟩]
  · rw [if_neg (nI_nlt (by omega) (by omega))]
    exact ⟨M, rfl, Ou.rf _ _, by rw [if_neg q]⟩
theorem readListL_g (hK : shK s z) (hnz : n ≤ z) (hE : ∀ p, n ≤ p → sg p = 999) (h256 : ∀ p, p < n → sg p < 256) {K2 : SM → Option (Int32 × SM)} : ∀ (k fu i p : Nat) (M : SM) (fs : List FE), n - p < k → n - i < fu → i ≤ p → tE M sg n → p ≤ n → cSh M s n p → cM M s fs → fOk fs p →
    ∃ M' : SM, ob (qrd_formula M) (fun _ M4 => qrd_readList_L12 (fun M15 => ob (qrd_expectEnd M15) (fun _ M16 => K2 M16)) fu (nI i) M4) = K2 M' ∧ Ou (rdA s) M M' ∧ match yLs sg n k fs p with
      | Sum.inl g => cFl M' s n g
      | Sum.inr fs' => cSh M' s n n ∧ cM M' s fs' ∧ fOk fs' n := by
  have hs := hK.1
  have hz := hK.2.2.1
  intro k
  induction k with
  | zero => intro fu i p M fs h; omega
  | succ k ih =>
    intro fu i p M fs hk hfu hip ht hp hc hm hf
    obtain ⟨fu, rfl⟩ : ∃ y, fu = y + 1 := ⟨fu - 1, by omega⟩
    obtain ⟨M1, x1, x2, x3⟩ := formula_g hK hnz hE h256 ht hp hc hm hf
    have eq : yLs sg n (k + 1) fs p = (match yNm sg n (fs.map (fun t => t.1)) p with
    | Sum.inl g => Sum.inl g
    | Sum.inr r => if sg r.1 = 59 then yLs sg n k (fs ++ [(sg p - 65, p, r.2)]) (r.1 + 1) else if r.1 < n then Sum.inl (1, r.1) else Sum.inr (fs ++ [(sg p - 65, p, r.2)])) := rfl
    rw [x1, ob_s, eq]
    have un : qrd_readList_L12 (fun M15 => ob (qrd_expectEnd M15) (fun _ M16 => K2 M16)) (fu + 1) (nI i) M1 = if nI i < (M1.1 3 2) then
    (ob (qrd_next M1) (fun r7 M8 =>
      if r7 = (59 : Int32) then
      (ob (qrd_formula (wI M8 3 3 ((M8.1 3 3) + (1 : Int32)))) (fun _ M10 =>
        qrd_readList_L12 (fun M15 => ob (qrd_expectEnd M15) (fun _ M16 => K2 M16)) fu (nI i + (1 : Int32)) M10)) else
      (ob (qrd_expectEnd M8) (fun _ M16 => K2 M16)))) else
    (ob (qrd_expectEnd M1) (fun _ M16 => K2 M16)) := rfl
    rw [un]
    cases hnm : yNm sg n (fs.map (fun t => t.1)) p with
    | inl g =>
      rw [hnm] at x3
      refine ⟨M1, ?_, x2, x3⟩
      by_cases q : nI i < M1.1 3 2
      · rw [if_pos q, next_fl x3, ob_s, if_neg (by decide), end_fl x3, ob_s]
      · rw [if_neg q, end_fl x3, ob_s]
    | inr r =>
      rw [hnm] at x3
      obtain ⟨y1, y2, y3, y4, y5⟩ := x3
      have t1 := ht.frA hs x2
      have hok : cOk (sg r.1) := by
        by_cases q : r.1 < n
        · exact Or.inr (h256 _ q)
        · exact Or.inl (hE _ (by omega))
      dsimp only
      rw [y3.2.1, if_pos ((nI_ltI (by omega) (by omega)).mpr (show i < n by omega)), next_g hE h256 t1 y2 y3, ob_s, iSg (K := (59 : Int32)) hok 59 (by omega) rfl]
      by_cases q59 : sg r.1 = 59
      · have hlt : r.1 < n := y_lt hE (by omega)
        rw [if_pos q59, if_pos q59, nI_1, y3.2.2.1, nI_1]
        have o1 : Ou (rdA s) M1 (wI M1 3 3 (nI (r.1 + 1))) := (Ou.rf _ _).wI (by unfold rdA; omega)
        have e1 : ∀ c i, ¬ (c = 3) → (wI M1 3 3 (nI (r.1 + 1))).1 c i = M1.1 c i := fun c i q => by rw [wI_1, if_neg (fun z => q z.1)]
        obtain ⟨M', z1, z2, z3⟩ := ih fu (i + 1) (r.1 + 1) (wI M1 3 3 (nI (r.1 + 1))) (fs ++ [(sg p - 65, p, r.2)]) (by omega) (by omega) (by omega) (t1.frA hs o1) (by omega) ⟨by rw [wI_1, if_neg (by omega)]; exact y3.1, by rw [wI_1, if_neg (by omega)]; exact y3.2.1, by rw [wI_1, if_pos ⟨rfl, rfl⟩], by rw [wI_1, if_neg (by omega)]; exact y3.2.2.2⟩ ⟨⟨by rw [e1 _ _ (by omega)]; exact y4.1.1, fun i t hi => by rw [e1 _ _ (by omega), e1 _ _ (by omega)]; exact y4.1.2 i t hi⟩, by rw [e1 _ _ (by omega)]; exact y4.2.1, fun k t hk => by rw [e1 _ _ (by omega), e1 _ _ (by omega), e1 _ _ (by omega), e1 _ _ (by omega)]; exact y4.2.2 k t hk⟩ ⟨y5.1, y5.2.1, y5.2.2.1, by have := y5.2.2.2; omega⟩
        exact ⟨M', z1, (x2.tr o1).tr z2, z3⟩
      · rw [if_neg q59, if_neg q59]
        obtain ⟨M2, z1, z2, z3⟩ := end_at y2 (by omega) hs y3
        rw [z1, ob_s]
        refine ⟨M2, rfl, x2.tr z2, ?_⟩
        by_cases q : r.1 < n
        · rw [if_pos q] at z3 ⊢; exact z3
        · rw [if_neg q] at z3 ⊢
          obtain rfl : r.1 = n := by omega
          rw [z3]
          exact ⟨y3, y4, y5⟩
theorem hasSaid_g {M : SM} {fs : List FE} (h2 : M.1 280 20 = nI fs.length) (h3 : ∀ k t, fs[k]? = some t → M.1 292 k = nI t.1 ∧ M.1 293 k = nI t.2.1) (h10 : fs.length ≤ 10) (hx : ∀ t ∈ fs, t.1 < 26) {x : Nat} (hx26 : x < 26) : ∀ fu i, fs.length - i < fu → i ≤ fs.length → (∀ k t, k < i → fs[k]? = some t → t.1 ≠ x) → qmd_hasSaid_L2 fu (nI x) (nI i) M = some (if x ∈ fs.map (fun t => t.1) then 1 else 0, M) := by
  intro fu
  induction fu with
  | zero => intro i h; omega
  | succ fu ih =>
    intro i hf hi hno
    unfold qmd_hasSaid_L2
    rw [h2]
    by_cases q : i < fs.length
    · obtain ⟨t, ht⟩ : ∃ t, fs[i]? = some t := ⟨fs[i], List.getElem?_eq_getElem q⟩
      have hmem := List.mem_of_getElem? ht
      obtain ⟨e1, -⟩ := h3 i t ht
      have := hx t hmem
      rw [if_pos ((nI_ltI (by omega) (by omega)).mpr q), ck_ib (by omega) (by omega), ck_t, nI_cl (by omega), e1]
      by_cases q2 : t.1 = x
      · rw [if_pos (by rw [q2]), if_pos (List.mem_map.mpr ⟨t, hmem, q2⟩)]
      · rw [if_neg (fun v => q2 (nI_inj (by omega) (by omega) v)), nI_1]
        refine ih (i + 1) (by omega) (by omega) (fun k u hk hu => ?_)
        by_cases q3 : k = i
        · subst q3
          rw [ht] at hu
          obtain rfl := Option.some.inj hu
          exact q2
        · exact hno k u (by omega) hu
    · rw [if_neg (nI_nlt (by omega) (by omega)), if_neg]
      intro hm
      obtain ⟨t, ht, e⟩ := List.mem_map.mp hm
      obtain ⟨k, hk⟩ := List.getElem?_of_mem ht
      have hk2 : k < fs.length := by
        by_cases z : k < fs.length
        · exact z
        · rw [List.getElem?_eq_none (by omega)] at hk; cases hk
      exact hno k t (by omega) hk e
theorem readsNamed_g (hE : ∀ p, n ≤ p → sg p = 999) (h256 : ∀ p, p < n → sg p < 256) {M : SM} {p : Nat} {fs : List FE} {ds : List yL} (ht : tR M sg n) (hp : p ≤ n) (h14 : M.1 280 14 = nI p) (h15 : M.1 280 15 = nI n) (hm : mM M fs ds) (hf : fOk fs p) (hg : gOk fs ds p) :
    ∃ r M', qmd_readsNamed M = some (r, M') ∧ Ou rlR M M' ∧ match yNm sg n (fs.map (fun t => t.1)) p with
      | Sum.inl g => r = 0 ∧ flt M' g
      | Sum.inr r0 => p < r0.1 ∧ r0.1 ≤ n ∧ ((r = 0 ∧ flt M' (1, r0.1) ∧ sg r0.1 ≠ 59 ∧ r0.1 < n) ∨ (r = 1 ∧ M'.1 280 14 = nI r0.1 ∧ M'.1 280 15 = nI n ∧ ∃ ds', mM M' (fs ++ [(sg p - 65, p, r0.2)]) ds' ∧ gOk (fs ++ [(sg p - 65, p, r0.2)]) ds' r0.1)) := by
  have hn := ht.1
  obtain ⟨f10, f26, fnd, fl⟩ := id hf
  obtain ⟨m1, m2, m3, m4⟩ := id hm
  obtain ⟨g1, g2, g3⟩ := id hg
  have hok : cOk (sg p) := by
    by_cases q : p < n
    · exact Or.inr (h256 p q)
    · exact Or.inl (hE p (by omega))
  have hsg := sign_g hE h256 ht hp h14 h15
  have bad : ∀ (kk q : Nat) (M' : SM), M'.1 280 14 = nI q → Ou rlR M M' → ∃ r M2, zw (nI kk) M' = some (r, M2) ∧ Ou rlR M M2 ∧ r = 0 ∧ flt M2 (kk, q) := fun kk q M' e o1 => by
    obtain ⟨r, M2, z1, z2, z3⟩ := rOut_w (n := n) (M := M) (k := kk) e
    exact ⟨r, M2, z1, o1.tr (z3.mono (fun c i q => rpR_L q)), z2.1, z2.2⟩
  unfold qmd_readsNamed yNm
  rw [hsg, ob_s, isLm_g hok, ob_s]
  by_cases q1 : yLt (sg p) = true
  · have hle := yLt_iff.mp q1
    have hlt : p < n := y_lt hE (by omega)
    have e65 : sv (sg p) - (65 : Int32) = nI (sg p - 65) := by rw [sv_n (by omega), show (65 : Int32) = nI 65 from rfl, nI_subN (by omega)]
    have hhs : qmd_hasSaid (nI (sg p - 65)) M = some (if (sg p - 65) ∈ fs.map (fun t => t.1) then 1 else 0, M) := hasSaid_g m2 m3 f10 f26 (x := sg p - 65) (by omega) FU 0 (by unfold FU; omega) (by omega) (fun k t hk => by omega)
    rw [if_pos q1, if_neg (by decide), if_pos q1, hsg, ob_s, e65, hhs, ob_s]
    by_cases q2 : (sg p - 65) ∈ fs.map (fun t => t.1)
    · rw [if_pos q2, if_neg (by decide), if_pos q2]
      exact bad 3 p M h14 (Ou.rf _ _)
    · rw [if_neg q2, if_pos rfl, if_neg q2, List.length_map, m2]
      by_cases q3 : fs.length = 10
      · rw [if_pos q3, if_pos (by rw [q3]; rfl)]
        exact bad 4 p M h14 (Ou.rf _ _)
      · rw [if_neg q3, if_neg (show ¬ nI fs.length = (10 : Int32) from fun z => q3 (nI_inj (b := 10) (by omega) (by omega) z)), hsg, ob_s, e65, m2, ck_ib (by omega) (by omega), ck_ib (by omega) (by omega), ck_ib (by omega) (by omega), ck_t, nI_cl (by omega), h14, nI_1, m1.1]
        generalize hM1 : wI (wI (wI (wI M 292 fs.length (nI (sg p - 65))) 293 fs.length (nI p)) 294 fs.length (nI ds.flatten.length)) 280 14 (nI (p + 1)) = M1
        have g : ∀ c i, M1.1 c i = if c = 280 ∧ i = 14 then nI (p + 1) else if c = 294 ∧ i = fs.length then nI ds.flatten.length else if c = 293 ∧ i = fs.length then nI p else if c = 292 ∧ i = fs.length then nI (sg p - 65) else M.1 c i := fun c i => by rw [← hM1, wI_1, wI_1, wI_1, wI_1]
        have o1 : Ou (fun c i => (c = 280 ∧ i = 14) ∨ (292 ≤ c ∧ c ≤ 294)) M M1 := ⟨fun c i q => by rw [g, if_neg (by omega), if_neg (by omega), if_neg (by omega), if_neg (by omega)], by rw [← hM1]; rfl⟩
        have o1' : Ou rlR M M1 := o1.mono (fun c i z => by unfold rlR rpR; omega)
        have t1 := ht.frL o1'
        have hok1 : cOk (sg (p + 1)) := by
          by_cases q : p + 1 < n
          · exact Or.inr (h256 _ q)
          · exact Or.inl (hE _ (by omega))
        have e14 : M1.1 280 14 = nI (p + 1) := by rw [g, if_pos ⟨rfl, rfl⟩]
        have e15 : M1.1 280 15 = nI n := by rw [o1.1 280 15 (by omega)]; exact h15
        rw [sign_g hE h256 t1 (by omega) e14 e15, ob_s, iSg (K := (61 : Int32)) hok1 61 (by omega) rfl]
        by_cases q4 : sg (p + 1) = 61
        · have hlt2 : p + 1 < n := y_lt hE (by omega)
          rw [if_pos q4, if_pos q4, e14, nI_1]
          have o2 : Ou (fun c i => (c = 280 ∧ i = 14) ∨ (292 ≤ c ∧ c ≤ 294)) M (wI M1 280 14 (nI (p + 1 + 1))) := o1.wI (by omega)
          have o2' : Ou rlR M (wI M1 280 14 (nI (p + 1 + 1))) := o2.mono (fun c i z => by unfold rlR rpR; omega)
          obtain ⟨r, M2, z1, z2, z3⟩ := readsFormula_g hE h256 (p := p + 2) (cs := ds.flatten) (ht.frL o2') (by omega) (by rw [wI_1, if_pos ⟨rfl, rfl⟩]) (by rw [o2.1 280 15 (by omega)]; exact h15) (m1.fr o2 (fun c i z => by omega)) (by omega)
          have o3 : Ou rlR M M2 := o2'.tr (z3.mono (fun c i q => rpR_L q))
          rw [z1, ob_s]
          obtain ⟨s1, s2⟩ := yCh_S hE 10 0 (by omega) (by omega) (p + 2) [] ds.flatten (by omega) yTL_nil rfl
          cases hch : yCh sg n 10 0 (p + 2) with
          | inl gg =>
            rw [s1 gg hch] at z2
            obtain ⟨w1, w2⟩ := z2
            rw [if_pos w1]
            exact ⟨0, M2, rfl, o3, rfl, w2⟩
          | inr r0 =>
            obtain ⟨d1, d2, d3, d4, code, d5, d6, d7, d8⟩ := s2 r0 hch
            rw [d5] at z2
            have eln : yLn [] (ds.flatten ++ code) 0 = ([], ds.flatten ++ code, 0) := rfl
            rw [eln] at z2
            have badq : sg r0.1 ≠ 59 → sg r0.1 ≠ 999 → rOut n r M2 (Sum.inl (1, r0.1)) → ∃ r' M', (if r = 0 then (some ((0 : Int32), M2)) else
          (ck (ib 11 ((M2.1 280 20) + (1 : Int32)) && true) (
            some ((1 : Int32), (wI (wI M2 280 20 ((M2.1 280 20) + (1 : Int32))) 294 (Int32.toNatClampNeg ((M2.1 280 20) + (1 : Int32))) (M2.1 280 18)))))) = some (r', M') ∧ Ou rlR M M' ∧ p < r0.1 ∧ r0.1 ≤ n ∧ ((r' = 0 ∧ flt M' (1, r0.1) ∧ sg r0.1 ≠ 59 ∧ r0.1 < n) ∨ (r' = 1 ∧ M'.1 280 14 = nI r0.1 ∧ M'.1 280 15 = nI n ∧ ∃ ds', mM M' (fs ++ [(sg p - 65, p, r0.2)]) ds' ∧ gOk (fs ++ [(sg p - 65, p, r0.2)]) ds' r0.1)) := fun a1 a2 a3 => by
              obtain ⟨w1, w2⟩ := a3
              rw [if_pos w1]
              exact ⟨0, M2, rfl, o3, by omega, d2, Or.inl ⟨rfl, w2, a1, y_lt hE a2⟩⟩
            dsimp only
            by_cases q63 : sg r0.1 = 63
            · rw [if_pos q63] at z2
              exact badq (by omega) (by omega) z2
            · rw [if_neg q63] at z2
              unfold yRu at z2
              by_cases q41 : sg r0.1 = 41
              · rw [if_pos q41] at z2
                exact badq (by omega) (by omega) z2
              · rw [if_neg q41] at z2
                by_cases q58 : sg r0.1 = 58
                · rw [if_pos q58] at z2
                  exact badq (by omega) (by omega) z2
                · rw [if_neg q58] at z2
                  obtain ⟨w1, w2⟩ := z2
                  obtain ⟨u1, u2, u3, u4, u5, u6⟩ := w2
                  have e20 : M2.1 280 20 = nI fs.length := by rw [z3.1 280 20 (by unfold rpR; omega), o2.1 280 20 (by omega)]; exact m2
                  rw [if_neg (by rw [w1]; decide), e20, nI_1, ck_ib (by omega) (by omega), ck_t, nI_cl (by omega), u4.1]
                  have oF : Ou rlR M2 (wI (wI M2 280 20 (nI (fs.length + 1))) 294 (fs.length + 1) (nI (ds.flatten ++ code).length)) := ((Ou.rf _ _).wI (by unfold rlR; omega)).wI (by unfold rlR; omega)
                  have gF : ∀ c i, (wI (wI M2 280 20 (nI (fs.length + 1))) 294 (fs.length + 1) (nI (ds.flatten ++ code).length)).1 c i = if c = 294 ∧ i = fs.length + 1 then nI (ds.flatten ++ code).length else if c = 280 ∧ i = 20 then nI (fs.length + 1) else M2.1 c i := fun c i => by rw [wI_1, wI_1]
                  have g2' : ∀ c i, 292 ≤ c → c ≤ 294 → M2.1 c i = M1.1 c i := fun c i a1 a2 => by
                    rw [z3.1 c i (by unfold rpR; omega), wI_1, if_neg (by omega)]
                  have ef : (ds ++ [code]).flatten = ds.flatten ++ code := by simp
                  refine ⟨1, _, rfl, o3.tr oF, by omega, d2, Or.inr ⟨rfl, by rw [gF, if_neg (by omega), if_neg (by omega)]; exact u1, by rw [gF, if_neg (by omega), if_neg (by omega)]; exact u2, ds ++ [code], ⟨?_, ?_, fun k t hk => ?_, fun _ k hk => ?_⟩, ⟨?_, ?_, fun k t c hk hc => ?_⟩⟩⟩
                  · rw [ef]
                    exact ⟨by rw [gF, if_neg (by omega), if_neg (by omega)]; exact u4.1, fun i t hi => by rw [gF, if_neg (by omega), if_neg (by omega)]; exact u4.2 i t hi⟩
                  · rw [gF, if_neg (by omega), if_pos ⟨rfl, rfl⟩, List.length_append, List.length_singleton]
                  · rw [gF, if_neg (by omega), if_neg (by omega), gF, if_neg (by omega), if_neg (by omega), g2' _ _ (by omega) (by omega), g2' _ _ (by omega) (by omega)]
                    rcases getElem?_snoc hk with ⟨hk1, hk2⟩ | ⟨rfl, rfl⟩
                    · obtain ⟨i1, i2⟩ := m3 k t hk2
                      refine ⟨?_, ?_⟩
                      · rw [g, if_neg (by omega), if_neg (by omega), if_neg (by omega), if_neg (by omega)]; exact i1
                      · rw [g, if_neg (by omega), if_neg (by omega), if_neg (by omega), if_neg (by omega)]; exact i2
                    · refine ⟨?_, ?_⟩
                      · rw [g, if_neg (by omega), if_neg (by omega), if_neg (by omega), if_pos ⟨rfl, rfl⟩]
                      · rw [g, if_neg (by omega), if_neg (by omega), if_pos ⟨rfl, rfl⟩]
                  · rw [List.length_append, List.length_singleton] at hk
                    by_cases k1 : k = fs.length + 1
                    · rw [gF, if_pos ⟨rfl, k1⟩, List.take_of_length_le (by rw [List.length_append, List.length_singleton]; omega), ef]
                    · rw [gF, if_neg (by omega), if_neg (by omega), g2' _ _ (by omega) (by omega), List.take_append_of_le_length (by omega)]
                      by_cases k2 : k = fs.length
                      · rw [g, if_neg (by omega), if_pos ⟨rfl, k2⟩, List.take_of_length_le (by omega)]
                      · rw [g, if_neg (by omega), if_neg (by omega), if_neg (by omega), if_neg (by omega)]
                        exact m4 (by omega) k (by omega)
                  · rw [List.length_append, List.length_append, List.length_singleton, List.length_singleton, g1]
                  · rw [ef, List.length_append]; omega
                  · rcases getElem?_snoc hk with ⟨hk1, hk2⟩ | ⟨rfl, rfl⟩
                    · rcases getElem?_snoc hc with ⟨hc1, hc2⟩ | ⟨hc1, -⟩
                      · rw [List.take_append_of_le_length (by omega)]
                        exact g3 k t c hk2 hc2
                      · omega
                    · rcases getElem?_snoc hc with ⟨hc1, hc2⟩ | ⟨hc1, rfl⟩
                      · omega
                      · rw [List.take_append_of_le_length (by omega), List.take_of_length_le (by omega)]
                        exact d8
        · rw [if_neg q4, if_neg q4]
          exact bad 1 (p + 1) M1 e14 o1'
  · rw [if_neg q1, if_pos rfl, if_neg q1]
    exact bad 1 p M h14 (Ou.rf _ _)
theorem listL_g (hE : ∀ p, n ≤ p → sg p = 999) (h256 : ∀ p, p < n → sg p < 256) {K : Int32 → SM → Option (Int32 × SM)} : ∀ (k fu p : Nat) (M : SM) (fs : List FE) (ds : List yL), n - p < k → n - p + 1 < fu → tR M sg n → p ≤ n → M.1 280 14 = nI p → M.1 280 15 = nI n → mM M fs ds → fOk fs p → gOk fs ds p → (∀ r, yNm sg n (fs.map (fun t => t.1)) p = Sum.inr r → fOk (fs ++ [(sg p - 65, p, r.2)]) r.1) → (∀ fs' q r, fOk fs' q → q ≤ n → yNm sg n (fs'.map (fun t => t.1)) q = Sum.inr r → fOk (fs' ++ [(sg q - 65, q, r.2)]) r.1) →
    ∃ r M', ob (qmd_readsNamed M) (fun r4 M5 => qmd_list_L55 K fu r4 M5) = K r M' ∧ Ou rlR M M' ∧ match yLs sg n k fs p with
      | Sum.inl g => r = 0 ∧ flt M' g
      | Sum.inr fs' => r = 1 ∧ ∃ ds', mM M' fs' ds' ∧ gOk fs' ds' n := by
  intro k
  induction k with
  | zero => intro fu p M fs ds h; omega
  | succ k ih =>
    intro fu p M fs ds hk hfu ht hp h14 h15 hm hf hg hfo hall
    have hn := ht.1
    obtain ⟨fu, rfl⟩ : ∃ y, fu = y + 1 := ⟨fu - 1, by omega⟩
    obtain ⟨r, M1, x1, x2, x3⟩ := readsNamed_g hE h256 ht hp h14 h15 hm hf hg
    have eq : yLs sg n (k + 1) fs p = (match yNm sg n (fs.map (fun t => t.1)) p with
    | Sum.inl g => Sum.inl g
    | Sum.inr r => if sg r.1 = 59 then yLs sg n k (fs ++ [(sg p - 65, p, r.2)]) (r.1 + 1) else if r.1 < n then Sum.inl (1, r.1) else Sum.inr (fs ++ [(sg p - 65, p, r.2)])) := rfl
    rw [x1, ob_s, eq]
    unfold qmd_list_L55
    simp only [jn_ap]
    cases hnm : yNm sg n (fs.map (fun t => t.1)) p with
    | inl g =>
      rw [hnm] at x3
      rw [if_pos x3.1]
      exact ⟨r, M1, rfl, x2, x3⟩
    | inr r0 =>
      rw [hnm] at x3
      obtain ⟨y1, y2, y3⟩ := x3
      dsimp only
      rcases y3 with ⟨e1, e2, e3, e4⟩ | ⟨e1, e2, e3, ds', e4, e5⟩
      · rw [if_pos e1, if_neg e3, if_pos e4]
        exact ⟨r, M1, rfl, x2, e1, e2⟩
      · have t1 := ht.frL x2
        have hok : cOk (sg r0.1) := by
          by_cases q : r0.1 < n
          · exact Or.inr (h256 _ q)
          · exact Or.inl (hE _ (by omega))
        have hfo1 := hfo r0 hnm
        rw [if_neg (by rw [e1]; decide), e2, e3]
        by_cases q : r0.1 < n
        · rw [if_pos ((nI_ltI (by omega) (by omega)).mpr q), sign_g hE h256 t1 y2 e2 e3, ob_s, iSg (K := (59 : Int32)) hok 59 (by omega) rfl]
          by_cases q59 : sg r0.1 = 59
          · rw [if_pos q59, if_pos q59, if_neg (by decide), e2, nI_1]
            have o1 : Ou (fun c i => c = 280 ∧ i = 14) M1 (wI M1 280 14 (nI (r0.1 + 1))) := (Ou.rf _ _).wI ⟨rfl, rfl⟩
            have o1' : Ou rlR M1 (wI M1 280 14 (nI (r0.1 + 1))) := o1.mono (fun c i z => by unfold rlR rpR; omega)
            have hf2 : fOk (fs ++ [(sg p - 65, p, r0.2)]) (r0.1 + 1) := ⟨hfo1.1, hfo1.2.1, hfo1.2.2.1, by have := hfo1.2.2.2; omega⟩
            obtain ⟨r', M2, z1, z2, z3⟩ := ih fu (r0.1 + 1) (wI M1 280 14 (nI (r0.1 + 1))) _ ds' (by omega) (by omega) (t1.frL o1') (by omega) (by rw [wI_1, if_pos ⟨rfl, rfl⟩]) (by rw [o1.1 280 15 (by omega)]; exact e3) ⟨e4.1.fr o1 (fun c i z => by omega), by rw [o1.1 280 20 (by omega)]; exact e4.2.1, fun k t hk => by rw [o1.1 292 k (by omega), o1.1 293 k (by omega)]; exact e4.2.2.1 k t hk, fun h k hk => by rw [o1.1 294 k (by omega)]; exact e4.2.2.2 h k hk⟩ hf2 ⟨e5.1, by have := e5.2.1; omega, e5.2.2⟩ (fun r1 h1 => hall _ _ _ hf2 (by omega) h1) hall
            refine ⟨r', M2, ?_, (x2.tr o1').tr z2, z3⟩
            rw [← z1]
            cases hrn : qmd_readsNamed (wI M1 280 14 (nI (r0.1 + 1))) with
            | none => rfl
            | some w =>
              obtain ⟨w1, w2⟩ := w
              show (if w1 = 0 then qmd_list_L55 K fu 0 w2 else qmd_list_L55 K fu 1 w2) = qmd_list_L55 K fu w1 w2
              obtain ⟨r9, M9, v1, -, v3⟩ := readsNamed_g hE h256 (fs := fs ++ [(sg p - 65, p, r0.2)]) (ds := ds') (t1.frL o1') (show r0.1 + 1 ≤ n by omega) (by rw [wI_1, if_pos ⟨rfl, rfl⟩]) (by rw [o1.1 280 15 (by omega)]; exact e3) ⟨e4.1.fr o1 (fun c i z => by omega), by rw [o1.1 280 20 (by omega)]; exact e4.2.1, fun k t hk => by rw [o1.1 292 k (by omega), o1.1 293 k (by omega)]; exact e4.2.2.1 k t hk, fun h k hk => by rw [o1.1 294 k (by omega)]; exact e4.2.2.2 h k hk⟩ hf2 ⟨e5.1, by have := e5.2.1; omega, e5.2.2⟩
              rw [hrn] at v1
              obtain ⟨rfl, rfl⟩ := some_p v1
              have : w1 = 0 ∨ w1 = 1 := by
                split at v3
                · exact Or.inl v3.1
                · rcases v3.2.2 with h | h
                  · exact Or.inl h.1
                  · exact Or.inr h.1
              rcases this with rfl | rfl
              · rw [if_pos rfl]
              · rw [if_neg (by decide)]
          · rw [if_neg q59, if_neg q59, if_pos q, e2, show qmd_wrong (1 : Int32) (nI r0.1) M1 = _ from wrong_e 1 r0.1 M1, ob_s, if_pos rfl, if_pos trivial]
            obtain ⟨fu, rfl⟩ : ∃ y, fu = y + 1 := ⟨fu - 1, by omega⟩
            refine ⟨0, _, rfl, x2.tr (((Ou.rf _ _).wI (by unfold rlR rpR; omega)).wI (by unfold rlR rpR; omega)), rfl, ?_⟩
            show (wI (wI M1 280 16 _) 280 14 _).1 280 16 = _
            rw [wI_1, if_neg (by omega), wI_1, if_pos ⟨rfl, rfl⟩]
        · rw [if_neg (nI_nlt (by omega) (by omega)), if_neg (show ¬ sg r0.1 = 59 by rw [hE _ (by omega)]; decide), if_neg q]
          obtain rfl : r0.1 = n := by omega
          exact ⟨r, M1, rfl, x2, e1, ds', e4, e5⟩
end
