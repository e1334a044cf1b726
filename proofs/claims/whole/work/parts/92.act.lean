/-! an act in the reference; act -/
def sAr (A c i : Nat) : Prop := rpR c i ∨ (c = 280 ∧ ((13 ≤ i ∧ i ≤ 15) ∨ i = 28)) ∨ (c = 301 ∧ 80 * A ≤ i ∧ i < 80 * A + 80) ∨ (302 ≤ c ∧ c ≤ 306 ∧ i = A)
section
variable {n : Nat} {sg : Nat → Nat}
theorem readsAct_g (hE : ∀ p, n ≤ p → sg p = 999) (h256 : ∀ p, p < n → sg p < 256) {M : SM} {A : Nat} (hA : A < 10) (h14 : M.1 280 14 = 0) (h15 : M.1 280 15 = nI n) (h18 : M.1 280 18 = 0) (h28 : M.1 280 28 = nI A) (hn1 : 1 ≤ n) (ht : tR M sg n) :
    ∃ (r : Int32) (M' : SM), qmd_readsAct M = some (r, M') ∧ Ou (sAr A) M M' ∧ M'.1 280 28 = nI A ∧ match yAc sg n with
      | Sum.inl g => r = 0 ∧ flt M' g
      | Sum.inr st => r = 1 ∧ M'.1 305 A = nI (sg 0 - 65) ∧ M'.1 306 A = (if sg 1 = 95 then 1 else 0) ∧ ∃ code, yCp 0 code st ∧ code.length ≤ n ∧ rA M' code := by
  have hn := ht.1
  have ok : ∀ p, cOk (sg p) := fun p => by
    by_cases q : p < n
    · exact Or.inr (h256 p q)
    · exact Or.inl (hE p (by omega))
  have zb : ∀ (k p : Nat) (M' : SM), M'.1 280 14 = nI p → Ou (sAr A) M M' → M'.1 280 28 = nI A → ∃ (r : Int32) (M2 : SM), zw (nI k) M' = some (r, M2) ∧ Ou (sAr A) M M2 ∧ M2.1 280 28 = nI A ∧ r = 0 ∧ flt M2 (k, p) := fun k p M' e o e28 => by
    refine ⟨0, _, zw_e _ _, o.wI (by unfold sAr rpR; omega), by rw [wI_1, if_neg (by omega)]; exact e28, rfl, ?_⟩
    show (wI M' 280 16 _).1 280 16 = _
    rw [wI_1, if_pos ⟨rfl, rfl⟩, e]
  have e14 : M.1 280 14 = nI 0 := h14
  have s0 := sign_g hE h256 ht (by omega) e14 h15
  unfold qmd_readsAct
  rw [s0, ob_s]
  simp only [jn_ap]
  rw [iSg (K := (87 : Int32)) (ok 0) 87 (by omega) rfl, iSg (K := (82 : Int32)) (ok 0) 82 (by omega) rfl, iSg (K := (67 : Int32)) (ok 0) 67 (by omega) rfl, iSg (K := (84 : Int32)) (ok 0) 84 (by omega) rfl, ite_al]
  unfold yAc
  by_cases q1 : yAl (sg 0) = true
  rotate_left
  · rw [if_neg q1, if_neg q1]
    exact zb 1 0 M e14 (Ou.rf _ _) h28
  have hal := yAl_iff.mp q1
  have e65 : sv (sg 0) - (65 : Int32) = nI (sg 0 - 65) := by rw [sv_n (by omega), show (65 : Int32) = nI 65 from rfl, nI_subN (by omega)]
  rw [if_pos q1, if_pos q1, h28, ck_ib (by omega) (by omega), ck_t, nI_cl (by omega), e65, e14, nI_1]
  generalize hM1 : wI (wI M 305 A (nI (sg 0 - 65))) 280 14 (nI (0 + 1)) = M1
  have g1 : ∀ c i, M1.1 c i = if c = 280 ∧ i = 14 then nI 1 else if c = 305 ∧ i = A then nI (sg 0 - 65) else M.1 c i := fun c i => by rw [← hM1, wI_1, wI_1]
  have o1 : Ou (sAr A) M M1 := ⟨fun c i q => by unfold sAr rpR at q; rw [g1, if_neg (by omega), if_neg (by omega)], by rw [← hM1]; rfl⟩
  have t1 : tR M1 sg n := ⟨ht.1, fun p hp => by rw [o1.1 289 p (by unfold sAr rpR; omega)]; exact ht.2 p hp⟩
  have e14' : M1.1 280 14 = nI 1 := by rw [g1, if_pos ⟨rfl, rfl⟩]
  have e15' : M1.1 280 15 = nI n := by rw [g1, if_neg (by omega), if_neg (by omega)]; exact h15
  have e28' : M1.1 280 28 = nI A := by rw [g1, if_neg (by omega), if_neg (by omega)]; exact h28
  have s1 := sign_g hE h256 t1 hn1 e14' e15'
  rw [s1, ob_s]
  have tail : (sg 1 = 94 ∨ sg 1 = 95) → ∃ (r : Int32) (M' : SM), (ob (qmd_sign M1) (fun r11 M12 =>
          if r11 = (95 : Int32) then
          (ck (ib 10 (M1.1 280 28) && true) (
              ob (qmd_readsFormula (wI (wI M12 306 (Int32.toNatClampNeg (M1.1 280 28)) ((1 : Int32) &&& 1)) 280 14 ((M12.1 280 14) + (1 : Int32)))) (fun r17 M18 =>
              if r17 = 0 then
              (some ((0 : Int32), M18)) else
              (if (M18.1 280 14) = (M18.1 280 15) then
                (some ((1 : Int32), M18)) else
                (ob (qmd_wrong (1 : Int32) (M18.1 280 14) M18) (fun r20 M21 =>
                  if r20 = 0 then
                  (some ((0 : Int32), M21)) else
                  (some ((1 : Int32), M21)))))))) else
          (ck (ib 10 (M1.1 280 28) && true) (
              ob (qmd_readsFormula (wI (wI M12 306 (Int32.toNatClampNeg (M1.1 280 28)) ((0 : Int32) &&& 1)) 280 14 ((M12.1 280 14) + (1 : Int32)))) (fun r17 M18 =>
              if r17 = 0 then
              (some ((0 : Int32), M18)) else
              (if (M18.1 280 14) = (M18.1 280 15) then
                (some ((1 : Int32), M18)) else
                (ob (qmd_wrong (1 : Int32) (M18.1 280 14) M18) (fun r20 M21 =>
                  if r20 = 0 then
                  (some ((0 : Int32), M21)) else
                  (some ((1 : Int32), M21)))))))))) = some (r, M') ∧ Ou (sAr A) M M' ∧ M'.1 280 28 = nI A ∧ match (match yCh sg n 10 0 2 with
    | Sum.inl f => Sum.inl f
    | Sum.inr r => if r.1 < n then Sum.inl (1, r.1) else Sum.inr r.2 : (Nat × Nat) ⊕ yL) with
      | Sum.inl g => r = 0 ∧ flt M' g
      | Sum.inr st => r = 1 ∧ M'.1 305 A = nI (sg 0 - 65) ∧ M'.1 306 A = (if sg 1 = 95 then 1 else 0) ∧ ∃ code, yCp 0 code st ∧ code.length ≤ n ∧ rA M' code := fun q2 => by
    have hlt1 : 1 < n := y_lt hE (by omega)
    have ev : ∃ v : Int32, v = (if sg 1 = 95 then 1 else 0) := ⟨_, rfl⟩
    obtain ⟨v, hv⟩ := ev
    generalize hM2 : wI (wI M1 306 A v) 280 14 (nI 2) = M2
    have g2 : ∀ c i, M2.1 c i = if c = 280 ∧ i = 14 then nI 2 else if c = 306 ∧ i = A then v else M1.1 c i := fun c i => by rw [← hM2, wI_1, wI_1]
    have o2 : Ou (sAr A) M M2 := o1.tr ⟨fun c i q => by unfold sAr rpR at q; rw [g2, if_neg (by omega), if_neg (by omega)], by rw [← hM2]; rfl⟩
    have t2 : tR M2 sg n := ⟨ht.1, fun p hp => by rw [o2.1 289 p (by unfold sAr rpR; omega)]; exact ht.2 p hp⟩
    obtain ⟨r, M3, z1, z2, z3⟩ := readsFormula_g hE h256 (p := 2) (cs := []) t2 (by omega) (by rw [g2, if_pos ⟨rfl, rfl⟩]) (by rw [g2, if_neg (by omega), if_neg (by omega)]; exact e15') ⟨by rw [g2, if_neg (by omega), if_neg (by omega), g1, if_neg (by omega), if_neg (by omega)]; exact h18, fun i t hi => by cases hi⟩ (by simp)
    have o3 : Ou (sAr A) M M3 := o2.tr (z3.mono (fun c i z => Or.inl z))
    have e28'' : M3.1 280 28 = nI A := by rw [z3.1 280 28 (by unfold rpR; omega), g2, if_neg (by omega), if_neg (by omega)]; exact e28'
    have run : ∀ X : Int32 × SM → Prop, (∃ (r' : Int32) (M' : SM), (if r = 0 then (some ((0 : Int32), M3)) else
              (if (M3.1 280 14) = (M3.1 280 15) then
                (some ((1 : Int32), M3)) else
                (ob (qmd_wrong (1 : Int32) (M3.1 280 14) M3) (fun r20 M21 =>
                  if r20 = 0 then
                  (some ((0 : Int32), M21)) else
                  (some ((1 : Int32), M21)))))) = some (r', M') ∧ X (r', M')) → ∃ (r' : Int32) (M' : SM), (ob (qmd_sign M1) (fun r11 M12 =>
          if r11 = (95 : Int32) then
          (ck (ib 10 (M1.1 280 28) && true) (
              ob (qmd_readsFormula (wI (wI M12 306 (Int32.toNatClampNeg (M1.1 280 28)) ((1 : Int32) &&& 1)) 280 14 ((M12.1 280 14) + (1 : Int32)))) (fun r17 M18 =>
              if r17 = 0 then
              (some ((0 : Int32), M18)) else
              (if (M18.1 280 14) = (M18.1 280 15) then
                (some ((1 : Int32), M18)) else
                (ob (qmd_wrong (1 : Int32) (M18.1 280 14) M18) (fun r20 M21 =>
                  if r20 = 0 then
                  (some ((0 : Int32), M21)) else
                  (some ((1 : Int32), M21)))))))) else
          (ck (ib 10 (M1.1 280 28) && true) (
              ob (qmd_readsFormula (wI (wI M12 306 (Int32.toNatClampNeg (M1.1 280 28)) ((0 : Int32) &&& 1)) 280 14 ((M12.1 280 14) + (1 : Int32)))) (fun r17 M18 =>
              if r17 = 0 then
              (some ((0 : Int32), M18)) else
              (if (M18.1 280 14) = (M18.1 280 15) then
                (some ((1 : Int32), M18)) else
                (ob (qmd_wrong (1 : Int32) (M18.1 280 14) M18) (fun r20 M21 =>
                  if r20 = 0 then
                  (some ((0 : Int32), M21)) else
                  (some ((1 : Int32), M21)))))))))) = some (r', M') ∧ X (r', M') := fun X hX => by
      rw [s1, ob_s, iSg (K := (95 : Int32)) (ok 1) 95 (by omega) rfl, e28', ck_ib (by omega) (by omega), ck_t, ck_ib (by omega) (by omega), ck_t, nI_cl (by omega), e14', nI_1]
      by_cases q95 : sg 1 = 95
      · rw [if_pos q95]
        rw [if_pos q95] at hv
        subst hv
        show ∃ r' M', ob (qmd_readsFormula (wI (wI M1 306 A (1 : Int32)) 280 14 (nI 2))) _ = _ ∧ _
        rw [hM2, z1, ob_s]
        exact hX
      · rw [if_neg q95]
        rw [if_neg q95] at hv
        subst hv
        show ∃ r' M', ob (qmd_readsFormula (wI (wI M1 306 A (0 : Int32)) 280 14 (nI 2))) _ = _ ∧ _
        rw [hM2, z1, ob_s]
        exact hX
    obtain ⟨y1, y2⟩ := yCh_S hE 10 0 (by omega) (by omega) 2 [] [] (by omega) yTL_nil rfl
    cases hch : yCh sg n 10 0 2 with
    | inl gg =>
      rw [y1 gg hch] at z2
      obtain ⟨w1, w2⟩ := z2
      refine run (fun x => Ou (sAr A) M x.2 ∧ x.2.1 280 28 = nI A ∧ x.1 = 0 ∧ flt x.2 gg) ?_
      rw [if_pos w1]
      exact ⟨0, M3, rfl, o3, e28'', rfl, w2⟩
    | inr r0 =>
      obtain ⟨d1, d2, d3, d4, code, d5, d6, d7, d8⟩ := y2 r0 hch
      rw [d5] at z2
      have eln : yLn [] ([] ++ code) 0 = ([], code, 0) := rfl
      rw [eln] at z2
      dsimp only
      by_cases qn : r0.1 < n
      · rw [if_pos qn]
        refine run (fun x => Ou (sAr A) M x.2 ∧ x.2.1 280 28 = nI A ∧ x.1 = 0 ∧ flt x.2 (1, r0.1)) ?_
        have badq : rOut n r M3 (Sum.inl (1, r0.1)) → ∃ (r' : Int32) (M' : SM), (if r = 0 then (some ((0 : Int32), M3)) else
              (if (M3.1 280 14) = (M3.1 280 15) then
                (some ((1 : Int32), M3)) else
                (ob (qmd_wrong (1 : Int32) (M3.1 280 14) M3) (fun r20 M21 =>
                  if r20 = 0 then
                  (some ((0 : Int32), M21)) else
                  (some ((1 : Int32), M21)))))) = some (r', M') ∧ Ou (sAr A) M M' ∧ M'.1 280 28 = nI A ∧ r' = 0 ∧ flt M' (1, r0.1) := fun h => by
          rw [if_pos h.1]
          exact ⟨0, M3, rfl, o3, e28'', rfl, h.2⟩
        by_cases q63 : sg r0.1 = 63
        · rw [if_pos q63] at z2; exact badq z2
        · rw [if_neg q63] at z2
          unfold yRu at z2
          by_cases q41 : sg r0.1 = 41
          · rw [if_pos q41] at z2; exact badq z2
          · rw [if_neg q41] at z2
            by_cases q58 : sg r0.1 = 58
            · rw [if_pos q58] at z2; exact badq z2
            · rw [if_neg q58] at z2
              obtain ⟨w1, w2⟩ := z2
              rw [if_neg (by rw [w1]; decide), w2.1, w2.2.1, if_neg (fun z => by have := nI_inj (by omega) (by omega) z; omega), show qmd_wrong (1 : Int32) (nI r0.1) M3 = _ from wrong_e 1 r0.1 M3, ob_s, if_pos rfl]
              refine ⟨0, _, rfl, o3.wI (by unfold sAr rpR; omega), by rw [wI_1, if_neg (by omega)]; exact e28'', rfl, ?_⟩
              show (wI M3 280 16 _).1 280 16 = _
              rw [wI_1, if_pos ⟨rfl, rfl⟩]
      · rw [if_neg qn]
        refine run (fun x => Ou (sAr A) M x.2 ∧ x.2.1 280 28 = nI A ∧ x.1 = 1 ∧ x.2.1 305 A = nI (sg 0 - 65) ∧ x.2.1 306 A = (if sg 1 = 95 then 1 else 0) ∧ ∃ code, yCp 0 code r0.2 ∧ code.length ≤ n ∧ rA x.2 code) ?_
        have h999 := hE r0.1 (by omega)
        rw [if_neg (by omega)] at z2
        unfold yRu at z2
        rw [if_neg (by omega), if_neg (by omega)] at z2
        obtain ⟨w1, w2⟩ := z2
        rw [if_neg (by rw [w1]; decide), w2.1, w2.2.1, if_pos (by congr 1; omega)]
        refine ⟨1, M3, rfl, o3, e28'', rfl, ?_, ?_, code, d8, by omega, w2.2.2.2.1⟩
        · show M3.1 305 A = _
          rw [z3.1 305 A (by unfold rpR; omega), g2, if_neg (by omega), if_neg (by omega), g1, if_neg (by omega), if_pos ⟨rfl, rfl⟩]
        · show M3.1 306 A = _
          rw [z3.1 306 A (by unfold rpR; omega), g2, if_neg (by omega), if_pos ⟨rfl, rfl⟩]; exact hv
  rw [iSg (K := (95 : Int32)) (ok 1) 95 (by omega) rfl]
  by_cases q95 : sg 1 = 95
  · rw [if_pos q95, if_pos (Or.inr q95)]
    exact tail (Or.inr q95)
  · rw [if_neg q95, s1, ob_s, iSg (K := (94 : Int32)) (ok 1) 94 (by omega) rfl]
    by_cases q94 : sg 1 = 94
    · rw [if_pos q94, if_pos (Or.inl q94)]
      exact tail (Or.inl q94)
    · rw [if_neg q94, if_neg (by omega)]
      exact zb 1 1 M1 e14' o1 e28'
theorem aC_L119 {A : Nat} (hA : A < 10) {cs : yL} (h60 : cs.length ≤ 60) : ∀ (k fu i : Nat) (M : SM), cs.length - i = k → k < fu → i ≤ cs.length → rA M cs → M.1 280 28 = nI A → (∀ j t, j < i → cs[j]? = some t → M.1 301 (80 * A + j) = eU t) →
    ∃ M' : SM, qmd_act_L119 fu (nI i) M = some (nI A, M') ∧ Ou (fun c i => (c = 301 ∧ 80 * A ≤ i ∧ i < 80 * A + 80) ∨ (c = 280 ∧ i = 28)) M M' ∧ M'.1 280 28 = nI (A + 1) ∧ ∀ j t, cs[j]? = some t → M'.1 301 (80 * A + j) = eU t := by
  intro k
  induction k with
  | zero =>
    intro fu i M e hf hj hR h28 hw
    obtain ⟨fu, rfl⟩ : ∃ y, fu = y + 1 := ⟨fu - 1, by omega⟩
    refine ⟨wI M 280 28 (nI (A + 1)), ?_, (Ou.rf _ _).wI (by omega), by rw [wI_1, if_pos ⟨rfl, rfl⟩], fun j t hj2 => ?_⟩
    · unfold qmd_act_L119
      rw [hR.1, if_neg (nI_nlt (by omega) (by omega)), h28, nI_1, nI_m1 (by omega), Nat.add_sub_cancel]
    · rw [wI_1, if_neg (by omega)]
      refine hw j t ?_ hj2
      by_cases z : j < cs.length
      · omega
      · rw [List.getElem?_eq_none (by omega)] at hj2; cases hj2
  | succ k ih =>
    intro fu i M e hf hj hR h28 hw
    obtain ⟨fu, rfl⟩ : ∃ y, fu = y + 1 := ⟨fu - 1, by omega⟩
    obtain ⟨t, ht⟩ : ∃ t, cs[i]? = some t := ⟨cs[i]'(by omega), List.getElem?_eq_getElem (by omega)⟩
    unfold qmd_act_L119
    rw [hR.1, if_pos ((nI_ltI (by omega) (by omega)).mpr (show i < cs.length by omega)), h28, show (80 : Int32) = nI 80 from rfl, nI_mul, nI_add, ck_ib (by omega) (by omega), ck_ib (by omega) (by omega), ck_t, nI_1, nI_cl (by omega), nI_cl (by omega), hR.2 i t ht]
    have o1 : Ou (fun c i => (c = 301 ∧ 80 * A ≤ i ∧ i < 80 * A + 80) ∨ (c = 280 ∧ i = 28)) M (wI M 301 (80 * A + i) (eU t)) := (Ou.rf _ _).wI (by omega)
    obtain ⟨M', g1, g2, g3, g4⟩ := ih fu (i + 1) (wI M 301 (80 * A + i) (eU t)) (by omega) (by omega) (by omega) (hR.fr o1 (fun c i z => by omega)) (by rw [wI_1, if_neg (by omega)]; exact h28) (fun j u hj3 hu => by
      rw [wI_1]
      by_cases z : j = i
      · subst z
        rw [ht] at hu
        rw [if_pos ⟨rfl, rfl⟩, Option.some.inj hu]
      · rw [if_neg (by omega)]
        exact hw j u (by omega) hu)
    exact ⟨M', g1, o1.tr g2, g3, g4⟩
end
