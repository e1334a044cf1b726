/-! the machine goes with the grammar -/
def ySim (sg : Nat → Nat) (n l o : Nat) (sub : Nat → yR) : Prop := ∀ (p : Nat) (ws cs : yL), p ≤ n → yTL l ws →
  (∀ f, sub p = Sum.inl f → yRr sg n true p o ws cs = Sum.inl f) ∧
  (∀ r, sub p = Sum.inr r → p < r.1 ∧ r.1 ≤ n ∧ (∀ op, yOp (sg r.1) = some op → yBd op < l) ∧ ∃ w c code : yL, yRr sg n true p o ws cs = yRr sg n false r.1 o w c ∧ yCl l w c = (ws, cs ++ code) ∧ code.length ≤ r.1 - p ∧ r.2.length ≤ r.1 - p ∧ yCp cs.length code r.2)
/-- the machine at the end of a choice -/
def yChS (sg : Nat → Nat) (n o : Nat) (ch : Nat → yR) : Prop := ∀ (p : Nat) (ws cs : yL), p ≤ n → yTL 1 ws → yIc ws = false →
  (∀ f, ch p = Sum.inl f → yRr sg n true p o ws cs = Sum.inl f) ∧
  (∀ r, ch p = Sum.inr r → p < r.1 ∧ r.1 ≤ n ∧ yOp (sg r.1) = none ∧ yCm (sg r.1) = none ∧ ∃ (code : yL),
    yRr sg n true p o ws cs = (if sg r.1 = 63 then Sum.inl (1, r.1) else yRu sg (yRr sg n) r.1 (yLn ws (cs ++ code) o).1 (yLn ws (cs ++ code) o).2.1 (yLn ws (cs ++ code) o).2.2) ∧
    code.length ≤ r.1 - p ∧ r.2.length ≤ r.1 - p ∧ yCp cs.length code r.2)
section
variable {sg : Nat → Nat} {n : Nat}
theorem yLo_S (hE : ∀ p, n ≤ p → sg p = 999) {l o : Nat} {sub : Nat → yR} (h : ySim sg n (l + 1) o sub) {ws cs : yL} (hw : yTL l ws) : ∀ (k p : Nat) (s w c code : yL), n - p < k → p ≤ n → yCl l w c = (ws, cs ++ code) → yCp cs.length code s → (∀ op, yOp (sg p) = some op → yBd op < l + 1) →
    (∀ f, yLo sg l sub k p s = Sum.inl f → yRr sg n false p o w c = Sum.inl f) ∧
    (∀ r, yLo sg l sub k p s = Sum.inr r → p ≤ r.1 ∧ r.1 ≤ n ∧ (∀ op, yOp (sg r.1) = some op → yBd op < l) ∧ ∃ w' c' code' : yL, yRr sg n false p o w c = yRr sg n false r.1 o w' c' ∧ yCl l w' c' = (ws, cs ++ code') ∧ code'.length ≤ code.length + (r.1 - p) ∧ r.2.length ≤ s.length + (r.1 - p) ∧ yCp cs.length code' r.2) := by
  intro k
  induction k with
  | zero => intro p s w c code hk; omega
  | succ k ih =>
    intro p s w c code hk hp hc hv hop
    have eq : yLo sg l sub (k + 1) p s = if yLv l (sg p) = true then
      (match sub (p + 1) with
      | Sum.inl f => Sum.inl f
      | Sum.inr r => yLo sg l sub k r.1 (s ++ r.2 ++ [(sg p, 0)]))
      else Sum.inr (p, s) := rfl
    rw [eq]
    by_cases q : yLv l (sg p) = true
    · rw [if_pos q]
      unfold yLv at q
      cases ho : yOp (sg p) with
      | none => rw [ho] at q; cases q
      | some op =>
        rw [ho] at q
        have hb : yBd op = l := Nat.eq_of_beq_eq_true q
        have hl := y_ltop hE ho
        have step : yRr sg n false p o w c = yRr sg n true (p + 1) o ((op, 0) :: ws) (cs ++ code) := by
          rw [yRr_b hE hp]
          unfold yRb
          rw [ho]
          show yRr sg n true (p + 1) o ((op, 0) :: (yCl (yBd op) w c).1) (yCl (yBd op) w c).2 = _
          rw [hb, hc]
        rw [step]
        obtain ⟨b1, b2⟩ := h (p + 1) ((op, 0) :: ws) (cs ++ code) (by omega) (yTL_op (by omega) 0 ws)
        cases hs : sub (p + 1) with
        | inl f =>
          refine ⟨fun f' e => ?_, fun r e => ?_⟩
          · rw [← e]; exact b1 f hs
          · cases e
        | inr r =>
          obtain ⟨c1, c2, c3, w2, c', code2, d1, d2, d3, d4, d5⟩ := b2 r hs
          rw [d1]
          rw [List.length_append] at d5
          have ncl : yCl l w2 c' = (ws, cs ++ (code ++ code2 ++ [(op, 0)])) := by
            rw [← yCl_le (show l ≤ l + 1 by omega), d2]
            have e1 : yCl l ((op, 0) :: ws) (cs ++ code ++ code2) = yCl l ws (cs ++ code ++ code2 ++ [(op, 0)]) := if_pos ⟨(yOp_r ho).1, (yOp_r ho).2, by show l ≤ yBd op; omega⟩
            rw [e1, hw]
            simp only [List.append_assoc]
          obtain ⟨g1, g2⟩ := ih r.1 (s ++ r.2 ++ [(sg p, 0)]) w2 c' (code ++ code2 ++ [(op, 0)]) (by omega) c2 ncl (yCp_bin ho hv d5) c3
          refine ⟨g1, fun r' e => ?_⟩
          obtain ⟨k1, k2, k3, w', c'', code', k4, k5, k6, k7, k8⟩ := g2 r' e
          simp only [List.length_append, List.length_singleton] at k6 k7
          exact ⟨by omega, k2, k3, w', c'', code', k4, k5, by omega, by omega, k8⟩
    · rw [if_neg q]
      refine ⟨fun f e => (by cases e), fun r e => ?_⟩
      cases e
      refine ⟨Nat.le_refl _, hp, fun op ho => ?_, w, c, code, rfl, hc, by omega, by show s.length ≤ _; omega, hv⟩
      have := hop op ho
      have hne : yBd op ≠ l := fun z => q (by
        unfold yLv
        have ho' : yOp (sg p) = some op := ho
        rw [ho']
        show Nat.beq (yBd op) l = true
        rw [z]
        exact Nat.beq_refl l)
      omega
theorem yBi_S (hE : ∀ p, n ≤ p → sg p = 999) {l o : Nat} {sub : Nat → yR} (h : ySim sg n (l + 1) o sub) : ySim sg n l o (yBi sg n l sub) := by
  intro p ws cs hp hw
  obtain ⟨b1, b2⟩ := h p ws cs hp (yTL_up (by omega) hw)
  unfold yBi
  cases hs : sub p with
  | inl f =>
    refine ⟨fun f' e => ?_, fun r e => ?_⟩
    · rw [← e]; exact b1 f hs
    · cases e
  | inr r =>
    obtain ⟨c1, c2, c3, w, c, code, d1, d2, d3, d4, d5⟩ := b2 r hs
    have ncl : yCl l w c = (ws, cs ++ code) := by
      rw [← yCl_le (show l ≤ l + 1 by omega), d2]
      exact hw _
    obtain ⟨g1, g2⟩ := yLo_S hE h hw (n + 1) r.1 r.2 w c code (by omega) c2 ncl d5 c3
    rw [d1]
    refine ⟨g1, fun r' e => ?_⟩
    obtain ⟨k1, k2, k3, w', c', code', k4, k5, k6, k7, k8⟩ := g2 r' e
    exact ⟨by omega, k2, k3, w', c', code', k4, k5, by omega, by omega, k8⟩
theorem yFa_S (hE : ∀ p, n ≤ p → sg p = 999) {o : Nat} (ho6 : o ≤ 6) {ch : Nat → Nat → yR} (h : o < 6 → yChS sg n (o + 1) (ch (o + 1))) : ySim sg n 4 o (yFa sg ch o) := by
  intro p ws cs hp hw
  have fin : ∀ (q : Nat) (code s : yL), p < q → q ≤ n → code.length ≤ q - p → s.length ≤ q - p → yRr sg n true p o ws cs = yRr sg n false q o ws (cs ++ code) → yCp cs.length code s →
      (∀ f, (Sum.inr (q, s) : yR) = Sum.inl f → yRr sg n true p o ws cs = Sum.inl f) ∧
      (∀ r, (Sum.inr (q, s) : yR) = Sum.inr r → p < r.1 ∧ r.1 ≤ n ∧ (∀ op, yOp (sg r.1) = some op → yBd op < 4) ∧ ∃ w c code : yL, yRr sg n true p o ws cs = yRr sg n false r.1 o w c ∧ yCl 4 w c = (ws, cs ++ code) ∧ code.length ≤ r.1 - p ∧ r.2.length ≤ r.1 - p ∧ yCp cs.length code r.2) := by
    intro q code s a1 a2 a3 a4 a5 a6
    refine ⟨fun f e => (by cases e), fun r e => ?_⟩
    cases e
    exact ⟨a1, a2, fun op _ => by have := yBd_3 op; omega, ws, cs ++ code, code, a5, yCl_4 _ _, a3, a4, a6⟩
  have flt : ∀ g : Nat × Nat, yRr sg n true p o ws cs = Sum.inl g →
      (∀ f, (Sum.inl g : yR) = Sum.inl f → yRr sg n true p o ws cs = Sum.inl f) ∧
      (∀ r, (Sum.inl g : yR) = Sum.inr r → p < r.1 ∧ r.1 ≤ n ∧ (∀ op, yOp (sg r.1) = some op → yBd op < 4) ∧ ∃ w c code : yL, yRr sg n true p o ws cs = yRr sg n false r.1 o w c ∧ yCl 4 w c = (ws, cs ++ code) ∧ code.length ≤ r.1 - p ∧ r.2.length ≤ r.1 - p ∧ yCp cs.length code r.2) := fun g e => ⟨fun f e' => by rw [← e']; exact e, fun r e' => by cases e'⟩
  have hA := yRr_a hE hp o ws cs
  unfold yRa at hA
  unfold yFa
  by_cases q1 : sg p = 40
  · rw [if_pos q1] at hA
    rw [if_pos q1]
    have hl : p < n := y_lt hE (by omega)
    by_cases q2 : o < 6
    · rw [if_neg (show ¬ o = 6 by omega)] at hA
      rw [if_pos q2]
      obtain ⟨b1, b2⟩ := h q2 (p + 1) ((15, 0) :: ws) cs (by omega) (yTL_hi (by omega) 0 ws) rfl
      cases hs : ch (o + 1) (p + 1) with
      | inl f => exact flt f (by rw [hA]; exact b1 f hs)
      | inr r =>
        obtain ⟨c1, c2, c3, c4, code, d1, d2, d3, d4⟩ := b2 r hs
        have eln : yLn ((15, 0) :: ws) (cs ++ code) (o + 1) = ((15, 0) :: ws, cs ++ code, o + 1) := if_neg (show ¬ (15 = 17) by decide)
        rw [eln] at d1
        by_cases q3 : sg r.1 = 41
        · rw [if_neg (show ¬ sg r.1 = 63 by omega)] at d1
          unfold yRu at d1
          rw [if_pos q3] at d1
          have hl2 : r.1 < n := y_lt hE (by omega)
          show (∀ f, (if sg r.1 = 41 then (Sum.inr (r.1 + 1, r.2) : yR) else Sum.inl (1, r.1)) = Sum.inl f → _) ∧ (∀ r', (if sg r.1 = 41 then (Sum.inr (r.1 + 1, r.2) : yR) else Sum.inl (1, r.1)) = Sum.inr r' → _)
          rw [if_pos q3]
          exact fin (r.1 + 1) code r.2 (by omega) (by omega) (by omega) (by omega) (by rw [hA, d1]; rfl) d4
        · show (∀ f, (if sg r.1 = 41 then (Sum.inr (r.1 + 1, r.2) : yR) else Sum.inl (1, r.1)) = Sum.inl f → _) ∧ (∀ r', (if sg r.1 = 41 then (Sum.inr (r.1 + 1, r.2) : yR) else Sum.inl (1, r.1)) = Sum.inr r' → _)
          rw [if_neg q3]
          refine flt _ ?_
          rw [hA, d1]
          by_cases q4 : sg r.1 = 63
          · rw [if_pos q4]
          · rw [if_neg q4]
            unfold yRu
            rw [if_neg q3]
            by_cases q5 : sg r.1 = 58
            · rw [if_pos q5]; rfl
            · rw [if_neg q5]; rfl
    · rw [if_neg q2]
      rw [if_pos (show o = 6 by omega)] at hA
      exact flt _ hA
  · rw [if_neg q1] at hA
    rw [if_neg q1]
    by_cases q2 : yDg (sg p) = true
    · rw [if_pos q2] at hA
      rw [if_pos q2]
      cases hd : yDs sg 6 p 0 with
      | inl q => rw [hd] at hA; exact flt _ hA
      | inr r =>
        rw [hd] at hA
        obtain ⟨a1, a2, a3⟩ := yDs_6 hE hp q2 hd
        exact fin r.1 [(0, r.2)] [(48, r.2)] a1 a2 (by simp; omega) (by simp; omega) hA (yCp_num _ _ a3)
    · rw [if_neg q2] at hA
      rw [if_neg q2]
      by_cases q3 : yLt (sg p) = true
      · rw [if_pos q3] at hA
        rw [if_pos q3]
        have := yLt_iff.mp q3
        have hl : p < n := y_lt hE (by omega)
        exact fin (p + 1) [(1, sg p - 65)] [(65, sg p - 65)] (by omega) (by omega) (by show 1 ≤ _; omega) (by show 1 ≤ _; omega) hA (yCp_let _ _ (by omega))
      · rw [if_neg q3] at hA
        rw [if_neg q3]
        cases hf : yFc (sg p) with
        | none => rw [hf] at hA; exact flt _ hA
        | some w =>
          rw [hf] at hA
          have hl : p < n := y_lt hE fun q => by rw [q] at hf; cases hf
          have hw10 : w < 10 := by
            unfold yFc at hf
            repeat' (split at hf)
            all_goals first
              | (cases hf; omega)
              | cases hf
          exact fin (p + 1) [(2, w)] [(102, w)] (by omega) (by omega) (by show 1 ≤ _; omega) (by show 1 ≤ _; omega) hA (yCp_fac _ _ hw10)
theorem ySu_S (hE : ∀ p, n ≤ p → sg p = 999) {o : Nat} (ho6 : o ≤ 6) {ch : Nat → Nat → yR} (h : o < 6 → yChS sg n (o + 1) (ch (o + 1))) : ySim sg n 1 o (ySu sg n ch o) := yBi_S hE (yBi_S hE (yBi_S hE (yFa_S hE ho6 h)))
theorem y_noop {c : Nat} (h : ∀ op, yOp c = some op → yBd op < 1) : yOp c = none := by
  cases ho : yOp c with
  | none => rfl
  | some op =>
    have := h op ho
    have : 1 ≤ yBd op := by
      unfold yBd
      by_cases h : 8 ≤ op
      · rw [if_pos h]; omega
      · rw [if_neg h]
        by_cases h2 : 5 ≤ op
        · rw [if_pos h2]; omega
        · rw [if_neg h2]; omega
    omega
/-- what comes after a comparison that no ? follows -/
theorem y_cmp_end (hE : ∀ p, n ≤ p → sg p = 999) {q o op : Nat} {w c ws cs : yL} (hq : q ≤ n) (h1 : yOp (sg q) = none) (h2 : ¬ sg q = 63) (hop : 10 ≤ op ∧ op ≤ 12) (hc : yCl 1 w c = ((op, 0) :: ws, cs)) : yRr sg n false q o w c = Sum.inl (1, q) := by
  have hi : yIc ((op, 0) :: ws) = true := by
    unfold yIc
    rw [Bool.and_eq_true, Nat.ble_eq, Nat.ble_eq]
    exact hop
  rw [yRr_b hE hq]
  unfold yRb
  rw [h1]
  show yRt sg (yRr sg n) q o (yCl 1 w c).1 (yCl 1 w c).2 = _
  rw [hc]
  unfold yRt
  cases hcm : yCm (sg q) with
  | some op' => exact if_pos hi
  | none =>
    show (if sg q = 63 then _ else if yIc ((op, 0) :: ws) = true then _ else _) = _
    rw [if_neg h2, if_pos hi]
theorem yC1_S (hE : ∀ p, n ≤ p → sg p = 999) {o : Nat} (ho6 : o ≤ 6) {ch : Nat → Nat → yR} (h : o < 6 → yChS sg n (o + 1) (ch (o + 1))) : yChS sg n o (yC1 sg n ch o) := by
  intro p ws cs hp hw hi
  have hS := ySu_S hE ho6 h
  have flt : ∀ g : Nat × Nat, yRr sg n true p o ws cs = Sum.inl g →
      (∀ f, (Sum.inl g : yR) = Sum.inl f → yRr sg n true p o ws cs = Sum.inl f) ∧
      (∀ r, (Sum.inl g : yR) = Sum.inr r → p < r.1 ∧ r.1 ≤ n ∧ yOp (sg r.1) = none ∧ yCm (sg r.1) = none ∧ ∃ (code : yL),
    yRr sg n true p o ws cs = (if sg r.1 = 63 then Sum.inl (1, r.1) else yRu sg (yRr sg n) r.1 (yLn ws (cs ++ code) o).1 (yLn ws (cs ++ code) o).2.1 (yLn ws (cs ++ code) o).2.2) ∧
    code.length ≤ r.1 - p ∧ r.2.length ≤ r.1 - p ∧ yCp cs.length code r.2) := fun g e => ⟨fun f e' => by rw [← e']; exact e, fun r e' => by cases e'⟩
  obtain ⟨b1, b2⟩ := hS p ws cs hp hw
  unfold yC1
  cases hs1 : ySu sg n ch o p with
  | inl f => exact flt f (b1 f hs1)
  | inr r1 =>
    obtain ⟨c1, c2, c3, w1, e1, code1, d1, d2, d3, d4, d5⟩ := b2 r1 hs1
    have ho1 := y_noop c3
    dsimp only
    cases hcm : yCm (sg r1.1) with
    | none =>
      refine ⟨fun f e => (by cases e), fun r e => ?_⟩
      cases e
      refine ⟨c1, c2, ho1, hcm, code1, ?_, d3, d4, d5⟩
      rw [d1, yRr_b hE c2]
      unfold yRb
      rw [ho1]
      show yRt sg (yRr sg n) r1.1 o (yCl 1 w1 e1).1 (yCl 1 w1 e1).2 = _
      rw [d2]
      unfold yRt
      rw [hcm]
      show (if sg r1.1 = 63 then (if yIc ws = true then _ else _) else if yIc ws = true then _ else _) = _
      rw [if_neg (show ¬ yIc ws = true by rw [hi]; decide), if_neg (show ¬ yIc ws = true by rw [hi]; decide)]
    | some op =>
      have hop := yCm_r hcm
      have hl1 := y_ltcm hE hcm
      have step1 : yRr sg n true p o ws cs = yRr sg n true (r1.1 + 1) o ((op, 0) :: ws) (cs ++ code1) := by
        rw [d1, yRr_b hE c2]
        unfold yRb
        rw [ho1]
        show yRt sg (yRr sg n) r1.1 o (yCl 1 w1 e1).1 (yCl 1 w1 e1).2 = _
        rw [d2]
        unfold yRt
        rw [hcm]
        show (if yIc ws = true then _ else _) = _
        rw [if_neg (show ¬ yIc ws = true by rw [hi]; decide)]
      obtain ⟨b3, b4⟩ := hS (r1.1 + 1) ((op, 0) :: ws) (cs ++ code1) (by omega) (yTL_hi (by omega) 0 ws)
      dsimp only
      cases hs2 : ySu sg n ch o (r1.1 + 1) with
      | inl f => exact flt f (by rw [step1]; exact b3 f hs2)
      | inr r2 =>
        obtain ⟨g1, g2, g3, w2, e2, code2, k1, k2, k3, k4, k5⟩ := b4 r2 hs2
        have ho2 := y_noop g3
        rw [List.length_append] at k5
        dsimp only
        by_cases q63 : sg r2.1 = 63
        · rw [if_pos q63]
          have hl2 : r2.1 < n := y_lt hE (by omega)
          have hi2 : yIc ((op, 0) :: ws) = true := by
            unfold yIc
            rw [Bool.and_eq_true, Nat.ble_eq, Nat.ble_eq]
            exact hop
          have hc63 : yCm (sg r2.1) = none := by rw [q63]; decide
          have at2 : yRr sg n false r2.1 o w2 e2 = if o = 6 then Sum.inl (5, r2.1) else yRr sg n true (r2.1 + 1) (o + 1) ((16, (cs ++ code1 ++ code2).length + 1) :: ws) (cs ++ code1 ++ code2 ++ [(op, 0), (13, 0)]) := by
            rw [yRr_b hE g2]
            unfold yRb
            rw [ho2]
            show yRt sg (yRr sg n) r2.1 o (yCl 1 w2 e2).1 (yCl 1 w2 e2).2 = _
            rw [k2]
            unfold yRt
            rw [hc63]
            show (if sg r2.1 = 63 then (if yIc ((op, 0) :: ws) = true then _ else _) else _) = _
            rw [if_pos q63, if_pos hi2]
            rfl
          by_cases q6 : o < 6
          · rw [if_pos q6]
            rw [if_neg (show ¬ o = 6 by omega)] at at2
            obtain ⟨b5, b6⟩ := h q6 (r2.1 + 1) ((16, (cs ++ code1 ++ code2).length + 1) :: ws) (cs ++ code1 ++ code2 ++ [(op, 0), (13, 0)]) (by omega) (yTL_hi (by omega) _ ws) rfl
            cases hs3 : ch (o + 1) (r2.1 + 1) with
            | inl f => exact flt f (by rw [step1, k1, at2]; exact b5 f hs3)
            | inr r3 =>
              obtain ⟨m1, m2, m3, m4, code3, m5, m6, m7, m8⟩ := b6 r3 hs3
              have eln : yLn ((16, (cs ++ code1 ++ code2).length + 1) :: ws) (cs ++ code1 ++ code2 ++ [(op, 0), (13, 0)] ++ code3) (o + 1) = ((16, (cs ++ code1 ++ code2).length + 1) :: ws, cs ++ code1 ++ code2 ++ [(op, 0), (13, 0)] ++ code3, o + 1) := if_neg (show ¬ (16 = 17) by decide)
              rw [eln] at m5
              dsimp only
              by_cases q58 : sg r3.1 = 58
              · rw [if_pos q58]
                have hl3 : r3.1 < n := y_lt hE (by omega)
                rw [if_neg (show ¬ sg r3.1 = 63 by omega)] at m5
                unfold yRu at m5
                rw [if_neg (show ¬ sg r3.1 = 41 by omega), if_pos q58] at m5
                have m5' : yRr sg n true (r2.1 + 1) (o + 1) ((16, (cs ++ code1 ++ code2).length + 1) :: ws) (cs ++ code1 ++ code2 ++ [(op, 0), (13, 0)]) = yRr sg n true (r3.1 + 1) (o + 1) ((17, (cs ++ code1 ++ code2 ++ [(op, 0), (13, 0)] ++ code3).length) :: ws) ((cs ++ code1 ++ code2 ++ [(op, 0), (13, 0)] ++ code3 ++ [(14, 0)]).set ((cs ++ code1 ++ code2).length + 1) (13, (cs ++ code1 ++ code2 ++ [(op, 0), (13, 0)] ++ code3).length + 1)) := m5
                have eset : (cs ++ code1 ++ code2 ++ [(op, 0), (13, 0)] ++ code3 ++ [(14, 0)]).set ((cs ++ code1 ++ code2).length + 1) (13, (cs ++ code1 ++ code2 ++ [(op, 0), (13, 0)] ++ code3).length + 1) = cs ++ (code1 ++ code2 ++ [(op, 0), (13, (cs ++ code1 ++ code2 ++ [(op, 0), (13, 0)] ++ code3).length + 1)] ++ code3 ++ [(14, 0)]) := by
                  generalize (13, (cs ++ code1 ++ code2 ++ [(op, 0), (13, 0)] ++ code3).length + 1) = z
                  rw [show cs ++ code1 ++ code2 ++ [(op, 0), (13, 0)] ++ code3 ++ [(14, 0)] = (cs ++ code1 ++ code2) ++ ([(op, 0), (13, 0)] ++ (code3 ++ [(14, 0)])) by simp only [List.append_assoc]]
                  rw [List.set_append_right _ _ (by omega), show (cs ++ code1 ++ code2).length + 1 - (cs ++ code1 ++ code2).length = 1 by omega]
                  show (cs ++ code1 ++ code2) ++ ((op, 0) :: z :: (code3 ++ [(14, 0)])) = _
                  simp only [List.append_assoc, List.cons_append, List.nil_append]
                rw [eset] at m5'
                obtain ⟨b7, b8⟩ := h q6 (r3.1 + 1) ((17, (cs ++ code1 ++ code2 ++ [(op, 0), (13, 0)] ++ code3).length) :: ws) (cs ++ (code1 ++ code2 ++ [(op, 0), (13, (cs ++ code1 ++ code2 ++ [(op, 0), (13, 0)] ++ code3).length + 1)] ++ code3 ++ [(14, 0)])) (by omega) (yTL_hi (by omega) _ ws) rfl
                cases hs4 : ch (o + 1) (r3.1 + 1) with
                | inl f => exact flt f (by rw [step1, k1, at2, m5']; exact b7 f hs4)
                | inr r4 =>
                  obtain ⟨x1, x2, x3, x4, code4, x5, x6, x7, x8⟩ := b8 r4 hs4
                  dsimp only
                  refine ⟨fun f e => (by cases e), fun r e => ?_⟩
                  cases e
                  simp only [List.length_append, List.length_cons, List.length_nil] at m8 x8
                  refine ⟨by show p < r4.1; omega, x2, x3, x4, code1 ++ code2 ++ [(op, 0), (13, (cs ++ code1 ++ code2 ++ [(op, 0), (13, 0)] ++ code3).length + 1)] ++ code3 ++ [(14, (cs ++ code1 ++ code2 ++ [(op, 0), (13, 0)] ++ code3).length + 1 + code4.length)] ++ code4, ?_, ?_, ?_, ?_⟩
                  · rw [step1, k1, at2, m5', x5]
                    have eln2 : yLn ((17, (cs ++ code1 ++ code2 ++ [(op, 0), (13, 0)] ++ code3).length) :: ws) (cs ++ (code1 ++ code2 ++ [(op, 0), (13, (cs ++ code1 ++ code2 ++ [(op, 0), (13, 0)] ++ code3).length + 1)] ++ code3 ++ [(14, 0)]) ++ code4) (o + 1) = yLn ws (cs ++ (code1 ++ code2 ++ [(op, 0), (13, (cs ++ code1 ++ code2 ++ [(op, 0), (13, 0)] ++ code3).length + 1)] ++ code3 ++ [(14, (cs ++ code1 ++ code2 ++ [(op, 0), (13, 0)] ++ code3).length + 1 + code4.length)] ++ code4)) o := by
                      have e0 : yLn ((17, (cs ++ code1 ++ code2 ++ [(op, 0), (13, 0)] ++ code3).length) :: ws) (cs ++ (code1 ++ code2 ++ [(op, 0), (13, (cs ++ code1 ++ code2 ++ [(op, 0), (13, 0)] ++ code3).length + 1)] ++ code3 ++ [(14, 0)]) ++ code4) (o + 1) = yLn ws ((cs ++ (code1 ++ code2 ++ [(op, 0), (13, (cs ++ code1 ++ code2 ++ [(op, 0), (13, 0)] ++ code3).length + 1)] ++ code3 ++ [(14, 0)]) ++ code4).set (cs ++ code1 ++ code2 ++ [(op, 0), (13, 0)] ++ code3).length (14, (cs ++ (code1 ++ code2 ++ [(op, 0), (13, (cs ++ code1 ++ code2 ++ [(op, 0), (13, 0)] ++ code3).length + 1)] ++ code3 ++ [(14, 0)]) ++ code4).length)) (o + 1 - 1) := if_pos rfl
                      rw [e0, show o + 1 - 1 = o by omega]
                      congr 1
                      have el : (cs ++ (code1 ++ code2 ++ [(op, 0), (13, (cs ++ code1 ++ code2 ++ [(op, 0), (13, 0)] ++ code3).length + 1)] ++ code3 ++ [(14, 0)]) ++ code4).length = (cs ++ code1 ++ code2 ++ [(op, 0), (13, 0)] ++ code3).length + 1 + code4.length := by
                        simp only [List.length_append, List.length_cons, List.length_nil]; omega
                      rw [el]
                      generalize (14, (cs ++ code1 ++ code2 ++ [(op, 0), (13, 0)] ++ code3).length + 1 + code4.length) = z
                      have e7 : (cs ++ code1 ++ code2 ++ [(op, 0), (13, 0)] ++ code3).length = (cs ++ code1 ++ code2 ++ [(op, 0), (13, (cs ++ code1 ++ code2 ++ [(op, 0), (13, 0)] ++ code3).length + 1)] ++ code3).length := by simp only [List.length_append, List.length_cons, List.length_nil]
                      generalize (13, (cs ++ code1 ++ code2 ++ [(op, 0), (13, 0)] ++ code3).length + 1) = y at e7 ⊢
                      rw [e7]
                      rw [show cs ++ (code1 ++ code2 ++ [(op, 0), y] ++ code3 ++ [(14, 0)]) ++ code4 = (cs ++ code1 ++ code2 ++ [(op, 0), y] ++ code3) ++ ([(14, 0)] ++ code4) by simp only [List.append_assoc]]
                      rw [List.set_append_right _ _ (Nat.le_refl _), Nat.sub_self]
                      show (cs ++ code1 ++ code2 ++ [(op, 0), y] ++ code3) ++ (z :: code4) = _
                      simp only [List.append_assoc, List.cons_append, List.nil_append]
                    rw [eln2]
                  · simp only [List.length_append, List.length_cons, List.length_nil]; show _ ≤ r4.1 - p; omega
                  · simp only [List.length_append, List.length_cons, List.length_nil]; show _ ≤ r4.1 - p; omega
                  · refine yCp_if (k3 := (cs ++ code1 ++ code2 ++ [(op, 0), (13, 0)] ++ code3).length + 1) hcm d5 k5 ?_ ?_ ?_ rfl
                    · simp only [List.length_append, List.length_cons, List.length_nil]
                    · rw [show cs.length + code1.length + code2.length + 2 = cs.length + code1.length + code2.length + (0 + 1 + 1) by omega]; exact m8
                    · have e9 : List.length (cs ++ code1 ++ code2 ++ [(op, 0), (13, 0)] ++ code3) + 1 = cs.length + (code1.length + code2.length + (0 + 1 + 1) + code3.length + (0 + 1)) := by
                        simp only [List.length_append, List.length_cons, List.length_nil]; omega
                      rw [e9]; exact x8
              · rw [if_neg q58]
                refine flt _ ?_
                rw [step1, k1, at2, m5]
                by_cases q4 : sg r3.1 = 63
                · rw [if_pos q4]
                · rw [if_neg q4]
                  unfold yRu
                  by_cases q5 : sg r3.1 = 41
                  · rw [if_pos q5]; rfl
                  · rw [if_neg q5, if_neg q58]; rfl
          · rw [if_neg q6]
            rw [if_pos (show o = 6 by omega)] at at2
            exact flt _ (by rw [step1, k1, at2])
        · rw [if_neg q63]
          exact flt _ (by rw [step1, k1]; exact y_cmp_end hE g2 ho2 q63 hop k2)
theorem yCh_S (hE : ∀ p, n ≤ p → sg p = 999) : ∀ k o, 7 ≤ k + o → o ≤ 6 → yChS sg n o (yCh sg n k o) := by
  intro k
  induction k with
  | zero => intro o h h2; omega
  | succ k ih =>
    intro o h h2
    exact yC1_S hE h2 (fun h3 => ih (o + 1) (by omega) (by omega))
end
