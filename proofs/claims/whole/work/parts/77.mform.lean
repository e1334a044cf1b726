/-! a formula in the reference -/
theorem ite_sm {c : Prop} {d : Decidable c} (a b : Int32) (M : SM) : @ite _ c d (some (a, M)) (some (b, M)) = some (@ite _ c d a b, M) := by split <;> rfl
def fO (x0 : Int32) : Int32 := if x0 = (100 : Int32) then (1 : Int32) else if x0 = (101 : Int32) then (-1 : Int32) else if x0 = (102 : Int32) then (5 : Int32) else if x0 = (103 : Int32) then (0 : Int32) else if x0 = (104 : Int32) then (6 : Int32) else if x0 = (105 : Int32) then (7 : Int32) else if x0 = (106 : Int32) then (-1 : Int32) else if x0 = (107 : Int32) then (-1 : Int32) else if x0 = (108 : Int32) then (-1 : Int32) else if x0 = (109 : Int32) then (-1 : Int32) else if x0 = (110 : Int32) then (3 : Int32) else if x0 = (111 : Int32) then (8 : Int32) else if x0 = (112 : Int32) then (-1 : Int32) else if x0 = (113 : Int32) then (-1 : Int32) else if x0 = (114 : Int32) then (-1 : Int32) else if x0 = (115 : Int32) then (2 : Int32) else if x0 = (116 : Int32) then (-1 : Int32) else if x0 = (117 : Int32) then (-1 : Int32) else if x0 = (118 : Int32) then (-1 : Int32) else if x0 = (119 : Int32) then (9 : Int32) else if x0 = (120 : Int32) then (-1 : Int32) else if x0 = (121 : Int32) then (4 : Int32) else (-1 : Int32)
def oO (x0 : Int32) : Int32 := if x0 = (37 : Int32) then (7 : Int32) else if x0 = (42 : Int32) then (5 : Int32) else if x0 = (43 : Int32) then (3 : Int32) else if x0 = (45 : Int32) then (4 : Int32) else if x0 = (47 : Int32) then (6 : Int32) else if x0 = (60 : Int32) then (10 : Int32) else if x0 = (61 : Int32) then (12 : Int32) else if x0 = (62 : Int32) then (11 : Int32) else if x0 = (94 : Int32) then (9 : Int32) else if x0 = (95 : Int32) then (8 : Int32) else (-1 : Int32)
theorem factOf_e (x : Int32) (M : SM) : qmd_factOf x M = some (fO x, M) := by
  unfold qmd_factOf
  simp only [ite_sm]
  rfl
theorem opOf_e (x : Int32) (M : SM) : qmd_opOf x M = some (oO x, M) := by
  unfold qmd_opOf
  simp only [ite_sm]
  rfl
theorem fO_g : ∀ c, c < 256 → fO (nI c) = (match yFc c with | none => -1 | some w => nI w) := by decide +kernel
theorem oO_g : ∀ c, c < 256 → oO (nI c) = (match yOp c with | none => (match yCm c with | none => -1 | some w => nI w) | some w => nI w) := by decide +kernel
theorem fO_ok {c : Nat} (h : cOk c) : fO (sv c) = (match yFc c with | none => -1 | some w => nI w) := by
  rcases h with rfl | h
  · decide
  · rw [sv_n h]; exact fO_g c h
theorem isDm_g {c : Nat} (hc : cOk c) (M : SM) : qmd_isDigit (sv c) M = some (if yDg c = true then 1 else 0, M) := isDg_g hc M
theorem isLm_g {c : Nat} (hc : cOk c) (M : SM) : qmd_isLetter (sv c) M = some (if yLt c = true then 1 else 0, M) := by
  unfold qmd_isLetter
  rw [iLt hc]
  by_cases q : yLt c = true
  · rw [if_pos q, if_pos q]
  · rw [if_neg q, if_neg q]
theorem wrong_e (k p : Nat) (M : SM) : qmd_wrong (nI k) (nI p) M = some (0, wI M 280 16 (((-1000 : Int32) * nI k) - nI p)) := rfl
def zw (k : Int32) (M : SM) : Option (Int32 × SM) := ob (qmd_wrong k (M.1 280 14) M) (fun r M11 => ck (decide (r = 0) || decide (r = 1)) (some (r, M11)))
theorem zw_e (k : Int32) (M : SM) : zw k M = some (0, wI M 280 16 (((-1000 : Int32) * k) - M.1 280 14)) := rfl
def zdig (M19 : SM) : Option (Int32 × SM) := qmd_readsFactor_L77 (zw (2 : Int32)) (fun y3_73 M74 =>
      ob (qmd_says (0 : Int32) y3_73 M74) (fun _ M75 =>
        some ((1 : Int32), M75))) FU (M19.1 280 14) (0 : Int32) M19
def zk58 (M14 : SM) : Option (Int32 × SM) :=
  ob (qmd_sign M14) (fun r15 M16 =>
    ob (qmd_isDigit r15 M16) (fun r18 M19 =>
    if r18 = 0 then
    (ob (qmd_isLetter r15 M19) (fun r21 M22 =>
      jn (fun (x1_24 : Int32) (M25 : SM) =>
        ob (qmd_isLetter x1_24 M25) (fun r26 M27 =>
          jn (fun (x1_29 : Int32) (t30 : Int32) (M31 : SM) =>
            ob (qmd_isLetter x1_29 M31) (fun r32 M33 =>
              jn (fun (t35 : Int32) (M36 : SM) =>
                ob (qmd_says t30 t35 M36) (fun _ M37 =>
                  some ((1 : Int32), (wI M37 280 14 ((M37.1 280 14) + (1 : Int32)))))) (fun j40 =>
              if r32 = 0 then
              (ob (qmd_factOf x1_29 M33) (fun r41 M42 =>
                j40 r41 M42)) else
              (j40 (x1_29 - (65 : Int32)) M33)))) (fun j45 =>
          if r26 = 0 then
          (j45 x1_24 (2 : Int32) M27) else
          (j45 x1_24 (1 : Int32) M27)))) (fun j47 =>
      if r21 = 0 then
      (ob (qmd_factOf r15 M22) (fun r48 M49 =>
        if r48 = (-1 : Int32) then
        (zw (1 : Int32) M49) else
        (j47 r15 M49))) else
      (j47 r15 M22)))) else
    (zdig M19)))
theorem readsFactor_e (M : SM) : qmd_readsFactor M = qmd_readsFactor_L0 (zw (5 : Int32)) zk58 FU M := rfl
def zk174 (M72 : SM) : Option (Int32 × SM) :=
  ob (qmd_closes (1 : Int32) M72) (fun _ M73 =>
    ob (qmd_top M73) (fun r76 M77 =>
    ob (qmd_isCompared r76 M77) (fun r79 M80 =>
    if r79 = 0 then
    (ob (qmd_lands M80) (fun _ M82 =>
      if (M82.1 280 19) = 0 then
      (some ((1 : Int32), M82)) else
      (ob (qmd_wrong (1 : Int32) (M82.1 280 14) M82) (fun r85 M86 =>
        if r85 = 0 then
        (some ((0 : Int32), M86)) else
        (some ((1 : Int32), M86)))))) else
    (zw (1 : Int32) M80))))
def zco (n : Nat) (M12 : SM) : Option (Int32 × SM) :=
      ob (qmd_sign M12) (fun r13 M14 =>
        jn (fun (x1_16 : Int32) (t17 : Int32) (M18 : SM) =>
          jn (fun (x1_19 : Int32) (x2_20 : Int32) (M21 : SM) =>
              if x2_20 = (-1 : Int32) then
                (if x1_19 = (63 : Int32) then
                  (ob (qmd_asks M21) (fun r22 M23 =>
                    if r22 = 0 then
                    (some ((0 : Int32), M23)) else
                    (qmd_readsFormula_L10 (zw (1 : Int32)) zk174 n M23))) else
                  (if x1_19 = (58 : Int32) then
                    (ob (qmd_turns M21) (fun r26 M27 =>
                      if r26 = 0 then
                      (some ((0 : Int32), M27)) else
                      (qmd_readsFormula_L10 (zw (1 : Int32)) zk174 n M27))) else
                    (zk174 M21))) else
                (ob (qmd_closes (1 : Int32) M21) (fun _ M32 =>
                  ob (qmd_top M32) (fun r35 M36 =>
                  ob (qmd_isCompared r35 M36) (fun r38 M39 =>
                  if r38 = 0 then
                  (ob (qmd_holds x2_20 (0 : Int32) M39) (fun _ M41 =>
                    qmd_readsFormula_L10 (zw (1 : Int32)) zk174 n (wI M41 280 14 ((M41.1 280 14) + (1 : Int32))))) else
                  (zw (1 : Int32) M39)))))) (fun j46 =>
            if t17 = (-1 : Int32) then
            (j46 x1_16 t17 M18) else
            (ob (qmd_isSum t17 M18) (fun r47 M48 =>
              if r47 = 0 then
              (j46 x1_16 t17 M48) else
              (ob (qmd_binds t17 M48) (fun r50 M51 =>
                ob (qmd_closes r50 M51) (fun _ M53 =>
                ob (qmd_holds t17 (0 : Int32) M53) (fun _ M56 =>
                qmd_readsFormula_L10 (zw (1 : Int32)) zk174 n (wI M56 280 14 ((M56.1 280 14) + (1 : Int32))))))))))) (fun j61 =>
        if r13 = (-1 : Int32) then
        (j61 r13 (-1 : Int32) M14) else
        (ob (qmd_opOf r13 M14) (fun r62 M63 =>
          j61 r13 r62 M63))))
/-- from a factor on, and from behind one on -/
def aRun (a b : Nat) (M : SM) : Option (Int32 × SM) := ob (qmd_readsFactor_L0 (zw (5 : Int32)) zk58 b M) (fun r1 M2 =>
    if r1 = 0 then
    (some ((0 : Int32), M2)) else
    (qmd_readsFormula_L19 (zco a) FU M2))
theorem L10_e (a : Nat) (M : SM) : qmd_readsFormula_L10 (zw (1 : Int32)) zk174 (a + 1) M = aRun a FU M := rfl
theorem readsFormula_e (M : SM) : qmd_readsFormula M = qmd_readsFormula_L10 (zw (1 : Int32)) zk174 FU (wI (wI M 280 17 (0 : Int32)) 280 19 (0 : Int32)) := rfl
/-- what a reading comes to -/
def rOut (n : Nat) (r : Int32) (M : SM) (res : yR) : Prop := match res with
  | Sum.inl g => r = 0 ∧ M.1 280 16 = ((-1000 : Int32) * nI g.1) - nI g.2
  | Sum.inr g => r = 1 ∧ rSt M n g.1 0 [] g.2
section
variable {sg : Nat → Nat} {n : Nat}
theorem rSt_m {M M' : SM} {p o : Nat} {ws cs : yL} (h : rSt M n p o ws cs) {s : Nat → Nat → Prop} (os : Ou s M M') {p' o' : Nat} {ws' cs' : yL} (hs : ∀ c i, s c i → ¬ (c = 280 ∧ i = 15)) (h14 : M'.1 280 14 = nI p') (h17 : M'.1 280 17 = nI o') (hA : rA M' cs') (hW : rW M' ws') (hI : rI p' o' ws' cs') : rSt M' n p' o' ws' cs' := ⟨h14, by rw [os.1 280 15 (fun z => hs _ _ z ⟨rfl, rfl⟩)]; exact h.2.1, h17, hA, hW, hI⟩
theorem tR_hi {M : SM} (h : tR M sg n) : n ≤ 200 := h.1
/-- a code said, a sign passed -/
theorem said_g {M : SM} {p o : Nat} {ws cs : yL} (h : rSt M n p o ws cs) {q : Nat} (hq : p < q) (hq2 : q ≤ 200) (op v : Nat) {M' : SM} (hr : qmd_says (nI op) (nI v) M = some ((), M')) : ∃ M2 : SM, wI M' 280 14 (nI q) = M2 ∧ rSt M2 n q o ws (cs ++ [(op, v)]) ∧ Ou rpR M M2 := by
  obtain ⟨h1, h2, h3, h4, h5, h6⟩ := h
  obtain ⟨i1, i2, i3, i4, i5⟩ := h6
  obtain ⟨M1, g1, g2, g3⟩ := says_g h4 (show cs.length < 220 by omega) op v
  rw [hr] at g1
  obtain rfl : M' = M1 := (some_p g1).2
  have o1 : Ou (fun c i => (c = 280 ∧ (i = 14 ∨ i = 18)) ∨ c = 290) M (wI M' 280 14 (nI q)) := (g3.mono (fun c i z => by omega)).wI (by omega)
  refine ⟨_, rfl, ⟨by rw [wI_1, if_pos ⟨rfl, rfl⟩], by rw [o1.1 280 15 (by omega)]; exact h2, by rw [o1.1 280 17 (by omega)]; exact h3, ?_, h5.fr o1 (fun c i z => by omega), ⟨i1, by omega, by rw [List.length_append, List.length_singleton]; omega, hq2, fun t ht => ?_⟩⟩, o1.mono (fun c i z => by unfold rpR; omega)⟩
  · exact g2.fr (s := fun c i => c = 280 ∧ i = 14) ((Ou.rf _ _).wI ⟨rfl, rfl⟩) (fun c i z => by omega)
  · obtain ⟨a1, a2, a3, a4⟩ := i5 t ht
    exact ⟨a1, a2, a3, fun z => by have := a4 z; rw [List.length_append]; omega⟩
theorem mdig_g (hE : ∀ p, n ≤ p → sg p = 999) (h256 : ∀ p, p < n → sg p < 256) {x p0 : Nat} : ∀ (k fu p v : Nat) (M : SM) (o : Nat) (ws cs : yL), k < fu → k ≤ 6 → p = p0 + (6 - k) → v < 10 ^ (6 - k) → tR M sg n → p ≤ n → M.1 280 14 = nI p → M.1 280 15 = nI n →
    ∃ M' : SM, qmd_readsFactor_L77 (zw (2 : Int32)) (fun y3_73 M74 => ob (qmd_says (0 : Int32) y3_73 M74) (fun _ M75 => some ((1 : Int32), M75))) fu (nI p0) (nI v) M =
      (match yDs sg k p v with
      | Sum.inl q => zw (2 : Int32) M'
      | Sum.inr r => ob (qmd_says (0 : Int32) (nI r.2) M') (fun _ M75 => some ((1 : Int32), M75))) ∧
      (match yDs sg k p v with
      | Sum.inl q => q ≤ n ∧ M'.1 280 14 = nI q
      | Sum.inr r => r.1 ≤ n ∧ M'.1 280 14 = nI r.1) ∧ Ou (fun c i => c = 280 ∧ i = 14) M M' := by
  intro k
  induction k with
  | zero =>
    intro fu p v M o ws cs hf hk hp0 hv ht hp h14 h15
    have hn := ht.1
    have hc : cOk (sg p) := by
      by_cases q : p < n
      · exact Or.inr (h256 p q)
      · exact Or.inl (hE p (by omega))
    obtain ⟨fu, rfl⟩ : ∃ y, fu = y + 1 := ⟨fu - 1, by omega⟩
    unfold qmd_readsFactor_L77 yDs
    rw [sign_g hE h256 ht hp h14 h15, ob_s, isDm_g hc, ob_s]
    by_cases q : yDg (sg p) = true
    · rw [if_pos q, if_neg (by decide), if_pos q, h14, show (6 : Int32) = nI 6 from rfl, nI_add, if_pos (by rw [hp0])]
      exact ⟨M, rfl, ⟨hp, h14⟩, Ou.rf _ _⟩
    · rw [if_neg q, if_pos rfl, if_neg q]
      exact ⟨M, rfl, ⟨hp, h14⟩, Ou.rf _ _⟩
  | succ k ih =>
    intro fu p v M o ws cs hf hk hp0 hv ht hp h14 h15
    have hn := ht.1
    have hc : cOk (sg p) := by
      by_cases q : p < n
      · exact Or.inr (h256 p q)
      · exact Or.inl (hE p (by omega))
    obtain ⟨fu, rfl⟩ : ∃ y, fu = y + 1 := ⟨fu - 1, by omega⟩
    have hds : yDs sg (k + 1) p v = if yDg (sg p) = true then yDs sg k (p + 1) (10 * v + (sg p - 48)) else Sum.inr (p, v) := rfl
    rw [hds]
    unfold qmd_readsFactor_L77
    rw [sign_g hE h256 ht hp h14 h15, ob_s, isDm_g hc, ob_s]
    by_cases q : yDg (sg p) = true
    · have hd := yDg_iff.mp q
      have hl : p < n := y_lt hE (by omega)
      have hv6 : v < 1000000 := Nat.lt_of_lt_of_le hv (Nat.pow_le_pow_right (n := 10) (by omega) (show 6 - (k + 1) ≤ 6 by omega))
      have e10 : 10 ^ (6 - k) = 10 ^ (6 - (k + 1)) * 10 := by rw [← Nat.pow_succ]; congr 1; omega
      have o1 : Ou (fun c i => c = 280 ∧ i = 14) M (wI M 280 14 (nI (p + 1))) := (Ou.rf _ _).wI ⟨rfl, rfl⟩
      rw [if_pos q, if_neg (by decide), if_pos q, h14, show (6 : Int32) = nI 6 from rfl, nI_add, if_neg (fun z => by have := nI_inj (by omega) (by omega) z; omega), sign_g hE h256 ht hp h14 h15, ob_s, sv_n (by omega), show (10 : Int32) = nI 10 from rfl, nI_mul, nI_add, show (48 : Int32) = nI 48 from rfl, nI_subN (by omega), h14, nI_1, show 10 * v + sg p - 48 = 10 * v + (sg p - 48) by omega]
      obtain ⟨M', g1, g2, g3⟩ := ih fu (p + 1) (10 * v + (sg p - 48)) (wI M 280 14 (nI (p + 1))) o ws cs (by omega) (by omega) (by omega) (by omega) ⟨ht.1, fun p hp => by rw [wI_1, if_neg (by omega)]; exact ht.2 p hp⟩ (by omega) (by rw [wI_1, if_pos ⟨rfl, rfl⟩]) (by rw [wI_1, if_neg (by omega)]; exact h15)
      exact ⟨M', g1, g2, o1.tr g3⟩
    · rw [if_neg q, if_pos rfl, if_neg q]
      exact ⟨M, rfl, ⟨hp, h14⟩, Ou.rf _ _⟩
end
