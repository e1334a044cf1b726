/-! factors, bounds, terms, sums and choices in the class -/
theorem lt6 {o : Nat} (h : o < 6) : nI o < (6 : Int32) := nI_lt (b := 6) h (by decide)
theorem nlt6 {o : Nat} (h : 6 ≤ o ∧ o < 100) : ¬ nI o < (6 : Int32) := nI_nlt (b := 6) h.1 (by omega)
section
variable {sg : Nat → Nat} {n s z f : Nat}
theorem hasRoom_g (hK : shK s z) {M : SM} (h : M.1 s 3 = nI f) (hf : f < 10) : qsh_hasRoom s M = some (1, M) := by
  unfold qsh_hasRoom
  rw [ckb (and_i hK.kc rfl), h, if_neg (nI_lt0 (by omega)), ckb (and_i hK.kc rfl), if_pos (nl_10 hf)]
theorem let_g (hK : shK s z) {M : SM} {p : Nat} {a b : yL} (h : cS M s n p f a b) (hl : (a ++ b).length < z) (x : Nat) (hf : f < 10) : ∃ M1 M2 : SM, qsh_put s (65 : Int32) (nI x) M = some ((), M1) ∧ M1.1 3 1 = nI s ∧ qsh_need s (nI x) M1 = some ((), M2) ∧ cS M2 s n p f a (b ++ [(65, x)]) ∧ Ou (rdF s f) M M2 := by
  have k1 := hK.1
  obtain ⟨k1', k2, k3, k4, k5, k6, k7, k8, k9, r0, r1, r4, r5, r6, r7, r8⟩ := id hK
  obtain ⟨⟨a1, a2, a3, a4⟩, ⟨b1, b2⟩, c1, c2⟩ := h
  have hp := put_s hK b1 hl (65 : Int32) (nI x)
  rw [show i2c' (65 : Int32) = nI 65 from i2c_n 65 (by omega)] at hp
  generalize hM1 : (wI (wI (wI M (s + 1) (a ++ b).length (nI 65)) (s + 2) (a ++ b).length (nI x)) s 2 (nI ((a ++ b).length + 1))) = M1 at hp
  have g : ∀ c i, M1.1 c i = if c = s ∧ i = 2 then nI ((a ++ b).length + 1) else if c = s + 2 ∧ i = (a ++ b).length then nI x else if c = s + 1 ∧ i = (a ++ b).length then nI 65 else M.1 c i := fun c i => by
    rw [← hM1, wI_1, wI_1, wI_1]
  have g2 : M1.2 = M.2 := by rw [← hM1]; rfl
  have e3 : M1.1 s 3 = nI f := by rw [g, if_neg (by omega), if_neg (by omega), if_neg (by omega)]; exact c1
  have e6 : M1.1 (s + 6) f = ndM b 0 := by rw [g, if_neg (by omega), if_neg (by omega), if_neg (by omega)]; exact c2
  obtain ⟨j1, j2⟩ := k9 6 (by omega) (by omega)
  have hav : av 336 20 (s + 6) (nI f) = true := av_n j1 (by omega) (by omega) (by omega)
  refine ⟨M1, wI M1 (s + 6) f (ndM b 0 ||| ((1 : Int32) <<< (nI x &&& 31))), hp, ?_, ?_, ⟨⟨?_, ?_, ?_, ?_⟩, ⟨?_, fun i t hi => ?_⟩, ?_, ?_⟩, ⟨fun c i q => ?_, g2⟩⟩
  · rw [g, if_neg (by omega), if_neg (by omega), if_neg (by omega)]; exact a1
  · unfold qsh_need
    rw [ckb hK.kc, hasRoom_g hK e3 hf, ob_s, if_neg (by decide), e3, ckb (and_i (and_i hK.kc (decide_eq_true r7)) (and_i hK.kc (and_i hav (and_i hav rfl)))), nI_cl (by omega), e6]
  · rw [wI_1, if_neg (by omega), g, if_neg (by omega), if_neg (by omega), if_neg (by omega)]; exact a1
  · rw [wI_1, if_neg (by omega), g, if_neg (by omega), if_neg (by omega), if_neg (by omega)]; exact a2
  · rw [wI_1, if_neg (by omega), g, if_neg (by omega), if_neg (by omega), if_neg (by omega)]; exact a3
  · rw [wI_1, if_neg (by omega), g, if_neg (by omega), if_neg (by omega), if_neg (by omega)]; exact a4
  · rw [wI_1, if_neg (by omega), g, if_pos ⟨rfl, rfl⟩]; simp only [List.length_append, List.length_singleton]; rfl
  · rw [wI_1, if_neg (by omega), wI_1, if_neg (by omega)]
    rw [← List.append_assoc] at hi
    by_cases q : i < (a ++ b).length
    · rw [List.getElem?_append_left q] at hi
      obtain ⟨d1, d2⟩ := b2 i t hi
      refine ⟨?_, ?_⟩
      · rw [g, if_neg (by omega), if_neg (by omega), if_neg (by omega)]; exact d1
      · rw [g, if_neg (by omega), if_neg (by omega), if_neg (by omega)]; exact d2
    · rw [List.getElem?_append_right (by omega)] at hi
      have q2 : i - (a ++ b).length = 0 := by
        by_cases z0 : i - (a ++ b).length = 0
        · exact z0
        · rw [List.getElem?_eq_none (by simp only [List.length_singleton]; omega)] at hi; cases hi
      rw [q2] at hi
      obtain rfl : (65, x) = t := Option.some.inj hi
      obtain rfl : i = (a ++ b).length := by omega
      refine ⟨?_, ?_⟩
      · rw [g, if_neg (by omega), if_neg (by omega), if_pos ⟨rfl, rfl⟩]
      · rw [g, if_neg (by omega), if_pos ⟨rfl, rfl⟩]
  · rw [wI_1, if_neg (by omega)]; exact e3
  · rw [wI_1, if_pos ⟨rfl, rfl⟩, ndM_app]; rfl
  · unfold rdF at q
    rw [wI_1, if_neg (by omega), g, if_neg (by omega), if_neg (by omega), if_neg (by omega)]
/-- what surrounds -/
def yEn (sg : Nat → Nat) (n s z f : Nat) : Prop := shK s z ∧ n ≤ z ∧ f < 10 ∧ (∀ p, n ≤ p → sg p = 999) ∧ ∀ p, p < n → sg p < 256
theorem yEn.ok (h : yEn sg n s z f) (p : Nat) : cOk (sg p) := by
  by_cases q : p < n
  · exact Or.inr (h.2.2.2.2 p q)
  · exact Or.inl (h.2.2.2.1 p (by omega))
theorem factor_g (hN : yEn sg n s z f) {o : Nat} (ho : o ≤ 6) {chC : Int32 → SM → Option (Unit × SM)} {chP : Nat → Nat → yR} (hS : o < 6 → yChS sg n (o + 1) (chP (o + 1))) (h : o < 6 → cG sg n s z f (chC (nI (o + 1))) (chP (o + 1))) : cG sg n s z f (qrd_factor chC (nI o)) (yFa sg chP o) := by
  obtain ⟨hK, hnz, hf, hE, h256⟩ := id hN
  have hs := hK.1
  refine ⟨fun M p a b ht hp hl hc => ?_, fun M k q hc => ?_⟩
  · have hok := hN.ok p
    have hnx := next_g hE h256 ht hp hc.1
    have wr : ∀ (K : Int32) (k : Nat), K = nI k → 1 ≤ k → k ≤ 9 → ∃ M' : SM, qrd_fail K M = some ((), M') ∧ cF M' s n z k p f ∧ Ou (rdF s f) M M' := fun K k e1 e2 e3 => fail_g hc (by omega) hs e1 e2 e3
    unfold yFa qrd_factor
    rw [hnx, ob_s, iSg (K := (40 : Int32)) hok 40 (by omega) rfl]
    by_cases q1 : sg p = 40
    · have hlt : p < n := y_lt hE (by omega)
      rw [if_pos q1, if_pos q1]
      unfold qrd_inBrackets
      by_cases q2 : o < 6
      · rw [if_pos q2, if_pos (lt6 q2), nI_1]
        obtain ⟨g1, g2⟩ := at_g hs hc
        obtain ⟨b1, b2⟩ := (h q2).1 _ (p + 1) a b (ht.fr hs g2) (by omega) (by omega) g1
        cases hch : chP (o + 1) (p + 1) with
        | inl k =>
          refine ⟨fun k' e => ?_, fun r e => (by cases e)⟩
          cases e
          obtain ⟨M', x1, x2, x3⟩ := b1 _ hch
          refine ⟨M', ?_, x2, g2.tr x3⟩
          rw [x1, ob_s, expect_f (K := (41 : Int32)) x2 (j := 41) (by omega) rfl, ob_s, ob_s]
        | inr r =>
          obtain ⟨M', x1, x2, x3⟩ := b2 _ hch
          obtain ⟨-, y2⟩ := hS q2 (p + 1) [] [] (by omega) yTL_nil rfl
          obtain ⟨y3, y4, -, -, code, -, -, y5, -⟩ := y2 r hch
          simp only [List.length_append] at hl
          obtain ⟨M'', w1, w2, w3⟩ := expect_g (z := z) hE h256 hs (ht.fr hs (g2.tr x3)) y4 (by simp only [List.length_append]; omega) x2 (K := 41) 41 (by omega) rfl
          have run : ob (ob (chC (nI (o + 1)) (wI M 3 3 ((M.1 3 3) + (1 : Int32)))) (fun _ M1 => ob (qrd_expect (41 : Int32) M1) (fun _ M4 => some ((), M4)))) (fun _ M4 => some ((), M4)) = some ((), M'') := by
            rw [x1, ob_s, w1, ob_s, ob_s]
          by_cases q3 : sg r.1 = 41
          · show (∀ k, (if sg r.1 = 41 then (Sum.inr (r.1 + 1, r.2) : yR) else Sum.inl (1, r.1)) = Sum.inl k → _) ∧ (∀ r', (if sg r.1 = 41 then (Sum.inr (r.1 + 1, r.2) : yR) else Sum.inl (1, r.1)) = Sum.inr r' → _)
            rw [if_pos q3] at w2 ⊢
            exact ⟨fun k e => (by cases e), fun r' e => by cases e; exact ⟨M'', run, w2, (g2.tr x3).tr w3⟩⟩
          · show (∀ k, (if sg r.1 = 41 then (Sum.inr (r.1 + 1, r.2) : yR) else Sum.inl (1, r.1)) = Sum.inl k → _) ∧ (∀ r', (if sg r.1 = 41 then (Sum.inr (r.1 + 1, r.2) : yR) else Sum.inl (1, r.1)) = Sum.inr r' → _)
            rw [if_neg q3] at w2 ⊢
            exact ⟨fun k e => by cases e; exact ⟨M'', run, w2, (g2.tr x3).tr w3⟩, fun r' e => (by cases e)⟩
      · rw [if_neg q2, if_neg (nlt6 (by omega))]
        refine ⟨fun k e => ?_, fun r e => (by cases e)⟩
        cases e
        obtain ⟨M', x1, x2, x3⟩ := wr 5 5 rfl (by omega) (by omega)
        exact ⟨M', by rw [x1, ob_s, ob_s], x2, x3⟩
    · rw [if_neg q1, if_neg q1]
      by_cases q2 : yDg (sg p) = true
      · have hlt : p < n := y_lt hE (by have := yDg_iff.mp q2; omega)
        rw [if_pos q2, isDg_t hok q2, ob_s, if_neg (by decide)]
        unfold qrd_digits
        obtain ⟨M', q, w, x1, x2, x3, x4, x5, x6⟩ := digits_g (K := fun y1_12 M13 =>
  ob (qrd_next M13) (fun r14 M15 =>
    ob (qrd_isDigit r14 M15) (fun r17 M18 =>
    jn (fun (x1_20 : Int32) (M21 : SM) =>
      ck (decide (¬ (M21.1 3 1) < 0) && true) (
        ck (kc 336 (Int32.toNatClampNeg (M21.1 3 1)) 8) (ob (qsh_put (Int32.toNatClampNeg (M21.1 3 1)) (48 : Int32) x1_20 M21) (fun _ M24 =>
        some ((), M24))))) (fun j27 =>
    if r17 = 0 then
    (j27 y1_12 M18) else
    (ob (qrd_fail (2 : Int32) M18) (fun _ M28 =>
      j27 y1_12 M28)))))) hE h256 hs 6 FU p 0 M (by unfold FU; omega) (by omega) (by decide) ht hp hc
        have hnx2 := next_g hE h256 (ht.fr hs x5) x2 x4.1
        rw [show qrd_digits_L4 (fun y1_12 M13 =>
  ob (qrd_next M13) (fun r14 M15 =>
    ob (qrd_isDigit r14 M15) (fun r17 M18 =>
    jn (fun (x1_20 : Int32) (M21 : SM) =>
      ck (decide (¬ (M21.1 3 1) < 0) && true) (
        ck (kc 336 (Int32.toNatClampNeg (M21.1 3 1)) 8) (ob (qsh_put (Int32.toNatClampNeg (M21.1 3 1)) (48 : Int32) x1_20 M21) (fun _ M24 =>
        some ((), M24))))) (fun j27 =>
    if r17 = 0 then
    (j27 y1_12 M18) else
    (ob (qrd_fail (2 : Int32) M18) (fun _ M28 =>
      j27 y1_12 M28)))))) FU (0 : Int32) (0 : Int32) M = _ from x1]
        rw [hnx2, ob_s, x6]
        by_cases q3 : yDg (sg q) = true
        · rw [if_pos q3, isDg_t (hN.ok q) q3, ob_s]
          refine ⟨fun k e => ?_, fun r e => (by cases e)⟩
          cases e
          obtain ⟨M2, z1, z2, z3⟩ := fail_g (z := z) x4 (by omega) hs (K := 2) (k := 2) rfl (by omega) (by omega)
          obtain ⟨M3, z4, z5, z6⟩ := put_f hK z2 (48 : Int32) (nI w)
          refine ⟨M3, ?_, z5, (x5.tr z3).tr z6⟩
          simp only [jn_ap]
          rw [if_neg (by decide), z1, ob_s]
          rw [sh_ck hK z2.1 (fun s' => ob (qsh_put s' (48 : Int32) (nI w) M2) (fun _ M24 => some ((), M24))), z4, ob_s, ob_s]
        · rw [if_neg q3, isDg_f (hN.ok q) q3, ob_s]
          refine ⟨fun k e => (by cases e), fun r e => ?_⟩
          cases e
          obtain ⟨M3, z4, z5, z6⟩ := put_g hK x4 (by omega) 48 w (by omega) hf (by omega)
          refine ⟨M3, ?_, z5, x5.tr z6⟩
          simp only [jn_ap]
          rw [if_pos trivial]
          rw [sh_ck hK x4.1.1 (fun s' => ob (qsh_put s' (48 : Int32) (nI w) M') (fun _ M24 => some ((), M24))), show (48 : Int32) = nI 48 from rfl, z4, ob_s, ob_s]
      · rw [if_neg q2, isDg_f hok q2, ob_s, if_pos rfl]
        simp only [jn_ap]
        rw [iLt hok]
        by_cases q3 : yLt (sg p) = true
        · have hle := yLt_iff.mp q3
          have hlt : p < n := y_lt hE (by omega)
          rw [if_pos q3, if_pos q3]
          refine ⟨fun k e => (by cases e), fun r e => ?_⟩
          cases e
          have e65 : sv (sg p) - (65 : Int32) = nI (sg p - 65) := by rw [sv_n (by omega), show (65 : Int32) = nI 65 from rfl, nI_subN (by omega)]
          obtain ⟨M1, M2, z1, z2, z3, z4, z5⟩ := let_g hK hc (by omega) (sg p - 65) hf
          obtain ⟨w1, w2⟩ := at_g hs z4
          refine ⟨_, ?_, w1, z5.tr w2⟩
          rw [e65]
          rw [sh_ck hK hc.1.1 (fun s' => ob (qsh_put s' (65 : Int32) (nI (sg p - 65)) M) (fun _ M18 =>
          ck (decide (¬ (M18.1 3 1) < 0) && true) (
          ck (kc 336 (Int32.toNatClampNeg (M18.1 3 1)) 8) (ob (qsh_need (Int32.toNatClampNeg (M18.1 3 1)) (nI (sg p - 65)) M18) (fun _ M23 =>
          some ((), (wI M23 3 3 ((M23.1 3 3) + (1 : Int32))))))))), z1, ob_s]
          rw [sh_ck hK z2 (fun s' => ob (qsh_need s' (nI (sg p - 65)) M1) (fun _ M23 =>
          some ((), (wI M23 3 3 ((M23.1 3 3) + (1 : Int32)))))), z3, ob_s]
        · rw [if_neg q3, if_neg q3]
          unfold qrd_fact
          simp only [jn_ap]
          rw [iSm hok]
          have bad : yFc (sg p) = none → ∀ t : Int32, t = -1 → (if t < 0 then
      (ob (qrd_fail (1 : Int32) M) (fun _ M3 =>
        some ((), M3))) else
      (ck (decide (¬ (M.1 3 1) < 0) && true) (
        ck (kc 336 (Int32.toNatClampNeg (M.1 3 1)) 8) (ob (qsh_put (Int32.toNatClampNeg (M.1 3 1)) (102 : Int32) t M) (fun _ M8 =>
        some ((), (wI M8 3 3 ((M8.1 3 3) + (1 : Int32))))))))) = ob (qrd_fail (1 : Int32) M) (fun _ M3 => some ((), M3)) := fun _ t e => by
            subst e
            rw [if_pos (by decide)]
          rcases hok with h999 | hlt256
          · have hnone : yFc (sg p) = none := by rw [h999]; decide
            rw [if_pos h999, hnone]
            refine ⟨fun k e => ?_, fun r e => (by cases e)⟩
            cases e
            obtain ⟨M', x1, x2, x3⟩ := wr 1 1 rfl (by omega) (by omega)
            exact ⟨M', by rw [bad hnone _ rfl, x1, ob_s, ob_s], x2, x3⟩
          · have hlt : p < n := y_lt hE (by omega)
            obtain ⟨i1, i2⟩ := fsi_g (sg p) hlt256
            rw [if_neg (by omega), sv_n hlt256, i1, ckb (and_i (and_i (decide_eq_true (nI_lt0 (n := sg p) (by omega))) (decide_eq_true (show nI (sg p) < (256 : Int32) from nI_lt (b := 256) hlt256 (by decide)))) rfl), i2]
            cases hfc : yFc (sg p) with
            | none =>
              refine ⟨fun k e => ?_, fun r e => (by cases e)⟩
              cases e
              obtain ⟨M', x1, x2, x3⟩ := wr 1 1 rfl (by omega) (by omega)
              exact ⟨M', by rw [bad hfc _ rfl, x1, ob_s, ob_s], x2, x3⟩
            | some w =>
              have hw10 : w < 10 := by
                unfold yFc at hfc
                repeat' (split at hfc)
                all_goals first
                  | (cases hfc; omega)
                  | cases hfc
              refine ⟨fun k e => (by cases e), fun r e => ?_⟩
              cases e
              obtain ⟨M3, z4, z5, z6⟩ := put_g hK hc (by omega) 102 w (by omega) hf (by omega)
              obtain ⟨w1, w2⟩ := at_g hs z5
              refine ⟨_, ?_, w1, z6.tr w2⟩
              show ob (if nI w < 0 then _ else _) _ = _
              rw [if_neg (nI_lt0 (by omega)), sh_ck hK hc.1.1 (fun s' => ob (qsh_put s' (102 : Int32) (nI w) M) (fun _ M8 =>
        some ((), (wI M8 3 3 ((M8.1 3 3) + (1 : Int32)))))), show (102 : Int32) = nI 102 from rfl, z4, ob_s, ob_s]
  · have hok : cOk 999 := Or.inl rfl
    refine ⟨M, ?_, hc, Ou.rf _ _⟩
    unfold qrd_factor
    rw [next_f hc, ob_s, iSg (K := (40 : Int32)) hok 40 (by omega) rfl, if_neg (by omega), isDg_f hok (by decide), ob_s, if_pos rfl]
    simp only [jn_ap]
    rw [iLt hok, if_neg (by decide)]
    unfold qrd_fact
    simp only [jn_ap]
    rw [iSm hok, if_pos rfl, if_pos (by decide), fail_f hc, ob_s, ob_s]
/-- the loops of bounds, terms and sums -/
theorem loop_g (hN : yEn sg n s z f) {o l : Nat} {subC : SM → Option (Unit × SM)} {subP : Nat → yR} {Lp : Nat → Int32 → SM → Option (Unit × SM)}
    (hL : ∀ fu i M c, cOk c → qrd_next M = some (sv c, M) → Lp (fu + 1) i M = if i < M.1 3 2 then (if yLv l c = true then ob (subC (wI M 3 3 ((M.1 3 3) + (1 : Int32)))) (fun _ M11 =>
          ck (decide (¬ (M11.1 3 1) < 0) && true) (
          ck (kc 336 (Int32.toNatClampNeg (M11.1 3 1)) 8) (ob (qsh_put (Int32.toNatClampNeg (M11.1 3 1)) (i2c' (sv c)) (0 : Int32) M11) (fun _ M16 =>
          Lp fu (i + (1 : Int32)) M16)))) else some ((), M)) else some ((), M))
    (hS : ySim sg n (l + 1) o subP) (h : cG sg n s z f subC subP) :
    (∀ (k fu i p : Nat) (M : SM) (a b : yL), n - p < k → k ≤ 210 → n - i < fu → i ≤ p → tE M sg n → p ≤ n → (a ++ b).length ≤ p → cS M s n p f a b → ∀ b0 b1 : yL, b = b0 ++ b1 →
      (∀ g, yLo sg l subP k p b1 = Sum.inl g → ∃ M' : SM, Lp fu (nI i) M = some ((), M') ∧ cF M' s n z g.1 g.2 f ∧ Ou (rdF s f) M M') ∧
      (∀ r, yLo sg l subP k p b1 = Sum.inr r → ∃ M' : SM, Lp fu (nI i) M = some ((), M') ∧ cS M' s n r.1 f a (b0 ++ r.2) ∧ Ou (rdF s f) M M')) ∧
    (∀ (M : SM) (fu k q : Nat) (i : Int32), 0 < fu → cF M s n z k q f → Lp fu i M = some ((), M)) := by
  obtain ⟨hK, hnz, hf, hE, h256⟩ := id hN
  have hs := hK.1
  have hz := hK.2.2.1
  have hFl : ∀ (M : SM) (fu k q : Nat) (i : Int32), 0 < fu → cF M s n z k q f → Lp fu i M = some ((), M) := by
    intro M fu k q i h0 hc
    obtain ⟨fu, rfl⟩ : ∃ x, fu = x + 1 := ⟨fu - 1, by omega⟩
    rw [hL fu i M 999 (Or.inl rfl) (next_f hc), if_neg (show ¬ yLv l 999 = true from Bool.false_ne_true)]
    split <;> rfl
  refine ⟨?_, hFl⟩
  intro k
  induction k with
  | zero => intro fu i p M a b hk; omega
  | succ k ih =>
    intro fu i p M a b hk hk2 hfu hip ht hp hl hc b0 b1 hb
    obtain ⟨fu, rfl⟩ : ∃ x, fu = x + 1 := ⟨fu - 1, by omega⟩
    rw [hL fu (nI i) M (sg p) (hN.ok p) (next_g hE h256 ht hp hc.1), hc.1.2.1]
    have eq : yLo sg l subP (k + 1) p b1 = if yLv l (sg p) = true then
      (match subP (p + 1) with
      | Sum.inl f => Sum.inl f
      | Sum.inr r => yLo sg l subP k r.1 (b1 ++ r.2 ++ [(sg p, 0)]))
      else Sum.inr (p, b1) := rfl
    rw [eq]
    by_cases q : yLv l (sg p) = true
    · obtain ⟨op, hop⟩ : ∃ op, yOp (sg p) = some op := by
        unfold yLv at q
        cases ho : yOp (sg p) with
        | none => rw [ho] at q; cases q
        | some op => exact ⟨op, rfl⟩
      have hlt := y_ltop hE hop
      have h65 : sg p ≠ 65 := fun z => by rw [z] at hop; cases hop
      rw [if_pos q, if_pos ((nI_ltI (by omega) (by omega)).mpr (show i < n by omega)), if_pos q]
      obtain ⟨g1, g2⟩ := at_g hs hc
      obtain ⟨c1, c2⟩ := h.1 _ (p + 1) a b (ht.fr hs g2) (by omega) (by omega) g1
      cases hsub : subP (p + 1) with
      | inl g =>
        refine ⟨fun g' e => ?_, fun r e => (by cases e)⟩
        cases e
        obtain ⟨M', x1, x2, x3⟩ := c1 _ hsub
        obtain ⟨M2, y1, y2, y3⟩ := put_f hK x2 (i2c' (sv (sg p))) (0 : Int32)
        refine ⟨M2, ?_, y2, (g2.tr x3).tr y3⟩
        rw [x1, ob_s, sh_ck hK x2.1 (fun s' => ob (qsh_put s' (i2c' (sv (sg p))) (0 : Int32) M') (fun _ M16 => Lp fu (nI i + (1 : Int32)) M16)), y1, ob_s]
        exact hFl M2 fu _ _ _ (by omega) y2
      | inr r =>
        obtain ⟨M', x1, x2, x3⟩ := c2 _ hsub
        obtain ⟨-, y2⟩ := hS (p + 1) [] [] (by omega) yTL_nil
        obtain ⟨y3, y4, -, -, -, code, -, -, -, y5, -⟩ := y2 r hsub
        simp only [List.length_append] at hl
        obtain ⟨M2, w1, w2, w3⟩ := put_g hK x2 (by simp only [List.length_append]; omega) (sg p) 0 (h256 p hlt) hf h65
        dsimp only
        obtain ⟨u1, u2⟩ := ih fu (i + 1) r.1 M2 a (b ++ r.2 ++ [(sg p, 0)]) (by omega) (by omega) (by omega) (by omega) (ht.fr hs ((g2.tr x3).tr w3)) y4 (by simp only [List.length_append, List.length_singleton]; omega) w2 b0 (b1 ++ r.2 ++ [(sg p, 0)]) (by rw [hb]; simp only [List.append_assoc])
        have run : ob (subC (wI M 3 3 ((M.1 3 3) + (1 : Int32)))) (fun _ M11 =>
          ck (decide (¬ (M11.1 3 1) < 0) && true) (
          ck (kc 336 (Int32.toNatClampNeg (M11.1 3 1)) 8) (ob (qsh_put (Int32.toNatClampNeg (M11.1 3 1)) (i2c' (sv (sg p))) (0 : Int32) M11) (fun _ M16 =>
          Lp fu (nI i + (1 : Int32)) M16)))) = Lp fu (nI (i + 1)) M2 := by
          rw [x1, ob_s, sh_ck hK x2.1.1 (fun s' => ob (qsh_put s' (i2c' (sv (sg p))) (0 : Int32) M') (fun _ M16 => Lp fu (nI i + (1 : Int32)) M16)), sv_n (h256 p hlt), i2c_n _ (h256 p hlt), show (0 : Int32) = nI 0 from rfl, w1, ob_s, nI_1]
        rw [run]
        refine ⟨fun g e => ?_, fun r' e => ?_⟩
        · obtain ⟨M3, v1, v2, v3⟩ := u1 g e
          exact ⟨M3, v1, v2, ((g2.tr x3).tr w3).tr v3⟩
        · obtain ⟨M3, v1, v2, v3⟩ := u2 r' e
          exact ⟨M3, v1, v2, ((g2.tr x3).tr w3).tr v3⟩
    · rw [if_neg q, if_neg q]
      refine ⟨fun g e => (by cases e), fun r e => ?_⟩
      cases e
      refine ⟨M, ?_, by rw [← hb]; exact hc, Ou.rf _ _⟩
      split <;> rfl
theorem bin_g (hN : yEn sg n s z f) {o l : Nat} {subC : SM → Option (Unit × SM)} {subP : Nat → yR} {Lp : Nat → Int32 → SM → Option (Unit × SM)}
    (hL : ∀ fu i M c, cOk c → qrd_next M = some (sv c, M) → Lp (fu + 1) i M = if i < M.1 3 2 then (if yLv l c = true then ob (subC (wI M 3 3 ((M.1 3 3) + (1 : Int32)))) (fun _ M11 =>
          ck (decide (¬ (M11.1 3 1) < 0) && true) (
          ck (kc 336 (Int32.toNatClampNeg (M11.1 3 1)) 8) (ob (qsh_put (Int32.toNatClampNeg (M11.1 3 1)) (i2c' (sv c)) (0 : Int32) M11) (fun _ M16 =>
          Lp fu (i + (1 : Int32)) M16)))) else some ((), M)) else some ((), M))
    (hS : ySim sg n (l + 1) o subP) (h : cG sg n s z f subC subP) {g : SM → Option (Unit × SM)} (hg : ∀ M, g M = ob (subC M) (fun _ M1 => Lp FU (0 : Int32) M1)) : cG sg n s z f g (yBi sg n l subP) := by
  obtain ⟨hK, hnz, hf, hE, h256⟩ := id hN
  have hs := hK.1
  have hz := hK.2.2.1
  obtain ⟨L1, L2⟩ := loop_g hN hL hS h
  refine ⟨fun M p a b ht hp hl hc => ?_, fun M k q hc => ?_⟩
  · obtain ⟨c1, c2⟩ := h.1 M p a b ht hp hl hc
    rw [hg M]
    unfold yBi
    cases hsub : subP p with
    | inl k =>
      refine ⟨fun k' e => ?_, fun r e => (by cases e)⟩
      cases e
      obtain ⟨M', x1, x2, x3⟩ := c1 _ hsub
      exact ⟨M', by rw [x1, ob_s]; exact L2 M' FU _ _ _ (by unfold FU; omega) x2, x2, x3⟩
    | inr r =>
      obtain ⟨M', x1, x2, x3⟩ := c2 _ hsub
      obtain ⟨-, y2⟩ := hS p [] [] hp yTL_nil
      obtain ⟨y3, y4, -, -, -, code, -, -, -, y5, -⟩ := y2 r hsub
      simp only [List.length_append] at hl
      obtain ⟨u1, u2⟩ := L1 (n + 1) FU 0 r.1 M' a (b ++ r.2) (by omega) (by omega) (by unfold FU; omega) (by omega) (ht.fr hs x3) y4 (by simp only [List.length_append]; omega) x2 b r.2 rfl
      rw [x1, ob_s]
      refine ⟨fun g e => ?_, fun r' e => ?_⟩
      · obtain ⟨M3, v1, v2, v3⟩ := u1 g e
        exact ⟨M3, v1, v2, x3.tr v3⟩
      · obtain ⟨M3, v1, v2, v3⟩ := u2 r' e
        exact ⟨M3, v1, v2, x3.tr v3⟩
  · obtain ⟨M', x1, x2, x3⟩ := h.2 M k q hc
    exact ⟨M', by rw [hg, x1, ob_s]; exact L2 M' FU _ _ _ (by unfold FU; omega) x2, x2, x3⟩
theorem lv3 : ∀ c, c < 256 → (yLv 3 c = true ↔ c = 95 ∨ c = 94) := by decide +kernel
theorem lv2 : ∀ c, c < 256 → (yLv 2 c = true ↔ c = 42 ∨ c = 47 ∨ c = 37) := by decide +kernel
theorem lv1 : ∀ c, c < 256 → (yLv 1 c = true ↔ c = 43 ∨ c = 45) := by decide +kernel
theorem ite3 {α : Type} {c a b : Nat} {l : Nat} (h : yLv l c = true ↔ c = a ∨ c = b) (x y : α) : (if c = a then x else if c = b then x else y) = if yLv l c = true then x else y := by
  by_cases q1 : c = a
  · rw [if_pos q1, if_pos (h.mpr (Or.inl q1))]
  · rw [if_neg q1]
    by_cases q2 : c = b
    · rw [if_pos q2, if_pos (h.mpr (Or.inr q2))]
    · rw [if_neg q2, if_neg (fun z => (h.mp z).elim q1 q2)]
theorem ite4 {α : Type} {c a b d : Nat} {l : Nat} (h : yLv l c = true ↔ c = a ∨ c = b ∨ c = d) (x y : α) : (if c = a then x else if c = b then x else if c = d then x else y) = if yLv l c = true then x else y := by
  by_cases q1 : c = a
  · rw [if_pos q1, if_pos (h.mpr (Or.inl q1))]
  · rw [if_neg q1]
    by_cases q2 : c = b
    · rw [if_pos q2, if_pos (h.mpr (Or.inr (Or.inl q2)))]
    · rw [if_neg q2]
      by_cases q3 : c = d
      · rw [if_pos q3, if_pos (h.mpr (Or.inr (Or.inr q3)))]
      · rw [if_neg q3, if_neg (fun z => (h.mp z).elim q1 (fun z => z.elim q2 q3))]
theorem lv_ok3 {c : Nat} (h : cOk c) : yLv 3 c = true ↔ c = 95 ∨ c = 94 := by
  rcases h with rfl | h
  · decide
  · exact lv3 c h
theorem lv_ok2 {c : Nat} (h : cOk c) : yLv 2 c = true ↔ c = 42 ∨ c = 47 ∨ c = 37 := by
  rcases h with rfl | h
  · decide
  · exact lv2 c h
theorem lv_ok1 {c : Nat} (h : cOk c) : yLv 1 c = true ↔ c = 43 ∨ c = 45 := by
  rcases h with rfl | h
  · decide
  · exact lv1 c h
theorem sum_g (hN : yEn sg n s z f) {o : Nat} (ho : o ≤ 6) {chC : Int32 → SM → Option (Unit × SM)} {chP : Nat → Nat → yR} (hS : o < 6 → yChS sg n (o + 1) (chP (o + 1))) (h : o < 6 → cG sg n s z f (chC (nI (o + 1))) (chP (o + 1))) : cG sg n s z f (qrd_sum chC (nI o)) (ySu sg n chP o) := by
  have hE := hN.2.2.2.1
  have F0 := factor_g hN ho hS h
  have S0 := yFa_S hE ho hS
  have F1 : cG sg n s z f (qrd_bound chC (nI o)) (yBi sg n 3 (yFa sg chP o)) := bin_g hN (Lp := fun fu i M => qrd_bound_L7 chC fu (nI o) i M) (fun fu i M c hc hn => by
    show (if i < M.1 3 2 then _ else _) = _
    by_cases q : i < M.1 3 2
    · rw [if_pos q, if_pos q, hn, ob_s, jn_ap, iSg (K := (95 : Int32)) hc 95 (by omega) rfl, iSg (K := (94 : Int32)) hc 94 (by omega) rfl, ite3 (lv_ok3 hc)]
    · rw [if_neg q, if_neg q]) S0 F0 (fun M => rfl)
  have S1 := yBi_S hE (l := 3) S0
  have F2 : cG sg n s z f (qrd_term chC (nI o)) (yBi sg n 2 (yBi sg n 3 (yFa sg chP o))) := bin_g hN (Lp := fun fu i M => qrd_term_L7 chC fu (nI o) i M) (fun fu i M c hc hn => by
    show (if i < M.1 3 2 then _ else _) = _
    by_cases q : i < M.1 3 2
    · rw [if_pos q, if_pos q, hn, ob_s, jn_ap, iSg (K := (42 : Int32)) hc 42 (by omega) rfl, iSg (K := (47 : Int32)) hc 47 (by omega) rfl, iSg (K := (37 : Int32)) hc 37 (by omega) rfl, ite4 (lv_ok2 hc)]
    · rw [if_neg q, if_neg q]) S1 F1 (fun M => rfl)
  have S2 := yBi_S hE (l := 2) S1
  exact bin_g hN (Lp := fun fu i M => qrd_sum_L7 chC fu (nI o) i M) (fun fu i M c hc hn => by
    show (if i < M.1 3 2 then _ else _) = _
    by_cases q : i < M.1 3 2
    · rw [if_pos q, if_pos q, hn, ob_s, jn_ap, iSg (K := (43 : Int32)) hc 43 (by omega) rfl, iSg (K := (45 : Int32)) hc 45 (by omega) rfl, ite3 (lv_ok1 hc)]
    · rw [if_neg q, if_neg q]) S2 F2 (fun M => rfl)
theorem cm_ite : ∀ c, c < 256 → (yCm c = none ↔ ¬ (c = 60 ∨ c = 62 ∨ c = 61)) := by decide +kernel
theorem cm_ok {c : Nat} (h : cOk c) : yCm c = none ↔ ¬ (c = 60 ∨ c = 62 ∨ c = 61) := by
  rcases h with rfl | h
  · decide
  · exact cm_ite c h
end
