/-! choices and formulas in the class -/
section
variable {sg : Nat → Nat} {n s z f : Nat}
theorem choice_g (hN : yEn sg n s z f) {o : Nat} (ho : o ≤ 6) {chC : Int32 → SM → Option (Unit × SM)} {chP : Nat → Nat → yR} (hS : o < 6 → yChS sg n (o + 1) (chP (o + 1))) (h : o < 6 → cG sg n s z f (chC (nI (o + 1))) (chP (o + 1))) : cG sg n s z f (qrd_choice chC (nI o)) (yC1 sg n chP o) := by
  obtain ⟨hK, hnz, hf, hE, h256⟩ := id hN
  have hs := hK.1
  have GS := sum_g hN ho hS h
  have SS := ySu_S hE ho hS
  refine ⟨fun M p a b ht hp hl hc => ?_, fun M k q hc => ?_⟩
  · obtain ⟨c1, c2⟩ := GS.1 M p a b ht hp hl hc
    simp only [List.length_append] at hl
    unfold yC1 qrd_choice
    cases h1 : ySu sg n chP o p with
    | inl k =>
      refine ⟨fun k' e => ?_, fun r e => (by cases e)⟩
      cases e
      obtain ⟨M', x1, x2, x3⟩ := c1 _ h1
      refine ⟨M', ?_, x2, x3⟩
      rw [x1, ob_s, next_f x2, ob_s, jn_ap, iSg (K := (60 : Int32)) (Or.inl rfl) 60 (by omega) rfl, if_neg (by omega), iSg (K := (62 : Int32)) (Or.inl rfl) 62 (by omega) rfl, if_neg (by omega), iSg (K := (61 : Int32)) (Or.inl rfl) 61 (by omega) rfl, if_neg (by omega)]
    | inr r1 =>
      obtain ⟨M1, x1, x2, x3⟩ := c2 _ h1
      obtain ⟨-, y2⟩ := SS p [] [] hp yTL_nil
      obtain ⟨y3, y4, -, -, -, code, -, -, -, y5, -⟩ := y2 r1 h1
      have ok1 := hN.ok r1.1
      have t1 := ht.fr hs x3
      dsimp only
      rw [x1, ob_s, next_g hE h256 t1 y4 x2.1, ob_s, jn_ap, iSg (K := (60 : Int32)) ok1 60 (by omega) rfl, iSg (K := (62 : Int32)) ok1 62 (by omega) rfl, iSg (K := (61 : Int32)) ok1 61 (by omega) rfl]
      cases hcm : yCm (sg r1.1) with
      | none =>
        have q := (cm_ok ok1).mp hcm
        refine ⟨fun k' e => (by cases e), fun r e => ?_⟩
        cases e
        exact ⟨M1, by rw [if_neg (fun z => q (Or.inl z)), if_neg (fun z => q (Or.inr (Or.inl z))), if_neg (fun z => q (Or.inr (Or.inr z)))], x2, x3⟩
      | some op =>
        have hlt := y_ltcm hE hcm
        have hcc := yCm_c hcm
        have h65 : sg r1.1 ≠ 65 := by omega
        have hop : yOp (sg r1.1) = none := by
          rcases hcc with ⟨e, -⟩ | ⟨e, -⟩ | ⟨e, -⟩ <;> rw [e] <;> decide
        have same : ∀ (X Y : Option (Unit × SM)), (if sg r1.1 = 60 then X else if sg r1.1 = 62 then X else if sg r1.1 = 61 then X else Y) = X := fun X Y => by
          by_cases q1 : sg r1.1 = 60
          · rw [if_pos q1]
          · rw [if_neg q1]
            by_cases q2 : sg r1.1 = 62
            · rw [if_pos q2]
            · rw [if_neg q2, if_pos (by omega)]
        rw [same]
        dsimp only
        obtain ⟨g1, g2⟩ := at_g hs x2
        have t2 := t1.fr hs g2
        obtain ⟨c3, c4⟩ := GS.1 _ (r1.1 + 1) a (b ++ r1.2) t2 (by omega) (by simp only [List.length_append]; omega) g1
        cases h2 : ySu sg n chP o (r1.1 + 1) with
        | inl k =>
          refine ⟨fun k' e => ?_, fun r e => (by cases e)⟩
          cases e
          obtain ⟨M', u1, u2, u3⟩ := c3 _ h2
          refine ⟨M', ?_, u2, (x3.tr g2).tr u3⟩
          rw [u1, ob_s, next_f u2, ob_s, iSg (K := (63 : Int32)) (Or.inl rfl) 63 (by omega) rfl, if_neg (by omega), fail_f u2, ob_s]
        | inr r2 =>
          obtain ⟨M2, u1, u2, u3⟩ := c4 _ h2
          obtain ⟨-, y6⟩ := SS (r1.1 + 1) [] [] (by omega) yTL_nil
          obtain ⟨y7, y8, -, -, -, code2, -, -, -, y9, -⟩ := y6 r2 h2
          have ok2 := hN.ok r2.1
          have t3 := t2.fr hs u3
          dsimp only
          rw [u1, ob_s, next_g hE h256 t3 y8 u2.1, ob_s, iSg (K := (63 : Int32)) ok2 63 (by omega) rfl]
          have L2 : (a ++ (b ++ r1.2 ++ r2.2)).length ≤ r2.1 := by simp only [List.length_append]; omega
          by_cases q63 : sg r2.1 = 63
          · have hlt2 : r2.1 < n := y_lt hE (by omega)
            rw [if_pos q63, if_pos q63]
            by_cases q6 : o < 6
            · rw [if_pos q6, if_pos (lt6 q6), nI_1]
              obtain ⟨g3, g4⟩ := at_g hs u2
              have t4 := t3.fr hs g4
              obtain ⟨c5, c6⟩ := (h q6).1 _ (r2.1 + 1) a (b ++ r1.2 ++ r2.2) t4 (by omega) (by omega) g3
              cases h3 : chP (o + 1) (r2.1 + 1) with
              | inl k =>
                refine ⟨fun k' e => ?_, fun r e => (by cases e)⟩
                cases e
                obtain ⟨M3, v1, v2, v3⟩ := c5 _ h3
                obtain ⟨M4, v4, v5, v6⟩ := (h q6).2 M3 _ _ v2
                obtain ⟨M5, v7, v8, v9⟩ := put_f hK v5 (i2c' (sv (sg r1.1))) (0 : Int32)
                refine ⟨M5, ?_, v8, ((((x3.tr g2).tr u3).tr g4).tr v3).tr (v6.tr v9)⟩
                rw [v1, ob_s, expect_f (K := (58 : Int32)) v2 (j := 58) (by omega) rfl, ob_s, v4, ob_s, sh_ck hK v5.1 (fun s' => ob (qsh_put s' (i2c' (sv (sg r1.1))) (0 : Int32) M4) (fun _ M27 => some ((), M27))), v7, ob_s]
              | inr r3 =>
                obtain ⟨M3, v1, v2, v3⟩ := c6 _ h3
                obtain ⟨-, z2⟩ := hS q6 (r2.1 + 1) [] [] (by omega) yTL_nil rfl
                obtain ⟨z3, z4, -, -, code3, -, -, z5, -⟩ := z2 r3 h3
                have t5 := t4.fr hs v3
                have L3 : (a ++ (b ++ r1.2 ++ r2.2 ++ r3.2)).length ≤ r3.1 := by simp only [List.length_append] at L2 ⊢; omega
                obtain ⟨M4, e1, e2, e3⟩ := expect_g (z := z) hE h256 hs t5 z4 (by omega) v2 (K := 58) 58 (by omega) rfl
                dsimp only
                by_cases q58 : sg r3.1 = 58
                · have hlt3 : r3.1 < n := y_lt hE (by omega)
                  rw [if_pos q58] at e2 ⊢
                  have t6 := t5.fr hs e3
                  obtain ⟨c7, c8⟩ := (h q6).1 M4 (r3.1 + 1) a (b ++ r1.2 ++ r2.2 ++ r3.2) t6 (by omega) (by omega) e2
                  cases h4 : chP (o + 1) (r3.1 + 1) with
                  | inl k =>
                    refine ⟨fun k' e => ?_, fun r e => (by cases e)⟩
                    cases e
                    obtain ⟨M5, w1, w2, w3⟩ := c7 _ h4
                    obtain ⟨M6, w4, w5, w6⟩ := put_f hK w2 (i2c' (sv (sg r1.1))) (0 : Int32)
                    refine ⟨M6, ?_, w5, (((((x3.tr g2).tr u3).tr g4).tr v3).tr (e3.tr w3)).tr w6⟩
                    rw [v1, ob_s, e1, ob_s, w1, ob_s, sh_ck hK w2.1 (fun s' => ob (qsh_put s' (i2c' (sv (sg r1.1))) (0 : Int32) M5) (fun _ M27 => some ((), M27))), w4, ob_s]
                  | inr r4 =>
                    obtain ⟨M5, w1, w2, w3⟩ := c8 _ h4
                    obtain ⟨-, z6⟩ := hS q6 (r3.1 + 1) [] [] (by omega) yTL_nil rfl
                    obtain ⟨z7, z8, -, -, code4, -, -, z9, -⟩ := z6 r4 h4
                    have L4 : (a ++ (b ++ r1.2 ++ r2.2 ++ r3.2 ++ r4.2)).length < z := by simp only [List.length_append] at L3 ⊢; omega
                    obtain ⟨M6, w4, w5, w6⟩ := put_g hK w2 L4 (sg r1.1) 0 (h256 _ hlt) hf h65
                    dsimp only
                    refine ⟨fun k' e => (by cases e), fun r e => ?_⟩
                    cases e
                    refine ⟨M6, ?_, ?_, (((((x3.tr g2).tr u3).tr g4).tr v3).tr (e3.tr w3)).tr w6⟩
                    · rw [v1, ob_s, e1, ob_s, w1, ob_s, sh_ck hK w2.1.1 (fun s' => ob (qsh_put s' (i2c' (sv (sg r1.1))) (0 : Int32) M5) (fun _ M27 => some ((), M27))), sv_n (h256 _ hlt), i2c_n _ (h256 _ hlt), show (0 : Int32) = nI 0 from rfl, w4, ob_s]
                    · simp only [List.append_assoc] at w5 ⊢
                      exact w5
                · rw [if_neg q58] at e2 ⊢
                  refine ⟨fun k' e => ?_, fun r e => (by cases e)⟩
                  cases e
                  obtain ⟨M5, w1, w2, w3⟩ := (h q6).2 M4 _ _ e2
                  obtain ⟨M6, w4, w5, w6⟩ := put_f hK w2 (i2c' (sv (sg r1.1))) (0 : Int32)
                  refine ⟨M6, ?_, w5, (((((x3.tr g2).tr u3).tr g4).tr v3).tr (e3.tr w3)).tr w6⟩
                  rw [v1, ob_s, e1, ob_s, w1, ob_s, sh_ck hK w2.1 (fun s' => ob (qsh_put s' (i2c' (sv (sg r1.1))) (0 : Int32) M5) (fun _ M27 => some ((), M27))), w4, ob_s]
            · rw [if_neg q6, if_neg (nlt6 (by omega))]
              refine ⟨fun k' e => ?_, fun r e => (by cases e)⟩
              cases e
              obtain ⟨M3, v1, v2, v3⟩ := fail_g (z := z) u2 (by omega) hs (K := 5) (k := 5) rfl (by omega) (by omega)
              exact ⟨M3, by rw [v1, ob_s], v2, ((x3.tr g2).tr u3).tr v3⟩
          · rw [if_neg q63, if_neg q63]
            refine ⟨fun k' e => ?_, fun r e => (by cases e)⟩
            cases e
            obtain ⟨M3, v1, v2, v3⟩ := fail_g (z := z) u2 (by omega) hs (K := 1) (k := 1) rfl (by omega) (by omega)
            exact ⟨M3, by rw [v1, ob_s], v2, ((x3.tr g2).tr u3).tr v3⟩
  · obtain ⟨M', x1, x2, x3⟩ := GS.2 M k q hc
    refine ⟨M', ?_, x2, x3⟩
    unfold qrd_choice
    rw [x1, ob_s, next_f x2, ob_s, jn_ap, iSg (K := (60 : Int32)) (Or.inl rfl) 60 (by omega) rfl, if_neg (by omega), iSg (K := (62 : Int32)) (Or.inl rfl) 62 (by omega) rfl, if_neg (by omega), iSg (K := (61 : Int32)) (Or.inl rfl) 61 (by omega) rfl, if_neg (by omega)]
theorem chN_g (hN : yEn sg n s z f) : ∀ k o, 7 ≤ k + o → o ≤ 6 → cG sg n s z f (qrd_chN k (nI o)) (yCh sg n k o) := by
  intro k
  induction k with
  | zero => intro o h h2; omega
  | succ k ih =>
    intro o h h2
    exact choice_g hN h2 (fun h3 => yCh_S hN.2.2.2.1 k (o + 1) (by omega) (by omega)) (fun h3 => ih (o + 1) (by omega) (by omega))
theorem ch10_g (hN : yEn sg n s z f) : cG sg n s z f (qrd_chN 10 (0 : Int32)) (yCh sg n 10 0) := chN_g hN 10 0 (by omega) (by omega)
end
