section
variable {M : SM}
theorem within_t {x a b : Int32} (h1 : ¬ x < a) (h2 : ¬ b < x) : qfr_within x a b M = some (1, M) := (if_neg h1).trans (if_neg h2)
theorem within_f {x a b : Int32} (h : x < a ∨ b < x) : qfr_within x a b M = some (0, M) := by
  by_cases h1 : x < a
  · exact if_pos h1
  · exact (if_neg h1).trans (if_pos (h.resolve_left h1))
theorem md_in_t {x a b : Int32} (h1 : ¬ x < a) (h2 : ¬ b < x) : qmd_in x a b M = some (1, M) := (if_neg h1).trans (if_neg h2)
theorem md_in_f {x a b : Int32} (h : x < a ∨ b < x) : qmd_in x a b M = some (0, M) := by
  by_cases h1 : x < a
  · exact if_pos h1
  · exact (if_neg h1).trans (if_pos (h.resolve_left h1))
/-- a number from a to b, or none -/
theorem rg (x A B : Int32) (a b : Nat) (hA : A = nI a) (hB : B = nI b) (ha : a < 2147483648 := by decide) (hb : b < 2147483648 := by decide) : (∃ j, a ≤ j ∧ j ≤ b ∧ x = nI j ∧ ¬ x < A ∧ ¬ B < x) ∨ (x < A ∨ B < x) := by
  subst hA hB
  by_cases h1 : x < nI a
  · exact Or.inr (Or.inl h1)
  · by_cases h2 : nI b < x
    · exact Or.inr (Or.inr h2)
    · left
      have h0 : ¬ x < 0 := by
        intro q
        apply h1
        rw [Int32.lt_iff_toInt_lt] at q ⊢
        rw [nI_toInt ha]
        rw [Int32.toInt_zero] at q
        omega
      obtain ⟨j, hj, rfl⟩ := nI_of h0
      rw [nI_ltI hj ha] at h1
      rw [nI_ltI hb hj] at h2
      exact ⟨j, by omega, by omega, rfl, by rw [nI_ltI hj ha]; exact h1, by rw [nI_ltI hb hj]; exact h2⟩
theorem knitter_p (h : I_tn M) (x : Int32) : Pr M (qfr_knitter x) (qmd_knitter x) (fun M2 => I_tn M2 ∧ Ou sTn M M2 ∧ Tm M M2) := by
  have a := h.kn
  rcases rg x 1 9 1 9 rfl rfl with ⟨n, hn1, hn2, rfl, g1, g2⟩ | hb
  · by_cases h6 : knM M < 12
    · refine Pr.mk (r := nI (knM M)) (M1 := wI (wI M 182 (knM M) (nI n)) 179 2 (nI (knM M + 1))) (M2 := wI (wI (wI (wI M 182 (knM M) (nI n)) 179 2 (nI (knM M + 1))) 282 (knM M) (nI n)) 280 2 (nI (knM M + 1))) ?_ ?_ ⟨?_, ((((Ou.rf _ _).wI ?_).wI ?_).wI ?_).wI ?_, Tm.of (a := msM M) (b := knM M + 1) (c := frM M) (by simp [wI_1, h.ms.1]) (by simp [wI_1]) (by simp [wI_1, h.fs.1]) ⟨by omega, by have := h.ms; omega⟩ ⟨by omega, by omega⟩ ⟨by omega, by have := h.fs; omega⟩⟩
      · unfold qfr_knitter qtn_addKnitter
        rw [within_t g1 g2, ob_s, if_neg (by decide), a.1, if_neg (nI_lt0 (by omega)), if_pos (show nI (knM M) < (12 : Int32) from nI_lt (b := 12) h6 (by decide)), ckb (and_i (ib_n (by omega) (by omega)) rfl), nI_cl (by omega), nI_1, nI_m1 (by omega)]
        rfl
      · unfold qmd_knitter
        have e : (wI (wI M 182 (knM M) (nI n)) 179 2 (nI (knM M + 1))).1 280 2 = nI (knM M) := by simp [wI_1, a.2.2]
        rw [md_in_t g1 g2, ob_s, if_neg (by decide), e, if_neg (by show ¬ nI (knM M) = nI 12; rw [nI_eqN (by omega) (by omega)]; omega), ckb (and_i (ib_n (by omega) (by omega)) rfl), nI_cl (by omega), nI_1, nI_m1 (by omega)]
        rfl
      · generalize hM2 : wI (wI (wI (wI M 182 (knM M) (nI n)) 179 2 (nI (knM M + 1))) 282 (knM M) (nI n)) 280 2 (nI (knM M + 1)) = M2
        have g : ∀ c i, M2.1 c i = if c = 280 ∧ i = 2 then nI (knM M + 1) else if c = 282 ∧ i = knM M then nI n else if c = 179 ∧ i = 2 then nI (knM M + 1) else if c = 182 ∧ i = knM M then nI n else M.1 c i := by
          intro c i; rw [← hM2]; simp only [wI_1]
        have e2 : knM M2 = knM M + 1 := by unfold knM; rw [g]; simp [nI_cl (show knM M + 1 < 2147483648 by omega)]; rfl
        have e0 : nwM M2 = nwM M := by unfold nwM; rw [g]; simp
        have e1 : msM M2 = msM M := by unfold msM; rw [g]; simp
        have e3 : frM M2 = frM M := by unfold frM; rw [g]; simp
        have fs := h.fs
        have ok : ∀ v, okK M v → okK M2 v := fun v hv => by
          unfold okK at hv ⊢
          rw [e2]
          rcases hv with hv | ⟨k, h1, h2⟩
          · exact Or.inl hv
          · exact Or.inr ⟨k, by omega, h2⟩
        refine ⟨?_, ?_, ?_, ?_, fun m hm => ?_, fun m hm => ?_, fun k hk => ?_, fun f hf => ?_, fun f hf w hw => ?_⟩
        · rw [e0, g, g]; simpa using h.nw
        · rw [e1, g, g]; simpa using h.ms
        · rw [e2, g, g]; simp; omega
        · rw [e3, g, g]; simpa using h.fs
        · rw [e1] at hm; rw [g, g]; simpa using h.ho m hm
        · rw [g, g]; simpa using h.ov m hm
        · rw [e2] at hk
          rw [g, g]
          by_cases hq : k = knM M
          · simp [hq]; exact ⟨n, hn1, hn2, rfl⟩
          · simp [hq]; exact h.he k (by omega)
        · rw [e3] at hf; rw [e1]; simp only [g]
          obtain ⟨b1, b2, b3, b4, b6⟩ := h.fa f hf
          exact ⟨by simpa using b1, by simpa using b2, by simpa using b3, by simpa using b4, ok _ (by simpa using b6)⟩
        · rw [e3] at hf
          have b := h.hd f hf w hw
          have e4 : M2.1 (187 + f) w = M.1 (187 + f) w := by rw [g, if_neg (by omega), if_neg (by omega), if_neg (by omega), if_neg (by omega)]
          have e5 : M2.1 288 (520 * f + w) = M.1 288 (520 * f + w) := by rw [g, if_neg (by omega), if_neg (by omega), if_neg (by omega), if_neg (by omega)]
          rw [e4, e5]
          exact ⟨b.1, ok _ b.2⟩
      all_goals (unfold sTn; omega)
    · have e12 : knM M = 12 := by omega
      refine Pr.mk (r := -1) (M1 := M) (M2 := M) ?_ ?_ ⟨h, Ou.rf _ _, Tm.rf _⟩
      · unfold qfr_knitter qtn_addKnitter
        rw [within_t g1 g2, ob_s, if_neg (by decide), a.1, if_neg (nI_lt0 (by omega)), e12, if_neg (by decide)]
        rfl
      · unfold qmd_knitter
        rw [md_in_t g1 g2, ob_s, if_neg (by decide), a.2.2, e12, if_pos (by decide)]
  · refine Pr.mk (r := -1) (M1 := M) (M2 := M) ?_ ?_ ⟨h, Ou.rf _ _, Tm.rf _⟩
    · unfold qfr_knitter; rw [within_f hb, ob_s, if_pos rfl]
    · unfold qmd_knitter; rw [md_in_f hb, ob_s, if_pos rfl]
theorem frame_L76_g {f : Nat} (hf : f < 16) (v : Int32) : ∀ n i M, 520 - i < n → i ≤ 520 → M.1 280 3 = nI f → ∃ M', qmd_frame_L76 n v (nI i) M = some (nI f, M') ∧ M'.2 = M.2 ∧ ∀ c j, M'.1 c j = if c = 280 ∧ j = 3 then nI (f + 1) else if c = 288 ∧ 520 * f + i ≤ j ∧ j < 520 * f + 520 then v else M.1 c j := by
  intro n
  induction n with
  | zero => intro i M hn; omega
  | succ n ih =>
    intro i M hn hi e
    unfold qmd_frame_L76
    rw [e]
    by_cases hlt : i < 520
    · rw [if_pos (show nI i < (520 : Int32) from nI_lt (b := 520) hlt (by decide)), show (520 : Int32) = nI 520 from rfl, nI_mul, nI_add, ckb (and_i (ib_n (by omega) (by omega)) rfl), nI_1, nI_cl (by omega)]
      obtain ⟨M', e1, e2, e3⟩ := ih (i + 1) (wI M 288 (520 * f + i) v) (by omega) (by omega) (by rw [wI_1, if_neg (by omega)]; exact e)
      refine ⟨M', e1, e2, fun c j => ?_⟩
      rw [e3 c j, wI_1]
      by_cases h0 : c = 280 ∧ j = 3
      · rw [if_pos h0, if_pos h0]
      · rw [if_neg h0, if_neg h0]
        by_cases h1 : c = 288 ∧ 520 * f + (i + 1) ≤ j ∧ j < 520 * f + 520
        · rw [if_pos h1, if_pos ⟨h1.1, by omega, h1.2.2⟩]
        · rw [if_neg h1]
          by_cases h2 : c = 288 ∧ j = 520 * f + i
          · rw [if_pos h2, if_pos ⟨h2.1, by omega, by omega⟩]
          · rw [if_neg h2, if_neg (by omega)]
    · obtain rfl : i = 520 := by omega
      rw [if_neg (show ¬ nI 520 < (520 : Int32) from nI_nlt (a := 520) (Nat.le_refl _) (by omega)), nI_1, nI_m1 (by omega)]
      refine ⟨_, rfl, rfl, fun c j => ?_⟩
      rw [wI_1]
      by_cases h0 : c = 280 ∧ j = 3
      · rw [if_pos h0, if_pos h0]
      · rw [if_neg h0, if_neg h0, if_neg (by omega)]
theorem frame_p (h : I_tn M) (x y z : Int32) : Pr M (qfr_frame x y z) (qmd_frame x y z) (fun M2 => I_tn M2 ∧ Ou sTn M M2 ∧ Tm M M2) := by
  have a := h.fs
  have am := h.ms
  have ak := h.kn
  rcases rg x 10 40 10 40 rfl rfl with ⟨n, hn1, hn2, rfl, g1, g2⟩ | hb
  · rcases ix y (msM M) (by omega) with ⟨m, hm, rfl⟩ | hb
    · have key : okK M z ∨ (¬ z = -1 ∧ (z < 0 ∨ ¬ z < nI (knM M))) := by
        by_cases hz : z = -1
        · exact Or.inl (Or.inl hz)
        · rcases ix z (knM M) (by omega) with ⟨k, hk, rfl⟩ | hb
          · exact Or.inl (Or.inr ⟨k, hk, rfl⟩)
          · exact Or.inr ⟨hz, hb⟩
      rcases key with hz | ⟨hz, hb⟩
      · have c1 : ∀ M1 : SM, M1.1 280 1 = nI (msM M) → M1.1 280 2 = nI (knM M) → qmd_frame (nI n) (nI m) z M1 = (if (M1.1 280 3) = (16 : Int32) then some (-1, M1) else ck (ib 16 (M1.1 280 3) && (ib 16 (M1.1 280 3) && (ib 16 (M1.1 280 3) && true))) (qmd_frame_L76 FU z (0 : Int32) (wI (wI (wI M1 283 (Int32.toNatClampNeg (M1.1 280 3)) (nI n)) 284 (Int32.toNatClampNeg (M1.1 280 3)) (nI m)) 285 (Int32.toNatClampNeg (M1.1 280 3)) z))) := by
          intro M1 f1 f2
          unfold qmd_frame
          simp only [jn_s]
          rw [md_in_t g1 g2, ob_s, if_neg (by decide), md_isMaster_rg f1 (by omega) hm, ob_s, if_neg (by decide)]
          by_cases hz1 : z = -1
          · rw [if_pos hz1]
          · obtain ⟨k, hk, rfl⟩ := hz.resolve_left hz1
            rw [if_neg hz1, md_isKnitter_rg f2 (by omega) hk, ob_s, if_neg (by decide)]
        have c2 : qfr_frame (nI n) (nI m) z M = ob (qtn_addFrame (nI n) (nI m) z M) (fun r M => some (r, M)) := by
          unfold qfr_frame
          simp only [jn_s]
          rw [within_t g1 g2, ob_s, if_neg (by decide), hasMaster_g h hm, ob_s, if_neg (by decide)]
          by_cases hz1 : z = -1
          · rw [if_pos hz1]
          · obtain ⟨k, hk, rfl⟩ := hz.resolve_left hz1
            rw [if_neg hz1, hasKnitter_g h hk, ob_s, if_neg (by decide)]
        unfold qtn_addFrame at c2
        rw [a.1, if_neg (nI_lt0 (by omega))] at c2
        by_cases h16 : frM M < 16
        · rw [if_pos (show nI (frM M) < (16 : Int32) from nI_lt (b := 16) h16 (by decide)), ckb (and_i (ib_n (by omega) (by omega)) (and_i (ib_n (by omega) (by omega)) (and_i (ib_n (by omega) (by omega)) (and_i (ib_n (by omega) (by omega)) rfl)))), nI_cl (by omega)] at c2
          obtain ⟨k1, k2⟩ := kz_ho (frM M) h16
          obtain ⟨M1, e1, e2, e3⟩ := tfill_g k1 (by omega) k2 z (wI (wI (wI M 183 (frM M) (nI n)) 184 (frM M) (nI m)) 185 (frM M) z) (i := 0) (by omega)
          rw [show (0 : Int32) = nI 0 from rfl, e1, ob_s] at c2
          have e4 : M1.1 179 3 = nI (frM M) := by rw [e3, if_neg (by omega), wI_1, if_neg (by omega), wI_1, if_neg (by omega), wI_1, if_neg (by omega)]; exact a.1
          rw [e4, nI_1, nI_m1 (by omega), ob_s, Nat.add_sub_cancel] at c2
          have ge : ∀ c j, (wI M1 179 3 (nI (frM M + 1))).1 c j = if c = 179 ∧ j = 3 then nI (frM M + 1) else if c = 187 + frM M ∧ j < 520 then z else if c = 185 ∧ j = frM M then z else if c = 184 ∧ j = frM M then nI m else if c = 183 ∧ j = frM M then nI n else M.1 c j := by
            intro c j
            rw [wI_1, e3 c j, wI_1, wI_1, wI_1]
            by_cases q : c = 187 + frM M ∧ j < 520
            · rw [if_pos (show c = 187 + frM M ∧ 0 ≤ j ∧ j < 520 from ⟨q.1, Nat.zero_le _, q.2⟩), if_pos q]
            · rw [if_neg (show ¬ (c = 187 + frM M ∧ 0 ≤ j ∧ j < 520) from fun w => q ⟨w.1, w.2.2⟩), if_neg q]
          have ge2 : (wI M1 179 3 (nI (frM M + 1))).2 = M.2 := e2
          generalize wI M1 179 3 (nI (frM M + 1)) = M1' at c2 ge ge2
          have c3 := c1 M1' (by rw [ge, if_neg (by omega), if_neg (by omega), if_neg (by omega), if_neg (by omega), if_neg (by omega)]; exact am.2.2) (by rw [ge, if_neg (by omega), if_neg (by omega), if_neg (by omega), if_neg (by omega), if_neg (by omega)]; exact ak.2.2)
          have e5 : M1'.1 280 3 = nI (frM M) := by rw [ge, if_neg (by omega), if_neg (by omega), if_neg (by omega), if_neg (by omega), if_neg (by omega)]; exact a.2.2
          rw [e5, if_neg (by show ¬ nI (frM M) = nI 16; rw [nI_eqN (by omega) (by omega)]; omega), ckb (and_i (ib_n (by omega) (by omega)) (and_i (ib_n (by omega) (by omega)) (and_i (ib_n (by omega) (by omega)) rfl))), nI_cl (by omega)] at c3
          obtain ⟨M2, q1, q2, q3⟩ := frame_L76_g h16 z FU 0 (wI (wI (wI M1' 283 (frM M) (nI n)) 284 (frM M) (nI m)) 285 (frM M) z) (by unfold FU; omega) (by omega) (by rw [wI_1, if_neg (by omega), wI_1, if_neg (by omega), wI_1, if_neg (by omega)]; exact e5)
          rw [show (0 : Int32) = nI 0 from rfl, q1] at c3
          have g : ∀ c j, M2.1 c j = if c = 280 ∧ j = 3 then nI (frM M + 1) else if c = 288 ∧ 520 * frM M ≤ j ∧ j < 520 * frM M + 520 then z else if c = 285 ∧ j = frM M then z else if c = 284 ∧ j = frM M then nI m else if c = 283 ∧ j = frM M then nI n else if c = 179 ∧ j = 3 then nI (frM M + 1) else if c = 187 + frM M ∧ j < 520 then z else if c = 185 ∧ j = frM M then z else if c = 184 ∧ j = frM M then nI m else if c = 183 ∧ j = frM M then nI n else M.1 c j := by
            intro c j
            rw [q3 c j, wI_1, wI_1, wI_1, ge c j]
            simp only [Nat.add_zero]
          have hsc : Sc M M1' := fun c i hc => by rw [ge, if_neg (by omega), if_neg (by omega), if_neg (by omega), if_neg (by omega), if_neg (by omega)]
          have htm : Tm M M2 := by
            have g1 : M2.1 179 1 = M.1 179 1 := by rw [g, if_neg (by omega), if_neg (by omega), if_neg (by omega), if_neg (by omega), if_neg (by omega), if_neg (by omega), if_neg (by omega), if_neg (by omega), if_neg (by omega), if_neg (by omega)]
            have g2 : M2.1 179 2 = M.1 179 2 := by rw [g, if_neg (by omega), if_neg (by omega), if_neg (by omega), if_neg (by omega), if_neg (by omega), if_neg (by omega), if_neg (by omega), if_neg (by omega), if_neg (by omega), if_neg (by omega)]
            have g3 : M2.1 179 3 = nI (frM M + 1) := by rw [g]; simp
            exact Tm.of (g1.trans am.1) (g2.trans ak.1) g3 ⟨by omega, by omega⟩ ⟨by omega, by omega⟩ ⟨by omega, by omega⟩
          refine Pr.mk c2 c3 ⟨?_, ⟨fun c i hs => ?_, q2.trans ge2⟩, htm⟩ hsc
          · have e3 : frM M2 = frM M + 1 := by unfold frM; rw [g]; simp [nI_cl (show frM M + 1 < 2147483648 by omega)]; rfl
            have e0 : nwM M2 = nwM M := by unfold nwM; rw [g]; simp; rw [if_neg (by omega)]
            have e1 : msM M2 = msM M := by unfold msM; rw [g]; simp; rw [if_neg (by omega)]
            have e2 : knM M2 = knM M := by unfold knM; rw [g]; simp; rw [if_neg (by omega)]
            have ok : ∀ v, okK M v → okK M2 v := fun v hv => by unfold okK at hv ⊢; rw [e2]; exact hv
            have low : ∀ c j, c ≤ 182 → ¬ (c = 179 ∧ j = 3) → M2.1 c j = M.1 c j := fun c j q1 q2 => by
              rw [g, if_neg (by omega), if_neg (by omega), if_neg (by omega), if_neg (by omega), if_neg (by omega), if_neg (by omega), if_neg (by omega), if_neg (by omega), if_neg (by omega), if_neg (by omega)]
            have hi : ∀ c j, (280 ≤ c ∧ c ≤ 282 ∨ c = 286) → ¬ (c = 280 ∧ j = 3) → M2.1 c j = M.1 c j := fun c j q1 q2 => by
              rw [g, if_neg (by omega), if_neg (by omega), if_neg (by omega), if_neg (by omega), if_neg (by omega), if_neg (by omega), if_neg (by omega), if_neg (by omega), if_neg (by omega), if_neg (by omega)]
            refine ⟨?_, ?_, ?_, ?_, fun m hm => ?_, fun m hm => ?_, fun k hk => ?_, fun f hf => ?_, fun f hf w hw => ?_⟩
            · rw [e0, low _ _ (by omega) (by omega), hi _ _ (by omega) (by omega)]; exact h.nw
            · rw [e1, low _ _ (by omega) (by omega), hi _ _ (by omega) (by omega)]; exact h.ms
            · rw [e2, low _ _ (by omega) (by omega), hi _ _ (by omega) (by omega)]; exact h.kn
            · rw [e3, g, g]; simp; omega
            · rw [e1] at hm; rw [hi _ _ (by omega) (by omega), low _ _ (by omega) (by omega)]; exact h.ho m hm
            · rw [hi _ _ (by omega) (by omega), low _ _ (by omega) (by omega)]; exact h.ov m hm
            · rw [e2] at hk; rw [hi _ _ (by omega) (by omega), low _ _ (by omega) (by omega)]; exact h.he k hk
            · rw [e3] at hf; rw [e1]
              by_cases hq : f = frM M
              · subst hq
                have z1 : M2.1 283 (frM M) = nI n := by rw [g]; simp
                have z2 : M2.1 183 (frM M) = nI n := by rw [g]; simp; intro q; omega
                have z3 : M2.1 284 (frM M) = nI m := by rw [g]; simp
                have z4 : M2.1 184 (frM M) = nI m := by rw [g]; simp; intro q; omega
                have z5 : M2.1 285 (frM M) = z := by rw [g]; simp
                have z6 : M2.1 185 (frM M) = z := by rw [g]; simp
                rw [z1, z2, z3, z4, z5, z6]
                exact ⟨rfl, rfl, rfl, ⟨m, hm, rfl⟩, ok _ hz⟩
              · have z1 : ∀ c, (183 ≤ c ∧ c ≤ 185 ∨ 283 ≤ c ∧ c ≤ 285) → M2.1 c f = M.1 c f := fun c hc => by
                  rw [g, if_neg (by omega), if_neg (by omega), if_neg (by omega), if_neg (by omega), if_neg (by omega), if_neg (by omega), if_neg (by omega), if_neg (by omega), if_neg (by omega), if_neg (by omega)]
                rw [z1 283 (by omega), z1 183 (by omega), z1 284 (by omega), z1 184 (by omega), z1 285 (by omega), z1 185 (by omega)]
                obtain ⟨b1, b2, b3, b4, b6⟩ := h.fa f (by omega)
                exact ⟨b1, b2, b3, b4, ok _ b6⟩
            · rw [e3] at hf
              by_cases hq : f = frM M
              · subst hq
                have z1 : M2.1 (187 + frM M) w = z := by rw [g, if_neg (by omega), if_neg (by omega), if_neg (by omega), if_neg (by omega), if_neg (by omega), if_neg (by omega), if_pos ⟨rfl, hw⟩]
                have z2 : M2.1 288 (520 * frM M + w) = z := by rw [g, if_neg (by omega), if_pos ⟨rfl, by omega, by omega⟩]
                rw [z1, z2]
                exact ⟨rfl, ok _ hz⟩
              · have z1 : M2.1 (187 + f) w = M.1 (187 + f) w := by rw [g, if_neg (by omega), if_neg (by omega), if_neg (by omega), if_neg (by omega), if_neg (by omega), if_neg (by omega), if_neg (by omega), if_neg (by omega), if_neg (by omega), if_neg (by omega)]
                have z2 : M2.1 288 (520 * f + w) = M.1 288 (520 * f + w) := by rw [g, if_neg (by omega), if_neg (by omega), if_neg (by omega), if_neg (by omega), if_neg (by omega), if_neg (by omega), if_neg (by omega), if_neg (by omega), if_neg (by omega), if_neg (by omega)]
                rw [z1, z2]
                have b := h.hd f (by omega) w hw
                exact ⟨b.1, ok _ b.2⟩
          · unfold sTn at hs
            rw [g, if_neg (by omega), if_neg (by omega), if_neg (by omega), if_neg (by omega), if_neg (by omega), if_neg (by omega), if_neg (by omega), if_neg (by omega), if_neg (by omega), if_neg (by omega)]
        · have e16 : frM M = 16 := by omega
          rw [e16, if_neg (by decide), ob_s] at c2
          have c3 := c1 M am.2.2 ak.2.2
          rw [if_pos (by rw [a.2.2, e16]; decide)] at c3
          exact Pr.mk c2 c3 ⟨h, Ou.rf _ _, Tm.rf _⟩
      · refine Pr.mk (r := -1) (M1 := M) (M2 := M) ?_ ?_ ⟨h, Ou.rf _ _, Tm.rf _⟩
        · unfold qfr_frame; simp only [jn_s]
          rw [within_t g1 g2, ob_s, if_neg (by decide), hasMaster_g h hm, ob_s, if_neg (by decide), if_neg hz, hasKnitter_b h hb, ob_s, if_pos rfl]
        · unfold qmd_frame; simp only [jn_s]
          rw [md_in_t g1 g2, ob_s, if_neg (by decide), md_isMaster_g h hm, ob_s, if_neg (by decide), if_neg hz, md_isKnitter_b h hb, ob_s, if_pos rfl]
    · refine Pr.mk (r := -1) (M1 := M) (M2 := M) ?_ ?_ ⟨h, Ou.rf _ _, Tm.rf _⟩
      · unfold qfr_frame; rw [within_t g1 g2, ob_s, if_neg (by decide), hasMaster_b h hb, ob_s, if_pos rfl]
      · unfold qmd_frame; rw [md_in_t g1 g2, ob_s, if_neg (by decide), md_isMaster_b h hb, ob_s, if_pos rfl]
  · refine Pr.mk (r := -1) (M1 := M) (M2 := M) ?_ ?_ ⟨h, Ou.rf _ _, Tm.rf _⟩
    · unfold qfr_frame; rw [within_f hb, ob_s, if_pos rfl]
    · unfold qmd_frame; rw [md_in_f hb, ob_s, if_pos rfl]
/-- a frame's row from now on -/
theorem hold_inv (h : I_tn M) {f : Nat} (hf : f < frM M) {v : Int32} (hv : okK M v) {M2 : SM} (g : ∀ c j, M2.1 c j = if c = 288 ∧ 520 * f + nwM M ≤ j ∧ j < 520 * f + 520 then v else if c = 187 + f ∧ nwM M ≤ j ∧ j < 520 then v else M.1 c j) : I_tn M2 := by
  have a := h.fs
  have an := h.nw
  have low : ∀ c j, (c ≤ 186 ∨ 280 ≤ c ∧ c ≤ 287) → M2.1 c j = M.1 c j := fun c j q => by rw [g, if_neg (by omega), if_neg (by omega)]
  have e3 : frM M2 = frM M := by unfold frM; rw [low _ _ (by omega)]
  have e0 : nwM M2 = nwM M := by unfold nwM; rw [low _ _ (by omega)]
  have e1 : msM M2 = msM M := by unfold msM; rw [low _ _ (by omega)]
  have e2 : knM M2 = knM M := by unfold knM; rw [low _ _ (by omega)]
  have ok : ∀ v, okK M v → okK M2 v := fun v hv => by unfold okK at hv ⊢; rw [e2]; exact hv
  refine ⟨?_, ?_, ?_, ?_, fun m hm => ?_, fun m hm => ?_, fun k hk => ?_, fun f' hf' => ?_, fun f' hf' w hw => ?_⟩
  · rw [e0, low _ _ (by omega), low _ _ (by omega)]; exact h.nw
  · rw [e1, low _ _ (by omega), low _ _ (by omega)]; exact h.ms
  · rw [e2, low _ _ (by omega), low _ _ (by omega)]; exact h.kn
  · rw [e3, low _ _ (by omega), low _ _ (by omega)]; exact h.fs
  · rw [e1] at hm; rw [low _ _ (by omega), low _ _ (by omega)]; exact h.ho m hm
  · rw [low _ _ (by omega), low _ _ (by omega)]; exact h.ov m hm
  · rw [e2] at hk; rw [low _ _ (by omega), low _ _ (by omega)]; exact h.he k hk
  · rw [e3] at hf'; rw [e1, low _ _ (by omega), low _ _ (by omega), low _ _ (by omega), low _ _ (by omega), low _ _ (by omega), low _ _ (by omega)]
    obtain ⟨b1, b2, b3, b4, b6⟩ := h.fa f' hf'
    exact ⟨b1, b2, b3, b4, ok _ b6⟩
  · rw [e3] at hf'
    have b := h.hd f' hf' w hw
    by_cases q : f' = f ∧ nwM M ≤ w
    · obtain ⟨rfl, q⟩ := q
      rw [g, if_pos ⟨rfl, by omega, by omega⟩, g, if_neg (by omega), if_pos ⟨rfl, q, hw⟩]
      exact ⟨rfl, ok _ hv⟩
    · rw [g, if_neg (by omega), if_neg (by omega), g, if_neg (by omega), if_neg (by omega)]
      exact ⟨b.1, ok _ b.2⟩
/-- both sides put a holder from now on -/
theorem hold_both (h : I_tn M) {f : Nat} (hf : f < frM M) {v : Int32} (hv : okK M v) : ∃ M1 M2, qtn_holdFromNow (nI f) v M = some ((), M1) ∧ qmd_hires (nI f) v M1 = some ((), M2) ∧ I_tn M2 ∧ Ou sTn M M2 ∧ (∀ c i, 280 ≤ c → M1.1 c i = M.1 c i) ∧ Tm M M2 := by
  have a := h.fs
  have an := h.nw
  obtain ⟨k1, k2⟩ := kz_ho f (by omega)
  obtain ⟨M1, e1, e2, e3⟩ := tfill_g k1 (by omega) k2 v M (i := nwM M) (by omega)
  obtain ⟨M2, q1, q2, q3⟩ := hires_g (f := f) (w := nwM M) (by omega) v M1 (by rw [e3, if_neg (by omega)]; exact an.2.2) (by omega)
  have g : ∀ c j, M2.1 c j = if c = 288 ∧ 520 * f + nwM M ≤ j ∧ j < 520 * f + 520 then v else if c = 187 + f ∧ nwM M ≤ j ∧ j < 520 then v else M.1 c j := fun c j => by rw [q3 c j, e3 c j]
  refine ⟨M1, M2, ?_, q1, hold_inv h hf hv g, ⟨fun c i hs => ?_, q2.trans e2⟩, fun c i hc => by rw [e3, if_neg (by omega)], Tm.eq fun i => by rw [g, if_neg (by omega), if_neg (by omega)]⟩
  · unfold qtn_holdFromNow
    rw [hasFrame_g h hf, ob_s, if_neg (by decide), ckb (and_i (ib_n (by omega) (by omega)) rfl), nI_cl (by omega), an.1, e1, ob_s]
  · unfold sTn at hs
    rw [g, if_neg (by omega), if_neg (by omega)]
theorem hire_p (h : I_tn M) (x y : Int32) : Pr M (qfr_hire x y) (qmd_hire x y) (fun M2 => I_tn M2 ∧ Ou sTn M M2 ∧ Tm M M2) := by
  have a := h.fs
  have ak := h.kn
  have an := h.nw
  rcases ix x (frM M) (by omega) with ⟨f, hf, rfl⟩ | hb
  · obtain ⟨b1, b2, b3, b4, b6⟩ := h.fa f hf
    have d := h.hd f hf (nwM M) (by omega)
    by_cases ho : M.1 185 f = -1
    · rcases ix y (knM M) (by omega) with ⟨k, hk, rfl⟩ | hb
      · by_cases hn : M.1 (187 + f) (nwM M) = -1
        · obtain ⟨M1, M2, c1, c2, c3, c4, c5, c6⟩ := hold_both h hf (v := nI k) (Or.inr ⟨k, hk, rfl⟩)
          refine Pr.mk (r := 1) (M1 := M1) (M2 := M2) ?_ ?_ ⟨c3, c4, c6⟩ (fun c i hc => c5 c i (by omega))
          · unfold qfr_hire
            rw [isForHire_g h hf, ob_s, if_pos ho, if_neg (by decide), hasKnitter_g h hk, ob_s, if_neg (by decide), an.1, holderAt_g h hf (by omega), ob_s, if_pos hn, c1, ob_s]
          · unfold qmd_hire
            rw [md_isFrame_rg ((c5 _ _ (by omega)).trans a.2.2) (by omega) hf, ob_s, if_neg (by decide), md_isKnitter_rg ((c5 _ _ (by omega)).trans ak.2.2) (by omega) hk, ob_s, if_neg (by decide), ckb (and_i (ib_n (by omega) (by omega)) rfl), nI_cl (by omega), c5 _ _ (by omega), b3, if_pos ho, c5 _ _ (by omega), an.2.2, hirerOf_r (by omega) (by omega), ob_s, c5 _ _ (by omega), d.1, if_pos hn, c2, ob_s]
        · refine Pr.mk (r := 0) (M1 := M) (M2 := M) ?_ ?_ ⟨h, Ou.rf _ _, Tm.rf _⟩
          · unfold qfr_hire
            rw [isForHire_g h hf, ob_s, if_pos ho, if_neg (by decide), hasKnitter_g h hk, ob_s, if_neg (by decide), an.1, holderAt_g h hf (by omega), ob_s, if_neg hn]
          · unfold qmd_hire
            rw [md_isFrame_g h hf, ob_s, if_neg (by decide), md_isKnitter_g h hk, ob_s, if_neg (by decide), ckb (and_i (ib_n (by omega) (by omega)) rfl), nI_cl (by omega), b3, if_pos ho, an.2.2, hirerOf_g h hf (by omega), ob_s, if_neg hn]
      · refine Pr.mk (r := 0) (M1 := M) (M2 := M) ?_ ?_ ⟨h, Ou.rf _ _, Tm.rf _⟩
        · unfold qfr_hire
          rw [isForHire_g h hf, ob_s, if_pos ho, if_neg (by decide), hasKnitter_b h hb, ob_s, if_pos rfl]
        · unfold qmd_hire
          rw [md_isFrame_g h hf, ob_s, if_neg (by decide), md_isKnitter_b h hb, ob_s, if_pos rfl]
    · refine Pr.mk (r := 0) (M1 := M) (M2 := M) ?_ ?_ ⟨h, Ou.rf _ _, Tm.rf _⟩
      · unfold qfr_hire
        rw [isForHire_g h hf, ob_s, if_neg ho, if_pos rfl]
      · unfold qmd_hire
        rw [md_isFrame_g h hf, ob_s, if_neg (by decide)]
        rcases ix y (knM M) (by omega) with ⟨k, hk, rfl⟩ | hb
        · rw [md_isKnitter_g h hk, ob_s, if_neg (by decide), ckb (and_i (ib_n (by omega) (by omega)) rfl), nI_cl (by omega), b3, if_neg ho]
        · rw [md_isKnitter_b h hb, ob_s, if_pos rfl]
  · refine Pr.mk (r := 0) (M1 := M) (M2 := M) ?_ ?_ ⟨h, Ou.rf _ _, Tm.rf _⟩
    · unfold qfr_hire; rw [isForHire_b h hb, ob_s, if_pos rfl]
    · unfold qmd_hire; rw [md_isFrame_b h hb, ob_s, if_pos rfl]
theorem back_p (h : I_tn M) (x : Int32) : Pr M (qfr_back x) (qmd_back x) (fun M2 => I_tn M2 ∧ Ou sTn M M2 ∧ Tm M M2) := by
  have a := h.fs
  have an := h.nw
  rcases ix x (frM M) (by omega) with ⟨f, hf, rfl⟩ | hb
  · obtain ⟨b1, b2, b3, b4, b6⟩ := h.fa f hf
    have d := h.hd f hf (nwM M) (by omega)
    by_cases ho : M.1 185 f = -1
    · by_cases hn : M.1 (187 + f) (nwM M) = -1
      · refine Pr.mk (r := 0) (M1 := M) (M2 := M) ?_ ?_ ⟨h, Ou.rf _ _, Tm.rf _⟩
        · unfold qfr_back
          rw [isForHire_g h hf, ob_s, if_pos ho, if_neg (by decide), an.1, holderAt_g h hf (by omega), ob_s, if_pos hn]
        · unfold qmd_back
          rw [md_isFrame_g h hf, ob_s, if_neg (by decide), ckb (and_i (ib_n (by omega) (by omega)) rfl), nI_cl (by omega), b3, if_pos ho, an.2.2, hirerOf_g h hf (by omega), ob_s, if_pos hn]
      · obtain ⟨M1, M2, c1, c2, c3, c4, c5, c6⟩ := hold_both h hf (v := -1) (Or.inl rfl)
        refine Pr.mk (r := 1) (M1 := M1) (M2 := M2) ?_ ?_ ⟨c3, c4, c6⟩ (fun c i hc => c5 c i (by omega))
        · unfold qfr_back
          rw [isForHire_g h hf, ob_s, if_pos ho, if_neg (by decide), an.1, holderAt_g h hf (by omega), ob_s, if_neg hn, c1, ob_s]
        · unfold qmd_back
          rw [md_isFrame_rg ((c5 _ _ (by omega)).trans a.2.2) (by omega) hf, ob_s, if_neg (by decide), ckb (and_i (ib_n (by omega) (by omega)) rfl), nI_cl (by omega), c5 _ _ (by omega), b3, if_pos ho, c5 _ _ (by omega), an.2.2, hirerOf_r (by omega) (by omega), ob_s, c5 _ _ (by omega), d.1, if_neg hn, c2, ob_s]
    · refine Pr.mk (r := 0) (M1 := M) (M2 := M) ?_ ?_ ⟨h, Ou.rf _ _, Tm.rf _⟩
      · unfold qfr_back
        rw [isForHire_g h hf, ob_s, if_neg ho, if_pos rfl]
      · unfold qmd_back
        rw [md_isFrame_g h hf, ob_s, if_neg (by decide), ckb (and_i (ib_n (by omega) (by omega)) rfl), nI_cl (by omega), b3, if_neg ho]
  · refine Pr.mk (r := 0) (M1 := M) (M2 := M) ?_ ?_ ⟨h, Ou.rf _ _, Tm.rf _⟩
    · unfold qfr_back; rw [isForHire_b h hb, ob_s, if_pos rfl]
    · unfold qmd_back; rw [md_isFrame_b h hb, ob_s, if_pos rfl]
end
