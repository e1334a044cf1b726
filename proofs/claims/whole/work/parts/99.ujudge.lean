/-! judge -/
def jR (G : Nat → Nat → Int64) (b : Nat → Nat) (N D : Nat) : Nat → Int64 → Nat → Int64
  | 0, g, t => if t = D then g else -1000000000000
  | n + 1, g, t => if 24 < b (N - (n + 1)) then -1000000000000 else jR G b N D n (g + G (N - (n + 1)) (b (N - (n + 1)))) (t + b (N - (n + 1)))
def sOi (c i : Nat) : Prop := (c = 244 ∧ i ≤ 6) ∨ c = 269 ∨ (c = 280 ∧ 68 ≤ i ∧ i ≤ 74) ∨ c = 327
theorem I_or.fr {M M' : SM} (h : I_or M) (e : Eq1 sOi M M') (hm : msM M ≤ msM M') (hf : frM M ≤ frM M') : I_or M' := by
  obtain ⟨h1, h2, h3⟩ := h
  refine ⟨?_, fun i hi => ?_, fun i hi1 hi2 => ?_⟩
  · rcases h1 with ⟨a, b⟩ | ⟨a, b, m, sh, dz, nr, yn, pr, ⟨c0, c1⟩, ⟨d1, d2, d3, d4, d5, d6⟩, f1, f2, f3, f4, f5, f6⟩
    · exact Or.inl ⟨by rw [e 244 0 (by unfold sOi; omega)]; exact a, by rw [e 280 68 (by unfold sOi; omega)]; exact b⟩
    · refine Or.inr ⟨by rw [e 244 0 (by unfold sOi; omega)]; exact a, by rw [e 280 68 (by unfold sOi; omega)]; exact b, m, sh, dz, nr, yn, pr, ⟨by omega, c1⟩, ⟨?_, ?_, ?_, ?_, ?_, ?_⟩, ?_, ?_, ?_, ?_, ?_, ?_⟩
      · rw [e 244 1 (by unfold sOi; omega)]; exact d1
      · rw [e 244 2 (by unfold sOi; omega)]; exact d2
      · rw [e 244 3 (by unfold sOi; omega)]; exact d3
      · rw [e 244 4 (by unfold sOi; omega)]; exact d4
      · rw [e 244 5 (by unfold sOi; omega)]; exact d5
      · rw [e 244 6 (by unfold sOi; omega)]; exact d6
      · rw [e 280 69 (by unfold sOi; omega)]; exact f1
      · rw [e 280 70 (by unfold sOi; omega)]; exact f2
      · rw [e 280 71 (by unfold sOi; omega)]; exact f3
      · rw [e 280 72 (by unfold sOi; omega)]; exact f4
      · rw [e 280 73 (by unfold sOi; omega)]; exact f5
      · rw [e 280 74 (by unfold sOi; omega)]; exact f6
  · rw [e 327 i (by unfold sOi; omega), e 269 i (by unfold sOi; omega)]; exact h2 i hi
  · rw [e 269 i (by unfold sOi; omega)]; exact h3 i (by omega) hi2
section
variable {G : Nat → Nat → Int64} {N D : Nat} {b : Nat → Nat}
theorem gR_L20 {M : SM} (h : bG M G N D) (hN : N ≤ 10) (hD : D ≤ 60) {T : Nat} (eT : M.1 1 1 = nI T) (hT : T ≤ 200) (hNT : N ≤ T) (hb : ∀ i, i < N → M.1 2 i &&& 255 = nI (b i)) (hb2 : ∀ i, b i < 256) : ∀ (n fu i t : Nat) (g : Int64), N - i = n → n < fu → i ≤ N → t ≤ 24 * i →
    qod_gainOfRow_L20 (fun y3_9 y5_10 M11 =>
    if y5_10 = (M11.1 244 3) then
      (some (y3_9, M11)) else
      (some ((-1000000000000 : Int64), M11))) fu (nI N) g (nI t) (nI i) M = some (jR G b N D n g t, M) := by
  intro n
  induction n with
  | zero =>
    intro fu i t g e hfu hi ht
    obtain ⟨fu, rfl⟩ : ∃ y, fu = y + 1 := ⟨fu - 1, by omega⟩
    unfold qod_gainOfRow_L20 jR
    rw [if_neg (nI_nlt (by omega) (by omega)), h.2.1]
    by_cases q : t = D
    · rw [if_pos q, if_pos (by rw [q])]
    · rw [if_neg q, if_neg (fun z => q (nI_inj (by omega) (by omega) z))]
  | succ n ih =>
    intro fu i t g e hfu hi ht
    obtain ⟨fu, rfl⟩ : ∃ y, fu = y + 1 := ⟨fu - 1, by omega⟩
    have hbi := hb2 i
    unfold qod_gainOfRow_L20 jR
    rw [if_pos ((nI_ltI (by omega) (by omega)).mpr (by omega)), byteAt_g eT hT (by omega), ob_s, hb i (by omega), show N - (n + 1) = i by omega]
    by_cases q : 24 < b i
    · rw [if_pos q, if_pos (show (24 : Int32) < nI (b i) from (nI_ltI (a := 24) (by omega) (by omega)).mpr q)]
    · rw [if_neg q, if_neg (show ¬ (24 : Int32) < nI (b i) from nI_nlt (a := 24) (by omega) (by omega)), gainAt_g h hN (by omega) (by omega), ob_s, nI_add, nI_1]
      exact ih fu (i + 1) (t + b i) _ (by omega) (by omega) (by omega) (by omega)
theorem jd_L51 {M : SM} (h : rG M G N) (hN : N ≤ 10) (hD : D ≤ 60) (eD : M.1 280 71 = nI D) (hb : ∀ i, i < N → M.1 289 i &&& 255 = nI (b i)) (hb2 : ∀ i, b i < 256) : ∀ (n fu i t : Nat) (g : Int64), N - i = n → n < fu → i ≤ N → t ≤ 24 * i →
    qmd_judge_L51 (fun y2_10 y3_11 M12 =>
          if y2_10 = (M12.1 280 71) then
            (some (y3_11, M12)) else
            (some ((-1000000000000 : Int64), M12))) fu (nI N) (nI t) g (nI i) M = some (jR G b N D n g t, M) := by
  intro n
  induction n with
  | zero =>
    intro fu i t g e hfu hi ht
    obtain ⟨fu, rfl⟩ : ∃ y, fu = y + 1 := ⟨fu - 1, by omega⟩
    unfold qmd_judge_L51 jR
    rw [if_neg (nI_nlt (by omega) (by omega)), eD]
    by_cases q : t = D
    · rw [if_pos q, if_pos (by rw [q])]
    · rw [if_neg q, if_neg (fun z => q (nI_inj (by omega) (by omega) z))]
  | succ n ih =>
    intro fu i t g e hfu hi ht
    obtain ⟨fu, rfl⟩ : ∃ y, fu = y + 1 := ⟨fu - 1, by omega⟩
    have hbi := hb2 i
    unfold qmd_judge_L51 jR
    rw [if_pos ((nI_ltI (by omega) (by omega)).mpr (by omega)), ck_ib (by omega) (by omega), ck_t, nI_cl (n := i) (by omega), hb i (by omega), show N - (n + 1) = i by omega]
    by_cases q : 24 < b i
    · rw [if_pos q, if_pos (show (24 : Int32) < nI (b i) from (nI_ltI (a := 24) (by omega) (by omega)).mpr q)]
    · rw [if_neg q, if_neg (show ¬ (24 : Int32) < nI (b i) from nI_nlt (a := 24) (by omega) (by omega)), ltt_s, show (25 : Int32) = nI 25 from rfl, nI_mul, nI_add, nI_add, ck_ib (by omega) (by omega), ck_t, nI_cl (by omega), ltt_s, h.2 i (b i) (by omega) (by omega), nI_1]
      exact ih fu (i + 1) (t + b i) _ (by omega) (by omega) (by omega) (by omega)
end
section
variable {M : SM} {V : Nat → FA → LE} {B : Nat → FA → LE → Int64}
theorem judge_p (ht : I_tn M) (he : I_en M) (hu : I_us M) (hp : PR M V B) (htp : I_tp M) (ho : I_or M) (x : Int32) : Pr M (qfr_judge x) (qmd_judge x) (fun M2 => I_tp M2 ∧ I_or M2 ∧ Ov sJu sOrL M M2) := by
  have fs := ht.fs
  have am := ht.ms
  obtain ⟨⟨t1, t2, t3⟩, t4⟩ := id htp
  have no : qfr_judge x M = some (-1000000000000, M) → qmd_judge x M = some (-1000000000000, M) → Pr M (qfr_judge x) (qmd_judge x) (fun M2 => I_tp M2 ∧ I_or M2 ∧ Ov sJu sOrL M M2) := fun e1 e2 => Pr.mk e1 e2 ⟨htp, ho, Ov.rf _ _ _⟩
  rcases ho.1 with ⟨z1, z2⟩ | ⟨z1, z2, m, sh, dz, nr, yn, pr, ⟨hm, -, d2, -, -, p2⟩, ⟨f1, f2, f3, f4, f5, f6⟩, g1, g2, g3, g4, g5, g6⟩
  · exact no (by unfold qfr_judge; rw [if_pos z1]) (by unfold qmd_judge; rw [if_pos z2])
  have y1 : ¬ M.1 244 0 = 0 := by rw [z1]; decide
  have y2 : ¬ M.1 280 68 = 0 := by rw [z2]; decide
  by_cases h0 : x < 0
  · exact no (by unfold qfr_judge; rw [if_neg y1, if_pos h0]) (by unfold qmd_judge; rw [if_neg y2, if_pos h0])
  obtain ⟨n, hn, rfl⟩ := nI_of h0
  by_cases hnT : taM M < n
  · have q := (nI_ltI (a := taM M) (b := n) (by omega) hn).mpr hnT
    exact no (by unfold qfr_judge; rw [if_neg y1, if_neg h0, t1, if_pos q]) (by unfold qmd_judge; rw [if_neg y2, if_neg h0, t3, if_pos q])
  have q : ¬ nI (taM M) < nI n := nI_nlt (by omega) (by omega)
  obtain ⟨M1, a1, a2, a3, a4⟩ := fillOr_g ht he hu hp (Ma := M) (fun _ _ _ => rfl) (fun _ _ _ => rfl) (fun _ _ _ => rfl) (fun _ _ _ => rfl) hm f1 f2 f3 f4 f5 f6
  have hN : nOr M m ≤ 10 := (roN_10 M (nI m) (nwM M) (frM M)).1
  obtain ⟨b, hbd⟩ : ∃ b : Nat → Nat, b = fun i => (M.1 2 i).toBitVec.toNat % 256 := ⟨_, rfl⟩
  have hb2 : ∀ i, b i < 256 := fun i => by rw [hbd]; exact Nat.mod_lt _ (by decide)
  have hb : ∀ i, M.1 2 i &&& 255 = nI (b i) := fun i => by rw [hbd]; exact by_255 _
  -- the class
  have eC : qfr_judge (nI n) M = some (if n = nOr M m then jR (gOr M V B m sh nr yn pr) b (nOr M m) dz (nOr M m) 0 0 else -1000000000000, wI M1 1 1 0) := by
    unfold qfr_judge qod_gainOfRow
    rw [if_neg y1, if_neg h0, t1, if_neg q, a1, ob_s, a3.1]
    by_cases z : n = nOr M m
    · rw [if_pos z, if_pos (by rw [z]), z]
      have := gR_L20 a3 hN d2 (T := taM M) (by rw [a2.1 1 1 (by omega)]; exact t1) t2 (by omega) (fun i hi => by rw [a2.1 2 i (by omega)]; exact hb i) hb2 (nOr M m) FU 0 0 0 (by omega) (by unfold FU; omega) (by omega) (by omega)
      rw [show qod_gainOfRow_L20 _ FU (nI (nOr M m)) (0 : Int64) (0 : Int32) (0 : Int32) M1 = _ from this, ob_s, wipe_g, ob_s]
    · rw [if_neg z, if_neg (fun w => z (nI_inj (by omega) (by omega) w)), ob_s, wipe_g, ob_s]
  -- the reference
  have om : ∀ c i, ¬ ((c = 12 ∧ i = 8) ∨ (c = 244 ∧ i = 7) ∨ c = 245 ∨ (c = 1 ∧ i = 1)) → (wI M1 1 1 0).1 c i = M.1 c i := fun c i w => by
    rw [wI_1, if_neg (by omega), a2.1 c i (by omega)]
  have ol : ∀ c, ¬ ((175 ≤ c ∧ c ≤ 178) ∨ (247 ≤ c ∧ c ≤ 256)) → (wI M1 1 1 0).2 c = M.2 c := fun c w => a2.2 c w
  have o11 : (wI M1 1 1 0).1 1 1 = 0 := by rw [wI_1, if_pos ⟨rfl, rfl⟩]
  generalize wI M1 1 1 0 = M2 at eC om ol o11
  obtain ⟨M3, w1, w2, w3, w4⟩ := weighOr_g ht he hu hp (Ma := M2) (m := m) (sh := sh) (nr := nr) (yn := yn) (pr := pr) (fun c i q => om c i (by unfold sTn at q; omega)) (fun c i q => om c i (by unfold sEn at q; omega)) (fun c i q => om c i (by unfold sPr at q; omega)) (fun c i q => om c i (by unfold sUs at q; omega)) hm (by rw [om 280 69 (by omega)]; exact g1) (by rw [om 280 70 (by omega)]; exact g2) (by rw [om 280 72 (by omega)]; exact g4) (by rw [om 280 73 (by omega)]; exact g5) (by rw [om 280 74 (by omega)]; exact g6)
  have eM : qmd_judge (nI n) M2 = some (if n = nOr M m then jR (gOr M V B m sh nr yn pr) b (nOr M m) dz (nOr M m) 0 0 else -1000000000000, wI M3 280 13 0) := by
    unfold qmd_judge
    rw [om 280 68 (by omega), if_neg y2, if_neg h0, om 280 13 (by omega), t3, if_neg q, w1, ob_s, w3.1]
    by_cases z : n = nOr M m
    · rw [if_pos z, if_pos (by rw [z]), z]
      exact jd_L51 (M := wI M3 280 13 0) ⟨by rw [wI_1, if_neg (by omega)]; exact w3.1, w3.2⟩ hN d2 (by rw [wI_1, if_neg (by omega), w2.1 280 71 (by omega), om 280 71 (by omega)]; exact g3) (fun i hi => by
        rw [wI_1, if_neg (by omega), w2.1 289 i (by omega), om 289 i (by omega), t4 i (by omega)]; exact hb i) hb2 (nOr M m) FU 0 0 0 (by omega) (by unfold FU; omega) (by omega) (by omega)
    · rw [if_neg z, if_neg (fun w => z (nI_inj (by omega) (by omega) w))]
  have qo : ∀ c i, ¬ sJu c i → (wI M3 280 13 0).1 c i = M.1 c i := fun c i w => by
    unfold sJu sOr at w
    rw [wI_1, if_neg (by omega), w2.1 c i (by omega), om c i (by omega)]
  have qi : ∀ c i, ¬ ((c = 280 ∧ i = 75) ∨ c = 318 ∨ c = 319 ∨ c = 326 ∨ (c = 12 ∧ i = 8) ∨ (c = 244 ∧ i = 7) ∨ c = 245 ∨ (c = 1 ∧ i = 1) ∨ (c = 280 ∧ i = 13)) → (wI M3 280 13 0).1 c i = M.1 c i := fun c i w => by
    rw [wI_1, if_neg (by omega), w2.1 c i (by omega), om c i (by omega)]
  have et : Eq1 sTn M (wI M3 280 13 0) := fun c i w => qi c i (by unfold sTn at w; omega)
  have e11 : (wI M3 280 13 0).1 1 1 = 0 := by
    rw [wI_1, if_neg (by omega), w2.1 1 1 (by omega)]; exact o11
  refine Pr.mk eC eM ⟨?_, ho.fr (fun c i w => qi c i (by unfold sOi at w; omega)) (by rw [msM_E et]; omega) (by rw [frM_E et]; omega), qo, fun c w => ?_⟩ (fun c i hc => om c i (by omega))
  · have e0 : taM (wI M3 280 13 0) = 0 := by
      show Int32.toNatClampNeg _ = 0
      rw [e11]; rfl
    unfold I_tp
    rw [e0]
    refine ⟨⟨e11, by omega, by rw [wI_1, if_pos ⟨rfl, rfl⟩]; rfl⟩, fun i hi => ?_⟩
    rw [qi 289 i (by omega), qi 2 i (by omega)]; exact t4 i hi
  · unfold sOrL at w
    rw [show (wI M3 280 13 0).2 c = M3.2 c from rfl, w2.2 c (by omega), ol c (by omega)]
end
