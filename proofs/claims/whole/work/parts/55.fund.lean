/-! the fund -/
def peM (M : SM) : Nat := Int32.toNatClampNeg (M.1 278 0)
def scM (M : SM) : Nat := Int32.toNatClampNeg (M.1 278 1)
def I_fu (M : SM) : Prop := (M.1 278 0 = nI (peM M) ∧ peM M ≤ 1000000000 ∧ M.1 280 87 = nI (peM M)) ∧ (M.1 278 1 = nI (scM M) ∧ scM M ≤ 1000 ∧ M.1 280 60 = nI (scM M)) ∧
  (∀ k, k < 12 → M.1 335 k = M.1 279 k ∧ (M.1 279 k = 0 ∨ M.1 279 k = 1)) ∧ ∀ k, k < 12 → knM M ≤ k → M.1 279 k = 0
def sFu (c i : Nat) : Prop := (c = 278 ∧ i ≤ 1) ∨ c = 279 ∨ (c = 280 ∧ i = 87) ∨ (c = 280 ∧ i = 60) ∨ c = 335
theorem I_fu.fr {M M' : SM} (h : I_fu M) (e : Eq1 sFu M M') (hk : knM M ≤ knM M') : I_fu M' := by
  have e0 : peM M' = peM M := by unfold peM; rw [e 278 0 (by unfold sFu; omega)]
  have e1 : scM M' = scM M := by unfold scM; rw [e 278 1 (by unfold sFu; omega)]
  unfold I_fu
  rw [e0, e1, e 278 0 (by unfold sFu; omega), e 280 87 (by unfold sFu; omega), e 278 1 (by unfold sFu; omega), e 280 60 (by unfold sFu; omega)]
  refine ⟨h.1, h.2.1, fun k hk => ?_, fun k hk1 hk2 => ?_⟩
  · rw [e 335 k (by unfold sFu; omega), e 279 k (by unfold sFu; omega)]; exact h.2.2.1 k hk
  · rw [e 279 k (by unfold sFu; omega)]; exact h.2.2.2 k hk1 (by omega)
section
variable {M : SM}
theorem fund_p (h : I_fu M) (x : Int32) : Pr M (qfr_fund x) (qmd_fund x) (fun M2 => I_fu M2 ∧ Ou sFu M M2) := by
  obtain ⟨a, b, c, d⟩ := id h
  rcases rg x 1 1000000 1 1000000 rfl rfl with ⟨n, hn1, hn2, rfl, g1, g2⟩ | hb
  · by_cases h6 : peM M + n ≤ 1000000000
    · refine Pr.mk (r := nI (peM M + n)) (M1 := wI M 278 0 (nI (peM M + n))) (M2 := wI (wI M 278 0 (nI (peM M + n))) 280 87 (nI (peM M + n))) ?_ ?_ ⟨?_, ((Ou.rf _ _).wI ?_).wI ?_⟩
      · unfold qfr_fund qfu_add
        rw [within_t g1 g2, ob_s, if_neg (by decide), a.1, show (1000000000 : Int32) = nI 1000000000 from rfl, nI_subN a.2.1, if_neg (by rw [nI_ltN (by omega) (by omega)]; omega), nI_add, ob_s]
      · unfold qmd_fund
        have e : (wI M 278 0 (nI (peM M + n))).1 280 87 = nI (peM M) := by simp [wI_1, a.2.2]
        rw [md_in_t g1 g2, ob_s, if_neg (by decide), e, nI_add, show (1000000000 : Int32) = nI 1000000000 from rfl, if_neg (by rw [nI_ltN (by omega) (by omega)]; omega)]
      · generalize hM2 : wI (wI M 278 0 (nI (peM M + n))) 280 87 (nI (peM M + n)) = M2
        have g : ∀ c i, M2.1 c i = if c = 280 ∧ i = 87 then nI (peM M + n) else if c = 278 ∧ i = 0 then nI (peM M + n) else M.1 c i := by
          intro c i; rw [← hM2]; simp only [wI_1]
        have e0 : peM M2 = peM M + n := by unfold peM; rw [g]; simp [nI_cl (show peM M + n < 2147483648 by omega)]; rfl
        have e1 : scM M2 = scM M := by unfold scM; rw [g]; simp
        have e2 : knM M2 = knM M := by unfold knM; rw [g]; simp
        unfold I_fu
        rw [e0, e1, e2]
        refine ⟨?_, ?_, fun k hk => ?_, fun k hk1 hk2 => ?_⟩
        · rw [g, g]; simpa using h6
        · rw [g, g]; simpa using b
        · rw [g, g]; simpa using c k hk
        · rw [g]; simpa using d k hk1 hk2
      all_goals (unfold sFu; omega)
    · refine Pr.mk (r := -1) (M1 := M) (M2 := M) ?_ ?_ ⟨h, Ou.rf _ _⟩
      · unfold qfr_fund qfu_add
        rw [within_t g1 g2, ob_s, if_neg (by decide), a.1, show (1000000000 : Int32) = nI 1000000000 from rfl, nI_subN a.2.1, if_pos (by rw [nI_ltN (by omega) (by omega)]; omega), ob_s]
      · unfold qmd_fund
        rw [md_in_t g1 g2, ob_s, if_neg (by decide), a.2.2, nI_add, show (1000000000 : Int32) = nI 1000000000 from rfl, if_pos (by rw [nI_ltN (by omega) (by omega)]; omega)]
  · refine Pr.mk (r := -1) (M1 := M) (M2 := M) ?_ ?_ ⟨h, Ou.rf _ _⟩
    · unfold qfr_fund; rw [within_f hb, ob_s, if_pos rfl]
    · unfold qmd_fund; rw [md_in_f hb, ob_s, if_pos rfl]
theorem isStriker_g {k : Nat} (hk : k < 12) : qfu_isStriker (nI k) M = some (if M.1 279 k = 0 then 0 else 1, M) := by
  unfold qfu_isStriker
  rw [if_neg (nI_lt0 (by omega)), if_pos (show nI k < (12 : Int32) from nI_lt (b := 12) hk (by decide)), ckb (and_i (ib_n (by omega) (by omega)) rfl), nI_cl (by omega)]
  split <;> rfl
theorem strike_p (ht : I_tn M) (h : I_fu M) (x y : Int32) (hy : y = 0 ∨ y = 1) : Pr M (qfr_strike x y) (qmd_strike x y) (fun M2 => I_fu M2 ∧ Ou sFu M M2) := by
  obtain ⟨a, b, c, d⟩ := id h
  have ak := ht.kn
  rcases ix x (knM M) (by omega) with ⟨k, hk, rfl⟩ | hb
  · have hv : (if M.1 279 k = 0 then (0 : Int32) else 1) = M.1 279 k := by
      rcases (c k (by omega)).2 with q | q <;> rw [q] <;> decide
    have hy2 : y &&& 1 = y := by rcases hy with rfl | rfl <;> decide
    by_cases hq : M.1 279 k = y
    · refine Pr.mk (r := 0) (M1 := M) (M2 := M) ?_ ?_ ⟨h, Ou.rf _ _⟩
      · unfold qfr_strike
        rw [hasKnitter_g ht hk, ob_s, if_neg (by decide), isStriker_g (by omega), hv, ob_s, if_pos hq]
      · unfold qmd_strike
        rw [md_isKnitter_g ht hk, ob_s, if_neg (by decide), ckb (and_i (ib_n (by omega) (by omega)) rfl), nI_cl (by omega), (c k (by omega)).1, if_pos hq]
    · refine Pr.mk (r := 1) (M1 := wI M 279 k y) (M2 := wI (wI M 279 k y) 335 k y) ?_ ?_ ⟨?_, ((Ou.rf _ _).wI ?_).wI ?_⟩
      · unfold qfr_strike qfu_setStriker
        rw [hasKnitter_g ht hk, ob_s, if_neg (by decide), isStriker_g (by omega), hv, ob_s, if_neg hq, if_neg (nI_lt0 (by omega)), if_pos (show nI k < (12 : Int32) from nI_lt (b := 12) (by omega) (by decide)), ckb (and_i (ib_n (by omega) (by omega)) rfl), nI_cl (by omega), hy2, ob_s]
      · unfold qmd_strike
        have e : (wI M 279 k y).1 280 2 = nI (knM M) := by simp [wI_1, ak.2.2]
        have e2 : (wI M 279 k y).1 335 k = M.1 279 k := by simp [wI_1, (c k (by omega)).1]
        rw [md_isKnitter_rg e (by omega) hk, ob_s, if_neg (by decide), ckb (and_i (ib_n (by omega) (by omega)) rfl), nI_cl (by omega), e2, if_neg hq, ckb (and_i (ib_n (by omega) (by omega)) rfl), hy2]
      · generalize hM2 : wI (wI M 279 k y) 335 k y = M2
        have g : ∀ c i, M2.1 c i = if c = 335 ∧ i = k then y else if c = 279 ∧ i = k then y else M.1 c i := by
          intro c i; rw [← hM2]; simp only [wI_1]
        have e0 : peM M2 = peM M := by unfold peM; rw [g]; simp
        have e1 : scM M2 = scM M := by unfold scM; rw [g]; simp
        have e2 : knM M2 = knM M := by unfold knM; rw [g]; simp
        unfold I_fu
        rw [e0, e1, e2]
        refine ⟨?_, ?_, fun k' hk' => ?_, fun k' hk1 hk2 => ?_⟩
        · rw [g, g]; simpa using a
        · rw [g, g]; simpa using b
        · rw [g, g]
          by_cases hq : k' = k
          · simp [hq]; exact hy
          · simp [hq]; exact c k' hk'
        · rw [g, if_neg (by omega), if_neg (by omega)]; exact d k' hk1 hk2
      all_goals (unfold sFu; omega)
  · refine Pr.mk (r := 0) (M1 := M) (M2 := M) ?_ ?_ ⟨h, Ou.rf _ _⟩
    · unfold qfr_strike; rw [hasKnitter_b ht hb, ob_s, if_pos rfl]
    · unfold qmd_strike; rw [md_isKnitter_b ht hb, ob_s, if_pos rfl]
/-- what is due to knitter k a week -/
def duN (M : SM) (k : Nat) : Nat := if M.1 279 k = 0 then 0 else scM M * Int32.toNatClampNeg (M.1 182 k)
theorem duN_le (ht : I_tn M) (h : I_fu M) {k : Nat} (hk : k < 12) : duN M k ≤ 9000 := by
  unfold duN
  split
  · omega
  · rename_i h0
    have hk2 : k < knM M := by
      rcases Nat.lt_or_ge k (knM M) with q | q
      · exact q
      · exact absurd (h.2.2.2 k hk q) h0
    obtain ⟨n, n1, n2, n3⟩ := (ht.he k hk2).2
    rw [n3, nI_cl (by omega)]
    exact Nat.mul_le_mul h.2.1.2.1 n2
theorem dueTo_g (ht : I_tn M) (h : I_fu M) {k : Nat} (hk : k < 12) : qfu_dueTo (nI k) M = some (nI (duN M k), M) := by
  unfold qfu_dueTo duN
  rw [isStriker_g hk, ob_s]
  by_cases h0 : M.1 279 k = 0
  · rw [if_pos h0, if_pos rfl, if_pos h0]; rfl
  · have hk2 : k < knM M := by
      rcases Nat.lt_or_ge k (knM M) with q | q
      · exact q
      · exact absurd (h.2.2.2 k hk q) h0
    obtain ⟨n, n1, n2, n3⟩ := (ht.he k hk2).2
    rw [if_neg h0, if_neg (by decide), if_neg h0, headsOf_g ht hk2, ob_s, h.2.1.1, n3, nI_mul, nI_cl (by omega)]
def suN (M : SM) : Nat → Nat
  | 0 => 0
  | n + 1 => suN M n + duN M n
theorem suN_le (ht : I_tn M) (h : I_fu M) : ∀ n, n ≤ 12 → suN M n ≤ 9000 * n
  | 0, _ => Nat.le_refl _
  | n + 1, hn => by
    have h1 := suN_le ht h n (by omega)
    have h2 := duN_le ht h (show n < 12 by omega)
    unfold suN
    omega
theorem suN_end (h : I_fu M) : ∀ j, knM M + j ≤ 12 → suN M (knM M + j) = suN M (knM M)
  | 0, _ => rfl
  | j + 1, hj => by
    show suN M (knM M + j) + duN M (knM M + j) = _
    rw [suN_end h j (by omega)]
    unfold duN
    rw [if_pos (h.2.2.2 _ (by omega) (by omega))]
    rfl
theorem wholeWeeks_L4_g (ht : I_tn M) (h : I_fu M) (K : Int32 → SM → Option (Int32 × SM)) : ∀ n i, 12 - i < n → i ≤ 12 → qfu_wholeWeeks_L4 K n (nI (suN M i)) (nI i) M = K (nI (suN M 12)) M := by
  intro n
  induction n with
  | zero => intro i hn; omega
  | succ n ih =>
    intro i hn hi
    unfold qfu_wholeWeeks_L4
    by_cases hlt : i < 12
    · rw [if_pos (show nI i < (12 : Int32) from nI_lt (b := 12) hlt (by decide)), dueTo_g ht h hlt, ob_s, nI_add, nI_1]
      exact ih (i + 1) (by omega) (by omega)
    · obtain rfl : i = 12 := by omega
      rw [if_neg (by decide)]
theorem lasts_L4_g (ht : I_tn M) (h : I_fu M) (K : Int32 → SM → Option (Int32 × SM)) : ∀ n i, knM M - i < n → i ≤ knM M → qmd_lasts_L4 K n (nI (suN M i)) (nI i) M = K (nI (suN M (knM M))) M := by
  have ak := ht.kn
  intro n
  induction n with
  | zero => intro i hn; omega
  | succ n ih =>
    intro i hn hi
    unfold qmd_lasts_L4
    rw [ak.2.2]
    by_cases hlt : i < knM M
    · have := ih (i + 1) (by omega) (by omega)
      rw [show suN M (i + 1) = suN M i + duN M i from rfl] at this
      rw [if_pos ((nI_ltI (by omega) (by omega)).mpr hlt), ckb (and_i (ib_n (by omega) (by omega)) rfl), nI_cl (by omega), (h.2.2.1 i (by omega)).1]
      unfold duN at this
      by_cases h0 : M.1 279 i = 0
      · rw [if_pos h0] at this
        rw [if_pos h0, show (0 : Int32) = nI 0 from rfl, nI_add, nI_1]
        exact this
      · rw [if_neg h0] at this
        obtain ⟨n, n1, n2, n3⟩ := (ht.he i hlt).2
        rw [n3, nI_cl (by omega)] at this
        rw [if_neg h0, ckb (and_i (ib_n (by omega) (by omega)) rfl), h.2.1.2.2, (ht.he i hlt).1, n3, nI_mul, nI_add, nI_1]
        exact this
    · obtain rfl : i = knM M := by omega
      rw [if_neg (nI_nlt (Nat.le_refl _) (by omega))]
theorem lasts_p (ht : I_tn M) (h : I_fu M) : Pr M qfr_lasts qmd_lasts (fun M2 => M2 = M) := by
  have ak := ht.kn
  obtain ⟨a, b, c, d⟩ := id h
  have e12 : suN M 12 = suN M (knM M) := by
    have := suN_end h (12 - knM M) (by omega)
    rwa [show knM M + (12 - knM M) = 12 by omega] at this
  have hle := suN_le ht h 12 (Nat.le_refl _)
  have e1 : qfr_lasts M = (if 0 < nI (suN M 12) then some ((M.1 278 0) / nI (suN M 12), M) else some (-1, M)) := by
    unfold qfr_lasts qfu_wholeWeeks
    rw [show (0 : Int32) = nI (suN M 0) from rfl]
    have := wholeWeeks_L4_g ht h (fun y2_5 M6 => if 0 < y2_5 then (ck (decide (¬ y2_5 = 0) && true) (some (((M6.1 278 0) / y2_5), M6))) else (some ((-1 : Int32), M6))) FU 0 (by unfold FU; omega) (by omega)
    rw [show nI (suN M 0) = (0 : Int32) from rfl, show nI 0 = (0 : Int32) from rfl] at this
    rw [show nI (suN M 0) = (0 : Int32) from rfl, this]
    by_cases h0 : 0 < nI (suN M 12)
    · rw [if_pos h0, if_pos h0, ckb (and_i (decide_eq_true (show ¬ nI (suN M 12) = 0 from fun q => by rw [q] at h0; exact absurd h0 (by decide))) rfl), ob_s]
    · rw [if_neg h0, if_neg h0, ob_s]
  have e2 : qmd_lasts M = (if nI (suN M 12) = 0 then some (-1, M) else some ((M.1 280 87) / nI (suN M 12), M)) := by
    unfold qmd_lasts
    have := lasts_L4_g ht h (fun y1_5 M6 => if y1_5 = 0 then (some ((-1 : Int32), M6)) else (ck (decide (¬ y1_5 = 0) && true) (some (((M6.1 280 87) / y1_5), M6)))) FU 0 (by unfold FU; omega) (by omega)
    rw [show nI (suN M 0) = (0 : Int32) from rfl, show nI 0 = (0 : Int32) from rfl] at this
    rw [this, ← e12]
    by_cases h0 : nI (suN M 12) = 0
    · rw [if_pos h0, if_pos h0]
    · rw [if_neg h0, if_neg h0, ckb (and_i (decide_eq_true h0) rfl)]
  by_cases h0 : suN M 12 = 0
  · rw [h0] at e1 e2
    exact Pr.mk (r := -1) (e1.trans (by rw [if_neg (by decide)])) (e2.trans (by rw [if_pos (by decide)])) rfl
  · refine Pr.mk (e1.trans (by rw [if_pos (show (0 : Int32) < nI (suN M 12) from nI_lt (a := 0) (by omega) (by omega))])) (e2.trans (by rw [if_neg (show ¬ nI (suN M 12) = (0 : Int32) from nI_ne0 (by omega) (by omega)), a.2.2, ← a.1])) rfl
/-- who is paid: (what is left, what was paid) behind the first n -/
def paN (M : SM) : Nat → Nat × Nat
  | 0 => (peM M, 0)
  | n + 1 => if (paN M n).1 < duN M n then paN M n else ((paN M n).1 - duN M n, (paN M n).2 + duN M n)
theorem paN_sum (M : SM) : ∀ n, (paN M n).1 + (paN M n).2 = peM M
  | 0 => rfl
  | n + 1 => by
    have := paN_sum M n
    unfold paN
    split
    · exact this
    · simp only; omega
theorem paN_end (h : I_fu M) : ∀ j, knM M + j ≤ 12 → paN M (knM M + j) = paN M (knM M)
  | 0, _ => rfl
  | j + 1, hj => by
    show (if (paN M (knM M + j)).1 < duN M (knM M + j) then paN M (knM M + j) else ((paN M (knM M + j)).1 - duN M (knM M + j), (paN M (knM M + j)).2 + duN M (knM M + j))) = _
    have e : duN M (knM M + j) = 0 := by
      unfold duN
      rw [if_pos (h.2.2.2 _ (by omega) (by omega))]
    rw [e, if_neg (by omega), paN_end h j (by omega)]
    simp
theorem duN_same {M M' : SM} (e : ∀ c i, ¬ (c = 278 ∧ i = 0) → M'.1 c i = M.1 c i) (k : Nat) : duN M' k = duN M k := by
  unfold duN scM
  rw [e 279 k (by omega), e 278 1 (by omega), e 182 k (by omega)]
theorem payWeek_L4_g (ht : I_tn M) (h : I_fu M) : ∀ n i, 12 - i < n → i ≤ 12 → qfu_payWeek_L4 n (nI (paN M i).2) (nI i) (wI M 278 0 (nI (paN M i).1)) = some (nI (paN M 12).2, wI M 278 0 (nI (paN M 12).1)) := by
  obtain ⟨a, b, c, d⟩ := id h
  intro n
  induction n with
  | zero => intro i hn; omega
  | succ n ih =>
    intro i hn hi
    unfold qfu_payWeek_L4
    by_cases hlt : i < 12
    · have hs := paN_sum M i
      have hd := duN_le ht h hlt
      have ht' : I_tn (wI M 278 0 (nI (paN M i).1)) := ht.fr (fun c i hs => by rw [wI_1, if_neg (by unfold sTn at hs; omega)])
      have e3 : ∀ c j, ¬ (c = 278 ∧ j = 0) → (wI M 278 0 (nI (paN M i).1)).1 c j = M.1 c j := fun c j hq => by rw [wI_1, if_neg hq]
      have hf' : I_fu (wI (wI M 278 0 (nI (paN M i).1)) 280 87 (nI (paN M i).1)) := by
        have ep : peM (wI (wI M 278 0 (nI (paN M i).1)) 280 87 (nI (paN M i).1)) = (paN M i).1 := by unfold peM; simp [wI_1]; exact nI_cl (by omega)
        have es : scM (wI (wI M 278 0 (nI (paN M i).1)) 280 87 (nI (paN M i).1)) = scM M := by unfold scM; simp [wI_1]
        have ek : knM (wI (wI M 278 0 (nI (paN M i).1)) 280 87 (nI (paN M i).1)) = knM M := by unfold knM; simp [wI_1]
        unfold I_fu
        rw [ep, es, ek]
        refine ⟨?_, ?_, fun k hk => ?_, fun k hk1 hk2 => ?_⟩
        · simp [wI_1]; omega
        · simpa [wI_1] using b
        · simpa [wI_1] using c k hk
        · simpa [wI_1] using d k hk1 hk2
      have hdu : qfu_dueTo (nI i) (wI M 278 0 (nI (paN M i).1)) = some (nI (duN M i), wI M 278 0 (nI (paN M i).1)) := by
        unfold qfu_dueTo
        rw [isStriker_g hlt, ob_s, e3 279 i (by omega)]
        have h1 := dueTo_g ht h hlt
        unfold qfu_dueTo at h1
        rw [isStriker_g hlt, ob_s] at h1
        by_cases h0 : M.1 279 i = 0
        · rw [if_pos h0, if_pos rfl] at h1 ⊢
          rw [← (Prod.mk.inj (Option.some.inj h1)).1]
        · have hk2 : i < knM M := by
            rcases Nat.lt_or_ge i (knM M) with q | q
            · exact q
            · exact absurd (h.2.2.2 i hlt q) h0
          rw [if_neg h0, if_neg (by decide)] at h1 ⊢
          rw [headsOf_g ht hk2, ob_s] at h1
          rw [headsOf_g ht' (by rw [show knM (wI M 278 0 (nI (paN M i).1)) = knM M from by unfold knM; rw [e3 179 2 (by omega)]]; exact hk2), ob_s, e3 278 1 (by omega), e3 182 i (by omega)]
          have := (Prod.mk.inj (Option.some.inj h1)).1
          rw [this]
      rw [if_pos (show nI i < (12 : Int32) from nI_lt (b := 12) hlt (by decide)), hdu, ob_s]
      have e5 : (wI M 278 0 (nI (paN M i).1)).1 278 0 = nI (paN M i).1 := by simp [wI_1]
      rw [e5]
      have step := ih (i + 1) (by omega) (by omega)
      rw [show paN M (i + 1) = if (paN M i).1 < duN M i then paN M i else ((paN M i).1 - duN M i, (paN M i).2 + duN M i) from rfl] at step
      by_cases hq : (paN M i).1 < duN M i
      · rw [if_pos hq] at step
        rw [if_pos ((nI_ltI (by omega) (by omega)).mpr hq), nI_1]
        exact step
      · rw [if_neg hq] at step
        have e6 : wI (wI M 278 0 (nI (paN M i).1)) 278 0 (nI ((paN M i).1 - duN M i)) = wI M 278 0 (nI ((paN M i).1 - duN M i)) := by
          refine Prod.ext ?_ rfl
          funext c j
          show (wI _ _ _ _).1 c j = (wI _ _ _ _).1 c j
          rw [wI_1, wI_1, wI_1]
          by_cases z : c = 278 ∧ j = 0
          · rw [if_pos z, if_pos z]
          · rw [if_neg z, if_neg z, if_neg z]
        rw [if_neg (by rw [nI_ltN (by omega) (by omega)]; exact hq), nI_add, nI_1, nI_subN (by omega), e6]
        exact step
    · obtain rfl : i = 12 := by omega
      rw [if_neg (by decide)]
theorem wI_same (M : SM) (c i : Nat) {v : Int32} (h : M.1 c i = v) : wI M c i v = M := by
  refine Prod.ext ?_ rfl
  funext c' i'
  show (wI _ _ _ _).1 c' i' = _
  rw [wI_1]
  by_cases z : c' = c ∧ i' = i
  · rw [if_pos z, z.1, z.2, h]
  · rw [if_neg z]
theorem wI_wI (M : SM) (c i : Nat) (v w : Int32) : wI (wI M c i v) c i w = wI M c i w := by
  refine Prod.ext ?_ rfl
  funext c' i'
  show (wI _ _ _ _).1 c' i' = (wI _ _ _ _).1 c' i'
  rw [wI_1, wI_1, wI_1]
  by_cases z : c' = c ∧ i' = i
  · rw [if_pos z, if_pos z]
  · rw [if_neg z, if_neg z, if_neg z]
theorem goes_L16_g (ht : I_tn M) (h : I_fu M) {M1 : SM} (e : ∀ c i, 280 ≤ c → M1.1 c i = M.1 c i) : ∀ n i, knM M - i < n → i ≤ knM M → qmd_goes_L16 n (nI (paN M i).2) (nI i) (wI M1 280 87 (nI (paN M i).1)) = some (nI (paN M (knM M)).2, wI (wI M1 280 87 (nI (paN M (knM M)).1)) 280 0 (nI (nwM M + 1))) := by
  obtain ⟨a, b, c, d⟩ := id h
  have ak := ht.kn
  intro n
  induction n with
  | zero => intro i hn; omega
  | succ n ih =>
    intro i hn hi
    unfold qmd_goes_L16
    simp only [jn_s]
    have e2 : ∀ c j, 280 ≤ c → ¬ (c = 280 ∧ j = 87) → (wI M1 280 87 (nI (paN M i).1)).1 c j = M.1 c j := fun c j h1 h2 => by rw [wI_1, if_neg h2, e c j h1]
    rw [e2 280 2 (by omega) (by omega), ak.2.2]
    by_cases hlt : i < knM M
    · have hs := paN_sum M i
      have hd := duN_le ht h (show i < 12 by omega)
      have e5 : (wI M1 280 87 (nI (paN M i).1)).1 280 87 = nI (paN M i).1 := by simp [wI_1]
      have step := ih (i + 1) (by omega) (by omega)
      rw [show paN M (i + 1) = if (paN M i).1 < duN M i then paN M i else ((paN M i).1 - duN M i, (paN M i).2 + duN M i) from rfl] at step
      rw [if_pos ((nI_ltI (by omega) (by omega)).mpr hlt), ckb (and_i (ib_n (by omega) (by omega)) rfl), nI_cl (by omega), e2 335 i (by omega) (by omega), (c i (by omega)).1, ckb (and_i (ib_n (by omega) (by omega)) rfl), e2 280 60 (by omega) (by omega), e2 282 i (by omega) (by omega), (ht.he i hlt).1, b.2.2]
      have key : (if (M.1 279 i) = 0 then (0 : Int32) else nI (scM M) * M.1 182 i) = nI (duN M i) := by
        unfold duN
        by_cases h0 : M.1 279 i = 0
        · rw [if_pos h0, if_pos h0]; rfl
        · obtain ⟨n, n1, n2, n3⟩ := (ht.he i hlt).2
          rw [if_neg h0, if_neg h0, n3, nI_mul, nI_cl (by omega)]
      have key2 : ∀ F : Int32 → Option (Int32 × SM), (if (M.1 279 i) = 0 then F 0 else F (nI (scM M) * M.1 182 i)) = F (nI (duN M i)) := fun F => by
        rw [← key]; split <;> rfl
      rw [key2 (fun t4 => if ((wI M1 280 87 (nI (paN M i).1)).1 280 87) < t4 then (qmd_goes_L16 n (nI (paN M i).2) (nI i + 1) (wI M1 280 87 (nI (paN M i).1))) else (qmd_goes_L16 n ((nI (paN M i).2) + t4) (nI i + 1) (wI (wI M1 280 87 (nI (paN M i).1)) 280 87 (((wI M1 280 87 (nI (paN M i).1)).1 280 87) - t4))))]
      simp only [e5, nI_1]
      by_cases hq : (paN M i).1 < duN M i
      · rw [if_pos hq] at step
        rw [if_pos ((nI_ltI (by omega) (by omega)).mpr hq)]
        exact step
      · rw [if_neg hq] at step
        rw [if_neg (by rw [nI_ltN (by omega) (by omega)]; exact hq), nI_add, nI_subN (by omega), wI_wI]
        exact step
    · obtain rfl : i = knM M := by omega
      rw [if_neg (nI_nlt (Nat.le_refl _) (by omega)), e2 280 0 (by omega) (by omega), ht.nw.2.2, nI_1]
def sGo (c i : Nat) : Prop := (c = 179 ∧ i = 0) ∨ (c = 280 ∧ i = 0) ∨ (c = 278 ∧ i = 0) ∨ (c = 280 ∧ i = 87)
theorem goes_p (ht : I_tn M) (h : I_fu M) : Pr M qfr_goes qmd_goes (fun M2 => I_tn M2 ∧ I_fu M2 ∧ Ou sGo M M2) := by
  obtain ⟨a, b, c, d⟩ := id h
  have ak := ht.kn
  have an := ht.nw
  by_cases h9 : nwM M < 519
  · have e12 : paN M 12 = paN M (knM M) := by
      have := paN_end h (12 - knM M) (by omega)
      rwa [show knM M + (12 - knM M) = 12 by omega] at this
    have hs := paN_sum M 12
    have c1 : qfr_goes M = some (nI (paN M 12).2, wI (wI M 278 0 (nI (paN M 12).1)) 179 0 (nI (nwM M + 1))) := by
      unfold qfr_goes qfu_payWeek
      have := payWeek_L4_g ht h FU 0 (by unfold FU; omega) (by omega)
      rw [show paN M 0 = (peM M, 0) from rfl, wI_same M 278 0 a.1, show nI 0 = (0 : Int32) from rfl] at this
      rw [an.1, if_pos (show nI (nwM M) < (519 : Int32) from nI_lt (b := 519) h9 (by decide)), this, ob_s, wI_1, if_neg (by omega), an.1, nI_1]
    generalize hM1 : wI (wI M 278 0 (nI (paN M 12).1)) 179 0 (nI (nwM M + 1)) = M1 at c1
    have e : ∀ c i, 280 ≤ c → M1.1 c i = M.1 c i := fun c i hc => by rw [← hM1, wI_1, if_neg (by omega), wI_1, if_neg (by omega)]
    have c2 : qmd_goes M1 = some (nI (paN M 12).2, wI (wI M1 280 87 (nI (paN M 12).1)) 280 0 (nI (nwM M + 1))) := by
      unfold qmd_goes
      have := goes_L16_g ht h e FU 0 (by unfold FU; omega) (by omega)
      rw [show paN M 0 = (peM M, 0) from rfl, wI_same M1 280 87 ((e _ _ (by omega)).trans a.2.2), show nI 0 = (0 : Int32) from rfl, ← e12] at this
      rw [e 280 0 (by omega), an.2.2, if_neg (show ¬ nI (nwM M) = (519 : Int32) from fun q => by have := nI_inj (b := 519) (by omega) (by omega) q; omega), this]
    refine Pr.mk c1 c2 ?_ (fun c i hc => by rw [← hM1, wI_1, if_neg (by omega), wI_1, if_neg (by omega)])
    generalize hM2 : wI (wI M1 280 87 (nI (paN M 12).1)) 280 0 (nI (nwM M + 1)) = M2
    have g : ∀ c i, M2.1 c i = if c = 280 ∧ i = 0 then nI (nwM M + 1) else if c = 280 ∧ i = 87 then nI (paN M 12).1 else if c = 179 ∧ i = 0 then nI (nwM M + 1) else if c = 278 ∧ i = 0 then nI (paN M 12).1 else M.1 c i := by
      intro c i; rw [← hM2, ← hM1]; simp only [wI_1]
    have g2 : M2.2 = M.2 := by rw [← hM2, ← hM1]; rfl
    have ou : Ou sGo M M2 := ⟨fun c i hq => by unfold sGo at hq; rw [g, if_neg (by omega), if_neg (by omega), if_neg (by omega), if_neg (by omega)], g2⟩
    have oth : ∀ c i, ¬ sGo c i → M2.1 c i = M.1 c i := ou.1
    have e0 : nwM M2 = nwM M + 1 := by unfold nwM; rw [g]; simp [nI_cl (show nwM M + 1 < 2147483648 by omega)]; rfl
    have e1 : msM M2 = msM M := by unfold msM; rw [oth _ _ (by unfold sGo; omega)]
    have e2 : knM M2 = knM M := by unfold knM; rw [oth _ _ (by unfold sGo; omega)]
    have e3 : frM M2 = frM M := by unfold frM; rw [oth _ _ (by unfold sGo; omega)]
    have e4 : peM M2 = (paN M 12).1 := by unfold peM; rw [g]; simp; exact nI_cl (by omega)
    have e5 : scM M2 = scM M := by unfold scM; rw [oth _ _ (by unfold sGo; omega)]
    refine ⟨?_, ?_, ou⟩
    · unfold I_tn okK
      rw [e0, e1, e2, e3]
      refine ⟨?_, ?_, ?_, ?_, fun m hm => ?_, fun m hm => ?_, fun k hk => ?_, fun f hf => ?_, fun f hf w hw => ?_⟩
      · rw [g, g]; simp; omega
      · rw [oth 179 1 (by unfold sGo; omega), oth 280 1 (by unfold sGo; omega)]; exact ht.ms
      · rw [oth 179 2 (by unfold sGo; omega), oth 280 2 (by unfold sGo; omega)]; exact ht.kn
      · rw [oth 179 3 (by unfold sGo; omega), oth 280 3 (by unfold sGo; omega)]; exact ht.fs
      · rw [oth 281 m (by unfold sGo; omega), oth 180 m (by unfold sGo; omega)]; exact ht.ho m hm
      · rw [oth 286 m (by unfold sGo; omega), oth 181 m (by unfold sGo; omega)]; exact ht.ov m hm
      · rw [oth 282 k (by unfold sGo; omega), oth 182 k (by unfold sGo; omega)]; exact ht.he k hk
      · rw [oth 283 f (by unfold sGo; omega), oth 183 f (by unfold sGo; omega), oth 284 f (by unfold sGo; omega), oth 184 f (by unfold sGo; omega), oth 285 f (by unfold sGo; omega), oth 185 f (by unfold sGo; omega)]; exact ht.fa f hf
      · have := ht.fs
        rw [oth 288 _ (by unfold sGo; omega), oth (187 + f) w (by unfold sGo; omega)]; exact ht.hd f hf w hw
    · unfold I_fu
      rw [e4, e5, e2]
      refine ⟨?_, ?_, fun k hk => ?_, fun k hk1 hk2 => ?_⟩
      · rw [g, g]; simp; omega
      · rw [oth 278 1 (by unfold sGo; omega), oth 280 60 (by unfold sGo; omega)]; exact b
      · rw [oth 335 k (by unfold sGo; omega), oth 279 k (by unfold sGo; omega)]; exact c k hk
      · rw [oth 279 k (by unfold sGo; omega)]; exact d k hk1 hk2
  · have e9 : nwM M = 519 := by omega
    refine Pr.mk (r := -1) (M1 := M) (M2 := M) ?_ ?_ ⟨ht, h, Ou.rf _ _⟩
    · unfold qfr_goes
      rw [an.1, e9, if_neg (by decide)]
    · unfold qmd_goes
      rw [an.2.2, e9, if_pos (by decide)]
end
/-! debts -/
def I_db (M : SM) : Prop := M.1 280 83 = M.1 273 0 ∧ (M.1 273 0 = 0 ∨ M.1 273 0 = 1) ∧ ∀ a, a < 18 → M.2 332 a = M.2 274 a
def sDb (c i : Nat) : Prop := (c = 273 ∧ i = 0) ∨ (c = 280 ∧ i = 83)
def sDbL (c : Nat) : Prop := c = 274 ∨ c = 332
theorem I_db.fr {M M' : SM} (h : I_db M) (e : Eq1 sDb M M') (e2 : ∀ c, sDbL c → M'.2 c = M.2 c) : I_db M' := by
  unfold I_db
  rw [e 280 83 (by unfold sDb; omega), e 273 0 (by unfold sDb; omega), e2 332 (by unfold sDbL; omega), e2 274 (by unfold sDbL; omega)]
  exact h
/-- ints and longs outside regions stay -/
def Ov (s : Nat → Nat → Prop) (t : Nat → Prop) (M M' : SM) : Prop := (∀ c i, ¬ s c i → M'.1 c i = M.1 c i) ∧ ∀ c, ¬ t c → M'.2 c = M.2 c
theorem Ov.rf (s : Nat → Nat → Prop) (t : Nat → Prop) (M : SM) : Ov s t M M := ⟨fun _ _ _ => rfl, fun _ _ => rfl⟩
theorem Ov.wI {s : Nat → Nat → Prop} {t : Nat → Prop} {M M' : SM} {c i : Nat} {v : Int32} (h : Ov s t M M') (hs : s c i) : Ov s t M (wI M' c i v) := ⟨fun c' i' q => by
  rw [wI_1, if_neg (fun z => q (by rw [z.1, z.2]; exact hs))]
  exact h.1 c' i' q, h.2⟩
theorem Ov.wL {s : Nat → Nat → Prop} {t : Nat → Prop} {M M' : SM} {c i : Nat} {v : Int64} (h : Ov s t M M') (hs : t c) : Ov s t M (wL M' c i v) := ⟨h.1, fun c' q => by
  rw [← h.2 c' q]
  funext i'
  rw [wL_2, if_neg (fun z => q (by rw [z.1]; exact hs))]⟩
theorem Ov.tr {s : Nat → Nat → Prop} {t : Nat → Prop} {M M' M'' : SM} (h : Ov s t M M') (h2 : Ov s t M' M'') : Ov s t M M'' := ⟨fun c i q => (h2.1 c i q).trans (h.1 c i q), fun c q => (h2.2 c q).trans (h.2 c q)⟩
theorem Ov.mono {s s' : Nat → Nat → Prop} {t t' : Nat → Prop} {M M' : SM} (h : Ov s t M M') (hs : ∀ c i, s c i → s' c i) (ht : ∀ c, t c → t' c) : Ov s' t' M M' := ⟨fun c i q => h.1 c i (fun z => q (hs c i z)), fun c q => h.2 c (fun z => q (ht c z))⟩
theorem Ov.eq1 {s u : Nat → Nat → Prop} {t : Nat → Prop} {M M' : SM} (h : Ov s t M M') (hs : ∀ c i, u c i → ¬ s c i) : Eq1 u M M' := fun c i q => h.1 c i (hs c i q)
theorem Ou.ov {s : Nat → Nat → Prop} {M M' : SM} (h : Ou s M M') (t : Nat → Prop) : Ov s t M M' := ⟨h.1, fun c _ => by rw [h.2]⟩
section
variable {M : SM}
theorem someone (ht : I_tn M) (x : Int32) : (∃ j, j < 18 ∧ x = nI j ∧ qfr_isSomeone x M = some (1, M) ∧ ∀ M1 : SM, M1.1 280 1 = M.1 280 1 → M1.1 280 2 = M.1 280 2 → qmd_isOne x M1 = some (1, M1)) ∨ (qfr_isSomeone x M = some (0, M) ∧ ∀ M1 : SM, M1.1 280 1 = M.1 280 1 → M1.1 280 2 = M.1 280 2 → qmd_isOne x M1 = some (0, M1)) := by
  have am := ht.ms
  have ak := ht.kn
  unfold qfr_isSomeone qmd_isOne
  by_cases h0 : x < 0
  · right
    have h6 : x < 6 := by
      rw [Int32.lt_iff_toInt_lt] at h0 ⊢
      rw [show (0 : Int32).toInt = 0 from rfl] at h0
      rw [show (6 : Int32).toInt = 6 from rfl]
      omega
    refine ⟨if_pos h0, fun M1 e1 e2 => ?_⟩
    rw [if_pos h6, md_isMaster_rb (e1.trans am.2.2) (Or.inl h0), ob_s]
    rfl
  · obtain ⟨j, hj, rfl⟩ := nI_of h0
    rw [if_neg h0]
    by_cases h6 : j < 6
    · have h6' : nI j < (6 : Int32) := nI_lt (b := 6) h6 (by decide)
      rw [if_pos h6']
      by_cases hm : j < msM M
      · left
        refine ⟨j, by omega, rfl, by rw [hasMaster_g ht hm, ob_s]; rfl, fun M1 e1 e2 => ?_⟩
        rw [if_pos h6', md_isMaster_rg (e1.trans am.2.2) (by omega) hm, ob_s]; rfl
      · right
        have hb : nI j < 0 ∨ ¬ nI j < nI (msM M) := Or.inr (by rw [nI_ltN (by omega) (by omega)]; exact hm)
        refine ⟨by rw [hasMaster_b ht hb, ob_s]; rfl, fun M1 e1 e2 => ?_⟩
        rw [if_pos h6', md_isMaster_rb (e1.trans am.2.2) hb, ob_s]; rfl
    · have h6' : ¬ nI j < (6 : Int32) := nI_nlt (a := j) (b := 6) (by omega) (by omega)
      have hsub : nI j - (6 : Int32) = nI (j - 6) := nI_subN (b := 6) (by omega)
      rw [if_neg h6', hsub]
      by_cases hk : j - 6 < knM M
      · left
        refine ⟨j, by omega, rfl, by rw [hasKnitter_g ht hk, ob_s]; rfl, fun M1 e1 e2 => ?_⟩
        rw [if_neg h6', md_isKnitter_rg (e2.trans ak.2.2) (by omega) hk, ob_s]; rfl
      · right
        have hb : nI (j - 6) < 0 ∨ ¬ nI (j - 6) < nI (knM M) := Or.inr (by rw [nI_ltN (by omega) (by omega)]; exact hk)
        refine ⟨by rw [hasKnitter_b ht hb, ob_s]; rfl, fun M1 e1 e2 => ?_⟩
        rw [if_neg h6', md_isKnitter_rb (e2.trans ak.2.2) hb, ob_s]; rfl
theorem net_p (ht : I_tn M) (h : I_db M) (x : Int32) : Pr M (qfr_net x) (qmd_net x) (fun M2 => M2 = M) := by
  rcases someone ht x with ⟨j, hj, rfl, e1, e2⟩ | ⟨e1, e2⟩
  · refine Pr.mk (r := M.2 274 j) (M1 := M) (M2 := M) ?_ ?_ rfl
    · unfold qfr_net qdb_balanceOf qdb_isOne
      rw [e1, ob_s, if_neg (by decide), if_neg (nI_lt0 (by omega)), if_pos (show nI j < (18 : Int32) from nI_lt (b := 18) hj (by decide)), ob_s, if_neg (by decide), ckb (and_i (ib_n (by omega) (by omega)) rfl), nI_cl (by omega), ob_s]
    · unfold qmd_net
      rw [e2 M rfl rfl, ob_s, if_neg (by decide), ckb (and_i (ib_n (by omega) (by omega)) rfl), nI_cl (by omega), h.2.2 j hj]
  · refine Pr.mk (r := 0) (M1 := M) (M2 := M) ?_ ?_ rfl
    · unfold qfr_net; rw [e1, ob_s, if_pos rfl]
    · unfold qmd_net; rw [e2 M rfl rfl, ob_s, if_pos rfl]
theorem isOne_g {j : Nat} (hj : j < 18) : qdb_isOne (nI j) M = some (1, M) :=
  (if_neg (nI_lt0 (by omega))).trans (if_pos (show nI j < (18 : Int32) from nI_lt (b := 18) hj (by decide)))
theorem owes_p (ht : I_tn M) (h : I_db M) (x y z : Int32) : Pr M (qfr_owes x y z) (qmd_owes x y z) (fun M2 => I_db M2 ∧ Ov sDb sDbL M M2) := by
  by_cases hxy : x = y
  · have c1 : qfr_owes x y z M = some (0, M) := if_pos hxy
    refine Pr.mk c1 (M2 := M) ?_ ⟨h, Ov.rf _ _ _⟩
    unfold qmd_owes
    rcases someone ht x with ⟨j, hj, -, e1, e2⟩ | ⟨e1, e2⟩
    · rw [e2 M rfl rfl, ob_s, if_neg (by decide)]
      rw [← hxy, e2 M rfl rfl, ob_s, if_neg (by decide), if_pos rfl]
    · rw [e2 M rfl rfl, ob_s, if_pos rfl]
  · rcases someone ht x with ⟨j, hj, rfl, e1, e2⟩ | ⟨e1, e2⟩
    · rcases someone ht y with ⟨j2, hj2, rfl, f1, f2⟩ | ⟨f1, f2⟩
      · rcases rg z 1 1000000 1 1000000 rfl rfl with ⟨n, hn1, hn2, rfl, g1, g2⟩ | hb
        · have hne : j ≠ j2 := fun q => hxy (by rw [q])
          refine Pr.mk (r := 1) (M1 := wI (wL (wL M 274 j (M.2 274 j - Int32.toInt64 (nI n))) 274 j2 (M.2 274 j2 + Int32.toInt64 (nI n))) 273 0 1)
            (M2 := wI (wL (wL (wI (wL (wL M 274 j (M.2 274 j - Int32.toInt64 (nI n))) 274 j2 (M.2 274 j2 + Int32.toInt64 (nI n))) 273 0 1) 332 j (M.2 274 j - Int32.toInt64 (nI n))) 332 j2 (M.2 274 j2 + Int32.toInt64 (nI n))) 280 83 1) ?_ ?_ ⟨?_, ?_⟩
          · unfold qfr_owes qdb_add
            rw [if_neg hxy, e1, ob_s, if_neg (by decide), f1, ob_s, if_neg (by decide), within_t g1 g2, ob_s, if_neg (by decide), isOne_g hj, ob_s, if_neg (by decide), isOne_g hj2, ob_s, if_neg (by decide), ckb (and_i (ib_n (by omega) (by omega)) (and_i (ib_n (by omega) (by omega)) (and_i (ib_n (by omega) (by omega)) (and_i (ib_n (by omega) (by omega)) rfl)))), nI_cl (by omega), nI_cl (by omega), ob_s, wL_2, if_neg (fun q => hne q.2.symm)]
          · unfold qmd_owes
            rw [e2 (wI (wL (wL M 274 j (M.2 274 j - Int32.toInt64 (nI n))) 274 j2 (M.2 274 j2 + Int32.toInt64 (nI n))) 273 0 1) (by rw [wI_1, if_neg (by omega)]; rfl) (by rw [wI_1, if_neg (by omega)]; rfl), ob_s, if_neg (by decide), f2 (wI (wL (wL M 274 j (M.2 274 j - Int32.toInt64 (nI n))) 274 j2 (M.2 274 j2 + Int32.toInt64 (nI n))) 273 0 1) (by rw [wI_1, if_neg (by omega)]; rfl) (by rw [wI_1, if_neg (by omega)]; rfl), ob_s, if_neg (by decide), if_neg hxy, md_in_t g1 g2, ob_s, if_neg (by decide), ckb (and_i (ib_n (by omega) (by omega)) (and_i (ib_n (by omega) (by omega)) (and_i (ib_n (by omega) (by omega)) (and_i (ib_n (by omega) (by omega)) rfl)))), nI_cl (by omega), nI_cl (by omega)]
            have q1 : ∀ i, (wI (wL (wL M 274 j (M.2 274 j - Int32.toInt64 (nI n))) 274 j2 (M.2 274 j2 + Int32.toInt64 (nI n))) 273 0 1).2 332 i = M.2 332 i := fun i => by
              rw [wI_2, wL_2, if_neg (by omega), wL_2, if_neg (by omega)]
            rw [q1, wL_2, if_neg (fun q => hne q.2.symm), q1, h.2.2 j hj, h.2.2 j2 hj2]
          · refine ⟨?_, Or.inr ?_, fun a ha => ?_⟩
            · simp [wI_1, wL_1]
            · simp [wI_1, wL_1]
            · have q := h.2.2 a ha
              simp only [wI_2, wL_2]
              by_cases z1 : a = j
              · subst z1; simp [hne]
              · by_cases z2 : a = j2
                · subst z2; simp
                · simp [z1, z2]; exact q
          · refine (((((Ov.rf _ _ _).wL ?_).wL ?_).wI ?_).wL ?_).wL ?_ |>.wI ?_
            all_goals first | (unfold sDb; omega) | (unfold sDbL; omega)
        · refine Pr.mk (r := 0) (M1 := M) (M2 := M) ?_ ?_ ⟨h, Ov.rf _ _ _⟩
          · unfold qfr_owes; rw [if_neg hxy, e1, ob_s, if_neg (by decide), f1, ob_s, if_neg (by decide), within_f hb, ob_s, if_pos rfl]
          · unfold qmd_owes; rw [e2 M rfl rfl, ob_s, if_neg (by decide), f2 M rfl rfl, ob_s, if_neg (by decide), if_neg hxy, md_in_f hb, ob_s, if_pos rfl]
      · refine Pr.mk (r := 0) (M1 := M) (M2 := M) ?_ ?_ ⟨h, Ov.rf _ _ _⟩
        · unfold qfr_owes; rw [if_neg hxy, e1, ob_s, if_neg (by decide), f1, ob_s, if_pos rfl]
        · unfold qmd_owes; rw [e2 M rfl rfl, ob_s, if_neg (by decide), f2 M rfl rfl, ob_s, if_pos rfl]
    · refine Pr.mk (r := 0) (M1 := M) (M2 := M) ?_ ?_ ⟨h, Ov.rf _ _ _⟩
      · unfold qfr_owes; rw [if_neg hxy, e1, ob_s, if_pos rfl]
      · unfold qmd_owes; rw [e2 M rfl rfl, ob_s, if_pos rfl]
theorem payAll_L11_g : ∀ n i (M : SM), 18 - i < n → i ≤ 18 → ∃ M', qdb_payAll_L11 n (nI i) M = some (1, M') ∧ M'.1 = (wI M 273 0 0).1 ∧ ∀ c j, M'.2 c j = if c = 274 ∧ i ≤ j ∧ j < 18 then 0 else M.2 c j := by
  intro n
  induction n with
  | zero => intro i M hn; omega
  | succ n ih =>
    intro i M hn hi
    unfold qdb_payAll_L11
    by_cases hlt : i < 18
    · rw [if_pos (show nI i < (18 : Int32) from nI_lt (b := 18) hlt (by decide)), ckb (and_i (ib_n (by omega) (by omega)) rfl), nI_1, nI_cl (by omega)]
      obtain ⟨M', e1, e2, e3⟩ := ih (i + 1) (wL M 274 i 0) (by omega) (by omega)
      refine ⟨M', e1, e2, fun c j => ?_⟩
      rw [e3 c j, wL_2]
      by_cases h1 : c = 274 ∧ i + 1 ≤ j ∧ j < 18
      · rw [if_pos h1, if_pos ⟨h1.1, by omega, h1.2.2⟩]
      · rw [if_neg h1]
        by_cases h2 : c = 274 ∧ j = i
        · rw [if_pos h2, if_pos ⟨h2.1, by omega, by omega⟩]
        · rw [if_neg h2, if_neg (by omega)]
    · obtain rfl : i = 18 := by omega
      rw [if_neg (by decide)]
      exact ⟨_, rfl, rfl, fun c j => by rw [if_neg (by omega), wI_2]⟩
theorem clear_L16_g : ∀ n i (M : SM), 18 - i < n → i ≤ 18 → ∃ M', qmd_clear_L16 n (nI i) M = some (1, M') ∧ M'.1 = M.1 ∧ ∀ c j, M'.2 c j = if c = 332 ∧ i ≤ j ∧ j < 18 then 0 else M.2 c j := by
  intro n
  induction n with
  | zero => intro i M hn; omega
  | succ n ih =>
    intro i M hn hi
    unfold qmd_clear_L16
    by_cases hlt : i < 18
    · rw [if_pos (show nI i < (18 : Int32) from nI_lt (b := 18) hlt (by decide)), ckb (and_i (ib_n (by omega) (by omega)) rfl), nI_1, nI_cl (by omega)]
      obtain ⟨M', e1, e2, e3⟩ := ih (i + 1) (wL M 332 i 0) (by omega) (by omega)
      refine ⟨M', e1, e2, fun c j => ?_⟩
      rw [e3 c j, wL_2]
      by_cases h1 : c = 332 ∧ i + 1 ≤ j ∧ j < 18
      · rw [if_pos h1, if_pos ⟨h1.1, by omega, h1.2.2⟩]
      · rw [if_neg h1]
        by_cases h2 : c = 332 ∧ j = i
        · rw [if_pos h2, if_pos ⟨h2.1, by omega, by omega⟩]
        · rw [if_neg h2, if_neg (by omega)]
    · obtain rfl : i = 18 := by omega
      rw [if_neg (by decide)]
      exact ⟨_, rfl, rfl, fun c j => by rw [if_neg (by omega)]⟩
theorem clear_p (h : I_db M) : Pr M qfr_clear qmd_clear (fun M2 => I_db M2 ∧ Ov sDb sDbL M M2) := by
  by_cases h0 : M.1 273 0 = 0
  · refine Pr.mk (r := 0) (M1 := M) (M2 := M) ?_ ?_ ⟨h, Ov.rf _ _ _⟩
    · unfold qfr_clear qdb_payAll
      rw [if_pos h0, ob_s]; rfl
    · unfold qmd_clear
      rw [if_pos (h.1.trans h0)]
  · obtain ⟨M1, e1, e2, e3⟩ := payAll_L11_g FU 0 M (by unfold FU; omega) (by omega)
    obtain ⟨M2, f1, f2, f3⟩ := clear_L16_g FU 0 (wI M1 280 83 0) (by unfold FU; omega) (by omega)
    have q1 : ∀ c i, M1.1 c i = if c = 273 ∧ i = 0 then 0 else M.1 c i := fun c i => by rw [e2, wI_1]
    have q2 : ∀ c i, M2.1 c i = if c = 280 ∧ i = 83 then 0 else if c = 273 ∧ i = 0 then 0 else M.1 c i := fun c i => by rw [f2, wI_1, q1]
    have q3 : ∀ c j, M2.2 c j = if c = 332 ∧ 0 ≤ j ∧ j < 18 then 0 else if c = 274 ∧ 0 ≤ j ∧ j < 18 then 0 else M.2 c j := fun c j => by rw [f3, wI_2, e3]
    refine Pr.mk (r := 1) (M1 := M1) (M2 := M2) ?_ ?_ ⟨⟨?_, Or.inl ?_, fun a ha => ?_⟩, fun c i hs => ?_, fun c hs => ?_⟩ (fun c i hc => by rw [q1, if_neg (by omega)])
    · unfold qfr_clear qdb_payAll
      rw [if_neg h0]
      rw [show nI 0 = (0 : Int32) from rfl] at e1
      rw [e1, ob_s]; rfl
    · unfold qmd_clear
      rw [if_neg (by rw [q1, if_neg (by omega)]; exact fun q => h0 (h.1.symm.trans q))]
      exact f1
    · rw [q2, q2]; simp
    · rw [q2]; simp
    · rw [q3, q3, if_pos (by omega), if_neg (by omega), if_pos (by omega)]
    · unfold sDb at hs; rw [q2, if_neg (by omega), if_neg (by omega)]
    · unfold sDbL at hs; funext j; rw [q3, if_neg (by omega), if_neg (by omega)]
end
