/-! yarn amiss; a bagman's book -/
theorem nI_sub_lt (a b : Nat) (ha : a < 2147483648) (hb : b < 2147483648) : (nI a - nI b < 0) = (a < b) := by
  apply propext
  by_cases h : a < b
  · refine ⟨fun _ => h, fun _ => ?_⟩
    rw [Int32.lt_iff_toInt_lt, Int32.toInt_sub, nI_toInt ha, nI_toInt hb]
    rw [show (0 : Int32).toInt = 0 from rfl]
    simp only [Int.bmod]
    split <;> omega
  · refine ⟨fun q => absurd q ?_, fun q => absurd q h⟩
    rw [nI_subN (by omega)]
    exact nI_lt0 (by omega)
theorem amiss_p {M : SM} (h : I_en M) (hm : I_ms M) (x : Int32) : Pr M (qfr_amiss x) (qmd_amiss x) (fun M2 => M2 = M) := by
  have a := h.1
  obtain ⟨-, ⟨w, w1, w2, w3⟩⟩ := hm
  rcases ix x (enM M) (by omega) with ⟨e, he, rfl⟩ | hb
  · obtain ⟨-, -, -, -, -, ⟨y, y1, y2⟩, ⟨z, z1, z2⟩⟩ := h.2.2.1 e he
    have c1 : qfr_amiss (nI e) M = some (if y < z ∨ (nI y * nI w + 99) / 100 < nI y - nI z then 1 else 0, M) := by
      unfold qfr_amiss
      rw [en_has_g a.1 a.2.1 he, ob_s, if_neg (by decide), show (5 : Int32) = nI 5 from rfl, show (6 : Int32) = nI 6 from rfl, en_at_g a.1 a.2.1 he (by omega), ob_s, en_at_g a.1 a.2.1 he (by omega), ob_s, ltt_s, show M.1 (212 + 5) e = nI y from y2, show M.1 (212 + 6) e = nI z from z2, w2]
      by_cases q : y < z
      · rw [if_pos ((nI_ltI (by omega) (by omega)).mpr q), if_pos (Or.inl q)]
      · rw [if_neg (by rw [nI_ltN (by omega) (by omega)]; exact q)]
        by_cases q2 : (nI y * nI w + 99) / 100 < nI y - nI z
        · rw [if_pos q2, if_pos (Or.inr q2)]
        · rw [if_neg q2, if_neg (fun v => v.elim q q2)]
    refine Pr.mk c1 (M2 := M) ?_ rfl
    unfold qmd_amiss
    rw [if_neg (nI_lt0 (by omega)), a.2.2, if_pos ((nI_ltI (by omega) (by omega)).mpr he), ck_ib (by omega) (by omega), ck_ib (by omega) (by omega), ck_t, ltt_s, ck_ib (by omega) (by omega), ck_t, nI_cl (by omega), show M.1 315 e = M.1 217 e from h.2.1 5 (by omega) e he, show M.1 316 e = M.1 218 e from h.2.1 6 (by omega) e he, y2, z2, w3, Int32.mul_comm (nI w) (nI y)]
    by_cases q : y < z
    · rw [if_pos (show nI y - nI z < 0 by rw [nI_sub_lt y z (by omega) (by omega)]; exact q), if_pos (Or.inl q)]
    · rw [if_neg (show ¬ nI y - nI z < 0 by rw [nI_sub_lt y z (by omega) (by omega)]; exact q)]
      by_cases q2 : (nI y * nI w + 99) / 100 < nI y - nI z
      · rw [if_pos q2, if_pos (Or.inr q2)]
      · rw [if_neg q2, if_neg (fun v => v.elim q q2)]
  · refine Pr.mk (r := -1) (M1 := M) (M2 := M) ?_ ?_ rfl
    · unfold qfr_amiss; rw [en_has_b a.1 hb, ob_s, if_pos rfl]
    · unfold qmd_amiss
      by_cases h0 : x < 0
      · rw [if_pos h0]
      · rw [if_neg h0, a.2.2, if_neg (hb.resolve_left h0)]
def bkM (M : SM) : Nat := Int32.toNatClampNeg (M.1 238 0)
/-- the latest that was told for a week -/
def tdL (M : SM) (w : Nat) : Nat → Int32
  | 0 => -1
  | n + 1 => if M.1 321 n = nI w then nI n else tdL M w n
/-- what was told of a shape -/
def sdN (M : SM) (m : Int32) (w s : Nat) : Nat → Int32
  | 0 => 0
  | n + 1 => if M.1 239 n = m ∧ M.1 321 n = nI w ∧ M.1 240 n = nI s then M.1 241 n else sdN M m w s n
def I_bk (M : SM) : Prop :=
  (M.1 238 0 = nI (bkM M) ∧ bkM M ≤ 200 ∧ M.1 280 61 = nI (bkM M)) ∧
  (∀ i, i < bkM M → M.1 320 i = M.1 239 i ∧ M.1 322 i = M.1 240 i ∧ M.1 323 i = M.1 241 i ∧ (∃ w, w < 520 ∧ M.1 321 i = nI w) ∧ ∃ s, s ≤ 9 ∧ M.1 240 i = nI s) ∧
  (∀ w, w < 520 → M.1 243 w = tdL M w (bkM M)) ∧
  (∀ i, i < bkM M → ∀ w, w < 520 → M.1 321 i = nI w → M.1 242 i = tdL M w i)
def sBk (c i : Nat) : Prop := (c = 238 ∧ i = 0) ∨ (239 ≤ c ∧ c ≤ 243) ∨ (c = 280 ∧ i = 61) ∨ (320 ≤ c ∧ c ≤ 323)
theorem tdL_cong {M M' : SM} (w : Nat) : ∀ n, (∀ e, e < n → M'.1 321 e = M.1 321 e) → tdL M' w n = tdL M w n
  | 0, _ => rfl
  | n + 1, h => by unfold tdL; rw [h n (by omega), tdL_cong w n (fun e he => h e (by omega))]
theorem I_bk.fr {M M' : SM} (h : I_bk M) (e : Eq1 sBk M M') : I_bk M' := by
  have e0 : bkM M' = bkM M := by unfold bkM; rw [e 238 0 (by unfold sBk; omega)]
  obtain ⟨h1, h2, h3, h4⟩ := h
  have r : ∀ c i, (239 ≤ c ∧ c ≤ 243 ∨ 320 ≤ c ∧ c ≤ 323) → M'.1 c i = M.1 c i := fun c i a => e c i (by unfold sBk; omega)
  have l : ∀ w n, tdL M' w n = tdL M w n := fun w n => tdL_cong w n (fun e _ => r _ _ (by omega))
  unfold I_bk
  rw [e0]
  refine ⟨?_, fun i hi => ?_, fun w hw => ?_, fun i hi w hw q => ?_⟩
  · rw [e 238 0 (by unfold sBk; omega), e 280 61 (by unfold sBk; omega)]; exact h1
  · rw [r _ _ (by omega), r _ _ (by omega), r _ _ (by omega), r _ _ (by omega), r _ _ (by omega), r _ _ (by omega), r _ _ (by omega)]; exact h2 i hi
  · rw [r _ _ (by omega), l]; exact h3 w hw
  · rw [r _ _ (by omega)] at q
    rw [r _ _ (by omega), l]; exact h4 i hi w hw q
theorem tk (M : SM) (m : Int32) (w s : Nat) : ∀ n, (tdL M w n = -1 ∧ sdN M m w s n = 0) ∨ ∃ e, e < n ∧ tdL M w n = nI e ∧ M.1 321 e = nI w ∧ sdN M m w s n = if M.1 239 e = m ∧ M.1 240 e = nI s then M.1 241 e else sdN M m w s e
  | 0 => Or.inl ⟨rfl, rfl⟩
  | n + 1 => by
    have e1 : tdL M w (n + 1) = if M.1 321 n = nI w then nI n else tdL M w n := rfl
    have e2 : sdN M m w s (n + 1) = if M.1 239 n = m ∧ M.1 321 n = nI w ∧ M.1 240 n = nI s then M.1 241 n else sdN M m w s n := rfl
    rw [e1, e2]
    by_cases q : M.1 321 n = nI w
    · right
      refine ⟨n, by omega, by rw [if_pos q], q, ?_⟩
      by_cases z : M.1 239 n = m ∧ M.1 240 n = nI s
      · rw [if_pos ⟨z.1, q, z.2⟩, if_pos z]
      · rw [if_neg (fun y => z ⟨y.1, y.2.2⟩), if_neg z]
    · rw [if_neg q, if_neg (fun y => q y.2.1)]
      rcases tk M m w s n with h | ⟨e, he, h⟩
      · exact Or.inl h
      · exact Or.inr ⟨e, by omega, h⟩
section
variable {M : SM}
theorem bk_has_g {s e : Nat} (h : M.1 238 0 = nI s) (hs : s ≤ 200) (he : e < s) : qbk_has (nI e) M = some (1, M) := by
  unfold qbk_has
  rw [if_neg (nI_lt0 (by omega)), h, if_pos ((nI_ltI (by omega) (by omega)).mpr he), if_pos (nl_200 (by omega))]
theorem bk_has_b {s : Nat} {x : Int32} (h : M.1 238 0 = nI s) (hx : x < 0 ∨ ¬ x < nI s) : qbk_has x M = some (0, M) := by
  unfold qbk_has
  by_cases h0 : x < 0
  · rw [if_pos h0]
  · rw [if_neg h0, h, if_neg (hx.resolve_left h0)]
theorem bk_L22_g (h : I_bk M) (m : Int32) {w s : Nat} (hw : w < 520) : ∀ fu k i, k < fu → i + k ≤ 200 → k ≤ bkM M → qbk_dozens_L22 fu m (nI s) (tdL M w k) (nI i) M = some (sdN M m w s k, M) := by
  obtain ⟨h1, h2, h3, h4⟩ := h
  intro fu
  induction fu with
  | zero => intro k i hk; omega
  | succ fu ih =>
    intro k i hk hi hn
    unfold qbk_dozens_L22
    rcases tk M m w s k with ⟨q1, q2⟩ | ⟨e, he, q1, q2, q3⟩
    · rw [q1, q2, bk_has_b h1.1 (Or.inl (by decide)), ob_s, if_pos rfl]
      split <;> rfl
    · rw [q1, q3, if_pos (nl_200 (by omega)), bk_has_g h1.1 h1.2.1 (by omega), ob_s, if_neg (by decide), nI_cl (by omega), h4 e (by omega) w hw q2, nI_1, ih e (i + 1) (by omega) (by omega) (by omega)]
      simp only [ck_ib (show e < 200 by omega) (by decide), ck_t]
      by_cases z1 : M.1 239 e = m
      · rw [if_pos z1]
        by_cases z2 : M.1 240 e = nI s
        · rw [if_pos z2, if_pos ⟨z1, z2⟩]
        · rw [if_neg z2, if_neg (fun y => z2 y.2)]
      · rw [if_neg z1, if_neg (fun y => z1 y.1)]
theorem bk_dozens_g (h : I_bk M) (m : Int32) {w s : Nat} (hw : w < 520) : qbk_dozens m (nI w) (nI s) M = some (sdN M m w s (bkM M), M) := by
  have h1 := h.1
  unfold qbk_dozens
  simp only [jn_ap]
  rw [isWeek_g hw, ob_s, if_neg (by decide), ck_ib (by omega) (by omega), ck_t, nI_cl (by omega), h.2.2.1 w hw]
  exact bk_L22_g h m hw FU (bkM M) 0 (by unfold FU; omega) (by omega) (Nat.le_refl _)
theorem tells_p (ht : I_tn M) (h : I_bk M) (x1 x2 x3 x4 : Int32) : Pr M (qfr_tells x1 x2 x3 x4) (qmd_tells x1 x2 x3 x4) (fun M2 => I_bk M2 ∧ Ou sBk M M2) := by
  have am := ht.ms
  have an := ht.nw
  have a := h.1
  have no : qfr_tells x1 x2 x3 x4 M = some (0, M) → qmd_tells x1 x2 x3 x4 M = some (0, M) → Pr M (qfr_tells x1 x2 x3 x4) (qmd_tells x1 x2 x3 x4) (fun M2 => I_bk M2 ∧ Ou sBk M M2) := fun e1 e2 => Pr.mk e1 e2 ⟨h, Ou.rf _ _⟩
  rcases ix x1 (msM M) (by omega) with ⟨m, hm, rfl⟩ | hb
  rotate_left
  · exact no (by unfold qfr_tells; rw [isBagman_b ht hb, ob_s, if_pos rfl]) (by unfold qmd_tells; rw [md_isMaster_b ht hb, ob_s, if_pos rfl])
  have ho := ht.ho m hm
  by_cases hh : M.1 180 m = -1
  · exact no (by unfold qfr_tells; rw [isBagman_g ht hm, if_pos hh, ob_s, if_pos rfl]) (by unfold qmd_tells; rw [md_isMaster_g ht hm, ob_s, if_neg (by decide), ck_ib (by omega) (by omega), ck_t, nI_cl (by omega), ho, if_pos hh])
  have pf : ∀ k : Option (Int32 × SM), True := fun _ => trivial
  rcases rg x2 0 (nI (nwM M)) 0 (nwM M) rfl rfl (by decide) (by omega) with ⟨w, hw1, hw2, rfl, a1, a2⟩ | hb
  rotate_left
  · exact no (by unfold qfr_tells; rw [isBagman_g ht hm, if_neg hh, ob_s, if_neg (by decide), an.1, within_f hb, ob_s, if_pos rfl]) (by unfold qmd_tells; rw [md_isMaster_g ht hm, ob_s, if_neg (by decide), ck_ib (by omega) (by omega), ck_t, nI_cl (by omega), ho, if_neg hh, an.2.2, md_in_f hb, ob_s, if_pos rfl])
  rcases rg x3 0 9 0 9 rfl rfl with ⟨s, hs1, hs2, rfl, b1, b2⟩ | hb
  rotate_left
  · exact no (by unfold qfr_tells; rw [isBagman_g ht hm, if_neg hh, ob_s, if_neg (by decide), an.1, within_t a1 a2, ob_s, if_neg (by decide), within_f hb, ob_s, if_pos rfl]) (by unfold qmd_tells; rw [md_isMaster_g ht hm, ob_s, if_neg (by decide), ck_ib (by omega) (by omega), ck_t, nI_cl (by omega), ho, if_neg hh, an.2.2, md_in_t a1 a2, ob_s, if_neg (by decide), md_in_f hb, ob_s, if_pos rfl])
  rcases rg x4 0 10000 0 10000 rfl rfl with ⟨d, hd1, hd2, rfl, c1, c2⟩ | hb
  rotate_left
  · exact no (by unfold qfr_tells; rw [isBagman_g ht hm, if_neg hh, ob_s, if_neg (by decide), an.1, within_t a1 a2, ob_s, if_neg (by decide), within_t b1 b2, ob_s, if_neg (by decide), within_f hb, ob_s, if_pos rfl]) (by unfold qmd_tells; rw [md_isMaster_g ht hm, ob_s, if_neg (by decide), ck_ib (by omega) (by omega), ck_t, nI_cl (by omega), ho, if_neg hh, an.2.2, md_in_t a1 a2, ob_s, if_neg (by decide), md_in_t b1 b2, ob_s, if_neg (by decide), md_in_f hb, ob_s, if_pos rfl])
  by_cases h6 : bkM M < 200
  · have hw : w < 520 := by omega
    generalize hM3 : wI (wI (wI (wI (wI (wI M 239 (bkM M) (nI m)) 240 (bkM M) (nI s)) 241 (bkM M) (nI d)) 242 (bkM M) (M.1 243 w)) 243 w (nI (bkM M))) 238 0 (nI (bkM M + 1)) = M3
    have g3 : ∀ c j, M3.1 c j = if c = 238 ∧ j = 0 then nI (bkM M + 1) else if c = 243 ∧ j = w then nI (bkM M) else if c = 242 ∧ j = bkM M then M.1 243 w else if c = 241 ∧ j = bkM M then nI d else if c = 240 ∧ j = bkM M then nI s else if c = 239 ∧ j = bkM M then nI m else M.1 c j := by
      intro c j; rw [← hM3]; simp only [wI_1]
    have hi : ∀ c j, 280 ≤ c → M3.1 c j = M.1 c j := fun c j hc => by
      rw [g3, if_neg (by omega), if_neg (by omega), if_neg (by omega), if_neg (by omega), if_neg (by omega), if_neg (by omega)]
    generalize hM4 : wI (wI (wI (wI (wI M3 320 (bkM M) (nI m)) 321 (bkM M) (nI w)) 322 (bkM M) (nI s)) 323 (bkM M) (nI d)) 280 61 (nI (bkM M + 1)) = M4
    have g4 : ∀ c j, M4.1 c j = if c = 280 ∧ j = 61 then nI (bkM M + 1) else if c = 323 ∧ j = bkM M then nI d else if c = 322 ∧ j = bkM M then nI s else if c = 321 ∧ j = bkM M then nI w else if c = 320 ∧ j = bkM M then nI m else M3.1 c j := by
      intro c j; rw [← hM4]; simp only [wI_1]
    have g7 : M4.2 = M.2 := by rw [← hM4, ← hM3]; rfl
    have c1' : qfr_tells (nI m) (nI w) (nI s) (nI d) M = some (1, M3) := by
      unfold qfr_tells qbk_add
      rw [isBagman_g ht hm, if_neg hh, ob_s, if_neg (by decide), an.1, within_t a1 a2, ob_s, if_neg (by decide), within_t b1 b2, ob_s, if_neg (by decide), within_t c1 c2, ob_s, if_neg (by decide), a.1, if_neg (nI_lt0 (by omega)), if_pos (nl_200 (by omega)), isWeek_g hw, ob_s, if_neg (by decide), a.1, ck_ib (by omega) (by omega), ck_ib (by omega) (by omega), ck_ib (by omega) (by omega), ck_ib (by omega) (by omega), ck_ib (by omega) (by omega), ck_ib (by omega) (by omega), ck_t, nI_cl (by omega), nI_cl (by omega), nI_1, ob_s, hM3]
      rfl
    have c2' : qmd_tells (nI m) (nI w) (nI s) (nI d) M3 = some (1, M4) := by
      unfold qmd_tells
      rw [md_isMaster_rg ((hi _ _ (by omega)).trans am.2.2) (by omega) hm, ob_s, if_neg (by decide), ck_ib (by omega) (by omega), ck_t, nI_cl (by omega), hi _ _ (by omega), ho, if_neg hh, hi _ _ (by omega), an.2.2, md_in_t a1 a2, ob_s, if_neg (by decide), md_in_t b1 b2, ob_s, if_neg (by decide), md_in_t c1 c2, ob_s, if_neg (by decide), hi _ _ (by omega), a.2.2, if_neg (by show ¬ nI (bkM M) = nI 200; rw [nI_eqN (by omega) (by omega)]; omega), ck_ib (by omega) (by omega), ck_ib (by omega) (by omega), ck_ib (by omega) (by omega), ck_ib (by omega) (by omega), ck_t, nI_cl (by omega), nI_1, hM4]
    have rO : ∀ c j, (239 ≤ c ∧ c ≤ 242 ∨ 320 ≤ c ∧ c ≤ 323) → j ≠ bkM M → M4.1 c j = M.1 c j := by
      intro c j hc hj
      rw [g4, if_neg (by omega), if_neg (by omega), if_neg (by omega), if_neg (by omega), if_neg (by omega), g3, if_neg (by omega), if_neg (by omega), if_neg (by omega), if_neg (by omega), if_neg (by omega), if_neg (by omega)]
    have r321 : M4.1 321 (bkM M) = nI w := by rw [g4, if_neg (by omega), if_neg (by omega), if_neg (by omega), if_pos ⟨rfl, rfl⟩]
    have e0 : bkM M4 = bkM M + 1 := by
      show Int32.toNatClampNeg (M4.1 238 0) = _
      rw [g4, if_neg (by omega), if_neg (by omega), if_neg (by omega), if_neg (by omega), if_neg (by omega), g3, if_pos ⟨rfl, rfl⟩, nI_cl (by omega)]
    have lC : ∀ w' k, k ≤ bkM M → tdL M4 w' k = tdL M w' k := fun w' k hk => tdL_cong w' k (fun e he => rO _ _ (by omega) (by omega))
    obtain ⟨h1, h2, h3, h4⟩ := h
    refine Pr.mk c1' c2' ⟨?_, fun c j hs => ?_, g7⟩ (fun c j hc => hi c j (by omega))
    · unfold I_bk
      rw [e0]
      refine ⟨⟨?_, by omega, ?_⟩, fun e he => ?_, fun w' hw' => ?_, fun e he w' hw' q1 => ?_⟩
      · rw [g4, if_neg (by omega), if_neg (by omega), if_neg (by omega), if_neg (by omega), if_neg (by omega), g3, if_pos ⟨rfl, rfl⟩]
      · rw [g4, if_pos ⟨rfl, rfl⟩]
      · by_cases q : e = bkM M
        · subst q
          have u1 : M4.1 320 (bkM M) = nI m := by rw [g4, if_neg (by omega), if_neg (by omega), if_neg (by omega), if_neg (by omega), if_pos ⟨rfl, rfl⟩]
          have u2 : M4.1 322 (bkM M) = nI s := by rw [g4, if_neg (by omega), if_neg (by omega), if_pos ⟨rfl, rfl⟩]
          have u3 : M4.1 323 (bkM M) = nI d := by rw [g4, if_neg (by omega), if_pos ⟨rfl, rfl⟩]
          have low : ∀ c j, c < 280 → M4.1 c j = M3.1 c j := fun c j hc => by rw [g4, if_neg (by omega), if_neg (by omega), if_neg (by omega), if_neg (by omega), if_neg (by omega)]
          have u4 : M4.1 239 (bkM M) = nI m := by rw [low _ _ (by omega), g3, if_neg (by omega), if_neg (by omega), if_neg (by omega), if_neg (by omega), if_neg (by omega), if_pos ⟨rfl, rfl⟩]
          have u5 : M4.1 240 (bkM M) = nI s := by rw [low _ _ (by omega), g3, if_neg (by omega), if_neg (by omega), if_neg (by omega), if_neg (by omega), if_pos ⟨rfl, rfl⟩]
          have u6 : M4.1 241 (bkM M) = nI d := by rw [low _ _ (by omega), g3, if_neg (by omega), if_neg (by omega), if_neg (by omega), if_pos ⟨rfl, rfl⟩]
          rw [u1, u2, u3, u4, u5, u6, r321]
          exact ⟨rfl, rfl, rfl, ⟨w, hw, rfl⟩, ⟨s, hs2, rfl⟩⟩
        · rw [rO _ _ (by omega) q, rO _ _ (by omega) q, rO _ _ (by omega) q, rO _ _ (by omega) q, rO _ _ (by omega) q, rO _ _ (by omega) q, rO _ _ (by omega) q]
          exact h2 e (by omega)
      · have el : tdL M4 w' (bkM M + 1) = if M4.1 321 (bkM M) = nI w' then nI (bkM M) else tdL M4 w' (bkM M) := rfl
        rw [el, r321, lC _ _ (Nat.le_refl _), g4, if_neg (by omega), if_neg (by omega), if_neg (by omega), if_neg (by omega), if_neg (by omega), g3, if_neg (by omega)]
        by_cases q : w' = w
        · subst q
          rw [if_pos ⟨rfl, rfl⟩, if_pos rfl]
        · rw [if_neg (by omega), if_neg (by omega), if_neg (by omega), if_neg (by omega), if_neg (by omega), if_neg (fun y => q (nI_inj (by omega) (by omega) y).symm)]
          exact h3 w' hw'
      · by_cases q : e = bkM M
        · subst q
          have z2 : w = w' := nI_inj (by omega) (by omega) (r321.symm.trans q1)
          subst z2
          rw [lC _ _ (Nat.le_refl _), g4, if_neg (by omega), if_neg (by omega), if_neg (by omega), if_neg (by omega), if_neg (by omega), g3, if_neg (by omega), if_neg (by omega), if_pos ⟨rfl, rfl⟩]
          exact h3 w hw
        · rw [rO _ _ (by omega) q] at q1
          rw [rO _ _ (by omega) q, lC _ _ (by omega)]
          exact h4 e (by omega) w' hw' q1
    · unfold sBk at hs
      rw [g4, if_neg (by omega), if_neg (by omega), if_neg (by omega), if_neg (by omega), if_neg (by omega), g3, if_neg (by omega), if_neg (by omega), if_neg (by omega), if_neg (by omega), if_neg (by omega), if_neg (by omega)]
  · have e3 : bkM M = 200 := by omega
    refine no ?_ ?_
    · unfold qfr_tells qbk_add
      rw [isBagman_g ht hm, if_neg hh, ob_s, if_neg (by decide), an.1, within_t a1 a2, ob_s, if_neg (by decide), within_t b1 b2, ob_s, if_neg (by decide), within_t c1 c2, ob_s, if_neg (by decide), a.1, e3, if_neg (by decide), if_neg (by decide), ob_s]
      rfl
    · unfold qmd_tells
      rw [md_isMaster_g ht hm, ob_s, if_neg (by decide), ck_ib (by omega) (by omega), ck_t, nI_cl (by omega), ho, if_neg hh, an.2.2, md_in_t a1 a2, ob_s, if_neg (by decide), md_in_t b1 b2, ob_s, if_neg (by decide), md_in_t c1 c2, ob_s, if_neg (by decide), a.2.2, e3, if_pos (by decide)]
end
