/-! lists in use, the numbers that are set, strikers -/
def I_us (M : SM) : Prop := (M.1 12 2 = nI (lsM M) ∧ lsM M ≤ 10 ∧ M.1 280 27 = nI (lsM M)) ∧ ∀ m, m < 6 → ∀ w, w < 520 → M.1 287 (520 * m + w) = M.1 (204 + m) w ∧ (M.1 (204 + m) w = -1 ∨ ∃ l, l < lsM M ∧ M.1 (204 + m) w = nI l)
def sUs (c i : Nat) : Prop := (c = 12 ∧ i = 2) ∨ (c = 280 ∧ i = 27) ∨ (204 ≤ c ∧ c ≤ 209) ∨ c = 287
theorem I_us.fr {M M' : SM} (h : I_us M) (e : Eq1 sUs M M') : I_us M' := by
  have e0 : lsM M' = lsM M := by unfold lsM; rw [e 12 2 (by unfold sUs; omega)]
  unfold I_us
  rw [e0, e 12 2 (by unfold sUs; omega), e 280 27 (by unfold sUs; omega)]
  refine ⟨h.1, fun m hm w hw => ?_⟩
  rw [e 287 _ (by unfold sUs; omega), e (204 + m) w (by unfold sUs; omega)]
  exact h.2 m hm w hw
def I_ms (M : SM) : Prop := (∃ p, p ≤ 1000 ∧ M.1 0 10 = nI p ∧ M.1 280 58 = nI p) ∧ ∃ w, w ≤ 100 ∧ M.1 0 11 = nI w ∧ M.1 280 59 = nI w
def sMs (c i : Nat) : Prop := (c = 0 ∧ (i = 10 ∨ i = 11)) ∨ (c = 280 ∧ (i = 58 ∨ i = 59))
theorem I_ms.fr {M M' : SM} (h : I_ms M) (e : Eq1 sMs M M') : I_ms M' := by
  unfold I_ms
  rw [e 0 10 (by unfold sMs; omega), e 280 58 (by unfold sMs; omega), e 0 11 (by unfold sMs; omega), e 280 59 (by unfold sMs; omega)]
  exact h
section
variable {M : SM}
theorem listIn_g (ht : I_tn M) {m w : Nat} (hm : m < msM M) (hw : w < 520) : qtn_listIn (nI m) (nI w) M = some (M.1 (204 + m) w, M) := by
  have a := ht.ms
  obtain ⟨k1, k2⟩ := kz_li m (by omega)
  unfold qtn_listIn
  rw [hasMaster_g ht hm, ob_s, if_neg (by decide), isWeek_g hw, ob_s, if_neg (by decide), nI_cl (by omega), nI_cl (by omega), ckb (and_i (ib_n (by omega) (by omega)) (and_i (av_n k1 (by omega) (by omega) (by omega)) rfl))]
theorem listIn_bm (ht : I_tn M) {x y : Int32} (hx : x < 0 ∨ ¬ x < nI (msM M)) : qtn_listIn x y M = some (-1, M) := by
  unfold qtn_listIn
  rw [hasMaster_b ht hx, ob_s, if_pos rfl]
theorem listOf_p (ht : I_tn M) (h : I_us M) (x y : Int32) : Pr M (qfr_listOf x y) (qmd_listOf x y) (fun M2 => M2 = M) := by
  have a := ht.ms
  rcases ix x (msM M) (by omega) with ⟨m, hm, rfl⟩ | hb
  · rcases ix y 520 (by omega) with ⟨w, hw, rfl⟩ | hb
    · refine Pr.mk (r := M.1 (204 + m) w) (M1 := M) (M2 := M) ?_ ?_ rfl
      · unfold qfr_listOf; rw [listIn_g ht hm hw, ob_s]
      · unfold qmd_listOf
        rw [md_isMaster_g ht hm, ob_s, if_neg (by decide), md_isWeek_g hw, ob_s, if_neg (by decide), show (520 : Int32) = nI 520 from rfl, nI_mul, nI_add, ck_ib (by omega) (by omega), ck_t, nI_cl (by omega), (h.2 m (by omega) w hw).1]
    · refine Pr.mk (r := -1) (M1 := M) (M2 := M) ?_ ?_ rfl
      · unfold qfr_listOf qtn_listIn; rw [hasMaster_g ht hm, ob_s, if_neg (by decide), isWeek_b hb, ob_s, if_pos rfl, ob_s]
      · unfold qmd_listOf
        rw [md_isMaster_g ht hm, ob_s, if_neg (by decide), md_isWeek_b hb, ob_s, if_pos rfl]
  · refine Pr.mk (r := -1) (M1 := M) (M2 := M) ?_ ?_ rfl
    · unfold qfr_listOf; rw [listIn_bm ht hb, ob_s]
    · unfold qmd_listOf; rw [md_isMaster_b ht hb, ob_s, if_pos rfl]
theorem listAt_g (h : I_us M) {l : Nat} (hl : l < lsM M) : qpr_listAt (nI l) M = some (some (15 + 16 * l), M) := by
  have a := h.1
  unfold qpr_listAt
  rw [if_neg (nI_lt0 (by omega)), a.1, if_pos ((nI_ltI (by omega) (by omega)).mpr hl), if_pos (nl_10 (by omega)), ck_ib (by omega) (by omega), ck_t, nI_cl (by omega)]
theorem listAt_b (h : I_us M) {x : Int32} (hx : x < 0 ∨ ¬ x < nI (lsM M)) : qpr_listAt x M = some (none, M) := by
  have a := h.1
  unfold qpr_listAt
  by_cases h0 : x < 0
  · rw [if_pos h0]
  · rw [if_neg h0, a.1, if_neg (hx.resolve_left h0)]
theorem uses_L46_g {m : Nat} (hm : m < 6) (v : Int32) : ∀ n i M, 520 - i < n → i ≤ 520 → ∃ M' : SM, qmd_uses_L46 n (nI m) v (nI i) M = some (1, M') ∧ M'.2 = M.2 ∧ ∀ c j, M'.1 c j = if c = 287 ∧ 520 * m + i ≤ j ∧ j < 520 * m + 520 then v else M.1 c j := by
  intro n
  induction n with
  | zero => intro i M hn; omega
  | succ n ih =>
    intro i M hn hi
    unfold qmd_uses_L46
    by_cases hlt : i < 520
    · rw [if_pos (show nI i < (520 : Int32) from nl_520 hlt), show (520 : Int32) = nI 520 from rfl, nI_mul, nI_add, ck_ib (by omega) (by omega), ck_t, nI_1, nI_cl (by omega)]
      obtain ⟨M', e1, e2, e3⟩ := ih (i + 1) (wI M 287 (520 * m + i) v) (by omega) (by omega)
      refine ⟨M', e1, e2, fun c j => ?_⟩
      rw [e3 c j, wI_1]
      by_cases h1 : c = 287 ∧ 520 * m + (i + 1) ≤ j ∧ j < 520 * m + 520
      · rw [if_pos h1, if_pos ⟨h1.1, by omega, h1.2.2⟩]
      · rw [if_neg h1]
        by_cases h2 : c = 287 ∧ j = 520 * m + i
        · rw [if_pos h2, if_pos ⟨h2.1, by omega, by omega⟩]
        · rw [if_neg h2, if_neg (by omega)]
    · obtain rfl : i = 520 := by omega
      rw [if_neg (show ¬ nI 520 < (520 : Int32) from nI_nlt (Nat.le_refl _) (by omega))]
      exact ⟨M, rfl, rfl, fun c j => by rw [if_neg (by omega)]⟩
theorem uses_p (ht : I_tn M) (h : I_us M) (x y : Int32) : Pr M (qfr_uses x y) (qmd_uses x y) (fun M2 => I_us M2 ∧ Ou (fun c _ => (204 ≤ c ∧ c ≤ 209) ∨ c = 287) M M2) := by
  have a := ht.ms
  have an := ht.nw
  have al := h.1
  rcases ix x (msM M) (by omega) with ⟨m, hm, rfl⟩ | hb
  · have hu := h.2 m (by omega) (nwM M) (by omega)
    rcases ix y (lsM M) (by omega) with ⟨l, hl, rfl⟩ | hb
    · by_cases q : M.1 (204 + m) (nwM M) = nI l
      · refine Pr.mk (r := 0) (M1 := M) (M2 := M) ?_ ?_ ⟨h, Ou.rf _ _⟩
        · unfold qfr_uses
          rw [hasMaster_g ht hm, ob_s, if_neg (by decide), listAt_g h hl, ob_s, om_s, an.1, listIn_g ht hm (by omega), ob_s, if_pos q]
        · unfold qmd_uses
          rw [md_isMaster_g ht hm, ob_s, if_neg (by decide), if_neg (nI_lt0 (by omega)), al.2.2, if_pos ((nI_ltI (by omega) (by omega)).mpr hl), an.2.2, show (520 : Int32) = nI 520 from rfl, nI_mul, nI_add, ck_ib (by omega) (by omega), ck_t, nI_cl (by omega), hu.1, if_pos q]
      · obtain ⟨k1, k2⟩ := kz_li m (by omega)
        obtain ⟨M1, e1, e2, e3⟩ := tfill_g k1 (by omega) k2 (nI l) M (i := nwM M) (by omega)
        obtain ⟨M2, f1, f2, f3⟩ := uses_L46_g (m := m) (by omega) (nI l) FU (nwM M) M1 (by unfold FU; omega) (by omega)
        have g1 : ∀ c j, 280 ≤ c → M1.1 c j = M.1 c j := fun c j hc => by rw [e3, if_neg (by omega)]
        have g : ∀ c j, M2.1 c j = if c = 287 ∧ 520 * m + nwM M ≤ j ∧ j < 520 * m + 520 then nI l else if c = 204 + m ∧ nwM M ≤ j ∧ j < 520 then nI l else M.1 c j := fun c j => by rw [f3 c j, e3 c j]
        have hl2 : lsM M2 = lsM M := by unfold lsM; rw [g, if_neg (by omega), if_neg (by omega)]
        refine Pr.mk (r := 1) (M1 := M1) (M2 := M2) ?_ ?_ ⟨?_, fun c j hc => ?_, f2.trans e2⟩ (fun c j hc => g1 c j (by omega))
        · unfold qfr_uses qtn_listFromNow
          rw [hasMaster_g ht hm, ob_s, if_neg (by decide), listAt_g h hl, ob_s, om_s, an.1, listIn_g ht hm (by omega), ob_s, if_neg q, hasMaster_g ht hm, ob_s, if_neg (by decide), ck_ib (by omega) (by omega), ck_t, nI_cl (by omega), an.1, e1, ob_s, ob_s]
        · unfold qmd_uses
          rw [md_isMaster_rg ((g1 _ _ (by omega)).trans a.2.2) (by omega) hm, ob_s, if_neg (by decide), if_neg (nI_lt0 (by omega)), g1 _ _ (by omega), al.2.2, if_pos ((nI_ltI (by omega) (by omega)).mpr hl), g1 _ _ (by omega), an.2.2, show (520 : Int32) = nI 520 from rfl, nI_mul, nI_add, ck_ib (by omega) (by omega), ck_t, nI_cl (by omega), g1 _ _ (by omega), hu.1, if_neg q]
          exact f1
        · unfold I_us
          rw [hl2]
          refine ⟨?_, fun m' hm' w hw => ?_⟩
          · rw [g, if_neg (by omega), if_neg (by omega), g, if_neg (by omega), if_neg (by omega)]; exact al
          · rw [g, g]
            have hb := h.2 m' hm' w hw
            by_cases z : m' = m
            · subst z
              by_cases z2 : nwM M ≤ w
              · rw [if_pos ⟨rfl, by omega, by omega⟩, if_neg (by omega), if_pos ⟨rfl, z2, hw⟩]
                exact ⟨rfl, Or.inr ⟨l, hl, rfl⟩⟩
              · rw [if_neg (by omega), if_neg (by omega), if_neg (by omega), if_neg (by omega)]; exact hb
            · rw [if_neg (by omega), if_neg (by omega), if_neg (by omega), if_neg (by omega)]; exact hb
        · rw [g, if_neg (by omega), if_neg (by omega)]
    · refine Pr.mk (r := 0) (M1 := M) (M2 := M) ?_ ?_ ⟨h, Ou.rf _ _⟩
      · unfold qfr_uses
        rw [hasMaster_g ht hm, ob_s, if_neg (by decide), listAt_b h hb, ob_s, om_n]
      · unfold qmd_uses
        rw [md_isMaster_g ht hm, ob_s, if_neg (by decide)]
        by_cases h0 : y < 0
        · rw [if_pos h0]
        · rw [if_neg h0, al.2.2, if_neg (hb.resolve_left h0)]
  · refine Pr.mk (r := 0) (M1 := M) (M2 := M) ?_ ?_ ⟨h, Ou.rf _ _⟩
    · unfold qfr_uses; rw [hasMaster_b ht hb, ob_s, if_pos rfl]
    · unfold qmd_uses; rw [md_isMaster_b ht hb, ob_s, if_pos rfl]
/-- who strikes: how many of the first n -/
def stN (M : SM) : Nat → Nat
  | 0 => 0
  | n + 1 => stN M n + (if M.1 279 n = 0 then 0 else 1)
theorem stN_le (M : SM) : ∀ n, stN M n ≤ n
  | 0 => Nat.le_refl _
  | n + 1 => by
    have := stN_le M n
    unfold stN
    split <;> omega
theorem stN_end (h : I_fu M) : ∀ j, knM M + j ≤ 12 → stN M (knM M + j) = stN M (knM M)
  | 0, _ => rfl
  | j + 1, hj => by
    show stN M (knM M + j) + (if M.1 279 (knM M + j) = 0 then 0 else 1) = _
    rw [if_pos (h.2.2.2 _ (by omega) (by omega)), Nat.add_zero, stN_end h j (by omega)]
theorem fu_strikers_L4_g : ∀ n i, 12 - i < n → i ≤ 12 → qfu_strikers_L4 n (nI (stN M i)) (nI i) M = some (nI (stN M 12), M) := by
  intro n
  induction n with
  | zero => intro i hn; omega
  | succ n ih =>
    intro i hn hi
    unfold qfu_strikers_L4
    by_cases hlt : i < 12
    · have := ih (i + 1) (by omega) (by omega)
      rw [show stN M (i + 1) = stN M i + (if M.1 279 i = 0 then 0 else 1) from rfl] at this
      rw [if_pos (show nI i < (12 : Int32) from nl_12 hlt), ck_ib (by omega) (by omega), ck_t, nI_cl (by omega), nI_1]
      by_cases h0 : M.1 279 i = 0
      · rw [if_pos h0] at this
        rw [if_pos h0]; exact this
      · rw [if_neg h0] at this
        rw [if_neg h0, nI_1]; exact this
    · obtain rfl : i = 12 := by omega
      rw [if_neg (by decide)]
theorem md_strikers_L4_g (ht : I_tn M) (h : I_fu M) : ∀ n i, knM M - i < n → i ≤ knM M → qmd_strikers_L4 n (nI (stN M i)) (nI i) M = some (nI (stN M (knM M)), M) := by
  have ak := ht.kn
  intro n
  induction n with
  | zero => intro i hn; omega
  | succ n ih =>
    intro i hn hi
    unfold qmd_strikers_L4
    rw [ak.2.2]
    by_cases hlt : i < knM M
    · have := ih (i + 1) (by omega) (by omega)
      rw [show stN M (i + 1) = stN M i + (if M.1 279 i = 0 then 0 else 1) from rfl] at this
      rw [if_pos ((nI_ltI (by omega) (by omega)).mpr hlt), ck_ib (by omega) (by omega), ck_t, nI_cl (by omega), nI_1, (h.2.2.1 i (by omega)).1]
      by_cases h0 : M.1 279 i = 0
      · rw [if_pos h0] at this
        rw [if_pos h0, show (0 : Int32) = nI 0 from rfl, nI_add]; exact this
      · rw [if_neg h0] at this
        rw [if_neg h0, nI_1]; exact this
    · obtain rfl : i = knM M := by omega
      rw [if_neg (nI_nlt (Nat.le_refl _) (by omega))]
theorem strikers_g (ht : I_tn M) (h : I_fu M) : qfu_strikers M = some (nI (stN M 12), M) ∧ qmd_strikers M = some (nI (stN M 12), M) := by
  have ak := ht.kn
  have e : stN M 12 = stN M (knM M) := by
    have := stN_end h (12 - knM M) (by omega)
    rwa [show knM M + (12 - knM M) = 12 by omega] at this
  refine ⟨fu_strikers_L4_g FU 0 (by unfold FU; omega) (by omega), ?_⟩
  rw [e]
  exact md_strikers_L4_g ht h FU 0 (by unfold FU; omega) (by omega)
end
section
variable {M : SM}
/-- nothing that is set: both refuse -/
theorem number_p (ht : I_tn M) (hf : I_fu M) (h : I_ms M) (x y : Int32) : Pr M (qfr_number x y) (qmd_number x y) (fun M2 => I_tn M2 ∧ I_fu M2 ∧ I_ms M2 ∧ Ou (fun c i => sMs c i ∨ (c = 278 ∧ i = 1) ∨ (c = 280 ∧ i = 60) ∨ c = 181 ∨ c = 286) M M2) := by
  have a := ht.ms
  obtain ⟨⟨p, p1, p2, p3⟩, ⟨w, w1, w2, w3⟩⟩ := id h
  have no : qfr_number x y M = some (0, M) → qmd_number x y M = some (0, M) → Pr M (qfr_number x y) (qmd_number x y) (fun M2 => I_tn M2 ∧ I_fu M2 ∧ I_ms M2 ∧ Ou (fun c i => sMs c i ∨ (c = 278 ∧ i = 1) ∨ (c = 280 ∧ i = 60) ∨ c = 181 ∨ c = 286) M M2) := fun e1 e2 => Pr.mk e1 e2 ⟨ht, hf, h, Ou.rf _ _⟩
  by_cases x0 : x = 0
  · have e10 : x < 10 := by rw [x0]; decide
    have e02a : ¬ x < 0 := by rw [x0]; decide
    have e02b : ¬ (2 : Int32) < x := by rw [x0]; decide
    have n1 : ¬ x = 1 := by rw [x0]; decide
    have n2 : ¬ x = 2 := by rw [x0]; decide
    rcases rg y 0 1000 0 1000 rfl rfl with ⟨n, hn1, hn2, rfl, g1, g2⟩ | hb
    · refine Pr.mk (r := 1) (M1 := wI M 0 10 (nI n)) (M2 := wI (wI M 0 10 (nI n)) 280 58 (nI n)) ?_ ?_ ⟨ht.fr ?_, hf.fr ?_ ?_, ⟨⟨n, hn2, ?_, ?_⟩, ⟨w, w1, ?_, ?_⟩⟩, ((Ou.rf _ _).wI ?_).wI ?_⟩
      · unfold qfr_number
        simp only [jn_ap]
        rw [if_pos x0, within_t g1 g2, ob_s, if_neg (by decide)]
      · unfold qmd_number
        simp only [jn_ap]
        rw [md_in_f (Or.inl e10), ob_s, if_pos rfl, md_in_t e02a e02b, ob_s, if_neg (by decide), if_neg n1, md_in_t g1 g2, ob_s, if_neg (by decide), if_pos x0]
      · intro c i hs; rw [wI_1, if_neg (by unfold sTn at hs; omega), wI_1, if_neg (by unfold sTn at hs; omega)]
      · intro c i hs; rw [wI_1, if_neg (by unfold sFu at hs; omega), wI_1, if_neg (by unfold sFu at hs; omega)]
      · unfold knM; simp [wI_1]
      all_goals first | (simp [wI_1]; done) | (simp [wI_1]; assumption) | (unfold sMs; omega)
    · refine no ?_ ?_
      · unfold qfr_number
        simp only [jn_ap]
        rw [if_pos x0, within_f hb, ob_s, if_pos rfl, if_neg n1, if_neg n2, if_pos e10]
      · unfold qmd_number
        simp only [jn_ap]
        rw [md_in_f (Or.inl e10), ob_s, if_pos rfl, md_in_t e02a e02b, ob_s, if_neg (by decide), if_neg n1, md_in_f hb, ob_s, if_pos rfl]
  · by_cases x1 : x = 1
    · have e10 : x < 10 := by rw [x1]; decide
      have e02a : ¬ x < 0 := by rw [x1]; decide
      have e02b : ¬ (2 : Int32) < x := by rw [x1]; decide
      have n2 : ¬ x = 2 := by rw [x1]; decide
      rcases rg y 0 100 0 100 rfl rfl with ⟨n, hn1, hn2, rfl, g1, g2⟩ | hb
      · refine Pr.mk (r := 1) (M1 := wI M 0 11 (nI n)) (M2 := wI (wI M 0 11 (nI n)) 280 59 (nI n)) ?_ ?_ ⟨ht.fr ?_, hf.fr ?_ ?_, ⟨⟨p, p1, ?_, ?_⟩, ⟨n, hn2, ?_, ?_⟩⟩, ((Ou.rf _ _).wI ?_).wI ?_⟩
        · unfold qfr_number
          simp only [jn_ap]
          rw [if_neg x0, if_pos x1, within_t g1 g2, ob_s, if_neg (by decide)]
        · unfold qmd_number
          simp only [jn_ap]
          rw [md_in_f (Or.inl e10), ob_s, if_pos rfl, md_in_t e02a e02b, ob_s, if_neg (by decide), if_pos x1, md_in_t g1 g2, ob_s, if_neg (by decide), if_neg x0, if_pos x1]
        · intro c i hs; rw [wI_1, if_neg (by unfold sTn at hs; omega), wI_1, if_neg (by unfold sTn at hs; omega)]
        · intro c i hs; rw [wI_1, if_neg (by unfold sFu at hs; omega), wI_1, if_neg (by unfold sFu at hs; omega)]
        · unfold knM; simp [wI_1]
        all_goals first | (simp [wI_1]; done) | (simp [wI_1]; assumption) | (unfold sMs; omega)
      · refine no ?_ ?_
        · unfold qfr_number
          simp only [jn_ap]
          rw [if_neg x0, if_pos x1, within_f hb, ob_s, if_pos rfl, if_neg n2, if_pos e10]
        · unfold qmd_number
          simp only [jn_ap]
          rw [md_in_f (Or.inl e10), ob_s, if_pos rfl, md_in_t e02a e02b, ob_s, if_neg (by decide), if_pos x1, md_in_f hb, ob_s, if_pos rfl]
    · by_cases x2 : x = 2
      · have e10 : x < 10 := by rw [x2]; decide
        have e02a : ¬ x < 0 := by rw [x2]; decide
        have e02b : ¬ (2 : Int32) < x := by rw [x2]; decide
        rcases rg y 0 1000 0 1000 rfl rfl with ⟨n, hn1, hn2, rfl, g1, g2⟩ | hb
        · refine Pr.mk (r := 1) (M1 := wI M 278 1 (nI n)) (M2 := wI (wI M 278 1 (nI n)) 280 60 (nI n)) ?_ ?_ ⟨ht.fr ?_, ?_, ⟨⟨p, p1, ?_, ?_⟩, ⟨w, w1, ?_, ?_⟩⟩, ((Ou.rf _ _).wI ?_).wI ?_⟩
          · unfold qfr_number
            simp only [jn_ap]
            rw [if_neg x0, if_neg x1, if_pos x2, within_t g1 g2, ob_s, if_neg (by decide)]
          · unfold qmd_number
            simp only [jn_ap]
            rw [md_in_f (Or.inl e10), ob_s, if_pos rfl, md_in_t e02a e02b, ob_s, if_neg (by decide), if_neg x1, md_in_t g1 g2, ob_s, if_neg (by decide), if_neg x0, if_neg x1]
          · intro c i hs; rw [wI_1, if_neg (by unfold sTn at hs; omega), wI_1, if_neg (by unfold sTn at hs; omega)]
          · generalize hM2 : wI (wI M 278 1 (nI n)) 280 60 (nI n) = M2
            have g : ∀ c i, M2.1 c i = if c = 280 ∧ i = 60 then nI n else if c = 278 ∧ i = 1 then nI n else M.1 c i := by
              intro c i; rw [← hM2]; simp only [wI_1]
            have e0 : peM M2 = peM M := by unfold peM; rw [g]; simp
            have e1 : scM M2 = n := by unfold scM; rw [g]; simp; exact nI_cl (by omega)
            have e2 : knM M2 = knM M := by unfold knM; rw [g]; simp
            obtain ⟨f1, f2, f3, f4⟩ := hf
            unfold I_fu
            rw [e0, e1, e2]
            refine ⟨?_, ?_, fun k hk => ?_, fun k hk1 hk2 => ?_⟩
            · rw [g, g]; simpa using f1
            · rw [g, g]; simpa using hn2
            · rw [g, g]; simpa using f3 k hk
            · rw [g]; simpa using f4 k hk1 hk2
          all_goals first | (simp [wI_1]; done) | (simp [wI_1]; assumption) | (unfold sMs; omega)
        · refine no ?_ ?_
          · unfold qfr_number
            simp only [jn_ap]
            rw [if_neg x0, if_neg x1, if_pos x2, within_f hb, ob_s, if_pos rfl, if_pos e10]
          · unfold qmd_number
            simp only [jn_ap]
            rw [md_in_f (Or.inl e10), ob_s, if_pos rfl, md_in_t e02a e02b, ob_s, if_neg (by decide), if_neg x1, md_in_f hb, ob_s, if_pos rfl]
      · have hx02 : x < 0 ∨ (2 : Int32) < x := by
          rcases rg x 0 2 0 2 rfl rfl with ⟨n, hn1, hn2, rfl, g1, g2⟩ | hb
          · rcases (show n = 0 ∨ n = 1 ∨ n = 2 by omega) with rfl | rfl | rfl
            · exact absurd rfl x0
            · exact absurd rfl x1
            · exact absurd rfl x2
          · exact hb
        rcases rg x 10 (nI (9 + msM M)) 10 (9 + msM M) rfl rfl (by decide) (by omega) with ⟨k, hk1, hk2, rfl, g1, g2⟩ | hb
        · have hm : k - 10 < msM M := by omega
          have hsub : nI k - (10 : Int32) = nI (k - 10) := nI_subN (b := 10) hk1
          have c1 : qfr_number (nI k) y M = (ob (qfr_within y (0 : Int32) (200 : Int32) M) (fun r13 M14 =>
                  if r13 = 0 then
                  (some ((0 : Int32), M14)) else
                  (ob (qtn_setOver (nI (k - 10)) y M14) (fun _ M16 =>
                    some ((1 : Int32), M16))))) := by
            unfold qfr_number
            simp only [jn_ap]
            rw [if_neg x0, if_neg x1, if_neg x2, if_neg g1, hsub, hasMaster_g ht hm, ob_s, if_neg (by decide)]
          have c2 : ∀ M1 : SM, M1.1 280 1 = nI (msM M) → qmd_number (nI k) y M1 = (ob (qmd_in y (0 : Int32) (200 : Int32) M1) (fun r24 M25 =>
    if r24 = 0 then some (0, M25) else
    (ck (ib 6 (nI (k - 10)) && true) (
      some ((1 : Int32), (wI M25 286 (Int32.toNatClampNeg (nI (k - 10))) y))))) ) := by
            intro M1 hM1
            unfold qmd_number
            simp only [jn_ap]
            rw [hM1, show (9 : Int32) = nI 9 from rfl, nI_add, md_in_t g1 g2, ob_s, if_neg (by decide), hsub]
            rcases rg y 0 200 0 200 rfl rfl with ⟨n, hn1, hn2, rfl, z1, z2⟩ | hb
            · rw [md_in_t z1 z2, ob_s, ob_s, if_neg (by decide), if_neg (by decide)]
            · rw [md_in_f hb, ob_s, ob_s, if_pos rfl, if_pos rfl, md_in_f hx02, ob_s, if_pos rfl]
          rcases rg y 0 200 0 200 rfl rfl with ⟨n, hn1, hn2, rfl, z1, z2⟩ | hb
          · refine Pr.mk (r := 1) (M1 := wI M 181 (k - 10) (nI n)) (M2 := wI (wI M 181 (k - 10) (nI n)) 286 (k - 10) (nI n)) ?_ ?_ ⟨?_, hf.fr ?_ ?_, h.fr ?_, ((Ou.rf _ _).wI ?_).wI ?_⟩
            · unfold qtn_setOver at c1
              rw [c1, within_t z1 z2, ob_s, if_neg (by decide), hasMaster_g ht hm, ob_s, if_neg (by decide), ck_ib (by omega) (by omega), ck_t, nI_cl (by omega), ob_s]
            · rw [c2 _ (by rw [wI_1, if_neg (by omega)]; exact a.2.2), md_in_t z1 z2, ob_s, if_neg (by decide), ck_ib (by omega) (by omega), ck_t, nI_cl (by omega)]
            · generalize hM2 : wI (wI M 181 (k - 10) (nI n)) 286 (k - 10) (nI n) = M2
              have g : ∀ c i, M2.1 c i = if c = 286 ∧ i = k - 10 then nI n else if c = 181 ∧ i = k - 10 then nI n else M.1 c i := by
                intro c i; rw [← hM2]; simp only [wI_1]
              have e1 : msM M2 = msM M := by unfold msM; rw [g]; simp
              have e0 : nwM M2 = nwM M := by unfold nwM; rw [g]; simp
              have e2 : knM M2 = knM M := by unfold knM; rw [g]; simp
              have e3 : frM M2 = frM M := by unfold frM; rw [g]; simp
              have fs := ht.fs
              unfold I_tn okK
              rw [e0, e1, e2, e3]
              refine ⟨?_, ?_, ?_, ?_, fun m hm => ?_, fun m hm => ?_, fun k hk => ?_, fun f hf => ?_, fun f hf w hw => ?_⟩
              · rw [g, g]; simpa using ht.nw
              · rw [g, g]; simpa using ht.ms
              · rw [g, g]; simpa using ht.kn
              · rw [g, g]; simpa using ht.fs
              · rw [g, g]; simpa using ht.ho m hm
              · rw [g, g]
                by_cases q : m = k - 10
                · simp [q]; exact ⟨n, hn2, rfl⟩
                · simp [q]; exact ht.ov m hm
              · rw [g, g]; simpa using ht.he k hk
              · have b := ht.fa f hf
                unfold okK at b
                simp only [g]; simpa using b
              · have b := ht.hd f hf w hw
                unfold okK at b
                rw [g, g, if_neg (by omega), if_neg (by omega), if_neg (by omega), if_neg (by omega)]
                exact b
            · intro c i hs; rw [wI_1, if_neg (by unfold sFu at hs; omega), wI_1, if_neg (by unfold sFu at hs; omega)]
            · unfold knM; simp [wI_1]
            · intro c i hs; rw [wI_1, if_neg (by unfold sMs at hs; omega), wI_1, if_neg (by unfold sMs at hs; omega)]
            all_goals (unfold sMs; omega)
          · refine no ?_ ?_
            · rw [c1, within_f hb, ob_s, if_pos rfl]
            · rw [c2 M a.2.2, md_in_f hb, ob_s, if_pos rfl]
        · refine no ?_ ?_
          · unfold qfr_number
            simp only [jn_ap]
            rw [if_neg x0, if_neg x1, if_neg x2]
            by_cases q : x < 10
            · rw [if_pos q]
            · rw [if_neg q]
              have hb2 := hb.resolve_left q
              have h0 : ¬ x < 0 := fun z => q (by
                rw [Int32.lt_iff_toInt_lt] at z ⊢
                rw [show (0 : Int32).toInt = 0 from rfl] at z
                rw [show (10 : Int32).toInt = 10 from rfl]
                omega)
              obtain ⟨k, hk, rfl⟩ := nI_of h0
              have hk1 : 10 ≤ k := by
                rcases Nat.lt_or_ge k 10 with z | z
                · exact absurd (nl_10 z) q
                · exact z
              rw [nI_ltN (by omega) (by omega)] at hb2
              rw [show nI k - (10 : Int32) = nI (k - 10) from nI_subN (b := 10) hk1, hasMaster_b ht (Or.inr (by rw [nI_ltN (by omega) (by omega)]; omega)), ob_s, if_pos rfl]
          · unfold qmd_number
            simp only [jn_ap]
            rw [a.2.2, show (9 : Int32) = nI 9 from rfl, nI_add, md_in_f hb, ob_s, if_pos rfl, md_in_f hx02, ob_s, if_pos rfl]
end
