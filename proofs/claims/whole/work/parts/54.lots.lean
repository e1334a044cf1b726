/-! lots of stockings -/
def loM (M : SM) : Nat := Int32.toNatClampNeg (M.1 270 0)
def I_lo (M : SM) : Prop := (M.1 270 0 = nI (loM M) ∧ loM M ≤ 40 ∧ M.1 280 80 = nI (loM M)) ∧ ∀ l, l < 40 → M.1 330 l = M.1 271 l ∧ (∃ n, n ≤ 255 ∧ M.1 271 l = nI n) ∧ M.1 331 l = M.1 272 l
def sLo (c i : Nat) : Prop := (c = 270 ∧ i = 0) ∨ c = 271 ∨ c = 272 ∨ (c = 280 ∧ i = 80) ∨ c = 330 ∨ c = 331
theorem I_lo.fr {M M' : SM} (h : I_lo M) (e : Eq1 sLo M M') : I_lo M' := by
  have e0 : loM M' = loM M := by unfold loM; rw [e 270 0 (by unfold sLo; omega)]
  unfold I_lo
  rw [e0, e 270 0 (by unfold sLo; omega), e 280 80 (by unfold sLo; omega)]
  refine ⟨h.1, fun l hl => ?_⟩
  rw [e 330 l (by unfold sLo; omega), e 271 l (by unfold sLo; omega), e 331 l (by unfold sLo; omega), e 272 l (by unfold sLo; omega)]
  exact h.2 l hl
theorem nI_xor (a b : Nat) : nI a ^^^ nI b = nI (a ^^^ b) := by
  apply Int32.toBitVec_inj.mp
  simp [nI]
def bcV (x0 : Int32) : Int32 :=
  (((((((x0 - ((ushr x0 (1 : Int32)) &&& (1431655765 : Int32))) &&& (858993459 : Int32)) + ((ushr (x0 - ((ushr x0 (1 : Int32)) &&& (1431655765 : Int32))) (2 : Int32)) &&& (858993459 : Int32)))) + (ushr ((((x0 - ((ushr x0 (1 : Int32)) &&& (1431655765 : Int32))) &&& (858993459 : Int32)) + ((ushr (x0 - ((ushr x0 (1 : Int32)) &&& (1431655765 : Int32))) (2 : Int32)) &&& (858993459 : Int32)))) (4 : Int32))) &&& (252645135 : Int32)) + (ushr ((((((x0 - ((ushr x0 (1 : Int32)) &&& (1431655765 : Int32))) &&& (858993459 : Int32)) + ((ushr (x0 - ((ushr x0 (1 : Int32)) &&& (1431655765 : Int32))) (2 : Int32)) &&& (858993459 : Int32)))) + (ushr ((((x0 - ((ushr x0 (1 : Int32)) &&& (1431655765 : Int32))) &&& (858993459 : Int32)) + ((ushr (x0 - ((ushr x0 (1 : Int32)) &&& (1431655765 : Int32))) (2 : Int32)) &&& (858993459 : Int32)))) (4 : Int32))) &&& (252645135 : Int32)) (8 : Int32)))
def bcW (x0 : Int32) : Int32 := ((bcV x0) + (ushr (bcV x0) (16 : Int32))) &&& (63 : Int32)
theorem bitCount_eq (x : Int32) (M : SM) : qjI_bitCount x M = some (bcW x, M) := rfl
def faW (x : Int32) : Nat → Int32
  | 0 => 0
  | k + 1 => faW x k + ((x >>> (nI k &&& 31)) &&& (1 : Int32))
theorem bc_fa : ∀ v, v < 256 → bcW (nI v) = faW (nI v) 8 := by decide +kernel
theorem far_L5_g {M : SM} {l k : Nat} (hl : l < 40) (hk : k < 40) : ∀ n i, 8 - i < n → i ≤ 8 → qmd_far_L5 n (nI l) (nI k) (faW (M.1 330 l ^^^ M.1 330 k) i) (nI i) M = some (faW (M.1 330 l ^^^ M.1 330 k) 8, M) := by
  intro n
  induction n with
  | zero => intro i hn; omega
  | succ n ih =>
    intro i hn hi
    unfold qmd_far_L5
    by_cases hlt : i < 8
    · rw [if_pos (show nI i < (8 : Int32) from nI_lt (b := 8) hlt (by decide)), ckb (and_i (ib_n (by omega) (by omega)) (and_i (ib_n (by omega) (by omega)) rfl)), nI_cl (by omega), nI_cl (by omega), ltt_s, nI_1]
      exact ih (i + 1) (by omega) (by omega)
    · obtain rfl : i = 8 := by omega
      rw [if_neg (by decide)]
theorem far_g {M : SM} {l k : Nat} (hl : l < 40) (hk : k < 40) : qmd_far (nI l) (nI k) M = some (faW (M.1 330 l ^^^ M.1 330 k) 8, M) := far_L5_g hl hk FU 0 (by unfold FU; omega) (by omega)
section
variable {M : SM}
theorem lo_has_g (h : I_lo M) {l : Nat} (hl : l < loM M) : qlo_has (nI l) M = some (1, M) := by
  obtain ⟨a1, a2, a3⟩ := h.1
  exact (if_neg (nI_lt0 (by omega))).trans ((if_pos (by rw [a1]; exact (nI_ltI (by omega) (by omega)).mpr hl)).trans (if_pos (show nI l < nI 40 from (nI_ltI (by omega) (by omega)).mpr (by omega))))
theorem lo_has_b (h : I_lo M) {x : Int32} (hx : x < 0 ∨ ¬ x < nI (loM M)) : qlo_has x M = some (0, M) := by
  obtain ⟨a1, a2, a3⟩ := h.1
  by_cases h0 : x < 0
  · exact if_pos h0
  · exact (if_neg h0).trans (if_neg (by rw [a1]; exact hx.resolve_left h0))
theorem md_isLot_rg {n l : Nat} (e : M.1 280 80 = nI n) (hn : n ≤ 40) (hl : l < n) : qmd_isLot (nI l) M = some (1, M) :=
  (if_neg (nI_lt0 (by omega))).trans (if_pos (by rw [e]; exact (nI_ltI (by omega) (by omega)).mpr hl))
theorem md_isLot_rb {n : Nat} {x : Int32} (e : M.1 280 80 = nI n) (hx : x < 0 ∨ ¬ x < nI n) : qmd_isLot x M = some (0, M) := by
  by_cases h0 : x < 0
  · exact if_pos h0
  · exact (if_neg h0).trans (if_neg (by rw [e]; exact hx.resolve_left h0))
theorem lot_p (h : I_lo M) (x : Int32) : Pr M (qfr_lot x) (qmd_lot x) (fun M2 => I_lo M2 ∧ Ou sLo M M2) := by
  obtain ⟨a, hr⟩ := h
  rcases rg x 0 255 0 255 rfl rfl with ⟨n, hn1, hn2, rfl, g1, g2⟩ | hb
  · by_cases h6 : loM M < 40
    · refine Pr.mk (r := nI (loM M)) (M1 := wI (wI M 271 (loM M) (nI n)) 270 0 (nI (loM M + 1))) (M2 := wI (wI (wI (wI M 271 (loM M) (nI n)) 270 0 (nI (loM M + 1))) 330 (loM M) (nI n)) 280 80 (nI (loM M + 1))) ?_ ?_ ⟨?_, ((((Ou.rf _ _).wI ?_).wI ?_).wI ?_).wI ?_⟩
      · unfold qfr_lot qlo_add
        rw [within_t g1 g2, ob_s, if_neg (by decide), a.1, if_neg (nI_lt0 (by omega)), if_pos (show nI (loM M) < (40 : Int32) from nI_lt (b := 40) h6 (by decide)), ckb (and_i (ib_n (by omega) (by omega)) rfl), nI_cl (by omega), nI_1, nI_m1 (by omega)]
        rfl
      · unfold qmd_lot
        have e : (wI (wI M 271 (loM M) (nI n)) 270 0 (nI (loM M + 1))).1 280 80 = nI (loM M) := by simp [wI_1, a.2.2]
        rw [md_in_t g1 g2, ob_s, if_neg (by decide), e, if_neg (by show ¬ nI (loM M) = nI 40; rw [nI_eqN (by omega) (by omega)]; omega), ckb (and_i (ib_n (by omega) (by omega)) rfl), nI_cl (by omega), nI_1, nI_m1 (by omega)]
        rfl
      · generalize hM2 : wI (wI (wI (wI M 271 (loM M) (nI n)) 270 0 (nI (loM M + 1))) 330 (loM M) (nI n)) 280 80 (nI (loM M + 1)) = M2
        have g : ∀ c i, M2.1 c i = if c = 280 ∧ i = 80 then nI (loM M + 1) else if c = 330 ∧ i = loM M then nI n else if c = 270 ∧ i = 0 then nI (loM M + 1) else if c = 271 ∧ i = loM M then nI n else M.1 c i := by
          intro c i; rw [← hM2]; simp only [wI_1]
        have e2 : loM M2 = loM M + 1 := by unfold loM; rw [g]; simp [nI_cl (show loM M + 1 < 2147483648 by omega)]; rfl
        refine ⟨?_, fun l hl => ?_⟩
        · rw [e2, g, g]; simp; omega
        · rw [g, g, g, g]
          by_cases hq : l = loM M
          · subst hq; simp; exact ⟨⟨n, hn2, rfl⟩, (hr _ hl).2.2⟩
          · simp [hq]; exact hr l hl
      all_goals (unfold sLo; omega)
    · have e12 : loM M = 40 := by omega
      refine Pr.mk (r := -1) (M1 := M) (M2 := M) ?_ ?_ ⟨⟨a, hr⟩, Ou.rf _ _⟩
      · unfold qfr_lot qlo_add
        rw [within_t g1 g2, ob_s, if_neg (by decide), a.1, if_neg (nI_lt0 (by omega)), e12, if_neg (by decide)]
        rfl
      · unfold qmd_lot
        rw [md_in_t g1 g2, ob_s, if_neg (by decide), a.2.2, e12, if_pos (by decide)]
  · refine Pr.mk (r := -1) (M1 := M) (M2 := M) ?_ ?_ ⟨⟨a, hr⟩, Ou.rf _ _⟩
    · unfold qfr_lot; rw [within_f hb, ob_s, if_pos rfl]
    · unfold qmd_lot; rw [md_in_f hb, ob_s, if_pos rfl]
theorem told_p (h : I_lo M) (x y : Int32) : Pr M (qfr_told x y) (qmd_told x y) (fun M2 => I_lo M2 ∧ Ou sLo M M2) := by
  obtain ⟨a, hr⟩ := id h
  rcases ix x (loM M) (by omega) with ⟨l, hl, rfl⟩ | hb
  · rcases rg y 0 2 0 2 rfl rfl with ⟨n, hn1, hn2, rfl, g1, g2⟩ | hb
    · refine Pr.mk (r := 1) (M1 := wI M 272 l (nI n)) (M2 := wI (wI M 272 l (nI n)) 331 l (nI n)) ?_ ?_ ⟨?_, ((Ou.rf _ _).wI ?_).wI ?_⟩
      · unfold qfr_told qlo_setKind
        rw [lo_has_g h hl, ob_s, if_neg (by decide), within_t g1 g2, ob_s, if_neg (by decide), lo_has_g h hl, ob_s, if_neg (by decide), ckb (and_i (ib_n (by omega) (by omega)) rfl), nI_cl (by omega), ob_s]
      · unfold qmd_told
        have e : (wI M 272 l (nI n)).1 280 80 = nI (loM M) := by simp [wI_1, a.2.2]
        rw [md_isLot_rg e (by omega) hl, ob_s, if_neg (by decide), md_in_t g1 g2, ob_s, if_neg (by decide), ckb (and_i (ib_n (by omega) (by omega)) rfl), nI_cl (by omega)]
      · have e2 : loM (wI (wI M 272 l (nI n)) 331 l (nI n)) = loM M := by unfold loM; simp [wI_1]
        refine ⟨?_, fun l' hl' => ?_⟩
        · rw [e2]; simpa [wI_1] using a
        · simp only [wI_1]
          by_cases hq : l' = l
          · subst hq; simp; exact ⟨(hr _ hl').1, (hr _ hl').2.1⟩
          · simp [hq]; exact hr l' hl'
      all_goals (unfold sLo; omega)
    · refine Pr.mk (r := 0) (M1 := M) (M2 := M) ?_ ?_ ⟨h, Ou.rf _ _⟩
      · unfold qfr_told; rw [lo_has_g h hl, ob_s, if_neg (by decide), within_f hb, ob_s, if_pos rfl]
      · unfold qmd_told; rw [md_isLot_rg a.2.2 (by omega) hl, ob_s, if_neg (by decide), md_in_f hb, ob_s, if_pos rfl]
  · refine Pr.mk (r := 0) (M1 := M) (M2 := M) ?_ ?_ ⟨h, Ou.rf _ _⟩
    · unfold qfr_told; rw [lo_has_b h hb, ob_s, if_pos rfl]
    · unfold qmd_told; rw [md_isLot_rb a.2.2 hb, ob_s, if_pos rfl]
theorem is_L34_g (h : I_lo M) {l : Nat} (hl : l < loM M) : ∀ n i x2 x3, loM M - i < n → i ≤ loM M → ∃ v, qlo_kindOf_L34 n (nI l) x2 x3 (nI i) M = some (v, M) ∧ qmd_is_L34 n (nI l) x2 x3 (nI i) M = some (v, M) := by
  obtain ⟨a, hr⟩ := id h
  intro n
  induction n with
  | zero => intro i x2 x3 hn; omega
  | succ n ih =>
    intro i x2 x3 hn hi
    unfold qlo_kindOf_L34 qmd_is_L34
    by_cases hlt : i < loM M
    · obtain ⟨b1, ⟨v1, hv1, b2⟩, b3⟩ := hr i (by omega)
      obtain ⟨c1, ⟨v2, hv2, c2⟩, c3⟩ := hr l (by omega)
      have hlt' : nI i < nI (loM M) := (nI_ltI (by omega) (by omega)).mpr hlt
      rw [a.1, if_pos hlt', if_pos (show nI i < (40 : Int32) from nI_lt (b := 40) (by omega) (by decide)), a.2.2, if_pos hlt', ckb (and_i (ib_n (by omega) (by omega)) rfl), ckb (and_i (ib_n (by omega) (by omega)) rfl), nI_cl (by omega), nI_cl (by omega), b3]
      by_cases h0 : M.1 272 i = 0
      · rw [if_pos h0, if_pos h0, nI_1]
        exact ih (i + 1) x2 x3 (by omega) (by omega)
      · rw [if_neg h0, if_neg h0, ckb (and_i (ib_n (by omega) (by omega)) (and_i (ib_n (by omega) (by omega)) rfl)), bitCount_eq, ob_s, far_g (by omega) (by omega), ob_s]
        have e : bcW (M.1 271 i ^^^ M.1 271 l) = faW (M.1 330 l ^^^ M.1 330 i) 8 := by
          rw [b1, c1, b2, c2, nI_xor, nI_xor, Nat.xor_comm v2 v1]
          exact bc_fa _ (Nat.xor_lt_two_pow (n := 8) (by omega) (by omega))
        rw [e]
        generalize faW (M.1 330 l ^^^ M.1 330 i) 8 = q
        simp only [jn_s]
        by_cases hq : q < x2
        · have hq2 : ¬ x2 < q := by rw [Int32.lt_iff_toInt_lt] at hq ⊢; omega
          rw [if_pos hq, if_pos hq, if_neg hq2, if_neg hq2, ckb (and_i (ib_n (by omega) (by omega)) rfl), ckb (and_i (ib_n (by omega) (by omega)) rfl), nI_1]
          rw [show imn x2 q = q from if_pos hq, if_pos hq, nI_cl (by omega), b3]
          exact ih (i + 1) _ _ (by omega) (by omega)
        · rw [if_neg hq, if_neg hq, show imn x2 q = x2 from if_neg hq]
          by_cases hq2 : x2 < q
          · rw [if_pos hq2, if_pos hq2, if_neg hq, nI_1]
            exact ih (i + 1) _ _ (by omega) (by omega)
          · rw [if_neg hq2, if_neg hq2, ckb (and_i (ib_n (by omega) (by omega)) rfl), ckb (and_i (ib_n (by omega) (by omega)) rfl), if_neg hq, nI_1, nI_cl (by omega), b3]
            exact ih (i + 1) _ _ (by omega) (by omega)
    · obtain rfl : i = loM M := by omega
      have hn : ¬ nI (loM M) < nI (loM M) := nI_nlt (Nat.le_refl _) (by omega)
      rw [a.1, if_neg hn, a.2.2, if_neg hn]
      exact ⟨x3, rfl, rfl⟩
theorem is_p (h : I_lo M) (x : Int32) : Pr M (qfr_is x) (qmd_is x) (fun M2 => M2 = M) := by
  obtain ⟨a, hr⟩ := id h
  rcases ix x (loM M) (by omega) with ⟨l, hl, rfl⟩ | hb
  · obtain ⟨c1, c2, c3⟩ := hr l (by omega)
    by_cases h0 : M.1 272 l = 0
    · obtain ⟨v, e1, e2⟩ := is_L34_g h hl FU 0 9 0 (by unfold FU; omega) (by omega)
      refine Pr.mk (r := v) (M1 := M) (M2 := M) ?_ ?_ rfl
      · unfold qfr_is qlo_kindOf
        rw [lo_has_g h hl, ob_s, if_neg (by decide), ckb (and_i (ib_n (by omega) (by omega)) rfl), nI_cl (by omega), if_pos h0, show (0 : Int32) = nI 0 from rfl] at *
        rw [e1, ob_s]
      · unfold qmd_is
        rw [md_isLot_rg a.2.2 (by omega) hl, ob_s, if_neg (by decide), ckb (and_i (ib_n (by omega) (by omega)) rfl), nI_cl (by omega), c3, if_pos h0]
        exact e2
    · refine Pr.mk (r := M.1 272 l) (M1 := M) (M2 := M) ?_ ?_ rfl
      · unfold qfr_is qlo_kindOf
        rw [lo_has_g h hl, ob_s, if_neg (by decide), ckb (and_i (ib_n (by omega) (by omega)) rfl), nI_cl (by omega), if_neg h0, ckb (and_i (ib_n (by omega) (by omega)) rfl), ob_s]
      · unfold qmd_is
        rw [md_isLot_rg a.2.2 (by omega) hl, ob_s, if_neg (by decide), ckb (and_i (ib_n (by omega) (by omega)) rfl), nI_cl (by omega), c3, if_neg h0, ckb (and_i (ib_n (by omega) (by omega)) rfl)]
  · refine Pr.mk (r := -1) (M1 := M) (M2 := M) ?_ ?_ rfl
    · unfold qfr_is qlo_kindOf; rw [lo_has_b h hb, ob_s, if_pos rfl]; rfl
    · unfold qmd_is; rw [md_isLot_rb a.2.2 hb, ob_s, if_pos rfl]
end
