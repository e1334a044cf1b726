/-! how the class finds the best spread -/
def bG (M : SM) (G : Nat → Nat → Int64) (N D : Nat) : Prop := M.1 244 7 = nI N ∧ M.1 244 3 = nI D ∧ ∀ i k, i < N → k < 25 → M.2 (247 + i) k = G i k
def bS (M : SM) (G : Nat → Nat → Int64) (N D r : Nat) : Prop := ∀ r' j, r ≤ r' → r' ≤ N → j ≤ D → M.2 (258 + r') j = e1 (bP G N (N - r') j)
def oB (M M' : SM) : Prop := M'.1 = M.1 ∧ ∀ c, ¬ (258 ≤ c ∧ c ≤ 268) → M'.2 c = M.2 c
theorem oB.rf (M : SM) : oB M M := ⟨rfl, fun _ _ => rfl⟩
theorem oB.tr {M M' M'' : SM} (h : oB M M') (h2 : oB M' M'') : oB M M'' := ⟨h2.1.trans h.1, fun c q => (h2.2 c q).trans (h.2 c q)⟩
theorem bG.fr {M M' : SM} {G : Nat → Nat → Int64} {N D : Nat} (h : bG M G N D) (hN : N ≤ 10) (o : oB M M') : bG M' G N D := ⟨by rw [o.1]; exact h.1, by rw [o.1]; exact h.2.1, fun i k hi hk => by rw [o.2 _ (by omega)]; exact h.2.2 i k hi hk⟩
theorem kz_bst : ∀ r, r < 11 → K0 (258 + r) = 21 ∧ Z0 (258 + r) = 61 := by decide
section
variable {G : Nat → Nat → Int64} {N D : Nat}
theorem bestAt_g {M : SM} (h : bG M G N D) (hN : N ≤ 10) (hD : D ≤ 60) {r d : Nat} (hr : r ≤ N) (hd : d ≤ D) (hs : bS M G N D r) : qod_bestAt (nI r) (nI d) M = some (e1 (bP G N (N - r) d), M) := by
  have kz := kz_bst r (by omega)
  unfold qod_bestAt
  simp only [jn_ap]
  rw [if_neg (nI_lt0 (by omega)), h.1, if_neg (nI_nlt hr (by omega)), if_neg (show ¬ (10 : Int32) < nI r from nI_nlt (a := 10) (b := r) (by omega) (by omega)), if_neg (nI_lt0 (by omega)), if_neg (show ¬ (60 : Int32) < nI d from nI_nlt (a := 60) (b := d) (by omega) (by omega)), if_neg (by decide), ck_ib (by omega) (by omega), nI_cl (by omega), ck_av kz.1 (by omega) (by omega) (by omega), ck_t, nI_cl (by omega), hs r d (Nat.le_refl _) hr hd]
theorem gainAt_g {M : SM} (h : bG M G N D) (hN : N ≤ 10) {r k : Nat} (hr : r < N) (hk : k < 25) : qod_gainAt (nI r) (nI k) M = some (G r k, M) := by
  have kz := kz_ga r (by omega)
  unfold qod_gainAt
  simp only [jn_ap]
  rw [if_neg (nI_lt0 (by omega)), h.1, if_pos ((nI_ltI (by omega) (by omega)).mpr hr), if_pos (nl_10 (by omega)), if_neg (nI_lt0 (by omega)), if_neg (show ¬ (24 : Int32) < nI k from nI_nlt (a := 24) (b := k) (by omega) (by omega)), if_neg (by decide), ck_ib (by omega) (by omega), nI_cl (by omega), ck_av kz.1 (by omega) (by omega) (by omega), ck_t, nI_cl (by omega), h.2.2 r k hr hk]
theorem gainWith_g {M : SM} (h : bG M G N D) (hG : gB G N) (hN : N ≤ 10) (hD : D ≤ 60) {r d k : Nat} (hr : r < N) (hd : d ≤ D) (hk : k ≤ d) (hk2 : k < 25) (hs : bS M G N D (r + 1)) : qod_gainWith (nI r) (nI d) (nI k) M = some (e1 (plO (G r k) (bP G N (N - (r + 1)) (d - k))), M) := by
  unfold qod_gainWith
  rw [nI_1, nI_subN hk, bestAt_g h hN hD (by omega) (by omega) hs, ob_s, ic_eq]
  have hb := bP_b hG hN (n := N - (r + 1)) (d := d - k) (by omega)
  have e := e1_inj (bd_mono hb (by omega)) (show bd 200000000000 none from fun v hv => by cases hv)
  have e' : (e1 (bP G N (N - (r + 1)) (d - k)) = -1000000000000) = (bP G N (N - (r + 1)) (d - k) = none) := e
  cases hc : bP G N (N - (r + 1)) (d - k) with
  | none =>
    rw [if_pos (show e1 none = -1000000000000 from rfl)]
    rfl
  | some v =>
    rw [hc] at e'
    rw [if_neg (fun q => by rw [e'] at q; cases q), gainAt_g h hN hr hk2, ob_s]
    rfl
theorem pl_b (hG : gB G N) (hN : N ≤ 10) {r d k : Nat} (hr : r < N) (hk2 : k < 25) : bd 200000000000 (plO (G r k) (bP G N (N - (r + 1)) (d - k))) := bd_mono (bd_pl (hG r k hr hk2) (bP_b hG hN (by omega)) (by omega) (by omega)) (by omega)
theorem fB_L85 {M : SM} (h : bG M G N D) (hG : gB G N) (hN : N ≤ 10) (hD : D ≤ 60) {r j : Nat} (hr : r < N) (hj : j ≤ D) (hs : bS M G N D (r + 1)) {K : Int32 → Int32 → Int32 → Int64 → SM → Option (Unit × SM)} : ∀ (n fu k : Nat), min 25 (j + 1) - k = n → n < fu → k ≤ min 25 (j + 1) →
    qod_fillBest_L85 K fu (nI D) (nI r) (nI j) (e1 (acO (fun k => plO (G r k) (bP G N (N - (r + 1)) (j - k))) k)) (nI k) M = K (nI D) (nI r) (nI j) (e1 (bP G N (N - r) j)) M := by
  intro n
  induction n with
  | zero =>
    intro fu k e hfu hk
    obtain ⟨fu, rfl⟩ : ∃ y, fu = y + 1 := ⟨fu - 1, by omega⟩
    obtain rfl : k = min 25 (j + 1) := by omega
    unfold qod_fillBest_L85
    rw [← bP_r hr]
    by_cases q : j < 24
    · rw [if_neg (show ¬ (24 : Int32) < nI (min 25 (j + 1)) from nI_nlt (a := 24) (by omega) (by omega)), if_pos ((nI_ltI (by omega) (by omega)).mpr (by omega))]
    · rw [if_pos (show (24 : Int32) < nI (min 25 (j + 1)) from (nI_ltI (a := 24) (by omega) (by omega)).mpr (by omega))]
  | succ n ih =>
    intro fu k e hfu hk
    obtain ⟨fu, rfl⟩ : ∃ y, fu = y + 1 := ⟨fu - 1, by omega⟩
    unfold qod_fillBest_L85
    rw [if_neg (show ¬ (24 : Int32) < nI k from nI_nlt (a := 24) (by omega) (by omega)), if_neg (nI_nlt (by omega) (by omega)), gainWith_g h hG hN hD hr hj (by omega) (by omega) hs, ob_s]
    rw [e1_mx (bd_ac fun k' hk' => pl_b hG hN hr (by omega)) (pl_b hG hN hr (by omega)), nI_1]
    exact ih fu (k + 1) (by omega) (by omega) (by omega)
theorem fB_L71 (hG : gB G N) (hN : N ≤ 10) (hD : D ≤ 60) {r : Nat} (hr : r < N) {K : Int32 → Int32 → SM → Option (Unit × SM)} : ∀ (n fu j : Nat) (M : SM), D + 1 - j = n → n < fu → j ≤ D + 1 → bG M G N D → bS M G N D (r + 1) → (∀ j', j' < j → M.2 (258 + r) j' = e1 (bP G N (N - r) j')) →
    ∃ M' : SM, qod_fillBest_L71 K fu (nI D) (nI r) (nI j) M = K (nI D) (nI r) M' ∧ oB M M' ∧ bS M' G N D r := by
  have kz := kz_bst r (by omega)
  intro n
  induction n with
  | zero =>
    intro fu j M e hfu hj h hs hg
    obtain ⟨fu, rfl⟩ : ∃ y, fu = y + 1 := ⟨fu - 1, by omega⟩
    refine ⟨M, ?_, oB.rf M, fun r' j' h1 h2 h3 => ?_⟩
    · unfold qod_fillBest_L71
      rw [if_pos ((nI_ltI (by omega) (by omega)).mpr (by omega))]
    · by_cases q : r' = r
      · subst q; exact hg j' (by omega)
      · exact hs r' j' (by omega) h2 h3
  | succ n ih =>
    intro fu j M e hfu hj h hs hg
    obtain ⟨fu, rfl⟩ : ∃ y, fu = y + 1 := ⟨fu - 1, by omega⟩
    have o1 : oB M (wL M (258 + r) j (e1 (bP G N (N - r) j))) := ⟨rfl, fun c q => by funext i; rw [wL_2, if_neg (by omega)]⟩
    obtain ⟨M', z1, z2, z3⟩ := ih fu (j + 1) (wL M (258 + r) j (e1 (bP G N (N - r) j))) (by omega) (by omega) (by omega) (h.fr hN o1) (fun r' j' h1 h2 h3 => by rw [wL_2, if_neg (by omega)]; exact hs r' j' h1 h2 h3) (fun j' hj' => by
      rw [wL_2]
      by_cases q : j' = j
      · subst q; rw [if_pos ⟨rfl, rfl⟩]
      · rw [if_neg (by omega)]; exact hg j' (by omega))
    refine ⟨M', ?_, o1.tr z2, z3⟩
    have hL := fB_L85 h hG hN hD hr (j := j) (by omega) hs (K := fun y2_14 y3_15 y4_16 y5_17 M18 =>
      ck (ib 11 y3_15 && (av 336 21 (258 + (Int32.toNatClampNeg y3_15)) y4_16 && true)) (
        qod_fillBest_L71 K fu y2_14 y3_15 (y4_16 + (1 : Int32)) (wL M18 (258 + (Int32.toNatClampNeg y3_15)) (Int32.toNatClampNeg y4_16) y5_17))) (min 25 (j + 1)) FU 0 (by omega) (by unfold FU; omega) (by omega)
    unfold qod_fillBest_L71
    rw [if_neg (nI_nlt (by omega) (by omega))]
    refine Eq.trans hL ?_
    rw [ck_ib (by omega) (by omega), nI_cl (by omega), ck_av kz.1 (by omega) (by omega) (by omega), ck_t, nI_cl (by omega), nI_1]
    exact z1
theorem fB_L64 (hG : gB G N) (hN : N ≤ 10) (hD : D ≤ 60) : ∀ (n fu : Nat) (M : SM), n ≤ N → n < fu → bG M G N D → bS M G N D n →
    ∃ M' : SM, qod_fillBest_L64 fu (nI D) (nI n - 1) M = some ((), M') ∧ oB M M' ∧ bS M' G N D 0 := by
  intro n
  induction n with
  | zero =>
    intro fu M hn hfu h hs
    obtain ⟨fu, rfl⟩ : ∃ y, fu = y + 1 := ⟨fu - 1, by omega⟩
    refine ⟨M, ?_, oB.rf M, hs⟩
    unfold qod_fillBest_L64
    rw [if_pos (show nI 0 - 1 < 0 by decide)]
  | succ n ih =>
    intro fu M hn hfu h hs
    obtain ⟨fu, rfl⟩ : ∃ y, fu = y + 1 := ⟨fu - 1, by omega⟩
    obtain ⟨M1, a1, a2, a3⟩ := fB_L71 hG hN hD (r := n) (by omega) (K := fun y2_21 y3_22 M23 => qod_fillBest_L64 fu y2_21 (y3_22 + (-1 : Int32)) M23) (D + 1) FU 0 M (by omega) (by unfold FU; omega) (by omega) h hs (fun j' hj' => by omega)
    obtain ⟨M2, b1, b2, b3⟩ := ih fu M1 (by omega) (by omega) (h.fr hN a2) a3
    refine ⟨M2, ?_, a2.tr b2, b3⟩
    unfold qod_fillBest_L64
    rw [nI_m1 (by omega), Nat.add_sub_cancel, if_neg (nI_lt0 (by omega))]
    refine Eq.trans a1 ?_
    rw [← Int32.sub_eq_add_neg]
    exact b1
theorem fB_L30 (hN : N ≤ 10) (hD : D ≤ 60) {K : Int32 → Int32 → SM → Option (Unit × SM)} : ∀ (n fu j : Nat) (M : SM), D + 1 - j = n → n < fu → j ≤ D + 1 → (∀ j', j' < j → M.2 (258 + N) j' = e1 (bP G N 0 j')) →
    ∃ M' : SM, qod_fillBest_L30 K fu (nI N) (nI D) (nI j) M = K (nI N) (nI D) M' ∧ oB M M' ∧ bS M' G N D N := by
  have kz := kz_bst N (by omega)
  intro n
  induction n with
  | zero =>
    intro fu j M e hfu hj hg
    obtain ⟨fu, rfl⟩ : ∃ y, fu = y + 1 := ⟨fu - 1, by omega⟩
    refine ⟨M, ?_, oB.rf M, fun r' j' h1 h2 h3 => ?_⟩
    · unfold qod_fillBest_L30
      rw [if_pos ((nI_ltI (by omega) (by omega)).mpr (by omega))]
    · obtain rfl : r' = N := by omega
      rw [Nat.sub_self]
      exact hg j' (by omega)
  | succ n ih =>
    intro fu j M e hfu hj hg
    obtain ⟨fu, rfl⟩ : ∃ y, fu = y + 1 := ⟨fu - 1, by omega⟩
    have o1 : oB M (wL M (258 + N) j (e1 (bP G N 0 j))) := ⟨rfl, fun c q => by funext i; rw [wL_2, if_neg (by omega)]⟩
    obtain ⟨M', z1, z2, z3⟩ := ih fu (j + 1) (wL M (258 + N) j (e1 (bP G N 0 j))) (by omega) (by omega) (by omega) (fun j' hj' => by
      rw [wL_2]
      by_cases q : j' = j
      · subst q; rw [if_pos ⟨rfl, rfl⟩]
      · rw [if_neg (by omega)]; exact hg j' (by omega))
    refine ⟨M', ?_, o1.tr z2, z3⟩
    unfold qod_fillBest_L30
    rw [if_neg (nI_nlt (by omega) (by omega)), ck_ib (by omega) (by omega), ck_t, nI_cl (n := N) (by omega), nI_cl (n := j) (by omega), nI_1]
    unfold bP at z1
    by_cases q : j = 0
    · rw [if_pos (show nI j = 0 by rw [q]; rfl), ck_av kz.1 (by omega) (by omega) (by omega), ck_t]
      rw [if_pos q] at z1
      exact z1
    · rw [if_neg (show ¬ nI j = 0 from fun z => q (nI_inj (b := 0) (by omega) (by omega) z)), ck_av kz.1 (by omega) (by omega) (by omega), ck_t]
      rw [if_neg q] at z1
      exact z1
theorem fillBest_g {M : SM} (h : bG M G N D) (hG : gB G N) (hN : N ≤ 10) (hD : D ≤ 60) : ∃ M' : SM, qod_fillBest M = some ((), M') ∧ oB M M' ∧ bS M' G N D 0 := by
  obtain ⟨M1, a1, a2, a3⟩ := fB_L30 (G := G) hN hD (K := fun y1_6 y2_7 M8 => qod_fillBest_L64 FU y2_7 (y1_6 - (1 : Int32)) M8) (D + 1) FU 0 M (by omega) (by unfold FU; omega) (by omega) (fun j' hj' => by omega)
  obtain ⟨M2, b1, b2, b3⟩ := fB_L64 hG hN hD N FU M1 (Nat.le_refl _) (by unfold FU; omega) (h.fr hN a2) a3
  refine ⟨M2, ?_, a2.tr b2, b3⟩
  unfold qod_fillBest
  rw [h.1, h.2.1, show imn (nI N) (10 : Int32) = nI N from if_neg (nI_nlt (b := N) (a := 10) (by omega) (by omega)), show imn (nI D) (60 : Int32) = nI D from if_neg (nI_nlt (b := D) (a := 60) (by omega) (by omega)), imx0 (by omega), imx0 (by omega)]
  exact a1.trans b1
theorem fewest_L10 {M : SM} (h : bG M G N D) (hG : gB G N) (hN : N ≤ 10) (hD : D ≤ 60) {r d : Nat} (hr : r < N) (hd : d ≤ D) (hs : bS M G N D (r + 1)) {k' : Nat} (hk' : k' < min 25 (d + 1)) (hh : plO (G r k') (bP G N (N - (r + 1)) (d - k')) = bP G N (N - r) d) : ∀ (n fu k : Nat), k ≤ k' → k' < k + n → n ≤ fu →
    qod_fewest_L10 fu (nI r) (nI d) (e1 (bP G N (N - r) d)) (nI k) M = some (nI (hF (fun k => plO (G r k) (bP G N (N - (r + 1)) (d - k))) (bP G N (N - r) d) n k), M) := by
  intro n
  induction n with
  | zero => intro fu k h1 h2; omega
  | succ n ih =>
    intro fu k h1 h2 hfu
    obtain ⟨fu, rfl⟩ : ∃ y, fu = y + 1 := ⟨fu - 1, by omega⟩
    unfold qod_fewest_L10 hF
    rw [if_neg (show ¬ (24 : Int32) < nI k from nI_nlt (a := 24) (by omega) (by omega)), if_neg (nI_nlt (by omega) (by omega)), gainWith_g h hG hN hD hr hd (by omega) (by omega) hs, ob_s, ic_eq]
    have e := e1_inj (pl_b hG hN (r := r) (d := d) (k := k) hr (by omega)) (bd_mono (bP_b hG hN (n := N - r) (d := d) (by omega)) (by omega))
    by_cases q : plO (G r k) (bP G N (N - (r + 1)) (d - k)) = bP G N (N - r) d
    · rw [if_pos (by rw [e]; exact q), if_pos q]
    · rw [if_neg (by rw [e]; exact q), if_neg q, nI_1]
      refine ih fu (k + 1) ?_ (by omega) (by omega)
      by_cases z : k = k'
      · subst z; exact absurd hh q
      · omega
theorem fewest_g {M : SM} (h : bG M G N D) (hG : gB G N) (hN : N ≤ 10) (hD : D ≤ 60) {r d : Nat} (hr : r < N) (hd : d ≤ D) (hs : bS M G N D r) {v : Int64} (hv : bP G N (N - r) d = some v) : qod_fewest (nI r) (nI d) M = some (nI (hTk G N r d), M) := by
  obtain ⟨k', h1, h2⟩ := hTk_hit hr hv
  unfold qod_fewest
  rw [bestAt_g h hN hD (by omega) hd hs, ob_s]
  exact fewest_L10 h hG hN hD hr hd (fun r' j a b c => hs r' j (by omega) b c) h1 h2 25 FU 0 (by omega) (by omega) (by unfold FU; omega)
end
