/-! how the reference finds the best spread -/
def rG (M : SM) (G : Nat → Nat → Int64) (N : Nat) : Prop := M.1 280 75 = nI N ∧ ∀ i k, i < N → k < 25 → M.2 328 (25 * i + k) = G i k
def rBst (M : SM) (G : Nat → Nat → Int64) (N D r : Nat) : Prop := ∀ r' j, r ≤ r' → r' ≤ N → j ≤ D → M.2 329 (61 * r' + j) = e2 (bP G N (N - r') j)
def oT (M M' : SM) : Prop := M'.1 = M.1 ∧ ∀ c, ¬ c = 329 → M'.2 c = M.2 c
theorem oT.rf (M : SM) : oT M M := ⟨rfl, fun _ _ => rfl⟩
theorem oT.tr {M M' M'' : SM} (h : oT M M') (h2 : oT M' M'') : oT M M'' := ⟨h2.1.trans h.1, fun c q => (h2.2 c q).trans (h.2 c q)⟩
section
variable {G : Nat → Nat → Int64} {N D : Nat} {R : Nat → Nat}
theorem rG.fr {M M' : SM} (h : rG M G N) (o : oT M M') : rG M' G N := ⟨by rw [o.1]; exact h.1, fun i k hi hk => by rw [o.2 _ (by omega)]; exact h.2 i k hi hk⟩
theorem bO_L7 {M : SM} (h : rG M G N) (hG : gB G N) (hN : N ≤ 10) (hD : D ≤ 60) {r j : Nat} (hr : r < N) (hj : j ≤ D) (hs : rBst M G N D (r + 1)) : ∀ (n fu k : Nat), min 25 (j + 1) - k = n → n < fu → k ≤ min 25 (j + 1) →
    qmd_bestOf_L7 fu (nI r) (nI j) (e2 (acO (fun k => plO (G r k) (bP G N (N - (r + 1)) (j - k))) k)) (nI k) M = some (e2 (bP G N (N - r) j), M) := by
  intro n
  induction n with
  | zero =>
    intro fu k e hfu hk
    obtain ⟨fu, rfl⟩ : ∃ y, fu = y + 1 := ⟨fu - 1, by omega⟩
    obtain rfl : k = min 25 (j + 1) := by omega
    unfold qmd_bestOf_L7
    rw [← bP_r hr]
    by_cases q : j < 24
    · rw [if_neg (show ¬ (24 : Int32) < nI (min 25 (j + 1)) from nI_nlt (a := 24) (by omega) (by omega)), if_pos ((nI_ltI (by omega) (by omega)).mpr (by omega))]
    · rw [if_pos (show (24 : Int32) < nI (min 25 (j + 1)) from (nI_ltI (a := 24) (by omega) (by omega)).mpr (by omega))]
  | succ n ih =>
    intro fu k e hfu hk
    obtain ⟨fu, rfl⟩ : ∃ y, fu = y + 1 := ⟨fu - 1, by omega⟩
    unfold qmd_bestOf_L7
    have hb := bP_b hG hN (n := N - (r + 1)) (d := j - k) (by omega)
    have ez := e2_none (bd_mono hb (show (100000000000 : Int) ≤ 200000000000 by omega))
    rw [if_neg (show ¬ (24 : Int32) < nI k from nI_nlt (a := 24) (by omega) (by omega)), if_neg (nI_nlt (by omega) (by omega)), nI_1, show (61 : Int32) = nI 61 from rfl, nI_mul, nI_add, nI_subN (by omega), ck_ib (by omega) (by omega), ck_t, nI_cl (by omega), ltt_s, show 61 * (r + 1) + j - k = 61 * (r + 1) + (j - k) by omega, hs (r + 1) (j - k) (Nat.le_refl _) (by omega) (by omega), ic_eq]
    have hnext := ih fu (k + 1) (by omega) (by omega) (by omega)
    have ha : bd 200000000000 (acO (fun k => plO (G r k) (bP G N (N - (r + 1)) (j - k))) k) := bd_ac fun k' hk' => pl_b hG hN hr (by omega)
    have hp := pl_b hG hN (r := r) (d := j) (k := k) hr (by omega)
    have hstep : acO (fun k => plO (G r k) (bP G N (N - (r + 1)) (j - k))) (k + 1) = mxO (acO (fun k => plO (G r k) (bP G N (N - (r + 1)) (j - k))) k) (plO (G r k) (bP G N (N - (r + 1)) (j - k))) := rfl
    rw [hstep] at hnext
    generalize acO (fun k => plO (G r k) (bP G N (N - (r + 1)) (j - k))) k = A at *
    cases hc : bP G N (N - (r + 1)) (j - k) with
    | none =>
      rw [hc] at hnext
      rw [if_pos (show e2 none = -1000000000000000 from rfl), nI_1]
      rw [show plO (G r k) none = none from rfl, mxO_n] at hnext
      exact hnext
    | some v =>
      rw [hc] at hnext hp ez
      rw [if_neg (fun z => by rw [ez] at z; cases z), show (25 : Int32) = nI 25 from rfl, nI_mul, nI_add, ck_ib (by omega) (by omega), ck_t, nI_cl (by omega), h.2 r k hr (by omega), ltt_s, ic_gt, nI_1]
      rw [show plO (G r k) (some v) = some (G r k + v) from rfl] at hnext hp
      rw [← e2_mx ha hp] at hnext
      show (if e2 A < G r k + v then _ else _) = _
      by_cases q : e2 A < G r k + v
      · rw [if_pos q] at hnext ⊢
        exact hnext
      · rw [if_neg q] at hnext ⊢
        exact hnext
theorem bestOf_g {M : SM} (h : rG M G N) (hG : gB G N) (hN : N ≤ 10) (hD : D ≤ 60) {r j : Nat} (hr : r < N) (hj : j ≤ D) (hs : rBst M G N D (r + 1)) : qmd_bestOf (nI r) (nI j) M = some (e2 (bP G N (N - r) j), M) :=
  bO_L7 h hG hN hD hr hj hs (min 25 (j + 1)) FU 0 (by omega) (by unfold FU; omega) (by omega)
theorem sp_L182 (hG : gB G N) (hN : N ≤ 10) (hD : D ≤ 60) {r : Nat} (hr : r < N) {K : Int32 → Int32 → SM → Option (Int64 × SM)} : ∀ (n fu j : Nat) (M : SM), D + 1 - j = n → n < fu → j ≤ D + 1 → rG M G N → rBst M G N D (r + 1) → (∀ j', j' < j → M.2 329 (61 * r + j') = e2 (bP G N (N - r) j')) →
    ∃ M' : SM, qmd_spread_L182 K fu (nI D) (nI r) (nI j) M = K (nI D) (nI r) M' ∧ oT M M' ∧ rBst M' G N D r := by
  intro n
  induction n with
  | zero =>
    intro fu j M e hfu hj h hs hg
    obtain ⟨fu, rfl⟩ : ∃ y, fu = y + 1 := ⟨fu - 1, by omega⟩
    refine ⟨M, ?_, oT.rf M, fun r' j' h1 h2 h3 => ?_⟩
    · unfold qmd_spread_L182
      rw [if_pos ((nI_ltI (by omega) (by omega)).mpr (by omega))]
    · by_cases q : r' = r
      · subst q; exact hg j' (by omega)
      · exact hs r' j' (by omega) h2 h3
  | succ n ih =>
    intro fu j M e hfu hj h hs hg
    obtain ⟨fu, rfl⟩ : ∃ y, fu = y + 1 := ⟨fu - 1, by omega⟩
    have o1 : oT M (wL M 329 (61 * r + j) (e2 (bP G N (N - r) j))) := ⟨rfl, fun c q => by funext i; rw [wL_2, if_neg (by omega)]⟩
    obtain ⟨M', z1, z2, z3⟩ := ih fu (j + 1) (wL M 329 (61 * r + j) (e2 (bP G N (N - r) j))) (by omega) (by omega) (by omega) (h.fr o1) (fun r' j' h1 h2 h3 => by rw [wL_2, if_neg (by omega)]; exact hs r' j' h1 h2 h3) (fun j' hj' => by
      rw [wL_2]
      by_cases q : j' = j
      · subst q; rw [if_pos ⟨rfl, rfl⟩]
      · rw [if_neg (by omega)]; exact hg j' (by omega))
    refine ⟨M', ?_, o1.tr z2, z3⟩
    unfold qmd_spread_L182
    rw [if_neg (nI_nlt (by omega) (by omega)), bestOf_g h hG hN hD hr (by omega) hs, ob_s, show (61 : Int32) = nI 61 from rfl, nI_mul, nI_add, ck_ib (by omega) (by omega), ck_t, nI_cl (by omega), nI_1]
    exact z1
theorem sp_L174 (hG : gB G N) (hN : N ≤ 10) (hD : D ≤ 60) {K : Int32 → SM → Option (Int64 × SM)} : ∀ (n fu : Nat) (M : SM), n ≤ N → n < fu → rG M G N → rBst M G N D n →
    ∃ M' : SM, qmd_spread_L174 K fu (nI D) (nI n - 1) M = K (nI D) M' ∧ oT M M' ∧ rBst M' G N D 0 := by
  intro n
  induction n with
  | zero =>
    intro fu M hn hfu h hs
    obtain ⟨fu, rfl⟩ : ∃ y, fu = y + 1 := ⟨fu - 1, by omega⟩
    refine ⟨M, ?_, oT.rf M, hs⟩
    unfold qmd_spread_L174
    rw [if_pos (show nI 0 - 1 < 0 by decide)]
  | succ n ih =>
    intro fu M hn hfu h hs
    obtain ⟨fu, rfl⟩ : ∃ y, fu = y + 1 := ⟨fu - 1, by omega⟩
    obtain ⟨M1, a1, a2, a3⟩ := sp_L182 hG hN hD (r := n) (by omega) (K := fun y3_33 y7_34 M35 => qmd_spread_L174 K fu y3_33 (y7_34 + (-1 : Int32)) M35) (D + 1) FU 0 M (by omega) (by unfold FU; omega) (by omega) h hs (fun j' hj' => by omega)
    obtain ⟨M2, b1, b2, b3⟩ := ih fu M1 (by omega) (by omega) (h.fr a2) a3
    refine ⟨M2, ?_, a2.tr b2, b3⟩
    unfold qmd_spread_L174
    rw [nI_m1 (by omega), Nat.add_sub_cancel, if_neg (nI_lt0 (by omega))]
    refine Eq.trans a1 ?_
    rw [← Int32.sub_eq_add_neg]
    exact b1
theorem sp_L126 (hN : N ≤ 10) {K : Int32 → SM → Option (Int64 × SM)} : ∀ (n fu j : Nat) (M : SM), 61 - j = n → n < fu → j ≤ 61 → rG M G N → (∀ j', j' < j → M.2 329 (61 * N + j') = e2 (bP G N 0 j')) →
    ∃ M' : SM, qmd_spread_L126 K fu (nI D) (nI j) M = K (nI D) M' ∧ oT M M' ∧ rBst M' G N 60 N := by
  intro n
  induction n with
  | zero =>
    intro fu j M e hfu hj h hg
    obtain ⟨fu, rfl⟩ : ∃ y, fu = y + 1 := ⟨fu - 1, by omega⟩
    refine ⟨M, ?_, oT.rf M, fun r' j' h1 h2 h3 => ?_⟩
    · unfold qmd_spread_L126
      rw [if_pos (show (60 : Int32) < nI j from (nI_ltI (a := 60) (by omega) (by omega)).mpr (by omega))]
    · obtain rfl : r' = N := by omega
      rw [Nat.sub_self]
      exact hg j' (by omega)
  | succ n ih =>
    intro fu j M e hfu hj h hg
    obtain ⟨fu, rfl⟩ : ∃ y, fu = y + 1 := ⟨fu - 1, by omega⟩
    have o1 : oT M (wL M 329 (61 * N + j) (e2 (bP G N 0 j))) := ⟨rfl, fun c q => by funext i; rw [wL_2, if_neg (by omega)]⟩
    obtain ⟨M', z1, z2, z3⟩ := ih fu (j + 1) (wL M 329 (61 * N + j) (e2 (bP G N 0 j))) (by omega) (by omega) (by omega) (h.fr o1) (fun j' hj' => by
      rw [wL_2]
      by_cases q : j' = j
      · subst q; rw [if_pos ⟨rfl, rfl⟩]
      · rw [if_neg (by omega)]; exact hg j' (by omega))
    refine ⟨M', ?_, o1.tr z2, z3⟩
    unfold qmd_spread_L126
    rw [if_neg (show ¬ (60 : Int32) < nI j from nI_nlt (a := 60) (by omega) (by omega)), h.1]
    unfold bP at z1
    by_cases q : j = 0
    · rw [if_pos (show nI j = 0 by rw [q]; rfl), show (61 : Int32) = nI 61 from rfl, nI_mul, nI_add, ck_ib (by omega) (by omega), ck_t, nI_cl (by omega), nI_1]
      rw [if_pos q] at z1
      exact z1
    · rw [if_neg (show ¬ nI j = 0 from fun z => q (nI_inj (b := 0) (by omega) (by omega) z)), show (61 : Int32) = nI 61 from rfl, nI_mul, nI_add, ck_ib (by omega) (by omega), ck_t, nI_cl (by omega), nI_1]
      rw [if_neg q] at z1
      exact z1
/-! its shares -/
theorem rG.fs {M M' : SM} (h : rG M G N) (o : oS 327 M M') : rG M' G N := ⟨by rw [o.1 280 75 (by omega)]; exact h.1, fun i k hi hk => by rw [o.2]; exact h.2 i k hi hk⟩
theorem rBst.fs {M M' : SM} {r : Nat} (h : rBst M G N D r) (o : oS 327 M M') : rBst M' G N D r := fun r' j a b c => by rw [o.2]; exact h r' j a b c
theorem sp_L224 {K : Int32 → SM → Option (Int64 × SM)} : ∀ (n fu k : Nat) (M : SM), 16 - k = n → n < fu → k ≤ 16 → (∀ i, i < k → M.1 327 i = 0) →
    ∃ M' : SM, qmd_spread_L224 K fu (nI D) (nI k) M = K (nI D) M' ∧ oS 327 M M' ∧ ∀ i, i < 16 → M'.1 327 i = 0 := by
  intro n
  induction n with
  | zero =>
    intro fu k M e hfu hk hg
    obtain ⟨fu, rfl⟩ : ∃ y, fu = y + 1 := ⟨fu - 1, by omega⟩
    refine ⟨M, ?_, oS.rf _ M, fun i hi => hg i (by omega)⟩
    unfold qmd_spread_L224
    rw [if_neg (show ¬ nI k < (16 : Int32) from nI_nlt (b := 16) (by omega) (by omega))]
  | succ n ih =>
    intro fu k M e hfu hk hg
    obtain ⟨fu, rfl⟩ : ∃ y, fu = y + 1 := ⟨fu - 1, by omega⟩
    obtain ⟨M', z1, z2, z3⟩ := ih fu (k + 1) (wI M 327 k (0 : Int32)) (by omega) (by omega) (by omega) (fun i hi => by
      rw [wI_1]
      by_cases q : i = k
      · subst q; rw [if_pos ⟨rfl, rfl⟩]
      · rw [if_neg (by omega)]; exact hg i (by omega))
    refine ⟨M', ?_, (oS.wI M k 0).tr z2, z3⟩
    unfold qmd_spread_L224
    rw [if_pos (show nI k < (16 : Int32) from nI_lt (b := 16) (by omega) (by decide)), ck_ib (by omega) (by omega), ck_t, nI_cl (by omega), nI_1]
    exact z1
theorem sp_L263 {M : SM} (h : rG M G N) (hG : gB G N) (hN : N ≤ 10) (hD : D ≤ 60) {r d : Nat} (hr : r < N) (hd : d ≤ D) (hs : rBst M G N D r) {v : Int64} (hv : bP G N (N - r) d = some v) {X : Int32} {K : Int32 → Int32 → Int32 → Int32 → SM → Option (Int64 × SM)} {k' : Nat} (hk' : k' < min 25 (d + 1)) (hh : plO (G r k') (bP G N (N - (r + 1)) (d - k')) = bP G N (N - r) d) : ∀ (n fu k : Nat), k ≤ k' → k' < k + n → n ≤ fu →
    qmd_spread_L263 K fu X (nI d) (nI r) (nI k) M = K X (nI d) (nI r) (nI (hF (fun k => plO (G r k) (bP G N (N - (r + 1)) (d - k))) (bP G N (N - r) d) n k)) M := by
  intro n
  induction n with
  | zero => intro fu k h1 h2; omega
  | succ n ih =>
    intro fu k h1 h2 hfu
    obtain ⟨fu, rfl⟩ : ∃ y, fu = y + 1 := ⟨fu - 1, by omega⟩
    unfold qmd_spread_L263 hF
    rw [nI_1, show (25 : Int32) = nI 25 from rfl, show (61 : Int32) = nI 61 from rfl, nI_mul, nI_mul, nI_mul, nI_add, nI_add, nI_add, nI_subN (by omega), ck_ib (by omega) (by omega), ck_ib (by omega) (by omega), ck_ib (by omega) (by omega), ck_t, nI_cl (by omega), nI_cl (by omega), nI_cl (by omega), h.2 r k hr (by omega), show 61 * (r + 1) + d - k = 61 * (r + 1) + (d - k) by omega, hs (r + 1) (d - k) (by omega) (by omega) (by omega), hs r d (Nat.le_refl _) (by omega) hd, ic_eq]
    have hb := bP_b hG hN (n := N - (r + 1)) (d := d - k) (by omega)
    have hv' := bP_b hG hN (n := N - r) (d := d) (by omega) v hv
    have hg := hG r k hr (by omega)
    have key : (G r k + e2 (bP G N (N - (r + 1)) (d - k)) = e2 (bP G N (N - r) d)) = (plO (G r k) (bP G N (N - (r + 1)) (d - k)) = bP G N (N - r) d) := by
      rw [hv]
      cases hc : bP G N (N - (r + 1)) (d - k) with
      | none =>
        refine propext ⟨fun z => ?_, fun z => by cases z⟩
        have z2 : G r k + (-1000000000000000 : Int64) = v := z
        have z3 := i64_add (x := G r k) (y := (-1000000000000000 : Int64)) (by omega) (by rw [show (-1000000000000000 : Int64).toInt = -1000000000000000 from rfl]; omega)
        rw [z2, show (-1000000000000000 : Int64).toInt = -1000000000000000 from rfl] at z3
        omega
      | some u => exact propext ⟨fun z => congrArg some z, fun z => by injection z⟩
    by_cases q : plO (G r k) (bP G N (N - (r + 1)) (d - k)) = bP G N (N - r) d
    · rw [if_pos (by rw [key]; exact q), if_pos q]
    · rw [if_neg (by rw [key]; exact q), if_neg q, nI_1]
      refine ih fu (k + 1) ?_ (by omega) (by omega)
      by_cases z : k = k'
      · subst z; exact absurd hh q
      · omega
theorem sp_L251 (hG : gB G N) (hN : N ≤ 10) (hD : D ≤ 60) (hR : ∀ r, r < N → R r < 16) : ∀ (n fu r d : Nat) (s : Nat → Int32) (v : Int64) (M : SM), N - r = n → n < fu → r ≤ N → d ≤ D → bP G N (N - r) d = some v → rG M G N → rBst M G N D 0 → (∀ i, i < N → M.1 326 i = nI (R i)) → (∀ i, i < 16 → M.1 327 i = s i) →
    ∃ M' : SM, qmd_spread_L251 fu (nI D) (nI d) (nI r) M = some (e2 (bP G N N D), M') ∧ oS 327 M M' ∧ ∀ i, i < 16 → M'.1 327 i = shM G N R (N - r) d s i := by
  intro n
  induction n with
  | zero =>
    intro fu r d s v M e hfu hr hd hv h hs hrow hg
    obtain ⟨fu, rfl⟩ : ∃ y, fu = y + 1 := ⟨fu - 1, by omega⟩
    refine ⟨M, ?_, oS.rf _ M, fun i hi => by rw [e]; exact hg i hi⟩
    have := hs 0 D (Nat.le_refl _) (by omega) (Nat.le_refl _)
    rw [Nat.mul_zero, Nat.zero_add, Nat.sub_zero] at this
    unfold qmd_spread_L251
    rw [h.1, if_neg (nI_nlt (by omega) (by omega)), ck_ib (by omega) (by omega), ck_t, nI_cl (by omega), this]
  | succ n ih =>
    intro fu r d s v M e hfu hr hd hv h hs hrow hg
    obtain ⟨fu, rfl⟩ : ∃ y, fu = y + 1 := ⟨fu - 1, by omega⟩
    have hr' : r < N := by omega
    obtain ⟨t1, t2, v', t3⟩ := hTk_ok hr' hv
    obtain ⟨k', q1, q2⟩ := hTk_hit hr' hv
    have hRr := hR r hr'
    have o1 : oS 327 M (wI M 327 (R r) (nI (hTk G N r d))) := oS.wI M _ _
    obtain ⟨M', z1, z2, z3⟩ := ih fu (r + 1) (d - hTk G N r d) (fun i => if i = R r then nI (hTk G N r d) else s i) v' (wI M 327 (R r) (nI (hTk G N r d))) (by omega) (by omega) (by omega) (by omega) t3 (h.fs o1) (hs.fs o1) (fun i hi => by rw [o1.1 326 i (by omega)]; exact hrow i hi) (fun i hi => by
      rw [wI_1]
      by_cases q : i = R r
      · rw [if_pos ⟨rfl, q⟩, if_pos q]
      · rw [if_neg (by omega), if_neg q]; exact hg i hi)
    refine ⟨M', ?_, o1.tr z2, fun i hi => by rw [z3 i hi, shM_r G hr']⟩
    have hL := sp_L263 h hG hN hD hr' hd (fun r' j a b c => hs r' j (by omega) b c) hv (X := nI D) (K := fun y3_45 y7_46 y8_47 y9_48 M49 =>
      ck (ib 10 y8_47 && (ib 16 (M49.1 326 (Int32.toNatClampNeg y8_47)) && true)) (
        qmd_spread_L251 fu y3_45 (y7_46 - y9_48) (y8_47 + (1 : Int32)) (wI M49 327 (Int32.toNatClampNeg (M49.1 326 (Int32.toNatClampNeg y8_47))) y9_48))) q1 q2 25 FU 0 (by omega) (by omega) (by unfold FU; omega)
    unfold qmd_spread_L251
    rw [h.1, if_pos ((nI_ltI (by omega) (by omega)).mpr hr')]
    refine Eq.trans hL ?_
    rw [show hF (fun k => plO (G r k) (bP G N (N - (r + 1)) (d - k))) (bP G N (N - r) d) 25 0 = hTk G N r d from rfl, ck_ib (by omega) (by omega), nI_cl (n := r) (by omega), hrow r hr', ck_ib (by omega) (by omega), ck_t, nI_cl (by omega), nI_subN t2, nI_1]
    exact z1
end
