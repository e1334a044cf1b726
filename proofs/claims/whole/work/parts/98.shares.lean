/-! the class' shares -/
def oS (k : Nat) (M M' : SM) : Prop := (∀ c i, ¬ c = k → M'.1 c i = M.1 c i) ∧ M'.2 = M.2
theorem oS.rf (k : Nat) (M : SM) : oS k M M := ⟨fun _ _ _ => rfl, rfl⟩
theorem oS.tr {k : Nat} {M M' M'' : SM} (h : oS k M M') (h2 : oS k M' M'') : oS k M M'' := ⟨fun c i q => (h2.1 c i q).trans (h.1 c i q), h2.2.trans h.2⟩
theorem oS.wI {k : Nat} (M : SM) (i : Nat) (v : Int32) : oS k M (wI M k i v) := ⟨fun c i q => by rw [wI_1, if_neg (by omega)], rfl⟩
section
variable {G : Nat → Nat → Int64} {N D : Nat} {R : Nat → Nat}
theorem bG.fs {M M' : SM} (h : bG M G N D) (o : oS 269 M M') : bG M' G N D := ⟨by rw [o.1 244 7 (by omega)]; exact h.1, by rw [o.1 244 3 (by omega)]; exact h.2.1, fun i k hi hk => by rw [o.2]; exact h.2.2 i k hi hk⟩
theorem bS.fs {M M' : SM} {r : Nat} (h : bS M G N D r) (o : oS 269 M M') : bS M' G N D r := fun r' j a b c => by rw [o.2]; exact h r' j a b c
theorem sO_L2 {K : SM → Option (Unit × SM)} : ∀ (n fu k : Nat) (M : SM), 16 - k = n → n < fu → k ≤ 16 → (∀ i, i < k → M.1 269 i = 0) →
    ∃ M' : SM, qod_shareOut_L2 K fu (nI k) M = K M' ∧ oS 269 M M' ∧ ∀ i, i < 16 → M'.1 269 i = 0 := by
  intro n
  induction n with
  | zero =>
    intro fu k M e hfu hk hg
    obtain ⟨fu, rfl⟩ : ∃ y, fu = y + 1 := ⟨fu - 1, by omega⟩
    refine ⟨M, ?_, oS.rf _ M, fun i hi => hg i (by omega)⟩
    unfold qod_shareOut_L2
    rw [if_neg (show ¬ nI k < (16 : Int32) from nI_nlt (b := 16) (by omega) (by omega))]
  | succ n ih =>
    intro fu k M e hfu hk hg
    obtain ⟨fu, rfl⟩ : ∃ y, fu = y + 1 := ⟨fu - 1, by omega⟩
    obtain ⟨M', z1, z2, z3⟩ := ih fu (k + 1) (wI M 269 k (0 : Int32)) (by omega) (by omega) (by omega) (fun i hi => by
      rw [wI_1]
      by_cases q : i = k
      · subst q; rw [if_pos ⟨rfl, rfl⟩]
      · rw [if_neg (by omega)]; exact hg i (by omega))
    refine ⟨M', ?_, (oS.wI M k 0).tr z2, z3⟩
    unfold qod_shareOut_L2
    rw [if_pos (show nI k < (16 : Int32) from nI_lt (b := 16) (by omega) (by decide)), ck_ib (by omega) (by omega), ck_t, nI_cl (by omega), nI_1]
    exact z1
theorem sO_L31 (hG : gB G N) (hN : N ≤ 10) (hD : D ≤ 60) (hR : ∀ r, r < N → R r < 16) : ∀ (n fu r d : Nat) (s : Nat → Int32) (v : Int64) (M : SM), N - r = n → n < fu → r ≤ N → d ≤ D → bP G N (N - r) d = some v → bG M G N D → bS M G N D 0 → (∀ i, i < N → M.1 245 i = nI (R i)) → (∀ i, i < 16 → M.1 269 i = s i) →
    ∃ M' : SM, qod_shareOut_L31 fu (nI d) (nI r) M = some ((), M') ∧ oS 269 M M' ∧ ∀ i, i < 16 → M'.1 269 i = shM G N R (N - r) d s i := by
  intro n
  induction n with
  | zero =>
    intro fu r d s v M e hfu hr hd hv h hs hrow hg
    obtain ⟨fu, rfl⟩ : ∃ y, fu = y + 1 := ⟨fu - 1, by omega⟩
    refine ⟨M, ?_, oS.rf _ M, fun i hi => by rw [e]; exact hg i hi⟩
    unfold qod_shareOut_L31
    rw [h.1, if_neg (nI_nlt (by omega) (by omega))]
  | succ n ih =>
    intro fu r d s v M e hfu hr hd hv h hs hrow hg
    obtain ⟨fu, rfl⟩ : ∃ y, fu = y + 1 := ⟨fu - 1, by omega⟩
    have hr' : r < N := by omega
    obtain ⟨t1, t2, v', t3⟩ := hTk_ok hr' hv
    have hRr := hR r hr'
    have o1 : oS 269 M (wI M 269 (R r) (nI (hTk G N r d))) := oS.wI M _ _
    obtain ⟨M', z1, z2, z3⟩ := ih fu (r + 1) (d - hTk G N r d) (fun i => if i = R r then nI (hTk G N r d) else s i) v' (wI M 269 (R r) (nI (hTk G N r d))) (by omega) (by omega) (by omega) (by omega) t3 (h.fs o1) (hs.fs o1) (fun i hi => by rw [o1.1 245 i (by omega)]; exact hrow i hi) (fun i hi => by
      rw [wI_1]
      by_cases q : i = R r
      · rw [if_pos ⟨rfl, q⟩, if_pos q]
      · rw [if_neg (by omega), if_neg q]; exact hg i hi)
    refine ⟨M', ?_, o1.tr z2, fun i hi => by rw [z3 i hi, shM_r G hr']⟩
    unfold qod_shareOut_L31
    rw [h.1, if_pos ((nI_ltI (by omega) (by omega)).mpr hr'), if_pos (nl_10 (by omega)), fewest_g h hG hN hD hr' hd (fun r' j a b c => hs r' j (by omega) b c) hv, ob_s, ck_ib (by omega) (by omega), ck_t, nI_cl (n := r) (by omega), hrow r hr', if_neg (nI_lt0 (by omega)), if_pos (show nI (R r) < (16 : Int32) from nI_lt (b := 16) hRr (by decide)), ck_ib (by omega) (by omega), ck_t, nI_cl (by omega), nI_subN t2, nI_1]
    exact z1
theorem shareOut_g (hG : gB G N) (hN : N ≤ 10) (hD : D ≤ 60) (hR : ∀ r, r < N → R r < 16) {v : Int64} (hv : bP G N N D = some v) {M : SM} (h : bG M G N D) (hs : bS M G N D 0) (hrow : ∀ i, i < N → M.1 245 i = nI (R i)) :
    ∃ M' : SM, qod_shareOut M = some ((), M') ∧ oS 269 M M' ∧ ∀ i, i < 16 → M'.1 269 i = shM G N R N D (fun _ => 0) i := by
  obtain ⟨M1, a1, a2, a3⟩ := sO_L2 (K := fun M3 => qod_shareOut_L31 FU (M3.1 244 3) (0 : Int32) M3) 16 FU 0 M (by omega) (by unfold FU; omega) (by omega) (fun i hi => by omega)
  obtain ⟨M2, b1, b2, b3⟩ := sO_L31 hG hN hD hR N FU 0 D (fun _ => 0) v M1 (by omega) (by unfold FU; omega) (by omega) (Nat.le_refl _) hv (h.fs a2) (hs.fs a2) (fun i hi => by rw [a2.1 245 i (by omega)]; exact hrow i hi) a3
  refine ⟨M2, ?_, a2.tr b2, b3⟩
  unfold qod_shareOut
  refine Eq.trans a1 ?_
  rw [a2.1 244 3 (by omega), h.2.1]
  exact b1
/-- what the class finds -/
theorem findBest_g (hG : gB G N) (hN : N ≤ 10) (hD : D ≤ 60) (hR : ∀ r, r < N → R r < 16) {M : SM} (h : bG M G N D) (hrow : ∀ i, i < N → M.1 245 i = nI (R i)) :
    ∃ M' : SM, qod_findBest M = some (e1 (bP G N N D), M') ∧ (∀ c i, ¬ c = 269 → M'.1 c i = M.1 c i) ∧ (∀ c, ¬ (258 ≤ c ∧ c ≤ 268) → M'.2 c = M.2 c) ∧ (bP G N N D = none → M'.1 = M.1) ∧ (∀ v, bP G N N D = some v → ∀ i, i < 16 → M'.1 269 i = shM G N R N D (fun _ => 0) i) := by
  obtain ⟨M1, a1, a2, a3⟩ := fillBest_g h hG hN hD
  have h1 := h.fr hN a2
  have eb := bestAt_g h1 hN hD (r := 0) (d := D) (by omega) (Nat.le_refl _) a3
  rw [Nat.sub_zero] at eb
  have e := e1_inj (bd_mono (bP_b hG hN (n := N) (d := D) (Nat.le_refl _)) (by omega)) (show bd 200000000000 none from fun v hv => by cases hv)
  unfold qod_findBest
  rw [a1, ob_s, h1.2.1, show qod_bestAt (0 : Int32) (nI D) M1 = _ from eb, ob_s, ic_eq]
  cases hc : bP G N N D with
  | none =>
    exact ⟨M1, if_pos rfl, fun c i _ => by rw [a2.1], a2.2, fun _ => a2.1, fun v hv => by cases hv⟩
  | some v =>
    obtain ⟨M2, b1, b2, b3⟩ := shareOut_g hG hN hD hR hc h1 a3 (fun i hi => by rw [a2.1]; exact hrow i hi)
    rw [hc] at e
    have e' : (e1 (some v) = -1000000000000) = (some v = none) := e
    refine ⟨M2, ?_, fun c i q => by rw [b2.1 c i q, a2.1], fun c q => by rw [b2.2]; exact a2.2 c q, fun z => (by cases z), fun v hv => b3⟩
    rw [if_neg (fun q => by rw [e'] at q; cases q), b1, ob_s]
end
