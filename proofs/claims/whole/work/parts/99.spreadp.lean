section
variable {M : SM} {V : Nat → FA → LE} {B : Nat → FA → LE → Int64}
def oWc (M : SM) (x1 x2 x3 x4 x5 x6 : Int32) : SM := wI (wI (wI (wI (wI (wI (wI M 244 0 (1 : Int32)) 244 1 x1) 244 2 x2) 244 3 x3) 244 4 x4) 244 5 x5) 244 6 x6
def oWm (M : SM) (x1 x2 x3 x4 x5 x6 : Int32) : SM := wI (wI (wI (wI (wI (wI (wI M 280 68 (1 : Int32)) 280 69 x1) 280 70 x2) 280 71 x3) 280 72 x4) 280 73 x5) 280 74 x6
theorem oWc_1 (M : SM) (x1 x2 x3 x4 x5 x6 : Int32) (c i : Nat) : (oWc M x1 x2 x3 x4 x5 x6).1 c i = if c = 244 ∧ i = 6 then x6 else if c = 244 ∧ i = 5 then x5 else if c = 244 ∧ i = 4 then x4 else if c = 244 ∧ i = 3 then x3 else if c = 244 ∧ i = 2 then x2 else if c = 244 ∧ i = 1 then x1 else if c = 244 ∧ i = 0 then 1 else M.1 c i := by
  unfold oWc
  rw [wI_1, wI_1, wI_1, wI_1, wI_1, wI_1, wI_1]
theorem oWm_1 (M : SM) (x1 x2 x3 x4 x5 x6 : Int32) (c i : Nat) : (oWm M x1 x2 x3 x4 x5 x6).1 c i = if c = 280 ∧ i = 74 then x6 else if c = 280 ∧ i = 73 then x5 else if c = 280 ∧ i = 72 then x4 else if c = 280 ∧ i = 71 then x3 else if c = 280 ∧ i = 70 then x2 else if c = 280 ∧ i = 69 then x1 else if c = 280 ∧ i = 68 then 1 else M.1 c i := by
  unfold oWm
  rw [wI_1, wI_1, wI_1, wI_1, wI_1, wI_1, wI_1]
theorem spread_p (ht : I_tn M) (he : I_en M) (hu : I_us M) (hp : PR M V B) (ho : I_or M) (x1 x2 x3 x4 x5 x6 : Int32) : Pr M (qfr_spread x1 x2 x3 x4 x5 x6) (qmd_spread x1 x2 x3 x4 x5 x6) (fun M2 => I_or M2 ∧ Ov sOr sOrL M M2) := by
  have fs := ht.fs
  have am := ht.ms
  have no : qfr_spread x1 x2 x3 x4 x5 x6 M = some (-1000000000000, M) → qmd_spread x1 x2 x3 x4 x5 x6 M = some (-1000000000000, M) → Pr M (qfr_spread x1 x2 x3 x4 x5 x6) (qmd_spread x1 x2 x3 x4 x5 x6) (fun M2 => I_or M2 ∧ Ov sOr sOrL M M2) := fun e1 e2 => Pr.mk e1 e2 ⟨ho, Ov.rf _ _ _⟩
  rcases ix x1 (msM M) (by omega) with ⟨m, hm, rfl⟩ | hb
  rotate_left
  · exact no (by unfold qfr_spread; rw [hasMaster_b ht hb, ob_s, if_pos rfl]) (by unfold qmd_spread; rw [md_isMaster_rb am.2.2 hb, ob_s, if_pos rfl])
  have hM1 : ∀ M', M'.1 280 1 = M.1 280 1 → qmd_isMaster (nI m) M' = some (1, M') := fun M' e => md_isMaster_rg (e.trans am.2.2) (by omega) hm
  rcases rg x2 0 9 0 9 rfl rfl with ⟨sh, -, s2, rfl, s3, s4⟩ | hb
  rotate_left
  · exact no (by unfold qfr_spread; rw [hasMaster_g ht hm, ob_s, if_neg (by decide), within_f hb, ob_s, if_pos rfl]) (by unfold qmd_spread; rw [hM1 M rfl, ob_s, if_neg (by decide), md_in_f hb, ob_s, if_pos rfl])
  rcases rg x3 0 60 0 60 rfl rfl with ⟨dz, -, d2, rfl, d3, d4⟩ | hb
  rotate_left
  · exact no (by unfold qfr_spread; rw [hasMaster_g ht hm, ob_s, if_neg (by decide), within_t s3 s4, ob_s, if_neg (by decide), within_f hb, ob_s, if_pos rfl]) (by unfold qmd_spread; rw [hM1 M rfl, ob_s, if_neg (by decide), md_in_t s3 s4, ob_s, if_neg (by decide), md_in_f hb, ob_s, if_pos rfl])
  rcases rg x4 0 40 0 40 rfl rfl with ⟨nr, -, n2, rfl, n3, n4⟩ | hb
  rotate_left
  · exact no (by unfold qfr_spread; rw [hasMaster_g ht hm, ob_s, if_neg (by decide), within_t s3 s4, ob_s, if_neg (by decide), within_t d3 d4, ob_s, if_neg (by decide), within_f hb, ob_s, if_pos rfl]) (by unfold qmd_spread; rw [hM1 M rfl, ob_s, if_neg (by decide), md_in_t s3 s4, ob_s, if_neg (by decide), md_in_t d3 d4, ob_s, if_neg (by decide), md_in_f hb, ob_s, if_pos rfl])
  rcases rg x5 0 99 0 99 rfl rfl with ⟨yn, -, y2, rfl, y3, y4⟩ | hb
  rotate_left
  · exact no (by unfold qfr_spread; rw [hasMaster_g ht hm, ob_s, if_neg (by decide), within_t s3 s4, ob_s, if_neg (by decide), within_t d3 d4, ob_s, if_neg (by decide), within_t n3 n4, ob_s, if_neg (by decide), within_f hb, ob_s, if_pos rfl]) (by unfold qmd_spread; rw [hM1 M rfl, ob_s, if_neg (by decide), md_in_t s3 s4, ob_s, if_neg (by decide), md_in_t d3 d4, ob_s, if_neg (by decide), md_in_t n3 n4, ob_s, if_neg (by decide), md_in_f hb, ob_s, if_pos rfl])
  rcases rg x6 0 100000 0 100000 rfl rfl with ⟨pr, -, p2, rfl, p3, p4⟩ | hb
  rotate_left
  · exact no (by unfold qfr_spread; rw [hasMaster_g ht hm, ob_s, if_neg (by decide), within_t s3 s4, ob_s, if_neg (by decide), within_t d3 d4, ob_s, if_neg (by decide), within_t n3 n4, ob_s, if_neg (by decide), within_t y3 y4, ob_s, if_neg (by decide), within_f hb, ob_s, if_pos rfl]) (by unfold qmd_spread; rw [hM1 M rfl, ob_s, if_neg (by decide), md_in_t s3 s4, ob_s, if_neg (by decide), md_in_t d3 d4, ob_s, if_neg (by decide), md_in_t n3 n4, ob_s, if_neg (by decide), md_in_t y3 y4, ob_s, if_neg (by decide), md_in_f hb, ob_s, if_pos rfl])
  -- the class' run
  have ga := oWc_1 M (nI m) (nI sh) (nI dz) (nI nr) (nI yn) (nI pr)
  have ga2 : (oWc M (nI m) (nI sh) (nI dz) (nI nr) (nI yn) (nI pr)).2 = M.2 := rfl
  have runC : ∀ r Mz, ob (qfr_fillGains (oWc M (nI m) (nI sh) (nI dz) (nI nr) (nI yn) (nI pr))) (fun _ M19 => ob (qod_findBest M19) (fun r22 M23 => some (r22, M23))) = some (r, Mz) → qfr_spread (nI m) (nI sh) (nI dz) (nI nr) (nI yn) (nI pr) M = some (r, Mz) := fun r Mz e => by
    unfold qfr_spread
    rw [hasMaster_g ht hm, ob_s, if_neg (by decide), within_t s3 s4, ob_s, if_neg (by decide), within_t d3 d4, ob_s, if_neg (by decide), within_t n3 n4, ob_s, if_neg (by decide), within_t y3 y4, ob_s, if_neg (by decide), within_t p3 p4, ob_s, if_neg (by decide)]
    exact e
  generalize oWc M (nI m) (nI sh) (nI dz) (nI nr) (nI yn) (nI pr) = Ma at ga ga2 runC
  have oa : ∀ c i, ¬ (c = 244 ∧ i ≤ 6) → Ma.1 c i = M.1 c i := fun c i q => by
    rw [ga, if_neg (by omega), if_neg (by omega), if_neg (by omega), if_neg (by omega), if_neg (by omega), if_neg (by omega), if_neg (by omega)]
  obtain ⟨M1, a1, a2, a3, a4⟩ := fillOr_g ht he hu hp (Ma := Ma) (m := m) (sh := sh) (dz := dz) (nr := nr) (yn := yn) (pr := pr) (fun c i q => oa c i (by unfold sTn at q; omega)) (fun c i q => oa c i (by unfold sEn at q; omega)) (fun c i q => oa c i (by unfold sPr at q; omega)) (fun c i q => oa c i (by unfold sUs at q; omega)) hm (by rw [ga]; simp) (by rw [ga]; simp) (by rw [ga]; simp) (by rw [ga]; simp) (by rw [ga]; simp) (by rw [ga]; simp)
  have hN : nOr M m ≤ 10 := (roN_10 M (nI m) (nwM M) (frM M)).1
  have hG := gOr_B (M := M) (V := V) (B := B) m sh nr yn p2 (nOr M m)
  have hR : ∀ r, r < nOr M m → Rw (roN M (nI m) (nwM M) (frM M)) r < 16 := fun r hr => by have := Rw_ok ht hr; omega
  generalize hGe : gOr M V B m sh nr yn pr = G at a3 hG
  obtain ⟨M2, b1, b2, b3, b4, b5⟩ := findBest_g (R := Rw (roN M (nI m) (nwM M) (frM M))) hG hN d2 hR a3 a4
  have oc : ∀ c i, ¬ ((c = 12 ∧ i = 8) ∨ (c = 244 ∧ i ≤ 7) ∨ c = 245 ∨ c = 269) → M2.1 c i = M.1 c i := fun c i q => by
    rw [b2 c i (by omega), a2.1 c i (by omega), oa c i (by omega)]
  have ol : ∀ c, ¬ ((175 ≤ c ∧ c ≤ 178) ∨ (247 ≤ c ∧ c ≤ 268)) → M2.2 c = M.2 c := fun c q => by
    rw [b3 c (by omega), a2.2 c (by omega), ga2]
  have h244 : ∀ i, i ≤ 6 → M2.1 244 i = Ma.1 244 i := fun i hi => by rw [b2 244 i (by omega), a2.1 244 i (by omega)]
  have cC := runC (e1 (bP G (nOr M m) (nOr M m) dz)) M2 (by rw [a1, ob_s, b1, ob_s])
  -- the reference's run
  have gb := oWm_1 M2 (nI m) (nI sh) (nI dz) (nI nr) (nI yn) (nI pr)
  have gb2 : (oWm M2 (nI m) (nI sh) (nI dz) (nI nr) (nI yn) (nI pr)).2 = M2.2 := rfl
  have runM : ∀ r Mz, ob (qmd_weighs (oWm M2 (nI m) (nI sh) (nI dz) (nI nr) (nI yn) (nI pr))) (fun _ M19 =>
              if ((24 : Int32) * (M19.1 280 75)) < nI dz then
              (some ((-1000000000000 : Int64), M19)) else
              (qmd_spread_L126 (fun y3_26 M27 =>
                qmd_spread_L174 (fun y3_37 M38 =>
                  qmd_spread_L224 (fun y3_41 M42 =>
                    qmd_spread_L251 FU y3_41 y3_41 (0 : Int32) M42) FU y3_37 (0 : Int32) M38) FU y3_26 ((M27.1 280 75) - (1 : Int32)) M27) FU (nI dz) (0 : Int32) M19)) = some (r, Mz) → qmd_spread (nI m) (nI sh) (nI dz) (nI nr) (nI yn) (nI pr) M2 = some (r, Mz) := fun r Mz e => by
    unfold qmd_spread
    rw [hM1 M2 (oc 280 1 (by omega)), ob_s, if_neg (by decide), md_in_t s3 s4, ob_s, if_neg (by decide), md_in_t d3 d4, ob_s, if_neg (by decide), md_in_t n3 n4, ob_s, if_neg (by decide), md_in_t y3 y4, ob_s, if_neg (by decide), md_in_t p3 p4, ob_s, if_neg (by decide)]
    exact e
  generalize oWm M2 (nI m) (nI sh) (nI dz) (nI nr) (nI yn) (nI pr) = Mb at gb gb2 runM
  have ob' : ∀ c i, ¬ (c = 280 ∧ 68 ≤ i ∧ i ≤ 74) → Mb.1 c i = M2.1 c i := fun c i q => by
    rw [gb, if_neg (by omega), if_neg (by omega), if_neg (by omega), if_neg (by omega), if_neg (by omega), if_neg (by omega), if_neg (by omega)]
  have obm : ∀ c i, ¬ ((c = 12 ∧ i = 8) ∨ (c = 244 ∧ i ≤ 7) ∨ c = 245 ∨ c = 269 ∨ (c = 280 ∧ 68 ≤ i ∧ i ≤ 74)) → Mb.1 c i = M.1 c i := fun c i q => (ob' c i (by omega)).trans (oc c i (by omega))
  obtain ⟨M3, w1, w2, w3, w4⟩ := weighOr_g ht he hu hp (Ma := Mb) (m := m) (sh := sh) (nr := nr) (yn := yn) (pr := pr) (fun c i q => obm c i (by unfold sTn at q; omega)) (fun c i q => obm c i (by unfold sEn at q; omega)) (fun c i q => obm c i (by unfold sPr at q; omega)) (fun c i q => obm c i (by unfold sUs at q; omega)) hm (by rw [gb]; simp) (by rw [gb]; simp) (by rw [gb]; simp) (by rw [gb]; simp) (by rw [gb]; simp)
  rw [hGe] at w3
  have hfin : ∀ Mf : SM, (∀ c i, ¬ c = 327 → Mf.1 c i = M3.1 c i) → (∀ c, ¬ c = 329 → Mf.2 c = M3.2 c) → (∀ i, i < 16 → Mf.1 327 i = Mf.1 269 i) → (∀ i, frM M ≤ i → i < 16 → Mf.1 269 i = 0) → I_or Mf ∧ Ov sOr sOrL M Mf := fun Mf k1 k2 k3 k4 => by
    have q4 : ∀ i, i ≤ 6 → Mf.1 244 i = Ma.1 244 i := fun i hi => by rw [k1 244 i (by omega), w2.1 244 i (by omega), ob' 244 i (by omega), h244 i hi]
    have q8 : ∀ i, i ≤ 74 → Mf.1 280 i = Mb.1 280 i := fun i hi => by rw [k1 280 i (by omega), w2.1 280 i (by omega)]
    have qo : ∀ c i, ¬ sOr c i → Mf.1 c i = M.1 c i := fun c i q => by
      unfold sOr at q
      rw [k1 c i (by omega), w2.1 c i (by omega), obm c i (by omega)]
    have et : Eq1 sTn M Mf := fun c i q => qo c i (by unfold sTn at q; unfold sOr; omega)
    refine ⟨⟨Or.inr ⟨?_, ?_, m, sh, dz, nr, yn, pr, ⟨by rw [msM_E et]; omega, s2, d2, n2, y2, p2⟩, ⟨?_, ?_, ?_, ?_, ?_, ?_⟩, ?_, ?_, ?_, ?_, ?_, ?_⟩, k3, fun i h1 h2 => k4 i (by rw [← frM_E et]; exact h1) h2⟩, qo, fun c q => ?_⟩
    · rw [q4 _ (by omega), ga]; simp
    · rw [q8 _ (by omega), gb]; simp
    · rw [q4 _ (by omega), ga]; simp
    · rw [q4 _ (by omega), ga]; simp
    · rw [q4 _ (by omega), ga]; simp
    · rw [q4 _ (by omega), ga]; simp
    · rw [q4 _ (by omega), ga]; simp
    · rw [q4 _ (by omega), ga]; simp
    · rw [q8 _ (by omega), gb]; simp
    · rw [q8 _ (by omega), gb]; simp
    · rw [q8 _ (by omega), gb]; simp
    · rw [q8 _ (by omega), gb]; simp
    · rw [q8 _ (by omega), gb]; simp
    · rw [q8 _ (by omega), gb]; simp
    · unfold sOrL at q
      rw [k2 c (by omega), w2.2 c (by omega), gb2, ol c (by omega)]
  have m24 : (24 : Int32) * M3.1 280 75 = nI (24 * nOr M m) := by rw [w3.1, show (24 : Int32) = nI 24 from rfl, nI_mul]
  by_cases q : 24 * nOr M m < dz
  · have hc : bP G (nOr M m) (nOr M m) dz = none := bP_none.mpr q
    have i2 : M2.1 = M1.1 := b4 hc
    rw [hc] at cC
    refine Pr.mk cC (runM (e1 none) M3 ?_) (hfin M3 (fun _ _ _ => rfl) (fun _ _ => rfl) (fun i hi => ?_) (fun i h1 h2 => ?_)) (fun c i hc => oc c i (by omega))
    · rw [w1, ob_s, m24, if_pos ((nI_ltI (by omega) (by omega)).mpr q)]
      rfl
    · rw [w2.1 327 i (by omega), w2.1 269 i (by omega), obm 327 i (by omega), ob' 269 i (by omega), i2, a2.1 269 i (by omega), oa 269 i (by omega)]
      exact ho.2.1 i hi
    · rw [w2.1 269 i (by omega), ob' 269 i (by omega), i2, a2.1 269 i (by omega), oa 269 i (by omega)]
      exact ho.2.2 i h1 h2
  · obtain ⟨v, hc⟩ : ∃ v, bP G (nOr M m) (nOr M m) dz = some v := by
      cases hc : bP G (nOr M m) (nOr M m) dz with
      | none => exact absurd (bP_none.mp hc) q
      | some v => exact ⟨v, rfl⟩
    obtain ⟨M4, k1, k2, k3⟩ := sp_L126 (D := dz) hN (K := fun y3_26 M27 =>
                qmd_spread_L174 (fun y3_37 M38 =>
                  qmd_spread_L224 (fun y3_41 M42 =>
                    qmd_spread_L251 FU y3_41 y3_41 (0 : Int32) M42) FU y3_37 (0 : Int32) M38) FU y3_26 ((M27.1 280 75) - (1 : Int32)) M27) 61 FU 0 M3 (by omega) (by unfold FU; omega) (by omega) w3 (fun j hj => by omega)
    have g4 := w3.fr k2
    obtain ⟨M5, l1, l2, l3⟩ := sp_L174 hG hN d2 (K := fun y3_37 M38 =>
                  qmd_spread_L224 (fun y3_41 M42 =>
                    qmd_spread_L251 FU y3_41 y3_41 (0 : Int32) M42) FU y3_37 (0 : Int32) M38) (nOr M m) FU M4 (Nat.le_refl _) (by unfold FU; omega) g4 (fun r' j a b c => k3 r' j a b (by omega))
    have g5 := g4.fr l2
    obtain ⟨M6, t1, t2, t3⟩ := sp_L224 (D := dz) (K := fun y3_41 M42 => qmd_spread_L251 FU y3_41 y3_41 (0 : Int32) M42) 16 FU 0 M5 (by omega) (by unfold FU; omega) (by omega) (fun i hi => by omega)
    have hrow : ∀ i, i < nOr M m → M6.1 326 i = nI (Rw (roN M (nI m) (nwM M) (frM M)) i) := fun i hi => by
      rw [t2.1 326 i (by omega), l2.1, k2.1]; exact w4 i hi
    obtain ⟨M7, u1, u2, u3⟩ := sp_L251 (R := Rw (roN M (nI m) (nwM M) (frM M))) hG hN d2 hR (nOr M m) FU 0 dz (fun _ => 0) v M6 (by omega) (by unfold FU; omega) (by omega) (Nat.le_refl _) hc (g5.fs t2) (l3.fs t2) hrow t3
    have q7 : ∀ c i, ¬ c = 327 → M7.1 c i = M3.1 c i := fun c i z => by rw [u2.1 c i z, t2.1 c i z, l2.1, k2.1]
    have q7l : ∀ c, ¬ c = 329 → M7.2 c = M3.2 c := fun c z => by rw [u2.2, t2.2, l2.2 c z, k2.2 c z]
    have e269 : ∀ i, i < 16 → M7.1 269 i = shM G (nOr M m) (Rw (roN M (nI m) (nwM M) (frM M))) (nOr M m) dz (fun _ => 0) i := fun i hi => by
      rw [q7 269 i (by omega), w2.1 269 i (by omega), ob' 269 i (by omega)]
      exact b5 v hc i hi
    refine Pr.mk cC (runM _ M7 ?_) (hfin M7 q7 q7l (fun i hi => by rw [e269 i hi]; exact u3 i hi) (fun i h1 h2 => by
      rw [e269 i h2]
      exact shM_o G (nOr M m) _ (nOr M m) dz (fun _ => 0) (Nat.le_refl _) (fun r hr => Rw_ok ht hr) (fun _ _ => rfl) i h1)) (fun c i hc => oc c i (by omega))
    rw [w1, ob_s, m24, if_neg (nI_nlt (by omega) (by omega))]
    refine Eq.trans k1 ?_
    rw [g4.1]
    refine Eq.trans l1 ?_
    refine Eq.trans t1 ?_
    refine Eq.trans u1 ?_
    rw [hc]
    rfl
end
