/-! act -/
def sA1 (A c i : Nat) : Prop := s3a (23 + 16 * A) c i ∨ sAr A c i ∨ (c = 1 ∧ i = 1) ∨ (c = 12 ∧ i = 3)
theorem sA1_i {A c i : Nat} (hA : A < 10) (h : sA1 A c i) : sLi c i := by
  unfold sA1 s3a sAr rpR at h
  unfold sLi
  omega
theorem nI_le_of {x : Int32} {a : Nat} (ha : a < 2147483648) (h : x < 0) : x < nI a := by
  rw [Int32.lt_iff_toInt_lt] at h ⊢
  rw [nI_toInt ha]
  rw [show (0 : Int32).toInt = 0 from rfl] at h
  omega
theorem nI_519 {x : Int32} (h : ¬ x < nI 520) : (519 : Int32) < x := by
  rw [Int32.lt_iff_toInt_lt] at h ⊢
  rw [nI_toInt (by omega)] at h
  rw [show (519 : Int32).toInt = 519 from rfl]
  omega
section
variable {M : SM} {V : Nat → FA → LE} {B : Nat → FA → LE → Int64}
theorem PR.as (hp : PR M V B) (hl10 : lsM M ≤ 10) {M2 : SM} {A : Nat} (hA : A < 10) (o : Ou (sA1 A) M M2) : lsM M2 = lsM M ∧ (∀ l, l < lsM M → CLs M2 (15 + 16 * l) (V l) ∧ MLs M2 l (V l) ∧ exV (V l) ∧ M2.1 297 l = M2.1 (15 + 16 * l) 3) ∧ ∀ a, a < acM M → a ≠ A → CAs M2 (23 + 16 * a) (B a) ∧ MAs M2 a (B a) ∧ exB (B a) ∧ acR M2 a := by
  obtain ⟨h1, h2, h3⟩ := hp
  refine ⟨by unfold lsM; rw [o.1 12 2 (by unfold sA1 s3a sAr rpR; omega)], fun l hl => ?_, fun a ha hne => ?_⟩
  · obtain ⟨a1, a2, a3, a4⟩ := h2 l hl
    have hl' : l < 10 := by omega
    refine ⟨a1.fr fun c i q1 q2 => o.1 c i (by unfold sA1 s3a sAr rpR; omega), a2.fr fun c i q => o.1 c i (by unfold rLs at q; unfold sA1 s3a sAr rpR; omega), a3, ?_⟩
    rw [o.1 297 l (by unfold sA1 s3a sAr rpR; omega), o.1 (15 + 16 * l) 3 (by unfold sA1 s3a sAr rpR; omega)]
    exact a4
  · obtain ⟨a1, a2, a3, a4⟩ := h3 a ha
    have ha10 : a < 10 := by omega
    have r : ∀ c i, (23 + 16 * a ≤ c ∧ c < 23 + 16 * a + 8 ∨ rAs a c i) → M2.1 c i = M.1 c i := fun c i q => o.1 c i (by unfold rAs at q; unfold sA1 s3a sAr rpR; omega)
    refine ⟨a1.fr fun c i q1 q2 => r c i (Or.inl ⟨q1, q2⟩), a2.fr fun c i q => r c i (Or.inr q), a3, ?_⟩
    unfold acR
    rw [r _ _ (by omega), r _ _ (by omega), r 305 a (Or.inr (by unfold rAs; omega)), r (23 + 16 * a) 9 (by omega), r 303 a (Or.inr (by unfold rAs; omega)), r (23 + 16 * a) 10 (by omega), r 304 a (Or.inr (by unfold rAs; omega)), r (23 + 16 * a) 11 (by omega), r 306 a (Or.inr (by unfold rAs; omega))]
    exact a4
theorem act_p (htp : I_tp M) (hu : I_us M) (hp : PR M V B) (x1 x2 x3 : Int32) : Pr M (qfr_act x1 x2 x3) (qmd_act x1 x2 x3) (fun M2 => (∃ B', PR M2 V B') ∧ I_tp M2 ∧ I_us M2 ∧ Ou sLi M M2) := by
  obtain ⟨u1, u4⟩ := id hu
  obtain ⟨⟨t1, t2, t3⟩, t4⟩ := id htp
  obtain ⟨⟨a1, a2, a3⟩, -, -⟩ := id hp
  have no : qfr_act x1 x2 x3 M = some (-1, M) → qmd_act x1 x2 x3 M = some (-1, M) → Pr M (qfr_act x1 x2 x3) (qmd_act x1 x2 x3) (fun M2 => (∃ B', PR M2 V B') ∧ I_tp M2 ∧ I_us M2 ∧ Ou sLi M M2) := fun e1 e2 => Pr.mk e1 e2 ⟨⟨B, hp⟩, htp, hu, Ou.rf _ _⟩
  -- what the class says, something being amiss
  have cno : (qpr_nextAct M = some (none, M) ∨ (∃ s, qpr_nextAct M = some (some s, M) ∧ (qfr_within x3 1 60 M = some (0, M) ∨ (qfr_within x3 1 60 M = some (1, M) ∧ (M.1 1 1 < x3 ∨ (¬ M.1 1 1 < x3 ∧ (qfr_isWeek x1 M = some (0, M) ∨ (qfr_isWeek x1 M = some (1, M) ∧ (qfr_isWeek x2 M = some (0, M) ∨ (qfr_isWeek x2 M = some (1, M) ∧ x2 < x1)))))))))) → qfr_act x1 x2 x3 M = some (-1, M) := by
    rintro (h | ⟨s, h, h2⟩)
    · unfold qfr_act; rw [h, ob_s, om_n]
    · unfold qfr_act
      rw [h, ob_s, om_s]
      rcases h2 with h2 | ⟨h2, h3⟩
      · rw [h2, ob_s, if_pos rfl]
      · rw [h2, ob_s, if_neg (by decide)]
        rcases h3 with h3 | ⟨h3, h4⟩
        · rw [if_pos h3]
        · rw [if_neg h3]
          rcases h4 with h4 | ⟨h4, h5⟩
          · rw [h4, ob_s, if_pos rfl]
          · rw [h4, ob_s, if_neg (by decide)]
            rcases h5 with h5 | ⟨h5, h6⟩
            · rw [h5, ob_s, if_pos rfl]
            · rw [h5, ob_s, if_neg (by decide), if_pos h6]
  have mno : (qmd_isWeek x1 M = some (0, M) ∨ (qmd_isWeek x1 M = some (1, M) ∧ (qmd_in x2 x1 519 M = some (0, M) ∨ (qmd_in x2 x1 519 M = some (1, M) ∧ (qmd_in x3 1 60 M = some (0, M) ∨ (qmd_in x3 1 60 M = some (1, M) ∧ (M.1 280 13 < x3 ∨ M.1 280 28 = 10))))))) → qmd_act x1 x2 x3 M = some (-1, M) := by
    rintro (h | ⟨h, h2⟩)
    · unfold qmd_act; rw [h, ob_s, if_pos rfl]
    · unfold qmd_act
      rw [h, ob_s, if_neg (by decide)]
      rcases h2 with h2 | ⟨h2, h3⟩
      · rw [h2, ob_s, if_pos rfl]
      · rw [h2, ob_s, if_neg (by decide)]
        rcases h3 with h3 | ⟨h3, h4⟩
        · rw [h3, ob_s, if_pos rfl]
        · rw [h3, ob_s, if_neg (by decide)]
          by_cases q : M.1 280 13 < x3
          · rw [if_pos q]
          · rw [if_neg q, if_pos (h4.resolve_left q)]
  have win : qfr_within x3 1 60 M = some (0, M) ∨ qfr_within x3 1 60 M = some (1, M) := by
    unfold qfr_within
    split
    · exact Or.inl rfl
    · split
      · exact Or.inl rfl
      · exact Or.inr rfl
  have wk : ∀ y : Int32, qfr_isWeek y M = some (0, M) ∨ qfr_isWeek y M = some (1, M) := fun y => by
    unfold qfr_isWeek
    split
    · exact Or.inl rfl
    · split
      · exact Or.inr rfl
      · exact Or.inl rfl
  have sameW : ∀ y : Int32, qmd_isWeek y M = qfr_isWeek y M := fun _ => rfl
  have sameI : ∀ y a b : Int32, qmd_in y a b M = qfr_within y a b M := fun _ _ _ => rfl
  rcases ix x1 520 (by omega) with ⟨w1, hw1, rfl⟩ | hb1
  rotate_left
  · refine no (cno ?_) (mno (Or.inl (md_isWeek_b hb1)))
    cases hn : qpr_nextAct M with
    | none =>
      exfalso
      unfold qpr_nextAct at hn
      rw [a1, if_neg (nI_lt0 (by omega))] at hn
      by_cases q : nI (acM M) < (10 : Int32)
      · have : acM M < 10 := (nI_ltI (b := 10) (by omega) (by omega)).mp q
        rw [if_pos q, ck_ib (by omega) (by omega), ck_t] at hn
        cases hn
      · rw [if_neg q] at hn; cases hn
    | some w =>
      have hM : ∃ o, w = (o, M) := by
        unfold qpr_nextAct at hn
        rw [a1, if_neg (nI_lt0 (by omega))] at hn
        by_cases q : nI (acM M) < (10 : Int32)
        · have : acM M < 10 := (nI_ltI (b := 10) (by omega) (by omega)).mp q
          rw [if_pos q, ck_ib (by omega) (by omega), ck_t] at hn
          exact ⟨_, (Option.some.inj hn).symm⟩
        · rw [if_neg q] at hn; exact ⟨_, (Option.some.inj hn).symm⟩
      obtain ⟨o, rfl⟩ := hM
      cases o with
      | none => exact Or.inl rfl
      | some s =>
        refine Or.inr ⟨s, rfl, ?_⟩
        rcases win with h | h
        · exact Or.inl h
        · refine Or.inr ⟨h, ?_⟩
          by_cases q : M.1 1 1 < x3
          · exact Or.inl q
          · exact Or.inr ⟨q, Or.inl (isWeek_b hb1)⟩
  generalize hAc : acM M = A at a1 a2 a3
  by_cases hA10 : A = 10
  · subst hA10
    refine no (cno (Or.inl ?_)) (mno (Or.inr ⟨md_isWeek_g hw1, ?_⟩))
    · unfold qpr_nextAct
      rw [a1, if_neg (by decide), if_neg (by decide)]
    · rcases (show qmd_in x2 (nI w1) 519 M = some (0, M) ∨ qmd_in x2 (nI w1) 519 M = some (1, M) by
        unfold qmd_in
        split
        · exact Or.inl rfl
        · split
          · exact Or.inl rfl
          · exact Or.inr rfl) with h | h
      · exact Or.inl h
      · refine Or.inr ⟨h, ?_⟩
        rcases win with h | h
        · exact Or.inl h
        · exact Or.inr ⟨h, Or.inr a3⟩
  have hA : A < 10 := by omega
  have hnext : qpr_nextAct M = some (some (23 + 16 * A), M) := by
    unfold qpr_nextAct
    rw [a1, if_neg (nI_lt0 (by omega)), if_pos (nl_10 hA), ck_ib (by omega) (by omega), ck_t, nI_cl (by omega)]
  -- the other refusals
  rcases rg x3 1 60 1 60 rfl rfl with ⟨n, hn1, hn2, rfl, g1, g2⟩ | hb
  rotate_left
  · refine no (cno (Or.inr ⟨_, hnext, Or.inl (within_f hb)⟩)) (mno (Or.inr ⟨md_isWeek_g hw1, ?_⟩))
    rcases (show qmd_in x2 (nI w1) 519 M = some (0, M) ∨ qmd_in x2 (nI w1) 519 M = some (1, M) by
        unfold qmd_in
        split
        · exact Or.inl rfl
        · split
          · exact Or.inl rfl
          · exact Or.inr rfl) with h | h
    · exact Or.inl h
    · exact Or.inr ⟨h, Or.inl (md_in_f hb)⟩
  have hw := within_t (M := M) g1 g2
  by_cases hnT : n ≤ taM M
  rotate_left
  · refine no (cno (Or.inr ⟨_, hnext, Or.inr ⟨hw, Or.inl ?_⟩⟩)) (mno (Or.inr ⟨md_isWeek_g hw1, ?_⟩))
    · rw [t1]; exact (nI_ltI (by omega) (by omega)).mpr (by omega)
    · rcases (show qmd_in x2 (nI w1) 519 M = some (0, M) ∨ qmd_in x2 (nI w1) 519 M = some (1, M) by
        unfold qmd_in
        split
        · exact Or.inl rfl
        · split
          · exact Or.inl rfl
          · exact Or.inr rfl) with h | h
      · exact Or.inl h
      · exact Or.inr ⟨h, Or.inr ⟨md_in_t g1 g2, Or.inl (by rw [t3]; exact (nI_ltI (by omega) (by omega)).mpr (by omega))⟩⟩
  have hnT' : ¬ M.1 1 1 < nI n := by rw [t1]; exact nI_nlt hnT (by omega)
  rcases ix x2 520 (by omega) with ⟨w2, hw2, rfl⟩ | hb2
  rotate_left
  · refine no (cno (Or.inr ⟨_, hnext, Or.inr ⟨hw, Or.inr ⟨hnT', Or.inr ⟨isWeek_g hw1, Or.inl (isWeek_b hb2)⟩⟩⟩⟩)) (mno (Or.inr ⟨md_isWeek_g hw1, Or.inl (md_in_f ?_)⟩))
    rcases hb2 with h | h
    · exact Or.inl (nI_le_of (by omega) h)
    · exact Or.inr (nI_519 h)
  by_cases hord : w1 ≤ w2
  rotate_left
  · have hlt : nI w2 < nI w1 := (nI_ltI (by omega) (by omega)).mpr (by omega)
    exact no (cno (Or.inr ⟨_, hnext, Or.inr ⟨hw, Or.inr ⟨hnT', Or.inr ⟨isWeek_g hw1, Or.inr ⟨isWeek_g hw2, hlt⟩⟩⟩⟩⟩)) (mno (Or.inr ⟨md_isWeek_g hw1, Or.inl (md_in_f (Or.inl hlt))⟩))
  have hord' : ¬ nI w2 < nI w1 := nI_nlt hord (by omega)
  have hin2 : qmd_in (nI w2) (nI w1) 519 M = some (1, M) := md_in_t hord' (show ¬ (519 : Int32) < nI w2 from nI_nlt (a := 519) (b := w2) (by omega) (by omega))
  -- both read
  have hK := shK_a A hA
  have hE := sgF_E M n
  have h2 := sgF_2 M n
  obtain ⟨r, M1, y1, y2, y3⟩ := readAct_g hK t1 t2 hnT hn2 hn1
  obtain ⟨Mc, c1, c2⟩ : ∃ Mc : SM, (r = 0 → Mc = wI (wI (wI (wI M1 1 1 0) (23 + 16 * A) 9 (nI w1)) (23 + 16 * A) 10 (nI w2)) 12 3 (nI (A + 1))) ∧ (¬ r = 0 → Mc = wI M1 1 1 0) := by
    by_cases q : r = 0
    · exact ⟨_, fun _ => rfl, fun z => absurd q z⟩
    · exact ⟨_, fun z => absurd z q, fun _ => rfl⟩
  have hrun : qfr_act (nI w1) (nI w2) (nI n) M = some (if r = 0 then nI A else r, Mc) := by
    unfold qfr_act
    rw [hnext, ob_s, om_s, hw, ob_s, if_neg (by decide), if_neg hnT', isWeek_g hw1, ob_s, if_neg (by decide), isWeek_g hw2, ob_s, if_neg (by decide), if_neg hord', y1, ob_s, wipe_g, ob_s]
    by_cases q : r = 0
    · rw [if_pos q, if_pos q, c1 q, ckb (and_i hK.kc (and_i hK.kc rfl))]
      unfold qpr_keepAct
      have e : (wI (wI (wI M1 1 1 0) (23 + 16 * A) 9 (nI w1)) (23 + 16 * A) 10 (nI w2)).1 12 3 = nI A := by rw [wI_1, if_neg (by omega), wI_1, if_neg (by omega), wI_1, if_neg (by omega), y2.1 12 3 (by unfold s3a; omega)]; exact a1
      rw [e, ob_s, nI_1, nI_m1 (by omega), Nat.add_sub_cancel]
    · rw [if_neg q, if_neg q, c2 q]
  have oc : Ou (fun c i => s3a (23 + 16 * A) c i ∨ (c = 1 ∧ i = 1) ∨ (c = 12 ∧ i = 3)) M Mc := by
    have b : Ou (fun c i => s3a (23 + 16 * A) c i ∨ (c = 1 ∧ i = 1) ∨ (c = 12 ∧ i = 3)) M (wI M1 1 1 0) := (y2.mono (fun c i z => Or.inl z)).wI (Or.inr (Or.inl ⟨rfl, rfl⟩))
    by_cases q : r = 0
    · rw [c1 q]; exact ((b.wI (Or.inl (by unfold s3a; omega))).wI (Or.inl (by unfold s3a; omega))).wI (Or.inr (Or.inr ⟨rfl, rfl⟩))
    · rw [c2 q]; exact b
  have ht : tR Mc (sgF M n) n := ⟨by omega, fun p hp => by rw [oc.1 289 p (by unfold s3a; omega), t4 p (by omega)]; exact sgF_v M hp⟩
  generalize hM0 : wI (wI (wI Mc 280 14 (0 : Int32)) 280 15 (nI n)) 280 18 (0 : Int32) = M0
  have g0 : ∀ c i, M0.1 c i = if c = 280 ∧ i = 18 then 0 else if c = 280 ∧ i = 15 then nI n else if c = 280 ∧ i = 14 then 0 else Mc.1 c i := fun c i => by rw [← hM0, wI_1, wI_1, wI_1]
  have o0 : Ou (sAr A) Mc M0 := ⟨fun c i q => by unfold sAr rpR at q; rw [g0, if_neg (by omega), if_neg (by omega), if_neg (by omega)], by rw [← hM0]; rfl⟩
  have ec28 : Mc.1 280 28 = nI A := by rw [oc.1 280 28 (by unfold s3a; omega)]; exact a3
  have ht0 : tR M0 (sgF M n) n := ⟨ht.1, fun p hp => by rw [o0.1 289 p (by unfold sAr rpR; omega)]; exact ht.2 p hp⟩
  obtain ⟨r2, M3, z1, z2, z28, z3⟩ := readsAct_g hE h2 (M := M0) hA (by rw [g0, if_neg (by omega), if_neg (by omega), if_pos ⟨rfl, rfl⟩]) (by rw [g0, if_neg (by omega), if_pos ⟨rfl, rfl⟩]) (by rw [g0, if_pos ⟨rfl, rfl⟩]) (by rw [g0, if_neg (by omega), if_neg (by omega), if_neg (by omega)]; exact ec28) hn1 ht0
  have runM : qmd_act (nI w1) (nI w2) (nI n) Mc = (if r2 = 0 then
            (some ((M3.1 280 16), (wI M3 280 13 (0 : Int32)))) else
            (ck (ib 10 (M3.1 280 28) && (ib 10 (M3.1 280 28) && (ib 10 (M3.1 280 28) && true))) (
              qmd_act_L119 FU (0 : Int32) (wI (wI (wI (wI M3 280 13 (0 : Int32)) 303 (Int32.toNatClampNeg (M3.1 280 28)) (nI w1)) 304 (Int32.toNatClampNeg (M3.1 280 28)) (nI w2)) 302 (Int32.toNatClampNeg (M3.1 280 28)) (M3.1 280 18))))) := by
    unfold qmd_act
    rw [md_isWeek_g hw1, ob_s, if_neg (by decide), md_in_t hord' (show ¬ (519 : Int32) < nI w2 from nI_nlt (a := 519) (b := w2) (by omega) (by omega)), ob_s, if_neg (by decide), md_in_t g1 g2, ob_s, if_neg (by decide), oc.1 280 13 (by unfold s3a; omega), t3, if_neg (nI_nlt hnT (by omega)), ec28, if_neg (show ¬ nI A = (10 : Int32) from fun z => by have := nI_inj (b := 10) (by omega) (by omega) z; omega), hM0, z1, ob_s]
  have o03 : Ou (sAr A) Mc M3 := o0.tr z2
  have oAll : ∀ M2 : SM, Ou (sAr A) Mc M2 → Ou (sA1 A) M M2 := fun M2 o => (oc.mono (fun c i z => by unfold sA1; rcases z with z | z | z; exact Or.inl z; exact Or.inr (Or.inr (Or.inl z)); exact Or.inr (Or.inr (Or.inr z)))).tr (o.mono (fun c i z => Or.inr (Or.inl z)))
  have e11 : Mc.1 1 1 = 0 := by
    by_cases q : r = 0
    · rw [c1 q, wI_1, if_neg (by omega), wI_1, if_neg (by omega), wI_1, if_neg (by omega), wI_1, if_pos ⟨rfl, rfl⟩]
    · rw [c2 q, wI_1, if_pos ⟨rfl, rfl⟩]
  have itp : ∀ M2 : SM, Ou (sAr A) Mc M2 → M2.1 280 13 = 0 → I_tp M2 := fun M2 o e => htp.w (by rw [o.1 1 1 (by unfold sAr rpR; omega)]; exact e11) e (fun i => (oAll M2 o).1 2 i (by unfold sA1 s3a sAr rpR; omega)) (fun i => (oAll M2 o).1 289 i (by unfold sA1 s3a sAr rpR; omega))
  have ius : ∀ M2 : SM, Ou (sAr A) Mc M2 → I_us M2 := fun M2 o => hu.fr (fun c i q => (oAll M2 o).1 c i (by unfold sUs at q; unfold sA1 s3a sAr rpR; omega))
  have bad : ∀ R : Int32, r = R → ¬ r = 0 → r2 = 0 → M3.1 280 16 = R → Pr M (qfr_act (nI w1) (nI w2) (nI n)) (qmd_act (nI w1) (nI w2) (nI n)) (fun M2 => (∃ B', PR M2 V B') ∧ I_tp M2 ∧ I_us M2 ∧ Ou sLi M M2) := fun R h1 h2 h3 h4 => by
    rw [if_neg h2] at hrun
    rw [if_pos h3, h4, ← h1] at runM
    have o := o03.wI (c := 280) (i := 13) (v := 0) (by unfold sAr; omega)
    have oa := oAll _ o
    obtain ⟨p1, p2, p3⟩ := hp.as u1.2.1 hA oa
    have e12 : (wI M3 280 13 0).1 12 3 = nI A := by rw [o.1 12 3 (by unfold sAr rpR; omega), c2 h2, wI_1, if_neg (by omega), y2.1 12 3 (by unfold s3a; omega)]; exact a1
    have e0 : acM (wI M3 280 13 0) = A := by unfold acM; rw [e12, nI_cl (by omega)]
    refine Pr.mk hrun runM ⟨⟨B, ?_⟩, itp _ o (by rw [wI_1, if_pos ⟨rfl, rfl⟩]), ius _ o, oa.mono (fun c i z => sA1_i hA z)⟩ (Sc.ou oc fun c i z => by unfold s3a at z; omega)
    unfold PR
    rw [e0, p1]
    exact ⟨⟨e12, by omega, by rw [wI_1, if_neg (by omega)]; exact z28⟩, p2, fun a ha => p3 a (by omega) (by omega)⟩
  cases hy : yAc (sgF M n) n with
  | inl gg =>
    rw [hy] at y3 z3
    exact bad _ y3.1 y3.2 z3.1 z3.2
  | inr st =>
    rw [hy] at y3 z3
    obtain ⟨v1, v2, v3, v4, v5, v6, v7⟩ := y3
    obtain ⟨w1', w5, w6, code, w7, w8, w9⟩ := z3
    have hsg : yAl (sgF M n 0) = true ∧ (sgF M n 1 = 94 ∨ sgF M n 1 = 95) := by
      unfold yAc at hy
      by_cases q1 : yAl (sgF M n 0) = true
      · rw [if_pos q1] at hy
        by_cases q2 : sgF M n 1 = 94 ∨ sgF M n 1 = 95
        · exact ⟨q1, q2⟩
        · rw [if_neg q2] at hy; cases hy
      · rw [if_neg q1] at hy; cases hy
    rw [if_pos v1] at hrun
    rw [if_neg (by rw [w1']; decide), z28, ck_ib (by omega) (by omega), ck_ib (by omega) (by omega), ck_ib (by omega) (by omega), ck_t, nI_cl (by omega), w9.1] at runM
    generalize hM4 : wI (wI (wI (wI M3 280 13 (0 : Int32)) 303 A (nI w1)) 304 A (nI w2)) 302 A (nI code.length) = M4 at runM
    have g4 : ∀ c i, M4.1 c i = if c = 302 ∧ i = A then nI code.length else if c = 304 ∧ i = A then nI w2 else if c = 303 ∧ i = A then nI w1 else if c = 280 ∧ i = 13 then 0 else M3.1 c i := fun c i => by rw [← hM4, wI_1, wI_1, wI_1, wI_1]
    have o34 : Ou (sAr A) M3 M4 := ⟨fun c i q => by unfold sAr rpR at q; rw [g4, if_neg (by omega), if_neg (by omega), if_neg (by omega), if_neg (by omega)], by rw [← hM4]; rfl⟩
    have hR4 : rA M4 code := ⟨by rw [g4, if_neg (by omega), if_neg (by omega), if_neg (by omega), if_neg (by omega)]; exact w9.1, fun i t hi => by rw [g4, if_neg (by omega), if_neg (by omega), if_neg (by omega), if_neg (by omega)]; exact w9.2 i t hi⟩
    obtain ⟨M5, f1, f2, f3, f4⟩ := aC_L119 hA (cs := code) (by omega) code.length FU 0 M4 (by omega) (by unfold FU; omega) (by omega) hR4 (by rw [g4, if_neg (by omega), if_neg (by omega), if_neg (by omega), if_neg (by omega)]; exact z28) (fun j t hj => by omega)
    rw [show qmd_act_L119 FU (0 : Int32) M4 = _ from f1] at runM
    have oM : Ou (sAr A) Mc M5 := (o03.tr o34).tr (f2.mono (fun c i z => by unfold sAr; omega))
    have oa := oAll _ oM
    obtain ⟨p1, p2, p3⟩ := hp.as u1.2.1 hA oa
    have same : ∀ c i, 23 + 16 * A ≤ c → c < 23 + 16 * A + 8 → ¬ (c = 23 + 16 * A ∧ (i = 9 ∨ i = 10)) → M5.1 c i = M1.1 c i := fun c i h1 h2 h3 => by
      rw [oM.1 c i (by unfold sAr rpR; omega), c1 v1, wI_1, if_neg (by omega), wI_1, if_neg (by omega), wI_1, if_neg (by omega), wI_1, if_neg (by omega)]
    have e12 : M5.1 12 3 = nI (A + 1) := by rw [oM.1 12 3 (by unfold sAr rpR; omega), c1 v1, wI_1, if_pos ⟨rfl, rfl⟩]
    have e0 : acM M5 = A + 1 := by unfold acM; rw [e12, nI_cl (by omega)]
    have g5 : ∀ c i, 302 ≤ c → c ≤ 306 → M5.1 c i = M4.1 c i := fun c i h1 h2 => f2.1 c i (by omega)
    obtain ⟨⟨v, hv1, hv2⟩, hv3, hv4, hv5⟩ := w7
    have hos : ∀ t ∈ st, yOs t := hv4
    have x26 : sgF M n 0 - 65 < 26 := by have := yAl_iff.mp hsg.1; omega
    have fsE : fsS [((sgF M n 0 - 65, 0, st) : FE)] = st := fsS_1 _
    have hcD : ∀ M' : SM, (∀ c i, 23 + 16 * A ≤ c → c < 23 + 16 * A + 8 → M'.1 c i = M5.1 c i) → cD M' (23 + 16 * A) [(sgF M n 0 - 65, 0, st)] [] := fun M' hM' => by
      have sm : ∀ c i, 23 + 16 * A ≤ c → c < 23 + 16 * A + 8 → ¬ (c = 23 + 16 * A ∧ (i = 9 ∨ i = 10)) → M'.1 c i = M1.1 c i := fun c i h1 h2 h3 => (hM' c i h1 h2).trans (same c i h1 h2 h3)
      refine ⟨?_, by rw [sm _ _ (by omega) (by omega) (by omega)]; exact v3, fun k t hk => ?_, fun k t hk => by cases hk⟩
      · rw [fsE]
        exact ⟨by rw [sm _ _ (by omega) (by omega) (by omega)]; exact v2.1, fun i t hi => by rw [sm _ _ (by omega) (by omega) (by omega), sm _ _ (by omega) (by omega) (by omega)]; exact v2.2 i t hi⟩
      · cases k with
        | zero =>
          cases hk
          refine ⟨by rw [sm _ _ (by omega) (by omega) (by omega)]; exact v4, ?_⟩
          rw [sm _ _ (by omega) (by omega) (by omega), v5]
          show nI st.length = nI (fsS [((sgF M n 0 - 65, 0, st) : FE)]).length
          rw [fsE]
        | succ k => cases hk
    have hCA : CAs M5 (23 + 16 * A) v := fun M' hM' => by
      obtain ⟨M'', k1, k2⟩ := reckon_d hK (hcD M' hM') (by simp) (by rw [fsE]; omega) (by rw [fsE]; exact hos) (k := 0) (t := (sgF M n 0 - 65, 0, st)) rfl hv1
      exact ⟨M'', k1, k2.1, k2.2⟩
    have hZ : Z0 301 = 800 ∧ K0 301 = 20 := by decide +kernel
    have hMA : MAs M5 A v := fun M' hM' => by
      have e302 : M5.1 302 A = nI (0 + code.length) := by rw [g5 302 A (by omega) (by omega), g4, if_pos ⟨rfl, rfl⟩, Nat.zero_add]
      obtain ⟨M'', k1, k2, k3⟩ := worthOf_v (row := 301) (base := 80 * A) (b := 0) (bd := 1000) (code := code) (st := st) (L := code) hZ.2 (by omega) (by rw [hZ.1]; omega) (by rw [hZ.1]; omega) (by omega) (fun t ht => yOc_up (hv3 t ht) (by omega)) (fun i hi => by rw [Nat.zero_add]) (by omega) (v := v) hv2 (M := M') (fun i t _ hi => by
        have : i < code.length := by
          by_cases z : i < code.length
          · exact z
          · rw [List.getElem?_eq_none (by omega)] at hi; cases hi
        rw [hM' 301 _ (by unfold rAs; omega)]; exact f4 i t hi)
      rw [e302]
      exact ⟨M'', k1, k2, k3⟩
    have hexB : exB v := fun F G K L hF hK => by
      have h1 := hv1 F K []
      have h2 := hv1 G L []
      rw [yEv_d hF st [] hos (fun y hy => hK y (yOs_65 (hos _ hy))), h2] at h1
      exact (List.cons.inj (Option.some.inj h1)).1.symm
    have hacR : acR M5 A := by
      refine ⟨by rw [same _ _ (by omega) (by omega) (by omega)]; exact v3, ⟨sgF M n 0 - 65, ?_, ?_, ?_⟩, ?_, ?_, ?_⟩
      · have := yAl_iff.mp hsg.1; omega
      · rw [show 26 + 16 * A = 23 + 16 * A + 3 by omega, same _ _ (by omega) (by omega) (by omega)]; exact v4
      · rw [g5 305 A (by omega) (by omega), g4, if_neg (by omega), if_neg (by omega), if_neg (by omega), if_neg (by omega)]; exact w5
      · rw [g5 303 A (by omega) (by omega), g4, if_neg (by omega), if_neg (by omega), if_pos ⟨rfl, rfl⟩, oM.1 _ _ (by unfold sAr rpR; omega), c1 v1, wI_1, if_neg (by omega), wI_1, if_neg (by omega), wI_1, if_pos ⟨rfl, rfl⟩]
      · rw [g5 304 A (by omega) (by omega), g4, if_neg (by omega), if_pos ⟨rfl, rfl⟩, oM.1 _ _ (by unfold sAr rpR; omega), c1 v1, wI_1, if_neg (by omega), wI_1, if_pos ⟨rfl, rfl⟩]
      · have e306 : M5.1 306 A = (if sgF M n 1 = 95 then 1 else 0) := by
          rw [g5 306 A (by omega) (by omega), g4, if_neg (by omega), if_neg (by omega), if_neg (by omega), if_neg (by omega)]; exact w6
        rw [same _ _ (by omega) (by omega) (by omega), v6, e306]
        rcases hsg.2 with h | h
        · rw [if_pos h, if_neg (by omega)]; decide
        · rw [if_neg (by omega), if_pos h]; decide
    refine Pr.mk hrun runM ⟨⟨fun a => if a = A then v else B a, ?_⟩, itp _ oM (by rw [f2.1 280 13 (by omega), g4, if_neg (by omega), if_neg (by omega), if_neg (by omega), if_pos ⟨rfl, rfl⟩]), ius _ oM, oa.mono (fun c i z => sA1_i hA z)⟩ (Sc.ou oc fun c i z => by unfold s3a at z; omega)
    unfold PR
    rw [e0, p1]
    refine ⟨⟨e12, by omega, f3⟩, p2, fun a ha => ?_⟩
    by_cases qa : a = A
    · subst qa
      dsimp only
      rw [if_pos rfl]
      exact ⟨hCA, hMA, hexB, hacR⟩
    · dsimp only
      rw [if_neg qa]
      exact p3 a (by omega) qa
end
