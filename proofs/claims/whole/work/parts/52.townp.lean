/-! the town's own changes -/
/-- all ints outside a region stay, and all longs -/
def Ou (s : Nat → Nat → Prop) (M M' : SM) : Prop := (∀ c i, ¬ s c i → M'.1 c i = M.1 c i) ∧ M'.2 = M.2
theorem Ou.rf (s : Nat → Nat → Prop) (M : SM) : Ou s M M := ⟨fun _ _ _ => rfl, rfl⟩
theorem Ou.tr {s : Nat → Nat → Prop} {M M' M'' : SM} (h : Ou s M M') (h2 : Ou s M' M'') : Ou s M M'' := ⟨fun c i q => (h2.1 c i q).trans (h.1 c i q), h2.2.trans h.2⟩
theorem Ou.wI {s : Nat → Nat → Prop} {M M' : SM} {c i : Nat} {v : Int32} (h : Ou s M M') (hs : s c i) : Ou s M (wI M' c i v) := ⟨fun c' i' q => by
  rw [wI_1, if_neg (fun z => q (by rw [z.1, z.2]; exact hs))]
  exact h.1 c' i' q, h.2⟩
theorem Ou.mono {s s' : Nat → Nat → Prop} {M M' : SM} (h : Ou s M M') (hs : ∀ c i, s c i → s' c i) : Ou s' M M' := ⟨fun c i q => h.1 c i (fun z => q (hs c i z)), h.2⟩
theorem Ou.eq1 {s t : Nat → Nat → Prop} {M M' : SM} (h : Ou s M M') (hs : ∀ c i, t c i → ¬ s c i) : Eq1 t M M' := fun c i q => h.1 c i (hs c i q)
/-- both run, one behind the other, and answer alike; then P -/
def Sc (M M' : SM) : Prop := ∀ c i, 9000 ≤ c → M'.1 c i = M.1 c i
theorem Sc.rf (M : SM) : Sc M M := fun _ _ _ => rfl
theorem Sc.tr {M M' M'' : SM} (h : Sc M M') (h2 : Sc M' M'') : Sc M M'' := fun c i q => (h2 c i q).trans (h c i q)
theorem Sc.ou {s : Nat → Nat → Prop} {M M' : SM} (h : Ou s M M') (hs : ∀ c i, s c i → c < 9000) : Sc M M' := fun c i q => h.1 c i (fun z => by have := hs c i z; omega)
/-- masters, knitters and frames do not go -/
def Tm (M M' : SM) : Prop := msM M ≤ msM M' ∧ knM M ≤ knM M' ∧ frM M ≤ frM M'
theorem Tm.rf (M : SM) : Tm M M := ⟨Nat.le_refl _, Nat.le_refl _, Nat.le_refl _⟩
theorem Tm.eq {M M' : SM} (h : ∀ i, M'.1 179 i = M.1 179 i) : Tm M M' := by
  unfold Tm msM knM frM
  rw [h, h, h]
  exact Tm.rf M
theorem Tm.of {M M' : SM} {a b c : Nat} (h1 : M'.1 179 1 = nI a) (h2 : M'.1 179 2 = nI b) (h3 : M'.1 179 3 = nI c) (ha : msM M ≤ a ∧ a < 100) (hb : knM M ≤ b ∧ b < 100) (hc : frM M ≤ c ∧ c < 100) : Tm M M' := by
  refine ⟨?_, ?_, ?_⟩
  · show _ ≤ Int32.toNatClampNeg _
    rw [h1, nI_cl (by omega)]; exact ha.1
  · show _ ≤ Int32.toNatClampNeg _
    rw [h2, nI_cl (by omega)]; exact hb.1
  · show _ ≤ Int32.toNatClampNeg _
    rw [h3, nI_cl (by omega)]; exact hc.1
def Pr {α : Type} (M : SM) (f g : SM → Option (α × SM)) (P : SM → Prop) : Prop := ∃ r M1 M2, f M = some (r, M1) ∧ g M1 = some (r, M2) ∧ P M2 ∧ Sc M M1
theorem Pr.mk {α : Type} {M M1 M2 : SM} {f g : SM → Option (α × SM)} {P : SM → Prop} {r : α} (h1 : f M = some (r, M1)) (h2 : g M1 = some (r, M2)) (h3 : P M2) (h4 : Sc M M1 := by first | exact Sc.rf _ | (intro c i hc; (repeat first | rw [wI_1, if_neg (by omega)] | rw [wL_1]); done)) : Pr M f g P := ⟨r, M1, M2, h1, h2, h3, h4⟩
theorem Pr.mono {α : Type} {M : SM} {f g : SM → Option (α × SM)} {P Q : SM → Prop} (h : Pr M f g P) (hk : ∀ M', P M' → Q M') : Pr M f g Q := by
  obtain ⟨r, M1, M2, h1, h2, h3, h4⟩ := h
  exact ⟨r, M1, M2, h1, h2, hk _ h3, h4⟩
theorem fill_L11_g {x0 : Nat} (hk : K0 x0 = 20) (h3 : x0 < 336) (hz : Z0 x0 = 520) (v : Int32) : ∀ n i M, 520 - i < n → i ≤ 520 → ∃ M', qtn_fill_L11 n x0 v (nI i) M = some ((), M') ∧ M'.2 = M.2 ∧ ∀ c j, M'.1 c j = if c = x0 ∧ i ≤ j ∧ j < 520 then v else M.1 c j := by
  intro n
  induction n with
  | zero => intro i M hn; omega
  | succ n ih =>
    intro i M hn hi
    unfold qtn_fill_L11
    rw [ckb (by rw [hk, show Nat.blt x0 336 = true from blt_iff.mpr h3]; rfl), hz]
    by_cases hlt : i < 520
    · rw [if_pos (show nI i < Int32.ofNat 520 from (nI_ltI (by omega) (by omega)).mpr hlt), ckb (and_i (av_n hk h3 (by omega) (by omega)) rfl), nI_1, nI_cl (by omega)]
      obtain ⟨M', e1, e2, e3⟩ := ih (i + 1) (wI M x0 i v) (by omega) (by omega)
      refine ⟨M', e1, e2, fun c j => ?_⟩
      rw [e3 c j, wI_1]
      by_cases h1 : c = x0 ∧ i + 1 ≤ j ∧ j < 520
      · rw [if_pos h1, if_pos ⟨h1.1, by omega, h1.2.2⟩]
      · rw [if_neg h1]
        by_cases h2 : c = x0 ∧ j = i
        · rw [if_pos h2, if_pos ⟨h2.1, by omega, by omega⟩]
        · rw [if_neg h2, if_neg (by omega)]
    · obtain rfl : i = 520 := by omega
      rw [if_neg (show ¬ nI 520 < Int32.ofNat 520 from nI_nlt (Nat.le_refl _) (by omega))]
      exact ⟨M, rfl, rfl, fun c j => by rw [if_neg (by omega)]⟩
theorem tfill_g {x0 i : Nat} (hk : K0 x0 = 20) (h3 : x0 < 336) (hz : Z0 x0 = 520) (v : Int32) (M : SM) (hi : i ≤ 520) : ∃ M', qtn_fill x0 (nI i) v M = some ((), M') ∧ M'.2 = M.2 ∧ ∀ c j, M'.1 c j = if c = x0 ∧ i ≤ j ∧ j < 520 then v else M.1 c j := by
  unfold qtn_fill
  rw [if_neg (nI_lt0 (by omega))]
  exact fill_L11_g hk h3 hz v FU i M (by unfold FU; omega) hi
theorem hires_L5_g {f : Nat} (hf : f < 16) (v : Int32) : ∀ n i M, 520 - i < n → i ≤ 520 → ∃ M', qmd_hires_L5 n (nI f) v (nI i) M = some ((), M') ∧ M'.2 = M.2 ∧ ∀ c j, M'.1 c j = if c = 288 ∧ 520 * f + i ≤ j ∧ j < 520 * f + 520 then v else M.1 c j := by
  intro n
  induction n with
  | zero => intro i M hn; omega
  | succ n ih =>
    intro i M hn hi
    unfold qmd_hires_L5
    by_cases hlt : i < 520
    · rw [if_pos (show nI i < (520 : Int32) from nI_lt (b := 520) hlt (by decide)), show (520 : Int32) = nI 520 from rfl, nI_mul, nI_add, ckb (and_i (ib_n (by omega) (by omega)) rfl), nI_1, nI_cl (by omega)]
      obtain ⟨M', e1, e2, e3⟩ := ih (i + 1) (wI M 288 (520 * f + i) v) (by omega) (by omega)
      refine ⟨M', e1, e2, fun c j => ?_⟩
      rw [e3 c j, wI_1]
      by_cases h1 : c = 288 ∧ 520 * f + (i + 1) ≤ j ∧ j < 520 * f + 520
      · rw [if_pos h1, if_pos ⟨h1.1, by omega, h1.2.2⟩]
      · rw [if_neg h1]
        by_cases h2 : c = 288 ∧ j = 520 * f + i
        · rw [if_pos h2, if_pos ⟨h2.1, by omega, by omega⟩]
        · rw [if_neg h2, if_neg (by omega)]
    · obtain rfl : i = 520 := by omega
      rw [if_neg (show ¬ nI 520 < (520 : Int32) from nI_nlt (Nat.le_refl _) (by omega))]
      exact ⟨M, rfl, rfl, fun c j => by rw [if_neg (by omega)]⟩
theorem hires_g {f w : Nat} (hf : f < 16) (v : Int32) (M : SM) (e : M.1 280 0 = nI w) (hw : w ≤ 520) : ∃ M', qmd_hires (nI f) v M = some ((), M') ∧ M'.2 = M.2 ∧ ∀ c j, M'.1 c j = if c = 288 ∧ 520 * f + w ≤ j ∧ j < 520 * f + 520 then v else M.1 c j := by
  unfold qmd_hires
  rw [e]
  exact hires_L5_g hf v FU w M (by unfold FU; omega) hw
section
variable {M : SM}
theorem master_p (h : I_tn M) (x : Int32) : Pr M (qfr_master x) (qmd_master x) (fun M2 => I_tn M2 ∧ Ou sTn M M2 ∧ Tm M M2) := by
  have a := h.ms
  -- both refuse, or both go on
  have key : (qfr_master x M = some (-1, M) ∧ qmd_master x M = some (-1, M)) ∨
      (qfr_master x M = qtn_addMaster x M ∧ ∀ M1 : SM, M1.1 280 1 = M.1 280 1 → (∀ j, j < msM M → M1.1 281 j = M.1 281 j) → qmd_master x M1 = (if M1.1 280 1 = (6 : Int32) then some (-1, M1) else ck (ib 6 (M1.1 280 1) && true) (some ((M1.1 280 1) + 1 - 1, wI (wI M1 281 (Int32.toNatClampNeg (M1.1 280 1)) x) 280 1 ((M1.1 280 1) + 1))))) := by
    unfold qfr_master qmd_master
    simp only [jn_s]
    by_cases hx : x = -1
    · right
      rw [if_pos hx]
      refine ⟨?_, fun M1 _ _ => by rw [if_pos hx]⟩
      cases qtn_addMaster x M <;> rfl
    · rcases ix x (msM M) (by omega) with ⟨j, hj, rfl⟩ | hb
      · by_cases hh : M.1 180 j = -1
        · right
          rw [if_neg hx, isHouse_g h hj, ob_s, if_pos hh, if_neg (by decide)]
          refine ⟨by cases qtn_addMaster (nI j) M <;> rfl, fun M1 e1 e2 => ?_⟩
          rw [if_neg hx, md_isMaster_rg (e1.trans a.2.2) (by omega) hj, ob_s, if_neg (by decide), ckb (and_i (ib_n (by omega) (by omega)) rfl), nI_cl (by omega), if_pos (by rw [e2 j hj, h.ho j hj]; exact hh)]
        · left
          rw [if_neg hx, isHouse_g h hj, ob_s, if_neg hh, if_pos rfl]
          refine ⟨rfl, ?_⟩
          rw [if_neg hx, md_isMaster_g h hj, ob_s, if_neg (by decide), ckb (and_i (ib_n (by omega) (by omega)) rfl), nI_cl (by omega), if_neg (by rw [h.ho j hj]; exact hh)]
      · left
        rw [if_neg hx, isHouse_b h hb, ob_s, if_pos rfl, if_neg hx, md_isMaster_b h hb, ob_s, if_pos rfl]
        exact ⟨rfl, rfl⟩
  rcases key with ⟨k1, k2⟩ | ⟨k1, k2⟩
  · exact Pr.mk k1 k2 ⟨h, Ou.rf _ _, Tm.rf _⟩
  · unfold qtn_addMaster at k1
    rw [if_neg (by rw [a.1]; exact nI_lt0 (by omega))] at k1
    by_cases h6 : msM M < 6
    · rw [if_pos (by rw [a.1]; exact (nI_ltI (b := 6) (by omega) (by omega)).mpr h6), a.1, ckb (and_i (ib_n (by omega) (by omega)) rfl), nI_cl (by omega), nI_1, nI_m1 (by omega)] at k1
      refine Pr.mk k1 ((k2 _ ?_ ?_).trans ?_) (M2 := wI (wI (wI (wI M 180 (msM M) x) 179 1 (nI (msM M + 1))) 281 (msM M) x) 280 1 (nI (msM M + 1))) ?_
      · simp [wI_1]
      · intro j hj; simp [wI_1]
      · have e : (wI (wI M 180 (msM M) x) 179 1 (nI (msM M + 1))).1 280 1 = nI (msM M) := by simp [wI_1, a.2.2]
        rw [e, if_neg (by show ¬ nI (msM M) = nI 6; rw [nI_eqN (by omega) (by omega)]; omega), ckb (and_i (ib_n (by omega) (by omega)) rfl), nI_cl (by omega), nI_1, nI_m1 (by omega)]
      · refine ⟨?_, ((((Ou.rf _ _).wI ?_).wI ?_).wI ?_).wI ?_, Tm.of (a := msM M + 1) (b := knM M) (c := frM M) (by simp [wI_1]) (by simp [wI_1, h.kn.1]) (by simp [wI_1, h.fs.1]) ⟨by omega, by omega⟩ ⟨by omega, by have := h.kn; omega⟩ ⟨by omega, by have := h.fs; omega⟩⟩
        · generalize hM2 : wI (wI (wI (wI M 180 (msM M) x) 179 1 (nI (msM M + 1))) 281 (msM M) x) 280 1 (nI (msM M + 1)) = M2
          have g : ∀ c i, M2.1 c i = if c = 280 ∧ i = 1 then nI (msM M + 1) else if c = 281 ∧ i = msM M then x else if c = 179 ∧ i = 1 then nI (msM M + 1) else if c = 180 ∧ i = msM M then x else M.1 c i := by
            intro c i; rw [← hM2]; simp only [wI_1]
          have e1 : msM M2 = msM M + 1 := by unfold msM; rw [g]; simp [nI_cl (show msM M + 1 < 2147483648 by omega)]; rfl
          have e0 : nwM M2 = nwM M := by unfold nwM; rw [g]; simp
          have e2 : knM M2 = knM M := by unfold knM; rw [g]; simp
          have e3 : frM M2 = frM M := by unfold frM; rw [g]; simp
          have fs := h.fs
          refine ⟨?_, ?_, ?_, ?_, fun m hm => ?_, fun m hm => ?_, fun k hk => ?_, fun f hf => ?_, fun f hf w hw => ?_⟩
          · rw [e0, g, g]; simpa using h.nw
          · rw [e1, g, g]; simp; omega
          · rw [e2, g, g]; simpa using h.kn
          · rw [e3, g, g]; simpa using h.fs
          · rw [e1] at hm
            rw [g, g]
            by_cases hq : m = msM M
            · simp [hq]
            · simp [hq, h.ho m (by omega)]
          · rw [g, g]; simpa using h.ov m hm
          · rw [e2] at hk; rw [g, g]; simpa using h.he k hk
          · rw [e3] at hf; unfold okK; rw [e1, e2]; simp only [g]
            obtain ⟨b1, b2, b3, ⟨m, b4, b5⟩, b6⟩ := h.fa f hf
            refine ⟨by simpa using b1, by simpa using b2, by simpa using b3, ⟨m, by omega, by simpa using b5⟩, ?_⟩
            unfold okK at b6
            simpa using b6
          · rw [e3] at hf
            have b := h.hd f hf w hw
            unfold okK at b ⊢
            rw [e2, g, g]
            rw [if_neg (by omega), if_neg (by omega), if_neg (by omega), if_neg (by omega), if_neg (by omega), if_neg (by omega), if_neg (by omega), if_neg (by omega)]
            exact b
        all_goals (unfold sTn; omega)
    · have e6 : msM M = 6 := by omega
      rw [if_neg (by rw [a.1, e6]; decide)] at k1
      refine Pr.mk k1 ((k2 M rfl (fun _ _ => rfl)).trans ?_) ⟨h, Ou.rf _ _, Tm.rf _⟩
      rw [if_pos (by rw [a.2.2, e6]; rfl)]
end
