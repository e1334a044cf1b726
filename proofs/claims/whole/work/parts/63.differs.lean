/-! where a bagman's book differs -/
theorem nI_dec {a : Nat} (h : 1 ≤ a) : nI a + (-1 : Int32) = nI (a - 1) := by
  obtain ⟨b, rfl⟩ : ∃ b, a = b + 1 := ⟨a - 1, by omega⟩
  rw [← nI_1, Int32.add_assoc, Nat.add_sub_cancel]
  exact Int32.add_zero _
/-- dozens of a shape by entries, on the first n frames -/
def mdN (M : SM) (m : Int32) (w s : Nat) (t : Int32) : Nat → Int32
  | 0 => 0
  | f + 1 => mdN M m w s t f + (if M.1 184 f = m ∧ ¬ knN M f w t (enM M) = -1 ∧ M.1 214 (Int32.toNatClampNeg (knN M f w t (enM M))) = nI s then M.1 215 (Int32.toNatClampNeg (knN M f w t (enM M))) else 0)
section
variable {M : SM}
theorem dozensMade_L6_g (ht : I_tn M) (h : I_en M) (m : Int32) {w s : Nat} (hw : w < 520) (hs : s < 10) : ∀ fu f, frM M - f < fu → f ≤ frM M → qfr_dozensMade_L6 fu m (nI w) (nI s) (mdN M m w s (M.1 179 0) f) (nI f) M = some (mdN M m w s (M.1 179 0) (frM M), M) := by
  have fs := ht.fs
  have a := h.1
  intro fu
  induction fu with
  | zero => intro f hf; omega
  | succ fu ih =>
    intro f hf hl
    unfold qfr_dozensMade_L6
    by_cases hlt : f < frM M
    · have hi := ih (f + 1) (by omega) (by omega)
      have e1 : mdN M m w s (M.1 179 0) (f + 1) = mdN M m w s (M.1 179 0) f + (if M.1 184 f = m ∧ ¬ knN M f w (M.1 179 0) (enM M) = -1 ∧ M.1 214 (Int32.toNatClampNeg (knN M f w (M.1 179 0) (enM M))) = nI s then M.1 215 (Int32.toNatClampNeg (knN M f w (M.1 179 0) (enM M))) else 0) := rfl
      have z0 : (¬ (M.1 184 f = m ∧ ¬ knN M f w (M.1 179 0) (enM M) = -1 ∧ M.1 214 (Int32.toNatClampNeg (knN M f w (M.1 179 0) (enM M))) = nI s)) → mdN M m w s (M.1 179 0) (f + 1) = mdN M m w s (M.1 179 0) f := fun q => by rw [e1, if_neg q, Int32.add_zero]
      rw [fs.1, if_pos ((nI_ltI (by omega) (by omega)).mpr hlt), knownAt_g h (by omega) hw, ob_s, masterOf_g ht hlt, ob_s, nI_1]
      by_cases q1 : M.1 184 f = m
      · rw [if_pos q1]
        rcases knN_or M f w (M.1 179 0) (enM M) with q | ⟨e, he, q, -, -⟩
        · rw [q, en_at_b a.1 (Or.inl (by decide)), ob_s, if_neg (fun y => nI_ne_m1 (n := s) (by omega) y.symm)]
          rw [z0 (fun y => y.2.1 q)] at hi
          exact hi
        · rw [q, show (2 : Int32) = nI 2 from rfl, show (3 : Int32) = nI 3 from rfl, en_at_g a.1 a.2.1 he (by omega), ob_s]
          by_cases q2 : M.1 (212 + 2) e = nI s
          · rw [if_pos q2, en_at_g a.1 a.2.1 he (by omega), ob_s]
            rw [q, if_pos ⟨q1, nI_ne_m1 (by omega), by rw [nI_cl (by omega)]; exact q2⟩, nI_cl (by omega)] at e1
            rw [e1] at hi
            exact hi
          · rw [if_neg q2]
            rw [z0 (fun y => q2 (by have := y.2.2; rw [q, nI_cl (by omega)] at this; exact this))] at hi
            exact hi
      · rw [if_neg q1]
        rw [z0 (fun y => q1 y.1)] at hi
        exact hi
    · obtain rfl : f = frM M := by omega
      rw [fs.1, if_neg (nI_nlt (Nat.le_refl _) (by omega))]
theorem dozensMade_g (ht : I_tn M) (h : I_en M) (m : Int32) {w s : Nat} (hw : w < 520) (hs : s < 10) : qfr_dozensMade m (nI w) (nI s) M = some (mdN M m w s (M.1 179 0) (frM M), M) := by
  have fs := ht.fs
  exact dozensMade_L6_g ht h m hw hs FU 0 (by unfold FU; omega) (by omega)
/-- the place where the i-th differs, from x on -/
def fdN (d : Nat → Bool) : Nat → Nat → Nat → Option Nat
  | 0, _, _ => none
  | k + 1, x, i => if d x = true then (if i = 0 then some x else fdN d k (x + 1) (i - 1)) else fdN d k (x + 1) i
def dfP (M : SM) (m : Int32) (x : Nat) : Bool := !decide (sdN M m (x / 10) (x % 10) (bkM M) = mdN M m (x / 10) (x % 10) (M.1 179 0) (frM M))
/-- the answer -/
def dfR (M : SM) (m : Int32) (what : Nat) : Option Nat → Int32
  | none => -1
  | some x => if what = 0 then nI (x / 10) else if what = 1 then nI (x % 10) else if what = 2 then sdN M m (x / 10) (x % 10) (bkM M) else mdN M m (x / 10) (x % 10) (M.1 179 0) (frM M)
theorem fr_L47_g (ht : I_tn M) (h : I_en M) (hb : I_bk M) {K : Int32 → Int32 → Int32 → Int32 → Int32 → SM → Option (Int32 × SM)} {K2 : Int32 → Int32 → Int32 → Int32 → SM → Option (Int32 × SM)} (m wh : Int32) {w : Nat} (hw : w < 520) (R : Option Nat → Option (Int32 × SM))
    (hK : ∀ s, s < 10 → K wh (nI w) (nI s) (sdN M m w s (bkM M)) (mdN M m w s (M.1 179 0) (frM M)) M = R (some (10 * w + s))) (B : Nat) (hK2 : ∀ i, i < 2147483648 → K2 m wh (nI i) (nI w) M = R (fdN (dfP M m) (B - (10 * w + 10)) (10 * w + 10) i)) (hB : 10 * w + 10 ≤ B) :
    ∀ fu s i, 10 - s < fu → s ≤ 10 → i < 2147483648 → qfr_differs_L47 K K2 fu m wh (nI i) (nI w) (nI s) M = R (fdN (dfP M m) (B - (10 * w + s)) (10 * w + s) i) := by
  intro fu
  induction fu with
  | zero => intro s i hs; omega
  | succ fu ih =>
    intro s i hs hl hi
    unfold qfr_differs_L47
    by_cases hlt : s < 10
    · rw [if_pos (nl_10 hlt), bk_dozens_g hb m hw, ob_s, dozensMade_g ht h m hw hlt, ob_s, nI_1]
      have hd : dfP M m (10 * w + s) = !decide (sdN M m w s (bkM M) = mdN M m w s (M.1 179 0) (frM M)) := by
        unfold dfP
        rw [show (10 * w + s) / 10 = w by omega, show (10 * w + s) % 10 = s by omega]
      obtain ⟨k, hk⟩ : ∃ k, B - (10 * w + s) = k + 1 := ⟨B - (10 * w + s) - 1, by omega⟩
      have hk2 : B - (10 * w + (s + 1)) = k := by omega
      have ef : fdN (dfP M m) (k + 1) (10 * w + s) i = (if dfP M m (10 * w + s) = true then (if i = 0 then some (10 * w + s) else fdN (dfP M m) k (10 * w + s + 1) (i - 1)) else fdN (dfP M m) k (10 * w + s + 1) i) := rfl
      rw [hk, ef]
      by_cases q : sdN M m w s (bkM M) = mdN M m w s (M.1 179 0) (frM M)
      · rw [if_pos q, if_neg (show ¬ dfP M m (10 * w + s) = true by rw [hd]; simp [q])]
        have := ih (s + 1) i (by omega) (by omega) hi
        rw [hk2] at this
        exact this
      · rw [if_neg q, if_pos (show dfP M m (10 * w + s) = true by rw [hd]; simp [q])]
        by_cases z : i = 0
        · subst z
          rw [if_pos rfl, if_pos (show nI 0 = (0 : Int32) from rfl)]
          exact hK s hlt
        · rw [if_neg (nI_ne0 (by omega) hi), if_neg z]
          have := ih (s + 1) (i - 1) (by omega) (by omega) (by omega)
          rw [hk2] at this
          rw [nI_dec (by omega)]
          exact this
    · obtain rfl : s = 10 := by omega
      rw [if_neg (by decide)]
      exact hK2 i hi
theorem fr_L32_g (ht : I_tn M) (h : I_en M) (hb : I_bk M) {K : Int32 → Int32 → Int32 → Int32 → Int32 → SM → Option (Int32 × SM)} (m wh : Int32) (R : Option Nat → Option (Int32 × SM)) (hR : R none = some (-1, M))
    (hK : ∀ w s, w < 520 → s < 10 → K wh (nI w) (nI s) (sdN M m w s (bkM M)) (mdN M m w s (M.1 179 0) (frM M)) M = R (some (10 * w + s))) :
    ∀ fu w i, nwM M + 1 - w < fu → w ≤ nwM M + 1 → i < 2147483648 → qfr_differs_L32 K fu m wh (nI i) (nI w) M = R (fdN (dfP M m) (10 * (nwM M + 1) - 10 * w) (10 * w) i) := by
  have an := ht.nw
  intro fu
  induction fu with
  | zero => intro w i hf; omega
  | succ fu ih =>
    intro w i hf hl hi
    unfold qfr_differs_L32
    by_cases hlt : w ≤ nwM M
    · rw [an.1, if_neg (by rw [nI_ltN (by omega) (by omega)]; omega)]
      have := fr_L47_g ht h hb (K := fun y3_16 y5_17 y6_18 y7_19 y8_20 M21 => K y3_16 y5_17 y6_18 y7_19 y8_20 M21) (K2 := fun y1_22 y3_23 y4_24 y5_25 M26 => qfr_differs_L32 K fu y1_22 y3_23 y4_24 (y5_25 + (1 : Int32)) M26) m wh (w := w) (by omega) R (fun s hs => hK w s (by omega) hs) (10 * (nwM M + 1)) (fun i hi => by
        show qfr_differs_L32 K fu m wh (nI i) (nI w + 1) M = _
        rw [nI_1, ih (w + 1) i (by omega) (by omega) hi, show 10 * (w + 1) = 10 * w + 10 by omega]) (by omega) FU 0 i (by unfold FU; omega) (by omega) hi
      rw [Nat.add_zero] at this
      exact this
    · obtain rfl : w = nwM M + 1 := by omega
      rw [an.1, if_pos (by rw [nI_ltN (by omega) (by omega)]; omega), show 10 * (nwM M + 1) - 10 * (nwM M + 1) = 0 by omega]
      exact hR.symm
/-! the reference's books -/
theorem bo_L2_g {K : Int32 → SM → Option (Unit × SM)} (x : Int32) : ∀ fu i M, 5200 - i < fu → i ≤ 5200 → ∃ M' : SM, qmd_booksOf_L2 K fu x (nI i) M = K x M' ∧ M'.2 = M.2 ∧ ∀ c j, M'.1 c j = if (c = 324 ∨ c = 325) ∧ i ≤ j ∧ j < 5200 then 0 else M.1 c j := by
  intro fu
  induction fu with
  | zero => intro i M hn; omega
  | succ n ih =>
    intro i M hn hi
    unfold qmd_booksOf_L2
    by_cases hlt : i < 5200
    · rw [if_pos (show nI i < (5200 : Int32) from nl_5200 hlt), ck_ib (by omega) (by omega), ck_ib (by omega) (by omega), ck_t, nI_1, nI_cl (by omega)]
      obtain ⟨M', e1, e2, e3⟩ := ih (i + 1) (wI (wI M 324 i 0) 325 i 0) (by omega) (by omega)
      refine ⟨M', e1, e2, fun c j => ?_⟩
      rw [e3 c j, wI_1, wI_1]
      by_cases h1 : (c = 324 ∨ c = 325) ∧ i + 1 ≤ j ∧ j < 5200
      · rw [if_pos h1, if_pos ⟨h1.1, by omega, h1.2.2⟩]
      · rw [if_neg h1]
        by_cases h2 : c = 325 ∧ j = i
        · rw [if_pos h2, if_pos ⟨by omega, by omega, by omega⟩]
        · rw [if_neg h2]
          by_cases h3 : c = 324 ∧ j = i
          · rw [if_pos h3, if_pos ⟨by omega, by omega, by omega⟩]
          · rw [if_neg h3, if_neg (by omega)]
    · obtain rfl : i = 5200 := by omega
      rw [if_neg (show ¬ nI 5200 < (5200 : Int32) from nI_nlt (Nat.le_refl _) (by omega))]
      exact ⟨M, rfl, rfl, fun c j => by rw [if_neg (by omega)]⟩
theorem bo_L31_g {K : Int32 → SM → Option (Unit × SM)} {M0 : SM} (h : I_bk M0) (m : Int32) : ∀ fu k (M : SM), bkM M0 - k < fu → k ≤ bkM M0 → (∀ c j, c ≠ 324 → c ≠ 325 → M.1 c j = M0.1 c j) → M.2 = M0.2 → (∀ j, j < 5200 → M.1 325 j = 0) → (∀ w s, w < 520 → s < 10 → M.1 324 (10 * w + s) = sdN M0 m w s k) →
    ∃ M' : SM, qmd_booksOf_L31 K fu m (nI k) M = K m M' ∧ M'.2 = M0.2 ∧ (∀ c j, c ≠ 324 → c ≠ 325 → M'.1 c j = M0.1 c j) ∧ (∀ j, j < 5200 → M'.1 325 j = 0) ∧ ∀ w s, w < 520 → s < 10 → M'.1 324 (10 * w + s) = sdN M0 m w s (bkM M0) := by
  obtain ⟨h1, h2, h3, h4⟩ := h
  intro fu
  induction fu with
  | zero => intro k M hf; omega
  | succ fu ih =>
    intro k M hf hk e1 e2 e3 e4
    unfold qmd_booksOf_L31
    rw [e1 280 61 (by omega) (by omega), h1.2.2]
    by_cases hlt : k < bkM M0
    · obtain ⟨b1, b2, b3, ⟨w', hw', b4⟩, ⟨s', hs', b5⟩⟩ := h2 k hlt
      have ek : ∀ w s, sdN M0 m w s (k + 1) = if M0.1 239 k = m ∧ M0.1 321 k = nI w ∧ M0.1 240 k = nI s then M0.1 241 k else sdN M0 m w s k := fun w s => rfl
      rw [if_pos ((nI_ltI (by omega) (by omega)).mpr hlt), ck_ib (by omega) (by omega), ck_t, nI_cl (by omega), e1 320 _ (by omega) (by omega), b1, nI_1]
      by_cases z : M0.1 239 k = m
      · rw [if_pos z, ck_ib (by omega) (by omega), ck_ib (by omega) (by omega), ck_ib (by omega) (by omega), e1 321 _ (by omega) (by omega), b4, e1 322 _ (by omega) (by omega), b2, b5, e1 323 _ (by omega) (by omega), b3, show (10 : Int32) = nI 10 from rfl, nI_mul, nI_add, ck_ib (by omega) (by omega), ck_t, nI_cl (by omega)]
        refine ih (k + 1) (wI M 324 (10 * w' + s') (M0.1 241 k)) (by omega) (by omega) (fun c j q1 q2 => by rw [wI_1, if_neg (by omega)]; exact e1 c j q1 q2) e2 (fun j hj => by rw [wI_1, if_neg (by omega)]; exact e3 j hj) (fun w s hw hs => ?_)
        rw [wI_1, ek, b4, b5]
        by_cases z3 : w = w' ∧ s = s'
        · obtain ⟨rfl, rfl⟩ := z3
          rw [if_pos ⟨rfl, rfl⟩, if_pos ⟨z, rfl, rfl⟩]
        · rw [if_neg (by omega), if_neg (fun y => z3 ⟨nI_inj (by omega) (by omega) y.2.1.symm, nI_inj (by omega) (by omega) y.2.2.symm⟩)]; exact e4 w s hw hs
      · rw [if_neg z]
        refine ih (k + 1) M (by omega) (by omega) e1 e2 e3 (fun w s hw hs => ?_)
        rw [ek, if_neg (fun y => z y.1)]; exact e4 w s hw hs
    · obtain rfl : k = bkM M0 := by omega
      rw [if_neg (nI_nlt (Nat.le_refl _) (by omega))]
      exact ⟨M, rfl, e2, e1, e3, e4⟩
/-- only these rows -/
def e4P (M M0 : SM) : Prop := (∀ c j, c ≠ 318 → c ≠ 319 → c ≠ 324 → c ≠ 325 → M.1 c j = M0.1 c j) ∧ M.2 = M0.2
theorem bo_L116_g {K : Int32 → Int32 → SM → Option (Unit × SM)} {M0 : SM} (ht : I_tn M0) (h : I_en M0) (m : Int32) {f : Nat} (hf : f < frM M0) (hm : M0.1 184 f = m) (S : Nat → Int32) : ∀ fu w (M : SM), nwM M0 + 1 - w < fu → w ≤ nwM M0 + 1 → e4P M M0 → (∀ j, j < 5200 → M.1 324 j = S j) → (∀ w, w < 520 → M.1 318 w = knN M0 f w (M0.1 179 0) (enM M0)) → (∀ w' s, w' ≤ nwM M0 → s < 10 → M.1 325 (10 * w' + s) = mdN M0 m w' s (M0.1 179 0) (if w' < w then f + 1 else f)) →
    ∃ M' : SM, qmd_booksOf_L116 K fu m (nI f) (nI w) M = K m (nI f) M' ∧ e4P M' M0 ∧ (∀ j, j < 5200 → M'.1 324 j = S j) ∧ ∀ w' s, w' ≤ nwM M0 → s < 10 → M'.1 325 (10 * w' + s) = mdN M0 m w' s (M0.1 179 0) (f + 1) := by
  have an := ht.nw
  have a := h.1
  intro fu
  induction fu with
  | zero => intro w M hfu; omega
  | succ fu ih =>
    intro w M hfu hw e1 e2 e3 e4
    unfold qmd_booksOf_L116
    rw [e1.1 280 0 (by omega) (by omega) (by omega) (by omega), an.2.2]
    by_cases hlt : w ≤ nwM M0
    · rw [if_neg (by rw [nI_ltN (by omega) (by omega)]; omega), ck_ib (by omega) (by omega), ck_t, nI_cl (by omega), e3 w (by omega), nI_1]
      have eS : ∀ s, mdN M0 m w s (M0.1 179 0) (f + 1) = mdN M0 m w s (M0.1 179 0) f + (if M0.1 184 f = m ∧ ¬ knN M0 f w (M0.1 179 0) (enM M0) = -1 ∧ M0.1 214 (Int32.toNatClampNeg (knN M0 f w (M0.1 179 0) (enM M0))) = nI s then M0.1 215 (Int32.toNatClampNeg (knN M0 f w (M0.1 179 0) (enM M0))) else 0) := fun s => rfl
      rcases knN_or M0 f w (M0.1 179 0) (enM M0) with q | ⟨e, he, q, -, -⟩
      · rw [if_pos q]
        refine ih (w + 1) M (by omega) (by omega) e1 e2 e3 (fun w' s hw' hs => ?_)
        rw [e4 w' s hw' hs]
        by_cases z : w' = w
        · subst z
          rw [if_neg (by omega), if_pos (by omega), eS, if_neg (fun y => y.2.1 q), Int32.add_zero]
        · by_cases z2 : w' < w
          · rw [if_pos z2, if_pos (by omega)]
          · rw [if_neg z2, if_neg (by omega)]
      · obtain ⟨-, -, ⟨s', hs', b5⟩, -⟩ := h.2.2.1 e he
        have r2 : M.1 312 e = nI s' := by rw [e1.1 _ _ (by omega) (by omega) (by omega) (by omega), ← b5]; exact h.2.1 2 (by omega) e he
        have r3 : M.1 313 e = M0.1 215 e := by rw [e1.1 _ _ (by omega) (by omega) (by omega) (by omega)]; exact h.2.1 3 (by omega) e he
        rw [q, if_neg (nI_ne_m1 (by omega)), ck_ib (by omega) (by omega), ck_ib (by omega) (by omega), nI_cl (by omega), r2, r3, show (10 : Int32) = nI 10 from rfl, nI_mul, nI_add, ck_ib (by omega) (by omega), ck_ib (by omega) (by omega), ck_ib (by omega) (by omega), ck_t, nI_cl (by omega)]
        refine ih (w + 1) (wI M 325 (10 * w + s') (M.1 325 (10 * w + s') + M0.1 215 e)) (by omega) (by omega) ⟨fun c j q1 q2 q3 q4 => by rw [wI_1, if_neg (by omega)]; exact e1.1 c j q1 q2 q3 q4, e1.2⟩ (fun j hj => by rw [wI_1, if_neg (by omega)]; exact e2 j hj) (fun w' hw' => by rw [wI_1, if_neg (by omega)]; exact e3 w' hw') (fun w' s hw' hs => ?_)
        rw [wI_1]
        by_cases z : w' = w
        · subst z
          by_cases z3 : s = s'
          · subst z3
            rw [if_pos ⟨rfl, rfl⟩, if_pos (by omega), e4 w' s hw' hs, if_neg (by omega), eS, q, nI_cl (by omega), if_pos ⟨hm, nI_ne_m1 (by omega), b5⟩]
          · rw [if_neg (by omega), if_pos (by omega), e4 w' s hw' hs, if_neg (by omega), eS, q, nI_cl (by omega), if_neg (fun y => z3 (nI_inj (by omega) (by omega) (b5.symm.trans y.2.2)).symm), Int32.add_zero]
        · rw [if_neg (by omega), e4 w' s hw' hs]
          by_cases z2 : w' < w
          · rw [if_pos z2, if_pos (by omega)]
          · rw [if_neg z2, if_neg (by omega)]
    · obtain rfl : w = nwM M0 + 1 := by omega
      rw [if_pos (by rw [nI_ltN (by omega) (by omega)]; omega)]
      exact ⟨M, rfl, e1, e2, fun w' s hw' hs => by rw [e4 w' s hw' hs, if_pos (by omega)]⟩
theorem bo_L84_g {M0 : SM} (ht : I_tn M0) (h : I_en M0) (m : Int32) (S : Nat → Int32) : ∀ fu f (M : SM), frM M0 - f < fu → f ≤ frM M0 → e4P M M0 → (∀ j, j < 5200 → M.1 324 j = S j) → (∀ w' s, w' ≤ nwM M0 → s < 10 → M.1 325 (10 * w' + s) = mdN M0 m w' s (M0.1 179 0) f) →
    ∃ M' : SM, qmd_booksOf_L84 fu m (nI f) M = some ((), M') ∧ e4P M' M0 ∧ (∀ j, j < 5200 → M'.1 324 j = S j) ∧ ∀ w' s, w' ≤ nwM M0 → s < 10 → M'.1 325 (10 * w' + s) = mdN M0 m w' s (M0.1 179 0) (frM M0) := by
  have an := ht.nw
  have fs := ht.fs
  intro fu
  induction fu with
  | zero => intro f M hfu; omega
  | succ fu ih =>
    intro f M hfu hf e1 e2 e4
    unfold qmd_booksOf_L84
    rw [e1.1 280 3 (by omega) (by omega) (by omega) (by omega), fs.2.2]
    by_cases hlt : f < frM M0
    · obtain ⟨-, b2, -⟩ := ht.fa f hlt
      rw [if_pos ((nI_ltI (by omega) (by omega)).mpr hlt), ck_ib (by omega) (by omega), ck_t, nI_cl (by omega), e1.1 284 _ (by omega) (by omega) (by omega) (by omega), b2, nI_1]
      have eS : ∀ w s, mdN M0 m w s (M0.1 179 0) (f + 1) = mdN M0 m w s (M0.1 179 0) f + (if M0.1 184 f = m ∧ ¬ knN M0 f w (M0.1 179 0) (enM M0) = -1 ∧ M0.1 214 (Int32.toNatClampNeg (knN M0 f w (M0.1 179 0) (enM M0))) = nI s then M0.1 215 (Int32.toNatClampNeg (knN M0 f w (M0.1 179 0) (enM M0))) else 0) := fun w s => rfl
      by_cases q : M0.1 184 f = m
      · rw [if_pos q]
        have ht' : I_tn M := ht.fr (fun c i hs => e1.1 c i (by unfold sTn at hs; omega) (by unfold sTn at hs; omega) (by unfold sTn at hs; omega) (by unfold sTn at hs; omega))
        have he' : I_en M := h.fr (fun c i hs => e1.1 c i (by unfold sEn at hs; omega) (by unfold sEn at hs; omega) (by unfold sEn at hs; omega) (by unfold sEn at hs; omega))
        have ef : frM M = frM M0 := by unfold frM; rw [e1.1 _ _ (by omega) (by omega) (by omega) (by omega)]
        have ee : enM M = enM M0 := by unfold enM; rw [e1.1 _ _ (by omega) (by omega) (by omega) (by omega)]
        obtain ⟨M1, g1, g2, g3, g4, -⟩ := goesThrough_g ht' he' (f := f) (by omega) (M0.1 179 0)
        rw [e1.1 280 0 (by omega) (by omega) (by omega) (by omega), an.2.2, ← an.1, g1, ob_s]
        obtain ⟨M2, k1, k2, k3, k4⟩ := bo_L116_g (K := fun y1_19 y2_20 M21 => qmd_booksOf_L84 fu y1_19 (y2_20 + (1 : Int32)) M21) ht h m hlt q S FU 0 M1 (by unfold FU; omega) (by omega) ⟨fun c j q1 q2 q3 q4 => by rw [g3 c j q1 q2]; exact e1.1 c j q1 q2 q3 q4, g2.trans e1.2⟩ (fun j hj => by rw [g3 _ _ (by omega) (by omega)]; exact e2 j hj) (fun w hw => by
            rw [g4 w hw, ee]
            exact knN_same (fun e => e1.1 _ _ (by omega) (by omega) (by omega) (by omega)) (fun e => e1.1 _ _ (by omega) (by omega) (by omega) (by omega)) (fun e => e1.1 _ _ (by omega) (by omega) (by omega) (by omega)) f w _ _) (fun w' s hw' hs => by
            rw [g3 _ _ (by omega) (by omega), if_neg (by omega)]; exact e4 w' s hw' hs)
        rw [show (0 : Int32) = nI 0 from rfl, k1]
        show ∃ M', qmd_booksOf_L84 fu m (nI f + 1) M2 = _ ∧ _
        rw [nI_1]
        exact ih (f + 1) M2 (by omega) (by omega) k2 k3 k4
      · rw [if_neg q]
        refine ih (f + 1) M (by omega) (by omega) e1 e2 (fun w' s hw' hs => ?_)
        rw [e4 w' s hw' hs, eS, if_neg (fun y => q y.1), Int32.add_zero]
    · obtain rfl : f = frM M0 := by omega
      rw [if_neg (nI_nlt (Nat.le_refl _) (by omega))]
      exact ⟨M, rfl, e1, e2, e4⟩
theorem booksOf_g (ht : I_tn M) (h : I_en M) (hb : I_bk M) (m : Int32) : ∃ M' : SM, qmd_booksOf m M = some ((), M') ∧ e4P M' M ∧ (∀ w s, w < 520 → s < 10 → M'.1 324 (10 * w + s) = sdN M m w s (bkM M)) ∧ ∀ w s, w ≤ nwM M → s < 10 → M'.1 325 (10 * w + s) = mdN M m w s (M.1 179 0) (frM M) := by
  have b1 := hb.1
  have fs := ht.fs
  have an := ht.nw
  unfold qmd_booksOf
  rw [show (0 : Int32) = nI 0 from rfl]
  obtain ⟨M1, f1, f2, f3⟩ := bo_L2_g (K := fun y1_3 M4 => qmd_booksOf_L31 (fun y1_9 M10 => qmd_booksOf_L84 FU y1_9 (nI 0) M10) FU y1_3 (nI 0) M4) m FU 0 M (by unfold FU; omega) (by omega)
  obtain ⟨M2, g1, g2, g3, g4, g5⟩ := bo_L31_g (K := fun y1_9 M10 => qmd_booksOf_L84 FU y1_9 (nI 0) M10) hb m FU 0 M1 (by unfold FU; omega) (by omega) (fun c j q1 q2 => by rw [f3, if_neg (by omega)]) f2 (fun j hj => by rw [f3, if_pos ⟨by omega, by omega, hj⟩]) (fun w s hw hs => by rw [f3, if_pos ⟨by omega, by omega, by omega⟩]; rfl)
  obtain ⟨M3, k1, k2, k3, k4⟩ := bo_L84_g ht h m (fun j => M2.1 324 j) FU 0 M2 (by unfold FU; omega) (by omega) ⟨fun c j _ _ q3 q4 => g3 c j q3 q4, g2⟩ (fun j _ => rfl) (fun w s hw hs => by rw [g4 _ (by omega)]; rfl)
  refine ⟨M3, ?_, k2, fun w s hw hs => ?_, k4⟩
  · rw [f1]
    refine Eq.trans g1 ?_
    exact k1
  · rw [k3 _ (by omega)]; exact g5 w s hw hs
theorem md_L44_g {M0 : SM} (ht : I_tn M0) {K : Int32 → Int32 → SM → Option (Int32 × SM)} (m wh : Int32) {i : Nat} (hi : i < 2147483648) (M : SM) (e0 : M.1 280 0 = nI (nwM M0)) (eS : ∀ w s, w < 520 → s < 10 → M.1 324 (10 * w + s) = sdN M0 m w s (bkM M0)) (eM : ∀ w s, w ≤ nwM M0 → s < 10 → M.1 325 (10 * w + s) = mdN M0 m w s (M0.1 179 0) (frM M0)) (R : Option Nat → Option (Int32 × SM)) (hR : R none = some (-1, M))
    (hK : ∀ x, x < 10 * (nwM M0 + 1) → K wh (nI x) M = R (some x)) : ∀ fu x n, 10 * (nwM M0 + 1) - x < fu → x ≤ 10 * (nwM M0 + 1) → n ≤ i → qmd_differs_L44 K fu (nI i) wh (nI n) (nI x) M = R (fdN (dfP M0 m) (10 * (nwM M0 + 1) - x) x (i - n)) := by
  have an := ht.nw
  intro fu
  induction fu with
  | zero => intro x n hf; omega
  | succ fu ih =>
    intro x n hf hx hn
    unfold qmd_differs_L44
    rw [e0, nI_1, show (10 : Int32) = nI 10 from rfl, nI_mul]
    by_cases hlt : x < 10 * (nwM M0 + 1)
    · have d1 := Nat.div_add_mod x 10
      have d2 := Nat.mod_lt x (show 10 > 0 by omega)
      have v1 : M.1 324 x = sdN M0 m (x / 10) (x % 10) (bkM M0) := by
        have := eS (x / 10) (x % 10) (by omega) d2
        rwa [d1] at this
      have v2 : M.1 325 x = mdN M0 m (x / 10) (x % 10) (M0.1 179 0) (frM M0) := by
        have := eM (x / 10) (x % 10) (by omega) d2
        rwa [d1] at this
      rw [if_pos ((nI_ltI (by omega) (by omega)).mpr hlt), ck_ib (by omega) (by omega), ck_ib (by omega) (by omega), ck_t, nI_cl (by omega), v1, v2, nI_1, nI_1]
      obtain ⟨k, hk⟩ : ∃ k, 10 * (nwM M0 + 1) - x = k + 1 := ⟨10 * (nwM M0 + 1) - x - 1, by omega⟩
      have hk2 : 10 * (nwM M0 + 1) - (x + 1) = k := by omega
      have ef : fdN (dfP M0 m) (k + 1) x (i - n) = (if dfP M0 m x = true then (if i - n = 0 then some x else fdN (dfP M0 m) k (x + 1) (i - n - 1)) else fdN (dfP M0 m) k (x + 1) (i - n)) := rfl
      rw [hk, ef]
      by_cases q : sdN M0 m (x / 10) (x % 10) (bkM M0) = mdN M0 m (x / 10) (x % 10) (M0.1 179 0) (frM M0)
      · rw [if_pos q, if_neg (show ¬ dfP M0 m x = true by unfold dfP; simp [q])]
        have := ih (x + 1) n (by omega) (by omega) hn
        rw [hk2] at this
        exact this
      · rw [if_neg q, if_pos (show dfP M0 m x = true by unfold dfP; simp [q])]
        by_cases z : n = i
        · subst z
          rw [if_pos rfl, if_pos (by omega)]
          exact hK x hlt
        · rw [if_neg (by rw [nI_eqN (by omega) (by omega)]; exact z), if_neg (by omega)]
          have := ih (x + 1) (n + 1) (by omega) (by omega) (by omega)
          rw [hk2, show i - (n + 1) = i - n - 1 by omega] at this
          exact this
    · obtain rfl : x = 10 * (nwM M0 + 1) := by omega
      rw [if_neg (nI_nlt (Nat.le_refl _) (by omega)), show 10 * (nwM M0 + 1) - 10 * (nwM M0 + 1) = 0 by omega]
      exact hR.symm
theorem fdN_lt (d : Nat → Bool) : ∀ k x i y, fdN d k x i = some y → y < x + k
  | 0, _, _, _, h => by cases h
  | k + 1, x, i, y, h => by
    have ef : fdN d (k + 1) x i = (if d x = true then (if i = 0 then some x else fdN d k (x + 1) (i - 1)) else fdN d k (x + 1) i) := rfl
    rw [ef] at h
    split at h
    · split at h
      · cases h; omega
      · have := fdN_lt d k _ _ _ h; omega
    · have := fdN_lt d k _ _ _ h; omega
theorem differs_p (ht : I_tn M) (h : I_en M) (hb : I_bk M) (x1 x2 x3 : Int32) : Pr M (qfr_differs x1 x2 x3) (qmd_differs x1 x2 x3) (fun M2 => e4P M2 M) := by
  have am := ht.ms
  have an := ht.nw
  have rf : e4P M M := ⟨fun _ _ _ _ _ _ => rfl, rfl⟩
  have no : qfr_differs x1 x2 x3 M = some (-1, M) → qmd_differs x1 x2 x3 M = some (-1, M) → Pr M (qfr_differs x1 x2 x3) (qmd_differs x1 x2 x3) (fun M2 => e4P M2 M) := fun e1 e2 => Pr.mk e1 e2 rf
  rcases ix x1 (msM M) (by omega) with ⟨m, hm, rfl⟩ | hbm
  rotate_left
  · exact no (by unfold qfr_differs; rw [isBagman_b ht hbm, ob_s, if_pos rfl]) (by unfold qmd_differs; rw [md_isMaster_b ht hbm, ob_s, if_pos rfl])
  have ho := ht.ho m hm
  by_cases hh : M.1 180 m = -1
  · exact no (by unfold qfr_differs; rw [isBagman_g ht hm, if_pos hh, ob_s, if_pos rfl]) (by unfold qmd_differs; rw [md_isMaster_g ht hm, ob_s, if_neg (by decide), ck_ib (by omega) (by omega), ck_t, nI_cl (by omega), ho, if_pos hh])
  by_cases h0 : x2 < 0
  · exact no (by unfold qfr_differs; rw [isBagman_g ht hm, if_neg hh, ob_s, if_neg (by decide), if_pos h0]) (by unfold qmd_differs; rw [md_isMaster_g ht hm, ob_s, if_neg (by decide), ck_ib (by omega) (by omega), ck_t, nI_cl (by omega), ho, if_neg hh, if_pos h0])
  obtain ⟨i, hi, rfl⟩ := nI_of h0
  rcases rg x3 0 3 0 3 rfl rfl with ⟨wh, hw1, hw2, rfl, a1, a2⟩ | hbw
  rotate_left
  · exact no (by unfold qfr_differs; rw [isBagman_g ht hm, if_neg hh, ob_s, if_neg (by decide), if_neg h0, within_f hbw, ob_s, if_pos rfl]) (by unfold qmd_differs; rw [md_isMaster_g ht hm, ob_s, if_neg (by decide), ck_ib (by omega) (by omega), ck_t, nI_cl (by omega), ho, if_neg hh, if_neg h0, md_in_f hbw, ob_s, if_pos rfl])
  obtain ⟨M2, k1, k2, k3, k4⟩ := booksOf_g ht h hb (nI m)
  have wc : wh = 0 ∨ wh = 1 ∨ wh = 2 ∨ wh = 3 := by omega
  have c1 := fr_L32_g ht h hb (K := fun y3_28 y5_29 y6_30 y7_31 y8_32 M33 => ob (qfr_chosen y3_28 y5_29 y6_30 y7_31 y8_32 M33) (fun r34 M35 => some (r34, M35))) (nI m) (nI wh) (fun o => some (dfR M (nI m) wh o, M)) rfl (fun w s hw hs => by
    show ob (qfr_chosen _ _ _ _ _ M) _ = some (if wh = 0 then nI ((10 * w + s) / 10) else if wh = 1 then nI ((10 * w + s) % 10) else if wh = 2 then sdN M (nI m) ((10 * w + s) / 10) ((10 * w + s) % 10) (bkM M) else mdN M (nI m) ((10 * w + s) / 10) ((10 * w + s) % 10) (M.1 179 0) (frM M), M)
    rw [show (10 * w + s) / 10 = w by omega, show (10 * w + s) % 10 = s by omega]
    rcases wc with rfl | rfl | rfl | rfl <;> rfl) FU 0 i (by unfold FU; omega) (by omega) hi
  have c2 := md_L44_g ht (K := fun y3_15 y5_16 M17 =>
          if y3_15 = 0 then
            (some ((y5_16 / (10 : Int32)), M17)) else
            (if y3_15 = (1 : Int32) then
              (some ((y5_16 - y5_16 / (10 : Int32) * (10 : Int32)), M17)) else
              (if y3_15 = (2 : Int32) then
                (ck (ib 5200 y5_16 && true) (
                  some ((M17.1 324 (Int32.toNatClampNeg y5_16)), M17))) else
                (ck (ib 5200 y5_16 && true) (
                  some ((M17.1 325 (Int32.toNatClampNeg y5_16)), M17)))))) (nI m) (nI wh) hi M2 ((k2.1 _ _ (by omega) (by omega) (by omega) (by omega)).trans an.2.2) k3 k4 (fun o => some (dfR M (nI m) wh o, M2)) rfl (fun x hx => by
    show (if nI wh = 0 then _ else _) = some (if wh = 0 then nI (x / 10) else if wh = 1 then nI (x % 10) else if wh = 2 then sdN M (nI m) (x / 10) (x % 10) (bkM M) else mdN M (nI m) (x / 10) (x % 10) (M.1 179 0) (frM M), M2)
    have d1 := Nat.div_add_mod x 10
    have d2 := Nat.mod_lt x (show 10 > 0 by omega)
    have v1 : M2.1 324 x = sdN M (nI m) (x / 10) (x % 10) (bkM M) := by
      have := k3 (x / 10) (x % 10) (by omega) d2
      rwa [d1] at this
    have v2 : M2.1 325 x = mdN M (nI m) (x / 10) (x % 10) (M.1 179 0) (frM M) := by
      have := k4 (x / 10) (x % 10) (by omega) d2
      rwa [d1] at this
    rw [show (10 : Int32) = nI 10 from rfl, pk_rem (by omega) (by omega) (by omega), pk_div (by omega) (by omega) (by omega), ck_ib (by omega) (by omega), ck_ib (by omega) (by omega), ck_t, ck_t, nI_cl (by omega), v1, v2]
    rcases wc with rfl | rfl | rfl | rfl <;> rfl) FU 0 0 (by unfold FU; omega) (by omega) (by omega)
  refine Pr.mk (r := dfR M (nI m) wh (fdN (dfP M (nI m)) (10 * (nwM M + 1)) 0 i)) (M1 := M) (M2 := M2) ?_ ?_ k2
  · unfold qfr_differs
    rw [isBagman_g ht hm, if_neg hh, ob_s, if_neg (by decide), if_neg h0, within_t a1 a2, ob_s, if_neg (by decide)]
    exact c1
  · unfold qmd_differs
    rw [md_isMaster_g ht hm, ob_s, if_neg (by decide), ck_ib (by omega) (by omega), ck_t, nI_cl (by omega), ho, if_neg hh, if_neg h0, md_in_t a1 a2, ob_s, if_neg (by decide), k1, ob_s]
    exact c2
end
