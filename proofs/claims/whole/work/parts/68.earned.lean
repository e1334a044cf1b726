/-! earned, beside -/
section
variable {M : SM} {V : Nat → FA → LE} {B : Nat → FA → LE → Int64}
/-- the list of a frame's master in a week -/
def mlN (M : SM) (f w : Nat) : Int32 := M.1 (204 + Int32.toNatClampNeg (M.1 184 f)) w
/-- earned on the first n frames -/
def eaN (M : SM) (V : Nat → FA → LE) (B : Nat → FA → LE → Int64) (k w : Nat) (t : Int32) : Nat → Int64
  | 0 => 0
  | f + 1 => if M.1 (187 + f) w = nI k then eaN M V B k w t f + ((neN M V B f w t (mlN M f w) - trN M V B f w t (mlN M f w)) + trN M V B f w t (mlN M f w) * 100 / Int32.toInt64 (100 + M.1 181 (Int32.toNatClampNeg (M.1 184 f)))) else eaN M V B k w t f
theorem ov_ne {n : Nat} (h : n ≤ 200) : ¬ Int32.toInt64 (100 + nI n) = 0 := by
  rw [show (100 : Int32) = nI 100 from rfl, nI_add, nI_l (by omega)]
  intro q
  have := congrArg Int64.toInt q
  rw [lN_toInt (by omega)] at this
  rw [show (0 : Int64).toInt = 0 from rfl] at this
  omega
theorem imx0 {n : Nat} (h : n < 2147483648) : imx 0 (nI n) = nI n := by
  unfold imx
  by_cases q : n = 0
  · subst q; rfl
  · rw [if_pos (show (0 : Int32) < nI n from nI_lt (a := 0) (by omega) h)]
theorem frEarned_L33_g (ht : I_tn M) (he : I_en M) (hu : I_us M) (hp : PR M V B) {K : Int32 → Int32 → Int64 → SM → Option (Int64 × SM)} {k w : Nat} (hk : k < knM M) (hw : w < 520) (t y : Int32) : ∀ fu f (M' : SM), frM M - f < fu → f ≤ frM M → oC M M' →
    ∃ M1 : SM, qfr_earned_L33 K fu (nI k) (nI w) t y (eaN M V B k w t f) (nI f) M' = K (nI k) y (eaN M V B k w t (frM M)) M1 ∧ oC M M1 := by
  have fs := ht.fs
  have am := ht.ms
  have ak := ht.kn
  intro fu
  induction fu with
  | zero => intro f M' hf; omega
  | succ fu ih =>
    intro f M' hf hl o
    have et := o.tn
    have ht' := ht.fr et
    unfold qfr_earned_L33
    rw [et 179 3 (by unfold sTn; omega), fs.1]
    by_cases hlt : f < frM M
    · obtain ⟨b1, b2, b3, ⟨m, hm, b4⟩, b6⟩ := ht.fa f hlt
      obtain ⟨-, ⟨ov, ov1, ov2⟩⟩ := ht.ov m (by omega)
      have f' : f < frM M' := by rw [frM_E et]; exact hlt
      have ee : eaN M V B k w t (f + 1) = if M.1 (187 + f) w = nI k then eaN M V B k w t f + ((neN M V B f w t (mlN M f w) - trN M V B f w t (mlN M f w)) + trN M V B f w t (mlN M f w) * 100 / Int32.toInt64 (100 + M.1 181 (Int32.toNatClampNeg (M.1 184 f)))) else eaN M V B k w t f := rfl
      have hml : mlN M f w = M.1 (204 + m) w := by unfold mlN; rw [b4, nI_cl (by omega)]
      rw [if_pos ((nI_ltI (by omega) (by omega)).mpr hlt), masterOf_g ht' f', ob_s, et 184 f (by unfold sTn; omega), b4, holderAt_g ht' f' hw, ob_s, hold_E et (by omega), nI_1]
      by_cases q : M.1 (187 + f) w = nI k
      · obtain ⟨M1, c1, c2, c3, c4, c5, c6, c7⟩ := week_c ht he hu hp hlt hw (by rw [q]; exact nI_ne_m1 (by omega)) t (okli_u ht hu (m := m) (by omega) hw) M' o
        have hli : qtn_listIn (nI m) (nI w) M' = some (M.1 (204 + m) w, M') := by
          rw [listIn_g ht' (by rw [msM_E et]; exact hm) hw, o.us _ _ (by unfold sUs; omega)]
        have hov : qtn_overOf (nI m) M1 = some (nI ov, M1) := by
          rw [overOf_g (ht.fr c2.tn) (by rw [msM_E c2.tn]; exact hm), c2.tn _ _ (by unfold sTn; omega), ov2]
        rw [if_pos q, hli, ob_s, c1, ob_s, if_neg (by decide), c7, ob_s, c6, ob_s, hov, ob_s, imx0 (by omega), ck_dt (ov_ne ov1), ck_t, ltt_s]
        have := ih (f + 1) M1 (by omega) (by omega) c2
        rw [ee, if_pos q, hml, b4, nI_cl (by omega), ov2] at this
        exact this
      · rw [if_neg q]
        have := ih (f + 1) M' (by omega) (by omega) o
        rw [ee, if_neg q] at this
        exact this
    · obtain rfl : f = frM M := by omega
      rw [if_neg (nI_nlt (Nat.le_refl _) (by omega))]
      exact ⟨M', rfl, o⟩
theorem mdEarned_L6_g (ht : I_tn M) (he : I_en M) (hu : I_us M) (hp : PR M V B) {k w : Nat} (hk : k < knM M) (hw : w < 520) (t : Int32) : ∀ fu f (M' : SM), frM M - f < fu → f ≤ frM M → Ov sRk sRkL M M' →
    ∃ M1 : SM, qmd_earnedBy_L6 fu (nI k) (nI w) t (eaN M V B k w t f) (nI f) M' = some (eaN M V B k w t (frM M), M1) ∧ Ov sRk sRkL M M1 := by
  have fs := ht.fs
  have am := ht.ms
  have ak := ht.kn
  intro fu
  induction fu with
  | zero => intro f M' hf; omega
  | succ fu ih =>
    intro f M' hf hl o
    have et := o.tn
    have ht' := ht.fr et
    unfold qmd_earnedBy_L6
    rw [et 280 3 (by unfold sTn; omega), fs.2.2]
    by_cases hlt : f < frM M
    · obtain ⟨b1, b2, b3, ⟨m, hm, b4⟩, b6⟩ := ht.fa f hlt
      obtain ⟨ov0, ⟨ov, ov1, ov2⟩⟩ := ht.ov m (by omega)
      have f' : f < frM M' := by rw [frM_E et]; exact hlt
      have ee : eaN M V B k w t (f + 1) = if M.1 (187 + f) w = nI k then eaN M V B k w t f + ((neN M V B f w t (mlN M f w) - trN M V B f w t (mlN M f w)) + trN M V B f w t (mlN M f w) * 100 / Int32.toInt64 (100 + M.1 181 (Int32.toNatClampNeg (M.1 184 f)))) else eaN M V B k w t f := rfl
      have hml : mlN M f w = M.1 (204 + m) w := by unfold mlN; rw [b4, nI_cl (by omega)]
      rw [if_pos ((nI_ltI (by omega) (by omega)).mpr hlt), hirerOf_g ht' f' hw, ob_s, hold_E et (by omega), nI_1]
      by_cases q : M.1 (187 + f) w = nI k
      · obtain ⟨M2, g1, g2, g3, g4⟩ := goes_W ht' (he.fr o.en) f' t
        have o2 : Ov sRk sRkL M M2 := o.tr g2.v
        obtain ⟨M3, k1, k2, k3, k4, k5, k6, k7⟩ := week_m ht he hu hp hlt hw (by rw [q]; exact nI_ne_m1 (by omega)) t (okli_u ht hu (m := m) (by omega) hw) M2 o2.tn o2.en o2.us o2.pr g4
        have o3 : Ov sRk sRkL M M3 := o2.tr k2.w.v
        have l1 : M2.1 287 (520 * m + w) = M.1 (204 + m) w := by rw [o2.us _ _ (by unfold sUs; omega)]; exact (hu.2 m (by omega) w hw).1
        have l2 : M2.1 284 f = nI m := by rw [o2.tn _ _ (by unfold sTn; omega), b2]; exact b4
        have l3 : M3.1 284 f = nI m := by rw [o3.tn _ _ (by unfold sTn; omega), b2]; exact b4
        have l4 : M3.1 286 m = nI ov := by rw [o3.tn _ _ (by unfold sTn; omega), ov0]; exact ov2
        rw [if_pos q, g1, ob_s, ck_ib (by omega) (by omega), nI_cl (by omega), l2, show (520 : Int32) = nI 520 from rfl, nI_mul, nI_add, ck_ib (by omega) (by omega), ck_t, nI_cl (by omega), l1, k1, ob_s, k7, ob_s, k6, ob_s, l3, nI_cl (by omega), ck_ib (by omega) (by omega), ck_ib (by omega) (by omega), l4, ck_dt (ov_ne ov1), ck_t, ltt_s]
        have := ih (f + 1) M3 (by omega) (by omega) o3
        rw [ee, if_pos q, hml, b4, nI_cl (by omega), ov2] at this
        rw [show eaN M V B k w t f + neN M V B f w t (M.1 (204 + m) w) - trN M V B f w t (M.1 (204 + m) w) + trN M V B f w t (M.1 (204 + m) w) * 100 / Int32.toInt64 (100 + nI ov) = eaN M V B k w t f + ((neN M V B f w t (M.1 (204 + m) w) - trN M V B f w t (M.1 (204 + m) w)) + trN M V B f w t (M.1 (204 + m) w) * 100 / Int32.toInt64 (100 + nI ov)) from by
          rw [Int64.sub_eq_add_neg, Int64.sub_eq_add_neg, Int64.add_assoc, Int64.add_assoc, Int64.add_assoc]]
        exact this
      · rw [if_neg q]
        have := ih (f + 1) M' (by omega) (by omega) o
        rw [ee, if_neg q] at this
        exact this
    · obtain rfl : f = frM M := by omega
      rw [if_neg (nI_nlt (Nat.le_refl _) (by omega))]
      exact ⟨M', rfl, o⟩
theorem earned_p (ht : I_tn M) (he : I_en M) (hu : I_us M) (hs : I_ms M) (hp : PR M V B) (x1 x2 x3 x4 : Int32) : Pr M (qfr_earned x1 x2 x3 x4) (qmd_earned x1 x2 x3 x4) (fun M2 => Ov sRk sRkL M M2) := by
  have ak := ht.kn
  have fs := ht.fs
  have no : qfr_earned x1 x2 x3 x4 M = some (0, M) → qmd_earned x1 x2 x3 x4 M = some (0, M) → Pr M (qfr_earned x1 x2 x3 x4) (qmd_earned x1 x2 x3 x4) (fun M2 => Ov sRk sRkL M M2) := fun e1 e2 => Pr.mk e1 e2 (Ov.rf _ _ _)
  rcases ix x1 (knM M) (by omega) with ⟨k, hk, rfl⟩ | hb
  rotate_left
  · exact no (by unfold qfr_earned; rw [hasKnitter_b ht hb, ob_s, if_pos rfl]) (by unfold qmd_earned; rw [md_isKnitter_b ht hb, ob_s, if_pos rfl])
  rcases ix x2 520 (by omega) with ⟨w, hw, rfl⟩ | hb
  rotate_left
  · exact no (by unfold qfr_earned; rw [hasKnitter_g ht hk, ob_s, if_neg (by decide), isWeek_b hb, ob_s, if_pos rfl]) (by unfold qmd_earned; rw [md_isKnitter_g ht hk, ob_s, if_neg (by decide), md_isWeek_b hb, ob_s, if_pos rfl])
  rcases ix x3 520 (by omega) with ⟨t, ht5, rfl⟩ | hb
  rotate_left
  · exact no (by unfold qfr_earned; rw [hasKnitter_g ht hk, ob_s, if_neg (by decide), isWeek_g hw, ob_s, if_neg (by decide), isWeek_b hb, ob_s, if_pos rfl]) (by unfold qmd_earned; rw [md_isKnitter_g ht hk, ob_s, if_neg (by decide), md_isWeek_g hw, ob_s, if_neg (by decide), md_isWeek_b hb, ob_s, if_pos rfl])
  obtain ⟨⟨p, p1, p2, p3⟩, -⟩ := hs
  obtain ⟨h1, n, n1, n2, n3⟩ := ht.he k hk
  obtain ⟨M1, c1, c2⟩ := frEarned_L33_g ht he hu hp (K := fun y1_36 y4_37 y5_38 M39 =>
        if y4_37 = 0 then
          (some (y5_38, M39)) else
          (ob (qtn_headsOf y1_36 M39) (fun r40 M41 =>
            some ((lmx (0 : Int64) (((Int32.toInt64 (M39.1 0 10)) * (Int32.toInt64 r40)) - y5_38)), M41)))) hk hw (nI t) x4 FU 0 M (by unfold FU; omega) (by omega) (oC.rf M)
  have o1 := c2.v
  obtain ⟨M2, d1, d2⟩ := mdEarned_L6_g ht he hu hp hk hw (nI t) FU 0 M1 (by unfold FU; omega) (by omega) o1
  generalize eaN M V B k w (nI t) (frM M) = r at c1 d1
  have cf : qfr_earned (nI k) (nI w) (nI t) x4 M = (if x4 = 0 then
          (some (r, M1)) else
          (ob (qtn_headsOf (nI k) M1) (fun r40 M41 =>
            some ((lmx (0 : Int64) (((Int32.toInt64 (M1.1 0 10)) * (Int32.toInt64 r40)) - r)), M41)))) := by
    unfold qfr_earned
    rw [hasKnitter_g ht hk, ob_s, if_neg (by decide), isWeek_g hw, ob_s, if_neg (by decide), isWeek_g ht5, ob_s, if_neg (by decide)]
    exact c1
  have cm : qmd_earned (nI k) (nI w) (nI t) x4 M1 = (if x4 = 0 then
        (some (r, M2)) else
        (ck (ib 12 (nI k) && true) (
          lt ((Int32.toInt64 ((M2.1 280 58) * (M2.1 282 (Int32.toNatClampNeg (nI k))))) - r) (fun (z14 : Int64) =>
          if (lg_cmp z14 (0 : Int64)) < 0 then
          (some ((0 : Int64), M2)) else
          (some (z14, M2)))))) := by
    have q1 : qmd_isKnitter (nI k) M1 = some (1, M1) := md_isKnitter_rg ((c2.tn 280 2 (by unfold sTn; omega)).trans ak.2.2) (by omega) hk
    have d1' : qmd_earnedBy (nI k) (nI w) (nI t) M1 = some (r, M2) := d1
    unfold qmd_earned
    rw [q1, ob_s, if_neg (by decide), md_isWeek_g hw, ob_s, if_neg (by decide), md_isWeek_g ht5, ob_s, if_neg (by decide), d1', ob_s]
  by_cases q : x4 = 0
  · rw [if_pos q] at cf cm
    exact Pr.mk cf cm d2 c2.sc
  · rw [if_neg q] at cf cm
    have hN : Int32.toInt64 (nI p) * Int32.toInt64 (nI n) = Int32.toInt64 (nI p * nI n) := by
      have : p * n ≤ 1000 * 9 := Nat.mul_le_mul p1 n2
      rw [nI_mul, nI_l (by omega), nI_l (by omega), nI_l (by omega)]
      exact (Int64.ofNat_mul p n).symm
    rw [headsOf_g (ht.fr c2.tn) (by rw [knM_E c2.tn]; exact hk), ob_s, c2.tn 182 k (by unfold sTn; omega), c2.1 0 10 (by omega), p2, n3, hN] at cf
    rw [ck_ib (by omega) (by omega), ck_t, ltt_s, nI_cl (by omega), d2.1 280 58 (by unfold sRk; omega), p3, d2.tn 282 k (by unfold sTn; omega), h1, n3, ic_lt] at cm
    refine Pr.mk cf (M2 := M2) (cm.trans ?_) d2 c2.sc
    rw [lmx_i]
    split <;> rfl
/-- net by another list, of a frame, for n weeks from a on -/
def bsN (M : SM) (V : Nat → FA → LE) (B : Nat → FA → LE → Int64) (t l : Int32) (f a : Nat) (z : Int64) : Nat → Int64
  | 0 => z
  | n + 1 => if M.1 (187 + f) (a + n) = -1 then bsN M V B t l f a z n else bsN M V B t l f a z n + neN M V B f (a + n) t l
def bfN (M : SM) (V : Nat → FA → LE) (B : Nat → FA → LE → Int64) (m t l : Int32) (a n : Nat) : Nat → Int64
  | 0 => 0
  | f + 1 => if M.1 184 f = m then bsN M V B t l f a (bfN M V B m t l a n f) n else bfN M V B m t l a n f
theorem frBeside_L89_g (ht : I_tn M) (he : I_en M) (hu : I_us M) (hp : PR M V B) {K : Int32 → Int32 → Int32 → Int32 → Int64 → Int32 → SM → Option (Int64 × SM)} {f a b : Nat} (hf : f < frM M) (hb : b < 520) {l : Int32} (hl : okli M l) (m : Int32) (z : Int64) : ∀ fu n (M' : SM), b + 1 - (a + n) < fu → a + n ≤ b + 1 → oC M M' →
    ∃ M1 : SM, qfr_beside_L89 K fu m l (nI a) (nI b) (bsN M V B (M.1 179 0) l f a z n) (nI f) (nI (a + n)) M' = K m l (nI a) (nI b) (bsN M V B (M.1 179 0) l f a z (b + 1 - a)) (nI f) M1 ∧ oC M M1 := by
  have fs := ht.fs
  intro fu
  induction fu with
  | zero => intro n M' hf; omega
  | succ fu ih =>
    intro n M' hfu hn o
    have et := o.tn
    unfold qfr_beside_L89
    by_cases hlt : a + n ≤ b
    · have eb : bsN M V B (M.1 179 0) l f a z (n + 1) = if M.1 (187 + f) (a + n) = -1 then bsN M V B (M.1 179 0) l f a z n else bsN M V B (M.1 179 0) l f a z n + neN M V B f (a + n) (M.1 179 0) l := rfl
      rw [if_neg (by rw [nI_ltN (by omega) (by omega)]; omega), et 179 0 (by unfold sTn; omega), nI_1]
      by_cases q : M.1 (187 + f) (a + n) = -1
      · rw [reckonWeek_n (ht.fr et) (by rw [frM_E et]; exact hf) (by omega) (by rw [hold_E et (by omega)]; exact q), ob_s, if_pos rfl]
        have := ih (n + 1) M' (by omega) (by omega) o
        rw [eb, if_pos q] at this
        exact this
      · obtain ⟨M1, c1, c2, c3, c4, c5, c6, c7⟩ := week_c ht he hu hp hf (show a + n < 520 by omega) q (M.1 179 0) hl M' o
        rw [c1, ob_s, if_neg (by decide), c6, ob_s]
        have := ih (n + 1) M1 (by omega) (by omega) c2
        rw [eb, if_neg q] at this
        exact this
    · obtain rfl : n = b + 1 - a := by omega
      rw [if_pos (by rw [nI_ltN (by omega) (by omega)]; omega)]
      exact ⟨M', rfl, o⟩
theorem frBeside_L58_g (ht : I_tn M) (he : I_en M) (hu : I_us M) (hp : PR M V B) {a b : Nat} (hab : a ≤ b) (hb : b < 520) {l : Int32} (hl : okli M l) (m : Int32) : ∀ fu f (M' : SM), frM M - f < fu → f ≤ frM M → oC M M' →
    ∃ M1 : SM, qfr_beside_L58 fu m l (nI a) (nI b) (bfN M V B m (M.1 179 0) l a (b + 1 - a) f) (nI f) M' = some (bfN M V B m (M.1 179 0) l a (b + 1 - a) (frM M), M1) ∧ oC M M1 := by
  have fs := ht.fs
  intro fu
  induction fu with
  | zero => intro f M' hf; omega
  | succ fu ih =>
    intro f M' hfu hf o
    have et := o.tn
    unfold qfr_beside_L58
    rw [et 179 3 (by unfold sTn; omega), fs.1]
    by_cases hlt : f < frM M
    · have eb : bfN M V B m (M.1 179 0) l a (b + 1 - a) (f + 1) = if M.1 184 f = m then bsN M V B (M.1 179 0) l f a (bfN M V B m (M.1 179 0) l a (b + 1 - a) f) (b + 1 - a) else bfN M V B m (M.1 179 0) l a (b + 1 - a) f := rfl
      rw [if_pos ((nI_ltI (by omega) (by omega)).mpr hlt), masterOf_g (ht.fr et) (by rw [frM_E et]; exact hlt), ob_s, et 184 f (by unfold sTn; omega), nI_1]
      by_cases q : M.1 184 f = m
      · rw [if_pos q]
        obtain ⟨M1, c1, c2⟩ := frBeside_L89_g ht he hu hp (K := fun y1_19 y2_20 y3_21 y4_22 y5_23 y7_24 M25 => qfr_beside_L58 fu y1_19 y2_20 y3_21 y4_22 y5_23 (y7_24 + (1 : Int32)) M25) (a := a) hlt hb hl m (bfN M V B m (M.1 179 0) l a (b + 1 - a) f) FU 0 M' (by unfold FU; omega) (by omega) o
        rw [Nat.add_zero] at c1
        refine (show ∃ M1 : SM, _ = _ ∧ _ from ?_)
        have c1' := c1
        rw [show bsN M V B (M.1 179 0) l f a (bfN M V B m (M.1 179 0) l a (b + 1 - a) f) 0 = bfN M V B m (M.1 179 0) l a (b + 1 - a) f from rfl, show a + 0 = a from rfl] at c1'
        rw [c1']
        show ∃ M2 : SM, qfr_beside_L58 fu m l (nI a) (nI b) _ (nI f + 1) M1 = _ ∧ _
        rw [nI_1]
        have := ih (f + 1) M1 (by omega) (by omega) c2
        rw [eb, if_pos q] at this
        exact this
      · rw [if_neg q]
        have := ih (f + 1) M' (by omega) (by omega) o
        rw [eb, if_neg q] at this
        exact this
    · obtain rfl : f = frM M := by omega
      rw [if_neg (nI_nlt (Nat.le_refl _) (by omega))]
      exact ⟨M', rfl, o⟩
theorem mdBeside_L91_g (ht : I_tn M) (he : I_en M) (hu : I_us M) (hp : PR M V B) {K : Int32 → Int32 → Int32 → Int32 → Int64 → Int32 → SM → Option (Int64 × SM)} {f a b : Nat} (hf : f < frM M) (hb : b < 520) {l : Int32} (hl : okli M l) (m : Int32) (z : Int64) : ∀ fu n (M' : SM), b + 1 - (a + n) < fu → a + n ≤ b + 1 → Ov sRk sRkL M M' → GT M' f (M.1 179 0) →
    ∃ M1 : SM, qmd_beside_L91 K fu m l (nI a) (nI b) (bsN M V B (M.1 179 0) l f a z n) (nI f) (nI (a + n)) M' = K m l (nI a) (nI b) (bsN M V B (M.1 179 0) l f a z (b + 1 - a)) (nI f) M1 ∧ Ov sRk sRkL M M1 := by
  have fs := ht.fs
  intro fu
  induction fu with
  | zero => intro n M' hf; omega
  | succ fu ih =>
    intro n M' hfu hn o hg
    have et := o.tn
    unfold qmd_beside_L91
    by_cases hlt : a + n ≤ b
    · have eb : bsN M V B (M.1 179 0) l f a z (n + 1) = if M.1 (187 + f) (a + n) = -1 then bsN M V B (M.1 179 0) l f a z n else bsN M V B (M.1 179 0) l f a z n + neN M V B f (a + n) (M.1 179 0) l := rfl
      rw [if_neg (by rw [nI_ltN (by omega) (by omega)]; omega), nI_1]
      by_cases q : M.1 (187 + f) (a + n) = -1
      · rw [weekOf_n (ht.fr et) (by rw [frM_E et]; exact hf) (by omega) (by rw [hold_E et (by omega)]; exact q), ob_s, if_pos rfl, Int64.add_zero]
        have := ih (n + 1) M' (by omega) (by omega) o hg
        rw [eb, if_pos q] at this
        exact this
      · obtain ⟨M1, k1, k2, k3, k4, k5, k6, k7⟩ := week_m ht he hu hp hf (show a + n < 520 by omega) q (M.1 179 0) hl M' o.tn o.en o.us o.pr hg
        have o1 : Ov sRk sRkL M M1 := o.tr k2.w.v
        rw [k1, ob_s, if_neg (by decide), k6, ob_s]
        have g1 : GT M1 f (M.1 179 0) := by
          refine ⟨fun w hw => ?_, fun w hw => ?_⟩
          · rw [k2.1, hg.1 w hw, knN_E (M := M') (M' := M1) k2.e, enM_E (M := M') (M' := M1) k2.e]
          · rw [k2.1, hg.2 w hw, idN_E (M := M') (M' := M1) k2.e k2.e (by omega)]
        have := ih (n + 1) M1 (by omega) (by omega) o1 g1
        rw [eb, if_neg q] at this
        exact this
    · obtain rfl : n = b + 1 - a := by omega
      rw [if_pos (by rw [nI_ltN (by omega) (by omega)]; omega)]
      exact ⟨M', rfl, o⟩
theorem mdBeside_L55_g (ht : I_tn M) (he : I_en M) (hu : I_us M) (hp : PR M V B) {a b : Nat} (hab : a ≤ b) (hb : b < 520) {l : Int32} (hl : okli M l) (m : Int32) : ∀ fu f (M' : SM), frM M - f < fu → f ≤ frM M → Ov sRk sRkL M M' →
    ∃ M1 : SM, qmd_beside_L55 fu m l (nI a) (nI b) (bfN M V B m (M.1 179 0) l a (b + 1 - a) f) (nI f) M' = some (bfN M V B m (M.1 179 0) l a (b + 1 - a) (frM M), M1) ∧ Ov sRk sRkL M M1 := by
  have fs := ht.fs
  have an := ht.nw
  intro fu
  induction fu with
  | zero => intro f M' hf; omega
  | succ fu ih =>
    intro f M' hfu hf o
    have et := o.tn
    unfold qmd_beside_L55
    rw [et 280 3 (by unfold sTn; omega), fs.2.2]
    by_cases hlt : f < frM M
    · obtain ⟨b1, b2, -⟩ := ht.fa f hlt
      have eb : bfN M V B m (M.1 179 0) l a (b + 1 - a) (f + 1) = if M.1 184 f = m then bsN M V B (M.1 179 0) l f a (bfN M V B m (M.1 179 0) l a (b + 1 - a) f) (b + 1 - a) else bfN M V B m (M.1 179 0) l a (b + 1 - a) f := rfl
      rw [if_pos ((nI_ltI (by omega) (by omega)).mpr hlt), ck_ib (by omega) (by omega), ck_t, nI_cl (by omega), et 284 f (by unfold sTn; omega), b2, nI_1]
      by_cases q : M.1 184 f = m
      · obtain ⟨M2, g1, g2, g3, g4⟩ := goes_W (ht.fr et) (he.fr o.en) (f := f) (by rw [frM_E et]; exact hlt) (M.1 179 0)
        rw [if_pos q, et 280 0 (by unfold sTn; omega), an.2.2, ← an.1, g1, ob_s]
        obtain ⟨M1, c1, c2⟩ := mdBeside_L91_g ht he hu hp (K := fun y1_22 y2_23 y3_24 y4_25 y5_26 y7_27 M28 => qmd_beside_L55 fu y1_22 y2_23 y3_24 y4_25 y5_26 (y7_27 + (1 : Int32)) M28) (a := a) hlt hb hl m (bfN M V B m (M.1 179 0) l a (b + 1 - a) f) FU 0 M2 (by unfold FU; omega) (by omega) (o.tr g2.v) g4
        rw [Nat.add_zero] at c1
        have c1' := c1
        rw [show bsN M V B (M.1 179 0) l f a (bfN M V B m (M.1 179 0) l a (b + 1 - a) f) 0 = bfN M V B m (M.1 179 0) l a (b + 1 - a) f from rfl, show a + 0 = a from rfl] at c1'
        rw [c1']
        show ∃ M2 : SM, qmd_beside_L55 fu m l (nI a) (nI b) _ (nI f + 1) M1 = _ ∧ _
        rw [nI_1]
        have := ih (f + 1) M1 (by omega) (by omega) c2
        rw [eb, if_pos q] at this
        exact this
      · rw [if_neg q]
        have := ih (f + 1) M' (by omega) (by omega) o
        rw [eb, if_neg q] at this
        exact this
    · obtain rfl : f = frM M := by omega
      rw [if_neg (nI_nlt (Nat.le_refl _) (by omega))]
      exact ⟨M', rfl, o⟩
theorem beside_p (ht : I_tn M) (he : I_en M) (hu : I_us M) (hp : PR M V B) (x1 x2 x3 x4 : Int32) : Pr M (qfr_beside x1 x2 x3 x4) (qmd_beside x1 x2 x3 x4) (fun M2 => Ov sRk sRkL M M2) := by
  have am := ht.ms
  have an := ht.nw
  have al := hu.1
  have no : qfr_beside x1 x2 x3 x4 M = some (-1000000000000, M) → qmd_beside x1 x2 x3 x4 M = some (-1000000000000, M) → Pr M (qfr_beside x1 x2 x3 x4) (qmd_beside x1 x2 x3 x4) (fun M2 => Ov sRk sRkL M M2) := fun e1 e2 => Pr.mk e1 e2 (Ov.rf _ _ _)
  rcases ix x1 (msM M) (by omega) with ⟨m, hm, rfl⟩ | hb
  rotate_left
  · exact no (by unfold qfr_beside; rw [hasMaster_b ht hb, ob_s, if_pos rfl]) (by unfold qmd_beside; rw [md_isMaster_b ht hb, ob_s, if_pos rfl])
  rcases ix x2 (lsM M) (by omega) with ⟨l, hl, rfl⟩ | hb
  rotate_left
  · refine no (by unfold qfr_beside; rw [hasMaster_g ht hm, ob_s, if_neg (by decide), listAt_b hu hb, ob_s, om_n]) ?_
    unfold qmd_beside
    rw [md_isMaster_g ht hm, ob_s, if_neg (by decide)]
    by_cases h0 : x2 < 0
    · rw [if_pos h0]
    · rw [if_neg h0, al.2.2, if_neg (hb.resolve_left h0)]
  have lt : nI l < nI (lsM M) := (nI_ltI (by omega) (by omega)).mpr hl
  have cf : qfr_beside (nI m) (nI l) x3 x4 M = (if x3 < 0 then
      (some ((-1000000000000 : Int64), M)) else
      (if x4 < x3 then
        (some ((-1000000000000 : Int64), M)) else
        (if nI (nwM M) < x4 then
          (some ((-1000000000000 : Int64), M)) else
          (qfr_beside_L58 FU (nI m) (nI l) x3 x4 (0 : Int64) (0 : Int32) M)))) := by
    unfold qfr_beside
    rw [hasMaster_g ht hm, ob_s, if_neg (by decide), listAt_g hu hl, ob_s, om_s, an.1]
  have cm : ∀ M1 : SM, oC M M1 → qmd_beside (nI m) (nI l) x3 x4 M1 = (ob (qmd_in x3 (0 : Int32) (nI (nwM M)) M1) (fun r4 M5 =>
        if r4 = 0 then
        (some ((-1000000000000 : Int64), M5)) else
        (ob (qmd_in x4 x3 (M5.1 280 0) M5) (fun r7 M8 =>
          if r7 = 0 then
          (some ((-1000000000000 : Int64), M8)) else
          (qmd_beside_L55 FU (nI m) (nI l) x3 x4 (0 : Int64) (0 : Int32) M8))))) := by
    intro M1 o
    unfold qmd_beside
    rw [md_isMaster_rg ((o.tn 280 1 (by unfold sTn; omega)).trans am.2.2) (by omega) hm, ob_s, if_neg (by decide), if_neg (nI_lt0 (by omega)), o.us 280 27 (by unfold sUs; omega), al.2.2, if_pos lt, o.tn 280 0 (by unfold sTn; omega), an.2.2]
  rcases rg x3 0 (nI (nwM M)) 0 (nwM M) rfl rfl (by decide) (by omega) with ⟨a, ha1, ha2, rfl, a1, a2⟩ | hb
  · rcases rg x4 (nI a) (nI (nwM M)) a (nwM M) rfl rfl (by omega) (by omega) with ⟨b, hb1, hb2, rfl, b1, b2⟩ | hb
    · rw [if_neg a1, if_neg b1, if_neg b2] at cf
      have hlo : okli M (nI l) := Or.inr ⟨l, hl, rfl⟩
      obtain ⟨M1, c1, c2⟩ := frBeside_L58_g ht he hu hp hb1 (show b < 520 by omega) hlo (nI m) FU 0 M (by have := ht.fs; unfold FU; omega) (by omega) (oC.rf M)
      obtain ⟨M2, d1, d2⟩ := mdBeside_L55_g ht he hu hp hb1 (show b < 520 by omega) hlo (nI m) FU 0 M1 (by have := ht.fs; unfold FU; omega) (by omega) c2.v
      refine Pr.mk (cf.trans c1) ?_ d2 c2.sc
      rw [cm M1 c2, md_in_t a1 a2, ob_s, if_neg (by decide), c2.tn 280 0 (by unfold sTn; omega), an.2.2, md_in_t b1 b2, ob_s, if_neg (by decide)]
      exact d1
    · refine no ?_ ?_
      · rw [cf, if_neg a1]
        by_cases q : x4 < nI a
        · rw [if_pos q]
        · rw [if_neg q, if_pos (hb.resolve_left q)]
      · rw [cm M (oC.rf M), md_in_t a1 a2, ob_s, if_neg (by decide), an.2.2, md_in_f hb, ob_s, if_pos rfl]
  · refine no ?_ ?_
    · rw [cf]
      by_cases q : x3 < 0
      · rw [if_pos q]
      · rw [if_neg q]
        by_cases q2 : x4 < x3
        · rw [if_pos q2]
        · rw [if_neg q2, if_pos (by
            have := hb.resolve_left q
            rw [Int32.lt_iff_toInt_lt] at this q2 ⊢
            omega)]
    · rw [cm M (oC.rf M), md_in_f hb, ob_s, if_pos rfl]
end
