/-! entries: each leads to the one before it of its frame's week -/
def enM (M : SM) : Nat := Int32.toNatClampNeg (M.1 210 0)
/-- the latest of a frame's week among the first n -/
def lstN (M : SM) (f w : Nat) : Nat → Int32
  | 0 => -1
  | n + 1 => if M.1 212 n = nI f ∧ M.1 213 n = nI w then nI n else lstN M f w n
/-- the latest that was told by t -/
def knN (M : SM) (f w : Nat) (t : Int32) : Nat → Int32
  | 0 => -1
  | n + 1 => if (M.1 212 n = nI f ∧ M.1 213 n = nI w) ∧ ¬ t < M.1 219 n then nI n else knN M f w t n
def enR (M : SM) (e : Nat) : Prop := (∃ f, f < 16 ∧ M.1 212 e = nI f) ∧ (∃ w, w < 520 ∧ M.1 213 e = nI w) ∧ (∃ s, s ≤ 9 ∧ M.1 214 e = nI s) ∧ (∃ d, d ≤ 99 ∧ M.1 215 e = nI d) ∧ (∃ d, d ≤ 999 ∧ M.1 216 e = nI d) ∧ (∃ d, d ≤ 9999 ∧ M.1 217 e = nI d) ∧ ∃ d, d ≤ 9999 ∧ M.1 218 e = nI d
def I_en (M : SM) : Prop :=
  (M.1 210 0 = nI (enM M) ∧ enM M ≤ 300 ∧ M.1 280 43 = nI (enM M)) ∧
  (∀ c, c < 8 → ∀ e, e < enM M → M.1 (310 + c) e = M.1 (212 + c) e) ∧
  (∀ e, e < enM M → enR M e) ∧
  (∀ f, f < 16 → ∀ w, w < 520 → M.1 (222 + f) w = lstN M f w (enM M)) ∧
  (∀ e, e < enM M → ∀ f w, f < 16 → w < 520 → M.1 212 e = nI f → M.1 213 e = nI w → M.1 220 e = lstN M f w e)
def sEn (c i : Nat) : Prop := (c = 210 ∧ i = 0) ∨ (212 ≤ c ∧ c ≤ 220) ∨ (222 ≤ c ∧ c ≤ 237) ∨ (c = 280 ∧ i = 43) ∨ (310 ≤ c ∧ c ≤ 317)
theorem lstN_same {M M' : SM} (h1 : ∀ e, M'.1 212 e = M.1 212 e) (h2 : ∀ e, M'.1 213 e = M.1 213 e) (f w : Nat) : ∀ n, lstN M' f w n = lstN M f w n
  | 0 => rfl
  | n + 1 => by unfold lstN; rw [h1, h2, lstN_same h1 h2 f w n]
theorem lstN_cong {M M' : SM} (f w : Nat) : ∀ n, (∀ e, e < n → M'.1 212 e = M.1 212 e ∧ M'.1 213 e = M.1 213 e) → lstN M' f w n = lstN M f w n
  | 0, _ => rfl
  | n + 1, h => by unfold lstN; rw [(h n (by omega)).1, (h n (by omega)).2, lstN_cong f w n (fun e he => h e (by omega))]
theorem knN_same {M M' : SM} (h1 : ∀ e, M'.1 212 e = M.1 212 e) (h2 : ∀ e, M'.1 213 e = M.1 213 e) (h3 : ∀ e, M'.1 219 e = M.1 219 e) (f w : Nat) (t : Int32) : ∀ n, knN M' f w t n = knN M f w t n
  | 0 => rfl
  | n + 1 => by unfold knN; rw [h1, h2, h3, knN_same h1 h2 h3 f w t n]
theorem I_en.fr {M M' : SM} (h : I_en M) (e : Eq1 sEn M M') : I_en M' := by
  have e0 : enM M' = enM M := by unfold enM; rw [e 210 0 (by unfold sEn; omega)]
  obtain ⟨h1, h2, h3, h4, h5⟩ := h
  have r : ∀ c i, 212 ≤ c → c ≤ 220 → M'.1 c i = M.1 c i := fun c i a b => e c i (by unfold sEn; omega)
  have l : ∀ f w n, lstN M' f w n = lstN M f w n := fun f w n => lstN_same (fun e => r _ _ (by omega) (by omega)) (fun e => r _ _ (by omega) (by omega)) f w n
  unfold I_en
  rw [e0]
  refine ⟨?_, fun c hc i hi => ?_, fun i hi => ?_, fun f hf w hw => ?_, fun i hi f w hf hw q1 q2 => ?_⟩
  · rw [e 210 0 (by unfold sEn; omega), e 280 43 (by unfold sEn; omega)]; exact h1
  · rw [e (310 + c) i (by unfold sEn; omega), r (212 + c) i (by omega) (by omega)]; exact h2 c hc i hi
  · unfold enR
    rw [r _ _ (by omega) (by omega), r _ _ (by omega) (by omega), r _ _ (by omega) (by omega), r _ _ (by omega) (by omega), r _ _ (by omega) (by omega), r _ _ (by omega) (by omega), r _ _ (by omega) (by omega)]; exact h3 i hi
  · rw [e (222 + f) w (by unfold sEn; omega), l]; exact h4 f hf w hw
  · rw [r _ _ (by omega) (by omega)] at q1 q2
    rw [r _ _ (by omega) (by omega), l]; exact h5 i hi f w hf hw q1 q2
theorem lk (M : SM) (f w : Nat) (t : Int32) : ∀ m, (lstN M f w m = -1 ∧ knN M f w t m = -1) ∨ ∃ e, e < m ∧ lstN M f w m = nI e ∧ M.1 212 e = nI f ∧ M.1 213 e = nI w ∧ knN M f w t m = if t < M.1 219 e then knN M f w t e else nI e
  | 0 => Or.inl ⟨rfl, rfl⟩
  | m + 1 => by
    have e1 : lstN M f w (m + 1) = if M.1 212 m = nI f ∧ M.1 213 m = nI w then nI m else lstN M f w m := rfl
    have e2 : knN M f w t (m + 1) = if (M.1 212 m = nI f ∧ M.1 213 m = nI w) ∧ ¬ t < M.1 219 m then nI m else knN M f w t m := rfl
    rw [e1, e2]
    by_cases q : M.1 212 m = nI f ∧ M.1 213 m = nI w
    · right
      refine ⟨m, by omega, by rw [if_pos q], q.1, q.2, ?_⟩
      by_cases z : t < M.1 219 m
      · rw [if_neg (fun y => y.2 z), if_pos z]
      · rw [if_pos ⟨q, z⟩, if_neg z]
    · rw [if_neg q, if_neg (fun y => q y.1)]
      rcases lk M f w t m with h | ⟨e, he, h⟩
      · exact Or.inl h
      · exact Or.inr ⟨e, by omega, h⟩
theorem knN_or (M : SM) (f w : Nat) (t : Int32) : ∀ m, knN M f w t m = -1 ∨ ∃ e, e < m ∧ knN M f w t m = nI e ∧ M.1 212 e = nI f ∧ M.1 213 e = nI w
  | 0 => Or.inl rfl
  | m + 1 => by
    have e2 : knN M f w t (m + 1) = if (M.1 212 m = nI f ∧ M.1 213 m = nI w) ∧ ¬ t < M.1 219 m then nI m else knN M f w t m := rfl
    rw [e2]
    by_cases q : (M.1 212 m = nI f ∧ M.1 213 m = nI w) ∧ ¬ t < M.1 219 m
    · rw [if_pos q]; exact Or.inr ⟨m, by omega, rfl, q.1⟩
    · rw [if_neg q]
      rcases knN_or M f w t m with h | ⟨e, he, h⟩
      · exact Or.inl h
      · exact Or.inr ⟨e, by omega, h⟩
section
variable {M : SM}
theorem en_has_g {s e : Nat} (h : M.1 210 0 = nI s) (hs : s ≤ 300) (he : e < s) : qen_has (nI e) M = some (1, M) := by
  unfold qen_has
  rw [if_neg (nI_lt0 (by omega)), h, if_pos ((nI_ltI (by omega) (by omega)).mpr he), if_pos (nl_300 (by omega))]
theorem en_has_b {s : Nat} {x : Int32} (h : M.1 210 0 = nI s) (hx : x < 0 ∨ ¬ x < nI s) : qen_has x M = some (0, M) := by
  unfold qen_has
  by_cases h0 : x < 0
  · rw [if_pos h0]
  · rw [if_neg h0, h, if_neg (hx.resolve_left h0)]
theorem en_at_g {s e k : Nat} (h : M.1 210 0 = nI s) (hs : s ≤ 300) (he : e < s) (hk : k < 8) : qen_at (nI e) (nI k) M = some (M.1 (212 + k) e, M) := by
  obtain ⟨k1, k2⟩ := kz_co k hk
  unfold qen_at
  rw [en_has_g h hs he, ob_s, if_neg (by decide), if_neg (nI_lt0 (by omega)), if_pos (nl_8 (by omega)), nI_cl (by omega), nI_cl (by omega), ck_ib (by omega) (by omega), ck_av k1 (by omega) (by omega) (by omega), ck_t]
theorem en_at_b {s : Nat} {x y : Int32} (h : M.1 210 0 = nI s) (hx : x < 0 ∨ ¬ x < nI s) : qen_at x y M = some (-1, M) := by
  unfold qen_at
  rw [en_has_b h hx, ob_s, if_pos rfl]
theorem en_put_g {s e k : Nat} (h : M.1 210 0 = nI s) (hs : s ≤ 300) (he : e < s) (hk : k < 8) (v : Int32) : qen_put (nI e) (nI k) v M = some ((), wI M (212 + k) e v) := by
  obtain ⟨k1, k2⟩ := kz_co k hk
  unfold qen_put
  rw [en_has_g h hs he, ob_s, if_neg (by decide), if_neg (nI_lt0 (by omega)), if_pos (nl_8 (by omega)), nI_cl (by omega), nI_cl (by omega), ck_ib (by omega) (by omega), ck_av k1 (by omega) (by omega) (by omega), ck_t]
theorem isFramesWeek_g {f w : Nat} (hf : f < 16) (hw : w < 520) : qen_isFramesWeek (nI f) (nI w) M = some (1, M) := by
  unfold qen_isFramesWeek
  rw [if_neg (nI_lt0 (by omega)), if_pos (nl_16 hf), isWeek_g hw, ob_s, if_neg (by decide)]
theorem known_L23_g (h : I_en M) {f w : Nat} (hf : f < 16) (hw : w < 520) (t : Int32) : ∀ fu m i, m < fu → i + m ≤ 300 → m ≤ enM M → qen_knownAt_L23 (fun y4_14 M15 => some (y4_14, M15)) fu t (lstN M f w m) (nI i) M = some (knN M f w t m, M) := by
  obtain ⟨h1, h2, h3, h4, h5⟩ := h
  obtain ⟨k1, k2⟩ := kz_co 7 (by omega)
  intro fu
  induction fu with
  | zero => intro m i hm; omega
  | succ fu ih =>
    intro m i hm hi hn
    unfold qen_knownAt_L23
    rcases lk M f w t m with ⟨q1, q2⟩ | ⟨e, he, q1, q2, q3, q4⟩
    · rw [q1, q2, en_has_b h1.1 (Or.inl (by decide)), ob_s, if_pos rfl]
      split <;> rfl
    · rw [q1, q4, if_pos (nl_300 (by omega)), en_has_g h1.1 h1.2.1 (by omega), ob_s, if_neg (by decide), show (7 : Int32) = nI 7 from rfl, nI_cl (by omega), nI_cl (by omega), ck_ib (by omega) (by omega), ck_av k1 (by omega) (by omega) (by omega), ck_t, ck_ib (by omega) (by omega), ck_t, h5 e (by omega) f w hf hw q2 q3, nI_1, ih e (i + 1) (by omega) (by omega) (by omega)]
      show (if t < M.1 219 e then _ else _) = _
      split <;> rfl
theorem knownAt_g (h : I_en M) {f w : Nat} (hf : f < 16) (hw : w < 520) (t : Int32) : qen_knownAt (nI f) (nI w) t M = some (knN M f w t (enM M), M) := by
  obtain ⟨k1, k2⟩ := kz_la f hf
  have h1 := h.1
  unfold qen_knownAt
  rw [isFramesWeek_g hf hw, ob_s, if_neg (by decide), nI_cl (by omega), nI_cl (by omega), ck_ib (by omega) (by omega), ck_av k1 (by omega) (by omega) (by omega), ck_t, ltt_s, h.2.2.2.1 f hf w hw]
  exact known_L23_g h hf hw t FU (enM M) 0 (by unfold FU; omega) (by omega) (Nat.le_refl _)
/-- whether the frame worked in that week, by what is known -/
abbrev wkB (M : SM) (f : Nat) (t : Int32) (w : Nat) : Prop := ¬ knN M f w t (enM M) = -1 ∧ 0 < M.1 215 (Int32.toNatClampNeg (knN M f w t (enM M)))
/-- idle weeks -/
def idN (M : SM) (f : Nat) (t : Int32) : Nat → Nat
  | 0 => if wkB M f t 0 ∨ M.1 (187 + f) 0 = -1 then 0 else 1
  | w + 1 => if wkB M f t (w + 1) ∨ M.1 (187 + f) (w + 1) = -1 then 0 else if M.1 (187 + f) w = M.1 (187 + f) (w + 1) then idN M f t w + 1 else 1
def cnN (M : SM) (f : Nat) (t k : Int32) : Nat → Nat
  | 0 => if wkB M f t 0 ∨ ¬ M.1 (187 + f) 0 = k then 0 else 1
  | w + 1 => if wkB M f t (w + 1) ∨ ¬ M.1 (187 + f) (w + 1) = k then 0 else cnN M f t k w + 1
theorem idN_le (M : SM) (f : Nat) (t : Int32) : ∀ w, idN M f t w ≤ w + 1
  | 0 => by unfold idN; split <;> omega
  | w + 1 => by
    have := idN_le M f t w
    unfold idN
    split
    · omega
    · split <;> omega
theorem cnN_id (M : SM) (f : Nat) (t : Int32) : ∀ w, ¬ M.1 (187 + f) w = -1 → cnN M f t (M.1 (187 + f) w) w = idN M f t w
  | 0, h => by
    unfold cnN idN
    by_cases q : wkB M f t 0
    · rw [if_pos (Or.inl q), if_pos (Or.inl q)]
    · rw [if_neg (fun z => z.elim q (fun y => y rfl)), if_neg (fun z => z.elim q h)]
  | w + 1, h => by
    unfold cnN idN
    by_cases q : wkB M f t (w + 1)
    · rw [if_pos (Or.inl q), if_pos (Or.inl q)]
    · rw [if_neg (fun z => z.elim q (fun y => y rfl)), if_neg (fun z => z.elim q h)]
      by_cases z : M.1 (187 + f) w = M.1 (187 + f) (w + 1)
      · rw [if_pos z, ← z, cnN_id M f t w (by rw [z]; exact h)]
      · rw [if_neg z]
        have : cnN M f t (M.1 (187 + f) (w + 1)) w = 0 := by
          cases w with
          | zero => unfold cnN; rw [if_pos (Or.inr z)]
          | succ w => unfold cnN; rw [if_pos (Or.inr z)]
        rw [this]
theorem idleWeeks_L25_g (ht : I_tn M) (h : I_en M) {f : Nat} (hf : f < frM M) (t k : Int32) : ∀ fu w c, w + 1 < fu → w < 520 → c + w < 1000 → qfr_idleWeeks_L25 (fun y5_33 M34 => some (y5_33, M34)) fu (nI f) t k (nI c) (nI w) M = some (nI (c + cnN M f t k w), M) := by
  have hfs := ht.fs
  have h1 := h.1
  intro fu
  induction fu with
  | zero => intro w c hw; omega
  | succ fu ih =>
    intro w c hw hw5 hc
    have tail : ∀ (M0 : SM), M0 = M → (¬ wkB M f t w) → (ob (qtn_holderAt (nI f) (nI w) M0) (fun r14 M15 =>
            if r14 = k then
            (qfr_idleWeeks_L25 (fun y5_33 M34 => some (y5_33, M34)) fu (nI f) t k (nI c + (1 : Int32)) (nI w + (-1 : Int32)) M15) else
            (some (nI c, M15)))) = some (nI (c + cnN M f t k w), M) := by
      rintro M0 rfl hk
      rw [holderAt_g ht hf hw5, ob_s]
      by_cases z : M0.1 (187 + f) w = k
      · rw [if_pos z, nI_1]
        cases w with
        | zero =>
          obtain ⟨fu', rfl⟩ : ∃ fu', fu = fu' + 1 := ⟨fu - 1, by omega⟩
          unfold qfr_idleWeeks_L25
          rw [if_pos (by decide)]
          unfold cnN
          rw [if_neg (fun y => y.elim hk (fun y => y z))]
        | succ w =>
          rw [show nI (w + 1) + (-1 : Int32) = nI w from by rw [← nI_1, Int32.add_assoc]; exact Int32.add_zero _, ih w (c + 1) (by omega) (by omega) (by omega)]
          have : cnN M0 f t k (w + 1) = cnN M0 f t k w + 1 := by
            show (if wkB M0 f t (w + 1) ∨ ¬ M0.1 (187 + f) (w + 1) = k then 0 else cnN M0 f t k w + 1) = _
            rw [if_neg (fun y => y.elim hk (fun y => y z))]
          rw [this]
          congr 2
          congr 1
          omega
      · rw [if_neg z]
        have : cnN M0 f t k w = 0 := by
          cases w with
          | zero => unfold cnN; rw [if_pos (Or.inr z)]
          | succ w => unfold cnN; rw [if_pos (Or.inr z)]
        rw [this]
        rfl
    unfold qfr_idleWeeks_L25
    simp only [jn_ap]
    rw [if_neg (nI_lt0 (by omega)), knownAt_g h (by omega) hw5, ob_s]
    rcases knN_or M f w t (enM M) with q | ⟨e, he, q, -, -⟩
    · rw [if_pos q, if_pos trivial]
      exact tail M rfl (fun y => y.1 q)
    · rw [q, if_neg (nI_ne_m1 (by omega)), show (3 : Int32) = nI 3 from rfl, en_at_g h1.1 h1.2.1 he (by omega), ob_s]
      by_cases z : 0 < M.1 (212 + 3) e
      · rw [if_pos z, if_neg (by decide)]
        have hwk : wkB M f t w := ⟨by rw [q]; exact nI_ne_m1 (by omega), by rw [q, nI_cl (by omega)]; exact z⟩
        have : cnN M f t k w = 0 := by
          cases w with
          | zero => unfold cnN; rw [if_pos (Or.inl hwk)]
          | succ w => unfold cnN; rw [if_pos (Or.inl hwk)]
        rw [this]
        rfl
      · rw [if_neg z, if_pos trivial]
        refine tail M rfl (fun y => z ?_)
        have := y.2
        rw [q, nI_cl (by omega)] at this
        exact this
theorem idN_hold {f w : Nat} {t : Int32} (q : M.1 (187 + f) w = -1) : idN M f t w = 0 := by
  cases w with
  | zero => unfold idN; rw [if_pos (Or.inr q)]
  | succ w => unfold idN; rw [if_pos (Or.inr q)]
theorem idleWeeks_g (ht : I_tn M) (h : I_en M) {f w : Nat} (hf : f < frM M) (hw : w < 520) (t : Int32) : qfr_idleWeeks (nI f) (nI w) t M = some (nI (idN M f t w), M) := by
  unfold qfr_idleWeeks
  rw [holderAt_g ht hf hw, ob_s]
  by_cases q : M.1 (187 + f) w = -1
  · rw [if_pos q, idN_hold q]; rfl
  · rw [if_neg q]
    have := idleWeeks_L25_g ht h hf t (M.1 (187 + f) w) FU w 0 (by unfold FU; omega) hw (by omega)
    rw [cnN_id M f t w q, Nat.zero_add] at this
    exact this
end
/-- only these rows of the reference's own use -/
def sGt (c _i : Nat) : Prop := c = 318 ∨ c = 319
section
theorem gt_L2_g {K : Int32 → Int32 → SM → Option (Unit × SM)} (x y : Int32) : ∀ fu i M, 520 - i < fu → i ≤ 520 → ∃ M' : SM, qmd_goesThrough_L2 K fu x y (nI i) M = K x y M' ∧ M'.2 = M.2 ∧ ∀ c j, M'.1 c j = if c = 318 ∧ i ≤ j ∧ j < 520 then -1 else M.1 c j := by
  intro fu
  induction fu with
  | zero => intro i M hn; omega
  | succ n ih =>
    intro i M hn hi
    unfold qmd_goesThrough_L2
    by_cases hlt : i < 520
    · rw [if_pos (show nI i < (520 : Int32) from nl_520 hlt), ck_ib (by omega) (by omega), ck_t, nI_1, nI_cl (by omega)]
      obtain ⟨M', e1, e2, e3⟩ := ih (i + 1) (wI M 318 i (-1)) (by omega) (by omega)
      refine ⟨M', e1, e2, fun c j => ?_⟩
      rw [e3 c j, wI_1]
      by_cases h1 : c = 318 ∧ i + 1 ≤ j ∧ j < 520
      · rw [if_pos h1, if_pos ⟨h1.1, by omega, h1.2.2⟩]
      · rw [if_neg h1]
        by_cases h2 : c = 318 ∧ j = i
        · rw [if_pos h2, if_pos ⟨h2.1, by omega, by omega⟩]
        · rw [if_neg h2, if_neg (by omega)]
    · obtain rfl : i = 520 := by omega
      rw [if_neg (show ¬ nI 520 < (520 : Int32) from nI_nlt (Nat.le_refl _) (by omega))]
      exact ⟨M, rfl, rfl, fun c j => by rw [if_neg (by omega)]⟩
theorem gt_L24_g {K : Int32 → SM → Option (Unit × SM)} {M0 : SM} (h : I_en M0) {f : Nat} (hf : f < 16) (t : Int32) : ∀ fu m (M : SM), enM M0 - m < fu → m ≤ enM M0 → (∀ c j, c ≠ 318 → M.1 c j = M0.1 c j) → M.2 = M0.2 → (∀ w, w < 520 → M.1 318 w = knN M0 f w t m) →
    ∃ M' : SM, qmd_goesThrough_L24 K fu (nI f) t (nI m) M = K (nI f) M' ∧ M'.2 = M0.2 ∧ (∀ c j, c ≠ 318 → M'.1 c j = M0.1 c j) ∧ ∀ w, w < 520 → M'.1 318 w = knN M0 f w t (enM M0) := by
  obtain ⟨h1, h2, h3, h4, h5⟩ := h
  intro fu
  induction fu with
  | zero => intro m M hf; omega
  | succ fu ih =>
    intro m M hfu hm e1 e2 e3
    unfold qmd_goesThrough_L24
    rw [e1 280 43 (by omega), h1.2.2]
    by_cases hlt : m < enM M0
    · obtain ⟨⟨f', hf', q1⟩, ⟨w', hw', q2⟩, -⟩ := h3 m hlt
      have r0 : M.1 310 m = nI f' := by rw [e1 _ _ (by omega), ← q1]; exact h2 0 (by omega) m hlt
      have r1 : M.1 311 m = nI w' := by rw [e1 _ _ (by omega), ← q2]; exact h2 1 (by omega) m hlt
      have r7 : M.1 317 m = M0.1 219 m := by rw [e1 _ _ (by omega)]; exact h2 7 (by omega) m hlt
      have ek : ∀ w, knN M0 f w t (m + 1) = if (M0.1 212 m = nI f ∧ M0.1 213 m = nI w) ∧ ¬ t < M0.1 219 m then nI m else knN M0 f w t m := fun w => rfl
      rw [if_pos ((nI_ltI (by omega) (by omega)).mpr hlt), ck_ib (by omega) (by omega), ck_t, nI_cl (by omega), r0, nI_1]
      by_cases z : nI f' = nI f
      · rw [if_pos z, ck_ib (by omega) (by omega), ck_t, r7]
        by_cases z2 : t < M0.1 219 m
        · rw [if_pos z2]
          refine ih (m + 1) M (by omega) (by omega) e1 e2 (fun w hw => ?_)
          rw [ek, if_neg (fun y => y.2 z2)]; exact e3 w hw
        · rw [if_neg z2, ck_ib (by omega) (by omega), r1, ck_ib (by omega) (by omega), ck_t, nI_cl (by omega)]
          refine ih (m + 1) (wI M 318 w' (nI m)) (by omega) (by omega) (fun c j hc => by rw [wI_1, if_neg (by omega)]; exact e1 c j hc) e2 (fun w hw => ?_)
          rw [wI_1, ek, q1, q2]
          by_cases z3 : w = w'
          · subst z3; rw [if_pos ⟨rfl, rfl⟩, if_pos ⟨⟨z, rfl⟩, z2⟩]
          · rw [if_neg (by omega), if_neg (fun y => z3 (nI_inj (by omega) (by omega) y.1.2.symm))]; exact e3 w hw
      · rw [if_neg z]
        refine ih (m + 1) M (by omega) (by omega) e1 e2 (fun w hw => ?_)
        rw [ek, q1, if_neg (fun y => z y.1.1)]; exact e3 w hw
    · obtain rfl : m = enM M0 := by omega
      rw [if_neg (nI_nlt (Nat.le_refl _) (by omega))]
      exact ⟨M, rfl, e2, e1, e3⟩
/-- what the reference answers for a week whose one before it is reckoned -/
def iaN (M : SM) (f : Nat) (t : Int32) : Nat → Nat
  | 0 => if M.1 (187 + f) 0 = -1 then 0 else 1
  | w + 1 => if M.1 (187 + f) (w + 1) = -1 then 0 else if M.1 (187 + f) w = M.1 (187 + f) (w + 1) then idN M f t w + 1 else 1
theorem idN_s (M : SM) (f : Nat) (t : Int32) (w : Nat) : idN M f t (w + 1) = if wkB M f t (w + 1) ∨ M.1 (187 + f) (w + 1) = -1 then 0 else if M.1 (187 + f) w = M.1 (187 + f) (w + 1) then idN M f t w + 1 else 1 := rfl
theorem iaN_s (M : SM) (f : Nat) (t : Int32) (w : Nat) : iaN M f t (w + 1) = if M.1 (187 + f) (w + 1) = -1 then 0 else if M.1 (187 + f) w = M.1 (187 + f) (w + 1) then idN M f t w + 1 else 1 := rfl
theorem idN_ia {M : SM} {f : Nat} {t : Int32} {w : Nat} (h : ¬ wkB M f t w) : idN M f t w = iaN M f t w := by
  cases w with
  | zero =>
    unfold idN iaN
    by_cases q : M.1 (187 + f) 0 = -1
    · rw [if_pos (Or.inr q), if_pos q]
    · rw [if_neg (fun y => y.elim h q), if_neg q]
  | succ w =>
    rw [iaN_s, idN_s]
    by_cases q : M.1 (187 + f) (w + 1) = -1
    · rw [if_pos (Or.inr q), if_pos q]
    · rw [if_neg (fun y => y.elim h q), if_neg q]
theorem idN_wk {M : SM} {f : Nat} {t : Int32} {w : Nat} (h : wkB M f t w) : idN M f t w = 0 := by
  cases w with
  | zero => unfold idN; rw [if_pos (Or.inl h)]
  | succ w => unfold idN; rw [if_pos (Or.inl h)]
theorem idleAnew_g {M M0 : SM} (ht : I_tn M0) {f w : Nat} {t : Int32} (hf : f < frM M0) (hw : w < 520) (e1 : ∀ c j, c ≠ 318 → c ≠ 319 → M.1 c j = M0.1 c j) (e3 : ∀ j, j < w → M.1 319 j = nI (idN M0 f t j)) : qmd_idleAnew (nI f) (nI w) M = some (nI (iaN M0 f t w), M) := by
  have hfs := ht.fs
  have hh : ∀ j, j < 520 → qmd_hirerOf (nI f) (nI j) M = some (M0.1 (187 + f) j, M) := fun j hj => by
    rw [hirerOf_r (by omega) hj, e1 _ _ (by omega) (by omega), (ht.hd f hf j hj).1]
  unfold qmd_idleAnew
  rw [hh w hw, ob_s]
  cases w with
  | zero =>
    unfold iaN
    by_cases q : M0.1 (187 + f) 0 = -1
    · rw [if_pos q, if_pos q]; rfl
    · rw [if_neg q, if_neg q, if_neg (by decide)]; rfl
  | succ w =>
    rw [iaN_s]
    by_cases q : M0.1 (187 + f) (w + 1) = -1
    · rw [if_pos q, if_pos q]; rfl
    · rw [if_neg q, if_neg q, if_pos (show (0 : Int32) < nI (w + 1) from nI_lt (a := 0) (by omega) (by omega)), nI_m1 (by omega), show w + 1 - 1 = w by omega, hh w (by omega), ob_s, hh (w + 1) hw, ob_s, ck_ib (by omega) (by omega), ck_t, nI_cl (by omega), e3 w (by omega), nI_1]
      split <;> rfl
theorem gt_L72_g {M0 : SM} (ht : I_tn M0) (h : I_en M0) {f : Nat} (hf : f < frM M0) (t : Int32) : ∀ fu w (M : SM), 520 - w < fu → w ≤ 520 → (∀ c j, c ≠ 318 → c ≠ 319 → M.1 c j = M0.1 c j) → M.2 = M0.2 → (∀ w, w < 520 → M.1 318 w = knN M0 f w t (enM M0)) → (∀ j, j < w → M.1 319 j = nI (idN M0 f t j)) →
    ∃ M' : SM, qmd_goesThrough_L72 fu (nI f) (nI w) M = some ((), M') ∧ M'.2 = M0.2 ∧ (∀ c j, c ≠ 318 → c ≠ 319 → M'.1 c j = M0.1 c j) ∧ (∀ w, w < 520 → M'.1 318 w = knN M0 f w t (enM M0)) ∧ ∀ j, j < 520 → M'.1 319 j = nI (idN M0 f t j) := by
  obtain ⟨h1, h2, h3, h4, h5⟩ := id h
  intro fu
  induction fu with
  | zero => intro w M hfu; omega
  | succ fu ih =>
    intro w M hfu hw e1 e2 e3 e4
    unfold qmd_goesThrough_L72
    simp only [jn_ap]
    by_cases hlt : w < 520
    · have step : ∀ v, v = nI (idN M0 f t w) → ∃ M' : SM, qmd_goesThrough_L72 fu (nI f) (nI (w + 1)) (wI M 319 w v) = some ((), M') ∧ M'.2 = M0.2 ∧ (∀ c j, c ≠ 318 → c ≠ 319 → M'.1 c j = M0.1 c j) ∧ (∀ w, w < 520 → M'.1 318 w = knN M0 f w t (enM M0)) ∧ ∀ j, j < 520 → M'.1 319 j = nI (idN M0 f t j) := fun v hv =>
        ih (w + 1) (wI M 319 w v) (by omega) (by omega) (fun c j q1 q2 => by rw [wI_1, if_neg (by omega)]; exact e1 c j q1 q2) e2 (fun j hj => by rw [wI_1, if_neg (by omega)]; exact e3 j hj) (fun j hj => by
          rw [wI_1]
          by_cases z : j = w
          · subst z; rw [if_pos ⟨rfl, rfl⟩]; exact hv
          · rw [if_neg (by omega)]; exact e4 j (by omega))
      rw [if_pos (nl_520 hlt), ck_ib (by omega) (by omega), ck_t, nI_cl (by omega), e3 w hlt, idleAnew_g ht hf hlt e1 e4, ob_s, ck_ib (by omega) (by omega), ck_t, ck_ib (by omega) (by omega), ck_t, ck_ib (by omega) (by omega), nI_1]
      rcases knN_or M0 f w t (enM M0) with q | ⟨e, he, q, -, -⟩
      · rw [if_pos q, if_pos trivial]
        exact step _ (by rw [idN_ia (fun y => y.1 q)])
      · rw [q, if_neg (nI_ne_m1 (by omega)), ck_ib (by omega) (by omega), ck_t, nI_cl (by omega), e1 _ _ (by omega) (by omega), show M0.1 313 e = M0.1 215 e from h2 3 (by omega) e he]
        by_cases z : 0 < M0.1 215 e
        · rw [if_pos z, if_neg (by decide)]
          exact step _ (by rw [idN_wk ⟨by rw [q]; exact nI_ne_m1 (by omega), by rw [q, nI_cl (by omega)]; exact z⟩]; rfl)
        · rw [if_neg z, if_pos trivial]
          exact step _ (by rw [idN_ia (fun y => z (by have := y.2; rw [q, nI_cl (by omega)] at this; exact this))])
    · obtain rfl : w = 520 := by omega
      rw [if_neg (show ¬ nI 520 < (520 : Int32) from nI_nlt (Nat.le_refl _) (by omega))]
      exact ⟨M, rfl, e2, e1, e3, e4⟩
theorem goesThrough_g {M : SM} (ht : I_tn M) (h : I_en M) {f : Nat} (hf : f < frM M) (t : Int32) : ∃ M' : SM, qmd_goesThrough (nI f) t M = some ((), M') ∧ M'.2 = M.2 ∧ (∀ c j, c ≠ 318 → c ≠ 319 → M'.1 c j = M.1 c j) ∧ (∀ w, w < 520 → M'.1 318 w = knN M f w t (enM M)) ∧ ∀ j, j < 520 → M'.1 319 j = nI (idN M f t j) := by
  have hfs := ht.fs
  unfold qmd_goesThrough
  rw [show (0 : Int32) = nI 0 from rfl]
  obtain ⟨M1, a1, a2, a3⟩ := gt_L2_g (K := fun y1_3 y2_4 M5 => qmd_goesThrough_L24 (fun y1_12 M13 => qmd_goesThrough_L72 FU y1_12 (nI 0) M13) FU y1_3 y2_4 (nI 0) M5) (nI f) t FU 0 M (by unfold FU; omega) (by omega)
  rw [a1]
  have en1 := h.1
  obtain ⟨M2, b1, b2, b3, b4⟩ := gt_L24_g (K := fun y1_12 M13 => qmd_goesThrough_L72 FU y1_12 (nI 0) M13) h (f := f) (by omega) t FU 0 M1 (by unfold FU; omega) (by omega) (fun c j hc => by rw [a3, if_neg (by omega)]) a2 (fun w hw => by rw [a3, if_pos ⟨rfl, by omega, hw⟩]; rfl)
  refine (?_ : ∃ M', (fun y1_3 y2_4 M5 => qmd_goesThrough_L24 (fun y1_12 M13 => qmd_goesThrough_L72 FU y1_12 (nI 0) M13) FU y1_3 y2_4 (nI 0) M5) (nI f) t M1 = _ ∧ _)
  show ∃ M', qmd_goesThrough_L24 (fun y1_12 M13 => qmd_goesThrough_L72 FU y1_12 (nI 0) M13) FU (nI f) t (nI 0) M1 = _ ∧ _
  rw [b1]
  exact gt_L72_g ht h hf t FU 0 M2 (by unfold FU; omega) (by omega) (fun c j q1 q2 => b3 c j q1) b2 b4 (fun j hj => absurd hj (Nat.not_lt_zero _))
end
