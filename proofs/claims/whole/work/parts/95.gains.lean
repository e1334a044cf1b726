/-! what frames gain with an order, on both sides -/
def oLi (l : Int32) : Option Nat := if l = -1 then none else some (15 + 16 * Int32.toNatClampNeg l)
section
variable {M : SM} {V : Nat → FA → LE} {B : Nat → FA → LE → Int64}
theorem listAt_o (hu : I_us M) {l : Int32} (hl : okli M l) : qpr_listAt l M = some (oLi l, M) := by
  unfold oLi
  rcases hl with rfl | ⟨k, hk, rfl⟩
  · rw [if_pos rfl]
    exact if_pos (by decide)
  · have := hu.1
    rw [if_neg (nI_ne_m1 (by omega)), nI_cl (by omega)]
    exact listAt_g hu hk
/-- the facts of an order -/
def orF (M : SM) (f w : Nat) (t : Int32) (sh nr yn k i : Nat) : Int64 := if i = 1 then Int32.toInt64 (nI k) else if i = 2 then Int32.toInt64 (nI sh) else if i = 3 then Int32.toInt64 (nI (k * nr)) else if i = 4 then Int32.toInt64 (nI (k * yn)) else if i = 7 then (if 0 < k then 0 else Int32.toInt64 (nI (iaN M f t w))) else fcN M f w t i
def gaN (M : SM) (V : Nat → FA → LE) (B : Nat → FA → LE → Int64) (w : Nat) (t l : Int32) (sh nr yn pr f k : Nat) : Int64 := Int32.toInt64 (nI k) * Int32.toInt64 (nI pr) - (wkN M V B (orF M f w t sh nr yn k) f w l 22 - wkN M V B (orF M f w t sh nr yn k) f w l 17 - wkN M V B (orF M f w t sh nr yn k) f w l 2)
/-- what both write while they weigh an order -/
def oG (M M' : SM) : Prop := (∀ c i, ¬ ((c = 12 ∧ i = 8) ∨ (c = 244 ∧ i = 7) ∨ c = 245) → M'.1 c i = M.1 c i) ∧ ∀ c, ¬ ((175 ≤ c ∧ c ≤ 178) ∨ (247 ≤ c ∧ c ≤ 256)) → M'.2 c = M.2 c
theorem oG.rf (M : SM) : oG M M := ⟨fun _ _ _ => rfl, fun _ _ => rfl⟩
theorem oG.tr {M M' M'' : SM} (h : oG M M') (h2 : oG M' M'') : oG M M'' := ⟨fun c i q => (h2.1 c i q).trans (h.1 c i q), fun c q1 => (h2.2 c q1).trans (h.2 c q1)⟩
theorem oC.g {M M' : SM} (h : oC M M') : oG M M' := ⟨fun c i q => h.1 c i (by omega), fun c q => h.2 c (by omega)⟩
theorem oG.eq {s : Nat → Nat → Prop} {M M' : SM} (h : oG M M') (hs : ∀ c i, s c i → ¬ ((c = 12 ∧ i = 8) ∨ (c = 244 ∧ i = 7) ∨ c = 245)) : Eq1 s M M' := fun c i q => h.1 c i (hs c i q)
theorem oG.tn {M M' : SM} (h : oG M M') : Eq1 sTn M M' := h.eq fun c i q => by unfold sTn at q; omega
theorem oG.en {M M' : SM} (h : oG M M') : Eq1 sEn M M' := h.eq fun c i q => by unfold sEn at q; omega
theorem oG.pr {M M' : SM} (h : oG M M') : Eq1 sPr M M' := h.eq fun c i q => by unfold sPr at q; omega
theorem oG.us {M M' : SM} (h : oG M M') : Eq1 sUs M M' := h.eq fun c i q => by unfold sUs at q; omega
theorem iaN_E {M M' : SM} (et : Eq1 sTn M M') (e : Eq1 sEn M M') {f : Nat} (hf : f < 16) (t : Int32) : ∀ w, iaN M' f t w = iaN M f t w
  | 0 => by unfold iaN; rw [hold_E et hf]
  | w + 1 => by rw [iaN_s, iaN_s, hold_E et hf, hold_E et hf, idN_E et e hf]
theorem idleIf_g (ht : I_tn M) (he : I_en M) {f : Nat} (hf : f < frM M) (hh : ¬ M.1 (187 + f) (nwM M) = -1) : qfr_idleIfNothingNow (nI f) M = some (nI (iaN M f (M.1 179 0) (nwM M)), M) := by
  have an := ht.nw
  unfold qfr_idleIfNothingNow
  rw [an.1]
  cases hw : nwM M with
  | zero =>
    rw [hw] at hh
    rw [if_pos (by decide)]
    unfold iaN
    rw [if_neg hh]
    rfl
  | succ w =>
    rw [hw] at hh
    have hw2 : w + 1 < 520 := by omega
    rw [nI_m1 (by omega), Nat.add_sub_cancel, if_neg (nI_lt0 (by omega)), holderAt_g ht hf (by omega), ob_s, an.1, hw, holderAt_g ht hf hw2, ob_s, iaN_s, if_neg hh]
    by_cases q : M.1 (187 + f) w = M.1 (187 + f) (w + 1)
    · rw [if_pos q, if_pos q, an.1, hw, idleWeeks_g ht he hf (by omega), ob_s, show (1 : Int32) = nI 1 from rfl, nI_add, Nat.add_comm]
    · rw [if_neg q, if_neg q]; rfl
/-- letters, bounds and what is left, the facts being set -/
theorem net_g (ht : I_tn M) (hu : I_us M) (hp : PR M V B) {f w : Nat} (hf : f < frM M) {l : Int32} (hl : okli M l) (F : FA) (eF : ∀ i, i < 10 → M.2 175 i = F i) {K : SM → Int64 → SM → Option (Unit × SM)} :
    ∃ M'' : SM, oC M M'' ∧ M''.2 175 = M.2 175 ∧ (ob (qpr_reckonLetters (oLi l) M) (fun _ M37 => ob (qtn_isOwn (nI f) M37) (fun r40 M41 => ob (qpr_boundWorths (nI w) r40 M41) (fun _ M43 => ob (qpr_netWages M43) (fun r46 M47 => K M43 r46 M47))))) = K M'' (wkN M V B F f w l 22 - wkN M V B F f w l 17 - wkN M V B F f w l 2) M'' := by
  obtain ⟨o, M1, f1, f2, f3, f4, f5⟩ := letters_g hu hp hl M Eq1.rf
  have eo : o = oLi l := by
    rw [listAt_o hu hl] at f1
    exact (some_p f1).1.symm
  subst eo
  have c1 : oC M M1 := ⟨f4, fun c q => f5 c (by omega) (by omega)⟩
  have fs := ht.fs
  have ht1 : I_tn M1 := ht.fr c1.tn
  obtain ⟨y, g1, g2, g3⟩ := isOwn_v ht1 (f := f) (by rw [frM_E c1.tn]; exact hf)
  have x5 : ∀ i, i < 10 → M1.2 175 i = F i := fun i hi => by rw [f5 _ (by omega) (by omega)]; exact eF i hi
  obtain ⟨M2, k1, k2, k3⟩ := boundWorths_g hp w g2 (LV V l (M.2 175)) M1 c1.pr f3
  have val : ∀ x, x < 26 → clN (M2.2 177 x) = wkN M V B F f w l x := fun x hx => by
    rw [k3 x hx]
    unfold wkN
    have hB : ∀ a, a < acM M → exB (B a) := fun a ha => (hp.2.2 a ha).2.2.1
    have eL : ∀ x, x < 26 → LV V l (M.2 175) x = LV V l F x := fun x _ => by
      unfold LV
      rcases hl with rfl | ⟨k, hk, rfl⟩
      · rw [if_pos rfl, if_pos rfl]
      · have := hu.1
        rw [if_neg (nI_ne_m1 (by omega)), if_neg (nI_ne_m1 (by omega)), nI_cl (by omega)]
        exact (hp.2.1 k hk).2.2.1 _ _ eF x
    rw [bdN_E (M := M) (M' := M) B (F := M1.2 175) (G := F) w x (fun _ _ _ _ => rfl) x5 eL hx _ hB]
    congr 1
    by_cases z : x = 17 ∧ ¬ y = 0
    · rw [if_pos z, if_pos ⟨z.1, by have := z.2; rwa [g3, c1.1 185 f (by omega)] at this⟩]
    · rw [if_neg z, if_neg (fun v => z ⟨v.1, by rw [g3, c1.1 185 f (by omega)]; exact v.2⟩)]
  refine ⟨M2, c1.tr k2.c, ?_, ?_⟩
  · rw [k2.2 175 (by omega) (by omega), f5 175 (by omega) (by omega)]
  · rw [f2, ob_s, g1, ob_s, k1, ob_s, netWages_g, ob_s, val _ (by omega), val _ (by omega), val _ (by omega)]
theorem hasRoomO {M' : SM} {r : Nat} (h : M'.1 244 7 = nI r) (hr : r < 10) : qod_hasRoom M' = some (1, M') := by
  unfold qod_hasRoom
  rw [h, if_neg (nI_lt0 (by omega)), if_pos (nl_10 hr)]
theorem orF_E {M M' : SM} (et : Eq1 sTn M M') (e : Eq1 sEn M M') {f : Nat} (hf : f < 16) (h16 : frM M ≤ 16) (w : Nat) (t : Int32) (sh nr yn k : Nat) : orF M' f w t sh nr yn k = orF M f w t sh nr yn k := by
  funext i
  unfold orF
  rw [iaN_E et e hf, fcN_E et e hf h16]
theorem gaN_E {M M' : SM} (hp : PR M V B) (et : Eq1 sTn M M') (e : Eq1 sEn M M') (ep : Eq1 sPr M M') {f : Nat} (hf : f < 16) (h16 : frM M ≤ 16) (w : Nat) (t l : Int32) (sh nr yn pr k : Nat) : gaN M' V B w t l sh nr yn pr f k = gaN M V B w t l sh nr yn pr f k := by
  unfold gaN
  rw [orF_E et e hf h16, wkN_E hp et ep _ hf w l (by omega), wkN_E hp et ep _ hf w l (by omega), wkN_E hp et ep _ hf w l (by omega)]
theorem fG_L122 (ht : I_tn M) (he : I_en M) (hu : I_us M) (hp : PR M V B) {f sh nr yn pr r : Nat} (hf : f < frM M) (hh : ¬ M.1 (187 + f) (nwM M) = -1) {l : Int32} (hl : okli M l) (hr : r < 10) (e4 : M.1 244 4 = nI nr) (e5 : M.1 244 5 = nI yn) (e6 : M.1 244 6 = nI pr) {K : Int32 → Option Nat → Int32 → SM → Option (Unit × SM)} : ∀ (d fu k : Nat) (M' : SM), 25 - k = d → d < fu → k ≤ 25 → oG M M' → M'.1 244 7 = nI r → (∀ i, i = 0 ∨ i = 5 ∨ i = 6 ∨ i = 8 ∨ i = 9 → M'.2 175 i = fcN M f (nwM M) (M.1 179 0) i) → M'.2 175 2 = Int32.toInt64 (nI sh) → (∀ j, j < k → M'.2 (247 + r) j = gaN M V B (nwM M) (M.1 179 0) l sh nr yn pr f j) →
    ∃ M'' : SM, qfr_fillGains_L122 K fu (nI (nwM M)) (oLi l) (nI f) (nI k) M' = K (nI (nwM M)) (oLi l) (nI f) M'' ∧ oG M M'' ∧ (∀ c i, ¬ (c = 12 ∧ i = 8) → M''.1 c i = M'.1 c i) ∧ (∀ c, ¬ (175 ≤ c ∧ c ≤ 178) → c ≠ 247 + r → M''.2 c = M'.2 c) ∧ ∀ j, j < 25 → M''.2 (247 + r) j = gaN M V B (nwM M) (M.1 179 0) l sh nr yn pr f j := by
  have fs := ht.fs
  have an := ht.nw
  intro d
  induction d with
  | zero =>
    intro fu k M' e hfu hk o e7 hx h2 hg
    obtain ⟨fu, rfl⟩ : ∃ y, fu = y + 1 := ⟨fu - 1, by omega⟩
    obtain rfl : k = 25 := by omega
    refine ⟨M', ?_, o, fun _ _ _ => rfl, fun _ _ _ => rfl, hg⟩
    unfold qfr_fillGains_L122
    rw [if_pos (by decide)]
  | succ d ih =>
    intro fu k M' e hfu hk o e7 hx h2 hg
    obtain ⟨fu, rfl⟩ : ∃ y, fu = y + 1 := ⟨fu - 1, by omega⟩
    have ht' := ht.fr o.tn
    have he' := he.fr o.en
    have nw' : nwM M' = nwM M := nwM_E o.tn
    have f' : f < frM M' := by rw [frM_E o.tn]; exact hf
    have kk : ∀ a, a ≤ 100 → k * a ≤ 24 * 100 := fun a ha => Nat.mul_le_mul (by omega) ha
    -- the facts
    obtain ⟨v7, ev7⟩ : ∃ v7 : Int32, v7 = (if 0 < k then 0 else nI (iaN M f (M.1 179 0) (nwM M))) := ⟨_, rfl⟩
    generalize hM1 : wL (wL (wL (wL M' 175 1 (Int32.toInt64 (nI k))) 175 3 (Int32.toInt64 (nI (k * nr)))) 175 4 (Int32.toInt64 (nI (k * yn)))) 175 7 (Int32.toInt64 v7) = M1
    have g1 : ∀ c i, M1.2 c i = if c = 175 ∧ i = 7 then Int32.toInt64 v7 else if c = 175 ∧ i = 4 then Int32.toInt64 (nI (k * yn)) else if c = 175 ∧ i = 3 then Int32.toInt64 (nI (k * nr)) else if c = 175 ∧ i = 1 then Int32.toInt64 (nI k) else M'.2 c i := fun c i => by rw [← hM1, wL_2, wL_2, wL_2, wL_2]
    have i1 : M1.1 = M'.1 := by rw [← hM1]; rfl
    have o1 : oG M' M1 := ⟨fun c i _ => by rw [i1], fun c q => by funext i; rw [g1, if_neg (by omega), if_neg (by omega), if_neg (by omega), if_neg (by omega)]⟩
    have oM1 := o.tr o1
    have ht1 := ht.fr oM1.tn
    have hu1 := hu.fr oM1.us
    have hp1 := hp.fr hu.1.2.1 oM1.pr
    have hl1 : okli M1 l := by unfold okli; rw [lsM_E oM1.pr]; exact hl
    have eF : ∀ i, i < 10 → M1.2 175 i = orF M f (nwM M) (M.1 179 0) sh nr yn k i := fun i hi => by
      rw [g1]
      unfold orF
      rcases (show i = 0 ∨ i = 1 ∨ i = 2 ∨ i = 3 ∨ i = 4 ∨ i = 5 ∨ i = 6 ∨ i = 7 ∨ i = 8 ∨ i = 9 by omega) with rfl | rfl | rfl | rfl | rfl | rfl | rfl | rfl | rfl | rfl
      · simpa using hx 0 (by omega)
      · simp
      · simpa using h2
      · simp
      · simp
      · simpa using hx 5 (by omega)
      · simpa using hx 6 (by omega)
      · simp only [ev7]
        by_cases q : 0 < k
        · simp [q]
        · simp [q]
      · simpa using hx 8 (by omega)
      · simpa using hx 9 (by omega)
    obtain ⟨M2, o2, e175, net⟩ := net_g ht1 hu1 hp1 (f := f) (w := nwM M) (by rw [frM_E oM1.tn]; exact hf) hl1 (orF M f (nwM M) (M.1 179 0) sh nr yn k) eF (K := fun M43 r46 M47 => ob (qod_setGain (nI k) (((Int32.toInt64 (nI k)) * (Int32.toInt64 (M43.1 244 6))) - r46) M47) (fun _ M49 => qfr_fillGains_L122 K fu (nI (nwM M)) (oLi l) (nI f) ((nI k) + (1 : Int32)) M49))
    have oM2 := oM1.tr o2.g
    have eg : gaN M V B (nwM M) (M.1 179 0) l sh nr yn pr f k = Int32.toInt64 (nI k) * Int32.toInt64 (nI pr) - (wkN M1 V B (orF M f (nwM M) (M.1 179 0) sh nr yn k) f (nwM M) l 22 - wkN M1 V B (orF M f (nwM M) (M.1 179 0) sh nr yn k) f (nwM M) l 17 - wkN M1 V B (orF M f (nwM M) (M.1 179 0) sh nr yn k) f (nwM M) l 2) := by
      unfold gaN
      rw [wkN_E hp oM1.tn oM1.pr _ (by omega) _ _ (by omega), wkN_E hp oM1.tn oM1.pr _ (by omega) _ _ (by omega), wkN_E hp oM1.tn oM1.pr _ (by omega) _ _ (by omega)]
    rw [show M2.1 244 6 = nI pr by rw [o2.1 244 6 (by omega), i1, o.1 244 6 (by omega)]; exact e6, ← eg] at net
    have e7' : M2.1 244 7 = nI r := by rw [o2.1 244 7 (by omega), i1]; exact e7
    have kz := kz_ga r hr
    have hset : qod_setGain (nI k) (gaN M V B (nwM M) (M.1 179 0) l sh nr yn pr f k) M2 = some ((), wL M2 (247 + r) k (gaN M V B (nwM M) (M.1 179 0) l sh nr yn pr f k)) := by
      unfold qod_setGain
      rw [hasRoomO e7' hr, ob_s, if_neg (by decide), if_neg (nI_lt0 (by omega)), if_neg (show ¬ (24 : Int32) < nI k from nI_nlt (a := 24) (b := k) (by omega) (by omega)), e7', nI_cl (by omega), ck_ib (by omega) (by omega), ck_av kz.1 (by omega) (by omega) (by omega), ck_t, nI_cl (by omega)]
    have oM3 : oG M (wL M2 (247 + r) k (gaN M V B (nwM M) (M.1 179 0) l sh nr yn pr f k)) := oM2.tr ⟨fun _ _ _ => rfl, fun c q => by funext i; rw [wL_2, if_neg (by omega)]⟩
    obtain ⟨M'', z1, z2, z3, z4, z5⟩ := ih fu (k + 1) _ (by omega) (by omega) (by omega) oM3 e7' (fun i hi => by
        rw [wL_2, if_neg (by omega), e175, eF i (by omega)]
        unfold orF
        rw [if_neg (by omega), if_neg (by omega), if_neg (by omega), if_neg (by omega), if_neg (by omega)]) (by
        rw [wL_2, if_neg (by omega), e175, g1, if_neg (by omega), if_neg (by omega), if_neg (by omega), if_neg (by omega)]; exact h2) (fun j hj => by
        rw [wL_2]
        by_cases q : j = k
        · rw [if_pos ⟨rfl, q⟩, q]
        · rw [if_neg (fun z => q z.2), o2.2 (247 + r) (by omega), g1, if_neg (by omega), if_neg (by omega), if_neg (by omega), if_neg (by omega)]
          exact hg j (by omega))
    refine ⟨M'', ?_, z2, fun c i q => by rw [z3 c i q]; show M2.1 c i = _; rw [o2.1 c i q, i1], fun c q1 q2 => ?_, z5⟩
    · have net' : (ob (qpr_setFact (7 : Int32) v7 (wL (wL (wL M' 175 1 (Int32.toInt64 (nI k))) 175 3 (Int32.toInt64 (nI (k * nr)))) 175 4 (Int32.toInt64 (nI (k * yn))))) (fun _ M34 =>
          ob (qpr_reckonLetters (oLi l) M34) (fun _ M37 =>
          ob (qtn_isOwn (nI f) M37) (fun r40 M41 =>
          ob (qpr_boundWorths (nI (nwM M)) r40 M41) (fun _ M43 =>
          ob (qpr_netWages M43) (fun r46 M47 =>
          ob (qod_setGain (nI k) (((Int32.toInt64 (nI k)) * (Int32.toInt64 (M43.1 244 6))) - r46) M47) (fun _ M49 =>
          qfr_fillGains_L122 K fu (nI (nwM M)) (oLi l) (nI f) ((nI k) + (1 : Int32)) M49))))))) = K (nI (nwM M)) (oLi l) (nI f) M'' := by
        rw [setFact_g (x := 7) (k := 7) rfl (by omega), ob_s, hM1, net, hset, ob_s, nI_1]
        exact z1
      unfold qfr_fillGains_L122
      simp only [jn_ap]
      rw [if_neg (show ¬ (24 : Int32) < nI k from nI_nlt (a := 24) (b := k) (by omega) (by omega)), setFact_g (x := 1) (k := 1) rfl (by omega), ob_s, show (wL M' 175 1 (Int32.toInt64 (nI k))).1 244 4 = nI nr by show M'.1 244 4 = _; rw [o.1 244 4 (by omega)]; exact e4, nI_mul, setFact_g (x := 3) (k := 3) rfl (by omega), ob_s, show (wL (wL M' 175 1 (Int32.toInt64 (nI k))) 175 3 (Int32.toInt64 (nI (k * nr)))).1 244 5 = nI yn by show M'.1 244 5 = _; rw [o.1 244 5 (by omega)]; exact e5, nI_mul, setFact_g (x := 4) (k := 4) rfl (by omega), ob_s]
      by_cases q : 0 < k
      · rw [if_pos (show (0 : Int32) < nI k from (nI_ltI (a := 0) (by omega) (by omega)).mpr q)]
        rw [if_pos q] at ev7
        rw [ev7] at net'
        exact net'
      · rw [if_neg (show ¬ (0 : Int32) < nI k from fun z => q ((nI_ltI (a := 0) (by omega) (by omega)).mp z))]
        rw [if_neg q] at ev7
        have oN : oG M (wL (wL (wL M' 175 1 (Int32.toInt64 (nI k))) 175 3 (Int32.toInt64 (nI (k * nr)))) 175 4 (Int32.toInt64 (nI (k * yn)))) := o.tr ⟨fun _ _ _ => rfl, fun c q => by funext i; rw [wL_2, if_neg (by omega), wL_2, if_neg (by omega), wL_2, if_neg (by omega)]⟩
        have hidle := idleIf_g (ht.fr oN.tn) (he.fr oN.en) (f := f) (by rw [frM_E oN.tn]; exact hf) (by rw [nwM_E oN.tn, hold_E oN.tn (by omega)]; exact hh)
        rw [nwM_E oN.tn, iaN_E oN.tn oN.en (by omega), show (wL (wL (wL M' 175 1 (Int32.toInt64 (nI k))) 175 3 (Int32.toInt64 (nI (k * nr)))) 175 4 (Int32.toInt64 (nI (k * yn)))).1 179 0 = M.1 179 0 from oN.1 179 0 (by omega), ← ev7] at hidle
        rw [hidle, ob_s]
        exact net'
    · rw [z4 c q1 q2]
      funext i
      rw [wL_2, if_neg (fun z => q2 z.1), o2.2 c (by omega), g1, if_neg (by omega), if_neg (by omega), if_neg (by omega), if_neg (by omega)]
end
