/-! count; worth -/
section
variable {M : SM} {V : Nat → FA → LE} {B : Nat → FA → LE → Int64}
def skB (M : SM) (k : Nat) : Bool := !decide (M.1 279 k = 0)
theorem fr_strikers (M : SM) : ∀ d fu i, 12 - i = d → d < fu → i ≤ 12 → qfu_strikers_L4 fu (nI (cnt (skB M) i)) (nI i) M = some (nI (cnt (skB M) 12), M) := by
  intro d
  induction d with
  | zero =>
    intro fu i e hf hi
    obtain ⟨fu, rfl⟩ : ∃ y, fu = y + 1 := ⟨fu - 1, by omega⟩
    obtain rfl : i = 12 := by omega
    unfold qfu_strikers_L4
    rw [if_neg (by decide)]
  | succ d ih =>
    intro fu i e hf hi
    obtain ⟨fu, rfl⟩ : ∃ y, fu = y + 1 := ⟨fu - 1, by omega⟩
    unfold qfu_strikers_L4
    rw [if_pos (nl_12 (show i < 12 by omega)), ck_ib (by omega) (by omega), ck_t, nI_cl (by omega)]
    have e1 : cnt (skB M) (i + 1) = cnt (skB M) i + (if skB M i = true then 1 else 0) := rfl
    have := ih fu (i + 1) (by omega) (by omega) (by omega)
    by_cases q : M.1 279 i = 0
    · rw [if_pos q, nI_1]
      rw [e1, if_neg (by unfold skB; simp [q])] at this
      exact this
    · rw [if_neg q, nI_1, nI_1]
      rw [e1, if_pos (by unfold skB; simp [q])] at this
      exact this
theorem md_strikers (ht : I_tn M) (hf : I_fu M) : ∀ d fu i, knM M - i = d → d < fu → i ≤ knM M → qmd_strikers_L4 fu (nI (cnt (skB M) i)) (nI i) M = some (nI (cnt (skB M) (knM M)), M) := by
  have ak := ht.kn
  intro d
  induction d with
  | zero =>
    intro fu i e hf' hi
    obtain ⟨fu, rfl⟩ : ∃ y, fu = y + 1 := ⟨fu - 1, by omega⟩
    obtain rfl : i = knM M := by omega
    unfold qmd_strikers_L4
    rw [ak.2.2, if_neg (nI_nlt (Nat.le_refl _) (by omega))]
  | succ d ih =>
    intro fu i e hf' hi
    obtain ⟨fu, rfl⟩ : ∃ y, fu = y + 1 := ⟨fu - 1, by omega⟩
    unfold qmd_strikers_L4
    rw [ak.2.2, if_pos ((nI_ltI (by omega) (by omega)).mpr (show i < knM M by omega)), ck_ib (by omega) (by omega), ck_t, nI_cl (by omega), (hf.2.2.1 i (by omega)).1]
    have e1 : cnt (skB M) (i + 1) = cnt (skB M) i + (if skB M i = true then 1 else 0) := rfl
    have := ih fu (i + 1) (by omega) (by omega) (by omega)
    by_cases q : M.1 279 i = 0
    · rw [if_pos q, show (0 : Int32) = nI 0 from rfl, nI_add, nI_1]
      rw [e1, if_neg (by unfold skB; simp [q])] at this
      exact this
    · rw [if_neg q, nI_1, nI_1]
      rw [e1, if_pos (by unfold skB; simp [q])] at this
      exact this
theorem strikers_same (ht : I_tn M) (hf : I_fu M) : qfu_strikers M = some (nI (cnt (skB M) 12), M) ∧ qmd_strikers M = some (nI (cnt (skB M) 12), M) := by
  have ak := ht.kn
  refine ⟨fr_strikers M 12 FU 0 (by omega) (by unfold FU; omega) (by omega), ?_⟩
  have h := md_strikers ht hf (knM M) FU 0 (by omega) (by unfold FU; omega) (by omega)
  have e : cnt (skB M) 12 = cnt (skB M) (knM M) := by
    rw [show 12 = knM M + (12 - knM M) by omega, cnt_add, cnt_ext (f := fun k => skB M (knM M + k)) (g := fun _ => false) _ (fun k hk => by unfold skB; rw [hf.2.2.2 _ (by omega) (by omega)]; rfl)]
    have z : ∀ n, cnt (fun _ => false) n = 0 := by
      intro n
      induction n with
      | zero => rfl
      | succ n ih => show cnt _ n + (if false = true then 1 else 0) = 0; rw [ih]; rfl
    rw [z]; omega
  rw [e]
  exact h
theorem count_p (ht : I_tn M) (hu : I_us M) (hp : PR M V B) (he : I_en M) (hl : I_lo M) (hf : I_fu M) (htp : I_tp M) (hb : I_bk M) (x : Int32) : Pr M (qfr_count x) (qmd_count x) (fun M2 => M2 = M) := by
  have an := ht.nw
  have am := ht.ms
  have ak := ht.kn
  have fs := ht.fs
  obtain ⟨s1, s2⟩ := strikers_same ht hf
  have key : ∀ r : Int32, qfr_count x M = some (r, M) → qmd_count x M = some (r, M) → Pr M (qfr_count x) (qmd_count x) (fun M2 => M2 = M) := fun r h1 h2 => Pr.mk h1 h2 rfl
  by_cases q0 : x = 0
  · exact key (nI (nwM M)) (by unfold qfr_count; rw [if_pos q0, an.1]) (by unfold qmd_count; rw [if_pos q0, an.2.2])
  by_cases q1 : x = 1
  · exact key (nI (msM M)) (by unfold qfr_count; rw [if_neg q0, if_pos q1, am.1]) (by unfold qmd_count; rw [if_neg q0, if_pos q1, am.2.2])
  by_cases q2 : x = 2
  · exact key (nI (knM M)) (by unfold qfr_count; rw [if_neg q0, if_neg q1, if_pos q2, ak.1]) (by unfold qmd_count; rw [if_neg q0, if_neg q1, if_pos q2, ak.2.2])
  by_cases q3 : x = 3
  · exact key (nI (frM M)) (by unfold qfr_count; rw [if_neg q0, if_neg q1, if_neg q2, if_pos q3, fs.1]) (by unfold qmd_count; rw [if_neg q0, if_neg q1, if_neg q2, if_pos q3, fs.2.2])
  by_cases q4 : x = 4
  · exact key (nI (lsM M)) (by unfold qfr_count; rw [if_neg q0, if_neg q1, if_neg q2, if_neg q3, if_pos q4, hu.1.1]) (by unfold qmd_count; rw [if_neg q0, if_neg q1, if_neg q2, if_neg q3, if_pos q4, hu.1.2.2])
  by_cases q5 : x = 5
  · exact key (nI (acM M)) (by unfold qfr_count; rw [if_neg q0, if_neg q1, if_neg q2, if_neg q3, if_neg q4, if_pos q5, hp.1.1]) (by unfold qmd_count; rw [if_neg q0, if_neg q1, if_neg q2, if_neg q3, if_neg q4, if_pos q5, hp.1.2.2])
  by_cases q6 : x = 6
  · exact key (nI (enM M)) (by unfold qfr_count; rw [if_neg q0, if_neg q1, if_neg q2, if_neg q3, if_neg q4, if_neg q5, if_pos q6, he.1.1]) (by unfold qmd_count; rw [if_neg q0, if_neg q1, if_neg q2, if_neg q3, if_neg q4, if_neg q5, if_pos q6, he.1.2.2])
  by_cases q7 : x = 7
  · exact key (nI (loM M)) (by unfold qfr_count; rw [if_neg q0, if_neg q1, if_neg q2, if_neg q3, if_neg q4, if_neg q5, if_neg q6, if_pos q7, hl.1.1]) (by unfold qmd_count; rw [if_neg q0, if_neg q1, if_neg q2, if_neg q3, if_neg q4, if_neg q5, if_neg q6, if_pos q7, hl.1.2.2])
  by_cases q8 : x = 8
  · exact key (nI (peM M)) (by unfold qfr_count; rw [if_neg q0, if_neg q1, if_neg q2, if_neg q3, if_neg q4, if_neg q5, if_neg q6, if_neg q7, if_pos q8, hf.1.1]) (by unfold qmd_count; rw [if_neg q0, if_neg q1, if_neg q2, if_neg q3, if_neg q4, if_neg q5, if_neg q6, if_neg q7, if_pos q8, hf.1.2.2])
  by_cases q9 : x = 9
  · exact key _ (by unfold qfr_count; rw [if_neg q0, if_neg q1, if_neg q2, if_neg q3, if_neg q4, if_neg q5, if_neg q6, if_neg q7, if_neg q8, if_pos q9, s1, ob_s]) (by unfold qmd_count; rw [if_neg q0, if_neg q1, if_neg q2, if_neg q3, if_neg q4, if_neg q5, if_neg q6, if_neg q7, if_neg q8, if_pos q9, s2, ob_s])
  by_cases q10 : x = 10
  · exact key (nI (taM M)) (by unfold qfr_count; rw [if_neg q0, if_neg q1, if_neg q2, if_neg q3, if_neg q4, if_neg q5, if_neg q6, if_neg q7, if_neg q8, if_neg q9, if_pos q10, htp.1.1]) (by unfold qmd_count; rw [if_neg q0, if_neg q1, if_neg q2, if_neg q3, if_neg q4, if_neg q5, if_neg q6, if_neg q7, if_neg q8, if_neg q9, if_pos q10, htp.1.2.2])
  by_cases q11 : x = 11
  · exact key (nI (bkM M)) (by unfold qfr_count; rw [if_neg q0, if_neg q1, if_neg q2, if_neg q3, if_neg q4, if_neg q5, if_neg q6, if_neg q7, if_neg q8, if_neg q9, if_neg q10, if_pos q11, hb.1.1]) (by unfold qmd_count; rw [if_neg q0, if_neg q1, if_neg q2, if_neg q3, if_neg q4, if_neg q5, if_neg q6, if_neg q7, if_neg q8, if_neg q9, if_neg q10, if_pos q11, hb.1.2.2])
  -- the rest
  have fin : ∀ r : Int32, qfr_countOf x M = some (r, M) → (ob (qmd_in x (20 : Int32) ((19 : Int32) + (M.1 280 3)) M) (fun r16 M17 =>
    if r16 = 0 then
    (ob (qmd_in x (40 : Int32) ((39 : Int32) + (M17.1 280 27)) M17) (fun r19 M20 =>
      if r19 = 0 then
      (some ((-1 : Int32), M20)) else
      (ck (ib 10 (x - (40 : Int32)) && true) (
        some ((M20.1 297 (Int32.toNatClampNeg (x - (40 : Int32)))), M20))))) else
    (ob (qmd_hirerOf (x - (20 : Int32)) (M17.1 280 0) M17) (fun r24 M25 =>
      some (r24, M25))))) = some (r, M) → Pr M (qfr_count x) (qmd_count x) (fun M2 => M2 = M) := fun r h1 h2 => key r
        (by unfold qfr_count; rw [if_neg q0, if_neg q1, if_neg q2, if_neg q3, if_neg q4, if_neg q5, if_neg q6, if_neg q7, if_neg q8, if_neg q9, if_neg q10, if_neg q11, h1, ob_s])
        (by unfold qmd_count; rw [if_neg q0, if_neg q1, if_neg q2, if_neg q3, if_neg q4, if_neg q5, if_neg q6, if_neg q7, if_neg q8, if_neg q9, if_neg q10, if_neg q11]; exact h2)
  have e19 : (19 : Int32) + M.1 280 3 = nI (19 + frM M) := by rw [fs.2.2, show (19 : Int32) = nI 19 from rfl, nI_add]
  have e39 : (39 : Int32) + M.1 280 27 = nI (39 + lsM M) := by rw [hu.1.2.2, show (39 : Int32) = nI 39 from rfl, nI_add]
  have hls := hu.1.2.1
  by_cases hx0 : x < 0
  · have b1 : x < (20 : Int32) := nI_le_of (a := 20) (by omega) hx0
    have b2 : x < (40 : Int32) := nI_le_of (a := 40) (by omega) hx0
    refine fin (-1) ?_ ?_
    · unfold qfr_countOf
      simp only [jn_ap]
      rw [if_pos b1, if_pos b2, om_n]
    · rw [md_in_f (Or.inl b1), ob_s, if_pos rfl, md_in_f (Or.inl b2), ob_s, if_pos rfl]
  obtain ⟨y, hy, rfl⟩ := nI_of hx0
  by_cases h20 : y < 20
  · have a1 : nI y < (20 : Int32) := nI_lt (b := 20) h20 (by decide)
    have a2 : nI y < (40 : Int32) := nI_lt (b := 40) (by omega) (by decide)
    refine fin (-1) ?_ ?_
    · unfold qfr_countOf
      simp only [jn_ap]
      rw [if_pos a1, if_pos a2, om_n]
    · rw [md_in_f (Or.inl a1), ob_s, if_pos rfl, md_in_f (Or.inl a2), ob_s, if_pos rfl]
  have n20 : ¬ nI y < (20 : Int32) := nI_nlt (b := 20) (by omega) (by omega)
  have s20 : nI y - (20 : Int32) = nI (y - 20) := nI_subN (b := 20) (by omega)
  by_cases h40 : y < 40
  · have a2 : nI y < (40 : Int32) := nI_lt (b := 40) (by omega) (by decide)
    by_cases hfr : y - 20 < frM M
    · refine fin (M.1 (187 + (y - 20)) (nwM M)) ?_ ?_
      · unfold qfr_countOf
        simp only [jn_ap]
        rw [if_neg n20, if_pos a2, s20, an.1, holderAt_g ht hfr (by omega), ob_s]
      · rw [e19, md_in_t n20 (nI_nlt (by omega) (by omega)), ob_s, if_neg (by decide), s20, an.2.2, hirerOf_g ht hfr (by omega), ob_s]
    · refine fin (-1) ?_ ?_
      · unfold qfr_countOf
        simp only [jn_ap]
        rw [if_neg n20, if_pos a2, s20, holderAt_bf ht (Or.inr (nI_nlt (by omega) (by omega))), ob_s]
      · rw [e19, md_in_f (Or.inr ((nI_ltI (by omega) (by omega)).mpr (by omega))), ob_s, if_pos rfl, md_in_f (Or.inl a2), ob_s, if_pos rfl]
  have n40 : ¬ nI y < (40 : Int32) := nI_nlt (b := 40) (by omega) (by omega)
  have s40 : nI y - (40 : Int32) = nI (y - 40) := nI_subN (b := 40) (by omega)
  have nfr : qmd_in (nI y) (20 : Int32) (nI (19 + frM M)) M = some (0, M) := md_in_f (Or.inr ((nI_ltI (by omega) (by omega)).mpr (by omega)))
  by_cases hls2 : y - 40 < lsM M
  · have hK := shK_l (y - 40) (by omega)
    refine fin (M.1 (15 + 16 * (y - 40)) 3) ?_ ?_
    · unfold qfr_countOf
      simp only [jn_ap]
      rw [if_neg n20, if_neg n40, if_neg n40, s40, listAt_g hu hls2, ob_s, om_s, ckb (and_i hK.kc rfl)]
    · rw [e19, nfr, ob_s, if_pos rfl, e39, md_in_t n40 (nI_nlt (by omega) (by omega)), ob_s, if_neg (by decide), s40, ck_ib (by omega) (by omega), ck_t, nI_cl (by omega), (hp.2.1 _ hls2).2.2.2]
  · refine fin (-1) ?_ ?_
    · unfold qfr_countOf
      simp only [jn_ap]
      rw [if_neg n20, if_neg n40, if_neg n40, s40, listAt_b hu (Or.inr (nI_nlt (by omega) (by omega))), ob_s, om_n]
    · rw [e19, nfr, ob_s, if_pos rfl, e39, md_in_f (Or.inr ((nI_ltI (by omega) (by omega)).mpr (by omega))), ob_s, if_pos rfl]
/-! worth -/
theorem four_b (a b c d : Int32) : ((((a <<< ((24 : Int32) &&& 31)) ||| (b <<< ((16 : Int32) &&& 31))) ||| (c <<< ((8 : Int32) &&& 31))) ||| d) = ((((((((0 : Int32) <<< ((8 : Int32) &&& 31)) ||| a) <<< ((8 : Int32) &&& 31)) ||| b) <<< ((8 : Int32) &&& 31)) ||| c) <<< ((8 : Int32) &&& 31)) ||| d := by
  apply b_ext; intro i hi
  rw [b_or, b_or, b_or, b_or, b_shl24 _ hi, b_shl16 _ hi, b_shl8 _ hi, b_shl8 _ hi]
  by_cases h8 : 8 ≤ i
  · rw [b_or, b_shl8 _ (by omega)]
    by_cases h16 : 8 ≤ i - 8
    · rw [b_or, b_shl8 _ (by omega)]
      by_cases h24 : 8 ≤ i - 8 - 8
      · rw [b_or, b_shl8 _ (by omega), b_0, show i - 8 - 8 - 8 = i - 24 by omega, show i - 8 - 8 = i - 16 by omega]
        simp [show 24 ≤ i by omega, show 16 ≤ i by omega, h8, show 8 ≤ i - 8 by omega, show 8 ≤ i - 16 by omega]
      · rw [show i - 8 - 8 = i - 16 by omega]
        simp [show ¬ 24 ≤ i by omega, show 16 ≤ i by omega, h8, show 8 ≤ i - 8 by omega, show ¬ 8 ≤ i - 16 by omega]
    · simp [show ¬ 24 ≤ i by omega, show ¬ 16 ≤ i by omega, h8, h16]
  · simp [show ¬ 24 ≤ i by omega, show ¬ 16 ≤ i by omega, h8]
def inT (M : SM) (k : Nat) : Int32 := (((((M.1 2 (4 * k)) &&& 255) <<< ((24 : Int32) &&& 31)) ||| (((M.1 2 (4 * k + 1)) &&& 255) <<< ((16 : Int32) &&& 31))) ||| (((M.1 2 (4 * k + 2)) &&& 255) <<< ((8 : Int32) &&& 31))) ||| ((M.1 2 (4 * k + 3)) &&& 255)
theorem intAt_g {M : SM} {T k : Nat} (hT : M.1 1 1 = nI T) (hT2 : T ≤ 200) (h : 4 * k + 4 ≤ T) : qtp_intAt (nI (4 * k)) M = some (inT M k, M) := by
  unfold qtp_intAt
  rw [byteAt_g hT hT2 (by omega), ob_s, nI_1, byteAt_g hT hT2 (by omega), ob_s, show (2 : Int32) = nI 2 from rfl, nI_add, byteAt_g hT hT2 (by omega), ob_s, show (3 : Int32) = nI 3 from rfl, nI_add, byteAt_g hT hT2 (by omega), ob_s]
  rfl
theorem numberAt_g {M M0 : SM} {k : Nat} (hk : k < 10) (h : ∀ i, i < 40 → M.1 289 i = M0.1 2 i) : qmd_numberAt (nI k) M = some (inT M0 k, M) := by
  have st : ∀ (fu j : Nat) (v : Int32), j < 4 → qmd_numberAt_L6 (fu + 1) (nI k) v (nI (4 * k + j)) M = qmd_numberAt_L6 fu (nI k) ((v <<< ((8 : Int32) &&& 31)) ||| ((M0.1 2 (4 * k + j)) &&& 255)) (nI (4 * k + (j + 1))) M := fun fu j v hj => by
    have un : qmd_numberAt_L6 (fu + 1) (nI k) v (nI (4 * k + j)) M = if nI (4 * k + j) < (((4 : Int32) * nI k) + (4 : Int32)) then
    (ck (ib 200 (nI (4 * k + j)) && true) (
      lt ((v <<< ((8 : Int32) &&& 31)) ||| ((M.1 289 (Int32.toNatClampNeg (nI (4 * k + j)))) &&& (255 : Int32))) (fun (z2 : Int32) =>
      qmd_numberAt_L6 fu (nI k) z2 (nI (4 * k + j) + (1 : Int32)) M))) else
    (some (v, M)) := rfl
    rw [un, show (4 : Int32) = nI 4 from rfl, nI_mul, nI_add, if_pos ((nI_ltI (by omega) (by omega)).mpr (by omega)), ck_ib (by omega) (by omega), ck_t, ltt_s, nI_cl (by omega), h _ (by omega), nI_1, Nat.add_assoc]
  have key : ∀ fu, qmd_numberAt_L6 (fu + 1 + 1 + 1 + 1 + 1) (nI k) 0 (nI (4 * k + 0)) M = some (inT M0 k, M) := fun fu => by
    rw [st _ 0 _ (by omega), st _ 1 _ (by omega), st _ 2 _ (by omega), st _ 3 _ (by omega)]
    have un : ∀ v, qmd_numberAt_L6 (fu + 1) (nI k) v (nI (4 * k + (3 + 1))) M = if nI (4 * k + (3 + 1)) < (((4 : Int32) * nI k) + (4 : Int32)) then
    (ck (ib 200 (nI (4 * k + (3 + 1))) && true) (
      lt ((v <<< ((8 : Int32) &&& 31)) ||| ((M.1 289 (Int32.toNatClampNeg (nI (4 * k + (3 + 1))))) &&& (255 : Int32))) (fun (z2 : Int32) =>
      qmd_numberAt_L6 fu (nI k) z2 (nI (4 * k + (3 + 1)) + (1 : Int32)) M))) else
    (some (v, M)) := fun _ => rfl
    rw [un, show (4 : Int32) = nI 4 from rfl, nI_mul, nI_add, if_neg (nI_nlt (by omega) (by omega))]
    unfold inT
    rw [four_b]
    rfl
  have := key 999995
  unfold qmd_numberAt
  rw [show (4 : Int32) = nI 4 from rfl, nI_mul]
  exact this
theorem fr_L40 {M0 : SM} {T : Nat} (hT2 : T ≤ 200) (h40 : 40 ≤ T) {K : Int32 → Nat → SM → Option (Int64 × SM)} (x2 : Int32) (s : Nat) : ∀ d fu i (M : SM), 10 - i = d → d < fu → i ≤ 10 → oL 175 M0 M → M0.1 1 1 = nI T → (∀ j, j < i → M.2 175 j = Int32.toInt64 (inT M0 j)) →
    ∃ M' : SM, qfr_worth_L40 K fu x2 s (nI i) M = K x2 s M' ∧ oL 175 M0 M' ∧ ∀ j, j < 10 → M'.2 175 j = Int32.toInt64 (inT M0 j) := by
  intro d
  induction d with
  | zero =>
    intro fu i M e hf hi o hT hv
    obtain ⟨fu, rfl⟩ : ∃ y, fu = y + 1 := ⟨fu - 1, by omega⟩
    obtain rfl : i = 10 := by omega
    refine ⟨M, ?_, o, hv⟩
    unfold qfr_worth_L40
    rw [if_neg (by decide)]
  | succ d ih =>
    intro fu i M e hf hi o hT hv
    obtain ⟨fu, rfl⟩ : ∃ y, fu = y + 1 := ⟨fu - 1, by omega⟩
    have ei : inT M i = inT M0 i := by unfold inT; rw [o.1]
    have hgo : qfr_worth_L40 K (fu + 1) x2 s (nI i) M = qfr_worth_L40 K fu x2 s (nI (i + 1)) (wL M 175 i (Int32.toInt64 (inT M0 i))) := by
      have un : qfr_worth_L40 K (fu + 1) x2 s (nI i) M = if nI i < (10 : Int32) then
    (ob (qtp_intAt ((4 : Int32) * nI i) M) (fun r8 M9 =>
      ob (qpr_setFact (nI i) r8 M9) (fun _ M11 =>
      qfr_worth_L40 K fu x2 s (nI i + (1 : Int32)) M11))) else
    (K x2 s M) := rfl
      rw [un, if_pos (nl_10 (show i < 10 by omega)), show (4 : Int32) = nI 4 from rfl, nI_mul, intAt_g (T := T) (by rw [o.1]; exact hT) hT2 (by omega), ob_s, setFact_g (k := i) rfl (by omega), ob_s, nI_1, ei]
    rw [hgo]
    refine ih fu (i + 1) _ (by omega) (by omega) (by omega) (o.w i _) hT (fun j hj => ?_)
    rw [wL_2]
    by_cases q : j = i
    · rw [if_pos ⟨rfl, q⟩, q]
    · rw [if_neg (fun z => q z.2)]
      exact hv j (by omega)
theorem md_L40 {M0 N : SM} (h : ∀ i, i < 40 → N.1 289 i = M0.1 2 i) {K : Int32 → Int32 → SM → Option (Int64 × SM)} (x1 x2 : Int32) : ∀ d fu i (M : SM), 10 - i = d → d < fu → i ≤ 10 → oL 307 N M → (∀ j, j < i → M.2 307 j = Int32.toInt64 (inT M0 j)) →
    ∃ M' : SM, qmd_worth_L40 K fu x1 x2 (nI i) M = K x1 x2 M' ∧ oL 307 N M' ∧ ∀ j, j < 10 → M'.2 307 j = Int32.toInt64 (inT M0 j) := by
  intro d
  induction d with
  | zero =>
    intro fu i M e hf hi o hv
    obtain ⟨fu, rfl⟩ : ∃ y, fu = y + 1 := ⟨fu - 1, by omega⟩
    obtain rfl : i = 10 := by omega
    refine ⟨M, ?_, o, hv⟩
    unfold qmd_worth_L40
    rw [if_neg (by decide)]
  | succ d ih =>
    intro fu i M e hf hi o hv
    obtain ⟨fu, rfl⟩ : ∃ y, fu = y + 1 := ⟨fu - 1, by omega⟩
    unfold qmd_worth_L40
    rw [if_pos (nl_10 (show i < 10 by omega)), numberAt_g (M0 := M0) (by omega) (fun i hi => by rw [o.1]; exact h i hi), ob_s, ck_ib (by omega) (by omega), ck_t, nI_1, nI_cl (by omega)]
    refine ih fu (i + 1) _ (by omega) (by omega) (by omega) (o.w i _) (fun j hj => ?_)
    rw [wL_2]
    by_cases q : j = i
    · rw [if_pos ⟨rfl, q⟩, q]
    · rw [if_neg (fun z => q z.2)]
      exact hv j (by omega)
def sWo (c i : Nat) : Prop := (c = 1 ∧ i = 1) ∨ (c = 280 ∧ i = 13) ∨ (c = 12 ∧ i = 8)
def sWoL (c : Nat) : Prop := (175 ≤ c ∧ c ≤ 178) ∨ (307 ≤ c ∧ c ≤ 309)
theorem worth_p (hu : I_us M) (hp : PR M V B) (htp : I_tp M) (x1 x2 : Int32) : Pr M (qfr_worth x1 x2) (qmd_worth x1 x2) (fun M2 => I_tp M2 ∧ Ov sWo sWoL M M2) := by
  obtain ⟨⟨t1, t2, t3⟩, t4⟩ := id htp
  have hl10 := hu.1.2.1
  have no : qfr_worth x1 x2 M = some (0, M) → qmd_worth x1 x2 M = some (0, M) → Pr M (qfr_worth x1 x2) (qmd_worth x1 x2) (fun M2 => I_tp M2 ∧ Ov sWo sWoL M M2) := fun e1 e2 => Pr.mk e1 e2 ⟨htp, Ov.rf _ _ _⟩
  rcases ix x1 (lsM M) (by omega) with ⟨l, hl, rfl⟩ | hb
  rotate_left
  · refine no (by unfold qfr_worth; rw [listAt_b hu hb, ob_s, om_n]) ?_
    unfold qmd_worth
    by_cases q : x1 < 0
    · rw [if_pos q]
    · rw [if_neg q, hu.1.2.2, if_neg (hb.resolve_left q)]
  have hml : ¬ nI l < 0 := nI_lt0 (by omega)
  have hml2 : nI l < M.1 280 27 := by rw [hu.1.2.2]; exact (nI_ltI (by omega) (by omega)).mpr hl
  rcases rg x2 0 25 0 25 rfl rfl with ⟨x, hx1, hx2, rfl, g1, g2⟩ | hb
  rotate_left
  · exact no (by unfold qfr_worth; rw [listAt_g hu hl, ob_s, om_s, within_f hb, ob_s, if_pos rfl]) (by unfold qmd_worth; rw [if_neg hml, if_pos hml2, md_in_f hb, ob_s, if_pos rfl])
  by_cases h40 : 40 ≤ taM M
  rotate_left
  · have hlt : nI (taM M) < (40 : Int32) := nI_lt (b := 40) (by omega) (by decide)
    exact no (by unfold qfr_worth; rw [listAt_g hu hl, ob_s, om_s, within_t g1 g2, ob_s, if_neg (by decide), t1, if_pos hlt]) (by unfold qmd_worth; rw [if_neg hml, if_pos hml2, md_in_t g1 g2, ob_s, if_neg (by decide), t3, if_pos hlt])
  have hnl : ¬ nI (taM M) < (40 : Int32) := nI_nlt (b := 40) h40 (by omega)
  obtain ⟨c1, c2, c3, c4⟩ := hp.2.1 l hl
  -- the class
  obtain ⟨M1, f1, f2, f3⟩ := fr_L40 (M0 := M) t2 h40 (K := fun y2_15 y3_16 M17 =>
        ob (qtp_wipe M17) (fun _ M18 =>
          ob (qpr_reckonLetters (some y3_16) M18) (fun _ M21 =>
          ob (qpr_letterAt y2_15 M21) (fun r24 M25 =>
          some (r24, M25))))) (nI x) (15 + 16 * l) 10 FU 0 M (by omega) (by unfold FU; omega) (by omega) (oL.rf _ _) t1 (fun j hj => by omega)
  obtain ⟨M2, k1, k2, k3, k4⟩ := c1 (wI M1 1 1 0) (fun c i q1 q2 => by rw [wI_1, if_neg (by omega), f2.1])
  have hrun : qfr_worth (nI l) (nI x) M = some (V l (M1.2 175) x, M2) := by
    unfold qfr_worth
    rw [listAt_g hu hl, ob_s, om_s, within_t g1 g2, ob_s, if_neg (by decide), t1, if_neg hnl]
    refine Eq.trans f1 ?_
    rw [wipe_g, ob_s, k1, ob_s, letterAt_g (by omega), ob_s, k2 x (by omega)]
    rfl
  have o2 : ∀ c i, ¬ ((c = 1 ∧ i = 1) ∨ (c = 12 ∧ i = 8)) → M2.1 c i = M.1 c i := fun c i q => by rw [k3 c i (by omega), wI_1, if_neg (by omega), f2.1]
  have o2L : ∀ c, ¬ (175 ≤ c ∧ c ≤ 178) → M2.2 c = M.2 c := fun c q => by
    rw [k4 c (by omega) (by omega)]; exact f2.2 c (by omega)
  -- the reference
  generalize hN : wI M2 280 13 (0 : Int32) = N
  have oN : ∀ c i, ¬ ((c = 1 ∧ i = 1) ∨ (c = 12 ∧ i = 8) ∨ (c = 280 ∧ i = 13)) → N.1 c i = M.1 c i := fun c i q => by rw [← hN, wI_1, if_neg (by omega)]; exact o2 c i (by omega)
  obtain ⟨M3, h1, h2, h3⟩ := md_L40 (M0 := M) (N := N) (fun i hi => by rw [oN 289 i (by omega)]; exact t4 i (by omega)) (K := fun y1_9 y2_10 M11 =>
          ob (qmd_worths y1_9 M11) (fun _ M12 =>
            ck (ib 26 y2_10 && true) (
            some ((M12.2 308 (Int32.toNatClampNeg y2_10)), M12)))) (nI l) (nI x) 10 FU 0 N (by omega) (by unfold FU; omega) (by omega) (oL.rf _ _) (fun j hj => by omega)
  obtain ⟨M4, p1, p2, p3, p4⟩ := c2 M3 (fun c i q => by unfold rLs at q; rw [h2.1, oN c i (by omega)])
  have hrun2 : qmd_worth (nI l) (nI x) M2 = some (V l (M3.2 307) x, M4) := by
    unfold qmd_worth
    rw [if_neg hml, o2 280 27 (by omega), if_pos hml2, md_in_t g1 g2, ob_s, if_neg (by decide), o2 280 13 (by omega), t3, if_neg hnl, hN]
    refine Eq.trans h1 ?_
    rw [p1, ob_s, ck_ib (by omega) (by omega), ck_t, nI_cl (by omega), p2 x (by omega)]
  have hV : V l (M1.2 175) x = V l (M3.2 307) x := c3 _ _ (fun i hi => by rw [f3 i hi, h3 i hi]) x
  have oF : Ov sWo sWoL M M4 := ⟨fun c i q => by unfold sWo at q; rw [p3, h2.1, oN c i (by omega)], fun c q => by
    unfold sWoL at q
    rw [p4 c (by omega) (by omega), h2.2 c (by omega)]
    rw [← hN]
    exact o2L c (by omega)⟩
  refine Pr.mk hrun (by rw [hrun2, hV]) ⟨htp.w ?_ ?_ (fun i => oF.1 2 i (by unfold sWo; omega)) (fun i => oF.1 289 i (by unfold sWo; omega)), oF⟩ (fun c i hc => o2 c i (by omega))
  · rw [p3, h2.1, ← hN, wI_1, if_neg (by omega), k3 1 1 (by omega), wI_1, if_pos ⟨rfl, rfl⟩]
  · rw [p3, h2.1, ← hN, wI_1, if_pos ⟨rfl, rfl⟩]
end
