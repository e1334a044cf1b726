/-! the town: masters, knitters, frames, who holds what when -/
def nwM (M : SM) : Nat := Int32.toNatClampNeg (M.1 179 0)
def msM (M : SM) : Nat := Int32.toNatClampNeg (M.1 179 1)
def knM (M : SM) : Nat := Int32.toNatClampNeg (M.1 179 2)
def frM (M : SM) : Nat := Int32.toNatClampNeg (M.1 179 3)
def lsM (M : SM) : Nat := Int32.toNatClampNeg (M.1 12 2)
def okK (M : SM) (x : Int32) : Prop := x = -1 ∨ ∃ k, k < knM M ∧ x = nI k
def I_tn (M : SM) : Prop :=
  (M.1 179 0 = nI (nwM M) ∧ nwM M ≤ 519 ∧ M.1 280 0 = nI (nwM M)) ∧
  (M.1 179 1 = nI (msM M) ∧ msM M ≤ 6 ∧ M.1 280 1 = nI (msM M)) ∧
  (M.1 179 2 = nI (knM M) ∧ knM M ≤ 12 ∧ M.1 280 2 = nI (knM M)) ∧
  (M.1 179 3 = nI (frM M) ∧ frM M ≤ 16 ∧ M.1 280 3 = nI (frM M)) ∧
  (∀ m, m < msM M → M.1 281 m = M.1 180 m) ∧
  (∀ m, m < 6 → M.1 286 m = M.1 181 m ∧ ∃ n, n ≤ 200 ∧ M.1 181 m = nI n) ∧
  (∀ k, k < knM M → M.1 282 k = M.1 182 k ∧ ∃ n, 1 ≤ n ∧ n ≤ 9 ∧ M.1 182 k = nI n) ∧
  (∀ f, f < frM M → M.1 283 f = M.1 183 f ∧ M.1 284 f = M.1 184 f ∧ M.1 285 f = M.1 185 f ∧ (∃ m, m < msM M ∧ M.1 184 f = nI m) ∧ okK M (M.1 185 f)) ∧
  (∀ f, f < frM M → ∀ w, w < 520 → M.1 288 (520 * f + w) = M.1 (187 + f) w ∧ okK M (M.1 (187 + f) w))
def sTn (c i : Nat) : Prop := (c = 179 ∧ i ≤ 3) ∨ (180 ≤ c ∧ c ≤ 185) ∨ (187 ≤ c ∧ c ≤ 202) ∨ (281 ≤ c ∧ c ≤ 286) ∨ c = 288 ∨ (c = 280 ∧ i ≤ 3)
/-- the ints of a region stay -/
def Eq1 (s : Nat → Nat → Prop) (M M' : SM) : Prop := ∀ c i, s c i → M'.1 c i = M.1 c i
theorem I_tn.fr {M M' : SM} (h : I_tn M) (e : Eq1 sTn M M') : I_tn M' := by
  have e0 : nwM M' = nwM M := by unfold nwM; rw [e 179 0 (by unfold sTn; omega)]
  have e1 : msM M' = msM M := by unfold msM; rw [e 179 1 (by unfold sTn; omega)]
  have e2 : knM M' = knM M := by unfold knM; rw [e 179 2 (by unfold sTn; omega)]
  have e3 : frM M' = frM M := by unfold frM; rw [e 179 3 (by unfold sTn; omega)]
  obtain ⟨h0, h1, h2, h3, h4, h5, h6, h7, h8⟩ := h
  unfold I_tn okK
  rw [e0, e1, e2, e3]
  refine ⟨?_, ?_, ?_, ?_, fun m hm => ?_, fun m hm => ?_, fun k hk => ?_, fun f hf => ?_, fun f hf w hw => ?_⟩
  · rw [e 179 0 (by unfold sTn; omega), e 280 0 (by unfold sTn; omega)]; exact h0
  · rw [e 179 1 (by unfold sTn; omega), e 280 1 (by unfold sTn; omega)]; exact h1
  · rw [e 179 2 (by unfold sTn; omega), e 280 2 (by unfold sTn; omega)]; exact h2
  · rw [e 179 3 (by unfold sTn; omega), e 280 3 (by unfold sTn; omega)]; exact h3
  · rw [e 281 m (by unfold sTn; omega), e 180 m (by unfold sTn; omega)]; exact h4 m hm
  · rw [e 286 m (by unfold sTn; omega), e 181 m (by unfold sTn; omega)]; exact h5 m hm
  · rw [e 282 k (by unfold sTn; omega), e 182 k (by unfold sTn; omega)]; exact h6 k hk
  · rw [e 283 f (by unfold sTn; omega), e 183 f (by unfold sTn; omega), e 284 f (by unfold sTn; omega), e 184 f (by unfold sTn; omega), e 285 f (by unfold sTn; omega), e 185 f (by unfold sTn; omega)]; exact h7 f hf
  · rw [e 288 _ (by unfold sTn; omega), e (187 + f) w (by unfold sTn; omega)]; exact h8 f hf w hw
section
variable {M : SM}
theorem I_tn.nw (h : I_tn M) : M.1 179 0 = nI (nwM M) ∧ nwM M ≤ 519 ∧ M.1 280 0 = nI (nwM M) := h.1
theorem I_tn.ms (h : I_tn M) : M.1 179 1 = nI (msM M) ∧ msM M ≤ 6 ∧ M.1 280 1 = nI (msM M) := h.2.1
theorem I_tn.kn (h : I_tn M) : M.1 179 2 = nI (knM M) ∧ knM M ≤ 12 ∧ M.1 280 2 = nI (knM M) := h.2.2.1
theorem I_tn.fs (h : I_tn M) : M.1 179 3 = nI (frM M) ∧ frM M ≤ 16 ∧ M.1 280 3 = nI (frM M) := h.2.2.2.1
theorem I_tn.ho (h : I_tn M) : ∀ m, m < msM M → M.1 281 m = M.1 180 m := h.2.2.2.2.1
theorem I_tn.ov (h : I_tn M) : ∀ m, m < 6 → M.1 286 m = M.1 181 m ∧ ∃ n, n ≤ 200 ∧ M.1 181 m = nI n := h.2.2.2.2.2.1
theorem I_tn.he (h : I_tn M) : ∀ k, k < knM M → M.1 282 k = M.1 182 k ∧ ∃ n, 1 ≤ n ∧ n ≤ 9 ∧ M.1 182 k = nI n := h.2.2.2.2.2.2.1
theorem I_tn.fa (h : I_tn M) : ∀ f, f < frM M → M.1 283 f = M.1 183 f ∧ M.1 284 f = M.1 184 f ∧ M.1 285 f = M.1 185 f ∧ (∃ m, m < msM M ∧ M.1 184 f = nI m) ∧ okK M (M.1 185 f) := h.2.2.2.2.2.2.2.1
theorem I_tn.hd (h : I_tn M) : ∀ f, f < frM M → ∀ w, w < 520 → M.1 288 (520 * f + w) = M.1 (187 + f) w ∧ okK M (M.1 (187 + f) w) := h.2.2.2.2.2.2.2.2
theorem hasMaster_g (h : I_tn M) {m : Nat} (hm : m < msM M) : qtn_hasMaster (nI m) M = some (1, M) := by
  obtain ⟨a1, a2, a3⟩ := h.ms
  exact (if_neg (nI_lt0 (by omega))).trans ((if_pos (by rw [a1]; exact (nI_ltI (by omega) (by omega)).mpr hm)).trans (if_pos (show nI m < nI 6 from (nI_ltI (by omega) (by omega)).mpr (by omega))))
theorem hasMaster_b (h : I_tn M) {x : Int32} (hx : x < 0 ∨ ¬ x < nI (msM M)) : qtn_hasMaster x M = some (0, M) := by
  obtain ⟨a1, a2, a3⟩ := h.ms
  by_cases h0 : x < 0
  · exact if_pos h0
  · exact (if_neg h0).trans (if_neg (by rw [a1]; exact hx.resolve_left h0))
theorem md_isMaster_rg {n m : Nat} (e : M.1 280 1 = nI n) (hn : n ≤ 16) (hm : m < n) : qmd_isMaster (nI m) M = some (1, M) :=
  (if_neg (nI_lt0 (by omega))).trans (if_pos (by rw [e]; exact (nI_ltI (by omega) (by omega)).mpr hm))
theorem md_isMaster_rb {n : Nat} {x : Int32} (e : M.1 280 1 = nI n) (hx : x < 0 ∨ ¬ x < nI n) : qmd_isMaster x M = some (0, M) := by
  by_cases h0 : x < 0
  · exact if_pos h0
  · exact (if_neg h0).trans (if_neg (by rw [e]; exact hx.resolve_left h0))
theorem md_isMaster_g (h : I_tn M) {m : Nat} (hm : m < msM M) : qmd_isMaster (nI m) M = some (1, M) :=
  md_isMaster_rg h.ms.2.2 (by have := h.ms.2.1; omega) hm
theorem md_isMaster_b (h : I_tn M) {x : Int32} (hx : x < 0 ∨ ¬ x < nI (msM M)) : qmd_isMaster x M = some (0, M) := md_isMaster_rb h.ms.2.2 hx
theorem hasKnitter_g (h : I_tn M) {m : Nat} (hm : m < knM M) : qtn_hasKnitter (nI m) M = some (1, M) := by
  obtain ⟨a1, a2, a3⟩ := h.kn
  exact (if_neg (nI_lt0 (by omega))).trans ((if_pos (by rw [a1]; exact (nI_ltI (by omega) (by omega)).mpr hm)).trans (if_pos (show nI m < nI 12 from (nI_ltI (by omega) (by omega)).mpr (by omega))))
theorem hasKnitter_b (h : I_tn M) {x : Int32} (hx : x < 0 ∨ ¬ x < nI (knM M)) : qtn_hasKnitter x M = some (0, M) := by
  obtain ⟨a1, a2, a3⟩ := h.kn
  by_cases h0 : x < 0
  · exact if_pos h0
  · exact (if_neg h0).trans (if_neg (by rw [a1]; exact hx.resolve_left h0))
theorem md_isKnitter_rg {n m : Nat} (e : M.1 280 2 = nI n) (hn : n ≤ 16) (hm : m < n) : qmd_isKnitter (nI m) M = some (1, M) :=
  (if_neg (nI_lt0 (by omega))).trans (if_pos (by rw [e]; exact (nI_ltI (by omega) (by omega)).mpr hm))
theorem md_isKnitter_rb {n : Nat} {x : Int32} (e : M.1 280 2 = nI n) (hx : x < 0 ∨ ¬ x < nI n) : qmd_isKnitter x M = some (0, M) := by
  by_cases h0 : x < 0
  · exact if_pos h0
  · exact (if_neg h0).trans (if_neg (by rw [e]; exact hx.resolve_left h0))
theorem md_isKnitter_g (h : I_tn M) {m : Nat} (hm : m < knM M) : qmd_isKnitter (nI m) M = some (1, M) :=
  md_isKnitter_rg h.kn.2.2 (by have := h.kn.2.1; omega) hm
theorem md_isKnitter_b (h : I_tn M) {x : Int32} (hx : x < 0 ∨ ¬ x < nI (knM M)) : qmd_isKnitter x M = some (0, M) := md_isKnitter_rb h.kn.2.2 hx
theorem hasFrame_g (h : I_tn M) {m : Nat} (hm : m < frM M) : qtn_hasFrame (nI m) M = some (1, M) := by
  obtain ⟨a1, a2, a3⟩ := h.fs
  exact (if_neg (nI_lt0 (by omega))).trans ((if_pos (by rw [a1]; exact (nI_ltI (by omega) (by omega)).mpr hm)).trans (if_pos (show nI m < nI 16 from (nI_ltI (by omega) (by omega)).mpr (by omega))))
theorem hasFrame_b (h : I_tn M) {x : Int32} (hx : x < 0 ∨ ¬ x < nI (frM M)) : qtn_hasFrame x M = some (0, M) := by
  obtain ⟨a1, a2, a3⟩ := h.fs
  by_cases h0 : x < 0
  · exact if_pos h0
  · exact (if_neg h0).trans (if_neg (by rw [a1]; exact hx.resolve_left h0))
theorem md_isFrame_rg {n m : Nat} (e : M.1 280 3 = nI n) (hn : n ≤ 16) (hm : m < n) : qmd_isFrame (nI m) M = some (1, M) :=
  (if_neg (nI_lt0 (by omega))).trans (if_pos (by rw [e]; exact (nI_ltI (by omega) (by omega)).mpr hm))
theorem md_isFrame_rb {n : Nat} {x : Int32} (e : M.1 280 3 = nI n) (hx : x < 0 ∨ ¬ x < nI n) : qmd_isFrame x M = some (0, M) := by
  by_cases h0 : x < 0
  · exact if_pos h0
  · exact (if_neg h0).trans (if_neg (by rw [e]; exact hx.resolve_left h0))
theorem md_isFrame_g (h : I_tn M) {m : Nat} (hm : m < frM M) : qmd_isFrame (nI m) M = some (1, M) :=
  md_isFrame_rg h.fs.2.2 (by have := h.fs.2.1; omega) hm
theorem md_isFrame_b (h : I_tn M) {x : Int32} (hx : x < 0 ∨ ¬ x < nI (frM M)) : qmd_isFrame x M = some (0, M) := md_isFrame_rb h.fs.2.2 hx
theorem isWeek_g {w : Nat} (hw : w < 520) : qfr_isWeek (nI w) M = some (1, M) :=
  (if_neg (nI_lt0 (by omega))).trans (if_pos (show nI w < nI 520 from (nI_ltI (by omega) (by omega)).mpr hw))
theorem isWeek_b {x : Int32} (hx : x < 0 ∨ ¬ x < nI 520) : qfr_isWeek x M = some (0, M) := by
  by_cases h0 : x < 0
  · exact if_pos h0
  · exact (if_neg h0).trans (if_neg (hx.resolve_left h0))
theorem md_isWeek_g {w : Nat} (hw : w < 520) : qmd_isWeek (nI w) M = some (1, M) :=
  (if_neg (nI_lt0 (by omega))).trans (if_pos (show nI w < nI 520 from (nI_ltI (by omega) (by omega)).mpr hw))
theorem md_isWeek_b {x : Int32} (hx : x < 0 ∨ ¬ x < nI 520) : qmd_isWeek x M = some (0, M) := by
  by_cases h0 : x < 0
  · exact if_pos h0
  · exact (if_neg h0).trans (if_neg (hx.resolve_left h0))
theorem isHouse_g (h : I_tn M) {m : Nat} (hm : m < msM M) : qtn_isHouse (nI m) M = some (if M.1 180 m = -1 then 1 else 0, M) := by
  have a := h.ms
  unfold qtn_isHouse
  rw [hasMaster_g h hm, ob_s, if_neg (by decide), ckb (and_i (ib_n (by omega) (by omega)) rfl), nI_cl (by omega)]
  split <;> rfl
theorem isHouse_b (h : I_tn M) {x : Int32} (hx : x < 0 ∨ ¬ x < nI (msM M)) : qtn_isHouse x M = some (0, M) := by
  unfold qtn_isHouse
  rw [hasMaster_b h hx, ob_s, if_pos rfl]
theorem isBagman_g (h : I_tn M) {m : Nat} (hm : m < msM M) : qtn_isBagman (nI m) M = some (if M.1 180 m = -1 then 0 else 1, M) := by
  have a := h.ms
  unfold qtn_isBagman
  rw [hasMaster_g h hm, ob_s, if_neg (by decide), ckb (and_i (ib_n (by omega) (by omega)) rfl), nI_cl (by omega)]
  split <;> rfl
theorem isBagman_b (h : I_tn M) {x : Int32} (hx : x < 0 ∨ ¬ x < nI (msM M)) : qtn_isBagman x M = some (0, M) := by
  unfold qtn_isBagman
  rw [hasMaster_b h hx, ob_s, if_pos rfl]
theorem isOwn_g (h : I_tn M) {f : Nat} (hf : f < frM M) : qtn_isOwn (nI f) M = some (if M.1 185 f = -1 then 0 else 1, M) := by
  have a := h.fs
  unfold qtn_isOwn
  rw [hasFrame_g h hf, ob_s, if_neg (by decide), ckb (and_i (ib_n (by omega) (by omega)) rfl), nI_cl (by omega)]
  split <;> rfl
theorem isForHire_g (h : I_tn M) {f : Nat} (hf : f < frM M) : qtn_isForHire (nI f) M = some (if M.1 185 f = -1 then 1 else 0, M) := by
  have a := h.fs
  unfold qtn_isForHire
  rw [hasFrame_g h hf, ob_s, if_neg (by decide), ckb (and_i (ib_n (by omega) (by omega)) rfl), nI_cl (by omega)]
  split <;> rfl
theorem isForHire_b (h : I_tn M) {x : Int32} (hx : x < 0 ∨ ¬ x < nI (frM M)) : qtn_isForHire x M = some (0, M) := by
  unfold qtn_isForHire
  rw [hasFrame_b h hx, ob_s, if_pos rfl]
theorem holderAt_g (h : I_tn M) {f w : Nat} (hf : f < frM M) (hw : w < 520) : qtn_holderAt (nI f) (nI w) M = some (M.1 (187 + f) w, M) := by
  have a := h.fs
  obtain ⟨k1, k2⟩ := kz_ho f (by omega)
  unfold qtn_holderAt
  rw [hasFrame_g h hf, ob_s, if_neg (by decide), isWeek_g hw, ob_s, if_neg (by decide), nI_cl (by omega), nI_cl (by omega), ckb (and_i (ib_n (by omega) (by omega)) (and_i (av_n k1 (by omega) (by omega) (by omega)) rfl))]
theorem holderAt_bf (h : I_tn M) {x y : Int32} (hx : x < 0 ∨ ¬ x < nI (frM M)) : qtn_holderAt x y M = some (-1, M) := by
  unfold qtn_holderAt
  rw [hasFrame_b h hx, ob_s, if_pos rfl]
theorem holderAt_bw (h : I_tn M) {f : Nat} {y : Int32} (hf : f < frM M) (hy : y < 0 ∨ ¬ y < nI 520) : qtn_holderAt (nI f) y M = some (-1, M) := by
  unfold qtn_holderAt
  rw [hasFrame_g h hf, ob_s, if_neg (by decide), isWeek_b hy, ob_s, if_pos rfl]
theorem hirerOf_r {f w : Nat} (hf : f < 16) (hw : w < 520) : qmd_hirerOf (nI f) (nI w) M = some (M.1 288 (520 * f + w), M) := by
  unfold qmd_hirerOf
  rw [show (520 : Int32) = nI 520 from rfl, nI_mul, nI_add, ckb (and_i (ib_n (by omega) (by omega)) rfl), nI_cl (by omega)]
theorem hirerOf_g (h : I_tn M) {f w : Nat} (hf : f < frM M) (hw : w < 520) : qmd_hirerOf (nI f) (nI w) M = some (M.1 (187 + f) w, M) := by
  have a := h.fs
  rw [hirerOf_r (by omega) hw, (h.hd f hf w hw).1]
theorem gaugeOf_g (h : I_tn M) {f : Nat} (hf : f < frM M) : qtn_gaugeOf (nI f) M = some (M.1 183 f, M) := by
  have a := h.fs
  unfold qtn_gaugeOf
  rw [hasFrame_g h hf, ob_s, if_neg (by decide), ckb (and_i (ib_n (by omega) (by omega)) rfl), nI_cl (by omega)]
theorem masterOf_g (h : I_tn M) {f : Nat} (hf : f < frM M) : qtn_masterOf (nI f) M = some (M.1 184 f, M) := by
  have a := h.fs
  unfold qtn_masterOf
  rw [hasFrame_g h hf, ob_s, if_neg (by decide), ckb (and_i (ib_n (by omega) (by omega)) rfl), nI_cl (by omega)]
theorem headsOf_g (h : I_tn M) {k : Nat} (hk : k < knM M) : qtn_headsOf (nI k) M = some (M.1 182 k, M) := by
  have a := h.kn
  unfold qtn_headsOf
  rw [hasKnitter_g h hk, ob_s, if_neg (by decide), ckb (and_i (ib_n (by omega) (by omega)) rfl), nI_cl (by omega)]
theorem headsOf_b (h : I_tn M) {x : Int32} (hx : x < 0 ∨ ¬ x < nI (knM M)) : qtn_headsOf x M = some (0, M) := by
  unfold qtn_headsOf
  rw [hasKnitter_b h hx, ob_s, if_pos rfl]
theorem overOf_g (h : I_tn M) {m : Nat} (hm : m < msM M) : qtn_overOf (nI m) M = some (M.1 181 m, M) := by
  have a := h.ms
  unfold qtn_overOf
  rw [hasMaster_g h hm, ob_s, if_neg (by decide), ckb (and_i (ib_n (by omega) (by omega)) rfl), nI_cl (by omega)]
/-- 2 the knitter, 1 a bagman, 0 a house -/
def kO (M : SM) (f : Nat) : Int32 := if M.1 185 f = -1 then (if M.1 180 (Int32.toNatClampNeg (M.1 184 f)) = -1 then 0 else 1) else 2
theorem kindOfOwner_g (h : I_tn M) {f : Nat} (hf : f < frM M) : qtn_kindOfOwner (nI f) M = some (kO M f, M) := by
  have a := h.ms
  unfold qtn_kindOfOwner kO
  rw [isOwn_g h hf, ob_s]
  by_cases h1 : M.1 185 f = -1
  · rw [if_pos h1, if_pos rfl, if_pos h1, masterOf_g h hf, ob_s]
    obtain ⟨-, -, -, ⟨m, hm, e⟩, -⟩ := h.fa f hf
    rw [e, isBagman_g h hm, ob_s, nI_cl (by omega)]
    by_cases h2 : M.1 180 m = -1
    · rw [if_pos h2]; rfl
    · rw [if_neg h2]; rfl
  · rw [if_neg h1, if_neg h1]; rfl
/-- how many of the first n frames are held by x in week w -/
def fhN (M : SM) (x : Int32) (w : Nat) : Nat → Nat
  | 0 => 0
  | n + 1 => fhN M x w n + (if M.1 (187 + n) w = x then 1 else 0)
theorem fhN_le (M : SM) (x : Int32) (w : Nat) : ∀ n, fhN M x w n ≤ n
  | 0 => Nat.le_refl _
  | n + 1 => by
    have := fhN_le M x w n
    unfold fhN
    split <;> omega
theorem framesHeld_L5_g (h : I_tn M) {x : Int32} {w : Nat} (hw : w < 520) : ∀ n i, frM M - i < n → i ≤ frM M → qtn_framesHeld_L5 n x (nI w) (nI (fhN M x w i)) (nI i) M = some (nI (fhN M x w (frM M)), M) := by
  have a := h.fs
  intro n
  induction n with
  | zero => intro i hn; omega
  | succ n ih =>
    intro i hn hi
    unfold qtn_framesHeld_L5
    by_cases hlt : i < frM M
    · rw [if_pos (by rw [a.1]; exact (nI_ltI (by omega) (by omega)).mpr hlt), holderAt_g h hlt hw, ob_s]
      have e1 : fhN M x w (i + 1) = fhN M x w i + (if M.1 (187 + i) w = x then 1 else 0) := rfl
      have := ih (i + 1) (by omega) (by omega)
      rw [e1] at this
      by_cases hx : M.1 (187 + i) w = x
      · rw [if_pos hx] at this
        rw [if_pos hx, nI_1, nI_1]
        exact this
      · rw [if_neg hx] at this
        rw [if_neg hx, nI_1]
        exact this
    · obtain rfl : i = frM M := by omega
      rw [if_neg (by rw [a.1]; exact nI_nlt (Nat.le_refl _) (by omega))]
theorem framesHeld_g (h : I_tn M) {x : Int32} {w : Nat} (hw : w < 520) : qtn_framesHeld x (nI w) M = some (nI (fhN M x w (frM M)), M) :=
  framesHeld_L5_g h hw FU 0 (by have := h.fs; unfold FU; omega) (by omega)
theorem framesOf_L5_g (h : I_tn M) {x : Int32} {w : Nat} (hw : w < 520) : ∀ n i, frM M - i < n → i ≤ frM M → qmd_framesOf_L5 n x (nI w) (nI (fhN M x w i)) (nI i) M = some (nI (fhN M x w (frM M)), M) := by
  have a := h.fs
  intro n
  induction n with
  | zero => intro i hn; omega
  | succ n ih =>
    intro i hn hi
    unfold qmd_framesOf_L5
    by_cases hlt : i < frM M
    · rw [if_pos (by rw [a.2.2]; exact (nI_ltI (by omega) (by omega)).mpr hlt), hirerOf_g h hlt hw, ob_s]
      have e1 : fhN M x w (i + 1) = fhN M x w i + (if M.1 (187 + i) w = x then 1 else 0) := rfl
      have := ih (i + 1) (by omega) (by omega)
      rw [e1] at this
      by_cases hx : M.1 (187 + i) w = x
      · rw [if_pos hx] at this
        rw [if_pos hx, nI_1, nI_1]
        exact this
      · rw [if_neg hx] at this
        rw [if_neg hx, nI_1, show (0 : Int32) = nI 0 from rfl, nI_add]
        exact this
    · obtain rfl : i = frM M := by omega
      rw [if_neg (by rw [a.2.2]; exact nI_nlt (Nat.le_refl _) (by omega))]
theorem framesOf_g (h : I_tn M) {x : Int32} {w : Nat} (hw : w < 520) : qmd_framesOf x (nI w) M = some (nI (fhN M x w (frM M)), M) :=
  framesOf_L5_g h hw FU 0 (by have := h.fs; unfold FU; omega) (by omega)
end
