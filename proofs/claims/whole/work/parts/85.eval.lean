/-! steps reckoned in the class, codes in the reference -/
/-- values on a stack, the last one first -/
def eS (M : SM) (c : Nat) (k : List Int64) : Prop := ∀ u t v, k = u ++ t :: v → M.2 c v.length = t
theorem eS_h {M : SM} {c : Nat} {x : Int64} {k : List Int64} (h : eS M c (x :: k)) : M.2 c k.length = x := h [] x k rfl
theorem eS_t {M : SM} {c : Nat} {x : Int64} {k : List Int64} (h : eS M c (x :: k)) : eS M c k := fun u t v e => h (x :: u) t v (by rw [e]; rfl)
theorem eS_p {M : SM} {c : Nat} {k : List Int64} (h : eS M c k) (x : Int64) : eS (wL M c k.length x) c (x :: k) := fun u t v e => by
  rw [wL_2]
  cases u with
  | nil =>
    cases e
    rw [if_pos ⟨rfl, rfl⟩]
  | cons y u =>
    have e' : k = u ++ t :: v := (List.cons.inj e).2
    have := h u t v e'
    rw [if_neg (fun z => by have := z.2; rw [e', List.length_append, List.length_cons] at this; omega)]
    exact this
theorem eS_c {M M' : SM} {c : Nat} {k : List Int64} (h : eS M c k) (e : M'.2 c = M.2 c) : eS M' c k := fun u t v q => by rw [e]; exact h u t v q
def eK (M : SM) (k : List Int64) : Prop := M.1 12 8 = nI k.length ∧ eS M 178 k
def oE (M M' : SM) : Prop := (∀ c i, ¬ (c = 12 ∧ i = 8) → M'.1 c i = M.1 c i) ∧ ∀ c, c ≠ 178 → M'.2 c = M.2 c
theorem oE.rf (M : SM) : oE M M := ⟨fun _ _ _ => rfl, fun _ _ => rfl⟩
theorem oE.tr {M M' M'' : SM} (h : oE M M') (h2 : oE M' M'') : oE M M'' := ⟨fun c i q => (h2.1 c i q).trans (h.1 c i q), fun c q => (h2.2 c q).trans (h.2 c q)⟩
theorem push_g {M : SM} {k : List Int64} (h : eK M k) (hl : k.length < 200) (x : Int64) : ∃ M' : SM, qpr_push x M = some ((), M') ∧ eK M' (x :: k) ∧ oE M M' := by
  refine ⟨wI (wL M 178 k.length x) 12 8 (nI (k.length + 1)), ?_, ⟨by rw [wI_1, if_pos ⟨rfl, rfl⟩]; rfl, eS_p h.2 x⟩, ⟨fun c i q => by rw [wI_1, if_neg q]; rfl, fun c q => ?_⟩⟩
  · unfold qpr_push
    rw [h.1, if_neg (nI_lt0 (by omega)), if_pos (nl_200 hl), ck_ib (by omega) (by omega), ck_t, nI_cl (by omega), nI_1]
  · funext j
    show (wL M 178 k.length x).2 c j = _
    rw [wL_2, if_neg (fun z => q z.1)]
theorem pop_g {M : SM} {x : Int64} {k : List Int64} (h : eK M (x :: k)) (hl : k.length < 200) : ∃ M' : SM, qpr_pop M = some (x, M') ∧ eK M' k ∧ oE M M' := by
  have h1 : M.1 12 8 = nI (k.length + 1) := h.1
  refine ⟨wI M 12 8 (nI k.length), ?_, ⟨by rw [wI_1, if_pos ⟨rfl, rfl⟩], eS_t h.2⟩, ⟨fun c i q => by rw [wI_1, if_neg q], fun c q => rfl⟩⟩
  unfold qpr_pop
  rw [h1, if_pos (show (0 : Int32) < nI (k.length + 1) from (nI_ltI (a := 0) (by omega) (by omega)).mpr (by omega)), if_neg (show ¬ (200 : Int32) < nI (k.length + 1) from fun z => by have := (nI_ltI (a := 200) (by omega) (by omega)).mp z; omega), nI_m1 (by omega), Nat.add_sub_cancel, ck_ib (by omega) (by omega), ck_t, nI_cl (by omega), eS_h h.2]
theorem isSo_g {c op : Nat} (h : yCm c = some op) (x y : Int64) (M : SM) : qpr_isSo (nI c) x y M = some (if ySo c x y = true then 1 else 0, M) := by
  unfold qpr_isSo
  rcases yCm_c h with ⟨rfl, rfl⟩ | ⟨rfl, rfl⟩ | ⟨rfl, rfl⟩
  · rw [if_pos (show nI 60 = (60 : Int32) from rfl), ic_lt]
    show _ = some (if decide (x < y) = true then 1 else 0, M)
    by_cases q : x < y
    · rw [if_pos q, if_pos (decide_eq_true q)]
    · rw [if_neg q, if_neg (by simpa using q)]
  · rw [if_neg (show ¬ nI 62 = (60 : Int32) by decide), if_pos (show nI 62 = (62 : Int32) from rfl), ic_gt]
    show _ = some (if decide (y < x) = true then 1 else 0, M)
    by_cases q : y < x
    · rw [if_pos q, if_pos (decide_eq_true q)]
    · rw [if_neg q, if_neg (by simpa using q)]
  · rw [if_neg (show ¬ nI 61 = (60 : Int32) by decide), if_neg (show ¬ nI 61 = (62 : Int32) by decide), ic_eq]
    show _ = some (if decide (x = y) = true then 1 else 0, M)
    by_cases q : x = y
    · rw [if_pos q, if_pos (decide_eq_true q)]
    · rw [if_neg q, if_neg (by simpa using q)]
theorem joined_g {c op : Nat} (h : yOp c = some op) (x y : Int64) (M : SM) : qpr_joined (nI c) x y M = some (yJo c x y, M) := by
  unfold qpr_joined
  rcases yOp_c h with ⟨rfl, rfl⟩ | ⟨rfl, rfl⟩ | ⟨rfl, rfl⟩ | ⟨rfl, rfl⟩ | ⟨rfl, rfl⟩ | ⟨rfl, rfl⟩ | ⟨rfl, rfl⟩
  · rfl
  · rfl
  · rfl
  · show (if lg_cmp y 0 = 0 then _ else _) = some (if y = 0 then 0 else x / y, M)
    rw [ic_eq]
    by_cases q : y = 0
    · rw [if_pos q, if_pos q]
    · rw [if_neg q, if_neg q, ck_dt q, ck_t]
  · show (if lg_cmp y 0 = 0 then _ else _) = some (if y = 0 then 0 else x - x / y * y, M)
    rw [ic_eq]
    by_cases q : y = 0
    · rw [if_pos q, if_pos q]
    · rw [if_neg q, if_neg q, ck_dt q, ck_t]
  · rfl
  · rfl
theorem doStep_g {M : SM} {k k' : List Int64} {t : Nat × Nat} (hk : eK M k) (hl : k.length < 200) (ht : yOs t) (h : yE1 (M.2 175) (M.2 176) t k = some k') : ∃ M' : SM, qpr_doStep (nI t.1) (nI t.2) M = some ((), M') ∧ eK M' k' ∧ oE M M' ∧ k'.length ≤ k.length + 1 := by
  unfold yE1 at h
  unfold qpr_doStep
  rcases ht with ⟨t1, t2⟩ | ⟨t1, t2⟩ | ⟨t1, t2⟩ | ⟨t2, t1⟩
  · rw [if_pos t1] at h
    cases h
    obtain ⟨M1, g1, g2, g3⟩ := push_g hk hl (Int32.toInt64 (nI t.2))
    exact ⟨M1, by rw [t1, if_pos (show nI 48 = (48 : Int32) from rfl), g1, ob_s], g2, g3, Nat.le_refl _⟩
  · rw [if_neg (by omega), if_pos t1] at h
    cases h
    obtain ⟨M1, g1, g2, g3⟩ := push_g hk hl (M.2 176 t.2)
    exact ⟨M1, by rw [t1, if_neg (show ¬ nI 65 = (48 : Int32) by decide), if_pos (show nI 65 = (65 : Int32) from rfl), letterAt_g t2, ob_s, g1, ob_s], g2, g3, Nat.le_refl _⟩
  · rw [if_neg (by omega), if_neg (by omega), if_pos t1] at h
    cases h
    have fa : qpr_factAt (nI t.2) M = some (M.2 175 t.2, M) := by
      unfold qpr_factAt
      rw [if_neg (nI_lt0 (by omega)), if_pos (nl_10 t2), ck_ib (by omega) (by omega), ck_t, nI_cl (by omega)]
    obtain ⟨M1, g1, g2, g3⟩ := push_g hk hl (M.2 175 t.2)
    exact ⟨M1, by rw [t1, if_neg (show ¬ nI 102 = (48 : Int32) by decide), if_neg (show ¬ nI 102 = (65 : Int32) by decide), if_pos (show nI 102 = (102 : Int32) from rfl), fa, ob_s, g1, ob_s], g2, g3, Nat.le_refl _⟩
  · have c48 : t.1 ≠ 48 ∧ t.1 ≠ 65 ∧ t.1 ≠ 102 ∧ t.1 < 256 := by
      rcases t1 with ⟨op, t1⟩ | ⟨op, t1⟩
      · have := yOp_c t1; omega
      · have := yCm_c t1; omega
    rw [if_neg c48.1, if_neg c48.2.1, if_neg c48.2.2.1] at h
    have n48 : ¬ nI t.1 = (48 : Int32) := fun z => c48.1 (nI_inj (b := 48) (by omega) (by omega) z)
    have n65 : ¬ nI t.1 = (65 : Int32) := fun z => c48.2.1 (nI_inj (b := 65) (by omega) (by omega) z)
    have n102 : ¬ nI t.1 = (102 : Int32) := fun z => c48.2.2.1 (nI_inj (b := 102) (by omega) (by omega) z)
    rw [if_neg n48, if_neg n65, if_neg n102]
    rcases t1 with ⟨op, t1⟩ | ⟨op, t1⟩
    · have hcn : yCm t.1 = none := by
        rcases yOp_c t1 with ⟨e, -⟩ | ⟨e, -⟩ | ⟨e, -⟩ | ⟨e, -⟩ | ⟨e, -⟩ | ⟨e, -⟩ | ⟨e, -⟩ <;> rw [e] <;> decide
      have hne : t.1 ≠ 60 ∧ t.1 ≠ 62 ∧ t.1 ≠ 61 := by have := yOp_c t1; omega
      rw [if_pos hcn] at h
      cases k with
      | nil => cases h
      | cons y k =>
        cases k with
        | nil => cases h
        | cons x k =>
          cases h
          simp only [List.length_cons] at hl
          obtain ⟨M1, g1, g2, g3⟩ := pop_g hk (by rw [List.length_cons]; omega)
          obtain ⟨M2, g4, g5, g6⟩ := pop_g g2 (by omega)
          obtain ⟨M3, g7, g8, g9⟩ := push_g g5 (by omega) (yJo t.1 x y)
          refine ⟨M3, ?_, g8, (g3.tr g6).tr g9, by simp only [List.length_cons]; omega⟩
          rw [g1, ob_s, g4, ob_s]
          simp only [jn_ap]
          rw [if_neg (show ¬ nI t.1 = (60 : Int32) from fun z => hne.1 (nI_inj (b := 60) (by omega) (by omega) z)), if_neg (show ¬ nI t.1 = (62 : Int32) from fun z => hne.2.1 (nI_inj (b := 62) (by omega) (by omega) z)), if_neg (show ¬ nI t.1 = (61 : Int32) from fun z => hne.2.2 (nI_inj (b := 61) (by omega) (by omega) z)), joined_g t1, ob_s, g7, ob_s]
    · rw [if_neg (by rw [t1]; intro z; cases z)] at h
      cases k with
      | nil => cases h
      | cons b k =>
        cases k with
        | nil => cases h
        | cons a k =>
          cases k with
          | nil => cases h
          | cons y k =>
            cases k with
            | nil => cases h
            | cons x k =>
              cases h
              simp only [List.length_cons] at hl
              obtain ⟨M1, g1, g2, g3⟩ := pop_g hk (by simp only [List.length_cons]; omega)
              obtain ⟨M2, g4, g5, g6⟩ := pop_g g2 (by simp only [List.length_cons]; omega)
              obtain ⟨M3, g7, g8, g9⟩ := pop_g g5 (by simp only [List.length_cons]; omega)
              obtain ⟨M4, g10, g11, g12⟩ := pop_g g8 (by omega)
              obtain ⟨M5, g13, g14, g15⟩ := push_g g11 (by omega) (if ySo t.1 x y = true then a else b)
              refine ⟨M5, ?_, g14, (((g3.tr g6).tr g9).tr g12).tr g15, by simp only [List.length_cons]; omega⟩
              rw [g1, ob_s, g4, ob_s]
              simp only [jn_ap]
              have tail : ob (qpr_pop M2) (fun r29 M30 =>
        ob (qpr_pop M30) (fun r32 M33 =>
        ob (qpr_isSo (nI t.1) r32 r29 M33) (fun r35 M36 =>
        if r35 = 0 then
        (ob (qpr_push b M36) (fun _ M40 =>
            some ((), M40))) else
        (ob (qpr_push a M36) (fun _ M40 =>
            some ((), M40)))))) = some ((), M5) := by
                rw [g7, ob_s, g10, ob_s, isSo_g t1, ob_s]
                by_cases q : ySo t.1 x y = true
                · rw [if_pos q] at g13
                  rw [if_pos q, if_neg (by decide), g13, ob_s]
                · rw [if_neg q] at g13
                  rw [if_neg q, if_pos rfl, g13, ob_s]
              rw [tail]
              rcases yCm_c t1 with ⟨e, -⟩ | ⟨e, -⟩ | ⟨e, -⟩
              · rw [e, if_pos (show nI 60 = (60 : Int32) from rfl)]
              · rw [e, if_neg (show ¬ nI 62 = (60 : Int32) by decide), if_pos (show nI 62 = (62 : Int32) from rfl)]
              · rw [e, if_neg (show ¬ nI 61 = (60 : Int32) by decide), if_neg (show ¬ nI 61 = (62 : Int32) by decide), if_pos (show nI 61 = (61 : Int32) from rfl)]
section
variable {s z : Nat}
theorem stepAt_g (hK : shK s z) {M : SM} {a : yL} (ha : stA M s a) (hz : a.length ≤ z) {i : Nat} {t : Nat × Nat} (hi : a[i]? = some t) (h256 : t.1 < 256) : qsh_stepAt s (nI i) M = some (nI t.1, M) ∧ qsh_argAt s (nI i) M = some (nI t.2, M) := by
  obtain ⟨k1, k2, k3, k4, k5, k6, k7, k8, k9, r0, r1, -⟩ := id hK
  have hil : i < a.length := by
    by_cases q : i < a.length
    · exact q
    · rw [List.getElem?_eq_none (by omega)] at hi; cases hi
  obtain ⟨e1, e2⟩ := ha.2 i t hi
  have hb1 : (Nat.blt 19 (K0 (s + 1)) && Nat.blt (K0 (s + 1)) 28 && Nat.blt (s + 1) 336) = true := by rw [k5, show Nat.blt (s + 1) 336 = true from blt_iff.mpr (by omega)]; rfl
  have hb2 : (Nat.blt 19 (K0 (s + 2)) && Nat.blt (K0 (s + 2)) 28 && Nat.blt (s + 2) 336) = true := by rw [k7, show Nat.blt (s + 2) 336 = true from blt_iff.mpr (by omega)]; rfl
  have hlt : nI i < nI a.length := (nI_ltI (by omega) (by omega)).mpr hil
  have hltz : nI i < Int32.ofNat z := (nI_ltI (by omega) (by omega)).mpr (by omega)
  constructor
  · unfold qsh_stepAt
    rw [if_neg (nI_lt0 (by omega)), ckb (and_i hK.kc rfl), ha.1, if_pos hlt, ckb (and_i (and_i hK.kc (decide_eq_true r0)) (and_i hb1 rfl)), k6, if_pos hltz, ckb (and_i (and_i hK.kc (decide_eq_true r0)) (and_i (av_n k5 (by omega) (by omega) (by omega)) rfl)), nI_cl (by omega), e1, ckb (decide_eq_true (i2c_n _ h256))]
  · unfold qsh_argAt
    rw [if_neg (nI_lt0 (by omega)), ckb (and_i hK.kc rfl), ha.1, if_pos hlt, ckb (and_i (and_i hK.kc (decide_eq_true r1)) (and_i hb2 rfl)), k8, if_pos hltz, ckb (and_i (and_i hK.kc (decide_eq_true r1)) (and_i (av_n k7 (by omega) (by omega) (by omega)) rfl)), nI_cl (by omega), e2]
theorem stA.frE {M M' : SM} {a : yL} (h : stA M s a) (hs : 15 ≤ s) (o : oE M M') : stA M' s a := ⟨by rw [o.1 s 2 (by omega)]; exact h.1, fun i t hi => by rw [o.1 (s + 1) i (by omega), o.1 (s + 2) i (by omega)]; exact h.2 i t hi⟩
theorem yOs_256 {t : Nat × Nat} (h : yOs t) : t.1 < 256 := by
  rcases h with h | h | h | ⟨-, ⟨op, h⟩ | ⟨op, h⟩⟩
  · omega
  · omega
  · omega
  · have := yOp_c h; omega
  · have := yCm_c h; omega
theorem reckon_L18 (hK : shK s z) {K : SM → Option (Int64 × SM)} {a : yL} (hz : a.length ≤ z) (hos : ∀ t ∈ a, yOs t) {F : FA} {G : LE} : ∀ (seg : yL) (fu b : Nat) (M : SM) (k k' : List Int64), seg.length < fu → ySg a b seg → b + seg.length ≤ a.length → stA M s a → eK M k → k.length + seg.length ≤ 200 → M.2 175 = F → M.2 176 = G → yEv F G seg k = some k' →
    ∃ M' : SM, qpr_reckon_L18 K fu s (nI (b + seg.length)) (nI b) M = K M' ∧ eK M' k' ∧ oE M M' := by
  have hs := hK.1
  have hz2 := hK.2.2.1
  intro seg
  induction seg with
  | nil =>
    intro fu b M k k' hf hsg hb ha hk hl hF hG hv
    obtain ⟨fu, rfl⟩ : ∃ y, fu = y + 1 := ⟨fu - 1, by omega⟩
    cases hv
    refine ⟨M, ?_, hk, oE.rf _⟩
    unfold qpr_reckon_L18
    rw [if_neg (nI_nlt (by simp) (by omega))]
  | cons t seg ih =>
    intro fu b M k k' hf hsg hb ha hk hl hF hG hv
    obtain ⟨fu, rfl⟩ : ∃ y, fu = y + 1 := ⟨fu - 1, by omega⟩
    rw [List.length_cons] at hf hb hl
    have hat : a[b]? = some t := ySg_h hsg
    have hts := hos t (List.mem_of_getElem? hat)
    obtain ⟨s1, s2⟩ := stepAt_g hK ha hz hat (yOs_256 hts)
    have hv' : (match yE1 F G t k with
      | none => none
      | some k => yEv F G seg k) = some k' := hv
    cases h1 : yE1 F G t k with
    | none => rw [h1] at hv'; cases hv'
    | some k1 =>
      rw [h1] at hv'
      obtain ⟨M1, g1, g2, g3, g4⟩ := doStep_g hk (by omega) hts (k' := k1) (by rw [hF, hG]; exact h1)
      have hsg2 : ySg a (b + 1) seg := fun i hi => by
        have := hsg (i + 1) (by rw [List.length_cons]; omega)
        rw [show b + 1 + i = b + (i + 1) by omega, this]; rfl
      obtain ⟨M', x1, x2, x3⟩ := ih fu (b + 1) M1 k1 k' (by omega) hsg2 (by omega) (ha.frE hs g3) g2 (by omega) (by rw [g3.2 _ (by omega)]; exact hF) (by rw [g3.2 _ (by omega)]; exact hG) hv'
      refine ⟨M', ?_, x2, g3.tr x3⟩
      unfold qpr_reckon_L18
      rw [List.length_cons, if_pos ((nI_ltI (by omega) (by omega)).mpr (by omega)), ckb hK.kc, s1, ob_s, ckb hK.kc, s2, ob_s, g1, ob_s, nI_1]
      rw [show b + (seg.length + 1) = b + 1 + seg.length by omega]
      exact x1
theorem reckon_g (hK : shK s z) {fs : List FE} {M : SM} (hm : cM M s fs) (h10 : fs.length ≤ 10) (hz : (fsS fs).length ≤ z) (hos : ∀ t ∈ fsS fs, yOs t) {k : Nat} {t : FE} (hk : fs[k]? = some t) {v : FA → LE → Int64} (hv : ∀ F K q, yEv F K t.2.2 q = some (v F K :: q)) :
    ∃ M' : SM, qpr_reckon s (nI k) M = some (v (M.2 175) (M.2 176), M') ∧ oE M M' := by
  have hs := hK.1
  have hz2 := hK.2.2.1
  obtain ⟨-, -, -, -, -, -, -, -, -, r0, r1, r4, r5, r6, r7, r8⟩ := id hK
  have hkl : k < fs.length := by
    by_cases q : k < fs.length
    · exact q
    · rw [List.getElem?_eq_none (by omega)] at hk; cases hk
  obtain ⟨-, -, e5, -⟩ := hm.2.2 k t hk
  have etk : fs.take (k + 1) = fs.take k ++ [t] := by rw [List.take_succ, hk]; rfl
  have el : (fsS (fs.take (k + 1))).length = (fsS (fs.take k)).length + t.2.2.length := by rw [etk, fsS_app, fsS_1, List.length_append]
  have eall : fsS fs = fsS (fs.take k) ++ (t.2.2 ++ fsS (fs.drop (k + 1))) := by
    have e1 : fs = fs.take (k + 1) ++ fs.drop (k + 1) := (List.take_append_drop (k + 1) fs).symm
    conv => lhs; rw [e1, fsS_app, etk, fsS_app, fsS_1]
    rw [List.append_assoc]
  have hle : (fsS (fs.take k)).length + t.2.2.length ≤ (fsS fs).length := by rw [eall, List.length_append, List.length_append]; omega
  have hsg : ySg (fsS fs) (fsS (fs.take k)).length t.2.2 := fun i hi => by
    rw [eall, List.getElem?_append_right (by omega), List.getElem?_append_left (by omega)]
    congr 1
    omega
  have o1 : oE M (wI M 12 8 (0 : Int32)) := ⟨fun c i q => by rw [wI_1, if_neg q], fun _ _ => rfl⟩
  have hst : qsh_startOf s (nI k) (wI M 12 8 (0 : Int32)) = some (nI (fsS (fs.take k)).length, wI M 12 8 (0 : Int32)) := by
    unfold qsh_startOf
    have e3 : (wI M 12 8 (0 : Int32)).1 s 3 = nI fs.length := by rw [o1.1 s 3 (by omega)]; exact hm.2.1
    cases k with
    | zero =>
      rw [ckb hK.kc]
      have : qsh_has s (nI 0 - (1 : Int32)) (wI M 12 8 (0 : Int32)) = some (0, wI M 12 8 (0 : Int32)) := by
        unfold qsh_has
        rw [if_pos (by decide)]
      rw [this, ob_s, if_pos rfl]
      rfl
    | succ k =>
      obtain ⟨t', ht'⟩ : ∃ t', fs[k]? = some t' := ⟨fs[k]'(by omega), List.getElem?_eq_getElem (by omega)⟩
      obtain ⟨-, -, e5', -⟩ := hm.2.2 k t' ht'
      rw [ckb hK.kc, nI_m1 (by omega), Nat.add_sub_cancel, sh_has_g hK e3 h10 (by omega), ob_s, if_neg (by decide), ckb (and_i (and_i hK.kc (decide_eq_true r6)) (and_i (hK.ar (by omega) (by omega) (by omega)) rfl)), nI_cl (by omega), o1.1 (s + 5) k (by omega), e5']
  have hen : qsh_endOf s (nI k) M = some (nI ((fsS (fs.take k)).length + t.2.2.length), M) := by
    unfold qsh_endOf
    rw [ckb hK.kc, sh_has_g hK hm.2.1 h10 hkl, ob_s, if_neg (by decide), ckb (and_i (and_i hK.kc (decide_eq_true r6)) (and_i (hK.ar (by omega) (by omega) (by omega)) rfl)), nI_cl (by omega), e5, el]
  obtain ⟨M1, x1, x2, x3⟩ := reckon_L18 hK (K := fun M21 => ob (qpr_pop M21) (fun r22 M23 => some (r22, M23))) hz hos t.2.2 FU (fsS (fs.take k)).length (wI M 12 8 (0 : Int32)) [] [v (M.2 175) (M.2 176)] (by unfold FU; omega) hsg hle (hm.1.frE hs o1) ⟨by rw [wI_1, if_pos ⟨rfl, rfl⟩]; rfl, fun u t v e => by cases u <;> cases e⟩ (by show 0 + _ ≤ 200; omega) rfl rfl (hv _ _ [])
  obtain ⟨M2, y1, y2, y3⟩ := pop_g x2 (by simp)
  refine ⟨M2, ?_, (o1.tr x3).tr y3⟩
  unfold qpr_reckon
  rw [ckb hK.kc, hen, ob_s, ckb hK.kc, hst, ob_s]
  refine x1.trans ?_
  rw [y1, ob_s]
end
/-! the reference -/
theorem mreckon_g {op : Nat} (h : 3 ≤ op ∧ op ≤ 12) (x y : Int64) (M : SM) : qmd_reckon (nI op) x y M = some (yRk op x y, M) := by
  unfold qmd_reckon
  rcases (show op = 3 ∨ op = 4 ∨ op = 5 ∨ op = 6 ∨ op = 7 ∨ op = 8 ∨ op = 9 ∨ op = 10 ∨ op = 11 ∨ op = 12 by omega) with rfl | rfl | rfl | rfl | rfl | rfl | rfl | rfl | rfl | rfl
  · rfl
  · rfl
  · rfl
  · show (if lg_cmp y 0 = 0 then _ else _) = some (if y = 0 then 0 else x / y, M)
    rw [ic_eq]
    by_cases q : y = 0
    · rw [if_pos q, if_pos q]
    · rw [if_neg q, if_neg q, ck_dt q, ck_t]
  · show (if lg_cmp y 0 = 0 then _ else _) = some (if y = 0 then 0 else x - x / y * y, M)
    rw [ic_eq]
    by_cases q : y = 0
    · rw [if_pos q, if_pos q]
    · rw [if_neg q, if_neg q, ck_dt q, ck_t]
  · show (if lg_cmp x y < 0 then _ else _) = some (if x < y then x else y, M)
    rw [ic_lt]; split <;> rfl
  · show (if 0 < lg_cmp x y then _ else _) = some (if y < x then x else y, M)
    rw [ic_gt]; split <;> rfl
  · show (if lg_cmp x y < 0 then _ else _) = some (if x < y then 1 else 0, M)
    rw [ic_lt]; split <;> rfl
  · show (if 0 < lg_cmp x y then _ else _) = some (if y < x then 1 else 0, M)
    rw [ic_gt]; split <;> rfl
  · show (if lg_cmp x y = 0 then _ else _) = some (if x = y then 1 else 0, M)
    rw [ic_eq]; split <;> rfl
theorem yRx_u (F : FA) (G : LE) (L : yL) (e fu pc : Nat) (k : List Int64) : yRx F G L e (fu + 1) pc k = if pc < e then
      (match L[pc]? with
      | none => none
      | some t =>
        if t.1 = 0 then yRx F G L e fu (pc + 1) (Int32.toInt64 (nI t.2) :: k)
        else if t.1 = 1 then yRx F G L e fu (pc + 1) (G t.2 :: k)
        else if t.1 = 2 then yRx F G L e fu (pc + 1) (F t.2 :: k)
        else if t.1 = 14 then yRx F G L e fu t.2 k
        else if t.1 = 13 then (match k with
          | x :: k => if x = 0 then yRx F G L e fu t.2 k else yRx F G L e fu (pc + 1) k
          | [] => none)
        else (match k with
          | y :: x :: k => yRx F G L e fu (pc + 1) (yRk t.1 x y :: k)
          | _ => none))
      else some k := rfl
theorem worthOf_L8 {row base e bd : Nat} (hrow : K0 row = 20) (hr336 : row < 336) (hZ : base + e ≤ Z0 row) (hZ2 : Z0 row ≤ 2200) (hbd : bd ≤ 1000) {L : yL} (hL : ∀ t ∈ L, yOc bd t) {F : FA} {G : LE} {w : Int64} : ∀ (fu fM pc : Nat) (k : List Int64) (M : SM), fu ≤ fM → k.length + fu ≤ 210 → pc ≤ 3000 → (∀ i t, i < e → L[i]? = some t → M.1 row (base + i) = eU t) → M.2 307 = F → M.2 308 = G → eS M 309 k → yRx F G L e fu pc k = some [w] →
    ∃ M' : SM, qmd_worthOf_L8 fM row (nI base) (nI e) (nI k.length) (nI (base + pc)) M = some (w, M') ∧ M'.1 = M.1 ∧ ∀ c, c ≠ 309 → M'.2 c = M.2 c := by
  intro fu
  induction fu with
  | zero => intro fM pc k M _ _ _ _ _ _ _ h; cases h
  | succ fu ih =>
    intro fM pc k M hfM hk hpc hrw hF hG hS h
    obtain ⟨fM, rfl⟩ : ∃ y, fM = y + 1 := ⟨fM - 1, by omega⟩
    rw [yRx_u] at h
    unfold qmd_worthOf_L8
    rw [nI_add]
    by_cases q : pc < e
    · rw [if_pos q] at h
      rw [if_pos ((nI_ltI (by omega) (by omega)).mpr (show base + pc < base + e by omega))]
      cases hLp : L[pc]? with
      | none => rw [hLp] at h; cases h
      | some t =>
        rw [hLp] at h
        dsimp only at h
        have hoc := hL t (List.mem_of_getElem? hLp)
        have hav : av 336 20 row (nI (base + pc)) = true := av_n hrow hr336 (by omega) (by omega)
        have h1 : t.1 < 2000 := by unfold yOc at hoc; omega
        have h2 : t.2 < 1048576 := by unfold yOc at hoc; omega
        have ev := eU_v h1 h2
        rw [eU_op h1 h2] at ev
        rw [ckb (and_i hav rfl), nI_cl (by omega), hrw pc t q hLp, eU_op h1 h2, ltt_s, ckb (and_i hav rfl), ev, ltt_s]
        have push : ∀ x : Int64, yRx F G L e fu (pc + 1) (x :: k) = some [w] → ∃ M' : SM, qmd_worthOf_L8 fM row (nI base) (nI e) (nI k.length + (1 : Int32)) (nI (base + pc) + (1 : Int32)) (wL M 309 k.length x) = some (w, M') ∧ M'.1 = M.1 ∧ ∀ c, c ≠ 309 → M'.2 c = M.2 c := fun x hx => by
          have oL9 : ∀ c, c ≠ 309 → (wL M 309 k.length x).2 c = M.2 c := fun c hc => by funext j; rw [wL_2, if_neg (fun z => hc z.1)]
          obtain ⟨M', g1, g2, g3⟩ := ih fM (pc + 1) (x :: k) (wL M 309 k.length x) (by omega) (by rw [List.length_cons]; omega) (by omega) hrw (by rw [oL9 _ (by omega)]; exact hF) (by rw [oL9 _ (by omega)]; exact hG) (eS_p hS x) hx
          refine ⟨M', ?_, g2, fun c hc => (g3 c hc).trans (oL9 c hc)⟩
          rw [nI_1, nI_1]
          exact g1
        by_cases q0 : t.1 = 0
        · rw [if_pos q0] at h
          rw [q0, if_neg (by decide), if_pos (show nI 0 = (0 : Int32) from rfl), ck_ib (by omega) (by omega), ck_t, nI_cl (by omega)]
          exact push _ h
        · rw [if_neg q0] at h
          by_cases q1 : t.1 = 1
          · have : t.2 < 26 := by unfold yOc at hoc; omega
            rw [if_pos q1] at h
            rw [q1, if_neg (by decide), if_neg (by decide), if_pos (show nI 1 = (1 : Int32) from rfl), ck_ib (by omega) (by omega), ck_t, ck_ib (by omega) (by omega), ck_t, nI_cl (by omega), nI_cl (by omega), hG]
            exact push _ h
          · rw [if_neg q1] at h
            by_cases q2 : t.1 = 2
            · have : t.2 < 10 := by unfold yOc at hoc; omega
              rw [if_pos q2] at h
              rw [q2, if_neg (by decide), if_neg (by decide), if_neg (by decide), ck_ib (by omega) (by omega), ck_t, ck_ib (by omega) (by omega), ck_t, nI_cl (by omega), nI_cl (by omega), hF]
              exact push _ h
            · rw [if_neg q2] at h
              rw [if_pos (show (2 : Int32) < nI t.1 from (nI_ltI (a := 2) (by omega) (by omega)).mpr (by omega))]
              by_cases q14 : t.1 = 14
              · have : t.2 ≤ bd := by unfold yOc at hoc; omega
                rw [if_pos q14] at h
                rw [q14, if_pos (show nI 14 = (14 : Int32) from rfl), nI_add]
                exact ih fM t.2 k M (by omega) (by omega) (by omega) hrw hF hG hS h
              · rw [if_neg q14] at h
                rw [if_neg (show ¬ nI t.1 = (14 : Int32) from fun z => q14 (nI_inj (b := 14) (by omega) (by omega) z))]
                by_cases q13 : t.1 = 13
                · have : t.2 ≤ bd := by unfold yOc at hoc; omega
                  rw [if_pos q13] at h
                  rw [q13, if_pos (show nI 13 = (13 : Int32) from rfl)]
                  cases k with
                  | nil => cases h
                  | cons x k =>
                    dsimp only at h
                    rw [List.length_cons] at hk ⊢
                    rw [nI_m1 (by omega), Nat.add_sub_cancel, ck_ib (by omega) (by omega), ck_t, nI_cl (by omega), eS_h hS, ic_eq]
                    by_cases qx : x = 0
                    · rw [if_pos qx] at h
                      rw [if_pos qx, nI_add]
                      exact ih fM t.2 k M (by omega) (by omega) (by omega) hrw hF hG (eS_t hS) h
                    · rw [if_neg qx] at h
                      rw [if_neg qx, nI_1]
                      exact ih fM (pc + 1) k M (by omega) (by omega) (by omega) hrw hF hG (eS_t hS) h
                · rw [if_neg q13] at h
                  rw [if_neg (show ¬ nI t.1 = (13 : Int32) from fun z => q13 (nI_inj (b := 13) (by omega) (by omega) z))]
                  have hop : 3 ≤ t.1 ∧ t.1 ≤ 12 := by unfold yOc at hoc; omega
                  cases k with
                  | nil => cases h
                  | cons y k =>
                    cases k with
                    | nil => cases h
                    | cons x k =>
                      dsimp only at h
                      simp only [List.length_cons] at hk ⊢
                      rw [nI_m1 (by omega), Nat.add_sub_cancel, nI_m1 (by omega), Nat.add_sub_cancel, ck_ib (by omega) (by omega), ck_ib (by omega) (by omega), ck_t, nI_cl (by omega), nI_cl (by omega), eS_h (eS_t hS), show M.2 309 (k.length + 1) = y from eS_h hS, mreckon_g hop, ob_s, ck_ib (by omega) (by omega), ck_t, nI_1]
                      have oL9 : ∀ c, c ≠ 309 → (wL M 309 k.length (yRk t.1 x y)).2 c = M.2 c := fun c hc => by funext j; rw [wL_2, if_neg (fun z => hc z.1)]
                      obtain ⟨M', g1, g2, g3⟩ := ih fM (pc + 1) (yRk t.1 x y :: k) (wL M 309 k.length (yRk t.1 x y)) (by omega) (by rw [List.length_cons]; omega) (by omega) hrw (by rw [oL9 _ (by omega)]; exact hF) (by rw [oL9 _ (by omega)]; exact hG) (eS_p (eS_t (eS_t hS)) _) h
                      exact ⟨M', g1, g2, fun c hc => (g3 c hc).trans (oL9 c hc)⟩
    · rw [if_neg q] at h
      have hk1 : k = [w] := Option.some.inj h
      rw [if_neg (nI_nlt (by omega) (by omega)), show (0 : Int32) = nI 0 from rfl, ck_ib (by omega) (by omega), ck_t, nI_cl (by omega)]
      refine ⟨M, ?_, rfl, fun _ _ => rfl⟩
      exact congrArg (fun x => some (x, M)) (hS [] w [] hk1)
theorem worthOf_v {row base b bd : Nat} {code st L : yL} (hrow : K0 row = 20) (hr336 : row < 336) (hZ : base + b + code.length ≤ Z0 row) (hZ2 : Z0 row ≤ 2200) (hbd : bd ≤ 1000) (hL : ∀ t ∈ L, yOc bd t) (hsg : ySg L b code) (h200 : code.length ≤ 200) {v : FA → LE → Int64} (hv : ∀ (L : yL) (e : Nat), b + code.length ≤ e → ySg L b code → ∀ F K k fu, ∃ fu', fu ≤ fu' ∧ yRx F K L e (fu + code.length) b k = yRx F K L e fu' (b + code.length) (v F K :: k))
    {M : SM} (hrw : ∀ i t, i < b + code.length → L[i]? = some t → M.1 row (base + i) = eU t) :
    ∃ M' : SM, qmd_worthOf row (nI base) (nI b) (nI (b + code.length)) M = some (v (M.2 307) (M.2 308), M') ∧ M'.1 = M.1 ∧ ∀ c, c ≠ 309 → M'.2 c = M.2 c := by
  obtain ⟨fu', q1, q2⟩ := hv L (b + code.length) (Nat.le_refl _) hsg (M.2 307) (M.2 308) [] 1
  have fin : yRx (M.2 307) (M.2 308) L (b + code.length) fu' (b + code.length) [v (M.2 307) (M.2 308)] = some [v (M.2 307) (M.2 308)] := by
    obtain ⟨fu', rfl⟩ : ∃ y, fu' = y + 1 := ⟨fu' - 1, by omega⟩
    show (if b + code.length < b + code.length then _ else some _) = _
    rw [if_neg (by omega)]
  rw [fin] at q2
  obtain ⟨M', g1, g2, g3⟩ := worthOf_L8 hrow hr336 (e := b + code.length) (by omega) hZ2 hbd hL (1 + code.length) FU b [] M (by unfold FU; omega) (by show 0 + _ ≤ 210; omega) (by omega) hrw rfl rfl (fun u t v e => by cases u <;> cases e) q2
  refine ⟨M', ?_, g2, g3⟩
  unfold qmd_worthOf
  rw [nI_add]
  exact g1
