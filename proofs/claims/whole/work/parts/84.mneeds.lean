/-! needs, rings and order in the reference -/
def rN (M : SM) (m : Nat) (l : Nat → Nat) : Prop := M.1 280 20 = nI m ∧ m ≤ 10 ∧ ∀ i, i < m → M.1 292 i = nI (l i) ∧ l i < 26
def s295 (c _i : Nat) : Prop := c = 295
section
variable {m : Nat} {l : Nat → Nat}
theorem rN.fr {M M' : SM} (h : rN M m l) {s : Nat → Nat → Prop} (o : Ou s M M') (hs : ∀ c i, s c i → ¬ ((c = 280 ∧ i = 20) ∨ c = 292)) : rN M' m l := ⟨by rw [o.1 280 20 (fun z => hs _ _ z (by omega))]; exact h.1, h.2.1, fun i hi => by rw [o.1 292 i (fun z => hs _ _ z (by omega))]; exact h.2.2 i hi⟩
theorem iF_L38 {K : Int32 → Int32 → SM → Option (Int32 × SM)} {k c : Nat} (hk : k < 10) (hc : c < 220) {t : Nat × Nat} (ht1 : t.1 < 2000) (ht2 : t.2 < 1048576) : ∀ (d fu j : Nat) (M : SM), m - j = d → d < fu → j ≤ m → rN M m l → M.1 290 c = eU t →
    ∃ M' : SM, qmd_isFree_L38 K fu (nI k) (nI c) (nI j) M = K (nI k) (nI c) M' ∧ Ou s295 M M' ∧ ∀ i x, x < 32 → btM M' 295 i x = if i = k then (btM M 295 k x || decide (j ≤ x ∧ x < m ∧ t = (1, l x))) else btM M 295 i x := by
  intro d
  induction d with
  | zero =>
    intro fu j M e hf hj h h0
    obtain ⟨fu, rfl⟩ : ∃ y, fu = y + 1 := ⟨fu - 1, by omega⟩
    have h10 := h.2.1
    refine ⟨M, ?_, Ou.rf _ _, fun i x _ => ?_⟩
    · unfold qmd_isFree_L38
      rw [h.1, if_neg (nI_nlt (by omega) (by omega))]
    · rw [decide_eq_false (by omega), Bool.or_false]
      by_cases q : i = k
      · rw [if_pos q, q]
      · rw [if_neg q]
  | succ d ih =>
    intro fu j M e hf hj h h0
    obtain ⟨fu, rfl⟩ : ∃ y, fu = y + 1 := ⟨fu - 1, by omega⟩
    have h10 := h.2.1
    obtain ⟨l1, l2⟩ := h.2.2 j (by omega)
    unfold qmd_isFree_L38
    rw [h.1, if_pos ((nI_ltI (by omega) (by omega)).mpr (show j < m by omega)), ck_ib (by omega) (by omega), ck_t, nI_cl (by omega), nI_cl (by omega), h0, eU_op ht1 ht2, nI_1]
    have skip : ¬ t = (1, l j) → ∃ M' : SM, qmd_isFree_L38 K fu (nI k) (nI c) (nI (j + 1)) M = K (nI k) (nI c) M' ∧ Ou s295 M M' ∧ ∀ i x, x < 32 → btM M' 295 i x = if i = k then (btM M 295 k x || decide (j ≤ x ∧ x < m ∧ t = (1, l x))) else btM M 295 i x := fun q => by
      obtain ⟨M', g1, g2, g3⟩ := ih fu (j + 1) M (by omega) (by omega) (by omega) h h0
      refine ⟨M', g1, g2, fun i x hx => ?_⟩
      rw [g3 i x hx]
      have e1 : decide (j + 1 ≤ x ∧ x < m ∧ t = (1, l x)) = decide (j ≤ x ∧ x < m ∧ t = (1, l x)) := by
        by_cases z : x = j
        · subst z
          rw [decide_eq_false (by omega), decide_eq_false (fun y => q y.2.2)]
        · congr 1
          apply propext
          constructor
          · rintro ⟨a1, a2, a3⟩; exact ⟨by omega, a2, a3⟩
          · rintro ⟨a1, a2, a3⟩; exact ⟨by omega, a2, a3⟩
      rw [e1]
    by_cases q1 : t.1 = 1
    · rw [if_pos (by rw [q1]; rfl), ck_ib (by omega) (by omega), ck_ib (by omega) (by omega), ck_t, l1]
      have ev := eU_v ht1 ht2
      rw [eU_op ht1 ht2] at ev
      rw [ev]
      by_cases q2 : t.2 = l j
      · rw [if_pos (by rw [q2]), ck_ib (by omega) (by omega), ck_ib (by omega) (by omega), ck_t, sh1_nI j (by omega), nI_cl (by omega)]
        have o1 : Ou s295 M (wI M 295 k (M.1 295 k ||| nI (2 ^ j))) := (Ou.rf _ _).wI rfl
        obtain ⟨M', g1, g2, g3⟩ := ih fu (j + 1) (wI M 295 k (M.1 295 k ||| nI (2 ^ j))) (by omega) (by omega) (by omega) (h.fr o1 (fun c i z => by unfold s295 at z; omega)) (by rw [o1.1 290 c (by unfold s295; omega)]; exact h0)
        refine ⟨M', g1, o1.tr g2, fun i x hx => ?_⟩
        rw [g3 i x hx]
        have eb : ∀ i, btM (wI M 295 k (M.1 295 k ||| nI (2 ^ j))) 295 i x = if i = k then (btM M 295 k x || decide (j = x)) else btM M 295 i x := fun i => by
          unfold btM
          rw [wI_1]
          by_cases z : i = k
          · rw [if_pos ⟨rfl, z⟩, if_pos z, b_or, bt_nI, Nat.testBit_two_pow]
            simp [hx]
          · rw [if_neg (fun y => z y.2), if_neg z]
        rw [eb, eb, if_pos rfl]
        by_cases z : i = k
        · rw [if_pos z, if_pos z]
          by_cases y : j = x
          · subst y
            have : t = (1, l j) := by rw [← q1, ← q2]
            rw [decide_eq_true rfl, decide_eq_true (show j ≤ j ∧ j < m ∧ t = (1, l j) from ⟨Nat.le_refl _, by omega, this⟩)]
            simp
          · rw [decide_eq_false y, Bool.or_false]
            congr 1
            congr 1
            apply propext
            constructor
            · rintro ⟨a1, a2, a3⟩; exact ⟨by omega, a2, a3⟩
            · rintro ⟨a1, a2, a3⟩; exact ⟨by omega, a2, a3⟩
        · rw [if_neg z, if_neg z]
          first
            | rfl
            | exact (if_neg z).symm
      · rw [if_neg (fun v => q2 (nI_inj (by omega) (by omega) v))]
        exact skip (fun v => q2 (by rw [v]))
    · rw [if_neg (show ¬ nI t.1 = (1 : Int32) from fun v => q1 (nI_inj (b := 1) (by omega) (by omega) v))]
      exact skip (fun v => q1 (by rw [v]))
theorem iF_L24 {K : Int32 → SM → Option (Int32 × SM)} {k e : Nat} (hk : k < 10) : ∀ (seg : yL) (fu c : Nat) (M : SM), seg.length < fu → c + seg.length = e → e ≤ 200 → (∀ t ∈ seg, t.1 < 2000 ∧ t.2 < 1048576) → rN M m l → M.1 294 (k + 1) = nI e → (∀ i t, seg[i]? = some t → M.1 290 (c + i) = eU t) →
    ∃ M' : SM, qmd_isFree_L24 K fu (nI k) (nI c) M = K (nI k) M' ∧ Ou s295 M M' ∧ ∀ i x, x < 32 → btM M' 295 i x = if i = k then (btM M 295 k x || decide (x < m ∧ (1, l x) ∈ seg)) else btM M 295 i x := by
  intro seg
  induction seg with
  | nil =>
    intro fu c M hf hce he hs h h294 hseg
    obtain ⟨fu, rfl⟩ : ∃ y, fu = y + 1 := ⟨fu - 1, by omega⟩
    refine ⟨M, ?_, Ou.rf _ _, fun i x _ => ?_⟩
    · unfold qmd_isFree_L24
      simp only [List.length_nil] at hce
      rw [nI_1, ck_ib (by omega) (by omega), ck_t, nI_cl (by omega), h294, if_neg (nI_nlt (by omega) (by omega))]
    · rw [decide_eq_false (by simp), Bool.or_false]
      by_cases q : i = k
      · rw [if_pos q, q]
      · rw [if_neg q]
  | cons t seg ih =>
    intro fu c M hf hce he hs h h294 hseg
    obtain ⟨fu, rfl⟩ : ∃ y, fu = y + 1 := ⟨fu - 1, by omega⟩
    rw [List.length_cons] at hce hf
    obtain ⟨t1, t2⟩ := hs t (by simp)
    unfold qmd_isFree_L24
    rw [nI_1, ck_ib (by omega) (by omega), ck_t, nI_cl (by omega), h294, if_pos ((nI_ltI (by omega) (by omega)).mpr (by omega))]
    obtain ⟨M1, f1, f2, f3⟩ := iF_L38 (K := fun y1_9 y2_10 M11 => qmd_isFree_L24 K fu y1_9 (y2_10 + (1 : Int32)) M11) hk (c := c) (by omega) t1 t2 m FU 0 M (by omega) (by have := h.2.1; unfold FU; omega) (by omega) h (hseg 0 t rfl)
    obtain ⟨M', g1, g2, g3⟩ := ih fu (c + 1) M1 (by omega) (by omega) he (fun u hu => hs u (List.mem_cons_of_mem _ hu)) (h.fr f2 (fun c i z => by unfold s295 at z; omega)) (by rw [f2.1 294 _ (by unfold s295; omega)]; exact h294) (fun i u hu => by rw [f2.1 290 _ (by unfold s295; omega), show c + 1 + i = c + (i + 1) by omega]; exact hseg (i + 1) u hu)
    refine ⟨M', ?_, f2.tr g2, fun i x hx => ?_⟩
    · refine f1.trans ?_
      rw [nI_1]; exact g1
    · rw [g3 i x hx, f3 i x hx, f3 k x hx, if_pos rfl]
      by_cases q : i = k
      · rw [if_pos q, if_pos q, Bool.or_assoc]
        congr 1
        by_cases hxm : x < m
        · by_cases y1 : t = (1, l x)
          · rw [decide_eq_true (show 0 ≤ x ∧ x < m ∧ t = (1, l x) from ⟨by omega, hxm, y1⟩), decide_eq_true (show x < m ∧ (1, l x) ∈ t :: seg from ⟨hxm, by rw [y1]; simp⟩)]; rfl
          · rw [decide_eq_false (fun z => y1 z.2.2), Bool.false_or]
            congr 1
            apply propext
            constructor
            · rintro ⟨a1, a2⟩; exact ⟨a1, List.mem_cons_of_mem _ a2⟩
            · rintro ⟨a1, a2⟩
              rcases List.mem_cons.mp a2 with a2 | a2
              · exact absurd a2.symm y1
              · exact ⟨a1, a2⟩
        · rw [decide_eq_false (fun z => hxm z.2.1), decide_eq_false (fun z => hxm z.1), decide_eq_false (fun z => hxm z.1)]; rfl
      · rw [if_neg q, if_neg q, if_neg q]
def dsO (ds : List yL) (k : Nat) : Nat := (ds.take k).flatten.length
theorem dsO_s {ds : List yL} {k : Nat} {c : yL} (h : ds[k]? = some c) : dsO ds (k + 1) = dsO ds k + c.length := by
  unfold dsO
  have hk : k < ds.length := by
    by_cases z : k < ds.length
    · exact z
    · rw [List.getElem?_eq_none (by omega)] at h; cases h
  have e : ds.take (k + 1) = ds.take k ++ [c] := by
    rw [List.take_succ, h]; rfl
  rw [e, List.flatten_append, List.length_append]
  simp
theorem dsO_seg {ds : List yL} {k : Nat} {c : yL} (h : ds[k]? = some c) : ySg ds.flatten (dsO ds k) c := by
  intro i hi
  have hk : k < ds.length := by
    by_cases z : k < ds.length
    · exact z
    · rw [List.getElem?_eq_none (by omega)] at h; cases h
  have e : ds = ds.take k ++ (c :: ds.drop (k + 1)) := by
    have e1 : ds.drop k = c :: ds.drop (k + 1) := by
      rw [List.drop_eq_getElem_cons hk]
      rw [List.getElem?_eq_getElem hk] at h
      rw [Option.some.inj h]
    rw [← e1, List.take_append_drop]
  have e2 : ds.flatten = (ds.take k).flatten ++ (c ++ (ds.drop (k + 1)).flatten) := by
    conv => lhs; rw [e]
    rw [List.flatten_append, List.flatten_cons]
  rw [e2]
  unfold dsO
  rw [List.getElem?_append_right (by omega), List.getElem?_append_left (by omega)]
  congr 1
  omega
theorem dsO_le {ds : List yL} (k : Nat) : dsO ds k ≤ ds.flatten.length := by
  unfold dsO
  have e : ds.flatten = (ds.take k).flatten ++ (ds.drop k).flatten := by rw [← List.flatten_append, List.take_append_drop]
  rw [e, List.length_append]; omega
/-- which letter each names, at first -/
def rnE (m : Nat) (l : Nat → Nat) (ds : List yL) : BB := fun k x => match ds[k]? with
  | some c => decide (x < m ∧ (1, l x) ∈ c)
  | none => false
theorem iF_L2 {ds : List yL} (hds : ds.length = m) (hs : ∀ t ∈ ds.flatten, t.1 < 2000 ∧ t.2 < 1048576) (h200 : ds.flatten.length ≤ 200) {K : SM → Option (Int32 × SM)} : ∀ (d fu k : Nat) (M : SM), m - k = d → d < fu → k ≤ m → rN M m l → rA M ds.flatten → (∀ k, k ≤ m → M.1 294 k = nI (dsO ds k)) → (∀ i x, i < k → x < 32 → btM M 295 i x = rnE m l ds i x) →
    ∃ M' : SM, qmd_isFree_L2 K fu (nI k) M = K M' ∧ Ou s295 M M' ∧ ∀ i x, i < m → x < 32 → btM M' 295 i x = rnE m l ds i x := by
  intro d
  induction d with
  | zero =>
    intro fu k M e hf hk h hA h294 hb
    obtain ⟨fu, rfl⟩ : ∃ y, fu = y + 1 := ⟨fu - 1, by omega⟩
    have h10 := h.2.1
    obtain rfl : k = m := by omega
    refine ⟨M, ?_, Ou.rf _ _, hb⟩
    unfold qmd_isFree_L2
    rw [h.1, if_neg (nI_nlt (by omega) (by omega))]
  | succ d ih =>
    intro fu k M e hf hk h hA h294 hb
    obtain ⟨fu, rfl⟩ : ∃ y, fu = y + 1 := ⟨fu - 1, by omega⟩
    have h10 := h.2.1
    obtain ⟨c, hc⟩ : ∃ c, ds[k]? = some c := ⟨ds[k]'(by omega), List.getElem?_eq_getElem (by omega)⟩
    have hle := dsO_le (ds := ds) (k + 1)
    have hse := dsO_s hc
    have hsg := dsO_seg hc
    unfold qmd_isFree_L2
    rw [h.1, if_pos ((nI_ltI (by omega) (by omega)).mpr (show k < m by omega)), ck_ib (by omega) (by omega), ck_ib (by omega) (by omega), ck_t, nI_cl (by omega), h294 k (by omega)]
    have o1 : Ou s295 M (wI M 295 k (0 : Int32)) := (Ou.rf _ _).wI rfl
    obtain ⟨M1, f1, f2, f3⟩ := iF_L24 (K := fun y1_13 M14 => qmd_isFree_L2 K fu (y1_13 + (1 : Int32)) M14) (k := k) (e := dsO ds (k + 1)) (by omega) c FU (dsO ds k) (wI M 295 k (0 : Int32)) (by unfold FU; omega) (by omega) (by omega) (fun t ht => hs t (by
        obtain ⟨i, hi⟩ := List.getElem?_of_mem ht
        have hi2 : i < c.length := by
          by_cases z : i < c.length
          · exact z
          · rw [List.getElem?_eq_none (by omega)] at hi; cases hi
        have := hsg i hi2
        rw [hi] at this
        exact List.mem_of_getElem? this)) (h.fr o1 (fun c i z => by unfold s295 at z; omega)) (by rw [o1.1 294 _ (by unfold s295; omega)]; exact h294 (k + 1) (by omega)) (fun i t hi => by
        have hi2 : i < c.length := by
          by_cases z : i < c.length
          · exact z
          · rw [List.getElem?_eq_none (by omega)] at hi; cases hi
        rw [o1.1 290 _ (by unfold s295; omega)]
        exact hA.2 _ t (by rw [hsg i hi2]; exact hi))
    have o2 := o1.tr f2
    obtain ⟨M', g1, g2, g3⟩ := ih fu (k + 1) M1 (by omega) (by omega) (by omega) (h.fr o2 (fun c i z => by unfold s295 at z; omega)) (hA.fr o2 (fun c i z => by unfold s295 at z; omega)) (fun k hk => by rw [o2.1 294 _ (by unfold s295; omega)]; exact h294 k hk) (fun i x hi hx => by
      rw [f3 i x hx]
      have eb : ∀ i, btM (wI M 295 k (0 : Int32)) 295 i x = if i = k then false else btM M 295 i x := fun i => by
        unfold btM
        rw [wI_1]
        by_cases z : i = k
        · rw [if_pos ⟨rfl, z⟩, if_pos z, b_0]
        · rw [if_neg (fun y => z y.2), if_neg z]
      rw [eb, eb, if_pos rfl]
      by_cases q : i = k
      · rw [if_pos q, Bool.false_or]
        unfold rnE
        rw [q, hc]
      · rw [if_neg q]
        refine (if_neg q).trans ?_
        exact hb i x (by omega) hx)
    refine ⟨M', ?_, o2.tr g2, g3⟩
    refine f1.trans ?_
    rw [nI_1]; exact g1
theorem iF_L131 {K : Int32 → Int32 → SM → Option (Int32 × SM)} (x1 : Int32) {i : Nat} (hi : i < m) : ∀ (k fu j : Nat) (M : SM), m - j = k → k < fu → j ≤ m → rN M m l →
    ∃ M' : SM, qmd_isFree_L131 K fu x1 (nI i) (nI j) M = K x1 (nI i) M' ∧ Ou s295 M M' ∧ btM M' 295 = nKJ (fun j => j) i k j (btM M 295) := by
  intro k
  induction k with
  | zero =>
    intro fu j M e hf hj h
    obtain ⟨fu, rfl⟩ : ∃ y, fu = y + 1 := ⟨fu - 1, by omega⟩
    have h10 := h.2.1
    refine ⟨M, ?_, Ou.rf _ _, rfl⟩
    unfold qmd_isFree_L131
    rw [h.1, if_neg (nI_nlt (by omega) (by omega))]
  | succ k ih =>
    intro fu j M e hf hj h
    obtain ⟨fu, rfl⟩ : ∃ y, fu = y + 1 := ⟨fu - 1, by omega⟩
    have h10 := h.2.1
    unfold qmd_isFree_L131
    rw [h.1, if_pos ((nI_ltI (by omega) (by omega)).mpr (show j < m by omega)), ck_ib (by omega) (by omega), ck_t, nI_cl (by omega), nI_cl (by omega), bitc _ (by omega), nI_1]
    show ∃ M', (if (if btM M 295 i j = true then (1 : Int32) else 0) = 1 then _ else _) = _ ∧ _
    by_cases q : btM M 295 i j = true
    · rw [if_pos q, if_pos rfl, ck_ib (by omega) (by omega), ck_ib (by omega) (by omega), ck_ib (by omega) (by omega), ck_t]
      have o1 : Ou s295 M (wI M 295 i (M.1 295 i ||| M.1 295 j)) := (Ou.rf _ _).wI rfl
      obtain ⟨M', g1, g2, g3⟩ := ih fu (j + 1) (wI M 295 i (M.1 295 i ||| M.1 295 j)) (by omega) (by omega) (by omega) (h.fr o1 (fun c i z => by unfold s295 at z; omega))
      refine ⟨M', g1, o1.tr g2, ?_⟩
      rw [g3]
      show _ = nKJ (fun j => j) i k (j + 1) (nK1 (fun j => j) (btM M 295) i j)
      congr 1
      rw [btM_or]
      funext a x
      unfold nK1
      by_cases z : a = i
      · rw [if_pos z, if_pos ⟨z, q⟩]
      · rw [if_neg z, if_neg (fun y => z y.1)]
    · rw [if_neg q, if_neg (by decide)]
      obtain ⟨M', g1, g2, g3⟩ := ih fu (j + 1) M (by omega) (by omega) (by omega) h
      refine ⟨M', g1, g2, ?_⟩
      rw [g3]
      show _ = nKJ (fun j => j) i k (j + 1) (nK1 (fun j => j) (btM M 295) i j)
      congr 1
      funext a x
      unfold nK1
      rw [if_neg (fun y => q y.2)]
theorem iF_L121 {K : Int32 → SM → Option (Int32 × SM)} (x1 : Int32) : ∀ (k fu i : Nat) (M : SM), m - i = k → k < fu → i ≤ m → rN M m l →
    ∃ M' : SM, qmd_isFree_L121 K fu x1 (nI i) M = K x1 M' ∧ Ou s295 M M' ∧ btM M' 295 = nKI (fun j => j) m k i (btM M 295) := by
  intro k
  induction k with
  | zero =>
    intro fu i M e hf hj h
    obtain ⟨fu, rfl⟩ : ∃ y, fu = y + 1 := ⟨fu - 1, by omega⟩
    have h10 := h.2.1
    refine ⟨M, ?_, Ou.rf _ _, rfl⟩
    unfold qmd_isFree_L121
    rw [h.1, if_neg (nI_nlt (by omega) (by omega))]
  | succ k ih =>
    intro fu i M e hf hj h
    obtain ⟨fu, rfl⟩ : ∃ y, fu = y + 1 := ⟨fu - 1, by omega⟩
    have h10 := h.2.1
    unfold qmd_isFree_L121
    rw [h.1, if_pos ((nI_ltI (by omega) (by omega)).mpr (show i < m by omega))]
    obtain ⟨M1, f1, f2, f3⟩ := iF_L131 (l := l) (K := fun y1_21 y2_22 M23 => qmd_isFree_L121 K fu y1_21 (y2_22 + (1 : Int32)) M23) x1 (i := i) (by omega) m FU 0 M (by omega) (by unfold FU; omega) (by omega) h
    obtain ⟨M', g1, g2, g3⟩ := ih fu (i + 1) M1 (by omega) (by omega) (by omega) (h.fr f2 (fun c i z => by unfold s295 at z; omega))
    refine ⟨M', ?_, f2.tr g2, ?_⟩
    · refine f1.trans ?_
      rw [nI_1]; exact g1
    · rw [g3, f3]; rfl
theorem iF_L113 {K : SM → Option (Int32 × SM)} : ∀ (k fu p : Nat) (M : SM), 10 - p = k → k < fu → p ≤ 10 → rN M m l →
    ∃ M' : SM, qmd_isFree_L113 K fu (nI p) M = K M' ∧ Ou s295 M M' ∧ btM M' 295 = nKP (fun j => j) m k (btM M 295) := by
  intro k
  induction k with
  | zero =>
    intro fu p M e hf hj h
    obtain ⟨fu, rfl⟩ : ∃ y, fu = y + 1 := ⟨fu - 1, by omega⟩
    obtain rfl : p = 10 := by omega
    refine ⟨M, ?_, Ou.rf _ _, rfl⟩
    unfold qmd_isFree_L113
    rw [if_neg (by decide)]
  | succ k ih =>
    intro fu p M e hf hj h
    obtain ⟨fu, rfl⟩ : ∃ y, fu = y + 1 := ⟨fu - 1, by omega⟩
    have h10 := h.2.1
    unfold qmd_isFree_L113
    rw [if_pos (nl_10 (show p < 10 by omega))]
    obtain ⟨M1, f1, f2, f3⟩ := iF_L121 (l := l) (K := fun y1_25 M26 => qmd_isFree_L113 K fu (y1_25 + (1 : Int32)) M26) (nI p) m FU 0 M (by omega) (by unfold FU; omega) (by omega) h
    obtain ⟨M', g1, g2, g3⟩ := ih fu (p + 1) M1 (by omega) (by omega) (by omega) (h.fr f2 (fun c i z => by unfold s295 at z; omega))
    refine ⟨M', ?_, f2.tr g2, ?_⟩
    · refine f1.trans ?_
      rw [nI_1]; exact g1
    · rw [g3, f3]; rfl
theorem iF_L192 {K : Int32 → SM → Option (Int32 × SM)} {M : SM} (h : rN M m l) : ∀ (k fu i : Nat), m - i = k → k < fu → i ≤ m → qmd_isFree_L192 K fu (nI i) M = (match fstI (fun i => btM M 295 i i) k i with | none => some (1, M) | some i => K (nI i) M) := by
  have h10 := h.2.1
  intro k
  induction k with
  | zero =>
    intro fu i e hf hj
    obtain ⟨fu, rfl⟩ : ∃ y, fu = y + 1 := ⟨fu - 1, by omega⟩
    unfold qmd_isFree_L192
    rw [h.1, if_neg (nI_nlt (by omega) (by omega))]
    rfl
  | succ k ih =>
    intro fu i e hf hj
    obtain ⟨fu, rfl⟩ : ∃ y, fu = y + 1 := ⟨fu - 1, by omega⟩
    unfold qmd_isFree_L192
    rw [h.1, if_pos ((nI_ltI (by omega) (by omega)).mpr (show i < m by omega)), ck_ib (by omega) (by omega), ck_t, nI_cl (by omega), bitc _ (by omega), nI_1]
    have e2 : fstI (fun i => btM M 295 i i) (k + 1) i = if btM M 295 i i = true then some i else fstI (fun i => btM M 295 i i) k (i + 1) := rfl
    rw [e2]
    show (if (if btM M 295 i i = true then (1 : Int32) else 0) = 1 then _ else _) = _
    by_cases q : btM M 295 i i = true
    · rw [if_pos q, if_pos rfl, if_pos q]
    · rw [if_neg q, if_neg (by decide), if_neg q]
      exact ih fu (i + 1) (by omega) (by omega) (by omega)
theorem needsOf_L4 {M : SM} {k : Nat} (hk : k < 10) : ∀ (d fu i : Nat), 10 - i = d → d < fu → i ≤ 10 → qmd_needsOf_L4 fu (nI k) (nI (cnt (bt (M.1 295 k)) i)) (nI i) M = some (nI (cnt (bt (M.1 295 k)) 10), M) := by
  intro d
  induction d with
  | zero =>
    intro fu i e hf hi
    obtain ⟨fu, rfl⟩ : ∃ y, fu = y + 1 := ⟨fu - 1, by omega⟩
    obtain rfl : i = 10 := by omega
    unfold qmd_needsOf_L4
    rw [if_neg (by decide)]
  | succ d ih =>
    intro fu i e hf hi
    obtain ⟨fu, rfl⟩ : ∃ y, fu = y + 1 := ⟨fu - 1, by omega⟩
    unfold qmd_needsOf_L4
    rw [if_pos (nl_10 (show i < 10 by omega)), ck_ib (by omega) (by omega), ck_t, nI_cl (by omega), bitc _ (by omega), ltt_s, nI_1]
    have e1 : nI (cnt (bt (M.1 295 k)) i) + (if bt (M.1 295 k) i = true then (1 : Int32) else 0) = nI (cnt (bt (M.1 295 k)) (i + 1)) := by
      show _ = nI (cnt (bt (M.1 295 k)) i + (if bt (M.1 295 k) i = true then 1 else 0))
      by_cases q : bt (M.1 295 k) i = true
      · rw [if_pos q, if_pos q, nI_1]
      · rw [if_neg q, if_neg q, show (0 : Int32) = nI 0 from rfl, nI_add]
    rw [e1]
    exact ih fu (i + 1) (by omega) (by omega) (by omega)
theorem needsOf_g {M : SM} {k : Nat} (hk : k < 10) : qmd_needsOf (nI k) M = some (nI (cnt (bt (M.1 295 k)) 10), M) := needsOf_L4 hk 10 FU 0 (by omega) (by unfold FU; omega) (by omega)
/-- three rows written along an order -/
def rw3 (M : SM) (L : Nat) (l off : Nat → Nat) (P : List Nat) : Prop := ∀ k t, P[k]? = some t → M.1 298 (10 * L + k) = nI (l t) ∧ M.1 299 (10 * L + k) = nI (off t) ∧ M.1 300 (10 * L + k) = nI (off (t + 1))
def s3r (L c i : Nat) : Prop := 298 ≤ c ∧ c ≤ 300 ∧ 10 * L ≤ i ∧ i < 10 * L + 10
theorem lO_L200 {K : Int32 → Int32 → SM → Option (Int32 × SM)} {L : Nat} (hL : L < 10) {off : Nat → Nat} {r : Nat} (rk : Nat → Nat) : ∀ (k fu i : Nat) (M : SM), m - i = k → k < fu → i ≤ m → rN M m l → M.1 280 27 = nI L → (∀ k, k ≤ m → M.1 294 k = nI (off k)) → (∀ i, i < m → rk i = cnt (bt (M.1 295 i)) 10) → r < 100 → rw3 M L l off (orL rk m r ++ orI rk r i) →
    ∃ M' : SM, qmd_list_L200 K fu (nI (orL rk m r ++ orI rk r i).length) (nI r) (nI i) M = K (nI (orL rk m (r + 1)).length) (nI r) M' ∧ Ou (s3r L) M M' ∧ rw3 M' L l off (orL rk m (r + 1)) := by
  intro k
  induction k with
  | zero =>
    intro fu i M e hf hj h h27 hoff hrk hr hw
    obtain ⟨fu, rfl⟩ : ∃ y, fu = y + 1 := ⟨fu - 1, by omega⟩
    have h10 := h.2.1
    obtain rfl : i = m := by omega
    refine ⟨M, ?_, Ou.rf _ _, hw⟩
    unfold qmd_list_L200
    rw [h.1, if_neg (nI_nlt (by omega) (by omega))]
    rfl
  | succ k ih =>
    intro fu i M e hf hj h h27 hoff hrk hr hw
    obtain ⟨fu, rfl⟩ : ∃ y, fu = y + 1 := ⟨fu - 1, by omega⟩
    have h10 := h.2.1
    have hc10 : rk i ≤ 10 := by rw [hrk i (by omega)]; exact cnt_le _ _
    obtain ⟨l1, l2⟩ := h.2.2 i (by omega)
    unfold qmd_list_L200
    rw [h.1, if_pos ((nI_ltI (by omega) (by omega)).mpr (show i < m by omega)), needsOf_g (by omega), ob_s, ← hrk i (by omega)]
    by_cases q : rk i = r
    · have hlen : (orL rk m r ++ orI rk r i).length < m := by
        have h1 := orL_le (rk := rk) (m := m) (r + 1)
        have h2 : (orL rk m (r + 1)).length = (orL rk m r).length + (orI rk r m).length := by show (orL rk m r ++ orI rk r m).length = _; rw [List.length_append]
        have h3 := orI_le (rk := rk) (r := r) (a := i + 1) (m - (i + 1))
        rw [show i + 1 + (m - (i + 1)) = m by omega, orI_s, if_pos q, List.length_append, List.length_singleton] at h3
        rw [List.length_append]
        omega
      generalize hPP : orL rk m r ++ orI rk r i = P at *
      have eP : orL rk m r ++ orI rk r (i + 1) = P ++ [i] := by rw [orI_s, if_pos q, ← List.append_assoc, hPP]
      rw [if_pos (by rw [q]), h27, show (10 : Int32) = nI 10 from rfl, nI_mul, nI_add, nI_1, nI_1, ck_ib (by omega) (by omega), ck_ib (by omega) (by omega), ck_ib (by omega) (by omega), ck_ib (by omega) (by omega), ck_ib (by omega) (by omega), ck_ib (by omega) (by omega), ck_t, nI_cl (by omega), nI_cl (by omega), nI_cl (by omega), l1, hoff i (by omega), hoff (i + 1) (by omega)]
      generalize hM1 : wI (wI (wI M 298 (10 * L + P.length) (nI (l i))) 299 (10 * L + P.length) (nI (off i))) 300 (10 * L + P.length) (nI (off (i + 1))) = M1
      have g : ∀ c j, M1.1 c j = if c = 300 ∧ j = 10 * L + P.length then nI (off (i + 1)) else if c = 299 ∧ j = 10 * L + P.length then nI (off i) else if c = 298 ∧ j = 10 * L + P.length then nI (l i) else M.1 c j := fun c j => by rw [← hM1, wI_1, wI_1, wI_1]
      have o1 : Ou (s3r L) M M1 := ⟨fun c j z => by unfold s3r at z; rw [g, if_neg (by omega), if_neg (by omega), if_neg (by omega)], by rw [← hM1]; rfl⟩
      obtain ⟨M', g1, g2, g3⟩ := ih fu (i + 1) M1 (by omega) (by omega) (by omega) (h.fr o1 (fun c i z => by unfold s3r at z; omega)) (by rw [o1.1 280 27 (by unfold s3r; omega)]; exact h27) (fun k hk => by rw [o1.1 294 k (by unfold s3r; omega)]; exact hoff k hk) (fun i hi => by rw [o1.1 295 i (by unfold s3r; omega)]; exact hrk i hi) hr (fun k t hk => by
        rw [eP] at hk
        rcases getElem?_snoc hk with ⟨h1, h2⟩ | ⟨rfl, rfl⟩
        · obtain ⟨w1, w2, w3⟩ := hw k t h2
          refine ⟨?_, ?_, ?_⟩
          · rw [g, if_neg (by omega), if_neg (by omega), if_neg (by omega)]; exact w1
          · rw [g, if_neg (by omega), if_neg (by omega), if_neg (by omega)]; exact w2
          · rw [g, if_neg (by omega), if_neg (by omega), if_neg (by omega)]; exact w3
        · refine ⟨?_, ?_, ?_⟩
          · rw [g, if_neg (by omega), if_neg (by omega), if_pos ⟨rfl, rfl⟩]
          · rw [g, if_neg (by omega), if_pos ⟨rfl, rfl⟩]
          · rw [g, if_pos ⟨rfl, rfl⟩])
      refine ⟨M', ?_, o1.tr g2, g3⟩
      rw [eP, List.length_append, List.length_singleton] at g1
      exact g1
    · have eP : orL rk m r ++ orI rk r (i + 1) = orL rk m r ++ orI rk r i := by rw [orI_s, if_neg q, List.append_nil]
      rw [if_neg (fun v => q (nI_inj (by omega) (by omega) v))]
      obtain ⟨M', g1, g2, g3⟩ := ih fu (i + 1) M (by omega) (by omega) (by omega) h h27 hoff hrk hr (by rw [eP]; exact hw)
      rw [eP] at g1
      exact ⟨M', by rw [nI_1]; exact g1, g2, g3⟩
theorem lO_L190 {K : SM → Option (Int32 × SM)} {L : Nat} (hL : L < 10) {off : Nat → Nat} (rk : Nat → Nat) : ∀ (k fu r : Nat) (M : SM), 10 - r = k → k < fu → r ≤ 10 → rN M m l → M.1 280 27 = nI L → (∀ k, k ≤ m → M.1 294 k = nI (off k)) → (∀ i, i < m → rk i = cnt (bt (M.1 295 i)) 10) → rw3 M L l off (orL rk m r) →
    ∃ M' : SM, qmd_list_L190 K fu (nI (orL rk m r).length) (nI r) M = K M' ∧ Ou (s3r L) M M' ∧ rw3 M' L l off (orL rk m 10) := by
  intro k
  induction k with
  | zero =>
    intro fu r M e hf hj h h27 hoff hrk hw
    obtain ⟨fu, rfl⟩ : ∃ y, fu = y + 1 := ⟨fu - 1, by omega⟩
    obtain rfl : r = 10 := by omega
    refine ⟨M, ?_, Ou.rf _ _, hw⟩
    unfold qmd_list_L190
    rw [if_neg (by decide)]
  | succ k ih =>
    intro fu r M e hf hj h h27 hoff hrk hw
    obtain ⟨fu, rfl⟩ : ∃ y, fu = y + 1 := ⟨fu - 1, by omega⟩
    have h10 := h.2.1
    unfold qmd_list_L190
    rw [if_pos (nl_10 (show r < 10 by omega))]
    have e0 : orL rk m r ++ orI rk r 0 = orL rk m r := by show orL rk m r ++ [] = _; rw [List.append_nil]
    obtain ⟨M1, f1, f2, f3⟩ := lO_L200 (K := fun y3_41 y4_42 M43 => qmd_list_L190 K fu y3_41 (y4_42 + (1 : Int32)) M43) hL (off := off) (r := r) rk m FU 0 M (by omega) (by unfold FU; omega) (by omega) h h27 hoff hrk (by omega) (by rw [e0]; exact hw)
    rw [e0] at f1
    obtain ⟨M', g1, g2, g3⟩ := ih fu (r + 1) M1 (by omega) (by omega) (by omega) (h.fr f2 (fun c i z => by unfold s3r at z; omega)) (by rw [f2.1 280 27 (by unfold s3r; omega)]; exact h27) (fun k hk => by rw [f2.1 294 k (by unfold s3r; omega)]; exact hoff k hk) (fun i hi => by rw [f2.1 295 i (by unfold s3r; omega)]; exact hrk i hi) f3
    refine ⟨M', ?_, f2.tr g2, g3⟩
    refine f1.trans ?_
    rw [nI_1]; exact g1
theorem lC_L150 {K : SM → Option (Int32 × SM)} {L : Nat} (hL : L < 10) {cs : yL} (h200 : cs.length ≤ 200) : ∀ (k fu i : Nat) (M : SM), cs.length - i = k → k < fu → i ≤ cs.length → rA M cs → M.1 280 27 = nI L → (∀ j t, j < i → cs[j]? = some t → M.1 296 (220 * L + j) = eU t) →
    ∃ M' : SM, qmd_list_L150 K fu (nI i) M = K M' ∧ Ou (fun c i => c = 296 ∧ 220 * L ≤ i ∧ i < 220 * L + 220) M M' ∧ ∀ j t, cs[j]? = some t → M'.1 296 (220 * L + j) = eU t := by
  intro k
  induction k with
  | zero =>
    intro fu i M e hf hj hA h27 hw
    obtain ⟨fu, rfl⟩ : ∃ y, fu = y + 1 := ⟨fu - 1, by omega⟩
    refine ⟨M, ?_, Ou.rf _ _, fun j t hj2 => hw j t ?_ hj2⟩
    · unfold qmd_list_L150
      rw [hA.1, if_neg (nI_nlt (by omega) (by omega))]
    · by_cases z : j < cs.length
      · omega
      · rw [List.getElem?_eq_none (by omega)] at hj2; cases hj2
  | succ k ih =>
    intro fu i M e hf hj hA h27 hw
    obtain ⟨fu, rfl⟩ : ∃ y, fu = y + 1 := ⟨fu - 1, by omega⟩
    obtain ⟨t, ht⟩ : ∃ t, cs[i]? = some t := ⟨cs[i]'(by omega), List.getElem?_eq_getElem (by omega)⟩
    unfold qmd_list_L150
    rw [hA.1, if_pos ((nI_ltI (by omega) (by omega)).mpr (show i < cs.length by omega)), h27, show (220 : Int32) = nI 220 from rfl, nI_mul, nI_add, ck_ib (by omega) (by omega), ck_ib (by omega) (by omega), ck_t, nI_1, nI_cl (by omega), nI_cl (by omega), hA.2 i t ht]
    have o1 : Ou (fun c i => c = 296 ∧ 220 * L ≤ i ∧ i < 220 * L + 220) M (wI M 296 (220 * L + i) (eU t)) := (Ou.rf _ _).wI (by omega)
    obtain ⟨M', g1, g2, g3⟩ := ih fu (i + 1) (wI M 296 (220 * L + i) (eU t)) (by omega) (by omega) (by omega) (hA.fr o1 (fun c i z => by omega)) (by rw [o1.1 280 27 (by omega)]; exact h27) (fun j u hj3 hu => by
      rw [wI_1]
      by_cases z : j = i
      · subst z
        rw [ht] at hu
        rw [if_pos ⟨rfl, rfl⟩, Option.some.inj hu]
      · rw [if_neg (by omega)]
        exact hw j u (by omega) hu)
    exact ⟨M', g1, o1.tr g2, g3⟩
end
