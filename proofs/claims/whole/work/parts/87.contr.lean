/-! what a list comes to, on both sides -/
theorem sPt_ext {D D' : BB} {m : Nat} (h : ∀ i q, i < m → q < m → D i q = D' i q) : ∀ p i q, i < m → q < m → sPt D m p i q = sPt D' m p i q
  | 0, i, q, hi, hq => h i q hi hq
  | p + 1, i, q, hi, hq => by
    show (sPt D m p i q || (List.range m).any (fun j => sPt D m p i j && D j q)) = (sPt D' m p i q || (List.range m).any (fun j => sPt D' m p i j && D' j q))
    rw [sPt_ext h p i q hi hq]
    congr 1
    apply Bool.eq_iff_iff.mpr
    simp only [List.any_eq_true, List.mem_range, Bool.and_eq_true]
    constructor
    · rintro ⟨j, h1, h2, h3⟩; exact ⟨j, h1, by rw [← sPt_ext h p i j hi h1]; exact h2, by rw [← h j q h1 hq]; exact h3⟩
    · rintro ⟨j, h1, h2, h3⟩; exact ⟨j, h1, by rw [sPt_ext h p i j hi h1]; exact h2, by rw [h j q h1 hq]; exact h3⟩
theorem fstI_ext {f g : Nat → Bool} : ∀ n i, (∀ k, i ≤ k → k < i + n → f k = g k) → fstI f n i = fstI g n i
  | 0, _, _ => rfl
  | n + 1, i, h => by
    show (if f i = true then some i else fstI f n (i + 1)) = (if g i = true then some i else fstI g n (i + 1))
    rw [h i (Nat.le_refl _) (by omega), fstI_ext n (i + 1) (fun k h1 h2 => h k (by omega) (by omega))]
theorem fstI_n {f : Nat → Bool} : ∀ n i, fstI f n i = none → ∀ k, i ≤ k → k < i + n → f k = false
  | 0, _, _, k, h1, h2 => by omega
  | n + 1, i, h, k, h1, h2 => by
    have e : fstI f (n + 1) i = if f i = true then some i else fstI f n (i + 1) := rfl
    rw [e] at h
    by_cases q : f i = true
    · rw [if_pos q] at h; cases h
    · rw [if_neg q] at h
      by_cases z : k = i
      · subst z; simpa using q
      · exact fstI_n n (i + 1) h k (by omega) (by omega)
theorem fstI_s {f : Nat → Bool} : ∀ n i k, fstI f n i = some k → i ≤ k ∧ k < i + n
  | 0, _, _, h => by cases h
  | n + 1, i, k, h => by
    have e : fstI f (n + 1) i = if f i = true then some i else fstI f n (i + 1) := rfl
    rw [e] at h
    by_cases q : f i = true
    · rw [if_pos q] at h; cases h; omega
    · rw [if_neg q] at h
      have := fstI_s n (i + 1) k h
      omega
theorem yOs_65 {y : Nat} (h : yOs (65, y)) : y < 26 := by
  rcases h with ⟨h, -⟩ | ⟨-, h⟩ | ⟨h, -⟩ | ⟨-, ⟨op, h⟩ | ⟨op, h⟩⟩
  · have h' : (65 : Nat) = 48 := h
    omega
  · exact h
  · have h' : (65 : Nat) = 102 := h
    omega
  · have h' : yOp 65 = some op := h
    rw [show yOp 65 = none from rfl] at h'
    cases h'
  · have h' : yCm 65 = some op := h
    rw [show yCm 65 = none from rfl] at h'
    cases h'
/-- what formulas are worth, each by itself -/
def vOk (fs : List FE) (ds : List yL) (vv : Nat → FA → LE → Int64) : Prop := ∀ k t c, fs[k]? = some t → ds[k]? = some c →
  (∀ F K q, yEv F K t.2.2 q = some (vv k F K :: q)) ∧
  (∀ (L : yL) (e : Nat), dsO ds k + c.length ≤ e → ySg L (dsO ds k) c → ∀ F K q fu, ∃ fu', fu ≤ fu' ∧ yRx F K L e (fu + c.length) (dsO ds k) q = yRx F K L e fu' (dsO ds k + c.length) (vv k F K :: q))
theorem vOk_ex (fs : List FE) (ds : List yL) (h : ∀ k t c, fs[k]? = some t → ds[k]? = some c → yCp (dsO ds k) c t.2.2) : ∃ vv, vOk fs ds vv := by
  have : ∀ k, ∃ v : FA → LE → Int64, ∀ t c, fs[k]? = some t → ds[k]? = some c → (∀ F K q, yEv F K t.2.2 q = some (v F K :: q)) ∧ (∀ (L : yL) (e : Nat), dsO ds k + c.length ≤ e → ySg L (dsO ds k) c → ∀ F K q fu, ∃ fu', fu ≤ fu' ∧ yRx F K L e (fu + c.length) (dsO ds k) q = yRx F K L e fu' (dsO ds k + c.length) (v F K :: q)) := by
    intro k
    cases h1 : fs[k]? with
    | none => exact ⟨fun _ _ => 0, fun t c e => by cases e⟩
    | some t =>
      cases h2 : ds[k]? with
      | none => exact ⟨fun _ _ => 0, fun t c _ e => by cases e⟩
      | some c =>
        obtain ⟨⟨v, v1, v2⟩, -⟩ := h k t c h1 h2
        refine ⟨v, fun t' c' e1 e2 => ?_⟩
        cases e1
        cases e2
        exact ⟨v1, v2⟩
  obtain ⟨vv, hv⟩ := Classical.axiomOfChoice this
  exact ⟨vv, fun k t c h1 h2 => hv k t c h1 h2⟩
theorem vOk_d {fs : List FE} {ds : List yL} {vv : Nat → FA → LE → Int64} (hv : vOk fs ds vv) {k : Nat} {t : FE} {c : yL} (hk : fs[k]? = some t) (hc : ds[k]? = some c) (hos : ∀ u ∈ t.2.2, yOs u) {F F' : FA} {K K' : LE} (hF : ∀ i, i < 10 → F i = F' i) (hK : ∀ y, (65, y) ∈ t.2.2 → K y = K' y) : vv k F K = vv k F' K' := by
  have h1 := (hv k t c hk hc).1 F K []
  have h2 := (hv k t c hk hc).1 F' K' []
  rw [yEv_d hF t.2.2 [] hos hK, h2] at h1
  exact (List.cons.inj (Option.some.inj h1)).1.symm
/-! the class' letters -/
section
variable {s z : Nat}
theorem cM.frE {M M' : SM} {fs : List FE} (h : cM M s fs) (hs : 15 ≤ s) (o : ∀ c i, ¬ (c = 12 ∧ i = 8) → M'.1 c i = M.1 c i) : cM M' s fs := ⟨⟨by rw [o s 2 (by omega)]; exact h.1.1, fun i t hi => by rw [o (s + 1) i (by omega), o (s + 2) i (by omega)]; exact h.1.2 i t hi⟩, by rw [o s 3 (by omega)]; exact h.2.1, fun k t hk => by rw [o (s + 3) k (by omega), o (s + 4) k (by omega), o (s + 5) k (by omega), o (s + 6) k (by omega)]; exact h.2.2 k t hk⟩
/-- a sheet that was read and put in order -/
def cD (M : SM) (s : Nat) (fs : List FE) (P : List Nat) : Prop := stA M s (fsS fs) ∧ M.1 s 3 = nI fs.length ∧ (∀ k t, fs[k]? = some t → M.1 (s + 3) k = nI t.1 ∧ M.1 (s + 5) k = nI (fsS (fs.take (k + 1))).length) ∧ rwL M (s + 7) P
theorem reckon_d (hK : shK s z) {fs : List FE} {P : List Nat} {M : SM} (hm : cD M s fs P) (h10 : fs.length ≤ 10) (hz : (fsS fs).length ≤ z) (hos : ∀ t ∈ fsS fs, yOs t) {k : Nat} {t : FE} (hk : fs[k]? = some t) {v : FA → LE → Int64} (hv : ∀ F K q, yEv F K t.2.2 q = some (v F K :: q)) :
    ∃ M' : SM, qpr_reckon s (nI k) M = some (v (M.2 175) (M.2 176), M') ∧ oE M M' := by
  have hs := hK.1
  have hz2 := hK.2.2.1
  obtain ⟨-, -, -, -, -, -, -, -, -, r0, r1, r4, r5, r6, r7, r8⟩ := id hK
  have hkl : k < fs.length := by
    by_cases q : k < fs.length
    · exact q
    · rw [List.getElem?_eq_none (by omega)] at hk; cases hk
  obtain ⟨-, e5⟩ := hm.2.2.1 k t hk
  have etk : fs.take (k + 1) = fs.take k ++ [t] := by rw [List.take_succ, hk]; rfl
  have el : (fsS (fs.take (k + 1))).length = (fsS (fs.take k)).length + t.2.2.length := by rw [etk, fsS_app, fsS_1, List.length_append]
  have eall : fsS fs = fsS (fs.take k) ++ (t.2.2 ++ fsS (fs.drop (k + 1))) := by
    have e1 : fs = fs.take (k + 1) ++ fs.drop (k + 1) := (List.take_append_drop (k + 1) fs).symm
    conv => lhs; rw [e1, fsS_app, etk, fsS_app, fsS_1]
    rw [List.append_assoc]
  have hle : (fsS (fs.take k)).length + t.2.2.length ≤ (fsS fs).length := by rw [eall, List.length_append, List.length_append]; omega
  have hsg : ySg (fsS fs) (fsS (fs.take k)).length t.2.2 := fun i hi => by
    rw [eall, List.getElem?_append_right (by omega), List.getElem?_append_left (by omega)]
    congr 1
    omega
  have o1 : oE M (wI M 12 8 (0 : Int32)) := ⟨fun c i q => by rw [wI_1, if_neg q], fun _ _ => rfl⟩
  have hst : qsh_startOf s (nI k) (wI M 12 8 (0 : Int32)) = some (nI (fsS (fs.take k)).length, wI M 12 8 (0 : Int32)) := by
    unfold qsh_startOf
    have e3 : (wI M 12 8 (0 : Int32)).1 s 3 = nI fs.length := by rw [o1.1 s 3 (by omega)]; exact hm.2.1
    cases k with
    | zero =>
      rw [ckb hK.kc]
      have : qsh_has s (nI 0 - (1 : Int32)) (wI M 12 8 (0 : Int32)) = some (0, wI M 12 8 (0 : Int32)) := by
        unfold qsh_has
        rw [if_pos (by decide)]
      rw [this, ob_s, if_pos rfl]
      rfl
    | succ k =>
      obtain ⟨t', ht'⟩ : ∃ t', fs[k]? = some t' := ⟨fs[k]'(by omega), List.getElem?_eq_getElem (by omega)⟩
      obtain ⟨-, e5'⟩ := hm.2.2.1 k t' ht'
      rw [ckb hK.kc, nI_m1 (by omega), Nat.add_sub_cancel, sh_has_g hK e3 h10 (by omega), ob_s, if_neg (by decide), ckb (and_i (and_i hK.kc (decide_eq_true r6)) (and_i (hK.ar (by omega) (by omega) (by omega)) rfl)), nI_cl (by omega), o1.1 (s + 5) k (by omega), e5']
  have hen : qsh_endOf s (nI k) M = some (nI ((fsS (fs.take k)).length + t.2.2.length), M) := by
    unfold qsh_endOf
    rw [ckb hK.kc, sh_has_g hK hm.2.1 h10 hkl, ob_s, if_neg (by decide), ckb (and_i (and_i hK.kc (decide_eq_true r6)) (and_i (hK.ar (by omega) (by omega) (by omega)) rfl)), nI_cl (by omega), e5, el]
  obtain ⟨M1, x1, x2, x3⟩ := reckon_L18 hK (K := fun M21 => ob (qpr_pop M21) (fun r22 M23 => some (r22, M23))) hz hos t.2.2 FU (fsS (fs.take k)).length (wI M 12 8 (0 : Int32)) [] [v (M.2 175) (M.2 176)] (by unfold FU; omega) hsg hle (hm.1.frE hs o1) ⟨by rw [wI_1, if_pos ⟨rfl, rfl⟩]; rfl, fun u t v e => by cases u <;> cases e⟩ (by show 0 + _ ≤ 200; omega) rfl rfl (hv _ _ [])
  obtain ⟨M2, y1, y2, y3⟩ := pop_g x2 (by simp)
  refine ⟨M2, ?_, (o1.tr x3).tr y3⟩
  unfold qpr_reckon
  rw [ckb hK.kc, hen, ob_s, ckb hK.kc, hst, ob_s]
  refine x1.trans ?_
  rw [y1, ob_s]
theorem cD.fr {M M' : SM} {fs : List FE} {P : List Nat} (h : cD M s fs P) (hs : 15 ≤ s) (o : ∀ c i, ¬ (c = 12 ∧ i = 8) → M'.1 c i = M.1 c i) : cD M' s fs P := ⟨⟨by rw [o s 2 (by omega)]; exact h.1.1, fun i t hi => by rw [o (s + 1) i (by omega), o (s + 2) i (by omega)]; exact h.1.2 i t hi⟩, by rw [o s 3 (by omega)]; exact h.2.1, fun k t hk => by rw [o (s + 3) k (by omega), o (s + 5) k (by omega)]; exact h.2.2.1 k t hk, fun k t hk => by rw [o (s + 7) k (by omega)]; exact h.2.2.2 k t hk⟩
theorem ltr_26 {fs : List FE} (h : ∀ t ∈ fs, t.1 < 26) {k : Nat} (hk : k < fs.length) : ltr fs k < 26 := by
  rw [ltr_e (List.getElem?_eq_getElem hk)]
  exact h _ (List.getElem_mem hk)
theorem letters_L31 (hK : shK s z) {fs : List FE} {ds : List yL} {vv : Nat → FA → LE → Int64} (hv : vOk fs ds vv) (hds : ds.length = fs.length) (h10 : fs.length ≤ 10) (h26 : ∀ t ∈ fs, t.1 < 26) (hz : (fsS fs).length ≤ z) (hos : ∀ t ∈ fsS fs, yOs t) {P : List Nat} (hP : P.length = fs.length) (hPm : ∀ k ∈ P, k < fs.length) {F : FA} : ∀ (t : List Nat) (done : List Nat) (fu : Nat) (M : SM), t.length < fu → P = done ++ t → cD M s fs P → M.2 175 = F →
    ∃ M' : SM, qpr_reckonLetters_L31 fu s (nI done.length) M = some ((), M') ∧ M'.2 176 = evO (ltr fs) (fun k K => vv k F K) t (M.2 176) ∧ (∀ c i, ¬ (c = 12 ∧ i = 8) → M'.1 c i = M.1 c i) ∧ ∀ c, c ≠ 176 → c ≠ 178 → M'.2 c = M.2 c := by
  have hs := hK.1
  obtain ⟨-, -, -, -, -, -, -, -, -, r0, r1, r4, r5, r6, r7, r8⟩ := id hK
  intro t
  induction t with
  | nil =>
    intro done fu M hf hPd hm hF
    obtain ⟨fu, rfl⟩ : ∃ y, fu = y + 1 := ⟨fu - 1, by omega⟩
    rw [List.append_nil] at hPd
    refine ⟨M, ?_, rfl, fun _ _ _ => rfl, fun _ _ _ => rfl⟩
    unfold qpr_reckonLetters_L31
    rw [ckb (and_i hK.kc rfl), hm.2.1, if_neg (nI_nlt (by rw [← hPd]; omega) (by rw [← hPd]; omega))]
  | cons k t ih =>
    intro done fu M hf hPd hm hF
    obtain ⟨fu, rfl⟩ : ∃ y, fu = y + 1 := ⟨fu - 1, by omega⟩
    have hlen : P.length = done.length + (t.length + 1) := by rw [hPd, List.length_append, List.length_cons]
    have hkm : k < fs.length := hPm k (by rw [hPd]; simp)
    have hPk : P[done.length]? = some k := by rw [hPd, List.getElem?_append_right (Nat.le_refl _), Nat.sub_self]; rfl
    obtain ⟨u, hu⟩ : ∃ u, fs[k]? = some u := ⟨fs[k], List.getElem?_eq_getElem hkm⟩
    obtain ⟨c, hc⟩ : ∃ c, ds[k]? = some c := ⟨ds[k]'(by omega), List.getElem?_eq_getElem (by omega)⟩
    have hx26 := ltr_26 h26 hkm
    have hin : qsh_inOrder s (nI done.length) M = some (nI k, M) := by
      unfold qsh_inOrder
      rw [ckb hK.kc, sh_has_g hK hm.2.1 h10 (by omega), ob_s, if_neg (by decide), ckb (and_i (and_i hK.kc (decide_eq_true r8)) (and_i (hK.ar (by omega) (by omega) (by omega)) rfl)), nI_cl (by omega), hm.2.2.2 _ k hPk]
    obtain ⟨e3, -⟩ := hm.2.2.1 k u hu
    obtain ⟨M1, x1, x2⟩ := reckon_d hK hm h10 hz hos hu (v := vv k) (hv k u c hu hc).1
    have hm1 := hm.fr hs x2.1
    have hm2 : cD (wL M1 176 (ltr fs k) (vv k (M.2 175) (M.2 176))) s fs P := hm1
    obtain ⟨M', g1, g2, g3, g4⟩ := ih (done ++ [k]) fu (wL M1 176 (ltr fs k) (vv k (M.2 175) (M.2 176))) (by rw [List.length_cons] at hf; omega) (by rw [hPd, List.append_assoc]; rfl) hm2 (by
      funext j
      rw [wL_2, if_neg (by omega), x2.2 175 (by omega), hF])
    refine ⟨M', ?_, ?_, fun c i q => (g3 c i q).trans (x2.1 c i q), fun c q1 q2 => ?_⟩
    · unfold qpr_reckonLetters_L31
      rw [ckb (and_i hK.kc rfl), hm.2.1, if_pos ((nI_ltI (by omega) (by omega)).mpr (by omega)), ckb hK.kc, hin, ob_s, ckb hK.kc, letterOf_g hK hm.2.1 h10 hkm, ob_s, x1, ob_s, e3, ← ltr_e hu, if_neg (nI_lt0 (by omega)), if_pos (nl_26 hx26), ck_ib (by omega) (by omega), ck_t, nI_cl (by omega), nI_1]
      rw [List.length_append, List.length_singleton] at g1
      exact g1
    · rw [g2]
      show _ = evO (ltr fs) (fun k K => vv k F K) t (fun y => if y = ltr fs k then vv k F (M.2 176) else M.2 176 y)
      congr 1
      funext y
      rw [wL_2, hF]
      by_cases q : y = ltr fs k
      · rw [if_pos ⟨rfl, q⟩, if_pos q]
      · rw [if_neg (fun z => q z.2), if_neg q, x2.2 176 (by omega)]
    · rw [g4 c q1 q2]
      funext j
      rw [wL_2, if_neg (fun z => q1 z.1), x2.2 c q2]
theorem CLs_new (hK : shK s z) {fs : List FE} {ds : List yL} {vv : Nat → FA → LE → Int64} (hv : vOk fs ds vv) (hds : ds.length = fs.length) (h10 : fs.length ≤ 10) (h26 : ∀ t ∈ fs, t.1 < 26) (hz : (fsS fs).length ≤ z) (hos : ∀ t ∈ fsS fs, yOs t) (hos2 : ∀ t ∈ fs, ∀ u ∈ t.2.2, yOs u) {P : List Nat} (hP : P.length = fs.length) (hPm : ∀ k ∈ P, k < fs.length) {M : SM} (hm : cD M s fs P) : CLs M s (fun F => evO (ltr fs) (fun k K => vv k F K) P (fun _ => 0)) := by
  have hs := hK.1
  intro M' hM'
  have hm' : cD M' s fs P := ⟨⟨by rw [hM' s 2 (by omega) (by omega)]; exact hm.1.1, fun i t hi => by rw [hM' (s + 1) i (by omega) (by omega), hM' (s + 2) i (by omega) (by omega)]; exact hm.1.2 i t hi⟩, by rw [hM' s 3 (by omega) (by omega)]; exact hm.2.1, fun k t hk => by rw [hM' (s + 3) k (by omega) (by omega), hM' (s + 5) k (by omega) (by omega)]; exact hm.2.2.1 k t hk, fun k t hk => by rw [hM' (s + 7) k (by omega) (by omega)]; exact hm.2.2.2 k t hk⟩
  obtain ⟨M1, f1, f2, f3⟩ := rl_L2_g (K := fun y1_3 M4 => om y1_3 (some ((), M4)) (fun s5 => qpr_reckonLetters_L31 FU s5 (0 : Int32) M4)) (some s) FU 0 M' (by unfold FU; omega) (by omega)
  have hm1 : cD M1 s fs P := hm'.fr hs (fun c i _ => by rw [f2.1])
  obtain ⟨M2, g1, g2, g3, g4⟩ := letters_L31 hK hv hds h10 h26 hz hos hP hPm (F := M'.2 175) P [] FU M1 (by unfold FU; omega) rfl hm1 (f2.2 175 (by omega))
  refine ⟨M2, ?_, fun x hx => ?_, fun c i q => by rw [g3 c i q, f2.1], fun c q1 q2 => by rw [g4 c q1 q2, f2.2 c q1]⟩
  · have f1' : qpr_reckonLetters_L2 (fun y1_3 M4 => om y1_3 (some ((), M4)) (fun s5 => qpr_reckonLetters_L31 FU s5 (0 : Int32) M4)) FU (some s) (nI 0) M' = om (some s) (some ((), M1)) (fun s5 => qpr_reckonLetters_L31 FU s5 (0 : Int32) M1) := f1
    rw [om_s] at f1'
    unfold qpr_reckonLetters
    refine Eq.trans f1' ?_
    exact g1
  · rw [g2]
    refine evO_c P _ _ (fun k hk L L' hL => ?_) (fun y hy => by rw [f3, if_pos ⟨by omega, hy⟩]) x hx
    have hkm := hPm k hk
    have hu : fs[k]? = some fs[k] := List.getElem?_eq_getElem hkm
    have hc : ds[k]? = some (ds[k]'(by omega)) := List.getElem?_eq_getElem (by omega)
    have hmem := List.getElem_mem hkm
    refine vOk_d hv hu hc (hos2 _ hmem) (fun _ _ => rfl) (fun y hy => hL y ?_)
    exact yOs_65 (hos2 _ hmem _ hy)
end
/-! the reference's letters -/
/-- a list that was read and put in order -/
def mD (M : SM) (L : Nat) (fs : List FE) (ds : List yL) (P : List Nat) : Prop := M.1 297 L = nI fs.length ∧ (∀ j t, ds.flatten[j]? = some t → M.1 296 (220 * L + j) = eU t) ∧ rw3 M L (ltr fs) (dsO ds) P
theorem worths_L23 {fs : List FE} {ds : List yL} {vv : Nat → FA → LE → Int64} (hv : vOk fs ds vv) (hds : ds.length = fs.length) (h10 : fs.length ≤ 10) (h26 : ∀ t ∈ fs, t.1 < 26) {bd : Nat} (hbd : bd ≤ 1000) (hoc : ∀ t ∈ ds.flatten, yOc bd t) (h200 : ds.flatten.length ≤ 200) {L : Nat} (hL : L < 10) {P : List Nat} (hP : P.length = fs.length) (hPm : ∀ k ∈ P, k < fs.length) {F : FA} : ∀ (t : List Nat) (done : List Nat) (fu : Nat) (M : SM), t.length < fu → P = done ++ t → mD M L fs ds P → M.2 307 = F →
    ∃ M' : SM, qmd_worths_L23 fu (nI L) (nI done.length) M = some ((), M') ∧ M'.2 308 = evO (ltr fs) (fun k K => vv k F K) t (M.2 308) ∧ M'.1 = M.1 ∧ ∀ c, c ≠ 308 → c ≠ 309 → M'.2 c = M.2 c := by
  intro t
  induction t with
  | nil =>
    intro done fu M hf hPd hm hF
    obtain ⟨fu, rfl⟩ : ∃ y, fu = y + 1 := ⟨fu - 1, by omega⟩
    rw [List.append_nil] at hPd
    refine ⟨M, ?_, rfl, rfl, fun _ _ _ => rfl⟩
    unfold qmd_worths_L23
    rw [if_neg (nI_ne_m1 (by omega)), ck_ib (by omega) (by omega), ck_t, nI_cl (by omega), hm.1, if_neg (nI_nlt (by rw [← hPd]; omega) (by rw [← hPd]; omega))]
  | cons k t ih =>
    intro done fu M hf hPd hm hF
    obtain ⟨fu, rfl⟩ : ∃ y, fu = y + 1 := ⟨fu - 1, by omega⟩
    have hlen : P.length = done.length + (t.length + 1) := by rw [hPd, List.length_append, List.length_cons]
    have hkm : k < fs.length := hPm k (by rw [hPd]; simp)
    have hPk : P[done.length]? = some k := by rw [hPd, List.getElem?_append_right (Nat.le_refl _), Nat.sub_self]; rfl
    obtain ⟨u, hu⟩ : ∃ u, fs[k]? = some u := ⟨fs[k], List.getElem?_eq_getElem hkm⟩
    obtain ⟨c, hc⟩ : ∃ c, ds[k]? = some c := ⟨ds[k]'(by omega), List.getElem?_eq_getElem (by omega)⟩
    have hx26 := ltr_26 h26 hkm
    obtain ⟨w1, w2, w3⟩ := hm.2.2 _ k hPk
    have hse := dsO_s hc
    have hle := dsO_le (ds := ds) (k + 1)
    have hZ : Z0 296 = 2200 ∧ K0 296 = 20 := by decide +kernel
    obtain ⟨M1, x1, x2, x3⟩ := worthOf_v (row := 296) (base := 220 * L) (b := dsO ds k) (bd := bd) (code := c) (st := c) (L := ds.flatten) hZ.2 (by omega) (by rw [hZ.1]; omega) (by rw [hZ.1]; omega) hbd hoc (dsO_seg hc) (by omega) (v := vv k) (hv k u c hu hc).2 (M := M) (fun i t _ hi => hm.2.1 i t hi)
    have e298 : ∀ i, M1.1 298 i = M.1 298 i := fun i => by rw [x2]
    have hm2 : mD (wL M1 308 (ltr fs k) (vv k (M.2 307) (M.2 308))) L fs ds P := by
      unfold mD rw3
      show (M1.1 297 L = _ ∧ (∀ j t, _ → M1.1 296 _ = _) ∧ ∀ k t, _ → M1.1 298 _ = _ ∧ M1.1 299 _ = _ ∧ M1.1 300 _ = _)
      rw [x2]; exact hm
    obtain ⟨M', g1, g2, g3, g4⟩ := ih (done ++ [k]) fu (wL M1 308 (ltr fs k) (vv k (M.2 307) (M.2 308))) (by rw [List.length_cons] at hf; omega) (by rw [hPd, List.append_assoc]; rfl) hm2 (by
      funext j
      rw [wL_2, if_neg (by omega), x3 307 (by omega), hF])
    refine ⟨M', ?_, ?_, g3.trans x2, fun c q1 q2 => ?_⟩
    · unfold qmd_worths_L23
      rw [if_neg (nI_ne_m1 (by omega)), ck_ib (by omega) (by omega), ck_t, nI_cl (by omega), hm.1, if_pos ((nI_ltI (by omega) (by omega)).mpr (by omega)), show (10 : Int32) = nI 10 from rfl, nI_mul, nI_add, ck_ib (by omega) (by omega), ck_ib (by omega) (by omega), ck_ib (by omega) (by omega), ck_t, nI_cl (by omega), w1, w2, w3, hse, show (220 : Int32) = nI 220 from rfl, nI_mul, x1, ob_s, ck_ib (by omega) (by omega), ck_t, nI_cl (by omega), nI_1]
      rw [List.length_append, List.length_singleton] at g1
      exact g1
    · rw [g2]
      show _ = evO (ltr fs) (fun k K => vv k F K) t (fun y => if y = ltr fs k then vv k F (M.2 308) else M.2 308 y)
      congr 1
      funext y
      rw [wL_2, hF]
      by_cases q : y = ltr fs k
      · rw [if_pos ⟨rfl, q⟩, if_pos q]
      · rw [if_neg (fun z => q z.2), if_neg q, x3 308 (by omega)]
    · rw [g4 c q1 q2]
      funext j
      rw [wL_2, if_neg (fun z => q1 z.1), x3 c q2]
theorem MLs_new {fs : List FE} {ds : List yL} {vv : Nat → FA → LE → Int64} (hv : vOk fs ds vv) (hds : ds.length = fs.length) (h10 : fs.length ≤ 10) (h26 : ∀ t ∈ fs, t.1 < 26) (hos2 : ∀ t ∈ fs, ∀ u ∈ t.2.2, yOs u) {bd : Nat} (hbd : bd ≤ 1000) (hoc : ∀ t ∈ ds.flatten, yOc bd t) (h200 : ds.flatten.length ≤ 200) {L : Nat} (hL : L < 10) {P : List Nat} (hP : P.length = fs.length) (hPm : ∀ k ∈ P, k < fs.length) {M : SM} (hm : mD M L fs ds P) : MLs M L (fun F => evO (ltr fs) (fun k K => vv k F K) P (fun _ => 0)) := by
  intro M' hM'
  have hm' : mD M' L fs ds P := by
    refine ⟨by rw [hM' 297 L (by unfold rLs; omega)]; exact hm.1, fun j t hj => ?_, fun k t hk => ?_⟩
    · have : j < ds.flatten.length := by
        by_cases q : j < ds.flatten.length
        · exact q
        · rw [List.getElem?_eq_none (by omega)] at hj; cases hj
      rw [hM' 296 _ (by unfold rLs; omega)]; exact hm.2.1 j t hj
    · have : k < P.length := by
        by_cases q : k < P.length
        · exact q
        · rw [List.getElem?_eq_none (by omega)] at hk; cases hk
      rw [hM' 298 _ (by unfold rLs; omega), hM' 299 _ (by unfold rLs; omega), hM' 300 _ (by unfold rLs; omega)]
      exact hm.2.2 k t hk
  obtain ⟨M1, f1, f2, f3⟩ := mw_L2_g (K := fun y1_3 M4 => qmd_worths_L23 FU y1_3 (0 : Int32) M4) (nI L) FU 0 M' (by unfold FU; omega) (by omega)
  have hm1 : mD M1 L fs ds P := by unfold mD rw3; rw [f2.1]; exact hm'
  obtain ⟨M2, g1, g2, g3, g4⟩ := worths_L23 hv hds h10 h26 hbd hoc h200 hL hP hPm (F := M'.2 307) P [] FU M1 (by unfold FU; omega) rfl hm1 (f2.2 307 (by omega))
  refine ⟨M2, ?_, fun x hx => ?_, g3.trans f2.1, fun c q1 q2 => by rw [g4 c q1 q2, f2.2 c q1]⟩
  · unfold qmd_worths
    refine Eq.trans f1 ?_
    exact g1
  · rw [g2]
    refine evO_c P _ _ (fun k hk L L' hL => ?_) (fun y hy => by rw [f3, if_pos ⟨by omega, hy⟩]) x hx
    have hkm := hPm k hk
    have hu : fs[k]? = some fs[k] := List.getElem?_eq_getElem hkm
    have hc : ds[k]? = some (ds[k]'(by omega)) := List.getElem?_eq_getElem (by omega)
    have hmem := List.getElem_mem hkm
    refine vOk_d hv hu hc (hos2 _ hmem) (fun _ _ => rfl) (fun y hy => hL y ?_)
    exact yOs_65 (hos2 _ hmem _ hy)
