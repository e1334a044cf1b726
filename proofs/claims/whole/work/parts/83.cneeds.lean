/-! needs, rings and order in the class -/
def ltr (fs : List FE) (i : Nat) : Nat := match fs[i]? with
  | some t => t.1
  | none => 0
theorem ltr_e {fs : List FE} {i : Nat} {t : FE} (h : fs[i]? = some t) : ltr fs i = t.1 := by unfold ltr; rw [h]
def fstI (f : Nat → Bool) : Nat → Nat → Option Nat
  | 0, _ => none
  | n + 1, i => if f i = true then some i else fstI f n (i + 1)
def btM (M : SM) (c : Nat) : BB := fun i x => bt (M.1 c i) x
theorem btM_or {M : SM} {c i j : Nat} : btM (wI M c i (M.1 c i ||| M.1 c j)) c = fun a x => if a = i then (btM M c i x || btM M c j x) else btM M c a x := by
  funext a x
  unfold btM
  rw [wI_1]
  by_cases q : a = i
  · rw [if_pos ⟨rfl, q⟩, if_pos q, b_or]
  · rw [if_neg (fun z => q z.2), if_neg q]
/-- the fixed half of a sheet that was read -/
def cN (M : SM) (s m : Nat) (l : Nat → Nat) : Prop := M.1 s 3 = nI m ∧ m ≤ 10 ∧ ∀ i, i < m → M.1 (s + 3) i = nI (l i) ∧ l i < 26
section
variable {s z m : Nat} {l : Nat → Nat}
theorem cN.fr {M M' : SM} (h : cN M s m l) (o : Ou (fun c _ => c = s + 6 ∨ c = s + 7) M M') : cN M' s m l := ⟨by rw [o.1 s 3 (by omega)]; exact h.1, h.2.1, fun i hi => by rw [o.1 (s + 3) i (by omega)]; exact h.2.2 i hi⟩
theorem doesNeed_g (hK : shK s z) {M : SM} (h : cN M s m l) {i j : Nat} (hi : i < m) (hj : j < m) : qsh_doesNeed s (nI i) (nI (l j)) M = some (if btM M (s + 6) i (l j) = true then 1 else 0, M) := by
  obtain ⟨-, -, -, -, -, -, -, -, -, r0, r1, r4, r5, r6, r7, r8⟩ := id hK
  have h10 := h.2.1
  have hl := (h.2.2 j hj).2
  unfold qsh_doesNeed
  rw [ckb hK.kc, sh_has_g hK h.1 h10 hi, ob_s, if_neg (by decide), ckb (and_i (and_i hK.kc (decide_eq_true r7)) (and_i (hK.ar (by omega) (by omega) (by omega)) rfl)), nI_cl (by omega), bitc _ (by omega)]
  show (if (if btM M (s + 6) i (l j) = true then (1 : Int32) else 0) = 0 then _ else _) = _
  by_cases q : btM M (s + 6) i (l j) = true
  · rw [if_pos q, if_neg (by decide)]
  · rw [if_neg q, if_pos rfl]
theorem fN_L28 (hK : shK s z) {K : Nat → Int32 → Int32 → SM → Option (Unit × SM)} (x1 : Int32) {i : Nat} (hi : i < m) : ∀ (k fu j : Nat) (M : SM), m - j = k → k < fu → j ≤ m → cN M s m l →
    ∃ M' : SM, qsh_followNeeds_L28 K fu s x1 (nI i) (nI j) M = K s x1 (nI i) M' ∧ Ou (fun c _ => c = s + 6) M M' ∧ btM M' (s + 6) = nKJ l i k j (btM M (s + 6)) := by
  obtain ⟨-, -, -, -, -, -, -, -, -, r0, r1, r4, r5, r6, r7, r8⟩ := id hK
  intro k
  induction k with
  | zero =>
    intro fu j M e hf hj h
    obtain ⟨fu, rfl⟩ : ∃ y, fu = y + 1 := ⟨fu - 1, by omega⟩
    have h10 := h.2.1
    refine ⟨M, ?_, Ou.rf _ _, rfl⟩
    unfold qsh_followNeeds_L28
    rw [ckb (and_i hK.kc rfl), h.1, if_neg (nI_nlt (by omega) (by omega))]
  | succ k ih =>
    intro fu j M e hf hj h
    obtain ⟨fu, rfl⟩ : ∃ y, fu = y + 1 := ⟨fu - 1, by omega⟩
    have h10 := h.2.1
    obtain ⟨l1, l2⟩ := h.2.2 j (by omega)
    unfold qsh_followNeeds_L28
    rw [ckb (and_i hK.kc rfl), h.1, if_pos ((nI_ltI (by omega) (by omega)).mpr (show j < m by omega)), if_pos (nl_10 (by omega)), ckb (and_i (and_i hK.kc (decide_eq_true r4)) (and_i (hK.ar (by omega) (by omega) (by omega)) rfl)), ckb hK.kc, nI_cl (by omega), l1, doesNeed_g hK h hi (by omega), ob_s, nI_1]
    by_cases q : btM M (s + 6) i (l j) = true
    · rw [if_pos q, if_neg (by decide), ckb (and_i (and_i hK.kc (decide_eq_true r7)) (and_i (hK.ar (by omega) (by omega) (by omega)) (and_i (and_i hK.kc (decide_eq_true r7)) (and_i (hK.ar (by omega) (by omega) (by omega)) (and_i (hK.ar (by omega) (by omega) (by omega)) rfl))))), nI_cl (by omega)]
      have o1 : Ou (fun c _ => c = s + 6) M (wI M (s + 6) i (M.1 (s + 6) i ||| M.1 (s + 6) j)) := (Ou.rf _ _).wI rfl
      obtain ⟨M', g1, g2, g3⟩ := ih fu (j + 1) (wI M (s + 6) i (M.1 (s + 6) i ||| M.1 (s + 6) j)) (by omega) (by omega) (by omega) (h.fr (o1.mono (fun c i z => by omega)))
      refine ⟨M', g1, o1.tr g2, ?_⟩
      rw [g3]
      show _ = nKJ l i k (j + 1) (nK1 l (btM M (s + 6)) i j)
      congr 1
      rw [btM_or]
      funext a x
      unfold nK1
      by_cases z : a = i
      · rw [if_pos z, if_pos ⟨z, q⟩]
      · rw [if_neg z, if_neg (fun y => z y.1)]
    · rw [if_neg q, if_pos rfl]
      obtain ⟨M', g1, g2, g3⟩ := ih fu (j + 1) M (by omega) (by omega) (by omega) h
      refine ⟨M', g1, g2, ?_⟩
      rw [g3]
      show _ = nKJ l i k (j + 1) (nK1 l (btM M (s + 6)) i j)
      congr 1
      funext a x
      unfold nK1
      rw [if_neg (fun y => q y.2)]
theorem fN_L12 (hK : shK s z) {K : Nat → Int32 → SM → Option (Unit × SM)} (x1 : Int32) : ∀ (k fu i : Nat) (M : SM), m - i = k → k < fu → i ≤ m → cN M s m l →
    ∃ M' : SM, qsh_followNeeds_L12 K fu s x1 (nI i) M = K s x1 M' ∧ Ou (fun c _ => c = s + 6) M M' ∧ btM M' (s + 6) = nKI l m k i (btM M (s + 6)) := by
  intro k
  induction k with
  | zero =>
    intro fu i M e hf hj h
    obtain ⟨fu, rfl⟩ : ∃ y, fu = y + 1 := ⟨fu - 1, by omega⟩
    have h10 := h.2.1
    refine ⟨M, ?_, Ou.rf _ _, rfl⟩
    unfold qsh_followNeeds_L12
    rw [ckb (and_i hK.kc rfl), h.1, if_neg (nI_nlt (by omega) (by omega))]
  | succ k ih =>
    intro fu i M e hf hj h
    obtain ⟨fu, rfl⟩ : ∃ y, fu = y + 1 := ⟨fu - 1, by omega⟩
    have h10 := h.2.1
    unfold qsh_followNeeds_L12
    rw [ckb (and_i hK.kc rfl), h.1, if_pos ((nI_ltI (by omega) (by omega)).mpr (show i < m by omega)), if_pos (nl_10 (by omega))]
    obtain ⟨M1, f1, f2, f3⟩ := fN_L28 hK (K := fun y0_13 y1_14 y2_15 M16 => qsh_followNeeds_L12 K fu y0_13 y1_14 (y2_15 + (1 : Int32)) M16) x1 (i := i) (by omega) m FU 0 M (by omega) (by unfold FU; omega) (by omega) h
    obtain ⟨M', g1, g2, g3⟩ := ih fu (i + 1) M1 (by omega) (by omega) (by omega) (h.fr (f2.mono (fun c i z => by omega)))
    refine ⟨M', ?_, f2.tr g2, ?_⟩
    · refine f1.trans ?_
      rw [nI_1]; exact g1
    · rw [g3, f3]; rfl
theorem fN_L2 (hK : shK s z) : ∀ (k fu p : Nat) (M : SM), m - p = k → k < fu → p ≤ m → cN M s m l →
    ∃ M' : SM, qsh_followNeeds_L2 fu s (nI p) M = some ((), M') ∧ Ou (fun c _ => c = s + 6) M M' ∧ btM M' (s + 6) = nKP l m k (btM M (s + 6)) := by
  intro k
  induction k with
  | zero =>
    intro fu p M e hf hj h
    obtain ⟨fu, rfl⟩ : ∃ y, fu = y + 1 := ⟨fu - 1, by omega⟩
    have h10 := h.2.1
    refine ⟨M, ?_, Ou.rf _ _, rfl⟩
    unfold qsh_followNeeds_L2
    rw [ckb (and_i hK.kc rfl), h.1, if_neg (nI_nlt (by omega) (by omega))]
  | succ k ih =>
    intro fu p M e hf hj h
    obtain ⟨fu, rfl⟩ : ∃ y, fu = y + 1 := ⟨fu - 1, by omega⟩
    have h10 := h.2.1
    unfold qsh_followNeeds_L2
    rw [ckb (and_i hK.kc rfl), h.1, if_pos ((nI_ltI (by omega) (by omega)).mpr (show p < m by omega))]
    obtain ⟨M1, f1, f2, f3⟩ := fN_L12 hK (K := fun y0_19 y1_20 M21 => qsh_followNeeds_L2 fu y0_19 (y1_20 + (1 : Int32)) M21) (nI p) m FU 0 M (by omega) (by unfold FU; omega) (by omega) h
    obtain ⟨M', g1, g2, g3⟩ := ih fu (p + 1) M1 (by omega) (by omega) (by omega) (h.fr (f2.mono (fun c i z => by omega)))
    refine ⟨M', ?_, f2.tr g2, ?_⟩
    · refine f1.trans ?_
      rw [nI_1]; exact g1
    · rw [g3, f3]; rfl
theorem followNeeds_g (hK : shK s z) {M : SM} (h : cN M s m l) : ∃ M' : SM, qsh_followNeeds s M = some ((), M') ∧ Ou (fun c _ => c = s + 6) M M' ∧ btM M' (s + 6) = nKP l m m (btM M (s + 6)) := fN_L2 hK m FU 0 M (by omega) (by have := h.2.1; unfold FU; omega) (by omega) h
theorem pR_L2 (hK : shK s z) {M : SM} (h : cN M s m l) : ∀ (k fu i : Nat), m - i = k → k < fu → i ≤ m → qsh_placeOfRing_L2 fu s (nI i) M = some ((match fstI (fun i => btM M (s + 6) i (l i)) k i with | none => -1 | some i => M.1 (s + 4) i), M) := by
  obtain ⟨-, -, -, -, -, -, -, -, -, r0, r1, r4, r5, r6, r7, r8⟩ := id hK
  have h10 := h.2.1
  intro k
  induction k with
  | zero =>
    intro fu i e hf hj
    obtain ⟨fu, rfl⟩ : ∃ y, fu = y + 1 := ⟨fu - 1, by omega⟩
    unfold qsh_placeOfRing_L2
    rw [ckb (and_i hK.kc rfl), h.1, if_neg (nI_nlt (by omega) (by omega))]
    rfl
  | succ k ih =>
    intro fu i e hf hj
    obtain ⟨fu, rfl⟩ : ∃ y, fu = y + 1 := ⟨fu - 1, by omega⟩
    obtain ⟨l1, l2⟩ := h.2.2 i (by omega)
    unfold qsh_placeOfRing_L2
    rw [ckb (and_i hK.kc rfl), h.1, if_pos ((nI_ltI (by omega) (by omega)).mpr (show i < m by omega)), if_pos (nl_10 (by omega)), ckb (and_i (and_i hK.kc (decide_eq_true r4)) (and_i (hK.ar (by omega) (by omega) (by omega)) rfl)), ckb hK.kc, nI_cl (by omega), l1, doesNeed_g hK h (by omega) (by omega), ob_s, nI_1]
    have e2 : fstI (fun i => btM M (s + 6) i (l i)) (k + 1) i = if btM M (s + 6) i (l i) = true then some i else fstI (fun i => btM M (s + 6) i (l i)) k (i + 1) := rfl
    rw [e2]
    by_cases q : btM M (s + 6) i (l i) = true
    · rw [if_pos q, if_neg (by decide), if_pos q, ckb (and_i (and_i hK.kc (decide_eq_true r5)) (and_i (hK.ar (by omega) (by omega) (by omega)) rfl))]
    · rw [if_neg q, if_pos rfl, if_neg q]
      exact ih fu (i + 1) (by omega) (by omega) (by omega)
theorem orI_le {rk : Nat → Nat} {r a : Nat} : ∀ d, (orI rk r a).length ≤ (orI rk r (a + d)).length
  | 0 => Nat.le_refl _
  | d + 1 => by
    have := orI_le (rk := rk) (r := r) (a := a) d
    rw [← Nat.add_assoc, orI_s, List.length_append]
    omega
theorem orL_le {rk : Nat → Nat} {m : Nat} (r : Nat) : (orL rk m r).length ≤ m := by rw [orL_len]; exact cnt_le _ _
/-- a list written into a row -/
def rwL (M : SM) (c : Nat) (P : List Nat) : Prop := ∀ k t, P[k]? = some t → M.1 c k = nI t
theorem pO_L12 (hK : shK s z) {K : Nat → Int32 → Int32 → SM → Option (Unit × SM)} {r : Nat} (hr : r < 27) (rk : Nat → Nat) : ∀ (k fu i : Nat) (M : SM), m - i = k → k < fu → i ≤ m → cN M s m l → (∀ i, i < m → rk i = cnt (bt (M.1 (s + 6) i)) 32) → rwL M (s + 7) (orL rk m r ++ orI rk r i) →
    ∃ M' : SM, qsh_putInOrder_L12 K fu s (nI (orL rk m r ++ orI rk r i).length) (nI r) (nI i) M = K s (nI (orL rk m (r + 1)).length) (nI r) M' ∧ Ou (fun c _ => c = s + 7) M M' ∧ rwL M' (s + 7) (orL rk m (r + 1)) := by
  obtain ⟨-, -, -, -, -, -, -, -, -, r0, r1, r4, r5, r6, r7, r8⟩ := id hK
  intro k
  induction k with
  | zero =>
    intro fu i M e hf hj h hrk hw
    obtain ⟨fu, rfl⟩ : ∃ y, fu = y + 1 := ⟨fu - 1, by omega⟩
    have h10 := h.2.1
    obtain rfl : i = m := by omega
    refine ⟨M, ?_, Ou.rf _ _, hw⟩
    unfold qsh_putInOrder_L12
    rw [ckb (and_i hK.kc rfl), h.1, if_neg (nI_nlt (by omega) (by omega))]
    rfl
  | succ k ih =>
    intro fu i M e hf hj h hrk hw
    obtain ⟨fu, rfl⟩ : ∃ y, fu = y + 1 := ⟨fu - 1, by omega⟩
    have h10 := h.2.1
    have hc32 : rk i ≤ 32 := by rw [hrk i (by omega)]; exact cnt_le _ _
    unfold qsh_putInOrder_L12
    rw [ckb (and_i hK.kc rfl), h.1, if_pos ((nI_ltI (by omega) (by omega)).mpr (show i < m by omega)), if_pos (nl_10 (by omega)), ckb (and_i (and_i hK.kc (decide_eq_true r7)) (and_i (hK.ar (by omega) (by omega) (by omega)) rfl)), nI_cl (by omega), bitCount_g, ob_s, ← hrk i (by omega), nI_1]
    by_cases q : rk i = r
    · have hlen : (orL rk m r ++ orI rk r i).length < m := by
        have h1 := orL_le (rk := rk) (m := m) (r + 1)
        have h2 : (orL rk m (r + 1)).length = (orL rk m r).length + (orI rk r m).length := by show (orL rk m r ++ orI rk r m).length = _; rw [List.length_append]
        have h3 := orI_le (rk := rk) (r := r) (a := i + 1) (m - (i + 1))
        rw [show i + 1 + (m - (i + 1)) = m by omega, orI_s, if_pos q, List.length_append, List.length_singleton] at h3
        rw [List.length_append]
        omega
      rw [if_pos (by rw [q]), if_pos (nl_10 (by omega)), ckb (and_i (and_i hK.kc (decide_eq_true r8)) (and_i (hK.ar (by omega) (by omega) (by omega)) rfl)), nI_1, nI_cl (by omega)]
      have o1 : Ou (fun c _ => c = s + 7) M (wI M (s + 7) (orL rk m r ++ orI rk r i).length (nI i)) := (Ou.rf _ _).wI rfl
      have eP : orL rk m r ++ orI rk r (i + 1) = (orL rk m r ++ orI rk r i) ++ [i] := by rw [orI_s, if_pos q, List.append_assoc]
      obtain ⟨M', g1, g2, g3⟩ := ih fu (i + 1) (wI M (s + 7) (orL rk m r ++ orI rk r i).length (nI i)) (by omega) (by omega) (by omega) (h.fr (o1.mono (fun c i z => by omega))) (fun i hi => by rw [o1.1 (s + 6) i (by omega)]; exact hrk i hi) (fun k t hk => by
        rw [eP] at hk
        rw [wI_1]
        rcases getElem?_snoc hk with ⟨h1, h2⟩ | ⟨rfl, rfl⟩
        · rw [if_neg (by omega)]; exact hw k t h2
        · rw [if_pos ⟨rfl, rfl⟩])
      refine ⟨M', ?_, o1.tr g2, g3⟩
      rw [eP, List.length_append, List.length_singleton] at g1
      exact g1
    · have eP : orL rk m r ++ orI rk r (i + 1) = orL rk m r ++ orI rk r i := by rw [orI_s, if_neg q, List.append_nil]
      rw [if_neg (fun v => q (nI_inj (by omega) (by omega) v))]
      obtain ⟨M', g1, g2, g3⟩ := ih fu (i + 1) M (by omega) (by omega) (by omega) h hrk (by rw [eP]; exact hw)
      rw [eP] at g1
      exact ⟨M', by rw [nI_1]; exact g1, g2, g3⟩
theorem pO_L4 (hK : shK s z) (rk : Nat → Nat) : ∀ (k fu r : Nat) (M : SM), 27 - r = k → k < fu → r ≤ 27 → cN M s m l → (∀ i, i < m → rk i = cnt (bt (M.1 (s + 6) i)) 32) → rwL M (s + 7) (orL rk m r) →
    ∃ M' : SM, qsh_putInOrder_L4 fu s (nI (orL rk m r).length) (nI r) M = some ((), M') ∧ Ou (fun c _ => c = s + 7) M M' ∧ rwL M' (s + 7) (orL rk m 27) := by
  intro k
  induction k with
  | zero =>
    intro fu r M e hf hj h hrk hw
    obtain ⟨fu, rfl⟩ : ∃ y, fu = y + 1 := ⟨fu - 1, by omega⟩
    obtain rfl : r = 27 := by omega
    refine ⟨M, ?_, Ou.rf _ _, hw⟩
    unfold qsh_putInOrder_L4
    rw [if_pos (by decide)]
  | succ k ih =>
    intro fu r M e hf hj h hrk hw
    obtain ⟨fu, rfl⟩ : ∃ y, fu = y + 1 := ⟨fu - 1, by omega⟩
    have h10 := h.2.1
    unfold qsh_putInOrder_L4
    rw [if_neg (show ¬ (26 : Int32) < nI r from fun v => by have := (nI_ltI (a := 26) (b := r) (by omega) (by omega)).mp v; omega)]
    have e0 : orL rk m r ++ orI rk r 0 = orL rk m r := by show orL rk m r ++ [] = _; rw [List.append_nil]
    obtain ⟨M1, f1, f2, f3⟩ := pO_L12 hK (K := fun y0_11 y1_12 y2_13 M14 => qsh_putInOrder_L4 fu y0_11 y1_12 (y2_13 + (1 : Int32)) M14) (r := r) (by omega) rk m FU 0 M (by omega) (by unfold FU; omega) (by omega) h hrk (by rw [e0]; exact hw)
    rw [e0] at f1
    obtain ⟨M', g1, g2, g3⟩ := ih fu (r + 1) M1 (by omega) (by omega) (by omega) (h.fr (f2.mono (fun c i z => by omega))) (fun i hi => by rw [f2.1 (s + 6) i (by omega)]; exact hrk i hi) f3
    refine ⟨M', ?_, f2.tr g2, g3⟩
    refine f1.trans ?_
    rw [nI_1]; exact g1
theorem putInOrder_g (hK : shK s z) {M : SM} (h : cN M s m l) : ∃ M' : SM, qsh_putInOrder s M = some ((), M') ∧ Ou (fun c _ => c = s + 7) M M' ∧ rwL M' (s + 7) (orL (fun i => cnt (bt (M.1 (s + 6) i)) 32) m 27) := by
  obtain ⟨M', g1, g2, g3⟩ := pO_L4 hK (fun i => cnt (bt (M.1 (s + 6) i)) 32) 27 FU 0 M (by omega) (by unfold FU; omega) (by omega) h (fun _ _ => rfl) (fun k t hk => by cases hk)
  exact ⟨M', g1, g2, g3⟩
/-- the bits of what is needed, as read -/
theorem ndM_b : ∀ (a : yL) (m : Int32), (∀ t ∈ a, t.1 = 65 → t.2 < 26) → ∀ x, x < 32 → (bt (ndM a m) x = true ↔ bt m x = true ∨ (65, x) ∈ a)
  | [], m, _, x, _ => by unfold ndM; simp
  | t :: a, m, h, x, hx => by
    show bt (ndM a (if t.1 = 65 then m ||| ((1 : Int32) <<< (nI t.2 &&& 31)) else m)) x = true ↔ _
    rw [ndM_b a _ (fun u hu => h u (List.mem_cons_of_mem _ hu)) x hx, List.mem_cons]
    by_cases q : t.1 = 65
    · have h26 := h t (by simp) q
      rw [if_pos q, b_or, Bool.or_eq_true, b_shl t.2 (by omega) _ hx, show (1 : Int32) = nI 1 from rfl, bt_nI]
      have e : (decide (t.2 ≤ x) && (decide (x - t.2 < 32) && Nat.testBit 1 (x - t.2))) = true ↔ x = t.2 := by
        rw [show (1 : Nat) = 2 ^ 0 from rfl, Nat.testBit_two_pow]
        simp only [Bool.and_eq_true, decide_eq_true_eq]
        omega
      rw [e]
      constructor
      · rintro ((h | h) | h)
        · exact Or.inl h
        · exact Or.inr (Or.inl (by rw [h, ← q]))
        · exact Or.inr (Or.inr h)
      · rintro (h | h | h)
        · exact Or.inl (Or.inl h)
        · exact Or.inl (Or.inr (by rw [← h]))
        · exact Or.inr h
    · rw [if_neg q]
      constructor
      · rintro (h | h)
        · exact Or.inl h
        · exact Or.inr (Or.inr h)
      · rintro (h | h | h)
        · exact Or.inl h
        · exact absurd (by rw [← h]) q
        · exact Or.inr h
end
