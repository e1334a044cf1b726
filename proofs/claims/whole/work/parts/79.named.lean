/-! a list's text: its formulas, one behind the other -/
abbrev FE : Type := Nat × Nat × yL
def fsS (fs : List FE) : yL := fs.flatMap (fun t => t.2.2)
def yNm (sg : Nat → Nat) (n : Nat) (ls : List Nat) (p : Nat) : yR :=
  if yLt (sg p) = true then (if (sg p - 65) ∈ ls then Sum.inl (3, p) else if ls.length = 10 then Sum.inl (4, p) else if sg (p + 1) = 61 then yCh sg n 10 0 (p + 2) else Sum.inl (1, p + 1)) else Sum.inl (1, p)
def yLs (sg : Nat → Nat) (n : Nat) : Nat → List FE → Nat → (Nat × Nat) ⊕ List FE
  | 0, _, _ => Sum.inl (0, 0)
  | k + 1, fs, p => match yNm sg n (fs.map (fun t => t.1)) p with
    | Sum.inl g => Sum.inl g
    | Sum.inr r => if sg r.1 = 59 then yLs sg n k (fs ++ [(sg p - 65, p, r.2)]) (r.1 + 1) else if r.1 < n then Sum.inl (1, r.1) else Sum.inr (fs ++ [(sg p - 65, p, r.2)])
theorem fsS_app (a b : List FE) : fsS (a ++ b) = fsS a ++ fsS b := by unfold fsS; rw [List.flatMap_append]
theorem fsS_1 (t : FE) : fsS [t] = t.2.2 := by unfold fsS; simp
def cM (M : SM) (s : Nat) (fs : List FE) : Prop := stA M s (fsS fs) ∧ M.1 s 3 = nI fs.length ∧ ∀ k t, fs[k]? = some t → M.1 (s + 3) k = nI t.1 ∧ M.1 (s + 4) k = nI t.2.1 ∧ M.1 (s + 5) k = nI (fsS (fs.take (k + 1))).length ∧ M.1 (s + 6) k = ndM t.2.2 0
def cFl (M : SM) (s n : Nat) (g : Nat × Nat) : Prop := M.1 3 1 = nI s ∧ M.1 3 2 = nI n ∧ (1 ≤ g.1 ∧ g.1 ≤ 9 ∧ M.1 3 4 = nI g.1) ∧ M.1 3 5 = nI g.2
def rdA (s c i : Nat) : Prop := (c = 3 ∧ 3 ≤ i ∧ i ≤ 5) ∨ (s ≤ c ∧ c < s + 8 ∧ ¬ (c = s ∧ 8 ≤ i))
theorem rdF_A {s f c i : Nat} (h : rdF s f c i) : rdA s c i := by unfold rdF at h; unfold rdA; omega
theorem getElem?_snoc {α : Type} {l : List α} {x t : α} {k : Nat} (h : (l ++ [x])[k]? = some t) : (k < l.length ∧ l[k]? = some t) ∨ (k = l.length ∧ t = x) := by
  by_cases q : k < l.length
  · rw [List.getElem?_append_left q] at h; exact Or.inl ⟨q, h⟩
  · rw [List.getElem?_append_right (by omega)] at h
    have q2 : k - l.length = 0 := by
      by_cases z0 : k - l.length = 0
      · exact z0
      · rw [List.getElem?_eq_none (by simp only [List.length_singleton]; omega)] at h; cases h
    rw [q2] at h
    exact Or.inr ⟨by omega, (Option.some.inj h).symm⟩
section
variable {sg : Nat → Nat} {n s z f : Nat}
theorem cF.fl {M : SM} {k q : Nat} (h : cF M s n z k q f) : cFl M s n (k, q) := ⟨h.1, h.2.1, h.2.2.1, h.2.2.2.1⟩
theorem shK.ar (h : shK s z) {j i : Nat} (h1 : 3 ≤ j) (h2 : j < 8) (hi : i < 10) : av 336 20 (s + j) (nI i) = true := by
  obtain ⟨j1, j2⟩ := h.2.2.2.2.2.2.2.2.1 j h2 h1
  have := h.2.1
  exact av_n j1 (by omega) (by omega) (by omega)
theorem sh_has_g (hK : shK s z) {M : SM} {m : Nat} (hm : M.1 s 3 = nI m) (hm10 : m ≤ 10) {i : Nat} (hi : i < m) : qsh_has s (nI i) M = some (1, M) := by
  unfold qsh_has
  rw [if_neg (nI_lt0 (by omega)), ckb (and_i hK.kc rfl), hm, if_pos ((nI_ltI (by omega) (by omega)).mpr hi), if_pos (nl_10 (by omega))]
theorem letterOf_g (hK : shK s z) {M : SM} {m : Nat} (hm : M.1 s 3 = nI m) (hm10 : m ≤ 10) {i : Nat} (hi : i < m) : qsh_letterOf s (nI i) M = some (M.1 (s + 3) i, M) := by
  obtain ⟨-, -, -, -, -, -, -, -, -, r0, r1, r4, -⟩ := id hK
  unfold qsh_letterOf
  rw [ckb hK.kc, sh_has_g hK hm hm10 hi, ob_s, if_neg (by decide), ckb (and_i (and_i hK.kc (decide_eq_true r4)) (and_i (hK.ar (by omega) (by omega) (by omega)) rfl)), nI_cl (by omega)]
theorem hasFormula_g (hK : shK s z) {M : SM} {fs : List FE} (h : cM M s fs) (h10 : fs.length ≤ 10) (hx : ∀ t ∈ fs, t.1 < 26) {x : Nat} (hx26 : x < 26) : ∀ fu i, fs.length - i < fu → i ≤ fs.length → (∀ k t, k < i → fs[k]? = some t → t.1 ≠ x) → qsh_hasFormula_L2 fu s (nI x) (nI i) M = some (if x ∈ fs.map (fun t => t.1) then 1 else 0, M) := by
  intro fu
  induction fu with
  | zero => intro i h; omega
  | succ fu ih =>
    intro i hf hi hno
    unfold qsh_hasFormula_L2
    rw [ckb (and_i hK.kc rfl), h.2.1]
    by_cases q : i < fs.length
    · obtain ⟨t, ht⟩ : ∃ t, fs[i]? = some t := ⟨fs[i], List.getElem?_eq_getElem q⟩
      have hmem := List.mem_of_getElem? ht
      obtain ⟨e1, -⟩ := h.2.2 i t ht
      have := hx t hmem
      rw [if_pos ((nI_ltI (by omega) (by omega)).mpr q), ckb hK.kc, letterOf_g hK h.2.1 h10 q, ob_s, e1]
      by_cases q2 : t.1 = x
      · rw [if_pos (by rw [q2]), if_pos (List.mem_map.mpr ⟨t, hmem, q2⟩)]
      · rw [if_neg (fun v => q2 (nI_inj (by omega) (by omega) v)), nI_1]
        refine ih (i + 1) (by omega) (by omega) (fun k u hk hu => ?_)
        by_cases q3 : k = i
        · subst q3
          rw [ht] at hu
          obtain rfl := Option.some.inj hu
          exact q2
        · exact hno k u (by omega) hu
    · rw [if_neg (nI_nlt (by omega) (by omega)), if_neg]
      intro hm
      obtain ⟨t, ht, e⟩ := List.mem_map.mp hm
      obtain ⟨k, hk⟩ := List.getElem?_of_mem ht
      have hk2 : k < fs.length := by
        by_cases z : k < fs.length
        · exact z
        · rw [List.getElem?_eq_none (by omega)] at hk; cases hk
      exact hno k t (by omega) hk e
theorem begin_g (hK : shK s z) {M : SM} {fs : List FE} (h : cM M s fs) (h10 : fs.length < 10) (X : Int32) (P : Int32) : ∃ M' : SM, qsh_begin s X P M = some ((), M') ∧ M'.2 = M.2 ∧ ∀ c i, M'.1 c i = if c = s + 6 ∧ i = fs.length then 0 else if c = s + 4 ∧ i = fs.length then P else if c = s + 3 ∧ i = fs.length then X else M.1 c i := by
  have k1 := hK.1
  obtain ⟨-, k2, -, -, -, -, -, -, k9, r0, r1, r4, r5, r6, r7, r8⟩ := id hK
  have e3 := h.2.1
  have a3 : av 336 20 (s + 3) (nI fs.length) = true := hK.ar (by omega) (by omega) h10
  have a4 : av 336 20 (s + 4) (nI fs.length) = true := hK.ar (by omega) (by omega) h10
  have a6 : av 336 20 (s + 6) (nI fs.length) = true := hK.ar (by omega) (by omega) h10
  refine ⟨wI (wI (wI M (s + 3) fs.length X) (s + 4) fs.length P) (s + 6) fs.length 0, ?_, rfl, fun c i => by rw [wI_1, wI_1, wI_1]⟩
  have e4 : (wI M (s + 3) fs.length X).1 s 3 = nI fs.length := by rw [wI_1, if_neg (by omega)]; exact e3
  have e5 : (wI (wI M (s + 3) fs.length X) (s + 4) fs.length P).1 s 3 = nI fs.length := by rw [wI_1, if_neg (by omega)]; exact e4
  unfold qsh_begin
  rw [ckb hK.kc, hasRoom_g hK e3 h10, ob_s, if_neg (by decide), e3, nI_cl (by omega), e4, nI_cl (by omega), e5]
  rw [ckb (and_i (and_i hK.kc (decide_eq_true r4)) (and_i hK.kc (and_i a3 (and_i (and_i hK.kc (decide_eq_true r5)) (and_i hK.kc (and_i a4 (and_i (and_i hK.kc (decide_eq_true r7)) (and_i hK.kc (and_i a6 rfl)))))))))]
  rw [nI_cl (by omega)]
theorem end_g (hK : shK s z) {M : SM} {f m : Nat} (e3 : M.1 s 3 = nI f) (h10 : f < 10) : ∃ M' : SM, qsh_end s M = some ((), M') ∧ M'.2 = M.2 ∧ ∀ c i, M'.1 c i = if c = s ∧ i = 3 then nI (f + 1) else if c = s + 5 ∧ i = f then M.1 s 2 else M.1 c i := by
  have k1 := hK.1
  obtain ⟨-, k2, -, -, -, -, -, -, k9, r0, r1, r4, r5, r6, r7, r8⟩ := id hK
  have a5 : av 336 20 (s + 5) (nI f) = true := hK.ar (by omega) (by omega) h10
  refine ⟨wI (wI M (s + 5) f (M.1 s 2)) s 3 (nI (f + 1)), ?_, rfl, fun c i => by rw [wI_1, wI_1]⟩
  have e4 : (wI M (s + 5) f (M.1 s 2)).1 s 3 = nI f := by rw [wI_1, if_neg (by omega)]; exact e3
  unfold qsh_end
  rw [ckb hK.kc, hasRoom_g hK e3 h10, ob_s, if_neg (by decide), e3, ckb (and_i (and_i hK.kc (decide_eq_true r6)) (and_i hK.kc (and_i hK.kc (and_i a5 (and_i hK.kc (and_i hK.kc rfl)))))), nI_cl (by omega), e4, nI_1]
/-- what holds of the formulas read so far -/
def fOk (fs : List FE) (p : Nat) : Prop := fs.length ≤ 10 ∧ (∀ t ∈ fs, t.1 < 26) ∧ (fs.map (fun t => t.1)).Nodup ∧ (fsS fs).length ≤ p
theorem nd_pos : ndM [] 0 = 0 := rfl
theorem formula_g (hK : shK s z) (hnz : n ≤ z) (hE : ∀ p, n ≤ p → sg p = 999) (h256 : ∀ p, p < n → sg p < 256) {M : SM} {p : Nat} {fs : List FE} (ht : tE M sg n) (hp : p ≤ n) (hc : cSh M s n p) (hm : cM M s fs) (hf : fOk fs p) :
    ∃ M' : SM, qrd_formula M = some ((), M') ∧ Ou (rdA s) M M' ∧ match yNm sg n (fs.map (fun t => t.1)) p with
      | Sum.inl g => cFl M' s n g
      | Sum.inr r => p < r.1 ∧ r.1 ≤ n ∧ cSh M' s n r.1 ∧ cM M' s (fs ++ [(sg p - 65, p, r.2)]) ∧ fOk (fs ++ [(sg p - 65, p, r.2)]) r.1 := by
  have hs := hK.1
  have hz := hK.2.2.1
  obtain ⟨f10, f26, fnd, fl⟩ := id hf
  have hok : cOk (sg p) := by
    by_cases q : p < n
    · exact Or.inr (h256 p q)
    · exact Or.inl (hE p (by omega))
  -- a fault, nothing being done yet
  have wr : ∀ (K : Int32) (k : Nat), K = nI k → 1 ≤ k → k ≤ 9 → ∃ M' : SM, qrd_fail K M = some ((), M') ∧ cFl M' s n (k, p) ∧ Ou (rdA s) M M' := by
    intro K k e1 e2 e3
    subst e1
    obtain ⟨a1, a2, a3, a4⟩ := hc
    refine ⟨wI (wI M 3 4 (nI k)) 3 5 (nI p), ?_, ⟨?_, ?_, ⟨e2, e3, ?_⟩, ?_⟩, ((Ou.rf _ _).wI (by unfold rdA; omega)).wI (by unfold rdA; omega)⟩
    · unfold qrd_fail; rw [if_pos a4, a3]
    · rw [wI_1, if_neg (by omega), wI_1, if_neg (by omega)]; exact a1
    · rw [wI_1, if_neg (by omega), wI_1, if_neg (by omega)]; exact a2
    · rw [wI_1, if_neg (by omega), wI_1, if_pos (by omega)]
    · rw [wI_1, if_pos ⟨rfl, rfl⟩]
  have fne : ∀ (M' : SM) (g : Nat × Nat), cFl M' s n g → ¬ M'.1 3 4 = 0 := fun M' g h => fault_ne h.2.2.1.1 h.2.2.1.2.1 h.2.2.1.2.2
  unfold qrd_formula
  rw [next_g hE h256 ht hp hc, ob_s]
  simp only [jn_ap]
  rw [iLt hok]
  unfold yNm
  by_cases q1 : yLt (sg p) = true
  · have hle := yLt_iff.mp q1
    have hlt : p < n := y_lt hE (by omega)
    rw [if_pos q1, if_pos q1]
    have e65 : sv (sg p) - (65 : Int32) = nI (sg p - 65) := by rw [sv_n (by omega), show (65 : Int32) = nI 65 from rfl, nI_subN (by omega)]
    rw [e65]
    rw [sh_ck hK hc.1 (fun s' => ob (qsh_hasFormula s' (nI (sg p - 65)) M) _)]
    have hhf : qsh_hasFormula s (nI (sg p - 65)) M = some (if (sg p - 65) ∈ fs.map (fun t => t.1) then 1 else 0, M) := hasFormula_g hK hm f10 f26 (x := sg p - 65) (by omega) FU 0 (by unfold FU; omega) (by omega) (fun k t hk => by omega)
    rw [hhf, ob_s]
    by_cases q2 : (sg p - 65) ∈ fs.map (fun t => t.1)
    · rw [if_pos q2, if_neg (by decide), if_pos q2]
      obtain ⟨M', x1, x2, x3⟩ := wr 3 3 rfl (by omega) (by omega)
      rw [x1, ob_s, if_neg (fne M' _ x2)]
      exact ⟨M', rfl, x3, x2⟩
    · rw [if_neg q2, if_pos rfl, if_neg q2, List.length_map]
      rw [sh_ck hK hc.1 (fun s' => ob (qsh_hasRoom s' M) _)]
      by_cases q3 : fs.length = 10
      · rw [if_pos q3]
        have hnr : qsh_hasRoom s M = some (0, M) := by
          unfold qsh_hasRoom
          rw [ckb (and_i hK.kc rfl), hm.2.1, if_neg (nI_lt0 (by omega)), ckb (and_i hK.kc rfl), if_neg (nn_10 (by omega) (by omega))]
        obtain ⟨M', x1, x2, x3⟩ := wr 4 4 rfl (by omega) (by omega)
        rw [hnr, ob_s, if_pos rfl, x1, ob_s, if_neg (fne M' _ x2)]
        exact ⟨M', rfl, x3, x2⟩
      · rw [if_neg q3, hasRoom_g hK hm.2.1 (by omega), ob_s, if_neg (by decide), if_pos hc.2.2.2]
        rw [sh_ck hK hc.1 (fun s' => ob (qsh_begin s' (nI (sg p - 65)) (M.1 3 3) M) _), hc.2.2.1]
        obtain ⟨M1, b1, b2, b3⟩ := begin_g hK hm (by omega) (nI (sg p - 65)) (nI p)
        rw [b1, ob_s]
        have o1 : Ou (rdA s) M M1 := ⟨fun c i q => by unfold rdA at q; rw [b3, if_neg (by omega), if_neg (by omega), if_neg (by omega)], b2⟩
        have hc1 : cS M1 s n p fs.length (fsS fs) [] := by
          obtain ⟨a1, a2, a3, a4⟩ := hc
          obtain ⟨⟨d1, d2⟩, d3, d4⟩ := hm
          refine ⟨⟨?_, ?_, ?_, ?_⟩, ⟨?_, fun i t hi => ?_⟩, ?_, ?_⟩
          · rw [b3, if_neg (by omega), if_neg (by omega), if_neg (by omega)]; exact a1
          · rw [b3, if_neg (by omega), if_neg (by omega), if_neg (by omega)]; exact a2
          · rw [b3, if_neg (by omega), if_neg (by omega), if_neg (by omega)]; exact a3
          · rw [b3, if_neg (by omega), if_neg (by omega), if_neg (by omega)]; exact a4
          · rw [b3, if_neg (by omega), if_neg (by omega), if_neg (by omega), List.append_nil]; exact d1
          · rw [List.append_nil] at hi
            rw [b3, if_neg (by omega), if_neg (by omega), if_neg (by omega), b3, if_neg (by omega), if_neg (by omega), if_neg (by omega)]
            exact d2 i t hi
          · rw [b3, if_neg (by omega), if_neg (by omega), if_neg (by omega)]; exact d3
          · rw [b3, if_pos ⟨rfl, rfl⟩]; rfl
        have hN : yEn sg n s z fs.length := ⟨hK, hnz, by omega, hE, h256⟩
        obtain ⟨g1, g2⟩ := at_g hs hc1
        have o2 : Ou (rdA s) M _ := o1.tr (g2.mono (fun c i q => rdF_A q))
        have t1 : tE (wI M1 3 3 ((M1.1 3 3) + (1 : Int32))) sg n := by
          obtain ⟨⟨T, h1, h2, h3⟩, h4⟩ := ht
          exact ⟨⟨T, by rw [o2.1 1 1 (by unfold rdA; omega)]; exact h1, h2, h3⟩, fun p hp => by rw [o2.1 2 p (by unfold rdA; omega)]; exact h4 p hp⟩
        obtain ⟨M2, e1, e2, e3⟩ := expect_g (z := z) hE h256 hs t1 (show p + 1 ≤ n by omega) (by rw [List.append_nil]; omega) g1 (K := 61) 61 (by omega) rfl
        rw [e1, ob_s]
        have o3 : Ou (rdA s) M M2 := o2.tr (e3.mono (fun c i q => rdF_A q))
        obtain ⟨G1, G2⟩ := ch10_g hN
        by_cases q4 : sg (p + 1) = 61
        · rw [if_pos q4] at e2 ⊢
          have hlt2 : p + 1 < n := y_lt hE (by omega)
          obtain ⟨c1, c2⟩ := G1 M2 (p + 2) (fsS fs) [] (t1.fr hs e3) (by omega) (by rw [List.append_nil]; omega) e2
          cases hch : yCh sg n 10 0 (p + 2) with
          | inl g =>
            obtain ⟨M3, x1, x2, x3⟩ := c1 g hch
            obtain ⟨M4, y1, y2, y3⟩ := end_g (m := 0) hK x2.2.2.2.2.2 (by omega)
            rw [x1, ob_s, sh_ck hK x2.1 (fun s' => ob (qsh_end s' M3) _), y1, ob_s]
            refine ⟨M4, rfl, (o3.tr (x3.mono (fun c i q => rdF_A q))).tr ⟨fun c i q => by unfold rdA at q; rw [y3, if_neg (by omega), if_neg (by omega)], y2⟩, ?_⟩
            have x4 := x2.fl
            exact ⟨by rw [y3, if_neg (by omega), if_neg (by omega)]; exact x4.1, by rw [y3, if_neg (by omega), if_neg (by omega)]; exact x4.2.1, ⟨x4.2.2.1.1, x4.2.2.1.2.1, by rw [y3, if_neg (by omega), if_neg (by omega)]; exact x4.2.2.1.2.2⟩, by rw [y3, if_neg (by omega), if_neg (by omega)]; exact x4.2.2.2⟩
          | inr r =>
            obtain ⟨M3, x1, x2, x3⟩ := c2 r hch
            obtain ⟨M4, y1, y2, y3⟩ := end_g (m := 0) hK x2.2.2.1 (by omega)
            rw [x1, ob_s, sh_ck hK x2.1.1 (fun s' => ob (qsh_end s' M3) _), y1, ob_s]
            obtain ⟨-, z2⟩ := yCh_S hE 10 0 (by omega) (by omega) (p + 2) [] [] (by omega) yTL_nil rfl
            obtain ⟨z3, z4, -, -, code, -, -, z5, -⟩ := z2 r hch
            have lS : (fsS (fs ++ [(sg p - 65, p, r.2)])) = fsS fs ++ r.2 := by rw [fsS_app, fsS_1]
            have rest : ∀ c i, ¬ rdF s fs.length c i → ¬ (c = s + 5 ∧ i = fs.length) → ¬ (c = s ∧ i = 3) → M4.1 c i = M1.1 c i := fun c i q1 q2 q3 => by
              rw [y3, if_neg q3, if_neg q2, x3.1 c i q1, e3.1 c i q1, g2.1 c i q1]
            obtain ⟨⟨a1, a2, a3, a4⟩, ⟨d1, d2⟩, d3, d4⟩ := x2
            refine ⟨M4, rfl, (o3.tr (x3.mono (fun c i q => rdF_A q))).tr ⟨fun c i q => by unfold rdA at q; rw [y3, if_neg (by omega), if_neg (by omega)], y2⟩, by show p < r.1; omega, z4, ⟨?_, ?_, ?_, ?_⟩, ⟨⟨?_, fun i t hi => ?_⟩, ?_, fun k t hk => ?_⟩, ⟨?_, fun t ht => ?_, ?_, ?_⟩⟩
            · rw [y3, if_neg (by omega), if_neg (by omega)]; exact a1
            · rw [y3, if_neg (by omega), if_neg (by omega)]; exact a2
            · rw [y3, if_neg (by omega), if_neg (by omega)]; exact a3
            · rw [y3, if_neg (by omega), if_neg (by omega)]; exact a4
            · rw [y3, if_neg (by omega), if_neg (by omega), lS]; exact d1
            · rw [lS] at hi
              rw [y3, if_neg (by omega), if_neg (by omega), y3, if_neg (by omega), if_neg (by omega)]
              exact d2 i t hi
            · rw [y3, if_pos ⟨rfl, rfl⟩, List.length_append, List.length_singleton]
            · rcases getElem?_snoc hk with ⟨hk1, hk2⟩ | ⟨rfl, rfl⟩
              · obtain ⟨i1, i2, i3, i4⟩ := hm.2.2 k t hk2
                have tk : (fs ++ [(sg p - 65, p, r.2)]).take (k + 1) = fs.take (k + 1) := List.take_append_of_le_length (by omega)
                rw [tk]
                refine ⟨?_, ?_, ?_, ?_⟩
                · rw [rest _ _ (by unfold rdF; omega) (by omega) (by omega), b3, if_neg (by omega), if_neg (by omega), if_neg (by omega)]; exact i1
                · rw [rest _ _ (by unfold rdF; omega) (by omega) (by omega), b3, if_neg (by omega), if_neg (by omega), if_neg (by omega)]; exact i2
                · rw [rest _ _ (by unfold rdF; omega) (by omega) (by omega), b3, if_neg (by omega), if_neg (by omega), if_neg (by omega)]; exact i3
                · rw [rest _ _ (by unfold rdF; omega) (by omega) (by omega), b3, if_neg (by omega), if_neg (by omega), if_neg (by omega)]; exact i4
              · have tk : (fs ++ [(sg p - 65, p, r.2)]).take (fs.length + 1) = fs ++ [(sg p - 65, p, r.2)] := List.take_of_length_le (by rw [List.length_append, List.length_singleton]; omega)
                rw [tk, lS]
                refine ⟨?_, ?_, ?_, ?_⟩
                · rw [rest _ _ (by unfold rdF; omega) (by omega) (by omega), b3, if_neg (by omega), if_neg (by omega), if_pos ⟨rfl, rfl⟩]
                · rw [rest _ _ (by unfold rdF; omega) (by omega) (by omega), b3, if_neg (by omega), if_pos ⟨rfl, rfl⟩]
                · rw [y3, if_neg (by omega), if_pos ⟨rfl, rfl⟩]; exact d1
                · rw [y3, if_neg (by omega), if_neg (by omega)]; exact d4
            · rw [List.length_append, List.length_singleton]; omega
            · rcases List.mem_append.mp ht with ht | ht
              · exact f26 t ht
              · obtain rfl := List.mem_singleton.mp ht
                show sg p - 65 < 26
                omega
            · rw [List.map_append, List.nodup_append]
              refine ⟨fnd, by simp, fun a ha b hb => ?_⟩
              have hb' : b = sg p - 65 := by simpa using hb
              rintro rfl
              exact q2 (hb' ▸ ha)
            · rw [lS, List.length_append]; show _ ≤ r.1; omega
        · rw [if_neg q4] at e2 ⊢
          obtain ⟨M3, x1, x2, x3⟩ := G2 M2 _ _ e2
          obtain ⟨M4, y1, y2, y3⟩ := end_g (m := 0) hK x2.2.2.2.2.2 (by omega)
          rw [x1, ob_s, sh_ck hK x2.1 (fun s' => ob (qsh_end s' M3) _), y1, ob_s]
          refine ⟨M4, rfl, (o3.tr (x3.mono (fun c i q => rdF_A q))).tr ⟨fun c i q => by unfold rdA at q; rw [y3, if_neg (by omega), if_neg (by omega)], y2⟩, ?_⟩
          have x4 := x2.fl
          exact ⟨by rw [y3, if_neg (by omega), if_neg (by omega)]; exact x4.1, by rw [y3, if_neg (by omega), if_neg (by omega)]; exact x4.2.1, ⟨x4.2.2.1.1, x4.2.2.1.2.1, by rw [y3, if_neg (by omega), if_neg (by omega)]; exact x4.2.2.1.2.2⟩, by rw [y3, if_neg (by omega), if_neg (by omega)]; exact x4.2.2.2⟩
  · rw [if_neg q1, if_neg q1]
    obtain ⟨M', x1, x2, x3⟩ := wr 1 1 rfl (by omega) (by omega)
    rw [x1, ob_s, if_neg (fne M' _ x2)]
    exact ⟨M', rfl, x3, x2⟩
end
