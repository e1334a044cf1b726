/-! a list read whole, on either side -/
def sgF (M : SM) (n p : Nat) : Nat := if p < n then (M.1 2 p).toBitVec.toNat % 256 else 999
theorem sgF_E (M : SM) (n : Nat) : ∀ p, n ≤ p → sgF M n p = 999 := fun p h => if_neg (by omega)
theorem sgF_2 (M : SM) (n : Nat) : ∀ p, p < n → sgF M n p < 256 := fun p h => by unfold sgF; rw [if_pos h]; omega
theorem sgF_v (M : SM) {n p : Nat} (h : p < n) : M.1 2 p &&& 255 = nI (sgF M n p) := by unfold sgF; rw [if_pos h, by_255]
theorem nzF : ∀ a, a < 10 → ∀ b, b < 201 → 1 ≤ a → ¬ ((-1000 : Int32) * nI a - nI b) = 0 := by decide +kernel
def stF (fs : List FE) (k : Nat) : yL := match fs[k]? with
  | some t => t.2.2
  | none => []
theorem stF_e {fs : List FE} {k : Nat} {t : FE} (h : fs[k]? = some t) : stF fs k = t.2.2 := by unfold stF; rw [h]
def dB (fs : List FE) : BB := fun i q => bt (ndM (stF fs i) 0) (ltr fs q)
def plF (fs : List FE) (k : Nat) : Nat := match fs[k]? with
  | some t => t.2.1
  | none => 0
theorem plF_e {fs : List FE} {k : Nat} {t : FE} (h : fs[k]? = some t) : plF fs k = t.2.1 := by unfold plF; rw [h]
/-- ranks by which each needs but lesser ones -/
def rkOk (fs : List FE) (rk : Nat → Nat) (R : Nat) : Prop := (∀ k q, k < fs.length → q < fs.length → (65, ltr fs q) ∈ stF fs k → rk q < rk k) ∧ ∀ k, k < fs.length → rk k < R
def rgO (fs : List FE) : Option Nat := fstI (fun i => sPt (dB fs) fs.length (fs.length - 1) i i) fs.length 0
def s3s (s c i : Nat) : Prop := (c = 3 ∧ 1 ≤ i ∧ i ≤ 5) ∨ (s ≤ c ∧ c < s + 8 ∧ ¬ (c = s ∧ 8 ≤ i))
theorem cnt_26 {f : Nat → Bool} (h : ∀ x, 26 ≤ x → x < 32 → f x = false) : cnt f 32 < 27 := by
  have e1 : cnt f 32 = cnt f 26 + cnt (fun k => f (26 + k)) 6 := cnt_add f 26 6
  have e2 : cnt (fun k => f (26 + k)) 6 = 0 := by
    rw [cnt_ext (g := fun _ => false) 6 (fun k hk => h _ (by omega) (by omega))]
    decide
  have := cnt_le f 26
  omega
section
variable {s z n : Nat}
theorem dB_iff {fs : List FE} (hos2 : ∀ t ∈ fs, ∀ u ∈ t.2.2, yOs u) (h26 : ∀ t ∈ fs, t.1 < 26) {i q : Nat} (hi : i < fs.length) (hq : q < fs.length) : dB fs i q = true ↔ (65, ltr fs q) ∈ stF fs i := by
  have hu : fs[i]? = some fs[i] := List.getElem?_eq_getElem hi
  have h2 := ltr_26 h26 hq
  unfold dB
  rw [ndM_b _ 0 (fun t ht he => ?_) _ (by omega), b_0]
  · simp
  · rw [stF_e hu] at ht
    have := hos2 _ (List.getElem_mem hi) t ht
    have e : t = (65, t.2) := by rw [← he]
    rw [e] at this
    exact yOs_65 this
theorem findRing_g (hK : shK s z) {fs : List FE} {M : SM} (h1 : M.1 3 1 = nI s) (h4 : M.1 3 4 = 0) (hm : cM M s fs) (hf : fOk fs n) (hpos : 0 < fs.length) (hos2 : ∀ t ∈ fs, ∀ u ∈ t.2.2, yOs u) (hpl2 : ∀ t ∈ fs, t.2.1 ≤ 200) :
    ∃ M' : SM, qrd_findRing M = some ((), M') ∧ Ou (s3s s) M M' ∧ match rgO fs with
      | some i => M'.1 3 4 = nI 6 ∧ M'.1 3 5 = nI (plF fs i)
      | none => M'.1 3 4 = 0 ∧ ∃ rk, rkOk fs rk 27 ∧ cD M' s fs (orL rk fs.length 27) := by
  have hs := hK.1
  obtain ⟨h10, h26, hnd, hl⟩ := hf
  have hN : cN M s fs.length (ltr fs) := ⟨hm.2.1, h10, fun i hi => by
    have hu : fs[i]? = some fs[i] := List.getElem?_eq_getElem hi
    exact ⟨by rw [(hm.2.2 i _ hu).1, ltr_e hu], ltr_26 h26 hi⟩⟩
  obtain ⟨M1, f1, f2, f3⟩ := followNeeds_g hK hN
  have hN1 := hN.fr (f2.mono (fun c i z => Or.inl z))
  -- bits at first
  have hC0 : ∀ i x, i < fs.length → btM M (s + 6) i x = bt (ndM (stF fs i) 0) x := fun i x hi => by
    have hu : fs[i]? = some fs[i] := List.getElem?_eq_getElem hi
    unfold btM
    rw [(hm.2.2 i _ hu).2.2.2, stF_e hu]
  have hD : ∀ i q, i < fs.length → q < fs.length → dB fs i q = btM M (s + 6) i (ltr fs q) := fun i q hi hq => by rw [hC0 i _ hi]; rfl
  have hring : ∀ i, i < fs.length → btM M1 (s + 6) i (ltr fs i) = sPt (dB fs) fs.length (fs.length - 1) i i := fun i hi => by
    rw [f3]; exact nKP_l _ _ hD (Nat.le_refl _) hi hi
  have hp := pR_L2 hK hN1 fs.length FU 0 (by omega) (by unfold FU; omega) (by omega)
  have he : fstI (fun i => btM M1 (s + 6) i (ltr fs i)) fs.length 0 = rgO fs := fstI_ext _ _ (fun k _ hk => hring k (by omega))
  rw [he] at hp
  have hp' : qsh_placeOfRing s M1 = _ := hp
  unfold qrd_findRing
  rw [sh_ck hK h1 (fun s' => ob (qsh_followNeeds s' M) _), f1, ob_s]
  have h11 : M1.1 3 1 = nI s := by rw [f2.1 3 1 (by omega)]; exact h1
  rw [sh_ck hK h11 (fun s' => ob (qsh_placeOfRing s' M1) _), hp', ob_s]
  cases hr : rgO fs with
  | some i =>
    obtain ⟨-, hi⟩ := fstI_s _ _ _ hr
    have hu : fs[i]? = some fs[i] := List.getElem?_eq_getElem (by omega)
    have hpl : M1.1 (s + 4) i = nI (plF fs i) := by rw [f2.1 (s + 4) i (by omega), (hm.2.2 i _ hu).2.1, plF_e hu]
    dsimp only
    have h200 := hpl2 _ (List.getElem_mem (show i < fs.length by omega))
    rw [if_neg (show ¬ M1.1 (s + 4) i = (-1 : Int32) by rw [hpl, plF_e hu]; exact nI_ne_m1 (by omega))]
    refine ⟨_, rfl, ((f2.mono (fun c i z => by unfold s3s; omega)).wI (by unfold s3s; omega)).wI (by unfold s3s; omega), ?_, ?_⟩
    · rw [wI_1, if_neg (by omega), wI_1, if_pos ⟨rfl, rfl⟩]; rfl
    · rw [wI_1, if_pos ⟨rfl, rfl⟩, hpl]
  | none =>
    dsimp only
    rw [if_pos rfl, sh_ck hK h11 (fun s' => ob (qsh_putInOrder s' M1) _)]
    obtain ⟨M2, g1, g2, g3⟩ := putInOrder_g hK hN1
    rw [g1, ob_s]
    have hac : ∀ i, i < fs.length → sPt (dB fs) fs.length (fs.length - 1) i i = false := fun i hi => fstI_n _ _ hr i (by omega) (by omega)
    have o12 : Ou (fun c _ => c = s + 6 ∨ c = s + 7) M M2 := (f2.mono (fun c i z => Or.inl z)).tr (g2.mono (fun c i z => Or.inr z))
    refine ⟨M2, rfl, o12.mono (fun c i z => by unfold s3s; omega), by rw [o12.1 3 4 (by omega)]; exact h4, fun i => cnt (bt (M1.1 (s + 6) i)) 32, ⟨fun k q hk hq hin => ?_, fun k hk => ?_⟩, ⟨⟨?_, fun i t hi => ?_⟩, ?_, fun k t hk => ?_, g3⟩⟩
    · have hlt := ltr_26 h26 hq
      have h1 : sPt (dB fs) fs.length (fs.length - 1) k q = true := sPt_0 ((dB_iff hos2 h26 hk hq).mpr hin) _
      have := nKP_r (N := 32) (btM M (s + 6)) (dB fs) hD (Nat.le_refl _) hk hq (by omega) h1 (hac q hq)
      rw [← f3] at this
      exact this
    · refine cnt_26 (fun x hx1 hx2 => ?_)
      have hiff := nKP_g (btM M (s + 6)) (dB fs) hD (Nat.le_refl _) hk x
      rw [← f3] at hiff
      have no : ∀ j, j < fs.length → ¬ btM M (s + 6) j x = true := fun j hj hx => by
        rw [hC0 j x hj, ndM_b _ 0 (fun t ht he => ?_) _ hx2, b_0] at hx
        · rcases hx with hx | hx
          · cases hx
          · have hu : fs[j]? = some fs[j] := List.getElem?_eq_getElem hj
            rw [stF_e hu] at hx
            have := yOs_65 (hos2 _ (List.getElem_mem hj) _ hx)
            omega
        · have hu : fs[j]? = some fs[j] := List.getElem?_eq_getElem hj
          rw [stF_e hu] at ht
          have := hos2 _ (List.getElem_mem hj) t ht
          have e : t = (65, t.2) := by rw [← he]
          rw [e] at this
          exact yOs_65 this
      cases hb : bt (M1.1 (s + 6) k) x with
      | false => rfl
      | true =>
        rcases hiff.mp hb with h | ⟨j, h1, -, h3⟩
        · exact absurd h (no k hk)
        · exact absurd h3 (no j h1)
    · rw [o12.1 s 2 (by omega)]; exact hm.1.1
    · rw [o12.1 (s + 1) i (by omega), o12.1 (s + 2) i (by omega)]; exact hm.1.2 i t hi
    · rw [o12.1 s 3 (by omega)]; exact hm.2.1
    · rw [o12.1 (s + 3) k (by omega), o12.1 (s + 5) k (by omega)]
      obtain ⟨a1, a2, a3, a4⟩ := hm.2.2 k t hk
      exact ⟨a1, a3⟩

theorem yLs_t {sg : Nat → Nat} (hE : ∀ p, n ≤ p → sg p = 999) : ∀ (k : Nat) (fs : List FE) (p : Nat) (fs' : List FE), n - p < k → p ≤ n → fOk fs p → (∀ t ∈ fs, t.2.1 ≤ n ∧ ∀ u ∈ t.2.2, yOs u) → yLs sg n k fs p = Sum.inr fs' → fOk fs' n ∧ ∀ t ∈ fs', t.2.1 ≤ n ∧ ∀ u ∈ t.2.2, yOs u := by
  intro k
  induction k with
  | zero => intro fs p fs' hk; omega
  | succ k ih =>
    intro fs p fs' hk hp hf ht e
    have eq : yLs sg n (k + 1) fs p = (match yNm sg n (fs.map (fun t => t.1)) p with
    | Sum.inl g => Sum.inl g
    | Sum.inr r => if sg r.1 = 59 then yLs sg n k (fs ++ [(sg p - 65, p, r.2)]) (r.1 + 1) else if r.1 < n then Sum.inl (1, r.1) else Sum.inr (fs ++ [(sg p - 65, p, r.2)])) := rfl
    rw [eq] at e
    cases hn : yNm sg n (fs.map (fun t => t.1)) p with
    | inl g => rw [hn] at e; cases e
    | inr r =>
      rw [hn] at e
      obtain ⟨s1, s2, s3⟩ := fOk_s hE hf hp hn
      have hos : ∀ u ∈ r.2, yOs u := by
        unfold yNm at hn
        by_cases q1 : yLt (sg p) = true
        · rw [if_pos q1] at hn
          by_cases q2 : (sg p - 65) ∈ fs.map (fun t => t.1)
          · rw [if_pos q2] at hn; cases hn
          · rw [if_neg q2] at hn
            by_cases q3 : (fs.map (fun t => t.1)).length = 10
            · rw [if_pos q3] at hn; cases hn
            · rw [if_neg q3] at hn
              by_cases q4 : sg (p + 1) = 61
              · rw [if_pos q4] at hn
                have hl2 : p + 1 < n := y_lt hE (by omega)
                obtain ⟨-, z2⟩ := yCh_S hE 10 0 (by omega) (by omega) (p + 2) [] [] (by omega) yTL_nil rfl
                obtain ⟨z3, z4, -, -, code, -, -, -, z5⟩ := z2 r hn
                exact z5.2.2.1
              · rw [if_neg q4] at hn; cases hn
        · rw [if_neg q1] at hn; cases hn
      have ht' : ∀ t ∈ fs ++ [(sg p - 65, p, r.2)], t.2.1 ≤ n ∧ ∀ u ∈ t.2.2, yOs u := fun t h => by
        rcases List.mem_append.mp h with h | h
        · exact ht t h
        · obtain rfl := List.mem_singleton.mp h
          exact ⟨hp, hos⟩
      dsimp only at e
      by_cases q59 : sg r.1 = 59
      · have hl : r.1 < n := y_lt hE (by omega)
        rw [if_pos q59] at e
        exact ih _ _ _ (by omega) (by omega) ⟨s3.1, s3.2.1, s3.2.2.1, by have := s3.2.2.2; omega⟩ ht' e
      · rw [if_neg q59] at e
        by_cases q : r.1 < n
        · rw [if_pos q] at e; cases e
        · rw [if_neg q] at e
          cases e
          obtain rfl : r.1 = n := by omega
          exact ⟨s3, ht'⟩
theorem fsS_m {fs : List FE} {u : Nat × Nat} (h : u ∈ fsS fs) : ∃ t ∈ fs, u ∈ t.2.2 := by
  unfold fsS at h
  exact List.mem_flatMap.mp h
/-- what a list's reading comes to in the class -/
theorem readList_g (hK : shK s 200) {M : SM} {T : Nat} (hT : M.1 1 1 = nI T) (hT2 : T ≤ 200) (hn : n ≤ T) :
    ∃ (r : Int32) (M1 : SM), qrd_readList s (nI n) M = some (r, M1) ∧ Ou (s3s s) M M1 ∧ match yLs (sgF M n) n (n + 1) [] 0 with
      | Sum.inl g => r = ((-1000 : Int32) * nI g.1) - nI g.2 ∧ ¬ r = 0
      | Sum.inr fs => match rgO fs with
        | some i => r = ((-1000 : Int32) * nI 6) - nI (plF fs i) ∧ ¬ r = 0
        | none => r = 0 ∧ ∃ rk, rkOk fs rk 27 ∧ cD M1 s fs (orL rk fs.length 27) := by
  have hs := hK.1
  have hE := sgF_E M n
  have h2 := sgF_2 M n
  generalize hsg : sgF M n = sg at hE h2 ⊢
  have k2 := hK.2.1
  -- the start
  generalize hM0 : wI (wI (wI (wI (wI (wI (wI M 3 1 (nI s)) s 2 0) s 3 0) 3 2 (nI n)) 3 3 0) 3 4 0) 3 5 0 = M0
  have hst : qrd_start s (nI n) M = some ((), M0) := by
    unfold qrd_start qsh_empty
    have hps : ¬ Int32.ofNat s < 0 := nI_lt0 (n := s) (by omega)
    have hcl : Int32.toNatClampNeg (Int32.ofNat s) = s := nI_cl (n := s) (by omega)
    rw [ckb (b := (Nat.blt s 1000 && (decide (¬ Int32.ofNat s < 0) && true))) (and_i (blt_iff.mpr (by omega)) (and_i (decide_eq_true hps) rfl)), hcl, ckb hK.kc, ckb (and_i hK.kc (and_i hK.kc rfl)), ob_s, ← hM0]
    rfl
  have g : ∀ c i, M0.1 c i = if c = 3 ∧ i = 5 then 0 else if c = 3 ∧ i = 4 then 0 else if c = 3 ∧ i = 3 then 0 else if c = 3 ∧ i = 2 then nI n else if c = s ∧ i = 3 then 0 else if c = s ∧ i = 2 then 0 else if c = 3 ∧ i = 1 then nI s else M.1 c i := fun c i => by rw [← hM0, wI_1, wI_1, wI_1, wI_1, wI_1, wI_1, wI_1]
  have o0 : Ou (s3s s) M M0 := ⟨fun c i q => by unfold s3s at q; rw [g, if_neg (by omega), if_neg (by omega), if_neg (by omega), if_neg (by omega), if_neg (by omega), if_neg (by omega), if_neg (by omega)], by rw [← hM0]; rfl⟩
  have ht0 : tE M0 sg n := ⟨⟨T, by rw [o0.1 1 1 (by unfold s3s; omega)]; exact hT, hT2, hn⟩, fun p hp => by rw [o0.1 2 p (by unfold s3s; omega), ← hsg]; exact sgF_v M hp⟩
  have hc0 : cSh M0 s n 0 := ⟨by rw [g, if_neg (by omega), if_neg (by omega), if_neg (by omega), if_neg (by omega), if_neg (by omega), if_neg (by omega), if_pos ⟨rfl, rfl⟩], by rw [g, if_neg (by omega), if_neg (by omega), if_neg (by omega), if_pos ⟨rfl, rfl⟩], by rw [g, if_neg (by omega), if_neg (by omega), if_pos ⟨rfl, rfl⟩]; rfl, by rw [g, if_neg (by omega), if_pos ⟨rfl, rfl⟩]⟩
  have hm0 : cM M0 s [] := ⟨⟨by rw [g, if_neg (by omega), if_neg (by omega), if_neg (by omega), if_neg (by omega), if_neg (by omega), if_pos ⟨rfl, rfl⟩]; rfl, fun i t hi => by cases hi⟩, by rw [g, if_neg (by omega), if_neg (by omega), if_neg (by omega), if_neg (by omega), if_pos ⟨rfl, rfl⟩]; rfl, fun k t hk => by cases hk⟩
  have hf0 : fOk [] 0 := ⟨by simp, fun t ht => by simp at ht, by simp, Nat.le_refl _⟩
  obtain ⟨M1, x1, x2, x3⟩ := readListL_g hK (n := n) (by omega) hE h2 (K2 := fun M16 => jn (fun (M19 : SM) =>
      ob (qrd_answer M19) (fun r20 M21 =>
        some (r20, M21))) (fun j23 =>
    if (M16.1 3 4) = 0 then
    (ob (qrd_findRing M16) (fun _ M24 =>
      j23 M24)) else
    (j23 M16))) (n + 1) FU 0 0 M0 [] (by omega) (by unfold FU; omega) (by omega) ht0 (by omega) hc0 hm0 hf0
  have run : qrd_readList s (nI n) M = (jn (fun (M19 : SM) =>
      ob (qrd_answer M19) (fun r20 M21 =>
        some (r20, M21))) (fun j23 =>
    if (M1.1 3 4) = 0 then
    (ob (qrd_findRing M1) (fun _ M24 =>
      j23 M24)) else
    (j23 M1))) := by
    unfold qrd_readList
    rw [hst, ob_s]
    exact x1
  have o01 : Ou (s3s s) M M1 := o0.tr (x2.mono (fun c i z => by unfold rdA at z; unfold s3s; omega))
  rw [run]
  simp only [jn_ap]
  cases hy : yLs sg n (n + 1) [] 0 with
  | inl gg =>
    rw [hy] at x3
    have hb := yLs_b hE (n + 1) [] 0 (by omega) (by omega) hf0 gg hy
    have hfl := x3.2.2.1
    rw [if_neg (fault_ne hfl.1 hfl.2.1 hfl.2.2)]
    refine ⟨_, M1, ?_, o01, rfl, nzF gg.1 (by omega) gg.2 (by omega) hfl.1⟩
    unfold qrd_answer
    rw [if_neg (fault_ne hfl.1 hfl.2.1 hfl.2.2), ob_s, hfl.2.2, x3.2.2.2]
  | inr fs =>
    rw [hy] at x3
    obtain ⟨y1, y2, y3⟩ := x3
    obtain ⟨-, hall⟩ := yLs_t hE (n + 1) [] 0 fs (by omega) (by omega) hf0 (fun t ht => by simp at ht) hy
    have hpos := (yLs_1 hE (n + 1) [] 0 fs hy).1
    obtain ⟨M2, z1, z2, z3⟩ := findRing_g hK y1.1 y1.2.2.2 y2 y3 hpos (fun t ht => (hall t ht).2) (fun t ht => by have := (hall t ht).1; omega)
    rw [if_pos y1.2.2.2, z1, ob_s]
    dsimp only
    cases hr : rgO fs with
    | some i =>
      rw [hr] at z3
      obtain ⟨w1, w2⟩ := z3
      obtain ⟨-, hi⟩ := fstI_s _ _ _ hr
      have hu : fs[i]? = some fs[i] := List.getElem?_eq_getElem (by omega)
      have hpl : plF fs i ≤ 200 := by rw [plF_e hu]; have := (hall _ (List.getElem_mem (show i < fs.length by omega))).1; omega
      have hne : ¬ M2.1 3 4 = 0 := by rw [w1]; decide
      refine ⟨_, M2, ?_, o01.tr z2, rfl, nzF 6 (by omega) (plF fs i) (by omega) (by omega)⟩
      unfold qrd_answer
      rw [if_neg hne, ob_s, w1, w2]
    | none =>
      rw [hr] at z3
      obtain ⟨w1, w2⟩ := z3
      refine ⟨0, M2, ?_, o01.tr z2, rfl, w2⟩
      unfold qrd_answer
      rw [if_pos w1, ob_s]
end
