/-! faults stay inside; what steps rest on -/
section
variable {sg : Nat → Nat} {n : Nat}
def yFB (n : Nat) (sub : Nat → yR) : Prop := ∀ p, p ≤ n → ∀ f, sub p = Sum.inl f → f.2 ≤ n
theorem yDs_l (hE : ∀ p, n ≤ p → sg p = 999) : ∀ (k p v q : Nat), p ≤ n → yDs sg k p v = Sum.inl q → q ≤ n := by
  intro k
  induction k with
  | zero =>
    intro p v q hp h
    unfold yDs at h
    by_cases z : yDg (sg p) = true
    · rw [if_pos z] at h; cases h; exact hp
    · rw [if_neg z] at h; cases h
  | succ k ih =>
    intro p v q hp h
    unfold yDs at h
    by_cases z : yDg (sg p) = true
    · have := yDg_iff.mp z
      have hl : p < n := y_lt hE (by omega)
      rw [if_pos z] at h; exact ih _ _ _ (by omega) h
    · rw [if_neg z] at h; cases h
theorem yFa_b (hE : ∀ p, n ≤ p → sg p = 999) {o : Nat} {ch : Nat → Nat → yR} (hS : o < 6 → yChS sg n (o + 1) (ch (o + 1))) (h : o < 6 → yFB n (ch (o + 1))) : yFB n (yFa sg ch o) := by
  intro p hp f e
  unfold yFa at e
  by_cases q1 : sg p = 40
  · have hl : p < n := y_lt hE (by omega)
    rw [if_pos q1] at e
    by_cases q2 : o < 6
    · rw [if_pos q2] at e
      cases hc : ch (o + 1) (p + 1) with
      | inl g => rw [hc] at e; cases e; exact h q2 (p + 1) (by omega) _ hc
      | inr r =>
        rw [hc] at e
        obtain ⟨-, y2⟩ := hS q2 (p + 1) [] [] (by omega) yTL_nil rfl
        obtain ⟨y3, y4, -⟩ := y2 r hc
        dsimp only at e
        by_cases q3 : sg r.1 = 41
        · rw [if_pos q3] at e; cases e
        · rw [if_neg q3] at e; cases e; exact y4
    · rw [if_neg q2] at e; cases e; exact hp
  · rw [if_neg q1] at e
    by_cases q2 : yDg (sg p) = true
    · rw [if_pos q2] at e
      cases hd : yDs sg 6 p 0 with
      | inl q => rw [hd] at e; cases e; exact yDs_l hE 6 p 0 q hp hd
      | inr r => rw [hd] at e; cases e
    · rw [if_neg q2] at e
      by_cases q3 : yLt (sg p) = true
      · rw [if_pos q3] at e; cases e
      · rw [if_neg q3] at e
        cases hf : yFc (sg p) with
        | none => rw [hf] at e; cases e; exact hp
        | some w => rw [hf] at e; cases e
theorem yBi_b (hE : ∀ p, n ≤ p → sg p = 999) {o l : Nat} {sub : Nat → yR} (hS : ySim sg n (l + 1) o sub) (h : yFB n sub) : yFB n (yBi sg n l sub) := by
  have lo : ∀ (k p : Nat) (s : yL), n - p < k → p ≤ n → ∀ f, yLo sg l sub k p s = Sum.inl f → f.2 ≤ n := by
    intro k
    induction k with
    | zero => intro p s hk; omega
    | succ k ih =>
      intro p s hk hp f e
      have eq : yLo sg l sub (k + 1) p s = if yLv l (sg p) = true then
        (match sub (p + 1) with
        | Sum.inl f => Sum.inl f
        | Sum.inr r => yLo sg l sub k r.1 (s ++ r.2 ++ [(sg p, 0)]))
        else Sum.inr (p, s) := rfl
      rw [eq] at e
      by_cases q : yLv l (sg p) = true
      · rw [if_pos q] at e
        have hl : p < n := y_lt hE (fun z => by rw [z] at q; exact absurd q (show ¬ yLv l 999 = true from Bool.false_ne_true))
        cases hs : sub (p + 1) with
        | inl g => rw [hs] at e; cases e; exact h _ (by omega) _ hs
        | inr r =>
          rw [hs] at e
          obtain ⟨-, y2⟩ := hS (p + 1) [] [] (by omega) yTL_nil
          obtain ⟨y3, y4, -⟩ := y2 r hs
          exact ih r.1 _ (by omega) y4 f e
      · rw [if_neg q] at e; cases e
  intro p hp f e
  unfold yBi at e
  cases hs : sub p with
  | inl g => rw [hs] at e; cases e; exact h _ hp _ hs
  | inr r =>
    rw [hs] at e
    obtain ⟨-, y2⟩ := hS p [] [] hp yTL_nil
    obtain ⟨y3, y4, -⟩ := y2 r hs
    exact lo (n + 1) r.1 r.2 (by omega) y4 f e
theorem yC1_b (hE : ∀ p, n ≤ p → sg p = 999) {o : Nat} (ho6 : o ≤ 6) {ch : Nat → Nat → yR} (hS : o < 6 → yChS sg n (o + 1) (ch (o + 1))) (h : o < 6 → yFB n (ch (o + 1))) : yFB n (yC1 sg n ch o) := by
  have S0 := yFa_S hE ho6 hS
  have S1 := yBi_S hE (l := 3) S0
  have S2 := yBi_S hE (l := 2) S1
  have S3 : ySim sg n 1 o (ySu sg n ch o) := yBi_S hE (l := 1) S2
  have hb : yFB n (ySu sg n ch o) := yBi_b hE S2 (yBi_b hE S1 (yBi_b hE S0 (yFa_b hE hS h)))
  intro p hp f e
  unfold yC1 at e
  cases h1 : ySu sg n ch o p with
  | inl g => rw [h1] at e; cases e; exact hb _ hp _ h1
  | inr r1 =>
    rw [h1] at e
    obtain ⟨-, y2⟩ := S3 p [] [] hp yTL_nil
    obtain ⟨y3, y4, -⟩ := y2 r1 h1
    dsimp only at e
    cases hcm : yCm (sg r1.1) with
    | none => rw [hcm] at e; cases e
    | some op =>
      have hl1 := y_ltcm hE hcm
      rw [hcm] at e
      dsimp only at e
      cases h2 : ySu sg n ch o (r1.1 + 1) with
      | inl g => rw [h2] at e; cases e; exact hb _ (by omega) _ h2
      | inr r2 =>
        rw [h2] at e
        obtain ⟨-, z2⟩ := S3 (r1.1 + 1) [] [] (by omega) yTL_nil
        obtain ⟨z3, z4, -⟩ := z2 r2 h2
        dsimp only at e
        by_cases q63 : sg r2.1 = 63
        · have hl2 : r2.1 < n := y_lt hE (by omega)
          rw [if_pos q63] at e
          by_cases q6 : o < 6
          · rw [if_pos q6] at e
            cases h3 : ch (o + 1) (r2.1 + 1) with
            | inl g => rw [h3] at e; cases e; exact h q6 _ (by omega) _ h3
            | inr r3 =>
              rw [h3] at e
              obtain ⟨-, w2⟩ := hS q6 (r2.1 + 1) [] [] (by omega) yTL_nil rfl
              obtain ⟨w3, w4, -⟩ := w2 r3 h3
              dsimp only at e
              by_cases q58 : sg r3.1 = 58
              · have hl3 : r3.1 < n := y_lt hE (by omega)
                rw [if_pos q58] at e
                cases h4 : ch (o + 1) (r3.1 + 1) with
                | inl g => rw [h4] at e; cases e; exact h q6 _ (by omega) _ h4
                | inr r4 => rw [h4] at e; cases e
              · rw [if_neg q58] at e; cases e; exact w4
          · rw [if_neg q6] at e; cases e; exact z4
        · rw [if_neg q63] at e; cases e; exact z4
theorem yCh_b (hE : ∀ p, n ≤ p → sg p = 999) : ∀ k o, 7 ≤ k + o → o ≤ 6 → yFB n (yCh sg n k o) := by
  intro k
  induction k with
  | zero => intro o h h2; omega
  | succ k ih =>
    intro o h h2
    exact yC1_b hE h2 (fun h3 => yCh_S hE k (o + 1) (by omega) (by omega)) (fun h3 => ih (o + 1) (by omega) (by omega))
theorem yNm_b (hE : ∀ p, n ≤ p → sg p = 999) {ls : List Nat} {p : Nat} (hp : p ≤ n) {f : Nat × Nat} (e : yNm sg n ls p = Sum.inl f) : f.2 ≤ n := by
  unfold yNm at e
  by_cases q1 : yLt (sg p) = true
  · have := yLt_iff.mp q1
    have hl : p < n := y_lt hE (by omega)
    rw [if_pos q1] at e
    by_cases q2 : (sg p - 65) ∈ ls
    · rw [if_pos q2] at e; cases e; exact hp
    · rw [if_neg q2] at e
      by_cases q3 : ls.length = 10
      · rw [if_pos q3] at e; cases e; exact hp
      · rw [if_neg q3] at e
        by_cases q4 : sg (p + 1) = 61
        · have hl2 : p + 1 < n := y_lt hE (by omega)
          rw [if_pos q4] at e; exact yCh_b hE 10 0 (by omega) (by omega) _ (by omega) _ e
        · rw [if_neg q4] at e; cases e; show p + 1 ≤ n; omega
  · rw [if_neg q1] at e; cases e; exact hp
/-- one formula more -/
theorem fOk_s (hE : ∀ p, n ≤ p → sg p = 999) {fs : List FE} {q : Nat} {r : Nat × yL} (hf : fOk fs q) (hq : q ≤ n) (e : yNm sg n (fs.map (fun t => t.1)) q = Sum.inr r) : q < r.1 ∧ r.1 ≤ n ∧ fOk (fs ++ [(sg q - 65, q, r.2)]) r.1 := by
  obtain ⟨f10, f26, fnd, fl⟩ := hf
  unfold yNm at e
  by_cases q1 : yLt (sg q) = true
  · have := yLt_iff.mp q1
    have hl : q < n := y_lt hE (by omega)
    rw [if_pos q1] at e
    by_cases q2 : (sg q - 65) ∈ fs.map (fun t => t.1)
    · rw [if_pos q2] at e; cases e
    · rw [if_neg q2, List.length_map] at e
      by_cases q3 : fs.length = 10
      · rw [if_pos q3] at e; cases e
      · rw [if_neg q3] at e
        by_cases q4 : sg (q + 1) = 61
        · have hl2 : q + 1 < n := y_lt hE (by omega)
          rw [if_pos q4] at e
          obtain ⟨-, z2⟩ := yCh_S hE 10 0 (by omega) (by omega) (q + 2) [] [] (by omega) yTL_nil rfl
          obtain ⟨z3, z4, -, -, code, -, -, z5, -⟩ := z2 r e
          refine ⟨by omega, z4, ?_, fun t ht => ?_, ?_, ?_⟩
          · rw [List.length_append, List.length_singleton]; omega
          · rcases List.mem_append.mp ht with ht | ht
            · exact f26 t ht
            · obtain rfl := List.mem_singleton.mp ht
              show sg q - 65 < 26
              omega
          · rw [List.map_append, List.nodup_append]
            refine ⟨fnd, by simp, fun a ha b hb => ?_⟩
            have hb' : b = sg q - 65 := by simpa using hb
            rintro rfl
            exact q2 (hb' ▸ ha)
          · rw [fsS_app, fsS_1, List.length_append]; show (fsS fs).length + r.2.length ≤ r.1; omega
        · rw [if_neg q4] at e; cases e
  · rw [if_neg q1] at e; cases e
theorem yLs_b (hE : ∀ p, n ≤ p → sg p = 999) : ∀ (k : Nat) (fs : List FE) (p : Nat), n - p < k → p ≤ n → fOk fs p → ∀ f, yLs sg n k fs p = Sum.inl f → f.2 ≤ n := by
  intro k
  induction k with
  | zero => intro fs p hk; omega
  | succ k ih =>
    intro fs p hk hp hf f e
    have eq : yLs sg n (k + 1) fs p = (match yNm sg n (fs.map (fun t => t.1)) p with
    | Sum.inl g => Sum.inl g
    | Sum.inr r => if sg r.1 = 59 then yLs sg n k (fs ++ [(sg p - 65, p, r.2)]) (r.1 + 1) else if r.1 < n then Sum.inl (1, r.1) else Sum.inr (fs ++ [(sg p - 65, p, r.2)])) := rfl
    rw [eq] at e
    cases hn : yNm sg n (fs.map (fun t => t.1)) p with
    | inl g => rw [hn] at e; cases e; exact yNm_b hE hp hn
    | inr r =>
      rw [hn] at e
      obtain ⟨s1, s2, s3⟩ := fOk_s hE hf hp hn
      dsimp only at e
      by_cases q59 : sg r.1 = 59
      · have hl : r.1 < n := y_lt hE (by omega)
        rw [if_pos q59] at e
        exact ih _ _ (by omega) (by omega) ⟨s3.1, s3.2.1, s3.2.2.1, by have := s3.2.2.2; omega⟩ f e
      · rw [if_neg q59] at e
        by_cases q : r.1 < n
        · rw [if_pos q] at e; cases e; exact s2
        · rw [if_neg q] at e; cases e
theorem yLs_1 (hE : ∀ p, n ≤ p → sg p = 999) : ∀ (k : Nat) (fs : List FE) (p : Nat) (fs' : List FE), yLs sg n k fs p = Sum.inr fs' → 0 < fs'.length ∧ fs.length < fs'.length := by
  intro k
  induction k with
  | zero => intro fs p fs' e; cases e
  | succ k ih =>
    intro fs p fs' e
    have eq : yLs sg n (k + 1) fs p = (match yNm sg n (fs.map (fun t => t.1)) p with
    | Sum.inl g => Sum.inl g
    | Sum.inr r => if sg r.1 = 59 then yLs sg n k (fs ++ [(sg p - 65, p, r.2)]) (r.1 + 1) else if r.1 < n then Sum.inl (1, r.1) else Sum.inr (fs ++ [(sg p - 65, p, r.2)])) := rfl
    rw [eq] at e
    cases hn : yNm sg n (fs.map (fun t => t.1)) p with
    | inl g => rw [hn] at e; cases e
    | inr r =>
      rw [hn] at e
      dsimp only at e
      by_cases q59 : sg r.1 = 59
      · rw [if_pos q59] at e
        have := ih _ _ _ e
        rw [List.length_append, List.length_singleton] at this
        omega
      · rw [if_neg q59] at e
        by_cases q : r.1 < n
        · rw [if_pos q] at e; cases e
        · rw [if_neg q] at e
          cases e
          rw [List.length_append, List.length_singleton]
          omega
end
theorem yE1_d {F F' : FA} {K K' : LE} (hF : ∀ i, i < 10 → F i = F' i) {t : Nat × Nat} (ht : yOs t) (hK : t.1 = 65 → K t.2 = K' t.2) (k : List Int64) : yE1 F K t k = yE1 F' K' t k := by
  unfold yE1
  by_cases q1 : t.1 = 48
  · rw [if_pos q1, if_pos q1]
  · rw [if_neg q1, if_neg q1]
    by_cases q2 : t.1 = 65
    · rw [if_pos q2, if_pos q2, hK q2]
    · rw [if_neg q2, if_neg q2]
      by_cases q3 : t.1 = 102
      · have : t.2 < 10 := by
          rcases ht with h | h | h | ⟨-, ⟨op, h⟩ | ⟨op, h⟩⟩
          · omega
          · omega
          · omega
          · have := yOp_c h; omega
          · have := yCm_c h; omega
        rw [if_pos q3, if_pos q3, hF _ this]
      · rw [if_neg q3, if_neg q3]
theorem yEv_d {F F' : FA} {K K' : LE} (hF : ∀ i, i < 10 → F i = F' i) : ∀ (s : yL) (k : List Int64), (∀ t ∈ s, yOs t) → (∀ y, (65, y) ∈ s → K y = K' y) → yEv F K s k = yEv F' K' s k
  | [], _, _, _ => rfl
  | t :: s, k, h1, h2 => by
    show (match yE1 F K t k with
      | none => none
      | some k => yEv F K s k) = (match yE1 F' K' t k with
      | none => none
      | some k => yEv F' K' s k)
    rw [yE1_d (K := K) (K' := K') hF (h1 t (by simp)) (fun q => h2 t.2 (by rw [← q]; simp)) k]
    cases yE1 F' K' t k with
    | none => rfl
    | some k => exact yEv_d hF s k (fun u hu => h1 u (List.mem_cons_of_mem _ hu)) (fun y hy => h2 y (List.mem_cons_of_mem _ hy))
theorem evO_c {x : Nat → Nat} {e e' : Nat → LE → Int64} : ∀ (t : List Nat) (K K' : LE), (∀ k ∈ t, ∀ L L' : LE, (∀ y, y < 26 → L y = L' y) → e k L = e' k L') → (∀ y, y < 26 → K y = K' y) → ∀ y, y < 26 → evO x e t K y = evO x e' t K' y
  | [], _, _, _, h, y, hy => h y hy
  | k :: t, K, K', he, h, y, hy => by
    show evO x e t _ y = evO x e' t _ y
    refine evO_c t _ _ (fun q hq => he q (List.mem_cons_of_mem _ hq)) (fun y hy => ?_) y hy
    by_cases q : y = x k
    · rw [if_pos q, if_pos q]; exact he k (by simp) K K' h
    · rw [if_neg q, if_neg q]; exact h y hy
theorem evO_x {x : Nat → Nat} {e e' : Nat → LE → Int64} : ∀ (t : List Nat) (K : LE), (∀ k ∈ t, ∀ L : LE, e k L = e' k L) → evO x e t K = evO x e' t K
  | [], _, _ => rfl
  | k :: t, K, he => by
    show evO x e t _ = evO x e' t _
    rw [he k (by simp)]
    exact evO_x t _ (fun q hq => he q (List.mem_cons_of_mem _ hq))
