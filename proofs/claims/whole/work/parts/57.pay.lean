/-! payments: the fewest, over all parts of those that are not even -/
/-- what a part comes to -/
def smN (u : Nat → Int64) : Nat → Nat → Int64
  | 0, _ => 0
  | n + 1, s => smN u n s + (if s.testBit n then u n else 0)
theorem smN_s (u : Nat → Int64) (n s : Nat) : smN u (n + 1) s = smN u n s + (if s.testBit n then u n else 0) := rfl
theorem smN_congr (u : Nat → Int64) : ∀ n s t, (∀ i, i < n → s.testBit i = t.testBit i) → smN u n s = smN u n t
  | 0, _, _, _ => rfl
  | n + 1, s, t, h => by
    unfold smN
    rw [smN_congr u n s t (fun i hi => h i (by omega)), h n (by omega)]
theorem smN_rm (u : Nat → Int64) : ∀ n s i, i < n → s.testBit i = true → smN u n (s ^^^ 2 ^ i) + u i = smN u n s
  | 0, _, _, h, _ => by omega
  | n + 1, s, i, h, hb => by
    unfold smN
    by_cases q : i = n
    · subst q
      rw [smN_congr u i (s ^^^ 2 ^ i) s (fun j hj => by rw [Nat.testBit_xor, Nat.testBit_two_pow, decide_eq_false (show ¬ i = j by omega)]; simp), Nat.testBit_xor, Nat.testBit_two_pow]
      simp [hb]
    · have h1 := smN_rm u n s i (by omega) hb
      rw [← h1, Nat.testBit_xor, Nat.testBit_two_pow]
      simp [q]
      rw [Int64.add_assoc, Int64.add_comm (if s.testBit n = true then u n else 0), ← Int64.add_assoc]
theorem smN_0 (u : Nat → Int64) : ∀ n, smN u n 0 = 0
  | 0 => rfl
  | n + 1 => by unfold smN; rw [smN_0 u n]; simp
theorem smN_top (u : Nat → Int64) (n s : Nat) (h : s < 2 ^ n) : smN u (n + 1) (2 ^ n + s) = smN u n s + u n := by
  rw [smN_s]
  have e : 2 ^ n + s = 2 ^ n ||| s := (or_pow h).symm
  rw [smN_congr u n (2 ^ n + s) s (fun i hi => by rw [e, Nat.testBit_or, Nat.testBit_two_pow, decide_eq_false (show ¬ n = i by omega)]; simp), e, Nat.testBit_or, Nat.testBit_two_pow]
  simp
theorem smN_low (u : Nat → Int64) (n s : Nat) (h : s < 2 ^ n) : smN u (n + 1) s = smN u n s := by
  rw [smN_s]
  rw [Nat.testBit_lt_two_pow h]
  simp
/-- the best of the parts with one less -/
def beN (T : Nat → Int32) (s : Nat) : Nat → Int32
  | 0 => 0
  | i + 1 => if s.testBit i then imx (beN T s i) (T (s ^^^ 2 ^ i)) else beN T s i
theorem beN_s (T : Nat → Int32) (s i : Nat) : beN T s (i + 1) = if s.testBit i then imx (beN T s i) (T (s ^^^ 2 ^ i)) else beN T s i := rfl
theorem beN_congr {T T' : Nat → Int32} {s : Nat} (h : ∀ t, t < s → T t = T' t) : ∀ i, beN T s i = beN T' s i
  | 0 => rfl
  | i + 1 => by
    unfold beN
    rw [beN_congr h i]
    by_cases q : s.testBit i = true
    · rw [if_pos q, if_pos q, h _ (xor_lt q)]
    · rw [if_neg q, if_neg q]
def taN (u : Nat → Int64) (n : Nat) : Nat → Nat → Int32
  | 0 => fun _ => 0
  | s + 1 => fun t => if t = s + 1 then beN (taN u n s) (s + 1) n + (if smN u n (s + 1) = 0 then 1 else 0) else taN u n s t
theorem cmp_0 (x : Int64) : (lg_cmp x 0 = 0) = (x = 0) := cmp_eq x 0
theorem two_31 {i : Nat} (h : i < 31) : 2 ^ i < 2147483648 := by
  have : 2 ^ i < 2 ^ 31 := Nat.pow_lt_pow_right (by decide) h
  omega
theorem two_12 {i : Nat} (h : i ≤ 12) : 2 ^ i ≤ 4096 := by
  have : 2 ^ i ≤ 2 ^ 12 := Nat.pow_le_pow_right (by decide) h
  omega
theorem takeSet_L5_g {K : Int32 → Int32 → SM → Option (Unit × SM)} {u : Nat → Int64} {T : Nat → Int32} {n s : Nat} (hn : n ≤ 12) (hs : s < 4096) : ∀ fu i (M : SM), n - i < fu → i ≤ n → (∀ t, t < s → M.1 277 t = T t) → (∀ t, t < s → M.2 276 t = smN u n t) → (∀ j, j < n → M.2 275 j = u j) →
    ∃ M' : SM, qdb_takeSet_L5 K fu (nI s) (nI n) (beN T s i) (nI i) M = K (nI s) (beN T s n) M' ∧ M'.1 = M.1 ∧ (∀ c t, ¬ (c = 276 ∧ t = s) → M'.2 c t = M.2 c t) ∧ ((∃ j, i ≤ j ∧ j < n ∧ s.testBit j = true) ∨ M.2 276 s = smN u n s → M'.2 276 s = smN u n s) := by
  intro fu
  induction fu with
  | zero => intro i M hf; omega
  | succ fu ih =>
    intro i M hf hi hT hS hU
    unfold qdb_takeSet_L5
    by_cases hlt : i < n
    · have h2 : nI i < (12 : Int32) := nl_12 (by omega)
      rw [if_pos ((nI_ltI (by omega) (by omega)).mpr hlt), if_pos h2, sh1_nI i (by omega), bit_rm (by omega), nI_1]
      by_cases hb : s.testBit i = true
      · have hx := xor_lt hb
        have e1 : beN T s (i + 1) = imx (beN T s i) (T (s ^^^ 2 ^ i)) := by rw [beN_s, if_pos hb]
        rw [if_pos hb, if_neg (by rw [nI_eqN (by omega) (by omega)]; omega), if_neg (nI_lt0 (by omega)), if_pos (nl_4096 (by omega)), ck_ib (by omega) (by omega), ck_t, ltt_s, if_neg (nI_lt0 (by omega)), if_pos (nl_4096 (by omega)), ck_ib (by omega) (by omega), ck_ib (by omega) (by omega), ck_ib (by omega) (by omega), ck_t, nI_cl (by omega), nI_cl (by omega), nI_cl (by omega), hT _ hx, hS _ hx, hU i hlt, smN_rm u n s i hlt hb, ← e1]
        obtain ⟨M', f1, f2, f3, f4⟩ := ih (i + 1) (wL M 276 s (smN u n s)) (by omega) (by omega) hT (fun t ht => by rw [wL_2, if_neg (by omega)]; exact hS t ht) (fun j hj => by rw [wL_2, if_neg (by omega)]; exact hU j hj)
        refine ⟨M', f1, f2, fun c t q => ?_, fun _ => f4 (Or.inr ?_)⟩
        · rw [f3 c t q, wL_2, if_neg q]
        · rw [wL_2, if_pos ⟨rfl, rfl⟩]
      · have e1 : beN T s (i + 1) = beN T s i := by
          show (if s.testBit i then _ else beN T s i) = _
          rw [if_neg hb]
        rw [if_neg hb, if_pos rfl]
        obtain ⟨M', f1, f2, f3, f4⟩ := ih (i + 1) M (by omega) (by omega) hT hS hU
        rw [e1] at f1
        refine ⟨M', f1, f2, f3, fun q => f4 ?_⟩
        rcases q with ⟨j, j1, j2, j3⟩ | q
        · refine Or.inl ⟨j, ?_, j2, j3⟩
          rcases Nat.lt_or_ge i j with z | z
          · exact z
          · obtain rfl : j = i := by omega
            exact absurd j3 hb
        · exact Or.inr q
    · obtain rfl : i = n := by omega
      rw [if_neg (nI_nlt (Nat.le_refl _) (by omega))]
      refine ⟨M, rfl, rfl, fun _ _ _ => rfl, fun q => ?_⟩
      rcases q with ⟨j, j1, j2, j3⟩ | q
      · omega
      · exact q
theorem bit_ex {s n : Nat} (h0 : 0 < s) (h : s < 2 ^ n) : ∃ j, 0 ≤ j ∧ j < n ∧ s.testBit j = true := by
  apply Classical.byContradiction
  intro q
  have : s = 0 := by
    apply Nat.eq_of_testBit_eq; intro j
    rw [Nat.zero_testBit]
    rcases Nat.lt_or_ge j n with z | z
    · cases e : s.testBit j
      · rfl
      · exact absurd ⟨j, by omega, z, e⟩ q
    · exact Nat.testBit_lt_two_pow (Nat.lt_of_lt_of_le h (Nat.pow_le_pow_right (by decide) z))
  omega
theorem takeSet_g {u : Nat → Int64} {n s : Nat} (hn : n ≤ 12) (h0 : 0 < s) (hs : s < 2 ^ n) (M : SM) (hT : ∀ t, t < s → M.1 277 t = taN u n (s - 1) t) (hS : ∀ t, t < s → M.2 276 t = smN u n t) (hU : ∀ j, j < n → M.2 275 j = u j) :
    ∃ M' : SM, qdb_takeSet (nI s) (nI n) M = some ((), M') ∧ (∀ c t, M'.1 c t = if c = 277 ∧ t = s then taN u n s s else M.1 c t) ∧ (∀ c t, M'.2 c t = if c = 276 ∧ t = s then smN u n s else M.2 c t) := by
  have h12 := two_12 hn
  obtain ⟨M1, e1, e2, e3, e4⟩ := takeSet_L5_g (K := fun y1_11 y3_12 M13 =>
  if y1_11 < 0 then
    (some ((), M13)) else
    (if y1_11 < (4096 : Int32) then
      (ck (ib 4096 y1_11 && true) (
        if (lg_cmp (M13.2 276 (Int32.toNatClampNeg y1_11)) (0 : Int64)) = 0 then
        (ck (ib 4096 y1_11 && true) (
          some ((), (wI M13 277 (Int32.toNatClampNeg y1_11) (y3_12 + (1 : Int32)))))) else
        (ck (ib 4096 y1_11 && true) (
          some ((), (wI M13 277 (Int32.toNatClampNeg y1_11) y3_12)))))) else
      (some ((), M13)))) (u := u) (T := taN u n (s - 1)) (n := n) (s := s) hn (by omega) FU 0 M (by unfold FU; omega) (by omega) hT hS hU
  have e5 := e4 (Or.inl (bit_ex h0 hs))
  have et : taN u n s s = beN (taN u n (s - 1)) s n + (if smN u n s = 0 then 1 else 0) := by
    obtain ⟨s', rfl⟩ : ∃ s', s = s' + 1 := ⟨s - 1, by omega⟩
    show (if s' + 1 = s' + 1 then _ else _) = _
    rw [if_pos rfl]; rfl
  refine ⟨wI M1 277 s (taN u n s s), ?_, fun c t => ?_, fun c t => ?_⟩
  · unfold qdb_takeSet
    refine Eq.trans e1 ?_
    rw [if_neg (nI_lt0 (by omega)), if_pos (nl_4096 (by omega)), ck_ib (by omega) (by omega), ck_t, ck_ib (by omega) (by omega), ck_t, ck_ib (by omega) (by omega), ck_t, nI_cl (by omega), e5, et]
    by_cases z : smN u n s = 0
    · rw [if_pos (by rw [cmp_0]; exact z), if_pos z]
    · rw [if_neg (by rw [cmp_0]; exact z), if_neg z, Int32.add_zero]
  · rw [wI_1, e2]
  · rw [wI_2]
    by_cases q : c = 276 ∧ t = s
    · obtain ⟨rfl, rfl⟩ := q
      rw [if_pos ⟨rfl, rfl⟩, e5]
    · rw [if_neg q, e3 c t q]
theorem taN_low (u : Nat → Int64) (n : Nat) : ∀ s t, t ≤ s → taN u n s t = taN u n t t
  | 0, t, h => by obtain rfl : t = 0 := by omega
                  rfl
  | s + 1, t, h => by
    by_cases q : t = s + 1
    · subst q; rfl
    · show (if t = s + 1 then _ else taN u n s t) = _
      rw [if_neg q, taN_low u n s t (by omega)]
theorem mostGroups_L34_g {u : Nat → Int64} {n : Nat} (hn : n ≤ 12) : ∀ fu s (M : SM), 2 ^ n - s < fu → 1 ≤ s → s ≤ 2 ^ n → (∀ t, t < s → M.1 277 t = taN u n t t) → (∀ t, t < s → M.2 276 t = smN u n t) → (∀ j, j < n → M.2 275 j = u j) →
    ∃ M' : SM, qdb_mostGroups_L34 fu (nI n) (nI (2 ^ n - 1)) (nI s) M = some (taN u n (2 ^ n - 1) (2 ^ n - 1), M') ∧ (∀ c t, c ≠ 277 → M'.1 c t = M.1 c t) ∧ (∀ c t, c ≠ 276 → M'.2 c t = M.2 c t) := by
  have h12 := two_12 hn
  have hp := Nat.two_pow_pos n
  intro fu
  induction fu with
  | zero => intro s M hf; omega
  | succ fu ih =>
    intro s M hf h1 hs hT hS hU
    unfold qdb_mostGroups_L34
    by_cases hlt : s < 2 ^ n
    · rw [if_neg (by rw [nI_ltN (by omega) (by omega)]; omega)]
      obtain ⟨M1, e1, e2, e3⟩ := takeSet_g hn (by omega) hlt M (fun t ht => by rw [hT t ht, taN_low u n (s - 1) t (by omega)]) hS hU
      rw [e1, ob_s, nI_1]
      obtain ⟨M2, f1, f2, f3⟩ := ih (s + 1) M1 (by omega) (by omega) (by omega) (fun t ht => by
        rw [e2]
        by_cases q : t = s
        · subst q; rw [if_pos ⟨rfl, rfl⟩]
        · rw [if_neg (by omega)]; exact hT t (by omega)) (fun t ht => by
        rw [e3]
        by_cases q : t = s
        · subst q; rw [if_pos ⟨rfl, rfl⟩]
        · rw [if_neg (by omega)]; exact hS t (by omega)) (fun j hj => by rw [e3, if_neg (by omega)]; exact hU j hj)
      exact ⟨M2, f1, fun c t q => by rw [f2 c t q, e2, if_neg (by omega)], fun c t q => by rw [f3 c t q, e3, if_neg (by omega)]⟩
    · obtain rfl : s = 2 ^ n := by omega
      rw [if_pos (by rw [nI_ltN (by omega) (by omega)]; omega), ck_ib (by omega) (by omega), ck_t, nI_cl (by omega), hT _ (by omega)]
      exact ⟨M, rfl, fun _ _ _ => rfl, fun _ _ _ => rfl⟩
theorem mostGroups_g {u : Nat → Int64} {n : Nat} (hn : n ≤ 12) (M : SM) (hU : ∀ j, j < n → M.2 275 j = u j) :
    ∃ M' : SM, qdb_mostGroups (nI n) M = some (taN u n (2 ^ n - 1) (2 ^ n - 1), M') ∧ (∀ c t, c ≠ 277 → M'.1 c t = M.1 c t) ∧ (∀ c t, c ≠ 276 → M'.2 c t = M.2 c t) := by
  have h12 := two_12 hn
  have hp := Nat.two_pow_pos n
  unfold qdb_mostGroups
  rw [if_neg (nI_lt0 (by omega)), if_neg (by show ¬ nI 12 < nI n; rw [nI_ltN (by omega) (by omega)]; omega), show (0 : Int32) = nI 0 from rfl, ck_ib (by omega) (by omega), ck_ib (by omega) (by omega), ck_t, sh1_nI n (by omega), nI_m1 (by omega), nI_cl (by omega)]
  obtain ⟨M2, f1, f2, f3⟩ := mostGroups_L34_g (u := u) hn FU 1 (wI (wL M 276 0 0) 277 0 (nI 0)) (by unfold FU; omega) (by omega) (by omega) (fun t ht => by
      obtain rfl : t = 0 := by omega
      rw [wI_1, if_pos ⟨rfl, rfl⟩]; rfl) (fun t ht => by
      obtain rfl : t = 0 := by omega
      rw [wI_2, wL_2, if_pos ⟨rfl, rfl⟩, smN_0]) (fun j hj => by rw [wI_2, wL_2, if_neg (by omega)]; exact hU j hj)
  exact ⟨M2, f1, fun c t q => by rw [f2 c t q, wI_1, if_neg (by omega), wL_1], fun c t q => by rw [f3 c t q, wI_2, wL_2, if_neg (by omega)]⟩
/-- how many of the first a are not even; and which -/
def unN (b : Nat → Int64) : Nat → Nat
  | 0 => 0
  | a + 1 => unN b a + (if b a = 0 then 0 else 1)
def uvN (b : Nat → Int64) : Nat → Nat → Int64
  | 0 => fun _ => 0
  | a + 1 => if b a = 0 then uvN b a else fun j => if j = unN b a then b a else uvN b a j
theorem unN_mono (b : Nat → Int64) : ∀ a c, a ≤ c → unN b a ≤ unN b c
  | a, 0, h => by obtain rfl : a = 0 := by omega
                  exact Nat.le_refl _
  | a, c + 1, h => by
    by_cases q : a = c + 1
    · subst q; exact Nat.le_refl _
    · have := unN_mono b a c (by omega)
      have e : unN b (c + 1) = unN b c + (if b c = 0 then 0 else 1) := rfl
      rw [e]
      omega
theorem uvN_low (b : Nat → Int64) : ∀ a c j, a ≤ c → j < unN b a → uvN b c j = uvN b a j
  | a, 0, j, h, hj => by obtain rfl : a = 0 := by omega
                         rfl
  | a, c + 1, j, h, hj => by
    by_cases q : a = c + 1
    · subst q; rfl
    · have h1 := uvN_low b a c j (by omega) hj
      have h2 := unN_mono b a c (by omega)
      show (if b c = 0 then uvN b c else fun j => if j = unN b c then b c else uvN b c j) j = _
      split
      · exact h1
      · show (if j = unN b c then b c else uvN b c j) = _
        rw [if_neg (by omega)]; exact h1
theorem smN_u {u v : Nat → Int64} : ∀ n s, (∀ i, i < n → u i = v i) → smN u n s = smN v n s
  | 0, _, _ => rfl
  | n + 1, s, h => by
    unfold smN
    rw [smN_u n s (fun i hi => h i (by omega)), h n (by omega)]
theorem fewest_L4_g {K : Int32 → SM → Option (Int32 × SM)} {b : Nat → Int64} : ∀ fu a (M : SM), 18 - a < fu → a ≤ 18 → unN b a ≤ 12 → (∀ j, j < 18 → M.2 274 j = b j) → (∀ j, j < unN b a → M.2 275 j = uvN b a j) →
    (12 < unN b 18 ∧ ∃ M' : SM, qdb_fewestPayments_L4 K fu (nI (unN b a)) (nI a) M = some (-1, M') ∧ M'.1 = M.1 ∧ (∀ c t, c ≠ 275 → M'.2 c t = M.2 c t)) ∨
    (unN b 18 ≤ 12 ∧ ∃ M' : SM, qdb_fewestPayments_L4 K fu (nI (unN b a)) (nI a) M = K (nI (unN b 18)) M' ∧ M'.1 = M.1 ∧ (∀ c t, c ≠ 275 → M'.2 c t = M.2 c t) ∧ ∀ j, j < unN b 18 → M'.2 275 j = uvN b 18 j) := by
  intro fu
  induction fu with
  | zero => intro a M hf; omega
  | succ fu ih =>
    intro a M hf ha h12 hB hU
    unfold qdb_fewestPayments_L4
    by_cases hlt : a < 18
    · have e1 : unN b (a + 1) = unN b a + (if b a = 0 then 0 else 1) := rfl
      have e2 : uvN b (a + 1) = if b a = 0 then uvN b a else fun j => if j = unN b a then b a else uvN b a j := rfl
      rw [if_pos (nl_18 hlt), ck_ib (by omega) (by omega), ck_t, nI_cl (by omega), hB a hlt, ic_eq]
      by_cases h0 : b a = 0
      · rw [if_pos h0, nI_1]
        rw [if_pos h0] at e1 e2
        have := ih (a + 1) M (by omega) (by omega) (by omega) hB (by rw [e1, e2]; exact hU)
        rw [e1] at this
        exact this
      · rw [if_neg h0]
        rw [if_neg h0] at e1 e2
        by_cases q : unN b a < 12
        · rw [if_pos (nl_12 q), ck_ib (by omega) (by omega), ck_ib (by omega) (by omega), ck_t, nI_1, nI_1, nI_cl (by omega)]
          have := ih (a + 1) (wL M 275 (unN b a) (b a)) (by omega) (by omega) (by omega) (fun j hj => by rw [wL_2, if_neg (by omega)]; exact hB j hj) (fun j hj => by
            rw [wL_2, e2]
            by_cases z : j = unN b a
            · subst z; rw [if_pos ⟨rfl, rfl⟩]; simp
            · rw [if_neg (by omega)]; show _ = if j = unN b a then b a else uvN b a j
              rw [if_neg z]; exact hU j (by omega))
          rw [e1] at this
          rcases this with ⟨g0, M', g1, g2, g3⟩ | ⟨g0, M', g1, g2, g3, g4⟩
          · exact Or.inl ⟨g0, M', g1, g2, fun c t z => by rw [g3 c t z, wL_2, if_neg (by omega)]⟩
          · exact Or.inr ⟨g0, M', g1, g2, fun c t z => by rw [g3 c t z, wL_2, if_neg (by omega)], g4⟩
        · have h3 := unN_mono b (a + 1) 18 (by omega)
          rw [if_neg (nn_12 (by omega) (by omega))]
          exact Or.inl ⟨by omega, M, rfl, rfl, fun _ _ _ => rfl⟩
    · obtain rfl : a = 18 := by omega
      rw [if_neg (by decide)]
      exact Or.inr ⟨h12, M, rfl, rfl, fun _ _ _ => rfl, hU⟩
theorem mdpay_L34_g {K : Int32 → Int32 → SM → Option (Int32 × SM)} {u : Nat → Int64} {a n : Nat} (hn : n < 12) (ha : a < 18) : ∀ fu s (M : SM), 2 ^ n - s < fu → s ≤ 2 ^ n → M.2 332 a = u n → (∀ t, t < 2 ^ n → M.2 333 t = smN u n t) → (∀ t, t < s → M.2 333 (2 ^ n + t) = smN u (n + 1) (2 ^ n + t)) →
    ∃ M' : SM, qmd_payments_L34 K fu (nI n) (nI a) (nI s) M = K (nI n) (nI a) M' ∧ M'.1 = M.1 ∧ (∀ c t, c ≠ 333 → M'.2 c t = M.2 c t) ∧ ∀ t, t < 2 ^ (n + 1) → M'.2 333 t = smN u (n + 1) t := by
  have h12 : 2 ^ n ≤ 2048 := by
    have : 2 ^ n ≤ 2 ^ 11 := Nat.pow_le_pow_right (by decide) (by omega)
    omega
  intro fu
  induction fu with
  | zero => intro s M hf; omega
  | succ fu ih =>
    intro s M hf hs hA hL hH
    unfold qmd_payments_L34
    rw [sh1_nI n (by omega)]
    by_cases hlt : s < 2 ^ n
    · rw [if_pos ((nI_ltI (by omega) (by omega)).mpr hlt), nx_or, or_pow hlt, ck_ib (by omega) (by omega), ck_ib (by omega) (by omega), ck_ib (by omega) (by omega), ck_t, nI_1, nI_cl (by omega), nI_cl (by omega), nI_cl (by omega), hL s hlt, hA]
      obtain ⟨M', g1, g2, g3, g4⟩ := ih (s + 1) (wL M 333 (2 ^ n + s) (smN u n s + u n)) (by omega) (by omega) (by rw [wL_2, if_neg (by omega)]; exact hA) (fun t ht => by rw [wL_2, if_neg (by omega)]; exact hL t ht) (fun t ht => by
        rw [wL_2]
        by_cases q : t = s
        · subst q; rw [if_pos ⟨rfl, rfl⟩, smN_top u n t hlt]
        · rw [if_neg (by omega)]; exact hH t (by omega))
      exact ⟨M', g1, g2, fun c t z => by rw [g3 c t z, wL_2, if_neg (by omega)], g4⟩
    · obtain rfl : s = 2 ^ n := by omega
      rw [if_neg (nI_nlt (Nat.le_refl _) (by omega))]
      refine ⟨M, rfl, rfl, fun _ _ _ => rfl, fun t ht => ?_⟩
      rw [Nat.pow_succ] at ht
      by_cases q : t < 2 ^ n
      · rw [hL t q, smN_low u n t q]
      · have := hH (t - 2 ^ n) (by omega)
        rwa [show 2 ^ n + (t - 2 ^ n) = t by omega] at this
theorem mdpay_L4_g {K : Int32 → SM → Option (Int32 × SM)} {b : Nat → Int64} : ∀ fu a (M : SM), 18 - a < fu → a ≤ 18 → unN b a ≤ 12 → (∀ j, j < 18 → M.2 332 j = b j) → (∀ t, t < 2 ^ unN b a → M.2 333 t = smN (uvN b a) (unN b a) t) →
    (12 < unN b 18 ∧ ∃ M' : SM, qmd_payments_L4 K fu (nI (unN b a)) (nI a) M = some (-1, M') ∧ M'.1 = M.1 ∧ (∀ c t, c ≠ 333 → M'.2 c t = M.2 c t) ∧ M'.2 333 0 = 0) ∨
    (unN b 18 ≤ 12 ∧ ∃ M' : SM, qmd_payments_L4 K fu (nI (unN b a)) (nI a) M = K (nI (unN b 18)) M' ∧ M'.1 = M.1 ∧ (∀ c t, c ≠ 333 → M'.2 c t = M.2 c t) ∧ ∀ t, t < 2 ^ unN b 18 → M'.2 333 t = smN (uvN b 18) (unN b 18) t) := by
  intro fu
  induction fu with
  | zero => intro a M hf; omega
  | succ fu ih =>
    intro a M hf ha h12 hB hU
    unfold qmd_payments_L4
    by_cases hlt : a < 18
    · have e1 : unN b (a + 1) = unN b a + (if b a = 0 then 0 else 1) := rfl
      have e2 : uvN b (a + 1) = if b a = 0 then uvN b a else fun j => if j = unN b a then b a else uvN b a j := rfl
      rw [if_pos (nl_18 hlt), ck_ib (by omega) (by omega), ck_t, nI_cl (by omega), hB a hlt, ic_eq]
      by_cases h0 : b a = 0
      · rw [if_pos h0, nI_1]
        rw [if_pos h0] at e1 e2
        have := ih (a + 1) M (by omega) (by omega) (by omega) hB (by rw [e1, e2]; exact hU)
        rw [e1] at this
        exact this
      · rw [if_neg h0]
        rw [if_neg h0] at e1 e2
        by_cases q : unN b a < 12
        · rw [if_neg (by show ¬ nI (unN b a) = nI 12; rw [nI_eqN (by omega) (by omega)]; omega)]
          have eu : ∀ i, i < unN b a → uvN b a i = uvN b (a + 1) i := fun i hi => by
            rw [e2]; show _ = if i = unN b a then b a else uvN b a i
            rw [if_neg (by omega)]
          obtain ⟨M1, g1, g2, g3, g4⟩ := mdpay_L34_g (K := fun y1_4 y2_5 M6 => qmd_payments_L4 K fu (y1_4 + (1 : Int32)) (y2_5 + (1 : Int32)) M6) (u := uvN b (a + 1)) q hlt FU 0 M (by
              have h12 : 2 ^ unN b a ≤ 4096 := two_12 (by omega)
              unfold FU; omega) (Nat.zero_le _) (by rw [hB a hlt, e2]; simp) (fun t ht => by rw [hU t ht]; exact smN_u _ _ eu) (fun t ht => by omega)
          rw [show (0 : Int32) = nI 0 from rfl, g1]
          show (_ ∧ ∃ M', qmd_payments_L4 K fu (nI (unN b a) + 1) (nI a + 1) M1 = _ ∧ _) ∨ (_ ∧ ∃ M', qmd_payments_L4 K fu (nI (unN b a) + 1) (nI a + 1) M1 = _ ∧ _)
          rw [nI_1, nI_1, ← e1]
          have := ih (a + 1) M1 (by omega) (by omega) (by omega) (fun j hj => by rw [g3 _ _ (by omega)]; exact hB j hj) (by rw [e1]; exact g4)
          rcases this with ⟨k0, M', k1, k2, k3, k4⟩ | ⟨k0, M', k1, k2, k3, k4⟩
          · exact Or.inl ⟨k0, M', k1, k2.trans g2, fun c t z => (k3 c t z).trans (g3 c t z), k4⟩
          · exact Or.inr ⟨k0, M', k1, k2.trans g2, fun c t z => (k3 c t z).trans (g3 c t z), k4⟩
        · have h3 := unN_mono b (a + 1) 18 (by omega)
          rw [if_pos (by show nI (unN b a) = nI 12; congr 1; omega)]
          refine Or.inl ⟨by omega, M, rfl, rfl, fun _ _ _ => rfl, ?_⟩
          rw [hU 0 (Nat.two_pow_pos _), smN_0]
    · obtain rfl : a = 18 := by omega
      rw [if_neg (by decide)]
      exact Or.inr ⟨h12, M, rfl, rfl, fun _ _ _ => rfl, hU⟩
theorem imx_if (a b : Int32) : imx a b = if a < b then b else a := rfl
theorem mdpay_L94_g {K : Int32 → Int32 → Int32 → SM → Option (Int32 × SM)} {T : Nat → Int32} {n s : Nat} (hn : n ≤ 12) (hs : s < 4096) (M : SM) (hT : ∀ t, t < s → M.1 334 t = T t) : ∀ fu i, n - i < fu → i ≤ n →
    qmd_payments_L94 K fu (nI n) (nI s) (beN T s i) (nI i) M = K (nI n) (nI s) (beN T s n) M := by
  intro fu
  induction fu with
  | zero => intro i hf; omega
  | succ fu ih =>
    intro i hf hi
    unfold qmd_payments_L94
    by_cases hlt : i < n
    · rw [if_pos ((nI_ltI (by omega) (by omega)).mpr hlt), bit_at (by omega) (by omega), nI_1, sh1_nI i (by omega), nx_xor]
      have := ih (i + 1) (by omega) (by omega)
      have e1 : beN T s (i + 1) = if s.testBit i then imx (beN T s i) (T (s ^^^ 2 ^ i)) else beN T s i := rfl
      by_cases hb : s.testBit i = true
      · have hx := xor_lt hb
        rw [if_pos hb] at e1
        rw [if_pos hb, if_pos (show nI 1 = (1 : Int32) from rfl), ck_ib (by omega) (by omega), ck_t, nI_cl (by omega), hT _ hx, ck_ib (by omega) (by omega), ck_t, ltt_s, ← this, e1, imx_if]
        by_cases q : beN T s i < T (s ^^^ 2 ^ i)
        · rw [if_pos q, if_pos q]
        · rw [if_neg q, if_neg q]
      · rw [if_neg hb] at e1
        rw [if_neg hb, if_neg (by decide), ← this, e1]
    · obtain rfl : i = n := by omega
      rw [if_neg (nI_nlt (Nat.le_refl _) (by omega))]
theorem mdpay_L82_g {u : Nat → Int64} {n : Nat} (hn : n ≤ 12) : ∀ fu s (M : SM), 2 ^ n - s < fu → 1 ≤ s → s ≤ 2 ^ n → (∀ t, t < s → M.1 334 t = taN u n t t) → (∀ t, t < 2 ^ n → M.2 333 t = smN u n t) →
    ∃ M' : SM, qmd_payments_L82 fu (nI n) (nI s) M = some (nI n - taN u n (2 ^ n - 1) (2 ^ n - 1), M') ∧ M'.2 = M.2 ∧ (∀ c t, c ≠ 334 → M'.1 c t = M.1 c t) ∧ M'.1 334 0 = M.1 334 0 := by
  have h12 := two_12 hn
  have hp := Nat.two_pow_pos n
  intro fu
  induction fu with
  | zero => intro s M hf; omega
  | succ fu ih =>
    intro s M hf h1 hs hT hS
    unfold qmd_payments_L82
    rw [sh1_nI n (by omega)]
    by_cases hlt : s < 2 ^ n
    · rw [if_pos ((nI_ltI (by omega) (by omega)).mpr hlt)]
      have key := mdpay_L94_g (K := fun y1_18 y2_19 y3_20 M21 =>
      ck (ib 4096 y2_19 && true) (
        if (lg_cmp (M21.2 333 (Int32.toNatClampNeg y2_19)) (0 : Int64)) = 0 then
        (ck (ib 4096 y2_19 && true) (
          qmd_payments_L82 fu y1_18 (y2_19 + (1 : Int32)) (wI M21 334 (Int32.toNatClampNeg y2_19) (y3_20 + (1 : Int32))))) else
        (ck (ib 4096 y2_19 && true) (
          qmd_payments_L82 fu y1_18 (y2_19 + (1 : Int32)) (wI M21 334 (Int32.toNatClampNeg y2_19) (y3_20 + (0 : Int32))))))) (T := taN u n (s - 1)) (n := n) (s := s) hn (by omega) M (fun t ht => by rw [hT t ht, taN_low u n (s - 1) t (by omega)]) FU 0 (by unfold FU; omega) (by omega)
      have et : taN u n s s = beN (taN u n (s - 1)) s n + (if smN u n s = 0 then 1 else 0) := by
        obtain ⟨s', rfl⟩ : ∃ s', s = s' + 1 := ⟨s - 1, by omega⟩
        show (if s' + 1 = s' + 1 then _ else _) = _
        rw [if_pos rfl]; rfl
      have step : qmd_payments_L82 fu (nI n) (nI (s + 1)) (wI M 334 s (taN u n s s)) = (fun y1_18 y2_19 y3_20 M21 =>
      ck (ib 4096 y2_19 && true) (
        if (lg_cmp (M21.2 333 (Int32.toNatClampNeg y2_19)) (0 : Int64)) = 0 then
        (ck (ib 4096 y2_19 && true) (
          qmd_payments_L82 fu y1_18 (y2_19 + (1 : Int32)) (wI M21 334 (Int32.toNatClampNeg y2_19) (y3_20 + (1 : Int32))))) else
        (ck (ib 4096 y2_19 && true) (
          qmd_payments_L82 fu y1_18 (y2_19 + (1 : Int32)) (wI M21 334 (Int32.toNatClampNeg y2_19) (y3_20 + (0 : Int32))))))) (nI n) (nI s) (beN (taN u n (s - 1)) s n) M := by
        show _ = ck (ib 4096 (nI s) && true) _
        rw [ck_ib (by omega) (by omega), ck_t, ck_ib (by omega) (by omega), ck_t, ck_ib (by omega) (by omega), ck_t, nI_cl (by omega), hS s hlt, ic_eq, nI_1, et]
        by_cases z : smN u n s = 0
        · rw [if_pos z, if_pos z]
        · rw [if_neg z, if_neg z]
      rw [show beN (taN u n (s - 1)) s 0 = 0 from rfl, show nI 0 = (0 : Int32) from rfl] at key
      have key2 := key.trans step.symm
      rw [key2]
      obtain ⟨M', g1, g2, g3, g4⟩ := ih (s + 1) (wI M 334 s (taN u n s s)) (by omega) (by omega) (by omega) (fun t ht => by
        rw [wI_1]
        by_cases q : t = s
        · subst q; rw [if_pos ⟨rfl, rfl⟩]
        · rw [if_neg (by omega)]; exact hT t (by omega)) hS
      exact ⟨M', g1, g2, fun c t q => by rw [g3 c t q, wI_1, if_neg (by omega)], by rw [g4, wI_1, if_neg (by omega)]⟩
    · obtain rfl : s = 2 ^ n := by omega
      rw [if_neg (nI_nlt (Nat.le_refl _) (by omega)), nI_m1 (by omega), ck_ib (by omega) (by omega), ck_t, nI_cl (by omega), hT _ (by omega)]
      exact ⟨M, rfl, rfl, fun _ _ _ => rfl, rfl⟩
/-- what the reference keeps of its parts: none comes to 0 in no group -/
def I_pg (M : SM) : Prop := M.2 333 0 = 0 ∧ M.1 334 0 = 0
def sPg (c _i : Nat) : Prop := c = 277 ∨ c = 334
def sPgL (c : Nat) : Prop := c = 275 ∨ c = 276 ∨ c = 333
theorem payments_p {M : SM} (h : I_db M) (hg : I_pg M) : Pr M qfr_payments qmd_payments (fun M2 => I_pg M2 ∧ Ov sPg sPgL M M2) := by
  have hb : ∀ j, j < 18 → M.2 274 j = M.2 274 j := fun _ _ => rfl
  rcases fewest_L4_g (b := M.2 274) (K := fun y1_6 M7 => ob (qdb_mostGroups y1_6 M7) (fun r8 M9 => some ((y1_6 - r8), M9))) FU 0 M (by unfold FU; omega) (by omega) (by show 0 ≤ 12; omega) hb (fun j hj => absurd hj (Nat.not_lt_zero _)) with ⟨g0, M1, g1, g2, g3⟩ | ⟨g0, M1, g1, g2, g3, g4⟩
  · rcases mdpay_L4_g (b := M.2 274) (K := fun y1_10 M11 => qmd_payments_L82 FU y1_10 (1 : Int32) M11) FU 0 M1 (by unfold FU; omega) (by omega) (by show 0 ≤ 12; omega) (fun j hj => by rw [g3 _ _ (by omega)]; exact h.2.2 j hj) (fun t ht => by
      obtain rfl : t = 0 := by
        have : t < 2 ^ 0 := ht
        omega
      rw [g3 _ _ (by omega)]; exact hg.1) with ⟨k0, M2, k1, k2, k3, k4⟩ | ⟨k0, _⟩
    · refine Pr.mk (r := -1) (M1 := M1) (M2 := M2) ?_ k1 ⟨⟨k4, by rw [k2, g2]; exact hg.2⟩, ⟨fun c i _ => by rw [k2, g2], fun c hc => ?_⟩⟩ (fun c i _ => by rw [g2])
      · unfold qfr_payments qdb_fewestPayments
        refine Eq.trans (congrArg (fun o => ob o _) g1) ?_
        rfl
      · funext i; unfold sPgL at hc; rw [k3 _ _ (by omega), g3 _ _ (by omega)]
    · omega
  · obtain ⟨M3, m1, m2, m3⟩ := mostGroups_g (u := uvN (M.2 274) 18) g0 M1 g4
    rcases mdpay_L4_g (b := M.2 274) (K := fun y1_10 M11 => qmd_payments_L82 FU y1_10 (1 : Int32) M11) FU 0 M3 (by unfold FU; omega) (by omega) (by show 0 ≤ 12; omega) (fun j hj => by rw [m3 _ _ (by omega), g3 _ _ (by omega)]; exact h.2.2 j hj) (fun t ht => by
      obtain rfl : t = 0 := by
        have : t < 2 ^ 0 := ht
        omega
      rw [m3 _ _ (by omega), g3 _ _ (by omega)]; exact hg.1) with ⟨k0, _⟩ | ⟨k0, M4, k1, k2, k3, k4⟩
    · omega
    · obtain ⟨M5, n1, n2, n3, n4⟩ := mdpay_L82_g (u := uvN (M.2 274) 18) g0 FU 1 M4 (by
        have := two_12 g0
        unfold FU; omega) (by omega) (Nat.two_pow_pos _) (fun t ht => by
        obtain rfl : t = 0 := by omega
        rw [k2, m2 _ _ (by omega), g2]; exact hg.2) k4
      refine Pr.mk (r := nI (unN (M.2 274) 18) - taN (uvN (M.2 274) 18) (unN (M.2 274) 18) (2 ^ unN (M.2 274) 18 - 1) (2 ^ unN (M.2 274) 18 - 1)) (M1 := M3) (M2 := M5) ?_ ?_ ⟨⟨?_, ?_⟩, ⟨fun c i hc => ?_, fun c hc => ?_⟩⟩ (fun c i hc => by rw [m2 _ _ (by omega), g2])
      · unfold qfr_payments qdb_fewestPayments
        refine Eq.trans (congrArg (fun o => ob o _) g1) ?_
        show ob (ob (qdb_mostGroups _ M1) _) _ = _
        rw [m1]; rfl
      · unfold qmd_payments
        refine Eq.trans k1 ?_
        exact n1
      · rw [n2, k4 0 (Nat.two_pow_pos _), smN_0]
      · rw [n4, k2, m2 _ _ (by omega), g2]; exact hg.2
      · unfold sPg at hc; rw [n3 _ _ (by omega), k2, m2 _ _ (by omega), g2]
      · funext i; unfold sPgL at hc; rw [n2, k3 _ _ (by omega), m3 _ _ (by omega), g3 _ _ (by omega)]
