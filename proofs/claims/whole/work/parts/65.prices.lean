/-! what lists and acts come to, by contract -/
abbrev FA : Type := Nat → Int64
abbrev LE : Type := Nat → Int64
def acM (M : SM) : Nat := Int32.toNatClampNeg (M.1 12 3)
/-- the class' sheet at s reckons the letters V -/
def CLs (M : SM) (s : Nat) (V : FA → LE) : Prop := ∀ M' : SM, (∀ c i, s ≤ c → c < s + 8 → M'.1 c i = M.1 c i) → ∃ M'' : SM, qpr_reckonLetters (some s) M' = some ((), M'') ∧ (∀ x, x < 26 → M''.2 176 x = V (M'.2 175) x) ∧ (∀ c i, ¬ (c = 12 ∧ i = 8) → M''.1 c i = M'.1 c i) ∧ ∀ c, c ≠ 176 → c ≠ 178 → M''.2 c = M'.2 c
/-- so does the reference's list l -/
def rLs (l c i : Nat) : Prop := (c = 296 ∧ 220 * l ≤ i ∧ i < 220 * l + 220) ∨ (c = 297 ∧ i = l) ∨ (298 ≤ c ∧ c ≤ 300 ∧ 10 * l ≤ i ∧ i < 10 * l + 10)
def MLs (M : SM) (l : Nat) (V : FA → LE) : Prop := ∀ M' : SM, Eq1 (rLs l) M M' → ∃ M'' : SM, qmd_worths (nI l) M' = some ((), M'') ∧ (∀ x, x < 26 → M''.2 308 x = V (M'.2 307) x) ∧ M''.1 = M'.1 ∧ ∀ c, c ≠ 308 → c ≠ 309 → M''.2 c = M'.2 c
def exV (V : FA → LE) : Prop := ∀ F G : FA, (∀ i, i < 10 → F i = G i) → ∀ x, V F x = V G x
/-- the class' sheet at s reckons its one formula -/
def CAs (M : SM) (s : Nat) (B : FA → LE → Int64) : Prop := ∀ M' : SM, (∀ c i, s ≤ c → c < s + 8 → M'.1 c i = M.1 c i) → ∃ M'' : SM, qpr_reckon s 0 M' = some (B (M'.2 175) (M'.2 176), M'') ∧ (∀ c i, ¬ (c = 12 ∧ i = 8) → M''.1 c i = M'.1 c i) ∧ ∀ c, c ≠ 178 → M''.2 c = M'.2 c
def rAs (a c i : Nat) : Prop := (c = 301 ∧ 80 * a ≤ i ∧ i < 80 * a + 80) ∨ (302 ≤ c ∧ c ≤ 306 ∧ i = a)
def MAs (M : SM) (a : Nat) (B : FA → LE → Int64) : Prop := ∀ M' : SM, Eq1 (rAs a) M M' → ∃ M'' : SM, qmd_worthOf 301 (nI (80 * a)) 0 (M.1 302 a) M' = some (B (M'.2 307) (M'.2 308), M'') ∧ M''.1 = M'.1 ∧ ∀ c, c ≠ 309 → M''.2 c = M'.2 c
def exB (B : FA → LE → Int64) : Prop := ∀ (F G : FA) (K L : LE), (∀ i, i < 10 → F i = G i) → (∀ x, x < 26 → K x = L x) → B F K = B G L
/-- how an act stands on both sides -/
def acR (M : SM) (a : Nat) : Prop := M.1 (23 + 16 * a) 3 = 1 ∧ (∃ x, (x = 22 ∨ x = 17 ∨ x = 2 ∨ x = 19) ∧ M.1 (26 + 16 * a) 0 = nI x ∧ M.1 305 a = nI x) ∧ M.1 (23 + 16 * a) 9 = M.1 303 a ∧ M.1 (23 + 16 * a) 10 = M.1 304 a ∧ (M.1 (23 + 16 * a) 11 = 0 ↔ ¬ M.1 306 a = 0)
def PR (M : SM) (V : Nat → FA → LE) (B : Nat → FA → LE → Int64) : Prop :=
  (M.1 12 3 = nI (acM M) ∧ acM M ≤ 10 ∧ M.1 280 28 = nI (acM M)) ∧
  (∀ l, l < lsM M → CLs M (15 + 16 * l) (V l) ∧ MLs M l (V l) ∧ exV (V l) ∧ M.1 297 l = M.1 (15 + 16 * l) 3) ∧
  (∀ a, a < acM M → CAs M (23 + 16 * a) (B a) ∧ MAs M a (B a) ∧ exB (B a) ∧ acR M a)
def sPr (c i : Nat) : Prop := (c = 12 ∧ (i = 2 ∨ i = 3)) ∨ (15 ≤ c ∧ c ≤ 174) ∨ (c = 280 ∧ i = 28) ∨ (296 ≤ c ∧ c ≤ 306)
theorem lsM_E {M M' : SM} (e : Eq1 sPr M M') : lsM M' = lsM M := by unfold lsM; rw [e 12 2 (by unfold sPr; omega)]
theorem acM_E {M M' : SM} (e : Eq1 sPr M M') : acM M' = acM M := by unfold acM; rw [e 12 3 (by unfold sPr; omega)]
theorem CLs.fr {M M' : SM} {s : Nat} {V : FA → LE} (h : CLs M s V) (e : ∀ c i, s ≤ c → c < s + 8 → M'.1 c i = M.1 c i) : CLs M' s V := fun N hN => h N (fun c i a b => (hN c i a b).trans (e c i a b))
theorem MLs.fr {M M' : SM} {l : Nat} {V : FA → LE} (h : MLs M l V) (e : Eq1 (rLs l) M M') : MLs M' l V := fun N hN => h N (Eq1.tr e hN)
theorem CAs.fr {M M' : SM} {s : Nat} {B : FA → LE → Int64} (h : CAs M s B) (e : ∀ c i, s ≤ c → c < s + 8 → M'.1 c i = M.1 c i) : CAs M' s B := fun N hN => h N (fun c i a b => (hN c i a b).trans (e c i a b))
theorem MAs.fr {M M' : SM} {a : Nat} {B : FA → LE → Int64} (h : MAs M a B) (e : Eq1 (rAs a) M M') : MAs M' a B := fun N hN => by
  rw [e 302 a (by unfold rAs; omega)]
  exact h N (Eq1.tr e hN)
theorem PR.fr {M M' : SM} {V : Nat → FA → LE} {B : Nat → FA → LE → Int64} (h : PR M V B) (hl : lsM M ≤ 10) (e : Eq1 sPr M M') : PR M' V B := by
  obtain ⟨h1, h2, h3⟩ := h
  have r : ∀ c i, (15 ≤ c ∧ c ≤ 174 ∨ 296 ≤ c ∧ c ≤ 306) → M'.1 c i = M.1 c i := fun c i q => e c i (by unfold sPr; omega)
  unfold PR
  rw [lsM_E e, acM_E e]
  refine ⟨?_, fun l hl' => ?_, fun a ha => ?_⟩
  · rw [e 12 3 (by unfold sPr; omega), e 280 28 (by unfold sPr; omega)]; exact h1
  · obtain ⟨a1, a2, a3, a4⟩ := h2 l hl'
    refine ⟨a1.fr fun c i q1 q2 => r c i (by omega), a2.fr fun c i q => r c i (by unfold rLs at q; omega), a3, ?_⟩
    rw [r _ _ (by omega), r _ _ (by omega)]; exact a4
  · obtain ⟨a1, a2, a3, a4⟩ := h3 a ha
    refine ⟨a1.fr fun c i q1 q2 => r c i (by omega), a2.fr fun c i q => r c i (by unfold rAs at q; omega), a3, ?_⟩
    unfold acR
    rw [r _ _ (by omega), r _ _ (by omega), r _ _ (by omega), r _ _ (by omega), r _ _ (by omega), r _ _ (by omega), r _ _ (by omega), r _ _ (by omega), r _ _ (by omega)]
    exact a4
/-- a letter as bounded by the first n acts -/
def bdN (M : SM) (B : Nat → FA → LE → Int64) (F : FA) (L : LE) (w x : Nat) : Nat → Int64
  | 0 => L x
  | a + 1 => if M.1 305 a = nI x ∧ ¬ nI w < M.1 303 a ∧ ¬ M.1 304 a < nI w then (if M.1 306 a = 0 then lmx (bdN M B F L w x a) (B a F L) else lmn (bdN M B F L w x a) (B a F L)) else bdN M B F L w x a
theorem bdN_E {M M' : SM} (B : Nat → FA → LE → Int64) {F G : FA} {K L : LE} (w x : Nat) (e : ∀ c i, 303 ≤ c → c ≤ 306 → M'.1 c i = M.1 c i) (hF : ∀ i, i < 10 → F i = G i) (hL : ∀ x, x < 26 → K x = L x) (hx : x < 26) : ∀ n, (∀ a, a < n → exB (B a)) → bdN M' B F K w x n = bdN M B G L w x n
  | 0, _ => hL x hx
  | n + 1, hB => by
    unfold bdN
    rw [bdN_E B w x e hF hL hx n (fun a ha => hB a (by omega)), e _ _ (by omega) (by omega), e _ _ (by omega) (by omega), e _ _ (by omega) (by omega), e _ _ (by omega) (by omega), hB n (by omega) F G K L hF hL]
def clN (v : Int64) : Int64 := lmn 1000000000 (lmx 0 v)
/-- the letters of list l, or none -/
def LV (V : Nat → FA → LE) (l : Int32) (F : FA) : LE := if l = -1 then fun _ => 0 else V (Int32.toNatClampNeg l) F
def okli (M : SM) (l : Int32) : Prop := l = -1 ∨ ∃ k, k < lsM M ∧ l = nI k
section
variable {M : SM} {V : Nat → FA → LE} {B : Nat → FA → LE → Int64}
/-! the class -/
theorem rl_L2_g {K : Option Nat → SM → Option (Unit × SM)} (o : Option Nat) : ∀ fu i M, 26 - i < fu → i ≤ 26 → ∃ M' : SM, qpr_reckonLetters_L2 K fu o (nI i) M = K o M' ∧ oL 176 M M' ∧ ∀ j, M'.2 176 j = if i ≤ j ∧ j < 26 then 0 else M.2 176 j := by
  intro fu
  induction fu with
  | zero => intro i M hn; omega
  | succ n ih =>
    intro i M hn hi
    unfold qpr_reckonLetters_L2
    by_cases hlt : i < 26
    · rw [if_pos (show nI i < (26 : Int32) from nl_26 hlt), ck_ib (by omega) (by omega), ck_t, nI_1, nI_cl (by omega)]
      obtain ⟨M', e1, e2, e3⟩ := ih (i + 1) (wL M 176 i 0) (by omega) (by omega)
      refine ⟨M', e1, ((oL.rf 176 M).w i 0).tr e2, fun j => ?_⟩
      rw [e3 j, wL_2]
      by_cases h1 : i + 1 ≤ j ∧ j < 26
      · rw [if_pos h1, if_pos ⟨by omega, h1.2⟩]
      · rw [if_neg h1]
        by_cases h2 : j = i
        · rw [if_pos ⟨rfl, h2⟩, if_pos ⟨by omega, by omega⟩]
        · rw [if_neg (by omega), if_neg (by omega)]
    · obtain rfl : i = 26 := by omega
      rw [if_neg (by decide)]
      exact ⟨M, rfl, oL.rf _ _, fun j => by rw [if_neg (by omega)]⟩
theorem letters_g (hu : I_us M) (hp : PR M V B) {l : Int32} (hl : okli M l) (M' : SM) (e : Eq1 sPr M M') : ∃ (o : Option Nat) (M'' : SM), qpr_listAt l M' = some (o, M') ∧ qpr_reckonLetters o M' = some ((), M'') ∧ (∀ x, x < 26 → M''.2 176 x = LV V l (M'.2 175) x) ∧ (∀ c i, ¬ (c = 12 ∧ i = 8) → M''.1 c i = M'.1 c i) ∧ ∀ c, c ≠ 176 → c ≠ 178 → M''.2 c = M'.2 c := by
  have a := hu.1
  have e2 : M'.1 12 2 = nI (lsM M) := (e 12 2 (by unfold sPr; omega)).trans a.1
  rcases hl with rfl | ⟨k, hk, rfl⟩
  · obtain ⟨M1, f1, f2, f3⟩ := rl_L2_g (K := fun y1_3 M4 => om y1_3 (some ((), M4)) (fun s5 => qpr_reckonLetters_L31 FU s5 (0 : Int32) M4)) none FU 0 M' (by unfold FU; omega) (by omega)
    refine ⟨none, M1, if_pos (by decide), ?_, fun x hx => ?_, fun c i _ => by rw [f2.1], fun c hc _ => f2.2 c hc⟩
    · unfold qpr_reckonLetters
      exact f1
    · rw [f3, if_pos ⟨by omega, hx⟩]; unfold LV; rw [if_pos rfl]
  · obtain ⟨c1, c2, c3, c4⟩ := hp.2.1 k hk
    obtain ⟨M1, f1, f2, f3, f4⟩ := c1 M' (fun c i q1 q2 => e c i (by unfold sPr; omega))
    refine ⟨some (15 + 16 * k), M1, ?_, f1, fun x hx => ?_, f3, f4⟩
    · unfold qpr_listAt
      rw [if_neg (nI_lt0 (by omega)), e2, if_pos ((nI_ltI (by omega) (by omega)).mpr hk), if_pos (nl_10 (by omega)), ck_ib (by omega) (by omega), ck_t, nI_cl (by omega)]
    · rw [f2 x hx]; unfold LV; rw [if_neg (nI_ne_m1 (by omega)), nI_cl (by omega)]
theorem letterAt_g {x : Nat} (hx : x < 26) : qpr_letterAt (nI x) M = some (M.2 176 x, M) := by
  unfold qpr_letterAt
  rw [if_neg (nI_lt0 (by omega)), if_pos (nl_26 hx), ck_ib (by omega) (by omega), ck_t, nI_cl (by omega)]
theorem bw_L2_g {K : Int32 → Int32 → SM → Option (Unit × SM)} (x y : Int32) : ∀ fu i M, 26 - i < fu → i ≤ 26 → ∃ M' : SM, qpr_boundWorths_L2 K fu x y (nI i) M = K x y M' ∧ oL 177 M M' ∧ ∀ j, M'.2 177 j = if i ≤ j ∧ j < 26 then M.2 176 j else M.2 177 j := by
  intro fu
  induction fu with
  | zero => intro i M hn; omega
  | succ n ih =>
    intro i M hn hi
    unfold qpr_boundWorths_L2
    by_cases hlt : i < 26
    · rw [if_pos (show nI i < (26 : Int32) from nl_26 hlt), letterAt_g hlt, ob_s, ck_ib (by omega) (by omega), ck_t, nI_1, nI_cl (by omega)]
      obtain ⟨M', e1, e2, e3⟩ := ih (i + 1) (wL M 177 i (M.2 176 i)) (by omega) (by omega)
      refine ⟨M', e1, ((oL.rf 177 M).w i _).tr e2, fun j => ?_⟩
      rw [e3 j, wL_2, wL_2, if_neg (show ¬ ((176 : Nat) = 177 ∧ j = i) by omega)]
      by_cases h1 : i + 1 ≤ j ∧ j < 26
      · rw [if_pos h1, if_pos ⟨by omega, h1.2⟩]
      · rw [if_neg h1]
        by_cases h2 : j = i
        · subst h2; rw [if_pos ⟨rfl, rfl⟩, if_pos ⟨by omega, by omega⟩]
        · rw [if_neg (by omega), if_neg (by omega)]
    · obtain rfl : i = 26 := by omega
      rw [if_neg (by decide)]
      exact ⟨M, rfl, oL.rf _ _, fun j => by rw [if_neg (by omega)]⟩
/-- ints but one, longs but these stay -/
def oP (M M' : SM) : Prop := (∀ c i, ¬ (c = 12 ∧ i = 8) → M'.1 c i = M.1 c i) ∧ ∀ c, c ≠ 177 → c ≠ 178 → M'.2 c = M.2 c
theorem oP.rf (M : SM) : oP M M := ⟨fun _ _ _ => rfl, fun _ _ _ => rfl⟩
theorem oP.tr {M M' M'' : SM} (h : oP M M') (h2 : oP M' M'') : oP M M'' := ⟨fun c i q => (h2.1 c i q).trans (h.1 c i q), fun c q1 q2 => (h2.2 c q1 q2).trans (h.2 c q1 q2)⟩
theorem oP.e {M M' : SM} (h : oP M M') : Eq1 sPr M M' := fun c i q => h.1 c i (by unfold sPr at q; omega)
theorem kz_ac : ∀ a, a < 10 → K0 (23 + 16 * a) = 8 ∧ K0 (26 + 16 * a) = 20 ∧ Z0 (26 + 16 * a) = 10 ∧ R0 (23 + 16 * a) 4 = some (23 + 16 * a + 3) := by decide +kernel
theorem sh_has0 {s : Nat} (hk : kc 336 s 8 = true) (h1 : M.1 s 3 = 1) : qsh_has s 0 M = some (1, M) := by
  unfold qsh_has
  rw [if_neg (by decide), hk, h1]
  rfl
theorem boundBy_g (hp : PR M V B) {a : Nat} (ha : a < acM M) (M' : SM) (e : Eq1 sPr M M') {x : Nat} (hx : x < 26) (ex : M.1 305 a = nI x) : ∃ M'' : SM, qpr_boundBy (23 + 16 * a) M' = some ((), M'') ∧ oP M' M'' ∧ ∀ j, M''.2 177 j = if j = x then (if M.1 306 a = 0 then lmx (M'.2 177 x) (B a (M'.2 175) (M'.2 176)) else lmn (M'.2 177 x) (B a (M'.2 175) (M'.2 176))) else M'.2 177 j := by
  have h1 := hp.1
  obtain ⟨c1, c2, c3, r1, ⟨x', hx', r2, r3⟩, r4, r5, r6⟩ := hp.2.2 a ha
  have exx : x' = x := nI_inj (by omega) (by omega) (r3.symm.trans ex)
  subst exx
  obtain ⟨k1, k2, k3, k4⟩ := kz_ac a (by omega)
  have kk : kc 336 (23 + 16 * a) 8 = true := kc_n k1 (by omega)
  have s3 : M'.1 (23 + 16 * a) 3 = 1 := (e _ _ (by unfold sPr; omega)).trans r1
  have s0 : M'.1 (23 + 16 * a + 3) 0 = nI x' := (e _ _ (by unfold sPr; omega)).trans (by rw [show 23 + 16 * a + 3 = 26 + 16 * a by omega]; exact r2)
  obtain ⟨M1, f1, f2, f3⟩ := c1 M' (fun c i q1 q2 => e c i (by unfold sPr; omega))
  have s11 : (M1.1 (23 + 16 * a) 11 = 0) = ¬ M.1 306 a = 0 := by
    rw [f2 _ _ (by omega), e _ _ (by unfold sPr; omega)]
    exact propext r6
  have av0 : av 336 20 (23 + 16 * a + 3) 0 = true := by
    rw [show 23 + 16 * a + 3 = 26 + 16 * a by omega, show (0 : Int32) = nI 0 from rfl]
    exact av_n k2 (by omega) (by omega) (by omega)
  have hw7 : M1.2 177 = M'.2 177 := f3 177 (by omega)
  unfold qpr_boundBy qsh_letterOf
  rw [ckb kk, ckb kk, sh_has0 kk s3, ob_s, if_neg (by decide), ckb (and_i (and_i kk (decide_eq_true k4)) (and_i av0 rfl)), show Int32.toNatClampNeg (0 : Int32) = 0 from rfl, s0, ob_s, if_neg (nI_lt0 (by omega)), if_pos (nl_26 hx), f1, ob_s, ckb (and_i kk rfl)]
  simp only [ck_ib (show x' < 26 by omega) (show 26 ≤ 2147483648 by omega), ck_t, nI_cl (show x' < 2147483648 by omega)]
  by_cases q : M.1 306 a = 0
  · rw [if_neg (by rw [s11]; exact fun y => y q)]
    refine ⟨_, rfl, ⟨fun c i z => f2 c i z, fun c z1 z2 => ?_⟩, fun j => ?_⟩
    · funext j; rw [wL_2, if_neg (by omega), f3 c z2]
    · rw [wL_2, hw7, if_pos q]
      by_cases z : j = x'
      · subst z; rw [if_pos ⟨rfl, rfl⟩, if_pos rfl]
      · rw [if_neg (by omega), if_neg z]
  · rw [if_pos (by rw [s11]; exact q)]
    refine ⟨_, rfl, ⟨fun c i z => f2 c i z, fun c z1 z2 => ?_⟩, fun j => ?_⟩
    · funext j; rw [wL_2, if_neg (by omega), f3 c z2]
    · rw [wL_2, hw7, if_neg q]
      by_cases z : j = x'
      · subst z; rw [if_pos ⟨rfl, rfl⟩, if_pos rfl]
      · rw [if_neg (by omega), if_neg z]
theorem bw_L30_g (hp : PR M V B) {K : Int32 → SM → Option (Unit × SM)} (w : Nat) (y : Int32) (F : FA) (L : LE) : ∀ fu a (M' : SM), acM M - a < fu → a ≤ acM M → Eq1 sPr M M' → M'.2 175 = F → (∀ x, x < 26 → M'.2 176 x = L x) → (∀ x, x < 26 → M'.2 177 x = bdN M B F L w x a) →
    ∃ M'' : SM, qpr_boundWorths_L30 K fu (nI w) y (nI a) M' = K y M'' ∧ oP M' M'' ∧ ∀ x, x < 26 → M''.2 177 x = bdN M B F L w x (acM M) := by
  have h1 := hp.1
  intro fu
  induction fu with
  | zero => intro a M' hf; omega
  | succ fu ih =>
    intro a M' hf ha e e5 e6 e7
    have e3 : M'.1 12 3 = nI (acM M) := (e 12 3 (by unfold sPr; omega)).trans h1.1
    unfold qpr_boundWorths_L30
    rw [e3]
    by_cases hlt : a < acM M
    · obtain ⟨c1, c2, c3, r1, ⟨x, hx', r2, r3⟩, r4, r5, r6⟩ := hp.2.2 a hlt
      obtain ⟨k1, -, -, -⟩ := kz_ac a (by omega)
      have kk : kc 336 (23 + 16 * a) 8 = true := kc_n k1 (by omega)
      have at1 : qpr_actAt (nI a) M' = some (some (23 + 16 * a), M') := by
        unfold qpr_actAt
        rw [if_neg (nI_lt0 (by omega)), e3, if_pos ((nI_ltI (by omega) (by omega)).mpr hlt), if_pos (nl_10 (by omega)), ck_ib (by omega) (by omega), ck_t, nI_cl (by omega)]
      have eb : ∀ y, bdN M B F L w y (a + 1) = if M.1 305 a = nI y ∧ ¬ nI w < M.1 303 a ∧ ¬ M.1 304 a < nI w then (if M.1 306 a = 0 then lmx (bdN M B F L w y a) (B a F L) else lmn (bdN M B F L w y a) (B a F L)) else bdN M B F L w y a := fun _ => rfl
      rw [if_pos ((nI_ltI (by omega) (by omega)).mpr hlt), at1, ob_s, om_s, ckb (and_i kk rfl), ckb (and_i kk rfl), nI_1, e (23 + 16 * a) 9 (by unfold sPr; omega), r4, e (23 + 16 * a) 10 (by unfold sPr; omega), r5]
      by_cases q1 : nI w < M.1 303 a
      · rw [if_pos q1]
        exact ih (a + 1) M' (by omega) (by omega) e e5 e6 (fun y hy => by rw [eb, if_neg (fun z => z.2.1 q1)]; exact e7 y hy)
      · rw [if_neg q1]
        by_cases q2 : M.1 304 a < nI w
        · rw [if_pos q2]
          exact ih (a + 1) M' (by omega) (by omega) e e5 e6 (fun y hy => by rw [eb, if_neg (fun z => z.2.2 q2)]; exact e7 y hy)
        · rw [if_neg q2]
          obtain ⟨M1, f1, f2, f3⟩ := boundBy_g hp hlt M' e (x := x) (by omega) r3
          rw [f1, ob_s]
          have eB : B a (M'.2 175) (M'.2 176) = B a F L := c3 _ _ _ _ (fun i _ => by rw [e5]) e6
          obtain ⟨M2, g1, g2, g3⟩ := ih (a + 1) M1 (by omega) (by omega) (Eq1.tr e f2.e) (by rw [f2.2 _ (by omega) (by omega)]; exact e5) (fun y hy => by rw [f2.2 _ (by omega) (by omega)]; exact e6 y hy) (fun y hy => by
            rw [f3, eb, r3, eB, e7 x (by omega)]
            by_cases z : y = x
            · subst z; rw [if_pos (show y = y from rfl), if_pos (show nI y = nI y ∧ ¬ nI w < M.1 303 a ∧ ¬ M.1 304 a < nI w from ⟨rfl, q1, q2⟩)]
            · rw [if_neg z, if_neg (fun v => z (nI_inj (by omega) (by omega) v.1).symm)]; exact e7 y hy)
          exact ⟨M2, g1, f2.tr g2, g3⟩
    · obtain rfl : a = acM M := by omega
      rw [if_neg (nI_nlt (Nat.le_refl _) (by omega))]
      exact ⟨M', rfl, oP.rf _, e7⟩
theorem boundWorths_g (hp : PR M V B) (w : Nat) {y : Int32} (hy : y = 0 ∨ y = 1) (L : LE) (M' : SM) (e : Eq1 sPr M M') (e6 : ∀ x, x < 26 → M'.2 176 x = L x) :
    ∃ M'' : SM, qpr_boundWorths (nI w) y M' = some ((), M'') ∧ oP M' M'' ∧ ∀ x, x < 26 → M''.2 177 x = if x = 17 ∧ ¬ y = 0 then 0 else bdN M B (M'.2 175) L w x (acM M) := by
  have h1 := hp.1
  obtain ⟨M1, f1, f2, f3⟩ := bw_L2_g (K := fun y1_6 y2_7 M8 =>
  qpr_boundWorths_L30 (fun y2_21 M22 =>
    if y2_21 = 0 then
      (some ((), M22)) else
      (ck (ib 26 (17 : Int32) && true) (
        some ((), (wL M22 177 (Int32.toNatClampNeg (17 : Int32)) (0 : Int64)))))) FU y1_6 y2_7 (0 : Int32) M8) (nI w) y FU 0 M' (by unfold FU; omega) (by omega)
  obtain ⟨M2, g1, g2, g3⟩ := bw_L30_g hp (K := fun y2_21 M22 =>
    if y2_21 = 0 then
      (some ((), M22)) else
      (ck (ib 26 (17 : Int32) && true) (
        some ((), (wL M22 177 (Int32.toNatClampNeg (17 : Int32)) (0 : Int64)))))) w y (M'.2 175) L FU 0 M1 (by unfold FU; omega) (by omega) (Eq1.tr e (Eq1.of1 f2.1)) (f2.2 _ (by omega)) (fun x hx => by rw [f2.2 _ (by omega)]; exact e6 x hx) (fun x hx => by rw [f3, if_pos ⟨by omega, hx⟩]; exact e6 x hx)
  have o1 : oP M' M1 := ⟨fun c i _ => by rw [f2.1], fun c z1 _ => f2.2 c z1⟩
  have c1 : qpr_boundWorths (nI w) y M' = (if y = 0 then
      (some ((), M2)) else
      (ck (ib 26 (17 : Int32) && true) (
        some ((), (wL M2 177 (Int32.toNatClampNeg (17 : Int32)) (0 : Int64)))))) := by
    unfold qpr_boundWorths
    refine Eq.trans f1 ?_
    exact g1
  rw [c1]
  rcases hy with rfl | rfl
  · rw [if_pos rfl]
    exact ⟨M2, rfl, o1.tr g2, fun x hx => by rw [if_neg (fun z => z.2 rfl)]; exact g3 x hx⟩
  · rw [if_neg (by decide), show (17 : Int32) = nI 17 from rfl, ck_ib (by omega) (by omega), ck_t, nI_cl (by omega)]
    refine ⟨_, rfl, (o1.tr g2).tr ⟨fun _ _ _ => rfl, fun c z1 _ => ?_⟩, fun x hx => ?_⟩
    · funext j; rw [wL_2, if_neg (by omega)]
    · rw [wL_2]
      by_cases z : x = 17
      · subst z; rw [if_pos ⟨rfl, rfl⟩, if_pos ⟨rfl, by decide⟩]
      · rw [if_neg (by omega), if_neg (by omega)]; exact g3 x hx
end
