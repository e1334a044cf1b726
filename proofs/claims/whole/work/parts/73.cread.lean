/-! the class reads as the grammar says -/
def cOk (c : Nat) : Prop := c = 999 ∨ c < 256
def sv (c : Nat) : Int32 := if c = 999 then -1 else nI c
theorem by_255 (x : Int32) : x &&& 255 = nI (x.toBitVec.toNat % 256) := by
  apply b_ext; intro i hi
  rw [b_and, b_255, bt_nI, show (256 : Nat) = 2 ^ 8 from rfl, Nat.testBit_mod_two_pow]
  unfold bt
  show (x.toBitVec.toNat.testBit i && _) = _
  simp [hi, Bool.and_comm]
theorem sv_n {c : Nat} (h : c < 256) : sv c = nI c := if_neg (by omega)
theorem sv_eq {c : Nat} (hc : cOk c) (k : Nat) (hk : k < 256) : sv c = nI k ↔ c = k := by
  rcases hc with rfl | h
  · refine ⟨fun q => ?_, fun q => by omega⟩
    exact absurd q.symm (nI_ne_m1 (show k < 2147483648 by omega))
  · rw [sv_n h]
    exact ⟨fun z => nI_inj (by omega) (by omega) z, fun z => by rw [z]⟩
theorem sv_m1 {c : Nat} (hc : cOk c) : sv c = -1 ↔ c = 999 := by
  rcases hc with rfl | h
  · exact ⟨fun _ => rfl, fun _ => rfl⟩
  · rw [sv_n h]
    exact ⟨fun z => absurd z (nI_ne_m1 (by omega)), fun z => by omega⟩
theorem iSg {α : Type} {c : Nat} (hc : cOk c) (k : Nat) (hk : k < 256) {K : Int32} (hK : K = nI k) {d : Decidable (sv c = K)} {x y : α} : @ite α (sv c = K) d x y = if c = k then x else y := by
  subst hK
  have e := sv_eq hc k hk
  by_cases q : c = k
  · rw [if_pos q, if_pos (e.mpr q)]
  · rw [if_neg q, if_neg (fun z => q (e.mp z))]
theorem iSm {α : Type} {c : Nat} (hc : cOk c) {d : Decidable (sv c = (-1 : Int32))} {x y : α} : @ite α (sv c = (-1 : Int32)) d x y = if c = 999 then x else y := by
  have e := sv_m1 hc
  by_cases q : c = 999
  · rw [if_pos q, if_pos (e.mpr q)]
  · rw [if_neg q, if_neg (fun z => q (e.mp z))]
theorem isDg_g {c : Nat} (hc : cOk c) (M : SM) : qrd_isDigit (sv c) M = some (if yDg c = true then 1 else 0, M) := by
  unfold qrd_isDigit
  rcases hc with rfl | h
  · rfl
  · rw [sv_n h, show (48 : Int32) = nI 48 from rfl, show (57 : Int32) = nI 57 from rfl]
    by_cases q1 : c < 48
    · rw [if_pos ((nI_ltI (by omega) (by omega)).mpr q1), if_neg (fun z => by have := yDg_iff.mp z; omega)]
    · rw [if_neg (fun z => q1 ((nI_ltI (by omega) (by omega)).mp z))]
      by_cases q2 : 57 < c
      · rw [if_pos ((nI_ltI (by omega) (by omega)).mpr q2), if_neg (fun z => by have := yDg_iff.mp z; omega)]
      · rw [if_neg (fun z => q2 ((nI_ltI (by omega) (by omega)).mp z)), if_pos (yDg_iff.mpr (by omega))]
theorem isDg_t {c : Nat} (hc : cOk c) (h : yDg c = true) (M : SM) : qrd_isDigit (sv c) M = some (1, M) := by rw [isDg_g hc, if_pos h]
theorem isDg_f {c : Nat} (hc : cOk c) (h : ¬ yDg c = true) (M : SM) : qrd_isDigit (sv c) M = some (0, M) := by rw [isDg_g hc, if_neg h]
theorem sv_lt65 {c : Nat} (hc : cOk c) : (sv c < (65 : Int32) ∨ (90 : Int32) < sv c) ↔ ¬ yLt c = true := by
  rcases hc with rfl | h
  · decide
  · rw [sv_n h, show (65 : Int32) = nI 65 from rfl, show (90 : Int32) = nI 90 from rfl, nI_ltN (by omega) (by omega), nI_ltN (by omega) (by omega), yLt_iff]
    omega
theorem iLt {α : Type} {c : Nat} (hc : cOk c) {d : Decidable (sv c < (65 : Int32))} {d2 : Decidable ((90 : Int32) < sv c)} {x y : α} : @ite α (sv c < (65 : Int32)) d x (@ite α ((90 : Int32) < sv c) d2 x y) = if yLt c = true then y else x := by
  have e := sv_lt65 hc
  by_cases q : yLt c = true
  · rw [if_pos q, if_neg (fun z => e.mp (Or.inl z) q), if_neg (fun z => e.mp (Or.inr z) q)]
  · rw [if_neg q]
    by_cases q1 : sv c < (65 : Int32)
    · rw [if_pos q1]
    · rw [if_neg q1, if_pos ((e.mpr q).resolve_left q1)]
theorem fsi_g : ∀ c, c < 256 → i2c' (nI c) = nI c ∧ fsi (nI c) = (match yFc c with | none => -1 | some w => nI w) := by decide +kernel
theorem i2c_n (c : Nat) (h : c < 256) : i2c' (nI c) = nI c := (fsi_g c h).1
/-- a sheet, and how many steps it holds -/
def shK (s z : Nat) : Prop := 15 ≤ s ∧ s + 7 < 336 ∧ z ≤ 200 ∧ K0 s = 8 ∧ K0 (s + 1) = 23 ∧ Z0 (s + 1) = z ∧ K0 (s + 2) = 20 ∧ Z0 (s + 2) = z ∧ (∀ j, j < 8 → 3 ≤ j → K0 (s + j) = 20 ∧ Z0 (s + j) = 10) ∧ R0 s 0 = some (s + 1) ∧ R0 s 1 = some (s + 2) ∧ R0 s 4 = some (s + 3) ∧ R0 s 5 = some (s + 4) ∧ R0 s 6 = some (s + 5) ∧ R0 s 7 = some (s + 6) ∧ R0 s 8 = some (s + 7)
theorem shK_l : ∀ l, l < 10 → shK (15 + 16 * l) 200 := by unfold shK; decide +kernel
theorem shK_a : ∀ a, a < 10 → shK (23 + 16 * a) 60 := by unfold shK; decide +kernel
def tE (M : SM) (sg : Nat → Nat) (n : Nat) : Prop := (∃ T, M.1 1 1 = nI T ∧ T ≤ 200 ∧ n ≤ T) ∧ ∀ p, p < n → M.1 2 p &&& 255 = nI (sg p)
def cSh (M : SM) (s n p : Nat) : Prop := M.1 3 1 = nI s ∧ M.1 3 2 = nI n ∧ M.1 3 3 = nI p ∧ M.1 3 4 = 0
def stA (M : SM) (s : Nat) (a : yL) : Prop := M.1 s 2 = nI a.length ∧ ∀ i t, a[i]? = some t → M.1 (s + 1) i = nI t.1 ∧ M.1 (s + 2) i = nI t.2
def ndM : yL → Int32 → Int32
  | [], m => m
  | t :: s, m => ndM s (if t.1 = 65 then m ||| ((1 : Int32) <<< (nI t.2 &&& 31)) else m)
theorem ndM_app : ∀ (a b : yL) (m : Int32), ndM (a ++ b) m = ndM b (ndM a m)
  | [], _, _ => rfl
  | t :: a, b, m => ndM_app a b _
def cS (M : SM) (s n p f : Nat) (a b : yL) : Prop := cSh M s n p ∧ stA M s (a ++ b) ∧ M.1 s 3 = nI f ∧ M.1 (s + 6) f = ndM b 0
def cF (M : SM) (s n z k q f : Nat) : Prop := M.1 3 1 = nI s ∧ M.1 3 2 = nI n ∧ (1 ≤ k ∧ k ≤ 9 ∧ M.1 3 4 = nI k) ∧ M.1 3 5 = nI q ∧ (∃ m, m ≤ z ∧ M.1 s 2 = nI m) ∧ M.1 s 3 = nI f
def rdF (s f c i : Nat) : Prop := (c = 3 ∧ 3 ≤ i ∧ i ≤ 5) ∨ (c = s ∧ i = 2) ∨ c = s + 1 ∨ c = s + 2 ∨ (c = s + 6 ∧ i = f)
def cG (sg : Nat → Nat) (n s z f : Nat) (g : SM → Option (Unit × SM)) (pf : Nat → yR) : Prop :=
  (∀ (M : SM) (p : Nat) (a b : yL), tE M sg n → p ≤ n → (a ++ b).length ≤ p → cS M s n p f a b →
    (∀ k, pf p = Sum.inl k → ∃ M' : SM, g M = some ((), M') ∧ cF M' s n z k.1 k.2 f ∧ Ou (rdF s f) M M') ∧
    (∀ r, pf p = Sum.inr r → ∃ M' : SM, g M = some ((), M') ∧ cS M' s n r.1 f a (b ++ r.2) ∧ Ou (rdF s f) M M')) ∧
  (∀ (M : SM) (k q : Nat), cF M s n z k q f → ∃ M' : SM, g M = some ((), M') ∧ cF M' s n z k q f ∧ Ou (rdF s f) M M')
section
variable {sg : Nat → Nat} {n s z f : Nat}
theorem tE.fr {M M' : SM} (hs : 15 ≤ s) (h : tE M sg n) (o : Ou (rdF s f) M M') : tE M' sg n := by
  obtain ⟨⟨T, h1, h2, h3⟩, h4⟩ := h
  refine ⟨⟨T, ?_, h2, h3⟩, fun p hp => ?_⟩
  · rw [o.1 1 1 (by unfold rdF; omega)]; exact h1
  · rw [o.1 2 p (by unfold rdF; omega)]; exact h4 p hp
theorem next_g (hE : ∀ p, n ≤ p → sg p = 999) (h256 : ∀ p, p < n → sg p < 256) {M : SM} {p : Nat} (ht : tE M sg n) (hp : p ≤ n) (h : cSh M s n p) : qrd_next M = some (sv (sg p), M) := by
  obtain ⟨⟨T, t1, t2, t3⟩, t4⟩ := ht
  obtain ⟨h1, h2, h3, h4⟩ := h
  unfold qrd_next
  rw [if_pos h4, h3, h2]
  by_cases q : p < n
  · rw [if_pos ((nI_ltI (by omega) (by omega)).mpr q), byteAt_g t1 t2 (by omega), ob_s, t4 p q, sv_n (h256 p q)]
  · rw [if_neg (nI_nlt (by omega) (by omega)), hE p (by omega)]; rfl
theorem fault_ne {M : SM} {k : Nat} (h1 : 1 ≤ k) (h2 : k ≤ 9) (h : M.1 3 4 = nI k) : ¬ M.1 3 4 = 0 := by
  rw [h]
  intro q
  have := nI_inj (a := k) (b := 0) (by omega) (by omega) q
  omega
theorem next_f {M : SM} {k q : Nat} (h : cF M s n z k q f) : qrd_next M = some (sv 999, M) := by
  obtain ⟨h1, h2, ⟨h3, h4, h5⟩, -⟩ := h
  unfold qrd_next
  rw [if_neg (fault_ne h3 h4 h5)]
  rfl
theorem fail_g {M : SM} {p : Nat} {a b : yL} (h : cS M s n p f a b) (hl : (a ++ b).length ≤ z) (hs : 15 ≤ s) {K : Int32} {k : Nat} (hK : K = nI k) (h1 : 1 ≤ k) (h9 : k ≤ 9) : ∃ M' : SM, qrd_fail K M = some ((), M') ∧ cF M' s n z k p f ∧ Ou (rdF s f) M M' := by
  subst hK
  obtain ⟨⟨a1, a2, a3, a4⟩, ⟨b1, b2⟩, c1, c2⟩ := h
  refine ⟨wI (wI M 3 4 (nI k)) 3 5 (nI p), ?_, ⟨?_, ?_, ⟨h1, h9, ?_⟩, ?_, ⟨(a ++ b).length, hl, ?_⟩, ?_⟩, ((Ou.rf _ _).wI (by unfold rdF; omega)).wI (by unfold rdF; omega)⟩
  · unfold qrd_fail; rw [if_pos a4, a3]
  · rw [wI_1, if_neg (by omega), wI_1, if_neg (by omega)]; exact a1
  · rw [wI_1, if_neg (by omega), wI_1, if_neg (by omega)]; exact a2
  · rw [wI_1, if_neg (by omega), wI_1, if_pos (by omega)]
  · rw [wI_1, if_pos ⟨rfl, rfl⟩]
  · rw [wI_1, if_neg (by omega), wI_1, if_neg (by omega)]; exact b1
  · rw [wI_1, if_neg (by omega), wI_1, if_neg (by omega)]; exact c1
theorem fail_f {M : SM} {k q : Nat} (h : cF M s n z k q f) (K : Int32) : qrd_fail K M = some ((), M) := by
  obtain ⟨h1, h2, ⟨h3, h4, h5⟩, -⟩ := h
  unfold qrd_fail
  rw [if_neg (fault_ne h3 h4 h5)]
theorem shK.kc (h : shK s z) : kc 336 s 8 = true := kc_n h.2.2.2.1 (by have := h.2.1; omega)
theorem put_s (hK : shK s z) {M : SM} {m : Nat} (hm : M.1 s 2 = nI m) (hmz : m < z) (x v : Int32) : qsh_put s x v M = some ((), wI (wI (wI M (s + 1) m (i2c' x)) (s + 2) m v) s 2 (nI (m + 1))) := by
  obtain ⟨k1, k2, k3, k4, k5, k6, k7, k8, k9, r0, r1, r4, r5, r6, r7, r8⟩ := id hK
  have kk := hK.kc
  have e1 : (wI M (s + 1) m (i2c' x)).1 s 2 = nI m := by rw [wI_1, if_neg (by omega)]; exact hm
  have e2 : (wI (wI M (s + 1) m (i2c' x)) (s + 2) m v).1 s 2 = nI m := by rw [wI_1, if_neg (by omega)]; exact e1
  have hav1 : av 336 23 (s + 1) (nI m) = true := av_n k5 (by omega) (by omega) (by omega)
  have hav2 : av 336 20 (s + 2) (nI m) = true := av_n k7 (by omega) (by omega) (by omega)
  have hb1 : (Nat.blt 19 (K0 (s + 1)) && Nat.blt (K0 (s + 1)) 28 && Nat.blt (s + 1) 336) = true := by rw [k5, show Nat.blt (s + 1) 336 = true from blt_iff.mpr (by omega)]; rfl
  have hb2 : (Nat.blt 19 (K0 (s + 2)) && Nat.blt (K0 (s + 2)) 28 && Nat.blt (s + 2) 336) = true := by rw [k7, show Nat.blt (s + 2) 336 = true from blt_iff.mpr (by omega)]; rfl
  unfold qsh_put
  rw [ckb (and_i kk rfl), hm, if_neg (nI_lt0 (by omega)), ckb (and_i kk (and_i (and_i kk (decide_eq_true r0)) (and_i hb1 rfl))), k6, if_pos (show nI m < Int32.ofNat z from (nI_ltI (by omega) (by omega)).mpr hmz), ckb (and_i kk (and_i (and_i kk (decide_eq_true r1)) (and_i hb2 rfl))), k8, if_pos (show nI m < Int32.ofNat z from (nI_ltI (by omega) (by omega)).mpr hmz), nI_cl (by omega), e1, nI_cl (by omega), e2]
  rw [ckb (and_i (and_i kk (decide_eq_true r0)) (and_i kk (and_i hav1 (and_i (and_i kk (decide_eq_true r1)) (and_i kk (and_i hav2 (and_i kk (and_i kk rfl)))))))), nI_1]
theorem put_n (hK : shK s z) {M : SM} {m : Nat} (hm : M.1 s 2 = nI m) (hmz : m = z) (x v : Int32) : qsh_put s x v M = some ((), M) := by
  obtain ⟨k1, k2, k3, k4, k5, k6, k7, k8, k9, r0, r1, r4, r5, r6, r7, r8⟩ := id hK
  have kk := hK.kc
  have hb1 : (Nat.blt 19 (K0 (s + 1)) && Nat.blt (K0 (s + 1)) 28 && Nat.blt (s + 1) 336) = true := by rw [k5, show Nat.blt (s + 1) 336 = true from blt_iff.mpr (by omega)]; rfl
  unfold qsh_put
  rw [ckb (and_i kk rfl), hm, if_neg (nI_lt0 (by omega)), ckb (and_i kk (and_i (and_i kk (decide_eq_true r0)) (and_i hb1 rfl))), k6, if_neg (show ¬ nI m < Int32.ofNat z from nI_nlt (by omega) (by omega))]
/-- a step put down, nothing being wrong -/
theorem put_g (hK : shK s z) {M : SM} {p : Nat} {a b : yL} (h : cS M s n p f a b) (hl : (a ++ b).length < z) (c w : Nat) (hc : c < 256) (hf : f < 10) (hn : c ≠ 65) : ∃ M' : SM, qsh_put s (nI c) (nI w) M = some ((), M') ∧ cS M' s n p f a (b ++ [(c, w)]) ∧ Ou (rdF s f) M M' := by
  have k1 := hK.1
  obtain ⟨⟨a1, a2, a3, a4⟩, ⟨b1, b2⟩, c1, c2⟩ := h
  refine ⟨_, by rw [put_s hK b1 hl, i2c_n c hc], ⟨⟨?_, ?_, ?_, ?_⟩, ⟨?_, fun i t hi => ?_⟩, ?_, ?_⟩, (((Ou.rf _ _).wI (by unfold rdF; omega)).wI (by unfold rdF; omega)).wI (by unfold rdF; omega)⟩
  · rw [wI_1, if_neg (by omega), wI_1, if_neg (by omega), wI_1, if_neg (by omega)]; exact a1
  · rw [wI_1, if_neg (by omega), wI_1, if_neg (by omega), wI_1, if_neg (by omega)]; exact a2
  · rw [wI_1, if_neg (by omega), wI_1, if_neg (by omega), wI_1, if_neg (by omega)]; exact a3
  · rw [wI_1, if_neg (by omega), wI_1, if_neg (by omega), wI_1, if_neg (by omega)]; exact a4
  · rw [wI_1, if_pos ⟨rfl, rfl⟩]; simp only [List.length_append, List.length_singleton]; rfl
  · rw [← List.append_assoc] at hi
    by_cases q : i < (a ++ b).length
    · rw [List.getElem?_append_left q] at hi
      obtain ⟨d1, d2⟩ := b2 i t hi
      refine ⟨?_, ?_⟩
      · rw [wI_1, if_neg (by omega), wI_1, if_neg (by omega), wI_1, if_neg (by omega)]; exact d1
      · rw [wI_1, if_neg (by omega), wI_1, if_neg (by omega), wI_1, if_neg (by omega)]; exact d2
    · rw [List.getElem?_append_right (by omega)] at hi
      have q2 : i - (a ++ b).length = 0 := by
        by_cases z0 : i - (a ++ b).length = 0
        · exact z0
        · rw [List.getElem?_eq_none (by simp only [List.length_singleton]; omega)] at hi; cases hi
      rw [q2] at hi
      obtain rfl : (c, w) = t := Option.some.inj hi
      obtain rfl : i = (a ++ b).length := by omega
      refine ⟨?_, ?_⟩
      · rw [wI_1, if_neg (by omega), wI_1, if_neg (by omega), wI_1, if_pos ⟨rfl, rfl⟩]
      · rw [wI_1, if_neg (by omega), wI_1, if_pos ⟨rfl, rfl⟩]
  · rw [wI_1, if_neg (by omega), wI_1, if_neg (by omega), wI_1, if_neg (by omega)]; exact c1
  · rw [wI_1, if_neg (by omega), wI_1, if_neg (by omega), wI_1, if_neg (by omega), c2, ndM_app]
    show ndM b 0 = if c = 65 then _ else _
    rw [if_neg hn]
theorem put_f (hK : shK s z) {M : SM} {k q : Nat} (h : cF M s n z k q f) (x v : Int32) : ∃ M' : SM, qsh_put s x v M = some ((), M') ∧ cF M' s n z k q f ∧ Ou (rdF s f) M M' := by
  have k1 := hK.1
  obtain ⟨h1, h2, ⟨h3, h4, h5⟩, h6, ⟨m, h7, h8⟩, h9⟩ := id h
  by_cases hm : m < z
  · refine ⟨_, put_s hK h8 hm x v, ⟨?_, ?_, ⟨h3, h4, ?_⟩, ?_, ⟨m + 1, hm, ?_⟩, ?_⟩, (((Ou.rf _ _).wI (by unfold rdF; omega)).wI (by unfold rdF; omega)).wI (by unfold rdF; omega)⟩
    · rw [wI_1, if_neg (by omega), wI_1, if_neg (by omega), wI_1, if_neg (by omega)]; exact h1
    · rw [wI_1, if_neg (by omega), wI_1, if_neg (by omega), wI_1, if_neg (by omega)]; exact h2
    · rw [wI_1, if_neg (by omega), wI_1, if_neg (by omega), wI_1, if_neg (by omega)]; exact h5
    · rw [wI_1, if_neg (by omega), wI_1, if_neg (by omega), wI_1, if_neg (by omega)]; exact h6
    · rw [wI_1, if_pos ⟨rfl, rfl⟩]
    · rw [wI_1, if_neg (by omega), wI_1, if_neg (by omega), wI_1, if_neg (by omega)]; exact h9
  · exact ⟨M, put_n hK h8 (by omega) x v, h, Ou.rf _ _⟩
/-- a sign passed over -/
theorem at_g (hs : 15 ≤ s) {M : SM} {p : Nat} {a b : yL} (h : cS M s n p f a b) : cS (wI M 3 3 ((M.1 3 3) + (1 : Int32))) s n (p + 1) f a b ∧ Ou (rdF s f) M (wI M 3 3 ((M.1 3 3) + (1 : Int32))) := by
  obtain ⟨⟨a1, a2, a3, a4⟩, ⟨b1, b2⟩, c1, c2⟩ := h
  refine ⟨⟨⟨?_, ?_, ?_, ?_⟩, ⟨?_, fun i t hi => ⟨?_, ?_⟩⟩, ?_, ?_⟩, (Ou.rf _ _).wI (by unfold rdF; omega)⟩
  · rw [wI_1, if_neg (by omega)]; exact a1
  · rw [wI_1, if_neg (by omega)]; exact a2
  · rw [wI_1, if_pos ⟨rfl, rfl⟩, a3, nI_1]
  · rw [wI_1, if_neg (by omega)]; exact a4
  · rw [wI_1, if_neg (by omega)]; exact b1
  · rw [wI_1, if_neg (by omega)]; exact (b2 i t hi).1
  · rw [wI_1, if_neg (by omega)]; exact (b2 i t hi).2
  · rw [wI_1, if_neg (by omega)]; exact c1
  · rw [wI_1, if_neg (by omega)]; exact c2
theorem sh_ck {β : Type} (hK : shK s z) {M : SM} (h : M.1 3 1 = nI s) (k : Nat → Option β) : (ck (decide (¬ (M.1 3 1) < 0) && true) (ck (kc 336 (Int32.toNatClampNeg (M.1 3 1)) 8) (k (Int32.toNatClampNeg (M.1 3 1))))) = k s := by
  have := hK.2.1
  rw [h, nI_cl (by omega), ckb (and_i (decide_eq_true (nI_lt0 (by omega))) rfl), ckb hK.kc]
theorem expect_g (hE : ∀ p, n ≤ p → sg p = 999) (h256 : ∀ p, p < n → sg p < 256) (hs : 15 ≤ s) {M : SM} {p : Nat} {a b : yL} (ht : tE M sg n) (hp : p ≤ n) (hl : (a ++ b).length ≤ z) (h : cS M s n p f a b) {K : Int32} (k : Nat) (hk : k < 256) (hK : K = nI k) : ∃ M' : SM, qrd_expect K M = some ((), M') ∧ (if sg p = k then cS M' s n (p + 1) f a b else cF M' s n z 1 p f) ∧ Ou (rdF s f) M M' := by
  have hc : cOk (sg p) := by
    by_cases q : p < n
    · exact Or.inr (h256 p q)
    · exact Or.inl (hE p (by omega))
  unfold qrd_expect
  rw [next_g hE h256 ht hp h.1, ob_s, iSg hc k hk hK]
  by_cases q : sg p = k
  · rw [if_pos q]
    obtain ⟨g1, g2⟩ := at_g hs h
    exact ⟨_, rfl, by rw [if_pos q]; exact g1, g2⟩
  · rw [if_neg q]
    obtain ⟨M', g1, g2, g3⟩ := fail_g (z := z) h hl hs (K := 1) (k := 1) rfl (by omega) (by omega)
    exact ⟨M', by rw [g1, ob_s], by rw [if_neg q]; exact g2, g3⟩
theorem expect_f {M : SM} {k q : Nat} (h : cF M s n z k q f) {K : Int32} {j : Nat} (hj : j < 256) (hK : K = nI j) : qrd_expect K M = some ((), M) := by
  unfold qrd_expect
  rw [next_f h, ob_s, iSg (Or.inl rfl) j hj hK, if_neg (by omega), fail_f h, ob_s]
theorem digits_g (hE : ∀ p, n ≤ p → sg p = 999) (h256 : ∀ p, p < n → sg p < 256) (hs : 15 ≤ s) {a b : yL} {K : Int32 → SM → Option (Unit × SM)} : ∀ (k fu p v : Nat) (M : SM), k < fu → k ≤ 6 → v < 10 ^ (6 - k) → tE M sg n → p ≤ n → cS M s n p f a b →
    ∃ (M' : SM) (q w : Nat), qrd_digits_L4 K fu (nI v) (nI (6 - k)) M = K (nI w) M' ∧ q ≤ n ∧ w < 1000000 ∧ cS M' s n q f a b ∧ Ou (rdF s f) M M' ∧ yDs sg k p v = (if yDg (sg q) = true then Sum.inl q else Sum.inr (q, w)) := by
  intro k
  induction k with
  | zero =>
    intro fu p v M hf hk hv ht hp h
    obtain ⟨fu, rfl⟩ : ∃ x, fu = x + 1 := ⟨fu - 1, by omega⟩
    refine ⟨M, p, v, ?_, hp, hv, h, Ou.rf _ _, rfl⟩
    show (if nI 6 < (6 : Int32) then _ else _) = _
    rw [if_neg (by decide)]
  | succ k ih =>
    intro fu p v M hf hk hv ht hp h
    obtain ⟨fu, rfl⟩ : ∃ x, fu = x + 1 := ⟨fu - 1, by omega⟩
    have hc : cOk (sg p) := by
      by_cases q : p < n
      · exact Or.inr (h256 p q)
      · exact Or.inl (hE p (by omega))
    have un : qrd_digits_L4 K (fu + 1) (nI v) (nI (6 - (k + 1))) M = if nI (6 - (k + 1)) < (6 : Int32) then
    (ob (qrd_next M) (fun r1 M2 =>
      ob (qrd_isDigit r1 M2) (fun r4 M5 =>
      if r4 = 0 then
      (K (nI v) M5) else
      (ob (qrd_next M5) (fun r7 M8 =>
        qrd_digits_L4 K fu ((((10 : Int32) * (nI v)) + r7) - (48 : Int32)) ((nI (6 - (k + 1))) + (1 : Int32)) (wI M8 3 3 ((M8.1 3 3) + (1 : Int32)))))))) else
    (K (nI v) M) := rfl
    rw [un, if_pos (show nI (6 - (k + 1)) < (6 : Int32) from nI_lt (b := 6) (by omega) (by decide)), next_g hE h256 ht hp h.1, ob_s]
    have hds : yDs sg (k + 1) p v = if yDg (sg p) = true then yDs sg k (p + 1) (10 * v + (sg p - 48)) else Sum.inr (p, v) := rfl
    have hv6 : v < 1000000 := Nat.lt_of_lt_of_le hv (Nat.pow_le_pow_right (n := 10) (by omega) (show 6 - (k + 1) ≤ 6 by omega))
    by_cases q : yDg (sg p) = true
    · have hd := yDg_iff.mp q
      have hl : p < n := y_lt hE (by omega)
      have e10 : 10 ^ (6 - k) = 10 ^ (6 - (k + 1)) * 10 := by rw [← Nat.pow_succ]; congr 1; omega
      obtain ⟨g1, g2⟩ := at_g hs h
      rw [isDg_t hc q, ob_s, if_neg (by decide), next_g hE h256 ht hp h.1, ob_s, sv_n (by omega), show (10 : Int32) = nI 10 from rfl, nI_mul, nI_add, show (48 : Int32) = nI 48 from rfl, nI_subN (by omega), nI_1, show 10 * v + sg p - 48 = 10 * v + (sg p - 48) by omega, show 6 - (k + 1) + 1 = 6 - k by omega]
      obtain ⟨M', x1, x2, x3, x4, x5, x6, x7, x8⟩ := ih fu (p + 1) (10 * v + (sg p - 48)) _ (by omega) (by omega) (by omega) (ht.fr hs g2) (by omega) g1
      refine ⟨M', x1, x2, x3, x4, x5, x6, g2.tr x7, ?_⟩
      rw [hds, if_pos q]; exact x8
    · rw [isDg_f hc q, ob_s, if_pos rfl]
      refine ⟨M, p, v, rfl, hp, hv6, h, Ou.rf _ _, ?_⟩
      rw [hds, if_neg q, if_neg q]
end
