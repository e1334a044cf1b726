/-! what follows is pure: the class' functions and the reference's on both memories -/
theorem ob_s {α β : Type} (r : α) (M : SM) (k : α → SM → Option β) : ob (some (r, M)) k = k r M := rfl
theorem ck_t {β : Type} (k : Option β) : ck true k = k := rfl
theorem ckb {β : Type} {b : Bool} {k : Option β} (h : b = true) : ck b k = k := by subst h; rfl
theorem jn_s {α β : Type} (f : α) (g : α → β) : jn f g = g f := rfl
theorem ltt_s {α β : Type} (a : α) (f : α → β) : lt a f = f a := rfl
theorem om_n {β : Type} (a : β) (f : Nat → β) : om none a f = a := rfl
theorem om_s {β : Type} (s : Nat) (a : β) (f : Nat → β) : om (some s) a f = f s := rfl
theorem wI_1 (M : SM) (c i : Nat) (v : Int32) (c' i' : Nat) : (wI M c i v).1 c' i' = if c' = c ∧ i' = i then v else M.1 c' i' := upI_e _ _ _ _ _ _
theorem wI_2 (M : SM) (c i : Nat) (v : Int32) : (wI M c i v).2 = M.2 := rfl
theorem wL_1 (M : SM) (c i : Nat) (v : Int64) : (wL M c i v).1 = M.1 := rfl
theorem wL_2 (M : SM) (c i : Nat) (v : Int64) (c' i' : Nat) : (wL M c i v).2 c' i' = if c' = c ∧ i' = i then v else M.2 c' i' := upL_e _ _ _ _ _ _
/-- it returns, and then P -/
def Rt {α : Type} (o : Option (α × SM)) (P : α → SM → Prop) : Prop := ∃ r M, o = some (r, M) ∧ P r M
theorem Rt.ret {α : Type} {r : α} {M : SM} {P : α → SM → Prop} (h : P r M) : Rt (some (r, M)) P := ⟨r, M, rfl, h⟩
theorem Rt.bind {α β : Type} {o : Option (α × SM)} {k : α → SM → Option (β × SM)} {P : α → SM → Prop} {Q : β → SM → Prop} (h : Rt o P) (hk : ∀ r M, P r M → Rt (k r M) Q) : Rt (ob o k) Q := by
  obtain ⟨r, M, rfl, hp⟩ := h
  exact hk r M hp
theorem Rt.eqb {α β : Type} {o : Option (α × SM)} {r : α} {M : SM} {k : α → SM → Option (β × SM)} {Q : β → SM → Prop} (h : o = some (r, M)) (hk : Rt (k r M) Q) : Rt (ob o k) Q := by
  subst h
  exact hk
theorem Rt.cK {α : Type} {b : Bool} {o : Option (α × SM)} {P : α → SM → Prop} (hb : b = true) (h : Rt o P) : Rt (ck b o) P := by
  subst hb
  exact h
theorem Rt.itE {α : Type} {c : Prop} {d : Decidable c} {a b : Option (α × SM)} {P : α → SM → Prop} (h1 : c → Rt a P) (h2 : ¬ c → Rt b P) : Rt (@ite _ c d a b) P := by
  by_cases h : c
  · rw [if_pos h]; exact h1 h
  · rw [if_neg h]; exact h2 h
theorem Rt.poS {α : Type} {c : Prop} {d : Decidable c} {a b : Option (α × SM)} {P : α → SM → Prop} (h : c) (h1 : Rt a P) : Rt (@ite _ c d a b) P := by rw [if_pos h]; exact h1
theorem Rt.neG {α : Type} {c : Prop} {d : Decidable c} {a b : Option (α × SM)} {P : α → SM → Prop} (h : ¬ c) (h1 : Rt b P) : Rt (@ite _ c d a b) P := by rw [if_neg h]; exact h1
theorem Rt.mono {α : Type} {o : Option (α × SM)} {P Q : α → SM → Prop} (h : Rt o P) (hk : ∀ r M, P r M → Q r M) : Rt o Q := by
  obtain ⟨r, M, e, hp⟩ := h
  exact ⟨r, M, e, hk r M hp⟩
theorem Rt.oF {α : Type} {o : Option (α × SM)} {r : α} {M : SM} {P : α → SM → Prop} (e : o = some (r, M)) (h : P r M) : Rt o P := ⟨r, M, e, h⟩
/-! numbers -/
theorem nI_mul (a b : Nat) : nI a * nI b = nI (a * b) := by
  unfold nI
  exact (Int32.ofNat_mul a b).symm
theorem nI_lt0 {n : Nat} (h : n < 2147483648) : ¬ nI n < 0 := nI_pos h
theorem nI_cl {n : Nat} (h : n < 2147483648) : Int32.toNatClampNeg (nI n) = n := nI_clamp h
theorem nI_inj {a b : Nat} (ha : a < 2147483648) (hb : b < 2147483648) (h : nI a = nI b) : a = b := (nI_eq ha hb).mp h
theorem nI_ne_m1 {n : Nat} (h : n < 2147483648) : ¬ nI n = -1 := fun q => nI_pos h (by rw [q]; decide)
theorem nI_ltN {a b : Nat} (ha : a < 2147483648) (hb : b < 2147483648) : (nI a < nI b) = (a < b) := propext (nI_ltI ha hb)
theorem nI_eqN {a b : Nat} (ha : a < 2147483648) (hb : b < 2147483648) : (nI a = nI b) = (a = b) := propext (nI_eq ha hb)
theorem nI_subN {a b : Nat} (h : b ≤ a) : nI a - nI b = nI (a - b) := by
  have h1 : nI (a - b) + nI b = nI a := by rw [nI_add]; congr 1; omega
  rw [← h1, Int32.add_sub_cancel]
theorem nI_m1 {a : Nat} (h : 1 ≤ a) : nI a - 1 = nI (a - 1) := nI_subN h
/-- a place in a row, or none -/
theorem ix (x : Int32) (n : Nat) (hn : n < 2147483648) : (∃ j, j < n ∧ x = nI j) ∨ (x < 0 ∨ ¬ x < nI n) := by
  by_cases h : x < 0
  · exact Or.inr (Or.inl h)
  · obtain ⟨j, hj, rfl⟩ := nI_of h
    by_cases h2 : nI j < nI n
    · exact Or.inl ⟨j, (nI_ltI hj hn).mp h2, rfl⟩
    · exact Or.inr (Or.inr h2)
theorem ib_n {n i : Nat} (h : i < n) (hn : n ≤ 2147483648) : ib n (nI i) = true := ib_iff.mpr fun q => by
  rcases q with q | q
  · exact nI_pos (by omega) q
  · rw [nI_clamp (by omega)] at q; omega
theorem av_n {a k i : Nat} (hk : K0 a = k) (ha : a < 336) (h : i < Z0 a) (hz : Z0 a ≤ 2147483648) : av 336 k a (nI i) = true := av_iff.mpr ⟨⟨hk, ha⟩, ib_iff.mp (ib_n h hz)⟩
theorem kc_n {a k : Nat} (hk : K0 a = k) (ha : a < 336) : kc 336 a k = true := kc_iff.mpr ⟨hk, ha⟩
theorem kz_ho : ∀ f, f < 16 → K0 (187 + f) = 20 ∧ Z0 (187 + f) = 520 := by decide +kernel
theorem kz_li : ∀ m, m < 6 → K0 (204 + m) = 20 ∧ Z0 (204 + m) = 520 := by decide +kernel
theorem kz_co : ∀ c, c < 8 → K0 (212 + c) = 20 ∧ Z0 (212 + c) = 300 := by decide +kernel
theorem kz_la : ∀ f, f < 16 → K0 (222 + f) = 20 ∧ Z0 (222 + f) = 520 := by decide +kernel
theorem kz_ga : ∀ f, f < 10 → K0 (247 + f) = 21 ∧ Z0 (247 + f) = 25 := by decide +kernel
theorem kz_be : ∀ f, f < 11 → K0 (258 + f) = 21 ∧ Z0 (258 + f) = 61 := by decide +kernel
theorem and_i2 {a b : Bool} (h : a = true) (h2 : b = true) : (a && b) = true := and_i h h2
/-- a truth as a number -/
def bI (b : Bool) : Int32 := if b then 1 else 0
theorem bI_t : bI true = 1 := rfl
theorem bI_f : bI false = 0 := rfl
theorem bI_0 (b : Bool) : (bI b = 0) = (b = false) := by cases b <;> decide
