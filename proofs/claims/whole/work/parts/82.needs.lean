/-! what a formula needs, by others or not -/
abbrev BB : Type := Nat → Nat → Bool
def nK1 (l : Nat → Nat) (C : BB) (i j : Nat) : BB := fun a x => if a = i ∧ C i (l j) = true then (C i x || C j x) else C a x
def nKJ (l : Nat → Nat) (i : Nat) : Nat → Nat → BB → BB
  | 0, _, C => C
  | n + 1, j, C => nKJ l i n (j + 1) (nK1 l C i j)
def nKI (l : Nat → Nat) (m : Nat) : Nat → Nat → BB → BB
  | 0, _, C => C
  | n + 1, i, C => nKI l m n (i + 1) (nKJ l i m 0 C)
def nKP (l : Nat → Nat) (m : Nat) : Nat → BB → BB
  | 0, C => C
  | p + 1, C => nKP l m p (nKI l m m 0 C)
def bSub (C C' : BB) : Prop := ∀ a x, C a x = true → C' a x = true
section
variable {l : Nat → Nat} {m : Nat}
theorem nK1_ge (C : BB) (i j : Nat) : bSub C (nK1 l C i j) := fun a x h => by
  unfold nK1
  by_cases q : a = i ∧ C i (l j) = true
  · rw [if_pos q, ← q.1, h]; rfl
  · rw [if_neg q]; exact h
theorem nKJ_ge (i : Nat) : ∀ n j C, bSub C (nKJ l i n j C)
  | 0, _, _ => fun _ _ h => h
  | n + 1, j, C => fun a x h => nKJ_ge i n (j + 1) _ a x (nK1_ge C i j a x h)
theorem nKI_ge : ∀ n i C, bSub C (nKI l m n i C)
  | 0, _, _ => fun _ _ h => h
  | n + 1, i, C => fun a x h => nKI_ge n (i + 1) _ a x (nKJ_ge i m 0 C a x h)
theorem nKP_s : ∀ p C, nKP l m (p + 1) C = nKI l m m 0 (nKP l m p C)
  | 0, _ => rfl
  | p + 1, C => nKP_s p (nKI l m m 0 C)
theorem nKP_up (C : BB) {p q : Nat} (h : p ≤ q) : bSub (nKP l m p C) (nKP l m q C) := by
  obtain ⟨d, rfl⟩ : ∃ d, q = p + d := ⟨q - p, by omega⟩
  induction d with
  | zero => exact fun _ _ h => h
  | succ d ih => exact fun a x h => by rw [← Nat.add_assoc, nKP_s]; exact nKI_ge m 0 _ a x (ih (by omega) a x h)
/-- closed: what a needed one needs is needed -/
def nCl (l : Nat → Nat) (m : Nat) (T : Nat → Nat → Prop) : Prop := ∀ i j x, i < m → j < m → T i (l j) → T j x → T i x
theorem nK1_s {T : Nat → Nat → Prop} (hT : nCl l m T) {C : BB} (h : ∀ a x, C a x = true → T a x) {i j : Nat} (hi : i < m) (hj : j < m) : ∀ a x, nK1 l C i j a x = true → T a x := fun a x q => by
  unfold nK1 at q
  by_cases z : a = i ∧ C i (l j) = true
  · rw [if_pos z] at q
    obtain ⟨rfl, z2⟩ := z
    rcases (Bool.or_eq_true _ _).mp q with q | q
    · exact h a x q
    · exact hT a j x hi hj (h _ _ z2) (h _ _ q)
  · rw [if_neg z] at q; exact h a x q
theorem nKJ_s {T : Nat → Nat → Prop} (hT : nCl l m T) {i : Nat} (hi : i < m) : ∀ n j (C : BB), j + n ≤ m → (∀ a x, C a x = true → T a x) → ∀ a x, nKJ l i n j C a x = true → T a x
  | 0, _, _, _, h => h
  | n + 1, j, C, hn, h => nKJ_s hT hi n (j + 1) _ (by omega) (nK1_s hT h hi (by omega))
theorem nKI_s {T : Nat → Nat → Prop} (hT : nCl l m T) : ∀ n i (C : BB), i + n ≤ m → (∀ a x, C a x = true → T a x) → ∀ a x, nKI l m n i C a x = true → T a x
  | 0, _, _, _, h => h
  | n + 1, i, C, hn, h => nKI_s hT n (i + 1) _ (by omega) (nKJ_s hT (by omega) m 0 C (by omega) h)
theorem nKP_t {T : Nat → Nat → Prop} (hT : nCl l m T) : ∀ p (C : BB), (∀ a x, C a x = true → T a x) → ∀ a x, nKP l m p C a x = true → T a x
  | 0, _, h => h
  | p + 1, C, h => nKP_t hT p _ (nKI_s hT m 0 C (by omega) h)
theorem nKJ_p (i : Nat) {j x : Nat} : ∀ n j0 (C : BB), j0 ≤ j → j < j0 + n → C i (l j) = true → C j x = true → nKJ l i n j0 C i x = true
  | 0, _, _, h1, h2, _, _ => by omega
  | n + 1, j0, C, h1, h2, h3, h4 => by
    by_cases q : j = j0
    · subst q
      refine nKJ_ge i n (j + 1) _ i x ?_
      unfold nK1
      rw [if_pos ⟨rfl, h3⟩, h4]
      simp
    · exact nKJ_p i n (j0 + 1) _ (by omega) (by omega) (nK1_ge C i j0 _ _ h3) (nK1_ge C i j0 _ _ h4)
theorem nKI_p {i j x : Nat} (hj : j < m) : ∀ n i0 (C : BB), i0 ≤ i → i < i0 + n → C i (l j) = true → C j x = true → nKI l m n i0 C i x = true
  | 0, _, _, h1, h2, _, _ => by omega
  | n + 1, i0, C, h1, h2, h3, h4 => by
    by_cases q : i = i0
    · subst q
      exact nKI_ge n (i + 1) _ i x (nKJ_p i m 0 C (by omega) (by omega) h3 h4)
    · exact nKI_p hj n (i0 + 1) _ (by omega) (by omega) (nKJ_ge i0 m 0 C _ _ h3) (nKJ_ge i0 m 0 C _ _ h4)
end
/-- reached in at most so many steps more -/
def sPt (D : BB) (m : Nat) : Nat → BB
  | 0 => D
  | p + 1 => fun i q => sPt D m p i q || (List.range m).any (fun j => sPt D m p i j && D j q)
section
variable {D : BB} {m : Nat}
theorem sPt_s {p i q : Nat} : sPt D m (p + 1) i q = true ↔ sPt D m p i q = true ∨ ∃ j, j < m ∧ sPt D m p i j = true ∧ D j q = true := by
  show (sPt D m p i q || (List.range m).any (fun j => sPt D m p i j && D j q)) = true ↔ _
  rw [Bool.or_eq_true, List.any_eq_true]
  refine or_congr Iff.rfl ⟨?_, ?_⟩
  · rintro ⟨j, h1, h2⟩
    rw [Bool.and_eq_true] at h2
    exact ⟨j, List.mem_range.mp h1, h2.1, h2.2⟩
  · rintro ⟨j, h1, h2, h3⟩
    exact ⟨j, List.mem_range.mpr h1, by rw [h2, h3]; rfl⟩
theorem sPt_0 {i q : Nat} (h : D i q = true) : ∀ p, sPt D m p i q = true
  | 0 => h
  | p + 1 => sPt_s.mpr (Or.inl (sPt_0 h p))
def sCl (D : BB) (m p i : Nat) : Prop := ∀ j q, j < m → q < m → sPt D m p i j = true → D j q = true → sPt D m p i q = true
theorem sPt_c (i : Nat) : ∀ p, sCl D m p i ∨ p + 1 ≤ cnt (sPt D m p i) m := by
  intro p
  induction p with
  | zero =>
    by_cases h : cnt (sPt D m 0 i) m = 0
    · left
      intro j q hj hq h1 _
      have := cnt_lt (f := fun _ => false) (g := sPt D m 0 i) (x := j) m (fun _ _ z => by cases z) hj h1 (by simp)
      omega
    · right; omega
  | succ p ih =>
    by_cases hc : sCl D m p i
    · left
      have e : ∀ q, q < m → sPt D m (p + 1) i q = true → sPt D m p i q = true := fun q hq h => by
        rcases sPt_s.mp h with h | ⟨j, h1, h2, h3⟩
        · exact h
        · exact hc j q h1 hq h2 h3
      intro j q hj hq h1 h2
      exact sPt_s.mpr (Or.inl (hc j q hj hq (e j hj h1) h2))
    · right
      have h := ih.resolve_left hc
      unfold sCl at hc
      simp only [Classical.not_forall] at hc
      obtain ⟨j, q, h1, h2, h3, h4, h5⟩ := hc
      have := cnt_lt (f := sPt D m p i) (g := sPt D m (p + 1) i) (x := q) m (fun k _ z => sPt_s.mpr (Or.inl z)) h2 (sPt_s.mpr (Or.inr ⟨j, h1, h3, h4⟩)) h5
      omega
theorem sPt_cl (hm : 0 < m) (i : Nat) : sCl D m (m - 1) i := by
  rcases sPt_c (D := D) (m := m) i (m - 1) with h | h
  · exact h
  · intro j q _ hq _ _
    exact cnt_all (n := m) (by omega) q hq
theorem sPt_tr (hm : 0 < m) {i j : Nat} (hj : j < m) (h : sPt D m (m - 1) i j = true) : ∀ p q, q < m → sPt D m p j q = true → sPt D m (m - 1) i q = true := by
  intro p
  induction p with
  | zero => intro q hq h2; exact sPt_cl hm i j q hj hq h h2
  | succ p ih =>
    intro q hq h2
    rcases sPt_s.mp h2 with h2 | ⟨k, h3, h4, h5⟩
    · exact ih q hq h2
    · exact sPt_cl hm i k q h3 hq (ih k h3 h4) h5
end
/-- what is needed in the end -/
theorem nKP_g {l : Nat → Nat} {m : Nat} (C0 D : BB) (hD : ∀ i q, i < m → q < m → D i q = C0 i (l q)) {p : Nat} (hp : m ≤ p) {i : Nat} (hi : i < m) (x : Nat) : nKP l m p C0 i x = true ↔ C0 i x = true ∨ ∃ j, j < m ∧ sPt D m (m - 1) i j = true ∧ C0 j x = true := by
  have hm : 0 < m := by omega
  constructor
  · intro h
    refine nKP_t (T := fun i x => C0 i x = true ∨ ∃ j, j < m ∧ sPt D m (m - 1) i j = true ∧ C0 j x = true) (l := l) (m := m) (fun a j x ha hj h1 h2 => ?_) p C0 (fun a x h => Or.inl h) i x h
    have sj : sPt D m (m - 1) a j = true := by
      rcases h1 with h1 | ⟨k, k1, k2, k3⟩
      · exact sPt_0 (by rw [hD a j ha hj]; exact h1) _
      · exact sPt_cl hm a k j k1 hj k2 (by rw [hD k j k1 hj]; exact k3)
    rcases h2 with h2 | ⟨k, k1, k2, k3⟩
    · exact Or.inr ⟨j, hj, sj, h2⟩
    · exact Or.inr ⟨k, k1, sPt_tr hm hj sj _ k k1 k2, k3⟩
  · have base : ∀ q j, j < m → sPt D m q i j = true → nKP l m q C0 i (l j) = true := by
      intro q
      induction q with
      | zero =>
        intro j hj h
        show C0 i (l j) = true
        rw [← hD i j hi hj]; exact h
      | succ q ih =>
        intro j hj h
        rw [nKP_s]
        rcases sPt_s.mp h with h | ⟨k, k1, k2, k3⟩
        · exact nKI_ge m 0 _ _ _ (ih j hj h)
        · refine nKI_p k1 m 0 _ (by omega) (by omega) (ih k k1 k2) (nKP_up C0 (Nat.zero_le q) _ _ ?_)
          show C0 k (l j) = true
          rw [← hD k j k1 hj]; exact k3
    rintro (h | ⟨j, h1, h2, h3⟩)
    · exact nKP_up C0 (Nat.zero_le p) _ _ h
    · refine nKP_up C0 hp _ _ ?_
      obtain ⟨m', rfl⟩ : ∃ y, m = y + 1 := ⟨m - 1, by omega⟩
      rw [nKP_s]
      exact nKI_p h1 (m' + 1) 0 _ (by omega) (by omega) (base m' j h1 h2) (nKP_up C0 (Nat.zero_le m') _ _ h3)
theorem nKP_l {l : Nat → Nat} {m : Nat} (C0 D : BB) (hD : ∀ i q, i < m → q < m → D i q = C0 i (l q)) {p : Nat} (hp : m ≤ p) {i q : Nat} (hi : i < m) (hq : q < m) : nKP l m p C0 i (l q) = sPt D m (m - 1) i q := by
  have hm : 0 < m := by omega
  have e : nKP l m p C0 i (l q) = true ↔ sPt D m (m - 1) i q = true := by
    rw [nKP_g C0 D hD hp hi]
    constructor
    · rintro (h | ⟨j, h1, h2, h3⟩)
      · exact sPt_0 (by rw [hD i q hi hq]; exact h) _
      · exact sPt_cl hm i j q h1 hq h2 (by rw [hD j q h1 hq]; exact h3)
    · intro h
      have key : ∀ p, sPt D m p i q = true → C0 i (l q) = true ∨ ∃ j, j < m ∧ sPt D m p i j = true ∧ C0 j (l q) = true := by
        intro p
        induction p with
        | zero => intro h; exact Or.inl (by rw [← hD i q hi hq]; exact h)
        | succ p ih =>
          intro h
          rcases sPt_s.mp h with h | ⟨k, k1, k2, k3⟩
          · rcases ih h with h | ⟨j, j1, j2, j3⟩
            · exact Or.inl h
            · exact Or.inr ⟨j, j1, sPt_s.mpr (Or.inl j2), j3⟩
          · exact Or.inr ⟨k, k1, sPt_s.mpr (Or.inl k2), by rw [← hD k q k1 hq]; exact k3⟩
      exact key _ h
  cases h1 : nKP l m p C0 i (l q) <;> cases h2 : sPt D m (m - 1) i q
  · rfl
  · rw [h1, h2] at e; exact absurd (e.mpr rfl) (by decide)
  · rw [h1, h2] at e; exact absurd (e.mp rfl) (by decide)
  · rfl
/-- what is needed, needs less -/
theorem nKP_r {l : Nat → Nat} {m N : Nat} (C0 D : BB) (hD : ∀ i q, i < m → q < m → D i q = C0 i (l q)) {p : Nat} (hp : m ≤ p) {i j : Nat} (hi : i < m) (hj : j < m) (hN : l j < N) (h : sPt D m (m - 1) i j = true) (ha : sPt D m (m - 1) j j = false) : cnt (nKP l m p C0 j) N < cnt (nKP l m p C0 i) N := by
  have hm : 0 < m := by omega
  refine cnt_lt (x := l j) N (fun x _ hx => ?_) hN (by rw [nKP_l C0 D hD hp hi hj]; exact h) (by rw [nKP_l C0 D hD hp hj hj, ha]; decide)
  rw [nKP_g C0 D hD hp hi]
  rcases (nKP_g C0 D hD hp hj x).mp hx with h1 | ⟨k, k1, k2, k3⟩
  · exact Or.inr ⟨j, hj, h, h1⟩
  · exact Or.inr ⟨k, k1, sPt_tr hm hj h _ k k1 k2, k3⟩
/-! formulas reckoned one behind the other -/
def evO (x : Nat → Nat) (e : Nat → LE → Int64) : List Nat → LE → LE
  | [], K => K
  | k :: t, K => evO x e t (fun y => if y = x k then e k K else K y)
theorem evO_n {x : Nat → Nat} {e : Nat → LE → Int64} : ∀ (t : List Nat) (K : LE) (y : Nat), (∀ k ∈ t, x k ≠ y) → evO x e t K y = K y
  | [], _, _, _ => rfl
  | k :: t, K, y, h => by
    show evO x e t _ y = _
    rw [evO_n t _ y (fun q hq => h q (List.mem_cons_of_mem _ hq)), if_neg (fun z => h k (by simp) z.symm)]
theorem evO_f {x : Nat → Nat} {e : Nat → LE → Int64} {nd : Nat → Nat → Prop} {rk : Nat → Nat} {m : Nat} (hx : ∀ i j, i < m → j < m → x i = x j → i = j) (he : ∀ k, k < m → ∀ K K' : LE, (∀ y, nd k y → K y = K' y) → e k K = e k K') (hr : ∀ k q, k < m → q < m → nd k (x q) → rk q < rk k) :
    ∀ (t : List Nat) (K : LE), (∀ k ∈ t, k < m) → t.Nodup → t.Pairwise (fun a b => rk a ≤ rk b) → ∀ k ∈ t, evO x e t K (x k) = e k (evO x e t K)
  | [], _, _, _, _, _, h => by simp at h
  | k0 :: t, K, hm, hn, hp, k, hk => by
    obtain ⟨hn1, hn2⟩ := List.nodup_cons.mp hn
    obtain ⟨hp1, hp2⟩ := List.pairwise_cons.mp hp
    have h0 := hm k0 (by simp)
    have hm' : ∀ k ∈ t, k < m := fun q hq => hm q (List.mem_cons_of_mem _ hq)
    show evO x e t _ (x k) = e k (evO x e t _)
    rcases List.mem_cons.mp hk with rfl | hk
    · rw [evO_n t _ _ (fun q hq z => hn1 (by rw [← hx q k (hm' q hq) h0 z]; exact hq)), if_pos rfl]
      refine he k h0 _ _ (fun y hy => ?_)
      rw [evO_n t _ y (fun q hq z => ?_), if_neg (fun z => ?_)]
      · subst z
        have := hr k k h0 h0 hy
        omega
      · subst z
        have := hr k q h0 (hm' q hq) hy
        have := hp1 q hq
        omega
    · exact evO_f hx he hr t _ hm' hn2 hp2 k hk
theorem fix_u {x : Nat → Nat} {e : Nat → LE → Int64} {nd : Nat → Nat → Prop} {rk : Nat → Nat} {m : Nat} (he : ∀ k, k < m → ∀ K K' : LE, (∀ y, nd k y → K y = K' y) → e k K = e k K') (hr : ∀ k q, k < m → q < m → nd k (x q) → rk q < rk k) {K K' : LE} (h1 : ∀ k, k < m → K (x k) = e k K) (h2 : ∀ k, k < m → K' (x k) = e k K') (h3 : ∀ y, (∀ k, k < m → x k ≠ y) → K y = K' y) : ∀ y, K y = K' y := by
  have key : ∀ r k, k < m → rk k < r → K (x k) = K' (x k) := by
    intro r
    induction r with
    | zero => intro k _ h; omega
    | succ r ih =>
      intro k hk hr'
      rw [h1 k hk, h2 k hk]
      refine he k hk _ _ (fun y hy => ?_)
      by_cases q : ∃ j, j < m ∧ x j = y
      · obtain ⟨j, hj, rfl⟩ := q
        have := hr k j hk hj hy
        exact ih j hj (by omega)
      · exact h3 y (fun j hj z => q ⟨j, hj, z⟩)
  intro y
  by_cases q : ∃ j, j < m ∧ x j = y
  · obtain ⟨j, hj, rfl⟩ := q
    exact key (rk j + 1) j hj (by omega)
  · exact h3 y (fun j hj z => q ⟨j, hj, z⟩)
/-- by how many each needs -/
def orI (rk : Nat → Nat) (r n : Nat) : List Nat := (List.range n).filter (fun i => Nat.beq (rk i) r)
def orL (rk : Nat → Nat) (m : Nat) : Nat → List Nat
  | 0 => []
  | r + 1 => orL rk m r ++ orI rk r m
section
variable {rk : Nat → Nat} {m : Nat}
theorem orI_m {r n k : Nat} : k ∈ orI rk r n ↔ k < n ∧ rk k = r := by
  unfold orI
  rw [List.mem_filter, List.mem_range]
  exact and_congr Iff.rfl ⟨fun h => Nat.eq_of_beq_eq_true h, fun h => by rw [h]; exact Nat.beq_refl r⟩
theorem orI_s (r n : Nat) : orI rk r (n + 1) = orI rk r n ++ (if rk n = r then [n] else []) := by
  unfold orI
  rw [List.range_succ, List.filter_append]
  congr 1
  by_cases q : rk n = r
  · rw [if_pos q, List.filter_cons_of_pos (by rw [q]; exact Nat.beq_refl r)]; rfl
  · rw [if_neg q, List.filter_cons_of_neg (p := fun i => Nat.beq (rk i) r) (fun z => q (Nat.eq_of_beq_eq_true z))]; rfl
theorem orL_m {k : Nat} : ∀ r, k ∈ orL rk m r ↔ k < m ∧ rk k < r
  | 0 => by unfold orL; simp
  | r + 1 => by
    unfold orL
    rw [List.mem_append, orL_m r, orI_m]
    omega
theorem orL_nd : ∀ r, (orL rk m r).Nodup
  | 0 => by unfold orL; simp
  | r + 1 => by
    unfold orL
    rw [List.nodup_append]
    refine ⟨orL_nd r, ?_, fun a ha b hb => ?_⟩
    · unfold orI; exact List.nodup_range.filter _
    · have h1 := (orL_m r).mp ha
      have h2 := orI_m.mp hb
      intro z
      subst z
      omega
theorem orL_pw : ∀ r, (orL rk m r).Pairwise (fun a b => rk a ≤ rk b)
  | 0 => by unfold orL; simp
  | r + 1 => by
    unfold orL
    rw [List.pairwise_append]
    refine ⟨orL_pw r, ?_, fun a ha b hb => ?_⟩
    · have : ∀ n, (orI rk r n).Pairwise (fun a b => rk a ≤ rk b) := by
        intro n
        rw [List.pairwise_iff_forall_sublist]
        intro a b h
        have h1 := orI_m.mp (h.subset (show a ∈ [a, b] by simp))
        have h2 := orI_m.mp (h.subset (show b ∈ [a, b] by simp))
        omega
      exact this m
    · have h1 := (orL_m r).mp ha
      have h2 := orI_m.mp hb
      omega
theorem orL_len (r : Nat) : (orL rk m r).length = cnt (fun k => Nat.blt (rk k) r) m := by
  have hI : ∀ r n, (orI rk r n).length = cnt (fun k => Nat.beq (rk k) r) n := by
    intro r n
    induction n with
    | zero => rfl
    | succ n ih =>
      rw [orI_s, List.length_append, ih]
      show _ = cnt (fun k => Nat.beq (rk k) r) n + (if Nat.beq (rk n) r = true then 1 else 0)
      by_cases q : rk n = r
      · rw [if_pos q, if_pos (by rw [q]; exact Nat.beq_refl r)]; rfl
      · rw [if_neg q, if_neg (fun z => q (Nat.eq_of_beq_eq_true z))]; rfl
  have add : ∀ n, cnt (fun k => Nat.blt (rk k) (r + 1)) n = cnt (fun k => Nat.blt (rk k) r) n + cnt (fun k => Nat.beq (rk k) r) n := by
    intro n
    induction n with
    | zero => rfl
    | succ n ih =>
      show cnt (fun k => Nat.blt (rk k) (r + 1)) n + (if Nat.blt (rk n) (r + 1) = true then 1 else 0) = cnt (fun k => Nat.blt (rk k) r) n + (if Nat.blt (rk n) r = true then 1 else 0) + (cnt (fun k => Nat.beq (rk k) r) n + (if Nat.beq (rk n) r = true then 1 else 0))
      rw [ih]
      by_cases q1 : rk n < r
      · rw [if_pos (blt_iff.mpr (by omega)), if_pos (blt_iff.mpr q1), if_neg (fun z => by have := Nat.eq_of_beq_eq_true z; omega)]; omega
      · by_cases q2 : rk n = r
        · rw [if_pos (blt_iff.mpr (by omega)), if_neg (fun z => q1 (blt_iff.mp z)), if_pos (by rw [q2]; exact Nat.beq_refl r)]; omega
        · rw [if_neg (fun z => by have := blt_iff.mp z; omega), if_neg (fun z => q1 (blt_iff.mp z)), if_neg (fun z => q2 (Nat.eq_of_beq_eq_true z))]; omega
  have add' := add m
  clear add
  revert add'
  induction r with
  | zero =>
    intro _
    show 0 = _
    have : ∀ n, cnt (fun k => Nat.blt (rk k) 0) n = 0 := by
      intro n
      induction n with
      | zero => rfl
      | succ n ih =>
        show cnt (fun k => Nat.blt (rk k) 0) n + (if Nat.blt (rk n) 0 = true then 1 else 0) = 0
        rw [ih, if_neg (fun z => by have := blt_iff.mp z; omega)]
    rw [this]
  | succ r ih =>
    intro _
    show (orL rk m r ++ orI rk r m).length = _
    have add2 : ∀ n, cnt (fun k => Nat.blt (rk k) (r + 1)) n = cnt (fun k => Nat.blt (rk k) r) n + cnt (fun k => Nat.beq (rk k) r) n := by
      intro n
      induction n with
      | zero => rfl
      | succ n ih =>
        show cnt (fun k => Nat.blt (rk k) (r + 1)) n + (if Nat.blt (rk n) (r + 1) = true then 1 else 0) = cnt (fun k => Nat.blt (rk k) r) n + (if Nat.blt (rk n) r = true then 1 else 0) + (cnt (fun k => Nat.beq (rk k) r) n + (if Nat.beq (rk n) r = true then 1 else 0))
        rw [ih]
        by_cases q1 : rk n < r
        · rw [if_pos (blt_iff.mpr (by omega)), if_pos (blt_iff.mpr q1), if_neg (fun z => by have := Nat.eq_of_beq_eq_true z; omega)]; omega
        · by_cases q2 : rk n = r
          · rw [if_pos (blt_iff.mpr (by omega)), if_neg (fun z => q1 (blt_iff.mp z)), if_pos (by rw [q2]; exact Nat.beq_refl r)]; omega
          · rw [if_neg (fun z => by have := blt_iff.mp z; omega), if_neg (fun z => q1 (blt_iff.mp z)), if_neg (fun z => q2 (Nat.eq_of_beq_eq_true z))]; omega
    rw [List.length_append, ih (add2 m), hI, add2 m]
end
