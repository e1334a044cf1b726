/-! the best spread of an order: what it is -/
def mxO : Option Int64 → Option Int64 → Option Int64
  | none, b => b
  | some x, none => some x
  | some x, some y => some (if x < y then y else x)
def plO (g : Int64) : Option Int64 → Option Int64
  | none => none
  | some v => some (g + v)
def acO (f : Nat → Option Int64) : Nat → Option Int64
  | 0 => none
  | k + 1 => mxO (acO f k) (f k)
def bP (G : Nat → Nat → Int64) (N : Nat) : Nat → Nat → Option Int64
  | 0, d => if d = 0 then some 0 else none
  | n + 1, d => acO (fun k => plO (G (N - (n + 1)) k) (bP G N n (d - k))) (min 25 (d + 1))
def e1 : Option Int64 → Int64
  | none => -1000000000000
  | some v => v
def e2 : Option Int64 → Int64
  | none => -1000000000000000
  | some v => v
def bd (c : Int) (o : Option Int64) : Prop := ∀ v, o = some v → -c ≤ v.toInt ∧ v.toInt ≤ c
theorem plO_none {g : Int64} {o : Option Int64} : plO g o = none ↔ o = none := by
  cases o
  · exact ⟨fun _ => rfl, fun _ => rfl⟩
  · exact ⟨fun h => (by cases h), fun h => by cases h⟩
theorem mxO_none {a b : Option Int64} : mxO a b = none ↔ a = none ∧ b = none := by
  cases a
  · exact ⟨fun h => ⟨rfl, h⟩, fun h => h.2⟩
  · cases b
    · exact ⟨fun h => (by cases h), fun h => h.1⟩
    · exact ⟨fun h => (by cases h), fun h => (by cases h.1)⟩
theorem mxO_or (a b : Option Int64) : mxO a b = a ∨ mxO a b = b := by
  cases a
  · exact Or.inr rfl
  · rename_i x
    cases b
    · exact Or.inl rfl
    · rename_i y
      show some (if x < y then y else x) = _ ∨ some (if x < y then y else x) = _
      by_cases q : x < y
      · rw [if_pos q]; exact Or.inr rfl
      · rw [if_neg q]; exact Or.inl rfl
theorem acO_none {f : Nat → Option Int64} : ∀ {K : Nat}, acO f K = none ↔ ∀ k, k < K → f k = none
  | 0 => ⟨fun _ k hk => by omega, fun _ => rfl⟩
  | K + 1 => by
    show mxO (acO f K) (f K) = none ↔ _
    rw [mxO_none, acO_none]
    exact ⟨fun h k hk => by
      by_cases q : k = K
      · subst q; exact h.2
      · exact h.1 k (by omega), fun h => ⟨fun k hk => h k (by omega), h K (by omega)⟩⟩
theorem acO_hit {f : Nat → Option Int64} {v : Int64} : ∀ {K : Nat}, acO f K = some v → ∃ k, k < K ∧ f k = some v
  | 0, h => by cases h
  | K + 1, h => by
    have h' : mxO (acO f K) (f K) = some v := h
    rcases mxO_or (acO f K) (f K) with e | e
    · rw [e] at h'
      obtain ⟨k, h1, h2⟩ := acO_hit h'
      exact ⟨k, by omega, h2⟩
    · rw [e] at h'
      exact ⟨K, by omega, h'⟩
theorem bd_ac {c : Int} {f : Nat → Option Int64} {K : Nat} (h : ∀ k, k < K → bd c (f k)) : bd c (acO f K) := fun v hv => by
  obtain ⟨k, h1, h2⟩ := acO_hit hv
  exact h k h1 v h2
theorem i64_add {x y : Int64} (hx : -1000000000000000 ≤ x.toInt ∧ x.toInt ≤ 1000000000000000) (hy : -1000000000000000 ≤ y.toInt ∧ y.toInt ≤ 1000000000000000) : (x + y).toInt = x.toInt + y.toInt := by
  rw [Int64.toInt_add]
  exact Int.bmod_eq_of_le (by omega) (by omega)
theorem bd_pl {a c : Int} {g : Int64} {o : Option Int64} (hg : -a ≤ g.toInt ∧ g.toInt ≤ a) (ho : bd c o) (ha : a ≤ 1000000000000) (hc : c ≤ 1000000000000) : bd (a + c) (plO g o) := fun v hv => by
  cases o with
  | none => cases hv
  | some x =>
    have h1 := ho x rfl
    obtain rfl : g + x = v := by injection hv
    rw [i64_add (by omega) (by omega)]
    omega
theorem bd_mono {a c : Int} {o : Option Int64} (h : bd a o) (hc : a ≤ c) : bd c o := fun v hv => by
  have := h v hv
  omega
def gB (G : Nat → Nat → Int64) (N : Nat) : Prop := ∀ i k, i < N → k < 25 → -10000000000 ≤ (G i k).toInt ∧ (G i k).toInt ≤ 10000000000
theorem bP_bd {G : Nat → Nat → Int64} {N : Nat} (hG : gB G N) (hN : N ≤ 10) : ∀ (n d : Nat), n ≤ N → bd ((n : Int) * 10000000000) (bP G N n d)
  | 0, d, _ => fun v hv => by
    unfold bP at hv
    by_cases q : d = 0
    · rw [if_pos q] at hv
      obtain rfl : (0 : Int64) = v := by injection hv
      rw [show (0 : Int64).toInt = 0 from rfl]
      omega
    · rw [if_neg q] at hv; cases hv
  | n + 1, d, hn => by
    unfold bP
    refine bd_ac fun k hk => ?_
    have := bd_pl (hG (N - (n + 1)) k (by omega) (by omega)) (bP_bd hG hN n (d - k) (by omega)) (by omega) (by omega)
    exact bd_mono this (by omega)
theorem bP_b {G : Nat → Nat → Int64} {N : Nat} (hG : gB G N) (hN : N ≤ 10) {n d : Nat} (hn : n ≤ N) : bd 100000000000 (bP G N n d) := bd_mono (bP_bd hG hN n d hn) (by omega)
theorem bP_none {G : Nat → Nat → Int64} {N : Nat} : ∀ {n d : Nat}, bP G N n d = none ↔ 24 * n < d
  | 0, d => by
    unfold bP
    by_cases q : d = 0
    · rw [if_pos q]; exact ⟨fun h => (by cases h), fun h => by omega⟩
    · rw [if_neg q]; exact ⟨fun _ => by omega, fun _ => rfl⟩
  | n + 1, d => by
    unfold bP
    rw [acO_none]
    refine ⟨fun h => ?_, fun h k hk => ?_⟩
    · have := bP_none.mp (plO_none.mp (h (min 24 d) (by omega)))
      omega
    · exact plO_none.mpr (bP_none.mpr (by omega))
theorem bP_r {G : Nat → Nat → Int64} {N r : Nat} (hr : r < N) (d : Nat) : bP G N (N - r) d = acO (fun k => plO (G r k) (bP G N (N - (r + 1)) (d - k))) (min 25 (d + 1)) := by
  obtain ⟨n, hn⟩ : ∃ n, N - r = n + 1 := ⟨N - r - 1, by omega⟩
  rw [hn]
  show acO (fun k => plO (G (N - (n + 1)) k) (bP G N n (d - k))) (min 25 (d + 1)) = _
  rw [show N - (n + 1) = r by omega, show N - (r + 1) = n by omega]
theorem e1_inj {a b : Option Int64} (ha : bd 200000000000 a) (hb : bd 200000000000 b) : (e1 a = e1 b) = (a = b) := by
  cases a with
  | none =>
    cases b with
    | none => exact eq_self _ |>.trans (eq_self _).symm
    | some y =>
      have := hb y rfl
      refine propext ⟨fun h => ?_, fun h => by cases h⟩
      have h2 : (-1000000000000 : Int64) = y := h
      rw [← h2, show (-1000000000000 : Int64).toInt = -1000000000000 from rfl] at this
      omega
  | some x =>
    have := ha x rfl
    cases b with
    | none =>
      refine propext ⟨fun h => ?_, fun h => by cases h⟩
      have h2 : x = (-1000000000000 : Int64) := h
      rw [h2, show (-1000000000000 : Int64).toInt = -1000000000000 from rfl] at this
      omega
    | some y =>
      exact propext ⟨fun h => congrArg some h, fun h => by injection h⟩
theorem e1_mx {a b : Option Int64} (ha : bd 200000000000 a) (hb : bd 200000000000 b) : lmx (e1 a) (e1 b) = e1 (mxO a b) := by
  rw [lmx_i]
  cases a with
  | none =>
    cases b with
    | none => rfl
    | some y =>
      have := hb y rfl
      refine if_neg (show ¬ y < (-1000000000000 : Int64) from fun q => ?_)
      rw [Int64.lt_iff_toInt_lt, show (-1000000000000 : Int64).toInt = -1000000000000 from rfl] at q
      omega
  | some x =>
    have := ha x rfl
    cases b with
    | none =>
      refine if_pos (show (-1000000000000 : Int64) < x from ?_)
      rw [Int64.lt_iff_toInt_lt, show (-1000000000000 : Int64).toInt = -1000000000000 from rfl]
      omega
    | some y =>
      show (if y < x then x else y) = (if x < y then y else x)
      by_cases h : x < y
      · rw [if_pos h, if_neg (fun q => by rw [Int64.lt_iff_toInt_lt] at h q; omega)]
      · rw [if_neg h]
        by_cases h2 : y < x
        · rw [if_pos h2]
        · rw [if_neg h2]
          apply Int64.toInt_inj.mp
          rw [Int64.lt_iff_toInt_lt] at h h2
          omega
/-- one step of the reference's maximum -/
theorem e2_mx {a : Option Int64} {y : Int64} (ha : bd 200000000000 a) (hy : bd 200000000000 (some y)) : (if e2 a < y then y else e2 a) = e2 (mxO a (some y)) := by
  have := hy y rfl
  cases a with
  | none =>
    refine if_pos (show (-1000000000000000 : Int64) < y from ?_)
    rw [Int64.lt_iff_toInt_lt, show (-1000000000000000 : Int64).toInt = -1000000000000000 from rfl]
    omega
  | some x => rfl
theorem e2_none {a : Option Int64} (ha : bd 200000000000 a) : (e2 a = -1000000000000000) = (a = none) := by
  cases a with
  | none => exact propext ⟨fun _ => rfl, fun _ => rfl⟩
  | some x =>
    have := ha x rfl
    refine propext ⟨fun h => ?_, fun h => by cases h⟩
    have h2 : x = (-1000000000000000 : Int64) := h
    rw [h2, show (-1000000000000000 : Int64).toInt = -1000000000000000 from rfl] at this
    omega
theorem mxO_n (a : Option Int64) : mxO a none = a := by cases a <;> rfl
/-! how many dozens the next frame takes -/
def hF (f : Nat → Option Int64) (o : Option Int64) : Nat → Nat → Nat
  | 0, k => k
  | n + 1, k => if f k = o then k else hF f o n (k + 1)
def hTk (G : Nat → Nat → Int64) (N r d : Nat) : Nat := hF (fun k => plO (G r k) (bP G N (N - (r + 1)) (d - k))) (bP G N (N - r) d) 25 0
theorem hF_hit {f : Nat → Option Int64} {o : Option Int64} : ∀ {n k k' : Nat}, k ≤ k' → k' < k + n → f k' = o → f (hF f o n k) = o ∧ hF f o n k ≤ k'
  | 0, k, k', h1, h2, _ => by omega
  | n + 1, k, k', h1, h2, h3 => by
    unfold hF
    by_cases q : f k = o
    · rw [if_pos q]; exact ⟨q, h1⟩
    · rw [if_neg q]
      refine hF_hit ?_ (by omega) h3
      by_cases e : k = k'
      · subst e; exact absurd h3 q
      · omega
theorem hTk_hit {G : Nat → Nat → Int64} {N r d : Nat} (hr : r < N) {v : Int64} (hv : bP G N (N - r) d = some v) : ∃ k', k' < min 25 (d + 1) ∧ plO (G r k') (bP G N (N - (r + 1)) (d - k')) = bP G N (N - r) d := by
  rw [hv]
  rw [bP_r hr] at hv
  exact acO_hit hv
theorem hTk_ok {G : Nat → Nat → Int64} {N r d : Nat} (hr : r < N) {v : Int64} (hv : bP G N (N - r) d = some v) : hTk G N r d < 25 ∧ hTk G N r d ≤ d ∧ ∃ v', bP G N (N - (r + 1)) (d - hTk G N r d) = some v' := by
  obtain ⟨k', h1, h2⟩ := hTk_hit hr hv
  obtain ⟨h3, h4⟩ := hF_hit (f := fun k => plO (G r k) (bP G N (N - (r + 1)) (d - k))) (n := 25) (k := 0) (k' := k') (by omega) (by omega) h2
  have e : hF (fun k => plO (G r k) (bP G N (N - (r + 1)) (d - k))) (bP G N (N - r) d) 25 0 = hTk G N r d := rfl
  rw [e] at h3 h4
  refine ⟨by omega, by omega, ?_⟩
  have h5 : plO (G r (hTk G N r d)) (bP G N (N - (r + 1)) (d - hTk G N r d)) = some v := h3.trans hv
  cases hb : bP G N (N - (r + 1)) (d - hTk G N r d) with
  | none => rw [hb] at h5; cases h5
  | some v' => exact ⟨v', rfl⟩
/-- the shares of the frames -/
def shM (G : Nat → Nat → Int64) (N : Nat) (R : Nat → Nat) : Nat → Nat → (Nat → Int32) → Nat → Int32
  | 0, _, s => s
  | n + 1, d, s => shM G N R n (d - hTk G N (N - (n + 1)) d) (fun i => if i = R (N - (n + 1)) then nI (hTk G N (N - (n + 1)) d) else s i)
theorem shM_r (G : Nat → Nat → Int64) {N r : Nat} (hr : r < N) (R : Nat → Nat) (d : Nat) (s : Nat → Int32) : shM G N R (N - r) d s = shM G N R (N - (r + 1)) (d - hTk G N r d) (fun i => if i = R r then nI (hTk G N r d) else s i) := by
  obtain ⟨n, hn⟩ : ∃ n, N - r = n + 1 := ⟨N - r - 1, by omega⟩
  rw [hn]
  show shM G N R n (d - hTk G N (N - (n + 1)) d) (fun i => if i = R (N - (n + 1)) then nI (hTk G N (N - (n + 1)) d) else s i) = _
  rw [show N - (n + 1) = r by omega, show N - (r + 1) = n by omega]
theorem shM_o (G : Nat → Nat → Int64) (N : Nat) (R : Nat → Nat) {F : Nat} : ∀ (n d : Nat) (s : Nat → Int32), n ≤ N → (∀ r, r < N → R r < F) → (∀ i, F ≤ i → s i = 0) → ∀ i, F ≤ i → shM G N R n d s i = 0
  | 0, d, s, _, hR, hs, i, hi => hs i hi
  | n + 1, d, s, hn, hR, hs, i, hi => shM_o G N R n _ _ (by omega) hR (fun i' hi' => by
      have := hR (N - (n + 1)) (by omega)
      rw [if_neg (by omega)]
      exact hs i' hi') i hi
