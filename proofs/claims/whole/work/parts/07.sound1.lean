/-! the cells by numbers against the heap -/
abbrev cl13 : List vw_C := (List.range 13).map fun i => (RC i, TC i, nf i)
abbrev tysL (cT : Nat → ClassId) : List (ClassId × FieldType) := [(cT 20, .int), (cT 21, .long), (cT 22, .byte), (cT 23, .char), (cT 24, .boolean), (cT 25, .object "FrameRents$Sheet"), (cT 26, .array .int), (cT 27, .array .long)]
/-- a value as the machine has it: where our cells begin, the script, the text -/
def cv (A : Nat × Nat × Nat) (v : Value) : Value := match v with
  | .ref k => .ref (A.1 + k)
  | .retAddr 1 => .ref A.2.1
  | .retAddr 2 => .ref A.2.2
  | w => w
def fval (A : Nat × Nat × Nat) (M : GM) (ci c k : Nat) : Value := match fk ci k with
  | 0 => .int (M.2.2.1 c k)
  | 4 => .int (M.2.2.1 c k)
  | 1 => .long (M.2.2.2 c k)
  | 2 => cv A (rv (M.2.1 c k))
  | 3 => if M.2.2.1 c k = -1 then .null else .ref (A.1 + (M.2.2.1 c k).toNatClampNeg)
  | _ => .null
def cE (A : Nat × Nat × Nat) (cT : Nat → ClassId) (M : GM) (c : Nat) : va_E :=
  if K0 c < 13 then .inr (K0 c, (List.range (nf (K0 c))).map (fval A M (K0 c) c))
  else if K0 c = 21 then .inl (cT 21, Z0 c, .inr (.inl (M.2.2.2 c)))
  else if 24 < K0 c ∧ K0 c < 28 then .inl (cT (K0 c), Z0 c, .inr (.inr (.inr (.inr (fun i => (M.2.1 c i).map (A.1 + ·))))))
  else .inl (cT (K0 c), Z0 c, .inl (M.2.2.1 c))
def wM (A : Nat × Nat × Nat) (cT : Nat → ClassId) (M : GM) : va_W := (List.range M.1).map fun k => (A.1 + k, cE A cT M k)
theorem wM_len (A : Nat × Nat × Nat) (cT : Nat → ClassId) (M : GM) : (wM A cT M).length = M.1 := by simp [wM]
theorem wM_at {A : Nat × Nat × Nat} {cT : Nat → ClassId} {M : GM} {k : Nat} (h : k < M.1) : (wM A cT M)[k]? = some (A.1 + k, cE A cT M k) := by
  simp [wM, h]
theorem wM_inv {A : Nat × Nat × Nat} {cT : Nat → ClassId} {M : GM} {k : Nat} {q : Nat × va_E} (h : (wM A cT M)[k]? = some q) : k < M.1 ∧ q = (A.1 + k, cE A cT M k) := by
  have h1 : k < M.1 := by
    have := (List.getElem?_eq_some_iff.mp h).1
    rwa [wM_len] at this
  rw [wM_at h1] at h
  exact ⟨h1, (Option.some.inj h).symm⟩
theorem wM_D (A : Nat × Nat × Nat) (cT : Nat → ClassId) (M : GM) : va_D (fun q => A.1 ≤ q) (wM A cT M) := by
  refine ⟨fun i j p q hi hj h => ?_, fun k q hk => ?_⟩
  · obtain ⟨-, rfl⟩ := wM_inv hi
    obtain ⟨-, rfl⟩ := wM_inv hj
    have h2 : A.1 + i = A.1 + j := h
    omega
  · obtain ⟨-, rfl⟩ := wM_inv hk
    exact Nat.le_add_right _ _
/-- one cell anew -/
theorem wM_set {A : Nat × Nat × Nat} {cT : Nat → ClassId} {M M1 : GM} {c : Nat} (hn : M1.1 = M.1) (hc : c < M.1) (ho : ∀ k, k ≠ c → cE A cT M1 k = cE A cT M k) : (wM A cT M).set c (A.1 + c, cE A cT M1 c) = wM A cT M1 := by
  apply List.ext_getElem?
  intro k
  by_cases hk : k = c
  · subst hk
    rw [List.getElem?_set_self (by rw [wM_len]; exact hc), wM_at (by rw [hn]; exact hc)]
  · rw [List.getElem?_set_ne (Ne.symm hk)]
    by_cases h1 : k < M.1
    · rw [wM_at h1, wM_at (by rw [hn]; exact h1), ho k hk]
    · rw [List.getElem?_eq_none (by rw [wM_len]; omega), List.getElem?_eq_none (by rw [wM_len, hn]; omega)]
theorem cl13_at {ci : Nat} (h : ci < 13) : cl13[ci]? = some (RC ci, TC ci, nf ci) := by simp [cl13, h]
theorem blt_iff {a b : Nat} : Nat.blt a b = true ↔ a < b := by simp [Nat.blt]; omega
theorem blt_f {a b : Nat} (h : b ≤ a) : Nat.blt a b = false := by
  cases e : Nat.blt a b
  · rfl
  · have := blt_iff.mp e
    omega
theorem K0_lt {c : Nat} (h : ¬ K0 c = 99) : c < 336 := by
  rcases Nat.lt_or_ge c 336 with q | q
  · exact q
  · refine absurd ?_ h
    have h1 : Nat.blt c 12 = false := blt_f (by omega)
    have h2 : Nat.blt c 15 = false := blt_f (by omega)
    have h3 : Nat.blt c 175 = false := blt_f (by omega)
    have h4 : Nat.blt c 210 = false := blt_f (by omega)
    have h5 : Nat.blt c 244 = false := blt_f (by omega)
    have h6 : Nat.blt c 280 = false := blt_f (by omega)
    have h7 : Nat.blt c 336 = false := blt_f (by omega)
    simp [K0, h1, h2, h3, h4, h5, h6, h7]
theorem kc_iff {n a k : Nat} : kc n a k = true ↔ K0 a = k ∧ a < n := by
  simp [kc, blt_iff]
theorem ib_iff {n : Nat} {i : Int32} : ib n i = true ↔ vp_in i n := by simp [ib, vp_in]
theorem av_iff {n k a : Nat} {i : Int32} : av n k a i = true ↔ (K0 a = k ∧ a < n) ∧ vp_in i (Z0 a) := by
  simp only [av, Bool.and_eq_true, kc_iff, ib_iff]
/-! what the steps' parts ask -/
section
variable {nx : Nat} {ls st : List Value} {M : GM}
theorem xII_s {f : Int32 → Int32 → Int32} (h : (xII f nx ls st M).1 = true) : ∃ x y r, st = .int y :: .int x :: r ∧ xII f nx ls st M = (true, nx, ls, .int (f x y) :: r, M) := by
  unfold xII at h ⊢; split at h
  · exact ⟨_, _, _, rfl, rfl⟩
  · cases h
theorem xLL_s {f : Int64 → Int64 → Int64} (h : (xLL f nx ls st M).1 = true) : ∃ x y r, st = .long y :: .long x :: r ∧ xLL f nx ls st M = (true, nx, ls, .long (f x y) :: r, M) := by
  unfold xLL at h ⊢; split at h
  · exact ⟨_, _, _, rfl, rfl⟩
  · cases h
theorem xI_s {f : Int32 → Int32} (h : (xI f nx ls st M).1 = true) : ∃ x r, st = .int x :: r ∧ xI f nx ls st M = (true, nx, ls, .int (f x) :: r, M) := by
  unfold xI at h ⊢; split at h
  · exact ⟨_, _, rfl, rfl⟩
  · cases h
theorem xCnd_s {f : Int32 → Prop} {d : ∀ x, Decidable (f x)} {t : Nat} (h : (xCnd f d t nx ls st M).1 = true) : ∃ x r, st = .int x :: r ∧ xCnd f d t nx ls st M = (true, @ite _ (f x) (d x) t nx, ls, r, M) := by
  unfold xCnd at h ⊢; split at h
  · exact ⟨_, _, rfl, rfl⟩
  · cases h
theorem xCmp_s {f : Int32 → Int32 → Prop} {d : ∀ x y, Decidable (f x y)} {t : Nat} (h : (xCmp f d t nx ls st M).1 = true) : ∃ x y r, st = .int y :: .int x :: r ∧ xCmp f d t nx ls st M = (true, @ite _ (f x y) (d x y) t nx, ls, r, M) := by
  unfold xCmp at h ⊢; split at h
  · exact ⟨_, _, _, rfl, rfl⟩
  · cases h
theorem xIld_s {i : Nat} (h : (xIld i nx ls st M).1 = true) : ∃ x, lget ls i = .int x ∧ xIld i nx ls st M = (true, nx, ls, .int x :: st, M) := by
  unfold xIld at h ⊢; split at h
  · exact ⟨_, by assumption, by simp [*]⟩
  · cases h
theorem xLld_s {i : Nat} (h : (xLld i nx ls st M).1 = true) : ∃ x, lget ls i = .long x ∧ xLld i nx ls st M = (true, nx, ls, .long x :: st, M) := by
  unfold xLld at h ⊢; split at h
  · exact ⟨_, by assumption, by simp [*]⟩
  · cases h
theorem xAld_s {i : Nat} (h : (xAld i nx ls st M).1 = true) : ∃ v, lget ls i = v ∧ ((∃ x, v = .ref x) ∨ v = .null ∨ v = .retAddr 1) ∧ xAld i nx ls st M = (true, nx, ls, v :: st, M) := by
  unfold xAld at h ⊢; split at h
  · exact ⟨_, rfl, Or.inl ⟨_, by assumption⟩, by simp [*]⟩
  · exact ⟨_, rfl, Or.inr (Or.inl (by assumption)), by simp [*]⟩
  · exact ⟨_, rfl, Or.inr (Or.inr (by assumption)), by simp [*]⟩
  · cases h
theorem xIst_s {i : Nat} (h : (xIst i nx ls st M).1 = true) : ∃ x r, st = .int x :: r ∧ i < ls.length ∧ (xIst i nx ls st M).2 = (nx, lput ls i (.int x), r, M) := by
  unfold xIst at h ⊢; split at h
  · exact ⟨_, _, rfl, blt_iff.mp h, rfl⟩
  · cases h
theorem xLst_s {i : Nat} (h : (xLst i nx ls st M).1 = true) : ∃ x r, st = .long x :: r ∧ i + 1 < ls.length ∧ (xLst i nx ls st M).2 = (nx, lput ls i (.long x), r, M) := by
  unfold xLst at h ⊢; split at h
  · exact ⟨_, _, rfl, blt_iff.mp h, rfl⟩
  · cases h
theorem xAst_s {i : Nat} (h : (xAst i nx ls st M).1 = true) : ∃ v r, ((∃ x, v = .ref x) ∨ v = .null) ∧ st = v :: r ∧ i < ls.length ∧ (xAst i nx ls st M).2 = (nx, lput ls i v, r, M) := by
  unfold xAst at h ⊢; split at h
  · exact ⟨_, _, Or.inl ⟨_, rfl⟩, rfl, blt_iff.mp h, rfl⟩
  · exact ⟨_, _, Or.inr rfl, rfl, blt_iff.mp h, rfl⟩
  · cases h
theorem xInc_s {i : Nat} {v : Int32} (h : (xInc i v nx ls st M).1 = true) : ∃ x, lget ls i = .int x ∧ i < ls.length ∧ (xInc i v nx ls st M).2 = (nx, lput ls i (.int (x + v)), st, M) := by
  unfold xInc at h ⊢; split at h
  · exact ⟨_, by assumption, blt_iff.mp h, by simp [*]⟩
  · cases h
theorem xDivI_s {f : Int32 → Int32 → Int32} (h : (xDivI f nx ls st M).1 = true) : ∃ x y r, st = .int y :: .int x :: r ∧ ¬ y = 0 ∧ (xDivI f nx ls st M).2 = (nx, ls, .int (f x y) :: r, M) := by
  unfold xDivI at h ⊢; split at h
  · exact ⟨_, _, _, rfl, of_decide_eq_true h, rfl⟩
  · cases h
theorem xDivL_s {f : Int64 → Int64 → Int64} (h : (xDivL f nx ls st M).1 = true) : ∃ x y r, st = .long y :: .long x :: r ∧ ¬ y = 0 ∧ (xDivL f nx ls st M).2 = (nx, ls, .long (f x y) :: r, M) := by
  unfold xDivL at h ⊢; split at h
  · exact ⟨_, _, _, rfl, of_decide_eq_true h, rfl⟩
  · cases h
theorem xSw_s {sw : List (Int32 × Nat)} {d : Nat} (h : (xSw sw d nx ls st M).1 = true) : ∃ x r, st = .int x :: r ∧ (xSw sw d nx ls st M).2 = (swl sw d x, ls, r, M) := by
  unfold xSw at h ⊢; split at h
  · exact ⟨_, _, rfl, rfl⟩
  · cases h
theorem xLcmp_s (h : (xLcmp nx ls st M).1 = true) : ∃ x y r, st = .long y :: .long x :: r ∧ (xLcmp nx ls st M).2 = (nx, ls, .int (lg_cmp x y) :: r, M) := by
  unfold xLcmp at h ⊢; split at h
  · exact ⟨_, _, _, rfl, rfl⟩
  · cases h
theorem xI2l_s (h : (xI2l nx ls st M).1 = true) : ∃ x r, st = .int x :: r ∧ (xI2l nx ls st M).2 = (nx, ls, .long x.toInt64 :: r, M) := by
  unfold xI2l at h ⊢; split at h
  · exact ⟨_, _, rfl, rfl⟩
  · cases h
theorem cat2_f {v : Value} (h : (!(cat2 v)) = true) : v.category = 1 := by
  cases v <;> first | rfl | (simp [cat2] at h)
theorem cv_cat (A : Nat × Nat × Nat) (v : Value) : (cv A v).category = v.category := by
  unfold cv; split <;> rfl
theorem xDup_s (h : (xDup nx ls st M).1 = true) : ∃ v r, st = v :: r ∧ v.category = 1 ∧ (xDup nx ls st M).2 = (nx, ls, v :: v :: r, M) := by
  unfold xDup at h ⊢; split at h
  · exact ⟨_, _, rfl, cat2_f h, rfl⟩
  · cases h
theorem xPop_s (h : (xPop nx ls st M).1 = true) : ∃ v r, st = v :: r ∧ v.category = 1 ∧ (xPop nx ls st M).2 = (nx, ls, r, M) := by
  unfold xPop at h ⊢; split at h
  · exact ⟨_, _, rfl, cat2_f h, rfl⟩
  · cases h
theorem xDup2_s (h : (xDup2 nx ls st M).1 = true) : ∃ v w r, st = v :: w :: r ∧ v.category = 1 ∧ w.category = 1 ∧ (xDup2 nx ls st M).2 = (nx, ls, v :: w :: v :: w :: r, M) := by
  unfold xDup2 at h ⊢; split at h
  · exact ⟨_, _, _, rfl, cat2_f (Bool.and_eq_true _ _ ▸ h).1, cat2_f (Bool.and_eq_true _ _ ▸ h).2, rfl⟩
  · cases h
theorem xNul_s {t1 t2 : Nat} (h : (xNul t1 t2 nx ls st M).1 = true) : ∃ r, (st = .null :: r ∧ (xNul t1 t2 nx ls st M).2 = (t1, ls, r, M)) ∨ ∃ x, st = .ref x :: r ∧ (xNul t1 t2 nx ls st M).2 = (t2, ls, r, M) := by
  unfold xNul at h ⊢; split at h
  · exact ⟨_, Or.inl ⟨rfl, rfl⟩⟩
  · exact ⟨_, Or.inr ⟨_, rfl, rfl⟩⟩
  · cases h
end
/-! the locals -/
def LR (A : Nat × Nat × Nat) (nL : Nat) (ls : List Value) (ls' : Array Slot) : Prop := ls.length = nL ∧ ls'.size = nL ∧ lv_wf ls' ∧ ∀ (i : Nat) (v : Value), lget ls i = v → v ≠ UU → ls'[i]? = some (.val (cv A v))
theorem lget_out : ∀ (ls : List Value) (i : Nat), ls.length ≤ i → lget ls i = UU
  | [], _, _ => rfl
  | _ :: r, 0, h => absurd h (by simp)
  | _ :: r, i + 1, h => lget_out r i (by simpa using h)
theorem lput_len : ∀ (ls : List Value) (i : Nat) (v : Value), (lput ls i v).length = ls.length
  | [], _, _ => rfl
  | w :: r, 0, v => by
    unfold lput
    cases hc : cat2 v <;> cases r <;> simp [kill0]
  | w :: r, n + 1, v => by
    unfold lput
    simp [lput_len r n v]
theorem lget_kill0 (r : List Value) (j : Nat) : lget (kill0 r) j = if j = 0 then UU else lget r j := by
  cases r with
  | nil => cases j <;> simp [kill0, lget]
  | cons a t => cases j <;> simp [kill0, lget]
theorem lget_lput : ∀ (ls : List Value) (i : Nat) (v : Value) (j : Nat), i < ls.length → lget (lput ls i v) j = if j = i then v else if j + 1 = i ∧ cat2 (lget ls j) = true then UU else if cat2 v = true ∧ j = i + 1 then UU else lget ls j
  | [], i, v, j, h => absurd h (by simp)
  | w :: r, 0, v, j, h => by
    cases j with
    | zero => simp [lput, lget]
    | succ j =>
      cases hc : cat2 v
      · simp [lput, lget, hc]
      · simp only [lput, lget, hc, cond_true, lget_kill0]
        by_cases h0 : j = 0 <;> simp [h0]
  | w :: r, 1, v, j, h => by
    have h1 : 0 < r.length := by simpa using h
    cases j with
    | zero =>
      cases hw : cat2 w <;> simp [lput, lget, hw]
    | succ j =>
      have h2 := lget_lput r 0 v j h1
      simp only [lput, lget]
      rw [h2]
      by_cases a : j = 0 <;> simp [a]
  | w :: r, n + 2, v, j, h => by
    have h1 : n + 1 < r.length := by have := h; simp at this; omega
    cases j with
    | zero => simp [lput, lget]
    | succ j =>
      have h2 := lget_lput r (n + 1) v j h1
      simp only [lput, lget]
      rw [h2]
      by_cases a : j = n + 1 <;> simp [a]
/-- all that is known of the locals, as a list -/
def lvl (A : Nat × Nat × Nat) (ls : List Value) : List (Nat × Value) := (List.range ls.length).filterMap fun j => if lget ls j = UU then none else some (j, cv A (lget ls j))
theorem lvl_has {A : Nat × Nat × Nat} {nL : Nat} {ls : List Value} {ls' : Array Slot} (h : LR A nL ls ls') : lv_has ls' nL (lvl A ls) := by
  refine ⟨h.2.1, h.2.2.1, fun q hq => ?_⟩
  obtain ⟨j, hj, e⟩ := List.mem_filterMap.mp hq
  by_cases hu : lget ls j = UU
  · rw [if_pos hu] at e; cases e
  · rw [if_neg hu] at e
    cases e
    exact h.2.2.2 j _ rfl hu
theorem lvl_mem {A : Nat × Nat × Nat} {ls : List Value} {j : Nat} {v : Value} (h : lget ls j = v) (hv : v ≠ UU) : (j, cv A v) ∈ lvl A ls := by
  have hj : j < ls.length := by
    rcases Nat.lt_or_ge j ls.length with q | q
    · exact q
    · exact absurd (h.symm.trans (lget_out ls j q)) hv
  refine List.mem_filterMap.mpr ⟨j, List.mem_range.mpr hj, ?_⟩
  rw [h, if_neg hv]
theorem cat2_iff {v : Value} : cat2 v = true ↔ v.category = 2 := by cases v <;> simp [cat2, Value.category]
theorem LR_put1 {A : Nat × Nat × Nat} {nL : Nat} {ls : List Value} {ls' ls2 : Array Slot} {i : Nat} {v : Value} (h : LR A nL ls ls') (hi : i < ls.length) (hc : v.category = 1) (h2 : lv_has ls2 nL ((i, cv A v) :: (lvl A ls).filter (fun q => !(q.1 == i) && !(q.1 + 1 == i && q.2.category == 2)))) : LR A nL (lput ls i v) ls2 := by
  refine ⟨(lput_len ls i v).trans h.1, h2.1, h2.2.1, fun j w hj hw => ?_⟩
  rw [lget_lput ls i v j hi] at hj
  by_cases a : j = i
  · rw [if_pos a] at hj
    subst hj; subst a
    exact h2.2.2 (j, cv A v) List.mem_cons_self
  · rw [if_neg a] at hj
    by_cases b : j + 1 = i ∧ cat2 (lget ls j) = true
    · rw [if_pos b] at hj; exact absurd hj.symm hw
    · rw [if_neg b] at hj
      by_cases c : cat2 v = true ∧ j = i + 1
      · rw [if_pos c] at hj; exact absurd hj.symm hw
      · rw [if_neg c] at hj
        refine h2.2.2 (j, cv A w) (List.mem_cons_of_mem _ (List.mem_filter.mpr ⟨lvl_mem hj hw, ?_⟩))
        have b' : ¬ (j + 1 = i ∧ w.category = 2) := by rw [hj] at b; rwa [cat2_iff] at b
        simp only [cv_cat]
        by_cases e1 : j + 1 = i <;> by_cases e2 : w.category = 2 <;> simp_all
theorem LR_put2 {A : Nat × Nat × Nat} {nL : Nat} {ls : List Value} {ls' ls2 : Array Slot} {i : Nat} {x : Int64} (h : LR A nL ls ls') (hi : i + 1 < ls.length) (h2 : lv_has ls2 nL ((i, Value.long x) :: (lvl A ls).filter (fun q => !(q.1 == i) && (!(q.1 == i + 1) && !(q.1 + 1 == i && q.2.category == 2))))) : LR A nL (lput ls i (.long x)) ls2 := by
  refine ⟨(lput_len ls i _).trans h.1, h2.1, h2.2.1, fun j w hj hw => ?_⟩
  rw [lget_lput ls i _ j (by omega)] at hj
  by_cases a : j = i
  · rw [if_pos a] at hj
    subst hj; subst a
    exact h2.2.2 (j, Value.long x) List.mem_cons_self
  · rw [if_neg a] at hj
    by_cases b : j + 1 = i ∧ cat2 (lget ls j) = true
    · rw [if_pos b] at hj; exact absurd hj.symm hw
    · rw [if_neg b] at hj
      by_cases c : cat2 (Value.long x) = true ∧ j = i + 1
      · rw [if_pos c] at hj; exact absurd hj.symm hw
      · rw [if_neg c] at hj
        refine h2.2.2 (j, cv A w) (List.mem_cons_of_mem _ (List.mem_filter.mpr ⟨lvl_mem hj hw, ?_⟩))
        have b' : ¬ (j + 1 = i ∧ w.category = 2) := by rw [hj] at b; rwa [cat2_iff] at b
        have c' : ¬ j = i + 1 := fun e => c ⟨rfl, e⟩
        simp only [cv_cat]
        by_cases e1 : j + 1 = i <;> by_cases e2 : w.category = 2 <;> simp_all
