theorem mw_max : Cond.static Lib.Math.max.name ∈ lw_tbl ∧ Cond.code Lib.Math.max.name Lib.Math.max.code 2 (some .int) ∈ lw_tbl ∧ Cond.initialized "java/lang/Math" ∈ lw_tbl := ⟨List.mem_of_getElem? (i := 146) (by decide +kernel), List.mem_of_getElem? (i := 147) (by decide +kernel), List.mem_of_getElem? (i := 94) (by decide +kernel)⟩
theorem mw_min : Cond.static Lib.Math.min.name ∈ lw_tbl ∧ Cond.code Lib.Math.min.name Lib.Math.min.code 2 (some .int) ∈ lw_tbl := ⟨List.mem_of_getElem? (i := 710) (by decide +kernel), List.mem_of_getElem? (i := 711) (by decide +kernel)⟩
theorem mw_maxl : Cond.static Lib.MathLoose.max_long.x ∈ lw_tbl ∧ Cond.code Lib.MathLoose.max_long.x Lib.MathLoose.max_long.code 4 (some .long) ∈ lw_tbl := ⟨List.mem_of_getElem? (i := 916) (by decide +kernel), List.mem_of_getElem? (i := 917) (by decide +kernel)⟩
theorem mw_minl : Cond.static Lib.MathLoose.min_long.x ∈ lw_tbl ∧ Cond.code Lib.MathLoose.min_long.x Lib.MathLoose.min_long.code 4 (some .long) ∈ lw_tbl := ⟨List.mem_of_getElem? (i := 913) (by decide +kernel), List.mem_of_getElem? (i := 914) (by decide +kernel)⟩
theorem mw_obj : Cond.instanceMethod Lib.objectInit ∈ lw_tbl ∧ Cond.code Lib.objectInit ⟨#[0xb1]⟩ 1 none ∈ lw_tbl := ⟨List.mem_of_getElem? (i := 116) (by decide +kernel), List.mem_of_getElem? (i := 117) (by decide +kernel)⟩
theorem yJ9_eq : yJ9_max_7cf53 = Lib.Math.max.name ∧ yJ9_min_7cf53 = Lib.Math.min.name ∧ yJ9_max_f86c9 = Lib.MathLoose.max_long.x ∧ yJ9_min_f86c9 = Lib.MathLoose.min_long.x := by decide +kernel
/-! switches -/
theorem swl_out {lo hi : Int} : ∀ (e : EN) (offs : List Int) (j : Nat) (sw : List (Int32 × Nat)) (d : Nat) (x : Int32), tsw e lo offs j sw = true → (x.toInt < lo + j ∨ lo + j + sw.length ≤ x.toInt) → swl sw d x = d
  | e, offs, j, [], d, x, _, _ => rfl
  | e, offs, j, q :: r, d, x, h, hx => by
    simp only [tsw, Bool.and_eq_true, decide_eq_true_eq] at h
    have h1 := h.1.1
    simp only [List.length_cons] at hx
    have hne : ¬ x = q.1 := fun z => by
      subst z
      omega
    unfold swl
    rw [if_neg hne]
    exact swl_out (lo := lo) (hi := hi) e offs (j + 1) r d x h.2 (by omega)
theorem swl_in {lo : Int} : ∀ (e : EN) (offs : List Int) (j : Nat) (sw : List (Int32 × Nat)) (d : Nat) (x : Int32), tsw e lo offs j sw = true → lo + j ≤ x.toInt → x.toInt < lo + j + sw.length → ∃ off, offs[(x.toInt - lo).toNat]? = some off ∧ (e.1 : Int) + off = (swl sw d x : Int)
  | e, offs, j, [], d, x, _, h1, h2 => by simp at h2; omega
  | e, offs, j, q :: r, d, x, h, h1, h2 => by
    simp only [tsw, Bool.and_eq_true, decide_eq_true_eq] at h
    obtain ⟨⟨g1, g2⟩, g3⟩ := h
    simp only [List.length_cons] at h2
    unfold swl
    by_cases hx : x = q.1
    · rw [if_pos hx]
      subst hx
      have hj : (q.1.toInt - lo).toNat = j := by omega
      rw [hj]
      cases ho : offs[j]? with
      | none => rw [ho] at g2; cases g2
      | some off => rw [ho] at g2; exact ⟨off, rfl, Option.some.inj g2⟩
    · rw [if_neg hx]
      have hne : ¬ x.toInt = q.1.toInt := fun z => hx (Int32.toInt_inj.mp z)
      exact swl_in (lo := lo) e offs (j + 1) r d x g3 (by omega) (by omega)
theorem swl_lk : ∀ (e : EN) (ps : List (Int × Int)) (sw : List (Int32 × Nat)) (dd : Int) (x : Int32), lsw e ps sw = true → (e.1 : Int) + dd = (e.2.2.2.1 : Int) → (e.1 : Int) + Op.lookupswitch.offset ps dd x.toInt = (swl sw e.2.2.2.1 x : Int)
  | e, [], [], dd, x, _, hd => by
    simpa [Op.lookupswitch.offset, swl] using hd
  | e, [], _ :: _, dd, x, h, _ => by simp [lsw] at h
  | e, _ :: _, [], dd, x, h, _ => by simp [lsw] at h
  | e, a :: s, q :: r, dd, x, h, hd => by
    simp only [lsw, Bool.and_eq_true, decide_eq_true_eq] at h
    obtain ⟨⟨g1, g2⟩, g3⟩ := h
    obtain ⟨a1, a2⟩ := a
    rw [Op.lookupswitch.offset_cons]
    unfold swl
    by_cases hx : x = q.1
    · rw [if_pos hx, if_pos (by rw [hx, g1])]
      exact g2
    · rw [if_neg hx, if_neg (fun z => hx (Int32.toInt_inj.mp (by rw [g1]; exact z.symm)))]
      exact swl_lk e s r dd x g3 hd
section
variable {p : Program} {l : Launch} {e : Env} {R : Room} {s : State} {m : MethodId} {args : Array Value} {below : List Frame} {meth : Method} {c : Code} {Q : State → Prop} {D : va_G} {cT : Nat → ClassId} {A : Nat × Nat × Nat} {d mid : Nat} {res : Option Value × GM} {cF sF : Nat}
variable {pc pc' t nx : Nat} {ls lsx st st' r : List Value} {M M1 : GM} {H H1 : Heap} {locs locs1 : List Loc}
theorem Gx.xII {f : Int32 → Int32 → Int32} (h : (xII f nx ls st M).1 = true) (hk : Gx p l e R s m args below meth c Q D cT A mid res cF sF (xII f nx ls st M).2)
    (row : ∀ (H : Heap) (locs : List Loc) (cells slots : Nat) (ls' : Array Slot) (x y : Int32) (rest : List Value), W p l e R s m args below meth c H locs cells slots Q (F0 m nx ls' (.int (f x y) :: rest)) → W p l e R s m args below meth c H locs cells slots Q (F0 m pc ls' (.int y :: .int x :: rest))) : Gx p l e R s m args below meth c Q D cT A mid res cF sF (pc, ls, st, M) := by
  obtain ⟨x, y, r, rfl, e1⟩ := xII_s h
  rw [e1] at hk
  exact hk.pure fun H locs cells slots ls' _ kk => row H locs cells slots ls' x y _ kk
theorem Gx.xLL {f : Int64 → Int64 → Int64} (h : (xLL f nx ls st M).1 = true) (hk : Gx p l e R s m args below meth c Q D cT A mid res cF sF (xLL f nx ls st M).2)
    (row : ∀ (H : Heap) (locs : List Loc) (cells slots : Nat) (ls' : Array Slot) (x y : Int64) (rest : List Value), W p l e R s m args below meth c H locs cells slots Q (F0 m nx ls' (.long (f x y) :: rest)) → W p l e R s m args below meth c H locs cells slots Q (F0 m pc ls' (.long y :: .long x :: rest))) : Gx p l e R s m args below meth c Q D cT A mid res cF sF (pc, ls, st, M) := by
  obtain ⟨x, y, r, rfl, e1⟩ := xLL_s h
  rw [e1] at hk
  exact hk.pure fun H locs cells slots ls' _ kk => row H locs cells slots ls' x y _ kk
theorem Gx.xI {f : Int32 → Int32} (h : (xI f nx ls st M).1 = true) (hk : Gx p l e R s m args below meth c Q D cT A mid res cF sF (xI f nx ls st M).2)
    (row : ∀ (H : Heap) (locs : List Loc) (cells slots : Nat) (ls' : Array Slot) (x : Int32) (rest : List Value), W p l e R s m args below meth c H locs cells slots Q (F0 m nx ls' (.int (f x) :: rest)) → W p l e R s m args below meth c H locs cells slots Q (F0 m pc ls' (.int x :: rest))) : Gx p l e R s m args below meth c Q D cT A mid res cF sF (pc, ls, st, M) := by
  obtain ⟨x, r, rfl, e1⟩ := xI_s h
  rw [e1] at hk
  exact hk.pure fun H locs cells slots ls' _ kk => row H locs cells slots ls' x _ kk
theorem Gx.xDivI {f : Int32 → Int32 → Int32} (h : (xDivI f nx ls st M).1 = true) (hk : Gx p l e R s m args below meth c Q D cT A mid res cF sF (xDivI f nx ls st M).2)
    (row : ∀ (H : Heap) (locs : List Loc) (cells slots : Nat) (ls' : Array Slot) (x y : Int32) (rest : List Value), ¬ y = 0 → W p l e R s m args below meth c H locs cells slots Q (F0 m nx ls' (.int (f x y) :: rest)) → W p l e R s m args below meth c H locs cells slots Q (F0 m pc ls' (.int y :: .int x :: rest))) : Gx p l e R s m args below meth c Q D cT A mid res cF sF (pc, ls, st, M) := by
  obtain ⟨x, y, r, rfl, hne, e1⟩ := xDivI_s h
  rw [e1] at hk
  exact hk.pure fun H locs cells slots ls' _ kk => row H locs cells slots ls' x y _ hne kk
theorem Gx.xDivL {f : Int64 → Int64 → Int64} (h : (xDivL f nx ls st M).1 = true) (hk : Gx p l e R s m args below meth c Q D cT A mid res cF sF (xDivL f nx ls st M).2)
    (row : ∀ (H : Heap) (locs : List Loc) (cells slots : Nat) (ls' : Array Slot) (x y : Int64) (rest : List Value), ¬ y = 0 → W p l e R s m args below meth c H locs cells slots Q (F0 m nx ls' (.long (f x y) :: rest)) → W p l e R s m args below meth c H locs cells slots Q (F0 m pc ls' (.long y :: .long x :: rest))) : Gx p l e R s m args below meth c Q D cT A mid res cF sF (pc, ls, st, M) := by
  obtain ⟨x, y, r, rfl, hne, e1⟩ := xDivL_s h
  rw [e1] at hk
  exact hk.pure fun H locs cells slots ls' _ kk => row H locs cells slots ls' x y _ hne kk
theorem Gx.xIld {i : Nat} (h : (xIld i nx ls st M).1 = true) (hk : Gx p l e R s m args below meth c Q D cT A mid res cF sF (xIld i nx ls st M).2)
    (row : ∀ (H : Heap) (locs : List Loc) (cells slots : Nat) (ls' : Array Slot) (x : Int32) (rest : List Value), ls'[i]? = some (.val (.int x)) → W p l e R s m args below meth c H locs cells slots Q (F0 m nx ls' (.int x :: rest)) → W p l e R s m args below meth c H locs cells slots Q (F0 m pc ls' rest)) : Gx p l e R s m args below meth c Q D cT A mid res cF sF (pc, ls, st, M) := by
  obtain ⟨x, hg, e1⟩ := xIld_s h
  rw [e1] at hk
  exact hk.pure fun H locs cells slots ls' hP kk => row H locs cells slots ls' x _ (hP.2.2.2.2.2.2.2.2 i _ hg (by simp)) kk
theorem Gx.xLld {i : Nat} (h : (xLld i nx ls st M).1 = true) (hk : Gx p l e R s m args below meth c Q D cT A mid res cF sF (xLld i nx ls st M).2)
    (row : ∀ (H : Heap) (locs : List Loc) (cells slots : Nat) (ls' : Array Slot) (x : Int64) (rest : List Value), ls'[i]? = some (.val (.long x)) → W p l e R s m args below meth c H locs cells slots Q (F0 m nx ls' (.long x :: rest)) → W p l e R s m args below meth c H locs cells slots Q (F0 m pc ls' rest)) : Gx p l e R s m args below meth c Q D cT A mid res cF sF (pc, ls, st, M) := by
  obtain ⟨x, hg, e1⟩ := xLld_s h
  rw [e1] at hk
  exact hk.pure fun H locs cells slots ls' hP kk => row H locs cells slots ls' x _ (hP.2.2.2.2.2.2.2.2 i _ hg (by simp)) kk
theorem Gx.xAld {i : Nat} (h : (xAld i nx ls st M).1 = true) (hk : Gx p l e R s m args below meth c Q D cT A mid res cF sF (xAld i nx ls st M).2)
    (row : ∀ (H : Heap) (locs : List Loc) (cells slots : Nat) (ls' : Array Slot) (x : Nat) (rest : List Value), ls'[i]? = some (.val (.ref x)) → W p l e R s m args below meth c H locs cells slots Q (F0 m nx ls' (.ref x :: rest)) → W p l e R s m args below meth c H locs cells slots Q (F0 m pc ls' rest))
    (rowN : ∀ (H : Heap) (locs : List Loc) (cells slots : Nat) (ls' : Array Slot) (rest : List Value), ls'[i]? = some (.val .null) → W p l e R s m args below meth c H locs cells slots Q (F0 m nx ls' (.null :: rest)) → W p l e R s m args below meth c H locs cells slots Q (F0 m pc ls' rest)) : Gx p l e R s m args below meth c Q D cT A mid res cF sF (pc, ls, st, M) := by
  obtain ⟨v, hg, hv, e1⟩ := xAld_s h
  rw [e1] at hk
  refine hk.pure fun H locs cells slots ls' hP kk => ?_
  have hl := fun hu => hP.2.2.2.2.2.2.2.2 i _ hg hu
  rcases hv with ⟨x, rfl⟩ | rfl | rfl
  · exact row H locs cells slots ls' _ _ (hl (by simp)) kk
  · exact rowN H locs cells slots ls' _ (hl (by simp)) kk
  · exact row H locs cells slots ls' _ _ (hl (by simp)) kk
theorem Gx.xCnd {f : Int32 → Prop} {dd : ∀ x, Decidable (f x)} {t1 t2 : Nat} (h : (xCnd f dd t1 t2 ls st M).1 = true) (hk : Gx p l e R s m args below meth c Q D cT A mid res cF sF (xCnd f dd t1 t2 ls st M).2)
    (row : ∀ (H : Heap) (locs : List Loc) (cells slots : Nat) (ls' : Array Slot) (x : Int32) (rest : List Value), (f x → W p l e R s m args below meth c H locs cells slots Q (F0 m t1 ls' rest)) → (¬ f x → W p l e R s m args below meth c H locs cells slots Q (F0 m t2 ls' rest)) → W p l e R s m args below meth c H locs cells slots Q (F0 m pc ls' (.int x :: rest))) : Gx p l e R s m args below meth c Q D cT A mid res cF sF (pc, ls, st, M) := by
  obtain ⟨x, r, rfl, e1⟩ := xCnd_s h
  rw [e1] at hk
  refine hk.pure fun H locs cells slots ls' _ kk => row H locs cells slots ls' x _ (fun hf => ?_) (fun hf => ?_)
  · rw [if_pos hf] at kk; exact kk
  · rw [if_neg hf] at kk; exact kk
theorem Gx.xCmp {f : Int32 → Int32 → Prop} {dd : ∀ x y, Decidable (f x y)} {t1 t2 : Nat} (h : (xCmp f dd t1 t2 ls st M).1 = true) (hk : Gx p l e R s m args below meth c Q D cT A mid res cF sF (xCmp f dd t1 t2 ls st M).2)
    (row : ∀ (H : Heap) (locs : List Loc) (cells slots : Nat) (ls' : Array Slot) (x y : Int32) (rest : List Value), (f x y → W p l e R s m args below meth c H locs cells slots Q (F0 m t1 ls' rest)) → (¬ f x y → W p l e R s m args below meth c H locs cells slots Q (F0 m t2 ls' rest)) → W p l e R s m args below meth c H locs cells slots Q (F0 m pc ls' (.int y :: .int x :: rest))) : Gx p l e R s m args below meth c Q D cT A mid res cF sF (pc, ls, st, M) := by
  obtain ⟨x, y, r, rfl, e1⟩ := xCmp_s h
  rw [e1] at hk
  refine hk.pure fun H locs cells slots ls' _ kk => row H locs cells slots ls' x y _ (fun hf => ?_) (fun hf => ?_)
  · rw [if_pos hf] at kk; exact kk
  · rw [if_neg hf] at kk; exact kk
theorem Gx.const {v : Value} (hk : Gx p l e R s m args below meth c Q D cT A mid res cF sF (nx, ls, v :: st, M))
    (row : ∀ (H : Heap) (locs : List Loc) (cells slots : Nat) (ls' : Array Slot) (rest : List Value), W p l e R s m args below meth c H locs cells slots Q (F0 m nx ls' (cv A v :: rest)) → W p l e R s m args below meth c H locs cells slots Q (F0 m pc ls' rest)) : Gx p l e R s m args below meth c Q D cT A mid res cF sF (pc, ls, st, M) :=
  hk.pure fun H locs cells slots ls' _ kk => row H locs cells slots ls' _ kk
end
