section
variable {p : Program} {l : Launch} {e : Env} {R : Room} {s : State} {m : MethodId} {args : Array Value} {below : List Frame} {meth : Method} {c : Code} {Q : State → Prop} {D : va_G} {cT : Nat → ClassId} {A : Nat × Nat × Nat} {d mid : Nat} {res : Option Value × GM} {cF sF : Nat}
variable {pc pc' t nx : Nat} {ls lsx st st' r : List Value} {M M1 : GM} {H H1 : Heap} {locs locs1 : List Loc}
theorem Gx.anew (hF : Fx p l e R s m args below meth c Q D cT A d mid res cF sF) {v : Int32} {i : Nat} (hK : K0 M.1 = 25) (hv : ¬ v < 0) (hZ : v.toNatClampNeg = Z0 M.1) (hl : ∀ x : Array Value, (Cond.classLink (RC (clM mid)) i "FrameRents$Sheet").before x s = true) (hd : decode (cB mid) pc = .ok (.anewarray i, 3)) (hle : M.1 + 1 ≤ res.2.1)
    (hb8 : Z0 M.1 ≤ 60000000) (hk : Gx p l e R s m args below meth c Q D cT A mid res cF sF (pc + 3, ls, .ref M.1 :: r, nw M)) : Gx p l e R s m args below meth c Q D cT A mid res cF sF (pc, ls, .int v :: r, M) := by
  have hn : M.1 < 336 := K0_lt (by omega)
  refine Gx.mk hF hk hle hn fun H locs cells slots ls' hH hc1 hs1 kk => ?_
  obtain ⟨hx, hb, -, hown, -, hC, -⟩ := hF
  rw [← hZ] at kk hs1
  refine W.anew hx hb hown (hl args) (hC.2.2 (FieldType.object "FrameRents$Sheet") (by simp)) rfl hd rfl hv (by omega) hc1 hs1 fun cA kA comp f1 f2 f3 f4 => ?_
  refine kk _ (by simp) (fun q hq => by rw [Array.getElem?_push, if_neg (Nat.ne_of_lt hq)]) ?_
  rw [cE_ref (by omega), hK]
  have hcA : cA = cT 25 := RA_inj (hC.2.1.2 5 _ rfl).2 f1
  subst hcA
  show (H.push _)[H.size]? = some (vp_cell _ _)
  rw [Array.getElem?_push_size, vp_cell_q, arrV_new, hZ]
  congr 2
  funext j
  simp [nw, clR, va_rf]
theorem nws_n : ∀ (j : Nat) (M : GM), (nws j M).1 = M.1 + j
  | 0, M => rfl
  | j + 1, M => by
    show (nws j (nw M)).1 = _
    rw [nws_n j (nw M)]
    show M.1 + 1 + j = _
    omega
theorem nws_I : ∀ (j : Nat) (M : GM) (c i : Nat), (nws j M).2.2.1 c i = if M.1 ≤ c ∧ c < M.1 + j then (if K0 c = 7 ∧ i = 1 then -1 else 0) else M.2.2.1 c i
  | 0, M, c, i => by
    rw [if_neg (by omega)]; rfl
  | j + 1, M, c, i => by
    show (nws j (nw M)).2.2.1 c i = _
    rw [nws_I j (nw M)]
    show (if M.1 + 1 ≤ c ∧ c < M.1 + 1 + j then _ else clI M.2.2.1 M.1 c i) = _
    by_cases h1 : M.1 + 1 ≤ c ∧ c < M.1 + 1 + j
    · have h3 : M.1 ≤ c ∧ c < M.1 + (j + 1) := by omega
      rw [if_pos h1, if_pos h3]
    · rw [if_neg h1]
      by_cases h2 : c = M.1
      · subst h2
        rw [if_pos (by omega)]
        simp [clI]
      · rw [if_neg (by omega)]
        simp [clI, h2]
theorem nws_L : ∀ (j : Nat) (M : GM) (c i : Nat), (nws j M).2.2.2 c i = if M.1 ≤ c ∧ c < M.1 + j then 0 else M.2.2.2 c i
  | 0, M, c, i => by
    rw [if_neg (by omega)]; rfl
  | j + 1, M, c, i => by
    show (nws j (nw M)).2.2.2 c i = _
    rw [nws_L j (nw M)]
    show (if M.1 + 1 ≤ c ∧ c < M.1 + 1 + j then _ else clL M.2.2.2 M.1 c i) = _
    by_cases h1 : M.1 + 1 ≤ c ∧ c < M.1 + 1 + j
    · have h3 : M.1 ≤ c ∧ c < M.1 + (j + 1) := by omega
      rw [if_pos h1, if_pos h3]
    · rw [if_neg h1]
      by_cases h2 : c = M.1
      · subst h2
        rw [if_pos (by omega)]
        simp [clL]
      · rw [if_neg (by omega)]
        simp [clL, h2]
theorem nws_R : ∀ (j : Nat) (M : GM) (c i : Nat), (nws j M).2.1 c i = if M.1 ≤ c ∧ c < M.1 + j then none else M.2.1 c i
  | 0, M, c, i => by
    rw [if_neg (by omega)]; rfl
  | j + 1, M, c, i => by
    show (nws j (nw M)).2.1 c i = _
    rw [nws_R j (nw M)]
    show (if M.1 + 1 ≤ c ∧ c < M.1 + 1 + j then _ else clR M.2.1 M.1 c i) = _
    by_cases h1 : M.1 + 1 ≤ c ∧ c < M.1 + 1 + j
    · have h3 : M.1 ≤ c ∧ c < M.1 + (j + 1) := by omega
      rw [if_pos h1, if_pos h3]
    · rw [if_neg h1]
      by_cases h2 : c = M.1
      · subst h2
        rw [if_pos (by omega)]
        simp [clR]
      · rw [if_neg (by omega)]
        simp [clR, h2]
theorem vr_outer (c : ClassId) (N h0 : Nat) : ∀ i : Nat, Jvm.Free.Multi.outerC c N h0 i = arrV c N (fun j => va_rf (if j < i then some (h0 + 1 + j) else none))
  | 0 => by
    show ({ cls := c, slots := Array.replicate N .null, vm := .none } : Cell) = _
    rw [arrV_new]
    refine congrArg (arrV c N) (funext fun j => ?_)
    simp [va_rf]
  | i + 1 => by
    show (Jvm.Free.Multi.outerC c N h0 i).setSlot i (.ref (h0 + 1 + i)) = _
    rw [vr_outer c N h0 i, arrV_store]
    refine congrArg (arrV c N) (funext fun j => ?_)
    by_cases e : j = i
    · subst e
      simp [updV, va_rf]
    · by_cases h : j < i
      · simp [updV, e, h, Nat.lt_succ_of_lt h]
      · simp [updV, e, h, show ¬ j < i + 1 by omega]
theorem nwm_at {n k : Nat} (h : k < M.1) : cE A cT (nwm n M) k = cE A cT M k := by
  refine cE_congr ?_ ?_ ?_
  · funext i
    show (if k = M.1 then _ else (nws (n + 1) M).2.1 k i) = _
    rw [if_neg (by omega), nws_R, if_neg (by omega)]
  · funext i
    show (nws (n + 1) M).2.2.1 k i = _
    rw [nws_I, if_neg (by omega)]
  · funext i
    show (nws (n + 1) M).2.2.2 k i = _
    rw [nws_L, if_neg (by omega)]
theorem nwm_n {n : Nat} : (nwm n M).1 = M.1 + 1 + n := by
  show (nws (n + 1) M).1 = _
  rw [nws_n]; omega
/-- new T[n][k]: the outer array and its rows -/
theorem Gx.mna (hF : Fx p l e R s m args below meth c Q D cT A d mid res cF sF) {n k : Int32} {i N K : Nat} {ty : FieldType} {ko ki jo ji : Nat} (hn : ¬ n < 0) (hk : ¬ k < 0) (hN : n.toNatClampNeg = N) (hK : k.toNatClampNeg = K) (hN8 : N ≤ 60000000) (hK8 : K ≤ 60000000)
    (hty : (ty = .int ∧ ko = 26 ∧ ki = 20 ∧ jo = 6 ∧ ji = 0) ∨ (ty = .long ∧ ko = 27 ∧ ki = 21 ∧ jo = 7 ∧ ji = 1)) (hKo : K0 M.1 = ko) (hZo : Z0 M.1 = N) (hKi : ∀ j, j < N → K0 (M.1 + 1 + j) = ki ∧ Z0 (M.1 + 1 + j) = K)
    (hl : ∀ x : Array Value, (Cond.classLink (RC (clM mid)) i ("[" ++ (FieldType.array ty).toString)).before x s = true) (hd : decode (cB mid) pc = .ok (.multianewarray i 2, 4)) (hle : M.1 + 1 + N ≤ res.2.1)
    (hk2 : Gx p l e R s m args below meth c Q D cT A mid res cF sF (pc + 4, ls, .ref M.1 :: r, nwm N M)) : Gx p l e R s m args below meth c Q D cT A mid res cF sF (pc, ls, .int k :: .int n :: r, M) := by
  subst hN
  subst hK
  intro H locs cells slots ls' hP
  obtain ⟨h1, h2, h3, h4, hH, h6⟩ := hP
  obtain ⟨hx, hb, -, hown, -, hC, -, -, hcF, hsF, -⟩ := hF
  dsimp only at h1 h2 h3 hH h6
  have h336 : M.1 < 336 := K0_lt (by rcases hty with ⟨-, q, -⟩ | ⟨-, q, -⟩ <;> omega)
  have hlast : ∀ j, j < n.toNatClampNeg → M.1 + 1 + j < 336 := fun j hj => K0_lt (by rw [(hKi j hj).1]; rcases hty with ⟨-, -, q, -⟩ | ⟨-, -, q, -⟩ <;> omega)
  have hsz : ∀ j, j ≤ n.toNatClampNeg → SZ (M.1 + 1 + j) = SZ M.1 + n.toNatClampNeg + j * k.toNatClampNeg := by
    intro j
    induction j with
    | zero => intro _; rw [Nat.add_zero, SZ_succ, hZo]; omega
    | succ j ih =>
      intro hj
      rw [show M.1 + 1 + (j + 1) = (M.1 + 1 + j) + 1 by omega, SZ_succ, ih (by omega), (hKi j (by omega)).2, Nat.succ_mul]
      omega
  have hz1 := hsz _ (Nat.le_refl _)
  have hz2 := SZ_mono hle
  have hz3 := SZ_mono h1
  have hdf : fits ty (defaultValue ty) = true := by rcases hty with ⟨rfl, -⟩ | ⟨rfl, -⟩ <;> rfl
  have hdd : (defaultValue ty).isDefault = true := by rcases hty with ⟨rfl, -⟩ | ⟨rfl, -⟩ <;> rfl
  have hcb : componentBytes ty ≤ 8 := by rcases hty with ⟨rfl, -⟩ | ⟨rfl, -⟩ <;> decide
  have hao : (Cond.arrayOver (.array ty)).before args s = true := by
    rcases hty with ⟨rfl, -⟩ | ⟨rfl, -⟩
    · exact hC.2.2 (.array .int) (by simp)
    · exact hC.2.2 (.array .long) (by simp)
  have hac : (Cond.arrayClass ty).before args s = true := by
    rcases hty with ⟨rfl, -⟩ | ⟨rfl, -⟩ <;> exact hC.1 _ (arr_mem _ (by simp)) rfl args
  intro T hT Xs
  obtain ⟨vm₁, cA, comp, -, fA, fC, hO, -, X', step⟩ := Xs.multianewarray2F hx hown (hl args) hao hac (g := F0 m pc ls' (.int k :: .int n :: r.map (cv A))) rfl (by rw [hb]; exact hd) rfl hn hk (by omega) (by have := Nat.mul_le_mul_left k.toNatClampNeg hcb; omega) (by omega) hdf hdd (by omega) (by omega)
  have hcA : cA = cT ko := by
    rcases hty with ⟨rfl, rfl, -⟩ | ⟨rfl, rfl, -⟩
    · exact RA_inj (hC.2.1.2 6 _ rfl).2 fA
    · exact RA_inj (hC.2.1.2 7 _ rfl).2 fA
  have hco : comp = cT ki := by
    rcases hty with ⟨rfl, -, rfl, -⟩ | ⟨rfl, -, rfl, -⟩
    · exact RA_inj (hC.2.1.2 0 _ rfl).2 fC
    · exact RA_inj (hC.2.1.2 1 _ rfl).2 fC
  subst hcA
  subst hco
  generalize hFl : Jvm.Free.Multi.fill (T.setVm vm₁) (cT ko) (cT ki) n.toNatClampNeg k.toNatClampNeg (defaultValue ty) n.toNatClampNeg = F at X' step
  have hTh : (T.setVm vm₁).heap = H := hT
  obtain ⟨f1, f2, -, -⟩ := Jvm.Free.Multi.fill_facts (T.setVm vm₁) (cT ko) (cT ki) n.toNatClampNeg k.toNatClampNeg (defaultValue ty) n.toNatClampNeg
  rw [hFl, hTh] at f1 f2
  have hold : ∀ x : Nat, x < H.size → F.heap[x]? = H[x]? := fun x hx => by
    have := Jvm.Free.Multi.fill_old (T.setVm vm₁) (cT ko) (cT ki) n.toNatClampNeg k.toNatClampNeg (defaultValue ty) (a := x) (by rw [hTh]; exact hx) n.toNatClampNeg
    rw [hFl, hTh] at this
    exact this
  have hrow : ∀ j : Nat, j < n.toNatClampNeg → F.heap[H.size + 1 + j]? = some (Jvm.Free.Multi.innerC (cT ki) k.toNatClampNeg (defaultValue ty)) := fun j hj => by
    have := Jvm.Free.Multi.fill_inner (T.setVm vm₁) (cT ko) (cT ki) n.toNatClampNeg k.toNatClampNeg (defaultValue ty) n.toNatClampNeg j hj
    rw [hFl, hTh] at this
    exact this
  rw [vr_outer] at f2
  have hHs := hH.1
  have hq : ∀ q : Nat, q < A.1 → F.heap[q]? = H[q]? := fun q hq => hold q (Nat.lt_of_lt_of_le hq hH.le)
  have hHR : HR D cT A (nwm n.toNatClampNeg M) s F.heap := by
    refine ⟨by rw [f1, nwm_n]; omega, ?_, hH.2.2.1.kept hq ?_ ?_, hH.2.2.2.kept hH.le hq⟩
    · intro j q hj
      obtain ⟨hlt, rfl⟩ := wM_inv hj
      rw [nwm_n] at hlt
      rcases Nat.lt_or_ge j M.1 with g1 | g1
      · rw [nwm_at g1]
        exact (hH.2.1 j _ (wM_at g1)).kept (hold _ (by show A.1 + j < _; omega))
      · rcases Nat.lt_or_ge M.1 j with g2 | g2
        · obtain ⟨j', rfl⟩ : ∃ j', j = M.1 + 1 + j' := ⟨j - M.1 - 1, by omega⟩
          have g3 : j' < n.toNatClampNeg := by omega
          have g4 := hrow j' g3
          rw [show H.size + 1 + j' = A.1 + (M.1 + 1 + j') by omega] at g4
          rcases hty with ⟨rfl, -, rfl, -⟩ | ⟨rfl, -, rfl, -⟩
          · rw [cE_int (by rw [(hKi j' g3).1]; omega), (hKi j' g3).1, (hKi j' g3).2]
            show F.heap[A.1 + (M.1 + 1 + j')]? = some (vp_cell _ _)
            rw [g4, vp_cell_i]
            show some ({ cls := cT 20, slots := Array.replicate k.toNatClampNeg (defaultValue .int), vm := .none } : Cell) = _
            rw [arrV_new]
            congr 2
            funext q
            show defaultValue .int = Value.int ((nws (n.toNatClampNeg + 1) M).2.2.1 (M.1 + 1 + j') q)
            rw [nws_I, if_pos (by omega), if_neg (by rw [(hKi j' g3).1]; omega)]
            rfl
          · rw [cE_long (by rw [(hKi j' g3).1]), (hKi j' g3).2]
            show F.heap[A.1 + (M.1 + 1 + j')]? = some (vp_cell _ _)
            rw [g4, vp_cell_l]
            show some ({ cls := cT 21, slots := Array.replicate k.toNatClampNeg (defaultValue .long), vm := .none } : Cell) = _
            rw [arrV_new]
            congr 2
            funext q
            show defaultValue .long = Value.long ((nws (n.toNatClampNeg + 1) M).2.2.2 (M.1 + 1 + j') q)
            rw [nws_L, if_pos (by omega)]
            rfl
        · have : j = M.1 := by omega
          subst this
          rw [cE_ref (by rw [hKo]; rcases hty with ⟨-, q, -⟩ | ⟨-, q, -⟩ <;> omega), hKo, hZo]
          show F.heap[A.1 + M.1]? = some (vp_cell _ _)
          rw [← hHs, f2, vp_cell_q]
          congr 2
          funext q
          show va_rf (if q < n.toNatClampNeg then some (H.size + 1 + q) else none) = va_rf ((if M.1 = M.1 then (if q < n.toNatClampNeg then some (M.1 + 1 + q) else none) else _).map (A.1 + ·))
          rw [if_pos rfl]
          by_cases g : q < n.toNatClampNeg
          · rw [if_pos g, if_pos g, hHs]
            show va_rf (some _) = va_rf (some _)
            rw [Nat.add_assoc A.1, Nat.add_assoc A.1]
          · rw [if_neg g, if_neg g]; rfl
    · funext q
      show (nws (n.toNatClampNeg + 1) M).2.2.1 9998 q = _
      rw [nws_I, if_neg]
      intro g
      have := hlast (9998 - M.1 - 1)
      omega
    · funext q
      show (nws (n.toNatClampNeg + 1) M).2.2.1 9999 q = _
      rw [nws_I, if_neg]
      intro g
      have := hlast (9999 - M.1 - 1)
      omega
  have hS' : va_S (fun q => A.1 ≤ q) s.heap F.heap locs := ⟨by rw [f1]; have := h4.1; omega, fun q q1 q2 => (hold q (Nat.lt_of_lt_of_le q1 h4.1)).trans (h4.2.1 q q1 q2), h4.2.2⟩
  have h7 := hk2 F.heap locs (cells + 1 + n.toNatClampNeg) (slots + n.toNatClampNeg + n.toNatClampNeg * k.toNatClampNeg) ls' ⟨by show (nwm _ M).1 ≤ _; rw [nwm_n]; exact hle, by show cells + 1 + n.toNatClampNeg + (res.2.1 - (nwm _ M).1) = cF; rw [nwm_n]; omega, by show slots + n.toNatClampNeg + n.toNatClampNeg * k.toNatClampNeg + (SZ res.2.1 - SZ (nwm _ M).1) = sF; rw [nwm_n]; omega, hS', hHR, h6⟩
  obtain ⟨t, a1, b1⟩ := h7 F rfl X'
  refine ⟨t, step t ?_, b1⟩
  have e1 : T.heap.size = A.1 + M.1 := by rw [hT]; exact hHs
  rw [e1]
  exact a1
end
