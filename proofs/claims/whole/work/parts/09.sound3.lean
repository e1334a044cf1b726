/-! the words of the classes -/
theorem uw_all : ∀ ci, ci < 13 → ∀ k, k < nf ci → u_lay (RC ci) (TC ci) k ∈ lw_tbl := by
  intro ci hci k hk
  match ci, hci with
  | 0, _ => exact List.mem_of_getElem? (uw_0 k hk)
  | 1, _ => exact List.mem_of_getElem? (uw_1 k hk)
  | 2, _ => exact List.mem_of_getElem? (uw_2 k hk)
  | 3, _ => exact List.mem_of_getElem? (uw_3 k hk)
  | 4, _ => exact List.mem_of_getElem? (uw_4 k hk)
  | 5, _ => exact List.mem_of_getElem? (uw_5 k hk)
  | 6, _ => exact List.mem_of_getElem? (uw_6 k hk)
  | 7, _ => exact List.mem_of_getElem? (uw_7 k hk)
  | 8, _ => exact List.mem_of_getElem? (uw_8 k hk)
  | 9, _ => exact List.mem_of_getElem? (uw_9 k hk)
  | 10, _ => exact List.mem_of_getElem? (uw_10 k hk)
  | 11, _ => exact List.mem_of_getElem? (uw_11 k hk)
  | 12, _ => exact List.mem_of_getElem? (uw_12 k hk)
  | n + 13, h => omega
theorem ui_all : ∀ ci, ci < 13 → Cond.instantiable (RC ci) (nf ci) ∈ lw_tbl ∧ Cond.initialized (RC ci) ∈ lw_tbl := by
  intro ci hci
  match ci, hci with
  | 0, _ => exact ⟨List.mem_of_getElem? ui_0.1, List.mem_of_getElem? ui_0.2⟩
  | 1, _ => exact ⟨List.mem_of_getElem? ui_1.1, List.mem_of_getElem? ui_1.2⟩
  | 2, _ => exact ⟨List.mem_of_getElem? ui_2.1, List.mem_of_getElem? ui_2.2⟩
  | 3, _ => exact ⟨List.mem_of_getElem? ui_3.1, List.mem_of_getElem? ui_3.2⟩
  | 4, _ => exact ⟨List.mem_of_getElem? ui_4.1, List.mem_of_getElem? ui_4.2⟩
  | 5, _ => exact ⟨List.mem_of_getElem? ui_5.1, List.mem_of_getElem? ui_5.2⟩
  | 6, _ => exact ⟨List.mem_of_getElem? ui_6.1, List.mem_of_getElem? ui_6.2⟩
  | 7, _ => exact ⟨List.mem_of_getElem? ui_7.1, List.mem_of_getElem? ui_7.2⟩
  | 8, _ => exact ⟨List.mem_of_getElem? ui_8.1, List.mem_of_getElem? ui_8.2⟩
  | 9, _ => exact ⟨List.mem_of_getElem? ui_9.1, List.mem_of_getElem? ui_9.2⟩
  | 10, _ => exact ⟨List.mem_of_getElem? ui_10.1, List.mem_of_getElem? ui_10.2⟩
  | 11, _ => exact ⟨List.mem_of_getElem? ui_11.1, List.mem_of_getElem? ui_11.2⟩
  | 12, _ => exact ⟨List.mem_of_getElem? ui_12.1, List.mem_of_getElem? ui_12.2⟩
  | n + 13, h => omega
theorem nm_all : ∀ ci, ci < 13 → ∀ a, a < nf ci → ∀ b, b < nf ci → a ≠ b → (TC ci a).2.1 ≠ (TC ci b).2.1 := by
  intro ci hci
  match ci, hci with
  | 0, _ => exact nmX0
  | 1, _ => exact nmX1
  | 2, _ => exact nmX2
  | 3, _ => exact nmX3
  | 4, _ => exact nmX4
  | 5, _ => exact nmX5
  | 6, _ => exact nmX6
  | 7, _ => exact nmX7
  | 8, _ => exact nmX8
  | 9, _ => exact nmX9
  | 10, _ => exact nmX10
  | 11, _ => exact nmX11
  | 12, _ => exact nmX12
  | n + 13, h => omega
theorem okC_at {ci k : Nat} (h : ci < 13) (hk : k < nf ci) : fdk (fk ci k) (tyC ci k) = true ∧ parseFieldDescriptor (TC ci k).2.2.1 = some (tyC ci k) ∧ (fk ci k = 3 → ci = 7 ∧ k = 1) := by
  have h1 := List.all_eq_true.mp (okC_all ci h) k (List.mem_range.mpr hk)
  simp only [Bool.and_eq_true, decide_eq_true_eq] at h1
  exact ⟨h1.1.1, h1.1.2, h1.2⟩
theorem gw_lay (C : String) (T : u_T) (k : Nat) : gw (u_lay C T k) = true := by
  unfold u_lay; split <;> rfl
section
variable {p : Program} {l : Launch} {e : Env} {R : Room} {s : State} {m : MethodId} {args : Array Value} {below : List Frame} {meth : Method} {c : Code} {Q : State → Prop} {D : va_G} {cT : Nat → ClassId} {A : Nat × Nat × Nat} {d mid : Nat} {res : Option Value × GM} {cF sF : Nat}
variable {pc pc' : Nat} {ls lsx st st' r : List Value} {M M1 : GM} {H H1 : Heap} {locs locs1 : List Loc}
theorem uws_of {U : State} (hC : Cx D cT U) {ci : Nat} (h : ci < 13) (a : Array Value) : ∀ w ∈ u_ws (RC ci) (TC ci) (nf ci), w.before a U = true := by
  intro w hw
  obtain ⟨k, hk, rfl⟩ := List.mem_map.mp hw
  exact hC.1 _ (uw_all ci h k (List.mem_range.mp hk)) (gw_lay _ _ _) a
theorem below_same {q : Nat} (h0 : A.1 ≤ s.heap.size) (h1 : va_S (fun q => A.1 ≤ q) s.heap H locs) (h2 : va_S (fun q => A.1 ≤ q) s.heap H1 locs1) (hq : q < A.1) : H1[q]? = H[q]? :=
  (h2.2.1 q (by omega) (Nat.not_le.mpr hq)).trans (h1.2.1 q (by omega) (Nat.not_le.mpr hq)).symm
theorem Xx.kept (h : Xx A M s H) (hq : ∀ q : Nat, q < A.1 → H1[q]? = H[q]?) (h1 : M1.2.2.1 9998 = M.2.2.1 9998) (h2 : M1.2.2.1 9999 = M.2.2.1 9999) : Xx A M1 s H1 := by
  obtain ⟨a1, a2, a3⟩ := h
  refine ⟨a1, ?_, ?_⟩
  · rw [h1]; exact a2
  · rw [h1, h2]; exact a3.kept (hq _ a1)
theorem Sx.kept {U : State} (h : Sx A U H) (hs : A.1 ≤ H.size) (hq : ∀ q : Nat, q < A.1 → H1[q]? = H[q]?) : Sx A U H1 := by
  obtain ⟨a1, a2, aV, a3, a4, a5, a6, a7, a8⟩ := h
  have hk : ∀ a : Nat, a < H.size → ¬ (fun q => A.1 ≤ q) a → H1[a]? = H[a]? := fun a _ h => hq a (Nat.not_le.mp h)
  exact ⟨a1, a2, aV, a3, a4.kept hk, a5.kept hk, a6.kept hk, a7.kept hk, a8.kept hk⟩
theorem HR.le (h : HR D cT A M s H) : A.1 ≤ H.size := by rw [h.1]; exact Nat.le_add_right _ _
/-- one cell has been written -/
theorem HR.put (h : HR D cT A M s H) {k : Nat} (hk : k < M.1) (hn : M1.1 = M.1) (ho : ∀ j, j ≠ k → cE A cT M1 j = cE A cT M j) (z : H1.size = H.size) (oq : ∀ q : Nat, q ≠ A.1 + k → H1[q]? = H[q]?) (he : va_at D cl13 (A.1 + k, cE A cT M1 k) H1) (h1 : M1.2.2.1 9998 = M.2.2.1 9998) (h2 : M1.2.2.1 9999 = M.2.2.1 9999) : HR D cT A M1 s H1 := by
  have hq : ∀ q : Nat, q < A.1 → H1[q]? = H[q]? := fun q hq => oq q (by omega)
  refine ⟨by rw [z, h.1, hn], ?_, h.2.2.1.kept hq h1 h2, h.2.2.2.kept h.le hq⟩
  have h3 := va_P.set h.2.1 (wM_D A cT M) (wM_at hk) he oq
  rwa [wM_set hn hk ho] at h3
theorem cE_obj {k : Nat} (h : K0 k < 13) : cE A cT M k = .inr (K0 k, (List.range (nf (K0 k))).map (fval A M (K0 k) k)) := by
  unfold cE; rw [if_pos h]
theorem cE_int {k : Nat} (h : K0 k = 20 ∨ K0 k = 22 ∨ K0 k = 23 ∨ K0 k = 24) : cE A cT M k = .inl (cT (K0 k), Z0 k, .inl (M.2.2.1 k)) := by
  unfold cE; rw [if_neg (by omega), if_neg (by omega), if_neg (by omega)]
theorem cE_long {k : Nat} (h : K0 k = 21) : cE A cT M k = .inl (cT 21, Z0 k, .inr (.inl (M.2.2.2 k))) := by
  unfold cE; rw [if_neg (by omega), if_pos h]
theorem cE_ref {k : Nat} (h : 24 < K0 k ∧ K0 k < 28) : cE A cT M k = .inl (cT (K0 k), Z0 k, .inr (.inr (.inr (.inr (fun i => (M.2.1 k i).map (A.1 + ·)))))) := by
  unfold cE; rw [if_neg (by omega), if_neg (by omega), if_pos h]
theorem cE_congr {k : Nat} (h1 : M1.2.1 k = M.2.1 k) (h2 : M1.2.2.1 k = M.2.2.1 k) (h3 : M1.2.2.2 k = M.2.2.2 k) : cE A cT M1 k = cE A cT M k := by
  have hf : fval A M1 (K0 k) k = fval A M (K0 k) k := by
    funext j
    unfold fval
    rw [h1, h2, h3]
  unfold cE
  rw [h1, h2, h3, hf]
theorem upI_ne {f : MI} {a k i : Nat} {v : Int32} (h : k ≠ a) : upI f a i v k = f k := by
  funext j; rw [upI_e, if_neg (fun q => h q.1)]
theorem upL_ne {f : ML} {a k i : Nat} {v : Int64} (h : k ≠ a) : upL f a i v k = f k := by
  funext j; rw [upL_e, if_neg (fun q => h q.1)]
theorem upR_ne {f : MR} {a k i : Nat} {v : Option Nat} (h : k ≠ a) : upR f a i v k = f k := by
  funext j; rw [upR_e, if_neg (fun q => h q.1)]
theorem K0_9998 : K0 9998 = 99 := by decide +kernel
theorem K0_9999 : K0 9999 = 99 := by decide +kernel
/-- an int array's place has been written -/
theorem HR.putI (h : HR D cT A M s H) {k i : Nat} {v : Int32} (hk : k < M.1) (hK : K0 k = 20 ∨ K0 k = 22 ∨ K0 k = 23 ∨ K0 k = 24) (z : H1.size = H.size) (oq : ∀ q : Nat, q ≠ A.1 + k → H1[q]? = H[q]?) (he : H1[A.1 + k]? = some ((arrV (cT (K0 k)) (Z0 k) (fun j => .int (M.2.2.1 k j))).setSlot i (.int v))) : HR D cT A (sI M k i v) s H1 := by
  refine h.put hk rfl (fun j hj => cE_congr rfl (upI_ne hj) rfl) z oq ?_ (upI_ne (fun q => by rw [← q, K0_9998] at hK; omega)) (upI_ne (fun q => by rw [← q, K0_9999] at hK; omega))
  show va_at D cl13 (A.1 + k, cE A cT (sI M k i v) k) H1
  rw [cE_int hK]
  show H1[A.1 + k]? = some (vp_cell _ _)
  rw [he, vp_cell_i, arrV_store]
  congr 2
  funext j
  by_cases hj : j = i
  · subst hj; simp [updV, sI, upI_e]
  · simp [updV, sI, upI_e, hj]
theorem HR.putL (h : HR D cT A M s H) {k i : Nat} {v : Int64} (hk : k < M.1) (hK : K0 k = 21) (z : H1.size = H.size) (oq : ∀ q : Nat, q ≠ A.1 + k → H1[q]? = H[q]?) (he : H1[A.1 + k]? = some ((arrV (cT 21) (Z0 k) (fun j => .long (M.2.2.2 k j))).setSlot i (.long v))) : HR D cT A (sL M k i v) s H1 := by
  refine h.put hk rfl (fun j hj => cE_congr rfl rfl (upL_ne hj)) z oq ?_ rfl rfl
  show va_at D cl13 (A.1 + k, cE A cT (sL M k i v) k) H1
  rw [cE_long hK]
  show H1[A.1 + k]? = some (vp_cell _ _)
  rw [he, vp_cell_l, arrV_store]
  congr 2
  funext j
  by_cases hj : j = i
  · subst hj; simp [updV, sL, upL_e]
  · simp [updV, sL, upL_e, hj]
theorem HR.putR (h : HR D cT A M s H) {k i b : Nat} (hk : k < M.1) (hK : 24 < K0 k ∧ K0 k < 28) (z : H1.size = H.size) (oq : ∀ q : Nat, q ≠ A.1 + k → H1[q]? = H[q]?) (he : H1[A.1 + k]? = some ((arrV (cT (K0 k)) (Z0 k) (fun j => va_rf ((M.2.1 k j).map (A.1 + ·)))).setSlot i (.ref (A.1 + b)))) : HR D cT A (sR M k i (some b)) s H1 := by
  refine h.put hk rfl (fun j hj => cE_congr (upR_ne hj) rfl rfl) z oq ?_ rfl rfl
  show va_at D cl13 (A.1 + k, cE A cT (sR M k i (some b)) k) H1
  rw [cE_ref hK]
  show H1[A.1 + k]? = some (vp_cell _ _)
  rw [he, vp_cell_q, arrV_store]
  congr 2
  funext j
  by_cases hj : j = i
  · subst hj; simp [updV, sR, upR_e, va_rf]
  · simp [updV, sR, upR_e, hj]
end
