theorem nth_ne (x : Nat) (hx : ¬ x = 99) : ∀ (l : List Nat) (i : Nat), x ∉ l → nth l i ≠ x
  | [], _, _ => fun h => hx h.symm
  | a :: r, 0, h => fun q => h (by rw [← q]; exact List.mem_cons_self)
  | a :: r, i + 1, h => nth_ne x hx r i (fun q => h (List.mem_cons_of_mem _ q))
theorem K0_98 (c : Nat) : ¬ K0 c = 98 := by
  intro h
  have h1 : c < 336 := K0_lt (by omega)
  revert h
  exact (by decide +kernel : ∀ c, c < 336 → ¬ K0 c = 98) c h1
section
variable {p : Program} {l : Launch} {e : Env} {R : Room} {s : State} {m : MethodId} {args : Array Value} {below : List Frame} {meth : Method} {c : Code} {Q : State → Prop} {D : va_G} {cT : Nat → ClassId} {A : Nat × Nat × Nat} {d mid : Nat} {res : Option Value × GM} {cF sF : Nat}
variable {pc pc' t nx : Nat} {ls lsx st st' r : List Value} {M M1 : GM} {H H1 : Heap} {locs locs1 : List Loc}
theorem fs_at {f : Nat → Value} {n k : Nat} (h : k < n) : ((List.range n).map f)[k]? = some (f k) := by simp [h]
theorem fs_V {f : Nat → Value} {n k : Nat} (h : k < n) : vp_V ((List.range n).map f) k = f k := by simp [vp_V, h]
theorem HR.obj (h : HR D cT A M s H) {a ci : Nat} (ha : a < M.1) (hK : K0 a = ci) (hci : ci < 13) : t_OB (A.1 + a) (D.1 ci) (nf ci) (D.2 ci) H (fval A M ci a) := by
  subst hK
  have h1 := h.2.1 a _ (wM_at ha)
  rw [cE_obj hci] at h1
  obtain ⟨r, hr, h2⟩ := h1
  rw [cl13_at hci] at hr
  cases hr
  exact h2.to fun k hk => fs_V hk
theorem Gx.getf (hF : Fx p l e R s m args below meth c Q D cT A d mid res cF sF) {ci k i a : Nat} {v : Value} (hci : ci < 13) (hk : k < nf ci) (hKa : K0 a = ci) (ha : a < M.1)
    (hl : (∀ x : Array Value, (Cond.fieldLink (RC (clM mid)) i (RC ci) (TC ci k).2.1 (TC ci k).2.2.1).before x s = true) ∨ (∀ x : Array Value, (Cond.fieldLinkNest (RC (clM mid)) i (RC ci) (TC ci k).2.1 (TC ci k).2.2.1 "FrameRents").before x s = true)) (hrf : (TC ci k).1 = RC ci)
    (hd : decode (cB mid) pc = .ok (.getfield i, 3)) (hv : cv A v = fval A M ci a k) (hk2 : Gx p l e R s m args below meth c Q D cT A mid res cF sF (pc + 3, ls, v :: r, M)) : Gx p l e R s m args below meth c Q D cT A mid res cF sF (pc, ls, .ref a :: r, M) := by
  obtain ⟨hx, hb, -, hown, -, hC, -⟩ := hF
  refine hk2.pure fun H locs cells slots ls' hP kk => ?_
  have hH := hP.2.2.2.2.1
  have he : (wM A cT M)[a]? = some (A.1 + a, .inr (ci, (List.range (nf ci)).map (fval A M ci a))) := by rw [wM_at ha, cE_obj (by omega), hKa]
  rw [List.map_cons, hv] at kk
  rcases hl with hl | hl
  · exact va_get hx hb (uws_of hC hci args) (fun w h => h) hown hC.2.1 hH.2.1 a he (cl13_at hci) k hk (hl args) (by rw [hrf]; exact fun _ h => h) (fs_at hk) hd kk
  · exact va_getN hx hb (uws_of hC hci args) (fun w h => h) hown hC.2.1 hH.2.1 a he (cl13_at hci) k hk (hl args) (by rw [hrf]; exact fun _ h => h) (fs_at hk) hd kk
theorem Gx.putf (hF : Fx p l e R s m args below meth c Q D cT A d mid res cF sF) {ci k i a : Nat} {v : Value} (hci : ci < 13) (hk : k < nf ci) (hKa : K0 a = ci) (ha : a < M.1)
    (hl : (∀ x : Array Value, (Cond.fieldLink (RC (clM mid)) i (RC ci) (TC ci k).2.1 (TC ci k).2.2.1).before x s = true) ∨ ((TC ci k).2.2.2 = false ∧ ∀ x : Array Value, (Cond.fieldLinkNest (RC (clM mid)) i (RC ci) (TC ci k).2.1 (TC ci k).2.2.1 "FrameRents").before x s = true)) (hrf : (TC ci k).1 = RC ci)
    (hfin : (TC ci k).2.2.2 = true → kdM mid = 2 ∧ clM mid = ci) (hd : decode (cB mid) pc = .ok (.putfield i, 3)) (hn : narrow (tyC ci k) (cv A v) = cv A v) (hfit : fits (tyC ci k) (cv A v) = true)
    (hM : M1.1 = M.1) (hf1 : ∀ j, j < nf ci → fval A M1 ci a j = if j = k then cv A v else fval A M ci a j) (ho : ∀ j, j ≠ a → cE A cT M1 j = cE A cT M j) (h8 : M1.2.2.1 9998 = M.2.2.1 9998) (h9 : M1.2.2.1 9999 = M.2.2.1 9999)
    (hk2 : Gx p l e R s m args below meth c Q D cT A mid res cF sF (pc + 3, ls, r, M1)) : Gx p l e R s m args below meth c Q D cT A mid res cF sF (pc, ls, v :: .ref a :: r, M) := by
  refine Gx.put hF (k := a) hk2 hM fun H locs cells slots ls' hH kk => ?_
  obtain ⟨hx, hb, -, hown, hin, hC, -⟩ := hF
  obtain ⟨cell, q1, q2, q3, q4⟩ := hH.obj ha hKa hci
  have hts := uws_of hC hci args
  have hty : ∀ k, k < nf ci → parseFieldDescriptor (TC ci k).2.2.1 = some (tyC ci k) := fun k hk => (okC_at hci hk).2.1
  have hap := va_apart (own := RC (clM mid)) hts (fun w h => h) (tyC ci) hty (nm_all ci hci) hC.2.1 (cl13_at hci)
  obtain ⟨hS, hfc, kC, hkC, hkind⟩ := hC.2.1.1 ci _ (cl13_at hci)
  obtain ⟨cf, kf, fi, f, hi, hsl⟩ := hS k hk
  have hst := (u_facts hfc hkC (u_lays hts (fun w h => h) hk) hi).1
  have hi2 : s.fieldFound? (RC ci) (TC ci k).2.1 (TC ci k).2.2.1 = some (cf, kf, fi, f) := by rw [← hrf]; exact hi
  have hend : ∀ H1 : Heap, H1[A.1 + a]? = some (cell.setSlot f.slot (cv A v)) → H1.size = H.size → (∀ q, q ≠ A.1 + a → H1[q]? = H[q]?) → HR D cT A M1 s H1 := by
    intro H1 e1 z oq
    refine hH.put ha hM ho z oq ?_ h8 h9
    rw [cE_obj (by omega), hKa]
    rw [hsl] at e1
    refine ⟨_, cl13_at hci, t_OB.to (V := updV (fval A M ci a) k (cv A v)) ⟨_, e1, q2, q3, t_set q4 hap hk (cv A v)⟩ (fun j hj => ?_)⟩
    show updV (fval A M ci a) k (cv A v) j = vp_V ((List.range (nf ci)).map (fval A M1 ci a)) j
    rw [fs_V hj, hf1 j hj]
    rfl
  have hlay := hts _ (u_in_lay hk)
  unfold u_lay at hlay
  cases hfn : (TC ci k).2.2.2
  · rw [if_neg (by rw [hfn]; decide)] at hlay
    have h6 := u_store hfc hkC hkind hlay hi (hty k hk) hn hfit
    rcases hl with hl | ⟨-, hl⟩
    · exact W.putK hx hb (f := f) ⟨hown, hl args, ⟨_, _, _, hi2⟩, hst⟩ (by rw [q2]; exact h6) q1 q3 (by rw [hsl]; exact k2_hasslot (q4 k hk)) rfl rfl hd fun H1 e1 z oq => kk H1 _ z oq (hend H1 e1 z oq)
    · exact va_WputK hx hb (f := f) hown (hl args) hi2 hst (by rw [q2]; exact h6) q1 q3 (by rw [hsl]; exact k2_hasslot (q4 k hk)) rfl rfl hd fun H1 e1 z oq => kk H1 _ z oq (hend H1 e1 z oq)
  · rw [if_pos hfn] at hlay
    obtain ⟨hm2, hmc⟩ := hfin hfn
    rcases hl with hl | ⟨h0, -⟩
    · have hcf : m.cls = cf := by
        obtain ⟨_, _, c', _, _, _, -, -, hf', -, -, -, hown2, -⟩ := Cond.laysFinal_spec hlay
        have e1 : c' = cf := by have := hi.symm.trans hf'; simp at this; exact this.1.symm
        rw [hrf, ← hmc] at hown2
        rw [← e1]; exact Option.some.inj (hown.symm.trans hown2)
      have h6 := u_fits hfc hkC hkind (Or.inr hlay) hi (hty k hk) hn hfit
      exact W.putFinK hx hb hown (hl args) hi2 hst hcf (hin hm2) (by rw [q2]; exact h6) q1 q3 (by rw [hsl]; exact k2_hasslot (q4 k hk)) rfl rfl hd fun H1 e1 z oq => kk H1 _ z oq (hend H1 e1 z oq)
    · rw [hfn] at h0; cases h0
/-! making -/
theorem SZ_succ (n : Nat) : SZ (n + 1) = SZ n + Z0 n := by simp [SZ, List.range_succ]
theorem SZ_mono {a b : Nat} (h : a ≤ b) : SZ a ≤ SZ b := by
  induction b with
  | zero => rw [Nat.le_zero.mp h]; exact Nat.le_refl _
  | succ b ih =>
    rcases Nat.lt_or_ge a (b + 1) with q | q
    · rw [SZ_succ]; exact Nat.le_trans (ih (by omega)) (Nat.le_add_right _ _)
    · rw [show a = b + 1 by omega]; exact Nat.le_refl _
theorem cE_nw {k : Nat} (h : k < M.1) : cE A cT (nw M) k = cE A cT M k := by
  have hne : ¬ k = M.1 := by omega
  refine cE_congr ?_ ?_ ?_
  · funext i; simp [nw, clR, hne]
  · funext i; simp [nw, clI, hne]
  · funext i; simp [nw, clL, hne]
/-- a new cell behind the others -/
theorem HR.push (h : HR D cT A M s H) (hn : M.1 < 336) (hz : H1.size = H.size + 1) (hold : ∀ q : Nat, q < H.size → H1[q]? = H[q]?) (hat : va_at D cl13 (H.size, cE A cT (nw M) M.1) H1) : HR D cT A (nw M) s H1 := by
  have hq : ∀ q : Nat, q < A.1 → H1[q]? = H[q]? := fun q hq => hold q (Nat.lt_of_lt_of_le hq h.le)
  refine ⟨by rw [hz, h.1]; exact Nat.add_assoc _ _ _, ?_, h.2.2.1.kept hq ?_ ?_, h.2.2.2.kept h.le hq⟩
  · intro k q hk
    obtain ⟨hlt, rfl⟩ := wM_inv hk
    have hlt : k < M.1 + 1 := hlt
    rcases Nat.lt_or_ge k M.1 with h1 | h1
    · rw [cE_nw h1]
      exact (h.2.1 k _ (wM_at h1)).kept (hold _ (by have := h.1; show A.1 + k < _; omega))
    · have : k = M.1 := by omega
      subst this
      rw [← h.1]
      exact hat
  · funext i
    have hne : ¬ 9998 = M.1 := by omega
    simp [nw, clI, hne]
  · funext i
    have hne : ¬ 9999 = M.1 := by omega
    simp [nw, clI, hne]
/-- a step that makes one cell -/
theorem Gx.mk (hF : Fx p l e R s m args below meth c Q D cT A d mid res cF sF) {len : Nat} (hk : Gx p l e R s m args below meth c Q D cT A mid res cF sF (pc + len, ls, .ref M.1 :: st', nw M)) (hle : M.1 + 1 ≤ res.2.1) (hn : M.1 < 336)
    (h : ∀ (H : Heap) (locs : List Loc) (cells slots : Nat) (ls' : Array Slot), HR D cT A M s H → cells + 1 ≤ R.cells → slots + Z0 M.1 ≤ R.slots → (∀ (H1 : Heap), H1.size = H.size + 1 → (∀ q : Nat, q < H.size → H1[q]? = H[q]?) → va_at D cl13 (H.size, cE A cT (nw M) M.1) H1 → W p l e R s m args below meth c H1 locs (cells + 1) (slots + Z0 M.1) Q (F0 m (pc + len) ls' (.ref H.size :: st'.map (cv A)))) → W p l e R s m args below meth c H locs cells slots Q (F0 m pc ls' (st.map (cv A)))) :
    Gx p l e R s m args below meth c Q D cT A mid res cF sF (pc, ls, st, M) := fun H locs cells slots ls' hP => by
  obtain ⟨h1, h2, h3, h4, h5, h6⟩ := hP
  obtain ⟨-, -, -, -, -, -, -, -, hc, hs, -⟩ := hF
  dsimp only at h1 h2 h3 h5 h6
  have hz1 := SZ_succ M.1
  have hz2 := SZ_mono hle
  have hz3 := SZ_mono h1
  refine h H locs cells slots ls' h5 (by omega) (by omega) fun H1 z hold hat => ?_
  have h7 := hk H1 locs (cells + 1) (slots + Z0 M.1) ls' ⟨hle, by show cells + 1 + (res.2.1 - (M.1 + 1)) = cF; omega, by show slots + Z0 M.1 + (SZ res.2.1 - SZ (M.1 + 1)) = sF; omega, ⟨by rw [z]; exact Nat.le_trans h4.1 (Nat.le_succ _), fun q q1 q2 => (hold q (Nat.lt_of_lt_of_le q1 h4.1)).trans (h4.2.1 q q1 q2), h4.2.2⟩, h5.push hn z hold hat, h6⟩
  have e1 : (Value.ref M.1 :: st').map (cv A) = .ref H.size :: st'.map (cv A) := by rw [h5.1]; rfl
  dsimp only at h7
  rw [e1] at h7
  exact h7
theorem Gx.new (hF : Fx p l e R s m args below meth c Q D cT A d mid res cF sF) {ci i : Nat} (hci : ci < 13) (hK : K0 M.1 = ci) (hZ : Z0 M.1 = nf ci) (hl : ∀ x : Array Value, (Cond.classLink (RC (clM mid)) i (RC ci)).before x s = true) (hd : decode (cB mid) pc = .ok (.new i, 3)) (hle : M.1 + 1 ≤ res.2.1)
    (hk : Gx p l e R s m args below meth c Q D cT A mid res cF sF (pc + 3, ls, .ref M.1 :: st, nw M)) : Gx p l e R s m args below meth c Q D cT A mid res cF sF (pc, ls, st, M) := by
  refine Gx.mk hF hk hle (K0_lt (by omega)) fun H locs cells slots ls' hH hc1 hs1 kk => ?_
  obtain ⟨hx, hb, -, hown, -, hC, -⟩ := hF
  have hKn := hC.2.1.1 ci _ (cl13_at hci)
  have hty : ∀ k, k < nf ci → parseFieldDescriptor (TC ci k).2.2.1 = some (tyC ci k) := fun k hk => (okC_at hci hk).2.1
  rw [hZ] at kk hs1
  refine W.newcK (C := RC ci) (n := nf ci) hx hb hown (hl args) (hC.1 _ (ui_all ci hci).1 rfl args) (hC.1 _ (ui_all ci hci).2 rfl args) rfl hd hc1 hs1 hKn.2.1 rfl fun H1 kC hkC e1 z1 o1 => ?_
  refine kk H1 z1 o1 ?_
  rw [cE_obj (by omega), hK]
  refine ⟨_, cl13_at hci, (u_born (tyC ci) (uws_of hC hci args) (fun w h => h) hKn hkC e1 hty).to fun k hk => ?_⟩
  show defaultValue (tyC ci k) = vp_V ((List.range (nf ci)).map (fval A (nw M) ci M.1)) k
  rw [fs_V hk]
  obtain ⟨hf, -, h3⟩ := okC_at hci hk
  have e0 : fk ci k ≠ 3 → (nw M).2.2.1 M.1 k = 0 := fun q => by
    have hne : ¬ (K0 M.1 = 7 ∧ k = 1) := fun z => q (by rw [← hK, z.1, z.2]; rfl)
    simp [nw, clI, hne]
  have e3 : fk ci k = 3 → (nw M).2.2.1 M.1 k = -1 := fun q => by
    have hy : K0 M.1 = 7 ∧ k = 1 := by rw [hK]; exact h3 q
    simp [nw, clI, hy]
  have eL : (nw M).2.2.2 M.1 k = 0 := by simp [nw, clL]
  have eR : (nw M).2.1 M.1 k = none := by simp [nw, clR]
  unfold fval
  revert hf e0 e3
  generalize fk ci k = q
  generalize tyC ci k = ty
  intro hf e0 e3
  unfold fdk at hf
  split at hf
  · rw [e0 (by decide)]; rfl
  · rw [eL]; rfl
  · rw [e0 (by decide)]; rfl
  · rw [eR]; rfl
  · rw [eR]; rfl
  · rw [e3 rfl]; rfl
  · cases hf
/-- what kind of array a type is -/
theorem RA_inj {cA cB : ClassId} {ty : FieldType} (h : va_RA s cA ty) (hf : s.vm.findClass ("[" ++ ty.toString) = some cB) : cB = cA := by
  cases ty with
  | object C =>
    obtain ⟨_, _, -, -, -, h4⟩ := h
    exact Option.some.inj (hf.symm.trans h4)
  | _ => exact Option.some.inj (hf.symm.trans h)
theorem arr_mem : ∀ q ∈ [(Cond.arrayClass .int), (Cond.arrayClass .long), (Cond.arrayClass .byte), (Cond.arrayClass .char), (Cond.arrayClass .boolean)], q ∈ lw_tbl := by decide +kernel
theorem kAT_ty {at' : ArrayType} {k : Nat} (h : kAT at' = k) (hk : k < 98) : ∃ j : Nat, (tysL cT)[j]? = some (cT k, newarray.typeOf at') ∧ Cond.arrayClass (newarray.typeOf at') ∈ lw_tbl ∧ (k = 20 ∨ k = 21 ∨ k = 22 ∨ k = 23 ∨ k = 24) ∧ (k = 21 ↔ at' = .long) ∧ componentBytes (newarray.typeOf at') ≤ 8 := by
  subst h
  cases at' <;> first | (exact absurd hk (by decide)) | skip
  · exact ⟨4, rfl, arr_mem _ (by simp [newarray.typeOf]), by decide, by decide, by decide⟩
  · exact ⟨3, rfl, arr_mem _ (by simp [newarray.typeOf]), by decide, by decide, by decide⟩
  · exact ⟨2, rfl, arr_mem _ (by simp [newarray.typeOf]), by decide, by decide, by decide⟩
  · exact ⟨0, rfl, arr_mem _ (by simp [newarray.typeOf]), by decide, by decide, by decide⟩
  · exact ⟨1, rfl, arr_mem _ (by simp [newarray.typeOf]), by decide, by decide, by decide⟩
theorem nwI {i : Nat} (h : ¬ K0 M.1 = 7) : (nw M).2.2.1 M.1 i = 0 := by simp [nw, clI, h]
theorem Gx.nwa (hF : Fx p l e R s m args below meth c Q D cT A d mid res cF sF) {v : Int32} {at' : ArrayType} (hK : K0 M.1 = kAT at') (hv : ¬ v < 0) (hZ : v.toNatClampNeg = Z0 M.1) (hd : decode (cB mid) pc = .ok (.newarray at', 2)) (hle : M.1 + 1 ≤ res.2.1)
    (hb8 : Z0 M.1 ≤ 60000000) (hk : Gx p l e R s m args below meth c Q D cT A mid res cF sF (pc + 2, ls, .ref M.1 :: r, nw M)) : Gx p l e R s m args below meth c Q D cT A mid res cF sF (pc, ls, .int v :: r, M) := by
  by_cases h98 : kAT at' < 98
  · have hn : M.1 < 336 := K0_lt (by omega)
    obtain ⟨j, hj, hm, h5, h21, hcb⟩ := kAT_ty (cT := cT) rfl h98
    refine Gx.mk hF hk hle hn fun H locs cells slots ls' hH hc1 hs1 kk => ?_
    obtain ⟨hx, hb, -, hown, -, hC, -⟩ := hF
    refine va_newaK (N := Z0 M.1) hx hb (hC.1 _ hm rfl args) rfl hd rfl hv hZ (by have := Nat.mul_le_mul_left (Z0 M.1) hcb; omega) hc1 hs1 rfl fun H1 cA e1 z1 o1 hAr hNm => ?_
    refine kk H1 z1 o1 ?_
    have hcA : cA = cT (kAT at') := RA_inj (hC.2.1.2 j _ hj).2 hNm
    subst hcA
    by_cases hl : kAT at' = 21
    · have := h21.mp hl
      subst this
      rw [cE_long (by omega)]
      show H1[H.size]? = some (vp_cell _ _)
      rw [e1, vp_cell_l]
      congr 2
      funext i
      simp [nw, clL, defaultValue, newarray.typeOf]
    · rw [cE_int (by omega), hK]
      show H1[H.size]? = some (vp_cell _ _)
      rw [e1, vp_cell_i]
      congr 2
      funext i
      rw [nwI (by omega)]
      cases at' <;> first | rfl | (exact absurd rfl hl) | (exact absurd h98 (by decide))
  · exfalso
    have h99 : kAT at' = 98 := by cases at' <;> first | rfl | (exact absurd (by decide) h98)
    exact K0_98 M.1 (hK.trans h99)
end
