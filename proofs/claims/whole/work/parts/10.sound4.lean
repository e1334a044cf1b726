section
variable {p : Program} {l : Launch} {e : Env} {R : Room} {s : State} {m : MethodId} {args : Array Value} {below : List Frame} {meth : Method} {c : Code} {Q : State → Prop} {D : va_G} {cT : Nat → ClassId} {A : Nat × Nat × Nat} {d mid : Nat} {res : Option Value × GM} {cF sF : Nat}
variable {pc pc' t nx : Nat} {ls lsx st st' r : List Value} {M M1 : GM} {H H1 : Heap} {locs locs1 : List Loc}
theorem Gx.loc1 (hF : Fx p l e R s m args below meth c Q D cT A d mid res cF sF) {i : Nat} {v : Value} (hi : i < ls.length) (hc : v.category = 1) (hk : Gx p l e R s m args below meth c Q D cT A mid res cF sF (pc', lput ls i v, st', M))
    (h : ∀ (H : Heap) (locs : List Loc) (cells slots : Nat) (ls' : Array Slot) (lv : List (Nat × Value)), lv_has ls' (mxL mid) lv → i < mxL mid → LR A (mxL mid) ls ls' → (∀ l2 : Array Slot, lv_has l2 (mxL mid) ((i, cv A v) :: lv.filter (fun q => !(q.1 == i) && !(q.1 + 1 == i && q.2.category == 2))) → W p l e R s m args below meth c H locs cells slots Q (F0 m pc' l2 (st'.map (cv A)))) → W p l e R s m args below meth c H locs cells slots Q (F0 m pc ls' (st.map (cv A)))) :
    Gx p l e R s m args below meth c Q D cT A mid res cF sF (pc, ls, st, M) :=
  hk.loc fun H locs cells slots ls' hL kk => h H locs cells slots ls' (lvl A ls) (lvl_has hL) (by rw [← hL.1]; exact hi) hL fun l2 h2 => kk l2 (LR_put1 hL hi hc h2)
theorem Gx.loc2 (hF : Fx p l e R s m args below meth c Q D cT A d mid res cF sF) {i : Nat} {x : Int64} (hi : i + 1 < ls.length) (hk : Gx p l e R s m args below meth c Q D cT A mid res cF sF (pc', lput ls i (.long x), st', M))
    (h : ∀ (H : Heap) (locs : List Loc) (cells slots : Nat) (ls' : Array Slot) (lv : List (Nat × Value)), lv_has ls' (mxL mid) lv → i + 1 < mxL mid → (∀ l2 : Array Slot, lv_has l2 (mxL mid) ((i, Value.long x) :: lv.filter (fun q => !(q.1 == i) && (!(q.1 == i + 1) && !(q.1 + 1 == i && q.2.category == 2)))) → W p l e R s m args below meth c H locs cells slots Q (F0 m pc' l2 (st'.map (cv A)))) → W p l e R s m args below meth c H locs cells slots Q (F0 m pc ls' (st.map (cv A)))) :
    Gx p l e R s m args below meth c Q D cT A mid res cF sF (pc, ls, st, M) :=
  hk.loc fun H locs cells slots ls' hL kk => h H locs cells slots ls' (lvl A ls) (lvl_has hL) (by rw [← hL.1]; exact hi) fun l2 h2 => kk l2 (LR_put2 hL hi h2)
/-- a step that writes one cell -/
theorem Gx.put (hF : Fx p l e R s m args below meth c Q D cT A d mid res cF sF) {k : Nat} (hk : Gx p l e R s m args below meth c Q D cT A mid res cF sF (pc', ls, st', M1)) (hn : M1.1 = M.1)
    (h : ∀ (H : Heap) (locs : List Loc) (cells slots : Nat) (ls' : Array Slot), HR D cT A M s H → (∀ (H1 : Heap) (i : Nat), H1.size = H.size → (∀ q : Nat, q ≠ A.1 + k → H1[q]? = H[q]?) → HR D cT A M1 s H1 → W p l e R s m args below meth c H1 (locs ++ [⟨A.1 + k, i⟩]) cells slots Q (F0 m pc' ls' (st'.map (cv A)))) → W p l e R s m args below meth c H locs cells slots Q (F0 m pc ls' (st.map (cv A)))) :
    Gx p l e R s m args below meth c Q D cT A mid res cF sF (pc, ls, st, M) := fun H locs cells slots ls' hP => by
  obtain ⟨h1, h2, h3, h4, h5, h6⟩ := hP
  exact h H locs cells slots ls' h5 fun H1 i z oq hH1 => hk H1 _ cells slots ls' ⟨by rw [hn]; exact h1, by rw [hn]; exact h2, by rw [hn]; exact h3, h4.put z oq (Nat.le_add_right _ _), hH1, h6⟩
theorem jmp_of {en : EN} {off : Int} (h : jmp en off = true) : (en.1 : Int) + off = (en.2.2.2.1 : Int) := of_decide_eq_true h
theorem cv_int (A : Nat × Nat × Nat) (x : Int32) : cv A (.int x) = .int x := rfl
theorem cv_ref (A : Nat × Nat × Nat) (x : Nat) : cv A (.ref x) = .ref (A.1 + x) := rfl
theorem cv_long (A : Nat × Nat × Nat) (x : Int64) : cv A (.long x) = .long x := rfl
theorem ty_at (hC : Cx D cT s) (i : Nat) {cA : ClassId} {ty : FieldType} (h : (tysL cT)[i]? = some (cA, ty)) : ArrOfT s cA ty := (hC.2.1.2 i _ h).1
theorem vp_bd {cA : ClassId} {n : Nat} {f : Nat → Value} {i : Int32} (h : vp_in i n) : ¬ (i < 0 ∨ (arrV cA n f).slots.size ≤ i.toNatClampNeg) := by rw [arrV_size]; exact h
theorem vp_rd {cA : ClassId} {n : Nat} {f : Nat → Value} {i : Int32} (h : vp_in i n) : (arrV cA n f).slots[i.toNatClampNeg]? = some (f i.toNatClampNeg) := by
  rw [arrV_read _ _ (Nat.not_le.mp fun q => h (Or.inr q))]
theorem HR.int (h : HR D cT A M s H) {k : Nat} (hk : k < M.1) (hK : K0 k = 20 ∨ K0 k = 22 ∨ K0 k = 23 ∨ K0 k = 24) : H[A.1 + k]? = some (arrV (cT (K0 k)) (Z0 k) (fun j => .int (M.2.2.1 k j))) := by
  have h1 := h.2.1 k _ (wM_at hk)
  rw [cE_int hK] at h1
  exact h1
theorem HR.long (h : HR D cT A M s H) {k : Nat} (hk : k < M.1) (hK : K0 k = 21) : H[A.1 + k]? = some (arrV (cT 21) (Z0 k) (fun j => .long (M.2.2.2 k j))) := by
  have h1 := h.2.1 k _ (wM_at hk)
  rw [cE_long hK] at h1
  exact h1
theorem HR.ref (h : HR D cT A M s H) {k : Nat} (hk : k < M.1) (hK : 24 < K0 k ∧ K0 k < 28) : H[A.1 + k]? = some (arrV (cT (K0 k)) (Z0 k) (fun j => va_rf ((M.2.1 k j).map (A.1 + ·)))) := by
  have h1 := h.2.1 k _ (wM_at hk)
  rw [cE_ref hK] at h1
  exact h1
theorem rf_cv (A : Nat × Nat × Nat) (o : Option Nat) : va_rf (o.map (A.1 + ·)) = cv A (rv o) := by cases o <;> rfl
theorem Gx.iald (hF : Fx p l e R s m args below meth c Q D cT A d mid res cF sF) {i : Int32} {a : Nat} (hd : decode (cB mid) pc = .ok (.iaload, 1)) (hv : av M.1 20 a i = true) (hk : Gx p l e R s m args below meth c Q D cT A mid res cF sF (pc + 1, ls, .int (M.2.2.1 a i.toNatClampNeg) :: r, M)) : Gx p l e R s m args below meth c Q D cT A mid res cF sF (pc, ls, .int i :: .ref a :: r, M) := by
  obtain ⟨hx, hb, -, -, -, hC, -⟩ := hF
  obtain ⟨⟨hK, ha⟩, hin⟩ := av_iff.mp hv
  refine hk.pure fun H locs cells slots ls' hP kk => ?_
  have hH := hP.2.2.2.2.1
  exact W.iald (v := .int (M.2.2.1 a i.toNatClampNeg)) hx hb (hH.int ha (by omega)) (by rw [hK]; exact ty_at hC 0 rfl _ _) (fun q => by cases q) (vp_bd hin) (vp_rd hin) rfl rfl hd kk
theorem Gx.cald (hF : Fx p l e R s m args below meth c Q D cT A d mid res cF sF) {i : Int32} {a : Nat} (hd : decode (cB mid) pc = .ok (.caload, 1)) (hv : av M.1 23 a i = true) (hk : Gx p l e R s m args below meth c Q D cT A mid res cF sF (pc + 1, ls, .int (M.2.2.1 a i.toNatClampNeg) :: r, M)) : Gx p l e R s m args below meth c Q D cT A mid res cF sF (pc, ls, .int i :: .ref a :: r, M) := by
  obtain ⟨hx, hb, -, -, -, hC, -⟩ := hF
  obtain ⟨⟨hK, ha⟩, hin⟩ := av_iff.mp hv
  refine hk.pure fun H locs cells slots ls' hP kk => ?_
  have hH := hP.2.2.2.2.1
  exact W.cald (v := .int (M.2.2.1 a i.toNatClampNeg)) hx hb (hH.int ha (by omega)) (by rw [hK]; exact ty_at hC 3 rfl _ _) (fun q => by cases q) (vp_bd hin) (vp_rd hin) rfl rfl hd kk
theorem Gx.bald (hF : Fx p l e R s m args below meth c Q D cT A d mid res cF sF) {i : Int32} {a : Nat} (hd : decode (cB mid) pc = .ok (.baload, 1)) (hv : (kc M.1 a (bif Nat.beq (K0 a) 24 then 24 else 22) && ib (Z0 a) i) = true) (hk : Gx p l e R s m args below meth c Q D cT A mid res cF sF (pc + 1, ls, .int (M.2.2.1 a i.toNatClampNeg) :: r, M)) : Gx p l e R s m args below meth c Q D cT A mid res cF sF (pc, ls, .int i :: .ref a :: r, M) := by
  obtain ⟨hx, hb, -, -, -, hC, -⟩ := hF
  rw [Bool.and_eq_true, kc_iff, ib_iff] at hv
  obtain ⟨⟨hK, ha⟩, hin⟩ := hv
  refine hk.pure fun H locs cells slots ls' hP kk => ?_
  have hH := hP.2.2.2.2.1
  cases hb4 : Nat.beq (K0 a) 24
  · rw [hb4] at hK
    have hK : K0 a = 22 := hK
    exact W.bald (v := .int (M.2.2.1 a i.toNatClampNeg)) hx hb (hH.int ha (by omega)) (by rw [hK]; exact ty_at hC 2 rfl _ _) (fun q => by cases q) (vp_bd hin) (vp_rd hin) rfl rfl hd kk
  · have hK : K0 a = 24 := Nat.eq_of_beq_eq_true hb4
    exact W.zald (v := .int (M.2.2.1 a i.toNatClampNeg)) hx hb (hH.int ha (by omega)) (by rw [hK]; exact ty_at hC 4 rfl _ _) (fun q => by cases q) (vp_bd hin) (vp_rd hin) rfl rfl hd kk
theorem Gx.lald (hF : Fx p l e R s m args below meth c Q D cT A d mid res cF sF) {i : Int32} {a : Nat} (hd : decode (cB mid) pc = .ok (.laload, 1)) (hv : av M.1 21 a i = true) (hk : Gx p l e R s m args below meth c Q D cT A mid res cF sF (pc + 1, ls, .long (M.2.2.2 a i.toNatClampNeg) :: r, M)) : Gx p l e R s m args below meth c Q D cT A mid res cF sF (pc, ls, .int i :: .ref a :: r, M) := by
  obtain ⟨hx, hb, -, -, -, hC, -⟩ := hF
  obtain ⟨⟨hK, ha⟩, hin⟩ := av_iff.mp hv
  refine hk.pure fun H locs cells slots ls' hP kk => ?_
  have hH := hP.2.2.2.2.1
  exact W.lald (v := .long (M.2.2.2 a i.toNatClampNeg)) hx hb (hH.long ha hK) (ty_at hC 1 rfl _ _) (fun q => by cases q) (vp_bd hin) (vp_rd hin) rfl rfl hd kk
theorem Gx.aald (hF : Fx p l e R s m args below meth c Q D cT A d mid res cF sF) {i : Int32} {a : Nat} (hd : decode (cB mid) pc = .ok (.aaload, 1)) (hv : (Nat.blt 24 (K0 a) && Nat.blt (K0 a) 28 && Nat.blt a M.1 && ib (Z0 a) i) = true) (hk : Gx p l e R s m args below meth c Q D cT A mid res cF sF (pc + 1, ls, rv (M.2.1 a i.toNatClampNeg) :: r, M)) : Gx p l e R s m args below meth c Q D cT A mid res cF sF (pc, ls, .int i :: .ref a :: r, M) := by
  obtain ⟨hx, hb, -, -, -, hC, -⟩ := hF
  simp only [Bool.and_eq_true, blt_iff, ib_iff] at hv
  obtain ⟨⟨⟨h1, h2⟩, ha⟩, hin⟩ := hv
  refine hk.pure fun H locs cells slots ls' hP kk => ?_
  have hH := hP.2.2.2.2.1
  rw [List.map_cons, ← rf_cv] at kk
  have hK : K0 a = 25 ∨ K0 a = 26 ∨ K0 a = 27 := by omega
  rcases hK with hK | hK | hK
  · exact W.aald (v := va_rf ((M.2.1 a i.toNatClampNeg).map (A.1 + ·))) (ty := .object "FrameRents$Sheet") hx hb (hH.ref ha ⟨h1, h2⟩) (by rw [hK]; exact ty_at hC 5 rfl _ _) rfl (fun q => by cases q) (vp_bd hin) (vp_rd hin) rfl rfl hd kk
  · exact W.aald (v := va_rf ((M.2.1 a i.toNatClampNeg).map (A.1 + ·))) (ty := .array .int) hx hb (hH.ref ha ⟨h1, h2⟩) (by rw [hK]; exact ty_at hC 6 rfl _ _) rfl (fun q => by cases q) (vp_bd hin) (vp_rd hin) rfl rfl hd kk
  · exact W.aald (v := va_rf ((M.2.1 a i.toNatClampNeg).map (A.1 + ·))) (ty := .array .long) hx hb (hH.ref ha ⟨h1, h2⟩) (by rw [hK]; exact ty_at hC 7 rfl _ _) rfl (fun q => by cases q) (vp_bd hin) (vp_rd hin) rfl rfl hd kk
theorem Gx.iast (hF : Fx p l e R s m args below meth c Q D cT A d mid res cF sF) {i x : Int32} {a : Nat} (hd : decode (cB mid) pc = .ok (.iastore, 1)) (hv : av M.1 20 a i = true) (hk : Gx p l e R s m args below meth c Q D cT A mid res cF sF (pc + 1, ls, r, sI M a i.toNatClampNeg x)) : Gx p l e R s m args below meth c Q D cT A mid res cF sF (pc, ls, .int x :: .int i :: .ref a :: r, M) := by
  obtain ⟨⟨hK, ha⟩, hin⟩ := av_iff.mp hv
  refine Gx.put hF (k := a) hk rfl fun H locs cells slots ls' hH kk => ?_
  obtain ⟨hx, hb, -, -, -, hC, -⟩ := hF
  refine W.iast hx hb (hH.int ha (by omega)) (by rw [hK]; exact ty_at hC 0 rfl _ _) (fun q => by cases q) (vp_bd hin) rfl rfl hd fun H1 he z oq => ?_
  exact kk H1 _ z oq (hH.putI ha (by omega) z oq he)
theorem Gx.cast (hF : Fx p l e R s m args below meth c Q D cT A d mid res cF sF) {i x : Int32} {a : Nat} (hd : decode (cB mid) pc = .ok (.castore, 1)) (hv : av M.1 23 a i = true) (hk : Gx p l e R s m args below meth c Q D cT A mid res cF sF (pc + 1, ls, r, sI M a i.toNatClampNeg (i2c' x))) : Gx p l e R s m args below meth c Q D cT A mid res cF sF (pc, ls, .int x :: .int i :: .ref a :: r, M) := by
  obtain ⟨⟨hK, ha⟩, hin⟩ := av_iff.mp hv
  refine Gx.put hF (k := a) hk rfl fun H locs cells slots ls' hH kk => ?_
  obtain ⟨hx, hb, -, -, -, hC, -⟩ := hF
  refine W.cast hx hb (hH.int ha (by omega)) (by rw [hK]; exact ty_at hC 3 rfl _ _) (fun q => by cases q) (vp_bd hin) rfl rfl hd fun H1 he z oq => ?_
  exact kk H1 _ z oq (hH.putI ha (by omega) z oq he)
theorem Gx.bast (hF : Fx p l e R s m args below meth c Q D cT A d mid res cF sF) {i x : Int32} {a : Nat} (hd : decode (cB mid) pc = .ok (.bastore, 1)) (hv : (kc M.1 a (bif Nat.beq (K0 a) 24 then 24 else 22) && ib (Z0 a) i) = true) (hk : Gx p l e R s m args below meth c Q D cT A mid res cF sF (pc + 1, ls, r, sI M a i.toNatClampNeg (bif Nat.beq (K0 a) 24 then x &&& 1 else x.toInt8.toInt32))) : Gx p l e R s m args below meth c Q D cT A mid res cF sF (pc, ls, .int x :: .int i :: .ref a :: r, M) := by
  rw [Bool.and_eq_true, kc_iff, ib_iff] at hv
  obtain ⟨⟨hK, ha⟩, hin⟩ := hv
  refine Gx.put hF (k := a) hk rfl fun H locs cells slots ls' hH kk => ?_
  obtain ⟨hx, hb, -, -, -, hC, -⟩ := hF
  cases hb4 : Nat.beq (K0 a) 24
  · rw [hb4] at hK
    have hK : K0 a = 22 := hK
    rw [hb4] at kk
    refine W.bast hx hb (hH.int ha (by omega)) (by rw [hK]; exact ty_at hC 2 rfl _ _) (fun q => by cases q) (vp_bd hin) rfl rfl hd fun H1 he z oq => ?_
    exact kk H1 _ z oq (hH.putI ha (by omega) z oq he)
  · have hK : K0 a = 24 := Nat.eq_of_beq_eq_true hb4
    rw [hb4] at kk
    refine W.zast hx hb (hH.int ha (by omega)) (by rw [hK]; exact ty_at hC 4 rfl _ _) (fun q => by cases q) (vp_bd hin) rfl rfl hd fun H1 he z oq => ?_
    exact kk H1 _ z oq (hH.putI ha (by omega) z oq he)
theorem Gx.last (hF : Fx p l e R s m args below meth c Q D cT A d mid res cF sF) {i : Int32} {x : Int64} {a : Nat} (hd : decode (cB mid) pc = .ok (.lastore, 1)) (hv : av M.1 21 a i = true) (hk : Gx p l e R s m args below meth c Q D cT A mid res cF sF (pc + 1, ls, r, sL M a i.toNatClampNeg x)) : Gx p l e R s m args below meth c Q D cT A mid res cF sF (pc, ls, .long x :: .int i :: .ref a :: r, M) := by
  obtain ⟨⟨hK, ha⟩, hin⟩ := av_iff.mp hv
  refine Gx.put hF (k := a) hk rfl fun H locs cells slots ls' hH kk => ?_
  obtain ⟨hx, hb, -, -, -, hC, -⟩ := hF
  refine W.last hx hb (hH.long ha hK) (ty_at hC 1 rfl _ _) (fun q => by cases q) (vp_bd hin) rfl rfl hd fun H1 he z oq => ?_
  exact kk H1 _ z oq (hH.putL ha hK z oq he)
theorem Gx.aast (hF : Fx p l e R s m args below meth c Q D cT A d mid res cF sF) {i : Int32} {a b : Nat} (hd : decode (cB mid) pc = .ok (.aastore, 1)) (hv : (av M.1 25 a i && kc M.1 b 8) = true) (hk : Gx p l e R s m args below meth c Q D cT A mid res cF sF (pc + 1, ls, r, sR M a i.toNatClampNeg (some b))) : Gx p l e R s m args below meth c Q D cT A mid res cF sF (pc, ls, .ref b :: .int i :: .ref a :: r, M) := by
  rw [Bool.and_eq_true, av_iff, kc_iff] at hv
  obtain ⟨⟨⟨hK, ha⟩, hin⟩, hKb, hbn⟩ := hv
  refine Gx.put hF (k := a) hk rfl fun H locs cells slots ls' hH kk => ?_
  obtain ⟨hx, hb, -, -, -, hC, -⟩ := hF
  obtain ⟨r', hr', cellV, g1, g2, g3, -⟩ := hH.2.1 b _ (show (wM A cT M)[b]? = some (A.1 + b, .inr (8, (List.range (nf 8)).map (fval A M 8 b))) by rw [wM_at hbn, cE_obj (by omega), hKb])
  have hcls := (hC.2.1.1 8 _ (cl13_at (by omega))).2
  obtain ⟨kA, comp, k1, k2, k3, -⟩ := (hC.2.1.2 5 _ rfl).2
  have hcomp : comp = D.1 8 := Option.some.inj (k3.symm.trans hcls.1)
  subst hcomp
  obtain ⟨kC, hkC, -⟩ := hcls.2
  have h0 : ¬ i < 0 := fun q => hin (Or.inl q)
  have hlt : i.toNatClampNeg < Z0 a := Nat.not_le.mp fun q => hin (Or.inr q)
  refine W.aast hx hb (hH.ref ha (by omega)) (fun q h => by cases h) (fun h => by cases h) (by rw [hK]; exact k1) k2 rfl hkC ⟨h0, by rw [arrV_size]; exact hlt⟩ g1 (fun q h => by rw [g3] at h; cases h) (by rw [g2]; exact hkC) (by rw [g2]; exact va_assign hcls) rfl rfl hd fun H1 he z oq => ?_
  exact kk H1 _ z oq (hH.putR ha (by omega) z oq he)
theorem Gx.alen (hF : Fx p l e R s m args below meth c Q D cT A d mid res cF sF) {a : Nat} (hd : decode (cB mid) pc = .ok (.arraylength, 1)) (hv : (Nat.blt 19 (K0 a) && Nat.blt (K0 a) 28 && Nat.blt a M.1) = true) (hk : Gx p l e R s m args below meth c Q D cT A mid res cF sF (pc + 1, ls, .int (Int32.ofNat (Z0 a)) :: r, M)) : Gx p l e R s m args below meth c Q D cT A mid res cF sF (pc, ls, .ref a :: r, M) := by
  obtain ⟨hx, hb, -, -, -, hC, -⟩ := hF
  simp only [Bool.and_eq_true, blt_iff] at hv
  obtain ⟨⟨h1, h2⟩, ha⟩ := hv
  refine hk.pure fun H locs cells slots ls' hP kk => ?_
  have hH := hP.2.2.2.2.1
  have hK : K0 a = 20 ∨ K0 a = 21 ∨ K0 a = 22 ∨ K0 a = 23 ∨ K0 a = 24 ∨ K0 a = 25 ∨ K0 a = 26 ∨ K0 a = 27 := by omega
  rcases hK with hK | hK | hK | hK | hK | hK | hK | hK
  · exact W.alen (n := Int32.ofNat (Z0 a)) hx hb (hH.int ha (by omega)) (by rw [hK]; exact ty_at hC 0 rfl _ _) (by rw [arrV_size] <;> rfl) rfl rfl hd kk
  · exact W.alen (n := Int32.ofNat (Z0 a)) hx hb (hH.long ha hK) (ty_at hC 1 rfl _ _) (by rw [arrV_size] <;> rfl) rfl rfl hd kk
  · exact W.alen (n := Int32.ofNat (Z0 a)) hx hb (hH.int ha (by omega)) (by rw [hK]; exact ty_at hC 2 rfl _ _) (by rw [arrV_size] <;> rfl) rfl rfl hd kk
  · exact W.alen (n := Int32.ofNat (Z0 a)) hx hb (hH.int ha (by omega)) (by rw [hK]; exact ty_at hC 3 rfl _ _) (by rw [arrV_size] <;> rfl) rfl rfl hd kk
  · exact W.alen (n := Int32.ofNat (Z0 a)) hx hb (hH.int ha (by omega)) (by rw [hK]; exact ty_at hC 4 rfl _ _) (by rw [arrV_size] <;> rfl) rfl rfl hd kk
  · exact W.alen (n := Int32.ofNat (Z0 a)) hx hb (hH.ref ha (by omega)) (by rw [hK]; exact ty_at hC 5 rfl _ _) (by rw [arrV_size] <;> rfl) rfl rfl hd kk
  · exact W.alen (n := Int32.ofNat (Z0 a)) hx hb (hH.ref ha (by omega)) (by rw [hK]; exact ty_at hC 6 rfl _ _) (by rw [arrV_size] <;> rfl) rfl rfl hd kk
  · exact W.alen (n := Int32.ofNat (Z0 a)) hx hb (hH.ref ha (by omega)) (by rw [hK]; exact ty_at hC 7 rfl _ _) (by rw [arrV_size] <;> rfl) rfl rfl hd kk
/-- the script's places and its length -/
theorem Gx.sld (hF : Fx p l e R s m args below meth c Q D cT A d mid res cF sF) {i : Int32} (hd : decode (cB mid) pc = .ok (.iaload, 1)) (hv : ib (M.2.2.1 9998 0).toNatClampNeg i = true) (hk : Gx p l e R s m args below meth c Q D cT A mid res cF sF (pc + 1, ls, .int (M.2.2.1 9999 i.toNatClampNeg) :: r, M)) : Gx p l e R s m args below meth c Q D cT A mid res cF sF (pc, ls, .int i :: .retAddr 1 :: r, M) := by
  obtain ⟨hx, hb, -⟩ := hF
  have hin := ib_iff.mp hv
  refine hk.pure fun H locs cells slots ls' hP kk => ?_
  obtain ⟨-, -, scr, h1, h2, h3, h4, h5⟩ := hP.2.2.2.2.1.2.2.1
  have hlt : i.toNatClampNeg < (M.2.2.1 9998 0).toNatClampNeg := Nat.not_le.mp fun q => hin (Or.inr q)
  exact W.iald (v := .int (M.2.2.1 9999 i.toNatClampNeg)) hx hb h1 h2 h3 (by rw [h4]; exact hin) (h5 _ hlt) rfl rfl hd kk
theorem Gx.slen (hF : Fx p l e R s m args below meth c Q D cT A d mid res cF sF) (hd : decode (cB mid) pc = .ok (.arraylength, 1)) (hk : Gx p l e R s m args below meth c Q D cT A mid res cF sF (pc + 1, ls, .int (M.2.2.1 9998 0) :: r, M)) : Gx p l e R s m args below meth c Q D cT A mid res cF sF (pc, ls, .retAddr 1 :: r, M) := by
  obtain ⟨hx, hb, -⟩ := hF
  refine hk.pure fun H locs cells slots ls' hP kk => ?_
  obtain ⟨-, h0, scr, h1, h2, h3, h4, h5⟩ := hP.2.2.2.2.1.2.2.1
  exact W.alen (n := M.2.2.1 9998 0) hx hb h1 h2 (by rw [h4]; exact h0) rfl rfl hd kk
end
