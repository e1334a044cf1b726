/-! what goes on to hold -/
theorem Xx.moved {A : Nat × Nat × Nat} {M : GM} {u U : State} {H : Heap} (hvm : u.vm.Alike U.vm) (h : Xx A M u H) : Xx A M U H := ⟨h.1, h.2.1, h.2.2.moved hvm⟩
theorem HR.moved {D : va_G} {cT : Nat → ClassId} {A : Nat × Nat × Nat} {M : GM} {u U : State} {H : Heap} (hW : u.WarmedH U.vm) (h : HR D cT A M u H) : HR D cT A M U H := ⟨h.1, h.2.1, h.2.2.1.moved hW.alike, h.2.2.2.moved hW⟩
/-! the contract of a method -/
def RMc (d mc ms : Nat) : Room := { frames := d + 8, cells := mc, slots := ms, locals := 41 * d + 300 }
def Pcx (D : va_G) (cT : Nat → ClassId) (A : Nat × Nat × Nat) (M : GM) (av : List Value) : Array Value → State → Prop := fun v U => v = (av.map (cv A)).toArray ∧ Cx D cT U ∧ HR D cT A M U U.heap
def Qcx (D : va_G) (cT : Nat → ClassId) (A : Nat × Nat × Nat) (res : Option Value × GM) : Array Value → State → Outcome → State → Prop := fun _ st o t => o = .returned (res.1.map (cv A)) ∧ HR D cT A res.2 t t.heap ∧ st.heap.size ≤ t.heap.size ∧ ∀ q : Nat, q < A.1 → t.heap[q]? = st.heap[q]?
def Ex (d mid : Nat) (av : List Value) (M : GM) (res : Option Value × GM) : Prop := M.1 ≤ res.2.1 ∧ ∀ (l : Launch) (D : va_G) (cT : Nat → ClassId) (A : Nat × Nat × Nat),
  Met l (yM mid) [Cond.code (yM mid) (cB mid) (mxL mid) (rtM mid)] (RMc d (res.2.1 - M.1) (SZ res.2.1 - SZ M.1)) (Pcx D cT A M av) (Qcx D cT A res) (res.2.1 - M.1) (SZ res.2.1 - SZ M.1) (fun q => A.1 ≤ q)
theorem Pcx_blind (D : va_G) (cT : Nat → ClassId) (A : Nat × Nat × Nat) (M : GM) (av : List Value) : FrameBlind (Pcx D cT A M av) := fun a U g mk h =>
  ⟨h.1, h.2.1.moved (u := U) (U := U.calling g mk a) (State.WarmedH.refl U), h.2.2.moved (u := U) (U := U.calling g mk a) (State.WarmedH.refl U)⟩
/-- the locals at a method's entry -/
def enS : List Value → List Value
  | [] => []
  | v :: r => v :: (bif cat2 v then UU :: enS r else enS r)
def enL (n : Nat) (av : List Value) : List Value := enS av ++ List.replicate (n - (enS av).length) UU
theorem lget_app : ∀ (a b : List Value) (i : Nat), lget (a ++ b) i = if i < a.length then lget a i else lget b (i - a.length)
  | [], b, i => by simp
  | v :: r, b, 0 => by simp [lget]
  | v :: r, b, i + 1 => by
    show lget (r ++ b) i = _
    rw [lget_app r b i]
    simp only [List.length_cons]
    by_cases h : i < r.length
    · rw [if_pos h, if_pos (by omega)]; rfl
    · rw [if_neg h, if_neg (by omega)]
      congr 1
      omega
theorem lget_rep (k i : Nat) : lget (List.replicate k UU) i = UU := by
  induction k generalizing i with
  | zero => rfl
  | succ k ih =>
    cases i with
    | zero => rfl
    | succ i => exact ih i
theorem enS_len (A : Nat × Nat × Nat) : ∀ (av : List Value), (enS av).length = (lg_sl (av.map (cv A))).length
  | [] => rfl
  | v :: r => by
    have ih := enS_len A r
    simp only [List.map_cons, lg_sl, List.flatMap_cons, List.length_append, enS, List.length_cons] at ih ⊢
    rw [cv_cat]
    cases hc : cat2 v
    · rw [if_neg (by rw [← cat2_iff, hc]; decide)]
      simp only [cond_false, List.length_singleton, ih]
      omega
    · rw [if_pos (cat2_iff.mp hc)]
      simp only [cond_true, List.length_cons, List.length_nil, ih]
      omega
theorem enS_args (A : Nat × Nat × Nat) : ∀ (av : List Value) (i k : Nat) (v : Value), lget (enS av) i = v → v ≠ UU → (k + i, cv A v) ∈ lv_args k (av.map (cv A))
  | [], i, k, v, h, hv => absurd h.symm hv
  | w :: r, i, k, v, h, hv => by
    simp only [enS] at h
    simp only [List.map_cons, lv_args, cv_cat]
    cases i with
    | zero =>
      have : w = v := h
      subst this
      exact List.mem_cons_self
    | succ i =>
      refine List.mem_cons_of_mem _ ?_
      cases hc : cat2 w
      · rw [hc] at h
        have h1 : w.category = 1 := cat2_f (by rw [hc]; rfl)
        rw [h1]
        have := enS_args A r i (k + 1) v h hv
        rwa [show k + (i + 1) = k + 1 + i by omega]
      · rw [hc] at h
        rw [cat2_iff.mp hc]
        cases i with
        | zero => exact absurd h.symm hv
        | succ i =>
          have := enS_args A r i (k + 2) v h hv
          rwa [show k + (i + 1 + 1) = k + 2 + i by omega]
theorem LR_entry (A : Nat × Nat × Nat) {n : Nat} (av : List Value) (h : (enS av).length ≤ n) : LR A n (enL n av) ((lg_sl (av.map (cv A)) ++ List.replicate (n - (lg_sl (av.map (cv A))).length) Slot.unset).toArray) := by
  have h1 := lv_entry (av.map (cv A)) (n := n) (by rw [← enS_len A]; exact h)
  refine ⟨by simp [enL]; omega, h1.1, h1.2.1, fun i v hi hv => ?_⟩
  unfold enL at hi
  rw [lget_app] at hi
  by_cases hl : i < (enS av).length
  · rw [if_pos hl] at hi
    have := h1.2.2 _ (enS_args A av i 0 v hi hv)
    rwa [Nat.zero_add] at this
  · rw [if_neg hl, lget_rep] at hi
    exact absurd hi.symm hv
section
variable {d mid : Nat} {pc : Nat} {ls ls2 st : List Value} {M M1 : GM} {res : Option Value × GM}
/-- what a method needs to be of -/
def OKm (mid : Nat) : Prop := OKM mid ∧ plainName (yM mid).cls = true ∧ (yM mid).cls = RC (clM mid) ∧ (kdM mid = 2 → (yM mid).name = "<init>")
theorem rOK_end {p : Program} {l : Launch} {e : Env} {R : Room} {s : State} {m : MethodId} {args : Array Value} {below : List Frame} {meth : Method} {c : Code} {A : Nat × Nat × Nat} {Qc : Array Value → State → Outcome → State → Prop} {free : Addr → Prop} {H : Heap} {locs : List Loc} {cells slots pc : Nat} {ls : Array Slot} {ins : Instr} {cc : ByteArray} {rt : Option FieldType} {v : Option Value}
    (hx : p.tables.exec = Jvm.exec) (hb : c.code = cc) (hr : meth.sig.returnType = rt) (hlk : meth.locks = false) (hd : decode cc pc = .ok (ins, 1)) (hi : rIns rt ins) (hv : rOK rt v = true)
    (hq : ∀ t : State, t.heap = H → s.WarmedH t.vm → Qc args s (.returned (v.map (cv A))) t) (hf : ∀ q ∈ locs, free q.base) : W p l e R s m args below meth c H locs cells slots (MQ below Qc args s cells slots free) (F0 m pc ls (v.toList.map (cv A))) := by
  unfold rOK at hv
  split at hv
  · have hi : ins = .return_ := hi
    subst hi
    exact W.vret hx hb hr hq hf hd hlk
  · have hi : ins = .lreturn := hi
    subst hi
    exact W.lret hx hb hr hq hf hd hlk
  · have hi : ins = .areturn := hi
    subst hi
    exact W.aret hx hb hr (Or.inl ⟨_, rfl⟩) (Or.inr ⟨_, rfl⟩) hq hf hd hlk
  · have hi : ins = .areturn := hi
    subst hi
    exact W.aret hx hb hr (Or.inl ⟨_, rfl⟩) (Or.inl rfl) hq hf hd hlk
  · have hi : ins = .areturn := hi
    subst hi
    exact W.aret hx hb hr (Or.inr ⟨_, rfl⟩) (Or.inr ⟨_, rfl⟩) hq hf hd hlk
  · have hi : ins = .ireturn := hi
    subst hi
    exact W.iret hx hb hr hq hf hd hlk
  · have hi : ins = .ireturn := hi
    subst hi
    simp only [Bool.or_eq_true, decide_eq_true_eq] at hv
    exact W.zret hx hb hr (by rcases hv with q | q <;> rw [q] <;> decide) hq hf hd hlk
  · have hi : ins = .ireturn := hi
    subst hi
    have hv := of_decide_eq_true hv
    refine W.zret hx hb hr ?_ hq hf hd hlk
    show Value.int _ = Value.int _
    exact congrArg Value.int hv
  · cases hv
theorem Ex.of (ho : OKm mid) (hd : 1 ≤ d) {av : List Value} (hlen : (enS av).length ≤ mxL mid) (h : Rc d mid (0, enL (mxL mid) av, [], M) res) : Ex d mid av M res := by
  refine ⟨h.1, fun l D cT A => ?_⟩
  obtain ⟨hO, hpl, hcls, hini⟩ := ho
  refine Met.ofW (cc := cB mid) (maxL := mxL mid) (ret := rtM mid) hpl rfl ?_
  intro p e s m args below meth c s₁ B hml hP
  obtain ⟨rfl, hC, hH⟩ := hP
  have hname := name_of_methodNamed B.named B.method
  have hown : s.vm.findClass (RC (clM mid)) = some m.cls := hcls ▸ findClass_of_methodNamed B.named
  rw [lg_entry_eq]
  refine h.2 p l e _ s m _ below meth c _ D cT A (res.2.1 - M.1) (SZ res.2.1 - SZ M.1) ?_ s.heap [] 0 0 _ ?_
  · refine ⟨B.exec, B.bytes, hml, hown, fun q => hname.1.trans (hini q), hC, Nat.le_refl _, Nat.le_refl _, Nat.le_refl _, Nat.le_refl _, by have := hH.1; omega, hO, hd, ?_⟩
    intro H1 locs1 pc ls2 ins hdc hri hrv hS hH1
    refine rOK_end B.exec B.bytes B.returns B.notSynchronized hdc hri hrv (fun t ht hW => ?_) hS.2.2
    refine ⟨rfl, ?_, ?_, ?_⟩
    · rw [ht]; exact hH1.moved hW
    · rw [ht]; exact hS.1
    · rw [ht]
      intro q hq
      exact hS.2.1 q (by have := hH.1; omega) (Nat.not_le.mpr hq)
  · exact ⟨h.1, by show 0 + (res.2.1 - M.1) = _; omega, by show 0 + (SZ res.2.1 - SZ M.1) = _; omega, va_S.rf, hH, LR_entry A av hlen⟩
/-! the rules -/
theorem Rc.go1 (hok : (stp (lnO (clM mid)) (ftc (cdO mid) pc) ls st M).1 = true) (hk : Rc d mid (stp (lnO (clM mid)) (ftc (cdO mid) pc) ls st M).2 res) : Rc d mid (pc, ls, st, M) res :=
  ⟨Nat.le_trans stp_mono hk.1, fun p l e R s m args below meth c Q D cT A cF sF hF => Gx.step hF hk.1 hok (hk.2 p l e R s m args below meth c Q D cT A cF sF hF)⟩
theorem Rc.go : ∀ (k : Nat) {f f2 : FS} {b : Bool}, stps (cdO mid) (lnO (clM mid)) k f = (b, f2) → b = true → Rc d mid f2 res → Rc d mid f res
  | 0, f, f2, b, h, hb, hk => by
    cases h
    exact hk
  | k + 1, (pc, ls, st, M), f2, b, h, hb, hk => by
    subst hb
    have h1 : ((stp (lnO (clM mid)) (ftc (cdO mid) pc) ls st M).1 && (stps (cdO mid) (lnO (clM mid)) k (stp (lnO (clM mid)) (ftc (cdO mid) pc) ls st M).2).1) = true := congrArg Prod.fst h
    have h2 : (stps (cdO mid) (lnO (clM mid)) k (stp (lnO (clM mid)) (ftc (cdO mid) pc) ls st M).2).2 = f2 := congrArg Prod.snd h
    rw [Bool.and_eq_true] at h1
    exact Rc.go1 h1.1 (Rc.go k (Prod.ext h1.2 h2) rfl hk)
/-- fewer locals known -/
def lle : List Value → List Value → Prop
  | [], [] => True
  | a :: r, b :: t => (a = UU ∨ a = b) ∧ lle r t
  | _, _ => False
theorem lle_len : ∀ {a b : List Value}, lle a b → a.length = b.length
  | [], [], _ => rfl
  | [], _ :: _, h => h.elim
  | _ :: _, [], h => h.elim
  | _ :: r, _ :: t, h => by simp [lle_len h.2]
theorem lle_get : ∀ {a b : List Value}, lle a b → ∀ i, lget a i = UU ∨ lget a i = lget b i
  | [], [], _, _ => Or.inl rfl
  | [], _ :: _, h, _ => h.elim
  | _ :: _, [], h, _ => h.elim
  | _ :: r, _ :: t, h, 0 => h.1
  | _ :: r, _ :: t, h, i + 1 => lle_get h.2 i
theorem Rc.less (h : lle ls2 ls) (hk : Rc d mid (pc, ls2, st, M) res) : Rc d mid (pc, ls, st, M) res :=
  ⟨hk.1, fun p l e R s m args below meth c Q D cT A cF sF hF H locs cells slots ls' hP => by
    refine hk.2 p l e R s m args below meth c Q D cT A cF sF hF H locs cells slots ls' ⟨hP.1, hP.2.1, hP.2.2.1, hP.2.2.2.1, hP.2.2.2.2.1, ?_⟩
    obtain ⟨a1, a2, a3, a4⟩ := hP.2.2.2.2.2
    refine ⟨(lle_len h).trans a1, a2, a3, fun i v hi hv => ?_⟩
    rcases lle_get h i with q | q
    · exact absurd (hi.symm.trans q) hv
    · exact a4 i v (q.symm.trans hi) hv⟩
def isRet (ins : Instr) (rt : Option FieldType) : Bool := match ins, rt with
  | .return_, none => true
  | .lreturn, some .long => true
  | .areturn, some (.object _) => true
  | .areturn, some (.array _) => true
  | .ireturn, some .int => true
  | .ireturn, some .boolean => true
  | .ireturn, some .char => true
  | _, _ => false
theorem Rc.ret {v : Option Value} (hi : isRet (ftc (cdO mid) pc).2.1 (rtM mid) = true) (hv : rOK (rtM mid) v = true) : Rc d mid (pc, ls, v.toList, M) (v, M) :=
  ⟨Nat.le_refl _, fun p l e R s m args below meth c Q D cT A cF sF hF H locs cells slots ls' hP => by
    obtain ⟨-, h2, h3, h4, h5, -⟩ := hP
    dsimp only at h2 h3 h5
    have e1 : cells = cF := by omega
    have e2 : slots = sF := by omega
    subst e1; subst e2
    have hO : OKM mid := hF.2.2.2.2.2.2.2.2.2.2.2.1
    have hmem := @ftc_mem (cdO mid) pc
    generalize ftc (cdO mid) pc = en at hi hmem
    obtain ⟨pc0, ins, len, tg, imm, sw⟩ := en
    dsimp only at hi hmem
    obtain ⟨hmm, hpc⟩ := hmem (fun q => by subst q; cases hi)
    subst hpc
    obtain ⟨hd, hI⟩ := okE_of hO hmm
    have hR : len = 1 ∧ rIns (rtM mid) ins := by
      revert hi
      generalize rtM mid = rt
      intro hi
      unfold isRet at hi
      split at hi <;> first | exact ⟨Nat.eq_of_beq_eq_true hI, rfl⟩ | cases hi
    obtain ⟨rfl, hri⟩ := hR
    exact hF.2.2.2.2.2.2.2.2.2.2.2.2.2 H locs pc0 ls' ins hd hri hv h4 h5⟩
end
