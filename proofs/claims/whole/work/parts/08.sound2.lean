/-! the judgement on cells by numbers -/
/-- the words that go on to hold -/
def nstW : Cond → Bool
  | .fieldLinkNest .. => true
  | .methodLinkNest .. => true
  | _ => false
def gw (w : Cond) : Bool := goodWord w || nstW w
/-- what a heap holds of the text's cells: nothing but what lies below ours -/
def Sy (A : Nat × Nat × Nat) (aV : Nat) (U : State) (H : Heap) : Prop := aV < A.1 ∧ va_O "java/lang/String" A.2.2 (fun q => A.1 ≤ q) U H ∧ va_OF "java/lang/String" "coder" "B" (.int 0) A.2.2 (fun q => A.1 ≤ q) U H ∧ va_OF "java/lang/String" "value" "[B" (.ref aV) A.2.2 (fun q => A.1 ≤ q) U H ∧ va_T .byte aV 10 (fun j => .int (([103, 100, 115, 110, 121, 102, 104, 105, 111, 119] : List Int32).getD j 0)) (fun q => A.1 ≤ q) U H ∧ va_Z "java/lang/String" "COMPACT_STRINGS" "Z" (.int 1) (fun q => A.1 ≤ q) U H
def Sx (A : Nat × Nat × Nat) (U : State) (H : Heap) : Prop := A.2.2 < A.1 ∧ vk_R RX7 137 "gdsnyfhiow" A.2.2 U ∧ ∃ aV : Nat, Sy A aV U H
def Xx (A : Nat × Nat × Nat) (M : GM) (U : State) (H : Heap) : Prop := A.2.1 < A.1 ∧ Int32.ofNat (M.2.2.1 9998 0).toNatClampNeg = M.2.2.1 9998 0 ∧ va_X A.2.1 (M.2.2.1 9998 0).toNatClampNeg (M.2.2.1 9999) U H
/-- what the tables say -/
def Cx (D : va_G) (cT : Nat → ClassId) (U : State) : Prop := (∀ w ∈ lw_tbl, gw w = true → ∀ a : Array Value, w.before a U = true) ∧ va_K D cl13 (tysL cT) U ∧ (∀ t ∈ [FieldType.object "FrameRents$Sheet", FieldType.array .int, FieldType.array .long], (Cond.arrayOver t).before #[] U = true)
/-- the heap holds the cells -/
def HR (D : va_G) (cT : Nat → ClassId) (A : Nat × Nat × Nat) (M : GM) (U : State) (H : Heap) : Prop := H.size = A.1 + M.1 ∧ va_P D cl13 (wM A cT M) H ∧ Xx A M U H ∧ Sx A U H
def SZ (n : Nat) : Nat := ((List.range n).map Z0).sum
/-- a final field is put in its class' constructor alone -/
def okP (mid : Nat) (e : EN) : Bool := match e.2.1 with
  | .putfield i => !((TC (lkf (lnO (clM mid)) i).2.1 (lkf (lnO (clM mid)) i).2.2.1).2.2.2) || (Nat.beq (kdM mid) 2 && Nat.beq (clM mid) (lkf (lnO (clM mid)) i).2.1 && Nat.beq (lkf (lnO (clM mid)) i).1 0)
  | _ => true
/-- the method's code and links are as listed -/
def OKM (mid : Nat) : Prop := (cdO mid).all (okE (cB mid)) = true ∧ (lnO (clM mid)).all (okL (clM mid)) = true ∧ (cdO mid).all (okP mid) = true
/-- which instruction returns -/
def rIns (rt : Option FieldType) (ins : Instr) : Prop := match rt with
  | none => ins = .return_
  | some .long => ins = .lreturn
  | some (.object _) => ins = .areturn
  | some (.array _) => ins = .areturn
  | some _ => ins = .ireturn
/-- an answer of the method's type -/
def rOK (rt : Option FieldType) (v : Option Value) : Bool := match rt, v with
  | none, none => true
  | some .long, some (.long _) => true
  | some (.object _), some (.ref _) => true
  | some (.object _), some .null => true
  | some (.array _), some (.ref _) => true
  | some .int, some (.int _) => true
  | some .boolean, some (.int x) => decide (x = 0) || decide (x = 1)
  | some .char, some (.int x) => decide (i2c' x = x)
  | _, _ => false
section
variable (p : Program) (l : Launch) (e : Env) (R : Room) (s : State) (m : MethodId) (args : Array Value) (below : List Frame) (meth : Method) (c : Code) (Q : State → Prop) (D : va_G) (cT : Nat → ClassId) (A : Nat × Nat × Nat) (d mid : Nat) (res : Option Value × GM) (cF sF : Nat)
/-- what stays the same in a method's run -/
def Fx : Prop := p.tables.exec = Jvm.exec ∧ c.code = cB mid ∧ c.maxLocals = mxL mid ∧ s.vm.findClass (RC (clM mid)) = some m.cls ∧ (kdM mid = 2 → meth.name = "<init>") ∧ Cx D cT s ∧ d + 8 ≤ R.frames ∧ 41 * d + 300 ≤ R.locals ∧ cF ≤ R.cells ∧ sF ≤ R.slots ∧ A.1 ≤ s.heap.size ∧ OKM mid ∧ 1 ≤ d
  ∧ ∀ (H1 : Heap) (locs1 : List Loc) (pc : Nat) (ls2 : Array Slot) (ins : Instr), decode (cB mid) pc = .ok (ins, 1) → rIns (rtM mid) ins → rOK (rtM mid) res.1 = true → va_S (fun q => A.1 ≤ q) s.heap H1 locs1 → HR D cT A res.2 s H1 → W p l e R s m args below meth c H1 locs1 cF sF Q (F0 m pc ls2 (res.1.toList.map (cv A)))
/-- what holds of a point of the run -/
def Px (f : FS) (H : Heap) (locs : List Loc) (cells slots : Nat) (ls' : Array Slot) : Prop := f.2.2.2.1 ≤ res.2.1 ∧ cells + (res.2.1 - f.2.2.2.1) = cF ∧ slots + (SZ res.2.1 - SZ f.2.2.2.1) = sF ∧ va_S (fun q => A.1 ≤ q) s.heap H locs ∧ HR D cT A f.2.2.2 s H ∧ LR A (mxL mid) f.2.1 ls'
def Gx (f : FS) : Prop := ∀ (H : Heap) (locs : List Loc) (cells slots : Nat) (ls' : Array Slot), Px s D cT A mid res cF sF f H locs cells slots ls' → W p l e R s m args below meth c H locs cells slots Q (F0 m f.1 ls' (f.2.2.1.map (cv A)))
end
/-- from a point the method comes to its end with this answer and these cells -/
def Rc (d mid : Nat) (f : FS) (res : Option Value × GM) : Prop := f.2.2.2.1 ≤ res.2.1 ∧ ∀ (p : Program) (l : Launch) (e : Env) (R : Room) (s : State) (m : MethodId) (args : Array Value) (below : List Frame) (meth : Method) (c : Code) (Q : State → Prop) (D : va_G) (cT : Nat → ClassId) (A : Nat × Nat × Nat) (cF sF : Nat),
  Fx p l e R s m args below meth c Q D cT A d mid res cF sF → Gx p l e R s m args below meth c Q D cT A mid res cF sF f
theorem lkf_mem : ∀ {l : List (Nat × LK)} {i : Nat}, ¬ (lkf l i).1 = 99 → (i, lkf l i) ∈ l
  | [], i, h => absurd rfl h
  | q :: r, i, h => by
    unfold lkf at h ⊢
    cases hq : Nat.beq q.1 i
    · rw [hq] at h
      exact List.mem_cons_of_mem _ (lkf_mem h)
    · have : q.1 = i := Nat.eq_of_beq_eq_true hq
      subst this
      exact List.mem_cons_self
theorem ftc_mem : ∀ {l : List EN} {pc : Nat}, ¬ (ftc l pc).2.1 = .nop → ftc l pc ∈ l ∧ (ftc l pc).1 = pc
  | [], pc, h => absurd rfl h
  | q :: r, pc, h => by
    unfold ftc at h ⊢
    cases hq : Nat.beq q.1 pc
    · rw [hq] at h
      exact ⟨List.mem_cons_of_mem _ (ftc_mem h).1, (ftc_mem h).2⟩
    · exact ⟨List.mem_cons_self, Nat.eq_of_beq_eq_true hq⟩
section
variable {p : Program} {l : Launch} {e : Env} {R : Room} {s : State} {m : MethodId} {args : Array Value} {below : List Frame} {meth : Method} {c : Code} {Q : State → Prop} {D : va_G} {cT : Nat → ClassId} {A : Nat × Nat × Nat} {d mid : Nat} {res : Option Value × GM} {cF sF : Nat}
variable {pc pc' : Nat} {ls lsx st st' : List Value} {M : GM}
/-- a step that moves neither locals nor cells -/
theorem Gx.pure (hk : Gx p l e R s m args below meth c Q D cT A mid res cF sF (pc', ls, st', M))
    (h : ∀ (H : Heap) (locs : List Loc) (cells slots : Nat) (ls' : Array Slot), Px s D cT A mid res cF sF (pc, ls, st, M) H locs cells slots ls' → W p l e R s m args below meth c H locs cells slots Q (F0 m pc' ls' (st'.map (cv A))) → W p l e R s m args below meth c H locs cells slots Q (F0 m pc ls' (st.map (cv A)))) :
    Gx p l e R s m args below meth c Q D cT A mid res cF sF (pc, ls, st, M) := fun H locs cells slots ls' hP => h H locs cells slots ls' hP (hk H locs cells slots ls' hP)
/-- a step that moves the locals alone -/
theorem Gx.loc (hk : Gx p l e R s m args below meth c Q D cT A mid res cF sF (pc', lsx, st', M))
    (h : ∀ (H : Heap) (locs : List Loc) (cells slots : Nat) (ls' : Array Slot), LR A (mxL mid) ls ls' → (∀ l2 : Array Slot, LR A (mxL mid) lsx l2 → W p l e R s m args below meth c H locs cells slots Q (F0 m pc' l2 (st'.map (cv A)))) → W p l e R s m args below meth c H locs cells slots Q (F0 m pc ls' (st.map (cv A)))) :
    Gx p l e R s m args below meth c Q D cT A mid res cF sF (pc, ls, st, M) := fun H locs cells slots ls' hP => by
  obtain ⟨h1, h2, h3, h4, h5, h6⟩ := hP
  exact h H locs cells slots ls' h6 fun l2 hl => hk H locs cells slots l2 ⟨h1, h2, h3, h4, h5, hl⟩
theorem okE_of (hO : OKM mid) {en : EN} (h : en ∈ cdO mid) : decode (cB mid) en.1 = .ok (en.2.1, en.2.2.1) ∧ okI en = true := by
  have h1 := List.all_eq_true.mp hO.1 _ h
  simp only [okE, Bool.and_eq_true, decide_eq_true_eq] at h1
  exact h1
theorem okL_of (hO : OKM mid) {i : Nat} (h : ¬ (lkf (lnO (clM mid)) i).1 = 99) : okL (clM mid) (i, lkf (lnO (clM mid)) i) = true := List.all_eq_true.mp hO.2.1 _ (lkf_mem h)
theorem wAt_of {U : State} {k : Nat} {w : Cond} (hC : Cx D cT U) (hw : wAt k w = true) (hg : gw w = true) (a : Array Value) : w.before a U = true :=
  hC.1 w (List.mem_of_getElem? (of_decide_eq_true hw)) hg a
end
